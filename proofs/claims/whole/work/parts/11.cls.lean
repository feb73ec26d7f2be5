/-! X7_humOf -/
abbrev wX7_humOf (cI cJ cS : ClassId) (a_o a_kinds a_others a_spaces : Nat) (z_times : Value) (v_stretchCount : Int32) (f_kinds : Nat → Int32) (f_others : Nat → Int32) (f_spaces : Nat → Int32) : va_W := [(a_o, .inr (6, [.ref a_kinds, .ref a_spaces, .ref a_others, z_times, .int v_stretchCount])), (a_kinds, .inl (cI, 16, .inl f_kinds)), (a_others, .inl (cI, 16, .inl f_others)), (a_spaces, .inl (cI, 16, .inl f_spaces))]
def F_X7_humOf (v_stretchCount : Int32) (f_kinds : Nat → Int32) (f_others : Nat → Int32) (f_spaces : Nat → Int32) (x1 : Int32) (x2 : Int32) (post : Int32 → Prop) : Prop := (F_X7_has v_stretchCount x1 (fun r2 => ((r2 = 0 → post 0) ∧ (¬ r2 = 0 → (F_X7_kindOf v_stretchCount f_kinds x1 (fun r10 => ((r10 = 3 → post 0) ∧ (¬ r10 = 3 → (F_X7_spacesTogether v_stretchCount f_kinds f_others f_spaces x1 (fun r21 => (F_X9_humBy r21 x2 (fun r25 => (F_X7_kindOf v_stretchCount f_kinds x1 (fun r31 => ((r31 = 2 → post (2 * r25)) ∧ (¬ r31 = 2 → post r25))))))))))))))))
set_option maxHeartbeats 4000000 in
set_option maxRecDepth 100000 in
theorem c_X7_humOf {l : Launch} {D : va_G} {cI cJ cS : ClassId} {ad adK : Nat → Nat} {a_o a_kinds a_others a_spaces : Nat} {z_times : Value} {v_stretchCount : Int32} {f_kinds : Nat → Int32} {f_others : Nat → Int32} {f_spaces : Nat → Int32} {x1 : Int32} {x2 : Int32} {post : Int32 → Prop} (h : F_X7_humOf v_stretchCount f_kinds f_others f_spaces x1 x2 post) : Met l yX7_humOf (Cond.code yX7_humOf cX7_humOf 4 (some (.int)) :: GW) (rmd 2 0 0) (PR D cI cJ cS ad adK [.ref a_o, .int x1, .int x2] (wX7_humOf cI cJ cS a_o a_kinds a_others a_spaces z_times v_stretchCount f_kinds f_others f_spaces)) (vp_Si post) 0 0 nof := by
  refine Met.ro (by decide) (Nat.le_of_ble_eq_true rfl) (fun p e s m args below meth c ls (S : CallFix p m c cX7_humOf 4 s args GW "RoadThatSings$Stretches") hE hT hP hS hr hlocks hl => ?_)
  have hx := S.1
  have hb := S.2.1
  have hl : lv_has ls 4 [(0, .ref a_o), (1, .int x1), (2, .int x2)] := hl
  unfold F_X7_humOf at h
  refine lv_aload_n hx hb dX7_humOf_0 rfl (lv_at hl 0 rfl) ?_
  refine lv_iload_n hx hb dX7_humOf_1 rfl (lv_at hl 1 rfl) ?_
  refine ro_i (roV S hE hT hS (c_X7_has h) lkX7_47 rfl ⟨(Nat.le_of_ble_eq_true rfl), (Nat.le_of_ble_eq_true rfl)⟩ (hP.sub [0] rfl) 0 rfl rfl hl.1 rfl (Nat.le_of_ble_eq_true rfl) dX7_humOf_2 ⟨(Nat.zero_le _), (Nat.zero_le _)⟩) (fun r2 h => ?_)
  refine lv_if_eq (tgt := 17) hx hb dX7_humOf_5 (by decide) (fun hc => ?_) (fun hc => ?_)
  · have h := h.1 hc
    refine lv_iconst (v := 0) hx hb dX7_humOf_17 (by decide) ?_
    exact W.iret hx hb hr (fun t ht _ => ⟨_, rfl, h, ht⟩) (fun _ hq => by cases hq) dX7_humOf_18
  have h := h.2 hc
  refine lv_aload_n hx hb dX7_humOf_8 rfl (lv_at hl 0 rfl) ?_
  refine lv_iload_n hx hb dX7_humOf_9 rfl (lv_at hl 1 rfl) ?_
  refine ro_i (roV S hE hT hS (c_X7_kindOf h) lkX7_54 rfl ⟨(Nat.le_of_ble_eq_true rfl), (Nat.le_of_ble_eq_true rfl)⟩ (hP.sub [0, 1] rfl) 0 rfl rfl hl.1 rfl (Nat.le_of_ble_eq_true rfl) dX7_humOf_10 ⟨(Nat.zero_le _), (Nat.zero_le _)⟩) (fun r10 h => ?_)
  refine lv_iconst (v := 3) hx hb dX7_humOf_13 (by decide) ?_
  refine lv_icmp_ne (tgt := 19) hx hb dX7_humOf_14 (by decide) (fun hc => ?_) (fun hc => ?_)
  · have h := h.2 hc
    refine lv_aload_n hx hb dX7_humOf_19 rfl (lv_at hl 0 rfl) ?_
    refine lv_iload_n hx hb dX7_humOf_20 rfl (lv_at hl 1 rfl) ?_
    refine ro_i (roV S hE hT hS (c_X7_spacesTogether h) lkX7_61 rfl ⟨(Nat.le_of_ble_eq_true rfl), (Nat.le_of_ble_eq_true rfl)⟩ (hP.sub [0, 1, 2, 3] rfl) 0 rfl rfl hl.1 rfl (Nat.le_of_ble_eq_true rfl) dX7_humOf_21 ⟨(Nat.zero_le _), (Nat.zero_le _)⟩) (fun r21 h => ?_)
    refine lv_iload_n hx hb dX7_humOf_24 rfl (lv_at hl 2 rfl) ?_
    refine ro_i (roSN S hE hT hS (c_X9_humBy h) lkX7_73 rfl ⟨(Nat.le_of_ble_eq_true rfl), (Nat.le_of_ble_eq_true rfl)⟩ (hP.sub [] rfl) hl.1 rfl (Nat.le_of_ble_eq_true rfl) dX7_humOf_25 ⟨(Nat.zero_le _), (Nat.zero_le _)⟩) (fun r25 h => ?_)
    refine lv_istore_n (lv' := [(3, .int r25), (0, .ref a_o), (1, .int x1), (2, .int x2)]) hx hb dX7_humOf_28 rfl hl (by decide) rfl (fun ls hl => ?_)
    refine lv_aload_n hx hb dX7_humOf_29 rfl (lv_at hl 1 rfl) ?_
    refine lv_iload_n hx hb dX7_humOf_30 rfl (lv_at hl 2 rfl) ?_
    refine ro_i (roV S hE hT hS (c_X7_kindOf h) lkX7_54 rfl ⟨(Nat.le_of_ble_eq_true rfl), (Nat.le_of_ble_eq_true rfl)⟩ (hP.sub [0, 1] rfl) 0 rfl rfl hl.1 rfl (Nat.le_of_ble_eq_true rfl) dX7_humOf_31 ⟨(Nat.zero_le _), (Nat.zero_le _)⟩) (fun r31 h => ?_)
    refine lv_iconst (v := 2) hx hb dX7_humOf_34 (by decide) ?_
    refine lv_icmp_ne (tgt := 44) hx hb dX7_humOf_35 (by decide) (fun hc => ?_) (fun hc => ?_)
    · have h := h.2 hc
      refine lv_iload_n hx hb dX7_humOf_44 rfl (lv_at hl 0 rfl) ?_
      exact W.iret hx hb hr (fun t ht _ => ⟨_, rfl, h, ht⟩) (fun _ hq => by cases hq) dX7_humOf_45
    have h := h.1 hc
    refine lv_iconst (v := 2) hx hb dX7_humOf_38 (by decide) ?_
    refine lv_iload_n hx hb dX7_humOf_39 rfl (lv_at hl 0 rfl) ?_
    refine lv_imul hx hb dX7_humOf_40 ?_
    refine lv_goto (tgt := 45) hx hb dX7_humOf_41 (by decide) ?_
    exact W.iret hx hb hr (fun t ht _ => ⟨_, rfl, h, ht⟩) (fun _ hq => by cases hq) dX7_humOf_45
  have h := h.1 hc
  refine lv_iconst (v := 0) hx hb dX7_humOf_17 (by decide) ?_
  exact W.iret hx hb hr (fun t ht _ => ⟨_, rfl, h, ht⟩) (fun _ hq => by cases hq) dX7_humOf_18
/-! X5_offOfNote -/
abbrev wX5_offOfNote (cI cJ cS : ClassId) (a_o a_cars a_cars_speeds a_stretches a_stretches_kinds a_stretches_others a_stretches_spaces a_tunes a_tunes_noteCounts a_tunes_pitches : Nat) (z_demands z_cars_bases z_cars_shares z_stretches_times z_tunes_beats : Value) (v_drawSeed : Int32) (v_cars_carCount : Int32) (f_cars_speeds : Nat → Int32) (v_stretches_stretchCount : Int32) (f_stretches_kinds : Nat → Int32) (f_stretches_others : Nat → Int32) (f_stretches_spaces : Nat → Int32) (v_tunes_tuneCount : Int32) (f_tunes_noteCounts : Nat → Int32) (f_tunes_pitches : Nat → Int32) : va_W := [(a_o, .inr (4, [.ref a_stretches, .ref a_cars, .ref a_tunes, z_demands, .int v_drawSeed])), (a_cars, .inr (1, [.ref a_cars_speeds, z_cars_bases, z_cars_shares, .int v_cars_carCount])), (a_cars_speeds, .inl (cI, 6, .inl f_cars_speeds)), (a_stretches, .inr (6, [.ref a_stretches_kinds, .ref a_stretches_spaces, .ref a_stretches_others, z_stretches_times, .int v_stretches_stretchCount])), (a_stretches_kinds, .inl (cI, 16, .inl f_stretches_kinds)), (a_stretches_others, .inl (cI, 16, .inl f_stretches_others)), (a_stretches_spaces, .inl (cI, 16, .inl f_stretches_spaces)), (a_tunes, .inr (7, [.ref a_tunes_pitches, z_tunes_beats, .ref a_tunes_noteCounts, .int v_tunes_tuneCount])), (a_tunes_noteCounts, .inl (cI, 6, .inl f_tunes_noteCounts)), (a_tunes_pitches, .inl (cI, 72, .inl f_tunes_pitches))]
def F_X5_offOfNote (v_cars_carCount : Int32) (f_cars_speeds : Nat → Int32) (v_stretches_stretchCount : Int32) (f_stretches_kinds : Nat → Int32) (f_stretches_others : Nat → Int32) (f_stretches_spaces : Nat → Int32) (v_tunes_tuneCount : Int32) (f_tunes_noteCounts : Nat → Int32) (f_tunes_pitches : Nat → Int32) (x1 : Int32) (x2 : Int32) (x3 : Int32) (post : Int32 → Prop) : Prop := (F_X7_has v_stretches_stretchCount x3 (fun r5 => ((r5 = 0 → post 999) ∧ (¬ r5 = 0 → (F_X1_speedOf v_cars_carCount f_cars_speeds x1 (fun r25 => (F_X7_humOf v_stretches_stretchCount f_stretches_kinds f_stretches_others f_stretches_spaces x3 r25 (fun r28 => (F_X8_pitchOf v_tunes_tuneCount f_tunes_noteCounts f_tunes_pitches x2 x3 (fun r41 => (F_X9_offBetween r28 r41 (fun r44 => post r44))))))))))))
set_option maxHeartbeats 4000000 in
set_option maxRecDepth 100000 in
theorem c_X5_offOfNote {l : Launch} {D : va_G} {cI cJ cS : ClassId} {ad adK : Nat → Nat} {a_o a_cars a_cars_speeds a_stretches a_stretches_kinds a_stretches_others a_stretches_spaces a_tunes a_tunes_noteCounts a_tunes_pitches : Nat} {z_demands z_cars_bases z_cars_shares z_stretches_times z_tunes_beats : Value} {v_drawSeed : Int32} {v_cars_carCount : Int32} {f_cars_speeds : Nat → Int32} {v_stretches_stretchCount : Int32} {f_stretches_kinds : Nat → Int32} {f_stretches_others : Nat → Int32} {f_stretches_spaces : Nat → Int32} {v_tunes_tuneCount : Int32} {f_tunes_noteCounts : Nat → Int32} {f_tunes_pitches : Nat → Int32} {x1 : Int32} {x2 : Int32} {x3 : Int32} {post : Int32 → Prop} (h : F_X5_offOfNote v_cars_carCount f_cars_speeds v_stretches_stretchCount f_stretches_kinds f_stretches_others f_stretches_spaces v_tunes_tuneCount f_tunes_noteCounts f_tunes_pitches x1 x2 x3 post) : Met l yX5_offOfNote (Cond.code yX5_offOfNote cX5_offOfNote 5 (some (.int)) :: GW) (rmd 3 0 0) (PR D cI cJ cS ad adK [.ref a_o, .int x1, .int x2, .int x3] (wX5_offOfNote cI cJ cS a_o a_cars a_cars_speeds a_stretches a_stretches_kinds a_stretches_others a_stretches_spaces a_tunes a_tunes_noteCounts a_tunes_pitches z_demands z_cars_bases z_cars_shares z_stretches_times z_tunes_beats v_drawSeed v_cars_carCount f_cars_speeds v_stretches_stretchCount f_stretches_kinds f_stretches_others f_stretches_spaces v_tunes_tuneCount f_tunes_noteCounts f_tunes_pitches)) (vp_Si post) 0 0 nof := by
  refine Met.ro (by decide) (Nat.le_of_ble_eq_true rfl) (fun p e s m args below meth c ls (S : CallFix p m c cX5_offOfNote 5 s args GW "RoadThatSings$Road") hE hT hP hS hr hlocks hl => ?_)
  have hx := S.1
  have hb := S.2.1
  have hl : lv_has ls 5 [(0, .ref a_o), (1, .int x1), (2, .int x2), (3, .int x3)] := hl
  unfold F_X5_offOfNote at h
  refine lv_aload_n hx hb dX5_offOfNote_0 rfl (lv_at hl 0 rfl) ?_
  refine gf S hE hP 0 rfl rfl inX5 (k := 0) (by decide) q93 rfl dX5_offOfNote_1 ?_
  refine lv_iload_n hx hb dX5_offOfNote_4 rfl (lv_at hl 3 rfl) ?_
  refine ro_i (roV S hE hT hS (c_X7_has h) lkX5_65 rfl ⟨(Nat.le_of_ble_eq_true rfl), (Nat.le_of_ble_eq_true rfl)⟩ (hP.sub [3] rfl) 0 rfl rfl hl.1 rfl (Nat.le_of_ble_eq_true rfl) dX5_offOfNote_5 ⟨(Nat.zero_le _), (Nat.zero_le _)⟩) (fun r5 h => ?_)
  refine lv_if_ne (tgt := 15) hx hb dX5_offOfNote_8 (by decide) (fun hc => ?_) (fun hc => ?_)
  · have h := h.2 hc
    refine lv_aload_n hx hb dX5_offOfNote_15 rfl (lv_at hl 0 rfl) ?_
    refine gf S hE hP 0 rfl rfl inX5 (k := 0) (by decide) q93 rfl dX5_offOfNote_16 ?_
    refine lv_iload_n hx hb dX5_offOfNote_19 rfl (lv_at hl 3 rfl) ?_
    refine lv_aload_n hx hb dX5_offOfNote_20 rfl (lv_at hl 0 rfl) ?_
    refine gf S hE hP 0 rfl rfl inX5 (k := 1) (by decide) q96 rfl dX5_offOfNote_21 ?_
    refine lv_iload_n hx hb dX5_offOfNote_24 rfl (lv_at hl 1 rfl) ?_
    refine ro_i (roV S hE hT hS (c_X1_speedOf h) lkX5_69 rfl ⟨(Nat.le_of_ble_eq_true rfl), (Nat.le_of_ble_eq_true rfl)⟩ (hP.sub [1, 2] rfl) 0 rfl rfl hl.1 rfl (Nat.le_of_ble_eq_true rfl) dX5_offOfNote_25 ⟨(Nat.zero_le _), (Nat.zero_le _)⟩) (fun r25 h => ?_)
    refine ro_i (roV S hE hT hS (c_X7_humOf h) lkX5_73 rfl ⟨(Nat.le_of_ble_eq_true rfl), (Nat.le_of_ble_eq_true rfl)⟩ (hP.sub [3, 4, 5, 6] rfl) 0 rfl rfl hl.1 rfl (Nat.le_of_ble_eq_true rfl) dX5_offOfNote_28 ⟨(Nat.zero_le _), (Nat.zero_le _)⟩) (fun r28 h => ?_)
    refine lv_istore (lv' := [(4, .int r28), (0, .ref a_o), (1, .int x1), (2, .int x2), (3, .int x3)]) hx hb dX5_offOfNote_31 hl (by decide) rfl (fun ls hl => ?_)
    refine lv_iload hx hb dX5_offOfNote_33 (lv_at hl 0 rfl) ?_
    refine lv_aload_n hx hb dX5_offOfNote_35 rfl (lv_at hl 1 rfl) ?_
    refine gf S hE hP 0 rfl rfl inX5 (k := 2) (by decide) q99 rfl dX5_offOfNote_36 ?_
    refine lv_iload_n hx hb dX5_offOfNote_39 rfl (lv_at hl 3 rfl) ?_
    refine lv_iload_n hx hb dX5_offOfNote_40 rfl (lv_at hl 4 rfl) ?_
    refine ro_i (roV S hE hT hS (c_X8_pitchOf h) lkX5_77 rfl ⟨(Nat.le_of_ble_eq_true rfl), (Nat.le_of_ble_eq_true rfl)⟩ (hP.sub [7, 8, 9] rfl) 0 rfl rfl hl.1 rfl (Nat.le_of_ble_eq_true rfl) dX5_offOfNote_41 ⟨(Nat.zero_le _), (Nat.zero_le _)⟩) (fun r41 h => ?_)
    refine ro_i (roSN S hE hT hS (c_X9_offBetween h) lkX5_80 rfl ⟨(Nat.le_of_ble_eq_true rfl), (Nat.le_of_ble_eq_true rfl)⟩ (hP.sub [] rfl) hl.1 rfl (Nat.le_of_ble_eq_true rfl) dX5_offOfNote_44 ⟨(Nat.zero_le _), (Nat.zero_le _)⟩) (fun r44 h => ?_)
    exact W.iret hx hb hr (fun t ht _ => ⟨_, rfl, h, ht⟩) (fun _ hq => by cases hq) dX5_offOfNote_47
  have h := h.1 hc
  refine lv_sipush (v := 999) hx hb dX5_offOfNote_11 (by decide) ?_
  exact W.iret hx hb hr (fun t ht _ => ⟨_, rfl, h, ht⟩) (fun _ hq => by cases hq) dX5_offOfNote_14
/-! X5_worstOf -/
abbrev wX5_worstOf (cI cJ cS : ClassId) (a_o a_cars a_cars_speeds a_stretches a_stretches_kinds a_stretches_others a_stretches_spaces a_tunes a_tunes_noteCounts a_tunes_pitches : Nat) (z_demands z_cars_bases z_cars_shares z_stretches_times z_tunes_beats : Value) (v_drawSeed : Int32) (v_cars_carCount : Int32) (f_cars_speeds : Nat → Int32) (v_stretches_stretchCount : Int32) (f_stretches_kinds : Nat → Int32) (f_stretches_others : Nat → Int32) (f_stretches_spaces : Nat → Int32) (v_tunes_tuneCount : Int32) (f_tunes_noteCounts : Nat → Int32) (f_tunes_pitches : Nat → Int32) : va_W := [(a_o, .inr (4, [.ref a_stretches, .ref a_cars, .ref a_tunes, z_demands, .int v_drawSeed])), (a_cars, .inr (1, [.ref a_cars_speeds, z_cars_bases, z_cars_shares, .int v_cars_carCount])), (a_cars_speeds, .inl (cI, 6, .inl f_cars_speeds)), (a_stretches, .inr (6, [.ref a_stretches_kinds, .ref a_stretches_spaces, .ref a_stretches_others, z_stretches_times, .int v_stretches_stretchCount])), (a_stretches_kinds, .inl (cI, 16, .inl f_stretches_kinds)), (a_stretches_others, .inl (cI, 16, .inl f_stretches_others)), (a_stretches_spaces, .inl (cI, 16, .inl f_stretches_spaces)), (a_tunes, .inr (7, [.ref a_tunes_pitches, z_tunes_beats, .ref a_tunes_noteCounts, .int v_tunes_tuneCount])), (a_tunes_noteCounts, .inl (cI, 6, .inl f_tunes_noteCounts)), (a_tunes_pitches, .inl (cI, 72, .inl f_tunes_pitches))]
def L_X5_worstOf_5 (v_cars_carCount : Int32) (f_cars_speeds : Nat → Int32) (v_stretches_stretchCount : Int32) (f_stretches_kinds : Nat → Int32) (f_stretches_others : Nat → Int32) (f_stretches_spaces : Nat → Int32) (v_tunes_tuneCount : Int32) (f_tunes_noteCounts : Nat → Int32) (f_tunes_pitches : Nat → Int32) (x1 : Int32) (x2 : Int32) (post : Int32 → Prop) : Nat → Int32 → Int32 → Prop
  | 0, _, _ => False
  | n5 + 1, x3, x4 => (F_X8_notesOf v_tunes_tuneCount f_tunes_noteCounts x2 (fun r12 => ((r12 ≤ x4 → post x3) ∧ (¬ r12 ≤ x4 → (F_X5_offOfNote v_cars_carCount f_cars_speeds v_stretches_stretchCount f_stretches_kinds f_stretches_others f_stretches_spaces v_tunes_tuneCount f_tunes_noteCounts f_tunes_pitches x1 x2 x4 (fun r24 => (∀ x3_30 : Int32, x3_30 = (if x3 < r24 then r24 else x3) → (∀ x4_31 : Int32, x4_31 = x4 + 1 → L_X5_worstOf_5 v_cars_carCount f_cars_speeds v_stretches_stretchCount f_stretches_kinds f_stretches_others f_stretches_spaces v_tunes_tuneCount f_tunes_noteCounts f_tunes_pitches x1 x2 post n5 x3_30 x4_31))))))))
def F_X5_worstOf (v_cars_carCount : Int32) (f_cars_speeds : Nat → Int32) (v_stretches_stretchCount : Int32) (f_stretches_kinds : Nat → Int32) (f_stretches_others : Nat → Int32) (f_stretches_spaces : Nat → Int32) (v_tunes_tuneCount : Int32) (f_tunes_noteCounts : Nat → Int32) (f_tunes_pitches : Nat → Int32) (x1 : Int32) (x2 : Int32) (post : Int32 → Prop) : Prop := (∃ n5 : Nat, L_X5_worstOf_5 v_cars_carCount f_cars_speeds v_stretches_stretchCount f_stretches_kinds f_stretches_others f_stretches_spaces v_tunes_tuneCount f_tunes_noteCounts f_tunes_pitches x1 x2 post n5 0 0)
set_option maxHeartbeats 4000000 in
set_option maxRecDepth 100000 in
theorem w_X5_worstOf_5 {l : Launch} {D : va_G} {cI cJ cS : ClassId} {ad adK : Nat → Nat} {a_o a_cars a_cars_speeds a_stretches a_stretches_kinds a_stretches_others a_stretches_spaces a_tunes a_tunes_noteCounts a_tunes_pitches : Nat} {z_demands z_cars_bases z_cars_shares z_stretches_times z_tunes_beats : Value} {v_drawSeed : Int32} {v_cars_carCount : Int32} {f_cars_speeds : Nat → Int32} {v_stretches_stretchCount : Int32} {f_stretches_kinds : Nat → Int32} {f_stretches_others : Nat → Int32} {f_stretches_spaces : Nat → Int32} {v_tunes_tuneCount : Int32} {f_tunes_noteCounts : Nat → Int32} {f_tunes_pitches : Nat → Int32} {x1 : Int32} {x2 : Int32} {post : Int32 → Prop} {p : Program} {e : Env} {s : State} {m : MethodId} {args : Array Value} {below : List Frame} {meth : Method} {c : Code} (S : CallFix p m c cX5_worstOf 5 s args GW "RoadThatSings$Road") (hE : EN D cI cJ cS s) (hT : ST ad adK nof s s.heap) (hP : va_P D vwCl (wX5_worstOf cI cJ cS a_o a_cars a_cars_speeds a_stretches a_stretches_kinds a_stretches_others a_stretches_spaces a_tunes a_tunes_noteCounts a_tunes_pitches z_demands z_cars_bases z_cars_shares z_stretches_times z_tunes_beats v_drawSeed v_cars_carCount f_cars_speeds v_stretches_stretchCount f_stretches_kinds f_stretches_others f_stretches_spaces v_tunes_tuneCount f_tunes_noteCounts f_tunes_pitches) s.heap) (hS : va_S nof s.heap s.heap []) (hr : meth.sig.returnType = (some (.int))) (hlocks : meth.locks = false) : ∀ n : Nat, ∀ (x3 : Int32) (x4 : Int32) (ls : Array Slot), L_X5_worstOf_5 v_cars_carCount f_cars_speeds v_stretches_stretchCount f_stretches_kinds f_stretches_others f_stretches_spaces v_tunes_tuneCount f_tunes_noteCounts f_tunes_pitches x1 x2 post n x3 x4 → lv_has ls 5 [(0, .ref a_o), (1, .int x1), (2, .int x2), (3, .int x3), (4, .int x4)] → W p l e (rmd 4 0 0) s m args below meth c s.heap [] 0 0 (MQ below (vp_Si post) args s 0 0 nof) (F0 m 5 ls []) := by
  intro n
  induction n with
  | zero =>
    intro x3 x4 ls h hl
    exact h.elim
  | succ n ih =>
    intro x3 x4 ls h hl
    rw [L_X5_worstOf_5] at h
    have hx := S.1
    have hb := S.2.1
    refine lv_iload hx hb dX5_worstOf_5 (lv_at hl 4 rfl) ?_
    refine lv_aload_n hx hb dX5_worstOf_7 rfl (lv_at hl 0 rfl) ?_
    refine gf S hE hP 0 rfl rfl inX5 (k := 2) (by decide) q99 rfl dX5_worstOf_8 ?_
    refine lv_iload_n hx hb dX5_worstOf_11 rfl (lv_at hl 2 rfl) ?_
    refine ro_i (roV S hE hT hS (c_X8_notesOf h) lkX5_83 rfl ⟨(Nat.le_of_ble_eq_true rfl), (Nat.le_of_ble_eq_true rfl)⟩ (hP.sub [7, 8] rfl) 0 rfl rfl hl.1 rfl (Nat.le_of_ble_eq_true rfl) dX5_worstOf_12 ⟨(Nat.zero_le _), (Nat.zero_le _)⟩) (fun r12 h => ?_)
    refine lv_icmp_ge (tgt := 37) hx hb dX5_worstOf_15 (by decide) (fun hc => ?_) (fun hc => ?_)
    · have h := h.1 hc
      refine lv_iload_n hx hb dX5_worstOf_37 rfl (lv_at hl 3 rfl) ?_
      exact W.iret hx hb hr (fun t ht _ => ⟨_, rfl, h, ht⟩) (fun _ hq => by cases hq) dX5_worstOf_38
    have h := h.2 hc
    refine lv_iload_n hx hb dX5_worstOf_18 rfl (lv_at hl 3 rfl) ?_
    refine lv_aload_n hx hb dX5_worstOf_19 rfl (lv_at hl 0 rfl) ?_
    refine lv_iload_n hx hb dX5_worstOf_20 rfl (lv_at hl 1 rfl) ?_
    refine lv_iload_n hx hb dX5_worstOf_21 rfl (lv_at hl 2 rfl) ?_
    refine lv_iload hx hb dX5_worstOf_22 (lv_at hl 4 rfl) ?_
    refine ro_i (roV S hE hT hS (c_X5_offOfNote h) lkX5_86 rfl ⟨(Nat.le_of_ble_eq_true rfl), (Nat.le_of_ble_eq_true rfl)⟩ (hP.sub [0, 1, 2, 3, 4, 5, 6, 7, 8, 9] rfl) 0 rfl rfl hl.1 rfl (Nat.le_of_ble_eq_true rfl) dX5_worstOf_24 ⟨(Nat.zero_le _), (Nat.zero_le _)⟩) (fun r24 h => ?_)
    refine va_mmax hx hb (S.2.2.1.trans hl.1.symm) S.2.2.2.1 (S.2.2.2.2 _ q782) (S.2.2.2.2 _ q236) (S.2.2.2.2 _ q10) (S.2.2.2.2 _ q237) (Nat.le_of_ble_eq_true rfl) (Nat.le_of_ble_eq_true rfl) (Nat.zero_le _) (Nat.zero_le _) dX5_worstOf_27 ?_
    refine lv_topi (fun x3_30 ex3_30 => ?_)
    have h := h _ ex3_30
    refine lv_istore_n (lv' := [(3, .int x3_30), (0, .ref a_o), (1, .int x1), (2, .int x2), (4, .int x4)]) hx hb dX5_worstOf_30 rfl hl (by decide) rfl (fun ls hl => ?_)
    obtain ⟨x4_31, ex4_31⟩ : ∃ z : Int32, z = x4 + 1 := ⟨_, rfl⟩
    have h := h _ ex4_31
    refine lv_iinc (v := x4_31) (lv' := [(4, .int x4_31), (3, .int x3_30), (0, .ref a_o), (1, .int x1), (2, .int x2)]) hx hb dX5_worstOf_31 hl (k := 4) rfl (by rw [ex4_31]; rfl) (by decide) rfl (fun ls hl => ?_)
    refine lv_goto (tgt := 5) hx hb dX5_worstOf_34 (by decide) ?_
    exact ih _ _ _ h (lv_sub hl [2, 3, 4, 1, 0] rfl)
set_option maxHeartbeats 4000000 in
set_option maxRecDepth 100000 in
theorem c_X5_worstOf {l : Launch} {D : va_G} {cI cJ cS : ClassId} {ad adK : Nat → Nat} {a_o a_cars a_cars_speeds a_stretches a_stretches_kinds a_stretches_others a_stretches_spaces a_tunes a_tunes_noteCounts a_tunes_pitches : Nat} {z_demands z_cars_bases z_cars_shares z_stretches_times z_tunes_beats : Value} {v_drawSeed : Int32} {v_cars_carCount : Int32} {f_cars_speeds : Nat → Int32} {v_stretches_stretchCount : Int32} {f_stretches_kinds : Nat → Int32} {f_stretches_others : Nat → Int32} {f_stretches_spaces : Nat → Int32} {v_tunes_tuneCount : Int32} {f_tunes_noteCounts : Nat → Int32} {f_tunes_pitches : Nat → Int32} {x1 : Int32} {x2 : Int32} {post : Int32 → Prop} (h : F_X5_worstOf v_cars_carCount f_cars_speeds v_stretches_stretchCount f_stretches_kinds f_stretches_others f_stretches_spaces v_tunes_tuneCount f_tunes_noteCounts f_tunes_pitches x1 x2 post) : Met l yX5_worstOf (Cond.code yX5_worstOf cX5_worstOf 5 (some (.int)) :: GW) (rmd 4 0 0) (PR D cI cJ cS ad adK [.ref a_o, .int x1, .int x2] (wX5_worstOf cI cJ cS a_o a_cars a_cars_speeds a_stretches a_stretches_kinds a_stretches_others a_stretches_spaces a_tunes a_tunes_noteCounts a_tunes_pitches z_demands z_cars_bases z_cars_shares z_stretches_times z_tunes_beats v_drawSeed v_cars_carCount f_cars_speeds v_stretches_stretchCount f_stretches_kinds f_stretches_others f_stretches_spaces v_tunes_tuneCount f_tunes_noteCounts f_tunes_pitches)) (vp_Si post) 0 0 nof := by
  refine Met.ro (by decide) (Nat.le_of_ble_eq_true rfl) (fun p e s m args below meth c ls (S : CallFix p m c cX5_worstOf 5 s args GW "RoadThatSings$Road") hE hT hP hS hr hlocks hl => ?_)
  have hx := S.1
  have hb := S.2.1
  have hl : lv_has ls 5 [(0, .ref a_o), (1, .int x1), (2, .int x2)] := hl
  unfold F_X5_worstOf at h
  refine lv_iconst (v := 0) hx hb dX5_worstOf_0 (by decide) ?_
  refine lv_istore_n (lv' := [(3, .int 0), (0, .ref a_o), (1, .int x1), (2, .int x2)]) hx hb dX5_worstOf_1 rfl hl (by decide) rfl (fun ls hl => ?_)
  refine lv_iconst (v := 0) hx hb dX5_worstOf_2 (by decide) ?_
  refine lv_istore (lv' := [(4, .int 0), (3, .int 0), (0, .ref a_o), (1, .int x1), (2, .int x2)]) hx hb dX5_worstOf_3 hl (by decide) rfl (fun ls hl => ?_)
  obtain ⟨n, h⟩ := h
  refine w_X5_worstOf_5 S hE hT hP hS hr hlocks n _ _ _ h (lv_sub hl [2, 3, 4, 1, 0] rfl)
/-! X7_otherOf -/
abbrev wX7_otherOf (cI cJ cS : ClassId) (a_o a_others : Nat) (z_kinds z_spaces z_times : Value) (v_stretchCount : Int32) (f_others : Nat → Int32) : va_W := [(a_o, .inr (6, [z_kinds, z_spaces, .ref a_others, z_times, .int v_stretchCount])), (a_others, .inl (cI, 16, .inl f_others))]
def F_X7_otherOf (v_stretchCount : Int32) (f_others : Nat → Int32) (x1 : Int32) (post : Int32 → Prop) : Prop := (F_X7_has v_stretchCount x1 (fun r2 => ((r2 = 0 → post 0) ∧ (¬ r2 = 0 → (vp_in x1 16 ∧ post (f_others x1.toNatClampNeg))))))
set_option maxHeartbeats 4000000 in
set_option maxRecDepth 100000 in
theorem c_X7_otherOf {l : Launch} {D : va_G} {cI cJ cS : ClassId} {ad adK : Nat → Nat} {a_o a_others : Nat} {z_kinds z_spaces z_times : Value} {v_stretchCount : Int32} {f_others : Nat → Int32} {x1 : Int32} {post : Int32 → Prop} (h : F_X7_otherOf v_stretchCount f_others x1 post) : Met l yX7_otherOf (Cond.code yX7_otherOf cX7_otherOf 2 (some (.int)) :: GW) (rmd 1 0 0) (PR D cI cJ cS ad adK [.ref a_o, .int x1] (wX7_otherOf cI cJ cS a_o a_others z_kinds z_spaces z_times v_stretchCount f_others)) (vp_Si post) 0 0 nof := by
  refine Met.ro (by decide) (Nat.le_of_ble_eq_true rfl) (fun p e s m args below meth c ls (S : CallFix p m c cX7_otherOf 2 s args GW "RoadThatSings$Stretches") hE hT hP hS hr hlocks hl => ?_)
  have hx := S.1
  have hb := S.2.1
  have hl : lv_has ls 2 [(0, .ref a_o), (1, .int x1)] := hl
  unfold F_X7_otherOf at h
  refine lv_aload_n hx hb dX7_otherOf_0 rfl (lv_at hl 0 rfl) ?_
  refine lv_iload_n hx hb dX7_otherOf_1 rfl (lv_at hl 1 rfl) ?_
  refine ro_i (roV S hE hT hS (c_X7_has h) lkX7_47 rfl ⟨(Nat.le_of_ble_eq_true rfl), (Nat.le_of_ble_eq_true rfl)⟩ (hP.sub [0] rfl) 0 rfl rfl hl.1 rfl (Nat.le_of_ble_eq_true rfl) dX7_otherOf_2 ⟨(Nat.zero_le _), (Nat.zero_le _)⟩) (fun r2 h => ?_)
  refine lv_if_eq (tgt := 17) hx hb dX7_otherOf_5 (by decide) (fun hc => ?_) (fun hc => ?_)
  · have h := h.1 hc
    refine lv_iconst (v := 0) hx hb dX7_otherOf_17 (by decide) ?_
    exact W.iret hx hb hr (fun t ht _ => ⟨_, rfl, h, ht⟩) (fun _ hq => by cases hq) dX7_otherOf_18
  have h := h.2 hc
  refine lv_aload_n hx hb dX7_otherOf_8 rfl (lv_at hl 0 rfl) ?_
  refine gf S hE hP 0 rfl rfl inX7 (k := 2) (by decide) q40 rfl dX7_otherOf_9 ?_
  refine lv_iload_n hx hb dX7_otherOf_12 rfl (lv_at hl 1 rfl) ?_
  obtain ⟨hi, h⟩ := h
  refine ial S hE hP 1 rfl hi dX7_otherOf_13 ?_
  refine lv_goto (tgt := 18) hx hb dX7_otherOf_14 (by decide) ?_
  exact W.iret hx hb hr (fun t ht _ => ⟨_, rfl, h, ht⟩) (fun _ hq => by cases hq) dX7_otherOf_18
/-! X7_timesOf -/
abbrev wX7_timesOf (cI cJ cS : ClassId) (a_o a_times : Nat) (z_kinds z_spaces z_others : Value) (v_stretchCount : Int32) (f_times : Nat → Int32) : va_W := [(a_o, .inr (6, [z_kinds, z_spaces, z_others, .ref a_times, .int v_stretchCount])), (a_times, .inl (cI, 16, .inl f_times))]
def F_X7_timesOf (v_stretchCount : Int32) (f_times : Nat → Int32) (x1 : Int32) (post : Int32 → Prop) : Prop := (F_X7_has v_stretchCount x1 (fun r2 => ((r2 = 0 → post 0) ∧ (¬ r2 = 0 → (vp_in x1 16 ∧ post (f_times x1.toNatClampNeg))))))
set_option maxHeartbeats 4000000 in
set_option maxRecDepth 100000 in
theorem c_X7_timesOf {l : Launch} {D : va_G} {cI cJ cS : ClassId} {ad adK : Nat → Nat} {a_o a_times : Nat} {z_kinds z_spaces z_others : Value} {v_stretchCount : Int32} {f_times : Nat → Int32} {x1 : Int32} {post : Int32 → Prop} (h : F_X7_timesOf v_stretchCount f_times x1 post) : Met l yX7_timesOf (Cond.code yX7_timesOf cX7_timesOf 2 (some (.int)) :: GW) (rmd 1 0 0) (PR D cI cJ cS ad adK [.ref a_o, .int x1] (wX7_timesOf cI cJ cS a_o a_times z_kinds z_spaces z_others v_stretchCount f_times)) (vp_Si post) 0 0 nof := by
  refine Met.ro (by decide) (Nat.le_of_ble_eq_true rfl) (fun p e s m args below meth c ls (S : CallFix p m c cX7_timesOf 2 s args GW "RoadThatSings$Stretches") hE hT hP hS hr hlocks hl => ?_)
  have hx := S.1
  have hb := S.2.1
  have hl : lv_has ls 2 [(0, .ref a_o), (1, .int x1)] := hl
  unfold F_X7_timesOf at h
  refine lv_aload_n hx hb dX7_timesOf_0 rfl (lv_at hl 0 rfl) ?_
  refine lv_iload_n hx hb dX7_timesOf_1 rfl (lv_at hl 1 rfl) ?_
  refine ro_i (roV S hE hT hS (c_X7_has h) lkX7_47 rfl ⟨(Nat.le_of_ble_eq_true rfl), (Nat.le_of_ble_eq_true rfl)⟩ (hP.sub [0] rfl) 0 rfl rfl hl.1 rfl (Nat.le_of_ble_eq_true rfl) dX7_timesOf_2 ⟨(Nat.zero_le _), (Nat.zero_le _)⟩) (fun r2 h => ?_)
  refine lv_if_eq (tgt := 17) hx hb dX7_timesOf_5 (by decide) (fun hc => ?_) (fun hc => ?_)
  · have h := h.1 hc
    refine lv_iconst (v := 0) hx hb dX7_timesOf_17 (by decide) ?_
    exact W.iret hx hb hr (fun t ht _ => ⟨_, rfl, h, ht⟩) (fun _ hq => by cases hq) dX7_timesOf_18
  have h := h.2 hc
  refine lv_aload_n hx hb dX7_timesOf_8 rfl (lv_at hl 0 rfl) ?_
  refine gf S hE hP 0 rfl rfl inX7 (k := 3) (by decide) q41 rfl dX7_timesOf_9 ?_
  refine lv_iload_n hx hb dX7_timesOf_12 rfl (lv_at hl 1 rfl) ?_
  obtain ⟨hi, h⟩ := h
  refine ial S hE hP 1 rfl hi dX7_timesOf_13 ?_
  refine lv_goto (tgt := 18) hx hb dX7_timesOf_14 (by decide) ?_
  exact W.iret hx hb hr (fun t ht _ => ⟨_, rfl, h, ht⟩) (fun _ hq => by cases hq) dX7_timesOf_18
/-! X7_lengthOf -/
abbrev wX7_lengthOf (cI cJ cS : ClassId) (a_o a_kinds a_others a_spaces a_times : Nat) (v_stretchCount : Int32) (f_kinds : Nat → Int32) (f_others : Nat → Int32) (f_spaces : Nat → Int32) (f_times : Nat → Int32) : va_W := [(a_o, .inr (6, [.ref a_kinds, .ref a_spaces, .ref a_others, .ref a_times, .int v_stretchCount])), (a_kinds, .inl (cI, 16, .inl f_kinds)), (a_others, .inl (cI, 16, .inl f_others)), (a_spaces, .inl (cI, 16, .inl f_spaces)), (a_times, .inl (cI, 16, .inl f_times))]
def F_X7_lengthOf_23 (v_stretchCount : Int32) (f_times : Nat → Int32) (post : Int32 → Prop) (x1 : Int32) (s0 : Int32) : Prop := (F_X7_timesOf v_stretchCount f_times x1 (fun r26 => post (r26 * s0)))
def F_X7_lengthOf (v_stretchCount : Int32) (f_kinds : Nat → Int32) (f_others : Nat → Int32) (f_spaces : Nat → Int32) (f_times : Nat → Int32) (x1 : Int32) (post : Int32 → Prop) : Prop := (F_X7_kindOf v_stretchCount f_kinds x1 (fun r2 => ((r2 = 6 → (F_X7_otherOf v_stretchCount f_others x1 (fun r12 => F_X7_lengthOf_23 v_stretchCount f_times post x1 r12))) ∧ (¬ r2 = 6 → (F_X7_spacesTogether v_stretchCount f_kinds f_others f_spaces x1 (fun r20 => F_X7_lengthOf_23 v_stretchCount f_times post x1 r20))))))
set_option maxHeartbeats 4000000 in
set_option maxRecDepth 100000 in
theorem w_X7_lengthOf_23 {l : Launch} {D : va_G} {cI cJ cS : ClassId} {ad adK : Nat → Nat} {a_o a_kinds a_others a_spaces a_times : Nat} {v_stretchCount : Int32} {f_kinds : Nat → Int32} {f_others : Nat → Int32} {f_spaces : Nat → Int32} {f_times : Nat → Int32} {x1 : Int32} {s0 : Int32} {post : Int32 → Prop} {p : Program} {e : Env} {s : State} {m : MethodId} {args : Array Value} {below : List Frame} {meth : Method} {c : Code} (S : CallFix p m c cX7_lengthOf 3 s args GW "RoadThatSings$Stretches") (hE : EN D cI cJ cS s) (hT : ST ad adK nof s s.heap) (hP : va_P D vwCl (wX7_lengthOf cI cJ cS a_o a_kinds a_others a_spaces a_times v_stretchCount f_kinds f_others f_spaces f_times) s.heap) (hS : va_S nof s.heap s.heap []) (hr : meth.sig.returnType = (some (.int))) (hlocks : meth.locks = false) : ∀ (ls : Array Slot), F_X7_lengthOf_23 v_stretchCount f_times post x1 s0 → lv_has ls 3 [(0, .ref a_o), (1, .int x1)] → W p l e (rmd 2 0 0) s m args below meth c s.heap [] 0 0 (MQ below (vp_Si post) args s 0 0 nof) (F0 m 23 ls [.int s0]) := by
  intro  ls h hl
  unfold F_X7_lengthOf_23 at h
  have hx := S.1
  have hb := S.2.1
  refine lv_istore_n (lv' := [(2, .int s0), (0, .ref a_o), (1, .int x1)]) hx hb dX7_lengthOf_23 rfl hl (by decide) rfl (fun ls hl => ?_)
  refine lv_aload_n hx hb dX7_lengthOf_24 rfl (lv_at hl 1 rfl) ?_
  refine lv_iload_n hx hb dX7_lengthOf_25 rfl (lv_at hl 2 rfl) ?_
  refine ro_i (roV S hE hT hS (c_X7_timesOf h) lkX7_64 rfl ⟨(Nat.le_of_ble_eq_true rfl), (Nat.le_of_ble_eq_true rfl)⟩ (hP.sub [0, 4] rfl) 0 rfl rfl hl.1 rfl (Nat.le_of_ble_eq_true rfl) dX7_lengthOf_26 ⟨(Nat.zero_le _), (Nat.zero_le _)⟩) (fun r26 h => ?_)
  refine lv_iload_n hx hb dX7_lengthOf_29 rfl (lv_at hl 0 rfl) ?_
  refine lv_imul hx hb dX7_lengthOf_30 ?_
  exact W.iret hx hb hr (fun t ht _ => ⟨_, rfl, h, ht⟩) (fun _ hq => by cases hq) dX7_lengthOf_31
set_option maxHeartbeats 4000000 in
set_option maxRecDepth 100000 in
theorem c_X7_lengthOf {l : Launch} {D : va_G} {cI cJ cS : ClassId} {ad adK : Nat → Nat} {a_o a_kinds a_others a_spaces a_times : Nat} {v_stretchCount : Int32} {f_kinds : Nat → Int32} {f_others : Nat → Int32} {f_spaces : Nat → Int32} {f_times : Nat → Int32} {x1 : Int32} {post : Int32 → Prop} (h : F_X7_lengthOf v_stretchCount f_kinds f_others f_spaces f_times x1 post) : Met l yX7_lengthOf (Cond.code yX7_lengthOf cX7_lengthOf 3 (some (.int)) :: GW) (rmd 2 0 0) (PR D cI cJ cS ad adK [.ref a_o, .int x1] (wX7_lengthOf cI cJ cS a_o a_kinds a_others a_spaces a_times v_stretchCount f_kinds f_others f_spaces f_times)) (vp_Si post) 0 0 nof := by
  refine Met.ro (by decide) (Nat.le_of_ble_eq_true rfl) (fun p e s m args below meth c ls (S : CallFix p m c cX7_lengthOf 3 s args GW "RoadThatSings$Stretches") hE hT hP hS hr hlocks hl => ?_)
  have hx := S.1
  have hb := S.2.1
  have hl : lv_has ls 3 [(0, .ref a_o), (1, .int x1)] := hl
  unfold F_X7_lengthOf at h
  refine lv_aload_n hx hb dX7_lengthOf_0 rfl (lv_at hl 0 rfl) ?_
  refine lv_iload_n hx hb dX7_lengthOf_1 rfl (lv_at hl 1 rfl) ?_
  refine ro_i (roV S hE hT hS (c_X7_kindOf h) lkX7_54 rfl ⟨(Nat.le_of_ble_eq_true rfl), (Nat.le_of_ble_eq_true rfl)⟩ (hP.sub [0, 1] rfl) 0 rfl rfl hl.1 rfl (Nat.le_of_ble_eq_true rfl) dX7_lengthOf_2 ⟨(Nat.zero_le _), (Nat.zero_le _)⟩) (fun r2 h => ?_)
  refine lv_bipush (v := 6) hx hb dX7_lengthOf_5 (by decide) ?_
  refine lv_icmp_ne (tgt := 18) hx hb dX7_lengthOf_7 (by decide) (fun hc => ?_) (fun hc => ?_)
  · have h := h.2 hc
    refine lv_aload_n hx hb dX7_lengthOf_18 rfl (lv_at hl 0 rfl) ?_
    refine lv_iload_n hx hb dX7_lengthOf_19 rfl (lv_at hl 1 rfl) ?_
    refine ro_i (roV S hE hT hS (c_X7_spacesTogether h) lkX7_61 rfl ⟨(Nat.le_of_ble_eq_true rfl), (Nat.le_of_ble_eq_true rfl)⟩ (hP.sub [0, 1, 2, 3] rfl) 0 rfl rfl hl.1 rfl (Nat.le_of_ble_eq_true rfl) dX7_lengthOf_20 ⟨(Nat.zero_le _), (Nat.zero_le _)⟩) (fun r20 h => ?_)
    refine w_X7_lengthOf_23 S hE hT hP hS hr hlocks _ h (lv_sub hl [0, 1] rfl)
  have h := h.1 hc
  refine lv_aload_n hx hb dX7_lengthOf_10 rfl (lv_at hl 0 rfl) ?_
  refine lv_iload_n hx hb dX7_lengthOf_11 rfl (lv_at hl 1 rfl) ?_
  refine ro_i (roV S hE hT hS (c_X7_otherOf h) lkX7_58 rfl ⟨(Nat.le_of_ble_eq_true rfl), (Nat.le_of_ble_eq_true rfl)⟩ (hP.sub [0, 2] rfl) 0 rfl rfl hl.1 rfl (Nat.le_of_ble_eq_true rfl) dX7_lengthOf_12 ⟨(Nat.zero_le _), (Nat.zero_le _)⟩) (fun r12 h => ?_)
  refine lv_goto (tgt := 23) hx hb dX7_lengthOf_15 (by decide) ?_
  refine w_X7_lengthOf_23 S hE hT hP hS hr hlocks _ h (lv_sub hl [0, 1] rfl)
/-! X7_lastingOf -/
abbrev wX7_lastingOf (cI cJ cS : ClassId) (a_o a_kinds a_others a_spaces a_times : Nat) (v_stretchCount : Int32) (f_kinds : Nat → Int32) (f_others : Nat → Int32) (f_spaces : Nat → Int32) (f_times : Nat → Int32) : va_W := [(a_o, .inr (6, [.ref a_kinds, .ref a_spaces, .ref a_others, .ref a_times, .int v_stretchCount])), (a_kinds, .inl (cI, 16, .inl f_kinds)), (a_others, .inl (cI, 16, .inl f_others)), (a_spaces, .inl (cI, 16, .inl f_spaces)), (a_times, .inl (cI, 16, .inl f_times))]
def F_X7_lastingOf (v_stretchCount : Int32) (f_kinds : Nat → Int32) (f_others : Nat → Int32) (f_spaces : Nat → Int32) (f_times : Nat → Int32) (x1 : Int32) (x2 : Int32) (post : Int32 → Prop) : Prop := (F_X7_lengthOf v_stretchCount f_kinds f_others f_spaces f_times x1 (fun r2 => (F_X9_quotient (r2 * 10000) (704 * x2) (fun r14 => post r14))))
set_option maxHeartbeats 4000000 in
set_option maxRecDepth 100000 in
theorem c_X7_lastingOf {l : Launch} {D : va_G} {cI cJ cS : ClassId} {ad adK : Nat → Nat} {a_o a_kinds a_others a_spaces a_times : Nat} {v_stretchCount : Int32} {f_kinds : Nat → Int32} {f_others : Nat → Int32} {f_spaces : Nat → Int32} {f_times : Nat → Int32} {x1 : Int32} {x2 : Int32} {post : Int32 → Prop} (h : F_X7_lastingOf v_stretchCount f_kinds f_others f_spaces f_times x1 x2 post) : Met l yX7_lastingOf (Cond.code yX7_lastingOf cX7_lastingOf 3 (some (.int)) :: GW) (rmd 3 0 0) (PR D cI cJ cS ad adK [.ref a_o, .int x1, .int x2] (wX7_lastingOf cI cJ cS a_o a_kinds a_others a_spaces a_times v_stretchCount f_kinds f_others f_spaces f_times)) (vp_Si post) 0 0 nof := by
  refine Met.ro (by decide) (Nat.le_of_ble_eq_true rfl) (fun p e s m args below meth c ls (S : CallFix p m c cX7_lastingOf 3 s args GW "RoadThatSings$Stretches") hE hT hP hS hr hlocks hl => ?_)
  have hx := S.1
  have hb := S.2.1
  have hl : lv_has ls 3 [(0, .ref a_o), (1, .int x1), (2, .int x2)] := hl
  unfold F_X7_lastingOf at h
  refine lv_aload_n hx hb dX7_lastingOf_0 rfl (lv_at hl 0 rfl) ?_
  refine lv_iload_n hx hb dX7_lastingOf_1 rfl (lv_at hl 1 rfl) ?_
  refine ro_i (roV S hE hT hS (c_X7_lengthOf h) lkX7_67 rfl ⟨(Nat.le_of_ble_eq_true rfl), (Nat.le_of_ble_eq_true rfl)⟩ (hP.sub [0, 1, 2, 3, 4] rfl) 0 rfl rfl hl.1 rfl (Nat.le_of_ble_eq_true rfl) dX7_lastingOf_2 ⟨(Nat.zero_le _), (Nat.zero_le _)⟩) (fun r2 h => ?_)
  refine lv_sipush (v := 10000) hx hb dX7_lastingOf_5 (by decide) ?_
  refine lv_imul hx hb dX7_lastingOf_8 ?_
  refine lv_sipush (v := 704) hx hb dX7_lastingOf_9 (by decide) ?_
  refine lv_iload_n hx hb dX7_lastingOf_12 rfl (lv_at hl 2 rfl) ?_
  refine lv_imul hx hb dX7_lastingOf_13 ?_
  refine ro_i (roSN S hE hT hS (c_X9_quotient h) lkX7_76 rfl ⟨(Nat.le_of_ble_eq_true rfl), (Nat.le_of_ble_eq_true rfl)⟩ (hP.sub [] rfl) hl.1 rfl (Nat.le_of_ble_eq_true rfl) dX7_lastingOf_14 ⟨(Nat.zero_le _), (Nat.zero_le _)⟩) (fun r14 h => ?_)
  exact W.iret hx hb hr (fun t ht _ => ⟨_, rfl, h, ht⟩) (fun _ hq => by cases hq) dX7_lastingOf_17
/-! X5_latenessOf -/
abbrev wX5_latenessOf (cI cJ cS : ClassId) (a_o a_cars a_cars_speeds a_demands a_stretches a_stretches_kinds a_stretches_others a_stretches_spaces a_stretches_times a_tunes a_tunes_beats a_tunes_noteCounts : Nat) (z_cars_bases z_cars_shares z_tunes_pitches : Value) (v_drawSeed : Int32) (v_cars_carCount : Int32) (f_cars_speeds : Nat → Int32) (f_demands : Nat → Int32) (v_stretches_stretchCount : Int32) (f_stretches_kinds : Nat → Int32) (f_stretches_others : Nat → Int32) (f_stretches_spaces : Nat → Int32) (f_stretches_times : Nat → Int32) (v_tunes_tuneCount : Int32) (f_tunes_beats : Nat → Int32) (f_tunes_noteCounts : Nat → Int32) : va_W := [(a_o, .inr (4, [.ref a_stretches, .ref a_cars, .ref a_tunes, .ref a_demands, .int v_drawSeed])), (a_cars, .inr (1, [.ref a_cars_speeds, z_cars_bases, z_cars_shares, .int v_cars_carCount])), (a_cars_speeds, .inl (cI, 6, .inl f_cars_speeds)), (a_demands, .inl (cI, 4, .inl f_demands)), (a_stretches, .inr (6, [.ref a_stretches_kinds, .ref a_stretches_spaces, .ref a_stretches_others, .ref a_stretches_times, .int v_stretches_stretchCount])), (a_stretches_kinds, .inl (cI, 16, .inl f_stretches_kinds)), (a_stretches_others, .inl (cI, 16, .inl f_stretches_others)), (a_stretches_spaces, .inl (cI, 16, .inl f_stretches_spaces)), (a_stretches_times, .inl (cI, 16, .inl f_stretches_times)), (a_tunes, .inr (7, [z_tunes_pitches, .ref a_tunes_beats, .ref a_tunes_noteCounts, .int v_tunes_tuneCount])), (a_tunes_beats, .inl (cI, 72, .inl f_tunes_beats)), (a_tunes_noteCounts, .inl (cI, 6, .inl f_tunes_noteCounts))]
def L_X5_latenessOf_11 (v_cars_carCount : Int32) (f_cars_speeds : Nat → Int32) (f_demands : Nat → Int32) (v_stretches_stretchCount : Int32) (f_stretches_kinds : Nat → Int32) (f_stretches_others : Nat → Int32) (f_stretches_spaces : Nat → Int32) (f_stretches_times : Nat → Int32) (v_tunes_tuneCount : Int32) (f_tunes_beats : Nat → Int32) (f_tunes_noteCounts : Nat → Int32) (x1 : Int32) (x2 : Int32) (post : Int32 → Prop) : Nat → Int32 → Int32 → Int32 → Int32 → Prop
  | 0, _, _, _, _ => False
  | n11 + 1, x3, x4, x5, x6 => (F_X8_notesOf v_tunes_tuneCount f_tunes_noteCounts x2 (fun r18 => ((r18 ≤ x6 → post x3) ∧ (¬ r18 ≤ x6 → (∀ x3_36 : Int32, x3_36 = (if x3 < (if 0 ≤ (x4 - x5) then (x4 - x5) else 0 - (x4 - x5)) then (if 0 ≤ (x4 - x5) then (x4 - x5) else 0 - (x4 - x5)) else x3) → (F_X1_speedOf v_cars_carCount f_cars_speeds x1 (fun r50 => (F_X7_lastingOf v_stretches_stretchCount f_stretches_kinds f_stretches_others f_stretches_spaces f_stretches_times x6 r50 (fun r53 => (∀ x4_57 : Int32, x4_57 = x4 + r53 → (F_X8_beatsOf v_tunes_tuneCount f_tunes_beats f_tunes_noteCounts x2 x6 (fun r68 => (F_X5_asked f_demands 3 (fun r73 => (∀ x5_78 : Int32, x5_78 = x5 + (r68 * r73) → (∀ x6_80 : Int32, x6_80 = x6 + 1 → L_X5_latenessOf_11 v_cars_carCount f_cars_speeds f_demands v_stretches_stretchCount f_stretches_kinds f_stretches_others f_stretches_spaces f_stretches_times v_tunes_tuneCount f_tunes_beats f_tunes_noteCounts x1 x2 post n11 x3_36 x4_57 x5_78 x6_80))))))))))))))))
def F_X5_latenessOf (v_cars_carCount : Int32) (f_cars_speeds : Nat → Int32) (f_demands : Nat → Int32) (v_stretches_stretchCount : Int32) (f_stretches_kinds : Nat → Int32) (f_stretches_others : Nat → Int32) (f_stretches_spaces : Nat → Int32) (f_stretches_times : Nat → Int32) (v_tunes_tuneCount : Int32) (f_tunes_beats : Nat → Int32) (f_tunes_noteCounts : Nat → Int32) (x1 : Int32) (x2 : Int32) (post : Int32 → Prop) : Prop := (∃ n11 : Nat, L_X5_latenessOf_11 v_cars_carCount f_cars_speeds f_demands v_stretches_stretchCount f_stretches_kinds f_stretches_others f_stretches_spaces f_stretches_times v_tunes_tuneCount f_tunes_beats f_tunes_noteCounts x1 x2 post n11 0 0 0 0)
set_option maxHeartbeats 4000000 in
set_option maxRecDepth 100000 in
theorem w_X5_latenessOf_11 {l : Launch} {D : va_G} {cI cJ cS : ClassId} {ad adK : Nat → Nat} {a_o a_cars a_cars_speeds a_demands a_stretches a_stretches_kinds a_stretches_others a_stretches_spaces a_stretches_times a_tunes a_tunes_beats a_tunes_noteCounts : Nat} {z_cars_bases z_cars_shares z_tunes_pitches : Value} {v_drawSeed : Int32} {v_cars_carCount : Int32} {f_cars_speeds : Nat → Int32} {f_demands : Nat → Int32} {v_stretches_stretchCount : Int32} {f_stretches_kinds : Nat → Int32} {f_stretches_others : Nat → Int32} {f_stretches_spaces : Nat → Int32} {f_stretches_times : Nat → Int32} {v_tunes_tuneCount : Int32} {f_tunes_beats : Nat → Int32} {f_tunes_noteCounts : Nat → Int32} {x1 : Int32} {x2 : Int32} {post : Int32 → Prop} {p : Program} {e : Env} {s : State} {m : MethodId} {args : Array Value} {below : List Frame} {meth : Method} {c : Code} (S : CallFix p m c cX5_latenessOf 7 s args GW "RoadThatSings$Road") (hE : EN D cI cJ cS s) (hT : ST ad adK nof s s.heap) (hP : va_P D vwCl (wX5_latenessOf cI cJ cS a_o a_cars a_cars_speeds a_demands a_stretches a_stretches_kinds a_stretches_others a_stretches_spaces a_stretches_times a_tunes a_tunes_beats a_tunes_noteCounts z_cars_bases z_cars_shares z_tunes_pitches v_drawSeed v_cars_carCount f_cars_speeds f_demands v_stretches_stretchCount f_stretches_kinds f_stretches_others f_stretches_spaces f_stretches_times v_tunes_tuneCount f_tunes_beats f_tunes_noteCounts) s.heap) (hS : va_S nof s.heap s.heap []) (hr : meth.sig.returnType = (some (.int))) (hlocks : meth.locks = false) : ∀ n : Nat, ∀ (x3 : Int32) (x4 : Int32) (x5 : Int32) (x6 : Int32) (ls : Array Slot), L_X5_latenessOf_11 v_cars_carCount f_cars_speeds f_demands v_stretches_stretchCount f_stretches_kinds f_stretches_others f_stretches_spaces f_stretches_times v_tunes_tuneCount f_tunes_beats f_tunes_noteCounts x1 x2 post n x3 x4 x5 x6 → lv_has ls 7 [(0, .ref a_o), (1, .int x1), (2, .int x2), (3, .int x3), (4, .int x4), (5, .int x5), (6, .int x6)] → W p l e (rmd 4 0 0) s m args below meth c s.heap [] 0 0 (MQ below (vp_Si post) args s 0 0 nof) (F0 m 11 ls []) := by
  intro n
  induction n with
  | zero =>
    intro x3 x4 x5 x6 ls h hl
    exact h.elim
  | succ n ih =>
    intro x3 x4 x5 x6 ls h hl
    rw [L_X5_latenessOf_11] at h
    have hx := S.1
    have hb := S.2.1
    refine lv_iload hx hb dX5_latenessOf_11 (lv_at hl 6 rfl) ?_
    refine lv_aload_n hx hb dX5_latenessOf_13 rfl (lv_at hl 0 rfl) ?_
    refine gf S hE hP 0 rfl rfl inX5 (k := 2) (by decide) q99 rfl dX5_latenessOf_14 ?_
    refine lv_iload_n hx hb dX5_latenessOf_17 rfl (lv_at hl 2 rfl) ?_
    refine ro_i (roV S hE hT hS (c_X8_notesOf h) lkX5_83 rfl ⟨(Nat.le_of_ble_eq_true rfl), (Nat.le_of_ble_eq_true rfl)⟩ (hP.sub [9, 11] rfl) 0 rfl rfl hl.1 rfl (Nat.le_of_ble_eq_true rfl) dX5_latenessOf_18 ⟨(Nat.zero_le _), (Nat.zero_le _)⟩) (fun r18 h => ?_)
    refine lv_icmp_ge (tgt := 86) hx hb dX5_latenessOf_21 (by decide) (fun hc => ?_) (fun hc => ?_)
    · have h := h.1 hc
      refine lv_iload_n hx hb dX5_latenessOf_86 rfl (lv_at hl 3 rfl) ?_
      exact W.iret hx hb hr (fun t ht _ => ⟨_, rfl, h, ht⟩) (fun _ hq => by cases hq) dX5_latenessOf_87
    have h := h.2 hc
    refine lv_iload_n hx hb dX5_latenessOf_24 rfl (lv_at hl 3 rfl) ?_
    refine lv_iload hx hb dX5_latenessOf_25 (lv_at hl 4 rfl) ?_
    refine lv_iload hx hb dX5_latenessOf_27 (lv_at hl 5 rfl) ?_
    refine lv_isub hx hb dX5_latenessOf_29 ?_
    refine va_mabs hx hb (S.2.2.1.trans hl.1.symm) S.2.2.2.1 (S.2.2.2.2 _ q787) (S.2.2.2.2 _ q756) (S.2.2.2.2 _ q10) (S.2.2.2.2 _ q757) (Nat.le_of_ble_eq_true rfl) (Nat.le_of_ble_eq_true rfl) (Nat.zero_le _) (Nat.zero_le _) dX5_latenessOf_30 ?_
    refine va_mmax hx hb (S.2.2.1.trans hl.1.symm) S.2.2.2.1 (S.2.2.2.2 _ q782) (S.2.2.2.2 _ q236) (S.2.2.2.2 _ q10) (S.2.2.2.2 _ q237) (Nat.le_of_ble_eq_true rfl) (Nat.le_of_ble_eq_true rfl) (Nat.zero_le _) (Nat.zero_le _) dX5_latenessOf_33 ?_
    refine lv_topi (fun x3_36 ex3_36 => ?_)
    have h := h _ ex3_36
    refine lv_istore_n (lv' := [(3, .int x3_36), (0, .ref a_o), (1, .int x1), (2, .int x2), (4, .int x4), (5, .int x5), (6, .int x6)]) hx hb dX5_latenessOf_36 rfl hl (by decide) rfl (fun ls hl => ?_)
    refine lv_iload hx hb dX5_latenessOf_37 (lv_at hl 4 rfl) ?_
    refine lv_aload_n hx hb dX5_latenessOf_39 rfl (lv_at hl 1 rfl) ?_
    refine gf S hE hP 0 rfl rfl inX5 (k := 0) (by decide) q93 rfl dX5_latenessOf_40 ?_
    refine lv_iload hx hb dX5_latenessOf_43 (lv_at hl 6 rfl) ?_
    refine lv_aload_n hx hb dX5_latenessOf_45 rfl (lv_at hl 1 rfl) ?_
    refine gf S hE hP 0 rfl rfl inX5 (k := 1) (by decide) q96 rfl dX5_latenessOf_46 ?_
    refine lv_iload_n hx hb dX5_latenessOf_49 rfl (lv_at hl 2 rfl) ?_
    refine ro_i (roV S hE hT hS (c_X1_speedOf h) lkX5_69 rfl ⟨(Nat.le_of_ble_eq_true rfl), (Nat.le_of_ble_eq_true rfl)⟩ (hP.sub [1, 2] rfl) 0 rfl rfl hl.1 rfl (Nat.le_of_ble_eq_true rfl) dX5_latenessOf_50 ⟨(Nat.zero_le _), (Nat.zero_le _)⟩) (fun r50 h => ?_)
    refine ro_i (roV S hE hT hS (c_X7_lastingOf h) lkX5_98 rfl ⟨(Nat.le_of_ble_eq_true rfl), (Nat.le_of_ble_eq_true rfl)⟩ (hP.sub [4, 5, 6, 7, 8] rfl) 0 rfl rfl hl.1 rfl (Nat.le_of_ble_eq_true rfl) dX5_latenessOf_53 ⟨(Nat.zero_le _), (Nat.zero_le _)⟩) (fun r53 h => ?_)
    refine lv_iadd hx hb dX5_latenessOf_56 ?_
    refine lv_topi (fun x4_57 ex4_57 => ?_)
    have h := h _ ex4_57
    refine lv_istore (lv' := [(4, .int x4_57), (3, .int x3_36), (0, .ref a_o), (1, .int x1), (2, .int x2), (5, .int x5), (6, .int x6)]) hx hb dX5_latenessOf_57 hl (by decide) rfl (fun ls hl => ?_)
    refine lv_iload hx hb dX5_latenessOf_59 (lv_at hl 5 rfl) ?_
    refine lv_aload_n hx hb dX5_latenessOf_61 rfl (lv_at hl 2 rfl) ?_
    refine gf S hE hP 0 rfl rfl inX5 (k := 2) (by decide) q99 rfl dX5_latenessOf_62 ?_
    refine lv_iload_n hx hb dX5_latenessOf_65 rfl (lv_at hl 4 rfl) ?_
    refine lv_iload hx hb dX5_latenessOf_66 (lv_at hl 6 rfl) ?_
    refine ro_i (roV S hE hT hS (c_X8_beatsOf h) lkX5_101 rfl ⟨(Nat.le_of_ble_eq_true rfl), (Nat.le_of_ble_eq_true rfl)⟩ (hP.sub [9, 10, 11] rfl) 0 rfl rfl hl.1 rfl (Nat.le_of_ble_eq_true rfl) dX5_latenessOf_68 ⟨(Nat.zero_le _), (Nat.zero_le _)⟩) (fun r68 h => ?_)
    refine lv_aload_n hx hb dX5_latenessOf_71 rfl (lv_at hl 2 rfl) ?_
    refine lv_iconst (v := 3) hx hb dX5_latenessOf_72 (by decide) ?_
    refine ro_i (roV S hE hT hS (c_X5_asked h) lkX5_104 rfl ⟨(Nat.le_of_ble_eq_true rfl), (Nat.le_of_ble_eq_true rfl)⟩ (hP.sub [0, 3] rfl) 0 rfl rfl hl.1 rfl (Nat.le_of_ble_eq_true rfl) dX5_latenessOf_73 ⟨(Nat.zero_le _), (Nat.zero_le _)⟩) (fun r73 h => ?_)
    refine lv_imul hx hb dX5_latenessOf_76 ?_
    refine lv_iadd hx hb dX5_latenessOf_77 ?_
    refine lv_topi (fun x5_78 ex5_78 => ?_)
    have h := h _ ex5_78
    refine lv_istore (lv' := [(5, .int x5_78), (4, .int x4_57), (3, .int x3_36), (0, .ref a_o), (1, .int x1), (2, .int x2), (6, .int x6)]) hx hb dX5_latenessOf_78 hl (by decide) rfl (fun ls hl => ?_)
    obtain ⟨x6_80, ex6_80⟩ : ∃ z : Int32, z = x6 + 1 := ⟨_, rfl⟩
    have h := h _ ex6_80
    refine lv_iinc (v := x6_80) (lv' := [(6, .int x6_80), (5, .int x5_78), (4, .int x4_57), (3, .int x3_36), (0, .ref a_o), (1, .int x1), (2, .int x2)]) hx hb dX5_latenessOf_80 hl (k := 6) rfl (by rw [ex6_80]; rfl) (by decide) rfl (fun ls hl => ?_)
    refine lv_goto (tgt := 11) hx hb dX5_latenessOf_83 (by decide) ?_
    exact ih _ _ _ _ _ h (lv_sub hl [4, 5, 6, 3, 2, 1, 0] rfl)
set_option maxHeartbeats 4000000 in
set_option maxRecDepth 100000 in
theorem c_X5_latenessOf {l : Launch} {D : va_G} {cI cJ cS : ClassId} {ad adK : Nat → Nat} {a_o a_cars a_cars_speeds a_demands a_stretches a_stretches_kinds a_stretches_others a_stretches_spaces a_stretches_times a_tunes a_tunes_beats a_tunes_noteCounts : Nat} {z_cars_bases z_cars_shares z_tunes_pitches : Value} {v_drawSeed : Int32} {v_cars_carCount : Int32} {f_cars_speeds : Nat → Int32} {f_demands : Nat → Int32} {v_stretches_stretchCount : Int32} {f_stretches_kinds : Nat → Int32} {f_stretches_others : Nat → Int32} {f_stretches_spaces : Nat → Int32} {f_stretches_times : Nat → Int32} {v_tunes_tuneCount : Int32} {f_tunes_beats : Nat → Int32} {f_tunes_noteCounts : Nat → Int32} {x1 : Int32} {x2 : Int32} {post : Int32 → Prop} (h : F_X5_latenessOf v_cars_carCount f_cars_speeds f_demands v_stretches_stretchCount f_stretches_kinds f_stretches_others f_stretches_spaces f_stretches_times v_tunes_tuneCount f_tunes_beats f_tunes_noteCounts x1 x2 post) : Met l yX5_latenessOf (Cond.code yX5_latenessOf cX5_latenessOf 7 (some (.int)) :: GW) (rmd 4 0 0) (PR D cI cJ cS ad adK [.ref a_o, .int x1, .int x2] (wX5_latenessOf cI cJ cS a_o a_cars a_cars_speeds a_demands a_stretches a_stretches_kinds a_stretches_others a_stretches_spaces a_stretches_times a_tunes a_tunes_beats a_tunes_noteCounts z_cars_bases z_cars_shares z_tunes_pitches v_drawSeed v_cars_carCount f_cars_speeds f_demands v_stretches_stretchCount f_stretches_kinds f_stretches_others f_stretches_spaces f_stretches_times v_tunes_tuneCount f_tunes_beats f_tunes_noteCounts)) (vp_Si post) 0 0 nof := by
  refine Met.ro (by decide) (Nat.le_of_ble_eq_true rfl) (fun p e s m args below meth c ls (S : CallFix p m c cX5_latenessOf 7 s args GW "RoadThatSings$Road") hE hT hP hS hr hlocks hl => ?_)
  have hx := S.1
  have hb := S.2.1
  have hl : lv_has ls 7 [(0, .ref a_o), (1, .int x1), (2, .int x2)] := hl
  unfold F_X5_latenessOf at h
  refine lv_iconst (v := 0) hx hb dX5_latenessOf_0 (by decide) ?_
  refine lv_istore_n (lv' := [(3, .int 0), (0, .ref a_o), (1, .int x1), (2, .int x2)]) hx hb dX5_latenessOf_1 rfl hl (by decide) rfl (fun ls hl => ?_)
  refine lv_iconst (v := 0) hx hb dX5_latenessOf_2 (by decide) ?_
  refine lv_istore (lv' := [(4, .int 0), (3, .int 0), (0, .ref a_o), (1, .int x1), (2, .int x2)]) hx hb dX5_latenessOf_3 hl (by decide) rfl (fun ls hl => ?_)
  refine lv_iconst (v := 0) hx hb dX5_latenessOf_5 (by decide) ?_
  refine lv_istore (lv' := [(5, .int 0), (4, .int 0), (3, .int 0), (0, .ref a_o), (1, .int x1), (2, .int x2)]) hx hb dX5_latenessOf_6 hl (by decide) rfl (fun ls hl => ?_)
  refine lv_iconst (v := 0) hx hb dX5_latenessOf_8 (by decide) ?_
  refine lv_istore (lv' := [(6, .int 0), (5, .int 0), (4, .int 0), (3, .int 0), (0, .ref a_o), (1, .int x1), (2, .int x2)]) hx hb dX5_latenessOf_9 hl (by decide) rfl (fun ls hl => ?_)
  obtain ⟨n, h⟩ := h
  refine w_X5_latenessOf_11 S hE hT hP hS hr hlocks n _ _ _ _ _ h (lv_sub hl [4, 5, 6, 3, 2, 1, 0] rfl)
/-! X5_isHeardBy -/
abbrev wX5_isHeardBy (cI cJ cS : ClassId) (a_o a_cars a_cars_speeds a_demands a_stretches a_stretches_kinds a_stretches_others a_stretches_spaces a_tunes a_tunes_noteCounts a_tunes_pitches : Nat) (z_cars_bases z_cars_shares z_stretches_times z_tunes_beats : Value) (v_drawSeed : Int32) (v_cars_carCount : Int32) (f_cars_speeds : Nat → Int32) (f_demands : Nat → Int32) (v_stretches_stretchCount : Int32) (f_stretches_kinds : Nat → Int32) (f_stretches_others : Nat → Int32) (f_stretches_spaces : Nat → Int32) (v_tunes_tuneCount : Int32) (f_tunes_noteCounts : Nat → Int32) (f_tunes_pitches : Nat → Int32) : va_W := [(a_o, .inr (4, [.ref a_stretches, .ref a_cars, .ref a_tunes, .ref a_demands, .int v_drawSeed])), (a_cars, .inr (1, [.ref a_cars_speeds, z_cars_bases, z_cars_shares, .int v_cars_carCount])), (a_cars_speeds, .inl (cI, 6, .inl f_cars_speeds)), (a_demands, .inl (cI, 4, .inl f_demands)), (a_stretches, .inr (6, [.ref a_stretches_kinds, .ref a_stretches_spaces, .ref a_stretches_others, z_stretches_times, .int v_stretches_stretchCount])), (a_stretches_kinds, .inl (cI, 16, .inl f_stretches_kinds)), (a_stretches_others, .inl (cI, 16, .inl f_stretches_others)), (a_stretches_spaces, .inl (cI, 16, .inl f_stretches_spaces)), (a_tunes, .inr (7, [.ref a_tunes_pitches, z_tunes_beats, .ref a_tunes_noteCounts, .int v_tunes_tuneCount])), (a_tunes_noteCounts, .inl (cI, 6, .inl f_tunes_noteCounts)), (a_tunes_pitches, .inl (cI, 72, .inl f_tunes_pitches))]
def F_X5_isHeardBy (v_cars_carCount : Int32) (f_cars_speeds : Nat → Int32) (f_demands : Nat → Int32) (v_stretches_stretchCount : Int32) (f_stretches_kinds : Nat → Int32) (f_stretches_others : Nat → Int32) (f_stretches_spaces : Nat → Int32) (v_tunes_tuneCount : Int32) (f_tunes_noteCounts : Nat → Int32) (f_tunes_pitches : Nat → Int32) (x1 : Int32) (x2 : Int32) (post : Int32 → Prop) : Prop := (F_X5_worstOf v_cars_carCount f_cars_speeds v_stretches_stretchCount f_stretches_kinds f_stretches_others f_stretches_spaces v_tunes_tuneCount f_tunes_noteCounts f_tunes_pitches x1 x2 (fun r3 => (F_X5_asked f_demands 2 (fun r8 => ((r8 < r3 → post 0) ∧ (¬ r8 < r3 → post 1))))))
set_option maxHeartbeats 4000000 in
set_option maxRecDepth 100000 in
theorem c_X5_isHeardBy {l : Launch} {D : va_G} {cI cJ cS : ClassId} {ad adK : Nat → Nat} {a_o a_cars a_cars_speeds a_demands a_stretches a_stretches_kinds a_stretches_others a_stretches_spaces a_tunes a_tunes_noteCounts a_tunes_pitches : Nat} {z_cars_bases z_cars_shares z_stretches_times z_tunes_beats : Value} {v_drawSeed : Int32} {v_cars_carCount : Int32} {f_cars_speeds : Nat → Int32} {f_demands : Nat → Int32} {v_stretches_stretchCount : Int32} {f_stretches_kinds : Nat → Int32} {f_stretches_others : Nat → Int32} {f_stretches_spaces : Nat → Int32} {v_tunes_tuneCount : Int32} {f_tunes_noteCounts : Nat → Int32} {f_tunes_pitches : Nat → Int32} {x1 : Int32} {x2 : Int32} {post : Int32 → Prop} (h : F_X5_isHeardBy v_cars_carCount f_cars_speeds f_demands v_stretches_stretchCount f_stretches_kinds f_stretches_others f_stretches_spaces v_tunes_tuneCount f_tunes_noteCounts f_tunes_pitches x1 x2 post) : Met l yX5_isHeardBy (Cond.code yX5_isHeardBy cX5_isHeardBy 3 (some (.boolean)) :: GW) (rmd 5 0 0) (PR D cI cJ cS ad adK [.ref a_o, .int x1, .int x2] (wX5_isHeardBy cI cJ cS a_o a_cars a_cars_speeds a_demands a_stretches a_stretches_kinds a_stretches_others a_stretches_spaces a_tunes a_tunes_noteCounts a_tunes_pitches z_cars_bases z_cars_shares z_stretches_times z_tunes_beats v_drawSeed v_cars_carCount f_cars_speeds f_demands v_stretches_stretchCount f_stretches_kinds f_stretches_others f_stretches_spaces v_tunes_tuneCount f_tunes_noteCounts f_tunes_pitches)) (vp_Si post) 0 0 nof := by
  refine Met.ro (by decide) (Nat.le_of_ble_eq_true rfl) (fun p e s m args below meth c ls (S : CallFix p m c cX5_isHeardBy 3 s args GW "RoadThatSings$Road") hE hT hP hS hr hlocks hl => ?_)
  have hx := S.1
  have hb := S.2.1
  have hl : lv_has ls 3 [(0, .ref a_o), (1, .int x1), (2, .int x2)] := hl
  unfold F_X5_isHeardBy at h
  refine lv_aload_n hx hb dX5_isHeardBy_0 rfl (lv_at hl 0 rfl) ?_
  refine lv_iload_n hx hb dX5_isHeardBy_1 rfl (lv_at hl 1 rfl) ?_
  refine lv_iload_n hx hb dX5_isHeardBy_2 rfl (lv_at hl 2 rfl) ?_
  refine ro_i (roV S hE hT hS (c_X5_worstOf h) lkX5_107 rfl ⟨(Nat.le_of_ble_eq_true rfl), (Nat.le_of_ble_eq_true rfl)⟩ (hP.sub [0, 1, 2, 4, 5, 6, 7, 8, 9, 10] rfl) 0 rfl rfl hl.1 rfl (Nat.le_of_ble_eq_true rfl) dX5_isHeardBy_3 ⟨(Nat.zero_le _), (Nat.zero_le _)⟩) (fun r3 h => ?_)
  refine lv_aload_n hx hb dX5_isHeardBy_6 rfl (lv_at hl 0 rfl) ?_
  refine lv_iconst (v := 2) hx hb dX5_isHeardBy_7 (by decide) ?_
  refine ro_i (roV S hE hT hS (c_X5_asked h) lkX5_104 rfl ⟨(Nat.le_of_ble_eq_true rfl), (Nat.le_of_ble_eq_true rfl)⟩ (hP.sub [0, 3] rfl) 0 rfl rfl hl.1 rfl (Nat.le_of_ble_eq_true rfl) dX5_isHeardBy_8 ⟨(Nat.zero_le _), (Nat.zero_le _)⟩) (fun r8 h => ?_)
  refine lv_icmp_gt (tgt := 18) hx hb dX5_isHeardBy_11 (by decide) (fun hc => ?_) (fun hc => ?_)
  · have h := h.1 hc
    refine lv_iconst (v := 0) hx hb dX5_isHeardBy_18 (by decide) ?_
    exact W.zret hx hb hr rfl (fun t ht _ => ⟨_, rfl, h, ht⟩) (fun _ hq => by cases hq) dX5_isHeardBy_19
  have h := h.2 hc
  refine lv_iconst (v := 1) hx hb dX5_isHeardBy_14 (by decide) ?_
  refine lv_goto (tgt := 19) hx hb dX5_isHeardBy_15 (by decide) ?_
  exact W.zret hx hb hr rfl (fun t ht _ => ⟨_, rfl, h, ht⟩) (fun _ hq => by cases hq) dX5_isHeardBy_19
/-! X5_hearingCars -/
abbrev wX5_hearingCars (cI cJ cS : ClassId) (a_o a_cars a_cars_speeds a_demands a_stretches a_stretches_kinds a_stretches_others a_stretches_spaces a_tunes a_tunes_noteCounts a_tunes_pitches : Nat) (z_cars_bases z_cars_shares z_stretches_times z_tunes_beats : Value) (v_drawSeed : Int32) (v_cars_carCount : Int32) (f_cars_speeds : Nat → Int32) (f_demands : Nat → Int32) (v_stretches_stretchCount : Int32) (f_stretches_kinds : Nat → Int32) (f_stretches_others : Nat → Int32) (f_stretches_spaces : Nat → Int32) (v_tunes_tuneCount : Int32) (f_tunes_noteCounts : Nat → Int32) (f_tunes_pitches : Nat → Int32) : va_W := [(a_o, .inr (4, [.ref a_stretches, .ref a_cars, .ref a_tunes, .ref a_demands, .int v_drawSeed])), (a_cars, .inr (1, [.ref a_cars_speeds, z_cars_bases, z_cars_shares, .int v_cars_carCount])), (a_cars_speeds, .inl (cI, 6, .inl f_cars_speeds)), (a_demands, .inl (cI, 4, .inl f_demands)), (a_stretches, .inr (6, [.ref a_stretches_kinds, .ref a_stretches_spaces, .ref a_stretches_others, z_stretches_times, .int v_stretches_stretchCount])), (a_stretches_kinds, .inl (cI, 16, .inl f_stretches_kinds)), (a_stretches_others, .inl (cI, 16, .inl f_stretches_others)), (a_stretches_spaces, .inl (cI, 16, .inl f_stretches_spaces)), (a_tunes, .inr (7, [.ref a_tunes_pitches, z_tunes_beats, .ref a_tunes_noteCounts, .int v_tunes_tuneCount])), (a_tunes_noteCounts, .inl (cI, 6, .inl f_tunes_noteCounts)), (a_tunes_pitches, .inl (cI, 72, .inl f_tunes_pitches))]
def F_X5_hearingCars_35 (k4 : Int32 → Int32 → Prop) (x1 : Int32) (x2 : Int32) (x3 : Int32) : Prop := (∀ x3_35 : Int32, x3_35 = x3 + 1 → k4 x2 x3_35)
def L_X5_hearingCars_4 (v_cars_carCount : Int32) (f_cars_speeds : Nat → Int32) (f_demands : Nat → Int32) (v_stretches_stretchCount : Int32) (f_stretches_kinds : Nat → Int32) (f_stretches_others : Nat → Int32) (f_stretches_spaces : Nat → Int32) (v_tunes_tuneCount : Int32) (f_tunes_noteCounts : Nat → Int32) (f_tunes_pitches : Nat → Int32) (x1 : Int32) (post : Int32 → Prop) : Nat → Int32 → Int32 → Prop
  | 0, _, _ => False
  | n4 + 1, x2, x3 => (F_X1_count v_cars_carCount (fun r9 => ((r9 ≤ x3 → post x2) ∧ (¬ r9 ≤ x3 → (F_X5_worstOf v_cars_carCount f_cars_speeds v_stretches_stretchCount f_stretches_kinds f_stretches_others f_stretches_spaces v_tunes_tuneCount f_tunes_noteCounts f_tunes_pitches x3 x1 (fun r18 => (F_X5_asked f_demands 2 (fun r23 => ((r23 < r18 → F_X5_hearingCars_35 (fun x2 x3 => L_X5_hearingCars_4 v_cars_carCount f_cars_speeds f_demands v_stretches_stretchCount f_stretches_kinds f_stretches_others f_stretches_spaces v_tunes_tuneCount f_tunes_noteCounts f_tunes_pitches x1 post n4 x2 x3) x1 x2 x3) ∧ (¬ r23 < r18 → (∀ x2_34 : Int32, x2_34 = x2 ||| (1 <<< (x3 &&& 31)) → F_X5_hearingCars_35 (fun x2 x3 => L_X5_hearingCars_4 v_cars_carCount f_cars_speeds f_demands v_stretches_stretchCount f_stretches_kinds f_stretches_others f_stretches_spaces v_tunes_tuneCount f_tunes_noteCounts f_tunes_pitches x1 post n4 x2 x3) x1 x2_34 x3)))))))))))
def F_X5_hearingCars (v_cars_carCount : Int32) (f_cars_speeds : Nat → Int32) (f_demands : Nat → Int32) (v_stretches_stretchCount : Int32) (f_stretches_kinds : Nat → Int32) (f_stretches_others : Nat → Int32) (f_stretches_spaces : Nat → Int32) (v_tunes_tuneCount : Int32) (f_tunes_noteCounts : Nat → Int32) (f_tunes_pitches : Nat → Int32) (x1 : Int32) (post : Int32 → Prop) : Prop := (∃ n4 : Nat, L_X5_hearingCars_4 v_cars_carCount f_cars_speeds f_demands v_stretches_stretchCount f_stretches_kinds f_stretches_others f_stretches_spaces v_tunes_tuneCount f_tunes_noteCounts f_tunes_pitches x1 post n4 0 0)
set_option maxHeartbeats 4000000 in
set_option maxRecDepth 100000 in
theorem w_X5_hearingCars_35 {l : Launch} {D : va_G} {cI cJ cS : ClassId} {ad adK : Nat → Nat} {a_o a_cars a_cars_speeds a_demands a_stretches a_stretches_kinds a_stretches_others a_stretches_spaces a_tunes a_tunes_noteCounts a_tunes_pitches : Nat} {z_cars_bases z_cars_shares z_stretches_times z_tunes_beats : Value} {v_drawSeed : Int32} {v_cars_carCount : Int32} {f_cars_speeds : Nat → Int32} {f_demands : Nat → Int32} {v_stretches_stretchCount : Int32} {f_stretches_kinds : Nat → Int32} {f_stretches_others : Nat → Int32} {f_stretches_spaces : Nat → Int32} {v_tunes_tuneCount : Int32} {f_tunes_noteCounts : Nat → Int32} {f_tunes_pitches : Nat → Int32} {x1 : Int32} {x2 : Int32} {x3 : Int32} {post : Int32 → Prop} {k4 : Int32 → Int32 → Prop} {p : Program} {e : Env} {s : State} {m : MethodId} {args : Array Value} {below : List Frame} {meth : Method} {c : Code} (S : CallFix p m c cX5_hearingCars 4 s args GW "RoadThatSings$Road") (hE : EN D cI cJ cS s) (hT : ST ad adK nof s s.heap) (hP : va_P D vwCl (wX5_hearingCars cI cJ cS a_o a_cars a_cars_speeds a_demands a_stretches a_stretches_kinds a_stretches_others a_stretches_spaces a_tunes a_tunes_noteCounts a_tunes_pitches z_cars_bases z_cars_shares z_stretches_times z_tunes_beats v_drawSeed v_cars_carCount f_cars_speeds f_demands v_stretches_stretchCount f_stretches_kinds f_stretches_others f_stretches_spaces v_tunes_tuneCount f_tunes_noteCounts f_tunes_pitches) s.heap) (hS : va_S nof s.heap s.heap []) (hr : meth.sig.returnType = (some (.int))) (hlocks : meth.locks = false) (hk4 : ∀ (x2 : Int32) (x3 : Int32) (ls : Array Slot), k4 x2 x3 → lv_has ls 4 [(0, .ref a_o), (1, .int x1), (2, .int x2), (3, .int x3)] → W p l e (rmd 5 0 0) s m args below meth c s.heap [] 0 0 (MQ below (vp_Si post) args s 0 0 nof) (F0 m 4 ls [])) : ∀ (ls : Array Slot), F_X5_hearingCars_35 k4 x1 x2 x3 → lv_has ls 4 [(0, .ref a_o), (1, .int x1), (2, .int x2), (3, .int x3)] → W p l e (rmd 5 0 0) s m args below meth c s.heap [] 0 0 (MQ below (vp_Si post) args s 0 0 nof) (F0 m 35 ls []) := by
  intro  ls h hl
  unfold F_X5_hearingCars_35 at h
  have hx := S.1
  have hb := S.2.1
  obtain ⟨x3_35, ex3_35⟩ : ∃ z : Int32, z = x3 + 1 := ⟨_, rfl⟩
  have h := h _ ex3_35
  refine lv_iinc (v := x3_35) (lv' := [(3, .int x3_35), (0, .ref a_o), (1, .int x1), (2, .int x2)]) hx hb dX5_hearingCars_35 hl (k := 3) rfl (by rw [ex3_35]; rfl) (by decide) rfl (fun ls hl => ?_)
  refine lv_goto (tgt := 4) hx hb dX5_hearingCars_38 (by decide) ?_
  exact hk4 _ _ _ h (lv_sub hl [1, 2, 3, 0] rfl)
set_option maxHeartbeats 4000000 in
set_option maxRecDepth 100000 in
theorem w_X5_hearingCars_4 {l : Launch} {D : va_G} {cI cJ cS : ClassId} {ad adK : Nat → Nat} {a_o a_cars a_cars_speeds a_demands a_stretches a_stretches_kinds a_stretches_others a_stretches_spaces a_tunes a_tunes_noteCounts a_tunes_pitches : Nat} {z_cars_bases z_cars_shares z_stretches_times z_tunes_beats : Value} {v_drawSeed : Int32} {v_cars_carCount : Int32} {f_cars_speeds : Nat → Int32} {f_demands : Nat → Int32} {v_stretches_stretchCount : Int32} {f_stretches_kinds : Nat → Int32} {f_stretches_others : Nat → Int32} {f_stretches_spaces : Nat → Int32} {v_tunes_tuneCount : Int32} {f_tunes_noteCounts : Nat → Int32} {f_tunes_pitches : Nat → Int32} {x1 : Int32} {post : Int32 → Prop} {p : Program} {e : Env} {s : State} {m : MethodId} {args : Array Value} {below : List Frame} {meth : Method} {c : Code} (S : CallFix p m c cX5_hearingCars 4 s args GW "RoadThatSings$Road") (hE : EN D cI cJ cS s) (hT : ST ad adK nof s s.heap) (hP : va_P D vwCl (wX5_hearingCars cI cJ cS a_o a_cars a_cars_speeds a_demands a_stretches a_stretches_kinds a_stretches_others a_stretches_spaces a_tunes a_tunes_noteCounts a_tunes_pitches z_cars_bases z_cars_shares z_stretches_times z_tunes_beats v_drawSeed v_cars_carCount f_cars_speeds f_demands v_stretches_stretchCount f_stretches_kinds f_stretches_others f_stretches_spaces v_tunes_tuneCount f_tunes_noteCounts f_tunes_pitches) s.heap) (hS : va_S nof s.heap s.heap []) (hr : meth.sig.returnType = (some (.int))) (hlocks : meth.locks = false) : ∀ n : Nat, ∀ (x2 : Int32) (x3 : Int32) (ls : Array Slot), L_X5_hearingCars_4 v_cars_carCount f_cars_speeds f_demands v_stretches_stretchCount f_stretches_kinds f_stretches_others f_stretches_spaces v_tunes_tuneCount f_tunes_noteCounts f_tunes_pitches x1 post n x2 x3 → lv_has ls 4 [(0, .ref a_o), (1, .int x1), (2, .int x2), (3, .int x3)] → W p l e (rmd 5 0 0) s m args below meth c s.heap [] 0 0 (MQ below (vp_Si post) args s 0 0 nof) (F0 m 4 ls []) := by
  intro n
  induction n with
  | zero =>
    intro x2 x3 ls h hl
    exact h.elim
  | succ n ih =>
    intro x2 x3 ls h hl
    rw [L_X5_hearingCars_4] at h
    have hx := S.1
    have hb := S.2.1
    refine lv_iload_n hx hb dX5_hearingCars_4 rfl (lv_at hl 3 rfl) ?_
    refine lv_aload_n hx hb dX5_hearingCars_5 rfl (lv_at hl 0 rfl) ?_
    refine gf S hE hP 0 rfl rfl inX5 (k := 1) (by decide) q96 rfl dX5_hearingCars_6 ?_
    refine ro_i (roV S hE hT hS (c_X1_count h) lkX5_110 rfl ⟨(Nat.le_of_ble_eq_true rfl), (Nat.le_of_ble_eq_true rfl)⟩ (hP.sub [1] rfl) 0 rfl rfl hl.1 rfl (Nat.le_of_ble_eq_true rfl) dX5_hearingCars_9 ⟨(Nat.zero_le _), (Nat.zero_le _)⟩) (fun r9 h => ?_)
    refine lv_icmp_ge (tgt := 41) hx hb dX5_hearingCars_12 (by decide) (fun hc => ?_) (fun hc => ?_)
    · have h := h.1 hc
      refine lv_iload_n hx hb dX5_hearingCars_41 rfl (lv_at hl 2 rfl) ?_
      exact W.iret hx hb hr (fun t ht _ => ⟨_, rfl, h, ht⟩) (fun _ hq => by cases hq) dX5_hearingCars_42
    have h := h.2 hc
    refine lv_aload_n hx hb dX5_hearingCars_15 rfl (lv_at hl 0 rfl) ?_
    refine lv_iload_n hx hb dX5_hearingCars_16 rfl (lv_at hl 3 rfl) ?_
    refine lv_iload_n hx hb dX5_hearingCars_17 rfl (lv_at hl 1 rfl) ?_
    refine ro_i (roV S hE hT hS (c_X5_worstOf h) lkX5_107 rfl ⟨(Nat.le_of_ble_eq_true rfl), (Nat.le_of_ble_eq_true rfl)⟩ (hP.sub [0, 1, 2, 4, 5, 6, 7, 8, 9, 10] rfl) 0 rfl rfl hl.1 rfl (Nat.le_of_ble_eq_true rfl) dX5_hearingCars_18 ⟨(Nat.zero_le _), (Nat.zero_le _)⟩) (fun r18 h => ?_)
    refine lv_aload_n hx hb dX5_hearingCars_21 rfl (lv_at hl 0 rfl) ?_
    refine lv_iconst (v := 2) hx hb dX5_hearingCars_22 (by decide) ?_
    refine ro_i (roV S hE hT hS (c_X5_asked h) lkX5_104 rfl ⟨(Nat.le_of_ble_eq_true rfl), (Nat.le_of_ble_eq_true rfl)⟩ (hP.sub [0, 3] rfl) 0 rfl rfl hl.1 rfl (Nat.le_of_ble_eq_true rfl) dX5_hearingCars_23 ⟨(Nat.zero_le _), (Nat.zero_le _)⟩) (fun r23 h => ?_)
    refine lv_icmp_gt (tgt := 35) hx hb dX5_hearingCars_26 (by decide) (fun hc => ?_) (fun hc => ?_)
    · have h := h.1 hc
      refine w_X5_hearingCars_35 S hE hT hP hS hr hlocks ih _ h (lv_sub hl [0, 1, 2, 3] rfl)
    have h := h.2 hc
    refine lv_iload_n hx hb dX5_hearingCars_29 rfl (lv_at hl 2 rfl) ?_
    refine lv_iconst (v := 1) hx hb dX5_hearingCars_30 (by decide) ?_
    refine lv_iload_n hx hb dX5_hearingCars_31 rfl (lv_at hl 3 rfl) ?_
    refine lv_ishl hx hb dX5_hearingCars_32 ?_
    refine lv_ior hx hb dX5_hearingCars_33 ?_
    refine lv_topi (fun x2_34 ex2_34 => ?_)
    have h := h _ ex2_34
    refine lv_istore_n (lv' := [(2, .int x2_34), (0, .ref a_o), (1, .int x1), (3, .int x3)]) hx hb dX5_hearingCars_34 rfl hl (by decide) rfl (fun ls hl => ?_)
    refine w_X5_hearingCars_35 S hE hT hP hS hr hlocks ih _ h (lv_sub hl [1, 2, 0, 3] rfl)
set_option maxHeartbeats 4000000 in
set_option maxRecDepth 100000 in
theorem c_X5_hearingCars {l : Launch} {D : va_G} {cI cJ cS : ClassId} {ad adK : Nat → Nat} {a_o a_cars a_cars_speeds a_demands a_stretches a_stretches_kinds a_stretches_others a_stretches_spaces a_tunes a_tunes_noteCounts a_tunes_pitches : Nat} {z_cars_bases z_cars_shares z_stretches_times z_tunes_beats : Value} {v_drawSeed : Int32} {v_cars_carCount : Int32} {f_cars_speeds : Nat → Int32} {f_demands : Nat → Int32} {v_stretches_stretchCount : Int32} {f_stretches_kinds : Nat → Int32} {f_stretches_others : Nat → Int32} {f_stretches_spaces : Nat → Int32} {v_tunes_tuneCount : Int32} {f_tunes_noteCounts : Nat → Int32} {f_tunes_pitches : Nat → Int32} {x1 : Int32} {post : Int32 → Prop} (h : F_X5_hearingCars v_cars_carCount f_cars_speeds f_demands v_stretches_stretchCount f_stretches_kinds f_stretches_others f_stretches_spaces v_tunes_tuneCount f_tunes_noteCounts f_tunes_pitches x1 post) : Met l yX5_hearingCars (Cond.code yX5_hearingCars cX5_hearingCars 4 (some (.int)) :: GW) (rmd 5 0 0) (PR D cI cJ cS ad adK [.ref a_o, .int x1] (wX5_hearingCars cI cJ cS a_o a_cars a_cars_speeds a_demands a_stretches a_stretches_kinds a_stretches_others a_stretches_spaces a_tunes a_tunes_noteCounts a_tunes_pitches z_cars_bases z_cars_shares z_stretches_times z_tunes_beats v_drawSeed v_cars_carCount f_cars_speeds f_demands v_stretches_stretchCount f_stretches_kinds f_stretches_others f_stretches_spaces v_tunes_tuneCount f_tunes_noteCounts f_tunes_pitches)) (vp_Si post) 0 0 nof := by
  refine Met.ro (by decide) (Nat.le_of_ble_eq_true rfl) (fun p e s m args below meth c ls (S : CallFix p m c cX5_hearingCars 4 s args GW "RoadThatSings$Road") hE hT hP hS hr hlocks hl => ?_)
  have hx := S.1
  have hb := S.2.1
  have hl : lv_has ls 4 [(0, .ref a_o), (1, .int x1)] := hl
  unfold F_X5_hearingCars at h
  refine lv_iconst (v := 0) hx hb dX5_hearingCars_0 (by decide) ?_
  refine lv_istore_n (lv' := [(2, .int 0), (0, .ref a_o), (1, .int x1)]) hx hb dX5_hearingCars_1 rfl hl (by decide) rfl (fun ls hl => ?_)
  refine lv_iconst (v := 0) hx hb dX5_hearingCars_2 (by decide) ?_
  refine lv_istore_n (lv' := [(3, .int 0), (2, .int 0), (0, .ref a_o), (1, .int x1)]) hx hb dX5_hearingCars_3 rfl hl (by decide) rfl (fun ls hl => ?_)
  obtain ⟨n, h⟩ := h
  refine w_X5_hearingCars_4 S hE hT hP hS hr hlocks n _ _ _ h (lv_sub hl [2, 3, 1, 0] rfl)
/-! X7_count -/
abbrev wX7_count (cI cJ cS : ClassId) (a_o : Nat) (z_kinds z_spaces z_others z_times : Value) (v_stretchCount : Int32) : va_W := [(a_o, .inr (6, [z_kinds, z_spaces, z_others, z_times, .int v_stretchCount]))]
def F_X7_count (v_stretchCount : Int32) (post : Int32 → Prop) : Prop := post v_stretchCount
set_option maxHeartbeats 4000000 in
set_option maxRecDepth 100000 in
theorem c_X7_count {l : Launch} {D : va_G} {cI cJ cS : ClassId} {ad adK : Nat → Nat} {a_o : Nat} {z_kinds z_spaces z_others z_times : Value} {v_stretchCount : Int32} {post : Int32 → Prop} (h : F_X7_count v_stretchCount post) : Met l yX7_count (Cond.code yX7_count cX7_count 1 (some (.int)) :: GW) (rmd 0 0 0) (PR D cI cJ cS ad adK [.ref a_o] (wX7_count cI cJ cS a_o z_kinds z_spaces z_others z_times v_stretchCount)) (vp_Si post) 0 0 nof := by
  refine Met.ro (by decide) (Nat.le_of_ble_eq_true rfl) (fun p e s m args below meth c ls (S : CallFix p m c cX7_count 1 s args GW "RoadThatSings$Stretches") hE hT hP hS hr hlocks hl => ?_)
  have hx := S.1
  have hb := S.2.1
  have hl : lv_has ls 1 [(0, .ref a_o)] := hl
  unfold F_X7_count at h
  refine lv_aload_n hx hb dX7_count_0 rfl (lv_at hl 0 rfl) ?_
  refine gf S hE hP 0 rfl rfl inX7 (k := 4) (by decide) q42 rfl dX7_count_1 ?_
  exact W.iret hx hb hr (fun t ht _ => ⟨_, rfl, h, ht⟩) (fun _ hq => by cases hq) dX7_count_4
/-! X7_spaceOf -/
abbrev wX7_spaceOf (cI cJ cS : ClassId) (a_o a_spaces : Nat) (z_kinds z_others z_times : Value) (v_stretchCount : Int32) (f_spaces : Nat → Int32) : va_W := [(a_o, .inr (6, [z_kinds, .ref a_spaces, z_others, z_times, .int v_stretchCount])), (a_spaces, .inl (cI, 16, .inl f_spaces))]
def F_X7_spaceOf (v_stretchCount : Int32) (f_spaces : Nat → Int32) (x1 : Int32) (post : Int32 → Prop) : Prop := (F_X7_has v_stretchCount x1 (fun r2 => ((r2 = 0 → post 0) ∧ (¬ r2 = 0 → (vp_in x1 16 ∧ post (f_spaces x1.toNatClampNeg))))))
set_option maxHeartbeats 4000000 in
set_option maxRecDepth 100000 in
theorem c_X7_spaceOf {l : Launch} {D : va_G} {cI cJ cS : ClassId} {ad adK : Nat → Nat} {a_o a_spaces : Nat} {z_kinds z_others z_times : Value} {v_stretchCount : Int32} {f_spaces : Nat → Int32} {x1 : Int32} {post : Int32 → Prop} (h : F_X7_spaceOf v_stretchCount f_spaces x1 post) : Met l yX7_spaceOf (Cond.code yX7_spaceOf cX7_spaceOf 2 (some (.int)) :: GW) (rmd 1 0 0) (PR D cI cJ cS ad adK [.ref a_o, .int x1] (wX7_spaceOf cI cJ cS a_o a_spaces z_kinds z_others z_times v_stretchCount f_spaces)) (vp_Si post) 0 0 nof := by
  refine Met.ro (by decide) (Nat.le_of_ble_eq_true rfl) (fun p e s m args below meth c ls (S : CallFix p m c cX7_spaceOf 2 s args GW "RoadThatSings$Stretches") hE hT hP hS hr hlocks hl => ?_)
  have hx := S.1
  have hb := S.2.1
  have hl : lv_has ls 2 [(0, .ref a_o), (1, .int x1)] := hl
  unfold F_X7_spaceOf at h
  refine lv_aload_n hx hb dX7_spaceOf_0 rfl (lv_at hl 0 rfl) ?_
  refine lv_iload_n hx hb dX7_spaceOf_1 rfl (lv_at hl 1 rfl) ?_
  refine ro_i (roV S hE hT hS (c_X7_has h) lkX7_47 rfl ⟨(Nat.le_of_ble_eq_true rfl), (Nat.le_of_ble_eq_true rfl)⟩ (hP.sub [0] rfl) 0 rfl rfl hl.1 rfl (Nat.le_of_ble_eq_true rfl) dX7_spaceOf_2 ⟨(Nat.zero_le _), (Nat.zero_le _)⟩) (fun r2 h => ?_)
  refine lv_if_eq (tgt := 17) hx hb dX7_spaceOf_5 (by decide) (fun hc => ?_) (fun hc => ?_)
  · have h := h.1 hc
    refine lv_iconst (v := 0) hx hb dX7_spaceOf_17 (by decide) ?_
    exact W.iret hx hb hr (fun t ht _ => ⟨_, rfl, h, ht⟩) (fun _ hq => by cases hq) dX7_spaceOf_18
  have h := h.2 hc
  refine lv_aload_n hx hb dX7_spaceOf_8 rfl (lv_at hl 0 rfl) ?_
  refine gf S hE hP 0 rfl rfl inX7 (k := 1) (by decide) q39 rfl dX7_spaceOf_9 ?_
  refine lv_iload_n hx hb dX7_spaceOf_12 rfl (lv_at hl 1 rfl) ?_
  obtain ⟨hi, h⟩ := h
  refine ial S hE hP 1 rfl hi dX7_spaceOf_13 ?_
  refine lv_goto (tgt := 18) hx hb dX7_spaceOf_14 (by decide) ?_
  exact W.iret hx hb hr (fun t ht _ => ⟨_, rfl, h, ht⟩) (fun _ hq => by cases hq) dX7_spaceOf_18
/-! X7_isNearerThan -/
abbrev wX7_isNearerThan (cI cJ cS : ClassId) (a_o a_kinds a_others a_spaces : Nat) (z_times : Value) (v_stretchCount : Int32) (f_kinds : Nat → Int32) (f_others : Nat → Int32) (f_spaces : Nat → Int32) : va_W := [(a_o, .inr (6, [.ref a_kinds, .ref a_spaces, .ref a_others, z_times, .int v_stretchCount])), (a_kinds, .inl (cI, 16, .inl f_kinds)), (a_others, .inl (cI, 16, .inl f_others)), (a_spaces, .inl (cI, 16, .inl f_spaces))]
def F_X7_isNearerThan_48 (v_stretchCount : Int32) (f_spaces : Nat → Int32) (post : Int32 → Prop) (x1 : Int32) (x2 : Int32) (s0 : Int32) : Prop := (F_X7_spaceOf v_stretchCount f_spaces x1 (fun r52 => ((r52 < x2 → post 1) ∧ (¬ r52 < x2 → ((s0 = 0 → post 0) ∧ (¬ s0 = 0 → post 1))))))
def F_X7_isNearerThan_47 (v_stretchCount : Int32) (f_spaces : Nat → Int32) (post : Int32 → Prop) (x1 : Int32) (x2 : Int32) : Prop := F_X7_isNearerThan_48 v_stretchCount f_spaces post x1 x2 0
def F_X7_isNearerThan (v_stretchCount : Int32) (f_kinds : Nat → Int32) (f_others : Nat → Int32) (f_spaces : Nat → Int32) (x1 : Int32) (x2 : Int32) (post : Int32 → Prop) : Prop := (F_X7_kindOf v_stretchCount f_kinds x1 (fun r2 => ((r2 = 6 → post 0) ∧ (¬ r2 = 6 → ((r2 = 3 → post 0) ∧ (¬ r2 = 3 → (F_X9_isOfTwoSpaces r2 (fun r20 => ((r20 = 0 → F_X7_isNearerThan_47 v_stretchCount f_spaces post x1 x2) ∧ (¬ r20 = 0 → (F_X7_otherOf v_stretchCount f_others x1 (fun r28 => ((r28 = 0 → F_X7_isNearerThan_47 v_stretchCount f_spaces post x1 x2) ∧ (¬ r28 = 0 → (F_X7_otherOf v_stretchCount f_others x1 (fun r36 => ((x2 ≤ r36 → F_X7_isNearerThan_47 v_stretchCount f_spaces post x1 x2) ∧ (¬ x2 ≤ r36 → F_X7_isNearerThan_48 v_stretchCount f_spaces post x1 x2 1))))))))))))))))))
set_option maxHeartbeats 4000000 in
set_option maxRecDepth 100000 in
theorem w_X7_isNearerThan_48 {l : Launch} {D : va_G} {cI cJ cS : ClassId} {ad adK : Nat → Nat} {a_o a_kinds a_others a_spaces : Nat} {z_times : Value} {v_stretchCount : Int32} {f_kinds : Nat → Int32} {f_others : Nat → Int32} {f_spaces : Nat → Int32} {x1 : Int32} {x2 : Int32} {s0 : Int32} {post : Int32 → Prop} {p : Program} {e : Env} {s : State} {m : MethodId} {args : Array Value} {below : List Frame} {meth : Method} {c : Code} (S : CallFix p m c cX7_isNearerThan 5 s args GW "RoadThatSings$Stretches") (hE : EN D cI cJ cS s) (hT : ST ad adK nof s s.heap) (hP : va_P D vwCl (wX7_isNearerThan cI cJ cS a_o a_kinds a_others a_spaces z_times v_stretchCount f_kinds f_others f_spaces) s.heap) (hS : va_S nof s.heap s.heap []) (hr : meth.sig.returnType = (some (.boolean))) (hlocks : meth.locks = false) : ∀ (ls : Array Slot), F_X7_isNearerThan_48 v_stretchCount f_spaces post x1 x2 s0 → lv_has ls 5 [(0, .ref a_o), (1, .int x1), (2, .int x2)] → W p l e (rmd 2 0 0) s m args below meth c s.heap [] 0 0 (MQ below (vp_Si post) args s 0 0 nof) (F0 m 48 ls [.int s0]) := by
  intro  ls h hl
  unfold F_X7_isNearerThan_48 at h
  have hx := S.1
  have hb := S.2.1
  refine lv_istore (lv' := [(4, .int s0), (0, .ref a_o), (1, .int x1), (2, .int x2)]) hx hb dX7_isNearerThan_48 hl (by decide) rfl (fun ls hl => ?_)
  refine lv_aload_n hx hb dX7_isNearerThan_50 rfl (lv_at hl 1 rfl) ?_
  refine lv_iload_n hx hb dX7_isNearerThan_51 rfl (lv_at hl 2 rfl) ?_
  refine ro_i (roV S hE hT hS (c_X7_spaceOf h) lkX7_70 rfl ⟨(Nat.le_of_ble_eq_true rfl), (Nat.le_of_ble_eq_true rfl)⟩ (hP.sub [0, 3] rfl) 0 rfl rfl hl.1 rfl (Nat.le_of_ble_eq_true rfl) dX7_isNearerThan_52 ⟨(Nat.zero_le _), (Nat.zero_le _)⟩) (fun r52 h => ?_)
  refine lv_iload_n hx hb dX7_isNearerThan_55 rfl (lv_at hl 3 rfl) ?_
  refine lv_icmp_lt (tgt := 64) hx hb dX7_isNearerThan_56 (by decide) (fun hc => ?_) (fun hc => ?_)
  · have h := h.1 hc
    refine lv_iconst (v := 1) hx hb dX7_isNearerThan_64 (by decide) ?_
    refine lv_goto (tgt := 69) hx hb dX7_isNearerThan_65 (by decide) ?_
    exact W.zret hx hb hr rfl (fun t ht _ => ⟨_, rfl, h, ht⟩) (fun _ hq => by cases hq) dX7_isNearerThan_69
  have h := h.2 hc
  refine lv_iload hx hb dX7_isNearerThan_59 (lv_at hl 0 rfl) ?_
  refine lv_if_eq (tgt := 68) hx hb dX7_isNearerThan_61 (by decide) (fun hc => ?_) (fun hc => ?_)
  · have h := h.1 hc
    refine lv_iconst (v := 0) hx hb dX7_isNearerThan_68 (by decide) ?_
    exact W.zret hx hb hr rfl (fun t ht _ => ⟨_, rfl, h, ht⟩) (fun _ hq => by cases hq) dX7_isNearerThan_69
  have h := h.2 hc
  refine lv_iconst (v := 1) hx hb dX7_isNearerThan_64 (by decide) ?_
  refine lv_goto (tgt := 69) hx hb dX7_isNearerThan_65 (by decide) ?_
  exact W.zret hx hb hr rfl (fun t ht _ => ⟨_, rfl, h, ht⟩) (fun _ hq => by cases hq) dX7_isNearerThan_69
set_option maxHeartbeats 4000000 in
set_option maxRecDepth 100000 in
theorem w_X7_isNearerThan_47 {l : Launch} {D : va_G} {cI cJ cS : ClassId} {ad adK : Nat → Nat} {a_o a_kinds a_others a_spaces : Nat} {z_times : Value} {v_stretchCount : Int32} {f_kinds : Nat → Int32} {f_others : Nat → Int32} {f_spaces : Nat → Int32} {x1 : Int32} {x2 : Int32} {post : Int32 → Prop} {p : Program} {e : Env} {s : State} {m : MethodId} {args : Array Value} {below : List Frame} {meth : Method} {c : Code} (S : CallFix p m c cX7_isNearerThan 5 s args GW "RoadThatSings$Stretches") (hE : EN D cI cJ cS s) (hT : ST ad adK nof s s.heap) (hP : va_P D vwCl (wX7_isNearerThan cI cJ cS a_o a_kinds a_others a_spaces z_times v_stretchCount f_kinds f_others f_spaces) s.heap) (hS : va_S nof s.heap s.heap []) (hr : meth.sig.returnType = (some (.boolean))) (hlocks : meth.locks = false) : ∀ (ls : Array Slot), F_X7_isNearerThan_47 v_stretchCount f_spaces post x1 x2 → lv_has ls 5 [(0, .ref a_o), (1, .int x1), (2, .int x2)] → W p l e (rmd 2 0 0) s m args below meth c s.heap [] 0 0 (MQ below (vp_Si post) args s 0 0 nof) (F0 m 47 ls []) := by
  intro  ls h hl
  unfold F_X7_isNearerThan_47 at h
  have hx := S.1
  have hb := S.2.1
  refine lv_iconst (v := 0) hx hb dX7_isNearerThan_47 (by decide) ?_
  refine w_X7_isNearerThan_48 S hE hT hP hS hr hlocks _ h (lv_sub hl [0, 1, 2] rfl)
set_option maxHeartbeats 4000000 in
set_option maxRecDepth 100000 in
theorem c_X7_isNearerThan {l : Launch} {D : va_G} {cI cJ cS : ClassId} {ad adK : Nat → Nat} {a_o a_kinds a_others a_spaces : Nat} {z_times : Value} {v_stretchCount : Int32} {f_kinds : Nat → Int32} {f_others : Nat → Int32} {f_spaces : Nat → Int32} {x1 : Int32} {x2 : Int32} {post : Int32 → Prop} (h : F_X7_isNearerThan v_stretchCount f_kinds f_others f_spaces x1 x2 post) : Met l yX7_isNearerThan (Cond.code yX7_isNearerThan cX7_isNearerThan 5 (some (.boolean)) :: GW) (rmd 2 0 0) (PR D cI cJ cS ad adK [.ref a_o, .int x1, .int x2] (wX7_isNearerThan cI cJ cS a_o a_kinds a_others a_spaces z_times v_stretchCount f_kinds f_others f_spaces)) (vp_Si post) 0 0 nof := by
  refine Met.ro (by decide) (Nat.le_of_ble_eq_true rfl) (fun p e s m args below meth c ls (S : CallFix p m c cX7_isNearerThan 5 s args GW "RoadThatSings$Stretches") hE hT hP hS hr hlocks hl => ?_)
  have hx := S.1
  have hb := S.2.1
  have hl : lv_has ls 5 [(0, .ref a_o), (1, .int x1), (2, .int x2)] := hl
  unfold F_X7_isNearerThan at h
  refine lv_aload_n hx hb dX7_isNearerThan_0 rfl (lv_at hl 0 rfl) ?_
  refine lv_iload_n hx hb dX7_isNearerThan_1 rfl (lv_at hl 1 rfl) ?_
  refine ro_i (roV S hE hT hS (c_X7_kindOf h) lkX7_54 rfl ⟨(Nat.le_of_ble_eq_true rfl), (Nat.le_of_ble_eq_true rfl)⟩ (hP.sub [0, 1] rfl) 0 rfl rfl hl.1 rfl (Nat.le_of_ble_eq_true rfl) dX7_isNearerThan_2 ⟨(Nat.zero_le _), (Nat.zero_le _)⟩) (fun r2 h => ?_)
  refine lv_istore_n (lv' := [(3, .int r2), (0, .ref a_o), (1, .int x1), (2, .int x2)]) hx hb dX7_isNearerThan_5 rfl hl (by decide) rfl (fun ls hl => ?_)
  refine lv_iload_n hx hb dX7_isNearerThan_6 rfl (lv_at hl 0 rfl) ?_
  refine lv_bipush (v := 6) hx hb dX7_isNearerThan_7 (by decide) ?_
  refine lv_icmp_eq (tgt := 17) hx hb dX7_isNearerThan_9 (by decide) (fun hc => ?_) (fun hc => ?_)
  · have h := h.1 hc
    refine lv_iconst (v := 0) hx hb dX7_isNearerThan_17 (by decide) ?_
    exact W.zret hx hb hr rfl (fun t ht _ => ⟨_, rfl, h, ht⟩) (fun _ hq => by cases hq) dX7_isNearerThan_18
  have h := h.2 hc
  refine lv_iload_n hx hb dX7_isNearerThan_12 rfl (lv_at hl 0 rfl) ?_
  refine lv_iconst (v := 3) hx hb dX7_isNearerThan_13 (by decide) ?_
  refine lv_icmp_ne (tgt := 19) hx hb dX7_isNearerThan_14 (by decide) (fun hc => ?_) (fun hc => ?_)
  · have h := h.2 hc
    refine lv_iload_n hx hb dX7_isNearerThan_19 rfl (lv_at hl 0 rfl) ?_
    refine ro_i (roSN S hE hT hS (c_X9_isOfTwoSpaces h) lkX7_51 rfl ⟨(Nat.le_of_ble_eq_true rfl), (Nat.le_of_ble_eq_true rfl)⟩ (hP.sub [] rfl) hl.1 rfl (Nat.le_of_ble_eq_true rfl) dX7_isNearerThan_20 ⟨(Nat.zero_le _), (Nat.zero_le _)⟩) (fun r20 h => ?_)
    refine lv_if_eq (tgt := 47) hx hb dX7_isNearerThan_23 (by decide) (fun hc => ?_) (fun hc => ?_)
    · have h := h.1 hc
      refine w_X7_isNearerThan_47 S hE hT hP hS hr hlocks _ h (lv_sub hl [1, 2, 3] rfl)
    have h := h.2 hc
    refine lv_aload_n hx hb dX7_isNearerThan_26 rfl (lv_at hl 1 rfl) ?_
    refine lv_iload_n hx hb dX7_isNearerThan_27 rfl (lv_at hl 2 rfl) ?_
    refine ro_i (roV S hE hT hS (c_X7_otherOf h) lkX7_58 rfl ⟨(Nat.le_of_ble_eq_true rfl), (Nat.le_of_ble_eq_true rfl)⟩ (hP.sub [0, 2] rfl) 0 rfl rfl hl.1 rfl (Nat.le_of_ble_eq_true rfl) dX7_isNearerThan_28 ⟨(Nat.zero_le _), (Nat.zero_le _)⟩) (fun r28 h => ?_)
    refine lv_if_eq (tgt := 47) hx hb dX7_isNearerThan_31 (by decide) (fun hc => ?_) (fun hc => ?_)
    · have h := h.1 hc
      refine w_X7_isNearerThan_47 S hE hT hP hS hr hlocks _ h (lv_sub hl [1, 2, 3] rfl)
    have h := h.2 hc
    refine lv_aload_n hx hb dX7_isNearerThan_34 rfl (lv_at hl 1 rfl) ?_
    refine lv_iload_n hx hb dX7_isNearerThan_35 rfl (lv_at hl 2 rfl) ?_
    refine ro_i (roV S hE hT hS (c_X7_otherOf h) lkX7_58 rfl ⟨(Nat.le_of_ble_eq_true rfl), (Nat.le_of_ble_eq_true rfl)⟩ (hP.sub [0, 2] rfl) 0 rfl rfl hl.1 rfl (Nat.le_of_ble_eq_true rfl) dX7_isNearerThan_36 ⟨(Nat.zero_le _), (Nat.zero_le _)⟩) (fun r36 h => ?_)
    refine lv_iload_n hx hb dX7_isNearerThan_39 rfl (lv_at hl 3 rfl) ?_
    refine lv_icmp_ge (tgt := 47) hx hb dX7_isNearerThan_40 (by decide) (fun hc => ?_) (fun hc => ?_)
    · have h := h.1 hc
      refine w_X7_isNearerThan_47 S hE hT hP hS hr hlocks _ h (lv_sub hl [1, 2, 3] rfl)
    have h := h.2 hc
    refine lv_iconst (v := 1) hx hb dX7_isNearerThan_43 (by decide) ?_
    refine lv_goto (tgt := 48) hx hb dX7_isNearerThan_44 (by decide) ?_
    refine w_X7_isNearerThan_48 S hE hT hP hS hr hlocks _ h (lv_sub hl [1, 2, 3] rfl)
  have h := h.1 hc
  refine lv_iconst (v := 0) hx hb dX7_isNearerThan_17 (by decide) ?_
  exact W.zret hx hb hr rfl (fun t ht _ => ⟨_, rfl, h, ht⟩) (fun _ hq => by cases hq) dX7_isNearerThan_18
/-! X5_firstTooNear -/
abbrev wX5_firstTooNear (cI cJ cS : ClassId) (a_o a_demands a_stretches a_stretches_kinds a_stretches_others a_stretches_spaces : Nat) (z_cars z_tunes z_stretches_times : Value) (v_drawSeed : Int32) (f_demands : Nat → Int32) (v_stretches_stretchCount : Int32) (f_stretches_kinds : Nat → Int32) (f_stretches_others : Nat → Int32) (f_stretches_spaces : Nat → Int32) : va_W := [(a_o, .inr (4, [.ref a_stretches, z_cars, z_tunes, .ref a_demands, .int v_drawSeed])), (a_demands, .inl (cI, 4, .inl f_demands)), (a_stretches, .inr (6, [.ref a_stretches_kinds, .ref a_stretches_spaces, .ref a_stretches_others, z_stretches_times, .int v_stretches_stretchCount])), (a_stretches_kinds, .inl (cI, 16, .inl f_stretches_kinds)), (a_stretches_others, .inl (cI, 16, .inl f_stretches_others)), (a_stretches_spaces, .inl (cI, 16, .inl f_stretches_spaces))]
def L_X5_firstTooNear_2 (f_demands : Nat → Int32) (v_stretches_stretchCount : Int32) (f_stretches_kinds : Nat → Int32) (f_stretches_others : Nat → Int32) (f_stretches_spaces : Nat → Int32) (post : Int32 → Prop) : Nat → Int32 → Prop
  | 0, _ => False
  | n2 + 1, x1 => (F_X7_count v_stretches_stretchCount (fun r7 => ((r7 ≤ x1 → post (-1)) ∧ (¬ r7 ≤ x1 → (F_X5_asked f_demands 1 (fun r20 => (F_X7_isNearerThan v_stretches_stretchCount f_stretches_kinds f_stretches_others f_stretches_spaces x1 r20 (fun r23 => ((r23 = 0 → (∀ x1_31 : Int32, x1_31 = x1 + 1 → L_X5_firstTooNear_2 f_demands v_stretches_stretchCount f_stretches_kinds f_stretches_others f_stretches_spaces post n2 x1_31)) ∧ (¬ r23 = 0 → post x1))))))))))
def F_X5_firstTooNear (f_demands : Nat → Int32) (v_stretches_stretchCount : Int32) (f_stretches_kinds : Nat → Int32) (f_stretches_others : Nat → Int32) (f_stretches_spaces : Nat → Int32) (post : Int32 → Prop) : Prop := (∃ n2 : Nat, L_X5_firstTooNear_2 f_demands v_stretches_stretchCount f_stretches_kinds f_stretches_others f_stretches_spaces post n2 0)
set_option maxHeartbeats 4000000 in
set_option maxRecDepth 100000 in
theorem w_X5_firstTooNear_2 {l : Launch} {D : va_G} {cI cJ cS : ClassId} {ad adK : Nat → Nat} {a_o a_demands a_stretches a_stretches_kinds a_stretches_others a_stretches_spaces : Nat} {z_cars z_tunes z_stretches_times : Value} {v_drawSeed : Int32} {f_demands : Nat → Int32} {v_stretches_stretchCount : Int32} {f_stretches_kinds : Nat → Int32} {f_stretches_others : Nat → Int32} {f_stretches_spaces : Nat → Int32} {post : Int32 → Prop} {p : Program} {e : Env} {s : State} {m : MethodId} {args : Array Value} {below : List Frame} {meth : Method} {c : Code} (S : CallFix p m c cX5_firstTooNear 2 s args GW "RoadThatSings$Road") (hE : EN D cI cJ cS s) (hT : ST ad adK nof s s.heap) (hP : va_P D vwCl (wX5_firstTooNear cI cJ cS a_o a_demands a_stretches a_stretches_kinds a_stretches_others a_stretches_spaces z_cars z_tunes z_stretches_times v_drawSeed f_demands v_stretches_stretchCount f_stretches_kinds f_stretches_others f_stretches_spaces) s.heap) (hS : va_S nof s.heap s.heap []) (hr : meth.sig.returnType = (some (.int))) (hlocks : meth.locks = false) : ∀ n : Nat, ∀ (x1 : Int32) (ls : Array Slot), L_X5_firstTooNear_2 f_demands v_stretches_stretchCount f_stretches_kinds f_stretches_others f_stretches_spaces post n x1 → lv_has ls 2 [(0, .ref a_o), (1, .int x1)] → W p l e (rmd 3 0 0) s m args below meth c s.heap [] 0 0 (MQ below (vp_Si post) args s 0 0 nof) (F0 m 2 ls []) := by
  intro n
  induction n with
  | zero =>
    intro x1 ls h hl
    exact h.elim
  | succ n ih =>
    intro x1 ls h hl
    rw [L_X5_firstTooNear_2] at h
    have hx := S.1
    have hb := S.2.1
    refine lv_iload_n hx hb dX5_firstTooNear_2 rfl (lv_at hl 1 rfl) ?_
    refine lv_aload_n hx hb dX5_firstTooNear_3 rfl (lv_at hl 0 rfl) ?_
    refine gf S hE hP 0 rfl rfl inX5 (k := 0) (by decide) q93 rfl dX5_firstTooNear_4 ?_
    refine ro_i (roV S hE hT hS (c_X7_count h) lkX5_114 rfl ⟨(Nat.le_of_ble_eq_true rfl), (Nat.le_of_ble_eq_true rfl)⟩ (hP.sub [2] rfl) 0 rfl rfl hl.1 rfl (Nat.le_of_ble_eq_true rfl) dX5_firstTooNear_7 ⟨(Nat.zero_le _), (Nat.zero_le _)⟩) (fun r7 h => ?_)
    refine lv_icmp_ge (tgt := 37) hx hb dX5_firstTooNear_10 (by decide) (fun hc => ?_) (fun hc => ?_)
    · have h := h.1 hc
      refine lv_iconst (v := (-1)) hx hb dX5_firstTooNear_37 (by decide) ?_
      exact W.iret hx hb hr (fun t ht _ => ⟨_, rfl, h, ht⟩) (fun _ hq => by cases hq) dX5_firstTooNear_38
    have h := h.2 hc
    refine lv_aload_n hx hb dX5_firstTooNear_13 rfl (lv_at hl 0 rfl) ?_
    refine gf S hE hP 0 rfl rfl inX5 (k := 0) (by decide) q93 rfl dX5_firstTooNear_14 ?_
    refine lv_iload_n hx hb dX5_firstTooNear_17 rfl (lv_at hl 1 rfl) ?_
    refine lv_aload_n hx hb dX5_firstTooNear_18 rfl (lv_at hl 0 rfl) ?_
    refine lv_iconst (v := 1) hx hb dX5_firstTooNear_19 (by decide) ?_
    refine ro_i (roV S hE hT hS (c_X5_asked h) lkX5_104 rfl ⟨(Nat.le_of_ble_eq_true rfl), (Nat.le_of_ble_eq_true rfl)⟩ (hP.sub [0, 1] rfl) 0 rfl rfl hl.1 rfl (Nat.le_of_ble_eq_true rfl) dX5_firstTooNear_20 ⟨(Nat.zero_le _), (Nat.zero_le _)⟩) (fun r20 h => ?_)
    refine ro_i (roV S hE hT hS (c_X7_isNearerThan h) lkX5_115 rfl ⟨(Nat.le_of_ble_eq_true rfl), (Nat.le_of_ble_eq_true rfl)⟩ (hP.sub [2, 3, 4, 5] rfl) 0 rfl rfl hl.1 rfl (Nat.le_of_ble_eq_true rfl) dX5_firstTooNear_23 ⟨(Nat.zero_le _), (Nat.zero_le _)⟩) (fun r23 h => ?_)
    refine lv_if_eq (tgt := 31) hx hb dX5_firstTooNear_26 (by decide) (fun hc => ?_) (fun hc => ?_)
    · have h := h.1 hc
      obtain ⟨x1_31, ex1_31⟩ : ∃ z : Int32, z = x1 + 1 := ⟨_, rfl⟩
      have h := h _ ex1_31
      refine lv_iinc (v := x1_31) (lv' := [(1, .int x1_31), (0, .ref a_o)]) hx hb dX5_firstTooNear_31 hl (k := 1) rfl (by rw [ex1_31]; rfl) (by decide) rfl (fun ls hl => ?_)
      refine lv_goto (tgt := 2) hx hb dX5_firstTooNear_34 (by decide) ?_
      exact ih _ _ h (lv_sub hl [1, 0] rfl)
    have h := h.2 hc
    refine lv_iload_n hx hb dX5_firstTooNear_29 rfl (lv_at hl 1 rfl) ?_
    exact W.iret hx hb hr (fun t ht _ => ⟨_, rfl, h, ht⟩) (fun _ hq => by cases hq) dX5_firstTooNear_30
set_option maxHeartbeats 4000000 in
set_option maxRecDepth 100000 in
theorem c_X5_firstTooNear {l : Launch} {D : va_G} {cI cJ cS : ClassId} {ad adK : Nat → Nat} {a_o a_demands a_stretches a_stretches_kinds a_stretches_others a_stretches_spaces : Nat} {z_cars z_tunes z_stretches_times : Value} {v_drawSeed : Int32} {f_demands : Nat → Int32} {v_stretches_stretchCount : Int32} {f_stretches_kinds : Nat → Int32} {f_stretches_others : Nat → Int32} {f_stretches_spaces : Nat → Int32} {post : Int32 → Prop} (h : F_X5_firstTooNear f_demands v_stretches_stretchCount f_stretches_kinds f_stretches_others f_stretches_spaces post) : Met l yX5_firstTooNear (Cond.code yX5_firstTooNear cX5_firstTooNear 2 (some (.int)) :: GW) (rmd 3 0 0) (PR D cI cJ cS ad adK [.ref a_o] (wX5_firstTooNear cI cJ cS a_o a_demands a_stretches a_stretches_kinds a_stretches_others a_stretches_spaces z_cars z_tunes z_stretches_times v_drawSeed f_demands v_stretches_stretchCount f_stretches_kinds f_stretches_others f_stretches_spaces)) (vp_Si post) 0 0 nof := by
  refine Met.ro (by decide) (Nat.le_of_ble_eq_true rfl) (fun p e s m args below meth c ls (S : CallFix p m c cX5_firstTooNear 2 s args GW "RoadThatSings$Road") hE hT hP hS hr hlocks hl => ?_)
  have hx := S.1
  have hb := S.2.1
  have hl : lv_has ls 2 [(0, .ref a_o)] := hl
  unfold F_X5_firstTooNear at h
  refine lv_iconst (v := 0) hx hb dX5_firstTooNear_0 (by decide) ?_
  refine lv_istore_n (lv' := [(1, .int 0), (0, .ref a_o)]) hx hb dX5_firstTooNear_1 rfl hl (by decide) rfl (fun ls hl => ?_)
  obtain ⟨n, h⟩ := h
  refine w_X5_firstTooNear_2 S hE hT hP hS hr hlocks n _ _ h (lv_sub hl [1, 0] rfl)
/-! X5_firstTooFar -/
abbrev wX5_firstTooFar (cI cJ cS : ClassId) (a_o a_demands a_stretches a_stretches_kinds a_stretches_others a_stretches_spaces a_stretches_times : Nat) (z_cars z_tunes : Value) (v_drawSeed : Int32) (f_demands : Nat → Int32) (v_stretches_stretchCount : Int32) (f_stretches_kinds : Nat → Int32) (f_stretches_others : Nat → Int32) (f_stretches_spaces : Nat → Int32) (f_stretches_times : Nat → Int32) : va_W := [(a_o, .inr (4, [.ref a_stretches, z_cars, z_tunes, .ref a_demands, .int v_drawSeed])), (a_demands, .inl (cI, 4, .inl f_demands)), (a_stretches, .inr (6, [.ref a_stretches_kinds, .ref a_stretches_spaces, .ref a_stretches_others, .ref a_stretches_times, .int v_stretches_stretchCount])), (a_stretches_kinds, .inl (cI, 16, .inl f_stretches_kinds)), (a_stretches_others, .inl (cI, 16, .inl f_stretches_others)), (a_stretches_spaces, .inl (cI, 16, .inl f_stretches_spaces)), (a_stretches_times, .inl (cI, 16, .inl f_stretches_times))]
def L_X5_firstTooFar_4 (f_demands : Nat → Int32) (v_stretches_stretchCount : Int32) (f_stretches_kinds : Nat → Int32) (f_stretches_others : Nat → Int32) (f_stretches_spaces : Nat → Int32) (f_stretches_times : Nat → Int32) (post : Int32 → Prop) : Nat → Int32 → Int32 → Prop
  | 0, _, _ => False
  | n4 + 1, x1, x2 => (F_X7_count v_stretches_stretchCount (fun r9 => ((r9 ≤ x2 → post (-1)) ∧ (¬ r9 ≤ x2 → (F_X7_lengthOf v_stretches_stretchCount f_stretches_kinds f_stretches_others f_stretches_spaces f_stretches_times x2 (fun r21 => (∀ x1_25 : Int32, x1_25 = x1 + r21 → (F_X5_asked f_demands 0 (fun r29 => ((x1_25 ≤ r29 → (∀ x2_37 : Int32, x2_37 = x2 + 1 → L_X5_firstTooFar_4 f_demands v_stretches_stretchCount f_stretches_kinds f_stretches_others f_stretches_spaces f_stretches_times post n4 x1_25 x2_37)) ∧ (¬ x1_25 ≤ r29 → post x2)))))))))))
def F_X5_firstTooFar (f_demands : Nat → Int32) (v_stretches_stretchCount : Int32) (f_stretches_kinds : Nat → Int32) (f_stretches_others : Nat → Int32) (f_stretches_spaces : Nat → Int32) (f_stretches_times : Nat → Int32) (post : Int32 → Prop) : Prop := (∃ n4 : Nat, L_X5_firstTooFar_4 f_demands v_stretches_stretchCount f_stretches_kinds f_stretches_others f_stretches_spaces f_stretches_times post n4 0 0)
set_option maxHeartbeats 4000000 in
set_option maxRecDepth 100000 in
theorem w_X5_firstTooFar_4 {l : Launch} {D : va_G} {cI cJ cS : ClassId} {ad adK : Nat → Nat} {a_o a_demands a_stretches a_stretches_kinds a_stretches_others a_stretches_spaces a_stretches_times : Nat} {z_cars z_tunes : Value} {v_drawSeed : Int32} {f_demands : Nat → Int32} {v_stretches_stretchCount : Int32} {f_stretches_kinds : Nat → Int32} {f_stretches_others : Nat → Int32} {f_stretches_spaces : Nat → Int32} {f_stretches_times : Nat → Int32} {post : Int32 → Prop} {p : Program} {e : Env} {s : State} {m : MethodId} {args : Array Value} {below : List Frame} {meth : Method} {c : Code} (S : CallFix p m c cX5_firstTooFar 3 s args GW "RoadThatSings$Road") (hE : EN D cI cJ cS s) (hT : ST ad adK nof s s.heap) (hP : va_P D vwCl (wX5_firstTooFar cI cJ cS a_o a_demands a_stretches a_stretches_kinds a_stretches_others a_stretches_spaces a_stretches_times z_cars z_tunes v_drawSeed f_demands v_stretches_stretchCount f_stretches_kinds f_stretches_others f_stretches_spaces f_stretches_times) s.heap) (hS : va_S nof s.heap s.heap []) (hr : meth.sig.returnType = (some (.int))) (hlocks : meth.locks = false) : ∀ n : Nat, ∀ (x1 : Int32) (x2 : Int32) (ls : Array Slot), L_X5_firstTooFar_4 f_demands v_stretches_stretchCount f_stretches_kinds f_stretches_others f_stretches_spaces f_stretches_times post n x1 x2 → lv_has ls 3 [(0, .ref a_o), (1, .int x1), (2, .int x2)] → W p l e (rmd 3 0 0) s m args below meth c s.heap [] 0 0 (MQ below (vp_Si post) args s 0 0 nof) (F0 m 4 ls []) := by
  intro n
  induction n with
  | zero =>
    intro x1 x2 ls h hl
    exact h.elim
  | succ n ih =>
    intro x1 x2 ls h hl
    rw [L_X5_firstTooFar_4] at h
    have hx := S.1
    have hb := S.2.1
    refine lv_iload_n hx hb dX5_firstTooFar_4 rfl (lv_at hl 2 rfl) ?_
    refine lv_aload_n hx hb dX5_firstTooFar_5 rfl (lv_at hl 0 rfl) ?_
    refine gf S hE hP 0 rfl rfl inX5 (k := 0) (by decide) q93 rfl dX5_firstTooFar_6 ?_
    refine ro_i (roV S hE hT hS (c_X7_count h) lkX5_114 rfl ⟨(Nat.le_of_ble_eq_true rfl), (Nat.le_of_ble_eq_true rfl)⟩ (hP.sub [2] rfl) 0 rfl rfl hl.1 rfl (Nat.le_of_ble_eq_true rfl) dX5_firstTooFar_9 ⟨(Nat.zero_le _), (Nat.zero_le _)⟩) (fun r9 h => ?_)
    refine lv_icmp_ge (tgt := 43) hx hb dX5_firstTooFar_12 (by decide) (fun hc => ?_) (fun hc => ?_)
    · have h := h.1 hc
      refine lv_iconst (v := (-1)) hx hb dX5_firstTooFar_43 (by decide) ?_
      exact W.iret hx hb hr (fun t ht _ => ⟨_, rfl, h, ht⟩) (fun _ hq => by cases hq) dX5_firstTooFar_44
    have h := h.2 hc
    refine lv_iload_n hx hb dX5_firstTooFar_15 rfl (lv_at hl 1 rfl) ?_
    refine lv_aload_n hx hb dX5_firstTooFar_16 rfl (lv_at hl 0 rfl) ?_
    refine gf S hE hP 0 rfl rfl inX5 (k := 0) (by decide) q93 rfl dX5_firstTooFar_17 ?_
    refine lv_iload_n hx hb dX5_firstTooFar_20 rfl (lv_at hl 2 rfl) ?_
    refine ro_i (roV S hE hT hS (c_X7_lengthOf h) lkX5_118 rfl ⟨(Nat.le_of_ble_eq_true rfl), (Nat.le_of_ble_eq_true rfl)⟩ (hP.sub [2, 3, 4, 5, 6] rfl) 0 rfl rfl hl.1 rfl (Nat.le_of_ble_eq_true rfl) dX5_firstTooFar_21 ⟨(Nat.zero_le _), (Nat.zero_le _)⟩) (fun r21 h => ?_)
    refine lv_iadd hx hb dX5_firstTooFar_24 ?_
    refine lv_topi (fun x1_25 ex1_25 => ?_)
    have h := h _ ex1_25
    refine lv_istore_n (lv' := [(1, .int x1_25), (0, .ref a_o), (2, .int x2)]) hx hb dX5_firstTooFar_25 rfl hl (by decide) rfl (fun ls hl => ?_)
    refine lv_iload_n hx hb dX5_firstTooFar_26 rfl (lv_at hl 0 rfl) ?_
    refine lv_aload_n hx hb dX5_firstTooFar_27 rfl (lv_at hl 1 rfl) ?_
    refine lv_iconst (v := 0) hx hb dX5_firstTooFar_28 (by decide) ?_
    refine ro_i (roV S hE hT hS (c_X5_asked h) lkX5_104 rfl ⟨(Nat.le_of_ble_eq_true rfl), (Nat.le_of_ble_eq_true rfl)⟩ (hP.sub [0, 1] rfl) 0 rfl rfl hl.1 rfl (Nat.le_of_ble_eq_true rfl) dX5_firstTooFar_29 ⟨(Nat.zero_le _), (Nat.zero_le _)⟩) (fun r29 h => ?_)
    refine lv_icmp_le (tgt := 37) hx hb dX5_firstTooFar_32 (by decide) (fun hc => ?_) (fun hc => ?_)
    · have h := h.1 hc
      obtain ⟨x2_37, ex2_37⟩ : ∃ z : Int32, z = x2 + 1 := ⟨_, rfl⟩
      have h := h _ ex2_37
      refine lv_iinc (v := x2_37) (lv' := [(2, .int x2_37), (1, .int x1_25), (0, .ref a_o)]) hx hb dX5_firstTooFar_37 hl (k := 2) rfl (by rw [ex2_37]; rfl) (by decide) rfl (fun ls hl => ?_)
      refine lv_goto (tgt := 4) hx hb dX5_firstTooFar_40 (by decide) ?_
      exact ih _ _ _ h (lv_sub hl [2, 1, 0] rfl)
    have h := h.2 hc
    refine lv_iload_n hx hb dX5_firstTooFar_35 rfl (lv_at hl 2 rfl) ?_
    exact W.iret hx hb hr (fun t ht _ => ⟨_, rfl, h, ht⟩) (fun _ hq => by cases hq) dX5_firstTooFar_36
set_option maxHeartbeats 4000000 in
set_option maxRecDepth 100000 in
theorem c_X5_firstTooFar {l : Launch} {D : va_G} {cI cJ cS : ClassId} {ad adK : Nat → Nat} {a_o a_demands a_stretches a_stretches_kinds a_stretches_others a_stretches_spaces a_stretches_times : Nat} {z_cars z_tunes : Value} {v_drawSeed : Int32} {f_demands : Nat → Int32} {v_stretches_stretchCount : Int32} {f_stretches_kinds : Nat → Int32} {f_stretches_others : Nat → Int32} {f_stretches_spaces : Nat → Int32} {f_stretches_times : Nat → Int32} {post : Int32 → Prop} (h : F_X5_firstTooFar f_demands v_stretches_stretchCount f_stretches_kinds f_stretches_others f_stretches_spaces f_stretches_times post) : Met l yX5_firstTooFar (Cond.code yX5_firstTooFar cX5_firstTooFar 3 (some (.int)) :: GW) (rmd 3 0 0) (PR D cI cJ cS ad adK [.ref a_o] (wX5_firstTooFar cI cJ cS a_o a_demands a_stretches a_stretches_kinds a_stretches_others a_stretches_spaces a_stretches_times z_cars z_tunes v_drawSeed f_demands v_stretches_stretchCount f_stretches_kinds f_stretches_others f_stretches_spaces f_stretches_times)) (vp_Si post) 0 0 nof := by
  refine Met.ro (by decide) (Nat.le_of_ble_eq_true rfl) (fun p e s m args below meth c ls (S : CallFix p m c cX5_firstTooFar 3 s args GW "RoadThatSings$Road") hE hT hP hS hr hlocks hl => ?_)
  have hx := S.1
  have hb := S.2.1
  have hl : lv_has ls 3 [(0, .ref a_o)] := hl
  unfold F_X5_firstTooFar at h
  refine lv_iconst (v := 0) hx hb dX5_firstTooFar_0 (by decide) ?_
  refine lv_istore_n (lv' := [(1, .int 0), (0, .ref a_o)]) hx hb dX5_firstTooFar_1 rfl hl (by decide) rfl (fun ls hl => ?_)
  refine lv_iconst (v := 0) hx hb dX5_firstTooFar_2 (by decide) ?_
  refine lv_istore_n (lv' := [(2, .int 0), (1, .int 0), (0, .ref a_o)]) hx hb dX5_firstTooFar_3 rfl hl (by decide) rfl (fun ls hl => ?_)
  obtain ⟨n, h⟩ := h
  refine w_X5_firstTooFar_4 S hE hT hP hS hr hlocks n _ _ _ h (lv_sub hl [2, 1, 0] rfl)
/-! X6_holdsRow -/
abbrev wX6_holdsRow (cI cJ cS : ClassId) (a_o : Nat) (z_elements : Value) (v_held : Int32) (v_sort : Int32) (v_elementCount : Int32) (v_stretchNumber : Int32) : va_W := [(a_o, .inr (5, [z_elements, .int v_held, .int v_sort, .int v_elementCount, .int v_stretchNumber]))]
def F_X6_holdsRow (v_held : Int32) (post : Int32 → Prop) : Prop := ((v_held = 1 → post 1) ∧ (¬ v_held = 1 → post 0))
set_option maxHeartbeats 4000000 in
set_option maxRecDepth 100000 in
theorem c_X6_holdsRow {l : Launch} {D : va_G} {cI cJ cS : ClassId} {ad adK : Nat → Nat} {a_o : Nat} {z_elements : Value} {v_held : Int32} {v_sort : Int32} {v_elementCount : Int32} {v_stretchNumber : Int32} {post : Int32 → Prop} (h : F_X6_holdsRow v_held post) : Met l yX6_holdsRow (Cond.code yX6_holdsRow cX6_holdsRow 1 (some (.boolean)) :: GW) (rmd 0 0 0) (PR D cI cJ cS ad adK [.ref a_o] (wX6_holdsRow cI cJ cS a_o z_elements v_held v_sort v_elementCount v_stretchNumber)) (vp_Si post) 0 0 nof := by
  refine Met.ro (by decide) (Nat.le_of_ble_eq_true rfl) (fun p e s m args below meth c ls (S : CallFix p m c cX6_holdsRow 1 s args GW "RoadThatSings$Shelf") hE hT hP hS hr hlocks hl => ?_)
  have hx := S.1
  have hb := S.2.1
  have hl : lv_has ls 1 [(0, .ref a_o)] := hl
  unfold F_X6_holdsRow at h
  refine lv_aload_n hx hb dX6_holdsRow_0 rfl (lv_at hl 0 rfl) ?_
  refine gf S hE hP 0 rfl rfl inX6 (k := 1) (by decide) q165 rfl dX6_holdsRow_1 ?_
  refine lv_iconst (v := 1) hx hb dX6_holdsRow_4 (by decide) ?_
  refine lv_icmp_ne (tgt := 12) hx hb dX6_holdsRow_5 (by decide) (fun hc => ?_) (fun hc => ?_)
  · have h := h.2 hc
    refine lv_iconst (v := 0) hx hb dX6_holdsRow_12 (by decide) ?_
    exact W.zret hx hb hr rfl (fun t ht _ => ⟨_, rfl, h, ht⟩) (fun _ hq => by cases hq) dX6_holdsRow_13
  have h := h.1 hc
  refine lv_iconst (v := 1) hx hb dX6_holdsRow_8 (by decide) ?_
  refine lv_goto (tgt := 13) hx hb dX6_holdsRow_9 (by decide) ?_
  exact W.zret hx hb hr rfl (fun t ht _ => ⟨_, rfl, h, ht⟩) (fun _ hq => by cases hq) dX6_holdsRow_13
/-! X6_holdsStretch -/
abbrev wX6_holdsStretch (cI cJ cS : ClassId) (a_o : Nat) (z_elements : Value) (v_held : Int32) (v_sort : Int32) (v_elementCount : Int32) (v_stretchNumber : Int32) : va_W := [(a_o, .inr (5, [z_elements, .int v_held, .int v_sort, .int v_elementCount, .int v_stretchNumber]))]
def F_X6_holdsStretch (v_held : Int32) (post : Int32 → Prop) : Prop := ((v_held = 2 → post 1) ∧ (¬ v_held = 2 → post 0))
set_option maxHeartbeats 4000000 in
set_option maxRecDepth 100000 in
theorem c_X6_holdsStretch {l : Launch} {D : va_G} {cI cJ cS : ClassId} {ad adK : Nat → Nat} {a_o : Nat} {z_elements : Value} {v_held : Int32} {v_sort : Int32} {v_elementCount : Int32} {v_stretchNumber : Int32} {post : Int32 → Prop} (h : F_X6_holdsStretch v_held post) : Met l yX6_holdsStretch (Cond.code yX6_holdsStretch cX6_holdsStretch 1 (some (.boolean)) :: GW) (rmd 0 0 0) (PR D cI cJ cS ad adK [.ref a_o] (wX6_holdsStretch cI cJ cS a_o z_elements v_held v_sort v_elementCount v_stretchNumber)) (vp_Si post) 0 0 nof := by
  refine Met.ro (by decide) (Nat.le_of_ble_eq_true rfl) (fun p e s m args below meth c ls (S : CallFix p m c cX6_holdsStretch 1 s args GW "RoadThatSings$Shelf") hE hT hP hS hr hlocks hl => ?_)
  have hx := S.1
  have hb := S.2.1
  have hl : lv_has ls 1 [(0, .ref a_o)] := hl
  unfold F_X6_holdsStretch at h
  refine lv_aload_n hx hb dX6_holdsStretch_0 rfl (lv_at hl 0 rfl) ?_
  refine gf S hE hP 0 rfl rfl inX6 (k := 1) (by decide) q165 rfl dX6_holdsStretch_1 ?_
  refine lv_iconst (v := 2) hx hb dX6_holdsStretch_4 (by decide) ?_
  refine lv_icmp_ne (tgt := 12) hx hb dX6_holdsStretch_5 (by decide) (fun hc => ?_) (fun hc => ?_)
  · have h := h.2 hc
    refine lv_iconst (v := 0) hx hb dX6_holdsStretch_12 (by decide) ?_
    exact W.zret hx hb hr rfl (fun t ht _ => ⟨_, rfl, h, ht⟩) (fun _ hq => by cases hq) dX6_holdsStretch_13
  have h := h.1 hc
  refine lv_iconst (v := 1) hx hb dX6_holdsStretch_8 (by decide) ?_
  refine lv_goto (tgt := 13) hx hb dX6_holdsStretch_9 (by decide) ?_
  exact W.zret hx hb hr rfl (fun t ht _ => ⟨_, rfl, h, ht⟩) (fun _ hq => by cases hq) dX6_holdsStretch_13
/-! X6_whatIsHeld -/
abbrev wX6_whatIsHeld (cI cJ cS : ClassId) (a_o : Nat) (z_elements : Value) (v_held : Int32) (v_sort : Int32) (v_elementCount : Int32) (v_stretchNumber : Int32) : va_W := [(a_o, .inr (5, [z_elements, .int v_held, .int v_sort, .int v_elementCount, .int v_stretchNumber]))]
def F_X6_whatIsHeld (v_held : Int32) (v_sort : Int32) (v_stretchNumber : Int32) (post : Int32 → Prop) : Prop := (F_X6_holdsRow v_held (fun r1 => ((r1 = 0 → (F_X6_holdsStretch v_held (fun r16 => ((r16 = 0 → post (-1)) ∧ (¬ r16 = 0 → post v_stretchNumber))))) ∧ (¬ r1 = 0 → post (100 + v_sort)))))
set_option maxHeartbeats 4000000 in
set_option maxRecDepth 100000 in
theorem c_X6_whatIsHeld {l : Launch} {D : va_G} {cI cJ cS : ClassId} {ad adK : Nat → Nat} {a_o : Nat} {z_elements : Value} {v_held : Int32} {v_sort : Int32} {v_elementCount : Int32} {v_stretchNumber : Int32} {post : Int32 → Prop} (h : F_X6_whatIsHeld v_held v_sort v_stretchNumber post) : Met l yX6_whatIsHeld (Cond.code yX6_whatIsHeld cX6_whatIsHeld 1 (some (.int)) :: GW) (rmd 1 0 0) (PR D cI cJ cS ad adK [.ref a_o] (wX6_whatIsHeld cI cJ cS a_o z_elements v_held v_sort v_elementCount v_stretchNumber)) (vp_Si post) 0 0 nof := by
  refine Met.ro (by decide) (Nat.le_of_ble_eq_true rfl) (fun p e s m args below meth c ls (S : CallFix p m c cX6_whatIsHeld 1 s args GW "RoadThatSings$Shelf") hE hT hP hS hr hlocks hl => ?_)
  have hx := S.1
  have hb := S.2.1
  have hl : lv_has ls 1 [(0, .ref a_o)] := hl
  unfold F_X6_whatIsHeld at h
  refine lv_aload_n hx hb dX6_whatIsHeld_0 rfl (lv_at hl 0 rfl) ?_
  refine ro_i (roV S hE hT hS (c_X6_holdsRow h) lkX6_28 rfl ⟨(Nat.le_of_ble_eq_true rfl), (Nat.le_of_ble_eq_true rfl)⟩ (hP.sub [0] rfl) 0 rfl rfl hl.1 rfl (Nat.le_of_ble_eq_true rfl) dX6_whatIsHeld_1 ⟨(Nat.zero_le _), (Nat.zero_le _)⟩) (fun r1 h => ?_)
  refine lv_if_eq (tgt := 15) hx hb dX6_whatIsHeld_4 (by decide) (fun hc => ?_) (fun hc => ?_)
  · have h := h.1 hc
    refine lv_aload_n hx hb dX6_whatIsHeld_15 rfl (lv_at hl 0 rfl) ?_
    refine ro_i (roV S hE hT hS (c_X6_holdsStretch h) lkX6_32 rfl ⟨(Nat.le_of_ble_eq_true rfl), (Nat.le_of_ble_eq_true rfl)⟩ (hP.sub [0] rfl) 0 rfl rfl hl.1 rfl (Nat.le_of_ble_eq_true rfl) dX6_whatIsHeld_16 ⟨(Nat.zero_le _), (Nat.zero_le _)⟩) (fun r16 h => ?_)
    refine lv_if_eq (tgt := 29) hx hb dX6_whatIsHeld_19 (by decide) (fun hc => ?_) (fun hc => ?_)
    · have h := h.1 hc
      refine lv_iconst (v := (-1)) hx hb dX6_whatIsHeld_29 (by decide) ?_
      exact W.iret hx hb hr (fun t ht _ => ⟨_, rfl, h, ht⟩) (fun _ hq => by cases hq) dX6_whatIsHeld_30
    have h := h.2 hc
    refine lv_aload_n hx hb dX6_whatIsHeld_22 rfl (lv_at hl 0 rfl) ?_
    refine gf S hE hP 0 rfl rfl inX6 (k := 4) (by decide) q168 rfl dX6_whatIsHeld_23 ?_
    refine lv_goto (tgt := 30) hx hb dX6_whatIsHeld_26 (by decide) ?_
    exact W.iret hx hb hr (fun t ht _ => ⟨_, rfl, h, ht⟩) (fun _ hq => by cases hq) dX6_whatIsHeld_30
  have h := h.2 hc
  refine lv_bipush (v := 100) hx hb dX6_whatIsHeld_7 (by decide) ?_
  refine lv_aload_n hx hb dX6_whatIsHeld_9 rfl (lv_at hl 0 rfl) ?_
  refine gf S hE hP 0 rfl rfl inX6 (k := 2) (by decide) q166 rfl dX6_whatIsHeld_10 ?_
  refine lv_iadd hx hb dX6_whatIsHeld_13 ?_
  exact W.iret hx hb hr (fun t ht _ => ⟨_, rfl, h, ht⟩) (fun _ hq => by cases hq) dX6_whatIsHeld_14
/-! X6_stretchHeld -/
abbrev wX6_stretchHeld (cI cJ cS : ClassId) (a_o : Nat) (z_elements : Value) (v_held : Int32) (v_sort : Int32) (v_elementCount : Int32) (v_stretchNumber : Int32) : va_W := [(a_o, .inr (5, [z_elements, .int v_held, .int v_sort, .int v_elementCount, .int v_stretchNumber]))]
def F_X6_stretchHeld (v_held : Int32) (v_stretchNumber : Int32) (post : Int32 → Prop) : Prop := (F_X6_holdsStretch v_held (fun r1 => ((r1 = 0 → post (-1)) ∧ (¬ r1 = 0 → post v_stretchNumber))))
set_option maxHeartbeats 4000000 in
set_option maxRecDepth 100000 in
theorem c_X6_stretchHeld {l : Launch} {D : va_G} {cI cJ cS : ClassId} {ad adK : Nat → Nat} {a_o : Nat} {z_elements : Value} {v_held : Int32} {v_sort : Int32} {v_elementCount : Int32} {v_stretchNumber : Int32} {post : Int32 → Prop} (h : F_X6_stretchHeld v_held v_stretchNumber post) : Met l yX6_stretchHeld (Cond.code yX6_stretchHeld cX6_stretchHeld 1 (some (.int)) :: GW) (rmd 1 0 0) (PR D cI cJ cS ad adK [.ref a_o] (wX6_stretchHeld cI cJ cS a_o z_elements v_held v_sort v_elementCount v_stretchNumber)) (vp_Si post) 0 0 nof := by
  refine Met.ro (by decide) (Nat.le_of_ble_eq_true rfl) (fun p e s m args below meth c ls (S : CallFix p m c cX6_stretchHeld 1 s args GW "RoadThatSings$Shelf") hE hT hP hS hr hlocks hl => ?_)
  have hx := S.1
  have hb := S.2.1
  have hl : lv_has ls 1 [(0, .ref a_o)] := hl
  unfold F_X6_stretchHeld at h
  refine lv_aload_n hx hb dX6_stretchHeld_0 rfl (lv_at hl 0 rfl) ?_
  refine ro_i (roV S hE hT hS (c_X6_holdsStretch h) lkX6_32 rfl ⟨(Nat.le_of_ble_eq_true rfl), (Nat.le_of_ble_eq_true rfl)⟩ (hP.sub [0] rfl) 0 rfl rfl hl.1 rfl (Nat.le_of_ble_eq_true rfl) dX6_stretchHeld_1 ⟨(Nat.zero_le _), (Nat.zero_le _)⟩) (fun r1 h => ?_)
  refine lv_if_eq (tgt := 14) hx hb dX6_stretchHeld_4 (by decide) (fun hc => ?_) (fun hc => ?_)
  · have h := h.1 hc
    refine lv_iconst (v := (-1)) hx hb dX6_stretchHeld_14 (by decide) ?_
    exact W.iret hx hb hr (fun t ht _ => ⟨_, rfl, h, ht⟩) (fun _ hq => by cases hq) dX6_stretchHeld_15
  have h := h.2 hc
  refine lv_aload_n hx hb dX6_stretchHeld_7 rfl (lv_at hl 0 rfl) ?_
  refine gf S hE hP 0 rfl rfl inX6 (k := 4) (by decide) q168 rfl dX6_stretchHeld_8 ?_
  refine lv_goto (tgt := 15) hx hb dX6_stretchHeld_11 (by decide) ?_
  exact W.iret hx hb hr (fun t ht _ => ⟨_, rfl, h, ht⟩) (fun _ hq => by cases hq) dX6_stretchHeld_15
/-! X6_isRowUnlike -/
abbrev wX6_isRowUnlike (cI cJ cS : ClassId) (a_o a_p1 : Nat) (z_elements z_p1_elements : Value) (v_held : Int32) (v_sort : Int32) (v_elementCount : Int32) (v_stretchNumber : Int32) (v_p1_held : Int32) (v_p1_sort : Int32) (v_p1_elementCount : Int32) (v_p1_stretchNumber : Int32) : va_W := [(a_o, .inr (5, [z_elements, .int v_held, .int v_sort, .int v_elementCount, .int v_stretchNumber])), (a_p1, .inr (5, [z_p1_elements, .int v_p1_held, .int v_p1_sort, .int v_p1_elementCount, .int v_p1_stretchNumber]))]
def F_X6_isRowUnlike (v_held : Int32) (v_sort : Int32) (v_p1_held : Int32) (v_p1_sort : Int32) (post : Int32 → Prop) : Prop := (F_X6_holdsRow v_held (fun r1 => ((r1 = 0 → post 0) ∧ (¬ r1 = 0 → (F_X6_holdsRow v_p1_held (fun r8 => ((r8 = 0 → post 0) ∧ (¬ r8 = 0 → ((v_sort = v_p1_sort → post 0) ∧ (¬ v_sort = v_p1_sort → post 1))))))))))
set_option maxHeartbeats 4000000 in
set_option maxRecDepth 100000 in
theorem c_X6_isRowUnlike {l : Launch} {D : va_G} {cI cJ cS : ClassId} {ad adK : Nat → Nat} {a_o a_p1 : Nat} {z_elements z_p1_elements : Value} {v_held : Int32} {v_sort : Int32} {v_elementCount : Int32} {v_stretchNumber : Int32} {v_p1_held : Int32} {v_p1_sort : Int32} {v_p1_elementCount : Int32} {v_p1_stretchNumber : Int32} {post : Int32 → Prop} (h : F_X6_isRowUnlike v_held v_sort v_p1_held v_p1_sort post) : Met l yX6_isRowUnlike (Cond.code yX6_isRowUnlike cX6_isRowUnlike 2 (some (.boolean)) :: GW) (rmd 1 0 0) (PR D cI cJ cS ad adK [.ref a_o, .ref a_p1] (wX6_isRowUnlike cI cJ cS a_o a_p1 z_elements z_p1_elements v_held v_sort v_elementCount v_stretchNumber v_p1_held v_p1_sort v_p1_elementCount v_p1_stretchNumber)) (vp_Si post) 0 0 nof := by
  refine Met.ro (by decide) (Nat.le_of_ble_eq_true rfl) (fun p e s m args below meth c ls (S : CallFix p m c cX6_isRowUnlike 2 s args GW "RoadThatSings$Shelf") hE hT hP hS hr hlocks hl => ?_)
  have hx := S.1
  have hb := S.2.1
  have hl : lv_has ls 2 [(0, .ref a_o), (1, .ref a_p1)] := hl
  unfold F_X6_isRowUnlike at h
  refine lv_aload_n hx hb dX6_isRowUnlike_0 rfl (lv_at hl 0 rfl) ?_
  refine ro_i (roV S hE hT hS (c_X6_holdsRow h) lkX6_28 rfl ⟨(Nat.le_of_ble_eq_true rfl), (Nat.le_of_ble_eq_true rfl)⟩ (hP.sub [0] rfl) 0 rfl rfl hl.1 rfl (Nat.le_of_ble_eq_true rfl) dX6_isRowUnlike_1 ⟨(Nat.zero_le _), (Nat.zero_le _)⟩) (fun r1 h => ?_)
  refine lv_if_eq (tgt := 29) hx hb dX6_isRowUnlike_4 (by decide) (fun hc => ?_) (fun hc => ?_)
  · have h := h.1 hc
    refine lv_iconst (v := 0) hx hb dX6_isRowUnlike_29 (by decide) ?_
    exact W.zret hx hb hr rfl (fun t ht _ => ⟨_, rfl, h, ht⟩) (fun _ hq => by cases hq) dX6_isRowUnlike_30
  have h := h.2 hc
  refine lv_aload_n hx hb dX6_isRowUnlike_7 rfl (lv_at hl 1 rfl) ?_
  refine ro_i (roV S hE hT hS (c_X6_holdsRow h) lkX6_28 rfl ⟨(Nat.le_of_ble_eq_true rfl), (Nat.le_of_ble_eq_true rfl)⟩ (hP.sub [1] rfl) 0 rfl rfl hl.1 rfl (Nat.le_of_ble_eq_true rfl) dX6_isRowUnlike_8 ⟨(Nat.zero_le _), (Nat.zero_le _)⟩) (fun r8 h => ?_)
  refine lv_if_eq (tgt := 29) hx hb dX6_isRowUnlike_11 (by decide) (fun hc => ?_) (fun hc => ?_)
  · have h := h.1 hc
    refine lv_iconst (v := 0) hx hb dX6_isRowUnlike_29 (by decide) ?_
    exact W.zret hx hb hr rfl (fun t ht _ => ⟨_, rfl, h, ht⟩) (fun _ hq => by cases hq) dX6_isRowUnlike_30
  have h := h.2 hc
  refine lv_aload_n hx hb dX6_isRowUnlike_14 rfl (lv_at hl 0 rfl) ?_
  refine gf S hE hP 0 rfl rfl inX6 (k := 2) (by decide) q166 rfl dX6_isRowUnlike_15 ?_
  refine lv_aload_n hx hb dX6_isRowUnlike_18 rfl (lv_at hl 1 rfl) ?_
  refine gf S hE hP 1 rfl rfl inX6 (k := 2) (by decide) q166 rfl dX6_isRowUnlike_19 ?_
  refine lv_icmp_eq (tgt := 29) hx hb dX6_isRowUnlike_22 (by decide) (fun hc => ?_) (fun hc => ?_)
  · have h := h.1 hc
    refine lv_iconst (v := 0) hx hb dX6_isRowUnlike_29 (by decide) ?_
    exact W.zret hx hb hr rfl (fun t ht _ => ⟨_, rfl, h, ht⟩) (fun _ hq => by cases hq) dX6_isRowUnlike_30
  have h := h.2 hc
  refine lv_iconst (v := 1) hx hb dX6_isRowUnlike_25 (by decide) ?_
  refine lv_goto (tgt := 30) hx hb dX6_isRowUnlike_26 (by decide) ?_
  exact W.zret hx hb hr rfl (fun t ht _ => ⟨_, rfl, h, ht⟩) (fun _ hq => by cases hq) dX6_isRowUnlike_30
/-! X6_holdNothing -/
abbrev wX6_holdNothing (cI cJ cS : ClassId) (a_o : Nat) (z_elements : Value) (v_held : Int32) (v_sort : Int32) (v_elementCount : Int32) (v_stretchNumber : Int32) : va_W := [(a_o, .inr (5, [z_elements, .int v_held, .int v_sort, .int v_elementCount, .int v_stretchNumber]))]
def F_X6_holdNothing (v_held : Int32) (v_elementCount : Int32) (post : Int32 → Int32 → Prop) : Prop := post 0 0
set_option maxHeartbeats 4000000 in
set_option maxRecDepth 100000 in
theorem c_X6_holdNothing {l : Launch} {D : va_G} {cI cJ cS : ClassId} {ad adK : Nat → Nat} {a_o : Nat} {z_elements : Value} {v_held : Int32} {v_sort : Int32} {v_elementCount : Int32} {v_stretchNumber : Int32} {post : Int32 → Int32 → Prop} (h : F_X6_holdNothing v_held v_elementCount post) {sz : Nat} : Met l yX6_holdNothing (Cond.code yX6_holdNothing cX6_holdNothing 1 none :: GW) (rmd 0 0 0) (PW D cI cJ cS ad adK [.ref a_o] (wX6_holdNothing cI cJ cS a_o z_elements v_held v_sort v_elementCount v_stretchNumber) sz) (va_Qv (fun u : Int32 × Int32 => post u.1 u.2) (fun u t => va_P D vwCl (wX6_holdNothing cI cJ cS a_o z_elements u.1 v_sort u.2 v_stretchNumber) t.heap) (va_A (wX6_holdNothing cI cJ cS a_o z_elements v_held v_sort v_elementCount v_stretchNumber) sz)) 0 0 (va_A (wX6_holdNothing cI cJ cS a_o z_elements v_held v_sort v_elementCount v_stretchNumber) sz) := by
  refine Met.rw (Qc := fun A => (va_Qv (fun u : Int32 × Int32 => post u.1 u.2) (fun u t => va_P D vwCl (wX6_holdNothing cI cJ cS a_o z_elements u.1 v_sort u.2 v_stretchNumber) t.heap) A)) (by decide) (Nat.le_of_ble_eq_true rfl) (fun p e s m args below meth c ls A (S : CallFix p m c cX6_holdNothing 1 s args GW "RoadThatSings$Shelf") hE hT hP hD hA hS hr hlocks hname hl => ?_)
  have hS0 := hS
  have hx := S.1
  have hb := S.2.1
  have hl : lv_has ls 1 [(0, .ref a_o)] := hl
  unfold F_X6_holdNothing at h
  refine lv_aload_n hx hb dX6_holdNothing_0 rfl (lv_at hl 0 rfl) ?_
  refine lv_iconst (v := 0) hx hb dX6_holdNothing_1 (by decide) ?_
  refine pf S hE hP hD hS 0 (k := 1) rfl rfl inX6 tyX6_ok nmX6 (by decide) q165 rfl rfl rfl (Nat.le_of_ble_eq_true rfl) dX6_holdNothing_2 (fun H locs hP hD hS => ?_)
  have hP : va_P D vwCl (wX6_holdNothing cI cJ cS a_o z_elements 0 v_sort v_elementCount v_stretchNumber) H := hP
  have hD : va_D A (wX6_holdNothing cI cJ cS a_o z_elements 0 v_sort v_elementCount v_stretchNumber) := hD
  refine lv_aload_n hx hb dX6_holdNothing_5 rfl (lv_at hl 0 rfl) ?_
  refine lv_iconst (v := 0) hx hb dX6_holdNothing_6 (by decide) ?_
  refine pf S hE hP hD hS 0 (k := 3) rfl rfl inX6 tyX6_ok nmX6 (by decide) q167 rfl rfl rfl (Nat.le_of_ble_eq_true rfl) dX6_holdNothing_7 (fun H locs hP hD hS => ?_)
  have hP : va_P D vwCl (wX6_holdNothing cI cJ cS a_o z_elements 0 v_sort 0 v_stretchNumber) H := hP
  have hD : va_D A (wX6_holdNothing cI cJ cS a_o z_elements 0 v_sort 0 v_stretchNumber) := hD
  exact W.vret hx hb hr (fun t ht _ => ⟨⟨(0, 0), rfl, h, hPt hP ht⟩, hS.F ht⟩) hS.2.2 dX6_holdNothing_10
/-! X6_holdStretch -/
abbrev wX6_holdStretch (cI cJ cS : ClassId) (a_o : Nat) (z_elements : Value) (v_held : Int32) (v_sort : Int32) (v_elementCount : Int32) (v_stretchNumber : Int32) : va_W := [(a_o, .inr (5, [z_elements, .int v_held, .int v_sort, .int v_elementCount, .int v_stretchNumber]))]
def F_X6_holdStretch (v_held : Int32) (v_elementCount : Int32) (v_stretchNumber : Int32) (x1 : Int32) (post : Int32 → Int32 → Int32 → Prop) : Prop := post 2 0 x1
set_option maxHeartbeats 4000000 in
set_option maxRecDepth 100000 in
theorem c_X6_holdStretch {l : Launch} {D : va_G} {cI cJ cS : ClassId} {ad adK : Nat → Nat} {a_o : Nat} {z_elements : Value} {v_held : Int32} {v_sort : Int32} {v_elementCount : Int32} {v_stretchNumber : Int32} {x1 : Int32} {post : Int32 → Int32 → Int32 → Prop} (h : F_X6_holdStretch v_held v_elementCount v_stretchNumber x1 post) {sz : Nat} : Met l yX6_holdStretch (Cond.code yX6_holdStretch cX6_holdStretch 2 none :: GW) (rmd 0 0 0) (PW D cI cJ cS ad adK [.ref a_o, .int x1] (wX6_holdStretch cI cJ cS a_o z_elements v_held v_sort v_elementCount v_stretchNumber) sz) (va_Qv (fun u : Int32 × Int32 × Int32 => post u.1 u.2.1 u.2.2) (fun u t => va_P D vwCl (wX6_holdStretch cI cJ cS a_o z_elements u.1 v_sort u.2.1 u.2.2) t.heap) (va_A (wX6_holdStretch cI cJ cS a_o z_elements v_held v_sort v_elementCount v_stretchNumber) sz)) 0 0 (va_A (wX6_holdStretch cI cJ cS a_o z_elements v_held v_sort v_elementCount v_stretchNumber) sz) := by
  refine Met.rw (Qc := fun A => (va_Qv (fun u : Int32 × Int32 × Int32 => post u.1 u.2.1 u.2.2) (fun u t => va_P D vwCl (wX6_holdStretch cI cJ cS a_o z_elements u.1 v_sort u.2.1 u.2.2) t.heap) A)) (by decide) (Nat.le_of_ble_eq_true rfl) (fun p e s m args below meth c ls A (S : CallFix p m c cX6_holdStretch 2 s args GW "RoadThatSings$Shelf") hE hT hP hD hA hS hr hlocks hname hl => ?_)
  have hS0 := hS
  have hx := S.1
  have hb := S.2.1
  have hl : lv_has ls 2 [(0, .ref a_o), (1, .int x1)] := hl
  unfold F_X6_holdStretch at h
  refine lv_aload_n hx hb dX6_holdStretch_0 rfl (lv_at hl 0 rfl) ?_
  refine lv_iconst (v := 2) hx hb dX6_holdStretch_1 (by decide) ?_
  refine pf S hE hP hD hS 0 (k := 1) rfl rfl inX6 tyX6_ok nmX6 (by decide) q165 rfl rfl rfl (Nat.le_of_ble_eq_true rfl) dX6_holdStretch_2 (fun H locs hP hD hS => ?_)
  have hP : va_P D vwCl (wX6_holdStretch cI cJ cS a_o z_elements 2 v_sort v_elementCount v_stretchNumber) H := hP
  have hD : va_D A (wX6_holdStretch cI cJ cS a_o z_elements 2 v_sort v_elementCount v_stretchNumber) := hD
  refine lv_aload_n hx hb dX6_holdStretch_5 rfl (lv_at hl 0 rfl) ?_
  refine lv_iconst (v := 0) hx hb dX6_holdStretch_6 (by decide) ?_
  refine pf S hE hP hD hS 0 (k := 3) rfl rfl inX6 tyX6_ok nmX6 (by decide) q167 rfl rfl rfl (Nat.le_of_ble_eq_true rfl) dX6_holdStretch_7 (fun H locs hP hD hS => ?_)
  have hP : va_P D vwCl (wX6_holdStretch cI cJ cS a_o z_elements 2 v_sort 0 v_stretchNumber) H := hP
  have hD : va_D A (wX6_holdStretch cI cJ cS a_o z_elements 2 v_sort 0 v_stretchNumber) := hD
  refine lv_aload_n hx hb dX6_holdStretch_10 rfl (lv_at hl 0 rfl) ?_
  refine lv_iload_n hx hb dX6_holdStretch_11 rfl (lv_at hl 1 rfl) ?_
  refine pf S hE hP hD hS 0 (k := 4) rfl rfl inX6 tyX6_ok nmX6 (by decide) q168 rfl rfl rfl (Nat.le_of_ble_eq_true rfl) dX6_holdStretch_12 (fun H locs hP hD hS => ?_)
  have hP : va_P D vwCl (wX6_holdStretch cI cJ cS a_o z_elements 2 v_sort 0 x1) H := hP
  have hD : va_D A (wX6_holdStretch cI cJ cS a_o z_elements 2 v_sort 0 x1) := hD
  exact W.vret hx hb hr (fun t ht _ => ⟨⟨(2, 0, x1), rfl, h, hPt hP ht⟩, hS.F ht⟩) hS.2.2 dX6_holdStretch_15
/-! X6_hasElements -/
abbrev wX6_hasElements (cI cJ cS : ClassId) (a_o : Nat) (z_elements : Value) (v_held : Int32) (v_sort : Int32) (v_elementCount : Int32) (v_stretchNumber : Int32) : va_W := [(a_o, .inr (5, [z_elements, .int v_held, .int v_sort, .int v_elementCount, .int v_stretchNumber]))]
def F_X6_hasElements (v_elementCount : Int32) (x1 : Int32) (x2 : Int32) (post : Int32 → Prop) : Prop := ((x1 < 0 → post 0) ∧ (¬ x1 < 0 → ((x2 < 0 → post 0) ∧ (¬ x2 < 0 → ((v_elementCount < x1 → post 0) ∧ (¬ v_elementCount < x1 → (((v_elementCount - x1) < x2 → post 0) ∧ (¬ (v_elementCount - x1) < x2 → post 1))))))))
set_option maxHeartbeats 4000000 in
set_option maxRecDepth 100000 in
theorem c_X6_hasElements {l : Launch} {D : va_G} {cI cJ cS : ClassId} {ad adK : Nat → Nat} {a_o : Nat} {z_elements : Value} {v_held : Int32} {v_sort : Int32} {v_elementCount : Int32} {v_stretchNumber : Int32} {x1 : Int32} {x2 : Int32} {post : Int32 → Prop} (h : F_X6_hasElements v_elementCount x1 x2 post) : Met l yX6_hasElements (Cond.code yX6_hasElements cX6_hasElements 3 (some (.boolean)) :: GW) (rmd 0 0 0) (PR D cI cJ cS ad adK [.ref a_o, .int x1, .int x2] (wX6_hasElements cI cJ cS a_o z_elements v_held v_sort v_elementCount v_stretchNumber)) (vp_Si post) 0 0 nof := by
  refine Met.ro (by decide) (Nat.le_of_ble_eq_true rfl) (fun p e s m args below meth c ls (S : CallFix p m c cX6_hasElements 3 s args GW "RoadThatSings$Shelf") hE hT hP hS hr hlocks hl => ?_)
  have hx := S.1
  have hb := S.2.1
  have hl : lv_has ls 3 [(0, .ref a_o), (1, .int x1), (2, .int x2)] := hl
  unfold F_X6_hasElements at h
  refine lv_iload_n hx hb dX6_hasElements_0 rfl (lv_at hl 1 rfl) ?_
  refine lv_if_lt (tgt := 30) hx hb dX6_hasElements_1 (by decide) (fun hc => ?_) (fun hc => ?_)
  · have h := h.1 hc
    refine lv_iconst (v := 0) hx hb dX6_hasElements_30 (by decide) ?_
    exact W.zret hx hb hr rfl (fun t ht _ => ⟨_, rfl, h, ht⟩) (fun _ hq => by cases hq) dX6_hasElements_31
  have h := h.2 hc
  refine lv_iload_n hx hb dX6_hasElements_4 rfl (lv_at hl 2 rfl) ?_
  refine lv_if_lt (tgt := 30) hx hb dX6_hasElements_5 (by decide) (fun hc => ?_) (fun hc => ?_)
  · have h := h.1 hc
    refine lv_iconst (v := 0) hx hb dX6_hasElements_30 (by decide) ?_
    exact W.zret hx hb hr rfl (fun t ht _ => ⟨_, rfl, h, ht⟩) (fun _ hq => by cases hq) dX6_hasElements_31
  have h := h.2 hc
  refine lv_iload_n hx hb dX6_hasElements_8 rfl (lv_at hl 1 rfl) ?_
  refine lv_aload_n hx hb dX6_hasElements_9 rfl (lv_at hl 0 rfl) ?_
  refine gf S hE hP 0 rfl rfl inX6 (k := 3) (by decide) q167 rfl dX6_hasElements_10 ?_
  refine lv_icmp_gt (tgt := 30) hx hb dX6_hasElements_13 (by decide) (fun hc => ?_) (fun hc => ?_)
  · have h := h.1 hc
    refine lv_iconst (v := 0) hx hb dX6_hasElements_30 (by decide) ?_
    exact W.zret hx hb hr rfl (fun t ht _ => ⟨_, rfl, h, ht⟩) (fun _ hq => by cases hq) dX6_hasElements_31
  have h := h.2 hc
  refine lv_iload_n hx hb dX6_hasElements_16 rfl (lv_at hl 2 rfl) ?_
  refine lv_aload_n hx hb dX6_hasElements_17 rfl (lv_at hl 0 rfl) ?_
  refine gf S hE hP 0 rfl rfl inX6 (k := 3) (by decide) q167 rfl dX6_hasElements_18 ?_
  refine lv_iload_n hx hb dX6_hasElements_21 rfl (lv_at hl 1 rfl) ?_
  refine lv_isub hx hb dX6_hasElements_22 ?_
  refine lv_icmp_gt (tgt := 30) hx hb dX6_hasElements_23 (by decide) (fun hc => ?_) (fun hc => ?_)
  · have h := h.1 hc
    refine lv_iconst (v := 0) hx hb dX6_hasElements_30 (by decide) ?_
    exact W.zret hx hb hr rfl (fun t ht _ => ⟨_, rfl, h, ht⟩) (fun _ hq => by cases hq) dX6_hasElements_31
  have h := h.2 hc
  refine lv_iconst (v := 1) hx hb dX6_hasElements_26 (by decide) ?_
  refine lv_goto (tgt := 31) hx hb dX6_hasElements_27 (by decide) ?_
  exact W.zret hx hb hr rfl (fun t ht _ => ⟨_, rfl, h, ht⟩) (fun _ hq => by cases hq) dX6_hasElements_31
/-! X6_lowestBits -/
abbrev wX6_lowestBits (cI cJ cS : ClassId) (a_o : Nat) (z_elements : Value) (v_held : Int32) (v_sort : Int32) (v_elementCount : Int32) (v_stretchNumber : Int32) : va_W := [(a_o, .inr (5, [z_elements, .int v_held, .int v_sort, .int v_elementCount, .int v_stretchNumber]))]
def F_X6_lowestBits (v_sort : Int32) (y1 : Int64) (post : Int64 → Prop) : Prop := ((v_sort = 0 → post y1.toInt32.toInt8.toInt32.toInt64) ∧ (¬ v_sort = 0 → ((v_sort = 1 → post y1.toInt32.toInt16.toInt32.toInt64) ∧ (¬ v_sort = 1 → ((v_sort = 2 → post y1.toInt32.toInt64) ∧ (¬ v_sort = 2 → post y1))))))
set_option maxHeartbeats 4000000 in
set_option maxRecDepth 100000 in
theorem c_X6_lowestBits {l : Launch} {D : va_G} {cI cJ cS : ClassId} {ad adK : Nat → Nat} {a_o : Nat} {z_elements : Value} {v_held : Int32} {v_sort : Int32} {v_elementCount : Int32} {v_stretchNumber : Int32} {y1 : Int64} {post : Int64 → Prop} (h : F_X6_lowestBits v_sort y1 post) : Met l yX6_lowestBits (Cond.code yX6_lowestBits cX6_lowestBits 3 (some (.long)) :: GW) (rmd 0 0 0) (PR D cI cJ cS ad adK [.ref a_o, .long y1] (wX6_lowestBits cI cJ cS a_o z_elements v_held v_sort v_elementCount v_stretchNumber)) (vp_Sl post) 0 0 nof := by
  refine Met.ro (by decide) (Nat.le_of_ble_eq_true rfl) (fun p e s m args below meth c ls (S : CallFix p m c cX6_lowestBits 3 s args GW "RoadThatSings$Shelf") hE hT hP hS hr hlocks hl => ?_)
  have hx := S.1
  have hb := S.2.1
  have hl : lv_has ls 3 [(0, .ref a_o), (1, .long y1)] := hl
  unfold F_X6_lowestBits at h
  refine lv_aload_n hx hb dX6_lowestBits_0 rfl (lv_at hl 0 rfl) ?_
  refine gf S hE hP 0 rfl rfl inX6 (k := 2) (by decide) q166 rfl dX6_lowestBits_1 ?_
  by_cases hk0 : v_sort = 0
  · have h := h.1 hk0
    refine lv_tableIn (off := 28) (tgt := 32) hx hb dX6_lowestBits_4 (by rw [hk0]; decide) (by rw [hk0]; decide) (by rw [hk0]; rfl) (by decide) ?_
    refine lv_lload_n hx hb dX6_lowestBits_32 rfl (lv_at hl 1 rfl) ?_
    refine lv_l2i hx hb dX6_lowestBits_33 rfl ?_
    refine lv_i2b hx hb dX6_lowestBits_34 rfl ?_
    refine lv_i2l hx hb dX6_lowestBits_35 rfl ?_
    exact W.lret hx hb hr (fun t ht _ => ⟨_, rfl, h, ht⟩) (fun _ hq => by cases hq) dX6_lowestBits_36
  have h := h.2 hk0
  by_cases hk1 : v_sort = 1
  · have h := h.1 hk1
    refine lv_tableIn (off := 33) (tgt := 37) hx hb dX6_lowestBits_4 (by rw [hk1]; decide) (by rw [hk1]; decide) (by rw [hk1]; rfl) (by decide) ?_
    refine lv_lload_n hx hb dX6_lowestBits_37 rfl (lv_at hl 1 rfl) ?_
    refine lv_l2i hx hb dX6_lowestBits_38 rfl ?_
    refine lv_i2s hx hb dX6_lowestBits_39 rfl ?_
    refine lv_i2l hx hb dX6_lowestBits_40 rfl ?_
    exact W.lret hx hb hr (fun t ht _ => ⟨_, rfl, h, ht⟩) (fun _ hq => by cases hq) dX6_lowestBits_41
  have h := h.2 hk1
  by_cases hk2 : v_sort = 2
  · have h := h.1 hk2
    refine lv_tableIn (off := 38) (tgt := 42) hx hb dX6_lowestBits_4 (by rw [hk2]; decide) (by rw [hk2]; decide) (by rw [hk2]; rfl) (by decide) ?_
    refine lv_lload_n hx hb dX6_lowestBits_42 rfl (lv_at hl 1 rfl) ?_
    refine lv_l2i hx hb dX6_lowestBits_43 rfl ?_
    refine lv_i2l hx hb dX6_lowestBits_44 rfl ?_
    exact W.lret hx hb hr (fun t ht _ => ⟨_, rfl, h, ht⟩) (fun _ hq => by cases hq) dX6_lowestBits_45
  have h := h.2 hk2
  refine lv_tableOut (tgt := 46) hx hb dX6_lowestBits_4 (sw_out (fun k h1 h2 => by
    rcases (show k = 0 ∨ k = 1 ∨ k = 2 by omega) with rfl | rfl | rfl
    · exact hk0
    · exact hk1
    · exact hk2)) (by decide) ?_
  refine lv_lload_n hx hb dX6_lowestBits_46 rfl (lv_at hl 1 rfl) ?_
  exact W.lret hx hb hr (fun t ht _ => ⟨_, rfl, h, ht⟩) (fun _ hq => by cases hq) dX6_lowestBits_47
/-! X6_put -/
abbrev wX6_put (cI cJ cS : ClassId) (a_o a_elements : Nat) (v_held : Int32) (v_sort : Int32) (v_elementCount : Int32) (v_stretchNumber : Int32) (g_elements : Nat → Int64) : va_W := [(a_o, .inr (5, [.ref a_elements, .int v_held, .int v_sort, .int v_elementCount, .int v_stretchNumber])), (a_elements, .inl (cJ, 160, .inr (.inl g_elements)))]
def F_X6_put (v_sort : Int32) (v_elementCount : Int32) (g_elements : Nat → Int64) (x1 : Int32) (y2 : Int64) (post : (Nat → Int64) → Prop) : Prop := (F_X6_hasElement v_elementCount x1 (fun r2 => ((r2 = 0 → post g_elements) ∧ (¬ r2 = 0 → (F_X6_lowestBits v_sort y2 (fun r15 => (vp_in x1 160 ∧ post (vp_updL g_elements x1.toNatClampNeg r15))))))))
set_option maxHeartbeats 4000000 in
set_option maxRecDepth 100000 in
theorem c_X6_put {l : Launch} {D : va_G} {cI cJ cS : ClassId} {ad adK : Nat → Nat} {a_o a_elements : Nat} {v_held : Int32} {v_sort : Int32} {v_elementCount : Int32} {v_stretchNumber : Int32} {g_elements : Nat → Int64} {x1 : Int32} {y2 : Int64} {post : (Nat → Int64) → Prop} (h : F_X6_put v_sort v_elementCount g_elements x1 y2 post) {sz : Nat} : Met l yX6_put (Cond.code yX6_put cX6_put 4 none :: GW) (rmd 1 0 0) (PW D cI cJ cS ad adK [.ref a_o, .int x1, .long y2] (wX6_put cI cJ cS a_o a_elements v_held v_sort v_elementCount v_stretchNumber g_elements) sz) (va_Qv (fun u : (Nat → Int64) => post u) (fun u t => va_P D vwCl (wX6_put cI cJ cS a_o a_elements v_held v_sort v_elementCount v_stretchNumber u) t.heap) (va_A (wX6_put cI cJ cS a_o a_elements v_held v_sort v_elementCount v_stretchNumber g_elements) sz)) 0 0 (va_A (wX6_put cI cJ cS a_o a_elements v_held v_sort v_elementCount v_stretchNumber g_elements) sz) := by
  refine Met.rw (Qc := fun A => (va_Qv (fun u : (Nat → Int64) => post u) (fun u t => va_P D vwCl (wX6_put cI cJ cS a_o a_elements v_held v_sort v_elementCount v_stretchNumber u) t.heap) A)) (by decide) (Nat.le_of_ble_eq_true rfl) (fun p e s m args below meth c ls A (S : CallFix p m c cX6_put 4 s args GW "RoadThatSings$Shelf") hE hT hP hD hA hS hr hlocks hname hl => ?_)
  have hS0 := hS
  have hx := S.1
  have hb := S.2.1
  have hl : lv_has ls 4 [(0, .ref a_o), (1, .int x1), (2, .long y2)] := hl
  unfold F_X6_put at h
  refine lv_aload_n hx hb dX6_put_0 rfl (lv_at hl 0 rfl) ?_
  refine lv_iload_n hx hb dX6_put_1 rfl (lv_at hl 1 rfl) ?_
  refine ro_i (roV S hE hT hS (c_X6_hasElement h) lkX6_50 rfl ⟨(Nat.le_of_ble_eq_true rfl), (Nat.le_of_ble_eq_true rfl)⟩ (hP.sub [0] rfl) 0 rfl rfl hl.1 rfl (Nat.le_of_ble_eq_true rfl) dX6_put_2 ⟨(Nat.zero_le _), (Nat.zero_le _)⟩) (fun r2 h => ?_)
  refine lv_if_eq (tgt := 19) hx hb dX6_put_5 (by decide) (fun hc => ?_) (fun hc => ?_)
  · have h := h.1 hc
    exact W.vret hx hb hr (fun t ht _ => ⟨⟨g_elements, rfl, h, hPt hP ht⟩, hS.F ht⟩) hS.2.2 dX6_put_19
  have h := h.2 hc
  refine lv_aload_n hx hb dX6_put_8 rfl (lv_at hl 0 rfl) ?_
  refine gf S hE hP 0 rfl rfl inX6 (k := 0) (by decide) q164 rfl dX6_put_9 ?_
  refine lv_iload_n hx hb dX6_put_12 rfl (lv_at hl 1 rfl) ?_
  refine lv_aload_n hx hb dX6_put_13 rfl (lv_at hl 0 rfl) ?_
  refine lv_lload_n hx hb dX6_put_14 rfl (lv_at hl 2 rfl) ?_
  refine ro_l (roV S hE hT hS (c_X6_lowestBits h) lkX6_54 rfl ⟨(Nat.le_of_ble_eq_true rfl), (Nat.le_of_ble_eq_true rfl)⟩ (hP.sub [0] rfl) 0 rfl rfl hl.1 rfl (Nat.le_of_ble_eq_true rfl) dX6_put_15 ⟨(Nat.zero_le _), (Nat.zero_le _)⟩) (fun r15 h => ?_)
  obtain ⟨hi, h⟩ := h
  refine las S hE hP hD hS 1 rfl hi dX6_put_18 (fun H locs hP hD hS => ?_)
  have hP : va_P D vwCl (wX6_put cI cJ cS a_o a_elements v_held v_sort v_elementCount v_stretchNumber (vp_updL g_elements x1.toNatClampNeg r15)) H := hP
  have hD : va_D A (wX6_put cI cJ cS a_o a_elements v_held v_sort v_elementCount v_stretchNumber (vp_updL g_elements x1.toNatClampNeg r15)) := hD
  exact W.vret hx hb hr (fun t ht _ => ⟨⟨(vp_updL g_elements x1.toNatClampNeg r15), rfl, h, hPt hP ht⟩, hS.F ht⟩) hS.2.2 dX6_put_19
/-! X6_elementAt -/
abbrev wX6_elementAt (cI cJ cS : ClassId) (a_o a_elements : Nat) (v_held : Int32) (v_sort : Int32) (v_elementCount : Int32) (v_stretchNumber : Int32) (g_elements : Nat → Int64) : va_W := [(a_o, .inr (5, [.ref a_elements, .int v_held, .int v_sort, .int v_elementCount, .int v_stretchNumber])), (a_elements, .inl (cJ, 160, .inr (.inl g_elements)))]
def F_X6_elementAt (v_elementCount : Int32) (g_elements : Nat → Int64) (x1 : Int32) (post : Int64 → Prop) : Prop := (F_X6_hasElement v_elementCount x1 (fun r2 => ((r2 = 0 → post 0) ∧ (¬ r2 = 0 → (vp_in x1 160 ∧ post (g_elements x1.toNatClampNeg))))))
set_option maxHeartbeats 4000000 in
set_option maxRecDepth 100000 in
theorem c_X6_elementAt {l : Launch} {D : va_G} {cI cJ cS : ClassId} {ad adK : Nat → Nat} {a_o a_elements : Nat} {v_held : Int32} {v_sort : Int32} {v_elementCount : Int32} {v_stretchNumber : Int32} {g_elements : Nat → Int64} {x1 : Int32} {post : Int64 → Prop} (h : F_X6_elementAt v_elementCount g_elements x1 post) : Met l yX6_elementAt (Cond.code yX6_elementAt cX6_elementAt 2 (some (.long)) :: GW) (rmd 1 0 0) (PR D cI cJ cS ad adK [.ref a_o, .int x1] (wX6_elementAt cI cJ cS a_o a_elements v_held v_sort v_elementCount v_stretchNumber g_elements)) (vp_Sl post) 0 0 nof := by
  refine Met.ro (by decide) (Nat.le_of_ble_eq_true rfl) (fun p e s m args below meth c ls (S : CallFix p m c cX6_elementAt 2 s args GW "RoadThatSings$Shelf") hE hT hP hS hr hlocks hl => ?_)
  have hx := S.1
  have hb := S.2.1
  have hl : lv_has ls 2 [(0, .ref a_o), (1, .int x1)] := hl
  unfold F_X6_elementAt at h
  refine lv_aload_n hx hb dX6_elementAt_0 rfl (lv_at hl 0 rfl) ?_
  refine lv_iload_n hx hb dX6_elementAt_1 rfl (lv_at hl 1 rfl) ?_
  refine ro_i (roV S hE hT hS (c_X6_hasElement h) lkX6_50 rfl ⟨(Nat.le_of_ble_eq_true rfl), (Nat.le_of_ble_eq_true rfl)⟩ (hP.sub [0] rfl) 0 rfl rfl hl.1 rfl (Nat.le_of_ble_eq_true rfl) dX6_elementAt_2 ⟨(Nat.zero_le _), (Nat.zero_le _)⟩) (fun r2 h => ?_)
  refine lv_if_eq (tgt := 17) hx hb dX6_elementAt_5 (by decide) (fun hc => ?_) (fun hc => ?_)
  · have h := h.1 hc
    refine lv_lconst (v := 0) hx hb dX6_elementAt_17 (by decide) ?_
    exact W.lret hx hb hr (fun t ht _ => ⟨_, rfl, h, ht⟩) (fun _ hq => by cases hq) dX6_elementAt_18
  have h := h.2 hc
  refine lv_aload_n hx hb dX6_elementAt_8 rfl (lv_at hl 0 rfl) ?_
  refine gf S hE hP 0 rfl rfl inX6 (k := 0) (by decide) q164 rfl dX6_elementAt_9 ?_
  refine lv_iload_n hx hb dX6_elementAt_12 rfl (lv_at hl 1 rfl) ?_
  obtain ⟨hi, h⟩ := h
  refine lal S hE hP 1 rfl hi dX6_elementAt_13 ?_
  refine lv_goto (tgt := 18) hx hb dX6_elementAt_14 (by decide) ?_
  exact W.lret hx hb hr (fun t ht _ => ⟨_, rfl, h, ht⟩) (fun _ hq => by cases hq) dX6_elementAt_18
/-! X7_leave -/
abbrev wX7_leave (cI cJ cS : ClassId) (a_o : Nat) (z_kinds z_spaces z_others z_times : Value) (v_stretchCount : Int32) : va_W := [(a_o, .inr (6, [z_kinds, z_spaces, z_others, z_times, .int v_stretchCount]))]
def F_X7_leave (v_stretchCount : Int32) (x1 : Int32) (post : Int32 → Prop) : Prop := post (if 0 < (if v_stretchCount < x1 then v_stretchCount else x1) then (if v_stretchCount < x1 then v_stretchCount else x1) else 0)
set_option maxHeartbeats 4000000 in
set_option maxRecDepth 100000 in
theorem c_X7_leave {l : Launch} {D : va_G} {cI cJ cS : ClassId} {ad adK : Nat → Nat} {a_o : Nat} {z_kinds z_spaces z_others z_times : Value} {v_stretchCount : Int32} {x1 : Int32} {post : Int32 → Prop} (h : F_X7_leave v_stretchCount x1 post) {sz : Nat} : Met l yX7_leave (Cond.code yX7_leave cX7_leave 2 none :: GW) (rmd 1 0 0) (PW D cI cJ cS ad adK [.ref a_o, .int x1] (wX7_leave cI cJ cS a_o z_kinds z_spaces z_others z_times v_stretchCount) sz) (va_Qv (fun u : Int32 => post u) (fun u t => va_P D vwCl (wX7_leave cI cJ cS a_o z_kinds z_spaces z_others z_times u) t.heap) (va_A (wX7_leave cI cJ cS a_o z_kinds z_spaces z_others z_times v_stretchCount) sz)) 0 0 (va_A (wX7_leave cI cJ cS a_o z_kinds z_spaces z_others z_times v_stretchCount) sz) := by
  refine Met.rw (Qc := fun A => (va_Qv (fun u : Int32 => post u) (fun u t => va_P D vwCl (wX7_leave cI cJ cS a_o z_kinds z_spaces z_others z_times u) t.heap) A)) (by decide) (Nat.le_of_ble_eq_true rfl) (fun p e s m args below meth c ls A (S : CallFix p m c cX7_leave 2 s args GW "RoadThatSings$Stretches") hE hT hP hD hA hS hr hlocks hname hl => ?_)
  have hS0 := hS
  have hx := S.1
  have hb := S.2.1
  have hl : lv_has ls 2 [(0, .ref a_o), (1, .int x1)] := hl
  unfold F_X7_leave at h
  refine lv_aload_n hx hb dX7_leave_0 rfl (lv_at hl 0 rfl) ?_
  refine lv_iconst (v := 0) hx hb dX7_leave_1 (by decide) ?_
  refine lv_iload_n hx hb dX7_leave_2 rfl (lv_at hl 1 rfl) ?_
  refine lv_aload_n hx hb dX7_leave_3 rfl (lv_at hl 0 rfl) ?_
  refine gf S hE hP 0 rfl rfl inX7 (k := 4) (by decide) q42 rfl dX7_leave_4 ?_
  refine va_mmin hx hb (S.2.2.1.trans hl.1.symm) S.2.2.2.1 (S.2.2.2.2 _ q412) (S.2.2.2.2 _ q233) (S.2.2.2.2 _ q10) (S.2.2.2.2 _ q234) (Nat.le_of_ble_eq_true rfl) (Nat.le_of_ble_eq_true rfl) (Nat.zero_le _) (Nat.zero_le _) dX7_leave_7 ?_
  refine va_mmax hx hb (S.2.2.1.trans hl.1.symm) S.2.2.2.1 (S.2.2.2.2 _ q413) (S.2.2.2.2 _ q236) (S.2.2.2.2 _ q10) (S.2.2.2.2 _ q237) (Nat.le_of_ble_eq_true rfl) (Nat.le_of_ble_eq_true rfl) (Nat.zero_le _) (Nat.zero_le _) dX7_leave_10 ?_
  refine pf S hE hP hD hS 0 (k := 4) rfl rfl inX7 tyX7_ok nmX7 (by decide) q42 rfl rfl rfl (Nat.le_of_ble_eq_true rfl) dX7_leave_13 (fun H locs hP hD hS => ?_)
  have hP : va_P D vwCl (wX7_leave cI cJ cS a_o z_kinds z_spaces z_others z_times (if 0 < (if v_stretchCount < x1 then v_stretchCount else x1) then (if v_stretchCount < x1 then v_stretchCount else x1) else 0)) H := hP
  have hD : va_D A (wX7_leave cI cJ cS a_o z_kinds z_spaces z_others z_times (if 0 < (if v_stretchCount < x1 then v_stretchCount else x1) then (if v_stretchCount < x1 then v_stretchCount else x1) else 0)) := hD
  exact W.vret hx hb hr (fun t ht _ => ⟨⟨(if 0 < (if v_stretchCount < x1 then v_stretchCount else x1) then (if v_stretchCount < x1 then v_stretchCount else x1) else 0), rfl, h, hPt hP ht⟩, hS.F ht⟩) hS.2.2 dX7_leave_16
/-! X7_lengthOfAll -/
abbrev wX7_lengthOfAll (cI cJ cS : ClassId) (a_o a_kinds a_others a_spaces a_times : Nat) (v_stretchCount : Int32) (f_kinds : Nat → Int32) (f_others : Nat → Int32) (f_spaces : Nat → Int32) (f_times : Nat → Int32) : va_W := [(a_o, .inr (6, [.ref a_kinds, .ref a_spaces, .ref a_others, .ref a_times, .int v_stretchCount])), (a_kinds, .inl (cI, 16, .inl f_kinds)), (a_others, .inl (cI, 16, .inl f_others)), (a_spaces, .inl (cI, 16, .inl f_spaces)), (a_times, .inl (cI, 16, .inl f_times))]
def L_X7_lengthOfAll_4 (v_stretchCount : Int32) (f_kinds : Nat → Int32) (f_others : Nat → Int32) (f_spaces : Nat → Int32) (f_times : Nat → Int32) (post : Int32 → Prop) : Nat → Int32 → Int32 → Prop
  | 0, _, _ => False
  | n4 + 1, x1, x2 => ((v_stretchCount ≤ x2 → post x1) ∧ (¬ v_stretchCount ≤ x2 → (F_X7_lengthOf v_stretchCount f_kinds f_others f_spaces f_times x2 (fun r15 => (∀ x1_19 : Int32, x1_19 = x1 + r15 → (∀ x2_20 : Int32, x2_20 = x2 + 1 → L_X7_lengthOfAll_4 v_stretchCount f_kinds f_others f_spaces f_times post n4 x1_19 x2_20))))))
def F_X7_lengthOfAll (v_stretchCount : Int32) (f_kinds : Nat → Int32) (f_others : Nat → Int32) (f_spaces : Nat → Int32) (f_times : Nat → Int32) (post : Int32 → Prop) : Prop := (∃ n4 : Nat, L_X7_lengthOfAll_4 v_stretchCount f_kinds f_others f_spaces f_times post n4 0 0)
set_option maxHeartbeats 4000000 in
set_option maxRecDepth 100000 in
theorem w_X7_lengthOfAll_4 {l : Launch} {D : va_G} {cI cJ cS : ClassId} {ad adK : Nat → Nat} {a_o a_kinds a_others a_spaces a_times : Nat} {v_stretchCount : Int32} {f_kinds : Nat → Int32} {f_others : Nat → Int32} {f_spaces : Nat → Int32} {f_times : Nat → Int32} {post : Int32 → Prop} {p : Program} {e : Env} {s : State} {m : MethodId} {args : Array Value} {below : List Frame} {meth : Method} {c : Code} (S : CallFix p m c cX7_lengthOfAll 3 s args GW "RoadThatSings$Stretches") (hE : EN D cI cJ cS s) (hT : ST ad adK nof s s.heap) (hP : va_P D vwCl (wX7_lengthOfAll cI cJ cS a_o a_kinds a_others a_spaces a_times v_stretchCount f_kinds f_others f_spaces f_times) s.heap) (hS : va_S nof s.heap s.heap []) (hr : meth.sig.returnType = (some (.int))) (hlocks : meth.locks = false) : ∀ n : Nat, ∀ (x1 : Int32) (x2 : Int32) (ls : Array Slot), L_X7_lengthOfAll_4 v_stretchCount f_kinds f_others f_spaces f_times post n x1 x2 → lv_has ls 3 [(0, .ref a_o), (1, .int x1), (2, .int x2)] → W p l e (rmd 3 0 0) s m args below meth c s.heap [] 0 0 (MQ below (vp_Si post) args s 0 0 nof) (F0 m 4 ls []) := by
  intro n
  induction n with
  | zero =>
    intro x1 x2 ls h hl
    exact h.elim
  | succ n ih =>
    intro x1 x2 ls h hl
    rw [L_X7_lengthOfAll_4] at h
    have hx := S.1
    have hb := S.2.1
    refine lv_iload_n hx hb dX7_lengthOfAll_4 rfl (lv_at hl 2 rfl) ?_
    refine lv_aload_n hx hb dX7_lengthOfAll_5 rfl (lv_at hl 0 rfl) ?_
    refine gf S hE hP 0 rfl rfl inX7 (k := 4) (by decide) q42 rfl dX7_lengthOfAll_6 ?_
    refine lv_icmp_ge (tgt := 26) hx hb dX7_lengthOfAll_9 (by decide) (fun hc => ?_) (fun hc => ?_)
    · have h := h.1 hc
      refine lv_iload_n hx hb dX7_lengthOfAll_26 rfl (lv_at hl 1 rfl) ?_
      exact W.iret hx hb hr (fun t ht _ => ⟨_, rfl, h, ht⟩) (fun _ hq => by cases hq) dX7_lengthOfAll_27
    have h := h.2 hc
    refine lv_iload_n hx hb dX7_lengthOfAll_12 rfl (lv_at hl 1 rfl) ?_
    refine lv_aload_n hx hb dX7_lengthOfAll_13 rfl (lv_at hl 0 rfl) ?_
    refine lv_iload_n hx hb dX7_lengthOfAll_14 rfl (lv_at hl 2 rfl) ?_
    refine ro_i (roV S hE hT hS (c_X7_lengthOf h) lkX7_67 rfl ⟨(Nat.le_of_ble_eq_true rfl), (Nat.le_of_ble_eq_true rfl)⟩ (hP.sub [0, 1, 2, 3, 4] rfl) 0 rfl rfl hl.1 rfl (Nat.le_of_ble_eq_true rfl) dX7_lengthOfAll_15 ⟨(Nat.zero_le _), (Nat.zero_le _)⟩) (fun r15 h => ?_)
    refine lv_iadd hx hb dX7_lengthOfAll_18 ?_
    refine lv_topi (fun x1_19 ex1_19 => ?_)
    have h := h _ ex1_19
    refine lv_istore_n (lv' := [(1, .int x1_19), (0, .ref a_o), (2, .int x2)]) hx hb dX7_lengthOfAll_19 rfl hl (by decide) rfl (fun ls hl => ?_)
    obtain ⟨x2_20, ex2_20⟩ : ∃ z : Int32, z = x2 + 1 := ⟨_, rfl⟩
    have h := h _ ex2_20
    refine lv_iinc (v := x2_20) (lv' := [(2, .int x2_20), (1, .int x1_19), (0, .ref a_o)]) hx hb dX7_lengthOfAll_20 hl (k := 2) rfl (by rw [ex2_20]; rfl) (by decide) rfl (fun ls hl => ?_)
    refine lv_goto (tgt := 4) hx hb dX7_lengthOfAll_23 (by decide) ?_
    exact ih _ _ _ h (lv_sub hl [2, 1, 0] rfl)
set_option maxHeartbeats 4000000 in
set_option maxRecDepth 100000 in
theorem c_X7_lengthOfAll {l : Launch} {D : va_G} {cI cJ cS : ClassId} {ad adK : Nat → Nat} {a_o a_kinds a_others a_spaces a_times : Nat} {v_stretchCount : Int32} {f_kinds : Nat → Int32} {f_others : Nat → Int32} {f_spaces : Nat → Int32} {f_times : Nat → Int32} {post : Int32 → Prop} (h : F_X7_lengthOfAll v_stretchCount f_kinds f_others f_spaces f_times post) : Met l yX7_lengthOfAll (Cond.code yX7_lengthOfAll cX7_lengthOfAll 3 (some (.int)) :: GW) (rmd 3 0 0) (PR D cI cJ cS ad adK [.ref a_o] (wX7_lengthOfAll cI cJ cS a_o a_kinds a_others a_spaces a_times v_stretchCount f_kinds f_others f_spaces f_times)) (vp_Si post) 0 0 nof := by
  refine Met.ro (by decide) (Nat.le_of_ble_eq_true rfl) (fun p e s m args below meth c ls (S : CallFix p m c cX7_lengthOfAll 3 s args GW "RoadThatSings$Stretches") hE hT hP hS hr hlocks hl => ?_)
  have hx := S.1
  have hb := S.2.1
  have hl : lv_has ls 3 [(0, .ref a_o)] := hl
  unfold F_X7_lengthOfAll at h
  refine lv_iconst (v := 0) hx hb dX7_lengthOfAll_0 (by decide) ?_
  refine lv_istore_n (lv' := [(1, .int 0), (0, .ref a_o)]) hx hb dX7_lengthOfAll_1 rfl hl (by decide) rfl (fun ls hl => ?_)
  refine lv_iconst (v := 0) hx hb dX7_lengthOfAll_2 (by decide) ?_
  refine lv_istore_n (lv' := [(2, .int 0), (1, .int 0), (0, .ref a_o)]) hx hb dX7_lengthOfAll_3 rfl hl (by decide) rfl (fun ls hl => ?_)
  obtain ⟨n, h⟩ := h
  refine w_X7_lengthOfAll_4 S hE hT hP hS hr hlocks n _ _ _ h (lv_sub hl [2, 1, 0] rfl)
/-! X7_sayingOf -/
abbrev wX7_sayingOf (cI cJ cS : ClassId) (a_o a_kinds a_others a_spaces a_times : Nat) (v_stretchCount : Int32) (f_kinds : Nat → Int32) (f_others : Nat → Int32) (f_spaces : Nat → Int32) (f_times : Nat → Int32) : va_W := [(a_o, .inr (6, [.ref a_kinds, .ref a_spaces, .ref a_others, .ref a_times, .int v_stretchCount])), (a_kinds, .inl (cI, 16, .inl f_kinds)), (a_others, .inl (cI, 16, .inl f_others)), (a_spaces, .inl (cI, 16, .inl f_spaces)), (a_times, .inl (cI, 16, .inl f_times))]
def F_X7_sayingOf (v_stretchCount : Int32) (f_kinds : Nat → Int32) (f_others : Nat → Int32) (f_spaces : Nat → Int32) (f_times : Nat → Int32) (x1 : Int32) (x2 : Int32) (post : Int32 → Prop) : Prop := ((x2 = 0 → (F_X7_lengthOf v_stretchCount f_kinds f_others f_spaces f_times x1 (fun r46 => post r46))) ∧ (¬ x2 = 0 → ((x2 = 1 → (F_X7_spaceOf v_stretchCount f_spaces x1 (fun r76 => post r76))) ∧ (¬ x2 = 1 → ((x2 = 2 → (F_X7_spaceOf v_stretchCount f_spaces x1 (fun r52 => (F_X7_otherOf v_stretchCount f_others x1 (fun r57 => post (r52 + r57)))))) ∧ (¬ x2 = 2 → ((x2 = 3 → (F_X7_timesOf v_stretchCount f_times x1 (fun r64 => post r64))) ∧ (¬ x2 = 3 → ((x2 = 4 → (F_X7_spaceOf v_stretchCount f_spaces x1 (fun r76 => post r76))) ∧ (¬ x2 = 4 → ((x2 = 5 → (F_X7_spaceOf v_stretchCount f_spaces x1 (fun r52 => (F_X7_otherOf v_stretchCount f_others x1 (fun r57 => post (r52 + r57)))))) ∧ (¬ x2 = 5 → ((x2 = 6 → (F_X7_otherOf v_stretchCount f_others x1 (fun r70 => post r70))) ∧ (¬ x2 = 6 → (F_X7_spaceOf v_stretchCount f_spaces x1 (fun r76 => post r76))))))))))))))))
set_option maxHeartbeats 4000000 in
set_option maxRecDepth 100000 in
theorem c_X7_sayingOf {l : Launch} {D : va_G} {cI cJ cS : ClassId} {ad adK : Nat → Nat} {a_o a_kinds a_others a_spaces a_times : Nat} {v_stretchCount : Int32} {f_kinds : Nat → Int32} {f_others : Nat → Int32} {f_spaces : Nat → Int32} {f_times : Nat → Int32} {x1 : Int32} {x2 : Int32} {post : Int32 → Prop} (h : F_X7_sayingOf v_stretchCount f_kinds f_others f_spaces f_times x1 x2 post) : Met l yX7_sayingOf (Cond.code yX7_sayingOf cX7_sayingOf 3 (some (.int)) :: GW) (rmd 3 0 0) (PR D cI cJ cS ad adK [.ref a_o, .int x1, .int x2] (wX7_sayingOf cI cJ cS a_o a_kinds a_others a_spaces a_times v_stretchCount f_kinds f_others f_spaces f_times)) (vp_Si post) 0 0 nof := by
  refine Met.ro (by decide) (Nat.le_of_ble_eq_true rfl) (fun p e s m args below meth c ls (S : CallFix p m c cX7_sayingOf 3 s args GW "RoadThatSings$Stretches") hE hT hP hS hr hlocks hl => ?_)
  have hx := S.1
  have hb := S.2.1
  have hl : lv_has ls 3 [(0, .ref a_o), (1, .int x1), (2, .int x2)] := hl
  unfold F_X7_sayingOf at h
  refine lv_iload_n hx hb dX7_sayingOf_0 rfl (lv_at hl 2 rfl) ?_
  by_cases hk0 : x2 = 0
  · have h := h.1 hk0
    refine lv_tableIn (off := 43) (tgt := 44) hx hb dX7_sayingOf_1 (by rw [hk0]; decide) (by rw [hk0]; decide) (by rw [hk0]; rfl) (by decide) ?_
    refine lv_aload_n hx hb dX7_sayingOf_44 rfl (lv_at hl 0 rfl) ?_
    refine lv_iload_n hx hb dX7_sayingOf_45 rfl (lv_at hl 1 rfl) ?_
    refine ro_i (roV S hE hT hS (c_X7_lengthOf h) lkX7_67 rfl ⟨(Nat.le_of_ble_eq_true rfl), (Nat.le_of_ble_eq_true rfl)⟩ (hP.sub [0, 1, 2, 3, 4] rfl) 0 rfl rfl hl.1 rfl (Nat.le_of_ble_eq_true rfl) dX7_sayingOf_46 ⟨(Nat.zero_le _), (Nat.zero_le _)⟩) (fun r46 h => ?_)
    exact W.iret hx hb hr (fun t ht _ => ⟨_, rfl, h, ht⟩) (fun _ hq => by cases hq) dX7_sayingOf_49
  have h := h.2 hk0
  by_cases hk1 : x2 = 1
  · have h := h.1 hk1
    refine lv_tableIn (off := 73) (tgt := 74) hx hb dX7_sayingOf_1 (by rw [hk1]; decide) (by rw [hk1]; decide) (by rw [hk1]; rfl) (by decide) ?_
    refine lv_aload_n hx hb dX7_sayingOf_74 rfl (lv_at hl 0 rfl) ?_
    refine lv_iload_n hx hb dX7_sayingOf_75 rfl (lv_at hl 1 rfl) ?_
    refine ro_i (roV S hE hT hS (c_X7_spaceOf h) lkX7_70 rfl ⟨(Nat.le_of_ble_eq_true rfl), (Nat.le_of_ble_eq_true rfl)⟩ (hP.sub [0, 3] rfl) 0 rfl rfl hl.1 rfl (Nat.le_of_ble_eq_true rfl) dX7_sayingOf_76 ⟨(Nat.zero_le _), (Nat.zero_le _)⟩) (fun r76 h => ?_)
    exact W.iret hx hb hr (fun t ht _ => ⟨_, rfl, h, ht⟩) (fun _ hq => by cases hq) dX7_sayingOf_79
  have h := h.2 hk1
  by_cases hk2 : x2 = 2
  · have h := h.1 hk2
    refine lv_tableIn (off := 49) (tgt := 50) hx hb dX7_sayingOf_1 (by rw [hk2]; decide) (by rw [hk2]; decide) (by rw [hk2]; rfl) (by decide) ?_
    refine lv_aload_n hx hb dX7_sayingOf_50 rfl (lv_at hl 0 rfl) ?_
    refine lv_iload_n hx hb dX7_sayingOf_51 rfl (lv_at hl 1 rfl) ?_
    refine ro_i (roV S hE hT hS (c_X7_spaceOf h) lkX7_70 rfl ⟨(Nat.le_of_ble_eq_true rfl), (Nat.le_of_ble_eq_true rfl)⟩ (hP.sub [0, 3] rfl) 0 rfl rfl hl.1 rfl (Nat.le_of_ble_eq_true rfl) dX7_sayingOf_52 ⟨(Nat.zero_le _), (Nat.zero_le _)⟩) (fun r52 h => ?_)
    refine lv_aload_n hx hb dX7_sayingOf_55 rfl (lv_at hl 0 rfl) ?_
    refine lv_iload_n hx hb dX7_sayingOf_56 rfl (lv_at hl 1 rfl) ?_
    refine ro_i (roV S hE hT hS (c_X7_otherOf h) lkX7_58 rfl ⟨(Nat.le_of_ble_eq_true rfl), (Nat.le_of_ble_eq_true rfl)⟩ (hP.sub [0, 2] rfl) 0 rfl rfl hl.1 rfl (Nat.le_of_ble_eq_true rfl) dX7_sayingOf_57 ⟨(Nat.zero_le _), (Nat.zero_le _)⟩) (fun r57 h => ?_)
    refine lv_iadd hx hb dX7_sayingOf_60 ?_
    exact W.iret hx hb hr (fun t ht _ => ⟨_, rfl, h, ht⟩) (fun _ hq => by cases hq) dX7_sayingOf_61
  have h := h.2 hk2
  by_cases hk3 : x2 = 3
  · have h := h.1 hk3
    refine lv_tableIn (off := 61) (tgt := 62) hx hb dX7_sayingOf_1 (by rw [hk3]; decide) (by rw [hk3]; decide) (by rw [hk3]; rfl) (by decide) ?_
    refine lv_aload_n hx hb dX7_sayingOf_62 rfl (lv_at hl 0 rfl) ?_
    refine lv_iload_n hx hb dX7_sayingOf_63 rfl (lv_at hl 1 rfl) ?_
    refine ro_i (roV S hE hT hS (c_X7_timesOf h) lkX7_64 rfl ⟨(Nat.le_of_ble_eq_true rfl), (Nat.le_of_ble_eq_true rfl)⟩ (hP.sub [0, 4] rfl) 0 rfl rfl hl.1 rfl (Nat.le_of_ble_eq_true rfl) dX7_sayingOf_64 ⟨(Nat.zero_le _), (Nat.zero_le _)⟩) (fun r64 h => ?_)
    exact W.iret hx hb hr (fun t ht _ => ⟨_, rfl, h, ht⟩) (fun _ hq => by cases hq) dX7_sayingOf_67
  have h := h.2 hk3
  by_cases hk4 : x2 = 4
  · have h := h.1 hk4
    refine lv_tableIn (off := 73) (tgt := 74) hx hb dX7_sayingOf_1 (by rw [hk4]; decide) (by rw [hk4]; decide) (by rw [hk4]; rfl) (by decide) ?_
    refine lv_aload_n hx hb dX7_sayingOf_74 rfl (lv_at hl 0 rfl) ?_
    refine lv_iload_n hx hb dX7_sayingOf_75 rfl (lv_at hl 1 rfl) ?_
    refine ro_i (roV S hE hT hS (c_X7_spaceOf h) lkX7_70 rfl ⟨(Nat.le_of_ble_eq_true rfl), (Nat.le_of_ble_eq_true rfl)⟩ (hP.sub [0, 3] rfl) 0 rfl rfl hl.1 rfl (Nat.le_of_ble_eq_true rfl) dX7_sayingOf_76 ⟨(Nat.zero_le _), (Nat.zero_le _)⟩) (fun r76 h => ?_)
    exact W.iret hx hb hr (fun t ht _ => ⟨_, rfl, h, ht⟩) (fun _ hq => by cases hq) dX7_sayingOf_79
  have h := h.2 hk4
  by_cases hk5 : x2 = 5
  · have h := h.1 hk5
    refine lv_tableIn (off := 49) (tgt := 50) hx hb dX7_sayingOf_1 (by rw [hk5]; decide) (by rw [hk5]; decide) (by rw [hk5]; rfl) (by decide) ?_
    refine lv_aload_n hx hb dX7_sayingOf_50 rfl (lv_at hl 0 rfl) ?_
    refine lv_iload_n hx hb dX7_sayingOf_51 rfl (lv_at hl 1 rfl) ?_
    refine ro_i (roV S hE hT hS (c_X7_spaceOf h) lkX7_70 rfl ⟨(Nat.le_of_ble_eq_true rfl), (Nat.le_of_ble_eq_true rfl)⟩ (hP.sub [0, 3] rfl) 0 rfl rfl hl.1 rfl (Nat.le_of_ble_eq_true rfl) dX7_sayingOf_52 ⟨(Nat.zero_le _), (Nat.zero_le _)⟩) (fun r52 h => ?_)
    refine lv_aload_n hx hb dX7_sayingOf_55 rfl (lv_at hl 0 rfl) ?_
    refine lv_iload_n hx hb dX7_sayingOf_56 rfl (lv_at hl 1 rfl) ?_
    refine ro_i (roV S hE hT hS (c_X7_otherOf h) lkX7_58 rfl ⟨(Nat.le_of_ble_eq_true rfl), (Nat.le_of_ble_eq_true rfl)⟩ (hP.sub [0, 2] rfl) 0 rfl rfl hl.1 rfl (Nat.le_of_ble_eq_true rfl) dX7_sayingOf_57 ⟨(Nat.zero_le _), (Nat.zero_le _)⟩) (fun r57 h => ?_)
    refine lv_iadd hx hb dX7_sayingOf_60 ?_
    exact W.iret hx hb hr (fun t ht _ => ⟨_, rfl, h, ht⟩) (fun _ hq => by cases hq) dX7_sayingOf_61
  have h := h.2 hk5
  by_cases hk6 : x2 = 6
  · have h := h.1 hk6
    refine lv_tableIn (off := 67) (tgt := 68) hx hb dX7_sayingOf_1 (by rw [hk6]; decide) (by rw [hk6]; decide) (by rw [hk6]; rfl) (by decide) ?_
    refine lv_aload_n hx hb dX7_sayingOf_68 rfl (lv_at hl 0 rfl) ?_
    refine lv_iload_n hx hb dX7_sayingOf_69 rfl (lv_at hl 1 rfl) ?_
    refine ro_i (roV S hE hT hS (c_X7_otherOf h) lkX7_58 rfl ⟨(Nat.le_of_ble_eq_true rfl), (Nat.le_of_ble_eq_true rfl)⟩ (hP.sub [0, 2] rfl) 0 rfl rfl hl.1 rfl (Nat.le_of_ble_eq_true rfl) dX7_sayingOf_70 ⟨(Nat.zero_le _), (Nat.zero_le _)⟩) (fun r70 h => ?_)
    exact W.iret hx hb hr (fun t ht _ => ⟨_, rfl, h, ht⟩) (fun _ hq => by cases hq) dX7_sayingOf_73
  have h := h.2 hk6
  refine lv_tableOut (tgt := 74) hx hb dX7_sayingOf_1 (sw_out (fun k h1 h2 => by
    rcases (show k = 0 ∨ k = 1 ∨ k = 2 ∨ k = 3 ∨ k = 4 ∨ k = 5 ∨ k = 6 by omega) with rfl | rfl | rfl | rfl | rfl | rfl | rfl
    · exact hk0
    · exact hk1
    · exact hk2
    · exact hk3
    · exact hk4
    · exact hk5
    · exact hk6)) (by decide) ?_
  refine lv_aload_n hx hb dX7_sayingOf_74 rfl (lv_at hl 0 rfl) ?_
  refine lv_iload_n hx hb dX7_sayingOf_75 rfl (lv_at hl 1 rfl) ?_
  refine ro_i (roV S hE hT hS (c_X7_spaceOf h) lkX7_70 rfl ⟨(Nat.le_of_ble_eq_true rfl), (Nat.le_of_ble_eq_true rfl)⟩ (hP.sub [0, 3] rfl) 0 rfl rfl hl.1 rfl (Nat.le_of_ble_eq_true rfl) dX7_sayingOf_76 ⟨(Nat.zero_le _), (Nat.zero_le _)⟩) (fun r76 h => ?_)
  exact W.iret hx hb hr (fun t ht _ => ⟨_, rfl, h, ht⟩) (fun _ hq => by cases hq) dX7_sayingOf_79
/-! X7_newLoudnessOf -/
abbrev wX7_newLoudnessOf (cI cJ cS : ClassId) (a_o a_kinds : Nat) (z_spaces z_others z_times : Value) (v_stretchCount : Int32) (f_kinds : Nat → Int32) : va_W := [(a_o, .inr (6, [.ref a_kinds, z_spaces, z_others, z_times, .int v_stretchCount])), (a_kinds, .inl (cI, 16, .inl f_kinds))]
def F_X7_newLoudnessOf (v_stretchCount : Int32) (f_kinds : Nat → Int32) (x1 : Int32) (post : Int32 → Prop) : Prop := (F_X7_kindOf v_stretchCount f_kinds x1 (fun r2 => ((r2 = 3 → post 0) ∧ (¬ r2 = 3 → ((r2 = 4 → post 15) ∧ (¬ r2 = 4 → ((r2 = 5 → post 8) ∧ (¬ r2 = 5 → post 10))))))))
set_option maxHeartbeats 4000000 in
set_option maxRecDepth 100000 in
theorem c_X7_newLoudnessOf {l : Launch} {D : va_G} {cI cJ cS : ClassId} {ad adK : Nat → Nat} {a_o a_kinds : Nat} {z_spaces z_others z_times : Value} {v_stretchCount : Int32} {f_kinds : Nat → Int32} {x1 : Int32} {post : Int32 → Prop} (h : F_X7_newLoudnessOf v_stretchCount f_kinds x1 post) : Met l yX7_newLoudnessOf (Cond.code yX7_newLoudnessOf cX7_newLoudnessOf 2 (some (.int)) :: GW) (rmd 2 0 0) (PR D cI cJ cS ad adK [.ref a_o, .int x1] (wX7_newLoudnessOf cI cJ cS a_o a_kinds z_spaces z_others z_times v_stretchCount f_kinds)) (vp_Si post) 0 0 nof := by
  refine Met.ro (by decide) (Nat.le_of_ble_eq_true rfl) (fun p e s m args below meth c ls (S : CallFix p m c cX7_newLoudnessOf 2 s args GW "RoadThatSings$Stretches") hE hT hP hS hr hlocks hl => ?_)
  have hx := S.1
  have hb := S.2.1
  have hl : lv_has ls 2 [(0, .ref a_o), (1, .int x1)] := hl
  unfold F_X7_newLoudnessOf at h
  refine lv_aload_n hx hb dX7_newLoudnessOf_0 rfl (lv_at hl 0 rfl) ?_
  refine lv_iload_n hx hb dX7_newLoudnessOf_1 rfl (lv_at hl 1 rfl) ?_
  refine ro_i (roV S hE hT hS (c_X7_kindOf h) lkX7_54 rfl ⟨(Nat.le_of_ble_eq_true rfl), (Nat.le_of_ble_eq_true rfl)⟩ (hP.sub [0, 1] rfl) 0 rfl rfl hl.1 rfl (Nat.le_of_ble_eq_true rfl) dX7_newLoudnessOf_2 ⟨(Nat.zero_le _), (Nat.zero_le _)⟩) (fun r2 h => ?_)
  by_cases hk3 : r2 = 3
  · have h := h.1 hk3
    refine lv_tableIn (off := 27) (tgt := 32) hx hb dX7_newLoudnessOf_5 (by rw [hk3]; decide) (by rw [hk3]; decide) (by rw [hk3]; rfl) (by decide) ?_
    refine lv_iconst (v := 0) hx hb dX7_newLoudnessOf_32 (by decide) ?_
    exact W.iret hx hb hr (fun t ht _ => ⟨_, rfl, h, ht⟩) (fun _ hq => by cases hq) dX7_newLoudnessOf_33
  have h := h.2 hk3
  by_cases hk4 : r2 = 4
  · have h := h.1 hk4
    refine lv_tableIn (off := 29) (tgt := 34) hx hb dX7_newLoudnessOf_5 (by rw [hk4]; decide) (by rw [hk4]; decide) (by rw [hk4]; rfl) (by decide) ?_
    refine lv_bipush (v := 15) hx hb dX7_newLoudnessOf_34 (by decide) ?_
    exact W.iret hx hb hr (fun t ht _ => ⟨_, rfl, h, ht⟩) (fun _ hq => by cases hq) dX7_newLoudnessOf_36
  have h := h.2 hk4
  by_cases hk5 : r2 = 5
  · have h := h.1 hk5
    refine lv_tableIn (off := 32) (tgt := 37) hx hb dX7_newLoudnessOf_5 (by rw [hk5]; decide) (by rw [hk5]; decide) (by rw [hk5]; rfl) (by decide) ?_
    refine lv_bipush (v := 8) hx hb dX7_newLoudnessOf_37 (by decide) ?_
    exact W.iret hx hb hr (fun t ht _ => ⟨_, rfl, h, ht⟩) (fun _ hq => by cases hq) dX7_newLoudnessOf_39
  have h := h.2 hk5
  refine lv_tableOut (tgt := 40) hx hb dX7_newLoudnessOf_5 (sw_out (fun k h1 h2 => by
    rcases (show k = 3 ∨ k = 4 ∨ k = 5 by omega) with rfl | rfl | rfl
    · exact hk3
    · exact hk4
    · exact hk5)) (by decide) ?_
  refine lv_bipush (v := 10) hx hb dX7_newLoudnessOf_40 (by decide) ?_
  exact W.iret hx hb hr (fun t ht _ => ⟨_, rfl, h, ht⟩) (fun _ hq => by cases hq) dX7_newLoudnessOf_42
/-! X7_loudnessOf -/
abbrev wX7_loudnessOf (cI cJ cS : ClassId) (a_o a_kinds : Nat) (z_spaces z_others z_times : Value) (v_stretchCount : Int32) (f_kinds : Nat → Int32) : va_W := [(a_o, .inr (6, [.ref a_kinds, z_spaces, z_others, z_times, .int v_stretchCount])), (a_kinds, .inl (cI, 16, .inl f_kinds))]
def F_X7_loudnessOf (v_stretchCount : Int32) (f_kinds : Nat → Int32) (x1 : Int32) (x2 : Int32) (post : Int32 → Prop) : Prop := (F_X7_newLoudnessOf v_stretchCount f_kinds x1 (fun r3 => post (if 0 < (r3 - (x2 / 5)) then (r3 - (x2 / 5)) else 0)))
set_option maxHeartbeats 4000000 in
set_option maxRecDepth 100000 in
theorem c_X7_loudnessOf {l : Launch} {D : va_G} {cI cJ cS : ClassId} {ad adK : Nat → Nat} {a_o a_kinds : Nat} {z_spaces z_others z_times : Value} {v_stretchCount : Int32} {f_kinds : Nat → Int32} {x1 : Int32} {x2 : Int32} {post : Int32 → Prop} (h : F_X7_loudnessOf v_stretchCount f_kinds x1 x2 post) : Met l yX7_loudnessOf (Cond.code yX7_loudnessOf cX7_loudnessOf 3 (some (.int)) :: GW) (rmd 3 0 0) (PR D cI cJ cS ad adK [.ref a_o, .int x1, .int x2] (wX7_loudnessOf cI cJ cS a_o a_kinds z_spaces z_others z_times v_stretchCount f_kinds)) (vp_Si post) 0 0 nof := by
  refine Met.ro (by decide) (Nat.le_of_ble_eq_true rfl) (fun p e s m args below meth c ls (S : CallFix p m c cX7_loudnessOf 3 s args GW "RoadThatSings$Stretches") hE hT hP hS hr hlocks hl => ?_)
  have hx := S.1
  have hb := S.2.1
  have hl : lv_has ls 3 [(0, .ref a_o), (1, .int x1), (2, .int x2)] := hl
  unfold F_X7_loudnessOf at h
  refine lv_iconst (v := 0) hx hb dX7_loudnessOf_0 (by decide) ?_
  refine lv_aload_n hx hb dX7_loudnessOf_1 rfl (lv_at hl 0 rfl) ?_
  refine lv_iload_n hx hb dX7_loudnessOf_2 rfl (lv_at hl 1 rfl) ?_
  refine ro_i (roV S hE hT hS (c_X7_newLoudnessOf h) lkX7_79 rfl ⟨(Nat.le_of_ble_eq_true rfl), (Nat.le_of_ble_eq_true rfl)⟩ (hP.sub [0, 1] rfl) 0 rfl rfl hl.1 rfl (Nat.le_of_ble_eq_true rfl) dX7_loudnessOf_3 ⟨(Nat.zero_le _), (Nat.zero_le _)⟩) (fun r3 h => ?_)
  refine lv_iload_n hx hb dX7_loudnessOf_6 rfl (lv_at hl 2 rfl) ?_
  refine lv_iconst (v := 5) hx hb dX7_loudnessOf_7 (by decide) ?_
  refine lv_idiv hx hb dX7_loudnessOf_8 (by decide) ?_
  refine lv_isub hx hb dX7_loudnessOf_9 ?_
  refine va_mmax hx hb (S.2.2.1.trans hl.1.symm) S.2.2.2.1 (S.2.2.2.2 _ q413) (S.2.2.2.2 _ q236) (S.2.2.2.2 _ q10) (S.2.2.2.2 _ q237) (Nat.le_of_ble_eq_true rfl) (Nat.le_of_ble_eq_true rfl) (Nat.zero_le _) (Nat.zero_le _) dX7_loudnessOf_10 ?_
  exact W.iret hx hb hr (fun t ht _ => ⟨_, rfl, h, ht⟩) (fun _ hq => by cases hq) dX7_loudnessOf_13
/-! X7_isOneLoud -/
abbrev wX7_isOneLoud (cI cJ cS : ClassId) (a_o a_kinds : Nat) (z_spaces z_others z_times : Value) (v_stretchCount : Int32) (f_kinds : Nat → Int32) : va_W := [(a_o, .inr (6, [.ref a_kinds, z_spaces, z_others, z_times, .int v_stretchCount])), (a_kinds, .inl (cI, 16, .inl f_kinds))]
def L_X7_isOneLoud_2 (v_stretchCount : Int32) (f_kinds : Nat → Int32) (x1 : Int32) (post : Int32 → Prop) : Nat → Int32 → Prop
  | 0, _ => False
  | n2 + 1, x2 => ((v_stretchCount ≤ x2 → post 0) ∧ (¬ v_stretchCount ≤ x2 → (F_X7_loudnessOf v_stretchCount f_kinds x2 x1 (fun r13 => ((r13 ≤ 0 → (∀ x2_21 : Int32, x2_21 = x2 + 1 → L_X7_isOneLoud_2 v_stretchCount f_kinds x1 post n2 x2_21)) ∧ (¬ r13 ≤ 0 → post 1))))))
def F_X7_isOneLoud (v_stretchCount : Int32) (f_kinds : Nat → Int32) (x1 : Int32) (post : Int32 → Prop) : Prop := (∃ n2 : Nat, L_X7_isOneLoud_2 v_stretchCount f_kinds x1 post n2 0)
set_option maxHeartbeats 4000000 in
set_option maxRecDepth 100000 in
theorem w_X7_isOneLoud_2 {l : Launch} {D : va_G} {cI cJ cS : ClassId} {ad adK : Nat → Nat} {a_o a_kinds : Nat} {z_spaces z_others z_times : Value} {v_stretchCount : Int32} {f_kinds : Nat → Int32} {x1 : Int32} {post : Int32 → Prop} {p : Program} {e : Env} {s : State} {m : MethodId} {args : Array Value} {below : List Frame} {meth : Method} {c : Code} (S : CallFix p m c cX7_isOneLoud 3 s args GW "RoadThatSings$Stretches") (hE : EN D cI cJ cS s) (hT : ST ad adK nof s s.heap) (hP : va_P D vwCl (wX7_isOneLoud cI cJ cS a_o a_kinds z_spaces z_others z_times v_stretchCount f_kinds) s.heap) (hS : va_S nof s.heap s.heap []) (hr : meth.sig.returnType = (some (.boolean))) (hlocks : meth.locks = false) : ∀ n : Nat, ∀ (x2 : Int32) (ls : Array Slot), L_X7_isOneLoud_2 v_stretchCount f_kinds x1 post n x2 → lv_has ls 3 [(0, .ref a_o), (1, .int x1), (2, .int x2)] → W p l e (rmd 4 0 0) s m args below meth c s.heap [] 0 0 (MQ below (vp_Si post) args s 0 0 nof) (F0 m 2 ls []) := by
  intro n
  induction n with
  | zero =>
    intro x2 ls h hl
    exact h.elim
  | succ n ih =>
    intro x2 ls h hl
    rw [L_X7_isOneLoud_2] at h
    have hx := S.1
    have hb := S.2.1
    refine lv_iload_n hx hb dX7_isOneLoud_2 rfl (lv_at hl 2 rfl) ?_
    refine lv_aload_n hx hb dX7_isOneLoud_3 rfl (lv_at hl 0 rfl) ?_
    refine gf S hE hP 0 rfl rfl inX7 (k := 4) (by decide) q42 rfl dX7_isOneLoud_4 ?_
    refine lv_icmp_ge (tgt := 27) hx hb dX7_isOneLoud_7 (by decide) (fun hc => ?_) (fun hc => ?_)
    · have h := h.1 hc
      refine lv_iconst (v := 0) hx hb dX7_isOneLoud_27 (by decide) ?_
      exact W.zret hx hb hr rfl (fun t ht _ => ⟨_, rfl, h, ht⟩) (fun _ hq => by cases hq) dX7_isOneLoud_28
    have h := h.2 hc
    refine lv_aload_n hx hb dX7_isOneLoud_10 rfl (lv_at hl 0 rfl) ?_
    refine lv_iload_n hx hb dX7_isOneLoud_11 rfl (lv_at hl 2 rfl) ?_
    refine lv_iload_n hx hb dX7_isOneLoud_12 rfl (lv_at hl 1 rfl) ?_
    refine ro_i (roV S hE hT hS (c_X7_loudnessOf h) lkX7_82 rfl ⟨(Nat.le_of_ble_eq_true rfl), (Nat.le_of_ble_eq_true rfl)⟩ (hP.sub [0, 1] rfl) 0 rfl rfl hl.1 rfl (Nat.le_of_ble_eq_true rfl) dX7_isOneLoud_13 ⟨(Nat.zero_le _), (Nat.zero_le _)⟩) (fun r13 h => ?_)
    refine lv_if_le (tgt := 21) hx hb dX7_isOneLoud_16 (by decide) (fun hc => ?_) (fun hc => ?_)
    · have h := h.1 hc
      obtain ⟨x2_21, ex2_21⟩ : ∃ z : Int32, z = x2 + 1 := ⟨_, rfl⟩
      have h := h _ ex2_21
      refine lv_iinc (v := x2_21) (lv' := [(2, .int x2_21), (0, .ref a_o), (1, .int x1)]) hx hb dX7_isOneLoud_21 hl (k := 2) rfl (by rw [ex2_21]; rfl) (by decide) rfl (fun ls hl => ?_)
      refine lv_goto (tgt := 2) hx hb dX7_isOneLoud_24 (by decide) ?_
      exact ih _ _ h (lv_sub hl [1, 2, 0] rfl)
    have h := h.2 hc
    refine lv_iconst (v := 1) hx hb dX7_isOneLoud_19 (by decide) ?_
    exact W.zret hx hb hr rfl (fun t ht _ => ⟨_, rfl, h, ht⟩) (fun _ hq => by cases hq) dX7_isOneLoud_20
set_option maxHeartbeats 4000000 in
set_option maxRecDepth 100000 in
theorem c_X7_isOneLoud {l : Launch} {D : va_G} {cI cJ cS : ClassId} {ad adK : Nat → Nat} {a_o a_kinds : Nat} {z_spaces z_others z_times : Value} {v_stretchCount : Int32} {f_kinds : Nat → Int32} {x1 : Int32} {post : Int32 → Prop} (h : F_X7_isOneLoud v_stretchCount f_kinds x1 post) : Met l yX7_isOneLoud (Cond.code yX7_isOneLoud cX7_isOneLoud 3 (some (.boolean)) :: GW) (rmd 4 0 0) (PR D cI cJ cS ad adK [.ref a_o, .int x1] (wX7_isOneLoud cI cJ cS a_o a_kinds z_spaces z_others z_times v_stretchCount f_kinds)) (vp_Si post) 0 0 nof := by
  refine Met.ro (by decide) (Nat.le_of_ble_eq_true rfl) (fun p e s m args below meth c ls (S : CallFix p m c cX7_isOneLoud 3 s args GW "RoadThatSings$Stretches") hE hT hP hS hr hlocks hl => ?_)
  have hx := S.1
  have hb := S.2.1
  have hl : lv_has ls 3 [(0, .ref a_o), (1, .int x1)] := hl
  unfold F_X7_isOneLoud at h
  refine lv_iconst (v := 0) hx hb dX7_isOneLoud_0 (by decide) ?_
  refine lv_istore_n (lv' := [(2, .int 0), (0, .ref a_o), (1, .int x1)]) hx hb dX7_isOneLoud_1 rfl hl (by decide) rfl (fun ls hl => ?_)
  obtain ⟨n, h⟩ := h
  refine w_X7_isOneLoud_2 S hE hT hP hS hr hlocks n _ _ h (lv_sub hl [1, 2, 0] rfl)
/-! X7_isMetBy -/
abbrev wX7_isMetBy (cI cJ cS : ClassId) (a_o a_kinds a_others a_spaces : Nat) (z_times : Value) (v_stretchCount : Int32) (f_kinds : Nat → Int32) (f_others : Nat → Int32) (f_spaces : Nat → Int32) : va_W := [(a_o, .inr (6, [.ref a_kinds, .ref a_spaces, .ref a_others, z_times, .int v_stretchCount])), (a_kinds, .inl (cI, 16, .inl f_kinds)), (a_others, .inl (cI, 16, .inl f_others)), (a_spaces, .inl (cI, 16, .inl f_spaces))]
def F_X7_isMetBy (v_stretchCount : Int32) (f_kinds : Nat → Int32) (f_others : Nat → Int32) (f_spaces : Nat → Int32) (x1 : Int32) (x2 : Int32) (post : Int32 → Prop) : Prop := (F_X7_spacesTogether v_stretchCount f_kinds f_others f_spaces x1 (fun r2 => (F_X7_kindOf v_stretchCount f_kinds x1 (fun r8 => ((r8 = 3 → post 0) ∧ (¬ r8 = 3 → ((r2 ≤ 0 → post 0) ∧ (¬ r2 ≤ 0 → (¬ r2 = 0 ∧ (((x2 - x2 / r2 * r2) = 0 → post 1) ∧ (¬ (x2 - x2 / r2 * r2) = 0 → post 0)))))))))))
set_option maxHeartbeats 4000000 in
set_option maxRecDepth 100000 in
theorem c_X7_isMetBy {l : Launch} {D : va_G} {cI cJ cS : ClassId} {ad adK : Nat → Nat} {a_o a_kinds a_others a_spaces : Nat} {z_times : Value} {v_stretchCount : Int32} {f_kinds : Nat → Int32} {f_others : Nat → Int32} {f_spaces : Nat → Int32} {x1 : Int32} {x2 : Int32} {post : Int32 → Prop} (h : F_X7_isMetBy v_stretchCount f_kinds f_others f_spaces x1 x2 post) : Met l yX7_isMetBy (Cond.code yX7_isMetBy cX7_isMetBy 4 (some (.boolean)) :: GW) (rmd 2 0 0) (PR D cI cJ cS ad adK [.ref a_o, .int x1, .int x2] (wX7_isMetBy cI cJ cS a_o a_kinds a_others a_spaces z_times v_stretchCount f_kinds f_others f_spaces)) (vp_Si post) 0 0 nof := by
  refine Met.ro (by decide) (Nat.le_of_ble_eq_true rfl) (fun p e s m args below meth c ls (S : CallFix p m c cX7_isMetBy 4 s args GW "RoadThatSings$Stretches") hE hT hP hS hr hlocks hl => ?_)
  have hx := S.1
  have hb := S.2.1
  have hl : lv_has ls 4 [(0, .ref a_o), (1, .int x1), (2, .int x2)] := hl
  unfold F_X7_isMetBy at h
  refine lv_aload_n hx hb dX7_isMetBy_0 rfl (lv_at hl 0 rfl) ?_
  refine lv_iload_n hx hb dX7_isMetBy_1 rfl (lv_at hl 1 rfl) ?_
  refine ro_i (roV S hE hT hS (c_X7_spacesTogether h) lkX7_61 rfl ⟨(Nat.le_of_ble_eq_true rfl), (Nat.le_of_ble_eq_true rfl)⟩ (hP.sub [0, 1, 2, 3] rfl) 0 rfl rfl hl.1 rfl (Nat.le_of_ble_eq_true rfl) dX7_isMetBy_2 ⟨(Nat.zero_le _), (Nat.zero_le _)⟩) (fun r2 h => ?_)
  refine lv_istore_n (lv' := [(3, .int r2), (0, .ref a_o), (1, .int x1), (2, .int x2)]) hx hb dX7_isMetBy_5 rfl hl (by decide) rfl (fun ls hl => ?_)
  refine lv_aload_n hx hb dX7_isMetBy_6 rfl (lv_at hl 1 rfl) ?_
  refine lv_iload_n hx hb dX7_isMetBy_7 rfl (lv_at hl 2 rfl) ?_
  refine ro_i (roV S hE hT hS (c_X7_kindOf h) lkX7_54 rfl ⟨(Nat.le_of_ble_eq_true rfl), (Nat.le_of_ble_eq_true rfl)⟩ (hP.sub [0, 1] rfl) 0 rfl rfl hl.1 rfl (Nat.le_of_ble_eq_true rfl) dX7_isMetBy_8 ⟨(Nat.zero_le _), (Nat.zero_le _)⟩) (fun r8 h => ?_)
  refine lv_iconst (v := 3) hx hb dX7_isMetBy_11 (by decide) ?_
  refine lv_icmp_eq (tgt := 29) hx hb dX7_isMetBy_12 (by decide) (fun hc => ?_) (fun hc => ?_)
  · have h := h.1 hc
    refine lv_iconst (v := 0) hx hb dX7_isMetBy_29 (by decide) ?_
    exact W.zret hx hb hr rfl (fun t ht _ => ⟨_, rfl, h, ht⟩) (fun _ hq => by cases hq) dX7_isMetBy_30
  have h := h.2 hc
  refine lv_iload_n hx hb dX7_isMetBy_15 rfl (lv_at hl 0 rfl) ?_
  refine lv_if_le (tgt := 29) hx hb dX7_isMetBy_16 (by decide) (fun hc => ?_) (fun hc => ?_)
  · have h := h.1 hc
    refine lv_iconst (v := 0) hx hb dX7_isMetBy_29 (by decide) ?_
    exact W.zret hx hb hr rfl (fun t ht _ => ⟨_, rfl, h, ht⟩) (fun _ hq => by cases hq) dX7_isMetBy_30
  have h := h.2 hc
  refine lv_iload_n hx hb dX7_isMetBy_19 rfl (lv_at hl 3 rfl) ?_
  refine lv_iload_n hx hb dX7_isMetBy_20 rfl (lv_at hl 0 rfl) ?_
  obtain ⟨hz, h⟩ := h
  refine lv_irem hx hb dX7_isMetBy_21 hz ?_
  refine lv_if_ne (tgt := 29) hx hb dX7_isMetBy_22 (by decide) (fun hc => ?_) (fun hc => ?_)
  · have h := h.2 hc
    refine lv_iconst (v := 0) hx hb dX7_isMetBy_29 (by decide) ?_
    exact W.zret hx hb hr rfl (fun t ht _ => ⟨_, rfl, h, ht⟩) (fun _ hq => by cases hq) dX7_isMetBy_30
  have h := h.1 hc
  refine lv_iconst (v := 1) hx hb dX7_isMetBy_25 (by decide) ?_
  refine lv_goto (tgt := 30) hx hb dX7_isMetBy_26 (by decide) ?_
  exact W.zret hx hb hr rfl (fun t ht _ => ⟨_, rfl, h, ht⟩) (fun _ hq => by cases hq) dX7_isMetBy_30
/-! X8_count -/
abbrev wX8_count (cI cJ cS : ClassId) (a_o : Nat) (z_pitches z_beats z_noteCounts : Value) (v_tuneCount : Int32) : va_W := [(a_o, .inr (7, [z_pitches, z_beats, z_noteCounts, .int v_tuneCount]))]
def F_X8_count (v_tuneCount : Int32) (post : Int32 → Prop) : Prop := post v_tuneCount
set_option maxHeartbeats 4000000 in
set_option maxRecDepth 100000 in
theorem c_X8_count {l : Launch} {D : va_G} {cI cJ cS : ClassId} {ad adK : Nat → Nat} {a_o : Nat} {z_pitches z_beats z_noteCounts : Value} {v_tuneCount : Int32} {post : Int32 → Prop} (h : F_X8_count v_tuneCount post) : Met l yX8_count (Cond.code yX8_count cX8_count 1 (some (.int)) :: GW) (rmd 0 0 0) (PR D cI cJ cS ad adK [.ref a_o] (wX8_count cI cJ cS a_o z_pitches z_beats z_noteCounts v_tuneCount)) (vp_Si post) 0 0 nof := by
  refine Met.ro (by decide) (Nat.le_of_ble_eq_true rfl) (fun p e s m args below meth c ls (S : CallFix p m c cX8_count 1 s args GW "RoadThatSings$Tunes") hE hT hP hS hr hlocks hl => ?_)
  have hx := S.1
  have hb := S.2.1
  have hl : lv_has ls 1 [(0, .ref a_o)] := hl
  unfold F_X8_count at h
  refine lv_aload_n hx hb dX8_count_0 rfl (lv_at hl 0 rfl) ?_
  refine gf S hE hP 0 rfl rfl inX8 (k := 3) (by decide) q83 rfl dX8_count_1 ?_
  exact W.iret hx hb hr (fun t ht _ => ⟨_, rfl, h, ht⟩) (fun _ hq => by cases hq) dX8_count_4
/-! X8_beatsAhead -/
abbrev wX8_beatsAhead (cI cJ cS : ClassId) (a_o a_beats a_noteCounts : Nat) (z_pitches : Value) (v_tuneCount : Int32) (f_beats : Nat → Int32) (f_noteCounts : Nat → Int32) : va_W := [(a_o, .inr (7, [z_pitches, .ref a_beats, .ref a_noteCounts, .int v_tuneCount])), (a_beats, .inl (cI, 72, .inl f_beats)), (a_noteCounts, .inl (cI, 6, .inl f_noteCounts))]
def L_X8_beatsAhead_5 (v_tuneCount : Int32) (f_beats : Nat → Int32) (f_noteCounts : Nat → Int32) (x1 : Int32) (x2 : Int32) (post : Int32 → Prop) : Nat → Int32 → Int32 → Prop
  | 0, _, _ => False
  | n5 + 1, x3, x4 => ((x2 ≤ x4 → post x3) ∧ (¬ x2 ≤ x4 → ((12 ≤ x4 → post x3) ∧ (¬ 12 ≤ x4 → (F_X8_beatsOf v_tuneCount f_beats f_noteCounts x1 x4 (fun r23 => (∀ x3_27 : Int32, x3_27 = x3 + r23 → (∀ x4_28 : Int32, x4_28 = x4 + 1 → L_X8_beatsAhead_5 v_tuneCount f_beats f_noteCounts x1 x2 post n5 x3_27 x4_28))))))))
def F_X8_beatsAhead (v_tuneCount : Int32) (f_beats : Nat → Int32) (f_noteCounts : Nat → Int32) (x1 : Int32) (x2 : Int32) (post : Int32 → Prop) : Prop := (∃ n5 : Nat, L_X8_beatsAhead_5 v_tuneCount f_beats f_noteCounts x1 x2 post n5 0 0)
set_option maxHeartbeats 4000000 in
set_option maxRecDepth 100000 in
theorem w_X8_beatsAhead_5 {l : Launch} {D : va_G} {cI cJ cS : ClassId} {ad adK : Nat → Nat} {a_o a_beats a_noteCounts : Nat} {z_pitches : Value} {v_tuneCount : Int32} {f_beats : Nat → Int32} {f_noteCounts : Nat → Int32} {x1 : Int32} {x2 : Int32} {post : Int32 → Prop} {p : Program} {e : Env} {s : State} {m : MethodId} {args : Array Value} {below : List Frame} {meth : Method} {c : Code} (S : CallFix p m c cX8_beatsAhead 5 s args GW "RoadThatSings$Tunes") (hE : EN D cI cJ cS s) (hT : ST ad adK nof s s.heap) (hP : va_P D vwCl (wX8_beatsAhead cI cJ cS a_o a_beats a_noteCounts z_pitches v_tuneCount f_beats f_noteCounts) s.heap) (hS : va_S nof s.heap s.heap []) (hr : meth.sig.returnType = (some (.int))) (hlocks : meth.locks = false) : ∀ n : Nat, ∀ (x3 : Int32) (x4 : Int32) (ls : Array Slot), L_X8_beatsAhead_5 v_tuneCount f_beats f_noteCounts x1 x2 post n x3 x4 → lv_has ls 5 [(0, .ref a_o), (1, .int x1), (2, .int x2), (3, .int x3), (4, .int x4)] → W p l e (rmd 3 0 0) s m args below meth c s.heap [] 0 0 (MQ below (vp_Si post) args s 0 0 nof) (F0 m 5 ls []) := by
  intro n
  induction n with
  | zero =>
    intro x3 x4 ls h hl
    exact h.elim
  | succ n ih =>
    intro x3 x4 ls h hl
    rw [L_X8_beatsAhead_5] at h
    have hx := S.1
    have hb := S.2.1
    refine lv_iload hx hb dX8_beatsAhead_5 (lv_at hl 4 rfl) ?_
    refine lv_iload_n hx hb dX8_beatsAhead_7 rfl (lv_at hl 2 rfl) ?_
    refine lv_icmp_ge (tgt := 34) hx hb dX8_beatsAhead_8 (by decide) (fun hc => ?_) (fun hc => ?_)
    · have h := h.1 hc
      refine lv_iload_n hx hb dX8_beatsAhead_34 rfl (lv_at hl 3 rfl) ?_
      exact W.iret hx hb hr (fun t ht _ => ⟨_, rfl, h, ht⟩) (fun _ hq => by cases hq) dX8_beatsAhead_35
    have h := h.2 hc
    refine lv_iload hx hb dX8_beatsAhead_11 (lv_at hl 4 rfl) ?_
    refine lv_bipush (v := 12) hx hb dX8_beatsAhead_13 (by decide) ?_
    refine lv_icmp_ge (tgt := 34) hx hb dX8_beatsAhead_15 (by decide) (fun hc => ?_) (fun hc => ?_)
    · have h := h.1 hc
      refine lv_iload_n hx hb dX8_beatsAhead_34 rfl (lv_at hl 3 rfl) ?_
      exact W.iret hx hb hr (fun t ht _ => ⟨_, rfl, h, ht⟩) (fun _ hq => by cases hq) dX8_beatsAhead_35
    have h := h.2 hc
    refine lv_iload_n hx hb dX8_beatsAhead_18 rfl (lv_at hl 3 rfl) ?_
    refine lv_aload_n hx hb dX8_beatsAhead_19 rfl (lv_at hl 0 rfl) ?_
    refine lv_iload_n hx hb dX8_beatsAhead_20 rfl (lv_at hl 1 rfl) ?_
    refine lv_iload hx hb dX8_beatsAhead_21 (lv_at hl 4 rfl) ?_
    refine ro_i (roV S hE hT hS (c_X8_beatsOf h) lkX8_47 rfl ⟨(Nat.le_of_ble_eq_true rfl), (Nat.le_of_ble_eq_true rfl)⟩ (hP.sub [0, 1, 2] rfl) 0 rfl rfl hl.1 rfl (Nat.le_of_ble_eq_true rfl) dX8_beatsAhead_23 ⟨(Nat.zero_le _), (Nat.zero_le _)⟩) (fun r23 h => ?_)
    refine lv_iadd hx hb dX8_beatsAhead_26 ?_
    refine lv_topi (fun x3_27 ex3_27 => ?_)
    have h := h _ ex3_27
    refine lv_istore_n (lv' := [(3, .int x3_27), (0, .ref a_o), (1, .int x1), (2, .int x2), (4, .int x4)]) hx hb dX8_beatsAhead_27 rfl hl (by decide) rfl (fun ls hl => ?_)
    obtain ⟨x4_28, ex4_28⟩ : ∃ z : Int32, z = x4 + 1 := ⟨_, rfl⟩
    have h := h _ ex4_28
    refine lv_iinc (v := x4_28) (lv' := [(4, .int x4_28), (3, .int x3_27), (0, .ref a_o), (1, .int x1), (2, .int x2)]) hx hb dX8_beatsAhead_28 hl (k := 4) rfl (by rw [ex4_28]; rfl) (by decide) rfl (fun ls hl => ?_)
    refine lv_goto (tgt := 5) hx hb dX8_beatsAhead_31 (by decide) ?_
    exact ih _ _ _ h (lv_sub hl [2, 3, 4, 1, 0] rfl)
set_option maxHeartbeats 4000000 in
set_option maxRecDepth 100000 in
theorem c_X8_beatsAhead {l : Launch} {D : va_G} {cI cJ cS : ClassId} {ad adK : Nat → Nat} {a_o a_beats a_noteCounts : Nat} {z_pitches : Value} {v_tuneCount : Int32} {f_beats : Nat → Int32} {f_noteCounts : Nat → Int32} {x1 : Int32} {x2 : Int32} {post : Int32 → Prop} (h : F_X8_beatsAhead v_tuneCount f_beats f_noteCounts x1 x2 post) : Met l yX8_beatsAhead (Cond.code yX8_beatsAhead cX8_beatsAhead 5 (some (.int)) :: GW) (rmd 3 0 0) (PR D cI cJ cS ad adK [.ref a_o, .int x1, .int x2] (wX8_beatsAhead cI cJ cS a_o a_beats a_noteCounts z_pitches v_tuneCount f_beats f_noteCounts)) (vp_Si post) 0 0 nof := by
  refine Met.ro (by decide) (Nat.le_of_ble_eq_true rfl) (fun p e s m args below meth c ls (S : CallFix p m c cX8_beatsAhead 5 s args GW "RoadThatSings$Tunes") hE hT hP hS hr hlocks hl => ?_)
  have hx := S.1
  have hb := S.2.1
  have hl : lv_has ls 5 [(0, .ref a_o), (1, .int x1), (2, .int x2)] := hl
  unfold F_X8_beatsAhead at h
  refine lv_iconst (v := 0) hx hb dX8_beatsAhead_0 (by decide) ?_
  refine lv_istore_n (lv' := [(3, .int 0), (0, .ref a_o), (1, .int x1), (2, .int x2)]) hx hb dX8_beatsAhead_1 rfl hl (by decide) rfl (fun ls hl => ?_)
  refine lv_iconst (v := 0) hx hb dX8_beatsAhead_2 (by decide) ?_
  refine lv_istore (lv' := [(4, .int 0), (3, .int 0), (0, .ref a_o), (1, .int x1), (2, .int x2)]) hx hb dX8_beatsAhead_3 hl (by decide) rfl (fun ls hl => ?_)
  obtain ⟨n, h⟩ := h
  refine w_X8_beatsAhead_5 S hE hT hP hS hr hlocks n _ _ _ h (lv_sub hl [2, 3, 4, 1, 0] rfl)
/-! X9_refuseAs -/
abbrev wX9_refuseAs (cI cJ cS : ClassId) (a_o a_refused : Nat) (z_road z_kept z_ahead z_shelves z_cutting z_acting : Value) (v_imaged : Int32) (v_lastFault : Int32) (f_refused : Nat → Int32) : va_W := [(a_o, .inr (8, [z_road, z_kept, z_ahead, z_shelves, z_cutting, z_acting, .ref a_refused, .int v_imaged, .int v_lastFault])), (a_refused, .inl (cI, 8, .inl f_refused))]
def F_X9_refuseAs (f_refused : Nat → Int32) (x1 : Int32) (x2 : Int32) (post : Int32 → (Nat → Int32) → Prop) : Prop := (F_X9_within x1 (-7) (-1) (fun r4 => ((r4 = 0 → post x2 f_refused) ∧ (¬ r4 = 0 → (vp_in (-x1) 8 ∧ (vp_in (-x1) 8 ∧ post x2 (upd f_refused (-x1).toNatClampNeg ((f_refused (-x1).toNatClampNeg) + 1))))))))
set_option maxHeartbeats 4000000 in
set_option maxRecDepth 100000 in
theorem c_X9_refuseAs {l : Launch} {D : va_G} {cI cJ cS : ClassId} {ad adK : Nat → Nat} {a_o a_refused : Nat} {z_road z_kept z_ahead z_shelves z_cutting z_acting : Value} {v_imaged : Int32} {v_lastFault : Int32} {f_refused : Nat → Int32} {x1 : Int32} {x2 : Int32} {post : Int32 → (Nat → Int32) → Prop} (h : F_X9_refuseAs f_refused x1 x2 post) {sz : Nat} : Met l yX9_refuseAs (Cond.code yX9_refuseAs cX9_refuseAs 3 (some (.int)) :: GW) (rmd 1 0 0) (PW D cI cJ cS ad adK [.ref a_o, .int x1, .int x2] (wX9_refuseAs cI cJ cS a_o a_refused z_road z_kept z_ahead z_shelves z_cutting z_acting v_imaged v_lastFault f_refused) sz) (va_Qi (fun r (u : (Nat → Int32)) => post r u) (fun u t => va_P D vwCl (wX9_refuseAs cI cJ cS a_o a_refused z_road z_kept z_ahead z_shelves z_cutting z_acting v_imaged v_lastFault u) t.heap) (va_A (wX9_refuseAs cI cJ cS a_o a_refused z_road z_kept z_ahead z_shelves z_cutting z_acting v_imaged v_lastFault f_refused) sz)) 0 0 (va_A (wX9_refuseAs cI cJ cS a_o a_refused z_road z_kept z_ahead z_shelves z_cutting z_acting v_imaged v_lastFault f_refused) sz) := by
  refine Met.rw (Qc := fun A => (va_Qi (fun r (u : (Nat → Int32)) => post r u) (fun u t => va_P D vwCl (wX9_refuseAs cI cJ cS a_o a_refused z_road z_kept z_ahead z_shelves z_cutting z_acting v_imaged v_lastFault u) t.heap) A)) (by decide) (Nat.le_of_ble_eq_true rfl) (fun p e s m args below meth c ls A (S : CallFix p m c cX9_refuseAs 3 s args GW "RoadThatSings") hE hT hP hD hA hS hr hlocks hname hl => ?_)
  have hS0 := hS
  have hx := S.1
  have hb := S.2.1
  have hl : lv_has ls 3 [(0, .ref a_o), (1, .int x1), (2, .int x2)] := hl
  unfold F_X9_refuseAs at h
  refine lv_iload_n hx hb dX9_refuseAs_0 rfl (lv_at hl 1 rfl) ?_
  refine lv_bipush (v := (-7)) hx hb dX9_refuseAs_1 (by decide) ?_
  refine lv_iconst (v := (-1)) hx hb dX9_refuseAs_3 (by decide) ?_
  refine ro_i (roS S hE hT hS (c_X9_within h) lkX9_63 rfl ⟨(Nat.le_of_ble_eq_true rfl), (Nat.le_of_ble_eq_true rfl)⟩ (hP.sub [] rfl) hl.1 rfl (Nat.le_of_ble_eq_true rfl) dX9_refuseAs_4 ⟨(Nat.zero_le _), (Nat.zero_le _)⟩) (fun r4 h => ?_)
  refine lv_if_eq (tgt := 21) hx hb dX9_refuseAs_7 (by decide) (fun hc => ?_) (fun hc => ?_)
  · have h := h.1 hc
    refine lv_iload_n hx hb dX9_refuseAs_21 rfl (lv_at hl 2 rfl) ?_
    exact W.iret hx hb hr (fun t ht _ => ⟨⟨_, f_refused, rfl, h, hPt hP ht⟩, hS.F ht⟩) hS.2.2 dX9_refuseAs_22
  have h := h.2 hc
  refine lv_aload_n hx hb dX9_refuseAs_10 rfl (lv_at hl 0 rfl) ?_
  refine gf S hE hP 0 rfl rfl inX9 (k := 6) (by decide) q187 rfl dX9_refuseAs_11 ?_
  refine lv_iload_n hx hb dX9_refuseAs_14 rfl (lv_at hl 1 rfl) ?_
  refine lv_ineg hx hb dX9_refuseAs_15 ?_
  refine lv_dup2_11 hx hb dX9_refuseAs_16 rfl rfl ?_
  obtain ⟨hi, h⟩ := h
  refine ial S hE hP 1 rfl hi dX9_refuseAs_17 ?_
  refine lv_iconst (v := 1) hx hb dX9_refuseAs_18 (by decide) ?_
  refine lv_iadd hx hb dX9_refuseAs_19 ?_
  obtain ⟨hi, h⟩ := h
  refine ias S hE hP hD hS 1 rfl hi dX9_refuseAs_20 (fun H locs hP hD hS => ?_)
  have hP : va_P D vwCl (wX9_refuseAs cI cJ cS a_o a_refused z_road z_kept z_ahead z_shelves z_cutting z_acting v_imaged v_lastFault (upd f_refused (-x1).toNatClampNeg ((f_refused (-x1).toNatClampNeg) + 1))) H := hP
  have hD : va_D A (wX9_refuseAs cI cJ cS a_o a_refused z_road z_kept z_ahead z_shelves z_cutting z_acting v_imaged v_lastFault (upd f_refused (-x1).toNatClampNeg ((f_refused (-x1).toNatClampNeg) + 1))) := hD
  refine lv_iload_n hx hb dX9_refuseAs_21 rfl (lv_at hl 2 rfl) ?_
  exact W.iret hx hb hr (fun t ht _ => ⟨⟨_, (upd f_refused (-x1).toNatClampNeg ((f_refused (-x1).toNatClampNeg) + 1)), rfl, h, hPt hP ht⟩, hS.F ht⟩) hS.2.2 dX9_refuseAs_22
/-! X9_refuse -/
abbrev wX9_refuse (cI cJ cS : ClassId) (a_o a_refused : Nat) (z_road z_kept z_ahead z_shelves z_cutting z_acting : Value) (v_imaged : Int32) (v_lastFault : Int32) (f_refused : Nat → Int32) : va_W := [(a_o, .inr (8, [z_road, z_kept, z_ahead, z_shelves, z_cutting, z_acting, .ref a_refused, .int v_imaged, .int v_lastFault])), (a_refused, .inl (cI, 8, .inl f_refused))]
def F_X9_refuse (f_refused : Nat → Int32) (x1 : Int32) (post : Int32 → (Nat → Int32) → Prop) : Prop := (F_X9_refuseAs f_refused x1 x1 (fun r3 w3_0 => post r3 w3_0))
set_option maxHeartbeats 4000000 in
set_option maxRecDepth 100000 in
theorem c_X9_refuse {l : Launch} {D : va_G} {cI cJ cS : ClassId} {ad adK : Nat → Nat} {a_o a_refused : Nat} {z_road z_kept z_ahead z_shelves z_cutting z_acting : Value} {v_imaged : Int32} {v_lastFault : Int32} {f_refused : Nat → Int32} {x1 : Int32} {post : Int32 → (Nat → Int32) → Prop} (h : F_X9_refuse f_refused x1 post) {sz : Nat} : Met l yX9_refuse (Cond.code yX9_refuse cX9_refuse 2 (some (.int)) :: GW) (rmd 2 0 0) (PW D cI cJ cS ad adK [.ref a_o, .int x1] (wX9_refuse cI cJ cS a_o a_refused z_road z_kept z_ahead z_shelves z_cutting z_acting v_imaged v_lastFault f_refused) sz) (va_Qi (fun r (u : (Nat → Int32)) => post r u) (fun u t => va_P D vwCl (wX9_refuse cI cJ cS a_o a_refused z_road z_kept z_ahead z_shelves z_cutting z_acting v_imaged v_lastFault u) t.heap) (va_A (wX9_refuse cI cJ cS a_o a_refused z_road z_kept z_ahead z_shelves z_cutting z_acting v_imaged v_lastFault f_refused) sz)) 0 0 (va_A (wX9_refuse cI cJ cS a_o a_refused z_road z_kept z_ahead z_shelves z_cutting z_acting v_imaged v_lastFault f_refused) sz) := by
  refine Met.rw (Qc := fun A => (va_Qi (fun r (u : (Nat → Int32)) => post r u) (fun u t => va_P D vwCl (wX9_refuse cI cJ cS a_o a_refused z_road z_kept z_ahead z_shelves z_cutting z_acting v_imaged v_lastFault u) t.heap) A)) (by decide) (Nat.le_of_ble_eq_true rfl) (fun p e s m args below meth c ls A (S : CallFix p m c cX9_refuse 2 s args GW "RoadThatSings") hE hT hP hD hA hS hr hlocks hname hl => ?_)
  have hS0 := hS
  have hx := S.1
  have hb := S.2.1
  have hl : lv_has ls 2 [(0, .ref a_o), (1, .int x1)] := hl
  unfold F_X9_refuse at h
  refine lv_aload_n hx hb dX9_refuse_0 rfl (lv_at hl 0 rfl) ?_
  refine lv_iload_n hx hb dX9_refuse_1 rfl (lv_at hl 1 rfl) ?_
  refine lv_iload_n hx hb dX9_refuse_2 rfl (lv_at hl 1 rfl) ?_
  refine rw_i (rwV S hE hT hS hP hD hA (c_X9_refuseAs h) [0, 1] rfl (by decide) lkX9_351 rfl ⟨(Nat.le_of_ble_eq_true rfl), (Nat.le_of_ble_eq_true rfl)⟩ 0 rfl rfl hl.1 rfl (Nat.le_of_ble_eq_true rfl) dX9_refuse_3 ⟨(Nat.zero_le _), (Nat.zero_le _)⟩) hP hD hS hA [0, 1] rfl (by decide) (fun _ => rfl) (fun r3 w3_0 H locs h hP hD hS => ?_)
  try dsimp only at h
  have hP : va_P D vwCl (wX9_refuse cI cJ cS a_o a_refused z_road z_kept z_ahead z_shelves z_cutting z_acting v_imaged v_lastFault w3_0) H := hP
  have hD : va_D A (wX9_refuse cI cJ cS a_o a_refused z_road z_kept z_ahead z_shelves z_cutting z_acting v_imaged v_lastFault w3_0) := hD
  exact W.iret hx hb hr (fun t ht _ => ⟨⟨_, w3_0, rfl, h, hPt hP ht⟩, hS.F ht⟩) hS.2.2 dX9_refuse_6
/-! X9_refusalOfRow -/
abbrev wX9_refusalOfRow (cI cJ cS : ClassId) (a_p0 : Nat) (z_p0_elements : Value) (v_p0_held : Int32) (v_p0_sort : Int32) (v_p0_elementCount : Int32) (v_p0_stretchNumber : Int32) : va_W := [(a_p0, .inr (5, [z_p0_elements, .int v_p0_held, .int v_p0_sort, .int v_p0_elementCount, .int v_p0_stretchNumber]))]
def F_X9_refusalOfRow (v_p0_held : Int32) (post : Int32 → Prop) : Prop := (F_X6_holdsStretch v_p0_held (fun r7 => ((r7 = 0 → (F_X6_holdsRow v_p0_held (fun r17 => ((r17 = 0 → post (-3)) ∧ (¬ r17 = 0 → post 0))))) ∧ (¬ r7 = 0 → post (-2)))))
set_option maxHeartbeats 4000000 in
set_option maxRecDepth 100000 in
theorem c_X9_refusalOfRow {l : Launch} {D : va_G} {cI cJ cS : ClassId} {ad adK : Nat → Nat} {a_p0 : Nat} {z_p0_elements : Value} {v_p0_held : Int32} {v_p0_sort : Int32} {v_p0_elementCount : Int32} {v_p0_stretchNumber : Int32} {post : Int32 → Prop} (h : F_X9_refusalOfRow v_p0_held post) : Met l yX9_refusalOfRow (Cond.code yX9_refusalOfRow cX9_refusalOfRow 1 (some (.int)) :: GW) (rmd 1 0 0) (PR D cI cJ cS ad adK [.ref a_p0] (wX9_refusalOfRow cI cJ cS a_p0 z_p0_elements v_p0_held v_p0_sort v_p0_elementCount v_p0_stretchNumber)) (vp_Si post) 0 0 nof := by
  refine Met.ro (by decide) (Nat.le_of_ble_eq_true rfl) (fun p e s m args below meth c ls (S : CallFix p m c cX9_refusalOfRow 1 s args GW "RoadThatSings") hE hT hP hS hr hlocks hl => ?_)
  have hx := S.1
  have hb := S.2.1
  have hl : lv_has ls 1 [(0, .ref a_p0)] := hl
  unfold F_X9_refusalOfRow at h
  refine lv_aload_n hx hb dX9_refusalOfRow_0 rfl (lv_at hl 0 rfl) ?_
  refine lv_ifnonnull (tgt := 6) hx hb dX9_refusalOfRow_1 (by decide) ?_
  refine lv_aload_n hx hb dX9_refusalOfRow_6 rfl (lv_at hl 0 rfl) ?_
  refine ro_i (roV S hE hT hS (c_X6_holdsStretch h) lkX9_83 rfl ⟨(Nat.le_of_ble_eq_true rfl), (Nat.le_of_ble_eq_true rfl)⟩ (hP.sub [0] rfl) 0 rfl rfl hl.1 rfl (Nat.le_of_ble_eq_true rfl) dX9_refusalOfRow_7 ⟨(Nat.zero_le _), (Nat.zero_le _)⟩) (fun r7 h => ?_)
  refine lv_if_eq (tgt := 16) hx hb dX9_refusalOfRow_10 (by decide) (fun hc => ?_) (fun hc => ?_)
  · have h := h.1 hc
    refine lv_aload_n hx hb dX9_refusalOfRow_16 rfl (lv_at hl 0 rfl) ?_
    refine ro_i (roV S hE hT hS (c_X6_holdsRow h) lkX9_91 rfl ⟨(Nat.le_of_ble_eq_true rfl), (Nat.le_of_ble_eq_true rfl)⟩ (hP.sub [0] rfl) 0 rfl rfl hl.1 rfl (Nat.le_of_ble_eq_true rfl) dX9_refusalOfRow_17 ⟨(Nat.zero_le _), (Nat.zero_le _)⟩) (fun r17 h => ?_)
    refine lv_if_eq (tgt := 27) hx hb dX9_refusalOfRow_20 (by decide) (fun hc => ?_) (fun hc => ?_)
    · have h := h.1 hc
      refine lv_bipush (v := (-3)) hx hb dX9_refusalOfRow_27 (by decide) ?_
      exact W.iret hx hb hr (fun t ht _ => ⟨_, rfl, h, ht⟩) (fun _ hq => by cases hq) dX9_refusalOfRow_29
    have h := h.2 hc
    refine lv_iconst (v := 0) hx hb dX9_refusalOfRow_23 (by decide) ?_
    refine lv_goto (tgt := 29) hx hb dX9_refusalOfRow_24 (by decide) ?_
    exact W.iret hx hb hr (fun t ht _ => ⟨_, rfl, h, ht⟩) (fun _ hq => by cases hq) dX9_refusalOfRow_29
  have h := h.2 hc
  refine lv_bipush (v := (-2)) hx hb dX9_refusalOfRow_13 (by decide) ?_
  exact W.iret hx hb hr (fun t ht _ => ⟨_, rfl, h, ht⟩) (fun _ hq => by cases hq) dX9_refusalOfRow_15
/-! X9_isKindUnder -/
abbrev wX9_isKindUnder (cI cJ cS : ClassId) : va_W := []
def L_X9_isKindUnder_4 (x1 : Int32) (post : Int32 → Prop) : Nat → Int32 → Int32 → Prop
  | 0, _, _ => False
  | n4 + 1, x2, x3 => ((7 ≤ x3 → post 0) ∧ (¬ 7 ≤ x3 → ((x2 = (-1) → post 0) ∧ (¬ x2 = (-1) → ((x2 = x1 → post 1) ∧ (¬ x2 = x1 → (F_X9_kindAbove x2 (fun r23 => (∀ x3_27 : Int32, x3_27 = x3 + 1 → L_X9_isKindUnder_4 x1 post n4 r23 x3_27)))))))))
def F_X9_isKindUnder (x0 : Int32) (x1 : Int32) (post : Int32 → Prop) : Prop := (∃ n4 : Nat, L_X9_isKindUnder_4 x1 post n4 x0 0)
set_option maxHeartbeats 4000000 in
set_option maxRecDepth 100000 in
theorem w_X9_isKindUnder_4 {l : Launch} {D : va_G} {cI cJ cS : ClassId} {ad adK : Nat → Nat}  {x1 : Int32} {post : Int32 → Prop} {p : Program} {e : Env} {s : State} {m : MethodId} {args : Array Value} {below : List Frame} {meth : Method} {c : Code} (S : CallFix p m c cX9_isKindUnder 4 s args GW "RoadThatSings") (hE : EN D cI cJ cS s) (hT : ST ad adK nof s s.heap) (hP : va_P D vwCl (wX9_isKindUnder cI cJ cS) s.heap) (hS : va_S nof s.heap s.heap []) (hr : meth.sig.returnType = (some (.boolean))) (hlocks : meth.locks = false) : ∀ n : Nat, ∀ (x2 : Int32) (x3 : Int32) (ls : Array Slot), L_X9_isKindUnder_4 x1 post n x2 x3 → lv_has ls 4 [(1, .int x1), (2, .int x2), (3, .int x3)] → W p l e (rmd 2 0 0) s m args below meth c s.heap [] 0 0 (MQ below (vp_Si post) args s 0 0 nof) (F0 m 4 ls []) := by
  intro n
  induction n with
  | zero =>
    intro x2 x3 ls h hl
    exact h.elim
  | succ n ih =>
    intro x2 x3 ls h hl
    rw [L_X9_isKindUnder_4] at h
    have hx := S.1
    have hb := S.2.1
    refine lv_iload_n hx hb dX9_isKindUnder_4 rfl (lv_at hl 2 rfl) ?_
    refine lv_bipush (v := 7) hx hb dX9_isKindUnder_5 (by decide) ?_
    refine lv_icmp_ge (tgt := 33) hx hb dX9_isKindUnder_7 (by decide) (fun hc => ?_) (fun hc => ?_)
    · have h := h.1 hc
      refine lv_iconst (v := 0) hx hb dX9_isKindUnder_33 (by decide) ?_
      exact W.zret hx hb hr rfl (fun t ht _ => ⟨_, rfl, h, ht⟩) (fun _ hq => by cases hq) dX9_isKindUnder_34
    have h := h.2 hc
    refine lv_iload_n hx hb dX9_isKindUnder_10 rfl (lv_at hl 1 rfl) ?_
    refine lv_iconst (v := (-1)) hx hb dX9_isKindUnder_11 (by decide) ?_
    refine lv_icmp_eq (tgt := 33) hx hb dX9_isKindUnder_12 (by decide) (fun hc => ?_) (fun hc => ?_)
    · have h := h.1 hc
      refine lv_iconst (v := 0) hx hb dX9_isKindUnder_33 (by decide) ?_
      exact W.zret hx hb hr rfl (fun t ht _ => ⟨_, rfl, h, ht⟩) (fun _ hq => by cases hq) dX9_isKindUnder_34
    have h := h.2 hc
    refine lv_iload_n hx hb dX9_isKindUnder_15 rfl (lv_at hl 1 rfl) ?_
    refine lv_iload_n hx hb dX9_isKindUnder_16 rfl (lv_at hl 0 rfl) ?_
    refine lv_icmp_ne (tgt := 22) hx hb dX9_isKindUnder_17 (by decide) (fun hc => ?_) (fun hc => ?_)
    · have h := h.2 hc
      refine lv_iload_n hx hb dX9_isKindUnder_22 rfl (lv_at hl 1 rfl) ?_
      refine ro_i (roS S hE hT hS (c_X9_kindAbove h) lkX9_416 rfl ⟨(Nat.le_of_ble_eq_true rfl), (Nat.le_of_ble_eq_true rfl)⟩ (hP.sub [] rfl) hl.1 rfl (Nat.le_of_ble_eq_true rfl) dX9_isKindUnder_23 ⟨(Nat.zero_le _), (Nat.zero_le _)⟩) (fun r23 h => ?_)
      refine lv_istore_n (lv' := [(2, .int r23), (1, .int x1), (3, .int x3)]) hx hb dX9_isKindUnder_26 rfl hl (by decide) rfl (fun ls hl => ?_)
      obtain ⟨x3_27, ex3_27⟩ : ∃ z : Int32, z = x3 + 1 := ⟨_, rfl⟩
      have h := h _ ex3_27
      refine lv_iinc (v := x3_27) (lv' := [(3, .int x3_27), (2, .int r23), (1, .int x1)]) hx hb dX9_isKindUnder_27 hl (k := 2) rfl (by rw [ex3_27]; rfl) (by decide) rfl (fun ls hl => ?_)
      refine lv_goto (tgt := 4) hx hb dX9_isKindUnder_30 (by decide) ?_
      exact ih _ _ _ h (lv_sub hl [2, 1, 0] rfl)
    have h := h.1 hc
    refine lv_iconst (v := 1) hx hb dX9_isKindUnder_20 (by decide) ?_
    exact W.zret hx hb hr rfl (fun t ht _ => ⟨_, rfl, h, ht⟩) (fun _ hq => by cases hq) dX9_isKindUnder_21
set_option maxHeartbeats 4000000 in
set_option maxRecDepth 100000 in
theorem c_X9_isKindUnder {l : Launch} {D : va_G} {cI cJ cS : ClassId} {ad adK : Nat → Nat}  {x0 : Int32} {x1 : Int32} {post : Int32 → Prop} (h : F_X9_isKindUnder x0 x1 post) : Met l yX9_isKindUnder (Cond.code yX9_isKindUnder cX9_isKindUnder 4 (some (.boolean)) :: GW) (rmd 2 0 0) (PR D cI cJ cS ad adK [.int x0, .int x1] (wX9_isKindUnder cI cJ cS)) (vp_Si post) 0 0 nof := by
  refine Met.ro (by decide) (Nat.le_of_ble_eq_true rfl) (fun p e s m args below meth c ls (S : CallFix p m c cX9_isKindUnder 4 s args GW "RoadThatSings") hE hT hP hS hr hlocks hl => ?_)
  have hx := S.1
  have hb := S.2.1
  have hl : lv_has ls 4 [(0, .int x0), (1, .int x1)] := hl
  unfold F_X9_isKindUnder at h
  refine lv_iload_n hx hb dX9_isKindUnder_0 rfl (lv_at hl 0 rfl) ?_
  refine lv_istore_n (lv' := [(2, .int x0), (0, .int x0), (1, .int x1)]) hx hb dX9_isKindUnder_1 rfl hl (by decide) rfl (fun ls hl => ?_)
  refine lv_iconst (v := 0) hx hb dX9_isKindUnder_2 (by decide) ?_
  refine lv_istore_n (lv' := [(3, .int 0), (2, .int x0), (0, .int x0), (1, .int x1)]) hx hb dX9_isKindUnder_3 rfl hl (by decide) rfl (fun ls hl => ?_)
  obtain ⟨n, h⟩ := h
  refine w_X9_isKindUnder_4 S hE hT hP hS hr hlocks n _ _ _ h (lv_sub hl [3, 1, 0] rfl)
/-! X9_areMeasures -/
abbrev wX9_areMeasures (cI cJ cS : ClassId) : va_W := []
def F_X9_areMeasures (x0 : Int32) (x1 : Int32) (x2 : Int32) (post : Int32 → Prop) : Prop := (F_X9_within x0 1 60 (fun r4 => ((r4 = 0 → post 0) ∧ (¬ r4 = 0 → (F_X9_within x1 0 60 (fun r14 => ((r14 = 0 → post 0) ∧ (¬ r14 = 0 → (F_X9_within x2 1 60 (fun r24 => ((r24 = 0 → post 0) ∧ (¬ r24 = 0 → post 1))))))))))))
set_option maxHeartbeats 4000000 in
set_option maxRecDepth 100000 in
theorem c_X9_areMeasures {l : Launch} {D : va_G} {cI cJ cS : ClassId} {ad adK : Nat → Nat}  {x0 : Int32} {x1 : Int32} {x2 : Int32} {post : Int32 → Prop} (h : F_X9_areMeasures x0 x1 x2 post) : Met l yX9_areMeasures (Cond.code yX9_areMeasures cX9_areMeasures 3 (some (.boolean)) :: GW) (rmd 1 0 0) (PR D cI cJ cS ad adK [.int x0, .int x1, .int x2] (wX9_areMeasures cI cJ cS)) (vp_Si post) 0 0 nof := by
  refine Met.ro (by decide) (Nat.le_of_ble_eq_true rfl) (fun p e s m args below meth c ls (S : CallFix p m c cX9_areMeasures 3 s args GW "RoadThatSings") hE hT hP hS hr hlocks hl => ?_)
  have hx := S.1
  have hb := S.2.1
  have hl : lv_has ls 3 [(0, .int x0), (1, .int x1), (2, .int x2)] := hl
  unfold F_X9_areMeasures at h
  refine lv_iload_n hx hb dX9_areMeasures_0 rfl (lv_at hl 0 rfl) ?_
  refine lv_iconst (v := 1) hx hb dX9_areMeasures_1 (by decide) ?_
  refine lv_bipush (v := 60) hx hb dX9_areMeasures_2 (by decide) ?_
  refine ro_i (roS S hE hT hS (c_X9_within h) lkX9_63 rfl ⟨(Nat.le_of_ble_eq_true rfl), (Nat.le_of_ble_eq_true rfl)⟩ (hP.sub [] rfl) hl.1 rfl (Nat.le_of_ble_eq_true rfl) dX9_areMeasures_4 ⟨(Nat.zero_le _), (Nat.zero_le _)⟩) (fun r4 h => ?_)
  refine lv_if_eq (tgt := 34) hx hb dX9_areMeasures_7 (by decide) (fun hc => ?_) (fun hc => ?_)
  · have h := h.1 hc
    refine lv_iconst (v := 0) hx hb dX9_areMeasures_34 (by decide) ?_
    exact W.zret hx hb hr rfl (fun t ht _ => ⟨_, rfl, h, ht⟩) (fun _ hq => by cases hq) dX9_areMeasures_35
  have h := h.2 hc
  refine lv_iload_n hx hb dX9_areMeasures_10 rfl (lv_at hl 1 rfl) ?_
  refine lv_iconst (v := 0) hx hb dX9_areMeasures_11 (by decide) ?_
  refine lv_bipush (v := 60) hx hb dX9_areMeasures_12 (by decide) ?_
  refine ro_i (roS S hE hT hS (c_X9_within h) lkX9_63 rfl ⟨(Nat.le_of_ble_eq_true rfl), (Nat.le_of_ble_eq_true rfl)⟩ (hP.sub [] rfl) hl.1 rfl (Nat.le_of_ble_eq_true rfl) dX9_areMeasures_14 ⟨(Nat.zero_le _), (Nat.zero_le _)⟩) (fun r14 h => ?_)
  refine lv_if_eq (tgt := 34) hx hb dX9_areMeasures_17 (by decide) (fun hc => ?_) (fun hc => ?_)
  · have h := h.1 hc
    refine lv_iconst (v := 0) hx hb dX9_areMeasures_34 (by decide) ?_
    exact W.zret hx hb hr rfl (fun t ht _ => ⟨_, rfl, h, ht⟩) (fun _ hq => by cases hq) dX9_areMeasures_35
  have h := h.2 hc
  refine lv_iload_n hx hb dX9_areMeasures_20 rfl (lv_at hl 2 rfl) ?_
  refine lv_iconst (v := 1) hx hb dX9_areMeasures_21 (by decide) ?_
  refine lv_bipush (v := 60) hx hb dX9_areMeasures_22 (by decide) ?_
  refine ro_i (roS S hE hT hS (c_X9_within h) lkX9_63 rfl ⟨(Nat.le_of_ble_eq_true rfl), (Nat.le_of_ble_eq_true rfl)⟩ (hP.sub [] rfl) hl.1 rfl (Nat.le_of_ble_eq_true rfl) dX9_areMeasures_24 ⟨(Nat.zero_le _), (Nat.zero_le _)⟩) (fun r24 h => ?_)
  refine lv_if_eq (tgt := 34) hx hb dX9_areMeasures_27 (by decide) (fun hc => ?_) (fun hc => ?_)
  · have h := h.1 hc
    refine lv_iconst (v := 0) hx hb dX9_areMeasures_34 (by decide) ?_
    exact W.zret hx hb hr rfl (fun t ht _ => ⟨_, rfl, h, ht⟩) (fun _ hq => by cases hq) dX9_areMeasures_35
  have h := h.2 hc
  refine lv_iconst (v := 1) hx hb dX9_areMeasures_30 (by decide) ?_
  refine lv_goto (tgt := 35) hx hb dX9_areMeasures_31 (by decide) ?_
  exact W.zret hx hb hr rfl (fun t ht _ => ⟨_, rfl, h, ht⟩) (fun _ hq => by cases hq) dX9_areMeasures_35
/-! X9_stretch -/
abbrev wX9_stretch (cI cJ cS : ClassId) (a_o a_refused a_road a_road_stretches a_road_stretches_kinds a_road_stretches_others a_road_stretches_spaces a_road_stretches_times : Nat) (z_kept z_ahead z_shelves z_cutting z_acting z_road_cars z_road_tunes z_road_demands : Value) (v_imaged : Int32) (v_lastFault : Int32) (f_refused : Nat → Int32) (v_road_drawSeed : Int32) (v_road_stretches_stretchCount : Int32) (f_road_stretches_kinds : Nat → Int32) (f_road_stretches_others : Nat → Int32) (f_road_stretches_spaces : Nat → Int32) (f_road_stretches_times : Nat → Int32) : va_W := [(a_o, .inr (8, [.ref a_road, z_kept, z_ahead, z_shelves, z_cutting, z_acting, .ref a_refused, .int v_imaged, .int v_lastFault])), (a_refused, .inl (cI, 8, .inl f_refused)), (a_road, .inr (4, [.ref a_road_stretches, z_road_cars, z_road_tunes, z_road_demands, .int v_road_drawSeed])), (a_road_stretches, .inr (6, [.ref a_road_stretches_kinds, .ref a_road_stretches_spaces, .ref a_road_stretches_others, .ref a_road_stretches_times, .int v_road_stretches_stretchCount])), (a_road_stretches_kinds, .inl (cI, 16, .inl f_road_stretches_kinds)), (a_road_stretches_others, .inl (cI, 16, .inl f_road_stretches_others)), (a_road_stretches_spaces, .inl (cI, 16, .inl f_road_stretches_spaces)), (a_road_stretches_times, .inl (cI, 16, .inl f_road_stretches_times))]
def F_X9_stretch (f_refused : Nat → Int32) (v_road_stretches_stretchCount : Int32) (f_road_stretches_kinds : Nat → Int32) (f_road_stretches_others : Nat → Int32) (f_road_stretches_spaces : Nat → Int32) (f_road_stretches_times : Nat → Int32) (x1 : Int32) (x2 : Int32) (x3 : Int32) (x4 : Int32) (post : Int32 → (Nat → Int32) → Int32 → (Nat → Int32) → (Nat → Int32) → (Nat → Int32) → (Nat → Int32) → Prop) : Prop := (F_X9_within x1 0 6 (fun r4 => ((r4 = 0 → (F_X9_refuse f_refused (-1) (fun r12 w12_0 => post r12 w12_0 v_road_stretches_stretchCount f_road_stretches_kinds f_road_stretches_others f_road_stretches_spaces f_road_stretches_times))) ∧ (¬ r4 = 0 → (F_X9_areMeasures x2 x3 x4 (fun r20 => ((r20 = 0 → (F_X9_refuse f_refused (-6) (fun r29 w29_0 => post r29 w29_0 v_road_stretches_stretchCount f_road_stretches_kinds f_road_stretches_others f_road_stretches_spaces f_road_stretches_times))) ∧ (¬ r20 = 0 → (F_X7_isFull v_road_stretches_stretchCount (fun r40 => ((r40 = 0 → (F_X7_add v_road_stretches_stretchCount f_road_stretches_kinds f_road_stretches_others f_road_stretches_spaces f_road_stretches_times x1 x2 x3 x4 (fun r65 w65_0 w65_1 w65_2 w65_3 w65_4 => post r65 f_refused w65_0 w65_1 w65_2 w65_3 w65_4))) ∧ (¬ r40 = 0 → (F_X9_refuse f_refused (-7) (fun r49 w49_0 => post r49 w49_0 v_road_stretches_stretchCount f_road_stretches_kinds f_road_stretches_others f_road_stretches_spaces f_road_stretches_times))))))))))))))
set_option maxHeartbeats 4000000 in
set_option maxRecDepth 100000 in
theorem c_X9_stretch {l : Launch} {D : va_G} {cI cJ cS : ClassId} {ad adK : Nat → Nat} {a_o a_refused a_road a_road_stretches a_road_stretches_kinds a_road_stretches_others a_road_stretches_spaces a_road_stretches_times : Nat} {z_kept z_ahead z_shelves z_cutting z_acting z_road_cars z_road_tunes z_road_demands : Value} {v_imaged : Int32} {v_lastFault : Int32} {f_refused : Nat → Int32} {v_road_drawSeed : Int32} {v_road_stretches_stretchCount : Int32} {f_road_stretches_kinds : Nat → Int32} {f_road_stretches_others : Nat → Int32} {f_road_stretches_spaces : Nat → Int32} {f_road_stretches_times : Nat → Int32} {x1 : Int32} {x2 : Int32} {x3 : Int32} {x4 : Int32} {post : Int32 → (Nat → Int32) → Int32 → (Nat → Int32) → (Nat → Int32) → (Nat → Int32) → (Nat → Int32) → Prop} (h : F_X9_stretch f_refused v_road_stretches_stretchCount f_road_stretches_kinds f_road_stretches_others f_road_stretches_spaces f_road_stretches_times x1 x2 x3 x4 post) {sz : Nat} : Met l yX9_stretch (Cond.code yX9_stretch cX9_stretch 5 (some (.int)) :: GW) (rmd 3 0 0) (PW D cI cJ cS ad adK [.ref a_o, .int x1, .int x2, .int x3, .int x4] (wX9_stretch cI cJ cS a_o a_refused a_road a_road_stretches a_road_stretches_kinds a_road_stretches_others a_road_stretches_spaces a_road_stretches_times z_kept z_ahead z_shelves z_cutting z_acting z_road_cars z_road_tunes z_road_demands v_imaged v_lastFault f_refused v_road_drawSeed v_road_stretches_stretchCount f_road_stretches_kinds f_road_stretches_others f_road_stretches_spaces f_road_stretches_times) sz) (va_Qi (fun r (u : (Nat → Int32) × Int32 × (Nat → Int32) × (Nat → Int32) × (Nat → Int32) × (Nat → Int32)) => post r u.1 u.2.1 u.2.2.1 u.2.2.2.1 u.2.2.2.2.1 u.2.2.2.2.2) (fun u t => va_P D vwCl (wX9_stretch cI cJ cS a_o a_refused a_road a_road_stretches a_road_stretches_kinds a_road_stretches_others a_road_stretches_spaces a_road_stretches_times z_kept z_ahead z_shelves z_cutting z_acting z_road_cars z_road_tunes z_road_demands v_imaged v_lastFault u.1 v_road_drawSeed u.2.1 u.2.2.1 u.2.2.2.1 u.2.2.2.2.1 u.2.2.2.2.2) t.heap) (va_A (wX9_stretch cI cJ cS a_o a_refused a_road a_road_stretches a_road_stretches_kinds a_road_stretches_others a_road_stretches_spaces a_road_stretches_times z_kept z_ahead z_shelves z_cutting z_acting z_road_cars z_road_tunes z_road_demands v_imaged v_lastFault f_refused v_road_drawSeed v_road_stretches_stretchCount f_road_stretches_kinds f_road_stretches_others f_road_stretches_spaces f_road_stretches_times) sz)) 0 0 (va_A (wX9_stretch cI cJ cS a_o a_refused a_road a_road_stretches a_road_stretches_kinds a_road_stretches_others a_road_stretches_spaces a_road_stretches_times z_kept z_ahead z_shelves z_cutting z_acting z_road_cars z_road_tunes z_road_demands v_imaged v_lastFault f_refused v_road_drawSeed v_road_stretches_stretchCount f_road_stretches_kinds f_road_stretches_others f_road_stretches_spaces f_road_stretches_times) sz) := by
  refine Met.rw (Qc := fun A => (va_Qi (fun r (u : (Nat → Int32) × Int32 × (Nat → Int32) × (Nat → Int32) × (Nat → Int32) × (Nat → Int32)) => post r u.1 u.2.1 u.2.2.1 u.2.2.2.1 u.2.2.2.2.1 u.2.2.2.2.2) (fun u t => va_P D vwCl (wX9_stretch cI cJ cS a_o a_refused a_road a_road_stretches a_road_stretches_kinds a_road_stretches_others a_road_stretches_spaces a_road_stretches_times z_kept z_ahead z_shelves z_cutting z_acting z_road_cars z_road_tunes z_road_demands v_imaged v_lastFault u.1 v_road_drawSeed u.2.1 u.2.2.1 u.2.2.2.1 u.2.2.2.2.1 u.2.2.2.2.2) t.heap) A)) (by decide) (Nat.le_of_ble_eq_true rfl) (fun p e s m args below meth c ls A (S : CallFix p m c cX9_stretch 5 s args GW "RoadThatSings") hE hT hP hD hA hS hr hlocks hname hl => ?_)
  have hS0 := hS
  have hx := S.1
  have hb := S.2.1
  have hl : lv_has ls 5 [(0, .ref a_o), (1, .int x1), (2, .int x2), (3, .int x3), (4, .int x4)] := hl
  unfold F_X9_stretch at h
  refine lv_iload_n hx hb dX9_stretch_0 rfl (lv_at hl 1 rfl) ?_
  refine lv_iconst (v := 0) hx hb dX9_stretch_1 (by decide) ?_
  refine lv_bipush (v := 6) hx hb dX9_stretch_2 (by decide) ?_
  refine ro_i (roS S hE hT hS (c_X9_within h) lkX9_63 rfl ⟨(Nat.le_of_ble_eq_true rfl), (Nat.le_of_ble_eq_true rfl)⟩ (hP.sub [] rfl) hl.1 rfl (Nat.le_of_ble_eq_true rfl) dX9_stretch_4 ⟨(Nat.zero_le _), (Nat.zero_le _)⟩) (fun r4 h => ?_)
  refine lv_if_ne (tgt := 16) hx hb dX9_stretch_7 (by decide) (fun hc => ?_) (fun hc => ?_)
  · have h := h.2 hc
    refine lv_iload_n hx hb dX9_stretch_16 rfl (lv_at hl 2 rfl) ?_
    refine lv_iload_n hx hb dX9_stretch_17 rfl (lv_at hl 3 rfl) ?_
    refine lv_iload hx hb dX9_stretch_18 (lv_at hl 4 rfl) ?_
    refine ro_i (roS S hE hT hS (c_X9_areMeasures h) lkX9_139 rfl ⟨(Nat.le_of_ble_eq_true rfl), (Nat.le_of_ble_eq_true rfl)⟩ (hP.sub [] rfl) hl.1 rfl (Nat.le_of_ble_eq_true rfl) dX9_stretch_20 ⟨(Nat.zero_le _), (Nat.zero_le _)⟩) (fun r20 h => ?_)
    refine lv_if_ne (tgt := 33) hx hb dX9_stretch_23 (by decide) (fun hc => ?_) (fun hc => ?_)
    · have h := h.2 hc
      refine lv_aload_n hx hb dX9_stretch_33 rfl (lv_at hl 0 rfl) ?_
      refine gf S hE hP 0 rfl rfl inX9 (k := 0) (by decide) q181 rfl dX9_stretch_34 ?_
      refine gfN S hE hP 2 rfl rfl inX5 (k := 0) (by decide) nfX9_106 rfl dX9_stretch_37 ?_
      refine ro_i (roV S hE hT hS (c_X7_isFull h) lkX9_142 rfl ⟨(Nat.le_of_ble_eq_true rfl), (Nat.le_of_ble_eq_true rfl)⟩ (hP.sub [3] rfl) 0 rfl rfl hl.1 rfl (Nat.le_of_ble_eq_true rfl) dX9_stretch_40 ⟨(Nat.zero_le _), (Nat.zero_le _)⟩) (fun r40 h => ?_)
      refine lv_if_eq (tgt := 53) hx hb dX9_stretch_43 (by decide) (fun hc => ?_) (fun hc => ?_)
      · have h := h.1 hc
        refine lv_aload_n hx hb dX9_stretch_53 rfl (lv_at hl 0 rfl) ?_
        refine gf S hE hP 0 rfl rfl inX9 (k := 0) (by decide) q181 rfl dX9_stretch_54 ?_
        refine gfN S hE hP 2 rfl rfl inX5 (k := 0) (by decide) nfX9_106 rfl dX9_stretch_57 ?_
        refine lv_iload_n hx hb dX9_stretch_60 rfl (lv_at hl 1 rfl) ?_
        refine lv_iload_n hx hb dX9_stretch_61 rfl (lv_at hl 2 rfl) ?_
        refine lv_iload_n hx hb dX9_stretch_62 rfl (lv_at hl 3 rfl) ?_
        refine lv_iload hx hb dX9_stretch_63 (lv_at hl 4 rfl) ?_
        refine rw_i (rwV S hE hT hS hP hD hA (c_X7_add h) [3, 4, 5, 6, 7] rfl (by decide) lkX9_145 rfl ⟨(Nat.le_of_ble_eq_true rfl), (Nat.le_of_ble_eq_true rfl)⟩ 3 rfl rfl hl.1 rfl (Nat.le_of_ble_eq_true rfl) dX9_stretch_65 ⟨(Nat.zero_le _), (Nat.zero_le _)⟩) hP hD hS hA [3, 4, 5, 6, 7] rfl (by decide) (fun _ => rfl) (fun r65 u65 H locs h hP hD hS => ?_)
        obtain ⟨w65_0, w65_1, w65_2, w65_3, w65_4⟩ := u65
        try dsimp only at h
        have hP : va_P D vwCl (wX9_stretch cI cJ cS a_o a_refused a_road a_road_stretches a_road_stretches_kinds a_road_stretches_others a_road_stretches_spaces a_road_stretches_times z_kept z_ahead z_shelves z_cutting z_acting z_road_cars z_road_tunes z_road_demands v_imaged v_lastFault f_refused v_road_drawSeed w65_0 w65_1 w65_2 w65_3 w65_4) H := hP
        have hD : va_D A (wX9_stretch cI cJ cS a_o a_refused a_road a_road_stretches a_road_stretches_kinds a_road_stretches_others a_road_stretches_spaces a_road_stretches_times z_kept z_ahead z_shelves z_cutting z_acting z_road_cars z_road_tunes z_road_demands v_imaged v_lastFault f_refused v_road_drawSeed w65_0 w65_1 w65_2 w65_3 w65_4) := hD
        exact W.iret hx hb hr (fun t ht _ => ⟨⟨_, (f_refused, w65_0, w65_1, w65_2, w65_3, w65_4), rfl, h, hPt hP ht⟩, hS.F ht⟩) hS.2.2 dX9_stretch_68
      have h := h.2 hc
      refine lv_aload_n hx hb dX9_stretch_46 rfl (lv_at hl 0 rfl) ?_
      refine lv_bipush (v := (-7)) hx hb dX9_stretch_47 (by decide) ?_
      refine rw_i (rwV S hE hT hS hP hD hA (c_X9_refuse h) [0, 1] rfl (by decide) lkX9_59 rfl ⟨(Nat.le_of_ble_eq_true rfl), (Nat.le_of_ble_eq_true rfl)⟩ 0 rfl rfl hl.1 rfl (Nat.le_of_ble_eq_true rfl) dX9_stretch_49 ⟨(Nat.zero_le _), (Nat.zero_le _)⟩) hP hD hS hA [0, 1] rfl (by decide) (fun _ => rfl) (fun r49 w49_0 H locs h hP hD hS => ?_)
      try dsimp only at h
      have hP : va_P D vwCl (wX9_stretch cI cJ cS a_o a_refused a_road a_road_stretches a_road_stretches_kinds a_road_stretches_others a_road_stretches_spaces a_road_stretches_times z_kept z_ahead z_shelves z_cutting z_acting z_road_cars z_road_tunes z_road_demands v_imaged v_lastFault w49_0 v_road_drawSeed v_road_stretches_stretchCount f_road_stretches_kinds f_road_stretches_others f_road_stretches_spaces f_road_stretches_times) H := hP
      have hD : va_D A (wX9_stretch cI cJ cS a_o a_refused a_road a_road_stretches a_road_stretches_kinds a_road_stretches_others a_road_stretches_spaces a_road_stretches_times z_kept z_ahead z_shelves z_cutting z_acting z_road_cars z_road_tunes z_road_demands v_imaged v_lastFault w49_0 v_road_drawSeed v_road_stretches_stretchCount f_road_stretches_kinds f_road_stretches_others f_road_stretches_spaces f_road_stretches_times) := hD
      exact W.iret hx hb hr (fun t ht _ => ⟨⟨_, (w49_0, v_road_stretches_stretchCount, f_road_stretches_kinds, f_road_stretches_others, f_road_stretches_spaces, f_road_stretches_times), rfl, h, hPt hP ht⟩, hS.F ht⟩) hS.2.2 dX9_stretch_52
    have h := h.1 hc
    refine lv_aload_n hx hb dX9_stretch_26 rfl (lv_at hl 0 rfl) ?_
    refine lv_bipush (v := (-6)) hx hb dX9_stretch_27 (by decide) ?_
    refine rw_i (rwV S hE hT hS hP hD hA (c_X9_refuse h) [0, 1] rfl (by decide) lkX9_59 rfl ⟨(Nat.le_of_ble_eq_true rfl), (Nat.le_of_ble_eq_true rfl)⟩ 0 rfl rfl hl.1 rfl (Nat.le_of_ble_eq_true rfl) dX9_stretch_29 ⟨(Nat.zero_le _), (Nat.zero_le _)⟩) hP hD hS hA [0, 1] rfl (by decide) (fun _ => rfl) (fun r29 w29_0 H locs h hP hD hS => ?_)
    try dsimp only at h
    have hP : va_P D vwCl (wX9_stretch cI cJ cS a_o a_refused a_road a_road_stretches a_road_stretches_kinds a_road_stretches_others a_road_stretches_spaces a_road_stretches_times z_kept z_ahead z_shelves z_cutting z_acting z_road_cars z_road_tunes z_road_demands v_imaged v_lastFault w29_0 v_road_drawSeed v_road_stretches_stretchCount f_road_stretches_kinds f_road_stretches_others f_road_stretches_spaces f_road_stretches_times) H := hP
    have hD : va_D A (wX9_stretch cI cJ cS a_o a_refused a_road a_road_stretches a_road_stretches_kinds a_road_stretches_others a_road_stretches_spaces a_road_stretches_times z_kept z_ahead z_shelves z_cutting z_acting z_road_cars z_road_tunes z_road_demands v_imaged v_lastFault w29_0 v_road_drawSeed v_road_stretches_stretchCount f_road_stretches_kinds f_road_stretches_others f_road_stretches_spaces f_road_stretches_times) := hD
    exact W.iret hx hb hr (fun t ht _ => ⟨⟨_, (w29_0, v_road_stretches_stretchCount, f_road_stretches_kinds, f_road_stretches_others, f_road_stretches_spaces, f_road_stretches_times), rfl, h, hPt hP ht⟩, hS.F ht⟩) hS.2.2 dX9_stretch_32
  have h := h.1 hc
  refine lv_aload_n hx hb dX9_stretch_10 rfl (lv_at hl 0 rfl) ?_
  refine lv_iconst (v := (-1)) hx hb dX9_stretch_11 (by decide) ?_
  refine rw_i (rwV S hE hT hS hP hD hA (c_X9_refuse h) [0, 1] rfl (by decide) lkX9_59 rfl ⟨(Nat.le_of_ble_eq_true rfl), (Nat.le_of_ble_eq_true rfl)⟩ 0 rfl rfl hl.1 rfl (Nat.le_of_ble_eq_true rfl) dX9_stretch_12 ⟨(Nat.zero_le _), (Nat.zero_le _)⟩) hP hD hS hA [0, 1] rfl (by decide) (fun _ => rfl) (fun r12 w12_0 H locs h hP hD hS => ?_)
  try dsimp only at h
  have hP : va_P D vwCl (wX9_stretch cI cJ cS a_o a_refused a_road a_road_stretches a_road_stretches_kinds a_road_stretches_others a_road_stretches_spaces a_road_stretches_times z_kept z_ahead z_shelves z_cutting z_acting z_road_cars z_road_tunes z_road_demands v_imaged v_lastFault w12_0 v_road_drawSeed v_road_stretches_stretchCount f_road_stretches_kinds f_road_stretches_others f_road_stretches_spaces f_road_stretches_times) H := hP
  have hD : va_D A (wX9_stretch cI cJ cS a_o a_refused a_road a_road_stretches a_road_stretches_kinds a_road_stretches_others a_road_stretches_spaces a_road_stretches_times z_kept z_ahead z_shelves z_cutting z_acting z_road_cars z_road_tunes z_road_demands v_imaged v_lastFault w12_0 v_road_drawSeed v_road_stretches_stretchCount f_road_stretches_kinds f_road_stretches_others f_road_stretches_spaces f_road_stretches_times) := hD
  exact W.iret hx hb hr (fun t ht _ => ⟨⟨_, (w12_0, v_road_stretches_stretchCount, f_road_stretches_kinds, f_road_stretches_others, f_road_stretches_spaces, f_road_stretches_times), rfl, h, hPt hP ht⟩, hS.F ht⟩) hS.2.2 dX9_stretch_15
/-! X9_addStretchFrom -/
abbrev wX9_addStretchFrom (cI cJ cS : ClassId) (a_o a_p1 a_p1_elements a_road a_road_stretches a_road_stretches_kinds a_road_stretches_others a_road_stretches_spaces a_road_stretches_times : Nat) (z_kept z_ahead z_shelves z_cutting z_acting z_refused z_road_cars z_road_tunes z_road_demands : Value) (v_imaged : Int32) (v_lastFault : Int32) (v_p1_held : Int32) (v_p1_sort : Int32) (v_p1_elementCount : Int32) (v_p1_stretchNumber : Int32) (g_p1_elements : Nat → Int64) (v_road_drawSeed : Int32) (v_road_stretches_stretchCount : Int32) (f_road_stretches_kinds : Nat → Int32) (f_road_stretches_others : Nat → Int32) (f_road_stretches_spaces : Nat → Int32) (f_road_stretches_times : Nat → Int32) : va_W := [(a_o, .inr (8, [.ref a_road, z_kept, z_ahead, z_shelves, z_cutting, z_acting, z_refused, .int v_imaged, .int v_lastFault])), (a_p1, .inr (5, [.ref a_p1_elements, .int v_p1_held, .int v_p1_sort, .int v_p1_elementCount, .int v_p1_stretchNumber])), (a_p1_elements, .inl (cJ, 160, .inr (.inl g_p1_elements))), (a_road, .inr (4, [.ref a_road_stretches, z_road_cars, z_road_tunes, z_road_demands, .int v_road_drawSeed])), (a_road_stretches, .inr (6, [.ref a_road_stretches_kinds, .ref a_road_stretches_spaces, .ref a_road_stretches_others, .ref a_road_stretches_times, .int v_road_stretches_stretchCount])), (a_road_stretches_kinds, .inl (cI, 16, .inl f_road_stretches_kinds)), (a_road_stretches_others, .inl (cI, 16, .inl f_road_stretches_others)), (a_road_stretches_spaces, .inl (cI, 16, .inl f_road_stretches_spaces)), (a_road_stretches_times, .inl (cI, 16, .inl f_road_stretches_times))]
def F_X9_addStretchFrom (v_p1_elementCount : Int32) (g_p1_elements : Nat → Int64) (v_road_stretches_stretchCount : Int32) (f_road_stretches_kinds : Nat → Int32) (f_road_stretches_others : Nat → Int32) (f_road_stretches_spaces : Nat → Int32) (f_road_stretches_times : Nat → Int32) (x2 : Int32) (post : Int32 → Int32 → (Nat → Int32) → (Nat → Int32) → (Nat → Int32) → (Nat → Int32) → Prop) : Prop := (F_X6_intAt v_p1_elementCount g_p1_elements x2 (fun r2 => (F_X6_intAt v_p1_elementCount g_p1_elements (x2 + 1) (fun r10 => (F_X6_intAt v_p1_elementCount g_p1_elements (x2 + 2) (fun r19 => (F_X6_intAt v_p1_elementCount g_p1_elements (x2 + 3) (fun r28 => (F_X9_within r2 0 6 (fun r37 => ((r37 = 0 → post 0 v_road_stretches_stretchCount f_road_stretches_kinds f_road_stretches_others f_road_stretches_spaces f_road_stretches_times) ∧ (¬ r37 = 0 → (F_X9_areMeasures r10 r19 r28 (fun r49 => ((r49 = 0 → post 0 v_road_stretches_stretchCount f_road_stretches_kinds f_road_stretches_others f_road_stretches_spaces f_road_stretches_times) ∧ (¬ r49 = 0 → (F_X7_add v_road_stretches_stretchCount f_road_stretches_kinds f_road_stretches_others f_road_stretches_spaces f_road_stretches_times r2 r10 r19 r28 (fun r71 w71_0 w71_1 w71_2 w71_3 w71_4 => ((r71 = (-1) → post 0 w71_0 w71_1 w71_2 w71_3 w71_4) ∧ (¬ r71 = (-1) → post 1 w71_0 w71_1 w71_2 w71_3 w71_4))))))))))))))))))))
set_option maxHeartbeats 4000000 in
set_option maxRecDepth 100000 in
theorem c_X9_addStretchFrom {l : Launch} {D : va_G} {cI cJ cS : ClassId} {ad adK : Nat → Nat} {a_o a_p1 a_p1_elements a_road a_road_stretches a_road_stretches_kinds a_road_stretches_others a_road_stretches_spaces a_road_stretches_times : Nat} {z_kept z_ahead z_shelves z_cutting z_acting z_refused z_road_cars z_road_tunes z_road_demands : Value} {v_imaged : Int32} {v_lastFault : Int32} {v_p1_held : Int32} {v_p1_sort : Int32} {v_p1_elementCount : Int32} {v_p1_stretchNumber : Int32} {g_p1_elements : Nat → Int64} {v_road_drawSeed : Int32} {v_road_stretches_stretchCount : Int32} {f_road_stretches_kinds : Nat → Int32} {f_road_stretches_others : Nat → Int32} {f_road_stretches_spaces : Nat → Int32} {f_road_stretches_times : Nat → Int32} {x2 : Int32} {post : Int32 → Int32 → (Nat → Int32) → (Nat → Int32) → (Nat → Int32) → (Nat → Int32) → Prop} (h : F_X9_addStretchFrom v_p1_elementCount g_p1_elements v_road_stretches_stretchCount f_road_stretches_kinds f_road_stretches_others f_road_stretches_spaces f_road_stretches_times x2 post) {sz : Nat} : Met l yX9_addStretchFrom (Cond.code yX9_addStretchFrom cX9_addStretchFrom 7 (some (.boolean)) :: GW) (rmd 2 0 0) (PW D cI cJ cS ad adK [.ref a_o, .ref a_p1, .int x2] (wX9_addStretchFrom cI cJ cS a_o a_p1 a_p1_elements a_road a_road_stretches a_road_stretches_kinds a_road_stretches_others a_road_stretches_spaces a_road_stretches_times z_kept z_ahead z_shelves z_cutting z_acting z_refused z_road_cars z_road_tunes z_road_demands v_imaged v_lastFault v_p1_held v_p1_sort v_p1_elementCount v_p1_stretchNumber g_p1_elements v_road_drawSeed v_road_stretches_stretchCount f_road_stretches_kinds f_road_stretches_others f_road_stretches_spaces f_road_stretches_times) sz) (va_Qi (fun r (u : Int32 × (Nat → Int32) × (Nat → Int32) × (Nat → Int32) × (Nat → Int32)) => post r u.1 u.2.1 u.2.2.1 u.2.2.2.1 u.2.2.2.2) (fun u t => va_P D vwCl (wX9_addStretchFrom cI cJ cS a_o a_p1 a_p1_elements a_road a_road_stretches a_road_stretches_kinds a_road_stretches_others a_road_stretches_spaces a_road_stretches_times z_kept z_ahead z_shelves z_cutting z_acting z_refused z_road_cars z_road_tunes z_road_demands v_imaged v_lastFault v_p1_held v_p1_sort v_p1_elementCount v_p1_stretchNumber g_p1_elements v_road_drawSeed u.1 u.2.1 u.2.2.1 u.2.2.2.1 u.2.2.2.2) t.heap) (va_A (wX9_addStretchFrom cI cJ cS a_o a_p1 a_p1_elements a_road a_road_stretches a_road_stretches_kinds a_road_stretches_others a_road_stretches_spaces a_road_stretches_times z_kept z_ahead z_shelves z_cutting z_acting z_refused z_road_cars z_road_tunes z_road_demands v_imaged v_lastFault v_p1_held v_p1_sort v_p1_elementCount v_p1_stretchNumber g_p1_elements v_road_drawSeed v_road_stretches_stretchCount f_road_stretches_kinds f_road_stretches_others f_road_stretches_spaces f_road_stretches_times) sz)) 0 0 (va_A (wX9_addStretchFrom cI cJ cS a_o a_p1 a_p1_elements a_road a_road_stretches a_road_stretches_kinds a_road_stretches_others a_road_stretches_spaces a_road_stretches_times z_kept z_ahead z_shelves z_cutting z_acting z_refused z_road_cars z_road_tunes z_road_demands v_imaged v_lastFault v_p1_held v_p1_sort v_p1_elementCount v_p1_stretchNumber g_p1_elements v_road_drawSeed v_road_stretches_stretchCount f_road_stretches_kinds f_road_stretches_others f_road_stretches_spaces f_road_stretches_times) sz) := by
  refine Met.rw (Qc := fun A => (va_Qi (fun r (u : Int32 × (Nat → Int32) × (Nat → Int32) × (Nat → Int32) × (Nat → Int32)) => post r u.1 u.2.1 u.2.2.1 u.2.2.2.1 u.2.2.2.2) (fun u t => va_P D vwCl (wX9_addStretchFrom cI cJ cS a_o a_p1 a_p1_elements a_road a_road_stretches a_road_stretches_kinds a_road_stretches_others a_road_stretches_spaces a_road_stretches_times z_kept z_ahead z_shelves z_cutting z_acting z_refused z_road_cars z_road_tunes z_road_demands v_imaged v_lastFault v_p1_held v_p1_sort v_p1_elementCount v_p1_stretchNumber g_p1_elements v_road_drawSeed u.1 u.2.1 u.2.2.1 u.2.2.2.1 u.2.2.2.2) t.heap) A)) (by decide) (Nat.le_of_ble_eq_true rfl) (fun p e s m args below meth c ls A (S : CallFix p m c cX9_addStretchFrom 7 s args GW "RoadThatSings") hE hT hP hD hA hS hr hlocks hname hl => ?_)
  have hS0 := hS
  have hx := S.1
  have hb := S.2.1
  have hl : lv_has ls 7 [(0, .ref a_o), (1, .ref a_p1), (2, .int x2)] := hl
  unfold F_X9_addStretchFrom at h
  refine lv_aload_n hx hb dX9_addStretchFrom_0 rfl (lv_at hl 1 rfl) ?_
  refine lv_iload_n hx hb dX9_addStretchFrom_1 rfl (lv_at hl 2 rfl) ?_
  refine ro_i (roV S hE hT hS (c_X6_intAt h) lkX9_153 rfl ⟨(Nat.le_of_ble_eq_true rfl), (Nat.le_of_ble_eq_true rfl)⟩ (hP.sub [1, 2] rfl) 0 rfl rfl hl.1 rfl (Nat.le_of_ble_eq_true rfl) dX9_addStretchFrom_2 ⟨(Nat.zero_le _), (Nat.zero_le _)⟩) (fun r2 h => ?_)
  refine lv_istore_n (lv' := [(3, .int r2), (0, .ref a_o), (1, .ref a_p1), (2, .int x2)]) hx hb dX9_addStretchFrom_5 rfl hl (by decide) rfl (fun ls hl => ?_)
  refine lv_aload_n hx hb dX9_addStretchFrom_6 rfl (lv_at hl 2 rfl) ?_
  refine lv_iload_n hx hb dX9_addStretchFrom_7 rfl (lv_at hl 3 rfl) ?_
  refine lv_iconst (v := 1) hx hb dX9_addStretchFrom_8 (by decide) ?_
  refine lv_iadd hx hb dX9_addStretchFrom_9 ?_
  refine ro_i (roV S hE hT hS (c_X6_intAt h) lkX9_153 rfl ⟨(Nat.le_of_ble_eq_true rfl), (Nat.le_of_ble_eq_true rfl)⟩ (hP.sub [1, 2] rfl) 0 rfl rfl hl.1 rfl (Nat.le_of_ble_eq_true rfl) dX9_addStretchFrom_10 ⟨(Nat.zero_le _), (Nat.zero_le _)⟩) (fun r10 h => ?_)
  refine lv_istore (lv' := [(4, .int r10), (3, .int r2), (0, .ref a_o), (1, .ref a_p1), (2, .int x2)]) hx hb dX9_addStretchFrom_13 hl (by decide) rfl (fun ls hl => ?_)
  refine lv_aload_n hx hb dX9_addStretchFrom_15 rfl (lv_at hl 3 rfl) ?_
  refine lv_iload_n hx hb dX9_addStretchFrom_16 rfl (lv_at hl 4 rfl) ?_
  refine lv_iconst (v := 2) hx hb dX9_addStretchFrom_17 (by decide) ?_
  refine lv_iadd hx hb dX9_addStretchFrom_18 ?_
  refine ro_i (roV S hE hT hS (c_X6_intAt h) lkX9_153 rfl ⟨(Nat.le_of_ble_eq_true rfl), (Nat.le_of_ble_eq_true rfl)⟩ (hP.sub [1, 2] rfl) 0 rfl rfl hl.1 rfl (Nat.le_of_ble_eq_true rfl) dX9_addStretchFrom_19 ⟨(Nat.zero_le _), (Nat.zero_le _)⟩) (fun r19 h => ?_)
  refine lv_istore (lv' := [(5, .int r19), (4, .int r10), (3, .int r2), (0, .ref a_o), (1, .ref a_p1), (2, .int x2)]) hx hb dX9_addStretchFrom_22 hl (by decide) rfl (fun ls hl => ?_)
  refine lv_aload_n hx hb dX9_addStretchFrom_24 rfl (lv_at hl 4 rfl) ?_
  refine lv_iload_n hx hb dX9_addStretchFrom_25 rfl (lv_at hl 5 rfl) ?_
  refine lv_iconst (v := 3) hx hb dX9_addStretchFrom_26 (by decide) ?_
  refine lv_iadd hx hb dX9_addStretchFrom_27 ?_
  refine ro_i (roV S hE hT hS (c_X6_intAt h) lkX9_153 rfl ⟨(Nat.le_of_ble_eq_true rfl), (Nat.le_of_ble_eq_true rfl)⟩ (hP.sub [1, 2] rfl) 0 rfl rfl hl.1 rfl (Nat.le_of_ble_eq_true rfl) dX9_addStretchFrom_28 ⟨(Nat.zero_le _), (Nat.zero_le _)⟩) (fun r28 h => ?_)
  refine lv_istore (lv' := [(6, .int r28), (5, .int r19), (4, .int r10), (3, .int r2), (0, .ref a_o), (1, .ref a_p1), (2, .int x2)]) hx hb dX9_addStretchFrom_31 hl (by decide) rfl (fun ls hl => ?_)
  refine lv_iload_n hx hb dX9_addStretchFrom_33 rfl (lv_at hl 3 rfl) ?_
  refine lv_iconst (v := 0) hx hb dX9_addStretchFrom_34 (by decide) ?_
  refine lv_bipush (v := 6) hx hb dX9_addStretchFrom_35 (by decide) ?_
  refine ro_i (roS S hE hT hS (c_X9_within h) lkX9_63 rfl ⟨(Nat.le_of_ble_eq_true rfl), (Nat.le_of_ble_eq_true rfl)⟩ (hP.sub [] rfl) hl.1 rfl (Nat.le_of_ble_eq_true rfl) dX9_addStretchFrom_37 ⟨(Nat.zero_le _), (Nat.zero_le _)⟩) (fun r37 h => ?_)
  refine lv_if_eq (tgt := 55) hx hb dX9_addStretchFrom_40 (by decide) (fun hc => ?_) (fun hc => ?_)
  · have h := h.1 hc
    refine lv_iconst (v := 0) hx hb dX9_addStretchFrom_55 (by decide) ?_
    exact W.zret hx hb hr rfl (fun t ht _ => ⟨⟨_, (v_road_stretches_stretchCount, f_road_stretches_kinds, f_road_stretches_others, f_road_stretches_spaces, f_road_stretches_times), rfl, h, hPt hP ht⟩, hS.F ht⟩) hS.2.2 dX9_addStretchFrom_56
  have h := h.2 hc
  refine lv_iload hx hb dX9_addStretchFrom_43 (lv_at hl 2 rfl) ?_
  refine lv_iload hx hb dX9_addStretchFrom_45 (lv_at hl 1 rfl) ?_
  refine lv_iload hx hb dX9_addStretchFrom_47 (lv_at hl 0 rfl) ?_
  refine ro_i (roS S hE hT hS (c_X9_areMeasures h) lkX9_139 rfl ⟨(Nat.le_of_ble_eq_true rfl), (Nat.le_of_ble_eq_true rfl)⟩ (hP.sub [] rfl) hl.1 rfl (Nat.le_of_ble_eq_true rfl) dX9_addStretchFrom_49 ⟨(Nat.zero_le _), (Nat.zero_le _)⟩) (fun r49 h => ?_)
  refine lv_if_ne (tgt := 57) hx hb dX9_addStretchFrom_52 (by decide) (fun hc => ?_) (fun hc => ?_)
  · have h := h.2 hc
    refine lv_aload_n hx hb dX9_addStretchFrom_57 rfl (lv_at hl 4 rfl) ?_
    refine gf S hE hP 0 rfl rfl inX9 (k := 0) (by decide) q181 rfl dX9_addStretchFrom_58 ?_
    refine gfN S hE hP 3 rfl rfl inX5 (k := 0) (by decide) nfX9_106 rfl dX9_addStretchFrom_61 ?_
    refine lv_iload_n hx hb dX9_addStretchFrom_64 rfl (lv_at hl 3 rfl) ?_
    refine lv_iload hx hb dX9_addStretchFrom_65 (lv_at hl 2 rfl) ?_
    refine lv_iload hx hb dX9_addStretchFrom_67 (lv_at hl 1 rfl) ?_
    refine lv_iload hx hb dX9_addStretchFrom_69 (lv_at hl 0 rfl) ?_
    refine rw_i (rwV S hE hT hS hP hD hA (c_X7_add h) [4, 5, 6, 7, 8] rfl (by decide) lkX9_145 rfl ⟨(Nat.le_of_ble_eq_true rfl), (Nat.le_of_ble_eq_true rfl)⟩ 4 rfl rfl hl.1 rfl (Nat.le_of_ble_eq_true rfl) dX9_addStretchFrom_71 ⟨(Nat.zero_le _), (Nat.zero_le _)⟩) hP hD hS hA [4, 5, 6, 7, 8] rfl (by decide) (fun _ => rfl) (fun r71 u71 H locs h hP hD hS => ?_)
    obtain ⟨w71_0, w71_1, w71_2, w71_3, w71_4⟩ := u71
    try dsimp only at h
    have hP : va_P D vwCl (wX9_addStretchFrom cI cJ cS a_o a_p1 a_p1_elements a_road a_road_stretches a_road_stretches_kinds a_road_stretches_others a_road_stretches_spaces a_road_stretches_times z_kept z_ahead z_shelves z_cutting z_acting z_refused z_road_cars z_road_tunes z_road_demands v_imaged v_lastFault v_p1_held v_p1_sort v_p1_elementCount v_p1_stretchNumber g_p1_elements v_road_drawSeed w71_0 w71_1 w71_2 w71_3 w71_4) H := hP
    have hD : va_D A (wX9_addStretchFrom cI cJ cS a_o a_p1 a_p1_elements a_road a_road_stretches a_road_stretches_kinds a_road_stretches_others a_road_stretches_spaces a_road_stretches_times z_kept z_ahead z_shelves z_cutting z_acting z_refused z_road_cars z_road_tunes z_road_demands v_imaged v_lastFault v_p1_held v_p1_sort v_p1_elementCount v_p1_stretchNumber g_p1_elements v_road_drawSeed w71_0 w71_1 w71_2 w71_3 w71_4) := hD
    refine lv_iconst (v := (-1)) hx hb dX9_addStretchFrom_74 (by decide) ?_
    refine lv_icmp_eq (tgt := 82) hx hb dX9_addStretchFrom_75 (by decide) (fun hc => ?_) (fun hc => ?_)
    · have h := h.1 hc
      refine lv_iconst (v := 0) hx hb dX9_addStretchFrom_82 (by decide) ?_
      exact W.zret hx hb hr rfl (fun t ht _ => ⟨⟨_, (w71_0, w71_1, w71_2, w71_3, w71_4), rfl, h, hPt hP ht⟩, hS.F ht⟩) hS.2.2 dX9_addStretchFrom_83
    have h := h.2 hc
    refine lv_iconst (v := 1) hx hb dX9_addStretchFrom_78 (by decide) ?_
    refine lv_goto (tgt := 83) hx hb dX9_addStretchFrom_79 (by decide) ?_
    exact W.zret hx hb hr rfl (fun t ht _ => ⟨⟨_, (w71_0, w71_1, w71_2, w71_3, w71_4), rfl, h, hPt hP ht⟩, hS.F ht⟩) hS.2.2 dX9_addStretchFrom_83
  have h := h.1 hc
  refine lv_iconst (v := 0) hx hb dX9_addStretchFrom_55 (by decide) ?_
  exact W.zret hx hb hr rfl (fun t ht _ => ⟨⟨_, (v_road_stretches_stretchCount, f_road_stretches_kinds, f_road_stretches_others, f_road_stretches_spaces, f_road_stretches_times), rfl, h, hPt hP ht⟩, hS.F ht⟩) hS.2.2 dX9_addStretchFrom_56
/-! X9_stretchOf -/
abbrev wX9_stretchOf (cI cJ cS : ClassId) (a_o a_refused a_road a_road_stretches a_road_stretches_kinds a_road_stretches_others a_road_stretches_spaces a_road_stretches_times : Nat) (z_kept z_ahead z_shelves z_cutting z_acting z_road_cars z_road_tunes z_road_demands : Value) (v_imaged : Int32) (v_lastFault : Int32) (f_refused : Nat → Int32) (v_road_drawSeed : Int32) (v_road_stretches_stretchCount : Int32) (f_road_stretches_kinds : Nat → Int32) (f_road_stretches_others : Nat → Int32) (f_road_stretches_spaces : Nat → Int32) (f_road_stretches_times : Nat → Int32) : va_W := [(a_o, .inr (8, [.ref a_road, z_kept, z_ahead, z_shelves, z_cutting, z_acting, .ref a_refused, .int v_imaged, .int v_lastFault])), (a_refused, .inl (cI, 8, .inl f_refused)), (a_road, .inr (4, [.ref a_road_stretches, z_road_cars, z_road_tunes, z_road_demands, .int v_road_drawSeed])), (a_road_stretches, .inr (6, [.ref a_road_stretches_kinds, .ref a_road_stretches_spaces, .ref a_road_stretches_others, .ref a_road_stretches_times, .int v_road_stretches_stretchCount])), (a_road_stretches_kinds, .inl (cI, 16, .inl f_road_stretches_kinds)), (a_road_stretches_others, .inl (cI, 16, .inl f_road_stretches_others)), (a_road_stretches_spaces, .inl (cI, 16, .inl f_road_stretches_spaces)), (a_road_stretches_times, .inl (cI, 16, .inl f_road_stretches_times))]
def F_X9_stretchOf (f_refused : Nat → Int32) (v_road_stretches_stretchCount : Int32) (f_road_stretches_kinds : Nat → Int32) (f_road_stretches_others : Nat → Int32) (f_road_stretches_spaces : Nat → Int32) (f_road_stretches_times : Nat → Int32) (x1 : Int32) (x2 : Int32) (post : Int32 → (Nat → Int32) → Prop) : Prop := (F_X7_has v_road_stretches_stretchCount x1 (fun r10 => ((r10 = 0 → (F_X9_refuse f_refused (-5) (fun r19 w19_0 => post r19 w19_0))) ∧ (¬ r10 = 0 → ((x2 = 0 → (F_X7_kindOf v_road_stretches_stretchCount f_road_stretches_kinds x1 (fun r62 => post r62 f_refused))) ∧ (¬ x2 = 0 → ((x2 = 1 → (F_X7_spaceOf v_road_stretches_stretchCount f_road_stretches_spaces x1 (fun r68 => post r68 f_refused))) ∧ (¬ x2 = 1 → ((x2 = 2 → (F_X7_otherOf v_road_stretches_stretchCount f_road_stretches_others x1 (fun r74 => post r74 f_refused))) ∧ (¬ x2 = 2 → ((x2 = 3 → (F_X7_timesOf v_road_stretches_stretchCount f_road_stretches_times x1 (fun r80 => post r80 f_refused))) ∧ (¬ x2 = 3 → ((x2 = 4 → (F_X7_lengthOf v_road_stretches_stretchCount f_road_stretches_kinds f_road_stretches_others f_road_stretches_spaces f_road_stretches_times x1 (fun r86 => post r86 f_refused))) ∧ (¬ x2 = 4 → (F_X9_refuse f_refused (-5) (fun r93 w93_0 => post r93 w93_0))))))))))))))))
set_option maxHeartbeats 4000000 in
set_option maxRecDepth 100000 in
theorem c_X9_stretchOf {l : Launch} {D : va_G} {cI cJ cS : ClassId} {ad adK : Nat → Nat} {a_o a_refused a_road a_road_stretches a_road_stretches_kinds a_road_stretches_others a_road_stretches_spaces a_road_stretches_times : Nat} {z_kept z_ahead z_shelves z_cutting z_acting z_road_cars z_road_tunes z_road_demands : Value} {v_imaged : Int32} {v_lastFault : Int32} {f_refused : Nat → Int32} {v_road_drawSeed : Int32} {v_road_stretches_stretchCount : Int32} {f_road_stretches_kinds : Nat → Int32} {f_road_stretches_others : Nat → Int32} {f_road_stretches_spaces : Nat → Int32} {f_road_stretches_times : Nat → Int32} {x1 : Int32} {x2 : Int32} {post : Int32 → (Nat → Int32) → Prop} (h : F_X9_stretchOf f_refused v_road_stretches_stretchCount f_road_stretches_kinds f_road_stretches_others f_road_stretches_spaces f_road_stretches_times x1 x2 post) {sz : Nat} : Met l yX9_stretchOf (Cond.code yX9_stretchOf cX9_stretchOf 4 (some (.int)) :: GW) (rmd 3 0 0) (PW D cI cJ cS ad adK [.ref a_o, .int x1, .int x2] (wX9_stretchOf cI cJ cS a_o a_refused a_road a_road_stretches a_road_stretches_kinds a_road_stretches_others a_road_stretches_spaces a_road_stretches_times z_kept z_ahead z_shelves z_cutting z_acting z_road_cars z_road_tunes z_road_demands v_imaged v_lastFault f_refused v_road_drawSeed v_road_stretches_stretchCount f_road_stretches_kinds f_road_stretches_others f_road_stretches_spaces f_road_stretches_times) sz) (va_Qi (fun r (u : (Nat → Int32)) => post r u) (fun u t => va_P D vwCl (wX9_stretchOf cI cJ cS a_o a_refused a_road a_road_stretches a_road_stretches_kinds a_road_stretches_others a_road_stretches_spaces a_road_stretches_times z_kept z_ahead z_shelves z_cutting z_acting z_road_cars z_road_tunes z_road_demands v_imaged v_lastFault u v_road_drawSeed v_road_stretches_stretchCount f_road_stretches_kinds f_road_stretches_others f_road_stretches_spaces f_road_stretches_times) t.heap) (va_A (wX9_stretchOf cI cJ cS a_o a_refused a_road a_road_stretches a_road_stretches_kinds a_road_stretches_others a_road_stretches_spaces a_road_stretches_times z_kept z_ahead z_shelves z_cutting z_acting z_road_cars z_road_tunes z_road_demands v_imaged v_lastFault f_refused v_road_drawSeed v_road_stretches_stretchCount f_road_stretches_kinds f_road_stretches_others f_road_stretches_spaces f_road_stretches_times) sz)) 0 0 (va_A (wX9_stretchOf cI cJ cS a_o a_refused a_road a_road_stretches a_road_stretches_kinds a_road_stretches_others a_road_stretches_spaces a_road_stretches_times z_kept z_ahead z_shelves z_cutting z_acting z_road_cars z_road_tunes z_road_demands v_imaged v_lastFault f_refused v_road_drawSeed v_road_stretches_stretchCount f_road_stretches_kinds f_road_stretches_others f_road_stretches_spaces f_road_stretches_times) sz) := by
  refine Met.rw (Qc := fun A => (va_Qi (fun r (u : (Nat → Int32)) => post r u) (fun u t => va_P D vwCl (wX9_stretchOf cI cJ cS a_o a_refused a_road a_road_stretches a_road_stretches_kinds a_road_stretches_others a_road_stretches_spaces a_road_stretches_times z_kept z_ahead z_shelves z_cutting z_acting z_road_cars z_road_tunes z_road_demands v_imaged v_lastFault u v_road_drawSeed v_road_stretches_stretchCount f_road_stretches_kinds f_road_stretches_others f_road_stretches_spaces f_road_stretches_times) t.heap) A)) (by decide) (Nat.le_of_ble_eq_true rfl) (fun p e s m args below meth c ls A (S : CallFix p m c cX9_stretchOf 4 s args GW "RoadThatSings") hE hT hP hD hA hS hr hlocks hname hl => ?_)
  have hS0 := hS
  have hx := S.1
  have hb := S.2.1
  have hl : lv_has ls 4 [(0, .ref a_o), (1, .int x1), (2, .int x2)] := hl
  unfold F_X9_stretchOf at h
  refine lv_aload_n hx hb dX9_stretchOf_0 rfl (lv_at hl 0 rfl) ?_
  refine gf S hE hP 0 rfl rfl inX9 (k := 0) (by decide) q181 rfl dX9_stretchOf_1 ?_
  refine gfN S hE hP 2 rfl rfl inX5 (k := 0) (by decide) nfX9_106 rfl dX9_stretchOf_4 ?_
  refine lv_astore_n (lv' := [(3, .ref a_road_stretches), (0, .ref a_o), (1, .int x1), (2, .int x2)]) hx hb dX9_stretchOf_7 rfl hl (by decide) rfl (fun ls hl => ?_)
  refine lv_aload_n hx hb dX9_stretchOf_8 rfl (lv_at hl 0 rfl) ?_
  refine lv_iload_n hx hb dX9_stretchOf_9 rfl (lv_at hl 2 rfl) ?_
  refine ro_i (roV S hE hT hS (c_X7_has h) lkX9_110 rfl ⟨(Nat.le_of_ble_eq_true rfl), (Nat.le_of_ble_eq_true rfl)⟩ (hP.sub [3] rfl) 0 rfl rfl hl.1 rfl (Nat.le_of_ble_eq_true rfl) dX9_stretchOf_10 ⟨(Nat.zero_le _), (Nat.zero_le _)⟩) (fun r10 h => ?_)
  refine lv_if_ne (tgt := 23) hx hb dX9_stretchOf_13 (by decide) (fun hc => ?_) (fun hc => ?_)
  · have h := h.2 hc
    refine lv_iload_n hx hb dX9_stretchOf_23 rfl (lv_at hl 3 rfl) ?_
    by_cases hk0 : x2 = 0
    · have h := h.1 hk0
      refine lv_tableIn (off := 36) (tgt := 60) hx hb dX9_stretchOf_24 (by rw [hk0]; decide) (by rw [hk0]; decide) (by rw [hk0]; rfl) (by decide) ?_
      refine lv_aload_n hx hb dX9_stretchOf_60 rfl (lv_at hl 0 rfl) ?_
      refine lv_iload_n hx hb dX9_stretchOf_61 rfl (lv_at hl 2 rfl) ?_
      refine ro_i (roV S hE hT hS (c_X7_kindOf h) lkX9_129 rfl ⟨(Nat.le_of_ble_eq_true rfl), (Nat.le_of_ble_eq_true rfl)⟩ (hP.sub [3, 4] rfl) 0 rfl rfl hl.1 rfl (Nat.le_of_ble_eq_true rfl) dX9_stretchOf_62 ⟨(Nat.zero_le _), (Nat.zero_le _)⟩) (fun r62 h => ?_)
      exact W.iret hx hb hr (fun t ht _ => ⟨⟨_, f_refused, rfl, h, hPt hP ht⟩, hS.F ht⟩) hS.2.2 dX9_stretchOf_65
    have h := h.2 hk0
    by_cases hk1 : x2 = 1
    · have h := h.1 hk1
      refine lv_tableIn (off := 42) (tgt := 66) hx hb dX9_stretchOf_24 (by rw [hk1]; decide) (by rw [hk1]; decide) (by rw [hk1]; rfl) (by decide) ?_
      refine lv_aload_n hx hb dX9_stretchOf_66 rfl (lv_at hl 0 rfl) ?_
      refine lv_iload_n hx hb dX9_stretchOf_67 rfl (lv_at hl 2 rfl) ?_
      refine ro_i (roV S hE hT hS (c_X7_spaceOf h) lkX9_165 rfl ⟨(Nat.le_of_ble_eq_true rfl), (Nat.le_of_ble_eq_true rfl)⟩ (hP.sub [3, 6] rfl) 0 rfl rfl hl.1 rfl (Nat.le_of_ble_eq_true rfl) dX9_stretchOf_68 ⟨(Nat.zero_le _), (Nat.zero_le _)⟩) (fun r68 h => ?_)
      exact W.iret hx hb hr (fun t ht _ => ⟨⟨_, f_refused, rfl, h, hPt hP ht⟩, hS.F ht⟩) hS.2.2 dX9_stretchOf_71
    have h := h.2 hk1
    by_cases hk2 : x2 = 2
    · have h := h.1 hk2
      refine lv_tableIn (off := 48) (tgt := 72) hx hb dX9_stretchOf_24 (by rw [hk2]; decide) (by rw [hk2]; decide) (by rw [hk2]; rfl) (by decide) ?_
      refine lv_aload_n hx hb dX9_stretchOf_72 rfl (lv_at hl 0 rfl) ?_
      refine lv_iload_n hx hb dX9_stretchOf_73 rfl (lv_at hl 2 rfl) ?_
      refine ro_i (roV S hE hT hS (c_X7_otherOf h) lkX9_168 rfl ⟨(Nat.le_of_ble_eq_true rfl), (Nat.le_of_ble_eq_true rfl)⟩ (hP.sub [3, 5] rfl) 0 rfl rfl hl.1 rfl (Nat.le_of_ble_eq_true rfl) dX9_stretchOf_74 ⟨(Nat.zero_le _), (Nat.zero_le _)⟩) (fun r74 h => ?_)
      exact W.iret hx hb hr (fun t ht _ => ⟨⟨_, f_refused, rfl, h, hPt hP ht⟩, hS.F ht⟩) hS.2.2 dX9_stretchOf_77
    have h := h.2 hk2
    by_cases hk3 : x2 = 3
    · have h := h.1 hk3
      refine lv_tableIn (off := 54) (tgt := 78) hx hb dX9_stretchOf_24 (by rw [hk3]; decide) (by rw [hk3]; decide) (by rw [hk3]; rfl) (by decide) ?_
      refine lv_aload_n hx hb dX9_stretchOf_78 rfl (lv_at hl 0 rfl) ?_
      refine lv_iload_n hx hb dX9_stretchOf_79 rfl (lv_at hl 2 rfl) ?_
      refine ro_i (roV S hE hT hS (c_X7_timesOf h) lkX9_171 rfl ⟨(Nat.le_of_ble_eq_true rfl), (Nat.le_of_ble_eq_true rfl)⟩ (hP.sub [3, 7] rfl) 0 rfl rfl hl.1 rfl (Nat.le_of_ble_eq_true rfl) dX9_stretchOf_80 ⟨(Nat.zero_le _), (Nat.zero_le _)⟩) (fun r80 h => ?_)
      exact W.iret hx hb hr (fun t ht _ => ⟨⟨_, f_refused, rfl, h, hPt hP ht⟩, hS.F ht⟩) hS.2.2 dX9_stretchOf_83
    have h := h.2 hk3
    by_cases hk4 : x2 = 4
    · have h := h.1 hk4
      refine lv_tableIn (off := 60) (tgt := 84) hx hb dX9_stretchOf_24 (by rw [hk4]; decide) (by rw [hk4]; decide) (by rw [hk4]; rfl) (by decide) ?_
      refine lv_aload_n hx hb dX9_stretchOf_84 rfl (lv_at hl 0 rfl) ?_
      refine lv_iload_n hx hb dX9_stretchOf_85 rfl (lv_at hl 2 rfl) ?_
      refine ro_i (roV S hE hT hS (c_X7_lengthOf h) lkX9_174 rfl ⟨(Nat.le_of_ble_eq_true rfl), (Nat.le_of_ble_eq_true rfl)⟩ (hP.sub [3, 4, 5, 6, 7] rfl) 0 rfl rfl hl.1 rfl (Nat.le_of_ble_eq_true rfl) dX9_stretchOf_86 ⟨(Nat.zero_le _), (Nat.zero_le _)⟩) (fun r86 h => ?_)
      exact W.iret hx hb hr (fun t ht _ => ⟨⟨_, f_refused, rfl, h, hPt hP ht⟩, hS.F ht⟩) hS.2.2 dX9_stretchOf_89
    have h := h.2 hk4
    refine lv_tableOut (tgt := 90) hx hb dX9_stretchOf_24 (sw_out (fun k h1 h2 => by
      rcases (show k = 0 ∨ k = 1 ∨ k = 2 ∨ k = 3 ∨ k = 4 by omega) with rfl | rfl | rfl | rfl | rfl
      · exact hk0
      · exact hk1
      · exact hk2
      · exact hk3
      · exact hk4)) (by decide) ?_
    refine lv_aload_n hx hb dX9_stretchOf_90 rfl (lv_at hl 1 rfl) ?_
    refine lv_bipush (v := (-5)) hx hb dX9_stretchOf_91 (by decide) ?_
    refine rw_i (rwV S hE hT hS hP hD hA (c_X9_refuse h) [0, 1] rfl (by decide) lkX9_59 rfl ⟨(Nat.le_of_ble_eq_true rfl), (Nat.le_of_ble_eq_true rfl)⟩ 0 rfl rfl hl.1 rfl (Nat.le_of_ble_eq_true rfl) dX9_stretchOf_93 ⟨(Nat.zero_le _), (Nat.zero_le _)⟩) hP hD hS hA [0, 1] rfl (by decide) (fun _ => rfl) (fun r93 w93_0 H locs h hP hD hS => ?_)
    try dsimp only at h
    have hP : va_P D vwCl (wX9_stretchOf cI cJ cS a_o a_refused a_road a_road_stretches a_road_stretches_kinds a_road_stretches_others a_road_stretches_spaces a_road_stretches_times z_kept z_ahead z_shelves z_cutting z_acting z_road_cars z_road_tunes z_road_demands v_imaged v_lastFault w93_0 v_road_drawSeed v_road_stretches_stretchCount f_road_stretches_kinds f_road_stretches_others f_road_stretches_spaces f_road_stretches_times) H := hP
    have hD : va_D A (wX9_stretchOf cI cJ cS a_o a_refused a_road a_road_stretches a_road_stretches_kinds a_road_stretches_others a_road_stretches_spaces a_road_stretches_times z_kept z_ahead z_shelves z_cutting z_acting z_road_cars z_road_tunes z_road_demands v_imaged v_lastFault w93_0 v_road_drawSeed v_road_stretches_stretchCount f_road_stretches_kinds f_road_stretches_others f_road_stretches_spaces f_road_stretches_times) := hD
    exact W.iret hx hb hr (fun t ht _ => ⟨⟨_, w93_0, rfl, h, hPt hP ht⟩, hS.F ht⟩) hS.2.2 dX9_stretchOf_96
  have h := h.1 hc
  refine lv_aload_n hx hb dX9_stretchOf_16 rfl (lv_at hl 1 rfl) ?_
  refine lv_bipush (v := (-5)) hx hb dX9_stretchOf_17 (by decide) ?_
  refine rw_i (rwV S hE hT hS hP hD hA (c_X9_refuse h) [0, 1] rfl (by decide) lkX9_59 rfl ⟨(Nat.le_of_ble_eq_true rfl), (Nat.le_of_ble_eq_true rfl)⟩ 0 rfl rfl hl.1 rfl (Nat.le_of_ble_eq_true rfl) dX9_stretchOf_19 ⟨(Nat.zero_le _), (Nat.zero_le _)⟩) hP hD hS hA [0, 1] rfl (by decide) (fun _ => rfl) (fun r19 w19_0 H locs h hP hD hS => ?_)
  try dsimp only at h
  have hP : va_P D vwCl (wX9_stretchOf cI cJ cS a_o a_refused a_road a_road_stretches a_road_stretches_kinds a_road_stretches_others a_road_stretches_spaces a_road_stretches_times z_kept z_ahead z_shelves z_cutting z_acting z_road_cars z_road_tunes z_road_demands v_imaged v_lastFault w19_0 v_road_drawSeed v_road_stretches_stretchCount f_road_stretches_kinds f_road_stretches_others f_road_stretches_spaces f_road_stretches_times) H := hP
  have hD : va_D A (wX9_stretchOf cI cJ cS a_o a_refused a_road a_road_stretches a_road_stretches_kinds a_road_stretches_others a_road_stretches_spaces a_road_stretches_times z_kept z_ahead z_shelves z_cutting z_acting z_road_cars z_road_tunes z_road_demands v_imaged v_lastFault w19_0 v_road_drawSeed v_road_stretches_stretchCount f_road_stretches_kinds f_road_stretches_others f_road_stretches_spaces f_road_stretches_times) := hD
  exact W.iret hx hb hr (fun t ht _ => ⟨⟨_, w19_0, rfl, h, hPt hP ht⟩, hS.F ht⟩) hS.2.2 dX9_stretchOf_22
/-! X9_isSpeed -/
abbrev wX9_isSpeed (cI cJ cS : ClassId) : va_W := []
def F_X9_isSpeed (x0 : Int32) (post : Int32 → Prop) : Prop := (F_X9_within x0 1 99 (fun r4 => (vb r4 ∧ post r4)))
set_option maxHeartbeats 4000000 in
set_option maxRecDepth 100000 in
theorem c_X9_isSpeed {l : Launch} {D : va_G} {cI cJ cS : ClassId} {ad adK : Nat → Nat}  {x0 : Int32} {post : Int32 → Prop} (h : F_X9_isSpeed x0 post) : Met l yX9_isSpeed (Cond.code yX9_isSpeed cX9_isSpeed 1 (some (.boolean)) :: GW) (rmd 1 0 0) (PR D cI cJ cS ad adK [.int x0] (wX9_isSpeed cI cJ cS)) (vp_Si post) 0 0 nof := by
  refine Met.ro (by decide) (Nat.le_of_ble_eq_true rfl) (fun p e s m args below meth c ls (S : CallFix p m c cX9_isSpeed 1 s args GW "RoadThatSings") hE hT hP hS hr hlocks hl => ?_)
  have hx := S.1
  have hb := S.2.1
  have hl : lv_has ls 1 [(0, .int x0)] := hl
  unfold F_X9_isSpeed at h
  refine lv_iload_n hx hb dX9_isSpeed_0 rfl (lv_at hl 0 rfl) ?_
  refine lv_iconst (v := 1) hx hb dX9_isSpeed_1 (by decide) ?_
  refine lv_bipush (v := 99) hx hb dX9_isSpeed_2 (by decide) ?_
  refine ro_i (roS S hE hT hS (c_X9_within h) lkX9_63 rfl ⟨(Nat.le_of_ble_eq_true rfl), (Nat.le_of_ble_eq_true rfl)⟩ (hP.sub [] rfl) hl.1 rfl (Nat.le_of_ble_eq_true rfl) dX9_isSpeed_4 ⟨(Nat.zero_le _), (Nat.zero_le _)⟩) (fun r4 h => ?_)
  exact W.zret hx hb hr h.1 (fun t ht _ => ⟨_, rfl, h.2, ht⟩) (fun _ hq => by cases hq) dX9_isSpeed_7
/-! X9_car -/
abbrev wX9_car (cI cJ cS : ClassId) (a_o a_refused a_road a_road_cars a_road_cars_bases a_road_cars_shares a_road_cars_speeds : Nat) (z_kept z_ahead z_shelves z_cutting z_acting z_road_stretches z_road_tunes z_road_demands : Value) (v_imaged : Int32) (v_lastFault : Int32) (f_refused : Nat → Int32) (v_road_drawSeed : Int32) (v_road_cars_carCount : Int32) (f_road_cars_bases : Nat → Int32) (f_road_cars_shares : Nat → Int32) (f_road_cars_speeds : Nat → Int32) : va_W := [(a_o, .inr (8, [.ref a_road, z_kept, z_ahead, z_shelves, z_cutting, z_acting, .ref a_refused, .int v_imaged, .int v_lastFault])), (a_refused, .inl (cI, 8, .inl f_refused)), (a_road, .inr (4, [z_road_stretches, .ref a_road_cars, z_road_tunes, z_road_demands, .int v_road_drawSeed])), (a_road_cars, .inr (1, [.ref a_road_cars_speeds, .ref a_road_cars_bases, .ref a_road_cars_shares, .int v_road_cars_carCount])), (a_road_cars_bases, .inl (cI, 6, .inl f_road_cars_bases)), (a_road_cars_shares, .inl (cI, 6, .inl f_road_cars_shares)), (a_road_cars_speeds, .inl (cI, 6, .inl f_road_cars_speeds))]
def F_X9_car (f_refused : Nat → Int32) (v_road_cars_carCount : Int32) (f_road_cars_bases : Nat → Int32) (f_road_cars_shares : Nat → Int32) (f_road_cars_speeds : Nat → Int32) (x1 : Int32) (x2 : Int32) (x3 : Int32) (post : Int32 → (Nat → Int32) → Int32 → (Nat → Int32) → (Nat → Int32) → (Nat → Int32) → Prop) : Prop := (F_X9_isSpeed x1 (fun r1 => ((r1 = 0 → (F_X9_refuse f_refused (-6) (fun r42 w42_0 => post r42 w42_0 v_road_cars_carCount f_road_cars_bases f_road_cars_shares f_road_cars_speeds))) ∧ (¬ r1 = 0 → (F_X9_within x2 0 999 (fun r12 => ((r12 = 0 → (F_X9_refuse f_refused (-6) (fun r42 w42_0 => post r42 w42_0 v_road_cars_carCount f_road_cars_bases f_road_cars_shares f_road_cars_speeds))) ∧ (¬ r12 = 0 → (F_X1_shareOfAll v_road_cars_carCount f_road_cars_shares (fun r29 => (F_X9_within x3 0 (100 - r29) (fun r33 => ((r33 = 0 → (F_X9_refuse f_refused (-6) (fun r42 w42_0 => post r42 w42_0 v_road_cars_carCount f_road_cars_bases f_road_cars_shares f_road_cars_speeds))) ∧ (¬ r33 = 0 → (F_X1_isFull v_road_cars_carCount (fun r53 => ((r53 = 0 → (F_X1_add v_road_cars_carCount f_road_cars_bases f_road_cars_shares f_road_cars_speeds x1 x2 x3 (fun r76 w76_0 w76_1 w76_2 w76_3 => post r76 f_refused w76_0 w76_1 w76_2 w76_3))) ∧ (¬ r53 = 0 → (F_X9_refuse f_refused (-7) (fun r62 w62_0 => post r62 w62_0 v_road_cars_carCount f_road_cars_bases f_road_cars_shares f_road_cars_speeds))))))))))))))))))))
set_option maxHeartbeats 4000000 in
set_option maxRecDepth 100000 in
theorem c_X9_car {l : Launch} {D : va_G} {cI cJ cS : ClassId} {ad adK : Nat → Nat} {a_o a_refused a_road a_road_cars a_road_cars_bases a_road_cars_shares a_road_cars_speeds : Nat} {z_kept z_ahead z_shelves z_cutting z_acting z_road_stretches z_road_tunes z_road_demands : Value} {v_imaged : Int32} {v_lastFault : Int32} {f_refused : Nat → Int32} {v_road_drawSeed : Int32} {v_road_cars_carCount : Int32} {f_road_cars_bases : Nat → Int32} {f_road_cars_shares : Nat → Int32} {f_road_cars_speeds : Nat → Int32} {x1 : Int32} {x2 : Int32} {x3 : Int32} {post : Int32 → (Nat → Int32) → Int32 → (Nat → Int32) → (Nat → Int32) → (Nat → Int32) → Prop} (h : F_X9_car f_refused v_road_cars_carCount f_road_cars_bases f_road_cars_shares f_road_cars_speeds x1 x2 x3 post) {sz : Nat} : Met l yX9_car (Cond.code yX9_car cX9_car 4 (some (.int)) :: GW) (rmd 3 0 0) (PW D cI cJ cS ad adK [.ref a_o, .int x1, .int x2, .int x3] (wX9_car cI cJ cS a_o a_refused a_road a_road_cars a_road_cars_bases a_road_cars_shares a_road_cars_speeds z_kept z_ahead z_shelves z_cutting z_acting z_road_stretches z_road_tunes z_road_demands v_imaged v_lastFault f_refused v_road_drawSeed v_road_cars_carCount f_road_cars_bases f_road_cars_shares f_road_cars_speeds) sz) (va_Qi (fun r (u : (Nat → Int32) × Int32 × (Nat → Int32) × (Nat → Int32) × (Nat → Int32)) => post r u.1 u.2.1 u.2.2.1 u.2.2.2.1 u.2.2.2.2) (fun u t => va_P D vwCl (wX9_car cI cJ cS a_o a_refused a_road a_road_cars a_road_cars_bases a_road_cars_shares a_road_cars_speeds z_kept z_ahead z_shelves z_cutting z_acting z_road_stretches z_road_tunes z_road_demands v_imaged v_lastFault u.1 v_road_drawSeed u.2.1 u.2.2.1 u.2.2.2.1 u.2.2.2.2) t.heap) (va_A (wX9_car cI cJ cS a_o a_refused a_road a_road_cars a_road_cars_bases a_road_cars_shares a_road_cars_speeds z_kept z_ahead z_shelves z_cutting z_acting z_road_stretches z_road_tunes z_road_demands v_imaged v_lastFault f_refused v_road_drawSeed v_road_cars_carCount f_road_cars_bases f_road_cars_shares f_road_cars_speeds) sz)) 0 0 (va_A (wX9_car cI cJ cS a_o a_refused a_road a_road_cars a_road_cars_bases a_road_cars_shares a_road_cars_speeds z_kept z_ahead z_shelves z_cutting z_acting z_road_stretches z_road_tunes z_road_demands v_imaged v_lastFault f_refused v_road_drawSeed v_road_cars_carCount f_road_cars_bases f_road_cars_shares f_road_cars_speeds) sz) := by
  refine Met.rw (Qc := fun A => (va_Qi (fun r (u : (Nat → Int32) × Int32 × (Nat → Int32) × (Nat → Int32) × (Nat → Int32)) => post r u.1 u.2.1 u.2.2.1 u.2.2.2.1 u.2.2.2.2) (fun u t => va_P D vwCl (wX9_car cI cJ cS a_o a_refused a_road a_road_cars a_road_cars_bases a_road_cars_shares a_road_cars_speeds z_kept z_ahead z_shelves z_cutting z_acting z_road_stretches z_road_tunes z_road_demands v_imaged v_lastFault u.1 v_road_drawSeed u.2.1 u.2.2.1 u.2.2.2.1 u.2.2.2.2) t.heap) A)) (by decide) (Nat.le_of_ble_eq_true rfl) (fun p e s m args below meth c ls A (S : CallFix p m c cX9_car 4 s args GW "RoadThatSings") hE hT hP hD hA hS hr hlocks hname hl => ?_)
  have hS0 := hS
  have hx := S.1
  have hb := S.2.1
  have hl : lv_has ls 4 [(0, .ref a_o), (1, .int x1), (2, .int x2), (3, .int x3)] := hl
  unfold F_X9_car at h
  refine lv_iload_n hx hb dX9_car_0 rfl (lv_at hl 1 rfl) ?_
  refine ro_i (roS S hE hT hS (c_X9_isSpeed h) lkX9_177 rfl ⟨(Nat.le_of_ble_eq_true rfl), (Nat.le_of_ble_eq_true rfl)⟩ (hP.sub [] rfl) hl.1 rfl (Nat.le_of_ble_eq_true rfl) dX9_car_1 ⟨(Nat.zero_le _), (Nat.zero_le _)⟩) (fun r1 h => ?_)
  refine lv_if_eq (tgt := 39) hx hb dX9_car_4 (by decide) (fun hc => ?_) (fun hc => ?_)
  · have h := h.1 hc
    refine lv_aload_n hx hb dX9_car_39 rfl (lv_at hl 0 rfl) ?_
    refine lv_bipush (v := (-6)) hx hb dX9_car_40 (by decide) ?_
    refine rw_i (rwV S hE hT hS hP hD hA (c_X9_refuse h) [0, 1] rfl (by decide) lkX9_59 rfl ⟨(Nat.le_of_ble_eq_true rfl), (Nat.le_of_ble_eq_true rfl)⟩ 0 rfl rfl hl.1 rfl (Nat.le_of_ble_eq_true rfl) dX9_car_42 ⟨(Nat.zero_le _), (Nat.zero_le _)⟩) hP hD hS hA [0, 1] rfl (by decide) (fun _ => rfl) (fun r42 w42_0 H locs h hP hD hS => ?_)
    try dsimp only at h
    have hP : va_P D vwCl (wX9_car cI cJ cS a_o a_refused a_road a_road_cars a_road_cars_bases a_road_cars_shares a_road_cars_speeds z_kept z_ahead z_shelves z_cutting z_acting z_road_stretches z_road_tunes z_road_demands v_imaged v_lastFault w42_0 v_road_drawSeed v_road_cars_carCount f_road_cars_bases f_road_cars_shares f_road_cars_speeds) H := hP
    have hD : va_D A (wX9_car cI cJ cS a_o a_refused a_road a_road_cars a_road_cars_bases a_road_cars_shares a_road_cars_speeds z_kept z_ahead z_shelves z_cutting z_acting z_road_stretches z_road_tunes z_road_demands v_imaged v_lastFault w42_0 v_road_drawSeed v_road_cars_carCount f_road_cars_bases f_road_cars_shares f_road_cars_speeds) := hD
    exact W.iret hx hb hr (fun t ht _ => ⟨⟨_, (w42_0, v_road_cars_carCount, f_road_cars_bases, f_road_cars_shares, f_road_cars_speeds), rfl, h, hPt hP ht⟩, hS.F ht⟩) hS.2.2 dX9_car_45
  have h := h.2 hc
  refine lv_iload_n hx hb dX9_car_7 rfl (lv_at hl 2 rfl) ?_
  refine lv_iconst (v := 0) hx hb dX9_car_8 (by decide) ?_
  refine lv_sipush (v := 999) hx hb dX9_car_9 (by decide) ?_
  refine ro_i (roS S hE hT hS (c_X9_within h) lkX9_63 rfl ⟨(Nat.le_of_ble_eq_true rfl), (Nat.le_of_ble_eq_true rfl)⟩ (hP.sub [] rfl) hl.1 rfl (Nat.le_of_ble_eq_true rfl) dX9_car_12 ⟨(Nat.zero_le _), (Nat.zero_le _)⟩) (fun r12 h => ?_)
  refine lv_if_eq (tgt := 39) hx hb dX9_car_15 (by decide) (fun hc => ?_) (fun hc => ?_)
  · have h := h.1 hc
    refine lv_aload_n hx hb dX9_car_39 rfl (lv_at hl 0 rfl) ?_
    refine lv_bipush (v := (-6)) hx hb dX9_car_40 (by decide) ?_
    refine rw_i (rwV S hE hT hS hP hD hA (c_X9_refuse h) [0, 1] rfl (by decide) lkX9_59 rfl ⟨(Nat.le_of_ble_eq_true rfl), (Nat.le_of_ble_eq_true rfl)⟩ 0 rfl rfl hl.1 rfl (Nat.le_of_ble_eq_true rfl) dX9_car_42 ⟨(Nat.zero_le _), (Nat.zero_le _)⟩) hP hD hS hA [0, 1] rfl (by decide) (fun _ => rfl) (fun r42 w42_0 H locs h hP hD hS => ?_)
    try dsimp only at h
    have hP : va_P D vwCl (wX9_car cI cJ cS a_o a_refused a_road a_road_cars a_road_cars_bases a_road_cars_shares a_road_cars_speeds z_kept z_ahead z_shelves z_cutting z_acting z_road_stretches z_road_tunes z_road_demands v_imaged v_lastFault w42_0 v_road_drawSeed v_road_cars_carCount f_road_cars_bases f_road_cars_shares f_road_cars_speeds) H := hP
    have hD : va_D A (wX9_car cI cJ cS a_o a_refused a_road a_road_cars a_road_cars_bases a_road_cars_shares a_road_cars_speeds z_kept z_ahead z_shelves z_cutting z_acting z_road_stretches z_road_tunes z_road_demands v_imaged v_lastFault w42_0 v_road_drawSeed v_road_cars_carCount f_road_cars_bases f_road_cars_shares f_road_cars_speeds) := hD
    exact W.iret hx hb hr (fun t ht _ => ⟨⟨_, (w42_0, v_road_cars_carCount, f_road_cars_bases, f_road_cars_shares, f_road_cars_speeds), rfl, h, hPt hP ht⟩, hS.F ht⟩) hS.2.2 dX9_car_45
  have h := h.2 hc
  refine lv_iload_n hx hb dX9_car_18 rfl (lv_at hl 3 rfl) ?_
  refine lv_iconst (v := 0) hx hb dX9_car_19 (by decide) ?_
  refine lv_bipush (v := 100) hx hb dX9_car_20 (by decide) ?_
  refine lv_aload_n hx hb dX9_car_22 rfl (lv_at hl 0 rfl) ?_
  refine gf S hE hP 0 rfl rfl inX9 (k := 0) (by decide) q181 rfl dX9_car_23 ?_
  refine gfN S hE hP 2 rfl rfl inX5 (k := 1) (by decide) nfX9_180 rfl dX9_car_26 ?_
  refine ro_i (roV S hE hT hS (c_X1_shareOfAll h) lkX9_184 rfl ⟨(Nat.le_of_ble_eq_true rfl), (Nat.le_of_ble_eq_true rfl)⟩ (hP.sub [3, 5] rfl) 0 rfl rfl hl.1 rfl (Nat.le_of_ble_eq_true rfl) dX9_car_29 ⟨(Nat.zero_le _), (Nat.zero_le _)⟩) (fun r29 h => ?_)
  refine lv_isub hx hb dX9_car_32 ?_
  refine ro_i (roS S hE hT hS (c_X9_within h) lkX9_63 rfl ⟨(Nat.le_of_ble_eq_true rfl), (Nat.le_of_ble_eq_true rfl)⟩ (hP.sub [] rfl) hl.1 rfl (Nat.le_of_ble_eq_true rfl) dX9_car_33 ⟨(Nat.zero_le _), (Nat.zero_le _)⟩) (fun r33 h => ?_)
  refine lv_if_ne (tgt := 46) hx hb dX9_car_36 (by decide) (fun hc => ?_) (fun hc => ?_)
  · have h := h.2 hc
    refine lv_aload_n hx hb dX9_car_46 rfl (lv_at hl 0 rfl) ?_
    refine gf S hE hP 0 rfl rfl inX9 (k := 0) (by decide) q181 rfl dX9_car_47 ?_
    refine gfN S hE hP 2 rfl rfl inX5 (k := 1) (by decide) nfX9_180 rfl dX9_car_50 ?_
    refine ro_i (roV S hE hT hS (c_X1_isFull h) lkX9_189 rfl ⟨(Nat.le_of_ble_eq_true rfl), (Nat.le_of_ble_eq_true rfl)⟩ (hP.sub [3] rfl) 0 rfl rfl hl.1 rfl (Nat.le_of_ble_eq_true rfl) dX9_car_53 ⟨(Nat.zero_le _), (Nat.zero_le _)⟩) (fun r53 h => ?_)
    refine lv_if_eq (tgt := 66) hx hb dX9_car_56 (by decide) (fun hc => ?_) (fun hc => ?_)
    · have h := h.1 hc
      refine lv_aload_n hx hb dX9_car_66 rfl (lv_at hl 0 rfl) ?_
      refine gf S hE hP 0 rfl rfl inX9 (k := 0) (by decide) q181 rfl dX9_car_67 ?_
      refine gfN S hE hP 2 rfl rfl inX5 (k := 1) (by decide) nfX9_180 rfl dX9_car_70 ?_
      refine lv_iload_n hx hb dX9_car_73 rfl (lv_at hl 1 rfl) ?_
      refine lv_iload_n hx hb dX9_car_74 rfl (lv_at hl 2 rfl) ?_
      refine lv_iload_n hx hb dX9_car_75 rfl (lv_at hl 3 rfl) ?_
      refine rw_i (rwV S hE hT hS hP hD hA (c_X1_add h) [3, 4, 5, 6] rfl (by decide) lkX9_190 rfl ⟨(Nat.le_of_ble_eq_true rfl), (Nat.le_of_ble_eq_true rfl)⟩ 3 rfl rfl hl.1 rfl (Nat.le_of_ble_eq_true rfl) dX9_car_76 ⟨(Nat.zero_le _), (Nat.zero_le _)⟩) hP hD hS hA [3, 4, 5, 6] rfl (by decide) (fun _ => rfl) (fun r76 u76 H locs h hP hD hS => ?_)
      obtain ⟨w76_0, w76_1, w76_2, w76_3⟩ := u76
      try dsimp only at h
      have hP : va_P D vwCl (wX9_car cI cJ cS a_o a_refused a_road a_road_cars a_road_cars_bases a_road_cars_shares a_road_cars_speeds z_kept z_ahead z_shelves z_cutting z_acting z_road_stretches z_road_tunes z_road_demands v_imaged v_lastFault f_refused v_road_drawSeed w76_0 w76_1 w76_2 w76_3) H := hP
      have hD : va_D A (wX9_car cI cJ cS a_o a_refused a_road a_road_cars a_road_cars_bases a_road_cars_shares a_road_cars_speeds z_kept z_ahead z_shelves z_cutting z_acting z_road_stretches z_road_tunes z_road_demands v_imaged v_lastFault f_refused v_road_drawSeed w76_0 w76_1 w76_2 w76_3) := hD
      exact W.iret hx hb hr (fun t ht _ => ⟨⟨_, (f_refused, w76_0, w76_1, w76_2, w76_3), rfl, h, hPt hP ht⟩, hS.F ht⟩) hS.2.2 dX9_car_79
    have h := h.2 hc
    refine lv_aload_n hx hb dX9_car_59 rfl (lv_at hl 0 rfl) ?_
    refine lv_bipush (v := (-7)) hx hb dX9_car_60 (by decide) ?_
    refine rw_i (rwV S hE hT hS hP hD hA (c_X9_refuse h) [0, 1] rfl (by decide) lkX9_59 rfl ⟨(Nat.le_of_ble_eq_true rfl), (Nat.le_of_ble_eq_true rfl)⟩ 0 rfl rfl hl.1 rfl (Nat.le_of_ble_eq_true rfl) dX9_car_62 ⟨(Nat.zero_le _), (Nat.zero_le _)⟩) hP hD hS hA [0, 1] rfl (by decide) (fun _ => rfl) (fun r62 w62_0 H locs h hP hD hS => ?_)
    try dsimp only at h
    have hP : va_P D vwCl (wX9_car cI cJ cS a_o a_refused a_road a_road_cars a_road_cars_bases a_road_cars_shares a_road_cars_speeds z_kept z_ahead z_shelves z_cutting z_acting z_road_stretches z_road_tunes z_road_demands v_imaged v_lastFault w62_0 v_road_drawSeed v_road_cars_carCount f_road_cars_bases f_road_cars_shares f_road_cars_speeds) H := hP
    have hD : va_D A (wX9_car cI cJ cS a_o a_refused a_road a_road_cars a_road_cars_bases a_road_cars_shares a_road_cars_speeds z_kept z_ahead z_shelves z_cutting z_acting z_road_stretches z_road_tunes z_road_demands v_imaged v_lastFault w62_0 v_road_drawSeed v_road_cars_carCount f_road_cars_bases f_road_cars_shares f_road_cars_speeds) := hD
    exact W.iret hx hb hr (fun t ht _ => ⟨⟨_, (w62_0, v_road_cars_carCount, f_road_cars_bases, f_road_cars_shares, f_road_cars_speeds), rfl, h, hPt hP ht⟩, hS.F ht⟩) hS.2.2 dX9_car_65
  have h := h.1 hc
  refine lv_aload_n hx hb dX9_car_39 rfl (lv_at hl 0 rfl) ?_
  refine lv_bipush (v := (-6)) hx hb dX9_car_40 (by decide) ?_
  refine rw_i (rwV S hE hT hS hP hD hA (c_X9_refuse h) [0, 1] rfl (by decide) lkX9_59 rfl ⟨(Nat.le_of_ble_eq_true rfl), (Nat.le_of_ble_eq_true rfl)⟩ 0 rfl rfl hl.1 rfl (Nat.le_of_ble_eq_true rfl) dX9_car_42 ⟨(Nat.zero_le _), (Nat.zero_le _)⟩) hP hD hS hA [0, 1] rfl (by decide) (fun _ => rfl) (fun r42 w42_0 H locs h hP hD hS => ?_)
  try dsimp only at h
  have hP : va_P D vwCl (wX9_car cI cJ cS a_o a_refused a_road a_road_cars a_road_cars_bases a_road_cars_shares a_road_cars_speeds z_kept z_ahead z_shelves z_cutting z_acting z_road_stretches z_road_tunes z_road_demands v_imaged v_lastFault w42_0 v_road_drawSeed v_road_cars_carCount f_road_cars_bases f_road_cars_shares f_road_cars_speeds) H := hP
  have hD : va_D A (wX9_car cI cJ cS a_o a_refused a_road a_road_cars a_road_cars_bases a_road_cars_shares a_road_cars_speeds z_kept z_ahead z_shelves z_cutting z_acting z_road_stretches z_road_tunes z_road_demands v_imaged v_lastFault w42_0 v_road_drawSeed v_road_cars_carCount f_road_cars_bases f_road_cars_shares f_road_cars_speeds) := hD
  exact W.iret hx hb hr (fun t ht _ => ⟨⟨_, (w42_0, v_road_cars_carCount, f_road_cars_bases, f_road_cars_shares, f_road_cars_speeds), rfl, h, hPt hP ht⟩, hS.F ht⟩) hS.2.2 dX9_car_45
/-! X9_carOf -/
abbrev wX9_carOf (cI cJ cS : ClassId) (a_o a_refused a_road a_road_cars a_road_cars_bases a_road_cars_shares a_road_cars_speeds : Nat) (z_kept z_ahead z_shelves z_cutting z_acting z_road_stretches z_road_tunes z_road_demands : Value) (v_imaged : Int32) (v_lastFault : Int32) (f_refused : Nat → Int32) (v_road_drawSeed : Int32) (v_road_cars_carCount : Int32) (f_road_cars_bases : Nat → Int32) (f_road_cars_shares : Nat → Int32) (f_road_cars_speeds : Nat → Int32) : va_W := [(a_o, .inr (8, [.ref a_road, z_kept, z_ahead, z_shelves, z_cutting, z_acting, .ref a_refused, .int v_imaged, .int v_lastFault])), (a_refused, .inl (cI, 8, .inl f_refused)), (a_road, .inr (4, [z_road_stretches, .ref a_road_cars, z_road_tunes, z_road_demands, .int v_road_drawSeed])), (a_road_cars, .inr (1, [.ref a_road_cars_speeds, .ref a_road_cars_bases, .ref a_road_cars_shares, .int v_road_cars_carCount])), (a_road_cars_bases, .inl (cI, 6, .inl f_road_cars_bases)), (a_road_cars_shares, .inl (cI, 6, .inl f_road_cars_shares)), (a_road_cars_speeds, .inl (cI, 6, .inl f_road_cars_speeds))]
def F_X9_carOf (f_refused : Nat → Int32) (v_road_cars_carCount : Int32) (f_road_cars_bases : Nat → Int32) (f_road_cars_shares : Nat → Int32) (f_road_cars_speeds : Nat → Int32) (x1 : Int32) (x2 : Int32) (post : Int32 → (Nat → Int32) → Prop) : Prop := (F_X1_has v_road_cars_carCount x1 (fun r8 => ((r8 = 0 → (F_X9_refuse f_refused (-5) (fun r17 w17_0 => post r17 w17_0))) ∧ (¬ r8 = 0 → ((x2 = 0 → (F_X1_speedOf v_road_cars_carCount f_road_cars_speeds x1 (fun r56 => post r56 f_refused))) ∧ (¬ x2 = 0 → ((x2 = 1 → (F_X1_baseOf v_road_cars_carCount f_road_cars_bases x1 (fun r68 => post r68 f_refused))) ∧ (¬ x2 = 1 → ((x2 = 2 → (F_X1_shareOf v_road_cars_carCount f_road_cars_shares x1 (fun r80 => post r80 f_refused))) ∧ (¬ x2 = 2 → (F_X9_refuse f_refused (-5) (fun r87 w87_0 => post r87 w87_0))))))))))))
set_option maxHeartbeats 4000000 in
set_option maxRecDepth 100000 in
theorem c_X9_carOf {l : Launch} {D : va_G} {cI cJ cS : ClassId} {ad adK : Nat → Nat} {a_o a_refused a_road a_road_cars a_road_cars_bases a_road_cars_shares a_road_cars_speeds : Nat} {z_kept z_ahead z_shelves z_cutting z_acting z_road_stretches z_road_tunes z_road_demands : Value} {v_imaged : Int32} {v_lastFault : Int32} {f_refused : Nat → Int32} {v_road_drawSeed : Int32} {v_road_cars_carCount : Int32} {f_road_cars_bases : Nat → Int32} {f_road_cars_shares : Nat → Int32} {f_road_cars_speeds : Nat → Int32} {x1 : Int32} {x2 : Int32} {post : Int32 → (Nat → Int32) → Prop} (h : F_X9_carOf f_refused v_road_cars_carCount f_road_cars_bases f_road_cars_shares f_road_cars_speeds x1 x2 post) {sz : Nat} : Met l yX9_carOf (Cond.code yX9_carOf cX9_carOf 3 (some (.int)) :: GW) (rmd 3 0 0) (PW D cI cJ cS ad adK [.ref a_o, .int x1, .int x2] (wX9_carOf cI cJ cS a_o a_refused a_road a_road_cars a_road_cars_bases a_road_cars_shares a_road_cars_speeds z_kept z_ahead z_shelves z_cutting z_acting z_road_stretches z_road_tunes z_road_demands v_imaged v_lastFault f_refused v_road_drawSeed v_road_cars_carCount f_road_cars_bases f_road_cars_shares f_road_cars_speeds) sz) (va_Qi (fun r (u : (Nat → Int32)) => post r u) (fun u t => va_P D vwCl (wX9_carOf cI cJ cS a_o a_refused a_road a_road_cars a_road_cars_bases a_road_cars_shares a_road_cars_speeds z_kept z_ahead z_shelves z_cutting z_acting z_road_stretches z_road_tunes z_road_demands v_imaged v_lastFault u v_road_drawSeed v_road_cars_carCount f_road_cars_bases f_road_cars_shares f_road_cars_speeds) t.heap) (va_A (wX9_carOf cI cJ cS a_o a_refused a_road a_road_cars a_road_cars_bases a_road_cars_shares a_road_cars_speeds z_kept z_ahead z_shelves z_cutting z_acting z_road_stretches z_road_tunes z_road_demands v_imaged v_lastFault f_refused v_road_drawSeed v_road_cars_carCount f_road_cars_bases f_road_cars_shares f_road_cars_speeds) sz)) 0 0 (va_A (wX9_carOf cI cJ cS a_o a_refused a_road a_road_cars a_road_cars_bases a_road_cars_shares a_road_cars_speeds z_kept z_ahead z_shelves z_cutting z_acting z_road_stretches z_road_tunes z_road_demands v_imaged v_lastFault f_refused v_road_drawSeed v_road_cars_carCount f_road_cars_bases f_road_cars_shares f_road_cars_speeds) sz) := by
  refine Met.rw (Qc := fun A => (va_Qi (fun r (u : (Nat → Int32)) => post r u) (fun u t => va_P D vwCl (wX9_carOf cI cJ cS a_o a_refused a_road a_road_cars a_road_cars_bases a_road_cars_shares a_road_cars_speeds z_kept z_ahead z_shelves z_cutting z_acting z_road_stretches z_road_tunes z_road_demands v_imaged v_lastFault u v_road_drawSeed v_road_cars_carCount f_road_cars_bases f_road_cars_shares f_road_cars_speeds) t.heap) A)) (by decide) (Nat.le_of_ble_eq_true rfl) (fun p e s m args below meth c ls A (S : CallFix p m c cX9_carOf 3 s args GW "RoadThatSings") hE hT hP hD hA hS hr hlocks hname hl => ?_)
  have hS0 := hS
  have hx := S.1
  have hb := S.2.1
  have hl : lv_has ls 3 [(0, .ref a_o), (1, .int x1), (2, .int x2)] := hl
  unfold F_X9_carOf at h
  refine lv_aload_n hx hb dX9_carOf_0 rfl (lv_at hl 0 rfl) ?_
  refine gf S hE hP 0 rfl rfl inX9 (k := 0) (by decide) q181 rfl dX9_carOf_1 ?_
  refine gfN S hE hP 2 rfl rfl inX5 (k := 1) (by decide) nfX9_180 rfl dX9_carOf_4 ?_
  refine lv_iload_n hx hb dX9_carOf_7 rfl (lv_at hl 1 rfl) ?_
  refine ro_i (roV S hE hT hS (c_X1_has h) lkX9_193 rfl ⟨(Nat.le_of_ble_eq_true rfl), (Nat.le_of_ble_eq_true rfl)⟩ (hP.sub [3] rfl) 0 rfl rfl hl.1 rfl (Nat.le_of_ble_eq_true rfl) dX9_carOf_8 ⟨(Nat.zero_le _), (Nat.zero_le _)⟩) (fun r8 h => ?_)
  refine lv_if_ne (tgt := 21) hx hb dX9_carOf_11 (by decide) (fun hc => ?_) (fun hc => ?_)
  · have h := h.2 hc
    refine lv_iload_n hx hb dX9_carOf_21 rfl (lv_at hl 2 rfl) ?_
    by_cases hk0 : x2 = 0
    · have h := h.1 hk0
      refine lv_tableIn (off := 26) (tgt := 48) hx hb dX9_carOf_22 (by rw [hk0]; decide) (by rw [hk0]; decide) (by rw [hk0]; rfl) (by decide) ?_
      refine lv_aload_n hx hb dX9_carOf_48 rfl (lv_at hl 0 rfl) ?_
      refine gf S hE hP 0 rfl rfl inX9 (k := 0) (by decide) q181 rfl dX9_carOf_49 ?_
      refine gfN S hE hP 2 rfl rfl inX5 (k := 1) (by decide) nfX9_180 rfl dX9_carOf_52 ?_
      refine lv_iload_n hx hb dX9_carOf_55 rfl (lv_at hl 1 rfl) ?_
      refine ro_i (roV S hE hT hS (c_X1_speedOf h) lkX9_194 rfl ⟨(Nat.le_of_ble_eq_true rfl), (Nat.le_of_ble_eq_true rfl)⟩ (hP.sub [3, 6] rfl) 0 rfl rfl hl.1 rfl (Nat.le_of_ble_eq_true rfl) dX9_carOf_56 ⟨(Nat.zero_le _), (Nat.zero_le _)⟩) (fun r56 h => ?_)
      exact W.iret hx hb hr (fun t ht _ => ⟨⟨_, f_refused, rfl, h, hPt hP ht⟩, hS.F ht⟩) hS.2.2 dX9_carOf_59
    have h := h.2 hk0
    by_cases hk1 : x2 = 1
    · have h := h.1 hk1
      refine lv_tableIn (off := 38) (tgt := 60) hx hb dX9_carOf_22 (by rw [hk1]; decide) (by rw [hk1]; decide) (by rw [hk1]; rfl) (by decide) ?_
      refine lv_aload_n hx hb dX9_carOf_60 rfl (lv_at hl 0 rfl) ?_
      refine gf S hE hP 0 rfl rfl inX9 (k := 0) (by decide) q181 rfl dX9_carOf_61 ?_
      refine gfN S hE hP 2 rfl rfl inX5 (k := 1) (by decide) nfX9_180 rfl dX9_carOf_64 ?_
      refine lv_iload_n hx hb dX9_carOf_67 rfl (lv_at hl 1 rfl) ?_
      refine ro_i (roV S hE hT hS (c_X1_baseOf h) lkX9_197 rfl ⟨(Nat.le_of_ble_eq_true rfl), (Nat.le_of_ble_eq_true rfl)⟩ (hP.sub [3, 4] rfl) 0 rfl rfl hl.1 rfl (Nat.le_of_ble_eq_true rfl) dX9_carOf_68 ⟨(Nat.zero_le _), (Nat.zero_le _)⟩) (fun r68 h => ?_)
      exact W.iret hx hb hr (fun t ht _ => ⟨⟨_, f_refused, rfl, h, hPt hP ht⟩, hS.F ht⟩) hS.2.2 dX9_carOf_71
    have h := h.2 hk1
    by_cases hk2 : x2 = 2
    · have h := h.1 hk2
      refine lv_tableIn (off := 50) (tgt := 72) hx hb dX9_carOf_22 (by rw [hk2]; decide) (by rw [hk2]; decide) (by rw [hk2]; rfl) (by decide) ?_
      refine lv_aload_n hx hb dX9_carOf_72 rfl (lv_at hl 0 rfl) ?_
      refine gf S hE hP 0 rfl rfl inX9 (k := 0) (by decide) q181 rfl dX9_carOf_73 ?_
      refine gfN S hE hP 2 rfl rfl inX5 (k := 1) (by decide) nfX9_180 rfl dX9_carOf_76 ?_
      refine lv_iload_n hx hb dX9_carOf_79 rfl (lv_at hl 1 rfl) ?_
      refine ro_i (roV S hE hT hS (c_X1_shareOf h) lkX9_200 rfl ⟨(Nat.le_of_ble_eq_true rfl), (Nat.le_of_ble_eq_true rfl)⟩ (hP.sub [3, 5] rfl) 0 rfl rfl hl.1 rfl (Nat.le_of_ble_eq_true rfl) dX9_carOf_80 ⟨(Nat.zero_le _), (Nat.zero_le _)⟩) (fun r80 h => ?_)
      exact W.iret hx hb hr (fun t ht _ => ⟨⟨_, f_refused, rfl, h, hPt hP ht⟩, hS.F ht⟩) hS.2.2 dX9_carOf_83
    have h := h.2 hk2
    refine lv_tableOut (tgt := 84) hx hb dX9_carOf_22 (sw_out (fun k h1 h2 => by
      rcases (show k = 0 ∨ k = 1 ∨ k = 2 by omega) with rfl | rfl | rfl
      · exact hk0
      · exact hk1
      · exact hk2)) (by decide) ?_
    refine lv_aload_n hx hb dX9_carOf_84 rfl (lv_at hl 0 rfl) ?_
    refine lv_bipush (v := (-5)) hx hb dX9_carOf_85 (by decide) ?_
    refine rw_i (rwV S hE hT hS hP hD hA (c_X9_refuse h) [0, 1] rfl (by decide) lkX9_59 rfl ⟨(Nat.le_of_ble_eq_true rfl), (Nat.le_of_ble_eq_true rfl)⟩ 0 rfl rfl hl.1 rfl (Nat.le_of_ble_eq_true rfl) dX9_carOf_87 ⟨(Nat.zero_le _), (Nat.zero_le _)⟩) hP hD hS hA [0, 1] rfl (by decide) (fun _ => rfl) (fun r87 w87_0 H locs h hP hD hS => ?_)
    try dsimp only at h
    have hP : va_P D vwCl (wX9_carOf cI cJ cS a_o a_refused a_road a_road_cars a_road_cars_bases a_road_cars_shares a_road_cars_speeds z_kept z_ahead z_shelves z_cutting z_acting z_road_stretches z_road_tunes z_road_demands v_imaged v_lastFault w87_0 v_road_drawSeed v_road_cars_carCount f_road_cars_bases f_road_cars_shares f_road_cars_speeds) H := hP
    have hD : va_D A (wX9_carOf cI cJ cS a_o a_refused a_road a_road_cars a_road_cars_bases a_road_cars_shares a_road_cars_speeds z_kept z_ahead z_shelves z_cutting z_acting z_road_stretches z_road_tunes z_road_demands v_imaged v_lastFault w87_0 v_road_drawSeed v_road_cars_carCount f_road_cars_bases f_road_cars_shares f_road_cars_speeds) := hD
    exact W.iret hx hb hr (fun t ht _ => ⟨⟨_, w87_0, rfl, h, hPt hP ht⟩, hS.F ht⟩) hS.2.2 dX9_carOf_90
  have h := h.1 hc
  refine lv_aload_n hx hb dX9_carOf_14 rfl (lv_at hl 0 rfl) ?_
  refine lv_bipush (v := (-5)) hx hb dX9_carOf_15 (by decide) ?_
  refine rw_i (rwV S hE hT hS hP hD hA (c_X9_refuse h) [0, 1] rfl (by decide) lkX9_59 rfl ⟨(Nat.le_of_ble_eq_true rfl), (Nat.le_of_ble_eq_true rfl)⟩ 0 rfl rfl hl.1 rfl (Nat.le_of_ble_eq_true rfl) dX9_carOf_17 ⟨(Nat.zero_le _), (Nat.zero_le _)⟩) hP hD hS hA [0, 1] rfl (by decide) (fun _ => rfl) (fun r17 w17_0 H locs h hP hD hS => ?_)
  try dsimp only at h
  have hP : va_P D vwCl (wX9_carOf cI cJ cS a_o a_refused a_road a_road_cars a_road_cars_bases a_road_cars_shares a_road_cars_speeds z_kept z_ahead z_shelves z_cutting z_acting z_road_stretches z_road_tunes z_road_demands v_imaged v_lastFault w17_0 v_road_drawSeed v_road_cars_carCount f_road_cars_bases f_road_cars_shares f_road_cars_speeds) H := hP
  have hD : va_D A (wX9_carOf cI cJ cS a_o a_refused a_road a_road_cars a_road_cars_bases a_road_cars_shares a_road_cars_speeds z_kept z_ahead z_shelves z_cutting z_acting z_road_stretches z_road_tunes z_road_demands v_imaged v_lastFault w17_0 v_road_drawSeed v_road_cars_carCount f_road_cars_bases f_road_cars_shares f_road_cars_speeds) := hD
  exact W.iret hx hb hr (fun t ht _ => ⟨⟨_, w17_0, rfl, h, hPt hP ht⟩, hS.F ht⟩) hS.2.2 dX9_carOf_20
/-! X9_areNotes -/
abbrev wX9_areNotes (cI cJ cS : ClassId) (a_p0 a_p0_elements : Nat) (v_p0_held : Int32) (v_p0_sort : Int32) (v_p0_elementCount : Int32) (v_p0_stretchNumber : Int32) (g_p0_elements : Nat → Int64) : va_W := [(a_p0, .inr (5, [.ref a_p0_elements, .int v_p0_held, .int v_p0_sort, .int v_p0_elementCount, .int v_p0_stretchNumber])), (a_p0_elements, .inl (cJ, 160, .inr (.inl g_p0_elements)))]
def L_X9_areNotes_2 (v_p0_elementCount : Int32) (g_p0_elements : Nat → Int64) (x1 : Int32) (post : Int32 → Prop) : Nat → Int32 → Prop
  | 0, _ => False
  | n2 + 1, x2 => ((x1 ≤ x2 → post 1) ∧ (¬ x1 ≤ x2 → (F_X6_intAt v_p0_elementCount g_p0_elements (2 * x2) (fun r11 => (F_X9_within r11 0 9999 (fun r18 => ((r18 = 0 → post 0) ∧ (¬ r18 = 0 → (F_X6_intAt v_p0_elementCount g_p0_elements ((2 * x2) + 1) (fun r30 => (F_X9_within r30 1 16 (fun r36 => ((r36 = 0 → post 0) ∧ (¬ r36 = 0 → (∀ x2_44 : Int32, x2_44 = x2 + 1 → L_X9_areNotes_2 v_p0_elementCount g_p0_elements x1 post n2 x2_44)))))))))))))))
def F_X9_areNotes (v_p0_elementCount : Int32) (g_p0_elements : Nat → Int64) (x1 : Int32) (post : Int32 → Prop) : Prop := (∃ n2 : Nat, L_X9_areNotes_2 v_p0_elementCount g_p0_elements x1 post n2 0)
set_option maxHeartbeats 4000000 in
set_option maxRecDepth 100000 in
theorem w_X9_areNotes_2 {l : Launch} {D : va_G} {cI cJ cS : ClassId} {ad adK : Nat → Nat} {a_p0 a_p0_elements : Nat} {v_p0_held : Int32} {v_p0_sort : Int32} {v_p0_elementCount : Int32} {v_p0_stretchNumber : Int32} {g_p0_elements : Nat → Int64} {x1 : Int32} {post : Int32 → Prop} {p : Program} {e : Env} {s : State} {m : MethodId} {args : Array Value} {below : List Frame} {meth : Method} {c : Code} (S : CallFix p m c cX9_areNotes 3 s args GW "RoadThatSings") (hE : EN D cI cJ cS s) (hT : ST ad adK nof s s.heap) (hP : va_P D vwCl (wX9_areNotes cI cJ cS a_p0 a_p0_elements v_p0_held v_p0_sort v_p0_elementCount v_p0_stretchNumber g_p0_elements) s.heap) (hS : va_S nof s.heap s.heap []) (hr : meth.sig.returnType = (some (.boolean))) (hlocks : meth.locks = false) : ∀ n : Nat, ∀ (x2 : Int32) (ls : Array Slot), L_X9_areNotes_2 v_p0_elementCount g_p0_elements x1 post n x2 → lv_has ls 3 [(0, .ref a_p0), (1, .int x1), (2, .int x2)] → W p l e (rmd 2 0 0) s m args below meth c s.heap [] 0 0 (MQ below (vp_Si post) args s 0 0 nof) (F0 m 2 ls []) := by
  intro n
  induction n with
  | zero =>
    intro x2 ls h hl
    exact h.elim
  | succ n ih =>
    intro x2 ls h hl
    rw [L_X9_areNotes_2] at h
    have hx := S.1
    have hb := S.2.1
    refine lv_iload_n hx hb dX9_areNotes_2 rfl (lv_at hl 2 rfl) ?_
    refine lv_iload_n hx hb dX9_areNotes_3 rfl (lv_at hl 1 rfl) ?_
    refine lv_icmp_ge (tgt := 50) hx hb dX9_areNotes_4 (by decide) (fun hc => ?_) (fun hc => ?_)
    · have h := h.1 hc
      refine lv_iconst (v := 1) hx hb dX9_areNotes_50 (by decide) ?_
      exact W.zret hx hb hr rfl (fun t ht _ => ⟨_, rfl, h, ht⟩) (fun _ hq => by cases hq) dX9_areNotes_51
    have h := h.2 hc
    refine lv_aload_n hx hb dX9_areNotes_7 rfl (lv_at hl 0 rfl) ?_
    refine lv_iconst (v := 2) hx hb dX9_areNotes_8 (by decide) ?_
    refine lv_iload_n hx hb dX9_areNotes_9 rfl (lv_at hl 2 rfl) ?_
    refine lv_imul hx hb dX9_areNotes_10 ?_
    refine ro_i (roV S hE hT hS (c_X6_intAt h) lkX9_153 rfl ⟨(Nat.le_of_ble_eq_true rfl), (Nat.le_of_ble_eq_true rfl)⟩ (hP.sub [0, 1] rfl) 0 rfl rfl hl.1 rfl (Nat.le_of_ble_eq_true rfl) dX9_areNotes_11 ⟨(Nat.zero_le _), (Nat.zero_le _)⟩) (fun r11 h => ?_)
    refine lv_iconst (v := 0) hx hb dX9_areNotes_14 (by decide) ?_
    refine lv_sipush (v := 9999) hx hb dX9_areNotes_15 (by decide) ?_
    refine ro_i (roS S hE hT hS (c_X9_within h) lkX9_63 rfl ⟨(Nat.le_of_ble_eq_true rfl), (Nat.le_of_ble_eq_true rfl)⟩ (hP.sub [] rfl) hl.1 rfl (Nat.le_of_ble_eq_true rfl) dX9_areNotes_18 ⟨(Nat.zero_le _), (Nat.zero_le _)⟩) (fun r18 h => ?_)
    refine lv_if_eq (tgt := 42) hx hb dX9_areNotes_21 (by decide) (fun hc => ?_) (fun hc => ?_)
    · have h := h.1 hc
      refine lv_iconst (v := 0) hx hb dX9_areNotes_42 (by decide) ?_
      exact W.zret hx hb hr rfl (fun t ht _ => ⟨_, rfl, h, ht⟩) (fun _ hq => by cases hq) dX9_areNotes_43
    have h := h.2 hc
    refine lv_aload_n hx hb dX9_areNotes_24 rfl (lv_at hl 0 rfl) ?_
    refine lv_iconst (v := 2) hx hb dX9_areNotes_25 (by decide) ?_
    refine lv_iload_n hx hb dX9_areNotes_26 rfl (lv_at hl 2 rfl) ?_
    refine lv_imul hx hb dX9_areNotes_27 ?_
    refine lv_iconst (v := 1) hx hb dX9_areNotes_28 (by decide) ?_
    refine lv_iadd hx hb dX9_areNotes_29 ?_
    refine ro_i (roV S hE hT hS (c_X6_intAt h) lkX9_153 rfl ⟨(Nat.le_of_ble_eq_true rfl), (Nat.le_of_ble_eq_true rfl)⟩ (hP.sub [0, 1] rfl) 0 rfl rfl hl.1 rfl (Nat.le_of_ble_eq_true rfl) dX9_areNotes_30 ⟨(Nat.zero_le _), (Nat.zero_le _)⟩) (fun r30 h => ?_)
    refine lv_iconst (v := 1) hx hb dX9_areNotes_33 (by decide) ?_
    refine lv_bipush (v := 16) hx hb dX9_areNotes_34 (by decide) ?_
    refine ro_i (roS S hE hT hS (c_X9_within h) lkX9_63 rfl ⟨(Nat.le_of_ble_eq_true rfl), (Nat.le_of_ble_eq_true rfl)⟩ (hP.sub [] rfl) hl.1 rfl (Nat.le_of_ble_eq_true rfl) dX9_areNotes_36 ⟨(Nat.zero_le _), (Nat.zero_le _)⟩) (fun r36 h => ?_)
    refine lv_if_ne (tgt := 44) hx hb dX9_areNotes_39 (by decide) (fun hc => ?_) (fun hc => ?_)
    · have h := h.2 hc
      obtain ⟨x2_44, ex2_44⟩ : ∃ z : Int32, z = x2 + 1 := ⟨_, rfl⟩
      have h := h _ ex2_44
      refine lv_iinc (v := x2_44) (lv' := [(2, .int x2_44), (0, .ref a_p0), (1, .int x1)]) hx hb dX9_areNotes_44 hl (k := 2) rfl (by rw [ex2_44]; rfl) (by decide) rfl (fun ls hl => ?_)
      refine lv_goto (tgt := 2) hx hb dX9_areNotes_47 (by decide) ?_
      exact ih _ _ h (lv_sub hl [1, 2, 0] rfl)
    have h := h.1 hc
    refine lv_iconst (v := 0) hx hb dX9_areNotes_42 (by decide) ?_
    exact W.zret hx hb hr rfl (fun t ht _ => ⟨_, rfl, h, ht⟩) (fun _ hq => by cases hq) dX9_areNotes_43
set_option maxHeartbeats 4000000 in
set_option maxRecDepth 100000 in
theorem c_X9_areNotes {l : Launch} {D : va_G} {cI cJ cS : ClassId} {ad adK : Nat → Nat} {a_p0 a_p0_elements : Nat} {v_p0_held : Int32} {v_p0_sort : Int32} {v_p0_elementCount : Int32} {v_p0_stretchNumber : Int32} {g_p0_elements : Nat → Int64} {x1 : Int32} {post : Int32 → Prop} (h : F_X9_areNotes v_p0_elementCount g_p0_elements x1 post) : Met l yX9_areNotes (Cond.code yX9_areNotes cX9_areNotes 3 (some (.boolean)) :: GW) (rmd 2 0 0) (PR D cI cJ cS ad adK [.ref a_p0, .int x1] (wX9_areNotes cI cJ cS a_p0 a_p0_elements v_p0_held v_p0_sort v_p0_elementCount v_p0_stretchNumber g_p0_elements)) (vp_Si post) 0 0 nof := by
  refine Met.ro (by decide) (Nat.le_of_ble_eq_true rfl) (fun p e s m args below meth c ls (S : CallFix p m c cX9_areNotes 3 s args GW "RoadThatSings") hE hT hP hS hr hlocks hl => ?_)
  have hx := S.1
  have hb := S.2.1
  have hl : lv_has ls 3 [(0, .ref a_p0), (1, .int x1)] := hl
  unfold F_X9_areNotes at h
  refine lv_iconst (v := 0) hx hb dX9_areNotes_0 (by decide) ?_
  refine lv_istore_n (lv' := [(2, .int 0), (0, .ref a_p0), (1, .int x1)]) hx hb dX9_areNotes_1 rfl hl (by decide) rfl (fun ls hl => ?_)
  obtain ⟨n, h⟩ := h
  refine w_X9_areNotes_2 S hE hT hP hS hr hlocks n _ _ h (lv_sub hl [1, 2, 0] rfl)
/-! X9_noteOf -/
abbrev wX9_noteOf (cI cJ cS : ClassId) (a_o a_refused a_road a_road_tunes a_road_tunes_beats a_road_tunes_noteCounts a_road_tunes_pitches : Nat) (z_kept z_ahead z_shelves z_cutting z_acting z_road_stretches z_road_cars z_road_demands : Value) (v_imaged : Int32) (v_lastFault : Int32) (f_refused : Nat → Int32) (v_road_drawSeed : Int32) (v_road_tunes_tuneCount : Int32) (f_road_tunes_beats : Nat → Int32) (f_road_tunes_noteCounts : Nat → Int32) (f_road_tunes_pitches : Nat → Int32) : va_W := [(a_o, .inr (8, [.ref a_road, z_kept, z_ahead, z_shelves, z_cutting, z_acting, .ref a_refused, .int v_imaged, .int v_lastFault])), (a_refused, .inl (cI, 8, .inl f_refused)), (a_road, .inr (4, [z_road_stretches, z_road_cars, .ref a_road_tunes, z_road_demands, .int v_road_drawSeed])), (a_road_tunes, .inr (7, [.ref a_road_tunes_pitches, .ref a_road_tunes_beats, .ref a_road_tunes_noteCounts, .int v_road_tunes_tuneCount])), (a_road_tunes_beats, .inl (cI, 72, .inl f_road_tunes_beats)), (a_road_tunes_noteCounts, .inl (cI, 6, .inl f_road_tunes_noteCounts)), (a_road_tunes_pitches, .inl (cI, 72, .inl f_road_tunes_pitches))]
def F_X9_noteOf_61 (v_road_tunes_tuneCount : Int32) (f_road_tunes_beats : Nat → Int32) (f_road_tunes_noteCounts : Nat → Int32) (f_road_tunes_pitches : Nat → Int32) (post : Int32 → (Nat → Int32) → Prop) (x1 : Int32) (x2 : Int32) (x3 : Int32) (x5 : Int32) (f_refused : Nat → Int32) : Prop := ((x5 = 0 → ((x3 = 0 → (F_X8_pitchOf v_road_tunes_tuneCount f_road_tunes_noteCounts f_road_tunes_pitches x1 x2 (fun r100 => post r100 f_refused))) ∧ (¬ x3 = 0 → (F_X8_beatsOf v_road_tunes_tuneCount f_road_tunes_beats f_road_tunes_noteCounts x1 x2 (fun r110 => post r110 f_refused))))) ∧ (¬ x5 = 0 → ((x3 = 0 → (F_X8_notesOf v_road_tunes_tuneCount f_road_tunes_noteCounts x1 (fun r73 => post r73 f_refused))) ∧ (¬ x3 = 0 → (F_X8_notesOf v_road_tunes_tuneCount f_road_tunes_noteCounts x1 (fun r85 => (F_X8_beatsAhead v_road_tunes_tuneCount f_road_tunes_beats f_road_tunes_noteCounts x1 r85 (fun r88 => post r88 f_refused))))))))
def F_X9_noteOf_28 (v_road_tunes_tuneCount : Int32) (f_road_tunes_beats : Nat → Int32) (f_road_tunes_noteCounts : Nat → Int32) (f_road_tunes_pitches : Nat → Int32) (post : Int32 → (Nat → Int32) → Prop) (x1 : Int32) (x2 : Int32) (x3 : Int32) (f_refused : Nat → Int32) (s0 : Int32) : Prop := (F_X9_within x3 0 1 (fun r33 => ((r33 = 0 → (F_X9_refuse f_refused (-5) (fun r57 w57_0 => post r57 w57_0))) ∧ (¬ r33 = 0 → ((s0 = 0 → (F_X8_hasNote v_road_tunes_tuneCount f_road_tunes_noteCounts x1 x2 (fun r48 => ((r48 = 0 → (F_X9_refuse f_refused (-5) (fun r57 w57_0 => post r57 w57_0))) ∧ (¬ r48 = 0 → F_X9_noteOf_61 v_road_tunes_tuneCount f_road_tunes_beats f_road_tunes_noteCounts f_road_tunes_pitches post x1 x2 x3 s0 f_refused))))) ∧ (¬ s0 = 0 → F_X9_noteOf_61 v_road_tunes_tuneCount f_road_tunes_beats f_road_tunes_noteCounts f_road_tunes_pitches post x1 x2 x3 s0 f_refused))))))
def F_X9_noteOf_27 (v_road_tunes_tuneCount : Int32) (f_road_tunes_beats : Nat → Int32) (f_road_tunes_noteCounts : Nat → Int32) (f_road_tunes_pitches : Nat → Int32) (post : Int32 → (Nat → Int32) → Prop) (x1 : Int32) (x2 : Int32) (x3 : Int32) (f_refused : Nat → Int32) : Prop := F_X9_noteOf_28 v_road_tunes_tuneCount f_road_tunes_beats f_road_tunes_noteCounts f_road_tunes_pitches post x1 x2 x3 f_refused 0
def F_X9_noteOf (f_refused : Nat → Int32) (v_road_tunes_tuneCount : Int32) (f_road_tunes_beats : Nat → Int32) (f_road_tunes_noteCounts : Nat → Int32) (f_road_tunes_pitches : Nat → Int32) (x1 : Int32) (x2 : Int32) (x3 : Int32) (post : Int32 → (Nat → Int32) → Prop) : Prop := (F_X8_has v_road_tunes_tuneCount x1 (fun r12 => ((r12 = 0 → F_X9_noteOf_27 v_road_tunes_tuneCount f_road_tunes_beats f_road_tunes_noteCounts f_road_tunes_pitches post x1 x2 x3 f_refused) ∧ (¬ r12 = 0 → ((x2 = (-1) → F_X9_noteOf_28 v_road_tunes_tuneCount f_road_tunes_beats f_road_tunes_noteCounts f_road_tunes_pitches post x1 x2 x3 f_refused 1) ∧ (¬ x2 = (-1) → F_X9_noteOf_27 v_road_tunes_tuneCount f_road_tunes_beats f_road_tunes_noteCounts f_road_tunes_pitches post x1 x2 x3 f_refused))))))
set_option maxHeartbeats 4000000 in
set_option maxRecDepth 100000 in
theorem w_X9_noteOf_61 {l : Launch} {D : va_G} {cI cJ cS : ClassId} {ad adK : Nat → Nat} {a_o a_refused a_road a_road_tunes a_road_tunes_beats a_road_tunes_noteCounts a_road_tunes_pitches : Nat} {z_kept z_ahead z_shelves z_cutting z_acting z_road_stretches z_road_cars z_road_demands : Value} {v_imaged : Int32} {v_lastFault : Int32} {f_refused : Nat → Int32} {v_road_drawSeed : Int32} {v_road_tunes_tuneCount : Int32} {f_road_tunes_beats : Nat → Int32} {f_road_tunes_noteCounts : Nat → Int32} {f_road_tunes_pitches : Nat → Int32} {x1 : Int32} {x2 : Int32} {x3 : Int32} {x5 : Int32} {post : Int32 → (Nat → Int32) → Prop} {p : Program} {e : Env} {s : State} {m : MethodId} {args : Array Value} {below : List Frame} {meth : Method} {c : Code} {A : Nat → Prop} (S : CallFix p m c cX9_noteOf 6 s args GW "RoadThatSings") (hE : EN D cI cJ cS s) (hT : ST ad adK A s s.heap) (hA : ∀ q : Nat, s.heap.size ≤ q → A q) (hr : meth.sig.returnType = (some (.int))) (hlocks : meth.locks = false) : ∀ (H : Heap) (locs : List Loc) (ls : Array Slot), F_X9_noteOf_61 v_road_tunes_tuneCount f_road_tunes_beats f_road_tunes_noteCounts f_road_tunes_pitches post x1 x2 x3 x5 f_refused → va_P D vwCl (wX9_noteOf cI cJ cS a_o a_refused a_road a_road_tunes a_road_tunes_beats a_road_tunes_noteCounts a_road_tunes_pitches z_kept z_ahead z_shelves z_cutting z_acting z_road_stretches z_road_cars z_road_demands v_imaged v_lastFault f_refused v_road_drawSeed v_road_tunes_tuneCount f_road_tunes_beats f_road_tunes_noteCounts f_road_tunes_pitches) H → va_D A (wX9_noteOf cI cJ cS a_o a_refused a_road a_road_tunes a_road_tunes_beats a_road_tunes_noteCounts a_road_tunes_pitches z_kept z_ahead z_shelves z_cutting z_acting z_road_stretches z_road_cars z_road_demands v_imaged v_lastFault f_refused v_road_drawSeed v_road_tunes_tuneCount f_road_tunes_beats f_road_tunes_noteCounts f_road_tunes_pitches) → va_S A s.heap H locs → lv_has ls 6 [(1, .int x1), (2, .int x2), (3, .int x3), (4, .ref a_road_tunes), (5, .int x5)] → W p l e (rmd 4 0 0) s m args below meth c H locs 0 0 (MQ below (va_Qi (fun r (u : (Nat → Int32)) => post r u) (fun u t => va_P D vwCl (wX9_noteOf cI cJ cS a_o a_refused a_road a_road_tunes a_road_tunes_beats a_road_tunes_noteCounts a_road_tunes_pitches z_kept z_ahead z_shelves z_cutting z_acting z_road_stretches z_road_cars z_road_demands v_imaged v_lastFault u v_road_drawSeed v_road_tunes_tuneCount f_road_tunes_beats f_road_tunes_noteCounts f_road_tunes_pitches) t.heap) A) args s 0 0 A) (F0 m 61 ls []) := by
  intro  H locs ls h hP hD hS hl
  unfold F_X9_noteOf_61 at h
  have hx := S.1
  have hb := S.2.1
  refine lv_iload hx hb dX9_noteOf_61 (lv_at hl 4 rfl) ?_
  refine lv_if_eq (tgt := 92) hx hb dX9_noteOf_63 (by decide) (fun hc => ?_) (fun hc => ?_)
  · have h := h.1 hc
    refine lv_iload_n hx hb dX9_noteOf_92 rfl (lv_at hl 2 rfl) ?_
    refine lv_if_ne (tgt := 106) hx hb dX9_noteOf_93 (by decide) (fun hc => ?_) (fun hc => ?_)
    · have h := h.2 hc
      refine lv_aload hx hb dX9_noteOf_106 (lv_at hl 3 rfl) ?_
      refine lv_iload_n hx hb dX9_noteOf_108 rfl (lv_at hl 0 rfl) ?_
      refine lv_iload_n hx hb dX9_noteOf_109 rfl (lv_at hl 1 rfl) ?_
      refine ro_i (roV S hE hT hS (c_X8_beatsOf h) lkX9_235 rfl ⟨(Nat.le_of_ble_eq_true rfl), (Nat.le_of_ble_eq_true rfl)⟩ (hP.sub [3, 4, 5] rfl) 0 rfl rfl hl.1 rfl (Nat.le_of_ble_eq_true rfl) dX9_noteOf_110 ⟨(Nat.zero_le _), (Nat.zero_le _)⟩) (fun r110 h => ?_)
      exact W.iret hx hb hr (fun t ht _ => ⟨⟨_, f_refused, rfl, h, hPt hP ht⟩, hS.F ht⟩) hS.2.2 dX9_noteOf_113
    have h := h.1 hc
    refine lv_aload hx hb dX9_noteOf_96 (lv_at hl 3 rfl) ?_
    refine lv_iload_n hx hb dX9_noteOf_98 rfl (lv_at hl 0 rfl) ?_
    refine lv_iload_n hx hb dX9_noteOf_99 rfl (lv_at hl 1 rfl) ?_
    refine ro_i (roV S hE hT hS (c_X8_pitchOf h) lkX9_232 rfl ⟨(Nat.le_of_ble_eq_true rfl), (Nat.le_of_ble_eq_true rfl)⟩ (hP.sub [3, 5, 6] rfl) 0 rfl rfl hl.1 rfl (Nat.le_of_ble_eq_true rfl) dX9_noteOf_100 ⟨(Nat.zero_le _), (Nat.zero_le _)⟩) (fun r100 h => ?_)
    refine lv_goto (tgt := 113) hx hb dX9_noteOf_103 (by decide) ?_
    exact W.iret hx hb hr (fun t ht _ => ⟨⟨_, f_refused, rfl, h, hPt hP ht⟩, hS.F ht⟩) hS.2.2 dX9_noteOf_113
  have h := h.2 hc
  refine lv_iload_n hx hb dX9_noteOf_66 rfl (lv_at hl 2 rfl) ?_
  refine lv_if_ne (tgt := 79) hx hb dX9_noteOf_67 (by decide) (fun hc => ?_) (fun hc => ?_)
  · have h := h.2 hc
    refine lv_aload hx hb dX9_noteOf_79 (lv_at hl 3 rfl) ?_
    refine lv_iload_n hx hb dX9_noteOf_81 rfl (lv_at hl 0 rfl) ?_
    refine lv_aload hx hb dX9_noteOf_82 (lv_at hl 3 rfl) ?_
    refine lv_iload_n hx hb dX9_noteOf_84 rfl (lv_at hl 0 rfl) ?_
    refine ro_i (roV S hE hT hS (c_X8_notesOf h) lkX9_226 rfl ⟨(Nat.le_of_ble_eq_true rfl), (Nat.le_of_ble_eq_true rfl)⟩ (hP.sub [3, 5] rfl) 0 rfl rfl hl.1 rfl (Nat.le_of_ble_eq_true rfl) dX9_noteOf_85 ⟨(Nat.zero_le _), (Nat.zero_le _)⟩) (fun r85 h => ?_)
    refine ro_i (roV S hE hT hS (c_X8_beatsAhead h) lkX9_229 rfl ⟨(Nat.le_of_ble_eq_true rfl), (Nat.le_of_ble_eq_true rfl)⟩ (hP.sub [3, 4, 5] rfl) 0 rfl rfl hl.1 rfl (Nat.le_of_ble_eq_true rfl) dX9_noteOf_88 ⟨(Nat.zero_le _), (Nat.zero_le _)⟩) (fun r88 h => ?_)
    exact W.iret hx hb hr (fun t ht _ => ⟨⟨_, f_refused, rfl, h, hPt hP ht⟩, hS.F ht⟩) hS.2.2 dX9_noteOf_91
  have h := h.1 hc
  refine lv_aload hx hb dX9_noteOf_70 (lv_at hl 3 rfl) ?_
  refine lv_iload_n hx hb dX9_noteOf_72 rfl (lv_at hl 0 rfl) ?_
  refine ro_i (roV S hE hT hS (c_X8_notesOf h) lkX9_226 rfl ⟨(Nat.le_of_ble_eq_true rfl), (Nat.le_of_ble_eq_true rfl)⟩ (hP.sub [3, 5] rfl) 0 rfl rfl hl.1 rfl (Nat.le_of_ble_eq_true rfl) dX9_noteOf_73 ⟨(Nat.zero_le _), (Nat.zero_le _)⟩) (fun r73 h => ?_)
  refine lv_goto (tgt := 91) hx hb dX9_noteOf_76 (by decide) ?_
  exact W.iret hx hb hr (fun t ht _ => ⟨⟨_, f_refused, rfl, h, hPt hP ht⟩, hS.F ht⟩) hS.2.2 dX9_noteOf_91
set_option maxHeartbeats 4000000 in
set_option maxRecDepth 100000 in
theorem w_X9_noteOf_28 {l : Launch} {D : va_G} {cI cJ cS : ClassId} {ad adK : Nat → Nat} {a_o a_refused a_road a_road_tunes a_road_tunes_beats a_road_tunes_noteCounts a_road_tunes_pitches : Nat} {z_kept z_ahead z_shelves z_cutting z_acting z_road_stretches z_road_cars z_road_demands : Value} {v_imaged : Int32} {v_lastFault : Int32} {f_refused : Nat → Int32} {v_road_drawSeed : Int32} {v_road_tunes_tuneCount : Int32} {f_road_tunes_beats : Nat → Int32} {f_road_tunes_noteCounts : Nat → Int32} {f_road_tunes_pitches : Nat → Int32} {x1 : Int32} {x2 : Int32} {x3 : Int32} {s0 : Int32} {post : Int32 → (Nat → Int32) → Prop} {p : Program} {e : Env} {s : State} {m : MethodId} {args : Array Value} {below : List Frame} {meth : Method} {c : Code} {A : Nat → Prop} (S : CallFix p m c cX9_noteOf 6 s args GW "RoadThatSings") (hE : EN D cI cJ cS s) (hT : ST ad adK A s s.heap) (hA : ∀ q : Nat, s.heap.size ≤ q → A q) (hr : meth.sig.returnType = (some (.int))) (hlocks : meth.locks = false) : ∀ (H : Heap) (locs : List Loc) (ls : Array Slot), F_X9_noteOf_28 v_road_tunes_tuneCount f_road_tunes_beats f_road_tunes_noteCounts f_road_tunes_pitches post x1 x2 x3 f_refused s0 → va_P D vwCl (wX9_noteOf cI cJ cS a_o a_refused a_road a_road_tunes a_road_tunes_beats a_road_tunes_noteCounts a_road_tunes_pitches z_kept z_ahead z_shelves z_cutting z_acting z_road_stretches z_road_cars z_road_demands v_imaged v_lastFault f_refused v_road_drawSeed v_road_tunes_tuneCount f_road_tunes_beats f_road_tunes_noteCounts f_road_tunes_pitches) H → va_D A (wX9_noteOf cI cJ cS a_o a_refused a_road a_road_tunes a_road_tunes_beats a_road_tunes_noteCounts a_road_tunes_pitches z_kept z_ahead z_shelves z_cutting z_acting z_road_stretches z_road_cars z_road_demands v_imaged v_lastFault f_refused v_road_drawSeed v_road_tunes_tuneCount f_road_tunes_beats f_road_tunes_noteCounts f_road_tunes_pitches) → va_S A s.heap H locs → lv_has ls 6 [(0, .ref a_o), (1, .int x1), (2, .int x2), (3, .int x3), (4, .ref a_road_tunes)] → W p l e (rmd 4 0 0) s m args below meth c H locs 0 0 (MQ below (va_Qi (fun r (u : (Nat → Int32)) => post r u) (fun u t => va_P D vwCl (wX9_noteOf cI cJ cS a_o a_refused a_road a_road_tunes a_road_tunes_beats a_road_tunes_noteCounts a_road_tunes_pitches z_kept z_ahead z_shelves z_cutting z_acting z_road_stretches z_road_cars z_road_demands v_imaged v_lastFault u v_road_drawSeed v_road_tunes_tuneCount f_road_tunes_beats f_road_tunes_noteCounts f_road_tunes_pitches) t.heap) A) args s 0 0 A) (F0 m 28 ls [.int s0]) := by
  intro  H locs ls h hP hD hS hl
  unfold F_X9_noteOf_28 at h
  have hx := S.1
  have hb := S.2.1
  refine lv_istore (lv' := [(5, .int s0), (0, .ref a_o), (1, .int x1), (2, .int x2), (3, .int x3), (4, .ref a_road_tunes)]) hx hb dX9_noteOf_28 hl (by decide) rfl (fun ls hl => ?_)
  refine lv_iload_n hx hb dX9_noteOf_30 rfl (lv_at hl 4 rfl) ?_
  refine lv_iconst (v := 0) hx hb dX9_noteOf_31 (by decide) ?_
  refine lv_iconst (v := 1) hx hb dX9_noteOf_32 (by decide) ?_
  refine ro_i (roS S hE hT hS (c_X9_within h) lkX9_63 rfl ⟨(Nat.le_of_ble_eq_true rfl), (Nat.le_of_ble_eq_true rfl)⟩ (hP.sub [] rfl) hl.1 rfl (Nat.le_of_ble_eq_true rfl) dX9_noteOf_33 ⟨(Nat.zero_le _), (Nat.zero_le _)⟩) (fun r33 h => ?_)
  refine lv_if_eq (tgt := 54) hx hb dX9_noteOf_36 (by decide) (fun hc => ?_) (fun hc => ?_)
  · have h := h.1 hc
    refine lv_aload_n hx hb dX9_noteOf_54 rfl (lv_at hl 1 rfl) ?_
    refine lv_bipush (v := (-5)) hx hb dX9_noteOf_55 (by decide) ?_
    refine rw_i (rwV S hE hT hS hP hD hA (c_X9_refuse h) [0, 1] rfl (by decide) lkX9_59 rfl ⟨(Nat.le_of_ble_eq_true rfl), (Nat.le_of_ble_eq_true rfl)⟩ 0 rfl rfl hl.1 rfl (Nat.le_of_ble_eq_true rfl) dX9_noteOf_57 ⟨(Nat.zero_le _), (Nat.zero_le _)⟩) hP hD hS hA [0, 1] rfl (by decide) (fun _ => rfl) (fun r57 w57_0 H locs h hP hD hS => ?_)
    try dsimp only at h
    have hP : va_P D vwCl (wX9_noteOf cI cJ cS a_o a_refused a_road a_road_tunes a_road_tunes_beats a_road_tunes_noteCounts a_road_tunes_pitches z_kept z_ahead z_shelves z_cutting z_acting z_road_stretches z_road_cars z_road_demands v_imaged v_lastFault w57_0 v_road_drawSeed v_road_tunes_tuneCount f_road_tunes_beats f_road_tunes_noteCounts f_road_tunes_pitches) H := hP
    have hD : va_D A (wX9_noteOf cI cJ cS a_o a_refused a_road a_road_tunes a_road_tunes_beats a_road_tunes_noteCounts a_road_tunes_pitches z_kept z_ahead z_shelves z_cutting z_acting z_road_stretches z_road_cars z_road_demands v_imaged v_lastFault w57_0 v_road_drawSeed v_road_tunes_tuneCount f_road_tunes_beats f_road_tunes_noteCounts f_road_tunes_pitches) := hD
    exact W.iret hx hb hr (fun t ht _ => ⟨⟨_, w57_0, rfl, h, hPt hP ht⟩, hS.F ht⟩) hS.2.2 dX9_noteOf_60
  have h := h.2 hc
  refine lv_iload hx hb dX9_noteOf_39 (lv_at hl 0 rfl) ?_
  refine lv_if_ne (tgt := 61) hx hb dX9_noteOf_41 (by decide) (fun hc => ?_) (fun hc => ?_)
  · have h := h.2 hc
    refine w_X9_noteOf_61 S hE hT hA hr hlocks _ _ _ h hP hD hS (lv_sub hl [2, 3, 4, 5, 0] rfl)
  have h := h.1 hc
  refine lv_aload hx hb dX9_noteOf_44 (lv_at hl 5 rfl) ?_
  refine lv_iload_n hx hb dX9_noteOf_46 rfl (lv_at hl 2 rfl) ?_
  refine lv_iload_n hx hb dX9_noteOf_47 rfl (lv_at hl 3 rfl) ?_
  refine ro_i (roV S hE hT hS (c_X8_hasNote h) lkX9_223 rfl ⟨(Nat.le_of_ble_eq_true rfl), (Nat.le_of_ble_eq_true rfl)⟩ (hP.sub [3, 5] rfl) 0 rfl rfl hl.1 rfl (Nat.le_of_ble_eq_true rfl) dX9_noteOf_48 ⟨(Nat.zero_le _), (Nat.zero_le _)⟩) (fun r48 h => ?_)
  refine lv_if_ne (tgt := 61) hx hb dX9_noteOf_51 (by decide) (fun hc => ?_) (fun hc => ?_)
  · have h := h.2 hc
    refine w_X9_noteOf_61 S hE hT hA hr hlocks _ _ _ h hP hD hS (lv_sub hl [2, 3, 4, 5, 0] rfl)
  have h := h.1 hc
  refine lv_aload_n hx hb dX9_noteOf_54 rfl (lv_at hl 1 rfl) ?_
  refine lv_bipush (v := (-5)) hx hb dX9_noteOf_55 (by decide) ?_
  refine rw_i (rwV S hE hT hS hP hD hA (c_X9_refuse h) [0, 1] rfl (by decide) lkX9_59 rfl ⟨(Nat.le_of_ble_eq_true rfl), (Nat.le_of_ble_eq_true rfl)⟩ 0 rfl rfl hl.1 rfl (Nat.le_of_ble_eq_true rfl) dX9_noteOf_57 ⟨(Nat.zero_le _), (Nat.zero_le _)⟩) hP hD hS hA [0, 1] rfl (by decide) (fun _ => rfl) (fun r57 w57_0 H locs h hP hD hS => ?_)
  try dsimp only at h
  have hP : va_P D vwCl (wX9_noteOf cI cJ cS a_o a_refused a_road a_road_tunes a_road_tunes_beats a_road_tunes_noteCounts a_road_tunes_pitches z_kept z_ahead z_shelves z_cutting z_acting z_road_stretches z_road_cars z_road_demands v_imaged v_lastFault w57_0 v_road_drawSeed v_road_tunes_tuneCount f_road_tunes_beats f_road_tunes_noteCounts f_road_tunes_pitches) H := hP
  have hD : va_D A (wX9_noteOf cI cJ cS a_o a_refused a_road a_road_tunes a_road_tunes_beats a_road_tunes_noteCounts a_road_tunes_pitches z_kept z_ahead z_shelves z_cutting z_acting z_road_stretches z_road_cars z_road_demands v_imaged v_lastFault w57_0 v_road_drawSeed v_road_tunes_tuneCount f_road_tunes_beats f_road_tunes_noteCounts f_road_tunes_pitches) := hD
  exact W.iret hx hb hr (fun t ht _ => ⟨⟨_, w57_0, rfl, h, hPt hP ht⟩, hS.F ht⟩) hS.2.2 dX9_noteOf_60
set_option maxHeartbeats 4000000 in
set_option maxRecDepth 100000 in
theorem w_X9_noteOf_27 {l : Launch} {D : va_G} {cI cJ cS : ClassId} {ad adK : Nat → Nat} {a_o a_refused a_road a_road_tunes a_road_tunes_beats a_road_tunes_noteCounts a_road_tunes_pitches : Nat} {z_kept z_ahead z_shelves z_cutting z_acting z_road_stretches z_road_cars z_road_demands : Value} {v_imaged : Int32} {v_lastFault : Int32} {f_refused : Nat → Int32} {v_road_drawSeed : Int32} {v_road_tunes_tuneCount : Int32} {f_road_tunes_beats : Nat → Int32} {f_road_tunes_noteCounts : Nat → Int32} {f_road_tunes_pitches : Nat → Int32} {x1 : Int32} {x2 : Int32} {x3 : Int32} {post : Int32 → (Nat → Int32) → Prop} {p : Program} {e : Env} {s : State} {m : MethodId} {args : Array Value} {below : List Frame} {meth : Method} {c : Code} {A : Nat → Prop} (S : CallFix p m c cX9_noteOf 6 s args GW "RoadThatSings") (hE : EN D cI cJ cS s) (hT : ST ad adK A s s.heap) (hA : ∀ q : Nat, s.heap.size ≤ q → A q) (hr : meth.sig.returnType = (some (.int))) (hlocks : meth.locks = false) : ∀ (H : Heap) (locs : List Loc) (ls : Array Slot), F_X9_noteOf_27 v_road_tunes_tuneCount f_road_tunes_beats f_road_tunes_noteCounts f_road_tunes_pitches post x1 x2 x3 f_refused → va_P D vwCl (wX9_noteOf cI cJ cS a_o a_refused a_road a_road_tunes a_road_tunes_beats a_road_tunes_noteCounts a_road_tunes_pitches z_kept z_ahead z_shelves z_cutting z_acting z_road_stretches z_road_cars z_road_demands v_imaged v_lastFault f_refused v_road_drawSeed v_road_tunes_tuneCount f_road_tunes_beats f_road_tunes_noteCounts f_road_tunes_pitches) H → va_D A (wX9_noteOf cI cJ cS a_o a_refused a_road a_road_tunes a_road_tunes_beats a_road_tunes_noteCounts a_road_tunes_pitches z_kept z_ahead z_shelves z_cutting z_acting z_road_stretches z_road_cars z_road_demands v_imaged v_lastFault f_refused v_road_drawSeed v_road_tunes_tuneCount f_road_tunes_beats f_road_tunes_noteCounts f_road_tunes_pitches) → va_S A s.heap H locs → lv_has ls 6 [(0, .ref a_o), (1, .int x1), (2, .int x2), (3, .int x3), (4, .ref a_road_tunes)] → W p l e (rmd 4 0 0) s m args below meth c H locs 0 0 (MQ below (va_Qi (fun r (u : (Nat → Int32)) => post r u) (fun u t => va_P D vwCl (wX9_noteOf cI cJ cS a_o a_refused a_road a_road_tunes a_road_tunes_beats a_road_tunes_noteCounts a_road_tunes_pitches z_kept z_ahead z_shelves z_cutting z_acting z_road_stretches z_road_cars z_road_demands v_imaged v_lastFault u v_road_drawSeed v_road_tunes_tuneCount f_road_tunes_beats f_road_tunes_noteCounts f_road_tunes_pitches) t.heap) A) args s 0 0 A) (F0 m 27 ls []) := by
  intro  H locs ls h hP hD hS hl
  unfold F_X9_noteOf_27 at h
  have hx := S.1
  have hb := S.2.1
  refine lv_iconst (v := 0) hx hb dX9_noteOf_27 (by decide) ?_
  refine w_X9_noteOf_28 S hE hT hA hr hlocks _ _ _ h hP hD hS (lv_sub hl [0, 1, 2, 3, 4] rfl)
set_option maxHeartbeats 4000000 in
set_option maxRecDepth 100000 in
theorem c_X9_noteOf {l : Launch} {D : va_G} {cI cJ cS : ClassId} {ad adK : Nat → Nat} {a_o a_refused a_road a_road_tunes a_road_tunes_beats a_road_tunes_noteCounts a_road_tunes_pitches : Nat} {z_kept z_ahead z_shelves z_cutting z_acting z_road_stretches z_road_cars z_road_demands : Value} {v_imaged : Int32} {v_lastFault : Int32} {f_refused : Nat → Int32} {v_road_drawSeed : Int32} {v_road_tunes_tuneCount : Int32} {f_road_tunes_beats : Nat → Int32} {f_road_tunes_noteCounts : Nat → Int32} {f_road_tunes_pitches : Nat → Int32} {x1 : Int32} {x2 : Int32} {x3 : Int32} {post : Int32 → (Nat → Int32) → Prop} (h : F_X9_noteOf f_refused v_road_tunes_tuneCount f_road_tunes_beats f_road_tunes_noteCounts f_road_tunes_pitches x1 x2 x3 post) {sz : Nat} : Met l yX9_noteOf (Cond.code yX9_noteOf cX9_noteOf 6 (some (.int)) :: GW) (rmd 4 0 0) (PW D cI cJ cS ad adK [.ref a_o, .int x1, .int x2, .int x3] (wX9_noteOf cI cJ cS a_o a_refused a_road a_road_tunes a_road_tunes_beats a_road_tunes_noteCounts a_road_tunes_pitches z_kept z_ahead z_shelves z_cutting z_acting z_road_stretches z_road_cars z_road_demands v_imaged v_lastFault f_refused v_road_drawSeed v_road_tunes_tuneCount f_road_tunes_beats f_road_tunes_noteCounts f_road_tunes_pitches) sz) (va_Qi (fun r (u : (Nat → Int32)) => post r u) (fun u t => va_P D vwCl (wX9_noteOf cI cJ cS a_o a_refused a_road a_road_tunes a_road_tunes_beats a_road_tunes_noteCounts a_road_tunes_pitches z_kept z_ahead z_shelves z_cutting z_acting z_road_stretches z_road_cars z_road_demands v_imaged v_lastFault u v_road_drawSeed v_road_tunes_tuneCount f_road_tunes_beats f_road_tunes_noteCounts f_road_tunes_pitches) t.heap) (va_A (wX9_noteOf cI cJ cS a_o a_refused a_road a_road_tunes a_road_tunes_beats a_road_tunes_noteCounts a_road_tunes_pitches z_kept z_ahead z_shelves z_cutting z_acting z_road_stretches z_road_cars z_road_demands v_imaged v_lastFault f_refused v_road_drawSeed v_road_tunes_tuneCount f_road_tunes_beats f_road_tunes_noteCounts f_road_tunes_pitches) sz)) 0 0 (va_A (wX9_noteOf cI cJ cS a_o a_refused a_road a_road_tunes a_road_tunes_beats a_road_tunes_noteCounts a_road_tunes_pitches z_kept z_ahead z_shelves z_cutting z_acting z_road_stretches z_road_cars z_road_demands v_imaged v_lastFault f_refused v_road_drawSeed v_road_tunes_tuneCount f_road_tunes_beats f_road_tunes_noteCounts f_road_tunes_pitches) sz) := by
  refine Met.rw (Qc := fun A => (va_Qi (fun r (u : (Nat → Int32)) => post r u) (fun u t => va_P D vwCl (wX9_noteOf cI cJ cS a_o a_refused a_road a_road_tunes a_road_tunes_beats a_road_tunes_noteCounts a_road_tunes_pitches z_kept z_ahead z_shelves z_cutting z_acting z_road_stretches z_road_cars z_road_demands v_imaged v_lastFault u v_road_drawSeed v_road_tunes_tuneCount f_road_tunes_beats f_road_tunes_noteCounts f_road_tunes_pitches) t.heap) A)) (by decide) (Nat.le_of_ble_eq_true rfl) (fun p e s m args below meth c ls A (S : CallFix p m c cX9_noteOf 6 s args GW "RoadThatSings") hE hT hP hD hA hS hr hlocks hname hl => ?_)
  have hS0 := hS
  have hx := S.1
  have hb := S.2.1
  have hl : lv_has ls 6 [(0, .ref a_o), (1, .int x1), (2, .int x2), (3, .int x3)] := hl
  unfold F_X9_noteOf at h
  refine lv_aload_n hx hb dX9_noteOf_0 rfl (lv_at hl 0 rfl) ?_
  refine gf S hE hP 0 rfl rfl inX9 (k := 0) (by decide) q181 rfl dX9_noteOf_1 ?_
  refine gfN S hE hP 2 rfl rfl inX5 (k := 2) (by decide) nfX9_209 rfl dX9_noteOf_4 ?_
  refine lv_astore (lv' := [(4, .ref a_road_tunes), (0, .ref a_o), (1, .int x1), (2, .int x2), (3, .int x3)]) hx hb dX9_noteOf_7 hl (by decide) rfl (fun ls hl => ?_)
  refine lv_aload hx hb dX9_noteOf_9 (lv_at hl 0 rfl) ?_
  refine lv_iload_n hx hb dX9_noteOf_11 rfl (lv_at hl 2 rfl) ?_
  refine ro_i (roV S hE hT hS (c_X8_has h) lkX9_222 rfl ⟨(Nat.le_of_ble_eq_true rfl), (Nat.le_of_ble_eq_true rfl)⟩ (hP.sub [3] rfl) 0 rfl rfl hl.1 rfl (Nat.le_of_ble_eq_true rfl) dX9_noteOf_12 ⟨(Nat.zero_le _), (Nat.zero_le _)⟩) (fun r12 h => ?_)
  refine lv_if_eq (tgt := 27) hx hb dX9_noteOf_15 (by decide) (fun hc => ?_) (fun hc => ?_)
  · have h := h.1 hc
    refine w_X9_noteOf_27 S hE hT hA hr hlocks _ _ _ h hP hD hS (lv_sub hl [1, 2, 3, 4, 0] rfl)
  have h := h.2 hc
  refine lv_iload_n hx hb dX9_noteOf_18 rfl (lv_at hl 3 rfl) ?_
  refine lv_iconst (v := (-1)) hx hb dX9_noteOf_19 (by decide) ?_
  refine lv_icmp_ne (tgt := 27) hx hb dX9_noteOf_20 (by decide) (fun hc => ?_) (fun hc => ?_)
  · have h := h.2 hc
    refine w_X9_noteOf_27 S hE hT hA hr hlocks _ _ _ h hP hD hS (lv_sub hl [1, 2, 3, 4, 0] rfl)
  have h := h.1 hc
  refine lv_iconst (v := 1) hx hb dX9_noteOf_23 (by decide) ?_
  refine lv_goto (tgt := 28) hx hb dX9_noteOf_24 (by decide) ?_
  refine w_X9_noteOf_28 S hE hT hA hr hlocks _ _ _ h hP hD hS (lv_sub hl [1, 2, 3, 4, 0] rfl)
/-! X9_ask -/
abbrev wX9_ask (cI cJ cS : ClassId) (a_o a_refused a_road a_road_demands : Nat) (z_kept z_ahead z_shelves z_cutting z_acting z_road_stretches z_road_cars z_road_tunes : Value) (v_imaged : Int32) (v_lastFault : Int32) (f_refused : Nat → Int32) (v_road_drawSeed : Int32) (f_road_demands : Nat → Int32) : va_W := [(a_o, .inr (8, [.ref a_road, z_kept, z_ahead, z_shelves, z_cutting, z_acting, .ref a_refused, .int v_imaged, .int v_lastFault])), (a_refused, .inl (cI, 8, .inl f_refused)), (a_road, .inr (4, [z_road_stretches, z_road_cars, z_road_tunes, .ref a_road_demands, .int v_road_drawSeed])), (a_road_demands, .inl (cI, 4, .inl f_road_demands))]
def F_X9_ask (f_refused : Nat → Int32) (f_road_demands : Nat → Int32) (x1 : Int32) (x2 : Int32) (post : Int32 → (Nat → Int32) → (Nat → Int32) → Prop) : Prop := (F_X9_mayBeAsked x1 x2 (fun r2 => ((r2 = 0 → (F_X9_refuse f_refused (-6) (fun r11 w11_0 => post r11 w11_0 f_road_demands))) ∧ (¬ r2 = 0 → (F_X5_asked f_road_demands x1 (fun r20 => (F_X5_demand f_road_demands x1 x2 (fun w30_0 => post r20 f_refused w30_0))))))))
set_option maxHeartbeats 4000000 in
set_option maxRecDepth 100000 in
theorem c_X9_ask {l : Launch} {D : va_G} {cI cJ cS : ClassId} {ad adK : Nat → Nat} {a_o a_refused a_road a_road_demands : Nat} {z_kept z_ahead z_shelves z_cutting z_acting z_road_stretches z_road_cars z_road_tunes : Value} {v_imaged : Int32} {v_lastFault : Int32} {f_refused : Nat → Int32} {v_road_drawSeed : Int32} {f_road_demands : Nat → Int32} {x1 : Int32} {x2 : Int32} {post : Int32 → (Nat → Int32) → (Nat → Int32) → Prop} (h : F_X9_ask f_refused f_road_demands x1 x2 post) {sz : Nat} : Met l yX9_ask (Cond.code yX9_ask cX9_ask 4 (some (.int)) :: GW) (rmd 3 0 0) (PW D cI cJ cS ad adK [.ref a_o, .int x1, .int x2] (wX9_ask cI cJ cS a_o a_refused a_road a_road_demands z_kept z_ahead z_shelves z_cutting z_acting z_road_stretches z_road_cars z_road_tunes v_imaged v_lastFault f_refused v_road_drawSeed f_road_demands) sz) (va_Qi (fun r (u : (Nat → Int32) × (Nat → Int32)) => post r u.1 u.2) (fun u t => va_P D vwCl (wX9_ask cI cJ cS a_o a_refused a_road a_road_demands z_kept z_ahead z_shelves z_cutting z_acting z_road_stretches z_road_cars z_road_tunes v_imaged v_lastFault u.1 v_road_drawSeed u.2) t.heap) (va_A (wX9_ask cI cJ cS a_o a_refused a_road a_road_demands z_kept z_ahead z_shelves z_cutting z_acting z_road_stretches z_road_cars z_road_tunes v_imaged v_lastFault f_refused v_road_drawSeed f_road_demands) sz)) 0 0 (va_A (wX9_ask cI cJ cS a_o a_refused a_road a_road_demands z_kept z_ahead z_shelves z_cutting z_acting z_road_stretches z_road_cars z_road_tunes v_imaged v_lastFault f_refused v_road_drawSeed f_road_demands) sz) := by
  refine Met.rw (Qc := fun A => (va_Qi (fun r (u : (Nat → Int32) × (Nat → Int32)) => post r u.1 u.2) (fun u t => va_P D vwCl (wX9_ask cI cJ cS a_o a_refused a_road a_road_demands z_kept z_ahead z_shelves z_cutting z_acting z_road_stretches z_road_cars z_road_tunes v_imaged v_lastFault u.1 v_road_drawSeed u.2) t.heap) A)) (by decide) (Nat.le_of_ble_eq_true rfl) (fun p e s m args below meth c ls A (S : CallFix p m c cX9_ask 4 s args GW "RoadThatSings") hE hT hP hD hA hS hr hlocks hname hl => ?_)
  have hS0 := hS
  have hx := S.1
  have hb := S.2.1
  have hl : lv_has ls 4 [(0, .ref a_o), (1, .int x1), (2, .int x2)] := hl
  unfold F_X9_ask at h
  refine lv_iload_n hx hb dX9_ask_0 rfl (lv_at hl 1 rfl) ?_
  refine lv_iload_n hx hb dX9_ask_1 rfl (lv_at hl 2 rfl) ?_
  refine ro_i (roS S hE hT hS (c_X9_mayBeAsked h) lkX9_238 rfl ⟨(Nat.le_of_ble_eq_true rfl), (Nat.le_of_ble_eq_true rfl)⟩ (hP.sub [] rfl) hl.1 rfl (Nat.le_of_ble_eq_true rfl) dX9_ask_2 ⟨(Nat.zero_le _), (Nat.zero_le _)⟩) (fun r2 h => ?_)
  refine lv_if_ne (tgt := 15) hx hb dX9_ask_5 (by decide) (fun hc => ?_) (fun hc => ?_)
  · have h := h.2 hc
    refine lv_aload_n hx hb dX9_ask_15 rfl (lv_at hl 0 rfl) ?_
    refine gf S hE hP 0 rfl rfl inX9 (k := 0) (by decide) q181 rfl dX9_ask_16 ?_
    refine lv_iload_n hx hb dX9_ask_19 rfl (lv_at hl 1 rfl) ?_
    refine ro_i (roV S hE hT hS (c_X5_asked h) lkX9_241 rfl ⟨(Nat.le_of_ble_eq_true rfl), (Nat.le_of_ble_eq_true rfl)⟩ (hP.sub [2, 3] rfl) 0 rfl rfl hl.1 rfl (Nat.le_of_ble_eq_true rfl) dX9_ask_20 ⟨(Nat.zero_le _), (Nat.zero_le _)⟩) (fun r20 h => ?_)
    refine lv_istore_n (lv' := [(3, .int r20), (0, .ref a_o), (1, .int x1), (2, .int x2)]) hx hb dX9_ask_23 rfl hl (by decide) rfl (fun ls hl => ?_)
    refine lv_aload_n hx hb dX9_ask_24 rfl (lv_at hl 1 rfl) ?_
    refine gf S hE hP 0 rfl rfl inX9 (k := 0) (by decide) q181 rfl dX9_ask_25 ?_
    refine lv_iload_n hx hb dX9_ask_28 rfl (lv_at hl 2 rfl) ?_
    refine lv_iload_n hx hb dX9_ask_29 rfl (lv_at hl 3 rfl) ?_
    refine rw_v (rwV S hE hT hS hP hD hA (c_X5_demand h) [2, 3] rfl (by decide) lkX9_244 rfl ⟨(Nat.le_of_ble_eq_true rfl), (Nat.le_of_ble_eq_true rfl)⟩ 2 rfl rfl hl.1 rfl (Nat.le_of_ble_eq_true rfl) dX9_ask_30 ⟨(Nat.zero_le _), (Nat.zero_le _)⟩) hP hD hS hA [2, 3] rfl (by decide) (fun _ => rfl) (fun w30_0 H locs h hP hD hS => ?_)
    try dsimp only at h
    have hP : va_P D vwCl (wX9_ask cI cJ cS a_o a_refused a_road a_road_demands z_kept z_ahead z_shelves z_cutting z_acting z_road_stretches z_road_cars z_road_tunes v_imaged v_lastFault f_refused v_road_drawSeed w30_0) H := hP
    have hD : va_D A (wX9_ask cI cJ cS a_o a_refused a_road a_road_demands z_kept z_ahead z_shelves z_cutting z_acting z_road_stretches z_road_cars z_road_tunes v_imaged v_lastFault f_refused v_road_drawSeed w30_0) := hD
    refine lv_iload_n hx hb dX9_ask_33 rfl (lv_at hl 0 rfl) ?_
    exact W.iret hx hb hr (fun t ht _ => ⟨⟨_, (f_refused, w30_0), rfl, h, hPt hP ht⟩, hS.F ht⟩) hS.2.2 dX9_ask_34
  have h := h.1 hc
  refine lv_aload_n hx hb dX9_ask_8 rfl (lv_at hl 0 rfl) ?_
  refine lv_bipush (v := (-6)) hx hb dX9_ask_9 (by decide) ?_
  refine rw_i (rwV S hE hT hS hP hD hA (c_X9_refuse h) [0, 1] rfl (by decide) lkX9_59 rfl ⟨(Nat.le_of_ble_eq_true rfl), (Nat.le_of_ble_eq_true rfl)⟩ 0 rfl rfl hl.1 rfl (Nat.le_of_ble_eq_true rfl) dX9_ask_11 ⟨(Nat.zero_le _), (Nat.zero_le _)⟩) hP hD hS hA [0, 1] rfl (by decide) (fun _ => rfl) (fun r11 w11_0 H locs h hP hD hS => ?_)
  try dsimp only at h
  have hP : va_P D vwCl (wX9_ask cI cJ cS a_o a_refused a_road a_road_demands z_kept z_ahead z_shelves z_cutting z_acting z_road_stretches z_road_cars z_road_tunes v_imaged v_lastFault w11_0 v_road_drawSeed f_road_demands) H := hP
  have hD : va_D A (wX9_ask cI cJ cS a_o a_refused a_road a_road_demands z_kept z_ahead z_shelves z_cutting z_acting z_road_stretches z_road_cars z_road_tunes v_imaged v_lastFault w11_0 v_road_drawSeed f_road_demands) := hD
  exact W.iret hx hb hr (fun t ht _ => ⟨⟨_, (w11_0, f_road_demands), rfl, h, hPt hP ht⟩, hS.F ht⟩) hS.2.2 dX9_ask_14
/-! X9_fault -/
abbrev wX9_fault (cI cJ cS : ClassId) (a_o : Nat) (z_road z_kept z_ahead z_shelves z_cutting z_acting z_refused : Value) (v_imaged : Int32) (v_lastFault : Int32) : va_W := [(a_o, .inr (8, [z_road, z_kept, z_ahead, z_shelves, z_cutting, z_acting, z_refused, .int v_imaged, .int v_lastFault]))]
def F_X9_fault (v_lastFault : Int32) (post : Int32 → Prop) : Prop := post v_lastFault
set_option maxHeartbeats 4000000 in
set_option maxRecDepth 100000 in
theorem c_X9_fault {l : Launch} {D : va_G} {cI cJ cS : ClassId} {ad adK : Nat → Nat} {a_o : Nat} {z_road z_kept z_ahead z_shelves z_cutting z_acting z_refused : Value} {v_imaged : Int32} {v_lastFault : Int32} {post : Int32 → Prop} (h : F_X9_fault v_lastFault post) : Met l yX9_fault (Cond.code yX9_fault cX9_fault 1 (some (.int)) :: GW) (rmd 0 0 0) (PR D cI cJ cS ad adK [.ref a_o] (wX9_fault cI cJ cS a_o z_road z_kept z_ahead z_shelves z_cutting z_acting z_refused v_imaged v_lastFault)) (vp_Si post) 0 0 nof := by
  refine Met.ro (by decide) (Nat.le_of_ble_eq_true rfl) (fun p e s m args below meth c ls (S : CallFix p m c cX9_fault 1 s args GW "RoadThatSings") hE hT hP hS hr hlocks hl => ?_)
  have hx := S.1
  have hb := S.2.1
  have hl : lv_has ls 1 [(0, .ref a_o)] := hl
  unfold F_X9_fault at h
  refine lv_aload_n hx hb dX9_fault_0 rfl (lv_at hl 0 rfl) ?_
  refine gf S hE hP 0 rfl rfl inX9 (k := 8) (by decide) q189 rfl dX9_fault_1 ?_
  exact W.iret hx hb hr (fun t ht _ => ⟨_, rfl, h, ht⟩) (fun _ hq => by cases hq) dX9_fault_4
/-! X9_hum -/
abbrev wX9_hum (cI cJ cS : ClassId) (a_o a_refused a_road a_road_stretches a_road_stretches_kinds a_road_stretches_others a_road_stretches_spaces : Nat) (z_kept z_ahead z_shelves z_cutting z_acting z_road_cars z_road_tunes z_road_demands z_road_stretches_times : Value) (v_imaged : Int32) (v_lastFault : Int32) (f_refused : Nat → Int32) (v_road_drawSeed : Int32) (v_road_stretches_stretchCount : Int32) (f_road_stretches_kinds : Nat → Int32) (f_road_stretches_others : Nat → Int32) (f_road_stretches_spaces : Nat → Int32) : va_W := [(a_o, .inr (8, [.ref a_road, z_kept, z_ahead, z_shelves, z_cutting, z_acting, .ref a_refused, .int v_imaged, .int v_lastFault])), (a_refused, .inl (cI, 8, .inl f_refused)), (a_road, .inr (4, [.ref a_road_stretches, z_road_cars, z_road_tunes, z_road_demands, .int v_road_drawSeed])), (a_road_stretches, .inr (6, [.ref a_road_stretches_kinds, .ref a_road_stretches_spaces, .ref a_road_stretches_others, z_road_stretches_times, .int v_road_stretches_stretchCount])), (a_road_stretches_kinds, .inl (cI, 16, .inl f_road_stretches_kinds)), (a_road_stretches_others, .inl (cI, 16, .inl f_road_stretches_others)), (a_road_stretches_spaces, .inl (cI, 16, .inl f_road_stretches_spaces))]
def F_X9_hum (f_refused : Nat → Int32) (v_road_stretches_stretchCount : Int32) (f_road_stretches_kinds : Nat → Int32) (f_road_stretches_others : Nat → Int32) (f_road_stretches_spaces : Nat → Int32) (x1 : Int32) (x2 : Int32) (post : Int32 → (Nat → Int32) → Prop) : Prop := (F_X7_has v_road_stretches_stretchCount x1 (fun r8 => ((r8 = 0 → (F_X9_refuse f_refused (-1) (fun r16 w16_0 => post r16 w16_0))) ∧ (¬ r8 = 0 → (F_X9_isSpeed x2 (fun r21 => ((r21 = 0 → (F_X9_refuse f_refused (-6) (fun r45 w45_0 => post r45 w45_0))) ∧ (¬ r21 = 0 → (F_X7_humOf v_road_stretches_stretchCount f_road_stretches_kinds f_road_stretches_others f_road_stretches_spaces x1 x2 (fun r36 => post r36 f_refused))))))))))
set_option maxHeartbeats 4000000 in
set_option maxRecDepth 100000 in
theorem c_X9_hum {l : Launch} {D : va_G} {cI cJ cS : ClassId} {ad adK : Nat → Nat} {a_o a_refused a_road a_road_stretches a_road_stretches_kinds a_road_stretches_others a_road_stretches_spaces : Nat} {z_kept z_ahead z_shelves z_cutting z_acting z_road_cars z_road_tunes z_road_demands z_road_stretches_times : Value} {v_imaged : Int32} {v_lastFault : Int32} {f_refused : Nat → Int32} {v_road_drawSeed : Int32} {v_road_stretches_stretchCount : Int32} {f_road_stretches_kinds : Nat → Int32} {f_road_stretches_others : Nat → Int32} {f_road_stretches_spaces : Nat → Int32} {x1 : Int32} {x2 : Int32} {post : Int32 → (Nat → Int32) → Prop} (h : F_X9_hum f_refused v_road_stretches_stretchCount f_road_stretches_kinds f_road_stretches_others f_road_stretches_spaces x1 x2 post) {sz : Nat} : Met l yX9_hum (Cond.code yX9_hum cX9_hum 3 (some (.int)) :: GW) (rmd 3 0 0) (PW D cI cJ cS ad adK [.ref a_o, .int x1, .int x2] (wX9_hum cI cJ cS a_o a_refused a_road a_road_stretches a_road_stretches_kinds a_road_stretches_others a_road_stretches_spaces z_kept z_ahead z_shelves z_cutting z_acting z_road_cars z_road_tunes z_road_demands z_road_stretches_times v_imaged v_lastFault f_refused v_road_drawSeed v_road_stretches_stretchCount f_road_stretches_kinds f_road_stretches_others f_road_stretches_spaces) sz) (va_Qi (fun r (u : (Nat → Int32)) => post r u) (fun u t => va_P D vwCl (wX9_hum cI cJ cS a_o a_refused a_road a_road_stretches a_road_stretches_kinds a_road_stretches_others a_road_stretches_spaces z_kept z_ahead z_shelves z_cutting z_acting z_road_cars z_road_tunes z_road_demands z_road_stretches_times v_imaged v_lastFault u v_road_drawSeed v_road_stretches_stretchCount f_road_stretches_kinds f_road_stretches_others f_road_stretches_spaces) t.heap) (va_A (wX9_hum cI cJ cS a_o a_refused a_road a_road_stretches a_road_stretches_kinds a_road_stretches_others a_road_stretches_spaces z_kept z_ahead z_shelves z_cutting z_acting z_road_cars z_road_tunes z_road_demands z_road_stretches_times v_imaged v_lastFault f_refused v_road_drawSeed v_road_stretches_stretchCount f_road_stretches_kinds f_road_stretches_others f_road_stretches_spaces) sz)) 0 0 (va_A (wX9_hum cI cJ cS a_o a_refused a_road a_road_stretches a_road_stretches_kinds a_road_stretches_others a_road_stretches_spaces z_kept z_ahead z_shelves z_cutting z_acting z_road_cars z_road_tunes z_road_demands z_road_stretches_times v_imaged v_lastFault f_refused v_road_drawSeed v_road_stretches_stretchCount f_road_stretches_kinds f_road_stretches_others f_road_stretches_spaces) sz) := by
  refine Met.rw (Qc := fun A => (va_Qi (fun r (u : (Nat → Int32)) => post r u) (fun u t => va_P D vwCl (wX9_hum cI cJ cS a_o a_refused a_road a_road_stretches a_road_stretches_kinds a_road_stretches_others a_road_stretches_spaces z_kept z_ahead z_shelves z_cutting z_acting z_road_cars z_road_tunes z_road_demands z_road_stretches_times v_imaged v_lastFault u v_road_drawSeed v_road_stretches_stretchCount f_road_stretches_kinds f_road_stretches_others f_road_stretches_spaces) t.heap) A)) (by decide) (Nat.le_of_ble_eq_true rfl) (fun p e s m args below meth c ls A (S : CallFix p m c cX9_hum 3 s args GW "RoadThatSings") hE hT hP hD hA hS hr hlocks hname hl => ?_)
  have hS0 := hS
  have hx := S.1
  have hb := S.2.1
  have hl : lv_has ls 3 [(0, .ref a_o), (1, .int x1), (2, .int x2)] := hl
  unfold F_X9_hum at h
  refine lv_aload_n hx hb dX9_hum_0 rfl (lv_at hl 0 rfl) ?_
  refine gf S hE hP 0 rfl rfl inX9 (k := 0) (by decide) q181 rfl dX9_hum_1 ?_
  refine gfN S hE hP 2 rfl rfl inX5 (k := 0) (by decide) nfX9_106 rfl dX9_hum_4 ?_
  refine lv_iload_n hx hb dX9_hum_7 rfl (lv_at hl 1 rfl) ?_
  refine ro_i (roV S hE hT hS (c_X7_has h) lkX9_110 rfl ⟨(Nat.le_of_ble_eq_true rfl), (Nat.le_of_ble_eq_true rfl)⟩ (hP.sub [3] rfl) 0 rfl rfl hl.1 rfl (Nat.le_of_ble_eq_true rfl) dX9_hum_8 ⟨(Nat.zero_le _), (Nat.zero_le _)⟩) (fun r8 h => ?_)
  refine lv_if_ne (tgt := 20) hx hb dX9_hum_11 (by decide) (fun hc => ?_) (fun hc => ?_)
  · have h := h.2 hc
    refine lv_iload_n hx hb dX9_hum_20 rfl (lv_at hl 2 rfl) ?_
    refine ro_i (roS S hE hT hS (c_X9_isSpeed h) lkX9_177 rfl ⟨(Nat.le_of_ble_eq_true rfl), (Nat.le_of_ble_eq_true rfl)⟩ (hP.sub [] rfl) hl.1 rfl (Nat.le_of_ble_eq_true rfl) dX9_hum_21 ⟨(Nat.zero_le _), (Nat.zero_le _)⟩) (fun r21 h => ?_)
    refine lv_if_eq (tgt := 42) hx hb dX9_hum_24 (by decide) (fun hc => ?_) (fun hc => ?_)
    · have h := h.1 hc
      refine lv_aload_n hx hb dX9_hum_42 rfl (lv_at hl 0 rfl) ?_
      refine lv_bipush (v := (-6)) hx hb dX9_hum_43 (by decide) ?_
      refine rw_i (rwV S hE hT hS hP hD hA (c_X9_refuse h) [0, 1] rfl (by decide) lkX9_59 rfl ⟨(Nat.le_of_ble_eq_true rfl), (Nat.le_of_ble_eq_true rfl)⟩ 0 rfl rfl hl.1 rfl (Nat.le_of_ble_eq_true rfl) dX9_hum_45 ⟨(Nat.zero_le _), (Nat.zero_le _)⟩) hP hD hS hA [0, 1] rfl (by decide) (fun _ => rfl) (fun r45 w45_0 H locs h hP hD hS => ?_)
      try dsimp only at h
      have hP : va_P D vwCl (wX9_hum cI cJ cS a_o a_refused a_road a_road_stretches a_road_stretches_kinds a_road_stretches_others a_road_stretches_spaces z_kept z_ahead z_shelves z_cutting z_acting z_road_cars z_road_tunes z_road_demands z_road_stretches_times v_imaged v_lastFault w45_0 v_road_drawSeed v_road_stretches_stretchCount f_road_stretches_kinds f_road_stretches_others f_road_stretches_spaces) H := hP
      have hD : va_D A (wX9_hum cI cJ cS a_o a_refused a_road a_road_stretches a_road_stretches_kinds a_road_stretches_others a_road_stretches_spaces z_kept z_ahead z_shelves z_cutting z_acting z_road_cars z_road_tunes z_road_demands z_road_stretches_times v_imaged v_lastFault w45_0 v_road_drawSeed v_road_stretches_stretchCount f_road_stretches_kinds f_road_stretches_others f_road_stretches_spaces) := hD
      exact W.iret hx hb hr (fun t ht _ => ⟨⟨_, w45_0, rfl, h, hPt hP ht⟩, hS.F ht⟩) hS.2.2 dX9_hum_48
    have h := h.2 hc
    refine lv_aload_n hx hb dX9_hum_27 rfl (lv_at hl 0 rfl) ?_
    refine gf S hE hP 0 rfl rfl inX9 (k := 0) (by decide) q181 rfl dX9_hum_28 ?_
    refine gfN S hE hP 2 rfl rfl inX5 (k := 0) (by decide) nfX9_106 rfl dX9_hum_31 ?_
    refine lv_iload_n hx hb dX9_hum_34 rfl (lv_at hl 1 rfl) ?_
    refine lv_iload_n hx hb dX9_hum_35 rfl (lv_at hl 2 rfl) ?_
    refine ro_i (roV S hE hT hS (c_X7_humOf h) lkX9_262 rfl ⟨(Nat.le_of_ble_eq_true rfl), (Nat.le_of_ble_eq_true rfl)⟩ (hP.sub [3, 4, 5, 6] rfl) 0 rfl rfl hl.1 rfl (Nat.le_of_ble_eq_true rfl) dX9_hum_36 ⟨(Nat.zero_le _), (Nat.zero_le _)⟩) (fun r36 h => ?_)
    refine lv_goto (tgt := 48) hx hb dX9_hum_39 (by decide) ?_
    exact W.iret hx hb hr (fun t ht _ => ⟨⟨_, f_refused, rfl, h, hPt hP ht⟩, hS.F ht⟩) hS.2.2 dX9_hum_48
  have h := h.1 hc
  refine lv_aload_n hx hb dX9_hum_14 rfl (lv_at hl 0 rfl) ?_
  refine lv_iconst (v := (-1)) hx hb dX9_hum_15 (by decide) ?_
  refine rw_i (rwV S hE hT hS hP hD hA (c_X9_refuse h) [0, 1] rfl (by decide) lkX9_59 rfl ⟨(Nat.le_of_ble_eq_true rfl), (Nat.le_of_ble_eq_true rfl)⟩ 0 rfl rfl hl.1 rfl (Nat.le_of_ble_eq_true rfl) dX9_hum_16 ⟨(Nat.zero_le _), (Nat.zero_le _)⟩) hP hD hS hA [0, 1] rfl (by decide) (fun _ => rfl) (fun r16 w16_0 H locs h hP hD hS => ?_)
  try dsimp only at h
  have hP : va_P D vwCl (wX9_hum cI cJ cS a_o a_refused a_road a_road_stretches a_road_stretches_kinds a_road_stretches_others a_road_stretches_spaces z_kept z_ahead z_shelves z_cutting z_acting z_road_cars z_road_tunes z_road_demands z_road_stretches_times v_imaged v_lastFault w16_0 v_road_drawSeed v_road_stretches_stretchCount f_road_stretches_kinds f_road_stretches_others f_road_stretches_spaces) H := hP
  have hD : va_D A (wX9_hum cI cJ cS a_o a_refused a_road a_road_stretches a_road_stretches_kinds a_road_stretches_others a_road_stretches_spaces z_kept z_ahead z_shelves z_cutting z_acting z_road_cars z_road_tunes z_road_demands z_road_stretches_times v_imaged v_lastFault w16_0 v_road_drawSeed v_road_stretches_stretchCount f_road_stretches_kinds f_road_stretches_others f_road_stretches_spaces) := hD
  exact W.iret hx hb hr (fun t ht _ => ⟨⟨_, w16_0, rfl, h, hPt hP ht⟩, hS.F ht⟩) hS.2.2 dX9_hum_19
/-! X9_lasts -/
abbrev wX9_lasts (cI cJ cS : ClassId) (a_o a_refused a_road a_road_stretches a_road_stretches_kinds a_road_stretches_others a_road_stretches_spaces a_road_stretches_times : Nat) (z_kept z_ahead z_shelves z_cutting z_acting z_road_cars z_road_tunes z_road_demands : Value) (v_imaged : Int32) (v_lastFault : Int32) (f_refused : Nat → Int32) (v_road_drawSeed : Int32) (v_road_stretches_stretchCount : Int32) (f_road_stretches_kinds : Nat → Int32) (f_road_stretches_others : Nat → Int32) (f_road_stretches_spaces : Nat → Int32) (f_road_stretches_times : Nat → Int32) : va_W := [(a_o, .inr (8, [.ref a_road, z_kept, z_ahead, z_shelves, z_cutting, z_acting, .ref a_refused, .int v_imaged, .int v_lastFault])), (a_refused, .inl (cI, 8, .inl f_refused)), (a_road, .inr (4, [.ref a_road_stretches, z_road_cars, z_road_tunes, z_road_demands, .int v_road_drawSeed])), (a_road_stretches, .inr (6, [.ref a_road_stretches_kinds, .ref a_road_stretches_spaces, .ref a_road_stretches_others, .ref a_road_stretches_times, .int v_road_stretches_stretchCount])), (a_road_stretches_kinds, .inl (cI, 16, .inl f_road_stretches_kinds)), (a_road_stretches_others, .inl (cI, 16, .inl f_road_stretches_others)), (a_road_stretches_spaces, .inl (cI, 16, .inl f_road_stretches_spaces)), (a_road_stretches_times, .inl (cI, 16, .inl f_road_stretches_times))]
def F_X9_lasts (f_refused : Nat → Int32) (v_road_stretches_stretchCount : Int32) (f_road_stretches_kinds : Nat → Int32) (f_road_stretches_others : Nat → Int32) (f_road_stretches_spaces : Nat → Int32) (f_road_stretches_times : Nat → Int32) (x1 : Int32) (x2 : Int32) (post : Int32 → (Nat → Int32) → Prop) : Prop := (F_X7_has v_road_stretches_stretchCount x1 (fun r8 => ((r8 = 0 → (F_X9_refuse f_refused (-1) (fun r16 w16_0 => post r16 w16_0))) ∧ (¬ r8 = 0 → (F_X9_isSpeed x2 (fun r21 => ((r21 = 0 → (F_X9_refuse f_refused (-6) (fun r45 w45_0 => post r45 w45_0))) ∧ (¬ r21 = 0 → (F_X7_lastingOf v_road_stretches_stretchCount f_road_stretches_kinds f_road_stretches_others f_road_stretches_spaces f_road_stretches_times x1 x2 (fun r36 => post r36 f_refused))))))))))
set_option maxHeartbeats 4000000 in
set_option maxRecDepth 100000 in
theorem c_X9_lasts {l : Launch} {D : va_G} {cI cJ cS : ClassId} {ad adK : Nat → Nat} {a_o a_refused a_road a_road_stretches a_road_stretches_kinds a_road_stretches_others a_road_stretches_spaces a_road_stretches_times : Nat} {z_kept z_ahead z_shelves z_cutting z_acting z_road_cars z_road_tunes z_road_demands : Value} {v_imaged : Int32} {v_lastFault : Int32} {f_refused : Nat → Int32} {v_road_drawSeed : Int32} {v_road_stretches_stretchCount : Int32} {f_road_stretches_kinds : Nat → Int32} {f_road_stretches_others : Nat → Int32} {f_road_stretches_spaces : Nat → Int32} {f_road_stretches_times : Nat → Int32} {x1 : Int32} {x2 : Int32} {post : Int32 → (Nat → Int32) → Prop} (h : F_X9_lasts f_refused v_road_stretches_stretchCount f_road_stretches_kinds f_road_stretches_others f_road_stretches_spaces f_road_stretches_times x1 x2 post) {sz : Nat} : Met l yX9_lasts (Cond.code yX9_lasts cX9_lasts 3 (some (.int)) :: GW) (rmd 4 0 0) (PW D cI cJ cS ad adK [.ref a_o, .int x1, .int x2] (wX9_lasts cI cJ cS a_o a_refused a_road a_road_stretches a_road_stretches_kinds a_road_stretches_others a_road_stretches_spaces a_road_stretches_times z_kept z_ahead z_shelves z_cutting z_acting z_road_cars z_road_tunes z_road_demands v_imaged v_lastFault f_refused v_road_drawSeed v_road_stretches_stretchCount f_road_stretches_kinds f_road_stretches_others f_road_stretches_spaces f_road_stretches_times) sz) (va_Qi (fun r (u : (Nat → Int32)) => post r u) (fun u t => va_P D vwCl (wX9_lasts cI cJ cS a_o a_refused a_road a_road_stretches a_road_stretches_kinds a_road_stretches_others a_road_stretches_spaces a_road_stretches_times z_kept z_ahead z_shelves z_cutting z_acting z_road_cars z_road_tunes z_road_demands v_imaged v_lastFault u v_road_drawSeed v_road_stretches_stretchCount f_road_stretches_kinds f_road_stretches_others f_road_stretches_spaces f_road_stretches_times) t.heap) (va_A (wX9_lasts cI cJ cS a_o a_refused a_road a_road_stretches a_road_stretches_kinds a_road_stretches_others a_road_stretches_spaces a_road_stretches_times z_kept z_ahead z_shelves z_cutting z_acting z_road_cars z_road_tunes z_road_demands v_imaged v_lastFault f_refused v_road_drawSeed v_road_stretches_stretchCount f_road_stretches_kinds f_road_stretches_others f_road_stretches_spaces f_road_stretches_times) sz)) 0 0 (va_A (wX9_lasts cI cJ cS a_o a_refused a_road a_road_stretches a_road_stretches_kinds a_road_stretches_others a_road_stretches_spaces a_road_stretches_times z_kept z_ahead z_shelves z_cutting z_acting z_road_cars z_road_tunes z_road_demands v_imaged v_lastFault f_refused v_road_drawSeed v_road_stretches_stretchCount f_road_stretches_kinds f_road_stretches_others f_road_stretches_spaces f_road_stretches_times) sz) := by
  refine Met.rw (Qc := fun A => (va_Qi (fun r (u : (Nat → Int32)) => post r u) (fun u t => va_P D vwCl (wX9_lasts cI cJ cS a_o a_refused a_road a_road_stretches a_road_stretches_kinds a_road_stretches_others a_road_stretches_spaces a_road_stretches_times z_kept z_ahead z_shelves z_cutting z_acting z_road_cars z_road_tunes z_road_demands v_imaged v_lastFault u v_road_drawSeed v_road_stretches_stretchCount f_road_stretches_kinds f_road_stretches_others f_road_stretches_spaces f_road_stretches_times) t.heap) A)) (by decide) (Nat.le_of_ble_eq_true rfl) (fun p e s m args below meth c ls A (S : CallFix p m c cX9_lasts 3 s args GW "RoadThatSings") hE hT hP hD hA hS hr hlocks hname hl => ?_)
  have hS0 := hS
  have hx := S.1
  have hb := S.2.1
  have hl : lv_has ls 3 [(0, .ref a_o), (1, .int x1), (2, .int x2)] := hl
  unfold F_X9_lasts at h
  refine lv_aload_n hx hb dX9_lasts_0 rfl (lv_at hl 0 rfl) ?_
  refine gf S hE hP 0 rfl rfl inX9 (k := 0) (by decide) q181 rfl dX9_lasts_1 ?_
  refine gfN S hE hP 2 rfl rfl inX5 (k := 0) (by decide) nfX9_106 rfl dX9_lasts_4 ?_
  refine lv_iload_n hx hb dX9_lasts_7 rfl (lv_at hl 1 rfl) ?_
  refine ro_i (roV S hE hT hS (c_X7_has h) lkX9_110 rfl ⟨(Nat.le_of_ble_eq_true rfl), (Nat.le_of_ble_eq_true rfl)⟩ (hP.sub [3] rfl) 0 rfl rfl hl.1 rfl (Nat.le_of_ble_eq_true rfl) dX9_lasts_8 ⟨(Nat.zero_le _), (Nat.zero_le _)⟩) (fun r8 h => ?_)
  refine lv_if_ne (tgt := 20) hx hb dX9_lasts_11 (by decide) (fun hc => ?_) (fun hc => ?_)
  · have h := h.2 hc
    refine lv_iload_n hx hb dX9_lasts_20 rfl (lv_at hl 2 rfl) ?_
    refine ro_i (roS S hE hT hS (c_X9_isSpeed h) lkX9_177 rfl ⟨(Nat.le_of_ble_eq_true rfl), (Nat.le_of_ble_eq_true rfl)⟩ (hP.sub [] rfl) hl.1 rfl (Nat.le_of_ble_eq_true rfl) dX9_lasts_21 ⟨(Nat.zero_le _), (Nat.zero_le _)⟩) (fun r21 h => ?_)
    refine lv_if_eq (tgt := 42) hx hb dX9_lasts_24 (by decide) (fun hc => ?_) (fun hc => ?_)
    · have h := h.1 hc
      refine lv_aload_n hx hb dX9_lasts_42 rfl (lv_at hl 0 rfl) ?_
      refine lv_bipush (v := (-6)) hx hb dX9_lasts_43 (by decide) ?_
      refine rw_i (rwV S hE hT hS hP hD hA (c_X9_refuse h) [0, 1] rfl (by decide) lkX9_59 rfl ⟨(Nat.le_of_ble_eq_true rfl), (Nat.le_of_ble_eq_true rfl)⟩ 0 rfl rfl hl.1 rfl (Nat.le_of_ble_eq_true rfl) dX9_lasts_45 ⟨(Nat.zero_le _), (Nat.zero_le _)⟩) hP hD hS hA [0, 1] rfl (by decide) (fun _ => rfl) (fun r45 w45_0 H locs h hP hD hS => ?_)
      try dsimp only at h
      have hP : va_P D vwCl (wX9_lasts cI cJ cS a_o a_refused a_road a_road_stretches a_road_stretches_kinds a_road_stretches_others a_road_stretches_spaces a_road_stretches_times z_kept z_ahead z_shelves z_cutting z_acting z_road_cars z_road_tunes z_road_demands v_imaged v_lastFault w45_0 v_road_drawSeed v_road_stretches_stretchCount f_road_stretches_kinds f_road_stretches_others f_road_stretches_spaces f_road_stretches_times) H := hP
      have hD : va_D A (wX9_lasts cI cJ cS a_o a_refused a_road a_road_stretches a_road_stretches_kinds a_road_stretches_others a_road_stretches_spaces a_road_stretches_times z_kept z_ahead z_shelves z_cutting z_acting z_road_cars z_road_tunes z_road_demands v_imaged v_lastFault w45_0 v_road_drawSeed v_road_stretches_stretchCount f_road_stretches_kinds f_road_stretches_others f_road_stretches_spaces f_road_stretches_times) := hD
      exact W.iret hx hb hr (fun t ht _ => ⟨⟨_, w45_0, rfl, h, hPt hP ht⟩, hS.F ht⟩) hS.2.2 dX9_lasts_48
    have h := h.2 hc
    refine lv_aload_n hx hb dX9_lasts_27 rfl (lv_at hl 0 rfl) ?_
    refine gf S hE hP 0 rfl rfl inX9 (k := 0) (by decide) q181 rfl dX9_lasts_28 ?_
    refine gfN S hE hP 2 rfl rfl inX5 (k := 0) (by decide) nfX9_106 rfl dX9_lasts_31 ?_
    refine lv_iload_n hx hb dX9_lasts_34 rfl (lv_at hl 1 rfl) ?_
    refine lv_iload_n hx hb dX9_lasts_35 rfl (lv_at hl 2 rfl) ?_
    refine ro_i (roV S hE hT hS (c_X7_lastingOf h) lkX9_265 rfl ⟨(Nat.le_of_ble_eq_true rfl), (Nat.le_of_ble_eq_true rfl)⟩ (hP.sub [3, 4, 5, 6, 7] rfl) 0 rfl rfl hl.1 rfl (Nat.le_of_ble_eq_true rfl) dX9_lasts_36 ⟨(Nat.zero_le _), (Nat.zero_le _)⟩) (fun r36 h => ?_)
    refine lv_goto (tgt := 48) hx hb dX9_lasts_39 (by decide) ?_
    exact W.iret hx hb hr (fun t ht _ => ⟨⟨_, f_refused, rfl, h, hPt hP ht⟩, hS.F ht⟩) hS.2.2 dX9_lasts_48
  have h := h.1 hc
  refine lv_aload_n hx hb dX9_lasts_14 rfl (lv_at hl 0 rfl) ?_
  refine lv_iconst (v := (-1)) hx hb dX9_lasts_15 (by decide) ?_
  refine rw_i (rwV S hE hT hS hP hD hA (c_X9_refuse h) [0, 1] rfl (by decide) lkX9_59 rfl ⟨(Nat.le_of_ble_eq_true rfl), (Nat.le_of_ble_eq_true rfl)⟩ 0 rfl rfl hl.1 rfl (Nat.le_of_ble_eq_true rfl) dX9_lasts_16 ⟨(Nat.zero_le _), (Nat.zero_le _)⟩) hP hD hS hA [0, 1] rfl (by decide) (fun _ => rfl) (fun r16 w16_0 H locs h hP hD hS => ?_)
  try dsimp only at h
  have hP : va_P D vwCl (wX9_lasts cI cJ cS a_o a_refused a_road a_road_stretches a_road_stretches_kinds a_road_stretches_others a_road_stretches_spaces a_road_stretches_times z_kept z_ahead z_shelves z_cutting z_acting z_road_cars z_road_tunes z_road_demands v_imaged v_lastFault w16_0 v_road_drawSeed v_road_stretches_stretchCount f_road_stretches_kinds f_road_stretches_others f_road_stretches_spaces f_road_stretches_times) H := hP
  have hD : va_D A (wX9_lasts cI cJ cS a_o a_refused a_road a_road_stretches a_road_stretches_kinds a_road_stretches_others a_road_stretches_spaces a_road_stretches_times z_kept z_ahead z_shelves z_cutting z_acting z_road_cars z_road_tunes z_road_demands v_imaged v_lastFault w16_0 v_road_drawSeed v_road_stretches_stretchCount f_road_stretches_kinds f_road_stretches_others f_road_stretches_spaces f_road_stretches_times) := hD
  exact W.iret hx hb hr (fun t ht _ => ⟨⟨_, w16_0, rfl, h, hPt hP ht⟩, hS.F ht⟩) hS.2.2 dX9_lasts_19
/-! X9_loud -/
abbrev wX9_loud (cI cJ cS : ClassId) (a_o a_refused a_road a_road_stretches a_road_stretches_kinds : Nat) (z_kept z_ahead z_shelves z_cutting z_acting z_road_cars z_road_tunes z_road_demands z_road_stretches_spaces z_road_stretches_others z_road_stretches_times : Value) (v_imaged : Int32) (v_lastFault : Int32) (f_refused : Nat → Int32) (v_road_drawSeed : Int32) (v_road_stretches_stretchCount : Int32) (f_road_stretches_kinds : Nat → Int32) : va_W := [(a_o, .inr (8, [.ref a_road, z_kept, z_ahead, z_shelves, z_cutting, z_acting, .ref a_refused, .int v_imaged, .int v_lastFault])), (a_refused, .inl (cI, 8, .inl f_refused)), (a_road, .inr (4, [.ref a_road_stretches, z_road_cars, z_road_tunes, z_road_demands, .int v_road_drawSeed])), (a_road_stretches, .inr (6, [.ref a_road_stretches_kinds, z_road_stretches_spaces, z_road_stretches_others, z_road_stretches_times, .int v_road_stretches_stretchCount])), (a_road_stretches_kinds, .inl (cI, 16, .inl f_road_stretches_kinds))]
def F_X9_loud (f_refused : Nat → Int32) (v_road_stretches_stretchCount : Int32) (f_road_stretches_kinds : Nat → Int32) (x1 : Int32) (x2 : Int32) (post : Int32 → (Nat → Int32) → Prop) : Prop := (F_X7_has v_road_stretches_stretchCount x1 (fun r8 => ((r8 = 0 → (F_X9_refuse f_refused (-1) (fun r16 w16_0 => post r16 w16_0))) ∧ (¬ r8 = 0 → (F_X9_within x2 0 50 (fun r24 => ((r24 = 0 → (F_X9_refuse f_refused (-6) (fun r48 w48_0 => post r48 w48_0))) ∧ (¬ r24 = 0 → (F_X7_loudnessOf v_road_stretches_stretchCount f_road_stretches_kinds x1 x2 (fun r39 => post r39 f_refused))))))))))
set_option maxHeartbeats 4000000 in
set_option maxRecDepth 100000 in
theorem c_X9_loud {l : Launch} {D : va_G} {cI cJ cS : ClassId} {ad adK : Nat → Nat} {a_o a_refused a_road a_road_stretches a_road_stretches_kinds : Nat} {z_kept z_ahead z_shelves z_cutting z_acting z_road_cars z_road_tunes z_road_demands z_road_stretches_spaces z_road_stretches_others z_road_stretches_times : Value} {v_imaged : Int32} {v_lastFault : Int32} {f_refused : Nat → Int32} {v_road_drawSeed : Int32} {v_road_stretches_stretchCount : Int32} {f_road_stretches_kinds : Nat → Int32} {x1 : Int32} {x2 : Int32} {post : Int32 → (Nat → Int32) → Prop} (h : F_X9_loud f_refused v_road_stretches_stretchCount f_road_stretches_kinds x1 x2 post) {sz : Nat} : Met l yX9_loud (Cond.code yX9_loud cX9_loud 3 (some (.int)) :: GW) (rmd 4 0 0) (PW D cI cJ cS ad adK [.ref a_o, .int x1, .int x2] (wX9_loud cI cJ cS a_o a_refused a_road a_road_stretches a_road_stretches_kinds z_kept z_ahead z_shelves z_cutting z_acting z_road_cars z_road_tunes z_road_demands z_road_stretches_spaces z_road_stretches_others z_road_stretches_times v_imaged v_lastFault f_refused v_road_drawSeed v_road_stretches_stretchCount f_road_stretches_kinds) sz) (va_Qi (fun r (u : (Nat → Int32)) => post r u) (fun u t => va_P D vwCl (wX9_loud cI cJ cS a_o a_refused a_road a_road_stretches a_road_stretches_kinds z_kept z_ahead z_shelves z_cutting z_acting z_road_cars z_road_tunes z_road_demands z_road_stretches_spaces z_road_stretches_others z_road_stretches_times v_imaged v_lastFault u v_road_drawSeed v_road_stretches_stretchCount f_road_stretches_kinds) t.heap) (va_A (wX9_loud cI cJ cS a_o a_refused a_road a_road_stretches a_road_stretches_kinds z_kept z_ahead z_shelves z_cutting z_acting z_road_cars z_road_tunes z_road_demands z_road_stretches_spaces z_road_stretches_others z_road_stretches_times v_imaged v_lastFault f_refused v_road_drawSeed v_road_stretches_stretchCount f_road_stretches_kinds) sz)) 0 0 (va_A (wX9_loud cI cJ cS a_o a_refused a_road a_road_stretches a_road_stretches_kinds z_kept z_ahead z_shelves z_cutting z_acting z_road_cars z_road_tunes z_road_demands z_road_stretches_spaces z_road_stretches_others z_road_stretches_times v_imaged v_lastFault f_refused v_road_drawSeed v_road_stretches_stretchCount f_road_stretches_kinds) sz) := by
  refine Met.rw (Qc := fun A => (va_Qi (fun r (u : (Nat → Int32)) => post r u) (fun u t => va_P D vwCl (wX9_loud cI cJ cS a_o a_refused a_road a_road_stretches a_road_stretches_kinds z_kept z_ahead z_shelves z_cutting z_acting z_road_cars z_road_tunes z_road_demands z_road_stretches_spaces z_road_stretches_others z_road_stretches_times v_imaged v_lastFault u v_road_drawSeed v_road_stretches_stretchCount f_road_stretches_kinds) t.heap) A)) (by decide) (Nat.le_of_ble_eq_true rfl) (fun p e s m args below meth c ls A (S : CallFix p m c cX9_loud 3 s args GW "RoadThatSings") hE hT hP hD hA hS hr hlocks hname hl => ?_)
  have hS0 := hS
  have hx := S.1
  have hb := S.2.1
  have hl : lv_has ls 3 [(0, .ref a_o), (1, .int x1), (2, .int x2)] := hl
  unfold F_X9_loud at h
  refine lv_aload_n hx hb dX9_loud_0 rfl (lv_at hl 0 rfl) ?_
  refine gf S hE hP 0 rfl rfl inX9 (k := 0) (by decide) q181 rfl dX9_loud_1 ?_
  refine gfN S hE hP 2 rfl rfl inX5 (k := 0) (by decide) nfX9_106 rfl dX9_loud_4 ?_
  refine lv_iload_n hx hb dX9_loud_7 rfl (lv_at hl 1 rfl) ?_
  refine ro_i (roV S hE hT hS (c_X7_has h) lkX9_110 rfl ⟨(Nat.le_of_ble_eq_true rfl), (Nat.le_of_ble_eq_true rfl)⟩ (hP.sub [3] rfl) 0 rfl rfl hl.1 rfl (Nat.le_of_ble_eq_true rfl) dX9_loud_8 ⟨(Nat.zero_le _), (Nat.zero_le _)⟩) (fun r8 h => ?_)
  refine lv_if_ne (tgt := 20) hx hb dX9_loud_11 (by decide) (fun hc => ?_) (fun hc => ?_)
  · have h := h.2 hc
    refine lv_iload_n hx hb dX9_loud_20 rfl (lv_at hl 2 rfl) ?_
    refine lv_iconst (v := 0) hx hb dX9_loud_21 (by decide) ?_
    refine lv_bipush (v := 50) hx hb dX9_loud_22 (by decide) ?_
    refine ro_i (roS S hE hT hS (c_X9_within h) lkX9_63 rfl ⟨(Nat.le_of_ble_eq_true rfl), (Nat.le_of_ble_eq_true rfl)⟩ (hP.sub [] rfl) hl.1 rfl (Nat.le_of_ble_eq_true rfl) dX9_loud_24 ⟨(Nat.zero_le _), (Nat.zero_le _)⟩) (fun r24 h => ?_)
    refine lv_if_eq (tgt := 45) hx hb dX9_loud_27 (by decide) (fun hc => ?_) (fun hc => ?_)
    · have h := h.1 hc
      refine lv_aload_n hx hb dX9_loud_45 rfl (lv_at hl 0 rfl) ?_
      refine lv_bipush (v := (-6)) hx hb dX9_loud_46 (by decide) ?_
      refine rw_i (rwV S hE hT hS hP hD hA (c_X9_refuse h) [0, 1] rfl (by decide) lkX9_59 rfl ⟨(Nat.le_of_ble_eq_true rfl), (Nat.le_of_ble_eq_true rfl)⟩ 0 rfl rfl hl.1 rfl (Nat.le_of_ble_eq_true rfl) dX9_loud_48 ⟨(Nat.zero_le _), (Nat.zero_le _)⟩) hP hD hS hA [0, 1] rfl (by decide) (fun _ => rfl) (fun r48 w48_0 H locs h hP hD hS => ?_)
      try dsimp only at h
      have hP : va_P D vwCl (wX9_loud cI cJ cS a_o a_refused a_road a_road_stretches a_road_stretches_kinds z_kept z_ahead z_shelves z_cutting z_acting z_road_cars z_road_tunes z_road_demands z_road_stretches_spaces z_road_stretches_others z_road_stretches_times v_imaged v_lastFault w48_0 v_road_drawSeed v_road_stretches_stretchCount f_road_stretches_kinds) H := hP
      have hD : va_D A (wX9_loud cI cJ cS a_o a_refused a_road a_road_stretches a_road_stretches_kinds z_kept z_ahead z_shelves z_cutting z_acting z_road_cars z_road_tunes z_road_demands z_road_stretches_spaces z_road_stretches_others z_road_stretches_times v_imaged v_lastFault w48_0 v_road_drawSeed v_road_stretches_stretchCount f_road_stretches_kinds) := hD
      exact W.iret hx hb hr (fun t ht _ => ⟨⟨_, w48_0, rfl, h, hPt hP ht⟩, hS.F ht⟩) hS.2.2 dX9_loud_51
    have h := h.2 hc
    refine lv_aload_n hx hb dX9_loud_30 rfl (lv_at hl 0 rfl) ?_
    refine gf S hE hP 0 rfl rfl inX9 (k := 0) (by decide) q181 rfl dX9_loud_31 ?_
    refine gfN S hE hP 2 rfl rfl inX5 (k := 0) (by decide) nfX9_106 rfl dX9_loud_34 ?_
    refine lv_iload_n hx hb dX9_loud_37 rfl (lv_at hl 1 rfl) ?_
    refine lv_iload_n hx hb dX9_loud_38 rfl (lv_at hl 2 rfl) ?_
    refine ro_i (roV S hE hT hS (c_X7_loudnessOf h) lkX9_268 rfl ⟨(Nat.le_of_ble_eq_true rfl), (Nat.le_of_ble_eq_true rfl)⟩ (hP.sub [3, 4] rfl) 0 rfl rfl hl.1 rfl (Nat.le_of_ble_eq_true rfl) dX9_loud_39 ⟨(Nat.zero_le _), (Nat.zero_le _)⟩) (fun r39 h => ?_)
    refine lv_goto (tgt := 51) hx hb dX9_loud_42 (by decide) ?_
    exact W.iret hx hb hr (fun t ht _ => ⟨⟨_, f_refused, rfl, h, hPt hP ht⟩, hS.F ht⟩) hS.2.2 dX9_loud_51
  have h := h.1 hc
  refine lv_aload_n hx hb dX9_loud_14 rfl (lv_at hl 0 rfl) ?_
  refine lv_iconst (v := (-1)) hx hb dX9_loud_15 (by decide) ?_
  refine rw_i (rwV S hE hT hS hP hD hA (c_X9_refuse h) [0, 1] rfl (by decide) lkX9_59 rfl ⟨(Nat.le_of_ble_eq_true rfl), (Nat.le_of_ble_eq_true rfl)⟩ 0 rfl rfl hl.1 rfl (Nat.le_of_ble_eq_true rfl) dX9_loud_16 ⟨(Nat.zero_le _), (Nat.zero_le _)⟩) hP hD hS hA [0, 1] rfl (by decide) (fun _ => rfl) (fun r16 w16_0 H locs h hP hD hS => ?_)
  try dsimp only at h
  have hP : va_P D vwCl (wX9_loud cI cJ cS a_o a_refused a_road a_road_stretches a_road_stretches_kinds z_kept z_ahead z_shelves z_cutting z_acting z_road_cars z_road_tunes z_road_demands z_road_stretches_spaces z_road_stretches_others z_road_stretches_times v_imaged v_lastFault w16_0 v_road_drawSeed v_road_stretches_stretchCount f_road_stretches_kinds) H := hP
  have hD : va_D A (wX9_loud cI cJ cS a_o a_refused a_road a_road_stretches a_road_stretches_kinds z_kept z_ahead z_shelves z_cutting z_acting z_road_cars z_road_tunes z_road_demands z_road_stretches_spaces z_road_stretches_others z_road_stretches_times v_imaged v_lastFault w16_0 v_road_drawSeed v_road_stretches_stretchCount f_road_stretches_kinds) := hD
  exact W.iret hx hb hr (fun t ht _ => ⟨⟨_, w16_0, rfl, h, hPt hP ht⟩, hS.F ht⟩) hS.2.2 dX9_loud_19
/-! X9_off -/
abbrev wX9_off (cI cJ cS : ClassId) (a_o a_refused : Nat) (z_road z_kept z_ahead z_shelves z_cutting z_acting : Value) (v_imaged : Int32) (v_lastFault : Int32) (f_refused : Nat → Int32) : va_W := [(a_o, .inr (8, [z_road, z_kept, z_ahead, z_shelves, z_cutting, z_acting, .ref a_refused, .int v_imaged, .int v_lastFault])), (a_refused, .inl (cI, 8, .inl f_refused))]
def F_X9_off (f_refused : Nat → Int32) (x1 : Int32) (x2 : Int32) (post : Int32 → (Nat → Int32) → Prop) : Prop := (F_X9_within x1 0 99999 (fun r5 => ((r5 = 0 → (F_X9_refuse f_refused (-6) (fun r25 w25_0 => post r25 w25_0))) ∧ (¬ r5 = 0 → (F_X9_within x2 0 99999 (fun r16 => ((r16 = 0 → (F_X9_refuse f_refused (-6) (fun r25 w25_0 => post r25 w25_0))) ∧ (¬ r16 = 0 → (F_X9_offBetween x1 x2 (fun r31 => post r31 f_refused))))))))))
set_option maxHeartbeats 4000000 in
set_option maxRecDepth 100000 in
theorem c_X9_off {l : Launch} {D : va_G} {cI cJ cS : ClassId} {ad adK : Nat → Nat} {a_o a_refused : Nat} {z_road z_kept z_ahead z_shelves z_cutting z_acting : Value} {v_imaged : Int32} {v_lastFault : Int32} {f_refused : Nat → Int32} {x1 : Int32} {x2 : Int32} {post : Int32 → (Nat → Int32) → Prop} (h : F_X9_off f_refused x1 x2 post) {sz : Nat} : Met l yX9_off (Cond.code yX9_off cX9_off 3 (some (.int)) :: GW) (rmd 3 0 0) (PW D cI cJ cS ad adK [.ref a_o, .int x1, .int x2] (wX9_off cI cJ cS a_o a_refused z_road z_kept z_ahead z_shelves z_cutting z_acting v_imaged v_lastFault f_refused) sz) (va_Qi (fun r (u : (Nat → Int32)) => post r u) (fun u t => va_P D vwCl (wX9_off cI cJ cS a_o a_refused z_road z_kept z_ahead z_shelves z_cutting z_acting v_imaged v_lastFault u) t.heap) (va_A (wX9_off cI cJ cS a_o a_refused z_road z_kept z_ahead z_shelves z_cutting z_acting v_imaged v_lastFault f_refused) sz)) 0 0 (va_A (wX9_off cI cJ cS a_o a_refused z_road z_kept z_ahead z_shelves z_cutting z_acting v_imaged v_lastFault f_refused) sz) := by
  refine Met.rw (Qc := fun A => (va_Qi (fun r (u : (Nat → Int32)) => post r u) (fun u t => va_P D vwCl (wX9_off cI cJ cS a_o a_refused z_road z_kept z_ahead z_shelves z_cutting z_acting v_imaged v_lastFault u) t.heap) A)) (by decide) (Nat.le_of_ble_eq_true rfl) (fun p e s m args below meth c ls A (S : CallFix p m c cX9_off 3 s args GW "RoadThatSings") hE hT hP hD hA hS hr hlocks hname hl => ?_)
  have hS0 := hS
  have hx := S.1
  have hb := S.2.1
  have hl : lv_has ls 3 [(0, .ref a_o), (1, .int x1), (2, .int x2)] := hl
  unfold F_X9_off at h
  refine lv_iload_n hx hb dX9_off_0 rfl (lv_at hl 1 rfl) ?_
  refine lv_iconst (v := 0) hx hb dX9_off_1 (by decide) ?_
  refine lv_ldcw (v := 99999) hx hb S.2.2.2.1 (S.2.2.2.2 _ q751) dX9_off_2 ?_
  refine ro_i (roS S hE hT hS (c_X9_within h) lkX9_63 rfl ⟨(Nat.le_of_ble_eq_true rfl), (Nat.le_of_ble_eq_true rfl)⟩ (hP.sub [] rfl) hl.1 rfl (Nat.le_of_ble_eq_true rfl) dX9_off_5 ⟨(Nat.zero_le _), (Nat.zero_le _)⟩) (fun r5 h => ?_)
  refine lv_if_eq (tgt := 22) hx hb dX9_off_8 (by decide) (fun hc => ?_) (fun hc => ?_)
  · have h := h.1 hc
    refine lv_aload_n hx hb dX9_off_22 rfl (lv_at hl 0 rfl) ?_
    refine lv_bipush (v := (-6)) hx hb dX9_off_23 (by decide) ?_
    refine rw_i (rwV S hE hT hS hP hD hA (c_X9_refuse h) [0, 1] rfl (by decide) lkX9_59 rfl ⟨(Nat.le_of_ble_eq_true rfl), (Nat.le_of_ble_eq_true rfl)⟩ 0 rfl rfl hl.1 rfl (Nat.le_of_ble_eq_true rfl) dX9_off_25 ⟨(Nat.zero_le _), (Nat.zero_le _)⟩) hP hD hS hA [0, 1] rfl (by decide) (fun _ => rfl) (fun r25 w25_0 H locs h hP hD hS => ?_)
    try dsimp only at h
    have hP : va_P D vwCl (wX9_off cI cJ cS a_o a_refused z_road z_kept z_ahead z_shelves z_cutting z_acting v_imaged v_lastFault w25_0) H := hP
    have hD : va_D A (wX9_off cI cJ cS a_o a_refused z_road z_kept z_ahead z_shelves z_cutting z_acting v_imaged v_lastFault w25_0) := hD
    exact W.iret hx hb hr (fun t ht _ => ⟨⟨_, w25_0, rfl, h, hPt hP ht⟩, hS.F ht⟩) hS.2.2 dX9_off_28
  have h := h.2 hc
  refine lv_iload_n hx hb dX9_off_11 rfl (lv_at hl 2 rfl) ?_
  refine lv_iconst (v := 0) hx hb dX9_off_12 (by decide) ?_
  refine lv_ldcw (v := 99999) hx hb S.2.2.2.1 (S.2.2.2.2 _ q751) dX9_off_13 ?_
  refine ro_i (roS S hE hT hS (c_X9_within h) lkX9_63 rfl ⟨(Nat.le_of_ble_eq_true rfl), (Nat.le_of_ble_eq_true rfl)⟩ (hP.sub [] rfl) hl.1 rfl (Nat.le_of_ble_eq_true rfl) dX9_off_16 ⟨(Nat.zero_le _), (Nat.zero_le _)⟩) (fun r16 h => ?_)
  refine lv_if_ne (tgt := 29) hx hb dX9_off_19 (by decide) (fun hc => ?_) (fun hc => ?_)
  · have h := h.2 hc
    refine lv_iload_n hx hb dX9_off_29 rfl (lv_at hl 1 rfl) ?_
    refine lv_iload_n hx hb dX9_off_30 rfl (lv_at hl 2 rfl) ?_
    refine ro_i (roS S hE hT hS (c_X9_offBetween h) lkX9_272 rfl ⟨(Nat.le_of_ble_eq_true rfl), (Nat.le_of_ble_eq_true rfl)⟩ (hP.sub [] rfl) hl.1 rfl (Nat.le_of_ble_eq_true rfl) dX9_off_31 ⟨(Nat.zero_le _), (Nat.zero_le _)⟩) (fun r31 h => ?_)
    exact W.iret hx hb hr (fun t ht _ => ⟨⟨_, f_refused, rfl, h, hPt hP ht⟩, hS.F ht⟩) hS.2.2 dX9_off_34
  have h := h.1 hc
  refine lv_aload_n hx hb dX9_off_22 rfl (lv_at hl 0 rfl) ?_
  refine lv_bipush (v := (-6)) hx hb dX9_off_23 (by decide) ?_
  refine rw_i (rwV S hE hT hS hP hD hA (c_X9_refuse h) [0, 1] rfl (by decide) lkX9_59 rfl ⟨(Nat.le_of_ble_eq_true rfl), (Nat.le_of_ble_eq_true rfl)⟩ 0 rfl rfl hl.1 rfl (Nat.le_of_ble_eq_true rfl) dX9_off_25 ⟨(Nat.zero_le _), (Nat.zero_le _)⟩) hP hD hS hA [0, 1] rfl (by decide) (fun _ => rfl) (fun r25 w25_0 H locs h hP hD hS => ?_)
  try dsimp only at h
  have hP : va_P D vwCl (wX9_off cI cJ cS a_o a_refused z_road z_kept z_ahead z_shelves z_cutting z_acting v_imaged v_lastFault w25_0) H := hP
  have hD : va_D A (wX9_off cI cJ cS a_o a_refused z_road z_kept z_ahead z_shelves z_cutting z_acting v_imaged v_lastFault w25_0) := hD
  exact W.iret hx hb hr (fun t ht _ => ⟨⟨_, w25_0, rfl, h, hPt hP ht⟩, hS.F ht⟩) hS.2.2 dX9_off_28
/-! X9_note -/
abbrev wX9_note (cI cJ cS : ClassId) (a_o a_refused a_road a_road_cars a_road_cars_speeds a_road_stretches a_road_stretches_kinds a_road_stretches_others a_road_stretches_spaces a_road_tunes a_road_tunes_noteCounts a_road_tunes_pitches : Nat) (z_kept z_ahead z_shelves z_cutting z_acting z_road_demands z_road_cars_bases z_road_cars_shares z_road_stretches_times z_road_tunes_beats : Value) (v_imaged : Int32) (v_lastFault : Int32) (f_refused : Nat → Int32) (v_road_drawSeed : Int32) (v_road_cars_carCount : Int32) (f_road_cars_speeds : Nat → Int32) (v_road_stretches_stretchCount : Int32) (f_road_stretches_kinds : Nat → Int32) (f_road_stretches_others : Nat → Int32) (f_road_stretches_spaces : Nat → Int32) (v_road_tunes_tuneCount : Int32) (f_road_tunes_noteCounts : Nat → Int32) (f_road_tunes_pitches : Nat → Int32) : va_W := [(a_o, .inr (8, [.ref a_road, z_kept, z_ahead, z_shelves, z_cutting, z_acting, .ref a_refused, .int v_imaged, .int v_lastFault])), (a_refused, .inl (cI, 8, .inl f_refused)), (a_road, .inr (4, [.ref a_road_stretches, .ref a_road_cars, .ref a_road_tunes, z_road_demands, .int v_road_drawSeed])), (a_road_cars, .inr (1, [.ref a_road_cars_speeds, z_road_cars_bases, z_road_cars_shares, .int v_road_cars_carCount])), (a_road_cars_speeds, .inl (cI, 6, .inl f_road_cars_speeds)), (a_road_stretches, .inr (6, [.ref a_road_stretches_kinds, .ref a_road_stretches_spaces, .ref a_road_stretches_others, z_road_stretches_times, .int v_road_stretches_stretchCount])), (a_road_stretches_kinds, .inl (cI, 16, .inl f_road_stretches_kinds)), (a_road_stretches_others, .inl (cI, 16, .inl f_road_stretches_others)), (a_road_stretches_spaces, .inl (cI, 16, .inl f_road_stretches_spaces)), (a_road_tunes, .inr (7, [.ref a_road_tunes_pitches, z_road_tunes_beats, .ref a_road_tunes_noteCounts, .int v_road_tunes_tuneCount])), (a_road_tunes_noteCounts, .inl (cI, 6, .inl f_road_tunes_noteCounts)), (a_road_tunes_pitches, .inl (cI, 72, .inl f_road_tunes_pitches))]
def F_X9_note (f_refused : Nat → Int32) (v_road_cars_carCount : Int32) (f_road_cars_speeds : Nat → Int32) (v_road_stretches_stretchCount : Int32) (f_road_stretches_kinds : Nat → Int32) (f_road_stretches_others : Nat → Int32) (f_road_stretches_spaces : Nat → Int32) (v_road_tunes_tuneCount : Int32) (f_road_tunes_noteCounts : Nat → Int32) (f_road_tunes_pitches : Nat → Int32) (x1 : Int32) (x2 : Int32) (x3 : Int32) (post : Int32 → (Nat → Int32) → Prop) : Prop := (F_X1_has v_road_cars_carCount x1 (fun r8 => ((r8 = 0 → (F_X9_refuse f_refused (-1) (fun r31 w31_0 => post r31 w31_0))) ∧ (¬ r8 = 0 → (F_X8_hasNote v_road_tunes_tuneCount f_road_tunes_noteCounts x2 x3 (fun r23 => ((r23 = 0 → (F_X9_refuse f_refused (-1) (fun r31 w31_0 => post r31 w31_0))) ∧ (¬ r23 = 0 → (F_X5_offOfNote v_road_cars_carCount f_road_cars_speeds v_road_stretches_stretchCount f_road_stretches_kinds f_road_stretches_others f_road_stretches_spaces v_road_tunes_tuneCount f_road_tunes_noteCounts f_road_tunes_pitches x1 x2 x3 (fun r42 => post r42 f_refused))))))))))
set_option maxHeartbeats 4000000 in
set_option maxRecDepth 100000 in
theorem c_X9_note {l : Launch} {D : va_G} {cI cJ cS : ClassId} {ad adK : Nat → Nat} {a_o a_refused a_road a_road_cars a_road_cars_speeds a_road_stretches a_road_stretches_kinds a_road_stretches_others a_road_stretches_spaces a_road_tunes a_road_tunes_noteCounts a_road_tunes_pitches : Nat} {z_kept z_ahead z_shelves z_cutting z_acting z_road_demands z_road_cars_bases z_road_cars_shares z_road_stretches_times z_road_tunes_beats : Value} {v_imaged : Int32} {v_lastFault : Int32} {f_refused : Nat → Int32} {v_road_drawSeed : Int32} {v_road_cars_carCount : Int32} {f_road_cars_speeds : Nat → Int32} {v_road_stretches_stretchCount : Int32} {f_road_stretches_kinds : Nat → Int32} {f_road_stretches_others : Nat → Int32} {f_road_stretches_spaces : Nat → Int32} {v_road_tunes_tuneCount : Int32} {f_road_tunes_noteCounts : Nat → Int32} {f_road_tunes_pitches : Nat → Int32} {x1 : Int32} {x2 : Int32} {x3 : Int32} {post : Int32 → (Nat → Int32) → Prop} (h : F_X9_note f_refused v_road_cars_carCount f_road_cars_speeds v_road_stretches_stretchCount f_road_stretches_kinds f_road_stretches_others f_road_stretches_spaces v_road_tunes_tuneCount f_road_tunes_noteCounts f_road_tunes_pitches x1 x2 x3 post) {sz : Nat} : Met l yX9_note (Cond.code yX9_note cX9_note 4 (some (.int)) :: GW) (rmd 4 0 0) (PW D cI cJ cS ad adK [.ref a_o, .int x1, .int x2, .int x3] (wX9_note cI cJ cS a_o a_refused a_road a_road_cars a_road_cars_speeds a_road_stretches a_road_stretches_kinds a_road_stretches_others a_road_stretches_spaces a_road_tunes a_road_tunes_noteCounts a_road_tunes_pitches z_kept z_ahead z_shelves z_cutting z_acting z_road_demands z_road_cars_bases z_road_cars_shares z_road_stretches_times z_road_tunes_beats v_imaged v_lastFault f_refused v_road_drawSeed v_road_cars_carCount f_road_cars_speeds v_road_stretches_stretchCount f_road_stretches_kinds f_road_stretches_others f_road_stretches_spaces v_road_tunes_tuneCount f_road_tunes_noteCounts f_road_tunes_pitches) sz) (va_Qi (fun r (u : (Nat → Int32)) => post r u) (fun u t => va_P D vwCl (wX9_note cI cJ cS a_o a_refused a_road a_road_cars a_road_cars_speeds a_road_stretches a_road_stretches_kinds a_road_stretches_others a_road_stretches_spaces a_road_tunes a_road_tunes_noteCounts a_road_tunes_pitches z_kept z_ahead z_shelves z_cutting z_acting z_road_demands z_road_cars_bases z_road_cars_shares z_road_stretches_times z_road_tunes_beats v_imaged v_lastFault u v_road_drawSeed v_road_cars_carCount f_road_cars_speeds v_road_stretches_stretchCount f_road_stretches_kinds f_road_stretches_others f_road_stretches_spaces v_road_tunes_tuneCount f_road_tunes_noteCounts f_road_tunes_pitches) t.heap) (va_A (wX9_note cI cJ cS a_o a_refused a_road a_road_cars a_road_cars_speeds a_road_stretches a_road_stretches_kinds a_road_stretches_others a_road_stretches_spaces a_road_tunes a_road_tunes_noteCounts a_road_tunes_pitches z_kept z_ahead z_shelves z_cutting z_acting z_road_demands z_road_cars_bases z_road_cars_shares z_road_stretches_times z_road_tunes_beats v_imaged v_lastFault f_refused v_road_drawSeed v_road_cars_carCount f_road_cars_speeds v_road_stretches_stretchCount f_road_stretches_kinds f_road_stretches_others f_road_stretches_spaces v_road_tunes_tuneCount f_road_tunes_noteCounts f_road_tunes_pitches) sz)) 0 0 (va_A (wX9_note cI cJ cS a_o a_refused a_road a_road_cars a_road_cars_speeds a_road_stretches a_road_stretches_kinds a_road_stretches_others a_road_stretches_spaces a_road_tunes a_road_tunes_noteCounts a_road_tunes_pitches z_kept z_ahead z_shelves z_cutting z_acting z_road_demands z_road_cars_bases z_road_cars_shares z_road_stretches_times z_road_tunes_beats v_imaged v_lastFault f_refused v_road_drawSeed v_road_cars_carCount f_road_cars_speeds v_road_stretches_stretchCount f_road_stretches_kinds f_road_stretches_others f_road_stretches_spaces v_road_tunes_tuneCount f_road_tunes_noteCounts f_road_tunes_pitches) sz) := by
  refine Met.rw (Qc := fun A => (va_Qi (fun r (u : (Nat → Int32)) => post r u) (fun u t => va_P D vwCl (wX9_note cI cJ cS a_o a_refused a_road a_road_cars a_road_cars_speeds a_road_stretches a_road_stretches_kinds a_road_stretches_others a_road_stretches_spaces a_road_tunes a_road_tunes_noteCounts a_road_tunes_pitches z_kept z_ahead z_shelves z_cutting z_acting z_road_demands z_road_cars_bases z_road_cars_shares z_road_stretches_times z_road_tunes_beats v_imaged v_lastFault u v_road_drawSeed v_road_cars_carCount f_road_cars_speeds v_road_stretches_stretchCount f_road_stretches_kinds f_road_stretches_others f_road_stretches_spaces v_road_tunes_tuneCount f_road_tunes_noteCounts f_road_tunes_pitches) t.heap) A)) (by decide) (Nat.le_of_ble_eq_true rfl) (fun p e s m args below meth c ls A (S : CallFix p m c cX9_note 4 s args GW "RoadThatSings") hE hT hP hD hA hS hr hlocks hname hl => ?_)
  have hS0 := hS
  have hx := S.1
  have hb := S.2.1
  have hl : lv_has ls 4 [(0, .ref a_o), (1, .int x1), (2, .int x2), (3, .int x3)] := hl
  unfold F_X9_note at h
  refine lv_aload_n hx hb dX9_note_0 rfl (lv_at hl 0 rfl) ?_
  refine gf S hE hP 0 rfl rfl inX9 (k := 0) (by decide) q181 rfl dX9_note_1 ?_
  refine gfN S hE hP 2 rfl rfl inX5 (k := 1) (by decide) nfX9_180 rfl dX9_note_4 ?_
  refine lv_iload_n hx hb dX9_note_7 rfl (lv_at hl 1 rfl) ?_
  refine ro_i (roV S hE hT hS (c_X1_has h) lkX9_193 rfl ⟨(Nat.le_of_ble_eq_true rfl), (Nat.le_of_ble_eq_true rfl)⟩ (hP.sub [3] rfl) 0 rfl rfl hl.1 rfl (Nat.le_of_ble_eq_true rfl) dX9_note_8 ⟨(Nat.zero_le _), (Nat.zero_le _)⟩) (fun r8 h => ?_)
  refine lv_if_eq (tgt := 29) hx hb dX9_note_11 (by decide) (fun hc => ?_) (fun hc => ?_)
  · have h := h.1 hc
    refine lv_aload_n hx hb dX9_note_29 rfl (lv_at hl 0 rfl) ?_
    refine lv_iconst (v := (-1)) hx hb dX9_note_30 (by decide) ?_
    refine rw_i (rwV S hE hT hS hP hD hA (c_X9_refuse h) [0, 1] rfl (by decide) lkX9_59 rfl ⟨(Nat.le_of_ble_eq_true rfl), (Nat.le_of_ble_eq_true rfl)⟩ 0 rfl rfl hl.1 rfl (Nat.le_of_ble_eq_true rfl) dX9_note_31 ⟨(Nat.zero_le _), (Nat.zero_le _)⟩) hP hD hS hA [0, 1] rfl (by decide) (fun _ => rfl) (fun r31 w31_0 H locs h hP hD hS => ?_)
    try dsimp only at h
    have hP : va_P D vwCl (wX9_note cI cJ cS a_o a_refused a_road a_road_cars a_road_cars_speeds a_road_stretches a_road_stretches_kinds a_road_stretches_others a_road_stretches_spaces a_road_tunes a_road_tunes_noteCounts a_road_tunes_pitches z_kept z_ahead z_shelves z_cutting z_acting z_road_demands z_road_cars_bases z_road_cars_shares z_road_stretches_times z_road_tunes_beats v_imaged v_lastFault w31_0 v_road_drawSeed v_road_cars_carCount f_road_cars_speeds v_road_stretches_stretchCount f_road_stretches_kinds f_road_stretches_others f_road_stretches_spaces v_road_tunes_tuneCount f_road_tunes_noteCounts f_road_tunes_pitches) H := hP
    have hD : va_D A (wX9_note cI cJ cS a_o a_refused a_road a_road_cars a_road_cars_speeds a_road_stretches a_road_stretches_kinds a_road_stretches_others a_road_stretches_spaces a_road_tunes a_road_tunes_noteCounts a_road_tunes_pitches z_kept z_ahead z_shelves z_cutting z_acting z_road_demands z_road_cars_bases z_road_cars_shares z_road_stretches_times z_road_tunes_beats v_imaged v_lastFault w31_0 v_road_drawSeed v_road_cars_carCount f_road_cars_speeds v_road_stretches_stretchCount f_road_stretches_kinds f_road_stretches_others f_road_stretches_spaces v_road_tunes_tuneCount f_road_tunes_noteCounts f_road_tunes_pitches) := hD
    exact W.iret hx hb hr (fun t ht _ => ⟨⟨_, w31_0, rfl, h, hPt hP ht⟩, hS.F ht⟩) hS.2.2 dX9_note_34
  have h := h.2 hc
  refine lv_aload_n hx hb dX9_note_14 rfl (lv_at hl 0 rfl) ?_
  refine gf S hE hP 0 rfl rfl inX9 (k := 0) (by decide) q181 rfl dX9_note_15 ?_
  refine gfN S hE hP 2 rfl rfl inX5 (k := 2) (by decide) nfX9_209 rfl dX9_note_18 ?_
  refine lv_iload_n hx hb dX9_note_21 rfl (lv_at hl 2 rfl) ?_
  refine lv_iload_n hx hb dX9_note_22 rfl (lv_at hl 3 rfl) ?_
  refine ro_i (roV S hE hT hS (c_X8_hasNote h) lkX9_223 rfl ⟨(Nat.le_of_ble_eq_true rfl), (Nat.le_of_ble_eq_true rfl)⟩ (hP.sub [9, 10] rfl) 0 rfl rfl hl.1 rfl (Nat.le_of_ble_eq_true rfl) dX9_note_23 ⟨(Nat.zero_le _), (Nat.zero_le _)⟩) (fun r23 h => ?_)
  refine lv_if_ne (tgt := 35) hx hb dX9_note_26 (by decide) (fun hc => ?_) (fun hc => ?_)
  · have h := h.2 hc
    refine lv_aload_n hx hb dX9_note_35 rfl (lv_at hl 0 rfl) ?_
    refine gf S hE hP 0 rfl rfl inX9 (k := 0) (by decide) q181 rfl dX9_note_36 ?_
    refine lv_iload_n hx hb dX9_note_39 rfl (lv_at hl 1 rfl) ?_
    refine lv_iload_n hx hb dX9_note_40 rfl (lv_at hl 2 rfl) ?_
    refine lv_iload_n hx hb dX9_note_41 rfl (lv_at hl 3 rfl) ?_
    refine ro_i (roV S hE hT hS (c_X5_offOfNote h) lkX9_275 rfl ⟨(Nat.le_of_ble_eq_true rfl), (Nat.le_of_ble_eq_true rfl)⟩ (hP.sub [2, 3, 4, 5, 6, 7, 8, 9, 10, 11] rfl) 0 rfl rfl hl.1 rfl (Nat.le_of_ble_eq_true rfl) dX9_note_42 ⟨(Nat.zero_le _), (Nat.zero_le _)⟩) (fun r42 h => ?_)
    exact W.iret hx hb hr (fun t ht _ => ⟨⟨_, f_refused, rfl, h, hPt hP ht⟩, hS.F ht⟩) hS.2.2 dX9_note_45
  have h := h.1 hc
  refine lv_aload_n hx hb dX9_note_29 rfl (lv_at hl 0 rfl) ?_
  refine lv_iconst (v := (-1)) hx hb dX9_note_30 (by decide) ?_
  refine rw_i (rwV S hE hT hS hP hD hA (c_X9_refuse h) [0, 1] rfl (by decide) lkX9_59 rfl ⟨(Nat.le_of_ble_eq_true rfl), (Nat.le_of_ble_eq_true rfl)⟩ 0 rfl rfl hl.1 rfl (Nat.le_of_ble_eq_true rfl) dX9_note_31 ⟨(Nat.zero_le _), (Nat.zero_le _)⟩) hP hD hS hA [0, 1] rfl (by decide) (fun _ => rfl) (fun r31 w31_0 H locs h hP hD hS => ?_)
  try dsimp only at h
  have hP : va_P D vwCl (wX9_note cI cJ cS a_o a_refused a_road a_road_cars a_road_cars_speeds a_road_stretches a_road_stretches_kinds a_road_stretches_others a_road_stretches_spaces a_road_tunes a_road_tunes_noteCounts a_road_tunes_pitches z_kept z_ahead z_shelves z_cutting z_acting z_road_demands z_road_cars_bases z_road_cars_shares z_road_stretches_times z_road_tunes_beats v_imaged v_lastFault w31_0 v_road_drawSeed v_road_cars_carCount f_road_cars_speeds v_road_stretches_stretchCount f_road_stretches_kinds f_road_stretches_others f_road_stretches_spaces v_road_tunes_tuneCount f_road_tunes_noteCounts f_road_tunes_pitches) H := hP
  have hD : va_D A (wX9_note cI cJ cS a_o a_refused a_road a_road_cars a_road_cars_speeds a_road_stretches a_road_stretches_kinds a_road_stretches_others a_road_stretches_spaces a_road_tunes a_road_tunes_noteCounts a_road_tunes_pitches z_kept z_ahead z_shelves z_cutting z_acting z_road_demands z_road_cars_bases z_road_cars_shares z_road_stretches_times z_road_tunes_beats v_imaged v_lastFault w31_0 v_road_drawSeed v_road_cars_carCount f_road_cars_speeds v_road_stretches_stretchCount f_road_stretches_kinds f_road_stretches_others f_road_stretches_spaces v_road_tunes_tuneCount f_road_tunes_noteCounts f_road_tunes_pitches) := hD
  exact W.iret hx hb hr (fun t ht _ => ⟨⟨_, w31_0, rfl, h, hPt hP ht⟩, hS.F ht⟩) hS.2.2 dX9_note_34
/-! X9_hears -/
abbrev wX9_hears (cI cJ cS : ClassId) (a_o a_refused a_road a_road_cars a_road_cars_speeds a_road_demands a_road_stretches a_road_stretches_kinds a_road_stretches_others a_road_stretches_spaces a_road_stretches_times a_road_tunes a_road_tunes_beats a_road_tunes_noteCounts a_road_tunes_pitches : Nat) (z_kept z_ahead z_shelves z_cutting z_acting z_road_cars_bases z_road_cars_shares : Value) (v_imaged : Int32) (v_lastFault : Int32) (f_refused : Nat → Int32) (v_road_drawSeed : Int32) (v_road_cars_carCount : Int32) (f_road_cars_speeds : Nat → Int32) (f_road_demands : Nat → Int32) (v_road_stretches_stretchCount : Int32) (f_road_stretches_kinds : Nat → Int32) (f_road_stretches_others : Nat → Int32) (f_road_stretches_spaces : Nat → Int32) (f_road_stretches_times : Nat → Int32) (v_road_tunes_tuneCount : Int32) (f_road_tunes_beats : Nat → Int32) (f_road_tunes_noteCounts : Nat → Int32) (f_road_tunes_pitches : Nat → Int32) : va_W := [(a_o, .inr (8, [.ref a_road, z_kept, z_ahead, z_shelves, z_cutting, z_acting, .ref a_refused, .int v_imaged, .int v_lastFault])), (a_refused, .inl (cI, 8, .inl f_refused)), (a_road, .inr (4, [.ref a_road_stretches, .ref a_road_cars, .ref a_road_tunes, .ref a_road_demands, .int v_road_drawSeed])), (a_road_cars, .inr (1, [.ref a_road_cars_speeds, z_road_cars_bases, z_road_cars_shares, .int v_road_cars_carCount])), (a_road_cars_speeds, .inl (cI, 6, .inl f_road_cars_speeds)), (a_road_demands, .inl (cI, 4, .inl f_road_demands)), (a_road_stretches, .inr (6, [.ref a_road_stretches_kinds, .ref a_road_stretches_spaces, .ref a_road_stretches_others, .ref a_road_stretches_times, .int v_road_stretches_stretchCount])), (a_road_stretches_kinds, .inl (cI, 16, .inl f_road_stretches_kinds)), (a_road_stretches_others, .inl (cI, 16, .inl f_road_stretches_others)), (a_road_stretches_spaces, .inl (cI, 16, .inl f_road_stretches_spaces)), (a_road_stretches_times, .inl (cI, 16, .inl f_road_stretches_times)), (a_road_tunes, .inr (7, [.ref a_road_tunes_pitches, .ref a_road_tunes_beats, .ref a_road_tunes_noteCounts, .int v_road_tunes_tuneCount])), (a_road_tunes_beats, .inl (cI, 72, .inl f_road_tunes_beats)), (a_road_tunes_noteCounts, .inl (cI, 6, .inl f_road_tunes_noteCounts)), (a_road_tunes_pitches, .inl (cI, 72, .inl f_road_tunes_pitches))]
def F_X9_hears (f_refused : Nat → Int32) (v_road_cars_carCount : Int32) (f_road_cars_speeds : Nat → Int32) (f_road_demands : Nat → Int32) (v_road_stretches_stretchCount : Int32) (f_road_stretches_kinds : Nat → Int32) (f_road_stretches_others : Nat → Int32) (f_road_stretches_spaces : Nat → Int32) (f_road_stretches_times : Nat → Int32) (v_road_tunes_tuneCount : Int32) (f_road_tunes_beats : Nat → Int32) (f_road_tunes_noteCounts : Nat → Int32) (f_road_tunes_pitches : Nat → Int32) (x1 : Int32) (x2 : Int32) (x3 : Int32) (post : Int32 → (Nat → Int32) → Prop) : Prop := (F_X1_has v_road_cars_carCount x1 (fun r8 => ((r8 = 0 → (F_X9_refuse f_refused (-1) (fun r30 w30_0 => post r30 w30_0))) ∧ (¬ r8 = 0 → (F_X8_has v_road_tunes_tuneCount x2 (fun r22 => ((r22 = 0 → (F_X9_refuse f_refused (-1) (fun r30 w30_0 => post r30 w30_0))) ∧ (¬ r22 = 0 → ((x3 = 0 → (F_X5_worstOf v_road_cars_carCount f_road_cars_speeds v_road_stretches_stretchCount f_road_stretches_kinds f_road_stretches_others f_road_stretches_spaces v_road_tunes_tuneCount f_road_tunes_noteCounts f_road_tunes_pitches x1 x2 (fun r66 => post r66 f_refused))) ∧ (¬ x3 = 0 → ((x3 = 1 → (F_X5_latenessOf v_road_cars_carCount f_road_cars_speeds f_road_demands v_road_stretches_stretchCount f_road_stretches_kinds f_road_stretches_others f_road_stretches_spaces f_road_stretches_times v_road_tunes_tuneCount f_road_tunes_beats f_road_tunes_noteCounts x1 x2 (fun r76 => post r76 f_refused))) ∧ (¬ x3 = 1 → ((x3 = 2 → (F_X5_isHeardBy v_road_cars_carCount f_road_cars_speeds f_road_demands v_road_stretches_stretchCount f_road_stretches_kinds f_road_stretches_others f_road_stretches_spaces v_road_tunes_tuneCount f_road_tunes_noteCounts f_road_tunes_pitches x1 x2 (fun r86 => ((r86 = 0 → post 0 f_refused) ∧ (¬ r86 = 0 → post 1 f_refused))))) ∧ (¬ x3 = 2 → (F_X9_refuse f_refused (-5) (fun r101 w101_0 => post r101 w101_0))))))))))))))))
set_option maxHeartbeats 4000000 in
set_option maxRecDepth 100000 in
theorem c_X9_hears {l : Launch} {D : va_G} {cI cJ cS : ClassId} {ad adK : Nat → Nat} {a_o a_refused a_road a_road_cars a_road_cars_speeds a_road_demands a_road_stretches a_road_stretches_kinds a_road_stretches_others a_road_stretches_spaces a_road_stretches_times a_road_tunes a_road_tunes_beats a_road_tunes_noteCounts a_road_tunes_pitches : Nat} {z_kept z_ahead z_shelves z_cutting z_acting z_road_cars_bases z_road_cars_shares : Value} {v_imaged : Int32} {v_lastFault : Int32} {f_refused : Nat → Int32} {v_road_drawSeed : Int32} {v_road_cars_carCount : Int32} {f_road_cars_speeds : Nat → Int32} {f_road_demands : Nat → Int32} {v_road_stretches_stretchCount : Int32} {f_road_stretches_kinds : Nat → Int32} {f_road_stretches_others : Nat → Int32} {f_road_stretches_spaces : Nat → Int32} {f_road_stretches_times : Nat → Int32} {v_road_tunes_tuneCount : Int32} {f_road_tunes_beats : Nat → Int32} {f_road_tunes_noteCounts : Nat → Int32} {f_road_tunes_pitches : Nat → Int32} {x1 : Int32} {x2 : Int32} {x3 : Int32} {post : Int32 → (Nat → Int32) → Prop} (h : F_X9_hears f_refused v_road_cars_carCount f_road_cars_speeds f_road_demands v_road_stretches_stretchCount f_road_stretches_kinds f_road_stretches_others f_road_stretches_spaces f_road_stretches_times v_road_tunes_tuneCount f_road_tunes_beats f_road_tunes_noteCounts f_road_tunes_pitches x1 x2 x3 post) {sz : Nat} : Met l yX9_hears (Cond.code yX9_hears cX9_hears 4 (some (.int)) :: GW) (rmd 6 0 0) (PW D cI cJ cS ad adK [.ref a_o, .int x1, .int x2, .int x3] (wX9_hears cI cJ cS a_o a_refused a_road a_road_cars a_road_cars_speeds a_road_demands a_road_stretches a_road_stretches_kinds a_road_stretches_others a_road_stretches_spaces a_road_stretches_times a_road_tunes a_road_tunes_beats a_road_tunes_noteCounts a_road_tunes_pitches z_kept z_ahead z_shelves z_cutting z_acting z_road_cars_bases z_road_cars_shares v_imaged v_lastFault f_refused v_road_drawSeed v_road_cars_carCount f_road_cars_speeds f_road_demands v_road_stretches_stretchCount f_road_stretches_kinds f_road_stretches_others f_road_stretches_spaces f_road_stretches_times v_road_tunes_tuneCount f_road_tunes_beats f_road_tunes_noteCounts f_road_tunes_pitches) sz) (va_Qi (fun r (u : (Nat → Int32)) => post r u) (fun u t => va_P D vwCl (wX9_hears cI cJ cS a_o a_refused a_road a_road_cars a_road_cars_speeds a_road_demands a_road_stretches a_road_stretches_kinds a_road_stretches_others a_road_stretches_spaces a_road_stretches_times a_road_tunes a_road_tunes_beats a_road_tunes_noteCounts a_road_tunes_pitches z_kept z_ahead z_shelves z_cutting z_acting z_road_cars_bases z_road_cars_shares v_imaged v_lastFault u v_road_drawSeed v_road_cars_carCount f_road_cars_speeds f_road_demands v_road_stretches_stretchCount f_road_stretches_kinds f_road_stretches_others f_road_stretches_spaces f_road_stretches_times v_road_tunes_tuneCount f_road_tunes_beats f_road_tunes_noteCounts f_road_tunes_pitches) t.heap) (va_A (wX9_hears cI cJ cS a_o a_refused a_road a_road_cars a_road_cars_speeds a_road_demands a_road_stretches a_road_stretches_kinds a_road_stretches_others a_road_stretches_spaces a_road_stretches_times a_road_tunes a_road_tunes_beats a_road_tunes_noteCounts a_road_tunes_pitches z_kept z_ahead z_shelves z_cutting z_acting z_road_cars_bases z_road_cars_shares v_imaged v_lastFault f_refused v_road_drawSeed v_road_cars_carCount f_road_cars_speeds f_road_demands v_road_stretches_stretchCount f_road_stretches_kinds f_road_stretches_others f_road_stretches_spaces f_road_stretches_times v_road_tunes_tuneCount f_road_tunes_beats f_road_tunes_noteCounts f_road_tunes_pitches) sz)) 0 0 (va_A (wX9_hears cI cJ cS a_o a_refused a_road a_road_cars a_road_cars_speeds a_road_demands a_road_stretches a_road_stretches_kinds a_road_stretches_others a_road_stretches_spaces a_road_stretches_times a_road_tunes a_road_tunes_beats a_road_tunes_noteCounts a_road_tunes_pitches z_kept z_ahead z_shelves z_cutting z_acting z_road_cars_bases z_road_cars_shares v_imaged v_lastFault f_refused v_road_drawSeed v_road_cars_carCount f_road_cars_speeds f_road_demands v_road_stretches_stretchCount f_road_stretches_kinds f_road_stretches_others f_road_stretches_spaces f_road_stretches_times v_road_tunes_tuneCount f_road_tunes_beats f_road_tunes_noteCounts f_road_tunes_pitches) sz) := by
  refine Met.rw (Qc := fun A => (va_Qi (fun r (u : (Nat → Int32)) => post r u) (fun u t => va_P D vwCl (wX9_hears cI cJ cS a_o a_refused a_road a_road_cars a_road_cars_speeds a_road_demands a_road_stretches a_road_stretches_kinds a_road_stretches_others a_road_stretches_spaces a_road_stretches_times a_road_tunes a_road_tunes_beats a_road_tunes_noteCounts a_road_tunes_pitches z_kept z_ahead z_shelves z_cutting z_acting z_road_cars_bases z_road_cars_shares v_imaged v_lastFault u v_road_drawSeed v_road_cars_carCount f_road_cars_speeds f_road_demands v_road_stretches_stretchCount f_road_stretches_kinds f_road_stretches_others f_road_stretches_spaces f_road_stretches_times v_road_tunes_tuneCount f_road_tunes_beats f_road_tunes_noteCounts f_road_tunes_pitches) t.heap) A)) (by decide) (Nat.le_of_ble_eq_true rfl) (fun p e s m args below meth c ls A (S : CallFix p m c cX9_hears 4 s args GW "RoadThatSings") hE hT hP hD hA hS hr hlocks hname hl => ?_)
  have hS0 := hS
  have hx := S.1
  have hb := S.2.1
  have hl : lv_has ls 4 [(0, .ref a_o), (1, .int x1), (2, .int x2), (3, .int x3)] := hl
  unfold F_X9_hears at h
  refine lv_aload_n hx hb dX9_hears_0 rfl (lv_at hl 0 rfl) ?_
  refine gf S hE hP 0 rfl rfl inX9 (k := 0) (by decide) q181 rfl dX9_hears_1 ?_
  refine gfN S hE hP 2 rfl rfl inX5 (k := 1) (by decide) nfX9_180 rfl dX9_hears_4 ?_
  refine lv_iload_n hx hb dX9_hears_7 rfl (lv_at hl 1 rfl) ?_
  refine ro_i (roV S hE hT hS (c_X1_has h) lkX9_193 rfl ⟨(Nat.le_of_ble_eq_true rfl), (Nat.le_of_ble_eq_true rfl)⟩ (hP.sub [3] rfl) 0 rfl rfl hl.1 rfl (Nat.le_of_ble_eq_true rfl) dX9_hears_8 ⟨(Nat.zero_le _), (Nat.zero_le _)⟩) (fun r8 h => ?_)
  refine lv_if_eq (tgt := 28) hx hb dX9_hears_11 (by decide) (fun hc => ?_) (fun hc => ?_)
  · have h := h.1 hc
    refine lv_aload_n hx hb dX9_hears_28 rfl (lv_at hl 0 rfl) ?_
    refine lv_iconst (v := (-1)) hx hb dX9_hears_29 (by decide) ?_
    refine rw_i (rwV S hE hT hS hP hD hA (c_X9_refuse h) [0, 1] rfl (by decide) lkX9_59 rfl ⟨(Nat.le_of_ble_eq_true rfl), (Nat.le_of_ble_eq_true rfl)⟩ 0 rfl rfl hl.1 rfl (Nat.le_of_ble_eq_true rfl) dX9_hears_30 ⟨(Nat.zero_le _), (Nat.zero_le _)⟩) hP hD hS hA [0, 1] rfl (by decide) (fun _ => rfl) (fun r30 w30_0 H locs h hP hD hS => ?_)
    try dsimp only at h
    have hP : va_P D vwCl (wX9_hears cI cJ cS a_o a_refused a_road a_road_cars a_road_cars_speeds a_road_demands a_road_stretches a_road_stretches_kinds a_road_stretches_others a_road_stretches_spaces a_road_stretches_times a_road_tunes a_road_tunes_beats a_road_tunes_noteCounts a_road_tunes_pitches z_kept z_ahead z_shelves z_cutting z_acting z_road_cars_bases z_road_cars_shares v_imaged v_lastFault w30_0 v_road_drawSeed v_road_cars_carCount f_road_cars_speeds f_road_demands v_road_stretches_stretchCount f_road_stretches_kinds f_road_stretches_others f_road_stretches_spaces f_road_stretches_times v_road_tunes_tuneCount f_road_tunes_beats f_road_tunes_noteCounts f_road_tunes_pitches) H := hP
    have hD : va_D A (wX9_hears cI cJ cS a_o a_refused a_road a_road_cars a_road_cars_speeds a_road_demands a_road_stretches a_road_stretches_kinds a_road_stretches_others a_road_stretches_spaces a_road_stretches_times a_road_tunes a_road_tunes_beats a_road_tunes_noteCounts a_road_tunes_pitches z_kept z_ahead z_shelves z_cutting z_acting z_road_cars_bases z_road_cars_shares v_imaged v_lastFault w30_0 v_road_drawSeed v_road_cars_carCount f_road_cars_speeds f_road_demands v_road_stretches_stretchCount f_road_stretches_kinds f_road_stretches_others f_road_stretches_spaces f_road_stretches_times v_road_tunes_tuneCount f_road_tunes_beats f_road_tunes_noteCounts f_road_tunes_pitches) := hD
    exact W.iret hx hb hr (fun t ht _ => ⟨⟨_, w30_0, rfl, h, hPt hP ht⟩, hS.F ht⟩) hS.2.2 dX9_hears_33
  have h := h.2 hc
  refine lv_aload_n hx hb dX9_hears_14 rfl (lv_at hl 0 rfl) ?_
  refine gf S hE hP 0 rfl rfl inX9 (k := 0) (by decide) q181 rfl dX9_hears_15 ?_
  refine gfN S hE hP 2 rfl rfl inX5 (k := 2) (by decide) nfX9_209 rfl dX9_hears_18 ?_
  refine lv_iload_n hx hb dX9_hears_21 rfl (lv_at hl 2 rfl) ?_
  refine ro_i (roV S hE hT hS (c_X8_has h) lkX9_222 rfl ⟨(Nat.le_of_ble_eq_true rfl), (Nat.le_of_ble_eq_true rfl)⟩ (hP.sub [11] rfl) 0 rfl rfl hl.1 rfl (Nat.le_of_ble_eq_true rfl) dX9_hears_22 ⟨(Nat.zero_le _), (Nat.zero_le _)⟩) (fun r22 h => ?_)
  refine lv_if_ne (tgt := 34) hx hb dX9_hears_25 (by decide) (fun hc => ?_) (fun hc => ?_)
  · have h := h.2 hc
    refine lv_iload_n hx hb dX9_hears_34 rfl (lv_at hl 3 rfl) ?_
    by_cases hk0 : x3 = 0
    · have h := h.1 hk0
      refine lv_tableIn (off := 25) (tgt := 60) hx hb dX9_hears_35 (by rw [hk0]; decide) (by rw [hk0]; decide) (by rw [hk0]; rfl) (by decide) ?_
      refine lv_aload_n hx hb dX9_hears_60 rfl (lv_at hl 0 rfl) ?_
      refine gf S hE hP 0 rfl rfl inX9 (k := 0) (by decide) q181 rfl dX9_hears_61 ?_
      refine lv_iload_n hx hb dX9_hears_64 rfl (lv_at hl 1 rfl) ?_
      refine lv_iload_n hx hb dX9_hears_65 rfl (lv_at hl 2 rfl) ?_
      refine ro_i (roV S hE hT hS (c_X5_worstOf h) lkX9_278 rfl ⟨(Nat.le_of_ble_eq_true rfl), (Nat.le_of_ble_eq_true rfl)⟩ (hP.sub [2, 3, 4, 6, 7, 8, 9, 11, 13, 14] rfl) 0 rfl rfl hl.1 rfl (Nat.le_of_ble_eq_true rfl) dX9_hears_66 ⟨(Nat.zero_le _), (Nat.zero_le _)⟩) (fun r66 h => ?_)
      exact W.iret hx hb hr (fun t ht _ => ⟨⟨_, f_refused, rfl, h, hPt hP ht⟩, hS.F ht⟩) hS.2.2 dX9_hears_69
    have h := h.2 hk0
    by_cases hk1 : x3 = 1
    · have h := h.1 hk1
      refine lv_tableIn (off := 35) (tgt := 70) hx hb dX9_hears_35 (by rw [hk1]; decide) (by rw [hk1]; decide) (by rw [hk1]; rfl) (by decide) ?_
      refine lv_aload_n hx hb dX9_hears_70 rfl (lv_at hl 0 rfl) ?_
      refine gf S hE hP 0 rfl rfl inX9 (k := 0) (by decide) q181 rfl dX9_hears_71 ?_
      refine lv_iload_n hx hb dX9_hears_74 rfl (lv_at hl 1 rfl) ?_
      refine lv_iload_n hx hb dX9_hears_75 rfl (lv_at hl 2 rfl) ?_
      refine ro_i (roV S hE hT hS (c_X5_latenessOf h) lkX9_281 rfl ⟨(Nat.le_of_ble_eq_true rfl), (Nat.le_of_ble_eq_true rfl)⟩ (hP.sub [2, 3, 4, 5, 6, 7, 8, 9, 10, 11, 12, 13] rfl) 0 rfl rfl hl.1 rfl (Nat.le_of_ble_eq_true rfl) dX9_hears_76 ⟨(Nat.zero_le _), (Nat.zero_le _)⟩) (fun r76 h => ?_)
      exact W.iret hx hb hr (fun t ht _ => ⟨⟨_, f_refused, rfl, h, hPt hP ht⟩, hS.F ht⟩) hS.2.2 dX9_hears_79
    have h := h.2 hk1
    by_cases hk2 : x3 = 2
    · have h := h.1 hk2
      refine lv_tableIn (off := 45) (tgt := 80) hx hb dX9_hears_35 (by rw [hk2]; decide) (by rw [hk2]; decide) (by rw [hk2]; rfl) (by decide) ?_
      refine lv_aload_n hx hb dX9_hears_80 rfl (lv_at hl 0 rfl) ?_
      refine gf S hE hP 0 rfl rfl inX9 (k := 0) (by decide) q181 rfl dX9_hears_81 ?_
      refine lv_iload_n hx hb dX9_hears_84 rfl (lv_at hl 1 rfl) ?_
      refine lv_iload_n hx hb dX9_hears_85 rfl (lv_at hl 2 rfl) ?_
      refine ro_i (roV S hE hT hS (c_X5_isHeardBy h) lkX9_284 rfl ⟨(Nat.le_of_ble_eq_true rfl), (Nat.le_of_ble_eq_true rfl)⟩ (hP.sub [2, 3, 4, 5, 6, 7, 8, 9, 11, 13, 14] rfl) 0 rfl rfl hl.1 rfl (Nat.le_of_ble_eq_true rfl) dX9_hears_86 ⟨(Nat.zero_le _), (Nat.zero_le _)⟩) (fun r86 h => ?_)
      refine lv_if_eq (tgt := 96) hx hb dX9_hears_89 (by decide) (fun hc => ?_) (fun hc => ?_)
      · have h := h.1 hc
        refine lv_iconst (v := 0) hx hb dX9_hears_96 (by decide) ?_
        exact W.iret hx hb hr (fun t ht _ => ⟨⟨_, f_refused, rfl, h, hPt hP ht⟩, hS.F ht⟩) hS.2.2 dX9_hears_97
      have h := h.2 hc
      refine lv_iconst (v := 1) hx hb dX9_hears_92 (by decide) ?_
      refine lv_goto (tgt := 97) hx hb dX9_hears_93 (by decide) ?_
      exact W.iret hx hb hr (fun t ht _ => ⟨⟨_, f_refused, rfl, h, hPt hP ht⟩, hS.F ht⟩) hS.2.2 dX9_hears_97
    have h := h.2 hk2
    refine lv_tableOut (tgt := 98) hx hb dX9_hears_35 (sw_out (fun k h1 h2 => by
      rcases (show k = 0 ∨ k = 1 ∨ k = 2 by omega) with rfl | rfl | rfl
      · exact hk0
      · exact hk1
      · exact hk2)) (by decide) ?_
    refine lv_aload_n hx hb dX9_hears_98 rfl (lv_at hl 0 rfl) ?_
    refine lv_bipush (v := (-5)) hx hb dX9_hears_99 (by decide) ?_
    refine rw_i (rwV S hE hT hS hP hD hA (c_X9_refuse h) [0, 1] rfl (by decide) lkX9_59 rfl ⟨(Nat.le_of_ble_eq_true rfl), (Nat.le_of_ble_eq_true rfl)⟩ 0 rfl rfl hl.1 rfl (Nat.le_of_ble_eq_true rfl) dX9_hears_101 ⟨(Nat.zero_le _), (Nat.zero_le _)⟩) hP hD hS hA [0, 1] rfl (by decide) (fun _ => rfl) (fun r101 w101_0 H locs h hP hD hS => ?_)
    try dsimp only at h
    have hP : va_P D vwCl (wX9_hears cI cJ cS a_o a_refused a_road a_road_cars a_road_cars_speeds a_road_demands a_road_stretches a_road_stretches_kinds a_road_stretches_others a_road_stretches_spaces a_road_stretches_times a_road_tunes a_road_tunes_beats a_road_tunes_noteCounts a_road_tunes_pitches z_kept z_ahead z_shelves z_cutting z_acting z_road_cars_bases z_road_cars_shares v_imaged v_lastFault w101_0 v_road_drawSeed v_road_cars_carCount f_road_cars_speeds f_road_demands v_road_stretches_stretchCount f_road_stretches_kinds f_road_stretches_others f_road_stretches_spaces f_road_stretches_times v_road_tunes_tuneCount f_road_tunes_beats f_road_tunes_noteCounts f_road_tunes_pitches) H := hP
    have hD : va_D A (wX9_hears cI cJ cS a_o a_refused a_road a_road_cars a_road_cars_speeds a_road_demands a_road_stretches a_road_stretches_kinds a_road_stretches_others a_road_stretches_spaces a_road_stretches_times a_road_tunes a_road_tunes_beats a_road_tunes_noteCounts a_road_tunes_pitches z_kept z_ahead z_shelves z_cutting z_acting z_road_cars_bases z_road_cars_shares v_imaged v_lastFault w101_0 v_road_drawSeed v_road_cars_carCount f_road_cars_speeds f_road_demands v_road_stretches_stretchCount f_road_stretches_kinds f_road_stretches_others f_road_stretches_spaces f_road_stretches_times v_road_tunes_tuneCount f_road_tunes_beats f_road_tunes_noteCounts f_road_tunes_pitches) := hD
    exact W.iret hx hb hr (fun t ht _ => ⟨⟨_, w101_0, rfl, h, hPt hP ht⟩, hS.F ht⟩) hS.2.2 dX9_hears_104
  have h := h.1 hc
  refine lv_aload_n hx hb dX9_hears_28 rfl (lv_at hl 0 rfl) ?_
  refine lv_iconst (v := (-1)) hx hb dX9_hears_29 (by decide) ?_
  refine rw_i (rwV S hE hT hS hP hD hA (c_X9_refuse h) [0, 1] rfl (by decide) lkX9_59 rfl ⟨(Nat.le_of_ble_eq_true rfl), (Nat.le_of_ble_eq_true rfl)⟩ 0 rfl rfl hl.1 rfl (Nat.le_of_ble_eq_true rfl) dX9_hears_30 ⟨(Nat.zero_le _), (Nat.zero_le _)⟩) hP hD hS hA [0, 1] rfl (by decide) (fun _ => rfl) (fun r30 w30_0 H locs h hP hD hS => ?_)
  try dsimp only at h
  have hP : va_P D vwCl (wX9_hears cI cJ cS a_o a_refused a_road a_road_cars a_road_cars_speeds a_road_demands a_road_stretches a_road_stretches_kinds a_road_stretches_others a_road_stretches_spaces a_road_stretches_times a_road_tunes a_road_tunes_beats a_road_tunes_noteCounts a_road_tunes_pitches z_kept z_ahead z_shelves z_cutting z_acting z_road_cars_bases z_road_cars_shares v_imaged v_lastFault w30_0 v_road_drawSeed v_road_cars_carCount f_road_cars_speeds f_road_demands v_road_stretches_stretchCount f_road_stretches_kinds f_road_stretches_others f_road_stretches_spaces f_road_stretches_times v_road_tunes_tuneCount f_road_tunes_beats f_road_tunes_noteCounts f_road_tunes_pitches) H := hP
  have hD : va_D A (wX9_hears cI cJ cS a_o a_refused a_road a_road_cars a_road_cars_speeds a_road_demands a_road_stretches a_road_stretches_kinds a_road_stretches_others a_road_stretches_spaces a_road_stretches_times a_road_tunes a_road_tunes_beats a_road_tunes_noteCounts a_road_tunes_pitches z_kept z_ahead z_shelves z_cutting z_acting z_road_cars_bases z_road_cars_shares v_imaged v_lastFault w30_0 v_road_drawSeed v_road_cars_carCount f_road_cars_speeds f_road_demands v_road_stretches_stretchCount f_road_stretches_kinds f_road_stretches_others f_road_stretches_spaces f_road_stretches_times v_road_tunes_tuneCount f_road_tunes_beats f_road_tunes_noteCounts f_road_tunes_pitches) := hD
  exact W.iret hx hb hr (fun t ht _ => ⟨⟨_, w30_0, rfl, h, hPt hP ht⟩, hS.F ht⟩) hS.2.2 dX9_hears_33
/-! X9_wrong -/
abbrev wX9_wrong (cI cJ cS : ClassId) (a_o a_road a_road_demands a_road_stretches a_road_stretches_kinds a_road_stretches_others a_road_stretches_spaces a_road_stretches_times : Nat) (z_kept z_ahead z_shelves z_cutting z_acting z_refused z_road_cars z_road_tunes : Value) (v_imaged : Int32) (v_lastFault : Int32) (v_road_drawSeed : Int32) (f_road_demands : Nat → Int32) (v_road_stretches_stretchCount : Int32) (f_road_stretches_kinds : Nat → Int32) (f_road_stretches_others : Nat → Int32) (f_road_stretches_spaces : Nat → Int32) (f_road_stretches_times : Nat → Int32) : va_W := [(a_o, .inr (8, [.ref a_road, z_kept, z_ahead, z_shelves, z_cutting, z_acting, z_refused, .int v_imaged, .int v_lastFault])), (a_road, .inr (4, [.ref a_road_stretches, z_road_cars, z_road_tunes, .ref a_road_demands, .int v_road_drawSeed])), (a_road_demands, .inl (cI, 4, .inl f_road_demands)), (a_road_stretches, .inr (6, [.ref a_road_stretches_kinds, .ref a_road_stretches_spaces, .ref a_road_stretches_others, .ref a_road_stretches_times, .int v_road_stretches_stretchCount])), (a_road_stretches_kinds, .inl (cI, 16, .inl f_road_stretches_kinds)), (a_road_stretches_others, .inl (cI, 16, .inl f_road_stretches_others)), (a_road_stretches_spaces, .inl (cI, 16, .inl f_road_stretches_spaces)), (a_road_stretches_times, .inl (cI, 16, .inl f_road_stretches_times))]
def F_X9_wrong (f_road_demands : Nat → Int32) (v_road_stretches_stretchCount : Int32) (f_road_stretches_kinds : Nat → Int32) (f_road_stretches_others : Nat → Int32) (f_road_stretches_spaces : Nat → Int32) (f_road_stretches_times : Nat → Int32) (post : Int32 → Prop) : Prop := (F_X5_firstTooNear f_road_demands v_road_stretches_stretchCount f_road_stretches_kinds f_road_stretches_others f_road_stretches_spaces (fun r4 => ((r4 = (-1) → (F_X5_firstTooFar f_road_demands v_road_stretches_stretchCount f_road_stretches_kinds f_road_stretches_others f_road_stretches_spaces f_road_stretches_times (fun r17 => ((r17 = (-1) → post 0) ∧ (¬ r17 = (-1) → post 2))))) ∧ (¬ r4 = (-1) → post 1))))
set_option maxHeartbeats 4000000 in
set_option maxRecDepth 100000 in
theorem c_X9_wrong {l : Launch} {D : va_G} {cI cJ cS : ClassId} {ad adK : Nat → Nat} {a_o a_road a_road_demands a_road_stretches a_road_stretches_kinds a_road_stretches_others a_road_stretches_spaces a_road_stretches_times : Nat} {z_kept z_ahead z_shelves z_cutting z_acting z_refused z_road_cars z_road_tunes : Value} {v_imaged : Int32} {v_lastFault : Int32} {v_road_drawSeed : Int32} {f_road_demands : Nat → Int32} {v_road_stretches_stretchCount : Int32} {f_road_stretches_kinds : Nat → Int32} {f_road_stretches_others : Nat → Int32} {f_road_stretches_spaces : Nat → Int32} {f_road_stretches_times : Nat → Int32} {post : Int32 → Prop} (h : F_X9_wrong f_road_demands v_road_stretches_stretchCount f_road_stretches_kinds f_road_stretches_others f_road_stretches_spaces f_road_stretches_times post) : Met l yX9_wrong (Cond.code yX9_wrong cX9_wrong 1 (some (.int)) :: GW) (rmd 4 0 0) (PR D cI cJ cS ad adK [.ref a_o] (wX9_wrong cI cJ cS a_o a_road a_road_demands a_road_stretches a_road_stretches_kinds a_road_stretches_others a_road_stretches_spaces a_road_stretches_times z_kept z_ahead z_shelves z_cutting z_acting z_refused z_road_cars z_road_tunes v_imaged v_lastFault v_road_drawSeed f_road_demands v_road_stretches_stretchCount f_road_stretches_kinds f_road_stretches_others f_road_stretches_spaces f_road_stretches_times)) (vp_Si post) 0 0 nof := by
  refine Met.ro (by decide) (Nat.le_of_ble_eq_true rfl) (fun p e s m args below meth c ls (S : CallFix p m c cX9_wrong 1 s args GW "RoadThatSings") hE hT hP hS hr hlocks hl => ?_)
  have hx := S.1
  have hb := S.2.1
  have hl : lv_has ls 1 [(0, .ref a_o)] := hl
  unfold F_X9_wrong at h
  refine lv_aload_n hx hb dX9_wrong_0 rfl (lv_at hl 0 rfl) ?_
  refine gf S hE hP 0 rfl rfl inX9 (k := 0) (by decide) q181 rfl dX9_wrong_1 ?_
  refine ro_i (roV S hE hT hS (c_X5_firstTooNear h) lkX9_287 rfl ⟨(Nat.le_of_ble_eq_true rfl), (Nat.le_of_ble_eq_true rfl)⟩ (hP.sub [1, 2, 3, 4, 5, 6] rfl) 0 rfl rfl hl.1 rfl (Nat.le_of_ble_eq_true rfl) dX9_wrong_4 ⟨(Nat.zero_le _), (Nat.zero_le _)⟩) (fun r4 h => ?_)
  refine lv_iconst (v := (-1)) hx hb dX9_wrong_7 (by decide) ?_
  refine lv_icmp_eq (tgt := 13) hx hb dX9_wrong_8 (by decide) (fun hc => ?_) (fun hc => ?_)
  · have h := h.1 hc
    refine lv_aload_n hx hb dX9_wrong_13 rfl (lv_at hl 0 rfl) ?_
    refine gf S hE hP 0 rfl rfl inX9 (k := 0) (by decide) q181 rfl dX9_wrong_14 ?_
    refine ro_i (roV S hE hT hS (c_X5_firstTooFar h) lkX9_290 rfl ⟨(Nat.le_of_ble_eq_true rfl), (Nat.le_of_ble_eq_true rfl)⟩ (hP.sub [1, 2, 3, 4, 5, 6, 7] rfl) 0 rfl rfl hl.1 rfl (Nat.le_of_ble_eq_true rfl) dX9_wrong_17 ⟨(Nat.zero_le _), (Nat.zero_le _)⟩) (fun r17 h => ?_)
    refine lv_iconst (v := (-1)) hx hb dX9_wrong_20 (by decide) ?_
    refine lv_icmp_eq (tgt := 28) hx hb dX9_wrong_21 (by decide) (fun hc => ?_) (fun hc => ?_)
    · have h := h.1 hc
      refine lv_iconst (v := 0) hx hb dX9_wrong_28 (by decide) ?_
      exact W.iret hx hb hr (fun t ht _ => ⟨_, rfl, h, ht⟩) (fun _ hq => by cases hq) dX9_wrong_29
    have h := h.2 hc
    refine lv_iconst (v := 2) hx hb dX9_wrong_24 (by decide) ?_
    refine lv_goto (tgt := 29) hx hb dX9_wrong_25 (by decide) ?_
    exact W.iret hx hb hr (fun t ht _ => ⟨_, rfl, h, ht⟩) (fun _ hq => by cases hq) dX9_wrong_29
  have h := h.2 hc
  refine lv_iconst (v := 1) hx hb dX9_wrong_11 (by decide) ?_
  exact W.iret hx hb hr (fun t ht _ => ⟨_, rfl, h, ht⟩) (fun _ hq => by cases hq) dX9_wrong_12
/-! X9_judge -/
abbrev wX9_judge (cI cJ cS : ClassId) (a_o a_road a_road_demands a_road_stretches a_road_stretches_kinds a_road_stretches_others a_road_stretches_spaces a_road_stretches_times : Nat) (z_kept z_ahead z_shelves z_cutting z_acting z_refused z_road_cars z_road_tunes : Value) (v_imaged : Int32) (v_lastFault : Int32) (v_road_drawSeed : Int32) (f_road_demands : Nat → Int32) (v_road_stretches_stretchCount : Int32) (f_road_stretches_kinds : Nat → Int32) (f_road_stretches_others : Nat → Int32) (f_road_stretches_spaces : Nat → Int32) (f_road_stretches_times : Nat → Int32) : va_W := [(a_o, .inr (8, [.ref a_road, z_kept, z_ahead, z_shelves, z_cutting, z_acting, z_refused, .int v_imaged, .int v_lastFault])), (a_road, .inr (4, [.ref a_road_stretches, z_road_cars, z_road_tunes, .ref a_road_demands, .int v_road_drawSeed])), (a_road_demands, .inl (cI, 4, .inl f_road_demands)), (a_road_stretches, .inr (6, [.ref a_road_stretches_kinds, .ref a_road_stretches_spaces, .ref a_road_stretches_others, .ref a_road_stretches_times, .int v_road_stretches_stretchCount])), (a_road_stretches_kinds, .inl (cI, 16, .inl f_road_stretches_kinds)), (a_road_stretches_others, .inl (cI, 16, .inl f_road_stretches_others)), (a_road_stretches_spaces, .inl (cI, 16, .inl f_road_stretches_spaces)), (a_road_stretches_times, .inl (cI, 16, .inl f_road_stretches_times))]
def F_X9_judge (f_road_demands : Nat → Int32) (v_road_stretches_stretchCount : Int32) (f_road_stretches_kinds : Nat → Int32) (f_road_stretches_others : Nat → Int32) (f_road_stretches_spaces : Nat → Int32) (f_road_stretches_times : Nat → Int32) (post : Int32 → Prop) : Prop := (F_X5_firstTooNear f_road_demands v_road_stretches_stretchCount f_road_stretches_kinds f_road_stretches_others f_road_stretches_spaces (fun r4 => ((r4 = (-1) → (F_X5_firstTooFar f_road_demands v_road_stretches_stretchCount f_road_stretches_kinds f_road_stretches_others f_road_stretches_spaces f_road_stretches_times (fun r21 => post r21))) ∧ (¬ r4 = (-1) → post r4))))
set_option maxHeartbeats 4000000 in
set_option maxRecDepth 100000 in
theorem c_X9_judge {l : Launch} {D : va_G} {cI cJ cS : ClassId} {ad adK : Nat → Nat} {a_o a_road a_road_demands a_road_stretches a_road_stretches_kinds a_road_stretches_others a_road_stretches_spaces a_road_stretches_times : Nat} {z_kept z_ahead z_shelves z_cutting z_acting z_refused z_road_cars z_road_tunes : Value} {v_imaged : Int32} {v_lastFault : Int32} {v_road_drawSeed : Int32} {f_road_demands : Nat → Int32} {v_road_stretches_stretchCount : Int32} {f_road_stretches_kinds : Nat → Int32} {f_road_stretches_others : Nat → Int32} {f_road_stretches_spaces : Nat → Int32} {f_road_stretches_times : Nat → Int32} {post : Int32 → Prop} (h : F_X9_judge f_road_demands v_road_stretches_stretchCount f_road_stretches_kinds f_road_stretches_others f_road_stretches_spaces f_road_stretches_times post) : Met l yX9_judge (Cond.code yX9_judge cX9_judge 2 (some (.int)) :: GW) (rmd 4 0 0) (PR D cI cJ cS ad adK [.ref a_o] (wX9_judge cI cJ cS a_o a_road a_road_demands a_road_stretches a_road_stretches_kinds a_road_stretches_others a_road_stretches_spaces a_road_stretches_times z_kept z_ahead z_shelves z_cutting z_acting z_refused z_road_cars z_road_tunes v_imaged v_lastFault v_road_drawSeed f_road_demands v_road_stretches_stretchCount f_road_stretches_kinds f_road_stretches_others f_road_stretches_spaces f_road_stretches_times)) (vp_Si post) 0 0 nof := by
  refine Met.ro (by decide) (Nat.le_of_ble_eq_true rfl) (fun p e s m args below meth c ls (S : CallFix p m c cX9_judge 2 s args GW "RoadThatSings") hE hT hP hS hr hlocks hl => ?_)
  have hx := S.1
  have hb := S.2.1
  have hl : lv_has ls 2 [(0, .ref a_o)] := hl
  unfold F_X9_judge at h
  refine lv_aload_n hx hb dX9_judge_0 rfl (lv_at hl 0 rfl) ?_
  refine gf S hE hP 0 rfl rfl inX9 (k := 0) (by decide) q181 rfl dX9_judge_1 ?_
  refine ro_i (roV S hE hT hS (c_X5_firstTooNear h) lkX9_287 rfl ⟨(Nat.le_of_ble_eq_true rfl), (Nat.le_of_ble_eq_true rfl)⟩ (hP.sub [1, 2, 3, 4, 5, 6] rfl) 0 rfl rfl hl.1 rfl (Nat.le_of_ble_eq_true rfl) dX9_judge_4 ⟨(Nat.zero_le _), (Nat.zero_le _)⟩) (fun r4 h => ?_)
  refine lv_istore_n (lv' := [(1, .int r4), (0, .ref a_o)]) hx hb dX9_judge_7 rfl hl (by decide) rfl (fun ls hl => ?_)
  refine lv_iload_n hx hb dX9_judge_8 rfl (lv_at hl 0 rfl) ?_
  refine lv_iconst (v := (-1)) hx hb dX9_judge_9 (by decide) ?_
  refine lv_icmp_eq (tgt := 17) hx hb dX9_judge_10 (by decide) (fun hc => ?_) (fun hc => ?_)
  · have h := h.1 hc
    refine lv_aload_n hx hb dX9_judge_17 rfl (lv_at hl 1 rfl) ?_
    refine gf S hE hP 0 rfl rfl inX9 (k := 0) (by decide) q181 rfl dX9_judge_18 ?_
    refine ro_i (roV S hE hT hS (c_X5_firstTooFar h) lkX9_290 rfl ⟨(Nat.le_of_ble_eq_true rfl), (Nat.le_of_ble_eq_true rfl)⟩ (hP.sub [1, 2, 3, 4, 5, 6, 7] rfl) 0 rfl rfl hl.1 rfl (Nat.le_of_ble_eq_true rfl) dX9_judge_21 ⟨(Nat.zero_le _), (Nat.zero_le _)⟩) (fun r21 h => ?_)
    exact W.iret hx hb hr (fun t ht _ => ⟨_, rfl, h, ht⟩) (fun _ hq => by cases hq) dX9_judge_24
  have h := h.2 hc
  refine lv_iload_n hx hb dX9_judge_13 rfl (lv_at hl 0 rfl) ?_
  refine lv_goto (tgt := 24) hx hb dX9_judge_14 (by decide) ?_
  exact W.iret hx hb hr (fun t ht _ => ⟨_, rfl, h, ht⟩) (fun _ hq => by cases hq) dX9_judge_24
/-! X9_meet -/
abbrev wX9_meet (cI cJ cS : ClassId) (a_o a_refused a_road a_road_stretches a_road_stretches_kinds a_road_stretches_others a_road_stretches_spaces : Nat) (z_kept z_ahead z_shelves z_cutting z_acting z_road_cars z_road_tunes z_road_demands z_road_stretches_times : Value) (v_imaged : Int32) (v_lastFault : Int32) (f_refused : Nat → Int32) (v_road_drawSeed : Int32) (v_road_stretches_stretchCount : Int32) (f_road_stretches_kinds : Nat → Int32) (f_road_stretches_others : Nat → Int32) (f_road_stretches_spaces : Nat → Int32) : va_W := [(a_o, .inr (8, [.ref a_road, z_kept, z_ahead, z_shelves, z_cutting, z_acting, .ref a_refused, .int v_imaged, .int v_lastFault])), (a_refused, .inl (cI, 8, .inl f_refused)), (a_road, .inr (4, [.ref a_road_stretches, z_road_cars, z_road_tunes, z_road_demands, .int v_road_drawSeed])), (a_road_stretches, .inr (6, [.ref a_road_stretches_kinds, .ref a_road_stretches_spaces, .ref a_road_stretches_others, z_road_stretches_times, .int v_road_stretches_stretchCount])), (a_road_stretches_kinds, .inl (cI, 16, .inl f_road_stretches_kinds)), (a_road_stretches_others, .inl (cI, 16, .inl f_road_stretches_others)), (a_road_stretches_spaces, .inl (cI, 16, .inl f_road_stretches_spaces))]
def F_X9_meet_57 (k22 : Int32 → Int32 → Prop) (x1 : Int32) (x2 : Int32) (x3 : Int32) (f_refused : Nat → Int32) : Prop := (∀ x3_57 : Int32, x3_57 = x3 + 1 → k22 x2 x3_57)
def L_X9_meet_22 (v_road_stretches_stretchCount : Int32) (f_road_stretches_kinds : Nat → Int32) (f_road_stretches_others : Nat → Int32) (f_road_stretches_spaces : Nat → Int32) (x1 : Int32) (f_refused : Nat → Int32) (post : Int32 → (Nat → Int32) → Prop) : Nat → Int32 → Int32 → Prop
  | 0, _, _ => False
  | n22 + 1, x2, x3 => (F_X7_count v_road_stretches_stretchCount (fun r30 => ((r30 ≤ x3 → post x2 f_refused) ∧ (¬ r30 ≤ x3 → (F_X7_isMetBy v_road_stretches_stretchCount f_road_stretches_kinds f_road_stretches_others f_road_stretches_spaces x3 x1 (fun r45 => ((r45 = 0 → F_X9_meet_57 (fun x2 x3 => L_X9_meet_22 v_road_stretches_stretchCount f_road_stretches_kinds f_road_stretches_others f_road_stretches_spaces x1 f_refused post n22 x2 x3) x1 x2 x3 f_refused) ∧ (¬ r45 = 0 → (∀ x2_56 : Int32, x2_56 = x2 ||| (1 <<< (x3 &&& 31)) → F_X9_meet_57 (fun x2 x3 => L_X9_meet_22 v_road_stretches_stretchCount f_road_stretches_kinds f_road_stretches_others f_road_stretches_spaces x1 f_refused post n22 x2 x3) x1 x2_56 x3 f_refused)))))))))
def F_X9_meet (f_refused : Nat → Int32) (v_road_stretches_stretchCount : Int32) (f_road_stretches_kinds : Nat → Int32) (f_road_stretches_others : Nat → Int32) (f_road_stretches_spaces : Nat → Int32) (x1 : Int32) (post : Int32 → (Nat → Int32) → Prop) : Prop := (F_X9_within x1 0 999 (fun r5 => ((r5 = 0 → (F_X9_refuse f_refused (-6) (fun r14 w14_0 => post r14 w14_0))) ∧ (¬ r5 = 0 → (∃ n22 : Nat, L_X9_meet_22 v_road_stretches_stretchCount f_road_stretches_kinds f_road_stretches_others f_road_stretches_spaces x1 f_refused post n22 0 0)))))
set_option maxHeartbeats 4000000 in
set_option maxRecDepth 100000 in
theorem w_X9_meet_57 {l : Launch} {D : va_G} {cI cJ cS : ClassId} {ad adK : Nat → Nat} {a_o a_refused a_road a_road_stretches a_road_stretches_kinds a_road_stretches_others a_road_stretches_spaces : Nat} {z_kept z_ahead z_shelves z_cutting z_acting z_road_cars z_road_tunes z_road_demands z_road_stretches_times : Value} {v_imaged : Int32} {v_lastFault : Int32} {f_refused : Nat → Int32} {v_road_drawSeed : Int32} {v_road_stretches_stretchCount : Int32} {f_road_stretches_kinds : Nat → Int32} {f_road_stretches_others : Nat → Int32} {f_road_stretches_spaces : Nat → Int32} {x1 : Int32} {x2 : Int32} {x3 : Int32} {post : Int32 → (Nat → Int32) → Prop} {k22 : Int32 → Int32 → Prop} {p : Program} {e : Env} {s : State} {m : MethodId} {args : Array Value} {below : List Frame} {meth : Method} {c : Code} {A : Nat → Prop} (S : CallFix p m c cX9_meet 4 s args GW "RoadThatSings") (hE : EN D cI cJ cS s) (hT : ST ad adK A s s.heap) (hA : ∀ q : Nat, s.heap.size ≤ q → A q) (hr : meth.sig.returnType = (some (.int))) (hlocks : meth.locks = false) (hk22 : ∀ (x2 : Int32) (x3 : Int32) (H : Heap) (locs : List Loc) (ls : Array Slot), k22 x2 x3 → va_P D vwCl (wX9_meet cI cJ cS a_o a_refused a_road a_road_stretches a_road_stretches_kinds a_road_stretches_others a_road_stretches_spaces z_kept z_ahead z_shelves z_cutting z_acting z_road_cars z_road_tunes z_road_demands z_road_stretches_times v_imaged v_lastFault f_refused v_road_drawSeed v_road_stretches_stretchCount f_road_stretches_kinds f_road_stretches_others f_road_stretches_spaces) H → va_D A (wX9_meet cI cJ cS a_o a_refused a_road a_road_stretches a_road_stretches_kinds a_road_stretches_others a_road_stretches_spaces z_kept z_ahead z_shelves z_cutting z_acting z_road_cars z_road_tunes z_road_demands z_road_stretches_times v_imaged v_lastFault f_refused v_road_drawSeed v_road_stretches_stretchCount f_road_stretches_kinds f_road_stretches_others f_road_stretches_spaces) → va_S A s.heap H locs → lv_has ls 4 [(0, .ref a_o), (1, .int x1), (2, .int x2), (3, .int x3)] → W p l e (rmd 3 0 0) s m args below meth c H locs 0 0 (MQ below (va_Qi (fun r (u : (Nat → Int32)) => post r u) (fun u t => va_P D vwCl (wX9_meet cI cJ cS a_o a_refused a_road a_road_stretches a_road_stretches_kinds a_road_stretches_others a_road_stretches_spaces z_kept z_ahead z_shelves z_cutting z_acting z_road_cars z_road_tunes z_road_demands z_road_stretches_times v_imaged v_lastFault u v_road_drawSeed v_road_stretches_stretchCount f_road_stretches_kinds f_road_stretches_others f_road_stretches_spaces) t.heap) A) args s 0 0 A) (F0 m 22 ls [])) : ∀ (H : Heap) (locs : List Loc) (ls : Array Slot), F_X9_meet_57 k22 x1 x2 x3 f_refused → va_P D vwCl (wX9_meet cI cJ cS a_o a_refused a_road a_road_stretches a_road_stretches_kinds a_road_stretches_others a_road_stretches_spaces z_kept z_ahead z_shelves z_cutting z_acting z_road_cars z_road_tunes z_road_demands z_road_stretches_times v_imaged v_lastFault f_refused v_road_drawSeed v_road_stretches_stretchCount f_road_stretches_kinds f_road_stretches_others f_road_stretches_spaces) H → va_D A (wX9_meet cI cJ cS a_o a_refused a_road a_road_stretches a_road_stretches_kinds a_road_stretches_others a_road_stretches_spaces z_kept z_ahead z_shelves z_cutting z_acting z_road_cars z_road_tunes z_road_demands z_road_stretches_times v_imaged v_lastFault f_refused v_road_drawSeed v_road_stretches_stretchCount f_road_stretches_kinds f_road_stretches_others f_road_stretches_spaces) → va_S A s.heap H locs → lv_has ls 4 [(0, .ref a_o), (1, .int x1), (2, .int x2), (3, .int x3)] → W p l e (rmd 3 0 0) s m args below meth c H locs 0 0 (MQ below (va_Qi (fun r (u : (Nat → Int32)) => post r u) (fun u t => va_P D vwCl (wX9_meet cI cJ cS a_o a_refused a_road a_road_stretches a_road_stretches_kinds a_road_stretches_others a_road_stretches_spaces z_kept z_ahead z_shelves z_cutting z_acting z_road_cars z_road_tunes z_road_demands z_road_stretches_times v_imaged v_lastFault u v_road_drawSeed v_road_stretches_stretchCount f_road_stretches_kinds f_road_stretches_others f_road_stretches_spaces) t.heap) A) args s 0 0 A) (F0 m 57 ls []) := by
  intro  H locs ls h hP hD hS hl
  unfold F_X9_meet_57 at h
  have hx := S.1
  have hb := S.2.1
  obtain ⟨x3_57, ex3_57⟩ : ∃ z : Int32, z = x3 + 1 := ⟨_, rfl⟩
  have h := h _ ex3_57
  refine lv_iinc (v := x3_57) (lv' := [(3, .int x3_57), (0, .ref a_o), (1, .int x1), (2, .int x2)]) hx hb dX9_meet_57 hl (k := 3) rfl (by rw [ex3_57]; rfl) (by decide) rfl (fun ls hl => ?_)
  refine lv_goto (tgt := 22) hx hb dX9_meet_60 (by decide) ?_
  exact hk22 _ _ _ _ _ h hP hD hS (lv_sub hl [1, 2, 3, 0] rfl)
set_option maxHeartbeats 4000000 in
set_option maxRecDepth 100000 in
theorem w_X9_meet_22 {l : Launch} {D : va_G} {cI cJ cS : ClassId} {ad adK : Nat → Nat} {a_o a_refused a_road a_road_stretches a_road_stretches_kinds a_road_stretches_others a_road_stretches_spaces : Nat} {z_kept z_ahead z_shelves z_cutting z_acting z_road_cars z_road_tunes z_road_demands z_road_stretches_times : Value} {v_imaged : Int32} {v_lastFault : Int32} {f_refused : Nat → Int32} {v_road_drawSeed : Int32} {v_road_stretches_stretchCount : Int32} {f_road_stretches_kinds : Nat → Int32} {f_road_stretches_others : Nat → Int32} {f_road_stretches_spaces : Nat → Int32} {x1 : Int32} {post : Int32 → (Nat → Int32) → Prop} {p : Program} {e : Env} {s : State} {m : MethodId} {args : Array Value} {below : List Frame} {meth : Method} {c : Code} {A : Nat → Prop} (S : CallFix p m c cX9_meet 4 s args GW "RoadThatSings") (hE : EN D cI cJ cS s) (hT : ST ad adK A s s.heap) (hA : ∀ q : Nat, s.heap.size ≤ q → A q) (hr : meth.sig.returnType = (some (.int))) (hlocks : meth.locks = false) : ∀ n : Nat, ∀ (x2 : Int32) (x3 : Int32) (H : Heap) (locs : List Loc) (ls : Array Slot), L_X9_meet_22 v_road_stretches_stretchCount f_road_stretches_kinds f_road_stretches_others f_road_stretches_spaces x1 f_refused post n x2 x3 → va_P D vwCl (wX9_meet cI cJ cS a_o a_refused a_road a_road_stretches a_road_stretches_kinds a_road_stretches_others a_road_stretches_spaces z_kept z_ahead z_shelves z_cutting z_acting z_road_cars z_road_tunes z_road_demands z_road_stretches_times v_imaged v_lastFault f_refused v_road_drawSeed v_road_stretches_stretchCount f_road_stretches_kinds f_road_stretches_others f_road_stretches_spaces) H → va_D A (wX9_meet cI cJ cS a_o a_refused a_road a_road_stretches a_road_stretches_kinds a_road_stretches_others a_road_stretches_spaces z_kept z_ahead z_shelves z_cutting z_acting z_road_cars z_road_tunes z_road_demands z_road_stretches_times v_imaged v_lastFault f_refused v_road_drawSeed v_road_stretches_stretchCount f_road_stretches_kinds f_road_stretches_others f_road_stretches_spaces) → va_S A s.heap H locs → lv_has ls 4 [(0, .ref a_o), (1, .int x1), (2, .int x2), (3, .int x3)] → W p l e (rmd 3 0 0) s m args below meth c H locs 0 0 (MQ below (va_Qi (fun r (u : (Nat → Int32)) => post r u) (fun u t => va_P D vwCl (wX9_meet cI cJ cS a_o a_refused a_road a_road_stretches a_road_stretches_kinds a_road_stretches_others a_road_stretches_spaces z_kept z_ahead z_shelves z_cutting z_acting z_road_cars z_road_tunes z_road_demands z_road_stretches_times v_imaged v_lastFault u v_road_drawSeed v_road_stretches_stretchCount f_road_stretches_kinds f_road_stretches_others f_road_stretches_spaces) t.heap) A) args s 0 0 A) (F0 m 22 ls []) := by
  intro n
  induction n with
  | zero =>
    intro x2 x3 H locs ls h hP hD hS hl
    exact h.elim
  | succ n ih =>
    intro x2 x3 H locs ls h hP hD hS hl
    rw [L_X9_meet_22] at h
    have hx := S.1
    have hb := S.2.1
    refine lv_iload_n hx hb dX9_meet_22 rfl (lv_at hl 3 rfl) ?_
    refine lv_aload_n hx hb dX9_meet_23 rfl (lv_at hl 0 rfl) ?_
    refine gf S hE hP 0 rfl rfl inX9 (k := 0) (by decide) q181 rfl dX9_meet_24 ?_
    refine gfN S hE hP 2 rfl rfl inX5 (k := 0) (by decide) nfX9_106 rfl dX9_meet_27 ?_
    refine ro_i (roV S hE hT hS (c_X7_count h) lkX9_156 rfl ⟨(Nat.le_of_ble_eq_true rfl), (Nat.le_of_ble_eq_true rfl)⟩ (hP.sub [3] rfl) 0 rfl rfl hl.1 rfl (Nat.le_of_ble_eq_true rfl) dX9_meet_30 ⟨(Nat.zero_le _), (Nat.zero_le _)⟩) (fun r30 h => ?_)
    refine lv_icmp_ge (tgt := 63) hx hb dX9_meet_33 (by decide) (fun hc => ?_) (fun hc => ?_)
    · have h := h.1 hc
      refine lv_iload_n hx hb dX9_meet_63 rfl (lv_at hl 2 rfl) ?_
      exact W.iret hx hb hr (fun t ht _ => ⟨⟨_, f_refused, rfl, h, hPt hP ht⟩, hS.F ht⟩) hS.2.2 dX9_meet_64
    have h := h.2 hc
    refine lv_aload_n hx hb dX9_meet_36 rfl (lv_at hl 0 rfl) ?_
    refine gf S hE hP 0 rfl rfl inX9 (k := 0) (by decide) q181 rfl dX9_meet_37 ?_
    refine gfN S hE hP 2 rfl rfl inX5 (k := 0) (by decide) nfX9_106 rfl dX9_meet_40 ?_
    refine lv_iload_n hx hb dX9_meet_43 rfl (lv_at hl 3 rfl) ?_
    refine lv_iload_n hx hb dX9_meet_44 rfl (lv_at hl 1 rfl) ?_
    refine ro_i (roV S hE hT hS (c_X7_isMetBy h) lkX9_293 rfl ⟨(Nat.le_of_ble_eq_true rfl), (Nat.le_of_ble_eq_true rfl)⟩ (hP.sub [3, 4, 5, 6] rfl) 0 rfl rfl hl.1 rfl (Nat.le_of_ble_eq_true rfl) dX9_meet_45 ⟨(Nat.zero_le _), (Nat.zero_le _)⟩) (fun r45 h => ?_)
    refine lv_if_eq (tgt := 57) hx hb dX9_meet_48 (by decide) (fun hc => ?_) (fun hc => ?_)
    · have h := h.1 hc
      refine w_X9_meet_57 S hE hT hA hr hlocks ih _ _ _ h hP hD hS (lv_sub hl [0, 1, 2, 3] rfl)
    have h := h.2 hc
    refine lv_iload_n hx hb dX9_meet_51 rfl (lv_at hl 2 rfl) ?_
    refine lv_iconst (v := 1) hx hb dX9_meet_52 (by decide) ?_
    refine lv_iload_n hx hb dX9_meet_53 rfl (lv_at hl 3 rfl) ?_
    refine lv_ishl hx hb dX9_meet_54 ?_
    refine lv_ior hx hb dX9_meet_55 ?_
    refine lv_topi (fun x2_56 ex2_56 => ?_)
    have h := h _ ex2_56
    refine lv_istore_n (lv' := [(2, .int x2_56), (0, .ref a_o), (1, .int x1), (3, .int x3)]) hx hb dX9_meet_56 rfl hl (by decide) rfl (fun ls hl => ?_)
    refine w_X9_meet_57 S hE hT hA hr hlocks ih _ _ _ h hP hD hS (lv_sub hl [1, 2, 0, 3] rfl)
set_option maxHeartbeats 4000000 in
set_option maxRecDepth 100000 in
theorem c_X9_meet {l : Launch} {D : va_G} {cI cJ cS : ClassId} {ad adK : Nat → Nat} {a_o a_refused a_road a_road_stretches a_road_stretches_kinds a_road_stretches_others a_road_stretches_spaces : Nat} {z_kept z_ahead z_shelves z_cutting z_acting z_road_cars z_road_tunes z_road_demands z_road_stretches_times : Value} {v_imaged : Int32} {v_lastFault : Int32} {f_refused : Nat → Int32} {v_road_drawSeed : Int32} {v_road_stretches_stretchCount : Int32} {f_road_stretches_kinds : Nat → Int32} {f_road_stretches_others : Nat → Int32} {f_road_stretches_spaces : Nat → Int32} {x1 : Int32} {post : Int32 → (Nat → Int32) → Prop} (h : F_X9_meet f_refused v_road_stretches_stretchCount f_road_stretches_kinds f_road_stretches_others f_road_stretches_spaces x1 post) {sz : Nat} : Met l yX9_meet (Cond.code yX9_meet cX9_meet 4 (some (.int)) :: GW) (rmd 3 0 0) (PW D cI cJ cS ad adK [.ref a_o, .int x1] (wX9_meet cI cJ cS a_o a_refused a_road a_road_stretches a_road_stretches_kinds a_road_stretches_others a_road_stretches_spaces z_kept z_ahead z_shelves z_cutting z_acting z_road_cars z_road_tunes z_road_demands z_road_stretches_times v_imaged v_lastFault f_refused v_road_drawSeed v_road_stretches_stretchCount f_road_stretches_kinds f_road_stretches_others f_road_stretches_spaces) sz) (va_Qi (fun r (u : (Nat → Int32)) => post r u) (fun u t => va_P D vwCl (wX9_meet cI cJ cS a_o a_refused a_road a_road_stretches a_road_stretches_kinds a_road_stretches_others a_road_stretches_spaces z_kept z_ahead z_shelves z_cutting z_acting z_road_cars z_road_tunes z_road_demands z_road_stretches_times v_imaged v_lastFault u v_road_drawSeed v_road_stretches_stretchCount f_road_stretches_kinds f_road_stretches_others f_road_stretches_spaces) t.heap) (va_A (wX9_meet cI cJ cS a_o a_refused a_road a_road_stretches a_road_stretches_kinds a_road_stretches_others a_road_stretches_spaces z_kept z_ahead z_shelves z_cutting z_acting z_road_cars z_road_tunes z_road_demands z_road_stretches_times v_imaged v_lastFault f_refused v_road_drawSeed v_road_stretches_stretchCount f_road_stretches_kinds f_road_stretches_others f_road_stretches_spaces) sz)) 0 0 (va_A (wX9_meet cI cJ cS a_o a_refused a_road a_road_stretches a_road_stretches_kinds a_road_stretches_others a_road_stretches_spaces z_kept z_ahead z_shelves z_cutting z_acting z_road_cars z_road_tunes z_road_demands z_road_stretches_times v_imaged v_lastFault f_refused v_road_drawSeed v_road_stretches_stretchCount f_road_stretches_kinds f_road_stretches_others f_road_stretches_spaces) sz) := by
  refine Met.rw (Qc := fun A => (va_Qi (fun r (u : (Nat → Int32)) => post r u) (fun u t => va_P D vwCl (wX9_meet cI cJ cS a_o a_refused a_road a_road_stretches a_road_stretches_kinds a_road_stretches_others a_road_stretches_spaces z_kept z_ahead z_shelves z_cutting z_acting z_road_cars z_road_tunes z_road_demands z_road_stretches_times v_imaged v_lastFault u v_road_drawSeed v_road_stretches_stretchCount f_road_stretches_kinds f_road_stretches_others f_road_stretches_spaces) t.heap) A)) (by decide) (Nat.le_of_ble_eq_true rfl) (fun p e s m args below meth c ls A (S : CallFix p m c cX9_meet 4 s args GW "RoadThatSings") hE hT hP hD hA hS hr hlocks hname hl => ?_)
  have hS0 := hS
  have hx := S.1
  have hb := S.2.1
  have hl : lv_has ls 4 [(0, .ref a_o), (1, .int x1)] := hl
  unfold F_X9_meet at h
  refine lv_iload_n hx hb dX9_meet_0 rfl (lv_at hl 1 rfl) ?_
  refine lv_iconst (v := 0) hx hb dX9_meet_1 (by decide) ?_
  refine lv_sipush (v := 999) hx hb dX9_meet_2 (by decide) ?_
  refine ro_i (roS S hE hT hS (c_X9_within h) lkX9_63 rfl ⟨(Nat.le_of_ble_eq_true rfl), (Nat.le_of_ble_eq_true rfl)⟩ (hP.sub [] rfl) hl.1 rfl (Nat.le_of_ble_eq_true rfl) dX9_meet_5 ⟨(Nat.zero_le _), (Nat.zero_le _)⟩) (fun r5 h => ?_)
  refine lv_if_ne (tgt := 18) hx hb dX9_meet_8 (by decide) (fun hc => ?_) (fun hc => ?_)
  · have h := h.2 hc
    refine lv_iconst (v := 0) hx hb dX9_meet_18 (by decide) ?_
    refine lv_istore_n (lv' := [(2, .int 0), (0, .ref a_o), (1, .int x1)]) hx hb dX9_meet_19 rfl hl (by decide) rfl (fun ls hl => ?_)
    refine lv_iconst (v := 0) hx hb dX9_meet_20 (by decide) ?_
    refine lv_istore_n (lv' := [(3, .int 0), (2, .int 0), (0, .ref a_o), (1, .int x1)]) hx hb dX9_meet_21 rfl hl (by decide) rfl (fun ls hl => ?_)
    obtain ⟨n, h⟩ := h
    refine w_X9_meet_22 S hE hT hA hr hlocks n _ _ _ _ _ h hP hD hS (lv_sub hl [2, 3, 1, 0] rfl)
  have h := h.1 hc
  refine lv_aload_n hx hb dX9_meet_11 rfl (lv_at hl 0 rfl) ?_
  refine lv_bipush (v := (-6)) hx hb dX9_meet_12 (by decide) ?_
  refine rw_i (rwV S hE hT hS hP hD hA (c_X9_refuse h) [0, 1] rfl (by decide) lkX9_59 rfl ⟨(Nat.le_of_ble_eq_true rfl), (Nat.le_of_ble_eq_true rfl)⟩ 0 rfl rfl hl.1 rfl (Nat.le_of_ble_eq_true rfl) dX9_meet_14 ⟨(Nat.zero_le _), (Nat.zero_le _)⟩) hP hD hS hA [0, 1] rfl (by decide) (fun _ => rfl) (fun r14 w14_0 H locs h hP hD hS => ?_)
  try dsimp only at h
  have hP : va_P D vwCl (wX9_meet cI cJ cS a_o a_refused a_road a_road_stretches a_road_stretches_kinds a_road_stretches_others a_road_stretches_spaces z_kept z_ahead z_shelves z_cutting z_acting z_road_cars z_road_tunes z_road_demands z_road_stretches_times v_imaged v_lastFault w14_0 v_road_drawSeed v_road_stretches_stretchCount f_road_stretches_kinds f_road_stretches_others f_road_stretches_spaces) H := hP
  have hD : va_D A (wX9_meet cI cJ cS a_o a_refused a_road a_road_stretches a_road_stretches_kinds a_road_stretches_others a_road_stretches_spaces z_kept z_ahead z_shelves z_cutting z_acting z_road_cars z_road_tunes z_road_demands z_road_stretches_times v_imaged v_lastFault w14_0 v_road_drawSeed v_road_stretches_stretchCount f_road_stretches_kinds f_road_stretches_others f_road_stretches_spaces) := hD
  exact W.iret hx hb hr (fun t ht _ => ⟨⟨_, w14_0, rfl, h, hPt hP ht⟩, hS.F ht⟩) hS.2.2 dX9_meet_17
/-! X9_refusalOfTuneAt -/
abbrev wX9_refusalOfTuneAt (cI cJ cS : ClassId) (a_o a_road a_road_tunes : Nat) (z_kept z_ahead z_shelves z_cutting z_acting z_refused z_road_stretches z_road_cars z_road_demands z_road_tunes_pitches z_road_tunes_beats z_road_tunes_noteCounts : Value) (v_imaged : Int32) (v_lastFault : Int32) (v_road_drawSeed : Int32) (v_road_tunes_tuneCount : Int32) : va_W := [(a_o, .inr (8, [.ref a_road, z_kept, z_ahead, z_shelves, z_cutting, z_acting, z_refused, .int v_imaged, .int v_lastFault])), (a_road, .inr (4, [z_road_stretches, z_road_cars, .ref a_road_tunes, z_road_demands, .int v_road_drawSeed])), (a_road_tunes, .inr (7, [z_road_tunes_pitches, z_road_tunes_beats, z_road_tunes_noteCounts, .int v_road_tunes_tuneCount]))]
def F_X9_refusalOfTuneAt (v_road_tunes_tuneCount : Int32) (x1 : Int32) (x2 : Int32) (post : Int32 → Prop) : Prop := (F_X8_has v_road_tunes_tuneCount x1 (fun r8 => ((r8 = 0 → post (-1)) ∧ (¬ r8 = 0 → (F_X9_isSpeed x2 (fun r17 => ((r17 = 0 → post (-6)) ∧ (¬ r17 = 0 → post 0))))))))
set_option maxHeartbeats 4000000 in
set_option maxRecDepth 100000 in
theorem c_X9_refusalOfTuneAt {l : Launch} {D : va_G} {cI cJ cS : ClassId} {ad adK : Nat → Nat} {a_o a_road a_road_tunes : Nat} {z_kept z_ahead z_shelves z_cutting z_acting z_refused z_road_stretches z_road_cars z_road_demands z_road_tunes_pitches z_road_tunes_beats z_road_tunes_noteCounts : Value} {v_imaged : Int32} {v_lastFault : Int32} {v_road_drawSeed : Int32} {v_road_tunes_tuneCount : Int32} {x1 : Int32} {x2 : Int32} {post : Int32 → Prop} (h : F_X9_refusalOfTuneAt v_road_tunes_tuneCount x1 x2 post) : Met l yX9_refusalOfTuneAt (Cond.code yX9_refusalOfTuneAt cX9_refusalOfTuneAt 3 (some (.int)) :: GW) (rmd 2 0 0) (PR D cI cJ cS ad adK [.ref a_o, .int x1, .int x2] (wX9_refusalOfTuneAt cI cJ cS a_o a_road a_road_tunes z_kept z_ahead z_shelves z_cutting z_acting z_refused z_road_stretches z_road_cars z_road_demands z_road_tunes_pitches z_road_tunes_beats z_road_tunes_noteCounts v_imaged v_lastFault v_road_drawSeed v_road_tunes_tuneCount)) (vp_Si post) 0 0 nof := by
  refine Met.ro (by decide) (Nat.le_of_ble_eq_true rfl) (fun p e s m args below meth c ls (S : CallFix p m c cX9_refusalOfTuneAt 3 s args GW "RoadThatSings") hE hT hP hS hr hlocks hl => ?_)
  have hx := S.1
  have hb := S.2.1
  have hl : lv_has ls 3 [(0, .ref a_o), (1, .int x1), (2, .int x2)] := hl
  unfold F_X9_refusalOfTuneAt at h
  refine lv_aload_n hx hb dX9_refusalOfTuneAt_0 rfl (lv_at hl 0 rfl) ?_
  refine gf S hE hP 0 rfl rfl inX9 (k := 0) (by decide) q181 rfl dX9_refusalOfTuneAt_1 ?_
  refine gfN S hE hP 1 rfl rfl inX5 (k := 2) (by decide) nfX9_209 rfl dX9_refusalOfTuneAt_4 ?_
  refine lv_iload_n hx hb dX9_refusalOfTuneAt_7 rfl (lv_at hl 1 rfl) ?_
  refine ro_i (roV S hE hT hS (c_X8_has h) lkX9_222 rfl ⟨(Nat.le_of_ble_eq_true rfl), (Nat.le_of_ble_eq_true rfl)⟩ (hP.sub [2] rfl) 0 rfl rfl hl.1 rfl (Nat.le_of_ble_eq_true rfl) dX9_refusalOfTuneAt_8 ⟨(Nat.zero_le _), (Nat.zero_le _)⟩) (fun r8 h => ?_)
  refine lv_if_ne (tgt := 16) hx hb dX9_refusalOfTuneAt_11 (by decide) (fun hc => ?_) (fun hc => ?_)
  · have h := h.2 hc
    refine lv_iload_n hx hb dX9_refusalOfTuneAt_16 rfl (lv_at hl 2 rfl) ?_
    refine ro_i (roS S hE hT hS (c_X9_isSpeed h) lkX9_177 rfl ⟨(Nat.le_of_ble_eq_true rfl), (Nat.le_of_ble_eq_true rfl)⟩ (hP.sub [] rfl) hl.1 rfl (Nat.le_of_ble_eq_true rfl) dX9_refusalOfTuneAt_17 ⟨(Nat.zero_le _), (Nat.zero_le _)⟩) (fun r17 h => ?_)
    refine lv_if_eq (tgt := 27) hx hb dX9_refusalOfTuneAt_20 (by decide) (fun hc => ?_) (fun hc => ?_)
    · have h := h.1 hc
      refine lv_bipush (v := (-6)) hx hb dX9_refusalOfTuneAt_27 (by decide) ?_
      exact W.iret hx hb hr (fun t ht _ => ⟨_, rfl, h, ht⟩) (fun _ hq => by cases hq) dX9_refusalOfTuneAt_29
    have h := h.2 hc
    refine lv_iconst (v := 0) hx hb dX9_refusalOfTuneAt_23 (by decide) ?_
    refine lv_goto (tgt := 29) hx hb dX9_refusalOfTuneAt_24 (by decide) ?_
    exact W.iret hx hb hr (fun t ht _ => ⟨_, rfl, h, ht⟩) (fun _ hq => by cases hq) dX9_refusalOfTuneAt_29
  have h := h.1 hc
  refine lv_iconst (v := (-1)) hx hb dX9_refusalOfTuneAt_14 (by decide) ?_
  exact W.iret hx hb hr (fun t ht _ => ⟨_, rfl, h, ht⟩) (fun _ hq => by cases hq) dX9_refusalOfTuneAt_15
