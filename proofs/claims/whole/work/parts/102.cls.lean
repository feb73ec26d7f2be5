/-! X2_spaceOf -/
abbrev wX2_spaceOf (cI cJ cS : ClassId) (a_o a_spaces : Nat) (z_offs z_times : Value) (v_noteCount : Int32) (f_spaces : Nat → Int32) : va_W := [(a_o, .inr (2, [.ref a_spaces, z_offs, z_times, .int v_noteCount])), (a_spaces, .inl (cI, 12, .inl f_spaces))]
def F_X2_spaceOf (v_noteCount : Int32) (f_spaces : Nat → Int32) (x1 : Int32) (post : Int32 → Prop) : Prop := (F_X2_has v_noteCount x1 (fun r2 => ((r2 = 0 → post 0) ∧ (¬ r2 = 0 → (vp_in x1 12 ∧ post (f_spaces x1.toNatClampNeg))))))
set_option maxHeartbeats 4000000 in
set_option maxRecDepth 100000 in
theorem c_X2_spaceOf {l : Launch} {D : va_G} {cI cJ cS : ClassId} {ad adK : Nat → Nat} {a_o a_spaces : Nat} {z_offs z_times : Value} {v_noteCount : Int32} {f_spaces : Nat → Int32} {x1 : Int32} {post : Int32 → Prop} (h : F_X2_spaceOf v_noteCount f_spaces x1 post) : Met l yX2_spaceOf (Cond.code yX2_spaceOf cX2_spaceOf 2 (some (.int)) :: GW) (rmd 1 0 0) (PR D cI cJ cS ad adK [.ref a_o, .int x1] (wX2_spaceOf cI cJ cS a_o a_spaces z_offs z_times v_noteCount f_spaces)) (vp_Si post) 0 0 nof := by
  refine Met.ro (by decide) (Nat.le_of_ble_eq_true rfl) (fun p e s m args below meth c ls (S : CallFix p m c cX2_spaceOf 2 s args GW "RoadThatSings$Cutting") hE hT hP hS hr hlocks hl => ?_)
  have hx := S.1
  have hb := S.2.1
  have hl : lv_has ls 2 [(0, .ref a_o), (1, .int x1)] := hl
  unfold F_X2_spaceOf at h
  refine lv_aload_n hx hb dX2_spaceOf_0 rfl (lv_at hl 0 rfl) ?_
  refine lv_iload_n hx hb dX2_spaceOf_1 rfl (lv_at hl 1 rfl) ?_
  refine ro_i (roV S hE hT hS (c_X2_has h) lkX2_25 rfl ⟨(Nat.le_of_ble_eq_true rfl), (Nat.le_of_ble_eq_true rfl)⟩ (hP.sub [0] rfl) 0 rfl rfl hl.1 rfl (Nat.le_of_ble_eq_true rfl) dX2_spaceOf_2 ⟨(Nat.zero_le _), (Nat.zero_le _)⟩) (fun r2 h => ?_)
  refine lv_if_eq (tgt := 17) hx hb dX2_spaceOf_5 (by decide) (fun hc => ?_) (fun hc => ?_)
  · have h := h.1 hc
    refine lv_iconst (v := 0) hx hb dX2_spaceOf_17 (by decide) ?_
    exact W.iret hx hb hr (fun t ht _ => ⟨_, rfl, h, ht⟩) (fun _ hq => by cases hq) dX2_spaceOf_18
  have h := h.2 hc
  refine lv_aload_n hx hb dX2_spaceOf_8 rfl (lv_at hl 0 rfl) ?_
  refine gf S hE hP 0 rfl rfl inX2 (k := 0) (by decide) q124 rfl dX2_spaceOf_9 ?_
  refine lv_iload_n hx hb dX2_spaceOf_12 rfl (lv_at hl 1 rfl) ?_
  obtain ⟨hi, h⟩ := h
  refine ial S hE hP 1 rfl hi dX2_spaceOf_13 ?_
  refine lv_goto (tgt := 18) hx hb dX2_spaceOf_14 (by decide) ?_
  exact W.iret hx hb hr (fun t ht _ => ⟨_, rfl, h, ht⟩) (fun _ hq => by cases hq) dX2_spaceOf_18
/-! X2_offOf -/
abbrev wX2_offOf (cI cJ cS : ClassId) (a_o a_offs : Nat) (z_spaces z_times : Value) (v_noteCount : Int32) (f_offs : Nat → Int32) : va_W := [(a_o, .inr (2, [z_spaces, .ref a_offs, z_times, .int v_noteCount])), (a_offs, .inl (cI, 12, .inl f_offs))]
def F_X2_offOf (v_noteCount : Int32) (f_offs : Nat → Int32) (x1 : Int32) (post : Int32 → Prop) : Prop := (F_X2_has v_noteCount x1 (fun r2 => ((r2 = 0 → post 0) ∧ (¬ r2 = 0 → (vp_in x1 12 ∧ post (f_offs x1.toNatClampNeg))))))
set_option maxHeartbeats 4000000 in
set_option maxRecDepth 100000 in
theorem c_X2_offOf {l : Launch} {D : va_G} {cI cJ cS : ClassId} {ad adK : Nat → Nat} {a_o a_offs : Nat} {z_spaces z_times : Value} {v_noteCount : Int32} {f_offs : Nat → Int32} {x1 : Int32} {post : Int32 → Prop} (h : F_X2_offOf v_noteCount f_offs x1 post) : Met l yX2_offOf (Cond.code yX2_offOf cX2_offOf 2 (some (.int)) :: GW) (rmd 1 0 0) (PR D cI cJ cS ad adK [.ref a_o, .int x1] (wX2_offOf cI cJ cS a_o a_offs z_spaces z_times v_noteCount f_offs)) (vp_Si post) 0 0 nof := by
  refine Met.ro (by decide) (Nat.le_of_ble_eq_true rfl) (fun p e s m args below meth c ls (S : CallFix p m c cX2_offOf 2 s args GW "RoadThatSings$Cutting") hE hT hP hS hr hlocks hl => ?_)
  have hx := S.1
  have hb := S.2.1
  have hl : lv_has ls 2 [(0, .ref a_o), (1, .int x1)] := hl
  unfold F_X2_offOf at h
  refine lv_aload_n hx hb dX2_offOf_0 rfl (lv_at hl 0 rfl) ?_
  refine lv_iload_n hx hb dX2_offOf_1 rfl (lv_at hl 1 rfl) ?_
  refine ro_i (roV S hE hT hS (c_X2_has h) lkX2_25 rfl ⟨(Nat.le_of_ble_eq_true rfl), (Nat.le_of_ble_eq_true rfl)⟩ (hP.sub [0] rfl) 0 rfl rfl hl.1 rfl (Nat.le_of_ble_eq_true rfl) dX2_offOf_2 ⟨(Nat.zero_le _), (Nat.zero_le _)⟩) (fun r2 h => ?_)
  refine lv_if_eq (tgt := 17) hx hb dX2_offOf_5 (by decide) (fun hc => ?_) (fun hc => ?_)
  · have h := h.1 hc
    refine lv_iconst (v := 0) hx hb dX2_offOf_17 (by decide) ?_
    exact W.iret hx hb hr (fun t ht _ => ⟨_, rfl, h, ht⟩) (fun _ hq => by cases hq) dX2_offOf_18
  have h := h.2 hc
  refine lv_aload_n hx hb dX2_offOf_8 rfl (lv_at hl 0 rfl) ?_
  refine gf S hE hP 0 rfl rfl inX2 (k := 1) (by decide) q125 rfl dX2_offOf_9 ?_
  refine lv_iload_n hx hb dX2_offOf_12 rfl (lv_at hl 1 rfl) ?_
  obtain ⟨hi, h⟩ := h
  refine ial S hE hP 1 rfl hi dX2_offOf_13 ?_
  refine lv_goto (tgt := 18) hx hb dX2_offOf_14 (by decide) ?_
  exact W.iret hx hb hr (fun t ht _ => ⟨_, rfl, h, ht⟩) (fun _ hq => by cases hq) dX2_offOf_18
/-! X2_timesOf -/
abbrev wX2_timesOf (cI cJ cS : ClassId) (a_o a_times : Nat) (z_spaces z_offs : Value) (v_noteCount : Int32) (f_times : Nat → Int32) : va_W := [(a_o, .inr (2, [z_spaces, z_offs, .ref a_times, .int v_noteCount])), (a_times, .inl (cI, 12, .inl f_times))]
def F_X2_timesOf (v_noteCount : Int32) (f_times : Nat → Int32) (x1 : Int32) (post : Int32 → Prop) : Prop := (F_X2_has v_noteCount x1 (fun r2 => ((r2 = 0 → post 0) ∧ (¬ r2 = 0 → (vp_in x1 12 ∧ post (f_times x1.toNatClampNeg))))))
set_option maxHeartbeats 4000000 in
set_option maxRecDepth 100000 in
theorem c_X2_timesOf {l : Launch} {D : va_G} {cI cJ cS : ClassId} {ad adK : Nat → Nat} {a_o a_times : Nat} {z_spaces z_offs : Value} {v_noteCount : Int32} {f_times : Nat → Int32} {x1 : Int32} {post : Int32 → Prop} (h : F_X2_timesOf v_noteCount f_times x1 post) : Met l yX2_timesOf (Cond.code yX2_timesOf cX2_timesOf 2 (some (.int)) :: GW) (rmd 1 0 0) (PR D cI cJ cS ad adK [.ref a_o, .int x1] (wX2_timesOf cI cJ cS a_o a_times z_spaces z_offs v_noteCount f_times)) (vp_Si post) 0 0 nof := by
  refine Met.ro (by decide) (Nat.le_of_ble_eq_true rfl) (fun p e s m args below meth c ls (S : CallFix p m c cX2_timesOf 2 s args GW "RoadThatSings$Cutting") hE hT hP hS hr hlocks hl => ?_)
  have hx := S.1
  have hb := S.2.1
  have hl : lv_has ls 2 [(0, .ref a_o), (1, .int x1)] := hl
  unfold F_X2_timesOf at h
  refine lv_aload_n hx hb dX2_timesOf_0 rfl (lv_at hl 0 rfl) ?_
  refine lv_iload_n hx hb dX2_timesOf_1 rfl (lv_at hl 1 rfl) ?_
  refine ro_i (roV S hE hT hS (c_X2_has h) lkX2_25 rfl ⟨(Nat.le_of_ble_eq_true rfl), (Nat.le_of_ble_eq_true rfl)⟩ (hP.sub [0] rfl) 0 rfl rfl hl.1 rfl (Nat.le_of_ble_eq_true rfl) dX2_timesOf_2 ⟨(Nat.zero_le _), (Nat.zero_le _)⟩) (fun r2 h => ?_)
  refine lv_if_eq (tgt := 17) hx hb dX2_timesOf_5 (by decide) (fun hc => ?_) (fun hc => ?_)
  · have h := h.1 hc
    refine lv_iconst (v := 0) hx hb dX2_timesOf_17 (by decide) ?_
    exact W.iret hx hb hr (fun t ht _ => ⟨_, rfl, h, ht⟩) (fun _ hq => by cases hq) dX2_timesOf_18
  have h := h.2 hc
  refine lv_aload_n hx hb dX2_timesOf_8 rfl (lv_at hl 0 rfl) ?_
  refine gf S hE hP 0 rfl rfl inX2 (k := 2) (by decide) q126 rfl dX2_timesOf_9 ?_
  refine lv_iload_n hx hb dX2_timesOf_12 rfl (lv_at hl 1 rfl) ?_
  obtain ⟨hi, h⟩ := h
  refine ial S hE hP 1 rfl hi dX2_timesOf_13 ?_
  refine lv_goto (tgt := 18) hx hb dX2_timesOf_14 (by decide) ?_
  exact W.iret hx hb hr (fun t ht _ => ⟨_, rfl, h, ht⟩) (fun _ hq => by cases hq) dX2_timesOf_18
/-! X8_has -/
abbrev wX8_has (cI cJ cS : ClassId) (a_o : Nat) (z_pitches z_beats z_noteCounts : Value) (v_tuneCount : Int32) : va_W := [(a_o, .inr (7, [z_pitches, z_beats, z_noteCounts, .int v_tuneCount]))]
def F_X8_has (v_tuneCount : Int32) (x1 : Int32) (post : Int32 → Prop) : Prop := ((x1 < 0 → post 0) ∧ (¬ x1 < 0 → ((v_tuneCount ≤ x1 → post 0) ∧ (¬ v_tuneCount ≤ x1 → ((6 ≤ x1 → post 0) ∧ (¬ 6 ≤ x1 → post 1))))))
set_option maxHeartbeats 4000000 in
set_option maxRecDepth 100000 in
theorem c_X8_has {l : Launch} {D : va_G} {cI cJ cS : ClassId} {ad adK : Nat → Nat} {a_o : Nat} {z_pitches z_beats z_noteCounts : Value} {v_tuneCount : Int32} {x1 : Int32} {post : Int32 → Prop} (h : F_X8_has v_tuneCount x1 post) : Met l yX8_has (Cond.code yX8_has cX8_has 2 (some (.boolean)) :: GW) (rmd 0 0 0) (PR D cI cJ cS ad adK [.ref a_o, .int x1] (wX8_has cI cJ cS a_o z_pitches z_beats z_noteCounts v_tuneCount)) (vp_Si post) 0 0 nof := by
  refine Met.ro (by decide) (Nat.le_of_ble_eq_true rfl) (fun p e s m args below meth c ls (S : CallFix p m c cX8_has 2 s args GW "RoadThatSings$Tunes") hE hT hP hS hr hlocks hl => ?_)
  have hx := S.1
  have hb := S.2.1
  have hl : lv_has ls 2 [(0, .ref a_o), (1, .int x1)] := hl
  unfold F_X8_has at h
  refine lv_iload_n hx hb dX8_has_0 rfl (lv_at hl 1 rfl) ?_
  refine lv_if_lt (tgt := 22) hx hb dX8_has_1 (by decide) (fun hc => ?_) (fun hc => ?_)
  · have h := h.1 hc
    refine lv_iconst (v := 0) hx hb dX8_has_22 (by decide) ?_
    exact W.zret hx hb hr rfl (fun t ht _ => ⟨_, rfl, h, ht⟩) (fun _ hq => by cases hq) dX8_has_23
  have h := h.2 hc
  refine lv_iload_n hx hb dX8_has_4 rfl (lv_at hl 1 rfl) ?_
  refine lv_aload_n hx hb dX8_has_5 rfl (lv_at hl 0 rfl) ?_
  refine gf S hE hP 0 rfl rfl inX8 (k := 3) (by decide) q83 rfl dX8_has_6 ?_
  refine lv_icmp_ge (tgt := 22) hx hb dX8_has_9 (by decide) (fun hc => ?_) (fun hc => ?_)
  · have h := h.1 hc
    refine lv_iconst (v := 0) hx hb dX8_has_22 (by decide) ?_
    exact W.zret hx hb hr rfl (fun t ht _ => ⟨_, rfl, h, ht⟩) (fun _ hq => by cases hq) dX8_has_23
  have h := h.2 hc
  refine lv_iload_n hx hb dX8_has_12 rfl (lv_at hl 1 rfl) ?_
  refine lv_bipush (v := 6) hx hb dX8_has_13 (by decide) ?_
  refine lv_icmp_ge (tgt := 22) hx hb dX8_has_15 (by decide) (fun hc => ?_) (fun hc => ?_)
  · have h := h.1 hc
    refine lv_iconst (v := 0) hx hb dX8_has_22 (by decide) ?_
    exact W.zret hx hb hr rfl (fun t ht _ => ⟨_, rfl, h, ht⟩) (fun _ hq => by cases hq) dX8_has_23
  have h := h.2 hc
  refine lv_iconst (v := 1) hx hb dX8_has_18 (by decide) ?_
  refine lv_goto (tgt := 23) hx hb dX8_has_19 (by decide) ?_
  exact W.zret hx hb hr rfl (fun t ht _ => ⟨_, rfl, h, ht⟩) (fun _ hq => by cases hq) dX8_has_23
/-! X8_notesOf -/
abbrev wX8_notesOf (cI cJ cS : ClassId) (a_o a_noteCounts : Nat) (z_pitches z_beats : Value) (v_tuneCount : Int32) (f_noteCounts : Nat → Int32) : va_W := [(a_o, .inr (7, [z_pitches, z_beats, .ref a_noteCounts, .int v_tuneCount])), (a_noteCounts, .inl (cI, 6, .inl f_noteCounts))]
def F_X8_notesOf (v_tuneCount : Int32) (f_noteCounts : Nat → Int32) (x1 : Int32) (post : Int32 → Prop) : Prop := (F_X8_has v_tuneCount x1 (fun r2 => ((r2 = 0 → post 0) ∧ (¬ r2 = 0 → (vp_in x1 6 ∧ post (f_noteCounts x1.toNatClampNeg))))))
set_option maxHeartbeats 4000000 in
set_option maxRecDepth 100000 in
theorem c_X8_notesOf {l : Launch} {D : va_G} {cI cJ cS : ClassId} {ad adK : Nat → Nat} {a_o a_noteCounts : Nat} {z_pitches z_beats : Value} {v_tuneCount : Int32} {f_noteCounts : Nat → Int32} {x1 : Int32} {post : Int32 → Prop} (h : F_X8_notesOf v_tuneCount f_noteCounts x1 post) : Met l yX8_notesOf (Cond.code yX8_notesOf cX8_notesOf 2 (some (.int)) :: GW) (rmd 1 0 0) (PR D cI cJ cS ad adK [.ref a_o, .int x1] (wX8_notesOf cI cJ cS a_o a_noteCounts z_pitches z_beats v_tuneCount f_noteCounts)) (vp_Si post) 0 0 nof := by
  refine Met.ro (by decide) (Nat.le_of_ble_eq_true rfl) (fun p e s m args below meth c ls (S : CallFix p m c cX8_notesOf 2 s args GW "RoadThatSings$Tunes") hE hT hP hS hr hlocks hl => ?_)
  have hx := S.1
  have hb := S.2.1
  have hl : lv_has ls 2 [(0, .ref a_o), (1, .int x1)] := hl
  unfold F_X8_notesOf at h
  refine lv_aload_n hx hb dX8_notesOf_0 rfl (lv_at hl 0 rfl) ?_
  refine lv_iload_n hx hb dX8_notesOf_1 rfl (lv_at hl 1 rfl) ?_
  refine ro_i (roV S hE hT hS (c_X8_has h) lkX8_31 rfl ⟨(Nat.le_of_ble_eq_true rfl), (Nat.le_of_ble_eq_true rfl)⟩ (hP.sub [0] rfl) 0 rfl rfl hl.1 rfl (Nat.le_of_ble_eq_true rfl) dX8_notesOf_2 ⟨(Nat.zero_le _), (Nat.zero_le _)⟩) (fun r2 h => ?_)
  refine lv_if_eq (tgt := 17) hx hb dX8_notesOf_5 (by decide) (fun hc => ?_) (fun hc => ?_)
  · have h := h.1 hc
    refine lv_iconst (v := 0) hx hb dX8_notesOf_17 (by decide) ?_
    exact W.iret hx hb hr (fun t ht _ => ⟨_, rfl, h, ht⟩) (fun _ hq => by cases hq) dX8_notesOf_18
  have h := h.2 hc
  refine lv_aload_n hx hb dX8_notesOf_8 rfl (lv_at hl 0 rfl) ?_
  refine gf S hE hP 0 rfl rfl inX8 (k := 2) (by decide) q82 rfl dX8_notesOf_9 ?_
  refine lv_iload_n hx hb dX8_notesOf_12 rfl (lv_at hl 1 rfl) ?_
  obtain ⟨hi, h⟩ := h
  refine ial S hE hP 1 rfl hi dX8_notesOf_13 ?_
  refine lv_goto (tgt := 18) hx hb dX8_notesOf_14 (by decide) ?_
  exact W.iret hx hb hr (fun t ht _ => ⟨_, rfl, h, ht⟩) (fun _ hq => by cases hq) dX8_notesOf_18
/-! X8_hasNote -/
abbrev wX8_hasNote (cI cJ cS : ClassId) (a_o a_noteCounts : Nat) (z_pitches z_beats : Value) (v_tuneCount : Int32) (f_noteCounts : Nat → Int32) : va_W := [(a_o, .inr (7, [z_pitches, z_beats, .ref a_noteCounts, .int v_tuneCount])), (a_noteCounts, .inl (cI, 6, .inl f_noteCounts))]
def F_X8_hasNote (v_tuneCount : Int32) (f_noteCounts : Nat → Int32) (x1 : Int32) (x2 : Int32) (post : Int32 → Prop) : Prop := (F_X8_has v_tuneCount x1 (fun r2 => ((r2 = 0 → post 0) ∧ (¬ r2 = 0 → ((x2 < 0 → post 0) ∧ (¬ x2 < 0 → (vp_in x1 6 ∧ (((f_noteCounts x1.toNatClampNeg) ≤ x2 → post 0) ∧ (¬ (f_noteCounts x1.toNatClampNeg) ≤ x2 → ((12 ≤ x2 → post 0) ∧ (¬ 12 ≤ x2 → post 1)))))))))))
set_option maxHeartbeats 4000000 in
set_option maxRecDepth 100000 in
theorem c_X8_hasNote {l : Launch} {D : va_G} {cI cJ cS : ClassId} {ad adK : Nat → Nat} {a_o a_noteCounts : Nat} {z_pitches z_beats : Value} {v_tuneCount : Int32} {f_noteCounts : Nat → Int32} {x1 : Int32} {x2 : Int32} {post : Int32 → Prop} (h : F_X8_hasNote v_tuneCount f_noteCounts x1 x2 post) : Met l yX8_hasNote (Cond.code yX8_hasNote cX8_hasNote 3 (some (.boolean)) :: GW) (rmd 1 0 0) (PR D cI cJ cS ad adK [.ref a_o, .int x1, .int x2] (wX8_hasNote cI cJ cS a_o a_noteCounts z_pitches z_beats v_tuneCount f_noteCounts)) (vp_Si post) 0 0 nof := by
  refine Met.ro (by decide) (Nat.le_of_ble_eq_true rfl) (fun p e s m args below meth c ls (S : CallFix p m c cX8_hasNote 3 s args GW "RoadThatSings$Tunes") hE hT hP hS hr hlocks hl => ?_)
  have hx := S.1
  have hb := S.2.1
  have hl : lv_has ls 3 [(0, .ref a_o), (1, .int x1), (2, .int x2)] := hl
  unfold F_X8_hasNote at h
  refine lv_aload_n hx hb dX8_hasNote_0 rfl (lv_at hl 0 rfl) ?_
  refine lv_iload_n hx hb dX8_hasNote_1 rfl (lv_at hl 1 rfl) ?_
  refine ro_i (roV S hE hT hS (c_X8_has h) lkX8_31 rfl ⟨(Nat.le_of_ble_eq_true rfl), (Nat.le_of_ble_eq_true rfl)⟩ (hP.sub [0] rfl) 0 rfl rfl hl.1 rfl (Nat.le_of_ble_eq_true rfl) dX8_hasNote_2 ⟨(Nat.zero_le _), (Nat.zero_le _)⟩) (fun r2 h => ?_)
  refine lv_if_eq (tgt := 32) hx hb dX8_hasNote_5 (by decide) (fun hc => ?_) (fun hc => ?_)
  · have h := h.1 hc
    refine lv_iconst (v := 0) hx hb dX8_hasNote_32 (by decide) ?_
    exact W.zret hx hb hr rfl (fun t ht _ => ⟨_, rfl, h, ht⟩) (fun _ hq => by cases hq) dX8_hasNote_33
  have h := h.2 hc
  refine lv_iload_n hx hb dX8_hasNote_8 rfl (lv_at hl 2 rfl) ?_
  refine lv_if_lt (tgt := 32) hx hb dX8_hasNote_9 (by decide) (fun hc => ?_) (fun hc => ?_)
  · have h := h.1 hc
    refine lv_iconst (v := 0) hx hb dX8_hasNote_32 (by decide) ?_
    exact W.zret hx hb hr rfl (fun t ht _ => ⟨_, rfl, h, ht⟩) (fun _ hq => by cases hq) dX8_hasNote_33
  have h := h.2 hc
  refine lv_iload_n hx hb dX8_hasNote_12 rfl (lv_at hl 2 rfl) ?_
  refine lv_aload_n hx hb dX8_hasNote_13 rfl (lv_at hl 0 rfl) ?_
  refine gf S hE hP 0 rfl rfl inX8 (k := 2) (by decide) q82 rfl dX8_hasNote_14 ?_
  refine lv_iload_n hx hb dX8_hasNote_17 rfl (lv_at hl 1 rfl) ?_
  obtain ⟨hi, h⟩ := h
  refine ial S hE hP 1 rfl hi dX8_hasNote_18 ?_
  refine lv_icmp_ge (tgt := 32) hx hb dX8_hasNote_19 (by decide) (fun hc => ?_) (fun hc => ?_)
  · have h := h.1 hc
    refine lv_iconst (v := 0) hx hb dX8_hasNote_32 (by decide) ?_
    exact W.zret hx hb hr rfl (fun t ht _ => ⟨_, rfl, h, ht⟩) (fun _ hq => by cases hq) dX8_hasNote_33
  have h := h.2 hc
  refine lv_iload_n hx hb dX8_hasNote_22 rfl (lv_at hl 2 rfl) ?_
  refine lv_bipush (v := 12) hx hb dX8_hasNote_23 (by decide) ?_
  refine lv_icmp_ge (tgt := 32) hx hb dX8_hasNote_25 (by decide) (fun hc => ?_) (fun hc => ?_)
  · have h := h.1 hc
    refine lv_iconst (v := 0) hx hb dX8_hasNote_32 (by decide) ?_
    exact W.zret hx hb hr rfl (fun t ht _ => ⟨_, rfl, h, ht⟩) (fun _ hq => by cases hq) dX8_hasNote_33
  have h := h.2 hc
  refine lv_iconst (v := 1) hx hb dX8_hasNote_28 (by decide) ?_
  refine lv_goto (tgt := 33) hx hb dX8_hasNote_29 (by decide) ?_
  exact W.zret hx hb hr rfl (fun t ht _ => ⟨_, rfl, h, ht⟩) (fun _ hq => by cases hq) dX8_hasNote_33
/-! X8_pitchOf -/
abbrev wX8_pitchOf (cI cJ cS : ClassId) (a_o a_noteCounts a_pitches : Nat) (z_beats : Value) (v_tuneCount : Int32) (f_noteCounts : Nat → Int32) (f_pitches : Nat → Int32) : va_W := [(a_o, .inr (7, [.ref a_pitches, z_beats, .ref a_noteCounts, .int v_tuneCount])), (a_noteCounts, .inl (cI, 6, .inl f_noteCounts)), (a_pitches, .inl (cI, 72, .inl f_pitches))]
def F_X8_pitchOf (v_tuneCount : Int32) (f_noteCounts : Nat → Int32) (f_pitches : Nat → Int32) (x1 : Int32) (x2 : Int32) (post : Int32 → Prop) : Prop := (F_X8_hasNote v_tuneCount f_noteCounts x1 x2 (fun r3 => ((r3 = 0 → post 0) ∧ (¬ r3 = 0 → (vp_in ((x1 * 12) + x2) 72 ∧ post (f_pitches ((x1 * 12) + x2).toNatClampNeg))))))
set_option maxHeartbeats 4000000 in
set_option maxRecDepth 100000 in
theorem c_X8_pitchOf {l : Launch} {D : va_G} {cI cJ cS : ClassId} {ad adK : Nat → Nat} {a_o a_noteCounts a_pitches : Nat} {z_beats : Value} {v_tuneCount : Int32} {f_noteCounts : Nat → Int32} {f_pitches : Nat → Int32} {x1 : Int32} {x2 : Int32} {post : Int32 → Prop} (h : F_X8_pitchOf v_tuneCount f_noteCounts f_pitches x1 x2 post) : Met l yX8_pitchOf (Cond.code yX8_pitchOf cX8_pitchOf 3 (some (.int)) :: GW) (rmd 2 0 0) (PR D cI cJ cS ad adK [.ref a_o, .int x1, .int x2] (wX8_pitchOf cI cJ cS a_o a_noteCounts a_pitches z_beats v_tuneCount f_noteCounts f_pitches)) (vp_Si post) 0 0 nof := by
  refine Met.ro (by decide) (Nat.le_of_ble_eq_true rfl) (fun p e s m args below meth c ls (S : CallFix p m c cX8_pitchOf 3 s args GW "RoadThatSings$Tunes") hE hT hP hS hr hlocks hl => ?_)
  have hx := S.1
  have hb := S.2.1
  have hl : lv_has ls 3 [(0, .ref a_o), (1, .int x1), (2, .int x2)] := hl
  unfold F_X8_pitchOf at h
  refine lv_aload_n hx hb dX8_pitchOf_0 rfl (lv_at hl 0 rfl) ?_
  refine lv_iload_n hx hb dX8_pitchOf_1 rfl (lv_at hl 1 rfl) ?_
  refine lv_iload_n hx hb dX8_pitchOf_2 rfl (lv_at hl 2 rfl) ?_
  refine ro_i (roV S hE hT hS (c_X8_hasNote h) lkX8_43 rfl ⟨(Nat.le_of_ble_eq_true rfl), (Nat.le_of_ble_eq_true rfl)⟩ (hP.sub [0, 1] rfl) 0 rfl rfl hl.1 rfl (Nat.le_of_ble_eq_true rfl) dX8_pitchOf_3 ⟨(Nat.zero_le _), (Nat.zero_le _)⟩) (fun r3 h => ?_)
  refine lv_if_eq (tgt := 23) hx hb dX8_pitchOf_6 (by decide) (fun hc => ?_) (fun hc => ?_)
  · have h := h.1 hc
    refine lv_iconst (v := 0) hx hb dX8_pitchOf_23 (by decide) ?_
    exact W.iret hx hb hr (fun t ht _ => ⟨_, rfl, h, ht⟩) (fun _ hq => by cases hq) dX8_pitchOf_24
  have h := h.2 hc
  refine lv_aload_n hx hb dX8_pitchOf_9 rfl (lv_at hl 0 rfl) ?_
  refine gf S hE hP 0 rfl rfl inX8 (k := 0) (by decide) q80 rfl dX8_pitchOf_10 ?_
  refine lv_iload_n hx hb dX8_pitchOf_13 rfl (lv_at hl 1 rfl) ?_
  refine lv_bipush (v := 12) hx hb dX8_pitchOf_14 (by decide) ?_
  refine lv_imul hx hb dX8_pitchOf_16 ?_
  refine lv_iload_n hx hb dX8_pitchOf_17 rfl (lv_at hl 2 rfl) ?_
  refine lv_iadd hx hb dX8_pitchOf_18 ?_
  obtain ⟨hi, h⟩ := h
  refine ial S hE hP 2 rfl hi dX8_pitchOf_19 ?_
  refine lv_goto (tgt := 24) hx hb dX8_pitchOf_20 (by decide) ?_
  exact W.iret hx hb hr (fun t ht _ => ⟨_, rfl, h, ht⟩) (fun _ hq => by cases hq) dX8_pitchOf_24
/-! X5_asked -/
abbrev wX5_asked (cI cJ cS : ClassId) (a_o a_demands : Nat) (z_stretches z_cars z_tunes : Value) (v_drawSeed : Int32) (f_demands : Nat → Int32) : va_W := [(a_o, .inr (4, [z_stretches, z_cars, z_tunes, .ref a_demands, .int v_drawSeed])), (a_demands, .inl (cI, 4, .inl f_demands))]
def F_X5_asked (f_demands : Nat → Int32) (x1 : Int32) (post : Int32 → Prop) : Prop := (F_X9_within x1 0 3 (fun r3 => ((r3 = 0 → post 0) ∧ (¬ r3 = 0 → (vp_in x1 4 ∧ post (f_demands x1.toNatClampNeg))))))
set_option maxHeartbeats 4000000 in
set_option maxRecDepth 100000 in
theorem c_X5_asked {l : Launch} {D : va_G} {cI cJ cS : ClassId} {ad adK : Nat → Nat} {a_o a_demands : Nat} {z_stretches z_cars z_tunes : Value} {v_drawSeed : Int32} {f_demands : Nat → Int32} {x1 : Int32} {post : Int32 → Prop} (h : F_X5_asked f_demands x1 post) : Met l yX5_asked (Cond.code yX5_asked cX5_asked 2 (some (.int)) :: GW) (rmd 1 0 0) (PR D cI cJ cS ad adK [.ref a_o, .int x1] (wX5_asked cI cJ cS a_o a_demands z_stretches z_cars z_tunes v_drawSeed f_demands)) (vp_Si post) 0 0 nof := by
  refine Met.ro (by decide) (Nat.le_of_ble_eq_true rfl) (fun p e s m args below meth c ls (S : CallFix p m c cX5_asked 2 s args GW "RoadThatSings$Road") hE hT hP hS hr hlocks hl => ?_)
  have hx := S.1
  have hb := S.2.1
  have hl : lv_has ls 2 [(0, .ref a_o), (1, .int x1)] := hl
  unfold F_X5_asked at h
  refine lv_iload_n hx hb dX5_asked_0 rfl (lv_at hl 1 rfl) ?_
  refine lv_iconst (v := 0) hx hb dX5_asked_1 (by decide) ?_
  refine lv_iconst (v := 3) hx hb dX5_asked_2 (by decide) ?_
  refine ro_i (roSN S hE hT hS (c_X9_within h) lkX5_56 rfl ⟨(Nat.le_of_ble_eq_true rfl), (Nat.le_of_ble_eq_true rfl)⟩ (hP.sub [] rfl) hl.1 rfl (Nat.le_of_ble_eq_true rfl) dX5_asked_3 ⟨(Nat.zero_le _), (Nat.zero_le _)⟩) (fun r3 h => ?_)
  refine lv_if_eq (tgt := 18) hx hb dX5_asked_6 (by decide) (fun hc => ?_) (fun hc => ?_)
  · have h := h.1 hc
    refine lv_iconst (v := 0) hx hb dX5_asked_18 (by decide) ?_
    exact W.iret hx hb hr (fun t ht _ => ⟨_, rfl, h, ht⟩) (fun _ hq => by cases hq) dX5_asked_19
  have h := h.2 hc
  refine lv_aload_n hx hb dX5_asked_9 rfl (lv_at hl 0 rfl) ?_
  refine gf S hE hP 0 rfl rfl inX5 (k := 3) (by decide) q103 rfl dX5_asked_10 ?_
  refine lv_iload_n hx hb dX5_asked_13 rfl (lv_at hl 1 rfl) ?_
  obtain ⟨hi, h⟩ := h
  refine ial S hE hP 1 rfl hi dX5_asked_14 ?_
  refine lv_goto (tgt := 19) hx hb dX5_asked_15 (by decide) ?_
  exact W.iret hx hb hr (fun t ht _ => ⟨_, rfl, h, ht⟩) (fun _ hq => by cases hq) dX5_asked_19
/-! X9_quotient -/
abbrev wX9_quotient (cI cJ cS : ClassId) : va_W := []
def F_X9_quotient (x0 : Int32) (x1 : Int32) (post : Int32 → Prop) : Prop := ((x1 = 0 → post 0) ∧ (¬ x1 = 0 → (¬ x1 = 0 ∧ post (x0 / x1))))
set_option maxHeartbeats 4000000 in
set_option maxRecDepth 100000 in
theorem c_X9_quotient {l : Launch} {D : va_G} {cI cJ cS : ClassId} {ad adK : Nat → Nat}  {x0 : Int32} {x1 : Int32} {post : Int32 → Prop} (h : F_X9_quotient x0 x1 post) : Met l yX9_quotient (Cond.code yX9_quotient cX9_quotient 2 (some (.int)) :: GW) (rmd 0 0 0) (PR D cI cJ cS ad adK [.int x0, .int x1] (wX9_quotient cI cJ cS)) (vp_Si post) 0 0 nof := by
  refine Met.ro (by decide) (Nat.le_of_ble_eq_true rfl) (fun p e s m args below meth c ls (S : CallFix p m c cX9_quotient 2 s args GW "RoadThatSings") hE hT hP hS hr hlocks hl => ?_)
  have hx := S.1
  have hb := S.2.1
  have hl : lv_has ls 2 [(0, .int x0), (1, .int x1)] := hl
  unfold F_X9_quotient at h
  refine lv_iload_n hx hb dX9_quotient_0 rfl (lv_at hl 1 rfl) ?_
  refine lv_if_ne (tgt := 8) hx hb dX9_quotient_1 (by decide) (fun hc => ?_) (fun hc => ?_)
  · have h := h.2 hc
    refine lv_iload_n hx hb dX9_quotient_8 rfl (lv_at hl 0 rfl) ?_
    refine lv_iload_n hx hb dX9_quotient_9 rfl (lv_at hl 1 rfl) ?_
    obtain ⟨hz, h⟩ := h
    refine lv_idiv hx hb dX9_quotient_10 hz ?_
    exact W.iret hx hb hr (fun t ht _ => ⟨_, rfl, h, ht⟩) (fun _ hq => by cases hq) dX9_quotient_11
  have h := h.1 hc
  refine lv_iconst (v := 0) hx hb dX9_quotient_4 (by decide) ?_
  refine lv_goto (tgt := 11) hx hb dX9_quotient_5 (by decide) ?_
  exact W.iret hx hb hr (fun t ht _ => ⟨_, rfl, h, ht⟩) (fun _ hq => by cases hq) dX9_quotient_11
/-! X9_humBy -/
abbrev wX9_humBy (cI cJ cS : ClassId) : va_W := []
def F_X9_humBy (x0 : Int32) (x1 : Int32) (post : Int32 → Prop) : Prop := (F_X9_quotient (704 * x1) x0 (fun r6 => post r6))
set_option maxHeartbeats 4000000 in
set_option maxRecDepth 100000 in
theorem c_X9_humBy {l : Launch} {D : va_G} {cI cJ cS : ClassId} {ad adK : Nat → Nat}  {x0 : Int32} {x1 : Int32} {post : Int32 → Prop} (h : F_X9_humBy x0 x1 post) : Met l yX9_humBy (Cond.code yX9_humBy cX9_humBy 2 (some (.int)) :: GW) (rmd 1 0 0) (PR D cI cJ cS ad adK [.int x0, .int x1] (wX9_humBy cI cJ cS)) (vp_Si post) 0 0 nof := by
  refine Met.ro (by decide) (Nat.le_of_ble_eq_true rfl) (fun p e s m args below meth c ls (S : CallFix p m c cX9_humBy 2 s args GW "RoadThatSings") hE hT hP hS hr hlocks hl => ?_)
  have hx := S.1
  have hb := S.2.1
  have hl : lv_has ls 2 [(0, .int x0), (1, .int x1)] := hl
  unfold F_X9_humBy at h
  refine lv_sipush (v := 704) hx hb dX9_humBy_0 (by decide) ?_
  refine lv_iload_n hx hb dX9_humBy_3 rfl (lv_at hl 1 rfl) ?_
  refine lv_imul hx hb dX9_humBy_4 ?_
  refine lv_iload_n hx hb dX9_humBy_5 rfl (lv_at hl 0 rfl) ?_
  refine ro_i (roS S hE hT hS (c_X9_quotient h) lkX9_354 rfl ⟨(Nat.le_of_ble_eq_true rfl), (Nat.le_of_ble_eq_true rfl)⟩ (hP.sub [] rfl) hl.1 rfl (Nat.le_of_ble_eq_true rfl) dX9_humBy_6 ⟨(Nat.zero_le _), (Nat.zero_le _)⟩) (fun r6 h => ?_)
  exact W.iret hx hb hr (fun t ht _ => ⟨_, rfl, h, ht⟩) (fun _ hq => by cases hq) dX9_humBy_9
/-! X9_offBetween -/
abbrev wX9_offBetween (cI cJ cS : ClassId) : va_W := []
def F_X9_offBetween (x0 : Int32) (x1 : Int32) (post : Int32 → Prop) : Prop := ((x1 = 0 → ((x0 = 0 → post 0) ∧ (¬ x0 = 0 → post 999))) ∧ (¬ x1 = 0 → ((x0 = 0 → post 999) ∧ (¬ x0 = 0 → (F_X9_quotient ((if 0 ≤ (x0 - x1) then (x0 - x1) else 0 - (x0 - x1)) * 1000) x1 (fun r38 => post (if r38 < 999 then r38 else 999)))))))
set_option maxHeartbeats 4000000 in
set_option maxRecDepth 100000 in
theorem c_X9_offBetween {l : Launch} {D : va_G} {cI cJ cS : ClassId} {ad adK : Nat → Nat}  {x0 : Int32} {x1 : Int32} {post : Int32 → Prop} (h : F_X9_offBetween x0 x1 post) : Met l yX9_offBetween (Cond.code yX9_offBetween cX9_offBetween 2 (some (.int)) :: GW) (rmd 1 0 0) (PR D cI cJ cS ad adK [.int x0, .int x1] (wX9_offBetween cI cJ cS)) (vp_Si post) 0 0 nof := by
  refine Met.ro (by decide) (Nat.le_of_ble_eq_true rfl) (fun p e s m args below meth c ls (S : CallFix p m c cX9_offBetween 2 s args GW "RoadThatSings") hE hT hP hS hr hlocks hl => ?_)
  have hx := S.1
  have hb := S.2.1
  have hl : lv_has ls 2 [(0, .int x0), (1, .int x1)] := hl
  unfold F_X9_offBetween at h
  refine lv_iload_n hx hb dX9_offBetween_0 rfl (lv_at hl 1 rfl) ?_
  refine lv_if_ne (tgt := 16) hx hb dX9_offBetween_1 (by decide) (fun hc => ?_) (fun hc => ?_)
  · have h := h.2 hc
    refine lv_iload_n hx hb dX9_offBetween_16 rfl (lv_at hl 0 rfl) ?_
    refine lv_if_ne (tgt := 24) hx hb dX9_offBetween_17 (by decide) (fun hc => ?_) (fun hc => ?_)
    · have h := h.2 hc
      refine lv_sipush (v := 999) hx hb dX9_offBetween_24 (by decide) ?_
      refine lv_iload_n hx hb dX9_offBetween_27 rfl (lv_at hl 0 rfl) ?_
      refine lv_iload_n hx hb dX9_offBetween_28 rfl (lv_at hl 1 rfl) ?_
      refine lv_isub hx hb dX9_offBetween_29 ?_
      refine va_mabs hx hb (S.2.2.1.trans hl.1.symm) S.2.2.2.1 (S.2.2.2.2 _ q755) (S.2.2.2.2 _ q756) (S.2.2.2.2 _ q10) (S.2.2.2.2 _ q757) (Nat.le_of_ble_eq_true rfl) (Nat.le_of_ble_eq_true rfl) (Nat.zero_le _) (Nat.zero_le _) dX9_offBetween_30 ?_
      refine lv_sipush (v := 1000) hx hb dX9_offBetween_33 (by decide) ?_
      refine lv_imul hx hb dX9_offBetween_36 ?_
      refine lv_iload_n hx hb dX9_offBetween_37 rfl (lv_at hl 1 rfl) ?_
      refine ro_i (roS S hE hT hS (c_X9_quotient h) lkX9_354 rfl ⟨(Nat.le_of_ble_eq_true rfl), (Nat.le_of_ble_eq_true rfl)⟩ (hP.sub [] rfl) hl.1 rfl (Nat.le_of_ble_eq_true rfl) dX9_offBetween_38 ⟨(Nat.zero_le _), (Nat.zero_le _)⟩) (fun r38 h => ?_)
      refine va_mmin hx hb (S.2.2.1.trans hl.1.symm) S.2.2.2.1 (S.2.2.2.2 _ q758) (S.2.2.2.2 _ q233) (S.2.2.2.2 _ q10) (S.2.2.2.2 _ q234) (Nat.le_of_ble_eq_true rfl) (Nat.le_of_ble_eq_true rfl) (Nat.zero_le _) (Nat.zero_le _) dX9_offBetween_41 ?_
      exact W.iret hx hb hr (fun t ht _ => ⟨_, rfl, h, ht⟩) (fun _ hq => by cases hq) dX9_offBetween_44
    have h := h.1 hc
    refine lv_sipush (v := 999) hx hb dX9_offBetween_20 (by decide) ?_
    exact W.iret hx hb hr (fun t ht _ => ⟨_, rfl, h, ht⟩) (fun _ hq => by cases hq) dX9_offBetween_23
  have h := h.1 hc
  refine lv_iload_n hx hb dX9_offBetween_4 rfl (lv_at hl 0 rfl) ?_
  refine lv_if_ne (tgt := 12) hx hb dX9_offBetween_5 (by decide) (fun hc => ?_) (fun hc => ?_)
  · have h := h.2 hc
    refine lv_sipush (v := 999) hx hb dX9_offBetween_12 (by decide) ?_
    exact W.iret hx hb hr (fun t ht _ => ⟨_, rfl, h, ht⟩) (fun _ hq => by cases hq) dX9_offBetween_15
  have h := h.1 hc
  refine lv_iconst (v := 0) hx hb dX9_offBetween_8 (by decide) ?_
  refine lv_goto (tgt := 15) hx hb dX9_offBetween_9 (by decide) ?_
  exact W.iret hx hb hr (fun t ht _ => ⟨_, rfl, h, ht⟩) (fun _ hq => by cases hq) dX9_offBetween_15
/-! X2_spaceFor -/
abbrev wX2_spaceFor (cI cJ cS : ClassId) : va_W := []
def F_X2_spaceFor_47 (post : Int32 → Prop) (k10 : Int32 → Int32 → Int32 → Prop) (x0 : Int32) (x2 : Int32) (x3 : Int32) (x4 : Int32) (x5 : Int32) (x6 : Int32) : Prop := ((x0 < x6 → (∀ x5_55 : Int32, x5_55 = x5 + 1 → k10 x3 x4 x5_55)) ∧ (¬ x0 < x6 → post x3))
def L_X2_spaceFor_10 (x0 : Int32) (x2 : Int32) (post : Int32 → Prop) : Nat → Int32 → Int32 → Int32 → Prop
  | 0, _, _, _ => False
  | n10 + 1, x3, x4, x5 => ((60 < x5 → post x3) ∧ (¬ 60 < x5 → (F_X9_humBy x5 x2 (fun r20 => (F_X9_offBetween r20 x0 (fun r28 => ((x4 ≤ r28 → F_X2_spaceFor_47 post (fun x3 x4 x5 => L_X2_spaceFor_10 x0 x2 post n10 x3 x4 x5) x0 x2 x3 x4 x5 r20) ∧ (¬ x4 ≤ r28 → F_X2_spaceFor_47 post (fun x3 x4 x5 => L_X2_spaceFor_10 x0 x2 post n10 x3 x4 x5) x0 x2 x5 r28 x5 r20))))))))
def F_X2_spaceFor (x0 : Int32) (x1 : Int32) (x2 : Int32) (post : Int32 → Prop) : Prop := (∃ n10 : Nat, L_X2_spaceFor_10 x0 x2 post n10 x1 1000 x1)
set_option maxHeartbeats 4000000 in
set_option maxRecDepth 100000 in
theorem w_X2_spaceFor_47 {l : Launch} {D : va_G} {cI cJ cS : ClassId} {ad adK : Nat → Nat}  {x0 : Int32} {x2 : Int32} {x3 : Int32} {x4 : Int32} {x5 : Int32} {x6 : Int32} {post : Int32 → Prop} {k10 : Int32 → Int32 → Int32 → Prop} {p : Program} {e : Env} {s : State} {m : MethodId} {args : Array Value} {below : List Frame} {meth : Method} {c : Code} (S : CallFix p m c cX2_spaceFor 8 s args GW "RoadThatSings$Cutting") (hE : EN D cI cJ cS s) (hT : ST ad adK nof s s.heap) (hP : va_P D vwCl (wX2_spaceFor cI cJ cS) s.heap) (hS : va_S nof s.heap s.heap []) (hr : meth.sig.returnType = (some (.int))) (hlocks : meth.locks = false) (hk10 : ∀ (x3 : Int32) (x4 : Int32) (x5 : Int32) (ls : Array Slot), k10 x3 x4 x5 → lv_has ls 8 [(0, .int x0), (2, .int x2), (3, .int x3), (4, .int x4), (5, .int x5)] → W p l e (rmd 2 0 0) s m args below meth c s.heap [] 0 0 (MQ below (vp_Si post) args s 0 0 nof) (F0 m 10 ls [])) : ∀ (ls : Array Slot), F_X2_spaceFor_47 post k10 x0 x2 x3 x4 x5 x6 → lv_has ls 8 [(0, .int x0), (2, .int x2), (3, .int x3), (4, .int x4), (5, .int x5), (6, .int x6)] → W p l e (rmd 2 0 0) s m args below meth c s.heap [] 0 0 (MQ below (vp_Si post) args s 0 0 nof) (F0 m 47 ls []) := by
  intro  ls h hl
  unfold F_X2_spaceFor_47 at h
  have hx := S.1
  have hb := S.2.1
  refine lv_iload hx hb dX2_spaceFor_47 (lv_at hl 5 rfl) ?_
  refine lv_iload_n hx hb dX2_spaceFor_49 rfl (lv_at hl 0 rfl) ?_
  refine lv_icmp_gt (tgt := 55) hx hb dX2_spaceFor_50 (by decide) (fun hc => ?_) (fun hc => ?_)
  · have h := h.1 hc
    obtain ⟨x5_55, ex5_55⟩ : ∃ z : Int32, z = x5 + 1 := ⟨_, rfl⟩
    have h := h _ ex5_55
    refine lv_iinc (v := x5_55) (lv' := [(5, .int x5_55), (0, .int x0), (2, .int x2), (3, .int x3), (4, .int x4), (6, .int x6)]) hx hb dX2_spaceFor_55 hl (k := 4) rfl (by rw [ex5_55]; rfl) (by decide) rfl (fun ls hl => ?_)
    refine lv_goto (tgt := 10) hx hb dX2_spaceFor_58 (by decide) ?_
    exact hk10 _ _ _ _ h (lv_sub hl [1, 2, 3, 4, 0] rfl)
  have h := h.2 hc
  refine lv_iload_n hx hb dX2_spaceFor_53 rfl (lv_at hl 2 rfl) ?_
  exact W.iret hx hb hr (fun t ht _ => ⟨_, rfl, h, ht⟩) (fun _ hq => by cases hq) dX2_spaceFor_54
set_option maxHeartbeats 4000000 in
set_option maxRecDepth 100000 in
theorem w_X2_spaceFor_10 {l : Launch} {D : va_G} {cI cJ cS : ClassId} {ad adK : Nat → Nat}  {x0 : Int32} {x2 : Int32} {post : Int32 → Prop} {p : Program} {e : Env} {s : State} {m : MethodId} {args : Array Value} {below : List Frame} {meth : Method} {c : Code} (S : CallFix p m c cX2_spaceFor 8 s args GW "RoadThatSings$Cutting") (hE : EN D cI cJ cS s) (hT : ST ad adK nof s s.heap) (hP : va_P D vwCl (wX2_spaceFor cI cJ cS) s.heap) (hS : va_S nof s.heap s.heap []) (hr : meth.sig.returnType = (some (.int))) (hlocks : meth.locks = false) : ∀ n : Nat, ∀ (x3 : Int32) (x4 : Int32) (x5 : Int32) (ls : Array Slot), L_X2_spaceFor_10 x0 x2 post n x3 x4 x5 → lv_has ls 8 [(0, .int x0), (2, .int x2), (3, .int x3), (4, .int x4), (5, .int x5)] → W p l e (rmd 2 0 0) s m args below meth c s.heap [] 0 0 (MQ below (vp_Si post) args s 0 0 nof) (F0 m 10 ls []) := by
  intro n
  induction n with
  | zero =>
    intro x3 x4 x5 ls h hl
    exact h.elim
  | succ n ih =>
    intro x3 x4 x5 ls h hl
    rw [L_X2_spaceFor_10] at h
    have hx := S.1
    have hb := S.2.1
    refine lv_iload hx hb dX2_spaceFor_10 (lv_at hl 4 rfl) ?_
    refine lv_bipush (v := 60) hx hb dX2_spaceFor_12 (by decide) ?_
    refine lv_icmp_gt (tgt := 61) hx hb dX2_spaceFor_14 (by decide) (fun hc => ?_) (fun hc => ?_)
    · have h := h.1 hc
      refine lv_iload_n hx hb dX2_spaceFor_61 rfl (lv_at hl 2 rfl) ?_
      exact W.iret hx hb hr (fun t ht _ => ⟨_, rfl, h, ht⟩) (fun _ hq => by cases hq) dX2_spaceFor_62
    have h := h.2 hc
    refine lv_iload hx hb dX2_spaceFor_17 (lv_at hl 4 rfl) ?_
    refine lv_iload_n hx hb dX2_spaceFor_19 rfl (lv_at hl 1 rfl) ?_
    refine ro_i (roSN S hE hT hS (c_X9_humBy h) lkX2_64 rfl ⟨(Nat.le_of_ble_eq_true rfl), (Nat.le_of_ble_eq_true rfl)⟩ (hP.sub [] rfl) hl.1 rfl (Nat.le_of_ble_eq_true rfl) dX2_spaceFor_20 ⟨(Nat.zero_le _), (Nat.zero_le _)⟩) (fun r20 h => ?_)
    refine lv_istore (lv' := [(6, .int r20), (0, .int x0), (2, .int x2), (3, .int x3), (4, .int x4), (5, .int x5)]) hx hb dX2_spaceFor_23 hl (by decide) rfl (fun ls hl => ?_)
    refine lv_iload hx hb dX2_spaceFor_25 (lv_at hl 0 rfl) ?_
    refine lv_iload_n hx hb dX2_spaceFor_27 rfl (lv_at hl 1 rfl) ?_
    refine ro_i (roSN S hE hT hS (c_X9_offBetween h) lkX2_67 rfl ⟨(Nat.le_of_ble_eq_true rfl), (Nat.le_of_ble_eq_true rfl)⟩ (hP.sub [] rfl) hl.1 rfl (Nat.le_of_ble_eq_true rfl) dX2_spaceFor_28 ⟨(Nat.zero_le _), (Nat.zero_le _)⟩) (fun r28 h => ?_)
    refine lv_istore (lv' := [(7, .int r28), (6, .int r20), (0, .int x0), (2, .int x2), (3, .int x3), (4, .int x4), (5, .int x5)]) hx hb dX2_spaceFor_31 hl (by decide) rfl (fun ls hl => ?_)
    refine lv_iload hx hb dX2_spaceFor_33 (lv_at hl 0 rfl) ?_
    refine lv_iload hx hb dX2_spaceFor_35 (lv_at hl 5 rfl) ?_
    refine lv_icmp_ge (tgt := 47) hx hb dX2_spaceFor_37 (by decide) (fun hc => ?_) (fun hc => ?_)
    · have h := h.1 hc
      refine w_X2_spaceFor_47 S hE hT hP hS hr hlocks ih _ h (lv_sub hl [2, 3, 4, 5, 6, 1] rfl)
    have h := h.2 hc
    refine lv_iload hx hb dX2_spaceFor_40 (lv_at hl 0 rfl) ?_
    refine lv_istore (lv' := [(4, .int r28), (7, .int r28), (6, .int r20), (0, .int x0), (2, .int x2), (3, .int x3), (5, .int x5)]) hx hb dX2_spaceFor_42 hl (by decide) rfl (fun ls hl => ?_)
    refine lv_iload hx hb dX2_spaceFor_44 (lv_at hl 6 rfl) ?_
    refine lv_istore_n (lv' := [(3, .int x5), (4, .int r28), (7, .int r28), (6, .int r20), (0, .int x0), (2, .int x2), (5, .int x5)]) hx hb dX2_spaceFor_46 rfl hl (by decide) rfl (fun ls hl => ?_)
    refine w_X2_spaceFor_47 S hE hT hP hS hr hlocks ih _ h (lv_sub hl [4, 5, 0, 1, 6, 3] rfl)
set_option maxHeartbeats 4000000 in
set_option maxRecDepth 100000 in
theorem c_X2_spaceFor {l : Launch} {D : va_G} {cI cJ cS : ClassId} {ad adK : Nat → Nat}  {x0 : Int32} {x1 : Int32} {x2 : Int32} {post : Int32 → Prop} (h : F_X2_spaceFor x0 x1 x2 post) : Met l yX2_spaceFor (Cond.code yX2_spaceFor cX2_spaceFor 8 (some (.int)) :: GW) (rmd 2 0 0) (PR D cI cJ cS ad adK [.int x0, .int x1, .int x2] (wX2_spaceFor cI cJ cS)) (vp_Si post) 0 0 nof := by
  refine Met.ro (by decide) (Nat.le_of_ble_eq_true rfl) (fun p e s m args below meth c ls (S : CallFix p m c cX2_spaceFor 8 s args GW "RoadThatSings$Cutting") hE hT hP hS hr hlocks hl => ?_)
  have hx := S.1
  have hb := S.2.1
  have hl : lv_has ls 8 [(0, .int x0), (1, .int x1), (2, .int x2)] := hl
  unfold F_X2_spaceFor at h
  refine lv_iload_n hx hb dX2_spaceFor_0 rfl (lv_at hl 1 rfl) ?_
  refine lv_istore_n (lv' := [(3, .int x1), (0, .int x0), (1, .int x1), (2, .int x2)]) hx hb dX2_spaceFor_1 rfl hl (by decide) rfl (fun ls hl => ?_)
  refine lv_sipush (v := 1000) hx hb dX2_spaceFor_2 (by decide) ?_
  refine lv_istore (lv' := [(4, .int 1000), (3, .int x1), (0, .int x0), (1, .int x1), (2, .int x2)]) hx hb dX2_spaceFor_5 hl (by decide) rfl (fun ls hl => ?_)
  refine lv_iload_n hx hb dX2_spaceFor_7 rfl (lv_at hl 3 rfl) ?_
  refine lv_istore (lv' := [(5, .int x1), (4, .int 1000), (3, .int x1), (0, .int x0), (1, .int x1), (2, .int x2)]) hx hb dX2_spaceFor_8 hl (by decide) rfl (fun ls hl => ?_)
  obtain ⟨n, h⟩ := h
  refine w_X2_spaceFor_10 S hE hT hP hS hr hlocks n _ _ _ _ h (lv_sub hl [3, 5, 2, 1, 0] rfl)
