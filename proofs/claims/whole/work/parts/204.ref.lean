/-! X10_humBy -/
abbrev wX10_humBy (cI cJ cS : ClassId) (a_o : Nat) (z_refused z_steps z_kind z_space z_other z_times z_speed z_base z_share z_notes z_pitch z_beats z_held z_sort z_size z_shown z_cells z_carried z_words z_tell z_was z_kept z_cutSpace z_cutTimes z_cutOff z_trace : Value) (v_stretches : Int32) (v_cars : Int32) (v_tunes : Int32) (v_along : Int32) (v_near : Int32) (v_borne : Int32) (v_tempo : Int32) (v_seed : Int32) (v_fault : Int32) (v_from : Int32) (v_at : Int32) (v_end : Int32) (v_told : Int32) (v_wrongAt : Int32) (v_culprit : Int32) (v_ran : Int32) (v_isKept : Int32) : va_W := [(a_o, .inr (9, [.int v_stretches, .int v_cars, .int v_tunes, .int v_along, .int v_near, .int v_borne, .int v_tempo, .int v_seed, .int v_fault, z_refused, z_steps, z_kind, z_space, z_other, z_times, z_speed, z_base, z_share, z_notes, z_pitch, z_beats, z_held, z_sort, z_size, z_shown, z_cells, z_carried, z_words, z_tell, .int v_from, .int v_at, .int v_end, .int v_told, .int v_wrongAt, z_was, z_kept, .int v_culprit, z_cutSpace, z_cutTimes, z_cutOff, z_trace, .int v_ran, .int v_isKept]))]
def F_X10_humBy (x1 : Int32) (x2 : Int32) (post : Int32 → Prop) : Prop := (¬ x1 = 0 ∧ post ((704 * x2) / x1))
set_option maxHeartbeats 4000000 in
set_option maxRecDepth 100000 in
theorem c_X10_humBy {l : Launch} {D : va_G} {cI cJ cS : ClassId} {ad adK : Nat → Nat} {a_o : Nat} {z_refused z_steps z_kind z_space z_other z_times z_speed z_base z_share z_notes z_pitch z_beats z_held z_sort z_size z_shown z_cells z_carried z_words z_tell z_was z_kept z_cutSpace z_cutTimes z_cutOff z_trace : Value} {v_stretches : Int32} {v_cars : Int32} {v_tunes : Int32} {v_along : Int32} {v_near : Int32} {v_borne : Int32} {v_tempo : Int32} {v_seed : Int32} {v_fault : Int32} {v_from : Int32} {v_at : Int32} {v_end : Int32} {v_told : Int32} {v_wrongAt : Int32} {v_culprit : Int32} {v_ran : Int32} {v_isKept : Int32} {x1 : Int32} {x2 : Int32} {post : Int32 → Prop} (h : F_X10_humBy x1 x2 post) : Met l yX10_humBy (Cond.code yX10_humBy cX10_humBy 3 (some (.int)) :: GW) (rmd 0 0 0) (PR D cI cJ cS ad adK [.ref a_o, .int x1, .int x2] (wX10_humBy cI cJ cS a_o z_refused z_steps z_kind z_space z_other z_times z_speed z_base z_share z_notes z_pitch z_beats z_held z_sort z_size z_shown z_cells z_carried z_words z_tell z_was z_kept z_cutSpace z_cutTimes z_cutOff z_trace v_stretches v_cars v_tunes v_along v_near v_borne v_tempo v_seed v_fault v_from v_at v_end v_told v_wrongAt v_culprit v_ran v_isKept)) (vp_Si post) 0 0 nof := by
  refine Met.ro (by decide) (Nat.le_of_ble_eq_true rfl) (fun p e s m args below meth c ls (S : CallFix p m c cX10_humBy 3 s args GW "RoadThatSingsModel") hE hT hP hS hr hlocks hl => ?_)
  have hx := S.1
  have hb := S.2.1
  have hl : lv_has ls 3 [(0, .ref a_o), (1, .int x1), (2, .int x2)] := hl
  unfold F_X10_humBy at h
  refine lv_sipush (v := 704) hx hb dX10_humBy_0 (by decide) ?_
  refine lv_iload_n hx hb dX10_humBy_3 rfl (lv_at hl 2 rfl) ?_
  refine lv_imul hx hb dX10_humBy_4 ?_
  refine lv_iload_n hx hb dX10_humBy_5 rfl (lv_at hl 1 rfl) ?_
  obtain ⟨hz, h⟩ := h
  refine lv_idiv hx hb dX10_humBy_6 hz ?_
  exact W.iret hx hb hr (fun t ht _ => ⟨_, rfl, h, ht⟩) (fun _ hq => by cases hq) dX10_humBy_7
/-! X10_humOf -/
abbrev wX10_humOf (cI cJ cS : ClassId) (a_o a_kind a_other a_space : Nat) (z_refused z_steps z_times z_speed z_base z_share z_notes z_pitch z_beats z_held z_sort z_size z_shown z_cells z_carried z_words z_tell z_was z_kept z_cutSpace z_cutTimes z_cutOff z_trace : Value) (v_stretches : Int32) (v_cars : Int32) (v_tunes : Int32) (v_along : Int32) (v_near : Int32) (v_borne : Int32) (v_tempo : Int32) (v_seed : Int32) (v_fault : Int32) (v_from : Int32) (v_at : Int32) (v_end : Int32) (v_told : Int32) (v_wrongAt : Int32) (v_culprit : Int32) (v_ran : Int32) (v_isKept : Int32) (f_kind : Nat → Int32) (f_other : Nat → Int32) (f_space : Nat → Int32) : va_W := [(a_o, .inr (9, [.int v_stretches, .int v_cars, .int v_tunes, .int v_along, .int v_near, .int v_borne, .int v_tempo, .int v_seed, .int v_fault, z_refused, z_steps, .ref a_kind, .ref a_space, .ref a_other, z_times, z_speed, z_base, z_share, z_notes, z_pitch, z_beats, z_held, z_sort, z_size, z_shown, z_cells, z_carried, z_words, z_tell, .int v_from, .int v_at, .int v_end, .int v_told, .int v_wrongAt, z_was, z_kept, .int v_culprit, z_cutSpace, z_cutTimes, z_cutOff, z_trace, .int v_ran, .int v_isKept])), (a_kind, .inl (cI, 16, .inl f_kind)), (a_other, .inl (cI, 16, .inl f_other)), (a_space, .inl (cI, 16, .inl f_space))]
def F_X10_humOf (f_kind : Nat → Int32) (f_other : Nat → Int32) (f_space : Nat → Int32) (x1 : Int32) (x2 : Int32) (post : Int32 → Prop) : Prop := (vp_in x1 16 ∧ (∀ x3_6 : Int32, x3_6 = f_kind x1.toNatClampNeg → ((x3_6 = 3 → post 0) ∧ (¬ x3_6 = 3 → (F_X10_isTwo x3_6 (fun r16 => ((r16 = 0 → (vp_in x1 16 ∧ (F_X10_humBy (f_space x1.toNatClampNeg) x2 (fun r30 => post r30)))) ∧ (¬ r16 = 0 → (vp_in x1 16 ∧ (vp_in x1 16 ∧ (F_X10_humBy ((f_space x1.toNatClampNeg) + (f_other x1.toNatClampNeg)) x2 (fun r50 => (∀ x4_54 : Int32, x4_54 = 2 * r50 → ((x3_6 = 5 → post (x4_54 / 2)) ∧ (¬ x3_6 = 5 → post x4_54)))))))))))))))
set_option maxHeartbeats 4000000 in
set_option maxRecDepth 100000 in
theorem c_X10_humOf {l : Launch} {D : va_G} {cI cJ cS : ClassId} {ad adK : Nat → Nat} {a_o a_kind a_other a_space : Nat} {z_refused z_steps z_times z_speed z_base z_share z_notes z_pitch z_beats z_held z_sort z_size z_shown z_cells z_carried z_words z_tell z_was z_kept z_cutSpace z_cutTimes z_cutOff z_trace : Value} {v_stretches : Int32} {v_cars : Int32} {v_tunes : Int32} {v_along : Int32} {v_near : Int32} {v_borne : Int32} {v_tempo : Int32} {v_seed : Int32} {v_fault : Int32} {v_from : Int32} {v_at : Int32} {v_end : Int32} {v_told : Int32} {v_wrongAt : Int32} {v_culprit : Int32} {v_ran : Int32} {v_isKept : Int32} {f_kind : Nat → Int32} {f_other : Nat → Int32} {f_space : Nat → Int32} {x1 : Int32} {x2 : Int32} {post : Int32 → Prop} (h : F_X10_humOf f_kind f_other f_space x1 x2 post) : Met l yX10_humOf (Cond.code yX10_humOf cX10_humOf 5 (some (.int)) :: GW) (rmd 1 0 0) (PR D cI cJ cS ad adK [.ref a_o, .int x1, .int x2] (wX10_humOf cI cJ cS a_o a_kind a_other a_space z_refused z_steps z_times z_speed z_base z_share z_notes z_pitch z_beats z_held z_sort z_size z_shown z_cells z_carried z_words z_tell z_was z_kept z_cutSpace z_cutTimes z_cutOff z_trace v_stretches v_cars v_tunes v_along v_near v_borne v_tempo v_seed v_fault v_from v_at v_end v_told v_wrongAt v_culprit v_ran v_isKept f_kind f_other f_space)) (vp_Si post) 0 0 nof := by
  refine Met.ro (by decide) (Nat.le_of_ble_eq_true rfl) (fun p e s m args below meth c ls (S : CallFix p m c cX10_humOf 5 s args GW "RoadThatSingsModel") hE hT hP hS hr hlocks hl => ?_)
  have hx := S.1
  have hb := S.2.1
  have hl : lv_has ls 5 [(0, .ref a_o), (1, .int x1), (2, .int x2)] := hl
  unfold F_X10_humOf at h
  refine lv_aload_n hx hb dX10_humOf_0 rfl (lv_at hl 0 rfl) ?_
  refine gf S hE hP 0 rfl rfl inX10 (k := 11) (by decide) q1104 rfl dX10_humOf_1 ?_
  refine lv_iload_n hx hb dX10_humOf_4 rfl (lv_at hl 1 rfl) ?_
  obtain ⟨hi, h⟩ := h
  refine ial S hE hP 1 rfl hi dX10_humOf_5 ?_
  refine lv_topi (fun x3_6 ex3_6 => ?_)
  have h := h _ ex3_6
  refine lv_istore_n (lv' := [(3, .int x3_6), (0, .ref a_o), (1, .int x1), (2, .int x2)]) hx hb dX10_humOf_6 rfl hl (by decide) rfl (fun ls hl => ?_)
  refine lv_iload_n hx hb dX10_humOf_7 rfl (lv_at hl 0 rfl) ?_
  refine lv_iconst (v := 3) hx hb dX10_humOf_8 (by decide) ?_
  refine lv_icmp_ne (tgt := 14) hx hb dX10_humOf_9 (by decide) (fun hc => ?_) (fun hc => ?_)
  · have h := h.2 hc
    refine lv_aload_n hx hb dX10_humOf_14 rfl (lv_at hl 1 rfl) ?_
    refine lv_iload_n hx hb dX10_humOf_15 rfl (lv_at hl 0 rfl) ?_
    refine ro_i (roV S hE hT hS (c_X10_isTwo h) lkX10_152 rfl ⟨(Nat.le_of_ble_eq_true rfl), (Nat.le_of_ble_eq_true rfl)⟩ (hP.sub [0] rfl) 0 rfl rfl hl.1 rfl (Nat.le_of_ble_eq_true rfl) dX10_humOf_16 ⟨(Nat.zero_le _), (Nat.zero_le _)⟩) (fun r16 h => ?_)
    refine lv_if_ne (tgt := 34) hx hb dX10_humOf_19 (by decide) (fun hc => ?_) (fun hc => ?_)
    · have h := h.2 hc
      refine lv_iconst (v := 2) hx hb dX10_humOf_34 (by decide) ?_
      refine lv_aload_n hx hb dX10_humOf_35 rfl (lv_at hl 1 rfl) ?_
      refine lv_aload_n hx hb dX10_humOf_36 rfl (lv_at hl 1 rfl) ?_
      refine gf S hE hP 0 rfl rfl inX10 (k := 12) (by decide) q1105 rfl dX10_humOf_37 ?_
      refine lv_iload_n hx hb dX10_humOf_40 rfl (lv_at hl 2 rfl) ?_
      obtain ⟨hi, h⟩ := h
      refine ial S hE hP 3 rfl hi dX10_humOf_41 ?_
      refine lv_aload_n hx hb dX10_humOf_42 rfl (lv_at hl 1 rfl) ?_
      refine gf S hE hP 0 rfl rfl inX10 (k := 13) (by decide) q1106 rfl dX10_humOf_43 ?_
      refine lv_iload_n hx hb dX10_humOf_46 rfl (lv_at hl 2 rfl) ?_
      obtain ⟨hi, h⟩ := h
      refine ial S hE hP 2 rfl hi dX10_humOf_47 ?_
      refine lv_iadd hx hb dX10_humOf_48 ?_
      refine lv_iload_n hx hb dX10_humOf_49 rfl (lv_at hl 3 rfl) ?_
      refine ro_i (roV S hE hT hS (c_X10_humBy h) lkX10_229 rfl ⟨(Nat.le_of_ble_eq_true rfl), (Nat.le_of_ble_eq_true rfl)⟩ (hP.sub [0] rfl) 0 rfl rfl hl.1 rfl (Nat.le_of_ble_eq_true rfl) dX10_humOf_50 ⟨(Nat.zero_le _), (Nat.zero_le _)⟩) (fun r50 h => ?_)
      refine lv_imul hx hb dX10_humOf_53 ?_
      refine lv_topi (fun x4_54 ex4_54 => ?_)
      have h := h _ ex4_54
      refine lv_istore (lv' := [(4, .int x4_54), (3, .int x3_6), (0, .ref a_o), (1, .int x1), (2, .int x2)]) hx hb dX10_humOf_54 hl (by decide) rfl (fun ls hl => ?_)
      refine lv_iload_n hx hb dX10_humOf_56 rfl (lv_at hl 1 rfl) ?_
      refine lv_iconst (v := 5) hx hb dX10_humOf_57 (by decide) ?_
      refine lv_icmp_ne (tgt := 68) hx hb dX10_humOf_58 (by decide) (fun hc => ?_) (fun hc => ?_)
      · have h := h.2 hc
        refine lv_iload hx hb dX10_humOf_68 (lv_at hl 0 rfl) ?_
        exact W.iret hx hb hr (fun t ht _ => ⟨_, rfl, h, ht⟩) (fun _ hq => by cases hq) dX10_humOf_70
      have h := h.1 hc
      refine lv_iload hx hb dX10_humOf_61 (lv_at hl 0 rfl) ?_
      refine lv_iconst (v := 2) hx hb dX10_humOf_63 (by decide) ?_
      refine lv_idiv hx hb dX10_humOf_64 (by decide) ?_
      refine lv_goto (tgt := 70) hx hb dX10_humOf_65 (by decide) ?_
      exact W.iret hx hb hr (fun t ht _ => ⟨_, rfl, h, ht⟩) (fun _ hq => by cases hq) dX10_humOf_70
    have h := h.1 hc
    refine lv_aload_n hx hb dX10_humOf_22 rfl (lv_at hl 1 rfl) ?_
    refine lv_aload_n hx hb dX10_humOf_23 rfl (lv_at hl 1 rfl) ?_
    refine gf S hE hP 0 rfl rfl inX10 (k := 12) (by decide) q1105 rfl dX10_humOf_24 ?_
    refine lv_iload_n hx hb dX10_humOf_27 rfl (lv_at hl 2 rfl) ?_
    obtain ⟨hi, h⟩ := h
    refine ial S hE hP 3 rfl hi dX10_humOf_28 ?_
    refine lv_iload_n hx hb dX10_humOf_29 rfl (lv_at hl 3 rfl) ?_
    refine ro_i (roV S hE hT hS (c_X10_humBy h) lkX10_229 rfl ⟨(Nat.le_of_ble_eq_true rfl), (Nat.le_of_ble_eq_true rfl)⟩ (hP.sub [0] rfl) 0 rfl rfl hl.1 rfl (Nat.le_of_ble_eq_true rfl) dX10_humOf_30 ⟨(Nat.zero_le _), (Nat.zero_le _)⟩) (fun r30 h => ?_)
    exact W.iret hx hb hr (fun t ht _ => ⟨_, rfl, h, ht⟩) (fun _ hq => by cases hq) dX10_humOf_33
  have h := h.1 hc
  refine lv_iconst (v := 0) hx hb dX10_humOf_12 (by decide) ?_
  exact W.iret hx hb hr (fun t ht _ => ⟨_, rfl, h, ht⟩) (fun _ hq => by cases hq) dX10_humOf_13
/-! X10_lastsBy -/
abbrev wX10_lastsBy (cI cJ cS : ClassId) (a_o : Nat) (z_refused z_steps z_kind z_space z_other z_times z_speed z_base z_share z_notes z_pitch z_beats z_held z_sort z_size z_shown z_cells z_carried z_words z_tell z_was z_kept z_cutSpace z_cutTimes z_cutOff z_trace : Value) (v_stretches : Int32) (v_cars : Int32) (v_tunes : Int32) (v_along : Int32) (v_near : Int32) (v_borne : Int32) (v_tempo : Int32) (v_seed : Int32) (v_fault : Int32) (v_from : Int32) (v_at : Int32) (v_end : Int32) (v_told : Int32) (v_wrongAt : Int32) (v_culprit : Int32) (v_ran : Int32) (v_isKept : Int32) : va_W := [(a_o, .inr (9, [.int v_stretches, .int v_cars, .int v_tunes, .int v_along, .int v_near, .int v_borne, .int v_tempo, .int v_seed, .int v_fault, z_refused, z_steps, z_kind, z_space, z_other, z_times, z_speed, z_base, z_share, z_notes, z_pitch, z_beats, z_held, z_sort, z_size, z_shown, z_cells, z_carried, z_words, z_tell, .int v_from, .int v_at, .int v_end, .int v_told, .int v_wrongAt, z_was, z_kept, .int v_culprit, z_cutSpace, z_cutTimes, z_cutOff, z_trace, .int v_ran, .int v_isKept]))]
def F_X10_lastsBy (x1 : Int32) (x2 : Int32) (post : Int32 → Prop) : Prop := (¬ (704 * x2) = 0 ∧ post ((x1 * 10000) / (704 * x2)))
set_option maxHeartbeats 4000000 in
set_option maxRecDepth 100000 in
theorem c_X10_lastsBy {l : Launch} {D : va_G} {cI cJ cS : ClassId} {ad adK : Nat → Nat} {a_o : Nat} {z_refused z_steps z_kind z_space z_other z_times z_speed z_base z_share z_notes z_pitch z_beats z_held z_sort z_size z_shown z_cells z_carried z_words z_tell z_was z_kept z_cutSpace z_cutTimes z_cutOff z_trace : Value} {v_stretches : Int32} {v_cars : Int32} {v_tunes : Int32} {v_along : Int32} {v_near : Int32} {v_borne : Int32} {v_tempo : Int32} {v_seed : Int32} {v_fault : Int32} {v_from : Int32} {v_at : Int32} {v_end : Int32} {v_told : Int32} {v_wrongAt : Int32} {v_culprit : Int32} {v_ran : Int32} {v_isKept : Int32} {x1 : Int32} {x2 : Int32} {post : Int32 → Prop} (h : F_X10_lastsBy x1 x2 post) : Met l yX10_lastsBy (Cond.code yX10_lastsBy cX10_lastsBy 3 (some (.int)) :: GW) (rmd 0 0 0) (PR D cI cJ cS ad adK [.ref a_o, .int x1, .int x2] (wX10_lastsBy cI cJ cS a_o z_refused z_steps z_kind z_space z_other z_times z_speed z_base z_share z_notes z_pitch z_beats z_held z_sort z_size z_shown z_cells z_carried z_words z_tell z_was z_kept z_cutSpace z_cutTimes z_cutOff z_trace v_stretches v_cars v_tunes v_along v_near v_borne v_tempo v_seed v_fault v_from v_at v_end v_told v_wrongAt v_culprit v_ran v_isKept)) (vp_Si post) 0 0 nof := by
  refine Met.ro (by decide) (Nat.le_of_ble_eq_true rfl) (fun p e s m args below meth c ls (S : CallFix p m c cX10_lastsBy 3 s args GW "RoadThatSingsModel") hE hT hP hS hr hlocks hl => ?_)
  have hx := S.1
  have hb := S.2.1
  have hl : lv_has ls 3 [(0, .ref a_o), (1, .int x1), (2, .int x2)] := hl
  unfold F_X10_lastsBy at h
  refine lv_iload_n hx hb dX10_lastsBy_0 rfl (lv_at hl 1 rfl) ?_
  refine lv_sipush (v := 10000) hx hb dX10_lastsBy_1 (by decide) ?_
  refine lv_imul hx hb dX10_lastsBy_4 ?_
  refine lv_sipush (v := 704) hx hb dX10_lastsBy_5 (by decide) ?_
  refine lv_iload_n hx hb dX10_lastsBy_8 rfl (lv_at hl 2 rfl) ?_
  refine lv_imul hx hb dX10_lastsBy_9 ?_
  obtain ⟨hz, h⟩ := h
  refine lv_idiv hx hb dX10_lastsBy_10 hz ?_
  exact W.iret hx hb hr (fun t ht _ => ⟨_, rfl, h, ht⟩) (fun _ hq => by cases hq) dX10_lastsBy_11
/-! X10_hum -/
abbrev wX10_hum (cI cJ cS : ClassId) (a_o a_kind a_other a_refused a_space : Nat) (z_steps z_times z_speed z_base z_share z_notes z_pitch z_beats z_held z_sort z_size z_shown z_cells z_carried z_words z_tell z_was z_kept z_cutSpace z_cutTimes z_cutOff z_trace : Value) (v_stretches : Int32) (v_cars : Int32) (v_tunes : Int32) (v_along : Int32) (v_near : Int32) (v_borne : Int32) (v_tempo : Int32) (v_seed : Int32) (v_fault : Int32) (v_from : Int32) (v_at : Int32) (v_end : Int32) (v_told : Int32) (v_wrongAt : Int32) (v_culprit : Int32) (v_ran : Int32) (v_isKept : Int32) (f_kind : Nat → Int32) (f_other : Nat → Int32) (f_refused : Nat → Int32) (f_space : Nat → Int32) : va_W := [(a_o, .inr (9, [.int v_stretches, .int v_cars, .int v_tunes, .int v_along, .int v_near, .int v_borne, .int v_tempo, .int v_seed, .int v_fault, .ref a_refused, z_steps, .ref a_kind, .ref a_space, .ref a_other, z_times, z_speed, z_base, z_share, z_notes, z_pitch, z_beats, z_held, z_sort, z_size, z_shown, z_cells, z_carried, z_words, z_tell, .int v_from, .int v_at, .int v_end, .int v_told, .int v_wrongAt, z_was, z_kept, .int v_culprit, z_cutSpace, z_cutTimes, z_cutOff, z_trace, .int v_ran, .int v_isKept])), (a_kind, .inl (cI, 16, .inl f_kind)), (a_other, .inl (cI, 16, .inl f_other)), (a_refused, .inl (cI, 8, .inl f_refused)), (a_space, .inl (cI, 16, .inl f_space))]
def F_X10_hum (v_stretches : Int32) (f_kind : Nat → Int32) (f_other : Nat → Int32) (f_refused : Nat → Int32) (f_space : Nat → Int32) (x1 : Int32) (x2 : Int32) (post : Int32 → (Nat → Int32) → Prop) : Prop := (F_X10_isStretch v_stretches x1 (fun r2 => ((r2 = 0 → (F_X10_no f_refused (-1) (fun r10 w10_0 => post r10 w10_0))) ∧ (¬ r2 = 0 → (F_X10_isSpeed x2 (fun r16 => ((r16 = 0 → (F_X10_no f_refused (-6) (fun r34 w34_0 => post r34 w34_0))) ∧ (¬ r16 = 0 → (F_X10_humOf f_kind f_other f_space x1 x2 (fun r25 => post r25 f_refused))))))))))
set_option maxHeartbeats 4000000 in
set_option maxRecDepth 100000 in
theorem c_X10_hum {l : Launch} {D : va_G} {cI cJ cS : ClassId} {ad adK : Nat → Nat} {a_o a_kind a_other a_refused a_space : Nat} {z_steps z_times z_speed z_base z_share z_notes z_pitch z_beats z_held z_sort z_size z_shown z_cells z_carried z_words z_tell z_was z_kept z_cutSpace z_cutTimes z_cutOff z_trace : Value} {v_stretches : Int32} {v_cars : Int32} {v_tunes : Int32} {v_along : Int32} {v_near : Int32} {v_borne : Int32} {v_tempo : Int32} {v_seed : Int32} {v_fault : Int32} {v_from : Int32} {v_at : Int32} {v_end : Int32} {v_told : Int32} {v_wrongAt : Int32} {v_culprit : Int32} {v_ran : Int32} {v_isKept : Int32} {f_kind : Nat → Int32} {f_other : Nat → Int32} {f_refused : Nat → Int32} {f_space : Nat → Int32} {x1 : Int32} {x2 : Int32} {post : Int32 → (Nat → Int32) → Prop} (h : F_X10_hum v_stretches f_kind f_other f_refused f_space x1 x2 post) {sz : Nat} : Met l yX10_hum (Cond.code yX10_hum cX10_hum 3 (some (.int)) :: GW) (rmd 2 0 0) (PW D cI cJ cS ad adK [.ref a_o, .int x1, .int x2] (wX10_hum cI cJ cS a_o a_kind a_other a_refused a_space z_steps z_times z_speed z_base z_share z_notes z_pitch z_beats z_held z_sort z_size z_shown z_cells z_carried z_words z_tell z_was z_kept z_cutSpace z_cutTimes z_cutOff z_trace v_stretches v_cars v_tunes v_along v_near v_borne v_tempo v_seed v_fault v_from v_at v_end v_told v_wrongAt v_culprit v_ran v_isKept f_kind f_other f_refused f_space) sz) (va_Qi (fun r (u : (Nat → Int32)) => post r u) (fun u t => va_P D vwCl (wX10_hum cI cJ cS a_o a_kind a_other a_refused a_space z_steps z_times z_speed z_base z_share z_notes z_pitch z_beats z_held z_sort z_size z_shown z_cells z_carried z_words z_tell z_was z_kept z_cutSpace z_cutTimes z_cutOff z_trace v_stretches v_cars v_tunes v_along v_near v_borne v_tempo v_seed v_fault v_from v_at v_end v_told v_wrongAt v_culprit v_ran v_isKept f_kind f_other u f_space) t.heap) (va_A (wX10_hum cI cJ cS a_o a_kind a_other a_refused a_space z_steps z_times z_speed z_base z_share z_notes z_pitch z_beats z_held z_sort z_size z_shown z_cells z_carried z_words z_tell z_was z_kept z_cutSpace z_cutTimes z_cutOff z_trace v_stretches v_cars v_tunes v_along v_near v_borne v_tempo v_seed v_fault v_from v_at v_end v_told v_wrongAt v_culprit v_ran v_isKept f_kind f_other f_refused f_space) sz)) 0 0 (va_A (wX10_hum cI cJ cS a_o a_kind a_other a_refused a_space z_steps z_times z_speed z_base z_share z_notes z_pitch z_beats z_held z_sort z_size z_shown z_cells z_carried z_words z_tell z_was z_kept z_cutSpace z_cutTimes z_cutOff z_trace v_stretches v_cars v_tunes v_along v_near v_borne v_tempo v_seed v_fault v_from v_at v_end v_told v_wrongAt v_culprit v_ran v_isKept f_kind f_other f_refused f_space) sz) := by
  refine Met.rw (Qc := fun A => (va_Qi (fun r (u : (Nat → Int32)) => post r u) (fun u t => va_P D vwCl (wX10_hum cI cJ cS a_o a_kind a_other a_refused a_space z_steps z_times z_speed z_base z_share z_notes z_pitch z_beats z_held z_sort z_size z_shown z_cells z_carried z_words z_tell z_was z_kept z_cutSpace z_cutTimes z_cutOff z_trace v_stretches v_cars v_tunes v_along v_near v_borne v_tempo v_seed v_fault v_from v_at v_end v_told v_wrongAt v_culprit v_ran v_isKept f_kind f_other u f_space) t.heap) A)) (by decide) (Nat.le_of_ble_eq_true rfl) (fun p e s m args below meth c ls A (S : CallFix p m c cX10_hum 3 s args GW "RoadThatSingsModel") hE hT hP hD hA hS hr hlocks hname hl => ?_)
  have hS0 := hS
  have hx := S.1
  have hb := S.2.1
  have hl : lv_has ls 3 [(0, .ref a_o), (1, .int x1), (2, .int x2)] := hl
  unfold F_X10_hum at h
  refine lv_aload_n hx hb dX10_hum_0 rfl (lv_at hl 0 rfl) ?_
  refine lv_iload_n hx hb dX10_hum_1 rfl (lv_at hl 1 rfl) ?_
  refine ro_i (roV S hE hT hS (c_X10_isStretch h) lkX10_125 rfl ⟨(Nat.le_of_ble_eq_true rfl), (Nat.le_of_ble_eq_true rfl)⟩ (hP.sub [0] rfl) 0 rfl rfl hl.1 rfl (Nat.le_of_ble_eq_true rfl) dX10_hum_2 ⟨(Nat.zero_le _), (Nat.zero_le _)⟩) (fun r2 h => ?_)
  refine lv_if_ne (tgt := 14) hx hb dX10_hum_5 (by decide) (fun hc => ?_) (fun hc => ?_)
  · have h := h.2 hc
    refine lv_aload_n hx hb dX10_hum_14 rfl (lv_at hl 0 rfl) ?_
    refine lv_iload_n hx hb dX10_hum_15 rfl (lv_at hl 2 rfl) ?_
    refine ro_i (roV S hE hT hS (c_X10_isSpeed h) lkX10_155 rfl ⟨(Nat.le_of_ble_eq_true rfl), (Nat.le_of_ble_eq_true rfl)⟩ (hP.sub [0] rfl) 0 rfl rfl hl.1 rfl (Nat.le_of_ble_eq_true rfl) dX10_hum_16 ⟨(Nat.zero_le _), (Nat.zero_le _)⟩) (fun r16 h => ?_)
    refine lv_if_eq (tgt := 31) hx hb dX10_hum_19 (by decide) (fun hc => ?_) (fun hc => ?_)
    · have h := h.1 hc
      refine lv_aload_n hx hb dX10_hum_31 rfl (lv_at hl 0 rfl) ?_
      refine lv_bipush (v := (-6)) hx hb dX10_hum_32 (by decide) ?_
      refine rw_i (rwV S hE hT hS hP hD hA (c_X10_no h) [0, 3] rfl (by decide +kernel) lkX10_121 rfl ⟨(Nat.le_of_ble_eq_true rfl), (Nat.le_of_ble_eq_true rfl)⟩ 0 rfl rfl hl.1 rfl (Nat.le_of_ble_eq_true rfl) dX10_hum_34 ⟨(Nat.zero_le _), (Nat.zero_le _)⟩) hP hD hS hA [0, 3] rfl (by decide +kernel) (fun _ => rfl) (fun r34 w34_0 H locs h hP hD hS => ?_)
      try dsimp only at h
      have hP : va_P D vwCl (wX10_hum cI cJ cS a_o a_kind a_other a_refused a_space z_steps z_times z_speed z_base z_share z_notes z_pitch z_beats z_held z_sort z_size z_shown z_cells z_carried z_words z_tell z_was z_kept z_cutSpace z_cutTimes z_cutOff z_trace v_stretches v_cars v_tunes v_along v_near v_borne v_tempo v_seed v_fault v_from v_at v_end v_told v_wrongAt v_culprit v_ran v_isKept f_kind f_other w34_0 f_space) H := hP
      have hD : va_D A (wX10_hum cI cJ cS a_o a_kind a_other a_refused a_space z_steps z_times z_speed z_base z_share z_notes z_pitch z_beats z_held z_sort z_size z_shown z_cells z_carried z_words z_tell z_was z_kept z_cutSpace z_cutTimes z_cutOff z_trace v_stretches v_cars v_tunes v_along v_near v_borne v_tempo v_seed v_fault v_from v_at v_end v_told v_wrongAt v_culprit v_ran v_isKept f_kind f_other w34_0 f_space) := hD
      exact W.iret hx hb hr (fun t ht _ => ⟨⟨_, w34_0, rfl, h, hPt hP ht⟩, hS.F ht⟩) hS.2.2 dX10_hum_37
    have h := h.2 hc
    refine lv_aload_n hx hb dX10_hum_22 rfl (lv_at hl 0 rfl) ?_
    refine lv_iload_n hx hb dX10_hum_23 rfl (lv_at hl 1 rfl) ?_
    refine lv_iload_n hx hb dX10_hum_24 rfl (lv_at hl 2 rfl) ?_
    refine ro_i (roV S hE hT hS (c_X10_humOf h) lkX10_232 rfl ⟨(Nat.le_of_ble_eq_true rfl), (Nat.le_of_ble_eq_true rfl)⟩ (hP.sub [0, 1, 2, 4] rfl) 0 rfl rfl hl.1 rfl (Nat.le_of_ble_eq_true rfl) dX10_hum_25 ⟨(Nat.zero_le _), (Nat.zero_le _)⟩) (fun r25 h => ?_)
    refine lv_goto (tgt := 37) hx hb dX10_hum_28 (by decide) ?_
    exact W.iret hx hb hr (fun t ht _ => ⟨⟨_, f_refused, rfl, h, hPt hP ht⟩, hS.F ht⟩) hS.2.2 dX10_hum_37
  have h := h.1 hc
  refine lv_aload_n hx hb dX10_hum_8 rfl (lv_at hl 0 rfl) ?_
  refine lv_iconst (v := (-1)) hx hb dX10_hum_9 (by decide) ?_
  refine rw_i (rwV S hE hT hS hP hD hA (c_X10_no h) [0, 3] rfl (by decide +kernel) lkX10_121 rfl ⟨(Nat.le_of_ble_eq_true rfl), (Nat.le_of_ble_eq_true rfl)⟩ 0 rfl rfl hl.1 rfl (Nat.le_of_ble_eq_true rfl) dX10_hum_10 ⟨(Nat.zero_le _), (Nat.zero_le _)⟩) hP hD hS hA [0, 3] rfl (by decide +kernel) (fun _ => rfl) (fun r10 w10_0 H locs h hP hD hS => ?_)
  try dsimp only at h
  have hP : va_P D vwCl (wX10_hum cI cJ cS a_o a_kind a_other a_refused a_space z_steps z_times z_speed z_base z_share z_notes z_pitch z_beats z_held z_sort z_size z_shown z_cells z_carried z_words z_tell z_was z_kept z_cutSpace z_cutTimes z_cutOff z_trace v_stretches v_cars v_tunes v_along v_near v_borne v_tempo v_seed v_fault v_from v_at v_end v_told v_wrongAt v_culprit v_ran v_isKept f_kind f_other w10_0 f_space) H := hP
  have hD : va_D A (wX10_hum cI cJ cS a_o a_kind a_other a_refused a_space z_steps z_times z_speed z_base z_share z_notes z_pitch z_beats z_held z_sort z_size z_shown z_cells z_carried z_words z_tell z_was z_kept z_cutSpace z_cutTimes z_cutOff z_trace v_stretches v_cars v_tunes v_along v_near v_borne v_tempo v_seed v_fault v_from v_at v_end v_told v_wrongAt v_culprit v_ran v_isKept f_kind f_other w10_0 f_space) := hD
  exact W.iret hx hb hr (fun t ht _ => ⟨⟨_, w10_0, rfl, h, hPt hP ht⟩, hS.F ht⟩) hS.2.2 dX10_hum_13
/-! X10_lasts -/
abbrev wX10_lasts (cI cJ cS : ClassId) (a_o a_kind a_other a_refused a_space a_times : Nat) (z_steps z_speed z_base z_share z_notes z_pitch z_beats z_held z_sort z_size z_shown z_cells z_carried z_words z_tell z_was z_kept z_cutSpace z_cutTimes z_cutOff z_trace : Value) (v_stretches : Int32) (v_cars : Int32) (v_tunes : Int32) (v_along : Int32) (v_near : Int32) (v_borne : Int32) (v_tempo : Int32) (v_seed : Int32) (v_fault : Int32) (v_from : Int32) (v_at : Int32) (v_end : Int32) (v_told : Int32) (v_wrongAt : Int32) (v_culprit : Int32) (v_ran : Int32) (v_isKept : Int32) (f_kind : Nat → Int32) (f_other : Nat → Int32) (f_refused : Nat → Int32) (f_space : Nat → Int32) (f_times : Nat → Int32) : va_W := [(a_o, .inr (9, [.int v_stretches, .int v_cars, .int v_tunes, .int v_along, .int v_near, .int v_borne, .int v_tempo, .int v_seed, .int v_fault, .ref a_refused, z_steps, .ref a_kind, .ref a_space, .ref a_other, .ref a_times, z_speed, z_base, z_share, z_notes, z_pitch, z_beats, z_held, z_sort, z_size, z_shown, z_cells, z_carried, z_words, z_tell, .int v_from, .int v_at, .int v_end, .int v_told, .int v_wrongAt, z_was, z_kept, .int v_culprit, z_cutSpace, z_cutTimes, z_cutOff, z_trace, .int v_ran, .int v_isKept])), (a_kind, .inl (cI, 16, .inl f_kind)), (a_other, .inl (cI, 16, .inl f_other)), (a_refused, .inl (cI, 8, .inl f_refused)), (a_space, .inl (cI, 16, .inl f_space)), (a_times, .inl (cI, 16, .inl f_times))]
def F_X10_lasts (v_stretches : Int32) (f_kind : Nat → Int32) (f_other : Nat → Int32) (f_refused : Nat → Int32) (f_space : Nat → Int32) (f_times : Nat → Int32) (x1 : Int32) (x2 : Int32) (post : Int32 → (Nat → Int32) → Prop) : Prop := (F_X10_isStretch v_stretches x1 (fun r2 => ((r2 = 0 → (F_X10_no f_refused (-1) (fun r10 w10_0 => post r10 w10_0))) ∧ (¬ r2 = 0 → (F_X10_isSpeed x2 (fun r16 => ((r16 = 0 → (F_X10_no f_refused (-6) (fun r38 w38_0 => post r38 w38_0))) ∧ (¬ r16 = 0 → (F_X10_lengthOf f_kind f_other f_space f_times x1 (fun r25 => (F_X10_lastsBy r25 x2 (fun r29 => post r29 f_refused))))))))))))
set_option maxHeartbeats 4000000 in
set_option maxRecDepth 100000 in
theorem c_X10_lasts {l : Launch} {D : va_G} {cI cJ cS : ClassId} {ad adK : Nat → Nat} {a_o a_kind a_other a_refused a_space a_times : Nat} {z_steps z_speed z_base z_share z_notes z_pitch z_beats z_held z_sort z_size z_shown z_cells z_carried z_words z_tell z_was z_kept z_cutSpace z_cutTimes z_cutOff z_trace : Value} {v_stretches : Int32} {v_cars : Int32} {v_tunes : Int32} {v_along : Int32} {v_near : Int32} {v_borne : Int32} {v_tempo : Int32} {v_seed : Int32} {v_fault : Int32} {v_from : Int32} {v_at : Int32} {v_end : Int32} {v_told : Int32} {v_wrongAt : Int32} {v_culprit : Int32} {v_ran : Int32} {v_isKept : Int32} {f_kind : Nat → Int32} {f_other : Nat → Int32} {f_refused : Nat → Int32} {f_space : Nat → Int32} {f_times : Nat → Int32} {x1 : Int32} {x2 : Int32} {post : Int32 → (Nat → Int32) → Prop} (h : F_X10_lasts v_stretches f_kind f_other f_refused f_space f_times x1 x2 post) {sz : Nat} : Met l yX10_lasts (Cond.code yX10_lasts cX10_lasts 3 (some (.int)) :: GW) (rmd 2 0 0) (PW D cI cJ cS ad adK [.ref a_o, .int x1, .int x2] (wX10_lasts cI cJ cS a_o a_kind a_other a_refused a_space a_times z_steps z_speed z_base z_share z_notes z_pitch z_beats z_held z_sort z_size z_shown z_cells z_carried z_words z_tell z_was z_kept z_cutSpace z_cutTimes z_cutOff z_trace v_stretches v_cars v_tunes v_along v_near v_borne v_tempo v_seed v_fault v_from v_at v_end v_told v_wrongAt v_culprit v_ran v_isKept f_kind f_other f_refused f_space f_times) sz) (va_Qi (fun r (u : (Nat → Int32)) => post r u) (fun u t => va_P D vwCl (wX10_lasts cI cJ cS a_o a_kind a_other a_refused a_space a_times z_steps z_speed z_base z_share z_notes z_pitch z_beats z_held z_sort z_size z_shown z_cells z_carried z_words z_tell z_was z_kept z_cutSpace z_cutTimes z_cutOff z_trace v_stretches v_cars v_tunes v_along v_near v_borne v_tempo v_seed v_fault v_from v_at v_end v_told v_wrongAt v_culprit v_ran v_isKept f_kind f_other u f_space f_times) t.heap) (va_A (wX10_lasts cI cJ cS a_o a_kind a_other a_refused a_space a_times z_steps z_speed z_base z_share z_notes z_pitch z_beats z_held z_sort z_size z_shown z_cells z_carried z_words z_tell z_was z_kept z_cutSpace z_cutTimes z_cutOff z_trace v_stretches v_cars v_tunes v_along v_near v_borne v_tempo v_seed v_fault v_from v_at v_end v_told v_wrongAt v_culprit v_ran v_isKept f_kind f_other f_refused f_space f_times) sz)) 0 0 (va_A (wX10_lasts cI cJ cS a_o a_kind a_other a_refused a_space a_times z_steps z_speed z_base z_share z_notes z_pitch z_beats z_held z_sort z_size z_shown z_cells z_carried z_words z_tell z_was z_kept z_cutSpace z_cutTimes z_cutOff z_trace v_stretches v_cars v_tunes v_along v_near v_borne v_tempo v_seed v_fault v_from v_at v_end v_told v_wrongAt v_culprit v_ran v_isKept f_kind f_other f_refused f_space f_times) sz) := by
  refine Met.rw (Qc := fun A => (va_Qi (fun r (u : (Nat → Int32)) => post r u) (fun u t => va_P D vwCl (wX10_lasts cI cJ cS a_o a_kind a_other a_refused a_space a_times z_steps z_speed z_base z_share z_notes z_pitch z_beats z_held z_sort z_size z_shown z_cells z_carried z_words z_tell z_was z_kept z_cutSpace z_cutTimes z_cutOff z_trace v_stretches v_cars v_tunes v_along v_near v_borne v_tempo v_seed v_fault v_from v_at v_end v_told v_wrongAt v_culprit v_ran v_isKept f_kind f_other u f_space f_times) t.heap) A)) (by decide) (Nat.le_of_ble_eq_true rfl) (fun p e s m args below meth c ls A (S : CallFix p m c cX10_lasts 3 s args GW "RoadThatSingsModel") hE hT hP hD hA hS hr hlocks hname hl => ?_)
  have hS0 := hS
  have hx := S.1
  have hb := S.2.1
  have hl : lv_has ls 3 [(0, .ref a_o), (1, .int x1), (2, .int x2)] := hl
  unfold F_X10_lasts at h
  refine lv_aload_n hx hb dX10_lasts_0 rfl (lv_at hl 0 rfl) ?_
  refine lv_iload_n hx hb dX10_lasts_1 rfl (lv_at hl 1 rfl) ?_
  refine ro_i (roV S hE hT hS (c_X10_isStretch h) lkX10_125 rfl ⟨(Nat.le_of_ble_eq_true rfl), (Nat.le_of_ble_eq_true rfl)⟩ (hP.sub [0] rfl) 0 rfl rfl hl.1 rfl (Nat.le_of_ble_eq_true rfl) dX10_lasts_2 ⟨(Nat.zero_le _), (Nat.zero_le _)⟩) (fun r2 h => ?_)
  refine lv_if_ne (tgt := 14) hx hb dX10_lasts_5 (by decide) (fun hc => ?_) (fun hc => ?_)
  · have h := h.2 hc
    refine lv_aload_n hx hb dX10_lasts_14 rfl (lv_at hl 0 rfl) ?_
    refine lv_iload_n hx hb dX10_lasts_15 rfl (lv_at hl 2 rfl) ?_
    refine ro_i (roV S hE hT hS (c_X10_isSpeed h) lkX10_155 rfl ⟨(Nat.le_of_ble_eq_true rfl), (Nat.le_of_ble_eq_true rfl)⟩ (hP.sub [0] rfl) 0 rfl rfl hl.1 rfl (Nat.le_of_ble_eq_true rfl) dX10_lasts_16 ⟨(Nat.zero_le _), (Nat.zero_le _)⟩) (fun r16 h => ?_)
    refine lv_if_eq (tgt := 35) hx hb dX10_lasts_19 (by decide) (fun hc => ?_) (fun hc => ?_)
    · have h := h.1 hc
      refine lv_aload_n hx hb dX10_lasts_35 rfl (lv_at hl 0 rfl) ?_
      refine lv_bipush (v := (-6)) hx hb dX10_lasts_36 (by decide) ?_
      refine rw_i (rwV S hE hT hS hP hD hA (c_X10_no h) [0, 3] rfl (by decide +kernel) lkX10_121 rfl ⟨(Nat.le_of_ble_eq_true rfl), (Nat.le_of_ble_eq_true rfl)⟩ 0 rfl rfl hl.1 rfl (Nat.le_of_ble_eq_true rfl) dX10_lasts_38 ⟨(Nat.zero_le _), (Nat.zero_le _)⟩) hP hD hS hA [0, 3] rfl (by decide +kernel) (fun _ => rfl) (fun r38 w38_0 H locs h hP hD hS => ?_)
      try dsimp only at h
      have hP : va_P D vwCl (wX10_lasts cI cJ cS a_o a_kind a_other a_refused a_space a_times z_steps z_speed z_base z_share z_notes z_pitch z_beats z_held z_sort z_size z_shown z_cells z_carried z_words z_tell z_was z_kept z_cutSpace z_cutTimes z_cutOff z_trace v_stretches v_cars v_tunes v_along v_near v_borne v_tempo v_seed v_fault v_from v_at v_end v_told v_wrongAt v_culprit v_ran v_isKept f_kind f_other w38_0 f_space f_times) H := hP
      have hD : va_D A (wX10_lasts cI cJ cS a_o a_kind a_other a_refused a_space a_times z_steps z_speed z_base z_share z_notes z_pitch z_beats z_held z_sort z_size z_shown z_cells z_carried z_words z_tell z_was z_kept z_cutSpace z_cutTimes z_cutOff z_trace v_stretches v_cars v_tunes v_along v_near v_borne v_tempo v_seed v_fault v_from v_at v_end v_told v_wrongAt v_culprit v_ran v_isKept f_kind f_other w38_0 f_space f_times) := hD
      exact W.iret hx hb hr (fun t ht _ => ⟨⟨_, w38_0, rfl, h, hPt hP ht⟩, hS.F ht⟩) hS.2.2 dX10_lasts_41
    have h := h.2 hc
    refine lv_aload_n hx hb dX10_lasts_22 rfl (lv_at hl 0 rfl) ?_
    refine lv_aload_n hx hb dX10_lasts_23 rfl (lv_at hl 0 rfl) ?_
    refine lv_iload_n hx hb dX10_lasts_24 rfl (lv_at hl 1 rfl) ?_
    refine ro_i (roV S hE hT hS (c_X10_lengthOf h) lkX10_131 rfl ⟨(Nat.le_of_ble_eq_true rfl), (Nat.le_of_ble_eq_true rfl)⟩ (hP.sub [0, 1, 2, 4, 5] rfl) 0 rfl rfl hl.1 rfl (Nat.le_of_ble_eq_true rfl) dX10_lasts_25 ⟨(Nat.zero_le _), (Nat.zero_le _)⟩) (fun r25 h => ?_)
    refine lv_iload_n hx hb dX10_lasts_28 rfl (lv_at hl 2 rfl) ?_
    refine ro_i (roV S hE hT hS (c_X10_lastsBy h) lkX10_235 rfl ⟨(Nat.le_of_ble_eq_true rfl), (Nat.le_of_ble_eq_true rfl)⟩ (hP.sub [0] rfl) 0 rfl rfl hl.1 rfl (Nat.le_of_ble_eq_true rfl) dX10_lasts_29 ⟨(Nat.zero_le _), (Nat.zero_le _)⟩) (fun r29 h => ?_)
    refine lv_goto (tgt := 41) hx hb dX10_lasts_32 (by decide) ?_
    exact W.iret hx hb hr (fun t ht _ => ⟨⟨_, f_refused, rfl, h, hPt hP ht⟩, hS.F ht⟩) hS.2.2 dX10_lasts_41
  have h := h.1 hc
  refine lv_aload_n hx hb dX10_lasts_8 rfl (lv_at hl 0 rfl) ?_
  refine lv_iconst (v := (-1)) hx hb dX10_lasts_9 (by decide) ?_
  refine rw_i (rwV S hE hT hS hP hD hA (c_X10_no h) [0, 3] rfl (by decide +kernel) lkX10_121 rfl ⟨(Nat.le_of_ble_eq_true rfl), (Nat.le_of_ble_eq_true rfl)⟩ 0 rfl rfl hl.1 rfl (Nat.le_of_ble_eq_true rfl) dX10_lasts_10 ⟨(Nat.zero_le _), (Nat.zero_le _)⟩) hP hD hS hA [0, 3] rfl (by decide +kernel) (fun _ => rfl) (fun r10 w10_0 H locs h hP hD hS => ?_)
  try dsimp only at h
  have hP : va_P D vwCl (wX10_lasts cI cJ cS a_o a_kind a_other a_refused a_space a_times z_steps z_speed z_base z_share z_notes z_pitch z_beats z_held z_sort z_size z_shown z_cells z_carried z_words z_tell z_was z_kept z_cutSpace z_cutTimes z_cutOff z_trace v_stretches v_cars v_tunes v_along v_near v_borne v_tempo v_seed v_fault v_from v_at v_end v_told v_wrongAt v_culprit v_ran v_isKept f_kind f_other w10_0 f_space f_times) H := hP
  have hD : va_D A (wX10_lasts cI cJ cS a_o a_kind a_other a_refused a_space a_times z_steps z_speed z_base z_share z_notes z_pitch z_beats z_held z_sort z_size z_shown z_cells z_carried z_words z_tell z_was z_kept z_cutSpace z_cutTimes z_cutOff z_trace v_stretches v_cars v_tunes v_along v_near v_borne v_tempo v_seed v_fault v_from v_at v_end v_told v_wrongAt v_culprit v_ran v_isKept f_kind f_other w10_0 f_space f_times) := hD
  exact W.iret hx hb hr (fun t ht _ => ⟨⟨_, w10_0, rfl, h, hPt hP ht⟩, hS.F ht⟩) hS.2.2 dX10_lasts_13
/-! X10_loudOf -/
abbrev wX10_loudOf (cI cJ cS : ClassId) (a_o a_kind : Nat) (z_refused z_steps z_space z_other z_times z_speed z_base z_share z_notes z_pitch z_beats z_held z_sort z_size z_shown z_cells z_carried z_words z_tell z_was z_kept z_cutSpace z_cutTimes z_cutOff z_trace : Value) (v_stretches : Int32) (v_cars : Int32) (v_tunes : Int32) (v_along : Int32) (v_near : Int32) (v_borne : Int32) (v_tempo : Int32) (v_seed : Int32) (v_fault : Int32) (v_from : Int32) (v_at : Int32) (v_end : Int32) (v_told : Int32) (v_wrongAt : Int32) (v_culprit : Int32) (v_ran : Int32) (v_isKept : Int32) (f_kind : Nat → Int32) : va_W := [(a_o, .inr (9, [.int v_stretches, .int v_cars, .int v_tunes, .int v_along, .int v_near, .int v_borne, .int v_tempo, .int v_seed, .int v_fault, z_refused, z_steps, .ref a_kind, z_space, z_other, z_times, z_speed, z_base, z_share, z_notes, z_pitch, z_beats, z_held, z_sort, z_size, z_shown, z_cells, z_carried, z_words, z_tell, .int v_from, .int v_at, .int v_end, .int v_told, .int v_wrongAt, z_was, z_kept, .int v_culprit, z_cutSpace, z_cutTimes, z_cutOff, z_trace, .int v_ran, .int v_isKept])), (a_kind, .inl (cI, 16, .inl f_kind))]
def F_X10_loudOf_46 (post : Int32 → Prop) (x2 : Int32) (s0 : Int32) : Prop := (∀ x3_52 : Int32, x3_52 = s0 - (x2 / 5) → ((0 ≤ x3_52 → post x3_52) ∧ (¬ 0 ≤ x3_52 → post 0)))
def F_X10_loudOf (f_kind : Nat → Int32) (x1 : Int32) (x2 : Int32) (post : Int32 → Prop) : Prop := (vp_in x1 16 ∧ (((f_kind x1.toNatClampNeg) = 3 → F_X10_loudOf_46 post x2 0) ∧ (¬ (f_kind x1.toNatClampNeg) = 3 → (vp_in x1 16 ∧ (((f_kind x1.toNatClampNeg) = 4 → F_X10_loudOf_46 post x2 15) ∧ (¬ (f_kind x1.toNatClampNeg) = 4 → (vp_in x1 16 ∧ (((f_kind x1.toNatClampNeg) = 5 → F_X10_loudOf_46 post x2 8) ∧ (¬ (f_kind x1.toNatClampNeg) = 5 → F_X10_loudOf_46 post x2 10)))))))))
set_option maxHeartbeats 4000000 in
set_option maxRecDepth 100000 in
theorem w_X10_loudOf_46 {l : Launch} {D : va_G} {cI cJ cS : ClassId} {ad adK : Nat → Nat} {a_o a_kind : Nat} {z_refused z_steps z_space z_other z_times z_speed z_base z_share z_notes z_pitch z_beats z_held z_sort z_size z_shown z_cells z_carried z_words z_tell z_was z_kept z_cutSpace z_cutTimes z_cutOff z_trace : Value} {v_stretches : Int32} {v_cars : Int32} {v_tunes : Int32} {v_along : Int32} {v_near : Int32} {v_borne : Int32} {v_tempo : Int32} {v_seed : Int32} {v_fault : Int32} {v_from : Int32} {v_at : Int32} {v_end : Int32} {v_told : Int32} {v_wrongAt : Int32} {v_culprit : Int32} {v_ran : Int32} {v_isKept : Int32} {f_kind : Nat → Int32} {x2 : Int32} {s0 : Int32} {post : Int32 → Prop} {p : Program} {e : Env} {s : State} {m : MethodId} {args : Array Value} {below : List Frame} {meth : Method} {c : Code} (S : CallFix p m c cX10_loudOf 4 s args GW "RoadThatSingsModel") (hE : EN D cI cJ cS s) (hT : ST ad adK nof s s.heap) (hP : va_P D vwCl (wX10_loudOf cI cJ cS a_o a_kind z_refused z_steps z_space z_other z_times z_speed z_base z_share z_notes z_pitch z_beats z_held z_sort z_size z_shown z_cells z_carried z_words z_tell z_was z_kept z_cutSpace z_cutTimes z_cutOff z_trace v_stretches v_cars v_tunes v_along v_near v_borne v_tempo v_seed v_fault v_from v_at v_end v_told v_wrongAt v_culprit v_ran v_isKept f_kind) s.heap) (hS : va_S nof s.heap s.heap []) (hr : meth.sig.returnType = (some (.int))) (hlocks : meth.locks = false) : ∀ (ls : Array Slot), F_X10_loudOf_46 post x2 s0 → lv_has ls 4 [(2, .int x2)] → W p l e (rmd 0 0 0) s m args below meth c s.heap [] 0 0 (MQ below (vp_Si post) args s 0 0 nof) (F0 m 46 ls [.int s0]) := by
  intro  ls h hl
  unfold F_X10_loudOf_46 at h
  have hx := S.1
  have hb := S.2.1
  refine lv_istore_n (lv' := [(3, .int s0), (2, .int x2)]) hx hb dX10_loudOf_46 rfl hl (by decide) rfl (fun ls hl => ?_)
  refine lv_iload_n hx hb dX10_loudOf_47 rfl (lv_at hl 0 rfl) ?_
  refine lv_iload_n hx hb dX10_loudOf_48 rfl (lv_at hl 1 rfl) ?_
  refine lv_iconst (v := 5) hx hb dX10_loudOf_49 (by decide) ?_
  refine lv_idiv hx hb dX10_loudOf_50 (by decide) ?_
  refine lv_isub hx hb dX10_loudOf_51 ?_
  refine lv_topi (fun x3_52 ex3_52 => ?_)
  have h := h _ ex3_52
  refine lv_istore_n (lv' := [(3, .int x3_52), (2, .int x2)]) hx hb dX10_loudOf_52 rfl hl (by decide) rfl (fun ls hl => ?_)
  refine lv_iload_n hx hb dX10_loudOf_53 rfl (lv_at hl 0 rfl) ?_
  refine lv_if_ge (tgt := 61) hx hb dX10_loudOf_54 (by decide) (fun hc => ?_) (fun hc => ?_)
  · have h := h.1 hc
    refine lv_iload_n hx hb dX10_loudOf_61 rfl (lv_at hl 0 rfl) ?_
    exact W.iret hx hb hr (fun t ht _ => ⟨_, rfl, h, ht⟩) (fun _ hq => by cases hq) dX10_loudOf_62
  have h := h.2 hc
  refine lv_iconst (v := 0) hx hb dX10_loudOf_57 (by decide) ?_
  refine lv_goto (tgt := 62) hx hb dX10_loudOf_58 (by decide) ?_
  exact W.iret hx hb hr (fun t ht _ => ⟨_, rfl, h, ht⟩) (fun _ hq => by cases hq) dX10_loudOf_62
set_option maxHeartbeats 4000000 in
set_option maxRecDepth 100000 in
theorem c_X10_loudOf {l : Launch} {D : va_G} {cI cJ cS : ClassId} {ad adK : Nat → Nat} {a_o a_kind : Nat} {z_refused z_steps z_space z_other z_times z_speed z_base z_share z_notes z_pitch z_beats z_held z_sort z_size z_shown z_cells z_carried z_words z_tell z_was z_kept z_cutSpace z_cutTimes z_cutOff z_trace : Value} {v_stretches : Int32} {v_cars : Int32} {v_tunes : Int32} {v_along : Int32} {v_near : Int32} {v_borne : Int32} {v_tempo : Int32} {v_seed : Int32} {v_fault : Int32} {v_from : Int32} {v_at : Int32} {v_end : Int32} {v_told : Int32} {v_wrongAt : Int32} {v_culprit : Int32} {v_ran : Int32} {v_isKept : Int32} {f_kind : Nat → Int32} {x1 : Int32} {x2 : Int32} {post : Int32 → Prop} (h : F_X10_loudOf f_kind x1 x2 post) : Met l yX10_loudOf (Cond.code yX10_loudOf cX10_loudOf 4 (some (.int)) :: GW) (rmd 0 0 0) (PR D cI cJ cS ad adK [.ref a_o, .int x1, .int x2] (wX10_loudOf cI cJ cS a_o a_kind z_refused z_steps z_space z_other z_times z_speed z_base z_share z_notes z_pitch z_beats z_held z_sort z_size z_shown z_cells z_carried z_words z_tell z_was z_kept z_cutSpace z_cutTimes z_cutOff z_trace v_stretches v_cars v_tunes v_along v_near v_borne v_tempo v_seed v_fault v_from v_at v_end v_told v_wrongAt v_culprit v_ran v_isKept f_kind)) (vp_Si post) 0 0 nof := by
  refine Met.ro (by decide) (Nat.le_of_ble_eq_true rfl) (fun p e s m args below meth c ls (S : CallFix p m c cX10_loudOf 4 s args GW "RoadThatSingsModel") hE hT hP hS hr hlocks hl => ?_)
  have hx := S.1
  have hb := S.2.1
  have hl : lv_has ls 4 [(0, .ref a_o), (1, .int x1), (2, .int x2)] := hl
  unfold F_X10_loudOf at h
  refine lv_aload_n hx hb dX10_loudOf_0 rfl (lv_at hl 0 rfl) ?_
  refine gf S hE hP 0 rfl rfl inX10 (k := 11) (by decide) q1104 rfl dX10_loudOf_1 ?_
  refine lv_iload_n hx hb dX10_loudOf_4 rfl (lv_at hl 1 rfl) ?_
  obtain ⟨hi, h⟩ := h
  refine ial S hE hP 1 rfl hi dX10_loudOf_5 ?_
  refine lv_iconst (v := 3) hx hb dX10_loudOf_6 (by decide) ?_
  refine lv_icmp_ne (tgt := 14) hx hb dX10_loudOf_7 (by decide) (fun hc => ?_) (fun hc => ?_)
  · have h := h.2 hc
    refine lv_aload_n hx hb dX10_loudOf_14 rfl (lv_at hl 0 rfl) ?_
    refine gf S hE hP 0 rfl rfl inX10 (k := 11) (by decide) q1104 rfl dX10_loudOf_15 ?_
    refine lv_iload_n hx hb dX10_loudOf_18 rfl (lv_at hl 1 rfl) ?_
    obtain ⟨hi, h⟩ := h
    refine ial S hE hP 1 rfl hi dX10_loudOf_19 ?_
    refine lv_iconst (v := 4) hx hb dX10_loudOf_20 (by decide) ?_
    refine lv_icmp_ne (tgt := 29) hx hb dX10_loudOf_21 (by decide) (fun hc => ?_) (fun hc => ?_)
    · have h := h.2 hc
      refine lv_aload_n hx hb dX10_loudOf_29 rfl (lv_at hl 0 rfl) ?_
      refine gf S hE hP 0 rfl rfl inX10 (k := 11) (by decide) q1104 rfl dX10_loudOf_30 ?_
      refine lv_iload_n hx hb dX10_loudOf_33 rfl (lv_at hl 1 rfl) ?_
      obtain ⟨hi, h⟩ := h
      refine ial S hE hP 1 rfl hi dX10_loudOf_34 ?_
      refine lv_iconst (v := 5) hx hb dX10_loudOf_35 (by decide) ?_
      refine lv_icmp_ne (tgt := 44) hx hb dX10_loudOf_36 (by decide) (fun hc => ?_) (fun hc => ?_)
      · have h := h.2 hc
        refine lv_bipush (v := 10) hx hb dX10_loudOf_44 (by decide) ?_
        refine w_X10_loudOf_46 S hE hT hP hS hr hlocks _ h (lv_sub hl [2] rfl)
      have h := h.1 hc
      refine lv_bipush (v := 8) hx hb dX10_loudOf_39 (by decide) ?_
      refine lv_goto (tgt := 46) hx hb dX10_loudOf_41 (by decide) ?_
      refine w_X10_loudOf_46 S hE hT hP hS hr hlocks _ h (lv_sub hl [2] rfl)
    have h := h.1 hc
    refine lv_bipush (v := 15) hx hb dX10_loudOf_24 (by decide) ?_
    refine lv_goto (tgt := 46) hx hb dX10_loudOf_26 (by decide) ?_
    refine w_X10_loudOf_46 S hE hT hP hS hr hlocks _ h (lv_sub hl [2] rfl)
  have h := h.1 hc
  refine lv_iconst (v := 0) hx hb dX10_loudOf_10 (by decide) ?_
  refine lv_goto (tgt := 46) hx hb dX10_loudOf_11 (by decide) ?_
  refine w_X10_loudOf_46 S hE hT hP hS hr hlocks _ h (lv_sub hl [2] rfl)
/-! X10_loud -/
abbrev wX10_loud (cI cJ cS : ClassId) (a_o a_kind a_refused : Nat) (z_steps z_space z_other z_times z_speed z_base z_share z_notes z_pitch z_beats z_held z_sort z_size z_shown z_cells z_carried z_words z_tell z_was z_kept z_cutSpace z_cutTimes z_cutOff z_trace : Value) (v_stretches : Int32) (v_cars : Int32) (v_tunes : Int32) (v_along : Int32) (v_near : Int32) (v_borne : Int32) (v_tempo : Int32) (v_seed : Int32) (v_fault : Int32) (v_from : Int32) (v_at : Int32) (v_end : Int32) (v_told : Int32) (v_wrongAt : Int32) (v_culprit : Int32) (v_ran : Int32) (v_isKept : Int32) (f_kind : Nat → Int32) (f_refused : Nat → Int32) : va_W := [(a_o, .inr (9, [.int v_stretches, .int v_cars, .int v_tunes, .int v_along, .int v_near, .int v_borne, .int v_tempo, .int v_seed, .int v_fault, .ref a_refused, z_steps, .ref a_kind, z_space, z_other, z_times, z_speed, z_base, z_share, z_notes, z_pitch, z_beats, z_held, z_sort, z_size, z_shown, z_cells, z_carried, z_words, z_tell, .int v_from, .int v_at, .int v_end, .int v_told, .int v_wrongAt, z_was, z_kept, .int v_culprit, z_cutSpace, z_cutTimes, z_cutOff, z_trace, .int v_ran, .int v_isKept])), (a_kind, .inl (cI, 16, .inl f_kind)), (a_refused, .inl (cI, 8, .inl f_refused))]
def F_X10_loud (v_stretches : Int32) (f_kind : Nat → Int32) (f_refused : Nat → Int32) (x1 : Int32) (x2 : Int32) (post : Int32 → (Nat → Int32) → Prop) : Prop := (F_X10_isStretch v_stretches x1 (fun r2 => ((r2 = 0 → (F_X10_no f_refused (-1) (fun r10 w10_0 => post r10 w10_0))) ∧ (¬ r2 = 0 → ((x2 < 0 → (F_X10_no f_refused (-6) (fun r36 w36_0 => post r36 w36_0))) ∧ (¬ x2 < 0 → ((50 < x2 → (F_X10_no f_refused (-6) (fun r36 w36_0 => post r36 w36_0))) ∧ (¬ 50 < x2 → (F_X10_loudOf f_kind x1 x2 (fun r27 => post r27 f_refused))))))))))
set_option maxHeartbeats 4000000 in
set_option maxRecDepth 100000 in
theorem c_X10_loud {l : Launch} {D : va_G} {cI cJ cS : ClassId} {ad adK : Nat → Nat} {a_o a_kind a_refused : Nat} {z_steps z_space z_other z_times z_speed z_base z_share z_notes z_pitch z_beats z_held z_sort z_size z_shown z_cells z_carried z_words z_tell z_was z_kept z_cutSpace z_cutTimes z_cutOff z_trace : Value} {v_stretches : Int32} {v_cars : Int32} {v_tunes : Int32} {v_along : Int32} {v_near : Int32} {v_borne : Int32} {v_tempo : Int32} {v_seed : Int32} {v_fault : Int32} {v_from : Int32} {v_at : Int32} {v_end : Int32} {v_told : Int32} {v_wrongAt : Int32} {v_culprit : Int32} {v_ran : Int32} {v_isKept : Int32} {f_kind : Nat → Int32} {f_refused : Nat → Int32} {x1 : Int32} {x2 : Int32} {post : Int32 → (Nat → Int32) → Prop} (h : F_X10_loud v_stretches f_kind f_refused x1 x2 post) {sz : Nat} : Met l yX10_loud (Cond.code yX10_loud cX10_loud 3 (some (.int)) :: GW) (rmd 1 0 0) (PW D cI cJ cS ad adK [.ref a_o, .int x1, .int x2] (wX10_loud cI cJ cS a_o a_kind a_refused z_steps z_space z_other z_times z_speed z_base z_share z_notes z_pitch z_beats z_held z_sort z_size z_shown z_cells z_carried z_words z_tell z_was z_kept z_cutSpace z_cutTimes z_cutOff z_trace v_stretches v_cars v_tunes v_along v_near v_borne v_tempo v_seed v_fault v_from v_at v_end v_told v_wrongAt v_culprit v_ran v_isKept f_kind f_refused) sz) (va_Qi (fun r (u : (Nat → Int32)) => post r u) (fun u t => va_P D vwCl (wX10_loud cI cJ cS a_o a_kind a_refused z_steps z_space z_other z_times z_speed z_base z_share z_notes z_pitch z_beats z_held z_sort z_size z_shown z_cells z_carried z_words z_tell z_was z_kept z_cutSpace z_cutTimes z_cutOff z_trace v_stretches v_cars v_tunes v_along v_near v_borne v_tempo v_seed v_fault v_from v_at v_end v_told v_wrongAt v_culprit v_ran v_isKept f_kind u) t.heap) (va_A (wX10_loud cI cJ cS a_o a_kind a_refused z_steps z_space z_other z_times z_speed z_base z_share z_notes z_pitch z_beats z_held z_sort z_size z_shown z_cells z_carried z_words z_tell z_was z_kept z_cutSpace z_cutTimes z_cutOff z_trace v_stretches v_cars v_tunes v_along v_near v_borne v_tempo v_seed v_fault v_from v_at v_end v_told v_wrongAt v_culprit v_ran v_isKept f_kind f_refused) sz)) 0 0 (va_A (wX10_loud cI cJ cS a_o a_kind a_refused z_steps z_space z_other z_times z_speed z_base z_share z_notes z_pitch z_beats z_held z_sort z_size z_shown z_cells z_carried z_words z_tell z_was z_kept z_cutSpace z_cutTimes z_cutOff z_trace v_stretches v_cars v_tunes v_along v_near v_borne v_tempo v_seed v_fault v_from v_at v_end v_told v_wrongAt v_culprit v_ran v_isKept f_kind f_refused) sz) := by
  refine Met.rw (Qc := fun A => (va_Qi (fun r (u : (Nat → Int32)) => post r u) (fun u t => va_P D vwCl (wX10_loud cI cJ cS a_o a_kind a_refused z_steps z_space z_other z_times z_speed z_base z_share z_notes z_pitch z_beats z_held z_sort z_size z_shown z_cells z_carried z_words z_tell z_was z_kept z_cutSpace z_cutTimes z_cutOff z_trace v_stretches v_cars v_tunes v_along v_near v_borne v_tempo v_seed v_fault v_from v_at v_end v_told v_wrongAt v_culprit v_ran v_isKept f_kind u) t.heap) A)) (by decide) (Nat.le_of_ble_eq_true rfl) (fun p e s m args below meth c ls A (S : CallFix p m c cX10_loud 3 s args GW "RoadThatSingsModel") hE hT hP hD hA hS hr hlocks hname hl => ?_)
  have hS0 := hS
  have hx := S.1
  have hb := S.2.1
  have hl : lv_has ls 3 [(0, .ref a_o), (1, .int x1), (2, .int x2)] := hl
  unfold F_X10_loud at h
  refine lv_aload_n hx hb dX10_loud_0 rfl (lv_at hl 0 rfl) ?_
  refine lv_iload_n hx hb dX10_loud_1 rfl (lv_at hl 1 rfl) ?_
  refine ro_i (roV S hE hT hS (c_X10_isStretch h) lkX10_125 rfl ⟨(Nat.le_of_ble_eq_true rfl), (Nat.le_of_ble_eq_true rfl)⟩ (hP.sub [0] rfl) 0 rfl rfl hl.1 rfl (Nat.le_of_ble_eq_true rfl) dX10_loud_2 ⟨(Nat.zero_le _), (Nat.zero_le _)⟩) (fun r2 h => ?_)
  refine lv_if_ne (tgt := 14) hx hb dX10_loud_5 (by decide) (fun hc => ?_) (fun hc => ?_)
  · have h := h.2 hc
    refine lv_iload_n hx hb dX10_loud_14 rfl (lv_at hl 2 rfl) ?_
    refine lv_if_lt (tgt := 33) hx hb dX10_loud_15 (by decide) (fun hc => ?_) (fun hc => ?_)
    · have h := h.1 hc
      refine lv_aload_n hx hb dX10_loud_33 rfl (lv_at hl 0 rfl) ?_
      refine lv_bipush (v := (-6)) hx hb dX10_loud_34 (by decide) ?_
      refine rw_i (rwV S hE hT hS hP hD hA (c_X10_no h) [0, 2] rfl (by decide +kernel) lkX10_121 rfl ⟨(Nat.le_of_ble_eq_true rfl), (Nat.le_of_ble_eq_true rfl)⟩ 0 rfl rfl hl.1 rfl (Nat.le_of_ble_eq_true rfl) dX10_loud_36 ⟨(Nat.zero_le _), (Nat.zero_le _)⟩) hP hD hS hA [0, 2] rfl (by decide +kernel) (fun _ => rfl) (fun r36 w36_0 H locs h hP hD hS => ?_)
      try dsimp only at h
      have hP : va_P D vwCl (wX10_loud cI cJ cS a_o a_kind a_refused z_steps z_space z_other z_times z_speed z_base z_share z_notes z_pitch z_beats z_held z_sort z_size z_shown z_cells z_carried z_words z_tell z_was z_kept z_cutSpace z_cutTimes z_cutOff z_trace v_stretches v_cars v_tunes v_along v_near v_borne v_tempo v_seed v_fault v_from v_at v_end v_told v_wrongAt v_culprit v_ran v_isKept f_kind w36_0) H := hP
      have hD : va_D A (wX10_loud cI cJ cS a_o a_kind a_refused z_steps z_space z_other z_times z_speed z_base z_share z_notes z_pitch z_beats z_held z_sort z_size z_shown z_cells z_carried z_words z_tell z_was z_kept z_cutSpace z_cutTimes z_cutOff z_trace v_stretches v_cars v_tunes v_along v_near v_borne v_tempo v_seed v_fault v_from v_at v_end v_told v_wrongAt v_culprit v_ran v_isKept f_kind w36_0) := hD
      exact W.iret hx hb hr (fun t ht _ => ⟨⟨_, w36_0, rfl, h, hPt hP ht⟩, hS.F ht⟩) hS.2.2 dX10_loud_39
    have h := h.2 hc
    refine lv_iload_n hx hb dX10_loud_18 rfl (lv_at hl 2 rfl) ?_
    refine lv_bipush (v := 50) hx hb dX10_loud_19 (by decide) ?_
    refine lv_icmp_gt (tgt := 33) hx hb dX10_loud_21 (by decide) (fun hc => ?_) (fun hc => ?_)
    · have h := h.1 hc
      refine lv_aload_n hx hb dX10_loud_33 rfl (lv_at hl 0 rfl) ?_
      refine lv_bipush (v := (-6)) hx hb dX10_loud_34 (by decide) ?_
      refine rw_i (rwV S hE hT hS hP hD hA (c_X10_no h) [0, 2] rfl (by decide +kernel) lkX10_121 rfl ⟨(Nat.le_of_ble_eq_true rfl), (Nat.le_of_ble_eq_true rfl)⟩ 0 rfl rfl hl.1 rfl (Nat.le_of_ble_eq_true rfl) dX10_loud_36 ⟨(Nat.zero_le _), (Nat.zero_le _)⟩) hP hD hS hA [0, 2] rfl (by decide +kernel) (fun _ => rfl) (fun r36 w36_0 H locs h hP hD hS => ?_)
      try dsimp only at h
      have hP : va_P D vwCl (wX10_loud cI cJ cS a_o a_kind a_refused z_steps z_space z_other z_times z_speed z_base z_share z_notes z_pitch z_beats z_held z_sort z_size z_shown z_cells z_carried z_words z_tell z_was z_kept z_cutSpace z_cutTimes z_cutOff z_trace v_stretches v_cars v_tunes v_along v_near v_borne v_tempo v_seed v_fault v_from v_at v_end v_told v_wrongAt v_culprit v_ran v_isKept f_kind w36_0) H := hP
      have hD : va_D A (wX10_loud cI cJ cS a_o a_kind a_refused z_steps z_space z_other z_times z_speed z_base z_share z_notes z_pitch z_beats z_held z_sort z_size z_shown z_cells z_carried z_words z_tell z_was z_kept z_cutSpace z_cutTimes z_cutOff z_trace v_stretches v_cars v_tunes v_along v_near v_borne v_tempo v_seed v_fault v_from v_at v_end v_told v_wrongAt v_culprit v_ran v_isKept f_kind w36_0) := hD
      exact W.iret hx hb hr (fun t ht _ => ⟨⟨_, w36_0, rfl, h, hPt hP ht⟩, hS.F ht⟩) hS.2.2 dX10_loud_39
    have h := h.2 hc
    refine lv_aload_n hx hb dX10_loud_24 rfl (lv_at hl 0 rfl) ?_
    refine lv_iload_n hx hb dX10_loud_25 rfl (lv_at hl 1 rfl) ?_
    refine lv_iload_n hx hb dX10_loud_26 rfl (lv_at hl 2 rfl) ?_
    refine ro_i (roV S hE hT hS (c_X10_loudOf h) lkX10_238 rfl ⟨(Nat.le_of_ble_eq_true rfl), (Nat.le_of_ble_eq_true rfl)⟩ (hP.sub [0, 1] rfl) 0 rfl rfl hl.1 rfl (Nat.le_of_ble_eq_true rfl) dX10_loud_27 ⟨(Nat.zero_le _), (Nat.zero_le _)⟩) (fun r27 h => ?_)
    refine lv_goto (tgt := 39) hx hb dX10_loud_30 (by decide) ?_
    exact W.iret hx hb hr (fun t ht _ => ⟨⟨_, f_refused, rfl, h, hPt hP ht⟩, hS.F ht⟩) hS.2.2 dX10_loud_39
  have h := h.1 hc
  refine lv_aload_n hx hb dX10_loud_8 rfl (lv_at hl 0 rfl) ?_
  refine lv_iconst (v := (-1)) hx hb dX10_loud_9 (by decide) ?_
  refine rw_i (rwV S hE hT hS hP hD hA (c_X10_no h) [0, 2] rfl (by decide +kernel) lkX10_121 rfl ⟨(Nat.le_of_ble_eq_true rfl), (Nat.le_of_ble_eq_true rfl)⟩ 0 rfl rfl hl.1 rfl (Nat.le_of_ble_eq_true rfl) dX10_loud_10 ⟨(Nat.zero_le _), (Nat.zero_le _)⟩) hP hD hS hA [0, 2] rfl (by decide +kernel) (fun _ => rfl) (fun r10 w10_0 H locs h hP hD hS => ?_)
  try dsimp only at h
  have hP : va_P D vwCl (wX10_loud cI cJ cS a_o a_kind a_refused z_steps z_space z_other z_times z_speed z_base z_share z_notes z_pitch z_beats z_held z_sort z_size z_shown z_cells z_carried z_words z_tell z_was z_kept z_cutSpace z_cutTimes z_cutOff z_trace v_stretches v_cars v_tunes v_along v_near v_borne v_tempo v_seed v_fault v_from v_at v_end v_told v_wrongAt v_culprit v_ran v_isKept f_kind w10_0) H := hP
  have hD : va_D A (wX10_loud cI cJ cS a_o a_kind a_refused z_steps z_space z_other z_times z_speed z_base z_share z_notes z_pitch z_beats z_held z_sort z_size z_shown z_cells z_carried z_words z_tell z_was z_kept z_cutSpace z_cutTimes z_cutOff z_trace v_stretches v_cars v_tunes v_along v_near v_borne v_tempo v_seed v_fault v_from v_at v_end v_told v_wrongAt v_culprit v_ran v_isKept f_kind w10_0) := hD
  exact W.iret hx hb hr (fun t ht _ => ⟨⟨_, w10_0, rfl, h, hPt hP ht⟩, hS.F ht⟩) hS.2.2 dX10_loud_13
/-! X10_offOf -/
abbrev wX10_offOf (cI cJ cS : ClassId) (a_o : Nat) (z_refused z_steps z_kind z_space z_other z_times z_speed z_base z_share z_notes z_pitch z_beats z_held z_sort z_size z_shown z_cells z_carried z_words z_tell z_was z_kept z_cutSpace z_cutTimes z_cutOff z_trace : Value) (v_stretches : Int32) (v_cars : Int32) (v_tunes : Int32) (v_along : Int32) (v_near : Int32) (v_borne : Int32) (v_tempo : Int32) (v_seed : Int32) (v_fault : Int32) (v_from : Int32) (v_at : Int32) (v_end : Int32) (v_told : Int32) (v_wrongAt : Int32) (v_culprit : Int32) (v_ran : Int32) (v_isKept : Int32) : va_W := [(a_o, .inr (9, [.int v_stretches, .int v_cars, .int v_tunes, .int v_along, .int v_near, .int v_borne, .int v_tempo, .int v_seed, .int v_fault, z_refused, z_steps, z_kind, z_space, z_other, z_times, z_speed, z_base, z_share, z_notes, z_pitch, z_beats, z_held, z_sort, z_size, z_shown, z_cells, z_carried, z_words, z_tell, .int v_from, .int v_at, .int v_end, .int v_told, .int v_wrongAt, z_was, z_kept, .int v_culprit, z_cutSpace, z_cutTimes, z_cutOff, z_trace, .int v_ran, .int v_isKept]))]
def F_X10_offOf_30 (post : Int32 → Prop) (x2 : Int32) (s0 : Int32) : Prop := (¬ x2 = 0 ∧ (∀ x3_36 : Int32, x3_36 = (s0 * 1000) / x2 → ((x3_36 ≤ 999 → post x3_36) ∧ (¬ x3_36 ≤ 999 → post 999))))
def F_X10_offOf (x1 : Int32) (x2 : Int32) (post : Int32 → Prop) : Prop := ((x2 = 0 → ((x1 = 0 → post 0) ∧ (¬ x1 = 0 → post 999))) ∧ (¬ x2 = 0 → ((x1 ≤ x2 → F_X10_offOf_30 post x2 (x2 - x1)) ∧ (¬ x1 ≤ x2 → F_X10_offOf_30 post x2 (x1 - x2)))))
set_option maxHeartbeats 4000000 in
set_option maxRecDepth 100000 in
theorem w_X10_offOf_30 {l : Launch} {D : va_G} {cI cJ cS : ClassId} {ad adK : Nat → Nat} {a_o : Nat} {z_refused z_steps z_kind z_space z_other z_times z_speed z_base z_share z_notes z_pitch z_beats z_held z_sort z_size z_shown z_cells z_carried z_words z_tell z_was z_kept z_cutSpace z_cutTimes z_cutOff z_trace : Value} {v_stretches : Int32} {v_cars : Int32} {v_tunes : Int32} {v_along : Int32} {v_near : Int32} {v_borne : Int32} {v_tempo : Int32} {v_seed : Int32} {v_fault : Int32} {v_from : Int32} {v_at : Int32} {v_end : Int32} {v_told : Int32} {v_wrongAt : Int32} {v_culprit : Int32} {v_ran : Int32} {v_isKept : Int32} {x2 : Int32} {s0 : Int32} {post : Int32 → Prop} {p : Program} {e : Env} {s : State} {m : MethodId} {args : Array Value} {below : List Frame} {meth : Method} {c : Code} (S : CallFix p m c cX10_offOf 4 s args GW "RoadThatSingsModel") (hE : EN D cI cJ cS s) (hT : ST ad adK nof s s.heap) (hP : va_P D vwCl (wX10_offOf cI cJ cS a_o z_refused z_steps z_kind z_space z_other z_times z_speed z_base z_share z_notes z_pitch z_beats z_held z_sort z_size z_shown z_cells z_carried z_words z_tell z_was z_kept z_cutSpace z_cutTimes z_cutOff z_trace v_stretches v_cars v_tunes v_along v_near v_borne v_tempo v_seed v_fault v_from v_at v_end v_told v_wrongAt v_culprit v_ran v_isKept) s.heap) (hS : va_S nof s.heap s.heap []) (hr : meth.sig.returnType = (some (.int))) (hlocks : meth.locks = false) : ∀ (ls : Array Slot), F_X10_offOf_30 post x2 s0 → lv_has ls 4 [(2, .int x2)] → W p l e (rmd 0 0 0) s m args below meth c s.heap [] 0 0 (MQ below (vp_Si post) args s 0 0 nof) (F0 m 30 ls [.int s0]) := by
  intro  ls h hl
  unfold F_X10_offOf_30 at h
  have hx := S.1
  have hb := S.2.1
  refine lv_sipush (v := 1000) hx hb dX10_offOf_30 (by decide) ?_
  refine lv_imul hx hb dX10_offOf_33 ?_
  refine lv_iload_n hx hb dX10_offOf_34 rfl (lv_at hl 0 rfl) ?_
  obtain ⟨hz, h⟩ := h
  refine lv_idiv hx hb dX10_offOf_35 hz ?_
  refine lv_topi (fun x3_36 ex3_36 => ?_)
  have h := h _ ex3_36
  refine lv_istore_n (lv' := [(3, .int x3_36), (2, .int x2)]) hx hb dX10_offOf_36 rfl hl (by decide) rfl (fun ls hl => ?_)
  refine lv_iload_n hx hb dX10_offOf_37 rfl (lv_at hl 0 rfl) ?_
  refine lv_sipush (v := 999) hx hb dX10_offOf_38 (by decide) ?_
  refine lv_icmp_le (tgt := 50) hx hb dX10_offOf_41 (by decide) (fun hc => ?_) (fun hc => ?_)
  · have h := h.1 hc
    refine lv_iload_n hx hb dX10_offOf_50 rfl (lv_at hl 0 rfl) ?_
    exact W.iret hx hb hr (fun t ht _ => ⟨_, rfl, h, ht⟩) (fun _ hq => by cases hq) dX10_offOf_51
  have h := h.2 hc
  refine lv_sipush (v := 999) hx hb dX10_offOf_44 (by decide) ?_
  refine lv_goto (tgt := 51) hx hb dX10_offOf_47 (by decide) ?_
  exact W.iret hx hb hr (fun t ht _ => ⟨_, rfl, h, ht⟩) (fun _ hq => by cases hq) dX10_offOf_51
set_option maxHeartbeats 4000000 in
set_option maxRecDepth 100000 in
theorem c_X10_offOf {l : Launch} {D : va_G} {cI cJ cS : ClassId} {ad adK : Nat → Nat} {a_o : Nat} {z_refused z_steps z_kind z_space z_other z_times z_speed z_base z_share z_notes z_pitch z_beats z_held z_sort z_size z_shown z_cells z_carried z_words z_tell z_was z_kept z_cutSpace z_cutTimes z_cutOff z_trace : Value} {v_stretches : Int32} {v_cars : Int32} {v_tunes : Int32} {v_along : Int32} {v_near : Int32} {v_borne : Int32} {v_tempo : Int32} {v_seed : Int32} {v_fault : Int32} {v_from : Int32} {v_at : Int32} {v_end : Int32} {v_told : Int32} {v_wrongAt : Int32} {v_culprit : Int32} {v_ran : Int32} {v_isKept : Int32} {x1 : Int32} {x2 : Int32} {post : Int32 → Prop} (h : F_X10_offOf x1 x2 post) : Met l yX10_offOf (Cond.code yX10_offOf cX10_offOf 4 (some (.int)) :: GW) (rmd 0 0 0) (PR D cI cJ cS ad adK [.ref a_o, .int x1, .int x2] (wX10_offOf cI cJ cS a_o z_refused z_steps z_kind z_space z_other z_times z_speed z_base z_share z_notes z_pitch z_beats z_held z_sort z_size z_shown z_cells z_carried z_words z_tell z_was z_kept z_cutSpace z_cutTimes z_cutOff z_trace v_stretches v_cars v_tunes v_along v_near v_borne v_tempo v_seed v_fault v_from v_at v_end v_told v_wrongAt v_culprit v_ran v_isKept)) (vp_Si post) 0 0 nof := by
  refine Met.ro (by decide) (Nat.le_of_ble_eq_true rfl) (fun p e s m args below meth c ls (S : CallFix p m c cX10_offOf 4 s args GW "RoadThatSingsModel") hE hT hP hS hr hlocks hl => ?_)
  have hx := S.1
  have hb := S.2.1
  have hl : lv_has ls 4 [(0, .ref a_o), (1, .int x1), (2, .int x2)] := hl
  unfold F_X10_offOf at h
  refine lv_iload_n hx hb dX10_offOf_0 rfl (lv_at hl 2 rfl) ?_
  refine lv_if_ne (tgt := 16) hx hb dX10_offOf_1 (by decide) (fun hc => ?_) (fun hc => ?_)
  · have h := h.2 hc
    refine lv_iload_n hx hb dX10_offOf_16 rfl (lv_at hl 1 rfl) ?_
    refine lv_iload_n hx hb dX10_offOf_17 rfl (lv_at hl 2 rfl) ?_
    refine lv_icmp_le (tgt := 27) hx hb dX10_offOf_18 (by decide) (fun hc => ?_) (fun hc => ?_)
    · have h := h.1 hc
      refine lv_iload_n hx hb dX10_offOf_27 rfl (lv_at hl 2 rfl) ?_
      refine lv_iload_n hx hb dX10_offOf_28 rfl (lv_at hl 1 rfl) ?_
      refine lv_isub hx hb dX10_offOf_29 ?_
      refine w_X10_offOf_30 S hE hT hP hS hr hlocks _ h (lv_sub hl [2] rfl)
    have h := h.2 hc
    refine lv_iload_n hx hb dX10_offOf_21 rfl (lv_at hl 1 rfl) ?_
    refine lv_iload_n hx hb dX10_offOf_22 rfl (lv_at hl 2 rfl) ?_
    refine lv_isub hx hb dX10_offOf_23 ?_
    refine lv_goto (tgt := 30) hx hb dX10_offOf_24 (by decide) ?_
    refine w_X10_offOf_30 S hE hT hP hS hr hlocks _ h (lv_sub hl [2] rfl)
  have h := h.1 hc
  refine lv_iload_n hx hb dX10_offOf_4 rfl (lv_at hl 1 rfl) ?_
  refine lv_if_ne (tgt := 12) hx hb dX10_offOf_5 (by decide) (fun hc => ?_) (fun hc => ?_)
  · have h := h.2 hc
    refine lv_sipush (v := 999) hx hb dX10_offOf_12 (by decide) ?_
    exact W.iret hx hb hr (fun t ht _ => ⟨_, rfl, h, ht⟩) (fun _ hq => by cases hq) dX10_offOf_15
  have h := h.1 hc
  refine lv_iconst (v := 0) hx hb dX10_offOf_8 (by decide) ?_
  refine lv_goto (tgt := 15) hx hb dX10_offOf_9 (by decide) ?_
  exact W.iret hx hb hr (fun t ht _ => ⟨_, rfl, h, ht⟩) (fun _ hq => by cases hq) dX10_offOf_15
/-! X10_off -/
abbrev wX10_off (cI cJ cS : ClassId) (a_o a_refused : Nat) (z_steps z_kind z_space z_other z_times z_speed z_base z_share z_notes z_pitch z_beats z_held z_sort z_size z_shown z_cells z_carried z_words z_tell z_was z_kept z_cutSpace z_cutTimes z_cutOff z_trace : Value) (v_stretches : Int32) (v_cars : Int32) (v_tunes : Int32) (v_along : Int32) (v_near : Int32) (v_borne : Int32) (v_tempo : Int32) (v_seed : Int32) (v_fault : Int32) (v_from : Int32) (v_at : Int32) (v_end : Int32) (v_told : Int32) (v_wrongAt : Int32) (v_culprit : Int32) (v_ran : Int32) (v_isKept : Int32) (f_refused : Nat → Int32) : va_W := [(a_o, .inr (9, [.int v_stretches, .int v_cars, .int v_tunes, .int v_along, .int v_near, .int v_borne, .int v_tempo, .int v_seed, .int v_fault, .ref a_refused, z_steps, z_kind, z_space, z_other, z_times, z_speed, z_base, z_share, z_notes, z_pitch, z_beats, z_held, z_sort, z_size, z_shown, z_cells, z_carried, z_words, z_tell, .int v_from, .int v_at, .int v_end, .int v_told, .int v_wrongAt, z_was, z_kept, .int v_culprit, z_cutSpace, z_cutTimes, z_cutOff, z_trace, .int v_ran, .int v_isKept])), (a_refused, .inl (cI, 8, .inl f_refused))]
def F_X10_off (f_refused : Nat → Int32) (x1 : Int32) (x2 : Int32) (post : Int32 → (Nat → Int32) → Prop) : Prop := ((x1 < 0 → (F_X10_no f_refused (-6) (fun r32 w32_0 => post r32 w32_0))) ∧ (¬ x1 < 0 → ((99999 < x1 → (F_X10_no f_refused (-6) (fun r32 w32_0 => post r32 w32_0))) ∧ (¬ 99999 < x1 → ((x2 < 0 → (F_X10_no f_refused (-6) (fun r32 w32_0 => post r32 w32_0))) ∧ (¬ x2 < 0 → ((99999 < x2 → (F_X10_no f_refused (-6) (fun r32 w32_0 => post r32 w32_0))) ∧ (¬ 99999 < x2 → (F_X10_offOf x1 x2 (fun r23 => post r23 f_refused))))))))))
set_option maxHeartbeats 4000000 in
set_option maxRecDepth 100000 in
theorem c_X10_off {l : Launch} {D : va_G} {cI cJ cS : ClassId} {ad adK : Nat → Nat} {a_o a_refused : Nat} {z_steps z_kind z_space z_other z_times z_speed z_base z_share z_notes z_pitch z_beats z_held z_sort z_size z_shown z_cells z_carried z_words z_tell z_was z_kept z_cutSpace z_cutTimes z_cutOff z_trace : Value} {v_stretches : Int32} {v_cars : Int32} {v_tunes : Int32} {v_along : Int32} {v_near : Int32} {v_borne : Int32} {v_tempo : Int32} {v_seed : Int32} {v_fault : Int32} {v_from : Int32} {v_at : Int32} {v_end : Int32} {v_told : Int32} {v_wrongAt : Int32} {v_culprit : Int32} {v_ran : Int32} {v_isKept : Int32} {f_refused : Nat → Int32} {x1 : Int32} {x2 : Int32} {post : Int32 → (Nat → Int32) → Prop} (h : F_X10_off f_refused x1 x2 post) {sz : Nat} : Met l yX10_off (Cond.code yX10_off cX10_off 3 (some (.int)) :: GW) (rmd 1 0 0) (PW D cI cJ cS ad adK [.ref a_o, .int x1, .int x2] (wX10_off cI cJ cS a_o a_refused z_steps z_kind z_space z_other z_times z_speed z_base z_share z_notes z_pitch z_beats z_held z_sort z_size z_shown z_cells z_carried z_words z_tell z_was z_kept z_cutSpace z_cutTimes z_cutOff z_trace v_stretches v_cars v_tunes v_along v_near v_borne v_tempo v_seed v_fault v_from v_at v_end v_told v_wrongAt v_culprit v_ran v_isKept f_refused) sz) (va_Qi (fun r (u : (Nat → Int32)) => post r u) (fun u t => va_P D vwCl (wX10_off cI cJ cS a_o a_refused z_steps z_kind z_space z_other z_times z_speed z_base z_share z_notes z_pitch z_beats z_held z_sort z_size z_shown z_cells z_carried z_words z_tell z_was z_kept z_cutSpace z_cutTimes z_cutOff z_trace v_stretches v_cars v_tunes v_along v_near v_borne v_tempo v_seed v_fault v_from v_at v_end v_told v_wrongAt v_culprit v_ran v_isKept u) t.heap) (va_A (wX10_off cI cJ cS a_o a_refused z_steps z_kind z_space z_other z_times z_speed z_base z_share z_notes z_pitch z_beats z_held z_sort z_size z_shown z_cells z_carried z_words z_tell z_was z_kept z_cutSpace z_cutTimes z_cutOff z_trace v_stretches v_cars v_tunes v_along v_near v_borne v_tempo v_seed v_fault v_from v_at v_end v_told v_wrongAt v_culprit v_ran v_isKept f_refused) sz)) 0 0 (va_A (wX10_off cI cJ cS a_o a_refused z_steps z_kind z_space z_other z_times z_speed z_base z_share z_notes z_pitch z_beats z_held z_sort z_size z_shown z_cells z_carried z_words z_tell z_was z_kept z_cutSpace z_cutTimes z_cutOff z_trace v_stretches v_cars v_tunes v_along v_near v_borne v_tempo v_seed v_fault v_from v_at v_end v_told v_wrongAt v_culprit v_ran v_isKept f_refused) sz) := by
  refine Met.rw (Qc := fun A => (va_Qi (fun r (u : (Nat → Int32)) => post r u) (fun u t => va_P D vwCl (wX10_off cI cJ cS a_o a_refused z_steps z_kind z_space z_other z_times z_speed z_base z_share z_notes z_pitch z_beats z_held z_sort z_size z_shown z_cells z_carried z_words z_tell z_was z_kept z_cutSpace z_cutTimes z_cutOff z_trace v_stretches v_cars v_tunes v_along v_near v_borne v_tempo v_seed v_fault v_from v_at v_end v_told v_wrongAt v_culprit v_ran v_isKept u) t.heap) A)) (by decide) (Nat.le_of_ble_eq_true rfl) (fun p e s m args below meth c ls A (S : CallFix p m c cX10_off 3 s args GW "RoadThatSingsModel") hE hT hP hD hA hS hr hlocks hname hl => ?_)
  have hS0 := hS
  have hx := S.1
  have hb := S.2.1
  have hl : lv_has ls 3 [(0, .ref a_o), (1, .int x1), (2, .int x2)] := hl
  unfold F_X10_off at h
  refine lv_iload_n hx hb dX10_off_0 rfl (lv_at hl 1 rfl) ?_
  refine lv_if_lt (tgt := 29) hx hb dX10_off_1 (by decide) (fun hc => ?_) (fun hc => ?_)
  · have h := h.1 hc
    refine lv_aload_n hx hb dX10_off_29 rfl (lv_at hl 0 rfl) ?_
    refine lv_bipush (v := (-6)) hx hb dX10_off_30 (by decide) ?_
    refine rw_i (rwV S hE hT hS hP hD hA (c_X10_no h) [0, 1] rfl (by decide +kernel) lkX10_121 rfl ⟨(Nat.le_of_ble_eq_true rfl), (Nat.le_of_ble_eq_true rfl)⟩ 0 rfl rfl hl.1 rfl (Nat.le_of_ble_eq_true rfl) dX10_off_32 ⟨(Nat.zero_le _), (Nat.zero_le _)⟩) hP hD hS hA [0, 1] rfl (by decide +kernel) (fun _ => rfl) (fun r32 w32_0 H locs h hP hD hS => ?_)
    try dsimp only at h
    have hP : va_P D vwCl (wX10_off cI cJ cS a_o a_refused z_steps z_kind z_space z_other z_times z_speed z_base z_share z_notes z_pitch z_beats z_held z_sort z_size z_shown z_cells z_carried z_words z_tell z_was z_kept z_cutSpace z_cutTimes z_cutOff z_trace v_stretches v_cars v_tunes v_along v_near v_borne v_tempo v_seed v_fault v_from v_at v_end v_told v_wrongAt v_culprit v_ran v_isKept w32_0) H := hP
    have hD : va_D A (wX10_off cI cJ cS a_o a_refused z_steps z_kind z_space z_other z_times z_speed z_base z_share z_notes z_pitch z_beats z_held z_sort z_size z_shown z_cells z_carried z_words z_tell z_was z_kept z_cutSpace z_cutTimes z_cutOff z_trace v_stretches v_cars v_tunes v_along v_near v_borne v_tempo v_seed v_fault v_from v_at v_end v_told v_wrongAt v_culprit v_ran v_isKept w32_0) := hD
    exact W.iret hx hb hr (fun t ht _ => ⟨⟨_, w32_0, rfl, h, hPt hP ht⟩, hS.F ht⟩) hS.2.2 dX10_off_35
  have h := h.2 hc
  refine lv_iload_n hx hb dX10_off_4 rfl (lv_at hl 1 rfl) ?_
  refine lv_ldc (v := 99999) hx hb S.2.2.2.1 (S.2.2.2.2 _ q1443) dX10_off_5 ?_
  refine lv_icmp_gt (tgt := 29) hx hb dX10_off_7 (by decide) (fun hc => ?_) (fun hc => ?_)
  · have h := h.1 hc
    refine lv_aload_n hx hb dX10_off_29 rfl (lv_at hl 0 rfl) ?_
    refine lv_bipush (v := (-6)) hx hb dX10_off_30 (by decide) ?_
    refine rw_i (rwV S hE hT hS hP hD hA (c_X10_no h) [0, 1] rfl (by decide +kernel) lkX10_121 rfl ⟨(Nat.le_of_ble_eq_true rfl), (Nat.le_of_ble_eq_true rfl)⟩ 0 rfl rfl hl.1 rfl (Nat.le_of_ble_eq_true rfl) dX10_off_32 ⟨(Nat.zero_le _), (Nat.zero_le _)⟩) hP hD hS hA [0, 1] rfl (by decide +kernel) (fun _ => rfl) (fun r32 w32_0 H locs h hP hD hS => ?_)
    try dsimp only at h
    have hP : va_P D vwCl (wX10_off cI cJ cS a_o a_refused z_steps z_kind z_space z_other z_times z_speed z_base z_share z_notes z_pitch z_beats z_held z_sort z_size z_shown z_cells z_carried z_words z_tell z_was z_kept z_cutSpace z_cutTimes z_cutOff z_trace v_stretches v_cars v_tunes v_along v_near v_borne v_tempo v_seed v_fault v_from v_at v_end v_told v_wrongAt v_culprit v_ran v_isKept w32_0) H := hP
    have hD : va_D A (wX10_off cI cJ cS a_o a_refused z_steps z_kind z_space z_other z_times z_speed z_base z_share z_notes z_pitch z_beats z_held z_sort z_size z_shown z_cells z_carried z_words z_tell z_was z_kept z_cutSpace z_cutTimes z_cutOff z_trace v_stretches v_cars v_tunes v_along v_near v_borne v_tempo v_seed v_fault v_from v_at v_end v_told v_wrongAt v_culprit v_ran v_isKept w32_0) := hD
    exact W.iret hx hb hr (fun t ht _ => ⟨⟨_, w32_0, rfl, h, hPt hP ht⟩, hS.F ht⟩) hS.2.2 dX10_off_35
  have h := h.2 hc
  refine lv_iload_n hx hb dX10_off_10 rfl (lv_at hl 2 rfl) ?_
  refine lv_if_lt (tgt := 29) hx hb dX10_off_11 (by decide) (fun hc => ?_) (fun hc => ?_)
  · have h := h.1 hc
    refine lv_aload_n hx hb dX10_off_29 rfl (lv_at hl 0 rfl) ?_
    refine lv_bipush (v := (-6)) hx hb dX10_off_30 (by decide) ?_
    refine rw_i (rwV S hE hT hS hP hD hA (c_X10_no h) [0, 1] rfl (by decide +kernel) lkX10_121 rfl ⟨(Nat.le_of_ble_eq_true rfl), (Nat.le_of_ble_eq_true rfl)⟩ 0 rfl rfl hl.1 rfl (Nat.le_of_ble_eq_true rfl) dX10_off_32 ⟨(Nat.zero_le _), (Nat.zero_le _)⟩) hP hD hS hA [0, 1] rfl (by decide +kernel) (fun _ => rfl) (fun r32 w32_0 H locs h hP hD hS => ?_)
    try dsimp only at h
    have hP : va_P D vwCl (wX10_off cI cJ cS a_o a_refused z_steps z_kind z_space z_other z_times z_speed z_base z_share z_notes z_pitch z_beats z_held z_sort z_size z_shown z_cells z_carried z_words z_tell z_was z_kept z_cutSpace z_cutTimes z_cutOff z_trace v_stretches v_cars v_tunes v_along v_near v_borne v_tempo v_seed v_fault v_from v_at v_end v_told v_wrongAt v_culprit v_ran v_isKept w32_0) H := hP
    have hD : va_D A (wX10_off cI cJ cS a_o a_refused z_steps z_kind z_space z_other z_times z_speed z_base z_share z_notes z_pitch z_beats z_held z_sort z_size z_shown z_cells z_carried z_words z_tell z_was z_kept z_cutSpace z_cutTimes z_cutOff z_trace v_stretches v_cars v_tunes v_along v_near v_borne v_tempo v_seed v_fault v_from v_at v_end v_told v_wrongAt v_culprit v_ran v_isKept w32_0) := hD
    exact W.iret hx hb hr (fun t ht _ => ⟨⟨_, w32_0, rfl, h, hPt hP ht⟩, hS.F ht⟩) hS.2.2 dX10_off_35
  have h := h.2 hc
  refine lv_iload_n hx hb dX10_off_14 rfl (lv_at hl 2 rfl) ?_
  refine lv_ldc (v := 99999) hx hb S.2.2.2.1 (S.2.2.2.2 _ q1443) dX10_off_15 ?_
  refine lv_icmp_gt (tgt := 29) hx hb dX10_off_17 (by decide) (fun hc => ?_) (fun hc => ?_)
  · have h := h.1 hc
    refine lv_aload_n hx hb dX10_off_29 rfl (lv_at hl 0 rfl) ?_
    refine lv_bipush (v := (-6)) hx hb dX10_off_30 (by decide) ?_
    refine rw_i (rwV S hE hT hS hP hD hA (c_X10_no h) [0, 1] rfl (by decide +kernel) lkX10_121 rfl ⟨(Nat.le_of_ble_eq_true rfl), (Nat.le_of_ble_eq_true rfl)⟩ 0 rfl rfl hl.1 rfl (Nat.le_of_ble_eq_true rfl) dX10_off_32 ⟨(Nat.zero_le _), (Nat.zero_le _)⟩) hP hD hS hA [0, 1] rfl (by decide +kernel) (fun _ => rfl) (fun r32 w32_0 H locs h hP hD hS => ?_)
    try dsimp only at h
    have hP : va_P D vwCl (wX10_off cI cJ cS a_o a_refused z_steps z_kind z_space z_other z_times z_speed z_base z_share z_notes z_pitch z_beats z_held z_sort z_size z_shown z_cells z_carried z_words z_tell z_was z_kept z_cutSpace z_cutTimes z_cutOff z_trace v_stretches v_cars v_tunes v_along v_near v_borne v_tempo v_seed v_fault v_from v_at v_end v_told v_wrongAt v_culprit v_ran v_isKept w32_0) H := hP
    have hD : va_D A (wX10_off cI cJ cS a_o a_refused z_steps z_kind z_space z_other z_times z_speed z_base z_share z_notes z_pitch z_beats z_held z_sort z_size z_shown z_cells z_carried z_words z_tell z_was z_kept z_cutSpace z_cutTimes z_cutOff z_trace v_stretches v_cars v_tunes v_along v_near v_borne v_tempo v_seed v_fault v_from v_at v_end v_told v_wrongAt v_culprit v_ran v_isKept w32_0) := hD
    exact W.iret hx hb hr (fun t ht _ => ⟨⟨_, w32_0, rfl, h, hPt hP ht⟩, hS.F ht⟩) hS.2.2 dX10_off_35
  have h := h.2 hc
  refine lv_aload_n hx hb dX10_off_20 rfl (lv_at hl 0 rfl) ?_
  refine lv_iload_n hx hb dX10_off_21 rfl (lv_at hl 1 rfl) ?_
  refine lv_iload_n hx hb dX10_off_22 rfl (lv_at hl 2 rfl) ?_
  refine ro_i (roV S hE hT hS (c_X10_offOf h) lkX10_242 rfl ⟨(Nat.le_of_ble_eq_true rfl), (Nat.le_of_ble_eq_true rfl)⟩ (hP.sub [0] rfl) 0 rfl rfl hl.1 rfl (Nat.le_of_ble_eq_true rfl) dX10_off_23 ⟨(Nat.zero_le _), (Nat.zero_le _)⟩) (fun r23 h => ?_)
  refine lv_goto (tgt := 35) hx hb dX10_off_26 (by decide) ?_
  exact W.iret hx hb hr (fun t ht _ => ⟨⟨_, f_refused, rfl, h, hPt hP ht⟩, hS.F ht⟩) hS.2.2 dX10_off_35
/-! X10_noteBy -/
abbrev wX10_noteBy (cI cJ cS : ClassId) (a_o a_kind a_other a_pitch a_space a_speed : Nat) (z_refused z_steps z_times z_base z_share z_notes z_beats z_held z_sort z_size z_shown z_cells z_carried z_words z_tell z_was z_kept z_cutSpace z_cutTimes z_cutOff z_trace : Value) (v_stretches : Int32) (v_cars : Int32) (v_tunes : Int32) (v_along : Int32) (v_near : Int32) (v_borne : Int32) (v_tempo : Int32) (v_seed : Int32) (v_fault : Int32) (v_from : Int32) (v_at : Int32) (v_end : Int32) (v_told : Int32) (v_wrongAt : Int32) (v_culprit : Int32) (v_ran : Int32) (v_isKept : Int32) (f_kind : Nat → Int32) (f_other : Nat → Int32) (f_pitch : Nat → Int32) (f_space : Nat → Int32) (f_speed : Nat → Int32) : va_W := [(a_o, .inr (9, [.int v_stretches, .int v_cars, .int v_tunes, .int v_along, .int v_near, .int v_borne, .int v_tempo, .int v_seed, .int v_fault, z_refused, z_steps, .ref a_kind, .ref a_space, .ref a_other, z_times, .ref a_speed, z_base, z_share, z_notes, .ref a_pitch, z_beats, z_held, z_sort, z_size, z_shown, z_cells, z_carried, z_words, z_tell, .int v_from, .int v_at, .int v_end, .int v_told, .int v_wrongAt, z_was, z_kept, .int v_culprit, z_cutSpace, z_cutTimes, z_cutOff, z_trace, .int v_ran, .int v_isKept])), (a_kind, .inl (cI, 16, .inl f_kind)), (a_other, .inl (cI, 16, .inl f_other)), (a_pitch, .inl (cI, 72, .inl f_pitch)), (a_space, .inl (cI, 16, .inl f_space)), (a_speed, .inl (cI, 6, .inl f_speed))]
def F_X10_noteBy (v_stretches : Int32) (f_kind : Nat → Int32) (f_other : Nat → Int32) (f_pitch : Nat → Int32) (f_space : Nat → Int32) (f_speed : Nat → Int32) (x1 : Int32) (x2 : Int32) (x3 : Int32) (post : Int32 → Prop) : Prop := ((v_stretches ≤ x3 → post 999) ∧ (¬ v_stretches ≤ x3 → (vp_in x1 6 ∧ (F_X10_humOf f_kind f_other f_space x3 (f_speed x1.toNatClampNeg) (fun r17 => (vp_in ((12 * x2) + x3) 72 ∧ (F_X10_offOf r17 (f_pitch ((12 * x2) + x3).toNatClampNeg) (fun r31 => post r31))))))))
set_option maxHeartbeats 4000000 in
set_option maxRecDepth 100000 in
theorem c_X10_noteBy {l : Launch} {D : va_G} {cI cJ cS : ClassId} {ad adK : Nat → Nat} {a_o a_kind a_other a_pitch a_space a_speed : Nat} {z_refused z_steps z_times z_base z_share z_notes z_beats z_held z_sort z_size z_shown z_cells z_carried z_words z_tell z_was z_kept z_cutSpace z_cutTimes z_cutOff z_trace : Value} {v_stretches : Int32} {v_cars : Int32} {v_tunes : Int32} {v_along : Int32} {v_near : Int32} {v_borne : Int32} {v_tempo : Int32} {v_seed : Int32} {v_fault : Int32} {v_from : Int32} {v_at : Int32} {v_end : Int32} {v_told : Int32} {v_wrongAt : Int32} {v_culprit : Int32} {v_ran : Int32} {v_isKept : Int32} {f_kind : Nat → Int32} {f_other : Nat → Int32} {f_pitch : Nat → Int32} {f_space : Nat → Int32} {f_speed : Nat → Int32} {x1 : Int32} {x2 : Int32} {x3 : Int32} {post : Int32 → Prop} (h : F_X10_noteBy v_stretches f_kind f_other f_pitch f_space f_speed x1 x2 x3 post) : Met l yX10_noteBy (Cond.code yX10_noteBy cX10_noteBy 4 (some (.int)) :: GW) (rmd 2 0 0) (PR D cI cJ cS ad adK [.ref a_o, .int x1, .int x2, .int x3] (wX10_noteBy cI cJ cS a_o a_kind a_other a_pitch a_space a_speed z_refused z_steps z_times z_base z_share z_notes z_beats z_held z_sort z_size z_shown z_cells z_carried z_words z_tell z_was z_kept z_cutSpace z_cutTimes z_cutOff z_trace v_stretches v_cars v_tunes v_along v_near v_borne v_tempo v_seed v_fault v_from v_at v_end v_told v_wrongAt v_culprit v_ran v_isKept f_kind f_other f_pitch f_space f_speed)) (vp_Si post) 0 0 nof := by
  refine Met.ro (by decide) (Nat.le_of_ble_eq_true rfl) (fun p e s m args below meth c ls (S : CallFix p m c cX10_noteBy 4 s args GW "RoadThatSingsModel") hE hT hP hS hr hlocks hl => ?_)
  have hx := S.1
  have hb := S.2.1
  have hl : lv_has ls 4 [(0, .ref a_o), (1, .int x1), (2, .int x2), (3, .int x3)] := hl
  unfold F_X10_noteBy at h
  refine lv_iload_n hx hb dX10_noteBy_0 rfl (lv_at hl 3 rfl) ?_
  refine lv_aload_n hx hb dX10_noteBy_1 rfl (lv_at hl 0 rfl) ?_
  refine gf S hE hP 0 rfl rfl inX10 (k := 0) (by decide) q1093 rfl dX10_noteBy_2 ?_
  refine lv_icmp_ge (tgt := 37) hx hb dX10_noteBy_5 (by decide) (fun hc => ?_) (fun hc => ?_)
  · have h := h.1 hc
    refine lv_sipush (v := 999) hx hb dX10_noteBy_37 (by decide) ?_
    exact W.iret hx hb hr (fun t ht _ => ⟨_, rfl, h, ht⟩) (fun _ hq => by cases hq) dX10_noteBy_40
  have h := h.2 hc
  refine lv_aload_n hx hb dX10_noteBy_8 rfl (lv_at hl 0 rfl) ?_
  refine lv_aload_n hx hb dX10_noteBy_9 rfl (lv_at hl 0 rfl) ?_
  refine lv_iload_n hx hb dX10_noteBy_10 rfl (lv_at hl 3 rfl) ?_
  refine lv_aload_n hx hb dX10_noteBy_11 rfl (lv_at hl 0 rfl) ?_
  refine gf S hE hP 0 rfl rfl inX10 (k := 15) (by decide) q1108 rfl dX10_noteBy_12 ?_
  refine lv_iload_n hx hb dX10_noteBy_15 rfl (lv_at hl 1 rfl) ?_
  obtain ⟨hi, h⟩ := h
  refine ial S hE hP 5 rfl hi dX10_noteBy_16 ?_
  refine ro_i (roV S hE hT hS (c_X10_humOf h) lkX10_232 rfl ⟨(Nat.le_of_ble_eq_true rfl), (Nat.le_of_ble_eq_true rfl)⟩ (hP.sub [0, 1, 2, 4] rfl) 0 rfl rfl hl.1 rfl (Nat.le_of_ble_eq_true rfl) dX10_noteBy_17 ⟨(Nat.zero_le _), (Nat.zero_le _)⟩) (fun r17 h => ?_)
  refine lv_aload_n hx hb dX10_noteBy_20 rfl (lv_at hl 0 rfl) ?_
  refine gf S hE hP 0 rfl rfl inX10 (k := 19) (by decide) q1112 rfl dX10_noteBy_21 ?_
  refine lv_bipush (v := 12) hx hb dX10_noteBy_24 (by decide) ?_
  refine lv_iload_n hx hb dX10_noteBy_26 rfl (lv_at hl 2 rfl) ?_
  refine lv_imul hx hb dX10_noteBy_27 ?_
  refine lv_iload_n hx hb dX10_noteBy_28 rfl (lv_at hl 3 rfl) ?_
  refine lv_iadd hx hb dX10_noteBy_29 ?_
  obtain ⟨hi, h⟩ := h
  refine ial S hE hP 3 rfl hi dX10_noteBy_30 ?_
  refine ro_i (roV S hE hT hS (c_X10_offOf h) lkX10_242 rfl ⟨(Nat.le_of_ble_eq_true rfl), (Nat.le_of_ble_eq_true rfl)⟩ (hP.sub [0] rfl) 0 rfl rfl hl.1 rfl (Nat.le_of_ble_eq_true rfl) dX10_noteBy_31 ⟨(Nat.zero_le _), (Nat.zero_le _)⟩) (fun r31 h => ?_)
  refine lv_goto (tgt := 40) hx hb dX10_noteBy_34 (by decide) ?_
  exact W.iret hx hb hr (fun t ht _ => ⟨_, rfl, h, ht⟩) (fun _ hq => by cases hq) dX10_noteBy_40
/-! X10_note -/
abbrev wX10_note (cI cJ cS : ClassId) (a_o a_kind a_notes a_other a_pitch a_refused a_space a_speed : Nat) (z_steps z_times z_base z_share z_beats z_held z_sort z_size z_shown z_cells z_carried z_words z_tell z_was z_kept z_cutSpace z_cutTimes z_cutOff z_trace : Value) (v_stretches : Int32) (v_cars : Int32) (v_tunes : Int32) (v_along : Int32) (v_near : Int32) (v_borne : Int32) (v_tempo : Int32) (v_seed : Int32) (v_fault : Int32) (v_from : Int32) (v_at : Int32) (v_end : Int32) (v_told : Int32) (v_wrongAt : Int32) (v_culprit : Int32) (v_ran : Int32) (v_isKept : Int32) (f_kind : Nat → Int32) (f_notes : Nat → Int32) (f_other : Nat → Int32) (f_pitch : Nat → Int32) (f_refused : Nat → Int32) (f_space : Nat → Int32) (f_speed : Nat → Int32) : va_W := [(a_o, .inr (9, [.int v_stretches, .int v_cars, .int v_tunes, .int v_along, .int v_near, .int v_borne, .int v_tempo, .int v_seed, .int v_fault, .ref a_refused, z_steps, .ref a_kind, .ref a_space, .ref a_other, z_times, .ref a_speed, z_base, z_share, .ref a_notes, .ref a_pitch, z_beats, z_held, z_sort, z_size, z_shown, z_cells, z_carried, z_words, z_tell, .int v_from, .int v_at, .int v_end, .int v_told, .int v_wrongAt, z_was, z_kept, .int v_culprit, z_cutSpace, z_cutTimes, z_cutOff, z_trace, .int v_ran, .int v_isKept])), (a_kind, .inl (cI, 16, .inl f_kind)), (a_notes, .inl (cI, 6, .inl f_notes)), (a_other, .inl (cI, 16, .inl f_other)), (a_pitch, .inl (cI, 72, .inl f_pitch)), (a_refused, .inl (cI, 8, .inl f_refused)), (a_space, .inl (cI, 16, .inl f_space)), (a_speed, .inl (cI, 6, .inl f_speed))]
def F_X10_note (v_stretches : Int32) (v_cars : Int32) (v_tunes : Int32) (f_kind : Nat → Int32) (f_notes : Nat → Int32) (f_other : Nat → Int32) (f_pitch : Nat → Int32) (f_refused : Nat → Int32) (f_space : Nat → Int32) (f_speed : Nat → Int32) (x1 : Int32) (x2 : Int32) (x3 : Int32) (post : Int32 → (Nat → Int32) → Prop) : Prop := (F_X10_isCar v_cars x1 (fun r2 => ((r2 = 0 → (F_X10_no f_refused (-1) (fun r32 w32_0 => post r32 w32_0))) ∧ (¬ r2 = 0 → (F_X10_isTune v_tunes x2 (fun r10 => ((r10 = 0 → (F_X10_no f_refused (-1) (fun r32 w32_0 => post r32 w32_0))) ∧ (¬ r10 = 0 → ((x3 < 0 → (F_X10_no f_refused (-1) (fun r32 w32_0 => post r32 w32_0))) ∧ (¬ x3 < 0 → (vp_in x2 6 ∧ ((x3 < (f_notes x2.toNatClampNeg) → (F_X10_noteBy v_stretches f_kind f_other f_pitch f_space f_speed x1 x2 x3 (fun r40 => post r40 f_refused))) ∧ (¬ x3 < (f_notes x2.toNatClampNeg) → (F_X10_no f_refused (-1) (fun r32 w32_0 => post r32 w32_0)))))))))))))))
set_option maxHeartbeats 4000000 in
set_option maxRecDepth 100000 in
theorem c_X10_note {l : Launch} {D : va_G} {cI cJ cS : ClassId} {ad adK : Nat → Nat} {a_o a_kind a_notes a_other a_pitch a_refused a_space a_speed : Nat} {z_steps z_times z_base z_share z_beats z_held z_sort z_size z_shown z_cells z_carried z_words z_tell z_was z_kept z_cutSpace z_cutTimes z_cutOff z_trace : Value} {v_stretches : Int32} {v_cars : Int32} {v_tunes : Int32} {v_along : Int32} {v_near : Int32} {v_borne : Int32} {v_tempo : Int32} {v_seed : Int32} {v_fault : Int32} {v_from : Int32} {v_at : Int32} {v_end : Int32} {v_told : Int32} {v_wrongAt : Int32} {v_culprit : Int32} {v_ran : Int32} {v_isKept : Int32} {f_kind : Nat → Int32} {f_notes : Nat → Int32} {f_other : Nat → Int32} {f_pitch : Nat → Int32} {f_refused : Nat → Int32} {f_space : Nat → Int32} {f_speed : Nat → Int32} {x1 : Int32} {x2 : Int32} {x3 : Int32} {post : Int32 → (Nat → Int32) → Prop} (h : F_X10_note v_stretches v_cars v_tunes f_kind f_notes f_other f_pitch f_refused f_space f_speed x1 x2 x3 post) {sz : Nat} : Met l yX10_note (Cond.code yX10_note cX10_note 4 (some (.int)) :: GW) (rmd 3 0 0) (PW D cI cJ cS ad adK [.ref a_o, .int x1, .int x2, .int x3] (wX10_note cI cJ cS a_o a_kind a_notes a_other a_pitch a_refused a_space a_speed z_steps z_times z_base z_share z_beats z_held z_sort z_size z_shown z_cells z_carried z_words z_tell z_was z_kept z_cutSpace z_cutTimes z_cutOff z_trace v_stretches v_cars v_tunes v_along v_near v_borne v_tempo v_seed v_fault v_from v_at v_end v_told v_wrongAt v_culprit v_ran v_isKept f_kind f_notes f_other f_pitch f_refused f_space f_speed) sz) (va_Qi (fun r (u : (Nat → Int32)) => post r u) (fun u t => va_P D vwCl (wX10_note cI cJ cS a_o a_kind a_notes a_other a_pitch a_refused a_space a_speed z_steps z_times z_base z_share z_beats z_held z_sort z_size z_shown z_cells z_carried z_words z_tell z_was z_kept z_cutSpace z_cutTimes z_cutOff z_trace v_stretches v_cars v_tunes v_along v_near v_borne v_tempo v_seed v_fault v_from v_at v_end v_told v_wrongAt v_culprit v_ran v_isKept f_kind f_notes f_other f_pitch u f_space f_speed) t.heap) (va_A (wX10_note cI cJ cS a_o a_kind a_notes a_other a_pitch a_refused a_space a_speed z_steps z_times z_base z_share z_beats z_held z_sort z_size z_shown z_cells z_carried z_words z_tell z_was z_kept z_cutSpace z_cutTimes z_cutOff z_trace v_stretches v_cars v_tunes v_along v_near v_borne v_tempo v_seed v_fault v_from v_at v_end v_told v_wrongAt v_culprit v_ran v_isKept f_kind f_notes f_other f_pitch f_refused f_space f_speed) sz)) 0 0 (va_A (wX10_note cI cJ cS a_o a_kind a_notes a_other a_pitch a_refused a_space a_speed z_steps z_times z_base z_share z_beats z_held z_sort z_size z_shown z_cells z_carried z_words z_tell z_was z_kept z_cutSpace z_cutTimes z_cutOff z_trace v_stretches v_cars v_tunes v_along v_near v_borne v_tempo v_seed v_fault v_from v_at v_end v_told v_wrongAt v_culprit v_ran v_isKept f_kind f_notes f_other f_pitch f_refused f_space f_speed) sz) := by
  refine Met.rw (Qc := fun A => (va_Qi (fun r (u : (Nat → Int32)) => post r u) (fun u t => va_P D vwCl (wX10_note cI cJ cS a_o a_kind a_notes a_other a_pitch a_refused a_space a_speed z_steps z_times z_base z_share z_beats z_held z_sort z_size z_shown z_cells z_carried z_words z_tell z_was z_kept z_cutSpace z_cutTimes z_cutOff z_trace v_stretches v_cars v_tunes v_along v_near v_borne v_tempo v_seed v_fault v_from v_at v_end v_told v_wrongAt v_culprit v_ran v_isKept f_kind f_notes f_other f_pitch u f_space f_speed) t.heap) A)) (by decide) (Nat.le_of_ble_eq_true rfl) (fun p e s m args below meth c ls A (S : CallFix p m c cX10_note 4 s args GW "RoadThatSingsModel") hE hT hP hD hA hS hr hlocks hname hl => ?_)
  have hS0 := hS
  have hx := S.1
  have hb := S.2.1
  have hl : lv_has ls 4 [(0, .ref a_o), (1, .int x1), (2, .int x2), (3, .int x3)] := hl
  unfold F_X10_note at h
  refine lv_aload_n hx hb dX10_note_0 rfl (lv_at hl 0 rfl) ?_
  refine lv_iload_n hx hb dX10_note_1 rfl (lv_at hl 1 rfl) ?_
  refine ro_i (roV S hE hT hS (c_X10_isCar h) lkX10_165 rfl ⟨(Nat.le_of_ble_eq_true rfl), (Nat.le_of_ble_eq_true rfl)⟩ (hP.sub [0] rfl) 0 rfl rfl hl.1 rfl (Nat.le_of_ble_eq_true rfl) dX10_note_2 ⟨(Nat.zero_le _), (Nat.zero_le _)⟩) (fun r2 h => ?_)
  refine lv_if_eq (tgt := 30) hx hb dX10_note_5 (by decide) (fun hc => ?_) (fun hc => ?_)
  · have h := h.1 hc
    refine lv_aload_n hx hb dX10_note_30 rfl (lv_at hl 0 rfl) ?_
    refine lv_iconst (v := (-1)) hx hb dX10_note_31 (by decide) ?_
    refine rw_i (rwV S hE hT hS hP hD hA (c_X10_no h) [0, 5] rfl (by decide +kernel) lkX10_121 rfl ⟨(Nat.le_of_ble_eq_true rfl), (Nat.le_of_ble_eq_true rfl)⟩ 0 rfl rfl hl.1 rfl (Nat.le_of_ble_eq_true rfl) dX10_note_32 ⟨(Nat.zero_le _), (Nat.zero_le _)⟩) hP hD hS hA [0, 5] rfl (by decide +kernel) (fun _ => rfl) (fun r32 w32_0 H locs h hP hD hS => ?_)
    try dsimp only at h
    have hP : va_P D vwCl (wX10_note cI cJ cS a_o a_kind a_notes a_other a_pitch a_refused a_space a_speed z_steps z_times z_base z_share z_beats z_held z_sort z_size z_shown z_cells z_carried z_words z_tell z_was z_kept z_cutSpace z_cutTimes z_cutOff z_trace v_stretches v_cars v_tunes v_along v_near v_borne v_tempo v_seed v_fault v_from v_at v_end v_told v_wrongAt v_culprit v_ran v_isKept f_kind f_notes f_other f_pitch w32_0 f_space f_speed) H := hP
    have hD : va_D A (wX10_note cI cJ cS a_o a_kind a_notes a_other a_pitch a_refused a_space a_speed z_steps z_times z_base z_share z_beats z_held z_sort z_size z_shown z_cells z_carried z_words z_tell z_was z_kept z_cutSpace z_cutTimes z_cutOff z_trace v_stretches v_cars v_tunes v_along v_near v_borne v_tempo v_seed v_fault v_from v_at v_end v_told v_wrongAt v_culprit v_ran v_isKept f_kind f_notes f_other f_pitch w32_0 f_space f_speed) := hD
    exact W.iret hx hb hr (fun t ht _ => ⟨⟨_, w32_0, rfl, h, hPt hP ht⟩, hS.F ht⟩) hS.2.2 dX10_note_35
  have h := h.2 hc
  refine lv_aload_n hx hb dX10_note_8 rfl (lv_at hl 0 rfl) ?_
  refine lv_iload_n hx hb dX10_note_9 rfl (lv_at hl 2 rfl) ?_
  refine ro_i (roV S hE hT hS (c_X10_isTune h) lkX10_168 rfl ⟨(Nat.le_of_ble_eq_true rfl), (Nat.le_of_ble_eq_true rfl)⟩ (hP.sub [0] rfl) 0 rfl rfl hl.1 rfl (Nat.le_of_ble_eq_true rfl) dX10_note_10 ⟨(Nat.zero_le _), (Nat.zero_le _)⟩) (fun r10 h => ?_)
  refine lv_if_eq (tgt := 30) hx hb dX10_note_13 (by decide) (fun hc => ?_) (fun hc => ?_)
  · have h := h.1 hc
    refine lv_aload_n hx hb dX10_note_30 rfl (lv_at hl 0 rfl) ?_
    refine lv_iconst (v := (-1)) hx hb dX10_note_31 (by decide) ?_
    refine rw_i (rwV S hE hT hS hP hD hA (c_X10_no h) [0, 5] rfl (by decide +kernel) lkX10_121 rfl ⟨(Nat.le_of_ble_eq_true rfl), (Nat.le_of_ble_eq_true rfl)⟩ 0 rfl rfl hl.1 rfl (Nat.le_of_ble_eq_true rfl) dX10_note_32 ⟨(Nat.zero_le _), (Nat.zero_le _)⟩) hP hD hS hA [0, 5] rfl (by decide +kernel) (fun _ => rfl) (fun r32 w32_0 H locs h hP hD hS => ?_)
    try dsimp only at h
    have hP : va_P D vwCl (wX10_note cI cJ cS a_o a_kind a_notes a_other a_pitch a_refused a_space a_speed z_steps z_times z_base z_share z_beats z_held z_sort z_size z_shown z_cells z_carried z_words z_tell z_was z_kept z_cutSpace z_cutTimes z_cutOff z_trace v_stretches v_cars v_tunes v_along v_near v_borne v_tempo v_seed v_fault v_from v_at v_end v_told v_wrongAt v_culprit v_ran v_isKept f_kind f_notes f_other f_pitch w32_0 f_space f_speed) H := hP
    have hD : va_D A (wX10_note cI cJ cS a_o a_kind a_notes a_other a_pitch a_refused a_space a_speed z_steps z_times z_base z_share z_beats z_held z_sort z_size z_shown z_cells z_carried z_words z_tell z_was z_kept z_cutSpace z_cutTimes z_cutOff z_trace v_stretches v_cars v_tunes v_along v_near v_borne v_tempo v_seed v_fault v_from v_at v_end v_told v_wrongAt v_culprit v_ran v_isKept f_kind f_notes f_other f_pitch w32_0 f_space f_speed) := hD
    exact W.iret hx hb hr (fun t ht _ => ⟨⟨_, w32_0, rfl, h, hPt hP ht⟩, hS.F ht⟩) hS.2.2 dX10_note_35
  have h := h.2 hc
  refine lv_iload_n hx hb dX10_note_16 rfl (lv_at hl 3 rfl) ?_
  refine lv_if_lt (tgt := 30) hx hb dX10_note_17 (by decide) (fun hc => ?_) (fun hc => ?_)
  · have h := h.1 hc
    refine lv_aload_n hx hb dX10_note_30 rfl (lv_at hl 0 rfl) ?_
    refine lv_iconst (v := (-1)) hx hb dX10_note_31 (by decide) ?_
    refine rw_i (rwV S hE hT hS hP hD hA (c_X10_no h) [0, 5] rfl (by decide +kernel) lkX10_121 rfl ⟨(Nat.le_of_ble_eq_true rfl), (Nat.le_of_ble_eq_true rfl)⟩ 0 rfl rfl hl.1 rfl (Nat.le_of_ble_eq_true rfl) dX10_note_32 ⟨(Nat.zero_le _), (Nat.zero_le _)⟩) hP hD hS hA [0, 5] rfl (by decide +kernel) (fun _ => rfl) (fun r32 w32_0 H locs h hP hD hS => ?_)
    try dsimp only at h
    have hP : va_P D vwCl (wX10_note cI cJ cS a_o a_kind a_notes a_other a_pitch a_refused a_space a_speed z_steps z_times z_base z_share z_beats z_held z_sort z_size z_shown z_cells z_carried z_words z_tell z_was z_kept z_cutSpace z_cutTimes z_cutOff z_trace v_stretches v_cars v_tunes v_along v_near v_borne v_tempo v_seed v_fault v_from v_at v_end v_told v_wrongAt v_culprit v_ran v_isKept f_kind f_notes f_other f_pitch w32_0 f_space f_speed) H := hP
    have hD : va_D A (wX10_note cI cJ cS a_o a_kind a_notes a_other a_pitch a_refused a_space a_speed z_steps z_times z_base z_share z_beats z_held z_sort z_size z_shown z_cells z_carried z_words z_tell z_was z_kept z_cutSpace z_cutTimes z_cutOff z_trace v_stretches v_cars v_tunes v_along v_near v_borne v_tempo v_seed v_fault v_from v_at v_end v_told v_wrongAt v_culprit v_ran v_isKept f_kind f_notes f_other f_pitch w32_0 f_space f_speed) := hD
    exact W.iret hx hb hr (fun t ht _ => ⟨⟨_, w32_0, rfl, h, hPt hP ht⟩, hS.F ht⟩) hS.2.2 dX10_note_35
  have h := h.2 hc
  refine lv_iload_n hx hb dX10_note_20 rfl (lv_at hl 3 rfl) ?_
  refine lv_aload_n hx hb dX10_note_21 rfl (lv_at hl 0 rfl) ?_
  refine gf S hE hP 0 rfl rfl inX10 (k := 18) (by decide) q1111 rfl dX10_note_22 ?_
  refine lv_iload_n hx hb dX10_note_25 rfl (lv_at hl 2 rfl) ?_
  obtain ⟨hi, h⟩ := h
  refine ial S hE hP 2 rfl hi dX10_note_26 ?_
  refine lv_icmp_lt (tgt := 36) hx hb dX10_note_27 (by decide) (fun hc => ?_) (fun hc => ?_)
  · have h := h.1 hc
    refine lv_aload_n hx hb dX10_note_36 rfl (lv_at hl 0 rfl) ?_
    refine lv_iload_n hx hb dX10_note_37 rfl (lv_at hl 1 rfl) ?_
    refine lv_iload_n hx hb dX10_note_38 rfl (lv_at hl 2 rfl) ?_
    refine lv_iload_n hx hb dX10_note_39 rfl (lv_at hl 3 rfl) ?_
    refine ro_i (roV S hE hT hS (c_X10_noteBy h) lkX10_245 rfl ⟨(Nat.le_of_ble_eq_true rfl), (Nat.le_of_ble_eq_true rfl)⟩ (hP.sub [0, 1, 3, 4, 6, 7] rfl) 0 rfl rfl hl.1 rfl (Nat.le_of_ble_eq_true rfl) dX10_note_40 ⟨(Nat.zero_le _), (Nat.zero_le _)⟩) (fun r40 h => ?_)
    exact W.iret hx hb hr (fun t ht _ => ⟨⟨_, f_refused, rfl, h, hPt hP ht⟩, hS.F ht⟩) hS.2.2 dX10_note_43
  have h := h.2 hc
  refine lv_aload_n hx hb dX10_note_30 rfl (lv_at hl 0 rfl) ?_
  refine lv_iconst (v := (-1)) hx hb dX10_note_31 (by decide) ?_
  refine rw_i (rwV S hE hT hS hP hD hA (c_X10_no h) [0, 5] rfl (by decide +kernel) lkX10_121 rfl ⟨(Nat.le_of_ble_eq_true rfl), (Nat.le_of_ble_eq_true rfl)⟩ 0 rfl rfl hl.1 rfl (Nat.le_of_ble_eq_true rfl) dX10_note_32 ⟨(Nat.zero_le _), (Nat.zero_le _)⟩) hP hD hS hA [0, 5] rfl (by decide +kernel) (fun _ => rfl) (fun r32 w32_0 H locs h hP hD hS => ?_)
  try dsimp only at h
  have hP : va_P D vwCl (wX10_note cI cJ cS a_o a_kind a_notes a_other a_pitch a_refused a_space a_speed z_steps z_times z_base z_share z_beats z_held z_sort z_size z_shown z_cells z_carried z_words z_tell z_was z_kept z_cutSpace z_cutTimes z_cutOff z_trace v_stretches v_cars v_tunes v_along v_near v_borne v_tempo v_seed v_fault v_from v_at v_end v_told v_wrongAt v_culprit v_ran v_isKept f_kind f_notes f_other f_pitch w32_0 f_space f_speed) H := hP
  have hD : va_D A (wX10_note cI cJ cS a_o a_kind a_notes a_other a_pitch a_refused a_space a_speed z_steps z_times z_base z_share z_beats z_held z_sort z_size z_shown z_cells z_carried z_words z_tell z_was z_kept z_cutSpace z_cutTimes z_cutOff z_trace v_stretches v_cars v_tunes v_along v_near v_borne v_tempo v_seed v_fault v_from v_at v_end v_told v_wrongAt v_culprit v_ran v_isKept f_kind f_notes f_other f_pitch w32_0 f_space f_speed) := hD
  exact W.iret hx hb hr (fun t ht _ => ⟨⟨_, w32_0, rfl, h, hPt hP ht⟩, hS.F ht⟩) hS.2.2 dX10_note_35
/-! X10_worstOf -/
abbrev wX10_worstOf (cI cJ cS : ClassId) (a_o a_kind a_notes a_other a_pitch a_space a_speed : Nat) (z_refused z_steps z_times z_base z_share z_beats z_held z_sort z_size z_shown z_cells z_carried z_words z_tell z_was z_kept z_cutSpace z_cutTimes z_cutOff z_trace : Value) (v_stretches : Int32) (v_cars : Int32) (v_tunes : Int32) (v_along : Int32) (v_near : Int32) (v_borne : Int32) (v_tempo : Int32) (v_seed : Int32) (v_fault : Int32) (v_from : Int32) (v_at : Int32) (v_end : Int32) (v_told : Int32) (v_wrongAt : Int32) (v_culprit : Int32) (v_ran : Int32) (v_isKept : Int32) (f_kind : Nat → Int32) (f_notes : Nat → Int32) (f_other : Nat → Int32) (f_pitch : Nat → Int32) (f_space : Nat → Int32) (f_speed : Nat → Int32) : va_W := [(a_o, .inr (9, [.int v_stretches, .int v_cars, .int v_tunes, .int v_along, .int v_near, .int v_borne, .int v_tempo, .int v_seed, .int v_fault, z_refused, z_steps, .ref a_kind, .ref a_space, .ref a_other, z_times, .ref a_speed, z_base, z_share, .ref a_notes, .ref a_pitch, z_beats, z_held, z_sort, z_size, z_shown, z_cells, z_carried, z_words, z_tell, .int v_from, .int v_at, .int v_end, .int v_told, .int v_wrongAt, z_was, z_kept, .int v_culprit, z_cutSpace, z_cutTimes, z_cutOff, z_trace, .int v_ran, .int v_isKept])), (a_kind, .inl (cI, 16, .inl f_kind)), (a_notes, .inl (cI, 6, .inl f_notes)), (a_other, .inl (cI, 16, .inl f_other)), (a_pitch, .inl (cI, 72, .inl f_pitch)), (a_space, .inl (cI, 16, .inl f_space)), (a_speed, .inl (cI, 6, .inl f_speed))]
def F_X10_worstOf_38 (k5 : Int32 → Int32 → Prop) (x1 : Int32) (x2 : Int32) (x4 : Int32) (s0 : Int32) : Prop := (∀ x4_39 : Int32, x4_39 = x4 + 1 → k5 s0 x4_39)
def L_X10_worstOf_5 (v_stretches : Int32) (f_kind : Nat → Int32) (f_notes : Nat → Int32) (f_other : Nat → Int32) (f_pitch : Nat → Int32) (f_space : Nat → Int32) (f_speed : Nat → Int32) (x1 : Int32) (x2 : Int32) (post : Int32 → Prop) : Nat → Int32 → Int32 → Prop
  | 0, _, _ => False
  | n5 + 1, x3, x4 => (vp_in x2 6 ∧ (((f_notes x2.toNatClampNeg) ≤ x4 → post x3) ∧ (¬ (f_notes x2.toNatClampNeg) ≤ x4 → (F_X10_noteBy v_stretches f_kind f_other f_pitch f_space f_speed x1 x2 x4 (fun r21 => ((r21 ≤ x3 → F_X10_worstOf_38 (fun x3 x4 => L_X10_worstOf_5 v_stretches f_kind f_notes f_other f_pitch f_space f_speed x1 x2 post n5 x3 x4) x1 x2 x4 x3) ∧ (¬ r21 ≤ x3 → F_X10_worstOf_38 (fun x3 x4 => L_X10_worstOf_5 v_stretches f_kind f_notes f_other f_pitch f_space f_speed x1 x2 post n5 x3 x4) x1 x2 x4 r21)))))))
def F_X10_worstOf (v_stretches : Int32) (f_kind : Nat → Int32) (f_notes : Nat → Int32) (f_other : Nat → Int32) (f_pitch : Nat → Int32) (f_space : Nat → Int32) (f_speed : Nat → Int32) (x1 : Int32) (x2 : Int32) (post : Int32 → Prop) : Prop := (∃ n5 : Nat, L_X10_worstOf_5 v_stretches f_kind f_notes f_other f_pitch f_space f_speed x1 x2 post n5 0 0)
set_option maxHeartbeats 4000000 in
set_option maxRecDepth 100000 in
theorem w_X10_worstOf_38 {l : Launch} {D : va_G} {cI cJ cS : ClassId} {ad adK : Nat → Nat} {a_o a_kind a_notes a_other a_pitch a_space a_speed : Nat} {z_refused z_steps z_times z_base z_share z_beats z_held z_sort z_size z_shown z_cells z_carried z_words z_tell z_was z_kept z_cutSpace z_cutTimes z_cutOff z_trace : Value} {v_stretches : Int32} {v_cars : Int32} {v_tunes : Int32} {v_along : Int32} {v_near : Int32} {v_borne : Int32} {v_tempo : Int32} {v_seed : Int32} {v_fault : Int32} {v_from : Int32} {v_at : Int32} {v_end : Int32} {v_told : Int32} {v_wrongAt : Int32} {v_culprit : Int32} {v_ran : Int32} {v_isKept : Int32} {f_kind : Nat → Int32} {f_notes : Nat → Int32} {f_other : Nat → Int32} {f_pitch : Nat → Int32} {f_space : Nat → Int32} {f_speed : Nat → Int32} {x1 : Int32} {x2 : Int32} {x4 : Int32} {s0 : Int32} {post : Int32 → Prop} {k5 : Int32 → Int32 → Prop} {p : Program} {e : Env} {s : State} {m : MethodId} {args : Array Value} {below : List Frame} {meth : Method} {c : Code} (S : CallFix p m c cX10_worstOf 6 s args GW "RoadThatSingsModel") (hE : EN D cI cJ cS s) (hT : ST ad adK nof s s.heap) (hP : va_P D vwCl (wX10_worstOf cI cJ cS a_o a_kind a_notes a_other a_pitch a_space a_speed z_refused z_steps z_times z_base z_share z_beats z_held z_sort z_size z_shown z_cells z_carried z_words z_tell z_was z_kept z_cutSpace z_cutTimes z_cutOff z_trace v_stretches v_cars v_tunes v_along v_near v_borne v_tempo v_seed v_fault v_from v_at v_end v_told v_wrongAt v_culprit v_ran v_isKept f_kind f_notes f_other f_pitch f_space f_speed) s.heap) (hS : va_S nof s.heap s.heap []) (hr : meth.sig.returnType = (some (.int))) (hlocks : meth.locks = false) (hk5 : ∀ (x3 : Int32) (x4 : Int32) (ls : Array Slot), k5 x3 x4 → lv_has ls 6 [(0, .ref a_o), (1, .int x1), (2, .int x2), (3, .int x3), (4, .int x4)] → W p l e (rmd 3 0 0) s m args below meth c s.heap [] 0 0 (MQ below (vp_Si post) args s 0 0 nof) (F0 m 5 ls [])) : ∀ (ls : Array Slot), F_X10_worstOf_38 k5 x1 x2 x4 s0 → lv_has ls 6 [(0, .ref a_o), (1, .int x1), (2, .int x2), (4, .int x4)] → W p l e (rmd 3 0 0) s m args below meth c s.heap [] 0 0 (MQ below (vp_Si post) args s 0 0 nof) (F0 m 38 ls [.int s0]) := by
  intro  ls h hl
  unfold F_X10_worstOf_38 at h
  have hx := S.1
  have hb := S.2.1
  refine lv_istore_n (lv' := [(3, .int s0), (0, .ref a_o), (1, .int x1), (2, .int x2), (4, .int x4)]) hx hb dX10_worstOf_38 rfl hl (by decide) rfl (fun ls hl => ?_)
  obtain ⟨x4_39, ex4_39⟩ : ∃ z : Int32, z = x4 + 1 := ⟨_, rfl⟩
  have h := h _ ex4_39
  refine lv_iinc (v := x4_39) (lv' := [(4, .int x4_39), (3, .int s0), (0, .ref a_o), (1, .int x1), (2, .int x2)]) hx hb dX10_worstOf_39 hl (k := 4) rfl (by rw [ex4_39]; rfl) (by decide) rfl (fun ls hl => ?_)
  refine lv_goto (tgt := 5) hx hb dX10_worstOf_42 (by decide) ?_
  exact hk5 _ _ _ h (lv_sub hl [2, 3, 4, 1, 0] rfl)
set_option maxHeartbeats 4000000 in
set_option maxRecDepth 100000 in
theorem w_X10_worstOf_5 {l : Launch} {D : va_G} {cI cJ cS : ClassId} {ad adK : Nat → Nat} {a_o a_kind a_notes a_other a_pitch a_space a_speed : Nat} {z_refused z_steps z_times z_base z_share z_beats z_held z_sort z_size z_shown z_cells z_carried z_words z_tell z_was z_kept z_cutSpace z_cutTimes z_cutOff z_trace : Value} {v_stretches : Int32} {v_cars : Int32} {v_tunes : Int32} {v_along : Int32} {v_near : Int32} {v_borne : Int32} {v_tempo : Int32} {v_seed : Int32} {v_fault : Int32} {v_from : Int32} {v_at : Int32} {v_end : Int32} {v_told : Int32} {v_wrongAt : Int32} {v_culprit : Int32} {v_ran : Int32} {v_isKept : Int32} {f_kind : Nat → Int32} {f_notes : Nat → Int32} {f_other : Nat → Int32} {f_pitch : Nat → Int32} {f_space : Nat → Int32} {f_speed : Nat → Int32} {x1 : Int32} {x2 : Int32} {post : Int32 → Prop} {p : Program} {e : Env} {s : State} {m : MethodId} {args : Array Value} {below : List Frame} {meth : Method} {c : Code} (S : CallFix p m c cX10_worstOf 6 s args GW "RoadThatSingsModel") (hE : EN D cI cJ cS s) (hT : ST ad adK nof s s.heap) (hP : va_P D vwCl (wX10_worstOf cI cJ cS a_o a_kind a_notes a_other a_pitch a_space a_speed z_refused z_steps z_times z_base z_share z_beats z_held z_sort z_size z_shown z_cells z_carried z_words z_tell z_was z_kept z_cutSpace z_cutTimes z_cutOff z_trace v_stretches v_cars v_tunes v_along v_near v_borne v_tempo v_seed v_fault v_from v_at v_end v_told v_wrongAt v_culprit v_ran v_isKept f_kind f_notes f_other f_pitch f_space f_speed) s.heap) (hS : va_S nof s.heap s.heap []) (hr : meth.sig.returnType = (some (.int))) (hlocks : meth.locks = false) : ∀ n : Nat, ∀ (x3 : Int32) (x4 : Int32) (ls : Array Slot), L_X10_worstOf_5 v_stretches f_kind f_notes f_other f_pitch f_space f_speed x1 x2 post n x3 x4 → lv_has ls 6 [(0, .ref a_o), (1, .int x1), (2, .int x2), (3, .int x3), (4, .int x4)] → W p l e (rmd 3 0 0) s m args below meth c s.heap [] 0 0 (MQ below (vp_Si post) args s 0 0 nof) (F0 m 5 ls []) := by
  intro n
  induction n with
  | zero =>
    intro x3 x4 ls h hl
    exact h.elim
  | succ n ih =>
    intro x3 x4 ls h hl
    rw [L_X10_worstOf_5] at h
    have hx := S.1
    have hb := S.2.1
    refine lv_iload hx hb dX10_worstOf_5 (lv_at hl 4 rfl) ?_
    refine lv_aload_n hx hb dX10_worstOf_7 rfl (lv_at hl 0 rfl) ?_
    refine gf S hE hP 0 rfl rfl inX10 (k := 18) (by decide) q1111 rfl dX10_worstOf_8 ?_
    refine lv_iload_n hx hb dX10_worstOf_11 rfl (lv_at hl 2 rfl) ?_
    obtain ⟨hi, h⟩ := h
    refine ial S hE hP 2 rfl hi dX10_worstOf_12 ?_
    refine lv_icmp_ge (tgt := 45) hx hb dX10_worstOf_13 (by decide) (fun hc => ?_) (fun hc => ?_)
    · have h := h.1 hc
      refine lv_iload_n hx hb dX10_worstOf_45 rfl (lv_at hl 3 rfl) ?_
      exact W.iret hx hb hr (fun t ht _ => ⟨_, rfl, h, ht⟩) (fun _ hq => by cases hq) dX10_worstOf_46
    have h := h.2 hc
    refine lv_aload_n hx hb dX10_worstOf_16 rfl (lv_at hl 0 rfl) ?_
    refine lv_iload_n hx hb dX10_worstOf_17 rfl (lv_at hl 1 rfl) ?_
    refine lv_iload_n hx hb dX10_worstOf_18 rfl (lv_at hl 2 rfl) ?_
    refine lv_iload hx hb dX10_worstOf_19 (lv_at hl 4 rfl) ?_
    refine ro_i (roV S hE hT hS (c_X10_noteBy h) lkX10_245 rfl ⟨(Nat.le_of_ble_eq_true rfl), (Nat.le_of_ble_eq_true rfl)⟩ (hP.sub [0, 1, 3, 4, 5, 6] rfl) 0 rfl rfl hl.1 rfl (Nat.le_of_ble_eq_true rfl) dX10_worstOf_21 ⟨(Nat.zero_le _), (Nat.zero_le _)⟩) (fun r21 h => ?_)
    refine lv_istore (lv' := [(5, .int r21), (0, .ref a_o), (1, .int x1), (2, .int x2), (3, .int x3), (4, .int x4)]) hx hb dX10_worstOf_24 hl (by decide) rfl (fun ls hl => ?_)
    refine lv_iload hx hb dX10_worstOf_26 (lv_at hl 0 rfl) ?_
    refine lv_iload_n hx hb dX10_worstOf_28 rfl (lv_at hl 4 rfl) ?_
    refine lv_icmp_le (tgt := 37) hx hb dX10_worstOf_29 (by decide) (fun hc => ?_) (fun hc => ?_)
    · have h := h.1 hc
      refine lv_iload_n hx hb dX10_worstOf_37 rfl (lv_at hl 4 rfl) ?_
      refine w_X10_worstOf_38 S hE hT hP hS hr hlocks ih _ h (lv_sub hl [1, 2, 3, 5] rfl)
    have h := h.2 hc
    refine lv_iload hx hb dX10_worstOf_32 (lv_at hl 0 rfl) ?_
    refine lv_goto (tgt := 38) hx hb dX10_worstOf_34 (by decide) ?_
    refine w_X10_worstOf_38 S hE hT hP hS hr hlocks ih _ h (lv_sub hl [1, 2, 3, 5] rfl)
set_option maxHeartbeats 4000000 in
set_option maxRecDepth 100000 in
theorem c_X10_worstOf {l : Launch} {D : va_G} {cI cJ cS : ClassId} {ad adK : Nat → Nat} {a_o a_kind a_notes a_other a_pitch a_space a_speed : Nat} {z_refused z_steps z_times z_base z_share z_beats z_held z_sort z_size z_shown z_cells z_carried z_words z_tell z_was z_kept z_cutSpace z_cutTimes z_cutOff z_trace : Value} {v_stretches : Int32} {v_cars : Int32} {v_tunes : Int32} {v_along : Int32} {v_near : Int32} {v_borne : Int32} {v_tempo : Int32} {v_seed : Int32} {v_fault : Int32} {v_from : Int32} {v_at : Int32} {v_end : Int32} {v_told : Int32} {v_wrongAt : Int32} {v_culprit : Int32} {v_ran : Int32} {v_isKept : Int32} {f_kind : Nat → Int32} {f_notes : Nat → Int32} {f_other : Nat → Int32} {f_pitch : Nat → Int32} {f_space : Nat → Int32} {f_speed : Nat → Int32} {x1 : Int32} {x2 : Int32} {post : Int32 → Prop} (h : F_X10_worstOf v_stretches f_kind f_notes f_other f_pitch f_space f_speed x1 x2 post) : Met l yX10_worstOf (Cond.code yX10_worstOf cX10_worstOf 6 (some (.int)) :: GW) (rmd 3 0 0) (PR D cI cJ cS ad adK [.ref a_o, .int x1, .int x2] (wX10_worstOf cI cJ cS a_o a_kind a_notes a_other a_pitch a_space a_speed z_refused z_steps z_times z_base z_share z_beats z_held z_sort z_size z_shown z_cells z_carried z_words z_tell z_was z_kept z_cutSpace z_cutTimes z_cutOff z_trace v_stretches v_cars v_tunes v_along v_near v_borne v_tempo v_seed v_fault v_from v_at v_end v_told v_wrongAt v_culprit v_ran v_isKept f_kind f_notes f_other f_pitch f_space f_speed)) (vp_Si post) 0 0 nof := by
  refine Met.ro (by decide) (Nat.le_of_ble_eq_true rfl) (fun p e s m args below meth c ls (S : CallFix p m c cX10_worstOf 6 s args GW "RoadThatSingsModel") hE hT hP hS hr hlocks hl => ?_)
  have hx := S.1
  have hb := S.2.1
  have hl : lv_has ls 6 [(0, .ref a_o), (1, .int x1), (2, .int x2)] := hl
  unfold F_X10_worstOf at h
  refine lv_iconst (v := 0) hx hb dX10_worstOf_0 (by decide) ?_
  refine lv_istore_n (lv' := [(3, .int 0), (0, .ref a_o), (1, .int x1), (2, .int x2)]) hx hb dX10_worstOf_1 rfl hl (by decide) rfl (fun ls hl => ?_)
  refine lv_iconst (v := 0) hx hb dX10_worstOf_2 (by decide) ?_
  refine lv_istore (lv' := [(4, .int 0), (3, .int 0), (0, .ref a_o), (1, .int x1), (2, .int x2)]) hx hb dX10_worstOf_3 hl (by decide) rfl (fun ls hl => ?_)
  obtain ⟨n, h⟩ := h
  refine w_X10_worstOf_5 S hE hT hP hS hr hlocks n _ _ _ h (lv_sub hl [2, 3, 4, 1, 0] rfl)
