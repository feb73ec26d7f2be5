/-! X10_till -/
abbrev wX10_till (cI cJ cS : ClassId) (a_o a_held a_refused a_shown : Nat) (z_steps z_kind z_space z_other z_times z_speed z_base z_share z_notes z_pitch z_beats z_sort z_size z_cells z_carried z_words z_tell z_was z_kept z_cutSpace z_cutTimes z_cutOff z_trace : Value) (v_stretches : Int32) (v_cars : Int32) (v_tunes : Int32) (v_along : Int32) (v_near : Int32) (v_borne : Int32) (v_tempo : Int32) (v_seed : Int32) (v_fault : Int32) (v_from : Int32) (v_at : Int32) (v_end : Int32) (v_told : Int32) (v_wrongAt : Int32) (v_culprit : Int32) (v_ran : Int32) (v_isKept : Int32) (f_held : Nat → Int32) (f_refused : Nat → Int32) (f_shown : Nat → Int32) : va_W := [(a_o, .inr (9, [.int v_stretches, .int v_cars, .int v_tunes, .int v_along, .int v_near, .int v_borne, .int v_tempo, .int v_seed, .int v_fault, .ref a_refused, z_steps, z_kind, z_space, z_other, z_times, z_speed, z_base, z_share, z_notes, z_pitch, z_beats, .ref a_held, z_sort, z_size, .ref a_shown, z_cells, z_carried, z_words, z_tell, .int v_from, .int v_at, .int v_end, .int v_told, .int v_wrongAt, z_was, z_kept, .int v_culprit, z_cutSpace, z_cutTimes, z_cutOff, z_trace, .int v_ran, .int v_isKept])), (a_held, .inl (cI, 8, .inl f_held)), (a_refused, .inl (cI, 8, .inl f_refused)), (a_shown, .inl (cI, 8, .inl f_shown))]
def F_X10_till (v_stretches : Int32) (f_held : Nat → Int32) (f_refused : Nat → Int32) (f_shown : Nat → Int32) (x1 : Int32) (post : Int32 → Int32 → (Nat → Int32) → (Nat → Int32) → Prop) : Prop := ((x1 < 0 → (F_X10_no f_refused (-6) (fun r15 w15_0 => post r15 v_stretches f_held w15_0))) ∧ (¬ x1 < 0 → ((x1 ≤ v_stretches → (F_X10_shows x1 f_held f_shown (fun w25_0 => post x1 x1 w25_0 f_refused))) ∧ (¬ x1 ≤ v_stretches → (F_X10_no f_refused (-6) (fun r15 w15_0 => post r15 v_stretches f_held w15_0))))))
set_option maxHeartbeats 4000000 in
set_option maxRecDepth 100000 in
theorem c_X10_till {l : Launch} {D : va_G} {cI cJ cS : ClassId} {ad adK : Nat → Nat} {a_o a_held a_refused a_shown : Nat} {z_steps z_kind z_space z_other z_times z_speed z_base z_share z_notes z_pitch z_beats z_sort z_size z_cells z_carried z_words z_tell z_was z_kept z_cutSpace z_cutTimes z_cutOff z_trace : Value} {v_stretches : Int32} {v_cars : Int32} {v_tunes : Int32} {v_along : Int32} {v_near : Int32} {v_borne : Int32} {v_tempo : Int32} {v_seed : Int32} {v_fault : Int32} {v_from : Int32} {v_at : Int32} {v_end : Int32} {v_told : Int32} {v_wrongAt : Int32} {v_culprit : Int32} {v_ran : Int32} {v_isKept : Int32} {f_held : Nat → Int32} {f_refused : Nat → Int32} {f_shown : Nat → Int32} {x1 : Int32} {post : Int32 → Int32 → (Nat → Int32) → (Nat → Int32) → Prop} (h : F_X10_till v_stretches f_held f_refused f_shown x1 post) {sz : Nat} : Met l yX10_till (Cond.code yX10_till cX10_till 2 (some (.int)) :: GW) (rmd 1 0 0) (PW D cI cJ cS ad adK [.ref a_o, .int x1] (wX10_till cI cJ cS a_o a_held a_refused a_shown z_steps z_kind z_space z_other z_times z_speed z_base z_share z_notes z_pitch z_beats z_sort z_size z_cells z_carried z_words z_tell z_was z_kept z_cutSpace z_cutTimes z_cutOff z_trace v_stretches v_cars v_tunes v_along v_near v_borne v_tempo v_seed v_fault v_from v_at v_end v_told v_wrongAt v_culprit v_ran v_isKept f_held f_refused f_shown) sz) (va_Qi (fun r (u : Int32 × (Nat → Int32) × (Nat → Int32)) => post r u.1 u.2.1 u.2.2) (fun u t => va_P D vwCl (wX10_till cI cJ cS a_o a_held a_refused a_shown z_steps z_kind z_space z_other z_times z_speed z_base z_share z_notes z_pitch z_beats z_sort z_size z_cells z_carried z_words z_tell z_was z_kept z_cutSpace z_cutTimes z_cutOff z_trace u.1 v_cars v_tunes v_along v_near v_borne v_tempo v_seed v_fault v_from v_at v_end v_told v_wrongAt v_culprit v_ran v_isKept u.2.1 u.2.2 f_shown) t.heap) (va_A (wX10_till cI cJ cS a_o a_held a_refused a_shown z_steps z_kind z_space z_other z_times z_speed z_base z_share z_notes z_pitch z_beats z_sort z_size z_cells z_carried z_words z_tell z_was z_kept z_cutSpace z_cutTimes z_cutOff z_trace v_stretches v_cars v_tunes v_along v_near v_borne v_tempo v_seed v_fault v_from v_at v_end v_told v_wrongAt v_culprit v_ran v_isKept f_held f_refused f_shown) sz)) 0 0 (va_A (wX10_till cI cJ cS a_o a_held a_refused a_shown z_steps z_kind z_space z_other z_times z_speed z_base z_share z_notes z_pitch z_beats z_sort z_size z_cells z_carried z_words z_tell z_was z_kept z_cutSpace z_cutTimes z_cutOff z_trace v_stretches v_cars v_tunes v_along v_near v_borne v_tempo v_seed v_fault v_from v_at v_end v_told v_wrongAt v_culprit v_ran v_isKept f_held f_refused f_shown) sz) := by
  refine Met.rw (Qc := fun A => (va_Qi (fun r (u : Int32 × (Nat → Int32) × (Nat → Int32)) => post r u.1 u.2.1 u.2.2) (fun u t => va_P D vwCl (wX10_till cI cJ cS a_o a_held a_refused a_shown z_steps z_kind z_space z_other z_times z_speed z_base z_share z_notes z_pitch z_beats z_sort z_size z_cells z_carried z_words z_tell z_was z_kept z_cutSpace z_cutTimes z_cutOff z_trace u.1 v_cars v_tunes v_along v_near v_borne v_tempo v_seed v_fault v_from v_at v_end v_told v_wrongAt v_culprit v_ran v_isKept u.2.1 u.2.2 f_shown) t.heap) A)) (by decide) (Nat.le_of_ble_eq_true rfl) (fun p e s m args below meth c ls A (S : CallFix p m c cX10_till 2 s args GW "RoadThatSingsModel") hE hT hP hD hA hS hr hlocks hname hl => ?_)
  have hS0 := hS
  have hx := S.1
  have hb := S.2.1
  have hl : lv_has ls 2 [(0, .ref a_o), (1, .int x1)] := hl
  unfold F_X10_till at h
  refine lv_iload_n hx hb dX10_till_0 rfl (lv_at hl 1 rfl) ?_
  refine lv_if_lt (tgt := 12) hx hb dX10_till_1 (by decide) (fun hc => ?_) (fun hc => ?_)
  · have h := h.1 hc
    refine lv_aload_n hx hb dX10_till_12 rfl (lv_at hl 0 rfl) ?_
    refine lv_bipush (v := (-6)) hx hb dX10_till_13 (by decide) ?_
    refine rw_i (rwV S hE hT hS hP hD hA (c_X10_no h) [0, 2] rfl (by decide +kernel) lkX10_121 rfl ⟨(Nat.le_of_ble_eq_true rfl), (Nat.le_of_ble_eq_true rfl)⟩ 0 rfl rfl hl.1 rfl (Nat.le_of_ble_eq_true rfl) dX10_till_15 ⟨(Nat.zero_le _), (Nat.zero_le _)⟩) hP hD hS hA [0, 2] rfl (by decide +kernel) (fun _ => rfl) (fun r15 w15_0 H locs h hP hD hS => ?_)
    try dsimp only at h
    have hP : va_P D vwCl (wX10_till cI cJ cS a_o a_held a_refused a_shown z_steps z_kind z_space z_other z_times z_speed z_base z_share z_notes z_pitch z_beats z_sort z_size z_cells z_carried z_words z_tell z_was z_kept z_cutSpace z_cutTimes z_cutOff z_trace v_stretches v_cars v_tunes v_along v_near v_borne v_tempo v_seed v_fault v_from v_at v_end v_told v_wrongAt v_culprit v_ran v_isKept f_held w15_0 f_shown) H := hP
    have hD : va_D A (wX10_till cI cJ cS a_o a_held a_refused a_shown z_steps z_kind z_space z_other z_times z_speed z_base z_share z_notes z_pitch z_beats z_sort z_size z_cells z_carried z_words z_tell z_was z_kept z_cutSpace z_cutTimes z_cutOff z_trace v_stretches v_cars v_tunes v_along v_near v_borne v_tempo v_seed v_fault v_from v_at v_end v_told v_wrongAt v_culprit v_ran v_isKept f_held w15_0 f_shown) := hD
    exact W.iret hx hb hr (fun t ht _ => ⟨⟨_, (v_stretches, f_held, w15_0), rfl, h, hPt hP ht⟩, hS.F ht⟩) hS.2.2 dX10_till_18
  have h := h.2 hc
  refine lv_iload_n hx hb dX10_till_4 rfl (lv_at hl 1 rfl) ?_
  refine lv_aload_n hx hb dX10_till_5 rfl (lv_at hl 0 rfl) ?_
  refine gf S hE hP 0 rfl rfl inX10 (k := 0) (by decide) q1093 rfl dX10_till_6 ?_
  refine lv_icmp_le (tgt := 19) hx hb dX10_till_9 (by decide) (fun hc => ?_) (fun hc => ?_)
  · have h := h.1 hc
    refine lv_aload_n hx hb dX10_till_19 rfl (lv_at hl 0 rfl) ?_
    refine lv_iload_n hx hb dX10_till_20 rfl (lv_at hl 1 rfl) ?_
    refine pf S hE hP hD hS 0 (k := 0) rfl rfl inX10 tyX10_ok nmX10 (by decide) q1093 rfl rfl rfl (Nat.le_of_ble_eq_true rfl) dX10_till_21 (fun H locs hP hD hS => ?_)
    have hP : va_P D vwCl (wX10_till cI cJ cS a_o a_held a_refused a_shown z_steps z_kind z_space z_other z_times z_speed z_base z_share z_notes z_pitch z_beats z_sort z_size z_cells z_carried z_words z_tell z_was z_kept z_cutSpace z_cutTimes z_cutOff z_trace x1 v_cars v_tunes v_along v_near v_borne v_tempo v_seed v_fault v_from v_at v_end v_told v_wrongAt v_culprit v_ran v_isKept f_held f_refused f_shown) H := hP
    have hD : va_D A (wX10_till cI cJ cS a_o a_held a_refused a_shown z_steps z_kind z_space z_other z_times z_speed z_base z_share z_notes z_pitch z_beats z_sort z_size z_cells z_carried z_words z_tell z_was z_kept z_cutSpace z_cutTimes z_cutOff z_trace x1 v_cars v_tunes v_along v_near v_borne v_tempo v_seed v_fault v_from v_at v_end v_told v_wrongAt v_culprit v_ran v_isKept f_held f_refused f_shown) := hD
    refine lv_aload_n hx hb dX10_till_24 rfl (lv_at hl 0 rfl) ?_
    refine rw_v (rwV S hE hT hS hP hD hA (c_X10_shows h) [0, 1, 3] rfl (by decide +kernel) lkX10_149 rfl ⟨(Nat.le_of_ble_eq_true rfl), (Nat.le_of_ble_eq_true rfl)⟩ 0 rfl rfl hl.1 rfl (Nat.le_of_ble_eq_true rfl) dX10_till_25 ⟨(Nat.zero_le _), (Nat.zero_le _)⟩) hP hD hS hA [0, 1, 3] rfl (by decide +kernel) (fun _ => rfl) (fun w25_0 H locs h hP hD hS => ?_)
    try dsimp only at h
    have hP : va_P D vwCl (wX10_till cI cJ cS a_o a_held a_refused a_shown z_steps z_kind z_space z_other z_times z_speed z_base z_share z_notes z_pitch z_beats z_sort z_size z_cells z_carried z_words z_tell z_was z_kept z_cutSpace z_cutTimes z_cutOff z_trace x1 v_cars v_tunes v_along v_near v_borne v_tempo v_seed v_fault v_from v_at v_end v_told v_wrongAt v_culprit v_ran v_isKept w25_0 f_refused f_shown) H := hP
    have hD : va_D A (wX10_till cI cJ cS a_o a_held a_refused a_shown z_steps z_kind z_space z_other z_times z_speed z_base z_share z_notes z_pitch z_beats z_sort z_size z_cells z_carried z_words z_tell z_was z_kept z_cutSpace z_cutTimes z_cutOff z_trace x1 v_cars v_tunes v_along v_near v_borne v_tempo v_seed v_fault v_from v_at v_end v_told v_wrongAt v_culprit v_ran v_isKept w25_0 f_refused f_shown) := hD
    refine lv_iload_n hx hb dX10_till_28 rfl (lv_at hl 1 rfl) ?_
    exact W.iret hx hb hr (fun t ht _ => ⟨⟨_, (x1, w25_0, f_refused), rfl, h, hPt hP ht⟩, hS.F ht⟩) hS.2.2 dX10_till_29
  have h := h.2 hc
  refine lv_aload_n hx hb dX10_till_12 rfl (lv_at hl 0 rfl) ?_
  refine lv_bipush (v := (-6)) hx hb dX10_till_13 (by decide) ?_
  refine rw_i (rwV S hE hT hS hP hD hA (c_X10_no h) [0, 2] rfl (by decide +kernel) lkX10_121 rfl ⟨(Nat.le_of_ble_eq_true rfl), (Nat.le_of_ble_eq_true rfl)⟩ 0 rfl rfl hl.1 rfl (Nat.le_of_ble_eq_true rfl) dX10_till_15 ⟨(Nat.zero_le _), (Nat.zero_le _)⟩) hP hD hS hA [0, 2] rfl (by decide +kernel) (fun _ => rfl) (fun r15 w15_0 H locs h hP hD hS => ?_)
  try dsimp only at h
  have hP : va_P D vwCl (wX10_till cI cJ cS a_o a_held a_refused a_shown z_steps z_kind z_space z_other z_times z_speed z_base z_share z_notes z_pitch z_beats z_sort z_size z_cells z_carried z_words z_tell z_was z_kept z_cutSpace z_cutTimes z_cutOff z_trace v_stretches v_cars v_tunes v_along v_near v_borne v_tempo v_seed v_fault v_from v_at v_end v_told v_wrongAt v_culprit v_ran v_isKept f_held w15_0 f_shown) H := hP
  have hD : va_D A (wX10_till cI cJ cS a_o a_held a_refused a_shown z_steps z_kind z_space z_other z_times z_speed z_base z_share z_notes z_pitch z_beats z_sort z_size z_cells z_carried z_words z_tell z_was z_kept z_cutSpace z_cutTimes z_cutOff z_trace v_stretches v_cars v_tunes v_along v_near v_borne v_tempo v_seed v_fault v_from v_at v_end v_told v_wrongAt v_culprit v_ran v_isKept f_held w15_0 f_shown) := hD
  exact W.iret hx hb hr (fun t ht _ => ⟨⟨_, (v_stretches, f_held, w15_0), rfl, h, hPt hP ht⟩, hS.F ht⟩) hS.2.2 dX10_till_18
/-! X10_stretchOf -/
abbrev wX10_stretchOf (cI cJ cS : ClassId) (a_o a_kind a_other a_refused a_space a_times : Nat) (z_steps z_speed z_base z_share z_notes z_pitch z_beats z_held z_sort z_size z_shown z_cells z_carried z_words z_tell z_was z_kept z_cutSpace z_cutTimes z_cutOff z_trace : Value) (v_stretches : Int32) (v_cars : Int32) (v_tunes : Int32) (v_along : Int32) (v_near : Int32) (v_borne : Int32) (v_tempo : Int32) (v_seed : Int32) (v_fault : Int32) (v_from : Int32) (v_at : Int32) (v_end : Int32) (v_told : Int32) (v_wrongAt : Int32) (v_culprit : Int32) (v_ran : Int32) (v_isKept : Int32) (f_kind : Nat → Int32) (f_other : Nat → Int32) (f_refused : Nat → Int32) (f_space : Nat → Int32) (f_times : Nat → Int32) : va_W := [(a_o, .inr (9, [.int v_stretches, .int v_cars, .int v_tunes, .int v_along, .int v_near, .int v_borne, .int v_tempo, .int v_seed, .int v_fault, .ref a_refused, z_steps, .ref a_kind, .ref a_space, .ref a_other, .ref a_times, z_speed, z_base, z_share, z_notes, z_pitch, z_beats, z_held, z_sort, z_size, z_shown, z_cells, z_carried, z_words, z_tell, .int v_from, .int v_at, .int v_end, .int v_told, .int v_wrongAt, z_was, z_kept, .int v_culprit, z_cutSpace, z_cutTimes, z_cutOff, z_trace, .int v_ran, .int v_isKept])), (a_kind, .inl (cI, 16, .inl f_kind)), (a_other, .inl (cI, 16, .inl f_other)), (a_refused, .inl (cI, 8, .inl f_refused)), (a_space, .inl (cI, 16, .inl f_space)), (a_times, .inl (cI, 16, .inl f_times))]
def F_X10_stretchOf (v_stretches : Int32) (f_kind : Nat → Int32) (f_other : Nat → Int32) (f_refused : Nat → Int32) (f_space : Nat → Int32) (f_times : Nat → Int32) (x1 : Int32) (x2 : Int32) (post : Int32 → (Nat → Int32) → Prop) : Prop := (F_X10_isStretch v_stretches x1 (fun r2 => ((r2 = 0 → (F_X10_no f_refused (-5) (fun r20 w20_0 => post r20 w20_0))) ∧ (¬ r2 = 0 → ((x2 < 0 → (F_X10_no f_refused (-5) (fun r20 w20_0 => post r20 w20_0))) ∧ (¬ x2 < 0 → ((x2 ≤ 4 → ((x2 = 0 → (vp_in x1 16 ∧ post (f_kind x1.toNatClampNeg) f_refused)) ∧ (¬ x2 = 0 → ((x2 = 1 → (vp_in x1 16 ∧ post (f_space x1.toNatClampNeg) f_refused)) ∧ (¬ x2 = 1 → ((x2 = 2 → (vp_in x1 16 ∧ post (f_other x1.toNatClampNeg) f_refused)) ∧ (¬ x2 = 2 → ((x2 = 3 → (vp_in x1 16 ∧ post (f_times x1.toNatClampNeg) f_refused)) ∧ (¬ x2 = 3 → (F_X10_lengthOf f_kind f_other f_space f_times x1 (fun r81 => post r81 f_refused))))))))))) ∧ (¬ x2 ≤ 4 → (F_X10_no f_refused (-5) (fun r20 w20_0 => post r20 w20_0))))))))))
set_option maxHeartbeats 4000000 in
set_option maxRecDepth 100000 in
theorem c_X10_stretchOf {l : Launch} {D : va_G} {cI cJ cS : ClassId} {ad adK : Nat → Nat} {a_o a_kind a_other a_refused a_space a_times : Nat} {z_steps z_speed z_base z_share z_notes z_pitch z_beats z_held z_sort z_size z_shown z_cells z_carried z_words z_tell z_was z_kept z_cutSpace z_cutTimes z_cutOff z_trace : Value} {v_stretches : Int32} {v_cars : Int32} {v_tunes : Int32} {v_along : Int32} {v_near : Int32} {v_borne : Int32} {v_tempo : Int32} {v_seed : Int32} {v_fault : Int32} {v_from : Int32} {v_at : Int32} {v_end : Int32} {v_told : Int32} {v_wrongAt : Int32} {v_culprit : Int32} {v_ran : Int32} {v_isKept : Int32} {f_kind : Nat → Int32} {f_other : Nat → Int32} {f_refused : Nat → Int32} {f_space : Nat → Int32} {f_times : Nat → Int32} {x1 : Int32} {x2 : Int32} {post : Int32 → (Nat → Int32) → Prop} (h : F_X10_stretchOf v_stretches f_kind f_other f_refused f_space f_times x1 x2 post) {sz : Nat} : Met l yX10_stretchOf (Cond.code yX10_stretchOf cX10_stretchOf 3 (some (.int)) :: GW) (rmd 2 0 0) (PW D cI cJ cS ad adK [.ref a_o, .int x1, .int x2] (wX10_stretchOf cI cJ cS a_o a_kind a_other a_refused a_space a_times z_steps z_speed z_base z_share z_notes z_pitch z_beats z_held z_sort z_size z_shown z_cells z_carried z_words z_tell z_was z_kept z_cutSpace z_cutTimes z_cutOff z_trace v_stretches v_cars v_tunes v_along v_near v_borne v_tempo v_seed v_fault v_from v_at v_end v_told v_wrongAt v_culprit v_ran v_isKept f_kind f_other f_refused f_space f_times) sz) (va_Qi (fun r (u : (Nat → Int32)) => post r u) (fun u t => va_P D vwCl (wX10_stretchOf cI cJ cS a_o a_kind a_other a_refused a_space a_times z_steps z_speed z_base z_share z_notes z_pitch z_beats z_held z_sort z_size z_shown z_cells z_carried z_words z_tell z_was z_kept z_cutSpace z_cutTimes z_cutOff z_trace v_stretches v_cars v_tunes v_along v_near v_borne v_tempo v_seed v_fault v_from v_at v_end v_told v_wrongAt v_culprit v_ran v_isKept f_kind f_other u f_space f_times) t.heap) (va_A (wX10_stretchOf cI cJ cS a_o a_kind a_other a_refused a_space a_times z_steps z_speed z_base z_share z_notes z_pitch z_beats z_held z_sort z_size z_shown z_cells z_carried z_words z_tell z_was z_kept z_cutSpace z_cutTimes z_cutOff z_trace v_stretches v_cars v_tunes v_along v_near v_borne v_tempo v_seed v_fault v_from v_at v_end v_told v_wrongAt v_culprit v_ran v_isKept f_kind f_other f_refused f_space f_times) sz)) 0 0 (va_A (wX10_stretchOf cI cJ cS a_o a_kind a_other a_refused a_space a_times z_steps z_speed z_base z_share z_notes z_pitch z_beats z_held z_sort z_size z_shown z_cells z_carried z_words z_tell z_was z_kept z_cutSpace z_cutTimes z_cutOff z_trace v_stretches v_cars v_tunes v_along v_near v_borne v_tempo v_seed v_fault v_from v_at v_end v_told v_wrongAt v_culprit v_ran v_isKept f_kind f_other f_refused f_space f_times) sz) := by
  refine Met.rw (Qc := fun A => (va_Qi (fun r (u : (Nat → Int32)) => post r u) (fun u t => va_P D vwCl (wX10_stretchOf cI cJ cS a_o a_kind a_other a_refused a_space a_times z_steps z_speed z_base z_share z_notes z_pitch z_beats z_held z_sort z_size z_shown z_cells z_carried z_words z_tell z_was z_kept z_cutSpace z_cutTimes z_cutOff z_trace v_stretches v_cars v_tunes v_along v_near v_borne v_tempo v_seed v_fault v_from v_at v_end v_told v_wrongAt v_culprit v_ran v_isKept f_kind f_other u f_space f_times) t.heap) A)) (by decide) (Nat.le_of_ble_eq_true rfl) (fun p e s m args below meth c ls A (S : CallFix p m c cX10_stretchOf 3 s args GW "RoadThatSingsModel") hE hT hP hD hA hS hr hlocks hname hl => ?_)
  have hS0 := hS
  have hx := S.1
  have hb := S.2.1
  have hl : lv_has ls 3 [(0, .ref a_o), (1, .int x1), (2, .int x2)] := hl
  unfold F_X10_stretchOf at h
  refine lv_aload_n hx hb dX10_stretchOf_0 rfl (lv_at hl 0 rfl) ?_
  refine lv_iload_n hx hb dX10_stretchOf_1 rfl (lv_at hl 1 rfl) ?_
  refine ro_i (roV S hE hT hS (c_X10_isStretch h) lkX10_125 rfl ⟨(Nat.le_of_ble_eq_true rfl), (Nat.le_of_ble_eq_true rfl)⟩ (hP.sub [0] rfl) 0 rfl rfl hl.1 rfl (Nat.le_of_ble_eq_true rfl) dX10_stretchOf_2 ⟨(Nat.zero_le _), (Nat.zero_le _)⟩) (fun r2 h => ?_)
  refine lv_if_eq (tgt := 17) hx hb dX10_stretchOf_5 (by decide) (fun hc => ?_) (fun hc => ?_)
  · have h := h.1 hc
    refine lv_aload_n hx hb dX10_stretchOf_17 rfl (lv_at hl 0 rfl) ?_
    refine lv_bipush (v := (-5)) hx hb dX10_stretchOf_18 (by decide) ?_
    refine rw_i (rwV S hE hT hS hP hD hA (c_X10_no h) [0, 3] rfl (by decide +kernel) lkX10_121 rfl ⟨(Nat.le_of_ble_eq_true rfl), (Nat.le_of_ble_eq_true rfl)⟩ 0 rfl rfl hl.1 rfl (Nat.le_of_ble_eq_true rfl) dX10_stretchOf_20 ⟨(Nat.zero_le _), (Nat.zero_le _)⟩) hP hD hS hA [0, 3] rfl (by decide +kernel) (fun _ => rfl) (fun r20 w20_0 H locs h hP hD hS => ?_)
    try dsimp only at h
    have hP : va_P D vwCl (wX10_stretchOf cI cJ cS a_o a_kind a_other a_refused a_space a_times z_steps z_speed z_base z_share z_notes z_pitch z_beats z_held z_sort z_size z_shown z_cells z_carried z_words z_tell z_was z_kept z_cutSpace z_cutTimes z_cutOff z_trace v_stretches v_cars v_tunes v_along v_near v_borne v_tempo v_seed v_fault v_from v_at v_end v_told v_wrongAt v_culprit v_ran v_isKept f_kind f_other w20_0 f_space f_times) H := hP
    have hD : va_D A (wX10_stretchOf cI cJ cS a_o a_kind a_other a_refused a_space a_times z_steps z_speed z_base z_share z_notes z_pitch z_beats z_held z_sort z_size z_shown z_cells z_carried z_words z_tell z_was z_kept z_cutSpace z_cutTimes z_cutOff z_trace v_stretches v_cars v_tunes v_along v_near v_borne v_tempo v_seed v_fault v_from v_at v_end v_told v_wrongAt v_culprit v_ran v_isKept f_kind f_other w20_0 f_space f_times) := hD
    exact W.iret hx hb hr (fun t ht _ => ⟨⟨_, w20_0, rfl, h, hPt hP ht⟩, hS.F ht⟩) hS.2.2 dX10_stretchOf_23
  have h := h.2 hc
  refine lv_iload_n hx hb dX10_stretchOf_8 rfl (lv_at hl 2 rfl) ?_
  refine lv_if_lt (tgt := 17) hx hb dX10_stretchOf_9 (by decide) (fun hc => ?_) (fun hc => ?_)
  · have h := h.1 hc
    refine lv_aload_n hx hb dX10_stretchOf_17 rfl (lv_at hl 0 rfl) ?_
    refine lv_bipush (v := (-5)) hx hb dX10_stretchOf_18 (by decide) ?_
    refine rw_i (rwV S hE hT hS hP hD hA (c_X10_no h) [0, 3] rfl (by decide +kernel) lkX10_121 rfl ⟨(Nat.le_of_ble_eq_true rfl), (Nat.le_of_ble_eq_true rfl)⟩ 0 rfl rfl hl.1 rfl (Nat.le_of_ble_eq_true rfl) dX10_stretchOf_20 ⟨(Nat.zero_le _), (Nat.zero_le _)⟩) hP hD hS hA [0, 3] rfl (by decide +kernel) (fun _ => rfl) (fun r20 w20_0 H locs h hP hD hS => ?_)
    try dsimp only at h
    have hP : va_P D vwCl (wX10_stretchOf cI cJ cS a_o a_kind a_other a_refused a_space a_times z_steps z_speed z_base z_share z_notes z_pitch z_beats z_held z_sort z_size z_shown z_cells z_carried z_words z_tell z_was z_kept z_cutSpace z_cutTimes z_cutOff z_trace v_stretches v_cars v_tunes v_along v_near v_borne v_tempo v_seed v_fault v_from v_at v_end v_told v_wrongAt v_culprit v_ran v_isKept f_kind f_other w20_0 f_space f_times) H := hP
    have hD : va_D A (wX10_stretchOf cI cJ cS a_o a_kind a_other a_refused a_space a_times z_steps z_speed z_base z_share z_notes z_pitch z_beats z_held z_sort z_size z_shown z_cells z_carried z_words z_tell z_was z_kept z_cutSpace z_cutTimes z_cutOff z_trace v_stretches v_cars v_tunes v_along v_near v_borne v_tempo v_seed v_fault v_from v_at v_end v_told v_wrongAt v_culprit v_ran v_isKept f_kind f_other w20_0 f_space f_times) := hD
    exact W.iret hx hb hr (fun t ht _ => ⟨⟨_, w20_0, rfl, h, hPt hP ht⟩, hS.F ht⟩) hS.2.2 dX10_stretchOf_23
  have h := h.2 hc
  refine lv_iload_n hx hb dX10_stretchOf_12 rfl (lv_at hl 2 rfl) ?_
  refine lv_iconst (v := 4) hx hb dX10_stretchOf_13 (by decide) ?_
  refine lv_icmp_le (tgt := 24) hx hb dX10_stretchOf_14 (by decide) (fun hc => ?_) (fun hc => ?_)
  · have h := h.1 hc
    refine lv_iload_n hx hb dX10_stretchOf_24 rfl (lv_at hl 2 rfl) ?_
    refine lv_if_ne (tgt := 37) hx hb dX10_stretchOf_25 (by decide) (fun hc => ?_) (fun hc => ?_)
    · have h := h.2 hc
      refine lv_iload_n hx hb dX10_stretchOf_37 rfl (lv_at hl 2 rfl) ?_
      refine lv_iconst (v := 1) hx hb dX10_stretchOf_38 (by decide) ?_
      refine lv_icmp_ne (tgt := 51) hx hb dX10_stretchOf_39 (by decide) (fun hc => ?_) (fun hc => ?_)
      · have h := h.2 hc
        refine lv_iload_n hx hb dX10_stretchOf_51 rfl (lv_at hl 2 rfl) ?_
        refine lv_iconst (v := 2) hx hb dX10_stretchOf_52 (by decide) ?_
        refine lv_icmp_ne (tgt := 65) hx hb dX10_stretchOf_53 (by decide) (fun hc => ?_) (fun hc => ?_)
        · have h := h.2 hc
          refine lv_iload_n hx hb dX10_stretchOf_65 rfl (lv_at hl 2 rfl) ?_
          refine lv_iconst (v := 3) hx hb dX10_stretchOf_66 (by decide) ?_
          refine lv_icmp_ne (tgt := 79) hx hb dX10_stretchOf_67 (by decide) (fun hc => ?_) (fun hc => ?_)
          · have h := h.2 hc
            refine lv_aload_n hx hb dX10_stretchOf_79 rfl (lv_at hl 0 rfl) ?_
            refine lv_iload_n hx hb dX10_stretchOf_80 rfl (lv_at hl 1 rfl) ?_
            refine ro_i (roV S hE hT hS (c_X10_lengthOf h) lkX10_131 rfl ⟨(Nat.le_of_ble_eq_true rfl), (Nat.le_of_ble_eq_true rfl)⟩ (hP.sub [0, 1, 2, 4, 5] rfl) 0 rfl rfl hl.1 rfl (Nat.le_of_ble_eq_true rfl) dX10_stretchOf_81 ⟨(Nat.zero_le _), (Nat.zero_le _)⟩) (fun r81 h => ?_)
            exact W.iret hx hb hr (fun t ht _ => ⟨⟨_, f_refused, rfl, h, hPt hP ht⟩, hS.F ht⟩) hS.2.2 dX10_stretchOf_84
          have h := h.1 hc
          refine lv_aload_n hx hb dX10_stretchOf_70 rfl (lv_at hl 0 rfl) ?_
          refine gf S hE hP 0 rfl rfl inX10 (k := 14) (by decide) q1107 rfl dX10_stretchOf_71 ?_
          refine lv_iload_n hx hb dX10_stretchOf_74 rfl (lv_at hl 1 rfl) ?_
          obtain ⟨hi, h⟩ := h
          refine ial S hE hP 5 rfl hi dX10_stretchOf_75 ?_
          refine lv_goto (tgt := 84) hx hb dX10_stretchOf_76 (by decide) ?_
          exact W.iret hx hb hr (fun t ht _ => ⟨⟨_, f_refused, rfl, h, hPt hP ht⟩, hS.F ht⟩) hS.2.2 dX10_stretchOf_84
        have h := h.1 hc
        refine lv_aload_n hx hb dX10_stretchOf_56 rfl (lv_at hl 0 rfl) ?_
        refine gf S hE hP 0 rfl rfl inX10 (k := 13) (by decide) q1106 rfl dX10_stretchOf_57 ?_
        refine lv_iload_n hx hb dX10_stretchOf_60 rfl (lv_at hl 1 rfl) ?_
        obtain ⟨hi, h⟩ := h
        refine ial S hE hP 2 rfl hi dX10_stretchOf_61 ?_
        refine lv_goto (tgt := 84) hx hb dX10_stretchOf_62 (by decide) ?_
        exact W.iret hx hb hr (fun t ht _ => ⟨⟨_, f_refused, rfl, h, hPt hP ht⟩, hS.F ht⟩) hS.2.2 dX10_stretchOf_84
      have h := h.1 hc
      refine lv_aload_n hx hb dX10_stretchOf_42 rfl (lv_at hl 0 rfl) ?_
      refine gf S hE hP 0 rfl rfl inX10 (k := 12) (by decide) q1105 rfl dX10_stretchOf_43 ?_
      refine lv_iload_n hx hb dX10_stretchOf_46 rfl (lv_at hl 1 rfl) ?_
      obtain ⟨hi, h⟩ := h
      refine ial S hE hP 4 rfl hi dX10_stretchOf_47 ?_
      refine lv_goto (tgt := 84) hx hb dX10_stretchOf_48 (by decide) ?_
      exact W.iret hx hb hr (fun t ht _ => ⟨⟨_, f_refused, rfl, h, hPt hP ht⟩, hS.F ht⟩) hS.2.2 dX10_stretchOf_84
    have h := h.1 hc
    refine lv_aload_n hx hb dX10_stretchOf_28 rfl (lv_at hl 0 rfl) ?_
    refine gf S hE hP 0 rfl rfl inX10 (k := 11) (by decide) q1104 rfl dX10_stretchOf_29 ?_
    refine lv_iload_n hx hb dX10_stretchOf_32 rfl (lv_at hl 1 rfl) ?_
    obtain ⟨hi, h⟩ := h
    refine ial S hE hP 1 rfl hi dX10_stretchOf_33 ?_
    refine lv_goto (tgt := 84) hx hb dX10_stretchOf_34 (by decide) ?_
    exact W.iret hx hb hr (fun t ht _ => ⟨⟨_, f_refused, rfl, h, hPt hP ht⟩, hS.F ht⟩) hS.2.2 dX10_stretchOf_84
  have h := h.2 hc
  refine lv_aload_n hx hb dX10_stretchOf_17 rfl (lv_at hl 0 rfl) ?_
  refine lv_bipush (v := (-5)) hx hb dX10_stretchOf_18 (by decide) ?_
  refine rw_i (rwV S hE hT hS hP hD hA (c_X10_no h) [0, 3] rfl (by decide +kernel) lkX10_121 rfl ⟨(Nat.le_of_ble_eq_true rfl), (Nat.le_of_ble_eq_true rfl)⟩ 0 rfl rfl hl.1 rfl (Nat.le_of_ble_eq_true rfl) dX10_stretchOf_20 ⟨(Nat.zero_le _), (Nat.zero_le _)⟩) hP hD hS hA [0, 3] rfl (by decide +kernel) (fun _ => rfl) (fun r20 w20_0 H locs h hP hD hS => ?_)
  try dsimp only at h
  have hP : va_P D vwCl (wX10_stretchOf cI cJ cS a_o a_kind a_other a_refused a_space a_times z_steps z_speed z_base z_share z_notes z_pitch z_beats z_held z_sort z_size z_shown z_cells z_carried z_words z_tell z_was z_kept z_cutSpace z_cutTimes z_cutOff z_trace v_stretches v_cars v_tunes v_along v_near v_borne v_tempo v_seed v_fault v_from v_at v_end v_told v_wrongAt v_culprit v_ran v_isKept f_kind f_other w20_0 f_space f_times) H := hP
  have hD : va_D A (wX10_stretchOf cI cJ cS a_o a_kind a_other a_refused a_space a_times z_steps z_speed z_base z_share z_notes z_pitch z_beats z_held z_sort z_size z_shown z_cells z_carried z_words z_tell z_was z_kept z_cutSpace z_cutTimes z_cutOff z_trace v_stretches v_cars v_tunes v_along v_near v_borne v_tempo v_seed v_fault v_from v_at v_end v_told v_wrongAt v_culprit v_ran v_isKept f_kind f_other w20_0 f_space f_times) := hD
  exact W.iret hx hb hr (fun t ht _ => ⟨⟨_, w20_0, rfl, h, hPt hP ht⟩, hS.F ht⟩) hS.2.2 dX10_stretchOf_23
/-! X10_shares -/
abbrev wX10_shares (cI cJ cS : ClassId) (a_o a_share : Nat) (z_refused z_steps z_kind z_space z_other z_times z_speed z_base z_notes z_pitch z_beats z_held z_sort z_size z_shown z_cells z_carried z_words z_tell z_was z_kept z_cutSpace z_cutTimes z_cutOff z_trace : Value) (v_stretches : Int32) (v_cars : Int32) (v_tunes : Int32) (v_along : Int32) (v_near : Int32) (v_borne : Int32) (v_tempo : Int32) (v_seed : Int32) (v_fault : Int32) (v_from : Int32) (v_at : Int32) (v_end : Int32) (v_told : Int32) (v_wrongAt : Int32) (v_culprit : Int32) (v_ran : Int32) (v_isKept : Int32) (f_share : Nat → Int32) : va_W := [(a_o, .inr (9, [.int v_stretches, .int v_cars, .int v_tunes, .int v_along, .int v_near, .int v_borne, .int v_tempo, .int v_seed, .int v_fault, z_refused, z_steps, z_kind, z_space, z_other, z_times, z_speed, z_base, .ref a_share, z_notes, z_pitch, z_beats, z_held, z_sort, z_size, z_shown, z_cells, z_carried, z_words, z_tell, .int v_from, .int v_at, .int v_end, .int v_told, .int v_wrongAt, z_was, z_kept, .int v_culprit, z_cutSpace, z_cutTimes, z_cutOff, z_trace, .int v_ran, .int v_isKept])), (a_share, .inl (cI, 6, .inl f_share))]
def L_X10_shares_4 (v_cars : Int32) (f_share : Nat → Int32) (post : Int32 → Prop) : Nat → Int32 → Int32 → Prop
  | 0, _, _ => False
  | n4 + 1, x1, x2 => ((v_cars ≤ x2 → post x1) ∧ (¬ v_cars ≤ x2 → (vp_in x2 6 ∧ (∀ x1_20 : Int32, x1_20 = x1 + (f_share x2.toNatClampNeg) → (∀ x2_21 : Int32, x2_21 = x2 + 1 → L_X10_shares_4 v_cars f_share post n4 x1_20 x2_21)))))
def F_X10_shares (v_cars : Int32) (f_share : Nat → Int32) (post : Int32 → Prop) : Prop := (∃ n4 : Nat, L_X10_shares_4 v_cars f_share post n4 0 0)
set_option maxHeartbeats 4000000 in
set_option maxRecDepth 100000 in
theorem w_X10_shares_4 {l : Launch} {D : va_G} {cI cJ cS : ClassId} {ad adK : Nat → Nat} {a_o a_share : Nat} {z_refused z_steps z_kind z_space z_other z_times z_speed z_base z_notes z_pitch z_beats z_held z_sort z_size z_shown z_cells z_carried z_words z_tell z_was z_kept z_cutSpace z_cutTimes z_cutOff z_trace : Value} {v_stretches : Int32} {v_cars : Int32} {v_tunes : Int32} {v_along : Int32} {v_near : Int32} {v_borne : Int32} {v_tempo : Int32} {v_seed : Int32} {v_fault : Int32} {v_from : Int32} {v_at : Int32} {v_end : Int32} {v_told : Int32} {v_wrongAt : Int32} {v_culprit : Int32} {v_ran : Int32} {v_isKept : Int32} {f_share : Nat → Int32} {post : Int32 → Prop} {p : Program} {e : Env} {s : State} {m : MethodId} {args : Array Value} {below : List Frame} {meth : Method} {c : Code} (S : CallFix p m c cX10_shares 3 s args GW "RoadThatSingsModel") (hE : EN D cI cJ cS s) (hT : ST ad adK nof s s.heap) (hP : va_P D vwCl (wX10_shares cI cJ cS a_o a_share z_refused z_steps z_kind z_space z_other z_times z_speed z_base z_notes z_pitch z_beats z_held z_sort z_size z_shown z_cells z_carried z_words z_tell z_was z_kept z_cutSpace z_cutTimes z_cutOff z_trace v_stretches v_cars v_tunes v_along v_near v_borne v_tempo v_seed v_fault v_from v_at v_end v_told v_wrongAt v_culprit v_ran v_isKept f_share) s.heap) (hS : va_S nof s.heap s.heap []) (hr : meth.sig.returnType = (some (.int))) (hlocks : meth.locks = false) : ∀ n : Nat, ∀ (x1 : Int32) (x2 : Int32) (ls : Array Slot), L_X10_shares_4 v_cars f_share post n x1 x2 → lv_has ls 3 [(0, .ref a_o), (1, .int x1), (2, .int x2)] → W p l e (rmd 0 0 0) s m args below meth c s.heap [] 0 0 (MQ below (vp_Si post) args s 0 0 nof) (F0 m 4 ls []) := by
  intro n
  induction n with
  | zero =>
    intro x1 x2 ls h hl
    exact h.elim
  | succ n ih =>
    intro x1 x2 ls h hl
    rw [L_X10_shares_4] at h
    have hx := S.1
    have hb := S.2.1
    refine lv_iload_n hx hb dX10_shares_4 rfl (lv_at hl 2 rfl) ?_
    refine lv_aload_n hx hb dX10_shares_5 rfl (lv_at hl 0 rfl) ?_
    refine gf S hE hP 0 rfl rfl inX10 (k := 1) (by decide) q1094 rfl dX10_shares_6 ?_
    refine lv_icmp_ge (tgt := 27) hx hb dX10_shares_9 (by decide) (fun hc => ?_) (fun hc => ?_)
    · have h := h.1 hc
      refine lv_iload_n hx hb dX10_shares_27 rfl (lv_at hl 1 rfl) ?_
      exact W.iret hx hb hr (fun t ht _ => ⟨_, rfl, h, ht⟩) (fun _ hq => by cases hq) dX10_shares_28
    have h := h.2 hc
    refine lv_iload_n hx hb dX10_shares_12 rfl (lv_at hl 1 rfl) ?_
    refine lv_aload_n hx hb dX10_shares_13 rfl (lv_at hl 0 rfl) ?_
    refine gf S hE hP 0 rfl rfl inX10 (k := 17) (by decide) q1110 rfl dX10_shares_14 ?_
    refine lv_iload_n hx hb dX10_shares_17 rfl (lv_at hl 2 rfl) ?_
    obtain ⟨hi, h⟩ := h
    refine ial S hE hP 1 rfl hi dX10_shares_18 ?_
    refine lv_iadd hx hb dX10_shares_19 ?_
    refine lv_topi (fun x1_20 ex1_20 => ?_)
    have h := h _ ex1_20
    refine lv_istore_n (lv' := [(1, .int x1_20), (0, .ref a_o), (2, .int x2)]) hx hb dX10_shares_20 rfl hl (by decide) rfl (fun ls hl => ?_)
    obtain ⟨x2_21, ex2_21⟩ : ∃ z : Int32, z = x2 + 1 := ⟨_, rfl⟩
    have h := h _ ex2_21
    refine lv_iinc (v := x2_21) (lv' := [(2, .int x2_21), (1, .int x1_20), (0, .ref a_o)]) hx hb dX10_shares_21 hl (k := 2) rfl (by rw [ex2_21]; rfl) (by decide) rfl (fun ls hl => ?_)
    refine lv_goto (tgt := 4) hx hb dX10_shares_24 (by decide) ?_
    exact ih _ _ _ h (lv_sub hl [2, 1, 0] rfl)
set_option maxHeartbeats 4000000 in
set_option maxRecDepth 100000 in
theorem c_X10_shares {l : Launch} {D : va_G} {cI cJ cS : ClassId} {ad adK : Nat → Nat} {a_o a_share : Nat} {z_refused z_steps z_kind z_space z_other z_times z_speed z_base z_notes z_pitch z_beats z_held z_sort z_size z_shown z_cells z_carried z_words z_tell z_was z_kept z_cutSpace z_cutTimes z_cutOff z_trace : Value} {v_stretches : Int32} {v_cars : Int32} {v_tunes : Int32} {v_along : Int32} {v_near : Int32} {v_borne : Int32} {v_tempo : Int32} {v_seed : Int32} {v_fault : Int32} {v_from : Int32} {v_at : Int32} {v_end : Int32} {v_told : Int32} {v_wrongAt : Int32} {v_culprit : Int32} {v_ran : Int32} {v_isKept : Int32} {f_share : Nat → Int32} {post : Int32 → Prop} (h : F_X10_shares v_cars f_share post) : Met l yX10_shares (Cond.code yX10_shares cX10_shares 3 (some (.int)) :: GW) (rmd 0 0 0) (PR D cI cJ cS ad adK [.ref a_o] (wX10_shares cI cJ cS a_o a_share z_refused z_steps z_kind z_space z_other z_times z_speed z_base z_notes z_pitch z_beats z_held z_sort z_size z_shown z_cells z_carried z_words z_tell z_was z_kept z_cutSpace z_cutTimes z_cutOff z_trace v_stretches v_cars v_tunes v_along v_near v_borne v_tempo v_seed v_fault v_from v_at v_end v_told v_wrongAt v_culprit v_ran v_isKept f_share)) (vp_Si post) 0 0 nof := by
  refine Met.ro (by decide) (Nat.le_of_ble_eq_true rfl) (fun p e s m args below meth c ls (S : CallFix p m c cX10_shares 3 s args GW "RoadThatSingsModel") hE hT hP hS hr hlocks hl => ?_)
  have hx := S.1
  have hb := S.2.1
  have hl : lv_has ls 3 [(0, .ref a_o)] := hl
  unfold F_X10_shares at h
  refine lv_iconst (v := 0) hx hb dX10_shares_0 (by decide) ?_
  refine lv_istore_n (lv' := [(1, .int 0), (0, .ref a_o)]) hx hb dX10_shares_1 rfl hl (by decide) rfl (fun ls hl => ?_)
  refine lv_iconst (v := 0) hx hb dX10_shares_2 (by decide) ?_
  refine lv_istore_n (lv' := [(2, .int 0), (1, .int 0), (0, .ref a_o)]) hx hb dX10_shares_3 rfl hl (by decide) rfl (fun ls hl => ?_)
  obtain ⟨n, h⟩ := h
  refine w_X10_shares_4 S hE hT hP hS hr hlocks n _ _ _ h (lv_sub hl [2, 1, 0] rfl)
/-! X10_cars -/
abbrev wX10_cars (cI cJ cS : ClassId) (a_o a_base a_share a_speed : Nat) (z_refused z_steps z_kind z_space z_other z_times z_notes z_pitch z_beats z_held z_sort z_size z_shown z_cells z_carried z_words z_tell z_was z_kept z_cutSpace z_cutTimes z_cutOff z_trace : Value) (v_stretches : Int32) (v_cars : Int32) (v_tunes : Int32) (v_along : Int32) (v_near : Int32) (v_borne : Int32) (v_tempo : Int32) (v_seed : Int32) (v_fault : Int32) (v_from : Int32) (v_at : Int32) (v_end : Int32) (v_told : Int32) (v_wrongAt : Int32) (v_culprit : Int32) (v_ran : Int32) (v_isKept : Int32) (f_base : Nat → Int32) (f_share : Nat → Int32) (f_speed : Nat → Int32) : va_W := [(a_o, .inr (9, [.int v_stretches, .int v_cars, .int v_tunes, .int v_along, .int v_near, .int v_borne, .int v_tempo, .int v_seed, .int v_fault, z_refused, z_steps, z_kind, z_space, z_other, z_times, .ref a_speed, .ref a_base, .ref a_share, z_notes, z_pitch, z_beats, z_held, z_sort, z_size, z_shown, z_cells, z_carried, z_words, z_tell, .int v_from, .int v_at, .int v_end, .int v_told, .int v_wrongAt, z_was, z_kept, .int v_culprit, z_cutSpace, z_cutTimes, z_cutOff, z_trace, .int v_ran, .int v_isKept])), (a_base, .inl (cI, 6, .inl f_base)), (a_share, .inl (cI, 6, .inl f_share)), (a_speed, .inl (cI, 6, .inl f_speed))]
def F_X10_cars (v_cars : Int32) (f_base : Nat → Int32) (f_share : Nat → Int32) (f_speed : Nat → Int32) (x1 : Int32) (x2 : Int32) (x3 : Int32) (post : Int32 → Int32 → (Nat → Int32) → (Nat → Int32) → (Nat → Int32) → Prop) : Prop := (vp_in v_cars 6 ∧ (vp_in v_cars 6 ∧ (vp_in v_cars 6 ∧ post v_cars (v_cars + 1) (upd f_base v_cars.toNatClampNeg x2) (upd f_share v_cars.toNatClampNeg x3) (upd f_speed v_cars.toNatClampNeg x1))))
set_option maxHeartbeats 4000000 in
set_option maxRecDepth 100000 in
theorem c_X10_cars {l : Launch} {D : va_G} {cI cJ cS : ClassId} {ad adK : Nat → Nat} {a_o a_base a_share a_speed : Nat} {z_refused z_steps z_kind z_space z_other z_times z_notes z_pitch z_beats z_held z_sort z_size z_shown z_cells z_carried z_words z_tell z_was z_kept z_cutSpace z_cutTimes z_cutOff z_trace : Value} {v_stretches : Int32} {v_cars : Int32} {v_tunes : Int32} {v_along : Int32} {v_near : Int32} {v_borne : Int32} {v_tempo : Int32} {v_seed : Int32} {v_fault : Int32} {v_from : Int32} {v_at : Int32} {v_end : Int32} {v_told : Int32} {v_wrongAt : Int32} {v_culprit : Int32} {v_ran : Int32} {v_isKept : Int32} {f_base : Nat → Int32} {f_share : Nat → Int32} {f_speed : Nat → Int32} {x1 : Int32} {x2 : Int32} {x3 : Int32} {post : Int32 → Int32 → (Nat → Int32) → (Nat → Int32) → (Nat → Int32) → Prop} (h : F_X10_cars v_cars f_base f_share f_speed x1 x2 x3 post) {sz : Nat} : Met l yX10_cars (Cond.code yX10_cars cX10_cars 4 (some (.int)) :: GW) (rmd 0 0 0) (PW D cI cJ cS ad adK [.ref a_o, .int x1, .int x2, .int x3] (wX10_cars cI cJ cS a_o a_base a_share a_speed z_refused z_steps z_kind z_space z_other z_times z_notes z_pitch z_beats z_held z_sort z_size z_shown z_cells z_carried z_words z_tell z_was z_kept z_cutSpace z_cutTimes z_cutOff z_trace v_stretches v_cars v_tunes v_along v_near v_borne v_tempo v_seed v_fault v_from v_at v_end v_told v_wrongAt v_culprit v_ran v_isKept f_base f_share f_speed) sz) (va_Qi (fun r (u : Int32 × (Nat → Int32) × (Nat → Int32) × (Nat → Int32)) => post r u.1 u.2.1 u.2.2.1 u.2.2.2) (fun u t => va_P D vwCl (wX10_cars cI cJ cS a_o a_base a_share a_speed z_refused z_steps z_kind z_space z_other z_times z_notes z_pitch z_beats z_held z_sort z_size z_shown z_cells z_carried z_words z_tell z_was z_kept z_cutSpace z_cutTimes z_cutOff z_trace v_stretches u.1 v_tunes v_along v_near v_borne v_tempo v_seed v_fault v_from v_at v_end v_told v_wrongAt v_culprit v_ran v_isKept u.2.1 u.2.2.1 u.2.2.2) t.heap) (va_A (wX10_cars cI cJ cS a_o a_base a_share a_speed z_refused z_steps z_kind z_space z_other z_times z_notes z_pitch z_beats z_held z_sort z_size z_shown z_cells z_carried z_words z_tell z_was z_kept z_cutSpace z_cutTimes z_cutOff z_trace v_stretches v_cars v_tunes v_along v_near v_borne v_tempo v_seed v_fault v_from v_at v_end v_told v_wrongAt v_culprit v_ran v_isKept f_base f_share f_speed) sz)) 0 0 (va_A (wX10_cars cI cJ cS a_o a_base a_share a_speed z_refused z_steps z_kind z_space z_other z_times z_notes z_pitch z_beats z_held z_sort z_size z_shown z_cells z_carried z_words z_tell z_was z_kept z_cutSpace z_cutTimes z_cutOff z_trace v_stretches v_cars v_tunes v_along v_near v_borne v_tempo v_seed v_fault v_from v_at v_end v_told v_wrongAt v_culprit v_ran v_isKept f_base f_share f_speed) sz) := by
  refine Met.rw (Qc := fun A => (va_Qi (fun r (u : Int32 × (Nat → Int32) × (Nat → Int32) × (Nat → Int32)) => post r u.1 u.2.1 u.2.2.1 u.2.2.2) (fun u t => va_P D vwCl (wX10_cars cI cJ cS a_o a_base a_share a_speed z_refused z_steps z_kind z_space z_other z_times z_notes z_pitch z_beats z_held z_sort z_size z_shown z_cells z_carried z_words z_tell z_was z_kept z_cutSpace z_cutTimes z_cutOff z_trace v_stretches u.1 v_tunes v_along v_near v_borne v_tempo v_seed v_fault v_from v_at v_end v_told v_wrongAt v_culprit v_ran v_isKept u.2.1 u.2.2.1 u.2.2.2) t.heap) A)) (by decide) (Nat.le_of_ble_eq_true rfl) (fun p e s m args below meth c ls A (S : CallFix p m c cX10_cars 4 s args GW "RoadThatSingsModel") hE hT hP hD hA hS hr hlocks hname hl => ?_)
  have hS0 := hS
  have hx := S.1
  have hb := S.2.1
  have hl : lv_has ls 4 [(0, .ref a_o), (1, .int x1), (2, .int x2), (3, .int x3)] := hl
  unfold F_X10_cars at h
  refine lv_aload_n hx hb dX10_cars_0 rfl (lv_at hl 0 rfl) ?_
  refine gf S hE hP 0 rfl rfl inX10 (k := 15) (by decide) q1108 rfl dX10_cars_1 ?_
  refine lv_aload_n hx hb dX10_cars_4 rfl (lv_at hl 0 rfl) ?_
  refine gf S hE hP 0 rfl rfl inX10 (k := 1) (by decide) q1094 rfl dX10_cars_5 ?_
  refine lv_iload_n hx hb dX10_cars_8 rfl (lv_at hl 1 rfl) ?_
  obtain ⟨hi, h⟩ := h
  refine ias S hE hP hD hS 3 rfl hi dX10_cars_9 (fun H locs hP hD hS => ?_)
  have hP : va_P D vwCl (wX10_cars cI cJ cS a_o a_base a_share a_speed z_refused z_steps z_kind z_space z_other z_times z_notes z_pitch z_beats z_held z_sort z_size z_shown z_cells z_carried z_words z_tell z_was z_kept z_cutSpace z_cutTimes z_cutOff z_trace v_stretches v_cars v_tunes v_along v_near v_borne v_tempo v_seed v_fault v_from v_at v_end v_told v_wrongAt v_culprit v_ran v_isKept f_base f_share (upd f_speed v_cars.toNatClampNeg x1)) H := hP
  have hD : va_D A (wX10_cars cI cJ cS a_o a_base a_share a_speed z_refused z_steps z_kind z_space z_other z_times z_notes z_pitch z_beats z_held z_sort z_size z_shown z_cells z_carried z_words z_tell z_was z_kept z_cutSpace z_cutTimes z_cutOff z_trace v_stretches v_cars v_tunes v_along v_near v_borne v_tempo v_seed v_fault v_from v_at v_end v_told v_wrongAt v_culprit v_ran v_isKept f_base f_share (upd f_speed v_cars.toNatClampNeg x1)) := hD
  refine lv_aload_n hx hb dX10_cars_10 rfl (lv_at hl 0 rfl) ?_
  refine gf S hE hP 0 rfl rfl inX10 (k := 16) (by decide) q1109 rfl dX10_cars_11 ?_
  refine lv_aload_n hx hb dX10_cars_14 rfl (lv_at hl 0 rfl) ?_
  refine gf S hE hP 0 rfl rfl inX10 (k := 1) (by decide) q1094 rfl dX10_cars_15 ?_
  refine lv_iload_n hx hb dX10_cars_18 rfl (lv_at hl 2 rfl) ?_
  obtain ⟨hi, h⟩ := h
  refine ias S hE hP hD hS 1 rfl hi dX10_cars_19 (fun H locs hP hD hS => ?_)
  have hP : va_P D vwCl (wX10_cars cI cJ cS a_o a_base a_share a_speed z_refused z_steps z_kind z_space z_other z_times z_notes z_pitch z_beats z_held z_sort z_size z_shown z_cells z_carried z_words z_tell z_was z_kept z_cutSpace z_cutTimes z_cutOff z_trace v_stretches v_cars v_tunes v_along v_near v_borne v_tempo v_seed v_fault v_from v_at v_end v_told v_wrongAt v_culprit v_ran v_isKept (upd f_base v_cars.toNatClampNeg x2) f_share (upd f_speed v_cars.toNatClampNeg x1)) H := hP
  have hD : va_D A (wX10_cars cI cJ cS a_o a_base a_share a_speed z_refused z_steps z_kind z_space z_other z_times z_notes z_pitch z_beats z_held z_sort z_size z_shown z_cells z_carried z_words z_tell z_was z_kept z_cutSpace z_cutTimes z_cutOff z_trace v_stretches v_cars v_tunes v_along v_near v_borne v_tempo v_seed v_fault v_from v_at v_end v_told v_wrongAt v_culprit v_ran v_isKept (upd f_base v_cars.toNatClampNeg x2) f_share (upd f_speed v_cars.toNatClampNeg x1)) := hD
  refine lv_aload_n hx hb dX10_cars_20 rfl (lv_at hl 0 rfl) ?_
  refine gf S hE hP 0 rfl rfl inX10 (k := 17) (by decide) q1110 rfl dX10_cars_21 ?_
  refine lv_aload_n hx hb dX10_cars_24 rfl (lv_at hl 0 rfl) ?_
  refine gf S hE hP 0 rfl rfl inX10 (k := 1) (by decide) q1094 rfl dX10_cars_25 ?_
  refine lv_iload_n hx hb dX10_cars_28 rfl (lv_at hl 3 rfl) ?_
  obtain ⟨hi, h⟩ := h
  refine ias S hE hP hD hS 2 rfl hi dX10_cars_29 (fun H locs hP hD hS => ?_)
  have hP : va_P D vwCl (wX10_cars cI cJ cS a_o a_base a_share a_speed z_refused z_steps z_kind z_space z_other z_times z_notes z_pitch z_beats z_held z_sort z_size z_shown z_cells z_carried z_words z_tell z_was z_kept z_cutSpace z_cutTimes z_cutOff z_trace v_stretches v_cars v_tunes v_along v_near v_borne v_tempo v_seed v_fault v_from v_at v_end v_told v_wrongAt v_culprit v_ran v_isKept (upd f_base v_cars.toNatClampNeg x2) (upd f_share v_cars.toNatClampNeg x3) (upd f_speed v_cars.toNatClampNeg x1)) H := hP
  have hD : va_D A (wX10_cars cI cJ cS a_o a_base a_share a_speed z_refused z_steps z_kind z_space z_other z_times z_notes z_pitch z_beats z_held z_sort z_size z_shown z_cells z_carried z_words z_tell z_was z_kept z_cutSpace z_cutTimes z_cutOff z_trace v_stretches v_cars v_tunes v_along v_near v_borne v_tempo v_seed v_fault v_from v_at v_end v_told v_wrongAt v_culprit v_ran v_isKept (upd f_base v_cars.toNatClampNeg x2) (upd f_share v_cars.toNatClampNeg x3) (upd f_speed v_cars.toNatClampNeg x1)) := hD
  refine lv_aload_n hx hb dX10_cars_30 rfl (lv_at hl 0 rfl) ?_
  refine lv_dup hx hb dX10_cars_31 rfl ?_
  refine gf S hE hP 0 rfl rfl inX10 (k := 1) (by decide) q1094 rfl dX10_cars_32 ?_
  refine lv_dup_x1 hx hb dX10_cars_35 rfl rfl ?_
  refine lv_iconst (v := 1) hx hb dX10_cars_36 (by decide) ?_
  refine lv_iadd hx hb dX10_cars_37 ?_
  refine pf S hE hP hD hS 0 (k := 1) rfl rfl inX10 tyX10_ok nmX10 (by decide) q1094 rfl rfl rfl (Nat.le_of_ble_eq_true rfl) dX10_cars_38 (fun H locs hP hD hS => ?_)
  have hP : va_P D vwCl (wX10_cars cI cJ cS a_o a_base a_share a_speed z_refused z_steps z_kind z_space z_other z_times z_notes z_pitch z_beats z_held z_sort z_size z_shown z_cells z_carried z_words z_tell z_was z_kept z_cutSpace z_cutTimes z_cutOff z_trace v_stretches (v_cars + 1) v_tunes v_along v_near v_borne v_tempo v_seed v_fault v_from v_at v_end v_told v_wrongAt v_culprit v_ran v_isKept (upd f_base v_cars.toNatClampNeg x2) (upd f_share v_cars.toNatClampNeg x3) (upd f_speed v_cars.toNatClampNeg x1)) H := hP
  have hD : va_D A (wX10_cars cI cJ cS a_o a_base a_share a_speed z_refused z_steps z_kind z_space z_other z_times z_notes z_pitch z_beats z_held z_sort z_size z_shown z_cells z_carried z_words z_tell z_was z_kept z_cutSpace z_cutTimes z_cutOff z_trace v_stretches (v_cars + 1) v_tunes v_along v_near v_borne v_tempo v_seed v_fault v_from v_at v_end v_told v_wrongAt v_culprit v_ran v_isKept (upd f_base v_cars.toNatClampNeg x2) (upd f_share v_cars.toNatClampNeg x3) (upd f_speed v_cars.toNatClampNeg x1)) := hD
  exact W.iret hx hb hr (fun t ht _ => ⟨⟨_, ((v_cars + 1), (upd f_base v_cars.toNatClampNeg x2), (upd f_share v_cars.toNatClampNeg x3), (upd f_speed v_cars.toNatClampNeg x1)), rfl, h, hPt hP ht⟩, hS.F ht⟩) hS.2.2 dX10_cars_41
/-! X10_car -/
abbrev wX10_car (cI cJ cS : ClassId) (a_o a_base a_refused a_share a_speed : Nat) (z_steps z_kind z_space z_other z_times z_notes z_pitch z_beats z_held z_sort z_size z_shown z_cells z_carried z_words z_tell z_was z_kept z_cutSpace z_cutTimes z_cutOff z_trace : Value) (v_stretches : Int32) (v_cars : Int32) (v_tunes : Int32) (v_along : Int32) (v_near : Int32) (v_borne : Int32) (v_tempo : Int32) (v_seed : Int32) (v_fault : Int32) (v_from : Int32) (v_at : Int32) (v_end : Int32) (v_told : Int32) (v_wrongAt : Int32) (v_culprit : Int32) (v_ran : Int32) (v_isKept : Int32) (f_base : Nat → Int32) (f_refused : Nat → Int32) (f_share : Nat → Int32) (f_speed : Nat → Int32) : va_W := [(a_o, .inr (9, [.int v_stretches, .int v_cars, .int v_tunes, .int v_along, .int v_near, .int v_borne, .int v_tempo, .int v_seed, .int v_fault, .ref a_refused, z_steps, z_kind, z_space, z_other, z_times, .ref a_speed, .ref a_base, .ref a_share, z_notes, z_pitch, z_beats, z_held, z_sort, z_size, z_shown, z_cells, z_carried, z_words, z_tell, .int v_from, .int v_at, .int v_end, .int v_told, .int v_wrongAt, z_was, z_kept, .int v_culprit, z_cutSpace, z_cutTimes, z_cutOff, z_trace, .int v_ran, .int v_isKept])), (a_base, .inl (cI, 6, .inl f_base)), (a_refused, .inl (cI, 8, .inl f_refused)), (a_share, .inl (cI, 6, .inl f_share)), (a_speed, .inl (cI, 6, .inl f_speed))]
def F_X10_car (v_cars : Int32) (f_base : Nat → Int32) (f_refused : Nat → Int32) (f_share : Nat → Int32) (f_speed : Nat → Int32) (x1 : Int32) (x2 : Int32) (x3 : Int32) (post : Int32 → Int32 → (Nat → Int32) → (Nat → Int32) → (Nat → Int32) → (Nat → Int32) → Prop) : Prop := (F_X10_isSpeed x1 (fun r2 => ((r2 = 0 → (F_X10_no f_refused (-6) (fun r37 w37_0 => post r37 v_cars f_base w37_0 f_share f_speed))) ∧ (¬ r2 = 0 → ((x2 < 0 → (F_X10_no f_refused (-6) (fun r37 w37_0 => post r37 v_cars f_base w37_0 f_share f_speed))) ∧ (¬ x2 < 0 → ((999 < x2 → (F_X10_no f_refused (-6) (fun r37 w37_0 => post r37 v_cars f_base w37_0 f_share f_speed))) ∧ (¬ 999 < x2 → ((x3 < 0 → (F_X10_no f_refused (-6) (fun r37 w37_0 => post r37 v_cars f_base w37_0 f_share f_speed))) ∧ (¬ x3 < 0 → (F_X10_shares v_cars f_share (fun r27 => ((x3 ≤ (100 - r27) → ((v_cars = 6 → (F_X10_no f_refused (-7) (fun r53 w53_0 => post r53 v_cars f_base w53_0 f_share f_speed))) ∧ (¬ v_cars = 6 → (F_X10_cars v_cars f_base f_share f_speed x1 x2 x3 (fun r63 w63_0 w63_1 w63_2 w63_3 => post r63 w63_0 w63_1 f_refused w63_2 w63_3))))) ∧ (¬ x3 ≤ (100 - r27) → (F_X10_no f_refused (-6) (fun r37 w37_0 => post r37 v_cars f_base w37_0 f_share f_speed))))))))))))))))
set_option maxHeartbeats 4000000 in
set_option maxRecDepth 100000 in
theorem c_X10_car {l : Launch} {D : va_G} {cI cJ cS : ClassId} {ad adK : Nat → Nat} {a_o a_base a_refused a_share a_speed : Nat} {z_steps z_kind z_space z_other z_times z_notes z_pitch z_beats z_held z_sort z_size z_shown z_cells z_carried z_words z_tell z_was z_kept z_cutSpace z_cutTimes z_cutOff z_trace : Value} {v_stretches : Int32} {v_cars : Int32} {v_tunes : Int32} {v_along : Int32} {v_near : Int32} {v_borne : Int32} {v_tempo : Int32} {v_seed : Int32} {v_fault : Int32} {v_from : Int32} {v_at : Int32} {v_end : Int32} {v_told : Int32} {v_wrongAt : Int32} {v_culprit : Int32} {v_ran : Int32} {v_isKept : Int32} {f_base : Nat → Int32} {f_refused : Nat → Int32} {f_share : Nat → Int32} {f_speed : Nat → Int32} {x1 : Int32} {x2 : Int32} {x3 : Int32} {post : Int32 → Int32 → (Nat → Int32) → (Nat → Int32) → (Nat → Int32) → (Nat → Int32) → Prop} (h : F_X10_car v_cars f_base f_refused f_share f_speed x1 x2 x3 post) {sz : Nat} : Met l yX10_car (Cond.code yX10_car cX10_car 4 (some (.int)) :: GW) (rmd 1 0 0) (PW D cI cJ cS ad adK [.ref a_o, .int x1, .int x2, .int x3] (wX10_car cI cJ cS a_o a_base a_refused a_share a_speed z_steps z_kind z_space z_other z_times z_notes z_pitch z_beats z_held z_sort z_size z_shown z_cells z_carried z_words z_tell z_was z_kept z_cutSpace z_cutTimes z_cutOff z_trace v_stretches v_cars v_tunes v_along v_near v_borne v_tempo v_seed v_fault v_from v_at v_end v_told v_wrongAt v_culprit v_ran v_isKept f_base f_refused f_share f_speed) sz) (va_Qi (fun r (u : Int32 × (Nat → Int32) × (Nat → Int32) × (Nat → Int32) × (Nat → Int32)) => post r u.1 u.2.1 u.2.2.1 u.2.2.2.1 u.2.2.2.2) (fun u t => va_P D vwCl (wX10_car cI cJ cS a_o a_base a_refused a_share a_speed z_steps z_kind z_space z_other z_times z_notes z_pitch z_beats z_held z_sort z_size z_shown z_cells z_carried z_words z_tell z_was z_kept z_cutSpace z_cutTimes z_cutOff z_trace v_stretches u.1 v_tunes v_along v_near v_borne v_tempo v_seed v_fault v_from v_at v_end v_told v_wrongAt v_culprit v_ran v_isKept u.2.1 u.2.2.1 u.2.2.2.1 u.2.2.2.2) t.heap) (va_A (wX10_car cI cJ cS a_o a_base a_refused a_share a_speed z_steps z_kind z_space z_other z_times z_notes z_pitch z_beats z_held z_sort z_size z_shown z_cells z_carried z_words z_tell z_was z_kept z_cutSpace z_cutTimes z_cutOff z_trace v_stretches v_cars v_tunes v_along v_near v_borne v_tempo v_seed v_fault v_from v_at v_end v_told v_wrongAt v_culprit v_ran v_isKept f_base f_refused f_share f_speed) sz)) 0 0 (va_A (wX10_car cI cJ cS a_o a_base a_refused a_share a_speed z_steps z_kind z_space z_other z_times z_notes z_pitch z_beats z_held z_sort z_size z_shown z_cells z_carried z_words z_tell z_was z_kept z_cutSpace z_cutTimes z_cutOff z_trace v_stretches v_cars v_tunes v_along v_near v_borne v_tempo v_seed v_fault v_from v_at v_end v_told v_wrongAt v_culprit v_ran v_isKept f_base f_refused f_share f_speed) sz) := by
  refine Met.rw (Qc := fun A => (va_Qi (fun r (u : Int32 × (Nat → Int32) × (Nat → Int32) × (Nat → Int32) × (Nat → Int32)) => post r u.1 u.2.1 u.2.2.1 u.2.2.2.1 u.2.2.2.2) (fun u t => va_P D vwCl (wX10_car cI cJ cS a_o a_base a_refused a_share a_speed z_steps z_kind z_space z_other z_times z_notes z_pitch z_beats z_held z_sort z_size z_shown z_cells z_carried z_words z_tell z_was z_kept z_cutSpace z_cutTimes z_cutOff z_trace v_stretches u.1 v_tunes v_along v_near v_borne v_tempo v_seed v_fault v_from v_at v_end v_told v_wrongAt v_culprit v_ran v_isKept u.2.1 u.2.2.1 u.2.2.2.1 u.2.2.2.2) t.heap) A)) (by decide) (Nat.le_of_ble_eq_true rfl) (fun p e s m args below meth c ls A (S : CallFix p m c cX10_car 4 s args GW "RoadThatSingsModel") hE hT hP hD hA hS hr hlocks hname hl => ?_)
  have hS0 := hS
  have hx := S.1
  have hb := S.2.1
  have hl : lv_has ls 4 [(0, .ref a_o), (1, .int x1), (2, .int x2), (3, .int x3)] := hl
  unfold F_X10_car at h
  refine lv_aload_n hx hb dX10_car_0 rfl (lv_at hl 0 rfl) ?_
  refine lv_iload_n hx hb dX10_car_1 rfl (lv_at hl 1 rfl) ?_
  refine ro_i (roV S hE hT hS (c_X10_isSpeed h) lkX10_155 rfl ⟨(Nat.le_of_ble_eq_true rfl), (Nat.le_of_ble_eq_true rfl)⟩ (hP.sub [0] rfl) 0 rfl rfl hl.1 rfl (Nat.le_of_ble_eq_true rfl) dX10_car_2 ⟨(Nat.zero_le _), (Nat.zero_le _)⟩) (fun r2 h => ?_)
  refine lv_if_eq (tgt := 34) hx hb dX10_car_5 (by decide) (fun hc => ?_) (fun hc => ?_)
  · have h := h.1 hc
    refine lv_aload_n hx hb dX10_car_34 rfl (lv_at hl 0 rfl) ?_
    refine lv_bipush (v := (-6)) hx hb dX10_car_35 (by decide) ?_
    refine rw_i (rwV S hE hT hS hP hD hA (c_X10_no h) [0, 2] rfl (by decide +kernel) lkX10_121 rfl ⟨(Nat.le_of_ble_eq_true rfl), (Nat.le_of_ble_eq_true rfl)⟩ 0 rfl rfl hl.1 rfl (Nat.le_of_ble_eq_true rfl) dX10_car_37 ⟨(Nat.zero_le _), (Nat.zero_le _)⟩) hP hD hS hA [0, 2] rfl (by decide +kernel) (fun _ => rfl) (fun r37 w37_0 H locs h hP hD hS => ?_)
    try dsimp only at h
    have hP : va_P D vwCl (wX10_car cI cJ cS a_o a_base a_refused a_share a_speed z_steps z_kind z_space z_other z_times z_notes z_pitch z_beats z_held z_sort z_size z_shown z_cells z_carried z_words z_tell z_was z_kept z_cutSpace z_cutTimes z_cutOff z_trace v_stretches v_cars v_tunes v_along v_near v_borne v_tempo v_seed v_fault v_from v_at v_end v_told v_wrongAt v_culprit v_ran v_isKept f_base w37_0 f_share f_speed) H := hP
    have hD : va_D A (wX10_car cI cJ cS a_o a_base a_refused a_share a_speed z_steps z_kind z_space z_other z_times z_notes z_pitch z_beats z_held z_sort z_size z_shown z_cells z_carried z_words z_tell z_was z_kept z_cutSpace z_cutTimes z_cutOff z_trace v_stretches v_cars v_tunes v_along v_near v_borne v_tempo v_seed v_fault v_from v_at v_end v_told v_wrongAt v_culprit v_ran v_isKept f_base w37_0 f_share f_speed) := hD
    exact W.iret hx hb hr (fun t ht _ => ⟨⟨_, (v_cars, f_base, w37_0, f_share, f_speed), rfl, h, hPt hP ht⟩, hS.F ht⟩) hS.2.2 dX10_car_40
  have h := h.2 hc
  refine lv_iload_n hx hb dX10_car_8 rfl (lv_at hl 2 rfl) ?_
  refine lv_if_lt (tgt := 34) hx hb dX10_car_9 (by decide) (fun hc => ?_) (fun hc => ?_)
  · have h := h.1 hc
    refine lv_aload_n hx hb dX10_car_34 rfl (lv_at hl 0 rfl) ?_
    refine lv_bipush (v := (-6)) hx hb dX10_car_35 (by decide) ?_
    refine rw_i (rwV S hE hT hS hP hD hA (c_X10_no h) [0, 2] rfl (by decide +kernel) lkX10_121 rfl ⟨(Nat.le_of_ble_eq_true rfl), (Nat.le_of_ble_eq_true rfl)⟩ 0 rfl rfl hl.1 rfl (Nat.le_of_ble_eq_true rfl) dX10_car_37 ⟨(Nat.zero_le _), (Nat.zero_le _)⟩) hP hD hS hA [0, 2] rfl (by decide +kernel) (fun _ => rfl) (fun r37 w37_0 H locs h hP hD hS => ?_)
    try dsimp only at h
    have hP : va_P D vwCl (wX10_car cI cJ cS a_o a_base a_refused a_share a_speed z_steps z_kind z_space z_other z_times z_notes z_pitch z_beats z_held z_sort z_size z_shown z_cells z_carried z_words z_tell z_was z_kept z_cutSpace z_cutTimes z_cutOff z_trace v_stretches v_cars v_tunes v_along v_near v_borne v_tempo v_seed v_fault v_from v_at v_end v_told v_wrongAt v_culprit v_ran v_isKept f_base w37_0 f_share f_speed) H := hP
    have hD : va_D A (wX10_car cI cJ cS a_o a_base a_refused a_share a_speed z_steps z_kind z_space z_other z_times z_notes z_pitch z_beats z_held z_sort z_size z_shown z_cells z_carried z_words z_tell z_was z_kept z_cutSpace z_cutTimes z_cutOff z_trace v_stretches v_cars v_tunes v_along v_near v_borne v_tempo v_seed v_fault v_from v_at v_end v_told v_wrongAt v_culprit v_ran v_isKept f_base w37_0 f_share f_speed) := hD
    exact W.iret hx hb hr (fun t ht _ => ⟨⟨_, (v_cars, f_base, w37_0, f_share, f_speed), rfl, h, hPt hP ht⟩, hS.F ht⟩) hS.2.2 dX10_car_40
  have h := h.2 hc
  refine lv_iload_n hx hb dX10_car_12 rfl (lv_at hl 2 rfl) ?_
  refine lv_sipush (v := 999) hx hb dX10_car_13 (by decide) ?_
  refine lv_icmp_gt (tgt := 34) hx hb dX10_car_16 (by decide) (fun hc => ?_) (fun hc => ?_)
  · have h := h.1 hc
    refine lv_aload_n hx hb dX10_car_34 rfl (lv_at hl 0 rfl) ?_
    refine lv_bipush (v := (-6)) hx hb dX10_car_35 (by decide) ?_
    refine rw_i (rwV S hE hT hS hP hD hA (c_X10_no h) [0, 2] rfl (by decide +kernel) lkX10_121 rfl ⟨(Nat.le_of_ble_eq_true rfl), (Nat.le_of_ble_eq_true rfl)⟩ 0 rfl rfl hl.1 rfl (Nat.le_of_ble_eq_true rfl) dX10_car_37 ⟨(Nat.zero_le _), (Nat.zero_le _)⟩) hP hD hS hA [0, 2] rfl (by decide +kernel) (fun _ => rfl) (fun r37 w37_0 H locs h hP hD hS => ?_)
    try dsimp only at h
    have hP : va_P D vwCl (wX10_car cI cJ cS a_o a_base a_refused a_share a_speed z_steps z_kind z_space z_other z_times z_notes z_pitch z_beats z_held z_sort z_size z_shown z_cells z_carried z_words z_tell z_was z_kept z_cutSpace z_cutTimes z_cutOff z_trace v_stretches v_cars v_tunes v_along v_near v_borne v_tempo v_seed v_fault v_from v_at v_end v_told v_wrongAt v_culprit v_ran v_isKept f_base w37_0 f_share f_speed) H := hP
    have hD : va_D A (wX10_car cI cJ cS a_o a_base a_refused a_share a_speed z_steps z_kind z_space z_other z_times z_notes z_pitch z_beats z_held z_sort z_size z_shown z_cells z_carried z_words z_tell z_was z_kept z_cutSpace z_cutTimes z_cutOff z_trace v_stretches v_cars v_tunes v_along v_near v_borne v_tempo v_seed v_fault v_from v_at v_end v_told v_wrongAt v_culprit v_ran v_isKept f_base w37_0 f_share f_speed) := hD
    exact W.iret hx hb hr (fun t ht _ => ⟨⟨_, (v_cars, f_base, w37_0, f_share, f_speed), rfl, h, hPt hP ht⟩, hS.F ht⟩) hS.2.2 dX10_car_40
  have h := h.2 hc
  refine lv_iload_n hx hb dX10_car_19 rfl (lv_at hl 3 rfl) ?_
  refine lv_if_lt (tgt := 34) hx hb dX10_car_20 (by decide) (fun hc => ?_) (fun hc => ?_)
  · have h := h.1 hc
    refine lv_aload_n hx hb dX10_car_34 rfl (lv_at hl 0 rfl) ?_
    refine lv_bipush (v := (-6)) hx hb dX10_car_35 (by decide) ?_
    refine rw_i (rwV S hE hT hS hP hD hA (c_X10_no h) [0, 2] rfl (by decide +kernel) lkX10_121 rfl ⟨(Nat.le_of_ble_eq_true rfl), (Nat.le_of_ble_eq_true rfl)⟩ 0 rfl rfl hl.1 rfl (Nat.le_of_ble_eq_true rfl) dX10_car_37 ⟨(Nat.zero_le _), (Nat.zero_le _)⟩) hP hD hS hA [0, 2] rfl (by decide +kernel) (fun _ => rfl) (fun r37 w37_0 H locs h hP hD hS => ?_)
    try dsimp only at h
    have hP : va_P D vwCl (wX10_car cI cJ cS a_o a_base a_refused a_share a_speed z_steps z_kind z_space z_other z_times z_notes z_pitch z_beats z_held z_sort z_size z_shown z_cells z_carried z_words z_tell z_was z_kept z_cutSpace z_cutTimes z_cutOff z_trace v_stretches v_cars v_tunes v_along v_near v_borne v_tempo v_seed v_fault v_from v_at v_end v_told v_wrongAt v_culprit v_ran v_isKept f_base w37_0 f_share f_speed) H := hP
    have hD : va_D A (wX10_car cI cJ cS a_o a_base a_refused a_share a_speed z_steps z_kind z_space z_other z_times z_notes z_pitch z_beats z_held z_sort z_size z_shown z_cells z_carried z_words z_tell z_was z_kept z_cutSpace z_cutTimes z_cutOff z_trace v_stretches v_cars v_tunes v_along v_near v_borne v_tempo v_seed v_fault v_from v_at v_end v_told v_wrongAt v_culprit v_ran v_isKept f_base w37_0 f_share f_speed) := hD
    exact W.iret hx hb hr (fun t ht _ => ⟨⟨_, (v_cars, f_base, w37_0, f_share, f_speed), rfl, h, hPt hP ht⟩, hS.F ht⟩) hS.2.2 dX10_car_40
  have h := h.2 hc
  refine lv_iload_n hx hb dX10_car_23 rfl (lv_at hl 3 rfl) ?_
  refine lv_bipush (v := 100) hx hb dX10_car_24 (by decide) ?_
  refine lv_aload_n hx hb dX10_car_26 rfl (lv_at hl 0 rfl) ?_
  refine ro_i (roV S hE hT hS (c_X10_shares h) lkX10_158 rfl ⟨(Nat.le_of_ble_eq_true rfl), (Nat.le_of_ble_eq_true rfl)⟩ (hP.sub [0, 3] rfl) 0 rfl rfl hl.1 rfl (Nat.le_of_ble_eq_true rfl) dX10_car_27 ⟨(Nat.zero_le _), (Nat.zero_le _)⟩) (fun r27 h => ?_)
  refine lv_isub hx hb dX10_car_30 ?_
  refine lv_icmp_le (tgt := 41) hx hb dX10_car_31 (by decide) (fun hc => ?_) (fun hc => ?_)
  · have h := h.1 hc
    refine lv_aload_n hx hb dX10_car_41 rfl (lv_at hl 0 rfl) ?_
    refine gf S hE hP 0 rfl rfl inX10 (k := 1) (by decide) q1094 rfl dX10_car_42 ?_
    refine lv_bipush (v := 6) hx hb dX10_car_45 (by decide) ?_
    refine lv_icmp_ne (tgt := 59) hx hb dX10_car_47 (by decide) (fun hc => ?_) (fun hc => ?_)
    · have h := h.2 hc
      refine lv_aload_n hx hb dX10_car_59 rfl (lv_at hl 0 rfl) ?_
      refine lv_iload_n hx hb dX10_car_60 rfl (lv_at hl 1 rfl) ?_
      refine lv_iload_n hx hb dX10_car_61 rfl (lv_at hl 2 rfl) ?_
      refine lv_iload_n hx hb dX10_car_62 rfl (lv_at hl 3 rfl) ?_
      refine rw_i (rwV S hE hT hS hP hD hA (c_X10_cars h) [0, 1, 3, 4] rfl (by decide +kernel) lkX10_162 rfl ⟨(Nat.le_of_ble_eq_true rfl), (Nat.le_of_ble_eq_true rfl)⟩ 0 rfl rfl hl.1 rfl (Nat.le_of_ble_eq_true rfl) dX10_car_63 ⟨(Nat.zero_le _), (Nat.zero_le _)⟩) hP hD hS hA [0, 1, 3, 4] rfl (by decide +kernel) (fun _ => rfl) (fun r63 u63 H locs h hP hD hS => ?_)
      obtain ⟨w63_0, w63_1, w63_2, w63_3⟩ := u63
      try dsimp only at h
      have hP : va_P D vwCl (wX10_car cI cJ cS a_o a_base a_refused a_share a_speed z_steps z_kind z_space z_other z_times z_notes z_pitch z_beats z_held z_sort z_size z_shown z_cells z_carried z_words z_tell z_was z_kept z_cutSpace z_cutTimes z_cutOff z_trace v_stretches w63_0 v_tunes v_along v_near v_borne v_tempo v_seed v_fault v_from v_at v_end v_told v_wrongAt v_culprit v_ran v_isKept w63_1 f_refused w63_2 w63_3) H := hP
      have hD : va_D A (wX10_car cI cJ cS a_o a_base a_refused a_share a_speed z_steps z_kind z_space z_other z_times z_notes z_pitch z_beats z_held z_sort z_size z_shown z_cells z_carried z_words z_tell z_was z_kept z_cutSpace z_cutTimes z_cutOff z_trace v_stretches w63_0 v_tunes v_along v_near v_borne v_tempo v_seed v_fault v_from v_at v_end v_told v_wrongAt v_culprit v_ran v_isKept w63_1 f_refused w63_2 w63_3) := hD
      exact W.iret hx hb hr (fun t ht _ => ⟨⟨_, (w63_0, w63_1, f_refused, w63_2, w63_3), rfl, h, hPt hP ht⟩, hS.F ht⟩) hS.2.2 dX10_car_66
    have h := h.1 hc
    refine lv_aload_n hx hb dX10_car_50 rfl (lv_at hl 0 rfl) ?_
    refine lv_bipush (v := (-7)) hx hb dX10_car_51 (by decide) ?_
    refine rw_i (rwV S hE hT hS hP hD hA (c_X10_no h) [0, 2] rfl (by decide +kernel) lkX10_121 rfl ⟨(Nat.le_of_ble_eq_true rfl), (Nat.le_of_ble_eq_true rfl)⟩ 0 rfl rfl hl.1 rfl (Nat.le_of_ble_eq_true rfl) dX10_car_53 ⟨(Nat.zero_le _), (Nat.zero_le _)⟩) hP hD hS hA [0, 2] rfl (by decide +kernel) (fun _ => rfl) (fun r53 w53_0 H locs h hP hD hS => ?_)
    try dsimp only at h
    have hP : va_P D vwCl (wX10_car cI cJ cS a_o a_base a_refused a_share a_speed z_steps z_kind z_space z_other z_times z_notes z_pitch z_beats z_held z_sort z_size z_shown z_cells z_carried z_words z_tell z_was z_kept z_cutSpace z_cutTimes z_cutOff z_trace v_stretches v_cars v_tunes v_along v_near v_borne v_tempo v_seed v_fault v_from v_at v_end v_told v_wrongAt v_culprit v_ran v_isKept f_base w53_0 f_share f_speed) H := hP
    have hD : va_D A (wX10_car cI cJ cS a_o a_base a_refused a_share a_speed z_steps z_kind z_space z_other z_times z_notes z_pitch z_beats z_held z_sort z_size z_shown z_cells z_carried z_words z_tell z_was z_kept z_cutSpace z_cutTimes z_cutOff z_trace v_stretches v_cars v_tunes v_along v_near v_borne v_tempo v_seed v_fault v_from v_at v_end v_told v_wrongAt v_culprit v_ran v_isKept f_base w53_0 f_share f_speed) := hD
    refine lv_goto (tgt := 66) hx hb dX10_car_56 (by decide) ?_
    exact W.iret hx hb hr (fun t ht _ => ⟨⟨_, (v_cars, f_base, w53_0, f_share, f_speed), rfl, h, hPt hP ht⟩, hS.F ht⟩) hS.2.2 dX10_car_66
  have h := h.2 hc
  refine lv_aload_n hx hb dX10_car_34 rfl (lv_at hl 0 rfl) ?_
  refine lv_bipush (v := (-6)) hx hb dX10_car_35 (by decide) ?_
  refine rw_i (rwV S hE hT hS hP hD hA (c_X10_no h) [0, 2] rfl (by decide +kernel) lkX10_121 rfl ⟨(Nat.le_of_ble_eq_true rfl), (Nat.le_of_ble_eq_true rfl)⟩ 0 rfl rfl hl.1 rfl (Nat.le_of_ble_eq_true rfl) dX10_car_37 ⟨(Nat.zero_le _), (Nat.zero_le _)⟩) hP hD hS hA [0, 2] rfl (by decide +kernel) (fun _ => rfl) (fun r37 w37_0 H locs h hP hD hS => ?_)
  try dsimp only at h
  have hP : va_P D vwCl (wX10_car cI cJ cS a_o a_base a_refused a_share a_speed z_steps z_kind z_space z_other z_times z_notes z_pitch z_beats z_held z_sort z_size z_shown z_cells z_carried z_words z_tell z_was z_kept z_cutSpace z_cutTimes z_cutOff z_trace v_stretches v_cars v_tunes v_along v_near v_borne v_tempo v_seed v_fault v_from v_at v_end v_told v_wrongAt v_culprit v_ran v_isKept f_base w37_0 f_share f_speed) H := hP
  have hD : va_D A (wX10_car cI cJ cS a_o a_base a_refused a_share a_speed z_steps z_kind z_space z_other z_times z_notes z_pitch z_beats z_held z_sort z_size z_shown z_cells z_carried z_words z_tell z_was z_kept z_cutSpace z_cutTimes z_cutOff z_trace v_stretches v_cars v_tunes v_along v_near v_borne v_tempo v_seed v_fault v_from v_at v_end v_told v_wrongAt v_culprit v_ran v_isKept f_base w37_0 f_share f_speed) := hD
  exact W.iret hx hb hr (fun t ht _ => ⟨⟨_, (v_cars, f_base, w37_0, f_share, f_speed), rfl, h, hPt hP ht⟩, hS.F ht⟩) hS.2.2 dX10_car_40
/-! X10_carOf -/
abbrev wX10_carOf (cI cJ cS : ClassId) (a_o a_base a_refused a_share a_speed : Nat) (z_steps z_kind z_space z_other z_times z_notes z_pitch z_beats z_held z_sort z_size z_shown z_cells z_carried z_words z_tell z_was z_kept z_cutSpace z_cutTimes z_cutOff z_trace : Value) (v_stretches : Int32) (v_cars : Int32) (v_tunes : Int32) (v_along : Int32) (v_near : Int32) (v_borne : Int32) (v_tempo : Int32) (v_seed : Int32) (v_fault : Int32) (v_from : Int32) (v_at : Int32) (v_end : Int32) (v_told : Int32) (v_wrongAt : Int32) (v_culprit : Int32) (v_ran : Int32) (v_isKept : Int32) (f_base : Nat → Int32) (f_refused : Nat → Int32) (f_share : Nat → Int32) (f_speed : Nat → Int32) : va_W := [(a_o, .inr (9, [.int v_stretches, .int v_cars, .int v_tunes, .int v_along, .int v_near, .int v_borne, .int v_tempo, .int v_seed, .int v_fault, .ref a_refused, z_steps, z_kind, z_space, z_other, z_times, .ref a_speed, .ref a_base, .ref a_share, z_notes, z_pitch, z_beats, z_held, z_sort, z_size, z_shown, z_cells, z_carried, z_words, z_tell, .int v_from, .int v_at, .int v_end, .int v_told, .int v_wrongAt, z_was, z_kept, .int v_culprit, z_cutSpace, z_cutTimes, z_cutOff, z_trace, .int v_ran, .int v_isKept])), (a_base, .inl (cI, 6, .inl f_base)), (a_refused, .inl (cI, 8, .inl f_refused)), (a_share, .inl (cI, 6, .inl f_share)), (a_speed, .inl (cI, 6, .inl f_speed))]
def F_X10_carOf (v_cars : Int32) (f_base : Nat → Int32) (f_refused : Nat → Int32) (f_share : Nat → Int32) (f_speed : Nat → Int32) (x1 : Int32) (x2 : Int32) (post : Int32 → (Nat → Int32) → Prop) : Prop := (F_X10_isCar v_cars x1 (fun r2 => ((r2 = 0 → (F_X10_no f_refused (-5) (fun r20 w20_0 => post r20 w20_0))) ∧ (¬ r2 = 0 → ((x2 < 0 → (F_X10_no f_refused (-5) (fun r20 w20_0 => post r20 w20_0))) ∧ (¬ x2 < 0 → ((x2 ≤ 2 → ((x2 = 0 → (vp_in x1 6 ∧ post (f_speed x1.toNatClampNeg) f_refused)) ∧ (¬ x2 = 0 → ((x2 = 1 → (vp_in x1 6 ∧ post (f_base x1.toNatClampNeg) f_refused)) ∧ (¬ x2 = 1 → (vp_in x1 6 ∧ post (f_share x1.toNatClampNeg) f_refused)))))) ∧ (¬ x2 ≤ 2 → (F_X10_no f_refused (-5) (fun r20 w20_0 => post r20 w20_0))))))))))
set_option maxHeartbeats 4000000 in
set_option maxRecDepth 100000 in
theorem c_X10_carOf {l : Launch} {D : va_G} {cI cJ cS : ClassId} {ad adK : Nat → Nat} {a_o a_base a_refused a_share a_speed : Nat} {z_steps z_kind z_space z_other z_times z_notes z_pitch z_beats z_held z_sort z_size z_shown z_cells z_carried z_words z_tell z_was z_kept z_cutSpace z_cutTimes z_cutOff z_trace : Value} {v_stretches : Int32} {v_cars : Int32} {v_tunes : Int32} {v_along : Int32} {v_near : Int32} {v_borne : Int32} {v_tempo : Int32} {v_seed : Int32} {v_fault : Int32} {v_from : Int32} {v_at : Int32} {v_end : Int32} {v_told : Int32} {v_wrongAt : Int32} {v_culprit : Int32} {v_ran : Int32} {v_isKept : Int32} {f_base : Nat → Int32} {f_refused : Nat → Int32} {f_share : Nat → Int32} {f_speed : Nat → Int32} {x1 : Int32} {x2 : Int32} {post : Int32 → (Nat → Int32) → Prop} (h : F_X10_carOf v_cars f_base f_refused f_share f_speed x1 x2 post) {sz : Nat} : Met l yX10_carOf (Cond.code yX10_carOf cX10_carOf 3 (some (.int)) :: GW) (rmd 1 0 0) (PW D cI cJ cS ad adK [.ref a_o, .int x1, .int x2] (wX10_carOf cI cJ cS a_o a_base a_refused a_share a_speed z_steps z_kind z_space z_other z_times z_notes z_pitch z_beats z_held z_sort z_size z_shown z_cells z_carried z_words z_tell z_was z_kept z_cutSpace z_cutTimes z_cutOff z_trace v_stretches v_cars v_tunes v_along v_near v_borne v_tempo v_seed v_fault v_from v_at v_end v_told v_wrongAt v_culprit v_ran v_isKept f_base f_refused f_share f_speed) sz) (va_Qi (fun r (u : (Nat → Int32)) => post r u) (fun u t => va_P D vwCl (wX10_carOf cI cJ cS a_o a_base a_refused a_share a_speed z_steps z_kind z_space z_other z_times z_notes z_pitch z_beats z_held z_sort z_size z_shown z_cells z_carried z_words z_tell z_was z_kept z_cutSpace z_cutTimes z_cutOff z_trace v_stretches v_cars v_tunes v_along v_near v_borne v_tempo v_seed v_fault v_from v_at v_end v_told v_wrongAt v_culprit v_ran v_isKept f_base u f_share f_speed) t.heap) (va_A (wX10_carOf cI cJ cS a_o a_base a_refused a_share a_speed z_steps z_kind z_space z_other z_times z_notes z_pitch z_beats z_held z_sort z_size z_shown z_cells z_carried z_words z_tell z_was z_kept z_cutSpace z_cutTimes z_cutOff z_trace v_stretches v_cars v_tunes v_along v_near v_borne v_tempo v_seed v_fault v_from v_at v_end v_told v_wrongAt v_culprit v_ran v_isKept f_base f_refused f_share f_speed) sz)) 0 0 (va_A (wX10_carOf cI cJ cS a_o a_base a_refused a_share a_speed z_steps z_kind z_space z_other z_times z_notes z_pitch z_beats z_held z_sort z_size z_shown z_cells z_carried z_words z_tell z_was z_kept z_cutSpace z_cutTimes z_cutOff z_trace v_stretches v_cars v_tunes v_along v_near v_borne v_tempo v_seed v_fault v_from v_at v_end v_told v_wrongAt v_culprit v_ran v_isKept f_base f_refused f_share f_speed) sz) := by
  refine Met.rw (Qc := fun A => (va_Qi (fun r (u : (Nat → Int32)) => post r u) (fun u t => va_P D vwCl (wX10_carOf cI cJ cS a_o a_base a_refused a_share a_speed z_steps z_kind z_space z_other z_times z_notes z_pitch z_beats z_held z_sort z_size z_shown z_cells z_carried z_words z_tell z_was z_kept z_cutSpace z_cutTimes z_cutOff z_trace v_stretches v_cars v_tunes v_along v_near v_borne v_tempo v_seed v_fault v_from v_at v_end v_told v_wrongAt v_culprit v_ran v_isKept f_base u f_share f_speed) t.heap) A)) (by decide) (Nat.le_of_ble_eq_true rfl) (fun p e s m args below meth c ls A (S : CallFix p m c cX10_carOf 3 s args GW "RoadThatSingsModel") hE hT hP hD hA hS hr hlocks hname hl => ?_)
  have hS0 := hS
  have hx := S.1
  have hb := S.2.1
  have hl : lv_has ls 3 [(0, .ref a_o), (1, .int x1), (2, .int x2)] := hl
  unfold F_X10_carOf at h
  refine lv_aload_n hx hb dX10_carOf_0 rfl (lv_at hl 0 rfl) ?_
  refine lv_iload_n hx hb dX10_carOf_1 rfl (lv_at hl 1 rfl) ?_
  refine ro_i (roV S hE hT hS (c_X10_isCar h) lkX10_165 rfl ⟨(Nat.le_of_ble_eq_true rfl), (Nat.le_of_ble_eq_true rfl)⟩ (hP.sub [0] rfl) 0 rfl rfl hl.1 rfl (Nat.le_of_ble_eq_true rfl) dX10_carOf_2 ⟨(Nat.zero_le _), (Nat.zero_le _)⟩) (fun r2 h => ?_)
  refine lv_if_eq (tgt := 17) hx hb dX10_carOf_5 (by decide) (fun hc => ?_) (fun hc => ?_)
  · have h := h.1 hc
    refine lv_aload_n hx hb dX10_carOf_17 rfl (lv_at hl 0 rfl) ?_
    refine lv_bipush (v := (-5)) hx hb dX10_carOf_18 (by decide) ?_
    refine rw_i (rwV S hE hT hS hP hD hA (c_X10_no h) [0, 2] rfl (by decide +kernel) lkX10_121 rfl ⟨(Nat.le_of_ble_eq_true rfl), (Nat.le_of_ble_eq_true rfl)⟩ 0 rfl rfl hl.1 rfl (Nat.le_of_ble_eq_true rfl) dX10_carOf_20 ⟨(Nat.zero_le _), (Nat.zero_le _)⟩) hP hD hS hA [0, 2] rfl (by decide +kernel) (fun _ => rfl) (fun r20 w20_0 H locs h hP hD hS => ?_)
    try dsimp only at h
    have hP : va_P D vwCl (wX10_carOf cI cJ cS a_o a_base a_refused a_share a_speed z_steps z_kind z_space z_other z_times z_notes z_pitch z_beats z_held z_sort z_size z_shown z_cells z_carried z_words z_tell z_was z_kept z_cutSpace z_cutTimes z_cutOff z_trace v_stretches v_cars v_tunes v_along v_near v_borne v_tempo v_seed v_fault v_from v_at v_end v_told v_wrongAt v_culprit v_ran v_isKept f_base w20_0 f_share f_speed) H := hP
    have hD : va_D A (wX10_carOf cI cJ cS a_o a_base a_refused a_share a_speed z_steps z_kind z_space z_other z_times z_notes z_pitch z_beats z_held z_sort z_size z_shown z_cells z_carried z_words z_tell z_was z_kept z_cutSpace z_cutTimes z_cutOff z_trace v_stretches v_cars v_tunes v_along v_near v_borne v_tempo v_seed v_fault v_from v_at v_end v_told v_wrongAt v_culprit v_ran v_isKept f_base w20_0 f_share f_speed) := hD
    exact W.iret hx hb hr (fun t ht _ => ⟨⟨_, w20_0, rfl, h, hPt hP ht⟩, hS.F ht⟩) hS.2.2 dX10_carOf_23
  have h := h.2 hc
  refine lv_iload_n hx hb dX10_carOf_8 rfl (lv_at hl 2 rfl) ?_
  refine lv_if_lt (tgt := 17) hx hb dX10_carOf_9 (by decide) (fun hc => ?_) (fun hc => ?_)
  · have h := h.1 hc
    refine lv_aload_n hx hb dX10_carOf_17 rfl (lv_at hl 0 rfl) ?_
    refine lv_bipush (v := (-5)) hx hb dX10_carOf_18 (by decide) ?_
    refine rw_i (rwV S hE hT hS hP hD hA (c_X10_no h) [0, 2] rfl (by decide +kernel) lkX10_121 rfl ⟨(Nat.le_of_ble_eq_true rfl), (Nat.le_of_ble_eq_true rfl)⟩ 0 rfl rfl hl.1 rfl (Nat.le_of_ble_eq_true rfl) dX10_carOf_20 ⟨(Nat.zero_le _), (Nat.zero_le _)⟩) hP hD hS hA [0, 2] rfl (by decide +kernel) (fun _ => rfl) (fun r20 w20_0 H locs h hP hD hS => ?_)
    try dsimp only at h
    have hP : va_P D vwCl (wX10_carOf cI cJ cS a_o a_base a_refused a_share a_speed z_steps z_kind z_space z_other z_times z_notes z_pitch z_beats z_held z_sort z_size z_shown z_cells z_carried z_words z_tell z_was z_kept z_cutSpace z_cutTimes z_cutOff z_trace v_stretches v_cars v_tunes v_along v_near v_borne v_tempo v_seed v_fault v_from v_at v_end v_told v_wrongAt v_culprit v_ran v_isKept f_base w20_0 f_share f_speed) H := hP
    have hD : va_D A (wX10_carOf cI cJ cS a_o a_base a_refused a_share a_speed z_steps z_kind z_space z_other z_times z_notes z_pitch z_beats z_held z_sort z_size z_shown z_cells z_carried z_words z_tell z_was z_kept z_cutSpace z_cutTimes z_cutOff z_trace v_stretches v_cars v_tunes v_along v_near v_borne v_tempo v_seed v_fault v_from v_at v_end v_told v_wrongAt v_culprit v_ran v_isKept f_base w20_0 f_share f_speed) := hD
    exact W.iret hx hb hr (fun t ht _ => ⟨⟨_, w20_0, rfl, h, hPt hP ht⟩, hS.F ht⟩) hS.2.2 dX10_carOf_23
  have h := h.2 hc
  refine lv_iload_n hx hb dX10_carOf_12 rfl (lv_at hl 2 rfl) ?_
  refine lv_iconst (v := 2) hx hb dX10_carOf_13 (by decide) ?_
  refine lv_icmp_le (tgt := 24) hx hb dX10_carOf_14 (by decide) (fun hc => ?_) (fun hc => ?_)
  · have h := h.1 hc
    refine lv_iload_n hx hb dX10_carOf_24 rfl (lv_at hl 2 rfl) ?_
    refine lv_if_ne (tgt := 37) hx hb dX10_carOf_25 (by decide) (fun hc => ?_) (fun hc => ?_)
    · have h := h.2 hc
      refine lv_iload_n hx hb dX10_carOf_37 rfl (lv_at hl 2 rfl) ?_
      refine lv_iconst (v := 1) hx hb dX10_carOf_38 (by decide) ?_
      refine lv_icmp_ne (tgt := 51) hx hb dX10_carOf_39 (by decide) (fun hc => ?_) (fun hc => ?_)
      · have h := h.2 hc
        refine lv_aload_n hx hb dX10_carOf_51 rfl (lv_at hl 0 rfl) ?_
        refine gf S hE hP 0 rfl rfl inX10 (k := 17) (by decide) q1110 rfl dX10_carOf_52 ?_
        refine lv_iload_n hx hb dX10_carOf_55 rfl (lv_at hl 1 rfl) ?_
        obtain ⟨hi, h⟩ := h
        refine ial S hE hP 3 rfl hi dX10_carOf_56 ?_
        exact W.iret hx hb hr (fun t ht _ => ⟨⟨_, f_refused, rfl, h, hPt hP ht⟩, hS.F ht⟩) hS.2.2 dX10_carOf_57
      have h := h.1 hc
      refine lv_aload_n hx hb dX10_carOf_42 rfl (lv_at hl 0 rfl) ?_
      refine gf S hE hP 0 rfl rfl inX10 (k := 16) (by decide) q1109 rfl dX10_carOf_43 ?_
      refine lv_iload_n hx hb dX10_carOf_46 rfl (lv_at hl 1 rfl) ?_
      obtain ⟨hi, h⟩ := h
      refine ial S hE hP 1 rfl hi dX10_carOf_47 ?_
      refine lv_goto (tgt := 57) hx hb dX10_carOf_48 (by decide) ?_
      exact W.iret hx hb hr (fun t ht _ => ⟨⟨_, f_refused, rfl, h, hPt hP ht⟩, hS.F ht⟩) hS.2.2 dX10_carOf_57
    have h := h.1 hc
    refine lv_aload_n hx hb dX10_carOf_28 rfl (lv_at hl 0 rfl) ?_
    refine gf S hE hP 0 rfl rfl inX10 (k := 15) (by decide) q1108 rfl dX10_carOf_29 ?_
    refine lv_iload_n hx hb dX10_carOf_32 rfl (lv_at hl 1 rfl) ?_
    obtain ⟨hi, h⟩ := h
    refine ial S hE hP 4 rfl hi dX10_carOf_33 ?_
    refine lv_goto (tgt := 57) hx hb dX10_carOf_34 (by decide) ?_
    exact W.iret hx hb hr (fun t ht _ => ⟨⟨_, f_refused, rfl, h, hPt hP ht⟩, hS.F ht⟩) hS.2.2 dX10_carOf_57
  have h := h.2 hc
  refine lv_aload_n hx hb dX10_carOf_17 rfl (lv_at hl 0 rfl) ?_
  refine lv_bipush (v := (-5)) hx hb dX10_carOf_18 (by decide) ?_
  refine rw_i (rwV S hE hT hS hP hD hA (c_X10_no h) [0, 2] rfl (by decide +kernel) lkX10_121 rfl ⟨(Nat.le_of_ble_eq_true rfl), (Nat.le_of_ble_eq_true rfl)⟩ 0 rfl rfl hl.1 rfl (Nat.le_of_ble_eq_true rfl) dX10_carOf_20 ⟨(Nat.zero_le _), (Nat.zero_le _)⟩) hP hD hS hA [0, 2] rfl (by decide +kernel) (fun _ => rfl) (fun r20 w20_0 H locs h hP hD hS => ?_)
  try dsimp only at h
  have hP : va_P D vwCl (wX10_carOf cI cJ cS a_o a_base a_refused a_share a_speed z_steps z_kind z_space z_other z_times z_notes z_pitch z_beats z_held z_sort z_size z_shown z_cells z_carried z_words z_tell z_was z_kept z_cutSpace z_cutTimes z_cutOff z_trace v_stretches v_cars v_tunes v_along v_near v_borne v_tempo v_seed v_fault v_from v_at v_end v_told v_wrongAt v_culprit v_ran v_isKept f_base w20_0 f_share f_speed) H := hP
  have hD : va_D A (wX10_carOf cI cJ cS a_o a_base a_refused a_share a_speed z_steps z_kind z_space z_other z_times z_notes z_pitch z_beats z_held z_sort z_size z_shown z_cells z_carried z_words z_tell z_was z_kept z_cutSpace z_cutTimes z_cutOff z_trace v_stretches v_cars v_tunes v_along v_near v_borne v_tempo v_seed v_fault v_from v_at v_end v_told v_wrongAt v_culprit v_ran v_isKept f_base w20_0 f_share f_speed) := hD
  exact W.iret hx hb hr (fun t ht _ => ⟨⟨_, w20_0, rfl, h, hPt hP ht⟩, hS.F ht⟩) hS.2.2 dX10_carOf_23
/-! X10_tune -/
abbrev wX10_tune (cI cJ cS : ClassId) (a_o a_beats a_cells a_held a_notes a_pitch a_refused a_size : Nat) (z_steps z_kind z_space z_other z_times z_speed z_base z_share z_sort z_shown z_carried z_words z_tell z_was z_kept z_cutSpace z_cutTimes z_cutOff z_trace : Value) (v_stretches : Int32) (v_cars : Int32) (v_tunes : Int32) (v_along : Int32) (v_near : Int32) (v_borne : Int32) (v_tempo : Int32) (v_seed : Int32) (v_fault : Int32) (v_from : Int32) (v_at : Int32) (v_end : Int32) (v_told : Int32) (v_wrongAt : Int32) (v_culprit : Int32) (v_ran : Int32) (v_isKept : Int32) (f_beats : Nat → Int32) (g_cells : Nat → Int64) (f_held : Nat → Int32) (f_notes : Nat → Int32) (f_pitch : Nat → Int32) (f_refused : Nat → Int32) (f_size : Nat → Int32) : va_W := [(a_o, .inr (9, [.int v_stretches, .int v_cars, .int v_tunes, .int v_along, .int v_near, .int v_borne, .int v_tempo, .int v_seed, .int v_fault, .ref a_refused, z_steps, z_kind, z_space, z_other, z_times, z_speed, z_base, z_share, .ref a_notes, .ref a_pitch, .ref a_beats, .ref a_held, z_sort, .ref a_size, z_shown, .ref a_cells, z_carried, z_words, z_tell, .int v_from, .int v_at, .int v_end, .int v_told, .int v_wrongAt, z_was, z_kept, .int v_culprit, z_cutSpace, z_cutTimes, z_cutOff, z_trace, .int v_ran, .int v_isKept])), (a_beats, .inl (cI, 72, .inl f_beats)), (a_cells, .inl (cJ, 1280, .inr (.inl g_cells))), (a_held, .inl (cI, 8, .inl f_held)), (a_notes, .inl (cI, 6, .inl f_notes)), (a_pitch, .inl (cI, 72, .inl f_pitch)), (a_refused, .inl (cI, 8, .inl f_refused)), (a_size, .inl (cI, 8, .inl f_size))]
def F_X10_tune_128 (k62 : Int32 → Int32 → Prop) (x1 : Int32) (x2 : Int32) (x5 : Int32) (v_tunes : Int32) (f_beats : Nat → Int32) (f_notes : Nat → Int32) (f_pitch : Nat → Int32) (f_refused : Nat → Int32) (s0 : Int32) : Prop := (∀ x5_130 : Int32, x5_130 = x5 + 1 → k62 s0 x5_130)
def F_X10_tune_127 (k62 : Int32 → Int32 → Prop) (x1 : Int32) (x2 : Int32) (x5 : Int32) (v_tunes : Int32) (f_beats : Nat → Int32) (f_notes : Nat → Int32) (f_pitch : Nat → Int32) (f_refused : Nat → Int32) : Prop := F_X10_tune_128 k62 x1 x2 x5 v_tunes f_beats f_notes f_pitch f_refused 0
def L_X10_tune_62 (g_cells : Nat → Int64) (x1 : Int32) (x2 : Int32) (v_tunes : Int32) (f_beats : Nat → Int32) (f_notes : Nat → Int32) (f_pitch : Nat → Int32) (f_refused : Nat → Int32) (k136 : Int32 → Prop) : Nat → Int32 → Int32 → Prop
  | 0, _, _ => False
  | n62 + 1, x4, x5 => ((x2 ≤ x5 → k136 x4) ∧ (¬ x2 ≤ x5 → ((x4 = 0 → k136 x4) ∧ (¬ x4 = 0 → (F_X10_intAt g_cells x1 (2 * x5) (fun r79 => (F_X10_intAt g_cells x1 ((2 * x5) + 1) (fun r92 => ((r79 < 0 → F_X10_tune_127 (fun x4 x5 => L_X10_tune_62 g_cells x1 x2 v_tunes f_beats f_notes f_pitch f_refused k136 n62 x4 x5) x1 x2 x5 v_tunes f_beats f_notes f_pitch f_refused) ∧ (¬ r79 < 0 → ((9999 < r79 → F_X10_tune_127 (fun x4 x5 => L_X10_tune_62 g_cells x1 x2 v_tunes f_beats f_notes f_pitch f_refused k136 n62 x4 x5) x1 x2 x5 v_tunes f_beats f_notes f_pitch f_refused) ∧ (¬ 9999 < r79 → ((r92 < 1 → F_X10_tune_127 (fun x4 x5 => L_X10_tune_62 g_cells x1 x2 v_tunes f_beats f_notes f_pitch f_refused k136 n62 x4 x5) x1 x2 x5 v_tunes f_beats f_notes f_pitch f_refused) ∧ (¬ r92 < 1 → ((16 < r92 → F_X10_tune_127 (fun x4 x5 => L_X10_tune_62 g_cells x1 x2 v_tunes f_beats f_notes f_pitch f_refused k136 n62 x4 x5) x1 x2 x5 v_tunes f_beats f_notes f_pitch f_refused) ∧ (¬ 16 < r92 → F_X10_tune_128 (fun x4 x5 => L_X10_tune_62 g_cells x1 x2 v_tunes f_beats f_notes f_pitch f_refused k136 n62 x4 x5) x1 x2 x5 v_tunes f_beats f_notes f_pitch f_refused 1))))))))))))))))
def L_X10_tune_177 (g_cells : Nat → Int64) (x1 : Int32) (x2 : Int32) (f_notes : Nat → Int32) (f_refused : Nat → Int32) (post : Int32 → Int32 → (Nat → Int32) → (Nat → Int32) → (Nat → Int32) → (Nat → Int32) → Prop) : Nat → Int32 → Int32 → (Nat → Int32) → (Nat → Int32) → Prop
  | 0, _, _, _, _ => False
  | n177 + 1, x5, v_tunes, f_beats, f_pitch => ((x2 ≤ x5 → post v_tunes (v_tunes + 1) f_beats f_notes f_pitch f_refused) ∧ (¬ x2 ≤ x5 → (F_X10_intAt g_cells x1 (2 * x5) (fun r203 => (vp_in ((12 * v_tunes) + x5) 72 ∧ (F_X10_intAt g_cells x1 ((2 * x5) + 1) (fun r229 => (vp_in ((12 * v_tunes) + x5) 72 ∧ (∀ x5_233 : Int32, x5_233 = x5 + 1 → L_X10_tune_177 g_cells x1 x2 f_notes f_refused post n177 x5_233 v_tunes (upd f_beats ((12 * v_tunes) + x5).toNatClampNeg r229) (upd f_pitch ((12 * v_tunes) + x5).toNatClampNeg r203))))))))))
def F_X10_tune_136 (g_cells : Nat → Int64) (post : Int32 → Int32 → (Nat → Int32) → (Nat → Int32) → (Nat → Int32) → (Nat → Int32) → Prop) (x1 : Int32) (x2 : Int32) (x4 : Int32) (v_tunes : Int32) (f_beats : Nat → Int32) (f_notes : Nat → Int32) (f_pitch : Nat → Int32) (f_refused : Nat → Int32) : Prop := ((x4 = 0 → (F_X10_no f_refused (-6) (fun r144 w144_0 => post r144 v_tunes f_beats f_notes f_pitch w144_0))) ∧ (¬ x4 = 0 → ((v_tunes = 6 → (F_X10_no f_refused (-7) (fun r160 w160_0 => post r160 v_tunes f_beats f_notes f_pitch w160_0))) ∧ (¬ v_tunes = 6 → (vp_in v_tunes 6 ∧ (∃ n177 : Nat, L_X10_tune_177 g_cells x1 x2 (upd f_notes v_tunes.toNatClampNeg x2) f_refused post n177 0 v_tunes f_beats f_pitch))))))
def F_X10_tune_57 (g_cells : Nat → Int64) (post : Int32 → Int32 → (Nat → Int32) → (Nat → Int32) → (Nat → Int32) → (Nat → Int32) → Prop) (x1 : Int32) (x2 : Int32) (v_tunes : Int32) (f_beats : Nat → Int32) (f_notes : Nat → Int32) (f_pitch : Nat → Int32) (f_refused : Nat → Int32) (s0 : Int32) : Prop := (∃ n62 : Nat, L_X10_tune_62 g_cells x1 x2 v_tunes f_beats f_notes f_pitch f_refused (fun x4_1 => F_X10_tune_136 g_cells post x1 x2 x4_1 v_tunes f_beats f_notes f_pitch f_refused) n62 s0 0)
def F_X10_tune (v_tunes : Int32) (f_beats : Nat → Int32) (g_cells : Nat → Int64) (f_held : Nat → Int32) (f_notes : Nat → Int32) (f_pitch : Nat → Int32) (f_refused : Nat → Int32) (f_size : Nat → Int32) (x1 : Int32) (x2 : Int32) (post : Int32 → Int32 → (Nat → Int32) → (Nat → Int32) → (Nat → Int32) → (Nat → Int32) → Prop) : Prop := (F_X10_wants f_held x1 (fun r2 => ((r2 = 0 → ((0 ≤ x2 → (vp_in x1 8 ∧ ((x2 ≤ ((f_size x1.toNatClampNeg) / 2) → ((12 < x2 → F_X10_tune_57 g_cells post x1 x2 v_tunes f_beats f_notes f_pitch f_refused 0) ∧ (¬ 12 < x2 → F_X10_tune_57 g_cells post x1 x2 v_tunes f_beats f_notes f_pitch f_refused 1))) ∧ (¬ x2 ≤ ((f_size x1.toNatClampNeg) / 2) → (F_X10_no f_refused (-5) (fun r42 w42_0 => post r42 v_tunes f_beats f_notes f_pitch w42_0)))))) ∧ (¬ 0 ≤ x2 → (F_X10_no f_refused (-4) (fun r23 w23_0 => post r23 v_tunes f_beats f_notes f_pitch w23_0))))) ∧ (¬ r2 = 0 → (F_X10_no f_refused r2 (fun r12 w12_0 => post r12 v_tunes f_beats f_notes f_pitch w12_0))))))
set_option maxHeartbeats 4000000 in
set_option maxRecDepth 100000 in
theorem w_X10_tune_128 {l : Launch} {D : va_G} {cI cJ cS : ClassId} {ad adK : Nat → Nat} {a_o a_beats a_cells a_held a_notes a_pitch a_refused a_size : Nat} {z_steps z_kind z_space z_other z_times z_speed z_base z_share z_sort z_shown z_carried z_words z_tell z_was z_kept z_cutSpace z_cutTimes z_cutOff z_trace : Value} {v_stretches : Int32} {v_cars : Int32} {v_tunes : Int32} {v_along : Int32} {v_near : Int32} {v_borne : Int32} {v_tempo : Int32} {v_seed : Int32} {v_fault : Int32} {v_from : Int32} {v_at : Int32} {v_end : Int32} {v_told : Int32} {v_wrongAt : Int32} {v_culprit : Int32} {v_ran : Int32} {v_isKept : Int32} {f_beats : Nat → Int32} {g_cells : Nat → Int64} {f_held : Nat → Int32} {f_notes : Nat → Int32} {f_pitch : Nat → Int32} {f_refused : Nat → Int32} {f_size : Nat → Int32} {x1 : Int32} {x2 : Int32} {x5 : Int32} {s0 : Int32} {post : Int32 → Int32 → (Nat → Int32) → (Nat → Int32) → (Nat → Int32) → (Nat → Int32) → Prop} {k62 : Int32 → Int32 → Prop} {p : Program} {e : Env} {s : State} {m : MethodId} {args : Array Value} {below : List Frame} {meth : Method} {c : Code} {A : Nat → Prop} (S : CallFix p m c cX10_tune 8 s args GW "RoadThatSingsModel") (hE : EN D cI cJ cS s) (hT : ST ad adK A s s.heap) (hA : ∀ q : Nat, s.heap.size ≤ q → A q) (hr : meth.sig.returnType = (some (.int))) (hlocks : meth.locks = false) (hk62 : ∀ (x4 : Int32) (x5 : Int32) (H : Heap) (locs : List Loc) (ls : Array Slot), k62 x4 x5 → va_P D vwCl (wX10_tune cI cJ cS a_o a_beats a_cells a_held a_notes a_pitch a_refused a_size z_steps z_kind z_space z_other z_times z_speed z_base z_share z_sort z_shown z_carried z_words z_tell z_was z_kept z_cutSpace z_cutTimes z_cutOff z_trace v_stretches v_cars v_tunes v_along v_near v_borne v_tempo v_seed v_fault v_from v_at v_end v_told v_wrongAt v_culprit v_ran v_isKept f_beats g_cells f_held f_notes f_pitch f_refused f_size) H → va_D A (wX10_tune cI cJ cS a_o a_beats a_cells a_held a_notes a_pitch a_refused a_size z_steps z_kind z_space z_other z_times z_speed z_base z_share z_sort z_shown z_carried z_words z_tell z_was z_kept z_cutSpace z_cutTimes z_cutOff z_trace v_stretches v_cars v_tunes v_along v_near v_borne v_tempo v_seed v_fault v_from v_at v_end v_told v_wrongAt v_culprit v_ran v_isKept f_beats g_cells f_held f_notes f_pitch f_refused f_size) → va_S A s.heap H locs → lv_has ls 8 [(0, .ref a_o), (1, .int x1), (2, .int x2), (4, .int x4), (5, .int x5)] → W p l e (rmd 2 0 0) s m args below meth c H locs 0 0 (MQ below (va_Qi (fun r (u : Int32 × (Nat → Int32) × (Nat → Int32) × (Nat → Int32) × (Nat → Int32)) => post r u.1 u.2.1 u.2.2.1 u.2.2.2.1 u.2.2.2.2) (fun u t => va_P D vwCl (wX10_tune cI cJ cS a_o a_beats a_cells a_held a_notes a_pitch a_refused a_size z_steps z_kind z_space z_other z_times z_speed z_base z_share z_sort z_shown z_carried z_words z_tell z_was z_kept z_cutSpace z_cutTimes z_cutOff z_trace v_stretches v_cars u.1 v_along v_near v_borne v_tempo v_seed v_fault v_from v_at v_end v_told v_wrongAt v_culprit v_ran v_isKept u.2.1 g_cells f_held u.2.2.1 u.2.2.2.1 u.2.2.2.2 f_size) t.heap) A) args s 0 0 A) (F0 m 62 ls [])) : ∀ (H : Heap) (locs : List Loc) (ls : Array Slot), F_X10_tune_128 k62 x1 x2 x5 v_tunes f_beats f_notes f_pitch f_refused s0 → va_P D vwCl (wX10_tune cI cJ cS a_o a_beats a_cells a_held a_notes a_pitch a_refused a_size z_steps z_kind z_space z_other z_times z_speed z_base z_share z_sort z_shown z_carried z_words z_tell z_was z_kept z_cutSpace z_cutTimes z_cutOff z_trace v_stretches v_cars v_tunes v_along v_near v_borne v_tempo v_seed v_fault v_from v_at v_end v_told v_wrongAt v_culprit v_ran v_isKept f_beats g_cells f_held f_notes f_pitch f_refused f_size) H → va_D A (wX10_tune cI cJ cS a_o a_beats a_cells a_held a_notes a_pitch a_refused a_size z_steps z_kind z_space z_other z_times z_speed z_base z_share z_sort z_shown z_carried z_words z_tell z_was z_kept z_cutSpace z_cutTimes z_cutOff z_trace v_stretches v_cars v_tunes v_along v_near v_borne v_tempo v_seed v_fault v_from v_at v_end v_told v_wrongAt v_culprit v_ran v_isKept f_beats g_cells f_held f_notes f_pitch f_refused f_size) → va_S A s.heap H locs → lv_has ls 8 [(0, .ref a_o), (1, .int x1), (2, .int x2), (5, .int x5)] → W p l e (rmd 2 0 0) s m args below meth c H locs 0 0 (MQ below (va_Qi (fun r (u : Int32 × (Nat → Int32) × (Nat → Int32) × (Nat → Int32) × (Nat → Int32)) => post r u.1 u.2.1 u.2.2.1 u.2.2.2.1 u.2.2.2.2) (fun u t => va_P D vwCl (wX10_tune cI cJ cS a_o a_beats a_cells a_held a_notes a_pitch a_refused a_size z_steps z_kind z_space z_other z_times z_speed z_base z_share z_sort z_shown z_carried z_words z_tell z_was z_kept z_cutSpace z_cutTimes z_cutOff z_trace v_stretches v_cars u.1 v_along v_near v_borne v_tempo v_seed v_fault v_from v_at v_end v_told v_wrongAt v_culprit v_ran v_isKept u.2.1 g_cells f_held u.2.2.1 u.2.2.2.1 u.2.2.2.2 f_size) t.heap) A) args s 0 0 A) (F0 m 128 ls [.int s0]) := by
  intro  H locs ls h hP hD hS hl
  unfold F_X10_tune_128 at h
  have hx := S.1
  have hb := S.2.1
  refine lv_istore (lv' := [(4, .int s0), (0, .ref a_o), (1, .int x1), (2, .int x2), (5, .int x5)]) hx hb dX10_tune_128 hl (by decide) rfl (fun ls hl => ?_)
  obtain ⟨x5_130, ex5_130⟩ : ∃ z : Int32, z = x5 + 1 := ⟨_, rfl⟩
  have h := h _ ex5_130
  refine lv_iinc (v := x5_130) (lv' := [(5, .int x5_130), (4, .int s0), (0, .ref a_o), (1, .int x1), (2, .int x2)]) hx hb dX10_tune_130 hl (k := 4) rfl (by rw [ex5_130]; rfl) (by decide) rfl (fun ls hl => ?_)
  refine lv_goto (tgt := 62) hx hb dX10_tune_133 (by decide) ?_
  exact hk62 _ _ _ _ _ h hP hD hS (lv_sub hl [2, 3, 4, 1, 0] rfl)
set_option maxHeartbeats 4000000 in
set_option maxRecDepth 100000 in
theorem w_X10_tune_127 {l : Launch} {D : va_G} {cI cJ cS : ClassId} {ad adK : Nat → Nat} {a_o a_beats a_cells a_held a_notes a_pitch a_refused a_size : Nat} {z_steps z_kind z_space z_other z_times z_speed z_base z_share z_sort z_shown z_carried z_words z_tell z_was z_kept z_cutSpace z_cutTimes z_cutOff z_trace : Value} {v_stretches : Int32} {v_cars : Int32} {v_tunes : Int32} {v_along : Int32} {v_near : Int32} {v_borne : Int32} {v_tempo : Int32} {v_seed : Int32} {v_fault : Int32} {v_from : Int32} {v_at : Int32} {v_end : Int32} {v_told : Int32} {v_wrongAt : Int32} {v_culprit : Int32} {v_ran : Int32} {v_isKept : Int32} {f_beats : Nat → Int32} {g_cells : Nat → Int64} {f_held : Nat → Int32} {f_notes : Nat → Int32} {f_pitch : Nat → Int32} {f_refused : Nat → Int32} {f_size : Nat → Int32} {x1 : Int32} {x2 : Int32} {x5 : Int32} {post : Int32 → Int32 → (Nat → Int32) → (Nat → Int32) → (Nat → Int32) → (Nat → Int32) → Prop} {k62 : Int32 → Int32 → Prop} {p : Program} {e : Env} {s : State} {m : MethodId} {args : Array Value} {below : List Frame} {meth : Method} {c : Code} {A : Nat → Prop} (S : CallFix p m c cX10_tune 8 s args GW "RoadThatSingsModel") (hE : EN D cI cJ cS s) (hT : ST ad adK A s s.heap) (hA : ∀ q : Nat, s.heap.size ≤ q → A q) (hr : meth.sig.returnType = (some (.int))) (hlocks : meth.locks = false) (hk62 : ∀ (x4 : Int32) (x5 : Int32) (H : Heap) (locs : List Loc) (ls : Array Slot), k62 x4 x5 → va_P D vwCl (wX10_tune cI cJ cS a_o a_beats a_cells a_held a_notes a_pitch a_refused a_size z_steps z_kind z_space z_other z_times z_speed z_base z_share z_sort z_shown z_carried z_words z_tell z_was z_kept z_cutSpace z_cutTimes z_cutOff z_trace v_stretches v_cars v_tunes v_along v_near v_borne v_tempo v_seed v_fault v_from v_at v_end v_told v_wrongAt v_culprit v_ran v_isKept f_beats g_cells f_held f_notes f_pitch f_refused f_size) H → va_D A (wX10_tune cI cJ cS a_o a_beats a_cells a_held a_notes a_pitch a_refused a_size z_steps z_kind z_space z_other z_times z_speed z_base z_share z_sort z_shown z_carried z_words z_tell z_was z_kept z_cutSpace z_cutTimes z_cutOff z_trace v_stretches v_cars v_tunes v_along v_near v_borne v_tempo v_seed v_fault v_from v_at v_end v_told v_wrongAt v_culprit v_ran v_isKept f_beats g_cells f_held f_notes f_pitch f_refused f_size) → va_S A s.heap H locs → lv_has ls 8 [(0, .ref a_o), (1, .int x1), (2, .int x2), (4, .int x4), (5, .int x5)] → W p l e (rmd 2 0 0) s m args below meth c H locs 0 0 (MQ below (va_Qi (fun r (u : Int32 × (Nat → Int32) × (Nat → Int32) × (Nat → Int32) × (Nat → Int32)) => post r u.1 u.2.1 u.2.2.1 u.2.2.2.1 u.2.2.2.2) (fun u t => va_P D vwCl (wX10_tune cI cJ cS a_o a_beats a_cells a_held a_notes a_pitch a_refused a_size z_steps z_kind z_space z_other z_times z_speed z_base z_share z_sort z_shown z_carried z_words z_tell z_was z_kept z_cutSpace z_cutTimes z_cutOff z_trace v_stretches v_cars u.1 v_along v_near v_borne v_tempo v_seed v_fault v_from v_at v_end v_told v_wrongAt v_culprit v_ran v_isKept u.2.1 g_cells f_held u.2.2.1 u.2.2.2.1 u.2.2.2.2 f_size) t.heap) A) args s 0 0 A) (F0 m 62 ls [])) : ∀ (H : Heap) (locs : List Loc) (ls : Array Slot), F_X10_tune_127 k62 x1 x2 x5 v_tunes f_beats f_notes f_pitch f_refused → va_P D vwCl (wX10_tune cI cJ cS a_o a_beats a_cells a_held a_notes a_pitch a_refused a_size z_steps z_kind z_space z_other z_times z_speed z_base z_share z_sort z_shown z_carried z_words z_tell z_was z_kept z_cutSpace z_cutTimes z_cutOff z_trace v_stretches v_cars v_tunes v_along v_near v_borne v_tempo v_seed v_fault v_from v_at v_end v_told v_wrongAt v_culprit v_ran v_isKept f_beats g_cells f_held f_notes f_pitch f_refused f_size) H → va_D A (wX10_tune cI cJ cS a_o a_beats a_cells a_held a_notes a_pitch a_refused a_size z_steps z_kind z_space z_other z_times z_speed z_base z_share z_sort z_shown z_carried z_words z_tell z_was z_kept z_cutSpace z_cutTimes z_cutOff z_trace v_stretches v_cars v_tunes v_along v_near v_borne v_tempo v_seed v_fault v_from v_at v_end v_told v_wrongAt v_culprit v_ran v_isKept f_beats g_cells f_held f_notes f_pitch f_refused f_size) → va_S A s.heap H locs → lv_has ls 8 [(0, .ref a_o), (1, .int x1), (2, .int x2), (5, .int x5)] → W p l e (rmd 2 0 0) s m args below meth c H locs 0 0 (MQ below (va_Qi (fun r (u : Int32 × (Nat → Int32) × (Nat → Int32) × (Nat → Int32) × (Nat → Int32)) => post r u.1 u.2.1 u.2.2.1 u.2.2.2.1 u.2.2.2.2) (fun u t => va_P D vwCl (wX10_tune cI cJ cS a_o a_beats a_cells a_held a_notes a_pitch a_refused a_size z_steps z_kind z_space z_other z_times z_speed z_base z_share z_sort z_shown z_carried z_words z_tell z_was z_kept z_cutSpace z_cutTimes z_cutOff z_trace v_stretches v_cars u.1 v_along v_near v_borne v_tempo v_seed v_fault v_from v_at v_end v_told v_wrongAt v_culprit v_ran v_isKept u.2.1 g_cells f_held u.2.2.1 u.2.2.2.1 u.2.2.2.2 f_size) t.heap) A) args s 0 0 A) (F0 m 127 ls []) := by
  intro  H locs ls h hP hD hS hl
  unfold F_X10_tune_127 at h
  have hx := S.1
  have hb := S.2.1
  refine lv_iconst (v := 0) hx hb dX10_tune_127 (by decide) ?_
  refine w_X10_tune_128 S hE hT hA hr hlocks hk62 _ _ _ h hP hD hS (lv_sub hl [0, 1, 2, 3] rfl)
set_option maxHeartbeats 4000000 in
set_option maxRecDepth 100000 in
theorem w_X10_tune_62 {l : Launch} {D : va_G} {cI cJ cS : ClassId} {ad adK : Nat → Nat} {a_o a_beats a_cells a_held a_notes a_pitch a_refused a_size : Nat} {z_steps z_kind z_space z_other z_times z_speed z_base z_share z_sort z_shown z_carried z_words z_tell z_was z_kept z_cutSpace z_cutTimes z_cutOff z_trace : Value} {v_stretches : Int32} {v_cars : Int32} {v_tunes : Int32} {v_along : Int32} {v_near : Int32} {v_borne : Int32} {v_tempo : Int32} {v_seed : Int32} {v_fault : Int32} {v_from : Int32} {v_at : Int32} {v_end : Int32} {v_told : Int32} {v_wrongAt : Int32} {v_culprit : Int32} {v_ran : Int32} {v_isKept : Int32} {f_beats : Nat → Int32} {g_cells : Nat → Int64} {f_held : Nat → Int32} {f_notes : Nat → Int32} {f_pitch : Nat → Int32} {f_refused : Nat → Int32} {f_size : Nat → Int32} {x1 : Int32} {x2 : Int32} {post : Int32 → Int32 → (Nat → Int32) → (Nat → Int32) → (Nat → Int32) → (Nat → Int32) → Prop} {k136 : Int32 → Prop} {p : Program} {e : Env} {s : State} {m : MethodId} {args : Array Value} {below : List Frame} {meth : Method} {c : Code} {A : Nat → Prop} (S : CallFix p m c cX10_tune 8 s args GW "RoadThatSingsModel") (hE : EN D cI cJ cS s) (hT : ST ad adK A s s.heap) (hA : ∀ q : Nat, s.heap.size ≤ q → A q) (hr : meth.sig.returnType = (some (.int))) (hlocks : meth.locks = false) (hk136 : ∀ (x4 : Int32) (H : Heap) (locs : List Loc) (ls : Array Slot), k136 x4 → va_P D vwCl (wX10_tune cI cJ cS a_o a_beats a_cells a_held a_notes a_pitch a_refused a_size z_steps z_kind z_space z_other z_times z_speed z_base z_share z_sort z_shown z_carried z_words z_tell z_was z_kept z_cutSpace z_cutTimes z_cutOff z_trace v_stretches v_cars v_tunes v_along v_near v_borne v_tempo v_seed v_fault v_from v_at v_end v_told v_wrongAt v_culprit v_ran v_isKept f_beats g_cells f_held f_notes f_pitch f_refused f_size) H → va_D A (wX10_tune cI cJ cS a_o a_beats a_cells a_held a_notes a_pitch a_refused a_size z_steps z_kind z_space z_other z_times z_speed z_base z_share z_sort z_shown z_carried z_words z_tell z_was z_kept z_cutSpace z_cutTimes z_cutOff z_trace v_stretches v_cars v_tunes v_along v_near v_borne v_tempo v_seed v_fault v_from v_at v_end v_told v_wrongAt v_culprit v_ran v_isKept f_beats g_cells f_held f_notes f_pitch f_refused f_size) → va_S A s.heap H locs → lv_has ls 8 [(0, .ref a_o), (1, .int x1), (2, .int x2), (4, .int x4)] → W p l e (rmd 2 0 0) s m args below meth c H locs 0 0 (MQ below (va_Qi (fun r (u : Int32 × (Nat → Int32) × (Nat → Int32) × (Nat → Int32) × (Nat → Int32)) => post r u.1 u.2.1 u.2.2.1 u.2.2.2.1 u.2.2.2.2) (fun u t => va_P D vwCl (wX10_tune cI cJ cS a_o a_beats a_cells a_held a_notes a_pitch a_refused a_size z_steps z_kind z_space z_other z_times z_speed z_base z_share z_sort z_shown z_carried z_words z_tell z_was z_kept z_cutSpace z_cutTimes z_cutOff z_trace v_stretches v_cars u.1 v_along v_near v_borne v_tempo v_seed v_fault v_from v_at v_end v_told v_wrongAt v_culprit v_ran v_isKept u.2.1 g_cells f_held u.2.2.1 u.2.2.2.1 u.2.2.2.2 f_size) t.heap) A) args s 0 0 A) (F0 m 136 ls [])) : ∀ n : Nat, ∀ (x4 : Int32) (x5 : Int32) (H : Heap) (locs : List Loc) (ls : Array Slot), L_X10_tune_62 g_cells x1 x2 v_tunes f_beats f_notes f_pitch f_refused k136 n x4 x5 → va_P D vwCl (wX10_tune cI cJ cS a_o a_beats a_cells a_held a_notes a_pitch a_refused a_size z_steps z_kind z_space z_other z_times z_speed z_base z_share z_sort z_shown z_carried z_words z_tell z_was z_kept z_cutSpace z_cutTimes z_cutOff z_trace v_stretches v_cars v_tunes v_along v_near v_borne v_tempo v_seed v_fault v_from v_at v_end v_told v_wrongAt v_culprit v_ran v_isKept f_beats g_cells f_held f_notes f_pitch f_refused f_size) H → va_D A (wX10_tune cI cJ cS a_o a_beats a_cells a_held a_notes a_pitch a_refused a_size z_steps z_kind z_space z_other z_times z_speed z_base z_share z_sort z_shown z_carried z_words z_tell z_was z_kept z_cutSpace z_cutTimes z_cutOff z_trace v_stretches v_cars v_tunes v_along v_near v_borne v_tempo v_seed v_fault v_from v_at v_end v_told v_wrongAt v_culprit v_ran v_isKept f_beats g_cells f_held f_notes f_pitch f_refused f_size) → va_S A s.heap H locs → lv_has ls 8 [(0, .ref a_o), (1, .int x1), (2, .int x2), (4, .int x4), (5, .int x5)] → W p l e (rmd 2 0 0) s m args below meth c H locs 0 0 (MQ below (va_Qi (fun r (u : Int32 × (Nat → Int32) × (Nat → Int32) × (Nat → Int32) × (Nat → Int32)) => post r u.1 u.2.1 u.2.2.1 u.2.2.2.1 u.2.2.2.2) (fun u t => va_P D vwCl (wX10_tune cI cJ cS a_o a_beats a_cells a_held a_notes a_pitch a_refused a_size z_steps z_kind z_space z_other z_times z_speed z_base z_share z_sort z_shown z_carried z_words z_tell z_was z_kept z_cutSpace z_cutTimes z_cutOff z_trace v_stretches v_cars u.1 v_along v_near v_borne v_tempo v_seed v_fault v_from v_at v_end v_told v_wrongAt v_culprit v_ran v_isKept u.2.1 g_cells f_held u.2.2.1 u.2.2.2.1 u.2.2.2.2 f_size) t.heap) A) args s 0 0 A) (F0 m 62 ls []) := by
  intro n
  induction n with
  | zero =>
    intro x4 x5 H locs ls h hP hD hS hl
    exact h.elim
  | succ n ih =>
    intro x4 x5 H locs ls h hP hD hS hl
    rw [L_X10_tune_62] at h
    have hx := S.1
    have hb := S.2.1
    refine lv_iload hx hb dX10_tune_62 (lv_at hl 4 rfl) ?_
    refine lv_iload_n hx hb dX10_tune_64 rfl (lv_at hl 2 rfl) ?_
    refine lv_icmp_ge (tgt := 136) hx hb dX10_tune_65 (by decide) (fun hc => ?_) (fun hc => ?_)
    · have h := h.1 hc
      exact hk136 _ _ _ _ h hP hD hS (lv_sub hl [0, 1, 2, 3] rfl)
    have h := h.2 hc
    refine lv_iload hx hb dX10_tune_68 (lv_at hl 3 rfl) ?_
    refine lv_if_eq (tgt := 136) hx hb dX10_tune_70 (by decide) (fun hc => ?_) (fun hc => ?_)
    · have h := h.1 hc
      exact hk136 _ _ _ _ h hP hD hS (lv_sub hl [0, 1, 2, 3] rfl)
    have h := h.2 hc
    refine lv_aload_n hx hb dX10_tune_73 rfl (lv_at hl 0 rfl) ?_
    refine lv_iload_n hx hb dX10_tune_74 rfl (lv_at hl 1 rfl) ?_
    refine lv_iconst (v := 2) hx hb dX10_tune_75 (by decide) ?_
    refine lv_iload hx hb dX10_tune_76 (lv_at hl 4 rfl) ?_
    refine lv_imul hx hb dX10_tune_78 ?_
    refine ro_i (roV S hE hT hS (c_X10_intAt h) lkX10_145 rfl ⟨(Nat.le_of_ble_eq_true rfl), (Nat.le_of_ble_eq_true rfl)⟩ (hP.sub [0, 2] rfl) 0 rfl rfl hl.1 rfl (Nat.le_of_ble_eq_true rfl) dX10_tune_79 ⟨(Nat.zero_le _), (Nat.zero_le _)⟩) (fun r79 h => ?_)
    refine lv_istore (lv' := [(6, .int r79), (0, .ref a_o), (1, .int x1), (2, .int x2), (4, .int x4), (5, .int x5)]) hx hb dX10_tune_82 hl (by decide) rfl (fun ls hl => ?_)
    refine lv_aload_n hx hb dX10_tune_84 rfl (lv_at hl 1 rfl) ?_
    refine lv_iload_n hx hb dX10_tune_85 rfl (lv_at hl 2 rfl) ?_
    refine lv_iconst (v := 2) hx hb dX10_tune_86 (by decide) ?_
    refine lv_iload hx hb dX10_tune_87 (lv_at hl 5 rfl) ?_
    refine lv_imul hx hb dX10_tune_89 ?_
    refine lv_iconst (v := 1) hx hb dX10_tune_90 (by decide) ?_
    refine lv_iadd hx hb dX10_tune_91 ?_
    refine ro_i (roV S hE hT hS (c_X10_intAt h) lkX10_145 rfl ⟨(Nat.le_of_ble_eq_true rfl), (Nat.le_of_ble_eq_true rfl)⟩ (hP.sub [0, 2] rfl) 0 rfl rfl hl.1 rfl (Nat.le_of_ble_eq_true rfl) dX10_tune_92 ⟨(Nat.zero_le _), (Nat.zero_le _)⟩) (fun r92 h => ?_)
    refine lv_istore (lv' := [(7, .int r92), (6, .int r79), (0, .ref a_o), (1, .int x1), (2, .int x2), (4, .int x4), (5, .int x5)]) hx hb dX10_tune_95 hl (by decide) rfl (fun ls hl => ?_)
    refine lv_iload hx hb dX10_tune_97 (lv_at hl 1 rfl) ?_
    refine lv_if_lt (tgt := 127) hx hb dX10_tune_99 (by decide) (fun hc => ?_) (fun hc => ?_)
    · have h := h.1 hc
      refine w_X10_tune_127 S hE hT hA hr hlocks ih _ _ _ h hP hD hS (lv_sub hl [2, 3, 4, 6] rfl)
    have h := h.2 hc
    refine lv_iload hx hb dX10_tune_102 (lv_at hl 1 rfl) ?_
    refine lv_sipush (v := 9999) hx hb dX10_tune_104 (by decide) ?_
    refine lv_icmp_gt (tgt := 127) hx hb dX10_tune_107 (by decide) (fun hc => ?_) (fun hc => ?_)
    · have h := h.1 hc
      refine w_X10_tune_127 S hE hT hA hr hlocks ih _ _ _ h hP hD hS (lv_sub hl [2, 3, 4, 6] rfl)
    have h := h.2 hc
    refine lv_iload hx hb dX10_tune_110 (lv_at hl 0 rfl) ?_
    refine lv_iconst (v := 1) hx hb dX10_tune_112 (by decide) ?_
    refine lv_icmp_lt (tgt := 127) hx hb dX10_tune_113 (by decide) (fun hc => ?_) (fun hc => ?_)
    · have h := h.1 hc
      refine w_X10_tune_127 S hE hT hA hr hlocks ih _ _ _ h hP hD hS (lv_sub hl [2, 3, 4, 6] rfl)
    have h := h.2 hc
    refine lv_iload hx hb dX10_tune_116 (lv_at hl 0 rfl) ?_
    refine lv_bipush (v := 16) hx hb dX10_tune_118 (by decide) ?_
    refine lv_icmp_gt (tgt := 127) hx hb dX10_tune_120 (by decide) (fun hc => ?_) (fun hc => ?_)
    · have h := h.1 hc
      refine w_X10_tune_127 S hE hT hA hr hlocks ih _ _ _ h hP hD hS (lv_sub hl [2, 3, 4, 6] rfl)
    have h := h.2 hc
    refine lv_iconst (v := 1) hx hb dX10_tune_123 (by decide) ?_
    refine lv_goto (tgt := 128) hx hb dX10_tune_124 (by decide) ?_
    refine w_X10_tune_128 S hE hT hA hr hlocks ih _ _ _ h hP hD hS (lv_sub hl [2, 3, 4, 6] rfl)
set_option maxHeartbeats 4000000 in
set_option maxRecDepth 100000 in
theorem w_X10_tune_177 {l : Launch} {D : va_G} {cI cJ cS : ClassId} {ad adK : Nat → Nat} {a_o a_beats a_cells a_held a_notes a_pitch a_refused a_size : Nat} {z_steps z_kind z_space z_other z_times z_speed z_base z_share z_sort z_shown z_carried z_words z_tell z_was z_kept z_cutSpace z_cutTimes z_cutOff z_trace : Value} {v_stretches : Int32} {v_cars : Int32} {v_along : Int32} {v_near : Int32} {v_borne : Int32} {v_tempo : Int32} {v_seed : Int32} {v_fault : Int32} {v_from : Int32} {v_at : Int32} {v_end : Int32} {v_told : Int32} {v_wrongAt : Int32} {v_culprit : Int32} {v_ran : Int32} {v_isKept : Int32} {g_cells : Nat → Int64} {f_held : Nat → Int32} {f_notes : Nat → Int32} {f_refused : Nat → Int32} {f_size : Nat → Int32} {x1 : Int32} {x2 : Int32} {post : Int32 → Int32 → (Nat → Int32) → (Nat → Int32) → (Nat → Int32) → (Nat → Int32) → Prop} {p : Program} {e : Env} {s : State} {m : MethodId} {args : Array Value} {below : List Frame} {meth : Method} {c : Code} {A : Nat → Prop} (S : CallFix p m c cX10_tune 8 s args GW "RoadThatSingsModel") (hE : EN D cI cJ cS s) (hT : ST ad adK A s s.heap) (hA : ∀ q : Nat, s.heap.size ≤ q → A q) (hr : meth.sig.returnType = (some (.int))) (hlocks : meth.locks = false) : ∀ n : Nat, ∀ (x5 : Int32) (v_tunes : Int32) (f_beats : Nat → Int32) (f_pitch : Nat → Int32) (H : Heap) (locs : List Loc) (ls : Array Slot), L_X10_tune_177 g_cells x1 x2 f_notes f_refused post n x5 v_tunes f_beats f_pitch → va_P D vwCl (wX10_tune cI cJ cS a_o a_beats a_cells a_held a_notes a_pitch a_refused a_size z_steps z_kind z_space z_other z_times z_speed z_base z_share z_sort z_shown z_carried z_words z_tell z_was z_kept z_cutSpace z_cutTimes z_cutOff z_trace v_stretches v_cars v_tunes v_along v_near v_borne v_tempo v_seed v_fault v_from v_at v_end v_told v_wrongAt v_culprit v_ran v_isKept f_beats g_cells f_held f_notes f_pitch f_refused f_size) H → va_D A (wX10_tune cI cJ cS a_o a_beats a_cells a_held a_notes a_pitch a_refused a_size z_steps z_kind z_space z_other z_times z_speed z_base z_share z_sort z_shown z_carried z_words z_tell z_was z_kept z_cutSpace z_cutTimes z_cutOff z_trace v_stretches v_cars v_tunes v_along v_near v_borne v_tempo v_seed v_fault v_from v_at v_end v_told v_wrongAt v_culprit v_ran v_isKept f_beats g_cells f_held f_notes f_pitch f_refused f_size) → va_S A s.heap H locs → lv_has ls 8 [(0, .ref a_o), (1, .int x1), (2, .int x2), (5, .int x5)] → W p l e (rmd 2 0 0) s m args below meth c H locs 0 0 (MQ below (va_Qi (fun r (u : Int32 × (Nat → Int32) × (Nat → Int32) × (Nat → Int32) × (Nat → Int32)) => post r u.1 u.2.1 u.2.2.1 u.2.2.2.1 u.2.2.2.2) (fun u t => va_P D vwCl (wX10_tune cI cJ cS a_o a_beats a_cells a_held a_notes a_pitch a_refused a_size z_steps z_kind z_space z_other z_times z_speed z_base z_share z_sort z_shown z_carried z_words z_tell z_was z_kept z_cutSpace z_cutTimes z_cutOff z_trace v_stretches v_cars u.1 v_along v_near v_borne v_tempo v_seed v_fault v_from v_at v_end v_told v_wrongAt v_culprit v_ran v_isKept u.2.1 g_cells f_held u.2.2.1 u.2.2.2.1 u.2.2.2.2 f_size) t.heap) A) args s 0 0 A) (F0 m 177 ls []) := by
  intro n
  induction n with
  | zero =>
    intro x5 v_tunes f_beats f_pitch H locs ls h hP hD hS hl
    exact h.elim
  | succ n ih =>
    intro x5 v_tunes f_beats f_pitch H locs ls h hP hD hS hl
    rw [L_X10_tune_177] at h
    have hx := S.1
    have hb := S.2.1
    refine lv_iload hx hb dX10_tune_177 (lv_at hl 3 rfl) ?_
    refine lv_iload_n hx hb dX10_tune_179 rfl (lv_at hl 2 rfl) ?_
    refine lv_icmp_ge (tgt := 239) hx hb dX10_tune_180 (by decide) (fun hc => ?_) (fun hc => ?_)
    · have h := h.1 hc
      refine lv_aload_n hx hb dX10_tune_239 rfl (lv_at hl 0 rfl) ?_
      refine lv_dup hx hb dX10_tune_240 rfl ?_
      refine gf S hE hP 0 rfl rfl inX10 (k := 2) (by decide) q1095 rfl dX10_tune_241 ?_
      refine lv_dup_x1 hx hb dX10_tune_244 rfl rfl ?_
      refine lv_iconst (v := 1) hx hb dX10_tune_245 (by decide) ?_
      refine lv_iadd hx hb dX10_tune_246 ?_
      refine pf S hE hP hD hS 0 (k := 2) rfl rfl inX10 tyX10_ok nmX10 (by decide) q1095 rfl rfl rfl (Nat.le_of_ble_eq_true rfl) dX10_tune_247 (fun H locs hP hD hS => ?_)
      have hP : va_P D vwCl (wX10_tune cI cJ cS a_o a_beats a_cells a_held a_notes a_pitch a_refused a_size z_steps z_kind z_space z_other z_times z_speed z_base z_share z_sort z_shown z_carried z_words z_tell z_was z_kept z_cutSpace z_cutTimes z_cutOff z_trace v_stretches v_cars (v_tunes + 1) v_along v_near v_borne v_tempo v_seed v_fault v_from v_at v_end v_told v_wrongAt v_culprit v_ran v_isKept f_beats g_cells f_held f_notes f_pitch f_refused f_size) H := hP
      have hD : va_D A (wX10_tune cI cJ cS a_o a_beats a_cells a_held a_notes a_pitch a_refused a_size z_steps z_kind z_space z_other z_times z_speed z_base z_share z_sort z_shown z_carried z_words z_tell z_was z_kept z_cutSpace z_cutTimes z_cutOff z_trace v_stretches v_cars (v_tunes + 1) v_along v_near v_borne v_tempo v_seed v_fault v_from v_at v_end v_told v_wrongAt v_culprit v_ran v_isKept f_beats g_cells f_held f_notes f_pitch f_refused f_size) := hD
      exact W.iret hx hb hr (fun t ht _ => ⟨⟨_, ((v_tunes + 1), f_beats, f_notes, f_pitch, f_refused), rfl, h, hPt hP ht⟩, hS.F ht⟩) hS.2.2 dX10_tune_250
    have h := h.2 hc
    refine lv_aload_n hx hb dX10_tune_183 rfl (lv_at hl 0 rfl) ?_
    refine gf S hE hP 0 rfl rfl inX10 (k := 19) (by decide) q1112 rfl dX10_tune_184 ?_
    refine lv_bipush (v := 12) hx hb dX10_tune_187 (by decide) ?_
    refine lv_aload_n hx hb dX10_tune_189 rfl (lv_at hl 0 rfl) ?_
    refine gf S hE hP 0 rfl rfl inX10 (k := 2) (by decide) q1095 rfl dX10_tune_190 ?_
    refine lv_imul hx hb dX10_tune_193 ?_
    refine lv_iload hx hb dX10_tune_194 (lv_at hl 3 rfl) ?_
    refine lv_iadd hx hb dX10_tune_196 ?_
    refine lv_aload_n hx hb dX10_tune_197 rfl (lv_at hl 0 rfl) ?_
    refine lv_iload_n hx hb dX10_tune_198 rfl (lv_at hl 1 rfl) ?_
    refine lv_iconst (v := 2) hx hb dX10_tune_199 (by decide) ?_
    refine lv_iload hx hb dX10_tune_200 (lv_at hl 3 rfl) ?_
    refine lv_imul hx hb dX10_tune_202 ?_
    refine ro_i (roV S hE hT hS (c_X10_intAt h) lkX10_145 rfl ⟨(Nat.le_of_ble_eq_true rfl), (Nat.le_of_ble_eq_true rfl)⟩ (hP.sub [0, 2] rfl) 0 rfl rfl hl.1 rfl (Nat.le_of_ble_eq_true rfl) dX10_tune_203 ⟨(Nat.zero_le _), (Nat.zero_le _)⟩) (fun r203 h => ?_)
    obtain ⟨hi, h⟩ := h
    refine ias S hE hP hD hS 5 rfl hi dX10_tune_206 (fun H locs hP hD hS => ?_)
    have hP : va_P D vwCl (wX10_tune cI cJ cS a_o a_beats a_cells a_held a_notes a_pitch a_refused a_size z_steps z_kind z_space z_other z_times z_speed z_base z_share z_sort z_shown z_carried z_words z_tell z_was z_kept z_cutSpace z_cutTimes z_cutOff z_trace v_stretches v_cars v_tunes v_along v_near v_borne v_tempo v_seed v_fault v_from v_at v_end v_told v_wrongAt v_culprit v_ran v_isKept f_beats g_cells f_held f_notes (upd f_pitch ((12 * v_tunes) + x5).toNatClampNeg r203) f_refused f_size) H := hP
    have hD : va_D A (wX10_tune cI cJ cS a_o a_beats a_cells a_held a_notes a_pitch a_refused a_size z_steps z_kind z_space z_other z_times z_speed z_base z_share z_sort z_shown z_carried z_words z_tell z_was z_kept z_cutSpace z_cutTimes z_cutOff z_trace v_stretches v_cars v_tunes v_along v_near v_borne v_tempo v_seed v_fault v_from v_at v_end v_told v_wrongAt v_culprit v_ran v_isKept f_beats g_cells f_held f_notes (upd f_pitch ((12 * v_tunes) + x5).toNatClampNeg r203) f_refused f_size) := hD
    refine lv_aload_n hx hb dX10_tune_207 rfl (lv_at hl 0 rfl) ?_
    refine gf S hE hP 0 rfl rfl inX10 (k := 20) (by decide) q1113 rfl dX10_tune_208 ?_
    refine lv_bipush (v := 12) hx hb dX10_tune_211 (by decide) ?_
    refine lv_aload_n hx hb dX10_tune_213 rfl (lv_at hl 0 rfl) ?_
    refine gf S hE hP 0 rfl rfl inX10 (k := 2) (by decide) q1095 rfl dX10_tune_214 ?_
    refine lv_imul hx hb dX10_tune_217 ?_
    refine lv_iload hx hb dX10_tune_218 (lv_at hl 3 rfl) ?_
    refine lv_iadd hx hb dX10_tune_220 ?_
    refine lv_aload_n hx hb dX10_tune_221 rfl (lv_at hl 0 rfl) ?_
    refine lv_iload_n hx hb dX10_tune_222 rfl (lv_at hl 1 rfl) ?_
    refine lv_iconst (v := 2) hx hb dX10_tune_223 (by decide) ?_
    refine lv_iload hx hb dX10_tune_224 (lv_at hl 3 rfl) ?_
    refine lv_imul hx hb dX10_tune_226 ?_
    refine lv_iconst (v := 1) hx hb dX10_tune_227 (by decide) ?_
    refine lv_iadd hx hb dX10_tune_228 ?_
    refine ro_i (roV S hE hT hS (c_X10_intAt h) lkX10_145 rfl ⟨(Nat.le_of_ble_eq_true rfl), (Nat.le_of_ble_eq_true rfl)⟩ (hP.sub [0, 2] rfl) 0 rfl rfl hl.1 rfl (Nat.le_of_ble_eq_true rfl) dX10_tune_229 ⟨(Nat.zero_le _), (Nat.zero_le _)⟩) (fun r229 h => ?_)
    obtain ⟨hi, h⟩ := h
    refine ias S hE hP hD hS 1 rfl hi dX10_tune_232 (fun H locs hP hD hS => ?_)
    have hP : va_P D vwCl (wX10_tune cI cJ cS a_o a_beats a_cells a_held a_notes a_pitch a_refused a_size z_steps z_kind z_space z_other z_times z_speed z_base z_share z_sort z_shown z_carried z_words z_tell z_was z_kept z_cutSpace z_cutTimes z_cutOff z_trace v_stretches v_cars v_tunes v_along v_near v_borne v_tempo v_seed v_fault v_from v_at v_end v_told v_wrongAt v_culprit v_ran v_isKept (upd f_beats ((12 * v_tunes) + x5).toNatClampNeg r229) g_cells f_held f_notes (upd f_pitch ((12 * v_tunes) + x5).toNatClampNeg r203) f_refused f_size) H := hP
    have hD : va_D A (wX10_tune cI cJ cS a_o a_beats a_cells a_held a_notes a_pitch a_refused a_size z_steps z_kind z_space z_other z_times z_speed z_base z_share z_sort z_shown z_carried z_words z_tell z_was z_kept z_cutSpace z_cutTimes z_cutOff z_trace v_stretches v_cars v_tunes v_along v_near v_borne v_tempo v_seed v_fault v_from v_at v_end v_told v_wrongAt v_culprit v_ran v_isKept (upd f_beats ((12 * v_tunes) + x5).toNatClampNeg r229) g_cells f_held f_notes (upd f_pitch ((12 * v_tunes) + x5).toNatClampNeg r203) f_refused f_size) := hD
    obtain ⟨x5_233, ex5_233⟩ : ∃ z : Int32, z = x5 + 1 := ⟨_, rfl⟩
    have h := h _ ex5_233
    refine lv_iinc (v := x5_233) (lv' := [(5, .int x5_233), (0, .ref a_o), (1, .int x1), (2, .int x2)]) hx hb dX10_tune_233 hl (k := 3) rfl (by rw [ex5_233]; rfl) (by decide) rfl (fun ls hl => ?_)
    refine lv_goto (tgt := 177) hx hb dX10_tune_236 (by decide) ?_
    exact ih _ _ _ _ _ _ _ h hP hD hS (lv_sub hl [1, 2, 3, 0] rfl)
set_option maxHeartbeats 4000000 in
set_option maxRecDepth 100000 in
theorem w_X10_tune_136 {l : Launch} {D : va_G} {cI cJ cS : ClassId} {ad adK : Nat → Nat} {a_o a_beats a_cells a_held a_notes a_pitch a_refused a_size : Nat} {z_steps z_kind z_space z_other z_times z_speed z_base z_share z_sort z_shown z_carried z_words z_tell z_was z_kept z_cutSpace z_cutTimes z_cutOff z_trace : Value} {v_stretches : Int32} {v_cars : Int32} {v_tunes : Int32} {v_along : Int32} {v_near : Int32} {v_borne : Int32} {v_tempo : Int32} {v_seed : Int32} {v_fault : Int32} {v_from : Int32} {v_at : Int32} {v_end : Int32} {v_told : Int32} {v_wrongAt : Int32} {v_culprit : Int32} {v_ran : Int32} {v_isKept : Int32} {f_beats : Nat → Int32} {g_cells : Nat → Int64} {f_held : Nat → Int32} {f_notes : Nat → Int32} {f_pitch : Nat → Int32} {f_refused : Nat → Int32} {f_size : Nat → Int32} {x1 : Int32} {x2 : Int32} {x4 : Int32} {post : Int32 → Int32 → (Nat → Int32) → (Nat → Int32) → (Nat → Int32) → (Nat → Int32) → Prop} {p : Program} {e : Env} {s : State} {m : MethodId} {args : Array Value} {below : List Frame} {meth : Method} {c : Code} {A : Nat → Prop} (S : CallFix p m c cX10_tune 8 s args GW "RoadThatSingsModel") (hE : EN D cI cJ cS s) (hT : ST ad adK A s s.heap) (hA : ∀ q : Nat, s.heap.size ≤ q → A q) (hr : meth.sig.returnType = (some (.int))) (hlocks : meth.locks = false) : ∀ (H : Heap) (locs : List Loc) (ls : Array Slot), F_X10_tune_136 g_cells post x1 x2 x4 v_tunes f_beats f_notes f_pitch f_refused → va_P D vwCl (wX10_tune cI cJ cS a_o a_beats a_cells a_held a_notes a_pitch a_refused a_size z_steps z_kind z_space z_other z_times z_speed z_base z_share z_sort z_shown z_carried z_words z_tell z_was z_kept z_cutSpace z_cutTimes z_cutOff z_trace v_stretches v_cars v_tunes v_along v_near v_borne v_tempo v_seed v_fault v_from v_at v_end v_told v_wrongAt v_culprit v_ran v_isKept f_beats g_cells f_held f_notes f_pitch f_refused f_size) H → va_D A (wX10_tune cI cJ cS a_o a_beats a_cells a_held a_notes a_pitch a_refused a_size z_steps z_kind z_space z_other z_times z_speed z_base z_share z_sort z_shown z_carried z_words z_tell z_was z_kept z_cutSpace z_cutTimes z_cutOff z_trace v_stretches v_cars v_tunes v_along v_near v_borne v_tempo v_seed v_fault v_from v_at v_end v_told v_wrongAt v_culprit v_ran v_isKept f_beats g_cells f_held f_notes f_pitch f_refused f_size) → va_S A s.heap H locs → lv_has ls 8 [(0, .ref a_o), (1, .int x1), (2, .int x2), (4, .int x4)] → W p l e (rmd 2 0 0) s m args below meth c H locs 0 0 (MQ below (va_Qi (fun r (u : Int32 × (Nat → Int32) × (Nat → Int32) × (Nat → Int32) × (Nat → Int32)) => post r u.1 u.2.1 u.2.2.1 u.2.2.2.1 u.2.2.2.2) (fun u t => va_P D vwCl (wX10_tune cI cJ cS a_o a_beats a_cells a_held a_notes a_pitch a_refused a_size z_steps z_kind z_space z_other z_times z_speed z_base z_share z_sort z_shown z_carried z_words z_tell z_was z_kept z_cutSpace z_cutTimes z_cutOff z_trace v_stretches v_cars u.1 v_along v_near v_borne v_tempo v_seed v_fault v_from v_at v_end v_told v_wrongAt v_culprit v_ran v_isKept u.2.1 g_cells f_held u.2.2.1 u.2.2.2.1 u.2.2.2.2 f_size) t.heap) A) args s 0 0 A) (F0 m 136 ls []) := by
  intro  H locs ls h hP hD hS hl
  unfold F_X10_tune_136 at h
  have hx := S.1
  have hb := S.2.1
  refine lv_iload hx hb dX10_tune_136 (lv_at hl 3 rfl) ?_
  refine lv_if_ne (tgt := 148) hx hb dX10_tune_138 (by decide) (fun hc => ?_) (fun hc => ?_)
  · have h := h.2 hc
    refine lv_aload_n hx hb dX10_tune_148 rfl (lv_at hl 0 rfl) ?_
    refine gf S hE hP 0 rfl rfl inX10 (k := 2) (by decide) q1095 rfl dX10_tune_149 ?_
    refine lv_bipush (v := 6) hx hb dX10_tune_152 (by decide) ?_
    refine lv_icmp_ne (tgt := 164) hx hb dX10_tune_154 (by decide) (fun hc => ?_) (fun hc => ?_)
    · have h := h.2 hc
      refine lv_aload_n hx hb dX10_tune_164 rfl (lv_at hl 0 rfl) ?_
      refine gf S hE hP 0 rfl rfl inX10 (k := 18) (by decide) q1111 rfl dX10_tune_165 ?_
      refine lv_aload_n hx hb dX10_tune_168 rfl (lv_at hl 0 rfl) ?_
      refine gf S hE hP 0 rfl rfl inX10 (k := 2) (by decide) q1095 rfl dX10_tune_169 ?_
      refine lv_iload_n hx hb dX10_tune_172 rfl (lv_at hl 2 rfl) ?_
      obtain ⟨hi, h⟩ := h
      refine ias S hE hP hD hS 4 rfl hi dX10_tune_173 (fun H locs hP hD hS => ?_)
      have hP : va_P D vwCl (wX10_tune cI cJ cS a_o a_beats a_cells a_held a_notes a_pitch a_refused a_size z_steps z_kind z_space z_other z_times z_speed z_base z_share z_sort z_shown z_carried z_words z_tell z_was z_kept z_cutSpace z_cutTimes z_cutOff z_trace v_stretches v_cars v_tunes v_along v_near v_borne v_tempo v_seed v_fault v_from v_at v_end v_told v_wrongAt v_culprit v_ran v_isKept f_beats g_cells f_held (upd f_notes v_tunes.toNatClampNeg x2) f_pitch f_refused f_size) H := hP
      have hD : va_D A (wX10_tune cI cJ cS a_o a_beats a_cells a_held a_notes a_pitch a_refused a_size z_steps z_kind z_space z_other z_times z_speed z_base z_share z_sort z_shown z_carried z_words z_tell z_was z_kept z_cutSpace z_cutTimes z_cutOff z_trace v_stretches v_cars v_tunes v_along v_near v_borne v_tempo v_seed v_fault v_from v_at v_end v_told v_wrongAt v_culprit v_ran v_isKept f_beats g_cells f_held (upd f_notes v_tunes.toNatClampNeg x2) f_pitch f_refused f_size) := hD
      refine lv_iconst (v := 0) hx hb dX10_tune_174 (by decide) ?_
      refine lv_istore (lv' := [(5, .int 0), (0, .ref a_o), (1, .int x1), (2, .int x2), (4, .int x4)]) hx hb dX10_tune_175 hl (by decide) rfl (fun ls hl => ?_)
      obtain ⟨n, h⟩ := h
      refine w_X10_tune_177 S hE hT hA hr hlocks n _ _ _ _ _ _ _ h hP hD hS (lv_sub hl [1, 2, 3, 0] rfl)
    have h := h.1 hc
    refine lv_aload_n hx hb dX10_tune_157 rfl (lv_at hl 0 rfl) ?_
    refine lv_bipush (v := (-7)) hx hb dX10_tune_158 (by decide) ?_
    refine rw_i (rwV S hE hT hS hP hD hA (c_X10_no h) [0, 6] rfl (by decide +kernel) lkX10_121 rfl ⟨(Nat.le_of_ble_eq_true rfl), (Nat.le_of_ble_eq_true rfl)⟩ 0 rfl rfl hl.1 rfl (Nat.le_of_ble_eq_true rfl) dX10_tune_160 ⟨(Nat.zero_le _), (Nat.zero_le _)⟩) hP hD hS hA [0, 6] rfl (by decide +kernel) (fun _ => rfl) (fun r160 w160_0 H locs h hP hD hS => ?_)
    try dsimp only at h
    have hP : va_P D vwCl (wX10_tune cI cJ cS a_o a_beats a_cells a_held a_notes a_pitch a_refused a_size z_steps z_kind z_space z_other z_times z_speed z_base z_share z_sort z_shown z_carried z_words z_tell z_was z_kept z_cutSpace z_cutTimes z_cutOff z_trace v_stretches v_cars v_tunes v_along v_near v_borne v_tempo v_seed v_fault v_from v_at v_end v_told v_wrongAt v_culprit v_ran v_isKept f_beats g_cells f_held f_notes f_pitch w160_0 f_size) H := hP
    have hD : va_D A (wX10_tune cI cJ cS a_o a_beats a_cells a_held a_notes a_pitch a_refused a_size z_steps z_kind z_space z_other z_times z_speed z_base z_share z_sort z_shown z_carried z_words z_tell z_was z_kept z_cutSpace z_cutTimes z_cutOff z_trace v_stretches v_cars v_tunes v_along v_near v_borne v_tempo v_seed v_fault v_from v_at v_end v_told v_wrongAt v_culprit v_ran v_isKept f_beats g_cells f_held f_notes f_pitch w160_0 f_size) := hD
    exact W.iret hx hb hr (fun t ht _ => ⟨⟨_, (v_tunes, f_beats, f_notes, f_pitch, w160_0), rfl, h, hPt hP ht⟩, hS.F ht⟩) hS.2.2 dX10_tune_163
  have h := h.1 hc
  refine lv_aload_n hx hb dX10_tune_141 rfl (lv_at hl 0 rfl) ?_
  refine lv_bipush (v := (-6)) hx hb dX10_tune_142 (by decide) ?_
  refine rw_i (rwV S hE hT hS hP hD hA (c_X10_no h) [0, 6] rfl (by decide +kernel) lkX10_121 rfl ⟨(Nat.le_of_ble_eq_true rfl), (Nat.le_of_ble_eq_true rfl)⟩ 0 rfl rfl hl.1 rfl (Nat.le_of_ble_eq_true rfl) dX10_tune_144 ⟨(Nat.zero_le _), (Nat.zero_le _)⟩) hP hD hS hA [0, 6] rfl (by decide +kernel) (fun _ => rfl) (fun r144 w144_0 H locs h hP hD hS => ?_)
  try dsimp only at h
  have hP : va_P D vwCl (wX10_tune cI cJ cS a_o a_beats a_cells a_held a_notes a_pitch a_refused a_size z_steps z_kind z_space z_other z_times z_speed z_base z_share z_sort z_shown z_carried z_words z_tell z_was z_kept z_cutSpace z_cutTimes z_cutOff z_trace v_stretches v_cars v_tunes v_along v_near v_borne v_tempo v_seed v_fault v_from v_at v_end v_told v_wrongAt v_culprit v_ran v_isKept f_beats g_cells f_held f_notes f_pitch w144_0 f_size) H := hP
  have hD : va_D A (wX10_tune cI cJ cS a_o a_beats a_cells a_held a_notes a_pitch a_refused a_size z_steps z_kind z_space z_other z_times z_speed z_base z_share z_sort z_shown z_carried z_words z_tell z_was z_kept z_cutSpace z_cutTimes z_cutOff z_trace v_stretches v_cars v_tunes v_along v_near v_borne v_tempo v_seed v_fault v_from v_at v_end v_told v_wrongAt v_culprit v_ran v_isKept f_beats g_cells f_held f_notes f_pitch w144_0 f_size) := hD
  exact W.iret hx hb hr (fun t ht _ => ⟨⟨_, (v_tunes, f_beats, f_notes, f_pitch, w144_0), rfl, h, hPt hP ht⟩, hS.F ht⟩) hS.2.2 dX10_tune_147
set_option maxHeartbeats 4000000 in
set_option maxRecDepth 100000 in
theorem w_X10_tune_57 {l : Launch} {D : va_G} {cI cJ cS : ClassId} {ad adK : Nat → Nat} {a_o a_beats a_cells a_held a_notes a_pitch a_refused a_size : Nat} {z_steps z_kind z_space z_other z_times z_speed z_base z_share z_sort z_shown z_carried z_words z_tell z_was z_kept z_cutSpace z_cutTimes z_cutOff z_trace : Value} {v_stretches : Int32} {v_cars : Int32} {v_tunes : Int32} {v_along : Int32} {v_near : Int32} {v_borne : Int32} {v_tempo : Int32} {v_seed : Int32} {v_fault : Int32} {v_from : Int32} {v_at : Int32} {v_end : Int32} {v_told : Int32} {v_wrongAt : Int32} {v_culprit : Int32} {v_ran : Int32} {v_isKept : Int32} {f_beats : Nat → Int32} {g_cells : Nat → Int64} {f_held : Nat → Int32} {f_notes : Nat → Int32} {f_pitch : Nat → Int32} {f_refused : Nat → Int32} {f_size : Nat → Int32} {x1 : Int32} {x2 : Int32} {s0 : Int32} {post : Int32 → Int32 → (Nat → Int32) → (Nat → Int32) → (Nat → Int32) → (Nat → Int32) → Prop} {p : Program} {e : Env} {s : State} {m : MethodId} {args : Array Value} {below : List Frame} {meth : Method} {c : Code} {A : Nat → Prop} (S : CallFix p m c cX10_tune 8 s args GW "RoadThatSingsModel") (hE : EN D cI cJ cS s) (hT : ST ad adK A s s.heap) (hA : ∀ q : Nat, s.heap.size ≤ q → A q) (hr : meth.sig.returnType = (some (.int))) (hlocks : meth.locks = false) : ∀ (H : Heap) (locs : List Loc) (ls : Array Slot), F_X10_tune_57 g_cells post x1 x2 v_tunes f_beats f_notes f_pitch f_refused s0 → va_P D vwCl (wX10_tune cI cJ cS a_o a_beats a_cells a_held a_notes a_pitch a_refused a_size z_steps z_kind z_space z_other z_times z_speed z_base z_share z_sort z_shown z_carried z_words z_tell z_was z_kept z_cutSpace z_cutTimes z_cutOff z_trace v_stretches v_cars v_tunes v_along v_near v_borne v_tempo v_seed v_fault v_from v_at v_end v_told v_wrongAt v_culprit v_ran v_isKept f_beats g_cells f_held f_notes f_pitch f_refused f_size) H → va_D A (wX10_tune cI cJ cS a_o a_beats a_cells a_held a_notes a_pitch a_refused a_size z_steps z_kind z_space z_other z_times z_speed z_base z_share z_sort z_shown z_carried z_words z_tell z_was z_kept z_cutSpace z_cutTimes z_cutOff z_trace v_stretches v_cars v_tunes v_along v_near v_borne v_tempo v_seed v_fault v_from v_at v_end v_told v_wrongAt v_culprit v_ran v_isKept f_beats g_cells f_held f_notes f_pitch f_refused f_size) → va_S A s.heap H locs → lv_has ls 8 [(0, .ref a_o), (1, .int x1), (2, .int x2)] → W p l e (rmd 2 0 0) s m args below meth c H locs 0 0 (MQ below (va_Qi (fun r (u : Int32 × (Nat → Int32) × (Nat → Int32) × (Nat → Int32) × (Nat → Int32)) => post r u.1 u.2.1 u.2.2.1 u.2.2.2.1 u.2.2.2.2) (fun u t => va_P D vwCl (wX10_tune cI cJ cS a_o a_beats a_cells a_held a_notes a_pitch a_refused a_size z_steps z_kind z_space z_other z_times z_speed z_base z_share z_sort z_shown z_carried z_words z_tell z_was z_kept z_cutSpace z_cutTimes z_cutOff z_trace v_stretches v_cars u.1 v_along v_near v_borne v_tempo v_seed v_fault v_from v_at v_end v_told v_wrongAt v_culprit v_ran v_isKept u.2.1 g_cells f_held u.2.2.1 u.2.2.2.1 u.2.2.2.2 f_size) t.heap) A) args s 0 0 A) (F0 m 57 ls [.int s0]) := by
  intro  H locs ls h hP hD hS hl
  unfold F_X10_tune_57 at h
  have hx := S.1
  have hb := S.2.1
  refine lv_istore (lv' := [(4, .int s0), (0, .ref a_o), (1, .int x1), (2, .int x2)]) hx hb dX10_tune_57 hl (by decide) rfl (fun ls hl => ?_)
  refine lv_iconst (v := 0) hx hb dX10_tune_59 (by decide) ?_
  refine lv_istore (lv' := [(5, .int 0), (4, .int s0), (0, .ref a_o), (1, .int x1), (2, .int x2)]) hx hb dX10_tune_60 hl (by decide) rfl (fun ls hl => ?_)
  obtain ⟨n, h⟩ := h
  refine w_X10_tune_62 S hE hT hA hr hlocks (fun x4_1 H locs ls h hP hD hS hl => ?_) n _ _ _ _ _ h hP hD hS (lv_sub hl [2, 3, 4, 1, 0] rfl)
  refine w_X10_tune_136 S hE hT hA hr hlocks _ _ _ h hP hD hS (lv_sub hl [0, 1, 2, 3] rfl)
set_option maxHeartbeats 4000000 in
set_option maxRecDepth 100000 in
theorem c_X10_tune {l : Launch} {D : va_G} {cI cJ cS : ClassId} {ad adK : Nat → Nat} {a_o a_beats a_cells a_held a_notes a_pitch a_refused a_size : Nat} {z_steps z_kind z_space z_other z_times z_speed z_base z_share z_sort z_shown z_carried z_words z_tell z_was z_kept z_cutSpace z_cutTimes z_cutOff z_trace : Value} {v_stretches : Int32} {v_cars : Int32} {v_tunes : Int32} {v_along : Int32} {v_near : Int32} {v_borne : Int32} {v_tempo : Int32} {v_seed : Int32} {v_fault : Int32} {v_from : Int32} {v_at : Int32} {v_end : Int32} {v_told : Int32} {v_wrongAt : Int32} {v_culprit : Int32} {v_ran : Int32} {v_isKept : Int32} {f_beats : Nat → Int32} {g_cells : Nat → Int64} {f_held : Nat → Int32} {f_notes : Nat → Int32} {f_pitch : Nat → Int32} {f_refused : Nat → Int32} {f_size : Nat → Int32} {x1 : Int32} {x2 : Int32} {post : Int32 → Int32 → (Nat → Int32) → (Nat → Int32) → (Nat → Int32) → (Nat → Int32) → Prop} (h : F_X10_tune v_tunes f_beats g_cells f_held f_notes f_pitch f_refused f_size x1 x2 post) {sz : Nat} : Met l yX10_tune (Cond.code yX10_tune cX10_tune 8 (some (.int)) :: GW) (rmd 2 0 0) (PW D cI cJ cS ad adK [.ref a_o, .int x1, .int x2] (wX10_tune cI cJ cS a_o a_beats a_cells a_held a_notes a_pitch a_refused a_size z_steps z_kind z_space z_other z_times z_speed z_base z_share z_sort z_shown z_carried z_words z_tell z_was z_kept z_cutSpace z_cutTimes z_cutOff z_trace v_stretches v_cars v_tunes v_along v_near v_borne v_tempo v_seed v_fault v_from v_at v_end v_told v_wrongAt v_culprit v_ran v_isKept f_beats g_cells f_held f_notes f_pitch f_refused f_size) sz) (va_Qi (fun r (u : Int32 × (Nat → Int32) × (Nat → Int32) × (Nat → Int32) × (Nat → Int32)) => post r u.1 u.2.1 u.2.2.1 u.2.2.2.1 u.2.2.2.2) (fun u t => va_P D vwCl (wX10_tune cI cJ cS a_o a_beats a_cells a_held a_notes a_pitch a_refused a_size z_steps z_kind z_space z_other z_times z_speed z_base z_share z_sort z_shown z_carried z_words z_tell z_was z_kept z_cutSpace z_cutTimes z_cutOff z_trace v_stretches v_cars u.1 v_along v_near v_borne v_tempo v_seed v_fault v_from v_at v_end v_told v_wrongAt v_culprit v_ran v_isKept u.2.1 g_cells f_held u.2.2.1 u.2.2.2.1 u.2.2.2.2 f_size) t.heap) (va_A (wX10_tune cI cJ cS a_o a_beats a_cells a_held a_notes a_pitch a_refused a_size z_steps z_kind z_space z_other z_times z_speed z_base z_share z_sort z_shown z_carried z_words z_tell z_was z_kept z_cutSpace z_cutTimes z_cutOff z_trace v_stretches v_cars v_tunes v_along v_near v_borne v_tempo v_seed v_fault v_from v_at v_end v_told v_wrongAt v_culprit v_ran v_isKept f_beats g_cells f_held f_notes f_pitch f_refused f_size) sz)) 0 0 (va_A (wX10_tune cI cJ cS a_o a_beats a_cells a_held a_notes a_pitch a_refused a_size z_steps z_kind z_space z_other z_times z_speed z_base z_share z_sort z_shown z_carried z_words z_tell z_was z_kept z_cutSpace z_cutTimes z_cutOff z_trace v_stretches v_cars v_tunes v_along v_near v_borne v_tempo v_seed v_fault v_from v_at v_end v_told v_wrongAt v_culprit v_ran v_isKept f_beats g_cells f_held f_notes f_pitch f_refused f_size) sz) := by
  refine Met.rw (Qc := fun A => (va_Qi (fun r (u : Int32 × (Nat → Int32) × (Nat → Int32) × (Nat → Int32) × (Nat → Int32)) => post r u.1 u.2.1 u.2.2.1 u.2.2.2.1 u.2.2.2.2) (fun u t => va_P D vwCl (wX10_tune cI cJ cS a_o a_beats a_cells a_held a_notes a_pitch a_refused a_size z_steps z_kind z_space z_other z_times z_speed z_base z_share z_sort z_shown z_carried z_words z_tell z_was z_kept z_cutSpace z_cutTimes z_cutOff z_trace v_stretches v_cars u.1 v_along v_near v_borne v_tempo v_seed v_fault v_from v_at v_end v_told v_wrongAt v_culprit v_ran v_isKept u.2.1 g_cells f_held u.2.2.1 u.2.2.2.1 u.2.2.2.2 f_size) t.heap) A)) (by decide) (Nat.le_of_ble_eq_true rfl) (fun p e s m args below meth c ls A (S : CallFix p m c cX10_tune 8 s args GW "RoadThatSingsModel") hE hT hP hD hA hS hr hlocks hname hl => ?_)
  have hS0 := hS
  have hx := S.1
  have hb := S.2.1
  have hl : lv_has ls 8 [(0, .ref a_o), (1, .int x1), (2, .int x2)] := hl
  unfold F_X10_tune at h
  refine lv_aload_n hx hb dX10_tune_0 rfl (lv_at hl 0 rfl) ?_
  refine lv_iload_n hx hb dX10_tune_1 rfl (lv_at hl 1 rfl) ?_
  refine ro_i (roV S hE hT hS (c_X10_wants h) lkX10_142 rfl ⟨(Nat.le_of_ble_eq_true rfl), (Nat.le_of_ble_eq_true rfl)⟩ (hP.sub [0, 3] rfl) 0 rfl rfl hl.1 rfl (Nat.le_of_ble_eq_true rfl) dX10_tune_2 ⟨(Nat.zero_le _), (Nat.zero_le _)⟩) (fun r2 h => ?_)
  refine lv_istore_n (lv' := [(3, .int r2), (0, .ref a_o), (1, .int x1), (2, .int x2)]) hx hb dX10_tune_5 rfl hl (by decide) rfl (fun ls hl => ?_)
  refine lv_iload_n hx hb dX10_tune_6 rfl (lv_at hl 0 rfl) ?_
  refine lv_if_eq (tgt := 16) hx hb dX10_tune_7 (by decide) (fun hc => ?_) (fun hc => ?_)
  · have h := h.1 hc
    refine lv_iload_n hx hb dX10_tune_16 rfl (lv_at hl 3 rfl) ?_
    refine lv_if_ge (tgt := 27) hx hb dX10_tune_17 (by decide) (fun hc => ?_) (fun hc => ?_)
    · have h := h.1 hc
      refine lv_iload_n hx hb dX10_tune_27 rfl (lv_at hl 3 rfl) ?_
      refine lv_aload_n hx hb dX10_tune_28 rfl (lv_at hl 1 rfl) ?_
      refine gf S hE hP 0 rfl rfl inX10 (k := 23) (by decide) q1116 rfl dX10_tune_29 ?_
      refine lv_iload_n hx hb dX10_tune_32 rfl (lv_at hl 2 rfl) ?_
      obtain ⟨hi, h⟩ := h
      refine ial S hE hP 7 rfl hi dX10_tune_33 ?_
      refine lv_iconst (v := 2) hx hb dX10_tune_34 (by decide) ?_
      refine lv_idiv hx hb dX10_tune_35 (by decide) ?_
      refine lv_icmp_le (tgt := 46) hx hb dX10_tune_36 (by decide) (fun hc => ?_) (fun hc => ?_)
      · have h := h.1 hc
        refine lv_iload_n hx hb dX10_tune_46 rfl (lv_at hl 3 rfl) ?_
        refine lv_bipush (v := 12) hx hb dX10_tune_47 (by decide) ?_
        refine lv_icmp_gt (tgt := 56) hx hb dX10_tune_49 (by decide) (fun hc => ?_) (fun hc => ?_)
        · have h := h.1 hc
          refine lv_iconst (v := 0) hx hb dX10_tune_56 (by decide) ?_
          refine w_X10_tune_57 S hE hT hA hr hlocks _ _ _ h hP hD hS (lv_sub hl [1, 2, 3] rfl)
        have h := h.2 hc
        refine lv_iconst (v := 1) hx hb dX10_tune_52 (by decide) ?_
        refine lv_goto (tgt := 57) hx hb dX10_tune_53 (by decide) ?_
        refine w_X10_tune_57 S hE hT hA hr hlocks _ _ _ h hP hD hS (lv_sub hl [1, 2, 3] rfl)
      have h := h.2 hc
      refine lv_aload_n hx hb dX10_tune_39 rfl (lv_at hl 1 rfl) ?_
      refine lv_bipush (v := (-5)) hx hb dX10_tune_40 (by decide) ?_
      refine rw_i (rwV S hE hT hS hP hD hA (c_X10_no h) [0, 6] rfl (by decide +kernel) lkX10_121 rfl ⟨(Nat.le_of_ble_eq_true rfl), (Nat.le_of_ble_eq_true rfl)⟩ 0 rfl rfl hl.1 rfl (Nat.le_of_ble_eq_true rfl) dX10_tune_42 ⟨(Nat.zero_le _), (Nat.zero_le _)⟩) hP hD hS hA [0, 6] rfl (by decide +kernel) (fun _ => rfl) (fun r42 w42_0 H locs h hP hD hS => ?_)
      try dsimp only at h
      have hP : va_P D vwCl (wX10_tune cI cJ cS a_o a_beats a_cells a_held a_notes a_pitch a_refused a_size z_steps z_kind z_space z_other z_times z_speed z_base z_share z_sort z_shown z_carried z_words z_tell z_was z_kept z_cutSpace z_cutTimes z_cutOff z_trace v_stretches v_cars v_tunes v_along v_near v_borne v_tempo v_seed v_fault v_from v_at v_end v_told v_wrongAt v_culprit v_ran v_isKept f_beats g_cells f_held f_notes f_pitch w42_0 f_size) H := hP
      have hD : va_D A (wX10_tune cI cJ cS a_o a_beats a_cells a_held a_notes a_pitch a_refused a_size z_steps z_kind z_space z_other z_times z_speed z_base z_share z_sort z_shown z_carried z_words z_tell z_was z_kept z_cutSpace z_cutTimes z_cutOff z_trace v_stretches v_cars v_tunes v_along v_near v_borne v_tempo v_seed v_fault v_from v_at v_end v_told v_wrongAt v_culprit v_ran v_isKept f_beats g_cells f_held f_notes f_pitch w42_0 f_size) := hD
      exact W.iret hx hb hr (fun t ht _ => ⟨⟨_, (v_tunes, f_beats, f_notes, f_pitch, w42_0), rfl, h, hPt hP ht⟩, hS.F ht⟩) hS.2.2 dX10_tune_45
    have h := h.2 hc
    refine lv_aload_n hx hb dX10_tune_20 rfl (lv_at hl 1 rfl) ?_
    refine lv_bipush (v := (-4)) hx hb dX10_tune_21 (by decide) ?_
    refine rw_i (rwV S hE hT hS hP hD hA (c_X10_no h) [0, 6] rfl (by decide +kernel) lkX10_121 rfl ⟨(Nat.le_of_ble_eq_true rfl), (Nat.le_of_ble_eq_true rfl)⟩ 0 rfl rfl hl.1 rfl (Nat.le_of_ble_eq_true rfl) dX10_tune_23 ⟨(Nat.zero_le _), (Nat.zero_le _)⟩) hP hD hS hA [0, 6] rfl (by decide +kernel) (fun _ => rfl) (fun r23 w23_0 H locs h hP hD hS => ?_)
    try dsimp only at h
    have hP : va_P D vwCl (wX10_tune cI cJ cS a_o a_beats a_cells a_held a_notes a_pitch a_refused a_size z_steps z_kind z_space z_other z_times z_speed z_base z_share z_sort z_shown z_carried z_words z_tell z_was z_kept z_cutSpace z_cutTimes z_cutOff z_trace v_stretches v_cars v_tunes v_along v_near v_borne v_tempo v_seed v_fault v_from v_at v_end v_told v_wrongAt v_culprit v_ran v_isKept f_beats g_cells f_held f_notes f_pitch w23_0 f_size) H := hP
    have hD : va_D A (wX10_tune cI cJ cS a_o a_beats a_cells a_held a_notes a_pitch a_refused a_size z_steps z_kind z_space z_other z_times z_speed z_base z_share z_sort z_shown z_carried z_words z_tell z_was z_kept z_cutSpace z_cutTimes z_cutOff z_trace v_stretches v_cars v_tunes v_along v_near v_borne v_tempo v_seed v_fault v_from v_at v_end v_told v_wrongAt v_culprit v_ran v_isKept f_beats g_cells f_held f_notes f_pitch w23_0 f_size) := hD
    exact W.iret hx hb hr (fun t ht _ => ⟨⟨_, (v_tunes, f_beats, f_notes, f_pitch, w23_0), rfl, h, hPt hP ht⟩, hS.F ht⟩) hS.2.2 dX10_tune_26
  have h := h.2 hc
  refine lv_aload_n hx hb dX10_tune_10 rfl (lv_at hl 1 rfl) ?_
  refine lv_iload_n hx hb dX10_tune_11 rfl (lv_at hl 0 rfl) ?_
  refine rw_i (rwV S hE hT hS hP hD hA (c_X10_no h) [0, 6] rfl (by decide +kernel) lkX10_121 rfl ⟨(Nat.le_of_ble_eq_true rfl), (Nat.le_of_ble_eq_true rfl)⟩ 0 rfl rfl hl.1 rfl (Nat.le_of_ble_eq_true rfl) dX10_tune_12 ⟨(Nat.zero_le _), (Nat.zero_le _)⟩) hP hD hS hA [0, 6] rfl (by decide +kernel) (fun _ => rfl) (fun r12 w12_0 H locs h hP hD hS => ?_)
  try dsimp only at h
  have hP : va_P D vwCl (wX10_tune cI cJ cS a_o a_beats a_cells a_held a_notes a_pitch a_refused a_size z_steps z_kind z_space z_other z_times z_speed z_base z_share z_sort z_shown z_carried z_words z_tell z_was z_kept z_cutSpace z_cutTimes z_cutOff z_trace v_stretches v_cars v_tunes v_along v_near v_borne v_tempo v_seed v_fault v_from v_at v_end v_told v_wrongAt v_culprit v_ran v_isKept f_beats g_cells f_held f_notes f_pitch w12_0 f_size) H := hP
  have hD : va_D A (wX10_tune cI cJ cS a_o a_beats a_cells a_held a_notes a_pitch a_refused a_size z_steps z_kind z_space z_other z_times z_speed z_base z_share z_sort z_shown z_carried z_words z_tell z_was z_kept z_cutSpace z_cutTimes z_cutOff z_trace v_stretches v_cars v_tunes v_along v_near v_borne v_tempo v_seed v_fault v_from v_at v_end v_told v_wrongAt v_culprit v_ran v_isKept f_beats g_cells f_held f_notes f_pitch w12_0 f_size) := hD
  exact W.iret hx hb hr (fun t ht _ => ⟨⟨_, (v_tunes, f_beats, f_notes, f_pitch, w12_0), rfl, h, hPt hP ht⟩, hS.F ht⟩) hS.2.2 dX10_tune_15
/-! X10_beatsTo -/
abbrev wX10_beatsTo (cI cJ cS : ClassId) (a_o a_beats : Nat) (z_refused z_steps z_kind z_space z_other z_times z_speed z_base z_share z_notes z_pitch z_held z_sort z_size z_shown z_cells z_carried z_words z_tell z_was z_kept z_cutSpace z_cutTimes z_cutOff z_trace : Value) (v_stretches : Int32) (v_cars : Int32) (v_tunes : Int32) (v_along : Int32) (v_near : Int32) (v_borne : Int32) (v_tempo : Int32) (v_seed : Int32) (v_fault : Int32) (v_from : Int32) (v_at : Int32) (v_end : Int32) (v_told : Int32) (v_wrongAt : Int32) (v_culprit : Int32) (v_ran : Int32) (v_isKept : Int32) (f_beats : Nat → Int32) : va_W := [(a_o, .inr (9, [.int v_stretches, .int v_cars, .int v_tunes, .int v_along, .int v_near, .int v_borne, .int v_tempo, .int v_seed, .int v_fault, z_refused, z_steps, z_kind, z_space, z_other, z_times, z_speed, z_base, z_share, z_notes, z_pitch, .ref a_beats, z_held, z_sort, z_size, z_shown, z_cells, z_carried, z_words, z_tell, .int v_from, .int v_at, .int v_end, .int v_told, .int v_wrongAt, z_was, z_kept, .int v_culprit, z_cutSpace, z_cutTimes, z_cutOff, z_trace, .int v_ran, .int v_isKept])), (a_beats, .inl (cI, 72, .inl f_beats))]
def L_X10_beatsTo_5 (f_beats : Nat → Int32) (x1 : Int32) (x2 : Int32) (post : Int32 → Prop) : Nat → Int32 → Int32 → Prop
  | 0, _, _ => False
  | n5 + 1, x3, x4 => ((x2 ≤ x4 → post x3) ∧ (¬ x2 ≤ x4 → (vp_in ((12 * x1) + x4) 72 ∧ (∀ x3_25 : Int32, x3_25 = x3 + (f_beats ((12 * x1) + x4).toNatClampNeg) → (∀ x4_26 : Int32, x4_26 = x4 + 1 → L_X10_beatsTo_5 f_beats x1 x2 post n5 x3_25 x4_26)))))
def F_X10_beatsTo (f_beats : Nat → Int32) (x1 : Int32) (x2 : Int32) (post : Int32 → Prop) : Prop := (∃ n5 : Nat, L_X10_beatsTo_5 f_beats x1 x2 post n5 0 0)
set_option maxHeartbeats 4000000 in
set_option maxRecDepth 100000 in
theorem w_X10_beatsTo_5 {l : Launch} {D : va_G} {cI cJ cS : ClassId} {ad adK : Nat → Nat} {a_o a_beats : Nat} {z_refused z_steps z_kind z_space z_other z_times z_speed z_base z_share z_notes z_pitch z_held z_sort z_size z_shown z_cells z_carried z_words z_tell z_was z_kept z_cutSpace z_cutTimes z_cutOff z_trace : Value} {v_stretches : Int32} {v_cars : Int32} {v_tunes : Int32} {v_along : Int32} {v_near : Int32} {v_borne : Int32} {v_tempo : Int32} {v_seed : Int32} {v_fault : Int32} {v_from : Int32} {v_at : Int32} {v_end : Int32} {v_told : Int32} {v_wrongAt : Int32} {v_culprit : Int32} {v_ran : Int32} {v_isKept : Int32} {f_beats : Nat → Int32} {x1 : Int32} {x2 : Int32} {post : Int32 → Prop} {p : Program} {e : Env} {s : State} {m : MethodId} {args : Array Value} {below : List Frame} {meth : Method} {c : Code} (S : CallFix p m c cX10_beatsTo 5 s args GW "RoadThatSingsModel") (hE : EN D cI cJ cS s) (hT : ST ad adK nof s s.heap) (hP : va_P D vwCl (wX10_beatsTo cI cJ cS a_o a_beats z_refused z_steps z_kind z_space z_other z_times z_speed z_base z_share z_notes z_pitch z_held z_sort z_size z_shown z_cells z_carried z_words z_tell z_was z_kept z_cutSpace z_cutTimes z_cutOff z_trace v_stretches v_cars v_tunes v_along v_near v_borne v_tempo v_seed v_fault v_from v_at v_end v_told v_wrongAt v_culprit v_ran v_isKept f_beats) s.heap) (hS : va_S nof s.heap s.heap []) (hr : meth.sig.returnType = (some (.int))) (hlocks : meth.locks = false) : ∀ n : Nat, ∀ (x3 : Int32) (x4 : Int32) (ls : Array Slot), L_X10_beatsTo_5 f_beats x1 x2 post n x3 x4 → lv_has ls 5 [(0, .ref a_o), (1, .int x1), (2, .int x2), (3, .int x3), (4, .int x4)] → W p l e (rmd 0 0 0) s m args below meth c s.heap [] 0 0 (MQ below (vp_Si post) args s 0 0 nof) (F0 m 5 ls []) := by
  intro n
  induction n with
  | zero =>
    intro x3 x4 ls h hl
    exact h.elim
  | succ n ih =>
    intro x3 x4 ls h hl
    rw [L_X10_beatsTo_5] at h
    have hx := S.1
    have hb := S.2.1
    refine lv_iload hx hb dX10_beatsTo_5 (lv_at hl 4 rfl) ?_
    refine lv_iload_n hx hb dX10_beatsTo_7 rfl (lv_at hl 2 rfl) ?_
    refine lv_icmp_ge (tgt := 32) hx hb dX10_beatsTo_8 (by decide) (fun hc => ?_) (fun hc => ?_)
    · have h := h.1 hc
      refine lv_iload_n hx hb dX10_beatsTo_32 rfl (lv_at hl 3 rfl) ?_
      exact W.iret hx hb hr (fun t ht _ => ⟨_, rfl, h, ht⟩) (fun _ hq => by cases hq) dX10_beatsTo_33
    have h := h.2 hc
    refine lv_iload_n hx hb dX10_beatsTo_11 rfl (lv_at hl 3 rfl) ?_
    refine lv_aload_n hx hb dX10_beatsTo_12 rfl (lv_at hl 0 rfl) ?_
    refine gf S hE hP 0 rfl rfl inX10 (k := 20) (by decide) q1113 rfl dX10_beatsTo_13 ?_
    refine lv_bipush (v := 12) hx hb dX10_beatsTo_16 (by decide) ?_
    refine lv_iload_n hx hb dX10_beatsTo_18 rfl (lv_at hl 1 rfl) ?_
    refine lv_imul hx hb dX10_beatsTo_19 ?_
    refine lv_iload hx hb dX10_beatsTo_20 (lv_at hl 4 rfl) ?_
    refine lv_iadd hx hb dX10_beatsTo_22 ?_
    obtain ⟨hi, h⟩ := h
    refine ial S hE hP 1 rfl hi dX10_beatsTo_23 ?_
    refine lv_iadd hx hb dX10_beatsTo_24 ?_
    refine lv_topi (fun x3_25 ex3_25 => ?_)
    have h := h _ ex3_25
    refine lv_istore_n (lv' := [(3, .int x3_25), (0, .ref a_o), (1, .int x1), (2, .int x2), (4, .int x4)]) hx hb dX10_beatsTo_25 rfl hl (by decide) rfl (fun ls hl => ?_)
    obtain ⟨x4_26, ex4_26⟩ : ∃ z : Int32, z = x4 + 1 := ⟨_, rfl⟩
    have h := h _ ex4_26
    refine lv_iinc (v := x4_26) (lv' := [(4, .int x4_26), (3, .int x3_25), (0, .ref a_o), (1, .int x1), (2, .int x2)]) hx hb dX10_beatsTo_26 hl (k := 4) rfl (by rw [ex4_26]; rfl) (by decide) rfl (fun ls hl => ?_)
    refine lv_goto (tgt := 5) hx hb dX10_beatsTo_29 (by decide) ?_
    exact ih _ _ _ h (lv_sub hl [2, 3, 4, 1, 0] rfl)
set_option maxHeartbeats 4000000 in
set_option maxRecDepth 100000 in
theorem c_X10_beatsTo {l : Launch} {D : va_G} {cI cJ cS : ClassId} {ad adK : Nat → Nat} {a_o a_beats : Nat} {z_refused z_steps z_kind z_space z_other z_times z_speed z_base z_share z_notes z_pitch z_held z_sort z_size z_shown z_cells z_carried z_words z_tell z_was z_kept z_cutSpace z_cutTimes z_cutOff z_trace : Value} {v_stretches : Int32} {v_cars : Int32} {v_tunes : Int32} {v_along : Int32} {v_near : Int32} {v_borne : Int32} {v_tempo : Int32} {v_seed : Int32} {v_fault : Int32} {v_from : Int32} {v_at : Int32} {v_end : Int32} {v_told : Int32} {v_wrongAt : Int32} {v_culprit : Int32} {v_ran : Int32} {v_isKept : Int32} {f_beats : Nat → Int32} {x1 : Int32} {x2 : Int32} {post : Int32 → Prop} (h : F_X10_beatsTo f_beats x1 x2 post) : Met l yX10_beatsTo (Cond.code yX10_beatsTo cX10_beatsTo 5 (some (.int)) :: GW) (rmd 0 0 0) (PR D cI cJ cS ad adK [.ref a_o, .int x1, .int x2] (wX10_beatsTo cI cJ cS a_o a_beats z_refused z_steps z_kind z_space z_other z_times z_speed z_base z_share z_notes z_pitch z_held z_sort z_size z_shown z_cells z_carried z_words z_tell z_was z_kept z_cutSpace z_cutTimes z_cutOff z_trace v_stretches v_cars v_tunes v_along v_near v_borne v_tempo v_seed v_fault v_from v_at v_end v_told v_wrongAt v_culprit v_ran v_isKept f_beats)) (vp_Si post) 0 0 nof := by
  refine Met.ro (by decide) (Nat.le_of_ble_eq_true rfl) (fun p e s m args below meth c ls (S : CallFix p m c cX10_beatsTo 5 s args GW "RoadThatSingsModel") hE hT hP hS hr hlocks hl => ?_)
  have hx := S.1
  have hb := S.2.1
  have hl : lv_has ls 5 [(0, .ref a_o), (1, .int x1), (2, .int x2)] := hl
  unfold F_X10_beatsTo at h
  refine lv_iconst (v := 0) hx hb dX10_beatsTo_0 (by decide) ?_
  refine lv_istore_n (lv' := [(3, .int 0), (0, .ref a_o), (1, .int x1), (2, .int x2)]) hx hb dX10_beatsTo_1 rfl hl (by decide) rfl (fun ls hl => ?_)
  refine lv_iconst (v := 0) hx hb dX10_beatsTo_2 (by decide) ?_
  refine lv_istore (lv' := [(4, .int 0), (3, .int 0), (0, .ref a_o), (1, .int x1), (2, .int x2)]) hx hb dX10_beatsTo_3 hl (by decide) rfl (fun ls hl => ?_)
  obtain ⟨n, h⟩ := h
  refine w_X10_beatsTo_5 S hE hT hP hS hr hlocks n _ _ _ h (lv_sub hl [2, 3, 4, 1, 0] rfl)
/-! X10_noteOf -/
abbrev wX10_noteOf (cI cJ cS : ClassId) (a_o a_beats a_notes a_pitch a_refused : Nat) (z_steps z_kind z_space z_other z_times z_speed z_base z_share z_held z_sort z_size z_shown z_cells z_carried z_words z_tell z_was z_kept z_cutSpace z_cutTimes z_cutOff z_trace : Value) (v_stretches : Int32) (v_cars : Int32) (v_tunes : Int32) (v_along : Int32) (v_near : Int32) (v_borne : Int32) (v_tempo : Int32) (v_seed : Int32) (v_fault : Int32) (v_from : Int32) (v_at : Int32) (v_end : Int32) (v_told : Int32) (v_wrongAt : Int32) (v_culprit : Int32) (v_ran : Int32) (v_isKept : Int32) (f_beats : Nat → Int32) (f_notes : Nat → Int32) (f_pitch : Nat → Int32) (f_refused : Nat → Int32) : va_W := [(a_o, .inr (9, [.int v_stretches, .int v_cars, .int v_tunes, .int v_along, .int v_near, .int v_borne, .int v_tempo, .int v_seed, .int v_fault, .ref a_refused, z_steps, z_kind, z_space, z_other, z_times, z_speed, z_base, z_share, .ref a_notes, .ref a_pitch, .ref a_beats, z_held, z_sort, z_size, z_shown, z_cells, z_carried, z_words, z_tell, .int v_from, .int v_at, .int v_end, .int v_told, .int v_wrongAt, z_was, z_kept, .int v_culprit, z_cutSpace, z_cutTimes, z_cutOff, z_trace, .int v_ran, .int v_isKept])), (a_beats, .inl (cI, 72, .inl f_beats)), (a_notes, .inl (cI, 6, .inl f_notes)), (a_pitch, .inl (cI, 72, .inl f_pitch)), (a_refused, .inl (cI, 8, .inl f_refused))]
def F_X10_noteOf (v_tunes : Int32) (f_beats : Nat → Int32) (f_notes : Nat → Int32) (f_pitch : Nat → Int32) (f_refused : Nat → Int32) (x1 : Int32) (x2 : Int32) (x3 : Int32) (post : Int32 → (Nat → Int32) → Prop) : Prop := (F_X10_isTune v_tunes x1 (fun r2 => ((r2 = 0 → (F_X10_no f_refused (-5) (fun r35 w35_0 => post r35 w35_0))) ∧ (¬ r2 = 0 → ((x2 < (-1) → (F_X10_no f_refused (-5) (fun r35 w35_0 => post r35 w35_0))) ∧ (¬ x2 < (-1) → (vp_in x1 6 ∧ (((f_notes x1.toNatClampNeg) ≤ x2 → (F_X10_no f_refused (-5) (fun r35 w35_0 => post r35 w35_0))) ∧ (¬ (f_notes x1.toNatClampNeg) ≤ x2 → ((x3 < 0 → (F_X10_no f_refused (-5) (fun r35 w35_0 => post r35 w35_0))) ∧ (¬ x3 < 0 → ((x3 ≤ 1 → ((x2 = (-1) → ((x3 = 0 → (vp_in x1 6 ∧ post (f_notes x1.toNatClampNeg) f_refused)) ∧ (¬ x3 = 0 → (vp_in x1 6 ∧ (F_X10_beatsTo f_beats x1 (f_notes x1.toNatClampNeg) (fun r65 => post r65 f_refused)))))) ∧ (¬ x2 = (-1) → ((x3 = 0 → (vp_in ((12 * x1) + x2) 72 ∧ post (f_pitch ((12 * x1) + x2).toNatClampNeg) f_refused)) ∧ (¬ x3 = 0 → (vp_in ((12 * x1) + x2) 72 ∧ post (f_beats ((12 * x1) + x2).toNatClampNeg) f_refused)))))) ∧ (¬ x3 ≤ 1 → (F_X10_no f_refused (-5) (fun r35 w35_0 => post r35 w35_0)))))))))))))))
set_option maxHeartbeats 4000000 in
set_option maxRecDepth 100000 in
theorem c_X10_noteOf {l : Launch} {D : va_G} {cI cJ cS : ClassId} {ad adK : Nat → Nat} {a_o a_beats a_notes a_pitch a_refused : Nat} {z_steps z_kind z_space z_other z_times z_speed z_base z_share z_held z_sort z_size z_shown z_cells z_carried z_words z_tell z_was z_kept z_cutSpace z_cutTimes z_cutOff z_trace : Value} {v_stretches : Int32} {v_cars : Int32} {v_tunes : Int32} {v_along : Int32} {v_near : Int32} {v_borne : Int32} {v_tempo : Int32} {v_seed : Int32} {v_fault : Int32} {v_from : Int32} {v_at : Int32} {v_end : Int32} {v_told : Int32} {v_wrongAt : Int32} {v_culprit : Int32} {v_ran : Int32} {v_isKept : Int32} {f_beats : Nat → Int32} {f_notes : Nat → Int32} {f_pitch : Nat → Int32} {f_refused : Nat → Int32} {x1 : Int32} {x2 : Int32} {x3 : Int32} {post : Int32 → (Nat → Int32) → Prop} (h : F_X10_noteOf v_tunes f_beats f_notes f_pitch f_refused x1 x2 x3 post) {sz : Nat} : Met l yX10_noteOf (Cond.code yX10_noteOf cX10_noteOf 4 (some (.int)) :: GW) (rmd 1 0 0) (PW D cI cJ cS ad adK [.ref a_o, .int x1, .int x2, .int x3] (wX10_noteOf cI cJ cS a_o a_beats a_notes a_pitch a_refused z_steps z_kind z_space z_other z_times z_speed z_base z_share z_held z_sort z_size z_shown z_cells z_carried z_words z_tell z_was z_kept z_cutSpace z_cutTimes z_cutOff z_trace v_stretches v_cars v_tunes v_along v_near v_borne v_tempo v_seed v_fault v_from v_at v_end v_told v_wrongAt v_culprit v_ran v_isKept f_beats f_notes f_pitch f_refused) sz) (va_Qi (fun r (u : (Nat → Int32)) => post r u) (fun u t => va_P D vwCl (wX10_noteOf cI cJ cS a_o a_beats a_notes a_pitch a_refused z_steps z_kind z_space z_other z_times z_speed z_base z_share z_held z_sort z_size z_shown z_cells z_carried z_words z_tell z_was z_kept z_cutSpace z_cutTimes z_cutOff z_trace v_stretches v_cars v_tunes v_along v_near v_borne v_tempo v_seed v_fault v_from v_at v_end v_told v_wrongAt v_culprit v_ran v_isKept f_beats f_notes f_pitch u) t.heap) (va_A (wX10_noteOf cI cJ cS a_o a_beats a_notes a_pitch a_refused z_steps z_kind z_space z_other z_times z_speed z_base z_share z_held z_sort z_size z_shown z_cells z_carried z_words z_tell z_was z_kept z_cutSpace z_cutTimes z_cutOff z_trace v_stretches v_cars v_tunes v_along v_near v_borne v_tempo v_seed v_fault v_from v_at v_end v_told v_wrongAt v_culprit v_ran v_isKept f_beats f_notes f_pitch f_refused) sz)) 0 0 (va_A (wX10_noteOf cI cJ cS a_o a_beats a_notes a_pitch a_refused z_steps z_kind z_space z_other z_times z_speed z_base z_share z_held z_sort z_size z_shown z_cells z_carried z_words z_tell z_was z_kept z_cutSpace z_cutTimes z_cutOff z_trace v_stretches v_cars v_tunes v_along v_near v_borne v_tempo v_seed v_fault v_from v_at v_end v_told v_wrongAt v_culprit v_ran v_isKept f_beats f_notes f_pitch f_refused) sz) := by
  refine Met.rw (Qc := fun A => (va_Qi (fun r (u : (Nat → Int32)) => post r u) (fun u t => va_P D vwCl (wX10_noteOf cI cJ cS a_o a_beats a_notes a_pitch a_refused z_steps z_kind z_space z_other z_times z_speed z_base z_share z_held z_sort z_size z_shown z_cells z_carried z_words z_tell z_was z_kept z_cutSpace z_cutTimes z_cutOff z_trace v_stretches v_cars v_tunes v_along v_near v_borne v_tempo v_seed v_fault v_from v_at v_end v_told v_wrongAt v_culprit v_ran v_isKept f_beats f_notes f_pitch u) t.heap) A)) (by decide) (Nat.le_of_ble_eq_true rfl) (fun p e s m args below meth c ls A (S : CallFix p m c cX10_noteOf 4 s args GW "RoadThatSingsModel") hE hT hP hD hA hS hr hlocks hname hl => ?_)
  have hS0 := hS
  have hx := S.1
  have hb := S.2.1
  have hl : lv_has ls 4 [(0, .ref a_o), (1, .int x1), (2, .int x2), (3, .int x3)] := hl
  unfold F_X10_noteOf at h
  refine lv_aload_n hx hb dX10_noteOf_0 rfl (lv_at hl 0 rfl) ?_
  refine lv_iload_n hx hb dX10_noteOf_1 rfl (lv_at hl 1 rfl) ?_
  refine ro_i (roV S hE hT hS (c_X10_isTune h) lkX10_168 rfl ⟨(Nat.le_of_ble_eq_true rfl), (Nat.le_of_ble_eq_true rfl)⟩ (hP.sub [0] rfl) 0 rfl rfl hl.1 rfl (Nat.le_of_ble_eq_true rfl) dX10_noteOf_2 ⟨(Nat.zero_le _), (Nat.zero_le _)⟩) (fun r2 h => ?_)
  refine lv_if_eq (tgt := 32) hx hb dX10_noteOf_5 (by decide) (fun hc => ?_) (fun hc => ?_)
  · have h := h.1 hc
    refine lv_aload_n hx hb dX10_noteOf_32 rfl (lv_at hl 0 rfl) ?_
    refine lv_bipush (v := (-5)) hx hb dX10_noteOf_33 (by decide) ?_
    refine rw_i (rwV S hE hT hS hP hD hA (c_X10_no h) [0, 4] rfl (by decide +kernel) lkX10_121 rfl ⟨(Nat.le_of_ble_eq_true rfl), (Nat.le_of_ble_eq_true rfl)⟩ 0 rfl rfl hl.1 rfl (Nat.le_of_ble_eq_true rfl) dX10_noteOf_35 ⟨(Nat.zero_le _), (Nat.zero_le _)⟩) hP hD hS hA [0, 4] rfl (by decide +kernel) (fun _ => rfl) (fun r35 w35_0 H locs h hP hD hS => ?_)
    try dsimp only at h
    have hP : va_P D vwCl (wX10_noteOf cI cJ cS a_o a_beats a_notes a_pitch a_refused z_steps z_kind z_space z_other z_times z_speed z_base z_share z_held z_sort z_size z_shown z_cells z_carried z_words z_tell z_was z_kept z_cutSpace z_cutTimes z_cutOff z_trace v_stretches v_cars v_tunes v_along v_near v_borne v_tempo v_seed v_fault v_from v_at v_end v_told v_wrongAt v_culprit v_ran v_isKept f_beats f_notes f_pitch w35_0) H := hP
    have hD : va_D A (wX10_noteOf cI cJ cS a_o a_beats a_notes a_pitch a_refused z_steps z_kind z_space z_other z_times z_speed z_base z_share z_held z_sort z_size z_shown z_cells z_carried z_words z_tell z_was z_kept z_cutSpace z_cutTimes z_cutOff z_trace v_stretches v_cars v_tunes v_along v_near v_borne v_tempo v_seed v_fault v_from v_at v_end v_told v_wrongAt v_culprit v_ran v_isKept f_beats f_notes f_pitch w35_0) := hD
    exact W.iret hx hb hr (fun t ht _ => ⟨⟨_, w35_0, rfl, h, hPt hP ht⟩, hS.F ht⟩) hS.2.2 dX10_noteOf_38
  have h := h.2 hc
  refine lv_iload_n hx hb dX10_noteOf_8 rfl (lv_at hl 2 rfl) ?_
  refine lv_iconst (v := (-1)) hx hb dX10_noteOf_9 (by decide) ?_
  refine lv_icmp_lt (tgt := 32) hx hb dX10_noteOf_10 (by decide) (fun hc => ?_) (fun hc => ?_)
  · have h := h.1 hc
    refine lv_aload_n hx hb dX10_noteOf_32 rfl (lv_at hl 0 rfl) ?_
    refine lv_bipush (v := (-5)) hx hb dX10_noteOf_33 (by decide) ?_
    refine rw_i (rwV S hE hT hS hP hD hA (c_X10_no h) [0, 4] rfl (by decide +kernel) lkX10_121 rfl ⟨(Nat.le_of_ble_eq_true rfl), (Nat.le_of_ble_eq_true rfl)⟩ 0 rfl rfl hl.1 rfl (Nat.le_of_ble_eq_true rfl) dX10_noteOf_35 ⟨(Nat.zero_le _), (Nat.zero_le _)⟩) hP hD hS hA [0, 4] rfl (by decide +kernel) (fun _ => rfl) (fun r35 w35_0 H locs h hP hD hS => ?_)
    try dsimp only at h
    have hP : va_P D vwCl (wX10_noteOf cI cJ cS a_o a_beats a_notes a_pitch a_refused z_steps z_kind z_space z_other z_times z_speed z_base z_share z_held z_sort z_size z_shown z_cells z_carried z_words z_tell z_was z_kept z_cutSpace z_cutTimes z_cutOff z_trace v_stretches v_cars v_tunes v_along v_near v_borne v_tempo v_seed v_fault v_from v_at v_end v_told v_wrongAt v_culprit v_ran v_isKept f_beats f_notes f_pitch w35_0) H := hP
    have hD : va_D A (wX10_noteOf cI cJ cS a_o a_beats a_notes a_pitch a_refused z_steps z_kind z_space z_other z_times z_speed z_base z_share z_held z_sort z_size z_shown z_cells z_carried z_words z_tell z_was z_kept z_cutSpace z_cutTimes z_cutOff z_trace v_stretches v_cars v_tunes v_along v_near v_borne v_tempo v_seed v_fault v_from v_at v_end v_told v_wrongAt v_culprit v_ran v_isKept f_beats f_notes f_pitch w35_0) := hD
    exact W.iret hx hb hr (fun t ht _ => ⟨⟨_, w35_0, rfl, h, hPt hP ht⟩, hS.F ht⟩) hS.2.2 dX10_noteOf_38
  have h := h.2 hc
  refine lv_iload_n hx hb dX10_noteOf_13 rfl (lv_at hl 2 rfl) ?_
  refine lv_aload_n hx hb dX10_noteOf_14 rfl (lv_at hl 0 rfl) ?_
  refine gf S hE hP 0 rfl rfl inX10 (k := 18) (by decide) q1111 rfl dX10_noteOf_15 ?_
  refine lv_iload_n hx hb dX10_noteOf_18 rfl (lv_at hl 1 rfl) ?_
  obtain ⟨hi, h⟩ := h
  refine ial S hE hP 2 rfl hi dX10_noteOf_19 ?_
  refine lv_icmp_ge (tgt := 32) hx hb dX10_noteOf_20 (by decide) (fun hc => ?_) (fun hc => ?_)
  · have h := h.1 hc
    refine lv_aload_n hx hb dX10_noteOf_32 rfl (lv_at hl 0 rfl) ?_
    refine lv_bipush (v := (-5)) hx hb dX10_noteOf_33 (by decide) ?_
    refine rw_i (rwV S hE hT hS hP hD hA (c_X10_no h) [0, 4] rfl (by decide +kernel) lkX10_121 rfl ⟨(Nat.le_of_ble_eq_true rfl), (Nat.le_of_ble_eq_true rfl)⟩ 0 rfl rfl hl.1 rfl (Nat.le_of_ble_eq_true rfl) dX10_noteOf_35 ⟨(Nat.zero_le _), (Nat.zero_le _)⟩) hP hD hS hA [0, 4] rfl (by decide +kernel) (fun _ => rfl) (fun r35 w35_0 H locs h hP hD hS => ?_)
    try dsimp only at h
    have hP : va_P D vwCl (wX10_noteOf cI cJ cS a_o a_beats a_notes a_pitch a_refused z_steps z_kind z_space z_other z_times z_speed z_base z_share z_held z_sort z_size z_shown z_cells z_carried z_words z_tell z_was z_kept z_cutSpace z_cutTimes z_cutOff z_trace v_stretches v_cars v_tunes v_along v_near v_borne v_tempo v_seed v_fault v_from v_at v_end v_told v_wrongAt v_culprit v_ran v_isKept f_beats f_notes f_pitch w35_0) H := hP
    have hD : va_D A (wX10_noteOf cI cJ cS a_o a_beats a_notes a_pitch a_refused z_steps z_kind z_space z_other z_times z_speed z_base z_share z_held z_sort z_size z_shown z_cells z_carried z_words z_tell z_was z_kept z_cutSpace z_cutTimes z_cutOff z_trace v_stretches v_cars v_tunes v_along v_near v_borne v_tempo v_seed v_fault v_from v_at v_end v_told v_wrongAt v_culprit v_ran v_isKept f_beats f_notes f_pitch w35_0) := hD
    exact W.iret hx hb hr (fun t ht _ => ⟨⟨_, w35_0, rfl, h, hPt hP ht⟩, hS.F ht⟩) hS.2.2 dX10_noteOf_38
  have h := h.2 hc
  refine lv_iload_n hx hb dX10_noteOf_23 rfl (lv_at hl 3 rfl) ?_
  refine lv_if_lt (tgt := 32) hx hb dX10_noteOf_24 (by decide) (fun hc => ?_) (fun hc => ?_)
  · have h := h.1 hc
    refine lv_aload_n hx hb dX10_noteOf_32 rfl (lv_at hl 0 rfl) ?_
    refine lv_bipush (v := (-5)) hx hb dX10_noteOf_33 (by decide) ?_
    refine rw_i (rwV S hE hT hS hP hD hA (c_X10_no h) [0, 4] rfl (by decide +kernel) lkX10_121 rfl ⟨(Nat.le_of_ble_eq_true rfl), (Nat.le_of_ble_eq_true rfl)⟩ 0 rfl rfl hl.1 rfl (Nat.le_of_ble_eq_true rfl) dX10_noteOf_35 ⟨(Nat.zero_le _), (Nat.zero_le _)⟩) hP hD hS hA [0, 4] rfl (by decide +kernel) (fun _ => rfl) (fun r35 w35_0 H locs h hP hD hS => ?_)
    try dsimp only at h
    have hP : va_P D vwCl (wX10_noteOf cI cJ cS a_o a_beats a_notes a_pitch a_refused z_steps z_kind z_space z_other z_times z_speed z_base z_share z_held z_sort z_size z_shown z_cells z_carried z_words z_tell z_was z_kept z_cutSpace z_cutTimes z_cutOff z_trace v_stretches v_cars v_tunes v_along v_near v_borne v_tempo v_seed v_fault v_from v_at v_end v_told v_wrongAt v_culprit v_ran v_isKept f_beats f_notes f_pitch w35_0) H := hP
    have hD : va_D A (wX10_noteOf cI cJ cS a_o a_beats a_notes a_pitch a_refused z_steps z_kind z_space z_other z_times z_speed z_base z_share z_held z_sort z_size z_shown z_cells z_carried z_words z_tell z_was z_kept z_cutSpace z_cutTimes z_cutOff z_trace v_stretches v_cars v_tunes v_along v_near v_borne v_tempo v_seed v_fault v_from v_at v_end v_told v_wrongAt v_culprit v_ran v_isKept f_beats f_notes f_pitch w35_0) := hD
    exact W.iret hx hb hr (fun t ht _ => ⟨⟨_, w35_0, rfl, h, hPt hP ht⟩, hS.F ht⟩) hS.2.2 dX10_noteOf_38
  have h := h.2 hc
  refine lv_iload_n hx hb dX10_noteOf_27 rfl (lv_at hl 3 rfl) ?_
  refine lv_iconst (v := 1) hx hb dX10_noteOf_28 (by decide) ?_
  refine lv_icmp_le (tgt := 39) hx hb dX10_noteOf_29 (by decide) (fun hc => ?_) (fun hc => ?_)
  · have h := h.1 hc
    refine lv_iload_n hx hb dX10_noteOf_39 rfl (lv_at hl 2 rfl) ?_
    refine lv_iconst (v := (-1)) hx hb dX10_noteOf_40 (by decide) ?_
    refine lv_icmp_ne (tgt := 69) hx hb dX10_noteOf_41 (by decide) (fun hc => ?_) (fun hc => ?_)
    · have h := h.2 hc
      refine lv_iload_n hx hb dX10_noteOf_69 rfl (lv_at hl 3 rfl) ?_
      refine lv_if_ne (tgt := 87) hx hb dX10_noteOf_70 (by decide) (fun hc => ?_) (fun hc => ?_)
      · have h := h.2 hc
        refine lv_aload_n hx hb dX10_noteOf_87 rfl (lv_at hl 0 rfl) ?_
        refine gf S hE hP 0 rfl rfl inX10 (k := 20) (by decide) q1113 rfl dX10_noteOf_88 ?_
        refine lv_bipush (v := 12) hx hb dX10_noteOf_91 (by decide) ?_
        refine lv_iload_n hx hb dX10_noteOf_93 rfl (lv_at hl 1 rfl) ?_
        refine lv_imul hx hb dX10_noteOf_94 ?_
        refine lv_iload_n hx hb dX10_noteOf_95 rfl (lv_at hl 2 rfl) ?_
        refine lv_iadd hx hb dX10_noteOf_96 ?_
        obtain ⟨hi, h⟩ := h
        refine ial S hE hP 1 rfl hi dX10_noteOf_97 ?_
        exact W.iret hx hb hr (fun t ht _ => ⟨⟨_, f_refused, rfl, h, hPt hP ht⟩, hS.F ht⟩) hS.2.2 dX10_noteOf_98
      have h := h.1 hc
      refine lv_aload_n hx hb dX10_noteOf_73 rfl (lv_at hl 0 rfl) ?_
      refine gf S hE hP 0 rfl rfl inX10 (k := 19) (by decide) q1112 rfl dX10_noteOf_74 ?_
      refine lv_bipush (v := 12) hx hb dX10_noteOf_77 (by decide) ?_
      refine lv_iload_n hx hb dX10_noteOf_79 rfl (lv_at hl 1 rfl) ?_
      refine lv_imul hx hb dX10_noteOf_80 ?_
      refine lv_iload_n hx hb dX10_noteOf_81 rfl (lv_at hl 2 rfl) ?_
      refine lv_iadd hx hb dX10_noteOf_82 ?_
      obtain ⟨hi, h⟩ := h
      refine ial S hE hP 3 rfl hi dX10_noteOf_83 ?_
      refine lv_goto (tgt := 98) hx hb dX10_noteOf_84 (by decide) ?_
      exact W.iret hx hb hr (fun t ht _ => ⟨⟨_, f_refused, rfl, h, hPt hP ht⟩, hS.F ht⟩) hS.2.2 dX10_noteOf_98
    have h := h.1 hc
    refine lv_iload_n hx hb dX10_noteOf_44 rfl (lv_at hl 3 rfl) ?_
    refine lv_if_ne (tgt := 57) hx hb dX10_noteOf_45 (by decide) (fun hc => ?_) (fun hc => ?_)
    · have h := h.2 hc
      refine lv_aload_n hx hb dX10_noteOf_57 rfl (lv_at hl 0 rfl) ?_
      refine lv_iload_n hx hb dX10_noteOf_58 rfl (lv_at hl 1 rfl) ?_
      refine lv_aload_n hx hb dX10_noteOf_59 rfl (lv_at hl 0 rfl) ?_
      refine gf S hE hP 0 rfl rfl inX10 (k := 18) (by decide) q1111 rfl dX10_noteOf_60 ?_
      refine lv_iload_n hx hb dX10_noteOf_63 rfl (lv_at hl 1 rfl) ?_
      obtain ⟨hi, h⟩ := h
      refine ial S hE hP 2 rfl hi dX10_noteOf_64 ?_
      refine ro_i (roV S hE hT hS (c_X10_beatsTo h) lkX10_171 rfl ⟨(Nat.le_of_ble_eq_true rfl), (Nat.le_of_ble_eq_true rfl)⟩ (hP.sub [0, 1] rfl) 0 rfl rfl hl.1 rfl (Nat.le_of_ble_eq_true rfl) dX10_noteOf_65 ⟨(Nat.zero_le _), (Nat.zero_le _)⟩) (fun r65 h => ?_)
      exact W.iret hx hb hr (fun t ht _ => ⟨⟨_, f_refused, rfl, h, hPt hP ht⟩, hS.F ht⟩) hS.2.2 dX10_noteOf_68
    have h := h.1 hc
    refine lv_aload_n hx hb dX10_noteOf_48 rfl (lv_at hl 0 rfl) ?_
    refine gf S hE hP 0 rfl rfl inX10 (k := 18) (by decide) q1111 rfl dX10_noteOf_49 ?_
    refine lv_iload_n hx hb dX10_noteOf_52 rfl (lv_at hl 1 rfl) ?_
    obtain ⟨hi, h⟩ := h
    refine ial S hE hP 2 rfl hi dX10_noteOf_53 ?_
    refine lv_goto (tgt := 68) hx hb dX10_noteOf_54 (by decide) ?_
    exact W.iret hx hb hr (fun t ht _ => ⟨⟨_, f_refused, rfl, h, hPt hP ht⟩, hS.F ht⟩) hS.2.2 dX10_noteOf_68
  have h := h.2 hc
  refine lv_aload_n hx hb dX10_noteOf_32 rfl (lv_at hl 0 rfl) ?_
  refine lv_bipush (v := (-5)) hx hb dX10_noteOf_33 (by decide) ?_
  refine rw_i (rwV S hE hT hS hP hD hA (c_X10_no h) [0, 4] rfl (by decide +kernel) lkX10_121 rfl ⟨(Nat.le_of_ble_eq_true rfl), (Nat.le_of_ble_eq_true rfl)⟩ 0 rfl rfl hl.1 rfl (Nat.le_of_ble_eq_true rfl) dX10_noteOf_35 ⟨(Nat.zero_le _), (Nat.zero_le _)⟩) hP hD hS hA [0, 4] rfl (by decide +kernel) (fun _ => rfl) (fun r35 w35_0 H locs h hP hD hS => ?_)
  try dsimp only at h
  have hP : va_P D vwCl (wX10_noteOf cI cJ cS a_o a_beats a_notes a_pitch a_refused z_steps z_kind z_space z_other z_times z_speed z_base z_share z_held z_sort z_size z_shown z_cells z_carried z_words z_tell z_was z_kept z_cutSpace z_cutTimes z_cutOff z_trace v_stretches v_cars v_tunes v_along v_near v_borne v_tempo v_seed v_fault v_from v_at v_end v_told v_wrongAt v_culprit v_ran v_isKept f_beats f_notes f_pitch w35_0) H := hP
  have hD : va_D A (wX10_noteOf cI cJ cS a_o a_beats a_notes a_pitch a_refused z_steps z_kind z_space z_other z_times z_speed z_base z_share z_held z_sort z_size z_shown z_cells z_carried z_words z_tell z_was z_kept z_cutSpace z_cutTimes z_cutOff z_trace v_stretches v_cars v_tunes v_along v_near v_borne v_tempo v_seed v_fault v_from v_at v_end v_told v_wrongAt v_culprit v_ran v_isKept f_beats f_notes f_pitch w35_0) := hD
  exact W.iret hx hb hr (fun t ht _ => ⟨⟨_, w35_0, rfl, h, hPt hP ht⟩, hS.F ht⟩) hS.2.2 dX10_noteOf_38
/-! X10_ask -/
abbrev wX10_ask (cI cJ cS : ClassId) (a_o a_refused : Nat) (z_steps z_kind z_space z_other z_times z_speed z_base z_share z_notes z_pitch z_beats z_held z_sort z_size z_shown z_cells z_carried z_words z_tell z_was z_kept z_cutSpace z_cutTimes z_cutOff z_trace : Value) (v_stretches : Int32) (v_cars : Int32) (v_tunes : Int32) (v_along : Int32) (v_near : Int32) (v_borne : Int32) (v_tempo : Int32) (v_seed : Int32) (v_fault : Int32) (v_from : Int32) (v_at : Int32) (v_end : Int32) (v_told : Int32) (v_wrongAt : Int32) (v_culprit : Int32) (v_ran : Int32) (v_isKept : Int32) (f_refused : Nat → Int32) : va_W := [(a_o, .inr (9, [.int v_stretches, .int v_cars, .int v_tunes, .int v_along, .int v_near, .int v_borne, .int v_tempo, .int v_seed, .int v_fault, .ref a_refused, z_steps, z_kind, z_space, z_other, z_times, z_speed, z_base, z_share, z_notes, z_pitch, z_beats, z_held, z_sort, z_size, z_shown, z_cells, z_carried, z_words, z_tell, .int v_from, .int v_at, .int v_end, .int v_told, .int v_wrongAt, z_was, z_kept, .int v_culprit, z_cutSpace, z_cutTimes, z_cutOff, z_trace, .int v_ran, .int v_isKept])), (a_refused, .inl (cI, 8, .inl f_refused))]
def F_X10_ask_87 (post : Int32 → Int32 → Int32 → Int32 → Int32 → (Nat → Int32) → Prop) (x1 : Int32) (x2 : Int32) (v_along : Int32) (v_near : Int32) (v_borne : Int32) (v_tempo : Int32) (f_refused : Nat → Int32) : Prop := ((x1 = 3 → ((x2 < 50 → (F_X10_no f_refused (-6) (fun r121 w121_0 => post r121 v_along v_near v_borne v_tempo w121_0))) ∧ (¬ x2 < 50 → ((2000 < x2 → (F_X10_no f_refused (-6) (fun r121 w121_0 => post r121 v_along v_near v_borne v_tempo w121_0))) ∧ (¬ 2000 < x2 → post v_tempo v_along v_near v_borne x2 f_refused))))) ∧ (¬ x1 = 3 → (F_X10_no f_refused (-6) (fun r121 w121_0 => post r121 v_along v_near v_borne v_tempo w121_0))))
def F_X10_ask_58 (post : Int32 → Int32 → Int32 → Int32 → Int32 → (Nat → Int32) → Prop) (x1 : Int32) (x2 : Int32) (v_along : Int32) (v_near : Int32) (v_borne : Int32) (v_tempo : Int32) (f_refused : Nat → Int32) : Prop := ((x1 = 2 → ((x2 < 0 → F_X10_ask_87 post x1 x2 v_along v_near v_borne v_tempo f_refused) ∧ (¬ x2 < 0 → ((500 < x2 → F_X10_ask_87 post x1 x2 v_along v_near v_borne v_tempo f_refused) ∧ (¬ 500 < x2 → post v_borne v_along v_near x2 v_tempo f_refused))))) ∧ (¬ x1 = 2 → F_X10_ask_87 post x1 x2 v_along v_near v_borne v_tempo f_refused))
def F_X10_ask_29 (post : Int32 → Int32 → Int32 → Int32 → Int32 → (Nat → Int32) → Prop) (x1 : Int32) (x2 : Int32) (v_along : Int32) (v_near : Int32) (v_borne : Int32) (v_tempo : Int32) (f_refused : Nat → Int32) : Prop := ((x1 = 1 → ((x2 < 2 → F_X10_ask_58 post x1 x2 v_along v_near v_borne v_tempo f_refused) ∧ (¬ x2 < 2 → ((30 < x2 → F_X10_ask_58 post x1 x2 v_along v_near v_borne v_tempo f_refused) ∧ (¬ 30 < x2 → post v_near v_along x2 v_borne v_tempo f_refused))))) ∧ (¬ x1 = 1 → F_X10_ask_58 post x1 x2 v_along v_near v_borne v_tempo f_refused))
def F_X10_ask (v_along : Int32) (v_near : Int32) (v_borne : Int32) (v_tempo : Int32) (f_refused : Nat → Int32) (x1 : Int32) (x2 : Int32) (post : Int32 → Int32 → Int32 → Int32 → Int32 → (Nat → Int32) → Prop) : Prop := ((x1 = 0 → ((x2 < 1 → F_X10_ask_29 post x1 x2 v_along v_near v_borne v_tempo f_refused) ∧ (¬ x2 < 1 → ((9999 < x2 → F_X10_ask_29 post x1 x2 v_along v_near v_borne v_tempo f_refused) ∧ (¬ 9999 < x2 → post v_along x2 v_near v_borne v_tempo f_refused))))) ∧ (¬ x1 = 0 → F_X10_ask_29 post x1 x2 v_along v_near v_borne v_tempo f_refused))
set_option maxHeartbeats 4000000 in
set_option maxRecDepth 100000 in
theorem w_X10_ask_87 {l : Launch} {D : va_G} {cI cJ cS : ClassId} {ad adK : Nat → Nat} {a_o a_refused : Nat} {z_steps z_kind z_space z_other z_times z_speed z_base z_share z_notes z_pitch z_beats z_held z_sort z_size z_shown z_cells z_carried z_words z_tell z_was z_kept z_cutSpace z_cutTimes z_cutOff z_trace : Value} {v_stretches : Int32} {v_cars : Int32} {v_tunes : Int32} {v_along : Int32} {v_near : Int32} {v_borne : Int32} {v_tempo : Int32} {v_seed : Int32} {v_fault : Int32} {v_from : Int32} {v_at : Int32} {v_end : Int32} {v_told : Int32} {v_wrongAt : Int32} {v_culprit : Int32} {v_ran : Int32} {v_isKept : Int32} {f_refused : Nat → Int32} {x1 : Int32} {x2 : Int32} {post : Int32 → Int32 → Int32 → Int32 → Int32 → (Nat → Int32) → Prop} {p : Program} {e : Env} {s : State} {m : MethodId} {args : Array Value} {below : List Frame} {meth : Method} {c : Code} {A : Nat → Prop} (S : CallFix p m c cX10_ask 4 s args GW "RoadThatSingsModel") (hE : EN D cI cJ cS s) (hT : ST ad adK A s s.heap) (hA : ∀ q : Nat, s.heap.size ≤ q → A q) (hr : meth.sig.returnType = (some (.int))) (hlocks : meth.locks = false) : ∀ (H : Heap) (locs : List Loc) (ls : Array Slot), F_X10_ask_87 post x1 x2 v_along v_near v_borne v_tempo f_refused → va_P D vwCl (wX10_ask cI cJ cS a_o a_refused z_steps z_kind z_space z_other z_times z_speed z_base z_share z_notes z_pitch z_beats z_held z_sort z_size z_shown z_cells z_carried z_words z_tell z_was z_kept z_cutSpace z_cutTimes z_cutOff z_trace v_stretches v_cars v_tunes v_along v_near v_borne v_tempo v_seed v_fault v_from v_at v_end v_told v_wrongAt v_culprit v_ran v_isKept f_refused) H → va_D A (wX10_ask cI cJ cS a_o a_refused z_steps z_kind z_space z_other z_times z_speed z_base z_share z_notes z_pitch z_beats z_held z_sort z_size z_shown z_cells z_carried z_words z_tell z_was z_kept z_cutSpace z_cutTimes z_cutOff z_trace v_stretches v_cars v_tunes v_along v_near v_borne v_tempo v_seed v_fault v_from v_at v_end v_told v_wrongAt v_culprit v_ran v_isKept f_refused) → va_S A s.heap H locs → lv_has ls 4 [(0, .ref a_o), (1, .int x1), (2, .int x2)] → W p l e (rmd 1 0 0) s m args below meth c H locs 0 0 (MQ below (va_Qi (fun r (u : Int32 × Int32 × Int32 × Int32 × (Nat → Int32)) => post r u.1 u.2.1 u.2.2.1 u.2.2.2.1 u.2.2.2.2) (fun u t => va_P D vwCl (wX10_ask cI cJ cS a_o a_refused z_steps z_kind z_space z_other z_times z_speed z_base z_share z_notes z_pitch z_beats z_held z_sort z_size z_shown z_cells z_carried z_words z_tell z_was z_kept z_cutSpace z_cutTimes z_cutOff z_trace v_stretches v_cars v_tunes u.1 u.2.1 u.2.2.1 u.2.2.2.1 v_seed v_fault v_from v_at v_end v_told v_wrongAt v_culprit v_ran v_isKept u.2.2.2.2) t.heap) A) args s 0 0 A) (F0 m 87 ls []) := by
  intro  H locs ls h hP hD hS hl
  unfold F_X10_ask_87 at h
  have hx := S.1
  have hb := S.2.1
  refine lv_iload_n hx hb dX10_ask_87 rfl (lv_at hl 1 rfl) ?_
  refine lv_iconst (v := 3) hx hb dX10_ask_88 (by decide) ?_
  refine lv_icmp_ne (tgt := 118) hx hb dX10_ask_89 (by decide) (fun hc => ?_) (fun hc => ?_)
  · have h := h.2 hc
    refine lv_aload_n hx hb dX10_ask_118 rfl (lv_at hl 0 rfl) ?_
    refine lv_bipush (v := (-6)) hx hb dX10_ask_119 (by decide) ?_
    refine rw_i (rwV S hE hT hS hP hD hA (c_X10_no h) [0, 1] rfl (by decide +kernel) lkX10_121 rfl ⟨(Nat.le_of_ble_eq_true rfl), (Nat.le_of_ble_eq_true rfl)⟩ 0 rfl rfl hl.1 rfl (Nat.le_of_ble_eq_true rfl) dX10_ask_121 ⟨(Nat.zero_le _), (Nat.zero_le _)⟩) hP hD hS hA [0, 1] rfl (by decide +kernel) (fun _ => rfl) (fun r121 w121_0 H locs h hP hD hS => ?_)
    try dsimp only at h
    have hP : va_P D vwCl (wX10_ask cI cJ cS a_o a_refused z_steps z_kind z_space z_other z_times z_speed z_base z_share z_notes z_pitch z_beats z_held z_sort z_size z_shown z_cells z_carried z_words z_tell z_was z_kept z_cutSpace z_cutTimes z_cutOff z_trace v_stretches v_cars v_tunes v_along v_near v_borne v_tempo v_seed v_fault v_from v_at v_end v_told v_wrongAt v_culprit v_ran v_isKept w121_0) H := hP
    have hD : va_D A (wX10_ask cI cJ cS a_o a_refused z_steps z_kind z_space z_other z_times z_speed z_base z_share z_notes z_pitch z_beats z_held z_sort z_size z_shown z_cells z_carried z_words z_tell z_was z_kept z_cutSpace z_cutTimes z_cutOff z_trace v_stretches v_cars v_tunes v_along v_near v_borne v_tempo v_seed v_fault v_from v_at v_end v_told v_wrongAt v_culprit v_ran v_isKept w121_0) := hD
    exact W.iret hx hb hr (fun t ht _ => ⟨⟨_, (v_along, v_near, v_borne, v_tempo, w121_0), rfl, h, hPt hP ht⟩, hS.F ht⟩) hS.2.2 dX10_ask_124
  have h := h.1 hc
  refine lv_iload_n hx hb dX10_ask_92 rfl (lv_at hl 2 rfl) ?_
  refine lv_bipush (v := 50) hx hb dX10_ask_93 (by decide) ?_
  refine lv_icmp_lt (tgt := 118) hx hb dX10_ask_95 (by decide) (fun hc => ?_) (fun hc => ?_)
  · have h := h.1 hc
    refine lv_aload_n hx hb dX10_ask_118 rfl (lv_at hl 0 rfl) ?_
    refine lv_bipush (v := (-6)) hx hb dX10_ask_119 (by decide) ?_
    refine rw_i (rwV S hE hT hS hP hD hA (c_X10_no h) [0, 1] rfl (by decide +kernel) lkX10_121 rfl ⟨(Nat.le_of_ble_eq_true rfl), (Nat.le_of_ble_eq_true rfl)⟩ 0 rfl rfl hl.1 rfl (Nat.le_of_ble_eq_true rfl) dX10_ask_121 ⟨(Nat.zero_le _), (Nat.zero_le _)⟩) hP hD hS hA [0, 1] rfl (by decide +kernel) (fun _ => rfl) (fun r121 w121_0 H locs h hP hD hS => ?_)
    try dsimp only at h
    have hP : va_P D vwCl (wX10_ask cI cJ cS a_o a_refused z_steps z_kind z_space z_other z_times z_speed z_base z_share z_notes z_pitch z_beats z_held z_sort z_size z_shown z_cells z_carried z_words z_tell z_was z_kept z_cutSpace z_cutTimes z_cutOff z_trace v_stretches v_cars v_tunes v_along v_near v_borne v_tempo v_seed v_fault v_from v_at v_end v_told v_wrongAt v_culprit v_ran v_isKept w121_0) H := hP
    have hD : va_D A (wX10_ask cI cJ cS a_o a_refused z_steps z_kind z_space z_other z_times z_speed z_base z_share z_notes z_pitch z_beats z_held z_sort z_size z_shown z_cells z_carried z_words z_tell z_was z_kept z_cutSpace z_cutTimes z_cutOff z_trace v_stretches v_cars v_tunes v_along v_near v_borne v_tempo v_seed v_fault v_from v_at v_end v_told v_wrongAt v_culprit v_ran v_isKept w121_0) := hD
    exact W.iret hx hb hr (fun t ht _ => ⟨⟨_, (v_along, v_near, v_borne, v_tempo, w121_0), rfl, h, hPt hP ht⟩, hS.F ht⟩) hS.2.2 dX10_ask_124
  have h := h.2 hc
  refine lv_iload_n hx hb dX10_ask_98 rfl (lv_at hl 2 rfl) ?_
  refine lv_sipush (v := 2000) hx hb dX10_ask_99 (by decide) ?_
  refine lv_icmp_gt (tgt := 118) hx hb dX10_ask_102 (by decide) (fun hc => ?_) (fun hc => ?_)
  · have h := h.1 hc
    refine lv_aload_n hx hb dX10_ask_118 rfl (lv_at hl 0 rfl) ?_
    refine lv_bipush (v := (-6)) hx hb dX10_ask_119 (by decide) ?_
    refine rw_i (rwV S hE hT hS hP hD hA (c_X10_no h) [0, 1] rfl (by decide +kernel) lkX10_121 rfl ⟨(Nat.le_of_ble_eq_true rfl), (Nat.le_of_ble_eq_true rfl)⟩ 0 rfl rfl hl.1 rfl (Nat.le_of_ble_eq_true rfl) dX10_ask_121 ⟨(Nat.zero_le _), (Nat.zero_le _)⟩) hP hD hS hA [0, 1] rfl (by decide +kernel) (fun _ => rfl) (fun r121 w121_0 H locs h hP hD hS => ?_)
    try dsimp only at h
    have hP : va_P D vwCl (wX10_ask cI cJ cS a_o a_refused z_steps z_kind z_space z_other z_times z_speed z_base z_share z_notes z_pitch z_beats z_held z_sort z_size z_shown z_cells z_carried z_words z_tell z_was z_kept z_cutSpace z_cutTimes z_cutOff z_trace v_stretches v_cars v_tunes v_along v_near v_borne v_tempo v_seed v_fault v_from v_at v_end v_told v_wrongAt v_culprit v_ran v_isKept w121_0) H := hP
    have hD : va_D A (wX10_ask cI cJ cS a_o a_refused z_steps z_kind z_space z_other z_times z_speed z_base z_share z_notes z_pitch z_beats z_held z_sort z_size z_shown z_cells z_carried z_words z_tell z_was z_kept z_cutSpace z_cutTimes z_cutOff z_trace v_stretches v_cars v_tunes v_along v_near v_borne v_tempo v_seed v_fault v_from v_at v_end v_told v_wrongAt v_culprit v_ran v_isKept w121_0) := hD
    exact W.iret hx hb hr (fun t ht _ => ⟨⟨_, (v_along, v_near, v_borne, v_tempo, w121_0), rfl, h, hPt hP ht⟩, hS.F ht⟩) hS.2.2 dX10_ask_124
  have h := h.2 hc
  refine lv_aload_n hx hb dX10_ask_105 rfl (lv_at hl 0 rfl) ?_
  refine gf S hE hP 0 rfl rfl inX10 (k := 6) (by decide) q1099 rfl dX10_ask_106 ?_
  refine lv_istore_n (lv' := [(3, .int v_tempo), (0, .ref a_o), (1, .int x1), (2, .int x2)]) hx hb dX10_ask_109 rfl hl (by decide) rfl (fun ls hl => ?_)
  refine lv_aload_n hx hb dX10_ask_110 rfl (lv_at hl 1 rfl) ?_
  refine lv_iload_n hx hb dX10_ask_111 rfl (lv_at hl 3 rfl) ?_
  refine pf S hE hP hD hS 0 (k := 6) rfl rfl inX10 tyX10_ok nmX10 (by decide) q1099 rfl rfl rfl (Nat.le_of_ble_eq_true rfl) dX10_ask_112 (fun H locs hP hD hS => ?_)
  have hP : va_P D vwCl (wX10_ask cI cJ cS a_o a_refused z_steps z_kind z_space z_other z_times z_speed z_base z_share z_notes z_pitch z_beats z_held z_sort z_size z_shown z_cells z_carried z_words z_tell z_was z_kept z_cutSpace z_cutTimes z_cutOff z_trace v_stretches v_cars v_tunes v_along v_near v_borne x2 v_seed v_fault v_from v_at v_end v_told v_wrongAt v_culprit v_ran v_isKept f_refused) H := hP
  have hD : va_D A (wX10_ask cI cJ cS a_o a_refused z_steps z_kind z_space z_other z_times z_speed z_base z_share z_notes z_pitch z_beats z_held z_sort z_size z_shown z_cells z_carried z_words z_tell z_was z_kept z_cutSpace z_cutTimes z_cutOff z_trace v_stretches v_cars v_tunes v_along v_near v_borne x2 v_seed v_fault v_from v_at v_end v_told v_wrongAt v_culprit v_ran v_isKept f_refused) := hD
  refine lv_goto (tgt := 125) hx hb dX10_ask_115 (by decide) ?_
  refine lv_iload_n hx hb dX10_ask_125 rfl (lv_at hl 0 rfl) ?_
  exact W.iret hx hb hr (fun t ht _ => ⟨⟨_, (v_along, v_near, v_borne, x2, f_refused), rfl, h, hPt hP ht⟩, hS.F ht⟩) hS.2.2 dX10_ask_126
set_option maxHeartbeats 4000000 in
set_option maxRecDepth 100000 in
theorem w_X10_ask_58 {l : Launch} {D : va_G} {cI cJ cS : ClassId} {ad adK : Nat → Nat} {a_o a_refused : Nat} {z_steps z_kind z_space z_other z_times z_speed z_base z_share z_notes z_pitch z_beats z_held z_sort z_size z_shown z_cells z_carried z_words z_tell z_was z_kept z_cutSpace z_cutTimes z_cutOff z_trace : Value} {v_stretches : Int32} {v_cars : Int32} {v_tunes : Int32} {v_along : Int32} {v_near : Int32} {v_borne : Int32} {v_tempo : Int32} {v_seed : Int32} {v_fault : Int32} {v_from : Int32} {v_at : Int32} {v_end : Int32} {v_told : Int32} {v_wrongAt : Int32} {v_culprit : Int32} {v_ran : Int32} {v_isKept : Int32} {f_refused : Nat → Int32} {x1 : Int32} {x2 : Int32} {post : Int32 → Int32 → Int32 → Int32 → Int32 → (Nat → Int32) → Prop} {p : Program} {e : Env} {s : State} {m : MethodId} {args : Array Value} {below : List Frame} {meth : Method} {c : Code} {A : Nat → Prop} (S : CallFix p m c cX10_ask 4 s args GW "RoadThatSingsModel") (hE : EN D cI cJ cS s) (hT : ST ad adK A s s.heap) (hA : ∀ q : Nat, s.heap.size ≤ q → A q) (hr : meth.sig.returnType = (some (.int))) (hlocks : meth.locks = false) : ∀ (H : Heap) (locs : List Loc) (ls : Array Slot), F_X10_ask_58 post x1 x2 v_along v_near v_borne v_tempo f_refused → va_P D vwCl (wX10_ask cI cJ cS a_o a_refused z_steps z_kind z_space z_other z_times z_speed z_base z_share z_notes z_pitch z_beats z_held z_sort z_size z_shown z_cells z_carried z_words z_tell z_was z_kept z_cutSpace z_cutTimes z_cutOff z_trace v_stretches v_cars v_tunes v_along v_near v_borne v_tempo v_seed v_fault v_from v_at v_end v_told v_wrongAt v_culprit v_ran v_isKept f_refused) H → va_D A (wX10_ask cI cJ cS a_o a_refused z_steps z_kind z_space z_other z_times z_speed z_base z_share z_notes z_pitch z_beats z_held z_sort z_size z_shown z_cells z_carried z_words z_tell z_was z_kept z_cutSpace z_cutTimes z_cutOff z_trace v_stretches v_cars v_tunes v_along v_near v_borne v_tempo v_seed v_fault v_from v_at v_end v_told v_wrongAt v_culprit v_ran v_isKept f_refused) → va_S A s.heap H locs → lv_has ls 4 [(0, .ref a_o), (1, .int x1), (2, .int x2)] → W p l e (rmd 1 0 0) s m args below meth c H locs 0 0 (MQ below (va_Qi (fun r (u : Int32 × Int32 × Int32 × Int32 × (Nat → Int32)) => post r u.1 u.2.1 u.2.2.1 u.2.2.2.1 u.2.2.2.2) (fun u t => va_P D vwCl (wX10_ask cI cJ cS a_o a_refused z_steps z_kind z_space z_other z_times z_speed z_base z_share z_notes z_pitch z_beats z_held z_sort z_size z_shown z_cells z_carried z_words z_tell z_was z_kept z_cutSpace z_cutTimes z_cutOff z_trace v_stretches v_cars v_tunes u.1 u.2.1 u.2.2.1 u.2.2.2.1 v_seed v_fault v_from v_at v_end v_told v_wrongAt v_culprit v_ran v_isKept u.2.2.2.2) t.heap) A) args s 0 0 A) (F0 m 58 ls []) := by
  intro  H locs ls h hP hD hS hl
  unfold F_X10_ask_58 at h
  have hx := S.1
  have hb := S.2.1
  refine lv_iload_n hx hb dX10_ask_58 rfl (lv_at hl 1 rfl) ?_
  refine lv_iconst (v := 2) hx hb dX10_ask_59 (by decide) ?_
  refine lv_icmp_ne (tgt := 87) hx hb dX10_ask_60 (by decide) (fun hc => ?_) (fun hc => ?_)
  · have h := h.2 hc
    refine w_X10_ask_87 S hE hT hA hr hlocks _ _ _ h hP hD hS (lv_sub hl [0, 1, 2] rfl)
  have h := h.1 hc
  refine lv_iload_n hx hb dX10_ask_63 rfl (lv_at hl 2 rfl) ?_
  refine lv_if_lt (tgt := 87) hx hb dX10_ask_64 (by decide) (fun hc => ?_) (fun hc => ?_)
  · have h := h.1 hc
    refine w_X10_ask_87 S hE hT hA hr hlocks _ _ _ h hP hD hS (lv_sub hl [0, 1, 2] rfl)
  have h := h.2 hc
  refine lv_iload_n hx hb dX10_ask_67 rfl (lv_at hl 2 rfl) ?_
  refine lv_sipush (v := 500) hx hb dX10_ask_68 (by decide) ?_
  refine lv_icmp_gt (tgt := 87) hx hb dX10_ask_71 (by decide) (fun hc => ?_) (fun hc => ?_)
  · have h := h.1 hc
    refine w_X10_ask_87 S hE hT hA hr hlocks _ _ _ h hP hD hS (lv_sub hl [0, 1, 2] rfl)
  have h := h.2 hc
  refine lv_aload_n hx hb dX10_ask_74 rfl (lv_at hl 0 rfl) ?_
  refine gf S hE hP 0 rfl rfl inX10 (k := 5) (by decide) q1098 rfl dX10_ask_75 ?_
  refine lv_istore_n (lv' := [(3, .int v_borne), (0, .ref a_o), (1, .int x1), (2, .int x2)]) hx hb dX10_ask_78 rfl hl (by decide) rfl (fun ls hl => ?_)
  refine lv_aload_n hx hb dX10_ask_79 rfl (lv_at hl 1 rfl) ?_
  refine lv_iload_n hx hb dX10_ask_80 rfl (lv_at hl 3 rfl) ?_
  refine pf S hE hP hD hS 0 (k := 5) rfl rfl inX10 tyX10_ok nmX10 (by decide) q1098 rfl rfl rfl (Nat.le_of_ble_eq_true rfl) dX10_ask_81 (fun H locs hP hD hS => ?_)
  have hP : va_P D vwCl (wX10_ask cI cJ cS a_o a_refused z_steps z_kind z_space z_other z_times z_speed z_base z_share z_notes z_pitch z_beats z_held z_sort z_size z_shown z_cells z_carried z_words z_tell z_was z_kept z_cutSpace z_cutTimes z_cutOff z_trace v_stretches v_cars v_tunes v_along v_near x2 v_tempo v_seed v_fault v_from v_at v_end v_told v_wrongAt v_culprit v_ran v_isKept f_refused) H := hP
  have hD : va_D A (wX10_ask cI cJ cS a_o a_refused z_steps z_kind z_space z_other z_times z_speed z_base z_share z_notes z_pitch z_beats z_held z_sort z_size z_shown z_cells z_carried z_words z_tell z_was z_kept z_cutSpace z_cutTimes z_cutOff z_trace v_stretches v_cars v_tunes v_along v_near x2 v_tempo v_seed v_fault v_from v_at v_end v_told v_wrongAt v_culprit v_ran v_isKept f_refused) := hD
  refine lv_goto (tgt := 125) hx hb dX10_ask_84 (by decide) ?_
  refine lv_iload_n hx hb dX10_ask_125 rfl (lv_at hl 0 rfl) ?_
  exact W.iret hx hb hr (fun t ht _ => ⟨⟨_, (v_along, v_near, x2, v_tempo, f_refused), rfl, h, hPt hP ht⟩, hS.F ht⟩) hS.2.2 dX10_ask_126
set_option maxHeartbeats 4000000 in
set_option maxRecDepth 100000 in
theorem w_X10_ask_29 {l : Launch} {D : va_G} {cI cJ cS : ClassId} {ad adK : Nat → Nat} {a_o a_refused : Nat} {z_steps z_kind z_space z_other z_times z_speed z_base z_share z_notes z_pitch z_beats z_held z_sort z_size z_shown z_cells z_carried z_words z_tell z_was z_kept z_cutSpace z_cutTimes z_cutOff z_trace : Value} {v_stretches : Int32} {v_cars : Int32} {v_tunes : Int32} {v_along : Int32} {v_near : Int32} {v_borne : Int32} {v_tempo : Int32} {v_seed : Int32} {v_fault : Int32} {v_from : Int32} {v_at : Int32} {v_end : Int32} {v_told : Int32} {v_wrongAt : Int32} {v_culprit : Int32} {v_ran : Int32} {v_isKept : Int32} {f_refused : Nat → Int32} {x1 : Int32} {x2 : Int32} {post : Int32 → Int32 → Int32 → Int32 → Int32 → (Nat → Int32) → Prop} {p : Program} {e : Env} {s : State} {m : MethodId} {args : Array Value} {below : List Frame} {meth : Method} {c : Code} {A : Nat → Prop} (S : CallFix p m c cX10_ask 4 s args GW "RoadThatSingsModel") (hE : EN D cI cJ cS s) (hT : ST ad adK A s s.heap) (hA : ∀ q : Nat, s.heap.size ≤ q → A q) (hr : meth.sig.returnType = (some (.int))) (hlocks : meth.locks = false) : ∀ (H : Heap) (locs : List Loc) (ls : Array Slot), F_X10_ask_29 post x1 x2 v_along v_near v_borne v_tempo f_refused → va_P D vwCl (wX10_ask cI cJ cS a_o a_refused z_steps z_kind z_space z_other z_times z_speed z_base z_share z_notes z_pitch z_beats z_held z_sort z_size z_shown z_cells z_carried z_words z_tell z_was z_kept z_cutSpace z_cutTimes z_cutOff z_trace v_stretches v_cars v_tunes v_along v_near v_borne v_tempo v_seed v_fault v_from v_at v_end v_told v_wrongAt v_culprit v_ran v_isKept f_refused) H → va_D A (wX10_ask cI cJ cS a_o a_refused z_steps z_kind z_space z_other z_times z_speed z_base z_share z_notes z_pitch z_beats z_held z_sort z_size z_shown z_cells z_carried z_words z_tell z_was z_kept z_cutSpace z_cutTimes z_cutOff z_trace v_stretches v_cars v_tunes v_along v_near v_borne v_tempo v_seed v_fault v_from v_at v_end v_told v_wrongAt v_culprit v_ran v_isKept f_refused) → va_S A s.heap H locs → lv_has ls 4 [(0, .ref a_o), (1, .int x1), (2, .int x2)] → W p l e (rmd 1 0 0) s m args below meth c H locs 0 0 (MQ below (va_Qi (fun r (u : Int32 × Int32 × Int32 × Int32 × (Nat → Int32)) => post r u.1 u.2.1 u.2.2.1 u.2.2.2.1 u.2.2.2.2) (fun u t => va_P D vwCl (wX10_ask cI cJ cS a_o a_refused z_steps z_kind z_space z_other z_times z_speed z_base z_share z_notes z_pitch z_beats z_held z_sort z_size z_shown z_cells z_carried z_words z_tell z_was z_kept z_cutSpace z_cutTimes z_cutOff z_trace v_stretches v_cars v_tunes u.1 u.2.1 u.2.2.1 u.2.2.2.1 v_seed v_fault v_from v_at v_end v_told v_wrongAt v_culprit v_ran v_isKept u.2.2.2.2) t.heap) A) args s 0 0 A) (F0 m 29 ls []) := by
  intro  H locs ls h hP hD hS hl
  unfold F_X10_ask_29 at h
  have hx := S.1
  have hb := S.2.1
  refine lv_iload_n hx hb dX10_ask_29 rfl (lv_at hl 1 rfl) ?_
  refine lv_iconst (v := 1) hx hb dX10_ask_30 (by decide) ?_
  refine lv_icmp_ne (tgt := 58) hx hb dX10_ask_31 (by decide) (fun hc => ?_) (fun hc => ?_)
  · have h := h.2 hc
    refine w_X10_ask_58 S hE hT hA hr hlocks _ _ _ h hP hD hS (lv_sub hl [0, 1, 2] rfl)
  have h := h.1 hc
  refine lv_iload_n hx hb dX10_ask_34 rfl (lv_at hl 2 rfl) ?_
  refine lv_iconst (v := 2) hx hb dX10_ask_35 (by decide) ?_
  refine lv_icmp_lt (tgt := 58) hx hb dX10_ask_36 (by decide) (fun hc => ?_) (fun hc => ?_)
  · have h := h.1 hc
    refine w_X10_ask_58 S hE hT hA hr hlocks _ _ _ h hP hD hS (lv_sub hl [0, 1, 2] rfl)
  have h := h.2 hc
  refine lv_iload_n hx hb dX10_ask_39 rfl (lv_at hl 2 rfl) ?_
  refine lv_bipush (v := 30) hx hb dX10_ask_40 (by decide) ?_
  refine lv_icmp_gt (tgt := 58) hx hb dX10_ask_42 (by decide) (fun hc => ?_) (fun hc => ?_)
  · have h := h.1 hc
    refine w_X10_ask_58 S hE hT hA hr hlocks _ _ _ h hP hD hS (lv_sub hl [0, 1, 2] rfl)
  have h := h.2 hc
  refine lv_aload_n hx hb dX10_ask_45 rfl (lv_at hl 0 rfl) ?_
  refine gf S hE hP 0 rfl rfl inX10 (k := 4) (by decide) q1097 rfl dX10_ask_46 ?_
  refine lv_istore_n (lv' := [(3, .int v_near), (0, .ref a_o), (1, .int x1), (2, .int x2)]) hx hb dX10_ask_49 rfl hl (by decide) rfl (fun ls hl => ?_)
  refine lv_aload_n hx hb dX10_ask_50 rfl (lv_at hl 1 rfl) ?_
  refine lv_iload_n hx hb dX10_ask_51 rfl (lv_at hl 3 rfl) ?_
  refine pf S hE hP hD hS 0 (k := 4) rfl rfl inX10 tyX10_ok nmX10 (by decide) q1097 rfl rfl rfl (Nat.le_of_ble_eq_true rfl) dX10_ask_52 (fun H locs hP hD hS => ?_)
  have hP : va_P D vwCl (wX10_ask cI cJ cS a_o a_refused z_steps z_kind z_space z_other z_times z_speed z_base z_share z_notes z_pitch z_beats z_held z_sort z_size z_shown z_cells z_carried z_words z_tell z_was z_kept z_cutSpace z_cutTimes z_cutOff z_trace v_stretches v_cars v_tunes v_along x2 v_borne v_tempo v_seed v_fault v_from v_at v_end v_told v_wrongAt v_culprit v_ran v_isKept f_refused) H := hP
  have hD : va_D A (wX10_ask cI cJ cS a_o a_refused z_steps z_kind z_space z_other z_times z_speed z_base z_share z_notes z_pitch z_beats z_held z_sort z_size z_shown z_cells z_carried z_words z_tell z_was z_kept z_cutSpace z_cutTimes z_cutOff z_trace v_stretches v_cars v_tunes v_along x2 v_borne v_tempo v_seed v_fault v_from v_at v_end v_told v_wrongAt v_culprit v_ran v_isKept f_refused) := hD
  refine lv_goto (tgt := 125) hx hb dX10_ask_55 (by decide) ?_
  refine lv_iload_n hx hb dX10_ask_125 rfl (lv_at hl 0 rfl) ?_
  exact W.iret hx hb hr (fun t ht _ => ⟨⟨_, (v_along, x2, v_borne, v_tempo, f_refused), rfl, h, hPt hP ht⟩, hS.F ht⟩) hS.2.2 dX10_ask_126
set_option maxHeartbeats 4000000 in
set_option maxRecDepth 100000 in
theorem c_X10_ask {l : Launch} {D : va_G} {cI cJ cS : ClassId} {ad adK : Nat → Nat} {a_o a_refused : Nat} {z_steps z_kind z_space z_other z_times z_speed z_base z_share z_notes z_pitch z_beats z_held z_sort z_size z_shown z_cells z_carried z_words z_tell z_was z_kept z_cutSpace z_cutTimes z_cutOff z_trace : Value} {v_stretches : Int32} {v_cars : Int32} {v_tunes : Int32} {v_along : Int32} {v_near : Int32} {v_borne : Int32} {v_tempo : Int32} {v_seed : Int32} {v_fault : Int32} {v_from : Int32} {v_at : Int32} {v_end : Int32} {v_told : Int32} {v_wrongAt : Int32} {v_culprit : Int32} {v_ran : Int32} {v_isKept : Int32} {f_refused : Nat → Int32} {x1 : Int32} {x2 : Int32} {post : Int32 → Int32 → Int32 → Int32 → Int32 → (Nat → Int32) → Prop} (h : F_X10_ask v_along v_near v_borne v_tempo f_refused x1 x2 post) {sz : Nat} : Met l yX10_ask (Cond.code yX10_ask cX10_ask 4 (some (.int)) :: GW) (rmd 1 0 0) (PW D cI cJ cS ad adK [.ref a_o, .int x1, .int x2] (wX10_ask cI cJ cS a_o a_refused z_steps z_kind z_space z_other z_times z_speed z_base z_share z_notes z_pitch z_beats z_held z_sort z_size z_shown z_cells z_carried z_words z_tell z_was z_kept z_cutSpace z_cutTimes z_cutOff z_trace v_stretches v_cars v_tunes v_along v_near v_borne v_tempo v_seed v_fault v_from v_at v_end v_told v_wrongAt v_culprit v_ran v_isKept f_refused) sz) (va_Qi (fun r (u : Int32 × Int32 × Int32 × Int32 × (Nat → Int32)) => post r u.1 u.2.1 u.2.2.1 u.2.2.2.1 u.2.2.2.2) (fun u t => va_P D vwCl (wX10_ask cI cJ cS a_o a_refused z_steps z_kind z_space z_other z_times z_speed z_base z_share z_notes z_pitch z_beats z_held z_sort z_size z_shown z_cells z_carried z_words z_tell z_was z_kept z_cutSpace z_cutTimes z_cutOff z_trace v_stretches v_cars v_tunes u.1 u.2.1 u.2.2.1 u.2.2.2.1 v_seed v_fault v_from v_at v_end v_told v_wrongAt v_culprit v_ran v_isKept u.2.2.2.2) t.heap) (va_A (wX10_ask cI cJ cS a_o a_refused z_steps z_kind z_space z_other z_times z_speed z_base z_share z_notes z_pitch z_beats z_held z_sort z_size z_shown z_cells z_carried z_words z_tell z_was z_kept z_cutSpace z_cutTimes z_cutOff z_trace v_stretches v_cars v_tunes v_along v_near v_borne v_tempo v_seed v_fault v_from v_at v_end v_told v_wrongAt v_culprit v_ran v_isKept f_refused) sz)) 0 0 (va_A (wX10_ask cI cJ cS a_o a_refused z_steps z_kind z_space z_other z_times z_speed z_base z_share z_notes z_pitch z_beats z_held z_sort z_size z_shown z_cells z_carried z_words z_tell z_was z_kept z_cutSpace z_cutTimes z_cutOff z_trace v_stretches v_cars v_tunes v_along v_near v_borne v_tempo v_seed v_fault v_from v_at v_end v_told v_wrongAt v_culprit v_ran v_isKept f_refused) sz) := by
  refine Met.rw (Qc := fun A => (va_Qi (fun r (u : Int32 × Int32 × Int32 × Int32 × (Nat → Int32)) => post r u.1 u.2.1 u.2.2.1 u.2.2.2.1 u.2.2.2.2) (fun u t => va_P D vwCl (wX10_ask cI cJ cS a_o a_refused z_steps z_kind z_space z_other z_times z_speed z_base z_share z_notes z_pitch z_beats z_held z_sort z_size z_shown z_cells z_carried z_words z_tell z_was z_kept z_cutSpace z_cutTimes z_cutOff z_trace v_stretches v_cars v_tunes u.1 u.2.1 u.2.2.1 u.2.2.2.1 v_seed v_fault v_from v_at v_end v_told v_wrongAt v_culprit v_ran v_isKept u.2.2.2.2) t.heap) A)) (by decide) (Nat.le_of_ble_eq_true rfl) (fun p e s m args below meth c ls A (S : CallFix p m c cX10_ask 4 s args GW "RoadThatSingsModel") hE hT hP hD hA hS hr hlocks hname hl => ?_)
  have hS0 := hS
  have hx := S.1
  have hb := S.2.1
  have hl : lv_has ls 4 [(0, .ref a_o), (1, .int x1), (2, .int x2)] := hl
  unfold F_X10_ask at h
  refine lv_iload_n hx hb dX10_ask_0 rfl (lv_at hl 1 rfl) ?_
  refine lv_if_ne (tgt := 29) hx hb dX10_ask_1 (by decide) (fun hc => ?_) (fun hc => ?_)
  · have h := h.2 hc
    refine w_X10_ask_29 S hE hT hA hr hlocks _ _ _ h hP hD hS (lv_sub hl [0, 1, 2] rfl)
  have h := h.1 hc
  refine lv_iload_n hx hb dX10_ask_4 rfl (lv_at hl 2 rfl) ?_
  refine lv_iconst (v := 1) hx hb dX10_ask_5 (by decide) ?_
  refine lv_icmp_lt (tgt := 29) hx hb dX10_ask_6 (by decide) (fun hc => ?_) (fun hc => ?_)
  · have h := h.1 hc
    refine w_X10_ask_29 S hE hT hA hr hlocks _ _ _ h hP hD hS (lv_sub hl [0, 1, 2] rfl)
  have h := h.2 hc
  refine lv_iload_n hx hb dX10_ask_9 rfl (lv_at hl 2 rfl) ?_
  refine lv_sipush (v := 9999) hx hb dX10_ask_10 (by decide) ?_
  refine lv_icmp_gt (tgt := 29) hx hb dX10_ask_13 (by decide) (fun hc => ?_) (fun hc => ?_)
  · have h := h.1 hc
    refine w_X10_ask_29 S hE hT hA hr hlocks _ _ _ h hP hD hS (lv_sub hl [0, 1, 2] rfl)
  have h := h.2 hc
  refine lv_aload_n hx hb dX10_ask_16 rfl (lv_at hl 0 rfl) ?_
  refine gf S hE hP 0 rfl rfl inX10 (k := 3) (by decide) q1096 rfl dX10_ask_17 ?_
  refine lv_istore_n (lv' := [(3, .int v_along), (0, .ref a_o), (1, .int x1), (2, .int x2)]) hx hb dX10_ask_20 rfl hl (by decide) rfl (fun ls hl => ?_)
  refine lv_aload_n hx hb dX10_ask_21 rfl (lv_at hl 1 rfl) ?_
  refine lv_iload_n hx hb dX10_ask_22 rfl (lv_at hl 3 rfl) ?_
  refine pf S hE hP hD hS 0 (k := 3) rfl rfl inX10 tyX10_ok nmX10 (by decide) q1096 rfl rfl rfl (Nat.le_of_ble_eq_true rfl) dX10_ask_23 (fun H locs hP hD hS => ?_)
  have hP : va_P D vwCl (wX10_ask cI cJ cS a_o a_refused z_steps z_kind z_space z_other z_times z_speed z_base z_share z_notes z_pitch z_beats z_held z_sort z_size z_shown z_cells z_carried z_words z_tell z_was z_kept z_cutSpace z_cutTimes z_cutOff z_trace v_stretches v_cars v_tunes x2 v_near v_borne v_tempo v_seed v_fault v_from v_at v_end v_told v_wrongAt v_culprit v_ran v_isKept f_refused) H := hP
  have hD : va_D A (wX10_ask cI cJ cS a_o a_refused z_steps z_kind z_space z_other z_times z_speed z_base z_share z_notes z_pitch z_beats z_held z_sort z_size z_shown z_cells z_carried z_words z_tell z_was z_kept z_cutSpace z_cutTimes z_cutOff z_trace v_stretches v_cars v_tunes x2 v_near v_borne v_tempo v_seed v_fault v_from v_at v_end v_told v_wrongAt v_culprit v_ran v_isKept f_refused) := hD
  refine lv_goto (tgt := 125) hx hb dX10_ask_26 (by decide) ?_
  refine lv_iload_n hx hb dX10_ask_125 rfl (lv_at hl 0 rfl) ?_
  exact W.iret hx hb hr (fun t ht _ => ⟨⟨_, (x2, v_near, v_borne, v_tempo, f_refused), rfl, h, hPt hP ht⟩, hS.F ht⟩) hS.2.2 dX10_ask_126
/-! X10_wrong -/
abbrev wX10_wrong (cI cJ cS : ClassId) (a_o : Nat) (z_refused z_steps z_kind z_space z_other z_times z_speed z_base z_share z_notes z_pitch z_beats z_held z_sort z_size z_shown z_cells z_carried z_words z_tell z_was z_kept z_cutSpace z_cutTimes z_cutOff z_trace : Value) (v_stretches : Int32) (v_cars : Int32) (v_tunes : Int32) (v_along : Int32) (v_near : Int32) (v_borne : Int32) (v_tempo : Int32) (v_seed : Int32) (v_fault : Int32) (v_from : Int32) (v_at : Int32) (v_end : Int32) (v_told : Int32) (v_wrongAt : Int32) (v_culprit : Int32) (v_ran : Int32) (v_isKept : Int32) : va_W := [(a_o, .inr (9, [.int v_stretches, .int v_cars, .int v_tunes, .int v_along, .int v_near, .int v_borne, .int v_tempo, .int v_seed, .int v_fault, z_refused, z_steps, z_kind, z_space, z_other, z_times, z_speed, z_base, z_share, z_notes, z_pitch, z_beats, z_held, z_sort, z_size, z_shown, z_cells, z_carried, z_words, z_tell, .int v_from, .int v_at, .int v_end, .int v_told, .int v_wrongAt, z_was, z_kept, .int v_culprit, z_cutSpace, z_cutTimes, z_cutOff, z_trace, .int v_ran, .int v_isKept]))]
def F_X10_wrong (v_wrongAt : Int32) (x1 : Int32) (post : Int32 → Int32 → Prop) : Prop := post 0 x1
set_option maxHeartbeats 4000000 in
set_option maxRecDepth 100000 in
theorem c_X10_wrong {l : Launch} {D : va_G} {cI cJ cS : ClassId} {ad adK : Nat → Nat} {a_o : Nat} {z_refused z_steps z_kind z_space z_other z_times z_speed z_base z_share z_notes z_pitch z_beats z_held z_sort z_size z_shown z_cells z_carried z_words z_tell z_was z_kept z_cutSpace z_cutTimes z_cutOff z_trace : Value} {v_stretches : Int32} {v_cars : Int32} {v_tunes : Int32} {v_along : Int32} {v_near : Int32} {v_borne : Int32} {v_tempo : Int32} {v_seed : Int32} {v_fault : Int32} {v_from : Int32} {v_at : Int32} {v_end : Int32} {v_told : Int32} {v_wrongAt : Int32} {v_culprit : Int32} {v_ran : Int32} {v_isKept : Int32} {x1 : Int32} {post : Int32 → Int32 → Prop} (h : F_X10_wrong v_wrongAt x1 post) {sz : Nat} : Met l yX10_wrong (Cond.code yX10_wrong cX10_wrong 2 (some (.boolean)) :: GW) (rmd 0 0 0) (PW D cI cJ cS ad adK [.ref a_o, .int x1] (wX10_wrong cI cJ cS a_o z_refused z_steps z_kind z_space z_other z_times z_speed z_base z_share z_notes z_pitch z_beats z_held z_sort z_size z_shown z_cells z_carried z_words z_tell z_was z_kept z_cutSpace z_cutTimes z_cutOff z_trace v_stretches v_cars v_tunes v_along v_near v_borne v_tempo v_seed v_fault v_from v_at v_end v_told v_wrongAt v_culprit v_ran v_isKept) sz) (va_Qi (fun r (u : Int32) => post r u) (fun u t => va_P D vwCl (wX10_wrong cI cJ cS a_o z_refused z_steps z_kind z_space z_other z_times z_speed z_base z_share z_notes z_pitch z_beats z_held z_sort z_size z_shown z_cells z_carried z_words z_tell z_was z_kept z_cutSpace z_cutTimes z_cutOff z_trace v_stretches v_cars v_tunes v_along v_near v_borne v_tempo v_seed v_fault v_from v_at v_end v_told u v_culprit v_ran v_isKept) t.heap) (va_A (wX10_wrong cI cJ cS a_o z_refused z_steps z_kind z_space z_other z_times z_speed z_base z_share z_notes z_pitch z_beats z_held z_sort z_size z_shown z_cells z_carried z_words z_tell z_was z_kept z_cutSpace z_cutTimes z_cutOff z_trace v_stretches v_cars v_tunes v_along v_near v_borne v_tempo v_seed v_fault v_from v_at v_end v_told v_wrongAt v_culprit v_ran v_isKept) sz)) 0 0 (va_A (wX10_wrong cI cJ cS a_o z_refused z_steps z_kind z_space z_other z_times z_speed z_base z_share z_notes z_pitch z_beats z_held z_sort z_size z_shown z_cells z_carried z_words z_tell z_was z_kept z_cutSpace z_cutTimes z_cutOff z_trace v_stretches v_cars v_tunes v_along v_near v_borne v_tempo v_seed v_fault v_from v_at v_end v_told v_wrongAt v_culprit v_ran v_isKept) sz) := by
  refine Met.rw (Qc := fun A => (va_Qi (fun r (u : Int32) => post r u) (fun u t => va_P D vwCl (wX10_wrong cI cJ cS a_o z_refused z_steps z_kind z_space z_other z_times z_speed z_base z_share z_notes z_pitch z_beats z_held z_sort z_size z_shown z_cells z_carried z_words z_tell z_was z_kept z_cutSpace z_cutTimes z_cutOff z_trace v_stretches v_cars v_tunes v_along v_near v_borne v_tempo v_seed v_fault v_from v_at v_end v_told u v_culprit v_ran v_isKept) t.heap) A)) (by decide) (Nat.le_of_ble_eq_true rfl) (fun p e s m args below meth c ls A (S : CallFix p m c cX10_wrong 2 s args GW "RoadThatSingsModel") hE hT hP hD hA hS hr hlocks hname hl => ?_)
  have hS0 := hS
  have hx := S.1
  have hb := S.2.1
  have hl : lv_has ls 2 [(0, .ref a_o), (1, .int x1)] := hl
  unfold F_X10_wrong at h
  refine lv_aload_n hx hb dX10_wrong_0 rfl (lv_at hl 0 rfl) ?_
  refine lv_iload_n hx hb dX10_wrong_1 rfl (lv_at hl 1 rfl) ?_
  refine pf S hE hP hD hS 0 (k := 33) rfl rfl inX10 tyX10_ok nmX10 (by decide) q1126 rfl rfl rfl (Nat.le_of_ble_eq_true rfl) dX10_wrong_2 (fun H locs hP hD hS => ?_)
  have hP : va_P D vwCl (wX10_wrong cI cJ cS a_o z_refused z_steps z_kind z_space z_other z_times z_speed z_base z_share z_notes z_pitch z_beats z_held z_sort z_size z_shown z_cells z_carried z_words z_tell z_was z_kept z_cutSpace z_cutTimes z_cutOff z_trace v_stretches v_cars v_tunes v_along v_near v_borne v_tempo v_seed v_fault v_from v_at v_end v_told x1 v_culprit v_ran v_isKept) H := hP
  have hD : va_D A (wX10_wrong cI cJ cS a_o z_refused z_steps z_kind z_space z_other z_times z_speed z_base z_share z_notes z_pitch z_beats z_held z_sort z_size z_shown z_cells z_carried z_words z_tell z_was z_kept z_cutSpace z_cutTimes z_cutOff z_trace v_stretches v_cars v_tunes v_along v_near v_borne v_tempo v_seed v_fault v_from v_at v_end v_told x1 v_culprit v_ran v_isKept) := hD
  refine lv_iconst (v := 0) hx hb dX10_wrong_5 (by decide) ?_
  exact W.zret hx hb hr rfl (fun t ht _ => ⟨⟨_, x1, rfl, h, hPt hP ht⟩, hS.F ht⟩) hS.2.2 dX10_wrong_6
/-! X10_word -/
abbrev wX10_word (cI cJ cS : ClassId) (a_o a_cells a_words : Nat) (z_refused z_steps z_kind z_space z_other z_times z_speed z_base z_share z_notes z_pitch z_beats z_held z_sort z_size z_shown z_carried z_tell z_was z_kept z_cutSpace z_cutTimes z_cutOff z_trace : Value) (v_stretches : Int32) (v_cars : Int32) (v_tunes : Int32) (v_along : Int32) (v_near : Int32) (v_borne : Int32) (v_tempo : Int32) (v_seed : Int32) (v_fault : Int32) (v_from : Int32) (v_at : Int32) (v_end : Int32) (v_told : Int32) (v_wrongAt : Int32) (v_culprit : Int32) (v_ran : Int32) (v_isKept : Int32) (g_cells : Nat → Int64) (f_words : Nat → Int32) : va_W := [(a_o, .inr (9, [.int v_stretches, .int v_cars, .int v_tunes, .int v_along, .int v_near, .int v_borne, .int v_tempo, .int v_seed, .int v_fault, z_refused, z_steps, z_kind, z_space, z_other, z_times, z_speed, z_base, z_share, z_notes, z_pitch, z_beats, z_held, z_sort, z_size, z_shown, .ref a_cells, z_carried, .ref a_words, z_tell, .int v_from, .int v_at, .int v_end, .int v_told, .int v_wrongAt, z_was, z_kept, .int v_culprit, z_cutSpace, z_cutTimes, z_cutOff, z_trace, .int v_ran, .int v_isKept])), (a_cells, .inl (cJ, 1280, .inr (.inl g_cells))), (a_words, .inl (cI, 79, .inl f_words))]
def L_X10_word_24 (v_from : Int32) (v_end : Int32) (g_cells : Nat → Int64) (f_words : Nat → Int32) (k75 : Int32 → Int32 → Prop) : Nat → Int32 → Int32 → Prop
  | 0, _, _ => False
  | n24 + 1, x4, x5 => (vp_in x5 79 ∧ (((f_words x5.toNatClampNeg) = 0 → k75 x4 x5) ∧ (¬ (f_words x5.toNatClampNeg) = 0 → ((v_end ≤ x4 → k75 x4 x5) ∧ (¬ v_end ≤ x4 → (vp_in (v_from + x4) 1280 ∧ (vp_in x5 79 ∧ ((((g_cells (v_from + x4).toNatClampNeg).toInt32) = (f_words x5.toNatClampNeg) → (∀ x4_66 : Int32, x4_66 = x4 + 1 → (∀ x5_69 : Int32, x5_69 = x5 + 1 → L_X10_word_24 v_from v_end g_cells f_words k75 n24 x4_66 x5_69))) ∧ (¬ ((g_cells (v_from + x4).toNatClampNeg).toInt32) = (f_words x5.toNatClampNeg) → k75 x4 x5)))))))))
def L_X10_word_106 (f_words : Nat → Int32) (x2 : Int32) (x3 : Int32) (v_at : Int32) (v_wrongAt : Int32) (k9 : Int32 → Int32 → Int32 → Int32 → Int32 → Prop) : Nat → Int32 → Prop
  | 0, _ => False
  | n106 + 1, x1 => (vp_in x1 79 ∧ (((f_words x1.toNatClampNeg) = 0 → (∀ x1_121 : Int32, x1_121 = x1 + 1 → (∀ x3_124 : Int32, x3_124 = x3 + 1 → k9 x1_121 x2 x3_124 v_at v_wrongAt))) ∧ (¬ (f_words x1.toNatClampNeg) = 0 → (∀ x1_115 : Int32, x1_115 = x1 + 1 → L_X10_word_106 f_words x2 x3 v_at v_wrongAt k9 n106 x1_115))))
def F_X10_word_105 (f_words : Nat → Int32) (k9 : Int32 → Int32 → Int32 → Int32 → Int32 → Prop) (x1 : Int32) (x3 : Int32) (v_at : Int32) (v_wrongAt : Int32) (s0 : Int32) : Prop := (∃ n106 : Nat, L_X10_word_106 f_words s0 x3 v_at v_wrongAt k9 n106 x1)
def F_X10_word_75 (f_words : Nat → Int32) (post : Int32 → Int32 → Int32 → Prop) (k9 : Int32 → Int32 → Int32 → Int32 → Int32 → Prop) (x1 : Int32) (x2 : Int32) (x3 : Int32) (x4 : Int32) (x5 : Int32) (v_at : Int32) (v_wrongAt : Int32) : Prop := (vp_in x5 79 ∧ (((f_words x5.toNatClampNeg) = 0 → post x3 x4 v_wrongAt) ∧ (¬ (f_words x5.toNatClampNeg) = 0 → ((x4 ≤ x2 → F_X10_word_105 f_words k9 x1 x3 v_at v_wrongAt x2) ∧ (¬ x4 ≤ x2 → F_X10_word_105 f_words k9 x1 x3 v_at v_wrongAt x4)))))
def L_X10_word_9 (v_from : Int32) (v_end : Int32) (g_cells : Nat → Int64) (f_words : Nat → Int32) (post : Int32 → Int32 → Int32 → Prop) : Nat → Int32 → Int32 → Int32 → Int32 → Int32 → Prop
  | 0, _, _, _, _, _ => False
  | n9 + 1, x1, x2, x3, v_at, v_wrongAt => ((13 ≤ x3 → post (-1) v_at x2) ∧ (¬ 13 ≤ x3 → (∃ n24 : Nat, L_X10_word_24 v_from v_end g_cells f_words (fun x4_1 x5_2 => F_X10_word_75 f_words post (fun x1 x2 x3 v_at v_wrongAt => L_X10_word_9 v_from v_end g_cells f_words post n9 x1 x2 x3 v_at v_wrongAt) x1 x2 x3 x4_1 x5_2 v_at v_wrongAt) n24 v_at x1)))
def F_X10_word (v_from : Int32) (v_at : Int32) (v_end : Int32) (v_wrongAt : Int32) (g_cells : Nat → Int64) (f_words : Nat → Int32) (post : Int32 → Int32 → Int32 → Prop) : Prop := (∃ n9 : Nat, L_X10_word_9 v_from v_end g_cells f_words post n9 0 v_at 0 v_at v_wrongAt)
set_option maxHeartbeats 4000000 in
set_option maxRecDepth 100000 in
theorem w_X10_word_24 {l : Launch} {D : va_G} {cI cJ cS : ClassId} {ad adK : Nat → Nat} {a_o a_cells a_words : Nat} {z_refused z_steps z_kind z_space z_other z_times z_speed z_base z_share z_notes z_pitch z_beats z_held z_sort z_size z_shown z_carried z_tell z_was z_kept z_cutSpace z_cutTimes z_cutOff z_trace : Value} {v_stretches : Int32} {v_cars : Int32} {v_tunes : Int32} {v_along : Int32} {v_near : Int32} {v_borne : Int32} {v_tempo : Int32} {v_seed : Int32} {v_fault : Int32} {v_from : Int32} {v_at : Int32} {v_end : Int32} {v_told : Int32} {v_wrongAt : Int32} {v_culprit : Int32} {v_ran : Int32} {v_isKept : Int32} {g_cells : Nat → Int64} {f_words : Nat → Int32} {x1 : Int32} {x2 : Int32} {x3 : Int32} {post : Int32 → Int32 → Int32 → Prop} {k75 : Int32 → Int32 → Prop} {p : Program} {e : Env} {s : State} {m : MethodId} {args : Array Value} {below : List Frame} {meth : Method} {c : Code} {A : Nat → Prop} (S : CallFix p m c cX10_word 6 s args GW "RoadThatSingsModel") (hE : EN D cI cJ cS s) (hT : ST ad adK A s s.heap) (hA : ∀ q : Nat, s.heap.size ≤ q → A q) (hr : meth.sig.returnType = (some (.int))) (hlocks : meth.locks = false) (hk75 : ∀ (x4 : Int32) (x5 : Int32) (H : Heap) (locs : List Loc) (ls : Array Slot), k75 x4 x5 → va_P D vwCl (wX10_word cI cJ cS a_o a_cells a_words z_refused z_steps z_kind z_space z_other z_times z_speed z_base z_share z_notes z_pitch z_beats z_held z_sort z_size z_shown z_carried z_tell z_was z_kept z_cutSpace z_cutTimes z_cutOff z_trace v_stretches v_cars v_tunes v_along v_near v_borne v_tempo v_seed v_fault v_from v_at v_end v_told v_wrongAt v_culprit v_ran v_isKept g_cells f_words) H → va_D A (wX10_word cI cJ cS a_o a_cells a_words z_refused z_steps z_kind z_space z_other z_times z_speed z_base z_share z_notes z_pitch z_beats z_held z_sort z_size z_shown z_carried z_tell z_was z_kept z_cutSpace z_cutTimes z_cutOff z_trace v_stretches v_cars v_tunes v_along v_near v_borne v_tempo v_seed v_fault v_from v_at v_end v_told v_wrongAt v_culprit v_ran v_isKept g_cells f_words) → va_S A s.heap H locs → lv_has ls 6 [(0, .ref a_o), (1, .int x1), (2, .int x2), (3, .int x3), (4, .int x4), (5, .int x5)] → W p l e (rmd 0 0 0) s m args below meth c H locs 0 0 (MQ below (va_Qi (fun r (u : Int32 × Int32) => post r u.1 u.2) (fun u t => va_P D vwCl (wX10_word cI cJ cS a_o a_cells a_words z_refused z_steps z_kind z_space z_other z_times z_speed z_base z_share z_notes z_pitch z_beats z_held z_sort z_size z_shown z_carried z_tell z_was z_kept z_cutSpace z_cutTimes z_cutOff z_trace v_stretches v_cars v_tunes v_along v_near v_borne v_tempo v_seed v_fault v_from u.1 v_end v_told u.2 v_culprit v_ran v_isKept g_cells f_words) t.heap) A) args s 0 0 A) (F0 m 75 ls [])) : ∀ n : Nat, ∀ (x4 : Int32) (x5 : Int32) (H : Heap) (locs : List Loc) (ls : Array Slot), L_X10_word_24 v_from v_end g_cells f_words k75 n x4 x5 → va_P D vwCl (wX10_word cI cJ cS a_o a_cells a_words z_refused z_steps z_kind z_space z_other z_times z_speed z_base z_share z_notes z_pitch z_beats z_held z_sort z_size z_shown z_carried z_tell z_was z_kept z_cutSpace z_cutTimes z_cutOff z_trace v_stretches v_cars v_tunes v_along v_near v_borne v_tempo v_seed v_fault v_from v_at v_end v_told v_wrongAt v_culprit v_ran v_isKept g_cells f_words) H → va_D A (wX10_word cI cJ cS a_o a_cells a_words z_refused z_steps z_kind z_space z_other z_times z_speed z_base z_share z_notes z_pitch z_beats z_held z_sort z_size z_shown z_carried z_tell z_was z_kept z_cutSpace z_cutTimes z_cutOff z_trace v_stretches v_cars v_tunes v_along v_near v_borne v_tempo v_seed v_fault v_from v_at v_end v_told v_wrongAt v_culprit v_ran v_isKept g_cells f_words) → va_S A s.heap H locs → lv_has ls 6 [(0, .ref a_o), (1, .int x1), (2, .int x2), (3, .int x3), (4, .int x4), (5, .int x5)] → W p l e (rmd 0 0 0) s m args below meth c H locs 0 0 (MQ below (va_Qi (fun r (u : Int32 × Int32) => post r u.1 u.2) (fun u t => va_P D vwCl (wX10_word cI cJ cS a_o a_cells a_words z_refused z_steps z_kind z_space z_other z_times z_speed z_base z_share z_notes z_pitch z_beats z_held z_sort z_size z_shown z_carried z_tell z_was z_kept z_cutSpace z_cutTimes z_cutOff z_trace v_stretches v_cars v_tunes v_along v_near v_borne v_tempo v_seed v_fault v_from u.1 v_end v_told u.2 v_culprit v_ran v_isKept g_cells f_words) t.heap) A) args s 0 0 A) (F0 m 24 ls []) := by
  intro n
  induction n with
  | zero =>
    intro x4 x5 H locs ls h hP hD hS hl
    exact h.elim
  | succ n ih =>
    intro x4 x5 H locs ls h hP hD hS hl
    rw [L_X10_word_24] at h
    have hx := S.1
    have hb := S.2.1
    refine lv_aload_n hx hb dX10_word_24 rfl (lv_at hl 0 rfl) ?_
    refine gf S hE hP 0 rfl rfl inX10 (k := 27) (by decide) q1120 rfl dX10_word_25 ?_
    refine lv_iload hx hb dX10_word_28 (lv_at hl 5 rfl) ?_
    obtain ⟨hi, h⟩ := h
    refine ial S hE hP 2 rfl hi dX10_word_30 ?_
    refine lv_if_eq (tgt := 75) hx hb dX10_word_31 (by decide) (fun hc => ?_) (fun hc => ?_)
    · have h := h.1 hc
      exact hk75 _ _ _ _ _ h hP hD hS (lv_sub hl [0, 1, 2, 3, 4, 5] rfl)
    have h := h.2 hc
    refine lv_iload hx hb dX10_word_34 (lv_at hl 4 rfl) ?_
    refine lv_aload_n hx hb dX10_word_36 rfl (lv_at hl 0 rfl) ?_
    refine gf S hE hP 0 rfl rfl inX10 (k := 31) (by decide) q1124 rfl dX10_word_37 ?_
    refine lv_icmp_ge (tgt := 75) hx hb dX10_word_40 (by decide) (fun hc => ?_) (fun hc => ?_)
    · have h := h.1 hc
      exact hk75 _ _ _ _ _ h hP hD hS (lv_sub hl [0, 1, 2, 3, 4, 5] rfl)
    have h := h.2 hc
    refine lv_aload_n hx hb dX10_word_43 rfl (lv_at hl 0 rfl) ?_
    refine gf S hE hP 0 rfl rfl inX10 (k := 25) (by decide) q1118 rfl dX10_word_44 ?_
    refine lv_aload_n hx hb dX10_word_47 rfl (lv_at hl 0 rfl) ?_
    refine gf S hE hP 0 rfl rfl inX10 (k := 29) (by decide) q1122 rfl dX10_word_48 ?_
    refine lv_iload hx hb dX10_word_51 (lv_at hl 4 rfl) ?_
    refine lv_iadd hx hb dX10_word_53 ?_
    obtain ⟨hi, h⟩ := h
    refine lal S hE hP 1 rfl hi dX10_word_54 ?_
    refine lv_l2i hx hb dX10_word_55 rfl ?_
    refine lv_aload_n hx hb dX10_word_56 rfl (lv_at hl 0 rfl) ?_
    refine gf S hE hP 0 rfl rfl inX10 (k := 27) (by decide) q1120 rfl dX10_word_57 ?_
    refine lv_iload hx hb dX10_word_60 (lv_at hl 5 rfl) ?_
    obtain ⟨hi, h⟩ := h
    refine ial S hE hP 2 rfl hi dX10_word_62 ?_
    refine lv_icmp_ne (tgt := 75) hx hb dX10_word_63 (by decide) (fun hc => ?_) (fun hc => ?_)
    · have h := h.2 hc
      exact hk75 _ _ _ _ _ h hP hD hS (lv_sub hl [0, 1, 2, 3, 4, 5] rfl)
    have h := h.1 hc
    obtain ⟨x4_66, ex4_66⟩ : ∃ z : Int32, z = x4 + 1 := ⟨_, rfl⟩
    have h := h _ ex4_66
    refine lv_iinc (v := x4_66) (lv' := [(4, .int x4_66), (0, .ref a_o), (1, .int x1), (2, .int x2), (3, .int x3), (5, .int x5)]) hx hb dX10_word_66 hl (k := 4) rfl (by rw [ex4_66]; rfl) (by decide) rfl (fun ls hl => ?_)
    obtain ⟨x5_69, ex5_69⟩ : ∃ z : Int32, z = x5 + 1 := ⟨_, rfl⟩
    have h := h _ ex5_69
    refine lv_iinc (v := x5_69) (lv' := [(5, .int x5_69), (4, .int x4_66), (0, .ref a_o), (1, .int x1), (2, .int x2), (3, .int x3)]) hx hb dX10_word_69 hl (k := 5) rfl (by rw [ex5_69]; rfl) (by decide) rfl (fun ls hl => ?_)
    refine lv_goto (tgt := 24) hx hb dX10_word_72 (by decide) ?_
    exact ih _ _ _ _ _ h hP hD hS (lv_sub hl [2, 3, 4, 5, 1, 0] rfl)
set_option maxHeartbeats 4000000 in
set_option maxRecDepth 100000 in
theorem w_X10_word_106 {l : Launch} {D : va_G} {cI cJ cS : ClassId} {ad adK : Nat → Nat} {a_o a_cells a_words : Nat} {z_refused z_steps z_kind z_space z_other z_times z_speed z_base z_share z_notes z_pitch z_beats z_held z_sort z_size z_shown z_carried z_tell z_was z_kept z_cutSpace z_cutTimes z_cutOff z_trace : Value} {v_stretches : Int32} {v_cars : Int32} {v_tunes : Int32} {v_along : Int32} {v_near : Int32} {v_borne : Int32} {v_tempo : Int32} {v_seed : Int32} {v_fault : Int32} {v_from : Int32} {v_at : Int32} {v_end : Int32} {v_told : Int32} {v_wrongAt : Int32} {v_culprit : Int32} {v_ran : Int32} {v_isKept : Int32} {g_cells : Nat → Int64} {f_words : Nat → Int32} {x2 : Int32} {x3 : Int32} {post : Int32 → Int32 → Int32 → Prop} {k9 : Int32 → Int32 → Int32 → Int32 → Int32 → Prop} {p : Program} {e : Env} {s : State} {m : MethodId} {args : Array Value} {below : List Frame} {meth : Method} {c : Code} {A : Nat → Prop} (S : CallFix p m c cX10_word 6 s args GW "RoadThatSingsModel") (hE : EN D cI cJ cS s) (hT : ST ad adK A s s.heap) (hA : ∀ q : Nat, s.heap.size ≤ q → A q) (hr : meth.sig.returnType = (some (.int))) (hlocks : meth.locks = false) (hk9 : ∀ (x1 : Int32) (x2 : Int32) (x3 : Int32) (v_at : Int32) (v_wrongAt : Int32) (H : Heap) (locs : List Loc) (ls : Array Slot), k9 x1 x2 x3 v_at v_wrongAt → va_P D vwCl (wX10_word cI cJ cS a_o a_cells a_words z_refused z_steps z_kind z_space z_other z_times z_speed z_base z_share z_notes z_pitch z_beats z_held z_sort z_size z_shown z_carried z_tell z_was z_kept z_cutSpace z_cutTimes z_cutOff z_trace v_stretches v_cars v_tunes v_along v_near v_borne v_tempo v_seed v_fault v_from v_at v_end v_told v_wrongAt v_culprit v_ran v_isKept g_cells f_words) H → va_D A (wX10_word cI cJ cS a_o a_cells a_words z_refused z_steps z_kind z_space z_other z_times z_speed z_base z_share z_notes z_pitch z_beats z_held z_sort z_size z_shown z_carried z_tell z_was z_kept z_cutSpace z_cutTimes z_cutOff z_trace v_stretches v_cars v_tunes v_along v_near v_borne v_tempo v_seed v_fault v_from v_at v_end v_told v_wrongAt v_culprit v_ran v_isKept g_cells f_words) → va_S A s.heap H locs → lv_has ls 6 [(0, .ref a_o), (1, .int x1), (2, .int x2), (3, .int x3)] → W p l e (rmd 0 0 0) s m args below meth c H locs 0 0 (MQ below (va_Qi (fun r (u : Int32 × Int32) => post r u.1 u.2) (fun u t => va_P D vwCl (wX10_word cI cJ cS a_o a_cells a_words z_refused z_steps z_kind z_space z_other z_times z_speed z_base z_share z_notes z_pitch z_beats z_held z_sort z_size z_shown z_carried z_tell z_was z_kept z_cutSpace z_cutTimes z_cutOff z_trace v_stretches v_cars v_tunes v_along v_near v_borne v_tempo v_seed v_fault v_from u.1 v_end v_told u.2 v_culprit v_ran v_isKept g_cells f_words) t.heap) A) args s 0 0 A) (F0 m 9 ls [])) : ∀ n : Nat, ∀ (x1 : Int32) (H : Heap) (locs : List Loc) (ls : Array Slot), L_X10_word_106 f_words x2 x3 v_at v_wrongAt k9 n x1 → va_P D vwCl (wX10_word cI cJ cS a_o a_cells a_words z_refused z_steps z_kind z_space z_other z_times z_speed z_base z_share z_notes z_pitch z_beats z_held z_sort z_size z_shown z_carried z_tell z_was z_kept z_cutSpace z_cutTimes z_cutOff z_trace v_stretches v_cars v_tunes v_along v_near v_borne v_tempo v_seed v_fault v_from v_at v_end v_told v_wrongAt v_culprit v_ran v_isKept g_cells f_words) H → va_D A (wX10_word cI cJ cS a_o a_cells a_words z_refused z_steps z_kind z_space z_other z_times z_speed z_base z_share z_notes z_pitch z_beats z_held z_sort z_size z_shown z_carried z_tell z_was z_kept z_cutSpace z_cutTimes z_cutOff z_trace v_stretches v_cars v_tunes v_along v_near v_borne v_tempo v_seed v_fault v_from v_at v_end v_told v_wrongAt v_culprit v_ran v_isKept g_cells f_words) → va_S A s.heap H locs → lv_has ls 6 [(0, .ref a_o), (1, .int x1), (2, .int x2), (3, .int x3)] → W p l e (rmd 0 0 0) s m args below meth c H locs 0 0 (MQ below (va_Qi (fun r (u : Int32 × Int32) => post r u.1 u.2) (fun u t => va_P D vwCl (wX10_word cI cJ cS a_o a_cells a_words z_refused z_steps z_kind z_space z_other z_times z_speed z_base z_share z_notes z_pitch z_beats z_held z_sort z_size z_shown z_carried z_tell z_was z_kept z_cutSpace z_cutTimes z_cutOff z_trace v_stretches v_cars v_tunes v_along v_near v_borne v_tempo v_seed v_fault v_from u.1 v_end v_told u.2 v_culprit v_ran v_isKept g_cells f_words) t.heap) A) args s 0 0 A) (F0 m 106 ls []) := by
  intro n
  induction n with
  | zero =>
    intro x1 H locs ls h hP hD hS hl
    exact h.elim
  | succ n ih =>
    intro x1 H locs ls h hP hD hS hl
    rw [L_X10_word_106] at h
    have hx := S.1
    have hb := S.2.1
    refine lv_aload_n hx hb dX10_word_106 rfl (lv_at hl 0 rfl) ?_
    refine gf S hE hP 0 rfl rfl inX10 (k := 27) (by decide) q1120 rfl dX10_word_107 ?_
    refine lv_iload_n hx hb dX10_word_110 rfl (lv_at hl 1 rfl) ?_
    obtain ⟨hi, h⟩ := h
    refine ial S hE hP 2 rfl hi dX10_word_111 ?_
    refine lv_if_eq (tgt := 121) hx hb dX10_word_112 (by decide) (fun hc => ?_) (fun hc => ?_)
    · have h := h.1 hc
      obtain ⟨x1_121, ex1_121⟩ : ∃ z : Int32, z = x1 + 1 := ⟨_, rfl⟩
      have h := h _ ex1_121
      refine lv_iinc (v := x1_121) (lv' := [(1, .int x1_121), (0, .ref a_o), (2, .int x2), (3, .int x3)]) hx hb dX10_word_121 hl (k := 1) rfl (by rw [ex1_121]; rfl) (by decide) rfl (fun ls hl => ?_)
      obtain ⟨x3_124, ex3_124⟩ : ∃ z : Int32, z = x3 + 1 := ⟨_, rfl⟩
      have h := h _ ex3_124
      refine lv_iinc (v := x3_124) (lv' := [(3, .int x3_124), (1, .int x1_121), (0, .ref a_o), (2, .int x2)]) hx hb dX10_word_124 hl (k := 3) rfl (by rw [ex3_124]; rfl) (by decide) rfl (fun ls hl => ?_)
      refine lv_goto (tgt := 9) hx hb dX10_word_127 (by decide) ?_
      exact hk9 _ _ _ _ _ _ _ _ h hP hD hS (lv_sub hl [2, 1, 3, 0] rfl)
    have h := h.2 hc
    obtain ⟨x1_115, ex1_115⟩ : ∃ z : Int32, z = x1 + 1 := ⟨_, rfl⟩
    have h := h _ ex1_115
    refine lv_iinc (v := x1_115) (lv' := [(1, .int x1_115), (0, .ref a_o), (2, .int x2), (3, .int x3)]) hx hb dX10_word_115 hl (k := 1) rfl (by rw [ex1_115]; rfl) (by decide) rfl (fun ls hl => ?_)
    refine lv_goto (tgt := 106) hx hb dX10_word_118 (by decide) ?_
    exact ih _ _ _ _ h hP hD hS (lv_sub hl [1, 0, 2, 3] rfl)
set_option maxHeartbeats 4000000 in
set_option maxRecDepth 100000 in
theorem w_X10_word_105 {l : Launch} {D : va_G} {cI cJ cS : ClassId} {ad adK : Nat → Nat} {a_o a_cells a_words : Nat} {z_refused z_steps z_kind z_space z_other z_times z_speed z_base z_share z_notes z_pitch z_beats z_held z_sort z_size z_shown z_carried z_tell z_was z_kept z_cutSpace z_cutTimes z_cutOff z_trace : Value} {v_stretches : Int32} {v_cars : Int32} {v_tunes : Int32} {v_along : Int32} {v_near : Int32} {v_borne : Int32} {v_tempo : Int32} {v_seed : Int32} {v_fault : Int32} {v_from : Int32} {v_at : Int32} {v_end : Int32} {v_told : Int32} {v_wrongAt : Int32} {v_culprit : Int32} {v_ran : Int32} {v_isKept : Int32} {g_cells : Nat → Int64} {f_words : Nat → Int32} {x1 : Int32} {x3 : Int32} {s0 : Int32} {post : Int32 → Int32 → Int32 → Prop} {k9 : Int32 → Int32 → Int32 → Int32 → Int32 → Prop} {p : Program} {e : Env} {s : State} {m : MethodId} {args : Array Value} {below : List Frame} {meth : Method} {c : Code} {A : Nat → Prop} (S : CallFix p m c cX10_word 6 s args GW "RoadThatSingsModel") (hE : EN D cI cJ cS s) (hT : ST ad adK A s s.heap) (hA : ∀ q : Nat, s.heap.size ≤ q → A q) (hr : meth.sig.returnType = (some (.int))) (hlocks : meth.locks = false) (hk9 : ∀ (x1 : Int32) (x2 : Int32) (x3 : Int32) (v_at : Int32) (v_wrongAt : Int32) (H : Heap) (locs : List Loc) (ls : Array Slot), k9 x1 x2 x3 v_at v_wrongAt → va_P D vwCl (wX10_word cI cJ cS a_o a_cells a_words z_refused z_steps z_kind z_space z_other z_times z_speed z_base z_share z_notes z_pitch z_beats z_held z_sort z_size z_shown z_carried z_tell z_was z_kept z_cutSpace z_cutTimes z_cutOff z_trace v_stretches v_cars v_tunes v_along v_near v_borne v_tempo v_seed v_fault v_from v_at v_end v_told v_wrongAt v_culprit v_ran v_isKept g_cells f_words) H → va_D A (wX10_word cI cJ cS a_o a_cells a_words z_refused z_steps z_kind z_space z_other z_times z_speed z_base z_share z_notes z_pitch z_beats z_held z_sort z_size z_shown z_carried z_tell z_was z_kept z_cutSpace z_cutTimes z_cutOff z_trace v_stretches v_cars v_tunes v_along v_near v_borne v_tempo v_seed v_fault v_from v_at v_end v_told v_wrongAt v_culprit v_ran v_isKept g_cells f_words) → va_S A s.heap H locs → lv_has ls 6 [(0, .ref a_o), (1, .int x1), (2, .int x2), (3, .int x3)] → W p l e (rmd 0 0 0) s m args below meth c H locs 0 0 (MQ below (va_Qi (fun r (u : Int32 × Int32) => post r u.1 u.2) (fun u t => va_P D vwCl (wX10_word cI cJ cS a_o a_cells a_words z_refused z_steps z_kind z_space z_other z_times z_speed z_base z_share z_notes z_pitch z_beats z_held z_sort z_size z_shown z_carried z_tell z_was z_kept z_cutSpace z_cutTimes z_cutOff z_trace v_stretches v_cars v_tunes v_along v_near v_borne v_tempo v_seed v_fault v_from u.1 v_end v_told u.2 v_culprit v_ran v_isKept g_cells f_words) t.heap) A) args s 0 0 A) (F0 m 9 ls [])) : ∀ (H : Heap) (locs : List Loc) (ls : Array Slot), F_X10_word_105 f_words k9 x1 x3 v_at v_wrongAt s0 → va_P D vwCl (wX10_word cI cJ cS a_o a_cells a_words z_refused z_steps z_kind z_space z_other z_times z_speed z_base z_share z_notes z_pitch z_beats z_held z_sort z_size z_shown z_carried z_tell z_was z_kept z_cutSpace z_cutTimes z_cutOff z_trace v_stretches v_cars v_tunes v_along v_near v_borne v_tempo v_seed v_fault v_from v_at v_end v_told v_wrongAt v_culprit v_ran v_isKept g_cells f_words) H → va_D A (wX10_word cI cJ cS a_o a_cells a_words z_refused z_steps z_kind z_space z_other z_times z_speed z_base z_share z_notes z_pitch z_beats z_held z_sort z_size z_shown z_carried z_tell z_was z_kept z_cutSpace z_cutTimes z_cutOff z_trace v_stretches v_cars v_tunes v_along v_near v_borne v_tempo v_seed v_fault v_from v_at v_end v_told v_wrongAt v_culprit v_ran v_isKept g_cells f_words) → va_S A s.heap H locs → lv_has ls 6 [(0, .ref a_o), (1, .int x1), (3, .int x3)] → W p l e (rmd 0 0 0) s m args below meth c H locs 0 0 (MQ below (va_Qi (fun r (u : Int32 × Int32) => post r u.1 u.2) (fun u t => va_P D vwCl (wX10_word cI cJ cS a_o a_cells a_words z_refused z_steps z_kind z_space z_other z_times z_speed z_base z_share z_notes z_pitch z_beats z_held z_sort z_size z_shown z_carried z_tell z_was z_kept z_cutSpace z_cutTimes z_cutOff z_trace v_stretches v_cars v_tunes v_along v_near v_borne v_tempo v_seed v_fault v_from u.1 v_end v_told u.2 v_culprit v_ran v_isKept g_cells f_words) t.heap) A) args s 0 0 A) (F0 m 105 ls [.int s0]) := by
  intro  H locs ls h hP hD hS hl
  unfold F_X10_word_105 at h
  have hx := S.1
  have hb := S.2.1
  refine lv_istore_n (lv' := [(2, .int s0), (0, .ref a_o), (1, .int x1), (3, .int x3)]) hx hb dX10_word_105 rfl hl (by decide) rfl (fun ls hl => ?_)
  obtain ⟨n, h⟩ := h
  refine w_X10_word_106 S hE hT hA hr hlocks hk9 n _ _ _ _ h hP hD hS (lv_sub hl [1, 2, 0, 3] rfl)
set_option maxHeartbeats 4000000 in
set_option maxRecDepth 100000 in
theorem w_X10_word_75 {l : Launch} {D : va_G} {cI cJ cS : ClassId} {ad adK : Nat → Nat} {a_o a_cells a_words : Nat} {z_refused z_steps z_kind z_space z_other z_times z_speed z_base z_share z_notes z_pitch z_beats z_held z_sort z_size z_shown z_carried z_tell z_was z_kept z_cutSpace z_cutTimes z_cutOff z_trace : Value} {v_stretches : Int32} {v_cars : Int32} {v_tunes : Int32} {v_along : Int32} {v_near : Int32} {v_borne : Int32} {v_tempo : Int32} {v_seed : Int32} {v_fault : Int32} {v_from : Int32} {v_at : Int32} {v_end : Int32} {v_told : Int32} {v_wrongAt : Int32} {v_culprit : Int32} {v_ran : Int32} {v_isKept : Int32} {g_cells : Nat → Int64} {f_words : Nat → Int32} {x1 : Int32} {x2 : Int32} {x3 : Int32} {x4 : Int32} {x5 : Int32} {post : Int32 → Int32 → Int32 → Prop} {k9 : Int32 → Int32 → Int32 → Int32 → Int32 → Prop} {p : Program} {e : Env} {s : State} {m : MethodId} {args : Array Value} {below : List Frame} {meth : Method} {c : Code} {A : Nat → Prop} (S : CallFix p m c cX10_word 6 s args GW "RoadThatSingsModel") (hE : EN D cI cJ cS s) (hT : ST ad adK A s s.heap) (hA : ∀ q : Nat, s.heap.size ≤ q → A q) (hr : meth.sig.returnType = (some (.int))) (hlocks : meth.locks = false) (hk9 : ∀ (x1 : Int32) (x2 : Int32) (x3 : Int32) (v_at : Int32) (v_wrongAt : Int32) (H : Heap) (locs : List Loc) (ls : Array Slot), k9 x1 x2 x3 v_at v_wrongAt → va_P D vwCl (wX10_word cI cJ cS a_o a_cells a_words z_refused z_steps z_kind z_space z_other z_times z_speed z_base z_share z_notes z_pitch z_beats z_held z_sort z_size z_shown z_carried z_tell z_was z_kept z_cutSpace z_cutTimes z_cutOff z_trace v_stretches v_cars v_tunes v_along v_near v_borne v_tempo v_seed v_fault v_from v_at v_end v_told v_wrongAt v_culprit v_ran v_isKept g_cells f_words) H → va_D A (wX10_word cI cJ cS a_o a_cells a_words z_refused z_steps z_kind z_space z_other z_times z_speed z_base z_share z_notes z_pitch z_beats z_held z_sort z_size z_shown z_carried z_tell z_was z_kept z_cutSpace z_cutTimes z_cutOff z_trace v_stretches v_cars v_tunes v_along v_near v_borne v_tempo v_seed v_fault v_from v_at v_end v_told v_wrongAt v_culprit v_ran v_isKept g_cells f_words) → va_S A s.heap H locs → lv_has ls 6 [(0, .ref a_o), (1, .int x1), (2, .int x2), (3, .int x3)] → W p l e (rmd 0 0 0) s m args below meth c H locs 0 0 (MQ below (va_Qi (fun r (u : Int32 × Int32) => post r u.1 u.2) (fun u t => va_P D vwCl (wX10_word cI cJ cS a_o a_cells a_words z_refused z_steps z_kind z_space z_other z_times z_speed z_base z_share z_notes z_pitch z_beats z_held z_sort z_size z_shown z_carried z_tell z_was z_kept z_cutSpace z_cutTimes z_cutOff z_trace v_stretches v_cars v_tunes v_along v_near v_borne v_tempo v_seed v_fault v_from u.1 v_end v_told u.2 v_culprit v_ran v_isKept g_cells f_words) t.heap) A) args s 0 0 A) (F0 m 9 ls [])) : ∀ (H : Heap) (locs : List Loc) (ls : Array Slot), F_X10_word_75 f_words post k9 x1 x2 x3 x4 x5 v_at v_wrongAt → va_P D vwCl (wX10_word cI cJ cS a_o a_cells a_words z_refused z_steps z_kind z_space z_other z_times z_speed z_base z_share z_notes z_pitch z_beats z_held z_sort z_size z_shown z_carried z_tell z_was z_kept z_cutSpace z_cutTimes z_cutOff z_trace v_stretches v_cars v_tunes v_along v_near v_borne v_tempo v_seed v_fault v_from v_at v_end v_told v_wrongAt v_culprit v_ran v_isKept g_cells f_words) H → va_D A (wX10_word cI cJ cS a_o a_cells a_words z_refused z_steps z_kind z_space z_other z_times z_speed z_base z_share z_notes z_pitch z_beats z_held z_sort z_size z_shown z_carried z_tell z_was z_kept z_cutSpace z_cutTimes z_cutOff z_trace v_stretches v_cars v_tunes v_along v_near v_borne v_tempo v_seed v_fault v_from v_at v_end v_told v_wrongAt v_culprit v_ran v_isKept g_cells f_words) → va_S A s.heap H locs → lv_has ls 6 [(0, .ref a_o), (1, .int x1), (2, .int x2), (3, .int x3), (4, .int x4), (5, .int x5)] → W p l e (rmd 0 0 0) s m args below meth c H locs 0 0 (MQ below (va_Qi (fun r (u : Int32 × Int32) => post r u.1 u.2) (fun u t => va_P D vwCl (wX10_word cI cJ cS a_o a_cells a_words z_refused z_steps z_kind z_space z_other z_times z_speed z_base z_share z_notes z_pitch z_beats z_held z_sort z_size z_shown z_carried z_tell z_was z_kept z_cutSpace z_cutTimes z_cutOff z_trace v_stretches v_cars v_tunes v_along v_near v_borne v_tempo v_seed v_fault v_from u.1 v_end v_told u.2 v_culprit v_ran v_isKept g_cells f_words) t.heap) A) args s 0 0 A) (F0 m 75 ls []) := by
  intro  H locs ls h hP hD hS hl
  unfold F_X10_word_75 at h
  have hx := S.1
  have hb := S.2.1
  refine lv_aload_n hx hb dX10_word_75 rfl (lv_at hl 0 rfl) ?_
  refine gf S hE hP 0 rfl rfl inX10 (k := 27) (by decide) q1120 rfl dX10_word_76 ?_
  refine lv_iload hx hb dX10_word_79 (lv_at hl 5 rfl) ?_
  obtain ⟨hi, h⟩ := h
  refine ial S hE hP 2 rfl hi dX10_word_81 ?_
  refine lv_if_ne (tgt := 93) hx hb dX10_word_82 (by decide) (fun hc => ?_) (fun hc => ?_)
  · have h := h.2 hc
    refine lv_iload hx hb dX10_word_93 (lv_at hl 4 rfl) ?_
    refine lv_iload_n hx hb dX10_word_95 rfl (lv_at hl 2 rfl) ?_
    refine lv_icmp_le (tgt := 104) hx hb dX10_word_96 (by decide) (fun hc => ?_) (fun hc => ?_)
    · have h := h.1 hc
      refine lv_iload_n hx hb dX10_word_104 rfl (lv_at hl 2 rfl) ?_
      refine w_X10_word_105 S hE hT hA hr hlocks hk9 _ _ _ h hP hD hS (lv_sub hl [0, 1, 3] rfl)
    have h := h.2 hc
    refine lv_iload hx hb dX10_word_99 (lv_at hl 4 rfl) ?_
    refine lv_goto (tgt := 105) hx hb dX10_word_101 (by decide) ?_
    refine w_X10_word_105 S hE hT hA hr hlocks hk9 _ _ _ h hP hD hS (lv_sub hl [0, 1, 3] rfl)
  have h := h.1 hc
  refine lv_aload_n hx hb dX10_word_85 rfl (lv_at hl 0 rfl) ?_
  refine lv_iload hx hb dX10_word_86 (lv_at hl 4 rfl) ?_
  refine pf S hE hP hD hS 0 (k := 30) rfl rfl inX10 tyX10_ok nmX10 (by decide) q1123 rfl rfl rfl (Nat.le_of_ble_eq_true rfl) dX10_word_88 (fun H locs hP hD hS => ?_)
  have hP : va_P D vwCl (wX10_word cI cJ cS a_o a_cells a_words z_refused z_steps z_kind z_space z_other z_times z_speed z_base z_share z_notes z_pitch z_beats z_held z_sort z_size z_shown z_carried z_tell z_was z_kept z_cutSpace z_cutTimes z_cutOff z_trace v_stretches v_cars v_tunes v_along v_near v_borne v_tempo v_seed v_fault v_from x4 v_end v_told v_wrongAt v_culprit v_ran v_isKept g_cells f_words) H := hP
  have hD : va_D A (wX10_word cI cJ cS a_o a_cells a_words z_refused z_steps z_kind z_space z_other z_times z_speed z_base z_share z_notes z_pitch z_beats z_held z_sort z_size z_shown z_carried z_tell z_was z_kept z_cutSpace z_cutTimes z_cutOff z_trace v_stretches v_cars v_tunes v_along v_near v_borne v_tempo v_seed v_fault v_from x4 v_end v_told v_wrongAt v_culprit v_ran v_isKept g_cells f_words) := hD
  refine lv_iload_n hx hb dX10_word_91 rfl (lv_at hl 3 rfl) ?_
  exact W.iret hx hb hr (fun t ht _ => ⟨⟨_, (x4, v_wrongAt), rfl, h, hPt hP ht⟩, hS.F ht⟩) hS.2.2 dX10_word_92
set_option maxHeartbeats 4000000 in
set_option maxRecDepth 100000 in
theorem w_X10_word_9 {l : Launch} {D : va_G} {cI cJ cS : ClassId} {ad adK : Nat → Nat} {a_o a_cells a_words : Nat} {z_refused z_steps z_kind z_space z_other z_times z_speed z_base z_share z_notes z_pitch z_beats z_held z_sort z_size z_shown z_carried z_tell z_was z_kept z_cutSpace z_cutTimes z_cutOff z_trace : Value} {v_stretches : Int32} {v_cars : Int32} {v_tunes : Int32} {v_along : Int32} {v_near : Int32} {v_borne : Int32} {v_tempo : Int32} {v_seed : Int32} {v_fault : Int32} {v_from : Int32} {v_end : Int32} {v_told : Int32} {v_culprit : Int32} {v_ran : Int32} {v_isKept : Int32} {g_cells : Nat → Int64} {f_words : Nat → Int32} {post : Int32 → Int32 → Int32 → Prop} {p : Program} {e : Env} {s : State} {m : MethodId} {args : Array Value} {below : List Frame} {meth : Method} {c : Code} {A : Nat → Prop} (S : CallFix p m c cX10_word 6 s args GW "RoadThatSingsModel") (hE : EN D cI cJ cS s) (hT : ST ad adK A s s.heap) (hA : ∀ q : Nat, s.heap.size ≤ q → A q) (hr : meth.sig.returnType = (some (.int))) (hlocks : meth.locks = false) : ∀ n : Nat, ∀ (x1 : Int32) (x2 : Int32) (x3 : Int32) (v_at : Int32) (v_wrongAt : Int32) (H : Heap) (locs : List Loc) (ls : Array Slot), L_X10_word_9 v_from v_end g_cells f_words post n x1 x2 x3 v_at v_wrongAt → va_P D vwCl (wX10_word cI cJ cS a_o a_cells a_words z_refused z_steps z_kind z_space z_other z_times z_speed z_base z_share z_notes z_pitch z_beats z_held z_sort z_size z_shown z_carried z_tell z_was z_kept z_cutSpace z_cutTimes z_cutOff z_trace v_stretches v_cars v_tunes v_along v_near v_borne v_tempo v_seed v_fault v_from v_at v_end v_told v_wrongAt v_culprit v_ran v_isKept g_cells f_words) H → va_D A (wX10_word cI cJ cS a_o a_cells a_words z_refused z_steps z_kind z_space z_other z_times z_speed z_base z_share z_notes z_pitch z_beats z_held z_sort z_size z_shown z_carried z_tell z_was z_kept z_cutSpace z_cutTimes z_cutOff z_trace v_stretches v_cars v_tunes v_along v_near v_borne v_tempo v_seed v_fault v_from v_at v_end v_told v_wrongAt v_culprit v_ran v_isKept g_cells f_words) → va_S A s.heap H locs → lv_has ls 6 [(0, .ref a_o), (1, .int x1), (2, .int x2), (3, .int x3)] → W p l e (rmd 0 0 0) s m args below meth c H locs 0 0 (MQ below (va_Qi (fun r (u : Int32 × Int32) => post r u.1 u.2) (fun u t => va_P D vwCl (wX10_word cI cJ cS a_o a_cells a_words z_refused z_steps z_kind z_space z_other z_times z_speed z_base z_share z_notes z_pitch z_beats z_held z_sort z_size z_shown z_carried z_tell z_was z_kept z_cutSpace z_cutTimes z_cutOff z_trace v_stretches v_cars v_tunes v_along v_near v_borne v_tempo v_seed v_fault v_from u.1 v_end v_told u.2 v_culprit v_ran v_isKept g_cells f_words) t.heap) A) args s 0 0 A) (F0 m 9 ls []) := by
  intro n
  induction n with
  | zero =>
    intro x1 x2 x3 v_at v_wrongAt H locs ls h hP hD hS hl
    exact h.elim
  | succ n ih =>
    intro x1 x2 x3 v_at v_wrongAt H locs ls h hP hD hS hl
    rw [L_X10_word_9] at h
    have hx := S.1
    have hb := S.2.1
    refine lv_iload_n hx hb dX10_word_9 rfl (lv_at hl 3 rfl) ?_
    refine lv_bipush (v := 13) hx hb dX10_word_10 (by decide) ?_
    refine lv_icmp_ge (tgt := 130) hx hb dX10_word_12 (by decide) (fun hc => ?_) (fun hc => ?_)
    · have h := h.1 hc
      refine lv_aload_n hx hb dX10_word_130 rfl (lv_at hl 0 rfl) ?_
      refine lv_iload_n hx hb dX10_word_131 rfl (lv_at hl 2 rfl) ?_
      refine pf S hE hP hD hS 0 (k := 33) rfl rfl inX10 tyX10_ok nmX10 (by decide) q1126 rfl rfl rfl (Nat.le_of_ble_eq_true rfl) dX10_word_132 (fun H locs hP hD hS => ?_)
      have hP : va_P D vwCl (wX10_word cI cJ cS a_o a_cells a_words z_refused z_steps z_kind z_space z_other z_times z_speed z_base z_share z_notes z_pitch z_beats z_held z_sort z_size z_shown z_carried z_tell z_was z_kept z_cutSpace z_cutTimes z_cutOff z_trace v_stretches v_cars v_tunes v_along v_near v_borne v_tempo v_seed v_fault v_from v_at v_end v_told x2 v_culprit v_ran v_isKept g_cells f_words) H := hP
      have hD : va_D A (wX10_word cI cJ cS a_o a_cells a_words z_refused z_steps z_kind z_space z_other z_times z_speed z_base z_share z_notes z_pitch z_beats z_held z_sort z_size z_shown z_carried z_tell z_was z_kept z_cutSpace z_cutTimes z_cutOff z_trace v_stretches v_cars v_tunes v_along v_near v_borne v_tempo v_seed v_fault v_from v_at v_end v_told x2 v_culprit v_ran v_isKept g_cells f_words) := hD
      refine lv_iconst (v := (-1)) hx hb dX10_word_135 (by decide) ?_
      exact W.iret hx hb hr (fun t ht _ => ⟨⟨_, (v_at, x2), rfl, h, hPt hP ht⟩, hS.F ht⟩) hS.2.2 dX10_word_136
    have h := h.2 hc
    refine lv_aload_n hx hb dX10_word_15 rfl (lv_at hl 0 rfl) ?_
    refine gf S hE hP 0 rfl rfl inX10 (k := 30) (by decide) q1123 rfl dX10_word_16 ?_
    refine lv_istore (lv' := [(4, .int v_at), (0, .ref a_o), (1, .int x1), (2, .int x2), (3, .int x3)]) hx hb dX10_word_19 hl (by decide) rfl (fun ls hl => ?_)
    refine lv_iload_n hx hb dX10_word_21 rfl (lv_at hl 2 rfl) ?_
    refine lv_istore (lv' := [(5, .int x1), (4, .int v_at), (0, .ref a_o), (1, .int x1), (2, .int x2), (3, .int x3)]) hx hb dX10_word_22 hl (by decide) rfl (fun ls hl => ?_)
    obtain ⟨n, h⟩ := h
    refine w_X10_word_24 S hE hT hA hr hlocks (fun x4_1 x5_2 H locs ls h hP hD hS hl => ?_) n _ _ _ _ _ h hP hD hS (lv_sub hl [2, 3, 4, 5, 1, 0] rfl)
    refine w_X10_word_75 S hE hT hA hr hlocks ih _ _ _ h hP hD hS (lv_sub hl [0, 1, 2, 3, 4, 5] rfl)
set_option maxHeartbeats 4000000 in
set_option maxRecDepth 100000 in
theorem c_X10_word {l : Launch} {D : va_G} {cI cJ cS : ClassId} {ad adK : Nat → Nat} {a_o a_cells a_words : Nat} {z_refused z_steps z_kind z_space z_other z_times z_speed z_base z_share z_notes z_pitch z_beats z_held z_sort z_size z_shown z_carried z_tell z_was z_kept z_cutSpace z_cutTimes z_cutOff z_trace : Value} {v_stretches : Int32} {v_cars : Int32} {v_tunes : Int32} {v_along : Int32} {v_near : Int32} {v_borne : Int32} {v_tempo : Int32} {v_seed : Int32} {v_fault : Int32} {v_from : Int32} {v_at : Int32} {v_end : Int32} {v_told : Int32} {v_wrongAt : Int32} {v_culprit : Int32} {v_ran : Int32} {v_isKept : Int32} {g_cells : Nat → Int64} {f_words : Nat → Int32} {post : Int32 → Int32 → Int32 → Prop} (h : F_X10_word v_from v_at v_end v_wrongAt g_cells f_words post) {sz : Nat} : Met l yX10_word (Cond.code yX10_word cX10_word 6 (some (.int)) :: GW) (rmd 0 0 0) (PW D cI cJ cS ad adK [.ref a_o] (wX10_word cI cJ cS a_o a_cells a_words z_refused z_steps z_kind z_space z_other z_times z_speed z_base z_share z_notes z_pitch z_beats z_held z_sort z_size z_shown z_carried z_tell z_was z_kept z_cutSpace z_cutTimes z_cutOff z_trace v_stretches v_cars v_tunes v_along v_near v_borne v_tempo v_seed v_fault v_from v_at v_end v_told v_wrongAt v_culprit v_ran v_isKept g_cells f_words) sz) (va_Qi (fun r (u : Int32 × Int32) => post r u.1 u.2) (fun u t => va_P D vwCl (wX10_word cI cJ cS a_o a_cells a_words z_refused z_steps z_kind z_space z_other z_times z_speed z_base z_share z_notes z_pitch z_beats z_held z_sort z_size z_shown z_carried z_tell z_was z_kept z_cutSpace z_cutTimes z_cutOff z_trace v_stretches v_cars v_tunes v_along v_near v_borne v_tempo v_seed v_fault v_from u.1 v_end v_told u.2 v_culprit v_ran v_isKept g_cells f_words) t.heap) (va_A (wX10_word cI cJ cS a_o a_cells a_words z_refused z_steps z_kind z_space z_other z_times z_speed z_base z_share z_notes z_pitch z_beats z_held z_sort z_size z_shown z_carried z_tell z_was z_kept z_cutSpace z_cutTimes z_cutOff z_trace v_stretches v_cars v_tunes v_along v_near v_borne v_tempo v_seed v_fault v_from v_at v_end v_told v_wrongAt v_culprit v_ran v_isKept g_cells f_words) sz)) 0 0 (va_A (wX10_word cI cJ cS a_o a_cells a_words z_refused z_steps z_kind z_space z_other z_times z_speed z_base z_share z_notes z_pitch z_beats z_held z_sort z_size z_shown z_carried z_tell z_was z_kept z_cutSpace z_cutTimes z_cutOff z_trace v_stretches v_cars v_tunes v_along v_near v_borne v_tempo v_seed v_fault v_from v_at v_end v_told v_wrongAt v_culprit v_ran v_isKept g_cells f_words) sz) := by
  refine Met.rw (Qc := fun A => (va_Qi (fun r (u : Int32 × Int32) => post r u.1 u.2) (fun u t => va_P D vwCl (wX10_word cI cJ cS a_o a_cells a_words z_refused z_steps z_kind z_space z_other z_times z_speed z_base z_share z_notes z_pitch z_beats z_held z_sort z_size z_shown z_carried z_tell z_was z_kept z_cutSpace z_cutTimes z_cutOff z_trace v_stretches v_cars v_tunes v_along v_near v_borne v_tempo v_seed v_fault v_from u.1 v_end v_told u.2 v_culprit v_ran v_isKept g_cells f_words) t.heap) A)) (by decide) (Nat.le_of_ble_eq_true rfl) (fun p e s m args below meth c ls A (S : CallFix p m c cX10_word 6 s args GW "RoadThatSingsModel") hE hT hP hD hA hS hr hlocks hname hl => ?_)
  have hS0 := hS
  have hx := S.1
  have hb := S.2.1
  have hl : lv_has ls 6 [(0, .ref a_o)] := hl
  unfold F_X10_word at h
  refine lv_iconst (v := 0) hx hb dX10_word_0 (by decide) ?_
  refine lv_istore_n (lv' := [(1, .int 0), (0, .ref a_o)]) hx hb dX10_word_1 rfl hl (by decide) rfl (fun ls hl => ?_)
  refine lv_aload_n hx hb dX10_word_2 rfl (lv_at hl 1 rfl) ?_
  refine gf S hE hP 0 rfl rfl inX10 (k := 30) (by decide) q1123 rfl dX10_word_3 ?_
  refine lv_istore_n (lv' := [(2, .int v_at), (1, .int 0), (0, .ref a_o)]) hx hb dX10_word_6 rfl hl (by decide) rfl (fun ls hl => ?_)
  refine lv_iconst (v := 0) hx hb dX10_word_7 (by decide) ?_
  refine lv_istore_n (lv' := [(3, .int 0), (2, .int v_at), (1, .int 0), (0, .ref a_o)]) hx hb dX10_word_8 rfl hl (by decide) rfl (fun ls hl => ?_)
  obtain ⟨n, h⟩ := h
  refine w_X10_word_9 S hE hT hA hr hlocks n _ _ _ _ _ _ _ _ h hP hD hS (lv_sub hl [3, 2, 1, 0] rfl)
