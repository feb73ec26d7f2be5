/-! X10_no -/
abbrev wX10_no (cI cJ cS : ClassId) (a_o a_refused : Nat) (z_steps z_kind z_space z_other z_times z_speed z_base z_share z_notes z_pitch z_beats z_held z_sort z_size z_shown z_cells z_carried z_words z_tell z_was z_kept z_cutSpace z_cutTimes z_cutOff z_trace : Value) (v_stretches : Int32) (v_cars : Int32) (v_tunes : Int32) (v_along : Int32) (v_near : Int32) (v_borne : Int32) (v_tempo : Int32) (v_seed : Int32) (v_fault : Int32) (v_from : Int32) (v_at : Int32) (v_end : Int32) (v_told : Int32) (v_wrongAt : Int32) (v_culprit : Int32) (v_ran : Int32) (v_isKept : Int32) (f_refused : Nat → Int32) : va_W := [(a_o, .inr (9, [.int v_stretches, .int v_cars, .int v_tunes, .int v_along, .int v_near, .int v_borne, .int v_tempo, .int v_seed, .int v_fault, .ref a_refused, z_steps, z_kind, z_space, z_other, z_times, z_speed, z_base, z_share, z_notes, z_pitch, z_beats, z_held, z_sort, z_size, z_shown, z_cells, z_carried, z_words, z_tell, .int v_from, .int v_at, .int v_end, .int v_told, .int v_wrongAt, z_was, z_kept, .int v_culprit, z_cutSpace, z_cutTimes, z_cutOff, z_trace, .int v_ran, .int v_isKept])), (a_refused, .inl (cI, 8, .inl f_refused))]
def F_X10_no (f_refused : Nat → Int32) (x1 : Int32) (post : Int32 → (Nat → Int32) → Prop) : Prop := (vp_in (-x1) 8 ∧ (vp_in (-x1) 8 ∧ post x1 (upd f_refused (-x1).toNatClampNeg ((f_refused (-x1).toNatClampNeg) + 1))))
set_option maxHeartbeats 4000000 in
set_option maxRecDepth 100000 in
theorem c_X10_no {l : Launch} {D : va_G} {cI cJ cS : ClassId} {ad adK : Nat → Nat} {a_o a_refused : Nat} {z_steps z_kind z_space z_other z_times z_speed z_base z_share z_notes z_pitch z_beats z_held z_sort z_size z_shown z_cells z_carried z_words z_tell z_was z_kept z_cutSpace z_cutTimes z_cutOff z_trace : Value} {v_stretches : Int32} {v_cars : Int32} {v_tunes : Int32} {v_along : Int32} {v_near : Int32} {v_borne : Int32} {v_tempo : Int32} {v_seed : Int32} {v_fault : Int32} {v_from : Int32} {v_at : Int32} {v_end : Int32} {v_told : Int32} {v_wrongAt : Int32} {v_culprit : Int32} {v_ran : Int32} {v_isKept : Int32} {f_refused : Nat → Int32} {x1 : Int32} {post : Int32 → (Nat → Int32) → Prop} (h : F_X10_no f_refused x1 post) {sz : Nat} : Met l yX10_no (Cond.code yX10_no cX10_no 2 (some (.int)) :: GW) (rmd 0 0 0) (PW D cI cJ cS ad adK [.ref a_o, .int x1] (wX10_no cI cJ cS a_o a_refused z_steps z_kind z_space z_other z_times z_speed z_base z_share z_notes z_pitch z_beats z_held z_sort z_size z_shown z_cells z_carried z_words z_tell z_was z_kept z_cutSpace z_cutTimes z_cutOff z_trace v_stretches v_cars v_tunes v_along v_near v_borne v_tempo v_seed v_fault v_from v_at v_end v_told v_wrongAt v_culprit v_ran v_isKept f_refused) sz) (va_Qi (fun r (u : (Nat → Int32)) => post r u) (fun u t => va_P D vwCl (wX10_no cI cJ cS a_o a_refused z_steps z_kind z_space z_other z_times z_speed z_base z_share z_notes z_pitch z_beats z_held z_sort z_size z_shown z_cells z_carried z_words z_tell z_was z_kept z_cutSpace z_cutTimes z_cutOff z_trace v_stretches v_cars v_tunes v_along v_near v_borne v_tempo v_seed v_fault v_from v_at v_end v_told v_wrongAt v_culprit v_ran v_isKept u) t.heap) (va_A (wX10_no cI cJ cS a_o a_refused z_steps z_kind z_space z_other z_times z_speed z_base z_share z_notes z_pitch z_beats z_held z_sort z_size z_shown z_cells z_carried z_words z_tell z_was z_kept z_cutSpace z_cutTimes z_cutOff z_trace v_stretches v_cars v_tunes v_along v_near v_borne v_tempo v_seed v_fault v_from v_at v_end v_told v_wrongAt v_culprit v_ran v_isKept f_refused) sz)) 0 0 (va_A (wX10_no cI cJ cS a_o a_refused z_steps z_kind z_space z_other z_times z_speed z_base z_share z_notes z_pitch z_beats z_held z_sort z_size z_shown z_cells z_carried z_words z_tell z_was z_kept z_cutSpace z_cutTimes z_cutOff z_trace v_stretches v_cars v_tunes v_along v_near v_borne v_tempo v_seed v_fault v_from v_at v_end v_told v_wrongAt v_culprit v_ran v_isKept f_refused) sz) := by
  refine Met.rw (Qc := fun A => (va_Qi (fun r (u : (Nat → Int32)) => post r u) (fun u t => va_P D vwCl (wX10_no cI cJ cS a_o a_refused z_steps z_kind z_space z_other z_times z_speed z_base z_share z_notes z_pitch z_beats z_held z_sort z_size z_shown z_cells z_carried z_words z_tell z_was z_kept z_cutSpace z_cutTimes z_cutOff z_trace v_stretches v_cars v_tunes v_along v_near v_borne v_tempo v_seed v_fault v_from v_at v_end v_told v_wrongAt v_culprit v_ran v_isKept u) t.heap) A)) (by decide) (Nat.le_of_ble_eq_true rfl) (fun p e s m args below meth c ls A (S : CallFix p m c cX10_no 2 s args GW "RoadThatSingsModel") hE hT hP hD hA hS hr hlocks hname hl => ?_)
  have hS0 := hS
  have hx := S.1
  have hb := S.2.1
  have hl : lv_has ls 2 [(0, .ref a_o), (1, .int x1)] := hl
  unfold F_X10_no at h
  refine lv_aload_n hx hb dX10_no_0 rfl (lv_at hl 0 rfl) ?_
  refine gf S hE hP 0 rfl rfl inX10 (k := 9) (by decide) q1102 rfl dX10_no_1 ?_
  refine lv_iload_n hx hb dX10_no_4 rfl (lv_at hl 1 rfl) ?_
  refine lv_ineg hx hb dX10_no_5 ?_
  refine lv_dup2_11 hx hb dX10_no_6 rfl rfl ?_
  obtain ⟨hi, h⟩ := h
  refine ial S hE hP 1 rfl hi dX10_no_7 ?_
  refine lv_iconst (v := 1) hx hb dX10_no_8 (by decide) ?_
  refine lv_iadd hx hb dX10_no_9 ?_
  obtain ⟨hi, h⟩ := h
  refine ias S hE hP hD hS 1 rfl hi dX10_no_10 (fun H locs hP hD hS => ?_)
  have hP : va_P D vwCl (wX10_no cI cJ cS a_o a_refused z_steps z_kind z_space z_other z_times z_speed z_base z_share z_notes z_pitch z_beats z_held z_sort z_size z_shown z_cells z_carried z_words z_tell z_was z_kept z_cutSpace z_cutTimes z_cutOff z_trace v_stretches v_cars v_tunes v_along v_near v_borne v_tempo v_seed v_fault v_from v_at v_end v_told v_wrongAt v_culprit v_ran v_isKept (upd f_refused (-x1).toNatClampNeg ((f_refused (-x1).toNatClampNeg) + 1))) H := hP
  have hD : va_D A (wX10_no cI cJ cS a_o a_refused z_steps z_kind z_space z_other z_times z_speed z_base z_share z_notes z_pitch z_beats z_held z_sort z_size z_shown z_cells z_carried z_words z_tell z_was z_kept z_cutSpace z_cutTimes z_cutOff z_trace v_stretches v_cars v_tunes v_along v_near v_borne v_tempo v_seed v_fault v_from v_at v_end v_told v_wrongAt v_culprit v_ran v_isKept (upd f_refused (-x1).toNatClampNeg ((f_refused (-x1).toNatClampNeg) + 1))) := hD
  refine lv_iload_n hx hb dX10_no_11 rfl (lv_at hl 1 rfl) ?_
  exact W.iret hx hb hr (fun t ht _ => ⟨⟨_, (upd f_refused (-x1).toNatClampNeg ((f_refused (-x1).toNatClampNeg) + 1)), rfl, h, hPt hP ht⟩, hS.F ht⟩) hS.2.2 dX10_no_12
/-! X10_noTen -/
abbrev wX10_noTen (cI cJ cS : ClassId) (a_o a_refused : Nat) (z_steps z_kind z_space z_other z_times z_speed z_base z_share z_notes z_pitch z_beats z_held z_sort z_size z_shown z_cells z_carried z_words z_tell z_was z_kept z_cutSpace z_cutTimes z_cutOff z_trace : Value) (v_stretches : Int32) (v_cars : Int32) (v_tunes : Int32) (v_along : Int32) (v_near : Int32) (v_borne : Int32) (v_tempo : Int32) (v_seed : Int32) (v_fault : Int32) (v_from : Int32) (v_at : Int32) (v_end : Int32) (v_told : Int32) (v_wrongAt : Int32) (v_culprit : Int32) (v_ran : Int32) (v_isKept : Int32) (f_refused : Nat → Int32) : va_W := [(a_o, .inr (9, [.int v_stretches, .int v_cars, .int v_tunes, .int v_along, .int v_near, .int v_borne, .int v_tempo, .int v_seed, .int v_fault, .ref a_refused, z_steps, z_kind, z_space, z_other, z_times, z_speed, z_base, z_share, z_notes, z_pitch, z_beats, z_held, z_sort, z_size, z_shown, z_cells, z_carried, z_words, z_tell, .int v_from, .int v_at, .int v_end, .int v_told, .int v_wrongAt, z_was, z_kept, .int v_culprit, z_cutSpace, z_cutTimes, z_cutOff, z_trace, .int v_ran, .int v_isKept])), (a_refused, .inl (cI, 8, .inl f_refused))]
def F_X10_noTen (f_refused : Nat → Int32) (x1 : Int32) (post : Int32 → (Nat → Int32) → Prop) : Prop := (vp_in (-x1) 8 ∧ (vp_in (-x1) 8 ∧ post (x1 - 10) (upd f_refused (-x1).toNatClampNeg ((f_refused (-x1).toNatClampNeg) + 1))))
set_option maxHeartbeats 4000000 in
set_option maxRecDepth 100000 in
theorem c_X10_noTen {l : Launch} {D : va_G} {cI cJ cS : ClassId} {ad adK : Nat → Nat} {a_o a_refused : Nat} {z_steps z_kind z_space z_other z_times z_speed z_base z_share z_notes z_pitch z_beats z_held z_sort z_size z_shown z_cells z_carried z_words z_tell z_was z_kept z_cutSpace z_cutTimes z_cutOff z_trace : Value} {v_stretches : Int32} {v_cars : Int32} {v_tunes : Int32} {v_along : Int32} {v_near : Int32} {v_borne : Int32} {v_tempo : Int32} {v_seed : Int32} {v_fault : Int32} {v_from : Int32} {v_at : Int32} {v_end : Int32} {v_told : Int32} {v_wrongAt : Int32} {v_culprit : Int32} {v_ran : Int32} {v_isKept : Int32} {f_refused : Nat → Int32} {x1 : Int32} {post : Int32 → (Nat → Int32) → Prop} (h : F_X10_noTen f_refused x1 post) {sz : Nat} : Met l yX10_noTen (Cond.code yX10_noTen cX10_noTen 2 (some (.int)) :: GW) (rmd 0 0 0) (PW D cI cJ cS ad adK [.ref a_o, .int x1] (wX10_noTen cI cJ cS a_o a_refused z_steps z_kind z_space z_other z_times z_speed z_base z_share z_notes z_pitch z_beats z_held z_sort z_size z_shown z_cells z_carried z_words z_tell z_was z_kept z_cutSpace z_cutTimes z_cutOff z_trace v_stretches v_cars v_tunes v_along v_near v_borne v_tempo v_seed v_fault v_from v_at v_end v_told v_wrongAt v_culprit v_ran v_isKept f_refused) sz) (va_Qi (fun r (u : (Nat → Int32)) => post r u) (fun u t => va_P D vwCl (wX10_noTen cI cJ cS a_o a_refused z_steps z_kind z_space z_other z_times z_speed z_base z_share z_notes z_pitch z_beats z_held z_sort z_size z_shown z_cells z_carried z_words z_tell z_was z_kept z_cutSpace z_cutTimes z_cutOff z_trace v_stretches v_cars v_tunes v_along v_near v_borne v_tempo v_seed v_fault v_from v_at v_end v_told v_wrongAt v_culprit v_ran v_isKept u) t.heap) (va_A (wX10_noTen cI cJ cS a_o a_refused z_steps z_kind z_space z_other z_times z_speed z_base z_share z_notes z_pitch z_beats z_held z_sort z_size z_shown z_cells z_carried z_words z_tell z_was z_kept z_cutSpace z_cutTimes z_cutOff z_trace v_stretches v_cars v_tunes v_along v_near v_borne v_tempo v_seed v_fault v_from v_at v_end v_told v_wrongAt v_culprit v_ran v_isKept f_refused) sz)) 0 0 (va_A (wX10_noTen cI cJ cS a_o a_refused z_steps z_kind z_space z_other z_times z_speed z_base z_share z_notes z_pitch z_beats z_held z_sort z_size z_shown z_cells z_carried z_words z_tell z_was z_kept z_cutSpace z_cutTimes z_cutOff z_trace v_stretches v_cars v_tunes v_along v_near v_borne v_tempo v_seed v_fault v_from v_at v_end v_told v_wrongAt v_culprit v_ran v_isKept f_refused) sz) := by
  refine Met.rw (Qc := fun A => (va_Qi (fun r (u : (Nat → Int32)) => post r u) (fun u t => va_P D vwCl (wX10_noTen cI cJ cS a_o a_refused z_steps z_kind z_space z_other z_times z_speed z_base z_share z_notes z_pitch z_beats z_held z_sort z_size z_shown z_cells z_carried z_words z_tell z_was z_kept z_cutSpace z_cutTimes z_cutOff z_trace v_stretches v_cars v_tunes v_along v_near v_borne v_tempo v_seed v_fault v_from v_at v_end v_told v_wrongAt v_culprit v_ran v_isKept u) t.heap) A)) (by decide) (Nat.le_of_ble_eq_true rfl) (fun p e s m args below meth c ls A (S : CallFix p m c cX10_noTen 2 s args GW "RoadThatSingsModel") hE hT hP hD hA hS hr hlocks hname hl => ?_)
  have hS0 := hS
  have hx := S.1
  have hb := S.2.1
  have hl : lv_has ls 2 [(0, .ref a_o), (1, .int x1)] := hl
  unfold F_X10_noTen at h
  refine lv_aload_n hx hb dX10_noTen_0 rfl (lv_at hl 0 rfl) ?_
  refine gf S hE hP 0 rfl rfl inX10 (k := 9) (by decide) q1102 rfl dX10_noTen_1 ?_
  refine lv_iload_n hx hb dX10_noTen_4 rfl (lv_at hl 1 rfl) ?_
  refine lv_ineg hx hb dX10_noTen_5 ?_
  refine lv_dup2_11 hx hb dX10_noTen_6 rfl rfl ?_
  obtain ⟨hi, h⟩ := h
  refine ial S hE hP 1 rfl hi dX10_noTen_7 ?_
  refine lv_iconst (v := 1) hx hb dX10_noTen_8 (by decide) ?_
  refine lv_iadd hx hb dX10_noTen_9 ?_
  obtain ⟨hi, h⟩ := h
  refine ias S hE hP hD hS 1 rfl hi dX10_noTen_10 (fun H locs hP hD hS => ?_)
  have hP : va_P D vwCl (wX10_noTen cI cJ cS a_o a_refused z_steps z_kind z_space z_other z_times z_speed z_base z_share z_notes z_pitch z_beats z_held z_sort z_size z_shown z_cells z_carried z_words z_tell z_was z_kept z_cutSpace z_cutTimes z_cutOff z_trace v_stretches v_cars v_tunes v_along v_near v_borne v_tempo v_seed v_fault v_from v_at v_end v_told v_wrongAt v_culprit v_ran v_isKept (upd f_refused (-x1).toNatClampNeg ((f_refused (-x1).toNatClampNeg) + 1))) H := hP
  have hD : va_D A (wX10_noTen cI cJ cS a_o a_refused z_steps z_kind z_space z_other z_times z_speed z_base z_share z_notes z_pitch z_beats z_held z_sort z_size z_shown z_cells z_carried z_words z_tell z_was z_kept z_cutSpace z_cutTimes z_cutOff z_trace v_stretches v_cars v_tunes v_along v_near v_borne v_tempo v_seed v_fault v_from v_at v_end v_told v_wrongAt v_culprit v_ran v_isKept (upd f_refused (-x1).toNatClampNeg ((f_refused (-x1).toNatClampNeg) + 1))) := hD
  refine lv_iload_n hx hb dX10_noTen_11 rfl (lv_at hl 1 rfl) ?_
  refine lv_bipush (v := 10) hx hb dX10_noTen_12 (by decide) ?_
  refine lv_isub hx hb dX10_noTen_14 ?_
  exact W.iret hx hb hr (fun t ht _ => ⟨⟨_, (upd f_refused (-x1).toNatClampNeg ((f_refused (-x1).toNatClampNeg) + 1)), rfl, h, hPt hP ht⟩, hS.F ht⟩) hS.2.2 dX10_noTen_15
/-! X10_isShelf -/
abbrev wX10_isShelf (cI cJ cS : ClassId) (a_o : Nat) (z_refused z_steps z_kind z_space z_other z_times z_speed z_base z_share z_notes z_pitch z_beats z_held z_sort z_size z_shown z_cells z_carried z_words z_tell z_was z_kept z_cutSpace z_cutTimes z_cutOff z_trace : Value) (v_stretches : Int32) (v_cars : Int32) (v_tunes : Int32) (v_along : Int32) (v_near : Int32) (v_borne : Int32) (v_tempo : Int32) (v_seed : Int32) (v_fault : Int32) (v_from : Int32) (v_at : Int32) (v_end : Int32) (v_told : Int32) (v_wrongAt : Int32) (v_culprit : Int32) (v_ran : Int32) (v_isKept : Int32) : va_W := [(a_o, .inr (9, [.int v_stretches, .int v_cars, .int v_tunes, .int v_along, .int v_near, .int v_borne, .int v_tempo, .int v_seed, .int v_fault, z_refused, z_steps, z_kind, z_space, z_other, z_times, z_speed, z_base, z_share, z_notes, z_pitch, z_beats, z_held, z_sort, z_size, z_shown, z_cells, z_carried, z_words, z_tell, .int v_from, .int v_at, .int v_end, .int v_told, .int v_wrongAt, z_was, z_kept, .int v_culprit, z_cutSpace, z_cutTimes, z_cutOff, z_trace, .int v_ran, .int v_isKept]))]
def F_X10_isShelf (x1 : Int32) (post : Int32 → Prop) : Prop := ((x1 < 0 → post 0) ∧ (¬ x1 < 0 → ((8 ≤ x1 → post 0) ∧ (¬ 8 ≤ x1 → post 1))))
set_option maxHeartbeats 4000000 in
set_option maxRecDepth 100000 in
theorem c_X10_isShelf {l : Launch} {D : va_G} {cI cJ cS : ClassId} {ad adK : Nat → Nat} {a_o : Nat} {z_refused z_steps z_kind z_space z_other z_times z_speed z_base z_share z_notes z_pitch z_beats z_held z_sort z_size z_shown z_cells z_carried z_words z_tell z_was z_kept z_cutSpace z_cutTimes z_cutOff z_trace : Value} {v_stretches : Int32} {v_cars : Int32} {v_tunes : Int32} {v_along : Int32} {v_near : Int32} {v_borne : Int32} {v_tempo : Int32} {v_seed : Int32} {v_fault : Int32} {v_from : Int32} {v_at : Int32} {v_end : Int32} {v_told : Int32} {v_wrongAt : Int32} {v_culprit : Int32} {v_ran : Int32} {v_isKept : Int32} {x1 : Int32} {post : Int32 → Prop} (h : F_X10_isShelf x1 post) : Met l yX10_isShelf (Cond.code yX10_isShelf cX10_isShelf 2 (some (.boolean)) :: GW) (rmd 0 0 0) (PR D cI cJ cS ad adK [.ref a_o, .int x1] (wX10_isShelf cI cJ cS a_o z_refused z_steps z_kind z_space z_other z_times z_speed z_base z_share z_notes z_pitch z_beats z_held z_sort z_size z_shown z_cells z_carried z_words z_tell z_was z_kept z_cutSpace z_cutTimes z_cutOff z_trace v_stretches v_cars v_tunes v_along v_near v_borne v_tempo v_seed v_fault v_from v_at v_end v_told v_wrongAt v_culprit v_ran v_isKept)) (vp_Si post) 0 0 nof := by
  refine Met.ro (by decide) (Nat.le_of_ble_eq_true rfl) (fun p e s m args below meth c ls (S : CallFix p m c cX10_isShelf 2 s args GW "RoadThatSingsModel") hE hT hP hS hr hlocks hl => ?_)
  have hx := S.1
  have hb := S.2.1
  have hl : lv_has ls 2 [(0, .ref a_o), (1, .int x1)] := hl
  unfold F_X10_isShelf at h
  refine lv_iload_n hx hb dX10_isShelf_0 rfl (lv_at hl 1 rfl) ?_
  refine lv_if_lt (tgt := 14) hx hb dX10_isShelf_1 (by decide) (fun hc => ?_) (fun hc => ?_)
  · have h := h.1 hc
    refine lv_iconst (v := 0) hx hb dX10_isShelf_14 (by decide) ?_
    exact W.zret hx hb hr rfl (fun t ht _ => ⟨_, rfl, h, ht⟩) (fun _ hq => by cases hq) dX10_isShelf_15
  have h := h.2 hc
  refine lv_iload_n hx hb dX10_isShelf_4 rfl (lv_at hl 1 rfl) ?_
  refine lv_bipush (v := 8) hx hb dX10_isShelf_5 (by decide) ?_
  refine lv_icmp_ge (tgt := 14) hx hb dX10_isShelf_7 (by decide) (fun hc => ?_) (fun hc => ?_)
  · have h := h.1 hc
    refine lv_iconst (v := 0) hx hb dX10_isShelf_14 (by decide) ?_
    exact W.zret hx hb hr rfl (fun t ht _ => ⟨_, rfl, h, ht⟩) (fun _ hq => by cases hq) dX10_isShelf_15
  have h := h.2 hc
  refine lv_iconst (v := 1) hx hb dX10_isShelf_10 (by decide) ?_
  refine lv_goto (tgt := 15) hx hb dX10_isShelf_11 (by decide) ?_
  exact W.zret hx hb hr rfl (fun t ht _ => ⟨_, rfl, h, ht⟩) (fun _ hq => by cases hq) dX10_isShelf_15
/-! X10_isStretch -/
abbrev wX10_isStretch (cI cJ cS : ClassId) (a_o : Nat) (z_refused z_steps z_kind z_space z_other z_times z_speed z_base z_share z_notes z_pitch z_beats z_held z_sort z_size z_shown z_cells z_carried z_words z_tell z_was z_kept z_cutSpace z_cutTimes z_cutOff z_trace : Value) (v_stretches : Int32) (v_cars : Int32) (v_tunes : Int32) (v_along : Int32) (v_near : Int32) (v_borne : Int32) (v_tempo : Int32) (v_seed : Int32) (v_fault : Int32) (v_from : Int32) (v_at : Int32) (v_end : Int32) (v_told : Int32) (v_wrongAt : Int32) (v_culprit : Int32) (v_ran : Int32) (v_isKept : Int32) : va_W := [(a_o, .inr (9, [.int v_stretches, .int v_cars, .int v_tunes, .int v_along, .int v_near, .int v_borne, .int v_tempo, .int v_seed, .int v_fault, z_refused, z_steps, z_kind, z_space, z_other, z_times, z_speed, z_base, z_share, z_notes, z_pitch, z_beats, z_held, z_sort, z_size, z_shown, z_cells, z_carried, z_words, z_tell, .int v_from, .int v_at, .int v_end, .int v_told, .int v_wrongAt, z_was, z_kept, .int v_culprit, z_cutSpace, z_cutTimes, z_cutOff, z_trace, .int v_ran, .int v_isKept]))]
def F_X10_isStretch (v_stretches : Int32) (x1 : Int32) (post : Int32 → Prop) : Prop := ((x1 < 0 → post 0) ∧ (¬ x1 < 0 → ((v_stretches ≤ x1 → post 0) ∧ (¬ v_stretches ≤ x1 → post 1))))
set_option maxHeartbeats 4000000 in
set_option maxRecDepth 100000 in
theorem c_X10_isStretch {l : Launch} {D : va_G} {cI cJ cS : ClassId} {ad adK : Nat → Nat} {a_o : Nat} {z_refused z_steps z_kind z_space z_other z_times z_speed z_base z_share z_notes z_pitch z_beats z_held z_sort z_size z_shown z_cells z_carried z_words z_tell z_was z_kept z_cutSpace z_cutTimes z_cutOff z_trace : Value} {v_stretches : Int32} {v_cars : Int32} {v_tunes : Int32} {v_along : Int32} {v_near : Int32} {v_borne : Int32} {v_tempo : Int32} {v_seed : Int32} {v_fault : Int32} {v_from : Int32} {v_at : Int32} {v_end : Int32} {v_told : Int32} {v_wrongAt : Int32} {v_culprit : Int32} {v_ran : Int32} {v_isKept : Int32} {x1 : Int32} {post : Int32 → Prop} (h : F_X10_isStretch v_stretches x1 post) : Met l yX10_isStretch (Cond.code yX10_isStretch cX10_isStretch 2 (some (.boolean)) :: GW) (rmd 0 0 0) (PR D cI cJ cS ad adK [.ref a_o, .int x1] (wX10_isStretch cI cJ cS a_o z_refused z_steps z_kind z_space z_other z_times z_speed z_base z_share z_notes z_pitch z_beats z_held z_sort z_size z_shown z_cells z_carried z_words z_tell z_was z_kept z_cutSpace z_cutTimes z_cutOff z_trace v_stretches v_cars v_tunes v_along v_near v_borne v_tempo v_seed v_fault v_from v_at v_end v_told v_wrongAt v_culprit v_ran v_isKept)) (vp_Si post) 0 0 nof := by
  refine Met.ro (by decide) (Nat.le_of_ble_eq_true rfl) (fun p e s m args below meth c ls (S : CallFix p m c cX10_isStretch 2 s args GW "RoadThatSingsModel") hE hT hP hS hr hlocks hl => ?_)
  have hx := S.1
  have hb := S.2.1
  have hl : lv_has ls 2 [(0, .ref a_o), (1, .int x1)] := hl
  unfold F_X10_isStretch at h
  refine lv_iload_n hx hb dX10_isStretch_0 rfl (lv_at hl 1 rfl) ?_
  refine lv_if_lt (tgt := 16) hx hb dX10_isStretch_1 (by decide) (fun hc => ?_) (fun hc => ?_)
  · have h := h.1 hc
    refine lv_iconst (v := 0) hx hb dX10_isStretch_16 (by decide) ?_
    exact W.zret hx hb hr rfl (fun t ht _ => ⟨_, rfl, h, ht⟩) (fun _ hq => by cases hq) dX10_isStretch_17
  have h := h.2 hc
  refine lv_iload_n hx hb dX10_isStretch_4 rfl (lv_at hl 1 rfl) ?_
  refine lv_aload_n hx hb dX10_isStretch_5 rfl (lv_at hl 0 rfl) ?_
  refine gf S hE hP 0 rfl rfl inX10 (k := 0) (by decide) q1093 rfl dX10_isStretch_6 ?_
  refine lv_icmp_ge (tgt := 16) hx hb dX10_isStretch_9 (by decide) (fun hc => ?_) (fun hc => ?_)
  · have h := h.1 hc
    refine lv_iconst (v := 0) hx hb dX10_isStretch_16 (by decide) ?_
    exact W.zret hx hb hr rfl (fun t ht _ => ⟨_, rfl, h, ht⟩) (fun _ hq => by cases hq) dX10_isStretch_17
  have h := h.2 hc
  refine lv_iconst (v := 1) hx hb dX10_isStretch_12 (by decide) ?_
  refine lv_goto (tgt := 17) hx hb dX10_isStretch_13 (by decide) ?_
  exact W.zret hx hb hr rfl (fun t ht _ => ⟨_, rfl, h, ht⟩) (fun _ hq => by cases hq) dX10_isStretch_17
/-! X10_isCar -/
abbrev wX10_isCar (cI cJ cS : ClassId) (a_o : Nat) (z_refused z_steps z_kind z_space z_other z_times z_speed z_base z_share z_notes z_pitch z_beats z_held z_sort z_size z_shown z_cells z_carried z_words z_tell z_was z_kept z_cutSpace z_cutTimes z_cutOff z_trace : Value) (v_stretches : Int32) (v_cars : Int32) (v_tunes : Int32) (v_along : Int32) (v_near : Int32) (v_borne : Int32) (v_tempo : Int32) (v_seed : Int32) (v_fault : Int32) (v_from : Int32) (v_at : Int32) (v_end : Int32) (v_told : Int32) (v_wrongAt : Int32) (v_culprit : Int32) (v_ran : Int32) (v_isKept : Int32) : va_W := [(a_o, .inr (9, [.int v_stretches, .int v_cars, .int v_tunes, .int v_along, .int v_near, .int v_borne, .int v_tempo, .int v_seed, .int v_fault, z_refused, z_steps, z_kind, z_space, z_other, z_times, z_speed, z_base, z_share, z_notes, z_pitch, z_beats, z_held, z_sort, z_size, z_shown, z_cells, z_carried, z_words, z_tell, .int v_from, .int v_at, .int v_end, .int v_told, .int v_wrongAt, z_was, z_kept, .int v_culprit, z_cutSpace, z_cutTimes, z_cutOff, z_trace, .int v_ran, .int v_isKept]))]
def F_X10_isCar (v_cars : Int32) (x1 : Int32) (post : Int32 → Prop) : Prop := ((x1 < 0 → post 0) ∧ (¬ x1 < 0 → ((v_cars ≤ x1 → post 0) ∧ (¬ v_cars ≤ x1 → post 1))))
set_option maxHeartbeats 4000000 in
set_option maxRecDepth 100000 in
theorem c_X10_isCar {l : Launch} {D : va_G} {cI cJ cS : ClassId} {ad adK : Nat → Nat} {a_o : Nat} {z_refused z_steps z_kind z_space z_other z_times z_speed z_base z_share z_notes z_pitch z_beats z_held z_sort z_size z_shown z_cells z_carried z_words z_tell z_was z_kept z_cutSpace z_cutTimes z_cutOff z_trace : Value} {v_stretches : Int32} {v_cars : Int32} {v_tunes : Int32} {v_along : Int32} {v_near : Int32} {v_borne : Int32} {v_tempo : Int32} {v_seed : Int32} {v_fault : Int32} {v_from : Int32} {v_at : Int32} {v_end : Int32} {v_told : Int32} {v_wrongAt : Int32} {v_culprit : Int32} {v_ran : Int32} {v_isKept : Int32} {x1 : Int32} {post : Int32 → Prop} (h : F_X10_isCar v_cars x1 post) : Met l yX10_isCar (Cond.code yX10_isCar cX10_isCar 2 (some (.boolean)) :: GW) (rmd 0 0 0) (PR D cI cJ cS ad adK [.ref a_o, .int x1] (wX10_isCar cI cJ cS a_o z_refused z_steps z_kind z_space z_other z_times z_speed z_base z_share z_notes z_pitch z_beats z_held z_sort z_size z_shown z_cells z_carried z_words z_tell z_was z_kept z_cutSpace z_cutTimes z_cutOff z_trace v_stretches v_cars v_tunes v_along v_near v_borne v_tempo v_seed v_fault v_from v_at v_end v_told v_wrongAt v_culprit v_ran v_isKept)) (vp_Si post) 0 0 nof := by
  refine Met.ro (by decide) (Nat.le_of_ble_eq_true rfl) (fun p e s m args below meth c ls (S : CallFix p m c cX10_isCar 2 s args GW "RoadThatSingsModel") hE hT hP hS hr hlocks hl => ?_)
  have hx := S.1
  have hb := S.2.1
  have hl : lv_has ls 2 [(0, .ref a_o), (1, .int x1)] := hl
  unfold F_X10_isCar at h
  refine lv_iload_n hx hb dX10_isCar_0 rfl (lv_at hl 1 rfl) ?_
  refine lv_if_lt (tgt := 16) hx hb dX10_isCar_1 (by decide) (fun hc => ?_) (fun hc => ?_)
  · have h := h.1 hc
    refine lv_iconst (v := 0) hx hb dX10_isCar_16 (by decide) ?_
    exact W.zret hx hb hr rfl (fun t ht _ => ⟨_, rfl, h, ht⟩) (fun _ hq => by cases hq) dX10_isCar_17
  have h := h.2 hc
  refine lv_iload_n hx hb dX10_isCar_4 rfl (lv_at hl 1 rfl) ?_
  refine lv_aload_n hx hb dX10_isCar_5 rfl (lv_at hl 0 rfl) ?_
  refine gf S hE hP 0 rfl rfl inX10 (k := 1) (by decide) q1094 rfl dX10_isCar_6 ?_
  refine lv_icmp_ge (tgt := 16) hx hb dX10_isCar_9 (by decide) (fun hc => ?_) (fun hc => ?_)
  · have h := h.1 hc
    refine lv_iconst (v := 0) hx hb dX10_isCar_16 (by decide) ?_
    exact W.zret hx hb hr rfl (fun t ht _ => ⟨_, rfl, h, ht⟩) (fun _ hq => by cases hq) dX10_isCar_17
  have h := h.2 hc
  refine lv_iconst (v := 1) hx hb dX10_isCar_12 (by decide) ?_
  refine lv_goto (tgt := 17) hx hb dX10_isCar_13 (by decide) ?_
  exact W.zret hx hb hr rfl (fun t ht _ => ⟨_, rfl, h, ht⟩) (fun _ hq => by cases hq) dX10_isCar_17
/-! X10_isTune -/
abbrev wX10_isTune (cI cJ cS : ClassId) (a_o : Nat) (z_refused z_steps z_kind z_space z_other z_times z_speed z_base z_share z_notes z_pitch z_beats z_held z_sort z_size z_shown z_cells z_carried z_words z_tell z_was z_kept z_cutSpace z_cutTimes z_cutOff z_trace : Value) (v_stretches : Int32) (v_cars : Int32) (v_tunes : Int32) (v_along : Int32) (v_near : Int32) (v_borne : Int32) (v_tempo : Int32) (v_seed : Int32) (v_fault : Int32) (v_from : Int32) (v_at : Int32) (v_end : Int32) (v_told : Int32) (v_wrongAt : Int32) (v_culprit : Int32) (v_ran : Int32) (v_isKept : Int32) : va_W := [(a_o, .inr (9, [.int v_stretches, .int v_cars, .int v_tunes, .int v_along, .int v_near, .int v_borne, .int v_tempo, .int v_seed, .int v_fault, z_refused, z_steps, z_kind, z_space, z_other, z_times, z_speed, z_base, z_share, z_notes, z_pitch, z_beats, z_held, z_sort, z_size, z_shown, z_cells, z_carried, z_words, z_tell, .int v_from, .int v_at, .int v_end, .int v_told, .int v_wrongAt, z_was, z_kept, .int v_culprit, z_cutSpace, z_cutTimes, z_cutOff, z_trace, .int v_ran, .int v_isKept]))]
def F_X10_isTune (v_tunes : Int32) (x1 : Int32) (post : Int32 → Prop) : Prop := ((x1 < 0 → post 0) ∧ (¬ x1 < 0 → ((v_tunes ≤ x1 → post 0) ∧ (¬ v_tunes ≤ x1 → post 1))))
set_option maxHeartbeats 4000000 in
set_option maxRecDepth 100000 in
theorem c_X10_isTune {l : Launch} {D : va_G} {cI cJ cS : ClassId} {ad adK : Nat → Nat} {a_o : Nat} {z_refused z_steps z_kind z_space z_other z_times z_speed z_base z_share z_notes z_pitch z_beats z_held z_sort z_size z_shown z_cells z_carried z_words z_tell z_was z_kept z_cutSpace z_cutTimes z_cutOff z_trace : Value} {v_stretches : Int32} {v_cars : Int32} {v_tunes : Int32} {v_along : Int32} {v_near : Int32} {v_borne : Int32} {v_tempo : Int32} {v_seed : Int32} {v_fault : Int32} {v_from : Int32} {v_at : Int32} {v_end : Int32} {v_told : Int32} {v_wrongAt : Int32} {v_culprit : Int32} {v_ran : Int32} {v_isKept : Int32} {x1 : Int32} {post : Int32 → Prop} (h : F_X10_isTune v_tunes x1 post) : Met l yX10_isTune (Cond.code yX10_isTune cX10_isTune 2 (some (.boolean)) :: GW) (rmd 0 0 0) (PR D cI cJ cS ad adK [.ref a_o, .int x1] (wX10_isTune cI cJ cS a_o z_refused z_steps z_kind z_space z_other z_times z_speed z_base z_share z_notes z_pitch z_beats z_held z_sort z_size z_shown z_cells z_carried z_words z_tell z_was z_kept z_cutSpace z_cutTimes z_cutOff z_trace v_stretches v_cars v_tunes v_along v_near v_borne v_tempo v_seed v_fault v_from v_at v_end v_told v_wrongAt v_culprit v_ran v_isKept)) (vp_Si post) 0 0 nof := by
  refine Met.ro (by decide) (Nat.le_of_ble_eq_true rfl) (fun p e s m args below meth c ls (S : CallFix p m c cX10_isTune 2 s args GW "RoadThatSingsModel") hE hT hP hS hr hlocks hl => ?_)
  have hx := S.1
  have hb := S.2.1
  have hl : lv_has ls 2 [(0, .ref a_o), (1, .int x1)] := hl
  unfold F_X10_isTune at h
  refine lv_iload_n hx hb dX10_isTune_0 rfl (lv_at hl 1 rfl) ?_
  refine lv_if_lt (tgt := 16) hx hb dX10_isTune_1 (by decide) (fun hc => ?_) (fun hc => ?_)
  · have h := h.1 hc
    refine lv_iconst (v := 0) hx hb dX10_isTune_16 (by decide) ?_
    exact W.zret hx hb hr rfl (fun t ht _ => ⟨_, rfl, h, ht⟩) (fun _ hq => by cases hq) dX10_isTune_17
  have h := h.2 hc
  refine lv_iload_n hx hb dX10_isTune_4 rfl (lv_at hl 1 rfl) ?_
  refine lv_aload_n hx hb dX10_isTune_5 rfl (lv_at hl 0 rfl) ?_
  refine gf S hE hP 0 rfl rfl inX10 (k := 2) (by decide) q1095 rfl dX10_isTune_6 ?_
  refine lv_icmp_ge (tgt := 16) hx hb dX10_isTune_9 (by decide) (fun hc => ?_) (fun hc => ?_)
  · have h := h.1 hc
    refine lv_iconst (v := 0) hx hb dX10_isTune_16 (by decide) ?_
    exact W.zret hx hb hr rfl (fun t ht _ => ⟨_, rfl, h, ht⟩) (fun _ hq => by cases hq) dX10_isTune_17
  have h := h.2 hc
  refine lv_iconst (v := 1) hx hb dX10_isTune_12 (by decide) ?_
  refine lv_goto (tgt := 17) hx hb dX10_isTune_13 (by decide) ?_
  exact W.zret hx hb hr rfl (fun t ht _ => ⟨_, rfl, h, ht⟩) (fun _ hq => by cases hq) dX10_isTune_17
/-! X10_isSpeed -/
abbrev wX10_isSpeed (cI cJ cS : ClassId) (a_o : Nat) (z_refused z_steps z_kind z_space z_other z_times z_speed z_base z_share z_notes z_pitch z_beats z_held z_sort z_size z_shown z_cells z_carried z_words z_tell z_was z_kept z_cutSpace z_cutTimes z_cutOff z_trace : Value) (v_stretches : Int32) (v_cars : Int32) (v_tunes : Int32) (v_along : Int32) (v_near : Int32) (v_borne : Int32) (v_tempo : Int32) (v_seed : Int32) (v_fault : Int32) (v_from : Int32) (v_at : Int32) (v_end : Int32) (v_told : Int32) (v_wrongAt : Int32) (v_culprit : Int32) (v_ran : Int32) (v_isKept : Int32) : va_W := [(a_o, .inr (9, [.int v_stretches, .int v_cars, .int v_tunes, .int v_along, .int v_near, .int v_borne, .int v_tempo, .int v_seed, .int v_fault, z_refused, z_steps, z_kind, z_space, z_other, z_times, z_speed, z_base, z_share, z_notes, z_pitch, z_beats, z_held, z_sort, z_size, z_shown, z_cells, z_carried, z_words, z_tell, .int v_from, .int v_at, .int v_end, .int v_told, .int v_wrongAt, z_was, z_kept, .int v_culprit, z_cutSpace, z_cutTimes, z_cutOff, z_trace, .int v_ran, .int v_isKept]))]
def F_X10_isSpeed (x1 : Int32) (post : Int32 → Prop) : Prop := ((x1 < 1 → post 0) ∧ (¬ x1 < 1 → ((99 < x1 → post 0) ∧ (¬ 99 < x1 → post 1))))
set_option maxHeartbeats 4000000 in
set_option maxRecDepth 100000 in
theorem c_X10_isSpeed {l : Launch} {D : va_G} {cI cJ cS : ClassId} {ad adK : Nat → Nat} {a_o : Nat} {z_refused z_steps z_kind z_space z_other z_times z_speed z_base z_share z_notes z_pitch z_beats z_held z_sort z_size z_shown z_cells z_carried z_words z_tell z_was z_kept z_cutSpace z_cutTimes z_cutOff z_trace : Value} {v_stretches : Int32} {v_cars : Int32} {v_tunes : Int32} {v_along : Int32} {v_near : Int32} {v_borne : Int32} {v_tempo : Int32} {v_seed : Int32} {v_fault : Int32} {v_from : Int32} {v_at : Int32} {v_end : Int32} {v_told : Int32} {v_wrongAt : Int32} {v_culprit : Int32} {v_ran : Int32} {v_isKept : Int32} {x1 : Int32} {post : Int32 → Prop} (h : F_X10_isSpeed x1 post) : Met l yX10_isSpeed (Cond.code yX10_isSpeed cX10_isSpeed 2 (some (.boolean)) :: GW) (rmd 0 0 0) (PR D cI cJ cS ad adK [.ref a_o, .int x1] (wX10_isSpeed cI cJ cS a_o z_refused z_steps z_kind z_space z_other z_times z_speed z_base z_share z_notes z_pitch z_beats z_held z_sort z_size z_shown z_cells z_carried z_words z_tell z_was z_kept z_cutSpace z_cutTimes z_cutOff z_trace v_stretches v_cars v_tunes v_along v_near v_borne v_tempo v_seed v_fault v_from v_at v_end v_told v_wrongAt v_culprit v_ran v_isKept)) (vp_Si post) 0 0 nof := by
  refine Met.ro (by decide) (Nat.le_of_ble_eq_true rfl) (fun p e s m args below meth c ls (S : CallFix p m c cX10_isSpeed 2 s args GW "RoadThatSingsModel") hE hT hP hS hr hlocks hl => ?_)
  have hx := S.1
  have hb := S.2.1
  have hl : lv_has ls 2 [(0, .ref a_o), (1, .int x1)] := hl
  unfold F_X10_isSpeed at h
  refine lv_iload_n hx hb dX10_isSpeed_0 rfl (lv_at hl 1 rfl) ?_
  refine lv_iconst (v := 1) hx hb dX10_isSpeed_1 (by decide) ?_
  refine lv_icmp_lt (tgt := 15) hx hb dX10_isSpeed_2 (by decide) (fun hc => ?_) (fun hc => ?_)
  · have h := h.1 hc
    refine lv_iconst (v := 0) hx hb dX10_isSpeed_15 (by decide) ?_
    exact W.zret hx hb hr rfl (fun t ht _ => ⟨_, rfl, h, ht⟩) (fun _ hq => by cases hq) dX10_isSpeed_16
  have h := h.2 hc
  refine lv_iload_n hx hb dX10_isSpeed_5 rfl (lv_at hl 1 rfl) ?_
  refine lv_bipush (v := 99) hx hb dX10_isSpeed_6 (by decide) ?_
  refine lv_icmp_gt (tgt := 15) hx hb dX10_isSpeed_8 (by decide) (fun hc => ?_) (fun hc => ?_)
  · have h := h.1 hc
    refine lv_iconst (v := 0) hx hb dX10_isSpeed_15 (by decide) ?_
    exact W.zret hx hb hr rfl (fun t ht _ => ⟨_, rfl, h, ht⟩) (fun _ hq => by cases hq) dX10_isSpeed_16
  have h := h.2 hc
  refine lv_iconst (v := 1) hx hb dX10_isSpeed_11 (by decide) ?_
  refine lv_goto (tgt := 16) hx hb dX10_isSpeed_12 (by decide) ?_
  exact W.zret hx hb hr rfl (fun t ht _ => ⟨_, rfl, h, ht⟩) (fun _ hq => by cases hq) dX10_isSpeed_16
/-! X10_row -/
abbrev wX10_row (cI cJ cS : ClassId) (a_o a_cells a_held a_refused a_size a_sort : Nat) (z_steps z_kind z_space z_other z_times z_speed z_base z_share z_notes z_pitch z_beats z_shown z_carried z_words z_tell z_was z_kept z_cutSpace z_cutTimes z_cutOff z_trace : Value) (v_stretches : Int32) (v_cars : Int32) (v_tunes : Int32) (v_along : Int32) (v_near : Int32) (v_borne : Int32) (v_tempo : Int32) (v_seed : Int32) (v_fault : Int32) (v_from : Int32) (v_at : Int32) (v_end : Int32) (v_told : Int32) (v_wrongAt : Int32) (v_culprit : Int32) (v_ran : Int32) (v_isKept : Int32) (g_cells : Nat → Int64) (f_held : Nat → Int32) (f_refused : Nat → Int32) (f_size : Nat → Int32) (f_sort : Nat → Int32) : va_W := [(a_o, .inr (9, [.int v_stretches, .int v_cars, .int v_tunes, .int v_along, .int v_near, .int v_borne, .int v_tempo, .int v_seed, .int v_fault, .ref a_refused, z_steps, z_kind, z_space, z_other, z_times, z_speed, z_base, z_share, z_notes, z_pitch, z_beats, .ref a_held, .ref a_sort, .ref a_size, z_shown, .ref a_cells, z_carried, z_words, z_tell, .int v_from, .int v_at, .int v_end, .int v_told, .int v_wrongAt, z_was, z_kept, .int v_culprit, z_cutSpace, z_cutTimes, z_cutOff, z_trace, .int v_ran, .int v_isKept])), (a_cells, .inl (cJ, 1280, .inr (.inl g_cells))), (a_held, .inl (cI, 8, .inl f_held)), (a_refused, .inl (cI, 8, .inl f_refused)), (a_size, .inl (cI, 8, .inl f_size)), (a_sort, .inl (cI, 8, .inl f_sort))]
def L_X10_row_79 (x1 : Int32) (f_held : Nat → Int32) (f_refused : Nat → Int32) (f_size : Nat → Int32) (f_sort : Nat → Int32) (post : Int32 → (Nat → Int64) → (Nat → Int32) → (Nat → Int32) → (Nat → Int32) → (Nat → Int32) → Prop) : Nat → Int32 → (Nat → Int64) → Prop
  | 0, _, _ => False
  | n79 + 1, x4, g_cells => ((160 ≤ x4 → post 1 g_cells f_held f_refused f_size f_sort) ∧ (¬ 160 ≤ x4 → (vp_in ((160 * x1) + x4) 1280 ∧ (∀ x4_101 : Int32, x4_101 = x4 + 1 → L_X10_row_79 x1 f_held f_refused f_size f_sort post n79 x4_101 (vp_updL g_cells ((160 * x1) + x4).toNatClampNeg 0)))))
def F_X10_row (g_cells : Nat → Int64) (f_held : Nat → Int32) (f_refused : Nat → Int32) (f_size : Nat → Int32) (f_sort : Nat → Int32) (x1 : Int32) (x2 : Int32) (x3 : Int32) (post : Int32 → (Nat → Int64) → (Nat → Int32) → (Nat → Int32) → (Nat → Int32) → (Nat → Int32) → Prop) : Prop := (F_X10_isShelf x1 (fun r2 => ((r2 = 0 → (F_X10_no f_refused (-1) (fun r10 w10_0 => post r10 g_cells f_held w10_0 f_size f_sort))) ∧ (¬ r2 = 0 → ((0 ≤ x3 → ((x2 < 0 → (F_X10_no f_refused (-6) (fun r37 w37_0 => post r37 g_cells f_held w37_0 f_size f_sort))) ∧ (¬ x2 < 0 → ((x2 ≤ 3 → ((x3 ≤ 160 → (vp_in x1 8 ∧ (vp_in x1 8 ∧ (vp_in x1 8 ∧ (∃ n79 : Nat, L_X10_row_79 x1 (upd f_held x1.toNatClampNeg 1) f_refused (upd f_size x1.toNatClampNeg x3) (upd f_sort x1.toNatClampNeg x2) post n79 0 g_cells))))) ∧ (¬ x3 ≤ 160 → (F_X10_no f_refused (-7) (fun r51 w51_0 => post r51 g_cells f_held w51_0 f_size f_sort))))) ∧ (¬ x2 ≤ 3 → (F_X10_no f_refused (-6) (fun r37 w37_0 => post r37 g_cells f_held w37_0 f_size f_sort))))))) ∧ (¬ 0 ≤ x3 → (F_X10_no f_refused (-4) (fun r21 w21_0 => post r21 g_cells f_held w21_0 f_size f_sort))))))))
set_option maxHeartbeats 4000000 in
set_option maxRecDepth 100000 in
theorem w_X10_row_79 {l : Launch} {D : va_G} {cI cJ cS : ClassId} {ad adK : Nat → Nat} {a_o a_cells a_held a_refused a_size a_sort : Nat} {z_steps z_kind z_space z_other z_times z_speed z_base z_share z_notes z_pitch z_beats z_shown z_carried z_words z_tell z_was z_kept z_cutSpace z_cutTimes z_cutOff z_trace : Value} {v_stretches : Int32} {v_cars : Int32} {v_tunes : Int32} {v_along : Int32} {v_near : Int32} {v_borne : Int32} {v_tempo : Int32} {v_seed : Int32} {v_fault : Int32} {v_from : Int32} {v_at : Int32} {v_end : Int32} {v_told : Int32} {v_wrongAt : Int32} {v_culprit : Int32} {v_ran : Int32} {v_isKept : Int32} {f_held : Nat → Int32} {f_refused : Nat → Int32} {f_size : Nat → Int32} {f_sort : Nat → Int32} {x1 : Int32} {post : Int32 → (Nat → Int64) → (Nat → Int32) → (Nat → Int32) → (Nat → Int32) → (Nat → Int32) → Prop} {p : Program} {e : Env} {s : State} {m : MethodId} {args : Array Value} {below : List Frame} {meth : Method} {c : Code} {A : Nat → Prop} (S : CallFix p m c cX10_row 5 s args GW "RoadThatSingsModel") (hE : EN D cI cJ cS s) (hT : ST ad adK A s s.heap) (hA : ∀ q : Nat, s.heap.size ≤ q → A q) (hr : meth.sig.returnType = (some (.int))) (hlocks : meth.locks = false) : ∀ n : Nat, ∀ (x4 : Int32) (g_cells : Nat → Int64) (H : Heap) (locs : List Loc) (ls : Array Slot), L_X10_row_79 x1 f_held f_refused f_size f_sort post n x4 g_cells → va_P D vwCl (wX10_row cI cJ cS a_o a_cells a_held a_refused a_size a_sort z_steps z_kind z_space z_other z_times z_speed z_base z_share z_notes z_pitch z_beats z_shown z_carried z_words z_tell z_was z_kept z_cutSpace z_cutTimes z_cutOff z_trace v_stretches v_cars v_tunes v_along v_near v_borne v_tempo v_seed v_fault v_from v_at v_end v_told v_wrongAt v_culprit v_ran v_isKept g_cells f_held f_refused f_size f_sort) H → va_D A (wX10_row cI cJ cS a_o a_cells a_held a_refused a_size a_sort z_steps z_kind z_space z_other z_times z_speed z_base z_share z_notes z_pitch z_beats z_shown z_carried z_words z_tell z_was z_kept z_cutSpace z_cutTimes z_cutOff z_trace v_stretches v_cars v_tunes v_along v_near v_borne v_tempo v_seed v_fault v_from v_at v_end v_told v_wrongAt v_culprit v_ran v_isKept g_cells f_held f_refused f_size f_sort) → va_S A s.heap H locs → lv_has ls 5 [(0, .ref a_o), (1, .int x1), (4, .int x4)] → W p l e (rmd 1 0 0) s m args below meth c H locs 0 0 (MQ below (va_Qi (fun r (u : (Nat → Int64) × (Nat → Int32) × (Nat → Int32) × (Nat → Int32) × (Nat → Int32)) => post r u.1 u.2.1 u.2.2.1 u.2.2.2.1 u.2.2.2.2) (fun u t => va_P D vwCl (wX10_row cI cJ cS a_o a_cells a_held a_refused a_size a_sort z_steps z_kind z_space z_other z_times z_speed z_base z_share z_notes z_pitch z_beats z_shown z_carried z_words z_tell z_was z_kept z_cutSpace z_cutTimes z_cutOff z_trace v_stretches v_cars v_tunes v_along v_near v_borne v_tempo v_seed v_fault v_from v_at v_end v_told v_wrongAt v_culprit v_ran v_isKept u.1 u.2.1 u.2.2.1 u.2.2.2.1 u.2.2.2.2) t.heap) A) args s 0 0 A) (F0 m 79 ls []) := by
  intro n
  induction n with
  | zero =>
    intro x4 g_cells H locs ls h hP hD hS hl
    exact h.elim
  | succ n ih =>
    intro x4 g_cells H locs ls h hP hD hS hl
    rw [L_X10_row_79] at h
    have hx := S.1
    have hb := S.2.1
    refine lv_iload hx hb dX10_row_79 (lv_at hl 2 rfl) ?_
    refine lv_sipush (v := 160) hx hb dX10_row_81 (by decide) ?_
    refine lv_icmp_ge (tgt := 107) hx hb dX10_row_84 (by decide) (fun hc => ?_) (fun hc => ?_)
    · have h := h.1 hc
      refine lv_iconst (v := 1) hx hb dX10_row_107 (by decide) ?_
      exact W.iret hx hb hr (fun t ht _ => ⟨⟨_, (g_cells, f_held, f_refused, f_size, f_sort), rfl, h, hPt hP ht⟩, hS.F ht⟩) hS.2.2 dX10_row_108
    have h := h.2 hc
    refine lv_aload_n hx hb dX10_row_87 rfl (lv_at hl 0 rfl) ?_
    refine gf S hE hP 0 rfl rfl inX10 (k := 25) (by decide) q1118 rfl dX10_row_88 ?_
    refine lv_sipush (v := 160) hx hb dX10_row_91 (by decide) ?_
    refine lv_iload_n hx hb dX10_row_94 rfl (lv_at hl 1 rfl) ?_
    refine lv_imul hx hb dX10_row_95 ?_
    refine lv_iload hx hb dX10_row_96 (lv_at hl 2 rfl) ?_
    refine lv_iadd hx hb dX10_row_98 ?_
    refine lv_lconst (v := 0) hx hb dX10_row_99 (by decide) ?_
    obtain ⟨hi, h⟩ := h
    refine las S hE hP hD hS 1 rfl hi dX10_row_100 (fun H locs hP hD hS => ?_)
    have hP : va_P D vwCl (wX10_row cI cJ cS a_o a_cells a_held a_refused a_size a_sort z_steps z_kind z_space z_other z_times z_speed z_base z_share z_notes z_pitch z_beats z_shown z_carried z_words z_tell z_was z_kept z_cutSpace z_cutTimes z_cutOff z_trace v_stretches v_cars v_tunes v_along v_near v_borne v_tempo v_seed v_fault v_from v_at v_end v_told v_wrongAt v_culprit v_ran v_isKept (vp_updL g_cells ((160 * x1) + x4).toNatClampNeg 0) f_held f_refused f_size f_sort) H := hP
    have hD : va_D A (wX10_row cI cJ cS a_o a_cells a_held a_refused a_size a_sort z_steps z_kind z_space z_other z_times z_speed z_base z_share z_notes z_pitch z_beats z_shown z_carried z_words z_tell z_was z_kept z_cutSpace z_cutTimes z_cutOff z_trace v_stretches v_cars v_tunes v_along v_near v_borne v_tempo v_seed v_fault v_from v_at v_end v_told v_wrongAt v_culprit v_ran v_isKept (vp_updL g_cells ((160 * x1) + x4).toNatClampNeg 0) f_held f_refused f_size f_sort) := hD
    obtain ⟨x4_101, ex4_101⟩ : ∃ z : Int32, z = x4 + 1 := ⟨_, rfl⟩
    have h := h _ ex4_101
    refine lv_iinc (v := x4_101) (lv' := [(4, .int x4_101), (0, .ref a_o), (1, .int x1)]) hx hb dX10_row_101 hl (k := 2) rfl (by rw [ex4_101]; rfl) (by decide) rfl (fun ls hl => ?_)
    refine lv_goto (tgt := 79) hx hb dX10_row_104 (by decide) ?_
    exact ih _ _ _ _ _ h hP hD hS (lv_sub hl [1, 2, 0] rfl)
set_option maxHeartbeats 4000000 in
set_option maxRecDepth 100000 in
theorem c_X10_row {l : Launch} {D : va_G} {cI cJ cS : ClassId} {ad adK : Nat → Nat} {a_o a_cells a_held a_refused a_size a_sort : Nat} {z_steps z_kind z_space z_other z_times z_speed z_base z_share z_notes z_pitch z_beats z_shown z_carried z_words z_tell z_was z_kept z_cutSpace z_cutTimes z_cutOff z_trace : Value} {v_stretches : Int32} {v_cars : Int32} {v_tunes : Int32} {v_along : Int32} {v_near : Int32} {v_borne : Int32} {v_tempo : Int32} {v_seed : Int32} {v_fault : Int32} {v_from : Int32} {v_at : Int32} {v_end : Int32} {v_told : Int32} {v_wrongAt : Int32} {v_culprit : Int32} {v_ran : Int32} {v_isKept : Int32} {g_cells : Nat → Int64} {f_held : Nat → Int32} {f_refused : Nat → Int32} {f_size : Nat → Int32} {f_sort : Nat → Int32} {x1 : Int32} {x2 : Int32} {x3 : Int32} {post : Int32 → (Nat → Int64) → (Nat → Int32) → (Nat → Int32) → (Nat → Int32) → (Nat → Int32) → Prop} (h : F_X10_row g_cells f_held f_refused f_size f_sort x1 x2 x3 post) {sz : Nat} : Met l yX10_row (Cond.code yX10_row cX10_row 5 (some (.int)) :: GW) (rmd 1 0 0) (PW D cI cJ cS ad adK [.ref a_o, .int x1, .int x2, .int x3] (wX10_row cI cJ cS a_o a_cells a_held a_refused a_size a_sort z_steps z_kind z_space z_other z_times z_speed z_base z_share z_notes z_pitch z_beats z_shown z_carried z_words z_tell z_was z_kept z_cutSpace z_cutTimes z_cutOff z_trace v_stretches v_cars v_tunes v_along v_near v_borne v_tempo v_seed v_fault v_from v_at v_end v_told v_wrongAt v_culprit v_ran v_isKept g_cells f_held f_refused f_size f_sort) sz) (va_Qi (fun r (u : (Nat → Int64) × (Nat → Int32) × (Nat → Int32) × (Nat → Int32) × (Nat → Int32)) => post r u.1 u.2.1 u.2.2.1 u.2.2.2.1 u.2.2.2.2) (fun u t => va_P D vwCl (wX10_row cI cJ cS a_o a_cells a_held a_refused a_size a_sort z_steps z_kind z_space z_other z_times z_speed z_base z_share z_notes z_pitch z_beats z_shown z_carried z_words z_tell z_was z_kept z_cutSpace z_cutTimes z_cutOff z_trace v_stretches v_cars v_tunes v_along v_near v_borne v_tempo v_seed v_fault v_from v_at v_end v_told v_wrongAt v_culprit v_ran v_isKept u.1 u.2.1 u.2.2.1 u.2.2.2.1 u.2.2.2.2) t.heap) (va_A (wX10_row cI cJ cS a_o a_cells a_held a_refused a_size a_sort z_steps z_kind z_space z_other z_times z_speed z_base z_share z_notes z_pitch z_beats z_shown z_carried z_words z_tell z_was z_kept z_cutSpace z_cutTimes z_cutOff z_trace v_stretches v_cars v_tunes v_along v_near v_borne v_tempo v_seed v_fault v_from v_at v_end v_told v_wrongAt v_culprit v_ran v_isKept g_cells f_held f_refused f_size f_sort) sz)) 0 0 (va_A (wX10_row cI cJ cS a_o a_cells a_held a_refused a_size a_sort z_steps z_kind z_space z_other z_times z_speed z_base z_share z_notes z_pitch z_beats z_shown z_carried z_words z_tell z_was z_kept z_cutSpace z_cutTimes z_cutOff z_trace v_stretches v_cars v_tunes v_along v_near v_borne v_tempo v_seed v_fault v_from v_at v_end v_told v_wrongAt v_culprit v_ran v_isKept g_cells f_held f_refused f_size f_sort) sz) := by
  refine Met.rw (Qc := fun A => (va_Qi (fun r (u : (Nat → Int64) × (Nat → Int32) × (Nat → Int32) × (Nat → Int32) × (Nat → Int32)) => post r u.1 u.2.1 u.2.2.1 u.2.2.2.1 u.2.2.2.2) (fun u t => va_P D vwCl (wX10_row cI cJ cS a_o a_cells a_held a_refused a_size a_sort z_steps z_kind z_space z_other z_times z_speed z_base z_share z_notes z_pitch z_beats z_shown z_carried z_words z_tell z_was z_kept z_cutSpace z_cutTimes z_cutOff z_trace v_stretches v_cars v_tunes v_along v_near v_borne v_tempo v_seed v_fault v_from v_at v_end v_told v_wrongAt v_culprit v_ran v_isKept u.1 u.2.1 u.2.2.1 u.2.2.2.1 u.2.2.2.2) t.heap) A)) (by decide) (Nat.le_of_ble_eq_true rfl) (fun p e s m args below meth c ls A (S : CallFix p m c cX10_row 5 s args GW "RoadThatSingsModel") hE hT hP hD hA hS hr hlocks hname hl => ?_)
  have hS0 := hS
  have hx := S.1
  have hb := S.2.1
  have hl : lv_has ls 5 [(0, .ref a_o), (1, .int x1), (2, .int x2), (3, .int x3)] := hl
  unfold F_X10_row at h
  refine lv_aload_n hx hb dX10_row_0 rfl (lv_at hl 0 rfl) ?_
  refine lv_iload_n hx hb dX10_row_1 rfl (lv_at hl 1 rfl) ?_
  refine ro_i (roV S hE hT hS (c_X10_isShelf h) lkX10_117 rfl ⟨(Nat.le_of_ble_eq_true rfl), (Nat.le_of_ble_eq_true rfl)⟩ (hP.sub [0] rfl) 0 rfl rfl hl.1 rfl (Nat.le_of_ble_eq_true rfl) dX10_row_2 ⟨(Nat.zero_le _), (Nat.zero_le _)⟩) (fun r2 h => ?_)
  refine lv_if_ne (tgt := 14) hx hb dX10_row_5 (by decide) (fun hc => ?_) (fun hc => ?_)
  · have h := h.2 hc
    refine lv_iload_n hx hb dX10_row_14 rfl (lv_at hl 3 rfl) ?_
    refine lv_if_ge (tgt := 25) hx hb dX10_row_15 (by decide) (fun hc => ?_) (fun hc => ?_)
    · have h := h.1 hc
      refine lv_iload_n hx hb dX10_row_25 rfl (lv_at hl 2 rfl) ?_
      refine lv_if_lt (tgt := 34) hx hb dX10_row_26 (by decide) (fun hc => ?_) (fun hc => ?_)
      · have h := h.1 hc
        refine lv_aload_n hx hb dX10_row_34 rfl (lv_at hl 0 rfl) ?_
        refine lv_bipush (v := (-6)) hx hb dX10_row_35 (by decide) ?_
        refine rw_i (rwV S hE hT hS hP hD hA (c_X10_no h) [0, 3] rfl (by decide) lkX10_121 rfl ⟨(Nat.le_of_ble_eq_true rfl), (Nat.le_of_ble_eq_true rfl)⟩ 0 rfl rfl hl.1 rfl (Nat.le_of_ble_eq_true rfl) dX10_row_37 ⟨(Nat.zero_le _), (Nat.zero_le _)⟩) hP hD hS hA [0, 3] rfl (by decide) (fun _ => rfl) (fun r37 w37_0 H locs h hP hD hS => ?_)
        try dsimp only at h
        have hP : va_P D vwCl (wX10_row cI cJ cS a_o a_cells a_held a_refused a_size a_sort z_steps z_kind z_space z_other z_times z_speed z_base z_share z_notes z_pitch z_beats z_shown z_carried z_words z_tell z_was z_kept z_cutSpace z_cutTimes z_cutOff z_trace v_stretches v_cars v_tunes v_along v_near v_borne v_tempo v_seed v_fault v_from v_at v_end v_told v_wrongAt v_culprit v_ran v_isKept g_cells f_held w37_0 f_size f_sort) H := hP
        have hD : va_D A (wX10_row cI cJ cS a_o a_cells a_held a_refused a_size a_sort z_steps z_kind z_space z_other z_times z_speed z_base z_share z_notes z_pitch z_beats z_shown z_carried z_words z_tell z_was z_kept z_cutSpace z_cutTimes z_cutOff z_trace v_stretches v_cars v_tunes v_along v_near v_borne v_tempo v_seed v_fault v_from v_at v_end v_told v_wrongAt v_culprit v_ran v_isKept g_cells f_held w37_0 f_size f_sort) := hD
        exact W.iret hx hb hr (fun t ht _ => ⟨⟨_, (g_cells, f_held, w37_0, f_size, f_sort), rfl, h, hPt hP ht⟩, hS.F ht⟩) hS.2.2 dX10_row_40
      have h := h.2 hc
      refine lv_iload_n hx hb dX10_row_29 rfl (lv_at hl 2 rfl) ?_
      refine lv_iconst (v := 3) hx hb dX10_row_30 (by decide) ?_
      refine lv_icmp_le (tgt := 41) hx hb dX10_row_31 (by decide) (fun hc => ?_) (fun hc => ?_)
      · have h := h.1 hc
        refine lv_iload_n hx hb dX10_row_41 rfl (lv_at hl 3 rfl) ?_
        refine lv_sipush (v := 160) hx hb dX10_row_42 (by decide) ?_
        refine lv_icmp_le (tgt := 55) hx hb dX10_row_45 (by decide) (fun hc => ?_) (fun hc => ?_)
        · have h := h.1 hc
          refine lv_aload_n hx hb dX10_row_55 rfl (lv_at hl 0 rfl) ?_
          refine gf S hE hP 0 rfl rfl inX10 (k := 21) (by decide) q1114 rfl dX10_row_56 ?_
          refine lv_iload_n hx hb dX10_row_59 rfl (lv_at hl 1 rfl) ?_
          refine lv_iconst (v := 1) hx hb dX10_row_60 (by decide) ?_
          obtain ⟨hi, h⟩ := h
          refine ias S hE hP hD hS 2 rfl hi dX10_row_61 (fun H locs hP hD hS => ?_)
          have hP : va_P D vwCl (wX10_row cI cJ cS a_o a_cells a_held a_refused a_size a_sort z_steps z_kind z_space z_other z_times z_speed z_base z_share z_notes z_pitch z_beats z_shown z_carried z_words z_tell z_was z_kept z_cutSpace z_cutTimes z_cutOff z_trace v_stretches v_cars v_tunes v_along v_near v_borne v_tempo v_seed v_fault v_from v_at v_end v_told v_wrongAt v_culprit v_ran v_isKept g_cells (upd f_held x1.toNatClampNeg 1) f_refused f_size f_sort) H := hP
          have hD : va_D A (wX10_row cI cJ cS a_o a_cells a_held a_refused a_size a_sort z_steps z_kind z_space z_other z_times z_speed z_base z_share z_notes z_pitch z_beats z_shown z_carried z_words z_tell z_was z_kept z_cutSpace z_cutTimes z_cutOff z_trace v_stretches v_cars v_tunes v_along v_near v_borne v_tempo v_seed v_fault v_from v_at v_end v_told v_wrongAt v_culprit v_ran v_isKept g_cells (upd f_held x1.toNatClampNeg 1) f_refused f_size f_sort) := hD
          refine lv_aload_n hx hb dX10_row_62 rfl (lv_at hl 0 rfl) ?_
          refine gf S hE hP 0 rfl rfl inX10 (k := 22) (by decide) q1115 rfl dX10_row_63 ?_
          refine lv_iload_n hx hb dX10_row_66 rfl (lv_at hl 1 rfl) ?_
          refine lv_iload_n hx hb dX10_row_67 rfl (lv_at hl 2 rfl) ?_
          obtain ⟨hi, h⟩ := h
          refine ias S hE hP hD hS 5 rfl hi dX10_row_68 (fun H locs hP hD hS => ?_)
          have hP : va_P D vwCl (wX10_row cI cJ cS a_o a_cells a_held a_refused a_size a_sort z_steps z_kind z_space z_other z_times z_speed z_base z_share z_notes z_pitch z_beats z_shown z_carried z_words z_tell z_was z_kept z_cutSpace z_cutTimes z_cutOff z_trace v_stretches v_cars v_tunes v_along v_near v_borne v_tempo v_seed v_fault v_from v_at v_end v_told v_wrongAt v_culprit v_ran v_isKept g_cells (upd f_held x1.toNatClampNeg 1) f_refused f_size (upd f_sort x1.toNatClampNeg x2)) H := hP
          have hD : va_D A (wX10_row cI cJ cS a_o a_cells a_held a_refused a_size a_sort z_steps z_kind z_space z_other z_times z_speed z_base z_share z_notes z_pitch z_beats z_shown z_carried z_words z_tell z_was z_kept z_cutSpace z_cutTimes z_cutOff z_trace v_stretches v_cars v_tunes v_along v_near v_borne v_tempo v_seed v_fault v_from v_at v_end v_told v_wrongAt v_culprit v_ran v_isKept g_cells (upd f_held x1.toNatClampNeg 1) f_refused f_size (upd f_sort x1.toNatClampNeg x2)) := hD
          refine lv_aload_n hx hb dX10_row_69 rfl (lv_at hl 0 rfl) ?_
          refine gf S hE hP 0 rfl rfl inX10 (k := 23) (by decide) q1116 rfl dX10_row_70 ?_
          refine lv_iload_n hx hb dX10_row_73 rfl (lv_at hl 1 rfl) ?_
          refine lv_iload_n hx hb dX10_row_74 rfl (lv_at hl 3 rfl) ?_
          obtain ⟨hi, h⟩ := h
          refine ias S hE hP hD hS 4 rfl hi dX10_row_75 (fun H locs hP hD hS => ?_)
          have hP : va_P D vwCl (wX10_row cI cJ cS a_o a_cells a_held a_refused a_size a_sort z_steps z_kind z_space z_other z_times z_speed z_base z_share z_notes z_pitch z_beats z_shown z_carried z_words z_tell z_was z_kept z_cutSpace z_cutTimes z_cutOff z_trace v_stretches v_cars v_tunes v_along v_near v_borne v_tempo v_seed v_fault v_from v_at v_end v_told v_wrongAt v_culprit v_ran v_isKept g_cells (upd f_held x1.toNatClampNeg 1) f_refused (upd f_size x1.toNatClampNeg x3) (upd f_sort x1.toNatClampNeg x2)) H := hP
          have hD : va_D A (wX10_row cI cJ cS a_o a_cells a_held a_refused a_size a_sort z_steps z_kind z_space z_other z_times z_speed z_base z_share z_notes z_pitch z_beats z_shown z_carried z_words z_tell z_was z_kept z_cutSpace z_cutTimes z_cutOff z_trace v_stretches v_cars v_tunes v_along v_near v_borne v_tempo v_seed v_fault v_from v_at v_end v_told v_wrongAt v_culprit v_ran v_isKept g_cells (upd f_held x1.toNatClampNeg 1) f_refused (upd f_size x1.toNatClampNeg x3) (upd f_sort x1.toNatClampNeg x2)) := hD
          refine lv_iconst (v := 0) hx hb dX10_row_76 (by decide) ?_
          refine lv_istore (lv' := [(4, .int 0), (0, .ref a_o), (1, .int x1), (2, .int x2), (3, .int x3)]) hx hb dX10_row_77 hl (by decide) rfl (fun ls hl => ?_)
          obtain ⟨n, h⟩ := h
          refine w_X10_row_79 S hE hT hA hr hlocks n _ _ _ _ _ h hP hD hS (lv_sub hl [1, 2, 0] rfl)
        have h := h.2 hc
        refine lv_aload_n hx hb dX10_row_48 rfl (lv_at hl 0 rfl) ?_
        refine lv_bipush (v := (-7)) hx hb dX10_row_49 (by decide) ?_
        refine rw_i (rwV S hE hT hS hP hD hA (c_X10_no h) [0, 3] rfl (by decide) lkX10_121 rfl ⟨(Nat.le_of_ble_eq_true rfl), (Nat.le_of_ble_eq_true rfl)⟩ 0 rfl rfl hl.1 rfl (Nat.le_of_ble_eq_true rfl) dX10_row_51 ⟨(Nat.zero_le _), (Nat.zero_le _)⟩) hP hD hS hA [0, 3] rfl (by decide) (fun _ => rfl) (fun r51 w51_0 H locs h hP hD hS => ?_)
        try dsimp only at h
        have hP : va_P D vwCl (wX10_row cI cJ cS a_o a_cells a_held a_refused a_size a_sort z_steps z_kind z_space z_other z_times z_speed z_base z_share z_notes z_pitch z_beats z_shown z_carried z_words z_tell z_was z_kept z_cutSpace z_cutTimes z_cutOff z_trace v_stretches v_cars v_tunes v_along v_near v_borne v_tempo v_seed v_fault v_from v_at v_end v_told v_wrongAt v_culprit v_ran v_isKept g_cells f_held w51_0 f_size f_sort) H := hP
        have hD : va_D A (wX10_row cI cJ cS a_o a_cells a_held a_refused a_size a_sort z_steps z_kind z_space z_other z_times z_speed z_base z_share z_notes z_pitch z_beats z_shown z_carried z_words z_tell z_was z_kept z_cutSpace z_cutTimes z_cutOff z_trace v_stretches v_cars v_tunes v_along v_near v_borne v_tempo v_seed v_fault v_from v_at v_end v_told v_wrongAt v_culprit v_ran v_isKept g_cells f_held w51_0 f_size f_sort) := hD
        exact W.iret hx hb hr (fun t ht _ => ⟨⟨_, (g_cells, f_held, w51_0, f_size, f_sort), rfl, h, hPt hP ht⟩, hS.F ht⟩) hS.2.2 dX10_row_54
      have h := h.2 hc
      refine lv_aload_n hx hb dX10_row_34 rfl (lv_at hl 0 rfl) ?_
      refine lv_bipush (v := (-6)) hx hb dX10_row_35 (by decide) ?_
      refine rw_i (rwV S hE hT hS hP hD hA (c_X10_no h) [0, 3] rfl (by decide) lkX10_121 rfl ⟨(Nat.le_of_ble_eq_true rfl), (Nat.le_of_ble_eq_true rfl)⟩ 0 rfl rfl hl.1 rfl (Nat.le_of_ble_eq_true rfl) dX10_row_37 ⟨(Nat.zero_le _), (Nat.zero_le _)⟩) hP hD hS hA [0, 3] rfl (by decide) (fun _ => rfl) (fun r37 w37_0 H locs h hP hD hS => ?_)
      try dsimp only at h
      have hP : va_P D vwCl (wX10_row cI cJ cS a_o a_cells a_held a_refused a_size a_sort z_steps z_kind z_space z_other z_times z_speed z_base z_share z_notes z_pitch z_beats z_shown z_carried z_words z_tell z_was z_kept z_cutSpace z_cutTimes z_cutOff z_trace v_stretches v_cars v_tunes v_along v_near v_borne v_tempo v_seed v_fault v_from v_at v_end v_told v_wrongAt v_culprit v_ran v_isKept g_cells f_held w37_0 f_size f_sort) H := hP
      have hD : va_D A (wX10_row cI cJ cS a_o a_cells a_held a_refused a_size a_sort z_steps z_kind z_space z_other z_times z_speed z_base z_share z_notes z_pitch z_beats z_shown z_carried z_words z_tell z_was z_kept z_cutSpace z_cutTimes z_cutOff z_trace v_stretches v_cars v_tunes v_along v_near v_borne v_tempo v_seed v_fault v_from v_at v_end v_told v_wrongAt v_culprit v_ran v_isKept g_cells f_held w37_0 f_size f_sort) := hD
      exact W.iret hx hb hr (fun t ht _ => ⟨⟨_, (g_cells, f_held, w37_0, f_size, f_sort), rfl, h, hPt hP ht⟩, hS.F ht⟩) hS.2.2 dX10_row_40
    have h := h.2 hc
    refine lv_aload_n hx hb dX10_row_18 rfl (lv_at hl 0 rfl) ?_
    refine lv_bipush (v := (-4)) hx hb dX10_row_19 (by decide) ?_
    refine rw_i (rwV S hE hT hS hP hD hA (c_X10_no h) [0, 3] rfl (by decide) lkX10_121 rfl ⟨(Nat.le_of_ble_eq_true rfl), (Nat.le_of_ble_eq_true rfl)⟩ 0 rfl rfl hl.1 rfl (Nat.le_of_ble_eq_true rfl) dX10_row_21 ⟨(Nat.zero_le _), (Nat.zero_le _)⟩) hP hD hS hA [0, 3] rfl (by decide) (fun _ => rfl) (fun r21 w21_0 H locs h hP hD hS => ?_)
    try dsimp only at h
    have hP : va_P D vwCl (wX10_row cI cJ cS a_o a_cells a_held a_refused a_size a_sort z_steps z_kind z_space z_other z_times z_speed z_base z_share z_notes z_pitch z_beats z_shown z_carried z_words z_tell z_was z_kept z_cutSpace z_cutTimes z_cutOff z_trace v_stretches v_cars v_tunes v_along v_near v_borne v_tempo v_seed v_fault v_from v_at v_end v_told v_wrongAt v_culprit v_ran v_isKept g_cells f_held w21_0 f_size f_sort) H := hP
    have hD : va_D A (wX10_row cI cJ cS a_o a_cells a_held a_refused a_size a_sort z_steps z_kind z_space z_other z_times z_speed z_base z_share z_notes z_pitch z_beats z_shown z_carried z_words z_tell z_was z_kept z_cutSpace z_cutTimes z_cutOff z_trace v_stretches v_cars v_tunes v_along v_near v_borne v_tempo v_seed v_fault v_from v_at v_end v_told v_wrongAt v_culprit v_ran v_isKept g_cells f_held w21_0 f_size f_sort) := hD
    exact W.iret hx hb hr (fun t ht _ => ⟨⟨_, (g_cells, f_held, w21_0, f_size, f_sort), rfl, h, hPt hP ht⟩, hS.F ht⟩) hS.2.2 dX10_row_24
  have h := h.1 hc
  refine lv_aload_n hx hb dX10_row_8 rfl (lv_at hl 0 rfl) ?_
  refine lv_iconst (v := (-1)) hx hb dX10_row_9 (by decide) ?_
  refine rw_i (rwV S hE hT hS hP hD hA (c_X10_no h) [0, 3] rfl (by decide) lkX10_121 rfl ⟨(Nat.le_of_ble_eq_true rfl), (Nat.le_of_ble_eq_true rfl)⟩ 0 rfl rfl hl.1 rfl (Nat.le_of_ble_eq_true rfl) dX10_row_10 ⟨(Nat.zero_le _), (Nat.zero_le _)⟩) hP hD hS hA [0, 3] rfl (by decide) (fun _ => rfl) (fun r10 w10_0 H locs h hP hD hS => ?_)
  try dsimp only at h
  have hP : va_P D vwCl (wX10_row cI cJ cS a_o a_cells a_held a_refused a_size a_sort z_steps z_kind z_space z_other z_times z_speed z_base z_share z_notes z_pitch z_beats z_shown z_carried z_words z_tell z_was z_kept z_cutSpace z_cutTimes z_cutOff z_trace v_stretches v_cars v_tunes v_along v_near v_borne v_tempo v_seed v_fault v_from v_at v_end v_told v_wrongAt v_culprit v_ran v_isKept g_cells f_held w10_0 f_size f_sort) H := hP
  have hD : va_D A (wX10_row cI cJ cS a_o a_cells a_held a_refused a_size a_sort z_steps z_kind z_space z_other z_times z_speed z_base z_share z_notes z_pitch z_beats z_shown z_carried z_words z_tell z_was z_kept z_cutSpace z_cutTimes z_cutOff z_trace v_stretches v_cars v_tunes v_along v_near v_borne v_tempo v_seed v_fault v_from v_at v_end v_told v_wrongAt v_culprit v_ran v_isKept g_cells f_held w10_0 f_size f_sort) := hD
  exact W.iret hx hb hr (fun t ht _ => ⟨⟨_, (g_cells, f_held, w10_0, f_size, f_sort), rfl, h, hPt hP ht⟩, hS.F ht⟩) hS.2.2 dX10_row_13
/-! X10_set -/
abbrev wX10_set (cI cJ cS : ClassId) (a_o a_cells a_held a_refused a_size a_sort : Nat) (z_steps z_kind z_space z_other z_times z_speed z_base z_share z_notes z_pitch z_beats z_shown z_carried z_words z_tell z_was z_kept z_cutSpace z_cutTimes z_cutOff z_trace : Value) (v_stretches : Int32) (v_cars : Int32) (v_tunes : Int32) (v_along : Int32) (v_near : Int32) (v_borne : Int32) (v_tempo : Int32) (v_seed : Int32) (v_fault : Int32) (v_from : Int32) (v_at : Int32) (v_end : Int32) (v_told : Int32) (v_wrongAt : Int32) (v_culprit : Int32) (v_ran : Int32) (v_isKept : Int32) (g_cells : Nat → Int64) (f_held : Nat → Int32) (f_refused : Nat → Int32) (f_size : Nat → Int32) (f_sort : Nat → Int32) : va_W := [(a_o, .inr (9, [.int v_stretches, .int v_cars, .int v_tunes, .int v_along, .int v_near, .int v_borne, .int v_tempo, .int v_seed, .int v_fault, .ref a_refused, z_steps, z_kind, z_space, z_other, z_times, z_speed, z_base, z_share, z_notes, z_pitch, z_beats, .ref a_held, .ref a_sort, .ref a_size, z_shown, .ref a_cells, z_carried, z_words, z_tell, .int v_from, .int v_at, .int v_end, .int v_told, .int v_wrongAt, z_was, z_kept, .int v_culprit, z_cutSpace, z_cutTimes, z_cutOff, z_trace, .int v_ran, .int v_isKept])), (a_cells, .inl (cJ, 1280, .inr (.inl g_cells))), (a_held, .inl (cI, 8, .inl f_held)), (a_refused, .inl (cI, 8, .inl f_refused)), (a_size, .inl (cI, 8, .inl f_size)), (a_sort, .inl (cI, 8, .inl f_sort))]
def F_X10_set (g_cells : Nat → Int64) (f_held : Nat → Int32) (f_refused : Nat → Int32) (f_size : Nat → Int32) (f_sort : Nat → Int32) (x1 : Int32) (x2 : Int32) (y3 : Int64) (post : Int32 → (Nat → Int64) → (Nat → Int32) → Prop) : Prop := (F_X10_isShelf x1 (fun r2 => ((r2 = 0 → (F_X10_no f_refused (-1) (fun r10 w10_0 => post r10 g_cells w10_0))) ∧ (¬ r2 = 0 → (vp_in x1 8 ∧ (((f_held x1.toNatClampNeg) = 2 → (F_X10_no f_refused (-2) (fun r27 w27_0 => post r27 g_cells w27_0))) ∧ (¬ (f_held x1.toNatClampNeg) = 2 → (vp_in x1 8 ∧ (((f_held x1.toNatClampNeg) = 0 → (F_X10_no f_refused (-3) (fun r43 w43_0 => post r43 g_cells w43_0))) ∧ (¬ (f_held x1.toNatClampNeg) = 0 → ((x2 < 0 → (F_X10_no f_refused (-5) (fun r64 w64_0 => post r64 g_cells w64_0))) ∧ (¬ x2 < 0 → (vp_in x1 8 ∧ ((x2 < (f_size x1.toNatClampNeg) → (vp_in x1 8 ∧ (((f_sort x1.toNatClampNeg) = 0 → (vp_in ((160 * x1) + x2) 1280 ∧ post 1 (vp_updL g_cells ((160 * x1) + x2).toNatClampNeg y3.toInt32.toInt8.toInt32.toInt64) f_refused)) ∧ (¬ (f_sort x1.toNatClampNeg) = 0 → (vp_in x1 8 ∧ (((f_sort x1.toNatClampNeg) = 1 → (vp_in ((160 * x1) + x2) 1280 ∧ post 1 (vp_updL g_cells ((160 * x1) + x2).toNatClampNeg y3.toInt32.toInt16.toInt32.toInt64) f_refused)) ∧ (¬ (f_sort x1.toNatClampNeg) = 1 → (vp_in x1 8 ∧ (((f_sort x1.toNatClampNeg) = 2 → (vp_in ((160 * x1) + x2) 1280 ∧ post 1 (vp_updL g_cells ((160 * x1) + x2).toNatClampNeg y3.toInt32.toInt64) f_refused)) ∧ (¬ (f_sort x1.toNatClampNeg) = 2 → (vp_in ((160 * x1) + x2) 1280 ∧ post 1 (vp_updL g_cells ((160 * x1) + x2).toNatClampNeg y3) f_refused))))))))))) ∧ (¬ x2 < (f_size x1.toNatClampNeg) → (F_X10_no f_refused (-5) (fun r64 w64_0 => post r64 g_cells w64_0)))))))))))))))))
set_option maxHeartbeats 4000000 in
set_option maxRecDepth 100000 in
theorem c_X10_set {l : Launch} {D : va_G} {cI cJ cS : ClassId} {ad adK : Nat → Nat} {a_o a_cells a_held a_refused a_size a_sort : Nat} {z_steps z_kind z_space z_other z_times z_speed z_base z_share z_notes z_pitch z_beats z_shown z_carried z_words z_tell z_was z_kept z_cutSpace z_cutTimes z_cutOff z_trace : Value} {v_stretches : Int32} {v_cars : Int32} {v_tunes : Int32} {v_along : Int32} {v_near : Int32} {v_borne : Int32} {v_tempo : Int32} {v_seed : Int32} {v_fault : Int32} {v_from : Int32} {v_at : Int32} {v_end : Int32} {v_told : Int32} {v_wrongAt : Int32} {v_culprit : Int32} {v_ran : Int32} {v_isKept : Int32} {g_cells : Nat → Int64} {f_held : Nat → Int32} {f_refused : Nat → Int32} {f_size : Nat → Int32} {f_sort : Nat → Int32} {x1 : Int32} {x2 : Int32} {y3 : Int64} {post : Int32 → (Nat → Int64) → (Nat → Int32) → Prop} (h : F_X10_set g_cells f_held f_refused f_size f_sort x1 x2 y3 post) {sz : Nat} : Met l yX10_set (Cond.code yX10_set cX10_set 5 (some (.int)) :: GW) (rmd 1 0 0) (PW D cI cJ cS ad adK [.ref a_o, .int x1, .int x2, .long y3] (wX10_set cI cJ cS a_o a_cells a_held a_refused a_size a_sort z_steps z_kind z_space z_other z_times z_speed z_base z_share z_notes z_pitch z_beats z_shown z_carried z_words z_tell z_was z_kept z_cutSpace z_cutTimes z_cutOff z_trace v_stretches v_cars v_tunes v_along v_near v_borne v_tempo v_seed v_fault v_from v_at v_end v_told v_wrongAt v_culprit v_ran v_isKept g_cells f_held f_refused f_size f_sort) sz) (va_Qi (fun r (u : (Nat → Int64) × (Nat → Int32)) => post r u.1 u.2) (fun u t => va_P D vwCl (wX10_set cI cJ cS a_o a_cells a_held a_refused a_size a_sort z_steps z_kind z_space z_other z_times z_speed z_base z_share z_notes z_pitch z_beats z_shown z_carried z_words z_tell z_was z_kept z_cutSpace z_cutTimes z_cutOff z_trace v_stretches v_cars v_tunes v_along v_near v_borne v_tempo v_seed v_fault v_from v_at v_end v_told v_wrongAt v_culprit v_ran v_isKept u.1 f_held u.2 f_size f_sort) t.heap) (va_A (wX10_set cI cJ cS a_o a_cells a_held a_refused a_size a_sort z_steps z_kind z_space z_other z_times z_speed z_base z_share z_notes z_pitch z_beats z_shown z_carried z_words z_tell z_was z_kept z_cutSpace z_cutTimes z_cutOff z_trace v_stretches v_cars v_tunes v_along v_near v_borne v_tempo v_seed v_fault v_from v_at v_end v_told v_wrongAt v_culprit v_ran v_isKept g_cells f_held f_refused f_size f_sort) sz)) 0 0 (va_A (wX10_set cI cJ cS a_o a_cells a_held a_refused a_size a_sort z_steps z_kind z_space z_other z_times z_speed z_base z_share z_notes z_pitch z_beats z_shown z_carried z_words z_tell z_was z_kept z_cutSpace z_cutTimes z_cutOff z_trace v_stretches v_cars v_tunes v_along v_near v_borne v_tempo v_seed v_fault v_from v_at v_end v_told v_wrongAt v_culprit v_ran v_isKept g_cells f_held f_refused f_size f_sort) sz) := by
  refine Met.rw (Qc := fun A => (va_Qi (fun r (u : (Nat → Int64) × (Nat → Int32)) => post r u.1 u.2) (fun u t => va_P D vwCl (wX10_set cI cJ cS a_o a_cells a_held a_refused a_size a_sort z_steps z_kind z_space z_other z_times z_speed z_base z_share z_notes z_pitch z_beats z_shown z_carried z_words z_tell z_was z_kept z_cutSpace z_cutTimes z_cutOff z_trace v_stretches v_cars v_tunes v_along v_near v_borne v_tempo v_seed v_fault v_from v_at v_end v_told v_wrongAt v_culprit v_ran v_isKept u.1 f_held u.2 f_size f_sort) t.heap) A)) (by decide) (Nat.le_of_ble_eq_true rfl) (fun p e s m args below meth c ls A (S : CallFix p m c cX10_set 5 s args GW "RoadThatSingsModel") hE hT hP hD hA hS hr hlocks hname hl => ?_)
  have hS0 := hS
  have hx := S.1
  have hb := S.2.1
  have hl : lv_has ls 5 [(0, .ref a_o), (1, .int x1), (2, .int x2), (3, .long y3)] := hl
  unfold F_X10_set at h
  refine lv_aload_n hx hb dX10_set_0 rfl (lv_at hl 0 rfl) ?_
  refine lv_iload_n hx hb dX10_set_1 rfl (lv_at hl 1 rfl) ?_
  refine ro_i (roV S hE hT hS (c_X10_isShelf h) lkX10_117 rfl ⟨(Nat.le_of_ble_eq_true rfl), (Nat.le_of_ble_eq_true rfl)⟩ (hP.sub [0] rfl) 0 rfl rfl hl.1 rfl (Nat.le_of_ble_eq_true rfl) dX10_set_2 ⟨(Nat.zero_le _), (Nat.zero_le _)⟩) (fun r2 h => ?_)
  refine lv_if_ne (tgt := 14) hx hb dX10_set_5 (by decide) (fun hc => ?_) (fun hc => ?_)
  · have h := h.2 hc
    refine lv_aload_n hx hb dX10_set_14 rfl (lv_at hl 0 rfl) ?_
    refine gf S hE hP 0 rfl rfl inX10 (k := 21) (by decide) q1114 rfl dX10_set_15 ?_
    refine lv_iload_n hx hb dX10_set_18 rfl (lv_at hl 1 rfl) ?_
    obtain ⟨hi, h⟩ := h
    refine ial S hE hP 2 rfl hi dX10_set_19 ?_
    refine lv_iconst (v := 2) hx hb dX10_set_20 (by decide) ?_
    refine lv_icmp_ne (tgt := 31) hx hb dX10_set_21 (by decide) (fun hc => ?_) (fun hc => ?_)
    · have h := h.2 hc
      refine lv_aload_n hx hb dX10_set_31 rfl (lv_at hl 0 rfl) ?_
      refine gf S hE hP 0 rfl rfl inX10 (k := 21) (by decide) q1114 rfl dX10_set_32 ?_
      refine lv_iload_n hx hb dX10_set_35 rfl (lv_at hl 1 rfl) ?_
      obtain ⟨hi, h⟩ := h
      refine ial S hE hP 2 rfl hi dX10_set_36 ?_
      refine lv_if_ne (tgt := 47) hx hb dX10_set_37 (by decide) (fun hc => ?_) (fun hc => ?_)
      · have h := h.2 hc
        refine lv_iload_n hx hb dX10_set_47 rfl (lv_at hl 2 rfl) ?_
        refine lv_if_lt (tgt := 61) hx hb dX10_set_48 (by decide) (fun hc => ?_) (fun hc => ?_)
        · have h := h.1 hc
          refine lv_aload_n hx hb dX10_set_61 rfl (lv_at hl 0 rfl) ?_
          refine lv_bipush (v := (-5)) hx hb dX10_set_62 (by decide) ?_
          refine rw_i (rwV S hE hT hS hP hD hA (c_X10_no h) [0, 3] rfl (by decide) lkX10_121 rfl ⟨(Nat.le_of_ble_eq_true rfl), (Nat.le_of_ble_eq_true rfl)⟩ 0 rfl rfl hl.1 rfl (Nat.le_of_ble_eq_true rfl) dX10_set_64 ⟨(Nat.zero_le _), (Nat.zero_le _)⟩) hP hD hS hA [0, 3] rfl (by decide) (fun _ => rfl) (fun r64 w64_0 H locs h hP hD hS => ?_)
          try dsimp only at h
          have hP : va_P D vwCl (wX10_set cI cJ cS a_o a_cells a_held a_refused a_size a_sort z_steps z_kind z_space z_other z_times z_speed z_base z_share z_notes z_pitch z_beats z_shown z_carried z_words z_tell z_was z_kept z_cutSpace z_cutTimes z_cutOff z_trace v_stretches v_cars v_tunes v_along v_near v_borne v_tempo v_seed v_fault v_from v_at v_end v_told v_wrongAt v_culprit v_ran v_isKept g_cells f_held w64_0 f_size f_sort) H := hP
          have hD : va_D A (wX10_set cI cJ cS a_o a_cells a_held a_refused a_size a_sort z_steps z_kind z_space z_other z_times z_speed z_base z_share z_notes z_pitch z_beats z_shown z_carried z_words z_tell z_was z_kept z_cutSpace z_cutTimes z_cutOff z_trace v_stretches v_cars v_tunes v_along v_near v_borne v_tempo v_seed v_fault v_from v_at v_end v_told v_wrongAt v_culprit v_ran v_isKept g_cells f_held w64_0 f_size f_sort) := hD
          exact W.iret hx hb hr (fun t ht _ => ⟨⟨_, (g_cells, w64_0), rfl, h, hPt hP ht⟩, hS.F ht⟩) hS.2.2 dX10_set_67
        have h := h.2 hc
        refine lv_iload_n hx hb dX10_set_51 rfl (lv_at hl 2 rfl) ?_
        refine lv_aload_n hx hb dX10_set_52 rfl (lv_at hl 0 rfl) ?_
        refine gf S hE hP 0 rfl rfl inX10 (k := 23) (by decide) q1116 rfl dX10_set_53 ?_
        refine lv_iload_n hx hb dX10_set_56 rfl (lv_at hl 1 rfl) ?_
        obtain ⟨hi, h⟩ := h
        refine ial S hE hP 4 rfl hi dX10_set_57 ?_
        refine lv_icmp_lt (tgt := 68) hx hb dX10_set_58 (by decide) (fun hc => ?_) (fun hc => ?_)
        · have h := h.1 hc
          refine lv_aload_n hx hb dX10_set_68 rfl (lv_at hl 0 rfl) ?_
          refine gf S hE hP 0 rfl rfl inX10 (k := 25) (by decide) q1118 rfl dX10_set_69 ?_
          refine lv_sipush (v := 160) hx hb dX10_set_72 (by decide) ?_
          refine lv_iload_n hx hb dX10_set_75 rfl (lv_at hl 1 rfl) ?_
          refine lv_imul hx hb dX10_set_76 ?_
          refine lv_iload_n hx hb dX10_set_77 rfl (lv_at hl 2 rfl) ?_
          refine lv_iadd hx hb dX10_set_78 ?_
          refine lv_aload_n hx hb dX10_set_79 rfl (lv_at hl 0 rfl) ?_
          refine gf S hE hP 0 rfl rfl inX10 (k := 22) (by decide) q1115 rfl dX10_set_80 ?_
          refine lv_iload_n hx hb dX10_set_83 rfl (lv_at hl 1 rfl) ?_
          obtain ⟨hi, h⟩ := h
          refine ial S hE hP 5 rfl hi dX10_set_84 ?_
          refine lv_if_ne (tgt := 95) hx hb dX10_set_85 (by decide) (fun hc => ?_) (fun hc => ?_)
          · have h := h.2 hc
            refine lv_aload_n hx hb dX10_set_95 rfl (lv_at hl 0 rfl) ?_
            refine gf S hE hP 0 rfl rfl inX10 (k := 22) (by decide) q1115 rfl dX10_set_96 ?_
            refine lv_iload_n hx hb dX10_set_99 rfl (lv_at hl 1 rfl) ?_
            obtain ⟨hi, h⟩ := h
            refine ial S hE hP 5 rfl hi dX10_set_100 ?_
            refine lv_iconst (v := 1) hx hb dX10_set_101 (by decide) ?_
            refine lv_icmp_ne (tgt := 112) hx hb dX10_set_102 (by decide) (fun hc => ?_) (fun hc => ?_)
            · have h := h.2 hc
              refine lv_aload_n hx hb dX10_set_112 rfl (lv_at hl 0 rfl) ?_
              refine gf S hE hP 0 rfl rfl inX10 (k := 22) (by decide) q1115 rfl dX10_set_113 ?_
              refine lv_iload_n hx hb dX10_set_116 rfl (lv_at hl 1 rfl) ?_
              obtain ⟨hi, h⟩ := h
              refine ial S hE hP 5 rfl hi dX10_set_117 ?_
              refine lv_iconst (v := 2) hx hb dX10_set_118 (by decide) ?_
              refine lv_icmp_ne (tgt := 128) hx hb dX10_set_119 (by decide) (fun hc => ?_) (fun hc => ?_)
              · have h := h.2 hc
                refine lv_lload_n hx hb dX10_set_128 rfl (lv_at hl 3 rfl) ?_
                obtain ⟨hi, h⟩ := h
                refine las S hE hP hD hS 1 rfl hi dX10_set_129 (fun H locs hP hD hS => ?_)
                have hP : va_P D vwCl (wX10_set cI cJ cS a_o a_cells a_held a_refused a_size a_sort z_steps z_kind z_space z_other z_times z_speed z_base z_share z_notes z_pitch z_beats z_shown z_carried z_words z_tell z_was z_kept z_cutSpace z_cutTimes z_cutOff z_trace v_stretches v_cars v_tunes v_along v_near v_borne v_tempo v_seed v_fault v_from v_at v_end v_told v_wrongAt v_culprit v_ran v_isKept (vp_updL g_cells ((160 * x1) + x2).toNatClampNeg y3) f_held f_refused f_size f_sort) H := hP
                have hD : va_D A (wX10_set cI cJ cS a_o a_cells a_held a_refused a_size a_sort z_steps z_kind z_space z_other z_times z_speed z_base z_share z_notes z_pitch z_beats z_shown z_carried z_words z_tell z_was z_kept z_cutSpace z_cutTimes z_cutOff z_trace v_stretches v_cars v_tunes v_along v_near v_borne v_tempo v_seed v_fault v_from v_at v_end v_told v_wrongAt v_culprit v_ran v_isKept (vp_updL g_cells ((160 * x1) + x2).toNatClampNeg y3) f_held f_refused f_size f_sort) := hD
                refine lv_iconst (v := 1) hx hb dX10_set_130 (by decide) ?_
                exact W.iret hx hb hr (fun t ht _ => ⟨⟨_, ((vp_updL g_cells ((160 * x1) + x2).toNatClampNeg y3), f_refused), rfl, h, hPt hP ht⟩, hS.F ht⟩) hS.2.2 dX10_set_131
              have h := h.1 hc
              refine lv_lload_n hx hb dX10_set_122 rfl (lv_at hl 3 rfl) ?_
              refine lv_l2i hx hb dX10_set_123 rfl ?_
              refine lv_i2l hx hb dX10_set_124 rfl ?_
              refine lv_goto (tgt := 129) hx hb dX10_set_125 (by decide) ?_
              obtain ⟨hi, h⟩ := h
              refine las S hE hP hD hS 1 rfl hi dX10_set_129 (fun H locs hP hD hS => ?_)
              have hP : va_P D vwCl (wX10_set cI cJ cS a_o a_cells a_held a_refused a_size a_sort z_steps z_kind z_space z_other z_times z_speed z_base z_share z_notes z_pitch z_beats z_shown z_carried z_words z_tell z_was z_kept z_cutSpace z_cutTimes z_cutOff z_trace v_stretches v_cars v_tunes v_along v_near v_borne v_tempo v_seed v_fault v_from v_at v_end v_told v_wrongAt v_culprit v_ran v_isKept (vp_updL g_cells ((160 * x1) + x2).toNatClampNeg y3.toInt32.toInt64) f_held f_refused f_size f_sort) H := hP
              have hD : va_D A (wX10_set cI cJ cS a_o a_cells a_held a_refused a_size a_sort z_steps z_kind z_space z_other z_times z_speed z_base z_share z_notes z_pitch z_beats z_shown z_carried z_words z_tell z_was z_kept z_cutSpace z_cutTimes z_cutOff z_trace v_stretches v_cars v_tunes v_along v_near v_borne v_tempo v_seed v_fault v_from v_at v_end v_told v_wrongAt v_culprit v_ran v_isKept (vp_updL g_cells ((160 * x1) + x2).toNatClampNeg y3.toInt32.toInt64) f_held f_refused f_size f_sort) := hD
              refine lv_iconst (v := 1) hx hb dX10_set_130 (by decide) ?_
              exact W.iret hx hb hr (fun t ht _ => ⟨⟨_, ((vp_updL g_cells ((160 * x1) + x2).toNatClampNeg y3.toInt32.toInt64), f_refused), rfl, h, hPt hP ht⟩, hS.F ht⟩) hS.2.2 dX10_set_131
            have h := h.1 hc
            refine lv_lload_n hx hb dX10_set_105 rfl (lv_at hl 3 rfl) ?_
            refine lv_l2i hx hb dX10_set_106 rfl ?_
            refine lv_i2s hx hb dX10_set_107 rfl ?_
            refine lv_i2l hx hb dX10_set_108 rfl ?_
            refine lv_goto (tgt := 129) hx hb dX10_set_109 (by decide) ?_
            obtain ⟨hi, h⟩ := h
            refine las S hE hP hD hS 1 rfl hi dX10_set_129 (fun H locs hP hD hS => ?_)
            have hP : va_P D vwCl (wX10_set cI cJ cS a_o a_cells a_held a_refused a_size a_sort z_steps z_kind z_space z_other z_times z_speed z_base z_share z_notes z_pitch z_beats z_shown z_carried z_words z_tell z_was z_kept z_cutSpace z_cutTimes z_cutOff z_trace v_stretches v_cars v_tunes v_along v_near v_borne v_tempo v_seed v_fault v_from v_at v_end v_told v_wrongAt v_culprit v_ran v_isKept (vp_updL g_cells ((160 * x1) + x2).toNatClampNeg y3.toInt32.toInt16.toInt32.toInt64) f_held f_refused f_size f_sort) H := hP
            have hD : va_D A (wX10_set cI cJ cS a_o a_cells a_held a_refused a_size a_sort z_steps z_kind z_space z_other z_times z_speed z_base z_share z_notes z_pitch z_beats z_shown z_carried z_words z_tell z_was z_kept z_cutSpace z_cutTimes z_cutOff z_trace v_stretches v_cars v_tunes v_along v_near v_borne v_tempo v_seed v_fault v_from v_at v_end v_told v_wrongAt v_culprit v_ran v_isKept (vp_updL g_cells ((160 * x1) + x2).toNatClampNeg y3.toInt32.toInt16.toInt32.toInt64) f_held f_refused f_size f_sort) := hD
            refine lv_iconst (v := 1) hx hb dX10_set_130 (by decide) ?_
            exact W.iret hx hb hr (fun t ht _ => ⟨⟨_, ((vp_updL g_cells ((160 * x1) + x2).toNatClampNeg y3.toInt32.toInt16.toInt32.toInt64), f_refused), rfl, h, hPt hP ht⟩, hS.F ht⟩) hS.2.2 dX10_set_131
          have h := h.1 hc
          refine lv_lload_n hx hb dX10_set_88 rfl (lv_at hl 3 rfl) ?_
          refine lv_l2i hx hb dX10_set_89 rfl ?_
          refine lv_i2b hx hb dX10_set_90 rfl ?_
          refine lv_i2l hx hb dX10_set_91 rfl ?_
          refine lv_goto (tgt := 129) hx hb dX10_set_92 (by decide) ?_
          obtain ⟨hi, h⟩ := h
          refine las S hE hP hD hS 1 rfl hi dX10_set_129 (fun H locs hP hD hS => ?_)
          have hP : va_P D vwCl (wX10_set cI cJ cS a_o a_cells a_held a_refused a_size a_sort z_steps z_kind z_space z_other z_times z_speed z_base z_share z_notes z_pitch z_beats z_shown z_carried z_words z_tell z_was z_kept z_cutSpace z_cutTimes z_cutOff z_trace v_stretches v_cars v_tunes v_along v_near v_borne v_tempo v_seed v_fault v_from v_at v_end v_told v_wrongAt v_culprit v_ran v_isKept (vp_updL g_cells ((160 * x1) + x2).toNatClampNeg y3.toInt32.toInt8.toInt32.toInt64) f_held f_refused f_size f_sort) H := hP
          have hD : va_D A (wX10_set cI cJ cS a_o a_cells a_held a_refused a_size a_sort z_steps z_kind z_space z_other z_times z_speed z_base z_share z_notes z_pitch z_beats z_shown z_carried z_words z_tell z_was z_kept z_cutSpace z_cutTimes z_cutOff z_trace v_stretches v_cars v_tunes v_along v_near v_borne v_tempo v_seed v_fault v_from v_at v_end v_told v_wrongAt v_culprit v_ran v_isKept (vp_updL g_cells ((160 * x1) + x2).toNatClampNeg y3.toInt32.toInt8.toInt32.toInt64) f_held f_refused f_size f_sort) := hD
          refine lv_iconst (v := 1) hx hb dX10_set_130 (by decide) ?_
          exact W.iret hx hb hr (fun t ht _ => ⟨⟨_, ((vp_updL g_cells ((160 * x1) + x2).toNatClampNeg y3.toInt32.toInt8.toInt32.toInt64), f_refused), rfl, h, hPt hP ht⟩, hS.F ht⟩) hS.2.2 dX10_set_131
        have h := h.2 hc
        refine lv_aload_n hx hb dX10_set_61 rfl (lv_at hl 0 rfl) ?_
        refine lv_bipush (v := (-5)) hx hb dX10_set_62 (by decide) ?_
        refine rw_i (rwV S hE hT hS hP hD hA (c_X10_no h) [0, 3] rfl (by decide) lkX10_121 rfl ⟨(Nat.le_of_ble_eq_true rfl), (Nat.le_of_ble_eq_true rfl)⟩ 0 rfl rfl hl.1 rfl (Nat.le_of_ble_eq_true rfl) dX10_set_64 ⟨(Nat.zero_le _), (Nat.zero_le _)⟩) hP hD hS hA [0, 3] rfl (by decide) (fun _ => rfl) (fun r64 w64_0 H locs h hP hD hS => ?_)
        try dsimp only at h
        have hP : va_P D vwCl (wX10_set cI cJ cS a_o a_cells a_held a_refused a_size a_sort z_steps z_kind z_space z_other z_times z_speed z_base z_share z_notes z_pitch z_beats z_shown z_carried z_words z_tell z_was z_kept z_cutSpace z_cutTimes z_cutOff z_trace v_stretches v_cars v_tunes v_along v_near v_borne v_tempo v_seed v_fault v_from v_at v_end v_told v_wrongAt v_culprit v_ran v_isKept g_cells f_held w64_0 f_size f_sort) H := hP
        have hD : va_D A (wX10_set cI cJ cS a_o a_cells a_held a_refused a_size a_sort z_steps z_kind z_space z_other z_times z_speed z_base z_share z_notes z_pitch z_beats z_shown z_carried z_words z_tell z_was z_kept z_cutSpace z_cutTimes z_cutOff z_trace v_stretches v_cars v_tunes v_along v_near v_borne v_tempo v_seed v_fault v_from v_at v_end v_told v_wrongAt v_culprit v_ran v_isKept g_cells f_held w64_0 f_size f_sort) := hD
        exact W.iret hx hb hr (fun t ht _ => ⟨⟨_, (g_cells, w64_0), rfl, h, hPt hP ht⟩, hS.F ht⟩) hS.2.2 dX10_set_67
      have h := h.1 hc
      refine lv_aload_n hx hb dX10_set_40 rfl (lv_at hl 0 rfl) ?_
      refine lv_bipush (v := (-3)) hx hb dX10_set_41 (by decide) ?_
      refine rw_i (rwV S hE hT hS hP hD hA (c_X10_no h) [0, 3] rfl (by decide) lkX10_121 rfl ⟨(Nat.le_of_ble_eq_true rfl), (Nat.le_of_ble_eq_true rfl)⟩ 0 rfl rfl hl.1 rfl (Nat.le_of_ble_eq_true rfl) dX10_set_43 ⟨(Nat.zero_le _), (Nat.zero_le _)⟩) hP hD hS hA [0, 3] rfl (by decide) (fun _ => rfl) (fun r43 w43_0 H locs h hP hD hS => ?_)
      try dsimp only at h
      have hP : va_P D vwCl (wX10_set cI cJ cS a_o a_cells a_held a_refused a_size a_sort z_steps z_kind z_space z_other z_times z_speed z_base z_share z_notes z_pitch z_beats z_shown z_carried z_words z_tell z_was z_kept z_cutSpace z_cutTimes z_cutOff z_trace v_stretches v_cars v_tunes v_along v_near v_borne v_tempo v_seed v_fault v_from v_at v_end v_told v_wrongAt v_culprit v_ran v_isKept g_cells f_held w43_0 f_size f_sort) H := hP
      have hD : va_D A (wX10_set cI cJ cS a_o a_cells a_held a_refused a_size a_sort z_steps z_kind z_space z_other z_times z_speed z_base z_share z_notes z_pitch z_beats z_shown z_carried z_words z_tell z_was z_kept z_cutSpace z_cutTimes z_cutOff z_trace v_stretches v_cars v_tunes v_along v_near v_borne v_tempo v_seed v_fault v_from v_at v_end v_told v_wrongAt v_culprit v_ran v_isKept g_cells f_held w43_0 f_size f_sort) := hD
      exact W.iret hx hb hr (fun t ht _ => ⟨⟨_, (g_cells, w43_0), rfl, h, hPt hP ht⟩, hS.F ht⟩) hS.2.2 dX10_set_46
    have h := h.1 hc
    refine lv_aload_n hx hb dX10_set_24 rfl (lv_at hl 0 rfl) ?_
    refine lv_bipush (v := (-2)) hx hb dX10_set_25 (by decide) ?_
    refine rw_i (rwV S hE hT hS hP hD hA (c_X10_no h) [0, 3] rfl (by decide) lkX10_121 rfl ⟨(Nat.le_of_ble_eq_true rfl), (Nat.le_of_ble_eq_true rfl)⟩ 0 rfl rfl hl.1 rfl (Nat.le_of_ble_eq_true rfl) dX10_set_27 ⟨(Nat.zero_le _), (Nat.zero_le _)⟩) hP hD hS hA [0, 3] rfl (by decide) (fun _ => rfl) (fun r27 w27_0 H locs h hP hD hS => ?_)
    try dsimp only at h
    have hP : va_P D vwCl (wX10_set cI cJ cS a_o a_cells a_held a_refused a_size a_sort z_steps z_kind z_space z_other z_times z_speed z_base z_share z_notes z_pitch z_beats z_shown z_carried z_words z_tell z_was z_kept z_cutSpace z_cutTimes z_cutOff z_trace v_stretches v_cars v_tunes v_along v_near v_borne v_tempo v_seed v_fault v_from v_at v_end v_told v_wrongAt v_culprit v_ran v_isKept g_cells f_held w27_0 f_size f_sort) H := hP
    have hD : va_D A (wX10_set cI cJ cS a_o a_cells a_held a_refused a_size a_sort z_steps z_kind z_space z_other z_times z_speed z_base z_share z_notes z_pitch z_beats z_shown z_carried z_words z_tell z_was z_kept z_cutSpace z_cutTimes z_cutOff z_trace v_stretches v_cars v_tunes v_along v_near v_borne v_tempo v_seed v_fault v_from v_at v_end v_told v_wrongAt v_culprit v_ran v_isKept g_cells f_held w27_0 f_size f_sort) := hD
    exact W.iret hx hb hr (fun t ht _ => ⟨⟨_, (g_cells, w27_0), rfl, h, hPt hP ht⟩, hS.F ht⟩) hS.2.2 dX10_set_30
  have h := h.1 hc
  refine lv_aload_n hx hb dX10_set_8 rfl (lv_at hl 0 rfl) ?_
  refine lv_iconst (v := (-1)) hx hb dX10_set_9 (by decide) ?_
  refine rw_i (rwV S hE hT hS hP hD hA (c_X10_no h) [0, 3] rfl (by decide) lkX10_121 rfl ⟨(Nat.le_of_ble_eq_true rfl), (Nat.le_of_ble_eq_true rfl)⟩ 0 rfl rfl hl.1 rfl (Nat.le_of_ble_eq_true rfl) dX10_set_10 ⟨(Nat.zero_le _), (Nat.zero_le _)⟩) hP hD hS hA [0, 3] rfl (by decide) (fun _ => rfl) (fun r10 w10_0 H locs h hP hD hS => ?_)
  try dsimp only at h
  have hP : va_P D vwCl (wX10_set cI cJ cS a_o a_cells a_held a_refused a_size a_sort z_steps z_kind z_space z_other z_times z_speed z_base z_share z_notes z_pitch z_beats z_shown z_carried z_words z_tell z_was z_kept z_cutSpace z_cutTimes z_cutOff z_trace v_stretches v_cars v_tunes v_along v_near v_borne v_tempo v_seed v_fault v_from v_at v_end v_told v_wrongAt v_culprit v_ran v_isKept g_cells f_held w10_0 f_size f_sort) H := hP
  have hD : va_D A (wX10_set cI cJ cS a_o a_cells a_held a_refused a_size a_sort z_steps z_kind z_space z_other z_times z_speed z_base z_share z_notes z_pitch z_beats z_shown z_carried z_words z_tell z_was z_kept z_cutSpace z_cutTimes z_cutOff z_trace v_stretches v_cars v_tunes v_along v_near v_borne v_tempo v_seed v_fault v_from v_at v_end v_told v_wrongAt v_culprit v_ran v_isKept g_cells f_held w10_0 f_size f_sort) := hD
  exact W.iret hx hb hr (fun t ht _ => ⟨⟨_, (g_cells, w10_0), rfl, h, hPt hP ht⟩, hS.F ht⟩) hS.2.2 dX10_set_13
/-! X10_copy -/
abbrev wX10_copy (cI cJ cS : ClassId) (a_o a_carried a_cells a_held a_refused a_size a_sort : Nat) (z_steps z_kind z_space z_other z_times z_speed z_base z_share z_notes z_pitch z_beats z_shown z_words z_tell z_was z_kept z_cutSpace z_cutTimes z_cutOff z_trace : Value) (v_stretches : Int32) (v_cars : Int32) (v_tunes : Int32) (v_along : Int32) (v_near : Int32) (v_borne : Int32) (v_tempo : Int32) (v_seed : Int32) (v_fault : Int32) (v_from : Int32) (v_at : Int32) (v_end : Int32) (v_told : Int32) (v_wrongAt : Int32) (v_culprit : Int32) (v_ran : Int32) (v_isKept : Int32) (g_carried : Nat → Int64) (g_cells : Nat → Int64) (f_held : Nat → Int32) (f_refused : Nat → Int32) (f_size : Nat → Int32) (f_sort : Nat → Int32) : va_W := [(a_o, .inr (9, [.int v_stretches, .int v_cars, .int v_tunes, .int v_along, .int v_near, .int v_borne, .int v_tempo, .int v_seed, .int v_fault, .ref a_refused, z_steps, z_kind, z_space, z_other, z_times, z_speed, z_base, z_share, z_notes, z_pitch, z_beats, .ref a_held, .ref a_sort, .ref a_size, z_shown, .ref a_cells, .ref a_carried, z_words, z_tell, .int v_from, .int v_at, .int v_end, .int v_told, .int v_wrongAt, z_was, z_kept, .int v_culprit, z_cutSpace, z_cutTimes, z_cutOff, z_trace, .int v_ran, .int v_isKept])), (a_carried, .inl (cJ, 160, .inr (.inl g_carried))), (a_cells, .inl (cJ, 1280, .inr (.inl g_cells))), (a_held, .inl (cI, 8, .inl f_held)), (a_refused, .inl (cI, 8, .inl f_refused)), (a_size, .inl (cI, 8, .inl f_size)), (a_sort, .inl (cI, 8, .inl f_sort))]
def L_X10_copy_205 (x2 : Int32) (x4 : Int32) (x5 : Int32) (g_carried : Nat → Int64) (f_refused : Nat → Int32) (post : Int32 → (Nat → Int64) → (Nat → Int64) → (Nat → Int32) → Prop) : Nat → Int32 → (Nat → Int64) → Prop
  | 0, _, _ => False
  | n205 + 1, x6, g_cells => ((x5 ≤ x6 → post 1 g_carried g_cells f_refused) ∧ (¬ x5 ≤ x6 → (vp_in x6 160 ∧ (vp_in (((160 * x2) + x4) + x6) 1280 ∧ (∀ x6_235 : Int32, x6_235 = x6 + 1 → L_X10_copy_205 x2 x4 x5 g_carried f_refused post n205 x6_235 (vp_updL g_cells (((160 * x2) + x4) + x6).toNatClampNeg (g_carried x6.toNatClampNeg)))))))
def L_X10_copy_167 (x1 : Int32) (x2 : Int32) (x3 : Int32) (x4 : Int32) (x5 : Int32) (f_refused : Nat → Int32) (post : Int32 → (Nat → Int64) → (Nat → Int64) → (Nat → Int32) → Prop) : Nat → Int32 → (Nat → Int64) → (Nat → Int64) → Prop
  | 0, _, _, _ => False
  | n167 + 1, x6, g_carried, g_cells => ((x5 ≤ x6 → (∃ n205 : Nat, L_X10_copy_205 x2 x4 x5 g_carried f_refused post n205 0 g_cells)) ∧ (¬ x5 ≤ x6 → (vp_in (((160 * x1) + x3) + x6) 1280 ∧ (vp_in x6 160 ∧ (∀ x6_196 : Int32, x6_196 = x6 + 1 → L_X10_copy_167 x1 x2 x3 x4 x5 f_refused post n167 x6_196 (vp_updL g_carried x6.toNatClampNeg (g_cells (((160 * x1) + x3) + x6).toNatClampNeg)) g_cells)))))
def F_X10_copy_84 (f_held : Nat → Int32) (f_size : Nat → Int32) (post : Int32 → (Nat → Int64) → (Nat → Int64) → (Nat → Int32) → Prop) (x1 : Int32) (x2 : Int32) (x3 : Int32) (x4 : Int32) (x5 : Int32) (g_carried : Nat → Int64) (g_cells : Nat → Int64) (f_refused : Nat → Int32) : Prop := (vp_in x1 8 ∧ (((f_held x1.toNatClampNeg) = 0 → (F_X10_no f_refused (-3) (fun r105 w105_0 => post r105 g_carried g_cells w105_0))) ∧ (¬ (f_held x1.toNatClampNeg) = 0 → (vp_in x2 8 ∧ (((f_held x2.toNatClampNeg) = 0 → (F_X10_no f_refused (-3) (fun r105 w105_0 => post r105 g_carried g_cells w105_0))) ∧ (¬ (f_held x2.toNatClampNeg) = 0 → ((0 ≤ x5 → ((x3 < 0 → (F_X10_no f_refused (-5) (fun r160 w160_0 => post r160 g_carried g_cells w160_0))) ∧ (¬ x3 < 0 → ((x4 < 0 → (F_X10_no f_refused (-5) (fun r160 w160_0 => post r160 g_carried g_cells w160_0))) ∧ (¬ x4 < 0 → (vp_in x1 8 ∧ ((((f_size x1.toNatClampNeg) - x5) < x3 → (F_X10_no f_refused (-5) (fun r160 w160_0 => post r160 g_carried g_cells w160_0))) ∧ (¬ ((f_size x1.toNatClampNeg) - x5) < x3 → (vp_in x2 8 ∧ ((x4 ≤ ((f_size x2.toNatClampNeg) - x5) → (∃ n167 : Nat, L_X10_copy_167 x1 x2 x3 x4 x5 f_refused post n167 0 g_carried g_cells)) ∧ (¬ x4 ≤ ((f_size x2.toNatClampNeg) - x5) → (F_X10_no f_refused (-5) (fun r160 w160_0 => post r160 g_carried g_cells w160_0))))))))))))) ∧ (¬ 0 ≤ x5 → (F_X10_no f_refused (-4) (fun r117 w117_0 => post r117 g_carried g_cells w117_0))))))))))
def F_X10_copy (g_carried : Nat → Int64) (g_cells : Nat → Int64) (f_held : Nat → Int32) (f_refused : Nat → Int32) (f_size : Nat → Int32) (f_sort : Nat → Int32) (x1 : Int32) (x2 : Int32) (x3 : Int32) (x4 : Int32) (x5 : Int32) (post : Int32 → (Nat → Int64) → (Nat → Int64) → (Nat → Int32) → Prop) : Prop := (F_X10_isShelf x1 (fun r2 => ((r2 = 0 → (F_X10_no f_refused (-1) (fun r18 w18_0 => post r18 g_carried g_cells w18_0))) ∧ (¬ r2 = 0 → (F_X10_isShelf x2 (fun r10 => ((r10 = 0 → (F_X10_no f_refused (-1) (fun r18 w18_0 => post r18 g_carried g_cells w18_0))) ∧ (¬ r10 = 0 → (vp_in x1 8 ∧ (((f_held x1.toNatClampNeg) = 2 → (F_X10_no f_refused (-2) (fun r80 w80_0 => post r80 g_carried g_cells w80_0))) ∧ (¬ (f_held x1.toNatClampNeg) = 2 → (vp_in x2 8 ∧ (((f_held x2.toNatClampNeg) = 2 → (F_X10_no f_refused (-2) (fun r80 w80_0 => post r80 g_carried g_cells w80_0))) ∧ (¬ (f_held x2.toNatClampNeg) = 2 → (vp_in x1 8 ∧ (((f_held x1.toNatClampNeg) = 1 → (vp_in x2 8 ∧ (((f_held x2.toNatClampNeg) = 1 → (vp_in x1 8 ∧ (vp_in x2 8 ∧ (((f_sort x1.toNatClampNeg) = (f_sort x2.toNatClampNeg) → F_X10_copy_84 f_held f_size post x1 x2 x3 x4 x5 g_carried g_cells f_refused) ∧ (¬ (f_sort x1.toNatClampNeg) = (f_sort x2.toNatClampNeg) → (F_X10_no f_refused (-2) (fun r80 w80_0 => post r80 g_carried g_cells w80_0))))))) ∧ (¬ (f_held x2.toNatClampNeg) = 1 → F_X10_copy_84 f_held f_size post x1 x2 x3 x4 x5 g_carried g_cells f_refused)))) ∧ (¬ (f_held x1.toNatClampNeg) = 1 → F_X10_copy_84 f_held f_size post x1 x2 x3 x4 x5 g_carried g_cells f_refused)))))))))))))))))
set_option maxHeartbeats 4000000 in
set_option maxRecDepth 100000 in
theorem w_X10_copy_205 {l : Launch} {D : va_G} {cI cJ cS : ClassId} {ad adK : Nat → Nat} {a_o a_carried a_cells a_held a_refused a_size a_sort : Nat} {z_steps z_kind z_space z_other z_times z_speed z_base z_share z_notes z_pitch z_beats z_shown z_words z_tell z_was z_kept z_cutSpace z_cutTimes z_cutOff z_trace : Value} {v_stretches : Int32} {v_cars : Int32} {v_tunes : Int32} {v_along : Int32} {v_near : Int32} {v_borne : Int32} {v_tempo : Int32} {v_seed : Int32} {v_fault : Int32} {v_from : Int32} {v_at : Int32} {v_end : Int32} {v_told : Int32} {v_wrongAt : Int32} {v_culprit : Int32} {v_ran : Int32} {v_isKept : Int32} {g_carried : Nat → Int64} {f_held : Nat → Int32} {f_refused : Nat → Int32} {f_size : Nat → Int32} {f_sort : Nat → Int32} {x2 : Int32} {x4 : Int32} {x5 : Int32} {post : Int32 → (Nat → Int64) → (Nat → Int64) → (Nat → Int32) → Prop} {p : Program} {e : Env} {s : State} {m : MethodId} {args : Array Value} {below : List Frame} {meth : Method} {c : Code} {A : Nat → Prop} (S : CallFix p m c cX10_copy 7 s args GW "RoadThatSingsModel") (hE : EN D cI cJ cS s) (hT : ST ad adK A s s.heap) (hA : ∀ q : Nat, s.heap.size ≤ q → A q) (hr : meth.sig.returnType = (some (.int))) (hlocks : meth.locks = false) : ∀ n : Nat, ∀ (x6 : Int32) (g_cells : Nat → Int64) (H : Heap) (locs : List Loc) (ls : Array Slot), L_X10_copy_205 x2 x4 x5 g_carried f_refused post n x6 g_cells → va_P D vwCl (wX10_copy cI cJ cS a_o a_carried a_cells a_held a_refused a_size a_sort z_steps z_kind z_space z_other z_times z_speed z_base z_share z_notes z_pitch z_beats z_shown z_words z_tell z_was z_kept z_cutSpace z_cutTimes z_cutOff z_trace v_stretches v_cars v_tunes v_along v_near v_borne v_tempo v_seed v_fault v_from v_at v_end v_told v_wrongAt v_culprit v_ran v_isKept g_carried g_cells f_held f_refused f_size f_sort) H → va_D A (wX10_copy cI cJ cS a_o a_carried a_cells a_held a_refused a_size a_sort z_steps z_kind z_space z_other z_times z_speed z_base z_share z_notes z_pitch z_beats z_shown z_words z_tell z_was z_kept z_cutSpace z_cutTimes z_cutOff z_trace v_stretches v_cars v_tunes v_along v_near v_borne v_tempo v_seed v_fault v_from v_at v_end v_told v_wrongAt v_culprit v_ran v_isKept g_carried g_cells f_held f_refused f_size f_sort) → va_S A s.heap H locs → lv_has ls 7 [(0, .ref a_o), (2, .int x2), (4, .int x4), (5, .int x5), (6, .int x6)] → W p l e (rmd 1 0 0) s m args below meth c H locs 0 0 (MQ below (va_Qi (fun r (u : (Nat → Int64) × (Nat → Int64) × (Nat → Int32)) => post r u.1 u.2.1 u.2.2) (fun u t => va_P D vwCl (wX10_copy cI cJ cS a_o a_carried a_cells a_held a_refused a_size a_sort z_steps z_kind z_space z_other z_times z_speed z_base z_share z_notes z_pitch z_beats z_shown z_words z_tell z_was z_kept z_cutSpace z_cutTimes z_cutOff z_trace v_stretches v_cars v_tunes v_along v_near v_borne v_tempo v_seed v_fault v_from v_at v_end v_told v_wrongAt v_culprit v_ran v_isKept u.1 u.2.1 f_held u.2.2 f_size f_sort) t.heap) A) args s 0 0 A) (F0 m 205 ls []) := by
  intro n
  induction n with
  | zero =>
    intro x6 g_cells H locs ls h hP hD hS hl
    exact h.elim
  | succ n ih =>
    intro x6 g_cells H locs ls h hP hD hS hl
    rw [L_X10_copy_205] at h
    have hx := S.1
    have hb := S.2.1
    refine lv_iload hx hb dX10_copy_205 (lv_at hl 4 rfl) ?_
    refine lv_iload hx hb dX10_copy_207 (lv_at hl 3 rfl) ?_
    refine lv_icmp_ge (tgt := 241) hx hb dX10_copy_209 (by decide) (fun hc => ?_) (fun hc => ?_)
    · have h := h.1 hc
      refine lv_iconst (v := 1) hx hb dX10_copy_241 (by decide) ?_
      exact W.iret hx hb hr (fun t ht _ => ⟨⟨_, (g_carried, g_cells, f_refused), rfl, h, hPt hP ht⟩, hS.F ht⟩) hS.2.2 dX10_copy_242
    have h := h.2 hc
    refine lv_aload_n hx hb dX10_copy_212 rfl (lv_at hl 0 rfl) ?_
    refine gf S hE hP 0 rfl rfl inX10 (k := 25) (by decide) q1118 rfl dX10_copy_213 ?_
    refine lv_sipush (v := 160) hx hb dX10_copy_216 (by decide) ?_
    refine lv_iload_n hx hb dX10_copy_219 rfl (lv_at hl 1 rfl) ?_
    refine lv_imul hx hb dX10_copy_220 ?_
    refine lv_iload hx hb dX10_copy_221 (lv_at hl 2 rfl) ?_
    refine lv_iadd hx hb dX10_copy_223 ?_
    refine lv_iload hx hb dX10_copy_224 (lv_at hl 4 rfl) ?_
    refine lv_iadd hx hb dX10_copy_226 ?_
    refine lv_aload_n hx hb dX10_copy_227 rfl (lv_at hl 0 rfl) ?_
    refine gf S hE hP 0 rfl rfl inX10 (k := 26) (by decide) q1119 rfl dX10_copy_228 ?_
    refine lv_iload hx hb dX10_copy_231 (lv_at hl 4 rfl) ?_
    obtain ⟨hi, h⟩ := h
    refine lal S hE hP 1 rfl hi dX10_copy_233 ?_
    obtain ⟨hi, h⟩ := h
    refine las S hE hP hD hS 2 rfl hi dX10_copy_234 (fun H locs hP hD hS => ?_)
    have hP : va_P D vwCl (wX10_copy cI cJ cS a_o a_carried a_cells a_held a_refused a_size a_sort z_steps z_kind z_space z_other z_times z_speed z_base z_share z_notes z_pitch z_beats z_shown z_words z_tell z_was z_kept z_cutSpace z_cutTimes z_cutOff z_trace v_stretches v_cars v_tunes v_along v_near v_borne v_tempo v_seed v_fault v_from v_at v_end v_told v_wrongAt v_culprit v_ran v_isKept g_carried (vp_updL g_cells (((160 * x2) + x4) + x6).toNatClampNeg (g_carried x6.toNatClampNeg)) f_held f_refused f_size f_sort) H := hP
    have hD : va_D A (wX10_copy cI cJ cS a_o a_carried a_cells a_held a_refused a_size a_sort z_steps z_kind z_space z_other z_times z_speed z_base z_share z_notes z_pitch z_beats z_shown z_words z_tell z_was z_kept z_cutSpace z_cutTimes z_cutOff z_trace v_stretches v_cars v_tunes v_along v_near v_borne v_tempo v_seed v_fault v_from v_at v_end v_told v_wrongAt v_culprit v_ran v_isKept g_carried (vp_updL g_cells (((160 * x2) + x4) + x6).toNatClampNeg (g_carried x6.toNatClampNeg)) f_held f_refused f_size f_sort) := hD
    obtain ⟨x6_235, ex6_235⟩ : ∃ z : Int32, z = x6 + 1 := ⟨_, rfl⟩
    have h := h _ ex6_235
    refine lv_iinc (v := x6_235) (lv' := [(6, .int x6_235), (0, .ref a_o), (2, .int x2), (4, .int x4), (5, .int x5)]) hx hb dX10_copy_235 hl (k := 4) rfl (by rw [ex6_235]; rfl) (by decide) rfl (fun ls hl => ?_)
    refine lv_goto (tgt := 205) hx hb dX10_copy_238 (by decide) ?_
    exact ih _ _ _ _ _ h hP hD hS (lv_sub hl [1, 2, 3, 4, 0] rfl)
set_option maxHeartbeats 4000000 in
set_option maxRecDepth 100000 in
theorem w_X10_copy_167 {l : Launch} {D : va_G} {cI cJ cS : ClassId} {ad adK : Nat → Nat} {a_o a_carried a_cells a_held a_refused a_size a_sort : Nat} {z_steps z_kind z_space z_other z_times z_speed z_base z_share z_notes z_pitch z_beats z_shown z_words z_tell z_was z_kept z_cutSpace z_cutTimes z_cutOff z_trace : Value} {v_stretches : Int32} {v_cars : Int32} {v_tunes : Int32} {v_along : Int32} {v_near : Int32} {v_borne : Int32} {v_tempo : Int32} {v_seed : Int32} {v_fault : Int32} {v_from : Int32} {v_at : Int32} {v_end : Int32} {v_told : Int32} {v_wrongAt : Int32} {v_culprit : Int32} {v_ran : Int32} {v_isKept : Int32} {f_held : Nat → Int32} {f_refused : Nat → Int32} {f_size : Nat → Int32} {f_sort : Nat → Int32} {x1 : Int32} {x2 : Int32} {x3 : Int32} {x4 : Int32} {x5 : Int32} {post : Int32 → (Nat → Int64) → (Nat → Int64) → (Nat → Int32) → Prop} {p : Program} {e : Env} {s : State} {m : MethodId} {args : Array Value} {below : List Frame} {meth : Method} {c : Code} {A : Nat → Prop} (S : CallFix p m c cX10_copy 7 s args GW "RoadThatSingsModel") (hE : EN D cI cJ cS s) (hT : ST ad adK A s s.heap) (hA : ∀ q : Nat, s.heap.size ≤ q → A q) (hr : meth.sig.returnType = (some (.int))) (hlocks : meth.locks = false) : ∀ n : Nat, ∀ (x6 : Int32) (g_carried : Nat → Int64) (g_cells : Nat → Int64) (H : Heap) (locs : List Loc) (ls : Array Slot), L_X10_copy_167 x1 x2 x3 x4 x5 f_refused post n x6 g_carried g_cells → va_P D vwCl (wX10_copy cI cJ cS a_o a_carried a_cells a_held a_refused a_size a_sort z_steps z_kind z_space z_other z_times z_speed z_base z_share z_notes z_pitch z_beats z_shown z_words z_tell z_was z_kept z_cutSpace z_cutTimes z_cutOff z_trace v_stretches v_cars v_tunes v_along v_near v_borne v_tempo v_seed v_fault v_from v_at v_end v_told v_wrongAt v_culprit v_ran v_isKept g_carried g_cells f_held f_refused f_size f_sort) H → va_D A (wX10_copy cI cJ cS a_o a_carried a_cells a_held a_refused a_size a_sort z_steps z_kind z_space z_other z_times z_speed z_base z_share z_notes z_pitch z_beats z_shown z_words z_tell z_was z_kept z_cutSpace z_cutTimes z_cutOff z_trace v_stretches v_cars v_tunes v_along v_near v_borne v_tempo v_seed v_fault v_from v_at v_end v_told v_wrongAt v_culprit v_ran v_isKept g_carried g_cells f_held f_refused f_size f_sort) → va_S A s.heap H locs → lv_has ls 7 [(0, .ref a_o), (1, .int x1), (2, .int x2), (3, .int x3), (4, .int x4), (5, .int x5), (6, .int x6)] → W p l e (rmd 1 0 0) s m args below meth c H locs 0 0 (MQ below (va_Qi (fun r (u : (Nat → Int64) × (Nat → Int64) × (Nat → Int32)) => post r u.1 u.2.1 u.2.2) (fun u t => va_P D vwCl (wX10_copy cI cJ cS a_o a_carried a_cells a_held a_refused a_size a_sort z_steps z_kind z_space z_other z_times z_speed z_base z_share z_notes z_pitch z_beats z_shown z_words z_tell z_was z_kept z_cutSpace z_cutTimes z_cutOff z_trace v_stretches v_cars v_tunes v_along v_near v_borne v_tempo v_seed v_fault v_from v_at v_end v_told v_wrongAt v_culprit v_ran v_isKept u.1 u.2.1 f_held u.2.2 f_size f_sort) t.heap) A) args s 0 0 A) (F0 m 167 ls []) := by
  intro n
  induction n with
  | zero =>
    intro x6 g_carried g_cells H locs ls h hP hD hS hl
    exact h.elim
  | succ n ih =>
    intro x6 g_carried g_cells H locs ls h hP hD hS hl
    rw [L_X10_copy_167] at h
    have hx := S.1
    have hb := S.2.1
    refine lv_iload hx hb dX10_copy_167 (lv_at hl 6 rfl) ?_
    refine lv_iload hx hb dX10_copy_169 (lv_at hl 5 rfl) ?_
    refine lv_icmp_ge (tgt := 202) hx hb dX10_copy_171 (by decide) (fun hc => ?_) (fun hc => ?_)
    · have h := h.1 hc
      refine lv_iconst (v := 0) hx hb dX10_copy_202 (by decide) ?_
      refine lv_istore (lv' := [(6, .int 0), (0, .ref a_o), (1, .int x1), (2, .int x2), (3, .int x3), (4, .int x4), (5, .int x5)]) hx hb dX10_copy_203 hl (by decide) rfl (fun ls hl => ?_)
      obtain ⟨n, h⟩ := h
      refine w_X10_copy_205 S hE hT hA hr hlocks n _ _ _ _ _ h hP hD hS (lv_sub hl [1, 3, 5, 6, 0] rfl)
    have h := h.2 hc
    refine lv_aload_n hx hb dX10_copy_174 rfl (lv_at hl 0 rfl) ?_
    refine gf S hE hP 0 rfl rfl inX10 (k := 26) (by decide) q1119 rfl dX10_copy_175 ?_
    refine lv_iload hx hb dX10_copy_178 (lv_at hl 6 rfl) ?_
    refine lv_aload_n hx hb dX10_copy_180 rfl (lv_at hl 0 rfl) ?_
    refine gf S hE hP 0 rfl rfl inX10 (k := 25) (by decide) q1118 rfl dX10_copy_181 ?_
    refine lv_sipush (v := 160) hx hb dX10_copy_184 (by decide) ?_
    refine lv_iload_n hx hb dX10_copy_187 rfl (lv_at hl 1 rfl) ?_
    refine lv_imul hx hb dX10_copy_188 ?_
    refine lv_iload_n hx hb dX10_copy_189 rfl (lv_at hl 3 rfl) ?_
    refine lv_iadd hx hb dX10_copy_190 ?_
    refine lv_iload hx hb dX10_copy_191 (lv_at hl 6 rfl) ?_
    refine lv_iadd hx hb dX10_copy_193 ?_
    obtain ⟨hi, h⟩ := h
    refine lal S hE hP 2 rfl hi dX10_copy_194 ?_
    obtain ⟨hi, h⟩ := h
    refine las S hE hP hD hS 1 rfl hi dX10_copy_195 (fun H locs hP hD hS => ?_)
    have hP : va_P D vwCl (wX10_copy cI cJ cS a_o a_carried a_cells a_held a_refused a_size a_sort z_steps z_kind z_space z_other z_times z_speed z_base z_share z_notes z_pitch z_beats z_shown z_words z_tell z_was z_kept z_cutSpace z_cutTimes z_cutOff z_trace v_stretches v_cars v_tunes v_along v_near v_borne v_tempo v_seed v_fault v_from v_at v_end v_told v_wrongAt v_culprit v_ran v_isKept (vp_updL g_carried x6.toNatClampNeg (g_cells (((160 * x1) + x3) + x6).toNatClampNeg)) g_cells f_held f_refused f_size f_sort) H := hP
    have hD : va_D A (wX10_copy cI cJ cS a_o a_carried a_cells a_held a_refused a_size a_sort z_steps z_kind z_space z_other z_times z_speed z_base z_share z_notes z_pitch z_beats z_shown z_words z_tell z_was z_kept z_cutSpace z_cutTimes z_cutOff z_trace v_stretches v_cars v_tunes v_along v_near v_borne v_tempo v_seed v_fault v_from v_at v_end v_told v_wrongAt v_culprit v_ran v_isKept (vp_updL g_carried x6.toNatClampNeg (g_cells (((160 * x1) + x3) + x6).toNatClampNeg)) g_cells f_held f_refused f_size f_sort) := hD
    obtain ⟨x6_196, ex6_196⟩ : ∃ z : Int32, z = x6 + 1 := ⟨_, rfl⟩
    have h := h _ ex6_196
    refine lv_iinc (v := x6_196) (lv' := [(6, .int x6_196), (0, .ref a_o), (1, .int x1), (2, .int x2), (3, .int x3), (4, .int x4), (5, .int x5)]) hx hb dX10_copy_196 hl (k := 6) rfl (by rw [ex6_196]; rfl) (by decide) rfl (fun ls hl => ?_)
    refine lv_goto (tgt := 167) hx hb dX10_copy_199 (by decide) ?_
    exact ih _ _ _ _ _ _ h hP hD hS (lv_sub hl [1, 2, 3, 4, 5, 6, 0] rfl)
set_option maxHeartbeats 4000000 in
set_option maxRecDepth 100000 in
theorem w_X10_copy_84 {l : Launch} {D : va_G} {cI cJ cS : ClassId} {ad adK : Nat → Nat} {a_o a_carried a_cells a_held a_refused a_size a_sort : Nat} {z_steps z_kind z_space z_other z_times z_speed z_base z_share z_notes z_pitch z_beats z_shown z_words z_tell z_was z_kept z_cutSpace z_cutTimes z_cutOff z_trace : Value} {v_stretches : Int32} {v_cars : Int32} {v_tunes : Int32} {v_along : Int32} {v_near : Int32} {v_borne : Int32} {v_tempo : Int32} {v_seed : Int32} {v_fault : Int32} {v_from : Int32} {v_at : Int32} {v_end : Int32} {v_told : Int32} {v_wrongAt : Int32} {v_culprit : Int32} {v_ran : Int32} {v_isKept : Int32} {g_carried : Nat → Int64} {g_cells : Nat → Int64} {f_held : Nat → Int32} {f_refused : Nat → Int32} {f_size : Nat → Int32} {f_sort : Nat → Int32} {x1 : Int32} {x2 : Int32} {x3 : Int32} {x4 : Int32} {x5 : Int32} {post : Int32 → (Nat → Int64) → (Nat → Int64) → (Nat → Int32) → Prop} {p : Program} {e : Env} {s : State} {m : MethodId} {args : Array Value} {below : List Frame} {meth : Method} {c : Code} {A : Nat → Prop} (S : CallFix p m c cX10_copy 7 s args GW "RoadThatSingsModel") (hE : EN D cI cJ cS s) (hT : ST ad adK A s s.heap) (hA : ∀ q : Nat, s.heap.size ≤ q → A q) (hr : meth.sig.returnType = (some (.int))) (hlocks : meth.locks = false) : ∀ (H : Heap) (locs : List Loc) (ls : Array Slot), F_X10_copy_84 f_held f_size post x1 x2 x3 x4 x5 g_carried g_cells f_refused → va_P D vwCl (wX10_copy cI cJ cS a_o a_carried a_cells a_held a_refused a_size a_sort z_steps z_kind z_space z_other z_times z_speed z_base z_share z_notes z_pitch z_beats z_shown z_words z_tell z_was z_kept z_cutSpace z_cutTimes z_cutOff z_trace v_stretches v_cars v_tunes v_along v_near v_borne v_tempo v_seed v_fault v_from v_at v_end v_told v_wrongAt v_culprit v_ran v_isKept g_carried g_cells f_held f_refused f_size f_sort) H → va_D A (wX10_copy cI cJ cS a_o a_carried a_cells a_held a_refused a_size a_sort z_steps z_kind z_space z_other z_times z_speed z_base z_share z_notes z_pitch z_beats z_shown z_words z_tell z_was z_kept z_cutSpace z_cutTimes z_cutOff z_trace v_stretches v_cars v_tunes v_along v_near v_borne v_tempo v_seed v_fault v_from v_at v_end v_told v_wrongAt v_culprit v_ran v_isKept g_carried g_cells f_held f_refused f_size f_sort) → va_S A s.heap H locs → lv_has ls 7 [(0, .ref a_o), (1, .int x1), (2, .int x2), (3, .int x3), (4, .int x4), (5, .int x5)] → W p l e (rmd 1 0 0) s m args below meth c H locs 0 0 (MQ below (va_Qi (fun r (u : (Nat → Int64) × (Nat → Int64) × (Nat → Int32)) => post r u.1 u.2.1 u.2.2) (fun u t => va_P D vwCl (wX10_copy cI cJ cS a_o a_carried a_cells a_held a_refused a_size a_sort z_steps z_kind z_space z_other z_times z_speed z_base z_share z_notes z_pitch z_beats z_shown z_words z_tell z_was z_kept z_cutSpace z_cutTimes z_cutOff z_trace v_stretches v_cars v_tunes v_along v_near v_borne v_tempo v_seed v_fault v_from v_at v_end v_told v_wrongAt v_culprit v_ran v_isKept u.1 u.2.1 f_held u.2.2 f_size f_sort) t.heap) A) args s 0 0 A) (F0 m 84 ls []) := by
  intro  H locs ls h hP hD hS hl
  unfold F_X10_copy_84 at h
  have hx := S.1
  have hb := S.2.1
  refine lv_aload_n hx hb dX10_copy_84 rfl (lv_at hl 0 rfl) ?_
  refine gf S hE hP 0 rfl rfl inX10 (k := 21) (by decide) q1114 rfl dX10_copy_85 ?_
  refine lv_iload_n hx hb dX10_copy_88 rfl (lv_at hl 1 rfl) ?_
  obtain ⟨hi, h⟩ := h
  refine ial S hE hP 3 rfl hi dX10_copy_89 ?_
  refine lv_if_eq (tgt := 102) hx hb dX10_copy_90 (by decide) (fun hc => ?_) (fun hc => ?_)
  · have h := h.1 hc
    refine lv_aload_n hx hb dX10_copy_102 rfl (lv_at hl 0 rfl) ?_
    refine lv_bipush (v := (-3)) hx hb dX10_copy_103 (by decide) ?_
    refine rw_i (rwV S hE hT hS hP hD hA (c_X10_no h) [0, 4] rfl (by decide) lkX10_121 rfl ⟨(Nat.le_of_ble_eq_true rfl), (Nat.le_of_ble_eq_true rfl)⟩ 0 rfl rfl hl.1 rfl (Nat.le_of_ble_eq_true rfl) dX10_copy_105 ⟨(Nat.zero_le _), (Nat.zero_le _)⟩) hP hD hS hA [0, 4] rfl (by decide) (fun _ => rfl) (fun r105 w105_0 H locs h hP hD hS => ?_)
    try dsimp only at h
    have hP : va_P D vwCl (wX10_copy cI cJ cS a_o a_carried a_cells a_held a_refused a_size a_sort z_steps z_kind z_space z_other z_times z_speed z_base z_share z_notes z_pitch z_beats z_shown z_words z_tell z_was z_kept z_cutSpace z_cutTimes z_cutOff z_trace v_stretches v_cars v_tunes v_along v_near v_borne v_tempo v_seed v_fault v_from v_at v_end v_told v_wrongAt v_culprit v_ran v_isKept g_carried g_cells f_held w105_0 f_size f_sort) H := hP
    have hD : va_D A (wX10_copy cI cJ cS a_o a_carried a_cells a_held a_refused a_size a_sort z_steps z_kind z_space z_other z_times z_speed z_base z_share z_notes z_pitch z_beats z_shown z_words z_tell z_was z_kept z_cutSpace z_cutTimes z_cutOff z_trace v_stretches v_cars v_tunes v_along v_near v_borne v_tempo v_seed v_fault v_from v_at v_end v_told v_wrongAt v_culprit v_ran v_isKept g_carried g_cells f_held w105_0 f_size f_sort) := hD
    exact W.iret hx hb hr (fun t ht _ => ⟨⟨_, (g_carried, g_cells, w105_0), rfl, h, hPt hP ht⟩, hS.F ht⟩) hS.2.2 dX10_copy_108
  have h := h.2 hc
  refine lv_aload_n hx hb dX10_copy_93 rfl (lv_at hl 0 rfl) ?_
  refine gf S hE hP 0 rfl rfl inX10 (k := 21) (by decide) q1114 rfl dX10_copy_94 ?_
  refine lv_iload_n hx hb dX10_copy_97 rfl (lv_at hl 2 rfl) ?_
  obtain ⟨hi, h⟩ := h
  refine ial S hE hP 3 rfl hi dX10_copy_98 ?_
  refine lv_if_ne (tgt := 109) hx hb dX10_copy_99 (by decide) (fun hc => ?_) (fun hc => ?_)
  · have h := h.2 hc
    refine lv_iload hx hb dX10_copy_109 (lv_at hl 5 rfl) ?_
    refine lv_if_ge (tgt := 121) hx hb dX10_copy_111 (by decide) (fun hc => ?_) (fun hc => ?_)
    · have h := h.1 hc
      refine lv_iload_n hx hb dX10_copy_121 rfl (lv_at hl 3 rfl) ?_
      refine lv_if_lt (tgt := 157) hx hb dX10_copy_122 (by decide) (fun hc => ?_) (fun hc => ?_)
      · have h := h.1 hc
        refine lv_aload_n hx hb dX10_copy_157 rfl (lv_at hl 0 rfl) ?_
        refine lv_bipush (v := (-5)) hx hb dX10_copy_158 (by decide) ?_
        refine rw_i (rwV S hE hT hS hP hD hA (c_X10_no h) [0, 4] rfl (by decide) lkX10_121 rfl ⟨(Nat.le_of_ble_eq_true rfl), (Nat.le_of_ble_eq_true rfl)⟩ 0 rfl rfl hl.1 rfl (Nat.le_of_ble_eq_true rfl) dX10_copy_160 ⟨(Nat.zero_le _), (Nat.zero_le _)⟩) hP hD hS hA [0, 4] rfl (by decide) (fun _ => rfl) (fun r160 w160_0 H locs h hP hD hS => ?_)
        try dsimp only at h
        have hP : va_P D vwCl (wX10_copy cI cJ cS a_o a_carried a_cells a_held a_refused a_size a_sort z_steps z_kind z_space z_other z_times z_speed z_base z_share z_notes z_pitch z_beats z_shown z_words z_tell z_was z_kept z_cutSpace z_cutTimes z_cutOff z_trace v_stretches v_cars v_tunes v_along v_near v_borne v_tempo v_seed v_fault v_from v_at v_end v_told v_wrongAt v_culprit v_ran v_isKept g_carried g_cells f_held w160_0 f_size f_sort) H := hP
        have hD : va_D A (wX10_copy cI cJ cS a_o a_carried a_cells a_held a_refused a_size a_sort z_steps z_kind z_space z_other z_times z_speed z_base z_share z_notes z_pitch z_beats z_shown z_words z_tell z_was z_kept z_cutSpace z_cutTimes z_cutOff z_trace v_stretches v_cars v_tunes v_along v_near v_borne v_tempo v_seed v_fault v_from v_at v_end v_told v_wrongAt v_culprit v_ran v_isKept g_carried g_cells f_held w160_0 f_size f_sort) := hD
        exact W.iret hx hb hr (fun t ht _ => ⟨⟨_, (g_carried, g_cells, w160_0), rfl, h, hPt hP ht⟩, hS.F ht⟩) hS.2.2 dX10_copy_163
      have h := h.2 hc
      refine lv_iload hx hb dX10_copy_125 (lv_at hl 4 rfl) ?_
      refine lv_if_lt (tgt := 157) hx hb dX10_copy_127 (by decide) (fun hc => ?_) (fun hc => ?_)
      · have h := h.1 hc
        refine lv_aload_n hx hb dX10_copy_157 rfl (lv_at hl 0 rfl) ?_
        refine lv_bipush (v := (-5)) hx hb dX10_copy_158 (by decide) ?_
        refine rw_i (rwV S hE hT hS hP hD hA (c_X10_no h) [0, 4] rfl (by decide) lkX10_121 rfl ⟨(Nat.le_of_ble_eq_true rfl), (Nat.le_of_ble_eq_true rfl)⟩ 0 rfl rfl hl.1 rfl (Nat.le_of_ble_eq_true rfl) dX10_copy_160 ⟨(Nat.zero_le _), (Nat.zero_le _)⟩) hP hD hS hA [0, 4] rfl (by decide) (fun _ => rfl) (fun r160 w160_0 H locs h hP hD hS => ?_)
        try dsimp only at h
        have hP : va_P D vwCl (wX10_copy cI cJ cS a_o a_carried a_cells a_held a_refused a_size a_sort z_steps z_kind z_space z_other z_times z_speed z_base z_share z_notes z_pitch z_beats z_shown z_words z_tell z_was z_kept z_cutSpace z_cutTimes z_cutOff z_trace v_stretches v_cars v_tunes v_along v_near v_borne v_tempo v_seed v_fault v_from v_at v_end v_told v_wrongAt v_culprit v_ran v_isKept g_carried g_cells f_held w160_0 f_size f_sort) H := hP
        have hD : va_D A (wX10_copy cI cJ cS a_o a_carried a_cells a_held a_refused a_size a_sort z_steps z_kind z_space z_other z_times z_speed z_base z_share z_notes z_pitch z_beats z_shown z_words z_tell z_was z_kept z_cutSpace z_cutTimes z_cutOff z_trace v_stretches v_cars v_tunes v_along v_near v_borne v_tempo v_seed v_fault v_from v_at v_end v_told v_wrongAt v_culprit v_ran v_isKept g_carried g_cells f_held w160_0 f_size f_sort) := hD
        exact W.iret hx hb hr (fun t ht _ => ⟨⟨_, (g_carried, g_cells, w160_0), rfl, h, hPt hP ht⟩, hS.F ht⟩) hS.2.2 dX10_copy_163
      have h := h.2 hc
      refine lv_iload_n hx hb dX10_copy_130 rfl (lv_at hl 3 rfl) ?_
      refine lv_aload_n hx hb dX10_copy_131 rfl (lv_at hl 0 rfl) ?_
      refine gf S hE hP 0 rfl rfl inX10 (k := 23) (by decide) q1116 rfl dX10_copy_132 ?_
      refine lv_iload_n hx hb dX10_copy_135 rfl (lv_at hl 1 rfl) ?_
      obtain ⟨hi, h⟩ := h
      refine ial S hE hP 5 rfl hi dX10_copy_136 ?_
      refine lv_iload hx hb dX10_copy_137 (lv_at hl 5 rfl) ?_
      refine lv_isub hx hb dX10_copy_139 ?_
      refine lv_icmp_gt (tgt := 157) hx hb dX10_copy_140 (by decide) (fun hc => ?_) (fun hc => ?_)
      · have h := h.1 hc
        refine lv_aload_n hx hb dX10_copy_157 rfl (lv_at hl 0 rfl) ?_
        refine lv_bipush (v := (-5)) hx hb dX10_copy_158 (by decide) ?_
        refine rw_i (rwV S hE hT hS hP hD hA (c_X10_no h) [0, 4] rfl (by decide) lkX10_121 rfl ⟨(Nat.le_of_ble_eq_true rfl), (Nat.le_of_ble_eq_true rfl)⟩ 0 rfl rfl hl.1 rfl (Nat.le_of_ble_eq_true rfl) dX10_copy_160 ⟨(Nat.zero_le _), (Nat.zero_le _)⟩) hP hD hS hA [0, 4] rfl (by decide) (fun _ => rfl) (fun r160 w160_0 H locs h hP hD hS => ?_)
        try dsimp only at h
        have hP : va_P D vwCl (wX10_copy cI cJ cS a_o a_carried a_cells a_held a_refused a_size a_sort z_steps z_kind z_space z_other z_times z_speed z_base z_share z_notes z_pitch z_beats z_shown z_words z_tell z_was z_kept z_cutSpace z_cutTimes z_cutOff z_trace v_stretches v_cars v_tunes v_along v_near v_borne v_tempo v_seed v_fault v_from v_at v_end v_told v_wrongAt v_culprit v_ran v_isKept g_carried g_cells f_held w160_0 f_size f_sort) H := hP
        have hD : va_D A (wX10_copy cI cJ cS a_o a_carried a_cells a_held a_refused a_size a_sort z_steps z_kind z_space z_other z_times z_speed z_base z_share z_notes z_pitch z_beats z_shown z_words z_tell z_was z_kept z_cutSpace z_cutTimes z_cutOff z_trace v_stretches v_cars v_tunes v_along v_near v_borne v_tempo v_seed v_fault v_from v_at v_end v_told v_wrongAt v_culprit v_ran v_isKept g_carried g_cells f_held w160_0 f_size f_sort) := hD
        exact W.iret hx hb hr (fun t ht _ => ⟨⟨_, (g_carried, g_cells, w160_0), rfl, h, hPt hP ht⟩, hS.F ht⟩) hS.2.2 dX10_copy_163
      have h := h.2 hc
      refine lv_iload hx hb dX10_copy_143 (lv_at hl 4 rfl) ?_
      refine lv_aload_n hx hb dX10_copy_145 rfl (lv_at hl 0 rfl) ?_
      refine gf S hE hP 0 rfl rfl inX10 (k := 23) (by decide) q1116 rfl dX10_copy_146 ?_
      refine lv_iload_n hx hb dX10_copy_149 rfl (lv_at hl 2 rfl) ?_
      obtain ⟨hi, h⟩ := h
      refine ial S hE hP 5 rfl hi dX10_copy_150 ?_
      refine lv_iload hx hb dX10_copy_151 (lv_at hl 5 rfl) ?_
      refine lv_isub hx hb dX10_copy_153 ?_
      refine lv_icmp_le (tgt := 164) hx hb dX10_copy_154 (by decide) (fun hc => ?_) (fun hc => ?_)
      · have h := h.1 hc
        refine lv_iconst (v := 0) hx hb dX10_copy_164 (by decide) ?_
        refine lv_istore (lv' := [(6, .int 0), (0, .ref a_o), (1, .int x1), (2, .int x2), (3, .int x3), (4, .int x4), (5, .int x5)]) hx hb dX10_copy_165 hl (by decide) rfl (fun ls hl => ?_)
        obtain ⟨n, h⟩ := h
        refine w_X10_copy_167 S hE hT hA hr hlocks n _ _ _ _ _ _ h hP hD hS (lv_sub hl [1, 2, 3, 4, 5, 6, 0] rfl)
      have h := h.2 hc
      refine lv_aload_n hx hb dX10_copy_157 rfl (lv_at hl 0 rfl) ?_
      refine lv_bipush (v := (-5)) hx hb dX10_copy_158 (by decide) ?_
      refine rw_i (rwV S hE hT hS hP hD hA (c_X10_no h) [0, 4] rfl (by decide) lkX10_121 rfl ⟨(Nat.le_of_ble_eq_true rfl), (Nat.le_of_ble_eq_true rfl)⟩ 0 rfl rfl hl.1 rfl (Nat.le_of_ble_eq_true rfl) dX10_copy_160 ⟨(Nat.zero_le _), (Nat.zero_le _)⟩) hP hD hS hA [0, 4] rfl (by decide) (fun _ => rfl) (fun r160 w160_0 H locs h hP hD hS => ?_)
      try dsimp only at h
      have hP : va_P D vwCl (wX10_copy cI cJ cS a_o a_carried a_cells a_held a_refused a_size a_sort z_steps z_kind z_space z_other z_times z_speed z_base z_share z_notes z_pitch z_beats z_shown z_words z_tell z_was z_kept z_cutSpace z_cutTimes z_cutOff z_trace v_stretches v_cars v_tunes v_along v_near v_borne v_tempo v_seed v_fault v_from v_at v_end v_told v_wrongAt v_culprit v_ran v_isKept g_carried g_cells f_held w160_0 f_size f_sort) H := hP
      have hD : va_D A (wX10_copy cI cJ cS a_o a_carried a_cells a_held a_refused a_size a_sort z_steps z_kind z_space z_other z_times z_speed z_base z_share z_notes z_pitch z_beats z_shown z_words z_tell z_was z_kept z_cutSpace z_cutTimes z_cutOff z_trace v_stretches v_cars v_tunes v_along v_near v_borne v_tempo v_seed v_fault v_from v_at v_end v_told v_wrongAt v_culprit v_ran v_isKept g_carried g_cells f_held w160_0 f_size f_sort) := hD
      exact W.iret hx hb hr (fun t ht _ => ⟨⟨_, (g_carried, g_cells, w160_0), rfl, h, hPt hP ht⟩, hS.F ht⟩) hS.2.2 dX10_copy_163
    have h := h.2 hc
    refine lv_aload_n hx hb dX10_copy_114 rfl (lv_at hl 0 rfl) ?_
    refine lv_bipush (v := (-4)) hx hb dX10_copy_115 (by decide) ?_
    refine rw_i (rwV S hE hT hS hP hD hA (c_X10_no h) [0, 4] rfl (by decide) lkX10_121 rfl ⟨(Nat.le_of_ble_eq_true rfl), (Nat.le_of_ble_eq_true rfl)⟩ 0 rfl rfl hl.1 rfl (Nat.le_of_ble_eq_true rfl) dX10_copy_117 ⟨(Nat.zero_le _), (Nat.zero_le _)⟩) hP hD hS hA [0, 4] rfl (by decide) (fun _ => rfl) (fun r117 w117_0 H locs h hP hD hS => ?_)
    try dsimp only at h
    have hP : va_P D vwCl (wX10_copy cI cJ cS a_o a_carried a_cells a_held a_refused a_size a_sort z_steps z_kind z_space z_other z_times z_speed z_base z_share z_notes z_pitch z_beats z_shown z_words z_tell z_was z_kept z_cutSpace z_cutTimes z_cutOff z_trace v_stretches v_cars v_tunes v_along v_near v_borne v_tempo v_seed v_fault v_from v_at v_end v_told v_wrongAt v_culprit v_ran v_isKept g_carried g_cells f_held w117_0 f_size f_sort) H := hP
    have hD : va_D A (wX10_copy cI cJ cS a_o a_carried a_cells a_held a_refused a_size a_sort z_steps z_kind z_space z_other z_times z_speed z_base z_share z_notes z_pitch z_beats z_shown z_words z_tell z_was z_kept z_cutSpace z_cutTimes z_cutOff z_trace v_stretches v_cars v_tunes v_along v_near v_borne v_tempo v_seed v_fault v_from v_at v_end v_told v_wrongAt v_culprit v_ran v_isKept g_carried g_cells f_held w117_0 f_size f_sort) := hD
    exact W.iret hx hb hr (fun t ht _ => ⟨⟨_, (g_carried, g_cells, w117_0), rfl, h, hPt hP ht⟩, hS.F ht⟩) hS.2.2 dX10_copy_120
  have h := h.1 hc
  refine lv_aload_n hx hb dX10_copy_102 rfl (lv_at hl 0 rfl) ?_
  refine lv_bipush (v := (-3)) hx hb dX10_copy_103 (by decide) ?_
  refine rw_i (rwV S hE hT hS hP hD hA (c_X10_no h) [0, 4] rfl (by decide) lkX10_121 rfl ⟨(Nat.le_of_ble_eq_true rfl), (Nat.le_of_ble_eq_true rfl)⟩ 0 rfl rfl hl.1 rfl (Nat.le_of_ble_eq_true rfl) dX10_copy_105 ⟨(Nat.zero_le _), (Nat.zero_le _)⟩) hP hD hS hA [0, 4] rfl (by decide) (fun _ => rfl) (fun r105 w105_0 H locs h hP hD hS => ?_)
  try dsimp only at h
  have hP : va_P D vwCl (wX10_copy cI cJ cS a_o a_carried a_cells a_held a_refused a_size a_sort z_steps z_kind z_space z_other z_times z_speed z_base z_share z_notes z_pitch z_beats z_shown z_words z_tell z_was z_kept z_cutSpace z_cutTimes z_cutOff z_trace v_stretches v_cars v_tunes v_along v_near v_borne v_tempo v_seed v_fault v_from v_at v_end v_told v_wrongAt v_culprit v_ran v_isKept g_carried g_cells f_held w105_0 f_size f_sort) H := hP
  have hD : va_D A (wX10_copy cI cJ cS a_o a_carried a_cells a_held a_refused a_size a_sort z_steps z_kind z_space z_other z_times z_speed z_base z_share z_notes z_pitch z_beats z_shown z_words z_tell z_was z_kept z_cutSpace z_cutTimes z_cutOff z_trace v_stretches v_cars v_tunes v_along v_near v_borne v_tempo v_seed v_fault v_from v_at v_end v_told v_wrongAt v_culprit v_ran v_isKept g_carried g_cells f_held w105_0 f_size f_sort) := hD
  exact W.iret hx hb hr (fun t ht _ => ⟨⟨_, (g_carried, g_cells, w105_0), rfl, h, hPt hP ht⟩, hS.F ht⟩) hS.2.2 dX10_copy_108
set_option maxHeartbeats 4000000 in
set_option maxRecDepth 100000 in
theorem c_X10_copy {l : Launch} {D : va_G} {cI cJ cS : ClassId} {ad adK : Nat → Nat} {a_o a_carried a_cells a_held a_refused a_size a_sort : Nat} {z_steps z_kind z_space z_other z_times z_speed z_base z_share z_notes z_pitch z_beats z_shown z_words z_tell z_was z_kept z_cutSpace z_cutTimes z_cutOff z_trace : Value} {v_stretches : Int32} {v_cars : Int32} {v_tunes : Int32} {v_along : Int32} {v_near : Int32} {v_borne : Int32} {v_tempo : Int32} {v_seed : Int32} {v_fault : Int32} {v_from : Int32} {v_at : Int32} {v_end : Int32} {v_told : Int32} {v_wrongAt : Int32} {v_culprit : Int32} {v_ran : Int32} {v_isKept : Int32} {g_carried : Nat → Int64} {g_cells : Nat → Int64} {f_held : Nat → Int32} {f_refused : Nat → Int32} {f_size : Nat → Int32} {f_sort : Nat → Int32} {x1 : Int32} {x2 : Int32} {x3 : Int32} {x4 : Int32} {x5 : Int32} {post : Int32 → (Nat → Int64) → (Nat → Int64) → (Nat → Int32) → Prop} (h : F_X10_copy g_carried g_cells f_held f_refused f_size f_sort x1 x2 x3 x4 x5 post) {sz : Nat} : Met l yX10_copy (Cond.code yX10_copy cX10_copy 7 (some (.int)) :: GW) (rmd 1 0 0) (PW D cI cJ cS ad adK [.ref a_o, .int x1, .int x2, .int x3, .int x4, .int x5] (wX10_copy cI cJ cS a_o a_carried a_cells a_held a_refused a_size a_sort z_steps z_kind z_space z_other z_times z_speed z_base z_share z_notes z_pitch z_beats z_shown z_words z_tell z_was z_kept z_cutSpace z_cutTimes z_cutOff z_trace v_stretches v_cars v_tunes v_along v_near v_borne v_tempo v_seed v_fault v_from v_at v_end v_told v_wrongAt v_culprit v_ran v_isKept g_carried g_cells f_held f_refused f_size f_sort) sz) (va_Qi (fun r (u : (Nat → Int64) × (Nat → Int64) × (Nat → Int32)) => post r u.1 u.2.1 u.2.2) (fun u t => va_P D vwCl (wX10_copy cI cJ cS a_o a_carried a_cells a_held a_refused a_size a_sort z_steps z_kind z_space z_other z_times z_speed z_base z_share z_notes z_pitch z_beats z_shown z_words z_tell z_was z_kept z_cutSpace z_cutTimes z_cutOff z_trace v_stretches v_cars v_tunes v_along v_near v_borne v_tempo v_seed v_fault v_from v_at v_end v_told v_wrongAt v_culprit v_ran v_isKept u.1 u.2.1 f_held u.2.2 f_size f_sort) t.heap) (va_A (wX10_copy cI cJ cS a_o a_carried a_cells a_held a_refused a_size a_sort z_steps z_kind z_space z_other z_times z_speed z_base z_share z_notes z_pitch z_beats z_shown z_words z_tell z_was z_kept z_cutSpace z_cutTimes z_cutOff z_trace v_stretches v_cars v_tunes v_along v_near v_borne v_tempo v_seed v_fault v_from v_at v_end v_told v_wrongAt v_culprit v_ran v_isKept g_carried g_cells f_held f_refused f_size f_sort) sz)) 0 0 (va_A (wX10_copy cI cJ cS a_o a_carried a_cells a_held a_refused a_size a_sort z_steps z_kind z_space z_other z_times z_speed z_base z_share z_notes z_pitch z_beats z_shown z_words z_tell z_was z_kept z_cutSpace z_cutTimes z_cutOff z_trace v_stretches v_cars v_tunes v_along v_near v_borne v_tempo v_seed v_fault v_from v_at v_end v_told v_wrongAt v_culprit v_ran v_isKept g_carried g_cells f_held f_refused f_size f_sort) sz) := by
  refine Met.rw (Qc := fun A => (va_Qi (fun r (u : (Nat → Int64) × (Nat → Int64) × (Nat → Int32)) => post r u.1 u.2.1 u.2.2) (fun u t => va_P D vwCl (wX10_copy cI cJ cS a_o a_carried a_cells a_held a_refused a_size a_sort z_steps z_kind z_space z_other z_times z_speed z_base z_share z_notes z_pitch z_beats z_shown z_words z_tell z_was z_kept z_cutSpace z_cutTimes z_cutOff z_trace v_stretches v_cars v_tunes v_along v_near v_borne v_tempo v_seed v_fault v_from v_at v_end v_told v_wrongAt v_culprit v_ran v_isKept u.1 u.2.1 f_held u.2.2 f_size f_sort) t.heap) A)) (by decide) (Nat.le_of_ble_eq_true rfl) (fun p e s m args below meth c ls A (S : CallFix p m c cX10_copy 7 s args GW "RoadThatSingsModel") hE hT hP hD hA hS hr hlocks hname hl => ?_)
  have hS0 := hS
  have hx := S.1
  have hb := S.2.1
  have hl : lv_has ls 7 [(0, .ref a_o), (1, .int x1), (2, .int x2), (3, .int x3), (4, .int x4), (5, .int x5)] := hl
  unfold F_X10_copy at h
  refine lv_aload_n hx hb dX10_copy_0 rfl (lv_at hl 0 rfl) ?_
  refine lv_iload_n hx hb dX10_copy_1 rfl (lv_at hl 1 rfl) ?_
  refine ro_i (roV S hE hT hS (c_X10_isShelf h) lkX10_117 rfl ⟨(Nat.le_of_ble_eq_true rfl), (Nat.le_of_ble_eq_true rfl)⟩ (hP.sub [0] rfl) 0 rfl rfl hl.1 rfl (Nat.le_of_ble_eq_true rfl) dX10_copy_2 ⟨(Nat.zero_le _), (Nat.zero_le _)⟩) (fun r2 h => ?_)
  refine lv_if_eq (tgt := 16) hx hb dX10_copy_5 (by decide) (fun hc => ?_) (fun hc => ?_)
  · have h := h.1 hc
    refine lv_aload_n hx hb dX10_copy_16 rfl (lv_at hl 0 rfl) ?_
    refine lv_iconst (v := (-1)) hx hb dX10_copy_17 (by decide) ?_
    refine rw_i (rwV S hE hT hS hP hD hA (c_X10_no h) [0, 4] rfl (by decide) lkX10_121 rfl ⟨(Nat.le_of_ble_eq_true rfl), (Nat.le_of_ble_eq_true rfl)⟩ 0 rfl rfl hl.1 rfl (Nat.le_of_ble_eq_true rfl) dX10_copy_18 ⟨(Nat.zero_le _), (Nat.zero_le _)⟩) hP hD hS hA [0, 4] rfl (by decide) (fun _ => rfl) (fun r18 w18_0 H locs h hP hD hS => ?_)
    try dsimp only at h
    have hP : va_P D vwCl (wX10_copy cI cJ cS a_o a_carried a_cells a_held a_refused a_size a_sort z_steps z_kind z_space z_other z_times z_speed z_base z_share z_notes z_pitch z_beats z_shown z_words z_tell z_was z_kept z_cutSpace z_cutTimes z_cutOff z_trace v_stretches v_cars v_tunes v_along v_near v_borne v_tempo v_seed v_fault v_from v_at v_end v_told v_wrongAt v_culprit v_ran v_isKept g_carried g_cells f_held w18_0 f_size f_sort) H := hP
    have hD : va_D A (wX10_copy cI cJ cS a_o a_carried a_cells a_held a_refused a_size a_sort z_steps z_kind z_space z_other z_times z_speed z_base z_share z_notes z_pitch z_beats z_shown z_words z_tell z_was z_kept z_cutSpace z_cutTimes z_cutOff z_trace v_stretches v_cars v_tunes v_along v_near v_borne v_tempo v_seed v_fault v_from v_at v_end v_told v_wrongAt v_culprit v_ran v_isKept g_carried g_cells f_held w18_0 f_size f_sort) := hD
    exact W.iret hx hb hr (fun t ht _ => ⟨⟨_, (g_carried, g_cells, w18_0), rfl, h, hPt hP ht⟩, hS.F ht⟩) hS.2.2 dX10_copy_21
  have h := h.2 hc
  refine lv_aload_n hx hb dX10_copy_8 rfl (lv_at hl 0 rfl) ?_
  refine lv_iload_n hx hb dX10_copy_9 rfl (lv_at hl 2 rfl) ?_
  refine ro_i (roV S hE hT hS (c_X10_isShelf h) lkX10_117 rfl ⟨(Nat.le_of_ble_eq_true rfl), (Nat.le_of_ble_eq_true rfl)⟩ (hP.sub [0] rfl) 0 rfl rfl hl.1 rfl (Nat.le_of_ble_eq_true rfl) dX10_copy_10 ⟨(Nat.zero_le _), (Nat.zero_le _)⟩) (fun r10 h => ?_)
  refine lv_if_ne (tgt := 22) hx hb dX10_copy_13 (by decide) (fun hc => ?_) (fun hc => ?_)
  · have h := h.2 hc
    refine lv_aload_n hx hb dX10_copy_22 rfl (lv_at hl 0 rfl) ?_
    refine gf S hE hP 0 rfl rfl inX10 (k := 21) (by decide) q1114 rfl dX10_copy_23 ?_
    refine lv_iload_n hx hb dX10_copy_26 rfl (lv_at hl 1 rfl) ?_
    obtain ⟨hi, h⟩ := h
    refine ial S hE hP 3 rfl hi dX10_copy_27 ?_
    refine lv_iconst (v := 2) hx hb dX10_copy_28 (by decide) ?_
    refine lv_icmp_eq (tgt := 77) hx hb dX10_copy_29 (by decide) (fun hc => ?_) (fun hc => ?_)
    · have h := h.1 hc
      refine lv_aload_n hx hb dX10_copy_77 rfl (lv_at hl 0 rfl) ?_
      refine lv_bipush (v := (-2)) hx hb dX10_copy_78 (by decide) ?_
      refine rw_i (rwV S hE hT hS hP hD hA (c_X10_no h) [0, 4] rfl (by decide) lkX10_121 rfl ⟨(Nat.le_of_ble_eq_true rfl), (Nat.le_of_ble_eq_true rfl)⟩ 0 rfl rfl hl.1 rfl (Nat.le_of_ble_eq_true rfl) dX10_copy_80 ⟨(Nat.zero_le _), (Nat.zero_le _)⟩) hP hD hS hA [0, 4] rfl (by decide) (fun _ => rfl) (fun r80 w80_0 H locs h hP hD hS => ?_)
      try dsimp only at h
      have hP : va_P D vwCl (wX10_copy cI cJ cS a_o a_carried a_cells a_held a_refused a_size a_sort z_steps z_kind z_space z_other z_times z_speed z_base z_share z_notes z_pitch z_beats z_shown z_words z_tell z_was z_kept z_cutSpace z_cutTimes z_cutOff z_trace v_stretches v_cars v_tunes v_along v_near v_borne v_tempo v_seed v_fault v_from v_at v_end v_told v_wrongAt v_culprit v_ran v_isKept g_carried g_cells f_held w80_0 f_size f_sort) H := hP
      have hD : va_D A (wX10_copy cI cJ cS a_o a_carried a_cells a_held a_refused a_size a_sort z_steps z_kind z_space z_other z_times z_speed z_base z_share z_notes z_pitch z_beats z_shown z_words z_tell z_was z_kept z_cutSpace z_cutTimes z_cutOff z_trace v_stretches v_cars v_tunes v_along v_near v_borne v_tempo v_seed v_fault v_from v_at v_end v_told v_wrongAt v_culprit v_ran v_isKept g_carried g_cells f_held w80_0 f_size f_sort) := hD
      exact W.iret hx hb hr (fun t ht _ => ⟨⟨_, (g_carried, g_cells, w80_0), rfl, h, hPt hP ht⟩, hS.F ht⟩) hS.2.2 dX10_copy_83
    have h := h.2 hc
    refine lv_aload_n hx hb dX10_copy_32 rfl (lv_at hl 0 rfl) ?_
    refine gf S hE hP 0 rfl rfl inX10 (k := 21) (by decide) q1114 rfl dX10_copy_33 ?_
    refine lv_iload_n hx hb dX10_copy_36 rfl (lv_at hl 2 rfl) ?_
    obtain ⟨hi, h⟩ := h
    refine ial S hE hP 3 rfl hi dX10_copy_37 ?_
    refine lv_iconst (v := 2) hx hb dX10_copy_38 (by decide) ?_
    refine lv_icmp_eq (tgt := 77) hx hb dX10_copy_39 (by decide) (fun hc => ?_) (fun hc => ?_)
    · have h := h.1 hc
      refine lv_aload_n hx hb dX10_copy_77 rfl (lv_at hl 0 rfl) ?_
      refine lv_bipush (v := (-2)) hx hb dX10_copy_78 (by decide) ?_
      refine rw_i (rwV S hE hT hS hP hD hA (c_X10_no h) [0, 4] rfl (by decide) lkX10_121 rfl ⟨(Nat.le_of_ble_eq_true rfl), (Nat.le_of_ble_eq_true rfl)⟩ 0 rfl rfl hl.1 rfl (Nat.le_of_ble_eq_true rfl) dX10_copy_80 ⟨(Nat.zero_le _), (Nat.zero_le _)⟩) hP hD hS hA [0, 4] rfl (by decide) (fun _ => rfl) (fun r80 w80_0 H locs h hP hD hS => ?_)
      try dsimp only at h
      have hP : va_P D vwCl (wX10_copy cI cJ cS a_o a_carried a_cells a_held a_refused a_size a_sort z_steps z_kind z_space z_other z_times z_speed z_base z_share z_notes z_pitch z_beats z_shown z_words z_tell z_was z_kept z_cutSpace z_cutTimes z_cutOff z_trace v_stretches v_cars v_tunes v_along v_near v_borne v_tempo v_seed v_fault v_from v_at v_end v_told v_wrongAt v_culprit v_ran v_isKept g_carried g_cells f_held w80_0 f_size f_sort) H := hP
      have hD : va_D A (wX10_copy cI cJ cS a_o a_carried a_cells a_held a_refused a_size a_sort z_steps z_kind z_space z_other z_times z_speed z_base z_share z_notes z_pitch z_beats z_shown z_words z_tell z_was z_kept z_cutSpace z_cutTimes z_cutOff z_trace v_stretches v_cars v_tunes v_along v_near v_borne v_tempo v_seed v_fault v_from v_at v_end v_told v_wrongAt v_culprit v_ran v_isKept g_carried g_cells f_held w80_0 f_size f_sort) := hD
      exact W.iret hx hb hr (fun t ht _ => ⟨⟨_, (g_carried, g_cells, w80_0), rfl, h, hPt hP ht⟩, hS.F ht⟩) hS.2.2 dX10_copy_83
    have h := h.2 hc
    refine lv_aload_n hx hb dX10_copy_42 rfl (lv_at hl 0 rfl) ?_
    refine gf S hE hP 0 rfl rfl inX10 (k := 21) (by decide) q1114 rfl dX10_copy_43 ?_
    refine lv_iload_n hx hb dX10_copy_46 rfl (lv_at hl 1 rfl) ?_
    obtain ⟨hi, h⟩ := h
    refine ial S hE hP 3 rfl hi dX10_copy_47 ?_
    refine lv_iconst (v := 1) hx hb dX10_copy_48 (by decide) ?_
    refine lv_icmp_ne (tgt := 84) hx hb dX10_copy_49 (by decide) (fun hc => ?_) (fun hc => ?_)
    · have h := h.2 hc
      refine w_X10_copy_84 S hE hT hA hr hlocks _ _ _ h hP hD hS (lv_sub hl [0, 1, 2, 3, 4, 5] rfl)
    have h := h.1 hc
    refine lv_aload_n hx hb dX10_copy_52 rfl (lv_at hl 0 rfl) ?_
    refine gf S hE hP 0 rfl rfl inX10 (k := 21) (by decide) q1114 rfl dX10_copy_53 ?_
    refine lv_iload_n hx hb dX10_copy_56 rfl (lv_at hl 2 rfl) ?_
    obtain ⟨hi, h⟩ := h
    refine ial S hE hP 3 rfl hi dX10_copy_57 ?_
    refine lv_iconst (v := 1) hx hb dX10_copy_58 (by decide) ?_
    refine lv_icmp_ne (tgt := 84) hx hb dX10_copy_59 (by decide) (fun hc => ?_) (fun hc => ?_)
    · have h := h.2 hc
      refine w_X10_copy_84 S hE hT hA hr hlocks _ _ _ h hP hD hS (lv_sub hl [0, 1, 2, 3, 4, 5] rfl)
    have h := h.1 hc
    refine lv_aload_n hx hb dX10_copy_62 rfl (lv_at hl 0 rfl) ?_
    refine gf S hE hP 0 rfl rfl inX10 (k := 22) (by decide) q1115 rfl dX10_copy_63 ?_
    refine lv_iload_n hx hb dX10_copy_66 rfl (lv_at hl 1 rfl) ?_
    obtain ⟨hi, h⟩ := h
    refine ial S hE hP 6 rfl hi dX10_copy_67 ?_
    refine lv_aload_n hx hb dX10_copy_68 rfl (lv_at hl 0 rfl) ?_
    refine gf S hE hP 0 rfl rfl inX10 (k := 22) (by decide) q1115 rfl dX10_copy_69 ?_
    refine lv_iload_n hx hb dX10_copy_72 rfl (lv_at hl 2 rfl) ?_
    obtain ⟨hi, h⟩ := h
    refine ial S hE hP 6 rfl hi dX10_copy_73 ?_
    refine lv_icmp_eq (tgt := 84) hx hb dX10_copy_74 (by decide) (fun hc => ?_) (fun hc => ?_)
    · have h := h.1 hc
      refine w_X10_copy_84 S hE hT hA hr hlocks _ _ _ h hP hD hS (lv_sub hl [0, 1, 2, 3, 4, 5] rfl)
    have h := h.2 hc
    refine lv_aload_n hx hb dX10_copy_77 rfl (lv_at hl 0 rfl) ?_
    refine lv_bipush (v := (-2)) hx hb dX10_copy_78 (by decide) ?_
    refine rw_i (rwV S hE hT hS hP hD hA (c_X10_no h) [0, 4] rfl (by decide) lkX10_121 rfl ⟨(Nat.le_of_ble_eq_true rfl), (Nat.le_of_ble_eq_true rfl)⟩ 0 rfl rfl hl.1 rfl (Nat.le_of_ble_eq_true rfl) dX10_copy_80 ⟨(Nat.zero_le _), (Nat.zero_le _)⟩) hP hD hS hA [0, 4] rfl (by decide) (fun _ => rfl) (fun r80 w80_0 H locs h hP hD hS => ?_)
    try dsimp only at h
    have hP : va_P D vwCl (wX10_copy cI cJ cS a_o a_carried a_cells a_held a_refused a_size a_sort z_steps z_kind z_space z_other z_times z_speed z_base z_share z_notes z_pitch z_beats z_shown z_words z_tell z_was z_kept z_cutSpace z_cutTimes z_cutOff z_trace v_stretches v_cars v_tunes v_along v_near v_borne v_tempo v_seed v_fault v_from v_at v_end v_told v_wrongAt v_culprit v_ran v_isKept g_carried g_cells f_held w80_0 f_size f_sort) H := hP
    have hD : va_D A (wX10_copy cI cJ cS a_o a_carried a_cells a_held a_refused a_size a_sort z_steps z_kind z_space z_other z_times z_speed z_base z_share z_notes z_pitch z_beats z_shown z_words z_tell z_was z_kept z_cutSpace z_cutTimes z_cutOff z_trace v_stretches v_cars v_tunes v_along v_near v_borne v_tempo v_seed v_fault v_from v_at v_end v_told v_wrongAt v_culprit v_ran v_isKept g_carried g_cells f_held w80_0 f_size f_sort) := hD
    exact W.iret hx hb hr (fun t ht _ => ⟨⟨_, (g_carried, g_cells, w80_0), rfl, h, hPt hP ht⟩, hS.F ht⟩) hS.2.2 dX10_copy_83
  have h := h.1 hc
  refine lv_aload_n hx hb dX10_copy_16 rfl (lv_at hl 0 rfl) ?_
  refine lv_iconst (v := (-1)) hx hb dX10_copy_17 (by decide) ?_
  refine rw_i (rwV S hE hT hS hP hD hA (c_X10_no h) [0, 4] rfl (by decide) lkX10_121 rfl ⟨(Nat.le_of_ble_eq_true rfl), (Nat.le_of_ble_eq_true rfl)⟩ 0 rfl rfl hl.1 rfl (Nat.le_of_ble_eq_true rfl) dX10_copy_18 ⟨(Nat.zero_le _), (Nat.zero_le _)⟩) hP hD hS hA [0, 4] rfl (by decide) (fun _ => rfl) (fun r18 w18_0 H locs h hP hD hS => ?_)
  try dsimp only at h
  have hP : va_P D vwCl (wX10_copy cI cJ cS a_o a_carried a_cells a_held a_refused a_size a_sort z_steps z_kind z_space z_other z_times z_speed z_base z_share z_notes z_pitch z_beats z_shown z_words z_tell z_was z_kept z_cutSpace z_cutTimes z_cutOff z_trace v_stretches v_cars v_tunes v_along v_near v_borne v_tempo v_seed v_fault v_from v_at v_end v_told v_wrongAt v_culprit v_ran v_isKept g_carried g_cells f_held w18_0 f_size f_sort) H := hP
  have hD : va_D A (wX10_copy cI cJ cS a_o a_carried a_cells a_held a_refused a_size a_sort z_steps z_kind z_space z_other z_times z_speed z_base z_share z_notes z_pitch z_beats z_shown z_words z_tell z_was z_kept z_cutSpace z_cutTimes z_cutOff z_trace v_stretches v_cars v_tunes v_along v_near v_borne v_tempo v_seed v_fault v_from v_at v_end v_told v_wrongAt v_culprit v_ran v_isKept g_carried g_cells f_held w18_0 f_size f_sort) := hD
  exact W.iret hx hb hr (fun t ht _ => ⟨⟨_, (g_carried, g_cells, w18_0), rfl, h, hPt hP ht⟩, hS.F ht⟩) hS.2.2 dX10_copy_21
/-! X10_element -/
abbrev wX10_element (cI cJ cS : ClassId) (a_o a_cells a_held a_size : Nat) (z_refused z_steps z_kind z_space z_other z_times z_speed z_base z_share z_notes z_pitch z_beats z_sort z_shown z_carried z_words z_tell z_was z_kept z_cutSpace z_cutTimes z_cutOff z_trace : Value) (v_stretches : Int32) (v_cars : Int32) (v_tunes : Int32) (v_along : Int32) (v_near : Int32) (v_borne : Int32) (v_tempo : Int32) (v_seed : Int32) (v_fault : Int32) (v_from : Int32) (v_at : Int32) (v_end : Int32) (v_told : Int32) (v_wrongAt : Int32) (v_culprit : Int32) (v_ran : Int32) (v_isKept : Int32) (g_cells : Nat → Int64) (f_held : Nat → Int32) (f_size : Nat → Int32) : va_W := [(a_o, .inr (9, [.int v_stretches, .int v_cars, .int v_tunes, .int v_along, .int v_near, .int v_borne, .int v_tempo, .int v_seed, .int v_fault, z_refused, z_steps, z_kind, z_space, z_other, z_times, z_speed, z_base, z_share, z_notes, z_pitch, z_beats, .ref a_held, z_sort, .ref a_size, z_shown, .ref a_cells, z_carried, z_words, z_tell, .int v_from, .int v_at, .int v_end, .int v_told, .int v_wrongAt, z_was, z_kept, .int v_culprit, z_cutSpace, z_cutTimes, z_cutOff, z_trace, .int v_ran, .int v_isKept])), (a_cells, .inl (cJ, 1280, .inr (.inl g_cells))), (a_held, .inl (cI, 8, .inl f_held)), (a_size, .inl (cI, 8, .inl f_size))]
def F_X10_element (g_cells : Nat → Int64) (f_held : Nat → Int32) (f_size : Nat → Int32) (x1 : Int32) (x2 : Int32) (post : Int64 → Prop) : Prop := (F_X10_isShelf x1 (fun r2 => ((r2 = 0 → post 0) ∧ (¬ r2 = 0 → (vp_in x1 8 ∧ (((f_held x1.toNatClampNeg) = 1 → ((x2 < 0 → post 0) ∧ (¬ x2 < 0 → (vp_in x1 8 ∧ (((f_size x1.toNatClampNeg) ≤ x2 → post 0) ∧ (¬ (f_size x1.toNatClampNeg) ≤ x2 → (vp_in ((160 * x1) + x2) 1280 ∧ post (g_cells ((160 * x1) + x2).toNatClampNeg)))))))) ∧ (¬ (f_held x1.toNatClampNeg) = 1 → post 0)))))))
set_option maxHeartbeats 4000000 in
set_option maxRecDepth 100000 in
theorem c_X10_element {l : Launch} {D : va_G} {cI cJ cS : ClassId} {ad adK : Nat → Nat} {a_o a_cells a_held a_size : Nat} {z_refused z_steps z_kind z_space z_other z_times z_speed z_base z_share z_notes z_pitch z_beats z_sort z_shown z_carried z_words z_tell z_was z_kept z_cutSpace z_cutTimes z_cutOff z_trace : Value} {v_stretches : Int32} {v_cars : Int32} {v_tunes : Int32} {v_along : Int32} {v_near : Int32} {v_borne : Int32} {v_tempo : Int32} {v_seed : Int32} {v_fault : Int32} {v_from : Int32} {v_at : Int32} {v_end : Int32} {v_told : Int32} {v_wrongAt : Int32} {v_culprit : Int32} {v_ran : Int32} {v_isKept : Int32} {g_cells : Nat → Int64} {f_held : Nat → Int32} {f_size : Nat → Int32} {x1 : Int32} {x2 : Int32} {post : Int64 → Prop} (h : F_X10_element g_cells f_held f_size x1 x2 post) : Met l yX10_element (Cond.code yX10_element cX10_element 3 (some (.long)) :: GW) (rmd 1 0 0) (PR D cI cJ cS ad adK [.ref a_o, .int x1, .int x2] (wX10_element cI cJ cS a_o a_cells a_held a_size z_refused z_steps z_kind z_space z_other z_times z_speed z_base z_share z_notes z_pitch z_beats z_sort z_shown z_carried z_words z_tell z_was z_kept z_cutSpace z_cutTimes z_cutOff z_trace v_stretches v_cars v_tunes v_along v_near v_borne v_tempo v_seed v_fault v_from v_at v_end v_told v_wrongAt v_culprit v_ran v_isKept g_cells f_held f_size)) (vp_Sl post) 0 0 nof := by
  refine Met.ro (by decide) (Nat.le_of_ble_eq_true rfl) (fun p e s m args below meth c ls (S : CallFix p m c cX10_element 3 s args GW "RoadThatSingsModel") hE hT hP hS hr hlocks hl => ?_)
  have hx := S.1
  have hb := S.2.1
  have hl : lv_has ls 3 [(0, .ref a_o), (1, .int x1), (2, .int x2)] := hl
  unfold F_X10_element at h
  refine lv_aload_n hx hb dX10_element_0 rfl (lv_at hl 0 rfl) ?_
  refine lv_iload_n hx hb dX10_element_1 rfl (lv_at hl 1 rfl) ?_
  refine ro_i (roV S hE hT hS (c_X10_isShelf h) lkX10_117 rfl ⟨(Nat.le_of_ble_eq_true rfl), (Nat.le_of_ble_eq_true rfl)⟩ (hP.sub [0] rfl) 0 rfl rfl hl.1 rfl (Nat.le_of_ble_eq_true rfl) dX10_element_2 ⟨(Nat.zero_le _), (Nat.zero_le _)⟩) (fun r2 h => ?_)
  refine lv_if_eq (tgt := 47) hx hb dX10_element_5 (by decide) (fun hc => ?_) (fun hc => ?_)
  · have h := h.1 hc
    refine lv_lconst (v := 0) hx hb dX10_element_47 (by decide) ?_
    exact W.lret hx hb hr (fun t ht _ => ⟨_, rfl, h, ht⟩) (fun _ hq => by cases hq) dX10_element_48
  have h := h.2 hc
  refine lv_aload_n hx hb dX10_element_8 rfl (lv_at hl 0 rfl) ?_
  refine gf S hE hP 0 rfl rfl inX10 (k := 21) (by decide) q1114 rfl dX10_element_9 ?_
  refine lv_iload_n hx hb dX10_element_12 rfl (lv_at hl 1 rfl) ?_
  obtain ⟨hi, h⟩ := h
  refine ial S hE hP 2 rfl hi dX10_element_13 ?_
  refine lv_iconst (v := 1) hx hb dX10_element_14 (by decide) ?_
  refine lv_icmp_ne (tgt := 47) hx hb dX10_element_15 (by decide) (fun hc => ?_) (fun hc => ?_)
  · have h := h.2 hc
    refine lv_lconst (v := 0) hx hb dX10_element_47 (by decide) ?_
    exact W.lret hx hb hr (fun t ht _ => ⟨_, rfl, h, ht⟩) (fun _ hq => by cases hq) dX10_element_48
  have h := h.1 hc
  refine lv_iload_n hx hb dX10_element_18 rfl (lv_at hl 2 rfl) ?_
  refine lv_if_lt (tgt := 47) hx hb dX10_element_19 (by decide) (fun hc => ?_) (fun hc => ?_)
  · have h := h.1 hc
    refine lv_lconst (v := 0) hx hb dX10_element_47 (by decide) ?_
    exact W.lret hx hb hr (fun t ht _ => ⟨_, rfl, h, ht⟩) (fun _ hq => by cases hq) dX10_element_48
  have h := h.2 hc
  refine lv_iload_n hx hb dX10_element_22 rfl (lv_at hl 2 rfl) ?_
  refine lv_aload_n hx hb dX10_element_23 rfl (lv_at hl 0 rfl) ?_
  refine gf S hE hP 0 rfl rfl inX10 (k := 23) (by decide) q1116 rfl dX10_element_24 ?_
  refine lv_iload_n hx hb dX10_element_27 rfl (lv_at hl 1 rfl) ?_
  obtain ⟨hi, h⟩ := h
  refine ial S hE hP 3 rfl hi dX10_element_28 ?_
  refine lv_icmp_ge (tgt := 47) hx hb dX10_element_29 (by decide) (fun hc => ?_) (fun hc => ?_)
  · have h := h.1 hc
    refine lv_lconst (v := 0) hx hb dX10_element_47 (by decide) ?_
    exact W.lret hx hb hr (fun t ht _ => ⟨_, rfl, h, ht⟩) (fun _ hq => by cases hq) dX10_element_48
  have h := h.2 hc
  refine lv_aload_n hx hb dX10_element_32 rfl (lv_at hl 0 rfl) ?_
  refine gf S hE hP 0 rfl rfl inX10 (k := 25) (by decide) q1118 rfl dX10_element_33 ?_
  refine lv_sipush (v := 160) hx hb dX10_element_36 (by decide) ?_
  refine lv_iload_n hx hb dX10_element_39 rfl (lv_at hl 1 rfl) ?_
  refine lv_imul hx hb dX10_element_40 ?_
  refine lv_iload_n hx hb dX10_element_41 rfl (lv_at hl 2 rfl) ?_
  refine lv_iadd hx hb dX10_element_42 ?_
  obtain ⟨hi, h⟩ := h
  refine lal S hE hP 1 rfl hi dX10_element_43 ?_
  refine lv_goto (tgt := 48) hx hb dX10_element_44 (by decide) ?_
  exact W.lret hx hb hr (fun t ht _ => ⟨_, rfl, h, ht⟩) (fun _ hq => by cases hq) dX10_element_48
/-! X10_show -/
abbrev wX10_show (cI cJ cS : ClassId) (a_o a_held a_refused a_shown : Nat) (z_steps z_kind z_space z_other z_times z_speed z_base z_share z_notes z_pitch z_beats z_sort z_size z_cells z_carried z_words z_tell z_was z_kept z_cutSpace z_cutTimes z_cutOff z_trace : Value) (v_stretches : Int32) (v_cars : Int32) (v_tunes : Int32) (v_along : Int32) (v_near : Int32) (v_borne : Int32) (v_tempo : Int32) (v_seed : Int32) (v_fault : Int32) (v_from : Int32) (v_at : Int32) (v_end : Int32) (v_told : Int32) (v_wrongAt : Int32) (v_culprit : Int32) (v_ran : Int32) (v_isKept : Int32) (f_held : Nat → Int32) (f_refused : Nat → Int32) (f_shown : Nat → Int32) : va_W := [(a_o, .inr (9, [.int v_stretches, .int v_cars, .int v_tunes, .int v_along, .int v_near, .int v_borne, .int v_tempo, .int v_seed, .int v_fault, .ref a_refused, z_steps, z_kind, z_space, z_other, z_times, z_speed, z_base, z_share, z_notes, z_pitch, z_beats, .ref a_held, z_sort, z_size, .ref a_shown, z_cells, z_carried, z_words, z_tell, .int v_from, .int v_at, .int v_end, .int v_told, .int v_wrongAt, z_was, z_kept, .int v_culprit, z_cutSpace, z_cutTimes, z_cutOff, z_trace, .int v_ran, .int v_isKept])), (a_held, .inl (cI, 8, .inl f_held)), (a_refused, .inl (cI, 8, .inl f_refused)), (a_shown, .inl (cI, 8, .inl f_shown))]
def F_X10_show_42 (post : Int32 → (Nat → Int32) → (Nat → Int32) → (Nat → Int32) → Prop) (x1 : Int32) (x2 : Int32) (f_held : Nat → Int32) (f_refused : Nat → Int32) (f_shown : Nat → Int32) (s0 : Int32) (s1 : Int32) : Prop := (vp_in s1 8 ∧ (vp_in x1 8 ∧ ((x2 = (-1) → post 0 (upd f_held s1.toNatClampNeg s0) f_refused (upd f_shown x1.toNatClampNeg x2)) ∧ (¬ x2 = (-1) → post 1 (upd f_held s1.toNatClampNeg s0) f_refused (upd f_shown x1.toNatClampNeg x2)))))
def F_X10_show_27 (post : Int32 → (Nat → Int32) → (Nat → Int32) → (Nat → Int32) → Prop) (x1 : Int32) (x2 : Int32) (f_held : Nat → Int32) (f_refused : Nat → Int32) (f_shown : Nat → Int32) : Prop := ((x2 = (-1) → F_X10_show_42 post x1 x2 f_held f_refused f_shown 0 x1) ∧ (¬ x2 = (-1) → F_X10_show_42 post x1 x2 f_held f_refused f_shown 2 x1))
def F_X10_show (v_stretches : Int32) (f_held : Nat → Int32) (f_refused : Nat → Int32) (f_shown : Nat → Int32) (x1 : Int32) (x2 : Int32) (post : Int32 → (Nat → Int32) → (Nat → Int32) → (Nat → Int32) → Prop) : Prop := (F_X10_isShelf x1 (fun r2 => ((r2 = 0 → (F_X10_no f_refused (-1) (fun r23 w23_0 => post r23 f_held w23_0 f_shown))) ∧ (¬ r2 = 0 → ((x2 = (-1) → F_X10_show_27 post x1 x2 f_held f_refused f_shown) ∧ (¬ x2 = (-1) → (F_X10_isStretch v_stretches x2 (fun r15 => ((r15 = 0 → (F_X10_no f_refused (-1) (fun r23 w23_0 => post r23 f_held w23_0 f_shown))) ∧ (¬ r15 = 0 → F_X10_show_27 post x1 x2 f_held f_refused f_shown))))))))))
set_option maxHeartbeats 4000000 in
set_option maxRecDepth 100000 in
theorem w_X10_show_42 {l : Launch} {D : va_G} {cI cJ cS : ClassId} {ad adK : Nat → Nat} {a_o a_held a_refused a_shown : Nat} {z_steps z_kind z_space z_other z_times z_speed z_base z_share z_notes z_pitch z_beats z_sort z_size z_cells z_carried z_words z_tell z_was z_kept z_cutSpace z_cutTimes z_cutOff z_trace : Value} {v_stretches : Int32} {v_cars : Int32} {v_tunes : Int32} {v_along : Int32} {v_near : Int32} {v_borne : Int32} {v_tempo : Int32} {v_seed : Int32} {v_fault : Int32} {v_from : Int32} {v_at : Int32} {v_end : Int32} {v_told : Int32} {v_wrongAt : Int32} {v_culprit : Int32} {v_ran : Int32} {v_isKept : Int32} {f_held : Nat → Int32} {f_refused : Nat → Int32} {f_shown : Nat → Int32} {x1 : Int32} {x2 : Int32} {s0 : Int32} {s1 : Int32} {post : Int32 → (Nat → Int32) → (Nat → Int32) → (Nat → Int32) → Prop} {p : Program} {e : Env} {s : State} {m : MethodId} {args : Array Value} {below : List Frame} {meth : Method} {c : Code} {A : Nat → Prop} (S : CallFix p m c cX10_show 3 s args GW "RoadThatSingsModel") (hE : EN D cI cJ cS s) (hT : ST ad adK A s s.heap) (hA : ∀ q : Nat, s.heap.size ≤ q → A q) (hr : meth.sig.returnType = (some (.int))) (hlocks : meth.locks = false) : ∀ (H : Heap) (locs : List Loc) (ls : Array Slot), F_X10_show_42 post x1 x2 f_held f_refused f_shown s0 s1 → va_P D vwCl (wX10_show cI cJ cS a_o a_held a_refused a_shown z_steps z_kind z_space z_other z_times z_speed z_base z_share z_notes z_pitch z_beats z_sort z_size z_cells z_carried z_words z_tell z_was z_kept z_cutSpace z_cutTimes z_cutOff z_trace v_stretches v_cars v_tunes v_along v_near v_borne v_tempo v_seed v_fault v_from v_at v_end v_told v_wrongAt v_culprit v_ran v_isKept f_held f_refused f_shown) H → va_D A (wX10_show cI cJ cS a_o a_held a_refused a_shown z_steps z_kind z_space z_other z_times z_speed z_base z_share z_notes z_pitch z_beats z_sort z_size z_cells z_carried z_words z_tell z_was z_kept z_cutSpace z_cutTimes z_cutOff z_trace v_stretches v_cars v_tunes v_along v_near v_borne v_tempo v_seed v_fault v_from v_at v_end v_told v_wrongAt v_culprit v_ran v_isKept f_held f_refused f_shown) → va_S A s.heap H locs → lv_has ls 3 [(0, .ref a_o), (1, .int x1), (2, .int x2)] → W p l e (rmd 1 0 0) s m args below meth c H locs 0 0 (MQ below (va_Qi (fun r (u : (Nat → Int32) × (Nat → Int32) × (Nat → Int32)) => post r u.1 u.2.1 u.2.2) (fun u t => va_P D vwCl (wX10_show cI cJ cS a_o a_held a_refused a_shown z_steps z_kind z_space z_other z_times z_speed z_base z_share z_notes z_pitch z_beats z_sort z_size z_cells z_carried z_words z_tell z_was z_kept z_cutSpace z_cutTimes z_cutOff z_trace v_stretches v_cars v_tunes v_along v_near v_borne v_tempo v_seed v_fault v_from v_at v_end v_told v_wrongAt v_culprit v_ran v_isKept u.1 u.2.1 u.2.2) t.heap) A) args s 0 0 A) (F0 m 42 ls [.int s0, .int s1, .ref a_held]) := by
  intro  H locs ls h hP hD hS hl
  unfold F_X10_show_42 at h
  have hx := S.1
  have hb := S.2.1
  obtain ⟨hi, h⟩ := h
  refine ias S hE hP hD hS 1 rfl hi dX10_show_42 (fun H locs hP hD hS => ?_)
  have hP : va_P D vwCl (wX10_show cI cJ cS a_o a_held a_refused a_shown z_steps z_kind z_space z_other z_times z_speed z_base z_share z_notes z_pitch z_beats z_sort z_size z_cells z_carried z_words z_tell z_was z_kept z_cutSpace z_cutTimes z_cutOff z_trace v_stretches v_cars v_tunes v_along v_near v_borne v_tempo v_seed v_fault v_from v_at v_end v_told v_wrongAt v_culprit v_ran v_isKept (upd f_held s1.toNatClampNeg s0) f_refused f_shown) H := hP
  have hD : va_D A (wX10_show cI cJ cS a_o a_held a_refused a_shown z_steps z_kind z_space z_other z_times z_speed z_base z_share z_notes z_pitch z_beats z_sort z_size z_cells z_carried z_words z_tell z_was z_kept z_cutSpace z_cutTimes z_cutOff z_trace v_stretches v_cars v_tunes v_along v_near v_borne v_tempo v_seed v_fault v_from v_at v_end v_told v_wrongAt v_culprit v_ran v_isKept (upd f_held s1.toNatClampNeg s0) f_refused f_shown) := hD
  refine lv_aload_n hx hb dX10_show_43 rfl (lv_at hl 0 rfl) ?_
  refine gf S hE hP 0 rfl rfl inX10 (k := 24) (by decide) q1117 rfl dX10_show_44 ?_
  refine lv_iload_n hx hb dX10_show_47 rfl (lv_at hl 1 rfl) ?_
  refine lv_iload_n hx hb dX10_show_48 rfl (lv_at hl 2 rfl) ?_
  obtain ⟨hi, h⟩ := h
  refine ias S hE hP hD hS 3 rfl hi dX10_show_49 (fun H locs hP hD hS => ?_)
  have hP : va_P D vwCl (wX10_show cI cJ cS a_o a_held a_refused a_shown z_steps z_kind z_space z_other z_times z_speed z_base z_share z_notes z_pitch z_beats z_sort z_size z_cells z_carried z_words z_tell z_was z_kept z_cutSpace z_cutTimes z_cutOff z_trace v_stretches v_cars v_tunes v_along v_near v_borne v_tempo v_seed v_fault v_from v_at v_end v_told v_wrongAt v_culprit v_ran v_isKept (upd f_held s1.toNatClampNeg s0) f_refused (upd f_shown x1.toNatClampNeg x2)) H := hP
  have hD : va_D A (wX10_show cI cJ cS a_o a_held a_refused a_shown z_steps z_kind z_space z_other z_times z_speed z_base z_share z_notes z_pitch z_beats z_sort z_size z_cells z_carried z_words z_tell z_was z_kept z_cutSpace z_cutTimes z_cutOff z_trace v_stretches v_cars v_tunes v_along v_near v_borne v_tempo v_seed v_fault v_from v_at v_end v_told v_wrongAt v_culprit v_ran v_isKept (upd f_held s1.toNatClampNeg s0) f_refused (upd f_shown x1.toNatClampNeg x2)) := hD
  refine lv_iload_n hx hb dX10_show_50 rfl (lv_at hl 2 rfl) ?_
  refine lv_iconst (v := (-1)) hx hb dX10_show_51 (by decide) ?_
  refine lv_icmp_ne (tgt := 59) hx hb dX10_show_52 (by decide) (fun hc => ?_) (fun hc => ?_)
  · have h := h.2 hc
    refine lv_iconst (v := 1) hx hb dX10_show_59 (by decide) ?_
    exact W.iret hx hb hr (fun t ht _ => ⟨⟨_, ((upd f_held s1.toNatClampNeg s0), f_refused, (upd f_shown x1.toNatClampNeg x2)), rfl, h, hPt hP ht⟩, hS.F ht⟩) hS.2.2 dX10_show_60
  have h := h.1 hc
  refine lv_iconst (v := 0) hx hb dX10_show_55 (by decide) ?_
  refine lv_goto (tgt := 60) hx hb dX10_show_56 (by decide) ?_
  exact W.iret hx hb hr (fun t ht _ => ⟨⟨_, ((upd f_held s1.toNatClampNeg s0), f_refused, (upd f_shown x1.toNatClampNeg x2)), rfl, h, hPt hP ht⟩, hS.F ht⟩) hS.2.2 dX10_show_60
set_option maxHeartbeats 4000000 in
set_option maxRecDepth 100000 in
theorem w_X10_show_27 {l : Launch} {D : va_G} {cI cJ cS : ClassId} {ad adK : Nat → Nat} {a_o a_held a_refused a_shown : Nat} {z_steps z_kind z_space z_other z_times z_speed z_base z_share z_notes z_pitch z_beats z_sort z_size z_cells z_carried z_words z_tell z_was z_kept z_cutSpace z_cutTimes z_cutOff z_trace : Value} {v_stretches : Int32} {v_cars : Int32} {v_tunes : Int32} {v_along : Int32} {v_near : Int32} {v_borne : Int32} {v_tempo : Int32} {v_seed : Int32} {v_fault : Int32} {v_from : Int32} {v_at : Int32} {v_end : Int32} {v_told : Int32} {v_wrongAt : Int32} {v_culprit : Int32} {v_ran : Int32} {v_isKept : Int32} {f_held : Nat → Int32} {f_refused : Nat → Int32} {f_shown : Nat → Int32} {x1 : Int32} {x2 : Int32} {post : Int32 → (Nat → Int32) → (Nat → Int32) → (Nat → Int32) → Prop} {p : Program} {e : Env} {s : State} {m : MethodId} {args : Array Value} {below : List Frame} {meth : Method} {c : Code} {A : Nat → Prop} (S : CallFix p m c cX10_show 3 s args GW "RoadThatSingsModel") (hE : EN D cI cJ cS s) (hT : ST ad adK A s s.heap) (hA : ∀ q : Nat, s.heap.size ≤ q → A q) (hr : meth.sig.returnType = (some (.int))) (hlocks : meth.locks = false) : ∀ (H : Heap) (locs : List Loc) (ls : Array Slot), F_X10_show_27 post x1 x2 f_held f_refused f_shown → va_P D vwCl (wX10_show cI cJ cS a_o a_held a_refused a_shown z_steps z_kind z_space z_other z_times z_speed z_base z_share z_notes z_pitch z_beats z_sort z_size z_cells z_carried z_words z_tell z_was z_kept z_cutSpace z_cutTimes z_cutOff z_trace v_stretches v_cars v_tunes v_along v_near v_borne v_tempo v_seed v_fault v_from v_at v_end v_told v_wrongAt v_culprit v_ran v_isKept f_held f_refused f_shown) H → va_D A (wX10_show cI cJ cS a_o a_held a_refused a_shown z_steps z_kind z_space z_other z_times z_speed z_base z_share z_notes z_pitch z_beats z_sort z_size z_cells z_carried z_words z_tell z_was z_kept z_cutSpace z_cutTimes z_cutOff z_trace v_stretches v_cars v_tunes v_along v_near v_borne v_tempo v_seed v_fault v_from v_at v_end v_told v_wrongAt v_culprit v_ran v_isKept f_held f_refused f_shown) → va_S A s.heap H locs → lv_has ls 3 [(0, .ref a_o), (1, .int x1), (2, .int x2)] → W p l e (rmd 1 0 0) s m args below meth c H locs 0 0 (MQ below (va_Qi (fun r (u : (Nat → Int32) × (Nat → Int32) × (Nat → Int32)) => post r u.1 u.2.1 u.2.2) (fun u t => va_P D vwCl (wX10_show cI cJ cS a_o a_held a_refused a_shown z_steps z_kind z_space z_other z_times z_speed z_base z_share z_notes z_pitch z_beats z_sort z_size z_cells z_carried z_words z_tell z_was z_kept z_cutSpace z_cutTimes z_cutOff z_trace v_stretches v_cars v_tunes v_along v_near v_borne v_tempo v_seed v_fault v_from v_at v_end v_told v_wrongAt v_culprit v_ran v_isKept u.1 u.2.1 u.2.2) t.heap) A) args s 0 0 A) (F0 m 27 ls []) := by
  intro  H locs ls h hP hD hS hl
  unfold F_X10_show_27 at h
  have hx := S.1
  have hb := S.2.1
  refine lv_aload_n hx hb dX10_show_27 rfl (lv_at hl 0 rfl) ?_
  refine gf S hE hP 0 rfl rfl inX10 (k := 21) (by decide) q1114 rfl dX10_show_28 ?_
  refine lv_iload_n hx hb dX10_show_31 rfl (lv_at hl 1 rfl) ?_
  refine lv_iload_n hx hb dX10_show_32 rfl (lv_at hl 2 rfl) ?_
  refine lv_iconst (v := (-1)) hx hb dX10_show_33 (by decide) ?_
  refine lv_icmp_ne (tgt := 41) hx hb dX10_show_34 (by decide) (fun hc => ?_) (fun hc => ?_)
  · have h := h.2 hc
    refine lv_iconst (v := 2) hx hb dX10_show_41 (by decide) ?_
    refine w_X10_show_42 S hE hT hA hr hlocks _ _ _ h hP hD hS (lv_sub hl [0, 1, 2] rfl)
  have h := h.1 hc
  refine lv_iconst (v := 0) hx hb dX10_show_37 (by decide) ?_
  refine lv_goto (tgt := 42) hx hb dX10_show_38 (by decide) ?_
  refine w_X10_show_42 S hE hT hA hr hlocks _ _ _ h hP hD hS (lv_sub hl [0, 1, 2] rfl)
set_option maxHeartbeats 4000000 in
set_option maxRecDepth 100000 in
theorem c_X10_show {l : Launch} {D : va_G} {cI cJ cS : ClassId} {ad adK : Nat → Nat} {a_o a_held a_refused a_shown : Nat} {z_steps z_kind z_space z_other z_times z_speed z_base z_share z_notes z_pitch z_beats z_sort z_size z_cells z_carried z_words z_tell z_was z_kept z_cutSpace z_cutTimes z_cutOff z_trace : Value} {v_stretches : Int32} {v_cars : Int32} {v_tunes : Int32} {v_along : Int32} {v_near : Int32} {v_borne : Int32} {v_tempo : Int32} {v_seed : Int32} {v_fault : Int32} {v_from : Int32} {v_at : Int32} {v_end : Int32} {v_told : Int32} {v_wrongAt : Int32} {v_culprit : Int32} {v_ran : Int32} {v_isKept : Int32} {f_held : Nat → Int32} {f_refused : Nat → Int32} {f_shown : Nat → Int32} {x1 : Int32} {x2 : Int32} {post : Int32 → (Nat → Int32) → (Nat → Int32) → (Nat → Int32) → Prop} (h : F_X10_show v_stretches f_held f_refused f_shown x1 x2 post) {sz : Nat} : Met l yX10_show (Cond.code yX10_show cX10_show 3 (some (.int)) :: GW) (rmd 1 0 0) (PW D cI cJ cS ad adK [.ref a_o, .int x1, .int x2] (wX10_show cI cJ cS a_o a_held a_refused a_shown z_steps z_kind z_space z_other z_times z_speed z_base z_share z_notes z_pitch z_beats z_sort z_size z_cells z_carried z_words z_tell z_was z_kept z_cutSpace z_cutTimes z_cutOff z_trace v_stretches v_cars v_tunes v_along v_near v_borne v_tempo v_seed v_fault v_from v_at v_end v_told v_wrongAt v_culprit v_ran v_isKept f_held f_refused f_shown) sz) (va_Qi (fun r (u : (Nat → Int32) × (Nat → Int32) × (Nat → Int32)) => post r u.1 u.2.1 u.2.2) (fun u t => va_P D vwCl (wX10_show cI cJ cS a_o a_held a_refused a_shown z_steps z_kind z_space z_other z_times z_speed z_base z_share z_notes z_pitch z_beats z_sort z_size z_cells z_carried z_words z_tell z_was z_kept z_cutSpace z_cutTimes z_cutOff z_trace v_stretches v_cars v_tunes v_along v_near v_borne v_tempo v_seed v_fault v_from v_at v_end v_told v_wrongAt v_culprit v_ran v_isKept u.1 u.2.1 u.2.2) t.heap) (va_A (wX10_show cI cJ cS a_o a_held a_refused a_shown z_steps z_kind z_space z_other z_times z_speed z_base z_share z_notes z_pitch z_beats z_sort z_size z_cells z_carried z_words z_tell z_was z_kept z_cutSpace z_cutTimes z_cutOff z_trace v_stretches v_cars v_tunes v_along v_near v_borne v_tempo v_seed v_fault v_from v_at v_end v_told v_wrongAt v_culprit v_ran v_isKept f_held f_refused f_shown) sz)) 0 0 (va_A (wX10_show cI cJ cS a_o a_held a_refused a_shown z_steps z_kind z_space z_other z_times z_speed z_base z_share z_notes z_pitch z_beats z_sort z_size z_cells z_carried z_words z_tell z_was z_kept z_cutSpace z_cutTimes z_cutOff z_trace v_stretches v_cars v_tunes v_along v_near v_borne v_tempo v_seed v_fault v_from v_at v_end v_told v_wrongAt v_culprit v_ran v_isKept f_held f_refused f_shown) sz) := by
  refine Met.rw (Qc := fun A => (va_Qi (fun r (u : (Nat → Int32) × (Nat → Int32) × (Nat → Int32)) => post r u.1 u.2.1 u.2.2) (fun u t => va_P D vwCl (wX10_show cI cJ cS a_o a_held a_refused a_shown z_steps z_kind z_space z_other z_times z_speed z_base z_share z_notes z_pitch z_beats z_sort z_size z_cells z_carried z_words z_tell z_was z_kept z_cutSpace z_cutTimes z_cutOff z_trace v_stretches v_cars v_tunes v_along v_near v_borne v_tempo v_seed v_fault v_from v_at v_end v_told v_wrongAt v_culprit v_ran v_isKept u.1 u.2.1 u.2.2) t.heap) A)) (by decide) (Nat.le_of_ble_eq_true rfl) (fun p e s m args below meth c ls A (S : CallFix p m c cX10_show 3 s args GW "RoadThatSingsModel") hE hT hP hD hA hS hr hlocks hname hl => ?_)
  have hS0 := hS
  have hx := S.1
  have hb := S.2.1
  have hl : lv_has ls 3 [(0, .ref a_o), (1, .int x1), (2, .int x2)] := hl
  unfold F_X10_show at h
  refine lv_aload_n hx hb dX10_show_0 rfl (lv_at hl 0 rfl) ?_
  refine lv_iload_n hx hb dX10_show_1 rfl (lv_at hl 1 rfl) ?_
  refine ro_i (roV S hE hT hS (c_X10_isShelf h) lkX10_117 rfl ⟨(Nat.le_of_ble_eq_true rfl), (Nat.le_of_ble_eq_true rfl)⟩ (hP.sub [0] rfl) 0 rfl rfl hl.1 rfl (Nat.le_of_ble_eq_true rfl) dX10_show_2 ⟨(Nat.zero_le _), (Nat.zero_le _)⟩) (fun r2 h => ?_)
  refine lv_if_eq (tgt := 21) hx hb dX10_show_5 (by decide) (fun hc => ?_) (fun hc => ?_)
  · have h := h.1 hc
    refine lv_aload_n hx hb dX10_show_21 rfl (lv_at hl 0 rfl) ?_
    refine lv_iconst (v := (-1)) hx hb dX10_show_22 (by decide) ?_
    refine rw_i (rwV S hE hT hS hP hD hA (c_X10_no h) [0, 2] rfl (by decide) lkX10_121 rfl ⟨(Nat.le_of_ble_eq_true rfl), (Nat.le_of_ble_eq_true rfl)⟩ 0 rfl rfl hl.1 rfl (Nat.le_of_ble_eq_true rfl) dX10_show_23 ⟨(Nat.zero_le _), (Nat.zero_le _)⟩) hP hD hS hA [0, 2] rfl (by decide) (fun _ => rfl) (fun r23 w23_0 H locs h hP hD hS => ?_)
    try dsimp only at h
    have hP : va_P D vwCl (wX10_show cI cJ cS a_o a_held a_refused a_shown z_steps z_kind z_space z_other z_times z_speed z_base z_share z_notes z_pitch z_beats z_sort z_size z_cells z_carried z_words z_tell z_was z_kept z_cutSpace z_cutTimes z_cutOff z_trace v_stretches v_cars v_tunes v_along v_near v_borne v_tempo v_seed v_fault v_from v_at v_end v_told v_wrongAt v_culprit v_ran v_isKept f_held w23_0 f_shown) H := hP
    have hD : va_D A (wX10_show cI cJ cS a_o a_held a_refused a_shown z_steps z_kind z_space z_other z_times z_speed z_base z_share z_notes z_pitch z_beats z_sort z_size z_cells z_carried z_words z_tell z_was z_kept z_cutSpace z_cutTimes z_cutOff z_trace v_stretches v_cars v_tunes v_along v_near v_borne v_tempo v_seed v_fault v_from v_at v_end v_told v_wrongAt v_culprit v_ran v_isKept f_held w23_0 f_shown) := hD
    exact W.iret hx hb hr (fun t ht _ => ⟨⟨_, (f_held, w23_0, f_shown), rfl, h, hPt hP ht⟩, hS.F ht⟩) hS.2.2 dX10_show_26
  have h := h.2 hc
  refine lv_iload_n hx hb dX10_show_8 rfl (lv_at hl 2 rfl) ?_
  refine lv_iconst (v := (-1)) hx hb dX10_show_9 (by decide) ?_
  refine lv_icmp_eq (tgt := 27) hx hb dX10_show_10 (by decide) (fun hc => ?_) (fun hc => ?_)
  · have h := h.1 hc
    refine w_X10_show_27 S hE hT hA hr hlocks _ _ _ h hP hD hS (lv_sub hl [0, 1, 2] rfl)
  have h := h.2 hc
  refine lv_aload_n hx hb dX10_show_13 rfl (lv_at hl 0 rfl) ?_
  refine lv_iload_n hx hb dX10_show_14 rfl (lv_at hl 2 rfl) ?_
  refine ro_i (roV S hE hT hS (c_X10_isStretch h) lkX10_125 rfl ⟨(Nat.le_of_ble_eq_true rfl), (Nat.le_of_ble_eq_true rfl)⟩ (hP.sub [0] rfl) 0 rfl rfl hl.1 rfl (Nat.le_of_ble_eq_true rfl) dX10_show_15 ⟨(Nat.zero_le _), (Nat.zero_le _)⟩) (fun r15 h => ?_)
  refine lv_if_ne (tgt := 27) hx hb dX10_show_18 (by decide) (fun hc => ?_) (fun hc => ?_)
  · have h := h.2 hc
    refine w_X10_show_27 S hE hT hA hr hlocks _ _ _ h hP hD hS (lv_sub hl [0, 1, 2] rfl)
  have h := h.1 hc
  refine lv_aload_n hx hb dX10_show_21 rfl (lv_at hl 0 rfl) ?_
  refine lv_iconst (v := (-1)) hx hb dX10_show_22 (by decide) ?_
  refine rw_i (rwV S hE hT hS hP hD hA (c_X10_no h) [0, 2] rfl (by decide) lkX10_121 rfl ⟨(Nat.le_of_ble_eq_true rfl), (Nat.le_of_ble_eq_true rfl)⟩ 0 rfl rfl hl.1 rfl (Nat.le_of_ble_eq_true rfl) dX10_show_23 ⟨(Nat.zero_le _), (Nat.zero_le _)⟩) hP hD hS hA [0, 2] rfl (by decide) (fun _ => rfl) (fun r23 w23_0 H locs h hP hD hS => ?_)
  try dsimp only at h
  have hP : va_P D vwCl (wX10_show cI cJ cS a_o a_held a_refused a_shown z_steps z_kind z_space z_other z_times z_speed z_base z_share z_notes z_pitch z_beats z_sort z_size z_cells z_carried z_words z_tell z_was z_kept z_cutSpace z_cutTimes z_cutOff z_trace v_stretches v_cars v_tunes v_along v_near v_borne v_tempo v_seed v_fault v_from v_at v_end v_told v_wrongAt v_culprit v_ran v_isKept f_held w23_0 f_shown) H := hP
  have hD : va_D A (wX10_show cI cJ cS a_o a_held a_refused a_shown z_steps z_kind z_space z_other z_times z_speed z_base z_share z_notes z_pitch z_beats z_sort z_size z_cells z_carried z_words z_tell z_was z_kept z_cutSpace z_cutTimes z_cutOff z_trace v_stretches v_cars v_tunes v_along v_near v_borne v_tempo v_seed v_fault v_from v_at v_end v_told v_wrongAt v_culprit v_ran v_isKept f_held w23_0 f_shown) := hD
  exact W.iret hx hb hr (fun t ht _ => ⟨⟨_, (f_held, w23_0, f_shown), rfl, h, hPt hP ht⟩, hS.F ht⟩) hS.2.2 dX10_show_26
/-! X10_holds -/
abbrev wX10_holds (cI cJ cS : ClassId) (a_o a_held a_shown a_sort : Nat) (z_refused z_steps z_kind z_space z_other z_times z_speed z_base z_share z_notes z_pitch z_beats z_size z_cells z_carried z_words z_tell z_was z_kept z_cutSpace z_cutTimes z_cutOff z_trace : Value) (v_stretches : Int32) (v_cars : Int32) (v_tunes : Int32) (v_along : Int32) (v_near : Int32) (v_borne : Int32) (v_tempo : Int32) (v_seed : Int32) (v_fault : Int32) (v_from : Int32) (v_at : Int32) (v_end : Int32) (v_told : Int32) (v_wrongAt : Int32) (v_culprit : Int32) (v_ran : Int32) (v_isKept : Int32) (f_held : Nat → Int32) (f_shown : Nat → Int32) (f_sort : Nat → Int32) : va_W := [(a_o, .inr (9, [.int v_stretches, .int v_cars, .int v_tunes, .int v_along, .int v_near, .int v_borne, .int v_tempo, .int v_seed, .int v_fault, z_refused, z_steps, z_kind, z_space, z_other, z_times, z_speed, z_base, z_share, z_notes, z_pitch, z_beats, .ref a_held, .ref a_sort, z_size, .ref a_shown, z_cells, z_carried, z_words, z_tell, .int v_from, .int v_at, .int v_end, .int v_told, .int v_wrongAt, z_was, z_kept, .int v_culprit, z_cutSpace, z_cutTimes, z_cutOff, z_trace, .int v_ran, .int v_isKept])), (a_held, .inl (cI, 8, .inl f_held)), (a_shown, .inl (cI, 8, .inl f_shown)), (a_sort, .inl (cI, 8, .inl f_sort))]
def F_X10_holds (f_held : Nat → Int32) (f_shown : Nat → Int32) (f_sort : Nat → Int32) (x1 : Int32) (post : Int32 → Prop) : Prop := (F_X10_isShelf x1 (fun r2 => ((r2 = 0 → post (-1)) ∧ (¬ r2 = 0 → (vp_in x1 8 ∧ (((f_held x1.toNatClampNeg) = 0 → post (-1)) ∧ (¬ (f_held x1.toNatClampNeg) = 0 → (vp_in x1 8 ∧ (((f_held x1.toNatClampNeg) = 1 → (vp_in x1 8 ∧ post (100 + (f_sort x1.toNatClampNeg)))) ∧ (¬ (f_held x1.toNatClampNeg) = 1 → (vp_in x1 8 ∧ post (f_shown x1.toNatClampNeg))))))))))))
set_option maxHeartbeats 4000000 in
set_option maxRecDepth 100000 in
theorem c_X10_holds {l : Launch} {D : va_G} {cI cJ cS : ClassId} {ad adK : Nat → Nat} {a_o a_held a_shown a_sort : Nat} {z_refused z_steps z_kind z_space z_other z_times z_speed z_base z_share z_notes z_pitch z_beats z_size z_cells z_carried z_words z_tell z_was z_kept z_cutSpace z_cutTimes z_cutOff z_trace : Value} {v_stretches : Int32} {v_cars : Int32} {v_tunes : Int32} {v_along : Int32} {v_near : Int32} {v_borne : Int32} {v_tempo : Int32} {v_seed : Int32} {v_fault : Int32} {v_from : Int32} {v_at : Int32} {v_end : Int32} {v_told : Int32} {v_wrongAt : Int32} {v_culprit : Int32} {v_ran : Int32} {v_isKept : Int32} {f_held : Nat → Int32} {f_shown : Nat → Int32} {f_sort : Nat → Int32} {x1 : Int32} {post : Int32 → Prop} (h : F_X10_holds f_held f_shown f_sort x1 post) : Met l yX10_holds (Cond.code yX10_holds cX10_holds 2 (some (.int)) :: GW) (rmd 1 0 0) (PR D cI cJ cS ad adK [.ref a_o, .int x1] (wX10_holds cI cJ cS a_o a_held a_shown a_sort z_refused z_steps z_kind z_space z_other z_times z_speed z_base z_share z_notes z_pitch z_beats z_size z_cells z_carried z_words z_tell z_was z_kept z_cutSpace z_cutTimes z_cutOff z_trace v_stretches v_cars v_tunes v_along v_near v_borne v_tempo v_seed v_fault v_from v_at v_end v_told v_wrongAt v_culprit v_ran v_isKept f_held f_shown f_sort)) (vp_Si post) 0 0 nof := by
  refine Met.ro (by decide) (Nat.le_of_ble_eq_true rfl) (fun p e s m args below meth c ls (S : CallFix p m c cX10_holds 2 s args GW "RoadThatSingsModel") hE hT hP hS hr hlocks hl => ?_)
  have hx := S.1
  have hb := S.2.1
  have hl : lv_has ls 2 [(0, .ref a_o), (1, .int x1)] := hl
  unfold F_X10_holds at h
  refine lv_aload_n hx hb dX10_holds_0 rfl (lv_at hl 0 rfl) ?_
  refine lv_iload_n hx hb dX10_holds_1 rfl (lv_at hl 1 rfl) ?_
  refine ro_i (roV S hE hT hS (c_X10_isShelf h) lkX10_117 rfl ⟨(Nat.le_of_ble_eq_true rfl), (Nat.le_of_ble_eq_true rfl)⟩ (hP.sub [0] rfl) 0 rfl rfl hl.1 rfl (Nat.le_of_ble_eq_true rfl) dX10_holds_2 ⟨(Nat.zero_le _), (Nat.zero_le _)⟩) (fun r2 h => ?_)
  refine lv_if_eq (tgt := 17) hx hb dX10_holds_5 (by decide) (fun hc => ?_) (fun hc => ?_)
  · have h := h.1 hc
    refine lv_iconst (v := (-1)) hx hb dX10_holds_17 (by decide) ?_
    exact W.iret hx hb hr (fun t ht _ => ⟨_, rfl, h, ht⟩) (fun _ hq => by cases hq) dX10_holds_18
  have h := h.2 hc
  refine lv_aload_n hx hb dX10_holds_8 rfl (lv_at hl 0 rfl) ?_
  refine gf S hE hP 0 rfl rfl inX10 (k := 21) (by decide) q1114 rfl dX10_holds_9 ?_
  refine lv_iload_n hx hb dX10_holds_12 rfl (lv_at hl 1 rfl) ?_
  obtain ⟨hi, h⟩ := h
  refine ial S hE hP 1 rfl hi dX10_holds_13 ?_
  refine lv_if_ne (tgt := 19) hx hb dX10_holds_14 (by decide) (fun hc => ?_) (fun hc => ?_)
  · have h := h.2 hc
    refine lv_aload_n hx hb dX10_holds_19 rfl (lv_at hl 0 rfl) ?_
    refine gf S hE hP 0 rfl rfl inX10 (k := 21) (by decide) q1114 rfl dX10_holds_20 ?_
    refine lv_iload_n hx hb dX10_holds_23 rfl (lv_at hl 1 rfl) ?_
    obtain ⟨hi, h⟩ := h
    refine ial S hE hP 1 rfl hi dX10_holds_24 ?_
    refine lv_iconst (v := 1) hx hb dX10_holds_25 (by decide) ?_
    refine lv_icmp_ne (tgt := 41) hx hb dX10_holds_26 (by decide) (fun hc => ?_) (fun hc => ?_)
    · have h := h.2 hc
      refine lv_aload_n hx hb dX10_holds_41 rfl (lv_at hl 0 rfl) ?_
      refine gf S hE hP 0 rfl rfl inX10 (k := 24) (by decide) q1117 rfl dX10_holds_42 ?_
      refine lv_iload_n hx hb dX10_holds_45 rfl (lv_at hl 1 rfl) ?_
      obtain ⟨hi, h⟩ := h
      refine ial S hE hP 2 rfl hi dX10_holds_46 ?_
      exact W.iret hx hb hr (fun t ht _ => ⟨_, rfl, h, ht⟩) (fun _ hq => by cases hq) dX10_holds_47
    have h := h.1 hc
    refine lv_bipush (v := 100) hx hb dX10_holds_29 (by decide) ?_
    refine lv_aload_n hx hb dX10_holds_31 rfl (lv_at hl 0 rfl) ?_
    refine gf S hE hP 0 rfl rfl inX10 (k := 22) (by decide) q1115 rfl dX10_holds_32 ?_
    refine lv_iload_n hx hb dX10_holds_35 rfl (lv_at hl 1 rfl) ?_
    obtain ⟨hi, h⟩ := h
    refine ial S hE hP 3 rfl hi dX10_holds_36 ?_
    refine lv_iadd hx hb dX10_holds_37 ?_
    refine lv_goto (tgt := 47) hx hb dX10_holds_38 (by decide) ?_
    exact W.iret hx hb hr (fun t ht _ => ⟨_, rfl, h, ht⟩) (fun _ hq => by cases hq) dX10_holds_47
  have h := h.1 hc
  refine lv_iconst (v := (-1)) hx hb dX10_holds_17 (by decide) ?_
  exact W.iret hx hb hr (fun t ht _ => ⟨_, rfl, h, ht⟩) (fun _ hq => by cases hq) dX10_holds_18
/-! X10_isEven -/
abbrev wX10_isEven (cI cJ cS : ClassId) (a_o : Nat) (z_refused z_steps z_kind z_space z_other z_times z_speed z_base z_share z_notes z_pitch z_beats z_held z_sort z_size z_shown z_cells z_carried z_words z_tell z_was z_kept z_cutSpace z_cutTimes z_cutOff z_trace : Value) (v_stretches : Int32) (v_cars : Int32) (v_tunes : Int32) (v_along : Int32) (v_near : Int32) (v_borne : Int32) (v_tempo : Int32) (v_seed : Int32) (v_fault : Int32) (v_from : Int32) (v_at : Int32) (v_end : Int32) (v_told : Int32) (v_wrongAt : Int32) (v_culprit : Int32) (v_ran : Int32) (v_isKept : Int32) : va_W := [(a_o, .inr (9, [.int v_stretches, .int v_cars, .int v_tunes, .int v_along, .int v_near, .int v_borne, .int v_tempo, .int v_seed, .int v_fault, z_refused, z_steps, z_kind, z_space, z_other, z_times, z_speed, z_base, z_share, z_notes, z_pitch, z_beats, z_held, z_sort, z_size, z_shown, z_cells, z_carried, z_words, z_tell, .int v_from, .int v_at, .int v_end, .int v_told, .int v_wrongAt, z_was, z_kept, .int v_culprit, z_cutSpace, z_cutTimes, z_cutOff, z_trace, .int v_ran, .int v_isKept]))]
def F_X10_isEven (x1 : Int32) (post : Int32 → Prop) : Prop := ((x1 = 1 → post 1) ∧ (¬ x1 = 1 → ((x1 = 2 → post 1) ∧ (¬ x1 = 2 → ((x1 = 4 → post 1) ∧ (¬ x1 = 4 → ((x1 = 5 → post 1) ∧ (¬ x1 = 5 → post 0))))))))
set_option maxHeartbeats 4000000 in
set_option maxRecDepth 100000 in
theorem c_X10_isEven {l : Launch} {D : va_G} {cI cJ cS : ClassId} {ad adK : Nat → Nat} {a_o : Nat} {z_refused z_steps z_kind z_space z_other z_times z_speed z_base z_share z_notes z_pitch z_beats z_held z_sort z_size z_shown z_cells z_carried z_words z_tell z_was z_kept z_cutSpace z_cutTimes z_cutOff z_trace : Value} {v_stretches : Int32} {v_cars : Int32} {v_tunes : Int32} {v_along : Int32} {v_near : Int32} {v_borne : Int32} {v_tempo : Int32} {v_seed : Int32} {v_fault : Int32} {v_from : Int32} {v_at : Int32} {v_end : Int32} {v_told : Int32} {v_wrongAt : Int32} {v_culprit : Int32} {v_ran : Int32} {v_isKept : Int32} {x1 : Int32} {post : Int32 → Prop} (h : F_X10_isEven x1 post) : Met l yX10_isEven (Cond.code yX10_isEven cX10_isEven 2 (some (.boolean)) :: GW) (rmd 0 0 0) (PR D cI cJ cS ad adK [.ref a_o, .int x1] (wX10_isEven cI cJ cS a_o z_refused z_steps z_kind z_space z_other z_times z_speed z_base z_share z_notes z_pitch z_beats z_held z_sort z_size z_shown z_cells z_carried z_words z_tell z_was z_kept z_cutSpace z_cutTimes z_cutOff z_trace v_stretches v_cars v_tunes v_along v_near v_borne v_tempo v_seed v_fault v_from v_at v_end v_told v_wrongAt v_culprit v_ran v_isKept)) (vp_Si post) 0 0 nof := by
  refine Met.ro (by decide) (Nat.le_of_ble_eq_true rfl) (fun p e s m args below meth c ls (S : CallFix p m c cX10_isEven 2 s args GW "RoadThatSingsModel") hE hT hP hS hr hlocks hl => ?_)
  have hx := S.1
  have hb := S.2.1
  have hl : lv_has ls 2 [(0, .ref a_o), (1, .int x1)] := hl
  unfold F_X10_isEven at h
  refine lv_iload_n hx hb dX10_isEven_0 rfl (lv_at hl 1 rfl) ?_
  refine lv_iconst (v := 1) hx hb dX10_isEven_1 (by decide) ?_
  refine lv_icmp_eq (tgt := 20) hx hb dX10_isEven_2 (by decide) (fun hc => ?_) (fun hc => ?_)
  · have h := h.1 hc
    refine lv_iconst (v := 1) hx hb dX10_isEven_20 (by decide) ?_
    refine lv_goto (tgt := 25) hx hb dX10_isEven_21 (by decide) ?_
    exact W.zret hx hb hr rfl (fun t ht _ => ⟨_, rfl, h, ht⟩) (fun _ hq => by cases hq) dX10_isEven_25
  have h := h.2 hc
  refine lv_iload_n hx hb dX10_isEven_5 rfl (lv_at hl 1 rfl) ?_
  refine lv_iconst (v := 2) hx hb dX10_isEven_6 (by decide) ?_
  refine lv_icmp_eq (tgt := 20) hx hb dX10_isEven_7 (by decide) (fun hc => ?_) (fun hc => ?_)
  · have h := h.1 hc
    refine lv_iconst (v := 1) hx hb dX10_isEven_20 (by decide) ?_
    refine lv_goto (tgt := 25) hx hb dX10_isEven_21 (by decide) ?_
    exact W.zret hx hb hr rfl (fun t ht _ => ⟨_, rfl, h, ht⟩) (fun _ hq => by cases hq) dX10_isEven_25
  have h := h.2 hc
  refine lv_iload_n hx hb dX10_isEven_10 rfl (lv_at hl 1 rfl) ?_
  refine lv_iconst (v := 4) hx hb dX10_isEven_11 (by decide) ?_
  refine lv_icmp_eq (tgt := 20) hx hb dX10_isEven_12 (by decide) (fun hc => ?_) (fun hc => ?_)
  · have h := h.1 hc
    refine lv_iconst (v := 1) hx hb dX10_isEven_20 (by decide) ?_
    refine lv_goto (tgt := 25) hx hb dX10_isEven_21 (by decide) ?_
    exact W.zret hx hb hr rfl (fun t ht _ => ⟨_, rfl, h, ht⟩) (fun _ hq => by cases hq) dX10_isEven_25
  have h := h.2 hc
  refine lv_iload_n hx hb dX10_isEven_15 rfl (lv_at hl 1 rfl) ?_
  refine lv_iconst (v := 5) hx hb dX10_isEven_16 (by decide) ?_
  refine lv_icmp_ne (tgt := 24) hx hb dX10_isEven_17 (by decide) (fun hc => ?_) (fun hc => ?_)
  · have h := h.2 hc
    refine lv_iconst (v := 0) hx hb dX10_isEven_24 (by decide) ?_
    exact W.zret hx hb hr rfl (fun t ht _ => ⟨_, rfl, h, ht⟩) (fun _ hq => by cases hq) dX10_isEven_25
  have h := h.1 hc
  refine lv_iconst (v := 1) hx hb dX10_isEven_20 (by decide) ?_
  refine lv_goto (tgt := 25) hx hb dX10_isEven_21 (by decide) ?_
  exact W.zret hx hb hr rfl (fun t ht _ => ⟨_, rfl, h, ht⟩) (fun _ hq => by cases hq) dX10_isEven_25
/-! X10_isTwo -/
abbrev wX10_isTwo (cI cJ cS : ClassId) (a_o : Nat) (z_refused z_steps z_kind z_space z_other z_times z_speed z_base z_share z_notes z_pitch z_beats z_held z_sort z_size z_shown z_cells z_carried z_words z_tell z_was z_kept z_cutSpace z_cutTimes z_cutOff z_trace : Value) (v_stretches : Int32) (v_cars : Int32) (v_tunes : Int32) (v_along : Int32) (v_near : Int32) (v_borne : Int32) (v_tempo : Int32) (v_seed : Int32) (v_fault : Int32) (v_from : Int32) (v_at : Int32) (v_end : Int32) (v_told : Int32) (v_wrongAt : Int32) (v_culprit : Int32) (v_ran : Int32) (v_isKept : Int32) : va_W := [(a_o, .inr (9, [.int v_stretches, .int v_cars, .int v_tunes, .int v_along, .int v_near, .int v_borne, .int v_tempo, .int v_seed, .int v_fault, z_refused, z_steps, z_kind, z_space, z_other, z_times, z_speed, z_base, z_share, z_notes, z_pitch, z_beats, z_held, z_sort, z_size, z_shown, z_cells, z_carried, z_words, z_tell, .int v_from, .int v_at, .int v_end, .int v_told, .int v_wrongAt, z_was, z_kept, .int v_culprit, z_cutSpace, z_cutTimes, z_cutOff, z_trace, .int v_ran, .int v_isKept]))]
def F_X10_isTwo (x1 : Int32) (post : Int32 → Prop) : Prop := ((x1 = 2 → post 1) ∧ (¬ x1 = 2 → ((x1 = 5 → post 1) ∧ (¬ x1 = 5 → post 0))))
set_option maxHeartbeats 4000000 in
set_option maxRecDepth 100000 in
theorem c_X10_isTwo {l : Launch} {D : va_G} {cI cJ cS : ClassId} {ad adK : Nat → Nat} {a_o : Nat} {z_refused z_steps z_kind z_space z_other z_times z_speed z_base z_share z_notes z_pitch z_beats z_held z_sort z_size z_shown z_cells z_carried z_words z_tell z_was z_kept z_cutSpace z_cutTimes z_cutOff z_trace : Value} {v_stretches : Int32} {v_cars : Int32} {v_tunes : Int32} {v_along : Int32} {v_near : Int32} {v_borne : Int32} {v_tempo : Int32} {v_seed : Int32} {v_fault : Int32} {v_from : Int32} {v_at : Int32} {v_end : Int32} {v_told : Int32} {v_wrongAt : Int32} {v_culprit : Int32} {v_ran : Int32} {v_isKept : Int32} {x1 : Int32} {post : Int32 → Prop} (h : F_X10_isTwo x1 post) : Met l yX10_isTwo (Cond.code yX10_isTwo cX10_isTwo 2 (some (.boolean)) :: GW) (rmd 0 0 0) (PR D cI cJ cS ad adK [.ref a_o, .int x1] (wX10_isTwo cI cJ cS a_o z_refused z_steps z_kind z_space z_other z_times z_speed z_base z_share z_notes z_pitch z_beats z_held z_sort z_size z_shown z_cells z_carried z_words z_tell z_was z_kept z_cutSpace z_cutTimes z_cutOff z_trace v_stretches v_cars v_tunes v_along v_near v_borne v_tempo v_seed v_fault v_from v_at v_end v_told v_wrongAt v_culprit v_ran v_isKept)) (vp_Si post) 0 0 nof := by
  refine Met.ro (by decide) (Nat.le_of_ble_eq_true rfl) (fun p e s m args below meth c ls (S : CallFix p m c cX10_isTwo 2 s args GW "RoadThatSingsModel") hE hT hP hS hr hlocks hl => ?_)
  have hx := S.1
  have hb := S.2.1
  have hl : lv_has ls 2 [(0, .ref a_o), (1, .int x1)] := hl
  unfold F_X10_isTwo at h
  refine lv_iload_n hx hb dX10_isTwo_0 rfl (lv_at hl 1 rfl) ?_
  refine lv_iconst (v := 2) hx hb dX10_isTwo_1 (by decide) ?_
  refine lv_icmp_eq (tgt := 10) hx hb dX10_isTwo_2 (by decide) (fun hc => ?_) (fun hc => ?_)
  · have h := h.1 hc
    refine lv_iconst (v := 1) hx hb dX10_isTwo_10 (by decide) ?_
    refine lv_goto (tgt := 15) hx hb dX10_isTwo_11 (by decide) ?_
    exact W.zret hx hb hr rfl (fun t ht _ => ⟨_, rfl, h, ht⟩) (fun _ hq => by cases hq) dX10_isTwo_15
  have h := h.2 hc
  refine lv_iload_n hx hb dX10_isTwo_5 rfl (lv_at hl 1 rfl) ?_
  refine lv_iconst (v := 5) hx hb dX10_isTwo_6 (by decide) ?_
  refine lv_icmp_ne (tgt := 14) hx hb dX10_isTwo_7 (by decide) (fun hc => ?_) (fun hc => ?_)
  · have h := h.2 hc
    refine lv_iconst (v := 0) hx hb dX10_isTwo_14 (by decide) ?_
    exact W.zret hx hb hr rfl (fun t ht _ => ⟨_, rfl, h, ht⟩) (fun _ hq => by cases hq) dX10_isTwo_15
  have h := h.1 hc
  refine lv_iconst (v := 1) hx hb dX10_isTwo_10 (by decide) ?_
  refine lv_goto (tgt := 15) hx hb dX10_isTwo_11 (by decide) ?_
  exact W.zret hx hb hr rfl (fun t ht _ => ⟨_, rfl, h, ht⟩) (fun _ hq => by cases hq) dX10_isTwo_15
/-! X10_lengthOf -/
abbrev wX10_lengthOf (cI cJ cS : ClassId) (a_o a_kind a_other a_space a_times : Nat) (z_refused z_steps z_speed z_base z_share z_notes z_pitch z_beats z_held z_sort z_size z_shown z_cells z_carried z_words z_tell z_was z_kept z_cutSpace z_cutTimes z_cutOff z_trace : Value) (v_stretches : Int32) (v_cars : Int32) (v_tunes : Int32) (v_along : Int32) (v_near : Int32) (v_borne : Int32) (v_tempo : Int32) (v_seed : Int32) (v_fault : Int32) (v_from : Int32) (v_at : Int32) (v_end : Int32) (v_told : Int32) (v_wrongAt : Int32) (v_culprit : Int32) (v_ran : Int32) (v_isKept : Int32) (f_kind : Nat → Int32) (f_other : Nat → Int32) (f_space : Nat → Int32) (f_times : Nat → Int32) : va_W := [(a_o, .inr (9, [.int v_stretches, .int v_cars, .int v_tunes, .int v_along, .int v_near, .int v_borne, .int v_tempo, .int v_seed, .int v_fault, z_refused, z_steps, .ref a_kind, .ref a_space, .ref a_other, .ref a_times, z_speed, z_base, z_share, z_notes, z_pitch, z_beats, z_held, z_sort, z_size, z_shown, z_cells, z_carried, z_words, z_tell, .int v_from, .int v_at, .int v_end, .int v_told, .int v_wrongAt, z_was, z_kept, .int v_culprit, z_cutSpace, z_cutTimes, z_cutOff, z_trace, .int v_ran, .int v_isKept])), (a_kind, .inl (cI, 16, .inl f_kind)), (a_other, .inl (cI, 16, .inl f_other)), (a_space, .inl (cI, 16, .inl f_space)), (a_times, .inl (cI, 16, .inl f_times))]
def F_X10_lengthOf_55 (f_times : Nat → Int32) (post : Int32 → Prop) (x1 : Int32) (s0 : Int32) : Prop := (vp_in x1 16 ∧ post ((f_times x1.toNatClampNeg) * s0))
def F_X10_lengthOf (f_kind : Nat → Int32) (f_other : Nat → Int32) (f_space : Nat → Int32) (f_times : Nat → Int32) (x1 : Int32) (post : Int32 → Prop) : Prop := (vp_in x1 16 ∧ (F_X10_isTwo (f_kind x1.toNatClampNeg) (fun r7 => ((r7 = 0 → (vp_in x1 16 ∧ (((f_kind x1.toNatClampNeg) = 6 → (vp_in x1 16 ∧ F_X10_lengthOf_55 f_times post x1 (f_other x1.toNatClampNeg))) ∧ (¬ (f_kind x1.toNatClampNeg) = 6 → (vp_in x1 16 ∧ F_X10_lengthOf_55 f_times post x1 (f_space x1.toNatClampNeg)))))) ∧ (¬ r7 = 0 → (vp_in x1 16 ∧ (vp_in x1 16 ∧ F_X10_lengthOf_55 f_times post x1 ((f_space x1.toNatClampNeg) + (f_other x1.toNatClampNeg)))))))))
set_option maxHeartbeats 4000000 in
set_option maxRecDepth 100000 in
theorem w_X10_lengthOf_55 {l : Launch} {D : va_G} {cI cJ cS : ClassId} {ad adK : Nat → Nat} {a_o a_kind a_other a_space a_times : Nat} {z_refused z_steps z_speed z_base z_share z_notes z_pitch z_beats z_held z_sort z_size z_shown z_cells z_carried z_words z_tell z_was z_kept z_cutSpace z_cutTimes z_cutOff z_trace : Value} {v_stretches : Int32} {v_cars : Int32} {v_tunes : Int32} {v_along : Int32} {v_near : Int32} {v_borne : Int32} {v_tempo : Int32} {v_seed : Int32} {v_fault : Int32} {v_from : Int32} {v_at : Int32} {v_end : Int32} {v_told : Int32} {v_wrongAt : Int32} {v_culprit : Int32} {v_ran : Int32} {v_isKept : Int32} {f_kind : Nat → Int32} {f_other : Nat → Int32} {f_space : Nat → Int32} {f_times : Nat → Int32} {x1 : Int32} {s0 : Int32} {post : Int32 → Prop} {p : Program} {e : Env} {s : State} {m : MethodId} {args : Array Value} {below : List Frame} {meth : Method} {c : Code} (S : CallFix p m c cX10_lengthOf 3 s args GW "RoadThatSingsModel") (hE : EN D cI cJ cS s) (hT : ST ad adK nof s s.heap) (hP : va_P D vwCl (wX10_lengthOf cI cJ cS a_o a_kind a_other a_space a_times z_refused z_steps z_speed z_base z_share z_notes z_pitch z_beats z_held z_sort z_size z_shown z_cells z_carried z_words z_tell z_was z_kept z_cutSpace z_cutTimes z_cutOff z_trace v_stretches v_cars v_tunes v_along v_near v_borne v_tempo v_seed v_fault v_from v_at v_end v_told v_wrongAt v_culprit v_ran v_isKept f_kind f_other f_space f_times) s.heap) (hS : va_S nof s.heap s.heap []) (hr : meth.sig.returnType = (some (.int))) (hlocks : meth.locks = false) : ∀ (ls : Array Slot), F_X10_lengthOf_55 f_times post x1 s0 → lv_has ls 3 [(0, .ref a_o), (1, .int x1)] → W p l e (rmd 1 0 0) s m args below meth c s.heap [] 0 0 (MQ below (vp_Si post) args s 0 0 nof) (F0 m 55 ls [.int s0]) := by
  intro  ls h hl
  unfold F_X10_lengthOf_55 at h
  have hx := S.1
  have hb := S.2.1
  refine lv_istore_n (lv' := [(2, .int s0), (0, .ref a_o), (1, .int x1)]) hx hb dX10_lengthOf_55 rfl hl (by decide) rfl (fun ls hl => ?_)
  refine lv_aload_n hx hb dX10_lengthOf_56 rfl (lv_at hl 1 rfl) ?_
  refine gf S hE hP 0 rfl rfl inX10 (k := 14) (by decide) q1107 rfl dX10_lengthOf_57 ?_
  refine lv_iload_n hx hb dX10_lengthOf_60 rfl (lv_at hl 2 rfl) ?_
  obtain ⟨hi, h⟩ := h
  refine ial S hE hP 4 rfl hi dX10_lengthOf_61 ?_
  refine lv_iload_n hx hb dX10_lengthOf_62 rfl (lv_at hl 0 rfl) ?_
  refine lv_imul hx hb dX10_lengthOf_63 ?_
  exact W.iret hx hb hr (fun t ht _ => ⟨_, rfl, h, ht⟩) (fun _ hq => by cases hq) dX10_lengthOf_64
set_option maxHeartbeats 4000000 in
set_option maxRecDepth 100000 in
theorem c_X10_lengthOf {l : Launch} {D : va_G} {cI cJ cS : ClassId} {ad adK : Nat → Nat} {a_o a_kind a_other a_space a_times : Nat} {z_refused z_steps z_speed z_base z_share z_notes z_pitch z_beats z_held z_sort z_size z_shown z_cells z_carried z_words z_tell z_was z_kept z_cutSpace z_cutTimes z_cutOff z_trace : Value} {v_stretches : Int32} {v_cars : Int32} {v_tunes : Int32} {v_along : Int32} {v_near : Int32} {v_borne : Int32} {v_tempo : Int32} {v_seed : Int32} {v_fault : Int32} {v_from : Int32} {v_at : Int32} {v_end : Int32} {v_told : Int32} {v_wrongAt : Int32} {v_culprit : Int32} {v_ran : Int32} {v_isKept : Int32} {f_kind : Nat → Int32} {f_other : Nat → Int32} {f_space : Nat → Int32} {f_times : Nat → Int32} {x1 : Int32} {post : Int32 → Prop} (h : F_X10_lengthOf f_kind f_other f_space f_times x1 post) : Met l yX10_lengthOf (Cond.code yX10_lengthOf cX10_lengthOf 3 (some (.int)) :: GW) (rmd 1 0 0) (PR D cI cJ cS ad adK [.ref a_o, .int x1] (wX10_lengthOf cI cJ cS a_o a_kind a_other a_space a_times z_refused z_steps z_speed z_base z_share z_notes z_pitch z_beats z_held z_sort z_size z_shown z_cells z_carried z_words z_tell z_was z_kept z_cutSpace z_cutTimes z_cutOff z_trace v_stretches v_cars v_tunes v_along v_near v_borne v_tempo v_seed v_fault v_from v_at v_end v_told v_wrongAt v_culprit v_ran v_isKept f_kind f_other f_space f_times)) (vp_Si post) 0 0 nof := by
  refine Met.ro (by decide) (Nat.le_of_ble_eq_true rfl) (fun p e s m args below meth c ls (S : CallFix p m c cX10_lengthOf 3 s args GW "RoadThatSingsModel") hE hT hP hS hr hlocks hl => ?_)
  have hx := S.1
  have hb := S.2.1
  have hl : lv_has ls 3 [(0, .ref a_o), (1, .int x1)] := hl
  unfold F_X10_lengthOf at h
  refine lv_aload_n hx hb dX10_lengthOf_0 rfl (lv_at hl 0 rfl) ?_
  refine lv_aload_n hx hb dX10_lengthOf_1 rfl (lv_at hl 0 rfl) ?_
  refine gf S hE hP 0 rfl rfl inX10 (k := 11) (by decide) q1104 rfl dX10_lengthOf_2 ?_
  refine lv_iload_n hx hb dX10_lengthOf_5 rfl (lv_at hl 1 rfl) ?_
  obtain ⟨hi, h⟩ := h
  refine ial S hE hP 1 rfl hi dX10_lengthOf_6 ?_
  refine ro_i (roV S hE hT hS (c_X10_isTwo h) lkX10_152 rfl ⟨(Nat.le_of_ble_eq_true rfl), (Nat.le_of_ble_eq_true rfl)⟩ (hP.sub [0] rfl) 0 rfl rfl hl.1 rfl (Nat.le_of_ble_eq_true rfl) dX10_lengthOf_7 ⟨(Nat.zero_le _), (Nat.zero_le _)⟩) (fun r7 h => ?_)
  refine lv_if_eq (tgt := 29) hx hb dX10_lengthOf_10 (by decide) (fun hc => ?_) (fun hc => ?_)
  · have h := h.1 hc
    refine lv_aload_n hx hb dX10_lengthOf_29 rfl (lv_at hl 0 rfl) ?_
    refine gf S hE hP 0 rfl rfl inX10 (k := 11) (by decide) q1104 rfl dX10_lengthOf_30 ?_
    refine lv_iload_n hx hb dX10_lengthOf_33 rfl (lv_at hl 1 rfl) ?_
    obtain ⟨hi, h⟩ := h
    refine ial S hE hP 1 rfl hi dX10_lengthOf_34 ?_
    refine lv_bipush (v := 6) hx hb dX10_lengthOf_35 (by decide) ?_
    refine lv_icmp_ne (tgt := 49) hx hb dX10_lengthOf_37 (by decide) (fun hc => ?_) (fun hc => ?_)
    · have h := h.2 hc
      refine lv_aload_n hx hb dX10_lengthOf_49 rfl (lv_at hl 0 rfl) ?_
      refine gf S hE hP 0 rfl rfl inX10 (k := 12) (by decide) q1105 rfl dX10_lengthOf_50 ?_
      refine lv_iload_n hx hb dX10_lengthOf_53 rfl (lv_at hl 1 rfl) ?_
      obtain ⟨hi, h⟩ := h
      refine ial S hE hP 3 rfl hi dX10_lengthOf_54 ?_
      refine w_X10_lengthOf_55 S hE hT hP hS hr hlocks _ h (lv_sub hl [0, 1] rfl)
    have h := h.1 hc
    refine lv_aload_n hx hb dX10_lengthOf_40 rfl (lv_at hl 0 rfl) ?_
    refine gf S hE hP 0 rfl rfl inX10 (k := 13) (by decide) q1106 rfl dX10_lengthOf_41 ?_
    refine lv_iload_n hx hb dX10_lengthOf_44 rfl (lv_at hl 1 rfl) ?_
    obtain ⟨hi, h⟩ := h
    refine ial S hE hP 2 rfl hi dX10_lengthOf_45 ?_
    refine lv_goto (tgt := 55) hx hb dX10_lengthOf_46 (by decide) ?_
    refine w_X10_lengthOf_55 S hE hT hP hS hr hlocks _ h (lv_sub hl [0, 1] rfl)
  have h := h.2 hc
  refine lv_aload_n hx hb dX10_lengthOf_13 rfl (lv_at hl 0 rfl) ?_
  refine gf S hE hP 0 rfl rfl inX10 (k := 12) (by decide) q1105 rfl dX10_lengthOf_14 ?_
  refine lv_iload_n hx hb dX10_lengthOf_17 rfl (lv_at hl 1 rfl) ?_
  obtain ⟨hi, h⟩ := h
  refine ial S hE hP 3 rfl hi dX10_lengthOf_18 ?_
  refine lv_aload_n hx hb dX10_lengthOf_19 rfl (lv_at hl 0 rfl) ?_
  refine gf S hE hP 0 rfl rfl inX10 (k := 13) (by decide) q1106 rfl dX10_lengthOf_20 ?_
  refine lv_iload_n hx hb dX10_lengthOf_23 rfl (lv_at hl 1 rfl) ?_
  obtain ⟨hi, h⟩ := h
  refine ial S hE hP 2 rfl hi dX10_lengthOf_24 ?_
  refine lv_iadd hx hb dX10_lengthOf_25 ?_
  refine lv_goto (tgt := 55) hx hb dX10_lengthOf_26 (by decide) ?_
  refine w_X10_lengthOf_55 S hE hT hP hS hr hlocks _ h (lv_sub hl [0, 1] rfl)
/-! X10_says -/
abbrev wX10_says (cI cJ cS : ClassId) (a_o a_held a_kind a_other a_refused a_shown a_space a_times : Nat) (z_steps z_speed z_base z_share z_notes z_pitch z_beats z_sort z_size z_cells z_carried z_words z_tell z_was z_kept z_cutSpace z_cutTimes z_cutOff z_trace : Value) (v_stretches : Int32) (v_cars : Int32) (v_tunes : Int32) (v_along : Int32) (v_near : Int32) (v_borne : Int32) (v_tempo : Int32) (v_seed : Int32) (v_fault : Int32) (v_from : Int32) (v_at : Int32) (v_end : Int32) (v_told : Int32) (v_wrongAt : Int32) (v_culprit : Int32) (v_ran : Int32) (v_isKept : Int32) (f_held : Nat → Int32) (f_kind : Nat → Int32) (f_other : Nat → Int32) (f_refused : Nat → Int32) (f_shown : Nat → Int32) (f_space : Nat → Int32) (f_times : Nat → Int32) : va_W := [(a_o, .inr (9, [.int v_stretches, .int v_cars, .int v_tunes, .int v_along, .int v_near, .int v_borne, .int v_tempo, .int v_seed, .int v_fault, .ref a_refused, z_steps, .ref a_kind, .ref a_space, .ref a_other, .ref a_times, z_speed, z_base, z_share, z_notes, z_pitch, z_beats, .ref a_held, z_sort, z_size, .ref a_shown, z_cells, z_carried, z_words, z_tell, .int v_from, .int v_at, .int v_end, .int v_told, .int v_wrongAt, z_was, z_kept, .int v_culprit, z_cutSpace, z_cutTimes, z_cutOff, z_trace, .int v_ran, .int v_isKept])), (a_held, .inl (cI, 8, .inl f_held)), (a_kind, .inl (cI, 16, .inl f_kind)), (a_other, .inl (cI, 16, .inl f_other)), (a_refused, .inl (cI, 8, .inl f_refused)), (a_shown, .inl (cI, 8, .inl f_shown)), (a_space, .inl (cI, 16, .inl f_space)), (a_times, .inl (cI, 16, .inl f_times))]
def F_X10_says_114 (f_kind : Nat → Int32) (f_other : Nat → Int32) (f_space : Nat → Int32) (f_times : Nat → Int32) (post : Int32 → (Nat → Int32) → Prop) (x2 : Int32) (x3 : Int32) (f_refused : Nat → Int32) : Prop := ((x2 = 0 → (F_X10_lengthOf f_kind f_other f_space f_times x3 (fun r154 => post r154 f_refused))) ∧ (¬ x2 = 0 → ((x2 = 1 → (vp_in x3 16 ∧ post (f_space x3.toNatClampNeg) f_refused)) ∧ (¬ x2 = 1 → ((x2 = 2 → (vp_in x3 16 ∧ (vp_in x3 16 ∧ post ((f_space x3.toNatClampNeg) + (f_other x3.toNatClampNeg)) f_refused))) ∧ (¬ x2 = 2 → ((x2 = 3 → (vp_in x3 16 ∧ post (f_times x3.toNatClampNeg) f_refused)) ∧ (¬ x2 = 3 → ((x2 = 4 → (vp_in x3 16 ∧ post (f_space x3.toNatClampNeg) f_refused)) ∧ (¬ x2 = 4 → ((x2 = 5 → (vp_in x3 16 ∧ (vp_in x3 16 ∧ post ((f_space x3.toNatClampNeg) + (f_other x3.toNatClampNeg)) f_refused))) ∧ (¬ x2 = 5 → (vp_in x3 16 ∧ post (f_other x3.toNatClampNeg) f_refused)))))))))))))
def F_X10_says_96 (f_kind : Nat → Int32) (f_other : Nat → Int32) (f_space : Nat → Int32) (f_times : Nat → Int32) (post : Int32 → (Nat → Int32) → Prop) (x2 : Int32) (x3 : Int32) (x4 : Int32) (f_refused : Nat → Int32) : Prop := ((x2 = 2 → ((x4 = 5 → F_X10_says_114 f_kind f_other f_space f_times post x2 x3 f_refused) ∧ (¬ x4 = 5 → (F_X10_no f_refused (-2) (fun r110 w110_0 => post r110 w110_0))))) ∧ (¬ x2 = 2 → (F_X10_no f_refused (-2) (fun r110 w110_0 => post r110 w110_0))))
def F_X10_says (f_held : Nat → Int32) (f_kind : Nat → Int32) (f_other : Nat → Int32) (f_refused : Nat → Int32) (f_shown : Nat → Int32) (f_space : Nat → Int32) (f_times : Nat → Int32) (x1 : Int32) (x2 : Int32) (post : Int32 → (Nat → Int32) → Prop) : Prop := (F_X10_isShelf x1 (fun r2 => ((r2 = 0 → (F_X10_no f_refused (-1) (fun r20 w20_0 => post r20 w20_0))) ∧ (¬ r2 = 0 → ((x2 < 0 → (F_X10_no f_refused (-1) (fun r20 w20_0 => post r20 w20_0))) ∧ (¬ x2 < 0 → ((x2 ≤ 6 → (vp_in x1 8 ∧ (((f_held x1.toNatClampNeg) = 1 → (F_X10_no f_refused (-2) (fun r37 w37_0 => post r37 w37_0))) ∧ (¬ (f_held x1.toNatClampNeg) = 1 → (vp_in x1 8 ∧ (((f_held x1.toNatClampNeg) = 0 → (F_X10_no f_refused (-3) (fun r53 w53_0 => post r53 w53_0))) ∧ (¬ (f_held x1.toNatClampNeg) = 0 → (vp_in x1 8 ∧ (∀ x3_63 : Int32, x3_63 = f_shown x1.toNatClampNeg → (vp_in x3_63 16 ∧ (∀ x4_70 : Int32, x4_70 = f_kind x3_63.toNatClampNeg → ((x2 = 0 → F_X10_says_114 f_kind f_other f_space f_times post x2 x3_63 f_refused) ∧ (¬ x2 = 0 → ((x2 = x4_70 → F_X10_says_114 f_kind f_other f_space f_times post x2 x3_63 f_refused) ∧ (¬ x2 = x4_70 → ((x2 = 1 → (F_X10_isEven x4_70 (fun r90 => ((r90 = 0 → F_X10_says_96 f_kind f_other f_space f_times post x2 x3_63 x4_70 f_refused) ∧ (¬ r90 = 0 → F_X10_says_114 f_kind f_other f_space f_times post x2 x3_63 f_refused))))) ∧ (¬ x2 = 1 → F_X10_says_96 f_kind f_other f_space f_times post x2 x3_63 x4_70 f_refused))))))))))))))))) ∧ (¬ x2 ≤ 6 → (F_X10_no f_refused (-1) (fun r20 w20_0 => post r20 w20_0))))))))))
set_option maxHeartbeats 4000000 in
set_option maxRecDepth 100000 in
theorem w_X10_says_114 {l : Launch} {D : va_G} {cI cJ cS : ClassId} {ad adK : Nat → Nat} {a_o a_held a_kind a_other a_refused a_shown a_space a_times : Nat} {z_steps z_speed z_base z_share z_notes z_pitch z_beats z_sort z_size z_cells z_carried z_words z_tell z_was z_kept z_cutSpace z_cutTimes z_cutOff z_trace : Value} {v_stretches : Int32} {v_cars : Int32} {v_tunes : Int32} {v_along : Int32} {v_near : Int32} {v_borne : Int32} {v_tempo : Int32} {v_seed : Int32} {v_fault : Int32} {v_from : Int32} {v_at : Int32} {v_end : Int32} {v_told : Int32} {v_wrongAt : Int32} {v_culprit : Int32} {v_ran : Int32} {v_isKept : Int32} {f_held : Nat → Int32} {f_kind : Nat → Int32} {f_other : Nat → Int32} {f_refused : Nat → Int32} {f_shown : Nat → Int32} {f_space : Nat → Int32} {f_times : Nat → Int32} {x2 : Int32} {x3 : Int32} {post : Int32 → (Nat → Int32) → Prop} {p : Program} {e : Env} {s : State} {m : MethodId} {args : Array Value} {below : List Frame} {meth : Method} {c : Code} {A : Nat → Prop} (S : CallFix p m c cX10_says 5 s args GW "RoadThatSingsModel") (hE : EN D cI cJ cS s) (hT : ST ad adK A s s.heap) (hA : ∀ q : Nat, s.heap.size ≤ q → A q) (hr : meth.sig.returnType = (some (.int))) (hlocks : meth.locks = false) : ∀ (H : Heap) (locs : List Loc) (ls : Array Slot), F_X10_says_114 f_kind f_other f_space f_times post x2 x3 f_refused → va_P D vwCl (wX10_says cI cJ cS a_o a_held a_kind a_other a_refused a_shown a_space a_times z_steps z_speed z_base z_share z_notes z_pitch z_beats z_sort z_size z_cells z_carried z_words z_tell z_was z_kept z_cutSpace z_cutTimes z_cutOff z_trace v_stretches v_cars v_tunes v_along v_near v_borne v_tempo v_seed v_fault v_from v_at v_end v_told v_wrongAt v_culprit v_ran v_isKept f_held f_kind f_other f_refused f_shown f_space f_times) H → va_D A (wX10_says cI cJ cS a_o a_held a_kind a_other a_refused a_shown a_space a_times z_steps z_speed z_base z_share z_notes z_pitch z_beats z_sort z_size z_cells z_carried z_words z_tell z_was z_kept z_cutSpace z_cutTimes z_cutOff z_trace v_stretches v_cars v_tunes v_along v_near v_borne v_tempo v_seed v_fault v_from v_at v_end v_told v_wrongAt v_culprit v_ran v_isKept f_held f_kind f_other f_refused f_shown f_space f_times) → va_S A s.heap H locs → lv_has ls 5 [(0, .ref a_o), (2, .int x2), (3, .int x3)] → W p l e (rmd 2 0 0) s m args below meth c H locs 0 0 (MQ below (va_Qi (fun r (u : (Nat → Int32)) => post r u) (fun u t => va_P D vwCl (wX10_says cI cJ cS a_o a_held a_kind a_other a_refused a_shown a_space a_times z_steps z_speed z_base z_share z_notes z_pitch z_beats z_sort z_size z_cells z_carried z_words z_tell z_was z_kept z_cutSpace z_cutTimes z_cutOff z_trace v_stretches v_cars v_tunes v_along v_near v_borne v_tempo v_seed v_fault v_from v_at v_end v_told v_wrongAt v_culprit v_ran v_isKept f_held f_kind f_other u f_shown f_space f_times) t.heap) A) args s 0 0 A) (F0 m 114 ls []) := by
  intro  H locs ls h hP hD hS hl
  unfold F_X10_says_114 at h
  have hx := S.1
  have hb := S.2.1
  refine lv_iload_n hx hb dX10_says_114 rfl (lv_at hl 1 rfl) ?_
  by_cases hk0 : x2 = 0
  · have h := h.1 hk0
    refine lv_tableIn (off := 37) (tgt := 152) hx hb dX10_says_115 (by rw [hk0]; decide) (by rw [hk0]; decide) (by rw [hk0]; rfl) (by decide) ?_
    refine lv_aload_n hx hb dX10_says_152 rfl (lv_at hl 0 rfl) ?_
    refine lv_iload_n hx hb dX10_says_153 rfl (lv_at hl 2 rfl) ?_
    refine ro_i (roV S hE hT hS (c_X10_lengthOf h) lkX10_131 rfl ⟨(Nat.le_of_ble_eq_true rfl), (Nat.le_of_ble_eq_true rfl)⟩ (hP.sub [0, 2, 3, 6, 7] rfl) 0 rfl rfl hl.1 rfl (Nat.le_of_ble_eq_true rfl) dX10_says_154 ⟨(Nat.zero_le _), (Nat.zero_le _)⟩) (fun r154 h => ?_)
    exact W.iret hx hb hr (fun t ht _ => ⟨⟨_, f_refused, rfl, h, hPt hP ht⟩, hS.F ht⟩) hS.2.2 dX10_says_157
  have h := h.2 hk0
  by_cases hk1 : x2 = 1
  · have h := h.1 hk1
    refine lv_tableIn (off := 43) (tgt := 158) hx hb dX10_says_115 (by rw [hk1]; decide) (by rw [hk1]; decide) (by rw [hk1]; rfl) (by decide) ?_
    refine lv_aload_n hx hb dX10_says_158 rfl (lv_at hl 0 rfl) ?_
    refine gf S hE hP 0 rfl rfl inX10 (k := 12) (by decide) q1105 rfl dX10_says_159 ?_
    refine lv_iload_n hx hb dX10_says_162 rfl (lv_at hl 2 rfl) ?_
    obtain ⟨hi, h⟩ := h
    refine ial S hE hP 6 rfl hi dX10_says_163 ?_
    exact W.iret hx hb hr (fun t ht _ => ⟨⟨_, f_refused, rfl, h, hPt hP ht⟩, hS.F ht⟩) hS.2.2 dX10_says_164
  have h := h.2 hk1
  by_cases hk2 : x2 = 2
  · have h := h.1 hk2
    refine lv_tableIn (off := 50) (tgt := 165) hx hb dX10_says_115 (by rw [hk2]; decide) (by rw [hk2]; decide) (by rw [hk2]; rfl) (by decide) ?_
    refine lv_aload_n hx hb dX10_says_165 rfl (lv_at hl 0 rfl) ?_
    refine gf S hE hP 0 rfl rfl inX10 (k := 12) (by decide) q1105 rfl dX10_says_166 ?_
    refine lv_iload_n hx hb dX10_says_169 rfl (lv_at hl 2 rfl) ?_
    obtain ⟨hi, h⟩ := h
    refine ial S hE hP 6 rfl hi dX10_says_170 ?_
    refine lv_aload_n hx hb dX10_says_171 rfl (lv_at hl 0 rfl) ?_
    refine gf S hE hP 0 rfl rfl inX10 (k := 13) (by decide) q1106 rfl dX10_says_172 ?_
    refine lv_iload_n hx hb dX10_says_175 rfl (lv_at hl 2 rfl) ?_
    obtain ⟨hi, h⟩ := h
    refine ial S hE hP 3 rfl hi dX10_says_176 ?_
    refine lv_iadd hx hb dX10_says_177 ?_
    exact W.iret hx hb hr (fun t ht _ => ⟨⟨_, f_refused, rfl, h, hPt hP ht⟩, hS.F ht⟩) hS.2.2 dX10_says_178
  have h := h.2 hk2
  by_cases hk3 : x2 = 3
  · have h := h.1 hk3
    refine lv_tableIn (off := 64) (tgt := 179) hx hb dX10_says_115 (by rw [hk3]; decide) (by rw [hk3]; decide) (by rw [hk3]; rfl) (by decide) ?_
    refine lv_aload_n hx hb dX10_says_179 rfl (lv_at hl 0 rfl) ?_
    refine gf S hE hP 0 rfl rfl inX10 (k := 14) (by decide) q1107 rfl dX10_says_180 ?_
    refine lv_iload_n hx hb dX10_says_183 rfl (lv_at hl 2 rfl) ?_
    obtain ⟨hi, h⟩ := h
    refine ial S hE hP 7 rfl hi dX10_says_184 ?_
    exact W.iret hx hb hr (fun t ht _ => ⟨⟨_, f_refused, rfl, h, hPt hP ht⟩, hS.F ht⟩) hS.2.2 dX10_says_185
  have h := h.2 hk3
  by_cases hk4 : x2 = 4
  · have h := h.1 hk4
    refine lv_tableIn (off := 43) (tgt := 158) hx hb dX10_says_115 (by rw [hk4]; decide) (by rw [hk4]; decide) (by rw [hk4]; rfl) (by decide) ?_
    refine lv_aload_n hx hb dX10_says_158 rfl (lv_at hl 0 rfl) ?_
    refine gf S hE hP 0 rfl rfl inX10 (k := 12) (by decide) q1105 rfl dX10_says_159 ?_
    refine lv_iload_n hx hb dX10_says_162 rfl (lv_at hl 2 rfl) ?_
    obtain ⟨hi, h⟩ := h
    refine ial S hE hP 6 rfl hi dX10_says_163 ?_
    exact W.iret hx hb hr (fun t ht _ => ⟨⟨_, f_refused, rfl, h, hPt hP ht⟩, hS.F ht⟩) hS.2.2 dX10_says_164
  have h := h.2 hk4
  by_cases hk5 : x2 = 5
  · have h := h.1 hk5
    refine lv_tableIn (off := 50) (tgt := 165) hx hb dX10_says_115 (by rw [hk5]; decide) (by rw [hk5]; decide) (by rw [hk5]; rfl) (by decide) ?_
    refine lv_aload_n hx hb dX10_says_165 rfl (lv_at hl 0 rfl) ?_
    refine gf S hE hP 0 rfl rfl inX10 (k := 12) (by decide) q1105 rfl dX10_says_166 ?_
    refine lv_iload_n hx hb dX10_says_169 rfl (lv_at hl 2 rfl) ?_
    obtain ⟨hi, h⟩ := h
    refine ial S hE hP 6 rfl hi dX10_says_170 ?_
    refine lv_aload_n hx hb dX10_says_171 rfl (lv_at hl 0 rfl) ?_
    refine gf S hE hP 0 rfl rfl inX10 (k := 13) (by decide) q1106 rfl dX10_says_172 ?_
    refine lv_iload_n hx hb dX10_says_175 rfl (lv_at hl 2 rfl) ?_
    obtain ⟨hi, h⟩ := h
    refine ial S hE hP 3 rfl hi dX10_says_176 ?_
    refine lv_iadd hx hb dX10_says_177 ?_
    exact W.iret hx hb hr (fun t ht _ => ⟨⟨_, f_refused, rfl, h, hPt hP ht⟩, hS.F ht⟩) hS.2.2 dX10_says_178
  have h := h.2 hk5
  refine lv_tableOut (tgt := 186) hx hb dX10_says_115 (sw_out (fun k h1 h2 => by
    rcases (show k = 0 ∨ k = 1 ∨ k = 2 ∨ k = 3 ∨ k = 4 ∨ k = 5 by omega) with rfl | rfl | rfl | rfl | rfl | rfl
    · exact hk0
    · exact hk1
    · exact hk2
    · exact hk3
    · exact hk4
    · exact hk5)) (by decide) ?_
  refine lv_aload_n hx hb dX10_says_186 rfl (lv_at hl 0 rfl) ?_
  refine gf S hE hP 0 rfl rfl inX10 (k := 13) (by decide) q1106 rfl dX10_says_187 ?_
  refine lv_iload_n hx hb dX10_says_190 rfl (lv_at hl 2 rfl) ?_
  obtain ⟨hi, h⟩ := h
  refine ial S hE hP 3 rfl hi dX10_says_191 ?_
  exact W.iret hx hb hr (fun t ht _ => ⟨⟨_, f_refused, rfl, h, hPt hP ht⟩, hS.F ht⟩) hS.2.2 dX10_says_192
set_option maxHeartbeats 4000000 in
set_option maxRecDepth 100000 in
theorem w_X10_says_96 {l : Launch} {D : va_G} {cI cJ cS : ClassId} {ad adK : Nat → Nat} {a_o a_held a_kind a_other a_refused a_shown a_space a_times : Nat} {z_steps z_speed z_base z_share z_notes z_pitch z_beats z_sort z_size z_cells z_carried z_words z_tell z_was z_kept z_cutSpace z_cutTimes z_cutOff z_trace : Value} {v_stretches : Int32} {v_cars : Int32} {v_tunes : Int32} {v_along : Int32} {v_near : Int32} {v_borne : Int32} {v_tempo : Int32} {v_seed : Int32} {v_fault : Int32} {v_from : Int32} {v_at : Int32} {v_end : Int32} {v_told : Int32} {v_wrongAt : Int32} {v_culprit : Int32} {v_ran : Int32} {v_isKept : Int32} {f_held : Nat → Int32} {f_kind : Nat → Int32} {f_other : Nat → Int32} {f_refused : Nat → Int32} {f_shown : Nat → Int32} {f_space : Nat → Int32} {f_times : Nat → Int32} {x2 : Int32} {x3 : Int32} {x4 : Int32} {post : Int32 → (Nat → Int32) → Prop} {p : Program} {e : Env} {s : State} {m : MethodId} {args : Array Value} {below : List Frame} {meth : Method} {c : Code} {A : Nat → Prop} (S : CallFix p m c cX10_says 5 s args GW "RoadThatSingsModel") (hE : EN D cI cJ cS s) (hT : ST ad adK A s s.heap) (hA : ∀ q : Nat, s.heap.size ≤ q → A q) (hr : meth.sig.returnType = (some (.int))) (hlocks : meth.locks = false) : ∀ (H : Heap) (locs : List Loc) (ls : Array Slot), F_X10_says_96 f_kind f_other f_space f_times post x2 x3 x4 f_refused → va_P D vwCl (wX10_says cI cJ cS a_o a_held a_kind a_other a_refused a_shown a_space a_times z_steps z_speed z_base z_share z_notes z_pitch z_beats z_sort z_size z_cells z_carried z_words z_tell z_was z_kept z_cutSpace z_cutTimes z_cutOff z_trace v_stretches v_cars v_tunes v_along v_near v_borne v_tempo v_seed v_fault v_from v_at v_end v_told v_wrongAt v_culprit v_ran v_isKept f_held f_kind f_other f_refused f_shown f_space f_times) H → va_D A (wX10_says cI cJ cS a_o a_held a_kind a_other a_refused a_shown a_space a_times z_steps z_speed z_base z_share z_notes z_pitch z_beats z_sort z_size z_cells z_carried z_words z_tell z_was z_kept z_cutSpace z_cutTimes z_cutOff z_trace v_stretches v_cars v_tunes v_along v_near v_borne v_tempo v_seed v_fault v_from v_at v_end v_told v_wrongAt v_culprit v_ran v_isKept f_held f_kind f_other f_refused f_shown f_space f_times) → va_S A s.heap H locs → lv_has ls 5 [(0, .ref a_o), (2, .int x2), (3, .int x3), (4, .int x4)] → W p l e (rmd 2 0 0) s m args below meth c H locs 0 0 (MQ below (va_Qi (fun r (u : (Nat → Int32)) => post r u) (fun u t => va_P D vwCl (wX10_says cI cJ cS a_o a_held a_kind a_other a_refused a_shown a_space a_times z_steps z_speed z_base z_share z_notes z_pitch z_beats z_sort z_size z_cells z_carried z_words z_tell z_was z_kept z_cutSpace z_cutTimes z_cutOff z_trace v_stretches v_cars v_tunes v_along v_near v_borne v_tempo v_seed v_fault v_from v_at v_end v_told v_wrongAt v_culprit v_ran v_isKept f_held f_kind f_other u f_shown f_space f_times) t.heap) A) args s 0 0 A) (F0 m 96 ls []) := by
  intro  H locs ls h hP hD hS hl
  unfold F_X10_says_96 at h
  have hx := S.1
  have hb := S.2.1
  refine lv_iload_n hx hb dX10_says_96 rfl (lv_at hl 1 rfl) ?_
  refine lv_iconst (v := 2) hx hb dX10_says_97 (by decide) ?_
  refine lv_icmp_ne (tgt := 107) hx hb dX10_says_98 (by decide) (fun hc => ?_) (fun hc => ?_)
  · have h := h.2 hc
    refine lv_aload_n hx hb dX10_says_107 rfl (lv_at hl 0 rfl) ?_
    refine lv_bipush (v := (-2)) hx hb dX10_says_108 (by decide) ?_
    refine rw_i (rwV S hE hT hS hP hD hA (c_X10_no h) [0, 4] rfl (by decide) lkX10_121 rfl ⟨(Nat.le_of_ble_eq_true rfl), (Nat.le_of_ble_eq_true rfl)⟩ 0 rfl rfl hl.1 rfl (Nat.le_of_ble_eq_true rfl) dX10_says_110 ⟨(Nat.zero_le _), (Nat.zero_le _)⟩) hP hD hS hA [0, 4] rfl (by decide) (fun _ => rfl) (fun r110 w110_0 H locs h hP hD hS => ?_)
    try dsimp only at h
    have hP : va_P D vwCl (wX10_says cI cJ cS a_o a_held a_kind a_other a_refused a_shown a_space a_times z_steps z_speed z_base z_share z_notes z_pitch z_beats z_sort z_size z_cells z_carried z_words z_tell z_was z_kept z_cutSpace z_cutTimes z_cutOff z_trace v_stretches v_cars v_tunes v_along v_near v_borne v_tempo v_seed v_fault v_from v_at v_end v_told v_wrongAt v_culprit v_ran v_isKept f_held f_kind f_other w110_0 f_shown f_space f_times) H := hP
    have hD : va_D A (wX10_says cI cJ cS a_o a_held a_kind a_other a_refused a_shown a_space a_times z_steps z_speed z_base z_share z_notes z_pitch z_beats z_sort z_size z_cells z_carried z_words z_tell z_was z_kept z_cutSpace z_cutTimes z_cutOff z_trace v_stretches v_cars v_tunes v_along v_near v_borne v_tempo v_seed v_fault v_from v_at v_end v_told v_wrongAt v_culprit v_ran v_isKept f_held f_kind f_other w110_0 f_shown f_space f_times) := hD
    exact W.iret hx hb hr (fun t ht _ => ⟨⟨_, w110_0, rfl, h, hPt hP ht⟩, hS.F ht⟩) hS.2.2 dX10_says_113
  have h := h.1 hc
  refine lv_iload hx hb dX10_says_101 (lv_at hl 3 rfl) ?_
  refine lv_iconst (v := 5) hx hb dX10_says_103 (by decide) ?_
  refine lv_icmp_eq (tgt := 114) hx hb dX10_says_104 (by decide) (fun hc => ?_) (fun hc => ?_)
  · have h := h.1 hc
    refine w_X10_says_114 S hE hT hA hr hlocks _ _ _ h hP hD hS (lv_sub hl [0, 1, 2] rfl)
  have h := h.2 hc
  refine lv_aload_n hx hb dX10_says_107 rfl (lv_at hl 0 rfl) ?_
  refine lv_bipush (v := (-2)) hx hb dX10_says_108 (by decide) ?_
  refine rw_i (rwV S hE hT hS hP hD hA (c_X10_no h) [0, 4] rfl (by decide) lkX10_121 rfl ⟨(Nat.le_of_ble_eq_true rfl), (Nat.le_of_ble_eq_true rfl)⟩ 0 rfl rfl hl.1 rfl (Nat.le_of_ble_eq_true rfl) dX10_says_110 ⟨(Nat.zero_le _), (Nat.zero_le _)⟩) hP hD hS hA [0, 4] rfl (by decide) (fun _ => rfl) (fun r110 w110_0 H locs h hP hD hS => ?_)
  try dsimp only at h
  have hP : va_P D vwCl (wX10_says cI cJ cS a_o a_held a_kind a_other a_refused a_shown a_space a_times z_steps z_speed z_base z_share z_notes z_pitch z_beats z_sort z_size z_cells z_carried z_words z_tell z_was z_kept z_cutSpace z_cutTimes z_cutOff z_trace v_stretches v_cars v_tunes v_along v_near v_borne v_tempo v_seed v_fault v_from v_at v_end v_told v_wrongAt v_culprit v_ran v_isKept f_held f_kind f_other w110_0 f_shown f_space f_times) H := hP
  have hD : va_D A (wX10_says cI cJ cS a_o a_held a_kind a_other a_refused a_shown a_space a_times z_steps z_speed z_base z_share z_notes z_pitch z_beats z_sort z_size z_cells z_carried z_words z_tell z_was z_kept z_cutSpace z_cutTimes z_cutOff z_trace v_stretches v_cars v_tunes v_along v_near v_borne v_tempo v_seed v_fault v_from v_at v_end v_told v_wrongAt v_culprit v_ran v_isKept f_held f_kind f_other w110_0 f_shown f_space f_times) := hD
  exact W.iret hx hb hr (fun t ht _ => ⟨⟨_, w110_0, rfl, h, hPt hP ht⟩, hS.F ht⟩) hS.2.2 dX10_says_113
set_option maxHeartbeats 4000000 in
set_option maxRecDepth 100000 in
theorem c_X10_says {l : Launch} {D : va_G} {cI cJ cS : ClassId} {ad adK : Nat → Nat} {a_o a_held a_kind a_other a_refused a_shown a_space a_times : Nat} {z_steps z_speed z_base z_share z_notes z_pitch z_beats z_sort z_size z_cells z_carried z_words z_tell z_was z_kept z_cutSpace z_cutTimes z_cutOff z_trace : Value} {v_stretches : Int32} {v_cars : Int32} {v_tunes : Int32} {v_along : Int32} {v_near : Int32} {v_borne : Int32} {v_tempo : Int32} {v_seed : Int32} {v_fault : Int32} {v_from : Int32} {v_at : Int32} {v_end : Int32} {v_told : Int32} {v_wrongAt : Int32} {v_culprit : Int32} {v_ran : Int32} {v_isKept : Int32} {f_held : Nat → Int32} {f_kind : Nat → Int32} {f_other : Nat → Int32} {f_refused : Nat → Int32} {f_shown : Nat → Int32} {f_space : Nat → Int32} {f_times : Nat → Int32} {x1 : Int32} {x2 : Int32} {post : Int32 → (Nat → Int32) → Prop} (h : F_X10_says f_held f_kind f_other f_refused f_shown f_space f_times x1 x2 post) {sz : Nat} : Met l yX10_says (Cond.code yX10_says cX10_says 5 (some (.int)) :: GW) (rmd 2 0 0) (PW D cI cJ cS ad adK [.ref a_o, .int x1, .int x2] (wX10_says cI cJ cS a_o a_held a_kind a_other a_refused a_shown a_space a_times z_steps z_speed z_base z_share z_notes z_pitch z_beats z_sort z_size z_cells z_carried z_words z_tell z_was z_kept z_cutSpace z_cutTimes z_cutOff z_trace v_stretches v_cars v_tunes v_along v_near v_borne v_tempo v_seed v_fault v_from v_at v_end v_told v_wrongAt v_culprit v_ran v_isKept f_held f_kind f_other f_refused f_shown f_space f_times) sz) (va_Qi (fun r (u : (Nat → Int32)) => post r u) (fun u t => va_P D vwCl (wX10_says cI cJ cS a_o a_held a_kind a_other a_refused a_shown a_space a_times z_steps z_speed z_base z_share z_notes z_pitch z_beats z_sort z_size z_cells z_carried z_words z_tell z_was z_kept z_cutSpace z_cutTimes z_cutOff z_trace v_stretches v_cars v_tunes v_along v_near v_borne v_tempo v_seed v_fault v_from v_at v_end v_told v_wrongAt v_culprit v_ran v_isKept f_held f_kind f_other u f_shown f_space f_times) t.heap) (va_A (wX10_says cI cJ cS a_o a_held a_kind a_other a_refused a_shown a_space a_times z_steps z_speed z_base z_share z_notes z_pitch z_beats z_sort z_size z_cells z_carried z_words z_tell z_was z_kept z_cutSpace z_cutTimes z_cutOff z_trace v_stretches v_cars v_tunes v_along v_near v_borne v_tempo v_seed v_fault v_from v_at v_end v_told v_wrongAt v_culprit v_ran v_isKept f_held f_kind f_other f_refused f_shown f_space f_times) sz)) 0 0 (va_A (wX10_says cI cJ cS a_o a_held a_kind a_other a_refused a_shown a_space a_times z_steps z_speed z_base z_share z_notes z_pitch z_beats z_sort z_size z_cells z_carried z_words z_tell z_was z_kept z_cutSpace z_cutTimes z_cutOff z_trace v_stretches v_cars v_tunes v_along v_near v_borne v_tempo v_seed v_fault v_from v_at v_end v_told v_wrongAt v_culprit v_ran v_isKept f_held f_kind f_other f_refused f_shown f_space f_times) sz) := by
  refine Met.rw (Qc := fun A => (va_Qi (fun r (u : (Nat → Int32)) => post r u) (fun u t => va_P D vwCl (wX10_says cI cJ cS a_o a_held a_kind a_other a_refused a_shown a_space a_times z_steps z_speed z_base z_share z_notes z_pitch z_beats z_sort z_size z_cells z_carried z_words z_tell z_was z_kept z_cutSpace z_cutTimes z_cutOff z_trace v_stretches v_cars v_tunes v_along v_near v_borne v_tempo v_seed v_fault v_from v_at v_end v_told v_wrongAt v_culprit v_ran v_isKept f_held f_kind f_other u f_shown f_space f_times) t.heap) A)) (by decide) (Nat.le_of_ble_eq_true rfl) (fun p e s m args below meth c ls A (S : CallFix p m c cX10_says 5 s args GW "RoadThatSingsModel") hE hT hP hD hA hS hr hlocks hname hl => ?_)
  have hS0 := hS
  have hx := S.1
  have hb := S.2.1
  have hl : lv_has ls 5 [(0, .ref a_o), (1, .int x1), (2, .int x2)] := hl
  unfold F_X10_says at h
  refine lv_aload_n hx hb dX10_says_0 rfl (lv_at hl 0 rfl) ?_
  refine lv_iload_n hx hb dX10_says_1 rfl (lv_at hl 1 rfl) ?_
  refine ro_i (roV S hE hT hS (c_X10_isShelf h) lkX10_117 rfl ⟨(Nat.le_of_ble_eq_true rfl), (Nat.le_of_ble_eq_true rfl)⟩ (hP.sub [0] rfl) 0 rfl rfl hl.1 rfl (Nat.le_of_ble_eq_true rfl) dX10_says_2 ⟨(Nat.zero_le _), (Nat.zero_le _)⟩) (fun r2 h => ?_)
  refine lv_if_eq (tgt := 18) hx hb dX10_says_5 (by decide) (fun hc => ?_) (fun hc => ?_)
  · have h := h.1 hc
    refine lv_aload_n hx hb dX10_says_18 rfl (lv_at hl 0 rfl) ?_
    refine lv_iconst (v := (-1)) hx hb dX10_says_19 (by decide) ?_
    refine rw_i (rwV S hE hT hS hP hD hA (c_X10_no h) [0, 4] rfl (by decide) lkX10_121 rfl ⟨(Nat.le_of_ble_eq_true rfl), (Nat.le_of_ble_eq_true rfl)⟩ 0 rfl rfl hl.1 rfl (Nat.le_of_ble_eq_true rfl) dX10_says_20 ⟨(Nat.zero_le _), (Nat.zero_le _)⟩) hP hD hS hA [0, 4] rfl (by decide) (fun _ => rfl) (fun r20 w20_0 H locs h hP hD hS => ?_)
    try dsimp only at h
    have hP : va_P D vwCl (wX10_says cI cJ cS a_o a_held a_kind a_other a_refused a_shown a_space a_times z_steps z_speed z_base z_share z_notes z_pitch z_beats z_sort z_size z_cells z_carried z_words z_tell z_was z_kept z_cutSpace z_cutTimes z_cutOff z_trace v_stretches v_cars v_tunes v_along v_near v_borne v_tempo v_seed v_fault v_from v_at v_end v_told v_wrongAt v_culprit v_ran v_isKept f_held f_kind f_other w20_0 f_shown f_space f_times) H := hP
    have hD : va_D A (wX10_says cI cJ cS a_o a_held a_kind a_other a_refused a_shown a_space a_times z_steps z_speed z_base z_share z_notes z_pitch z_beats z_sort z_size z_cells z_carried z_words z_tell z_was z_kept z_cutSpace z_cutTimes z_cutOff z_trace v_stretches v_cars v_tunes v_along v_near v_borne v_tempo v_seed v_fault v_from v_at v_end v_told v_wrongAt v_culprit v_ran v_isKept f_held f_kind f_other w20_0 f_shown f_space f_times) := hD
    exact W.iret hx hb hr (fun t ht _ => ⟨⟨_, w20_0, rfl, h, hPt hP ht⟩, hS.F ht⟩) hS.2.2 dX10_says_23
  have h := h.2 hc
  refine lv_iload_n hx hb dX10_says_8 rfl (lv_at hl 2 rfl) ?_
  refine lv_if_lt (tgt := 18) hx hb dX10_says_9 (by decide) (fun hc => ?_) (fun hc => ?_)
  · have h := h.1 hc
    refine lv_aload_n hx hb dX10_says_18 rfl (lv_at hl 0 rfl) ?_
    refine lv_iconst (v := (-1)) hx hb dX10_says_19 (by decide) ?_
    refine rw_i (rwV S hE hT hS hP hD hA (c_X10_no h) [0, 4] rfl (by decide) lkX10_121 rfl ⟨(Nat.le_of_ble_eq_true rfl), (Nat.le_of_ble_eq_true rfl)⟩ 0 rfl rfl hl.1 rfl (Nat.le_of_ble_eq_true rfl) dX10_says_20 ⟨(Nat.zero_le _), (Nat.zero_le _)⟩) hP hD hS hA [0, 4] rfl (by decide) (fun _ => rfl) (fun r20 w20_0 H locs h hP hD hS => ?_)
    try dsimp only at h
    have hP : va_P D vwCl (wX10_says cI cJ cS a_o a_held a_kind a_other a_refused a_shown a_space a_times z_steps z_speed z_base z_share z_notes z_pitch z_beats z_sort z_size z_cells z_carried z_words z_tell z_was z_kept z_cutSpace z_cutTimes z_cutOff z_trace v_stretches v_cars v_tunes v_along v_near v_borne v_tempo v_seed v_fault v_from v_at v_end v_told v_wrongAt v_culprit v_ran v_isKept f_held f_kind f_other w20_0 f_shown f_space f_times) H := hP
    have hD : va_D A (wX10_says cI cJ cS a_o a_held a_kind a_other a_refused a_shown a_space a_times z_steps z_speed z_base z_share z_notes z_pitch z_beats z_sort z_size z_cells z_carried z_words z_tell z_was z_kept z_cutSpace z_cutTimes z_cutOff z_trace v_stretches v_cars v_tunes v_along v_near v_borne v_tempo v_seed v_fault v_from v_at v_end v_told v_wrongAt v_culprit v_ran v_isKept f_held f_kind f_other w20_0 f_shown f_space f_times) := hD
    exact W.iret hx hb hr (fun t ht _ => ⟨⟨_, w20_0, rfl, h, hPt hP ht⟩, hS.F ht⟩) hS.2.2 dX10_says_23
  have h := h.2 hc
  refine lv_iload_n hx hb dX10_says_12 rfl (lv_at hl 2 rfl) ?_
  refine lv_bipush (v := 6) hx hb dX10_says_13 (by decide) ?_
  refine lv_icmp_le (tgt := 24) hx hb dX10_says_15 (by decide) (fun hc => ?_) (fun hc => ?_)
  · have h := h.1 hc
    refine lv_aload_n hx hb dX10_says_24 rfl (lv_at hl 0 rfl) ?_
    refine gf S hE hP 0 rfl rfl inX10 (k := 21) (by decide) q1114 rfl dX10_says_25 ?_
    refine lv_iload_n hx hb dX10_says_28 rfl (lv_at hl 1 rfl) ?_
    obtain ⟨hi, h⟩ := h
    refine ial S hE hP 1 rfl hi dX10_says_29 ?_
    refine lv_iconst (v := 1) hx hb dX10_says_30 (by decide) ?_
    refine lv_icmp_ne (tgt := 41) hx hb dX10_says_31 (by decide) (fun hc => ?_) (fun hc => ?_)
    · have h := h.2 hc
      refine lv_aload_n hx hb dX10_says_41 rfl (lv_at hl 0 rfl) ?_
      refine gf S hE hP 0 rfl rfl inX10 (k := 21) (by decide) q1114 rfl dX10_says_42 ?_
      refine lv_iload_n hx hb dX10_says_45 rfl (lv_at hl 1 rfl) ?_
      obtain ⟨hi, h⟩ := h
      refine ial S hE hP 1 rfl hi dX10_says_46 ?_
      refine lv_if_ne (tgt := 57) hx hb dX10_says_47 (by decide) (fun hc => ?_) (fun hc => ?_)
      · have h := h.2 hc
        refine lv_aload_n hx hb dX10_says_57 rfl (lv_at hl 0 rfl) ?_
        refine gf S hE hP 0 rfl rfl inX10 (k := 24) (by decide) q1117 rfl dX10_says_58 ?_
        refine lv_iload_n hx hb dX10_says_61 rfl (lv_at hl 1 rfl) ?_
        obtain ⟨hi, h⟩ := h
        refine ial S hE hP 5 rfl hi dX10_says_62 ?_
        refine lv_topi (fun x3_63 ex3_63 => ?_)
        have h := h _ ex3_63
        refine lv_istore_n (lv' := [(3, .int x3_63), (0, .ref a_o), (1, .int x1), (2, .int x2)]) hx hb dX10_says_63 rfl hl (by decide) rfl (fun ls hl => ?_)
        refine lv_aload_n hx hb dX10_says_64 rfl (lv_at hl 1 rfl) ?_
        refine gf S hE hP 0 rfl rfl inX10 (k := 11) (by decide) q1104 rfl dX10_says_65 ?_
        refine lv_iload_n hx hb dX10_says_68 rfl (lv_at hl 0 rfl) ?_
        obtain ⟨hi, h⟩ := h
        refine ial S hE hP 2 rfl hi dX10_says_69 ?_
        refine lv_topi (fun x4_70 ex4_70 => ?_)
        have h := h _ ex4_70
        refine lv_istore (lv' := [(4, .int x4_70), (3, .int x3_63), (0, .ref a_o), (1, .int x1), (2, .int x2)]) hx hb dX10_says_70 hl (by decide) rfl (fun ls hl => ?_)
        refine lv_iload_n hx hb dX10_says_72 rfl (lv_at hl 4 rfl) ?_
        refine lv_if_eq (tgt := 114) hx hb dX10_says_73 (by decide) (fun hc => ?_) (fun hc => ?_)
        · have h := h.1 hc
          refine w_X10_says_114 S hE hT hA hr hlocks _ _ _ h hP hD hS (lv_sub hl [2, 4, 1] rfl)
        have h := h.2 hc
        refine lv_iload_n hx hb dX10_says_76 rfl (lv_at hl 4 rfl) ?_
        refine lv_iload hx hb dX10_says_77 (lv_at hl 0 rfl) ?_
        refine lv_icmp_eq (tgt := 114) hx hb dX10_says_79 (by decide) (fun hc => ?_) (fun hc => ?_)
        · have h := h.1 hc
          refine w_X10_says_114 S hE hT hA hr hlocks _ _ _ h hP hD hS (lv_sub hl [2, 4, 1] rfl)
        have h := h.2 hc
        refine lv_iload_n hx hb dX10_says_82 rfl (lv_at hl 4 rfl) ?_
        refine lv_iconst (v := 1) hx hb dX10_says_83 (by decide) ?_
        refine lv_icmp_ne (tgt := 96) hx hb dX10_says_84 (by decide) (fun hc => ?_) (fun hc => ?_)
        · have h := h.2 hc
          refine w_X10_says_96 S hE hT hA hr hlocks _ _ _ h hP hD hS (lv_sub hl [2, 4, 1, 0] rfl)
        have h := h.1 hc
        refine lv_aload_n hx hb dX10_says_87 rfl (lv_at hl 2 rfl) ?_
        refine lv_iload hx hb dX10_says_88 (lv_at hl 0 rfl) ?_
        refine ro_i (roV S hE hT hS (c_X10_isEven h) lkX10_128 rfl ⟨(Nat.le_of_ble_eq_true rfl), (Nat.le_of_ble_eq_true rfl)⟩ (hP.sub [0] rfl) 0 rfl rfl hl.1 rfl (Nat.le_of_ble_eq_true rfl) dX10_says_90 ⟨(Nat.zero_le _), (Nat.zero_le _)⟩) (fun r90 h => ?_)
        refine lv_if_ne (tgt := 114) hx hb dX10_says_93 (by decide) (fun hc => ?_) (fun hc => ?_)
        · have h := h.2 hc
          refine w_X10_says_114 S hE hT hA hr hlocks _ _ _ h hP hD hS (lv_sub hl [2, 4, 1] rfl)
        have h := h.1 hc
        refine w_X10_says_96 S hE hT hA hr hlocks _ _ _ h hP hD hS (lv_sub hl [2, 4, 1, 0] rfl)
      have h := h.1 hc
      refine lv_aload_n hx hb dX10_says_50 rfl (lv_at hl 0 rfl) ?_
      refine lv_bipush (v := (-3)) hx hb dX10_says_51 (by decide) ?_
      refine rw_i (rwV S hE hT hS hP hD hA (c_X10_no h) [0, 4] rfl (by decide) lkX10_121 rfl ⟨(Nat.le_of_ble_eq_true rfl), (Nat.le_of_ble_eq_true rfl)⟩ 0 rfl rfl hl.1 rfl (Nat.le_of_ble_eq_true rfl) dX10_says_53 ⟨(Nat.zero_le _), (Nat.zero_le _)⟩) hP hD hS hA [0, 4] rfl (by decide) (fun _ => rfl) (fun r53 w53_0 H locs h hP hD hS => ?_)
      try dsimp only at h
      have hP : va_P D vwCl (wX10_says cI cJ cS a_o a_held a_kind a_other a_refused a_shown a_space a_times z_steps z_speed z_base z_share z_notes z_pitch z_beats z_sort z_size z_cells z_carried z_words z_tell z_was z_kept z_cutSpace z_cutTimes z_cutOff z_trace v_stretches v_cars v_tunes v_along v_near v_borne v_tempo v_seed v_fault v_from v_at v_end v_told v_wrongAt v_culprit v_ran v_isKept f_held f_kind f_other w53_0 f_shown f_space f_times) H := hP
      have hD : va_D A (wX10_says cI cJ cS a_o a_held a_kind a_other a_refused a_shown a_space a_times z_steps z_speed z_base z_share z_notes z_pitch z_beats z_sort z_size z_cells z_carried z_words z_tell z_was z_kept z_cutSpace z_cutTimes z_cutOff z_trace v_stretches v_cars v_tunes v_along v_near v_borne v_tempo v_seed v_fault v_from v_at v_end v_told v_wrongAt v_culprit v_ran v_isKept f_held f_kind f_other w53_0 f_shown f_space f_times) := hD
      exact W.iret hx hb hr (fun t ht _ => ⟨⟨_, w53_0, rfl, h, hPt hP ht⟩, hS.F ht⟩) hS.2.2 dX10_says_56
    have h := h.1 hc
    refine lv_aload_n hx hb dX10_says_34 rfl (lv_at hl 0 rfl) ?_
    refine lv_bipush (v := (-2)) hx hb dX10_says_35 (by decide) ?_
    refine rw_i (rwV S hE hT hS hP hD hA (c_X10_no h) [0, 4] rfl (by decide) lkX10_121 rfl ⟨(Nat.le_of_ble_eq_true rfl), (Nat.le_of_ble_eq_true rfl)⟩ 0 rfl rfl hl.1 rfl (Nat.le_of_ble_eq_true rfl) dX10_says_37 ⟨(Nat.zero_le _), (Nat.zero_le _)⟩) hP hD hS hA [0, 4] rfl (by decide) (fun _ => rfl) (fun r37 w37_0 H locs h hP hD hS => ?_)
    try dsimp only at h
    have hP : va_P D vwCl (wX10_says cI cJ cS a_o a_held a_kind a_other a_refused a_shown a_space a_times z_steps z_speed z_base z_share z_notes z_pitch z_beats z_sort z_size z_cells z_carried z_words z_tell z_was z_kept z_cutSpace z_cutTimes z_cutOff z_trace v_stretches v_cars v_tunes v_along v_near v_borne v_tempo v_seed v_fault v_from v_at v_end v_told v_wrongAt v_culprit v_ran v_isKept f_held f_kind f_other w37_0 f_shown f_space f_times) H := hP
    have hD : va_D A (wX10_says cI cJ cS a_o a_held a_kind a_other a_refused a_shown a_space a_times z_steps z_speed z_base z_share z_notes z_pitch z_beats z_sort z_size z_cells z_carried z_words z_tell z_was z_kept z_cutSpace z_cutTimes z_cutOff z_trace v_stretches v_cars v_tunes v_along v_near v_borne v_tempo v_seed v_fault v_from v_at v_end v_told v_wrongAt v_culprit v_ran v_isKept f_held f_kind f_other w37_0 f_shown f_space f_times) := hD
    exact W.iret hx hb hr (fun t ht _ => ⟨⟨_, w37_0, rfl, h, hPt hP ht⟩, hS.F ht⟩) hS.2.2 dX10_says_40
  have h := h.2 hc
  refine lv_aload_n hx hb dX10_says_18 rfl (lv_at hl 0 rfl) ?_
  refine lv_iconst (v := (-1)) hx hb dX10_says_19 (by decide) ?_
  refine rw_i (rwV S hE hT hS hP hD hA (c_X10_no h) [0, 4] rfl (by decide) lkX10_121 rfl ⟨(Nat.le_of_ble_eq_true rfl), (Nat.le_of_ble_eq_true rfl)⟩ 0 rfl rfl hl.1 rfl (Nat.le_of_ble_eq_true rfl) dX10_says_20 ⟨(Nat.zero_le _), (Nat.zero_le _)⟩) hP hD hS hA [0, 4] rfl (by decide) (fun _ => rfl) (fun r20 w20_0 H locs h hP hD hS => ?_)
  try dsimp only at h
  have hP : va_P D vwCl (wX10_says cI cJ cS a_o a_held a_kind a_other a_refused a_shown a_space a_times z_steps z_speed z_base z_share z_notes z_pitch z_beats z_sort z_size z_cells z_carried z_words z_tell z_was z_kept z_cutSpace z_cutTimes z_cutOff z_trace v_stretches v_cars v_tunes v_along v_near v_borne v_tempo v_seed v_fault v_from v_at v_end v_told v_wrongAt v_culprit v_ran v_isKept f_held f_kind f_other w20_0 f_shown f_space f_times) H := hP
  have hD : va_D A (wX10_says cI cJ cS a_o a_held a_kind a_other a_refused a_shown a_space a_times z_steps z_speed z_base z_share z_notes z_pitch z_beats z_sort z_size z_cells z_carried z_words z_tell z_was z_kept z_cutSpace z_cutTimes z_cutOff z_trace v_stretches v_cars v_tunes v_along v_near v_borne v_tempo v_seed v_fault v_from v_at v_end v_told v_wrongAt v_culprit v_ran v_isKept f_held f_kind f_other w20_0 f_shown f_space f_times) := hD
  exact W.iret hx hb hr (fun t ht _ => ⟨⟨_, w20_0, rfl, h, hPt hP ht⟩, hS.F ht⟩) hS.2.2 dX10_says_23
/-! X10_wants -/
abbrev wX10_wants (cI cJ cS : ClassId) (a_o a_held : Nat) (z_refused z_steps z_kind z_space z_other z_times z_speed z_base z_share z_notes z_pitch z_beats z_sort z_size z_shown z_cells z_carried z_words z_tell z_was z_kept z_cutSpace z_cutTimes z_cutOff z_trace : Value) (v_stretches : Int32) (v_cars : Int32) (v_tunes : Int32) (v_along : Int32) (v_near : Int32) (v_borne : Int32) (v_tempo : Int32) (v_seed : Int32) (v_fault : Int32) (v_from : Int32) (v_at : Int32) (v_end : Int32) (v_told : Int32) (v_wrongAt : Int32) (v_culprit : Int32) (v_ran : Int32) (v_isKept : Int32) (f_held : Nat → Int32) : va_W := [(a_o, .inr (9, [.int v_stretches, .int v_cars, .int v_tunes, .int v_along, .int v_near, .int v_borne, .int v_tempo, .int v_seed, .int v_fault, z_refused, z_steps, z_kind, z_space, z_other, z_times, z_speed, z_base, z_share, z_notes, z_pitch, z_beats, .ref a_held, z_sort, z_size, z_shown, z_cells, z_carried, z_words, z_tell, .int v_from, .int v_at, .int v_end, .int v_told, .int v_wrongAt, z_was, z_kept, .int v_culprit, z_cutSpace, z_cutTimes, z_cutOff, z_trace, .int v_ran, .int v_isKept])), (a_held, .inl (cI, 8, .inl f_held))]
def F_X10_wants (f_held : Nat → Int32) (x1 : Int32) (post : Int32 → Prop) : Prop := (F_X10_isShelf x1 (fun r2 => ((r2 = 0 → post (-1)) ∧ (¬ r2 = 0 → (vp_in x1 8 ∧ (((f_held x1.toNatClampNeg) = 2 → post (-2)) ∧ (¬ (f_held x1.toNatClampNeg) = 2 → (vp_in x1 8 ∧ (((f_held x1.toNatClampNeg) = 0 → post (-3)) ∧ (¬ (f_held x1.toNatClampNeg) = 0 → post 0))))))))))
set_option maxHeartbeats 4000000 in
set_option maxRecDepth 100000 in
theorem c_X10_wants {l : Launch} {D : va_G} {cI cJ cS : ClassId} {ad adK : Nat → Nat} {a_o a_held : Nat} {z_refused z_steps z_kind z_space z_other z_times z_speed z_base z_share z_notes z_pitch z_beats z_sort z_size z_shown z_cells z_carried z_words z_tell z_was z_kept z_cutSpace z_cutTimes z_cutOff z_trace : Value} {v_stretches : Int32} {v_cars : Int32} {v_tunes : Int32} {v_along : Int32} {v_near : Int32} {v_borne : Int32} {v_tempo : Int32} {v_seed : Int32} {v_fault : Int32} {v_from : Int32} {v_at : Int32} {v_end : Int32} {v_told : Int32} {v_wrongAt : Int32} {v_culprit : Int32} {v_ran : Int32} {v_isKept : Int32} {f_held : Nat → Int32} {x1 : Int32} {post : Int32 → Prop} (h : F_X10_wants f_held x1 post) : Met l yX10_wants (Cond.code yX10_wants cX10_wants 2 (some (.int)) :: GW) (rmd 1 0 0) (PR D cI cJ cS ad adK [.ref a_o, .int x1] (wX10_wants cI cJ cS a_o a_held z_refused z_steps z_kind z_space z_other z_times z_speed z_base z_share z_notes z_pitch z_beats z_sort z_size z_shown z_cells z_carried z_words z_tell z_was z_kept z_cutSpace z_cutTimes z_cutOff z_trace v_stretches v_cars v_tunes v_along v_near v_borne v_tempo v_seed v_fault v_from v_at v_end v_told v_wrongAt v_culprit v_ran v_isKept f_held)) (vp_Si post) 0 0 nof := by
  refine Met.ro (by decide) (Nat.le_of_ble_eq_true rfl) (fun p e s m args below meth c ls (S : CallFix p m c cX10_wants 2 s args GW "RoadThatSingsModel") hE hT hP hS hr hlocks hl => ?_)
  have hx := S.1
  have hb := S.2.1
  have hl : lv_has ls 2 [(0, .ref a_o), (1, .int x1)] := hl
  unfold F_X10_wants at h
  refine lv_aload_n hx hb dX10_wants_0 rfl (lv_at hl 0 rfl) ?_
  refine lv_iload_n hx hb dX10_wants_1 rfl (lv_at hl 1 rfl) ?_
  refine ro_i (roV S hE hT hS (c_X10_isShelf h) lkX10_117 rfl ⟨(Nat.le_of_ble_eq_true rfl), (Nat.le_of_ble_eq_true rfl)⟩ (hP.sub [0] rfl) 0 rfl rfl hl.1 rfl (Nat.le_of_ble_eq_true rfl) dX10_wants_2 ⟨(Nat.zero_le _), (Nat.zero_le _)⟩) (fun r2 h => ?_)
  refine lv_if_ne (tgt := 12) hx hb dX10_wants_5 (by decide) (fun hc => ?_) (fun hc => ?_)
  · have h := h.2 hc
    refine lv_aload_n hx hb dX10_wants_12 rfl (lv_at hl 0 rfl) ?_
    refine gf S hE hP 0 rfl rfl inX10 (k := 21) (by decide) q1114 rfl dX10_wants_13 ?_
    refine lv_iload_n hx hb dX10_wants_16 rfl (lv_at hl 1 rfl) ?_
    obtain ⟨hi, h⟩ := h
    refine ial S hE hP 1 rfl hi dX10_wants_17 ?_
    refine lv_iconst (v := 2) hx hb dX10_wants_18 (by decide) ?_
    refine lv_icmp_ne (tgt := 27) hx hb dX10_wants_19 (by decide) (fun hc => ?_) (fun hc => ?_)
    · have h := h.2 hc
      refine lv_aload_n hx hb dX10_wants_27 rfl (lv_at hl 0 rfl) ?_
      refine gf S hE hP 0 rfl rfl inX10 (k := 21) (by decide) q1114 rfl dX10_wants_28 ?_
      refine lv_iload_n hx hb dX10_wants_31 rfl (lv_at hl 1 rfl) ?_
      obtain ⟨hi, h⟩ := h
      refine ial S hE hP 1 rfl hi dX10_wants_32 ?_
      refine lv_if_ne (tgt := 41) hx hb dX10_wants_33 (by decide) (fun hc => ?_) (fun hc => ?_)
      · have h := h.2 hc
        refine lv_iconst (v := 0) hx hb dX10_wants_41 (by decide) ?_
        exact W.iret hx hb hr (fun t ht _ => ⟨_, rfl, h, ht⟩) (fun _ hq => by cases hq) dX10_wants_42
      have h := h.1 hc
      refine lv_bipush (v := (-3)) hx hb dX10_wants_36 (by decide) ?_
      refine lv_goto (tgt := 42) hx hb dX10_wants_38 (by decide) ?_
      exact W.iret hx hb hr (fun t ht _ => ⟨_, rfl, h, ht⟩) (fun _ hq => by cases hq) dX10_wants_42
    have h := h.1 hc
    refine lv_bipush (v := (-2)) hx hb dX10_wants_22 (by decide) ?_
    refine lv_goto (tgt := 42) hx hb dX10_wants_24 (by decide) ?_
    exact W.iret hx hb hr (fun t ht _ => ⟨_, rfl, h, ht⟩) (fun _ hq => by cases hq) dX10_wants_42
  have h := h.1 hc
  refine lv_iconst (v := (-1)) hx hb dX10_wants_8 (by decide) ?_
  refine lv_goto (tgt := 42) hx hb dX10_wants_9 (by decide) ?_
  exact W.iret hx hb hr (fun t ht _ => ⟨_, rfl, h, ht⟩) (fun _ hq => by cases hq) dX10_wants_42
/-! X10_intAt -/
abbrev wX10_intAt (cI cJ cS : ClassId) (a_o a_cells : Nat) (z_refused z_steps z_kind z_space z_other z_times z_speed z_base z_share z_notes z_pitch z_beats z_held z_sort z_size z_shown z_carried z_words z_tell z_was z_kept z_cutSpace z_cutTimes z_cutOff z_trace : Value) (v_stretches : Int32) (v_cars : Int32) (v_tunes : Int32) (v_along : Int32) (v_near : Int32) (v_borne : Int32) (v_tempo : Int32) (v_seed : Int32) (v_fault : Int32) (v_from : Int32) (v_at : Int32) (v_end : Int32) (v_told : Int32) (v_wrongAt : Int32) (v_culprit : Int32) (v_ran : Int32) (v_isKept : Int32) (g_cells : Nat → Int64) : va_W := [(a_o, .inr (9, [.int v_stretches, .int v_cars, .int v_tunes, .int v_along, .int v_near, .int v_borne, .int v_tempo, .int v_seed, .int v_fault, z_refused, z_steps, z_kind, z_space, z_other, z_times, z_speed, z_base, z_share, z_notes, z_pitch, z_beats, z_held, z_sort, z_size, z_shown, .ref a_cells, z_carried, z_words, z_tell, .int v_from, .int v_at, .int v_end, .int v_told, .int v_wrongAt, z_was, z_kept, .int v_culprit, z_cutSpace, z_cutTimes, z_cutOff, z_trace, .int v_ran, .int v_isKept])), (a_cells, .inl (cJ, 1280, .inr (.inl g_cells)))]
def F_X10_intAt (g_cells : Nat → Int64) (x1 : Int32) (x2 : Int32) (post : Int32 → Prop) : Prop := (vp_in ((160 * x1) + x2) 1280 ∧ post ((g_cells ((160 * x1) + x2).toNatClampNeg).toInt32))
set_option maxHeartbeats 4000000 in
set_option maxRecDepth 100000 in
theorem c_X10_intAt {l : Launch} {D : va_G} {cI cJ cS : ClassId} {ad adK : Nat → Nat} {a_o a_cells : Nat} {z_refused z_steps z_kind z_space z_other z_times z_speed z_base z_share z_notes z_pitch z_beats z_held z_sort z_size z_shown z_carried z_words z_tell z_was z_kept z_cutSpace z_cutTimes z_cutOff z_trace : Value} {v_stretches : Int32} {v_cars : Int32} {v_tunes : Int32} {v_along : Int32} {v_near : Int32} {v_borne : Int32} {v_tempo : Int32} {v_seed : Int32} {v_fault : Int32} {v_from : Int32} {v_at : Int32} {v_end : Int32} {v_told : Int32} {v_wrongAt : Int32} {v_culprit : Int32} {v_ran : Int32} {v_isKept : Int32} {g_cells : Nat → Int64} {x1 : Int32} {x2 : Int32} {post : Int32 → Prop} (h : F_X10_intAt g_cells x1 x2 post) : Met l yX10_intAt (Cond.code yX10_intAt cX10_intAt 3 (some (.int)) :: GW) (rmd 0 0 0) (PR D cI cJ cS ad adK [.ref a_o, .int x1, .int x2] (wX10_intAt cI cJ cS a_o a_cells z_refused z_steps z_kind z_space z_other z_times z_speed z_base z_share z_notes z_pitch z_beats z_held z_sort z_size z_shown z_carried z_words z_tell z_was z_kept z_cutSpace z_cutTimes z_cutOff z_trace v_stretches v_cars v_tunes v_along v_near v_borne v_tempo v_seed v_fault v_from v_at v_end v_told v_wrongAt v_culprit v_ran v_isKept g_cells)) (vp_Si post) 0 0 nof := by
  refine Met.ro (by decide) (Nat.le_of_ble_eq_true rfl) (fun p e s m args below meth c ls (S : CallFix p m c cX10_intAt 3 s args GW "RoadThatSingsModel") hE hT hP hS hr hlocks hl => ?_)
  have hx := S.1
  have hb := S.2.1
  have hl : lv_has ls 3 [(0, .ref a_o), (1, .int x1), (2, .int x2)] := hl
  unfold F_X10_intAt at h
  refine lv_aload_n hx hb dX10_intAt_0 rfl (lv_at hl 0 rfl) ?_
  refine gf S hE hP 0 rfl rfl inX10 (k := 25) (by decide) q1118 rfl dX10_intAt_1 ?_
  refine lv_sipush (v := 160) hx hb dX10_intAt_4 (by decide) ?_
  refine lv_iload_n hx hb dX10_intAt_7 rfl (lv_at hl 1 rfl) ?_
  refine lv_imul hx hb dX10_intAt_8 ?_
  refine lv_iload_n hx hb dX10_intAt_9 rfl (lv_at hl 2 rfl) ?_
  refine lv_iadd hx hb dX10_intAt_10 ?_
  obtain ⟨hi, h⟩ := h
  refine lal S hE hP 1 rfl hi dX10_intAt_11 ?_
  refine lv_l2i hx hb dX10_intAt_12 rfl ?_
  exact W.iret hx hb hr (fun t ht _ => ⟨_, rfl, h, ht⟩) (fun _ hq => by cases hq) dX10_intAt_13
/-! X10_isSo -/
abbrev wX10_isSo (cI cJ cS : ClassId) (a_o : Nat) (z_refused z_steps z_kind z_space z_other z_times z_speed z_base z_share z_notes z_pitch z_beats z_held z_sort z_size z_shown z_cells z_carried z_words z_tell z_was z_kept z_cutSpace z_cutTimes z_cutOff z_trace : Value) (v_stretches : Int32) (v_cars : Int32) (v_tunes : Int32) (v_along : Int32) (v_near : Int32) (v_borne : Int32) (v_tempo : Int32) (v_seed : Int32) (v_fault : Int32) (v_from : Int32) (v_at : Int32) (v_end : Int32) (v_told : Int32) (v_wrongAt : Int32) (v_culprit : Int32) (v_ran : Int32) (v_isKept : Int32) : va_W := [(a_o, .inr (9, [.int v_stretches, .int v_cars, .int v_tunes, .int v_along, .int v_near, .int v_borne, .int v_tempo, .int v_seed, .int v_fault, z_refused, z_steps, z_kind, z_space, z_other, z_times, z_speed, z_base, z_share, z_notes, z_pitch, z_beats, z_held, z_sort, z_size, z_shown, z_cells, z_carried, z_words, z_tell, .int v_from, .int v_at, .int v_end, .int v_told, .int v_wrongAt, z_was, z_kept, .int v_culprit, z_cutSpace, z_cutTimes, z_cutOff, z_trace, .int v_ran, .int v_isKept]))]
def F_X10_isSo (x1 : Int32) (x2 : Int32) (x3 : Int32) (post : Int32 → Prop) : Prop := ((x1 < 1 → post 0) ∧ (¬ x1 < 1 → ((60 < x1 → post 0) ∧ (¬ 60 < x1 → ((x2 < 0 → post 0) ∧ (¬ x2 < 0 → ((60 < x2 → post 0) ∧ (¬ 60 < x2 → ((x3 < 1 → post 0) ∧ (¬ x3 < 1 → ((60 < x3 → post 0) ∧ (¬ 60 < x3 → post 1))))))))))))
set_option maxHeartbeats 4000000 in
set_option maxRecDepth 100000 in
theorem c_X10_isSo {l : Launch} {D : va_G} {cI cJ cS : ClassId} {ad adK : Nat → Nat} {a_o : Nat} {z_refused z_steps z_kind z_space z_other z_times z_speed z_base z_share z_notes z_pitch z_beats z_held z_sort z_size z_shown z_cells z_carried z_words z_tell z_was z_kept z_cutSpace z_cutTimes z_cutOff z_trace : Value} {v_stretches : Int32} {v_cars : Int32} {v_tunes : Int32} {v_along : Int32} {v_near : Int32} {v_borne : Int32} {v_tempo : Int32} {v_seed : Int32} {v_fault : Int32} {v_from : Int32} {v_at : Int32} {v_end : Int32} {v_told : Int32} {v_wrongAt : Int32} {v_culprit : Int32} {v_ran : Int32} {v_isKept : Int32} {x1 : Int32} {x2 : Int32} {x3 : Int32} {post : Int32 → Prop} (h : F_X10_isSo x1 x2 x3 post) : Met l yX10_isSo (Cond.code yX10_isSo cX10_isSo 4 (some (.boolean)) :: GW) (rmd 0 0 0) (PR D cI cJ cS ad adK [.ref a_o, .int x1, .int x2, .int x3] (wX10_isSo cI cJ cS a_o z_refused z_steps z_kind z_space z_other z_times z_speed z_base z_share z_notes z_pitch z_beats z_held z_sort z_size z_shown z_cells z_carried z_words z_tell z_was z_kept z_cutSpace z_cutTimes z_cutOff z_trace v_stretches v_cars v_tunes v_along v_near v_borne v_tempo v_seed v_fault v_from v_at v_end v_told v_wrongAt v_culprit v_ran v_isKept)) (vp_Si post) 0 0 nof := by
  refine Met.ro (by decide) (Nat.le_of_ble_eq_true rfl) (fun p e s m args below meth c ls (S : CallFix p m c cX10_isSo 4 s args GW "RoadThatSingsModel") hE hT hP hS hr hlocks hl => ?_)
  have hx := S.1
  have hb := S.2.1
  have hl : lv_has ls 4 [(0, .ref a_o), (1, .int x1), (2, .int x2), (3, .int x3)] := hl
  unfold F_X10_isSo at h
  refine lv_iload_n hx hb dX10_isSo_0 rfl (lv_at hl 1 rfl) ?_
  refine lv_iconst (v := 1) hx hb dX10_isSo_1 (by decide) ?_
  refine lv_icmp_lt (tgt := 36) hx hb dX10_isSo_2 (by decide) (fun hc => ?_) (fun hc => ?_)
  · have h := h.1 hc
    refine lv_iconst (v := 0) hx hb dX10_isSo_36 (by decide) ?_
    exact W.zret hx hb hr rfl (fun t ht _ => ⟨_, rfl, h, ht⟩) (fun _ hq => by cases hq) dX10_isSo_37
  have h := h.2 hc
  refine lv_iload_n hx hb dX10_isSo_5 rfl (lv_at hl 1 rfl) ?_
  refine lv_bipush (v := 60) hx hb dX10_isSo_6 (by decide) ?_
  refine lv_icmp_gt (tgt := 36) hx hb dX10_isSo_8 (by decide) (fun hc => ?_) (fun hc => ?_)
  · have h := h.1 hc
    refine lv_iconst (v := 0) hx hb dX10_isSo_36 (by decide) ?_
    exact W.zret hx hb hr rfl (fun t ht _ => ⟨_, rfl, h, ht⟩) (fun _ hq => by cases hq) dX10_isSo_37
  have h := h.2 hc
  refine lv_iload_n hx hb dX10_isSo_11 rfl (lv_at hl 2 rfl) ?_
  refine lv_if_lt (tgt := 36) hx hb dX10_isSo_12 (by decide) (fun hc => ?_) (fun hc => ?_)
  · have h := h.1 hc
    refine lv_iconst (v := 0) hx hb dX10_isSo_36 (by decide) ?_
    exact W.zret hx hb hr rfl (fun t ht _ => ⟨_, rfl, h, ht⟩) (fun _ hq => by cases hq) dX10_isSo_37
  have h := h.2 hc
  refine lv_iload_n hx hb dX10_isSo_15 rfl (lv_at hl 2 rfl) ?_
  refine lv_bipush (v := 60) hx hb dX10_isSo_16 (by decide) ?_
  refine lv_icmp_gt (tgt := 36) hx hb dX10_isSo_18 (by decide) (fun hc => ?_) (fun hc => ?_)
  · have h := h.1 hc
    refine lv_iconst (v := 0) hx hb dX10_isSo_36 (by decide) ?_
    exact W.zret hx hb hr rfl (fun t ht _ => ⟨_, rfl, h, ht⟩) (fun _ hq => by cases hq) dX10_isSo_37
  have h := h.2 hc
  refine lv_iload_n hx hb dX10_isSo_21 rfl (lv_at hl 3 rfl) ?_
  refine lv_iconst (v := 1) hx hb dX10_isSo_22 (by decide) ?_
  refine lv_icmp_lt (tgt := 36) hx hb dX10_isSo_23 (by decide) (fun hc => ?_) (fun hc => ?_)
  · have h := h.1 hc
    refine lv_iconst (v := 0) hx hb dX10_isSo_36 (by decide) ?_
    exact W.zret hx hb hr rfl (fun t ht _ => ⟨_, rfl, h, ht⟩) (fun _ hq => by cases hq) dX10_isSo_37
  have h := h.2 hc
  refine lv_iload_n hx hb dX10_isSo_26 rfl (lv_at hl 3 rfl) ?_
  refine lv_bipush (v := 60) hx hb dX10_isSo_27 (by decide) ?_
  refine lv_icmp_gt (tgt := 36) hx hb dX10_isSo_29 (by decide) (fun hc => ?_) (fun hc => ?_)
  · have h := h.1 hc
    refine lv_iconst (v := 0) hx hb dX10_isSo_36 (by decide) ?_
    exact W.zret hx hb hr rfl (fun t ht _ => ⟨_, rfl, h, ht⟩) (fun _ hq => by cases hq) dX10_isSo_37
  have h := h.2 hc
  refine lv_iconst (v := 1) hx hb dX10_isSo_32 (by decide) ?_
  refine lv_goto (tgt := 37) hx hb dX10_isSo_33 (by decide) ?_
  exact W.zret hx hb hr rfl (fun t ht _ => ⟨_, rfl, h, ht⟩) (fun _ hq => by cases hq) dX10_isSo_37
/-! X10_comes -/
abbrev wX10_comes (cI cJ cS : ClassId) (a_o a_kind a_other a_space a_times : Nat) (z_refused z_steps z_speed z_base z_share z_notes z_pitch z_beats z_held z_sort z_size z_shown z_cells z_carried z_words z_tell z_was z_kept z_cutSpace z_cutTimes z_cutOff z_trace : Value) (v_stretches : Int32) (v_cars : Int32) (v_tunes : Int32) (v_along : Int32) (v_near : Int32) (v_borne : Int32) (v_tempo : Int32) (v_seed : Int32) (v_fault : Int32) (v_from : Int32) (v_at : Int32) (v_end : Int32) (v_told : Int32) (v_wrongAt : Int32) (v_culprit : Int32) (v_ran : Int32) (v_isKept : Int32) (f_kind : Nat → Int32) (f_other : Nat → Int32) (f_space : Nat → Int32) (f_times : Nat → Int32) : va_W := [(a_o, .inr (9, [.int v_stretches, .int v_cars, .int v_tunes, .int v_along, .int v_near, .int v_borne, .int v_tempo, .int v_seed, .int v_fault, z_refused, z_steps, .ref a_kind, .ref a_space, .ref a_other, .ref a_times, z_speed, z_base, z_share, z_notes, z_pitch, z_beats, z_held, z_sort, z_size, z_shown, z_cells, z_carried, z_words, z_tell, .int v_from, .int v_at, .int v_end, .int v_told, .int v_wrongAt, z_was, z_kept, .int v_culprit, z_cutSpace, z_cutTimes, z_cutOff, z_trace, .int v_ran, .int v_isKept])), (a_kind, .inl (cI, 16, .inl f_kind)), (a_other, .inl (cI, 16, .inl f_other)), (a_space, .inl (cI, 16, .inl f_space)), (a_times, .inl (cI, 16, .inl f_times))]
def F_X10_comes (v_stretches : Int32) (f_kind : Nat → Int32) (f_other : Nat → Int32) (f_space : Nat → Int32) (f_times : Nat → Int32) (x1 : Int32) (x2 : Int32) (x3 : Int32) (x4 : Int32) (post : Int32 → (Nat → Int32) → (Nat → Int32) → (Nat → Int32) → (Nat → Int32) → Prop) : Prop := (vp_in v_stretches 16 ∧ (vp_in v_stretches 16 ∧ (vp_in v_stretches 16 ∧ (vp_in v_stretches 16 ∧ post (v_stretches + 1) (upd f_kind v_stretches.toNatClampNeg x1) (upd f_other v_stretches.toNatClampNeg x3) (upd f_space v_stretches.toNatClampNeg x2) (upd f_times v_stretches.toNatClampNeg x4)))))
set_option maxHeartbeats 4000000 in
set_option maxRecDepth 100000 in
theorem c_X10_comes {l : Launch} {D : va_G} {cI cJ cS : ClassId} {ad adK : Nat → Nat} {a_o a_kind a_other a_space a_times : Nat} {z_refused z_steps z_speed z_base z_share z_notes z_pitch z_beats z_held z_sort z_size z_shown z_cells z_carried z_words z_tell z_was z_kept z_cutSpace z_cutTimes z_cutOff z_trace : Value} {v_stretches : Int32} {v_cars : Int32} {v_tunes : Int32} {v_along : Int32} {v_near : Int32} {v_borne : Int32} {v_tempo : Int32} {v_seed : Int32} {v_fault : Int32} {v_from : Int32} {v_at : Int32} {v_end : Int32} {v_told : Int32} {v_wrongAt : Int32} {v_culprit : Int32} {v_ran : Int32} {v_isKept : Int32} {f_kind : Nat → Int32} {f_other : Nat → Int32} {f_space : Nat → Int32} {f_times : Nat → Int32} {x1 : Int32} {x2 : Int32} {x3 : Int32} {x4 : Int32} {post : Int32 → (Nat → Int32) → (Nat → Int32) → (Nat → Int32) → (Nat → Int32) → Prop} (h : F_X10_comes v_stretches f_kind f_other f_space f_times x1 x2 x3 x4 post) {sz : Nat} : Met l yX10_comes (Cond.code yX10_comes cX10_comes 5 none :: GW) (rmd 0 0 0) (PW D cI cJ cS ad adK [.ref a_o, .int x1, .int x2, .int x3, .int x4] (wX10_comes cI cJ cS a_o a_kind a_other a_space a_times z_refused z_steps z_speed z_base z_share z_notes z_pitch z_beats z_held z_sort z_size z_shown z_cells z_carried z_words z_tell z_was z_kept z_cutSpace z_cutTimes z_cutOff z_trace v_stretches v_cars v_tunes v_along v_near v_borne v_tempo v_seed v_fault v_from v_at v_end v_told v_wrongAt v_culprit v_ran v_isKept f_kind f_other f_space f_times) sz) (va_Qv (fun u : Int32 × (Nat → Int32) × (Nat → Int32) × (Nat → Int32) × (Nat → Int32) => post u.1 u.2.1 u.2.2.1 u.2.2.2.1 u.2.2.2.2) (fun u t => va_P D vwCl (wX10_comes cI cJ cS a_o a_kind a_other a_space a_times z_refused z_steps z_speed z_base z_share z_notes z_pitch z_beats z_held z_sort z_size z_shown z_cells z_carried z_words z_tell z_was z_kept z_cutSpace z_cutTimes z_cutOff z_trace u.1 v_cars v_tunes v_along v_near v_borne v_tempo v_seed v_fault v_from v_at v_end v_told v_wrongAt v_culprit v_ran v_isKept u.2.1 u.2.2.1 u.2.2.2.1 u.2.2.2.2) t.heap) (va_A (wX10_comes cI cJ cS a_o a_kind a_other a_space a_times z_refused z_steps z_speed z_base z_share z_notes z_pitch z_beats z_held z_sort z_size z_shown z_cells z_carried z_words z_tell z_was z_kept z_cutSpace z_cutTimes z_cutOff z_trace v_stretches v_cars v_tunes v_along v_near v_borne v_tempo v_seed v_fault v_from v_at v_end v_told v_wrongAt v_culprit v_ran v_isKept f_kind f_other f_space f_times) sz)) 0 0 (va_A (wX10_comes cI cJ cS a_o a_kind a_other a_space a_times z_refused z_steps z_speed z_base z_share z_notes z_pitch z_beats z_held z_sort z_size z_shown z_cells z_carried z_words z_tell z_was z_kept z_cutSpace z_cutTimes z_cutOff z_trace v_stretches v_cars v_tunes v_along v_near v_borne v_tempo v_seed v_fault v_from v_at v_end v_told v_wrongAt v_culprit v_ran v_isKept f_kind f_other f_space f_times) sz) := by
  refine Met.rw (Qc := fun A => (va_Qv (fun u : Int32 × (Nat → Int32) × (Nat → Int32) × (Nat → Int32) × (Nat → Int32) => post u.1 u.2.1 u.2.2.1 u.2.2.2.1 u.2.2.2.2) (fun u t => va_P D vwCl (wX10_comes cI cJ cS a_o a_kind a_other a_space a_times z_refused z_steps z_speed z_base z_share z_notes z_pitch z_beats z_held z_sort z_size z_shown z_cells z_carried z_words z_tell z_was z_kept z_cutSpace z_cutTimes z_cutOff z_trace u.1 v_cars v_tunes v_along v_near v_borne v_tempo v_seed v_fault v_from v_at v_end v_told v_wrongAt v_culprit v_ran v_isKept u.2.1 u.2.2.1 u.2.2.2.1 u.2.2.2.2) t.heap) A)) (by decide) (Nat.le_of_ble_eq_true rfl) (fun p e s m args below meth c ls A (S : CallFix p m c cX10_comes 5 s args GW "RoadThatSingsModel") hE hT hP hD hA hS hr hlocks hname hl => ?_)
  have hS0 := hS
  have hx := S.1
  have hb := S.2.1
  have hl : lv_has ls 5 [(0, .ref a_o), (1, .int x1), (2, .int x2), (3, .int x3), (4, .int x4)] := hl
  unfold F_X10_comes at h
  refine lv_aload_n hx hb dX10_comes_0 rfl (lv_at hl 0 rfl) ?_
  refine gf S hE hP 0 rfl rfl inX10 (k := 11) (by decide) q1104 rfl dX10_comes_1 ?_
  refine lv_aload_n hx hb dX10_comes_4 rfl (lv_at hl 0 rfl) ?_
  refine gf S hE hP 0 rfl rfl inX10 (k := 0) (by decide) q1093 rfl dX10_comes_5 ?_
  refine lv_iload_n hx hb dX10_comes_8 rfl (lv_at hl 1 rfl) ?_
  obtain ⟨hi, h⟩ := h
  refine ias S hE hP hD hS 1 rfl hi dX10_comes_9 (fun H locs hP hD hS => ?_)
  have hP : va_P D vwCl (wX10_comes cI cJ cS a_o a_kind a_other a_space a_times z_refused z_steps z_speed z_base z_share z_notes z_pitch z_beats z_held z_sort z_size z_shown z_cells z_carried z_words z_tell z_was z_kept z_cutSpace z_cutTimes z_cutOff z_trace v_stretches v_cars v_tunes v_along v_near v_borne v_tempo v_seed v_fault v_from v_at v_end v_told v_wrongAt v_culprit v_ran v_isKept (upd f_kind v_stretches.toNatClampNeg x1) f_other f_space f_times) H := hP
  have hD : va_D A (wX10_comes cI cJ cS a_o a_kind a_other a_space a_times z_refused z_steps z_speed z_base z_share z_notes z_pitch z_beats z_held z_sort z_size z_shown z_cells z_carried z_words z_tell z_was z_kept z_cutSpace z_cutTimes z_cutOff z_trace v_stretches v_cars v_tunes v_along v_near v_borne v_tempo v_seed v_fault v_from v_at v_end v_told v_wrongAt v_culprit v_ran v_isKept (upd f_kind v_stretches.toNatClampNeg x1) f_other f_space f_times) := hD
  refine lv_aload_n hx hb dX10_comes_10 rfl (lv_at hl 0 rfl) ?_
  refine gf S hE hP 0 rfl rfl inX10 (k := 12) (by decide) q1105 rfl dX10_comes_11 ?_
  refine lv_aload_n hx hb dX10_comes_14 rfl (lv_at hl 0 rfl) ?_
  refine gf S hE hP 0 rfl rfl inX10 (k := 0) (by decide) q1093 rfl dX10_comes_15 ?_
  refine lv_iload_n hx hb dX10_comes_18 rfl (lv_at hl 2 rfl) ?_
  obtain ⟨hi, h⟩ := h
  refine ias S hE hP hD hS 3 rfl hi dX10_comes_19 (fun H locs hP hD hS => ?_)
  have hP : va_P D vwCl (wX10_comes cI cJ cS a_o a_kind a_other a_space a_times z_refused z_steps z_speed z_base z_share z_notes z_pitch z_beats z_held z_sort z_size z_shown z_cells z_carried z_words z_tell z_was z_kept z_cutSpace z_cutTimes z_cutOff z_trace v_stretches v_cars v_tunes v_along v_near v_borne v_tempo v_seed v_fault v_from v_at v_end v_told v_wrongAt v_culprit v_ran v_isKept (upd f_kind v_stretches.toNatClampNeg x1) f_other (upd f_space v_stretches.toNatClampNeg x2) f_times) H := hP
  have hD : va_D A (wX10_comes cI cJ cS a_o a_kind a_other a_space a_times z_refused z_steps z_speed z_base z_share z_notes z_pitch z_beats z_held z_sort z_size z_shown z_cells z_carried z_words z_tell z_was z_kept z_cutSpace z_cutTimes z_cutOff z_trace v_stretches v_cars v_tunes v_along v_near v_borne v_tempo v_seed v_fault v_from v_at v_end v_told v_wrongAt v_culprit v_ran v_isKept (upd f_kind v_stretches.toNatClampNeg x1) f_other (upd f_space v_stretches.toNatClampNeg x2) f_times) := hD
  refine lv_aload_n hx hb dX10_comes_20 rfl (lv_at hl 0 rfl) ?_
  refine gf S hE hP 0 rfl rfl inX10 (k := 13) (by decide) q1106 rfl dX10_comes_21 ?_
  refine lv_aload_n hx hb dX10_comes_24 rfl (lv_at hl 0 rfl) ?_
  refine gf S hE hP 0 rfl rfl inX10 (k := 0) (by decide) q1093 rfl dX10_comes_25 ?_
  refine lv_iload_n hx hb dX10_comes_28 rfl (lv_at hl 3 rfl) ?_
  obtain ⟨hi, h⟩ := h
  refine ias S hE hP hD hS 2 rfl hi dX10_comes_29 (fun H locs hP hD hS => ?_)
  have hP : va_P D vwCl (wX10_comes cI cJ cS a_o a_kind a_other a_space a_times z_refused z_steps z_speed z_base z_share z_notes z_pitch z_beats z_held z_sort z_size z_shown z_cells z_carried z_words z_tell z_was z_kept z_cutSpace z_cutTimes z_cutOff z_trace v_stretches v_cars v_tunes v_along v_near v_borne v_tempo v_seed v_fault v_from v_at v_end v_told v_wrongAt v_culprit v_ran v_isKept (upd f_kind v_stretches.toNatClampNeg x1) (upd f_other v_stretches.toNatClampNeg x3) (upd f_space v_stretches.toNatClampNeg x2) f_times) H := hP
  have hD : va_D A (wX10_comes cI cJ cS a_o a_kind a_other a_space a_times z_refused z_steps z_speed z_base z_share z_notes z_pitch z_beats z_held z_sort z_size z_shown z_cells z_carried z_words z_tell z_was z_kept z_cutSpace z_cutTimes z_cutOff z_trace v_stretches v_cars v_tunes v_along v_near v_borne v_tempo v_seed v_fault v_from v_at v_end v_told v_wrongAt v_culprit v_ran v_isKept (upd f_kind v_stretches.toNatClampNeg x1) (upd f_other v_stretches.toNatClampNeg x3) (upd f_space v_stretches.toNatClampNeg x2) f_times) := hD
  refine lv_aload_n hx hb dX10_comes_30 rfl (lv_at hl 0 rfl) ?_
  refine gf S hE hP 0 rfl rfl inX10 (k := 14) (by decide) q1107 rfl dX10_comes_31 ?_
  refine lv_aload_n hx hb dX10_comes_34 rfl (lv_at hl 0 rfl) ?_
  refine gf S hE hP 0 rfl rfl inX10 (k := 0) (by decide) q1093 rfl dX10_comes_35 ?_
  refine lv_iload hx hb dX10_comes_38 (lv_at hl 4 rfl) ?_
  obtain ⟨hi, h⟩ := h
  refine ias S hE hP hD hS 4 rfl hi dX10_comes_40 (fun H locs hP hD hS => ?_)
  have hP : va_P D vwCl (wX10_comes cI cJ cS a_o a_kind a_other a_space a_times z_refused z_steps z_speed z_base z_share z_notes z_pitch z_beats z_held z_sort z_size z_shown z_cells z_carried z_words z_tell z_was z_kept z_cutSpace z_cutTimes z_cutOff z_trace v_stretches v_cars v_tunes v_along v_near v_borne v_tempo v_seed v_fault v_from v_at v_end v_told v_wrongAt v_culprit v_ran v_isKept (upd f_kind v_stretches.toNatClampNeg x1) (upd f_other v_stretches.toNatClampNeg x3) (upd f_space v_stretches.toNatClampNeg x2) (upd f_times v_stretches.toNatClampNeg x4)) H := hP
  have hD : va_D A (wX10_comes cI cJ cS a_o a_kind a_other a_space a_times z_refused z_steps z_speed z_base z_share z_notes z_pitch z_beats z_held z_sort z_size z_shown z_cells z_carried z_words z_tell z_was z_kept z_cutSpace z_cutTimes z_cutOff z_trace v_stretches v_cars v_tunes v_along v_near v_borne v_tempo v_seed v_fault v_from v_at v_end v_told v_wrongAt v_culprit v_ran v_isKept (upd f_kind v_stretches.toNatClampNeg x1) (upd f_other v_stretches.toNatClampNeg x3) (upd f_space v_stretches.toNatClampNeg x2) (upd f_times v_stretches.toNatClampNeg x4)) := hD
  refine lv_aload_n hx hb dX10_comes_41 rfl (lv_at hl 0 rfl) ?_
  refine lv_dup hx hb dX10_comes_42 rfl ?_
  refine gf S hE hP 0 rfl rfl inX10 (k := 0) (by decide) q1093 rfl dX10_comes_43 ?_
  refine lv_iconst (v := 1) hx hb dX10_comes_46 (by decide) ?_
  refine lv_iadd hx hb dX10_comes_47 ?_
  refine pf S hE hP hD hS 0 (k := 0) rfl rfl inX10 tyX10_ok nmX10 (by decide) q1093 rfl rfl rfl (Nat.le_of_ble_eq_true rfl) dX10_comes_48 (fun H locs hP hD hS => ?_)
  have hP : va_P D vwCl (wX10_comes cI cJ cS a_o a_kind a_other a_space a_times z_refused z_steps z_speed z_base z_share z_notes z_pitch z_beats z_held z_sort z_size z_shown z_cells z_carried z_words z_tell z_was z_kept z_cutSpace z_cutTimes z_cutOff z_trace (v_stretches + 1) v_cars v_tunes v_along v_near v_borne v_tempo v_seed v_fault v_from v_at v_end v_told v_wrongAt v_culprit v_ran v_isKept (upd f_kind v_stretches.toNatClampNeg x1) (upd f_other v_stretches.toNatClampNeg x3) (upd f_space v_stretches.toNatClampNeg x2) (upd f_times v_stretches.toNatClampNeg x4)) H := hP
  have hD : va_D A (wX10_comes cI cJ cS a_o a_kind a_other a_space a_times z_refused z_steps z_speed z_base z_share z_notes z_pitch z_beats z_held z_sort z_size z_shown z_cells z_carried z_words z_tell z_was z_kept z_cutSpace z_cutTimes z_cutOff z_trace (v_stretches + 1) v_cars v_tunes v_along v_near v_borne v_tempo v_seed v_fault v_from v_at v_end v_told v_wrongAt v_culprit v_ran v_isKept (upd f_kind v_stretches.toNatClampNeg x1) (upd f_other v_stretches.toNatClampNeg x3) (upd f_space v_stretches.toNatClampNeg x2) (upd f_times v_stretches.toNatClampNeg x4)) := hD
  exact W.vret hx hb hr (fun t ht _ => ⟨⟨((v_stretches + 1), (upd f_kind v_stretches.toNatClampNeg x1), (upd f_other v_stretches.toNatClampNeg x3), (upd f_space v_stretches.toNatClampNeg x2), (upd f_times v_stretches.toNatClampNeg x4)), rfl, h, hPt hP ht⟩, hS.F ht⟩) hS.2.2 dX10_comes_51
/-! X10_stretch -/
abbrev wX10_stretch (cI cJ cS : ClassId) (a_o a_kind a_other a_refused a_space a_times : Nat) (z_steps z_speed z_base z_share z_notes z_pitch z_beats z_held z_sort z_size z_shown z_cells z_carried z_words z_tell z_was z_kept z_cutSpace z_cutTimes z_cutOff z_trace : Value) (v_stretches : Int32) (v_cars : Int32) (v_tunes : Int32) (v_along : Int32) (v_near : Int32) (v_borne : Int32) (v_tempo : Int32) (v_seed : Int32) (v_fault : Int32) (v_from : Int32) (v_at : Int32) (v_end : Int32) (v_told : Int32) (v_wrongAt : Int32) (v_culprit : Int32) (v_ran : Int32) (v_isKept : Int32) (f_kind : Nat → Int32) (f_other : Nat → Int32) (f_refused : Nat → Int32) (f_space : Nat → Int32) (f_times : Nat → Int32) : va_W := [(a_o, .inr (9, [.int v_stretches, .int v_cars, .int v_tunes, .int v_along, .int v_near, .int v_borne, .int v_tempo, .int v_seed, .int v_fault, .ref a_refused, z_steps, .ref a_kind, .ref a_space, .ref a_other, .ref a_times, z_speed, z_base, z_share, z_notes, z_pitch, z_beats, z_held, z_sort, z_size, z_shown, z_cells, z_carried, z_words, z_tell, .int v_from, .int v_at, .int v_end, .int v_told, .int v_wrongAt, z_was, z_kept, .int v_culprit, z_cutSpace, z_cutTimes, z_cutOff, z_trace, .int v_ran, .int v_isKept])), (a_kind, .inl (cI, 16, .inl f_kind)), (a_other, .inl (cI, 16, .inl f_other)), (a_refused, .inl (cI, 8, .inl f_refused)), (a_space, .inl (cI, 16, .inl f_space)), (a_times, .inl (cI, 16, .inl f_times))]
def F_X10_stretch (v_stretches : Int32) (f_kind : Nat → Int32) (f_other : Nat → Int32) (f_refused : Nat → Int32) (f_space : Nat → Int32) (f_times : Nat → Int32) (x1 : Int32) (x2 : Int32) (x3 : Int32) (x4 : Int32) (post : Int32 → Int32 → (Nat → Int32) → (Nat → Int32) → (Nat → Int32) → (Nat → Int32) → (Nat → Int32) → Prop) : Prop := ((x1 < 0 → (F_X10_no f_refused (-1) (fun r12 w12_0 => post r12 v_stretches f_kind f_other w12_0 f_space f_times))) ∧ (¬ x1 < 0 → ((x1 ≤ 6 → (F_X10_isSo x2 x3 x4 (fun r21 => ((r21 = 0 → (F_X10_no f_refused (-6) (fun r30 w30_0 => post r30 v_stretches f_kind f_other w30_0 f_space f_times))) ∧ (¬ r21 = 0 → ((v_stretches = 16 → (F_X10_no f_refused (-7) (fun r46 w46_0 => post r46 v_stretches f_kind f_other w46_0 f_space f_times))) ∧ (¬ v_stretches = 16 → (F_X10_comes v_stretches f_kind f_other f_space f_times x1 x2 x3 x4 (fun w56_0 w56_1 w56_2 w56_3 w56_4 => post (w56_0 - 1) w56_0 w56_1 w56_2 f_refused w56_3 w56_4))))))))) ∧ (¬ x1 ≤ 6 → (F_X10_no f_refused (-1) (fun r12 w12_0 => post r12 v_stretches f_kind f_other w12_0 f_space f_times))))))
set_option maxHeartbeats 4000000 in
set_option maxRecDepth 100000 in
theorem c_X10_stretch {l : Launch} {D : va_G} {cI cJ cS : ClassId} {ad adK : Nat → Nat} {a_o a_kind a_other a_refused a_space a_times : Nat} {z_steps z_speed z_base z_share z_notes z_pitch z_beats z_held z_sort z_size z_shown z_cells z_carried z_words z_tell z_was z_kept z_cutSpace z_cutTimes z_cutOff z_trace : Value} {v_stretches : Int32} {v_cars : Int32} {v_tunes : Int32} {v_along : Int32} {v_near : Int32} {v_borne : Int32} {v_tempo : Int32} {v_seed : Int32} {v_fault : Int32} {v_from : Int32} {v_at : Int32} {v_end : Int32} {v_told : Int32} {v_wrongAt : Int32} {v_culprit : Int32} {v_ran : Int32} {v_isKept : Int32} {f_kind : Nat → Int32} {f_other : Nat → Int32} {f_refused : Nat → Int32} {f_space : Nat → Int32} {f_times : Nat → Int32} {x1 : Int32} {x2 : Int32} {x3 : Int32} {x4 : Int32} {post : Int32 → Int32 → (Nat → Int32) → (Nat → Int32) → (Nat → Int32) → (Nat → Int32) → (Nat → Int32) → Prop} (h : F_X10_stretch v_stretches f_kind f_other f_refused f_space f_times x1 x2 x3 x4 post) {sz : Nat} : Met l yX10_stretch (Cond.code yX10_stretch cX10_stretch 5 (some (.int)) :: GW) (rmd 1 0 0) (PW D cI cJ cS ad adK [.ref a_o, .int x1, .int x2, .int x3, .int x4] (wX10_stretch cI cJ cS a_o a_kind a_other a_refused a_space a_times z_steps z_speed z_base z_share z_notes z_pitch z_beats z_held z_sort z_size z_shown z_cells z_carried z_words z_tell z_was z_kept z_cutSpace z_cutTimes z_cutOff z_trace v_stretches v_cars v_tunes v_along v_near v_borne v_tempo v_seed v_fault v_from v_at v_end v_told v_wrongAt v_culprit v_ran v_isKept f_kind f_other f_refused f_space f_times) sz) (va_Qi (fun r (u : Int32 × (Nat → Int32) × (Nat → Int32) × (Nat → Int32) × (Nat → Int32) × (Nat → Int32)) => post r u.1 u.2.1 u.2.2.1 u.2.2.2.1 u.2.2.2.2.1 u.2.2.2.2.2) (fun u t => va_P D vwCl (wX10_stretch cI cJ cS a_o a_kind a_other a_refused a_space a_times z_steps z_speed z_base z_share z_notes z_pitch z_beats z_held z_sort z_size z_shown z_cells z_carried z_words z_tell z_was z_kept z_cutSpace z_cutTimes z_cutOff z_trace u.1 v_cars v_tunes v_along v_near v_borne v_tempo v_seed v_fault v_from v_at v_end v_told v_wrongAt v_culprit v_ran v_isKept u.2.1 u.2.2.1 u.2.2.2.1 u.2.2.2.2.1 u.2.2.2.2.2) t.heap) (va_A (wX10_stretch cI cJ cS a_o a_kind a_other a_refused a_space a_times z_steps z_speed z_base z_share z_notes z_pitch z_beats z_held z_sort z_size z_shown z_cells z_carried z_words z_tell z_was z_kept z_cutSpace z_cutTimes z_cutOff z_trace v_stretches v_cars v_tunes v_along v_near v_borne v_tempo v_seed v_fault v_from v_at v_end v_told v_wrongAt v_culprit v_ran v_isKept f_kind f_other f_refused f_space f_times) sz)) 0 0 (va_A (wX10_stretch cI cJ cS a_o a_kind a_other a_refused a_space a_times z_steps z_speed z_base z_share z_notes z_pitch z_beats z_held z_sort z_size z_shown z_cells z_carried z_words z_tell z_was z_kept z_cutSpace z_cutTimes z_cutOff z_trace v_stretches v_cars v_tunes v_along v_near v_borne v_tempo v_seed v_fault v_from v_at v_end v_told v_wrongAt v_culprit v_ran v_isKept f_kind f_other f_refused f_space f_times) sz) := by
  refine Met.rw (Qc := fun A => (va_Qi (fun r (u : Int32 × (Nat → Int32) × (Nat → Int32) × (Nat → Int32) × (Nat → Int32) × (Nat → Int32)) => post r u.1 u.2.1 u.2.2.1 u.2.2.2.1 u.2.2.2.2.1 u.2.2.2.2.2) (fun u t => va_P D vwCl (wX10_stretch cI cJ cS a_o a_kind a_other a_refused a_space a_times z_steps z_speed z_base z_share z_notes z_pitch z_beats z_held z_sort z_size z_shown z_cells z_carried z_words z_tell z_was z_kept z_cutSpace z_cutTimes z_cutOff z_trace u.1 v_cars v_tunes v_along v_near v_borne v_tempo v_seed v_fault v_from v_at v_end v_told v_wrongAt v_culprit v_ran v_isKept u.2.1 u.2.2.1 u.2.2.2.1 u.2.2.2.2.1 u.2.2.2.2.2) t.heap) A)) (by decide) (Nat.le_of_ble_eq_true rfl) (fun p e s m args below meth c ls A (S : CallFix p m c cX10_stretch 5 s args GW "RoadThatSingsModel") hE hT hP hD hA hS hr hlocks hname hl => ?_)
  have hS0 := hS
  have hx := S.1
  have hb := S.2.1
  have hl : lv_has ls 5 [(0, .ref a_o), (1, .int x1), (2, .int x2), (3, .int x3), (4, .int x4)] := hl
  unfold F_X10_stretch at h
  refine lv_iload_n hx hb dX10_stretch_0 rfl (lv_at hl 1 rfl) ?_
  refine lv_if_lt (tgt := 10) hx hb dX10_stretch_1 (by decide) (fun hc => ?_) (fun hc => ?_)
  · have h := h.1 hc
    refine lv_aload_n hx hb dX10_stretch_10 rfl (lv_at hl 0 rfl) ?_
    refine lv_iconst (v := (-1)) hx hb dX10_stretch_11 (by decide) ?_
    refine rw_i (rwV S hE hT hS hP hD hA (c_X10_no h) [0, 3] rfl (by decide) lkX10_121 rfl ⟨(Nat.le_of_ble_eq_true rfl), (Nat.le_of_ble_eq_true rfl)⟩ 0 rfl rfl hl.1 rfl (Nat.le_of_ble_eq_true rfl) dX10_stretch_12 ⟨(Nat.zero_le _), (Nat.zero_le _)⟩) hP hD hS hA [0, 3] rfl (by decide) (fun _ => rfl) (fun r12 w12_0 H locs h hP hD hS => ?_)
    try dsimp only at h
    have hP : va_P D vwCl (wX10_stretch cI cJ cS a_o a_kind a_other a_refused a_space a_times z_steps z_speed z_base z_share z_notes z_pitch z_beats z_held z_sort z_size z_shown z_cells z_carried z_words z_tell z_was z_kept z_cutSpace z_cutTimes z_cutOff z_trace v_stretches v_cars v_tunes v_along v_near v_borne v_tempo v_seed v_fault v_from v_at v_end v_told v_wrongAt v_culprit v_ran v_isKept f_kind f_other w12_0 f_space f_times) H := hP
    have hD : va_D A (wX10_stretch cI cJ cS a_o a_kind a_other a_refused a_space a_times z_steps z_speed z_base z_share z_notes z_pitch z_beats z_held z_sort z_size z_shown z_cells z_carried z_words z_tell z_was z_kept z_cutSpace z_cutTimes z_cutOff z_trace v_stretches v_cars v_tunes v_along v_near v_borne v_tempo v_seed v_fault v_from v_at v_end v_told v_wrongAt v_culprit v_ran v_isKept f_kind f_other w12_0 f_space f_times) := hD
    exact W.iret hx hb hr (fun t ht _ => ⟨⟨_, (v_stretches, f_kind, f_other, w12_0, f_space, f_times), rfl, h, hPt hP ht⟩, hS.F ht⟩) hS.2.2 dX10_stretch_15
  have h := h.2 hc
  refine lv_iload_n hx hb dX10_stretch_4 rfl (lv_at hl 1 rfl) ?_
  refine lv_bipush (v := 6) hx hb dX10_stretch_5 (by decide) ?_
  refine lv_icmp_le (tgt := 16) hx hb dX10_stretch_7 (by decide) (fun hc => ?_) (fun hc => ?_)
  · have h := h.1 hc
    refine lv_aload_n hx hb dX10_stretch_16 rfl (lv_at hl 0 rfl) ?_
    refine lv_iload_n hx hb dX10_stretch_17 rfl (lv_at hl 2 rfl) ?_
    refine lv_iload_n hx hb dX10_stretch_18 rfl (lv_at hl 3 rfl) ?_
    refine lv_iload hx hb dX10_stretch_19 (lv_at hl 4 rfl) ?_
    refine ro_i (roV S hE hT hS (c_X10_isSo h) lkX10_134 rfl ⟨(Nat.le_of_ble_eq_true rfl), (Nat.le_of_ble_eq_true rfl)⟩ (hP.sub [0] rfl) 0 rfl rfl hl.1 rfl (Nat.le_of_ble_eq_true rfl) dX10_stretch_21 ⟨(Nat.zero_le _), (Nat.zero_le _)⟩) (fun r21 h => ?_)
    refine lv_if_ne (tgt := 34) hx hb dX10_stretch_24 (by decide) (fun hc => ?_) (fun hc => ?_)
    · have h := h.2 hc
      refine lv_aload_n hx hb dX10_stretch_34 rfl (lv_at hl 0 rfl) ?_
      refine gf S hE hP 0 rfl rfl inX10 (k := 0) (by decide) q1093 rfl dX10_stretch_35 ?_
      refine lv_bipush (v := 16) hx hb dX10_stretch_38 (by decide) ?_
      refine lv_icmp_ne (tgt := 50) hx hb dX10_stretch_40 (by decide) (fun hc => ?_) (fun hc => ?_)
      · have h := h.2 hc
        refine lv_aload_n hx hb dX10_stretch_50 rfl (lv_at hl 0 rfl) ?_
        refine lv_iload_n hx hb dX10_stretch_51 rfl (lv_at hl 1 rfl) ?_
        refine lv_iload_n hx hb dX10_stretch_52 rfl (lv_at hl 2 rfl) ?_
        refine lv_iload_n hx hb dX10_stretch_53 rfl (lv_at hl 3 rfl) ?_
        refine lv_iload hx hb dX10_stretch_54 (lv_at hl 4 rfl) ?_
        refine rw_v (rwV S hE hT hS hP hD hA (c_X10_comes h) [0, 1, 2, 4, 5] rfl (by decide) lkX10_138 rfl ⟨(Nat.le_of_ble_eq_true rfl), (Nat.le_of_ble_eq_true rfl)⟩ 0 rfl rfl hl.1 rfl (Nat.le_of_ble_eq_true rfl) dX10_stretch_56 ⟨(Nat.zero_le _), (Nat.zero_le _)⟩) hP hD hS hA [0, 1, 2, 4, 5] rfl (by decide) (fun _ => rfl) (fun u56 H locs h hP hD hS => ?_)
        obtain ⟨w56_0, w56_1, w56_2, w56_3, w56_4⟩ := u56
        try dsimp only at h
        have hP : va_P D vwCl (wX10_stretch cI cJ cS a_o a_kind a_other a_refused a_space a_times z_steps z_speed z_base z_share z_notes z_pitch z_beats z_held z_sort z_size z_shown z_cells z_carried z_words z_tell z_was z_kept z_cutSpace z_cutTimes z_cutOff z_trace w56_0 v_cars v_tunes v_along v_near v_borne v_tempo v_seed v_fault v_from v_at v_end v_told v_wrongAt v_culprit v_ran v_isKept w56_1 w56_2 f_refused w56_3 w56_4) H := hP
        have hD : va_D A (wX10_stretch cI cJ cS a_o a_kind a_other a_refused a_space a_times z_steps z_speed z_base z_share z_notes z_pitch z_beats z_held z_sort z_size z_shown z_cells z_carried z_words z_tell z_was z_kept z_cutSpace z_cutTimes z_cutOff z_trace w56_0 v_cars v_tunes v_along v_near v_borne v_tempo v_seed v_fault v_from v_at v_end v_told v_wrongAt v_culprit v_ran v_isKept w56_1 w56_2 f_refused w56_3 w56_4) := hD
        refine lv_aload_n hx hb dX10_stretch_59 rfl (lv_at hl 0 rfl) ?_
        refine gf S hE hP 0 rfl rfl inX10 (k := 0) (by decide) q1093 rfl dX10_stretch_60 ?_
        refine lv_iconst (v := 1) hx hb dX10_stretch_63 (by decide) ?_
        refine lv_isub hx hb dX10_stretch_64 ?_
        exact W.iret hx hb hr (fun t ht _ => ⟨⟨_, (w56_0, w56_1, w56_2, f_refused, w56_3, w56_4), rfl, h, hPt hP ht⟩, hS.F ht⟩) hS.2.2 dX10_stretch_65
      have h := h.1 hc
      refine lv_aload_n hx hb dX10_stretch_43 rfl (lv_at hl 0 rfl) ?_
      refine lv_bipush (v := (-7)) hx hb dX10_stretch_44 (by decide) ?_
      refine rw_i (rwV S hE hT hS hP hD hA (c_X10_no h) [0, 3] rfl (by decide) lkX10_121 rfl ⟨(Nat.le_of_ble_eq_true rfl), (Nat.le_of_ble_eq_true rfl)⟩ 0 rfl rfl hl.1 rfl (Nat.le_of_ble_eq_true rfl) dX10_stretch_46 ⟨(Nat.zero_le _), (Nat.zero_le _)⟩) hP hD hS hA [0, 3] rfl (by decide) (fun _ => rfl) (fun r46 w46_0 H locs h hP hD hS => ?_)
      try dsimp only at h
      have hP : va_P D vwCl (wX10_stretch cI cJ cS a_o a_kind a_other a_refused a_space a_times z_steps z_speed z_base z_share z_notes z_pitch z_beats z_held z_sort z_size z_shown z_cells z_carried z_words z_tell z_was z_kept z_cutSpace z_cutTimes z_cutOff z_trace v_stretches v_cars v_tunes v_along v_near v_borne v_tempo v_seed v_fault v_from v_at v_end v_told v_wrongAt v_culprit v_ran v_isKept f_kind f_other w46_0 f_space f_times) H := hP
      have hD : va_D A (wX10_stretch cI cJ cS a_o a_kind a_other a_refused a_space a_times z_steps z_speed z_base z_share z_notes z_pitch z_beats z_held z_sort z_size z_shown z_cells z_carried z_words z_tell z_was z_kept z_cutSpace z_cutTimes z_cutOff z_trace v_stretches v_cars v_tunes v_along v_near v_borne v_tempo v_seed v_fault v_from v_at v_end v_told v_wrongAt v_culprit v_ran v_isKept f_kind f_other w46_0 f_space f_times) := hD
      exact W.iret hx hb hr (fun t ht _ => ⟨⟨_, (v_stretches, f_kind, f_other, w46_0, f_space, f_times), rfl, h, hPt hP ht⟩, hS.F ht⟩) hS.2.2 dX10_stretch_49
    have h := h.1 hc
    refine lv_aload_n hx hb dX10_stretch_27 rfl (lv_at hl 0 rfl) ?_
    refine lv_bipush (v := (-6)) hx hb dX10_stretch_28 (by decide) ?_
    refine rw_i (rwV S hE hT hS hP hD hA (c_X10_no h) [0, 3] rfl (by decide) lkX10_121 rfl ⟨(Nat.le_of_ble_eq_true rfl), (Nat.le_of_ble_eq_true rfl)⟩ 0 rfl rfl hl.1 rfl (Nat.le_of_ble_eq_true rfl) dX10_stretch_30 ⟨(Nat.zero_le _), (Nat.zero_le _)⟩) hP hD hS hA [0, 3] rfl (by decide) (fun _ => rfl) (fun r30 w30_0 H locs h hP hD hS => ?_)
    try dsimp only at h
    have hP : va_P D vwCl (wX10_stretch cI cJ cS a_o a_kind a_other a_refused a_space a_times z_steps z_speed z_base z_share z_notes z_pitch z_beats z_held z_sort z_size z_shown z_cells z_carried z_words z_tell z_was z_kept z_cutSpace z_cutTimes z_cutOff z_trace v_stretches v_cars v_tunes v_along v_near v_borne v_tempo v_seed v_fault v_from v_at v_end v_told v_wrongAt v_culprit v_ran v_isKept f_kind f_other w30_0 f_space f_times) H := hP
    have hD : va_D A (wX10_stretch cI cJ cS a_o a_kind a_other a_refused a_space a_times z_steps z_speed z_base z_share z_notes z_pitch z_beats z_held z_sort z_size z_shown z_cells z_carried z_words z_tell z_was z_kept z_cutSpace z_cutTimes z_cutOff z_trace v_stretches v_cars v_tunes v_along v_near v_borne v_tempo v_seed v_fault v_from v_at v_end v_told v_wrongAt v_culprit v_ran v_isKept f_kind f_other w30_0 f_space f_times) := hD
    exact W.iret hx hb hr (fun t ht _ => ⟨⟨_, (v_stretches, f_kind, f_other, w30_0, f_space, f_times), rfl, h, hPt hP ht⟩, hS.F ht⟩) hS.2.2 dX10_stretch_33
  have h := h.2 hc
  refine lv_aload_n hx hb dX10_stretch_10 rfl (lv_at hl 0 rfl) ?_
  refine lv_iconst (v := (-1)) hx hb dX10_stretch_11 (by decide) ?_
  refine rw_i (rwV S hE hT hS hP hD hA (c_X10_no h) [0, 3] rfl (by decide) lkX10_121 rfl ⟨(Nat.le_of_ble_eq_true rfl), (Nat.le_of_ble_eq_true rfl)⟩ 0 rfl rfl hl.1 rfl (Nat.le_of_ble_eq_true rfl) dX10_stretch_12 ⟨(Nat.zero_le _), (Nat.zero_le _)⟩) hP hD hS hA [0, 3] rfl (by decide) (fun _ => rfl) (fun r12 w12_0 H locs h hP hD hS => ?_)
  try dsimp only at h
  have hP : va_P D vwCl (wX10_stretch cI cJ cS a_o a_kind a_other a_refused a_space a_times z_steps z_speed z_base z_share z_notes z_pitch z_beats z_held z_sort z_size z_shown z_cells z_carried z_words z_tell z_was z_kept z_cutSpace z_cutTimes z_cutOff z_trace v_stretches v_cars v_tunes v_along v_near v_borne v_tempo v_seed v_fault v_from v_at v_end v_told v_wrongAt v_culprit v_ran v_isKept f_kind f_other w12_0 f_space f_times) H := hP
  have hD : va_D A (wX10_stretch cI cJ cS a_o a_kind a_other a_refused a_space a_times z_steps z_speed z_base z_share z_notes z_pitch z_beats z_held z_sort z_size z_shown z_cells z_carried z_words z_tell z_was z_kept z_cutSpace z_cutTimes z_cutOff z_trace v_stretches v_cars v_tunes v_along v_near v_borne v_tempo v_seed v_fault v_from v_at v_end v_told v_wrongAt v_culprit v_ran v_isKept f_kind f_other w12_0 f_space f_times) := hD
  exact W.iret hx hb hr (fun t ht _ => ⟨⟨_, (v_stretches, f_kind, f_other, w12_0, f_space, f_times), rfl, h, hPt hP ht⟩, hS.F ht⟩) hS.2.2 dX10_stretch_15
/-! X10_stretches -/
abbrev wX10_stretches (cI cJ cS : ClassId) (a_o a_cells a_held a_kind a_other a_refused a_size a_space a_times : Nat) (z_steps z_speed z_base z_share z_notes z_pitch z_beats z_sort z_shown z_carried z_words z_tell z_was z_kept z_cutSpace z_cutTimes z_cutOff z_trace : Value) (v_stretches : Int32) (v_cars : Int32) (v_tunes : Int32) (v_along : Int32) (v_near : Int32) (v_borne : Int32) (v_tempo : Int32) (v_seed : Int32) (v_fault : Int32) (v_from : Int32) (v_at : Int32) (v_end : Int32) (v_told : Int32) (v_wrongAt : Int32) (v_culprit : Int32) (v_ran : Int32) (v_isKept : Int32) (g_cells : Nat → Int64) (f_held : Nat → Int32) (f_kind : Nat → Int32) (f_other : Nat → Int32) (f_refused : Nat → Int32) (f_size : Nat → Int32) (f_space : Nat → Int32) (f_times : Nat → Int32) : va_W := [(a_o, .inr (9, [.int v_stretches, .int v_cars, .int v_tunes, .int v_along, .int v_near, .int v_borne, .int v_tempo, .int v_seed, .int v_fault, .ref a_refused, z_steps, .ref a_kind, .ref a_space, .ref a_other, .ref a_times, z_speed, z_base, z_share, z_notes, z_pitch, z_beats, .ref a_held, z_sort, .ref a_size, z_shown, .ref a_cells, z_carried, z_words, z_tell, .int v_from, .int v_at, .int v_end, .int v_told, .int v_wrongAt, z_was, z_kept, .int v_culprit, z_cutSpace, z_cutTimes, z_cutOff, z_trace, .int v_ran, .int v_isKept])), (a_cells, .inl (cJ, 1280, .inr (.inl g_cells))), (a_held, .inl (cI, 8, .inl f_held)), (a_kind, .inl (cI, 16, .inl f_kind)), (a_other, .inl (cI, 16, .inl f_other)), (a_refused, .inl (cI, 8, .inl f_refused)), (a_size, .inl (cI, 8, .inl f_size)), (a_space, .inl (cI, 16, .inl f_space)), (a_times, .inl (cI, 16, .inl f_times))]
def L_X10_stretches_72 (g_cells : Nat → Int64) (x1 : Int32) (x2 : Int32) (x3 : Int32) (f_refused : Nat → Int32) (post : Int32 → Int32 → (Nat → Int32) → (Nat → Int32) → (Nat → Int32) → (Nat → Int32) → (Nat → Int32) → Prop) : Nat → Int32 → Int32 → Int32 → (Nat → Int32) → (Nat → Int32) → (Nat → Int32) → (Nat → Int32) → Prop
  | 0, _, _, _, _, _, _, _ => False
  | n72 + 1, x5, x6, v_stretches, f_kind, f_other, f_space, f_times => (((x2 + x3) ≤ x6 → post x5 v_stretches f_kind f_other f_refused f_space f_times) ∧ (¬ (x2 + x3) ≤ x6 → (F_X10_intAt g_cells x1 x6 (fun r84 => ((v_stretches = 16 → post x5 v_stretches f_kind f_other f_refused f_space f_times) ∧ (¬ v_stretches = 16 → ((r84 < 0 → post x5 v_stretches f_kind f_other f_refused f_space f_times) ∧ (¬ r84 < 0 → ((6 < r84 → post x5 v_stretches f_kind f_other f_refused f_space f_times) ∧ (¬ 6 < r84 → (F_X10_intAt g_cells x1 (x6 + 1) (fun r117 => (F_X10_intAt g_cells x1 (x6 + 2) (fun r126 => (F_X10_intAt g_cells x1 (x6 + 3) (fun r135 => (F_X10_isSo r117 r126 r135 (fun r138 => ((r138 = 0 → post x5 v_stretches f_kind f_other f_refused f_space f_times) ∧ (¬ r138 = 0 → (F_X10_intAt g_cells x1 (x6 + 1) (fun r156 => (F_X10_intAt g_cells x1 (x6 + 2) (fun r165 => (F_X10_intAt g_cells x1 (x6 + 3) (fun r174 => (F_X10_comes v_stretches f_kind f_other f_space f_times r84 r156 r165 r174 (fun w177_0 w177_1 w177_2 w177_3 w177_4 => (∀ x5_180 : Int32, x5_180 = x5 + 1 → (∀ x6_183 : Int32, x6_183 = x6 + 4 → L_X10_stretches_72 g_cells x1 x2 x3 f_refused post n72 x5_180 x6_183 w177_0 w177_1 w177_2 w177_3 w177_4))))))))))))))))))))))))))))))
def F_X10_stretches (v_stretches : Int32) (g_cells : Nat → Int64) (f_held : Nat → Int32) (f_kind : Nat → Int32) (f_other : Nat → Int32) (f_refused : Nat → Int32) (f_size : Nat → Int32) (f_space : Nat → Int32) (f_times : Nat → Int32) (x1 : Int32) (x2 : Int32) (x3 : Int32) (post : Int32 → Int32 → (Nat → Int32) → (Nat → Int32) → (Nat → Int32) → (Nat → Int32) → (Nat → Int32) → Prop) : Prop := (F_X10_wants f_held x1 (fun r2 => ((r2 = 0 → ((0 ≤ x3 → ((x2 < 0 → (F_X10_no f_refused (-5) (fun r49 w49_0 => post r49 v_stretches f_kind f_other w49_0 f_space f_times))) ∧ (¬ x2 < 0 → (vp_in x1 8 ∧ ((x2 ≤ ((f_size x1.toNatClampNeg) - x3) → (((x3 - x3 / 4 * 4) = 0 → (∃ n72 : Nat, L_X10_stretches_72 g_cells x1 x2 x3 f_refused post n72 0 x2 v_stretches f_kind f_other f_space f_times)) ∧ (¬ (x3 - x3 / 4 * 4) = 0 → (F_X10_no f_refused (-6) (fun r62 w62_0 => post r62 v_stretches f_kind f_other w62_0 f_space f_times))))) ∧ (¬ x2 ≤ ((f_size x1.toNatClampNeg) - x3) → (F_X10_no f_refused (-5) (fun r49 w49_0 => post r49 v_stretches f_kind f_other w49_0 f_space f_times)))))))) ∧ (¬ 0 ≤ x3 → (F_X10_no f_refused (-4) (fun r26 w26_0 => post r26 v_stretches f_kind f_other w26_0 f_space f_times))))) ∧ (¬ r2 = 0 → (F_X10_no f_refused r2 (fun r15 w15_0 => post r15 v_stretches f_kind f_other w15_0 f_space f_times))))))
set_option maxHeartbeats 4000000 in
set_option maxRecDepth 100000 in
theorem w_X10_stretches_72 {l : Launch} {D : va_G} {cI cJ cS : ClassId} {ad adK : Nat → Nat} {a_o a_cells a_held a_kind a_other a_refused a_size a_space a_times : Nat} {z_steps z_speed z_base z_share z_notes z_pitch z_beats z_sort z_shown z_carried z_words z_tell z_was z_kept z_cutSpace z_cutTimes z_cutOff z_trace : Value} {v_cars : Int32} {v_tunes : Int32} {v_along : Int32} {v_near : Int32} {v_borne : Int32} {v_tempo : Int32} {v_seed : Int32} {v_fault : Int32} {v_from : Int32} {v_at : Int32} {v_end : Int32} {v_told : Int32} {v_wrongAt : Int32} {v_culprit : Int32} {v_ran : Int32} {v_isKept : Int32} {g_cells : Nat → Int64} {f_held : Nat → Int32} {f_refused : Nat → Int32} {f_size : Nat → Int32} {x1 : Int32} {x2 : Int32} {x3 : Int32} {post : Int32 → Int32 → (Nat → Int32) → (Nat → Int32) → (Nat → Int32) → (Nat → Int32) → (Nat → Int32) → Prop} {p : Program} {e : Env} {s : State} {m : MethodId} {args : Array Value} {below : List Frame} {meth : Method} {c : Code} {A : Nat → Prop} (S : CallFix p m c cX10_stretches 8 s args GW "RoadThatSingsModel") (hE : EN D cI cJ cS s) (hT : ST ad adK A s s.heap) (hA : ∀ q : Nat, s.heap.size ≤ q → A q) (hr : meth.sig.returnType = (some (.int))) (hlocks : meth.locks = false) : ∀ n : Nat, ∀ (x5 : Int32) (x6 : Int32) (v_stretches : Int32) (f_kind : Nat → Int32) (f_other : Nat → Int32) (f_space : Nat → Int32) (f_times : Nat → Int32) (H : Heap) (locs : List Loc) (ls : Array Slot), L_X10_stretches_72 g_cells x1 x2 x3 f_refused post n x5 x6 v_stretches f_kind f_other f_space f_times → va_P D vwCl (wX10_stretches cI cJ cS a_o a_cells a_held a_kind a_other a_refused a_size a_space a_times z_steps z_speed z_base z_share z_notes z_pitch z_beats z_sort z_shown z_carried z_words z_tell z_was z_kept z_cutSpace z_cutTimes z_cutOff z_trace v_stretches v_cars v_tunes v_along v_near v_borne v_tempo v_seed v_fault v_from v_at v_end v_told v_wrongAt v_culprit v_ran v_isKept g_cells f_held f_kind f_other f_refused f_size f_space f_times) H → va_D A (wX10_stretches cI cJ cS a_o a_cells a_held a_kind a_other a_refused a_size a_space a_times z_steps z_speed z_base z_share z_notes z_pitch z_beats z_sort z_shown z_carried z_words z_tell z_was z_kept z_cutSpace z_cutTimes z_cutOff z_trace v_stretches v_cars v_tunes v_along v_near v_borne v_tempo v_seed v_fault v_from v_at v_end v_told v_wrongAt v_culprit v_ran v_isKept g_cells f_held f_kind f_other f_refused f_size f_space f_times) → va_S A s.heap H locs → lv_has ls 8 [(0, .ref a_o), (1, .int x1), (2, .int x2), (3, .int x3), (5, .int x5), (6, .int x6)] → W p l e (rmd 2 0 0) s m args below meth c H locs 0 0 (MQ below (va_Qi (fun r (u : Int32 × (Nat → Int32) × (Nat → Int32) × (Nat → Int32) × (Nat → Int32) × (Nat → Int32)) => post r u.1 u.2.1 u.2.2.1 u.2.2.2.1 u.2.2.2.2.1 u.2.2.2.2.2) (fun u t => va_P D vwCl (wX10_stretches cI cJ cS a_o a_cells a_held a_kind a_other a_refused a_size a_space a_times z_steps z_speed z_base z_share z_notes z_pitch z_beats z_sort z_shown z_carried z_words z_tell z_was z_kept z_cutSpace z_cutTimes z_cutOff z_trace u.1 v_cars v_tunes v_along v_near v_borne v_tempo v_seed v_fault v_from v_at v_end v_told v_wrongAt v_culprit v_ran v_isKept g_cells f_held u.2.1 u.2.2.1 u.2.2.2.1 f_size u.2.2.2.2.1 u.2.2.2.2.2) t.heap) A) args s 0 0 A) (F0 m 72 ls []) := by
  intro n
  induction n with
  | zero =>
    intro x5 x6 v_stretches f_kind f_other f_space f_times H locs ls h hP hD hS hl
    exact h.elim
  | succ n ih =>
    intro x5 x6 v_stretches f_kind f_other f_space f_times H locs ls h hP hD hS hl
    rw [L_X10_stretches_72] at h
    have hx := S.1
    have hb := S.2.1
    refine lv_iload hx hb dX10_stretches_72 (lv_at hl 5 rfl) ?_
    refine lv_iload_n hx hb dX10_stretches_74 rfl (lv_at hl 2 rfl) ?_
    refine lv_iload_n hx hb dX10_stretches_75 rfl (lv_at hl 3 rfl) ?_
    refine lv_iadd hx hb dX10_stretches_76 ?_
    refine lv_icmp_ge (tgt := 189) hx hb dX10_stretches_77 (by decide) (fun hc => ?_) (fun hc => ?_)
    · have h := h.1 hc
      refine lv_iload hx hb dX10_stretches_189 (lv_at hl 4 rfl) ?_
      exact W.iret hx hb hr (fun t ht _ => ⟨⟨_, (v_stretches, f_kind, f_other, f_refused, f_space, f_times), rfl, h, hPt hP ht⟩, hS.F ht⟩) hS.2.2 dX10_stretches_191
    have h := h.2 hc
    refine lv_aload_n hx hb dX10_stretches_80 rfl (lv_at hl 0 rfl) ?_
    refine lv_iload_n hx hb dX10_stretches_81 rfl (lv_at hl 1 rfl) ?_
    refine lv_iload hx hb dX10_stretches_82 (lv_at hl 5 rfl) ?_
    refine ro_i (roV S hE hT hS (c_X10_intAt h) lkX10_145 rfl ⟨(Nat.le_of_ble_eq_true rfl), (Nat.le_of_ble_eq_true rfl)⟩ (hP.sub [0, 1] rfl) 0 rfl rfl hl.1 rfl (Nat.le_of_ble_eq_true rfl) dX10_stretches_84 ⟨(Nat.zero_le _), (Nat.zero_le _)⟩) (fun r84 h => ?_)
    refine lv_istore (lv' := [(7, .int r84), (0, .ref a_o), (1, .int x1), (2, .int x2), (3, .int x3), (5, .int x5), (6, .int x6)]) hx hb dX10_stretches_87 hl (by decide) rfl (fun ls hl => ?_)
    refine lv_aload_n hx hb dX10_stretches_89 rfl (lv_at hl 1 rfl) ?_
    refine gf S hE hP 0 rfl rfl inX10 (k := 0) (by decide) q1093 rfl dX10_stretches_90 ?_
    refine lv_bipush (v := 16) hx hb dX10_stretches_93 (by decide) ?_
    refine lv_icmp_eq (tgt := 144) hx hb dX10_stretches_95 (by decide) (fun hc => ?_) (fun hc => ?_)
    · have h := h.1 hc
      refine lv_iload hx hb dX10_stretches_144 (lv_at hl 5 rfl) ?_
      exact W.iret hx hb hr (fun t ht _ => ⟨⟨_, (v_stretches, f_kind, f_other, f_refused, f_space, f_times), rfl, h, hPt hP ht⟩, hS.F ht⟩) hS.2.2 dX10_stretches_146
    have h := h.2 hc
    refine lv_iload hx hb dX10_stretches_98 (lv_at hl 0 rfl) ?_
    refine lv_if_lt (tgt := 144) hx hb dX10_stretches_100 (by decide) (fun hc => ?_) (fun hc => ?_)
    · have h := h.1 hc
      refine lv_iload hx hb dX10_stretches_144 (lv_at hl 5 rfl) ?_
      exact W.iret hx hb hr (fun t ht _ => ⟨⟨_, (v_stretches, f_kind, f_other, f_refused, f_space, f_times), rfl, h, hPt hP ht⟩, hS.F ht⟩) hS.2.2 dX10_stretches_146
    have h := h.2 hc
    refine lv_iload hx hb dX10_stretches_103 (lv_at hl 0 rfl) ?_
    refine lv_bipush (v := 6) hx hb dX10_stretches_105 (by decide) ?_
    refine lv_icmp_gt (tgt := 144) hx hb dX10_stretches_107 (by decide) (fun hc => ?_) (fun hc => ?_)
    · have h := h.1 hc
      refine lv_iload hx hb dX10_stretches_144 (lv_at hl 5 rfl) ?_
      exact W.iret hx hb hr (fun t ht _ => ⟨⟨_, (v_stretches, f_kind, f_other, f_refused, f_space, f_times), rfl, h, hPt hP ht⟩, hS.F ht⟩) hS.2.2 dX10_stretches_146
    have h := h.2 hc
    refine lv_aload_n hx hb dX10_stretches_110 rfl (lv_at hl 1 rfl) ?_
    refine lv_aload_n hx hb dX10_stretches_111 rfl (lv_at hl 1 rfl) ?_
    refine lv_iload_n hx hb dX10_stretches_112 rfl (lv_at hl 2 rfl) ?_
    refine lv_iload hx hb dX10_stretches_113 (lv_at hl 6 rfl) ?_
    refine lv_iconst (v := 1) hx hb dX10_stretches_115 (by decide) ?_
    refine lv_iadd hx hb dX10_stretches_116 ?_
    refine ro_i (roV S hE hT hS (c_X10_intAt h) lkX10_145 rfl ⟨(Nat.le_of_ble_eq_true rfl), (Nat.le_of_ble_eq_true rfl)⟩ (hP.sub [0, 1] rfl) 0 rfl rfl hl.1 rfl (Nat.le_of_ble_eq_true rfl) dX10_stretches_117 ⟨(Nat.zero_le _), (Nat.zero_le _)⟩) (fun r117 h => ?_)
    refine lv_aload_n hx hb dX10_stretches_120 rfl (lv_at hl 1 rfl) ?_
    refine lv_iload_n hx hb dX10_stretches_121 rfl (lv_at hl 2 rfl) ?_
    refine lv_iload hx hb dX10_stretches_122 (lv_at hl 6 rfl) ?_
    refine lv_iconst (v := 2) hx hb dX10_stretches_124 (by decide) ?_
    refine lv_iadd hx hb dX10_stretches_125 ?_
    refine ro_i (roV S hE hT hS (c_X10_intAt h) lkX10_145 rfl ⟨(Nat.le_of_ble_eq_true rfl), (Nat.le_of_ble_eq_true rfl)⟩ (hP.sub [0, 1] rfl) 0 rfl rfl hl.1 rfl (Nat.le_of_ble_eq_true rfl) dX10_stretches_126 ⟨(Nat.zero_le _), (Nat.zero_le _)⟩) (fun r126 h => ?_)
    refine lv_aload_n hx hb dX10_stretches_129 rfl (lv_at hl 1 rfl) ?_
    refine lv_iload_n hx hb dX10_stretches_130 rfl (lv_at hl 2 rfl) ?_
    refine lv_iload hx hb dX10_stretches_131 (lv_at hl 6 rfl) ?_
    refine lv_iconst (v := 3) hx hb dX10_stretches_133 (by decide) ?_
    refine lv_iadd hx hb dX10_stretches_134 ?_
    refine ro_i (roV S hE hT hS (c_X10_intAt h) lkX10_145 rfl ⟨(Nat.le_of_ble_eq_true rfl), (Nat.le_of_ble_eq_true rfl)⟩ (hP.sub [0, 1] rfl) 0 rfl rfl hl.1 rfl (Nat.le_of_ble_eq_true rfl) dX10_stretches_135 ⟨(Nat.zero_le _), (Nat.zero_le _)⟩) (fun r135 h => ?_)
    refine ro_i (roV S hE hT hS (c_X10_isSo h) lkX10_134 rfl ⟨(Nat.le_of_ble_eq_true rfl), (Nat.le_of_ble_eq_true rfl)⟩ (hP.sub [0] rfl) 0 rfl rfl hl.1 rfl (Nat.le_of_ble_eq_true rfl) dX10_stretches_138 ⟨(Nat.zero_le _), (Nat.zero_le _)⟩) (fun r138 h => ?_)
    refine lv_if_ne (tgt := 147) hx hb dX10_stretches_141 (by decide) (fun hc => ?_) (fun hc => ?_)
    · have h := h.2 hc
      refine lv_aload_n hx hb dX10_stretches_147 rfl (lv_at hl 1 rfl) ?_
      refine lv_iload hx hb dX10_stretches_148 (lv_at hl 0 rfl) ?_
      refine lv_aload_n hx hb dX10_stretches_150 rfl (lv_at hl 1 rfl) ?_
      refine lv_iload_n hx hb dX10_stretches_151 rfl (lv_at hl 2 rfl) ?_
      refine lv_iload hx hb dX10_stretches_152 (lv_at hl 6 rfl) ?_
      refine lv_iconst (v := 1) hx hb dX10_stretches_154 (by decide) ?_
      refine lv_iadd hx hb dX10_stretches_155 ?_
      refine ro_i (roV S hE hT hS (c_X10_intAt h) lkX10_145 rfl ⟨(Nat.le_of_ble_eq_true rfl), (Nat.le_of_ble_eq_true rfl)⟩ (hP.sub [0, 1] rfl) 0 rfl rfl hl.1 rfl (Nat.le_of_ble_eq_true rfl) dX10_stretches_156 ⟨(Nat.zero_le _), (Nat.zero_le _)⟩) (fun r156 h => ?_)
      refine lv_aload_n hx hb dX10_stretches_159 rfl (lv_at hl 1 rfl) ?_
      refine lv_iload_n hx hb dX10_stretches_160 rfl (lv_at hl 2 rfl) ?_
      refine lv_iload hx hb dX10_stretches_161 (lv_at hl 6 rfl) ?_
      refine lv_iconst (v := 2) hx hb dX10_stretches_163 (by decide) ?_
      refine lv_iadd hx hb dX10_stretches_164 ?_
      refine ro_i (roV S hE hT hS (c_X10_intAt h) lkX10_145 rfl ⟨(Nat.le_of_ble_eq_true rfl), (Nat.le_of_ble_eq_true rfl)⟩ (hP.sub [0, 1] rfl) 0 rfl rfl hl.1 rfl (Nat.le_of_ble_eq_true rfl) dX10_stretches_165 ⟨(Nat.zero_le _), (Nat.zero_le _)⟩) (fun r165 h => ?_)
      refine lv_aload_n hx hb dX10_stretches_168 rfl (lv_at hl 1 rfl) ?_
      refine lv_iload_n hx hb dX10_stretches_169 rfl (lv_at hl 2 rfl) ?_
      refine lv_iload hx hb dX10_stretches_170 (lv_at hl 6 rfl) ?_
      refine lv_iconst (v := 3) hx hb dX10_stretches_172 (by decide) ?_
      refine lv_iadd hx hb dX10_stretches_173 ?_
      refine ro_i (roV S hE hT hS (c_X10_intAt h) lkX10_145 rfl ⟨(Nat.le_of_ble_eq_true rfl), (Nat.le_of_ble_eq_true rfl)⟩ (hP.sub [0, 1] rfl) 0 rfl rfl hl.1 rfl (Nat.le_of_ble_eq_true rfl) dX10_stretches_174 ⟨(Nat.zero_le _), (Nat.zero_le _)⟩) (fun r174 h => ?_)
      refine rw_v (rwV S hE hT hS hP hD hA (c_X10_comes h) [0, 3, 4, 7, 8] rfl (by decide) lkX10_138 rfl ⟨(Nat.le_of_ble_eq_true rfl), (Nat.le_of_ble_eq_true rfl)⟩ 0 rfl rfl hl.1 rfl (Nat.le_of_ble_eq_true rfl) dX10_stretches_177 ⟨(Nat.zero_le _), (Nat.zero_le _)⟩) hP hD hS hA [0, 3, 4, 7, 8] rfl (by decide) (fun _ => rfl) (fun u177 H locs h hP hD hS => ?_)
      obtain ⟨w177_0, w177_1, w177_2, w177_3, w177_4⟩ := u177
      try dsimp only at h
      have hP : va_P D vwCl (wX10_stretches cI cJ cS a_o a_cells a_held a_kind a_other a_refused a_size a_space a_times z_steps z_speed z_base z_share z_notes z_pitch z_beats z_sort z_shown z_carried z_words z_tell z_was z_kept z_cutSpace z_cutTimes z_cutOff z_trace w177_0 v_cars v_tunes v_along v_near v_borne v_tempo v_seed v_fault v_from v_at v_end v_told v_wrongAt v_culprit v_ran v_isKept g_cells f_held w177_1 w177_2 f_refused f_size w177_3 w177_4) H := hP
      have hD : va_D A (wX10_stretches cI cJ cS a_o a_cells a_held a_kind a_other a_refused a_size a_space a_times z_steps z_speed z_base z_share z_notes z_pitch z_beats z_sort z_shown z_carried z_words z_tell z_was z_kept z_cutSpace z_cutTimes z_cutOff z_trace w177_0 v_cars v_tunes v_along v_near v_borne v_tempo v_seed v_fault v_from v_at v_end v_told v_wrongAt v_culprit v_ran v_isKept g_cells f_held w177_1 w177_2 f_refused f_size w177_3 w177_4) := hD
      obtain ⟨x5_180, ex5_180⟩ : ∃ z : Int32, z = x5 + 1 := ⟨_, rfl⟩
      have h := h _ ex5_180
      refine lv_iinc (v := x5_180) (lv' := [(5, .int x5_180), (7, .int r84), (0, .ref a_o), (1, .int x1), (2, .int x2), (3, .int x3), (6, .int x6)]) hx hb dX10_stretches_180 hl (k := 5) rfl (by rw [ex5_180]; rfl) (by decide) rfl (fun ls hl => ?_)
      obtain ⟨x6_183, ex6_183⟩ : ∃ z : Int32, z = x6 + 4 := ⟨_, rfl⟩
      have h := h _ ex6_183
      refine lv_iinc (v := x6_183) (lv' := [(6, .int x6_183), (5, .int x5_180), (7, .int r84), (0, .ref a_o), (1, .int x1), (2, .int x2), (3, .int x3)]) hx hb dX10_stretches_183 hl (k := 6) rfl (by rw [ex6_183]; rfl) (by decide) rfl (fun ls hl => ?_)
      refine lv_goto (tgt := 72) hx hb dX10_stretches_186 (by decide) ?_
      exact ih _ _ _ _ _ _ _ _ _ _ h hP hD hS (lv_sub hl [3, 4, 5, 6, 1, 0] rfl)
    have h := h.1 hc
    refine lv_iload hx hb dX10_stretches_144 (lv_at hl 5 rfl) ?_
    exact W.iret hx hb hr (fun t ht _ => ⟨⟨_, (v_stretches, f_kind, f_other, f_refused, f_space, f_times), rfl, h, hPt hP ht⟩, hS.F ht⟩) hS.2.2 dX10_stretches_146
set_option maxHeartbeats 4000000 in
set_option maxRecDepth 100000 in
theorem c_X10_stretches {l : Launch} {D : va_G} {cI cJ cS : ClassId} {ad adK : Nat → Nat} {a_o a_cells a_held a_kind a_other a_refused a_size a_space a_times : Nat} {z_steps z_speed z_base z_share z_notes z_pitch z_beats z_sort z_shown z_carried z_words z_tell z_was z_kept z_cutSpace z_cutTimes z_cutOff z_trace : Value} {v_stretches : Int32} {v_cars : Int32} {v_tunes : Int32} {v_along : Int32} {v_near : Int32} {v_borne : Int32} {v_tempo : Int32} {v_seed : Int32} {v_fault : Int32} {v_from : Int32} {v_at : Int32} {v_end : Int32} {v_told : Int32} {v_wrongAt : Int32} {v_culprit : Int32} {v_ran : Int32} {v_isKept : Int32} {g_cells : Nat → Int64} {f_held : Nat → Int32} {f_kind : Nat → Int32} {f_other : Nat → Int32} {f_refused : Nat → Int32} {f_size : Nat → Int32} {f_space : Nat → Int32} {f_times : Nat → Int32} {x1 : Int32} {x2 : Int32} {x3 : Int32} {post : Int32 → Int32 → (Nat → Int32) → (Nat → Int32) → (Nat → Int32) → (Nat → Int32) → (Nat → Int32) → Prop} (h : F_X10_stretches v_stretches g_cells f_held f_kind f_other f_refused f_size f_space f_times x1 x2 x3 post) {sz : Nat} : Met l yX10_stretches (Cond.code yX10_stretches cX10_stretches 8 (some (.int)) :: GW) (rmd 2 0 0) (PW D cI cJ cS ad adK [.ref a_o, .int x1, .int x2, .int x3] (wX10_stretches cI cJ cS a_o a_cells a_held a_kind a_other a_refused a_size a_space a_times z_steps z_speed z_base z_share z_notes z_pitch z_beats z_sort z_shown z_carried z_words z_tell z_was z_kept z_cutSpace z_cutTimes z_cutOff z_trace v_stretches v_cars v_tunes v_along v_near v_borne v_tempo v_seed v_fault v_from v_at v_end v_told v_wrongAt v_culprit v_ran v_isKept g_cells f_held f_kind f_other f_refused f_size f_space f_times) sz) (va_Qi (fun r (u : Int32 × (Nat → Int32) × (Nat → Int32) × (Nat → Int32) × (Nat → Int32) × (Nat → Int32)) => post r u.1 u.2.1 u.2.2.1 u.2.2.2.1 u.2.2.2.2.1 u.2.2.2.2.2) (fun u t => va_P D vwCl (wX10_stretches cI cJ cS a_o a_cells a_held a_kind a_other a_refused a_size a_space a_times z_steps z_speed z_base z_share z_notes z_pitch z_beats z_sort z_shown z_carried z_words z_tell z_was z_kept z_cutSpace z_cutTimes z_cutOff z_trace u.1 v_cars v_tunes v_along v_near v_borne v_tempo v_seed v_fault v_from v_at v_end v_told v_wrongAt v_culprit v_ran v_isKept g_cells f_held u.2.1 u.2.2.1 u.2.2.2.1 f_size u.2.2.2.2.1 u.2.2.2.2.2) t.heap) (va_A (wX10_stretches cI cJ cS a_o a_cells a_held a_kind a_other a_refused a_size a_space a_times z_steps z_speed z_base z_share z_notes z_pitch z_beats z_sort z_shown z_carried z_words z_tell z_was z_kept z_cutSpace z_cutTimes z_cutOff z_trace v_stretches v_cars v_tunes v_along v_near v_borne v_tempo v_seed v_fault v_from v_at v_end v_told v_wrongAt v_culprit v_ran v_isKept g_cells f_held f_kind f_other f_refused f_size f_space f_times) sz)) 0 0 (va_A (wX10_stretches cI cJ cS a_o a_cells a_held a_kind a_other a_refused a_size a_space a_times z_steps z_speed z_base z_share z_notes z_pitch z_beats z_sort z_shown z_carried z_words z_tell z_was z_kept z_cutSpace z_cutTimes z_cutOff z_trace v_stretches v_cars v_tunes v_along v_near v_borne v_tempo v_seed v_fault v_from v_at v_end v_told v_wrongAt v_culprit v_ran v_isKept g_cells f_held f_kind f_other f_refused f_size f_space f_times) sz) := by
  refine Met.rw (Qc := fun A => (va_Qi (fun r (u : Int32 × (Nat → Int32) × (Nat → Int32) × (Nat → Int32) × (Nat → Int32) × (Nat → Int32)) => post r u.1 u.2.1 u.2.2.1 u.2.2.2.1 u.2.2.2.2.1 u.2.2.2.2.2) (fun u t => va_P D vwCl (wX10_stretches cI cJ cS a_o a_cells a_held a_kind a_other a_refused a_size a_space a_times z_steps z_speed z_base z_share z_notes z_pitch z_beats z_sort z_shown z_carried z_words z_tell z_was z_kept z_cutSpace z_cutTimes z_cutOff z_trace u.1 v_cars v_tunes v_along v_near v_borne v_tempo v_seed v_fault v_from v_at v_end v_told v_wrongAt v_culprit v_ran v_isKept g_cells f_held u.2.1 u.2.2.1 u.2.2.2.1 f_size u.2.2.2.2.1 u.2.2.2.2.2) t.heap) A)) (by decide) (Nat.le_of_ble_eq_true rfl) (fun p e s m args below meth c ls A (S : CallFix p m c cX10_stretches 8 s args GW "RoadThatSingsModel") hE hT hP hD hA hS hr hlocks hname hl => ?_)
  have hS0 := hS
  have hx := S.1
  have hb := S.2.1
  have hl : lv_has ls 8 [(0, .ref a_o), (1, .int x1), (2, .int x2), (3, .int x3)] := hl
  unfold F_X10_stretches at h
  refine lv_aload_n hx hb dX10_stretches_0 rfl (lv_at hl 0 rfl) ?_
  refine lv_iload_n hx hb dX10_stretches_1 rfl (lv_at hl 1 rfl) ?_
  refine ro_i (roV S hE hT hS (c_X10_wants h) lkX10_142 rfl ⟨(Nat.le_of_ble_eq_true rfl), (Nat.le_of_ble_eq_true rfl)⟩ (hP.sub [0, 2] rfl) 0 rfl rfl hl.1 rfl (Nat.le_of_ble_eq_true rfl) dX10_stretches_2 ⟨(Nat.zero_le _), (Nat.zero_le _)⟩) (fun r2 h => ?_)
  refine lv_istore (lv' := [(4, .int r2), (0, .ref a_o), (1, .int x1), (2, .int x2), (3, .int x3)]) hx hb dX10_stretches_5 hl (by decide) rfl (fun ls hl => ?_)
  refine lv_iload hx hb dX10_stretches_7 (lv_at hl 0 rfl) ?_
  refine lv_if_eq (tgt := 19) hx hb dX10_stretches_9 (by decide) (fun hc => ?_) (fun hc => ?_)
  · have h := h.1 hc
    refine lv_iload_n hx hb dX10_stretches_19 rfl (lv_at hl 4 rfl) ?_
    refine lv_if_ge (tgt := 30) hx hb dX10_stretches_20 (by decide) (fun hc => ?_) (fun hc => ?_)
    · have h := h.1 hc
      refine lv_iload_n hx hb dX10_stretches_30 rfl (lv_at hl 3 rfl) ?_
      refine lv_if_lt (tgt := 46) hx hb dX10_stretches_31 (by decide) (fun hc => ?_) (fun hc => ?_)
      · have h := h.1 hc
        refine lv_aload_n hx hb dX10_stretches_46 rfl (lv_at hl 1 rfl) ?_
        refine lv_bipush (v := (-5)) hx hb dX10_stretches_47 (by decide) ?_
        refine rw_i (rwV S hE hT hS hP hD hA (c_X10_no h) [0, 5] rfl (by decide) lkX10_121 rfl ⟨(Nat.le_of_ble_eq_true rfl), (Nat.le_of_ble_eq_true rfl)⟩ 0 rfl rfl hl.1 rfl (Nat.le_of_ble_eq_true rfl) dX10_stretches_49 ⟨(Nat.zero_le _), (Nat.zero_le _)⟩) hP hD hS hA [0, 5] rfl (by decide) (fun _ => rfl) (fun r49 w49_0 H locs h hP hD hS => ?_)
        try dsimp only at h
        have hP : va_P D vwCl (wX10_stretches cI cJ cS a_o a_cells a_held a_kind a_other a_refused a_size a_space a_times z_steps z_speed z_base z_share z_notes z_pitch z_beats z_sort z_shown z_carried z_words z_tell z_was z_kept z_cutSpace z_cutTimes z_cutOff z_trace v_stretches v_cars v_tunes v_along v_near v_borne v_tempo v_seed v_fault v_from v_at v_end v_told v_wrongAt v_culprit v_ran v_isKept g_cells f_held f_kind f_other w49_0 f_size f_space f_times) H := hP
        have hD : va_D A (wX10_stretches cI cJ cS a_o a_cells a_held a_kind a_other a_refused a_size a_space a_times z_steps z_speed z_base z_share z_notes z_pitch z_beats z_sort z_shown z_carried z_words z_tell z_was z_kept z_cutSpace z_cutTimes z_cutOff z_trace v_stretches v_cars v_tunes v_along v_near v_borne v_tempo v_seed v_fault v_from v_at v_end v_told v_wrongAt v_culprit v_ran v_isKept g_cells f_held f_kind f_other w49_0 f_size f_space f_times) := hD
        exact W.iret hx hb hr (fun t ht _ => ⟨⟨_, (v_stretches, f_kind, f_other, w49_0, f_space, f_times), rfl, h, hPt hP ht⟩, hS.F ht⟩) hS.2.2 dX10_stretches_52
      have h := h.2 hc
      refine lv_iload_n hx hb dX10_stretches_34 rfl (lv_at hl 3 rfl) ?_
      refine lv_aload_n hx hb dX10_stretches_35 rfl (lv_at hl 1 rfl) ?_
      refine gf S hE hP 0 rfl rfl inX10 (k := 23) (by decide) q1116 rfl dX10_stretches_36 ?_
      refine lv_iload_n hx hb dX10_stretches_39 rfl (lv_at hl 2 rfl) ?_
      obtain ⟨hi, h⟩ := h
      refine ial S hE hP 6 rfl hi dX10_stretches_40 ?_
      refine lv_iload_n hx hb dX10_stretches_41 rfl (lv_at hl 4 rfl) ?_
      refine lv_isub hx hb dX10_stretches_42 ?_
      refine lv_icmp_le (tgt := 53) hx hb dX10_stretches_43 (by decide) (fun hc => ?_) (fun hc => ?_)
      · have h := h.1 hc
        refine lv_iload_n hx hb dX10_stretches_53 rfl (lv_at hl 4 rfl) ?_
        refine lv_iconst (v := 4) hx hb dX10_stretches_54 (by decide) ?_
        refine lv_irem hx hb dX10_stretches_55 (by decide) ?_
        refine lv_if_eq (tgt := 66) hx hb dX10_stretches_56 (by decide) (fun hc => ?_) (fun hc => ?_)
        · have h := h.1 hc
          refine lv_iconst (v := 0) hx hb dX10_stretches_66 (by decide) ?_
          refine lv_istore (lv' := [(5, .int 0), (4, .int r2), (0, .ref a_o), (1, .int x1), (2, .int x2), (3, .int x3)]) hx hb dX10_stretches_67 hl (by decide) rfl (fun ls hl => ?_)
          refine lv_iload_n hx hb dX10_stretches_69 rfl (lv_at hl 4 rfl) ?_
          refine lv_istore (lv' := [(6, .int x2), (5, .int 0), (4, .int r2), (0, .ref a_o), (1, .int x1), (2, .int x2), (3, .int x3)]) hx hb dX10_stretches_70 hl (by decide) rfl (fun ls hl => ?_)
          obtain ⟨n, h⟩ := h
          refine w_X10_stretches_72 S hE hT hA hr hlocks n _ _ _ _ _ _ _ _ _ _ h hP hD hS (lv_sub hl [3, 4, 5, 6, 1, 0] rfl)
        have h := h.2 hc
        refine lv_aload_n hx hb dX10_stretches_59 rfl (lv_at hl 1 rfl) ?_
        refine lv_bipush (v := (-6)) hx hb dX10_stretches_60 (by decide) ?_
        refine rw_i (rwV S hE hT hS hP hD hA (c_X10_no h) [0, 5] rfl (by decide) lkX10_121 rfl ⟨(Nat.le_of_ble_eq_true rfl), (Nat.le_of_ble_eq_true rfl)⟩ 0 rfl rfl hl.1 rfl (Nat.le_of_ble_eq_true rfl) dX10_stretches_62 ⟨(Nat.zero_le _), (Nat.zero_le _)⟩) hP hD hS hA [0, 5] rfl (by decide) (fun _ => rfl) (fun r62 w62_0 H locs h hP hD hS => ?_)
        try dsimp only at h
        have hP : va_P D vwCl (wX10_stretches cI cJ cS a_o a_cells a_held a_kind a_other a_refused a_size a_space a_times z_steps z_speed z_base z_share z_notes z_pitch z_beats z_sort z_shown z_carried z_words z_tell z_was z_kept z_cutSpace z_cutTimes z_cutOff z_trace v_stretches v_cars v_tunes v_along v_near v_borne v_tempo v_seed v_fault v_from v_at v_end v_told v_wrongAt v_culprit v_ran v_isKept g_cells f_held f_kind f_other w62_0 f_size f_space f_times) H := hP
        have hD : va_D A (wX10_stretches cI cJ cS a_o a_cells a_held a_kind a_other a_refused a_size a_space a_times z_steps z_speed z_base z_share z_notes z_pitch z_beats z_sort z_shown z_carried z_words z_tell z_was z_kept z_cutSpace z_cutTimes z_cutOff z_trace v_stretches v_cars v_tunes v_along v_near v_borne v_tempo v_seed v_fault v_from v_at v_end v_told v_wrongAt v_culprit v_ran v_isKept g_cells f_held f_kind f_other w62_0 f_size f_space f_times) := hD
        exact W.iret hx hb hr (fun t ht _ => ⟨⟨_, (v_stretches, f_kind, f_other, w62_0, f_space, f_times), rfl, h, hPt hP ht⟩, hS.F ht⟩) hS.2.2 dX10_stretches_65
      have h := h.2 hc
      refine lv_aload_n hx hb dX10_stretches_46 rfl (lv_at hl 1 rfl) ?_
      refine lv_bipush (v := (-5)) hx hb dX10_stretches_47 (by decide) ?_
      refine rw_i (rwV S hE hT hS hP hD hA (c_X10_no h) [0, 5] rfl (by decide) lkX10_121 rfl ⟨(Nat.le_of_ble_eq_true rfl), (Nat.le_of_ble_eq_true rfl)⟩ 0 rfl rfl hl.1 rfl (Nat.le_of_ble_eq_true rfl) dX10_stretches_49 ⟨(Nat.zero_le _), (Nat.zero_le _)⟩) hP hD hS hA [0, 5] rfl (by decide) (fun _ => rfl) (fun r49 w49_0 H locs h hP hD hS => ?_)
      try dsimp only at h
      have hP : va_P D vwCl (wX10_stretches cI cJ cS a_o a_cells a_held a_kind a_other a_refused a_size a_space a_times z_steps z_speed z_base z_share z_notes z_pitch z_beats z_sort z_shown z_carried z_words z_tell z_was z_kept z_cutSpace z_cutTimes z_cutOff z_trace v_stretches v_cars v_tunes v_along v_near v_borne v_tempo v_seed v_fault v_from v_at v_end v_told v_wrongAt v_culprit v_ran v_isKept g_cells f_held f_kind f_other w49_0 f_size f_space f_times) H := hP
      have hD : va_D A (wX10_stretches cI cJ cS a_o a_cells a_held a_kind a_other a_refused a_size a_space a_times z_steps z_speed z_base z_share z_notes z_pitch z_beats z_sort z_shown z_carried z_words z_tell z_was z_kept z_cutSpace z_cutTimes z_cutOff z_trace v_stretches v_cars v_tunes v_along v_near v_borne v_tempo v_seed v_fault v_from v_at v_end v_told v_wrongAt v_culprit v_ran v_isKept g_cells f_held f_kind f_other w49_0 f_size f_space f_times) := hD
      exact W.iret hx hb hr (fun t ht _ => ⟨⟨_, (v_stretches, f_kind, f_other, w49_0, f_space, f_times), rfl, h, hPt hP ht⟩, hS.F ht⟩) hS.2.2 dX10_stretches_52
    have h := h.2 hc
    refine lv_aload_n hx hb dX10_stretches_23 rfl (lv_at hl 1 rfl) ?_
    refine lv_bipush (v := (-4)) hx hb dX10_stretches_24 (by decide) ?_
    refine rw_i (rwV S hE hT hS hP hD hA (c_X10_no h) [0, 5] rfl (by decide) lkX10_121 rfl ⟨(Nat.le_of_ble_eq_true rfl), (Nat.le_of_ble_eq_true rfl)⟩ 0 rfl rfl hl.1 rfl (Nat.le_of_ble_eq_true rfl) dX10_stretches_26 ⟨(Nat.zero_le _), (Nat.zero_le _)⟩) hP hD hS hA [0, 5] rfl (by decide) (fun _ => rfl) (fun r26 w26_0 H locs h hP hD hS => ?_)
    try dsimp only at h
    have hP : va_P D vwCl (wX10_stretches cI cJ cS a_o a_cells a_held a_kind a_other a_refused a_size a_space a_times z_steps z_speed z_base z_share z_notes z_pitch z_beats z_sort z_shown z_carried z_words z_tell z_was z_kept z_cutSpace z_cutTimes z_cutOff z_trace v_stretches v_cars v_tunes v_along v_near v_borne v_tempo v_seed v_fault v_from v_at v_end v_told v_wrongAt v_culprit v_ran v_isKept g_cells f_held f_kind f_other w26_0 f_size f_space f_times) H := hP
    have hD : va_D A (wX10_stretches cI cJ cS a_o a_cells a_held a_kind a_other a_refused a_size a_space a_times z_steps z_speed z_base z_share z_notes z_pitch z_beats z_sort z_shown z_carried z_words z_tell z_was z_kept z_cutSpace z_cutTimes z_cutOff z_trace v_stretches v_cars v_tunes v_along v_near v_borne v_tempo v_seed v_fault v_from v_at v_end v_told v_wrongAt v_culprit v_ran v_isKept g_cells f_held f_kind f_other w26_0 f_size f_space f_times) := hD
    exact W.iret hx hb hr (fun t ht _ => ⟨⟨_, (v_stretches, f_kind, f_other, w26_0, f_space, f_times), rfl, h, hPt hP ht⟩, hS.F ht⟩) hS.2.2 dX10_stretches_29
  have h := h.2 hc
  refine lv_aload_n hx hb dX10_stretches_12 rfl (lv_at hl 1 rfl) ?_
  refine lv_iload hx hb dX10_stretches_13 (lv_at hl 0 rfl) ?_
  refine rw_i (rwV S hE hT hS hP hD hA (c_X10_no h) [0, 5] rfl (by decide) lkX10_121 rfl ⟨(Nat.le_of_ble_eq_true rfl), (Nat.le_of_ble_eq_true rfl)⟩ 0 rfl rfl hl.1 rfl (Nat.le_of_ble_eq_true rfl) dX10_stretches_15 ⟨(Nat.zero_le _), (Nat.zero_le _)⟩) hP hD hS hA [0, 5] rfl (by decide) (fun _ => rfl) (fun r15 w15_0 H locs h hP hD hS => ?_)
  try dsimp only at h
  have hP : va_P D vwCl (wX10_stretches cI cJ cS a_o a_cells a_held a_kind a_other a_refused a_size a_space a_times z_steps z_speed z_base z_share z_notes z_pitch z_beats z_sort z_shown z_carried z_words z_tell z_was z_kept z_cutSpace z_cutTimes z_cutOff z_trace v_stretches v_cars v_tunes v_along v_near v_borne v_tempo v_seed v_fault v_from v_at v_end v_told v_wrongAt v_culprit v_ran v_isKept g_cells f_held f_kind f_other w15_0 f_size f_space f_times) H := hP
  have hD : va_D A (wX10_stretches cI cJ cS a_o a_cells a_held a_kind a_other a_refused a_size a_space a_times z_steps z_speed z_base z_share z_notes z_pitch z_beats z_sort z_shown z_carried z_words z_tell z_was z_kept z_cutSpace z_cutTimes z_cutOff z_trace v_stretches v_cars v_tunes v_along v_near v_borne v_tempo v_seed v_fault v_from v_at v_end v_told v_wrongAt v_culprit v_ran v_isKept g_cells f_held f_kind f_other w15_0 f_size f_space f_times) := hD
  exact W.iret hx hb hr (fun t ht _ => ⟨⟨_, (v_stretches, f_kind, f_other, w15_0, f_space, f_times), rfl, h, hPt hP ht⟩, hS.F ht⟩) hS.2.2 dX10_stretches_18
/-! X10_stretchOf -/
abbrev wX10_stretchOf (cI cJ cS : ClassId) (a_o a_kind a_other a_refused a_space a_times : Nat) (z_steps z_speed z_base z_share z_notes z_pitch z_beats z_held z_sort z_size z_shown z_cells z_carried z_words z_tell z_was z_kept z_cutSpace z_cutTimes z_cutOff z_trace : Value) (v_stretches : Int32) (v_cars : Int32) (v_tunes : Int32) (v_along : Int32) (v_near : Int32) (v_borne : Int32) (v_tempo : Int32) (v_seed : Int32) (v_fault : Int32) (v_from : Int32) (v_at : Int32) (v_end : Int32) (v_told : Int32) (v_wrongAt : Int32) (v_culprit : Int32) (v_ran : Int32) (v_isKept : Int32) (f_kind : Nat → Int32) (f_other : Nat → Int32) (f_refused : Nat → Int32) (f_space : Nat → Int32) (f_times : Nat → Int32) : va_W := [(a_o, .inr (9, [.int v_stretches, .int v_cars, .int v_tunes, .int v_along, .int v_near, .int v_borne, .int v_tempo, .int v_seed, .int v_fault, .ref a_refused, z_steps, .ref a_kind, .ref a_space, .ref a_other, .ref a_times, z_speed, z_base, z_share, z_notes, z_pitch, z_beats, z_held, z_sort, z_size, z_shown, z_cells, z_carried, z_words, z_tell, .int v_from, .int v_at, .int v_end, .int v_told, .int v_wrongAt, z_was, z_kept, .int v_culprit, z_cutSpace, z_cutTimes, z_cutOff, z_trace, .int v_ran, .int v_isKept])), (a_kind, .inl (cI, 16, .inl f_kind)), (a_other, .inl (cI, 16, .inl f_other)), (a_refused, .inl (cI, 8, .inl f_refused)), (a_space, .inl (cI, 16, .inl f_space)), (a_times, .inl (cI, 16, .inl f_times))]
def F_X10_stretchOf (v_stretches : Int32) (f_kind : Nat → Int32) (f_other : Nat → Int32) (f_refused : Nat → Int32) (f_space : Nat → Int32) (f_times : Nat → Int32) (x1 : Int32) (x2 : Int32) (post : Int32 → (Nat → Int32) → Prop) : Prop := (F_X10_isStretch v_stretches x1 (fun r2 => ((r2 = 0 → (F_X10_no f_refused (-5) (fun r20 w20_0 => post r20 w20_0))) ∧ (¬ r2 = 0 → ((x2 < 0 → (F_X10_no f_refused (-5) (fun r20 w20_0 => post r20 w20_0))) ∧ (¬ x2 < 0 → ((x2 ≤ 4 → ((x2 = 0 → (vp_in x1 16 ∧ post (f_kind x1.toNatClampNeg) f_refused)) ∧ (¬ x2 = 0 → ((x2 = 1 → (vp_in x1 16 ∧ post (f_space x1.toNatClampNeg) f_refused)) ∧ (¬ x2 = 1 → ((x2 = 2 → (vp_in x1 16 ∧ post (f_other x1.toNatClampNeg) f_refused)) ∧ (¬ x2 = 2 → ((x2 = 3 → (vp_in x1 16 ∧ post (f_times x1.toNatClampNeg) f_refused)) ∧ (¬ x2 = 3 → (F_X10_lengthOf f_kind f_other f_space f_times x1 (fun r81 => post r81 f_refused))))))))))) ∧ (¬ x2 ≤ 4 → (F_X10_no f_refused (-5) (fun r20 w20_0 => post r20 w20_0))))))))))
set_option maxHeartbeats 4000000 in
set_option maxRecDepth 100000 in
theorem c_X10_stretchOf {l : Launch} {D : va_G} {cI cJ cS : ClassId} {ad adK : Nat → Nat} {a_o a_kind a_other a_refused a_space a_times : Nat} {z_steps z_speed z_base z_share z_notes z_pitch z_beats z_held z_sort z_size z_shown z_cells z_carried z_words z_tell z_was z_kept z_cutSpace z_cutTimes z_cutOff z_trace : Value} {v_stretches : Int32} {v_cars : Int32} {v_tunes : Int32} {v_along : Int32} {v_near : Int32} {v_borne : Int32} {v_tempo : Int32} {v_seed : Int32} {v_fault : Int32} {v_from : Int32} {v_at : Int32} {v_end : Int32} {v_told : Int32} {v_wrongAt : Int32} {v_culprit : Int32} {v_ran : Int32} {v_isKept : Int32} {f_kind : Nat → Int32} {f_other : Nat → Int32} {f_refused : Nat → Int32} {f_space : Nat → Int32} {f_times : Nat → Int32} {x1 : Int32} {x2 : Int32} {post : Int32 → (Nat → Int32) → Prop} (h : F_X10_stretchOf v_stretches f_kind f_other f_refused f_space f_times x1 x2 post) {sz : Nat} : Met l yX10_stretchOf (Cond.code yX10_stretchOf cX10_stretchOf 3 (some (.int)) :: GW) (rmd 2 0 0) (PW D cI cJ cS ad adK [.ref a_o, .int x1, .int x2] (wX10_stretchOf cI cJ cS a_o a_kind a_other a_refused a_space a_times z_steps z_speed z_base z_share z_notes z_pitch z_beats z_held z_sort z_size z_shown z_cells z_carried z_words z_tell z_was z_kept z_cutSpace z_cutTimes z_cutOff z_trace v_stretches v_cars v_tunes v_along v_near v_borne v_tempo v_seed v_fault v_from v_at v_end v_told v_wrongAt v_culprit v_ran v_isKept f_kind f_other f_refused f_space f_times) sz) (va_Qi (fun r (u : (Nat → Int32)) => post r u) (fun u t => va_P D vwCl (wX10_stretchOf cI cJ cS a_o a_kind a_other a_refused a_space a_times z_steps z_speed z_base z_share z_notes z_pitch z_beats z_held z_sort z_size z_shown z_cells z_carried z_words z_tell z_was z_kept z_cutSpace z_cutTimes z_cutOff z_trace v_stretches v_cars v_tunes v_along v_near v_borne v_tempo v_seed v_fault v_from v_at v_end v_told v_wrongAt v_culprit v_ran v_isKept f_kind f_other u f_space f_times) t.heap) (va_A (wX10_stretchOf cI cJ cS a_o a_kind a_other a_refused a_space a_times z_steps z_speed z_base z_share z_notes z_pitch z_beats z_held z_sort z_size z_shown z_cells z_carried z_words z_tell z_was z_kept z_cutSpace z_cutTimes z_cutOff z_trace v_stretches v_cars v_tunes v_along v_near v_borne v_tempo v_seed v_fault v_from v_at v_end v_told v_wrongAt v_culprit v_ran v_isKept f_kind f_other f_refused f_space f_times) sz)) 0 0 (va_A (wX10_stretchOf cI cJ cS a_o a_kind a_other a_refused a_space a_times z_steps z_speed z_base z_share z_notes z_pitch z_beats z_held z_sort z_size z_shown z_cells z_carried z_words z_tell z_was z_kept z_cutSpace z_cutTimes z_cutOff z_trace v_stretches v_cars v_tunes v_along v_near v_borne v_tempo v_seed v_fault v_from v_at v_end v_told v_wrongAt v_culprit v_ran v_isKept f_kind f_other f_refused f_space f_times) sz) := by
  refine Met.rw (Qc := fun A => (va_Qi (fun r (u : (Nat → Int32)) => post r u) (fun u t => va_P D vwCl (wX10_stretchOf cI cJ cS a_o a_kind a_other a_refused a_space a_times z_steps z_speed z_base z_share z_notes z_pitch z_beats z_held z_sort z_size z_shown z_cells z_carried z_words z_tell z_was z_kept z_cutSpace z_cutTimes z_cutOff z_trace v_stretches v_cars v_tunes v_along v_near v_borne v_tempo v_seed v_fault v_from v_at v_end v_told v_wrongAt v_culprit v_ran v_isKept f_kind f_other u f_space f_times) t.heap) A)) (by decide) (Nat.le_of_ble_eq_true rfl) (fun p e s m args below meth c ls A (S : CallFix p m c cX10_stretchOf 3 s args GW "RoadThatSingsModel") hE hT hP hD hA hS hr hlocks hname hl => ?_)
  have hS0 := hS
  have hx := S.1
  have hb := S.2.1
  have hl : lv_has ls 3 [(0, .ref a_o), (1, .int x1), (2, .int x2)] := hl
  unfold F_X10_stretchOf at h
  refine lv_aload_n hx hb dX10_stretchOf_0 rfl (lv_at hl 0 rfl) ?_
  refine lv_iload_n hx hb dX10_stretchOf_1 rfl (lv_at hl 1 rfl) ?_
  refine ro_i (roV S hE hT hS (c_X10_isStretch h) lkX10_125 rfl ⟨(Nat.le_of_ble_eq_true rfl), (Nat.le_of_ble_eq_true rfl)⟩ (hP.sub [0] rfl) 0 rfl rfl hl.1 rfl (Nat.le_of_ble_eq_true rfl) dX10_stretchOf_2 ⟨(Nat.zero_le _), (Nat.zero_le _)⟩) (fun r2 h => ?_)
  refine lv_if_eq (tgt := 17) hx hb dX10_stretchOf_5 (by decide) (fun hc => ?_) (fun hc => ?_)
  · have h := h.1 hc
    refine lv_aload_n hx hb dX10_stretchOf_17 rfl (lv_at hl 0 rfl) ?_
    refine lv_bipush (v := (-5)) hx hb dX10_stretchOf_18 (by decide) ?_
    refine rw_i (rwV S hE hT hS hP hD hA (c_X10_no h) [0, 3] rfl (by decide) lkX10_121 rfl ⟨(Nat.le_of_ble_eq_true rfl), (Nat.le_of_ble_eq_true rfl)⟩ 0 rfl rfl hl.1 rfl (Nat.le_of_ble_eq_true rfl) dX10_stretchOf_20 ⟨(Nat.zero_le _), (Nat.zero_le _)⟩) hP hD hS hA [0, 3] rfl (by decide) (fun _ => rfl) (fun r20 w20_0 H locs h hP hD hS => ?_)
    try dsimp only at h
    have hP : va_P D vwCl (wX10_stretchOf cI cJ cS a_o a_kind a_other a_refused a_space a_times z_steps z_speed z_base z_share z_notes z_pitch z_beats z_held z_sort z_size z_shown z_cells z_carried z_words z_tell z_was z_kept z_cutSpace z_cutTimes z_cutOff z_trace v_stretches v_cars v_tunes v_along v_near v_borne v_tempo v_seed v_fault v_from v_at v_end v_told v_wrongAt v_culprit v_ran v_isKept f_kind f_other w20_0 f_space f_times) H := hP
    have hD : va_D A (wX10_stretchOf cI cJ cS a_o a_kind a_other a_refused a_space a_times z_steps z_speed z_base z_share z_notes z_pitch z_beats z_held z_sort z_size z_shown z_cells z_carried z_words z_tell z_was z_kept z_cutSpace z_cutTimes z_cutOff z_trace v_stretches v_cars v_tunes v_along v_near v_borne v_tempo v_seed v_fault v_from v_at v_end v_told v_wrongAt v_culprit v_ran v_isKept f_kind f_other w20_0 f_space f_times) := hD
    exact W.iret hx hb hr (fun t ht _ => ⟨⟨_, w20_0, rfl, h, hPt hP ht⟩, hS.F ht⟩) hS.2.2 dX10_stretchOf_23
  have h := h.2 hc
  refine lv_iload_n hx hb dX10_stretchOf_8 rfl (lv_at hl 2 rfl) ?_
  refine lv_if_lt (tgt := 17) hx hb dX10_stretchOf_9 (by decide) (fun hc => ?_) (fun hc => ?_)
  · have h := h.1 hc
    refine lv_aload_n hx hb dX10_stretchOf_17 rfl (lv_at hl 0 rfl) ?_
    refine lv_bipush (v := (-5)) hx hb dX10_stretchOf_18 (by decide) ?_
    refine rw_i (rwV S hE hT hS hP hD hA (c_X10_no h) [0, 3] rfl (by decide) lkX10_121 rfl ⟨(Nat.le_of_ble_eq_true rfl), (Nat.le_of_ble_eq_true rfl)⟩ 0 rfl rfl hl.1 rfl (Nat.le_of_ble_eq_true rfl) dX10_stretchOf_20 ⟨(Nat.zero_le _), (Nat.zero_le _)⟩) hP hD hS hA [0, 3] rfl (by decide) (fun _ => rfl) (fun r20 w20_0 H locs h hP hD hS => ?_)
    try dsimp only at h
    have hP : va_P D vwCl (wX10_stretchOf cI cJ cS a_o a_kind a_other a_refused a_space a_times z_steps z_speed z_base z_share z_notes z_pitch z_beats z_held z_sort z_size z_shown z_cells z_carried z_words z_tell z_was z_kept z_cutSpace z_cutTimes z_cutOff z_trace v_stretches v_cars v_tunes v_along v_near v_borne v_tempo v_seed v_fault v_from v_at v_end v_told v_wrongAt v_culprit v_ran v_isKept f_kind f_other w20_0 f_space f_times) H := hP
    have hD : va_D A (wX10_stretchOf cI cJ cS a_o a_kind a_other a_refused a_space a_times z_steps z_speed z_base z_share z_notes z_pitch z_beats z_held z_sort z_size z_shown z_cells z_carried z_words z_tell z_was z_kept z_cutSpace z_cutTimes z_cutOff z_trace v_stretches v_cars v_tunes v_along v_near v_borne v_tempo v_seed v_fault v_from v_at v_end v_told v_wrongAt v_culprit v_ran v_isKept f_kind f_other w20_0 f_space f_times) := hD
    exact W.iret hx hb hr (fun t ht _ => ⟨⟨_, w20_0, rfl, h, hPt hP ht⟩, hS.F ht⟩) hS.2.2 dX10_stretchOf_23
  have h := h.2 hc
  refine lv_iload_n hx hb dX10_stretchOf_12 rfl (lv_at hl 2 rfl) ?_
  refine lv_iconst (v := 4) hx hb dX10_stretchOf_13 (by decide) ?_
  refine lv_icmp_le (tgt := 24) hx hb dX10_stretchOf_14 (by decide) (fun hc => ?_) (fun hc => ?_)
  · have h := h.1 hc
    refine lv_iload_n hx hb dX10_stretchOf_24 rfl (lv_at hl 2 rfl) ?_
    refine lv_if_ne (tgt := 37) hx hb dX10_stretchOf_25 (by decide) (fun hc => ?_) (fun hc => ?_)
    · have h := h.2 hc
      refine lv_iload_n hx hb dX10_stretchOf_37 rfl (lv_at hl 2 rfl) ?_
      refine lv_iconst (v := 1) hx hb dX10_stretchOf_38 (by decide) ?_
      refine lv_icmp_ne (tgt := 51) hx hb dX10_stretchOf_39 (by decide) (fun hc => ?_) (fun hc => ?_)
      · have h := h.2 hc
        refine lv_iload_n hx hb dX10_stretchOf_51 rfl (lv_at hl 2 rfl) ?_
        refine lv_iconst (v := 2) hx hb dX10_stretchOf_52 (by decide) ?_
        refine lv_icmp_ne (tgt := 65) hx hb dX10_stretchOf_53 (by decide) (fun hc => ?_) (fun hc => ?_)
        · have h := h.2 hc
          refine lv_iload_n hx hb dX10_stretchOf_65 rfl (lv_at hl 2 rfl) ?_
          refine lv_iconst (v := 3) hx hb dX10_stretchOf_66 (by decide) ?_
          refine lv_icmp_ne (tgt := 79) hx hb dX10_stretchOf_67 (by decide) (fun hc => ?_) (fun hc => ?_)
          · have h := h.2 hc
            refine lv_aload_n hx hb dX10_stretchOf_79 rfl (lv_at hl 0 rfl) ?_
            refine lv_iload_n hx hb dX10_stretchOf_80 rfl (lv_at hl 1 rfl) ?_
            refine ro_i (roV S hE hT hS (c_X10_lengthOf h) lkX10_131 rfl ⟨(Nat.le_of_ble_eq_true rfl), (Nat.le_of_ble_eq_true rfl)⟩ (hP.sub [0, 1, 2, 4, 5] rfl) 0 rfl rfl hl.1 rfl (Nat.le_of_ble_eq_true rfl) dX10_stretchOf_81 ⟨(Nat.zero_le _), (Nat.zero_le _)⟩) (fun r81 h => ?_)
            exact W.iret hx hb hr (fun t ht _ => ⟨⟨_, f_refused, rfl, h, hPt hP ht⟩, hS.F ht⟩) hS.2.2 dX10_stretchOf_84
          have h := h.1 hc
          refine lv_aload_n hx hb dX10_stretchOf_70 rfl (lv_at hl 0 rfl) ?_
          refine gf S hE hP 0 rfl rfl inX10 (k := 14) (by decide) q1107 rfl dX10_stretchOf_71 ?_
          refine lv_iload_n hx hb dX10_stretchOf_74 rfl (lv_at hl 1 rfl) ?_
          obtain ⟨hi, h⟩ := h
          refine ial S hE hP 5 rfl hi dX10_stretchOf_75 ?_
          refine lv_goto (tgt := 84) hx hb dX10_stretchOf_76 (by decide) ?_
          exact W.iret hx hb hr (fun t ht _ => ⟨⟨_, f_refused, rfl, h, hPt hP ht⟩, hS.F ht⟩) hS.2.2 dX10_stretchOf_84
        have h := h.1 hc
        refine lv_aload_n hx hb dX10_stretchOf_56 rfl (lv_at hl 0 rfl) ?_
        refine gf S hE hP 0 rfl rfl inX10 (k := 13) (by decide) q1106 rfl dX10_stretchOf_57 ?_
        refine lv_iload_n hx hb dX10_stretchOf_60 rfl (lv_at hl 1 rfl) ?_
        obtain ⟨hi, h⟩ := h
        refine ial S hE hP 2 rfl hi dX10_stretchOf_61 ?_
        refine lv_goto (tgt := 84) hx hb dX10_stretchOf_62 (by decide) ?_
        exact W.iret hx hb hr (fun t ht _ => ⟨⟨_, f_refused, rfl, h, hPt hP ht⟩, hS.F ht⟩) hS.2.2 dX10_stretchOf_84
      have h := h.1 hc
      refine lv_aload_n hx hb dX10_stretchOf_42 rfl (lv_at hl 0 rfl) ?_
      refine gf S hE hP 0 rfl rfl inX10 (k := 12) (by decide) q1105 rfl dX10_stretchOf_43 ?_
      refine lv_iload_n hx hb dX10_stretchOf_46 rfl (lv_at hl 1 rfl) ?_
      obtain ⟨hi, h⟩ := h
      refine ial S hE hP 4 rfl hi dX10_stretchOf_47 ?_
      refine lv_goto (tgt := 84) hx hb dX10_stretchOf_48 (by decide) ?_
      exact W.iret hx hb hr (fun t ht _ => ⟨⟨_, f_refused, rfl, h, hPt hP ht⟩, hS.F ht⟩) hS.2.2 dX10_stretchOf_84
    have h := h.1 hc
    refine lv_aload_n hx hb dX10_stretchOf_28 rfl (lv_at hl 0 rfl) ?_
    refine gf S hE hP 0 rfl rfl inX10 (k := 11) (by decide) q1104 rfl dX10_stretchOf_29 ?_
    refine lv_iload_n hx hb dX10_stretchOf_32 rfl (lv_at hl 1 rfl) ?_
    obtain ⟨hi, h⟩ := h
    refine ial S hE hP 1 rfl hi dX10_stretchOf_33 ?_
    refine lv_goto (tgt := 84) hx hb dX10_stretchOf_34 (by decide) ?_
    exact W.iret hx hb hr (fun t ht _ => ⟨⟨_, f_refused, rfl, h, hPt hP ht⟩, hS.F ht⟩) hS.2.2 dX10_stretchOf_84
  have h := h.2 hc
  refine lv_aload_n hx hb dX10_stretchOf_17 rfl (lv_at hl 0 rfl) ?_
  refine lv_bipush (v := (-5)) hx hb dX10_stretchOf_18 (by decide) ?_
  refine rw_i (rwV S hE hT hS hP hD hA (c_X10_no h) [0, 3] rfl (by decide) lkX10_121 rfl ⟨(Nat.le_of_ble_eq_true rfl), (Nat.le_of_ble_eq_true rfl)⟩ 0 rfl rfl hl.1 rfl (Nat.le_of_ble_eq_true rfl) dX10_stretchOf_20 ⟨(Nat.zero_le _), (Nat.zero_le _)⟩) hP hD hS hA [0, 3] rfl (by decide) (fun _ => rfl) (fun r20 w20_0 H locs h hP hD hS => ?_)
  try dsimp only at h
  have hP : va_P D vwCl (wX10_stretchOf cI cJ cS a_o a_kind a_other a_refused a_space a_times z_steps z_speed z_base z_share z_notes z_pitch z_beats z_held z_sort z_size z_shown z_cells z_carried z_words z_tell z_was z_kept z_cutSpace z_cutTimes z_cutOff z_trace v_stretches v_cars v_tunes v_along v_near v_borne v_tempo v_seed v_fault v_from v_at v_end v_told v_wrongAt v_culprit v_ran v_isKept f_kind f_other w20_0 f_space f_times) H := hP
  have hD : va_D A (wX10_stretchOf cI cJ cS a_o a_kind a_other a_refused a_space a_times z_steps z_speed z_base z_share z_notes z_pitch z_beats z_held z_sort z_size z_shown z_cells z_carried z_words z_tell z_was z_kept z_cutSpace z_cutTimes z_cutOff z_trace v_stretches v_cars v_tunes v_along v_near v_borne v_tempo v_seed v_fault v_from v_at v_end v_told v_wrongAt v_culprit v_ran v_isKept f_kind f_other w20_0 f_space f_times) := hD
  exact W.iret hx hb hr (fun t ht _ => ⟨⟨_, w20_0, rfl, h, hPt hP ht⟩, hS.F ht⟩) hS.2.2 dX10_stretchOf_23
/-! X10_shares -/
abbrev wX10_shares (cI cJ cS : ClassId) (a_o a_share : Nat) (z_refused z_steps z_kind z_space z_other z_times z_speed z_base z_notes z_pitch z_beats z_held z_sort z_size z_shown z_cells z_carried z_words z_tell z_was z_kept z_cutSpace z_cutTimes z_cutOff z_trace : Value) (v_stretches : Int32) (v_cars : Int32) (v_tunes : Int32) (v_along : Int32) (v_near : Int32) (v_borne : Int32) (v_tempo : Int32) (v_seed : Int32) (v_fault : Int32) (v_from : Int32) (v_at : Int32) (v_end : Int32) (v_told : Int32) (v_wrongAt : Int32) (v_culprit : Int32) (v_ran : Int32) (v_isKept : Int32) (f_share : Nat → Int32) : va_W := [(a_o, .inr (9, [.int v_stretches, .int v_cars, .int v_tunes, .int v_along, .int v_near, .int v_borne, .int v_tempo, .int v_seed, .int v_fault, z_refused, z_steps, z_kind, z_space, z_other, z_times, z_speed, z_base, .ref a_share, z_notes, z_pitch, z_beats, z_held, z_sort, z_size, z_shown, z_cells, z_carried, z_words, z_tell, .int v_from, .int v_at, .int v_end, .int v_told, .int v_wrongAt, z_was, z_kept, .int v_culprit, z_cutSpace, z_cutTimes, z_cutOff, z_trace, .int v_ran, .int v_isKept])), (a_share, .inl (cI, 6, .inl f_share))]
def L_X10_shares_4 (v_cars : Int32) (f_share : Nat → Int32) (post : Int32 → Prop) : Nat → Int32 → Int32 → Prop
  | 0, _, _ => False
  | n4 + 1, x1, x2 => ((v_cars ≤ x2 → post x1) ∧ (¬ v_cars ≤ x2 → (vp_in x2 6 ∧ (∀ x1_20 : Int32, x1_20 = x1 + (f_share x2.toNatClampNeg) → (∀ x2_21 : Int32, x2_21 = x2 + 1 → L_X10_shares_4 v_cars f_share post n4 x1_20 x2_21)))))
def F_X10_shares (v_cars : Int32) (f_share : Nat → Int32) (post : Int32 → Prop) : Prop := (∃ n4 : Nat, L_X10_shares_4 v_cars f_share post n4 0 0)
set_option maxHeartbeats 4000000 in
set_option maxRecDepth 100000 in
theorem w_X10_shares_4 {l : Launch} {D : va_G} {cI cJ cS : ClassId} {ad adK : Nat → Nat} {a_o a_share : Nat} {z_refused z_steps z_kind z_space z_other z_times z_speed z_base z_notes z_pitch z_beats z_held z_sort z_size z_shown z_cells z_carried z_words z_tell z_was z_kept z_cutSpace z_cutTimes z_cutOff z_trace : Value} {v_stretches : Int32} {v_cars : Int32} {v_tunes : Int32} {v_along : Int32} {v_near : Int32} {v_borne : Int32} {v_tempo : Int32} {v_seed : Int32} {v_fault : Int32} {v_from : Int32} {v_at : Int32} {v_end : Int32} {v_told : Int32} {v_wrongAt : Int32} {v_culprit : Int32} {v_ran : Int32} {v_isKept : Int32} {f_share : Nat → Int32} {post : Int32 → Prop} {p : Program} {e : Env} {s : State} {m : MethodId} {args : Array Value} {below : List Frame} {meth : Method} {c : Code} (S : CallFix p m c cX10_shares 3 s args GW "RoadThatSingsModel") (hE : EN D cI cJ cS s) (hT : ST ad adK nof s s.heap) (hP : va_P D vwCl (wX10_shares cI cJ cS a_o a_share z_refused z_steps z_kind z_space z_other z_times z_speed z_base z_notes z_pitch z_beats z_held z_sort z_size z_shown z_cells z_carried z_words z_tell z_was z_kept z_cutSpace z_cutTimes z_cutOff z_trace v_stretches v_cars v_tunes v_along v_near v_borne v_tempo v_seed v_fault v_from v_at v_end v_told v_wrongAt v_culprit v_ran v_isKept f_share) s.heap) (hS : va_S nof s.heap s.heap []) (hr : meth.sig.returnType = (some (.int))) (hlocks : meth.locks = false) : ∀ n : Nat, ∀ (x1 : Int32) (x2 : Int32) (ls : Array Slot), L_X10_shares_4 v_cars f_share post n x1 x2 → lv_has ls 3 [(0, .ref a_o), (1, .int x1), (2, .int x2)] → W p l e (rmd 0 0 0) s m args below meth c s.heap [] 0 0 (MQ below (vp_Si post) args s 0 0 nof) (F0 m 4 ls []) := by
  intro n
  induction n with
  | zero =>
    intro x1 x2 ls h hl
    exact h.elim
  | succ n ih =>
    intro x1 x2 ls h hl
    rw [L_X10_shares_4] at h
    have hx := S.1
    have hb := S.2.1
    refine lv_iload_n hx hb dX10_shares_4 rfl (lv_at hl 2 rfl) ?_
    refine lv_aload_n hx hb dX10_shares_5 rfl (lv_at hl 0 rfl) ?_
    refine gf S hE hP 0 rfl rfl inX10 (k := 1) (by decide) q1094 rfl dX10_shares_6 ?_
    refine lv_icmp_ge (tgt := 27) hx hb dX10_shares_9 (by decide) (fun hc => ?_) (fun hc => ?_)
    · have h := h.1 hc
      refine lv_iload_n hx hb dX10_shares_27 rfl (lv_at hl 1 rfl) ?_
      exact W.iret hx hb hr (fun t ht _ => ⟨_, rfl, h, ht⟩) (fun _ hq => by cases hq) dX10_shares_28
    have h := h.2 hc
    refine lv_iload_n hx hb dX10_shares_12 rfl (lv_at hl 1 rfl) ?_
    refine lv_aload_n hx hb dX10_shares_13 rfl (lv_at hl 0 rfl) ?_
    refine gf S hE hP 0 rfl rfl inX10 (k := 17) (by decide) q1110 rfl dX10_shares_14 ?_
    refine lv_iload_n hx hb dX10_shares_17 rfl (lv_at hl 2 rfl) ?_
    obtain ⟨hi, h⟩ := h
    refine ial S hE hP 1 rfl hi dX10_shares_18 ?_
    refine lv_iadd hx hb dX10_shares_19 ?_
    refine lv_topi (fun x1_20 ex1_20 => ?_)
    have h := h _ ex1_20
    refine lv_istore_n (lv' := [(1, .int x1_20), (0, .ref a_o), (2, .int x2)]) hx hb dX10_shares_20 rfl hl (by decide) rfl (fun ls hl => ?_)
    obtain ⟨x2_21, ex2_21⟩ : ∃ z : Int32, z = x2 + 1 := ⟨_, rfl⟩
    have h := h _ ex2_21
    refine lv_iinc (v := x2_21) (lv' := [(2, .int x2_21), (1, .int x1_20), (0, .ref a_o)]) hx hb dX10_shares_21 hl (k := 2) rfl (by rw [ex2_21]; rfl) (by decide) rfl (fun ls hl => ?_)
    refine lv_goto (tgt := 4) hx hb dX10_shares_24 (by decide) ?_
    exact ih _ _ _ h (lv_sub hl [2, 1, 0] rfl)
set_option maxHeartbeats 4000000 in
set_option maxRecDepth 100000 in
theorem c_X10_shares {l : Launch} {D : va_G} {cI cJ cS : ClassId} {ad adK : Nat → Nat} {a_o a_share : Nat} {z_refused z_steps z_kind z_space z_other z_times z_speed z_base z_notes z_pitch z_beats z_held z_sort z_size z_shown z_cells z_carried z_words z_tell z_was z_kept z_cutSpace z_cutTimes z_cutOff z_trace : Value} {v_stretches : Int32} {v_cars : Int32} {v_tunes : Int32} {v_along : Int32} {v_near : Int32} {v_borne : Int32} {v_tempo : Int32} {v_seed : Int32} {v_fault : Int32} {v_from : Int32} {v_at : Int32} {v_end : Int32} {v_told : Int32} {v_wrongAt : Int32} {v_culprit : Int32} {v_ran : Int32} {v_isKept : Int32} {f_share : Nat → Int32} {post : Int32 → Prop} (h : F_X10_shares v_cars f_share post) : Met l yX10_shares (Cond.code yX10_shares cX10_shares 3 (some (.int)) :: GW) (rmd 0 0 0) (PR D cI cJ cS ad adK [.ref a_o] (wX10_shares cI cJ cS a_o a_share z_refused z_steps z_kind z_space z_other z_times z_speed z_base z_notes z_pitch z_beats z_held z_sort z_size z_shown z_cells z_carried z_words z_tell z_was z_kept z_cutSpace z_cutTimes z_cutOff z_trace v_stretches v_cars v_tunes v_along v_near v_borne v_tempo v_seed v_fault v_from v_at v_end v_told v_wrongAt v_culprit v_ran v_isKept f_share)) (vp_Si post) 0 0 nof := by
  refine Met.ro (by decide) (Nat.le_of_ble_eq_true rfl) (fun p e s m args below meth c ls (S : CallFix p m c cX10_shares 3 s args GW "RoadThatSingsModel") hE hT hP hS hr hlocks hl => ?_)
  have hx := S.1
  have hb := S.2.1
  have hl : lv_has ls 3 [(0, .ref a_o)] := hl
  unfold F_X10_shares at h
  refine lv_iconst (v := 0) hx hb dX10_shares_0 (by decide) ?_
  refine lv_istore_n (lv' := [(1, .int 0), (0, .ref a_o)]) hx hb dX10_shares_1 rfl hl (by decide) rfl (fun ls hl => ?_)
  refine lv_iconst (v := 0) hx hb dX10_shares_2 (by decide) ?_
  refine lv_istore_n (lv' := [(2, .int 0), (1, .int 0), (0, .ref a_o)]) hx hb dX10_shares_3 rfl hl (by decide) rfl (fun ls hl => ?_)
  obtain ⟨n, h⟩ := h
  refine w_X10_shares_4 S hE hT hP hS hr hlocks n _ _ _ h (lv_sub hl [2, 1, 0] rfl)
/-! X10_cars -/
abbrev wX10_cars (cI cJ cS : ClassId) (a_o a_base a_share a_speed : Nat) (z_refused z_steps z_kind z_space z_other z_times z_notes z_pitch z_beats z_held z_sort z_size z_shown z_cells z_carried z_words z_tell z_was z_kept z_cutSpace z_cutTimes z_cutOff z_trace : Value) (v_stretches : Int32) (v_cars : Int32) (v_tunes : Int32) (v_along : Int32) (v_near : Int32) (v_borne : Int32) (v_tempo : Int32) (v_seed : Int32) (v_fault : Int32) (v_from : Int32) (v_at : Int32) (v_end : Int32) (v_told : Int32) (v_wrongAt : Int32) (v_culprit : Int32) (v_ran : Int32) (v_isKept : Int32) (f_base : Nat → Int32) (f_share : Nat → Int32) (f_speed : Nat → Int32) : va_W := [(a_o, .inr (9, [.int v_stretches, .int v_cars, .int v_tunes, .int v_along, .int v_near, .int v_borne, .int v_tempo, .int v_seed, .int v_fault, z_refused, z_steps, z_kind, z_space, z_other, z_times, .ref a_speed, .ref a_base, .ref a_share, z_notes, z_pitch, z_beats, z_held, z_sort, z_size, z_shown, z_cells, z_carried, z_words, z_tell, .int v_from, .int v_at, .int v_end, .int v_told, .int v_wrongAt, z_was, z_kept, .int v_culprit, z_cutSpace, z_cutTimes, z_cutOff, z_trace, .int v_ran, .int v_isKept])), (a_base, .inl (cI, 6, .inl f_base)), (a_share, .inl (cI, 6, .inl f_share)), (a_speed, .inl (cI, 6, .inl f_speed))]
def F_X10_cars (v_cars : Int32) (f_base : Nat → Int32) (f_share : Nat → Int32) (f_speed : Nat → Int32) (x1 : Int32) (x2 : Int32) (x3 : Int32) (post : Int32 → Int32 → (Nat → Int32) → (Nat → Int32) → (Nat → Int32) → Prop) : Prop := (vp_in v_cars 6 ∧ (vp_in v_cars 6 ∧ (vp_in v_cars 6 ∧ post v_cars (v_cars + 1) (upd f_base v_cars.toNatClampNeg x2) (upd f_share v_cars.toNatClampNeg x3) (upd f_speed v_cars.toNatClampNeg x1))))
set_option maxHeartbeats 4000000 in
set_option maxRecDepth 100000 in
theorem c_X10_cars {l : Launch} {D : va_G} {cI cJ cS : ClassId} {ad adK : Nat → Nat} {a_o a_base a_share a_speed : Nat} {z_refused z_steps z_kind z_space z_other z_times z_notes z_pitch z_beats z_held z_sort z_size z_shown z_cells z_carried z_words z_tell z_was z_kept z_cutSpace z_cutTimes z_cutOff z_trace : Value} {v_stretches : Int32} {v_cars : Int32} {v_tunes : Int32} {v_along : Int32} {v_near : Int32} {v_borne : Int32} {v_tempo : Int32} {v_seed : Int32} {v_fault : Int32} {v_from : Int32} {v_at : Int32} {v_end : Int32} {v_told : Int32} {v_wrongAt : Int32} {v_culprit : Int32} {v_ran : Int32} {v_isKept : Int32} {f_base : Nat → Int32} {f_share : Nat → Int32} {f_speed : Nat → Int32} {x1 : Int32} {x2 : Int32} {x3 : Int32} {post : Int32 → Int32 → (Nat → Int32) → (Nat → Int32) → (Nat → Int32) → Prop} (h : F_X10_cars v_cars f_base f_share f_speed x1 x2 x3 post) {sz : Nat} : Met l yX10_cars (Cond.code yX10_cars cX10_cars 4 (some (.int)) :: GW) (rmd 0 0 0) (PW D cI cJ cS ad adK [.ref a_o, .int x1, .int x2, .int x3] (wX10_cars cI cJ cS a_o a_base a_share a_speed z_refused z_steps z_kind z_space z_other z_times z_notes z_pitch z_beats z_held z_sort z_size z_shown z_cells z_carried z_words z_tell z_was z_kept z_cutSpace z_cutTimes z_cutOff z_trace v_stretches v_cars v_tunes v_along v_near v_borne v_tempo v_seed v_fault v_from v_at v_end v_told v_wrongAt v_culprit v_ran v_isKept f_base f_share f_speed) sz) (va_Qi (fun r (u : Int32 × (Nat → Int32) × (Nat → Int32) × (Nat → Int32)) => post r u.1 u.2.1 u.2.2.1 u.2.2.2) (fun u t => va_P D vwCl (wX10_cars cI cJ cS a_o a_base a_share a_speed z_refused z_steps z_kind z_space z_other z_times z_notes z_pitch z_beats z_held z_sort z_size z_shown z_cells z_carried z_words z_tell z_was z_kept z_cutSpace z_cutTimes z_cutOff z_trace v_stretches u.1 v_tunes v_along v_near v_borne v_tempo v_seed v_fault v_from v_at v_end v_told v_wrongAt v_culprit v_ran v_isKept u.2.1 u.2.2.1 u.2.2.2) t.heap) (va_A (wX10_cars cI cJ cS a_o a_base a_share a_speed z_refused z_steps z_kind z_space z_other z_times z_notes z_pitch z_beats z_held z_sort z_size z_shown z_cells z_carried z_words z_tell z_was z_kept z_cutSpace z_cutTimes z_cutOff z_trace v_stretches v_cars v_tunes v_along v_near v_borne v_tempo v_seed v_fault v_from v_at v_end v_told v_wrongAt v_culprit v_ran v_isKept f_base f_share f_speed) sz)) 0 0 (va_A (wX10_cars cI cJ cS a_o a_base a_share a_speed z_refused z_steps z_kind z_space z_other z_times z_notes z_pitch z_beats z_held z_sort z_size z_shown z_cells z_carried z_words z_tell z_was z_kept z_cutSpace z_cutTimes z_cutOff z_trace v_stretches v_cars v_tunes v_along v_near v_borne v_tempo v_seed v_fault v_from v_at v_end v_told v_wrongAt v_culprit v_ran v_isKept f_base f_share f_speed) sz) := by
  refine Met.rw (Qc := fun A => (va_Qi (fun r (u : Int32 × (Nat → Int32) × (Nat → Int32) × (Nat → Int32)) => post r u.1 u.2.1 u.2.2.1 u.2.2.2) (fun u t => va_P D vwCl (wX10_cars cI cJ cS a_o a_base a_share a_speed z_refused z_steps z_kind z_space z_other z_times z_notes z_pitch z_beats z_held z_sort z_size z_shown z_cells z_carried z_words z_tell z_was z_kept z_cutSpace z_cutTimes z_cutOff z_trace v_stretches u.1 v_tunes v_along v_near v_borne v_tempo v_seed v_fault v_from v_at v_end v_told v_wrongAt v_culprit v_ran v_isKept u.2.1 u.2.2.1 u.2.2.2) t.heap) A)) (by decide) (Nat.le_of_ble_eq_true rfl) (fun p e s m args below meth c ls A (S : CallFix p m c cX10_cars 4 s args GW "RoadThatSingsModel") hE hT hP hD hA hS hr hlocks hname hl => ?_)
  have hS0 := hS
  have hx := S.1
  have hb := S.2.1
  have hl : lv_has ls 4 [(0, .ref a_o), (1, .int x1), (2, .int x2), (3, .int x3)] := hl
  unfold F_X10_cars at h
  refine lv_aload_n hx hb dX10_cars_0 rfl (lv_at hl 0 rfl) ?_
  refine gf S hE hP 0 rfl rfl inX10 (k := 15) (by decide) q1108 rfl dX10_cars_1 ?_
  refine lv_aload_n hx hb dX10_cars_4 rfl (lv_at hl 0 rfl) ?_
  refine gf S hE hP 0 rfl rfl inX10 (k := 1) (by decide) q1094 rfl dX10_cars_5 ?_
  refine lv_iload_n hx hb dX10_cars_8 rfl (lv_at hl 1 rfl) ?_
  obtain ⟨hi, h⟩ := h
  refine ias S hE hP hD hS 3 rfl hi dX10_cars_9 (fun H locs hP hD hS => ?_)
  have hP : va_P D vwCl (wX10_cars cI cJ cS a_o a_base a_share a_speed z_refused z_steps z_kind z_space z_other z_times z_notes z_pitch z_beats z_held z_sort z_size z_shown z_cells z_carried z_words z_tell z_was z_kept z_cutSpace z_cutTimes z_cutOff z_trace v_stretches v_cars v_tunes v_along v_near v_borne v_tempo v_seed v_fault v_from v_at v_end v_told v_wrongAt v_culprit v_ran v_isKept f_base f_share (upd f_speed v_cars.toNatClampNeg x1)) H := hP
  have hD : va_D A (wX10_cars cI cJ cS a_o a_base a_share a_speed z_refused z_steps z_kind z_space z_other z_times z_notes z_pitch z_beats z_held z_sort z_size z_shown z_cells z_carried z_words z_tell z_was z_kept z_cutSpace z_cutTimes z_cutOff z_trace v_stretches v_cars v_tunes v_along v_near v_borne v_tempo v_seed v_fault v_from v_at v_end v_told v_wrongAt v_culprit v_ran v_isKept f_base f_share (upd f_speed v_cars.toNatClampNeg x1)) := hD
  refine lv_aload_n hx hb dX10_cars_10 rfl (lv_at hl 0 rfl) ?_
  refine gf S hE hP 0 rfl rfl inX10 (k := 16) (by decide) q1109 rfl dX10_cars_11 ?_
  refine lv_aload_n hx hb dX10_cars_14 rfl (lv_at hl 0 rfl) ?_
  refine gf S hE hP 0 rfl rfl inX10 (k := 1) (by decide) q1094 rfl dX10_cars_15 ?_
  refine lv_iload_n hx hb dX10_cars_18 rfl (lv_at hl 2 rfl) ?_
  obtain ⟨hi, h⟩ := h
  refine ias S hE hP hD hS 1 rfl hi dX10_cars_19 (fun H locs hP hD hS => ?_)
  have hP : va_P D vwCl (wX10_cars cI cJ cS a_o a_base a_share a_speed z_refused z_steps z_kind z_space z_other z_times z_notes z_pitch z_beats z_held z_sort z_size z_shown z_cells z_carried z_words z_tell z_was z_kept z_cutSpace z_cutTimes z_cutOff z_trace v_stretches v_cars v_tunes v_along v_near v_borne v_tempo v_seed v_fault v_from v_at v_end v_told v_wrongAt v_culprit v_ran v_isKept (upd f_base v_cars.toNatClampNeg x2) f_share (upd f_speed v_cars.toNatClampNeg x1)) H := hP
  have hD : va_D A (wX10_cars cI cJ cS a_o a_base a_share a_speed z_refused z_steps z_kind z_space z_other z_times z_notes z_pitch z_beats z_held z_sort z_size z_shown z_cells z_carried z_words z_tell z_was z_kept z_cutSpace z_cutTimes z_cutOff z_trace v_stretches v_cars v_tunes v_along v_near v_borne v_tempo v_seed v_fault v_from v_at v_end v_told v_wrongAt v_culprit v_ran v_isKept (upd f_base v_cars.toNatClampNeg x2) f_share (upd f_speed v_cars.toNatClampNeg x1)) := hD
  refine lv_aload_n hx hb dX10_cars_20 rfl (lv_at hl 0 rfl) ?_
  refine gf S hE hP 0 rfl rfl inX10 (k := 17) (by decide) q1110 rfl dX10_cars_21 ?_
  refine lv_aload_n hx hb dX10_cars_24 rfl (lv_at hl 0 rfl) ?_
  refine gf S hE hP 0 rfl rfl inX10 (k := 1) (by decide) q1094 rfl dX10_cars_25 ?_
  refine lv_iload_n hx hb dX10_cars_28 rfl (lv_at hl 3 rfl) ?_
  obtain ⟨hi, h⟩ := h
  refine ias S hE hP hD hS 2 rfl hi dX10_cars_29 (fun H locs hP hD hS => ?_)
  have hP : va_P D vwCl (wX10_cars cI cJ cS a_o a_base a_share a_speed z_refused z_steps z_kind z_space z_other z_times z_notes z_pitch z_beats z_held z_sort z_size z_shown z_cells z_carried z_words z_tell z_was z_kept z_cutSpace z_cutTimes z_cutOff z_trace v_stretches v_cars v_tunes v_along v_near v_borne v_tempo v_seed v_fault v_from v_at v_end v_told v_wrongAt v_culprit v_ran v_isKept (upd f_base v_cars.toNatClampNeg x2) (upd f_share v_cars.toNatClampNeg x3) (upd f_speed v_cars.toNatClampNeg x1)) H := hP
  have hD : va_D A (wX10_cars cI cJ cS a_o a_base a_share a_speed z_refused z_steps z_kind z_space z_other z_times z_notes z_pitch z_beats z_held z_sort z_size z_shown z_cells z_carried z_words z_tell z_was z_kept z_cutSpace z_cutTimes z_cutOff z_trace v_stretches v_cars v_tunes v_along v_near v_borne v_tempo v_seed v_fault v_from v_at v_end v_told v_wrongAt v_culprit v_ran v_isKept (upd f_base v_cars.toNatClampNeg x2) (upd f_share v_cars.toNatClampNeg x3) (upd f_speed v_cars.toNatClampNeg x1)) := hD
  refine lv_aload_n hx hb dX10_cars_30 rfl (lv_at hl 0 rfl) ?_
  refine lv_dup hx hb dX10_cars_31 rfl ?_
  refine gf S hE hP 0 rfl rfl inX10 (k := 1) (by decide) q1094 rfl dX10_cars_32 ?_
  refine lv_dup_x1 hx hb dX10_cars_35 rfl rfl ?_
  refine lv_iconst (v := 1) hx hb dX10_cars_36 (by decide) ?_
  refine lv_iadd hx hb dX10_cars_37 ?_
  refine pf S hE hP hD hS 0 (k := 1) rfl rfl inX10 tyX10_ok nmX10 (by decide) q1094 rfl rfl rfl (Nat.le_of_ble_eq_true rfl) dX10_cars_38 (fun H locs hP hD hS => ?_)
  have hP : va_P D vwCl (wX10_cars cI cJ cS a_o a_base a_share a_speed z_refused z_steps z_kind z_space z_other z_times z_notes z_pitch z_beats z_held z_sort z_size z_shown z_cells z_carried z_words z_tell z_was z_kept z_cutSpace z_cutTimes z_cutOff z_trace v_stretches (v_cars + 1) v_tunes v_along v_near v_borne v_tempo v_seed v_fault v_from v_at v_end v_told v_wrongAt v_culprit v_ran v_isKept (upd f_base v_cars.toNatClampNeg x2) (upd f_share v_cars.toNatClampNeg x3) (upd f_speed v_cars.toNatClampNeg x1)) H := hP
  have hD : va_D A (wX10_cars cI cJ cS a_o a_base a_share a_speed z_refused z_steps z_kind z_space z_other z_times z_notes z_pitch z_beats z_held z_sort z_size z_shown z_cells z_carried z_words z_tell z_was z_kept z_cutSpace z_cutTimes z_cutOff z_trace v_stretches (v_cars + 1) v_tunes v_along v_near v_borne v_tempo v_seed v_fault v_from v_at v_end v_told v_wrongAt v_culprit v_ran v_isKept (upd f_base v_cars.toNatClampNeg x2) (upd f_share v_cars.toNatClampNeg x3) (upd f_speed v_cars.toNatClampNeg x1)) := hD
  exact W.iret hx hb hr (fun t ht _ => ⟨⟨_, ((v_cars + 1), (upd f_base v_cars.toNatClampNeg x2), (upd f_share v_cars.toNatClampNeg x3), (upd f_speed v_cars.toNatClampNeg x1)), rfl, h, hPt hP ht⟩, hS.F ht⟩) hS.2.2 dX10_cars_41
/-! X10_car -/
abbrev wX10_car (cI cJ cS : ClassId) (a_o a_base a_refused a_share a_speed : Nat) (z_steps z_kind z_space z_other z_times z_notes z_pitch z_beats z_held z_sort z_size z_shown z_cells z_carried z_words z_tell z_was z_kept z_cutSpace z_cutTimes z_cutOff z_trace : Value) (v_stretches : Int32) (v_cars : Int32) (v_tunes : Int32) (v_along : Int32) (v_near : Int32) (v_borne : Int32) (v_tempo : Int32) (v_seed : Int32) (v_fault : Int32) (v_from : Int32) (v_at : Int32) (v_end : Int32) (v_told : Int32) (v_wrongAt : Int32) (v_culprit : Int32) (v_ran : Int32) (v_isKept : Int32) (f_base : Nat → Int32) (f_refused : Nat → Int32) (f_share : Nat → Int32) (f_speed : Nat → Int32) : va_W := [(a_o, .inr (9, [.int v_stretches, .int v_cars, .int v_tunes, .int v_along, .int v_near, .int v_borne, .int v_tempo, .int v_seed, .int v_fault, .ref a_refused, z_steps, z_kind, z_space, z_other, z_times, .ref a_speed, .ref a_base, .ref a_share, z_notes, z_pitch, z_beats, z_held, z_sort, z_size, z_shown, z_cells, z_carried, z_words, z_tell, .int v_from, .int v_at, .int v_end, .int v_told, .int v_wrongAt, z_was, z_kept, .int v_culprit, z_cutSpace, z_cutTimes, z_cutOff, z_trace, .int v_ran, .int v_isKept])), (a_base, .inl (cI, 6, .inl f_base)), (a_refused, .inl (cI, 8, .inl f_refused)), (a_share, .inl (cI, 6, .inl f_share)), (a_speed, .inl (cI, 6, .inl f_speed))]
def F_X10_car (v_cars : Int32) (f_base : Nat → Int32) (f_refused : Nat → Int32) (f_share : Nat → Int32) (f_speed : Nat → Int32) (x1 : Int32) (x2 : Int32) (x3 : Int32) (post : Int32 → Int32 → (Nat → Int32) → (Nat → Int32) → (Nat → Int32) → (Nat → Int32) → Prop) : Prop := (F_X10_isSpeed x1 (fun r2 => ((r2 = 0 → (F_X10_no f_refused (-6) (fun r37 w37_0 => post r37 v_cars f_base w37_0 f_share f_speed))) ∧ (¬ r2 = 0 → ((x2 < 0 → (F_X10_no f_refused (-6) (fun r37 w37_0 => post r37 v_cars f_base w37_0 f_share f_speed))) ∧ (¬ x2 < 0 → ((999 < x2 → (F_X10_no f_refused (-6) (fun r37 w37_0 => post r37 v_cars f_base w37_0 f_share f_speed))) ∧ (¬ 999 < x2 → ((x3 < 0 → (F_X10_no f_refused (-6) (fun r37 w37_0 => post r37 v_cars f_base w37_0 f_share f_speed))) ∧ (¬ x3 < 0 → (F_X10_shares v_cars f_share (fun r27 => ((x3 ≤ (100 - r27) → ((v_cars = 6 → (F_X10_no f_refused (-7) (fun r53 w53_0 => post r53 v_cars f_base w53_0 f_share f_speed))) ∧ (¬ v_cars = 6 → (F_X10_cars v_cars f_base f_share f_speed x1 x2 x3 (fun r63 w63_0 w63_1 w63_2 w63_3 => post r63 w63_0 w63_1 f_refused w63_2 w63_3))))) ∧ (¬ x3 ≤ (100 - r27) → (F_X10_no f_refused (-6) (fun r37 w37_0 => post r37 v_cars f_base w37_0 f_share f_speed))))))))))))))))
set_option maxHeartbeats 4000000 in
set_option maxRecDepth 100000 in
theorem c_X10_car {l : Launch} {D : va_G} {cI cJ cS : ClassId} {ad adK : Nat → Nat} {a_o a_base a_refused a_share a_speed : Nat} {z_steps z_kind z_space z_other z_times z_notes z_pitch z_beats z_held z_sort z_size z_shown z_cells z_carried z_words z_tell z_was z_kept z_cutSpace z_cutTimes z_cutOff z_trace : Value} {v_stretches : Int32} {v_cars : Int32} {v_tunes : Int32} {v_along : Int32} {v_near : Int32} {v_borne : Int32} {v_tempo : Int32} {v_seed : Int32} {v_fault : Int32} {v_from : Int32} {v_at : Int32} {v_end : Int32} {v_told : Int32} {v_wrongAt : Int32} {v_culprit : Int32} {v_ran : Int32} {v_isKept : Int32} {f_base : Nat → Int32} {f_refused : Nat → Int32} {f_share : Nat → Int32} {f_speed : Nat → Int32} {x1 : Int32} {x2 : Int32} {x3 : Int32} {post : Int32 → Int32 → (Nat → Int32) → (Nat → Int32) → (Nat → Int32) → (Nat → Int32) → Prop} (h : F_X10_car v_cars f_base f_refused f_share f_speed x1 x2 x3 post) {sz : Nat} : Met l yX10_car (Cond.code yX10_car cX10_car 4 (some (.int)) :: GW) (rmd 1 0 0) (PW D cI cJ cS ad adK [.ref a_o, .int x1, .int x2, .int x3] (wX10_car cI cJ cS a_o a_base a_refused a_share a_speed z_steps z_kind z_space z_other z_times z_notes z_pitch z_beats z_held z_sort z_size z_shown z_cells z_carried z_words z_tell z_was z_kept z_cutSpace z_cutTimes z_cutOff z_trace v_stretches v_cars v_tunes v_along v_near v_borne v_tempo v_seed v_fault v_from v_at v_end v_told v_wrongAt v_culprit v_ran v_isKept f_base f_refused f_share f_speed) sz) (va_Qi (fun r (u : Int32 × (Nat → Int32) × (Nat → Int32) × (Nat → Int32) × (Nat → Int32)) => post r u.1 u.2.1 u.2.2.1 u.2.2.2.1 u.2.2.2.2) (fun u t => va_P D vwCl (wX10_car cI cJ cS a_o a_base a_refused a_share a_speed z_steps z_kind z_space z_other z_times z_notes z_pitch z_beats z_held z_sort z_size z_shown z_cells z_carried z_words z_tell z_was z_kept z_cutSpace z_cutTimes z_cutOff z_trace v_stretches u.1 v_tunes v_along v_near v_borne v_tempo v_seed v_fault v_from v_at v_end v_told v_wrongAt v_culprit v_ran v_isKept u.2.1 u.2.2.1 u.2.2.2.1 u.2.2.2.2) t.heap) (va_A (wX10_car cI cJ cS a_o a_base a_refused a_share a_speed z_steps z_kind z_space z_other z_times z_notes z_pitch z_beats z_held z_sort z_size z_shown z_cells z_carried z_words z_tell z_was z_kept z_cutSpace z_cutTimes z_cutOff z_trace v_stretches v_cars v_tunes v_along v_near v_borne v_tempo v_seed v_fault v_from v_at v_end v_told v_wrongAt v_culprit v_ran v_isKept f_base f_refused f_share f_speed) sz)) 0 0 (va_A (wX10_car cI cJ cS a_o a_base a_refused a_share a_speed z_steps z_kind z_space z_other z_times z_notes z_pitch z_beats z_held z_sort z_size z_shown z_cells z_carried z_words z_tell z_was z_kept z_cutSpace z_cutTimes z_cutOff z_trace v_stretches v_cars v_tunes v_along v_near v_borne v_tempo v_seed v_fault v_from v_at v_end v_told v_wrongAt v_culprit v_ran v_isKept f_base f_refused f_share f_speed) sz) := by
  refine Met.rw (Qc := fun A => (va_Qi (fun r (u : Int32 × (Nat → Int32) × (Nat → Int32) × (Nat → Int32) × (Nat → Int32)) => post r u.1 u.2.1 u.2.2.1 u.2.2.2.1 u.2.2.2.2) (fun u t => va_P D vwCl (wX10_car cI cJ cS a_o a_base a_refused a_share a_speed z_steps z_kind z_space z_other z_times z_notes z_pitch z_beats z_held z_sort z_size z_shown z_cells z_carried z_words z_tell z_was z_kept z_cutSpace z_cutTimes z_cutOff z_trace v_stretches u.1 v_tunes v_along v_near v_borne v_tempo v_seed v_fault v_from v_at v_end v_told v_wrongAt v_culprit v_ran v_isKept u.2.1 u.2.2.1 u.2.2.2.1 u.2.2.2.2) t.heap) A)) (by decide) (Nat.le_of_ble_eq_true rfl) (fun p e s m args below meth c ls A (S : CallFix p m c cX10_car 4 s args GW "RoadThatSingsModel") hE hT hP hD hA hS hr hlocks hname hl => ?_)
  have hS0 := hS
  have hx := S.1
  have hb := S.2.1
  have hl : lv_has ls 4 [(0, .ref a_o), (1, .int x1), (2, .int x2), (3, .int x3)] := hl
  unfold F_X10_car at h
  refine lv_aload_n hx hb dX10_car_0 rfl (lv_at hl 0 rfl) ?_
  refine lv_iload_n hx hb dX10_car_1 rfl (lv_at hl 1 rfl) ?_
  refine ro_i (roV S hE hT hS (c_X10_isSpeed h) lkX10_155 rfl ⟨(Nat.le_of_ble_eq_true rfl), (Nat.le_of_ble_eq_true rfl)⟩ (hP.sub [0] rfl) 0 rfl rfl hl.1 rfl (Nat.le_of_ble_eq_true rfl) dX10_car_2 ⟨(Nat.zero_le _), (Nat.zero_le _)⟩) (fun r2 h => ?_)
  refine lv_if_eq (tgt := 34) hx hb dX10_car_5 (by decide) (fun hc => ?_) (fun hc => ?_)
  · have h := h.1 hc
    refine lv_aload_n hx hb dX10_car_34 rfl (lv_at hl 0 rfl) ?_
    refine lv_bipush (v := (-6)) hx hb dX10_car_35 (by decide) ?_
    refine rw_i (rwV S hE hT hS hP hD hA (c_X10_no h) [0, 2] rfl (by decide) lkX10_121 rfl ⟨(Nat.le_of_ble_eq_true rfl), (Nat.le_of_ble_eq_true rfl)⟩ 0 rfl rfl hl.1 rfl (Nat.le_of_ble_eq_true rfl) dX10_car_37 ⟨(Nat.zero_le _), (Nat.zero_le _)⟩) hP hD hS hA [0, 2] rfl (by decide) (fun _ => rfl) (fun r37 w37_0 H locs h hP hD hS => ?_)
    try dsimp only at h
    have hP : va_P D vwCl (wX10_car cI cJ cS a_o a_base a_refused a_share a_speed z_steps z_kind z_space z_other z_times z_notes z_pitch z_beats z_held z_sort z_size z_shown z_cells z_carried z_words z_tell z_was z_kept z_cutSpace z_cutTimes z_cutOff z_trace v_stretches v_cars v_tunes v_along v_near v_borne v_tempo v_seed v_fault v_from v_at v_end v_told v_wrongAt v_culprit v_ran v_isKept f_base w37_0 f_share f_speed) H := hP
    have hD : va_D A (wX10_car cI cJ cS a_o a_base a_refused a_share a_speed z_steps z_kind z_space z_other z_times z_notes z_pitch z_beats z_held z_sort z_size z_shown z_cells z_carried z_words z_tell z_was z_kept z_cutSpace z_cutTimes z_cutOff z_trace v_stretches v_cars v_tunes v_along v_near v_borne v_tempo v_seed v_fault v_from v_at v_end v_told v_wrongAt v_culprit v_ran v_isKept f_base w37_0 f_share f_speed) := hD
    exact W.iret hx hb hr (fun t ht _ => ⟨⟨_, (v_cars, f_base, w37_0, f_share, f_speed), rfl, h, hPt hP ht⟩, hS.F ht⟩) hS.2.2 dX10_car_40
  have h := h.2 hc
  refine lv_iload_n hx hb dX10_car_8 rfl (lv_at hl 2 rfl) ?_
  refine lv_if_lt (tgt := 34) hx hb dX10_car_9 (by decide) (fun hc => ?_) (fun hc => ?_)
  · have h := h.1 hc
    refine lv_aload_n hx hb dX10_car_34 rfl (lv_at hl 0 rfl) ?_
    refine lv_bipush (v := (-6)) hx hb dX10_car_35 (by decide) ?_
    refine rw_i (rwV S hE hT hS hP hD hA (c_X10_no h) [0, 2] rfl (by decide) lkX10_121 rfl ⟨(Nat.le_of_ble_eq_true rfl), (Nat.le_of_ble_eq_true rfl)⟩ 0 rfl rfl hl.1 rfl (Nat.le_of_ble_eq_true rfl) dX10_car_37 ⟨(Nat.zero_le _), (Nat.zero_le _)⟩) hP hD hS hA [0, 2] rfl (by decide) (fun _ => rfl) (fun r37 w37_0 H locs h hP hD hS => ?_)
    try dsimp only at h
    have hP : va_P D vwCl (wX10_car cI cJ cS a_o a_base a_refused a_share a_speed z_steps z_kind z_space z_other z_times z_notes z_pitch z_beats z_held z_sort z_size z_shown z_cells z_carried z_words z_tell z_was z_kept z_cutSpace z_cutTimes z_cutOff z_trace v_stretches v_cars v_tunes v_along v_near v_borne v_tempo v_seed v_fault v_from v_at v_end v_told v_wrongAt v_culprit v_ran v_isKept f_base w37_0 f_share f_speed) H := hP
    have hD : va_D A (wX10_car cI cJ cS a_o a_base a_refused a_share a_speed z_steps z_kind z_space z_other z_times z_notes z_pitch z_beats z_held z_sort z_size z_shown z_cells z_carried z_words z_tell z_was z_kept z_cutSpace z_cutTimes z_cutOff z_trace v_stretches v_cars v_tunes v_along v_near v_borne v_tempo v_seed v_fault v_from v_at v_end v_told v_wrongAt v_culprit v_ran v_isKept f_base w37_0 f_share f_speed) := hD
    exact W.iret hx hb hr (fun t ht _ => ⟨⟨_, (v_cars, f_base, w37_0, f_share, f_speed), rfl, h, hPt hP ht⟩, hS.F ht⟩) hS.2.2 dX10_car_40
  have h := h.2 hc
  refine lv_iload_n hx hb dX10_car_12 rfl (lv_at hl 2 rfl) ?_
  refine lv_sipush (v := 999) hx hb dX10_car_13 (by decide) ?_
  refine lv_icmp_gt (tgt := 34) hx hb dX10_car_16 (by decide) (fun hc => ?_) (fun hc => ?_)
  · have h := h.1 hc
    refine lv_aload_n hx hb dX10_car_34 rfl (lv_at hl 0 rfl) ?_
    refine lv_bipush (v := (-6)) hx hb dX10_car_35 (by decide) ?_
    refine rw_i (rwV S hE hT hS hP hD hA (c_X10_no h) [0, 2] rfl (by decide) lkX10_121 rfl ⟨(Nat.le_of_ble_eq_true rfl), (Nat.le_of_ble_eq_true rfl)⟩ 0 rfl rfl hl.1 rfl (Nat.le_of_ble_eq_true rfl) dX10_car_37 ⟨(Nat.zero_le _), (Nat.zero_le _)⟩) hP hD hS hA [0, 2] rfl (by decide) (fun _ => rfl) (fun r37 w37_0 H locs h hP hD hS => ?_)
    try dsimp only at h
    have hP : va_P D vwCl (wX10_car cI cJ cS a_o a_base a_refused a_share a_speed z_steps z_kind z_space z_other z_times z_notes z_pitch z_beats z_held z_sort z_size z_shown z_cells z_carried z_words z_tell z_was z_kept z_cutSpace z_cutTimes z_cutOff z_trace v_stretches v_cars v_tunes v_along v_near v_borne v_tempo v_seed v_fault v_from v_at v_end v_told v_wrongAt v_culprit v_ran v_isKept f_base w37_0 f_share f_speed) H := hP
    have hD : va_D A (wX10_car cI cJ cS a_o a_base a_refused a_share a_speed z_steps z_kind z_space z_other z_times z_notes z_pitch z_beats z_held z_sort z_size z_shown z_cells z_carried z_words z_tell z_was z_kept z_cutSpace z_cutTimes z_cutOff z_trace v_stretches v_cars v_tunes v_along v_near v_borne v_tempo v_seed v_fault v_from v_at v_end v_told v_wrongAt v_culprit v_ran v_isKept f_base w37_0 f_share f_speed) := hD
    exact W.iret hx hb hr (fun t ht _ => ⟨⟨_, (v_cars, f_base, w37_0, f_share, f_speed), rfl, h, hPt hP ht⟩, hS.F ht⟩) hS.2.2 dX10_car_40
  have h := h.2 hc
  refine lv_iload_n hx hb dX10_car_19 rfl (lv_at hl 3 rfl) ?_
  refine lv_if_lt (tgt := 34) hx hb dX10_car_20 (by decide) (fun hc => ?_) (fun hc => ?_)
  · have h := h.1 hc
    refine lv_aload_n hx hb dX10_car_34 rfl (lv_at hl 0 rfl) ?_
    refine lv_bipush (v := (-6)) hx hb dX10_car_35 (by decide) ?_
    refine rw_i (rwV S hE hT hS hP hD hA (c_X10_no h) [0, 2] rfl (by decide) lkX10_121 rfl ⟨(Nat.le_of_ble_eq_true rfl), (Nat.le_of_ble_eq_true rfl)⟩ 0 rfl rfl hl.1 rfl (Nat.le_of_ble_eq_true rfl) dX10_car_37 ⟨(Nat.zero_le _), (Nat.zero_le _)⟩) hP hD hS hA [0, 2] rfl (by decide) (fun _ => rfl) (fun r37 w37_0 H locs h hP hD hS => ?_)
    try dsimp only at h
    have hP : va_P D vwCl (wX10_car cI cJ cS a_o a_base a_refused a_share a_speed z_steps z_kind z_space z_other z_times z_notes z_pitch z_beats z_held z_sort z_size z_shown z_cells z_carried z_words z_tell z_was z_kept z_cutSpace z_cutTimes z_cutOff z_trace v_stretches v_cars v_tunes v_along v_near v_borne v_tempo v_seed v_fault v_from v_at v_end v_told v_wrongAt v_culprit v_ran v_isKept f_base w37_0 f_share f_speed) H := hP
    have hD : va_D A (wX10_car cI cJ cS a_o a_base a_refused a_share a_speed z_steps z_kind z_space z_other z_times z_notes z_pitch z_beats z_held z_sort z_size z_shown z_cells z_carried z_words z_tell z_was z_kept z_cutSpace z_cutTimes z_cutOff z_trace v_stretches v_cars v_tunes v_along v_near v_borne v_tempo v_seed v_fault v_from v_at v_end v_told v_wrongAt v_culprit v_ran v_isKept f_base w37_0 f_share f_speed) := hD
    exact W.iret hx hb hr (fun t ht _ => ⟨⟨_, (v_cars, f_base, w37_0, f_share, f_speed), rfl, h, hPt hP ht⟩, hS.F ht⟩) hS.2.2 dX10_car_40
  have h := h.2 hc
  refine lv_iload_n hx hb dX10_car_23 rfl (lv_at hl 3 rfl) ?_
  refine lv_bipush (v := 100) hx hb dX10_car_24 (by decide) ?_
  refine lv_aload_n hx hb dX10_car_26 rfl (lv_at hl 0 rfl) ?_
  refine ro_i (roV S hE hT hS (c_X10_shares h) lkX10_158 rfl ⟨(Nat.le_of_ble_eq_true rfl), (Nat.le_of_ble_eq_true rfl)⟩ (hP.sub [0, 3] rfl) 0 rfl rfl hl.1 rfl (Nat.le_of_ble_eq_true rfl) dX10_car_27 ⟨(Nat.zero_le _), (Nat.zero_le _)⟩) (fun r27 h => ?_)
  refine lv_isub hx hb dX10_car_30 ?_
  refine lv_icmp_le (tgt := 41) hx hb dX10_car_31 (by decide) (fun hc => ?_) (fun hc => ?_)
  · have h := h.1 hc
    refine lv_aload_n hx hb dX10_car_41 rfl (lv_at hl 0 rfl) ?_
    refine gf S hE hP 0 rfl rfl inX10 (k := 1) (by decide) q1094 rfl dX10_car_42 ?_
    refine lv_bipush (v := 6) hx hb dX10_car_45 (by decide) ?_
    refine lv_icmp_ne (tgt := 59) hx hb dX10_car_47 (by decide) (fun hc => ?_) (fun hc => ?_)
    · have h := h.2 hc
      refine lv_aload_n hx hb dX10_car_59 rfl (lv_at hl 0 rfl) ?_
      refine lv_iload_n hx hb dX10_car_60 rfl (lv_at hl 1 rfl) ?_
      refine lv_iload_n hx hb dX10_car_61 rfl (lv_at hl 2 rfl) ?_
      refine lv_iload_n hx hb dX10_car_62 rfl (lv_at hl 3 rfl) ?_
      refine rw_i (rwV S hE hT hS hP hD hA (c_X10_cars h) [0, 1, 3, 4] rfl (by decide) lkX10_162 rfl ⟨(Nat.le_of_ble_eq_true rfl), (Nat.le_of_ble_eq_true rfl)⟩ 0 rfl rfl hl.1 rfl (Nat.le_of_ble_eq_true rfl) dX10_car_63 ⟨(Nat.zero_le _), (Nat.zero_le _)⟩) hP hD hS hA [0, 1, 3, 4] rfl (by decide) (fun _ => rfl) (fun r63 u63 H locs h hP hD hS => ?_)
      obtain ⟨w63_0, w63_1, w63_2, w63_3⟩ := u63
      try dsimp only at h
      have hP : va_P D vwCl (wX10_car cI cJ cS a_o a_base a_refused a_share a_speed z_steps z_kind z_space z_other z_times z_notes z_pitch z_beats z_held z_sort z_size z_shown z_cells z_carried z_words z_tell z_was z_kept z_cutSpace z_cutTimes z_cutOff z_trace v_stretches w63_0 v_tunes v_along v_near v_borne v_tempo v_seed v_fault v_from v_at v_end v_told v_wrongAt v_culprit v_ran v_isKept w63_1 f_refused w63_2 w63_3) H := hP
      have hD : va_D A (wX10_car cI cJ cS a_o a_base a_refused a_share a_speed z_steps z_kind z_space z_other z_times z_notes z_pitch z_beats z_held z_sort z_size z_shown z_cells z_carried z_words z_tell z_was z_kept z_cutSpace z_cutTimes z_cutOff z_trace v_stretches w63_0 v_tunes v_along v_near v_borne v_tempo v_seed v_fault v_from v_at v_end v_told v_wrongAt v_culprit v_ran v_isKept w63_1 f_refused w63_2 w63_3) := hD
      exact W.iret hx hb hr (fun t ht _ => ⟨⟨_, (w63_0, w63_1, f_refused, w63_2, w63_3), rfl, h, hPt hP ht⟩, hS.F ht⟩) hS.2.2 dX10_car_66
    have h := h.1 hc
    refine lv_aload_n hx hb dX10_car_50 rfl (lv_at hl 0 rfl) ?_
    refine lv_bipush (v := (-7)) hx hb dX10_car_51 (by decide) ?_
    refine rw_i (rwV S hE hT hS hP hD hA (c_X10_no h) [0, 2] rfl (by decide) lkX10_121 rfl ⟨(Nat.le_of_ble_eq_true rfl), (Nat.le_of_ble_eq_true rfl)⟩ 0 rfl rfl hl.1 rfl (Nat.le_of_ble_eq_true rfl) dX10_car_53 ⟨(Nat.zero_le _), (Nat.zero_le _)⟩) hP hD hS hA [0, 2] rfl (by decide) (fun _ => rfl) (fun r53 w53_0 H locs h hP hD hS => ?_)
    try dsimp only at h
    have hP : va_P D vwCl (wX10_car cI cJ cS a_o a_base a_refused a_share a_speed z_steps z_kind z_space z_other z_times z_notes z_pitch z_beats z_held z_sort z_size z_shown z_cells z_carried z_words z_tell z_was z_kept z_cutSpace z_cutTimes z_cutOff z_trace v_stretches v_cars v_tunes v_along v_near v_borne v_tempo v_seed v_fault v_from v_at v_end v_told v_wrongAt v_culprit v_ran v_isKept f_base w53_0 f_share f_speed) H := hP
    have hD : va_D A (wX10_car cI cJ cS a_o a_base a_refused a_share a_speed z_steps z_kind z_space z_other z_times z_notes z_pitch z_beats z_held z_sort z_size z_shown z_cells z_carried z_words z_tell z_was z_kept z_cutSpace z_cutTimes z_cutOff z_trace v_stretches v_cars v_tunes v_along v_near v_borne v_tempo v_seed v_fault v_from v_at v_end v_told v_wrongAt v_culprit v_ran v_isKept f_base w53_0 f_share f_speed) := hD
    refine lv_goto (tgt := 66) hx hb dX10_car_56 (by decide) ?_
    exact W.iret hx hb hr (fun t ht _ => ⟨⟨_, (v_cars, f_base, w53_0, f_share, f_speed), rfl, h, hPt hP ht⟩, hS.F ht⟩) hS.2.2 dX10_car_66
  have h := h.2 hc
  refine lv_aload_n hx hb dX10_car_34 rfl (lv_at hl 0 rfl) ?_
  refine lv_bipush (v := (-6)) hx hb dX10_car_35 (by decide) ?_
  refine rw_i (rwV S hE hT hS hP hD hA (c_X10_no h) [0, 2] rfl (by decide) lkX10_121 rfl ⟨(Nat.le_of_ble_eq_true rfl), (Nat.le_of_ble_eq_true rfl)⟩ 0 rfl rfl hl.1 rfl (Nat.le_of_ble_eq_true rfl) dX10_car_37 ⟨(Nat.zero_le _), (Nat.zero_le _)⟩) hP hD hS hA [0, 2] rfl (by decide) (fun _ => rfl) (fun r37 w37_0 H locs h hP hD hS => ?_)
  try dsimp only at h
  have hP : va_P D vwCl (wX10_car cI cJ cS a_o a_base a_refused a_share a_speed z_steps z_kind z_space z_other z_times z_notes z_pitch z_beats z_held z_sort z_size z_shown z_cells z_carried z_words z_tell z_was z_kept z_cutSpace z_cutTimes z_cutOff z_trace v_stretches v_cars v_tunes v_along v_near v_borne v_tempo v_seed v_fault v_from v_at v_end v_told v_wrongAt v_culprit v_ran v_isKept f_base w37_0 f_share f_speed) H := hP
  have hD : va_D A (wX10_car cI cJ cS a_o a_base a_refused a_share a_speed z_steps z_kind z_space z_other z_times z_notes z_pitch z_beats z_held z_sort z_size z_shown z_cells z_carried z_words z_tell z_was z_kept z_cutSpace z_cutTimes z_cutOff z_trace v_stretches v_cars v_tunes v_along v_near v_borne v_tempo v_seed v_fault v_from v_at v_end v_told v_wrongAt v_culprit v_ran v_isKept f_base w37_0 f_share f_speed) := hD
  exact W.iret hx hb hr (fun t ht _ => ⟨⟨_, (v_cars, f_base, w37_0, f_share, f_speed), rfl, h, hPt hP ht⟩, hS.F ht⟩) hS.2.2 dX10_car_40
/-! X10_carOf -/
abbrev wX10_carOf (cI cJ cS : ClassId) (a_o a_base a_refused a_share a_speed : Nat) (z_steps z_kind z_space z_other z_times z_notes z_pitch z_beats z_held z_sort z_size z_shown z_cells z_carried z_words z_tell z_was z_kept z_cutSpace z_cutTimes z_cutOff z_trace : Value) (v_stretches : Int32) (v_cars : Int32) (v_tunes : Int32) (v_along : Int32) (v_near : Int32) (v_borne : Int32) (v_tempo : Int32) (v_seed : Int32) (v_fault : Int32) (v_from : Int32) (v_at : Int32) (v_end : Int32) (v_told : Int32) (v_wrongAt : Int32) (v_culprit : Int32) (v_ran : Int32) (v_isKept : Int32) (f_base : Nat → Int32) (f_refused : Nat → Int32) (f_share : Nat → Int32) (f_speed : Nat → Int32) : va_W := [(a_o, .inr (9, [.int v_stretches, .int v_cars, .int v_tunes, .int v_along, .int v_near, .int v_borne, .int v_tempo, .int v_seed, .int v_fault, .ref a_refused, z_steps, z_kind, z_space, z_other, z_times, .ref a_speed, .ref a_base, .ref a_share, z_notes, z_pitch, z_beats, z_held, z_sort, z_size, z_shown, z_cells, z_carried, z_words, z_tell, .int v_from, .int v_at, .int v_end, .int v_told, .int v_wrongAt, z_was, z_kept, .int v_culprit, z_cutSpace, z_cutTimes, z_cutOff, z_trace, .int v_ran, .int v_isKept])), (a_base, .inl (cI, 6, .inl f_base)), (a_refused, .inl (cI, 8, .inl f_refused)), (a_share, .inl (cI, 6, .inl f_share)), (a_speed, .inl (cI, 6, .inl f_speed))]
def F_X10_carOf (v_cars : Int32) (f_base : Nat → Int32) (f_refused : Nat → Int32) (f_share : Nat → Int32) (f_speed : Nat → Int32) (x1 : Int32) (x2 : Int32) (post : Int32 → (Nat → Int32) → Prop) : Prop := (F_X10_isCar v_cars x1 (fun r2 => ((r2 = 0 → (F_X10_no f_refused (-5) (fun r20 w20_0 => post r20 w20_0))) ∧ (¬ r2 = 0 → ((x2 < 0 → (F_X10_no f_refused (-5) (fun r20 w20_0 => post r20 w20_0))) ∧ (¬ x2 < 0 → ((x2 ≤ 2 → ((x2 = 0 → (vp_in x1 6 ∧ post (f_speed x1.toNatClampNeg) f_refused)) ∧ (¬ x2 = 0 → ((x2 = 1 → (vp_in x1 6 ∧ post (f_base x1.toNatClampNeg) f_refused)) ∧ (¬ x2 = 1 → (vp_in x1 6 ∧ post (f_share x1.toNatClampNeg) f_refused)))))) ∧ (¬ x2 ≤ 2 → (F_X10_no f_refused (-5) (fun r20 w20_0 => post r20 w20_0))))))))))
set_option maxHeartbeats 4000000 in
set_option maxRecDepth 100000 in
theorem c_X10_carOf {l : Launch} {D : va_G} {cI cJ cS : ClassId} {ad adK : Nat → Nat} {a_o a_base a_refused a_share a_speed : Nat} {z_steps z_kind z_space z_other z_times z_notes z_pitch z_beats z_held z_sort z_size z_shown z_cells z_carried z_words z_tell z_was z_kept z_cutSpace z_cutTimes z_cutOff z_trace : Value} {v_stretches : Int32} {v_cars : Int32} {v_tunes : Int32} {v_along : Int32} {v_near : Int32} {v_borne : Int32} {v_tempo : Int32} {v_seed : Int32} {v_fault : Int32} {v_from : Int32} {v_at : Int32} {v_end : Int32} {v_told : Int32} {v_wrongAt : Int32} {v_culprit : Int32} {v_ran : Int32} {v_isKept : Int32} {f_base : Nat → Int32} {f_refused : Nat → Int32} {f_share : Nat → Int32} {f_speed : Nat → Int32} {x1 : Int32} {x2 : Int32} {post : Int32 → (Nat → Int32) → Prop} (h : F_X10_carOf v_cars f_base f_refused f_share f_speed x1 x2 post) {sz : Nat} : Met l yX10_carOf (Cond.code yX10_carOf cX10_carOf 3 (some (.int)) :: GW) (rmd 1 0 0) (PW D cI cJ cS ad adK [.ref a_o, .int x1, .int x2] (wX10_carOf cI cJ cS a_o a_base a_refused a_share a_speed z_steps z_kind z_space z_other z_times z_notes z_pitch z_beats z_held z_sort z_size z_shown z_cells z_carried z_words z_tell z_was z_kept z_cutSpace z_cutTimes z_cutOff z_trace v_stretches v_cars v_tunes v_along v_near v_borne v_tempo v_seed v_fault v_from v_at v_end v_told v_wrongAt v_culprit v_ran v_isKept f_base f_refused f_share f_speed) sz) (va_Qi (fun r (u : (Nat → Int32)) => post r u) (fun u t => va_P D vwCl (wX10_carOf cI cJ cS a_o a_base a_refused a_share a_speed z_steps z_kind z_space z_other z_times z_notes z_pitch z_beats z_held z_sort z_size z_shown z_cells z_carried z_words z_tell z_was z_kept z_cutSpace z_cutTimes z_cutOff z_trace v_stretches v_cars v_tunes v_along v_near v_borne v_tempo v_seed v_fault v_from v_at v_end v_told v_wrongAt v_culprit v_ran v_isKept f_base u f_share f_speed) t.heap) (va_A (wX10_carOf cI cJ cS a_o a_base a_refused a_share a_speed z_steps z_kind z_space z_other z_times z_notes z_pitch z_beats z_held z_sort z_size z_shown z_cells z_carried z_words z_tell z_was z_kept z_cutSpace z_cutTimes z_cutOff z_trace v_stretches v_cars v_tunes v_along v_near v_borne v_tempo v_seed v_fault v_from v_at v_end v_told v_wrongAt v_culprit v_ran v_isKept f_base f_refused f_share f_speed) sz)) 0 0 (va_A (wX10_carOf cI cJ cS a_o a_base a_refused a_share a_speed z_steps z_kind z_space z_other z_times z_notes z_pitch z_beats z_held z_sort z_size z_shown z_cells z_carried z_words z_tell z_was z_kept z_cutSpace z_cutTimes z_cutOff z_trace v_stretches v_cars v_tunes v_along v_near v_borne v_tempo v_seed v_fault v_from v_at v_end v_told v_wrongAt v_culprit v_ran v_isKept f_base f_refused f_share f_speed) sz) := by
  refine Met.rw (Qc := fun A => (va_Qi (fun r (u : (Nat → Int32)) => post r u) (fun u t => va_P D vwCl (wX10_carOf cI cJ cS a_o a_base a_refused a_share a_speed z_steps z_kind z_space z_other z_times z_notes z_pitch z_beats z_held z_sort z_size z_shown z_cells z_carried z_words z_tell z_was z_kept z_cutSpace z_cutTimes z_cutOff z_trace v_stretches v_cars v_tunes v_along v_near v_borne v_tempo v_seed v_fault v_from v_at v_end v_told v_wrongAt v_culprit v_ran v_isKept f_base u f_share f_speed) t.heap) A)) (by decide) (Nat.le_of_ble_eq_true rfl) (fun p e s m args below meth c ls A (S : CallFix p m c cX10_carOf 3 s args GW "RoadThatSingsModel") hE hT hP hD hA hS hr hlocks hname hl => ?_)
  have hS0 := hS
  have hx := S.1
  have hb := S.2.1
  have hl : lv_has ls 3 [(0, .ref a_o), (1, .int x1), (2, .int x2)] := hl
  unfold F_X10_carOf at h
  refine lv_aload_n hx hb dX10_carOf_0 rfl (lv_at hl 0 rfl) ?_
  refine lv_iload_n hx hb dX10_carOf_1 rfl (lv_at hl 1 rfl) ?_
  refine ro_i (roV S hE hT hS (c_X10_isCar h) lkX10_165 rfl ⟨(Nat.le_of_ble_eq_true rfl), (Nat.le_of_ble_eq_true rfl)⟩ (hP.sub [0] rfl) 0 rfl rfl hl.1 rfl (Nat.le_of_ble_eq_true rfl) dX10_carOf_2 ⟨(Nat.zero_le _), (Nat.zero_le _)⟩) (fun r2 h => ?_)
  refine lv_if_eq (tgt := 17) hx hb dX10_carOf_5 (by decide) (fun hc => ?_) (fun hc => ?_)
  · have h := h.1 hc
    refine lv_aload_n hx hb dX10_carOf_17 rfl (lv_at hl 0 rfl) ?_
    refine lv_bipush (v := (-5)) hx hb dX10_carOf_18 (by decide) ?_
    refine rw_i (rwV S hE hT hS hP hD hA (c_X10_no h) [0, 2] rfl (by decide) lkX10_121 rfl ⟨(Nat.le_of_ble_eq_true rfl), (Nat.le_of_ble_eq_true rfl)⟩ 0 rfl rfl hl.1 rfl (Nat.le_of_ble_eq_true rfl) dX10_carOf_20 ⟨(Nat.zero_le _), (Nat.zero_le _)⟩) hP hD hS hA [0, 2] rfl (by decide) (fun _ => rfl) (fun r20 w20_0 H locs h hP hD hS => ?_)
    try dsimp only at h
    have hP : va_P D vwCl (wX10_carOf cI cJ cS a_o a_base a_refused a_share a_speed z_steps z_kind z_space z_other z_times z_notes z_pitch z_beats z_held z_sort z_size z_shown z_cells z_carried z_words z_tell z_was z_kept z_cutSpace z_cutTimes z_cutOff z_trace v_stretches v_cars v_tunes v_along v_near v_borne v_tempo v_seed v_fault v_from v_at v_end v_told v_wrongAt v_culprit v_ran v_isKept f_base w20_0 f_share f_speed) H := hP
    have hD : va_D A (wX10_carOf cI cJ cS a_o a_base a_refused a_share a_speed z_steps z_kind z_space z_other z_times z_notes z_pitch z_beats z_held z_sort z_size z_shown z_cells z_carried z_words z_tell z_was z_kept z_cutSpace z_cutTimes z_cutOff z_trace v_stretches v_cars v_tunes v_along v_near v_borne v_tempo v_seed v_fault v_from v_at v_end v_told v_wrongAt v_culprit v_ran v_isKept f_base w20_0 f_share f_speed) := hD
    exact W.iret hx hb hr (fun t ht _ => ⟨⟨_, w20_0, rfl, h, hPt hP ht⟩, hS.F ht⟩) hS.2.2 dX10_carOf_23
  have h := h.2 hc
  refine lv_iload_n hx hb dX10_carOf_8 rfl (lv_at hl 2 rfl) ?_
  refine lv_if_lt (tgt := 17) hx hb dX10_carOf_9 (by decide) (fun hc => ?_) (fun hc => ?_)
  · have h := h.1 hc
    refine lv_aload_n hx hb dX10_carOf_17 rfl (lv_at hl 0 rfl) ?_
    refine lv_bipush (v := (-5)) hx hb dX10_carOf_18 (by decide) ?_
    refine rw_i (rwV S hE hT hS hP hD hA (c_X10_no h) [0, 2] rfl (by decide) lkX10_121 rfl ⟨(Nat.le_of_ble_eq_true rfl), (Nat.le_of_ble_eq_true rfl)⟩ 0 rfl rfl hl.1 rfl (Nat.le_of_ble_eq_true rfl) dX10_carOf_20 ⟨(Nat.zero_le _), (Nat.zero_le _)⟩) hP hD hS hA [0, 2] rfl (by decide) (fun _ => rfl) (fun r20 w20_0 H locs h hP hD hS => ?_)
    try dsimp only at h
    have hP : va_P D vwCl (wX10_carOf cI cJ cS a_o a_base a_refused a_share a_speed z_steps z_kind z_space z_other z_times z_notes z_pitch z_beats z_held z_sort z_size z_shown z_cells z_carried z_words z_tell z_was z_kept z_cutSpace z_cutTimes z_cutOff z_trace v_stretches v_cars v_tunes v_along v_near v_borne v_tempo v_seed v_fault v_from v_at v_end v_told v_wrongAt v_culprit v_ran v_isKept f_base w20_0 f_share f_speed) H := hP
    have hD : va_D A (wX10_carOf cI cJ cS a_o a_base a_refused a_share a_speed z_steps z_kind z_space z_other z_times z_notes z_pitch z_beats z_held z_sort z_size z_shown z_cells z_carried z_words z_tell z_was z_kept z_cutSpace z_cutTimes z_cutOff z_trace v_stretches v_cars v_tunes v_along v_near v_borne v_tempo v_seed v_fault v_from v_at v_end v_told v_wrongAt v_culprit v_ran v_isKept f_base w20_0 f_share f_speed) := hD
    exact W.iret hx hb hr (fun t ht _ => ⟨⟨_, w20_0, rfl, h, hPt hP ht⟩, hS.F ht⟩) hS.2.2 dX10_carOf_23
  have h := h.2 hc
  refine lv_iload_n hx hb dX10_carOf_12 rfl (lv_at hl 2 rfl) ?_
  refine lv_iconst (v := 2) hx hb dX10_carOf_13 (by decide) ?_
  refine lv_icmp_le (tgt := 24) hx hb dX10_carOf_14 (by decide) (fun hc => ?_) (fun hc => ?_)
  · have h := h.1 hc
    refine lv_iload_n hx hb dX10_carOf_24 rfl (lv_at hl 2 rfl) ?_
    refine lv_if_ne (tgt := 37) hx hb dX10_carOf_25 (by decide) (fun hc => ?_) (fun hc => ?_)
    · have h := h.2 hc
      refine lv_iload_n hx hb dX10_carOf_37 rfl (lv_at hl 2 rfl) ?_
      refine lv_iconst (v := 1) hx hb dX10_carOf_38 (by decide) ?_
      refine lv_icmp_ne (tgt := 51) hx hb dX10_carOf_39 (by decide) (fun hc => ?_) (fun hc => ?_)
      · have h := h.2 hc
        refine lv_aload_n hx hb dX10_carOf_51 rfl (lv_at hl 0 rfl) ?_
        refine gf S hE hP 0 rfl rfl inX10 (k := 17) (by decide) q1110 rfl dX10_carOf_52 ?_
        refine lv_iload_n hx hb dX10_carOf_55 rfl (lv_at hl 1 rfl) ?_
        obtain ⟨hi, h⟩ := h
        refine ial S hE hP 3 rfl hi dX10_carOf_56 ?_
        exact W.iret hx hb hr (fun t ht _ => ⟨⟨_, f_refused, rfl, h, hPt hP ht⟩, hS.F ht⟩) hS.2.2 dX10_carOf_57
      have h := h.1 hc
      refine lv_aload_n hx hb dX10_carOf_42 rfl (lv_at hl 0 rfl) ?_
      refine gf S hE hP 0 rfl rfl inX10 (k := 16) (by decide) q1109 rfl dX10_carOf_43 ?_
      refine lv_iload_n hx hb dX10_carOf_46 rfl (lv_at hl 1 rfl) ?_
      obtain ⟨hi, h⟩ := h
      refine ial S hE hP 1 rfl hi dX10_carOf_47 ?_
      refine lv_goto (tgt := 57) hx hb dX10_carOf_48 (by decide) ?_
      exact W.iret hx hb hr (fun t ht _ => ⟨⟨_, f_refused, rfl, h, hPt hP ht⟩, hS.F ht⟩) hS.2.2 dX10_carOf_57
    have h := h.1 hc
    refine lv_aload_n hx hb dX10_carOf_28 rfl (lv_at hl 0 rfl) ?_
    refine gf S hE hP 0 rfl rfl inX10 (k := 15) (by decide) q1108 rfl dX10_carOf_29 ?_
    refine lv_iload_n hx hb dX10_carOf_32 rfl (lv_at hl 1 rfl) ?_
    obtain ⟨hi, h⟩ := h
    refine ial S hE hP 4 rfl hi dX10_carOf_33 ?_
    refine lv_goto (tgt := 57) hx hb dX10_carOf_34 (by decide) ?_
    exact W.iret hx hb hr (fun t ht _ => ⟨⟨_, f_refused, rfl, h, hPt hP ht⟩, hS.F ht⟩) hS.2.2 dX10_carOf_57
  have h := h.2 hc
  refine lv_aload_n hx hb dX10_carOf_17 rfl (lv_at hl 0 rfl) ?_
  refine lv_bipush (v := (-5)) hx hb dX10_carOf_18 (by decide) ?_
  refine rw_i (rwV S hE hT hS hP hD hA (c_X10_no h) [0, 2] rfl (by decide) lkX10_121 rfl ⟨(Nat.le_of_ble_eq_true rfl), (Nat.le_of_ble_eq_true rfl)⟩ 0 rfl rfl hl.1 rfl (Nat.le_of_ble_eq_true rfl) dX10_carOf_20 ⟨(Nat.zero_le _), (Nat.zero_le _)⟩) hP hD hS hA [0, 2] rfl (by decide) (fun _ => rfl) (fun r20 w20_0 H locs h hP hD hS => ?_)
  try dsimp only at h
  have hP : va_P D vwCl (wX10_carOf cI cJ cS a_o a_base a_refused a_share a_speed z_steps z_kind z_space z_other z_times z_notes z_pitch z_beats z_held z_sort z_size z_shown z_cells z_carried z_words z_tell z_was z_kept z_cutSpace z_cutTimes z_cutOff z_trace v_stretches v_cars v_tunes v_along v_near v_borne v_tempo v_seed v_fault v_from v_at v_end v_told v_wrongAt v_culprit v_ran v_isKept f_base w20_0 f_share f_speed) H := hP
  have hD : va_D A (wX10_carOf cI cJ cS a_o a_base a_refused a_share a_speed z_steps z_kind z_space z_other z_times z_notes z_pitch z_beats z_held z_sort z_size z_shown z_cells z_carried z_words z_tell z_was z_kept z_cutSpace z_cutTimes z_cutOff z_trace v_stretches v_cars v_tunes v_along v_near v_borne v_tempo v_seed v_fault v_from v_at v_end v_told v_wrongAt v_culprit v_ran v_isKept f_base w20_0 f_share f_speed) := hD
  exact W.iret hx hb hr (fun t ht _ => ⟨⟨_, w20_0, rfl, h, hPt hP ht⟩, hS.F ht⟩) hS.2.2 dX10_carOf_23
/-! X10_tune -/
abbrev wX10_tune (cI cJ cS : ClassId) (a_o a_beats a_cells a_held a_notes a_pitch a_refused a_size : Nat) (z_steps z_kind z_space z_other z_times z_speed z_base z_share z_sort z_shown z_carried z_words z_tell z_was z_kept z_cutSpace z_cutTimes z_cutOff z_trace : Value) (v_stretches : Int32) (v_cars : Int32) (v_tunes : Int32) (v_along : Int32) (v_near : Int32) (v_borne : Int32) (v_tempo : Int32) (v_seed : Int32) (v_fault : Int32) (v_from : Int32) (v_at : Int32) (v_end : Int32) (v_told : Int32) (v_wrongAt : Int32) (v_culprit : Int32) (v_ran : Int32) (v_isKept : Int32) (f_beats : Nat → Int32) (g_cells : Nat → Int64) (f_held : Nat → Int32) (f_notes : Nat → Int32) (f_pitch : Nat → Int32) (f_refused : Nat → Int32) (f_size : Nat → Int32) : va_W := [(a_o, .inr (9, [.int v_stretches, .int v_cars, .int v_tunes, .int v_along, .int v_near, .int v_borne, .int v_tempo, .int v_seed, .int v_fault, .ref a_refused, z_steps, z_kind, z_space, z_other, z_times, z_speed, z_base, z_share, .ref a_notes, .ref a_pitch, .ref a_beats, .ref a_held, z_sort, .ref a_size, z_shown, .ref a_cells, z_carried, z_words, z_tell, .int v_from, .int v_at, .int v_end, .int v_told, .int v_wrongAt, z_was, z_kept, .int v_culprit, z_cutSpace, z_cutTimes, z_cutOff, z_trace, .int v_ran, .int v_isKept])), (a_beats, .inl (cI, 72, .inl f_beats)), (a_cells, .inl (cJ, 1280, .inr (.inl g_cells))), (a_held, .inl (cI, 8, .inl f_held)), (a_notes, .inl (cI, 6, .inl f_notes)), (a_pitch, .inl (cI, 72, .inl f_pitch)), (a_refused, .inl (cI, 8, .inl f_refused)), (a_size, .inl (cI, 8, .inl f_size))]
def F_X10_tune_128 (k62 : Int32 → Int32 → Prop) (x1 : Int32) (x2 : Int32) (x5 : Int32) (v_tunes : Int32) (f_beats : Nat → Int32) (f_notes : Nat → Int32) (f_pitch : Nat → Int32) (f_refused : Nat → Int32) (s0 : Int32) : Prop := (∀ x5_130 : Int32, x5_130 = x5 + 1 → k62 s0 x5_130)
def F_X10_tune_127 (k62 : Int32 → Int32 → Prop) (x1 : Int32) (x2 : Int32) (x5 : Int32) (v_tunes : Int32) (f_beats : Nat → Int32) (f_notes : Nat → Int32) (f_pitch : Nat → Int32) (f_refused : Nat → Int32) : Prop := F_X10_tune_128 k62 x1 x2 x5 v_tunes f_beats f_notes f_pitch f_refused 0
def L_X10_tune_62 (g_cells : Nat → Int64) (x1 : Int32) (x2 : Int32) (v_tunes : Int32) (f_beats : Nat → Int32) (f_notes : Nat → Int32) (f_pitch : Nat → Int32) (f_refused : Nat → Int32) (k136 : Int32 → Prop) : Nat → Int32 → Int32 → Prop
  | 0, _, _ => False
  | n62 + 1, x4, x5 => ((x2 ≤ x5 → k136 x4) ∧ (¬ x2 ≤ x5 → ((x4 = 0 → k136 x4) ∧ (¬ x4 = 0 → (F_X10_intAt g_cells x1 (2 * x5) (fun r79 => (F_X10_intAt g_cells x1 ((2 * x5) + 1) (fun r92 => ((r79 < 0 → F_X10_tune_127 (fun x4 x5 => L_X10_tune_62 g_cells x1 x2 v_tunes f_beats f_notes f_pitch f_refused k136 n62 x4 x5) x1 x2 x5 v_tunes f_beats f_notes f_pitch f_refused) ∧ (¬ r79 < 0 → ((9999 < r79 → F_X10_tune_127 (fun x4 x5 => L_X10_tune_62 g_cells x1 x2 v_tunes f_beats f_notes f_pitch f_refused k136 n62 x4 x5) x1 x2 x5 v_tunes f_beats f_notes f_pitch f_refused) ∧ (¬ 9999 < r79 → ((r92 < 1 → F_X10_tune_127 (fun x4 x5 => L_X10_tune_62 g_cells x1 x2 v_tunes f_beats f_notes f_pitch f_refused k136 n62 x4 x5) x1 x2 x5 v_tunes f_beats f_notes f_pitch f_refused) ∧ (¬ r92 < 1 → ((16 < r92 → F_X10_tune_127 (fun x4 x5 => L_X10_tune_62 g_cells x1 x2 v_tunes f_beats f_notes f_pitch f_refused k136 n62 x4 x5) x1 x2 x5 v_tunes f_beats f_notes f_pitch f_refused) ∧ (¬ 16 < r92 → F_X10_tune_128 (fun x4 x5 => L_X10_tune_62 g_cells x1 x2 v_tunes f_beats f_notes f_pitch f_refused k136 n62 x4 x5) x1 x2 x5 v_tunes f_beats f_notes f_pitch f_refused 1))))))))))))))))
def L_X10_tune_177 (g_cells : Nat → Int64) (x1 : Int32) (x2 : Int32) (f_notes : Nat → Int32) (f_refused : Nat → Int32) (post : Int32 → Int32 → (Nat → Int32) → (Nat → Int32) → (Nat → Int32) → (Nat → Int32) → Prop) : Nat → Int32 → Int32 → (Nat → Int32) → (Nat → Int32) → Prop
  | 0, _, _, _, _ => False
  | n177 + 1, x5, v_tunes, f_beats, f_pitch => ((x2 ≤ x5 → post v_tunes (v_tunes + 1) f_beats f_notes f_pitch f_refused) ∧ (¬ x2 ≤ x5 → (F_X10_intAt g_cells x1 (2 * x5) (fun r203 => (vp_in ((12 * v_tunes) + x5) 72 ∧ (F_X10_intAt g_cells x1 ((2 * x5) + 1) (fun r229 => (vp_in ((12 * v_tunes) + x5) 72 ∧ (∀ x5_233 : Int32, x5_233 = x5 + 1 → L_X10_tune_177 g_cells x1 x2 f_notes f_refused post n177 x5_233 v_tunes (upd f_beats ((12 * v_tunes) + x5).toNatClampNeg r229) (upd f_pitch ((12 * v_tunes) + x5).toNatClampNeg r203))))))))))
def F_X10_tune_136 (g_cells : Nat → Int64) (post : Int32 → Int32 → (Nat → Int32) → (Nat → Int32) → (Nat → Int32) → (Nat → Int32) → Prop) (x1 : Int32) (x2 : Int32) (x4 : Int32) (v_tunes : Int32) (f_beats : Nat → Int32) (f_notes : Nat → Int32) (f_pitch : Nat → Int32) (f_refused : Nat → Int32) : Prop := ((x4 = 0 → (F_X10_no f_refused (-6) (fun r144 w144_0 => post r144 v_tunes f_beats f_notes f_pitch w144_0))) ∧ (¬ x4 = 0 → ((v_tunes = 6 → (F_X10_no f_refused (-7) (fun r160 w160_0 => post r160 v_tunes f_beats f_notes f_pitch w160_0))) ∧ (¬ v_tunes = 6 → (vp_in v_tunes 6 ∧ (∃ n177 : Nat, L_X10_tune_177 g_cells x1 x2 (upd f_notes v_tunes.toNatClampNeg x2) f_refused post n177 0 v_tunes f_beats f_pitch))))))
def F_X10_tune_57 (g_cells : Nat → Int64) (post : Int32 → Int32 → (Nat → Int32) → (Nat → Int32) → (Nat → Int32) → (Nat → Int32) → Prop) (x1 : Int32) (x2 : Int32) (v_tunes : Int32) (f_beats : Nat → Int32) (f_notes : Nat → Int32) (f_pitch : Nat → Int32) (f_refused : Nat → Int32) (s0 : Int32) : Prop := (∃ n62 : Nat, L_X10_tune_62 g_cells x1 x2 v_tunes f_beats f_notes f_pitch f_refused (fun x4_1 => F_X10_tune_136 g_cells post x1 x2 x4_1 v_tunes f_beats f_notes f_pitch f_refused) n62 s0 0)
def F_X10_tune (v_tunes : Int32) (f_beats : Nat → Int32) (g_cells : Nat → Int64) (f_held : Nat → Int32) (f_notes : Nat → Int32) (f_pitch : Nat → Int32) (f_refused : Nat → Int32) (f_size : Nat → Int32) (x1 : Int32) (x2 : Int32) (post : Int32 → Int32 → (Nat → Int32) → (Nat → Int32) → (Nat → Int32) → (Nat → Int32) → Prop) : Prop := (F_X10_wants f_held x1 (fun r2 => ((r2 = 0 → ((0 ≤ x2 → (vp_in x1 8 ∧ ((x2 ≤ ((f_size x1.toNatClampNeg) / 2) → ((12 < x2 → F_X10_tune_57 g_cells post x1 x2 v_tunes f_beats f_notes f_pitch f_refused 0) ∧ (¬ 12 < x2 → F_X10_tune_57 g_cells post x1 x2 v_tunes f_beats f_notes f_pitch f_refused 1))) ∧ (¬ x2 ≤ ((f_size x1.toNatClampNeg) / 2) → (F_X10_no f_refused (-5) (fun r42 w42_0 => post r42 v_tunes f_beats f_notes f_pitch w42_0)))))) ∧ (¬ 0 ≤ x2 → (F_X10_no f_refused (-4) (fun r23 w23_0 => post r23 v_tunes f_beats f_notes f_pitch w23_0))))) ∧ (¬ r2 = 0 → (F_X10_no f_refused r2 (fun r12 w12_0 => post r12 v_tunes f_beats f_notes f_pitch w12_0))))))
set_option maxHeartbeats 4000000 in
set_option maxRecDepth 100000 in
theorem w_X10_tune_128 {l : Launch} {D : va_G} {cI cJ cS : ClassId} {ad adK : Nat → Nat} {a_o a_beats a_cells a_held a_notes a_pitch a_refused a_size : Nat} {z_steps z_kind z_space z_other z_times z_speed z_base z_share z_sort z_shown z_carried z_words z_tell z_was z_kept z_cutSpace z_cutTimes z_cutOff z_trace : Value} {v_stretches : Int32} {v_cars : Int32} {v_tunes : Int32} {v_along : Int32} {v_near : Int32} {v_borne : Int32} {v_tempo : Int32} {v_seed : Int32} {v_fault : Int32} {v_from : Int32} {v_at : Int32} {v_end : Int32} {v_told : Int32} {v_wrongAt : Int32} {v_culprit : Int32} {v_ran : Int32} {v_isKept : Int32} {f_beats : Nat → Int32} {g_cells : Nat → Int64} {f_held : Nat → Int32} {f_notes : Nat → Int32} {f_pitch : Nat → Int32} {f_refused : Nat → Int32} {f_size : Nat → Int32} {x1 : Int32} {x2 : Int32} {x5 : Int32} {s0 : Int32} {post : Int32 → Int32 → (Nat → Int32) → (Nat → Int32) → (Nat → Int32) → (Nat → Int32) → Prop} {k62 : Int32 → Int32 → Prop} {p : Program} {e : Env} {s : State} {m : MethodId} {args : Array Value} {below : List Frame} {meth : Method} {c : Code} {A : Nat → Prop} (S : CallFix p m c cX10_tune 8 s args GW "RoadThatSingsModel") (hE : EN D cI cJ cS s) (hT : ST ad adK A s s.heap) (hA : ∀ q : Nat, s.heap.size ≤ q → A q) (hr : meth.sig.returnType = (some (.int))) (hlocks : meth.locks = false) (hk62 : ∀ (x4 : Int32) (x5 : Int32) (H : Heap) (locs : List Loc) (ls : Array Slot), k62 x4 x5 → va_P D vwCl (wX10_tune cI cJ cS a_o a_beats a_cells a_held a_notes a_pitch a_refused a_size z_steps z_kind z_space z_other z_times z_speed z_base z_share z_sort z_shown z_carried z_words z_tell z_was z_kept z_cutSpace z_cutTimes z_cutOff z_trace v_stretches v_cars v_tunes v_along v_near v_borne v_tempo v_seed v_fault v_from v_at v_end v_told v_wrongAt v_culprit v_ran v_isKept f_beats g_cells f_held f_notes f_pitch f_refused f_size) H → va_D A (wX10_tune cI cJ cS a_o a_beats a_cells a_held a_notes a_pitch a_refused a_size z_steps z_kind z_space z_other z_times z_speed z_base z_share z_sort z_shown z_carried z_words z_tell z_was z_kept z_cutSpace z_cutTimes z_cutOff z_trace v_stretches v_cars v_tunes v_along v_near v_borne v_tempo v_seed v_fault v_from v_at v_end v_told v_wrongAt v_culprit v_ran v_isKept f_beats g_cells f_held f_notes f_pitch f_refused f_size) → va_S A s.heap H locs → lv_has ls 8 [(0, .ref a_o), (1, .int x1), (2, .int x2), (4, .int x4), (5, .int x5)] → W p l e (rmd 2 0 0) s m args below meth c H locs 0 0 (MQ below (va_Qi (fun r (u : Int32 × (Nat → Int32) × (Nat → Int32) × (Nat → Int32) × (Nat → Int32)) => post r u.1 u.2.1 u.2.2.1 u.2.2.2.1 u.2.2.2.2) (fun u t => va_P D vwCl (wX10_tune cI cJ cS a_o a_beats a_cells a_held a_notes a_pitch a_refused a_size z_steps z_kind z_space z_other z_times z_speed z_base z_share z_sort z_shown z_carried z_words z_tell z_was z_kept z_cutSpace z_cutTimes z_cutOff z_trace v_stretches v_cars u.1 v_along v_near v_borne v_tempo v_seed v_fault v_from v_at v_end v_told v_wrongAt v_culprit v_ran v_isKept u.2.1 g_cells f_held u.2.2.1 u.2.2.2.1 u.2.2.2.2 f_size) t.heap) A) args s 0 0 A) (F0 m 62 ls [])) : ∀ (H : Heap) (locs : List Loc) (ls : Array Slot), F_X10_tune_128 k62 x1 x2 x5 v_tunes f_beats f_notes f_pitch f_refused s0 → va_P D vwCl (wX10_tune cI cJ cS a_o a_beats a_cells a_held a_notes a_pitch a_refused a_size z_steps z_kind z_space z_other z_times z_speed z_base z_share z_sort z_shown z_carried z_words z_tell z_was z_kept z_cutSpace z_cutTimes z_cutOff z_trace v_stretches v_cars v_tunes v_along v_near v_borne v_tempo v_seed v_fault v_from v_at v_end v_told v_wrongAt v_culprit v_ran v_isKept f_beats g_cells f_held f_notes f_pitch f_refused f_size) H → va_D A (wX10_tune cI cJ cS a_o a_beats a_cells a_held a_notes a_pitch a_refused a_size z_steps z_kind z_space z_other z_times z_speed z_base z_share z_sort z_shown z_carried z_words z_tell z_was z_kept z_cutSpace z_cutTimes z_cutOff z_trace v_stretches v_cars v_tunes v_along v_near v_borne v_tempo v_seed v_fault v_from v_at v_end v_told v_wrongAt v_culprit v_ran v_isKept f_beats g_cells f_held f_notes f_pitch f_refused f_size) → va_S A s.heap H locs → lv_has ls 8 [(0, .ref a_o), (1, .int x1), (2, .int x2), (5, .int x5)] → W p l e (rmd 2 0 0) s m args below meth c H locs 0 0 (MQ below (va_Qi (fun r (u : Int32 × (Nat → Int32) × (Nat → Int32) × (Nat → Int32) × (Nat → Int32)) => post r u.1 u.2.1 u.2.2.1 u.2.2.2.1 u.2.2.2.2) (fun u t => va_P D vwCl (wX10_tune cI cJ cS a_o a_beats a_cells a_held a_notes a_pitch a_refused a_size z_steps z_kind z_space z_other z_times z_speed z_base z_share z_sort z_shown z_carried z_words z_tell z_was z_kept z_cutSpace z_cutTimes z_cutOff z_trace v_stretches v_cars u.1 v_along v_near v_borne v_tempo v_seed v_fault v_from v_at v_end v_told v_wrongAt v_culprit v_ran v_isKept u.2.1 g_cells f_held u.2.2.1 u.2.2.2.1 u.2.2.2.2 f_size) t.heap) A) args s 0 0 A) (F0 m 128 ls [.int s0]) := by
  intro  H locs ls h hP hD hS hl
  unfold F_X10_tune_128 at h
  have hx := S.1
  have hb := S.2.1
  refine lv_istore (lv' := [(4, .int s0), (0, .ref a_o), (1, .int x1), (2, .int x2), (5, .int x5)]) hx hb dX10_tune_128 hl (by decide) rfl (fun ls hl => ?_)
  obtain ⟨x5_130, ex5_130⟩ : ∃ z : Int32, z = x5 + 1 := ⟨_, rfl⟩
  have h := h _ ex5_130
  refine lv_iinc (v := x5_130) (lv' := [(5, .int x5_130), (4, .int s0), (0, .ref a_o), (1, .int x1), (2, .int x2)]) hx hb dX10_tune_130 hl (k := 4) rfl (by rw [ex5_130]; rfl) (by decide) rfl (fun ls hl => ?_)
  refine lv_goto (tgt := 62) hx hb dX10_tune_133 (by decide) ?_
  exact hk62 _ _ _ _ _ h hP hD hS (lv_sub hl [2, 3, 4, 1, 0] rfl)
set_option maxHeartbeats 4000000 in
set_option maxRecDepth 100000 in
theorem w_X10_tune_127 {l : Launch} {D : va_G} {cI cJ cS : ClassId} {ad adK : Nat → Nat} {a_o a_beats a_cells a_held a_notes a_pitch a_refused a_size : Nat} {z_steps z_kind z_space z_other z_times z_speed z_base z_share z_sort z_shown z_carried z_words z_tell z_was z_kept z_cutSpace z_cutTimes z_cutOff z_trace : Value} {v_stretches : Int32} {v_cars : Int32} {v_tunes : Int32} {v_along : Int32} {v_near : Int32} {v_borne : Int32} {v_tempo : Int32} {v_seed : Int32} {v_fault : Int32} {v_from : Int32} {v_at : Int32} {v_end : Int32} {v_told : Int32} {v_wrongAt : Int32} {v_culprit : Int32} {v_ran : Int32} {v_isKept : Int32} {f_beats : Nat → Int32} {g_cells : Nat → Int64} {f_held : Nat → Int32} {f_notes : Nat → Int32} {f_pitch : Nat → Int32} {f_refused : Nat → Int32} {f_size : Nat → Int32} {x1 : Int32} {x2 : Int32} {x5 : Int32} {post : Int32 → Int32 → (Nat → Int32) → (Nat → Int32) → (Nat → Int32) → (Nat → Int32) → Prop} {k62 : Int32 → Int32 → Prop} {p : Program} {e : Env} {s : State} {m : MethodId} {args : Array Value} {below : List Frame} {meth : Method} {c : Code} {A : Nat → Prop} (S : CallFix p m c cX10_tune 8 s args GW "RoadThatSingsModel") (hE : EN D cI cJ cS s) (hT : ST ad adK A s s.heap) (hA : ∀ q : Nat, s.heap.size ≤ q → A q) (hr : meth.sig.returnType = (some (.int))) (hlocks : meth.locks = false) (hk62 : ∀ (x4 : Int32) (x5 : Int32) (H : Heap) (locs : List Loc) (ls : Array Slot), k62 x4 x5 → va_P D vwCl (wX10_tune cI cJ cS a_o a_beats a_cells a_held a_notes a_pitch a_refused a_size z_steps z_kind z_space z_other z_times z_speed z_base z_share z_sort z_shown z_carried z_words z_tell z_was z_kept z_cutSpace z_cutTimes z_cutOff z_trace v_stretches v_cars v_tunes v_along v_near v_borne v_tempo v_seed v_fault v_from v_at v_end v_told v_wrongAt v_culprit v_ran v_isKept f_beats g_cells f_held f_notes f_pitch f_refused f_size) H → va_D A (wX10_tune cI cJ cS a_o a_beats a_cells a_held a_notes a_pitch a_refused a_size z_steps z_kind z_space z_other z_times z_speed z_base z_share z_sort z_shown z_carried z_words z_tell z_was z_kept z_cutSpace z_cutTimes z_cutOff z_trace v_stretches v_cars v_tunes v_along v_near v_borne v_tempo v_seed v_fault v_from v_at v_end v_told v_wrongAt v_culprit v_ran v_isKept f_beats g_cells f_held f_notes f_pitch f_refused f_size) → va_S A s.heap H locs → lv_has ls 8 [(0, .ref a_o), (1, .int x1), (2, .int x2), (4, .int x4), (5, .int x5)] → W p l e (rmd 2 0 0) s m args below meth c H locs 0 0 (MQ below (va_Qi (fun r (u : Int32 × (Nat → Int32) × (Nat → Int32) × (Nat → Int32) × (Nat → Int32)) => post r u.1 u.2.1 u.2.2.1 u.2.2.2.1 u.2.2.2.2) (fun u t => va_P D vwCl (wX10_tune cI cJ cS a_o a_beats a_cells a_held a_notes a_pitch a_refused a_size z_steps z_kind z_space z_other z_times z_speed z_base z_share z_sort z_shown z_carried z_words z_tell z_was z_kept z_cutSpace z_cutTimes z_cutOff z_trace v_stretches v_cars u.1 v_along v_near v_borne v_tempo v_seed v_fault v_from v_at v_end v_told v_wrongAt v_culprit v_ran v_isKept u.2.1 g_cells f_held u.2.2.1 u.2.2.2.1 u.2.2.2.2 f_size) t.heap) A) args s 0 0 A) (F0 m 62 ls [])) : ∀ (H : Heap) (locs : List Loc) (ls : Array Slot), F_X10_tune_127 k62 x1 x2 x5 v_tunes f_beats f_notes f_pitch f_refused → va_P D vwCl (wX10_tune cI cJ cS a_o a_beats a_cells a_held a_notes a_pitch a_refused a_size z_steps z_kind z_space z_other z_times z_speed z_base z_share z_sort z_shown z_carried z_words z_tell z_was z_kept z_cutSpace z_cutTimes z_cutOff z_trace v_stretches v_cars v_tunes v_along v_near v_borne v_tempo v_seed v_fault v_from v_at v_end v_told v_wrongAt v_culprit v_ran v_isKept f_beats g_cells f_held f_notes f_pitch f_refused f_size) H → va_D A (wX10_tune cI cJ cS a_o a_beats a_cells a_held a_notes a_pitch a_refused a_size z_steps z_kind z_space z_other z_times z_speed z_base z_share z_sort z_shown z_carried z_words z_tell z_was z_kept z_cutSpace z_cutTimes z_cutOff z_trace v_stretches v_cars v_tunes v_along v_near v_borne v_tempo v_seed v_fault v_from v_at v_end v_told v_wrongAt v_culprit v_ran v_isKept f_beats g_cells f_held f_notes f_pitch f_refused f_size) → va_S A s.heap H locs → lv_has ls 8 [(0, .ref a_o), (1, .int x1), (2, .int x2), (5, .int x5)] → W p l e (rmd 2 0 0) s m args below meth c H locs 0 0 (MQ below (va_Qi (fun r (u : Int32 × (Nat → Int32) × (Nat → Int32) × (Nat → Int32) × (Nat → Int32)) => post r u.1 u.2.1 u.2.2.1 u.2.2.2.1 u.2.2.2.2) (fun u t => va_P D vwCl (wX10_tune cI cJ cS a_o a_beats a_cells a_held a_notes a_pitch a_refused a_size z_steps z_kind z_space z_other z_times z_speed z_base z_share z_sort z_shown z_carried z_words z_tell z_was z_kept z_cutSpace z_cutTimes z_cutOff z_trace v_stretches v_cars u.1 v_along v_near v_borne v_tempo v_seed v_fault v_from v_at v_end v_told v_wrongAt v_culprit v_ran v_isKept u.2.1 g_cells f_held u.2.2.1 u.2.2.2.1 u.2.2.2.2 f_size) t.heap) A) args s 0 0 A) (F0 m 127 ls []) := by
  intro  H locs ls h hP hD hS hl
  unfold F_X10_tune_127 at h
  have hx := S.1
  have hb := S.2.1
  refine lv_iconst (v := 0) hx hb dX10_tune_127 (by decide) ?_
  refine w_X10_tune_128 S hE hT hA hr hlocks hk62 _ _ _ h hP hD hS (lv_sub hl [0, 1, 2, 3] rfl)
set_option maxHeartbeats 4000000 in
set_option maxRecDepth 100000 in
theorem w_X10_tune_62 {l : Launch} {D : va_G} {cI cJ cS : ClassId} {ad adK : Nat → Nat} {a_o a_beats a_cells a_held a_notes a_pitch a_refused a_size : Nat} {z_steps z_kind z_space z_other z_times z_speed z_base z_share z_sort z_shown z_carried z_words z_tell z_was z_kept z_cutSpace z_cutTimes z_cutOff z_trace : Value} {v_stretches : Int32} {v_cars : Int32} {v_tunes : Int32} {v_along : Int32} {v_near : Int32} {v_borne : Int32} {v_tempo : Int32} {v_seed : Int32} {v_fault : Int32} {v_from : Int32} {v_at : Int32} {v_end : Int32} {v_told : Int32} {v_wrongAt : Int32} {v_culprit : Int32} {v_ran : Int32} {v_isKept : Int32} {f_beats : Nat → Int32} {g_cells : Nat → Int64} {f_held : Nat → Int32} {f_notes : Nat → Int32} {f_pitch : Nat → Int32} {f_refused : Nat → Int32} {f_size : Nat → Int32} {x1 : Int32} {x2 : Int32} {post : Int32 → Int32 → (Nat → Int32) → (Nat → Int32) → (Nat → Int32) → (Nat → Int32) → Prop} {k136 : Int32 → Prop} {p : Program} {e : Env} {s : State} {m : MethodId} {args : Array Value} {below : List Frame} {meth : Method} {c : Code} {A : Nat → Prop} (S : CallFix p m c cX10_tune 8 s args GW "RoadThatSingsModel") (hE : EN D cI cJ cS s) (hT : ST ad adK A s s.heap) (hA : ∀ q : Nat, s.heap.size ≤ q → A q) (hr : meth.sig.returnType = (some (.int))) (hlocks : meth.locks = false) (hk136 : ∀ (x4 : Int32) (H : Heap) (locs : List Loc) (ls : Array Slot), k136 x4 → va_P D vwCl (wX10_tune cI cJ cS a_o a_beats a_cells a_held a_notes a_pitch a_refused a_size z_steps z_kind z_space z_other z_times z_speed z_base z_share z_sort z_shown z_carried z_words z_tell z_was z_kept z_cutSpace z_cutTimes z_cutOff z_trace v_stretches v_cars v_tunes v_along v_near v_borne v_tempo v_seed v_fault v_from v_at v_end v_told v_wrongAt v_culprit v_ran v_isKept f_beats g_cells f_held f_notes f_pitch f_refused f_size) H → va_D A (wX10_tune cI cJ cS a_o a_beats a_cells a_held a_notes a_pitch a_refused a_size z_steps z_kind z_space z_other z_times z_speed z_base z_share z_sort z_shown z_carried z_words z_tell z_was z_kept z_cutSpace z_cutTimes z_cutOff z_trace v_stretches v_cars v_tunes v_along v_near v_borne v_tempo v_seed v_fault v_from v_at v_end v_told v_wrongAt v_culprit v_ran v_isKept f_beats g_cells f_held f_notes f_pitch f_refused f_size) → va_S A s.heap H locs → lv_has ls 8 [(0, .ref a_o), (1, .int x1), (2, .int x2), (4, .int x4)] → W p l e (rmd 2 0 0) s m args below meth c H locs 0 0 (MQ below (va_Qi (fun r (u : Int32 × (Nat → Int32) × (Nat → Int32) × (Nat → Int32) × (Nat → Int32)) => post r u.1 u.2.1 u.2.2.1 u.2.2.2.1 u.2.2.2.2) (fun u t => va_P D vwCl (wX10_tune cI cJ cS a_o a_beats a_cells a_held a_notes a_pitch a_refused a_size z_steps z_kind z_space z_other z_times z_speed z_base z_share z_sort z_shown z_carried z_words z_tell z_was z_kept z_cutSpace z_cutTimes z_cutOff z_trace v_stretches v_cars u.1 v_along v_near v_borne v_tempo v_seed v_fault v_from v_at v_end v_told v_wrongAt v_culprit v_ran v_isKept u.2.1 g_cells f_held u.2.2.1 u.2.2.2.1 u.2.2.2.2 f_size) t.heap) A) args s 0 0 A) (F0 m 136 ls [])) : ∀ n : Nat, ∀ (x4 : Int32) (x5 : Int32) (H : Heap) (locs : List Loc) (ls : Array Slot), L_X10_tune_62 g_cells x1 x2 v_tunes f_beats f_notes f_pitch f_refused k136 n x4 x5 → va_P D vwCl (wX10_tune cI cJ cS a_o a_beats a_cells a_held a_notes a_pitch a_refused a_size z_steps z_kind z_space z_other z_times z_speed z_base z_share z_sort z_shown z_carried z_words z_tell z_was z_kept z_cutSpace z_cutTimes z_cutOff z_trace v_stretches v_cars v_tunes v_along v_near v_borne v_tempo v_seed v_fault v_from v_at v_end v_told v_wrongAt v_culprit v_ran v_isKept f_beats g_cells f_held f_notes f_pitch f_refused f_size) H → va_D A (wX10_tune cI cJ cS a_o a_beats a_cells a_held a_notes a_pitch a_refused a_size z_steps z_kind z_space z_other z_times z_speed z_base z_share z_sort z_shown z_carried z_words z_tell z_was z_kept z_cutSpace z_cutTimes z_cutOff z_trace v_stretches v_cars v_tunes v_along v_near v_borne v_tempo v_seed v_fault v_from v_at v_end v_told v_wrongAt v_culprit v_ran v_isKept f_beats g_cells f_held f_notes f_pitch f_refused f_size) → va_S A s.heap H locs → lv_has ls 8 [(0, .ref a_o), (1, .int x1), (2, .int x2), (4, .int x4), (5, .int x5)] → W p l e (rmd 2 0 0) s m args below meth c H locs 0 0 (MQ below (va_Qi (fun r (u : Int32 × (Nat → Int32) × (Nat → Int32) × (Nat → Int32) × (Nat → Int32)) => post r u.1 u.2.1 u.2.2.1 u.2.2.2.1 u.2.2.2.2) (fun u t => va_P D vwCl (wX10_tune cI cJ cS a_o a_beats a_cells a_held a_notes a_pitch a_refused a_size z_steps z_kind z_space z_other z_times z_speed z_base z_share z_sort z_shown z_carried z_words z_tell z_was z_kept z_cutSpace z_cutTimes z_cutOff z_trace v_stretches v_cars u.1 v_along v_near v_borne v_tempo v_seed v_fault v_from v_at v_end v_told v_wrongAt v_culprit v_ran v_isKept u.2.1 g_cells f_held u.2.2.1 u.2.2.2.1 u.2.2.2.2 f_size) t.heap) A) args s 0 0 A) (F0 m 62 ls []) := by
  intro n
  induction n with
  | zero =>
    intro x4 x5 H locs ls h hP hD hS hl
    exact h.elim
  | succ n ih =>
    intro x4 x5 H locs ls h hP hD hS hl
    rw [L_X10_tune_62] at h
    have hx := S.1
    have hb := S.2.1
    refine lv_iload hx hb dX10_tune_62 (lv_at hl 4 rfl) ?_
    refine lv_iload_n hx hb dX10_tune_64 rfl (lv_at hl 2 rfl) ?_
    refine lv_icmp_ge (tgt := 136) hx hb dX10_tune_65 (by decide) (fun hc => ?_) (fun hc => ?_)
    · have h := h.1 hc
      exact hk136 _ _ _ _ h hP hD hS (lv_sub hl [0, 1, 2, 3] rfl)
    have h := h.2 hc
    refine lv_iload hx hb dX10_tune_68 (lv_at hl 3 rfl) ?_
    refine lv_if_eq (tgt := 136) hx hb dX10_tune_70 (by decide) (fun hc => ?_) (fun hc => ?_)
    · have h := h.1 hc
      exact hk136 _ _ _ _ h hP hD hS (lv_sub hl [0, 1, 2, 3] rfl)
    have h := h.2 hc
    refine lv_aload_n hx hb dX10_tune_73 rfl (lv_at hl 0 rfl) ?_
    refine lv_iload_n hx hb dX10_tune_74 rfl (lv_at hl 1 rfl) ?_
    refine lv_iconst (v := 2) hx hb dX10_tune_75 (by decide) ?_
    refine lv_iload hx hb dX10_tune_76 (lv_at hl 4 rfl) ?_
    refine lv_imul hx hb dX10_tune_78 ?_
    refine ro_i (roV S hE hT hS (c_X10_intAt h) lkX10_145 rfl ⟨(Nat.le_of_ble_eq_true rfl), (Nat.le_of_ble_eq_true rfl)⟩ (hP.sub [0, 2] rfl) 0 rfl rfl hl.1 rfl (Nat.le_of_ble_eq_true rfl) dX10_tune_79 ⟨(Nat.zero_le _), (Nat.zero_le _)⟩) (fun r79 h => ?_)
    refine lv_istore (lv' := [(6, .int r79), (0, .ref a_o), (1, .int x1), (2, .int x2), (4, .int x4), (5, .int x5)]) hx hb dX10_tune_82 hl (by decide) rfl (fun ls hl => ?_)
    refine lv_aload_n hx hb dX10_tune_84 rfl (lv_at hl 1 rfl) ?_
    refine lv_iload_n hx hb dX10_tune_85 rfl (lv_at hl 2 rfl) ?_
    refine lv_iconst (v := 2) hx hb dX10_tune_86 (by decide) ?_
    refine lv_iload hx hb dX10_tune_87 (lv_at hl 5 rfl) ?_
    refine lv_imul hx hb dX10_tune_89 ?_
    refine lv_iconst (v := 1) hx hb dX10_tune_90 (by decide) ?_
    refine lv_iadd hx hb dX10_tune_91 ?_
    refine ro_i (roV S hE hT hS (c_X10_intAt h) lkX10_145 rfl ⟨(Nat.le_of_ble_eq_true rfl), (Nat.le_of_ble_eq_true rfl)⟩ (hP.sub [0, 2] rfl) 0 rfl rfl hl.1 rfl (Nat.le_of_ble_eq_true rfl) dX10_tune_92 ⟨(Nat.zero_le _), (Nat.zero_le _)⟩) (fun r92 h => ?_)
    refine lv_istore (lv' := [(7, .int r92), (6, .int r79), (0, .ref a_o), (1, .int x1), (2, .int x2), (4, .int x4), (5, .int x5)]) hx hb dX10_tune_95 hl (by decide) rfl (fun ls hl => ?_)
    refine lv_iload hx hb dX10_tune_97 (lv_at hl 1 rfl) ?_
    refine lv_if_lt (tgt := 127) hx hb dX10_tune_99 (by decide) (fun hc => ?_) (fun hc => ?_)
    · have h := h.1 hc
      refine w_X10_tune_127 S hE hT hA hr hlocks ih _ _ _ h hP hD hS (lv_sub hl [2, 3, 4, 6] rfl)
    have h := h.2 hc
    refine lv_iload hx hb dX10_tune_102 (lv_at hl 1 rfl) ?_
    refine lv_sipush (v := 9999) hx hb dX10_tune_104 (by decide) ?_
    refine lv_icmp_gt (tgt := 127) hx hb dX10_tune_107 (by decide) (fun hc => ?_) (fun hc => ?_)
    · have h := h.1 hc
      refine w_X10_tune_127 S hE hT hA hr hlocks ih _ _ _ h hP hD hS (lv_sub hl [2, 3, 4, 6] rfl)
    have h := h.2 hc
    refine lv_iload hx hb dX10_tune_110 (lv_at hl 0 rfl) ?_
    refine lv_iconst (v := 1) hx hb dX10_tune_112 (by decide) ?_
    refine lv_icmp_lt (tgt := 127) hx hb dX10_tune_113 (by decide) (fun hc => ?_) (fun hc => ?_)
    · have h := h.1 hc
      refine w_X10_tune_127 S hE hT hA hr hlocks ih _ _ _ h hP hD hS (lv_sub hl [2, 3, 4, 6] rfl)
    have h := h.2 hc
    refine lv_iload hx hb dX10_tune_116 (lv_at hl 0 rfl) ?_
    refine lv_bipush (v := 16) hx hb dX10_tune_118 (by decide) ?_
    refine lv_icmp_gt (tgt := 127) hx hb dX10_tune_120 (by decide) (fun hc => ?_) (fun hc => ?_)
    · have h := h.1 hc
      refine w_X10_tune_127 S hE hT hA hr hlocks ih _ _ _ h hP hD hS (lv_sub hl [2, 3, 4, 6] rfl)
    have h := h.2 hc
    refine lv_iconst (v := 1) hx hb dX10_tune_123 (by decide) ?_
    refine lv_goto (tgt := 128) hx hb dX10_tune_124 (by decide) ?_
    refine w_X10_tune_128 S hE hT hA hr hlocks ih _ _ _ h hP hD hS (lv_sub hl [2, 3, 4, 6] rfl)
set_option maxHeartbeats 4000000 in
set_option maxRecDepth 100000 in
theorem w_X10_tune_177 {l : Launch} {D : va_G} {cI cJ cS : ClassId} {ad adK : Nat → Nat} {a_o a_beats a_cells a_held a_notes a_pitch a_refused a_size : Nat} {z_steps z_kind z_space z_other z_times z_speed z_base z_share z_sort z_shown z_carried z_words z_tell z_was z_kept z_cutSpace z_cutTimes z_cutOff z_trace : Value} {v_stretches : Int32} {v_cars : Int32} {v_along : Int32} {v_near : Int32} {v_borne : Int32} {v_tempo : Int32} {v_seed : Int32} {v_fault : Int32} {v_from : Int32} {v_at : Int32} {v_end : Int32} {v_told : Int32} {v_wrongAt : Int32} {v_culprit : Int32} {v_ran : Int32} {v_isKept : Int32} {g_cells : Nat → Int64} {f_held : Nat → Int32} {f_notes : Nat → Int32} {f_refused : Nat → Int32} {f_size : Nat → Int32} {x1 : Int32} {x2 : Int32} {post : Int32 → Int32 → (Nat → Int32) → (Nat → Int32) → (Nat → Int32) → (Nat → Int32) → Prop} {p : Program} {e : Env} {s : State} {m : MethodId} {args : Array Value} {below : List Frame} {meth : Method} {c : Code} {A : Nat → Prop} (S : CallFix p m c cX10_tune 8 s args GW "RoadThatSingsModel") (hE : EN D cI cJ cS s) (hT : ST ad adK A s s.heap) (hA : ∀ q : Nat, s.heap.size ≤ q → A q) (hr : meth.sig.returnType = (some (.int))) (hlocks : meth.locks = false) : ∀ n : Nat, ∀ (x5 : Int32) (v_tunes : Int32) (f_beats : Nat → Int32) (f_pitch : Nat → Int32) (H : Heap) (locs : List Loc) (ls : Array Slot), L_X10_tune_177 g_cells x1 x2 f_notes f_refused post n x5 v_tunes f_beats f_pitch → va_P D vwCl (wX10_tune cI cJ cS a_o a_beats a_cells a_held a_notes a_pitch a_refused a_size z_steps z_kind z_space z_other z_times z_speed z_base z_share z_sort z_shown z_carried z_words z_tell z_was z_kept z_cutSpace z_cutTimes z_cutOff z_trace v_stretches v_cars v_tunes v_along v_near v_borne v_tempo v_seed v_fault v_from v_at v_end v_told v_wrongAt v_culprit v_ran v_isKept f_beats g_cells f_held f_notes f_pitch f_refused f_size) H → va_D A (wX10_tune cI cJ cS a_o a_beats a_cells a_held a_notes a_pitch a_refused a_size z_steps z_kind z_space z_other z_times z_speed z_base z_share z_sort z_shown z_carried z_words z_tell z_was z_kept z_cutSpace z_cutTimes z_cutOff z_trace v_stretches v_cars v_tunes v_along v_near v_borne v_tempo v_seed v_fault v_from v_at v_end v_told v_wrongAt v_culprit v_ran v_isKept f_beats g_cells f_held f_notes f_pitch f_refused f_size) → va_S A s.heap H locs → lv_has ls 8 [(0, .ref a_o), (1, .int x1), (2, .int x2), (5, .int x5)] → W p l e (rmd 2 0 0) s m args below meth c H locs 0 0 (MQ below (va_Qi (fun r (u : Int32 × (Nat → Int32) × (Nat → Int32) × (Nat → Int32) × (Nat → Int32)) => post r u.1 u.2.1 u.2.2.1 u.2.2.2.1 u.2.2.2.2) (fun u t => va_P D vwCl (wX10_tune cI cJ cS a_o a_beats a_cells a_held a_notes a_pitch a_refused a_size z_steps z_kind z_space z_other z_times z_speed z_base z_share z_sort z_shown z_carried z_words z_tell z_was z_kept z_cutSpace z_cutTimes z_cutOff z_trace v_stretches v_cars u.1 v_along v_near v_borne v_tempo v_seed v_fault v_from v_at v_end v_told v_wrongAt v_culprit v_ran v_isKept u.2.1 g_cells f_held u.2.2.1 u.2.2.2.1 u.2.2.2.2 f_size) t.heap) A) args s 0 0 A) (F0 m 177 ls []) := by
  intro n
  induction n with
  | zero =>
    intro x5 v_tunes f_beats f_pitch H locs ls h hP hD hS hl
    exact h.elim
  | succ n ih =>
    intro x5 v_tunes f_beats f_pitch H locs ls h hP hD hS hl
    rw [L_X10_tune_177] at h
    have hx := S.1
    have hb := S.2.1
    refine lv_iload hx hb dX10_tune_177 (lv_at hl 3 rfl) ?_
    refine lv_iload_n hx hb dX10_tune_179 rfl (lv_at hl 2 rfl) ?_
    refine lv_icmp_ge (tgt := 239) hx hb dX10_tune_180 (by decide) (fun hc => ?_) (fun hc => ?_)
    · have h := h.1 hc
      refine lv_aload_n hx hb dX10_tune_239 rfl (lv_at hl 0 rfl) ?_
      refine lv_dup hx hb dX10_tune_240 rfl ?_
      refine gf S hE hP 0 rfl rfl inX10 (k := 2) (by decide) q1095 rfl dX10_tune_241 ?_
      refine lv_dup_x1 hx hb dX10_tune_244 rfl rfl ?_
      refine lv_iconst (v := 1) hx hb dX10_tune_245 (by decide) ?_
      refine lv_iadd hx hb dX10_tune_246 ?_
      refine pf S hE hP hD hS 0 (k := 2) rfl rfl inX10 tyX10_ok nmX10 (by decide) q1095 rfl rfl rfl (Nat.le_of_ble_eq_true rfl) dX10_tune_247 (fun H locs hP hD hS => ?_)
      have hP : va_P D vwCl (wX10_tune cI cJ cS a_o a_beats a_cells a_held a_notes a_pitch a_refused a_size z_steps z_kind z_space z_other z_times z_speed z_base z_share z_sort z_shown z_carried z_words z_tell z_was z_kept z_cutSpace z_cutTimes z_cutOff z_trace v_stretches v_cars (v_tunes + 1) v_along v_near v_borne v_tempo v_seed v_fault v_from v_at v_end v_told v_wrongAt v_culprit v_ran v_isKept f_beats g_cells f_held f_notes f_pitch f_refused f_size) H := hP
      have hD : va_D A (wX10_tune cI cJ cS a_o a_beats a_cells a_held a_notes a_pitch a_refused a_size z_steps z_kind z_space z_other z_times z_speed z_base z_share z_sort z_shown z_carried z_words z_tell z_was z_kept z_cutSpace z_cutTimes z_cutOff z_trace v_stretches v_cars (v_tunes + 1) v_along v_near v_borne v_tempo v_seed v_fault v_from v_at v_end v_told v_wrongAt v_culprit v_ran v_isKept f_beats g_cells f_held f_notes f_pitch f_refused f_size) := hD
      exact W.iret hx hb hr (fun t ht _ => ⟨⟨_, ((v_tunes + 1), f_beats, f_notes, f_pitch, f_refused), rfl, h, hPt hP ht⟩, hS.F ht⟩) hS.2.2 dX10_tune_250
    have h := h.2 hc
    refine lv_aload_n hx hb dX10_tune_183 rfl (lv_at hl 0 rfl) ?_
    refine gf S hE hP 0 rfl rfl inX10 (k := 19) (by decide) q1112 rfl dX10_tune_184 ?_
    refine lv_bipush (v := 12) hx hb dX10_tune_187 (by decide) ?_
    refine lv_aload_n hx hb dX10_tune_189 rfl (lv_at hl 0 rfl) ?_
    refine gf S hE hP 0 rfl rfl inX10 (k := 2) (by decide) q1095 rfl dX10_tune_190 ?_
    refine lv_imul hx hb dX10_tune_193 ?_
    refine lv_iload hx hb dX10_tune_194 (lv_at hl 3 rfl) ?_
    refine lv_iadd hx hb dX10_tune_196 ?_
    refine lv_aload_n hx hb dX10_tune_197 rfl (lv_at hl 0 rfl) ?_
    refine lv_iload_n hx hb dX10_tune_198 rfl (lv_at hl 1 rfl) ?_
    refine lv_iconst (v := 2) hx hb dX10_tune_199 (by decide) ?_
    refine lv_iload hx hb dX10_tune_200 (lv_at hl 3 rfl) ?_
    refine lv_imul hx hb dX10_tune_202 ?_
    refine ro_i (roV S hE hT hS (c_X10_intAt h) lkX10_145 rfl ⟨(Nat.le_of_ble_eq_true rfl), (Nat.le_of_ble_eq_true rfl)⟩ (hP.sub [0, 2] rfl) 0 rfl rfl hl.1 rfl (Nat.le_of_ble_eq_true rfl) dX10_tune_203 ⟨(Nat.zero_le _), (Nat.zero_le _)⟩) (fun r203 h => ?_)
    obtain ⟨hi, h⟩ := h
    refine ias S hE hP hD hS 5 rfl hi dX10_tune_206 (fun H locs hP hD hS => ?_)
    have hP : va_P D vwCl (wX10_tune cI cJ cS a_o a_beats a_cells a_held a_notes a_pitch a_refused a_size z_steps z_kind z_space z_other z_times z_speed z_base z_share z_sort z_shown z_carried z_words z_tell z_was z_kept z_cutSpace z_cutTimes z_cutOff z_trace v_stretches v_cars v_tunes v_along v_near v_borne v_tempo v_seed v_fault v_from v_at v_end v_told v_wrongAt v_culprit v_ran v_isKept f_beats g_cells f_held f_notes (upd f_pitch ((12 * v_tunes) + x5).toNatClampNeg r203) f_refused f_size) H := hP
    have hD : va_D A (wX10_tune cI cJ cS a_o a_beats a_cells a_held a_notes a_pitch a_refused a_size z_steps z_kind z_space z_other z_times z_speed z_base z_share z_sort z_shown z_carried z_words z_tell z_was z_kept z_cutSpace z_cutTimes z_cutOff z_trace v_stretches v_cars v_tunes v_along v_near v_borne v_tempo v_seed v_fault v_from v_at v_end v_told v_wrongAt v_culprit v_ran v_isKept f_beats g_cells f_held f_notes (upd f_pitch ((12 * v_tunes) + x5).toNatClampNeg r203) f_refused f_size) := hD
    refine lv_aload_n hx hb dX10_tune_207 rfl (lv_at hl 0 rfl) ?_
    refine gf S hE hP 0 rfl rfl inX10 (k := 20) (by decide) q1113 rfl dX10_tune_208 ?_
    refine lv_bipush (v := 12) hx hb dX10_tune_211 (by decide) ?_
    refine lv_aload_n hx hb dX10_tune_213 rfl (lv_at hl 0 rfl) ?_
    refine gf S hE hP 0 rfl rfl inX10 (k := 2) (by decide) q1095 rfl dX10_tune_214 ?_
    refine lv_imul hx hb dX10_tune_217 ?_
    refine lv_iload hx hb dX10_tune_218 (lv_at hl 3 rfl) ?_
    refine lv_iadd hx hb dX10_tune_220 ?_
    refine lv_aload_n hx hb dX10_tune_221 rfl (lv_at hl 0 rfl) ?_
    refine lv_iload_n hx hb dX10_tune_222 rfl (lv_at hl 1 rfl) ?_
    refine lv_iconst (v := 2) hx hb dX10_tune_223 (by decide) ?_
    refine lv_iload hx hb dX10_tune_224 (lv_at hl 3 rfl) ?_
    refine lv_imul hx hb dX10_tune_226 ?_
    refine lv_iconst (v := 1) hx hb dX10_tune_227 (by decide) ?_
    refine lv_iadd hx hb dX10_tune_228 ?_
    refine ro_i (roV S hE hT hS (c_X10_intAt h) lkX10_145 rfl ⟨(Nat.le_of_ble_eq_true rfl), (Nat.le_of_ble_eq_true rfl)⟩ (hP.sub [0, 2] rfl) 0 rfl rfl hl.1 rfl (Nat.le_of_ble_eq_true rfl) dX10_tune_229 ⟨(Nat.zero_le _), (Nat.zero_le _)⟩) (fun r229 h => ?_)
    obtain ⟨hi, h⟩ := h
    refine ias S hE hP hD hS 1 rfl hi dX10_tune_232 (fun H locs hP hD hS => ?_)
    have hP : va_P D vwCl (wX10_tune cI cJ cS a_o a_beats a_cells a_held a_notes a_pitch a_refused a_size z_steps z_kind z_space z_other z_times z_speed z_base z_share z_sort z_shown z_carried z_words z_tell z_was z_kept z_cutSpace z_cutTimes z_cutOff z_trace v_stretches v_cars v_tunes v_along v_near v_borne v_tempo v_seed v_fault v_from v_at v_end v_told v_wrongAt v_culprit v_ran v_isKept (upd f_beats ((12 * v_tunes) + x5).toNatClampNeg r229) g_cells f_held f_notes (upd f_pitch ((12 * v_tunes) + x5).toNatClampNeg r203) f_refused f_size) H := hP
    have hD : va_D A (wX10_tune cI cJ cS a_o a_beats a_cells a_held a_notes a_pitch a_refused a_size z_steps z_kind z_space z_other z_times z_speed z_base z_share z_sort z_shown z_carried z_words z_tell z_was z_kept z_cutSpace z_cutTimes z_cutOff z_trace v_stretches v_cars v_tunes v_along v_near v_borne v_tempo v_seed v_fault v_from v_at v_end v_told v_wrongAt v_culprit v_ran v_isKept (upd f_beats ((12 * v_tunes) + x5).toNatClampNeg r229) g_cells f_held f_notes (upd f_pitch ((12 * v_tunes) + x5).toNatClampNeg r203) f_refused f_size) := hD
    obtain ⟨x5_233, ex5_233⟩ : ∃ z : Int32, z = x5 + 1 := ⟨_, rfl⟩
    have h := h _ ex5_233
    refine lv_iinc (v := x5_233) (lv' := [(5, .int x5_233), (0, .ref a_o), (1, .int x1), (2, .int x2)]) hx hb dX10_tune_233 hl (k := 3) rfl (by rw [ex5_233]; rfl) (by decide) rfl (fun ls hl => ?_)
    refine lv_goto (tgt := 177) hx hb dX10_tune_236 (by decide) ?_
    exact ih _ _ _ _ _ _ _ h hP hD hS (lv_sub hl [1, 2, 3, 0] rfl)
set_option maxHeartbeats 4000000 in
set_option maxRecDepth 100000 in
theorem w_X10_tune_136 {l : Launch} {D : va_G} {cI cJ cS : ClassId} {ad adK : Nat → Nat} {a_o a_beats a_cells a_held a_notes a_pitch a_refused a_size : Nat} {z_steps z_kind z_space z_other z_times z_speed z_base z_share z_sort z_shown z_carried z_words z_tell z_was z_kept z_cutSpace z_cutTimes z_cutOff z_trace : Value} {v_stretches : Int32} {v_cars : Int32} {v_tunes : Int32} {v_along : Int32} {v_near : Int32} {v_borne : Int32} {v_tempo : Int32} {v_seed : Int32} {v_fault : Int32} {v_from : Int32} {v_at : Int32} {v_end : Int32} {v_told : Int32} {v_wrongAt : Int32} {v_culprit : Int32} {v_ran : Int32} {v_isKept : Int32} {f_beats : Nat → Int32} {g_cells : Nat → Int64} {f_held : Nat → Int32} {f_notes : Nat → Int32} {f_pitch : Nat → Int32} {f_refused : Nat → Int32} {f_size : Nat → Int32} {x1 : Int32} {x2 : Int32} {x4 : Int32} {post : Int32 → Int32 → (Nat → Int32) → (Nat → Int32) → (Nat → Int32) → (Nat → Int32) → Prop} {p : Program} {e : Env} {s : State} {m : MethodId} {args : Array Value} {below : List Frame} {meth : Method} {c : Code} {A : Nat → Prop} (S : CallFix p m c cX10_tune 8 s args GW "RoadThatSingsModel") (hE : EN D cI cJ cS s) (hT : ST ad adK A s s.heap) (hA : ∀ q : Nat, s.heap.size ≤ q → A q) (hr : meth.sig.returnType = (some (.int))) (hlocks : meth.locks = false) : ∀ (H : Heap) (locs : List Loc) (ls : Array Slot), F_X10_tune_136 g_cells post x1 x2 x4 v_tunes f_beats f_notes f_pitch f_refused → va_P D vwCl (wX10_tune cI cJ cS a_o a_beats a_cells a_held a_notes a_pitch a_refused a_size z_steps z_kind z_space z_other z_times z_speed z_base z_share z_sort z_shown z_carried z_words z_tell z_was z_kept z_cutSpace z_cutTimes z_cutOff z_trace v_stretches v_cars v_tunes v_along v_near v_borne v_tempo v_seed v_fault v_from v_at v_end v_told v_wrongAt v_culprit v_ran v_isKept f_beats g_cells f_held f_notes f_pitch f_refused f_size) H → va_D A (wX10_tune cI cJ cS a_o a_beats a_cells a_held a_notes a_pitch a_refused a_size z_steps z_kind z_space z_other z_times z_speed z_base z_share z_sort z_shown z_carried z_words z_tell z_was z_kept z_cutSpace z_cutTimes z_cutOff z_trace v_stretches v_cars v_tunes v_along v_near v_borne v_tempo v_seed v_fault v_from v_at v_end v_told v_wrongAt v_culprit v_ran v_isKept f_beats g_cells f_held f_notes f_pitch f_refused f_size) → va_S A s.heap H locs → lv_has ls 8 [(0, .ref a_o), (1, .int x1), (2, .int x2), (4, .int x4)] → W p l e (rmd 2 0 0) s m args below meth c H locs 0 0 (MQ below (va_Qi (fun r (u : Int32 × (Nat → Int32) × (Nat → Int32) × (Nat → Int32) × (Nat → Int32)) => post r u.1 u.2.1 u.2.2.1 u.2.2.2.1 u.2.2.2.2) (fun u t => va_P D vwCl (wX10_tune cI cJ cS a_o a_beats a_cells a_held a_notes a_pitch a_refused a_size z_steps z_kind z_space z_other z_times z_speed z_base z_share z_sort z_shown z_carried z_words z_tell z_was z_kept z_cutSpace z_cutTimes z_cutOff z_trace v_stretches v_cars u.1 v_along v_near v_borne v_tempo v_seed v_fault v_from v_at v_end v_told v_wrongAt v_culprit v_ran v_isKept u.2.1 g_cells f_held u.2.2.1 u.2.2.2.1 u.2.2.2.2 f_size) t.heap) A) args s 0 0 A) (F0 m 136 ls []) := by
  intro  H locs ls h hP hD hS hl
  unfold F_X10_tune_136 at h
  have hx := S.1
  have hb := S.2.1
  refine lv_iload hx hb dX10_tune_136 (lv_at hl 3 rfl) ?_
  refine lv_if_ne (tgt := 148) hx hb dX10_tune_138 (by decide) (fun hc => ?_) (fun hc => ?_)
  · have h := h.2 hc
    refine lv_aload_n hx hb dX10_tune_148 rfl (lv_at hl 0 rfl) ?_
    refine gf S hE hP 0 rfl rfl inX10 (k := 2) (by decide) q1095 rfl dX10_tune_149 ?_
    refine lv_bipush (v := 6) hx hb dX10_tune_152 (by decide) ?_
    refine lv_icmp_ne (tgt := 164) hx hb dX10_tune_154 (by decide) (fun hc => ?_) (fun hc => ?_)
    · have h := h.2 hc
      refine lv_aload_n hx hb dX10_tune_164 rfl (lv_at hl 0 rfl) ?_
      refine gf S hE hP 0 rfl rfl inX10 (k := 18) (by decide) q1111 rfl dX10_tune_165 ?_
      refine lv_aload_n hx hb dX10_tune_168 rfl (lv_at hl 0 rfl) ?_
      refine gf S hE hP 0 rfl rfl inX10 (k := 2) (by decide) q1095 rfl dX10_tune_169 ?_
      refine lv_iload_n hx hb dX10_tune_172 rfl (lv_at hl 2 rfl) ?_
      obtain ⟨hi, h⟩ := h
      refine ias S hE hP hD hS 4 rfl hi dX10_tune_173 (fun H locs hP hD hS => ?_)
      have hP : va_P D vwCl (wX10_tune cI cJ cS a_o a_beats a_cells a_held a_notes a_pitch a_refused a_size z_steps z_kind z_space z_other z_times z_speed z_base z_share z_sort z_shown z_carried z_words z_tell z_was z_kept z_cutSpace z_cutTimes z_cutOff z_trace v_stretches v_cars v_tunes v_along v_near v_borne v_tempo v_seed v_fault v_from v_at v_end v_told v_wrongAt v_culprit v_ran v_isKept f_beats g_cells f_held (upd f_notes v_tunes.toNatClampNeg x2) f_pitch f_refused f_size) H := hP
      have hD : va_D A (wX10_tune cI cJ cS a_o a_beats a_cells a_held a_notes a_pitch a_refused a_size z_steps z_kind z_space z_other z_times z_speed z_base z_share z_sort z_shown z_carried z_words z_tell z_was z_kept z_cutSpace z_cutTimes z_cutOff z_trace v_stretches v_cars v_tunes v_along v_near v_borne v_tempo v_seed v_fault v_from v_at v_end v_told v_wrongAt v_culprit v_ran v_isKept f_beats g_cells f_held (upd f_notes v_tunes.toNatClampNeg x2) f_pitch f_refused f_size) := hD
      refine lv_iconst (v := 0) hx hb dX10_tune_174 (by decide) ?_
      refine lv_istore (lv' := [(5, .int 0), (0, .ref a_o), (1, .int x1), (2, .int x2), (4, .int x4)]) hx hb dX10_tune_175 hl (by decide) rfl (fun ls hl => ?_)
      obtain ⟨n, h⟩ := h
      refine w_X10_tune_177 S hE hT hA hr hlocks n _ _ _ _ _ _ _ h hP hD hS (lv_sub hl [1, 2, 3, 0] rfl)
    have h := h.1 hc
    refine lv_aload_n hx hb dX10_tune_157 rfl (lv_at hl 0 rfl) ?_
    refine lv_bipush (v := (-7)) hx hb dX10_tune_158 (by decide) ?_
    refine rw_i (rwV S hE hT hS hP hD hA (c_X10_no h) [0, 6] rfl (by decide) lkX10_121 rfl ⟨(Nat.le_of_ble_eq_true rfl), (Nat.le_of_ble_eq_true rfl)⟩ 0 rfl rfl hl.1 rfl (Nat.le_of_ble_eq_true rfl) dX10_tune_160 ⟨(Nat.zero_le _), (Nat.zero_le _)⟩) hP hD hS hA [0, 6] rfl (by decide) (fun _ => rfl) (fun r160 w160_0 H locs h hP hD hS => ?_)
    try dsimp only at h
    have hP : va_P D vwCl (wX10_tune cI cJ cS a_o a_beats a_cells a_held a_notes a_pitch a_refused a_size z_steps z_kind z_space z_other z_times z_speed z_base z_share z_sort z_shown z_carried z_words z_tell z_was z_kept z_cutSpace z_cutTimes z_cutOff z_trace v_stretches v_cars v_tunes v_along v_near v_borne v_tempo v_seed v_fault v_from v_at v_end v_told v_wrongAt v_culprit v_ran v_isKept f_beats g_cells f_held f_notes f_pitch w160_0 f_size) H := hP
    have hD : va_D A (wX10_tune cI cJ cS a_o a_beats a_cells a_held a_notes a_pitch a_refused a_size z_steps z_kind z_space z_other z_times z_speed z_base z_share z_sort z_shown z_carried z_words z_tell z_was z_kept z_cutSpace z_cutTimes z_cutOff z_trace v_stretches v_cars v_tunes v_along v_near v_borne v_tempo v_seed v_fault v_from v_at v_end v_told v_wrongAt v_culprit v_ran v_isKept f_beats g_cells f_held f_notes f_pitch w160_0 f_size) := hD
    exact W.iret hx hb hr (fun t ht _ => ⟨⟨_, (v_tunes, f_beats, f_notes, f_pitch, w160_0), rfl, h, hPt hP ht⟩, hS.F ht⟩) hS.2.2 dX10_tune_163
  have h := h.1 hc
  refine lv_aload_n hx hb dX10_tune_141 rfl (lv_at hl 0 rfl) ?_
  refine lv_bipush (v := (-6)) hx hb dX10_tune_142 (by decide) ?_
  refine rw_i (rwV S hE hT hS hP hD hA (c_X10_no h) [0, 6] rfl (by decide) lkX10_121 rfl ⟨(Nat.le_of_ble_eq_true rfl), (Nat.le_of_ble_eq_true rfl)⟩ 0 rfl rfl hl.1 rfl (Nat.le_of_ble_eq_true rfl) dX10_tune_144 ⟨(Nat.zero_le _), (Nat.zero_le _)⟩) hP hD hS hA [0, 6] rfl (by decide) (fun _ => rfl) (fun r144 w144_0 H locs h hP hD hS => ?_)
  try dsimp only at h
  have hP : va_P D vwCl (wX10_tune cI cJ cS a_o a_beats a_cells a_held a_notes a_pitch a_refused a_size z_steps z_kind z_space z_other z_times z_speed z_base z_share z_sort z_shown z_carried z_words z_tell z_was z_kept z_cutSpace z_cutTimes z_cutOff z_trace v_stretches v_cars v_tunes v_along v_near v_borne v_tempo v_seed v_fault v_from v_at v_end v_told v_wrongAt v_culprit v_ran v_isKept f_beats g_cells f_held f_notes f_pitch w144_0 f_size) H := hP
  have hD : va_D A (wX10_tune cI cJ cS a_o a_beats a_cells a_held a_notes a_pitch a_refused a_size z_steps z_kind z_space z_other z_times z_speed z_base z_share z_sort z_shown z_carried z_words z_tell z_was z_kept z_cutSpace z_cutTimes z_cutOff z_trace v_stretches v_cars v_tunes v_along v_near v_borne v_tempo v_seed v_fault v_from v_at v_end v_told v_wrongAt v_culprit v_ran v_isKept f_beats g_cells f_held f_notes f_pitch w144_0 f_size) := hD
  exact W.iret hx hb hr (fun t ht _ => ⟨⟨_, (v_tunes, f_beats, f_notes, f_pitch, w144_0), rfl, h, hPt hP ht⟩, hS.F ht⟩) hS.2.2 dX10_tune_147
set_option maxHeartbeats 4000000 in
set_option maxRecDepth 100000 in
theorem w_X10_tune_57 {l : Launch} {D : va_G} {cI cJ cS : ClassId} {ad adK : Nat → Nat} {a_o a_beats a_cells a_held a_notes a_pitch a_refused a_size : Nat} {z_steps z_kind z_space z_other z_times z_speed z_base z_share z_sort z_shown z_carried z_words z_tell z_was z_kept z_cutSpace z_cutTimes z_cutOff z_trace : Value} {v_stretches : Int32} {v_cars : Int32} {v_tunes : Int32} {v_along : Int32} {v_near : Int32} {v_borne : Int32} {v_tempo : Int32} {v_seed : Int32} {v_fault : Int32} {v_from : Int32} {v_at : Int32} {v_end : Int32} {v_told : Int32} {v_wrongAt : Int32} {v_culprit : Int32} {v_ran : Int32} {v_isKept : Int32} {f_beats : Nat → Int32} {g_cells : Nat → Int64} {f_held : Nat → Int32} {f_notes : Nat → Int32} {f_pitch : Nat → Int32} {f_refused : Nat → Int32} {f_size : Nat → Int32} {x1 : Int32} {x2 : Int32} {s0 : Int32} {post : Int32 → Int32 → (Nat → Int32) → (Nat → Int32) → (Nat → Int32) → (Nat → Int32) → Prop} {p : Program} {e : Env} {s : State} {m : MethodId} {args : Array Value} {below : List Frame} {meth : Method} {c : Code} {A : Nat → Prop} (S : CallFix p m c cX10_tune 8 s args GW "RoadThatSingsModel") (hE : EN D cI cJ cS s) (hT : ST ad adK A s s.heap) (hA : ∀ q : Nat, s.heap.size ≤ q → A q) (hr : meth.sig.returnType = (some (.int))) (hlocks : meth.locks = false) : ∀ (H : Heap) (locs : List Loc) (ls : Array Slot), F_X10_tune_57 g_cells post x1 x2 v_tunes f_beats f_notes f_pitch f_refused s0 → va_P D vwCl (wX10_tune cI cJ cS a_o a_beats a_cells a_held a_notes a_pitch a_refused a_size z_steps z_kind z_space z_other z_times z_speed z_base z_share z_sort z_shown z_carried z_words z_tell z_was z_kept z_cutSpace z_cutTimes z_cutOff z_trace v_stretches v_cars v_tunes v_along v_near v_borne v_tempo v_seed v_fault v_from v_at v_end v_told v_wrongAt v_culprit v_ran v_isKept f_beats g_cells f_held f_notes f_pitch f_refused f_size) H → va_D A (wX10_tune cI cJ cS a_o a_beats a_cells a_held a_notes a_pitch a_refused a_size z_steps z_kind z_space z_other z_times z_speed z_base z_share z_sort z_shown z_carried z_words z_tell z_was z_kept z_cutSpace z_cutTimes z_cutOff z_trace v_stretches v_cars v_tunes v_along v_near v_borne v_tempo v_seed v_fault v_from v_at v_end v_told v_wrongAt v_culprit v_ran v_isKept f_beats g_cells f_held f_notes f_pitch f_refused f_size) → va_S A s.heap H locs → lv_has ls 8 [(0, .ref a_o), (1, .int x1), (2, .int x2)] → W p l e (rmd 2 0 0) s m args below meth c H locs 0 0 (MQ below (va_Qi (fun r (u : Int32 × (Nat → Int32) × (Nat → Int32) × (Nat → Int32) × (Nat → Int32)) => post r u.1 u.2.1 u.2.2.1 u.2.2.2.1 u.2.2.2.2) (fun u t => va_P D vwCl (wX10_tune cI cJ cS a_o a_beats a_cells a_held a_notes a_pitch a_refused a_size z_steps z_kind z_space z_other z_times z_speed z_base z_share z_sort z_shown z_carried z_words z_tell z_was z_kept z_cutSpace z_cutTimes z_cutOff z_trace v_stretches v_cars u.1 v_along v_near v_borne v_tempo v_seed v_fault v_from v_at v_end v_told v_wrongAt v_culprit v_ran v_isKept u.2.1 g_cells f_held u.2.2.1 u.2.2.2.1 u.2.2.2.2 f_size) t.heap) A) args s 0 0 A) (F0 m 57 ls [.int s0]) := by
  intro  H locs ls h hP hD hS hl
  unfold F_X10_tune_57 at h
  have hx := S.1
  have hb := S.2.1
  refine lv_istore (lv' := [(4, .int s0), (0, .ref a_o), (1, .int x1), (2, .int x2)]) hx hb dX10_tune_57 hl (by decide) rfl (fun ls hl => ?_)
  refine lv_iconst (v := 0) hx hb dX10_tune_59 (by decide) ?_
  refine lv_istore (lv' := [(5, .int 0), (4, .int s0), (0, .ref a_o), (1, .int x1), (2, .int x2)]) hx hb dX10_tune_60 hl (by decide) rfl (fun ls hl => ?_)
  obtain ⟨n, h⟩ := h
  refine w_X10_tune_62 S hE hT hA hr hlocks (fun x4_1 H locs ls h hP hD hS hl => ?_) n _ _ _ _ _ h hP hD hS (lv_sub hl [2, 3, 4, 1, 0] rfl)
  refine w_X10_tune_136 S hE hT hA hr hlocks _ _ _ h hP hD hS (lv_sub hl [0, 1, 2, 3] rfl)
set_option maxHeartbeats 4000000 in
set_option maxRecDepth 100000 in
theorem c_X10_tune {l : Launch} {D : va_G} {cI cJ cS : ClassId} {ad adK : Nat → Nat} {a_o a_beats a_cells a_held a_notes a_pitch a_refused a_size : Nat} {z_steps z_kind z_space z_other z_times z_speed z_base z_share z_sort z_shown z_carried z_words z_tell z_was z_kept z_cutSpace z_cutTimes z_cutOff z_trace : Value} {v_stretches : Int32} {v_cars : Int32} {v_tunes : Int32} {v_along : Int32} {v_near : Int32} {v_borne : Int32} {v_tempo : Int32} {v_seed : Int32} {v_fault : Int32} {v_from : Int32} {v_at : Int32} {v_end : Int32} {v_told : Int32} {v_wrongAt : Int32} {v_culprit : Int32} {v_ran : Int32} {v_isKept : Int32} {f_beats : Nat → Int32} {g_cells : Nat → Int64} {f_held : Nat → Int32} {f_notes : Nat → Int32} {f_pitch : Nat → Int32} {f_refused : Nat → Int32} {f_size : Nat → Int32} {x1 : Int32} {x2 : Int32} {post : Int32 → Int32 → (Nat → Int32) → (Nat → Int32) → (Nat → Int32) → (Nat → Int32) → Prop} (h : F_X10_tune v_tunes f_beats g_cells f_held f_notes f_pitch f_refused f_size x1 x2 post) {sz : Nat} : Met l yX10_tune (Cond.code yX10_tune cX10_tune 8 (some (.int)) :: GW) (rmd 2 0 0) (PW D cI cJ cS ad adK [.ref a_o, .int x1, .int x2] (wX10_tune cI cJ cS a_o a_beats a_cells a_held a_notes a_pitch a_refused a_size z_steps z_kind z_space z_other z_times z_speed z_base z_share z_sort z_shown z_carried z_words z_tell z_was z_kept z_cutSpace z_cutTimes z_cutOff z_trace v_stretches v_cars v_tunes v_along v_near v_borne v_tempo v_seed v_fault v_from v_at v_end v_told v_wrongAt v_culprit v_ran v_isKept f_beats g_cells f_held f_notes f_pitch f_refused f_size) sz) (va_Qi (fun r (u : Int32 × (Nat → Int32) × (Nat → Int32) × (Nat → Int32) × (Nat → Int32)) => post r u.1 u.2.1 u.2.2.1 u.2.2.2.1 u.2.2.2.2) (fun u t => va_P D vwCl (wX10_tune cI cJ cS a_o a_beats a_cells a_held a_notes a_pitch a_refused a_size z_steps z_kind z_space z_other z_times z_speed z_base z_share z_sort z_shown z_carried z_words z_tell z_was z_kept z_cutSpace z_cutTimes z_cutOff z_trace v_stretches v_cars u.1 v_along v_near v_borne v_tempo v_seed v_fault v_from v_at v_end v_told v_wrongAt v_culprit v_ran v_isKept u.2.1 g_cells f_held u.2.2.1 u.2.2.2.1 u.2.2.2.2 f_size) t.heap) (va_A (wX10_tune cI cJ cS a_o a_beats a_cells a_held a_notes a_pitch a_refused a_size z_steps z_kind z_space z_other z_times z_speed z_base z_share z_sort z_shown z_carried z_words z_tell z_was z_kept z_cutSpace z_cutTimes z_cutOff z_trace v_stretches v_cars v_tunes v_along v_near v_borne v_tempo v_seed v_fault v_from v_at v_end v_told v_wrongAt v_culprit v_ran v_isKept f_beats g_cells f_held f_notes f_pitch f_refused f_size) sz)) 0 0 (va_A (wX10_tune cI cJ cS a_o a_beats a_cells a_held a_notes a_pitch a_refused a_size z_steps z_kind z_space z_other z_times z_speed z_base z_share z_sort z_shown z_carried z_words z_tell z_was z_kept z_cutSpace z_cutTimes z_cutOff z_trace v_stretches v_cars v_tunes v_along v_near v_borne v_tempo v_seed v_fault v_from v_at v_end v_told v_wrongAt v_culprit v_ran v_isKept f_beats g_cells f_held f_notes f_pitch f_refused f_size) sz) := by
  refine Met.rw (Qc := fun A => (va_Qi (fun r (u : Int32 × (Nat → Int32) × (Nat → Int32) × (Nat → Int32) × (Nat → Int32)) => post r u.1 u.2.1 u.2.2.1 u.2.2.2.1 u.2.2.2.2) (fun u t => va_P D vwCl (wX10_tune cI cJ cS a_o a_beats a_cells a_held a_notes a_pitch a_refused a_size z_steps z_kind z_space z_other z_times z_speed z_base z_share z_sort z_shown z_carried z_words z_tell z_was z_kept z_cutSpace z_cutTimes z_cutOff z_trace v_stretches v_cars u.1 v_along v_near v_borne v_tempo v_seed v_fault v_from v_at v_end v_told v_wrongAt v_culprit v_ran v_isKept u.2.1 g_cells f_held u.2.2.1 u.2.2.2.1 u.2.2.2.2 f_size) t.heap) A)) (by decide) (Nat.le_of_ble_eq_true rfl) (fun p e s m args below meth c ls A (S : CallFix p m c cX10_tune 8 s args GW "RoadThatSingsModel") hE hT hP hD hA hS hr hlocks hname hl => ?_)
  have hS0 := hS
  have hx := S.1
  have hb := S.2.1
  have hl : lv_has ls 8 [(0, .ref a_o), (1, .int x1), (2, .int x2)] := hl
  unfold F_X10_tune at h
  refine lv_aload_n hx hb dX10_tune_0 rfl (lv_at hl 0 rfl) ?_
  refine lv_iload_n hx hb dX10_tune_1 rfl (lv_at hl 1 rfl) ?_
  refine ro_i (roV S hE hT hS (c_X10_wants h) lkX10_142 rfl ⟨(Nat.le_of_ble_eq_true rfl), (Nat.le_of_ble_eq_true rfl)⟩ (hP.sub [0, 3] rfl) 0 rfl rfl hl.1 rfl (Nat.le_of_ble_eq_true rfl) dX10_tune_2 ⟨(Nat.zero_le _), (Nat.zero_le _)⟩) (fun r2 h => ?_)
  refine lv_istore_n (lv' := [(3, .int r2), (0, .ref a_o), (1, .int x1), (2, .int x2)]) hx hb dX10_tune_5 rfl hl (by decide) rfl (fun ls hl => ?_)
  refine lv_iload_n hx hb dX10_tune_6 rfl (lv_at hl 0 rfl) ?_
  refine lv_if_eq (tgt := 16) hx hb dX10_tune_7 (by decide) (fun hc => ?_) (fun hc => ?_)
  · have h := h.1 hc
    refine lv_iload_n hx hb dX10_tune_16 rfl (lv_at hl 3 rfl) ?_
    refine lv_if_ge (tgt := 27) hx hb dX10_tune_17 (by decide) (fun hc => ?_) (fun hc => ?_)
    · have h := h.1 hc
      refine lv_iload_n hx hb dX10_tune_27 rfl (lv_at hl 3 rfl) ?_
      refine lv_aload_n hx hb dX10_tune_28 rfl (lv_at hl 1 rfl) ?_
      refine gf S hE hP 0 rfl rfl inX10 (k := 23) (by decide) q1116 rfl dX10_tune_29 ?_
      refine lv_iload_n hx hb dX10_tune_32 rfl (lv_at hl 2 rfl) ?_
      obtain ⟨hi, h⟩ := h
      refine ial S hE hP 7 rfl hi dX10_tune_33 ?_
      refine lv_iconst (v := 2) hx hb dX10_tune_34 (by decide) ?_
      refine lv_idiv hx hb dX10_tune_35 (by decide) ?_
      refine lv_icmp_le (tgt := 46) hx hb dX10_tune_36 (by decide) (fun hc => ?_) (fun hc => ?_)
      · have h := h.1 hc
        refine lv_iload_n hx hb dX10_tune_46 rfl (lv_at hl 3 rfl) ?_
        refine lv_bipush (v := 12) hx hb dX10_tune_47 (by decide) ?_
        refine lv_icmp_gt (tgt := 56) hx hb dX10_tune_49 (by decide) (fun hc => ?_) (fun hc => ?_)
        · have h := h.1 hc
          refine lv_iconst (v := 0) hx hb dX10_tune_56 (by decide) ?_
          refine w_X10_tune_57 S hE hT hA hr hlocks _ _ _ h hP hD hS (lv_sub hl [1, 2, 3] rfl)
        have h := h.2 hc
        refine lv_iconst (v := 1) hx hb dX10_tune_52 (by decide) ?_
        refine lv_goto (tgt := 57) hx hb dX10_tune_53 (by decide) ?_
        refine w_X10_tune_57 S hE hT hA hr hlocks _ _ _ h hP hD hS (lv_sub hl [1, 2, 3] rfl)
      have h := h.2 hc
      refine lv_aload_n hx hb dX10_tune_39 rfl (lv_at hl 1 rfl) ?_
      refine lv_bipush (v := (-5)) hx hb dX10_tune_40 (by decide) ?_
      refine rw_i (rwV S hE hT hS hP hD hA (c_X10_no h) [0, 6] rfl (by decide) lkX10_121 rfl ⟨(Nat.le_of_ble_eq_true rfl), (Nat.le_of_ble_eq_true rfl)⟩ 0 rfl rfl hl.1 rfl (Nat.le_of_ble_eq_true rfl) dX10_tune_42 ⟨(Nat.zero_le _), (Nat.zero_le _)⟩) hP hD hS hA [0, 6] rfl (by decide) (fun _ => rfl) (fun r42 w42_0 H locs h hP hD hS => ?_)
      try dsimp only at h
      have hP : va_P D vwCl (wX10_tune cI cJ cS a_o a_beats a_cells a_held a_notes a_pitch a_refused a_size z_steps z_kind z_space z_other z_times z_speed z_base z_share z_sort z_shown z_carried z_words z_tell z_was z_kept z_cutSpace z_cutTimes z_cutOff z_trace v_stretches v_cars v_tunes v_along v_near v_borne v_tempo v_seed v_fault v_from v_at v_end v_told v_wrongAt v_culprit v_ran v_isKept f_beats g_cells f_held f_notes f_pitch w42_0 f_size) H := hP
      have hD : va_D A (wX10_tune cI cJ cS a_o a_beats a_cells a_held a_notes a_pitch a_refused a_size z_steps z_kind z_space z_other z_times z_speed z_base z_share z_sort z_shown z_carried z_words z_tell z_was z_kept z_cutSpace z_cutTimes z_cutOff z_trace v_stretches v_cars v_tunes v_along v_near v_borne v_tempo v_seed v_fault v_from v_at v_end v_told v_wrongAt v_culprit v_ran v_isKept f_beats g_cells f_held f_notes f_pitch w42_0 f_size) := hD
      exact W.iret hx hb hr (fun t ht _ => ⟨⟨_, (v_tunes, f_beats, f_notes, f_pitch, w42_0), rfl, h, hPt hP ht⟩, hS.F ht⟩) hS.2.2 dX10_tune_45
    have h := h.2 hc
    refine lv_aload_n hx hb dX10_tune_20 rfl (lv_at hl 1 rfl) ?_
    refine lv_bipush (v := (-4)) hx hb dX10_tune_21 (by decide) ?_
    refine rw_i (rwV S hE hT hS hP hD hA (c_X10_no h) [0, 6] rfl (by decide) lkX10_121 rfl ⟨(Nat.le_of_ble_eq_true rfl), (Nat.le_of_ble_eq_true rfl)⟩ 0 rfl rfl hl.1 rfl (Nat.le_of_ble_eq_true rfl) dX10_tune_23 ⟨(Nat.zero_le _), (Nat.zero_le _)⟩) hP hD hS hA [0, 6] rfl (by decide) (fun _ => rfl) (fun r23 w23_0 H locs h hP hD hS => ?_)
    try dsimp only at h
    have hP : va_P D vwCl (wX10_tune cI cJ cS a_o a_beats a_cells a_held a_notes a_pitch a_refused a_size z_steps z_kind z_space z_other z_times z_speed z_base z_share z_sort z_shown z_carried z_words z_tell z_was z_kept z_cutSpace z_cutTimes z_cutOff z_trace v_stretches v_cars v_tunes v_along v_near v_borne v_tempo v_seed v_fault v_from v_at v_end v_told v_wrongAt v_culprit v_ran v_isKept f_beats g_cells f_held f_notes f_pitch w23_0 f_size) H := hP
    have hD : va_D A (wX10_tune cI cJ cS a_o a_beats a_cells a_held a_notes a_pitch a_refused a_size z_steps z_kind z_space z_other z_times z_speed z_base z_share z_sort z_shown z_carried z_words z_tell z_was z_kept z_cutSpace z_cutTimes z_cutOff z_trace v_stretches v_cars v_tunes v_along v_near v_borne v_tempo v_seed v_fault v_from v_at v_end v_told v_wrongAt v_culprit v_ran v_isKept f_beats g_cells f_held f_notes f_pitch w23_0 f_size) := hD
    exact W.iret hx hb hr (fun t ht _ => ⟨⟨_, (v_tunes, f_beats, f_notes, f_pitch, w23_0), rfl, h, hPt hP ht⟩, hS.F ht⟩) hS.2.2 dX10_tune_26
  have h := h.2 hc
  refine lv_aload_n hx hb dX10_tune_10 rfl (lv_at hl 1 rfl) ?_
  refine lv_iload_n hx hb dX10_tune_11 rfl (lv_at hl 0 rfl) ?_
  refine rw_i (rwV S hE hT hS hP hD hA (c_X10_no h) [0, 6] rfl (by decide) lkX10_121 rfl ⟨(Nat.le_of_ble_eq_true rfl), (Nat.le_of_ble_eq_true rfl)⟩ 0 rfl rfl hl.1 rfl (Nat.le_of_ble_eq_true rfl) dX10_tune_12 ⟨(Nat.zero_le _), (Nat.zero_le _)⟩) hP hD hS hA [0, 6] rfl (by decide) (fun _ => rfl) (fun r12 w12_0 H locs h hP hD hS => ?_)
  try dsimp only at h
  have hP : va_P D vwCl (wX10_tune cI cJ cS a_o a_beats a_cells a_held a_notes a_pitch a_refused a_size z_steps z_kind z_space z_other z_times z_speed z_base z_share z_sort z_shown z_carried z_words z_tell z_was z_kept z_cutSpace z_cutTimes z_cutOff z_trace v_stretches v_cars v_tunes v_along v_near v_borne v_tempo v_seed v_fault v_from v_at v_end v_told v_wrongAt v_culprit v_ran v_isKept f_beats g_cells f_held f_notes f_pitch w12_0 f_size) H := hP
  have hD : va_D A (wX10_tune cI cJ cS a_o a_beats a_cells a_held a_notes a_pitch a_refused a_size z_steps z_kind z_space z_other z_times z_speed z_base z_share z_sort z_shown z_carried z_words z_tell z_was z_kept z_cutSpace z_cutTimes z_cutOff z_trace v_stretches v_cars v_tunes v_along v_near v_borne v_tempo v_seed v_fault v_from v_at v_end v_told v_wrongAt v_culprit v_ran v_isKept f_beats g_cells f_held f_notes f_pitch w12_0 f_size) := hD
  exact W.iret hx hb hr (fun t ht _ => ⟨⟨_, (v_tunes, f_beats, f_notes, f_pitch, w12_0), rfl, h, hPt hP ht⟩, hS.F ht⟩) hS.2.2 dX10_tune_15
/-! X10_beatsTo -/
abbrev wX10_beatsTo (cI cJ cS : ClassId) (a_o a_beats : Nat) (z_refused z_steps z_kind z_space z_other z_times z_speed z_base z_share z_notes z_pitch z_held z_sort z_size z_shown z_cells z_carried z_words z_tell z_was z_kept z_cutSpace z_cutTimes z_cutOff z_trace : Value) (v_stretches : Int32) (v_cars : Int32) (v_tunes : Int32) (v_along : Int32) (v_near : Int32) (v_borne : Int32) (v_tempo : Int32) (v_seed : Int32) (v_fault : Int32) (v_from : Int32) (v_at : Int32) (v_end : Int32) (v_told : Int32) (v_wrongAt : Int32) (v_culprit : Int32) (v_ran : Int32) (v_isKept : Int32) (f_beats : Nat → Int32) : va_W := [(a_o, .inr (9, [.int v_stretches, .int v_cars, .int v_tunes, .int v_along, .int v_near, .int v_borne, .int v_tempo, .int v_seed, .int v_fault, z_refused, z_steps, z_kind, z_space, z_other, z_times, z_speed, z_base, z_share, z_notes, z_pitch, .ref a_beats, z_held, z_sort, z_size, z_shown, z_cells, z_carried, z_words, z_tell, .int v_from, .int v_at, .int v_end, .int v_told, .int v_wrongAt, z_was, z_kept, .int v_culprit, z_cutSpace, z_cutTimes, z_cutOff, z_trace, .int v_ran, .int v_isKept])), (a_beats, .inl (cI, 72, .inl f_beats))]
def L_X10_beatsTo_5 (f_beats : Nat → Int32) (x1 : Int32) (x2 : Int32) (post : Int32 → Prop) : Nat → Int32 → Int32 → Prop
  | 0, _, _ => False
  | n5 + 1, x3, x4 => ((x2 ≤ x4 → post x3) ∧ (¬ x2 ≤ x4 → (vp_in ((12 * x1) + x4) 72 ∧ (∀ x3_25 : Int32, x3_25 = x3 + (f_beats ((12 * x1) + x4).toNatClampNeg) → (∀ x4_26 : Int32, x4_26 = x4 + 1 → L_X10_beatsTo_5 f_beats x1 x2 post n5 x3_25 x4_26)))))
def F_X10_beatsTo (f_beats : Nat → Int32) (x1 : Int32) (x2 : Int32) (post : Int32 → Prop) : Prop := (∃ n5 : Nat, L_X10_beatsTo_5 f_beats x1 x2 post n5 0 0)
set_option maxHeartbeats 4000000 in
set_option maxRecDepth 100000 in
theorem w_X10_beatsTo_5 {l : Launch} {D : va_G} {cI cJ cS : ClassId} {ad adK : Nat → Nat} {a_o a_beats : Nat} {z_refused z_steps z_kind z_space z_other z_times z_speed z_base z_share z_notes z_pitch z_held z_sort z_size z_shown z_cells z_carried z_words z_tell z_was z_kept z_cutSpace z_cutTimes z_cutOff z_trace : Value} {v_stretches : Int32} {v_cars : Int32} {v_tunes : Int32} {v_along : Int32} {v_near : Int32} {v_borne : Int32} {v_tempo : Int32} {v_seed : Int32} {v_fault : Int32} {v_from : Int32} {v_at : Int32} {v_end : Int32} {v_told : Int32} {v_wrongAt : Int32} {v_culprit : Int32} {v_ran : Int32} {v_isKept : Int32} {f_beats : Nat → Int32} {x1 : Int32} {x2 : Int32} {post : Int32 → Prop} {p : Program} {e : Env} {s : State} {m : MethodId} {args : Array Value} {below : List Frame} {meth : Method} {c : Code} (S : CallFix p m c cX10_beatsTo 5 s args GW "RoadThatSingsModel") (hE : EN D cI cJ cS s) (hT : ST ad adK nof s s.heap) (hP : va_P D vwCl (wX10_beatsTo cI cJ cS a_o a_beats z_refused z_steps z_kind z_space z_other z_times z_speed z_base z_share z_notes z_pitch z_held z_sort z_size z_shown z_cells z_carried z_words z_tell z_was z_kept z_cutSpace z_cutTimes z_cutOff z_trace v_stretches v_cars v_tunes v_along v_near v_borne v_tempo v_seed v_fault v_from v_at v_end v_told v_wrongAt v_culprit v_ran v_isKept f_beats) s.heap) (hS : va_S nof s.heap s.heap []) (hr : meth.sig.returnType = (some (.int))) (hlocks : meth.locks = false) : ∀ n : Nat, ∀ (x3 : Int32) (x4 : Int32) (ls : Array Slot), L_X10_beatsTo_5 f_beats x1 x2 post n x3 x4 → lv_has ls 5 [(0, .ref a_o), (1, .int x1), (2, .int x2), (3, .int x3), (4, .int x4)] → W p l e (rmd 0 0 0) s m args below meth c s.heap [] 0 0 (MQ below (vp_Si post) args s 0 0 nof) (F0 m 5 ls []) := by
  intro n
  induction n with
  | zero =>
    intro x3 x4 ls h hl
    exact h.elim
  | succ n ih =>
    intro x3 x4 ls h hl
    rw [L_X10_beatsTo_5] at h
    have hx := S.1
    have hb := S.2.1
    refine lv_iload hx hb dX10_beatsTo_5 (lv_at hl 4 rfl) ?_
    refine lv_iload_n hx hb dX10_beatsTo_7 rfl (lv_at hl 2 rfl) ?_
    refine lv_icmp_ge (tgt := 32) hx hb dX10_beatsTo_8 (by decide) (fun hc => ?_) (fun hc => ?_)
    · have h := h.1 hc
      refine lv_iload_n hx hb dX10_beatsTo_32 rfl (lv_at hl 3 rfl) ?_
      exact W.iret hx hb hr (fun t ht _ => ⟨_, rfl, h, ht⟩) (fun _ hq => by cases hq) dX10_beatsTo_33
    have h := h.2 hc
    refine lv_iload_n hx hb dX10_beatsTo_11 rfl (lv_at hl 3 rfl) ?_
    refine lv_aload_n hx hb dX10_beatsTo_12 rfl (lv_at hl 0 rfl) ?_
    refine gf S hE hP 0 rfl rfl inX10 (k := 20) (by decide) q1113 rfl dX10_beatsTo_13 ?_
    refine lv_bipush (v := 12) hx hb dX10_beatsTo_16 (by decide) ?_
    refine lv_iload_n hx hb dX10_beatsTo_18 rfl (lv_at hl 1 rfl) ?_
    refine lv_imul hx hb dX10_beatsTo_19 ?_
    refine lv_iload hx hb dX10_beatsTo_20 (lv_at hl 4 rfl) ?_
    refine lv_iadd hx hb dX10_beatsTo_22 ?_
    obtain ⟨hi, h⟩ := h
    refine ial S hE hP 1 rfl hi dX10_beatsTo_23 ?_
    refine lv_iadd hx hb dX10_beatsTo_24 ?_
    refine lv_topi (fun x3_25 ex3_25 => ?_)
    have h := h _ ex3_25
    refine lv_istore_n (lv' := [(3, .int x3_25), (0, .ref a_o), (1, .int x1), (2, .int x2), (4, .int x4)]) hx hb dX10_beatsTo_25 rfl hl (by decide) rfl (fun ls hl => ?_)
    obtain ⟨x4_26, ex4_26⟩ : ∃ z : Int32, z = x4 + 1 := ⟨_, rfl⟩
    have h := h _ ex4_26
    refine lv_iinc (v := x4_26) (lv' := [(4, .int x4_26), (3, .int x3_25), (0, .ref a_o), (1, .int x1), (2, .int x2)]) hx hb dX10_beatsTo_26 hl (k := 4) rfl (by rw [ex4_26]; rfl) (by decide) rfl (fun ls hl => ?_)
    refine lv_goto (tgt := 5) hx hb dX10_beatsTo_29 (by decide) ?_
    exact ih _ _ _ h (lv_sub hl [2, 3, 4, 1, 0] rfl)
set_option maxHeartbeats 4000000 in
set_option maxRecDepth 100000 in
theorem c_X10_beatsTo {l : Launch} {D : va_G} {cI cJ cS : ClassId} {ad adK : Nat → Nat} {a_o a_beats : Nat} {z_refused z_steps z_kind z_space z_other z_times z_speed z_base z_share z_notes z_pitch z_held z_sort z_size z_shown z_cells z_carried z_words z_tell z_was z_kept z_cutSpace z_cutTimes z_cutOff z_trace : Value} {v_stretches : Int32} {v_cars : Int32} {v_tunes : Int32} {v_along : Int32} {v_near : Int32} {v_borne : Int32} {v_tempo : Int32} {v_seed : Int32} {v_fault : Int32} {v_from : Int32} {v_at : Int32} {v_end : Int32} {v_told : Int32} {v_wrongAt : Int32} {v_culprit : Int32} {v_ran : Int32} {v_isKept : Int32} {f_beats : Nat → Int32} {x1 : Int32} {x2 : Int32} {post : Int32 → Prop} (h : F_X10_beatsTo f_beats x1 x2 post) : Met l yX10_beatsTo (Cond.code yX10_beatsTo cX10_beatsTo 5 (some (.int)) :: GW) (rmd 0 0 0) (PR D cI cJ cS ad adK [.ref a_o, .int x1, .int x2] (wX10_beatsTo cI cJ cS a_o a_beats z_refused z_steps z_kind z_space z_other z_times z_speed z_base z_share z_notes z_pitch z_held z_sort z_size z_shown z_cells z_carried z_words z_tell z_was z_kept z_cutSpace z_cutTimes z_cutOff z_trace v_stretches v_cars v_tunes v_along v_near v_borne v_tempo v_seed v_fault v_from v_at v_end v_told v_wrongAt v_culprit v_ran v_isKept f_beats)) (vp_Si post) 0 0 nof := by
  refine Met.ro (by decide) (Nat.le_of_ble_eq_true rfl) (fun p e s m args below meth c ls (S : CallFix p m c cX10_beatsTo 5 s args GW "RoadThatSingsModel") hE hT hP hS hr hlocks hl => ?_)
  have hx := S.1
  have hb := S.2.1
  have hl : lv_has ls 5 [(0, .ref a_o), (1, .int x1), (2, .int x2)] := hl
  unfold F_X10_beatsTo at h
  refine lv_iconst (v := 0) hx hb dX10_beatsTo_0 (by decide) ?_
  refine lv_istore_n (lv' := [(3, .int 0), (0, .ref a_o), (1, .int x1), (2, .int x2)]) hx hb dX10_beatsTo_1 rfl hl (by decide) rfl (fun ls hl => ?_)
  refine lv_iconst (v := 0) hx hb dX10_beatsTo_2 (by decide) ?_
  refine lv_istore (lv' := [(4, .int 0), (3, .int 0), (0, .ref a_o), (1, .int x1), (2, .int x2)]) hx hb dX10_beatsTo_3 hl (by decide) rfl (fun ls hl => ?_)
  obtain ⟨n, h⟩ := h
  refine w_X10_beatsTo_5 S hE hT hP hS hr hlocks n _ _ _ h (lv_sub hl [2, 3, 4, 1, 0] rfl)
/-! X10_noteOf -/
abbrev wX10_noteOf (cI cJ cS : ClassId) (a_o a_beats a_notes a_pitch a_refused : Nat) (z_steps z_kind z_space z_other z_times z_speed z_base z_share z_held z_sort z_size z_shown z_cells z_carried z_words z_tell z_was z_kept z_cutSpace z_cutTimes z_cutOff z_trace : Value) (v_stretches : Int32) (v_cars : Int32) (v_tunes : Int32) (v_along : Int32) (v_near : Int32) (v_borne : Int32) (v_tempo : Int32) (v_seed : Int32) (v_fault : Int32) (v_from : Int32) (v_at : Int32) (v_end : Int32) (v_told : Int32) (v_wrongAt : Int32) (v_culprit : Int32) (v_ran : Int32) (v_isKept : Int32) (f_beats : Nat → Int32) (f_notes : Nat → Int32) (f_pitch : Nat → Int32) (f_refused : Nat → Int32) : va_W := [(a_o, .inr (9, [.int v_stretches, .int v_cars, .int v_tunes, .int v_along, .int v_near, .int v_borne, .int v_tempo, .int v_seed, .int v_fault, .ref a_refused, z_steps, z_kind, z_space, z_other, z_times, z_speed, z_base, z_share, .ref a_notes, .ref a_pitch, .ref a_beats, z_held, z_sort, z_size, z_shown, z_cells, z_carried, z_words, z_tell, .int v_from, .int v_at, .int v_end, .int v_told, .int v_wrongAt, z_was, z_kept, .int v_culprit, z_cutSpace, z_cutTimes, z_cutOff, z_trace, .int v_ran, .int v_isKept])), (a_beats, .inl (cI, 72, .inl f_beats)), (a_notes, .inl (cI, 6, .inl f_notes)), (a_pitch, .inl (cI, 72, .inl f_pitch)), (a_refused, .inl (cI, 8, .inl f_refused))]
def F_X10_noteOf (v_tunes : Int32) (f_beats : Nat → Int32) (f_notes : Nat → Int32) (f_pitch : Nat → Int32) (f_refused : Nat → Int32) (x1 : Int32) (x2 : Int32) (x3 : Int32) (post : Int32 → (Nat → Int32) → Prop) : Prop := (F_X10_isTune v_tunes x1 (fun r2 => ((r2 = 0 → (F_X10_no f_refused (-5) (fun r35 w35_0 => post r35 w35_0))) ∧ (¬ r2 = 0 → ((x2 < (-1) → (F_X10_no f_refused (-5) (fun r35 w35_0 => post r35 w35_0))) ∧ (¬ x2 < (-1) → (vp_in x1 6 ∧ (((f_notes x1.toNatClampNeg) ≤ x2 → (F_X10_no f_refused (-5) (fun r35 w35_0 => post r35 w35_0))) ∧ (¬ (f_notes x1.toNatClampNeg) ≤ x2 → ((x3 < 0 → (F_X10_no f_refused (-5) (fun r35 w35_0 => post r35 w35_0))) ∧ (¬ x3 < 0 → ((x3 ≤ 1 → ((x2 = (-1) → ((x3 = 0 → (vp_in x1 6 ∧ post (f_notes x1.toNatClampNeg) f_refused)) ∧ (¬ x3 = 0 → (vp_in x1 6 ∧ (F_X10_beatsTo f_beats x1 (f_notes x1.toNatClampNeg) (fun r65 => post r65 f_refused)))))) ∧ (¬ x2 = (-1) → ((x3 = 0 → (vp_in ((12 * x1) + x2) 72 ∧ post (f_pitch ((12 * x1) + x2).toNatClampNeg) f_refused)) ∧ (¬ x3 = 0 → (vp_in ((12 * x1) + x2) 72 ∧ post (f_beats ((12 * x1) + x2).toNatClampNeg) f_refused)))))) ∧ (¬ x3 ≤ 1 → (F_X10_no f_refused (-5) (fun r35 w35_0 => post r35 w35_0)))))))))))))))
set_option maxHeartbeats 4000000 in
set_option maxRecDepth 100000 in
theorem c_X10_noteOf {l : Launch} {D : va_G} {cI cJ cS : ClassId} {ad adK : Nat → Nat} {a_o a_beats a_notes a_pitch a_refused : Nat} {z_steps z_kind z_space z_other z_times z_speed z_base z_share z_held z_sort z_size z_shown z_cells z_carried z_words z_tell z_was z_kept z_cutSpace z_cutTimes z_cutOff z_trace : Value} {v_stretches : Int32} {v_cars : Int32} {v_tunes : Int32} {v_along : Int32} {v_near : Int32} {v_borne : Int32} {v_tempo : Int32} {v_seed : Int32} {v_fault : Int32} {v_from : Int32} {v_at : Int32} {v_end : Int32} {v_told : Int32} {v_wrongAt : Int32} {v_culprit : Int32} {v_ran : Int32} {v_isKept : Int32} {f_beats : Nat → Int32} {f_notes : Nat → Int32} {f_pitch : Nat → Int32} {f_refused : Nat → Int32} {x1 : Int32} {x2 : Int32} {x3 : Int32} {post : Int32 → (Nat → Int32) → Prop} (h : F_X10_noteOf v_tunes f_beats f_notes f_pitch f_refused x1 x2 x3 post) {sz : Nat} : Met l yX10_noteOf (Cond.code yX10_noteOf cX10_noteOf 4 (some (.int)) :: GW) (rmd 1 0 0) (PW D cI cJ cS ad adK [.ref a_o, .int x1, .int x2, .int x3] (wX10_noteOf cI cJ cS a_o a_beats a_notes a_pitch a_refused z_steps z_kind z_space z_other z_times z_speed z_base z_share z_held z_sort z_size z_shown z_cells z_carried z_words z_tell z_was z_kept z_cutSpace z_cutTimes z_cutOff z_trace v_stretches v_cars v_tunes v_along v_near v_borne v_tempo v_seed v_fault v_from v_at v_end v_told v_wrongAt v_culprit v_ran v_isKept f_beats f_notes f_pitch f_refused) sz) (va_Qi (fun r (u : (Nat → Int32)) => post r u) (fun u t => va_P D vwCl (wX10_noteOf cI cJ cS a_o a_beats a_notes a_pitch a_refused z_steps z_kind z_space z_other z_times z_speed z_base z_share z_held z_sort z_size z_shown z_cells z_carried z_words z_tell z_was z_kept z_cutSpace z_cutTimes z_cutOff z_trace v_stretches v_cars v_tunes v_along v_near v_borne v_tempo v_seed v_fault v_from v_at v_end v_told v_wrongAt v_culprit v_ran v_isKept f_beats f_notes f_pitch u) t.heap) (va_A (wX10_noteOf cI cJ cS a_o a_beats a_notes a_pitch a_refused z_steps z_kind z_space z_other z_times z_speed z_base z_share z_held z_sort z_size z_shown z_cells z_carried z_words z_tell z_was z_kept z_cutSpace z_cutTimes z_cutOff z_trace v_stretches v_cars v_tunes v_along v_near v_borne v_tempo v_seed v_fault v_from v_at v_end v_told v_wrongAt v_culprit v_ran v_isKept f_beats f_notes f_pitch f_refused) sz)) 0 0 (va_A (wX10_noteOf cI cJ cS a_o a_beats a_notes a_pitch a_refused z_steps z_kind z_space z_other z_times z_speed z_base z_share z_held z_sort z_size z_shown z_cells z_carried z_words z_tell z_was z_kept z_cutSpace z_cutTimes z_cutOff z_trace v_stretches v_cars v_tunes v_along v_near v_borne v_tempo v_seed v_fault v_from v_at v_end v_told v_wrongAt v_culprit v_ran v_isKept f_beats f_notes f_pitch f_refused) sz) := by
  refine Met.rw (Qc := fun A => (va_Qi (fun r (u : (Nat → Int32)) => post r u) (fun u t => va_P D vwCl (wX10_noteOf cI cJ cS a_o a_beats a_notes a_pitch a_refused z_steps z_kind z_space z_other z_times z_speed z_base z_share z_held z_sort z_size z_shown z_cells z_carried z_words z_tell z_was z_kept z_cutSpace z_cutTimes z_cutOff z_trace v_stretches v_cars v_tunes v_along v_near v_borne v_tempo v_seed v_fault v_from v_at v_end v_told v_wrongAt v_culprit v_ran v_isKept f_beats f_notes f_pitch u) t.heap) A)) (by decide) (Nat.le_of_ble_eq_true rfl) (fun p e s m args below meth c ls A (S : CallFix p m c cX10_noteOf 4 s args GW "RoadThatSingsModel") hE hT hP hD hA hS hr hlocks hname hl => ?_)
  have hS0 := hS
  have hx := S.1
  have hb := S.2.1
  have hl : lv_has ls 4 [(0, .ref a_o), (1, .int x1), (2, .int x2), (3, .int x3)] := hl
  unfold F_X10_noteOf at h
  refine lv_aload_n hx hb dX10_noteOf_0 rfl (lv_at hl 0 rfl) ?_
  refine lv_iload_n hx hb dX10_noteOf_1 rfl (lv_at hl 1 rfl) ?_
  refine ro_i (roV S hE hT hS (c_X10_isTune h) lkX10_168 rfl ⟨(Nat.le_of_ble_eq_true rfl), (Nat.le_of_ble_eq_true rfl)⟩ (hP.sub [0] rfl) 0 rfl rfl hl.1 rfl (Nat.le_of_ble_eq_true rfl) dX10_noteOf_2 ⟨(Nat.zero_le _), (Nat.zero_le _)⟩) (fun r2 h => ?_)
  refine lv_if_eq (tgt := 32) hx hb dX10_noteOf_5 (by decide) (fun hc => ?_) (fun hc => ?_)
  · have h := h.1 hc
    refine lv_aload_n hx hb dX10_noteOf_32 rfl (lv_at hl 0 rfl) ?_
    refine lv_bipush (v := (-5)) hx hb dX10_noteOf_33 (by decide) ?_
    refine rw_i (rwV S hE hT hS hP hD hA (c_X10_no h) [0, 4] rfl (by decide) lkX10_121 rfl ⟨(Nat.le_of_ble_eq_true rfl), (Nat.le_of_ble_eq_true rfl)⟩ 0 rfl rfl hl.1 rfl (Nat.le_of_ble_eq_true rfl) dX10_noteOf_35 ⟨(Nat.zero_le _), (Nat.zero_le _)⟩) hP hD hS hA [0, 4] rfl (by decide) (fun _ => rfl) (fun r35 w35_0 H locs h hP hD hS => ?_)
    try dsimp only at h
    have hP : va_P D vwCl (wX10_noteOf cI cJ cS a_o a_beats a_notes a_pitch a_refused z_steps z_kind z_space z_other z_times z_speed z_base z_share z_held z_sort z_size z_shown z_cells z_carried z_words z_tell z_was z_kept z_cutSpace z_cutTimes z_cutOff z_trace v_stretches v_cars v_tunes v_along v_near v_borne v_tempo v_seed v_fault v_from v_at v_end v_told v_wrongAt v_culprit v_ran v_isKept f_beats f_notes f_pitch w35_0) H := hP
    have hD : va_D A (wX10_noteOf cI cJ cS a_o a_beats a_notes a_pitch a_refused z_steps z_kind z_space z_other z_times z_speed z_base z_share z_held z_sort z_size z_shown z_cells z_carried z_words z_tell z_was z_kept z_cutSpace z_cutTimes z_cutOff z_trace v_stretches v_cars v_tunes v_along v_near v_borne v_tempo v_seed v_fault v_from v_at v_end v_told v_wrongAt v_culprit v_ran v_isKept f_beats f_notes f_pitch w35_0) := hD
    exact W.iret hx hb hr (fun t ht _ => ⟨⟨_, w35_0, rfl, h, hPt hP ht⟩, hS.F ht⟩) hS.2.2 dX10_noteOf_38
  have h := h.2 hc
  refine lv_iload_n hx hb dX10_noteOf_8 rfl (lv_at hl 2 rfl) ?_
  refine lv_iconst (v := (-1)) hx hb dX10_noteOf_9 (by decide) ?_
  refine lv_icmp_lt (tgt := 32) hx hb dX10_noteOf_10 (by decide) (fun hc => ?_) (fun hc => ?_)
  · have h := h.1 hc
    refine lv_aload_n hx hb dX10_noteOf_32 rfl (lv_at hl 0 rfl) ?_
    refine lv_bipush (v := (-5)) hx hb dX10_noteOf_33 (by decide) ?_
    refine rw_i (rwV S hE hT hS hP hD hA (c_X10_no h) [0, 4] rfl (by decide) lkX10_121 rfl ⟨(Nat.le_of_ble_eq_true rfl), (Nat.le_of_ble_eq_true rfl)⟩ 0 rfl rfl hl.1 rfl (Nat.le_of_ble_eq_true rfl) dX10_noteOf_35 ⟨(Nat.zero_le _), (Nat.zero_le _)⟩) hP hD hS hA [0, 4] rfl (by decide) (fun _ => rfl) (fun r35 w35_0 H locs h hP hD hS => ?_)
    try dsimp only at h
    have hP : va_P D vwCl (wX10_noteOf cI cJ cS a_o a_beats a_notes a_pitch a_refused z_steps z_kind z_space z_other z_times z_speed z_base z_share z_held z_sort z_size z_shown z_cells z_carried z_words z_tell z_was z_kept z_cutSpace z_cutTimes z_cutOff z_trace v_stretches v_cars v_tunes v_along v_near v_borne v_tempo v_seed v_fault v_from v_at v_end v_told v_wrongAt v_culprit v_ran v_isKept f_beats f_notes f_pitch w35_0) H := hP
    have hD : va_D A (wX10_noteOf cI cJ cS a_o a_beats a_notes a_pitch a_refused z_steps z_kind z_space z_other z_times z_speed z_base z_share z_held z_sort z_size z_shown z_cells z_carried z_words z_tell z_was z_kept z_cutSpace z_cutTimes z_cutOff z_trace v_stretches v_cars v_tunes v_along v_near v_borne v_tempo v_seed v_fault v_from v_at v_end v_told v_wrongAt v_culprit v_ran v_isKept f_beats f_notes f_pitch w35_0) := hD
    exact W.iret hx hb hr (fun t ht _ => ⟨⟨_, w35_0, rfl, h, hPt hP ht⟩, hS.F ht⟩) hS.2.2 dX10_noteOf_38
  have h := h.2 hc
  refine lv_iload_n hx hb dX10_noteOf_13 rfl (lv_at hl 2 rfl) ?_
  refine lv_aload_n hx hb dX10_noteOf_14 rfl (lv_at hl 0 rfl) ?_
  refine gf S hE hP 0 rfl rfl inX10 (k := 18) (by decide) q1111 rfl dX10_noteOf_15 ?_
  refine lv_iload_n hx hb dX10_noteOf_18 rfl (lv_at hl 1 rfl) ?_
  obtain ⟨hi, h⟩ := h
  refine ial S hE hP 2 rfl hi dX10_noteOf_19 ?_
  refine lv_icmp_ge (tgt := 32) hx hb dX10_noteOf_20 (by decide) (fun hc => ?_) (fun hc => ?_)
  · have h := h.1 hc
    refine lv_aload_n hx hb dX10_noteOf_32 rfl (lv_at hl 0 rfl) ?_
    refine lv_bipush (v := (-5)) hx hb dX10_noteOf_33 (by decide) ?_
    refine rw_i (rwV S hE hT hS hP hD hA (c_X10_no h) [0, 4] rfl (by decide) lkX10_121 rfl ⟨(Nat.le_of_ble_eq_true rfl), (Nat.le_of_ble_eq_true rfl)⟩ 0 rfl rfl hl.1 rfl (Nat.le_of_ble_eq_true rfl) dX10_noteOf_35 ⟨(Nat.zero_le _), (Nat.zero_le _)⟩) hP hD hS hA [0, 4] rfl (by decide) (fun _ => rfl) (fun r35 w35_0 H locs h hP hD hS => ?_)
    try dsimp only at h
    have hP : va_P D vwCl (wX10_noteOf cI cJ cS a_o a_beats a_notes a_pitch a_refused z_steps z_kind z_space z_other z_times z_speed z_base z_share z_held z_sort z_size z_shown z_cells z_carried z_words z_tell z_was z_kept z_cutSpace z_cutTimes z_cutOff z_trace v_stretches v_cars v_tunes v_along v_near v_borne v_tempo v_seed v_fault v_from v_at v_end v_told v_wrongAt v_culprit v_ran v_isKept f_beats f_notes f_pitch w35_0) H := hP
    have hD : va_D A (wX10_noteOf cI cJ cS a_o a_beats a_notes a_pitch a_refused z_steps z_kind z_space z_other z_times z_speed z_base z_share z_held z_sort z_size z_shown z_cells z_carried z_words z_tell z_was z_kept z_cutSpace z_cutTimes z_cutOff z_trace v_stretches v_cars v_tunes v_along v_near v_borne v_tempo v_seed v_fault v_from v_at v_end v_told v_wrongAt v_culprit v_ran v_isKept f_beats f_notes f_pitch w35_0) := hD
    exact W.iret hx hb hr (fun t ht _ => ⟨⟨_, w35_0, rfl, h, hPt hP ht⟩, hS.F ht⟩) hS.2.2 dX10_noteOf_38
  have h := h.2 hc
  refine lv_iload_n hx hb dX10_noteOf_23 rfl (lv_at hl 3 rfl) ?_
  refine lv_if_lt (tgt := 32) hx hb dX10_noteOf_24 (by decide) (fun hc => ?_) (fun hc => ?_)
  · have h := h.1 hc
    refine lv_aload_n hx hb dX10_noteOf_32 rfl (lv_at hl 0 rfl) ?_
    refine lv_bipush (v := (-5)) hx hb dX10_noteOf_33 (by decide) ?_
    refine rw_i (rwV S hE hT hS hP hD hA (c_X10_no h) [0, 4] rfl (by decide) lkX10_121 rfl ⟨(Nat.le_of_ble_eq_true rfl), (Nat.le_of_ble_eq_true rfl)⟩ 0 rfl rfl hl.1 rfl (Nat.le_of_ble_eq_true rfl) dX10_noteOf_35 ⟨(Nat.zero_le _), (Nat.zero_le _)⟩) hP hD hS hA [0, 4] rfl (by decide) (fun _ => rfl) (fun r35 w35_0 H locs h hP hD hS => ?_)
    try dsimp only at h
    have hP : va_P D vwCl (wX10_noteOf cI cJ cS a_o a_beats a_notes a_pitch a_refused z_steps z_kind z_space z_other z_times z_speed z_base z_share z_held z_sort z_size z_shown z_cells z_carried z_words z_tell z_was z_kept z_cutSpace z_cutTimes z_cutOff z_trace v_stretches v_cars v_tunes v_along v_near v_borne v_tempo v_seed v_fault v_from v_at v_end v_told v_wrongAt v_culprit v_ran v_isKept f_beats f_notes f_pitch w35_0) H := hP
    have hD : va_D A (wX10_noteOf cI cJ cS a_o a_beats a_notes a_pitch a_refused z_steps z_kind z_space z_other z_times z_speed z_base z_share z_held z_sort z_size z_shown z_cells z_carried z_words z_tell z_was z_kept z_cutSpace z_cutTimes z_cutOff z_trace v_stretches v_cars v_tunes v_along v_near v_borne v_tempo v_seed v_fault v_from v_at v_end v_told v_wrongAt v_culprit v_ran v_isKept f_beats f_notes f_pitch w35_0) := hD
    exact W.iret hx hb hr (fun t ht _ => ⟨⟨_, w35_0, rfl, h, hPt hP ht⟩, hS.F ht⟩) hS.2.2 dX10_noteOf_38
  have h := h.2 hc
  refine lv_iload_n hx hb dX10_noteOf_27 rfl (lv_at hl 3 rfl) ?_
  refine lv_iconst (v := 1) hx hb dX10_noteOf_28 (by decide) ?_
  refine lv_icmp_le (tgt := 39) hx hb dX10_noteOf_29 (by decide) (fun hc => ?_) (fun hc => ?_)
  · have h := h.1 hc
    refine lv_iload_n hx hb dX10_noteOf_39 rfl (lv_at hl 2 rfl) ?_
    refine lv_iconst (v := (-1)) hx hb dX10_noteOf_40 (by decide) ?_
    refine lv_icmp_ne (tgt := 69) hx hb dX10_noteOf_41 (by decide) (fun hc => ?_) (fun hc => ?_)
    · have h := h.2 hc
      refine lv_iload_n hx hb dX10_noteOf_69 rfl (lv_at hl 3 rfl) ?_
      refine lv_if_ne (tgt := 87) hx hb dX10_noteOf_70 (by decide) (fun hc => ?_) (fun hc => ?_)
      · have h := h.2 hc
        refine lv_aload_n hx hb dX10_noteOf_87 rfl (lv_at hl 0 rfl) ?_
        refine gf S hE hP 0 rfl rfl inX10 (k := 20) (by decide) q1113 rfl dX10_noteOf_88 ?_
        refine lv_bipush (v := 12) hx hb dX10_noteOf_91 (by decide) ?_
        refine lv_iload_n hx hb dX10_noteOf_93 rfl (lv_at hl 1 rfl) ?_
        refine lv_imul hx hb dX10_noteOf_94 ?_
        refine lv_iload_n hx hb dX10_noteOf_95 rfl (lv_at hl 2 rfl) ?_
        refine lv_iadd hx hb dX10_noteOf_96 ?_
        obtain ⟨hi, h⟩ := h
        refine ial S hE hP 1 rfl hi dX10_noteOf_97 ?_
        exact W.iret hx hb hr (fun t ht _ => ⟨⟨_, f_refused, rfl, h, hPt hP ht⟩, hS.F ht⟩) hS.2.2 dX10_noteOf_98
      have h := h.1 hc
      refine lv_aload_n hx hb dX10_noteOf_73 rfl (lv_at hl 0 rfl) ?_
      refine gf S hE hP 0 rfl rfl inX10 (k := 19) (by decide) q1112 rfl dX10_noteOf_74 ?_
      refine lv_bipush (v := 12) hx hb dX10_noteOf_77 (by decide) ?_
      refine lv_iload_n hx hb dX10_noteOf_79 rfl (lv_at hl 1 rfl) ?_
      refine lv_imul hx hb dX10_noteOf_80 ?_
      refine lv_iload_n hx hb dX10_noteOf_81 rfl (lv_at hl 2 rfl) ?_
      refine lv_iadd hx hb dX10_noteOf_82 ?_
      obtain ⟨hi, h⟩ := h
      refine ial S hE hP 3 rfl hi dX10_noteOf_83 ?_
      refine lv_goto (tgt := 98) hx hb dX10_noteOf_84 (by decide) ?_
      exact W.iret hx hb hr (fun t ht _ => ⟨⟨_, f_refused, rfl, h, hPt hP ht⟩, hS.F ht⟩) hS.2.2 dX10_noteOf_98
    have h := h.1 hc
    refine lv_iload_n hx hb dX10_noteOf_44 rfl (lv_at hl 3 rfl) ?_
    refine lv_if_ne (tgt := 57) hx hb dX10_noteOf_45 (by decide) (fun hc => ?_) (fun hc => ?_)
    · have h := h.2 hc
      refine lv_aload_n hx hb dX10_noteOf_57 rfl (lv_at hl 0 rfl) ?_
      refine lv_iload_n hx hb dX10_noteOf_58 rfl (lv_at hl 1 rfl) ?_
      refine lv_aload_n hx hb dX10_noteOf_59 rfl (lv_at hl 0 rfl) ?_
      refine gf S hE hP 0 rfl rfl inX10 (k := 18) (by decide) q1111 rfl dX10_noteOf_60 ?_
      refine lv_iload_n hx hb dX10_noteOf_63 rfl (lv_at hl 1 rfl) ?_
      obtain ⟨hi, h⟩ := h
      refine ial S hE hP 2 rfl hi dX10_noteOf_64 ?_
      refine ro_i (roV S hE hT hS (c_X10_beatsTo h) lkX10_171 rfl ⟨(Nat.le_of_ble_eq_true rfl), (Nat.le_of_ble_eq_true rfl)⟩ (hP.sub [0, 1] rfl) 0 rfl rfl hl.1 rfl (Nat.le_of_ble_eq_true rfl) dX10_noteOf_65 ⟨(Nat.zero_le _), (Nat.zero_le _)⟩) (fun r65 h => ?_)
      exact W.iret hx hb hr (fun t ht _ => ⟨⟨_, f_refused, rfl, h, hPt hP ht⟩, hS.F ht⟩) hS.2.2 dX10_noteOf_68
    have h := h.1 hc
    refine lv_aload_n hx hb dX10_noteOf_48 rfl (lv_at hl 0 rfl) ?_
    refine gf S hE hP 0 rfl rfl inX10 (k := 18) (by decide) q1111 rfl dX10_noteOf_49 ?_
    refine lv_iload_n hx hb dX10_noteOf_52 rfl (lv_at hl 1 rfl) ?_
    obtain ⟨hi, h⟩ := h
    refine ial S hE hP 2 rfl hi dX10_noteOf_53 ?_
    refine lv_goto (tgt := 68) hx hb dX10_noteOf_54 (by decide) ?_
    exact W.iret hx hb hr (fun t ht _ => ⟨⟨_, f_refused, rfl, h, hPt hP ht⟩, hS.F ht⟩) hS.2.2 dX10_noteOf_68
  have h := h.2 hc
  refine lv_aload_n hx hb dX10_noteOf_32 rfl (lv_at hl 0 rfl) ?_
  refine lv_bipush (v := (-5)) hx hb dX10_noteOf_33 (by decide) ?_
  refine rw_i (rwV S hE hT hS hP hD hA (c_X10_no h) [0, 4] rfl (by decide) lkX10_121 rfl ⟨(Nat.le_of_ble_eq_true rfl), (Nat.le_of_ble_eq_true rfl)⟩ 0 rfl rfl hl.1 rfl (Nat.le_of_ble_eq_true rfl) dX10_noteOf_35 ⟨(Nat.zero_le _), (Nat.zero_le _)⟩) hP hD hS hA [0, 4] rfl (by decide) (fun _ => rfl) (fun r35 w35_0 H locs h hP hD hS => ?_)
  try dsimp only at h
  have hP : va_P D vwCl (wX10_noteOf cI cJ cS a_o a_beats a_notes a_pitch a_refused z_steps z_kind z_space z_other z_times z_speed z_base z_share z_held z_sort z_size z_shown z_cells z_carried z_words z_tell z_was z_kept z_cutSpace z_cutTimes z_cutOff z_trace v_stretches v_cars v_tunes v_along v_near v_borne v_tempo v_seed v_fault v_from v_at v_end v_told v_wrongAt v_culprit v_ran v_isKept f_beats f_notes f_pitch w35_0) H := hP
  have hD : va_D A (wX10_noteOf cI cJ cS a_o a_beats a_notes a_pitch a_refused z_steps z_kind z_space z_other z_times z_speed z_base z_share z_held z_sort z_size z_shown z_cells z_carried z_words z_tell z_was z_kept z_cutSpace z_cutTimes z_cutOff z_trace v_stretches v_cars v_tunes v_along v_near v_borne v_tempo v_seed v_fault v_from v_at v_end v_told v_wrongAt v_culprit v_ran v_isKept f_beats f_notes f_pitch w35_0) := hD
  exact W.iret hx hb hr (fun t ht _ => ⟨⟨_, w35_0, rfl, h, hPt hP ht⟩, hS.F ht⟩) hS.2.2 dX10_noteOf_38
/-! X10_ask -/
abbrev wX10_ask (cI cJ cS : ClassId) (a_o a_refused : Nat) (z_steps z_kind z_space z_other z_times z_speed z_base z_share z_notes z_pitch z_beats z_held z_sort z_size z_shown z_cells z_carried z_words z_tell z_was z_kept z_cutSpace z_cutTimes z_cutOff z_trace : Value) (v_stretches : Int32) (v_cars : Int32) (v_tunes : Int32) (v_along : Int32) (v_near : Int32) (v_borne : Int32) (v_tempo : Int32) (v_seed : Int32) (v_fault : Int32) (v_from : Int32) (v_at : Int32) (v_end : Int32) (v_told : Int32) (v_wrongAt : Int32) (v_culprit : Int32) (v_ran : Int32) (v_isKept : Int32) (f_refused : Nat → Int32) : va_W := [(a_o, .inr (9, [.int v_stretches, .int v_cars, .int v_tunes, .int v_along, .int v_near, .int v_borne, .int v_tempo, .int v_seed, .int v_fault, .ref a_refused, z_steps, z_kind, z_space, z_other, z_times, z_speed, z_base, z_share, z_notes, z_pitch, z_beats, z_held, z_sort, z_size, z_shown, z_cells, z_carried, z_words, z_tell, .int v_from, .int v_at, .int v_end, .int v_told, .int v_wrongAt, z_was, z_kept, .int v_culprit, z_cutSpace, z_cutTimes, z_cutOff, z_trace, .int v_ran, .int v_isKept])), (a_refused, .inl (cI, 8, .inl f_refused))]
def F_X10_ask_87 (post : Int32 → Int32 → Int32 → Int32 → Int32 → (Nat → Int32) → Prop) (x1 : Int32) (x2 : Int32) (v_along : Int32) (v_near : Int32) (v_borne : Int32) (v_tempo : Int32) (f_refused : Nat → Int32) : Prop := ((x1 = 3 → ((x2 < 50 → (F_X10_no f_refused (-6) (fun r121 w121_0 => post r121 v_along v_near v_borne v_tempo w121_0))) ∧ (¬ x2 < 50 → ((2000 < x2 → (F_X10_no f_refused (-6) (fun r121 w121_0 => post r121 v_along v_near v_borne v_tempo w121_0))) ∧ (¬ 2000 < x2 → post v_tempo v_along v_near v_borne x2 f_refused))))) ∧ (¬ x1 = 3 → (F_X10_no f_refused (-6) (fun r121 w121_0 => post r121 v_along v_near v_borne v_tempo w121_0))))
def F_X10_ask_58 (post : Int32 → Int32 → Int32 → Int32 → Int32 → (Nat → Int32) → Prop) (x1 : Int32) (x2 : Int32) (v_along : Int32) (v_near : Int32) (v_borne : Int32) (v_tempo : Int32) (f_refused : Nat → Int32) : Prop := ((x1 = 2 → ((x2 < 0 → F_X10_ask_87 post x1 x2 v_along v_near v_borne v_tempo f_refused) ∧ (¬ x2 < 0 → ((500 < x2 → F_X10_ask_87 post x1 x2 v_along v_near v_borne v_tempo f_refused) ∧ (¬ 500 < x2 → post v_borne v_along v_near x2 v_tempo f_refused))))) ∧ (¬ x1 = 2 → F_X10_ask_87 post x1 x2 v_along v_near v_borne v_tempo f_refused))
def F_X10_ask_29 (post : Int32 → Int32 → Int32 → Int32 → Int32 → (Nat → Int32) → Prop) (x1 : Int32) (x2 : Int32) (v_along : Int32) (v_near : Int32) (v_borne : Int32) (v_tempo : Int32) (f_refused : Nat → Int32) : Prop := ((x1 = 1 → ((x2 < 2 → F_X10_ask_58 post x1 x2 v_along v_near v_borne v_tempo f_refused) ∧ (¬ x2 < 2 → ((30 < x2 → F_X10_ask_58 post x1 x2 v_along v_near v_borne v_tempo f_refused) ∧ (¬ 30 < x2 → post v_near v_along x2 v_borne v_tempo f_refused))))) ∧ (¬ x1 = 1 → F_X10_ask_58 post x1 x2 v_along v_near v_borne v_tempo f_refused))
def F_X10_ask (v_along : Int32) (v_near : Int32) (v_borne : Int32) (v_tempo : Int32) (f_refused : Nat → Int32) (x1 : Int32) (x2 : Int32) (post : Int32 → Int32 → Int32 → Int32 → Int32 → (Nat → Int32) → Prop) : Prop := ((x1 = 0 → ((x2 < 1 → F_X10_ask_29 post x1 x2 v_along v_near v_borne v_tempo f_refused) ∧ (¬ x2 < 1 → ((9999 < x2 → F_X10_ask_29 post x1 x2 v_along v_near v_borne v_tempo f_refused) ∧ (¬ 9999 < x2 → post v_along x2 v_near v_borne v_tempo f_refused))))) ∧ (¬ x1 = 0 → F_X10_ask_29 post x1 x2 v_along v_near v_borne v_tempo f_refused))
set_option maxHeartbeats 4000000 in
set_option maxRecDepth 100000 in
theorem w_X10_ask_87 {l : Launch} {D : va_G} {cI cJ cS : ClassId} {ad adK : Nat → Nat} {a_o a_refused : Nat} {z_steps z_kind z_space z_other z_times z_speed z_base z_share z_notes z_pitch z_beats z_held z_sort z_size z_shown z_cells z_carried z_words z_tell z_was z_kept z_cutSpace z_cutTimes z_cutOff z_trace : Value} {v_stretches : Int32} {v_cars : Int32} {v_tunes : Int32} {v_along : Int32} {v_near : Int32} {v_borne : Int32} {v_tempo : Int32} {v_seed : Int32} {v_fault : Int32} {v_from : Int32} {v_at : Int32} {v_end : Int32} {v_told : Int32} {v_wrongAt : Int32} {v_culprit : Int32} {v_ran : Int32} {v_isKept : Int32} {f_refused : Nat → Int32} {x1 : Int32} {x2 : Int32} {post : Int32 → Int32 → Int32 → Int32 → Int32 → (Nat → Int32) → Prop} {p : Program} {e : Env} {s : State} {m : MethodId} {args : Array Value} {below : List Frame} {meth : Method} {c : Code} {A : Nat → Prop} (S : CallFix p m c cX10_ask 4 s args GW "RoadThatSingsModel") (hE : EN D cI cJ cS s) (hT : ST ad adK A s s.heap) (hA : ∀ q : Nat, s.heap.size ≤ q → A q) (hr : meth.sig.returnType = (some (.int))) (hlocks : meth.locks = false) : ∀ (H : Heap) (locs : List Loc) (ls : Array Slot), F_X10_ask_87 post x1 x2 v_along v_near v_borne v_tempo f_refused → va_P D vwCl (wX10_ask cI cJ cS a_o a_refused z_steps z_kind z_space z_other z_times z_speed z_base z_share z_notes z_pitch z_beats z_held z_sort z_size z_shown z_cells z_carried z_words z_tell z_was z_kept z_cutSpace z_cutTimes z_cutOff z_trace v_stretches v_cars v_tunes v_along v_near v_borne v_tempo v_seed v_fault v_from v_at v_end v_told v_wrongAt v_culprit v_ran v_isKept f_refused) H → va_D A (wX10_ask cI cJ cS a_o a_refused z_steps z_kind z_space z_other z_times z_speed z_base z_share z_notes z_pitch z_beats z_held z_sort z_size z_shown z_cells z_carried z_words z_tell z_was z_kept z_cutSpace z_cutTimes z_cutOff z_trace v_stretches v_cars v_tunes v_along v_near v_borne v_tempo v_seed v_fault v_from v_at v_end v_told v_wrongAt v_culprit v_ran v_isKept f_refused) → va_S A s.heap H locs → lv_has ls 4 [(0, .ref a_o), (1, .int x1), (2, .int x2)] → W p l e (rmd 1 0 0) s m args below meth c H locs 0 0 (MQ below (va_Qi (fun r (u : Int32 × Int32 × Int32 × Int32 × (Nat → Int32)) => post r u.1 u.2.1 u.2.2.1 u.2.2.2.1 u.2.2.2.2) (fun u t => va_P D vwCl (wX10_ask cI cJ cS a_o a_refused z_steps z_kind z_space z_other z_times z_speed z_base z_share z_notes z_pitch z_beats z_held z_sort z_size z_shown z_cells z_carried z_words z_tell z_was z_kept z_cutSpace z_cutTimes z_cutOff z_trace v_stretches v_cars v_tunes u.1 u.2.1 u.2.2.1 u.2.2.2.1 v_seed v_fault v_from v_at v_end v_told v_wrongAt v_culprit v_ran v_isKept u.2.2.2.2) t.heap) A) args s 0 0 A) (F0 m 87 ls []) := by
  intro  H locs ls h hP hD hS hl
  unfold F_X10_ask_87 at h
  have hx := S.1
  have hb := S.2.1
  refine lv_iload_n hx hb dX10_ask_87 rfl (lv_at hl 1 rfl) ?_
  refine lv_iconst (v := 3) hx hb dX10_ask_88 (by decide) ?_
  refine lv_icmp_ne (tgt := 118) hx hb dX10_ask_89 (by decide) (fun hc => ?_) (fun hc => ?_)
  · have h := h.2 hc
    refine lv_aload_n hx hb dX10_ask_118 rfl (lv_at hl 0 rfl) ?_
    refine lv_bipush (v := (-6)) hx hb dX10_ask_119 (by decide) ?_
    refine rw_i (rwV S hE hT hS hP hD hA (c_X10_no h) [0, 1] rfl (by decide) lkX10_121 rfl ⟨(Nat.le_of_ble_eq_true rfl), (Nat.le_of_ble_eq_true rfl)⟩ 0 rfl rfl hl.1 rfl (Nat.le_of_ble_eq_true rfl) dX10_ask_121 ⟨(Nat.zero_le _), (Nat.zero_le _)⟩) hP hD hS hA [0, 1] rfl (by decide) (fun _ => rfl) (fun r121 w121_0 H locs h hP hD hS => ?_)
    try dsimp only at h
    have hP : va_P D vwCl (wX10_ask cI cJ cS a_o a_refused z_steps z_kind z_space z_other z_times z_speed z_base z_share z_notes z_pitch z_beats z_held z_sort z_size z_shown z_cells z_carried z_words z_tell z_was z_kept z_cutSpace z_cutTimes z_cutOff z_trace v_stretches v_cars v_tunes v_along v_near v_borne v_tempo v_seed v_fault v_from v_at v_end v_told v_wrongAt v_culprit v_ran v_isKept w121_0) H := hP
    have hD : va_D A (wX10_ask cI cJ cS a_o a_refused z_steps z_kind z_space z_other z_times z_speed z_base z_share z_notes z_pitch z_beats z_held z_sort z_size z_shown z_cells z_carried z_words z_tell z_was z_kept z_cutSpace z_cutTimes z_cutOff z_trace v_stretches v_cars v_tunes v_along v_near v_borne v_tempo v_seed v_fault v_from v_at v_end v_told v_wrongAt v_culprit v_ran v_isKept w121_0) := hD
    exact W.iret hx hb hr (fun t ht _ => ⟨⟨_, (v_along, v_near, v_borne, v_tempo, w121_0), rfl, h, hPt hP ht⟩, hS.F ht⟩) hS.2.2 dX10_ask_124
  have h := h.1 hc
  refine lv_iload_n hx hb dX10_ask_92 rfl (lv_at hl 2 rfl) ?_
  refine lv_bipush (v := 50) hx hb dX10_ask_93 (by decide) ?_
  refine lv_icmp_lt (tgt := 118) hx hb dX10_ask_95 (by decide) (fun hc => ?_) (fun hc => ?_)
  · have h := h.1 hc
    refine lv_aload_n hx hb dX10_ask_118 rfl (lv_at hl 0 rfl) ?_
    refine lv_bipush (v := (-6)) hx hb dX10_ask_119 (by decide) ?_
    refine rw_i (rwV S hE hT hS hP hD hA (c_X10_no h) [0, 1] rfl (by decide) lkX10_121 rfl ⟨(Nat.le_of_ble_eq_true rfl), (Nat.le_of_ble_eq_true rfl)⟩ 0 rfl rfl hl.1 rfl (Nat.le_of_ble_eq_true rfl) dX10_ask_121 ⟨(Nat.zero_le _), (Nat.zero_le _)⟩) hP hD hS hA [0, 1] rfl (by decide) (fun _ => rfl) (fun r121 w121_0 H locs h hP hD hS => ?_)
    try dsimp only at h
    have hP : va_P D vwCl (wX10_ask cI cJ cS a_o a_refused z_steps z_kind z_space z_other z_times z_speed z_base z_share z_notes z_pitch z_beats z_held z_sort z_size z_shown z_cells z_carried z_words z_tell z_was z_kept z_cutSpace z_cutTimes z_cutOff z_trace v_stretches v_cars v_tunes v_along v_near v_borne v_tempo v_seed v_fault v_from v_at v_end v_told v_wrongAt v_culprit v_ran v_isKept w121_0) H := hP
    have hD : va_D A (wX10_ask cI cJ cS a_o a_refused z_steps z_kind z_space z_other z_times z_speed z_base z_share z_notes z_pitch z_beats z_held z_sort z_size z_shown z_cells z_carried z_words z_tell z_was z_kept z_cutSpace z_cutTimes z_cutOff z_trace v_stretches v_cars v_tunes v_along v_near v_borne v_tempo v_seed v_fault v_from v_at v_end v_told v_wrongAt v_culprit v_ran v_isKept w121_0) := hD
    exact W.iret hx hb hr (fun t ht _ => ⟨⟨_, (v_along, v_near, v_borne, v_tempo, w121_0), rfl, h, hPt hP ht⟩, hS.F ht⟩) hS.2.2 dX10_ask_124
  have h := h.2 hc
  refine lv_iload_n hx hb dX10_ask_98 rfl (lv_at hl 2 rfl) ?_
  refine lv_sipush (v := 2000) hx hb dX10_ask_99 (by decide) ?_
  refine lv_icmp_gt (tgt := 118) hx hb dX10_ask_102 (by decide) (fun hc => ?_) (fun hc => ?_)
  · have h := h.1 hc
    refine lv_aload_n hx hb dX10_ask_118 rfl (lv_at hl 0 rfl) ?_
    refine lv_bipush (v := (-6)) hx hb dX10_ask_119 (by decide) ?_
    refine rw_i (rwV S hE hT hS hP hD hA (c_X10_no h) [0, 1] rfl (by decide) lkX10_121 rfl ⟨(Nat.le_of_ble_eq_true rfl), (Nat.le_of_ble_eq_true rfl)⟩ 0 rfl rfl hl.1 rfl (Nat.le_of_ble_eq_true rfl) dX10_ask_121 ⟨(Nat.zero_le _), (Nat.zero_le _)⟩) hP hD hS hA [0, 1] rfl (by decide) (fun _ => rfl) (fun r121 w121_0 H locs h hP hD hS => ?_)
    try dsimp only at h
    have hP : va_P D vwCl (wX10_ask cI cJ cS a_o a_refused z_steps z_kind z_space z_other z_times z_speed z_base z_share z_notes z_pitch z_beats z_held z_sort z_size z_shown z_cells z_carried z_words z_tell z_was z_kept z_cutSpace z_cutTimes z_cutOff z_trace v_stretches v_cars v_tunes v_along v_near v_borne v_tempo v_seed v_fault v_from v_at v_end v_told v_wrongAt v_culprit v_ran v_isKept w121_0) H := hP
    have hD : va_D A (wX10_ask cI cJ cS a_o a_refused z_steps z_kind z_space z_other z_times z_speed z_base z_share z_notes z_pitch z_beats z_held z_sort z_size z_shown z_cells z_carried z_words z_tell z_was z_kept z_cutSpace z_cutTimes z_cutOff z_trace v_stretches v_cars v_tunes v_along v_near v_borne v_tempo v_seed v_fault v_from v_at v_end v_told v_wrongAt v_culprit v_ran v_isKept w121_0) := hD
    exact W.iret hx hb hr (fun t ht _ => ⟨⟨_, (v_along, v_near, v_borne, v_tempo, w121_0), rfl, h, hPt hP ht⟩, hS.F ht⟩) hS.2.2 dX10_ask_124
  have h := h.2 hc
  refine lv_aload_n hx hb dX10_ask_105 rfl (lv_at hl 0 rfl) ?_
  refine gf S hE hP 0 rfl rfl inX10 (k := 6) (by decide) q1099 rfl dX10_ask_106 ?_
  refine lv_istore_n (lv' := [(3, .int v_tempo), (0, .ref a_o), (1, .int x1), (2, .int x2)]) hx hb dX10_ask_109 rfl hl (by decide) rfl (fun ls hl => ?_)
  refine lv_aload_n hx hb dX10_ask_110 rfl (lv_at hl 1 rfl) ?_
  refine lv_iload_n hx hb dX10_ask_111 rfl (lv_at hl 3 rfl) ?_
  refine pf S hE hP hD hS 0 (k := 6) rfl rfl inX10 tyX10_ok nmX10 (by decide) q1099 rfl rfl rfl (Nat.le_of_ble_eq_true rfl) dX10_ask_112 (fun H locs hP hD hS => ?_)
  have hP : va_P D vwCl (wX10_ask cI cJ cS a_o a_refused z_steps z_kind z_space z_other z_times z_speed z_base z_share z_notes z_pitch z_beats z_held z_sort z_size z_shown z_cells z_carried z_words z_tell z_was z_kept z_cutSpace z_cutTimes z_cutOff z_trace v_stretches v_cars v_tunes v_along v_near v_borne x2 v_seed v_fault v_from v_at v_end v_told v_wrongAt v_culprit v_ran v_isKept f_refused) H := hP
  have hD : va_D A (wX10_ask cI cJ cS a_o a_refused z_steps z_kind z_space z_other z_times z_speed z_base z_share z_notes z_pitch z_beats z_held z_sort z_size z_shown z_cells z_carried z_words z_tell z_was z_kept z_cutSpace z_cutTimes z_cutOff z_trace v_stretches v_cars v_tunes v_along v_near v_borne x2 v_seed v_fault v_from v_at v_end v_told v_wrongAt v_culprit v_ran v_isKept f_refused) := hD
  refine lv_goto (tgt := 125) hx hb dX10_ask_115 (by decide) ?_
  refine lv_iload_n hx hb dX10_ask_125 rfl (lv_at hl 0 rfl) ?_
  exact W.iret hx hb hr (fun t ht _ => ⟨⟨_, (v_along, v_near, v_borne, x2, f_refused), rfl, h, hPt hP ht⟩, hS.F ht⟩) hS.2.2 dX10_ask_126
set_option maxHeartbeats 4000000 in
set_option maxRecDepth 100000 in
theorem w_X10_ask_58 {l : Launch} {D : va_G} {cI cJ cS : ClassId} {ad adK : Nat → Nat} {a_o a_refused : Nat} {z_steps z_kind z_space z_other z_times z_speed z_base z_share z_notes z_pitch z_beats z_held z_sort z_size z_shown z_cells z_carried z_words z_tell z_was z_kept z_cutSpace z_cutTimes z_cutOff z_trace : Value} {v_stretches : Int32} {v_cars : Int32} {v_tunes : Int32} {v_along : Int32} {v_near : Int32} {v_borne : Int32} {v_tempo : Int32} {v_seed : Int32} {v_fault : Int32} {v_from : Int32} {v_at : Int32} {v_end : Int32} {v_told : Int32} {v_wrongAt : Int32} {v_culprit : Int32} {v_ran : Int32} {v_isKept : Int32} {f_refused : Nat → Int32} {x1 : Int32} {x2 : Int32} {post : Int32 → Int32 → Int32 → Int32 → Int32 → (Nat → Int32) → Prop} {p : Program} {e : Env} {s : State} {m : MethodId} {args : Array Value} {below : List Frame} {meth : Method} {c : Code} {A : Nat → Prop} (S : CallFix p m c cX10_ask 4 s args GW "RoadThatSingsModel") (hE : EN D cI cJ cS s) (hT : ST ad adK A s s.heap) (hA : ∀ q : Nat, s.heap.size ≤ q → A q) (hr : meth.sig.returnType = (some (.int))) (hlocks : meth.locks = false) : ∀ (H : Heap) (locs : List Loc) (ls : Array Slot), F_X10_ask_58 post x1 x2 v_along v_near v_borne v_tempo f_refused → va_P D vwCl (wX10_ask cI cJ cS a_o a_refused z_steps z_kind z_space z_other z_times z_speed z_base z_share z_notes z_pitch z_beats z_held z_sort z_size z_shown z_cells z_carried z_words z_tell z_was z_kept z_cutSpace z_cutTimes z_cutOff z_trace v_stretches v_cars v_tunes v_along v_near v_borne v_tempo v_seed v_fault v_from v_at v_end v_told v_wrongAt v_culprit v_ran v_isKept f_refused) H → va_D A (wX10_ask cI cJ cS a_o a_refused z_steps z_kind z_space z_other z_times z_speed z_base z_share z_notes z_pitch z_beats z_held z_sort z_size z_shown z_cells z_carried z_words z_tell z_was z_kept z_cutSpace z_cutTimes z_cutOff z_trace v_stretches v_cars v_tunes v_along v_near v_borne v_tempo v_seed v_fault v_from v_at v_end v_told v_wrongAt v_culprit v_ran v_isKept f_refused) → va_S A s.heap H locs → lv_has ls 4 [(0, .ref a_o), (1, .int x1), (2, .int x2)] → W p l e (rmd 1 0 0) s m args below meth c H locs 0 0 (MQ below (va_Qi (fun r (u : Int32 × Int32 × Int32 × Int32 × (Nat → Int32)) => post r u.1 u.2.1 u.2.2.1 u.2.2.2.1 u.2.2.2.2) (fun u t => va_P D vwCl (wX10_ask cI cJ cS a_o a_refused z_steps z_kind z_space z_other z_times z_speed z_base z_share z_notes z_pitch z_beats z_held z_sort z_size z_shown z_cells z_carried z_words z_tell z_was z_kept z_cutSpace z_cutTimes z_cutOff z_trace v_stretches v_cars v_tunes u.1 u.2.1 u.2.2.1 u.2.2.2.1 v_seed v_fault v_from v_at v_end v_told v_wrongAt v_culprit v_ran v_isKept u.2.2.2.2) t.heap) A) args s 0 0 A) (F0 m 58 ls []) := by
  intro  H locs ls h hP hD hS hl
  unfold F_X10_ask_58 at h
  have hx := S.1
  have hb := S.2.1
  refine lv_iload_n hx hb dX10_ask_58 rfl (lv_at hl 1 rfl) ?_
  refine lv_iconst (v := 2) hx hb dX10_ask_59 (by decide) ?_
  refine lv_icmp_ne (tgt := 87) hx hb dX10_ask_60 (by decide) (fun hc => ?_) (fun hc => ?_)
  · have h := h.2 hc
    refine w_X10_ask_87 S hE hT hA hr hlocks _ _ _ h hP hD hS (lv_sub hl [0, 1, 2] rfl)
  have h := h.1 hc
  refine lv_iload_n hx hb dX10_ask_63 rfl (lv_at hl 2 rfl) ?_
  refine lv_if_lt (tgt := 87) hx hb dX10_ask_64 (by decide) (fun hc => ?_) (fun hc => ?_)
  · have h := h.1 hc
    refine w_X10_ask_87 S hE hT hA hr hlocks _ _ _ h hP hD hS (lv_sub hl [0, 1, 2] rfl)
  have h := h.2 hc
  refine lv_iload_n hx hb dX10_ask_67 rfl (lv_at hl 2 rfl) ?_
  refine lv_sipush (v := 500) hx hb dX10_ask_68 (by decide) ?_
  refine lv_icmp_gt (tgt := 87) hx hb dX10_ask_71 (by decide) (fun hc => ?_) (fun hc => ?_)
  · have h := h.1 hc
    refine w_X10_ask_87 S hE hT hA hr hlocks _ _ _ h hP hD hS (lv_sub hl [0, 1, 2] rfl)
  have h := h.2 hc
  refine lv_aload_n hx hb dX10_ask_74 rfl (lv_at hl 0 rfl) ?_
  refine gf S hE hP 0 rfl rfl inX10 (k := 5) (by decide) q1098 rfl dX10_ask_75 ?_
  refine lv_istore_n (lv' := [(3, .int v_borne), (0, .ref a_o), (1, .int x1), (2, .int x2)]) hx hb dX10_ask_78 rfl hl (by decide) rfl (fun ls hl => ?_)
  refine lv_aload_n hx hb dX10_ask_79 rfl (lv_at hl 1 rfl) ?_
  refine lv_iload_n hx hb dX10_ask_80 rfl (lv_at hl 3 rfl) ?_
  refine pf S hE hP hD hS 0 (k := 5) rfl rfl inX10 tyX10_ok nmX10 (by decide) q1098 rfl rfl rfl (Nat.le_of_ble_eq_true rfl) dX10_ask_81 (fun H locs hP hD hS => ?_)
  have hP : va_P D vwCl (wX10_ask cI cJ cS a_o a_refused z_steps z_kind z_space z_other z_times z_speed z_base z_share z_notes z_pitch z_beats z_held z_sort z_size z_shown z_cells z_carried z_words z_tell z_was z_kept z_cutSpace z_cutTimes z_cutOff z_trace v_stretches v_cars v_tunes v_along v_near x2 v_tempo v_seed v_fault v_from v_at v_end v_told v_wrongAt v_culprit v_ran v_isKept f_refused) H := hP
  have hD : va_D A (wX10_ask cI cJ cS a_o a_refused z_steps z_kind z_space z_other z_times z_speed z_base z_share z_notes z_pitch z_beats z_held z_sort z_size z_shown z_cells z_carried z_words z_tell z_was z_kept z_cutSpace z_cutTimes z_cutOff z_trace v_stretches v_cars v_tunes v_along v_near x2 v_tempo v_seed v_fault v_from v_at v_end v_told v_wrongAt v_culprit v_ran v_isKept f_refused) := hD
  refine lv_goto (tgt := 125) hx hb dX10_ask_84 (by decide) ?_
  refine lv_iload_n hx hb dX10_ask_125 rfl (lv_at hl 0 rfl) ?_
  exact W.iret hx hb hr (fun t ht _ => ⟨⟨_, (v_along, v_near, x2, v_tempo, f_refused), rfl, h, hPt hP ht⟩, hS.F ht⟩) hS.2.2 dX10_ask_126
set_option maxHeartbeats 4000000 in
set_option maxRecDepth 100000 in
theorem w_X10_ask_29 {l : Launch} {D : va_G} {cI cJ cS : ClassId} {ad adK : Nat → Nat} {a_o a_refused : Nat} {z_steps z_kind z_space z_other z_times z_speed z_base z_share z_notes z_pitch z_beats z_held z_sort z_size z_shown z_cells z_carried z_words z_tell z_was z_kept z_cutSpace z_cutTimes z_cutOff z_trace : Value} {v_stretches : Int32} {v_cars : Int32} {v_tunes : Int32} {v_along : Int32} {v_near : Int32} {v_borne : Int32} {v_tempo : Int32} {v_seed : Int32} {v_fault : Int32} {v_from : Int32} {v_at : Int32} {v_end : Int32} {v_told : Int32} {v_wrongAt : Int32} {v_culprit : Int32} {v_ran : Int32} {v_isKept : Int32} {f_refused : Nat → Int32} {x1 : Int32} {x2 : Int32} {post : Int32 → Int32 → Int32 → Int32 → Int32 → (Nat → Int32) → Prop} {p : Program} {e : Env} {s : State} {m : MethodId} {args : Array Value} {below : List Frame} {meth : Method} {c : Code} {A : Nat → Prop} (S : CallFix p m c cX10_ask 4 s args GW "RoadThatSingsModel") (hE : EN D cI cJ cS s) (hT : ST ad adK A s s.heap) (hA : ∀ q : Nat, s.heap.size ≤ q → A q) (hr : meth.sig.returnType = (some (.int))) (hlocks : meth.locks = false) : ∀ (H : Heap) (locs : List Loc) (ls : Array Slot), F_X10_ask_29 post x1 x2 v_along v_near v_borne v_tempo f_refused → va_P D vwCl (wX10_ask cI cJ cS a_o a_refused z_steps z_kind z_space z_other z_times z_speed z_base z_share z_notes z_pitch z_beats z_held z_sort z_size z_shown z_cells z_carried z_words z_tell z_was z_kept z_cutSpace z_cutTimes z_cutOff z_trace v_stretches v_cars v_tunes v_along v_near v_borne v_tempo v_seed v_fault v_from v_at v_end v_told v_wrongAt v_culprit v_ran v_isKept f_refused) H → va_D A (wX10_ask cI cJ cS a_o a_refused z_steps z_kind z_space z_other z_times z_speed z_base z_share z_notes z_pitch z_beats z_held z_sort z_size z_shown z_cells z_carried z_words z_tell z_was z_kept z_cutSpace z_cutTimes z_cutOff z_trace v_stretches v_cars v_tunes v_along v_near v_borne v_tempo v_seed v_fault v_from v_at v_end v_told v_wrongAt v_culprit v_ran v_isKept f_refused) → va_S A s.heap H locs → lv_has ls 4 [(0, .ref a_o), (1, .int x1), (2, .int x2)] → W p l e (rmd 1 0 0) s m args below meth c H locs 0 0 (MQ below (va_Qi (fun r (u : Int32 × Int32 × Int32 × Int32 × (Nat → Int32)) => post r u.1 u.2.1 u.2.2.1 u.2.2.2.1 u.2.2.2.2) (fun u t => va_P D vwCl (wX10_ask cI cJ cS a_o a_refused z_steps z_kind z_space z_other z_times z_speed z_base z_share z_notes z_pitch z_beats z_held z_sort z_size z_shown z_cells z_carried z_words z_tell z_was z_kept z_cutSpace z_cutTimes z_cutOff z_trace v_stretches v_cars v_tunes u.1 u.2.1 u.2.2.1 u.2.2.2.1 v_seed v_fault v_from v_at v_end v_told v_wrongAt v_culprit v_ran v_isKept u.2.2.2.2) t.heap) A) args s 0 0 A) (F0 m 29 ls []) := by
  intro  H locs ls h hP hD hS hl
  unfold F_X10_ask_29 at h
  have hx := S.1
  have hb := S.2.1
  refine lv_iload_n hx hb dX10_ask_29 rfl (lv_at hl 1 rfl) ?_
  refine lv_iconst (v := 1) hx hb dX10_ask_30 (by decide) ?_
  refine lv_icmp_ne (tgt := 58) hx hb dX10_ask_31 (by decide) (fun hc => ?_) (fun hc => ?_)
  · have h := h.2 hc
    refine w_X10_ask_58 S hE hT hA hr hlocks _ _ _ h hP hD hS (lv_sub hl [0, 1, 2] rfl)
  have h := h.1 hc
  refine lv_iload_n hx hb dX10_ask_34 rfl (lv_at hl 2 rfl) ?_
  refine lv_iconst (v := 2) hx hb dX10_ask_35 (by decide) ?_
  refine lv_icmp_lt (tgt := 58) hx hb dX10_ask_36 (by decide) (fun hc => ?_) (fun hc => ?_)
  · have h := h.1 hc
    refine w_X10_ask_58 S hE hT hA hr hlocks _ _ _ h hP hD hS (lv_sub hl [0, 1, 2] rfl)
  have h := h.2 hc
  refine lv_iload_n hx hb dX10_ask_39 rfl (lv_at hl 2 rfl) ?_
  refine lv_bipush (v := 30) hx hb dX10_ask_40 (by decide) ?_
  refine lv_icmp_gt (tgt := 58) hx hb dX10_ask_42 (by decide) (fun hc => ?_) (fun hc => ?_)
  · have h := h.1 hc
    refine w_X10_ask_58 S hE hT hA hr hlocks _ _ _ h hP hD hS (lv_sub hl [0, 1, 2] rfl)
  have h := h.2 hc
  refine lv_aload_n hx hb dX10_ask_45 rfl (lv_at hl 0 rfl) ?_
  refine gf S hE hP 0 rfl rfl inX10 (k := 4) (by decide) q1097 rfl dX10_ask_46 ?_
  refine lv_istore_n (lv' := [(3, .int v_near), (0, .ref a_o), (1, .int x1), (2, .int x2)]) hx hb dX10_ask_49 rfl hl (by decide) rfl (fun ls hl => ?_)
  refine lv_aload_n hx hb dX10_ask_50 rfl (lv_at hl 1 rfl) ?_
  refine lv_iload_n hx hb dX10_ask_51 rfl (lv_at hl 3 rfl) ?_
  refine pf S hE hP hD hS 0 (k := 4) rfl rfl inX10 tyX10_ok nmX10 (by decide) q1097 rfl rfl rfl (Nat.le_of_ble_eq_true rfl) dX10_ask_52 (fun H locs hP hD hS => ?_)
  have hP : va_P D vwCl (wX10_ask cI cJ cS a_o a_refused z_steps z_kind z_space z_other z_times z_speed z_base z_share z_notes z_pitch z_beats z_held z_sort z_size z_shown z_cells z_carried z_words z_tell z_was z_kept z_cutSpace z_cutTimes z_cutOff z_trace v_stretches v_cars v_tunes v_along x2 v_borne v_tempo v_seed v_fault v_from v_at v_end v_told v_wrongAt v_culprit v_ran v_isKept f_refused) H := hP
  have hD : va_D A (wX10_ask cI cJ cS a_o a_refused z_steps z_kind z_space z_other z_times z_speed z_base z_share z_notes z_pitch z_beats z_held z_sort z_size z_shown z_cells z_carried z_words z_tell z_was z_kept z_cutSpace z_cutTimes z_cutOff z_trace v_stretches v_cars v_tunes v_along x2 v_borne v_tempo v_seed v_fault v_from v_at v_end v_told v_wrongAt v_culprit v_ran v_isKept f_refused) := hD
  refine lv_goto (tgt := 125) hx hb dX10_ask_55 (by decide) ?_
  refine lv_iload_n hx hb dX10_ask_125 rfl (lv_at hl 0 rfl) ?_
  exact W.iret hx hb hr (fun t ht _ => ⟨⟨_, (v_along, x2, v_borne, v_tempo, f_refused), rfl, h, hPt hP ht⟩, hS.F ht⟩) hS.2.2 dX10_ask_126
set_option maxHeartbeats 4000000 in
set_option maxRecDepth 100000 in
theorem c_X10_ask {l : Launch} {D : va_G} {cI cJ cS : ClassId} {ad adK : Nat → Nat} {a_o a_refused : Nat} {z_steps z_kind z_space z_other z_times z_speed z_base z_share z_notes z_pitch z_beats z_held z_sort z_size z_shown z_cells z_carried z_words z_tell z_was z_kept z_cutSpace z_cutTimes z_cutOff z_trace : Value} {v_stretches : Int32} {v_cars : Int32} {v_tunes : Int32} {v_along : Int32} {v_near : Int32} {v_borne : Int32} {v_tempo : Int32} {v_seed : Int32} {v_fault : Int32} {v_from : Int32} {v_at : Int32} {v_end : Int32} {v_told : Int32} {v_wrongAt : Int32} {v_culprit : Int32} {v_ran : Int32} {v_isKept : Int32} {f_refused : Nat → Int32} {x1 : Int32} {x2 : Int32} {post : Int32 → Int32 → Int32 → Int32 → Int32 → (Nat → Int32) → Prop} (h : F_X10_ask v_along v_near v_borne v_tempo f_refused x1 x2 post) {sz : Nat} : Met l yX10_ask (Cond.code yX10_ask cX10_ask 4 (some (.int)) :: GW) (rmd 1 0 0) (PW D cI cJ cS ad adK [.ref a_o, .int x1, .int x2] (wX10_ask cI cJ cS a_o a_refused z_steps z_kind z_space z_other z_times z_speed z_base z_share z_notes z_pitch z_beats z_held z_sort z_size z_shown z_cells z_carried z_words z_tell z_was z_kept z_cutSpace z_cutTimes z_cutOff z_trace v_stretches v_cars v_tunes v_along v_near v_borne v_tempo v_seed v_fault v_from v_at v_end v_told v_wrongAt v_culprit v_ran v_isKept f_refused) sz) (va_Qi (fun r (u : Int32 × Int32 × Int32 × Int32 × (Nat → Int32)) => post r u.1 u.2.1 u.2.2.1 u.2.2.2.1 u.2.2.2.2) (fun u t => va_P D vwCl (wX10_ask cI cJ cS a_o a_refused z_steps z_kind z_space z_other z_times z_speed z_base z_share z_notes z_pitch z_beats z_held z_sort z_size z_shown z_cells z_carried z_words z_tell z_was z_kept z_cutSpace z_cutTimes z_cutOff z_trace v_stretches v_cars v_tunes u.1 u.2.1 u.2.2.1 u.2.2.2.1 v_seed v_fault v_from v_at v_end v_told v_wrongAt v_culprit v_ran v_isKept u.2.2.2.2) t.heap) (va_A (wX10_ask cI cJ cS a_o a_refused z_steps z_kind z_space z_other z_times z_speed z_base z_share z_notes z_pitch z_beats z_held z_sort z_size z_shown z_cells z_carried z_words z_tell z_was z_kept z_cutSpace z_cutTimes z_cutOff z_trace v_stretches v_cars v_tunes v_along v_near v_borne v_tempo v_seed v_fault v_from v_at v_end v_told v_wrongAt v_culprit v_ran v_isKept f_refused) sz)) 0 0 (va_A (wX10_ask cI cJ cS a_o a_refused z_steps z_kind z_space z_other z_times z_speed z_base z_share z_notes z_pitch z_beats z_held z_sort z_size z_shown z_cells z_carried z_words z_tell z_was z_kept z_cutSpace z_cutTimes z_cutOff z_trace v_stretches v_cars v_tunes v_along v_near v_borne v_tempo v_seed v_fault v_from v_at v_end v_told v_wrongAt v_culprit v_ran v_isKept f_refused) sz) := by
  refine Met.rw (Qc := fun A => (va_Qi (fun r (u : Int32 × Int32 × Int32 × Int32 × (Nat → Int32)) => post r u.1 u.2.1 u.2.2.1 u.2.2.2.1 u.2.2.2.2) (fun u t => va_P D vwCl (wX10_ask cI cJ cS a_o a_refused z_steps z_kind z_space z_other z_times z_speed z_base z_share z_notes z_pitch z_beats z_held z_sort z_size z_shown z_cells z_carried z_words z_tell z_was z_kept z_cutSpace z_cutTimes z_cutOff z_trace v_stretches v_cars v_tunes u.1 u.2.1 u.2.2.1 u.2.2.2.1 v_seed v_fault v_from v_at v_end v_told v_wrongAt v_culprit v_ran v_isKept u.2.2.2.2) t.heap) A)) (by decide) (Nat.le_of_ble_eq_true rfl) (fun p e s m args below meth c ls A (S : CallFix p m c cX10_ask 4 s args GW "RoadThatSingsModel") hE hT hP hD hA hS hr hlocks hname hl => ?_)
  have hS0 := hS
  have hx := S.1
  have hb := S.2.1
  have hl : lv_has ls 4 [(0, .ref a_o), (1, .int x1), (2, .int x2)] := hl
  unfold F_X10_ask at h
  refine lv_iload_n hx hb dX10_ask_0 rfl (lv_at hl 1 rfl) ?_
  refine lv_if_ne (tgt := 29) hx hb dX10_ask_1 (by decide) (fun hc => ?_) (fun hc => ?_)
  · have h := h.2 hc
    refine w_X10_ask_29 S hE hT hA hr hlocks _ _ _ h hP hD hS (lv_sub hl [0, 1, 2] rfl)
  have h := h.1 hc
  refine lv_iload_n hx hb dX10_ask_4 rfl (lv_at hl 2 rfl) ?_
  refine lv_iconst (v := 1) hx hb dX10_ask_5 (by decide) ?_
  refine lv_icmp_lt (tgt := 29) hx hb dX10_ask_6 (by decide) (fun hc => ?_) (fun hc => ?_)
  · have h := h.1 hc
    refine w_X10_ask_29 S hE hT hA hr hlocks _ _ _ h hP hD hS (lv_sub hl [0, 1, 2] rfl)
  have h := h.2 hc
  refine lv_iload_n hx hb dX10_ask_9 rfl (lv_at hl 2 rfl) ?_
  refine lv_sipush (v := 9999) hx hb dX10_ask_10 (by decide) ?_
  refine lv_icmp_gt (tgt := 29) hx hb dX10_ask_13 (by decide) (fun hc => ?_) (fun hc => ?_)
  · have h := h.1 hc
    refine w_X10_ask_29 S hE hT hA hr hlocks _ _ _ h hP hD hS (lv_sub hl [0, 1, 2] rfl)
  have h := h.2 hc
  refine lv_aload_n hx hb dX10_ask_16 rfl (lv_at hl 0 rfl) ?_
  refine gf S hE hP 0 rfl rfl inX10 (k := 3) (by decide) q1096 rfl dX10_ask_17 ?_
  refine lv_istore_n (lv' := [(3, .int v_along), (0, .ref a_o), (1, .int x1), (2, .int x2)]) hx hb dX10_ask_20 rfl hl (by decide) rfl (fun ls hl => ?_)
  refine lv_aload_n hx hb dX10_ask_21 rfl (lv_at hl 1 rfl) ?_
  refine lv_iload_n hx hb dX10_ask_22 rfl (lv_at hl 3 rfl) ?_
  refine pf S hE hP hD hS 0 (k := 3) rfl rfl inX10 tyX10_ok nmX10 (by decide) q1096 rfl rfl rfl (Nat.le_of_ble_eq_true rfl) dX10_ask_23 (fun H locs hP hD hS => ?_)
  have hP : va_P D vwCl (wX10_ask cI cJ cS a_o a_refused z_steps z_kind z_space z_other z_times z_speed z_base z_share z_notes z_pitch z_beats z_held z_sort z_size z_shown z_cells z_carried z_words z_tell z_was z_kept z_cutSpace z_cutTimes z_cutOff z_trace v_stretches v_cars v_tunes x2 v_near v_borne v_tempo v_seed v_fault v_from v_at v_end v_told v_wrongAt v_culprit v_ran v_isKept f_refused) H := hP
  have hD : va_D A (wX10_ask cI cJ cS a_o a_refused z_steps z_kind z_space z_other z_times z_speed z_base z_share z_notes z_pitch z_beats z_held z_sort z_size z_shown z_cells z_carried z_words z_tell z_was z_kept z_cutSpace z_cutTimes z_cutOff z_trace v_stretches v_cars v_tunes x2 v_near v_borne v_tempo v_seed v_fault v_from v_at v_end v_told v_wrongAt v_culprit v_ran v_isKept f_refused) := hD
  refine lv_goto (tgt := 125) hx hb dX10_ask_26 (by decide) ?_
  refine lv_iload_n hx hb dX10_ask_125 rfl (lv_at hl 0 rfl) ?_
  exact W.iret hx hb hr (fun t ht _ => ⟨⟨_, (x2, v_near, v_borne, v_tempo, f_refused), rfl, h, hPt hP ht⟩, hS.F ht⟩) hS.2.2 dX10_ask_126
/-! X10_wrong -/
abbrev wX10_wrong (cI cJ cS : ClassId) (a_o : Nat) (z_refused z_steps z_kind z_space z_other z_times z_speed z_base z_share z_notes z_pitch z_beats z_held z_sort z_size z_shown z_cells z_carried z_words z_tell z_was z_kept z_cutSpace z_cutTimes z_cutOff z_trace : Value) (v_stretches : Int32) (v_cars : Int32) (v_tunes : Int32) (v_along : Int32) (v_near : Int32) (v_borne : Int32) (v_tempo : Int32) (v_seed : Int32) (v_fault : Int32) (v_from : Int32) (v_at : Int32) (v_end : Int32) (v_told : Int32) (v_wrongAt : Int32) (v_culprit : Int32) (v_ran : Int32) (v_isKept : Int32) : va_W := [(a_o, .inr (9, [.int v_stretches, .int v_cars, .int v_tunes, .int v_along, .int v_near, .int v_borne, .int v_tempo, .int v_seed, .int v_fault, z_refused, z_steps, z_kind, z_space, z_other, z_times, z_speed, z_base, z_share, z_notes, z_pitch, z_beats, z_held, z_sort, z_size, z_shown, z_cells, z_carried, z_words, z_tell, .int v_from, .int v_at, .int v_end, .int v_told, .int v_wrongAt, z_was, z_kept, .int v_culprit, z_cutSpace, z_cutTimes, z_cutOff, z_trace, .int v_ran, .int v_isKept]))]
def F_X10_wrong (v_wrongAt : Int32) (x1 : Int32) (post : Int32 → Int32 → Prop) : Prop := post 0 x1
set_option maxHeartbeats 4000000 in
set_option maxRecDepth 100000 in
theorem c_X10_wrong {l : Launch} {D : va_G} {cI cJ cS : ClassId} {ad adK : Nat → Nat} {a_o : Nat} {z_refused z_steps z_kind z_space z_other z_times z_speed z_base z_share z_notes z_pitch z_beats z_held z_sort z_size z_shown z_cells z_carried z_words z_tell z_was z_kept z_cutSpace z_cutTimes z_cutOff z_trace : Value} {v_stretches : Int32} {v_cars : Int32} {v_tunes : Int32} {v_along : Int32} {v_near : Int32} {v_borne : Int32} {v_tempo : Int32} {v_seed : Int32} {v_fault : Int32} {v_from : Int32} {v_at : Int32} {v_end : Int32} {v_told : Int32} {v_wrongAt : Int32} {v_culprit : Int32} {v_ran : Int32} {v_isKept : Int32} {x1 : Int32} {post : Int32 → Int32 → Prop} (h : F_X10_wrong v_wrongAt x1 post) {sz : Nat} : Met l yX10_wrong (Cond.code yX10_wrong cX10_wrong 2 (some (.boolean)) :: GW) (rmd 0 0 0) (PW D cI cJ cS ad adK [.ref a_o, .int x1] (wX10_wrong cI cJ cS a_o z_refused z_steps z_kind z_space z_other z_times z_speed z_base z_share z_notes z_pitch z_beats z_held z_sort z_size z_shown z_cells z_carried z_words z_tell z_was z_kept z_cutSpace z_cutTimes z_cutOff z_trace v_stretches v_cars v_tunes v_along v_near v_borne v_tempo v_seed v_fault v_from v_at v_end v_told v_wrongAt v_culprit v_ran v_isKept) sz) (va_Qi (fun r (u : Int32) => post r u) (fun u t => va_P D vwCl (wX10_wrong cI cJ cS a_o z_refused z_steps z_kind z_space z_other z_times z_speed z_base z_share z_notes z_pitch z_beats z_held z_sort z_size z_shown z_cells z_carried z_words z_tell z_was z_kept z_cutSpace z_cutTimes z_cutOff z_trace v_stretches v_cars v_tunes v_along v_near v_borne v_tempo v_seed v_fault v_from v_at v_end v_told u v_culprit v_ran v_isKept) t.heap) (va_A (wX10_wrong cI cJ cS a_o z_refused z_steps z_kind z_space z_other z_times z_speed z_base z_share z_notes z_pitch z_beats z_held z_sort z_size z_shown z_cells z_carried z_words z_tell z_was z_kept z_cutSpace z_cutTimes z_cutOff z_trace v_stretches v_cars v_tunes v_along v_near v_borne v_tempo v_seed v_fault v_from v_at v_end v_told v_wrongAt v_culprit v_ran v_isKept) sz)) 0 0 (va_A (wX10_wrong cI cJ cS a_o z_refused z_steps z_kind z_space z_other z_times z_speed z_base z_share z_notes z_pitch z_beats z_held z_sort z_size z_shown z_cells z_carried z_words z_tell z_was z_kept z_cutSpace z_cutTimes z_cutOff z_trace v_stretches v_cars v_tunes v_along v_near v_borne v_tempo v_seed v_fault v_from v_at v_end v_told v_wrongAt v_culprit v_ran v_isKept) sz) := by
  refine Met.rw (Qc := fun A => (va_Qi (fun r (u : Int32) => post r u) (fun u t => va_P D vwCl (wX10_wrong cI cJ cS a_o z_refused z_steps z_kind z_space z_other z_times z_speed z_base z_share z_notes z_pitch z_beats z_held z_sort z_size z_shown z_cells z_carried z_words z_tell z_was z_kept z_cutSpace z_cutTimes z_cutOff z_trace v_stretches v_cars v_tunes v_along v_near v_borne v_tempo v_seed v_fault v_from v_at v_end v_told u v_culprit v_ran v_isKept) t.heap) A)) (by decide) (Nat.le_of_ble_eq_true rfl) (fun p e s m args below meth c ls A (S : CallFix p m c cX10_wrong 2 s args GW "RoadThatSingsModel") hE hT hP hD hA hS hr hlocks hname hl => ?_)
  have hS0 := hS
  have hx := S.1
  have hb := S.2.1
  have hl : lv_has ls 2 [(0, .ref a_o), (1, .int x1)] := hl
  unfold F_X10_wrong at h
  refine lv_aload_n hx hb dX10_wrong_0 rfl (lv_at hl 0 rfl) ?_
  refine lv_iload_n hx hb dX10_wrong_1 rfl (lv_at hl 1 rfl) ?_
  refine pf S hE hP hD hS 0 (k := 33) rfl rfl inX10 tyX10_ok nmX10 (by decide) q1126 rfl rfl rfl (Nat.le_of_ble_eq_true rfl) dX10_wrong_2 (fun H locs hP hD hS => ?_)
  have hP : va_P D vwCl (wX10_wrong cI cJ cS a_o z_refused z_steps z_kind z_space z_other z_times z_speed z_base z_share z_notes z_pitch z_beats z_held z_sort z_size z_shown z_cells z_carried z_words z_tell z_was z_kept z_cutSpace z_cutTimes z_cutOff z_trace v_stretches v_cars v_tunes v_along v_near v_borne v_tempo v_seed v_fault v_from v_at v_end v_told x1 v_culprit v_ran v_isKept) H := hP
  have hD : va_D A (wX10_wrong cI cJ cS a_o z_refused z_steps z_kind z_space z_other z_times z_speed z_base z_share z_notes z_pitch z_beats z_held z_sort z_size z_shown z_cells z_carried z_words z_tell z_was z_kept z_cutSpace z_cutTimes z_cutOff z_trace v_stretches v_cars v_tunes v_along v_near v_borne v_tempo v_seed v_fault v_from v_at v_end v_told x1 v_culprit v_ran v_isKept) := hD
  refine lv_iconst (v := 0) hx hb dX10_wrong_5 (by decide) ?_
  exact W.zret hx hb hr rfl (fun t ht _ => ⟨⟨_, x1, rfl, h, hPt hP ht⟩, hS.F ht⟩) hS.2.2 dX10_wrong_6
/-! X10_word -/
abbrev wX10_word (cI cJ cS : ClassId) (a_o a_cells a_words : Nat) (z_refused z_steps z_kind z_space z_other z_times z_speed z_base z_share z_notes z_pitch z_beats z_held z_sort z_size z_shown z_carried z_tell z_was z_kept z_cutSpace z_cutTimes z_cutOff z_trace : Value) (v_stretches : Int32) (v_cars : Int32) (v_tunes : Int32) (v_along : Int32) (v_near : Int32) (v_borne : Int32) (v_tempo : Int32) (v_seed : Int32) (v_fault : Int32) (v_from : Int32) (v_at : Int32) (v_end : Int32) (v_told : Int32) (v_wrongAt : Int32) (v_culprit : Int32) (v_ran : Int32) (v_isKept : Int32) (g_cells : Nat → Int64) (f_words : Nat → Int32) : va_W := [(a_o, .inr (9, [.int v_stretches, .int v_cars, .int v_tunes, .int v_along, .int v_near, .int v_borne, .int v_tempo, .int v_seed, .int v_fault, z_refused, z_steps, z_kind, z_space, z_other, z_times, z_speed, z_base, z_share, z_notes, z_pitch, z_beats, z_held, z_sort, z_size, z_shown, .ref a_cells, z_carried, .ref a_words, z_tell, .int v_from, .int v_at, .int v_end, .int v_told, .int v_wrongAt, z_was, z_kept, .int v_culprit, z_cutSpace, z_cutTimes, z_cutOff, z_trace, .int v_ran, .int v_isKept])), (a_cells, .inl (cJ, 1280, .inr (.inl g_cells))), (a_words, .inl (cI, 79, .inl f_words))]
def L_X10_word_24 (v_from : Int32) (v_end : Int32) (g_cells : Nat → Int64) (f_words : Nat → Int32) (k75 : Int32 → Int32 → Prop) : Nat → Int32 → Int32 → Prop
  | 0, _, _ => False
  | n24 + 1, x4, x5 => (vp_in x5 79 ∧ (((f_words x5.toNatClampNeg) = 0 → k75 x4 x5) ∧ (¬ (f_words x5.toNatClampNeg) = 0 → ((v_end ≤ x4 → k75 x4 x5) ∧ (¬ v_end ≤ x4 → (vp_in (v_from + x4) 1280 ∧ (vp_in x5 79 ∧ ((((g_cells (v_from + x4).toNatClampNeg).toInt32) = (f_words x5.toNatClampNeg) → (∀ x4_66 : Int32, x4_66 = x4 + 1 → (∀ x5_69 : Int32, x5_69 = x5 + 1 → L_X10_word_24 v_from v_end g_cells f_words k75 n24 x4_66 x5_69))) ∧ (¬ ((g_cells (v_from + x4).toNatClampNeg).toInt32) = (f_words x5.toNatClampNeg) → k75 x4 x5)))))))))
def L_X10_word_106 (f_words : Nat → Int32) (x2 : Int32) (x3 : Int32) (v_at : Int32) (v_wrongAt : Int32) (k9 : Int32 → Int32 → Int32 → Int32 → Int32 → Prop) : Nat → Int32 → Prop
  | 0, _ => False
  | n106 + 1, x1 => (vp_in x1 79 ∧ (((f_words x1.toNatClampNeg) = 0 → (∀ x1_121 : Int32, x1_121 = x1 + 1 → (∀ x3_124 : Int32, x3_124 = x3 + 1 → k9 x1_121 x2 x3_124 v_at v_wrongAt))) ∧ (¬ (f_words x1.toNatClampNeg) = 0 → (∀ x1_115 : Int32, x1_115 = x1 + 1 → L_X10_word_106 f_words x2 x3 v_at v_wrongAt k9 n106 x1_115))))
def F_X10_word_105 (f_words : Nat → Int32) (k9 : Int32 → Int32 → Int32 → Int32 → Int32 → Prop) (x1 : Int32) (x3 : Int32) (v_at : Int32) (v_wrongAt : Int32) (s0 : Int32) : Prop := (∃ n106 : Nat, L_X10_word_106 f_words s0 x3 v_at v_wrongAt k9 n106 x1)
def F_X10_word_75 (f_words : Nat → Int32) (post : Int32 → Int32 → Int32 → Prop) (k9 : Int32 → Int32 → Int32 → Int32 → Int32 → Prop) (x1 : Int32) (x2 : Int32) (x3 : Int32) (x4 : Int32) (x5 : Int32) (v_at : Int32) (v_wrongAt : Int32) : Prop := (vp_in x5 79 ∧ (((f_words x5.toNatClampNeg) = 0 → post x3 x4 v_wrongAt) ∧ (¬ (f_words x5.toNatClampNeg) = 0 → ((x4 ≤ x2 → F_X10_word_105 f_words k9 x1 x3 v_at v_wrongAt x2) ∧ (¬ x4 ≤ x2 → F_X10_word_105 f_words k9 x1 x3 v_at v_wrongAt x4)))))
def L_X10_word_9 (v_from : Int32) (v_end : Int32) (g_cells : Nat → Int64) (f_words : Nat → Int32) (post : Int32 → Int32 → Int32 → Prop) : Nat → Int32 → Int32 → Int32 → Int32 → Int32 → Prop
  | 0, _, _, _, _, _ => False
  | n9 + 1, x1, x2, x3, v_at, v_wrongAt => ((13 ≤ x3 → post (-1) v_at x2) ∧ (¬ 13 ≤ x3 → (∃ n24 : Nat, L_X10_word_24 v_from v_end g_cells f_words (fun x4_1 x5_2 => F_X10_word_75 f_words post (fun x1 x2 x3 v_at v_wrongAt => L_X10_word_9 v_from v_end g_cells f_words post n9 x1 x2 x3 v_at v_wrongAt) x1 x2 x3 x4_1 x5_2 v_at v_wrongAt) n24 v_at x1)))
def F_X10_word (v_from : Int32) (v_at : Int32) (v_end : Int32) (v_wrongAt : Int32) (g_cells : Nat → Int64) (f_words : Nat → Int32) (post : Int32 → Int32 → Int32 → Prop) : Prop := (∃ n9 : Nat, L_X10_word_9 v_from v_end g_cells f_words post n9 0 v_at 0 v_at v_wrongAt)
set_option maxHeartbeats 4000000 in
set_option maxRecDepth 100000 in
theorem w_X10_word_24 {l : Launch} {D : va_G} {cI cJ cS : ClassId} {ad adK : Nat → Nat} {a_o a_cells a_words : Nat} {z_refused z_steps z_kind z_space z_other z_times z_speed z_base z_share z_notes z_pitch z_beats z_held z_sort z_size z_shown z_carried z_tell z_was z_kept z_cutSpace z_cutTimes z_cutOff z_trace : Value} {v_stretches : Int32} {v_cars : Int32} {v_tunes : Int32} {v_along : Int32} {v_near : Int32} {v_borne : Int32} {v_tempo : Int32} {v_seed : Int32} {v_fault : Int32} {v_from : Int32} {v_at : Int32} {v_end : Int32} {v_told : Int32} {v_wrongAt : Int32} {v_culprit : Int32} {v_ran : Int32} {v_isKept : Int32} {g_cells : Nat → Int64} {f_words : Nat → Int32} {x1 : Int32} {x2 : Int32} {x3 : Int32} {post : Int32 → Int32 → Int32 → Prop} {k75 : Int32 → Int32 → Prop} {p : Program} {e : Env} {s : State} {m : MethodId} {args : Array Value} {below : List Frame} {meth : Method} {c : Code} {A : Nat → Prop} (S : CallFix p m c cX10_word 6 s args GW "RoadThatSingsModel") (hE : EN D cI cJ cS s) (hT : ST ad adK A s s.heap) (hA : ∀ q : Nat, s.heap.size ≤ q → A q) (hr : meth.sig.returnType = (some (.int))) (hlocks : meth.locks = false) (hk75 : ∀ (x4 : Int32) (x5 : Int32) (H : Heap) (locs : List Loc) (ls : Array Slot), k75 x4 x5 → va_P D vwCl (wX10_word cI cJ cS a_o a_cells a_words z_refused z_steps z_kind z_space z_other z_times z_speed z_base z_share z_notes z_pitch z_beats z_held z_sort z_size z_shown z_carried z_tell z_was z_kept z_cutSpace z_cutTimes z_cutOff z_trace v_stretches v_cars v_tunes v_along v_near v_borne v_tempo v_seed v_fault v_from v_at v_end v_told v_wrongAt v_culprit v_ran v_isKept g_cells f_words) H → va_D A (wX10_word cI cJ cS a_o a_cells a_words z_refused z_steps z_kind z_space z_other z_times z_speed z_base z_share z_notes z_pitch z_beats z_held z_sort z_size z_shown z_carried z_tell z_was z_kept z_cutSpace z_cutTimes z_cutOff z_trace v_stretches v_cars v_tunes v_along v_near v_borne v_tempo v_seed v_fault v_from v_at v_end v_told v_wrongAt v_culprit v_ran v_isKept g_cells f_words) → va_S A s.heap H locs → lv_has ls 6 [(0, .ref a_o), (1, .int x1), (2, .int x2), (3, .int x3), (4, .int x4), (5, .int x5)] → W p l e (rmd 0 0 0) s m args below meth c H locs 0 0 (MQ below (va_Qi (fun r (u : Int32 × Int32) => post r u.1 u.2) (fun u t => va_P D vwCl (wX10_word cI cJ cS a_o a_cells a_words z_refused z_steps z_kind z_space z_other z_times z_speed z_base z_share z_notes z_pitch z_beats z_held z_sort z_size z_shown z_carried z_tell z_was z_kept z_cutSpace z_cutTimes z_cutOff z_trace v_stretches v_cars v_tunes v_along v_near v_borne v_tempo v_seed v_fault v_from u.1 v_end v_told u.2 v_culprit v_ran v_isKept g_cells f_words) t.heap) A) args s 0 0 A) (F0 m 75 ls [])) : ∀ n : Nat, ∀ (x4 : Int32) (x5 : Int32) (H : Heap) (locs : List Loc) (ls : Array Slot), L_X10_word_24 v_from v_end g_cells f_words k75 n x4 x5 → va_P D vwCl (wX10_word cI cJ cS a_o a_cells a_words z_refused z_steps z_kind z_space z_other z_times z_speed z_base z_share z_notes z_pitch z_beats z_held z_sort z_size z_shown z_carried z_tell z_was z_kept z_cutSpace z_cutTimes z_cutOff z_trace v_stretches v_cars v_tunes v_along v_near v_borne v_tempo v_seed v_fault v_from v_at v_end v_told v_wrongAt v_culprit v_ran v_isKept g_cells f_words) H → va_D A (wX10_word cI cJ cS a_o a_cells a_words z_refused z_steps z_kind z_space z_other z_times z_speed z_base z_share z_notes z_pitch z_beats z_held z_sort z_size z_shown z_carried z_tell z_was z_kept z_cutSpace z_cutTimes z_cutOff z_trace v_stretches v_cars v_tunes v_along v_near v_borne v_tempo v_seed v_fault v_from v_at v_end v_told v_wrongAt v_culprit v_ran v_isKept g_cells f_words) → va_S A s.heap H locs → lv_has ls 6 [(0, .ref a_o), (1, .int x1), (2, .int x2), (3, .int x3), (4, .int x4), (5, .int x5)] → W p l e (rmd 0 0 0) s m args below meth c H locs 0 0 (MQ below (va_Qi (fun r (u : Int32 × Int32) => post r u.1 u.2) (fun u t => va_P D vwCl (wX10_word cI cJ cS a_o a_cells a_words z_refused z_steps z_kind z_space z_other z_times z_speed z_base z_share z_notes z_pitch z_beats z_held z_sort z_size z_shown z_carried z_tell z_was z_kept z_cutSpace z_cutTimes z_cutOff z_trace v_stretches v_cars v_tunes v_along v_near v_borne v_tempo v_seed v_fault v_from u.1 v_end v_told u.2 v_culprit v_ran v_isKept g_cells f_words) t.heap) A) args s 0 0 A) (F0 m 24 ls []) := by
  intro n
  induction n with
  | zero =>
    intro x4 x5 H locs ls h hP hD hS hl
    exact h.elim
  | succ n ih =>
    intro x4 x5 H locs ls h hP hD hS hl
    rw [L_X10_word_24] at h
    have hx := S.1
    have hb := S.2.1
    refine lv_aload_n hx hb dX10_word_24 rfl (lv_at hl 0 rfl) ?_
    refine gf S hE hP 0 rfl rfl inX10 (k := 27) (by decide) q1120 rfl dX10_word_25 ?_
    refine lv_iload hx hb dX10_word_28 (lv_at hl 5 rfl) ?_
    obtain ⟨hi, h⟩ := h
    refine ial S hE hP 2 rfl hi dX10_word_30 ?_
    refine lv_if_eq (tgt := 75) hx hb dX10_word_31 (by decide) (fun hc => ?_) (fun hc => ?_)
    · have h := h.1 hc
      exact hk75 _ _ _ _ _ h hP hD hS (lv_sub hl [0, 1, 2, 3, 4, 5] rfl)
    have h := h.2 hc
    refine lv_iload hx hb dX10_word_34 (lv_at hl 4 rfl) ?_
    refine lv_aload_n hx hb dX10_word_36 rfl (lv_at hl 0 rfl) ?_
    refine gf S hE hP 0 rfl rfl inX10 (k := 31) (by decide) q1124 rfl dX10_word_37 ?_
    refine lv_icmp_ge (tgt := 75) hx hb dX10_word_40 (by decide) (fun hc => ?_) (fun hc => ?_)
    · have h := h.1 hc
      exact hk75 _ _ _ _ _ h hP hD hS (lv_sub hl [0, 1, 2, 3, 4, 5] rfl)
    have h := h.2 hc
    refine lv_aload_n hx hb dX10_word_43 rfl (lv_at hl 0 rfl) ?_
    refine gf S hE hP 0 rfl rfl inX10 (k := 25) (by decide) q1118 rfl dX10_word_44 ?_
    refine lv_aload_n hx hb dX10_word_47 rfl (lv_at hl 0 rfl) ?_
    refine gf S hE hP 0 rfl rfl inX10 (k := 29) (by decide) q1122 rfl dX10_word_48 ?_
    refine lv_iload hx hb dX10_word_51 (lv_at hl 4 rfl) ?_
    refine lv_iadd hx hb dX10_word_53 ?_
    obtain ⟨hi, h⟩ := h
    refine lal S hE hP 1 rfl hi dX10_word_54 ?_
    refine lv_l2i hx hb dX10_word_55 rfl ?_
    refine lv_aload_n hx hb dX10_word_56 rfl (lv_at hl 0 rfl) ?_
    refine gf S hE hP 0 rfl rfl inX10 (k := 27) (by decide) q1120 rfl dX10_word_57 ?_
    refine lv_iload hx hb dX10_word_60 (lv_at hl 5 rfl) ?_
    obtain ⟨hi, h⟩ := h
    refine ial S hE hP 2 rfl hi dX10_word_62 ?_
    refine lv_icmp_ne (tgt := 75) hx hb dX10_word_63 (by decide) (fun hc => ?_) (fun hc => ?_)
    · have h := h.2 hc
      exact hk75 _ _ _ _ _ h hP hD hS (lv_sub hl [0, 1, 2, 3, 4, 5] rfl)
    have h := h.1 hc
    obtain ⟨x4_66, ex4_66⟩ : ∃ z : Int32, z = x4 + 1 := ⟨_, rfl⟩
    have h := h _ ex4_66
    refine lv_iinc (v := x4_66) (lv' := [(4, .int x4_66), (0, .ref a_o), (1, .int x1), (2, .int x2), (3, .int x3), (5, .int x5)]) hx hb dX10_word_66 hl (k := 4) rfl (by rw [ex4_66]; rfl) (by decide) rfl (fun ls hl => ?_)
    obtain ⟨x5_69, ex5_69⟩ : ∃ z : Int32, z = x5 + 1 := ⟨_, rfl⟩
    have h := h _ ex5_69
    refine lv_iinc (v := x5_69) (lv' := [(5, .int x5_69), (4, .int x4_66), (0, .ref a_o), (1, .int x1), (2, .int x2), (3, .int x3)]) hx hb dX10_word_69 hl (k := 5) rfl (by rw [ex5_69]; rfl) (by decide) rfl (fun ls hl => ?_)
    refine lv_goto (tgt := 24) hx hb dX10_word_72 (by decide) ?_
    exact ih _ _ _ _ _ h hP hD hS (lv_sub hl [2, 3, 4, 5, 1, 0] rfl)
set_option maxHeartbeats 4000000 in
set_option maxRecDepth 100000 in
theorem w_X10_word_106 {l : Launch} {D : va_G} {cI cJ cS : ClassId} {ad adK : Nat → Nat} {a_o a_cells a_words : Nat} {z_refused z_steps z_kind z_space z_other z_times z_speed z_base z_share z_notes z_pitch z_beats z_held z_sort z_size z_shown z_carried z_tell z_was z_kept z_cutSpace z_cutTimes z_cutOff z_trace : Value} {v_stretches : Int32} {v_cars : Int32} {v_tunes : Int32} {v_along : Int32} {v_near : Int32} {v_borne : Int32} {v_tempo : Int32} {v_seed : Int32} {v_fault : Int32} {v_from : Int32} {v_at : Int32} {v_end : Int32} {v_told : Int32} {v_wrongAt : Int32} {v_culprit : Int32} {v_ran : Int32} {v_isKept : Int32} {g_cells : Nat → Int64} {f_words : Nat → Int32} {x2 : Int32} {x3 : Int32} {post : Int32 → Int32 → Int32 → Prop} {k9 : Int32 → Int32 → Int32 → Int32 → Int32 → Prop} {p : Program} {e : Env} {s : State} {m : MethodId} {args : Array Value} {below : List Frame} {meth : Method} {c : Code} {A : Nat → Prop} (S : CallFix p m c cX10_word 6 s args GW "RoadThatSingsModel") (hE : EN D cI cJ cS s) (hT : ST ad adK A s s.heap) (hA : ∀ q : Nat, s.heap.size ≤ q → A q) (hr : meth.sig.returnType = (some (.int))) (hlocks : meth.locks = false) (hk9 : ∀ (x1 : Int32) (x2 : Int32) (x3 : Int32) (v_at : Int32) (v_wrongAt : Int32) (H : Heap) (locs : List Loc) (ls : Array Slot), k9 x1 x2 x3 v_at v_wrongAt → va_P D vwCl (wX10_word cI cJ cS a_o a_cells a_words z_refused z_steps z_kind z_space z_other z_times z_speed z_base z_share z_notes z_pitch z_beats z_held z_sort z_size z_shown z_carried z_tell z_was z_kept z_cutSpace z_cutTimes z_cutOff z_trace v_stretches v_cars v_tunes v_along v_near v_borne v_tempo v_seed v_fault v_from v_at v_end v_told v_wrongAt v_culprit v_ran v_isKept g_cells f_words) H → va_D A (wX10_word cI cJ cS a_o a_cells a_words z_refused z_steps z_kind z_space z_other z_times z_speed z_base z_share z_notes z_pitch z_beats z_held z_sort z_size z_shown z_carried z_tell z_was z_kept z_cutSpace z_cutTimes z_cutOff z_trace v_stretches v_cars v_tunes v_along v_near v_borne v_tempo v_seed v_fault v_from v_at v_end v_told v_wrongAt v_culprit v_ran v_isKept g_cells f_words) → va_S A s.heap H locs → lv_has ls 6 [(0, .ref a_o), (1, .int x1), (2, .int x2), (3, .int x3)] → W p l e (rmd 0 0 0) s m args below meth c H locs 0 0 (MQ below (va_Qi (fun r (u : Int32 × Int32) => post r u.1 u.2) (fun u t => va_P D vwCl (wX10_word cI cJ cS a_o a_cells a_words z_refused z_steps z_kind z_space z_other z_times z_speed z_base z_share z_notes z_pitch z_beats z_held z_sort z_size z_shown z_carried z_tell z_was z_kept z_cutSpace z_cutTimes z_cutOff z_trace v_stretches v_cars v_tunes v_along v_near v_borne v_tempo v_seed v_fault v_from u.1 v_end v_told u.2 v_culprit v_ran v_isKept g_cells f_words) t.heap) A) args s 0 0 A) (F0 m 9 ls [])) : ∀ n : Nat, ∀ (x1 : Int32) (H : Heap) (locs : List Loc) (ls : Array Slot), L_X10_word_106 f_words x2 x3 v_at v_wrongAt k9 n x1 → va_P D vwCl (wX10_word cI cJ cS a_o a_cells a_words z_refused z_steps z_kind z_space z_other z_times z_speed z_base z_share z_notes z_pitch z_beats z_held z_sort z_size z_shown z_carried z_tell z_was z_kept z_cutSpace z_cutTimes z_cutOff z_trace v_stretches v_cars v_tunes v_along v_near v_borne v_tempo v_seed v_fault v_from v_at v_end v_told v_wrongAt v_culprit v_ran v_isKept g_cells f_words) H → va_D A (wX10_word cI cJ cS a_o a_cells a_words z_refused z_steps z_kind z_space z_other z_times z_speed z_base z_share z_notes z_pitch z_beats z_held z_sort z_size z_shown z_carried z_tell z_was z_kept z_cutSpace z_cutTimes z_cutOff z_trace v_stretches v_cars v_tunes v_along v_near v_borne v_tempo v_seed v_fault v_from v_at v_end v_told v_wrongAt v_culprit v_ran v_isKept g_cells f_words) → va_S A s.heap H locs → lv_has ls 6 [(0, .ref a_o), (1, .int x1), (2, .int x2), (3, .int x3)] → W p l e (rmd 0 0 0) s m args below meth c H locs 0 0 (MQ below (va_Qi (fun r (u : Int32 × Int32) => post r u.1 u.2) (fun u t => va_P D vwCl (wX10_word cI cJ cS a_o a_cells a_words z_refused z_steps z_kind z_space z_other z_times z_speed z_base z_share z_notes z_pitch z_beats z_held z_sort z_size z_shown z_carried z_tell z_was z_kept z_cutSpace z_cutTimes z_cutOff z_trace v_stretches v_cars v_tunes v_along v_near v_borne v_tempo v_seed v_fault v_from u.1 v_end v_told u.2 v_culprit v_ran v_isKept g_cells f_words) t.heap) A) args s 0 0 A) (F0 m 106 ls []) := by
  intro n
  induction n with
  | zero =>
    intro x1 H locs ls h hP hD hS hl
    exact h.elim
  | succ n ih =>
    intro x1 H locs ls h hP hD hS hl
    rw [L_X10_word_106] at h
    have hx := S.1
    have hb := S.2.1
    refine lv_aload_n hx hb dX10_word_106 rfl (lv_at hl 0 rfl) ?_
    refine gf S hE hP 0 rfl rfl inX10 (k := 27) (by decide) q1120 rfl dX10_word_107 ?_
    refine lv_iload_n hx hb dX10_word_110 rfl (lv_at hl 1 rfl) ?_
    obtain ⟨hi, h⟩ := h
    refine ial S hE hP 2 rfl hi dX10_word_111 ?_
    refine lv_if_eq (tgt := 121) hx hb dX10_word_112 (by decide) (fun hc => ?_) (fun hc => ?_)
    · have h := h.1 hc
      obtain ⟨x1_121, ex1_121⟩ : ∃ z : Int32, z = x1 + 1 := ⟨_, rfl⟩
      have h := h _ ex1_121
      refine lv_iinc (v := x1_121) (lv' := [(1, .int x1_121), (0, .ref a_o), (2, .int x2), (3, .int x3)]) hx hb dX10_word_121 hl (k := 1) rfl (by rw [ex1_121]; rfl) (by decide) rfl (fun ls hl => ?_)
      obtain ⟨x3_124, ex3_124⟩ : ∃ z : Int32, z = x3 + 1 := ⟨_, rfl⟩
      have h := h _ ex3_124
      refine lv_iinc (v := x3_124) (lv' := [(3, .int x3_124), (1, .int x1_121), (0, .ref a_o), (2, .int x2)]) hx hb dX10_word_124 hl (k := 3) rfl (by rw [ex3_124]; rfl) (by decide) rfl (fun ls hl => ?_)
      refine lv_goto (tgt := 9) hx hb dX10_word_127 (by decide) ?_
      exact hk9 _ _ _ _ _ _ _ _ h hP hD hS (lv_sub hl [2, 1, 3, 0] rfl)
    have h := h.2 hc
    obtain ⟨x1_115, ex1_115⟩ : ∃ z : Int32, z = x1 + 1 := ⟨_, rfl⟩
    have h := h _ ex1_115
    refine lv_iinc (v := x1_115) (lv' := [(1, .int x1_115), (0, .ref a_o), (2, .int x2), (3, .int x3)]) hx hb dX10_word_115 hl (k := 1) rfl (by rw [ex1_115]; rfl) (by decide) rfl (fun ls hl => ?_)
    refine lv_goto (tgt := 106) hx hb dX10_word_118 (by decide) ?_
    exact ih _ _ _ _ h hP hD hS (lv_sub hl [1, 0, 2, 3] rfl)
set_option maxHeartbeats 4000000 in
set_option maxRecDepth 100000 in
theorem w_X10_word_105 {l : Launch} {D : va_G} {cI cJ cS : ClassId} {ad adK : Nat → Nat} {a_o a_cells a_words : Nat} {z_refused z_steps z_kind z_space z_other z_times z_speed z_base z_share z_notes z_pitch z_beats z_held z_sort z_size z_shown z_carried z_tell z_was z_kept z_cutSpace z_cutTimes z_cutOff z_trace : Value} {v_stretches : Int32} {v_cars : Int32} {v_tunes : Int32} {v_along : Int32} {v_near : Int32} {v_borne : Int32} {v_tempo : Int32} {v_seed : Int32} {v_fault : Int32} {v_from : Int32} {v_at : Int32} {v_end : Int32} {v_told : Int32} {v_wrongAt : Int32} {v_culprit : Int32} {v_ran : Int32} {v_isKept : Int32} {g_cells : Nat → Int64} {f_words : Nat → Int32} {x1 : Int32} {x3 : Int32} {s0 : Int32} {post : Int32 → Int32 → Int32 → Prop} {k9 : Int32 → Int32 → Int32 → Int32 → Int32 → Prop} {p : Program} {e : Env} {s : State} {m : MethodId} {args : Array Value} {below : List Frame} {meth : Method} {c : Code} {A : Nat → Prop} (S : CallFix p m c cX10_word 6 s args GW "RoadThatSingsModel") (hE : EN D cI cJ cS s) (hT : ST ad adK A s s.heap) (hA : ∀ q : Nat, s.heap.size ≤ q → A q) (hr : meth.sig.returnType = (some (.int))) (hlocks : meth.locks = false) (hk9 : ∀ (x1 : Int32) (x2 : Int32) (x3 : Int32) (v_at : Int32) (v_wrongAt : Int32) (H : Heap) (locs : List Loc) (ls : Array Slot), k9 x1 x2 x3 v_at v_wrongAt → va_P D vwCl (wX10_word cI cJ cS a_o a_cells a_words z_refused z_steps z_kind z_space z_other z_times z_speed z_base z_share z_notes z_pitch z_beats z_held z_sort z_size z_shown z_carried z_tell z_was z_kept z_cutSpace z_cutTimes z_cutOff z_trace v_stretches v_cars v_tunes v_along v_near v_borne v_tempo v_seed v_fault v_from v_at v_end v_told v_wrongAt v_culprit v_ran v_isKept g_cells f_words) H → va_D A (wX10_word cI cJ cS a_o a_cells a_words z_refused z_steps z_kind z_space z_other z_times z_speed z_base z_share z_notes z_pitch z_beats z_held z_sort z_size z_shown z_carried z_tell z_was z_kept z_cutSpace z_cutTimes z_cutOff z_trace v_stretches v_cars v_tunes v_along v_near v_borne v_tempo v_seed v_fault v_from v_at v_end v_told v_wrongAt v_culprit v_ran v_isKept g_cells f_words) → va_S A s.heap H locs → lv_has ls 6 [(0, .ref a_o), (1, .int x1), (2, .int x2), (3, .int x3)] → W p l e (rmd 0 0 0) s m args below meth c H locs 0 0 (MQ below (va_Qi (fun r (u : Int32 × Int32) => post r u.1 u.2) (fun u t => va_P D vwCl (wX10_word cI cJ cS a_o a_cells a_words z_refused z_steps z_kind z_space z_other z_times z_speed z_base z_share z_notes z_pitch z_beats z_held z_sort z_size z_shown z_carried z_tell z_was z_kept z_cutSpace z_cutTimes z_cutOff z_trace v_stretches v_cars v_tunes v_along v_near v_borne v_tempo v_seed v_fault v_from u.1 v_end v_told u.2 v_culprit v_ran v_isKept g_cells f_words) t.heap) A) args s 0 0 A) (F0 m 9 ls [])) : ∀ (H : Heap) (locs : List Loc) (ls : Array Slot), F_X10_word_105 f_words k9 x1 x3 v_at v_wrongAt s0 → va_P D vwCl (wX10_word cI cJ cS a_o a_cells a_words z_refused z_steps z_kind z_space z_other z_times z_speed z_base z_share z_notes z_pitch z_beats z_held z_sort z_size z_shown z_carried z_tell z_was z_kept z_cutSpace z_cutTimes z_cutOff z_trace v_stretches v_cars v_tunes v_along v_near v_borne v_tempo v_seed v_fault v_from v_at v_end v_told v_wrongAt v_culprit v_ran v_isKept g_cells f_words) H → va_D A (wX10_word cI cJ cS a_o a_cells a_words z_refused z_steps z_kind z_space z_other z_times z_speed z_base z_share z_notes z_pitch z_beats z_held z_sort z_size z_shown z_carried z_tell z_was z_kept z_cutSpace z_cutTimes z_cutOff z_trace v_stretches v_cars v_tunes v_along v_near v_borne v_tempo v_seed v_fault v_from v_at v_end v_told v_wrongAt v_culprit v_ran v_isKept g_cells f_words) → va_S A s.heap H locs → lv_has ls 6 [(0, .ref a_o), (1, .int x1), (3, .int x3)] → W p l e (rmd 0 0 0) s m args below meth c H locs 0 0 (MQ below (va_Qi (fun r (u : Int32 × Int32) => post r u.1 u.2) (fun u t => va_P D vwCl (wX10_word cI cJ cS a_o a_cells a_words z_refused z_steps z_kind z_space z_other z_times z_speed z_base z_share z_notes z_pitch z_beats z_held z_sort z_size z_shown z_carried z_tell z_was z_kept z_cutSpace z_cutTimes z_cutOff z_trace v_stretches v_cars v_tunes v_along v_near v_borne v_tempo v_seed v_fault v_from u.1 v_end v_told u.2 v_culprit v_ran v_isKept g_cells f_words) t.heap) A) args s 0 0 A) (F0 m 105 ls [.int s0]) := by
  intro  H locs ls h hP hD hS hl
  unfold F_X10_word_105 at h
  have hx := S.1
  have hb := S.2.1
  refine lv_istore_n (lv' := [(2, .int s0), (0, .ref a_o), (1, .int x1), (3, .int x3)]) hx hb dX10_word_105 rfl hl (by decide) rfl (fun ls hl => ?_)
  obtain ⟨n, h⟩ := h
  refine w_X10_word_106 S hE hT hA hr hlocks hk9 n _ _ _ _ h hP hD hS (lv_sub hl [1, 2, 0, 3] rfl)
set_option maxHeartbeats 4000000 in
set_option maxRecDepth 100000 in
theorem w_X10_word_75 {l : Launch} {D : va_G} {cI cJ cS : ClassId} {ad adK : Nat → Nat} {a_o a_cells a_words : Nat} {z_refused z_steps z_kind z_space z_other z_times z_speed z_base z_share z_notes z_pitch z_beats z_held z_sort z_size z_shown z_carried z_tell z_was z_kept z_cutSpace z_cutTimes z_cutOff z_trace : Value} {v_stretches : Int32} {v_cars : Int32} {v_tunes : Int32} {v_along : Int32} {v_near : Int32} {v_borne : Int32} {v_tempo : Int32} {v_seed : Int32} {v_fault : Int32} {v_from : Int32} {v_at : Int32} {v_end : Int32} {v_told : Int32} {v_wrongAt : Int32} {v_culprit : Int32} {v_ran : Int32} {v_isKept : Int32} {g_cells : Nat → Int64} {f_words : Nat → Int32} {x1 : Int32} {x2 : Int32} {x3 : Int32} {x4 : Int32} {x5 : Int32} {post : Int32 → Int32 → Int32 → Prop} {k9 : Int32 → Int32 → Int32 → Int32 → Int32 → Prop} {p : Program} {e : Env} {s : State} {m : MethodId} {args : Array Value} {below : List Frame} {meth : Method} {c : Code} {A : Nat → Prop} (S : CallFix p m c cX10_word 6 s args GW "RoadThatSingsModel") (hE : EN D cI cJ cS s) (hT : ST ad adK A s s.heap) (hA : ∀ q : Nat, s.heap.size ≤ q → A q) (hr : meth.sig.returnType = (some (.int))) (hlocks : meth.locks = false) (hk9 : ∀ (x1 : Int32) (x2 : Int32) (x3 : Int32) (v_at : Int32) (v_wrongAt : Int32) (H : Heap) (locs : List Loc) (ls : Array Slot), k9 x1 x2 x3 v_at v_wrongAt → va_P D vwCl (wX10_word cI cJ cS a_o a_cells a_words z_refused z_steps z_kind z_space z_other z_times z_speed z_base z_share z_notes z_pitch z_beats z_held z_sort z_size z_shown z_carried z_tell z_was z_kept z_cutSpace z_cutTimes z_cutOff z_trace v_stretches v_cars v_tunes v_along v_near v_borne v_tempo v_seed v_fault v_from v_at v_end v_told v_wrongAt v_culprit v_ran v_isKept g_cells f_words) H → va_D A (wX10_word cI cJ cS a_o a_cells a_words z_refused z_steps z_kind z_space z_other z_times z_speed z_base z_share z_notes z_pitch z_beats z_held z_sort z_size z_shown z_carried z_tell z_was z_kept z_cutSpace z_cutTimes z_cutOff z_trace v_stretches v_cars v_tunes v_along v_near v_borne v_tempo v_seed v_fault v_from v_at v_end v_told v_wrongAt v_culprit v_ran v_isKept g_cells f_words) → va_S A s.heap H locs → lv_has ls 6 [(0, .ref a_o), (1, .int x1), (2, .int x2), (3, .int x3)] → W p l e (rmd 0 0 0) s m args below meth c H locs 0 0 (MQ below (va_Qi (fun r (u : Int32 × Int32) => post r u.1 u.2) (fun u t => va_P D vwCl (wX10_word cI cJ cS a_o a_cells a_words z_refused z_steps z_kind z_space z_other z_times z_speed z_base z_share z_notes z_pitch z_beats z_held z_sort z_size z_shown z_carried z_tell z_was z_kept z_cutSpace z_cutTimes z_cutOff z_trace v_stretches v_cars v_tunes v_along v_near v_borne v_tempo v_seed v_fault v_from u.1 v_end v_told u.2 v_culprit v_ran v_isKept g_cells f_words) t.heap) A) args s 0 0 A) (F0 m 9 ls [])) : ∀ (H : Heap) (locs : List Loc) (ls : Array Slot), F_X10_word_75 f_words post k9 x1 x2 x3 x4 x5 v_at v_wrongAt → va_P D vwCl (wX10_word cI cJ cS a_o a_cells a_words z_refused z_steps z_kind z_space z_other z_times z_speed z_base z_share z_notes z_pitch z_beats z_held z_sort z_size z_shown z_carried z_tell z_was z_kept z_cutSpace z_cutTimes z_cutOff z_trace v_stretches v_cars v_tunes v_along v_near v_borne v_tempo v_seed v_fault v_from v_at v_end v_told v_wrongAt v_culprit v_ran v_isKept g_cells f_words) H → va_D A (wX10_word cI cJ cS a_o a_cells a_words z_refused z_steps z_kind z_space z_other z_times z_speed z_base z_share z_notes z_pitch z_beats z_held z_sort z_size z_shown z_carried z_tell z_was z_kept z_cutSpace z_cutTimes z_cutOff z_trace v_stretches v_cars v_tunes v_along v_near v_borne v_tempo v_seed v_fault v_from v_at v_end v_told v_wrongAt v_culprit v_ran v_isKept g_cells f_words) → va_S A s.heap H locs → lv_has ls 6 [(0, .ref a_o), (1, .int x1), (2, .int x2), (3, .int x3), (4, .int x4), (5, .int x5)] → W p l e (rmd 0 0 0) s m args below meth c H locs 0 0 (MQ below (va_Qi (fun r (u : Int32 × Int32) => post r u.1 u.2) (fun u t => va_P D vwCl (wX10_word cI cJ cS a_o a_cells a_words z_refused z_steps z_kind z_space z_other z_times z_speed z_base z_share z_notes z_pitch z_beats z_held z_sort z_size z_shown z_carried z_tell z_was z_kept z_cutSpace z_cutTimes z_cutOff z_trace v_stretches v_cars v_tunes v_along v_near v_borne v_tempo v_seed v_fault v_from u.1 v_end v_told u.2 v_culprit v_ran v_isKept g_cells f_words) t.heap) A) args s 0 0 A) (F0 m 75 ls []) := by
  intro  H locs ls h hP hD hS hl
  unfold F_X10_word_75 at h
  have hx := S.1
  have hb := S.2.1
  refine lv_aload_n hx hb dX10_word_75 rfl (lv_at hl 0 rfl) ?_
  refine gf S hE hP 0 rfl rfl inX10 (k := 27) (by decide) q1120 rfl dX10_word_76 ?_
  refine lv_iload hx hb dX10_word_79 (lv_at hl 5 rfl) ?_
  obtain ⟨hi, h⟩ := h
  refine ial S hE hP 2 rfl hi dX10_word_81 ?_
  refine lv_if_ne (tgt := 93) hx hb dX10_word_82 (by decide) (fun hc => ?_) (fun hc => ?_)
  · have h := h.2 hc
    refine lv_iload hx hb dX10_word_93 (lv_at hl 4 rfl) ?_
    refine lv_iload_n hx hb dX10_word_95 rfl (lv_at hl 2 rfl) ?_
    refine lv_icmp_le (tgt := 104) hx hb dX10_word_96 (by decide) (fun hc => ?_) (fun hc => ?_)
    · have h := h.1 hc
      refine lv_iload_n hx hb dX10_word_104 rfl (lv_at hl 2 rfl) ?_
      refine w_X10_word_105 S hE hT hA hr hlocks hk9 _ _ _ h hP hD hS (lv_sub hl [0, 1, 3] rfl)
    have h := h.2 hc
    refine lv_iload hx hb dX10_word_99 (lv_at hl 4 rfl) ?_
    refine lv_goto (tgt := 105) hx hb dX10_word_101 (by decide) ?_
    refine w_X10_word_105 S hE hT hA hr hlocks hk9 _ _ _ h hP hD hS (lv_sub hl [0, 1, 3] rfl)
  have h := h.1 hc
  refine lv_aload_n hx hb dX10_word_85 rfl (lv_at hl 0 rfl) ?_
  refine lv_iload hx hb dX10_word_86 (lv_at hl 4 rfl) ?_
  refine pf S hE hP hD hS 0 (k := 30) rfl rfl inX10 tyX10_ok nmX10 (by decide) q1123 rfl rfl rfl (Nat.le_of_ble_eq_true rfl) dX10_word_88 (fun H locs hP hD hS => ?_)
  have hP : va_P D vwCl (wX10_word cI cJ cS a_o a_cells a_words z_refused z_steps z_kind z_space z_other z_times z_speed z_base z_share z_notes z_pitch z_beats z_held z_sort z_size z_shown z_carried z_tell z_was z_kept z_cutSpace z_cutTimes z_cutOff z_trace v_stretches v_cars v_tunes v_along v_near v_borne v_tempo v_seed v_fault v_from x4 v_end v_told v_wrongAt v_culprit v_ran v_isKept g_cells f_words) H := hP
  have hD : va_D A (wX10_word cI cJ cS a_o a_cells a_words z_refused z_steps z_kind z_space z_other z_times z_speed z_base z_share z_notes z_pitch z_beats z_held z_sort z_size z_shown z_carried z_tell z_was z_kept z_cutSpace z_cutTimes z_cutOff z_trace v_stretches v_cars v_tunes v_along v_near v_borne v_tempo v_seed v_fault v_from x4 v_end v_told v_wrongAt v_culprit v_ran v_isKept g_cells f_words) := hD
  refine lv_iload_n hx hb dX10_word_91 rfl (lv_at hl 3 rfl) ?_
  exact W.iret hx hb hr (fun t ht _ => ⟨⟨_, (x4, v_wrongAt), rfl, h, hPt hP ht⟩, hS.F ht⟩) hS.2.2 dX10_word_92
set_option maxHeartbeats 4000000 in
set_option maxRecDepth 100000 in
theorem w_X10_word_9 {l : Launch} {D : va_G} {cI cJ cS : ClassId} {ad adK : Nat → Nat} {a_o a_cells a_words : Nat} {z_refused z_steps z_kind z_space z_other z_times z_speed z_base z_share z_notes z_pitch z_beats z_held z_sort z_size z_shown z_carried z_tell z_was z_kept z_cutSpace z_cutTimes z_cutOff z_trace : Value} {v_stretches : Int32} {v_cars : Int32} {v_tunes : Int32} {v_along : Int32} {v_near : Int32} {v_borne : Int32} {v_tempo : Int32} {v_seed : Int32} {v_fault : Int32} {v_from : Int32} {v_end : Int32} {v_told : Int32} {v_culprit : Int32} {v_ran : Int32} {v_isKept : Int32} {g_cells : Nat → Int64} {f_words : Nat → Int32} {post : Int32 → Int32 → Int32 → Prop} {p : Program} {e : Env} {s : State} {m : MethodId} {args : Array Value} {below : List Frame} {meth : Method} {c : Code} {A : Nat → Prop} (S : CallFix p m c cX10_word 6 s args GW "RoadThatSingsModel") (hE : EN D cI cJ cS s) (hT : ST ad adK A s s.heap) (hA : ∀ q : Nat, s.heap.size ≤ q → A q) (hr : meth.sig.returnType = (some (.int))) (hlocks : meth.locks = false) : ∀ n : Nat, ∀ (x1 : Int32) (x2 : Int32) (x3 : Int32) (v_at : Int32) (v_wrongAt : Int32) (H : Heap) (locs : List Loc) (ls : Array Slot), L_X10_word_9 v_from v_end g_cells f_words post n x1 x2 x3 v_at v_wrongAt → va_P D vwCl (wX10_word cI cJ cS a_o a_cells a_words z_refused z_steps z_kind z_space z_other z_times z_speed z_base z_share z_notes z_pitch z_beats z_held z_sort z_size z_shown z_carried z_tell z_was z_kept z_cutSpace z_cutTimes z_cutOff z_trace v_stretches v_cars v_tunes v_along v_near v_borne v_tempo v_seed v_fault v_from v_at v_end v_told v_wrongAt v_culprit v_ran v_isKept g_cells f_words) H → va_D A (wX10_word cI cJ cS a_o a_cells a_words z_refused z_steps z_kind z_space z_other z_times z_speed z_base z_share z_notes z_pitch z_beats z_held z_sort z_size z_shown z_carried z_tell z_was z_kept z_cutSpace z_cutTimes z_cutOff z_trace v_stretches v_cars v_tunes v_along v_near v_borne v_tempo v_seed v_fault v_from v_at v_end v_told v_wrongAt v_culprit v_ran v_isKept g_cells f_words) → va_S A s.heap H locs → lv_has ls 6 [(0, .ref a_o), (1, .int x1), (2, .int x2), (3, .int x3)] → W p l e (rmd 0 0 0) s m args below meth c H locs 0 0 (MQ below (va_Qi (fun r (u : Int32 × Int32) => post r u.1 u.2) (fun u t => va_P D vwCl (wX10_word cI cJ cS a_o a_cells a_words z_refused z_steps z_kind z_space z_other z_times z_speed z_base z_share z_notes z_pitch z_beats z_held z_sort z_size z_shown z_carried z_tell z_was z_kept z_cutSpace z_cutTimes z_cutOff z_trace v_stretches v_cars v_tunes v_along v_near v_borne v_tempo v_seed v_fault v_from u.1 v_end v_told u.2 v_culprit v_ran v_isKept g_cells f_words) t.heap) A) args s 0 0 A) (F0 m 9 ls []) := by
  intro n
  induction n with
  | zero =>
    intro x1 x2 x3 v_at v_wrongAt H locs ls h hP hD hS hl
    exact h.elim
  | succ n ih =>
    intro x1 x2 x3 v_at v_wrongAt H locs ls h hP hD hS hl
    rw [L_X10_word_9] at h
    have hx := S.1
    have hb := S.2.1
    refine lv_iload_n hx hb dX10_word_9 rfl (lv_at hl 3 rfl) ?_
    refine lv_bipush (v := 13) hx hb dX10_word_10 (by decide) ?_
    refine lv_icmp_ge (tgt := 130) hx hb dX10_word_12 (by decide) (fun hc => ?_) (fun hc => ?_)
    · have h := h.1 hc
      refine lv_aload_n hx hb dX10_word_130 rfl (lv_at hl 0 rfl) ?_
      refine lv_iload_n hx hb dX10_word_131 rfl (lv_at hl 2 rfl) ?_
      refine pf S hE hP hD hS 0 (k := 33) rfl rfl inX10 tyX10_ok nmX10 (by decide) q1126 rfl rfl rfl (Nat.le_of_ble_eq_true rfl) dX10_word_132 (fun H locs hP hD hS => ?_)
      have hP : va_P D vwCl (wX10_word cI cJ cS a_o a_cells a_words z_refused z_steps z_kind z_space z_other z_times z_speed z_base z_share z_notes z_pitch z_beats z_held z_sort z_size z_shown z_carried z_tell z_was z_kept z_cutSpace z_cutTimes z_cutOff z_trace v_stretches v_cars v_tunes v_along v_near v_borne v_tempo v_seed v_fault v_from v_at v_end v_told x2 v_culprit v_ran v_isKept g_cells f_words) H := hP
      have hD : va_D A (wX10_word cI cJ cS a_o a_cells a_words z_refused z_steps z_kind z_space z_other z_times z_speed z_base z_share z_notes z_pitch z_beats z_held z_sort z_size z_shown z_carried z_tell z_was z_kept z_cutSpace z_cutTimes z_cutOff z_trace v_stretches v_cars v_tunes v_along v_near v_borne v_tempo v_seed v_fault v_from v_at v_end v_told x2 v_culprit v_ran v_isKept g_cells f_words) := hD
      refine lv_iconst (v := (-1)) hx hb dX10_word_135 (by decide) ?_
      exact W.iret hx hb hr (fun t ht _ => ⟨⟨_, (v_at, x2), rfl, h, hPt hP ht⟩, hS.F ht⟩) hS.2.2 dX10_word_136
    have h := h.2 hc
    refine lv_aload_n hx hb dX10_word_15 rfl (lv_at hl 0 rfl) ?_
    refine gf S hE hP 0 rfl rfl inX10 (k := 30) (by decide) q1123 rfl dX10_word_16 ?_
    refine lv_istore (lv' := [(4, .int v_at), (0, .ref a_o), (1, .int x1), (2, .int x2), (3, .int x3)]) hx hb dX10_word_19 hl (by decide) rfl (fun ls hl => ?_)
    refine lv_iload_n hx hb dX10_word_21 rfl (lv_at hl 2 rfl) ?_
    refine lv_istore (lv' := [(5, .int x1), (4, .int v_at), (0, .ref a_o), (1, .int x1), (2, .int x2), (3, .int x3)]) hx hb dX10_word_22 hl (by decide) rfl (fun ls hl => ?_)
    obtain ⟨n, h⟩ := h
    refine w_X10_word_24 S hE hT hA hr hlocks (fun x4_1 x5_2 H locs ls h hP hD hS hl => ?_) n _ _ _ _ _ h hP hD hS (lv_sub hl [2, 3, 4, 5, 1, 0] rfl)
    refine w_X10_word_75 S hE hT hA hr hlocks ih _ _ _ h hP hD hS (lv_sub hl [0, 1, 2, 3, 4, 5] rfl)
set_option maxHeartbeats 4000000 in
set_option maxRecDepth 100000 in
theorem c_X10_word {l : Launch} {D : va_G} {cI cJ cS : ClassId} {ad adK : Nat → Nat} {a_o a_cells a_words : Nat} {z_refused z_steps z_kind z_space z_other z_times z_speed z_base z_share z_notes z_pitch z_beats z_held z_sort z_size z_shown z_carried z_tell z_was z_kept z_cutSpace z_cutTimes z_cutOff z_trace : Value} {v_stretches : Int32} {v_cars : Int32} {v_tunes : Int32} {v_along : Int32} {v_near : Int32} {v_borne : Int32} {v_tempo : Int32} {v_seed : Int32} {v_fault : Int32} {v_from : Int32} {v_at : Int32} {v_end : Int32} {v_told : Int32} {v_wrongAt : Int32} {v_culprit : Int32} {v_ran : Int32} {v_isKept : Int32} {g_cells : Nat → Int64} {f_words : Nat → Int32} {post : Int32 → Int32 → Int32 → Prop} (h : F_X10_word v_from v_at v_end v_wrongAt g_cells f_words post) {sz : Nat} : Met l yX10_word (Cond.code yX10_word cX10_word 6 (some (.int)) :: GW) (rmd 0 0 0) (PW D cI cJ cS ad adK [.ref a_o] (wX10_word cI cJ cS a_o a_cells a_words z_refused z_steps z_kind z_space z_other z_times z_speed z_base z_share z_notes z_pitch z_beats z_held z_sort z_size z_shown z_carried z_tell z_was z_kept z_cutSpace z_cutTimes z_cutOff z_trace v_stretches v_cars v_tunes v_along v_near v_borne v_tempo v_seed v_fault v_from v_at v_end v_told v_wrongAt v_culprit v_ran v_isKept g_cells f_words) sz) (va_Qi (fun r (u : Int32 × Int32) => post r u.1 u.2) (fun u t => va_P D vwCl (wX10_word cI cJ cS a_o a_cells a_words z_refused z_steps z_kind z_space z_other z_times z_speed z_base z_share z_notes z_pitch z_beats z_held z_sort z_size z_shown z_carried z_tell z_was z_kept z_cutSpace z_cutTimes z_cutOff z_trace v_stretches v_cars v_tunes v_along v_near v_borne v_tempo v_seed v_fault v_from u.1 v_end v_told u.2 v_culprit v_ran v_isKept g_cells f_words) t.heap) (va_A (wX10_word cI cJ cS a_o a_cells a_words z_refused z_steps z_kind z_space z_other z_times z_speed z_base z_share z_notes z_pitch z_beats z_held z_sort z_size z_shown z_carried z_tell z_was z_kept z_cutSpace z_cutTimes z_cutOff z_trace v_stretches v_cars v_tunes v_along v_near v_borne v_tempo v_seed v_fault v_from v_at v_end v_told v_wrongAt v_culprit v_ran v_isKept g_cells f_words) sz)) 0 0 (va_A (wX10_word cI cJ cS a_o a_cells a_words z_refused z_steps z_kind z_space z_other z_times z_speed z_base z_share z_notes z_pitch z_beats z_held z_sort z_size z_shown z_carried z_tell z_was z_kept z_cutSpace z_cutTimes z_cutOff z_trace v_stretches v_cars v_tunes v_along v_near v_borne v_tempo v_seed v_fault v_from v_at v_end v_told v_wrongAt v_culprit v_ran v_isKept g_cells f_words) sz) := by
  refine Met.rw (Qc := fun A => (va_Qi (fun r (u : Int32 × Int32) => post r u.1 u.2) (fun u t => va_P D vwCl (wX10_word cI cJ cS a_o a_cells a_words z_refused z_steps z_kind z_space z_other z_times z_speed z_base z_share z_notes z_pitch z_beats z_held z_sort z_size z_shown z_carried z_tell z_was z_kept z_cutSpace z_cutTimes z_cutOff z_trace v_stretches v_cars v_tunes v_along v_near v_borne v_tempo v_seed v_fault v_from u.1 v_end v_told u.2 v_culprit v_ran v_isKept g_cells f_words) t.heap) A)) (by decide) (Nat.le_of_ble_eq_true rfl) (fun p e s m args below meth c ls A (S : CallFix p m c cX10_word 6 s args GW "RoadThatSingsModel") hE hT hP hD hA hS hr hlocks hname hl => ?_)
  have hS0 := hS
  have hx := S.1
  have hb := S.2.1
  have hl : lv_has ls 6 [(0, .ref a_o)] := hl
  unfold F_X10_word at h
  refine lv_iconst (v := 0) hx hb dX10_word_0 (by decide) ?_
  refine lv_istore_n (lv' := [(1, .int 0), (0, .ref a_o)]) hx hb dX10_word_1 rfl hl (by decide) rfl (fun ls hl => ?_)
  refine lv_aload_n hx hb dX10_word_2 rfl (lv_at hl 1 rfl) ?_
  refine gf S hE hP 0 rfl rfl inX10 (k := 30) (by decide) q1123 rfl dX10_word_3 ?_
  refine lv_istore_n (lv' := [(2, .int v_at), (1, .int 0), (0, .ref a_o)]) hx hb dX10_word_6 rfl hl (by decide) rfl (fun ls hl => ?_)
  refine lv_iconst (v := 0) hx hb dX10_word_7 (by decide) ?_
  refine lv_istore_n (lv' := [(3, .int 0), (2, .int v_at), (1, .int 0), (0, .ref a_o)]) hx hb dX10_word_8 rfl hl (by decide) rfl (fun ls hl => ?_)
  obtain ⟨n, h⟩ := h
  refine w_X10_word_9 S hE hT hA hr hlocks n _ _ _ _ _ _ _ _ h hP hD hS (lv_sub hl [3, 2, 1, 0] rfl)
/-! X10_isDigit -/
abbrev wX10_isDigit (cI cJ cS : ClassId) (a_o a_cells : Nat) (z_refused z_steps z_kind z_space z_other z_times z_speed z_base z_share z_notes z_pitch z_beats z_held z_sort z_size z_shown z_carried z_words z_tell z_was z_kept z_cutSpace z_cutTimes z_cutOff z_trace : Value) (v_stretches : Int32) (v_cars : Int32) (v_tunes : Int32) (v_along : Int32) (v_near : Int32) (v_borne : Int32) (v_tempo : Int32) (v_seed : Int32) (v_fault : Int32) (v_from : Int32) (v_at : Int32) (v_end : Int32) (v_told : Int32) (v_wrongAt : Int32) (v_culprit : Int32) (v_ran : Int32) (v_isKept : Int32) (g_cells : Nat → Int64) : va_W := [(a_o, .inr (9, [.int v_stretches, .int v_cars, .int v_tunes, .int v_along, .int v_near, .int v_borne, .int v_tempo, .int v_seed, .int v_fault, z_refused, z_steps, z_kind, z_space, z_other, z_times, z_speed, z_base, z_share, z_notes, z_pitch, z_beats, z_held, z_sort, z_size, z_shown, .ref a_cells, z_carried, z_words, z_tell, .int v_from, .int v_at, .int v_end, .int v_told, .int v_wrongAt, z_was, z_kept, .int v_culprit, z_cutSpace, z_cutTimes, z_cutOff, z_trace, .int v_ran, .int v_isKept])), (a_cells, .inl (cJ, 1280, .inr (.inl g_cells)))]
def F_X10_isDigit (v_from : Int32) (v_at : Int32) (v_end : Int32) (g_cells : Nat → Int64) (post : Int32 → Prop) : Prop := ((v_end ≤ v_at → post 0) ∧ (¬ v_end ≤ v_at → (vp_in (v_from + v_at) 1280 ∧ ((((g_cells (v_from + v_at).toNatClampNeg).toInt32) < 48 → post 0) ∧ (¬ ((g_cells (v_from + v_at).toNatClampNeg).toInt32) < 48 → (vp_in (v_from + v_at) 1280 ∧ ((57 < ((g_cells (v_from + v_at).toNatClampNeg).toInt32) → post 0) ∧ (¬ 57 < ((g_cells (v_from + v_at).toNatClampNeg).toInt32) → post 1))))))))
set_option maxHeartbeats 4000000 in
set_option maxRecDepth 100000 in
theorem c_X10_isDigit {l : Launch} {D : va_G} {cI cJ cS : ClassId} {ad adK : Nat → Nat} {a_o a_cells : Nat} {z_refused z_steps z_kind z_space z_other z_times z_speed z_base z_share z_notes z_pitch z_beats z_held z_sort z_size z_shown z_carried z_words z_tell z_was z_kept z_cutSpace z_cutTimes z_cutOff z_trace : Value} {v_stretches : Int32} {v_cars : Int32} {v_tunes : Int32} {v_along : Int32} {v_near : Int32} {v_borne : Int32} {v_tempo : Int32} {v_seed : Int32} {v_fault : Int32} {v_from : Int32} {v_at : Int32} {v_end : Int32} {v_told : Int32} {v_wrongAt : Int32} {v_culprit : Int32} {v_ran : Int32} {v_isKept : Int32} {g_cells : Nat → Int64} {post : Int32 → Prop} (h : F_X10_isDigit v_from v_at v_end g_cells post) : Met l yX10_isDigit (Cond.code yX10_isDigit cX10_isDigit 1 (some (.boolean)) :: GW) (rmd 0 0 0) (PR D cI cJ cS ad adK [.ref a_o] (wX10_isDigit cI cJ cS a_o a_cells z_refused z_steps z_kind z_space z_other z_times z_speed z_base z_share z_notes z_pitch z_beats z_held z_sort z_size z_shown z_carried z_words z_tell z_was z_kept z_cutSpace z_cutTimes z_cutOff z_trace v_stretches v_cars v_tunes v_along v_near v_borne v_tempo v_seed v_fault v_from v_at v_end v_told v_wrongAt v_culprit v_ran v_isKept g_cells)) (vp_Si post) 0 0 nof := by
  refine Met.ro (by decide) (Nat.le_of_ble_eq_true rfl) (fun p e s m args below meth c ls (S : CallFix p m c cX10_isDigit 1 s args GW "RoadThatSingsModel") hE hT hP hS hr hlocks hl => ?_)
  have hx := S.1
  have hb := S.2.1
  have hl : lv_has ls 1 [(0, .ref a_o)] := hl
  unfold F_X10_isDigit at h
  refine lv_aload_n hx hb dX10_isDigit_0 rfl (lv_at hl 0 rfl) ?_
  refine gf S hE hP 0 rfl rfl inX10 (k := 30) (by decide) q1123 rfl dX10_isDigit_1 ?_
  refine lv_aload_n hx hb dX10_isDigit_4 rfl (lv_at hl 0 rfl) ?_
  refine gf S hE hP 0 rfl rfl inX10 (k := 31) (by decide) q1124 rfl dX10_isDigit_5 ?_
  refine lv_icmp_ge (tgt := 55) hx hb dX10_isDigit_8 (by decide) (fun hc => ?_) (fun hc => ?_)
  · have h := h.1 hc
    refine lv_iconst (v := 0) hx hb dX10_isDigit_55 (by decide) ?_
    exact W.zret hx hb hr rfl (fun t ht _ => ⟨_, rfl, h, ht⟩) (fun _ hq => by cases hq) dX10_isDigit_56
  have h := h.2 hc
  refine lv_aload_n hx hb dX10_isDigit_11 rfl (lv_at hl 0 rfl) ?_
  refine gf S hE hP 0 rfl rfl inX10 (k := 25) (by decide) q1118 rfl dX10_isDigit_12 ?_
  refine lv_aload_n hx hb dX10_isDigit_15 rfl (lv_at hl 0 rfl) ?_
  refine gf S hE hP 0 rfl rfl inX10 (k := 29) (by decide) q1122 rfl dX10_isDigit_16 ?_
  refine lv_aload_n hx hb dX10_isDigit_19 rfl (lv_at hl 0 rfl) ?_
  refine gf S hE hP 0 rfl rfl inX10 (k := 30) (by decide) q1123 rfl dX10_isDigit_20 ?_
  refine lv_iadd hx hb dX10_isDigit_23 ?_
  obtain ⟨hi, h⟩ := h
  refine lal S hE hP 1 rfl hi dX10_isDigit_24 ?_
  refine lv_l2i hx hb dX10_isDigit_25 rfl ?_
  refine lv_bipush (v := 48) hx hb dX10_isDigit_26 (by decide) ?_
  refine lv_icmp_lt (tgt := 55) hx hb dX10_isDigit_28 (by decide) (fun hc => ?_) (fun hc => ?_)
  · have h := h.1 hc
    refine lv_iconst (v := 0) hx hb dX10_isDigit_55 (by decide) ?_
    exact W.zret hx hb hr rfl (fun t ht _ => ⟨_, rfl, h, ht⟩) (fun _ hq => by cases hq) dX10_isDigit_56
  have h := h.2 hc
  refine lv_aload_n hx hb dX10_isDigit_31 rfl (lv_at hl 0 rfl) ?_
  refine gf S hE hP 0 rfl rfl inX10 (k := 25) (by decide) q1118 rfl dX10_isDigit_32 ?_
  refine lv_aload_n hx hb dX10_isDigit_35 rfl (lv_at hl 0 rfl) ?_
  refine gf S hE hP 0 rfl rfl inX10 (k := 29) (by decide) q1122 rfl dX10_isDigit_36 ?_
  refine lv_aload_n hx hb dX10_isDigit_39 rfl (lv_at hl 0 rfl) ?_
  refine gf S hE hP 0 rfl rfl inX10 (k := 30) (by decide) q1123 rfl dX10_isDigit_40 ?_
  refine lv_iadd hx hb dX10_isDigit_43 ?_
  obtain ⟨hi, h⟩ := h
  refine lal S hE hP 1 rfl hi dX10_isDigit_44 ?_
  refine lv_l2i hx hb dX10_isDigit_45 rfl ?_
  refine lv_bipush (v := 57) hx hb dX10_isDigit_46 (by decide) ?_
  refine lv_icmp_gt (tgt := 55) hx hb dX10_isDigit_48 (by decide) (fun hc => ?_) (fun hc => ?_)
  · have h := h.1 hc
    refine lv_iconst (v := 0) hx hb dX10_isDigit_55 (by decide) ?_
    exact W.zret hx hb hr rfl (fun t ht _ => ⟨_, rfl, h, ht⟩) (fun _ hq => by cases hq) dX10_isDigit_56
  have h := h.2 hc
  refine lv_iconst (v := 1) hx hb dX10_isDigit_51 (by decide) ?_
  refine lv_goto (tgt := 56) hx hb dX10_isDigit_52 (by decide) ?_
  exact W.zret hx hb hr rfl (fun t ht _ => ⟨_, rfl, h, ht⟩) (fun _ hq => by cases hq) dX10_isDigit_56
/-! X10_number -/
abbrev wX10_number (cI cJ cS : ClassId) (a_o a_cells : Nat) (z_refused z_steps z_kind z_space z_other z_times z_speed z_base z_share z_notes z_pitch z_beats z_held z_sort z_size z_shown z_carried z_words z_tell z_was z_kept z_cutSpace z_cutTimes z_cutOff z_trace : Value) (v_stretches : Int32) (v_cars : Int32) (v_tunes : Int32) (v_along : Int32) (v_near : Int32) (v_borne : Int32) (v_tempo : Int32) (v_seed : Int32) (v_fault : Int32) (v_from : Int32) (v_at : Int32) (v_end : Int32) (v_told : Int32) (v_wrongAt : Int32) (v_culprit : Int32) (v_ran : Int32) (v_isKept : Int32) (g_cells : Nat → Int64) : va_W := [(a_o, .inr (9, [.int v_stretches, .int v_cars, .int v_tunes, .int v_along, .int v_near, .int v_borne, .int v_tempo, .int v_seed, .int v_fault, z_refused, z_steps, z_kind, z_space, z_other, z_times, z_speed, z_base, z_share, z_notes, z_pitch, z_beats, z_held, z_sort, z_size, z_shown, .ref a_cells, z_carried, z_words, z_tell, .int v_from, .int v_at, .int v_end, .int v_told, .int v_wrongAt, z_was, z_kept, .int v_culprit, z_cutSpace, z_cutTimes, z_cutOff, z_trace, .int v_ran, .int v_isKept])), (a_cells, .inl (cJ, 1280, .inr (.inl g_cells)))]
def L_X10_number_29 (v_from : Int32) (v_end : Int32) (g_cells : Nat → Int64) (k88 : Int32 → Int32 → Prop) : Nat → Int32 → Int32 → Int32 → Prop
  | 0, _, _, _ => False
  | n29 + 1, x4, v_at, v_told => ((4 ≤ x4 → k88 v_at v_told) ∧ (¬ 4 ≤ x4 → (F_X10_isDigit v_from v_at v_end g_cells (fun r36 => ((r36 = 0 → k88 v_at v_told) ∧ (¬ r36 = 0 → (vp_in (v_from + v_at) 1280 ∧ (∀ x4_82 : Int32, x4_82 = x4 + 1 → L_X10_number_29 v_from v_end g_cells k88 n29 x4_82 (v_at + 1) (((10 * v_told) + ((g_cells (v_from + v_at).toNatClampNeg).toInt32)) - 48)))))))))
def F_X10_number_104 (post : Int32 → Int32 → Int32 → Int32 → Prop) (x3 : Int32) (v_at : Int32) (v_told : Int32) (v_wrongAt : Int32) : Prop := (F_X10_wrong v_wrongAt x3 (fun r106 w106_0 => ((r106 = 0 → post 0 v_at v_told w106_0) ∧ (¬ r106 = 0 → post 1 v_at v_told w106_0))))
def F_X10_number_88 (post : Int32 → Int32 → Int32 → Int32 → Prop) (x1 : Int32) (x2 : Int32) (x3 : Int32) (v_at : Int32) (v_told : Int32) (v_wrongAt : Int32) : Prop := ((v_told < x1 → F_X10_number_104 post x3 v_at v_told v_wrongAt) ∧ (¬ v_told < x1 → ((v_told ≤ x2 → post 1 v_at v_told v_wrongAt) ∧ (¬ v_told ≤ x2 → F_X10_number_104 post x3 v_at v_told v_wrongAt))))
def F_X10_number (v_from : Int32) (v_at : Int32) (v_end : Int32) (v_told : Int32) (v_wrongAt : Int32) (g_cells : Nat → Int64) (x1 : Int32) (x2 : Int32) (post : Int32 → Int32 → Int32 → Int32 → Prop) : Prop := (F_X10_isDigit v_from v_at v_end g_cells (fun r11 => ((r11 = 0 → (F_X10_wrong v_wrongAt v_at (fun r22 w22_0 => (vb r22 ∧ post r22 v_at 0 w22_0)))) ∧ (¬ r11 = 0 → (∃ n29 : Nat, L_X10_number_29 v_from v_end g_cells (fun v_at_1 v_told_2 => F_X10_number_88 post x1 x2 v_at v_at_1 v_told_2 v_wrongAt) n29 0 v_at 0)))))
set_option maxHeartbeats 4000000 in
set_option maxRecDepth 100000 in
theorem w_X10_number_29 {l : Launch} {D : va_G} {cI cJ cS : ClassId} {ad adK : Nat → Nat} {a_o a_cells : Nat} {z_refused z_steps z_kind z_space z_other z_times z_speed z_base z_share z_notes z_pitch z_beats z_held z_sort z_size z_shown z_carried z_words z_tell z_was z_kept z_cutSpace z_cutTimes z_cutOff z_trace : Value} {v_stretches : Int32} {v_cars : Int32} {v_tunes : Int32} {v_along : Int32} {v_near : Int32} {v_borne : Int32} {v_tempo : Int32} {v_seed : Int32} {v_fault : Int32} {v_from : Int32} {v_end : Int32} {v_wrongAt : Int32} {v_culprit : Int32} {v_ran : Int32} {v_isKept : Int32} {g_cells : Nat → Int64} {x1 : Int32} {x2 : Int32} {x3 : Int32} {post : Int32 → Int32 → Int32 → Int32 → Prop} {k88 : Int32 → Int32 → Prop} {p : Program} {e : Env} {s : State} {m : MethodId} {args : Array Value} {below : List Frame} {meth : Method} {c : Code} {A : Nat → Prop} (S : CallFix p m c cX10_number 5 s args GW "RoadThatSingsModel") (hE : EN D cI cJ cS s) (hT : ST ad adK A s s.heap) (hA : ∀ q : Nat, s.heap.size ≤ q → A q) (hr : meth.sig.returnType = (some (.boolean))) (hlocks : meth.locks = false) (hk88 : ∀ (v_at : Int32) (v_told : Int32) (H : Heap) (locs : List Loc) (ls : Array Slot), k88 v_at v_told → va_P D vwCl (wX10_number cI cJ cS a_o a_cells z_refused z_steps z_kind z_space z_other z_times z_speed z_base z_share z_notes z_pitch z_beats z_held z_sort z_size z_shown z_carried z_words z_tell z_was z_kept z_cutSpace z_cutTimes z_cutOff z_trace v_stretches v_cars v_tunes v_along v_near v_borne v_tempo v_seed v_fault v_from v_at v_end v_told v_wrongAt v_culprit v_ran v_isKept g_cells) H → va_D A (wX10_number cI cJ cS a_o a_cells z_refused z_steps z_kind z_space z_other z_times z_speed z_base z_share z_notes z_pitch z_beats z_held z_sort z_size z_shown z_carried z_words z_tell z_was z_kept z_cutSpace z_cutTimes z_cutOff z_trace v_stretches v_cars v_tunes v_along v_near v_borne v_tempo v_seed v_fault v_from v_at v_end v_told v_wrongAt v_culprit v_ran v_isKept g_cells) → va_S A s.heap H locs → lv_has ls 5 [(0, .ref a_o), (1, .int x1), (2, .int x2), (3, .int x3)] → W p l e (rmd 1 0 0) s m args below meth c H locs 0 0 (MQ below (va_Qi (fun r (u : Int32 × Int32 × Int32) => post r u.1 u.2.1 u.2.2) (fun u t => va_P D vwCl (wX10_number cI cJ cS a_o a_cells z_refused z_steps z_kind z_space z_other z_times z_speed z_base z_share z_notes z_pitch z_beats z_held z_sort z_size z_shown z_carried z_words z_tell z_was z_kept z_cutSpace z_cutTimes z_cutOff z_trace v_stretches v_cars v_tunes v_along v_near v_borne v_tempo v_seed v_fault v_from u.1 v_end u.2.1 u.2.2 v_culprit v_ran v_isKept g_cells) t.heap) A) args s 0 0 A) (F0 m 88 ls [])) : ∀ n : Nat, ∀ (x4 : Int32) (v_at : Int32) (v_told : Int32) (H : Heap) (locs : List Loc) (ls : Array Slot), L_X10_number_29 v_from v_end g_cells k88 n x4 v_at v_told → va_P D vwCl (wX10_number cI cJ cS a_o a_cells z_refused z_steps z_kind z_space z_other z_times z_speed z_base z_share z_notes z_pitch z_beats z_held z_sort z_size z_shown z_carried z_words z_tell z_was z_kept z_cutSpace z_cutTimes z_cutOff z_trace v_stretches v_cars v_tunes v_along v_near v_borne v_tempo v_seed v_fault v_from v_at v_end v_told v_wrongAt v_culprit v_ran v_isKept g_cells) H → va_D A (wX10_number cI cJ cS a_o a_cells z_refused z_steps z_kind z_space z_other z_times z_speed z_base z_share z_notes z_pitch z_beats z_held z_sort z_size z_shown z_carried z_words z_tell z_was z_kept z_cutSpace z_cutTimes z_cutOff z_trace v_stretches v_cars v_tunes v_along v_near v_borne v_tempo v_seed v_fault v_from v_at v_end v_told v_wrongAt v_culprit v_ran v_isKept g_cells) → va_S A s.heap H locs → lv_has ls 5 [(0, .ref a_o), (1, .int x1), (2, .int x2), (3, .int x3), (4, .int x4)] → W p l e (rmd 1 0 0) s m args below meth c H locs 0 0 (MQ below (va_Qi (fun r (u : Int32 × Int32 × Int32) => post r u.1 u.2.1 u.2.2) (fun u t => va_P D vwCl (wX10_number cI cJ cS a_o a_cells z_refused z_steps z_kind z_space z_other z_times z_speed z_base z_share z_notes z_pitch z_beats z_held z_sort z_size z_shown z_carried z_words z_tell z_was z_kept z_cutSpace z_cutTimes z_cutOff z_trace v_stretches v_cars v_tunes v_along v_near v_borne v_tempo v_seed v_fault v_from u.1 v_end u.2.1 u.2.2 v_culprit v_ran v_isKept g_cells) t.heap) A) args s 0 0 A) (F0 m 29 ls []) := by
  intro n
  induction n with
  | zero =>
    intro x4 v_at v_told H locs ls h hP hD hS hl
    exact h.elim
  | succ n ih =>
    intro x4 v_at v_told H locs ls h hP hD hS hl
    rw [L_X10_number_29] at h
    have hx := S.1
    have hb := S.2.1
    refine lv_iload hx hb dX10_number_29 (lv_at hl 4 rfl) ?_
    refine lv_iconst (v := 4) hx hb dX10_number_31 (by decide) ?_
    refine lv_icmp_ge (tgt := 88) hx hb dX10_number_32 (by decide) (fun hc => ?_) (fun hc => ?_)
    · have h := h.1 hc
      exact hk88 _ _ _ _ _ h hP hD hS (lv_sub hl [0, 1, 2, 3] rfl)
    have h := h.2 hc
    refine lv_aload_n hx hb dX10_number_35 rfl (lv_at hl 0 rfl) ?_
    refine ro_i (roV S hE hT hS (c_X10_isDigit h) lkX10_189 rfl ⟨(Nat.le_of_ble_eq_true rfl), (Nat.le_of_ble_eq_true rfl)⟩ (hP.sub [0, 1] rfl) 0 rfl rfl hl.1 rfl (Nat.le_of_ble_eq_true rfl) dX10_number_36 ⟨(Nat.zero_le _), (Nat.zero_le _)⟩) (fun r36 h => ?_)
    refine lv_if_eq (tgt := 88) hx hb dX10_number_39 (by decide) (fun hc => ?_) (fun hc => ?_)
    · have h := h.1 hc
      exact hk88 _ _ _ _ _ h hP hD hS (lv_sub hl [0, 1, 2, 3] rfl)
    have h := h.2 hc
    refine lv_aload_n hx hb dX10_number_42 rfl (lv_at hl 0 rfl) ?_
    refine lv_bipush (v := 10) hx hb dX10_number_43 (by decide) ?_
    refine lv_aload_n hx hb dX10_number_45 rfl (lv_at hl 0 rfl) ?_
    refine gf S hE hP 0 rfl rfl inX10 (k := 32) (by decide) q1125 rfl dX10_number_46 ?_
    refine lv_imul hx hb dX10_number_49 ?_
    refine lv_aload_n hx hb dX10_number_50 rfl (lv_at hl 0 rfl) ?_
    refine gf S hE hP 0 rfl rfl inX10 (k := 25) (by decide) q1118 rfl dX10_number_51 ?_
    refine lv_aload_n hx hb dX10_number_54 rfl (lv_at hl 0 rfl) ?_
    refine gf S hE hP 0 rfl rfl inX10 (k := 29) (by decide) q1122 rfl dX10_number_55 ?_
    refine lv_aload_n hx hb dX10_number_58 rfl (lv_at hl 0 rfl) ?_
    refine gf S hE hP 0 rfl rfl inX10 (k := 30) (by decide) q1123 rfl dX10_number_59 ?_
    refine lv_iadd hx hb dX10_number_62 ?_
    obtain ⟨hi, h⟩ := h
    refine lal S hE hP 1 rfl hi dX10_number_63 ?_
    refine lv_l2i hx hb dX10_number_64 rfl ?_
    refine lv_iadd hx hb dX10_number_65 ?_
    refine lv_bipush (v := 48) hx hb dX10_number_66 (by decide) ?_
    refine lv_isub hx hb dX10_number_68 ?_
    refine pf S hE hP hD hS 0 (k := 32) rfl rfl inX10 tyX10_ok nmX10 (by decide) q1125 rfl rfl rfl (Nat.le_of_ble_eq_true rfl) dX10_number_69 (fun H locs hP hD hS => ?_)
    have hP : va_P D vwCl (wX10_number cI cJ cS a_o a_cells z_refused z_steps z_kind z_space z_other z_times z_speed z_base z_share z_notes z_pitch z_beats z_held z_sort z_size z_shown z_carried z_words z_tell z_was z_kept z_cutSpace z_cutTimes z_cutOff z_trace v_stretches v_cars v_tunes v_along v_near v_borne v_tempo v_seed v_fault v_from v_at v_end (((10 * v_told) + ((g_cells (v_from + v_at).toNatClampNeg).toInt32)) - 48) v_wrongAt v_culprit v_ran v_isKept g_cells) H := hP
    have hD : va_D A (wX10_number cI cJ cS a_o a_cells z_refused z_steps z_kind z_space z_other z_times z_speed z_base z_share z_notes z_pitch z_beats z_held z_sort z_size z_shown z_carried z_words z_tell z_was z_kept z_cutSpace z_cutTimes z_cutOff z_trace v_stretches v_cars v_tunes v_along v_near v_borne v_tempo v_seed v_fault v_from v_at v_end (((10 * v_told) + ((g_cells (v_from + v_at).toNatClampNeg).toInt32)) - 48) v_wrongAt v_culprit v_ran v_isKept g_cells) := hD
    refine lv_aload_n hx hb dX10_number_72 rfl (lv_at hl 0 rfl) ?_
    refine lv_dup hx hb dX10_number_73 rfl ?_
    refine gf S hE hP 0 rfl rfl inX10 (k := 30) (by decide) q1123 rfl dX10_number_74 ?_
    refine lv_iconst (v := 1) hx hb dX10_number_77 (by decide) ?_
    refine lv_iadd hx hb dX10_number_78 ?_
    refine pf S hE hP hD hS 0 (k := 30) rfl rfl inX10 tyX10_ok nmX10 (by decide) q1123 rfl rfl rfl (Nat.le_of_ble_eq_true rfl) dX10_number_79 (fun H locs hP hD hS => ?_)
    have hP : va_P D vwCl (wX10_number cI cJ cS a_o a_cells z_refused z_steps z_kind z_space z_other z_times z_speed z_base z_share z_notes z_pitch z_beats z_held z_sort z_size z_shown z_carried z_words z_tell z_was z_kept z_cutSpace z_cutTimes z_cutOff z_trace v_stretches v_cars v_tunes v_along v_near v_borne v_tempo v_seed v_fault v_from (v_at + 1) v_end (((10 * v_told) + ((g_cells (v_from + v_at).toNatClampNeg).toInt32)) - 48) v_wrongAt v_culprit v_ran v_isKept g_cells) H := hP
    have hD : va_D A (wX10_number cI cJ cS a_o a_cells z_refused z_steps z_kind z_space z_other z_times z_speed z_base z_share z_notes z_pitch z_beats z_held z_sort z_size z_shown z_carried z_words z_tell z_was z_kept z_cutSpace z_cutTimes z_cutOff z_trace v_stretches v_cars v_tunes v_along v_near v_borne v_tempo v_seed v_fault v_from (v_at + 1) v_end (((10 * v_told) + ((g_cells (v_from + v_at).toNatClampNeg).toInt32)) - 48) v_wrongAt v_culprit v_ran v_isKept g_cells) := hD
    obtain ⟨x4_82, ex4_82⟩ : ∃ z : Int32, z = x4 + 1 := ⟨_, rfl⟩
    have h := h _ ex4_82
    refine lv_iinc (v := x4_82) (lv' := [(4, .int x4_82), (0, .ref a_o), (1, .int x1), (2, .int x2), (3, .int x3)]) hx hb dX10_number_82 hl (k := 4) rfl (by rw [ex4_82]; rfl) (by decide) rfl (fun ls hl => ?_)
    refine lv_goto (tgt := 29) hx hb dX10_number_85 (by decide) ?_
    exact ih _ _ _ _ _ _ h hP hD hS (lv_sub hl [1, 2, 3, 4, 0] rfl)
set_option maxHeartbeats 4000000 in
set_option maxRecDepth 100000 in
theorem w_X10_number_104 {l : Launch} {D : va_G} {cI cJ cS : ClassId} {ad adK : Nat → Nat} {a_o a_cells : Nat} {z_refused z_steps z_kind z_space z_other z_times z_speed z_base z_share z_notes z_pitch z_beats z_held z_sort z_size z_shown z_carried z_words z_tell z_was z_kept z_cutSpace z_cutTimes z_cutOff z_trace : Value} {v_stretches : Int32} {v_cars : Int32} {v_tunes : Int32} {v_along : Int32} {v_near : Int32} {v_borne : Int32} {v_tempo : Int32} {v_seed : Int32} {v_fault : Int32} {v_from : Int32} {v_at : Int32} {v_end : Int32} {v_told : Int32} {v_wrongAt : Int32} {v_culprit : Int32} {v_ran : Int32} {v_isKept : Int32} {g_cells : Nat → Int64} {x3 : Int32} {post : Int32 → Int32 → Int32 → Int32 → Prop} {p : Program} {e : Env} {s : State} {m : MethodId} {args : Array Value} {below : List Frame} {meth : Method} {c : Code} {A : Nat → Prop} (S : CallFix p m c cX10_number 5 s args GW "RoadThatSingsModel") (hE : EN D cI cJ cS s) (hT : ST ad adK A s s.heap) (hA : ∀ q : Nat, s.heap.size ≤ q → A q) (hr : meth.sig.returnType = (some (.boolean))) (hlocks : meth.locks = false) : ∀ (H : Heap) (locs : List Loc) (ls : Array Slot), F_X10_number_104 post x3 v_at v_told v_wrongAt → va_P D vwCl (wX10_number cI cJ cS a_o a_cells z_refused z_steps z_kind z_space z_other z_times z_speed z_base z_share z_notes z_pitch z_beats z_held z_sort z_size z_shown z_carried z_words z_tell z_was z_kept z_cutSpace z_cutTimes z_cutOff z_trace v_stretches v_cars v_tunes v_along v_near v_borne v_tempo v_seed v_fault v_from v_at v_end v_told v_wrongAt v_culprit v_ran v_isKept g_cells) H → va_D A (wX10_number cI cJ cS a_o a_cells z_refused z_steps z_kind z_space z_other z_times z_speed z_base z_share z_notes z_pitch z_beats z_held z_sort z_size z_shown z_carried z_words z_tell z_was z_kept z_cutSpace z_cutTimes z_cutOff z_trace v_stretches v_cars v_tunes v_along v_near v_borne v_tempo v_seed v_fault v_from v_at v_end v_told v_wrongAt v_culprit v_ran v_isKept g_cells) → va_S A s.heap H locs → lv_has ls 5 [(0, .ref a_o), (3, .int x3)] → W p l e (rmd 1 0 0) s m args below meth c H locs 0 0 (MQ below (va_Qi (fun r (u : Int32 × Int32 × Int32) => post r u.1 u.2.1 u.2.2) (fun u t => va_P D vwCl (wX10_number cI cJ cS a_o a_cells z_refused z_steps z_kind z_space z_other z_times z_speed z_base z_share z_notes z_pitch z_beats z_held z_sort z_size z_shown z_carried z_words z_tell z_was z_kept z_cutSpace z_cutTimes z_cutOff z_trace v_stretches v_cars v_tunes v_along v_near v_borne v_tempo v_seed v_fault v_from u.1 v_end u.2.1 u.2.2 v_culprit v_ran v_isKept g_cells) t.heap) A) args s 0 0 A) (F0 m 104 ls []) := by
  intro  H locs ls h hP hD hS hl
  unfold F_X10_number_104 at h
  have hx := S.1
  have hb := S.2.1
  refine lv_aload_n hx hb dX10_number_104 rfl (lv_at hl 0 rfl) ?_
  refine lv_iload_n hx hb dX10_number_105 rfl (lv_at hl 1 rfl) ?_
  refine rw_i (rwV S hE hT hS hP hD hA (c_X10_wrong h) [0] rfl (by decide) lkX10_193 rfl ⟨(Nat.le_of_ble_eq_true rfl), (Nat.le_of_ble_eq_true rfl)⟩ 0 rfl rfl hl.1 rfl (Nat.le_of_ble_eq_true rfl) dX10_number_106 ⟨(Nat.zero_le _), (Nat.zero_le _)⟩) hP hD hS hA [0] rfl (by decide) (fun _ => rfl) (fun r106 w106_0 H locs h hP hD hS => ?_)
  try dsimp only at h
  have hP : va_P D vwCl (wX10_number cI cJ cS a_o a_cells z_refused z_steps z_kind z_space z_other z_times z_speed z_base z_share z_notes z_pitch z_beats z_held z_sort z_size z_shown z_carried z_words z_tell z_was z_kept z_cutSpace z_cutTimes z_cutOff z_trace v_stretches v_cars v_tunes v_along v_near v_borne v_tempo v_seed v_fault v_from v_at v_end v_told w106_0 v_culprit v_ran v_isKept g_cells) H := hP
  have hD : va_D A (wX10_number cI cJ cS a_o a_cells z_refused z_steps z_kind z_space z_other z_times z_speed z_base z_share z_notes z_pitch z_beats z_held z_sort z_size z_shown z_carried z_words z_tell z_was z_kept z_cutSpace z_cutTimes z_cutOff z_trace v_stretches v_cars v_tunes v_along v_near v_borne v_tempo v_seed v_fault v_from v_at v_end v_told w106_0 v_culprit v_ran v_isKept g_cells) := hD
  refine lv_if_eq (tgt := 116) hx hb dX10_number_109 (by decide) (fun hc => ?_) (fun hc => ?_)
  · have h := h.1 hc
    refine lv_iconst (v := 0) hx hb dX10_number_116 (by decide) ?_
    exact W.zret hx hb hr rfl (fun t ht _ => ⟨⟨_, (v_at, v_told, w106_0), rfl, h, hPt hP ht⟩, hS.F ht⟩) hS.2.2 dX10_number_117
  have h := h.2 hc
  refine lv_iconst (v := 1) hx hb dX10_number_112 (by decide) ?_
  refine lv_goto (tgt := 117) hx hb dX10_number_113 (by decide) ?_
  exact W.zret hx hb hr rfl (fun t ht _ => ⟨⟨_, (v_at, v_told, w106_0), rfl, h, hPt hP ht⟩, hS.F ht⟩) hS.2.2 dX10_number_117
set_option maxHeartbeats 4000000 in
set_option maxRecDepth 100000 in
theorem w_X10_number_88 {l : Launch} {D : va_G} {cI cJ cS : ClassId} {ad adK : Nat → Nat} {a_o a_cells : Nat} {z_refused z_steps z_kind z_space z_other z_times z_speed z_base z_share z_notes z_pitch z_beats z_held z_sort z_size z_shown z_carried z_words z_tell z_was z_kept z_cutSpace z_cutTimes z_cutOff z_trace : Value} {v_stretches : Int32} {v_cars : Int32} {v_tunes : Int32} {v_along : Int32} {v_near : Int32} {v_borne : Int32} {v_tempo : Int32} {v_seed : Int32} {v_fault : Int32} {v_from : Int32} {v_at : Int32} {v_end : Int32} {v_told : Int32} {v_wrongAt : Int32} {v_culprit : Int32} {v_ran : Int32} {v_isKept : Int32} {g_cells : Nat → Int64} {x1 : Int32} {x2 : Int32} {x3 : Int32} {post : Int32 → Int32 → Int32 → Int32 → Prop} {p : Program} {e : Env} {s : State} {m : MethodId} {args : Array Value} {below : List Frame} {meth : Method} {c : Code} {A : Nat → Prop} (S : CallFix p m c cX10_number 5 s args GW "RoadThatSingsModel") (hE : EN D cI cJ cS s) (hT : ST ad adK A s s.heap) (hA : ∀ q : Nat, s.heap.size ≤ q → A q) (hr : meth.sig.returnType = (some (.boolean))) (hlocks : meth.locks = false) : ∀ (H : Heap) (locs : List Loc) (ls : Array Slot), F_X10_number_88 post x1 x2 x3 v_at v_told v_wrongAt → va_P D vwCl (wX10_number cI cJ cS a_o a_cells z_refused z_steps z_kind z_space z_other z_times z_speed z_base z_share z_notes z_pitch z_beats z_held z_sort z_size z_shown z_carried z_words z_tell z_was z_kept z_cutSpace z_cutTimes z_cutOff z_trace v_stretches v_cars v_tunes v_along v_near v_borne v_tempo v_seed v_fault v_from v_at v_end v_told v_wrongAt v_culprit v_ran v_isKept g_cells) H → va_D A (wX10_number cI cJ cS a_o a_cells z_refused z_steps z_kind z_space z_other z_times z_speed z_base z_share z_notes z_pitch z_beats z_held z_sort z_size z_shown z_carried z_words z_tell z_was z_kept z_cutSpace z_cutTimes z_cutOff z_trace v_stretches v_cars v_tunes v_along v_near v_borne v_tempo v_seed v_fault v_from v_at v_end v_told v_wrongAt v_culprit v_ran v_isKept g_cells) → va_S A s.heap H locs → lv_has ls 5 [(0, .ref a_o), (1, .int x1), (2, .int x2), (3, .int x3)] → W p l e (rmd 1 0 0) s m args below meth c H locs 0 0 (MQ below (va_Qi (fun r (u : Int32 × Int32 × Int32) => post r u.1 u.2.1 u.2.2) (fun u t => va_P D vwCl (wX10_number cI cJ cS a_o a_cells z_refused z_steps z_kind z_space z_other z_times z_speed z_base z_share z_notes z_pitch z_beats z_held z_sort z_size z_shown z_carried z_words z_tell z_was z_kept z_cutSpace z_cutTimes z_cutOff z_trace v_stretches v_cars v_tunes v_along v_near v_borne v_tempo v_seed v_fault v_from u.1 v_end u.2.1 u.2.2 v_culprit v_ran v_isKept g_cells) t.heap) A) args s 0 0 A) (F0 m 88 ls []) := by
  intro  H locs ls h hP hD hS hl
  unfold F_X10_number_88 at h
  have hx := S.1
  have hb := S.2.1
  refine lv_aload_n hx hb dX10_number_88 rfl (lv_at hl 0 rfl) ?_
  refine gf S hE hP 0 rfl rfl inX10 (k := 32) (by decide) q1125 rfl dX10_number_89 ?_
  refine lv_iload_n hx hb dX10_number_92 rfl (lv_at hl 1 rfl) ?_
  refine lv_icmp_lt (tgt := 104) hx hb dX10_number_93 (by decide) (fun hc => ?_) (fun hc => ?_)
  · have h := h.1 hc
    refine w_X10_number_104 S hE hT hA hr hlocks _ _ _ h hP hD hS (lv_sub hl [0, 3] rfl)
  have h := h.2 hc
  refine lv_aload_n hx hb dX10_number_96 rfl (lv_at hl 0 rfl) ?_
  refine gf S hE hP 0 rfl rfl inX10 (k := 32) (by decide) q1125 rfl dX10_number_97 ?_
  refine lv_iload_n hx hb dX10_number_100 rfl (lv_at hl 2 rfl) ?_
  refine lv_icmp_le (tgt := 112) hx hb dX10_number_101 (by decide) (fun hc => ?_) (fun hc => ?_)
  · have h := h.1 hc
    refine lv_iconst (v := 1) hx hb dX10_number_112 (by decide) ?_
    refine lv_goto (tgt := 117) hx hb dX10_number_113 (by decide) ?_
    exact W.zret hx hb hr rfl (fun t ht _ => ⟨⟨_, (v_at, v_told, v_wrongAt), rfl, h, hPt hP ht⟩, hS.F ht⟩) hS.2.2 dX10_number_117
  have h := h.2 hc
  refine w_X10_number_104 S hE hT hA hr hlocks _ _ _ h hP hD hS (lv_sub hl [0, 3] rfl)
set_option maxHeartbeats 4000000 in
set_option maxRecDepth 100000 in
theorem c_X10_number {l : Launch} {D : va_G} {cI cJ cS : ClassId} {ad adK : Nat → Nat} {a_o a_cells : Nat} {z_refused z_steps z_kind z_space z_other z_times z_speed z_base z_share z_notes z_pitch z_beats z_held z_sort z_size z_shown z_carried z_words z_tell z_was z_kept z_cutSpace z_cutTimes z_cutOff z_trace : Value} {v_stretches : Int32} {v_cars : Int32} {v_tunes : Int32} {v_along : Int32} {v_near : Int32} {v_borne : Int32} {v_tempo : Int32} {v_seed : Int32} {v_fault : Int32} {v_from : Int32} {v_at : Int32} {v_end : Int32} {v_told : Int32} {v_wrongAt : Int32} {v_culprit : Int32} {v_ran : Int32} {v_isKept : Int32} {g_cells : Nat → Int64} {x1 : Int32} {x2 : Int32} {post : Int32 → Int32 → Int32 → Int32 → Prop} (h : F_X10_number v_from v_at v_end v_told v_wrongAt g_cells x1 x2 post) {sz : Nat} : Met l yX10_number (Cond.code yX10_number cX10_number 5 (some (.boolean)) :: GW) (rmd 1 0 0) (PW D cI cJ cS ad adK [.ref a_o, .int x1, .int x2] (wX10_number cI cJ cS a_o a_cells z_refused z_steps z_kind z_space z_other z_times z_speed z_base z_share z_notes z_pitch z_beats z_held z_sort z_size z_shown z_carried z_words z_tell z_was z_kept z_cutSpace z_cutTimes z_cutOff z_trace v_stretches v_cars v_tunes v_along v_near v_borne v_tempo v_seed v_fault v_from v_at v_end v_told v_wrongAt v_culprit v_ran v_isKept g_cells) sz) (va_Qi (fun r (u : Int32 × Int32 × Int32) => post r u.1 u.2.1 u.2.2) (fun u t => va_P D vwCl (wX10_number cI cJ cS a_o a_cells z_refused z_steps z_kind z_space z_other z_times z_speed z_base z_share z_notes z_pitch z_beats z_held z_sort z_size z_shown z_carried z_words z_tell z_was z_kept z_cutSpace z_cutTimes z_cutOff z_trace v_stretches v_cars v_tunes v_along v_near v_borne v_tempo v_seed v_fault v_from u.1 v_end u.2.1 u.2.2 v_culprit v_ran v_isKept g_cells) t.heap) (va_A (wX10_number cI cJ cS a_o a_cells z_refused z_steps z_kind z_space z_other z_times z_speed z_base z_share z_notes z_pitch z_beats z_held z_sort z_size z_shown z_carried z_words z_tell z_was z_kept z_cutSpace z_cutTimes z_cutOff z_trace v_stretches v_cars v_tunes v_along v_near v_borne v_tempo v_seed v_fault v_from v_at v_end v_told v_wrongAt v_culprit v_ran v_isKept g_cells) sz)) 0 0 (va_A (wX10_number cI cJ cS a_o a_cells z_refused z_steps z_kind z_space z_other z_times z_speed z_base z_share z_notes z_pitch z_beats z_held z_sort z_size z_shown z_carried z_words z_tell z_was z_kept z_cutSpace z_cutTimes z_cutOff z_trace v_stretches v_cars v_tunes v_along v_near v_borne v_tempo v_seed v_fault v_from v_at v_end v_told v_wrongAt v_culprit v_ran v_isKept g_cells) sz) := by
  refine Met.rw (Qc := fun A => (va_Qi (fun r (u : Int32 × Int32 × Int32) => post r u.1 u.2.1 u.2.2) (fun u t => va_P D vwCl (wX10_number cI cJ cS a_o a_cells z_refused z_steps z_kind z_space z_other z_times z_speed z_base z_share z_notes z_pitch z_beats z_held z_sort z_size z_shown z_carried z_words z_tell z_was z_kept z_cutSpace z_cutTimes z_cutOff z_trace v_stretches v_cars v_tunes v_along v_near v_borne v_tempo v_seed v_fault v_from u.1 v_end u.2.1 u.2.2 v_culprit v_ran v_isKept g_cells) t.heap) A)) (by decide) (Nat.le_of_ble_eq_true rfl) (fun p e s m args below meth c ls A (S : CallFix p m c cX10_number 5 s args GW "RoadThatSingsModel") hE hT hP hD hA hS hr hlocks hname hl => ?_)
  have hS0 := hS
  have hx := S.1
  have hb := S.2.1
  have hl : lv_has ls 5 [(0, .ref a_o), (1, .int x1), (2, .int x2)] := hl
  unfold F_X10_number at h
  refine lv_aload_n hx hb dX10_number_0 rfl (lv_at hl 0 rfl) ?_
  refine gf S hE hP 0 rfl rfl inX10 (k := 30) (by decide) q1123 rfl dX10_number_1 ?_
  refine lv_istore_n (lv' := [(3, .int v_at), (0, .ref a_o), (1, .int x1), (2, .int x2)]) hx hb dX10_number_4 rfl hl (by decide) rfl (fun ls hl => ?_)
  refine lv_aload_n hx hb dX10_number_5 rfl (lv_at hl 1 rfl) ?_
  refine lv_iconst (v := 0) hx hb dX10_number_6 (by decide) ?_
  refine pf S hE hP hD hS 0 (k := 32) rfl rfl inX10 tyX10_ok nmX10 (by decide) q1125 rfl rfl rfl (Nat.le_of_ble_eq_true rfl) dX10_number_7 (fun H locs hP hD hS => ?_)
  have hP : va_P D vwCl (wX10_number cI cJ cS a_o a_cells z_refused z_steps z_kind z_space z_other z_times z_speed z_base z_share z_notes z_pitch z_beats z_held z_sort z_size z_shown z_carried z_words z_tell z_was z_kept z_cutSpace z_cutTimes z_cutOff z_trace v_stretches v_cars v_tunes v_along v_near v_borne v_tempo v_seed v_fault v_from v_at v_end 0 v_wrongAt v_culprit v_ran v_isKept g_cells) H := hP
  have hD : va_D A (wX10_number cI cJ cS a_o a_cells z_refused z_steps z_kind z_space z_other z_times z_speed z_base z_share z_notes z_pitch z_beats z_held z_sort z_size z_shown z_carried z_words z_tell z_was z_kept z_cutSpace z_cutTimes z_cutOff z_trace v_stretches v_cars v_tunes v_along v_near v_borne v_tempo v_seed v_fault v_from v_at v_end 0 v_wrongAt v_culprit v_ran v_isKept g_cells) := hD
  refine lv_aload_n hx hb dX10_number_10 rfl (lv_at hl 1 rfl) ?_
  refine ro_i (roV S hE hT hS (c_X10_isDigit h) lkX10_189 rfl ⟨(Nat.le_of_ble_eq_true rfl), (Nat.le_of_ble_eq_true rfl)⟩ (hP.sub [0, 1] rfl) 0 rfl rfl hl.1 rfl (Nat.le_of_ble_eq_true rfl) dX10_number_11 ⟨(Nat.zero_le _), (Nat.zero_le _)⟩) (fun r11 h => ?_)
  refine lv_if_ne (tgt := 26) hx hb dX10_number_14 (by decide) (fun hc => ?_) (fun hc => ?_)
  · have h := h.2 hc
    refine lv_iconst (v := 0) hx hb dX10_number_26 (by decide) ?_
    refine lv_istore (lv' := [(4, .int 0), (3, .int v_at), (0, .ref a_o), (1, .int x1), (2, .int x2)]) hx hb dX10_number_27 hl (by decide) rfl (fun ls hl => ?_)
    obtain ⟨n, h⟩ := h
    refine w_X10_number_29 S hE hT hA hr hlocks (fun v_at_1 v_told_2 H locs ls h hP hD hS hl => ?_) n _ _ _ _ _ _ h hP hD hS (lv_sub hl [2, 3, 4, 1, 0] rfl)
    refine w_X10_number_88 S hE hT hA hr hlocks _ _ _ h hP hD hS (lv_sub hl [0, 1, 2, 3] rfl)
  have h := h.1 hc
  refine lv_aload_n hx hb dX10_number_17 rfl (lv_at hl 1 rfl) ?_
  refine lv_aload_n hx hb dX10_number_18 rfl (lv_at hl 1 rfl) ?_
  refine gf S hE hP 0 rfl rfl inX10 (k := 30) (by decide) q1123 rfl dX10_number_19 ?_
  refine rw_i (rwV S hE hT hS hP hD hA (c_X10_wrong h) [0] rfl (by decide) lkX10_193 rfl ⟨(Nat.le_of_ble_eq_true rfl), (Nat.le_of_ble_eq_true rfl)⟩ 0 rfl rfl hl.1 rfl (Nat.le_of_ble_eq_true rfl) dX10_number_22 ⟨(Nat.zero_le _), (Nat.zero_le _)⟩) hP hD hS hA [0] rfl (by decide) (fun _ => rfl) (fun r22 w22_0 H locs h hP hD hS => ?_)
  try dsimp only at h
  have hP : va_P D vwCl (wX10_number cI cJ cS a_o a_cells z_refused z_steps z_kind z_space z_other z_times z_speed z_base z_share z_notes z_pitch z_beats z_held z_sort z_size z_shown z_carried z_words z_tell z_was z_kept z_cutSpace z_cutTimes z_cutOff z_trace v_stretches v_cars v_tunes v_along v_near v_borne v_tempo v_seed v_fault v_from v_at v_end 0 w22_0 v_culprit v_ran v_isKept g_cells) H := hP
  have hD : va_D A (wX10_number cI cJ cS a_o a_cells z_refused z_steps z_kind z_space z_other z_times z_speed z_base z_share z_notes z_pitch z_beats z_held z_sort z_size z_shown z_carried z_words z_tell z_was z_kept z_cutSpace z_cutTimes z_cutOff z_trace v_stretches v_cars v_tunes v_along v_near v_borne v_tempo v_seed v_fault v_from v_at v_end 0 w22_0 v_culprit v_ran v_isKept g_cells) := hD
  exact W.zret hx hb hr h.1 (fun t ht _ => ⟨⟨_, (v_at, 0, w22_0), rfl, h.2, hPt hP ht⟩, hS.F ht⟩) hS.2.2 dX10_number_25
/-! X10_many -/
abbrev wX10_many (cI cJ cS : ClassId) (a_o : Nat) (z_refused z_steps z_kind z_space z_other z_times z_speed z_base z_share z_notes z_pitch z_beats z_held z_sort z_size z_shown z_cells z_carried z_words z_tell z_was z_kept z_cutSpace z_cutTimes z_cutOff z_trace : Value) (v_stretches : Int32) (v_cars : Int32) (v_tunes : Int32) (v_along : Int32) (v_near : Int32) (v_borne : Int32) (v_tempo : Int32) (v_seed : Int32) (v_fault : Int32) (v_from : Int32) (v_at : Int32) (v_end : Int32) (v_told : Int32) (v_wrongAt : Int32) (v_culprit : Int32) (v_ran : Int32) (v_isKept : Int32) : va_W := [(a_o, .inr (9, [.int v_stretches, .int v_cars, .int v_tunes, .int v_along, .int v_near, .int v_borne, .int v_tempo, .int v_seed, .int v_fault, z_refused, z_steps, z_kind, z_space, z_other, z_times, z_speed, z_base, z_share, z_notes, z_pitch, z_beats, z_held, z_sort, z_size, z_shown, z_cells, z_carried, z_words, z_tell, .int v_from, .int v_at, .int v_end, .int v_told, .int v_wrongAt, z_was, z_kept, .int v_culprit, z_cutSpace, z_cutTimes, z_cutOff, z_trace, .int v_ran, .int v_isKept]))]
def F_X10_many (x1 : Int32) (post : Int32 → Prop) : Prop := ((x1 = 0 → post 2) ∧ (¬ x1 = 0 → ((x1 = 2 → post 2) ∧ (¬ x1 = 2 → ((x1 = 3 → post 2) ∧ (¬ x1 = 3 → ((x1 = 8 → post 2) ∧ (¬ x1 = 8 → ((7 ≤ x1 → ((x1 = 7 → post 0) ∧ (¬ x1 = 7 → post 1))) ∧ (¬ 7 ≤ x1 → post 3))))))))))
set_option maxHeartbeats 4000000 in
set_option maxRecDepth 100000 in
theorem c_X10_many {l : Launch} {D : va_G} {cI cJ cS : ClassId} {ad adK : Nat → Nat} {a_o : Nat} {z_refused z_steps z_kind z_space z_other z_times z_speed z_base z_share z_notes z_pitch z_beats z_held z_sort z_size z_shown z_cells z_carried z_words z_tell z_was z_kept z_cutSpace z_cutTimes z_cutOff z_trace : Value} {v_stretches : Int32} {v_cars : Int32} {v_tunes : Int32} {v_along : Int32} {v_near : Int32} {v_borne : Int32} {v_tempo : Int32} {v_seed : Int32} {v_fault : Int32} {v_from : Int32} {v_at : Int32} {v_end : Int32} {v_told : Int32} {v_wrongAt : Int32} {v_culprit : Int32} {v_ran : Int32} {v_isKept : Int32} {x1 : Int32} {post : Int32 → Prop} (h : F_X10_many x1 post) : Met l yX10_many (Cond.code yX10_many cX10_many 2 (some (.int)) :: GW) (rmd 0 0 0) (PR D cI cJ cS ad adK [.ref a_o, .int x1] (wX10_many cI cJ cS a_o z_refused z_steps z_kind z_space z_other z_times z_speed z_base z_share z_notes z_pitch z_beats z_held z_sort z_size z_shown z_cells z_carried z_words z_tell z_was z_kept z_cutSpace z_cutTimes z_cutOff z_trace v_stretches v_cars v_tunes v_along v_near v_borne v_tempo v_seed v_fault v_from v_at v_end v_told v_wrongAt v_culprit v_ran v_isKept)) (vp_Si post) 0 0 nof := by
  refine Met.ro (by decide) (Nat.le_of_ble_eq_true rfl) (fun p e s m args below meth c ls (S : CallFix p m c cX10_many 2 s args GW "RoadThatSingsModel") hE hT hP hS hr hlocks hl => ?_)
  have hx := S.1
  have hb := S.2.1
  have hl : lv_has ls 2 [(0, .ref a_o), (1, .int x1)] := hl
  unfold F_X10_many at h
  refine lv_iload_n hx hb dX10_many_0 rfl (lv_at hl 1 rfl) ?_
  refine lv_if_eq (tgt := 20) hx hb dX10_many_1 (by decide) (fun hc => ?_) (fun hc => ?_)
  · have h := h.1 hc
    refine lv_iconst (v := 2) hx hb dX10_many_20 (by decide) ?_
    refine lv_goto (tgt := 45) hx hb dX10_many_21 (by decide) ?_
    exact W.iret hx hb hr (fun t ht _ => ⟨_, rfl, h, ht⟩) (fun _ hq => by cases hq) dX10_many_45
  have h := h.2 hc
  refine lv_iload_n hx hb dX10_many_4 rfl (lv_at hl 1 rfl) ?_
  refine lv_iconst (v := 2) hx hb dX10_many_5 (by decide) ?_
  refine lv_icmp_eq (tgt := 20) hx hb dX10_many_6 (by decide) (fun hc => ?_) (fun hc => ?_)
  · have h := h.1 hc
    refine lv_iconst (v := 2) hx hb dX10_many_20 (by decide) ?_
    refine lv_goto (tgt := 45) hx hb dX10_many_21 (by decide) ?_
    exact W.iret hx hb hr (fun t ht _ => ⟨_, rfl, h, ht⟩) (fun _ hq => by cases hq) dX10_many_45
  have h := h.2 hc
  refine lv_iload_n hx hb dX10_many_9 rfl (lv_at hl 1 rfl) ?_
  refine lv_iconst (v := 3) hx hb dX10_many_10 (by decide) ?_
  refine lv_icmp_eq (tgt := 20) hx hb dX10_many_11 (by decide) (fun hc => ?_) (fun hc => ?_)
  · have h := h.1 hc
    refine lv_iconst (v := 2) hx hb dX10_many_20 (by decide) ?_
    refine lv_goto (tgt := 45) hx hb dX10_many_21 (by decide) ?_
    exact W.iret hx hb hr (fun t ht _ => ⟨_, rfl, h, ht⟩) (fun _ hq => by cases hq) dX10_many_45
  have h := h.2 hc
  refine lv_iload_n hx hb dX10_many_14 rfl (lv_at hl 1 rfl) ?_
  refine lv_bipush (v := 8) hx hb dX10_many_15 (by decide) ?_
  refine lv_icmp_ne (tgt := 24) hx hb dX10_many_17 (by decide) (fun hc => ?_) (fun hc => ?_)
  · have h := h.2 hc
    refine lv_iload_n hx hb dX10_many_24 rfl (lv_at hl 1 rfl) ?_
    refine lv_bipush (v := 7) hx hb dX10_many_25 (by decide) ?_
    refine lv_icmp_ge (tgt := 34) hx hb dX10_many_27 (by decide) (fun hc => ?_) (fun hc => ?_)
    · have h := h.1 hc
      refine lv_iload_n hx hb dX10_many_34 rfl (lv_at hl 1 rfl) ?_
      refine lv_bipush (v := 7) hx hb dX10_many_35 (by decide) ?_
      refine lv_icmp_ne (tgt := 44) hx hb dX10_many_37 (by decide) (fun hc => ?_) (fun hc => ?_)
      · have h := h.2 hc
        refine lv_iconst (v := 1) hx hb dX10_many_44 (by decide) ?_
        exact W.iret hx hb hr (fun t ht _ => ⟨_, rfl, h, ht⟩) (fun _ hq => by cases hq) dX10_many_45
      have h := h.1 hc
      refine lv_iconst (v := 0) hx hb dX10_many_40 (by decide) ?_
      refine lv_goto (tgt := 45) hx hb dX10_many_41 (by decide) ?_
      exact W.iret hx hb hr (fun t ht _ => ⟨_, rfl, h, ht⟩) (fun _ hq => by cases hq) dX10_many_45
    have h := h.2 hc
    refine lv_iconst (v := 3) hx hb dX10_many_30 (by decide) ?_
    refine lv_goto (tgt := 45) hx hb dX10_many_31 (by decide) ?_
    exact W.iret hx hb hr (fun t ht _ => ⟨_, rfl, h, ht⟩) (fun _ hq => by cases hq) dX10_many_45
  have h := h.1 hc
  refine lv_iconst (v := 2) hx hb dX10_many_20 (by decide) ?_
  refine lv_goto (tgt := 45) hx hb dX10_many_21 (by decide) ?_
  exact W.iret hx hb hr (fun t ht _ => ⟨_, rfl, h, ht⟩) (fun _ hq => by cases hq) dX10_many_45
/-! X10_low -/
abbrev wX10_low (cI cJ cS : ClassId) (a_o : Nat) (z_refused z_steps z_kind z_space z_other z_times z_speed z_base z_share z_notes z_pitch z_beats z_held z_sort z_size z_shown z_cells z_carried z_words z_tell z_was z_kept z_cutSpace z_cutTimes z_cutOff z_trace : Value) (v_stretches : Int32) (v_cars : Int32) (v_tunes : Int32) (v_along : Int32) (v_near : Int32) (v_borne : Int32) (v_tempo : Int32) (v_seed : Int32) (v_fault : Int32) (v_from : Int32) (v_at : Int32) (v_end : Int32) (v_told : Int32) (v_wrongAt : Int32) (v_culprit : Int32) (v_ran : Int32) (v_isKept : Int32) : va_W := [(a_o, .inr (9, [.int v_stretches, .int v_cars, .int v_tunes, .int v_along, .int v_near, .int v_borne, .int v_tempo, .int v_seed, .int v_fault, z_refused, z_steps, z_kind, z_space, z_other, z_times, z_speed, z_base, z_share, z_notes, z_pitch, z_beats, z_held, z_sort, z_size, z_shown, z_cells, z_carried, z_words, z_tell, .int v_from, .int v_at, .int v_end, .int v_told, .int v_wrongAt, z_was, z_kept, .int v_culprit, z_cutSpace, z_cutTimes, z_cutOff, z_trace, .int v_ran, .int v_isKept]))]
def F_X10_low (x1 : Int32) (x2 : Int32) (post : Int32 → Prop) : Prop := ((6 ≤ x1 → ((x1 = 6 → ((x2 = 0 → post 1) ∧ (¬ x2 = 0 → post 0))) ∧ (¬ x1 = 6 → ((x1 = 8 → post x2) ∧ (¬ x1 = 8 → ((x1 = 9 → post 1) ∧ (¬ x1 = 9 → ((x1 = 10 → post 2) ∧ (¬ x1 = 10 → ((x1 = 12 → post 50) ∧ (¬ x1 = 12 → post 0))))))))))) ∧ (¬ 6 ≤ x1 → (F_X10_many x1 (fun r8 => ((r8 = 3 → ((x2 = 1 → post 0) ∧ (¬ x2 = 1 → post 1))) ∧ (¬ r8 = 3 → post 1))))))
set_option maxHeartbeats 4000000 in
set_option maxRecDepth 100000 in
theorem c_X10_low {l : Launch} {D : va_G} {cI cJ cS : ClassId} {ad adK : Nat → Nat} {a_o : Nat} {z_refused z_steps z_kind z_space z_other z_times z_speed z_base z_share z_notes z_pitch z_beats z_held z_sort z_size z_shown z_cells z_carried z_words z_tell z_was z_kept z_cutSpace z_cutTimes z_cutOff z_trace : Value} {v_stretches : Int32} {v_cars : Int32} {v_tunes : Int32} {v_along : Int32} {v_near : Int32} {v_borne : Int32} {v_tempo : Int32} {v_seed : Int32} {v_fault : Int32} {v_from : Int32} {v_at : Int32} {v_end : Int32} {v_told : Int32} {v_wrongAt : Int32} {v_culprit : Int32} {v_ran : Int32} {v_isKept : Int32} {x1 : Int32} {x2 : Int32} {post : Int32 → Prop} (h : F_X10_low x1 x2 post) : Met l yX10_low (Cond.code yX10_low cX10_low 3 (some (.int)) :: GW) (rmd 1 0 0) (PR D cI cJ cS ad adK [.ref a_o, .int x1, .int x2] (wX10_low cI cJ cS a_o z_refused z_steps z_kind z_space z_other z_times z_speed z_base z_share z_notes z_pitch z_beats z_held z_sort z_size z_shown z_cells z_carried z_words z_tell z_was z_kept z_cutSpace z_cutTimes z_cutOff z_trace v_stretches v_cars v_tunes v_along v_near v_borne v_tempo v_seed v_fault v_from v_at v_end v_told v_wrongAt v_culprit v_ran v_isKept)) (vp_Si post) 0 0 nof := by
  refine Met.ro (by decide) (Nat.le_of_ble_eq_true rfl) (fun p e s m args below meth c ls (S : CallFix p m c cX10_low 3 s args GW "RoadThatSingsModel") hE hT hP hS hr hlocks hl => ?_)
  have hx := S.1
  have hb := S.2.1
  have hl : lv_has ls 3 [(0, .ref a_o), (1, .int x1), (2, .int x2)] := hl
  unfold F_X10_low at h
  refine lv_iload_n hx hb dX10_low_0 rfl (lv_at hl 1 rfl) ?_
  refine lv_bipush (v := 6) hx hb dX10_low_1 (by decide) ?_
  refine lv_icmp_ge (tgt := 26) hx hb dX10_low_3 (by decide) (fun hc => ?_) (fun hc => ?_)
  · have h := h.1 hc
    refine lv_iload_n hx hb dX10_low_26 rfl (lv_at hl 1 rfl) ?_
    refine lv_bipush (v := 6) hx hb dX10_low_27 (by decide) ?_
    refine lv_icmp_ne (tgt := 42) hx hb dX10_low_29 (by decide) (fun hc => ?_) (fun hc => ?_)
    · have h := h.2 hc
      refine lv_iload_n hx hb dX10_low_42 rfl (lv_at hl 1 rfl) ?_
      refine lv_bipush (v := 8) hx hb dX10_low_43 (by decide) ?_
      refine lv_icmp_ne (tgt := 52) hx hb dX10_low_45 (by decide) (fun hc => ?_) (fun hc => ?_)
      · have h := h.2 hc
        refine lv_iload_n hx hb dX10_low_52 rfl (lv_at hl 1 rfl) ?_
        refine lv_bipush (v := 9) hx hb dX10_low_53 (by decide) ?_
        refine lv_icmp_ne (tgt := 62) hx hb dX10_low_55 (by decide) (fun hc => ?_) (fun hc => ?_)
        · have h := h.2 hc
          refine lv_iload_n hx hb dX10_low_62 rfl (lv_at hl 1 rfl) ?_
          refine lv_bipush (v := 10) hx hb dX10_low_63 (by decide) ?_
          refine lv_icmp_ne (tgt := 72) hx hb dX10_low_65 (by decide) (fun hc => ?_) (fun hc => ?_)
          · have h := h.2 hc
            refine lv_iload_n hx hb dX10_low_72 rfl (lv_at hl 1 rfl) ?_
            refine lv_bipush (v := 12) hx hb dX10_low_73 (by decide) ?_
            refine lv_icmp_ne (tgt := 83) hx hb dX10_low_75 (by decide) (fun hc => ?_) (fun hc => ?_)
            · have h := h.2 hc
              refine lv_iconst (v := 0) hx hb dX10_low_83 (by decide) ?_
              exact W.iret hx hb hr (fun t ht _ => ⟨_, rfl, h, ht⟩) (fun _ hq => by cases hq) dX10_low_84
            have h := h.1 hc
            refine lv_bipush (v := 50) hx hb dX10_low_78 (by decide) ?_
            refine lv_goto (tgt := 84) hx hb dX10_low_80 (by decide) ?_
            exact W.iret hx hb hr (fun t ht _ => ⟨_, rfl, h, ht⟩) (fun _ hq => by cases hq) dX10_low_84
          have h := h.1 hc
          refine lv_iconst (v := 2) hx hb dX10_low_68 (by decide) ?_
          refine lv_goto (tgt := 84) hx hb dX10_low_69 (by decide) ?_
          exact W.iret hx hb hr (fun t ht _ => ⟨_, rfl, h, ht⟩) (fun _ hq => by cases hq) dX10_low_84
        have h := h.1 hc
        refine lv_iconst (v := 1) hx hb dX10_low_58 (by decide) ?_
        refine lv_goto (tgt := 84) hx hb dX10_low_59 (by decide) ?_
        exact W.iret hx hb hr (fun t ht _ => ⟨_, rfl, h, ht⟩) (fun _ hq => by cases hq) dX10_low_84
      have h := h.1 hc
      refine lv_iload_n hx hb dX10_low_48 rfl (lv_at hl 2 rfl) ?_
      refine lv_goto (tgt := 84) hx hb dX10_low_49 (by decide) ?_
      exact W.iret hx hb hr (fun t ht _ => ⟨_, rfl, h, ht⟩) (fun _ hq => by cases hq) dX10_low_84
    have h := h.1 hc
    refine lv_iload_n hx hb dX10_low_32 rfl (lv_at hl 2 rfl) ?_
    refine lv_if_ne (tgt := 40) hx hb dX10_low_33 (by decide) (fun hc => ?_) (fun hc => ?_)
    · have h := h.2 hc
      refine lv_iconst (v := 0) hx hb dX10_low_40 (by decide) ?_
      exact W.iret hx hb hr (fun t ht _ => ⟨_, rfl, h, ht⟩) (fun _ hq => by cases hq) dX10_low_41
    have h := h.1 hc
    refine lv_iconst (v := 1) hx hb dX10_low_36 (by decide) ?_
    refine lv_goto (tgt := 41) hx hb dX10_low_37 (by decide) ?_
    exact W.iret hx hb hr (fun t ht _ => ⟨_, rfl, h, ht⟩) (fun _ hq => by cases hq) dX10_low_41
  have h := h.2 hc
  refine lv_aload_n hx hb dX10_low_6 rfl (lv_at hl 0 rfl) ?_
  refine lv_iload_n hx hb dX10_low_7 rfl (lv_at hl 1 rfl) ?_
  refine ro_i (roV S hE hT hS (c_X10_many h) lkX10_196 rfl ⟨(Nat.le_of_ble_eq_true rfl), (Nat.le_of_ble_eq_true rfl)⟩ (hP.sub [0] rfl) 0 rfl rfl hl.1 rfl (Nat.le_of_ble_eq_true rfl) dX10_low_8 ⟨(Nat.zero_le _), (Nat.zero_le _)⟩) (fun r8 h => ?_)
  refine lv_iconst (v := 3) hx hb dX10_low_11 (by decide) ?_
  refine lv_icmp_ne (tgt := 24) hx hb dX10_low_12 (by decide) (fun hc => ?_) (fun hc => ?_)
  · have h := h.2 hc
    refine lv_iconst (v := 1) hx hb dX10_low_24 (by decide) ?_
    exact W.iret hx hb hr (fun t ht _ => ⟨_, rfl, h, ht⟩) (fun _ hq => by cases hq) dX10_low_25
  have h := h.1 hc
  refine lv_iload_n hx hb dX10_low_15 rfl (lv_at hl 2 rfl) ?_
  refine lv_iconst (v := 1) hx hb dX10_low_16 (by decide) ?_
  refine lv_icmp_ne (tgt := 24) hx hb dX10_low_17 (by decide) (fun hc => ?_) (fun hc => ?_)
  · have h := h.2 hc
    refine lv_iconst (v := 1) hx hb dX10_low_24 (by decide) ?_
    exact W.iret hx hb hr (fun t ht _ => ⟨_, rfl, h, ht⟩) (fun _ hq => by cases hq) dX10_low_25
  have h := h.1 hc
  refine lv_iconst (v := 0) hx hb dX10_low_20 (by decide) ?_
  refine lv_goto (tgt := 25) hx hb dX10_low_21 (by decide) ?_
  exact W.iret hx hb hr (fun t ht _ => ⟨_, rfl, h, ht⟩) (fun _ hq => by cases hq) dX10_low_25
/-! X10_high -/
abbrev wX10_high (cI cJ cS : ClassId) (a_o a_share : Nat) (z_refused z_steps z_kind z_space z_other z_times z_speed z_base z_notes z_pitch z_beats z_held z_sort z_size z_shown z_cells z_carried z_words z_tell z_was z_kept z_cutSpace z_cutTimes z_cutOff z_trace : Value) (v_stretches : Int32) (v_cars : Int32) (v_tunes : Int32) (v_along : Int32) (v_near : Int32) (v_borne : Int32) (v_tempo : Int32) (v_seed : Int32) (v_fault : Int32) (v_from : Int32) (v_at : Int32) (v_end : Int32) (v_told : Int32) (v_wrongAt : Int32) (v_culprit : Int32) (v_ran : Int32) (v_isKept : Int32) (f_share : Nat → Int32) : va_W := [(a_o, .inr (9, [.int v_stretches, .int v_cars, .int v_tunes, .int v_along, .int v_near, .int v_borne, .int v_tempo, .int v_seed, .int v_fault, z_refused, z_steps, z_kind, z_space, z_other, z_times, z_speed, z_base, .ref a_share, z_notes, z_pitch, z_beats, z_held, z_sort, z_size, z_shown, z_cells, z_carried, z_words, z_tell, .int v_from, .int v_at, .int v_end, .int v_told, .int v_wrongAt, z_was, z_kept, .int v_culprit, z_cutSpace, z_cutTimes, z_cutOff, z_trace, .int v_ran, .int v_isKept])), (a_share, .inl (cI, 6, .inl f_share))]
def F_X10_high (v_cars : Int32) (f_share : Nat → Int32) (x1 : Int32) (x2 : Int32) (post : Int32 → Prop) : Prop := ((6 ≤ x1 → ((x1 = 6 → ((x2 = 0 → post 99) ∧ (¬ x2 = 0 → ((x2 = 1 → post 999) ∧ (¬ x2 = 1 → (F_X10_shares v_cars f_share (fun r38 => post (100 - r38)))))))) ∧ (¬ x1 = 6 → ((x1 = 8 → ((x2 = 0 → post 9999) ∧ (¬ x2 = 0 → post 16))) ∧ (¬ x1 = 8 → ((x1 = 9 → post 9999) ∧ (¬ x1 = 9 → ((x1 = 10 → post 30) ∧ (¬ x1 = 10 → ((x1 = 11 → post 500) ∧ (¬ x1 = 11 → post 2000))))))))))) ∧ (¬ 6 ≤ x1 → post 60))
set_option maxHeartbeats 4000000 in
set_option maxRecDepth 100000 in
theorem c_X10_high {l : Launch} {D : va_G} {cI cJ cS : ClassId} {ad adK : Nat → Nat} {a_o a_share : Nat} {z_refused z_steps z_kind z_space z_other z_times z_speed z_base z_notes z_pitch z_beats z_held z_sort z_size z_shown z_cells z_carried z_words z_tell z_was z_kept z_cutSpace z_cutTimes z_cutOff z_trace : Value} {v_stretches : Int32} {v_cars : Int32} {v_tunes : Int32} {v_along : Int32} {v_near : Int32} {v_borne : Int32} {v_tempo : Int32} {v_seed : Int32} {v_fault : Int32} {v_from : Int32} {v_at : Int32} {v_end : Int32} {v_told : Int32} {v_wrongAt : Int32} {v_culprit : Int32} {v_ran : Int32} {v_isKept : Int32} {f_share : Nat → Int32} {x1 : Int32} {x2 : Int32} {post : Int32 → Prop} (h : F_X10_high v_cars f_share x1 x2 post) : Met l yX10_high (Cond.code yX10_high cX10_high 3 (some (.int)) :: GW) (rmd 1 0 0) (PR D cI cJ cS ad adK [.ref a_o, .int x1, .int x2] (wX10_high cI cJ cS a_o a_share z_refused z_steps z_kind z_space z_other z_times z_speed z_base z_notes z_pitch z_beats z_held z_sort z_size z_shown z_cells z_carried z_words z_tell z_was z_kept z_cutSpace z_cutTimes z_cutOff z_trace v_stretches v_cars v_tunes v_along v_near v_borne v_tempo v_seed v_fault v_from v_at v_end v_told v_wrongAt v_culprit v_ran v_isKept f_share)) (vp_Si post) 0 0 nof := by
  refine Met.ro (by decide) (Nat.le_of_ble_eq_true rfl) (fun p e s m args below meth c ls (S : CallFix p m c cX10_high 3 s args GW "RoadThatSingsModel") hE hT hP hS hr hlocks hl => ?_)
  have hx := S.1
  have hb := S.2.1
  have hl : lv_has ls 3 [(0, .ref a_o), (1, .int x1), (2, .int x2)] := hl
  unfold F_X10_high at h
  refine lv_iload_n hx hb dX10_high_0 rfl (lv_at hl 1 rfl) ?_
  refine lv_bipush (v := 6) hx hb dX10_high_1 (by decide) ?_
  refine lv_icmp_ge (tgt := 9) hx hb dX10_high_3 (by decide) (fun hc => ?_) (fun hc => ?_)
  · have h := h.1 hc
    refine lv_iload_n hx hb dX10_high_9 rfl (lv_at hl 1 rfl) ?_
    refine lv_bipush (v := 6) hx hb dX10_high_10 (by decide) ?_
    refine lv_icmp_ne (tgt := 43) hx hb dX10_high_12 (by decide) (fun hc => ?_) (fun hc => ?_)
    · have h := h.2 hc
      refine lv_iload_n hx hb dX10_high_43 rfl (lv_at hl 1 rfl) ?_
      refine lv_bipush (v := 8) hx hb dX10_high_44 (by decide) ?_
      refine lv_icmp_ne (tgt := 62) hx hb dX10_high_46 (by decide) (fun hc => ?_) (fun hc => ?_)
      · have h := h.2 hc
        refine lv_iload_n hx hb dX10_high_62 rfl (lv_at hl 1 rfl) ?_
        refine lv_bipush (v := 9) hx hb dX10_high_63 (by decide) ?_
        refine lv_icmp_ne (tgt := 74) hx hb dX10_high_65 (by decide) (fun hc => ?_) (fun hc => ?_)
        · have h := h.2 hc
          refine lv_iload_n hx hb dX10_high_74 rfl (lv_at hl 1 rfl) ?_
          refine lv_bipush (v := 10) hx hb dX10_high_75 (by decide) ?_
          refine lv_icmp_ne (tgt := 85) hx hb dX10_high_77 (by decide) (fun hc => ?_) (fun hc => ?_)
          · have h := h.2 hc
            refine lv_iload_n hx hb dX10_high_85 rfl (lv_at hl 1 rfl) ?_
            refine lv_bipush (v := 11) hx hb dX10_high_86 (by decide) ?_
            refine lv_icmp_ne (tgt := 97) hx hb dX10_high_88 (by decide) (fun hc => ?_) (fun hc => ?_)
            · have h := h.2 hc
              refine lv_sipush (v := 2000) hx hb dX10_high_97 (by decide) ?_
              exact W.iret hx hb hr (fun t ht _ => ⟨_, rfl, h, ht⟩) (fun _ hq => by cases hq) dX10_high_100
            have h := h.1 hc
            refine lv_sipush (v := 500) hx hb dX10_high_91 (by decide) ?_
            refine lv_goto (tgt := 100) hx hb dX10_high_94 (by decide) ?_
            exact W.iret hx hb hr (fun t ht _ => ⟨_, rfl, h, ht⟩) (fun _ hq => by cases hq) dX10_high_100
          have h := h.1 hc
          refine lv_bipush (v := 30) hx hb dX10_high_80 (by decide) ?_
          refine lv_goto (tgt := 100) hx hb dX10_high_82 (by decide) ?_
          exact W.iret hx hb hr (fun t ht _ => ⟨_, rfl, h, ht⟩) (fun _ hq => by cases hq) dX10_high_100
        have h := h.1 hc
        refine lv_sipush (v := 9999) hx hb dX10_high_68 (by decide) ?_
        refine lv_goto (tgt := 100) hx hb dX10_high_71 (by decide) ?_
        exact W.iret hx hb hr (fun t ht _ => ⟨_, rfl, h, ht⟩) (fun _ hq => by cases hq) dX10_high_100
      have h := h.1 hc
      refine lv_iload_n hx hb dX10_high_49 rfl (lv_at hl 2 rfl) ?_
      refine lv_if_ne (tgt := 59) hx hb dX10_high_50 (by decide) (fun hc => ?_) (fun hc => ?_)
      · have h := h.2 hc
        refine lv_bipush (v := 16) hx hb dX10_high_59 (by decide) ?_
        exact W.iret hx hb hr (fun t ht _ => ⟨_, rfl, h, ht⟩) (fun _ hq => by cases hq) dX10_high_61
      have h := h.1 hc
      refine lv_sipush (v := 9999) hx hb dX10_high_53 (by decide) ?_
      refine lv_goto (tgt := 61) hx hb dX10_high_56 (by decide) ?_
      exact W.iret hx hb hr (fun t ht _ => ⟨_, rfl, h, ht⟩) (fun _ hq => by cases hq) dX10_high_61
    have h := h.1 hc
    refine lv_iload_n hx hb dX10_high_15 rfl (lv_at hl 2 rfl) ?_
    refine lv_if_ne (tgt := 24) hx hb dX10_high_16 (by decide) (fun hc => ?_) (fun hc => ?_)
    · have h := h.2 hc
      refine lv_iload_n hx hb dX10_high_24 rfl (lv_at hl 2 rfl) ?_
      refine lv_iconst (v := 1) hx hb dX10_high_25 (by decide) ?_
      refine lv_icmp_ne (tgt := 35) hx hb dX10_high_26 (by decide) (fun hc => ?_) (fun hc => ?_)
      · have h := h.2 hc
        refine lv_bipush (v := 100) hx hb dX10_high_35 (by decide) ?_
        refine lv_aload_n hx hb dX10_high_37 rfl (lv_at hl 0 rfl) ?_
        refine ro_i (roV S hE hT hS (c_X10_shares h) lkX10_158 rfl ⟨(Nat.le_of_ble_eq_true rfl), (Nat.le_of_ble_eq_true rfl)⟩ (hP.sub [0, 1] rfl) 0 rfl rfl hl.1 rfl (Nat.le_of_ble_eq_true rfl) dX10_high_38 ⟨(Nat.zero_le _), (Nat.zero_le _)⟩) (fun r38 h => ?_)
        refine lv_isub hx hb dX10_high_41 ?_
        exact W.iret hx hb hr (fun t ht _ => ⟨_, rfl, h, ht⟩) (fun _ hq => by cases hq) dX10_high_42
      have h := h.1 hc
      refine lv_sipush (v := 999) hx hb dX10_high_29 (by decide) ?_
      refine lv_goto (tgt := 42) hx hb dX10_high_32 (by decide) ?_
      exact W.iret hx hb hr (fun t ht _ => ⟨_, rfl, h, ht⟩) (fun _ hq => by cases hq) dX10_high_42
    have h := h.1 hc
    refine lv_bipush (v := 99) hx hb dX10_high_19 (by decide) ?_
    refine lv_goto (tgt := 42) hx hb dX10_high_21 (by decide) ?_
    exact W.iret hx hb hr (fun t ht _ => ⟨_, rfl, h, ht⟩) (fun _ hq => by cases hq) dX10_high_42
  have h := h.2 hc
  refine lv_bipush (v := 60) hx hb dX10_high_6 (by decide) ?_
  exact W.iret hx hb hr (fun t ht _ => ⟨_, rfl, h, ht⟩) (fun _ hq => by cases hq) dX10_high_8
/-! X10_isFull -/
abbrev wX10_isFull (cI cJ cS : ClassId) (a_o a_notes : Nat) (z_refused z_steps z_kind z_space z_other z_times z_speed z_base z_share z_pitch z_beats z_held z_sort z_size z_shown z_cells z_carried z_words z_tell z_was z_kept z_cutSpace z_cutTimes z_cutOff z_trace : Value) (v_stretches : Int32) (v_cars : Int32) (v_tunes : Int32) (v_along : Int32) (v_near : Int32) (v_borne : Int32) (v_tempo : Int32) (v_seed : Int32) (v_fault : Int32) (v_from : Int32) (v_at : Int32) (v_end : Int32) (v_told : Int32) (v_wrongAt : Int32) (v_culprit : Int32) (v_ran : Int32) (v_isKept : Int32) (f_notes : Nat → Int32) : va_W := [(a_o, .inr (9, [.int v_stretches, .int v_cars, .int v_tunes, .int v_along, .int v_near, .int v_borne, .int v_tempo, .int v_seed, .int v_fault, z_refused, z_steps, z_kind, z_space, z_other, z_times, z_speed, z_base, z_share, .ref a_notes, z_pitch, z_beats, z_held, z_sort, z_size, z_shown, z_cells, z_carried, z_words, z_tell, .int v_from, .int v_at, .int v_end, .int v_told, .int v_wrongAt, z_was, z_kept, .int v_culprit, z_cutSpace, z_cutTimes, z_cutOff, z_trace, .int v_ran, .int v_isKept])), (a_notes, .inl (cI, 6, .inl f_notes))]
def F_X10_isFull_45 (v_tunes : Int32) (f_notes : Nat → Int32) (post : Int32 → Prop) (x1 : Int32) : Prop := ((x1 = 8 → ((v_tunes = 0 → post 1) ∧ (¬ v_tunes = 0 → (vp_in (v_tunes - 1) 6 ∧ (((f_notes (v_tunes - 1).toNatClampNeg) = 12 → post 1) ∧ (¬ (f_notes (v_tunes - 1).toNatClampNeg) = 12 → post 0)))))) ∧ (¬ x1 = 8 → post 0))
def F_X10_isFull_30 (v_tunes : Int32) (f_notes : Nat → Int32) (post : Int32 → Prop) (x1 : Int32) : Prop := ((x1 = 7 → ((v_tunes = 6 → post 1) ∧ (¬ v_tunes = 6 → F_X10_isFull_45 v_tunes f_notes post x1))) ∧ (¬ x1 = 7 → F_X10_isFull_45 v_tunes f_notes post x1))
def F_X10_isFull_15 (v_cars : Int32) (v_tunes : Int32) (f_notes : Nat → Int32) (post : Int32 → Prop) (x1 : Int32) : Prop := ((x1 = 6 → ((v_cars = 6 → post 1) ∧ (¬ v_cars = 6 → F_X10_isFull_30 v_tunes f_notes post x1))) ∧ (¬ x1 = 6 → F_X10_isFull_30 v_tunes f_notes post x1))
def F_X10_isFull (v_stretches : Int32) (v_cars : Int32) (v_tunes : Int32) (f_notes : Nat → Int32) (x1 : Int32) (post : Int32 → Prop) : Prop := ((6 ≤ x1 → F_X10_isFull_15 v_cars v_tunes f_notes post x1) ∧ (¬ 6 ≤ x1 → ((v_stretches = 16 → post 1) ∧ (¬ v_stretches = 16 → F_X10_isFull_15 v_cars v_tunes f_notes post x1))))
set_option maxHeartbeats 4000000 in
set_option maxRecDepth 100000 in
theorem w_X10_isFull_45 {l : Launch} {D : va_G} {cI cJ cS : ClassId} {ad adK : Nat → Nat} {a_o a_notes : Nat} {z_refused z_steps z_kind z_space z_other z_times z_speed z_base z_share z_pitch z_beats z_held z_sort z_size z_shown z_cells z_carried z_words z_tell z_was z_kept z_cutSpace z_cutTimes z_cutOff z_trace : Value} {v_stretches : Int32} {v_cars : Int32} {v_tunes : Int32} {v_along : Int32} {v_near : Int32} {v_borne : Int32} {v_tempo : Int32} {v_seed : Int32} {v_fault : Int32} {v_from : Int32} {v_at : Int32} {v_end : Int32} {v_told : Int32} {v_wrongAt : Int32} {v_culprit : Int32} {v_ran : Int32} {v_isKept : Int32} {f_notes : Nat → Int32} {x1 : Int32} {post : Int32 → Prop} {p : Program} {e : Env} {s : State} {m : MethodId} {args : Array Value} {below : List Frame} {meth : Method} {c : Code} (S : CallFix p m c cX10_isFull 2 s args GW "RoadThatSingsModel") (hE : EN D cI cJ cS s) (hT : ST ad adK nof s s.heap) (hP : va_P D vwCl (wX10_isFull cI cJ cS a_o a_notes z_refused z_steps z_kind z_space z_other z_times z_speed z_base z_share z_pitch z_beats z_held z_sort z_size z_shown z_cells z_carried z_words z_tell z_was z_kept z_cutSpace z_cutTimes z_cutOff z_trace v_stretches v_cars v_tunes v_along v_near v_borne v_tempo v_seed v_fault v_from v_at v_end v_told v_wrongAt v_culprit v_ran v_isKept f_notes) s.heap) (hS : va_S nof s.heap s.heap []) (hr : meth.sig.returnType = (some (.boolean))) (hlocks : meth.locks = false) : ∀ (ls : Array Slot), F_X10_isFull_45 v_tunes f_notes post x1 → lv_has ls 2 [(0, .ref a_o), (1, .int x1)] → W p l e (rmd 0 0 0) s m args below meth c s.heap [] 0 0 (MQ below (vp_Si post) args s 0 0 nof) (F0 m 45 ls []) := by
  intro  ls h hl
  unfold F_X10_isFull_45 at h
  have hx := S.1
  have hb := S.2.1
  refine lv_iload_n hx hb dX10_isFull_45 rfl (lv_at hl 1 rfl) ?_
  refine lv_bipush (v := 8) hx hb dX10_isFull_46 (by decide) ?_
  refine lv_icmp_ne (tgt := 78) hx hb dX10_isFull_48 (by decide) (fun hc => ?_) (fun hc => ?_)
  · have h := h.2 hc
    refine lv_iconst (v := 0) hx hb dX10_isFull_78 (by decide) ?_
    exact W.zret hx hb hr rfl (fun t ht _ => ⟨_, rfl, h, ht⟩) (fun _ hq => by cases hq) dX10_isFull_79
  have h := h.1 hc
  refine lv_aload_n hx hb dX10_isFull_51 rfl (lv_at hl 0 rfl) ?_
  refine gf S hE hP 0 rfl rfl inX10 (k := 2) (by decide) q1095 rfl dX10_isFull_52 ?_
  refine lv_if_eq (tgt := 74) hx hb dX10_isFull_55 (by decide) (fun hc => ?_) (fun hc => ?_)
  · have h := h.1 hc
    refine lv_iconst (v := 1) hx hb dX10_isFull_74 (by decide) ?_
    refine lv_goto (tgt := 79) hx hb dX10_isFull_75 (by decide) ?_
    exact W.zret hx hb hr rfl (fun t ht _ => ⟨_, rfl, h, ht⟩) (fun _ hq => by cases hq) dX10_isFull_79
  have h := h.2 hc
  refine lv_aload_n hx hb dX10_isFull_58 rfl (lv_at hl 0 rfl) ?_
  refine gf S hE hP 0 rfl rfl inX10 (k := 18) (by decide) q1111 rfl dX10_isFull_59 ?_
  refine lv_aload_n hx hb dX10_isFull_62 rfl (lv_at hl 0 rfl) ?_
  refine gf S hE hP 0 rfl rfl inX10 (k := 2) (by decide) q1095 rfl dX10_isFull_63 ?_
  refine lv_iconst (v := 1) hx hb dX10_isFull_66 (by decide) ?_
  refine lv_isub hx hb dX10_isFull_67 ?_
  obtain ⟨hi, h⟩ := h
  refine ial S hE hP 1 rfl hi dX10_isFull_68 ?_
  refine lv_bipush (v := 12) hx hb dX10_isFull_69 (by decide) ?_
  refine lv_icmp_ne (tgt := 78) hx hb dX10_isFull_71 (by decide) (fun hc => ?_) (fun hc => ?_)
  · have h := h.2 hc
    refine lv_iconst (v := 0) hx hb dX10_isFull_78 (by decide) ?_
    exact W.zret hx hb hr rfl (fun t ht _ => ⟨_, rfl, h, ht⟩) (fun _ hq => by cases hq) dX10_isFull_79
  have h := h.1 hc
  refine lv_iconst (v := 1) hx hb dX10_isFull_74 (by decide) ?_
  refine lv_goto (tgt := 79) hx hb dX10_isFull_75 (by decide) ?_
  exact W.zret hx hb hr rfl (fun t ht _ => ⟨_, rfl, h, ht⟩) (fun _ hq => by cases hq) dX10_isFull_79
set_option maxHeartbeats 4000000 in
set_option maxRecDepth 100000 in
theorem w_X10_isFull_30 {l : Launch} {D : va_G} {cI cJ cS : ClassId} {ad adK : Nat → Nat} {a_o a_notes : Nat} {z_refused z_steps z_kind z_space z_other z_times z_speed z_base z_share z_pitch z_beats z_held z_sort z_size z_shown z_cells z_carried z_words z_tell z_was z_kept z_cutSpace z_cutTimes z_cutOff z_trace : Value} {v_stretches : Int32} {v_cars : Int32} {v_tunes : Int32} {v_along : Int32} {v_near : Int32} {v_borne : Int32} {v_tempo : Int32} {v_seed : Int32} {v_fault : Int32} {v_from : Int32} {v_at : Int32} {v_end : Int32} {v_told : Int32} {v_wrongAt : Int32} {v_culprit : Int32} {v_ran : Int32} {v_isKept : Int32} {f_notes : Nat → Int32} {x1 : Int32} {post : Int32 → Prop} {p : Program} {e : Env} {s : State} {m : MethodId} {args : Array Value} {below : List Frame} {meth : Method} {c : Code} (S : CallFix p m c cX10_isFull 2 s args GW "RoadThatSingsModel") (hE : EN D cI cJ cS s) (hT : ST ad adK nof s s.heap) (hP : va_P D vwCl (wX10_isFull cI cJ cS a_o a_notes z_refused z_steps z_kind z_space z_other z_times z_speed z_base z_share z_pitch z_beats z_held z_sort z_size z_shown z_cells z_carried z_words z_tell z_was z_kept z_cutSpace z_cutTimes z_cutOff z_trace v_stretches v_cars v_tunes v_along v_near v_borne v_tempo v_seed v_fault v_from v_at v_end v_told v_wrongAt v_culprit v_ran v_isKept f_notes) s.heap) (hS : va_S nof s.heap s.heap []) (hr : meth.sig.returnType = (some (.boolean))) (hlocks : meth.locks = false) : ∀ (ls : Array Slot), F_X10_isFull_30 v_tunes f_notes post x1 → lv_has ls 2 [(0, .ref a_o), (1, .int x1)] → W p l e (rmd 0 0 0) s m args below meth c s.heap [] 0 0 (MQ below (vp_Si post) args s 0 0 nof) (F0 m 30 ls []) := by
  intro  ls h hl
  unfold F_X10_isFull_30 at h
  have hx := S.1
  have hb := S.2.1
  refine lv_iload_n hx hb dX10_isFull_30 rfl (lv_at hl 1 rfl) ?_
  refine lv_bipush (v := 7) hx hb dX10_isFull_31 (by decide) ?_
  refine lv_icmp_ne (tgt := 45) hx hb dX10_isFull_33 (by decide) (fun hc => ?_) (fun hc => ?_)
  · have h := h.2 hc
    refine w_X10_isFull_45 S hE hT hP hS hr hlocks _ h (lv_sub hl [0, 1] rfl)
  have h := h.1 hc
  refine lv_aload_n hx hb dX10_isFull_36 rfl (lv_at hl 0 rfl) ?_
  refine gf S hE hP 0 rfl rfl inX10 (k := 2) (by decide) q1095 rfl dX10_isFull_37 ?_
  refine lv_bipush (v := 6) hx hb dX10_isFull_40 (by decide) ?_
  refine lv_icmp_eq (tgt := 74) hx hb dX10_isFull_42 (by decide) (fun hc => ?_) (fun hc => ?_)
  · have h := h.1 hc
    refine lv_iconst (v := 1) hx hb dX10_isFull_74 (by decide) ?_
    refine lv_goto (tgt := 79) hx hb dX10_isFull_75 (by decide) ?_
    exact W.zret hx hb hr rfl (fun t ht _ => ⟨_, rfl, h, ht⟩) (fun _ hq => by cases hq) dX10_isFull_79
  have h := h.2 hc
  refine w_X10_isFull_45 S hE hT hP hS hr hlocks _ h (lv_sub hl [0, 1] rfl)
set_option maxHeartbeats 4000000 in
set_option maxRecDepth 100000 in
theorem w_X10_isFull_15 {l : Launch} {D : va_G} {cI cJ cS : ClassId} {ad adK : Nat → Nat} {a_o a_notes : Nat} {z_refused z_steps z_kind z_space z_other z_times z_speed z_base z_share z_pitch z_beats z_held z_sort z_size z_shown z_cells z_carried z_words z_tell z_was z_kept z_cutSpace z_cutTimes z_cutOff z_trace : Value} {v_stretches : Int32} {v_cars : Int32} {v_tunes : Int32} {v_along : Int32} {v_near : Int32} {v_borne : Int32} {v_tempo : Int32} {v_seed : Int32} {v_fault : Int32} {v_from : Int32} {v_at : Int32} {v_end : Int32} {v_told : Int32} {v_wrongAt : Int32} {v_culprit : Int32} {v_ran : Int32} {v_isKept : Int32} {f_notes : Nat → Int32} {x1 : Int32} {post : Int32 → Prop} {p : Program} {e : Env} {s : State} {m : MethodId} {args : Array Value} {below : List Frame} {meth : Method} {c : Code} (S : CallFix p m c cX10_isFull 2 s args GW "RoadThatSingsModel") (hE : EN D cI cJ cS s) (hT : ST ad adK nof s s.heap) (hP : va_P D vwCl (wX10_isFull cI cJ cS a_o a_notes z_refused z_steps z_kind z_space z_other z_times z_speed z_base z_share z_pitch z_beats z_held z_sort z_size z_shown z_cells z_carried z_words z_tell z_was z_kept z_cutSpace z_cutTimes z_cutOff z_trace v_stretches v_cars v_tunes v_along v_near v_borne v_tempo v_seed v_fault v_from v_at v_end v_told v_wrongAt v_culprit v_ran v_isKept f_notes) s.heap) (hS : va_S nof s.heap s.heap []) (hr : meth.sig.returnType = (some (.boolean))) (hlocks : meth.locks = false) : ∀ (ls : Array Slot), F_X10_isFull_15 v_cars v_tunes f_notes post x1 → lv_has ls 2 [(0, .ref a_o), (1, .int x1)] → W p l e (rmd 0 0 0) s m args below meth c s.heap [] 0 0 (MQ below (vp_Si post) args s 0 0 nof) (F0 m 15 ls []) := by
  intro  ls h hl
  unfold F_X10_isFull_15 at h
  have hx := S.1
  have hb := S.2.1
  refine lv_iload_n hx hb dX10_isFull_15 rfl (lv_at hl 1 rfl) ?_
  refine lv_bipush (v := 6) hx hb dX10_isFull_16 (by decide) ?_
  refine lv_icmp_ne (tgt := 30) hx hb dX10_isFull_18 (by decide) (fun hc => ?_) (fun hc => ?_)
  · have h := h.2 hc
    refine w_X10_isFull_30 S hE hT hP hS hr hlocks _ h (lv_sub hl [0, 1] rfl)
  have h := h.1 hc
  refine lv_aload_n hx hb dX10_isFull_21 rfl (lv_at hl 0 rfl) ?_
  refine gf S hE hP 0 rfl rfl inX10 (k := 1) (by decide) q1094 rfl dX10_isFull_22 ?_
  refine lv_bipush (v := 6) hx hb dX10_isFull_25 (by decide) ?_
  refine lv_icmp_eq (tgt := 74) hx hb dX10_isFull_27 (by decide) (fun hc => ?_) (fun hc => ?_)
  · have h := h.1 hc
    refine lv_iconst (v := 1) hx hb dX10_isFull_74 (by decide) ?_
    refine lv_goto (tgt := 79) hx hb dX10_isFull_75 (by decide) ?_
    exact W.zret hx hb hr rfl (fun t ht _ => ⟨_, rfl, h, ht⟩) (fun _ hq => by cases hq) dX10_isFull_79
  have h := h.2 hc
  refine w_X10_isFull_30 S hE hT hP hS hr hlocks _ h (lv_sub hl [0, 1] rfl)
set_option maxHeartbeats 4000000 in
set_option maxRecDepth 100000 in
theorem c_X10_isFull {l : Launch} {D : va_G} {cI cJ cS : ClassId} {ad adK : Nat → Nat} {a_o a_notes : Nat} {z_refused z_steps z_kind z_space z_other z_times z_speed z_base z_share z_pitch z_beats z_held z_sort z_size z_shown z_cells z_carried z_words z_tell z_was z_kept z_cutSpace z_cutTimes z_cutOff z_trace : Value} {v_stretches : Int32} {v_cars : Int32} {v_tunes : Int32} {v_along : Int32} {v_near : Int32} {v_borne : Int32} {v_tempo : Int32} {v_seed : Int32} {v_fault : Int32} {v_from : Int32} {v_at : Int32} {v_end : Int32} {v_told : Int32} {v_wrongAt : Int32} {v_culprit : Int32} {v_ran : Int32} {v_isKept : Int32} {f_notes : Nat → Int32} {x1 : Int32} {post : Int32 → Prop} (h : F_X10_isFull v_stretches v_cars v_tunes f_notes x1 post) : Met l yX10_isFull (Cond.code yX10_isFull cX10_isFull 2 (some (.boolean)) :: GW) (rmd 0 0 0) (PR D cI cJ cS ad adK [.ref a_o, .int x1] (wX10_isFull cI cJ cS a_o a_notes z_refused z_steps z_kind z_space z_other z_times z_speed z_base z_share z_pitch z_beats z_held z_sort z_size z_shown z_cells z_carried z_words z_tell z_was z_kept z_cutSpace z_cutTimes z_cutOff z_trace v_stretches v_cars v_tunes v_along v_near v_borne v_tempo v_seed v_fault v_from v_at v_end v_told v_wrongAt v_culprit v_ran v_isKept f_notes)) (vp_Si post) 0 0 nof := by
  refine Met.ro (by decide) (Nat.le_of_ble_eq_true rfl) (fun p e s m args below meth c ls (S : CallFix p m c cX10_isFull 2 s args GW "RoadThatSingsModel") hE hT hP hS hr hlocks hl => ?_)
  have hx := S.1
  have hb := S.2.1
  have hl : lv_has ls 2 [(0, .ref a_o), (1, .int x1)] := hl
  unfold F_X10_isFull at h
  refine lv_iload_n hx hb dX10_isFull_0 rfl (lv_at hl 1 rfl) ?_
  refine lv_bipush (v := 6) hx hb dX10_isFull_1 (by decide) ?_
  refine lv_icmp_ge (tgt := 15) hx hb dX10_isFull_3 (by decide) (fun hc => ?_) (fun hc => ?_)
  · have h := h.1 hc
    refine w_X10_isFull_15 S hE hT hP hS hr hlocks _ h (lv_sub hl [0, 1] rfl)
  have h := h.2 hc
  refine lv_aload_n hx hb dX10_isFull_6 rfl (lv_at hl 0 rfl) ?_
  refine gf S hE hP 0 rfl rfl inX10 (k := 0) (by decide) q1093 rfl dX10_isFull_7 ?_
  refine lv_bipush (v := 16) hx hb dX10_isFull_10 (by decide) ?_
  refine lv_icmp_eq (tgt := 74) hx hb dX10_isFull_12 (by decide) (fun hc => ?_) (fun hc => ?_)
  · have h := h.1 hc
    refine lv_iconst (v := 1) hx hb dX10_isFull_74 (by decide) ?_
    refine lv_goto (tgt := 79) hx hb dX10_isFull_75 (by decide) ?_
    exact W.zret hx hb hr rfl (fun t ht _ => ⟨_, rfl, h, ht⟩) (fun _ hq => by cases hq) dX10_isFull_79
  have h := h.2 hc
  refine w_X10_isFull_15 S hE hT hP hS hr hlocks _ h (lv_sub hl [0, 1] rfl)
