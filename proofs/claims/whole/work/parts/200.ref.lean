/-! X10_no -/
abbrev wX10_no (cI cJ cS : ClassId) (a_o a_refused : Nat) (z_steps z_kind z_space z_other z_times z_speed z_base z_share z_notes z_pitch z_beats z_held z_sort z_size z_shown z_cells z_carried z_words z_tell z_was z_kept z_cutSpace z_cutTimes z_cutOff z_trace : Value) (v_stretches : Int32) (v_cars : Int32) (v_tunes : Int32) (v_along : Int32) (v_near : Int32) (v_borne : Int32) (v_tempo : Int32) (v_seed : Int32) (v_fault : Int32) (v_from : Int32) (v_at : Int32) (v_end : Int32) (v_told : Int32) (v_wrongAt : Int32) (v_culprit : Int32) (v_ran : Int32) (v_isKept : Int32) (f_refused : Nat → Int32) : va_W := [(a_o, .inr (9, [.int v_stretches, .int v_cars, .int v_tunes, .int v_along, .int v_near, .int v_borne, .int v_tempo, .int v_seed, .int v_fault, .ref a_refused, z_steps, z_kind, z_space, z_other, z_times, z_speed, z_base, z_share, z_notes, z_pitch, z_beats, z_held, z_sort, z_size, z_shown, z_cells, z_carried, z_words, z_tell, .int v_from, .int v_at, .int v_end, .int v_told, .int v_wrongAt, z_was, z_kept, .int v_culprit, z_cutSpace, z_cutTimes, z_cutOff, z_trace, .int v_ran, .int v_isKept])), (a_refused, .inl (cI, 8, .inl f_refused))]
def F_X10_no (f_refused : Nat → Int32) (x1 : Int32) (post : Int32 → (Nat → Int32) → Prop) : Prop := (vp_in (-x1) 8 ∧ (vp_in (-x1) 8 ∧ post x1 (upd f_refused (-x1).toNatClampNeg ((f_refused (-x1).toNatClampNeg) + 1))))
set_option maxHeartbeats 4000000 in
set_option maxRecDepth 100000 in
theorem c_X10_no {l : Launch} {D : va_G} {cI cJ cS : ClassId} {ad adK : Nat → Nat} {a_o a_refused : Nat} {z_steps z_kind z_space z_other z_times z_speed z_base z_share z_notes z_pitch z_beats z_held z_sort z_size z_shown z_cells z_carried z_words z_tell z_was z_kept z_cutSpace z_cutTimes z_cutOff z_trace : Value} {v_stretches : Int32} {v_cars : Int32} {v_tunes : Int32} {v_along : Int32} {v_near : Int32} {v_borne : Int32} {v_tempo : Int32} {v_seed : Int32} {v_fault : Int32} {v_from : Int32} {v_at : Int32} {v_end : Int32} {v_told : Int32} {v_wrongAt : Int32} {v_culprit : Int32} {v_ran : Int32} {v_isKept : Int32} {f_refused : Nat → Int32} {x1 : Int32} {post : Int32 → (Nat → Int32) → Prop} (h : F_X10_no f_refused x1 post) {sz : Nat} : Met l yX10_no (Cond.code yX10_no cX10_no 2 (some (.int)) :: GW) (rmd 0 0 0) (PW D cI cJ cS ad adK [.ref a_o, .int x1] (wX10_no cI cJ cS a_o a_refused z_steps z_kind z_space z_other z_times z_speed z_base z_share z_notes z_pitch z_beats z_held z_sort z_size z_shown z_cells z_carried z_words z_tell z_was z_kept z_cutSpace z_cutTimes z_cutOff z_trace v_stretches v_cars v_tunes v_along v_near v_borne v_tempo v_seed v_fault v_from v_at v_end v_told v_wrongAt v_culprit v_ran v_isKept f_refused) sz) (va_Qi (fun r (u : (Nat → Int32)) => post r u) (fun u t => va_P D vwCl (wX10_no cI cJ cS a_o a_refused z_steps z_kind z_space z_other z_times z_speed z_base z_share z_notes z_pitch z_beats z_held z_sort z_size z_shown z_cells z_carried z_words z_tell z_was z_kept z_cutSpace z_cutTimes z_cutOff z_trace v_stretches v_cars v_tunes v_along v_near v_borne v_tempo v_seed v_fault v_from v_at v_end v_told v_wrongAt v_culprit v_ran v_isKept u) t.heap) (va_A (wX10_no cI cJ cS a_o a_refused z_steps z_kind z_space z_other z_times z_speed z_base z_share z_notes z_pitch z_beats z_held z_sort z_size z_shown z_cells z_carried z_words z_tell z_was z_kept z_cutSpace z_cutTimes z_cutOff z_trace v_stretches v_cars v_tunes v_along v_near v_borne v_tempo v_seed v_fault v_from v_at v_end v_told v_wrongAt v_culprit v_ran v_isKept f_refused) sz)) 0 0 (va_A (wX10_no cI cJ cS a_o a_refused z_steps z_kind z_space z_other z_times z_speed z_base z_share z_notes z_pitch z_beats z_held z_sort z_size z_shown z_cells z_carried z_words z_tell z_was z_kept z_cutSpace z_cutTimes z_cutOff z_trace v_stretches v_cars v_tunes v_along v_near v_borne v_tempo v_seed v_fault v_from v_at v_end v_told v_wrongAt v_culprit v_ran v_isKept f_refused) sz) := by
  refine Met.rw (Qc := fun A => (va_Qi (fun r (u : (Nat → Int32)) => post r u) (fun u t => va_P D vwCl (wX10_no cI cJ cS a_o a_refused z_steps z_kind z_space z_other z_times z_speed z_base z_share z_notes z_pitch z_beats z_held z_sort z_size z_shown z_cells z_carried z_words z_tell z_was z_kept z_cutSpace z_cutTimes z_cutOff z_trace v_stretches v_cars v_tunes v_along v_near v_borne v_tempo v_seed v_fault v_from v_at v_end v_told v_wrongAt v_culprit v_ran v_isKept u) t.heap) A)) (by decide) (Nat.le_of_ble_eq_true rfl) (fun p e s m args below meth c ls A (S : CallFix p m c cX10_no 2 s args GW "RoadThatSingsModel") hE hT hP hD hA hS hr hlocks hname hl => ?_)
  have hS0 := hS
  have hx := S.1
  have hb := S.2.1
  have hl : lv_has ls 2 [(0, .ref a_o), (1, .int x1)] := hl
  unfold F_X10_no at h
  refine lv_aload_n hx hb dX10_no_0 rfl (lv_at hl 0 rfl) ?_
  refine gf S hE hP 0 rfl rfl inX10 (k := 9) (by decide) q1102 rfl dX10_no_1 ?_
  refine lv_iload_n hx hb dX10_no_4 rfl (lv_at hl 1 rfl) ?_
  refine lv_ineg hx hb dX10_no_5 ?_
  refine lv_dup2_11 hx hb dX10_no_6 rfl rfl ?_
  obtain ⟨hi, h⟩ := h
  refine ial S hE hP 1 rfl hi dX10_no_7 ?_
  refine lv_iconst (v := 1) hx hb dX10_no_8 (by decide) ?_
  refine lv_iadd hx hb dX10_no_9 ?_
  obtain ⟨hi, h⟩ := h
  refine ias S hE hP hD hS 1 rfl hi dX10_no_10 (fun H locs hP hD hS => ?_)
  have hP : va_P D vwCl (wX10_no cI cJ cS a_o a_refused z_steps z_kind z_space z_other z_times z_speed z_base z_share z_notes z_pitch z_beats z_held z_sort z_size z_shown z_cells z_carried z_words z_tell z_was z_kept z_cutSpace z_cutTimes z_cutOff z_trace v_stretches v_cars v_tunes v_along v_near v_borne v_tempo v_seed v_fault v_from v_at v_end v_told v_wrongAt v_culprit v_ran v_isKept (upd f_refused (-x1).toNatClampNeg ((f_refused (-x1).toNatClampNeg) + 1))) H := hP
  have hD : va_D A (wX10_no cI cJ cS a_o a_refused z_steps z_kind z_space z_other z_times z_speed z_base z_share z_notes z_pitch z_beats z_held z_sort z_size z_shown z_cells z_carried z_words z_tell z_was z_kept z_cutSpace z_cutTimes z_cutOff z_trace v_stretches v_cars v_tunes v_along v_near v_borne v_tempo v_seed v_fault v_from v_at v_end v_told v_wrongAt v_culprit v_ran v_isKept (upd f_refused (-x1).toNatClampNeg ((f_refused (-x1).toNatClampNeg) + 1))) := hD
  refine lv_iload_n hx hb dX10_no_11 rfl (lv_at hl 1 rfl) ?_
  exact W.iret hx hb hr (fun t ht _ => ⟨⟨_, (upd f_refused (-x1).toNatClampNeg ((f_refused (-x1).toNatClampNeg) + 1)), rfl, h, hPt hP ht⟩, hS.F ht⟩) hS.2.2 dX10_no_12
/-! X10_noTen -/
abbrev wX10_noTen (cI cJ cS : ClassId) (a_o a_refused : Nat) (z_steps z_kind z_space z_other z_times z_speed z_base z_share z_notes z_pitch z_beats z_held z_sort z_size z_shown z_cells z_carried z_words z_tell z_was z_kept z_cutSpace z_cutTimes z_cutOff z_trace : Value) (v_stretches : Int32) (v_cars : Int32) (v_tunes : Int32) (v_along : Int32) (v_near : Int32) (v_borne : Int32) (v_tempo : Int32) (v_seed : Int32) (v_fault : Int32) (v_from : Int32) (v_at : Int32) (v_end : Int32) (v_told : Int32) (v_wrongAt : Int32) (v_culprit : Int32) (v_ran : Int32) (v_isKept : Int32) (f_refused : Nat → Int32) : va_W := [(a_o, .inr (9, [.int v_stretches, .int v_cars, .int v_tunes, .int v_along, .int v_near, .int v_borne, .int v_tempo, .int v_seed, .int v_fault, .ref a_refused, z_steps, z_kind, z_space, z_other, z_times, z_speed, z_base, z_share, z_notes, z_pitch, z_beats, z_held, z_sort, z_size, z_shown, z_cells, z_carried, z_words, z_tell, .int v_from, .int v_at, .int v_end, .int v_told, .int v_wrongAt, z_was, z_kept, .int v_culprit, z_cutSpace, z_cutTimes, z_cutOff, z_trace, .int v_ran, .int v_isKept])), (a_refused, .inl (cI, 8, .inl f_refused))]
def F_X10_noTen (f_refused : Nat → Int32) (x1 : Int32) (post : Int32 → (Nat → Int32) → Prop) : Prop := (vp_in (-x1) 8 ∧ (vp_in (-x1) 8 ∧ post (x1 - 10) (upd f_refused (-x1).toNatClampNeg ((f_refused (-x1).toNatClampNeg) + 1))))
set_option maxHeartbeats 4000000 in
set_option maxRecDepth 100000 in
theorem c_X10_noTen {l : Launch} {D : va_G} {cI cJ cS : ClassId} {ad adK : Nat → Nat} {a_o a_refused : Nat} {z_steps z_kind z_space z_other z_times z_speed z_base z_share z_notes z_pitch z_beats z_held z_sort z_size z_shown z_cells z_carried z_words z_tell z_was z_kept z_cutSpace z_cutTimes z_cutOff z_trace : Value} {v_stretches : Int32} {v_cars : Int32} {v_tunes : Int32} {v_along : Int32} {v_near : Int32} {v_borne : Int32} {v_tempo : Int32} {v_seed : Int32} {v_fault : Int32} {v_from : Int32} {v_at : Int32} {v_end : Int32} {v_told : Int32} {v_wrongAt : Int32} {v_culprit : Int32} {v_ran : Int32} {v_isKept : Int32} {f_refused : Nat → Int32} {x1 : Int32} {post : Int32 → (Nat → Int32) → Prop} (h : F_X10_noTen f_refused x1 post) {sz : Nat} : Met l yX10_noTen (Cond.code yX10_noTen cX10_noTen 2 (some (.int)) :: GW) (rmd 0 0 0) (PW D cI cJ cS ad adK [.ref a_o, .int x1] (wX10_noTen cI cJ cS a_o a_refused z_steps z_kind z_space z_other z_times z_speed z_base z_share z_notes z_pitch z_beats z_held z_sort z_size z_shown z_cells z_carried z_words z_tell z_was z_kept z_cutSpace z_cutTimes z_cutOff z_trace v_stretches v_cars v_tunes v_along v_near v_borne v_tempo v_seed v_fault v_from v_at v_end v_told v_wrongAt v_culprit v_ran v_isKept f_refused) sz) (va_Qi (fun r (u : (Nat → Int32)) => post r u) (fun u t => va_P D vwCl (wX10_noTen cI cJ cS a_o a_refused z_steps z_kind z_space z_other z_times z_speed z_base z_share z_notes z_pitch z_beats z_held z_sort z_size z_shown z_cells z_carried z_words z_tell z_was z_kept z_cutSpace z_cutTimes z_cutOff z_trace v_stretches v_cars v_tunes v_along v_near v_borne v_tempo v_seed v_fault v_from v_at v_end v_told v_wrongAt v_culprit v_ran v_isKept u) t.heap) (va_A (wX10_noTen cI cJ cS a_o a_refused z_steps z_kind z_space z_other z_times z_speed z_base z_share z_notes z_pitch z_beats z_held z_sort z_size z_shown z_cells z_carried z_words z_tell z_was z_kept z_cutSpace z_cutTimes z_cutOff z_trace v_stretches v_cars v_tunes v_along v_near v_borne v_tempo v_seed v_fault v_from v_at v_end v_told v_wrongAt v_culprit v_ran v_isKept f_refused) sz)) 0 0 (va_A (wX10_noTen cI cJ cS a_o a_refused z_steps z_kind z_space z_other z_times z_speed z_base z_share z_notes z_pitch z_beats z_held z_sort z_size z_shown z_cells z_carried z_words z_tell z_was z_kept z_cutSpace z_cutTimes z_cutOff z_trace v_stretches v_cars v_tunes v_along v_near v_borne v_tempo v_seed v_fault v_from v_at v_end v_told v_wrongAt v_culprit v_ran v_isKept f_refused) sz) := by
  refine Met.rw (Qc := fun A => (va_Qi (fun r (u : (Nat → Int32)) => post r u) (fun u t => va_P D vwCl (wX10_noTen cI cJ cS a_o a_refused z_steps z_kind z_space z_other z_times z_speed z_base z_share z_notes z_pitch z_beats z_held z_sort z_size z_shown z_cells z_carried z_words z_tell z_was z_kept z_cutSpace z_cutTimes z_cutOff z_trace v_stretches v_cars v_tunes v_along v_near v_borne v_tempo v_seed v_fault v_from v_at v_end v_told v_wrongAt v_culprit v_ran v_isKept u) t.heap) A)) (by decide) (Nat.le_of_ble_eq_true rfl) (fun p e s m args below meth c ls A (S : CallFix p m c cX10_noTen 2 s args GW "RoadThatSingsModel") hE hT hP hD hA hS hr hlocks hname hl => ?_)
  have hS0 := hS
  have hx := S.1
  have hb := S.2.1
  have hl : lv_has ls 2 [(0, .ref a_o), (1, .int x1)] := hl
  unfold F_X10_noTen at h
  refine lv_aload_n hx hb dX10_noTen_0 rfl (lv_at hl 0 rfl) ?_
  refine gf S hE hP 0 rfl rfl inX10 (k := 9) (by decide) q1102 rfl dX10_noTen_1 ?_
  refine lv_iload_n hx hb dX10_noTen_4 rfl (lv_at hl 1 rfl) ?_
  refine lv_ineg hx hb dX10_noTen_5 ?_
  refine lv_dup2_11 hx hb dX10_noTen_6 rfl rfl ?_
  obtain ⟨hi, h⟩ := h
  refine ial S hE hP 1 rfl hi dX10_noTen_7 ?_
  refine lv_iconst (v := 1) hx hb dX10_noTen_8 (by decide) ?_
  refine lv_iadd hx hb dX10_noTen_9 ?_
  obtain ⟨hi, h⟩ := h
  refine ias S hE hP hD hS 1 rfl hi dX10_noTen_10 (fun H locs hP hD hS => ?_)
  have hP : va_P D vwCl (wX10_noTen cI cJ cS a_o a_refused z_steps z_kind z_space z_other z_times z_speed z_base z_share z_notes z_pitch z_beats z_held z_sort z_size z_shown z_cells z_carried z_words z_tell z_was z_kept z_cutSpace z_cutTimes z_cutOff z_trace v_stretches v_cars v_tunes v_along v_near v_borne v_tempo v_seed v_fault v_from v_at v_end v_told v_wrongAt v_culprit v_ran v_isKept (upd f_refused (-x1).toNatClampNeg ((f_refused (-x1).toNatClampNeg) + 1))) H := hP
  have hD : va_D A (wX10_noTen cI cJ cS a_o a_refused z_steps z_kind z_space z_other z_times z_speed z_base z_share z_notes z_pitch z_beats z_held z_sort z_size z_shown z_cells z_carried z_words z_tell z_was z_kept z_cutSpace z_cutTimes z_cutOff z_trace v_stretches v_cars v_tunes v_along v_near v_borne v_tempo v_seed v_fault v_from v_at v_end v_told v_wrongAt v_culprit v_ran v_isKept (upd f_refused (-x1).toNatClampNeg ((f_refused (-x1).toNatClampNeg) + 1))) := hD
  refine lv_iload_n hx hb dX10_noTen_11 rfl (lv_at hl 1 rfl) ?_
  refine lv_bipush (v := 10) hx hb dX10_noTen_12 (by decide) ?_
  refine lv_isub hx hb dX10_noTen_14 ?_
  exact W.iret hx hb hr (fun t ht _ => ⟨⟨_, (upd f_refused (-x1).toNatClampNeg ((f_refused (-x1).toNatClampNeg) + 1)), rfl, h, hPt hP ht⟩, hS.F ht⟩) hS.2.2 dX10_noTen_15
/-! X10_isShelf -/
abbrev wX10_isShelf (cI cJ cS : ClassId) (a_o : Nat) (z_refused z_steps z_kind z_space z_other z_times z_speed z_base z_share z_notes z_pitch z_beats z_held z_sort z_size z_shown z_cells z_carried z_words z_tell z_was z_kept z_cutSpace z_cutTimes z_cutOff z_trace : Value) (v_stretches : Int32) (v_cars : Int32) (v_tunes : Int32) (v_along : Int32) (v_near : Int32) (v_borne : Int32) (v_tempo : Int32) (v_seed : Int32) (v_fault : Int32) (v_from : Int32) (v_at : Int32) (v_end : Int32) (v_told : Int32) (v_wrongAt : Int32) (v_culprit : Int32) (v_ran : Int32) (v_isKept : Int32) : va_W := [(a_o, .inr (9, [.int v_stretches, .int v_cars, .int v_tunes, .int v_along, .int v_near, .int v_borne, .int v_tempo, .int v_seed, .int v_fault, z_refused, z_steps, z_kind, z_space, z_other, z_times, z_speed, z_base, z_share, z_notes, z_pitch, z_beats, z_held, z_sort, z_size, z_shown, z_cells, z_carried, z_words, z_tell, .int v_from, .int v_at, .int v_end, .int v_told, .int v_wrongAt, z_was, z_kept, .int v_culprit, z_cutSpace, z_cutTimes, z_cutOff, z_trace, .int v_ran, .int v_isKept]))]
def F_X10_isShelf (x1 : Int32) (post : Int32 → Prop) : Prop := ((x1 < 0 → post 0) ∧ (¬ x1 < 0 → ((8 ≤ x1 → post 0) ∧ (¬ 8 ≤ x1 → post 1))))
set_option maxHeartbeats 4000000 in
set_option maxRecDepth 100000 in
theorem c_X10_isShelf {l : Launch} {D : va_G} {cI cJ cS : ClassId} {ad adK : Nat → Nat} {a_o : Nat} {z_refused z_steps z_kind z_space z_other z_times z_speed z_base z_share z_notes z_pitch z_beats z_held z_sort z_size z_shown z_cells z_carried z_words z_tell z_was z_kept z_cutSpace z_cutTimes z_cutOff z_trace : Value} {v_stretches : Int32} {v_cars : Int32} {v_tunes : Int32} {v_along : Int32} {v_near : Int32} {v_borne : Int32} {v_tempo : Int32} {v_seed : Int32} {v_fault : Int32} {v_from : Int32} {v_at : Int32} {v_end : Int32} {v_told : Int32} {v_wrongAt : Int32} {v_culprit : Int32} {v_ran : Int32} {v_isKept : Int32} {x1 : Int32} {post : Int32 → Prop} (h : F_X10_isShelf x1 post) : Met l yX10_isShelf (Cond.code yX10_isShelf cX10_isShelf 2 (some (.boolean)) :: GW) (rmd 0 0 0) (PR D cI cJ cS ad adK [.ref a_o, .int x1] (wX10_isShelf cI cJ cS a_o z_refused z_steps z_kind z_space z_other z_times z_speed z_base z_share z_notes z_pitch z_beats z_held z_sort z_size z_shown z_cells z_carried z_words z_tell z_was z_kept z_cutSpace z_cutTimes z_cutOff z_trace v_stretches v_cars v_tunes v_along v_near v_borne v_tempo v_seed v_fault v_from v_at v_end v_told v_wrongAt v_culprit v_ran v_isKept)) (vp_Si post) 0 0 nof := by
  refine Met.ro (by decide) (Nat.le_of_ble_eq_true rfl) (fun p e s m args below meth c ls (S : CallFix p m c cX10_isShelf 2 s args GW "RoadThatSingsModel") hE hT hP hS hr hlocks hl => ?_)
  have hx := S.1
  have hb := S.2.1
  have hl : lv_has ls 2 [(0, .ref a_o), (1, .int x1)] := hl
  unfold F_X10_isShelf at h
  refine lv_iload_n hx hb dX10_isShelf_0 rfl (lv_at hl 1 rfl) ?_
  refine lv_if_lt (tgt := 14) hx hb dX10_isShelf_1 (by decide) (fun hc => ?_) (fun hc => ?_)
  · have h := h.1 hc
    refine lv_iconst (v := 0) hx hb dX10_isShelf_14 (by decide) ?_
    exact W.zret hx hb hr rfl (fun t ht _ => ⟨_, rfl, h, ht⟩) (fun _ hq => by cases hq) dX10_isShelf_15
  have h := h.2 hc
  refine lv_iload_n hx hb dX10_isShelf_4 rfl (lv_at hl 1 rfl) ?_
  refine lv_bipush (v := 8) hx hb dX10_isShelf_5 (by decide) ?_
  refine lv_icmp_ge (tgt := 14) hx hb dX10_isShelf_7 (by decide) (fun hc => ?_) (fun hc => ?_)
  · have h := h.1 hc
    refine lv_iconst (v := 0) hx hb dX10_isShelf_14 (by decide) ?_
    exact W.zret hx hb hr rfl (fun t ht _ => ⟨_, rfl, h, ht⟩) (fun _ hq => by cases hq) dX10_isShelf_15
  have h := h.2 hc
  refine lv_iconst (v := 1) hx hb dX10_isShelf_10 (by decide) ?_
  refine lv_goto (tgt := 15) hx hb dX10_isShelf_11 (by decide) ?_
  exact W.zret hx hb hr rfl (fun t ht _ => ⟨_, rfl, h, ht⟩) (fun _ hq => by cases hq) dX10_isShelf_15
/-! X10_isStretch -/
abbrev wX10_isStretch (cI cJ cS : ClassId) (a_o : Nat) (z_refused z_steps z_kind z_space z_other z_times z_speed z_base z_share z_notes z_pitch z_beats z_held z_sort z_size z_shown z_cells z_carried z_words z_tell z_was z_kept z_cutSpace z_cutTimes z_cutOff z_trace : Value) (v_stretches : Int32) (v_cars : Int32) (v_tunes : Int32) (v_along : Int32) (v_near : Int32) (v_borne : Int32) (v_tempo : Int32) (v_seed : Int32) (v_fault : Int32) (v_from : Int32) (v_at : Int32) (v_end : Int32) (v_told : Int32) (v_wrongAt : Int32) (v_culprit : Int32) (v_ran : Int32) (v_isKept : Int32) : va_W := [(a_o, .inr (9, [.int v_stretches, .int v_cars, .int v_tunes, .int v_along, .int v_near, .int v_borne, .int v_tempo, .int v_seed, .int v_fault, z_refused, z_steps, z_kind, z_space, z_other, z_times, z_speed, z_base, z_share, z_notes, z_pitch, z_beats, z_held, z_sort, z_size, z_shown, z_cells, z_carried, z_words, z_tell, .int v_from, .int v_at, .int v_end, .int v_told, .int v_wrongAt, z_was, z_kept, .int v_culprit, z_cutSpace, z_cutTimes, z_cutOff, z_trace, .int v_ran, .int v_isKept]))]
def F_X10_isStretch (v_stretches : Int32) (x1 : Int32) (post : Int32 → Prop) : Prop := ((x1 < 0 → post 0) ∧ (¬ x1 < 0 → ((v_stretches ≤ x1 → post 0) ∧ (¬ v_stretches ≤ x1 → post 1))))
set_option maxHeartbeats 4000000 in
set_option maxRecDepth 100000 in
theorem c_X10_isStretch {l : Launch} {D : va_G} {cI cJ cS : ClassId} {ad adK : Nat → Nat} {a_o : Nat} {z_refused z_steps z_kind z_space z_other z_times z_speed z_base z_share z_notes z_pitch z_beats z_held z_sort z_size z_shown z_cells z_carried z_words z_tell z_was z_kept z_cutSpace z_cutTimes z_cutOff z_trace : Value} {v_stretches : Int32} {v_cars : Int32} {v_tunes : Int32} {v_along : Int32} {v_near : Int32} {v_borne : Int32} {v_tempo : Int32} {v_seed : Int32} {v_fault : Int32} {v_from : Int32} {v_at : Int32} {v_end : Int32} {v_told : Int32} {v_wrongAt : Int32} {v_culprit : Int32} {v_ran : Int32} {v_isKept : Int32} {x1 : Int32} {post : Int32 → Prop} (h : F_X10_isStretch v_stretches x1 post) : Met l yX10_isStretch (Cond.code yX10_isStretch cX10_isStretch 2 (some (.boolean)) :: GW) (rmd 0 0 0) (PR D cI cJ cS ad adK [.ref a_o, .int x1] (wX10_isStretch cI cJ cS a_o z_refused z_steps z_kind z_space z_other z_times z_speed z_base z_share z_notes z_pitch z_beats z_held z_sort z_size z_shown z_cells z_carried z_words z_tell z_was z_kept z_cutSpace z_cutTimes z_cutOff z_trace v_stretches v_cars v_tunes v_along v_near v_borne v_tempo v_seed v_fault v_from v_at v_end v_told v_wrongAt v_culprit v_ran v_isKept)) (vp_Si post) 0 0 nof := by
  refine Met.ro (by decide) (Nat.le_of_ble_eq_true rfl) (fun p e s m args below meth c ls (S : CallFix p m c cX10_isStretch 2 s args GW "RoadThatSingsModel") hE hT hP hS hr hlocks hl => ?_)
  have hx := S.1
  have hb := S.2.1
  have hl : lv_has ls 2 [(0, .ref a_o), (1, .int x1)] := hl
  unfold F_X10_isStretch at h
  refine lv_iload_n hx hb dX10_isStretch_0 rfl (lv_at hl 1 rfl) ?_
  refine lv_if_lt (tgt := 16) hx hb dX10_isStretch_1 (by decide) (fun hc => ?_) (fun hc => ?_)
  · have h := h.1 hc
    refine lv_iconst (v := 0) hx hb dX10_isStretch_16 (by decide) ?_
    exact W.zret hx hb hr rfl (fun t ht _ => ⟨_, rfl, h, ht⟩) (fun _ hq => by cases hq) dX10_isStretch_17
  have h := h.2 hc
  refine lv_iload_n hx hb dX10_isStretch_4 rfl (lv_at hl 1 rfl) ?_
  refine lv_aload_n hx hb dX10_isStretch_5 rfl (lv_at hl 0 rfl) ?_
  refine gf S hE hP 0 rfl rfl inX10 (k := 0) (by decide) q1093 rfl dX10_isStretch_6 ?_
  refine lv_icmp_ge (tgt := 16) hx hb dX10_isStretch_9 (by decide) (fun hc => ?_) (fun hc => ?_)
  · have h := h.1 hc
    refine lv_iconst (v := 0) hx hb dX10_isStretch_16 (by decide) ?_
    exact W.zret hx hb hr rfl (fun t ht _ => ⟨_, rfl, h, ht⟩) (fun _ hq => by cases hq) dX10_isStretch_17
  have h := h.2 hc
  refine lv_iconst (v := 1) hx hb dX10_isStretch_12 (by decide) ?_
  refine lv_goto (tgt := 17) hx hb dX10_isStretch_13 (by decide) ?_
  exact W.zret hx hb hr rfl (fun t ht _ => ⟨_, rfl, h, ht⟩) (fun _ hq => by cases hq) dX10_isStretch_17
/-! X10_isCar -/
abbrev wX10_isCar (cI cJ cS : ClassId) (a_o : Nat) (z_refused z_steps z_kind z_space z_other z_times z_speed z_base z_share z_notes z_pitch z_beats z_held z_sort z_size z_shown z_cells z_carried z_words z_tell z_was z_kept z_cutSpace z_cutTimes z_cutOff z_trace : Value) (v_stretches : Int32) (v_cars : Int32) (v_tunes : Int32) (v_along : Int32) (v_near : Int32) (v_borne : Int32) (v_tempo : Int32) (v_seed : Int32) (v_fault : Int32) (v_from : Int32) (v_at : Int32) (v_end : Int32) (v_told : Int32) (v_wrongAt : Int32) (v_culprit : Int32) (v_ran : Int32) (v_isKept : Int32) : va_W := [(a_o, .inr (9, [.int v_stretches, .int v_cars, .int v_tunes, .int v_along, .int v_near, .int v_borne, .int v_tempo, .int v_seed, .int v_fault, z_refused, z_steps, z_kind, z_space, z_other, z_times, z_speed, z_base, z_share, z_notes, z_pitch, z_beats, z_held, z_sort, z_size, z_shown, z_cells, z_carried, z_words, z_tell, .int v_from, .int v_at, .int v_end, .int v_told, .int v_wrongAt, z_was, z_kept, .int v_culprit, z_cutSpace, z_cutTimes, z_cutOff, z_trace, .int v_ran, .int v_isKept]))]
def F_X10_isCar (v_cars : Int32) (x1 : Int32) (post : Int32 → Prop) : Prop := ((x1 < 0 → post 0) ∧ (¬ x1 < 0 → ((v_cars ≤ x1 → post 0) ∧ (¬ v_cars ≤ x1 → post 1))))
set_option maxHeartbeats 4000000 in
set_option maxRecDepth 100000 in
theorem c_X10_isCar {l : Launch} {D : va_G} {cI cJ cS : ClassId} {ad adK : Nat → Nat} {a_o : Nat} {z_refused z_steps z_kind z_space z_other z_times z_speed z_base z_share z_notes z_pitch z_beats z_held z_sort z_size z_shown z_cells z_carried z_words z_tell z_was z_kept z_cutSpace z_cutTimes z_cutOff z_trace : Value} {v_stretches : Int32} {v_cars : Int32} {v_tunes : Int32} {v_along : Int32} {v_near : Int32} {v_borne : Int32} {v_tempo : Int32} {v_seed : Int32} {v_fault : Int32} {v_from : Int32} {v_at : Int32} {v_end : Int32} {v_told : Int32} {v_wrongAt : Int32} {v_culprit : Int32} {v_ran : Int32} {v_isKept : Int32} {x1 : Int32} {post : Int32 → Prop} (h : F_X10_isCar v_cars x1 post) : Met l yX10_isCar (Cond.code yX10_isCar cX10_isCar 2 (some (.boolean)) :: GW) (rmd 0 0 0) (PR D cI cJ cS ad adK [.ref a_o, .int x1] (wX10_isCar cI cJ cS a_o z_refused z_steps z_kind z_space z_other z_times z_speed z_base z_share z_notes z_pitch z_beats z_held z_sort z_size z_shown z_cells z_carried z_words z_tell z_was z_kept z_cutSpace z_cutTimes z_cutOff z_trace v_stretches v_cars v_tunes v_along v_near v_borne v_tempo v_seed v_fault v_from v_at v_end v_told v_wrongAt v_culprit v_ran v_isKept)) (vp_Si post) 0 0 nof := by
  refine Met.ro (by decide) (Nat.le_of_ble_eq_true rfl) (fun p e s m args below meth c ls (S : CallFix p m c cX10_isCar 2 s args GW "RoadThatSingsModel") hE hT hP hS hr hlocks hl => ?_)
  have hx := S.1
  have hb := S.2.1
  have hl : lv_has ls 2 [(0, .ref a_o), (1, .int x1)] := hl
  unfold F_X10_isCar at h
  refine lv_iload_n hx hb dX10_isCar_0 rfl (lv_at hl 1 rfl) ?_
  refine lv_if_lt (tgt := 16) hx hb dX10_isCar_1 (by decide) (fun hc => ?_) (fun hc => ?_)
  · have h := h.1 hc
    refine lv_iconst (v := 0) hx hb dX10_isCar_16 (by decide) ?_
    exact W.zret hx hb hr rfl (fun t ht _ => ⟨_, rfl, h, ht⟩) (fun _ hq => by cases hq) dX10_isCar_17
  have h := h.2 hc
  refine lv_iload_n hx hb dX10_isCar_4 rfl (lv_at hl 1 rfl) ?_
  refine lv_aload_n hx hb dX10_isCar_5 rfl (lv_at hl 0 rfl) ?_
  refine gf S hE hP 0 rfl rfl inX10 (k := 1) (by decide) q1094 rfl dX10_isCar_6 ?_
  refine lv_icmp_ge (tgt := 16) hx hb dX10_isCar_9 (by decide) (fun hc => ?_) (fun hc => ?_)
  · have h := h.1 hc
    refine lv_iconst (v := 0) hx hb dX10_isCar_16 (by decide) ?_
    exact W.zret hx hb hr rfl (fun t ht _ => ⟨_, rfl, h, ht⟩) (fun _ hq => by cases hq) dX10_isCar_17
  have h := h.2 hc
  refine lv_iconst (v := 1) hx hb dX10_isCar_12 (by decide) ?_
  refine lv_goto (tgt := 17) hx hb dX10_isCar_13 (by decide) ?_
  exact W.zret hx hb hr rfl (fun t ht _ => ⟨_, rfl, h, ht⟩) (fun _ hq => by cases hq) dX10_isCar_17
/-! X10_isTune -/
abbrev wX10_isTune (cI cJ cS : ClassId) (a_o : Nat) (z_refused z_steps z_kind z_space z_other z_times z_speed z_base z_share z_notes z_pitch z_beats z_held z_sort z_size z_shown z_cells z_carried z_words z_tell z_was z_kept z_cutSpace z_cutTimes z_cutOff z_trace : Value) (v_stretches : Int32) (v_cars : Int32) (v_tunes : Int32) (v_along : Int32) (v_near : Int32) (v_borne : Int32) (v_tempo : Int32) (v_seed : Int32) (v_fault : Int32) (v_from : Int32) (v_at : Int32) (v_end : Int32) (v_told : Int32) (v_wrongAt : Int32) (v_culprit : Int32) (v_ran : Int32) (v_isKept : Int32) : va_W := [(a_o, .inr (9, [.int v_stretches, .int v_cars, .int v_tunes, .int v_along, .int v_near, .int v_borne, .int v_tempo, .int v_seed, .int v_fault, z_refused, z_steps, z_kind, z_space, z_other, z_times, z_speed, z_base, z_share, z_notes, z_pitch, z_beats, z_held, z_sort, z_size, z_shown, z_cells, z_carried, z_words, z_tell, .int v_from, .int v_at, .int v_end, .int v_told, .int v_wrongAt, z_was, z_kept, .int v_culprit, z_cutSpace, z_cutTimes, z_cutOff, z_trace, .int v_ran, .int v_isKept]))]
def F_X10_isTune (v_tunes : Int32) (x1 : Int32) (post : Int32 → Prop) : Prop := ((x1 < 0 → post 0) ∧ (¬ x1 < 0 → ((v_tunes ≤ x1 → post 0) ∧ (¬ v_tunes ≤ x1 → post 1))))
set_option maxHeartbeats 4000000 in
set_option maxRecDepth 100000 in
theorem c_X10_isTune {l : Launch} {D : va_G} {cI cJ cS : ClassId} {ad adK : Nat → Nat} {a_o : Nat} {z_refused z_steps z_kind z_space z_other z_times z_speed z_base z_share z_notes z_pitch z_beats z_held z_sort z_size z_shown z_cells z_carried z_words z_tell z_was z_kept z_cutSpace z_cutTimes z_cutOff z_trace : Value} {v_stretches : Int32} {v_cars : Int32} {v_tunes : Int32} {v_along : Int32} {v_near : Int32} {v_borne : Int32} {v_tempo : Int32} {v_seed : Int32} {v_fault : Int32} {v_from : Int32} {v_at : Int32} {v_end : Int32} {v_told : Int32} {v_wrongAt : Int32} {v_culprit : Int32} {v_ran : Int32} {v_isKept : Int32} {x1 : Int32} {post : Int32 → Prop} (h : F_X10_isTune v_tunes x1 post) : Met l yX10_isTune (Cond.code yX10_isTune cX10_isTune 2 (some (.boolean)) :: GW) (rmd 0 0 0) (PR D cI cJ cS ad adK [.ref a_o, .int x1] (wX10_isTune cI cJ cS a_o z_refused z_steps z_kind z_space z_other z_times z_speed z_base z_share z_notes z_pitch z_beats z_held z_sort z_size z_shown z_cells z_carried z_words z_tell z_was z_kept z_cutSpace z_cutTimes z_cutOff z_trace v_stretches v_cars v_tunes v_along v_near v_borne v_tempo v_seed v_fault v_from v_at v_end v_told v_wrongAt v_culprit v_ran v_isKept)) (vp_Si post) 0 0 nof := by
  refine Met.ro (by decide) (Nat.le_of_ble_eq_true rfl) (fun p e s m args below meth c ls (S : CallFix p m c cX10_isTune 2 s args GW "RoadThatSingsModel") hE hT hP hS hr hlocks hl => ?_)
  have hx := S.1
  have hb := S.2.1
  have hl : lv_has ls 2 [(0, .ref a_o), (1, .int x1)] := hl
  unfold F_X10_isTune at h
  refine lv_iload_n hx hb dX10_isTune_0 rfl (lv_at hl 1 rfl) ?_
  refine lv_if_lt (tgt := 16) hx hb dX10_isTune_1 (by decide) (fun hc => ?_) (fun hc => ?_)
  · have h := h.1 hc
    refine lv_iconst (v := 0) hx hb dX10_isTune_16 (by decide) ?_
    exact W.zret hx hb hr rfl (fun t ht _ => ⟨_, rfl, h, ht⟩) (fun _ hq => by cases hq) dX10_isTune_17
  have h := h.2 hc
  refine lv_iload_n hx hb dX10_isTune_4 rfl (lv_at hl 1 rfl) ?_
  refine lv_aload_n hx hb dX10_isTune_5 rfl (lv_at hl 0 rfl) ?_
  refine gf S hE hP 0 rfl rfl inX10 (k := 2) (by decide) q1095 rfl dX10_isTune_6 ?_
  refine lv_icmp_ge (tgt := 16) hx hb dX10_isTune_9 (by decide) (fun hc => ?_) (fun hc => ?_)
  · have h := h.1 hc
    refine lv_iconst (v := 0) hx hb dX10_isTune_16 (by decide) ?_
    exact W.zret hx hb hr rfl (fun t ht _ => ⟨_, rfl, h, ht⟩) (fun _ hq => by cases hq) dX10_isTune_17
  have h := h.2 hc
  refine lv_iconst (v := 1) hx hb dX10_isTune_12 (by decide) ?_
  refine lv_goto (tgt := 17) hx hb dX10_isTune_13 (by decide) ?_
  exact W.zret hx hb hr rfl (fun t ht _ => ⟨_, rfl, h, ht⟩) (fun _ hq => by cases hq) dX10_isTune_17
/-! X10_isSpeed -/
abbrev wX10_isSpeed (cI cJ cS : ClassId) (a_o : Nat) (z_refused z_steps z_kind z_space z_other z_times z_speed z_base z_share z_notes z_pitch z_beats z_held z_sort z_size z_shown z_cells z_carried z_words z_tell z_was z_kept z_cutSpace z_cutTimes z_cutOff z_trace : Value) (v_stretches : Int32) (v_cars : Int32) (v_tunes : Int32) (v_along : Int32) (v_near : Int32) (v_borne : Int32) (v_tempo : Int32) (v_seed : Int32) (v_fault : Int32) (v_from : Int32) (v_at : Int32) (v_end : Int32) (v_told : Int32) (v_wrongAt : Int32) (v_culprit : Int32) (v_ran : Int32) (v_isKept : Int32) : va_W := [(a_o, .inr (9, [.int v_stretches, .int v_cars, .int v_tunes, .int v_along, .int v_near, .int v_borne, .int v_tempo, .int v_seed, .int v_fault, z_refused, z_steps, z_kind, z_space, z_other, z_times, z_speed, z_base, z_share, z_notes, z_pitch, z_beats, z_held, z_sort, z_size, z_shown, z_cells, z_carried, z_words, z_tell, .int v_from, .int v_at, .int v_end, .int v_told, .int v_wrongAt, z_was, z_kept, .int v_culprit, z_cutSpace, z_cutTimes, z_cutOff, z_trace, .int v_ran, .int v_isKept]))]
def F_X10_isSpeed (x1 : Int32) (post : Int32 → Prop) : Prop := ((x1 < 1 → post 0) ∧ (¬ x1 < 1 → ((99 < x1 → post 0) ∧ (¬ 99 < x1 → post 1))))
set_option maxHeartbeats 4000000 in
set_option maxRecDepth 100000 in
theorem c_X10_isSpeed {l : Launch} {D : va_G} {cI cJ cS : ClassId} {ad adK : Nat → Nat} {a_o : Nat} {z_refused z_steps z_kind z_space z_other z_times z_speed z_base z_share z_notes z_pitch z_beats z_held z_sort z_size z_shown z_cells z_carried z_words z_tell z_was z_kept z_cutSpace z_cutTimes z_cutOff z_trace : Value} {v_stretches : Int32} {v_cars : Int32} {v_tunes : Int32} {v_along : Int32} {v_near : Int32} {v_borne : Int32} {v_tempo : Int32} {v_seed : Int32} {v_fault : Int32} {v_from : Int32} {v_at : Int32} {v_end : Int32} {v_told : Int32} {v_wrongAt : Int32} {v_culprit : Int32} {v_ran : Int32} {v_isKept : Int32} {x1 : Int32} {post : Int32 → Prop} (h : F_X10_isSpeed x1 post) : Met l yX10_isSpeed (Cond.code yX10_isSpeed cX10_isSpeed 2 (some (.boolean)) :: GW) (rmd 0 0 0) (PR D cI cJ cS ad adK [.ref a_o, .int x1] (wX10_isSpeed cI cJ cS a_o z_refused z_steps z_kind z_space z_other z_times z_speed z_base z_share z_notes z_pitch z_beats z_held z_sort z_size z_shown z_cells z_carried z_words z_tell z_was z_kept z_cutSpace z_cutTimes z_cutOff z_trace v_stretches v_cars v_tunes v_along v_near v_borne v_tempo v_seed v_fault v_from v_at v_end v_told v_wrongAt v_culprit v_ran v_isKept)) (vp_Si post) 0 0 nof := by
  refine Met.ro (by decide) (Nat.le_of_ble_eq_true rfl) (fun p e s m args below meth c ls (S : CallFix p m c cX10_isSpeed 2 s args GW "RoadThatSingsModel") hE hT hP hS hr hlocks hl => ?_)
  have hx := S.1
  have hb := S.2.1
  have hl : lv_has ls 2 [(0, .ref a_o), (1, .int x1)] := hl
  unfold F_X10_isSpeed at h
  refine lv_iload_n hx hb dX10_isSpeed_0 rfl (lv_at hl 1 rfl) ?_
  refine lv_iconst (v := 1) hx hb dX10_isSpeed_1 (by decide) ?_
  refine lv_icmp_lt (tgt := 15) hx hb dX10_isSpeed_2 (by decide) (fun hc => ?_) (fun hc => ?_)
  · have h := h.1 hc
    refine lv_iconst (v := 0) hx hb dX10_isSpeed_15 (by decide) ?_
    exact W.zret hx hb hr rfl (fun t ht _ => ⟨_, rfl, h, ht⟩) (fun _ hq => by cases hq) dX10_isSpeed_16
  have h := h.2 hc
  refine lv_iload_n hx hb dX10_isSpeed_5 rfl (lv_at hl 1 rfl) ?_
  refine lv_bipush (v := 99) hx hb dX10_isSpeed_6 (by decide) ?_
  refine lv_icmp_gt (tgt := 15) hx hb dX10_isSpeed_8 (by decide) (fun hc => ?_) (fun hc => ?_)
  · have h := h.1 hc
    refine lv_iconst (v := 0) hx hb dX10_isSpeed_15 (by decide) ?_
    exact W.zret hx hb hr rfl (fun t ht _ => ⟨_, rfl, h, ht⟩) (fun _ hq => by cases hq) dX10_isSpeed_16
  have h := h.2 hc
  refine lv_iconst (v := 1) hx hb dX10_isSpeed_11 (by decide) ?_
  refine lv_goto (tgt := 16) hx hb dX10_isSpeed_12 (by decide) ?_
  exact W.zret hx hb hr rfl (fun t ht _ => ⟨_, rfl, h, ht⟩) (fun _ hq => by cases hq) dX10_isSpeed_16
/-! X10_row -/
abbrev wX10_row (cI cJ cS : ClassId) (a_o a_cells a_held a_refused a_size a_sort : Nat) (z_steps z_kind z_space z_other z_times z_speed z_base z_share z_notes z_pitch z_beats z_shown z_carried z_words z_tell z_was z_kept z_cutSpace z_cutTimes z_cutOff z_trace : Value) (v_stretches : Int32) (v_cars : Int32) (v_tunes : Int32) (v_along : Int32) (v_near : Int32) (v_borne : Int32) (v_tempo : Int32) (v_seed : Int32) (v_fault : Int32) (v_from : Int32) (v_at : Int32) (v_end : Int32) (v_told : Int32) (v_wrongAt : Int32) (v_culprit : Int32) (v_ran : Int32) (v_isKept : Int32) (g_cells : Nat → Int64) (f_held : Nat → Int32) (f_refused : Nat → Int32) (f_size : Nat → Int32) (f_sort : Nat → Int32) : va_W := [(a_o, .inr (9, [.int v_stretches, .int v_cars, .int v_tunes, .int v_along, .int v_near, .int v_borne, .int v_tempo, .int v_seed, .int v_fault, .ref a_refused, z_steps, z_kind, z_space, z_other, z_times, z_speed, z_base, z_share, z_notes, z_pitch, z_beats, .ref a_held, .ref a_sort, .ref a_size, z_shown, .ref a_cells, z_carried, z_words, z_tell, .int v_from, .int v_at, .int v_end, .int v_told, .int v_wrongAt, z_was, z_kept, .int v_culprit, z_cutSpace, z_cutTimes, z_cutOff, z_trace, .int v_ran, .int v_isKept])), (a_cells, .inl (cJ, 1280, .inr (.inl g_cells))), (a_held, .inl (cI, 8, .inl f_held)), (a_refused, .inl (cI, 8, .inl f_refused)), (a_size, .inl (cI, 8, .inl f_size)), (a_sort, .inl (cI, 8, .inl f_sort))]
def L_X10_row_79 (x1 : Int32) (f_held : Nat → Int32) (f_refused : Nat → Int32) (f_size : Nat → Int32) (f_sort : Nat → Int32) (post : Int32 → (Nat → Int64) → (Nat → Int32) → (Nat → Int32) → (Nat → Int32) → (Nat → Int32) → Prop) : Nat → Int32 → (Nat → Int64) → Prop
  | 0, _, _ => False
  | n79 + 1, x4, g_cells => ((160 ≤ x4 → post 1 g_cells f_held f_refused f_size f_sort) ∧ (¬ 160 ≤ x4 → (vp_in ((160 * x1) + x4) 1280 ∧ (∀ x4_101 : Int32, x4_101 = x4 + 1 → L_X10_row_79 x1 f_held f_refused f_size f_sort post n79 x4_101 (vp_updL g_cells ((160 * x1) + x4).toNatClampNeg 0)))))
def F_X10_row (g_cells : Nat → Int64) (f_held : Nat → Int32) (f_refused : Nat → Int32) (f_size : Nat → Int32) (f_sort : Nat → Int32) (x1 : Int32) (x2 : Int32) (x3 : Int32) (post : Int32 → (Nat → Int64) → (Nat → Int32) → (Nat → Int32) → (Nat → Int32) → (Nat → Int32) → Prop) : Prop := (F_X10_isShelf x1 (fun r2 => ((r2 = 0 → (F_X10_no f_refused (-1) (fun r10 w10_0 => post r10 g_cells f_held w10_0 f_size f_sort))) ∧ (¬ r2 = 0 → ((0 ≤ x3 → ((x2 < 0 → (F_X10_no f_refused (-6) (fun r37 w37_0 => post r37 g_cells f_held w37_0 f_size f_sort))) ∧ (¬ x2 < 0 → ((x2 ≤ 3 → ((x3 ≤ 160 → (vp_in x1 8 ∧ (vp_in x1 8 ∧ (vp_in x1 8 ∧ (∃ n79 : Nat, L_X10_row_79 x1 (upd f_held x1.toNatClampNeg 1) f_refused (upd f_size x1.toNatClampNeg x3) (upd f_sort x1.toNatClampNeg x2) post n79 0 g_cells))))) ∧ (¬ x3 ≤ 160 → (F_X10_no f_refused (-7) (fun r51 w51_0 => post r51 g_cells f_held w51_0 f_size f_sort))))) ∧ (¬ x2 ≤ 3 → (F_X10_no f_refused (-6) (fun r37 w37_0 => post r37 g_cells f_held w37_0 f_size f_sort))))))) ∧ (¬ 0 ≤ x3 → (F_X10_no f_refused (-4) (fun r21 w21_0 => post r21 g_cells f_held w21_0 f_size f_sort))))))))
set_option maxHeartbeats 4000000 in
set_option maxRecDepth 100000 in
theorem w_X10_row_79 {l : Launch} {D : va_G} {cI cJ cS : ClassId} {ad adK : Nat → Nat} {a_o a_cells a_held a_refused a_size a_sort : Nat} {z_steps z_kind z_space z_other z_times z_speed z_base z_share z_notes z_pitch z_beats z_shown z_carried z_words z_tell z_was z_kept z_cutSpace z_cutTimes z_cutOff z_trace : Value} {v_stretches : Int32} {v_cars : Int32} {v_tunes : Int32} {v_along : Int32} {v_near : Int32} {v_borne : Int32} {v_tempo : Int32} {v_seed : Int32} {v_fault : Int32} {v_from : Int32} {v_at : Int32} {v_end : Int32} {v_told : Int32} {v_wrongAt : Int32} {v_culprit : Int32} {v_ran : Int32} {v_isKept : Int32} {f_held : Nat → Int32} {f_refused : Nat → Int32} {f_size : Nat → Int32} {f_sort : Nat → Int32} {x1 : Int32} {post : Int32 → (Nat → Int64) → (Nat → Int32) → (Nat → Int32) → (Nat → Int32) → (Nat → Int32) → Prop} {p : Program} {e : Env} {s : State} {m : MethodId} {args : Array Value} {below : List Frame} {meth : Method} {c : Code} {A : Nat → Prop} (S : CallFix p m c cX10_row 5 s args GW "RoadThatSingsModel") (hE : EN D cI cJ cS s) (hT : ST ad adK A s s.heap) (hA : ∀ q : Nat, s.heap.size ≤ q → A q) (hr : meth.sig.returnType = (some (.int))) (hlocks : meth.locks = false) : ∀ n : Nat, ∀ (x4 : Int32) (g_cells : Nat → Int64) (H : Heap) (locs : List Loc) (ls : Array Slot), L_X10_row_79 x1 f_held f_refused f_size f_sort post n x4 g_cells → va_P D vwCl (wX10_row cI cJ cS a_o a_cells a_held a_refused a_size a_sort z_steps z_kind z_space z_other z_times z_speed z_base z_share z_notes z_pitch z_beats z_shown z_carried z_words z_tell z_was z_kept z_cutSpace z_cutTimes z_cutOff z_trace v_stretches v_cars v_tunes v_along v_near v_borne v_tempo v_seed v_fault v_from v_at v_end v_told v_wrongAt v_culprit v_ran v_isKept g_cells f_held f_refused f_size f_sort) H → va_D A (wX10_row cI cJ cS a_o a_cells a_held a_refused a_size a_sort z_steps z_kind z_space z_other z_times z_speed z_base z_share z_notes z_pitch z_beats z_shown z_carried z_words z_tell z_was z_kept z_cutSpace z_cutTimes z_cutOff z_trace v_stretches v_cars v_tunes v_along v_near v_borne v_tempo v_seed v_fault v_from v_at v_end v_told v_wrongAt v_culprit v_ran v_isKept g_cells f_held f_refused f_size f_sort) → va_S A s.heap H locs → lv_has ls 5 [(0, .ref a_o), (1, .int x1), (4, .int x4)] → W p l e (rmd 1 0 0) s m args below meth c H locs 0 0 (MQ below (va_Qi (fun r (u : (Nat → Int64) × (Nat → Int32) × (Nat → Int32) × (Nat → Int32) × (Nat → Int32)) => post r u.1 u.2.1 u.2.2.1 u.2.2.2.1 u.2.2.2.2) (fun u t => va_P D vwCl (wX10_row cI cJ cS a_o a_cells a_held a_refused a_size a_sort z_steps z_kind z_space z_other z_times z_speed z_base z_share z_notes z_pitch z_beats z_shown z_carried z_words z_tell z_was z_kept z_cutSpace z_cutTimes z_cutOff z_trace v_stretches v_cars v_tunes v_along v_near v_borne v_tempo v_seed v_fault v_from v_at v_end v_told v_wrongAt v_culprit v_ran v_isKept u.1 u.2.1 u.2.2.1 u.2.2.2.1 u.2.2.2.2) t.heap) A) args s 0 0 A) (F0 m 79 ls []) := by
  intro n
  induction n with
  | zero =>
    intro x4 g_cells H locs ls h hP hD hS hl
    exact h.elim
  | succ n ih =>
    intro x4 g_cells H locs ls h hP hD hS hl
    rw [L_X10_row_79] at h
    have hx := S.1
    have hb := S.2.1
    refine lv_iload hx hb dX10_row_79 (lv_at hl 2 rfl) ?_
    refine lv_sipush (v := 160) hx hb dX10_row_81 (by decide) ?_
    refine lv_icmp_ge (tgt := 107) hx hb dX10_row_84 (by decide) (fun hc => ?_) (fun hc => ?_)
    · have h := h.1 hc
      refine lv_iconst (v := 1) hx hb dX10_row_107 (by decide) ?_
      exact W.iret hx hb hr (fun t ht _ => ⟨⟨_, (g_cells, f_held, f_refused, f_size, f_sort), rfl, h, hPt hP ht⟩, hS.F ht⟩) hS.2.2 dX10_row_108
    have h := h.2 hc
    refine lv_aload_n hx hb dX10_row_87 rfl (lv_at hl 0 rfl) ?_
    refine gf S hE hP 0 rfl rfl inX10 (k := 25) (by decide) q1118 rfl dX10_row_88 ?_
    refine lv_sipush (v := 160) hx hb dX10_row_91 (by decide) ?_
    refine lv_iload_n hx hb dX10_row_94 rfl (lv_at hl 1 rfl) ?_
    refine lv_imul hx hb dX10_row_95 ?_
    refine lv_iload hx hb dX10_row_96 (lv_at hl 2 rfl) ?_
    refine lv_iadd hx hb dX10_row_98 ?_
    refine lv_lconst (v := 0) hx hb dX10_row_99 (by decide) ?_
    obtain ⟨hi, h⟩ := h
    refine las S hE hP hD hS 1 rfl hi dX10_row_100 (fun H locs hP hD hS => ?_)
    have hP : va_P D vwCl (wX10_row cI cJ cS a_o a_cells a_held a_refused a_size a_sort z_steps z_kind z_space z_other z_times z_speed z_base z_share z_notes z_pitch z_beats z_shown z_carried z_words z_tell z_was z_kept z_cutSpace z_cutTimes z_cutOff z_trace v_stretches v_cars v_tunes v_along v_near v_borne v_tempo v_seed v_fault v_from v_at v_end v_told v_wrongAt v_culprit v_ran v_isKept (vp_updL g_cells ((160 * x1) + x4).toNatClampNeg 0) f_held f_refused f_size f_sort) H := hP
    have hD : va_D A (wX10_row cI cJ cS a_o a_cells a_held a_refused a_size a_sort z_steps z_kind z_space z_other z_times z_speed z_base z_share z_notes z_pitch z_beats z_shown z_carried z_words z_tell z_was z_kept z_cutSpace z_cutTimes z_cutOff z_trace v_stretches v_cars v_tunes v_along v_near v_borne v_tempo v_seed v_fault v_from v_at v_end v_told v_wrongAt v_culprit v_ran v_isKept (vp_updL g_cells ((160 * x1) + x4).toNatClampNeg 0) f_held f_refused f_size f_sort) := hD
    obtain ⟨x4_101, ex4_101⟩ : ∃ z : Int32, z = x4 + 1 := ⟨_, rfl⟩
    have h := h _ ex4_101
    refine lv_iinc (v := x4_101) (lv' := [(4, .int x4_101), (0, .ref a_o), (1, .int x1)]) hx hb dX10_row_101 hl (k := 2) rfl (by rw [ex4_101]; rfl) (by decide) rfl (fun ls hl => ?_)
    refine lv_goto (tgt := 79) hx hb dX10_row_104 (by decide) ?_
    exact ih _ _ _ _ _ h hP hD hS (lv_sub hl [1, 2, 0] rfl)
set_option maxHeartbeats 4000000 in
set_option maxRecDepth 100000 in
theorem c_X10_row {l : Launch} {D : va_G} {cI cJ cS : ClassId} {ad adK : Nat → Nat} {a_o a_cells a_held a_refused a_size a_sort : Nat} {z_steps z_kind z_space z_other z_times z_speed z_base z_share z_notes z_pitch z_beats z_shown z_carried z_words z_tell z_was z_kept z_cutSpace z_cutTimes z_cutOff z_trace : Value} {v_stretches : Int32} {v_cars : Int32} {v_tunes : Int32} {v_along : Int32} {v_near : Int32} {v_borne : Int32} {v_tempo : Int32} {v_seed : Int32} {v_fault : Int32} {v_from : Int32} {v_at : Int32} {v_end : Int32} {v_told : Int32} {v_wrongAt : Int32} {v_culprit : Int32} {v_ran : Int32} {v_isKept : Int32} {g_cells : Nat → Int64} {f_held : Nat → Int32} {f_refused : Nat → Int32} {f_size : Nat → Int32} {f_sort : Nat → Int32} {x1 : Int32} {x2 : Int32} {x3 : Int32} {post : Int32 → (Nat → Int64) → (Nat → Int32) → (Nat → Int32) → (Nat → Int32) → (Nat → Int32) → Prop} (h : F_X10_row g_cells f_held f_refused f_size f_sort x1 x2 x3 post) {sz : Nat} : Met l yX10_row (Cond.code yX10_row cX10_row 5 (some (.int)) :: GW) (rmd 1 0 0) (PW D cI cJ cS ad adK [.ref a_o, .int x1, .int x2, .int x3] (wX10_row cI cJ cS a_o a_cells a_held a_refused a_size a_sort z_steps z_kind z_space z_other z_times z_speed z_base z_share z_notes z_pitch z_beats z_shown z_carried z_words z_tell z_was z_kept z_cutSpace z_cutTimes z_cutOff z_trace v_stretches v_cars v_tunes v_along v_near v_borne v_tempo v_seed v_fault v_from v_at v_end v_told v_wrongAt v_culprit v_ran v_isKept g_cells f_held f_refused f_size f_sort) sz) (va_Qi (fun r (u : (Nat → Int64) × (Nat → Int32) × (Nat → Int32) × (Nat → Int32) × (Nat → Int32)) => post r u.1 u.2.1 u.2.2.1 u.2.2.2.1 u.2.2.2.2) (fun u t => va_P D vwCl (wX10_row cI cJ cS a_o a_cells a_held a_refused a_size a_sort z_steps z_kind z_space z_other z_times z_speed z_base z_share z_notes z_pitch z_beats z_shown z_carried z_words z_tell z_was z_kept z_cutSpace z_cutTimes z_cutOff z_trace v_stretches v_cars v_tunes v_along v_near v_borne v_tempo v_seed v_fault v_from v_at v_end v_told v_wrongAt v_culprit v_ran v_isKept u.1 u.2.1 u.2.2.1 u.2.2.2.1 u.2.2.2.2) t.heap) (va_A (wX10_row cI cJ cS a_o a_cells a_held a_refused a_size a_sort z_steps z_kind z_space z_other z_times z_speed z_base z_share z_notes z_pitch z_beats z_shown z_carried z_words z_tell z_was z_kept z_cutSpace z_cutTimes z_cutOff z_trace v_stretches v_cars v_tunes v_along v_near v_borne v_tempo v_seed v_fault v_from v_at v_end v_told v_wrongAt v_culprit v_ran v_isKept g_cells f_held f_refused f_size f_sort) sz)) 0 0 (va_A (wX10_row cI cJ cS a_o a_cells a_held a_refused a_size a_sort z_steps z_kind z_space z_other z_times z_speed z_base z_share z_notes z_pitch z_beats z_shown z_carried z_words z_tell z_was z_kept z_cutSpace z_cutTimes z_cutOff z_trace v_stretches v_cars v_tunes v_along v_near v_borne v_tempo v_seed v_fault v_from v_at v_end v_told v_wrongAt v_culprit v_ran v_isKept g_cells f_held f_refused f_size f_sort) sz) := by
  refine Met.rw (Qc := fun A => (va_Qi (fun r (u : (Nat → Int64) × (Nat → Int32) × (Nat → Int32) × (Nat → Int32) × (Nat → Int32)) => post r u.1 u.2.1 u.2.2.1 u.2.2.2.1 u.2.2.2.2) (fun u t => va_P D vwCl (wX10_row cI cJ cS a_o a_cells a_held a_refused a_size a_sort z_steps z_kind z_space z_other z_times z_speed z_base z_share z_notes z_pitch z_beats z_shown z_carried z_words z_tell z_was z_kept z_cutSpace z_cutTimes z_cutOff z_trace v_stretches v_cars v_tunes v_along v_near v_borne v_tempo v_seed v_fault v_from v_at v_end v_told v_wrongAt v_culprit v_ran v_isKept u.1 u.2.1 u.2.2.1 u.2.2.2.1 u.2.2.2.2) t.heap) A)) (by decide) (Nat.le_of_ble_eq_true rfl) (fun p e s m args below meth c ls A (S : CallFix p m c cX10_row 5 s args GW "RoadThatSingsModel") hE hT hP hD hA hS hr hlocks hname hl => ?_)
  have hS0 := hS
  have hx := S.1
  have hb := S.2.1
  have hl : lv_has ls 5 [(0, .ref a_o), (1, .int x1), (2, .int x2), (3, .int x3)] := hl
  unfold F_X10_row at h
  refine lv_aload_n hx hb dX10_row_0 rfl (lv_at hl 0 rfl) ?_
  refine lv_iload_n hx hb dX10_row_1 rfl (lv_at hl 1 rfl) ?_
  refine ro_i (roV S hE hT hS (c_X10_isShelf h) lkX10_117 rfl ⟨(Nat.le_of_ble_eq_true rfl), (Nat.le_of_ble_eq_true rfl)⟩ (hP.sub [0] rfl) 0 rfl rfl hl.1 rfl (Nat.le_of_ble_eq_true rfl) dX10_row_2 ⟨(Nat.zero_le _), (Nat.zero_le _)⟩) (fun r2 h => ?_)
  refine lv_if_ne (tgt := 14) hx hb dX10_row_5 (by decide) (fun hc => ?_) (fun hc => ?_)
  · have h := h.2 hc
    refine lv_iload_n hx hb dX10_row_14 rfl (lv_at hl 3 rfl) ?_
    refine lv_if_ge (tgt := 25) hx hb dX10_row_15 (by decide) (fun hc => ?_) (fun hc => ?_)
    · have h := h.1 hc
      refine lv_iload_n hx hb dX10_row_25 rfl (lv_at hl 2 rfl) ?_
      refine lv_if_lt (tgt := 34) hx hb dX10_row_26 (by decide) (fun hc => ?_) (fun hc => ?_)
      · have h := h.1 hc
        refine lv_aload_n hx hb dX10_row_34 rfl (lv_at hl 0 rfl) ?_
        refine lv_bipush (v := (-6)) hx hb dX10_row_35 (by decide) ?_
        refine rw_i (rwV S hE hT hS hP hD hA (c_X10_no h) [0, 3] rfl (by decide +kernel) lkX10_121 rfl ⟨(Nat.le_of_ble_eq_true rfl), (Nat.le_of_ble_eq_true rfl)⟩ 0 rfl rfl hl.1 rfl (Nat.le_of_ble_eq_true rfl) dX10_row_37 ⟨(Nat.zero_le _), (Nat.zero_le _)⟩) hP hD hS hA [0, 3] rfl (by decide +kernel) (fun _ => rfl) (fun r37 w37_0 H locs h hP hD hS => ?_)
        try dsimp only at h
        have hP : va_P D vwCl (wX10_row cI cJ cS a_o a_cells a_held a_refused a_size a_sort z_steps z_kind z_space z_other z_times z_speed z_base z_share z_notes z_pitch z_beats z_shown z_carried z_words z_tell z_was z_kept z_cutSpace z_cutTimes z_cutOff z_trace v_stretches v_cars v_tunes v_along v_near v_borne v_tempo v_seed v_fault v_from v_at v_end v_told v_wrongAt v_culprit v_ran v_isKept g_cells f_held w37_0 f_size f_sort) H := hP
        have hD : va_D A (wX10_row cI cJ cS a_o a_cells a_held a_refused a_size a_sort z_steps z_kind z_space z_other z_times z_speed z_base z_share z_notes z_pitch z_beats z_shown z_carried z_words z_tell z_was z_kept z_cutSpace z_cutTimes z_cutOff z_trace v_stretches v_cars v_tunes v_along v_near v_borne v_tempo v_seed v_fault v_from v_at v_end v_told v_wrongAt v_culprit v_ran v_isKept g_cells f_held w37_0 f_size f_sort) := hD
        exact W.iret hx hb hr (fun t ht _ => ⟨⟨_, (g_cells, f_held, w37_0, f_size, f_sort), rfl, h, hPt hP ht⟩, hS.F ht⟩) hS.2.2 dX10_row_40
      have h := h.2 hc
      refine lv_iload_n hx hb dX10_row_29 rfl (lv_at hl 2 rfl) ?_
      refine lv_iconst (v := 3) hx hb dX10_row_30 (by decide) ?_
      refine lv_icmp_le (tgt := 41) hx hb dX10_row_31 (by decide) (fun hc => ?_) (fun hc => ?_)
      · have h := h.1 hc
        refine lv_iload_n hx hb dX10_row_41 rfl (lv_at hl 3 rfl) ?_
        refine lv_sipush (v := 160) hx hb dX10_row_42 (by decide) ?_
        refine lv_icmp_le (tgt := 55) hx hb dX10_row_45 (by decide) (fun hc => ?_) (fun hc => ?_)
        · have h := h.1 hc
          refine lv_aload_n hx hb dX10_row_55 rfl (lv_at hl 0 rfl) ?_
          refine gf S hE hP 0 rfl rfl inX10 (k := 21) (by decide) q1114 rfl dX10_row_56 ?_
          refine lv_iload_n hx hb dX10_row_59 rfl (lv_at hl 1 rfl) ?_
          refine lv_iconst (v := 1) hx hb dX10_row_60 (by decide) ?_
          obtain ⟨hi, h⟩ := h
          refine ias S hE hP hD hS 2 rfl hi dX10_row_61 (fun H locs hP hD hS => ?_)
          have hP : va_P D vwCl (wX10_row cI cJ cS a_o a_cells a_held a_refused a_size a_sort z_steps z_kind z_space z_other z_times z_speed z_base z_share z_notes z_pitch z_beats z_shown z_carried z_words z_tell z_was z_kept z_cutSpace z_cutTimes z_cutOff z_trace v_stretches v_cars v_tunes v_along v_near v_borne v_tempo v_seed v_fault v_from v_at v_end v_told v_wrongAt v_culprit v_ran v_isKept g_cells (upd f_held x1.toNatClampNeg 1) f_refused f_size f_sort) H := hP
          have hD : va_D A (wX10_row cI cJ cS a_o a_cells a_held a_refused a_size a_sort z_steps z_kind z_space z_other z_times z_speed z_base z_share z_notes z_pitch z_beats z_shown z_carried z_words z_tell z_was z_kept z_cutSpace z_cutTimes z_cutOff z_trace v_stretches v_cars v_tunes v_along v_near v_borne v_tempo v_seed v_fault v_from v_at v_end v_told v_wrongAt v_culprit v_ran v_isKept g_cells (upd f_held x1.toNatClampNeg 1) f_refused f_size f_sort) := hD
          refine lv_aload_n hx hb dX10_row_62 rfl (lv_at hl 0 rfl) ?_
          refine gf S hE hP 0 rfl rfl inX10 (k := 22) (by decide) q1115 rfl dX10_row_63 ?_
          refine lv_iload_n hx hb dX10_row_66 rfl (lv_at hl 1 rfl) ?_
          refine lv_iload_n hx hb dX10_row_67 rfl (lv_at hl 2 rfl) ?_
          obtain ⟨hi, h⟩ := h
          refine ias S hE hP hD hS 5 rfl hi dX10_row_68 (fun H locs hP hD hS => ?_)
          have hP : va_P D vwCl (wX10_row cI cJ cS a_o a_cells a_held a_refused a_size a_sort z_steps z_kind z_space z_other z_times z_speed z_base z_share z_notes z_pitch z_beats z_shown z_carried z_words z_tell z_was z_kept z_cutSpace z_cutTimes z_cutOff z_trace v_stretches v_cars v_tunes v_along v_near v_borne v_tempo v_seed v_fault v_from v_at v_end v_told v_wrongAt v_culprit v_ran v_isKept g_cells (upd f_held x1.toNatClampNeg 1) f_refused f_size (upd f_sort x1.toNatClampNeg x2)) H := hP
          have hD : va_D A (wX10_row cI cJ cS a_o a_cells a_held a_refused a_size a_sort z_steps z_kind z_space z_other z_times z_speed z_base z_share z_notes z_pitch z_beats z_shown z_carried z_words z_tell z_was z_kept z_cutSpace z_cutTimes z_cutOff z_trace v_stretches v_cars v_tunes v_along v_near v_borne v_tempo v_seed v_fault v_from v_at v_end v_told v_wrongAt v_culprit v_ran v_isKept g_cells (upd f_held x1.toNatClampNeg 1) f_refused f_size (upd f_sort x1.toNatClampNeg x2)) := hD
          refine lv_aload_n hx hb dX10_row_69 rfl (lv_at hl 0 rfl) ?_
          refine gf S hE hP 0 rfl rfl inX10 (k := 23) (by decide) q1116 rfl dX10_row_70 ?_
          refine lv_iload_n hx hb dX10_row_73 rfl (lv_at hl 1 rfl) ?_
          refine lv_iload_n hx hb dX10_row_74 rfl (lv_at hl 3 rfl) ?_
          obtain ⟨hi, h⟩ := h
          refine ias S hE hP hD hS 4 rfl hi dX10_row_75 (fun H locs hP hD hS => ?_)
          have hP : va_P D vwCl (wX10_row cI cJ cS a_o a_cells a_held a_refused a_size a_sort z_steps z_kind z_space z_other z_times z_speed z_base z_share z_notes z_pitch z_beats z_shown z_carried z_words z_tell z_was z_kept z_cutSpace z_cutTimes z_cutOff z_trace v_stretches v_cars v_tunes v_along v_near v_borne v_tempo v_seed v_fault v_from v_at v_end v_told v_wrongAt v_culprit v_ran v_isKept g_cells (upd f_held x1.toNatClampNeg 1) f_refused (upd f_size x1.toNatClampNeg x3) (upd f_sort x1.toNatClampNeg x2)) H := hP
          have hD : va_D A (wX10_row cI cJ cS a_o a_cells a_held a_refused a_size a_sort z_steps z_kind z_space z_other z_times z_speed z_base z_share z_notes z_pitch z_beats z_shown z_carried z_words z_tell z_was z_kept z_cutSpace z_cutTimes z_cutOff z_trace v_stretches v_cars v_tunes v_along v_near v_borne v_tempo v_seed v_fault v_from v_at v_end v_told v_wrongAt v_culprit v_ran v_isKept g_cells (upd f_held x1.toNatClampNeg 1) f_refused (upd f_size x1.toNatClampNeg x3) (upd f_sort x1.toNatClampNeg x2)) := hD
          refine lv_iconst (v := 0) hx hb dX10_row_76 (by decide) ?_
          refine lv_istore (lv' := [(4, .int 0), (0, .ref a_o), (1, .int x1), (2, .int x2), (3, .int x3)]) hx hb dX10_row_77 hl (by decide) rfl (fun ls hl => ?_)
          obtain ⟨n, h⟩ := h
          refine w_X10_row_79 S hE hT hA hr hlocks n _ _ _ _ _ h hP hD hS (lv_sub hl [1, 2, 0] rfl)
        have h := h.2 hc
        refine lv_aload_n hx hb dX10_row_48 rfl (lv_at hl 0 rfl) ?_
        refine lv_bipush (v := (-7)) hx hb dX10_row_49 (by decide) ?_
        refine rw_i (rwV S hE hT hS hP hD hA (c_X10_no h) [0, 3] rfl (by decide +kernel) lkX10_121 rfl ⟨(Nat.le_of_ble_eq_true rfl), (Nat.le_of_ble_eq_true rfl)⟩ 0 rfl rfl hl.1 rfl (Nat.le_of_ble_eq_true rfl) dX10_row_51 ⟨(Nat.zero_le _), (Nat.zero_le _)⟩) hP hD hS hA [0, 3] rfl (by decide +kernel) (fun _ => rfl) (fun r51 w51_0 H locs h hP hD hS => ?_)
        try dsimp only at h
        have hP : va_P D vwCl (wX10_row cI cJ cS a_o a_cells a_held a_refused a_size a_sort z_steps z_kind z_space z_other z_times z_speed z_base z_share z_notes z_pitch z_beats z_shown z_carried z_words z_tell z_was z_kept z_cutSpace z_cutTimes z_cutOff z_trace v_stretches v_cars v_tunes v_along v_near v_borne v_tempo v_seed v_fault v_from v_at v_end v_told v_wrongAt v_culprit v_ran v_isKept g_cells f_held w51_0 f_size f_sort) H := hP
        have hD : va_D A (wX10_row cI cJ cS a_o a_cells a_held a_refused a_size a_sort z_steps z_kind z_space z_other z_times z_speed z_base z_share z_notes z_pitch z_beats z_shown z_carried z_words z_tell z_was z_kept z_cutSpace z_cutTimes z_cutOff z_trace v_stretches v_cars v_tunes v_along v_near v_borne v_tempo v_seed v_fault v_from v_at v_end v_told v_wrongAt v_culprit v_ran v_isKept g_cells f_held w51_0 f_size f_sort) := hD
        exact W.iret hx hb hr (fun t ht _ => ⟨⟨_, (g_cells, f_held, w51_0, f_size, f_sort), rfl, h, hPt hP ht⟩, hS.F ht⟩) hS.2.2 dX10_row_54
      have h := h.2 hc
      refine lv_aload_n hx hb dX10_row_34 rfl (lv_at hl 0 rfl) ?_
      refine lv_bipush (v := (-6)) hx hb dX10_row_35 (by decide) ?_
      refine rw_i (rwV S hE hT hS hP hD hA (c_X10_no h) [0, 3] rfl (by decide +kernel) lkX10_121 rfl ⟨(Nat.le_of_ble_eq_true rfl), (Nat.le_of_ble_eq_true rfl)⟩ 0 rfl rfl hl.1 rfl (Nat.le_of_ble_eq_true rfl) dX10_row_37 ⟨(Nat.zero_le _), (Nat.zero_le _)⟩) hP hD hS hA [0, 3] rfl (by decide +kernel) (fun _ => rfl) (fun r37 w37_0 H locs h hP hD hS => ?_)
      try dsimp only at h
      have hP : va_P D vwCl (wX10_row cI cJ cS a_o a_cells a_held a_refused a_size a_sort z_steps z_kind z_space z_other z_times z_speed z_base z_share z_notes z_pitch z_beats z_shown z_carried z_words z_tell z_was z_kept z_cutSpace z_cutTimes z_cutOff z_trace v_stretches v_cars v_tunes v_along v_near v_borne v_tempo v_seed v_fault v_from v_at v_end v_told v_wrongAt v_culprit v_ran v_isKept g_cells f_held w37_0 f_size f_sort) H := hP
      have hD : va_D A (wX10_row cI cJ cS a_o a_cells a_held a_refused a_size a_sort z_steps z_kind z_space z_other z_times z_speed z_base z_share z_notes z_pitch z_beats z_shown z_carried z_words z_tell z_was z_kept z_cutSpace z_cutTimes z_cutOff z_trace v_stretches v_cars v_tunes v_along v_near v_borne v_tempo v_seed v_fault v_from v_at v_end v_told v_wrongAt v_culprit v_ran v_isKept g_cells f_held w37_0 f_size f_sort) := hD
      exact W.iret hx hb hr (fun t ht _ => ⟨⟨_, (g_cells, f_held, w37_0, f_size, f_sort), rfl, h, hPt hP ht⟩, hS.F ht⟩) hS.2.2 dX10_row_40
    have h := h.2 hc
    refine lv_aload_n hx hb dX10_row_18 rfl (lv_at hl 0 rfl) ?_
    refine lv_bipush (v := (-4)) hx hb dX10_row_19 (by decide) ?_
    refine rw_i (rwV S hE hT hS hP hD hA (c_X10_no h) [0, 3] rfl (by decide +kernel) lkX10_121 rfl ⟨(Nat.le_of_ble_eq_true rfl), (Nat.le_of_ble_eq_true rfl)⟩ 0 rfl rfl hl.1 rfl (Nat.le_of_ble_eq_true rfl) dX10_row_21 ⟨(Nat.zero_le _), (Nat.zero_le _)⟩) hP hD hS hA [0, 3] rfl (by decide +kernel) (fun _ => rfl) (fun r21 w21_0 H locs h hP hD hS => ?_)
    try dsimp only at h
    have hP : va_P D vwCl (wX10_row cI cJ cS a_o a_cells a_held a_refused a_size a_sort z_steps z_kind z_space z_other z_times z_speed z_base z_share z_notes z_pitch z_beats z_shown z_carried z_words z_tell z_was z_kept z_cutSpace z_cutTimes z_cutOff z_trace v_stretches v_cars v_tunes v_along v_near v_borne v_tempo v_seed v_fault v_from v_at v_end v_told v_wrongAt v_culprit v_ran v_isKept g_cells f_held w21_0 f_size f_sort) H := hP
    have hD : va_D A (wX10_row cI cJ cS a_o a_cells a_held a_refused a_size a_sort z_steps z_kind z_space z_other z_times z_speed z_base z_share z_notes z_pitch z_beats z_shown z_carried z_words z_tell z_was z_kept z_cutSpace z_cutTimes z_cutOff z_trace v_stretches v_cars v_tunes v_along v_near v_borne v_tempo v_seed v_fault v_from v_at v_end v_told v_wrongAt v_culprit v_ran v_isKept g_cells f_held w21_0 f_size f_sort) := hD
    exact W.iret hx hb hr (fun t ht _ => ⟨⟨_, (g_cells, f_held, w21_0, f_size, f_sort), rfl, h, hPt hP ht⟩, hS.F ht⟩) hS.2.2 dX10_row_24
  have h := h.1 hc
  refine lv_aload_n hx hb dX10_row_8 rfl (lv_at hl 0 rfl) ?_
  refine lv_iconst (v := (-1)) hx hb dX10_row_9 (by decide) ?_
  refine rw_i (rwV S hE hT hS hP hD hA (c_X10_no h) [0, 3] rfl (by decide +kernel) lkX10_121 rfl ⟨(Nat.le_of_ble_eq_true rfl), (Nat.le_of_ble_eq_true rfl)⟩ 0 rfl rfl hl.1 rfl (Nat.le_of_ble_eq_true rfl) dX10_row_10 ⟨(Nat.zero_le _), (Nat.zero_le _)⟩) hP hD hS hA [0, 3] rfl (by decide +kernel) (fun _ => rfl) (fun r10 w10_0 H locs h hP hD hS => ?_)
  try dsimp only at h
  have hP : va_P D vwCl (wX10_row cI cJ cS a_o a_cells a_held a_refused a_size a_sort z_steps z_kind z_space z_other z_times z_speed z_base z_share z_notes z_pitch z_beats z_shown z_carried z_words z_tell z_was z_kept z_cutSpace z_cutTimes z_cutOff z_trace v_stretches v_cars v_tunes v_along v_near v_borne v_tempo v_seed v_fault v_from v_at v_end v_told v_wrongAt v_culprit v_ran v_isKept g_cells f_held w10_0 f_size f_sort) H := hP
  have hD : va_D A (wX10_row cI cJ cS a_o a_cells a_held a_refused a_size a_sort z_steps z_kind z_space z_other z_times z_speed z_base z_share z_notes z_pitch z_beats z_shown z_carried z_words z_tell z_was z_kept z_cutSpace z_cutTimes z_cutOff z_trace v_stretches v_cars v_tunes v_along v_near v_borne v_tempo v_seed v_fault v_from v_at v_end v_told v_wrongAt v_culprit v_ran v_isKept g_cells f_held w10_0 f_size f_sort) := hD
  exact W.iret hx hb hr (fun t ht _ => ⟨⟨_, (g_cells, f_held, w10_0, f_size, f_sort), rfl, h, hPt hP ht⟩, hS.F ht⟩) hS.2.2 dX10_row_13
/-! X10_set -/
abbrev wX10_set (cI cJ cS : ClassId) (a_o a_cells a_held a_refused a_size a_sort : Nat) (z_steps z_kind z_space z_other z_times z_speed z_base z_share z_notes z_pitch z_beats z_shown z_carried z_words z_tell z_was z_kept z_cutSpace z_cutTimes z_cutOff z_trace : Value) (v_stretches : Int32) (v_cars : Int32) (v_tunes : Int32) (v_along : Int32) (v_near : Int32) (v_borne : Int32) (v_tempo : Int32) (v_seed : Int32) (v_fault : Int32) (v_from : Int32) (v_at : Int32) (v_end : Int32) (v_told : Int32) (v_wrongAt : Int32) (v_culprit : Int32) (v_ran : Int32) (v_isKept : Int32) (g_cells : Nat → Int64) (f_held : Nat → Int32) (f_refused : Nat → Int32) (f_size : Nat → Int32) (f_sort : Nat → Int32) : va_W := [(a_o, .inr (9, [.int v_stretches, .int v_cars, .int v_tunes, .int v_along, .int v_near, .int v_borne, .int v_tempo, .int v_seed, .int v_fault, .ref a_refused, z_steps, z_kind, z_space, z_other, z_times, z_speed, z_base, z_share, z_notes, z_pitch, z_beats, .ref a_held, .ref a_sort, .ref a_size, z_shown, .ref a_cells, z_carried, z_words, z_tell, .int v_from, .int v_at, .int v_end, .int v_told, .int v_wrongAt, z_was, z_kept, .int v_culprit, z_cutSpace, z_cutTimes, z_cutOff, z_trace, .int v_ran, .int v_isKept])), (a_cells, .inl (cJ, 1280, .inr (.inl g_cells))), (a_held, .inl (cI, 8, .inl f_held)), (a_refused, .inl (cI, 8, .inl f_refused)), (a_size, .inl (cI, 8, .inl f_size)), (a_sort, .inl (cI, 8, .inl f_sort))]
def F_X10_set (g_cells : Nat → Int64) (f_held : Nat → Int32) (f_refused : Nat → Int32) (f_size : Nat → Int32) (f_sort : Nat → Int32) (x1 : Int32) (x2 : Int32) (y3 : Int64) (post : Int32 → (Nat → Int64) → (Nat → Int32) → Prop) : Prop := (F_X10_isShelf x1 (fun r2 => ((r2 = 0 → (F_X10_no f_refused (-1) (fun r10 w10_0 => post r10 g_cells w10_0))) ∧ (¬ r2 = 0 → (vp_in x1 8 ∧ (((f_held x1.toNatClampNeg) = 2 → (F_X10_no f_refused (-2) (fun r27 w27_0 => post r27 g_cells w27_0))) ∧ (¬ (f_held x1.toNatClampNeg) = 2 → (vp_in x1 8 ∧ (((f_held x1.toNatClampNeg) = 0 → (F_X10_no f_refused (-3) (fun r43 w43_0 => post r43 g_cells w43_0))) ∧ (¬ (f_held x1.toNatClampNeg) = 0 → ((x2 < 0 → (F_X10_no f_refused (-5) (fun r64 w64_0 => post r64 g_cells w64_0))) ∧ (¬ x2 < 0 → (vp_in x1 8 ∧ ((x2 < (f_size x1.toNatClampNeg) → (vp_in x1 8 ∧ (((f_sort x1.toNatClampNeg) = 0 → (vp_in ((160 * x1) + x2) 1280 ∧ post 1 (vp_updL g_cells ((160 * x1) + x2).toNatClampNeg y3.toInt32.toInt8.toInt32.toInt64) f_refused)) ∧ (¬ (f_sort x1.toNatClampNeg) = 0 → (vp_in x1 8 ∧ (((f_sort x1.toNatClampNeg) = 1 → (vp_in ((160 * x1) + x2) 1280 ∧ post 1 (vp_updL g_cells ((160 * x1) + x2).toNatClampNeg y3.toInt32.toInt16.toInt32.toInt64) f_refused)) ∧ (¬ (f_sort x1.toNatClampNeg) = 1 → (vp_in x1 8 ∧ (((f_sort x1.toNatClampNeg) = 2 → (vp_in ((160 * x1) + x2) 1280 ∧ post 1 (vp_updL g_cells ((160 * x1) + x2).toNatClampNeg y3.toInt32.toInt64) f_refused)) ∧ (¬ (f_sort x1.toNatClampNeg) = 2 → (vp_in ((160 * x1) + x2) 1280 ∧ post 1 (vp_updL g_cells ((160 * x1) + x2).toNatClampNeg y3) f_refused))))))))))) ∧ (¬ x2 < (f_size x1.toNatClampNeg) → (F_X10_no f_refused (-5) (fun r64 w64_0 => post r64 g_cells w64_0)))))))))))))))))
set_option maxHeartbeats 4000000 in
set_option maxRecDepth 100000 in
theorem c_X10_set {l : Launch} {D : va_G} {cI cJ cS : ClassId} {ad adK : Nat → Nat} {a_o a_cells a_held a_refused a_size a_sort : Nat} {z_steps z_kind z_space z_other z_times z_speed z_base z_share z_notes z_pitch z_beats z_shown z_carried z_words z_tell z_was z_kept z_cutSpace z_cutTimes z_cutOff z_trace : Value} {v_stretches : Int32} {v_cars : Int32} {v_tunes : Int32} {v_along : Int32} {v_near : Int32} {v_borne : Int32} {v_tempo : Int32} {v_seed : Int32} {v_fault : Int32} {v_from : Int32} {v_at : Int32} {v_end : Int32} {v_told : Int32} {v_wrongAt : Int32} {v_culprit : Int32} {v_ran : Int32} {v_isKept : Int32} {g_cells : Nat → Int64} {f_held : Nat → Int32} {f_refused : Nat → Int32} {f_size : Nat → Int32} {f_sort : Nat → Int32} {x1 : Int32} {x2 : Int32} {y3 : Int64} {post : Int32 → (Nat → Int64) → (Nat → Int32) → Prop} (h : F_X10_set g_cells f_held f_refused f_size f_sort x1 x2 y3 post) {sz : Nat} : Met l yX10_set (Cond.code yX10_set cX10_set 5 (some (.int)) :: GW) (rmd 1 0 0) (PW D cI cJ cS ad adK [.ref a_o, .int x1, .int x2, .long y3] (wX10_set cI cJ cS a_o a_cells a_held a_refused a_size a_sort z_steps z_kind z_space z_other z_times z_speed z_base z_share z_notes z_pitch z_beats z_shown z_carried z_words z_tell z_was z_kept z_cutSpace z_cutTimes z_cutOff z_trace v_stretches v_cars v_tunes v_along v_near v_borne v_tempo v_seed v_fault v_from v_at v_end v_told v_wrongAt v_culprit v_ran v_isKept g_cells f_held f_refused f_size f_sort) sz) (va_Qi (fun r (u : (Nat → Int64) × (Nat → Int32)) => post r u.1 u.2) (fun u t => va_P D vwCl (wX10_set cI cJ cS a_o a_cells a_held a_refused a_size a_sort z_steps z_kind z_space z_other z_times z_speed z_base z_share z_notes z_pitch z_beats z_shown z_carried z_words z_tell z_was z_kept z_cutSpace z_cutTimes z_cutOff z_trace v_stretches v_cars v_tunes v_along v_near v_borne v_tempo v_seed v_fault v_from v_at v_end v_told v_wrongAt v_culprit v_ran v_isKept u.1 f_held u.2 f_size f_sort) t.heap) (va_A (wX10_set cI cJ cS a_o a_cells a_held a_refused a_size a_sort z_steps z_kind z_space z_other z_times z_speed z_base z_share z_notes z_pitch z_beats z_shown z_carried z_words z_tell z_was z_kept z_cutSpace z_cutTimes z_cutOff z_trace v_stretches v_cars v_tunes v_along v_near v_borne v_tempo v_seed v_fault v_from v_at v_end v_told v_wrongAt v_culprit v_ran v_isKept g_cells f_held f_refused f_size f_sort) sz)) 0 0 (va_A (wX10_set cI cJ cS a_o a_cells a_held a_refused a_size a_sort z_steps z_kind z_space z_other z_times z_speed z_base z_share z_notes z_pitch z_beats z_shown z_carried z_words z_tell z_was z_kept z_cutSpace z_cutTimes z_cutOff z_trace v_stretches v_cars v_tunes v_along v_near v_borne v_tempo v_seed v_fault v_from v_at v_end v_told v_wrongAt v_culprit v_ran v_isKept g_cells f_held f_refused f_size f_sort) sz) := by
  refine Met.rw (Qc := fun A => (va_Qi (fun r (u : (Nat → Int64) × (Nat → Int32)) => post r u.1 u.2) (fun u t => va_P D vwCl (wX10_set cI cJ cS a_o a_cells a_held a_refused a_size a_sort z_steps z_kind z_space z_other z_times z_speed z_base z_share z_notes z_pitch z_beats z_shown z_carried z_words z_tell z_was z_kept z_cutSpace z_cutTimes z_cutOff z_trace v_stretches v_cars v_tunes v_along v_near v_borne v_tempo v_seed v_fault v_from v_at v_end v_told v_wrongAt v_culprit v_ran v_isKept u.1 f_held u.2 f_size f_sort) t.heap) A)) (by decide) (Nat.le_of_ble_eq_true rfl) (fun p e s m args below meth c ls A (S : CallFix p m c cX10_set 5 s args GW "RoadThatSingsModel") hE hT hP hD hA hS hr hlocks hname hl => ?_)
  have hS0 := hS
  have hx := S.1
  have hb := S.2.1
  have hl : lv_has ls 5 [(0, .ref a_o), (1, .int x1), (2, .int x2), (3, .long y3)] := hl
  unfold F_X10_set at h
  refine lv_aload_n hx hb dX10_set_0 rfl (lv_at hl 0 rfl) ?_
  refine lv_iload_n hx hb dX10_set_1 rfl (lv_at hl 1 rfl) ?_
  refine ro_i (roV S hE hT hS (c_X10_isShelf h) lkX10_117 rfl ⟨(Nat.le_of_ble_eq_true rfl), (Nat.le_of_ble_eq_true rfl)⟩ (hP.sub [0] rfl) 0 rfl rfl hl.1 rfl (Nat.le_of_ble_eq_true rfl) dX10_set_2 ⟨(Nat.zero_le _), (Nat.zero_le _)⟩) (fun r2 h => ?_)
  refine lv_if_ne (tgt := 14) hx hb dX10_set_5 (by decide) (fun hc => ?_) (fun hc => ?_)
  · have h := h.2 hc
    refine lv_aload_n hx hb dX10_set_14 rfl (lv_at hl 0 rfl) ?_
    refine gf S hE hP 0 rfl rfl inX10 (k := 21) (by decide) q1114 rfl dX10_set_15 ?_
    refine lv_iload_n hx hb dX10_set_18 rfl (lv_at hl 1 rfl) ?_
    obtain ⟨hi, h⟩ := h
    refine ial S hE hP 2 rfl hi dX10_set_19 ?_
    refine lv_iconst (v := 2) hx hb dX10_set_20 (by decide) ?_
    refine lv_icmp_ne (tgt := 31) hx hb dX10_set_21 (by decide) (fun hc => ?_) (fun hc => ?_)
    · have h := h.2 hc
      refine lv_aload_n hx hb dX10_set_31 rfl (lv_at hl 0 rfl) ?_
      refine gf S hE hP 0 rfl rfl inX10 (k := 21) (by decide) q1114 rfl dX10_set_32 ?_
      refine lv_iload_n hx hb dX10_set_35 rfl (lv_at hl 1 rfl) ?_
      obtain ⟨hi, h⟩ := h
      refine ial S hE hP 2 rfl hi dX10_set_36 ?_
      refine lv_if_ne (tgt := 47) hx hb dX10_set_37 (by decide) (fun hc => ?_) (fun hc => ?_)
      · have h := h.2 hc
        refine lv_iload_n hx hb dX10_set_47 rfl (lv_at hl 2 rfl) ?_
        refine lv_if_lt (tgt := 61) hx hb dX10_set_48 (by decide) (fun hc => ?_) (fun hc => ?_)
        · have h := h.1 hc
          refine lv_aload_n hx hb dX10_set_61 rfl (lv_at hl 0 rfl) ?_
          refine lv_bipush (v := (-5)) hx hb dX10_set_62 (by decide) ?_
          refine rw_i (rwV S hE hT hS hP hD hA (c_X10_no h) [0, 3] rfl (by decide +kernel) lkX10_121 rfl ⟨(Nat.le_of_ble_eq_true rfl), (Nat.le_of_ble_eq_true rfl)⟩ 0 rfl rfl hl.1 rfl (Nat.le_of_ble_eq_true rfl) dX10_set_64 ⟨(Nat.zero_le _), (Nat.zero_le _)⟩) hP hD hS hA [0, 3] rfl (by decide +kernel) (fun _ => rfl) (fun r64 w64_0 H locs h hP hD hS => ?_)
          try dsimp only at h
          have hP : va_P D vwCl (wX10_set cI cJ cS a_o a_cells a_held a_refused a_size a_sort z_steps z_kind z_space z_other z_times z_speed z_base z_share z_notes z_pitch z_beats z_shown z_carried z_words z_tell z_was z_kept z_cutSpace z_cutTimes z_cutOff z_trace v_stretches v_cars v_tunes v_along v_near v_borne v_tempo v_seed v_fault v_from v_at v_end v_told v_wrongAt v_culprit v_ran v_isKept g_cells f_held w64_0 f_size f_sort) H := hP
          have hD : va_D A (wX10_set cI cJ cS a_o a_cells a_held a_refused a_size a_sort z_steps z_kind z_space z_other z_times z_speed z_base z_share z_notes z_pitch z_beats z_shown z_carried z_words z_tell z_was z_kept z_cutSpace z_cutTimes z_cutOff z_trace v_stretches v_cars v_tunes v_along v_near v_borne v_tempo v_seed v_fault v_from v_at v_end v_told v_wrongAt v_culprit v_ran v_isKept g_cells f_held w64_0 f_size f_sort) := hD
          exact W.iret hx hb hr (fun t ht _ => ⟨⟨_, (g_cells, w64_0), rfl, h, hPt hP ht⟩, hS.F ht⟩) hS.2.2 dX10_set_67
        have h := h.2 hc
        refine lv_iload_n hx hb dX10_set_51 rfl (lv_at hl 2 rfl) ?_
        refine lv_aload_n hx hb dX10_set_52 rfl (lv_at hl 0 rfl) ?_
        refine gf S hE hP 0 rfl rfl inX10 (k := 23) (by decide) q1116 rfl dX10_set_53 ?_
        refine lv_iload_n hx hb dX10_set_56 rfl (lv_at hl 1 rfl) ?_
        obtain ⟨hi, h⟩ := h
        refine ial S hE hP 4 rfl hi dX10_set_57 ?_
        refine lv_icmp_lt (tgt := 68) hx hb dX10_set_58 (by decide) (fun hc => ?_) (fun hc => ?_)
        · have h := h.1 hc
          refine lv_aload_n hx hb dX10_set_68 rfl (lv_at hl 0 rfl) ?_
          refine gf S hE hP 0 rfl rfl inX10 (k := 25) (by decide) q1118 rfl dX10_set_69 ?_
          refine lv_sipush (v := 160) hx hb dX10_set_72 (by decide) ?_
          refine lv_iload_n hx hb dX10_set_75 rfl (lv_at hl 1 rfl) ?_
          refine lv_imul hx hb dX10_set_76 ?_
          refine lv_iload_n hx hb dX10_set_77 rfl (lv_at hl 2 rfl) ?_
          refine lv_iadd hx hb dX10_set_78 ?_
          refine lv_aload_n hx hb dX10_set_79 rfl (lv_at hl 0 rfl) ?_
          refine gf S hE hP 0 rfl rfl inX10 (k := 22) (by decide) q1115 rfl dX10_set_80 ?_
          refine lv_iload_n hx hb dX10_set_83 rfl (lv_at hl 1 rfl) ?_
          obtain ⟨hi, h⟩ := h
          refine ial S hE hP 5 rfl hi dX10_set_84 ?_
          refine lv_if_ne (tgt := 95) hx hb dX10_set_85 (by decide) (fun hc => ?_) (fun hc => ?_)
          · have h := h.2 hc
            refine lv_aload_n hx hb dX10_set_95 rfl (lv_at hl 0 rfl) ?_
            refine gf S hE hP 0 rfl rfl inX10 (k := 22) (by decide) q1115 rfl dX10_set_96 ?_
            refine lv_iload_n hx hb dX10_set_99 rfl (lv_at hl 1 rfl) ?_
            obtain ⟨hi, h⟩ := h
            refine ial S hE hP 5 rfl hi dX10_set_100 ?_
            refine lv_iconst (v := 1) hx hb dX10_set_101 (by decide) ?_
            refine lv_icmp_ne (tgt := 112) hx hb dX10_set_102 (by decide) (fun hc => ?_) (fun hc => ?_)
            · have h := h.2 hc
              refine lv_aload_n hx hb dX10_set_112 rfl (lv_at hl 0 rfl) ?_
              refine gf S hE hP 0 rfl rfl inX10 (k := 22) (by decide) q1115 rfl dX10_set_113 ?_
              refine lv_iload_n hx hb dX10_set_116 rfl (lv_at hl 1 rfl) ?_
              obtain ⟨hi, h⟩ := h
              refine ial S hE hP 5 rfl hi dX10_set_117 ?_
              refine lv_iconst (v := 2) hx hb dX10_set_118 (by decide) ?_
              refine lv_icmp_ne (tgt := 128) hx hb dX10_set_119 (by decide) (fun hc => ?_) (fun hc => ?_)
              · have h := h.2 hc
                refine lv_lload_n hx hb dX10_set_128 rfl (lv_at hl 3 rfl) ?_
                obtain ⟨hi, h⟩ := h
                refine las S hE hP hD hS 1 rfl hi dX10_set_129 (fun H locs hP hD hS => ?_)
                have hP : va_P D vwCl (wX10_set cI cJ cS a_o a_cells a_held a_refused a_size a_sort z_steps z_kind z_space z_other z_times z_speed z_base z_share z_notes z_pitch z_beats z_shown z_carried z_words z_tell z_was z_kept z_cutSpace z_cutTimes z_cutOff z_trace v_stretches v_cars v_tunes v_along v_near v_borne v_tempo v_seed v_fault v_from v_at v_end v_told v_wrongAt v_culprit v_ran v_isKept (vp_updL g_cells ((160 * x1) + x2).toNatClampNeg y3) f_held f_refused f_size f_sort) H := hP
                have hD : va_D A (wX10_set cI cJ cS a_o a_cells a_held a_refused a_size a_sort z_steps z_kind z_space z_other z_times z_speed z_base z_share z_notes z_pitch z_beats z_shown z_carried z_words z_tell z_was z_kept z_cutSpace z_cutTimes z_cutOff z_trace v_stretches v_cars v_tunes v_along v_near v_borne v_tempo v_seed v_fault v_from v_at v_end v_told v_wrongAt v_culprit v_ran v_isKept (vp_updL g_cells ((160 * x1) + x2).toNatClampNeg y3) f_held f_refused f_size f_sort) := hD
                refine lv_iconst (v := 1) hx hb dX10_set_130 (by decide) ?_
                exact W.iret hx hb hr (fun t ht _ => ⟨⟨_, ((vp_updL g_cells ((160 * x1) + x2).toNatClampNeg y3), f_refused), rfl, h, hPt hP ht⟩, hS.F ht⟩) hS.2.2 dX10_set_131
              have h := h.1 hc
              refine lv_lload_n hx hb dX10_set_122 rfl (lv_at hl 3 rfl) ?_
              refine lv_l2i hx hb dX10_set_123 rfl ?_
              refine lv_i2l hx hb dX10_set_124 rfl ?_
              refine lv_goto (tgt := 129) hx hb dX10_set_125 (by decide) ?_
              obtain ⟨hi, h⟩ := h
              refine las S hE hP hD hS 1 rfl hi dX10_set_129 (fun H locs hP hD hS => ?_)
              have hP : va_P D vwCl (wX10_set cI cJ cS a_o a_cells a_held a_refused a_size a_sort z_steps z_kind z_space z_other z_times z_speed z_base z_share z_notes z_pitch z_beats z_shown z_carried z_words z_tell z_was z_kept z_cutSpace z_cutTimes z_cutOff z_trace v_stretches v_cars v_tunes v_along v_near v_borne v_tempo v_seed v_fault v_from v_at v_end v_told v_wrongAt v_culprit v_ran v_isKept (vp_updL g_cells ((160 * x1) + x2).toNatClampNeg y3.toInt32.toInt64) f_held f_refused f_size f_sort) H := hP
              have hD : va_D A (wX10_set cI cJ cS a_o a_cells a_held a_refused a_size a_sort z_steps z_kind z_space z_other z_times z_speed z_base z_share z_notes z_pitch z_beats z_shown z_carried z_words z_tell z_was z_kept z_cutSpace z_cutTimes z_cutOff z_trace v_stretches v_cars v_tunes v_along v_near v_borne v_tempo v_seed v_fault v_from v_at v_end v_told v_wrongAt v_culprit v_ran v_isKept (vp_updL g_cells ((160 * x1) + x2).toNatClampNeg y3.toInt32.toInt64) f_held f_refused f_size f_sort) := hD
              refine lv_iconst (v := 1) hx hb dX10_set_130 (by decide) ?_
              exact W.iret hx hb hr (fun t ht _ => ⟨⟨_, ((vp_updL g_cells ((160 * x1) + x2).toNatClampNeg y3.toInt32.toInt64), f_refused), rfl, h, hPt hP ht⟩, hS.F ht⟩) hS.2.2 dX10_set_131
            have h := h.1 hc
            refine lv_lload_n hx hb dX10_set_105 rfl (lv_at hl 3 rfl) ?_
            refine lv_l2i hx hb dX10_set_106 rfl ?_
            refine lv_i2s hx hb dX10_set_107 rfl ?_
            refine lv_i2l hx hb dX10_set_108 rfl ?_
            refine lv_goto (tgt := 129) hx hb dX10_set_109 (by decide) ?_
            obtain ⟨hi, h⟩ := h
            refine las S hE hP hD hS 1 rfl hi dX10_set_129 (fun H locs hP hD hS => ?_)
            have hP : va_P D vwCl (wX10_set cI cJ cS a_o a_cells a_held a_refused a_size a_sort z_steps z_kind z_space z_other z_times z_speed z_base z_share z_notes z_pitch z_beats z_shown z_carried z_words z_tell z_was z_kept z_cutSpace z_cutTimes z_cutOff z_trace v_stretches v_cars v_tunes v_along v_near v_borne v_tempo v_seed v_fault v_from v_at v_end v_told v_wrongAt v_culprit v_ran v_isKept (vp_updL g_cells ((160 * x1) + x2).toNatClampNeg y3.toInt32.toInt16.toInt32.toInt64) f_held f_refused f_size f_sort) H := hP
            have hD : va_D A (wX10_set cI cJ cS a_o a_cells a_held a_refused a_size a_sort z_steps z_kind z_space z_other z_times z_speed z_base z_share z_notes z_pitch z_beats z_shown z_carried z_words z_tell z_was z_kept z_cutSpace z_cutTimes z_cutOff z_trace v_stretches v_cars v_tunes v_along v_near v_borne v_tempo v_seed v_fault v_from v_at v_end v_told v_wrongAt v_culprit v_ran v_isKept (vp_updL g_cells ((160 * x1) + x2).toNatClampNeg y3.toInt32.toInt16.toInt32.toInt64) f_held f_refused f_size f_sort) := hD
            refine lv_iconst (v := 1) hx hb dX10_set_130 (by decide) ?_
            exact W.iret hx hb hr (fun t ht _ => ⟨⟨_, ((vp_updL g_cells ((160 * x1) + x2).toNatClampNeg y3.toInt32.toInt16.toInt32.toInt64), f_refused), rfl, h, hPt hP ht⟩, hS.F ht⟩) hS.2.2 dX10_set_131
          have h := h.1 hc
          refine lv_lload_n hx hb dX10_set_88 rfl (lv_at hl 3 rfl) ?_
          refine lv_l2i hx hb dX10_set_89 rfl ?_
          refine lv_i2b hx hb dX10_set_90 rfl ?_
          refine lv_i2l hx hb dX10_set_91 rfl ?_
          refine lv_goto (tgt := 129) hx hb dX10_set_92 (by decide) ?_
          obtain ⟨hi, h⟩ := h
          refine las S hE hP hD hS 1 rfl hi dX10_set_129 (fun H locs hP hD hS => ?_)
          have hP : va_P D vwCl (wX10_set cI cJ cS a_o a_cells a_held a_refused a_size a_sort z_steps z_kind z_space z_other z_times z_speed z_base z_share z_notes z_pitch z_beats z_shown z_carried z_words z_tell z_was z_kept z_cutSpace z_cutTimes z_cutOff z_trace v_stretches v_cars v_tunes v_along v_near v_borne v_tempo v_seed v_fault v_from v_at v_end v_told v_wrongAt v_culprit v_ran v_isKept (vp_updL g_cells ((160 * x1) + x2).toNatClampNeg y3.toInt32.toInt8.toInt32.toInt64) f_held f_refused f_size f_sort) H := hP
          have hD : va_D A (wX10_set cI cJ cS a_o a_cells a_held a_refused a_size a_sort z_steps z_kind z_space z_other z_times z_speed z_base z_share z_notes z_pitch z_beats z_shown z_carried z_words z_tell z_was z_kept z_cutSpace z_cutTimes z_cutOff z_trace v_stretches v_cars v_tunes v_along v_near v_borne v_tempo v_seed v_fault v_from v_at v_end v_told v_wrongAt v_culprit v_ran v_isKept (vp_updL g_cells ((160 * x1) + x2).toNatClampNeg y3.toInt32.toInt8.toInt32.toInt64) f_held f_refused f_size f_sort) := hD
          refine lv_iconst (v := 1) hx hb dX10_set_130 (by decide) ?_
          exact W.iret hx hb hr (fun t ht _ => ⟨⟨_, ((vp_updL g_cells ((160 * x1) + x2).toNatClampNeg y3.toInt32.toInt8.toInt32.toInt64), f_refused), rfl, h, hPt hP ht⟩, hS.F ht⟩) hS.2.2 dX10_set_131
        have h := h.2 hc
        refine lv_aload_n hx hb dX10_set_61 rfl (lv_at hl 0 rfl) ?_
        refine lv_bipush (v := (-5)) hx hb dX10_set_62 (by decide) ?_
        refine rw_i (rwV S hE hT hS hP hD hA (c_X10_no h) [0, 3] rfl (by decide +kernel) lkX10_121 rfl ⟨(Nat.le_of_ble_eq_true rfl), (Nat.le_of_ble_eq_true rfl)⟩ 0 rfl rfl hl.1 rfl (Nat.le_of_ble_eq_true rfl) dX10_set_64 ⟨(Nat.zero_le _), (Nat.zero_le _)⟩) hP hD hS hA [0, 3] rfl (by decide +kernel) (fun _ => rfl) (fun r64 w64_0 H locs h hP hD hS => ?_)
        try dsimp only at h
        have hP : va_P D vwCl (wX10_set cI cJ cS a_o a_cells a_held a_refused a_size a_sort z_steps z_kind z_space z_other z_times z_speed z_base z_share z_notes z_pitch z_beats z_shown z_carried z_words z_tell z_was z_kept z_cutSpace z_cutTimes z_cutOff z_trace v_stretches v_cars v_tunes v_along v_near v_borne v_tempo v_seed v_fault v_from v_at v_end v_told v_wrongAt v_culprit v_ran v_isKept g_cells f_held w64_0 f_size f_sort) H := hP
        have hD : va_D A (wX10_set cI cJ cS a_o a_cells a_held a_refused a_size a_sort z_steps z_kind z_space z_other z_times z_speed z_base z_share z_notes z_pitch z_beats z_shown z_carried z_words z_tell z_was z_kept z_cutSpace z_cutTimes z_cutOff z_trace v_stretches v_cars v_tunes v_along v_near v_borne v_tempo v_seed v_fault v_from v_at v_end v_told v_wrongAt v_culprit v_ran v_isKept g_cells f_held w64_0 f_size f_sort) := hD
        exact W.iret hx hb hr (fun t ht _ => ⟨⟨_, (g_cells, w64_0), rfl, h, hPt hP ht⟩, hS.F ht⟩) hS.2.2 dX10_set_67
      have h := h.1 hc
      refine lv_aload_n hx hb dX10_set_40 rfl (lv_at hl 0 rfl) ?_
      refine lv_bipush (v := (-3)) hx hb dX10_set_41 (by decide) ?_
      refine rw_i (rwV S hE hT hS hP hD hA (c_X10_no h) [0, 3] rfl (by decide +kernel) lkX10_121 rfl ⟨(Nat.le_of_ble_eq_true rfl), (Nat.le_of_ble_eq_true rfl)⟩ 0 rfl rfl hl.1 rfl (Nat.le_of_ble_eq_true rfl) dX10_set_43 ⟨(Nat.zero_le _), (Nat.zero_le _)⟩) hP hD hS hA [0, 3] rfl (by decide +kernel) (fun _ => rfl) (fun r43 w43_0 H locs h hP hD hS => ?_)
      try dsimp only at h
      have hP : va_P D vwCl (wX10_set cI cJ cS a_o a_cells a_held a_refused a_size a_sort z_steps z_kind z_space z_other z_times z_speed z_base z_share z_notes z_pitch z_beats z_shown z_carried z_words z_tell z_was z_kept z_cutSpace z_cutTimes z_cutOff z_trace v_stretches v_cars v_tunes v_along v_near v_borne v_tempo v_seed v_fault v_from v_at v_end v_told v_wrongAt v_culprit v_ran v_isKept g_cells f_held w43_0 f_size f_sort) H := hP
      have hD : va_D A (wX10_set cI cJ cS a_o a_cells a_held a_refused a_size a_sort z_steps z_kind z_space z_other z_times z_speed z_base z_share z_notes z_pitch z_beats z_shown z_carried z_words z_tell z_was z_kept z_cutSpace z_cutTimes z_cutOff z_trace v_stretches v_cars v_tunes v_along v_near v_borne v_tempo v_seed v_fault v_from v_at v_end v_told v_wrongAt v_culprit v_ran v_isKept g_cells f_held w43_0 f_size f_sort) := hD
      exact W.iret hx hb hr (fun t ht _ => ⟨⟨_, (g_cells, w43_0), rfl, h, hPt hP ht⟩, hS.F ht⟩) hS.2.2 dX10_set_46
    have h := h.1 hc
    refine lv_aload_n hx hb dX10_set_24 rfl (lv_at hl 0 rfl) ?_
    refine lv_bipush (v := (-2)) hx hb dX10_set_25 (by decide) ?_
    refine rw_i (rwV S hE hT hS hP hD hA (c_X10_no h) [0, 3] rfl (by decide +kernel) lkX10_121 rfl ⟨(Nat.le_of_ble_eq_true rfl), (Nat.le_of_ble_eq_true rfl)⟩ 0 rfl rfl hl.1 rfl (Nat.le_of_ble_eq_true rfl) dX10_set_27 ⟨(Nat.zero_le _), (Nat.zero_le _)⟩) hP hD hS hA [0, 3] rfl (by decide +kernel) (fun _ => rfl) (fun r27 w27_0 H locs h hP hD hS => ?_)
    try dsimp only at h
    have hP : va_P D vwCl (wX10_set cI cJ cS a_o a_cells a_held a_refused a_size a_sort z_steps z_kind z_space z_other z_times z_speed z_base z_share z_notes z_pitch z_beats z_shown z_carried z_words z_tell z_was z_kept z_cutSpace z_cutTimes z_cutOff z_trace v_stretches v_cars v_tunes v_along v_near v_borne v_tempo v_seed v_fault v_from v_at v_end v_told v_wrongAt v_culprit v_ran v_isKept g_cells f_held w27_0 f_size f_sort) H := hP
    have hD : va_D A (wX10_set cI cJ cS a_o a_cells a_held a_refused a_size a_sort z_steps z_kind z_space z_other z_times z_speed z_base z_share z_notes z_pitch z_beats z_shown z_carried z_words z_tell z_was z_kept z_cutSpace z_cutTimes z_cutOff z_trace v_stretches v_cars v_tunes v_along v_near v_borne v_tempo v_seed v_fault v_from v_at v_end v_told v_wrongAt v_culprit v_ran v_isKept g_cells f_held w27_0 f_size f_sort) := hD
    exact W.iret hx hb hr (fun t ht _ => ⟨⟨_, (g_cells, w27_0), rfl, h, hPt hP ht⟩, hS.F ht⟩) hS.2.2 dX10_set_30
  have h := h.1 hc
  refine lv_aload_n hx hb dX10_set_8 rfl (lv_at hl 0 rfl) ?_
  refine lv_iconst (v := (-1)) hx hb dX10_set_9 (by decide) ?_
  refine rw_i (rwV S hE hT hS hP hD hA (c_X10_no h) [0, 3] rfl (by decide +kernel) lkX10_121 rfl ⟨(Nat.le_of_ble_eq_true rfl), (Nat.le_of_ble_eq_true rfl)⟩ 0 rfl rfl hl.1 rfl (Nat.le_of_ble_eq_true rfl) dX10_set_10 ⟨(Nat.zero_le _), (Nat.zero_le _)⟩) hP hD hS hA [0, 3] rfl (by decide +kernel) (fun _ => rfl) (fun r10 w10_0 H locs h hP hD hS => ?_)
  try dsimp only at h
  have hP : va_P D vwCl (wX10_set cI cJ cS a_o a_cells a_held a_refused a_size a_sort z_steps z_kind z_space z_other z_times z_speed z_base z_share z_notes z_pitch z_beats z_shown z_carried z_words z_tell z_was z_kept z_cutSpace z_cutTimes z_cutOff z_trace v_stretches v_cars v_tunes v_along v_near v_borne v_tempo v_seed v_fault v_from v_at v_end v_told v_wrongAt v_culprit v_ran v_isKept g_cells f_held w10_0 f_size f_sort) H := hP
  have hD : va_D A (wX10_set cI cJ cS a_o a_cells a_held a_refused a_size a_sort z_steps z_kind z_space z_other z_times z_speed z_base z_share z_notes z_pitch z_beats z_shown z_carried z_words z_tell z_was z_kept z_cutSpace z_cutTimes z_cutOff z_trace v_stretches v_cars v_tunes v_along v_near v_borne v_tempo v_seed v_fault v_from v_at v_end v_told v_wrongAt v_culprit v_ran v_isKept g_cells f_held w10_0 f_size f_sort) := hD
  exact W.iret hx hb hr (fun t ht _ => ⟨⟨_, (g_cells, w10_0), rfl, h, hPt hP ht⟩, hS.F ht⟩) hS.2.2 dX10_set_13
/-! X10_copy -/
abbrev wX10_copy (cI cJ cS : ClassId) (a_o a_carried a_cells a_held a_refused a_size a_sort : Nat) (z_steps z_kind z_space z_other z_times z_speed z_base z_share z_notes z_pitch z_beats z_shown z_words z_tell z_was z_kept z_cutSpace z_cutTimes z_cutOff z_trace : Value) (v_stretches : Int32) (v_cars : Int32) (v_tunes : Int32) (v_along : Int32) (v_near : Int32) (v_borne : Int32) (v_tempo : Int32) (v_seed : Int32) (v_fault : Int32) (v_from : Int32) (v_at : Int32) (v_end : Int32) (v_told : Int32) (v_wrongAt : Int32) (v_culprit : Int32) (v_ran : Int32) (v_isKept : Int32) (g_carried : Nat → Int64) (g_cells : Nat → Int64) (f_held : Nat → Int32) (f_refused : Nat → Int32) (f_size : Nat → Int32) (f_sort : Nat → Int32) : va_W := [(a_o, .inr (9, [.int v_stretches, .int v_cars, .int v_tunes, .int v_along, .int v_near, .int v_borne, .int v_tempo, .int v_seed, .int v_fault, .ref a_refused, z_steps, z_kind, z_space, z_other, z_times, z_speed, z_base, z_share, z_notes, z_pitch, z_beats, .ref a_held, .ref a_sort, .ref a_size, z_shown, .ref a_cells, .ref a_carried, z_words, z_tell, .int v_from, .int v_at, .int v_end, .int v_told, .int v_wrongAt, z_was, z_kept, .int v_culprit, z_cutSpace, z_cutTimes, z_cutOff, z_trace, .int v_ran, .int v_isKept])), (a_carried, .inl (cJ, 160, .inr (.inl g_carried))), (a_cells, .inl (cJ, 1280, .inr (.inl g_cells))), (a_held, .inl (cI, 8, .inl f_held)), (a_refused, .inl (cI, 8, .inl f_refused)), (a_size, .inl (cI, 8, .inl f_size)), (a_sort, .inl (cI, 8, .inl f_sort))]
def L_X10_copy_205 (x2 : Int32) (x4 : Int32) (x5 : Int32) (g_carried : Nat → Int64) (f_refused : Nat → Int32) (post : Int32 → (Nat → Int64) → (Nat → Int64) → (Nat → Int32) → Prop) : Nat → Int32 → (Nat → Int64) → Prop
  | 0, _, _ => False
  | n205 + 1, x6, g_cells => ((x5 ≤ x6 → post 1 g_carried g_cells f_refused) ∧ (¬ x5 ≤ x6 → (vp_in x6 160 ∧ (vp_in (((160 * x2) + x4) + x6) 1280 ∧ (∀ x6_235 : Int32, x6_235 = x6 + 1 → L_X10_copy_205 x2 x4 x5 g_carried f_refused post n205 x6_235 (vp_updL g_cells (((160 * x2) + x4) + x6).toNatClampNeg (g_carried x6.toNatClampNeg)))))))
def L_X10_copy_167 (x1 : Int32) (x2 : Int32) (x3 : Int32) (x4 : Int32) (x5 : Int32) (f_refused : Nat → Int32) (post : Int32 → (Nat → Int64) → (Nat → Int64) → (Nat → Int32) → Prop) : Nat → Int32 → (Nat → Int64) → (Nat → Int64) → Prop
  | 0, _, _, _ => False
  | n167 + 1, x6, g_carried, g_cells => ((x5 ≤ x6 → (∃ n205 : Nat, L_X10_copy_205 x2 x4 x5 g_carried f_refused post n205 0 g_cells)) ∧ (¬ x5 ≤ x6 → (vp_in (((160 * x1) + x3) + x6) 1280 ∧ (vp_in x6 160 ∧ (∀ x6_196 : Int32, x6_196 = x6 + 1 → L_X10_copy_167 x1 x2 x3 x4 x5 f_refused post n167 x6_196 (vp_updL g_carried x6.toNatClampNeg (g_cells (((160 * x1) + x3) + x6).toNatClampNeg)) g_cells)))))
def F_X10_copy_84 (f_held : Nat → Int32) (f_size : Nat → Int32) (post : Int32 → (Nat → Int64) → (Nat → Int64) → (Nat → Int32) → Prop) (x1 : Int32) (x2 : Int32) (x3 : Int32) (x4 : Int32) (x5 : Int32) (g_carried : Nat → Int64) (g_cells : Nat → Int64) (f_refused : Nat → Int32) : Prop := (vp_in x1 8 ∧ (((f_held x1.toNatClampNeg) = 0 → (F_X10_no f_refused (-3) (fun r105 w105_0 => post r105 g_carried g_cells w105_0))) ∧ (¬ (f_held x1.toNatClampNeg) = 0 → (vp_in x2 8 ∧ (((f_held x2.toNatClampNeg) = 0 → (F_X10_no f_refused (-3) (fun r105 w105_0 => post r105 g_carried g_cells w105_0))) ∧ (¬ (f_held x2.toNatClampNeg) = 0 → ((0 ≤ x5 → ((x3 < 0 → (F_X10_no f_refused (-5) (fun r160 w160_0 => post r160 g_carried g_cells w160_0))) ∧ (¬ x3 < 0 → ((x4 < 0 → (F_X10_no f_refused (-5) (fun r160 w160_0 => post r160 g_carried g_cells w160_0))) ∧ (¬ x4 < 0 → (vp_in x1 8 ∧ ((((f_size x1.toNatClampNeg) - x5) < x3 → (F_X10_no f_refused (-5) (fun r160 w160_0 => post r160 g_carried g_cells w160_0))) ∧ (¬ ((f_size x1.toNatClampNeg) - x5) < x3 → (vp_in x2 8 ∧ ((x4 ≤ ((f_size x2.toNatClampNeg) - x5) → (∃ n167 : Nat, L_X10_copy_167 x1 x2 x3 x4 x5 f_refused post n167 0 g_carried g_cells)) ∧ (¬ x4 ≤ ((f_size x2.toNatClampNeg) - x5) → (F_X10_no f_refused (-5) (fun r160 w160_0 => post r160 g_carried g_cells w160_0))))))))))))) ∧ (¬ 0 ≤ x5 → (F_X10_no f_refused (-4) (fun r117 w117_0 => post r117 g_carried g_cells w117_0))))))))))
def F_X10_copy (g_carried : Nat → Int64) (g_cells : Nat → Int64) (f_held : Nat → Int32) (f_refused : Nat → Int32) (f_size : Nat → Int32) (f_sort : Nat → Int32) (x1 : Int32) (x2 : Int32) (x3 : Int32) (x4 : Int32) (x5 : Int32) (post : Int32 → (Nat → Int64) → (Nat → Int64) → (Nat → Int32) → Prop) : Prop := (F_X10_isShelf x1 (fun r2 => ((r2 = 0 → (F_X10_no f_refused (-1) (fun r18 w18_0 => post r18 g_carried g_cells w18_0))) ∧ (¬ r2 = 0 → (F_X10_isShelf x2 (fun r10 => ((r10 = 0 → (F_X10_no f_refused (-1) (fun r18 w18_0 => post r18 g_carried g_cells w18_0))) ∧ (¬ r10 = 0 → (vp_in x1 8 ∧ (((f_held x1.toNatClampNeg) = 2 → (F_X10_no f_refused (-2) (fun r80 w80_0 => post r80 g_carried g_cells w80_0))) ∧ (¬ (f_held x1.toNatClampNeg) = 2 → (vp_in x2 8 ∧ (((f_held x2.toNatClampNeg) = 2 → (F_X10_no f_refused (-2) (fun r80 w80_0 => post r80 g_carried g_cells w80_0))) ∧ (¬ (f_held x2.toNatClampNeg) = 2 → (vp_in x1 8 ∧ (((f_held x1.toNatClampNeg) = 1 → (vp_in x2 8 ∧ (((f_held x2.toNatClampNeg) = 1 → (vp_in x1 8 ∧ (vp_in x2 8 ∧ (((f_sort x1.toNatClampNeg) = (f_sort x2.toNatClampNeg) → F_X10_copy_84 f_held f_size post x1 x2 x3 x4 x5 g_carried g_cells f_refused) ∧ (¬ (f_sort x1.toNatClampNeg) = (f_sort x2.toNatClampNeg) → (F_X10_no f_refused (-2) (fun r80 w80_0 => post r80 g_carried g_cells w80_0))))))) ∧ (¬ (f_held x2.toNatClampNeg) = 1 → F_X10_copy_84 f_held f_size post x1 x2 x3 x4 x5 g_carried g_cells f_refused)))) ∧ (¬ (f_held x1.toNatClampNeg) = 1 → F_X10_copy_84 f_held f_size post x1 x2 x3 x4 x5 g_carried g_cells f_refused)))))))))))))))))
set_option maxHeartbeats 4000000 in
set_option maxRecDepth 100000 in
theorem w_X10_copy_205 {l : Launch} {D : va_G} {cI cJ cS : ClassId} {ad adK : Nat → Nat} {a_o a_carried a_cells a_held a_refused a_size a_sort : Nat} {z_steps z_kind z_space z_other z_times z_speed z_base z_share z_notes z_pitch z_beats z_shown z_words z_tell z_was z_kept z_cutSpace z_cutTimes z_cutOff z_trace : Value} {v_stretches : Int32} {v_cars : Int32} {v_tunes : Int32} {v_along : Int32} {v_near : Int32} {v_borne : Int32} {v_tempo : Int32} {v_seed : Int32} {v_fault : Int32} {v_from : Int32} {v_at : Int32} {v_end : Int32} {v_told : Int32} {v_wrongAt : Int32} {v_culprit : Int32} {v_ran : Int32} {v_isKept : Int32} {g_carried : Nat → Int64} {f_held : Nat → Int32} {f_refused : Nat → Int32} {f_size : Nat → Int32} {f_sort : Nat → Int32} {x2 : Int32} {x4 : Int32} {x5 : Int32} {post : Int32 → (Nat → Int64) → (Nat → Int64) → (Nat → Int32) → Prop} {p : Program} {e : Env} {s : State} {m : MethodId} {args : Array Value} {below : List Frame} {meth : Method} {c : Code} {A : Nat → Prop} (S : CallFix p m c cX10_copy 7 s args GW "RoadThatSingsModel") (hE : EN D cI cJ cS s) (hT : ST ad adK A s s.heap) (hA : ∀ q : Nat, s.heap.size ≤ q → A q) (hr : meth.sig.returnType = (some (.int))) (hlocks : meth.locks = false) : ∀ n : Nat, ∀ (x6 : Int32) (g_cells : Nat → Int64) (H : Heap) (locs : List Loc) (ls : Array Slot), L_X10_copy_205 x2 x4 x5 g_carried f_refused post n x6 g_cells → va_P D vwCl (wX10_copy cI cJ cS a_o a_carried a_cells a_held a_refused a_size a_sort z_steps z_kind z_space z_other z_times z_speed z_base z_share z_notes z_pitch z_beats z_shown z_words z_tell z_was z_kept z_cutSpace z_cutTimes z_cutOff z_trace v_stretches v_cars v_tunes v_along v_near v_borne v_tempo v_seed v_fault v_from v_at v_end v_told v_wrongAt v_culprit v_ran v_isKept g_carried g_cells f_held f_refused f_size f_sort) H → va_D A (wX10_copy cI cJ cS a_o a_carried a_cells a_held a_refused a_size a_sort z_steps z_kind z_space z_other z_times z_speed z_base z_share z_notes z_pitch z_beats z_shown z_words z_tell z_was z_kept z_cutSpace z_cutTimes z_cutOff z_trace v_stretches v_cars v_tunes v_along v_near v_borne v_tempo v_seed v_fault v_from v_at v_end v_told v_wrongAt v_culprit v_ran v_isKept g_carried g_cells f_held f_refused f_size f_sort) → va_S A s.heap H locs → lv_has ls 7 [(0, .ref a_o), (2, .int x2), (4, .int x4), (5, .int x5), (6, .int x6)] → W p l e (rmd 1 0 0) s m args below meth c H locs 0 0 (MQ below (va_Qi (fun r (u : (Nat → Int64) × (Nat → Int64) × (Nat → Int32)) => post r u.1 u.2.1 u.2.2) (fun u t => va_P D vwCl (wX10_copy cI cJ cS a_o a_carried a_cells a_held a_refused a_size a_sort z_steps z_kind z_space z_other z_times z_speed z_base z_share z_notes z_pitch z_beats z_shown z_words z_tell z_was z_kept z_cutSpace z_cutTimes z_cutOff z_trace v_stretches v_cars v_tunes v_along v_near v_borne v_tempo v_seed v_fault v_from v_at v_end v_told v_wrongAt v_culprit v_ran v_isKept u.1 u.2.1 f_held u.2.2 f_size f_sort) t.heap) A) args s 0 0 A) (F0 m 205 ls []) := by
  intro n
  induction n with
  | zero =>
    intro x6 g_cells H locs ls h hP hD hS hl
    exact h.elim
  | succ n ih =>
    intro x6 g_cells H locs ls h hP hD hS hl
    rw [L_X10_copy_205] at h
    have hx := S.1
    have hb := S.2.1
    refine lv_iload hx hb dX10_copy_205 (lv_at hl 4 rfl) ?_
    refine lv_iload hx hb dX10_copy_207 (lv_at hl 3 rfl) ?_
    refine lv_icmp_ge (tgt := 241) hx hb dX10_copy_209 (by decide) (fun hc => ?_) (fun hc => ?_)
    · have h := h.1 hc
      refine lv_iconst (v := 1) hx hb dX10_copy_241 (by decide) ?_
      exact W.iret hx hb hr (fun t ht _ => ⟨⟨_, (g_carried, g_cells, f_refused), rfl, h, hPt hP ht⟩, hS.F ht⟩) hS.2.2 dX10_copy_242
    have h := h.2 hc
    refine lv_aload_n hx hb dX10_copy_212 rfl (lv_at hl 0 rfl) ?_
    refine gf S hE hP 0 rfl rfl inX10 (k := 25) (by decide) q1118 rfl dX10_copy_213 ?_
    refine lv_sipush (v := 160) hx hb dX10_copy_216 (by decide) ?_
    refine lv_iload_n hx hb dX10_copy_219 rfl (lv_at hl 1 rfl) ?_
    refine lv_imul hx hb dX10_copy_220 ?_
    refine lv_iload hx hb dX10_copy_221 (lv_at hl 2 rfl) ?_
    refine lv_iadd hx hb dX10_copy_223 ?_
    refine lv_iload hx hb dX10_copy_224 (lv_at hl 4 rfl) ?_
    refine lv_iadd hx hb dX10_copy_226 ?_
    refine lv_aload_n hx hb dX10_copy_227 rfl (lv_at hl 0 rfl) ?_
    refine gf S hE hP 0 rfl rfl inX10 (k := 26) (by decide) q1119 rfl dX10_copy_228 ?_
    refine lv_iload hx hb dX10_copy_231 (lv_at hl 4 rfl) ?_
    obtain ⟨hi, h⟩ := h
    refine lal S hE hP 1 rfl hi dX10_copy_233 ?_
    obtain ⟨hi, h⟩ := h
    refine las S hE hP hD hS 2 rfl hi dX10_copy_234 (fun H locs hP hD hS => ?_)
    have hP : va_P D vwCl (wX10_copy cI cJ cS a_o a_carried a_cells a_held a_refused a_size a_sort z_steps z_kind z_space z_other z_times z_speed z_base z_share z_notes z_pitch z_beats z_shown z_words z_tell z_was z_kept z_cutSpace z_cutTimes z_cutOff z_trace v_stretches v_cars v_tunes v_along v_near v_borne v_tempo v_seed v_fault v_from v_at v_end v_told v_wrongAt v_culprit v_ran v_isKept g_carried (vp_updL g_cells (((160 * x2) + x4) + x6).toNatClampNeg (g_carried x6.toNatClampNeg)) f_held f_refused f_size f_sort) H := hP
    have hD : va_D A (wX10_copy cI cJ cS a_o a_carried a_cells a_held a_refused a_size a_sort z_steps z_kind z_space z_other z_times z_speed z_base z_share z_notes z_pitch z_beats z_shown z_words z_tell z_was z_kept z_cutSpace z_cutTimes z_cutOff z_trace v_stretches v_cars v_tunes v_along v_near v_borne v_tempo v_seed v_fault v_from v_at v_end v_told v_wrongAt v_culprit v_ran v_isKept g_carried (vp_updL g_cells (((160 * x2) + x4) + x6).toNatClampNeg (g_carried x6.toNatClampNeg)) f_held f_refused f_size f_sort) := hD
    obtain ⟨x6_235, ex6_235⟩ : ∃ z : Int32, z = x6 + 1 := ⟨_, rfl⟩
    have h := h _ ex6_235
    refine lv_iinc (v := x6_235) (lv' := [(6, .int x6_235), (0, .ref a_o), (2, .int x2), (4, .int x4), (5, .int x5)]) hx hb dX10_copy_235 hl (k := 4) rfl (by rw [ex6_235]; rfl) (by decide) rfl (fun ls hl => ?_)
    refine lv_goto (tgt := 205) hx hb dX10_copy_238 (by decide) ?_
    exact ih _ _ _ _ _ h hP hD hS (lv_sub hl [1, 2, 3, 4, 0] rfl)
set_option maxHeartbeats 4000000 in
set_option maxRecDepth 100000 in
theorem w_X10_copy_167 {l : Launch} {D : va_G} {cI cJ cS : ClassId} {ad adK : Nat → Nat} {a_o a_carried a_cells a_held a_refused a_size a_sort : Nat} {z_steps z_kind z_space z_other z_times z_speed z_base z_share z_notes z_pitch z_beats z_shown z_words z_tell z_was z_kept z_cutSpace z_cutTimes z_cutOff z_trace : Value} {v_stretches : Int32} {v_cars : Int32} {v_tunes : Int32} {v_along : Int32} {v_near : Int32} {v_borne : Int32} {v_tempo : Int32} {v_seed : Int32} {v_fault : Int32} {v_from : Int32} {v_at : Int32} {v_end : Int32} {v_told : Int32} {v_wrongAt : Int32} {v_culprit : Int32} {v_ran : Int32} {v_isKept : Int32} {f_held : Nat → Int32} {f_refused : Nat → Int32} {f_size : Nat → Int32} {f_sort : Nat → Int32} {x1 : Int32} {x2 : Int32} {x3 : Int32} {x4 : Int32} {x5 : Int32} {post : Int32 → (Nat → Int64) → (Nat → Int64) → (Nat → Int32) → Prop} {p : Program} {e : Env} {s : State} {m : MethodId} {args : Array Value} {below : List Frame} {meth : Method} {c : Code} {A : Nat → Prop} (S : CallFix p m c cX10_copy 7 s args GW "RoadThatSingsModel") (hE : EN D cI cJ cS s) (hT : ST ad adK A s s.heap) (hA : ∀ q : Nat, s.heap.size ≤ q → A q) (hr : meth.sig.returnType = (some (.int))) (hlocks : meth.locks = false) : ∀ n : Nat, ∀ (x6 : Int32) (g_carried : Nat → Int64) (g_cells : Nat → Int64) (H : Heap) (locs : List Loc) (ls : Array Slot), L_X10_copy_167 x1 x2 x3 x4 x5 f_refused post n x6 g_carried g_cells → va_P D vwCl (wX10_copy cI cJ cS a_o a_carried a_cells a_held a_refused a_size a_sort z_steps z_kind z_space z_other z_times z_speed z_base z_share z_notes z_pitch z_beats z_shown z_words z_tell z_was z_kept z_cutSpace z_cutTimes z_cutOff z_trace v_stretches v_cars v_tunes v_along v_near v_borne v_tempo v_seed v_fault v_from v_at v_end v_told v_wrongAt v_culprit v_ran v_isKept g_carried g_cells f_held f_refused f_size f_sort) H → va_D A (wX10_copy cI cJ cS a_o a_carried a_cells a_held a_refused a_size a_sort z_steps z_kind z_space z_other z_times z_speed z_base z_share z_notes z_pitch z_beats z_shown z_words z_tell z_was z_kept z_cutSpace z_cutTimes z_cutOff z_trace v_stretches v_cars v_tunes v_along v_near v_borne v_tempo v_seed v_fault v_from v_at v_end v_told v_wrongAt v_culprit v_ran v_isKept g_carried g_cells f_held f_refused f_size f_sort) → va_S A s.heap H locs → lv_has ls 7 [(0, .ref a_o), (1, .int x1), (2, .int x2), (3, .int x3), (4, .int x4), (5, .int x5), (6, .int x6)] → W p l e (rmd 1 0 0) s m args below meth c H locs 0 0 (MQ below (va_Qi (fun r (u : (Nat → Int64) × (Nat → Int64) × (Nat → Int32)) => post r u.1 u.2.1 u.2.2) (fun u t => va_P D vwCl (wX10_copy cI cJ cS a_o a_carried a_cells a_held a_refused a_size a_sort z_steps z_kind z_space z_other z_times z_speed z_base z_share z_notes z_pitch z_beats z_shown z_words z_tell z_was z_kept z_cutSpace z_cutTimes z_cutOff z_trace v_stretches v_cars v_tunes v_along v_near v_borne v_tempo v_seed v_fault v_from v_at v_end v_told v_wrongAt v_culprit v_ran v_isKept u.1 u.2.1 f_held u.2.2 f_size f_sort) t.heap) A) args s 0 0 A) (F0 m 167 ls []) := by
  intro n
  induction n with
  | zero =>
    intro x6 g_carried g_cells H locs ls h hP hD hS hl
    exact h.elim
  | succ n ih =>
    intro x6 g_carried g_cells H locs ls h hP hD hS hl
    rw [L_X10_copy_167] at h
    have hx := S.1
    have hb := S.2.1
    refine lv_iload hx hb dX10_copy_167 (lv_at hl 6 rfl) ?_
    refine lv_iload hx hb dX10_copy_169 (lv_at hl 5 rfl) ?_
    refine lv_icmp_ge (tgt := 202) hx hb dX10_copy_171 (by decide) (fun hc => ?_) (fun hc => ?_)
    · have h := h.1 hc
      refine lv_iconst (v := 0) hx hb dX10_copy_202 (by decide) ?_
      refine lv_istore (lv' := [(6, .int 0), (0, .ref a_o), (1, .int x1), (2, .int x2), (3, .int x3), (4, .int x4), (5, .int x5)]) hx hb dX10_copy_203 hl (by decide) rfl (fun ls hl => ?_)
      obtain ⟨n, h⟩ := h
      refine w_X10_copy_205 S hE hT hA hr hlocks n _ _ _ _ _ h hP hD hS (lv_sub hl [1, 3, 5, 6, 0] rfl)
    have h := h.2 hc
    refine lv_aload_n hx hb dX10_copy_174 rfl (lv_at hl 0 rfl) ?_
    refine gf S hE hP 0 rfl rfl inX10 (k := 26) (by decide) q1119 rfl dX10_copy_175 ?_
    refine lv_iload hx hb dX10_copy_178 (lv_at hl 6 rfl) ?_
    refine lv_aload_n hx hb dX10_copy_180 rfl (lv_at hl 0 rfl) ?_
    refine gf S hE hP 0 rfl rfl inX10 (k := 25) (by decide) q1118 rfl dX10_copy_181 ?_
    refine lv_sipush (v := 160) hx hb dX10_copy_184 (by decide) ?_
    refine lv_iload_n hx hb dX10_copy_187 rfl (lv_at hl 1 rfl) ?_
    refine lv_imul hx hb dX10_copy_188 ?_
    refine lv_iload_n hx hb dX10_copy_189 rfl (lv_at hl 3 rfl) ?_
    refine lv_iadd hx hb dX10_copy_190 ?_
    refine lv_iload hx hb dX10_copy_191 (lv_at hl 6 rfl) ?_
    refine lv_iadd hx hb dX10_copy_193 ?_
    obtain ⟨hi, h⟩ := h
    refine lal S hE hP 2 rfl hi dX10_copy_194 ?_
    obtain ⟨hi, h⟩ := h
    refine las S hE hP hD hS 1 rfl hi dX10_copy_195 (fun H locs hP hD hS => ?_)
    have hP : va_P D vwCl (wX10_copy cI cJ cS a_o a_carried a_cells a_held a_refused a_size a_sort z_steps z_kind z_space z_other z_times z_speed z_base z_share z_notes z_pitch z_beats z_shown z_words z_tell z_was z_kept z_cutSpace z_cutTimes z_cutOff z_trace v_stretches v_cars v_tunes v_along v_near v_borne v_tempo v_seed v_fault v_from v_at v_end v_told v_wrongAt v_culprit v_ran v_isKept (vp_updL g_carried x6.toNatClampNeg (g_cells (((160 * x1) + x3) + x6).toNatClampNeg)) g_cells f_held f_refused f_size f_sort) H := hP
    have hD : va_D A (wX10_copy cI cJ cS a_o a_carried a_cells a_held a_refused a_size a_sort z_steps z_kind z_space z_other z_times z_speed z_base z_share z_notes z_pitch z_beats z_shown z_words z_tell z_was z_kept z_cutSpace z_cutTimes z_cutOff z_trace v_stretches v_cars v_tunes v_along v_near v_borne v_tempo v_seed v_fault v_from v_at v_end v_told v_wrongAt v_culprit v_ran v_isKept (vp_updL g_carried x6.toNatClampNeg (g_cells (((160 * x1) + x3) + x6).toNatClampNeg)) g_cells f_held f_refused f_size f_sort) := hD
    obtain ⟨x6_196, ex6_196⟩ : ∃ z : Int32, z = x6 + 1 := ⟨_, rfl⟩
    have h := h _ ex6_196
    refine lv_iinc (v := x6_196) (lv' := [(6, .int x6_196), (0, .ref a_o), (1, .int x1), (2, .int x2), (3, .int x3), (4, .int x4), (5, .int x5)]) hx hb dX10_copy_196 hl (k := 6) rfl (by rw [ex6_196]; rfl) (by decide) rfl (fun ls hl => ?_)
    refine lv_goto (tgt := 167) hx hb dX10_copy_199 (by decide) ?_
    exact ih _ _ _ _ _ _ h hP hD hS (lv_sub hl [1, 2, 3, 4, 5, 6, 0] rfl)
set_option maxHeartbeats 4000000 in
set_option maxRecDepth 100000 in
theorem w_X10_copy_84 {l : Launch} {D : va_G} {cI cJ cS : ClassId} {ad adK : Nat → Nat} {a_o a_carried a_cells a_held a_refused a_size a_sort : Nat} {z_steps z_kind z_space z_other z_times z_speed z_base z_share z_notes z_pitch z_beats z_shown z_words z_tell z_was z_kept z_cutSpace z_cutTimes z_cutOff z_trace : Value} {v_stretches : Int32} {v_cars : Int32} {v_tunes : Int32} {v_along : Int32} {v_near : Int32} {v_borne : Int32} {v_tempo : Int32} {v_seed : Int32} {v_fault : Int32} {v_from : Int32} {v_at : Int32} {v_end : Int32} {v_told : Int32} {v_wrongAt : Int32} {v_culprit : Int32} {v_ran : Int32} {v_isKept : Int32} {g_carried : Nat → Int64} {g_cells : Nat → Int64} {f_held : Nat → Int32} {f_refused : Nat → Int32} {f_size : Nat → Int32} {f_sort : Nat → Int32} {x1 : Int32} {x2 : Int32} {x3 : Int32} {x4 : Int32} {x5 : Int32} {post : Int32 → (Nat → Int64) → (Nat → Int64) → (Nat → Int32) → Prop} {p : Program} {e : Env} {s : State} {m : MethodId} {args : Array Value} {below : List Frame} {meth : Method} {c : Code} {A : Nat → Prop} (S : CallFix p m c cX10_copy 7 s args GW "RoadThatSingsModel") (hE : EN D cI cJ cS s) (hT : ST ad adK A s s.heap) (hA : ∀ q : Nat, s.heap.size ≤ q → A q) (hr : meth.sig.returnType = (some (.int))) (hlocks : meth.locks = false) : ∀ (H : Heap) (locs : List Loc) (ls : Array Slot), F_X10_copy_84 f_held f_size post x1 x2 x3 x4 x5 g_carried g_cells f_refused → va_P D vwCl (wX10_copy cI cJ cS a_o a_carried a_cells a_held a_refused a_size a_sort z_steps z_kind z_space z_other z_times z_speed z_base z_share z_notes z_pitch z_beats z_shown z_words z_tell z_was z_kept z_cutSpace z_cutTimes z_cutOff z_trace v_stretches v_cars v_tunes v_along v_near v_borne v_tempo v_seed v_fault v_from v_at v_end v_told v_wrongAt v_culprit v_ran v_isKept g_carried g_cells f_held f_refused f_size f_sort) H → va_D A (wX10_copy cI cJ cS a_o a_carried a_cells a_held a_refused a_size a_sort z_steps z_kind z_space z_other z_times z_speed z_base z_share z_notes z_pitch z_beats z_shown z_words z_tell z_was z_kept z_cutSpace z_cutTimes z_cutOff z_trace v_stretches v_cars v_tunes v_along v_near v_borne v_tempo v_seed v_fault v_from v_at v_end v_told v_wrongAt v_culprit v_ran v_isKept g_carried g_cells f_held f_refused f_size f_sort) → va_S A s.heap H locs → lv_has ls 7 [(0, .ref a_o), (1, .int x1), (2, .int x2), (3, .int x3), (4, .int x4), (5, .int x5)] → W p l e (rmd 1 0 0) s m args below meth c H locs 0 0 (MQ below (va_Qi (fun r (u : (Nat → Int64) × (Nat → Int64) × (Nat → Int32)) => post r u.1 u.2.1 u.2.2) (fun u t => va_P D vwCl (wX10_copy cI cJ cS a_o a_carried a_cells a_held a_refused a_size a_sort z_steps z_kind z_space z_other z_times z_speed z_base z_share z_notes z_pitch z_beats z_shown z_words z_tell z_was z_kept z_cutSpace z_cutTimes z_cutOff z_trace v_stretches v_cars v_tunes v_along v_near v_borne v_tempo v_seed v_fault v_from v_at v_end v_told v_wrongAt v_culprit v_ran v_isKept u.1 u.2.1 f_held u.2.2 f_size f_sort) t.heap) A) args s 0 0 A) (F0 m 84 ls []) := by
  intro  H locs ls h hP hD hS hl
  unfold F_X10_copy_84 at h
  have hx := S.1
  have hb := S.2.1
  refine lv_aload_n hx hb dX10_copy_84 rfl (lv_at hl 0 rfl) ?_
  refine gf S hE hP 0 rfl rfl inX10 (k := 21) (by decide) q1114 rfl dX10_copy_85 ?_
  refine lv_iload_n hx hb dX10_copy_88 rfl (lv_at hl 1 rfl) ?_
  obtain ⟨hi, h⟩ := h
  refine ial S hE hP 3 rfl hi dX10_copy_89 ?_
  refine lv_if_eq (tgt := 102) hx hb dX10_copy_90 (by decide) (fun hc => ?_) (fun hc => ?_)
  · have h := h.1 hc
    refine lv_aload_n hx hb dX10_copy_102 rfl (lv_at hl 0 rfl) ?_
    refine lv_bipush (v := (-3)) hx hb dX10_copy_103 (by decide) ?_
    refine rw_i (rwV S hE hT hS hP hD hA (c_X10_no h) [0, 4] rfl (by decide +kernel) lkX10_121 rfl ⟨(Nat.le_of_ble_eq_true rfl), (Nat.le_of_ble_eq_true rfl)⟩ 0 rfl rfl hl.1 rfl (Nat.le_of_ble_eq_true rfl) dX10_copy_105 ⟨(Nat.zero_le _), (Nat.zero_le _)⟩) hP hD hS hA [0, 4] rfl (by decide +kernel) (fun _ => rfl) (fun r105 w105_0 H locs h hP hD hS => ?_)
    try dsimp only at h
    have hP : va_P D vwCl (wX10_copy cI cJ cS a_o a_carried a_cells a_held a_refused a_size a_sort z_steps z_kind z_space z_other z_times z_speed z_base z_share z_notes z_pitch z_beats z_shown z_words z_tell z_was z_kept z_cutSpace z_cutTimes z_cutOff z_trace v_stretches v_cars v_tunes v_along v_near v_borne v_tempo v_seed v_fault v_from v_at v_end v_told v_wrongAt v_culprit v_ran v_isKept g_carried g_cells f_held w105_0 f_size f_sort) H := hP
    have hD : va_D A (wX10_copy cI cJ cS a_o a_carried a_cells a_held a_refused a_size a_sort z_steps z_kind z_space z_other z_times z_speed z_base z_share z_notes z_pitch z_beats z_shown z_words z_tell z_was z_kept z_cutSpace z_cutTimes z_cutOff z_trace v_stretches v_cars v_tunes v_along v_near v_borne v_tempo v_seed v_fault v_from v_at v_end v_told v_wrongAt v_culprit v_ran v_isKept g_carried g_cells f_held w105_0 f_size f_sort) := hD
    exact W.iret hx hb hr (fun t ht _ => ⟨⟨_, (g_carried, g_cells, w105_0), rfl, h, hPt hP ht⟩, hS.F ht⟩) hS.2.2 dX10_copy_108
  have h := h.2 hc
  refine lv_aload_n hx hb dX10_copy_93 rfl (lv_at hl 0 rfl) ?_
  refine gf S hE hP 0 rfl rfl inX10 (k := 21) (by decide) q1114 rfl dX10_copy_94 ?_
  refine lv_iload_n hx hb dX10_copy_97 rfl (lv_at hl 2 rfl) ?_
  obtain ⟨hi, h⟩ := h
  refine ial S hE hP 3 rfl hi dX10_copy_98 ?_
  refine lv_if_ne (tgt := 109) hx hb dX10_copy_99 (by decide) (fun hc => ?_) (fun hc => ?_)
  · have h := h.2 hc
    refine lv_iload hx hb dX10_copy_109 (lv_at hl 5 rfl) ?_
    refine lv_if_ge (tgt := 121) hx hb dX10_copy_111 (by decide) (fun hc => ?_) (fun hc => ?_)
    · have h := h.1 hc
      refine lv_iload_n hx hb dX10_copy_121 rfl (lv_at hl 3 rfl) ?_
      refine lv_if_lt (tgt := 157) hx hb dX10_copy_122 (by decide) (fun hc => ?_) (fun hc => ?_)
      · have h := h.1 hc
        refine lv_aload_n hx hb dX10_copy_157 rfl (lv_at hl 0 rfl) ?_
        refine lv_bipush (v := (-5)) hx hb dX10_copy_158 (by decide) ?_
        refine rw_i (rwV S hE hT hS hP hD hA (c_X10_no h) [0, 4] rfl (by decide +kernel) lkX10_121 rfl ⟨(Nat.le_of_ble_eq_true rfl), (Nat.le_of_ble_eq_true rfl)⟩ 0 rfl rfl hl.1 rfl (Nat.le_of_ble_eq_true rfl) dX10_copy_160 ⟨(Nat.zero_le _), (Nat.zero_le _)⟩) hP hD hS hA [0, 4] rfl (by decide +kernel) (fun _ => rfl) (fun r160 w160_0 H locs h hP hD hS => ?_)
        try dsimp only at h
        have hP : va_P D vwCl (wX10_copy cI cJ cS a_o a_carried a_cells a_held a_refused a_size a_sort z_steps z_kind z_space z_other z_times z_speed z_base z_share z_notes z_pitch z_beats z_shown z_words z_tell z_was z_kept z_cutSpace z_cutTimes z_cutOff z_trace v_stretches v_cars v_tunes v_along v_near v_borne v_tempo v_seed v_fault v_from v_at v_end v_told v_wrongAt v_culprit v_ran v_isKept g_carried g_cells f_held w160_0 f_size f_sort) H := hP
        have hD : va_D A (wX10_copy cI cJ cS a_o a_carried a_cells a_held a_refused a_size a_sort z_steps z_kind z_space z_other z_times z_speed z_base z_share z_notes z_pitch z_beats z_shown z_words z_tell z_was z_kept z_cutSpace z_cutTimes z_cutOff z_trace v_stretches v_cars v_tunes v_along v_near v_borne v_tempo v_seed v_fault v_from v_at v_end v_told v_wrongAt v_culprit v_ran v_isKept g_carried g_cells f_held w160_0 f_size f_sort) := hD
        exact W.iret hx hb hr (fun t ht _ => ⟨⟨_, (g_carried, g_cells, w160_0), rfl, h, hPt hP ht⟩, hS.F ht⟩) hS.2.2 dX10_copy_163
      have h := h.2 hc
      refine lv_iload hx hb dX10_copy_125 (lv_at hl 4 rfl) ?_
      refine lv_if_lt (tgt := 157) hx hb dX10_copy_127 (by decide) (fun hc => ?_) (fun hc => ?_)
      · have h := h.1 hc
        refine lv_aload_n hx hb dX10_copy_157 rfl (lv_at hl 0 rfl) ?_
        refine lv_bipush (v := (-5)) hx hb dX10_copy_158 (by decide) ?_
        refine rw_i (rwV S hE hT hS hP hD hA (c_X10_no h) [0, 4] rfl (by decide +kernel) lkX10_121 rfl ⟨(Nat.le_of_ble_eq_true rfl), (Nat.le_of_ble_eq_true rfl)⟩ 0 rfl rfl hl.1 rfl (Nat.le_of_ble_eq_true rfl) dX10_copy_160 ⟨(Nat.zero_le _), (Nat.zero_le _)⟩) hP hD hS hA [0, 4] rfl (by decide +kernel) (fun _ => rfl) (fun r160 w160_0 H locs h hP hD hS => ?_)
        try dsimp only at h
        have hP : va_P D vwCl (wX10_copy cI cJ cS a_o a_carried a_cells a_held a_refused a_size a_sort z_steps z_kind z_space z_other z_times z_speed z_base z_share z_notes z_pitch z_beats z_shown z_words z_tell z_was z_kept z_cutSpace z_cutTimes z_cutOff z_trace v_stretches v_cars v_tunes v_along v_near v_borne v_tempo v_seed v_fault v_from v_at v_end v_told v_wrongAt v_culprit v_ran v_isKept g_carried g_cells f_held w160_0 f_size f_sort) H := hP
        have hD : va_D A (wX10_copy cI cJ cS a_o a_carried a_cells a_held a_refused a_size a_sort z_steps z_kind z_space z_other z_times z_speed z_base z_share z_notes z_pitch z_beats z_shown z_words z_tell z_was z_kept z_cutSpace z_cutTimes z_cutOff z_trace v_stretches v_cars v_tunes v_along v_near v_borne v_tempo v_seed v_fault v_from v_at v_end v_told v_wrongAt v_culprit v_ran v_isKept g_carried g_cells f_held w160_0 f_size f_sort) := hD
        exact W.iret hx hb hr (fun t ht _ => ⟨⟨_, (g_carried, g_cells, w160_0), rfl, h, hPt hP ht⟩, hS.F ht⟩) hS.2.2 dX10_copy_163
      have h := h.2 hc
      refine lv_iload_n hx hb dX10_copy_130 rfl (lv_at hl 3 rfl) ?_
      refine lv_aload_n hx hb dX10_copy_131 rfl (lv_at hl 0 rfl) ?_
      refine gf S hE hP 0 rfl rfl inX10 (k := 23) (by decide) q1116 rfl dX10_copy_132 ?_
      refine lv_iload_n hx hb dX10_copy_135 rfl (lv_at hl 1 rfl) ?_
      obtain ⟨hi, h⟩ := h
      refine ial S hE hP 5 rfl hi dX10_copy_136 ?_
      refine lv_iload hx hb dX10_copy_137 (lv_at hl 5 rfl) ?_
      refine lv_isub hx hb dX10_copy_139 ?_
      refine lv_icmp_gt (tgt := 157) hx hb dX10_copy_140 (by decide) (fun hc => ?_) (fun hc => ?_)
      · have h := h.1 hc
        refine lv_aload_n hx hb dX10_copy_157 rfl (lv_at hl 0 rfl) ?_
        refine lv_bipush (v := (-5)) hx hb dX10_copy_158 (by decide) ?_
        refine rw_i (rwV S hE hT hS hP hD hA (c_X10_no h) [0, 4] rfl (by decide +kernel) lkX10_121 rfl ⟨(Nat.le_of_ble_eq_true rfl), (Nat.le_of_ble_eq_true rfl)⟩ 0 rfl rfl hl.1 rfl (Nat.le_of_ble_eq_true rfl) dX10_copy_160 ⟨(Nat.zero_le _), (Nat.zero_le _)⟩) hP hD hS hA [0, 4] rfl (by decide +kernel) (fun _ => rfl) (fun r160 w160_0 H locs h hP hD hS => ?_)
        try dsimp only at h
        have hP : va_P D vwCl (wX10_copy cI cJ cS a_o a_carried a_cells a_held a_refused a_size a_sort z_steps z_kind z_space z_other z_times z_speed z_base z_share z_notes z_pitch z_beats z_shown z_words z_tell z_was z_kept z_cutSpace z_cutTimes z_cutOff z_trace v_stretches v_cars v_tunes v_along v_near v_borne v_tempo v_seed v_fault v_from v_at v_end v_told v_wrongAt v_culprit v_ran v_isKept g_carried g_cells f_held w160_0 f_size f_sort) H := hP
        have hD : va_D A (wX10_copy cI cJ cS a_o a_carried a_cells a_held a_refused a_size a_sort z_steps z_kind z_space z_other z_times z_speed z_base z_share z_notes z_pitch z_beats z_shown z_words z_tell z_was z_kept z_cutSpace z_cutTimes z_cutOff z_trace v_stretches v_cars v_tunes v_along v_near v_borne v_tempo v_seed v_fault v_from v_at v_end v_told v_wrongAt v_culprit v_ran v_isKept g_carried g_cells f_held w160_0 f_size f_sort) := hD
        exact W.iret hx hb hr (fun t ht _ => ⟨⟨_, (g_carried, g_cells, w160_0), rfl, h, hPt hP ht⟩, hS.F ht⟩) hS.2.2 dX10_copy_163
      have h := h.2 hc
      refine lv_iload hx hb dX10_copy_143 (lv_at hl 4 rfl) ?_
      refine lv_aload_n hx hb dX10_copy_145 rfl (lv_at hl 0 rfl) ?_
      refine gf S hE hP 0 rfl rfl inX10 (k := 23) (by decide) q1116 rfl dX10_copy_146 ?_
      refine lv_iload_n hx hb dX10_copy_149 rfl (lv_at hl 2 rfl) ?_
      obtain ⟨hi, h⟩ := h
      refine ial S hE hP 5 rfl hi dX10_copy_150 ?_
      refine lv_iload hx hb dX10_copy_151 (lv_at hl 5 rfl) ?_
      refine lv_isub hx hb dX10_copy_153 ?_
      refine lv_icmp_le (tgt := 164) hx hb dX10_copy_154 (by decide) (fun hc => ?_) (fun hc => ?_)
      · have h := h.1 hc
        refine lv_iconst (v := 0) hx hb dX10_copy_164 (by decide) ?_
        refine lv_istore (lv' := [(6, .int 0), (0, .ref a_o), (1, .int x1), (2, .int x2), (3, .int x3), (4, .int x4), (5, .int x5)]) hx hb dX10_copy_165 hl (by decide) rfl (fun ls hl => ?_)
        obtain ⟨n, h⟩ := h
        refine w_X10_copy_167 S hE hT hA hr hlocks n _ _ _ _ _ _ h hP hD hS (lv_sub hl [1, 2, 3, 4, 5, 6, 0] rfl)
      have h := h.2 hc
      refine lv_aload_n hx hb dX10_copy_157 rfl (lv_at hl 0 rfl) ?_
      refine lv_bipush (v := (-5)) hx hb dX10_copy_158 (by decide) ?_
      refine rw_i (rwV S hE hT hS hP hD hA (c_X10_no h) [0, 4] rfl (by decide +kernel) lkX10_121 rfl ⟨(Nat.le_of_ble_eq_true rfl), (Nat.le_of_ble_eq_true rfl)⟩ 0 rfl rfl hl.1 rfl (Nat.le_of_ble_eq_true rfl) dX10_copy_160 ⟨(Nat.zero_le _), (Nat.zero_le _)⟩) hP hD hS hA [0, 4] rfl (by decide +kernel) (fun _ => rfl) (fun r160 w160_0 H locs h hP hD hS => ?_)
      try dsimp only at h
      have hP : va_P D vwCl (wX10_copy cI cJ cS a_o a_carried a_cells a_held a_refused a_size a_sort z_steps z_kind z_space z_other z_times z_speed z_base z_share z_notes z_pitch z_beats z_shown z_words z_tell z_was z_kept z_cutSpace z_cutTimes z_cutOff z_trace v_stretches v_cars v_tunes v_along v_near v_borne v_tempo v_seed v_fault v_from v_at v_end v_told v_wrongAt v_culprit v_ran v_isKept g_carried g_cells f_held w160_0 f_size f_sort) H := hP
      have hD : va_D A (wX10_copy cI cJ cS a_o a_carried a_cells a_held a_refused a_size a_sort z_steps z_kind z_space z_other z_times z_speed z_base z_share z_notes z_pitch z_beats z_shown z_words z_tell z_was z_kept z_cutSpace z_cutTimes z_cutOff z_trace v_stretches v_cars v_tunes v_along v_near v_borne v_tempo v_seed v_fault v_from v_at v_end v_told v_wrongAt v_culprit v_ran v_isKept g_carried g_cells f_held w160_0 f_size f_sort) := hD
      exact W.iret hx hb hr (fun t ht _ => ⟨⟨_, (g_carried, g_cells, w160_0), rfl, h, hPt hP ht⟩, hS.F ht⟩) hS.2.2 dX10_copy_163
    have h := h.2 hc
    refine lv_aload_n hx hb dX10_copy_114 rfl (lv_at hl 0 rfl) ?_
    refine lv_bipush (v := (-4)) hx hb dX10_copy_115 (by decide) ?_
    refine rw_i (rwV S hE hT hS hP hD hA (c_X10_no h) [0, 4] rfl (by decide +kernel) lkX10_121 rfl ⟨(Nat.le_of_ble_eq_true rfl), (Nat.le_of_ble_eq_true rfl)⟩ 0 rfl rfl hl.1 rfl (Nat.le_of_ble_eq_true rfl) dX10_copy_117 ⟨(Nat.zero_le _), (Nat.zero_le _)⟩) hP hD hS hA [0, 4] rfl (by decide +kernel) (fun _ => rfl) (fun r117 w117_0 H locs h hP hD hS => ?_)
    try dsimp only at h
    have hP : va_P D vwCl (wX10_copy cI cJ cS a_o a_carried a_cells a_held a_refused a_size a_sort z_steps z_kind z_space z_other z_times z_speed z_base z_share z_notes z_pitch z_beats z_shown z_words z_tell z_was z_kept z_cutSpace z_cutTimes z_cutOff z_trace v_stretches v_cars v_tunes v_along v_near v_borne v_tempo v_seed v_fault v_from v_at v_end v_told v_wrongAt v_culprit v_ran v_isKept g_carried g_cells f_held w117_0 f_size f_sort) H := hP
    have hD : va_D A (wX10_copy cI cJ cS a_o a_carried a_cells a_held a_refused a_size a_sort z_steps z_kind z_space z_other z_times z_speed z_base z_share z_notes z_pitch z_beats z_shown z_words z_tell z_was z_kept z_cutSpace z_cutTimes z_cutOff z_trace v_stretches v_cars v_tunes v_along v_near v_borne v_tempo v_seed v_fault v_from v_at v_end v_told v_wrongAt v_culprit v_ran v_isKept g_carried g_cells f_held w117_0 f_size f_sort) := hD
    exact W.iret hx hb hr (fun t ht _ => ⟨⟨_, (g_carried, g_cells, w117_0), rfl, h, hPt hP ht⟩, hS.F ht⟩) hS.2.2 dX10_copy_120
  have h := h.1 hc
  refine lv_aload_n hx hb dX10_copy_102 rfl (lv_at hl 0 rfl) ?_
  refine lv_bipush (v := (-3)) hx hb dX10_copy_103 (by decide) ?_
  refine rw_i (rwV S hE hT hS hP hD hA (c_X10_no h) [0, 4] rfl (by decide +kernel) lkX10_121 rfl ⟨(Nat.le_of_ble_eq_true rfl), (Nat.le_of_ble_eq_true rfl)⟩ 0 rfl rfl hl.1 rfl (Nat.le_of_ble_eq_true rfl) dX10_copy_105 ⟨(Nat.zero_le _), (Nat.zero_le _)⟩) hP hD hS hA [0, 4] rfl (by decide +kernel) (fun _ => rfl) (fun r105 w105_0 H locs h hP hD hS => ?_)
  try dsimp only at h
  have hP : va_P D vwCl (wX10_copy cI cJ cS a_o a_carried a_cells a_held a_refused a_size a_sort z_steps z_kind z_space z_other z_times z_speed z_base z_share z_notes z_pitch z_beats z_shown z_words z_tell z_was z_kept z_cutSpace z_cutTimes z_cutOff z_trace v_stretches v_cars v_tunes v_along v_near v_borne v_tempo v_seed v_fault v_from v_at v_end v_told v_wrongAt v_culprit v_ran v_isKept g_carried g_cells f_held w105_0 f_size f_sort) H := hP
  have hD : va_D A (wX10_copy cI cJ cS a_o a_carried a_cells a_held a_refused a_size a_sort z_steps z_kind z_space z_other z_times z_speed z_base z_share z_notes z_pitch z_beats z_shown z_words z_tell z_was z_kept z_cutSpace z_cutTimes z_cutOff z_trace v_stretches v_cars v_tunes v_along v_near v_borne v_tempo v_seed v_fault v_from v_at v_end v_told v_wrongAt v_culprit v_ran v_isKept g_carried g_cells f_held w105_0 f_size f_sort) := hD
  exact W.iret hx hb hr (fun t ht _ => ⟨⟨_, (g_carried, g_cells, w105_0), rfl, h, hPt hP ht⟩, hS.F ht⟩) hS.2.2 dX10_copy_108
set_option maxHeartbeats 4000000 in
set_option maxRecDepth 100000 in
theorem c_X10_copy {l : Launch} {D : va_G} {cI cJ cS : ClassId} {ad adK : Nat → Nat} {a_o a_carried a_cells a_held a_refused a_size a_sort : Nat} {z_steps z_kind z_space z_other z_times z_speed z_base z_share z_notes z_pitch z_beats z_shown z_words z_tell z_was z_kept z_cutSpace z_cutTimes z_cutOff z_trace : Value} {v_stretches : Int32} {v_cars : Int32} {v_tunes : Int32} {v_along : Int32} {v_near : Int32} {v_borne : Int32} {v_tempo : Int32} {v_seed : Int32} {v_fault : Int32} {v_from : Int32} {v_at : Int32} {v_end : Int32} {v_told : Int32} {v_wrongAt : Int32} {v_culprit : Int32} {v_ran : Int32} {v_isKept : Int32} {g_carried : Nat → Int64} {g_cells : Nat → Int64} {f_held : Nat → Int32} {f_refused : Nat → Int32} {f_size : Nat → Int32} {f_sort : Nat → Int32} {x1 : Int32} {x2 : Int32} {x3 : Int32} {x4 : Int32} {x5 : Int32} {post : Int32 → (Nat → Int64) → (Nat → Int64) → (Nat → Int32) → Prop} (h : F_X10_copy g_carried g_cells f_held f_refused f_size f_sort x1 x2 x3 x4 x5 post) {sz : Nat} : Met l yX10_copy (Cond.code yX10_copy cX10_copy 7 (some (.int)) :: GW) (rmd 1 0 0) (PW D cI cJ cS ad adK [.ref a_o, .int x1, .int x2, .int x3, .int x4, .int x5] (wX10_copy cI cJ cS a_o a_carried a_cells a_held a_refused a_size a_sort z_steps z_kind z_space z_other z_times z_speed z_base z_share z_notes z_pitch z_beats z_shown z_words z_tell z_was z_kept z_cutSpace z_cutTimes z_cutOff z_trace v_stretches v_cars v_tunes v_along v_near v_borne v_tempo v_seed v_fault v_from v_at v_end v_told v_wrongAt v_culprit v_ran v_isKept g_carried g_cells f_held f_refused f_size f_sort) sz) (va_Qi (fun r (u : (Nat → Int64) × (Nat → Int64) × (Nat → Int32)) => post r u.1 u.2.1 u.2.2) (fun u t => va_P D vwCl (wX10_copy cI cJ cS a_o a_carried a_cells a_held a_refused a_size a_sort z_steps z_kind z_space z_other z_times z_speed z_base z_share z_notes z_pitch z_beats z_shown z_words z_tell z_was z_kept z_cutSpace z_cutTimes z_cutOff z_trace v_stretches v_cars v_tunes v_along v_near v_borne v_tempo v_seed v_fault v_from v_at v_end v_told v_wrongAt v_culprit v_ran v_isKept u.1 u.2.1 f_held u.2.2 f_size f_sort) t.heap) (va_A (wX10_copy cI cJ cS a_o a_carried a_cells a_held a_refused a_size a_sort z_steps z_kind z_space z_other z_times z_speed z_base z_share z_notes z_pitch z_beats z_shown z_words z_tell z_was z_kept z_cutSpace z_cutTimes z_cutOff z_trace v_stretches v_cars v_tunes v_along v_near v_borne v_tempo v_seed v_fault v_from v_at v_end v_told v_wrongAt v_culprit v_ran v_isKept g_carried g_cells f_held f_refused f_size f_sort) sz)) 0 0 (va_A (wX10_copy cI cJ cS a_o a_carried a_cells a_held a_refused a_size a_sort z_steps z_kind z_space z_other z_times z_speed z_base z_share z_notes z_pitch z_beats z_shown z_words z_tell z_was z_kept z_cutSpace z_cutTimes z_cutOff z_trace v_stretches v_cars v_tunes v_along v_near v_borne v_tempo v_seed v_fault v_from v_at v_end v_told v_wrongAt v_culprit v_ran v_isKept g_carried g_cells f_held f_refused f_size f_sort) sz) := by
  refine Met.rw (Qc := fun A => (va_Qi (fun r (u : (Nat → Int64) × (Nat → Int64) × (Nat → Int32)) => post r u.1 u.2.1 u.2.2) (fun u t => va_P D vwCl (wX10_copy cI cJ cS a_o a_carried a_cells a_held a_refused a_size a_sort z_steps z_kind z_space z_other z_times z_speed z_base z_share z_notes z_pitch z_beats z_shown z_words z_tell z_was z_kept z_cutSpace z_cutTimes z_cutOff z_trace v_stretches v_cars v_tunes v_along v_near v_borne v_tempo v_seed v_fault v_from v_at v_end v_told v_wrongAt v_culprit v_ran v_isKept u.1 u.2.1 f_held u.2.2 f_size f_sort) t.heap) A)) (by decide) (Nat.le_of_ble_eq_true rfl) (fun p e s m args below meth c ls A (S : CallFix p m c cX10_copy 7 s args GW "RoadThatSingsModel") hE hT hP hD hA hS hr hlocks hname hl => ?_)
  have hS0 := hS
  have hx := S.1
  have hb := S.2.1
  have hl : lv_has ls 7 [(0, .ref a_o), (1, .int x1), (2, .int x2), (3, .int x3), (4, .int x4), (5, .int x5)] := hl
  unfold F_X10_copy at h
  refine lv_aload_n hx hb dX10_copy_0 rfl (lv_at hl 0 rfl) ?_
  refine lv_iload_n hx hb dX10_copy_1 rfl (lv_at hl 1 rfl) ?_
  refine ro_i (roV S hE hT hS (c_X10_isShelf h) lkX10_117 rfl ⟨(Nat.le_of_ble_eq_true rfl), (Nat.le_of_ble_eq_true rfl)⟩ (hP.sub [0] rfl) 0 rfl rfl hl.1 rfl (Nat.le_of_ble_eq_true rfl) dX10_copy_2 ⟨(Nat.zero_le _), (Nat.zero_le _)⟩) (fun r2 h => ?_)
  refine lv_if_eq (tgt := 16) hx hb dX10_copy_5 (by decide) (fun hc => ?_) (fun hc => ?_)
  · have h := h.1 hc
    refine lv_aload_n hx hb dX10_copy_16 rfl (lv_at hl 0 rfl) ?_
    refine lv_iconst (v := (-1)) hx hb dX10_copy_17 (by decide) ?_
    refine rw_i (rwV S hE hT hS hP hD hA (c_X10_no h) [0, 4] rfl (by decide +kernel) lkX10_121 rfl ⟨(Nat.le_of_ble_eq_true rfl), (Nat.le_of_ble_eq_true rfl)⟩ 0 rfl rfl hl.1 rfl (Nat.le_of_ble_eq_true rfl) dX10_copy_18 ⟨(Nat.zero_le _), (Nat.zero_le _)⟩) hP hD hS hA [0, 4] rfl (by decide +kernel) (fun _ => rfl) (fun r18 w18_0 H locs h hP hD hS => ?_)
    try dsimp only at h
    have hP : va_P D vwCl (wX10_copy cI cJ cS a_o a_carried a_cells a_held a_refused a_size a_sort z_steps z_kind z_space z_other z_times z_speed z_base z_share z_notes z_pitch z_beats z_shown z_words z_tell z_was z_kept z_cutSpace z_cutTimes z_cutOff z_trace v_stretches v_cars v_tunes v_along v_near v_borne v_tempo v_seed v_fault v_from v_at v_end v_told v_wrongAt v_culprit v_ran v_isKept g_carried g_cells f_held w18_0 f_size f_sort) H := hP
    have hD : va_D A (wX10_copy cI cJ cS a_o a_carried a_cells a_held a_refused a_size a_sort z_steps z_kind z_space z_other z_times z_speed z_base z_share z_notes z_pitch z_beats z_shown z_words z_tell z_was z_kept z_cutSpace z_cutTimes z_cutOff z_trace v_stretches v_cars v_tunes v_along v_near v_borne v_tempo v_seed v_fault v_from v_at v_end v_told v_wrongAt v_culprit v_ran v_isKept g_carried g_cells f_held w18_0 f_size f_sort) := hD
    exact W.iret hx hb hr (fun t ht _ => ⟨⟨_, (g_carried, g_cells, w18_0), rfl, h, hPt hP ht⟩, hS.F ht⟩) hS.2.2 dX10_copy_21
  have h := h.2 hc
  refine lv_aload_n hx hb dX10_copy_8 rfl (lv_at hl 0 rfl) ?_
  refine lv_iload_n hx hb dX10_copy_9 rfl (lv_at hl 2 rfl) ?_
  refine ro_i (roV S hE hT hS (c_X10_isShelf h) lkX10_117 rfl ⟨(Nat.le_of_ble_eq_true rfl), (Nat.le_of_ble_eq_true rfl)⟩ (hP.sub [0] rfl) 0 rfl rfl hl.1 rfl (Nat.le_of_ble_eq_true rfl) dX10_copy_10 ⟨(Nat.zero_le _), (Nat.zero_le _)⟩) (fun r10 h => ?_)
  refine lv_if_ne (tgt := 22) hx hb dX10_copy_13 (by decide) (fun hc => ?_) (fun hc => ?_)
  · have h := h.2 hc
    refine lv_aload_n hx hb dX10_copy_22 rfl (lv_at hl 0 rfl) ?_
    refine gf S hE hP 0 rfl rfl inX10 (k := 21) (by decide) q1114 rfl dX10_copy_23 ?_
    refine lv_iload_n hx hb dX10_copy_26 rfl (lv_at hl 1 rfl) ?_
    obtain ⟨hi, h⟩ := h
    refine ial S hE hP 3 rfl hi dX10_copy_27 ?_
    refine lv_iconst (v := 2) hx hb dX10_copy_28 (by decide) ?_
    refine lv_icmp_eq (tgt := 77) hx hb dX10_copy_29 (by decide) (fun hc => ?_) (fun hc => ?_)
    · have h := h.1 hc
      refine lv_aload_n hx hb dX10_copy_77 rfl (lv_at hl 0 rfl) ?_
      refine lv_bipush (v := (-2)) hx hb dX10_copy_78 (by decide) ?_
      refine rw_i (rwV S hE hT hS hP hD hA (c_X10_no h) [0, 4] rfl (by decide +kernel) lkX10_121 rfl ⟨(Nat.le_of_ble_eq_true rfl), (Nat.le_of_ble_eq_true rfl)⟩ 0 rfl rfl hl.1 rfl (Nat.le_of_ble_eq_true rfl) dX10_copy_80 ⟨(Nat.zero_le _), (Nat.zero_le _)⟩) hP hD hS hA [0, 4] rfl (by decide +kernel) (fun _ => rfl) (fun r80 w80_0 H locs h hP hD hS => ?_)
      try dsimp only at h
      have hP : va_P D vwCl (wX10_copy cI cJ cS a_o a_carried a_cells a_held a_refused a_size a_sort z_steps z_kind z_space z_other z_times z_speed z_base z_share z_notes z_pitch z_beats z_shown z_words z_tell z_was z_kept z_cutSpace z_cutTimes z_cutOff z_trace v_stretches v_cars v_tunes v_along v_near v_borne v_tempo v_seed v_fault v_from v_at v_end v_told v_wrongAt v_culprit v_ran v_isKept g_carried g_cells f_held w80_0 f_size f_sort) H := hP
      have hD : va_D A (wX10_copy cI cJ cS a_o a_carried a_cells a_held a_refused a_size a_sort z_steps z_kind z_space z_other z_times z_speed z_base z_share z_notes z_pitch z_beats z_shown z_words z_tell z_was z_kept z_cutSpace z_cutTimes z_cutOff z_trace v_stretches v_cars v_tunes v_along v_near v_borne v_tempo v_seed v_fault v_from v_at v_end v_told v_wrongAt v_culprit v_ran v_isKept g_carried g_cells f_held w80_0 f_size f_sort) := hD
      exact W.iret hx hb hr (fun t ht _ => ⟨⟨_, (g_carried, g_cells, w80_0), rfl, h, hPt hP ht⟩, hS.F ht⟩) hS.2.2 dX10_copy_83
    have h := h.2 hc
    refine lv_aload_n hx hb dX10_copy_32 rfl (lv_at hl 0 rfl) ?_
    refine gf S hE hP 0 rfl rfl inX10 (k := 21) (by decide) q1114 rfl dX10_copy_33 ?_
    refine lv_iload_n hx hb dX10_copy_36 rfl (lv_at hl 2 rfl) ?_
    obtain ⟨hi, h⟩ := h
    refine ial S hE hP 3 rfl hi dX10_copy_37 ?_
    refine lv_iconst (v := 2) hx hb dX10_copy_38 (by decide) ?_
    refine lv_icmp_eq (tgt := 77) hx hb dX10_copy_39 (by decide) (fun hc => ?_) (fun hc => ?_)
    · have h := h.1 hc
      refine lv_aload_n hx hb dX10_copy_77 rfl (lv_at hl 0 rfl) ?_
      refine lv_bipush (v := (-2)) hx hb dX10_copy_78 (by decide) ?_
      refine rw_i (rwV S hE hT hS hP hD hA (c_X10_no h) [0, 4] rfl (by decide +kernel) lkX10_121 rfl ⟨(Nat.le_of_ble_eq_true rfl), (Nat.le_of_ble_eq_true rfl)⟩ 0 rfl rfl hl.1 rfl (Nat.le_of_ble_eq_true rfl) dX10_copy_80 ⟨(Nat.zero_le _), (Nat.zero_le _)⟩) hP hD hS hA [0, 4] rfl (by decide +kernel) (fun _ => rfl) (fun r80 w80_0 H locs h hP hD hS => ?_)
      try dsimp only at h
      have hP : va_P D vwCl (wX10_copy cI cJ cS a_o a_carried a_cells a_held a_refused a_size a_sort z_steps z_kind z_space z_other z_times z_speed z_base z_share z_notes z_pitch z_beats z_shown z_words z_tell z_was z_kept z_cutSpace z_cutTimes z_cutOff z_trace v_stretches v_cars v_tunes v_along v_near v_borne v_tempo v_seed v_fault v_from v_at v_end v_told v_wrongAt v_culprit v_ran v_isKept g_carried g_cells f_held w80_0 f_size f_sort) H := hP
      have hD : va_D A (wX10_copy cI cJ cS a_o a_carried a_cells a_held a_refused a_size a_sort z_steps z_kind z_space z_other z_times z_speed z_base z_share z_notes z_pitch z_beats z_shown z_words z_tell z_was z_kept z_cutSpace z_cutTimes z_cutOff z_trace v_stretches v_cars v_tunes v_along v_near v_borne v_tempo v_seed v_fault v_from v_at v_end v_told v_wrongAt v_culprit v_ran v_isKept g_carried g_cells f_held w80_0 f_size f_sort) := hD
      exact W.iret hx hb hr (fun t ht _ => ⟨⟨_, (g_carried, g_cells, w80_0), rfl, h, hPt hP ht⟩, hS.F ht⟩) hS.2.2 dX10_copy_83
    have h := h.2 hc
    refine lv_aload_n hx hb dX10_copy_42 rfl (lv_at hl 0 rfl) ?_
    refine gf S hE hP 0 rfl rfl inX10 (k := 21) (by decide) q1114 rfl dX10_copy_43 ?_
    refine lv_iload_n hx hb dX10_copy_46 rfl (lv_at hl 1 rfl) ?_
    obtain ⟨hi, h⟩ := h
    refine ial S hE hP 3 rfl hi dX10_copy_47 ?_
    refine lv_iconst (v := 1) hx hb dX10_copy_48 (by decide) ?_
    refine lv_icmp_ne (tgt := 84) hx hb dX10_copy_49 (by decide) (fun hc => ?_) (fun hc => ?_)
    · have h := h.2 hc
      refine w_X10_copy_84 S hE hT hA hr hlocks _ _ _ h hP hD hS (lv_sub hl [0, 1, 2, 3, 4, 5] rfl)
    have h := h.1 hc
    refine lv_aload_n hx hb dX10_copy_52 rfl (lv_at hl 0 rfl) ?_
    refine gf S hE hP 0 rfl rfl inX10 (k := 21) (by decide) q1114 rfl dX10_copy_53 ?_
    refine lv_iload_n hx hb dX10_copy_56 rfl (lv_at hl 2 rfl) ?_
    obtain ⟨hi, h⟩ := h
    refine ial S hE hP 3 rfl hi dX10_copy_57 ?_
    refine lv_iconst (v := 1) hx hb dX10_copy_58 (by decide) ?_
    refine lv_icmp_ne (tgt := 84) hx hb dX10_copy_59 (by decide) (fun hc => ?_) (fun hc => ?_)
    · have h := h.2 hc
      refine w_X10_copy_84 S hE hT hA hr hlocks _ _ _ h hP hD hS (lv_sub hl [0, 1, 2, 3, 4, 5] rfl)
    have h := h.1 hc
    refine lv_aload_n hx hb dX10_copy_62 rfl (lv_at hl 0 rfl) ?_
    refine gf S hE hP 0 rfl rfl inX10 (k := 22) (by decide) q1115 rfl dX10_copy_63 ?_
    refine lv_iload_n hx hb dX10_copy_66 rfl (lv_at hl 1 rfl) ?_
    obtain ⟨hi, h⟩ := h
    refine ial S hE hP 6 rfl hi dX10_copy_67 ?_
    refine lv_aload_n hx hb dX10_copy_68 rfl (lv_at hl 0 rfl) ?_
    refine gf S hE hP 0 rfl rfl inX10 (k := 22) (by decide) q1115 rfl dX10_copy_69 ?_
    refine lv_iload_n hx hb dX10_copy_72 rfl (lv_at hl 2 rfl) ?_
    obtain ⟨hi, h⟩ := h
    refine ial S hE hP 6 rfl hi dX10_copy_73 ?_
    refine lv_icmp_eq (tgt := 84) hx hb dX10_copy_74 (by decide) (fun hc => ?_) (fun hc => ?_)
    · have h := h.1 hc
      refine w_X10_copy_84 S hE hT hA hr hlocks _ _ _ h hP hD hS (lv_sub hl [0, 1, 2, 3, 4, 5] rfl)
    have h := h.2 hc
    refine lv_aload_n hx hb dX10_copy_77 rfl (lv_at hl 0 rfl) ?_
    refine lv_bipush (v := (-2)) hx hb dX10_copy_78 (by decide) ?_
    refine rw_i (rwV S hE hT hS hP hD hA (c_X10_no h) [0, 4] rfl (by decide +kernel) lkX10_121 rfl ⟨(Nat.le_of_ble_eq_true rfl), (Nat.le_of_ble_eq_true rfl)⟩ 0 rfl rfl hl.1 rfl (Nat.le_of_ble_eq_true rfl) dX10_copy_80 ⟨(Nat.zero_le _), (Nat.zero_le _)⟩) hP hD hS hA [0, 4] rfl (by decide +kernel) (fun _ => rfl) (fun r80 w80_0 H locs h hP hD hS => ?_)
    try dsimp only at h
    have hP : va_P D vwCl (wX10_copy cI cJ cS a_o a_carried a_cells a_held a_refused a_size a_sort z_steps z_kind z_space z_other z_times z_speed z_base z_share z_notes z_pitch z_beats z_shown z_words z_tell z_was z_kept z_cutSpace z_cutTimes z_cutOff z_trace v_stretches v_cars v_tunes v_along v_near v_borne v_tempo v_seed v_fault v_from v_at v_end v_told v_wrongAt v_culprit v_ran v_isKept g_carried g_cells f_held w80_0 f_size f_sort) H := hP
    have hD : va_D A (wX10_copy cI cJ cS a_o a_carried a_cells a_held a_refused a_size a_sort z_steps z_kind z_space z_other z_times z_speed z_base z_share z_notes z_pitch z_beats z_shown z_words z_tell z_was z_kept z_cutSpace z_cutTimes z_cutOff z_trace v_stretches v_cars v_tunes v_along v_near v_borne v_tempo v_seed v_fault v_from v_at v_end v_told v_wrongAt v_culprit v_ran v_isKept g_carried g_cells f_held w80_0 f_size f_sort) := hD
    exact W.iret hx hb hr (fun t ht _ => ⟨⟨_, (g_carried, g_cells, w80_0), rfl, h, hPt hP ht⟩, hS.F ht⟩) hS.2.2 dX10_copy_83
  have h := h.1 hc
  refine lv_aload_n hx hb dX10_copy_16 rfl (lv_at hl 0 rfl) ?_
  refine lv_iconst (v := (-1)) hx hb dX10_copy_17 (by decide) ?_
  refine rw_i (rwV S hE hT hS hP hD hA (c_X10_no h) [0, 4] rfl (by decide +kernel) lkX10_121 rfl ⟨(Nat.le_of_ble_eq_true rfl), (Nat.le_of_ble_eq_true rfl)⟩ 0 rfl rfl hl.1 rfl (Nat.le_of_ble_eq_true rfl) dX10_copy_18 ⟨(Nat.zero_le _), (Nat.zero_le _)⟩) hP hD hS hA [0, 4] rfl (by decide +kernel) (fun _ => rfl) (fun r18 w18_0 H locs h hP hD hS => ?_)
  try dsimp only at h
  have hP : va_P D vwCl (wX10_copy cI cJ cS a_o a_carried a_cells a_held a_refused a_size a_sort z_steps z_kind z_space z_other z_times z_speed z_base z_share z_notes z_pitch z_beats z_shown z_words z_tell z_was z_kept z_cutSpace z_cutTimes z_cutOff z_trace v_stretches v_cars v_tunes v_along v_near v_borne v_tempo v_seed v_fault v_from v_at v_end v_told v_wrongAt v_culprit v_ran v_isKept g_carried g_cells f_held w18_0 f_size f_sort) H := hP
  have hD : va_D A (wX10_copy cI cJ cS a_o a_carried a_cells a_held a_refused a_size a_sort z_steps z_kind z_space z_other z_times z_speed z_base z_share z_notes z_pitch z_beats z_shown z_words z_tell z_was z_kept z_cutSpace z_cutTimes z_cutOff z_trace v_stretches v_cars v_tunes v_along v_near v_borne v_tempo v_seed v_fault v_from v_at v_end v_told v_wrongAt v_culprit v_ran v_isKept g_carried g_cells f_held w18_0 f_size f_sort) := hD
  exact W.iret hx hb hr (fun t ht _ => ⟨⟨_, (g_carried, g_cells, w18_0), rfl, h, hPt hP ht⟩, hS.F ht⟩) hS.2.2 dX10_copy_21
/-! X10_element -/
abbrev wX10_element (cI cJ cS : ClassId) (a_o a_cells a_held a_size : Nat) (z_refused z_steps z_kind z_space z_other z_times z_speed z_base z_share z_notes z_pitch z_beats z_sort z_shown z_carried z_words z_tell z_was z_kept z_cutSpace z_cutTimes z_cutOff z_trace : Value) (v_stretches : Int32) (v_cars : Int32) (v_tunes : Int32) (v_along : Int32) (v_near : Int32) (v_borne : Int32) (v_tempo : Int32) (v_seed : Int32) (v_fault : Int32) (v_from : Int32) (v_at : Int32) (v_end : Int32) (v_told : Int32) (v_wrongAt : Int32) (v_culprit : Int32) (v_ran : Int32) (v_isKept : Int32) (g_cells : Nat → Int64) (f_held : Nat → Int32) (f_size : Nat → Int32) : va_W := [(a_o, .inr (9, [.int v_stretches, .int v_cars, .int v_tunes, .int v_along, .int v_near, .int v_borne, .int v_tempo, .int v_seed, .int v_fault, z_refused, z_steps, z_kind, z_space, z_other, z_times, z_speed, z_base, z_share, z_notes, z_pitch, z_beats, .ref a_held, z_sort, .ref a_size, z_shown, .ref a_cells, z_carried, z_words, z_tell, .int v_from, .int v_at, .int v_end, .int v_told, .int v_wrongAt, z_was, z_kept, .int v_culprit, z_cutSpace, z_cutTimes, z_cutOff, z_trace, .int v_ran, .int v_isKept])), (a_cells, .inl (cJ, 1280, .inr (.inl g_cells))), (a_held, .inl (cI, 8, .inl f_held)), (a_size, .inl (cI, 8, .inl f_size))]
def F_X10_element (g_cells : Nat → Int64) (f_held : Nat → Int32) (f_size : Nat → Int32) (x1 : Int32) (x2 : Int32) (post : Int64 → Prop) : Prop := (F_X10_isShelf x1 (fun r2 => ((r2 = 0 → post 0) ∧ (¬ r2 = 0 → (vp_in x1 8 ∧ (((f_held x1.toNatClampNeg) = 1 → ((x2 < 0 → post 0) ∧ (¬ x2 < 0 → (vp_in x1 8 ∧ (((f_size x1.toNatClampNeg) ≤ x2 → post 0) ∧ (¬ (f_size x1.toNatClampNeg) ≤ x2 → (vp_in ((160 * x1) + x2) 1280 ∧ post (g_cells ((160 * x1) + x2).toNatClampNeg)))))))) ∧ (¬ (f_held x1.toNatClampNeg) = 1 → post 0)))))))
set_option maxHeartbeats 4000000 in
set_option maxRecDepth 100000 in
theorem c_X10_element {l : Launch} {D : va_G} {cI cJ cS : ClassId} {ad adK : Nat → Nat} {a_o a_cells a_held a_size : Nat} {z_refused z_steps z_kind z_space z_other z_times z_speed z_base z_share z_notes z_pitch z_beats z_sort z_shown z_carried z_words z_tell z_was z_kept z_cutSpace z_cutTimes z_cutOff z_trace : Value} {v_stretches : Int32} {v_cars : Int32} {v_tunes : Int32} {v_along : Int32} {v_near : Int32} {v_borne : Int32} {v_tempo : Int32} {v_seed : Int32} {v_fault : Int32} {v_from : Int32} {v_at : Int32} {v_end : Int32} {v_told : Int32} {v_wrongAt : Int32} {v_culprit : Int32} {v_ran : Int32} {v_isKept : Int32} {g_cells : Nat → Int64} {f_held : Nat → Int32} {f_size : Nat → Int32} {x1 : Int32} {x2 : Int32} {post : Int64 → Prop} (h : F_X10_element g_cells f_held f_size x1 x2 post) : Met l yX10_element (Cond.code yX10_element cX10_element 3 (some (.long)) :: GW) (rmd 1 0 0) (PR D cI cJ cS ad adK [.ref a_o, .int x1, .int x2] (wX10_element cI cJ cS a_o a_cells a_held a_size z_refused z_steps z_kind z_space z_other z_times z_speed z_base z_share z_notes z_pitch z_beats z_sort z_shown z_carried z_words z_tell z_was z_kept z_cutSpace z_cutTimes z_cutOff z_trace v_stretches v_cars v_tunes v_along v_near v_borne v_tempo v_seed v_fault v_from v_at v_end v_told v_wrongAt v_culprit v_ran v_isKept g_cells f_held f_size)) (vp_Sl post) 0 0 nof := by
  refine Met.ro (by decide) (Nat.le_of_ble_eq_true rfl) (fun p e s m args below meth c ls (S : CallFix p m c cX10_element 3 s args GW "RoadThatSingsModel") hE hT hP hS hr hlocks hl => ?_)
  have hx := S.1
  have hb := S.2.1
  have hl : lv_has ls 3 [(0, .ref a_o), (1, .int x1), (2, .int x2)] := hl
  unfold F_X10_element at h
  refine lv_aload_n hx hb dX10_element_0 rfl (lv_at hl 0 rfl) ?_
  refine lv_iload_n hx hb dX10_element_1 rfl (lv_at hl 1 rfl) ?_
  refine ro_i (roV S hE hT hS (c_X10_isShelf h) lkX10_117 rfl ⟨(Nat.le_of_ble_eq_true rfl), (Nat.le_of_ble_eq_true rfl)⟩ (hP.sub [0] rfl) 0 rfl rfl hl.1 rfl (Nat.le_of_ble_eq_true rfl) dX10_element_2 ⟨(Nat.zero_le _), (Nat.zero_le _)⟩) (fun r2 h => ?_)
  refine lv_if_eq (tgt := 47) hx hb dX10_element_5 (by decide) (fun hc => ?_) (fun hc => ?_)
  · have h := h.1 hc
    refine lv_lconst (v := 0) hx hb dX10_element_47 (by decide) ?_
    exact W.lret hx hb hr (fun t ht _ => ⟨_, rfl, h, ht⟩) (fun _ hq => by cases hq) dX10_element_48
  have h := h.2 hc
  refine lv_aload_n hx hb dX10_element_8 rfl (lv_at hl 0 rfl) ?_
  refine gf S hE hP 0 rfl rfl inX10 (k := 21) (by decide) q1114 rfl dX10_element_9 ?_
  refine lv_iload_n hx hb dX10_element_12 rfl (lv_at hl 1 rfl) ?_
  obtain ⟨hi, h⟩ := h
  refine ial S hE hP 2 rfl hi dX10_element_13 ?_
  refine lv_iconst (v := 1) hx hb dX10_element_14 (by decide) ?_
  refine lv_icmp_ne (tgt := 47) hx hb dX10_element_15 (by decide) (fun hc => ?_) (fun hc => ?_)
  · have h := h.2 hc
    refine lv_lconst (v := 0) hx hb dX10_element_47 (by decide) ?_
    exact W.lret hx hb hr (fun t ht _ => ⟨_, rfl, h, ht⟩) (fun _ hq => by cases hq) dX10_element_48
  have h := h.1 hc
  refine lv_iload_n hx hb dX10_element_18 rfl (lv_at hl 2 rfl) ?_
  refine lv_if_lt (tgt := 47) hx hb dX10_element_19 (by decide) (fun hc => ?_) (fun hc => ?_)
  · have h := h.1 hc
    refine lv_lconst (v := 0) hx hb dX10_element_47 (by decide) ?_
    exact W.lret hx hb hr (fun t ht _ => ⟨_, rfl, h, ht⟩) (fun _ hq => by cases hq) dX10_element_48
  have h := h.2 hc
  refine lv_iload_n hx hb dX10_element_22 rfl (lv_at hl 2 rfl) ?_
  refine lv_aload_n hx hb dX10_element_23 rfl (lv_at hl 0 rfl) ?_
  refine gf S hE hP 0 rfl rfl inX10 (k := 23) (by decide) q1116 rfl dX10_element_24 ?_
  refine lv_iload_n hx hb dX10_element_27 rfl (lv_at hl 1 rfl) ?_
  obtain ⟨hi, h⟩ := h
  refine ial S hE hP 3 rfl hi dX10_element_28 ?_
  refine lv_icmp_ge (tgt := 47) hx hb dX10_element_29 (by decide) (fun hc => ?_) (fun hc => ?_)
  · have h := h.1 hc
    refine lv_lconst (v := 0) hx hb dX10_element_47 (by decide) ?_
    exact W.lret hx hb hr (fun t ht _ => ⟨_, rfl, h, ht⟩) (fun _ hq => by cases hq) dX10_element_48
  have h := h.2 hc
  refine lv_aload_n hx hb dX10_element_32 rfl (lv_at hl 0 rfl) ?_
  refine gf S hE hP 0 rfl rfl inX10 (k := 25) (by decide) q1118 rfl dX10_element_33 ?_
  refine lv_sipush (v := 160) hx hb dX10_element_36 (by decide) ?_
  refine lv_iload_n hx hb dX10_element_39 rfl (lv_at hl 1 rfl) ?_
  refine lv_imul hx hb dX10_element_40 ?_
  refine lv_iload_n hx hb dX10_element_41 rfl (lv_at hl 2 rfl) ?_
  refine lv_iadd hx hb dX10_element_42 ?_
  obtain ⟨hi, h⟩ := h
  refine lal S hE hP 1 rfl hi dX10_element_43 ?_
  refine lv_goto (tgt := 48) hx hb dX10_element_44 (by decide) ?_
  exact W.lret hx hb hr (fun t ht _ => ⟨_, rfl, h, ht⟩) (fun _ hq => by cases hq) dX10_element_48
/-! X10_show -/
abbrev wX10_show (cI cJ cS : ClassId) (a_o a_held a_refused a_shown : Nat) (z_steps z_kind z_space z_other z_times z_speed z_base z_share z_notes z_pitch z_beats z_sort z_size z_cells z_carried z_words z_tell z_was z_kept z_cutSpace z_cutTimes z_cutOff z_trace : Value) (v_stretches : Int32) (v_cars : Int32) (v_tunes : Int32) (v_along : Int32) (v_near : Int32) (v_borne : Int32) (v_tempo : Int32) (v_seed : Int32) (v_fault : Int32) (v_from : Int32) (v_at : Int32) (v_end : Int32) (v_told : Int32) (v_wrongAt : Int32) (v_culprit : Int32) (v_ran : Int32) (v_isKept : Int32) (f_held : Nat → Int32) (f_refused : Nat → Int32) (f_shown : Nat → Int32) : va_W := [(a_o, .inr (9, [.int v_stretches, .int v_cars, .int v_tunes, .int v_along, .int v_near, .int v_borne, .int v_tempo, .int v_seed, .int v_fault, .ref a_refused, z_steps, z_kind, z_space, z_other, z_times, z_speed, z_base, z_share, z_notes, z_pitch, z_beats, .ref a_held, z_sort, z_size, .ref a_shown, z_cells, z_carried, z_words, z_tell, .int v_from, .int v_at, .int v_end, .int v_told, .int v_wrongAt, z_was, z_kept, .int v_culprit, z_cutSpace, z_cutTimes, z_cutOff, z_trace, .int v_ran, .int v_isKept])), (a_held, .inl (cI, 8, .inl f_held)), (a_refused, .inl (cI, 8, .inl f_refused)), (a_shown, .inl (cI, 8, .inl f_shown))]
def F_X10_show_42 (post : Int32 → (Nat → Int32) → (Nat → Int32) → (Nat → Int32) → Prop) (x1 : Int32) (x2 : Int32) (f_held : Nat → Int32) (f_refused : Nat → Int32) (f_shown : Nat → Int32) (s0 : Int32) (s1 : Int32) : Prop := (vp_in s1 8 ∧ (vp_in x1 8 ∧ ((x2 = (-1) → post 0 (upd f_held s1.toNatClampNeg s0) f_refused (upd f_shown x1.toNatClampNeg x2)) ∧ (¬ x2 = (-1) → post 1 (upd f_held s1.toNatClampNeg s0) f_refused (upd f_shown x1.toNatClampNeg x2)))))
def F_X10_show_27 (post : Int32 → (Nat → Int32) → (Nat → Int32) → (Nat → Int32) → Prop) (x1 : Int32) (x2 : Int32) (f_held : Nat → Int32) (f_refused : Nat → Int32) (f_shown : Nat → Int32) : Prop := ((x2 = (-1) → F_X10_show_42 post x1 x2 f_held f_refused f_shown 0 x1) ∧ (¬ x2 = (-1) → F_X10_show_42 post x1 x2 f_held f_refused f_shown 2 x1))
def F_X10_show (v_stretches : Int32) (f_held : Nat → Int32) (f_refused : Nat → Int32) (f_shown : Nat → Int32) (x1 : Int32) (x2 : Int32) (post : Int32 → (Nat → Int32) → (Nat → Int32) → (Nat → Int32) → Prop) : Prop := (F_X10_isShelf x1 (fun r2 => ((r2 = 0 → (F_X10_no f_refused (-1) (fun r23 w23_0 => post r23 f_held w23_0 f_shown))) ∧ (¬ r2 = 0 → ((x2 = (-1) → F_X10_show_27 post x1 x2 f_held f_refused f_shown) ∧ (¬ x2 = (-1) → (F_X10_isStretch v_stretches x2 (fun r15 => ((r15 = 0 → (F_X10_no f_refused (-1) (fun r23 w23_0 => post r23 f_held w23_0 f_shown))) ∧ (¬ r15 = 0 → F_X10_show_27 post x1 x2 f_held f_refused f_shown))))))))))
set_option maxHeartbeats 4000000 in
set_option maxRecDepth 100000 in
theorem w_X10_show_42 {l : Launch} {D : va_G} {cI cJ cS : ClassId} {ad adK : Nat → Nat} {a_o a_held a_refused a_shown : Nat} {z_steps z_kind z_space z_other z_times z_speed z_base z_share z_notes z_pitch z_beats z_sort z_size z_cells z_carried z_words z_tell z_was z_kept z_cutSpace z_cutTimes z_cutOff z_trace : Value} {v_stretches : Int32} {v_cars : Int32} {v_tunes : Int32} {v_along : Int32} {v_near : Int32} {v_borne : Int32} {v_tempo : Int32} {v_seed : Int32} {v_fault : Int32} {v_from : Int32} {v_at : Int32} {v_end : Int32} {v_told : Int32} {v_wrongAt : Int32} {v_culprit : Int32} {v_ran : Int32} {v_isKept : Int32} {f_held : Nat → Int32} {f_refused : Nat → Int32} {f_shown : Nat → Int32} {x1 : Int32} {x2 : Int32} {s0 : Int32} {s1 : Int32} {post : Int32 → (Nat → Int32) → (Nat → Int32) → (Nat → Int32) → Prop} {p : Program} {e : Env} {s : State} {m : MethodId} {args : Array Value} {below : List Frame} {meth : Method} {c : Code} {A : Nat → Prop} (S : CallFix p m c cX10_show 3 s args GW "RoadThatSingsModel") (hE : EN D cI cJ cS s) (hT : ST ad adK A s s.heap) (hA : ∀ q : Nat, s.heap.size ≤ q → A q) (hr : meth.sig.returnType = (some (.int))) (hlocks : meth.locks = false) : ∀ (H : Heap) (locs : List Loc) (ls : Array Slot), F_X10_show_42 post x1 x2 f_held f_refused f_shown s0 s1 → va_P D vwCl (wX10_show cI cJ cS a_o a_held a_refused a_shown z_steps z_kind z_space z_other z_times z_speed z_base z_share z_notes z_pitch z_beats z_sort z_size z_cells z_carried z_words z_tell z_was z_kept z_cutSpace z_cutTimes z_cutOff z_trace v_stretches v_cars v_tunes v_along v_near v_borne v_tempo v_seed v_fault v_from v_at v_end v_told v_wrongAt v_culprit v_ran v_isKept f_held f_refused f_shown) H → va_D A (wX10_show cI cJ cS a_o a_held a_refused a_shown z_steps z_kind z_space z_other z_times z_speed z_base z_share z_notes z_pitch z_beats z_sort z_size z_cells z_carried z_words z_tell z_was z_kept z_cutSpace z_cutTimes z_cutOff z_trace v_stretches v_cars v_tunes v_along v_near v_borne v_tempo v_seed v_fault v_from v_at v_end v_told v_wrongAt v_culprit v_ran v_isKept f_held f_refused f_shown) → va_S A s.heap H locs → lv_has ls 3 [(0, .ref a_o), (1, .int x1), (2, .int x2)] → W p l e (rmd 1 0 0) s m args below meth c H locs 0 0 (MQ below (va_Qi (fun r (u : (Nat → Int32) × (Nat → Int32) × (Nat → Int32)) => post r u.1 u.2.1 u.2.2) (fun u t => va_P D vwCl (wX10_show cI cJ cS a_o a_held a_refused a_shown z_steps z_kind z_space z_other z_times z_speed z_base z_share z_notes z_pitch z_beats z_sort z_size z_cells z_carried z_words z_tell z_was z_kept z_cutSpace z_cutTimes z_cutOff z_trace v_stretches v_cars v_tunes v_along v_near v_borne v_tempo v_seed v_fault v_from v_at v_end v_told v_wrongAt v_culprit v_ran v_isKept u.1 u.2.1 u.2.2) t.heap) A) args s 0 0 A) (F0 m 42 ls [.int s0, .int s1, .ref a_held]) := by
  intro  H locs ls h hP hD hS hl
  unfold F_X10_show_42 at h
  have hx := S.1
  have hb := S.2.1
  obtain ⟨hi, h⟩ := h
  refine ias S hE hP hD hS 1 rfl hi dX10_show_42 (fun H locs hP hD hS => ?_)
  have hP : va_P D vwCl (wX10_show cI cJ cS a_o a_held a_refused a_shown z_steps z_kind z_space z_other z_times z_speed z_base z_share z_notes z_pitch z_beats z_sort z_size z_cells z_carried z_words z_tell z_was z_kept z_cutSpace z_cutTimes z_cutOff z_trace v_stretches v_cars v_tunes v_along v_near v_borne v_tempo v_seed v_fault v_from v_at v_end v_told v_wrongAt v_culprit v_ran v_isKept (upd f_held s1.toNatClampNeg s0) f_refused f_shown) H := hP
  have hD : va_D A (wX10_show cI cJ cS a_o a_held a_refused a_shown z_steps z_kind z_space z_other z_times z_speed z_base z_share z_notes z_pitch z_beats z_sort z_size z_cells z_carried z_words z_tell z_was z_kept z_cutSpace z_cutTimes z_cutOff z_trace v_stretches v_cars v_tunes v_along v_near v_borne v_tempo v_seed v_fault v_from v_at v_end v_told v_wrongAt v_culprit v_ran v_isKept (upd f_held s1.toNatClampNeg s0) f_refused f_shown) := hD
  refine lv_aload_n hx hb dX10_show_43 rfl (lv_at hl 0 rfl) ?_
  refine gf S hE hP 0 rfl rfl inX10 (k := 24) (by decide) q1117 rfl dX10_show_44 ?_
  refine lv_iload_n hx hb dX10_show_47 rfl (lv_at hl 1 rfl) ?_
  refine lv_iload_n hx hb dX10_show_48 rfl (lv_at hl 2 rfl) ?_
  obtain ⟨hi, h⟩ := h
  refine ias S hE hP hD hS 3 rfl hi dX10_show_49 (fun H locs hP hD hS => ?_)
  have hP : va_P D vwCl (wX10_show cI cJ cS a_o a_held a_refused a_shown z_steps z_kind z_space z_other z_times z_speed z_base z_share z_notes z_pitch z_beats z_sort z_size z_cells z_carried z_words z_tell z_was z_kept z_cutSpace z_cutTimes z_cutOff z_trace v_stretches v_cars v_tunes v_along v_near v_borne v_tempo v_seed v_fault v_from v_at v_end v_told v_wrongAt v_culprit v_ran v_isKept (upd f_held s1.toNatClampNeg s0) f_refused (upd f_shown x1.toNatClampNeg x2)) H := hP
  have hD : va_D A (wX10_show cI cJ cS a_o a_held a_refused a_shown z_steps z_kind z_space z_other z_times z_speed z_base z_share z_notes z_pitch z_beats z_sort z_size z_cells z_carried z_words z_tell z_was z_kept z_cutSpace z_cutTimes z_cutOff z_trace v_stretches v_cars v_tunes v_along v_near v_borne v_tempo v_seed v_fault v_from v_at v_end v_told v_wrongAt v_culprit v_ran v_isKept (upd f_held s1.toNatClampNeg s0) f_refused (upd f_shown x1.toNatClampNeg x2)) := hD
  refine lv_iload_n hx hb dX10_show_50 rfl (lv_at hl 2 rfl) ?_
  refine lv_iconst (v := (-1)) hx hb dX10_show_51 (by decide) ?_
  refine lv_icmp_ne (tgt := 59) hx hb dX10_show_52 (by decide) (fun hc => ?_) (fun hc => ?_)
  · have h := h.2 hc
    refine lv_iconst (v := 1) hx hb dX10_show_59 (by decide) ?_
    exact W.iret hx hb hr (fun t ht _ => ⟨⟨_, ((upd f_held s1.toNatClampNeg s0), f_refused, (upd f_shown x1.toNatClampNeg x2)), rfl, h, hPt hP ht⟩, hS.F ht⟩) hS.2.2 dX10_show_60
  have h := h.1 hc
  refine lv_iconst (v := 0) hx hb dX10_show_55 (by decide) ?_
  refine lv_goto (tgt := 60) hx hb dX10_show_56 (by decide) ?_
  exact W.iret hx hb hr (fun t ht _ => ⟨⟨_, ((upd f_held s1.toNatClampNeg s0), f_refused, (upd f_shown x1.toNatClampNeg x2)), rfl, h, hPt hP ht⟩, hS.F ht⟩) hS.2.2 dX10_show_60
set_option maxHeartbeats 4000000 in
set_option maxRecDepth 100000 in
theorem w_X10_show_27 {l : Launch} {D : va_G} {cI cJ cS : ClassId} {ad adK : Nat → Nat} {a_o a_held a_refused a_shown : Nat} {z_steps z_kind z_space z_other z_times z_speed z_base z_share z_notes z_pitch z_beats z_sort z_size z_cells z_carried z_words z_tell z_was z_kept z_cutSpace z_cutTimes z_cutOff z_trace : Value} {v_stretches : Int32} {v_cars : Int32} {v_tunes : Int32} {v_along : Int32} {v_near : Int32} {v_borne : Int32} {v_tempo : Int32} {v_seed : Int32} {v_fault : Int32} {v_from : Int32} {v_at : Int32} {v_end : Int32} {v_told : Int32} {v_wrongAt : Int32} {v_culprit : Int32} {v_ran : Int32} {v_isKept : Int32} {f_held : Nat → Int32} {f_refused : Nat → Int32} {f_shown : Nat → Int32} {x1 : Int32} {x2 : Int32} {post : Int32 → (Nat → Int32) → (Nat → Int32) → (Nat → Int32) → Prop} {p : Program} {e : Env} {s : State} {m : MethodId} {args : Array Value} {below : List Frame} {meth : Method} {c : Code} {A : Nat → Prop} (S : CallFix p m c cX10_show 3 s args GW "RoadThatSingsModel") (hE : EN D cI cJ cS s) (hT : ST ad adK A s s.heap) (hA : ∀ q : Nat, s.heap.size ≤ q → A q) (hr : meth.sig.returnType = (some (.int))) (hlocks : meth.locks = false) : ∀ (H : Heap) (locs : List Loc) (ls : Array Slot), F_X10_show_27 post x1 x2 f_held f_refused f_shown → va_P D vwCl (wX10_show cI cJ cS a_o a_held a_refused a_shown z_steps z_kind z_space z_other z_times z_speed z_base z_share z_notes z_pitch z_beats z_sort z_size z_cells z_carried z_words z_tell z_was z_kept z_cutSpace z_cutTimes z_cutOff z_trace v_stretches v_cars v_tunes v_along v_near v_borne v_tempo v_seed v_fault v_from v_at v_end v_told v_wrongAt v_culprit v_ran v_isKept f_held f_refused f_shown) H → va_D A (wX10_show cI cJ cS a_o a_held a_refused a_shown z_steps z_kind z_space z_other z_times z_speed z_base z_share z_notes z_pitch z_beats z_sort z_size z_cells z_carried z_words z_tell z_was z_kept z_cutSpace z_cutTimes z_cutOff z_trace v_stretches v_cars v_tunes v_along v_near v_borne v_tempo v_seed v_fault v_from v_at v_end v_told v_wrongAt v_culprit v_ran v_isKept f_held f_refused f_shown) → va_S A s.heap H locs → lv_has ls 3 [(0, .ref a_o), (1, .int x1), (2, .int x2)] → W p l e (rmd 1 0 0) s m args below meth c H locs 0 0 (MQ below (va_Qi (fun r (u : (Nat → Int32) × (Nat → Int32) × (Nat → Int32)) => post r u.1 u.2.1 u.2.2) (fun u t => va_P D vwCl (wX10_show cI cJ cS a_o a_held a_refused a_shown z_steps z_kind z_space z_other z_times z_speed z_base z_share z_notes z_pitch z_beats z_sort z_size z_cells z_carried z_words z_tell z_was z_kept z_cutSpace z_cutTimes z_cutOff z_trace v_stretches v_cars v_tunes v_along v_near v_borne v_tempo v_seed v_fault v_from v_at v_end v_told v_wrongAt v_culprit v_ran v_isKept u.1 u.2.1 u.2.2) t.heap) A) args s 0 0 A) (F0 m 27 ls []) := by
  intro  H locs ls h hP hD hS hl
  unfold F_X10_show_27 at h
  have hx := S.1
  have hb := S.2.1
  refine lv_aload_n hx hb dX10_show_27 rfl (lv_at hl 0 rfl) ?_
  refine gf S hE hP 0 rfl rfl inX10 (k := 21) (by decide) q1114 rfl dX10_show_28 ?_
  refine lv_iload_n hx hb dX10_show_31 rfl (lv_at hl 1 rfl) ?_
  refine lv_iload_n hx hb dX10_show_32 rfl (lv_at hl 2 rfl) ?_
  refine lv_iconst (v := (-1)) hx hb dX10_show_33 (by decide) ?_
  refine lv_icmp_ne (tgt := 41) hx hb dX10_show_34 (by decide) (fun hc => ?_) (fun hc => ?_)
  · have h := h.2 hc
    refine lv_iconst (v := 2) hx hb dX10_show_41 (by decide) ?_
    refine w_X10_show_42 S hE hT hA hr hlocks _ _ _ h hP hD hS (lv_sub hl [0, 1, 2] rfl)
  have h := h.1 hc
  refine lv_iconst (v := 0) hx hb dX10_show_37 (by decide) ?_
  refine lv_goto (tgt := 42) hx hb dX10_show_38 (by decide) ?_
  refine w_X10_show_42 S hE hT hA hr hlocks _ _ _ h hP hD hS (lv_sub hl [0, 1, 2] rfl)
set_option maxHeartbeats 4000000 in
set_option maxRecDepth 100000 in
theorem c_X10_show {l : Launch} {D : va_G} {cI cJ cS : ClassId} {ad adK : Nat → Nat} {a_o a_held a_refused a_shown : Nat} {z_steps z_kind z_space z_other z_times z_speed z_base z_share z_notes z_pitch z_beats z_sort z_size z_cells z_carried z_words z_tell z_was z_kept z_cutSpace z_cutTimes z_cutOff z_trace : Value} {v_stretches : Int32} {v_cars : Int32} {v_tunes : Int32} {v_along : Int32} {v_near : Int32} {v_borne : Int32} {v_tempo : Int32} {v_seed : Int32} {v_fault : Int32} {v_from : Int32} {v_at : Int32} {v_end : Int32} {v_told : Int32} {v_wrongAt : Int32} {v_culprit : Int32} {v_ran : Int32} {v_isKept : Int32} {f_held : Nat → Int32} {f_refused : Nat → Int32} {f_shown : Nat → Int32} {x1 : Int32} {x2 : Int32} {post : Int32 → (Nat → Int32) → (Nat → Int32) → (Nat → Int32) → Prop} (h : F_X10_show v_stretches f_held f_refused f_shown x1 x2 post) {sz : Nat} : Met l yX10_show (Cond.code yX10_show cX10_show 3 (some (.int)) :: GW) (rmd 1 0 0) (PW D cI cJ cS ad adK [.ref a_o, .int x1, .int x2] (wX10_show cI cJ cS a_o a_held a_refused a_shown z_steps z_kind z_space z_other z_times z_speed z_base z_share z_notes z_pitch z_beats z_sort z_size z_cells z_carried z_words z_tell z_was z_kept z_cutSpace z_cutTimes z_cutOff z_trace v_stretches v_cars v_tunes v_along v_near v_borne v_tempo v_seed v_fault v_from v_at v_end v_told v_wrongAt v_culprit v_ran v_isKept f_held f_refused f_shown) sz) (va_Qi (fun r (u : (Nat → Int32) × (Nat → Int32) × (Nat → Int32)) => post r u.1 u.2.1 u.2.2) (fun u t => va_P D vwCl (wX10_show cI cJ cS a_o a_held a_refused a_shown z_steps z_kind z_space z_other z_times z_speed z_base z_share z_notes z_pitch z_beats z_sort z_size z_cells z_carried z_words z_tell z_was z_kept z_cutSpace z_cutTimes z_cutOff z_trace v_stretches v_cars v_tunes v_along v_near v_borne v_tempo v_seed v_fault v_from v_at v_end v_told v_wrongAt v_culprit v_ran v_isKept u.1 u.2.1 u.2.2) t.heap) (va_A (wX10_show cI cJ cS a_o a_held a_refused a_shown z_steps z_kind z_space z_other z_times z_speed z_base z_share z_notes z_pitch z_beats z_sort z_size z_cells z_carried z_words z_tell z_was z_kept z_cutSpace z_cutTimes z_cutOff z_trace v_stretches v_cars v_tunes v_along v_near v_borne v_tempo v_seed v_fault v_from v_at v_end v_told v_wrongAt v_culprit v_ran v_isKept f_held f_refused f_shown) sz)) 0 0 (va_A (wX10_show cI cJ cS a_o a_held a_refused a_shown z_steps z_kind z_space z_other z_times z_speed z_base z_share z_notes z_pitch z_beats z_sort z_size z_cells z_carried z_words z_tell z_was z_kept z_cutSpace z_cutTimes z_cutOff z_trace v_stretches v_cars v_tunes v_along v_near v_borne v_tempo v_seed v_fault v_from v_at v_end v_told v_wrongAt v_culprit v_ran v_isKept f_held f_refused f_shown) sz) := by
  refine Met.rw (Qc := fun A => (va_Qi (fun r (u : (Nat → Int32) × (Nat → Int32) × (Nat → Int32)) => post r u.1 u.2.1 u.2.2) (fun u t => va_P D vwCl (wX10_show cI cJ cS a_o a_held a_refused a_shown z_steps z_kind z_space z_other z_times z_speed z_base z_share z_notes z_pitch z_beats z_sort z_size z_cells z_carried z_words z_tell z_was z_kept z_cutSpace z_cutTimes z_cutOff z_trace v_stretches v_cars v_tunes v_along v_near v_borne v_tempo v_seed v_fault v_from v_at v_end v_told v_wrongAt v_culprit v_ran v_isKept u.1 u.2.1 u.2.2) t.heap) A)) (by decide) (Nat.le_of_ble_eq_true rfl) (fun p e s m args below meth c ls A (S : CallFix p m c cX10_show 3 s args GW "RoadThatSingsModel") hE hT hP hD hA hS hr hlocks hname hl => ?_)
  have hS0 := hS
  have hx := S.1
  have hb := S.2.1
  have hl : lv_has ls 3 [(0, .ref a_o), (1, .int x1), (2, .int x2)] := hl
  unfold F_X10_show at h
  refine lv_aload_n hx hb dX10_show_0 rfl (lv_at hl 0 rfl) ?_
  refine lv_iload_n hx hb dX10_show_1 rfl (lv_at hl 1 rfl) ?_
  refine ro_i (roV S hE hT hS (c_X10_isShelf h) lkX10_117 rfl ⟨(Nat.le_of_ble_eq_true rfl), (Nat.le_of_ble_eq_true rfl)⟩ (hP.sub [0] rfl) 0 rfl rfl hl.1 rfl (Nat.le_of_ble_eq_true rfl) dX10_show_2 ⟨(Nat.zero_le _), (Nat.zero_le _)⟩) (fun r2 h => ?_)
  refine lv_if_eq (tgt := 21) hx hb dX10_show_5 (by decide) (fun hc => ?_) (fun hc => ?_)
  · have h := h.1 hc
    refine lv_aload_n hx hb dX10_show_21 rfl (lv_at hl 0 rfl) ?_
    refine lv_iconst (v := (-1)) hx hb dX10_show_22 (by decide) ?_
    refine rw_i (rwV S hE hT hS hP hD hA (c_X10_no h) [0, 2] rfl (by decide +kernel) lkX10_121 rfl ⟨(Nat.le_of_ble_eq_true rfl), (Nat.le_of_ble_eq_true rfl)⟩ 0 rfl rfl hl.1 rfl (Nat.le_of_ble_eq_true rfl) dX10_show_23 ⟨(Nat.zero_le _), (Nat.zero_le _)⟩) hP hD hS hA [0, 2] rfl (by decide +kernel) (fun _ => rfl) (fun r23 w23_0 H locs h hP hD hS => ?_)
    try dsimp only at h
    have hP : va_P D vwCl (wX10_show cI cJ cS a_o a_held a_refused a_shown z_steps z_kind z_space z_other z_times z_speed z_base z_share z_notes z_pitch z_beats z_sort z_size z_cells z_carried z_words z_tell z_was z_kept z_cutSpace z_cutTimes z_cutOff z_trace v_stretches v_cars v_tunes v_along v_near v_borne v_tempo v_seed v_fault v_from v_at v_end v_told v_wrongAt v_culprit v_ran v_isKept f_held w23_0 f_shown) H := hP
    have hD : va_D A (wX10_show cI cJ cS a_o a_held a_refused a_shown z_steps z_kind z_space z_other z_times z_speed z_base z_share z_notes z_pitch z_beats z_sort z_size z_cells z_carried z_words z_tell z_was z_kept z_cutSpace z_cutTimes z_cutOff z_trace v_stretches v_cars v_tunes v_along v_near v_borne v_tempo v_seed v_fault v_from v_at v_end v_told v_wrongAt v_culprit v_ran v_isKept f_held w23_0 f_shown) := hD
    exact W.iret hx hb hr (fun t ht _ => ⟨⟨_, (f_held, w23_0, f_shown), rfl, h, hPt hP ht⟩, hS.F ht⟩) hS.2.2 dX10_show_26
  have h := h.2 hc
  refine lv_iload_n hx hb dX10_show_8 rfl (lv_at hl 2 rfl) ?_
  refine lv_iconst (v := (-1)) hx hb dX10_show_9 (by decide) ?_
  refine lv_icmp_eq (tgt := 27) hx hb dX10_show_10 (by decide) (fun hc => ?_) (fun hc => ?_)
  · have h := h.1 hc
    refine w_X10_show_27 S hE hT hA hr hlocks _ _ _ h hP hD hS (lv_sub hl [0, 1, 2] rfl)
  have h := h.2 hc
  refine lv_aload_n hx hb dX10_show_13 rfl (lv_at hl 0 rfl) ?_
  refine lv_iload_n hx hb dX10_show_14 rfl (lv_at hl 2 rfl) ?_
  refine ro_i (roV S hE hT hS (c_X10_isStretch h) lkX10_125 rfl ⟨(Nat.le_of_ble_eq_true rfl), (Nat.le_of_ble_eq_true rfl)⟩ (hP.sub [0] rfl) 0 rfl rfl hl.1 rfl (Nat.le_of_ble_eq_true rfl) dX10_show_15 ⟨(Nat.zero_le _), (Nat.zero_le _)⟩) (fun r15 h => ?_)
  refine lv_if_ne (tgt := 27) hx hb dX10_show_18 (by decide) (fun hc => ?_) (fun hc => ?_)
  · have h := h.2 hc
    refine w_X10_show_27 S hE hT hA hr hlocks _ _ _ h hP hD hS (lv_sub hl [0, 1, 2] rfl)
  have h := h.1 hc
  refine lv_aload_n hx hb dX10_show_21 rfl (lv_at hl 0 rfl) ?_
  refine lv_iconst (v := (-1)) hx hb dX10_show_22 (by decide) ?_
  refine rw_i (rwV S hE hT hS hP hD hA (c_X10_no h) [0, 2] rfl (by decide +kernel) lkX10_121 rfl ⟨(Nat.le_of_ble_eq_true rfl), (Nat.le_of_ble_eq_true rfl)⟩ 0 rfl rfl hl.1 rfl (Nat.le_of_ble_eq_true rfl) dX10_show_23 ⟨(Nat.zero_le _), (Nat.zero_le _)⟩) hP hD hS hA [0, 2] rfl (by decide +kernel) (fun _ => rfl) (fun r23 w23_0 H locs h hP hD hS => ?_)
  try dsimp only at h
  have hP : va_P D vwCl (wX10_show cI cJ cS a_o a_held a_refused a_shown z_steps z_kind z_space z_other z_times z_speed z_base z_share z_notes z_pitch z_beats z_sort z_size z_cells z_carried z_words z_tell z_was z_kept z_cutSpace z_cutTimes z_cutOff z_trace v_stretches v_cars v_tunes v_along v_near v_borne v_tempo v_seed v_fault v_from v_at v_end v_told v_wrongAt v_culprit v_ran v_isKept f_held w23_0 f_shown) H := hP
  have hD : va_D A (wX10_show cI cJ cS a_o a_held a_refused a_shown z_steps z_kind z_space z_other z_times z_speed z_base z_share z_notes z_pitch z_beats z_sort z_size z_cells z_carried z_words z_tell z_was z_kept z_cutSpace z_cutTimes z_cutOff z_trace v_stretches v_cars v_tunes v_along v_near v_borne v_tempo v_seed v_fault v_from v_at v_end v_told v_wrongAt v_culprit v_ran v_isKept f_held w23_0 f_shown) := hD
  exact W.iret hx hb hr (fun t ht _ => ⟨⟨_, (f_held, w23_0, f_shown), rfl, h, hPt hP ht⟩, hS.F ht⟩) hS.2.2 dX10_show_26
