/-! X10_shows -/
abbrev wX10_shows (cI cJ cS : ClassId) (a_o a_held a_shown : Nat) (z_refused z_steps z_kind z_space z_other z_times z_speed z_base z_share z_notes z_pitch z_beats z_sort z_size z_cells z_carried z_words z_tell z_was z_kept z_cutSpace z_cutTimes z_cutOff z_trace : Value) (v_stretches : Int32) (v_cars : Int32) (v_tunes : Int32) (v_along : Int32) (v_near : Int32) (v_borne : Int32) (v_tempo : Int32) (v_seed : Int32) (v_fault : Int32) (v_from : Int32) (v_at : Int32) (v_end : Int32) (v_told : Int32) (v_wrongAt : Int32) (v_culprit : Int32) (v_ran : Int32) (v_isKept : Int32) (f_held : Nat → Int32) (f_shown : Nat → Int32) : va_W := [(a_o, .inr (9, [.int v_stretches, .int v_cars, .int v_tunes, .int v_along, .int v_near, .int v_borne, .int v_tempo, .int v_seed, .int v_fault, z_refused, z_steps, z_kind, z_space, z_other, z_times, z_speed, z_base, z_share, z_notes, z_pitch, z_beats, .ref a_held, z_sort, z_size, .ref a_shown, z_cells, z_carried, z_words, z_tell, .int v_from, .int v_at, .int v_end, .int v_told, .int v_wrongAt, z_was, z_kept, .int v_culprit, z_cutSpace, z_cutTimes, z_cutOff, z_trace, .int v_ran, .int v_isKept])), (a_held, .inl (cI, 8, .inl f_held)), (a_shown, .inl (cI, 8, .inl f_shown))]
def F_X10_shows_38 (k2 : Int32 → (Nat → Int32) → Prop) (x1 : Int32) (f_held : Nat → Int32) : Prop := (∀ x1_38 : Int32, x1_38 = x1 + 1 → k2 x1_38 f_held)
def L_X10_shows_2 (v_stretches : Int32) (f_shown : Nat → Int32) (post : (Nat → Int32) → Prop) : Nat → Int32 → (Nat → Int32) → Prop
  | 0, _, _ => False
  | n2 + 1, x1, f_held => ((8 ≤ x1 → post f_held) ∧ (¬ 8 ≤ x1 → (vp_in x1 8 ∧ (((f_held x1.toNatClampNeg) = 2 → (vp_in x1 8 ∧ (((f_shown x1.toNatClampNeg) < v_stretches → F_X10_shows_38 (fun x1 f_held => L_X10_shows_2 v_stretches f_shown post n2 x1 f_held) x1 f_held) ∧ (¬ (f_shown x1.toNatClampNeg) < v_stretches → (vp_in x1 8 ∧ F_X10_shows_38 (fun x1 f_held => L_X10_shows_2 v_stretches f_shown post n2 x1 f_held) x1 (upd f_held x1.toNatClampNeg 0)))))) ∧ (¬ (f_held x1.toNatClampNeg) = 2 → F_X10_shows_38 (fun x1 f_held => L_X10_shows_2 v_stretches f_shown post n2 x1 f_held) x1 f_held)))))
def F_X10_shows (v_stretches : Int32) (f_held : Nat → Int32) (f_shown : Nat → Int32) (post : (Nat → Int32) → Prop) : Prop := (∃ n2 : Nat, L_X10_shows_2 v_stretches f_shown post n2 0 f_held)
set_option maxHeartbeats 4000000 in
set_option maxRecDepth 100000 in
theorem w_X10_shows_38 {l : Launch} {D : va_G} {cI cJ cS : ClassId} {ad adK : Nat → Nat} {a_o a_held a_shown : Nat} {z_refused z_steps z_kind z_space z_other z_times z_speed z_base z_share z_notes z_pitch z_beats z_sort z_size z_cells z_carried z_words z_tell z_was z_kept z_cutSpace z_cutTimes z_cutOff z_trace : Value} {v_stretches : Int32} {v_cars : Int32} {v_tunes : Int32} {v_along : Int32} {v_near : Int32} {v_borne : Int32} {v_tempo : Int32} {v_seed : Int32} {v_fault : Int32} {v_from : Int32} {v_at : Int32} {v_end : Int32} {v_told : Int32} {v_wrongAt : Int32} {v_culprit : Int32} {v_ran : Int32} {v_isKept : Int32} {f_held : Nat → Int32} {f_shown : Nat → Int32} {x1 : Int32} {post : (Nat → Int32) → Prop} {k2 : Int32 → (Nat → Int32) → Prop} {p : Program} {e : Env} {s : State} {m : MethodId} {args : Array Value} {below : List Frame} {meth : Method} {c : Code} {A : Nat → Prop} (S : CallFix p m c cX10_shows 2 s args GW "RoadThatSingsModel") (hE : EN D cI cJ cS s) (hT : ST ad adK A s s.heap) (hA : ∀ q : Nat, s.heap.size ≤ q → A q) (hr : meth.sig.returnType = none) (hlocks : meth.locks = false) (hk2 : ∀ (x1 : Int32) (f_held : Nat → Int32) (H : Heap) (locs : List Loc) (ls : Array Slot), k2 x1 f_held → va_P D vwCl (wX10_shows cI cJ cS a_o a_held a_shown z_refused z_steps z_kind z_space z_other z_times z_speed z_base z_share z_notes z_pitch z_beats z_sort z_size z_cells z_carried z_words z_tell z_was z_kept z_cutSpace z_cutTimes z_cutOff z_trace v_stretches v_cars v_tunes v_along v_near v_borne v_tempo v_seed v_fault v_from v_at v_end v_told v_wrongAt v_culprit v_ran v_isKept f_held f_shown) H → va_D A (wX10_shows cI cJ cS a_o a_held a_shown z_refused z_steps z_kind z_space z_other z_times z_speed z_base z_share z_notes z_pitch z_beats z_sort z_size z_cells z_carried z_words z_tell z_was z_kept z_cutSpace z_cutTimes z_cutOff z_trace v_stretches v_cars v_tunes v_along v_near v_borne v_tempo v_seed v_fault v_from v_at v_end v_told v_wrongAt v_culprit v_ran v_isKept f_held f_shown) → va_S A s.heap H locs → lv_has ls 2 [(0, .ref a_o), (1, .int x1)] → W p l e (rmd 0 0 0) s m args below meth c H locs 0 0 (MQ below (va_Qv (fun u : (Nat → Int32) => post u) (fun u t => va_P D vwCl (wX10_shows cI cJ cS a_o a_held a_shown z_refused z_steps z_kind z_space z_other z_times z_speed z_base z_share z_notes z_pitch z_beats z_sort z_size z_cells z_carried z_words z_tell z_was z_kept z_cutSpace z_cutTimes z_cutOff z_trace v_stretches v_cars v_tunes v_along v_near v_borne v_tempo v_seed v_fault v_from v_at v_end v_told v_wrongAt v_culprit v_ran v_isKept u f_shown) t.heap) A) args s 0 0 A) (F0 m 2 ls [])) : ∀ (H : Heap) (locs : List Loc) (ls : Array Slot), F_X10_shows_38 k2 x1 f_held → va_P D vwCl (wX10_shows cI cJ cS a_o a_held a_shown z_refused z_steps z_kind z_space z_other z_times z_speed z_base z_share z_notes z_pitch z_beats z_sort z_size z_cells z_carried z_words z_tell z_was z_kept z_cutSpace z_cutTimes z_cutOff z_trace v_stretches v_cars v_tunes v_along v_near v_borne v_tempo v_seed v_fault v_from v_at v_end v_told v_wrongAt v_culprit v_ran v_isKept f_held f_shown) H → va_D A (wX10_shows cI cJ cS a_o a_held a_shown z_refused z_steps z_kind z_space z_other z_times z_speed z_base z_share z_notes z_pitch z_beats z_sort z_size z_cells z_carried z_words z_tell z_was z_kept z_cutSpace z_cutTimes z_cutOff z_trace v_stretches v_cars v_tunes v_along v_near v_borne v_tempo v_seed v_fault v_from v_at v_end v_told v_wrongAt v_culprit v_ran v_isKept f_held f_shown) → va_S A s.heap H locs → lv_has ls 2 [(0, .ref a_o), (1, .int x1)] → W p l e (rmd 0 0 0) s m args below meth c H locs 0 0 (MQ below (va_Qv (fun u : (Nat → Int32) => post u) (fun u t => va_P D vwCl (wX10_shows cI cJ cS a_o a_held a_shown z_refused z_steps z_kind z_space z_other z_times z_speed z_base z_share z_notes z_pitch z_beats z_sort z_size z_cells z_carried z_words z_tell z_was z_kept z_cutSpace z_cutTimes z_cutOff z_trace v_stretches v_cars v_tunes v_along v_near v_borne v_tempo v_seed v_fault v_from v_at v_end v_told v_wrongAt v_culprit v_ran v_isKept u f_shown) t.heap) A) args s 0 0 A) (F0 m 38 ls []) := by
  intro  H locs ls h hP hD hS hl
  unfold F_X10_shows_38 at h
  have hx := S.1
  have hb := S.2.1
  obtain ⟨x1_38, ex1_38⟩ : ∃ z : Int32, z = x1 + 1 := ⟨_, rfl⟩
  have h := h _ ex1_38
  refine lv_iinc (v := x1_38) (lv' := [(1, .int x1_38), (0, .ref a_o)]) hx hb dX10_shows_38 hl (k := 1) rfl (by rw [ex1_38]; rfl) (by decide) rfl (fun ls hl => ?_)
  refine lv_goto (tgt := 2) hx hb dX10_shows_41 (by decide) ?_
  exact hk2 _ _ _ _ _ h hP hD hS (lv_sub hl [1, 0] rfl)
set_option maxHeartbeats 4000000 in
set_option maxRecDepth 100000 in
theorem w_X10_shows_2 {l : Launch} {D : va_G} {cI cJ cS : ClassId} {ad adK : Nat → Nat} {a_o a_held a_shown : Nat} {z_refused z_steps z_kind z_space z_other z_times z_speed z_base z_share z_notes z_pitch z_beats z_sort z_size z_cells z_carried z_words z_tell z_was z_kept z_cutSpace z_cutTimes z_cutOff z_trace : Value} {v_stretches : Int32} {v_cars : Int32} {v_tunes : Int32} {v_along : Int32} {v_near : Int32} {v_borne : Int32} {v_tempo : Int32} {v_seed : Int32} {v_fault : Int32} {v_from : Int32} {v_at : Int32} {v_end : Int32} {v_told : Int32} {v_wrongAt : Int32} {v_culprit : Int32} {v_ran : Int32} {v_isKept : Int32} {f_shown : Nat → Int32} {post : (Nat → Int32) → Prop} {p : Program} {e : Env} {s : State} {m : MethodId} {args : Array Value} {below : List Frame} {meth : Method} {c : Code} {A : Nat → Prop} (S : CallFix p m c cX10_shows 2 s args GW "RoadThatSingsModel") (hE : EN D cI cJ cS s) (hT : ST ad adK A s s.heap) (hA : ∀ q : Nat, s.heap.size ≤ q → A q) (hr : meth.sig.returnType = none) (hlocks : meth.locks = false) : ∀ n : Nat, ∀ (x1 : Int32) (f_held : Nat → Int32) (H : Heap) (locs : List Loc) (ls : Array Slot), L_X10_shows_2 v_stretches f_shown post n x1 f_held → va_P D vwCl (wX10_shows cI cJ cS a_o a_held a_shown z_refused z_steps z_kind z_space z_other z_times z_speed z_base z_share z_notes z_pitch z_beats z_sort z_size z_cells z_carried z_words z_tell z_was z_kept z_cutSpace z_cutTimes z_cutOff z_trace v_stretches v_cars v_tunes v_along v_near v_borne v_tempo v_seed v_fault v_from v_at v_end v_told v_wrongAt v_culprit v_ran v_isKept f_held f_shown) H → va_D A (wX10_shows cI cJ cS a_o a_held a_shown z_refused z_steps z_kind z_space z_other z_times z_speed z_base z_share z_notes z_pitch z_beats z_sort z_size z_cells z_carried z_words z_tell z_was z_kept z_cutSpace z_cutTimes z_cutOff z_trace v_stretches v_cars v_tunes v_along v_near v_borne v_tempo v_seed v_fault v_from v_at v_end v_told v_wrongAt v_culprit v_ran v_isKept f_held f_shown) → va_S A s.heap H locs → lv_has ls 2 [(0, .ref a_o), (1, .int x1)] → W p l e (rmd 0 0 0) s m args below meth c H locs 0 0 (MQ below (va_Qv (fun u : (Nat → Int32) => post u) (fun u t => va_P D vwCl (wX10_shows cI cJ cS a_o a_held a_shown z_refused z_steps z_kind z_space z_other z_times z_speed z_base z_share z_notes z_pitch z_beats z_sort z_size z_cells z_carried z_words z_tell z_was z_kept z_cutSpace z_cutTimes z_cutOff z_trace v_stretches v_cars v_tunes v_along v_near v_borne v_tempo v_seed v_fault v_from v_at v_end v_told v_wrongAt v_culprit v_ran v_isKept u f_shown) t.heap) A) args s 0 0 A) (F0 m 2 ls []) := by
  intro n
  induction n with
  | zero =>
    intro x1 f_held H locs ls h hP hD hS hl
    exact h.elim
  | succ n ih =>
    intro x1 f_held H locs ls h hP hD hS hl
    rw [L_X10_shows_2] at h
    have hx := S.1
    have hb := S.2.1
    refine lv_iload_n hx hb dX10_shows_2 rfl (lv_at hl 1 rfl) ?_
    refine lv_bipush (v := 8) hx hb dX10_shows_3 (by decide) ?_
    refine lv_icmp_ge (tgt := 44) hx hb dX10_shows_5 (by decide) (fun hc => ?_) (fun hc => ?_)
    · have h := h.1 hc
      exact W.vret hx hb hr (fun t ht _ => ⟨⟨f_held, rfl, h, hPt hP ht⟩, hS.F ht⟩) hS.2.2 dX10_shows_44
    have h := h.2 hc
    refine lv_aload_n hx hb dX10_shows_8 rfl (lv_at hl 0 rfl) ?_
    refine gf S hE hP 0 rfl rfl inX10 (k := 21) (by decide) q1114 rfl dX10_shows_9 ?_
    refine lv_iload_n hx hb dX10_shows_12 rfl (lv_at hl 1 rfl) ?_
    obtain ⟨hi, h⟩ := h
    refine ial S hE hP 1 rfl hi dX10_shows_13 ?_
    refine lv_iconst (v := 2) hx hb dX10_shows_14 (by decide) ?_
    refine lv_icmp_ne (tgt := 38) hx hb dX10_shows_15 (by decide) (fun hc => ?_) (fun hc => ?_)
    · have h := h.2 hc
      refine w_X10_shows_38 S hE hT hA hr hlocks ih _ _ _ h hP hD hS (lv_sub hl [0, 1] rfl)
    have h := h.1 hc
    refine lv_aload_n hx hb dX10_shows_18 rfl (lv_at hl 0 rfl) ?_
    refine gf S hE hP 0 rfl rfl inX10 (k := 24) (by decide) q1117 rfl dX10_shows_19 ?_
    refine lv_iload_n hx hb dX10_shows_22 rfl (lv_at hl 1 rfl) ?_
    obtain ⟨hi, h⟩ := h
    refine ial S hE hP 2 rfl hi dX10_shows_23 ?_
    refine lv_aload_n hx hb dX10_shows_24 rfl (lv_at hl 0 rfl) ?_
    refine gf S hE hP 0 rfl rfl inX10 (k := 0) (by decide) q1093 rfl dX10_shows_25 ?_
    refine lv_icmp_lt (tgt := 38) hx hb dX10_shows_28 (by decide) (fun hc => ?_) (fun hc => ?_)
    · have h := h.1 hc
      refine w_X10_shows_38 S hE hT hA hr hlocks ih _ _ _ h hP hD hS (lv_sub hl [0, 1] rfl)
    have h := h.2 hc
    refine lv_aload_n hx hb dX10_shows_31 rfl (lv_at hl 0 rfl) ?_
    refine gf S hE hP 0 rfl rfl inX10 (k := 21) (by decide) q1114 rfl dX10_shows_32 ?_
    refine lv_iload_n hx hb dX10_shows_35 rfl (lv_at hl 1 rfl) ?_
    refine lv_iconst (v := 0) hx hb dX10_shows_36 (by decide) ?_
    obtain ⟨hi, h⟩ := h
    refine ias S hE hP hD hS 1 rfl hi dX10_shows_37 (fun H locs hP hD hS => ?_)
    have hP : va_P D vwCl (wX10_shows cI cJ cS a_o a_held a_shown z_refused z_steps z_kind z_space z_other z_times z_speed z_base z_share z_notes z_pitch z_beats z_sort z_size z_cells z_carried z_words z_tell z_was z_kept z_cutSpace z_cutTimes z_cutOff z_trace v_stretches v_cars v_tunes v_along v_near v_borne v_tempo v_seed v_fault v_from v_at v_end v_told v_wrongAt v_culprit v_ran v_isKept (upd f_held x1.toNatClampNeg 0) f_shown) H := hP
    have hD : va_D A (wX10_shows cI cJ cS a_o a_held a_shown z_refused z_steps z_kind z_space z_other z_times z_speed z_base z_share z_notes z_pitch z_beats z_sort z_size z_cells z_carried z_words z_tell z_was z_kept z_cutSpace z_cutTimes z_cutOff z_trace v_stretches v_cars v_tunes v_along v_near v_borne v_tempo v_seed v_fault v_from v_at v_end v_told v_wrongAt v_culprit v_ran v_isKept (upd f_held x1.toNatClampNeg 0) f_shown) := hD
    refine w_X10_shows_38 S hE hT hA hr hlocks ih _ _ _ h hP hD hS (lv_sub hl [0, 1] rfl)
set_option maxHeartbeats 4000000 in
set_option maxRecDepth 100000 in
theorem c_X10_shows {l : Launch} {D : va_G} {cI cJ cS : ClassId} {ad adK : Nat → Nat} {a_o a_held a_shown : Nat} {z_refused z_steps z_kind z_space z_other z_times z_speed z_base z_share z_notes z_pitch z_beats z_sort z_size z_cells z_carried z_words z_tell z_was z_kept z_cutSpace z_cutTimes z_cutOff z_trace : Value} {v_stretches : Int32} {v_cars : Int32} {v_tunes : Int32} {v_along : Int32} {v_near : Int32} {v_borne : Int32} {v_tempo : Int32} {v_seed : Int32} {v_fault : Int32} {v_from : Int32} {v_at : Int32} {v_end : Int32} {v_told : Int32} {v_wrongAt : Int32} {v_culprit : Int32} {v_ran : Int32} {v_isKept : Int32} {f_held : Nat → Int32} {f_shown : Nat → Int32} {post : (Nat → Int32) → Prop} (h : F_X10_shows v_stretches f_held f_shown post) {sz : Nat} : Met l yX10_shows (Cond.code yX10_shows cX10_shows 2 none :: GW) (rmd 0 0 0) (PW D cI cJ cS ad adK [.ref a_o] (wX10_shows cI cJ cS a_o a_held a_shown z_refused z_steps z_kind z_space z_other z_times z_speed z_base z_share z_notes z_pitch z_beats z_sort z_size z_cells z_carried z_words z_tell z_was z_kept z_cutSpace z_cutTimes z_cutOff z_trace v_stretches v_cars v_tunes v_along v_near v_borne v_tempo v_seed v_fault v_from v_at v_end v_told v_wrongAt v_culprit v_ran v_isKept f_held f_shown) sz) (va_Qv (fun u : (Nat → Int32) => post u) (fun u t => va_P D vwCl (wX10_shows cI cJ cS a_o a_held a_shown z_refused z_steps z_kind z_space z_other z_times z_speed z_base z_share z_notes z_pitch z_beats z_sort z_size z_cells z_carried z_words z_tell z_was z_kept z_cutSpace z_cutTimes z_cutOff z_trace v_stretches v_cars v_tunes v_along v_near v_borne v_tempo v_seed v_fault v_from v_at v_end v_told v_wrongAt v_culprit v_ran v_isKept u f_shown) t.heap) (va_A (wX10_shows cI cJ cS a_o a_held a_shown z_refused z_steps z_kind z_space z_other z_times z_speed z_base z_share z_notes z_pitch z_beats z_sort z_size z_cells z_carried z_words z_tell z_was z_kept z_cutSpace z_cutTimes z_cutOff z_trace v_stretches v_cars v_tunes v_along v_near v_borne v_tempo v_seed v_fault v_from v_at v_end v_told v_wrongAt v_culprit v_ran v_isKept f_held f_shown) sz)) 0 0 (va_A (wX10_shows cI cJ cS a_o a_held a_shown z_refused z_steps z_kind z_space z_other z_times z_speed z_base z_share z_notes z_pitch z_beats z_sort z_size z_cells z_carried z_words z_tell z_was z_kept z_cutSpace z_cutTimes z_cutOff z_trace v_stretches v_cars v_tunes v_along v_near v_borne v_tempo v_seed v_fault v_from v_at v_end v_told v_wrongAt v_culprit v_ran v_isKept f_held f_shown) sz) := by
  refine Met.rw (Qc := fun A => (va_Qv (fun u : (Nat → Int32) => post u) (fun u t => va_P D vwCl (wX10_shows cI cJ cS a_o a_held a_shown z_refused z_steps z_kind z_space z_other z_times z_speed z_base z_share z_notes z_pitch z_beats z_sort z_size z_cells z_carried z_words z_tell z_was z_kept z_cutSpace z_cutTimes z_cutOff z_trace v_stretches v_cars v_tunes v_along v_near v_borne v_tempo v_seed v_fault v_from v_at v_end v_told v_wrongAt v_culprit v_ran v_isKept u f_shown) t.heap) A)) (by decide) (Nat.le_of_ble_eq_true rfl) (fun p e s m args below meth c ls A (S : CallFix p m c cX10_shows 2 s args GW "RoadThatSingsModel") hE hT hP hD hA hS hr hlocks hname hl => ?_)
  have hS0 := hS
  have hx := S.1
  have hb := S.2.1
  have hl : lv_has ls 2 [(0, .ref a_o)] := hl
  unfold F_X10_shows at h
  refine lv_iconst (v := 0) hx hb dX10_shows_0 (by decide) ?_
  refine lv_istore_n (lv' := [(1, .int 0), (0, .ref a_o)]) hx hb dX10_shows_1 rfl hl (by decide) rfl (fun ls hl => ?_)
  obtain ⟨n, h⟩ := h
  refine w_X10_shows_2 S hE hT hA hr hlocks n _ _ _ _ _ h hP hD hS (lv_sub hl [1, 0] rfl)
/-! X10_holds -/
abbrev wX10_holds (cI cJ cS : ClassId) (a_o a_held a_shown a_sort : Nat) (z_refused z_steps z_kind z_space z_other z_times z_speed z_base z_share z_notes z_pitch z_beats z_size z_cells z_carried z_words z_tell z_was z_kept z_cutSpace z_cutTimes z_cutOff z_trace : Value) (v_stretches : Int32) (v_cars : Int32) (v_tunes : Int32) (v_along : Int32) (v_near : Int32) (v_borne : Int32) (v_tempo : Int32) (v_seed : Int32) (v_fault : Int32) (v_from : Int32) (v_at : Int32) (v_end : Int32) (v_told : Int32) (v_wrongAt : Int32) (v_culprit : Int32) (v_ran : Int32) (v_isKept : Int32) (f_held : Nat → Int32) (f_shown : Nat → Int32) (f_sort : Nat → Int32) : va_W := [(a_o, .inr (9, [.int v_stretches, .int v_cars, .int v_tunes, .int v_along, .int v_near, .int v_borne, .int v_tempo, .int v_seed, .int v_fault, z_refused, z_steps, z_kind, z_space, z_other, z_times, z_speed, z_base, z_share, z_notes, z_pitch, z_beats, .ref a_held, .ref a_sort, z_size, .ref a_shown, z_cells, z_carried, z_words, z_tell, .int v_from, .int v_at, .int v_end, .int v_told, .int v_wrongAt, z_was, z_kept, .int v_culprit, z_cutSpace, z_cutTimes, z_cutOff, z_trace, .int v_ran, .int v_isKept])), (a_held, .inl (cI, 8, .inl f_held)), (a_shown, .inl (cI, 8, .inl f_shown)), (a_sort, .inl (cI, 8, .inl f_sort))]
def F_X10_holds (f_held : Nat → Int32) (f_shown : Nat → Int32) (f_sort : Nat → Int32) (x1 : Int32) (post : Int32 → Prop) : Prop := (F_X10_isShelf x1 (fun r2 => ((r2 = 0 → post (-1)) ∧ (¬ r2 = 0 → (vp_in x1 8 ∧ (((f_held x1.toNatClampNeg) = 0 → post (-1)) ∧ (¬ (f_held x1.toNatClampNeg) = 0 → (vp_in x1 8 ∧ (((f_held x1.toNatClampNeg) = 1 → (vp_in x1 8 ∧ post (100 + (f_sort x1.toNatClampNeg)))) ∧ (¬ (f_held x1.toNatClampNeg) = 1 → (vp_in x1 8 ∧ post (f_shown x1.toNatClampNeg))))))))))))
set_option maxHeartbeats 4000000 in
set_option maxRecDepth 100000 in
theorem c_X10_holds {l : Launch} {D : va_G} {cI cJ cS : ClassId} {ad adK : Nat → Nat} {a_o a_held a_shown a_sort : Nat} {z_refused z_steps z_kind z_space z_other z_times z_speed z_base z_share z_notes z_pitch z_beats z_size z_cells z_carried z_words z_tell z_was z_kept z_cutSpace z_cutTimes z_cutOff z_trace : Value} {v_stretches : Int32} {v_cars : Int32} {v_tunes : Int32} {v_along : Int32} {v_near : Int32} {v_borne : Int32} {v_tempo : Int32} {v_seed : Int32} {v_fault : Int32} {v_from : Int32} {v_at : Int32} {v_end : Int32} {v_told : Int32} {v_wrongAt : Int32} {v_culprit : Int32} {v_ran : Int32} {v_isKept : Int32} {f_held : Nat → Int32} {f_shown : Nat → Int32} {f_sort : Nat → Int32} {x1 : Int32} {post : Int32 → Prop} (h : F_X10_holds f_held f_shown f_sort x1 post) : Met l yX10_holds (Cond.code yX10_holds cX10_holds 2 (some (.int)) :: GW) (rmd 1 0 0) (PR D cI cJ cS ad adK [.ref a_o, .int x1] (wX10_holds cI cJ cS a_o a_held a_shown a_sort z_refused z_steps z_kind z_space z_other z_times z_speed z_base z_share z_notes z_pitch z_beats z_size z_cells z_carried z_words z_tell z_was z_kept z_cutSpace z_cutTimes z_cutOff z_trace v_stretches v_cars v_tunes v_along v_near v_borne v_tempo v_seed v_fault v_from v_at v_end v_told v_wrongAt v_culprit v_ran v_isKept f_held f_shown f_sort)) (vp_Si post) 0 0 nof := by
  refine Met.ro (by decide) (Nat.le_of_ble_eq_true rfl) (fun p e s m args below meth c ls (S : CallFix p m c cX10_holds 2 s args GW "RoadThatSingsModel") hE hT hP hS hr hlocks hl => ?_)
  have hx := S.1
  have hb := S.2.1
  have hl : lv_has ls 2 [(0, .ref a_o), (1, .int x1)] := hl
  unfold F_X10_holds at h
  refine lv_aload_n hx hb dX10_holds_0 rfl (lv_at hl 0 rfl) ?_
  refine lv_iload_n hx hb dX10_holds_1 rfl (lv_at hl 1 rfl) ?_
  refine ro_i (roV S hE hT hS (c_X10_isShelf h) lkX10_117 rfl ⟨(Nat.le_of_ble_eq_true rfl), (Nat.le_of_ble_eq_true rfl)⟩ (hP.sub [0] rfl) 0 rfl rfl hl.1 rfl (Nat.le_of_ble_eq_true rfl) dX10_holds_2 ⟨(Nat.zero_le _), (Nat.zero_le _)⟩) (fun r2 h => ?_)
  refine lv_if_eq (tgt := 17) hx hb dX10_holds_5 (by decide) (fun hc => ?_) (fun hc => ?_)
  · have h := h.1 hc
    refine lv_iconst (v := (-1)) hx hb dX10_holds_17 (by decide) ?_
    exact W.iret hx hb hr (fun t ht _ => ⟨_, rfl, h, ht⟩) (fun _ hq => by cases hq) dX10_holds_18
  have h := h.2 hc
  refine lv_aload_n hx hb dX10_holds_8 rfl (lv_at hl 0 rfl) ?_
  refine gf S hE hP 0 rfl rfl inX10 (k := 21) (by decide) q1114 rfl dX10_holds_9 ?_
  refine lv_iload_n hx hb dX10_holds_12 rfl (lv_at hl 1 rfl) ?_
  obtain ⟨hi, h⟩ := h
  refine ial S hE hP 1 rfl hi dX10_holds_13 ?_
  refine lv_if_ne (tgt := 19) hx hb dX10_holds_14 (by decide) (fun hc => ?_) (fun hc => ?_)
  · have h := h.2 hc
    refine lv_aload_n hx hb dX10_holds_19 rfl (lv_at hl 0 rfl) ?_
    refine gf S hE hP 0 rfl rfl inX10 (k := 21) (by decide) q1114 rfl dX10_holds_20 ?_
    refine lv_iload_n hx hb dX10_holds_23 rfl (lv_at hl 1 rfl) ?_
    obtain ⟨hi, h⟩ := h
    refine ial S hE hP 1 rfl hi dX10_holds_24 ?_
    refine lv_iconst (v := 1) hx hb dX10_holds_25 (by decide) ?_
    refine lv_icmp_ne (tgt := 41) hx hb dX10_holds_26 (by decide) (fun hc => ?_) (fun hc => ?_)
    · have h := h.2 hc
      refine lv_aload_n hx hb dX10_holds_41 rfl (lv_at hl 0 rfl) ?_
      refine gf S hE hP 0 rfl rfl inX10 (k := 24) (by decide) q1117 rfl dX10_holds_42 ?_
      refine lv_iload_n hx hb dX10_holds_45 rfl (lv_at hl 1 rfl) ?_
      obtain ⟨hi, h⟩ := h
      refine ial S hE hP 2 rfl hi dX10_holds_46 ?_
      exact W.iret hx hb hr (fun t ht _ => ⟨_, rfl, h, ht⟩) (fun _ hq => by cases hq) dX10_holds_47
    have h := h.1 hc
    refine lv_bipush (v := 100) hx hb dX10_holds_29 (by decide) ?_
    refine lv_aload_n hx hb dX10_holds_31 rfl (lv_at hl 0 rfl) ?_
    refine gf S hE hP 0 rfl rfl inX10 (k := 22) (by decide) q1115 rfl dX10_holds_32 ?_
    refine lv_iload_n hx hb dX10_holds_35 rfl (lv_at hl 1 rfl) ?_
    obtain ⟨hi, h⟩ := h
    refine ial S hE hP 3 rfl hi dX10_holds_36 ?_
    refine lv_iadd hx hb dX10_holds_37 ?_
    refine lv_goto (tgt := 47) hx hb dX10_holds_38 (by decide) ?_
    exact W.iret hx hb hr (fun t ht _ => ⟨_, rfl, h, ht⟩) (fun _ hq => by cases hq) dX10_holds_47
  have h := h.1 hc
  refine lv_iconst (v := (-1)) hx hb dX10_holds_17 (by decide) ?_
  exact W.iret hx hb hr (fun t ht _ => ⟨_, rfl, h, ht⟩) (fun _ hq => by cases hq) dX10_holds_18
/-! X10_isEven -/
abbrev wX10_isEven (cI cJ cS : ClassId) (a_o : Nat) (z_refused z_steps z_kind z_space z_other z_times z_speed z_base z_share z_notes z_pitch z_beats z_held z_sort z_size z_shown z_cells z_carried z_words z_tell z_was z_kept z_cutSpace z_cutTimes z_cutOff z_trace : Value) (v_stretches : Int32) (v_cars : Int32) (v_tunes : Int32) (v_along : Int32) (v_near : Int32) (v_borne : Int32) (v_tempo : Int32) (v_seed : Int32) (v_fault : Int32) (v_from : Int32) (v_at : Int32) (v_end : Int32) (v_told : Int32) (v_wrongAt : Int32) (v_culprit : Int32) (v_ran : Int32) (v_isKept : Int32) : va_W := [(a_o, .inr (9, [.int v_stretches, .int v_cars, .int v_tunes, .int v_along, .int v_near, .int v_borne, .int v_tempo, .int v_seed, .int v_fault, z_refused, z_steps, z_kind, z_space, z_other, z_times, z_speed, z_base, z_share, z_notes, z_pitch, z_beats, z_held, z_sort, z_size, z_shown, z_cells, z_carried, z_words, z_tell, .int v_from, .int v_at, .int v_end, .int v_told, .int v_wrongAt, z_was, z_kept, .int v_culprit, z_cutSpace, z_cutTimes, z_cutOff, z_trace, .int v_ran, .int v_isKept]))]
def F_X10_isEven (x1 : Int32) (post : Int32 → Prop) : Prop := ((x1 = 1 → post 1) ∧ (¬ x1 = 1 → ((x1 = 2 → post 1) ∧ (¬ x1 = 2 → ((x1 = 4 → post 1) ∧ (¬ x1 = 4 → ((x1 = 5 → post 1) ∧ (¬ x1 = 5 → post 0))))))))
set_option maxHeartbeats 4000000 in
set_option maxRecDepth 100000 in
theorem c_X10_isEven {l : Launch} {D : va_G} {cI cJ cS : ClassId} {ad adK : Nat → Nat} {a_o : Nat} {z_refused z_steps z_kind z_space z_other z_times z_speed z_base z_share z_notes z_pitch z_beats z_held z_sort z_size z_shown z_cells z_carried z_words z_tell z_was z_kept z_cutSpace z_cutTimes z_cutOff z_trace : Value} {v_stretches : Int32} {v_cars : Int32} {v_tunes : Int32} {v_along : Int32} {v_near : Int32} {v_borne : Int32} {v_tempo : Int32} {v_seed : Int32} {v_fault : Int32} {v_from : Int32} {v_at : Int32} {v_end : Int32} {v_told : Int32} {v_wrongAt : Int32} {v_culprit : Int32} {v_ran : Int32} {v_isKept : Int32} {x1 : Int32} {post : Int32 → Prop} (h : F_X10_isEven x1 post) : Met l yX10_isEven (Cond.code yX10_isEven cX10_isEven 2 (some (.boolean)) :: GW) (rmd 0 0 0) (PR D cI cJ cS ad adK [.ref a_o, .int x1] (wX10_isEven cI cJ cS a_o z_refused z_steps z_kind z_space z_other z_times z_speed z_base z_share z_notes z_pitch z_beats z_held z_sort z_size z_shown z_cells z_carried z_words z_tell z_was z_kept z_cutSpace z_cutTimes z_cutOff z_trace v_stretches v_cars v_tunes v_along v_near v_borne v_tempo v_seed v_fault v_from v_at v_end v_told v_wrongAt v_culprit v_ran v_isKept)) (vp_Si post) 0 0 nof := by
  refine Met.ro (by decide) (Nat.le_of_ble_eq_true rfl) (fun p e s m args below meth c ls (S : CallFix p m c cX10_isEven 2 s args GW "RoadThatSingsModel") hE hT hP hS hr hlocks hl => ?_)
  have hx := S.1
  have hb := S.2.1
  have hl : lv_has ls 2 [(0, .ref a_o), (1, .int x1)] := hl
  unfold F_X10_isEven at h
  refine lv_iload_n hx hb dX10_isEven_0 rfl (lv_at hl 1 rfl) ?_
  refine lv_iconst (v := 1) hx hb dX10_isEven_1 (by decide) ?_
  refine lv_icmp_eq (tgt := 20) hx hb dX10_isEven_2 (by decide) (fun hc => ?_) (fun hc => ?_)
  · have h := h.1 hc
    refine lv_iconst (v := 1) hx hb dX10_isEven_20 (by decide) ?_
    refine lv_goto (tgt := 25) hx hb dX10_isEven_21 (by decide) ?_
    exact W.zret hx hb hr rfl (fun t ht _ => ⟨_, rfl, h, ht⟩) (fun _ hq => by cases hq) dX10_isEven_25
  have h := h.2 hc
  refine lv_iload_n hx hb dX10_isEven_5 rfl (lv_at hl 1 rfl) ?_
  refine lv_iconst (v := 2) hx hb dX10_isEven_6 (by decide) ?_
  refine lv_icmp_eq (tgt := 20) hx hb dX10_isEven_7 (by decide) (fun hc => ?_) (fun hc => ?_)
  · have h := h.1 hc
    refine lv_iconst (v := 1) hx hb dX10_isEven_20 (by decide) ?_
    refine lv_goto (tgt := 25) hx hb dX10_isEven_21 (by decide) ?_
    exact W.zret hx hb hr rfl (fun t ht _ => ⟨_, rfl, h, ht⟩) (fun _ hq => by cases hq) dX10_isEven_25
  have h := h.2 hc
  refine lv_iload_n hx hb dX10_isEven_10 rfl (lv_at hl 1 rfl) ?_
  refine lv_iconst (v := 4) hx hb dX10_isEven_11 (by decide) ?_
  refine lv_icmp_eq (tgt := 20) hx hb dX10_isEven_12 (by decide) (fun hc => ?_) (fun hc => ?_)
  · have h := h.1 hc
    refine lv_iconst (v := 1) hx hb dX10_isEven_20 (by decide) ?_
    refine lv_goto (tgt := 25) hx hb dX10_isEven_21 (by decide) ?_
    exact W.zret hx hb hr rfl (fun t ht _ => ⟨_, rfl, h, ht⟩) (fun _ hq => by cases hq) dX10_isEven_25
  have h := h.2 hc
  refine lv_iload_n hx hb dX10_isEven_15 rfl (lv_at hl 1 rfl) ?_
  refine lv_iconst (v := 5) hx hb dX10_isEven_16 (by decide) ?_
  refine lv_icmp_ne (tgt := 24) hx hb dX10_isEven_17 (by decide) (fun hc => ?_) (fun hc => ?_)
  · have h := h.2 hc
    refine lv_iconst (v := 0) hx hb dX10_isEven_24 (by decide) ?_
    exact W.zret hx hb hr rfl (fun t ht _ => ⟨_, rfl, h, ht⟩) (fun _ hq => by cases hq) dX10_isEven_25
  have h := h.1 hc
  refine lv_iconst (v := 1) hx hb dX10_isEven_20 (by decide) ?_
  refine lv_goto (tgt := 25) hx hb dX10_isEven_21 (by decide) ?_
  exact W.zret hx hb hr rfl (fun t ht _ => ⟨_, rfl, h, ht⟩) (fun _ hq => by cases hq) dX10_isEven_25
/-! X10_isTwo -/
abbrev wX10_isTwo (cI cJ cS : ClassId) (a_o : Nat) (z_refused z_steps z_kind z_space z_other z_times z_speed z_base z_share z_notes z_pitch z_beats z_held z_sort z_size z_shown z_cells z_carried z_words z_tell z_was z_kept z_cutSpace z_cutTimes z_cutOff z_trace : Value) (v_stretches : Int32) (v_cars : Int32) (v_tunes : Int32) (v_along : Int32) (v_near : Int32) (v_borne : Int32) (v_tempo : Int32) (v_seed : Int32) (v_fault : Int32) (v_from : Int32) (v_at : Int32) (v_end : Int32) (v_told : Int32) (v_wrongAt : Int32) (v_culprit : Int32) (v_ran : Int32) (v_isKept : Int32) : va_W := [(a_o, .inr (9, [.int v_stretches, .int v_cars, .int v_tunes, .int v_along, .int v_near, .int v_borne, .int v_tempo, .int v_seed, .int v_fault, z_refused, z_steps, z_kind, z_space, z_other, z_times, z_speed, z_base, z_share, z_notes, z_pitch, z_beats, z_held, z_sort, z_size, z_shown, z_cells, z_carried, z_words, z_tell, .int v_from, .int v_at, .int v_end, .int v_told, .int v_wrongAt, z_was, z_kept, .int v_culprit, z_cutSpace, z_cutTimes, z_cutOff, z_trace, .int v_ran, .int v_isKept]))]
def F_X10_isTwo (x1 : Int32) (post : Int32 → Prop) : Prop := ((x1 = 2 → post 1) ∧ (¬ x1 = 2 → ((x1 = 5 → post 1) ∧ (¬ x1 = 5 → post 0))))
set_option maxHeartbeats 4000000 in
set_option maxRecDepth 100000 in
theorem c_X10_isTwo {l : Launch} {D : va_G} {cI cJ cS : ClassId} {ad adK : Nat → Nat} {a_o : Nat} {z_refused z_steps z_kind z_space z_other z_times z_speed z_base z_share z_notes z_pitch z_beats z_held z_sort z_size z_shown z_cells z_carried z_words z_tell z_was z_kept z_cutSpace z_cutTimes z_cutOff z_trace : Value} {v_stretches : Int32} {v_cars : Int32} {v_tunes : Int32} {v_along : Int32} {v_near : Int32} {v_borne : Int32} {v_tempo : Int32} {v_seed : Int32} {v_fault : Int32} {v_from : Int32} {v_at : Int32} {v_end : Int32} {v_told : Int32} {v_wrongAt : Int32} {v_culprit : Int32} {v_ran : Int32} {v_isKept : Int32} {x1 : Int32} {post : Int32 → Prop} (h : F_X10_isTwo x1 post) : Met l yX10_isTwo (Cond.code yX10_isTwo cX10_isTwo 2 (some (.boolean)) :: GW) (rmd 0 0 0) (PR D cI cJ cS ad adK [.ref a_o, .int x1] (wX10_isTwo cI cJ cS a_o z_refused z_steps z_kind z_space z_other z_times z_speed z_base z_share z_notes z_pitch z_beats z_held z_sort z_size z_shown z_cells z_carried z_words z_tell z_was z_kept z_cutSpace z_cutTimes z_cutOff z_trace v_stretches v_cars v_tunes v_along v_near v_borne v_tempo v_seed v_fault v_from v_at v_end v_told v_wrongAt v_culprit v_ran v_isKept)) (vp_Si post) 0 0 nof := by
  refine Met.ro (by decide) (Nat.le_of_ble_eq_true rfl) (fun p e s m args below meth c ls (S : CallFix p m c cX10_isTwo 2 s args GW "RoadThatSingsModel") hE hT hP hS hr hlocks hl => ?_)
  have hx := S.1
  have hb := S.2.1
  have hl : lv_has ls 2 [(0, .ref a_o), (1, .int x1)] := hl
  unfold F_X10_isTwo at h
  refine lv_iload_n hx hb dX10_isTwo_0 rfl (lv_at hl 1 rfl) ?_
  refine lv_iconst (v := 2) hx hb dX10_isTwo_1 (by decide) ?_
  refine lv_icmp_eq (tgt := 10) hx hb dX10_isTwo_2 (by decide) (fun hc => ?_) (fun hc => ?_)
  · have h := h.1 hc
    refine lv_iconst (v := 1) hx hb dX10_isTwo_10 (by decide) ?_
    refine lv_goto (tgt := 15) hx hb dX10_isTwo_11 (by decide) ?_
    exact W.zret hx hb hr rfl (fun t ht _ => ⟨_, rfl, h, ht⟩) (fun _ hq => by cases hq) dX10_isTwo_15
  have h := h.2 hc
  refine lv_iload_n hx hb dX10_isTwo_5 rfl (lv_at hl 1 rfl) ?_
  refine lv_iconst (v := 5) hx hb dX10_isTwo_6 (by decide) ?_
  refine lv_icmp_ne (tgt := 14) hx hb dX10_isTwo_7 (by decide) (fun hc => ?_) (fun hc => ?_)
  · have h := h.2 hc
    refine lv_iconst (v := 0) hx hb dX10_isTwo_14 (by decide) ?_
    exact W.zret hx hb hr rfl (fun t ht _ => ⟨_, rfl, h, ht⟩) (fun _ hq => by cases hq) dX10_isTwo_15
  have h := h.1 hc
  refine lv_iconst (v := 1) hx hb dX10_isTwo_10 (by decide) ?_
  refine lv_goto (tgt := 15) hx hb dX10_isTwo_11 (by decide) ?_
  exact W.zret hx hb hr rfl (fun t ht _ => ⟨_, rfl, h, ht⟩) (fun _ hq => by cases hq) dX10_isTwo_15
/-! X10_lengthOf -/
abbrev wX10_lengthOf (cI cJ cS : ClassId) (a_o a_kind a_other a_space a_times : Nat) (z_refused z_steps z_speed z_base z_share z_notes z_pitch z_beats z_held z_sort z_size z_shown z_cells z_carried z_words z_tell z_was z_kept z_cutSpace z_cutTimes z_cutOff z_trace : Value) (v_stretches : Int32) (v_cars : Int32) (v_tunes : Int32) (v_along : Int32) (v_near : Int32) (v_borne : Int32) (v_tempo : Int32) (v_seed : Int32) (v_fault : Int32) (v_from : Int32) (v_at : Int32) (v_end : Int32) (v_told : Int32) (v_wrongAt : Int32) (v_culprit : Int32) (v_ran : Int32) (v_isKept : Int32) (f_kind : Nat → Int32) (f_other : Nat → Int32) (f_space : Nat → Int32) (f_times : Nat → Int32) : va_W := [(a_o, .inr (9, [.int v_stretches, .int v_cars, .int v_tunes, .int v_along, .int v_near, .int v_borne, .int v_tempo, .int v_seed, .int v_fault, z_refused, z_steps, .ref a_kind, .ref a_space, .ref a_other, .ref a_times, z_speed, z_base, z_share, z_notes, z_pitch, z_beats, z_held, z_sort, z_size, z_shown, z_cells, z_carried, z_words, z_tell, .int v_from, .int v_at, .int v_end, .int v_told, .int v_wrongAt, z_was, z_kept, .int v_culprit, z_cutSpace, z_cutTimes, z_cutOff, z_trace, .int v_ran, .int v_isKept])), (a_kind, .inl (cI, 16, .inl f_kind)), (a_other, .inl (cI, 16, .inl f_other)), (a_space, .inl (cI, 16, .inl f_space)), (a_times, .inl (cI, 16, .inl f_times))]
def F_X10_lengthOf_55 (f_times : Nat → Int32) (post : Int32 → Prop) (x1 : Int32) (s0 : Int32) : Prop := (vp_in x1 16 ∧ post ((f_times x1.toNatClampNeg) * s0))
def F_X10_lengthOf (f_kind : Nat → Int32) (f_other : Nat → Int32) (f_space : Nat → Int32) (f_times : Nat → Int32) (x1 : Int32) (post : Int32 → Prop) : Prop := (vp_in x1 16 ∧ (F_X10_isTwo (f_kind x1.toNatClampNeg) (fun r7 => ((r7 = 0 → (vp_in x1 16 ∧ (((f_kind x1.toNatClampNeg) = 6 → (vp_in x1 16 ∧ F_X10_lengthOf_55 f_times post x1 (f_other x1.toNatClampNeg))) ∧ (¬ (f_kind x1.toNatClampNeg) = 6 → (vp_in x1 16 ∧ F_X10_lengthOf_55 f_times post x1 (f_space x1.toNatClampNeg)))))) ∧ (¬ r7 = 0 → (vp_in x1 16 ∧ (vp_in x1 16 ∧ F_X10_lengthOf_55 f_times post x1 ((f_space x1.toNatClampNeg) + (f_other x1.toNatClampNeg)))))))))
set_option maxHeartbeats 4000000 in
set_option maxRecDepth 100000 in
theorem w_X10_lengthOf_55 {l : Launch} {D : va_G} {cI cJ cS : ClassId} {ad adK : Nat → Nat} {a_o a_kind a_other a_space a_times : Nat} {z_refused z_steps z_speed z_base z_share z_notes z_pitch z_beats z_held z_sort z_size z_shown z_cells z_carried z_words z_tell z_was z_kept z_cutSpace z_cutTimes z_cutOff z_trace : Value} {v_stretches : Int32} {v_cars : Int32} {v_tunes : Int32} {v_along : Int32} {v_near : Int32} {v_borne : Int32} {v_tempo : Int32} {v_seed : Int32} {v_fault : Int32} {v_from : Int32} {v_at : Int32} {v_end : Int32} {v_told : Int32} {v_wrongAt : Int32} {v_culprit : Int32} {v_ran : Int32} {v_isKept : Int32} {f_kind : Nat → Int32} {f_other : Nat → Int32} {f_space : Nat → Int32} {f_times : Nat → Int32} {x1 : Int32} {s0 : Int32} {post : Int32 → Prop} {p : Program} {e : Env} {s : State} {m : MethodId} {args : Array Value} {below : List Frame} {meth : Method} {c : Code} (S : CallFix p m c cX10_lengthOf 3 s args GW "RoadThatSingsModel") (hE : EN D cI cJ cS s) (hT : ST ad adK nof s s.heap) (hP : va_P D vwCl (wX10_lengthOf cI cJ cS a_o a_kind a_other a_space a_times z_refused z_steps z_speed z_base z_share z_notes z_pitch z_beats z_held z_sort z_size z_shown z_cells z_carried z_words z_tell z_was z_kept z_cutSpace z_cutTimes z_cutOff z_trace v_stretches v_cars v_tunes v_along v_near v_borne v_tempo v_seed v_fault v_from v_at v_end v_told v_wrongAt v_culprit v_ran v_isKept f_kind f_other f_space f_times) s.heap) (hS : va_S nof s.heap s.heap []) (hr : meth.sig.returnType = (some (.int))) (hlocks : meth.locks = false) : ∀ (ls : Array Slot), F_X10_lengthOf_55 f_times post x1 s0 → lv_has ls 3 [(0, .ref a_o), (1, .int x1)] → W p l e (rmd 1 0 0) s m args below meth c s.heap [] 0 0 (MQ below (vp_Si post) args s 0 0 nof) (F0 m 55 ls [.int s0]) := by
  intro  ls h hl
  unfold F_X10_lengthOf_55 at h
  have hx := S.1
  have hb := S.2.1
  refine lv_istore_n (lv' := [(2, .int s0), (0, .ref a_o), (1, .int x1)]) hx hb dX10_lengthOf_55 rfl hl (by decide) rfl (fun ls hl => ?_)
  refine lv_aload_n hx hb dX10_lengthOf_56 rfl (lv_at hl 1 rfl) ?_
  refine gf S hE hP 0 rfl rfl inX10 (k := 14) (by decide) q1107 rfl dX10_lengthOf_57 ?_
  refine lv_iload_n hx hb dX10_lengthOf_60 rfl (lv_at hl 2 rfl) ?_
  obtain ⟨hi, h⟩ := h
  refine ial S hE hP 4 rfl hi dX10_lengthOf_61 ?_
  refine lv_iload_n hx hb dX10_lengthOf_62 rfl (lv_at hl 0 rfl) ?_
  refine lv_imul hx hb dX10_lengthOf_63 ?_
  exact W.iret hx hb hr (fun t ht _ => ⟨_, rfl, h, ht⟩) (fun _ hq => by cases hq) dX10_lengthOf_64
set_option maxHeartbeats 4000000 in
set_option maxRecDepth 100000 in
theorem c_X10_lengthOf {l : Launch} {D : va_G} {cI cJ cS : ClassId} {ad adK : Nat → Nat} {a_o a_kind a_other a_space a_times : Nat} {z_refused z_steps z_speed z_base z_share z_notes z_pitch z_beats z_held z_sort z_size z_shown z_cells z_carried z_words z_tell z_was z_kept z_cutSpace z_cutTimes z_cutOff z_trace : Value} {v_stretches : Int32} {v_cars : Int32} {v_tunes : Int32} {v_along : Int32} {v_near : Int32} {v_borne : Int32} {v_tempo : Int32} {v_seed : Int32} {v_fault : Int32} {v_from : Int32} {v_at : Int32} {v_end : Int32} {v_told : Int32} {v_wrongAt : Int32} {v_culprit : Int32} {v_ran : Int32} {v_isKept : Int32} {f_kind : Nat → Int32} {f_other : Nat → Int32} {f_space : Nat → Int32} {f_times : Nat → Int32} {x1 : Int32} {post : Int32 → Prop} (h : F_X10_lengthOf f_kind f_other f_space f_times x1 post) : Met l yX10_lengthOf (Cond.code yX10_lengthOf cX10_lengthOf 3 (some (.int)) :: GW) (rmd 1 0 0) (PR D cI cJ cS ad adK [.ref a_o, .int x1] (wX10_lengthOf cI cJ cS a_o a_kind a_other a_space a_times z_refused z_steps z_speed z_base z_share z_notes z_pitch z_beats z_held z_sort z_size z_shown z_cells z_carried z_words z_tell z_was z_kept z_cutSpace z_cutTimes z_cutOff z_trace v_stretches v_cars v_tunes v_along v_near v_borne v_tempo v_seed v_fault v_from v_at v_end v_told v_wrongAt v_culprit v_ran v_isKept f_kind f_other f_space f_times)) (vp_Si post) 0 0 nof := by
  refine Met.ro (by decide) (Nat.le_of_ble_eq_true rfl) (fun p e s m args below meth c ls (S : CallFix p m c cX10_lengthOf 3 s args GW "RoadThatSingsModel") hE hT hP hS hr hlocks hl => ?_)
  have hx := S.1
  have hb := S.2.1
  have hl : lv_has ls 3 [(0, .ref a_o), (1, .int x1)] := hl
  unfold F_X10_lengthOf at h
  refine lv_aload_n hx hb dX10_lengthOf_0 rfl (lv_at hl 0 rfl) ?_
  refine lv_aload_n hx hb dX10_lengthOf_1 rfl (lv_at hl 0 rfl) ?_
  refine gf S hE hP 0 rfl rfl inX10 (k := 11) (by decide) q1104 rfl dX10_lengthOf_2 ?_
  refine lv_iload_n hx hb dX10_lengthOf_5 rfl (lv_at hl 1 rfl) ?_
  obtain ⟨hi, h⟩ := h
  refine ial S hE hP 1 rfl hi dX10_lengthOf_6 ?_
  refine ro_i (roV S hE hT hS (c_X10_isTwo h) lkX10_152 rfl ⟨(Nat.le_of_ble_eq_true rfl), (Nat.le_of_ble_eq_true rfl)⟩ (hP.sub [0] rfl) 0 rfl rfl hl.1 rfl (Nat.le_of_ble_eq_true rfl) dX10_lengthOf_7 ⟨(Nat.zero_le _), (Nat.zero_le _)⟩) (fun r7 h => ?_)
  refine lv_if_eq (tgt := 29) hx hb dX10_lengthOf_10 (by decide) (fun hc => ?_) (fun hc => ?_)
  · have h := h.1 hc
    refine lv_aload_n hx hb dX10_lengthOf_29 rfl (lv_at hl 0 rfl) ?_
    refine gf S hE hP 0 rfl rfl inX10 (k := 11) (by decide) q1104 rfl dX10_lengthOf_30 ?_
    refine lv_iload_n hx hb dX10_lengthOf_33 rfl (lv_at hl 1 rfl) ?_
    obtain ⟨hi, h⟩ := h
    refine ial S hE hP 1 rfl hi dX10_lengthOf_34 ?_
    refine lv_bipush (v := 6) hx hb dX10_lengthOf_35 (by decide) ?_
    refine lv_icmp_ne (tgt := 49) hx hb dX10_lengthOf_37 (by decide) (fun hc => ?_) (fun hc => ?_)
    · have h := h.2 hc
      refine lv_aload_n hx hb dX10_lengthOf_49 rfl (lv_at hl 0 rfl) ?_
      refine gf S hE hP 0 rfl rfl inX10 (k := 12) (by decide) q1105 rfl dX10_lengthOf_50 ?_
      refine lv_iload_n hx hb dX10_lengthOf_53 rfl (lv_at hl 1 rfl) ?_
      obtain ⟨hi, h⟩ := h
      refine ial S hE hP 3 rfl hi dX10_lengthOf_54 ?_
      refine w_X10_lengthOf_55 S hE hT hP hS hr hlocks _ h (lv_sub hl [0, 1] rfl)
    have h := h.1 hc
    refine lv_aload_n hx hb dX10_lengthOf_40 rfl (lv_at hl 0 rfl) ?_
    refine gf S hE hP 0 rfl rfl inX10 (k := 13) (by decide) q1106 rfl dX10_lengthOf_41 ?_
    refine lv_iload_n hx hb dX10_lengthOf_44 rfl (lv_at hl 1 rfl) ?_
    obtain ⟨hi, h⟩ := h
    refine ial S hE hP 2 rfl hi dX10_lengthOf_45 ?_
    refine lv_goto (tgt := 55) hx hb dX10_lengthOf_46 (by decide) ?_
    refine w_X10_lengthOf_55 S hE hT hP hS hr hlocks _ h (lv_sub hl [0, 1] rfl)
  have h := h.2 hc
  refine lv_aload_n hx hb dX10_lengthOf_13 rfl (lv_at hl 0 rfl) ?_
  refine gf S hE hP 0 rfl rfl inX10 (k := 12) (by decide) q1105 rfl dX10_lengthOf_14 ?_
  refine lv_iload_n hx hb dX10_lengthOf_17 rfl (lv_at hl 1 rfl) ?_
  obtain ⟨hi, h⟩ := h
  refine ial S hE hP 3 rfl hi dX10_lengthOf_18 ?_
  refine lv_aload_n hx hb dX10_lengthOf_19 rfl (lv_at hl 0 rfl) ?_
  refine gf S hE hP 0 rfl rfl inX10 (k := 13) (by decide) q1106 rfl dX10_lengthOf_20 ?_
  refine lv_iload_n hx hb dX10_lengthOf_23 rfl (lv_at hl 1 rfl) ?_
  obtain ⟨hi, h⟩ := h
  refine ial S hE hP 2 rfl hi dX10_lengthOf_24 ?_
  refine lv_iadd hx hb dX10_lengthOf_25 ?_
  refine lv_goto (tgt := 55) hx hb dX10_lengthOf_26 (by decide) ?_
  refine w_X10_lengthOf_55 S hE hT hP hS hr hlocks _ h (lv_sub hl [0, 1] rfl)
/-! X10_says -/
abbrev wX10_says (cI cJ cS : ClassId) (a_o a_held a_kind a_other a_refused a_shown a_space a_times : Nat) (z_steps z_speed z_base z_share z_notes z_pitch z_beats z_sort z_size z_cells z_carried z_words z_tell z_was z_kept z_cutSpace z_cutTimes z_cutOff z_trace : Value) (v_stretches : Int32) (v_cars : Int32) (v_tunes : Int32) (v_along : Int32) (v_near : Int32) (v_borne : Int32) (v_tempo : Int32) (v_seed : Int32) (v_fault : Int32) (v_from : Int32) (v_at : Int32) (v_end : Int32) (v_told : Int32) (v_wrongAt : Int32) (v_culprit : Int32) (v_ran : Int32) (v_isKept : Int32) (f_held : Nat → Int32) (f_kind : Nat → Int32) (f_other : Nat → Int32) (f_refused : Nat → Int32) (f_shown : Nat → Int32) (f_space : Nat → Int32) (f_times : Nat → Int32) : va_W := [(a_o, .inr (9, [.int v_stretches, .int v_cars, .int v_tunes, .int v_along, .int v_near, .int v_borne, .int v_tempo, .int v_seed, .int v_fault, .ref a_refused, z_steps, .ref a_kind, .ref a_space, .ref a_other, .ref a_times, z_speed, z_base, z_share, z_notes, z_pitch, z_beats, .ref a_held, z_sort, z_size, .ref a_shown, z_cells, z_carried, z_words, z_tell, .int v_from, .int v_at, .int v_end, .int v_told, .int v_wrongAt, z_was, z_kept, .int v_culprit, z_cutSpace, z_cutTimes, z_cutOff, z_trace, .int v_ran, .int v_isKept])), (a_held, .inl (cI, 8, .inl f_held)), (a_kind, .inl (cI, 16, .inl f_kind)), (a_other, .inl (cI, 16, .inl f_other)), (a_refused, .inl (cI, 8, .inl f_refused)), (a_shown, .inl (cI, 8, .inl f_shown)), (a_space, .inl (cI, 16, .inl f_space)), (a_times, .inl (cI, 16, .inl f_times))]
def F_X10_says_114 (f_kind : Nat → Int32) (f_other : Nat → Int32) (f_space : Nat → Int32) (f_times : Nat → Int32) (post : Int32 → (Nat → Int32) → Prop) (x2 : Int32) (x3 : Int32) (f_refused : Nat → Int32) : Prop := ((x2 = 0 → (F_X10_lengthOf f_kind f_other f_space f_times x3 (fun r154 => post r154 f_refused))) ∧ (¬ x2 = 0 → ((x2 = 1 → (vp_in x3 16 ∧ post (f_space x3.toNatClampNeg) f_refused)) ∧ (¬ x2 = 1 → ((x2 = 2 → (vp_in x3 16 ∧ (vp_in x3 16 ∧ post ((f_space x3.toNatClampNeg) + (f_other x3.toNatClampNeg)) f_refused))) ∧ (¬ x2 = 2 → ((x2 = 3 → (vp_in x3 16 ∧ post (f_times x3.toNatClampNeg) f_refused)) ∧ (¬ x2 = 3 → ((x2 = 4 → (vp_in x3 16 ∧ post (f_space x3.toNatClampNeg) f_refused)) ∧ (¬ x2 = 4 → ((x2 = 5 → (vp_in x3 16 ∧ (vp_in x3 16 ∧ post ((f_space x3.toNatClampNeg) + (f_other x3.toNatClampNeg)) f_refused))) ∧ (¬ x2 = 5 → (vp_in x3 16 ∧ post (f_other x3.toNatClampNeg) f_refused)))))))))))))
def F_X10_says_96 (f_kind : Nat → Int32) (f_other : Nat → Int32) (f_space : Nat → Int32) (f_times : Nat → Int32) (post : Int32 → (Nat → Int32) → Prop) (x2 : Int32) (x3 : Int32) (x4 : Int32) (f_refused : Nat → Int32) : Prop := ((x2 = 2 → ((x4 = 5 → F_X10_says_114 f_kind f_other f_space f_times post x2 x3 f_refused) ∧ (¬ x4 = 5 → (F_X10_no f_refused (-2) (fun r110 w110_0 => post r110 w110_0))))) ∧ (¬ x2 = 2 → (F_X10_no f_refused (-2) (fun r110 w110_0 => post r110 w110_0))))
def F_X10_says (f_held : Nat → Int32) (f_kind : Nat → Int32) (f_other : Nat → Int32) (f_refused : Nat → Int32) (f_shown : Nat → Int32) (f_space : Nat → Int32) (f_times : Nat → Int32) (x1 : Int32) (x2 : Int32) (post : Int32 → (Nat → Int32) → Prop) : Prop := (F_X10_isShelf x1 (fun r2 => ((r2 = 0 → (F_X10_no f_refused (-1) (fun r20 w20_0 => post r20 w20_0))) ∧ (¬ r2 = 0 → ((x2 < 0 → (F_X10_no f_refused (-1) (fun r20 w20_0 => post r20 w20_0))) ∧ (¬ x2 < 0 → ((x2 ≤ 6 → (vp_in x1 8 ∧ (((f_held x1.toNatClampNeg) = 1 → (F_X10_no f_refused (-2) (fun r37 w37_0 => post r37 w37_0))) ∧ (¬ (f_held x1.toNatClampNeg) = 1 → (vp_in x1 8 ∧ (((f_held x1.toNatClampNeg) = 0 → (F_X10_no f_refused (-3) (fun r53 w53_0 => post r53 w53_0))) ∧ (¬ (f_held x1.toNatClampNeg) = 0 → (vp_in x1 8 ∧ (∀ x3_63 : Int32, x3_63 = f_shown x1.toNatClampNeg → (vp_in x3_63 16 ∧ (∀ x4_70 : Int32, x4_70 = f_kind x3_63.toNatClampNeg → ((x2 = 0 → F_X10_says_114 f_kind f_other f_space f_times post x2 x3_63 f_refused) ∧ (¬ x2 = 0 → ((x2 = x4_70 → F_X10_says_114 f_kind f_other f_space f_times post x2 x3_63 f_refused) ∧ (¬ x2 = x4_70 → ((x2 = 1 → (F_X10_isEven x4_70 (fun r90 => ((r90 = 0 → F_X10_says_96 f_kind f_other f_space f_times post x2 x3_63 x4_70 f_refused) ∧ (¬ r90 = 0 → F_X10_says_114 f_kind f_other f_space f_times post x2 x3_63 f_refused))))) ∧ (¬ x2 = 1 → F_X10_says_96 f_kind f_other f_space f_times post x2 x3_63 x4_70 f_refused))))))))))))))))) ∧ (¬ x2 ≤ 6 → (F_X10_no f_refused (-1) (fun r20 w20_0 => post r20 w20_0))))))))))
set_option maxHeartbeats 4000000 in
set_option maxRecDepth 100000 in
theorem w_X10_says_114 {l : Launch} {D : va_G} {cI cJ cS : ClassId} {ad adK : Nat → Nat} {a_o a_held a_kind a_other a_refused a_shown a_space a_times : Nat} {z_steps z_speed z_base z_share z_notes z_pitch z_beats z_sort z_size z_cells z_carried z_words z_tell z_was z_kept z_cutSpace z_cutTimes z_cutOff z_trace : Value} {v_stretches : Int32} {v_cars : Int32} {v_tunes : Int32} {v_along : Int32} {v_near : Int32} {v_borne : Int32} {v_tempo : Int32} {v_seed : Int32} {v_fault : Int32} {v_from : Int32} {v_at : Int32} {v_end : Int32} {v_told : Int32} {v_wrongAt : Int32} {v_culprit : Int32} {v_ran : Int32} {v_isKept : Int32} {f_held : Nat → Int32} {f_kind : Nat → Int32} {f_other : Nat → Int32} {f_refused : Nat → Int32} {f_shown : Nat → Int32} {f_space : Nat → Int32} {f_times : Nat → Int32} {x2 : Int32} {x3 : Int32} {post : Int32 → (Nat → Int32) → Prop} {p : Program} {e : Env} {s : State} {m : MethodId} {args : Array Value} {below : List Frame} {meth : Method} {c : Code} {A : Nat → Prop} (S : CallFix p m c cX10_says 5 s args GW "RoadThatSingsModel") (hE : EN D cI cJ cS s) (hT : ST ad adK A s s.heap) (hA : ∀ q : Nat, s.heap.size ≤ q → A q) (hr : meth.sig.returnType = (some (.int))) (hlocks : meth.locks = false) : ∀ (H : Heap) (locs : List Loc) (ls : Array Slot), F_X10_says_114 f_kind f_other f_space f_times post x2 x3 f_refused → va_P D vwCl (wX10_says cI cJ cS a_o a_held a_kind a_other a_refused a_shown a_space a_times z_steps z_speed z_base z_share z_notes z_pitch z_beats z_sort z_size z_cells z_carried z_words z_tell z_was z_kept z_cutSpace z_cutTimes z_cutOff z_trace v_stretches v_cars v_tunes v_along v_near v_borne v_tempo v_seed v_fault v_from v_at v_end v_told v_wrongAt v_culprit v_ran v_isKept f_held f_kind f_other f_refused f_shown f_space f_times) H → va_D A (wX10_says cI cJ cS a_o a_held a_kind a_other a_refused a_shown a_space a_times z_steps z_speed z_base z_share z_notes z_pitch z_beats z_sort z_size z_cells z_carried z_words z_tell z_was z_kept z_cutSpace z_cutTimes z_cutOff z_trace v_stretches v_cars v_tunes v_along v_near v_borne v_tempo v_seed v_fault v_from v_at v_end v_told v_wrongAt v_culprit v_ran v_isKept f_held f_kind f_other f_refused f_shown f_space f_times) → va_S A s.heap H locs → lv_has ls 5 [(0, .ref a_o), (2, .int x2), (3, .int x3)] → W p l e (rmd 2 0 0) s m args below meth c H locs 0 0 (MQ below (va_Qi (fun r (u : (Nat → Int32)) => post r u) (fun u t => va_P D vwCl (wX10_says cI cJ cS a_o a_held a_kind a_other a_refused a_shown a_space a_times z_steps z_speed z_base z_share z_notes z_pitch z_beats z_sort z_size z_cells z_carried z_words z_tell z_was z_kept z_cutSpace z_cutTimes z_cutOff z_trace v_stretches v_cars v_tunes v_along v_near v_borne v_tempo v_seed v_fault v_from v_at v_end v_told v_wrongAt v_culprit v_ran v_isKept f_held f_kind f_other u f_shown f_space f_times) t.heap) A) args s 0 0 A) (F0 m 114 ls []) := by
  intro  H locs ls h hP hD hS hl
  unfold F_X10_says_114 at h
  have hx := S.1
  have hb := S.2.1
  refine lv_iload_n hx hb dX10_says_114 rfl (lv_at hl 1 rfl) ?_
  by_cases hk0 : x2 = 0
  · have h := h.1 hk0
    refine lv_tableIn (off := 37) (tgt := 152) hx hb dX10_says_115 (by rw [hk0]; decide) (by rw [hk0]; decide) (by rw [hk0]; rfl) (by decide) ?_
    refine lv_aload_n hx hb dX10_says_152 rfl (lv_at hl 0 rfl) ?_
    refine lv_iload_n hx hb dX10_says_153 rfl (lv_at hl 2 rfl) ?_
    refine ro_i (roV S hE hT hS (c_X10_lengthOf h) lkX10_131 rfl ⟨(Nat.le_of_ble_eq_true rfl), (Nat.le_of_ble_eq_true rfl)⟩ (hP.sub [0, 2, 3, 6, 7] rfl) 0 rfl rfl hl.1 rfl (Nat.le_of_ble_eq_true rfl) dX10_says_154 ⟨(Nat.zero_le _), (Nat.zero_le _)⟩) (fun r154 h => ?_)
    exact W.iret hx hb hr (fun t ht _ => ⟨⟨_, f_refused, rfl, h, hPt hP ht⟩, hS.F ht⟩) hS.2.2 dX10_says_157
  have h := h.2 hk0
  by_cases hk1 : x2 = 1
  · have h := h.1 hk1
    refine lv_tableIn (off := 43) (tgt := 158) hx hb dX10_says_115 (by rw [hk1]; decide) (by rw [hk1]; decide) (by rw [hk1]; rfl) (by decide) ?_
    refine lv_aload_n hx hb dX10_says_158 rfl (lv_at hl 0 rfl) ?_
    refine gf S hE hP 0 rfl rfl inX10 (k := 12) (by decide) q1105 rfl dX10_says_159 ?_
    refine lv_iload_n hx hb dX10_says_162 rfl (lv_at hl 2 rfl) ?_
    obtain ⟨hi, h⟩ := h
    refine ial S hE hP 6 rfl hi dX10_says_163 ?_
    exact W.iret hx hb hr (fun t ht _ => ⟨⟨_, f_refused, rfl, h, hPt hP ht⟩, hS.F ht⟩) hS.2.2 dX10_says_164
  have h := h.2 hk1
  by_cases hk2 : x2 = 2
  · have h := h.1 hk2
    refine lv_tableIn (off := 50) (tgt := 165) hx hb dX10_says_115 (by rw [hk2]; decide) (by rw [hk2]; decide) (by rw [hk2]; rfl) (by decide) ?_
    refine lv_aload_n hx hb dX10_says_165 rfl (lv_at hl 0 rfl) ?_
    refine gf S hE hP 0 rfl rfl inX10 (k := 12) (by decide) q1105 rfl dX10_says_166 ?_
    refine lv_iload_n hx hb dX10_says_169 rfl (lv_at hl 2 rfl) ?_
    obtain ⟨hi, h⟩ := h
    refine ial S hE hP 6 rfl hi dX10_says_170 ?_
    refine lv_aload_n hx hb dX10_says_171 rfl (lv_at hl 0 rfl) ?_
    refine gf S hE hP 0 rfl rfl inX10 (k := 13) (by decide) q1106 rfl dX10_says_172 ?_
    refine lv_iload_n hx hb dX10_says_175 rfl (lv_at hl 2 rfl) ?_
    obtain ⟨hi, h⟩ := h
    refine ial S hE hP 3 rfl hi dX10_says_176 ?_
    refine lv_iadd hx hb dX10_says_177 ?_
    exact W.iret hx hb hr (fun t ht _ => ⟨⟨_, f_refused, rfl, h, hPt hP ht⟩, hS.F ht⟩) hS.2.2 dX10_says_178
  have h := h.2 hk2
  by_cases hk3 : x2 = 3
  · have h := h.1 hk3
    refine lv_tableIn (off := 64) (tgt := 179) hx hb dX10_says_115 (by rw [hk3]; decide) (by rw [hk3]; decide) (by rw [hk3]; rfl) (by decide) ?_
    refine lv_aload_n hx hb dX10_says_179 rfl (lv_at hl 0 rfl) ?_
    refine gf S hE hP 0 rfl rfl inX10 (k := 14) (by decide) q1107 rfl dX10_says_180 ?_
    refine lv_iload_n hx hb dX10_says_183 rfl (lv_at hl 2 rfl) ?_
    obtain ⟨hi, h⟩ := h
    refine ial S hE hP 7 rfl hi dX10_says_184 ?_
    exact W.iret hx hb hr (fun t ht _ => ⟨⟨_, f_refused, rfl, h, hPt hP ht⟩, hS.F ht⟩) hS.2.2 dX10_says_185
  have h := h.2 hk3
  by_cases hk4 : x2 = 4
  · have h := h.1 hk4
    refine lv_tableIn (off := 43) (tgt := 158) hx hb dX10_says_115 (by rw [hk4]; decide) (by rw [hk4]; decide) (by rw [hk4]; rfl) (by decide) ?_
    refine lv_aload_n hx hb dX10_says_158 rfl (lv_at hl 0 rfl) ?_
    refine gf S hE hP 0 rfl rfl inX10 (k := 12) (by decide) q1105 rfl dX10_says_159 ?_
    refine lv_iload_n hx hb dX10_says_162 rfl (lv_at hl 2 rfl) ?_
    obtain ⟨hi, h⟩ := h
    refine ial S hE hP 6 rfl hi dX10_says_163 ?_
    exact W.iret hx hb hr (fun t ht _ => ⟨⟨_, f_refused, rfl, h, hPt hP ht⟩, hS.F ht⟩) hS.2.2 dX10_says_164
  have h := h.2 hk4
  by_cases hk5 : x2 = 5
  · have h := h.1 hk5
    refine lv_tableIn (off := 50) (tgt := 165) hx hb dX10_says_115 (by rw [hk5]; decide) (by rw [hk5]; decide) (by rw [hk5]; rfl) (by decide) ?_
    refine lv_aload_n hx hb dX10_says_165 rfl (lv_at hl 0 rfl) ?_
    refine gf S hE hP 0 rfl rfl inX10 (k := 12) (by decide) q1105 rfl dX10_says_166 ?_
    refine lv_iload_n hx hb dX10_says_169 rfl (lv_at hl 2 rfl) ?_
    obtain ⟨hi, h⟩ := h
    refine ial S hE hP 6 rfl hi dX10_says_170 ?_
    refine lv_aload_n hx hb dX10_says_171 rfl (lv_at hl 0 rfl) ?_
    refine gf S hE hP 0 rfl rfl inX10 (k := 13) (by decide) q1106 rfl dX10_says_172 ?_
    refine lv_iload_n hx hb dX10_says_175 rfl (lv_at hl 2 rfl) ?_
    obtain ⟨hi, h⟩ := h
    refine ial S hE hP 3 rfl hi dX10_says_176 ?_
    refine lv_iadd hx hb dX10_says_177 ?_
    exact W.iret hx hb hr (fun t ht _ => ⟨⟨_, f_refused, rfl, h, hPt hP ht⟩, hS.F ht⟩) hS.2.2 dX10_says_178
  have h := h.2 hk5
  refine lv_tableOut (tgt := 186) hx hb dX10_says_115 (sw_out (fun k h1 h2 => by
    rcases (show k = 0 ∨ k = 1 ∨ k = 2 ∨ k = 3 ∨ k = 4 ∨ k = 5 by omega) with rfl | rfl | rfl | rfl | rfl | rfl
    · exact hk0
    · exact hk1
    · exact hk2
    · exact hk3
    · exact hk4
    · exact hk5)) (by decide) ?_
  refine lv_aload_n hx hb dX10_says_186 rfl (lv_at hl 0 rfl) ?_
  refine gf S hE hP 0 rfl rfl inX10 (k := 13) (by decide) q1106 rfl dX10_says_187 ?_
  refine lv_iload_n hx hb dX10_says_190 rfl (lv_at hl 2 rfl) ?_
  obtain ⟨hi, h⟩ := h
  refine ial S hE hP 3 rfl hi dX10_says_191 ?_
  exact W.iret hx hb hr (fun t ht _ => ⟨⟨_, f_refused, rfl, h, hPt hP ht⟩, hS.F ht⟩) hS.2.2 dX10_says_192
set_option maxHeartbeats 4000000 in
set_option maxRecDepth 100000 in
theorem w_X10_says_96 {l : Launch} {D : va_G} {cI cJ cS : ClassId} {ad adK : Nat → Nat} {a_o a_held a_kind a_other a_refused a_shown a_space a_times : Nat} {z_steps z_speed z_base z_share z_notes z_pitch z_beats z_sort z_size z_cells z_carried z_words z_tell z_was z_kept z_cutSpace z_cutTimes z_cutOff z_trace : Value} {v_stretches : Int32} {v_cars : Int32} {v_tunes : Int32} {v_along : Int32} {v_near : Int32} {v_borne : Int32} {v_tempo : Int32} {v_seed : Int32} {v_fault : Int32} {v_from : Int32} {v_at : Int32} {v_end : Int32} {v_told : Int32} {v_wrongAt : Int32} {v_culprit : Int32} {v_ran : Int32} {v_isKept : Int32} {f_held : Nat → Int32} {f_kind : Nat → Int32} {f_other : Nat → Int32} {f_refused : Nat → Int32} {f_shown : Nat → Int32} {f_space : Nat → Int32} {f_times : Nat → Int32} {x2 : Int32} {x3 : Int32} {x4 : Int32} {post : Int32 → (Nat → Int32) → Prop} {p : Program} {e : Env} {s : State} {m : MethodId} {args : Array Value} {below : List Frame} {meth : Method} {c : Code} {A : Nat → Prop} (S : CallFix p m c cX10_says 5 s args GW "RoadThatSingsModel") (hE : EN D cI cJ cS s) (hT : ST ad adK A s s.heap) (hA : ∀ q : Nat, s.heap.size ≤ q → A q) (hr : meth.sig.returnType = (some (.int))) (hlocks : meth.locks = false) : ∀ (H : Heap) (locs : List Loc) (ls : Array Slot), F_X10_says_96 f_kind f_other f_space f_times post x2 x3 x4 f_refused → va_P D vwCl (wX10_says cI cJ cS a_o a_held a_kind a_other a_refused a_shown a_space a_times z_steps z_speed z_base z_share z_notes z_pitch z_beats z_sort z_size z_cells z_carried z_words z_tell z_was z_kept z_cutSpace z_cutTimes z_cutOff z_trace v_stretches v_cars v_tunes v_along v_near v_borne v_tempo v_seed v_fault v_from v_at v_end v_told v_wrongAt v_culprit v_ran v_isKept f_held f_kind f_other f_refused f_shown f_space f_times) H → va_D A (wX10_says cI cJ cS a_o a_held a_kind a_other a_refused a_shown a_space a_times z_steps z_speed z_base z_share z_notes z_pitch z_beats z_sort z_size z_cells z_carried z_words z_tell z_was z_kept z_cutSpace z_cutTimes z_cutOff z_trace v_stretches v_cars v_tunes v_along v_near v_borne v_tempo v_seed v_fault v_from v_at v_end v_told v_wrongAt v_culprit v_ran v_isKept f_held f_kind f_other f_refused f_shown f_space f_times) → va_S A s.heap H locs → lv_has ls 5 [(0, .ref a_o), (2, .int x2), (3, .int x3), (4, .int x4)] → W p l e (rmd 2 0 0) s m args below meth c H locs 0 0 (MQ below (va_Qi (fun r (u : (Nat → Int32)) => post r u) (fun u t => va_P D vwCl (wX10_says cI cJ cS a_o a_held a_kind a_other a_refused a_shown a_space a_times z_steps z_speed z_base z_share z_notes z_pitch z_beats z_sort z_size z_cells z_carried z_words z_tell z_was z_kept z_cutSpace z_cutTimes z_cutOff z_trace v_stretches v_cars v_tunes v_along v_near v_borne v_tempo v_seed v_fault v_from v_at v_end v_told v_wrongAt v_culprit v_ran v_isKept f_held f_kind f_other u f_shown f_space f_times) t.heap) A) args s 0 0 A) (F0 m 96 ls []) := by
  intro  H locs ls h hP hD hS hl
  unfold F_X10_says_96 at h
  have hx := S.1
  have hb := S.2.1
  refine lv_iload_n hx hb dX10_says_96 rfl (lv_at hl 1 rfl) ?_
  refine lv_iconst (v := 2) hx hb dX10_says_97 (by decide) ?_
  refine lv_icmp_ne (tgt := 107) hx hb dX10_says_98 (by decide) (fun hc => ?_) (fun hc => ?_)
  · have h := h.2 hc
    refine lv_aload_n hx hb dX10_says_107 rfl (lv_at hl 0 rfl) ?_
    refine lv_bipush (v := (-2)) hx hb dX10_says_108 (by decide) ?_
    refine rw_i (rwV S hE hT hS hP hD hA (c_X10_no h) [0, 4] rfl (by decide +kernel) lkX10_121 rfl ⟨(Nat.le_of_ble_eq_true rfl), (Nat.le_of_ble_eq_true rfl)⟩ 0 rfl rfl hl.1 rfl (Nat.le_of_ble_eq_true rfl) dX10_says_110 ⟨(Nat.zero_le _), (Nat.zero_le _)⟩) hP hD hS hA [0, 4] rfl (by decide +kernel) (fun _ => rfl) (fun r110 w110_0 H locs h hP hD hS => ?_)
    try dsimp only at h
    have hP : va_P D vwCl (wX10_says cI cJ cS a_o a_held a_kind a_other a_refused a_shown a_space a_times z_steps z_speed z_base z_share z_notes z_pitch z_beats z_sort z_size z_cells z_carried z_words z_tell z_was z_kept z_cutSpace z_cutTimes z_cutOff z_trace v_stretches v_cars v_tunes v_along v_near v_borne v_tempo v_seed v_fault v_from v_at v_end v_told v_wrongAt v_culprit v_ran v_isKept f_held f_kind f_other w110_0 f_shown f_space f_times) H := hP
    have hD : va_D A (wX10_says cI cJ cS a_o a_held a_kind a_other a_refused a_shown a_space a_times z_steps z_speed z_base z_share z_notes z_pitch z_beats z_sort z_size z_cells z_carried z_words z_tell z_was z_kept z_cutSpace z_cutTimes z_cutOff z_trace v_stretches v_cars v_tunes v_along v_near v_borne v_tempo v_seed v_fault v_from v_at v_end v_told v_wrongAt v_culprit v_ran v_isKept f_held f_kind f_other w110_0 f_shown f_space f_times) := hD
    exact W.iret hx hb hr (fun t ht _ => ⟨⟨_, w110_0, rfl, h, hPt hP ht⟩, hS.F ht⟩) hS.2.2 dX10_says_113
  have h := h.1 hc
  refine lv_iload hx hb dX10_says_101 (lv_at hl 3 rfl) ?_
  refine lv_iconst (v := 5) hx hb dX10_says_103 (by decide) ?_
  refine lv_icmp_eq (tgt := 114) hx hb dX10_says_104 (by decide) (fun hc => ?_) (fun hc => ?_)
  · have h := h.1 hc
    refine w_X10_says_114 S hE hT hA hr hlocks _ _ _ h hP hD hS (lv_sub hl [0, 1, 2] rfl)
  have h := h.2 hc
  refine lv_aload_n hx hb dX10_says_107 rfl (lv_at hl 0 rfl) ?_
  refine lv_bipush (v := (-2)) hx hb dX10_says_108 (by decide) ?_
  refine rw_i (rwV S hE hT hS hP hD hA (c_X10_no h) [0, 4] rfl (by decide +kernel) lkX10_121 rfl ⟨(Nat.le_of_ble_eq_true rfl), (Nat.le_of_ble_eq_true rfl)⟩ 0 rfl rfl hl.1 rfl (Nat.le_of_ble_eq_true rfl) dX10_says_110 ⟨(Nat.zero_le _), (Nat.zero_le _)⟩) hP hD hS hA [0, 4] rfl (by decide +kernel) (fun _ => rfl) (fun r110 w110_0 H locs h hP hD hS => ?_)
  try dsimp only at h
  have hP : va_P D vwCl (wX10_says cI cJ cS a_o a_held a_kind a_other a_refused a_shown a_space a_times z_steps z_speed z_base z_share z_notes z_pitch z_beats z_sort z_size z_cells z_carried z_words z_tell z_was z_kept z_cutSpace z_cutTimes z_cutOff z_trace v_stretches v_cars v_tunes v_along v_near v_borne v_tempo v_seed v_fault v_from v_at v_end v_told v_wrongAt v_culprit v_ran v_isKept f_held f_kind f_other w110_0 f_shown f_space f_times) H := hP
  have hD : va_D A (wX10_says cI cJ cS a_o a_held a_kind a_other a_refused a_shown a_space a_times z_steps z_speed z_base z_share z_notes z_pitch z_beats z_sort z_size z_cells z_carried z_words z_tell z_was z_kept z_cutSpace z_cutTimes z_cutOff z_trace v_stretches v_cars v_tunes v_along v_near v_borne v_tempo v_seed v_fault v_from v_at v_end v_told v_wrongAt v_culprit v_ran v_isKept f_held f_kind f_other w110_0 f_shown f_space f_times) := hD
  exact W.iret hx hb hr (fun t ht _ => ⟨⟨_, w110_0, rfl, h, hPt hP ht⟩, hS.F ht⟩) hS.2.2 dX10_says_113
set_option maxHeartbeats 4000000 in
set_option maxRecDepth 100000 in
theorem c_X10_says {l : Launch} {D : va_G} {cI cJ cS : ClassId} {ad adK : Nat → Nat} {a_o a_held a_kind a_other a_refused a_shown a_space a_times : Nat} {z_steps z_speed z_base z_share z_notes z_pitch z_beats z_sort z_size z_cells z_carried z_words z_tell z_was z_kept z_cutSpace z_cutTimes z_cutOff z_trace : Value} {v_stretches : Int32} {v_cars : Int32} {v_tunes : Int32} {v_along : Int32} {v_near : Int32} {v_borne : Int32} {v_tempo : Int32} {v_seed : Int32} {v_fault : Int32} {v_from : Int32} {v_at : Int32} {v_end : Int32} {v_told : Int32} {v_wrongAt : Int32} {v_culprit : Int32} {v_ran : Int32} {v_isKept : Int32} {f_held : Nat → Int32} {f_kind : Nat → Int32} {f_other : Nat → Int32} {f_refused : Nat → Int32} {f_shown : Nat → Int32} {f_space : Nat → Int32} {f_times : Nat → Int32} {x1 : Int32} {x2 : Int32} {post : Int32 → (Nat → Int32) → Prop} (h : F_X10_says f_held f_kind f_other f_refused f_shown f_space f_times x1 x2 post) {sz : Nat} : Met l yX10_says (Cond.code yX10_says cX10_says 5 (some (.int)) :: GW) (rmd 2 0 0) (PW D cI cJ cS ad adK [.ref a_o, .int x1, .int x2] (wX10_says cI cJ cS a_o a_held a_kind a_other a_refused a_shown a_space a_times z_steps z_speed z_base z_share z_notes z_pitch z_beats z_sort z_size z_cells z_carried z_words z_tell z_was z_kept z_cutSpace z_cutTimes z_cutOff z_trace v_stretches v_cars v_tunes v_along v_near v_borne v_tempo v_seed v_fault v_from v_at v_end v_told v_wrongAt v_culprit v_ran v_isKept f_held f_kind f_other f_refused f_shown f_space f_times) sz) (va_Qi (fun r (u : (Nat → Int32)) => post r u) (fun u t => va_P D vwCl (wX10_says cI cJ cS a_o a_held a_kind a_other a_refused a_shown a_space a_times z_steps z_speed z_base z_share z_notes z_pitch z_beats z_sort z_size z_cells z_carried z_words z_tell z_was z_kept z_cutSpace z_cutTimes z_cutOff z_trace v_stretches v_cars v_tunes v_along v_near v_borne v_tempo v_seed v_fault v_from v_at v_end v_told v_wrongAt v_culprit v_ran v_isKept f_held f_kind f_other u f_shown f_space f_times) t.heap) (va_A (wX10_says cI cJ cS a_o a_held a_kind a_other a_refused a_shown a_space a_times z_steps z_speed z_base z_share z_notes z_pitch z_beats z_sort z_size z_cells z_carried z_words z_tell z_was z_kept z_cutSpace z_cutTimes z_cutOff z_trace v_stretches v_cars v_tunes v_along v_near v_borne v_tempo v_seed v_fault v_from v_at v_end v_told v_wrongAt v_culprit v_ran v_isKept f_held f_kind f_other f_refused f_shown f_space f_times) sz)) 0 0 (va_A (wX10_says cI cJ cS a_o a_held a_kind a_other a_refused a_shown a_space a_times z_steps z_speed z_base z_share z_notes z_pitch z_beats z_sort z_size z_cells z_carried z_words z_tell z_was z_kept z_cutSpace z_cutTimes z_cutOff z_trace v_stretches v_cars v_tunes v_along v_near v_borne v_tempo v_seed v_fault v_from v_at v_end v_told v_wrongAt v_culprit v_ran v_isKept f_held f_kind f_other f_refused f_shown f_space f_times) sz) := by
  refine Met.rw (Qc := fun A => (va_Qi (fun r (u : (Nat → Int32)) => post r u) (fun u t => va_P D vwCl (wX10_says cI cJ cS a_o a_held a_kind a_other a_refused a_shown a_space a_times z_steps z_speed z_base z_share z_notes z_pitch z_beats z_sort z_size z_cells z_carried z_words z_tell z_was z_kept z_cutSpace z_cutTimes z_cutOff z_trace v_stretches v_cars v_tunes v_along v_near v_borne v_tempo v_seed v_fault v_from v_at v_end v_told v_wrongAt v_culprit v_ran v_isKept f_held f_kind f_other u f_shown f_space f_times) t.heap) A)) (by decide) (Nat.le_of_ble_eq_true rfl) (fun p e s m args below meth c ls A (S : CallFix p m c cX10_says 5 s args GW "RoadThatSingsModel") hE hT hP hD hA hS hr hlocks hname hl => ?_)
  have hS0 := hS
  have hx := S.1
  have hb := S.2.1
  have hl : lv_has ls 5 [(0, .ref a_o), (1, .int x1), (2, .int x2)] := hl
  unfold F_X10_says at h
  refine lv_aload_n hx hb dX10_says_0 rfl (lv_at hl 0 rfl) ?_
  refine lv_iload_n hx hb dX10_says_1 rfl (lv_at hl 1 rfl) ?_
  refine ro_i (roV S hE hT hS (c_X10_isShelf h) lkX10_117 rfl ⟨(Nat.le_of_ble_eq_true rfl), (Nat.le_of_ble_eq_true rfl)⟩ (hP.sub [0] rfl) 0 rfl rfl hl.1 rfl (Nat.le_of_ble_eq_true rfl) dX10_says_2 ⟨(Nat.zero_le _), (Nat.zero_le _)⟩) (fun r2 h => ?_)
  refine lv_if_eq (tgt := 18) hx hb dX10_says_5 (by decide) (fun hc => ?_) (fun hc => ?_)
  · have h := h.1 hc
    refine lv_aload_n hx hb dX10_says_18 rfl (lv_at hl 0 rfl) ?_
    refine lv_iconst (v := (-1)) hx hb dX10_says_19 (by decide) ?_
    refine rw_i (rwV S hE hT hS hP hD hA (c_X10_no h) [0, 4] rfl (by decide +kernel) lkX10_121 rfl ⟨(Nat.le_of_ble_eq_true rfl), (Nat.le_of_ble_eq_true rfl)⟩ 0 rfl rfl hl.1 rfl (Nat.le_of_ble_eq_true rfl) dX10_says_20 ⟨(Nat.zero_le _), (Nat.zero_le _)⟩) hP hD hS hA [0, 4] rfl (by decide +kernel) (fun _ => rfl) (fun r20 w20_0 H locs h hP hD hS => ?_)
    try dsimp only at h
    have hP : va_P D vwCl (wX10_says cI cJ cS a_o a_held a_kind a_other a_refused a_shown a_space a_times z_steps z_speed z_base z_share z_notes z_pitch z_beats z_sort z_size z_cells z_carried z_words z_tell z_was z_kept z_cutSpace z_cutTimes z_cutOff z_trace v_stretches v_cars v_tunes v_along v_near v_borne v_tempo v_seed v_fault v_from v_at v_end v_told v_wrongAt v_culprit v_ran v_isKept f_held f_kind f_other w20_0 f_shown f_space f_times) H := hP
    have hD : va_D A (wX10_says cI cJ cS a_o a_held a_kind a_other a_refused a_shown a_space a_times z_steps z_speed z_base z_share z_notes z_pitch z_beats z_sort z_size z_cells z_carried z_words z_tell z_was z_kept z_cutSpace z_cutTimes z_cutOff z_trace v_stretches v_cars v_tunes v_along v_near v_borne v_tempo v_seed v_fault v_from v_at v_end v_told v_wrongAt v_culprit v_ran v_isKept f_held f_kind f_other w20_0 f_shown f_space f_times) := hD
    exact W.iret hx hb hr (fun t ht _ => ⟨⟨_, w20_0, rfl, h, hPt hP ht⟩, hS.F ht⟩) hS.2.2 dX10_says_23
  have h := h.2 hc
  refine lv_iload_n hx hb dX10_says_8 rfl (lv_at hl 2 rfl) ?_
  refine lv_if_lt (tgt := 18) hx hb dX10_says_9 (by decide) (fun hc => ?_) (fun hc => ?_)
  · have h := h.1 hc
    refine lv_aload_n hx hb dX10_says_18 rfl (lv_at hl 0 rfl) ?_
    refine lv_iconst (v := (-1)) hx hb dX10_says_19 (by decide) ?_
    refine rw_i (rwV S hE hT hS hP hD hA (c_X10_no h) [0, 4] rfl (by decide +kernel) lkX10_121 rfl ⟨(Nat.le_of_ble_eq_true rfl), (Nat.le_of_ble_eq_true rfl)⟩ 0 rfl rfl hl.1 rfl (Nat.le_of_ble_eq_true rfl) dX10_says_20 ⟨(Nat.zero_le _), (Nat.zero_le _)⟩) hP hD hS hA [0, 4] rfl (by decide +kernel) (fun _ => rfl) (fun r20 w20_0 H locs h hP hD hS => ?_)
    try dsimp only at h
    have hP : va_P D vwCl (wX10_says cI cJ cS a_o a_held a_kind a_other a_refused a_shown a_space a_times z_steps z_speed z_base z_share z_notes z_pitch z_beats z_sort z_size z_cells z_carried z_words z_tell z_was z_kept z_cutSpace z_cutTimes z_cutOff z_trace v_stretches v_cars v_tunes v_along v_near v_borne v_tempo v_seed v_fault v_from v_at v_end v_told v_wrongAt v_culprit v_ran v_isKept f_held f_kind f_other w20_0 f_shown f_space f_times) H := hP
    have hD : va_D A (wX10_says cI cJ cS a_o a_held a_kind a_other a_refused a_shown a_space a_times z_steps z_speed z_base z_share z_notes z_pitch z_beats z_sort z_size z_cells z_carried z_words z_tell z_was z_kept z_cutSpace z_cutTimes z_cutOff z_trace v_stretches v_cars v_tunes v_along v_near v_borne v_tempo v_seed v_fault v_from v_at v_end v_told v_wrongAt v_culprit v_ran v_isKept f_held f_kind f_other w20_0 f_shown f_space f_times) := hD
    exact W.iret hx hb hr (fun t ht _ => ⟨⟨_, w20_0, rfl, h, hPt hP ht⟩, hS.F ht⟩) hS.2.2 dX10_says_23
  have h := h.2 hc
  refine lv_iload_n hx hb dX10_says_12 rfl (lv_at hl 2 rfl) ?_
  refine lv_bipush (v := 6) hx hb dX10_says_13 (by decide) ?_
  refine lv_icmp_le (tgt := 24) hx hb dX10_says_15 (by decide) (fun hc => ?_) (fun hc => ?_)
  · have h := h.1 hc
    refine lv_aload_n hx hb dX10_says_24 rfl (lv_at hl 0 rfl) ?_
    refine gf S hE hP 0 rfl rfl inX10 (k := 21) (by decide) q1114 rfl dX10_says_25 ?_
    refine lv_iload_n hx hb dX10_says_28 rfl (lv_at hl 1 rfl) ?_
    obtain ⟨hi, h⟩ := h
    refine ial S hE hP 1 rfl hi dX10_says_29 ?_
    refine lv_iconst (v := 1) hx hb dX10_says_30 (by decide) ?_
    refine lv_icmp_ne (tgt := 41) hx hb dX10_says_31 (by decide) (fun hc => ?_) (fun hc => ?_)
    · have h := h.2 hc
      refine lv_aload_n hx hb dX10_says_41 rfl (lv_at hl 0 rfl) ?_
      refine gf S hE hP 0 rfl rfl inX10 (k := 21) (by decide) q1114 rfl dX10_says_42 ?_
      refine lv_iload_n hx hb dX10_says_45 rfl (lv_at hl 1 rfl) ?_
      obtain ⟨hi, h⟩ := h
      refine ial S hE hP 1 rfl hi dX10_says_46 ?_
      refine lv_if_ne (tgt := 57) hx hb dX10_says_47 (by decide) (fun hc => ?_) (fun hc => ?_)
      · have h := h.2 hc
        refine lv_aload_n hx hb dX10_says_57 rfl (lv_at hl 0 rfl) ?_
        refine gf S hE hP 0 rfl rfl inX10 (k := 24) (by decide) q1117 rfl dX10_says_58 ?_
        refine lv_iload_n hx hb dX10_says_61 rfl (lv_at hl 1 rfl) ?_
        obtain ⟨hi, h⟩ := h
        refine ial S hE hP 5 rfl hi dX10_says_62 ?_
        refine lv_topi (fun x3_63 ex3_63 => ?_)
        have h := h _ ex3_63
        refine lv_istore_n (lv' := [(3, .int x3_63), (0, .ref a_o), (1, .int x1), (2, .int x2)]) hx hb dX10_says_63 rfl hl (by decide) rfl (fun ls hl => ?_)
        refine lv_aload_n hx hb dX10_says_64 rfl (lv_at hl 1 rfl) ?_
        refine gf S hE hP 0 rfl rfl inX10 (k := 11) (by decide) q1104 rfl dX10_says_65 ?_
        refine lv_iload_n hx hb dX10_says_68 rfl (lv_at hl 0 rfl) ?_
        obtain ⟨hi, h⟩ := h
        refine ial S hE hP 2 rfl hi dX10_says_69 ?_
        refine lv_topi (fun x4_70 ex4_70 => ?_)
        have h := h _ ex4_70
        refine lv_istore (lv' := [(4, .int x4_70), (3, .int x3_63), (0, .ref a_o), (1, .int x1), (2, .int x2)]) hx hb dX10_says_70 hl (by decide) rfl (fun ls hl => ?_)
        refine lv_iload_n hx hb dX10_says_72 rfl (lv_at hl 4 rfl) ?_
        refine lv_if_eq (tgt := 114) hx hb dX10_says_73 (by decide) (fun hc => ?_) (fun hc => ?_)
        · have h := h.1 hc
          refine w_X10_says_114 S hE hT hA hr hlocks _ _ _ h hP hD hS (lv_sub hl [2, 4, 1] rfl)
        have h := h.2 hc
        refine lv_iload_n hx hb dX10_says_76 rfl (lv_at hl 4 rfl) ?_
        refine lv_iload hx hb dX10_says_77 (lv_at hl 0 rfl) ?_
        refine lv_icmp_eq (tgt := 114) hx hb dX10_says_79 (by decide) (fun hc => ?_) (fun hc => ?_)
        · have h := h.1 hc
          refine w_X10_says_114 S hE hT hA hr hlocks _ _ _ h hP hD hS (lv_sub hl [2, 4, 1] rfl)
        have h := h.2 hc
        refine lv_iload_n hx hb dX10_says_82 rfl (lv_at hl 4 rfl) ?_
        refine lv_iconst (v := 1) hx hb dX10_says_83 (by decide) ?_
        refine lv_icmp_ne (tgt := 96) hx hb dX10_says_84 (by decide) (fun hc => ?_) (fun hc => ?_)
        · have h := h.2 hc
          refine w_X10_says_96 S hE hT hA hr hlocks _ _ _ h hP hD hS (lv_sub hl [2, 4, 1, 0] rfl)
        have h := h.1 hc
        refine lv_aload_n hx hb dX10_says_87 rfl (lv_at hl 2 rfl) ?_
        refine lv_iload hx hb dX10_says_88 (lv_at hl 0 rfl) ?_
        refine ro_i (roV S hE hT hS (c_X10_isEven h) lkX10_128 rfl ⟨(Nat.le_of_ble_eq_true rfl), (Nat.le_of_ble_eq_true rfl)⟩ (hP.sub [0] rfl) 0 rfl rfl hl.1 rfl (Nat.le_of_ble_eq_true rfl) dX10_says_90 ⟨(Nat.zero_le _), (Nat.zero_le _)⟩) (fun r90 h => ?_)
        refine lv_if_ne (tgt := 114) hx hb dX10_says_93 (by decide) (fun hc => ?_) (fun hc => ?_)
        · have h := h.2 hc
          refine w_X10_says_114 S hE hT hA hr hlocks _ _ _ h hP hD hS (lv_sub hl [2, 4, 1] rfl)
        have h := h.1 hc
        refine w_X10_says_96 S hE hT hA hr hlocks _ _ _ h hP hD hS (lv_sub hl [2, 4, 1, 0] rfl)
      have h := h.1 hc
      refine lv_aload_n hx hb dX10_says_50 rfl (lv_at hl 0 rfl) ?_
      refine lv_bipush (v := (-3)) hx hb dX10_says_51 (by decide) ?_
      refine rw_i (rwV S hE hT hS hP hD hA (c_X10_no h) [0, 4] rfl (by decide +kernel) lkX10_121 rfl ⟨(Nat.le_of_ble_eq_true rfl), (Nat.le_of_ble_eq_true rfl)⟩ 0 rfl rfl hl.1 rfl (Nat.le_of_ble_eq_true rfl) dX10_says_53 ⟨(Nat.zero_le _), (Nat.zero_le _)⟩) hP hD hS hA [0, 4] rfl (by decide +kernel) (fun _ => rfl) (fun r53 w53_0 H locs h hP hD hS => ?_)
      try dsimp only at h
      have hP : va_P D vwCl (wX10_says cI cJ cS a_o a_held a_kind a_other a_refused a_shown a_space a_times z_steps z_speed z_base z_share z_notes z_pitch z_beats z_sort z_size z_cells z_carried z_words z_tell z_was z_kept z_cutSpace z_cutTimes z_cutOff z_trace v_stretches v_cars v_tunes v_along v_near v_borne v_tempo v_seed v_fault v_from v_at v_end v_told v_wrongAt v_culprit v_ran v_isKept f_held f_kind f_other w53_0 f_shown f_space f_times) H := hP
      have hD : va_D A (wX10_says cI cJ cS a_o a_held a_kind a_other a_refused a_shown a_space a_times z_steps z_speed z_base z_share z_notes z_pitch z_beats z_sort z_size z_cells z_carried z_words z_tell z_was z_kept z_cutSpace z_cutTimes z_cutOff z_trace v_stretches v_cars v_tunes v_along v_near v_borne v_tempo v_seed v_fault v_from v_at v_end v_told v_wrongAt v_culprit v_ran v_isKept f_held f_kind f_other w53_0 f_shown f_space f_times) := hD
      exact W.iret hx hb hr (fun t ht _ => ⟨⟨_, w53_0, rfl, h, hPt hP ht⟩, hS.F ht⟩) hS.2.2 dX10_says_56
    have h := h.1 hc
    refine lv_aload_n hx hb dX10_says_34 rfl (lv_at hl 0 rfl) ?_
    refine lv_bipush (v := (-2)) hx hb dX10_says_35 (by decide) ?_
    refine rw_i (rwV S hE hT hS hP hD hA (c_X10_no h) [0, 4] rfl (by decide +kernel) lkX10_121 rfl ⟨(Nat.le_of_ble_eq_true rfl), (Nat.le_of_ble_eq_true rfl)⟩ 0 rfl rfl hl.1 rfl (Nat.le_of_ble_eq_true rfl) dX10_says_37 ⟨(Nat.zero_le _), (Nat.zero_le _)⟩) hP hD hS hA [0, 4] rfl (by decide +kernel) (fun _ => rfl) (fun r37 w37_0 H locs h hP hD hS => ?_)
    try dsimp only at h
    have hP : va_P D vwCl (wX10_says cI cJ cS a_o a_held a_kind a_other a_refused a_shown a_space a_times z_steps z_speed z_base z_share z_notes z_pitch z_beats z_sort z_size z_cells z_carried z_words z_tell z_was z_kept z_cutSpace z_cutTimes z_cutOff z_trace v_stretches v_cars v_tunes v_along v_near v_borne v_tempo v_seed v_fault v_from v_at v_end v_told v_wrongAt v_culprit v_ran v_isKept f_held f_kind f_other w37_0 f_shown f_space f_times) H := hP
    have hD : va_D A (wX10_says cI cJ cS a_o a_held a_kind a_other a_refused a_shown a_space a_times z_steps z_speed z_base z_share z_notes z_pitch z_beats z_sort z_size z_cells z_carried z_words z_tell z_was z_kept z_cutSpace z_cutTimes z_cutOff z_trace v_stretches v_cars v_tunes v_along v_near v_borne v_tempo v_seed v_fault v_from v_at v_end v_told v_wrongAt v_culprit v_ran v_isKept f_held f_kind f_other w37_0 f_shown f_space f_times) := hD
    exact W.iret hx hb hr (fun t ht _ => ⟨⟨_, w37_0, rfl, h, hPt hP ht⟩, hS.F ht⟩) hS.2.2 dX10_says_40
  have h := h.2 hc
  refine lv_aload_n hx hb dX10_says_18 rfl (lv_at hl 0 rfl) ?_
  refine lv_iconst (v := (-1)) hx hb dX10_says_19 (by decide) ?_
  refine rw_i (rwV S hE hT hS hP hD hA (c_X10_no h) [0, 4] rfl (by decide +kernel) lkX10_121 rfl ⟨(Nat.le_of_ble_eq_true rfl), (Nat.le_of_ble_eq_true rfl)⟩ 0 rfl rfl hl.1 rfl (Nat.le_of_ble_eq_true rfl) dX10_says_20 ⟨(Nat.zero_le _), (Nat.zero_le _)⟩) hP hD hS hA [0, 4] rfl (by decide +kernel) (fun _ => rfl) (fun r20 w20_0 H locs h hP hD hS => ?_)
  try dsimp only at h
  have hP : va_P D vwCl (wX10_says cI cJ cS a_o a_held a_kind a_other a_refused a_shown a_space a_times z_steps z_speed z_base z_share z_notes z_pitch z_beats z_sort z_size z_cells z_carried z_words z_tell z_was z_kept z_cutSpace z_cutTimes z_cutOff z_trace v_stretches v_cars v_tunes v_along v_near v_borne v_tempo v_seed v_fault v_from v_at v_end v_told v_wrongAt v_culprit v_ran v_isKept f_held f_kind f_other w20_0 f_shown f_space f_times) H := hP
  have hD : va_D A (wX10_says cI cJ cS a_o a_held a_kind a_other a_refused a_shown a_space a_times z_steps z_speed z_base z_share z_notes z_pitch z_beats z_sort z_size z_cells z_carried z_words z_tell z_was z_kept z_cutSpace z_cutTimes z_cutOff z_trace v_stretches v_cars v_tunes v_along v_near v_borne v_tempo v_seed v_fault v_from v_at v_end v_told v_wrongAt v_culprit v_ran v_isKept f_held f_kind f_other w20_0 f_shown f_space f_times) := hD
  exact W.iret hx hb hr (fun t ht _ => ⟨⟨_, w20_0, rfl, h, hPt hP ht⟩, hS.F ht⟩) hS.2.2 dX10_says_23
/-! X10_wants -/
abbrev wX10_wants (cI cJ cS : ClassId) (a_o a_held : Nat) (z_refused z_steps z_kind z_space z_other z_times z_speed z_base z_share z_notes z_pitch z_beats z_sort z_size z_shown z_cells z_carried z_words z_tell z_was z_kept z_cutSpace z_cutTimes z_cutOff z_trace : Value) (v_stretches : Int32) (v_cars : Int32) (v_tunes : Int32) (v_along : Int32) (v_near : Int32) (v_borne : Int32) (v_tempo : Int32) (v_seed : Int32) (v_fault : Int32) (v_from : Int32) (v_at : Int32) (v_end : Int32) (v_told : Int32) (v_wrongAt : Int32) (v_culprit : Int32) (v_ran : Int32) (v_isKept : Int32) (f_held : Nat → Int32) : va_W := [(a_o, .inr (9, [.int v_stretches, .int v_cars, .int v_tunes, .int v_along, .int v_near, .int v_borne, .int v_tempo, .int v_seed, .int v_fault, z_refused, z_steps, z_kind, z_space, z_other, z_times, z_speed, z_base, z_share, z_notes, z_pitch, z_beats, .ref a_held, z_sort, z_size, z_shown, z_cells, z_carried, z_words, z_tell, .int v_from, .int v_at, .int v_end, .int v_told, .int v_wrongAt, z_was, z_kept, .int v_culprit, z_cutSpace, z_cutTimes, z_cutOff, z_trace, .int v_ran, .int v_isKept])), (a_held, .inl (cI, 8, .inl f_held))]
def F_X10_wants (f_held : Nat → Int32) (x1 : Int32) (post : Int32 → Prop) : Prop := (F_X10_isShelf x1 (fun r2 => ((r2 = 0 → post (-1)) ∧ (¬ r2 = 0 → (vp_in x1 8 ∧ (((f_held x1.toNatClampNeg) = 2 → post (-2)) ∧ (¬ (f_held x1.toNatClampNeg) = 2 → (vp_in x1 8 ∧ (((f_held x1.toNatClampNeg) = 0 → post (-3)) ∧ (¬ (f_held x1.toNatClampNeg) = 0 → post 0))))))))))
set_option maxHeartbeats 4000000 in
set_option maxRecDepth 100000 in
theorem c_X10_wants {l : Launch} {D : va_G} {cI cJ cS : ClassId} {ad adK : Nat → Nat} {a_o a_held : Nat} {z_refused z_steps z_kind z_space z_other z_times z_speed z_base z_share z_notes z_pitch z_beats z_sort z_size z_shown z_cells z_carried z_words z_tell z_was z_kept z_cutSpace z_cutTimes z_cutOff z_trace : Value} {v_stretches : Int32} {v_cars : Int32} {v_tunes : Int32} {v_along : Int32} {v_near : Int32} {v_borne : Int32} {v_tempo : Int32} {v_seed : Int32} {v_fault : Int32} {v_from : Int32} {v_at : Int32} {v_end : Int32} {v_told : Int32} {v_wrongAt : Int32} {v_culprit : Int32} {v_ran : Int32} {v_isKept : Int32} {f_held : Nat → Int32} {x1 : Int32} {post : Int32 → Prop} (h : F_X10_wants f_held x1 post) : Met l yX10_wants (Cond.code yX10_wants cX10_wants 2 (some (.int)) :: GW) (rmd 1 0 0) (PR D cI cJ cS ad adK [.ref a_o, .int x1] (wX10_wants cI cJ cS a_o a_held z_refused z_steps z_kind z_space z_other z_times z_speed z_base z_share z_notes z_pitch z_beats z_sort z_size z_shown z_cells z_carried z_words z_tell z_was z_kept z_cutSpace z_cutTimes z_cutOff z_trace v_stretches v_cars v_tunes v_along v_near v_borne v_tempo v_seed v_fault v_from v_at v_end v_told v_wrongAt v_culprit v_ran v_isKept f_held)) (vp_Si post) 0 0 nof := by
  refine Met.ro (by decide) (Nat.le_of_ble_eq_true rfl) (fun p e s m args below meth c ls (S : CallFix p m c cX10_wants 2 s args GW "RoadThatSingsModel") hE hT hP hS hr hlocks hl => ?_)
  have hx := S.1
  have hb := S.2.1
  have hl : lv_has ls 2 [(0, .ref a_o), (1, .int x1)] := hl
  unfold F_X10_wants at h
  refine lv_aload_n hx hb dX10_wants_0 rfl (lv_at hl 0 rfl) ?_
  refine lv_iload_n hx hb dX10_wants_1 rfl (lv_at hl 1 rfl) ?_
  refine ro_i (roV S hE hT hS (c_X10_isShelf h) lkX10_117 rfl ⟨(Nat.le_of_ble_eq_true rfl), (Nat.le_of_ble_eq_true rfl)⟩ (hP.sub [0] rfl) 0 rfl rfl hl.1 rfl (Nat.le_of_ble_eq_true rfl) dX10_wants_2 ⟨(Nat.zero_le _), (Nat.zero_le _)⟩) (fun r2 h => ?_)
  refine lv_if_ne (tgt := 12) hx hb dX10_wants_5 (by decide) (fun hc => ?_) (fun hc => ?_)
  · have h := h.2 hc
    refine lv_aload_n hx hb dX10_wants_12 rfl (lv_at hl 0 rfl) ?_
    refine gf S hE hP 0 rfl rfl inX10 (k := 21) (by decide) q1114 rfl dX10_wants_13 ?_
    refine lv_iload_n hx hb dX10_wants_16 rfl (lv_at hl 1 rfl) ?_
    obtain ⟨hi, h⟩ := h
    refine ial S hE hP 1 rfl hi dX10_wants_17 ?_
    refine lv_iconst (v := 2) hx hb dX10_wants_18 (by decide) ?_
    refine lv_icmp_ne (tgt := 27) hx hb dX10_wants_19 (by decide) (fun hc => ?_) (fun hc => ?_)
    · have h := h.2 hc
      refine lv_aload_n hx hb dX10_wants_27 rfl (lv_at hl 0 rfl) ?_
      refine gf S hE hP 0 rfl rfl inX10 (k := 21) (by decide) q1114 rfl dX10_wants_28 ?_
      refine lv_iload_n hx hb dX10_wants_31 rfl (lv_at hl 1 rfl) ?_
      obtain ⟨hi, h⟩ := h
      refine ial S hE hP 1 rfl hi dX10_wants_32 ?_
      refine lv_if_ne (tgt := 41) hx hb dX10_wants_33 (by decide) (fun hc => ?_) (fun hc => ?_)
      · have h := h.2 hc
        refine lv_iconst (v := 0) hx hb dX10_wants_41 (by decide) ?_
        exact W.iret hx hb hr (fun t ht _ => ⟨_, rfl, h, ht⟩) (fun _ hq => by cases hq) dX10_wants_42
      have h := h.1 hc
      refine lv_bipush (v := (-3)) hx hb dX10_wants_36 (by decide) ?_
      refine lv_goto (tgt := 42) hx hb dX10_wants_38 (by decide) ?_
      exact W.iret hx hb hr (fun t ht _ => ⟨_, rfl, h, ht⟩) (fun _ hq => by cases hq) dX10_wants_42
    have h := h.1 hc
    refine lv_bipush (v := (-2)) hx hb dX10_wants_22 (by decide) ?_
    refine lv_goto (tgt := 42) hx hb dX10_wants_24 (by decide) ?_
    exact W.iret hx hb hr (fun t ht _ => ⟨_, rfl, h, ht⟩) (fun _ hq => by cases hq) dX10_wants_42
  have h := h.1 hc
  refine lv_iconst (v := (-1)) hx hb dX10_wants_8 (by decide) ?_
  refine lv_goto (tgt := 42) hx hb dX10_wants_9 (by decide) ?_
  exact W.iret hx hb hr (fun t ht _ => ⟨_, rfl, h, ht⟩) (fun _ hq => by cases hq) dX10_wants_42
/-! X10_intAt -/
abbrev wX10_intAt (cI cJ cS : ClassId) (a_o a_cells : Nat) (z_refused z_steps z_kind z_space z_other z_times z_speed z_base z_share z_notes z_pitch z_beats z_held z_sort z_size z_shown z_carried z_words z_tell z_was z_kept z_cutSpace z_cutTimes z_cutOff z_trace : Value) (v_stretches : Int32) (v_cars : Int32) (v_tunes : Int32) (v_along : Int32) (v_near : Int32) (v_borne : Int32) (v_tempo : Int32) (v_seed : Int32) (v_fault : Int32) (v_from : Int32) (v_at : Int32) (v_end : Int32) (v_told : Int32) (v_wrongAt : Int32) (v_culprit : Int32) (v_ran : Int32) (v_isKept : Int32) (g_cells : Nat → Int64) : va_W := [(a_o, .inr (9, [.int v_stretches, .int v_cars, .int v_tunes, .int v_along, .int v_near, .int v_borne, .int v_tempo, .int v_seed, .int v_fault, z_refused, z_steps, z_kind, z_space, z_other, z_times, z_speed, z_base, z_share, z_notes, z_pitch, z_beats, z_held, z_sort, z_size, z_shown, .ref a_cells, z_carried, z_words, z_tell, .int v_from, .int v_at, .int v_end, .int v_told, .int v_wrongAt, z_was, z_kept, .int v_culprit, z_cutSpace, z_cutTimes, z_cutOff, z_trace, .int v_ran, .int v_isKept])), (a_cells, .inl (cJ, 1280, .inr (.inl g_cells)))]
def F_X10_intAt (g_cells : Nat → Int64) (x1 : Int32) (x2 : Int32) (post : Int32 → Prop) : Prop := (vp_in ((160 * x1) + x2) 1280 ∧ post ((g_cells ((160 * x1) + x2).toNatClampNeg).toInt32))
set_option maxHeartbeats 4000000 in
set_option maxRecDepth 100000 in
theorem c_X10_intAt {l : Launch} {D : va_G} {cI cJ cS : ClassId} {ad adK : Nat → Nat} {a_o a_cells : Nat} {z_refused z_steps z_kind z_space z_other z_times z_speed z_base z_share z_notes z_pitch z_beats z_held z_sort z_size z_shown z_carried z_words z_tell z_was z_kept z_cutSpace z_cutTimes z_cutOff z_trace : Value} {v_stretches : Int32} {v_cars : Int32} {v_tunes : Int32} {v_along : Int32} {v_near : Int32} {v_borne : Int32} {v_tempo : Int32} {v_seed : Int32} {v_fault : Int32} {v_from : Int32} {v_at : Int32} {v_end : Int32} {v_told : Int32} {v_wrongAt : Int32} {v_culprit : Int32} {v_ran : Int32} {v_isKept : Int32} {g_cells : Nat → Int64} {x1 : Int32} {x2 : Int32} {post : Int32 → Prop} (h : F_X10_intAt g_cells x1 x2 post) : Met l yX10_intAt (Cond.code yX10_intAt cX10_intAt 3 (some (.int)) :: GW) (rmd 0 0 0) (PR D cI cJ cS ad adK [.ref a_o, .int x1, .int x2] (wX10_intAt cI cJ cS a_o a_cells z_refused z_steps z_kind z_space z_other z_times z_speed z_base z_share z_notes z_pitch z_beats z_held z_sort z_size z_shown z_carried z_words z_tell z_was z_kept z_cutSpace z_cutTimes z_cutOff z_trace v_stretches v_cars v_tunes v_along v_near v_borne v_tempo v_seed v_fault v_from v_at v_end v_told v_wrongAt v_culprit v_ran v_isKept g_cells)) (vp_Si post) 0 0 nof := by
  refine Met.ro (by decide) (Nat.le_of_ble_eq_true rfl) (fun p e s m args below meth c ls (S : CallFix p m c cX10_intAt 3 s args GW "RoadThatSingsModel") hE hT hP hS hr hlocks hl => ?_)
  have hx := S.1
  have hb := S.2.1
  have hl : lv_has ls 3 [(0, .ref a_o), (1, .int x1), (2, .int x2)] := hl
  unfold F_X10_intAt at h
  refine lv_aload_n hx hb dX10_intAt_0 rfl (lv_at hl 0 rfl) ?_
  refine gf S hE hP 0 rfl rfl inX10 (k := 25) (by decide) q1118 rfl dX10_intAt_1 ?_
  refine lv_sipush (v := 160) hx hb dX10_intAt_4 (by decide) ?_
  refine lv_iload_n hx hb dX10_intAt_7 rfl (lv_at hl 1 rfl) ?_
  refine lv_imul hx hb dX10_intAt_8 ?_
  refine lv_iload_n hx hb dX10_intAt_9 rfl (lv_at hl 2 rfl) ?_
  refine lv_iadd hx hb dX10_intAt_10 ?_
  obtain ⟨hi, h⟩ := h
  refine lal S hE hP 1 rfl hi dX10_intAt_11 ?_
  refine lv_l2i hx hb dX10_intAt_12 rfl ?_
  exact W.iret hx hb hr (fun t ht _ => ⟨_, rfl, h, ht⟩) (fun _ hq => by cases hq) dX10_intAt_13
/-! X10_isSo -/
abbrev wX10_isSo (cI cJ cS : ClassId) (a_o : Nat) (z_refused z_steps z_kind z_space z_other z_times z_speed z_base z_share z_notes z_pitch z_beats z_held z_sort z_size z_shown z_cells z_carried z_words z_tell z_was z_kept z_cutSpace z_cutTimes z_cutOff z_trace : Value) (v_stretches : Int32) (v_cars : Int32) (v_tunes : Int32) (v_along : Int32) (v_near : Int32) (v_borne : Int32) (v_tempo : Int32) (v_seed : Int32) (v_fault : Int32) (v_from : Int32) (v_at : Int32) (v_end : Int32) (v_told : Int32) (v_wrongAt : Int32) (v_culprit : Int32) (v_ran : Int32) (v_isKept : Int32) : va_W := [(a_o, .inr (9, [.int v_stretches, .int v_cars, .int v_tunes, .int v_along, .int v_near, .int v_borne, .int v_tempo, .int v_seed, .int v_fault, z_refused, z_steps, z_kind, z_space, z_other, z_times, z_speed, z_base, z_share, z_notes, z_pitch, z_beats, z_held, z_sort, z_size, z_shown, z_cells, z_carried, z_words, z_tell, .int v_from, .int v_at, .int v_end, .int v_told, .int v_wrongAt, z_was, z_kept, .int v_culprit, z_cutSpace, z_cutTimes, z_cutOff, z_trace, .int v_ran, .int v_isKept]))]
def F_X10_isSo (x1 : Int32) (x2 : Int32) (x3 : Int32) (post : Int32 → Prop) : Prop := ((x1 < 1 → post 0) ∧ (¬ x1 < 1 → ((60 < x1 → post 0) ∧ (¬ 60 < x1 → ((x2 < 0 → post 0) ∧ (¬ x2 < 0 → ((60 < x2 → post 0) ∧ (¬ 60 < x2 → ((x3 < 1 → post 0) ∧ (¬ x3 < 1 → ((60 < x3 → post 0) ∧ (¬ 60 < x3 → post 1))))))))))))
set_option maxHeartbeats 4000000 in
set_option maxRecDepth 100000 in
theorem c_X10_isSo {l : Launch} {D : va_G} {cI cJ cS : ClassId} {ad adK : Nat → Nat} {a_o : Nat} {z_refused z_steps z_kind z_space z_other z_times z_speed z_base z_share z_notes z_pitch z_beats z_held z_sort z_size z_shown z_cells z_carried z_words z_tell z_was z_kept z_cutSpace z_cutTimes z_cutOff z_trace : Value} {v_stretches : Int32} {v_cars : Int32} {v_tunes : Int32} {v_along : Int32} {v_near : Int32} {v_borne : Int32} {v_tempo : Int32} {v_seed : Int32} {v_fault : Int32} {v_from : Int32} {v_at : Int32} {v_end : Int32} {v_told : Int32} {v_wrongAt : Int32} {v_culprit : Int32} {v_ran : Int32} {v_isKept : Int32} {x1 : Int32} {x2 : Int32} {x3 : Int32} {post : Int32 → Prop} (h : F_X10_isSo x1 x2 x3 post) : Met l yX10_isSo (Cond.code yX10_isSo cX10_isSo 4 (some (.boolean)) :: GW) (rmd 0 0 0) (PR D cI cJ cS ad adK [.ref a_o, .int x1, .int x2, .int x3] (wX10_isSo cI cJ cS a_o z_refused z_steps z_kind z_space z_other z_times z_speed z_base z_share z_notes z_pitch z_beats z_held z_sort z_size z_shown z_cells z_carried z_words z_tell z_was z_kept z_cutSpace z_cutTimes z_cutOff z_trace v_stretches v_cars v_tunes v_along v_near v_borne v_tempo v_seed v_fault v_from v_at v_end v_told v_wrongAt v_culprit v_ran v_isKept)) (vp_Si post) 0 0 nof := by
  refine Met.ro (by decide) (Nat.le_of_ble_eq_true rfl) (fun p e s m args below meth c ls (S : CallFix p m c cX10_isSo 4 s args GW "RoadThatSingsModel") hE hT hP hS hr hlocks hl => ?_)
  have hx := S.1
  have hb := S.2.1
  have hl : lv_has ls 4 [(0, .ref a_o), (1, .int x1), (2, .int x2), (3, .int x3)] := hl
  unfold F_X10_isSo at h
  refine lv_iload_n hx hb dX10_isSo_0 rfl (lv_at hl 1 rfl) ?_
  refine lv_iconst (v := 1) hx hb dX10_isSo_1 (by decide) ?_
  refine lv_icmp_lt (tgt := 36) hx hb dX10_isSo_2 (by decide) (fun hc => ?_) (fun hc => ?_)
  · have h := h.1 hc
    refine lv_iconst (v := 0) hx hb dX10_isSo_36 (by decide) ?_
    exact W.zret hx hb hr rfl (fun t ht _ => ⟨_, rfl, h, ht⟩) (fun _ hq => by cases hq) dX10_isSo_37
  have h := h.2 hc
  refine lv_iload_n hx hb dX10_isSo_5 rfl (lv_at hl 1 rfl) ?_
  refine lv_bipush (v := 60) hx hb dX10_isSo_6 (by decide) ?_
  refine lv_icmp_gt (tgt := 36) hx hb dX10_isSo_8 (by decide) (fun hc => ?_) (fun hc => ?_)
  · have h := h.1 hc
    refine lv_iconst (v := 0) hx hb dX10_isSo_36 (by decide) ?_
    exact W.zret hx hb hr rfl (fun t ht _ => ⟨_, rfl, h, ht⟩) (fun _ hq => by cases hq) dX10_isSo_37
  have h := h.2 hc
  refine lv_iload_n hx hb dX10_isSo_11 rfl (lv_at hl 2 rfl) ?_
  refine lv_if_lt (tgt := 36) hx hb dX10_isSo_12 (by decide) (fun hc => ?_) (fun hc => ?_)
  · have h := h.1 hc
    refine lv_iconst (v := 0) hx hb dX10_isSo_36 (by decide) ?_
    exact W.zret hx hb hr rfl (fun t ht _ => ⟨_, rfl, h, ht⟩) (fun _ hq => by cases hq) dX10_isSo_37
  have h := h.2 hc
  refine lv_iload_n hx hb dX10_isSo_15 rfl (lv_at hl 2 rfl) ?_
  refine lv_bipush (v := 60) hx hb dX10_isSo_16 (by decide) ?_
  refine lv_icmp_gt (tgt := 36) hx hb dX10_isSo_18 (by decide) (fun hc => ?_) (fun hc => ?_)
  · have h := h.1 hc
    refine lv_iconst (v := 0) hx hb dX10_isSo_36 (by decide) ?_
    exact W.zret hx hb hr rfl (fun t ht _ => ⟨_, rfl, h, ht⟩) (fun _ hq => by cases hq) dX10_isSo_37
  have h := h.2 hc
  refine lv_iload_n hx hb dX10_isSo_21 rfl (lv_at hl 3 rfl) ?_
  refine lv_iconst (v := 1) hx hb dX10_isSo_22 (by decide) ?_
  refine lv_icmp_lt (tgt := 36) hx hb dX10_isSo_23 (by decide) (fun hc => ?_) (fun hc => ?_)
  · have h := h.1 hc
    refine lv_iconst (v := 0) hx hb dX10_isSo_36 (by decide) ?_
    exact W.zret hx hb hr rfl (fun t ht _ => ⟨_, rfl, h, ht⟩) (fun _ hq => by cases hq) dX10_isSo_37
  have h := h.2 hc
  refine lv_iload_n hx hb dX10_isSo_26 rfl (lv_at hl 3 rfl) ?_
  refine lv_bipush (v := 60) hx hb dX10_isSo_27 (by decide) ?_
  refine lv_icmp_gt (tgt := 36) hx hb dX10_isSo_29 (by decide) (fun hc => ?_) (fun hc => ?_)
  · have h := h.1 hc
    refine lv_iconst (v := 0) hx hb dX10_isSo_36 (by decide) ?_
    exact W.zret hx hb hr rfl (fun t ht _ => ⟨_, rfl, h, ht⟩) (fun _ hq => by cases hq) dX10_isSo_37
  have h := h.2 hc
  refine lv_iconst (v := 1) hx hb dX10_isSo_32 (by decide) ?_
  refine lv_goto (tgt := 37) hx hb dX10_isSo_33 (by decide) ?_
  exact W.zret hx hb hr rfl (fun t ht _ => ⟨_, rfl, h, ht⟩) (fun _ hq => by cases hq) dX10_isSo_37
/-! X10_comes -/
abbrev wX10_comes (cI cJ cS : ClassId) (a_o a_kind a_other a_space a_times : Nat) (z_refused z_steps z_speed z_base z_share z_notes z_pitch z_beats z_held z_sort z_size z_shown z_cells z_carried z_words z_tell z_was z_kept z_cutSpace z_cutTimes z_cutOff z_trace : Value) (v_stretches : Int32) (v_cars : Int32) (v_tunes : Int32) (v_along : Int32) (v_near : Int32) (v_borne : Int32) (v_tempo : Int32) (v_seed : Int32) (v_fault : Int32) (v_from : Int32) (v_at : Int32) (v_end : Int32) (v_told : Int32) (v_wrongAt : Int32) (v_culprit : Int32) (v_ran : Int32) (v_isKept : Int32) (f_kind : Nat → Int32) (f_other : Nat → Int32) (f_space : Nat → Int32) (f_times : Nat → Int32) : va_W := [(a_o, .inr (9, [.int v_stretches, .int v_cars, .int v_tunes, .int v_along, .int v_near, .int v_borne, .int v_tempo, .int v_seed, .int v_fault, z_refused, z_steps, .ref a_kind, .ref a_space, .ref a_other, .ref a_times, z_speed, z_base, z_share, z_notes, z_pitch, z_beats, z_held, z_sort, z_size, z_shown, z_cells, z_carried, z_words, z_tell, .int v_from, .int v_at, .int v_end, .int v_told, .int v_wrongAt, z_was, z_kept, .int v_culprit, z_cutSpace, z_cutTimes, z_cutOff, z_trace, .int v_ran, .int v_isKept])), (a_kind, .inl (cI, 16, .inl f_kind)), (a_other, .inl (cI, 16, .inl f_other)), (a_space, .inl (cI, 16, .inl f_space)), (a_times, .inl (cI, 16, .inl f_times))]
def F_X10_comes (v_stretches : Int32) (f_kind : Nat → Int32) (f_other : Nat → Int32) (f_space : Nat → Int32) (f_times : Nat → Int32) (x1 : Int32) (x2 : Int32) (x3 : Int32) (x4 : Int32) (post : Int32 → (Nat → Int32) → (Nat → Int32) → (Nat → Int32) → (Nat → Int32) → Prop) : Prop := (vp_in v_stretches 16 ∧ (vp_in v_stretches 16 ∧ (vp_in v_stretches 16 ∧ (vp_in v_stretches 16 ∧ post (v_stretches + 1) (upd f_kind v_stretches.toNatClampNeg x1) (upd f_other v_stretches.toNatClampNeg x3) (upd f_space v_stretches.toNatClampNeg x2) (upd f_times v_stretches.toNatClampNeg x4)))))
set_option maxHeartbeats 4000000 in
set_option maxRecDepth 100000 in
theorem c_X10_comes {l : Launch} {D : va_G} {cI cJ cS : ClassId} {ad adK : Nat → Nat} {a_o a_kind a_other a_space a_times : Nat} {z_refused z_steps z_speed z_base z_share z_notes z_pitch z_beats z_held z_sort z_size z_shown z_cells z_carried z_words z_tell z_was z_kept z_cutSpace z_cutTimes z_cutOff z_trace : Value} {v_stretches : Int32} {v_cars : Int32} {v_tunes : Int32} {v_along : Int32} {v_near : Int32} {v_borne : Int32} {v_tempo : Int32} {v_seed : Int32} {v_fault : Int32} {v_from : Int32} {v_at : Int32} {v_end : Int32} {v_told : Int32} {v_wrongAt : Int32} {v_culprit : Int32} {v_ran : Int32} {v_isKept : Int32} {f_kind : Nat → Int32} {f_other : Nat → Int32} {f_space : Nat → Int32} {f_times : Nat → Int32} {x1 : Int32} {x2 : Int32} {x3 : Int32} {x4 : Int32} {post : Int32 → (Nat → Int32) → (Nat → Int32) → (Nat → Int32) → (Nat → Int32) → Prop} (h : F_X10_comes v_stretches f_kind f_other f_space f_times x1 x2 x3 x4 post) {sz : Nat} : Met l yX10_comes (Cond.code yX10_comes cX10_comes 5 none :: GW) (rmd 0 0 0) (PW D cI cJ cS ad adK [.ref a_o, .int x1, .int x2, .int x3, .int x4] (wX10_comes cI cJ cS a_o a_kind a_other a_space a_times z_refused z_steps z_speed z_base z_share z_notes z_pitch z_beats z_held z_sort z_size z_shown z_cells z_carried z_words z_tell z_was z_kept z_cutSpace z_cutTimes z_cutOff z_trace v_stretches v_cars v_tunes v_along v_near v_borne v_tempo v_seed v_fault v_from v_at v_end v_told v_wrongAt v_culprit v_ran v_isKept f_kind f_other f_space f_times) sz) (va_Qv (fun u : Int32 × (Nat → Int32) × (Nat → Int32) × (Nat → Int32) × (Nat → Int32) => post u.1 u.2.1 u.2.2.1 u.2.2.2.1 u.2.2.2.2) (fun u t => va_P D vwCl (wX10_comes cI cJ cS a_o a_kind a_other a_space a_times z_refused z_steps z_speed z_base z_share z_notes z_pitch z_beats z_held z_sort z_size z_shown z_cells z_carried z_words z_tell z_was z_kept z_cutSpace z_cutTimes z_cutOff z_trace u.1 v_cars v_tunes v_along v_near v_borne v_tempo v_seed v_fault v_from v_at v_end v_told v_wrongAt v_culprit v_ran v_isKept u.2.1 u.2.2.1 u.2.2.2.1 u.2.2.2.2) t.heap) (va_A (wX10_comes cI cJ cS a_o a_kind a_other a_space a_times z_refused z_steps z_speed z_base z_share z_notes z_pitch z_beats z_held z_sort z_size z_shown z_cells z_carried z_words z_tell z_was z_kept z_cutSpace z_cutTimes z_cutOff z_trace v_stretches v_cars v_tunes v_along v_near v_borne v_tempo v_seed v_fault v_from v_at v_end v_told v_wrongAt v_culprit v_ran v_isKept f_kind f_other f_space f_times) sz)) 0 0 (va_A (wX10_comes cI cJ cS a_o a_kind a_other a_space a_times z_refused z_steps z_speed z_base z_share z_notes z_pitch z_beats z_held z_sort z_size z_shown z_cells z_carried z_words z_tell z_was z_kept z_cutSpace z_cutTimes z_cutOff z_trace v_stretches v_cars v_tunes v_along v_near v_borne v_tempo v_seed v_fault v_from v_at v_end v_told v_wrongAt v_culprit v_ran v_isKept f_kind f_other f_space f_times) sz) := by
  refine Met.rw (Qc := fun A => (va_Qv (fun u : Int32 × (Nat → Int32) × (Nat → Int32) × (Nat → Int32) × (Nat → Int32) => post u.1 u.2.1 u.2.2.1 u.2.2.2.1 u.2.2.2.2) (fun u t => va_P D vwCl (wX10_comes cI cJ cS a_o a_kind a_other a_space a_times z_refused z_steps z_speed z_base z_share z_notes z_pitch z_beats z_held z_sort z_size z_shown z_cells z_carried z_words z_tell z_was z_kept z_cutSpace z_cutTimes z_cutOff z_trace u.1 v_cars v_tunes v_along v_near v_borne v_tempo v_seed v_fault v_from v_at v_end v_told v_wrongAt v_culprit v_ran v_isKept u.2.1 u.2.2.1 u.2.2.2.1 u.2.2.2.2) t.heap) A)) (by decide) (Nat.le_of_ble_eq_true rfl) (fun p e s m args below meth c ls A (S : CallFix p m c cX10_comes 5 s args GW "RoadThatSingsModel") hE hT hP hD hA hS hr hlocks hname hl => ?_)
  have hS0 := hS
  have hx := S.1
  have hb := S.2.1
  have hl : lv_has ls 5 [(0, .ref a_o), (1, .int x1), (2, .int x2), (3, .int x3), (4, .int x4)] := hl
  unfold F_X10_comes at h
  refine lv_aload_n hx hb dX10_comes_0 rfl (lv_at hl 0 rfl) ?_
  refine gf S hE hP 0 rfl rfl inX10 (k := 11) (by decide) q1104 rfl dX10_comes_1 ?_
  refine lv_aload_n hx hb dX10_comes_4 rfl (lv_at hl 0 rfl) ?_
  refine gf S hE hP 0 rfl rfl inX10 (k := 0) (by decide) q1093 rfl dX10_comes_5 ?_
  refine lv_iload_n hx hb dX10_comes_8 rfl (lv_at hl 1 rfl) ?_
  obtain ⟨hi, h⟩ := h
  refine ias S hE hP hD hS 1 rfl hi dX10_comes_9 (fun H locs hP hD hS => ?_)
  have hP : va_P D vwCl (wX10_comes cI cJ cS a_o a_kind a_other a_space a_times z_refused z_steps z_speed z_base z_share z_notes z_pitch z_beats z_held z_sort z_size z_shown z_cells z_carried z_words z_tell z_was z_kept z_cutSpace z_cutTimes z_cutOff z_trace v_stretches v_cars v_tunes v_along v_near v_borne v_tempo v_seed v_fault v_from v_at v_end v_told v_wrongAt v_culprit v_ran v_isKept (upd f_kind v_stretches.toNatClampNeg x1) f_other f_space f_times) H := hP
  have hD : va_D A (wX10_comes cI cJ cS a_o a_kind a_other a_space a_times z_refused z_steps z_speed z_base z_share z_notes z_pitch z_beats z_held z_sort z_size z_shown z_cells z_carried z_words z_tell z_was z_kept z_cutSpace z_cutTimes z_cutOff z_trace v_stretches v_cars v_tunes v_along v_near v_borne v_tempo v_seed v_fault v_from v_at v_end v_told v_wrongAt v_culprit v_ran v_isKept (upd f_kind v_stretches.toNatClampNeg x1) f_other f_space f_times) := hD
  refine lv_aload_n hx hb dX10_comes_10 rfl (lv_at hl 0 rfl) ?_
  refine gf S hE hP 0 rfl rfl inX10 (k := 12) (by decide) q1105 rfl dX10_comes_11 ?_
  refine lv_aload_n hx hb dX10_comes_14 rfl (lv_at hl 0 rfl) ?_
  refine gf S hE hP 0 rfl rfl inX10 (k := 0) (by decide) q1093 rfl dX10_comes_15 ?_
  refine lv_iload_n hx hb dX10_comes_18 rfl (lv_at hl 2 rfl) ?_
  obtain ⟨hi, h⟩ := h
  refine ias S hE hP hD hS 3 rfl hi dX10_comes_19 (fun H locs hP hD hS => ?_)
  have hP : va_P D vwCl (wX10_comes cI cJ cS a_o a_kind a_other a_space a_times z_refused z_steps z_speed z_base z_share z_notes z_pitch z_beats z_held z_sort z_size z_shown z_cells z_carried z_words z_tell z_was z_kept z_cutSpace z_cutTimes z_cutOff z_trace v_stretches v_cars v_tunes v_along v_near v_borne v_tempo v_seed v_fault v_from v_at v_end v_told v_wrongAt v_culprit v_ran v_isKept (upd f_kind v_stretches.toNatClampNeg x1) f_other (upd f_space v_stretches.toNatClampNeg x2) f_times) H := hP
  have hD : va_D A (wX10_comes cI cJ cS a_o a_kind a_other a_space a_times z_refused z_steps z_speed z_base z_share z_notes z_pitch z_beats z_held z_sort z_size z_shown z_cells z_carried z_words z_tell z_was z_kept z_cutSpace z_cutTimes z_cutOff z_trace v_stretches v_cars v_tunes v_along v_near v_borne v_tempo v_seed v_fault v_from v_at v_end v_told v_wrongAt v_culprit v_ran v_isKept (upd f_kind v_stretches.toNatClampNeg x1) f_other (upd f_space v_stretches.toNatClampNeg x2) f_times) := hD
  refine lv_aload_n hx hb dX10_comes_20 rfl (lv_at hl 0 rfl) ?_
  refine gf S hE hP 0 rfl rfl inX10 (k := 13) (by decide) q1106 rfl dX10_comes_21 ?_
  refine lv_aload_n hx hb dX10_comes_24 rfl (lv_at hl 0 rfl) ?_
  refine gf S hE hP 0 rfl rfl inX10 (k := 0) (by decide) q1093 rfl dX10_comes_25 ?_
  refine lv_iload_n hx hb dX10_comes_28 rfl (lv_at hl 3 rfl) ?_
  obtain ⟨hi, h⟩ := h
  refine ias S hE hP hD hS 2 rfl hi dX10_comes_29 (fun H locs hP hD hS => ?_)
  have hP : va_P D vwCl (wX10_comes cI cJ cS a_o a_kind a_other a_space a_times z_refused z_steps z_speed z_base z_share z_notes z_pitch z_beats z_held z_sort z_size z_shown z_cells z_carried z_words z_tell z_was z_kept z_cutSpace z_cutTimes z_cutOff z_trace v_stretches v_cars v_tunes v_along v_near v_borne v_tempo v_seed v_fault v_from v_at v_end v_told v_wrongAt v_culprit v_ran v_isKept (upd f_kind v_stretches.toNatClampNeg x1) (upd f_other v_stretches.toNatClampNeg x3) (upd f_space v_stretches.toNatClampNeg x2) f_times) H := hP
  have hD : va_D A (wX10_comes cI cJ cS a_o a_kind a_other a_space a_times z_refused z_steps z_speed z_base z_share z_notes z_pitch z_beats z_held z_sort z_size z_shown z_cells z_carried z_words z_tell z_was z_kept z_cutSpace z_cutTimes z_cutOff z_trace v_stretches v_cars v_tunes v_along v_near v_borne v_tempo v_seed v_fault v_from v_at v_end v_told v_wrongAt v_culprit v_ran v_isKept (upd f_kind v_stretches.toNatClampNeg x1) (upd f_other v_stretches.toNatClampNeg x3) (upd f_space v_stretches.toNatClampNeg x2) f_times) := hD
  refine lv_aload_n hx hb dX10_comes_30 rfl (lv_at hl 0 rfl) ?_
  refine gf S hE hP 0 rfl rfl inX10 (k := 14) (by decide) q1107 rfl dX10_comes_31 ?_
  refine lv_aload_n hx hb dX10_comes_34 rfl (lv_at hl 0 rfl) ?_
  refine gf S hE hP 0 rfl rfl inX10 (k := 0) (by decide) q1093 rfl dX10_comes_35 ?_
  refine lv_iload hx hb dX10_comes_38 (lv_at hl 4 rfl) ?_
  obtain ⟨hi, h⟩ := h
  refine ias S hE hP hD hS 4 rfl hi dX10_comes_40 (fun H locs hP hD hS => ?_)
  have hP : va_P D vwCl (wX10_comes cI cJ cS a_o a_kind a_other a_space a_times z_refused z_steps z_speed z_base z_share z_notes z_pitch z_beats z_held z_sort z_size z_shown z_cells z_carried z_words z_tell z_was z_kept z_cutSpace z_cutTimes z_cutOff z_trace v_stretches v_cars v_tunes v_along v_near v_borne v_tempo v_seed v_fault v_from v_at v_end v_told v_wrongAt v_culprit v_ran v_isKept (upd f_kind v_stretches.toNatClampNeg x1) (upd f_other v_stretches.toNatClampNeg x3) (upd f_space v_stretches.toNatClampNeg x2) (upd f_times v_stretches.toNatClampNeg x4)) H := hP
  have hD : va_D A (wX10_comes cI cJ cS a_o a_kind a_other a_space a_times z_refused z_steps z_speed z_base z_share z_notes z_pitch z_beats z_held z_sort z_size z_shown z_cells z_carried z_words z_tell z_was z_kept z_cutSpace z_cutTimes z_cutOff z_trace v_stretches v_cars v_tunes v_along v_near v_borne v_tempo v_seed v_fault v_from v_at v_end v_told v_wrongAt v_culprit v_ran v_isKept (upd f_kind v_stretches.toNatClampNeg x1) (upd f_other v_stretches.toNatClampNeg x3) (upd f_space v_stretches.toNatClampNeg x2) (upd f_times v_stretches.toNatClampNeg x4)) := hD
  refine lv_aload_n hx hb dX10_comes_41 rfl (lv_at hl 0 rfl) ?_
  refine lv_dup hx hb dX10_comes_42 rfl ?_
  refine gf S hE hP 0 rfl rfl inX10 (k := 0) (by decide) q1093 rfl dX10_comes_43 ?_
  refine lv_iconst (v := 1) hx hb dX10_comes_46 (by decide) ?_
  refine lv_iadd hx hb dX10_comes_47 ?_
  refine pf S hE hP hD hS 0 (k := 0) rfl rfl inX10 tyX10_ok nmX10 (by decide) q1093 rfl rfl rfl (Nat.le_of_ble_eq_true rfl) dX10_comes_48 (fun H locs hP hD hS => ?_)
  have hP : va_P D vwCl (wX10_comes cI cJ cS a_o a_kind a_other a_space a_times z_refused z_steps z_speed z_base z_share z_notes z_pitch z_beats z_held z_sort z_size z_shown z_cells z_carried z_words z_tell z_was z_kept z_cutSpace z_cutTimes z_cutOff z_trace (v_stretches + 1) v_cars v_tunes v_along v_near v_borne v_tempo v_seed v_fault v_from v_at v_end v_told v_wrongAt v_culprit v_ran v_isKept (upd f_kind v_stretches.toNatClampNeg x1) (upd f_other v_stretches.toNatClampNeg x3) (upd f_space v_stretches.toNatClampNeg x2) (upd f_times v_stretches.toNatClampNeg x4)) H := hP
  have hD : va_D A (wX10_comes cI cJ cS a_o a_kind a_other a_space a_times z_refused z_steps z_speed z_base z_share z_notes z_pitch z_beats z_held z_sort z_size z_shown z_cells z_carried z_words z_tell z_was z_kept z_cutSpace z_cutTimes z_cutOff z_trace (v_stretches + 1) v_cars v_tunes v_along v_near v_borne v_tempo v_seed v_fault v_from v_at v_end v_told v_wrongAt v_culprit v_ran v_isKept (upd f_kind v_stretches.toNatClampNeg x1) (upd f_other v_stretches.toNatClampNeg x3) (upd f_space v_stretches.toNatClampNeg x2) (upd f_times v_stretches.toNatClampNeg x4)) := hD
  exact W.vret hx hb hr (fun t ht _ => ⟨⟨((v_stretches + 1), (upd f_kind v_stretches.toNatClampNeg x1), (upd f_other v_stretches.toNatClampNeg x3), (upd f_space v_stretches.toNatClampNeg x2), (upd f_times v_stretches.toNatClampNeg x4)), rfl, h, hPt hP ht⟩, hS.F ht⟩) hS.2.2 dX10_comes_51
/-! X10_stretch -/
abbrev wX10_stretch (cI cJ cS : ClassId) (a_o a_kind a_other a_refused a_space a_times : Nat) (z_steps z_speed z_base z_share z_notes z_pitch z_beats z_held z_sort z_size z_shown z_cells z_carried z_words z_tell z_was z_kept z_cutSpace z_cutTimes z_cutOff z_trace : Value) (v_stretches : Int32) (v_cars : Int32) (v_tunes : Int32) (v_along : Int32) (v_near : Int32) (v_borne : Int32) (v_tempo : Int32) (v_seed : Int32) (v_fault : Int32) (v_from : Int32) (v_at : Int32) (v_end : Int32) (v_told : Int32) (v_wrongAt : Int32) (v_culprit : Int32) (v_ran : Int32) (v_isKept : Int32) (f_kind : Nat → Int32) (f_other : Nat → Int32) (f_refused : Nat → Int32) (f_space : Nat → Int32) (f_times : Nat → Int32) : va_W := [(a_o, .inr (9, [.int v_stretches, .int v_cars, .int v_tunes, .int v_along, .int v_near, .int v_borne, .int v_tempo, .int v_seed, .int v_fault, .ref a_refused, z_steps, .ref a_kind, .ref a_space, .ref a_other, .ref a_times, z_speed, z_base, z_share, z_notes, z_pitch, z_beats, z_held, z_sort, z_size, z_shown, z_cells, z_carried, z_words, z_tell, .int v_from, .int v_at, .int v_end, .int v_told, .int v_wrongAt, z_was, z_kept, .int v_culprit, z_cutSpace, z_cutTimes, z_cutOff, z_trace, .int v_ran, .int v_isKept])), (a_kind, .inl (cI, 16, .inl f_kind)), (a_other, .inl (cI, 16, .inl f_other)), (a_refused, .inl (cI, 8, .inl f_refused)), (a_space, .inl (cI, 16, .inl f_space)), (a_times, .inl (cI, 16, .inl f_times))]
def F_X10_stretch (v_stretches : Int32) (f_kind : Nat → Int32) (f_other : Nat → Int32) (f_refused : Nat → Int32) (f_space : Nat → Int32) (f_times : Nat → Int32) (x1 : Int32) (x2 : Int32) (x3 : Int32) (x4 : Int32) (post : Int32 → Int32 → (Nat → Int32) → (Nat → Int32) → (Nat → Int32) → (Nat → Int32) → (Nat → Int32) → Prop) : Prop := ((x1 < 0 → (F_X10_no f_refused (-1) (fun r12 w12_0 => post r12 v_stretches f_kind f_other w12_0 f_space f_times))) ∧ (¬ x1 < 0 → ((x1 ≤ 6 → (F_X10_isSo x2 x3 x4 (fun r21 => ((r21 = 0 → (F_X10_no f_refused (-6) (fun r30 w30_0 => post r30 v_stretches f_kind f_other w30_0 f_space f_times))) ∧ (¬ r21 = 0 → ((v_stretches = 16 → (F_X10_no f_refused (-7) (fun r46 w46_0 => post r46 v_stretches f_kind f_other w46_0 f_space f_times))) ∧ (¬ v_stretches = 16 → (F_X10_comes v_stretches f_kind f_other f_space f_times x1 x2 x3 x4 (fun w56_0 w56_1 w56_2 w56_3 w56_4 => post (w56_0 - 1) w56_0 w56_1 w56_2 f_refused w56_3 w56_4))))))))) ∧ (¬ x1 ≤ 6 → (F_X10_no f_refused (-1) (fun r12 w12_0 => post r12 v_stretches f_kind f_other w12_0 f_space f_times))))))
set_option maxHeartbeats 4000000 in
set_option maxRecDepth 100000 in
theorem c_X10_stretch {l : Launch} {D : va_G} {cI cJ cS : ClassId} {ad adK : Nat → Nat} {a_o a_kind a_other a_refused a_space a_times : Nat} {z_steps z_speed z_base z_share z_notes z_pitch z_beats z_held z_sort z_size z_shown z_cells z_carried z_words z_tell z_was z_kept z_cutSpace z_cutTimes z_cutOff z_trace : Value} {v_stretches : Int32} {v_cars : Int32} {v_tunes : Int32} {v_along : Int32} {v_near : Int32} {v_borne : Int32} {v_tempo : Int32} {v_seed : Int32} {v_fault : Int32} {v_from : Int32} {v_at : Int32} {v_end : Int32} {v_told : Int32} {v_wrongAt : Int32} {v_culprit : Int32} {v_ran : Int32} {v_isKept : Int32} {f_kind : Nat → Int32} {f_other : Nat → Int32} {f_refused : Nat → Int32} {f_space : Nat → Int32} {f_times : Nat → Int32} {x1 : Int32} {x2 : Int32} {x3 : Int32} {x4 : Int32} {post : Int32 → Int32 → (Nat → Int32) → (Nat → Int32) → (Nat → Int32) → (Nat → Int32) → (Nat → Int32) → Prop} (h : F_X10_stretch v_stretches f_kind f_other f_refused f_space f_times x1 x2 x3 x4 post) {sz : Nat} : Met l yX10_stretch (Cond.code yX10_stretch cX10_stretch 5 (some (.int)) :: GW) (rmd 1 0 0) (PW D cI cJ cS ad adK [.ref a_o, .int x1, .int x2, .int x3, .int x4] (wX10_stretch cI cJ cS a_o a_kind a_other a_refused a_space a_times z_steps z_speed z_base z_share z_notes z_pitch z_beats z_held z_sort z_size z_shown z_cells z_carried z_words z_tell z_was z_kept z_cutSpace z_cutTimes z_cutOff z_trace v_stretches v_cars v_tunes v_along v_near v_borne v_tempo v_seed v_fault v_from v_at v_end v_told v_wrongAt v_culprit v_ran v_isKept f_kind f_other f_refused f_space f_times) sz) (va_Qi (fun r (u : Int32 × (Nat → Int32) × (Nat → Int32) × (Nat → Int32) × (Nat → Int32) × (Nat → Int32)) => post r u.1 u.2.1 u.2.2.1 u.2.2.2.1 u.2.2.2.2.1 u.2.2.2.2.2) (fun u t => va_P D vwCl (wX10_stretch cI cJ cS a_o a_kind a_other a_refused a_space a_times z_steps z_speed z_base z_share z_notes z_pitch z_beats z_held z_sort z_size z_shown z_cells z_carried z_words z_tell z_was z_kept z_cutSpace z_cutTimes z_cutOff z_trace u.1 v_cars v_tunes v_along v_near v_borne v_tempo v_seed v_fault v_from v_at v_end v_told v_wrongAt v_culprit v_ran v_isKept u.2.1 u.2.2.1 u.2.2.2.1 u.2.2.2.2.1 u.2.2.2.2.2) t.heap) (va_A (wX10_stretch cI cJ cS a_o a_kind a_other a_refused a_space a_times z_steps z_speed z_base z_share z_notes z_pitch z_beats z_held z_sort z_size z_shown z_cells z_carried z_words z_tell z_was z_kept z_cutSpace z_cutTimes z_cutOff z_trace v_stretches v_cars v_tunes v_along v_near v_borne v_tempo v_seed v_fault v_from v_at v_end v_told v_wrongAt v_culprit v_ran v_isKept f_kind f_other f_refused f_space f_times) sz)) 0 0 (va_A (wX10_stretch cI cJ cS a_o a_kind a_other a_refused a_space a_times z_steps z_speed z_base z_share z_notes z_pitch z_beats z_held z_sort z_size z_shown z_cells z_carried z_words z_tell z_was z_kept z_cutSpace z_cutTimes z_cutOff z_trace v_stretches v_cars v_tunes v_along v_near v_borne v_tempo v_seed v_fault v_from v_at v_end v_told v_wrongAt v_culprit v_ran v_isKept f_kind f_other f_refused f_space f_times) sz) := by
  refine Met.rw (Qc := fun A => (va_Qi (fun r (u : Int32 × (Nat → Int32) × (Nat → Int32) × (Nat → Int32) × (Nat → Int32) × (Nat → Int32)) => post r u.1 u.2.1 u.2.2.1 u.2.2.2.1 u.2.2.2.2.1 u.2.2.2.2.2) (fun u t => va_P D vwCl (wX10_stretch cI cJ cS a_o a_kind a_other a_refused a_space a_times z_steps z_speed z_base z_share z_notes z_pitch z_beats z_held z_sort z_size z_shown z_cells z_carried z_words z_tell z_was z_kept z_cutSpace z_cutTimes z_cutOff z_trace u.1 v_cars v_tunes v_along v_near v_borne v_tempo v_seed v_fault v_from v_at v_end v_told v_wrongAt v_culprit v_ran v_isKept u.2.1 u.2.2.1 u.2.2.2.1 u.2.2.2.2.1 u.2.2.2.2.2) t.heap) A)) (by decide) (Nat.le_of_ble_eq_true rfl) (fun p e s m args below meth c ls A (S : CallFix p m c cX10_stretch 5 s args GW "RoadThatSingsModel") hE hT hP hD hA hS hr hlocks hname hl => ?_)
  have hS0 := hS
  have hx := S.1
  have hb := S.2.1
  have hl : lv_has ls 5 [(0, .ref a_o), (1, .int x1), (2, .int x2), (3, .int x3), (4, .int x4)] := hl
  unfold F_X10_stretch at h
  refine lv_iload_n hx hb dX10_stretch_0 rfl (lv_at hl 1 rfl) ?_
  refine lv_if_lt (tgt := 10) hx hb dX10_stretch_1 (by decide) (fun hc => ?_) (fun hc => ?_)
  · have h := h.1 hc
    refine lv_aload_n hx hb dX10_stretch_10 rfl (lv_at hl 0 rfl) ?_
    refine lv_iconst (v := (-1)) hx hb dX10_stretch_11 (by decide) ?_
    refine rw_i (rwV S hE hT hS hP hD hA (c_X10_no h) [0, 3] rfl (by decide +kernel) lkX10_121 rfl ⟨(Nat.le_of_ble_eq_true rfl), (Nat.le_of_ble_eq_true rfl)⟩ 0 rfl rfl hl.1 rfl (Nat.le_of_ble_eq_true rfl) dX10_stretch_12 ⟨(Nat.zero_le _), (Nat.zero_le _)⟩) hP hD hS hA [0, 3] rfl (by decide +kernel) (fun _ => rfl) (fun r12 w12_0 H locs h hP hD hS => ?_)
    try dsimp only at h
    have hP : va_P D vwCl (wX10_stretch cI cJ cS a_o a_kind a_other a_refused a_space a_times z_steps z_speed z_base z_share z_notes z_pitch z_beats z_held z_sort z_size z_shown z_cells z_carried z_words z_tell z_was z_kept z_cutSpace z_cutTimes z_cutOff z_trace v_stretches v_cars v_tunes v_along v_near v_borne v_tempo v_seed v_fault v_from v_at v_end v_told v_wrongAt v_culprit v_ran v_isKept f_kind f_other w12_0 f_space f_times) H := hP
    have hD : va_D A (wX10_stretch cI cJ cS a_o a_kind a_other a_refused a_space a_times z_steps z_speed z_base z_share z_notes z_pitch z_beats z_held z_sort z_size z_shown z_cells z_carried z_words z_tell z_was z_kept z_cutSpace z_cutTimes z_cutOff z_trace v_stretches v_cars v_tunes v_along v_near v_borne v_tempo v_seed v_fault v_from v_at v_end v_told v_wrongAt v_culprit v_ran v_isKept f_kind f_other w12_0 f_space f_times) := hD
    exact W.iret hx hb hr (fun t ht _ => ⟨⟨_, (v_stretches, f_kind, f_other, w12_0, f_space, f_times), rfl, h, hPt hP ht⟩, hS.F ht⟩) hS.2.2 dX10_stretch_15
  have h := h.2 hc
  refine lv_iload_n hx hb dX10_stretch_4 rfl (lv_at hl 1 rfl) ?_
  refine lv_bipush (v := 6) hx hb dX10_stretch_5 (by decide) ?_
  refine lv_icmp_le (tgt := 16) hx hb dX10_stretch_7 (by decide) (fun hc => ?_) (fun hc => ?_)
  · have h := h.1 hc
    refine lv_aload_n hx hb dX10_stretch_16 rfl (lv_at hl 0 rfl) ?_
    refine lv_iload_n hx hb dX10_stretch_17 rfl (lv_at hl 2 rfl) ?_
    refine lv_iload_n hx hb dX10_stretch_18 rfl (lv_at hl 3 rfl) ?_
    refine lv_iload hx hb dX10_stretch_19 (lv_at hl 4 rfl) ?_
    refine ro_i (roV S hE hT hS (c_X10_isSo h) lkX10_134 rfl ⟨(Nat.le_of_ble_eq_true rfl), (Nat.le_of_ble_eq_true rfl)⟩ (hP.sub [0] rfl) 0 rfl rfl hl.1 rfl (Nat.le_of_ble_eq_true rfl) dX10_stretch_21 ⟨(Nat.zero_le _), (Nat.zero_le _)⟩) (fun r21 h => ?_)
    refine lv_if_ne (tgt := 34) hx hb dX10_stretch_24 (by decide) (fun hc => ?_) (fun hc => ?_)
    · have h := h.2 hc
      refine lv_aload_n hx hb dX10_stretch_34 rfl (lv_at hl 0 rfl) ?_
      refine gf S hE hP 0 rfl rfl inX10 (k := 0) (by decide) q1093 rfl dX10_stretch_35 ?_
      refine lv_bipush (v := 16) hx hb dX10_stretch_38 (by decide) ?_
      refine lv_icmp_ne (tgt := 50) hx hb dX10_stretch_40 (by decide) (fun hc => ?_) (fun hc => ?_)
      · have h := h.2 hc
        refine lv_aload_n hx hb dX10_stretch_50 rfl (lv_at hl 0 rfl) ?_
        refine lv_iload_n hx hb dX10_stretch_51 rfl (lv_at hl 1 rfl) ?_
        refine lv_iload_n hx hb dX10_stretch_52 rfl (lv_at hl 2 rfl) ?_
        refine lv_iload_n hx hb dX10_stretch_53 rfl (lv_at hl 3 rfl) ?_
        refine lv_iload hx hb dX10_stretch_54 (lv_at hl 4 rfl) ?_
        refine rw_v (rwV S hE hT hS hP hD hA (c_X10_comes h) [0, 1, 2, 4, 5] rfl (by decide +kernel) lkX10_138 rfl ⟨(Nat.le_of_ble_eq_true rfl), (Nat.le_of_ble_eq_true rfl)⟩ 0 rfl rfl hl.1 rfl (Nat.le_of_ble_eq_true rfl) dX10_stretch_56 ⟨(Nat.zero_le _), (Nat.zero_le _)⟩) hP hD hS hA [0, 1, 2, 4, 5] rfl (by decide +kernel) (fun _ => rfl) (fun u56 H locs h hP hD hS => ?_)
        obtain ⟨w56_0, w56_1, w56_2, w56_3, w56_4⟩ := u56
        try dsimp only at h
        have hP : va_P D vwCl (wX10_stretch cI cJ cS a_o a_kind a_other a_refused a_space a_times z_steps z_speed z_base z_share z_notes z_pitch z_beats z_held z_sort z_size z_shown z_cells z_carried z_words z_tell z_was z_kept z_cutSpace z_cutTimes z_cutOff z_trace w56_0 v_cars v_tunes v_along v_near v_borne v_tempo v_seed v_fault v_from v_at v_end v_told v_wrongAt v_culprit v_ran v_isKept w56_1 w56_2 f_refused w56_3 w56_4) H := wsetP 6 [3] hP rfl ⟨rfl, trivial⟩ rfl rfl (by decide +kernel) (by decide +kernel) (by decide +kernel)
        have hD : va_D A (wX10_stretch cI cJ cS a_o a_kind a_other a_refused a_space a_times z_steps z_speed z_base z_share z_notes z_pitch z_beats z_held z_sort z_size z_shown z_cells z_carried z_words z_tell z_was z_kept z_cutSpace z_cutTimes z_cutOff z_trace w56_0 v_cars v_tunes v_along v_near v_borne v_tempo v_seed v_fault v_from v_at v_end v_told v_wrongAt v_culprit v_ran v_isKept w56_1 w56_2 f_refused w56_3 w56_4) := wsetD 6 [3] hD rfl ⟨rfl, trivial⟩ rfl rfl (by decide +kernel) (by decide +kernel) (by decide +kernel)
        refine lv_aload_n hx hb dX10_stretch_59 rfl (lv_at hl 0 rfl) ?_
        refine gf S hE hP 0 rfl rfl inX10 (k := 0) (by decide) q1093 rfl dX10_stretch_60 ?_
        refine lv_iconst (v := 1) hx hb dX10_stretch_63 (by decide) ?_
        refine lv_isub hx hb dX10_stretch_64 ?_
        exact W.iret hx hb hr (fun t ht _ => ⟨⟨_, (w56_0, w56_1, w56_2, f_refused, w56_3, w56_4), rfl, h, hPt hP ht⟩, hS.F ht⟩) hS.2.2 dX10_stretch_65
      have h := h.1 hc
      refine lv_aload_n hx hb dX10_stretch_43 rfl (lv_at hl 0 rfl) ?_
      refine lv_bipush (v := (-7)) hx hb dX10_stretch_44 (by decide) ?_
      refine rw_i (rwV S hE hT hS hP hD hA (c_X10_no h) [0, 3] rfl (by decide +kernel) lkX10_121 rfl ⟨(Nat.le_of_ble_eq_true rfl), (Nat.le_of_ble_eq_true rfl)⟩ 0 rfl rfl hl.1 rfl (Nat.le_of_ble_eq_true rfl) dX10_stretch_46 ⟨(Nat.zero_le _), (Nat.zero_le _)⟩) hP hD hS hA [0, 3] rfl (by decide +kernel) (fun _ => rfl) (fun r46 w46_0 H locs h hP hD hS => ?_)
      try dsimp only at h
      have hP : va_P D vwCl (wX10_stretch cI cJ cS a_o a_kind a_other a_refused a_space a_times z_steps z_speed z_base z_share z_notes z_pitch z_beats z_held z_sort z_size z_shown z_cells z_carried z_words z_tell z_was z_kept z_cutSpace z_cutTimes z_cutOff z_trace v_stretches v_cars v_tunes v_along v_near v_borne v_tempo v_seed v_fault v_from v_at v_end v_told v_wrongAt v_culprit v_ran v_isKept f_kind f_other w46_0 f_space f_times) H := hP
      have hD : va_D A (wX10_stretch cI cJ cS a_o a_kind a_other a_refused a_space a_times z_steps z_speed z_base z_share z_notes z_pitch z_beats z_held z_sort z_size z_shown z_cells z_carried z_words z_tell z_was z_kept z_cutSpace z_cutTimes z_cutOff z_trace v_stretches v_cars v_tunes v_along v_near v_borne v_tempo v_seed v_fault v_from v_at v_end v_told v_wrongAt v_culprit v_ran v_isKept f_kind f_other w46_0 f_space f_times) := hD
      exact W.iret hx hb hr (fun t ht _ => ⟨⟨_, (v_stretches, f_kind, f_other, w46_0, f_space, f_times), rfl, h, hPt hP ht⟩, hS.F ht⟩) hS.2.2 dX10_stretch_49
    have h := h.1 hc
    refine lv_aload_n hx hb dX10_stretch_27 rfl (lv_at hl 0 rfl) ?_
    refine lv_bipush (v := (-6)) hx hb dX10_stretch_28 (by decide) ?_
    refine rw_i (rwV S hE hT hS hP hD hA (c_X10_no h) [0, 3] rfl (by decide +kernel) lkX10_121 rfl ⟨(Nat.le_of_ble_eq_true rfl), (Nat.le_of_ble_eq_true rfl)⟩ 0 rfl rfl hl.1 rfl (Nat.le_of_ble_eq_true rfl) dX10_stretch_30 ⟨(Nat.zero_le _), (Nat.zero_le _)⟩) hP hD hS hA [0, 3] rfl (by decide +kernel) (fun _ => rfl) (fun r30 w30_0 H locs h hP hD hS => ?_)
    try dsimp only at h
    have hP : va_P D vwCl (wX10_stretch cI cJ cS a_o a_kind a_other a_refused a_space a_times z_steps z_speed z_base z_share z_notes z_pitch z_beats z_held z_sort z_size z_shown z_cells z_carried z_words z_tell z_was z_kept z_cutSpace z_cutTimes z_cutOff z_trace v_stretches v_cars v_tunes v_along v_near v_borne v_tempo v_seed v_fault v_from v_at v_end v_told v_wrongAt v_culprit v_ran v_isKept f_kind f_other w30_0 f_space f_times) H := hP
    have hD : va_D A (wX10_stretch cI cJ cS a_o a_kind a_other a_refused a_space a_times z_steps z_speed z_base z_share z_notes z_pitch z_beats z_held z_sort z_size z_shown z_cells z_carried z_words z_tell z_was z_kept z_cutSpace z_cutTimes z_cutOff z_trace v_stretches v_cars v_tunes v_along v_near v_borne v_tempo v_seed v_fault v_from v_at v_end v_told v_wrongAt v_culprit v_ran v_isKept f_kind f_other w30_0 f_space f_times) := hD
    exact W.iret hx hb hr (fun t ht _ => ⟨⟨_, (v_stretches, f_kind, f_other, w30_0, f_space, f_times), rfl, h, hPt hP ht⟩, hS.F ht⟩) hS.2.2 dX10_stretch_33
  have h := h.2 hc
  refine lv_aload_n hx hb dX10_stretch_10 rfl (lv_at hl 0 rfl) ?_
  refine lv_iconst (v := (-1)) hx hb dX10_stretch_11 (by decide) ?_
  refine rw_i (rwV S hE hT hS hP hD hA (c_X10_no h) [0, 3] rfl (by decide +kernel) lkX10_121 rfl ⟨(Nat.le_of_ble_eq_true rfl), (Nat.le_of_ble_eq_true rfl)⟩ 0 rfl rfl hl.1 rfl (Nat.le_of_ble_eq_true rfl) dX10_stretch_12 ⟨(Nat.zero_le _), (Nat.zero_le _)⟩) hP hD hS hA [0, 3] rfl (by decide +kernel) (fun _ => rfl) (fun r12 w12_0 H locs h hP hD hS => ?_)
  try dsimp only at h
  have hP : va_P D vwCl (wX10_stretch cI cJ cS a_o a_kind a_other a_refused a_space a_times z_steps z_speed z_base z_share z_notes z_pitch z_beats z_held z_sort z_size z_shown z_cells z_carried z_words z_tell z_was z_kept z_cutSpace z_cutTimes z_cutOff z_trace v_stretches v_cars v_tunes v_along v_near v_borne v_tempo v_seed v_fault v_from v_at v_end v_told v_wrongAt v_culprit v_ran v_isKept f_kind f_other w12_0 f_space f_times) H := hP
  have hD : va_D A (wX10_stretch cI cJ cS a_o a_kind a_other a_refused a_space a_times z_steps z_speed z_base z_share z_notes z_pitch z_beats z_held z_sort z_size z_shown z_cells z_carried z_words z_tell z_was z_kept z_cutSpace z_cutTimes z_cutOff z_trace v_stretches v_cars v_tunes v_along v_near v_borne v_tempo v_seed v_fault v_from v_at v_end v_told v_wrongAt v_culprit v_ran v_isKept f_kind f_other w12_0 f_space f_times) := hD
  exact W.iret hx hb hr (fun t ht _ => ⟨⟨_, (v_stretches, f_kind, f_other, w12_0, f_space, f_times), rfl, h, hPt hP ht⟩, hS.F ht⟩) hS.2.2 dX10_stretch_15
/-! X10_stretches -/
abbrev wX10_stretches (cI cJ cS : ClassId) (a_o a_cells a_held a_kind a_other a_refused a_size a_space a_times : Nat) (z_steps z_speed z_base z_share z_notes z_pitch z_beats z_sort z_shown z_carried z_words z_tell z_was z_kept z_cutSpace z_cutTimes z_cutOff z_trace : Value) (v_stretches : Int32) (v_cars : Int32) (v_tunes : Int32) (v_along : Int32) (v_near : Int32) (v_borne : Int32) (v_tempo : Int32) (v_seed : Int32) (v_fault : Int32) (v_from : Int32) (v_at : Int32) (v_end : Int32) (v_told : Int32) (v_wrongAt : Int32) (v_culprit : Int32) (v_ran : Int32) (v_isKept : Int32) (g_cells : Nat → Int64) (f_held : Nat → Int32) (f_kind : Nat → Int32) (f_other : Nat → Int32) (f_refused : Nat → Int32) (f_size : Nat → Int32) (f_space : Nat → Int32) (f_times : Nat → Int32) : va_W := [(a_o, .inr (9, [.int v_stretches, .int v_cars, .int v_tunes, .int v_along, .int v_near, .int v_borne, .int v_tempo, .int v_seed, .int v_fault, .ref a_refused, z_steps, .ref a_kind, .ref a_space, .ref a_other, .ref a_times, z_speed, z_base, z_share, z_notes, z_pitch, z_beats, .ref a_held, z_sort, .ref a_size, z_shown, .ref a_cells, z_carried, z_words, z_tell, .int v_from, .int v_at, .int v_end, .int v_told, .int v_wrongAt, z_was, z_kept, .int v_culprit, z_cutSpace, z_cutTimes, z_cutOff, z_trace, .int v_ran, .int v_isKept])), (a_cells, .inl (cJ, 1280, .inr (.inl g_cells))), (a_held, .inl (cI, 8, .inl f_held)), (a_kind, .inl (cI, 16, .inl f_kind)), (a_other, .inl (cI, 16, .inl f_other)), (a_refused, .inl (cI, 8, .inl f_refused)), (a_size, .inl (cI, 8, .inl f_size)), (a_space, .inl (cI, 16, .inl f_space)), (a_times, .inl (cI, 16, .inl f_times))]
def L_X10_stretches_72 (g_cells : Nat → Int64) (x1 : Int32) (x2 : Int32) (x3 : Int32) (f_refused : Nat → Int32) (post : Int32 → Int32 → (Nat → Int32) → (Nat → Int32) → (Nat → Int32) → (Nat → Int32) → (Nat → Int32) → Prop) : Nat → Int32 → Int32 → Int32 → (Nat → Int32) → (Nat → Int32) → (Nat → Int32) → (Nat → Int32) → Prop
  | 0, _, _, _, _, _, _, _ => False
  | n72 + 1, x5, x6, v_stretches, f_kind, f_other, f_space, f_times => (((x2 + x3) ≤ x6 → post x5 v_stretches f_kind f_other f_refused f_space f_times) ∧ (¬ (x2 + x3) ≤ x6 → (F_X10_intAt g_cells x1 x6 (fun r84 => ((v_stretches = 16 → post x5 v_stretches f_kind f_other f_refused f_space f_times) ∧ (¬ v_stretches = 16 → ((r84 < 0 → post x5 v_stretches f_kind f_other f_refused f_space f_times) ∧ (¬ r84 < 0 → ((6 < r84 → post x5 v_stretches f_kind f_other f_refused f_space f_times) ∧ (¬ 6 < r84 → (F_X10_intAt g_cells x1 (x6 + 1) (fun r117 => (F_X10_intAt g_cells x1 (x6 + 2) (fun r126 => (F_X10_intAt g_cells x1 (x6 + 3) (fun r135 => (F_X10_isSo r117 r126 r135 (fun r138 => ((r138 = 0 → post x5 v_stretches f_kind f_other f_refused f_space f_times) ∧ (¬ r138 = 0 → (F_X10_intAt g_cells x1 (x6 + 1) (fun r156 => (F_X10_intAt g_cells x1 (x6 + 2) (fun r165 => (F_X10_intAt g_cells x1 (x6 + 3) (fun r174 => (F_X10_comes v_stretches f_kind f_other f_space f_times r84 r156 r165 r174 (fun w177_0 w177_1 w177_2 w177_3 w177_4 => (∀ x5_180 : Int32, x5_180 = x5 + 1 → (∀ x6_183 : Int32, x6_183 = x6 + 4 → L_X10_stretches_72 g_cells x1 x2 x3 f_refused post n72 x5_180 x6_183 w177_0 w177_1 w177_2 w177_3 w177_4))))))))))))))))))))))))))))))
def F_X10_stretches (v_stretches : Int32) (g_cells : Nat → Int64) (f_held : Nat → Int32) (f_kind : Nat → Int32) (f_other : Nat → Int32) (f_refused : Nat → Int32) (f_size : Nat → Int32) (f_space : Nat → Int32) (f_times : Nat → Int32) (x1 : Int32) (x2 : Int32) (x3 : Int32) (post : Int32 → Int32 → (Nat → Int32) → (Nat → Int32) → (Nat → Int32) → (Nat → Int32) → (Nat → Int32) → Prop) : Prop := (F_X10_wants f_held x1 (fun r2 => ((r2 = 0 → ((0 ≤ x3 → ((x2 < 0 → (F_X10_no f_refused (-5) (fun r49 w49_0 => post r49 v_stretches f_kind f_other w49_0 f_space f_times))) ∧ (¬ x2 < 0 → (vp_in x1 8 ∧ ((x2 ≤ ((f_size x1.toNatClampNeg) - x3) → (((x3 - x3 / 4 * 4) = 0 → (∃ n72 : Nat, L_X10_stretches_72 g_cells x1 x2 x3 f_refused post n72 0 x2 v_stretches f_kind f_other f_space f_times)) ∧ (¬ (x3 - x3 / 4 * 4) = 0 → (F_X10_no f_refused (-6) (fun r62 w62_0 => post r62 v_stretches f_kind f_other w62_0 f_space f_times))))) ∧ (¬ x2 ≤ ((f_size x1.toNatClampNeg) - x3) → (F_X10_no f_refused (-5) (fun r49 w49_0 => post r49 v_stretches f_kind f_other w49_0 f_space f_times)))))))) ∧ (¬ 0 ≤ x3 → (F_X10_no f_refused (-4) (fun r26 w26_0 => post r26 v_stretches f_kind f_other w26_0 f_space f_times))))) ∧ (¬ r2 = 0 → (F_X10_no f_refused r2 (fun r15 w15_0 => post r15 v_stretches f_kind f_other w15_0 f_space f_times))))))
set_option maxHeartbeats 4000000 in
set_option maxRecDepth 100000 in
theorem w_X10_stretches_72 {l : Launch} {D : va_G} {cI cJ cS : ClassId} {ad adK : Nat → Nat} {a_o a_cells a_held a_kind a_other a_refused a_size a_space a_times : Nat} {z_steps z_speed z_base z_share z_notes z_pitch z_beats z_sort z_shown z_carried z_words z_tell z_was z_kept z_cutSpace z_cutTimes z_cutOff z_trace : Value} {v_cars : Int32} {v_tunes : Int32} {v_along : Int32} {v_near : Int32} {v_borne : Int32} {v_tempo : Int32} {v_seed : Int32} {v_fault : Int32} {v_from : Int32} {v_at : Int32} {v_end : Int32} {v_told : Int32} {v_wrongAt : Int32} {v_culprit : Int32} {v_ran : Int32} {v_isKept : Int32} {g_cells : Nat → Int64} {f_held : Nat → Int32} {f_refused : Nat → Int32} {f_size : Nat → Int32} {x1 : Int32} {x2 : Int32} {x3 : Int32} {post : Int32 → Int32 → (Nat → Int32) → (Nat → Int32) → (Nat → Int32) → (Nat → Int32) → (Nat → Int32) → Prop} {p : Program} {e : Env} {s : State} {m : MethodId} {args : Array Value} {below : List Frame} {meth : Method} {c : Code} {A : Nat → Prop} (S : CallFix p m c cX10_stretches 8 s args GW "RoadThatSingsModel") (hE : EN D cI cJ cS s) (hT : ST ad adK A s s.heap) (hA : ∀ q : Nat, s.heap.size ≤ q → A q) (hr : meth.sig.returnType = (some (.int))) (hlocks : meth.locks = false) : ∀ n : Nat, ∀ (x5 : Int32) (x6 : Int32) (v_stretches : Int32) (f_kind : Nat → Int32) (f_other : Nat → Int32) (f_space : Nat → Int32) (f_times : Nat → Int32) (H : Heap) (locs : List Loc) (ls : Array Slot), L_X10_stretches_72 g_cells x1 x2 x3 f_refused post n x5 x6 v_stretches f_kind f_other f_space f_times → va_P D vwCl (wX10_stretches cI cJ cS a_o a_cells a_held a_kind a_other a_refused a_size a_space a_times z_steps z_speed z_base z_share z_notes z_pitch z_beats z_sort z_shown z_carried z_words z_tell z_was z_kept z_cutSpace z_cutTimes z_cutOff z_trace v_stretches v_cars v_tunes v_along v_near v_borne v_tempo v_seed v_fault v_from v_at v_end v_told v_wrongAt v_culprit v_ran v_isKept g_cells f_held f_kind f_other f_refused f_size f_space f_times) H → va_D A (wX10_stretches cI cJ cS a_o a_cells a_held a_kind a_other a_refused a_size a_space a_times z_steps z_speed z_base z_share z_notes z_pitch z_beats z_sort z_shown z_carried z_words z_tell z_was z_kept z_cutSpace z_cutTimes z_cutOff z_trace v_stretches v_cars v_tunes v_along v_near v_borne v_tempo v_seed v_fault v_from v_at v_end v_told v_wrongAt v_culprit v_ran v_isKept g_cells f_held f_kind f_other f_refused f_size f_space f_times) → va_S A s.heap H locs → lv_has ls 8 [(0, .ref a_o), (1, .int x1), (2, .int x2), (3, .int x3), (5, .int x5), (6, .int x6)] → W p l e (rmd 2 0 0) s m args below meth c H locs 0 0 (MQ below (va_Qi (fun r (u : Int32 × (Nat → Int32) × (Nat → Int32) × (Nat → Int32) × (Nat → Int32) × (Nat → Int32)) => post r u.1 u.2.1 u.2.2.1 u.2.2.2.1 u.2.2.2.2.1 u.2.2.2.2.2) (fun u t => va_P D vwCl (wX10_stretches cI cJ cS a_o a_cells a_held a_kind a_other a_refused a_size a_space a_times z_steps z_speed z_base z_share z_notes z_pitch z_beats z_sort z_shown z_carried z_words z_tell z_was z_kept z_cutSpace z_cutTimes z_cutOff z_trace u.1 v_cars v_tunes v_along v_near v_borne v_tempo v_seed v_fault v_from v_at v_end v_told v_wrongAt v_culprit v_ran v_isKept g_cells f_held u.2.1 u.2.2.1 u.2.2.2.1 f_size u.2.2.2.2.1 u.2.2.2.2.2) t.heap) A) args s 0 0 A) (F0 m 72 ls []) := by
  intro n
  induction n with
  | zero =>
    intro x5 x6 v_stretches f_kind f_other f_space f_times H locs ls h hP hD hS hl
    exact h.elim
  | succ n ih =>
    intro x5 x6 v_stretches f_kind f_other f_space f_times H locs ls h hP hD hS hl
    rw [L_X10_stretches_72] at h
    have hx := S.1
    have hb := S.2.1
    refine lv_iload hx hb dX10_stretches_72 (lv_at hl 5 rfl) ?_
    refine lv_iload_n hx hb dX10_stretches_74 rfl (lv_at hl 2 rfl) ?_
    refine lv_iload_n hx hb dX10_stretches_75 rfl (lv_at hl 3 rfl) ?_
    refine lv_iadd hx hb dX10_stretches_76 ?_
    refine lv_icmp_ge (tgt := 189) hx hb dX10_stretches_77 (by decide) (fun hc => ?_) (fun hc => ?_)
    · have h := h.1 hc
      refine lv_iload hx hb dX10_stretches_189 (lv_at hl 4 rfl) ?_
      exact W.iret hx hb hr (fun t ht _ => ⟨⟨_, (v_stretches, f_kind, f_other, f_refused, f_space, f_times), rfl, h, hPt hP ht⟩, hS.F ht⟩) hS.2.2 dX10_stretches_191
    have h := h.2 hc
    refine lv_aload_n hx hb dX10_stretches_80 rfl (lv_at hl 0 rfl) ?_
    refine lv_iload_n hx hb dX10_stretches_81 rfl (lv_at hl 1 rfl) ?_
    refine lv_iload hx hb dX10_stretches_82 (lv_at hl 5 rfl) ?_
    refine ro_i (roV S hE hT hS (c_X10_intAt h) lkX10_145 rfl ⟨(Nat.le_of_ble_eq_true rfl), (Nat.le_of_ble_eq_true rfl)⟩ (hP.sub [0, 1] rfl) 0 rfl rfl hl.1 rfl (Nat.le_of_ble_eq_true rfl) dX10_stretches_84 ⟨(Nat.zero_le _), (Nat.zero_le _)⟩) (fun r84 h => ?_)
    refine lv_istore (lv' := [(7, .int r84), (0, .ref a_o), (1, .int x1), (2, .int x2), (3, .int x3), (5, .int x5), (6, .int x6)]) hx hb dX10_stretches_87 hl (by decide) rfl (fun ls hl => ?_)
    refine lv_aload_n hx hb dX10_stretches_89 rfl (lv_at hl 1 rfl) ?_
    refine gf S hE hP 0 rfl rfl inX10 (k := 0) (by decide) q1093 rfl dX10_stretches_90 ?_
    refine lv_bipush (v := 16) hx hb dX10_stretches_93 (by decide) ?_
    refine lv_icmp_eq (tgt := 144) hx hb dX10_stretches_95 (by decide) (fun hc => ?_) (fun hc => ?_)
    · have h := h.1 hc
      refine lv_iload hx hb dX10_stretches_144 (lv_at hl 5 rfl) ?_
      exact W.iret hx hb hr (fun t ht _ => ⟨⟨_, (v_stretches, f_kind, f_other, f_refused, f_space, f_times), rfl, h, hPt hP ht⟩, hS.F ht⟩) hS.2.2 dX10_stretches_146
    have h := h.2 hc
    refine lv_iload hx hb dX10_stretches_98 (lv_at hl 0 rfl) ?_
    refine lv_if_lt (tgt := 144) hx hb dX10_stretches_100 (by decide) (fun hc => ?_) (fun hc => ?_)
    · have h := h.1 hc
      refine lv_iload hx hb dX10_stretches_144 (lv_at hl 5 rfl) ?_
      exact W.iret hx hb hr (fun t ht _ => ⟨⟨_, (v_stretches, f_kind, f_other, f_refused, f_space, f_times), rfl, h, hPt hP ht⟩, hS.F ht⟩) hS.2.2 dX10_stretches_146
    have h := h.2 hc
    refine lv_iload hx hb dX10_stretches_103 (lv_at hl 0 rfl) ?_
    refine lv_bipush (v := 6) hx hb dX10_stretches_105 (by decide) ?_
    refine lv_icmp_gt (tgt := 144) hx hb dX10_stretches_107 (by decide) (fun hc => ?_) (fun hc => ?_)
    · have h := h.1 hc
      refine lv_iload hx hb dX10_stretches_144 (lv_at hl 5 rfl) ?_
      exact W.iret hx hb hr (fun t ht _ => ⟨⟨_, (v_stretches, f_kind, f_other, f_refused, f_space, f_times), rfl, h, hPt hP ht⟩, hS.F ht⟩) hS.2.2 dX10_stretches_146
    have h := h.2 hc
    refine lv_aload_n hx hb dX10_stretches_110 rfl (lv_at hl 1 rfl) ?_
    refine lv_aload_n hx hb dX10_stretches_111 rfl (lv_at hl 1 rfl) ?_
    refine lv_iload_n hx hb dX10_stretches_112 rfl (lv_at hl 2 rfl) ?_
    refine lv_iload hx hb dX10_stretches_113 (lv_at hl 6 rfl) ?_
    refine lv_iconst (v := 1) hx hb dX10_stretches_115 (by decide) ?_
    refine lv_iadd hx hb dX10_stretches_116 ?_
    refine ro_i (roV S hE hT hS (c_X10_intAt h) lkX10_145 rfl ⟨(Nat.le_of_ble_eq_true rfl), (Nat.le_of_ble_eq_true rfl)⟩ (hP.sub [0, 1] rfl) 0 rfl rfl hl.1 rfl (Nat.le_of_ble_eq_true rfl) dX10_stretches_117 ⟨(Nat.zero_le _), (Nat.zero_le _)⟩) (fun r117 h => ?_)
    refine lv_aload_n hx hb dX10_stretches_120 rfl (lv_at hl 1 rfl) ?_
    refine lv_iload_n hx hb dX10_stretches_121 rfl (lv_at hl 2 rfl) ?_
    refine lv_iload hx hb dX10_stretches_122 (lv_at hl 6 rfl) ?_
    refine lv_iconst (v := 2) hx hb dX10_stretches_124 (by decide) ?_
    refine lv_iadd hx hb dX10_stretches_125 ?_
    refine ro_i (roV S hE hT hS (c_X10_intAt h) lkX10_145 rfl ⟨(Nat.le_of_ble_eq_true rfl), (Nat.le_of_ble_eq_true rfl)⟩ (hP.sub [0, 1] rfl) 0 rfl rfl hl.1 rfl (Nat.le_of_ble_eq_true rfl) dX10_stretches_126 ⟨(Nat.zero_le _), (Nat.zero_le _)⟩) (fun r126 h => ?_)
    refine lv_aload_n hx hb dX10_stretches_129 rfl (lv_at hl 1 rfl) ?_
    refine lv_iload_n hx hb dX10_stretches_130 rfl (lv_at hl 2 rfl) ?_
    refine lv_iload hx hb dX10_stretches_131 (lv_at hl 6 rfl) ?_
    refine lv_iconst (v := 3) hx hb dX10_stretches_133 (by decide) ?_
    refine lv_iadd hx hb dX10_stretches_134 ?_
    refine ro_i (roV S hE hT hS (c_X10_intAt h) lkX10_145 rfl ⟨(Nat.le_of_ble_eq_true rfl), (Nat.le_of_ble_eq_true rfl)⟩ (hP.sub [0, 1] rfl) 0 rfl rfl hl.1 rfl (Nat.le_of_ble_eq_true rfl) dX10_stretches_135 ⟨(Nat.zero_le _), (Nat.zero_le _)⟩) (fun r135 h => ?_)
    refine ro_i (roV S hE hT hS (c_X10_isSo h) lkX10_134 rfl ⟨(Nat.le_of_ble_eq_true rfl), (Nat.le_of_ble_eq_true rfl)⟩ (hP.sub [0] rfl) 0 rfl rfl hl.1 rfl (Nat.le_of_ble_eq_true rfl) dX10_stretches_138 ⟨(Nat.zero_le _), (Nat.zero_le _)⟩) (fun r138 h => ?_)
    refine lv_if_ne (tgt := 147) hx hb dX10_stretches_141 (by decide) (fun hc => ?_) (fun hc => ?_)
    · have h := h.2 hc
      refine lv_aload_n hx hb dX10_stretches_147 rfl (lv_at hl 1 rfl) ?_
      refine lv_iload hx hb dX10_stretches_148 (lv_at hl 0 rfl) ?_
      refine lv_aload_n hx hb dX10_stretches_150 rfl (lv_at hl 1 rfl) ?_
      refine lv_iload_n hx hb dX10_stretches_151 rfl (lv_at hl 2 rfl) ?_
      refine lv_iload hx hb dX10_stretches_152 (lv_at hl 6 rfl) ?_
      refine lv_iconst (v := 1) hx hb dX10_stretches_154 (by decide) ?_
      refine lv_iadd hx hb dX10_stretches_155 ?_
      refine ro_i (roV S hE hT hS (c_X10_intAt h) lkX10_145 rfl ⟨(Nat.le_of_ble_eq_true rfl), (Nat.le_of_ble_eq_true rfl)⟩ (hP.sub [0, 1] rfl) 0 rfl rfl hl.1 rfl (Nat.le_of_ble_eq_true rfl) dX10_stretches_156 ⟨(Nat.zero_le _), (Nat.zero_le _)⟩) (fun r156 h => ?_)
      refine lv_aload_n hx hb dX10_stretches_159 rfl (lv_at hl 1 rfl) ?_
      refine lv_iload_n hx hb dX10_stretches_160 rfl (lv_at hl 2 rfl) ?_
      refine lv_iload hx hb dX10_stretches_161 (lv_at hl 6 rfl) ?_
      refine lv_iconst (v := 2) hx hb dX10_stretches_163 (by decide) ?_
      refine lv_iadd hx hb dX10_stretches_164 ?_
      refine ro_i (roV S hE hT hS (c_X10_intAt h) lkX10_145 rfl ⟨(Nat.le_of_ble_eq_true rfl), (Nat.le_of_ble_eq_true rfl)⟩ (hP.sub [0, 1] rfl) 0 rfl rfl hl.1 rfl (Nat.le_of_ble_eq_true rfl) dX10_stretches_165 ⟨(Nat.zero_le _), (Nat.zero_le _)⟩) (fun r165 h => ?_)
      refine lv_aload_n hx hb dX10_stretches_168 rfl (lv_at hl 1 rfl) ?_
      refine lv_iload_n hx hb dX10_stretches_169 rfl (lv_at hl 2 rfl) ?_
      refine lv_iload hx hb dX10_stretches_170 (lv_at hl 6 rfl) ?_
      refine lv_iconst (v := 3) hx hb dX10_stretches_172 (by decide) ?_
      refine lv_iadd hx hb dX10_stretches_173 ?_
      refine ro_i (roV S hE hT hS (c_X10_intAt h) lkX10_145 rfl ⟨(Nat.le_of_ble_eq_true rfl), (Nat.le_of_ble_eq_true rfl)⟩ (hP.sub [0, 1] rfl) 0 rfl rfl hl.1 rfl (Nat.le_of_ble_eq_true rfl) dX10_stretches_174 ⟨(Nat.zero_le _), (Nat.zero_le _)⟩) (fun r174 h => ?_)
      refine rw_v (rwV S hE hT hS hP hD hA (c_X10_comes h) [0, 3, 4, 7, 8] rfl (by decide +kernel) lkX10_138 rfl ⟨(Nat.le_of_ble_eq_true rfl), (Nat.le_of_ble_eq_true rfl)⟩ 0 rfl rfl hl.1 rfl (Nat.le_of_ble_eq_true rfl) dX10_stretches_177 ⟨(Nat.zero_le _), (Nat.zero_le _)⟩) hP hD hS hA [0, 3, 4, 7, 8] rfl (by decide +kernel) (fun _ => rfl) (fun u177 H locs h hP hD hS => ?_)
      obtain ⟨w177_0, w177_1, w177_2, w177_3, w177_4⟩ := u177
      try dsimp only at h
      have hP : va_P D vwCl (wX10_stretches cI cJ cS a_o a_cells a_held a_kind a_other a_refused a_size a_space a_times z_steps z_speed z_base z_share z_notes z_pitch z_beats z_sort z_shown z_carried z_words z_tell z_was z_kept z_cutSpace z_cutTimes z_cutOff z_trace w177_0 v_cars v_tunes v_along v_near v_borne v_tempo v_seed v_fault v_from v_at v_end v_told v_wrongAt v_culprit v_ran v_isKept g_cells f_held w177_1 w177_2 f_refused f_size w177_3 w177_4) H := wsetP 9 [1, 2, 5, 6] hP rfl ⟨rfl, rfl, rfl, rfl, trivial⟩ rfl rfl (by decide +kernel) (by decide +kernel) (by decide +kernel)
      have hD : va_D A (wX10_stretches cI cJ cS a_o a_cells a_held a_kind a_other a_refused a_size a_space a_times z_steps z_speed z_base z_share z_notes z_pitch z_beats z_sort z_shown z_carried z_words z_tell z_was z_kept z_cutSpace z_cutTimes z_cutOff z_trace w177_0 v_cars v_tunes v_along v_near v_borne v_tempo v_seed v_fault v_from v_at v_end v_told v_wrongAt v_culprit v_ran v_isKept g_cells f_held w177_1 w177_2 f_refused f_size w177_3 w177_4) := wsetD 9 [1, 2, 5, 6] hD rfl ⟨rfl, rfl, rfl, rfl, trivial⟩ rfl rfl (by decide +kernel) (by decide +kernel) (by decide +kernel)
      obtain ⟨x5_180, ex5_180⟩ : ∃ z : Int32, z = x5 + 1 := ⟨_, rfl⟩
      have h := h _ ex5_180
      refine lv_iinc (v := x5_180) (lv' := [(5, .int x5_180), (7, .int r84), (0, .ref a_o), (1, .int x1), (2, .int x2), (3, .int x3), (6, .int x6)]) hx hb dX10_stretches_180 hl (k := 5) rfl (by rw [ex5_180]; rfl) (by decide) rfl (fun ls hl => ?_)
      obtain ⟨x6_183, ex6_183⟩ : ∃ z : Int32, z = x6 + 4 := ⟨_, rfl⟩
      have h := h _ ex6_183
      refine lv_iinc (v := x6_183) (lv' := [(6, .int x6_183), (5, .int x5_180), (7, .int r84), (0, .ref a_o), (1, .int x1), (2, .int x2), (3, .int x3)]) hx hb dX10_stretches_183 hl (k := 6) rfl (by rw [ex6_183]; rfl) (by decide) rfl (fun ls hl => ?_)
      refine lv_goto (tgt := 72) hx hb dX10_stretches_186 (by decide) ?_
      exact ih _ _ _ _ _ _ _ _ _ _ h hP hD hS (lv_sub hl [3, 4, 5, 6, 1, 0] rfl)
    have h := h.1 hc
    refine lv_iload hx hb dX10_stretches_144 (lv_at hl 5 rfl) ?_
    exact W.iret hx hb hr (fun t ht _ => ⟨⟨_, (v_stretches, f_kind, f_other, f_refused, f_space, f_times), rfl, h, hPt hP ht⟩, hS.F ht⟩) hS.2.2 dX10_stretches_146
set_option maxHeartbeats 4000000 in
set_option maxRecDepth 100000 in
theorem c_X10_stretches {l : Launch} {D : va_G} {cI cJ cS : ClassId} {ad adK : Nat → Nat} {a_o a_cells a_held a_kind a_other a_refused a_size a_space a_times : Nat} {z_steps z_speed z_base z_share z_notes z_pitch z_beats z_sort z_shown z_carried z_words z_tell z_was z_kept z_cutSpace z_cutTimes z_cutOff z_trace : Value} {v_stretches : Int32} {v_cars : Int32} {v_tunes : Int32} {v_along : Int32} {v_near : Int32} {v_borne : Int32} {v_tempo : Int32} {v_seed : Int32} {v_fault : Int32} {v_from : Int32} {v_at : Int32} {v_end : Int32} {v_told : Int32} {v_wrongAt : Int32} {v_culprit : Int32} {v_ran : Int32} {v_isKept : Int32} {g_cells : Nat → Int64} {f_held : Nat → Int32} {f_kind : Nat → Int32} {f_other : Nat → Int32} {f_refused : Nat → Int32} {f_size : Nat → Int32} {f_space : Nat → Int32} {f_times : Nat → Int32} {x1 : Int32} {x2 : Int32} {x3 : Int32} {post : Int32 → Int32 → (Nat → Int32) → (Nat → Int32) → (Nat → Int32) → (Nat → Int32) → (Nat → Int32) → Prop} (h : F_X10_stretches v_stretches g_cells f_held f_kind f_other f_refused f_size f_space f_times x1 x2 x3 post) {sz : Nat} : Met l yX10_stretches (Cond.code yX10_stretches cX10_stretches 8 (some (.int)) :: GW) (rmd 2 0 0) (PW D cI cJ cS ad adK [.ref a_o, .int x1, .int x2, .int x3] (wX10_stretches cI cJ cS a_o a_cells a_held a_kind a_other a_refused a_size a_space a_times z_steps z_speed z_base z_share z_notes z_pitch z_beats z_sort z_shown z_carried z_words z_tell z_was z_kept z_cutSpace z_cutTimes z_cutOff z_trace v_stretches v_cars v_tunes v_along v_near v_borne v_tempo v_seed v_fault v_from v_at v_end v_told v_wrongAt v_culprit v_ran v_isKept g_cells f_held f_kind f_other f_refused f_size f_space f_times) sz) (va_Qi (fun r (u : Int32 × (Nat → Int32) × (Nat → Int32) × (Nat → Int32) × (Nat → Int32) × (Nat → Int32)) => post r u.1 u.2.1 u.2.2.1 u.2.2.2.1 u.2.2.2.2.1 u.2.2.2.2.2) (fun u t => va_P D vwCl (wX10_stretches cI cJ cS a_o a_cells a_held a_kind a_other a_refused a_size a_space a_times z_steps z_speed z_base z_share z_notes z_pitch z_beats z_sort z_shown z_carried z_words z_tell z_was z_kept z_cutSpace z_cutTimes z_cutOff z_trace u.1 v_cars v_tunes v_along v_near v_borne v_tempo v_seed v_fault v_from v_at v_end v_told v_wrongAt v_culprit v_ran v_isKept g_cells f_held u.2.1 u.2.2.1 u.2.2.2.1 f_size u.2.2.2.2.1 u.2.2.2.2.2) t.heap) (va_A (wX10_stretches cI cJ cS a_o a_cells a_held a_kind a_other a_refused a_size a_space a_times z_steps z_speed z_base z_share z_notes z_pitch z_beats z_sort z_shown z_carried z_words z_tell z_was z_kept z_cutSpace z_cutTimes z_cutOff z_trace v_stretches v_cars v_tunes v_along v_near v_borne v_tempo v_seed v_fault v_from v_at v_end v_told v_wrongAt v_culprit v_ran v_isKept g_cells f_held f_kind f_other f_refused f_size f_space f_times) sz)) 0 0 (va_A (wX10_stretches cI cJ cS a_o a_cells a_held a_kind a_other a_refused a_size a_space a_times z_steps z_speed z_base z_share z_notes z_pitch z_beats z_sort z_shown z_carried z_words z_tell z_was z_kept z_cutSpace z_cutTimes z_cutOff z_trace v_stretches v_cars v_tunes v_along v_near v_borne v_tempo v_seed v_fault v_from v_at v_end v_told v_wrongAt v_culprit v_ran v_isKept g_cells f_held f_kind f_other f_refused f_size f_space f_times) sz) := by
  refine Met.rw (Qc := fun A => (va_Qi (fun r (u : Int32 × (Nat → Int32) × (Nat → Int32) × (Nat → Int32) × (Nat → Int32) × (Nat → Int32)) => post r u.1 u.2.1 u.2.2.1 u.2.2.2.1 u.2.2.2.2.1 u.2.2.2.2.2) (fun u t => va_P D vwCl (wX10_stretches cI cJ cS a_o a_cells a_held a_kind a_other a_refused a_size a_space a_times z_steps z_speed z_base z_share z_notes z_pitch z_beats z_sort z_shown z_carried z_words z_tell z_was z_kept z_cutSpace z_cutTimes z_cutOff z_trace u.1 v_cars v_tunes v_along v_near v_borne v_tempo v_seed v_fault v_from v_at v_end v_told v_wrongAt v_culprit v_ran v_isKept g_cells f_held u.2.1 u.2.2.1 u.2.2.2.1 f_size u.2.2.2.2.1 u.2.2.2.2.2) t.heap) A)) (by decide) (Nat.le_of_ble_eq_true rfl) (fun p e s m args below meth c ls A (S : CallFix p m c cX10_stretches 8 s args GW "RoadThatSingsModel") hE hT hP hD hA hS hr hlocks hname hl => ?_)
  have hS0 := hS
  have hx := S.1
  have hb := S.2.1
  have hl : lv_has ls 8 [(0, .ref a_o), (1, .int x1), (2, .int x2), (3, .int x3)] := hl
  unfold F_X10_stretches at h
  refine lv_aload_n hx hb dX10_stretches_0 rfl (lv_at hl 0 rfl) ?_
  refine lv_iload_n hx hb dX10_stretches_1 rfl (lv_at hl 1 rfl) ?_
  refine ro_i (roV S hE hT hS (c_X10_wants h) lkX10_142 rfl ⟨(Nat.le_of_ble_eq_true rfl), (Nat.le_of_ble_eq_true rfl)⟩ (hP.sub [0, 2] rfl) 0 rfl rfl hl.1 rfl (Nat.le_of_ble_eq_true rfl) dX10_stretches_2 ⟨(Nat.zero_le _), (Nat.zero_le _)⟩) (fun r2 h => ?_)
  refine lv_istore (lv' := [(4, .int r2), (0, .ref a_o), (1, .int x1), (2, .int x2), (3, .int x3)]) hx hb dX10_stretches_5 hl (by decide) rfl (fun ls hl => ?_)
  refine lv_iload hx hb dX10_stretches_7 (lv_at hl 0 rfl) ?_
  refine lv_if_eq (tgt := 19) hx hb dX10_stretches_9 (by decide) (fun hc => ?_) (fun hc => ?_)
  · have h := h.1 hc
    refine lv_iload_n hx hb dX10_stretches_19 rfl (lv_at hl 4 rfl) ?_
    refine lv_if_ge (tgt := 30) hx hb dX10_stretches_20 (by decide) (fun hc => ?_) (fun hc => ?_)
    · have h := h.1 hc
      refine lv_iload_n hx hb dX10_stretches_30 rfl (lv_at hl 3 rfl) ?_
      refine lv_if_lt (tgt := 46) hx hb dX10_stretches_31 (by decide) (fun hc => ?_) (fun hc => ?_)
      · have h := h.1 hc
        refine lv_aload_n hx hb dX10_stretches_46 rfl (lv_at hl 1 rfl) ?_
        refine lv_bipush (v := (-5)) hx hb dX10_stretches_47 (by decide) ?_
        refine rw_i (rwV S hE hT hS hP hD hA (c_X10_no h) [0, 5] rfl (by decide +kernel) lkX10_121 rfl ⟨(Nat.le_of_ble_eq_true rfl), (Nat.le_of_ble_eq_true rfl)⟩ 0 rfl rfl hl.1 rfl (Nat.le_of_ble_eq_true rfl) dX10_stretches_49 ⟨(Nat.zero_le _), (Nat.zero_le _)⟩) hP hD hS hA [0, 5] rfl (by decide +kernel) (fun _ => rfl) (fun r49 w49_0 H locs h hP hD hS => ?_)
        try dsimp only at h
        have hP : va_P D vwCl (wX10_stretches cI cJ cS a_o a_cells a_held a_kind a_other a_refused a_size a_space a_times z_steps z_speed z_base z_share z_notes z_pitch z_beats z_sort z_shown z_carried z_words z_tell z_was z_kept z_cutSpace z_cutTimes z_cutOff z_trace v_stretches v_cars v_tunes v_along v_near v_borne v_tempo v_seed v_fault v_from v_at v_end v_told v_wrongAt v_culprit v_ran v_isKept g_cells f_held f_kind f_other w49_0 f_size f_space f_times) H := hP
        have hD : va_D A (wX10_stretches cI cJ cS a_o a_cells a_held a_kind a_other a_refused a_size a_space a_times z_steps z_speed z_base z_share z_notes z_pitch z_beats z_sort z_shown z_carried z_words z_tell z_was z_kept z_cutSpace z_cutTimes z_cutOff z_trace v_stretches v_cars v_tunes v_along v_near v_borne v_tempo v_seed v_fault v_from v_at v_end v_told v_wrongAt v_culprit v_ran v_isKept g_cells f_held f_kind f_other w49_0 f_size f_space f_times) := hD
        exact W.iret hx hb hr (fun t ht _ => ⟨⟨_, (v_stretches, f_kind, f_other, w49_0, f_space, f_times), rfl, h, hPt hP ht⟩, hS.F ht⟩) hS.2.2 dX10_stretches_52
      have h := h.2 hc
      refine lv_iload_n hx hb dX10_stretches_34 rfl (lv_at hl 3 rfl) ?_
      refine lv_aload_n hx hb dX10_stretches_35 rfl (lv_at hl 1 rfl) ?_
      refine gf S hE hP 0 rfl rfl inX10 (k := 23) (by decide) q1116 rfl dX10_stretches_36 ?_
      refine lv_iload_n hx hb dX10_stretches_39 rfl (lv_at hl 2 rfl) ?_
      obtain ⟨hi, h⟩ := h
      refine ial S hE hP 6 rfl hi dX10_stretches_40 ?_
      refine lv_iload_n hx hb dX10_stretches_41 rfl (lv_at hl 4 rfl) ?_
      refine lv_isub hx hb dX10_stretches_42 ?_
      refine lv_icmp_le (tgt := 53) hx hb dX10_stretches_43 (by decide) (fun hc => ?_) (fun hc => ?_)
      · have h := h.1 hc
        refine lv_iload_n hx hb dX10_stretches_53 rfl (lv_at hl 4 rfl) ?_
        refine lv_iconst (v := 4) hx hb dX10_stretches_54 (by decide) ?_
        refine lv_irem hx hb dX10_stretches_55 (by decide) ?_
        refine lv_if_eq (tgt := 66) hx hb dX10_stretches_56 (by decide) (fun hc => ?_) (fun hc => ?_)
        · have h := h.1 hc
          refine lv_iconst (v := 0) hx hb dX10_stretches_66 (by decide) ?_
          refine lv_istore (lv' := [(5, .int 0), (4, .int r2), (0, .ref a_o), (1, .int x1), (2, .int x2), (3, .int x3)]) hx hb dX10_stretches_67 hl (by decide) rfl (fun ls hl => ?_)
          refine lv_iload_n hx hb dX10_stretches_69 rfl (lv_at hl 4 rfl) ?_
          refine lv_istore (lv' := [(6, .int x2), (5, .int 0), (4, .int r2), (0, .ref a_o), (1, .int x1), (2, .int x2), (3, .int x3)]) hx hb dX10_stretches_70 hl (by decide) rfl (fun ls hl => ?_)
          obtain ⟨n, h⟩ := h
          refine w_X10_stretches_72 S hE hT hA hr hlocks n _ _ _ _ _ _ _ _ _ _ h hP hD hS (lv_sub hl [3, 4, 5, 6, 1, 0] rfl)
        have h := h.2 hc
        refine lv_aload_n hx hb dX10_stretches_59 rfl (lv_at hl 1 rfl) ?_
        refine lv_bipush (v := (-6)) hx hb dX10_stretches_60 (by decide) ?_
        refine rw_i (rwV S hE hT hS hP hD hA (c_X10_no h) [0, 5] rfl (by decide +kernel) lkX10_121 rfl ⟨(Nat.le_of_ble_eq_true rfl), (Nat.le_of_ble_eq_true rfl)⟩ 0 rfl rfl hl.1 rfl (Nat.le_of_ble_eq_true rfl) dX10_stretches_62 ⟨(Nat.zero_le _), (Nat.zero_le _)⟩) hP hD hS hA [0, 5] rfl (by decide +kernel) (fun _ => rfl) (fun r62 w62_0 H locs h hP hD hS => ?_)
        try dsimp only at h
        have hP : va_P D vwCl (wX10_stretches cI cJ cS a_o a_cells a_held a_kind a_other a_refused a_size a_space a_times z_steps z_speed z_base z_share z_notes z_pitch z_beats z_sort z_shown z_carried z_words z_tell z_was z_kept z_cutSpace z_cutTimes z_cutOff z_trace v_stretches v_cars v_tunes v_along v_near v_borne v_tempo v_seed v_fault v_from v_at v_end v_told v_wrongAt v_culprit v_ran v_isKept g_cells f_held f_kind f_other w62_0 f_size f_space f_times) H := hP
        have hD : va_D A (wX10_stretches cI cJ cS a_o a_cells a_held a_kind a_other a_refused a_size a_space a_times z_steps z_speed z_base z_share z_notes z_pitch z_beats z_sort z_shown z_carried z_words z_tell z_was z_kept z_cutSpace z_cutTimes z_cutOff z_trace v_stretches v_cars v_tunes v_along v_near v_borne v_tempo v_seed v_fault v_from v_at v_end v_told v_wrongAt v_culprit v_ran v_isKept g_cells f_held f_kind f_other w62_0 f_size f_space f_times) := hD
        exact W.iret hx hb hr (fun t ht _ => ⟨⟨_, (v_stretches, f_kind, f_other, w62_0, f_space, f_times), rfl, h, hPt hP ht⟩, hS.F ht⟩) hS.2.2 dX10_stretches_65
      have h := h.2 hc
      refine lv_aload_n hx hb dX10_stretches_46 rfl (lv_at hl 1 rfl) ?_
      refine lv_bipush (v := (-5)) hx hb dX10_stretches_47 (by decide) ?_
      refine rw_i (rwV S hE hT hS hP hD hA (c_X10_no h) [0, 5] rfl (by decide +kernel) lkX10_121 rfl ⟨(Nat.le_of_ble_eq_true rfl), (Nat.le_of_ble_eq_true rfl)⟩ 0 rfl rfl hl.1 rfl (Nat.le_of_ble_eq_true rfl) dX10_stretches_49 ⟨(Nat.zero_le _), (Nat.zero_le _)⟩) hP hD hS hA [0, 5] rfl (by decide +kernel) (fun _ => rfl) (fun r49 w49_0 H locs h hP hD hS => ?_)
      try dsimp only at h
      have hP : va_P D vwCl (wX10_stretches cI cJ cS a_o a_cells a_held a_kind a_other a_refused a_size a_space a_times z_steps z_speed z_base z_share z_notes z_pitch z_beats z_sort z_shown z_carried z_words z_tell z_was z_kept z_cutSpace z_cutTimes z_cutOff z_trace v_stretches v_cars v_tunes v_along v_near v_borne v_tempo v_seed v_fault v_from v_at v_end v_told v_wrongAt v_culprit v_ran v_isKept g_cells f_held f_kind f_other w49_0 f_size f_space f_times) H := hP
      have hD : va_D A (wX10_stretches cI cJ cS a_o a_cells a_held a_kind a_other a_refused a_size a_space a_times z_steps z_speed z_base z_share z_notes z_pitch z_beats z_sort z_shown z_carried z_words z_tell z_was z_kept z_cutSpace z_cutTimes z_cutOff z_trace v_stretches v_cars v_tunes v_along v_near v_borne v_tempo v_seed v_fault v_from v_at v_end v_told v_wrongAt v_culprit v_ran v_isKept g_cells f_held f_kind f_other w49_0 f_size f_space f_times) := hD
      exact W.iret hx hb hr (fun t ht _ => ⟨⟨_, (v_stretches, f_kind, f_other, w49_0, f_space, f_times), rfl, h, hPt hP ht⟩, hS.F ht⟩) hS.2.2 dX10_stretches_52
    have h := h.2 hc
    refine lv_aload_n hx hb dX10_stretches_23 rfl (lv_at hl 1 rfl) ?_
    refine lv_bipush (v := (-4)) hx hb dX10_stretches_24 (by decide) ?_
    refine rw_i (rwV S hE hT hS hP hD hA (c_X10_no h) [0, 5] rfl (by decide +kernel) lkX10_121 rfl ⟨(Nat.le_of_ble_eq_true rfl), (Nat.le_of_ble_eq_true rfl)⟩ 0 rfl rfl hl.1 rfl (Nat.le_of_ble_eq_true rfl) dX10_stretches_26 ⟨(Nat.zero_le _), (Nat.zero_le _)⟩) hP hD hS hA [0, 5] rfl (by decide +kernel) (fun _ => rfl) (fun r26 w26_0 H locs h hP hD hS => ?_)
    try dsimp only at h
    have hP : va_P D vwCl (wX10_stretches cI cJ cS a_o a_cells a_held a_kind a_other a_refused a_size a_space a_times z_steps z_speed z_base z_share z_notes z_pitch z_beats z_sort z_shown z_carried z_words z_tell z_was z_kept z_cutSpace z_cutTimes z_cutOff z_trace v_stretches v_cars v_tunes v_along v_near v_borne v_tempo v_seed v_fault v_from v_at v_end v_told v_wrongAt v_culprit v_ran v_isKept g_cells f_held f_kind f_other w26_0 f_size f_space f_times) H := hP
    have hD : va_D A (wX10_stretches cI cJ cS a_o a_cells a_held a_kind a_other a_refused a_size a_space a_times z_steps z_speed z_base z_share z_notes z_pitch z_beats z_sort z_shown z_carried z_words z_tell z_was z_kept z_cutSpace z_cutTimes z_cutOff z_trace v_stretches v_cars v_tunes v_along v_near v_borne v_tempo v_seed v_fault v_from v_at v_end v_told v_wrongAt v_culprit v_ran v_isKept g_cells f_held f_kind f_other w26_0 f_size f_space f_times) := hD
    exact W.iret hx hb hr (fun t ht _ => ⟨⟨_, (v_stretches, f_kind, f_other, w26_0, f_space, f_times), rfl, h, hPt hP ht⟩, hS.F ht⟩) hS.2.2 dX10_stretches_29
  have h := h.2 hc
  refine lv_aload_n hx hb dX10_stretches_12 rfl (lv_at hl 1 rfl) ?_
  refine lv_iload hx hb dX10_stretches_13 (lv_at hl 0 rfl) ?_
  refine rw_i (rwV S hE hT hS hP hD hA (c_X10_no h) [0, 5] rfl (by decide +kernel) lkX10_121 rfl ⟨(Nat.le_of_ble_eq_true rfl), (Nat.le_of_ble_eq_true rfl)⟩ 0 rfl rfl hl.1 rfl (Nat.le_of_ble_eq_true rfl) dX10_stretches_15 ⟨(Nat.zero_le _), (Nat.zero_le _)⟩) hP hD hS hA [0, 5] rfl (by decide +kernel) (fun _ => rfl) (fun r15 w15_0 H locs h hP hD hS => ?_)
  try dsimp only at h
  have hP : va_P D vwCl (wX10_stretches cI cJ cS a_o a_cells a_held a_kind a_other a_refused a_size a_space a_times z_steps z_speed z_base z_share z_notes z_pitch z_beats z_sort z_shown z_carried z_words z_tell z_was z_kept z_cutSpace z_cutTimes z_cutOff z_trace v_stretches v_cars v_tunes v_along v_near v_borne v_tempo v_seed v_fault v_from v_at v_end v_told v_wrongAt v_culprit v_ran v_isKept g_cells f_held f_kind f_other w15_0 f_size f_space f_times) H := hP
  have hD : va_D A (wX10_stretches cI cJ cS a_o a_cells a_held a_kind a_other a_refused a_size a_space a_times z_steps z_speed z_base z_share z_notes z_pitch z_beats z_sort z_shown z_carried z_words z_tell z_was z_kept z_cutSpace z_cutTimes z_cutOff z_trace v_stretches v_cars v_tunes v_along v_near v_borne v_tempo v_seed v_fault v_from v_at v_end v_told v_wrongAt v_culprit v_ran v_isKept g_cells f_held f_kind f_other w15_0 f_size f_space f_times) := hD
  exact W.iret hx hb hr (fun t ht _ => ⟨⟨_, (v_stretches, f_kind, f_other, w15_0, f_space, f_times), rfl, h, hPt hP ht⟩, hS.F ht⟩) hS.2.2 dX10_stretches_18
