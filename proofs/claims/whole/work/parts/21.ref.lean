/-! X10_isWordAt -/
abbrev wX10_isWordAt (cI cJ cS : ClassId) (a_o a_cells a_words : Nat) (z_refused z_steps z_kind z_space z_other z_times z_speed z_base z_share z_notes z_pitch z_beats z_held z_sort z_size z_shown z_carried z_tell z_was z_kept z_cutSpace z_cutTimes z_cutOff z_trace : Value) (v_stretches : Int32) (v_cars : Int32) (v_tunes : Int32) (v_along : Int32) (v_near : Int32) (v_borne : Int32) (v_tempo : Int32) (v_seed : Int32) (v_fault : Int32) (v_from : Int32) (v_at : Int32) (v_end : Int32) (v_told : Int32) (v_wrongAt : Int32) (v_culprit : Int32) (v_ran : Int32) (v_isKept : Int32) (g_cells : Nat → Int64) (f_words : Nat → Int32) : va_W := [(a_o, .inr (9, [.int v_stretches, .int v_cars, .int v_tunes, .int v_along, .int v_near, .int v_borne, .int v_tempo, .int v_seed, .int v_fault, z_refused, z_steps, z_kind, z_space, z_other, z_times, z_speed, z_base, z_share, z_notes, z_pitch, z_beats, z_held, z_sort, z_size, z_shown, .ref a_cells, z_carried, .ref a_words, z_tell, .int v_from, .int v_at, .int v_end, .int v_told, .int v_wrongAt, z_was, z_kept, .int v_culprit, z_cutSpace, z_cutTimes, z_cutOff, z_trace, .int v_ran, .int v_isKept])), (a_cells, .inl (cJ, 1280, .inr (.inl g_cells))), (a_words, .inl (cI, 79, .inl f_words))]
def L_X10_isWordAt_37 (v_from : Int32) (v_end : Int32) (g_cells : Nat → Int64) (f_words : Nat → Int32) (k86 : Int32 → Prop) : Nat → Int32 → Int32 → Prop
  | 0, _, _ => False
  | n37 + 1, x2, x3 => (vp_in x2 79 ∧ (((f_words x2.toNatClampNeg) ≤ 32 → k86 x2) ∧ (¬ (f_words x2.toNatClampNeg) ≤ 32 → ((v_end ≤ x3 → k86 x2) ∧ (¬ v_end ≤ x3 → (vp_in (v_from + x3) 1280 ∧ (vp_in x2 79 ∧ ((((g_cells (v_from + x3).toNatClampNeg).toInt32) = (f_words x2.toNatClampNeg) → (∀ x3_77 : Int32, x3_77 = x3 + 1 → (∀ x2_80 : Int32, x2_80 = x2 + 1 → L_X10_isWordAt_37 v_from v_end g_cells f_words k86 n37 x2_80 x3_77))) ∧ (¬ ((g_cells (v_from + x3).toNatClampNeg).toInt32) = (f_words x2.toNatClampNeg) → k86 x2)))))))))
def F_X10_isWordAt_86 (f_words : Nat → Int32) (post : Int32 → Prop) (x2 : Int32) : Prop := (vp_in x2 79 ∧ ((32 < (f_words x2.toNatClampNeg) → post 0) ∧ (¬ 32 < (f_words x2.toNatClampNeg) → post 1)))
def F_X10_isWordAt_24 (k4 : Int32 → Int32 → Prop) (x1 : Int32) (x2 : Int32) (s0 : Int32) (s1 : Int32) : Prop := (∀ x3_25 : Int32, x3_25 = s1 + s0 → (∀ x2_26 : Int32, x2_26 = x2 + 1 → k4 x2_26 x3_25))
def L_X10_isWordAt_4 (v_from : Int32) (v_at : Int32) (v_end : Int32) (g_cells : Nat → Int64) (f_words : Nat → Int32) (x1 : Int32) (post : Int32 → Prop) : Nat → Int32 → Int32 → Prop
  | 0, _, _ => False
  | n4 + 1, x2, x3 => ((x1 ≤ x3 → (∃ n37 : Nat, L_X10_isWordAt_37 v_from v_end g_cells f_words (fun x2_1 => F_X10_isWordAt_86 f_words post x2_1) n37 x2 v_at)) ∧ (¬ x1 ≤ x3 → (vp_in x2 79 ∧ (((f_words x2.toNatClampNeg) = 0 → F_X10_isWordAt_24 (fun x2 x3 => L_X10_isWordAt_4 v_from v_at v_end g_cells f_words x1 post n4 x2 x3) x1 x2 1 x3) ∧ (¬ (f_words x2.toNatClampNeg) = 0 → F_X10_isWordAt_24 (fun x2 x3 => L_X10_isWordAt_4 v_from v_at v_end g_cells f_words x1 post n4 x2 x3) x1 x2 0 x3)))))
def F_X10_isWordAt (v_from : Int32) (v_at : Int32) (v_end : Int32) (g_cells : Nat → Int64) (f_words : Nat → Int32) (x1 : Int32) (post : Int32 → Prop) : Prop := (∃ n4 : Nat, L_X10_isWordAt_4 v_from v_at v_end g_cells f_words x1 post n4 0 0)
set_option maxHeartbeats 4000000 in
set_option maxRecDepth 100000 in
theorem w_X10_isWordAt_37 {l : Launch} {D : va_G} {cI cJ cS : ClassId} {ad adK : Nat → Nat} {a_o a_cells a_words : Nat} {z_refused z_steps z_kind z_space z_other z_times z_speed z_base z_share z_notes z_pitch z_beats z_held z_sort z_size z_shown z_carried z_tell z_was z_kept z_cutSpace z_cutTimes z_cutOff z_trace : Value} {v_stretches : Int32} {v_cars : Int32} {v_tunes : Int32} {v_along : Int32} {v_near : Int32} {v_borne : Int32} {v_tempo : Int32} {v_seed : Int32} {v_fault : Int32} {v_from : Int32} {v_at : Int32} {v_end : Int32} {v_told : Int32} {v_wrongAt : Int32} {v_culprit : Int32} {v_ran : Int32} {v_isKept : Int32} {g_cells : Nat → Int64} {f_words : Nat → Int32} {post : Int32 → Prop} {k86 : Int32 → Prop} {p : Program} {e : Env} {s : State} {m : MethodId} {args : Array Value} {below : List Frame} {meth : Method} {c : Code} (S : CallFix p m c cX10_isWordAt 4 s args GW "RoadThatSingsModel") (hE : EN D cI cJ cS s) (hT : ST ad adK nof s s.heap) (hP : va_P D vwCl (wX10_isWordAt cI cJ cS a_o a_cells a_words z_refused z_steps z_kind z_space z_other z_times z_speed z_base z_share z_notes z_pitch z_beats z_held z_sort z_size z_shown z_carried z_tell z_was z_kept z_cutSpace z_cutTimes z_cutOff z_trace v_stretches v_cars v_tunes v_along v_near v_borne v_tempo v_seed v_fault v_from v_at v_end v_told v_wrongAt v_culprit v_ran v_isKept g_cells f_words) s.heap) (hS : va_S nof s.heap s.heap []) (hr : meth.sig.returnType = (some (.boolean))) (hlocks : meth.locks = false) (hk86 : ∀ (x2 : Int32) (ls : Array Slot), k86 x2 → lv_has ls 4 [(0, .ref a_o), (2, .int x2)] → W p l e (rmd 0 0 0) s m args below meth c s.heap [] 0 0 (MQ below (vp_Si post) args s 0 0 nof) (F0 m 86 ls [])) : ∀ n : Nat, ∀ (x2 : Int32) (x3 : Int32) (ls : Array Slot), L_X10_isWordAt_37 v_from v_end g_cells f_words k86 n x2 x3 → lv_has ls 4 [(0, .ref a_o), (2, .int x2), (3, .int x3)] → W p l e (rmd 0 0 0) s m args below meth c s.heap [] 0 0 (MQ below (vp_Si post) args s 0 0 nof) (F0 m 37 ls []) := by
  intro n
  induction n with
  | zero =>
    intro x2 x3 ls h hl
    exact h.elim
  | succ n ih =>
    intro x2 x3 ls h hl
    rw [L_X10_isWordAt_37] at h
    have hx := S.1
    have hb := S.2.1
    refine lv_aload_n hx hb dX10_isWordAt_37 rfl (lv_at hl 0 rfl) ?_
    refine gf S hE hP 0 rfl rfl inX10 (k := 27) (by decide) q1120 rfl dX10_isWordAt_38 ?_
    refine lv_iload_n hx hb dX10_isWordAt_41 rfl (lv_at hl 1 rfl) ?_
    obtain ⟨hi, h⟩ := h
    refine ial S hE hP 2 rfl hi dX10_isWordAt_42 ?_
    refine lv_bipush (v := 32) hx hb dX10_isWordAt_43 (by decide) ?_
    refine lv_icmp_le (tgt := 86) hx hb dX10_isWordAt_45 (by decide) (fun hc => ?_) (fun hc => ?_)
    · have h := h.1 hc
      exact hk86 _ _ h (lv_sub hl [0, 1] rfl)
    have h := h.2 hc
    refine lv_iload_n hx hb dX10_isWordAt_48 rfl (lv_at hl 2 rfl) ?_
    refine lv_aload_n hx hb dX10_isWordAt_49 rfl (lv_at hl 0 rfl) ?_
    refine gf S hE hP 0 rfl rfl inX10 (k := 31) (by decide) q1124 rfl dX10_isWordAt_50 ?_
    refine lv_icmp_ge (tgt := 86) hx hb dX10_isWordAt_53 (by decide) (fun hc => ?_) (fun hc => ?_)
    · have h := h.1 hc
      exact hk86 _ _ h (lv_sub hl [0, 1] rfl)
    have h := h.2 hc
    refine lv_aload_n hx hb dX10_isWordAt_56 rfl (lv_at hl 0 rfl) ?_
    refine gf S hE hP 0 rfl rfl inX10 (k := 25) (by decide) q1118 rfl dX10_isWordAt_57 ?_
    refine lv_aload_n hx hb dX10_isWordAt_60 rfl (lv_at hl 0 rfl) ?_
    refine gf S hE hP 0 rfl rfl inX10 (k := 29) (by decide) q1122 rfl dX10_isWordAt_61 ?_
    refine lv_iload_n hx hb dX10_isWordAt_64 rfl (lv_at hl 2 rfl) ?_
    refine lv_iadd hx hb dX10_isWordAt_65 ?_
    obtain ⟨hi, h⟩ := h
    refine lal S hE hP 1 rfl hi dX10_isWordAt_66 ?_
    refine lv_l2i hx hb dX10_isWordAt_67 rfl ?_
    refine lv_aload_n hx hb dX10_isWordAt_68 rfl (lv_at hl 0 rfl) ?_
    refine gf S hE hP 0 rfl rfl inX10 (k := 27) (by decide) q1120 rfl dX10_isWordAt_69 ?_
    refine lv_iload_n hx hb dX10_isWordAt_72 rfl (lv_at hl 1 rfl) ?_
    obtain ⟨hi, h⟩ := h
    refine ial S hE hP 2 rfl hi dX10_isWordAt_73 ?_
    refine lv_icmp_ne (tgt := 86) hx hb dX10_isWordAt_74 (by decide) (fun hc => ?_) (fun hc => ?_)
    · have h := h.2 hc
      exact hk86 _ _ h (lv_sub hl [0, 1] rfl)
    have h := h.1 hc
    obtain ⟨x3_77, ex3_77⟩ : ∃ z : Int32, z = x3 + 1 := ⟨_, rfl⟩
    have h := h _ ex3_77
    refine lv_iinc (v := x3_77) (lv' := [(3, .int x3_77), (0, .ref a_o), (2, .int x2)]) hx hb dX10_isWordAt_77 hl (k := 2) rfl (by rw [ex3_77]; rfl) (by decide) rfl (fun ls hl => ?_)
    obtain ⟨x2_80, ex2_80⟩ : ∃ z : Int32, z = x2 + 1 := ⟨_, rfl⟩
    have h := h _ ex2_80
    refine lv_iinc (v := x2_80) (lv' := [(2, .int x2_80), (3, .int x3_77), (0, .ref a_o)]) hx hb dX10_isWordAt_80 hl (k := 2) rfl (by rw [ex2_80]; rfl) (by decide) rfl (fun ls hl => ?_)
    refine lv_goto (tgt := 37) hx hb dX10_isWordAt_83 (by decide) ?_
    exact ih _ _ _ h (lv_sub hl [2, 0, 1] rfl)
set_option maxHeartbeats 4000000 in
set_option maxRecDepth 100000 in
theorem w_X10_isWordAt_86 {l : Launch} {D : va_G} {cI cJ cS : ClassId} {ad adK : Nat → Nat} {a_o a_cells a_words : Nat} {z_refused z_steps z_kind z_space z_other z_times z_speed z_base z_share z_notes z_pitch z_beats z_held z_sort z_size z_shown z_carried z_tell z_was z_kept z_cutSpace z_cutTimes z_cutOff z_trace : Value} {v_stretches : Int32} {v_cars : Int32} {v_tunes : Int32} {v_along : Int32} {v_near : Int32} {v_borne : Int32} {v_tempo : Int32} {v_seed : Int32} {v_fault : Int32} {v_from : Int32} {v_at : Int32} {v_end : Int32} {v_told : Int32} {v_wrongAt : Int32} {v_culprit : Int32} {v_ran : Int32} {v_isKept : Int32} {g_cells : Nat → Int64} {f_words : Nat → Int32} {x2 : Int32} {post : Int32 → Prop} {p : Program} {e : Env} {s : State} {m : MethodId} {args : Array Value} {below : List Frame} {meth : Method} {c : Code} (S : CallFix p m c cX10_isWordAt 4 s args GW "RoadThatSingsModel") (hE : EN D cI cJ cS s) (hT : ST ad adK nof s s.heap) (hP : va_P D vwCl (wX10_isWordAt cI cJ cS a_o a_cells a_words z_refused z_steps z_kind z_space z_other z_times z_speed z_base z_share z_notes z_pitch z_beats z_held z_sort z_size z_shown z_carried z_tell z_was z_kept z_cutSpace z_cutTimes z_cutOff z_trace v_stretches v_cars v_tunes v_along v_near v_borne v_tempo v_seed v_fault v_from v_at v_end v_told v_wrongAt v_culprit v_ran v_isKept g_cells f_words) s.heap) (hS : va_S nof s.heap s.heap []) (hr : meth.sig.returnType = (some (.boolean))) (hlocks : meth.locks = false) : ∀ (ls : Array Slot), F_X10_isWordAt_86 f_words post x2 → lv_has ls 4 [(0, .ref a_o), (2, .int x2)] → W p l e (rmd 0 0 0) s m args below meth c s.heap [] 0 0 (MQ below (vp_Si post) args s 0 0 nof) (F0 m 86 ls []) := by
  intro  ls h hl
  unfold F_X10_isWordAt_86 at h
  have hx := S.1
  have hb := S.2.1
  refine lv_aload_n hx hb dX10_isWordAt_86 rfl (lv_at hl 0 rfl) ?_
  refine gf S hE hP 0 rfl rfl inX10 (k := 27) (by decide) q1120 rfl dX10_isWordAt_87 ?_
  refine lv_iload_n hx hb dX10_isWordAt_90 rfl (lv_at hl 1 rfl) ?_
  obtain ⟨hi, h⟩ := h
  refine ial S hE hP 2 rfl hi dX10_isWordAt_91 ?_
  refine lv_bipush (v := 32) hx hb dX10_isWordAt_92 (by decide) ?_
  refine lv_icmp_gt (tgt := 101) hx hb dX10_isWordAt_94 (by decide) (fun hc => ?_) (fun hc => ?_)
  · have h := h.1 hc
    refine lv_iconst (v := 0) hx hb dX10_isWordAt_101 (by decide) ?_
    exact W.zret hx hb hr rfl (fun t ht _ => ⟨_, rfl, h, ht⟩) (fun _ hq => by cases hq) dX10_isWordAt_102
  have h := h.2 hc
  refine lv_iconst (v := 1) hx hb dX10_isWordAt_97 (by decide) ?_
  refine lv_goto (tgt := 102) hx hb dX10_isWordAt_98 (by decide) ?_
  exact W.zret hx hb hr rfl (fun t ht _ => ⟨_, rfl, h, ht⟩) (fun _ hq => by cases hq) dX10_isWordAt_102
set_option maxHeartbeats 4000000 in
set_option maxRecDepth 100000 in
theorem w_X10_isWordAt_24 {l : Launch} {D : va_G} {cI cJ cS : ClassId} {ad adK : Nat → Nat} {a_o a_cells a_words : Nat} {z_refused z_steps z_kind z_space z_other z_times z_speed z_base z_share z_notes z_pitch z_beats z_held z_sort z_size z_shown z_carried z_tell z_was z_kept z_cutSpace z_cutTimes z_cutOff z_trace : Value} {v_stretches : Int32} {v_cars : Int32} {v_tunes : Int32} {v_along : Int32} {v_near : Int32} {v_borne : Int32} {v_tempo : Int32} {v_seed : Int32} {v_fault : Int32} {v_from : Int32} {v_at : Int32} {v_end : Int32} {v_told : Int32} {v_wrongAt : Int32} {v_culprit : Int32} {v_ran : Int32} {v_isKept : Int32} {g_cells : Nat → Int64} {f_words : Nat → Int32} {x1 : Int32} {x2 : Int32} {s0 : Int32} {s1 : Int32} {post : Int32 → Prop} {k4 : Int32 → Int32 → Prop} {p : Program} {e : Env} {s : State} {m : MethodId} {args : Array Value} {below : List Frame} {meth : Method} {c : Code} (S : CallFix p m c cX10_isWordAt 4 s args GW "RoadThatSingsModel") (hE : EN D cI cJ cS s) (hT : ST ad adK nof s s.heap) (hP : va_P D vwCl (wX10_isWordAt cI cJ cS a_o a_cells a_words z_refused z_steps z_kind z_space z_other z_times z_speed z_base z_share z_notes z_pitch z_beats z_held z_sort z_size z_shown z_carried z_tell z_was z_kept z_cutSpace z_cutTimes z_cutOff z_trace v_stretches v_cars v_tunes v_along v_near v_borne v_tempo v_seed v_fault v_from v_at v_end v_told v_wrongAt v_culprit v_ran v_isKept g_cells f_words) s.heap) (hS : va_S nof s.heap s.heap []) (hr : meth.sig.returnType = (some (.boolean))) (hlocks : meth.locks = false) (hk4 : ∀ (x2 : Int32) (x3 : Int32) (ls : Array Slot), k4 x2 x3 → lv_has ls 4 [(0, .ref a_o), (1, .int x1), (2, .int x2), (3, .int x3)] → W p l e (rmd 0 0 0) s m args below meth c s.heap [] 0 0 (MQ below (vp_Si post) args s 0 0 nof) (F0 m 4 ls [])) : ∀ (ls : Array Slot), F_X10_isWordAt_24 k4 x1 x2 s0 s1 → lv_has ls 4 [(0, .ref a_o), (1, .int x1), (2, .int x2)] → W p l e (rmd 0 0 0) s m args below meth c s.heap [] 0 0 (MQ below (vp_Si post) args s 0 0 nof) (F0 m 24 ls [.int s0, .int s1]) := by
  intro  ls h hl
  unfold F_X10_isWordAt_24 at h
  have hx := S.1
  have hb := S.2.1
  refine lv_iadd hx hb dX10_isWordAt_24 ?_
  refine lv_topi (fun x3_25 ex3_25 => ?_)
  have h := h _ ex3_25
  refine lv_istore_n (lv' := [(3, .int x3_25), (0, .ref a_o), (1, .int x1), (2, .int x2)]) hx hb dX10_isWordAt_25 rfl hl (by decide) rfl (fun ls hl => ?_)
  obtain ⟨x2_26, ex2_26⟩ : ∃ z : Int32, z = x2 + 1 := ⟨_, rfl⟩
  have h := h _ ex2_26
  refine lv_iinc (v := x2_26) (lv' := [(2, .int x2_26), (3, .int x3_25), (0, .ref a_o), (1, .int x1)]) hx hb dX10_isWordAt_26 hl (k := 3) rfl (by rw [ex2_26]; rfl) (by decide) rfl (fun ls hl => ?_)
  refine lv_goto (tgt := 4) hx hb dX10_isWordAt_29 (by decide) ?_
  exact hk4 _ _ _ h (lv_sub hl [2, 3, 0, 1] rfl)
set_option maxHeartbeats 4000000 in
set_option maxRecDepth 100000 in
theorem w_X10_isWordAt_4 {l : Launch} {D : va_G} {cI cJ cS : ClassId} {ad adK : Nat → Nat} {a_o a_cells a_words : Nat} {z_refused z_steps z_kind z_space z_other z_times z_speed z_base z_share z_notes z_pitch z_beats z_held z_sort z_size z_shown z_carried z_tell z_was z_kept z_cutSpace z_cutTimes z_cutOff z_trace : Value} {v_stretches : Int32} {v_cars : Int32} {v_tunes : Int32} {v_along : Int32} {v_near : Int32} {v_borne : Int32} {v_tempo : Int32} {v_seed : Int32} {v_fault : Int32} {v_from : Int32} {v_at : Int32} {v_end : Int32} {v_told : Int32} {v_wrongAt : Int32} {v_culprit : Int32} {v_ran : Int32} {v_isKept : Int32} {g_cells : Nat → Int64} {f_words : Nat → Int32} {x1 : Int32} {post : Int32 → Prop} {p : Program} {e : Env} {s : State} {m : MethodId} {args : Array Value} {below : List Frame} {meth : Method} {c : Code} (S : CallFix p m c cX10_isWordAt 4 s args GW "RoadThatSingsModel") (hE : EN D cI cJ cS s) (hT : ST ad adK nof s s.heap) (hP : va_P D vwCl (wX10_isWordAt cI cJ cS a_o a_cells a_words z_refused z_steps z_kind z_space z_other z_times z_speed z_base z_share z_notes z_pitch z_beats z_held z_sort z_size z_shown z_carried z_tell z_was z_kept z_cutSpace z_cutTimes z_cutOff z_trace v_stretches v_cars v_tunes v_along v_near v_borne v_tempo v_seed v_fault v_from v_at v_end v_told v_wrongAt v_culprit v_ran v_isKept g_cells f_words) s.heap) (hS : va_S nof s.heap s.heap []) (hr : meth.sig.returnType = (some (.boolean))) (hlocks : meth.locks = false) : ∀ n : Nat, ∀ (x2 : Int32) (x3 : Int32) (ls : Array Slot), L_X10_isWordAt_4 v_from v_at v_end g_cells f_words x1 post n x2 x3 → lv_has ls 4 [(0, .ref a_o), (1, .int x1), (2, .int x2), (3, .int x3)] → W p l e (rmd 0 0 0) s m args below meth c s.heap [] 0 0 (MQ below (vp_Si post) args s 0 0 nof) (F0 m 4 ls []) := by
  intro n
  induction n with
  | zero =>
    intro x2 x3 ls h hl
    exact h.elim
  | succ n ih =>
    intro x2 x3 ls h hl
    rw [L_X10_isWordAt_4] at h
    have hx := S.1
    have hb := S.2.1
    refine lv_iload_n hx hb dX10_isWordAt_4 rfl (lv_at hl 3 rfl) ?_
    refine lv_iload_n hx hb dX10_isWordAt_5 rfl (lv_at hl 1 rfl) ?_
    refine lv_icmp_ge (tgt := 32) hx hb dX10_isWordAt_6 (by decide) (fun hc => ?_) (fun hc => ?_)
    · have h := h.1 hc
      refine lv_aload_n hx hb dX10_isWordAt_32 rfl (lv_at hl 0 rfl) ?_
      refine gf S hE hP 0 rfl rfl inX10 (k := 30) (by decide) q1123 rfl dX10_isWordAt_33 ?_
      refine lv_istore_n (lv' := [(3, .int v_at), (0, .ref a_o), (1, .int x1), (2, .int x2)]) hx hb dX10_isWordAt_36 rfl hl (by decide) rfl (fun ls hl => ?_)
      obtain ⟨n, h⟩ := h
      refine w_X10_isWordAt_37 S hE hT hP hS hr hlocks (fun x2_1 ls h hl => ?_) n _ _ _ h (lv_sub hl [1, 3, 0] rfl)
      refine w_X10_isWordAt_86 S hE hT hP hS hr hlocks _ h (lv_sub hl [0, 1] rfl)
    have h := h.2 hc
    refine lv_iload_n hx hb dX10_isWordAt_9 rfl (lv_at hl 3 rfl) ?_
    refine lv_aload_n hx hb dX10_isWordAt_10 rfl (lv_at hl 0 rfl) ?_
    refine gf S hE hP 0 rfl rfl inX10 (k := 27) (by decide) q1120 rfl dX10_isWordAt_11 ?_
    refine lv_iload_n hx hb dX10_isWordAt_14 rfl (lv_at hl 2 rfl) ?_
    obtain ⟨hi, h⟩ := h
    refine ial S hE hP 2 rfl hi dX10_isWordAt_15 ?_
    refine lv_if_ne (tgt := 23) hx hb dX10_isWordAt_16 (by decide) (fun hc => ?_) (fun hc => ?_)
    · have h := h.2 hc
      refine lv_iconst (v := 0) hx hb dX10_isWordAt_23 (by decide) ?_
      refine w_X10_isWordAt_24 S hE hT hP hS hr hlocks ih _ h (lv_sub hl [0, 1, 2] rfl)
    have h := h.1 hc
    refine lv_iconst (v := 1) hx hb dX10_isWordAt_19 (by decide) ?_
    refine lv_goto (tgt := 24) hx hb dX10_isWordAt_20 (by decide) ?_
    refine w_X10_isWordAt_24 S hE hT hP hS hr hlocks ih _ h (lv_sub hl [0, 1, 2] rfl)
set_option maxHeartbeats 4000000 in
set_option maxRecDepth 100000 in
theorem c_X10_isWordAt {l : Launch} {D : va_G} {cI cJ cS : ClassId} {ad adK : Nat → Nat} {a_o a_cells a_words : Nat} {z_refused z_steps z_kind z_space z_other z_times z_speed z_base z_share z_notes z_pitch z_beats z_held z_sort z_size z_shown z_carried z_tell z_was z_kept z_cutSpace z_cutTimes z_cutOff z_trace : Value} {v_stretches : Int32} {v_cars : Int32} {v_tunes : Int32} {v_along : Int32} {v_near : Int32} {v_borne : Int32} {v_tempo : Int32} {v_seed : Int32} {v_fault : Int32} {v_from : Int32} {v_at : Int32} {v_end : Int32} {v_told : Int32} {v_wrongAt : Int32} {v_culprit : Int32} {v_ran : Int32} {v_isKept : Int32} {g_cells : Nat → Int64} {f_words : Nat → Int32} {x1 : Int32} {post : Int32 → Prop} (h : F_X10_isWordAt v_from v_at v_end g_cells f_words x1 post) : Met l yX10_isWordAt (Cond.code yX10_isWordAt cX10_isWordAt 4 (some (.boolean)) :: GW) (rmd 0 0 0) (PR D cI cJ cS ad adK [.ref a_o, .int x1] (wX10_isWordAt cI cJ cS a_o a_cells a_words z_refused z_steps z_kind z_space z_other z_times z_speed z_base z_share z_notes z_pitch z_beats z_held z_sort z_size z_shown z_carried z_tell z_was z_kept z_cutSpace z_cutTimes z_cutOff z_trace v_stretches v_cars v_tunes v_along v_near v_borne v_tempo v_seed v_fault v_from v_at v_end v_told v_wrongAt v_culprit v_ran v_isKept g_cells f_words)) (vp_Si post) 0 0 nof := by
  refine Met.ro (by decide) (Nat.le_of_ble_eq_true rfl) (fun p e s m args below meth c ls (S : CallFix p m c cX10_isWordAt 4 s args GW "RoadThatSingsModel") hE hT hP hS hr hlocks hl => ?_)
  have hx := S.1
  have hb := S.2.1
  have hl : lv_has ls 4 [(0, .ref a_o), (1, .int x1)] := hl
  unfold F_X10_isWordAt at h
  refine lv_iconst (v := 0) hx hb dX10_isWordAt_0 (by decide) ?_
  refine lv_istore_n (lv' := [(2, .int 0), (0, .ref a_o), (1, .int x1)]) hx hb dX10_isWordAt_1 rfl hl (by decide) rfl (fun ls hl => ?_)
  refine lv_iconst (v := 0) hx hb dX10_isWordAt_2 (by decide) ?_
  refine lv_istore_n (lv' := [(3, .int 0), (2, .int 0), (0, .ref a_o), (1, .int x1)]) hx hb dX10_isWordAt_3 rfl hl (by decide) rfl (fun ls hl => ?_)
  obtain ⟨n, h⟩ := h
  refine w_X10_isWordAt_4 S hE hT hP hS hr hlocks n _ _ _ h (lv_sub hl [2, 3, 1, 0] rfl)
/-! X10_item -/
abbrev wX10_item (cI cJ cS : ClassId) (a_o a_base a_beats a_cells a_kind a_notes a_other a_pitch a_share a_space a_speed a_tell a_times a_words : Nat) (z_refused z_steps z_held z_sort z_size z_shown z_carried z_was z_kept z_cutSpace z_cutTimes z_cutOff z_trace : Value) (v_stretches : Int32) (v_cars : Int32) (v_tunes : Int32) (v_along : Int32) (v_near : Int32) (v_borne : Int32) (v_tempo : Int32) (v_seed : Int32) (v_fault : Int32) (v_from : Int32) (v_at : Int32) (v_end : Int32) (v_told : Int32) (v_wrongAt : Int32) (v_culprit : Int32) (v_ran : Int32) (v_isKept : Int32) (f_base : Nat → Int32) (f_beats : Nat → Int32) (g_cells : Nat → Int64) (f_kind : Nat → Int32) (f_notes : Nat → Int32) (f_other : Nat → Int32) (f_pitch : Nat → Int32) (f_share : Nat → Int32) (f_space : Nat → Int32) (f_speed : Nat → Int32) (f_tell : Nat → Int32) (f_times : Nat → Int32) (f_words : Nat → Int32) : va_W := [(a_o, .inr (9, [.int v_stretches, .int v_cars, .int v_tunes, .int v_along, .int v_near, .int v_borne, .int v_tempo, .int v_seed, .int v_fault, z_refused, z_steps, .ref a_kind, .ref a_space, .ref a_other, .ref a_times, .ref a_speed, .ref a_base, .ref a_share, .ref a_notes, .ref a_pitch, .ref a_beats, z_held, z_sort, z_size, z_shown, .ref a_cells, z_carried, .ref a_words, .ref a_tell, .int v_from, .int v_at, .int v_end, .int v_told, .int v_wrongAt, z_was, z_kept, .int v_culprit, z_cutSpace, z_cutTimes, z_cutOff, z_trace, .int v_ran, .int v_isKept])), (a_base, .inl (cI, 6, .inl f_base)), (a_beats, .inl (cI, 72, .inl f_beats)), (a_cells, .inl (cJ, 1280, .inr (.inl g_cells))), (a_kind, .inl (cI, 16, .inl f_kind)), (a_notes, .inl (cI, 6, .inl f_notes)), (a_other, .inl (cI, 16, .inl f_other)), (a_pitch, .inl (cI, 72, .inl f_pitch)), (a_share, .inl (cI, 6, .inl f_share)), (a_space, .inl (cI, 16, .inl f_space)), (a_speed, .inl (cI, 6, .inl f_speed)), (a_tell, .inl (cI, 3, .inl f_tell)), (a_times, .inl (cI, 16, .inl f_times)), (a_words, .inl (cI, 79, .inl f_words))]
def F_X10_item_327 (post : Int32 → Int32 → Int32 → Int32 → Int32 → Int32 → Int32 → Int32 → Int32 → Int32 → Int32 → (Nat → Int32) → (Nat → Int32) → (Nat → Int32) → (Nat → Int32) → (Nat → Int32) → (Nat → Int32) → (Nat → Int32) → (Nat → Int32) → (Nat → Int32) → (Nat → Int32) → (Nat → Int32) → Prop) (v_stretches : Int32) (v_cars : Int32) (v_tunes : Int32) (v_along : Int32) (v_near : Int32) (v_borne : Int32) (v_tempo : Int32) (v_at : Int32) (v_told : Int32) (v_wrongAt : Int32) (f_base : Nat → Int32) (f_beats : Nat → Int32) (f_kind : Nat → Int32) (f_notes : Nat → Int32) (f_other : Nat → Int32) (f_pitch : Nat → Int32) (f_share : Nat → Int32) (f_space : Nat → Int32) (f_speed : Nat → Int32) (f_tell : Nat → Int32) (f_times : Nat → Int32) (s0 : Int32) : Prop := (F_X10_comes v_stretches f_kind f_other f_space f_times s0 (f_tell (0 : Int32).toNatClampNeg) 0 (f_tell (1 : Int32).toNatClampNeg) (fun w340_0 w340_1 w340_2 w340_3 w340_4 => post 1 w340_0 v_cars v_tunes v_along v_near v_borne v_tempo v_at v_told v_wrongAt f_base f_beats w340_1 f_notes w340_2 f_pitch f_share w340_3 f_speed f_tell w340_4))
def F_X10_item_367 (post : Int32 → Int32 → Int32 → Int32 → Int32 → Int32 → Int32 → Int32 → Int32 → Int32 → Int32 → (Nat → Int32) → (Nat → Int32) → (Nat → Int32) → (Nat → Int32) → (Nat → Int32) → (Nat → Int32) → (Nat → Int32) → (Nat → Int32) → (Nat → Int32) → (Nat → Int32) → (Nat → Int32) → Prop) (v_stretches : Int32) (v_cars : Int32) (v_tunes : Int32) (v_along : Int32) (v_near : Int32) (v_borne : Int32) (v_tempo : Int32) (v_at : Int32) (v_told : Int32) (v_wrongAt : Int32) (f_base : Nat → Int32) (f_beats : Nat → Int32) (f_kind : Nat → Int32) (f_notes : Nat → Int32) (f_other : Nat → Int32) (f_pitch : Nat → Int32) (f_share : Nat → Int32) (f_space : Nat → Int32) (f_speed : Nat → Int32) (f_tell : Nat → Int32) (f_times : Nat → Int32) (s0 : Int32) : Prop := (F_X10_comes v_stretches f_kind f_other f_space f_times s0 (f_tell (0 : Int32).toNatClampNeg) (f_tell (1 : Int32).toNatClampNeg) (f_tell (2 : Int32).toNatClampNeg) (fun w385_0 w385_1 w385_2 w385_3 w385_4 => post 1 w385_0 v_cars v_tunes v_along v_near v_borne v_tempo v_at v_told v_wrongAt f_base f_beats w385_1 f_notes w385_2 f_pitch f_share w385_3 f_speed f_tell w385_4))
def F_X10_item_206 (v_from : Int32) (v_end : Int32) (g_cells : Nat → Int64) (post : Int32 → Int32 → Int32 → Int32 → Int32 → Int32 → Int32 → Int32 → Int32 → Int32 → Int32 → (Nat → Int32) → (Nat → Int32) → (Nat → Int32) → (Nat → Int32) → (Nat → Int32) → (Nat → Int32) → (Nat → Int32) → (Nat → Int32) → (Nat → Int32) → (Nat → Int32) → (Nat → Int32) → Prop) (k145 : Int32 → Int32 → Int32 → Int32 → Int32 → Int32 → Int32 → Int32 → Int32 → Int32 → Int32 → (Nat → Int32) → (Nat → Int32) → (Nat → Int32) → (Nat → Int32) → (Nat → Int32) → (Nat → Int32) → (Nat → Int32) → (Nat → Int32) → (Nat → Int32) → (Nat → Int32) → (Nat → Int32) → Prop) (x2 : Int32) (x3 : Int32) (x4 : Int32) (v_stretches : Int32) (v_cars : Int32) (v_tunes : Int32) (v_along : Int32) (v_near : Int32) (v_borne : Int32) (v_tempo : Int32) (v_at : Int32) (v_told : Int32) (v_wrongAt : Int32) (f_base : Nat → Int32) (f_beats : Nat → Int32) (f_kind : Nat → Int32) (f_notes : Nat → Int32) (f_other : Nat → Int32) (f_pitch : Nat → Int32) (f_share : Nat → Int32) (f_space : Nat → Int32) (f_speed : Nat → Int32) (f_tell : Nat → Int32) (f_times : Nat → Int32) : Prop := (F_X10_low x2 x4 (fun r211 => (F_X10_high v_cars f_share x2 x4 (fun r218 => (F_X10_number v_from v_at v_end v_told v_wrongAt g_cells r211 r218 (fun r221 w221_0 w221_1 w221_2 => ((r221 = 0 → post 0 v_stretches v_cars v_tunes v_along v_near v_borne v_tempo w221_0 w221_1 w221_2 f_base f_beats f_kind f_notes f_other f_pitch f_share f_space f_speed f_tell f_times) ∧ (¬ r221 = 0 → (vp_in x4 3 ∧ (∀ x4_240 : Int32, x4_240 = x4 + 1 → k145 x4_240 v_stretches v_cars v_tunes v_along v_near v_borne v_tempo w221_0 w221_1 w221_2 f_base f_beats f_kind f_notes f_other f_pitch f_share f_space f_speed (upd f_tell x4.toNatClampNeg w221_1) f_times))))))))))
def L_X10_item_145 (v_from : Int32) (v_end : Int32) (g_cells : Nat → Int64) (x2 : Int32) (x3 : Int32) (post : Int32 → Int32 → Int32 → Int32 → Int32 → Int32 → Int32 → Int32 → Int32 → Int32 → Int32 → (Nat → Int32) → (Nat → Int32) → (Nat → Int32) → (Nat → Int32) → (Nat → Int32) → (Nat → Int32) → (Nat → Int32) → (Nat → Int32) → (Nat → Int32) → (Nat → Int32) → (Nat → Int32) → Prop) : Nat → Int32 → Int32 → Int32 → Int32 → Int32 → Int32 → Int32 → Int32 → Int32 → Int32 → Int32 → (Nat → Int32) → (Nat → Int32) → (Nat → Int32) → (Nat → Int32) → (Nat → Int32) → (Nat → Int32) → (Nat → Int32) → (Nat → Int32) → (Nat → Int32) → (Nat → Int32) → (Nat → Int32) → Prop
  | 0, _, _, _, _, _, _, _, _, _, _, _, _, _, _, _, _, _, _, _, _, _, _ => False
  | n145 + 1, x4, v_stretches, v_cars, v_tunes, v_along, v_near, v_borne, v_tempo, v_at, v_told, v_wrongAt, f_base, f_beats, f_kind, f_notes, f_other, f_pitch, f_share, f_space, f_speed, f_tell, f_times => ((x3 ≤ x4 → ((x2 = 0 → ((x2 = 0 → F_X10_item_327 post v_stretches v_cars v_tunes v_along v_near v_borne v_tempo v_at v_told v_wrongAt f_base f_beats f_kind f_notes f_other f_pitch f_share f_space f_speed f_tell f_times 1) ∧ (¬ x2 = 0 → ((x2 = 2 → F_X10_item_327 post v_stretches v_cars v_tunes v_along v_near v_borne v_tempo v_at v_told v_wrongAt f_base f_beats f_kind f_notes f_other f_pitch f_share f_space f_speed f_tell f_times 3) ∧ (¬ x2 = 2 → F_X10_item_327 post v_stretches v_cars v_tunes v_along v_near v_borne v_tempo v_at v_told v_wrongAt f_base f_beats f_kind f_notes f_other f_pitch f_share f_space f_speed f_tell f_times 4))))) ∧ (¬ x2 = 0 → ((x2 = 1 → ((x2 = 1 → F_X10_item_367 post v_stretches v_cars v_tunes v_along v_near v_borne v_tempo v_at v_told v_wrongAt f_base f_beats f_kind f_notes f_other f_pitch f_share f_space f_speed f_tell f_times 2) ∧ (¬ x2 = 1 → ((x2 = 4 → F_X10_item_367 post v_stretches v_cars v_tunes v_along v_near v_borne v_tempo v_at v_told v_wrongAt f_base f_beats f_kind f_notes f_other f_pitch f_share f_space f_speed f_tell f_times 5) ∧ (¬ x2 = 4 → F_X10_item_367 post v_stretches v_cars v_tunes v_along v_near v_borne v_tempo v_at v_told v_wrongAt f_base f_beats f_kind f_notes f_other f_pitch f_share f_space f_speed f_tell f_times 6))))) ∧ (¬ x2 = 1 → ((x2 = 2 → ((x2 = 0 → F_X10_item_327 post v_stretches v_cars v_tunes v_along v_near v_borne v_tempo v_at v_told v_wrongAt f_base f_beats f_kind f_notes f_other f_pitch f_share f_space f_speed f_tell f_times 1) ∧ (¬ x2 = 0 → ((x2 = 2 → F_X10_item_327 post v_stretches v_cars v_tunes v_along v_near v_borne v_tempo v_at v_told v_wrongAt f_base f_beats f_kind f_notes f_other f_pitch f_share f_space f_speed f_tell f_times 3) ∧ (¬ x2 = 2 → F_X10_item_327 post v_stretches v_cars v_tunes v_along v_near v_borne v_tempo v_at v_told v_wrongAt f_base f_beats f_kind f_notes f_other f_pitch f_share f_space f_speed f_tell f_times 4))))) ∧ (¬ x2 = 2 → ((x2 = 3 → ((x2 = 0 → F_X10_item_327 post v_stretches v_cars v_tunes v_along v_near v_borne v_tempo v_at v_told v_wrongAt f_base f_beats f_kind f_notes f_other f_pitch f_share f_space f_speed f_tell f_times 1) ∧ (¬ x2 = 0 → ((x2 = 2 → F_X10_item_327 post v_stretches v_cars v_tunes v_along v_near v_borne v_tempo v_at v_told v_wrongAt f_base f_beats f_kind f_notes f_other f_pitch f_share f_space f_speed f_tell f_times 3) ∧ (¬ x2 = 2 → F_X10_item_327 post v_stretches v_cars v_tunes v_along v_near v_borne v_tempo v_at v_told v_wrongAt f_base f_beats f_kind f_notes f_other f_pitch f_share f_space f_speed f_tell f_times 4))))) ∧ (¬ x2 = 3 → ((x2 = 4 → ((x2 = 1 → F_X10_item_367 post v_stretches v_cars v_tunes v_along v_near v_borne v_tempo v_at v_told v_wrongAt f_base f_beats f_kind f_notes f_other f_pitch f_share f_space f_speed f_tell f_times 2) ∧ (¬ x2 = 1 → ((x2 = 4 → F_X10_item_367 post v_stretches v_cars v_tunes v_along v_near v_borne v_tempo v_at v_told v_wrongAt f_base f_beats f_kind f_notes f_other f_pitch f_share f_space f_speed f_tell f_times 5) ∧ (¬ x2 = 4 → F_X10_item_367 post v_stretches v_cars v_tunes v_along v_near v_borne v_tempo v_at v_told v_wrongAt f_base f_beats f_kind f_notes f_other f_pitch f_share f_space f_speed f_tell f_times 6))))) ∧ (¬ x2 = 4 → ((x2 = 5 → ((x2 = 1 → F_X10_item_367 post v_stretches v_cars v_tunes v_along v_near v_borne v_tempo v_at v_told v_wrongAt f_base f_beats f_kind f_notes f_other f_pitch f_share f_space f_speed f_tell f_times 2) ∧ (¬ x2 = 1 → ((x2 = 4 → F_X10_item_367 post v_stretches v_cars v_tunes v_along v_near v_borne v_tempo v_at v_told v_wrongAt f_base f_beats f_kind f_notes f_other f_pitch f_share f_space f_speed f_tell f_times 5) ∧ (¬ x2 = 4 → F_X10_item_367 post v_stretches v_cars v_tunes v_along v_near v_borne v_tempo v_at v_told v_wrongAt f_base f_beats f_kind f_notes f_other f_pitch f_share f_space f_speed f_tell f_times 6))))) ∧ (¬ x2 = 5 → ((x2 = 6 → (F_X10_cars v_cars f_base f_share f_speed (f_tell (0 : Int32).toNatClampNeg) (f_tell (1 : Int32).toNatClampNeg) (f_tell (2 : Int32).toNatClampNeg) (fun r410 w410_0 w410_1 w410_2 w410_3 => post 1 v_stretches w410_0 v_tunes v_along v_near v_borne v_tempo v_at v_told v_wrongAt w410_1 f_beats f_kind f_notes f_other f_pitch w410_2 f_space w410_3 f_tell f_times))) ∧ (¬ x2 = 6 → ((x2 = 7 → (vp_in v_tunes 6 ∧ post 1 v_stretches v_cars (v_tunes + 1) v_along v_near v_borne v_tempo v_at v_told v_wrongAt f_base f_beats f_kind (upd f_notes v_tunes.toNatClampNeg 0) f_other f_pitch f_share f_space f_speed f_tell f_times)) ∧ (¬ x2 = 7 → ((x2 = 8 → (∀ x4_443 : Int32, x4_443 = v_tunes - 1 → (vp_in x4_443 6 ∧ (∀ x5_458 : Int32, x5_458 = (12 * x4_443) + (f_notes x4_443.toNatClampNeg) → (vp_in x5_458 72 ∧ (vp_in x5_458 72 ∧ (vp_in x4_443 6 ∧ (vp_in x4_443 6 ∧ post 1 v_stretches v_cars v_tunes v_along v_near v_borne v_tempo v_at v_told v_wrongAt f_base (upd f_beats x5_458.toNatClampNeg (f_tell (1 : Int32).toNatClampNeg)) f_kind (upd f_notes x4_443.toNatClampNeg ((f_notes x4_443.toNatClampNeg) + 1)) f_other (upd f_pitch x5_458.toNatClampNeg (f_tell (0 : Int32).toNatClampNeg)) f_share f_space f_speed f_tell f_times)))))))) ∧ (¬ x2 = 8 → ((x2 = 9 → post 1 v_stretches v_cars v_tunes (f_tell (0 : Int32).toNatClampNeg) v_near v_borne v_tempo v_at v_told v_wrongAt f_base f_beats f_kind f_notes f_other f_pitch f_share f_space f_speed f_tell f_times) ∧ (¬ x2 = 9 → ((x2 = 10 → post 1 v_stretches v_cars v_tunes v_along (f_tell (0 : Int32).toNatClampNeg) v_borne v_tempo v_at v_told v_wrongAt f_base f_beats f_kind f_notes f_other f_pitch f_share f_space f_speed f_tell f_times) ∧ (¬ x2 = 10 → ((x2 = 11 → post 1 v_stretches v_cars v_tunes v_along v_near (f_tell (0 : Int32).toNatClampNeg) v_tempo v_at v_told v_wrongAt f_base f_beats f_kind f_notes f_other f_pitch f_share f_space f_speed f_tell f_times) ∧ (¬ x2 = 11 → post 1 v_stretches v_cars v_tunes v_along v_near v_borne (f_tell (0 : Int32).toNatClampNeg) v_at v_told v_wrongAt f_base f_beats f_kind f_notes f_other f_pitch f_share f_space f_speed f_tell f_times))))))))))))))))))))))))) ∧ (¬ x3 ≤ x4 → ((x4 ≤ 0 → F_X10_item_206 v_from v_end g_cells post (fun x4 v_stretches v_cars v_tunes v_along v_near v_borne v_tempo v_at v_told v_wrongAt f_base f_beats f_kind f_notes f_other f_pitch f_share f_space f_speed f_tell f_times => L_X10_item_145 v_from v_end g_cells x2 x3 post n145 x4 v_stretches v_cars v_tunes v_along v_near v_borne v_tempo v_at v_told v_wrongAt f_base f_beats f_kind f_notes f_other f_pitch f_share f_space f_speed f_tell f_times) x2 x3 x4 v_stretches v_cars v_tunes v_along v_near v_borne v_tempo v_at v_told v_wrongAt f_base f_beats f_kind f_notes f_other f_pitch f_share f_space f_speed f_tell f_times) ∧ (¬ x4 ≤ 0 → ((v_end ≤ v_at → (F_X10_wrong v_wrongAt v_at (fun r192 w192_0 => (vb r192 ∧ post r192 v_stretches v_cars v_tunes v_along v_near v_borne v_tempo v_at v_told w192_0 f_base f_beats f_kind f_notes f_other f_pitch f_share f_space f_speed f_tell f_times)))) ∧ (¬ v_end ≤ v_at → (vp_in (v_from + v_at) 1280 ∧ ((((g_cells (v_from + v_at).toNatClampNeg).toInt32) = 32 → F_X10_item_206 v_from v_end g_cells post (fun x4 v_stretches v_cars v_tunes v_along v_near v_borne v_tempo v_at v_told v_wrongAt f_base f_beats f_kind f_notes f_other f_pitch f_share f_space f_speed f_tell f_times => L_X10_item_145 v_from v_end g_cells x2 x3 post n145 x4 v_stretches v_cars v_tunes v_along v_near v_borne v_tempo v_at v_told v_wrongAt f_base f_beats f_kind f_notes f_other f_pitch f_share f_space f_speed f_tell f_times) x2 x3 x4 v_stretches v_cars v_tunes v_along v_near v_borne v_tempo (v_at + 1) v_told v_wrongAt f_base f_beats f_kind f_notes f_other f_pitch f_share f_space f_speed f_tell f_times) ∧ (¬ ((g_cells (v_from + v_at).toNatClampNeg).toInt32) = 32 → (F_X10_wrong v_wrongAt v_at (fun r192 w192_0 => (vb r192 ∧ post r192 v_stretches v_cars v_tunes v_along v_near v_borne v_tempo v_at v_told w192_0 f_base f_beats f_kind f_notes f_other f_pitch f_share f_space f_speed f_tell f_times))))))))))))
def F_X10_item_136 (v_from : Int32) (v_end : Int32) (g_cells : Nat → Int64) (post : Int32 → Int32 → Int32 → Int32 → Int32 → Int32 → Int32 → Int32 → Int32 → Int32 → Int32 → (Nat → Int32) → (Nat → Int32) → (Nat → Int32) → (Nat → Int32) → (Nat → Int32) → (Nat → Int32) → (Nat → Int32) → (Nat → Int32) → (Nat → Int32) → (Nat → Int32) → (Nat → Int32) → Prop) (x2 : Int32) (v_stretches : Int32) (v_cars : Int32) (v_tunes : Int32) (v_along : Int32) (v_near : Int32) (v_borne : Int32) (v_tempo : Int32) (v_at : Int32) (v_told : Int32) (v_wrongAt : Int32) (f_base : Nat → Int32) (f_beats : Nat → Int32) (f_kind : Nat → Int32) (f_notes : Nat → Int32) (f_other : Nat → Int32) (f_pitch : Nat → Int32) (f_share : Nat → Int32) (f_space : Nat → Int32) (f_speed : Nat → Int32) (f_tell : Nat → Int32) (f_times : Nat → Int32) : Prop := (F_X10_many x2 (fun r138 => (∃ n145 : Nat, L_X10_item_145 v_from v_end g_cells x2 r138 post n145 0 v_stretches v_cars v_tunes v_along v_near v_borne v_tempo v_at v_told v_wrongAt f_base f_beats f_kind f_notes f_other f_pitch f_share f_space f_speed f_tell f_times)))
def F_X10_item_101 (v_from : Int32) (v_end : Int32) (g_cells : Nat → Int64) (post : Int32 → Int32 → Int32 → Int32 → Int32 → Int32 → Int32 → Int32 → Int32 → Int32 → Int32 → (Nat → Int32) → (Nat → Int32) → (Nat → Int32) → (Nat → Int32) → (Nat → Int32) → (Nat → Int32) → (Nat → Int32) → (Nat → Int32) → (Nat → Int32) → (Nat → Int32) → (Nat → Int32) → Prop) (x1 : Int32) (x2 : Int32) (v_stretches : Int32) (v_cars : Int32) (v_tunes : Int32) (v_along : Int32) (v_near : Int32) (v_borne : Int32) (v_tempo : Int32) (v_at : Int32) (v_told : Int32) (v_wrongAt : Int32) (f_base : Nat → Int32) (f_beats : Nat → Int32) (f_kind : Nat → Int32) (f_notes : Nat → Int32) (f_other : Nat → Int32) (f_pitch : Nat → Int32) (f_share : Nat → Int32) (f_space : Nat → Int32) (f_speed : Nat → Int32) (f_tell : Nat → Int32) (f_times : Nat → Int32) : Prop := ((x2 = 8 → ((v_tunes = 0 → (F_X10_wrong v_wrongAt x1 (fun r132 w132_0 => (vb r132 ∧ post r132 v_stretches v_cars v_tunes v_along v_near v_borne v_tempo v_at v_told w132_0 f_base f_beats f_kind f_notes f_other f_pitch f_share f_space f_speed f_tell f_times)))) ∧ (¬ v_tunes = 0 → (vp_in (v_tunes - 1) 6 ∧ (((f_notes (v_tunes - 1).toNatClampNeg) = 12 → (F_X10_wrong v_wrongAt x1 (fun r132 w132_0 => (vb r132 ∧ post r132 v_stretches v_cars v_tunes v_along v_near v_borne v_tempo v_at v_told w132_0 f_base f_beats f_kind f_notes f_other f_pitch f_share f_space f_speed f_tell f_times)))) ∧ (¬ (f_notes (v_tunes - 1).toNatClampNeg) = 12 → F_X10_item_136 v_from v_end g_cells post x2 v_stretches v_cars v_tunes v_along v_near v_borne v_tempo v_at v_told v_wrongAt f_base f_beats f_kind f_notes f_other f_pitch f_share f_space f_speed f_tell f_times)))))) ∧ (¬ x2 = 8 → F_X10_item_136 v_from v_end g_cells post x2 v_stretches v_cars v_tunes v_along v_near v_borne v_tempo v_at v_told v_wrongAt f_base f_beats f_kind f_notes f_other f_pitch f_share f_space f_speed f_tell f_times))
def F_X10_item_86 (v_from : Int32) (v_end : Int32) (g_cells : Nat → Int64) (post : Int32 → Int32 → Int32 → Int32 → Int32 → Int32 → Int32 → Int32 → Int32 → Int32 → Int32 → (Nat → Int32) → (Nat → Int32) → (Nat → Int32) → (Nat → Int32) → (Nat → Int32) → (Nat → Int32) → (Nat → Int32) → (Nat → Int32) → (Nat → Int32) → (Nat → Int32) → (Nat → Int32) → Prop) (x1 : Int32) (x2 : Int32) (v_stretches : Int32) (v_cars : Int32) (v_tunes : Int32) (v_along : Int32) (v_near : Int32) (v_borne : Int32) (v_tempo : Int32) (v_at : Int32) (v_told : Int32) (v_wrongAt : Int32) (f_base : Nat → Int32) (f_beats : Nat → Int32) (f_kind : Nat → Int32) (f_notes : Nat → Int32) (f_other : Nat → Int32) (f_pitch : Nat → Int32) (f_share : Nat → Int32) (f_space : Nat → Int32) (f_speed : Nat → Int32) (f_tell : Nat → Int32) (f_times : Nat → Int32) : Prop := ((x2 = 7 → ((v_tunes = 6 → (F_X10_wrong v_wrongAt x1 (fun r132 w132_0 => (vb r132 ∧ post r132 v_stretches v_cars v_tunes v_along v_near v_borne v_tempo v_at v_told w132_0 f_base f_beats f_kind f_notes f_other f_pitch f_share f_space f_speed f_tell f_times)))) ∧ (¬ v_tunes = 6 → F_X10_item_101 v_from v_end g_cells post x1 x2 v_stretches v_cars v_tunes v_along v_near v_borne v_tempo v_at v_told v_wrongAt f_base f_beats f_kind f_notes f_other f_pitch f_share f_space f_speed f_tell f_times))) ∧ (¬ x2 = 7 → F_X10_item_101 v_from v_end g_cells post x1 x2 v_stretches v_cars v_tunes v_along v_near v_borne v_tempo v_at v_told v_wrongAt f_base f_beats f_kind f_notes f_other f_pitch f_share f_space f_speed f_tell f_times))
def F_X10_item_71 (v_from : Int32) (v_end : Int32) (g_cells : Nat → Int64) (post : Int32 → Int32 → Int32 → Int32 → Int32 → Int32 → Int32 → Int32 → Int32 → Int32 → Int32 → (Nat → Int32) → (Nat → Int32) → (Nat → Int32) → (Nat → Int32) → (Nat → Int32) → (Nat → Int32) → (Nat → Int32) → (Nat → Int32) → (Nat → Int32) → (Nat → Int32) → (Nat → Int32) → Prop) (x1 : Int32) (x2 : Int32) (v_stretches : Int32) (v_cars : Int32) (v_tunes : Int32) (v_along : Int32) (v_near : Int32) (v_borne : Int32) (v_tempo : Int32) (v_at : Int32) (v_told : Int32) (v_wrongAt : Int32) (f_base : Nat → Int32) (f_beats : Nat → Int32) (f_kind : Nat → Int32) (f_notes : Nat → Int32) (f_other : Nat → Int32) (f_pitch : Nat → Int32) (f_share : Nat → Int32) (f_space : Nat → Int32) (f_speed : Nat → Int32) (f_tell : Nat → Int32) (f_times : Nat → Int32) : Prop := ((x2 = 6 → ((v_cars = 6 → (F_X10_wrong v_wrongAt x1 (fun r132 w132_0 => (vb r132 ∧ post r132 v_stretches v_cars v_tunes v_along v_near v_borne v_tempo v_at v_told w132_0 f_base f_beats f_kind f_notes f_other f_pitch f_share f_space f_speed f_tell f_times)))) ∧ (¬ v_cars = 6 → F_X10_item_86 v_from v_end g_cells post x1 x2 v_stretches v_cars v_tunes v_along v_near v_borne v_tempo v_at v_told v_wrongAt f_base f_beats f_kind f_notes f_other f_pitch f_share f_space f_speed f_tell f_times))) ∧ (¬ x2 = 6 → F_X10_item_86 v_from v_end g_cells post x1 x2 v_stretches v_cars v_tunes v_along v_near v_borne v_tempo v_at v_told v_wrongAt f_base f_beats f_kind f_notes f_other f_pitch f_share f_space f_speed f_tell f_times))
def F_X10_item_33 (k2 : Int32 → Int32 → Int32 → Int32 → Int32 → Int32 → Int32 → Int32 → Int32 → Int32 → Int32 → (Nat → Int32) → (Nat → Int32) → (Nat → Int32) → (Nat → Int32) → (Nat → Int32) → (Nat → Int32) → (Nat → Int32) → (Nat → Int32) → (Nat → Int32) → (Nat → Int32) → (Nat → Int32) → Prop) (x1 : Int32) (v_stretches : Int32) (v_cars : Int32) (v_tunes : Int32) (v_along : Int32) (v_near : Int32) (v_borne : Int32) (v_tempo : Int32) (v_at : Int32) (v_told : Int32) (v_wrongAt : Int32) (f_base : Nat → Int32) (f_beats : Nat → Int32) (f_kind : Nat → Int32) (f_notes : Nat → Int32) (f_other : Nat → Int32) (f_pitch : Nat → Int32) (f_share : Nat → Int32) (f_space : Nat → Int32) (f_speed : Nat → Int32) (f_tell : Nat → Int32) (f_times : Nat → Int32) : Prop := (∀ x1_33 : Int32, x1_33 = x1 + 1 → k2 x1_33 v_stretches v_cars v_tunes v_along v_near v_borne v_tempo v_at v_told v_wrongAt f_base f_beats f_kind f_notes f_other f_pitch f_share f_space f_speed f_tell f_times)
def L_X10_item_2 (v_from : Int32) (v_end : Int32) (g_cells : Nat → Int64) (f_words : Nat → Int32) (post : Int32 → Int32 → Int32 → Int32 → Int32 → Int32 → Int32 → Int32 → Int32 → Int32 → Int32 → (Nat → Int32) → (Nat → Int32) → (Nat → Int32) → (Nat → Int32) → (Nat → Int32) → (Nat → Int32) → (Nat → Int32) → (Nat → Int32) → (Nat → Int32) → (Nat → Int32) → (Nat → Int32) → Prop) : Nat → Int32 → Int32 → Int32 → Int32 → Int32 → Int32 → Int32 → Int32 → Int32 → Int32 → Int32 → (Nat → Int32) → (Nat → Int32) → (Nat → Int32) → (Nat → Int32) → (Nat → Int32) → (Nat → Int32) → (Nat → Int32) → (Nat → Int32) → (Nat → Int32) → (Nat → Int32) → (Nat → Int32) → Prop
  | 0, _, _, _, _, _, _, _, _, _, _, _, _, _, _, _, _, _, _, _, _, _, _ => False
  | n2 + 1, x1, v_stretches, v_cars, v_tunes, v_along, v_near, v_borne, v_tempo, v_at, v_told, v_wrongAt, f_base, f_beats, f_kind, f_notes, f_other, f_pitch, f_share, f_space, f_speed, f_tell, f_times => ((13 ≤ x1 → (F_X10_word v_from v_at v_end v_wrongAt g_cells f_words (fun r45 w45_0 w45_1 => ((r45 = (-1) → post 0 v_stretches v_cars v_tunes v_along v_near v_borne v_tempo w45_0 v_told w45_1 f_base f_beats f_kind f_notes f_other f_pitch f_share f_space f_speed f_tell f_times) ∧ (¬ r45 = (-1) → ((6 ≤ r45 → F_X10_item_71 v_from v_end g_cells post v_at r45 v_stretches v_cars v_tunes v_along v_near v_borne v_tempo w45_0 v_told w45_1 f_base f_beats f_kind f_notes f_other f_pitch f_share f_space f_speed f_tell f_times) ∧ (¬ 6 ≤ r45 → ((v_stretches = 16 → (F_X10_wrong w45_1 v_at (fun r132 w132_0 => (vb r132 ∧ post r132 v_stretches v_cars v_tunes v_along v_near v_borne v_tempo w45_0 v_told w132_0 f_base f_beats f_kind f_notes f_other f_pitch f_share f_space f_speed f_tell f_times)))) ∧ (¬ v_stretches = 16 → F_X10_item_71 v_from v_end g_cells post v_at r45 v_stretches v_cars v_tunes v_along v_near v_borne v_tempo w45_0 v_told w45_1 f_base f_beats f_kind f_notes f_other f_pitch f_share f_space f_speed f_tell f_times))))))))) ∧ (¬ 13 ≤ x1 → (F_X10_isWordAt v_from v_at v_end g_cells f_words x1 (fun r10 => ((r10 = 0 → F_X10_item_33 (fun x1 v_stretches v_cars v_tunes v_along v_near v_borne v_tempo v_at v_told v_wrongAt f_base f_beats f_kind f_notes f_other f_pitch f_share f_space f_speed f_tell f_times => L_X10_item_2 v_from v_end g_cells f_words post n2 x1 v_stretches v_cars v_tunes v_along v_near v_borne v_tempo v_at v_told v_wrongAt f_base f_beats f_kind f_notes f_other f_pitch f_share f_space f_speed f_tell f_times) x1 v_stretches v_cars v_tunes v_along v_near v_borne v_tempo v_at v_told v_wrongAt f_base f_beats f_kind f_notes f_other f_pitch f_share f_space f_speed f_tell f_times) ∧ (¬ r10 = 0 → (F_X10_isFull v_stretches v_cars v_tunes f_notes x1 (fun r18 => ((r18 = 0 → F_X10_item_33 (fun x1 v_stretches v_cars v_tunes v_along v_near v_borne v_tempo v_at v_told v_wrongAt f_base f_beats f_kind f_notes f_other f_pitch f_share f_space f_speed f_tell f_times => L_X10_item_2 v_from v_end g_cells f_words post n2 x1 v_stretches v_cars v_tunes v_along v_near v_borne v_tempo v_at v_told v_wrongAt f_base f_beats f_kind f_notes f_other f_pitch f_share f_space f_speed f_tell f_times) x1 v_stretches v_cars v_tunes v_along v_near v_borne v_tempo v_at v_told v_wrongAt f_base f_beats f_kind f_notes f_other f_pitch f_share f_space f_speed f_tell f_times) ∧ (¬ r18 = 0 → (F_X10_wrong v_wrongAt v_at (fun r29 w29_0 => (vb r29 ∧ post r29 v_stretches v_cars v_tunes v_along v_near v_borne v_tempo v_at v_told w29_0 f_base f_beats f_kind f_notes f_other f_pitch f_share f_space f_speed f_tell f_times)))))))))))))
def F_X10_item (v_stretches : Int32) (v_cars : Int32) (v_tunes : Int32) (v_along : Int32) (v_near : Int32) (v_borne : Int32) (v_tempo : Int32) (v_from : Int32) (v_at : Int32) (v_end : Int32) (v_told : Int32) (v_wrongAt : Int32) (f_base : Nat → Int32) (f_beats : Nat → Int32) (g_cells : Nat → Int64) (f_kind : Nat → Int32) (f_notes : Nat → Int32) (f_other : Nat → Int32) (f_pitch : Nat → Int32) (f_share : Nat → Int32) (f_space : Nat → Int32) (f_speed : Nat → Int32) (f_tell : Nat → Int32) (f_times : Nat → Int32) (f_words : Nat → Int32) (post : Int32 → Int32 → Int32 → Int32 → Int32 → Int32 → Int32 → Int32 → Int32 → Int32 → Int32 → (Nat → Int32) → (Nat → Int32) → (Nat → Int32) → (Nat → Int32) → (Nat → Int32) → (Nat → Int32) → (Nat → Int32) → (Nat → Int32) → (Nat → Int32) → (Nat → Int32) → (Nat → Int32) → Prop) : Prop := (∃ n2 : Nat, L_X10_item_2 v_from v_end g_cells f_words post n2 0 v_stretches v_cars v_tunes v_along v_near v_borne v_tempo v_at v_told v_wrongAt f_base f_beats f_kind f_notes f_other f_pitch f_share f_space f_speed f_tell f_times)
set_option maxHeartbeats 4000000 in
set_option maxRecDepth 100000 in
theorem w_X10_item_327 {l : Launch} {D : va_G} {cI cJ cS : ClassId} {ad adK : Nat → Nat} {a_o a_base a_beats a_cells a_kind a_notes a_other a_pitch a_share a_space a_speed a_tell a_times a_words : Nat} {z_refused z_steps z_held z_sort z_size z_shown z_carried z_was z_kept z_cutSpace z_cutTimes z_cutOff z_trace : Value} {v_stretches : Int32} {v_cars : Int32} {v_tunes : Int32} {v_along : Int32} {v_near : Int32} {v_borne : Int32} {v_tempo : Int32} {v_seed : Int32} {v_fault : Int32} {v_from : Int32} {v_at : Int32} {v_end : Int32} {v_told : Int32} {v_wrongAt : Int32} {v_culprit : Int32} {v_ran : Int32} {v_isKept : Int32} {f_base : Nat → Int32} {f_beats : Nat → Int32} {g_cells : Nat → Int64} {f_kind : Nat → Int32} {f_notes : Nat → Int32} {f_other : Nat → Int32} {f_pitch : Nat → Int32} {f_share : Nat → Int32} {f_space : Nat → Int32} {f_speed : Nat → Int32} {f_tell : Nat → Int32} {f_times : Nat → Int32} {f_words : Nat → Int32} {s0 : Int32} {post : Int32 → Int32 → Int32 → Int32 → Int32 → Int32 → Int32 → Int32 → Int32 → Int32 → Int32 → (Nat → Int32) → (Nat → Int32) → (Nat → Int32) → (Nat → Int32) → (Nat → Int32) → (Nat → Int32) → (Nat → Int32) → (Nat → Int32) → (Nat → Int32) → (Nat → Int32) → (Nat → Int32) → Prop} {p : Program} {e : Env} {s : State} {m : MethodId} {args : Array Value} {below : List Frame} {meth : Method} {c : Code} {A : Nat → Prop} (S : CallFix p m c cX10_item 6 s args GW "RoadThatSingsModel") (hE : EN D cI cJ cS s) (hT : ST ad adK A s s.heap) (hA : ∀ q : Nat, s.heap.size ≤ q → A q) (hr : meth.sig.returnType = (some (.boolean))) (hlocks : meth.locks = false) : ∀ (H : Heap) (locs : List Loc) (ls : Array Slot), F_X10_item_327 post v_stretches v_cars v_tunes v_along v_near v_borne v_tempo v_at v_told v_wrongAt f_base f_beats f_kind f_notes f_other f_pitch f_share f_space f_speed f_tell f_times s0 → va_P D vwCl (wX10_item cI cJ cS a_o a_base a_beats a_cells a_kind a_notes a_other a_pitch a_share a_space a_speed a_tell a_times a_words z_refused z_steps z_held z_sort z_size z_shown z_carried z_was z_kept z_cutSpace z_cutTimes z_cutOff z_trace v_stretches v_cars v_tunes v_along v_near v_borne v_tempo v_seed v_fault v_from v_at v_end v_told v_wrongAt v_culprit v_ran v_isKept f_base f_beats g_cells f_kind f_notes f_other f_pitch f_share f_space f_speed f_tell f_times f_words) H → va_D A (wX10_item cI cJ cS a_o a_base a_beats a_cells a_kind a_notes a_other a_pitch a_share a_space a_speed a_tell a_times a_words z_refused z_steps z_held z_sort z_size z_shown z_carried z_was z_kept z_cutSpace z_cutTimes z_cutOff z_trace v_stretches v_cars v_tunes v_along v_near v_borne v_tempo v_seed v_fault v_from v_at v_end v_told v_wrongAt v_culprit v_ran v_isKept f_base f_beats g_cells f_kind f_notes f_other f_pitch f_share f_space f_speed f_tell f_times f_words) → va_S A s.heap H locs → lv_has ls 6 [(0, .ref a_o)] → W p l e (rmd 2 0 0) s m args below meth c H locs 0 0 (MQ below (va_Qi (fun r (u : Int32 × Int32 × Int32 × Int32 × Int32 × Int32 × Int32 × Int32 × Int32 × Int32 × (Nat → Int32) × (Nat → Int32) × (Nat → Int32) × (Nat → Int32) × (Nat → Int32) × (Nat → Int32) × (Nat → Int32) × (Nat → Int32) × (Nat → Int32) × (Nat → Int32) × (Nat → Int32)) => post r u.1 u.2.1 u.2.2.1 u.2.2.2.1 u.2.2.2.2.1 u.2.2.2.2.2.1 u.2.2.2.2.2.2.1 u.2.2.2.2.2.2.2.1 u.2.2.2.2.2.2.2.2.1 u.2.2.2.2.2.2.2.2.2.1 u.2.2.2.2.2.2.2.2.2.2.1 u.2.2.2.2.2.2.2.2.2.2.2.1 u.2.2.2.2.2.2.2.2.2.2.2.2.1 u.2.2.2.2.2.2.2.2.2.2.2.2.2.1 u.2.2.2.2.2.2.2.2.2.2.2.2.2.2.1 u.2.2.2.2.2.2.2.2.2.2.2.2.2.2.2.1 u.2.2.2.2.2.2.2.2.2.2.2.2.2.2.2.2.1 u.2.2.2.2.2.2.2.2.2.2.2.2.2.2.2.2.2.1 u.2.2.2.2.2.2.2.2.2.2.2.2.2.2.2.2.2.2.1 u.2.2.2.2.2.2.2.2.2.2.2.2.2.2.2.2.2.2.2.1 u.2.2.2.2.2.2.2.2.2.2.2.2.2.2.2.2.2.2.2.2) (fun u t => va_P D vwCl (wX10_item cI cJ cS a_o a_base a_beats a_cells a_kind a_notes a_other a_pitch a_share a_space a_speed a_tell a_times a_words z_refused z_steps z_held z_sort z_size z_shown z_carried z_was z_kept z_cutSpace z_cutTimes z_cutOff z_trace u.1 u.2.1 u.2.2.1 u.2.2.2.1 u.2.2.2.2.1 u.2.2.2.2.2.1 u.2.2.2.2.2.2.1 v_seed v_fault v_from u.2.2.2.2.2.2.2.1 v_end u.2.2.2.2.2.2.2.2.1 u.2.2.2.2.2.2.2.2.2.1 v_culprit v_ran v_isKept u.2.2.2.2.2.2.2.2.2.2.1 u.2.2.2.2.2.2.2.2.2.2.2.1 g_cells u.2.2.2.2.2.2.2.2.2.2.2.2.1 u.2.2.2.2.2.2.2.2.2.2.2.2.2.1 u.2.2.2.2.2.2.2.2.2.2.2.2.2.2.1 u.2.2.2.2.2.2.2.2.2.2.2.2.2.2.2.1 u.2.2.2.2.2.2.2.2.2.2.2.2.2.2.2.2.1 u.2.2.2.2.2.2.2.2.2.2.2.2.2.2.2.2.2.1 u.2.2.2.2.2.2.2.2.2.2.2.2.2.2.2.2.2.2.1 u.2.2.2.2.2.2.2.2.2.2.2.2.2.2.2.2.2.2.2.1 u.2.2.2.2.2.2.2.2.2.2.2.2.2.2.2.2.2.2.2.2 f_words) t.heap) A) args s 0 0 A) (F0 m 327 ls [.int s0, .ref a_o]) := by
  intro  H locs ls h hP hD hS hl
  unfold F_X10_item_327 at h
  have hx := S.1
  have hb := S.2.1
  refine lv_aload_n hx hb dX10_item_327 rfl (lv_at hl 0 rfl) ?_
  refine gf S hE hP 0 rfl rfl inX10 (k := 28) (by decide) q1121 rfl dX10_item_328 ?_
  refine lv_iconst (v := 0) hx hb dX10_item_331 (by decide) ?_
  refine ial S hE hP 11 rfl (by unfold vp_in; decide) dX10_item_332 ?_
  refine lv_iconst (v := 0) hx hb dX10_item_333 (by decide) ?_
  refine lv_aload_n hx hb dX10_item_334 rfl (lv_at hl 0 rfl) ?_
  refine gf S hE hP 0 rfl rfl inX10 (k := 28) (by decide) q1121 rfl dX10_item_335 ?_
  refine lv_iconst (v := 1) hx hb dX10_item_338 (by decide) ?_
  refine ial S hE hP 11 rfl (by unfold vp_in; decide) dX10_item_339 ?_
  refine rw_v (rwV S hE hT hS hP hD hA (c_X10_comes h) [0, 4, 6, 9, 12] rfl (by decide) lkX10_138 rfl ⟨(Nat.le_of_ble_eq_true rfl), (Nat.le_of_ble_eq_true rfl)⟩ 0 rfl rfl hl.1 rfl (Nat.le_of_ble_eq_true rfl) dX10_item_340 ⟨(Nat.zero_le _), (Nat.zero_le _)⟩) hP hD hS hA [0, 4, 6, 9, 12] rfl (by decide) (fun _ => rfl) (fun u340 H locs h hP hD hS => ?_)
  obtain ⟨w340_0, w340_1, w340_2, w340_3, w340_4⟩ := u340
  try dsimp only at h
  have hP : va_P D vwCl (wX10_item cI cJ cS a_o a_base a_beats a_cells a_kind a_notes a_other a_pitch a_share a_space a_speed a_tell a_times a_words z_refused z_steps z_held z_sort z_size z_shown z_carried z_was z_kept z_cutSpace z_cutTimes z_cutOff z_trace w340_0 v_cars v_tunes v_along v_near v_borne v_tempo v_seed v_fault v_from v_at v_end v_told v_wrongAt v_culprit v_ran v_isKept f_base f_beats g_cells w340_1 f_notes w340_2 f_pitch f_share w340_3 f_speed f_tell w340_4 f_words) H := hP
  have hD : va_D A (wX10_item cI cJ cS a_o a_base a_beats a_cells a_kind a_notes a_other a_pitch a_share a_space a_speed a_tell a_times a_words z_refused z_steps z_held z_sort z_size z_shown z_carried z_was z_kept z_cutSpace z_cutTimes z_cutOff z_trace w340_0 v_cars v_tunes v_along v_near v_borne v_tempo v_seed v_fault v_from v_at v_end v_told v_wrongAt v_culprit v_ran v_isKept f_base f_beats g_cells w340_1 f_notes w340_2 f_pitch f_share w340_3 f_speed f_tell w340_4 f_words) := hD
  refine lv_goto (tgt := 549) hx hb dX10_item_343 (by decide) ?_
  refine lv_iconst (v := 1) hx hb dX10_item_549 (by decide) ?_
  exact W.zret hx hb hr rfl (fun t ht _ => ⟨⟨_, (w340_0, v_cars, v_tunes, v_along, v_near, v_borne, v_tempo, v_at, v_told, v_wrongAt, f_base, f_beats, w340_1, f_notes, w340_2, f_pitch, f_share, w340_3, f_speed, f_tell, w340_4), rfl, h, hPt hP ht⟩, hS.F ht⟩) hS.2.2 dX10_item_550
set_option maxHeartbeats 4000000 in
set_option maxRecDepth 100000 in
theorem w_X10_item_367 {l : Launch} {D : va_G} {cI cJ cS : ClassId} {ad adK : Nat → Nat} {a_o a_base a_beats a_cells a_kind a_notes a_other a_pitch a_share a_space a_speed a_tell a_times a_words : Nat} {z_refused z_steps z_held z_sort z_size z_shown z_carried z_was z_kept z_cutSpace z_cutTimes z_cutOff z_trace : Value} {v_stretches : Int32} {v_cars : Int32} {v_tunes : Int32} {v_along : Int32} {v_near : Int32} {v_borne : Int32} {v_tempo : Int32} {v_seed : Int32} {v_fault : Int32} {v_from : Int32} {v_at : Int32} {v_end : Int32} {v_told : Int32} {v_wrongAt : Int32} {v_culprit : Int32} {v_ran : Int32} {v_isKept : Int32} {f_base : Nat → Int32} {f_beats : Nat → Int32} {g_cells : Nat → Int64} {f_kind : Nat → Int32} {f_notes : Nat → Int32} {f_other : Nat → Int32} {f_pitch : Nat → Int32} {f_share : Nat → Int32} {f_space : Nat → Int32} {f_speed : Nat → Int32} {f_tell : Nat → Int32} {f_times : Nat → Int32} {f_words : Nat → Int32} {s0 : Int32} {post : Int32 → Int32 → Int32 → Int32 → Int32 → Int32 → Int32 → Int32 → Int32 → Int32 → Int32 → (Nat → Int32) → (Nat → Int32) → (Nat → Int32) → (Nat → Int32) → (Nat → Int32) → (Nat → Int32) → (Nat → Int32) → (Nat → Int32) → (Nat → Int32) → (Nat → Int32) → (Nat → Int32) → Prop} {p : Program} {e : Env} {s : State} {m : MethodId} {args : Array Value} {below : List Frame} {meth : Method} {c : Code} {A : Nat → Prop} (S : CallFix p m c cX10_item 6 s args GW "RoadThatSingsModel") (hE : EN D cI cJ cS s) (hT : ST ad adK A s s.heap) (hA : ∀ q : Nat, s.heap.size ≤ q → A q) (hr : meth.sig.returnType = (some (.boolean))) (hlocks : meth.locks = false) : ∀ (H : Heap) (locs : List Loc) (ls : Array Slot), F_X10_item_367 post v_stretches v_cars v_tunes v_along v_near v_borne v_tempo v_at v_told v_wrongAt f_base f_beats f_kind f_notes f_other f_pitch f_share f_space f_speed f_tell f_times s0 → va_P D vwCl (wX10_item cI cJ cS a_o a_base a_beats a_cells a_kind a_notes a_other a_pitch a_share a_space a_speed a_tell a_times a_words z_refused z_steps z_held z_sort z_size z_shown z_carried z_was z_kept z_cutSpace z_cutTimes z_cutOff z_trace v_stretches v_cars v_tunes v_along v_near v_borne v_tempo v_seed v_fault v_from v_at v_end v_told v_wrongAt v_culprit v_ran v_isKept f_base f_beats g_cells f_kind f_notes f_other f_pitch f_share f_space f_speed f_tell f_times f_words) H → va_D A (wX10_item cI cJ cS a_o a_base a_beats a_cells a_kind a_notes a_other a_pitch a_share a_space a_speed a_tell a_times a_words z_refused z_steps z_held z_sort z_size z_shown z_carried z_was z_kept z_cutSpace z_cutTimes z_cutOff z_trace v_stretches v_cars v_tunes v_along v_near v_borne v_tempo v_seed v_fault v_from v_at v_end v_told v_wrongAt v_culprit v_ran v_isKept f_base f_beats g_cells f_kind f_notes f_other f_pitch f_share f_space f_speed f_tell f_times f_words) → va_S A s.heap H locs → lv_has ls 6 [(0, .ref a_o)] → W p l e (rmd 2 0 0) s m args below meth c H locs 0 0 (MQ below (va_Qi (fun r (u : Int32 × Int32 × Int32 × Int32 × Int32 × Int32 × Int32 × Int32 × Int32 × Int32 × (Nat → Int32) × (Nat → Int32) × (Nat → Int32) × (Nat → Int32) × (Nat → Int32) × (Nat → Int32) × (Nat → Int32) × (Nat → Int32) × (Nat → Int32) × (Nat → Int32) × (Nat → Int32)) => post r u.1 u.2.1 u.2.2.1 u.2.2.2.1 u.2.2.2.2.1 u.2.2.2.2.2.1 u.2.2.2.2.2.2.1 u.2.2.2.2.2.2.2.1 u.2.2.2.2.2.2.2.2.1 u.2.2.2.2.2.2.2.2.2.1 u.2.2.2.2.2.2.2.2.2.2.1 u.2.2.2.2.2.2.2.2.2.2.2.1 u.2.2.2.2.2.2.2.2.2.2.2.2.1 u.2.2.2.2.2.2.2.2.2.2.2.2.2.1 u.2.2.2.2.2.2.2.2.2.2.2.2.2.2.1 u.2.2.2.2.2.2.2.2.2.2.2.2.2.2.2.1 u.2.2.2.2.2.2.2.2.2.2.2.2.2.2.2.2.1 u.2.2.2.2.2.2.2.2.2.2.2.2.2.2.2.2.2.1 u.2.2.2.2.2.2.2.2.2.2.2.2.2.2.2.2.2.2.1 u.2.2.2.2.2.2.2.2.2.2.2.2.2.2.2.2.2.2.2.1 u.2.2.2.2.2.2.2.2.2.2.2.2.2.2.2.2.2.2.2.2) (fun u t => va_P D vwCl (wX10_item cI cJ cS a_o a_base a_beats a_cells a_kind a_notes a_other a_pitch a_share a_space a_speed a_tell a_times a_words z_refused z_steps z_held z_sort z_size z_shown z_carried z_was z_kept z_cutSpace z_cutTimes z_cutOff z_trace u.1 u.2.1 u.2.2.1 u.2.2.2.1 u.2.2.2.2.1 u.2.2.2.2.2.1 u.2.2.2.2.2.2.1 v_seed v_fault v_from u.2.2.2.2.2.2.2.1 v_end u.2.2.2.2.2.2.2.2.1 u.2.2.2.2.2.2.2.2.2.1 v_culprit v_ran v_isKept u.2.2.2.2.2.2.2.2.2.2.1 u.2.2.2.2.2.2.2.2.2.2.2.1 g_cells u.2.2.2.2.2.2.2.2.2.2.2.2.1 u.2.2.2.2.2.2.2.2.2.2.2.2.2.1 u.2.2.2.2.2.2.2.2.2.2.2.2.2.2.1 u.2.2.2.2.2.2.2.2.2.2.2.2.2.2.2.1 u.2.2.2.2.2.2.2.2.2.2.2.2.2.2.2.2.1 u.2.2.2.2.2.2.2.2.2.2.2.2.2.2.2.2.2.1 u.2.2.2.2.2.2.2.2.2.2.2.2.2.2.2.2.2.2.1 u.2.2.2.2.2.2.2.2.2.2.2.2.2.2.2.2.2.2.2.1 u.2.2.2.2.2.2.2.2.2.2.2.2.2.2.2.2.2.2.2.2 f_words) t.heap) A) args s 0 0 A) (F0 m 367 ls [.int s0, .ref a_o]) := by
  intro  H locs ls h hP hD hS hl
  unfold F_X10_item_367 at h
  have hx := S.1
  have hb := S.2.1
  refine lv_aload_n hx hb dX10_item_367 rfl (lv_at hl 0 rfl) ?_
  refine gf S hE hP 0 rfl rfl inX10 (k := 28) (by decide) q1121 rfl dX10_item_368 ?_
  refine lv_iconst (v := 0) hx hb dX10_item_371 (by decide) ?_
  refine ial S hE hP 11 rfl (by unfold vp_in; decide) dX10_item_372 ?_
  refine lv_aload_n hx hb dX10_item_373 rfl (lv_at hl 0 rfl) ?_
  refine gf S hE hP 0 rfl rfl inX10 (k := 28) (by decide) q1121 rfl dX10_item_374 ?_
  refine lv_iconst (v := 1) hx hb dX10_item_377 (by decide) ?_
  refine ial S hE hP 11 rfl (by unfold vp_in; decide) dX10_item_378 ?_
  refine lv_aload_n hx hb dX10_item_379 rfl (lv_at hl 0 rfl) ?_
  refine gf S hE hP 0 rfl rfl inX10 (k := 28) (by decide) q1121 rfl dX10_item_380 ?_
  refine lv_iconst (v := 2) hx hb dX10_item_383 (by decide) ?_
  refine ial S hE hP 11 rfl (by unfold vp_in; decide) dX10_item_384 ?_
  refine rw_v (rwV S hE hT hS hP hD hA (c_X10_comes h) [0, 4, 6, 9, 12] rfl (by decide) lkX10_138 rfl ⟨(Nat.le_of_ble_eq_true rfl), (Nat.le_of_ble_eq_true rfl)⟩ 0 rfl rfl hl.1 rfl (Nat.le_of_ble_eq_true rfl) dX10_item_385 ⟨(Nat.zero_le _), (Nat.zero_le _)⟩) hP hD hS hA [0, 4, 6, 9, 12] rfl (by decide) (fun _ => rfl) (fun u385 H locs h hP hD hS => ?_)
  obtain ⟨w385_0, w385_1, w385_2, w385_3, w385_4⟩ := u385
  try dsimp only at h
  have hP : va_P D vwCl (wX10_item cI cJ cS a_o a_base a_beats a_cells a_kind a_notes a_other a_pitch a_share a_space a_speed a_tell a_times a_words z_refused z_steps z_held z_sort z_size z_shown z_carried z_was z_kept z_cutSpace z_cutTimes z_cutOff z_trace w385_0 v_cars v_tunes v_along v_near v_borne v_tempo v_seed v_fault v_from v_at v_end v_told v_wrongAt v_culprit v_ran v_isKept f_base f_beats g_cells w385_1 f_notes w385_2 f_pitch f_share w385_3 f_speed f_tell w385_4 f_words) H := hP
  have hD : va_D A (wX10_item cI cJ cS a_o a_base a_beats a_cells a_kind a_notes a_other a_pitch a_share a_space a_speed a_tell a_times a_words z_refused z_steps z_held z_sort z_size z_shown z_carried z_was z_kept z_cutSpace z_cutTimes z_cutOff z_trace w385_0 v_cars v_tunes v_along v_near v_borne v_tempo v_seed v_fault v_from v_at v_end v_told v_wrongAt v_culprit v_ran v_isKept f_base f_beats g_cells w385_1 f_notes w385_2 f_pitch f_share w385_3 f_speed f_tell w385_4 f_words) := hD
  refine lv_goto (tgt := 549) hx hb dX10_item_388 (by decide) ?_
  refine lv_iconst (v := 1) hx hb dX10_item_549 (by decide) ?_
  exact W.zret hx hb hr rfl (fun t ht _ => ⟨⟨_, (w385_0, v_cars, v_tunes, v_along, v_near, v_borne, v_tempo, v_at, v_told, v_wrongAt, f_base, f_beats, w385_1, f_notes, w385_2, f_pitch, f_share, w385_3, f_speed, f_tell, w385_4), rfl, h, hPt hP ht⟩, hS.F ht⟩) hS.2.2 dX10_item_550
set_option maxHeartbeats 4000000 in
set_option maxRecDepth 100000 in
theorem w_X10_item_206 {l : Launch} {D : va_G} {cI cJ cS : ClassId} {ad adK : Nat → Nat} {a_o a_base a_beats a_cells a_kind a_notes a_other a_pitch a_share a_space a_speed a_tell a_times a_words : Nat} {z_refused z_steps z_held z_sort z_size z_shown z_carried z_was z_kept z_cutSpace z_cutTimes z_cutOff z_trace : Value} {v_stretches : Int32} {v_cars : Int32} {v_tunes : Int32} {v_along : Int32} {v_near : Int32} {v_borne : Int32} {v_tempo : Int32} {v_seed : Int32} {v_fault : Int32} {v_from : Int32} {v_at : Int32} {v_end : Int32} {v_told : Int32} {v_wrongAt : Int32} {v_culprit : Int32} {v_ran : Int32} {v_isKept : Int32} {f_base : Nat → Int32} {f_beats : Nat → Int32} {g_cells : Nat → Int64} {f_kind : Nat → Int32} {f_notes : Nat → Int32} {f_other : Nat → Int32} {f_pitch : Nat → Int32} {f_share : Nat → Int32} {f_space : Nat → Int32} {f_speed : Nat → Int32} {f_tell : Nat → Int32} {f_times : Nat → Int32} {f_words : Nat → Int32} {x2 : Int32} {x3 : Int32} {x4 : Int32} {post : Int32 → Int32 → Int32 → Int32 → Int32 → Int32 → Int32 → Int32 → Int32 → Int32 → Int32 → (Nat → Int32) → (Nat → Int32) → (Nat → Int32) → (Nat → Int32) → (Nat → Int32) → (Nat → Int32) → (Nat → Int32) → (Nat → Int32) → (Nat → Int32) → (Nat → Int32) → (Nat → Int32) → Prop} {k145 : Int32 → Int32 → Int32 → Int32 → Int32 → Int32 → Int32 → Int32 → Int32 → Int32 → Int32 → (Nat → Int32) → (Nat → Int32) → (Nat → Int32) → (Nat → Int32) → (Nat → Int32) → (Nat → Int32) → (Nat → Int32) → (Nat → Int32) → (Nat → Int32) → (Nat → Int32) → (Nat → Int32) → Prop} {p : Program} {e : Env} {s : State} {m : MethodId} {args : Array Value} {below : List Frame} {meth : Method} {c : Code} {A : Nat → Prop} (S : CallFix p m c cX10_item 6 s args GW "RoadThatSingsModel") (hE : EN D cI cJ cS s) (hT : ST ad adK A s s.heap) (hA : ∀ q : Nat, s.heap.size ≤ q → A q) (hr : meth.sig.returnType = (some (.boolean))) (hlocks : meth.locks = false) (hk145 : ∀ (x4 : Int32) (v_stretches : Int32) (v_cars : Int32) (v_tunes : Int32) (v_along : Int32) (v_near : Int32) (v_borne : Int32) (v_tempo : Int32) (v_at : Int32) (v_told : Int32) (v_wrongAt : Int32) (f_base : Nat → Int32) (f_beats : Nat → Int32) (f_kind : Nat → Int32) (f_notes : Nat → Int32) (f_other : Nat → Int32) (f_pitch : Nat → Int32) (f_share : Nat → Int32) (f_space : Nat → Int32) (f_speed : Nat → Int32) (f_tell : Nat → Int32) (f_times : Nat → Int32) (H : Heap) (locs : List Loc) (ls : Array Slot), k145 x4 v_stretches v_cars v_tunes v_along v_near v_borne v_tempo v_at v_told v_wrongAt f_base f_beats f_kind f_notes f_other f_pitch f_share f_space f_speed f_tell f_times → va_P D vwCl (wX10_item cI cJ cS a_o a_base a_beats a_cells a_kind a_notes a_other a_pitch a_share a_space a_speed a_tell a_times a_words z_refused z_steps z_held z_sort z_size z_shown z_carried z_was z_kept z_cutSpace z_cutTimes z_cutOff z_trace v_stretches v_cars v_tunes v_along v_near v_borne v_tempo v_seed v_fault v_from v_at v_end v_told v_wrongAt v_culprit v_ran v_isKept f_base f_beats g_cells f_kind f_notes f_other f_pitch f_share f_space f_speed f_tell f_times f_words) H → va_D A (wX10_item cI cJ cS a_o a_base a_beats a_cells a_kind a_notes a_other a_pitch a_share a_space a_speed a_tell a_times a_words z_refused z_steps z_held z_sort z_size z_shown z_carried z_was z_kept z_cutSpace z_cutTimes z_cutOff z_trace v_stretches v_cars v_tunes v_along v_near v_borne v_tempo v_seed v_fault v_from v_at v_end v_told v_wrongAt v_culprit v_ran v_isKept f_base f_beats g_cells f_kind f_notes f_other f_pitch f_share f_space f_speed f_tell f_times f_words) → va_S A s.heap H locs → lv_has ls 6 [(0, .ref a_o), (2, .int x2), (3, .int x3), (4, .int x4)] → W p l e (rmd 2 0 0) s m args below meth c H locs 0 0 (MQ below (va_Qi (fun r (u : Int32 × Int32 × Int32 × Int32 × Int32 × Int32 × Int32 × Int32 × Int32 × Int32 × (Nat → Int32) × (Nat → Int32) × (Nat → Int32) × (Nat → Int32) × (Nat → Int32) × (Nat → Int32) × (Nat → Int32) × (Nat → Int32) × (Nat → Int32) × (Nat → Int32) × (Nat → Int32)) => post r u.1 u.2.1 u.2.2.1 u.2.2.2.1 u.2.2.2.2.1 u.2.2.2.2.2.1 u.2.2.2.2.2.2.1 u.2.2.2.2.2.2.2.1 u.2.2.2.2.2.2.2.2.1 u.2.2.2.2.2.2.2.2.2.1 u.2.2.2.2.2.2.2.2.2.2.1 u.2.2.2.2.2.2.2.2.2.2.2.1 u.2.2.2.2.2.2.2.2.2.2.2.2.1 u.2.2.2.2.2.2.2.2.2.2.2.2.2.1 u.2.2.2.2.2.2.2.2.2.2.2.2.2.2.1 u.2.2.2.2.2.2.2.2.2.2.2.2.2.2.2.1 u.2.2.2.2.2.2.2.2.2.2.2.2.2.2.2.2.1 u.2.2.2.2.2.2.2.2.2.2.2.2.2.2.2.2.2.1 u.2.2.2.2.2.2.2.2.2.2.2.2.2.2.2.2.2.2.1 u.2.2.2.2.2.2.2.2.2.2.2.2.2.2.2.2.2.2.2.1 u.2.2.2.2.2.2.2.2.2.2.2.2.2.2.2.2.2.2.2.2) (fun u t => va_P D vwCl (wX10_item cI cJ cS a_o a_base a_beats a_cells a_kind a_notes a_other a_pitch a_share a_space a_speed a_tell a_times a_words z_refused z_steps z_held z_sort z_size z_shown z_carried z_was z_kept z_cutSpace z_cutTimes z_cutOff z_trace u.1 u.2.1 u.2.2.1 u.2.2.2.1 u.2.2.2.2.1 u.2.2.2.2.2.1 u.2.2.2.2.2.2.1 v_seed v_fault v_from u.2.2.2.2.2.2.2.1 v_end u.2.2.2.2.2.2.2.2.1 u.2.2.2.2.2.2.2.2.2.1 v_culprit v_ran v_isKept u.2.2.2.2.2.2.2.2.2.2.1 u.2.2.2.2.2.2.2.2.2.2.2.1 g_cells u.2.2.2.2.2.2.2.2.2.2.2.2.1 u.2.2.2.2.2.2.2.2.2.2.2.2.2.1 u.2.2.2.2.2.2.2.2.2.2.2.2.2.2.1 u.2.2.2.2.2.2.2.2.2.2.2.2.2.2.2.1 u.2.2.2.2.2.2.2.2.2.2.2.2.2.2.2.2.1 u.2.2.2.2.2.2.2.2.2.2.2.2.2.2.2.2.2.1 u.2.2.2.2.2.2.2.2.2.2.2.2.2.2.2.2.2.2.1 u.2.2.2.2.2.2.2.2.2.2.2.2.2.2.2.2.2.2.2.1 u.2.2.2.2.2.2.2.2.2.2.2.2.2.2.2.2.2.2.2.2 f_words) t.heap) A) args s 0 0 A) (F0 m 145 ls [])) : ∀ (H : Heap) (locs : List Loc) (ls : Array Slot), F_X10_item_206 v_from v_end g_cells post k145 x2 x3 x4 v_stretches v_cars v_tunes v_along v_near v_borne v_tempo v_at v_told v_wrongAt f_base f_beats f_kind f_notes f_other f_pitch f_share f_space f_speed f_tell f_times → va_P D vwCl (wX10_item cI cJ cS a_o a_base a_beats a_cells a_kind a_notes a_other a_pitch a_share a_space a_speed a_tell a_times a_words z_refused z_steps z_held z_sort z_size z_shown z_carried z_was z_kept z_cutSpace z_cutTimes z_cutOff z_trace v_stretches v_cars v_tunes v_along v_near v_borne v_tempo v_seed v_fault v_from v_at v_end v_told v_wrongAt v_culprit v_ran v_isKept f_base f_beats g_cells f_kind f_notes f_other f_pitch f_share f_space f_speed f_tell f_times f_words) H → va_D A (wX10_item cI cJ cS a_o a_base a_beats a_cells a_kind a_notes a_other a_pitch a_share a_space a_speed a_tell a_times a_words z_refused z_steps z_held z_sort z_size z_shown z_carried z_was z_kept z_cutSpace z_cutTimes z_cutOff z_trace v_stretches v_cars v_tunes v_along v_near v_borne v_tempo v_seed v_fault v_from v_at v_end v_told v_wrongAt v_culprit v_ran v_isKept f_base f_beats g_cells f_kind f_notes f_other f_pitch f_share f_space f_speed f_tell f_times f_words) → va_S A s.heap H locs → lv_has ls 6 [(0, .ref a_o), (2, .int x2), (3, .int x3), (4, .int x4)] → W p l e (rmd 2 0 0) s m args below meth c H locs 0 0 (MQ below (va_Qi (fun r (u : Int32 × Int32 × Int32 × Int32 × Int32 × Int32 × Int32 × Int32 × Int32 × Int32 × (Nat → Int32) × (Nat → Int32) × (Nat → Int32) × (Nat → Int32) × (Nat → Int32) × (Nat → Int32) × (Nat → Int32) × (Nat → Int32) × (Nat → Int32) × (Nat → Int32) × (Nat → Int32)) => post r u.1 u.2.1 u.2.2.1 u.2.2.2.1 u.2.2.2.2.1 u.2.2.2.2.2.1 u.2.2.2.2.2.2.1 u.2.2.2.2.2.2.2.1 u.2.2.2.2.2.2.2.2.1 u.2.2.2.2.2.2.2.2.2.1 u.2.2.2.2.2.2.2.2.2.2.1 u.2.2.2.2.2.2.2.2.2.2.2.1 u.2.2.2.2.2.2.2.2.2.2.2.2.1 u.2.2.2.2.2.2.2.2.2.2.2.2.2.1 u.2.2.2.2.2.2.2.2.2.2.2.2.2.2.1 u.2.2.2.2.2.2.2.2.2.2.2.2.2.2.2.1 u.2.2.2.2.2.2.2.2.2.2.2.2.2.2.2.2.1 u.2.2.2.2.2.2.2.2.2.2.2.2.2.2.2.2.2.1 u.2.2.2.2.2.2.2.2.2.2.2.2.2.2.2.2.2.2.1 u.2.2.2.2.2.2.2.2.2.2.2.2.2.2.2.2.2.2.2.1 u.2.2.2.2.2.2.2.2.2.2.2.2.2.2.2.2.2.2.2.2) (fun u t => va_P D vwCl (wX10_item cI cJ cS a_o a_base a_beats a_cells a_kind a_notes a_other a_pitch a_share a_space a_speed a_tell a_times a_words z_refused z_steps z_held z_sort z_size z_shown z_carried z_was z_kept z_cutSpace z_cutTimes z_cutOff z_trace u.1 u.2.1 u.2.2.1 u.2.2.2.1 u.2.2.2.2.1 u.2.2.2.2.2.1 u.2.2.2.2.2.2.1 v_seed v_fault v_from u.2.2.2.2.2.2.2.1 v_end u.2.2.2.2.2.2.2.2.1 u.2.2.2.2.2.2.2.2.2.1 v_culprit v_ran v_isKept u.2.2.2.2.2.2.2.2.2.2.1 u.2.2.2.2.2.2.2.2.2.2.2.1 g_cells u.2.2.2.2.2.2.2.2.2.2.2.2.1 u.2.2.2.2.2.2.2.2.2.2.2.2.2.1 u.2.2.2.2.2.2.2.2.2.2.2.2.2.2.1 u.2.2.2.2.2.2.2.2.2.2.2.2.2.2.2.1 u.2.2.2.2.2.2.2.2.2.2.2.2.2.2.2.2.1 u.2.2.2.2.2.2.2.2.2.2.2.2.2.2.2.2.2.1 u.2.2.2.2.2.2.2.2.2.2.2.2.2.2.2.2.2.2.1 u.2.2.2.2.2.2.2.2.2.2.2.2.2.2.2.2.2.2.2.1 u.2.2.2.2.2.2.2.2.2.2.2.2.2.2.2.2.2.2.2.2 f_words) t.heap) A) args s 0 0 A) (F0 m 206 ls []) := by
  intro  H locs ls h hP hD hS hl
  unfold F_X10_item_206 at h
  have hx := S.1
  have hb := S.2.1
  refine lv_aload_n hx hb dX10_item_206 rfl (lv_at hl 0 rfl) ?_
  refine lv_aload_n hx hb dX10_item_207 rfl (lv_at hl 0 rfl) ?_
  refine lv_iload_n hx hb dX10_item_208 rfl (lv_at hl 1 rfl) ?_
  refine lv_iload hx hb dX10_item_209 (lv_at hl 3 rfl) ?_
  refine ro_i (roV S hE hT hS (c_X10_low h) lkX10_208 rfl ⟨(Nat.le_of_ble_eq_true rfl), (Nat.le_of_ble_eq_true rfl)⟩ (hP.sub [0] rfl) 0 rfl rfl hl.1 rfl (Nat.le_of_ble_eq_true rfl) dX10_item_211 ⟨(Nat.zero_le _), (Nat.zero_le _)⟩) (fun r211 h => ?_)
  refine lv_aload_n hx hb dX10_item_214 rfl (lv_at hl 0 rfl) ?_
  refine lv_iload_n hx hb dX10_item_215 rfl (lv_at hl 1 rfl) ?_
  refine lv_iload hx hb dX10_item_216 (lv_at hl 3 rfl) ?_
  refine ro_i (roV S hE hT hS (c_X10_high h) lkX10_211 rfl ⟨(Nat.le_of_ble_eq_true rfl), (Nat.le_of_ble_eq_true rfl)⟩ (hP.sub [0, 8] rfl) 0 rfl rfl hl.1 rfl (Nat.le_of_ble_eq_true rfl) dX10_item_218 ⟨(Nat.zero_le _), (Nat.zero_le _)⟩) (fun r218 h => ?_)
  refine rw_i (rwV S hE hT hS hP hD hA (c_X10_number h) [0, 3] rfl (by decide) lkX10_214 rfl ⟨(Nat.le_of_ble_eq_true rfl), (Nat.le_of_ble_eq_true rfl)⟩ 0 rfl rfl hl.1 rfl (Nat.le_of_ble_eq_true rfl) dX10_item_221 ⟨(Nat.zero_le _), (Nat.zero_le _)⟩) hP hD hS hA [0, 3] rfl (by decide) (fun _ => rfl) (fun r221 u221 H locs h hP hD hS => ?_)
  obtain ⟨w221_0, w221_1, w221_2⟩ := u221
  try dsimp only at h
  have hP : va_P D vwCl (wX10_item cI cJ cS a_o a_base a_beats a_cells a_kind a_notes a_other a_pitch a_share a_space a_speed a_tell a_times a_words z_refused z_steps z_held z_sort z_size z_shown z_carried z_was z_kept z_cutSpace z_cutTimes z_cutOff z_trace v_stretches v_cars v_tunes v_along v_near v_borne v_tempo v_seed v_fault v_from w221_0 v_end w221_1 w221_2 v_culprit v_ran v_isKept f_base f_beats g_cells f_kind f_notes f_other f_pitch f_share f_space f_speed f_tell f_times f_words) H := hP
  have hD : va_D A (wX10_item cI cJ cS a_o a_base a_beats a_cells a_kind a_notes a_other a_pitch a_share a_space a_speed a_tell a_times a_words z_refused z_steps z_held z_sort z_size z_shown z_carried z_was z_kept z_cutSpace z_cutTimes z_cutOff z_trace v_stretches v_cars v_tunes v_along v_near v_borne v_tempo v_seed v_fault v_from w221_0 v_end w221_1 w221_2 v_culprit v_ran v_isKept f_base f_beats g_cells f_kind f_notes f_other f_pitch f_share f_space f_speed f_tell f_times f_words) := hD
  refine lv_if_ne (tgt := 229) hx hb dX10_item_224 (by decide) (fun hc => ?_) (fun hc => ?_)
  · have h := h.2 hc
    refine lv_aload_n hx hb dX10_item_229 rfl (lv_at hl 0 rfl) ?_
    refine gf S hE hP 0 rfl rfl inX10 (k := 28) (by decide) q1121 rfl dX10_item_230 ?_
    refine lv_iload hx hb dX10_item_233 (lv_at hl 3 rfl) ?_
    refine lv_aload_n hx hb dX10_item_235 rfl (lv_at hl 0 rfl) ?_
    refine gf S hE hP 0 rfl rfl inX10 (k := 32) (by decide) q1125 rfl dX10_item_236 ?_
    obtain ⟨hi, h⟩ := h
    refine ias S hE hP hD hS 11 rfl hi dX10_item_239 (fun H locs hP hD hS => ?_)
    have hP : va_P D vwCl (wX10_item cI cJ cS a_o a_base a_beats a_cells a_kind a_notes a_other a_pitch a_share a_space a_speed a_tell a_times a_words z_refused z_steps z_held z_sort z_size z_shown z_carried z_was z_kept z_cutSpace z_cutTimes z_cutOff z_trace v_stretches v_cars v_tunes v_along v_near v_borne v_tempo v_seed v_fault v_from w221_0 v_end w221_1 w221_2 v_culprit v_ran v_isKept f_base f_beats g_cells f_kind f_notes f_other f_pitch f_share f_space f_speed (upd f_tell x4.toNatClampNeg w221_1) f_times f_words) H := hP
    have hD : va_D A (wX10_item cI cJ cS a_o a_base a_beats a_cells a_kind a_notes a_other a_pitch a_share a_space a_speed a_tell a_times a_words z_refused z_steps z_held z_sort z_size z_shown z_carried z_was z_kept z_cutSpace z_cutTimes z_cutOff z_trace v_stretches v_cars v_tunes v_along v_near v_borne v_tempo v_seed v_fault v_from w221_0 v_end w221_1 w221_2 v_culprit v_ran v_isKept f_base f_beats g_cells f_kind f_notes f_other f_pitch f_share f_space f_speed (upd f_tell x4.toNatClampNeg w221_1) f_times f_words) := hD
    obtain ⟨x4_240, ex4_240⟩ : ∃ z : Int32, z = x4 + 1 := ⟨_, rfl⟩
    have h := h _ ex4_240
    refine lv_iinc (v := x4_240) (lv' := [(4, .int x4_240), (0, .ref a_o), (2, .int x2), (3, .int x3)]) hx hb dX10_item_240 hl (k := 3) rfl (by rw [ex4_240]; rfl) (by decide) rfl (fun ls hl => ?_)
    refine lv_goto (tgt := 145) hx hb dX10_item_243 (by decide) ?_
    exact hk145 _ _ _ _ _ _ _ _ _ _ _ _ _ _ _ _ _ _ _ _ _ _ _ _ _ h hP hD hS (lv_sub hl [1, 2, 3, 0] rfl)
  have h := h.1 hc
  refine lv_iconst (v := 0) hx hb dX10_item_227 (by decide) ?_
  exact W.zret hx hb hr rfl (fun t ht _ => ⟨⟨_, (v_stretches, v_cars, v_tunes, v_along, v_near, v_borne, v_tempo, w221_0, w221_1, w221_2, f_base, f_beats, f_kind, f_notes, f_other, f_pitch, f_share, f_space, f_speed, f_tell, f_times), rfl, h, hPt hP ht⟩, hS.F ht⟩) hS.2.2 dX10_item_228
set_option maxHeartbeats 4000000 in
set_option maxRecDepth 100000 in
theorem w_X10_item_145 {l : Launch} {D : va_G} {cI cJ cS : ClassId} {ad adK : Nat → Nat} {a_o a_base a_beats a_cells a_kind a_notes a_other a_pitch a_share a_space a_speed a_tell a_times a_words : Nat} {z_refused z_steps z_held z_sort z_size z_shown z_carried z_was z_kept z_cutSpace z_cutTimes z_cutOff z_trace : Value} {v_seed : Int32} {v_fault : Int32} {v_from : Int32} {v_end : Int32} {v_culprit : Int32} {v_ran : Int32} {v_isKept : Int32} {g_cells : Nat → Int64} {f_words : Nat → Int32} {x2 : Int32} {x3 : Int32} {post : Int32 → Int32 → Int32 → Int32 → Int32 → Int32 → Int32 → Int32 → Int32 → Int32 → Int32 → (Nat → Int32) → (Nat → Int32) → (Nat → Int32) → (Nat → Int32) → (Nat → Int32) → (Nat → Int32) → (Nat → Int32) → (Nat → Int32) → (Nat → Int32) → (Nat → Int32) → (Nat → Int32) → Prop} {p : Program} {e : Env} {s : State} {m : MethodId} {args : Array Value} {below : List Frame} {meth : Method} {c : Code} {A : Nat → Prop} (S : CallFix p m c cX10_item 6 s args GW "RoadThatSingsModel") (hE : EN D cI cJ cS s) (hT : ST ad adK A s s.heap) (hA : ∀ q : Nat, s.heap.size ≤ q → A q) (hr : meth.sig.returnType = (some (.boolean))) (hlocks : meth.locks = false) : ∀ n : Nat, ∀ (x4 : Int32) (v_stretches : Int32) (v_cars : Int32) (v_tunes : Int32) (v_along : Int32) (v_near : Int32) (v_borne : Int32) (v_tempo : Int32) (v_at : Int32) (v_told : Int32) (v_wrongAt : Int32) (f_base : Nat → Int32) (f_beats : Nat → Int32) (f_kind : Nat → Int32) (f_notes : Nat → Int32) (f_other : Nat → Int32) (f_pitch : Nat → Int32) (f_share : Nat → Int32) (f_space : Nat → Int32) (f_speed : Nat → Int32) (f_tell : Nat → Int32) (f_times : Nat → Int32) (H : Heap) (locs : List Loc) (ls : Array Slot), L_X10_item_145 v_from v_end g_cells x2 x3 post n x4 v_stretches v_cars v_tunes v_along v_near v_borne v_tempo v_at v_told v_wrongAt f_base f_beats f_kind f_notes f_other f_pitch f_share f_space f_speed f_tell f_times → va_P D vwCl (wX10_item cI cJ cS a_o a_base a_beats a_cells a_kind a_notes a_other a_pitch a_share a_space a_speed a_tell a_times a_words z_refused z_steps z_held z_sort z_size z_shown z_carried z_was z_kept z_cutSpace z_cutTimes z_cutOff z_trace v_stretches v_cars v_tunes v_along v_near v_borne v_tempo v_seed v_fault v_from v_at v_end v_told v_wrongAt v_culprit v_ran v_isKept f_base f_beats g_cells f_kind f_notes f_other f_pitch f_share f_space f_speed f_tell f_times f_words) H → va_D A (wX10_item cI cJ cS a_o a_base a_beats a_cells a_kind a_notes a_other a_pitch a_share a_space a_speed a_tell a_times a_words z_refused z_steps z_held z_sort z_size z_shown z_carried z_was z_kept z_cutSpace z_cutTimes z_cutOff z_trace v_stretches v_cars v_tunes v_along v_near v_borne v_tempo v_seed v_fault v_from v_at v_end v_told v_wrongAt v_culprit v_ran v_isKept f_base f_beats g_cells f_kind f_notes f_other f_pitch f_share f_space f_speed f_tell f_times f_words) → va_S A s.heap H locs → lv_has ls 6 [(0, .ref a_o), (2, .int x2), (3, .int x3), (4, .int x4)] → W p l e (rmd 2 0 0) s m args below meth c H locs 0 0 (MQ below (va_Qi (fun r (u : Int32 × Int32 × Int32 × Int32 × Int32 × Int32 × Int32 × Int32 × Int32 × Int32 × (Nat → Int32) × (Nat → Int32) × (Nat → Int32) × (Nat → Int32) × (Nat → Int32) × (Nat → Int32) × (Nat → Int32) × (Nat → Int32) × (Nat → Int32) × (Nat → Int32) × (Nat → Int32)) => post r u.1 u.2.1 u.2.2.1 u.2.2.2.1 u.2.2.2.2.1 u.2.2.2.2.2.1 u.2.2.2.2.2.2.1 u.2.2.2.2.2.2.2.1 u.2.2.2.2.2.2.2.2.1 u.2.2.2.2.2.2.2.2.2.1 u.2.2.2.2.2.2.2.2.2.2.1 u.2.2.2.2.2.2.2.2.2.2.2.1 u.2.2.2.2.2.2.2.2.2.2.2.2.1 u.2.2.2.2.2.2.2.2.2.2.2.2.2.1 u.2.2.2.2.2.2.2.2.2.2.2.2.2.2.1 u.2.2.2.2.2.2.2.2.2.2.2.2.2.2.2.1 u.2.2.2.2.2.2.2.2.2.2.2.2.2.2.2.2.1 u.2.2.2.2.2.2.2.2.2.2.2.2.2.2.2.2.2.1 u.2.2.2.2.2.2.2.2.2.2.2.2.2.2.2.2.2.2.1 u.2.2.2.2.2.2.2.2.2.2.2.2.2.2.2.2.2.2.2.1 u.2.2.2.2.2.2.2.2.2.2.2.2.2.2.2.2.2.2.2.2) (fun u t => va_P D vwCl (wX10_item cI cJ cS a_o a_base a_beats a_cells a_kind a_notes a_other a_pitch a_share a_space a_speed a_tell a_times a_words z_refused z_steps z_held z_sort z_size z_shown z_carried z_was z_kept z_cutSpace z_cutTimes z_cutOff z_trace u.1 u.2.1 u.2.2.1 u.2.2.2.1 u.2.2.2.2.1 u.2.2.2.2.2.1 u.2.2.2.2.2.2.1 v_seed v_fault v_from u.2.2.2.2.2.2.2.1 v_end u.2.2.2.2.2.2.2.2.1 u.2.2.2.2.2.2.2.2.2.1 v_culprit v_ran v_isKept u.2.2.2.2.2.2.2.2.2.2.1 u.2.2.2.2.2.2.2.2.2.2.2.1 g_cells u.2.2.2.2.2.2.2.2.2.2.2.2.1 u.2.2.2.2.2.2.2.2.2.2.2.2.2.1 u.2.2.2.2.2.2.2.2.2.2.2.2.2.2.1 u.2.2.2.2.2.2.2.2.2.2.2.2.2.2.2.1 u.2.2.2.2.2.2.2.2.2.2.2.2.2.2.2.2.1 u.2.2.2.2.2.2.2.2.2.2.2.2.2.2.2.2.2.1 u.2.2.2.2.2.2.2.2.2.2.2.2.2.2.2.2.2.2.1 u.2.2.2.2.2.2.2.2.2.2.2.2.2.2.2.2.2.2.2.1 u.2.2.2.2.2.2.2.2.2.2.2.2.2.2.2.2.2.2.2.2 f_words) t.heap) A) args s 0 0 A) (F0 m 145 ls []) := by
  intro n
  induction n with
  | zero =>
    intro x4 v_stretches v_cars v_tunes v_along v_near v_borne v_tempo v_at v_told v_wrongAt f_base f_beats f_kind f_notes f_other f_pitch f_share f_space f_speed f_tell f_times H locs ls h hP hD hS hl
    exact h.elim
  | succ n ih =>
    intro x4 v_stretches v_cars v_tunes v_along v_near v_borne v_tempo v_at v_told v_wrongAt f_base f_beats f_kind f_notes f_other f_pitch f_share f_space f_speed f_tell f_times H locs ls h hP hD hS hl
    rw [L_X10_item_145] at h
    have hx := S.1
    have hb := S.2.1
    refine lv_iload hx hb dX10_item_145 (lv_at hl 3 rfl) ?_
    refine lv_iload_n hx hb dX10_item_147 rfl (lv_at hl 2 rfl) ?_
    refine lv_icmp_ge (tgt := 246) hx hb dX10_item_148 (by decide) (fun hc => ?_) (fun hc => ?_)
    · have h := h.1 hc
      refine lv_iload_n hx hb dX10_item_246 rfl (lv_at hl 1 rfl) ?_
      by_cases hk0 : x2 = 0
      · have h := h.1 hk0
        refine lv_tableIn (off := 61) (tgt := 308) hx hb dX10_item_247 (by rw [hk0]; decide) (by rw [hk0]; decide) (by rw [hk0]; rfl) (by decide) ?_
        refine lv_aload_n hx hb dX10_item_308 rfl (lv_at hl 0 rfl) ?_
        refine lv_iload_n hx hb dX10_item_309 rfl (lv_at hl 1 rfl) ?_
        refine lv_if_ne (tgt := 317) hx hb dX10_item_310 (by decide) (fun hc => ?_) (fun hc => ?_)
        · have h := h.2 hc
          refine lv_iload_n hx hb dX10_item_317 rfl (lv_at hl 1 rfl) ?_
          refine lv_iconst (v := 2) hx hb dX10_item_318 (by decide) ?_
          refine lv_icmp_ne (tgt := 326) hx hb dX10_item_319 (by decide) (fun hc => ?_) (fun hc => ?_)
          · have h := h.2 hc
            refine lv_iconst (v := 4) hx hb dX10_item_326 (by decide) ?_
            refine w_X10_item_327 S hE hT hA hr hlocks _ _ _ h hP hD hS (lv_sub hl [0] rfl)
          have h := h.1 hc
          refine lv_iconst (v := 3) hx hb dX10_item_322 (by decide) ?_
          refine lv_goto (tgt := 327) hx hb dX10_item_323 (by decide) ?_
          refine w_X10_item_327 S hE hT hA hr hlocks _ _ _ h hP hD hS (lv_sub hl [0] rfl)
        have h := h.1 hc
        refine lv_iconst (v := 1) hx hb dX10_item_313 (by decide) ?_
        refine lv_goto (tgt := 327) hx hb dX10_item_314 (by decide) ?_
        refine w_X10_item_327 S hE hT hA hr hlocks _ _ _ h hP hD hS (lv_sub hl [0] rfl)
      have h := h.2 hk0
      by_cases hk1 : x2 = 1
      · have h := h.1 hk1
        refine lv_tableIn (off := 99) (tgt := 346) hx hb dX10_item_247 (by rw [hk1]; decide) (by rw [hk1]; decide) (by rw [hk1]; rfl) (by decide) ?_
        refine lv_aload_n hx hb dX10_item_346 rfl (lv_at hl 0 rfl) ?_
        refine lv_iload_n hx hb dX10_item_347 rfl (lv_at hl 1 rfl) ?_
        refine lv_iconst (v := 1) hx hb dX10_item_348 (by decide) ?_
        refine lv_icmp_ne (tgt := 356) hx hb dX10_item_349 (by decide) (fun hc => ?_) (fun hc => ?_)
        · have h := h.2 hc
          refine lv_iload_n hx hb dX10_item_356 rfl (lv_at hl 1 rfl) ?_
          refine lv_iconst (v := 4) hx hb dX10_item_357 (by decide) ?_
          refine lv_icmp_ne (tgt := 365) hx hb dX10_item_358 (by decide) (fun hc => ?_) (fun hc => ?_)
          · have h := h.2 hc
            refine lv_bipush (v := 6) hx hb dX10_item_365 (by decide) ?_
            refine w_X10_item_367 S hE hT hA hr hlocks _ _ _ h hP hD hS (lv_sub hl [0] rfl)
          have h := h.1 hc
          refine lv_iconst (v := 5) hx hb dX10_item_361 (by decide) ?_
          refine lv_goto (tgt := 367) hx hb dX10_item_362 (by decide) ?_
          refine w_X10_item_367 S hE hT hA hr hlocks _ _ _ h hP hD hS (lv_sub hl [0] rfl)
        have h := h.1 hc
        refine lv_iconst (v := 2) hx hb dX10_item_352 (by decide) ?_
        refine lv_goto (tgt := 367) hx hb dX10_item_353 (by decide) ?_
        refine w_X10_item_367 S hE hT hA hr hlocks _ _ _ h hP hD hS (lv_sub hl [0] rfl)
      have h := h.2 hk1
      by_cases hk2 : x2 = 2
      · have h := h.1 hk2
        refine lv_tableIn (off := 61) (tgt := 308) hx hb dX10_item_247 (by rw [hk2]; decide) (by rw [hk2]; decide) (by rw [hk2]; rfl) (by decide) ?_
        refine lv_aload_n hx hb dX10_item_308 rfl (lv_at hl 0 rfl) ?_
        refine lv_iload_n hx hb dX10_item_309 rfl (lv_at hl 1 rfl) ?_
        refine lv_if_ne (tgt := 317) hx hb dX10_item_310 (by decide) (fun hc => ?_) (fun hc => ?_)
        · have h := h.2 hc
          refine lv_iload_n hx hb dX10_item_317 rfl (lv_at hl 1 rfl) ?_
          refine lv_iconst (v := 2) hx hb dX10_item_318 (by decide) ?_
          refine lv_icmp_ne (tgt := 326) hx hb dX10_item_319 (by decide) (fun hc => ?_) (fun hc => ?_)
          · have h := h.2 hc
            refine lv_iconst (v := 4) hx hb dX10_item_326 (by decide) ?_
            refine w_X10_item_327 S hE hT hA hr hlocks _ _ _ h hP hD hS (lv_sub hl [0] rfl)
          have h := h.1 hc
          refine lv_iconst (v := 3) hx hb dX10_item_322 (by decide) ?_
          refine lv_goto (tgt := 327) hx hb dX10_item_323 (by decide) ?_
          refine w_X10_item_327 S hE hT hA hr hlocks _ _ _ h hP hD hS (lv_sub hl [0] rfl)
        have h := h.1 hc
        refine lv_iconst (v := 1) hx hb dX10_item_313 (by decide) ?_
        refine lv_goto (tgt := 327) hx hb dX10_item_314 (by decide) ?_
        refine w_X10_item_327 S hE hT hA hr hlocks _ _ _ h hP hD hS (lv_sub hl [0] rfl)
      have h := h.2 hk2
      by_cases hk3 : x2 = 3
      · have h := h.1 hk3
        refine lv_tableIn (off := 61) (tgt := 308) hx hb dX10_item_247 (by rw [hk3]; decide) (by rw [hk3]; decide) (by rw [hk3]; rfl) (by decide) ?_
        refine lv_aload_n hx hb dX10_item_308 rfl (lv_at hl 0 rfl) ?_
        refine lv_iload_n hx hb dX10_item_309 rfl (lv_at hl 1 rfl) ?_
        refine lv_if_ne (tgt := 317) hx hb dX10_item_310 (by decide) (fun hc => ?_) (fun hc => ?_)
        · have h := h.2 hc
          refine lv_iload_n hx hb dX10_item_317 rfl (lv_at hl 1 rfl) ?_
          refine lv_iconst (v := 2) hx hb dX10_item_318 (by decide) ?_
          refine lv_icmp_ne (tgt := 326) hx hb dX10_item_319 (by decide) (fun hc => ?_) (fun hc => ?_)
          · have h := h.2 hc
            refine lv_iconst (v := 4) hx hb dX10_item_326 (by decide) ?_
            refine w_X10_item_327 S hE hT hA hr hlocks _ _ _ h hP hD hS (lv_sub hl [0] rfl)
          have h := h.1 hc
          refine lv_iconst (v := 3) hx hb dX10_item_322 (by decide) ?_
          refine lv_goto (tgt := 327) hx hb dX10_item_323 (by decide) ?_
          refine w_X10_item_327 S hE hT hA hr hlocks _ _ _ h hP hD hS (lv_sub hl [0] rfl)
        have h := h.1 hc
        refine lv_iconst (v := 1) hx hb dX10_item_313 (by decide) ?_
        refine lv_goto (tgt := 327) hx hb dX10_item_314 (by decide) ?_
        refine w_X10_item_327 S hE hT hA hr hlocks _ _ _ h hP hD hS (lv_sub hl [0] rfl)
      have h := h.2 hk3
      by_cases hk4 : x2 = 4
      · have h := h.1 hk4
        refine lv_tableIn (off := 99) (tgt := 346) hx hb dX10_item_247 (by rw [hk4]; decide) (by rw [hk4]; decide) (by rw [hk4]; rfl) (by decide) ?_
        refine lv_aload_n hx hb dX10_item_346 rfl (lv_at hl 0 rfl) ?_
        refine lv_iload_n hx hb dX10_item_347 rfl (lv_at hl 1 rfl) ?_
        refine lv_iconst (v := 1) hx hb dX10_item_348 (by decide) ?_
        refine lv_icmp_ne (tgt := 356) hx hb dX10_item_349 (by decide) (fun hc => ?_) (fun hc => ?_)
        · have h := h.2 hc
          refine lv_iload_n hx hb dX10_item_356 rfl (lv_at hl 1 rfl) ?_
          refine lv_iconst (v := 4) hx hb dX10_item_357 (by decide) ?_
          refine lv_icmp_ne (tgt := 365) hx hb dX10_item_358 (by decide) (fun hc => ?_) (fun hc => ?_)
          · have h := h.2 hc
            refine lv_bipush (v := 6) hx hb dX10_item_365 (by decide) ?_
            refine w_X10_item_367 S hE hT hA hr hlocks _ _ _ h hP hD hS (lv_sub hl [0] rfl)
          have h := h.1 hc
          refine lv_iconst (v := 5) hx hb dX10_item_361 (by decide) ?_
          refine lv_goto (tgt := 367) hx hb dX10_item_362 (by decide) ?_
          refine w_X10_item_367 S hE hT hA hr hlocks _ _ _ h hP hD hS (lv_sub hl [0] rfl)
        have h := h.1 hc
        refine lv_iconst (v := 2) hx hb dX10_item_352 (by decide) ?_
        refine lv_goto (tgt := 367) hx hb dX10_item_353 (by decide) ?_
        refine w_X10_item_367 S hE hT hA hr hlocks _ _ _ h hP hD hS (lv_sub hl [0] rfl)
      have h := h.2 hk4
      by_cases hk5 : x2 = 5
      · have h := h.1 hk5
        refine lv_tableIn (off := 99) (tgt := 346) hx hb dX10_item_247 (by rw [hk5]; decide) (by rw [hk5]; decide) (by rw [hk5]; rfl) (by decide) ?_
        refine lv_aload_n hx hb dX10_item_346 rfl (lv_at hl 0 rfl) ?_
        refine lv_iload_n hx hb dX10_item_347 rfl (lv_at hl 1 rfl) ?_
        refine lv_iconst (v := 1) hx hb dX10_item_348 (by decide) ?_
        refine lv_icmp_ne (tgt := 356) hx hb dX10_item_349 (by decide) (fun hc => ?_) (fun hc => ?_)
        · have h := h.2 hc
          refine lv_iload_n hx hb dX10_item_356 rfl (lv_at hl 1 rfl) ?_
          refine lv_iconst (v := 4) hx hb dX10_item_357 (by decide) ?_
          refine lv_icmp_ne (tgt := 365) hx hb dX10_item_358 (by decide) (fun hc => ?_) (fun hc => ?_)
          · have h := h.2 hc
            refine lv_bipush (v := 6) hx hb dX10_item_365 (by decide) ?_
            refine w_X10_item_367 S hE hT hA hr hlocks _ _ _ h hP hD hS (lv_sub hl [0] rfl)
          have h := h.1 hc
          refine lv_iconst (v := 5) hx hb dX10_item_361 (by decide) ?_
          refine lv_goto (tgt := 367) hx hb dX10_item_362 (by decide) ?_
          refine w_X10_item_367 S hE hT hA hr hlocks _ _ _ h hP hD hS (lv_sub hl [0] rfl)
        have h := h.1 hc
        refine lv_iconst (v := 2) hx hb dX10_item_352 (by decide) ?_
        refine lv_goto (tgt := 367) hx hb dX10_item_353 (by decide) ?_
        refine w_X10_item_367 S hE hT hA hr hlocks _ _ _ h hP hD hS (lv_sub hl [0] rfl)
      have h := h.2 hk5
      by_cases hk6 : x2 = 6
      · have h := h.1 hk6
        refine lv_tableIn (off := 144) (tgt := 391) hx hb dX10_item_247 (by rw [hk6]; decide) (by rw [hk6]; decide) (by rw [hk6]; rfl) (by decide) ?_
        refine lv_aload_n hx hb dX10_item_391 rfl (lv_at hl 0 rfl) ?_
        refine lv_aload_n hx hb dX10_item_392 rfl (lv_at hl 0 rfl) ?_
        refine gf S hE hP 0 rfl rfl inX10 (k := 28) (by decide) q1121 rfl dX10_item_393 ?_
        refine lv_iconst (v := 0) hx hb dX10_item_396 (by decide) ?_
        refine ial S hE hP 11 rfl (by unfold vp_in; decide) dX10_item_397 ?_
        refine lv_aload_n hx hb dX10_item_398 rfl (lv_at hl 0 rfl) ?_
        refine gf S hE hP 0 rfl rfl inX10 (k := 28) (by decide) q1121 rfl dX10_item_399 ?_
        refine lv_iconst (v := 1) hx hb dX10_item_402 (by decide) ?_
        refine ial S hE hP 11 rfl (by unfold vp_in; decide) dX10_item_403 ?_
        refine lv_aload_n hx hb dX10_item_404 rfl (lv_at hl 0 rfl) ?_
        refine gf S hE hP 0 rfl rfl inX10 (k := 28) (by decide) q1121 rfl dX10_item_405 ?_
        refine lv_iconst (v := 2) hx hb dX10_item_408 (by decide) ?_
        refine ial S hE hP 11 rfl (by unfold vp_in; decide) dX10_item_409 ?_
        refine rw_i (rwV S hE hT hS hP hD hA (c_X10_cars h) [0, 1, 8, 10] rfl (by decide) lkX10_162 rfl ⟨(Nat.le_of_ble_eq_true rfl), (Nat.le_of_ble_eq_true rfl)⟩ 0 rfl rfl hl.1 rfl (Nat.le_of_ble_eq_true rfl) dX10_item_410 ⟨(Nat.zero_le _), (Nat.zero_le _)⟩) hP hD hS hA [0, 1, 8, 10] rfl (by decide) (fun _ => rfl) (fun r410 u410 H locs h hP hD hS => ?_)
        obtain ⟨w410_0, w410_1, w410_2, w410_3⟩ := u410
        try dsimp only at h
        have hP : va_P D vwCl (wX10_item cI cJ cS a_o a_base a_beats a_cells a_kind a_notes a_other a_pitch a_share a_space a_speed a_tell a_times a_words z_refused z_steps z_held z_sort z_size z_shown z_carried z_was z_kept z_cutSpace z_cutTimes z_cutOff z_trace v_stretches w410_0 v_tunes v_along v_near v_borne v_tempo v_seed v_fault v_from v_at v_end v_told v_wrongAt v_culprit v_ran v_isKept w410_1 f_beats g_cells f_kind f_notes f_other f_pitch w410_2 f_space w410_3 f_tell f_times f_words) H := hP
        have hD : va_D A (wX10_item cI cJ cS a_o a_base a_beats a_cells a_kind a_notes a_other a_pitch a_share a_space a_speed a_tell a_times a_words z_refused z_steps z_held z_sort z_size z_shown z_carried z_was z_kept z_cutSpace z_cutTimes z_cutOff z_trace v_stretches w410_0 v_tunes v_along v_near v_borne v_tempo v_seed v_fault v_from v_at v_end v_told v_wrongAt v_culprit v_ran v_isKept w410_1 f_beats g_cells f_kind f_notes f_other f_pitch w410_2 f_space w410_3 f_tell f_times f_words) := hD
        refine lv_pop hx hb dX10_item_413 rfl ?_
        refine lv_goto (tgt := 549) hx hb dX10_item_414 (by decide) ?_
        refine lv_iconst (v := 1) hx hb dX10_item_549 (by decide) ?_
        exact W.zret hx hb hr rfl (fun t ht _ => ⟨⟨_, (v_stretches, w410_0, v_tunes, v_along, v_near, v_borne, v_tempo, v_at, v_told, v_wrongAt, w410_1, f_beats, f_kind, f_notes, f_other, f_pitch, w410_2, f_space, w410_3, f_tell, f_times), rfl, h, hPt hP ht⟩, hS.F ht⟩) hS.2.2 dX10_item_550
      have h := h.2 hk6
      by_cases hk7 : x2 = 7
      · have h := h.1 hk7
        refine lv_tableIn (off := 170) (tgt := 417) hx hb dX10_item_247 (by rw [hk7]; decide) (by rw [hk7]; decide) (by rw [hk7]; rfl) (by decide) ?_
        refine lv_aload_n hx hb dX10_item_417 rfl (lv_at hl 0 rfl) ?_
        refine gf S hE hP 0 rfl rfl inX10 (k := 18) (by decide) q1111 rfl dX10_item_418 ?_
        refine lv_aload_n hx hb dX10_item_421 rfl (lv_at hl 0 rfl) ?_
        refine lv_dup hx hb dX10_item_422 rfl ?_
        refine gf S hE hP 0 rfl rfl inX10 (k := 2) (by decide) q1095 rfl dX10_item_423 ?_
        refine lv_dup_x1 hx hb dX10_item_426 rfl rfl ?_
        refine lv_iconst (v := 1) hx hb dX10_item_427 (by decide) ?_
        refine lv_iadd hx hb dX10_item_428 ?_
        refine pf S hE hP hD hS 0 (k := 2) rfl rfl inX10 tyX10_ok nmX10 (by decide) q1095 rfl rfl rfl (Nat.le_of_ble_eq_true rfl) dX10_item_429 (fun H locs hP hD hS => ?_)
        have hP : va_P D vwCl (wX10_item cI cJ cS a_o a_base a_beats a_cells a_kind a_notes a_other a_pitch a_share a_space a_speed a_tell a_times a_words z_refused z_steps z_held z_sort z_size z_shown z_carried z_was z_kept z_cutSpace z_cutTimes z_cutOff z_trace v_stretches v_cars (v_tunes + 1) v_along v_near v_borne v_tempo v_seed v_fault v_from v_at v_end v_told v_wrongAt v_culprit v_ran v_isKept f_base f_beats g_cells f_kind f_notes f_other f_pitch f_share f_space f_speed f_tell f_times f_words) H := hP
        have hD : va_D A (wX10_item cI cJ cS a_o a_base a_beats a_cells a_kind a_notes a_other a_pitch a_share a_space a_speed a_tell a_times a_words z_refused z_steps z_held z_sort z_size z_shown z_carried z_was z_kept z_cutSpace z_cutTimes z_cutOff z_trace v_stretches v_cars (v_tunes + 1) v_along v_near v_borne v_tempo v_seed v_fault v_from v_at v_end v_told v_wrongAt v_culprit v_ran v_isKept f_base f_beats g_cells f_kind f_notes f_other f_pitch f_share f_space f_speed f_tell f_times f_words) := hD
        refine lv_iconst (v := 0) hx hb dX10_item_432 (by decide) ?_
        obtain ⟨hi, h⟩ := h
        refine ias S hE hP hD hS 5 rfl hi dX10_item_433 (fun H locs hP hD hS => ?_)
        have hP : va_P D vwCl (wX10_item cI cJ cS a_o a_base a_beats a_cells a_kind a_notes a_other a_pitch a_share a_space a_speed a_tell a_times a_words z_refused z_steps z_held z_sort z_size z_shown z_carried z_was z_kept z_cutSpace z_cutTimes z_cutOff z_trace v_stretches v_cars (v_tunes + 1) v_along v_near v_borne v_tempo v_seed v_fault v_from v_at v_end v_told v_wrongAt v_culprit v_ran v_isKept f_base f_beats g_cells f_kind (upd f_notes v_tunes.toNatClampNeg 0) f_other f_pitch f_share f_space f_speed f_tell f_times f_words) H := hP
        have hD : va_D A (wX10_item cI cJ cS a_o a_base a_beats a_cells a_kind a_notes a_other a_pitch a_share a_space a_speed a_tell a_times a_words z_refused z_steps z_held z_sort z_size z_shown z_carried z_was z_kept z_cutSpace z_cutTimes z_cutOff z_trace v_stretches v_cars (v_tunes + 1) v_along v_near v_borne v_tempo v_seed v_fault v_from v_at v_end v_told v_wrongAt v_culprit v_ran v_isKept f_base f_beats g_cells f_kind (upd f_notes v_tunes.toNatClampNeg 0) f_other f_pitch f_share f_space f_speed f_tell f_times f_words) := hD
        refine lv_goto (tgt := 549) hx hb dX10_item_434 (by decide) ?_
        refine lv_iconst (v := 1) hx hb dX10_item_549 (by decide) ?_
        exact W.zret hx hb hr rfl (fun t ht _ => ⟨⟨_, (v_stretches, v_cars, (v_tunes + 1), v_along, v_near, v_borne, v_tempo, v_at, v_told, v_wrongAt, f_base, f_beats, f_kind, (upd f_notes v_tunes.toNatClampNeg 0), f_other, f_pitch, f_share, f_space, f_speed, f_tell, f_times), rfl, h, hPt hP ht⟩, hS.F ht⟩) hS.2.2 dX10_item_550
      have h := h.2 hk7
      by_cases hk8 : x2 = 8
      · have h := h.1 hk8
        refine lv_tableIn (off := 190) (tgt := 437) hx hb dX10_item_247 (by rw [hk8]; decide) (by rw [hk8]; decide) (by rw [hk8]; rfl) (by decide) ?_
        refine lv_aload_n hx hb dX10_item_437 rfl (lv_at hl 0 rfl) ?_
        refine gf S hE hP 0 rfl rfl inX10 (k := 2) (by decide) q1095 rfl dX10_item_438 ?_
        refine lv_iconst (v := 1) hx hb dX10_item_441 (by decide) ?_
        refine lv_isub hx hb dX10_item_442 ?_
        refine lv_topi (fun x4_443 ex4_443 => ?_)
        have h := h _ ex4_443
        refine lv_istore (lv' := [(4, .int x4_443), (0, .ref a_o), (2, .int x2), (3, .int x3)]) hx hb dX10_item_443 hl (by decide) rfl (fun ls hl => ?_)
        refine lv_bipush (v := 12) hx hb dX10_item_445 (by decide) ?_
        refine lv_iload hx hb dX10_item_447 (lv_at hl 0 rfl) ?_
        refine lv_imul hx hb dX10_item_449 ?_
        refine lv_aload_n hx hb dX10_item_450 rfl (lv_at hl 1 rfl) ?_
        refine gf S hE hP 0 rfl rfl inX10 (k := 18) (by decide) q1111 rfl dX10_item_451 ?_
        refine lv_iload hx hb dX10_item_454 (lv_at hl 0 rfl) ?_
        obtain ⟨hi, h⟩ := h
        refine ial S hE hP 5 rfl hi dX10_item_456 ?_
        refine lv_iadd hx hb dX10_item_457 ?_
        refine lv_topi (fun x5_458 ex5_458 => ?_)
        have h := h _ ex5_458
        refine lv_istore (lv' := [(5, .int x5_458), (4, .int x4_443), (0, .ref a_o), (2, .int x2), (3, .int x3)]) hx hb dX10_item_458 hl (by decide) rfl (fun ls hl => ?_)
        refine lv_aload_n hx hb dX10_item_460 rfl (lv_at hl 2 rfl) ?_
        refine gf S hE hP 0 rfl rfl inX10 (k := 19) (by decide) q1112 rfl dX10_item_461 ?_
        refine lv_iload hx hb dX10_item_464 (lv_at hl 0 rfl) ?_
        refine lv_aload_n hx hb dX10_item_466 rfl (lv_at hl 2 rfl) ?_
        refine gf S hE hP 0 rfl rfl inX10 (k := 28) (by decide) q1121 rfl dX10_item_467 ?_
        refine lv_iconst (v := 0) hx hb dX10_item_470 (by decide) ?_
        refine ial S hE hP 11 rfl (by unfold vp_in; decide) dX10_item_471 ?_
        obtain ⟨hi, h⟩ := h
        refine ias S hE hP hD hS 7 rfl hi dX10_item_472 (fun H locs hP hD hS => ?_)
        have hP : va_P D vwCl (wX10_item cI cJ cS a_o a_base a_beats a_cells a_kind a_notes a_other a_pitch a_share a_space a_speed a_tell a_times a_words z_refused z_steps z_held z_sort z_size z_shown z_carried z_was z_kept z_cutSpace z_cutTimes z_cutOff z_trace v_stretches v_cars v_tunes v_along v_near v_borne v_tempo v_seed v_fault v_from v_at v_end v_told v_wrongAt v_culprit v_ran v_isKept f_base f_beats g_cells f_kind f_notes f_other (upd f_pitch x5_458.toNatClampNeg (f_tell (0 : Int32).toNatClampNeg)) f_share f_space f_speed f_tell f_times f_words) H := hP
        have hD : va_D A (wX10_item cI cJ cS a_o a_base a_beats a_cells a_kind a_notes a_other a_pitch a_share a_space a_speed a_tell a_times a_words z_refused z_steps z_held z_sort z_size z_shown z_carried z_was z_kept z_cutSpace z_cutTimes z_cutOff z_trace v_stretches v_cars v_tunes v_along v_near v_borne v_tempo v_seed v_fault v_from v_at v_end v_told v_wrongAt v_culprit v_ran v_isKept f_base f_beats g_cells f_kind f_notes f_other (upd f_pitch x5_458.toNatClampNeg (f_tell (0 : Int32).toNatClampNeg)) f_share f_space f_speed f_tell f_times f_words) := hD
        refine lv_aload_n hx hb dX10_item_473 rfl (lv_at hl 2 rfl) ?_
        refine gf S hE hP 0 rfl rfl inX10 (k := 20) (by decide) q1113 rfl dX10_item_474 ?_
        refine lv_iload hx hb dX10_item_477 (lv_at hl 0 rfl) ?_
        refine lv_aload_n hx hb dX10_item_479 rfl (lv_at hl 2 rfl) ?_
        refine gf S hE hP 0 rfl rfl inX10 (k := 28) (by decide) q1121 rfl dX10_item_480 ?_
        refine lv_iconst (v := 1) hx hb dX10_item_483 (by decide) ?_
        refine ial S hE hP 11 rfl (by unfold vp_in; decide) dX10_item_484 ?_
        obtain ⟨hi, h⟩ := h
        refine ias S hE hP hD hS 2 rfl hi dX10_item_485 (fun H locs hP hD hS => ?_)
        have hP : va_P D vwCl (wX10_item cI cJ cS a_o a_base a_beats a_cells a_kind a_notes a_other a_pitch a_share a_space a_speed a_tell a_times a_words z_refused z_steps z_held z_sort z_size z_shown z_carried z_was z_kept z_cutSpace z_cutTimes z_cutOff z_trace v_stretches v_cars v_tunes v_along v_near v_borne v_tempo v_seed v_fault v_from v_at v_end v_told v_wrongAt v_culprit v_ran v_isKept f_base (upd f_beats x5_458.toNatClampNeg (f_tell (1 : Int32).toNatClampNeg)) g_cells f_kind f_notes f_other (upd f_pitch x5_458.toNatClampNeg (f_tell (0 : Int32).toNatClampNeg)) f_share f_space f_speed f_tell f_times f_words) H := hP
        have hD : va_D A (wX10_item cI cJ cS a_o a_base a_beats a_cells a_kind a_notes a_other a_pitch a_share a_space a_speed a_tell a_times a_words z_refused z_steps z_held z_sort z_size z_shown z_carried z_was z_kept z_cutSpace z_cutTimes z_cutOff z_trace v_stretches v_cars v_tunes v_along v_near v_borne v_tempo v_seed v_fault v_from v_at v_end v_told v_wrongAt v_culprit v_ran v_isKept f_base (upd f_beats x5_458.toNatClampNeg (f_tell (1 : Int32).toNatClampNeg)) g_cells f_kind f_notes f_other (upd f_pitch x5_458.toNatClampNeg (f_tell (0 : Int32).toNatClampNeg)) f_share f_space f_speed f_tell f_times f_words) := hD
        refine lv_aload_n hx hb dX10_item_486 rfl (lv_at hl 2 rfl) ?_
        refine gf S hE hP 0 rfl rfl inX10 (k := 18) (by decide) q1111 rfl dX10_item_487 ?_
        refine lv_iload hx hb dX10_item_490 (lv_at hl 1 rfl) ?_
        refine lv_dup2_11 hx hb dX10_item_492 rfl rfl ?_
        obtain ⟨hi, h⟩ := h
        refine ial S hE hP 5 rfl hi dX10_item_493 ?_
        refine lv_iconst (v := 1) hx hb dX10_item_494 (by decide) ?_
        refine lv_iadd hx hb dX10_item_495 ?_
        obtain ⟨hi, h⟩ := h
        refine ias S hE hP hD hS 5 rfl hi dX10_item_496 (fun H locs hP hD hS => ?_)
        have hP : va_P D vwCl (wX10_item cI cJ cS a_o a_base a_beats a_cells a_kind a_notes a_other a_pitch a_share a_space a_speed a_tell a_times a_words z_refused z_steps z_held z_sort z_size z_shown z_carried z_was z_kept z_cutSpace z_cutTimes z_cutOff z_trace v_stretches v_cars v_tunes v_along v_near v_borne v_tempo v_seed v_fault v_from v_at v_end v_told v_wrongAt v_culprit v_ran v_isKept f_base (upd f_beats x5_458.toNatClampNeg (f_tell (1 : Int32).toNatClampNeg)) g_cells f_kind (upd f_notes x4_443.toNatClampNeg ((f_notes x4_443.toNatClampNeg) + 1)) f_other (upd f_pitch x5_458.toNatClampNeg (f_tell (0 : Int32).toNatClampNeg)) f_share f_space f_speed f_tell f_times f_words) H := hP
        have hD : va_D A (wX10_item cI cJ cS a_o a_base a_beats a_cells a_kind a_notes a_other a_pitch a_share a_space a_speed a_tell a_times a_words z_refused z_steps z_held z_sort z_size z_shown z_carried z_was z_kept z_cutSpace z_cutTimes z_cutOff z_trace v_stretches v_cars v_tunes v_along v_near v_borne v_tempo v_seed v_fault v_from v_at v_end v_told v_wrongAt v_culprit v_ran v_isKept f_base (upd f_beats x5_458.toNatClampNeg (f_tell (1 : Int32).toNatClampNeg)) g_cells f_kind (upd f_notes x4_443.toNatClampNeg ((f_notes x4_443.toNatClampNeg) + 1)) f_other (upd f_pitch x5_458.toNatClampNeg (f_tell (0 : Int32).toNatClampNeg)) f_share f_space f_speed f_tell f_times f_words) := hD
        refine lv_goto (tgt := 549) hx hb dX10_item_497 (by decide) ?_
        refine lv_iconst (v := 1) hx hb dX10_item_549 (by decide) ?_
        exact W.zret hx hb hr rfl (fun t ht _ => ⟨⟨_, (v_stretches, v_cars, v_tunes, v_along, v_near, v_borne, v_tempo, v_at, v_told, v_wrongAt, f_base, (upd f_beats x5_458.toNatClampNeg (f_tell (1 : Int32).toNatClampNeg)), f_kind, (upd f_notes x4_443.toNatClampNeg ((f_notes x4_443.toNatClampNeg) + 1)), f_other, (upd f_pitch x5_458.toNatClampNeg (f_tell (0 : Int32).toNatClampNeg)), f_share, f_space, f_speed, f_tell, f_times), rfl, h, hPt hP ht⟩, hS.F ht⟩) hS.2.2 dX10_item_550
      have h := h.2 hk8
      by_cases hk9 : x2 = 9
      · have h := h.1 hk9
        refine lv_tableIn (off := 253) (tgt := 500) hx hb dX10_item_247 (by rw [hk9]; decide) (by rw [hk9]; decide) (by rw [hk9]; rfl) (by decide) ?_
        refine lv_aload_n hx hb dX10_item_500 rfl (lv_at hl 0 rfl) ?_
        refine lv_aload_n hx hb dX10_item_501 rfl (lv_at hl 0 rfl) ?_
        refine gf S hE hP 0 rfl rfl inX10 (k := 28) (by decide) q1121 rfl dX10_item_502 ?_
        refine lv_iconst (v := 0) hx hb dX10_item_505 (by decide) ?_
        refine ial S hE hP 11 rfl (by unfold vp_in; decide) dX10_item_506 ?_
        refine pf S hE hP hD hS 0 (k := 3) rfl rfl inX10 tyX10_ok nmX10 (by decide) q1096 rfl rfl rfl (Nat.le_of_ble_eq_true rfl) dX10_item_507 (fun H locs hP hD hS => ?_)
        have hP : va_P D vwCl (wX10_item cI cJ cS a_o a_base a_beats a_cells a_kind a_notes a_other a_pitch a_share a_space a_speed a_tell a_times a_words z_refused z_steps z_held z_sort z_size z_shown z_carried z_was z_kept z_cutSpace z_cutTimes z_cutOff z_trace v_stretches v_cars v_tunes (f_tell (0 : Int32).toNatClampNeg) v_near v_borne v_tempo v_seed v_fault v_from v_at v_end v_told v_wrongAt v_culprit v_ran v_isKept f_base f_beats g_cells f_kind f_notes f_other f_pitch f_share f_space f_speed f_tell f_times f_words) H := hP
        have hD : va_D A (wX10_item cI cJ cS a_o a_base a_beats a_cells a_kind a_notes a_other a_pitch a_share a_space a_speed a_tell a_times a_words z_refused z_steps z_held z_sort z_size z_shown z_carried z_was z_kept z_cutSpace z_cutTimes z_cutOff z_trace v_stretches v_cars v_tunes (f_tell (0 : Int32).toNatClampNeg) v_near v_borne v_tempo v_seed v_fault v_from v_at v_end v_told v_wrongAt v_culprit v_ran v_isKept f_base f_beats g_cells f_kind f_notes f_other f_pitch f_share f_space f_speed f_tell f_times f_words) := hD
        refine lv_goto (tgt := 549) hx hb dX10_item_510 (by decide) ?_
        refine lv_iconst (v := 1) hx hb dX10_item_549 (by decide) ?_
        exact W.zret hx hb hr rfl (fun t ht _ => ⟨⟨_, (v_stretches, v_cars, v_tunes, (f_tell (0 : Int32).toNatClampNeg), v_near, v_borne, v_tempo, v_at, v_told, v_wrongAt, f_base, f_beats, f_kind, f_notes, f_other, f_pitch, f_share, f_space, f_speed, f_tell, f_times), rfl, h, hPt hP ht⟩, hS.F ht⟩) hS.2.2 dX10_item_550
      have h := h.2 hk9
      by_cases hk10 : x2 = 10
      · have h := h.1 hk10
        refine lv_tableIn (off := 266) (tgt := 513) hx hb dX10_item_247 (by rw [hk10]; decide) (by rw [hk10]; decide) (by rw [hk10]; rfl) (by decide) ?_
        refine lv_aload_n hx hb dX10_item_513 rfl (lv_at hl 0 rfl) ?_
        refine lv_aload_n hx hb dX10_item_514 rfl (lv_at hl 0 rfl) ?_
        refine gf S hE hP 0 rfl rfl inX10 (k := 28) (by decide) q1121 rfl dX10_item_515 ?_
        refine lv_iconst (v := 0) hx hb dX10_item_518 (by decide) ?_
        refine ial S hE hP 11 rfl (by unfold vp_in; decide) dX10_item_519 ?_
        refine pf S hE hP hD hS 0 (k := 4) rfl rfl inX10 tyX10_ok nmX10 (by decide) q1097 rfl rfl rfl (Nat.le_of_ble_eq_true rfl) dX10_item_520 (fun H locs hP hD hS => ?_)
        have hP : va_P D vwCl (wX10_item cI cJ cS a_o a_base a_beats a_cells a_kind a_notes a_other a_pitch a_share a_space a_speed a_tell a_times a_words z_refused z_steps z_held z_sort z_size z_shown z_carried z_was z_kept z_cutSpace z_cutTimes z_cutOff z_trace v_stretches v_cars v_tunes v_along (f_tell (0 : Int32).toNatClampNeg) v_borne v_tempo v_seed v_fault v_from v_at v_end v_told v_wrongAt v_culprit v_ran v_isKept f_base f_beats g_cells f_kind f_notes f_other f_pitch f_share f_space f_speed f_tell f_times f_words) H := hP
        have hD : va_D A (wX10_item cI cJ cS a_o a_base a_beats a_cells a_kind a_notes a_other a_pitch a_share a_space a_speed a_tell a_times a_words z_refused z_steps z_held z_sort z_size z_shown z_carried z_was z_kept z_cutSpace z_cutTimes z_cutOff z_trace v_stretches v_cars v_tunes v_along (f_tell (0 : Int32).toNatClampNeg) v_borne v_tempo v_seed v_fault v_from v_at v_end v_told v_wrongAt v_culprit v_ran v_isKept f_base f_beats g_cells f_kind f_notes f_other f_pitch f_share f_space f_speed f_tell f_times f_words) := hD
        refine lv_goto (tgt := 549) hx hb dX10_item_523 (by decide) ?_
        refine lv_iconst (v := 1) hx hb dX10_item_549 (by decide) ?_
        exact W.zret hx hb hr rfl (fun t ht _ => ⟨⟨_, (v_stretches, v_cars, v_tunes, v_along, (f_tell (0 : Int32).toNatClampNeg), v_borne, v_tempo, v_at, v_told, v_wrongAt, f_base, f_beats, f_kind, f_notes, f_other, f_pitch, f_share, f_space, f_speed, f_tell, f_times), rfl, h, hPt hP ht⟩, hS.F ht⟩) hS.2.2 dX10_item_550
      have h := h.2 hk10
      by_cases hk11 : x2 = 11
      · have h := h.1 hk11
        refine lv_tableIn (off := 279) (tgt := 526) hx hb dX10_item_247 (by rw [hk11]; decide) (by rw [hk11]; decide) (by rw [hk11]; rfl) (by decide) ?_
        refine lv_aload_n hx hb dX10_item_526 rfl (lv_at hl 0 rfl) ?_
        refine lv_aload_n hx hb dX10_item_527 rfl (lv_at hl 0 rfl) ?_
        refine gf S hE hP 0 rfl rfl inX10 (k := 28) (by decide) q1121 rfl dX10_item_528 ?_
        refine lv_iconst (v := 0) hx hb dX10_item_531 (by decide) ?_
        refine ial S hE hP 11 rfl (by unfold vp_in; decide) dX10_item_532 ?_
        refine pf S hE hP hD hS 0 (k := 5) rfl rfl inX10 tyX10_ok nmX10 (by decide) q1098 rfl rfl rfl (Nat.le_of_ble_eq_true rfl) dX10_item_533 (fun H locs hP hD hS => ?_)
        have hP : va_P D vwCl (wX10_item cI cJ cS a_o a_base a_beats a_cells a_kind a_notes a_other a_pitch a_share a_space a_speed a_tell a_times a_words z_refused z_steps z_held z_sort z_size z_shown z_carried z_was z_kept z_cutSpace z_cutTimes z_cutOff z_trace v_stretches v_cars v_tunes v_along v_near (f_tell (0 : Int32).toNatClampNeg) v_tempo v_seed v_fault v_from v_at v_end v_told v_wrongAt v_culprit v_ran v_isKept f_base f_beats g_cells f_kind f_notes f_other f_pitch f_share f_space f_speed f_tell f_times f_words) H := hP
        have hD : va_D A (wX10_item cI cJ cS a_o a_base a_beats a_cells a_kind a_notes a_other a_pitch a_share a_space a_speed a_tell a_times a_words z_refused z_steps z_held z_sort z_size z_shown z_carried z_was z_kept z_cutSpace z_cutTimes z_cutOff z_trace v_stretches v_cars v_tunes v_along v_near (f_tell (0 : Int32).toNatClampNeg) v_tempo v_seed v_fault v_from v_at v_end v_told v_wrongAt v_culprit v_ran v_isKept f_base f_beats g_cells f_kind f_notes f_other f_pitch f_share f_space f_speed f_tell f_times f_words) := hD
        refine lv_goto (tgt := 549) hx hb dX10_item_536 (by decide) ?_
        refine lv_iconst (v := 1) hx hb dX10_item_549 (by decide) ?_
        exact W.zret hx hb hr rfl (fun t ht _ => ⟨⟨_, (v_stretches, v_cars, v_tunes, v_along, v_near, (f_tell (0 : Int32).toNatClampNeg), v_tempo, v_at, v_told, v_wrongAt, f_base, f_beats, f_kind, f_notes, f_other, f_pitch, f_share, f_space, f_speed, f_tell, f_times), rfl, h, hPt hP ht⟩, hS.F ht⟩) hS.2.2 dX10_item_550
      have h := h.2 hk11
      refine lv_tableOut (tgt := 539) hx hb dX10_item_247 (sw_out (fun k h1 h2 => by
        rcases (show k = 0 ∨ k = 1 ∨ k = 2 ∨ k = 3 ∨ k = 4 ∨ k = 5 ∨ k = 6 ∨ k = 7 ∨ k = 8 ∨ k = 9 ∨ k = 10 ∨ k = 11 by omega) with rfl | rfl | rfl | rfl | rfl | rfl | rfl | rfl | rfl | rfl | rfl | rfl
        · exact hk0
        · exact hk1
        · exact hk2
        · exact hk3
        · exact hk4
        · exact hk5
        · exact hk6
        · exact hk7
        · exact hk8
        · exact hk9
        · exact hk10
        · exact hk11)) (by decide) ?_
      refine lv_aload_n hx hb dX10_item_539 rfl (lv_at hl 0 rfl) ?_
      refine lv_aload_n hx hb dX10_item_540 rfl (lv_at hl 0 rfl) ?_
      refine gf S hE hP 0 rfl rfl inX10 (k := 28) (by decide) q1121 rfl dX10_item_541 ?_
      refine lv_iconst (v := 0) hx hb dX10_item_544 (by decide) ?_
      refine ial S hE hP 11 rfl (by unfold vp_in; decide) dX10_item_545 ?_
      refine pf S hE hP hD hS 0 (k := 6) rfl rfl inX10 tyX10_ok nmX10 (by decide) q1099 rfl rfl rfl (Nat.le_of_ble_eq_true rfl) dX10_item_546 (fun H locs hP hD hS => ?_)
      have hP : va_P D vwCl (wX10_item cI cJ cS a_o a_base a_beats a_cells a_kind a_notes a_other a_pitch a_share a_space a_speed a_tell a_times a_words z_refused z_steps z_held z_sort z_size z_shown z_carried z_was z_kept z_cutSpace z_cutTimes z_cutOff z_trace v_stretches v_cars v_tunes v_along v_near v_borne (f_tell (0 : Int32).toNatClampNeg) v_seed v_fault v_from v_at v_end v_told v_wrongAt v_culprit v_ran v_isKept f_base f_beats g_cells f_kind f_notes f_other f_pitch f_share f_space f_speed f_tell f_times f_words) H := hP
      have hD : va_D A (wX10_item cI cJ cS a_o a_base a_beats a_cells a_kind a_notes a_other a_pitch a_share a_space a_speed a_tell a_times a_words z_refused z_steps z_held z_sort z_size z_shown z_carried z_was z_kept z_cutSpace z_cutTimes z_cutOff z_trace v_stretches v_cars v_tunes v_along v_near v_borne (f_tell (0 : Int32).toNatClampNeg) v_seed v_fault v_from v_at v_end v_told v_wrongAt v_culprit v_ran v_isKept f_base f_beats g_cells f_kind f_notes f_other f_pitch f_share f_space f_speed f_tell f_times f_words) := hD
      refine lv_iconst (v := 1) hx hb dX10_item_549 (by decide) ?_
      exact W.zret hx hb hr rfl (fun t ht _ => ⟨⟨_, (v_stretches, v_cars, v_tunes, v_along, v_near, v_borne, (f_tell (0 : Int32).toNatClampNeg), v_at, v_told, v_wrongAt, f_base, f_beats, f_kind, f_notes, f_other, f_pitch, f_share, f_space, f_speed, f_tell, f_times), rfl, h, hPt hP ht⟩, hS.F ht⟩) hS.2.2 dX10_item_550
    have h := h.2 hc
    refine lv_iload hx hb dX10_item_151 (lv_at hl 3 rfl) ?_
    refine lv_if_le (tgt := 206) hx hb dX10_item_153 (by decide) (fun hc => ?_) (fun hc => ?_)
    · have h := h.1 hc
      refine w_X10_item_206 S hE hT hA hr hlocks ih _ _ _ h hP hD hS (lv_sub hl [0, 1, 2, 3] rfl)
    have h := h.2 hc
    refine lv_aload_n hx hb dX10_item_156 rfl (lv_at hl 0 rfl) ?_
    refine gf S hE hP 0 rfl rfl inX10 (k := 30) (by decide) q1123 rfl dX10_item_157 ?_
    refine lv_aload_n hx hb dX10_item_160 rfl (lv_at hl 0 rfl) ?_
    refine gf S hE hP 0 rfl rfl inX10 (k := 31) (by decide) q1124 rfl dX10_item_161 ?_
    refine lv_icmp_ge (tgt := 187) hx hb dX10_item_164 (by decide) (fun hc => ?_) (fun hc => ?_)
    · have h := h.1 hc
      refine lv_aload_n hx hb dX10_item_187 rfl (lv_at hl 0 rfl) ?_
      refine lv_aload_n hx hb dX10_item_188 rfl (lv_at hl 0 rfl) ?_
      refine gf S hE hP 0 rfl rfl inX10 (k := 30) (by decide) q1123 rfl dX10_item_189 ?_
      refine rw_i (rwV S hE hT hS hP hD hA (c_X10_wrong h) [0] rfl (by decide) lkX10_193 rfl ⟨(Nat.le_of_ble_eq_true rfl), (Nat.le_of_ble_eq_true rfl)⟩ 0 rfl rfl hl.1 rfl (Nat.le_of_ble_eq_true rfl) dX10_item_192 ⟨(Nat.zero_le _), (Nat.zero_le _)⟩) hP hD hS hA [0] rfl (by decide) (fun _ => rfl) (fun r192 w192_0 H locs h hP hD hS => ?_)
      try dsimp only at h
      have hP : va_P D vwCl (wX10_item cI cJ cS a_o a_base a_beats a_cells a_kind a_notes a_other a_pitch a_share a_space a_speed a_tell a_times a_words z_refused z_steps z_held z_sort z_size z_shown z_carried z_was z_kept z_cutSpace z_cutTimes z_cutOff z_trace v_stretches v_cars v_tunes v_along v_near v_borne v_tempo v_seed v_fault v_from v_at v_end v_told w192_0 v_culprit v_ran v_isKept f_base f_beats g_cells f_kind f_notes f_other f_pitch f_share f_space f_speed f_tell f_times f_words) H := hP
      have hD : va_D A (wX10_item cI cJ cS a_o a_base a_beats a_cells a_kind a_notes a_other a_pitch a_share a_space a_speed a_tell a_times a_words z_refused z_steps z_held z_sort z_size z_shown z_carried z_was z_kept z_cutSpace z_cutTimes z_cutOff z_trace v_stretches v_cars v_tunes v_along v_near v_borne v_tempo v_seed v_fault v_from v_at v_end v_told w192_0 v_culprit v_ran v_isKept f_base f_beats g_cells f_kind f_notes f_other f_pitch f_share f_space f_speed f_tell f_times f_words) := hD
      exact W.zret hx hb hr h.1 (fun t ht _ => ⟨⟨_, (v_stretches, v_cars, v_tunes, v_along, v_near, v_borne, v_tempo, v_at, v_told, w192_0, f_base, f_beats, f_kind, f_notes, f_other, f_pitch, f_share, f_space, f_speed, f_tell, f_times), rfl, h.2, hPt hP ht⟩, hS.F ht⟩) hS.2.2 dX10_item_195
    have h := h.2 hc
    refine lv_aload_n hx hb dX10_item_167 rfl (lv_at hl 0 rfl) ?_
    refine gf S hE hP 0 rfl rfl inX10 (k := 25) (by decide) q1118 rfl dX10_item_168 ?_
    refine lv_aload_n hx hb dX10_item_171 rfl (lv_at hl 0 rfl) ?_
    refine gf S hE hP 0 rfl rfl inX10 (k := 29) (by decide) q1122 rfl dX10_item_172 ?_
    refine lv_aload_n hx hb dX10_item_175 rfl (lv_at hl 0 rfl) ?_
    refine gf S hE hP 0 rfl rfl inX10 (k := 30) (by decide) q1123 rfl dX10_item_176 ?_
    refine lv_iadd hx hb dX10_item_179 ?_
    obtain ⟨hi, h⟩ := h
    refine lal S hE hP 3 rfl hi dX10_item_180 ?_
    refine lv_l2i hx hb dX10_item_181 rfl ?_
    refine lv_bipush (v := 32) hx hb dX10_item_182 (by decide) ?_
    refine lv_icmp_eq (tgt := 196) hx hb dX10_item_184 (by decide) (fun hc => ?_) (fun hc => ?_)
    · have h := h.1 hc
      refine lv_aload_n hx hb dX10_item_196 rfl (lv_at hl 0 rfl) ?_
      refine lv_dup hx hb dX10_item_197 rfl ?_
      refine gf S hE hP 0 rfl rfl inX10 (k := 30) (by decide) q1123 rfl dX10_item_198 ?_
      refine lv_iconst (v := 1) hx hb dX10_item_201 (by decide) ?_
      refine lv_iadd hx hb dX10_item_202 ?_
      refine pf S hE hP hD hS 0 (k := 30) rfl rfl inX10 tyX10_ok nmX10 (by decide) q1123 rfl rfl rfl (Nat.le_of_ble_eq_true rfl) dX10_item_203 (fun H locs hP hD hS => ?_)
      have hP : va_P D vwCl (wX10_item cI cJ cS a_o a_base a_beats a_cells a_kind a_notes a_other a_pitch a_share a_space a_speed a_tell a_times a_words z_refused z_steps z_held z_sort z_size z_shown z_carried z_was z_kept z_cutSpace z_cutTimes z_cutOff z_trace v_stretches v_cars v_tunes v_along v_near v_borne v_tempo v_seed v_fault v_from (v_at + 1) v_end v_told v_wrongAt v_culprit v_ran v_isKept f_base f_beats g_cells f_kind f_notes f_other f_pitch f_share f_space f_speed f_tell f_times f_words) H := hP
      have hD : va_D A (wX10_item cI cJ cS a_o a_base a_beats a_cells a_kind a_notes a_other a_pitch a_share a_space a_speed a_tell a_times a_words z_refused z_steps z_held z_sort z_size z_shown z_carried z_was z_kept z_cutSpace z_cutTimes z_cutOff z_trace v_stretches v_cars v_tunes v_along v_near v_borne v_tempo v_seed v_fault v_from (v_at + 1) v_end v_told v_wrongAt v_culprit v_ran v_isKept f_base f_beats g_cells f_kind f_notes f_other f_pitch f_share f_space f_speed f_tell f_times f_words) := hD
      refine w_X10_item_206 S hE hT hA hr hlocks ih _ _ _ h hP hD hS (lv_sub hl [0, 1, 2, 3] rfl)
    have h := h.2 hc
    refine lv_aload_n hx hb dX10_item_187 rfl (lv_at hl 0 rfl) ?_
    refine lv_aload_n hx hb dX10_item_188 rfl (lv_at hl 0 rfl) ?_
    refine gf S hE hP 0 rfl rfl inX10 (k := 30) (by decide) q1123 rfl dX10_item_189 ?_
    refine rw_i (rwV S hE hT hS hP hD hA (c_X10_wrong h) [0] rfl (by decide) lkX10_193 rfl ⟨(Nat.le_of_ble_eq_true rfl), (Nat.le_of_ble_eq_true rfl)⟩ 0 rfl rfl hl.1 rfl (Nat.le_of_ble_eq_true rfl) dX10_item_192 ⟨(Nat.zero_le _), (Nat.zero_le _)⟩) hP hD hS hA [0] rfl (by decide) (fun _ => rfl) (fun r192 w192_0 H locs h hP hD hS => ?_)
    try dsimp only at h
    have hP : va_P D vwCl (wX10_item cI cJ cS a_o a_base a_beats a_cells a_kind a_notes a_other a_pitch a_share a_space a_speed a_tell a_times a_words z_refused z_steps z_held z_sort z_size z_shown z_carried z_was z_kept z_cutSpace z_cutTimes z_cutOff z_trace v_stretches v_cars v_tunes v_along v_near v_borne v_tempo v_seed v_fault v_from v_at v_end v_told w192_0 v_culprit v_ran v_isKept f_base f_beats g_cells f_kind f_notes f_other f_pitch f_share f_space f_speed f_tell f_times f_words) H := hP
    have hD : va_D A (wX10_item cI cJ cS a_o a_base a_beats a_cells a_kind a_notes a_other a_pitch a_share a_space a_speed a_tell a_times a_words z_refused z_steps z_held z_sort z_size z_shown z_carried z_was z_kept z_cutSpace z_cutTimes z_cutOff z_trace v_stretches v_cars v_tunes v_along v_near v_borne v_tempo v_seed v_fault v_from v_at v_end v_told w192_0 v_culprit v_ran v_isKept f_base f_beats g_cells f_kind f_notes f_other f_pitch f_share f_space f_speed f_tell f_times f_words) := hD
    exact W.zret hx hb hr h.1 (fun t ht _ => ⟨⟨_, (v_stretches, v_cars, v_tunes, v_along, v_near, v_borne, v_tempo, v_at, v_told, w192_0, f_base, f_beats, f_kind, f_notes, f_other, f_pitch, f_share, f_space, f_speed, f_tell, f_times), rfl, h.2, hPt hP ht⟩, hS.F ht⟩) hS.2.2 dX10_item_195
set_option maxHeartbeats 4000000 in
set_option maxRecDepth 100000 in
theorem w_X10_item_136 {l : Launch} {D : va_G} {cI cJ cS : ClassId} {ad adK : Nat → Nat} {a_o a_base a_beats a_cells a_kind a_notes a_other a_pitch a_share a_space a_speed a_tell a_times a_words : Nat} {z_refused z_steps z_held z_sort z_size z_shown z_carried z_was z_kept z_cutSpace z_cutTimes z_cutOff z_trace : Value} {v_stretches : Int32} {v_cars : Int32} {v_tunes : Int32} {v_along : Int32} {v_near : Int32} {v_borne : Int32} {v_tempo : Int32} {v_seed : Int32} {v_fault : Int32} {v_from : Int32} {v_at : Int32} {v_end : Int32} {v_told : Int32} {v_wrongAt : Int32} {v_culprit : Int32} {v_ran : Int32} {v_isKept : Int32} {f_base : Nat → Int32} {f_beats : Nat → Int32} {g_cells : Nat → Int64} {f_kind : Nat → Int32} {f_notes : Nat → Int32} {f_other : Nat → Int32} {f_pitch : Nat → Int32} {f_share : Nat → Int32} {f_space : Nat → Int32} {f_speed : Nat → Int32} {f_tell : Nat → Int32} {f_times : Nat → Int32} {f_words : Nat → Int32} {x2 : Int32} {post : Int32 → Int32 → Int32 → Int32 → Int32 → Int32 → Int32 → Int32 → Int32 → Int32 → Int32 → (Nat → Int32) → (Nat → Int32) → (Nat → Int32) → (Nat → Int32) → (Nat → Int32) → (Nat → Int32) → (Nat → Int32) → (Nat → Int32) → (Nat → Int32) → (Nat → Int32) → (Nat → Int32) → Prop} {p : Program} {e : Env} {s : State} {m : MethodId} {args : Array Value} {below : List Frame} {meth : Method} {c : Code} {A : Nat → Prop} (S : CallFix p m c cX10_item 6 s args GW "RoadThatSingsModel") (hE : EN D cI cJ cS s) (hT : ST ad adK A s s.heap) (hA : ∀ q : Nat, s.heap.size ≤ q → A q) (hr : meth.sig.returnType = (some (.boolean))) (hlocks : meth.locks = false) : ∀ (H : Heap) (locs : List Loc) (ls : Array Slot), F_X10_item_136 v_from v_end g_cells post x2 v_stretches v_cars v_tunes v_along v_near v_borne v_tempo v_at v_told v_wrongAt f_base f_beats f_kind f_notes f_other f_pitch f_share f_space f_speed f_tell f_times → va_P D vwCl (wX10_item cI cJ cS a_o a_base a_beats a_cells a_kind a_notes a_other a_pitch a_share a_space a_speed a_tell a_times a_words z_refused z_steps z_held z_sort z_size z_shown z_carried z_was z_kept z_cutSpace z_cutTimes z_cutOff z_trace v_stretches v_cars v_tunes v_along v_near v_borne v_tempo v_seed v_fault v_from v_at v_end v_told v_wrongAt v_culprit v_ran v_isKept f_base f_beats g_cells f_kind f_notes f_other f_pitch f_share f_space f_speed f_tell f_times f_words) H → va_D A (wX10_item cI cJ cS a_o a_base a_beats a_cells a_kind a_notes a_other a_pitch a_share a_space a_speed a_tell a_times a_words z_refused z_steps z_held z_sort z_size z_shown z_carried z_was z_kept z_cutSpace z_cutTimes z_cutOff z_trace v_stretches v_cars v_tunes v_along v_near v_borne v_tempo v_seed v_fault v_from v_at v_end v_told v_wrongAt v_culprit v_ran v_isKept f_base f_beats g_cells f_kind f_notes f_other f_pitch f_share f_space f_speed f_tell f_times f_words) → va_S A s.heap H locs → lv_has ls 6 [(0, .ref a_o), (2, .int x2)] → W p l e (rmd 2 0 0) s m args below meth c H locs 0 0 (MQ below (va_Qi (fun r (u : Int32 × Int32 × Int32 × Int32 × Int32 × Int32 × Int32 × Int32 × Int32 × Int32 × (Nat → Int32) × (Nat → Int32) × (Nat → Int32) × (Nat → Int32) × (Nat → Int32) × (Nat → Int32) × (Nat → Int32) × (Nat → Int32) × (Nat → Int32) × (Nat → Int32) × (Nat → Int32)) => post r u.1 u.2.1 u.2.2.1 u.2.2.2.1 u.2.2.2.2.1 u.2.2.2.2.2.1 u.2.2.2.2.2.2.1 u.2.2.2.2.2.2.2.1 u.2.2.2.2.2.2.2.2.1 u.2.2.2.2.2.2.2.2.2.1 u.2.2.2.2.2.2.2.2.2.2.1 u.2.2.2.2.2.2.2.2.2.2.2.1 u.2.2.2.2.2.2.2.2.2.2.2.2.1 u.2.2.2.2.2.2.2.2.2.2.2.2.2.1 u.2.2.2.2.2.2.2.2.2.2.2.2.2.2.1 u.2.2.2.2.2.2.2.2.2.2.2.2.2.2.2.1 u.2.2.2.2.2.2.2.2.2.2.2.2.2.2.2.2.1 u.2.2.2.2.2.2.2.2.2.2.2.2.2.2.2.2.2.1 u.2.2.2.2.2.2.2.2.2.2.2.2.2.2.2.2.2.2.1 u.2.2.2.2.2.2.2.2.2.2.2.2.2.2.2.2.2.2.2.1 u.2.2.2.2.2.2.2.2.2.2.2.2.2.2.2.2.2.2.2.2) (fun u t => va_P D vwCl (wX10_item cI cJ cS a_o a_base a_beats a_cells a_kind a_notes a_other a_pitch a_share a_space a_speed a_tell a_times a_words z_refused z_steps z_held z_sort z_size z_shown z_carried z_was z_kept z_cutSpace z_cutTimes z_cutOff z_trace u.1 u.2.1 u.2.2.1 u.2.2.2.1 u.2.2.2.2.1 u.2.2.2.2.2.1 u.2.2.2.2.2.2.1 v_seed v_fault v_from u.2.2.2.2.2.2.2.1 v_end u.2.2.2.2.2.2.2.2.1 u.2.2.2.2.2.2.2.2.2.1 v_culprit v_ran v_isKept u.2.2.2.2.2.2.2.2.2.2.1 u.2.2.2.2.2.2.2.2.2.2.2.1 g_cells u.2.2.2.2.2.2.2.2.2.2.2.2.1 u.2.2.2.2.2.2.2.2.2.2.2.2.2.1 u.2.2.2.2.2.2.2.2.2.2.2.2.2.2.1 u.2.2.2.2.2.2.2.2.2.2.2.2.2.2.2.1 u.2.2.2.2.2.2.2.2.2.2.2.2.2.2.2.2.1 u.2.2.2.2.2.2.2.2.2.2.2.2.2.2.2.2.2.1 u.2.2.2.2.2.2.2.2.2.2.2.2.2.2.2.2.2.2.1 u.2.2.2.2.2.2.2.2.2.2.2.2.2.2.2.2.2.2.2.1 u.2.2.2.2.2.2.2.2.2.2.2.2.2.2.2.2.2.2.2.2 f_words) t.heap) A) args s 0 0 A) (F0 m 136 ls []) := by
  intro  H locs ls h hP hD hS hl
  unfold F_X10_item_136 at h
  have hx := S.1
  have hb := S.2.1
  refine lv_aload_n hx hb dX10_item_136 rfl (lv_at hl 0 rfl) ?_
  refine lv_iload_n hx hb dX10_item_137 rfl (lv_at hl 1 rfl) ?_
  refine ro_i (roV S hE hT hS (c_X10_many h) lkX10_196 rfl ⟨(Nat.le_of_ble_eq_true rfl), (Nat.le_of_ble_eq_true rfl)⟩ (hP.sub [0] rfl) 0 rfl rfl hl.1 rfl (Nat.le_of_ble_eq_true rfl) dX10_item_138 ⟨(Nat.zero_le _), (Nat.zero_le _)⟩) (fun r138 h => ?_)
  refine lv_istore_n (lv' := [(3, .int r138), (0, .ref a_o), (2, .int x2)]) hx hb dX10_item_141 rfl hl (by decide) rfl (fun ls hl => ?_)
  refine lv_iconst (v := 0) hx hb dX10_item_142 (by decide) ?_
  refine lv_istore (lv' := [(4, .int 0), (3, .int r138), (0, .ref a_o), (2, .int x2)]) hx hb dX10_item_143 hl (by decide) rfl (fun ls hl => ?_)
  obtain ⟨n, h⟩ := h
  refine w_X10_item_145 S hE hT hA hr hlocks n _ _ _ _ _ _ _ _ _ _ _ _ _ _ _ _ _ _ _ _ _ _ _ _ _ h hP hD hS (lv_sub hl [2, 3, 1, 0] rfl)
set_option maxHeartbeats 4000000 in
set_option maxRecDepth 100000 in
theorem w_X10_item_101 {l : Launch} {D : va_G} {cI cJ cS : ClassId} {ad adK : Nat → Nat} {a_o a_base a_beats a_cells a_kind a_notes a_other a_pitch a_share a_space a_speed a_tell a_times a_words : Nat} {z_refused z_steps z_held z_sort z_size z_shown z_carried z_was z_kept z_cutSpace z_cutTimes z_cutOff z_trace : Value} {v_stretches : Int32} {v_cars : Int32} {v_tunes : Int32} {v_along : Int32} {v_near : Int32} {v_borne : Int32} {v_tempo : Int32} {v_seed : Int32} {v_fault : Int32} {v_from : Int32} {v_at : Int32} {v_end : Int32} {v_told : Int32} {v_wrongAt : Int32} {v_culprit : Int32} {v_ran : Int32} {v_isKept : Int32} {f_base : Nat → Int32} {f_beats : Nat → Int32} {g_cells : Nat → Int64} {f_kind : Nat → Int32} {f_notes : Nat → Int32} {f_other : Nat → Int32} {f_pitch : Nat → Int32} {f_share : Nat → Int32} {f_space : Nat → Int32} {f_speed : Nat → Int32} {f_tell : Nat → Int32} {f_times : Nat → Int32} {f_words : Nat → Int32} {x1 : Int32} {x2 : Int32} {post : Int32 → Int32 → Int32 → Int32 → Int32 → Int32 → Int32 → Int32 → Int32 → Int32 → Int32 → (Nat → Int32) → (Nat → Int32) → (Nat → Int32) → (Nat → Int32) → (Nat → Int32) → (Nat → Int32) → (Nat → Int32) → (Nat → Int32) → (Nat → Int32) → (Nat → Int32) → (Nat → Int32) → Prop} {p : Program} {e : Env} {s : State} {m : MethodId} {args : Array Value} {below : List Frame} {meth : Method} {c : Code} {A : Nat → Prop} (S : CallFix p m c cX10_item 6 s args GW "RoadThatSingsModel") (hE : EN D cI cJ cS s) (hT : ST ad adK A s s.heap) (hA : ∀ q : Nat, s.heap.size ≤ q → A q) (hr : meth.sig.returnType = (some (.boolean))) (hlocks : meth.locks = false) : ∀ (H : Heap) (locs : List Loc) (ls : Array Slot), F_X10_item_101 v_from v_end g_cells post x1 x2 v_stretches v_cars v_tunes v_along v_near v_borne v_tempo v_at v_told v_wrongAt f_base f_beats f_kind f_notes f_other f_pitch f_share f_space f_speed f_tell f_times → va_P D vwCl (wX10_item cI cJ cS a_o a_base a_beats a_cells a_kind a_notes a_other a_pitch a_share a_space a_speed a_tell a_times a_words z_refused z_steps z_held z_sort z_size z_shown z_carried z_was z_kept z_cutSpace z_cutTimes z_cutOff z_trace v_stretches v_cars v_tunes v_along v_near v_borne v_tempo v_seed v_fault v_from v_at v_end v_told v_wrongAt v_culprit v_ran v_isKept f_base f_beats g_cells f_kind f_notes f_other f_pitch f_share f_space f_speed f_tell f_times f_words) H → va_D A (wX10_item cI cJ cS a_o a_base a_beats a_cells a_kind a_notes a_other a_pitch a_share a_space a_speed a_tell a_times a_words z_refused z_steps z_held z_sort z_size z_shown z_carried z_was z_kept z_cutSpace z_cutTimes z_cutOff z_trace v_stretches v_cars v_tunes v_along v_near v_borne v_tempo v_seed v_fault v_from v_at v_end v_told v_wrongAt v_culprit v_ran v_isKept f_base f_beats g_cells f_kind f_notes f_other f_pitch f_share f_space f_speed f_tell f_times f_words) → va_S A s.heap H locs → lv_has ls 6 [(0, .ref a_o), (1, .int x1), (2, .int x2)] → W p l e (rmd 2 0 0) s m args below meth c H locs 0 0 (MQ below (va_Qi (fun r (u : Int32 × Int32 × Int32 × Int32 × Int32 × Int32 × Int32 × Int32 × Int32 × Int32 × (Nat → Int32) × (Nat → Int32) × (Nat → Int32) × (Nat → Int32) × (Nat → Int32) × (Nat → Int32) × (Nat → Int32) × (Nat → Int32) × (Nat → Int32) × (Nat → Int32) × (Nat → Int32)) => post r u.1 u.2.1 u.2.2.1 u.2.2.2.1 u.2.2.2.2.1 u.2.2.2.2.2.1 u.2.2.2.2.2.2.1 u.2.2.2.2.2.2.2.1 u.2.2.2.2.2.2.2.2.1 u.2.2.2.2.2.2.2.2.2.1 u.2.2.2.2.2.2.2.2.2.2.1 u.2.2.2.2.2.2.2.2.2.2.2.1 u.2.2.2.2.2.2.2.2.2.2.2.2.1 u.2.2.2.2.2.2.2.2.2.2.2.2.2.1 u.2.2.2.2.2.2.2.2.2.2.2.2.2.2.1 u.2.2.2.2.2.2.2.2.2.2.2.2.2.2.2.1 u.2.2.2.2.2.2.2.2.2.2.2.2.2.2.2.2.1 u.2.2.2.2.2.2.2.2.2.2.2.2.2.2.2.2.2.1 u.2.2.2.2.2.2.2.2.2.2.2.2.2.2.2.2.2.2.1 u.2.2.2.2.2.2.2.2.2.2.2.2.2.2.2.2.2.2.2.1 u.2.2.2.2.2.2.2.2.2.2.2.2.2.2.2.2.2.2.2.2) (fun u t => va_P D vwCl (wX10_item cI cJ cS a_o a_base a_beats a_cells a_kind a_notes a_other a_pitch a_share a_space a_speed a_tell a_times a_words z_refused z_steps z_held z_sort z_size z_shown z_carried z_was z_kept z_cutSpace z_cutTimes z_cutOff z_trace u.1 u.2.1 u.2.2.1 u.2.2.2.1 u.2.2.2.2.1 u.2.2.2.2.2.1 u.2.2.2.2.2.2.1 v_seed v_fault v_from u.2.2.2.2.2.2.2.1 v_end u.2.2.2.2.2.2.2.2.1 u.2.2.2.2.2.2.2.2.2.1 v_culprit v_ran v_isKept u.2.2.2.2.2.2.2.2.2.2.1 u.2.2.2.2.2.2.2.2.2.2.2.1 g_cells u.2.2.2.2.2.2.2.2.2.2.2.2.1 u.2.2.2.2.2.2.2.2.2.2.2.2.2.1 u.2.2.2.2.2.2.2.2.2.2.2.2.2.2.1 u.2.2.2.2.2.2.2.2.2.2.2.2.2.2.2.1 u.2.2.2.2.2.2.2.2.2.2.2.2.2.2.2.2.1 u.2.2.2.2.2.2.2.2.2.2.2.2.2.2.2.2.2.1 u.2.2.2.2.2.2.2.2.2.2.2.2.2.2.2.2.2.2.1 u.2.2.2.2.2.2.2.2.2.2.2.2.2.2.2.2.2.2.2.1 u.2.2.2.2.2.2.2.2.2.2.2.2.2.2.2.2.2.2.2.2 f_words) t.heap) A) args s 0 0 A) (F0 m 101 ls []) := by
  intro  H locs ls h hP hD hS hl
  unfold F_X10_item_101 at h
  have hx := S.1
  have hb := S.2.1
  refine lv_iload_n hx hb dX10_item_101 rfl (lv_at hl 2 rfl) ?_
  refine lv_bipush (v := 8) hx hb dX10_item_102 (by decide) ?_
  refine lv_icmp_ne (tgt := 136) hx hb dX10_item_104 (by decide) (fun hc => ?_) (fun hc => ?_)
  · have h := h.2 hc
    refine w_X10_item_136 S hE hT hA hr hlocks _ _ _ h hP hD hS (lv_sub hl [0, 2] rfl)
  have h := h.1 hc
  refine lv_aload_n hx hb dX10_item_107 rfl (lv_at hl 0 rfl) ?_
  refine gf S hE hP 0 rfl rfl inX10 (k := 2) (by decide) q1095 rfl dX10_item_108 ?_
  refine lv_if_eq (tgt := 130) hx hb dX10_item_111 (by decide) (fun hc => ?_) (fun hc => ?_)
  · have h := h.1 hc
    refine lv_aload_n hx hb dX10_item_130 rfl (lv_at hl 0 rfl) ?_
    refine lv_iload_n hx hb dX10_item_131 rfl (lv_at hl 1 rfl) ?_
    refine rw_i (rwV S hE hT hS hP hD hA (c_X10_wrong h) [0] rfl (by decide) lkX10_193 rfl ⟨(Nat.le_of_ble_eq_true rfl), (Nat.le_of_ble_eq_true rfl)⟩ 0 rfl rfl hl.1 rfl (Nat.le_of_ble_eq_true rfl) dX10_item_132 ⟨(Nat.zero_le _), (Nat.zero_le _)⟩) hP hD hS hA [0] rfl (by decide) (fun _ => rfl) (fun r132 w132_0 H locs h hP hD hS => ?_)
    try dsimp only at h
    have hP : va_P D vwCl (wX10_item cI cJ cS a_o a_base a_beats a_cells a_kind a_notes a_other a_pitch a_share a_space a_speed a_tell a_times a_words z_refused z_steps z_held z_sort z_size z_shown z_carried z_was z_kept z_cutSpace z_cutTimes z_cutOff z_trace v_stretches v_cars v_tunes v_along v_near v_borne v_tempo v_seed v_fault v_from v_at v_end v_told w132_0 v_culprit v_ran v_isKept f_base f_beats g_cells f_kind f_notes f_other f_pitch f_share f_space f_speed f_tell f_times f_words) H := hP
    have hD : va_D A (wX10_item cI cJ cS a_o a_base a_beats a_cells a_kind a_notes a_other a_pitch a_share a_space a_speed a_tell a_times a_words z_refused z_steps z_held z_sort z_size z_shown z_carried z_was z_kept z_cutSpace z_cutTimes z_cutOff z_trace v_stretches v_cars v_tunes v_along v_near v_borne v_tempo v_seed v_fault v_from v_at v_end v_told w132_0 v_culprit v_ran v_isKept f_base f_beats g_cells f_kind f_notes f_other f_pitch f_share f_space f_speed f_tell f_times f_words) := hD
    exact W.zret hx hb hr h.1 (fun t ht _ => ⟨⟨_, (v_stretches, v_cars, v_tunes, v_along, v_near, v_borne, v_tempo, v_at, v_told, w132_0, f_base, f_beats, f_kind, f_notes, f_other, f_pitch, f_share, f_space, f_speed, f_tell, f_times), rfl, h.2, hPt hP ht⟩, hS.F ht⟩) hS.2.2 dX10_item_135
  have h := h.2 hc
  refine lv_aload_n hx hb dX10_item_114 rfl (lv_at hl 0 rfl) ?_
  refine gf S hE hP 0 rfl rfl inX10 (k := 18) (by decide) q1111 rfl dX10_item_115 ?_
  refine lv_aload_n hx hb dX10_item_118 rfl (lv_at hl 0 rfl) ?_
  refine gf S hE hP 0 rfl rfl inX10 (k := 2) (by decide) q1095 rfl dX10_item_119 ?_
  refine lv_iconst (v := 1) hx hb dX10_item_122 (by decide) ?_
  refine lv_isub hx hb dX10_item_123 ?_
  obtain ⟨hi, h⟩ := h
  refine ial S hE hP 5 rfl hi dX10_item_124 ?_
  refine lv_bipush (v := 12) hx hb dX10_item_125 (by decide) ?_
  refine lv_icmp_ne (tgt := 136) hx hb dX10_item_127 (by decide) (fun hc => ?_) (fun hc => ?_)
  · have h := h.2 hc
    refine w_X10_item_136 S hE hT hA hr hlocks _ _ _ h hP hD hS (lv_sub hl [0, 2] rfl)
  have h := h.1 hc
  refine lv_aload_n hx hb dX10_item_130 rfl (lv_at hl 0 rfl) ?_
  refine lv_iload_n hx hb dX10_item_131 rfl (lv_at hl 1 rfl) ?_
  refine rw_i (rwV S hE hT hS hP hD hA (c_X10_wrong h) [0] rfl (by decide) lkX10_193 rfl ⟨(Nat.le_of_ble_eq_true rfl), (Nat.le_of_ble_eq_true rfl)⟩ 0 rfl rfl hl.1 rfl (Nat.le_of_ble_eq_true rfl) dX10_item_132 ⟨(Nat.zero_le _), (Nat.zero_le _)⟩) hP hD hS hA [0] rfl (by decide) (fun _ => rfl) (fun r132 w132_0 H locs h hP hD hS => ?_)
  try dsimp only at h
  have hP : va_P D vwCl (wX10_item cI cJ cS a_o a_base a_beats a_cells a_kind a_notes a_other a_pitch a_share a_space a_speed a_tell a_times a_words z_refused z_steps z_held z_sort z_size z_shown z_carried z_was z_kept z_cutSpace z_cutTimes z_cutOff z_trace v_stretches v_cars v_tunes v_along v_near v_borne v_tempo v_seed v_fault v_from v_at v_end v_told w132_0 v_culprit v_ran v_isKept f_base f_beats g_cells f_kind f_notes f_other f_pitch f_share f_space f_speed f_tell f_times f_words) H := hP
  have hD : va_D A (wX10_item cI cJ cS a_o a_base a_beats a_cells a_kind a_notes a_other a_pitch a_share a_space a_speed a_tell a_times a_words z_refused z_steps z_held z_sort z_size z_shown z_carried z_was z_kept z_cutSpace z_cutTimes z_cutOff z_trace v_stretches v_cars v_tunes v_along v_near v_borne v_tempo v_seed v_fault v_from v_at v_end v_told w132_0 v_culprit v_ran v_isKept f_base f_beats g_cells f_kind f_notes f_other f_pitch f_share f_space f_speed f_tell f_times f_words) := hD
  exact W.zret hx hb hr h.1 (fun t ht _ => ⟨⟨_, (v_stretches, v_cars, v_tunes, v_along, v_near, v_borne, v_tempo, v_at, v_told, w132_0, f_base, f_beats, f_kind, f_notes, f_other, f_pitch, f_share, f_space, f_speed, f_tell, f_times), rfl, h.2, hPt hP ht⟩, hS.F ht⟩) hS.2.2 dX10_item_135
set_option maxHeartbeats 4000000 in
set_option maxRecDepth 100000 in
theorem w_X10_item_86 {l : Launch} {D : va_G} {cI cJ cS : ClassId} {ad adK : Nat → Nat} {a_o a_base a_beats a_cells a_kind a_notes a_other a_pitch a_share a_space a_speed a_tell a_times a_words : Nat} {z_refused z_steps z_held z_sort z_size z_shown z_carried z_was z_kept z_cutSpace z_cutTimes z_cutOff z_trace : Value} {v_stretches : Int32} {v_cars : Int32} {v_tunes : Int32} {v_along : Int32} {v_near : Int32} {v_borne : Int32} {v_tempo : Int32} {v_seed : Int32} {v_fault : Int32} {v_from : Int32} {v_at : Int32} {v_end : Int32} {v_told : Int32} {v_wrongAt : Int32} {v_culprit : Int32} {v_ran : Int32} {v_isKept : Int32} {f_base : Nat → Int32} {f_beats : Nat → Int32} {g_cells : Nat → Int64} {f_kind : Nat → Int32} {f_notes : Nat → Int32} {f_other : Nat → Int32} {f_pitch : Nat → Int32} {f_share : Nat → Int32} {f_space : Nat → Int32} {f_speed : Nat → Int32} {f_tell : Nat → Int32} {f_times : Nat → Int32} {f_words : Nat → Int32} {x1 : Int32} {x2 : Int32} {post : Int32 → Int32 → Int32 → Int32 → Int32 → Int32 → Int32 → Int32 → Int32 → Int32 → Int32 → (Nat → Int32) → (Nat → Int32) → (Nat → Int32) → (Nat → Int32) → (Nat → Int32) → (Nat → Int32) → (Nat → Int32) → (Nat → Int32) → (Nat → Int32) → (Nat → Int32) → (Nat → Int32) → Prop} {p : Program} {e : Env} {s : State} {m : MethodId} {args : Array Value} {below : List Frame} {meth : Method} {c : Code} {A : Nat → Prop} (S : CallFix p m c cX10_item 6 s args GW "RoadThatSingsModel") (hE : EN D cI cJ cS s) (hT : ST ad adK A s s.heap) (hA : ∀ q : Nat, s.heap.size ≤ q → A q) (hr : meth.sig.returnType = (some (.boolean))) (hlocks : meth.locks = false) : ∀ (H : Heap) (locs : List Loc) (ls : Array Slot), F_X10_item_86 v_from v_end g_cells post x1 x2 v_stretches v_cars v_tunes v_along v_near v_borne v_tempo v_at v_told v_wrongAt f_base f_beats f_kind f_notes f_other f_pitch f_share f_space f_speed f_tell f_times → va_P D vwCl (wX10_item cI cJ cS a_o a_base a_beats a_cells a_kind a_notes a_other a_pitch a_share a_space a_speed a_tell a_times a_words z_refused z_steps z_held z_sort z_size z_shown z_carried z_was z_kept z_cutSpace z_cutTimes z_cutOff z_trace v_stretches v_cars v_tunes v_along v_near v_borne v_tempo v_seed v_fault v_from v_at v_end v_told v_wrongAt v_culprit v_ran v_isKept f_base f_beats g_cells f_kind f_notes f_other f_pitch f_share f_space f_speed f_tell f_times f_words) H → va_D A (wX10_item cI cJ cS a_o a_base a_beats a_cells a_kind a_notes a_other a_pitch a_share a_space a_speed a_tell a_times a_words z_refused z_steps z_held z_sort z_size z_shown z_carried z_was z_kept z_cutSpace z_cutTimes z_cutOff z_trace v_stretches v_cars v_tunes v_along v_near v_borne v_tempo v_seed v_fault v_from v_at v_end v_told v_wrongAt v_culprit v_ran v_isKept f_base f_beats g_cells f_kind f_notes f_other f_pitch f_share f_space f_speed f_tell f_times f_words) → va_S A s.heap H locs → lv_has ls 6 [(0, .ref a_o), (1, .int x1), (2, .int x2)] → W p l e (rmd 2 0 0) s m args below meth c H locs 0 0 (MQ below (va_Qi (fun r (u : Int32 × Int32 × Int32 × Int32 × Int32 × Int32 × Int32 × Int32 × Int32 × Int32 × (Nat → Int32) × (Nat → Int32) × (Nat → Int32) × (Nat → Int32) × (Nat → Int32) × (Nat → Int32) × (Nat → Int32) × (Nat → Int32) × (Nat → Int32) × (Nat → Int32) × (Nat → Int32)) => post r u.1 u.2.1 u.2.2.1 u.2.2.2.1 u.2.2.2.2.1 u.2.2.2.2.2.1 u.2.2.2.2.2.2.1 u.2.2.2.2.2.2.2.1 u.2.2.2.2.2.2.2.2.1 u.2.2.2.2.2.2.2.2.2.1 u.2.2.2.2.2.2.2.2.2.2.1 u.2.2.2.2.2.2.2.2.2.2.2.1 u.2.2.2.2.2.2.2.2.2.2.2.2.1 u.2.2.2.2.2.2.2.2.2.2.2.2.2.1 u.2.2.2.2.2.2.2.2.2.2.2.2.2.2.1 u.2.2.2.2.2.2.2.2.2.2.2.2.2.2.2.1 u.2.2.2.2.2.2.2.2.2.2.2.2.2.2.2.2.1 u.2.2.2.2.2.2.2.2.2.2.2.2.2.2.2.2.2.1 u.2.2.2.2.2.2.2.2.2.2.2.2.2.2.2.2.2.2.1 u.2.2.2.2.2.2.2.2.2.2.2.2.2.2.2.2.2.2.2.1 u.2.2.2.2.2.2.2.2.2.2.2.2.2.2.2.2.2.2.2.2) (fun u t => va_P D vwCl (wX10_item cI cJ cS a_o a_base a_beats a_cells a_kind a_notes a_other a_pitch a_share a_space a_speed a_tell a_times a_words z_refused z_steps z_held z_sort z_size z_shown z_carried z_was z_kept z_cutSpace z_cutTimes z_cutOff z_trace u.1 u.2.1 u.2.2.1 u.2.2.2.1 u.2.2.2.2.1 u.2.2.2.2.2.1 u.2.2.2.2.2.2.1 v_seed v_fault v_from u.2.2.2.2.2.2.2.1 v_end u.2.2.2.2.2.2.2.2.1 u.2.2.2.2.2.2.2.2.2.1 v_culprit v_ran v_isKept u.2.2.2.2.2.2.2.2.2.2.1 u.2.2.2.2.2.2.2.2.2.2.2.1 g_cells u.2.2.2.2.2.2.2.2.2.2.2.2.1 u.2.2.2.2.2.2.2.2.2.2.2.2.2.1 u.2.2.2.2.2.2.2.2.2.2.2.2.2.2.1 u.2.2.2.2.2.2.2.2.2.2.2.2.2.2.2.1 u.2.2.2.2.2.2.2.2.2.2.2.2.2.2.2.2.1 u.2.2.2.2.2.2.2.2.2.2.2.2.2.2.2.2.2.1 u.2.2.2.2.2.2.2.2.2.2.2.2.2.2.2.2.2.2.1 u.2.2.2.2.2.2.2.2.2.2.2.2.2.2.2.2.2.2.2.1 u.2.2.2.2.2.2.2.2.2.2.2.2.2.2.2.2.2.2.2.2 f_words) t.heap) A) args s 0 0 A) (F0 m 86 ls []) := by
  intro  H locs ls h hP hD hS hl
  unfold F_X10_item_86 at h
  have hx := S.1
  have hb := S.2.1
  refine lv_iload_n hx hb dX10_item_86 rfl (lv_at hl 2 rfl) ?_
  refine lv_bipush (v := 7) hx hb dX10_item_87 (by decide) ?_
  refine lv_icmp_ne (tgt := 101) hx hb dX10_item_89 (by decide) (fun hc => ?_) (fun hc => ?_)
  · have h := h.2 hc
    refine w_X10_item_101 S hE hT hA hr hlocks _ _ _ h hP hD hS (lv_sub hl [0, 1, 2] rfl)
  have h := h.1 hc
  refine lv_aload_n hx hb dX10_item_92 rfl (lv_at hl 0 rfl) ?_
  refine gf S hE hP 0 rfl rfl inX10 (k := 2) (by decide) q1095 rfl dX10_item_93 ?_
  refine lv_bipush (v := 6) hx hb dX10_item_96 (by decide) ?_
  refine lv_icmp_eq (tgt := 130) hx hb dX10_item_98 (by decide) (fun hc => ?_) (fun hc => ?_)
  · have h := h.1 hc
    refine lv_aload_n hx hb dX10_item_130 rfl (lv_at hl 0 rfl) ?_
    refine lv_iload_n hx hb dX10_item_131 rfl (lv_at hl 1 rfl) ?_
    refine rw_i (rwV S hE hT hS hP hD hA (c_X10_wrong h) [0] rfl (by decide) lkX10_193 rfl ⟨(Nat.le_of_ble_eq_true rfl), (Nat.le_of_ble_eq_true rfl)⟩ 0 rfl rfl hl.1 rfl (Nat.le_of_ble_eq_true rfl) dX10_item_132 ⟨(Nat.zero_le _), (Nat.zero_le _)⟩) hP hD hS hA [0] rfl (by decide) (fun _ => rfl) (fun r132 w132_0 H locs h hP hD hS => ?_)
    try dsimp only at h
    have hP : va_P D vwCl (wX10_item cI cJ cS a_o a_base a_beats a_cells a_kind a_notes a_other a_pitch a_share a_space a_speed a_tell a_times a_words z_refused z_steps z_held z_sort z_size z_shown z_carried z_was z_kept z_cutSpace z_cutTimes z_cutOff z_trace v_stretches v_cars v_tunes v_along v_near v_borne v_tempo v_seed v_fault v_from v_at v_end v_told w132_0 v_culprit v_ran v_isKept f_base f_beats g_cells f_kind f_notes f_other f_pitch f_share f_space f_speed f_tell f_times f_words) H := hP
    have hD : va_D A (wX10_item cI cJ cS a_o a_base a_beats a_cells a_kind a_notes a_other a_pitch a_share a_space a_speed a_tell a_times a_words z_refused z_steps z_held z_sort z_size z_shown z_carried z_was z_kept z_cutSpace z_cutTimes z_cutOff z_trace v_stretches v_cars v_tunes v_along v_near v_borne v_tempo v_seed v_fault v_from v_at v_end v_told w132_0 v_culprit v_ran v_isKept f_base f_beats g_cells f_kind f_notes f_other f_pitch f_share f_space f_speed f_tell f_times f_words) := hD
    exact W.zret hx hb hr h.1 (fun t ht _ => ⟨⟨_, (v_stretches, v_cars, v_tunes, v_along, v_near, v_borne, v_tempo, v_at, v_told, w132_0, f_base, f_beats, f_kind, f_notes, f_other, f_pitch, f_share, f_space, f_speed, f_tell, f_times), rfl, h.2, hPt hP ht⟩, hS.F ht⟩) hS.2.2 dX10_item_135
  have h := h.2 hc
  refine w_X10_item_101 S hE hT hA hr hlocks _ _ _ h hP hD hS (lv_sub hl [0, 1, 2] rfl)
set_option maxHeartbeats 4000000 in
set_option maxRecDepth 100000 in
theorem w_X10_item_71 {l : Launch} {D : va_G} {cI cJ cS : ClassId} {ad adK : Nat → Nat} {a_o a_base a_beats a_cells a_kind a_notes a_other a_pitch a_share a_space a_speed a_tell a_times a_words : Nat} {z_refused z_steps z_held z_sort z_size z_shown z_carried z_was z_kept z_cutSpace z_cutTimes z_cutOff z_trace : Value} {v_stretches : Int32} {v_cars : Int32} {v_tunes : Int32} {v_along : Int32} {v_near : Int32} {v_borne : Int32} {v_tempo : Int32} {v_seed : Int32} {v_fault : Int32} {v_from : Int32} {v_at : Int32} {v_end : Int32} {v_told : Int32} {v_wrongAt : Int32} {v_culprit : Int32} {v_ran : Int32} {v_isKept : Int32} {f_base : Nat → Int32} {f_beats : Nat → Int32} {g_cells : Nat → Int64} {f_kind : Nat → Int32} {f_notes : Nat → Int32} {f_other : Nat → Int32} {f_pitch : Nat → Int32} {f_share : Nat → Int32} {f_space : Nat → Int32} {f_speed : Nat → Int32} {f_tell : Nat → Int32} {f_times : Nat → Int32} {f_words : Nat → Int32} {x1 : Int32} {x2 : Int32} {post : Int32 → Int32 → Int32 → Int32 → Int32 → Int32 → Int32 → Int32 → Int32 → Int32 → Int32 → (Nat → Int32) → (Nat → Int32) → (Nat → Int32) → (Nat → Int32) → (Nat → Int32) → (Nat → Int32) → (Nat → Int32) → (Nat → Int32) → (Nat → Int32) → (Nat → Int32) → (Nat → Int32) → Prop} {p : Program} {e : Env} {s : State} {m : MethodId} {args : Array Value} {below : List Frame} {meth : Method} {c : Code} {A : Nat → Prop} (S : CallFix p m c cX10_item 6 s args GW "RoadThatSingsModel") (hE : EN D cI cJ cS s) (hT : ST ad adK A s s.heap) (hA : ∀ q : Nat, s.heap.size ≤ q → A q) (hr : meth.sig.returnType = (some (.boolean))) (hlocks : meth.locks = false) : ∀ (H : Heap) (locs : List Loc) (ls : Array Slot), F_X10_item_71 v_from v_end g_cells post x1 x2 v_stretches v_cars v_tunes v_along v_near v_borne v_tempo v_at v_told v_wrongAt f_base f_beats f_kind f_notes f_other f_pitch f_share f_space f_speed f_tell f_times → va_P D vwCl (wX10_item cI cJ cS a_o a_base a_beats a_cells a_kind a_notes a_other a_pitch a_share a_space a_speed a_tell a_times a_words z_refused z_steps z_held z_sort z_size z_shown z_carried z_was z_kept z_cutSpace z_cutTimes z_cutOff z_trace v_stretches v_cars v_tunes v_along v_near v_borne v_tempo v_seed v_fault v_from v_at v_end v_told v_wrongAt v_culprit v_ran v_isKept f_base f_beats g_cells f_kind f_notes f_other f_pitch f_share f_space f_speed f_tell f_times f_words) H → va_D A (wX10_item cI cJ cS a_o a_base a_beats a_cells a_kind a_notes a_other a_pitch a_share a_space a_speed a_tell a_times a_words z_refused z_steps z_held z_sort z_size z_shown z_carried z_was z_kept z_cutSpace z_cutTimes z_cutOff z_trace v_stretches v_cars v_tunes v_along v_near v_borne v_tempo v_seed v_fault v_from v_at v_end v_told v_wrongAt v_culprit v_ran v_isKept f_base f_beats g_cells f_kind f_notes f_other f_pitch f_share f_space f_speed f_tell f_times f_words) → va_S A s.heap H locs → lv_has ls 6 [(0, .ref a_o), (1, .int x1), (2, .int x2)] → W p l e (rmd 2 0 0) s m args below meth c H locs 0 0 (MQ below (va_Qi (fun r (u : Int32 × Int32 × Int32 × Int32 × Int32 × Int32 × Int32 × Int32 × Int32 × Int32 × (Nat → Int32) × (Nat → Int32) × (Nat → Int32) × (Nat → Int32) × (Nat → Int32) × (Nat → Int32) × (Nat → Int32) × (Nat → Int32) × (Nat → Int32) × (Nat → Int32) × (Nat → Int32)) => post r u.1 u.2.1 u.2.2.1 u.2.2.2.1 u.2.2.2.2.1 u.2.2.2.2.2.1 u.2.2.2.2.2.2.1 u.2.2.2.2.2.2.2.1 u.2.2.2.2.2.2.2.2.1 u.2.2.2.2.2.2.2.2.2.1 u.2.2.2.2.2.2.2.2.2.2.1 u.2.2.2.2.2.2.2.2.2.2.2.1 u.2.2.2.2.2.2.2.2.2.2.2.2.1 u.2.2.2.2.2.2.2.2.2.2.2.2.2.1 u.2.2.2.2.2.2.2.2.2.2.2.2.2.2.1 u.2.2.2.2.2.2.2.2.2.2.2.2.2.2.2.1 u.2.2.2.2.2.2.2.2.2.2.2.2.2.2.2.2.1 u.2.2.2.2.2.2.2.2.2.2.2.2.2.2.2.2.2.1 u.2.2.2.2.2.2.2.2.2.2.2.2.2.2.2.2.2.2.1 u.2.2.2.2.2.2.2.2.2.2.2.2.2.2.2.2.2.2.2.1 u.2.2.2.2.2.2.2.2.2.2.2.2.2.2.2.2.2.2.2.2) (fun u t => va_P D vwCl (wX10_item cI cJ cS a_o a_base a_beats a_cells a_kind a_notes a_other a_pitch a_share a_space a_speed a_tell a_times a_words z_refused z_steps z_held z_sort z_size z_shown z_carried z_was z_kept z_cutSpace z_cutTimes z_cutOff z_trace u.1 u.2.1 u.2.2.1 u.2.2.2.1 u.2.2.2.2.1 u.2.2.2.2.2.1 u.2.2.2.2.2.2.1 v_seed v_fault v_from u.2.2.2.2.2.2.2.1 v_end u.2.2.2.2.2.2.2.2.1 u.2.2.2.2.2.2.2.2.2.1 v_culprit v_ran v_isKept u.2.2.2.2.2.2.2.2.2.2.1 u.2.2.2.2.2.2.2.2.2.2.2.1 g_cells u.2.2.2.2.2.2.2.2.2.2.2.2.1 u.2.2.2.2.2.2.2.2.2.2.2.2.2.1 u.2.2.2.2.2.2.2.2.2.2.2.2.2.2.1 u.2.2.2.2.2.2.2.2.2.2.2.2.2.2.2.1 u.2.2.2.2.2.2.2.2.2.2.2.2.2.2.2.2.1 u.2.2.2.2.2.2.2.2.2.2.2.2.2.2.2.2.2.1 u.2.2.2.2.2.2.2.2.2.2.2.2.2.2.2.2.2.2.1 u.2.2.2.2.2.2.2.2.2.2.2.2.2.2.2.2.2.2.2.1 u.2.2.2.2.2.2.2.2.2.2.2.2.2.2.2.2.2.2.2.2 f_words) t.heap) A) args s 0 0 A) (F0 m 71 ls []) := by
  intro  H locs ls h hP hD hS hl
  unfold F_X10_item_71 at h
  have hx := S.1
  have hb := S.2.1
  refine lv_iload_n hx hb dX10_item_71 rfl (lv_at hl 2 rfl) ?_
  refine lv_bipush (v := 6) hx hb dX10_item_72 (by decide) ?_
  refine lv_icmp_ne (tgt := 86) hx hb dX10_item_74 (by decide) (fun hc => ?_) (fun hc => ?_)
  · have h := h.2 hc
    refine w_X10_item_86 S hE hT hA hr hlocks _ _ _ h hP hD hS (lv_sub hl [0, 1, 2] rfl)
  have h := h.1 hc
  refine lv_aload_n hx hb dX10_item_77 rfl (lv_at hl 0 rfl) ?_
  refine gf S hE hP 0 rfl rfl inX10 (k := 1) (by decide) q1094 rfl dX10_item_78 ?_
  refine lv_bipush (v := 6) hx hb dX10_item_81 (by decide) ?_
  refine lv_icmp_eq (tgt := 130) hx hb dX10_item_83 (by decide) (fun hc => ?_) (fun hc => ?_)
  · have h := h.1 hc
    refine lv_aload_n hx hb dX10_item_130 rfl (lv_at hl 0 rfl) ?_
    refine lv_iload_n hx hb dX10_item_131 rfl (lv_at hl 1 rfl) ?_
    refine rw_i (rwV S hE hT hS hP hD hA (c_X10_wrong h) [0] rfl (by decide) lkX10_193 rfl ⟨(Nat.le_of_ble_eq_true rfl), (Nat.le_of_ble_eq_true rfl)⟩ 0 rfl rfl hl.1 rfl (Nat.le_of_ble_eq_true rfl) dX10_item_132 ⟨(Nat.zero_le _), (Nat.zero_le _)⟩) hP hD hS hA [0] rfl (by decide) (fun _ => rfl) (fun r132 w132_0 H locs h hP hD hS => ?_)
    try dsimp only at h
    have hP : va_P D vwCl (wX10_item cI cJ cS a_o a_base a_beats a_cells a_kind a_notes a_other a_pitch a_share a_space a_speed a_tell a_times a_words z_refused z_steps z_held z_sort z_size z_shown z_carried z_was z_kept z_cutSpace z_cutTimes z_cutOff z_trace v_stretches v_cars v_tunes v_along v_near v_borne v_tempo v_seed v_fault v_from v_at v_end v_told w132_0 v_culprit v_ran v_isKept f_base f_beats g_cells f_kind f_notes f_other f_pitch f_share f_space f_speed f_tell f_times f_words) H := hP
    have hD : va_D A (wX10_item cI cJ cS a_o a_base a_beats a_cells a_kind a_notes a_other a_pitch a_share a_space a_speed a_tell a_times a_words z_refused z_steps z_held z_sort z_size z_shown z_carried z_was z_kept z_cutSpace z_cutTimes z_cutOff z_trace v_stretches v_cars v_tunes v_along v_near v_borne v_tempo v_seed v_fault v_from v_at v_end v_told w132_0 v_culprit v_ran v_isKept f_base f_beats g_cells f_kind f_notes f_other f_pitch f_share f_space f_speed f_tell f_times f_words) := hD
    exact W.zret hx hb hr h.1 (fun t ht _ => ⟨⟨_, (v_stretches, v_cars, v_tunes, v_along, v_near, v_borne, v_tempo, v_at, v_told, w132_0, f_base, f_beats, f_kind, f_notes, f_other, f_pitch, f_share, f_space, f_speed, f_tell, f_times), rfl, h.2, hPt hP ht⟩, hS.F ht⟩) hS.2.2 dX10_item_135
  have h := h.2 hc
  refine w_X10_item_86 S hE hT hA hr hlocks _ _ _ h hP hD hS (lv_sub hl [0, 1, 2] rfl)
set_option maxHeartbeats 4000000 in
set_option maxRecDepth 100000 in
theorem w_X10_item_33 {l : Launch} {D : va_G} {cI cJ cS : ClassId} {ad adK : Nat → Nat} {a_o a_base a_beats a_cells a_kind a_notes a_other a_pitch a_share a_space a_speed a_tell a_times a_words : Nat} {z_refused z_steps z_held z_sort z_size z_shown z_carried z_was z_kept z_cutSpace z_cutTimes z_cutOff z_trace : Value} {v_stretches : Int32} {v_cars : Int32} {v_tunes : Int32} {v_along : Int32} {v_near : Int32} {v_borne : Int32} {v_tempo : Int32} {v_seed : Int32} {v_fault : Int32} {v_from : Int32} {v_at : Int32} {v_end : Int32} {v_told : Int32} {v_wrongAt : Int32} {v_culprit : Int32} {v_ran : Int32} {v_isKept : Int32} {f_base : Nat → Int32} {f_beats : Nat → Int32} {g_cells : Nat → Int64} {f_kind : Nat → Int32} {f_notes : Nat → Int32} {f_other : Nat → Int32} {f_pitch : Nat → Int32} {f_share : Nat → Int32} {f_space : Nat → Int32} {f_speed : Nat → Int32} {f_tell : Nat → Int32} {f_times : Nat → Int32} {f_words : Nat → Int32} {x1 : Int32} {post : Int32 → Int32 → Int32 → Int32 → Int32 → Int32 → Int32 → Int32 → Int32 → Int32 → Int32 → (Nat → Int32) → (Nat → Int32) → (Nat → Int32) → (Nat → Int32) → (Nat → Int32) → (Nat → Int32) → (Nat → Int32) → (Nat → Int32) → (Nat → Int32) → (Nat → Int32) → (Nat → Int32) → Prop} {k2 : Int32 → Int32 → Int32 → Int32 → Int32 → Int32 → Int32 → Int32 → Int32 → Int32 → Int32 → (Nat → Int32) → (Nat → Int32) → (Nat → Int32) → (Nat → Int32) → (Nat → Int32) → (Nat → Int32) → (Nat → Int32) → (Nat → Int32) → (Nat → Int32) → (Nat → Int32) → (Nat → Int32) → Prop} {p : Program} {e : Env} {s : State} {m : MethodId} {args : Array Value} {below : List Frame} {meth : Method} {c : Code} {A : Nat → Prop} (S : CallFix p m c cX10_item 6 s args GW "RoadThatSingsModel") (hE : EN D cI cJ cS s) (hT : ST ad adK A s s.heap) (hA : ∀ q : Nat, s.heap.size ≤ q → A q) (hr : meth.sig.returnType = (some (.boolean))) (hlocks : meth.locks = false) (hk2 : ∀ (x1 : Int32) (v_stretches : Int32) (v_cars : Int32) (v_tunes : Int32) (v_along : Int32) (v_near : Int32) (v_borne : Int32) (v_tempo : Int32) (v_at : Int32) (v_told : Int32) (v_wrongAt : Int32) (f_base : Nat → Int32) (f_beats : Nat → Int32) (f_kind : Nat → Int32) (f_notes : Nat → Int32) (f_other : Nat → Int32) (f_pitch : Nat → Int32) (f_share : Nat → Int32) (f_space : Nat → Int32) (f_speed : Nat → Int32) (f_tell : Nat → Int32) (f_times : Nat → Int32) (H : Heap) (locs : List Loc) (ls : Array Slot), k2 x1 v_stretches v_cars v_tunes v_along v_near v_borne v_tempo v_at v_told v_wrongAt f_base f_beats f_kind f_notes f_other f_pitch f_share f_space f_speed f_tell f_times → va_P D vwCl (wX10_item cI cJ cS a_o a_base a_beats a_cells a_kind a_notes a_other a_pitch a_share a_space a_speed a_tell a_times a_words z_refused z_steps z_held z_sort z_size z_shown z_carried z_was z_kept z_cutSpace z_cutTimes z_cutOff z_trace v_stretches v_cars v_tunes v_along v_near v_borne v_tempo v_seed v_fault v_from v_at v_end v_told v_wrongAt v_culprit v_ran v_isKept f_base f_beats g_cells f_kind f_notes f_other f_pitch f_share f_space f_speed f_tell f_times f_words) H → va_D A (wX10_item cI cJ cS a_o a_base a_beats a_cells a_kind a_notes a_other a_pitch a_share a_space a_speed a_tell a_times a_words z_refused z_steps z_held z_sort z_size z_shown z_carried z_was z_kept z_cutSpace z_cutTimes z_cutOff z_trace v_stretches v_cars v_tunes v_along v_near v_borne v_tempo v_seed v_fault v_from v_at v_end v_told v_wrongAt v_culprit v_ran v_isKept f_base f_beats g_cells f_kind f_notes f_other f_pitch f_share f_space f_speed f_tell f_times f_words) → va_S A s.heap H locs → lv_has ls 6 [(0, .ref a_o), (1, .int x1)] → W p l e (rmd 2 0 0) s m args below meth c H locs 0 0 (MQ below (va_Qi (fun r (u : Int32 × Int32 × Int32 × Int32 × Int32 × Int32 × Int32 × Int32 × Int32 × Int32 × (Nat → Int32) × (Nat → Int32) × (Nat → Int32) × (Nat → Int32) × (Nat → Int32) × (Nat → Int32) × (Nat → Int32) × (Nat → Int32) × (Nat → Int32) × (Nat → Int32) × (Nat → Int32)) => post r u.1 u.2.1 u.2.2.1 u.2.2.2.1 u.2.2.2.2.1 u.2.2.2.2.2.1 u.2.2.2.2.2.2.1 u.2.2.2.2.2.2.2.1 u.2.2.2.2.2.2.2.2.1 u.2.2.2.2.2.2.2.2.2.1 u.2.2.2.2.2.2.2.2.2.2.1 u.2.2.2.2.2.2.2.2.2.2.2.1 u.2.2.2.2.2.2.2.2.2.2.2.2.1 u.2.2.2.2.2.2.2.2.2.2.2.2.2.1 u.2.2.2.2.2.2.2.2.2.2.2.2.2.2.1 u.2.2.2.2.2.2.2.2.2.2.2.2.2.2.2.1 u.2.2.2.2.2.2.2.2.2.2.2.2.2.2.2.2.1 u.2.2.2.2.2.2.2.2.2.2.2.2.2.2.2.2.2.1 u.2.2.2.2.2.2.2.2.2.2.2.2.2.2.2.2.2.2.1 u.2.2.2.2.2.2.2.2.2.2.2.2.2.2.2.2.2.2.2.1 u.2.2.2.2.2.2.2.2.2.2.2.2.2.2.2.2.2.2.2.2) (fun u t => va_P D vwCl (wX10_item cI cJ cS a_o a_base a_beats a_cells a_kind a_notes a_other a_pitch a_share a_space a_speed a_tell a_times a_words z_refused z_steps z_held z_sort z_size z_shown z_carried z_was z_kept z_cutSpace z_cutTimes z_cutOff z_trace u.1 u.2.1 u.2.2.1 u.2.2.2.1 u.2.2.2.2.1 u.2.2.2.2.2.1 u.2.2.2.2.2.2.1 v_seed v_fault v_from u.2.2.2.2.2.2.2.1 v_end u.2.2.2.2.2.2.2.2.1 u.2.2.2.2.2.2.2.2.2.1 v_culprit v_ran v_isKept u.2.2.2.2.2.2.2.2.2.2.1 u.2.2.2.2.2.2.2.2.2.2.2.1 g_cells u.2.2.2.2.2.2.2.2.2.2.2.2.1 u.2.2.2.2.2.2.2.2.2.2.2.2.2.1 u.2.2.2.2.2.2.2.2.2.2.2.2.2.2.1 u.2.2.2.2.2.2.2.2.2.2.2.2.2.2.2.1 u.2.2.2.2.2.2.2.2.2.2.2.2.2.2.2.2.1 u.2.2.2.2.2.2.2.2.2.2.2.2.2.2.2.2.2.1 u.2.2.2.2.2.2.2.2.2.2.2.2.2.2.2.2.2.2.1 u.2.2.2.2.2.2.2.2.2.2.2.2.2.2.2.2.2.2.2.1 u.2.2.2.2.2.2.2.2.2.2.2.2.2.2.2.2.2.2.2.2 f_words) t.heap) A) args s 0 0 A) (F0 m 2 ls [])) : ∀ (H : Heap) (locs : List Loc) (ls : Array Slot), F_X10_item_33 k2 x1 v_stretches v_cars v_tunes v_along v_near v_borne v_tempo v_at v_told v_wrongAt f_base f_beats f_kind f_notes f_other f_pitch f_share f_space f_speed f_tell f_times → va_P D vwCl (wX10_item cI cJ cS a_o a_base a_beats a_cells a_kind a_notes a_other a_pitch a_share a_space a_speed a_tell a_times a_words z_refused z_steps z_held z_sort z_size z_shown z_carried z_was z_kept z_cutSpace z_cutTimes z_cutOff z_trace v_stretches v_cars v_tunes v_along v_near v_borne v_tempo v_seed v_fault v_from v_at v_end v_told v_wrongAt v_culprit v_ran v_isKept f_base f_beats g_cells f_kind f_notes f_other f_pitch f_share f_space f_speed f_tell f_times f_words) H → va_D A (wX10_item cI cJ cS a_o a_base a_beats a_cells a_kind a_notes a_other a_pitch a_share a_space a_speed a_tell a_times a_words z_refused z_steps z_held z_sort z_size z_shown z_carried z_was z_kept z_cutSpace z_cutTimes z_cutOff z_trace v_stretches v_cars v_tunes v_along v_near v_borne v_tempo v_seed v_fault v_from v_at v_end v_told v_wrongAt v_culprit v_ran v_isKept f_base f_beats g_cells f_kind f_notes f_other f_pitch f_share f_space f_speed f_tell f_times f_words) → va_S A s.heap H locs → lv_has ls 6 [(0, .ref a_o), (1, .int x1)] → W p l e (rmd 2 0 0) s m args below meth c H locs 0 0 (MQ below (va_Qi (fun r (u : Int32 × Int32 × Int32 × Int32 × Int32 × Int32 × Int32 × Int32 × Int32 × Int32 × (Nat → Int32) × (Nat → Int32) × (Nat → Int32) × (Nat → Int32) × (Nat → Int32) × (Nat → Int32) × (Nat → Int32) × (Nat → Int32) × (Nat → Int32) × (Nat → Int32) × (Nat → Int32)) => post r u.1 u.2.1 u.2.2.1 u.2.2.2.1 u.2.2.2.2.1 u.2.2.2.2.2.1 u.2.2.2.2.2.2.1 u.2.2.2.2.2.2.2.1 u.2.2.2.2.2.2.2.2.1 u.2.2.2.2.2.2.2.2.2.1 u.2.2.2.2.2.2.2.2.2.2.1 u.2.2.2.2.2.2.2.2.2.2.2.1 u.2.2.2.2.2.2.2.2.2.2.2.2.1 u.2.2.2.2.2.2.2.2.2.2.2.2.2.1 u.2.2.2.2.2.2.2.2.2.2.2.2.2.2.1 u.2.2.2.2.2.2.2.2.2.2.2.2.2.2.2.1 u.2.2.2.2.2.2.2.2.2.2.2.2.2.2.2.2.1 u.2.2.2.2.2.2.2.2.2.2.2.2.2.2.2.2.2.1 u.2.2.2.2.2.2.2.2.2.2.2.2.2.2.2.2.2.2.1 u.2.2.2.2.2.2.2.2.2.2.2.2.2.2.2.2.2.2.2.1 u.2.2.2.2.2.2.2.2.2.2.2.2.2.2.2.2.2.2.2.2) (fun u t => va_P D vwCl (wX10_item cI cJ cS a_o a_base a_beats a_cells a_kind a_notes a_other a_pitch a_share a_space a_speed a_tell a_times a_words z_refused z_steps z_held z_sort z_size z_shown z_carried z_was z_kept z_cutSpace z_cutTimes z_cutOff z_trace u.1 u.2.1 u.2.2.1 u.2.2.2.1 u.2.2.2.2.1 u.2.2.2.2.2.1 u.2.2.2.2.2.2.1 v_seed v_fault v_from u.2.2.2.2.2.2.2.1 v_end u.2.2.2.2.2.2.2.2.1 u.2.2.2.2.2.2.2.2.2.1 v_culprit v_ran v_isKept u.2.2.2.2.2.2.2.2.2.2.1 u.2.2.2.2.2.2.2.2.2.2.2.1 g_cells u.2.2.2.2.2.2.2.2.2.2.2.2.1 u.2.2.2.2.2.2.2.2.2.2.2.2.2.1 u.2.2.2.2.2.2.2.2.2.2.2.2.2.2.1 u.2.2.2.2.2.2.2.2.2.2.2.2.2.2.2.1 u.2.2.2.2.2.2.2.2.2.2.2.2.2.2.2.2.1 u.2.2.2.2.2.2.2.2.2.2.2.2.2.2.2.2.2.1 u.2.2.2.2.2.2.2.2.2.2.2.2.2.2.2.2.2.2.1 u.2.2.2.2.2.2.2.2.2.2.2.2.2.2.2.2.2.2.2.1 u.2.2.2.2.2.2.2.2.2.2.2.2.2.2.2.2.2.2.2.2 f_words) t.heap) A) args s 0 0 A) (F0 m 33 ls []) := by
  intro  H locs ls h hP hD hS hl
  unfold F_X10_item_33 at h
  have hx := S.1
  have hb := S.2.1
  obtain ⟨x1_33, ex1_33⟩ : ∃ z : Int32, z = x1 + 1 := ⟨_, rfl⟩
  have h := h _ ex1_33
  refine lv_iinc (v := x1_33) (lv' := [(1, .int x1_33), (0, .ref a_o)]) hx hb dX10_item_33 hl (k := 1) rfl (by rw [ex1_33]; rfl) (by decide) rfl (fun ls hl => ?_)
  refine lv_goto (tgt := 2) hx hb dX10_item_36 (by decide) ?_
  exact hk2 _ _ _ _ _ _ _ _ _ _ _ _ _ _ _ _ _ _ _ _ _ _ _ _ _ h hP hD hS (lv_sub hl [1, 0] rfl)
set_option maxHeartbeats 4000000 in
set_option maxRecDepth 100000 in
theorem w_X10_item_2 {l : Launch} {D : va_G} {cI cJ cS : ClassId} {ad adK : Nat → Nat} {a_o a_base a_beats a_cells a_kind a_notes a_other a_pitch a_share a_space a_speed a_tell a_times a_words : Nat} {z_refused z_steps z_held z_sort z_size z_shown z_carried z_was z_kept z_cutSpace z_cutTimes z_cutOff z_trace : Value} {v_seed : Int32} {v_fault : Int32} {v_from : Int32} {v_end : Int32} {v_culprit : Int32} {v_ran : Int32} {v_isKept : Int32} {g_cells : Nat → Int64} {f_words : Nat → Int32} {post : Int32 → Int32 → Int32 → Int32 → Int32 → Int32 → Int32 → Int32 → Int32 → Int32 → Int32 → (Nat → Int32) → (Nat → Int32) → (Nat → Int32) → (Nat → Int32) → (Nat → Int32) → (Nat → Int32) → (Nat → Int32) → (Nat → Int32) → (Nat → Int32) → (Nat → Int32) → (Nat → Int32) → Prop} {p : Program} {e : Env} {s : State} {m : MethodId} {args : Array Value} {below : List Frame} {meth : Method} {c : Code} {A : Nat → Prop} (S : CallFix p m c cX10_item 6 s args GW "RoadThatSingsModel") (hE : EN D cI cJ cS s) (hT : ST ad adK A s s.heap) (hA : ∀ q : Nat, s.heap.size ≤ q → A q) (hr : meth.sig.returnType = (some (.boolean))) (hlocks : meth.locks = false) : ∀ n : Nat, ∀ (x1 : Int32) (v_stretches : Int32) (v_cars : Int32) (v_tunes : Int32) (v_along : Int32) (v_near : Int32) (v_borne : Int32) (v_tempo : Int32) (v_at : Int32) (v_told : Int32) (v_wrongAt : Int32) (f_base : Nat → Int32) (f_beats : Nat → Int32) (f_kind : Nat → Int32) (f_notes : Nat → Int32) (f_other : Nat → Int32) (f_pitch : Nat → Int32) (f_share : Nat → Int32) (f_space : Nat → Int32) (f_speed : Nat → Int32) (f_tell : Nat → Int32) (f_times : Nat → Int32) (H : Heap) (locs : List Loc) (ls : Array Slot), L_X10_item_2 v_from v_end g_cells f_words post n x1 v_stretches v_cars v_tunes v_along v_near v_borne v_tempo v_at v_told v_wrongAt f_base f_beats f_kind f_notes f_other f_pitch f_share f_space f_speed f_tell f_times → va_P D vwCl (wX10_item cI cJ cS a_o a_base a_beats a_cells a_kind a_notes a_other a_pitch a_share a_space a_speed a_tell a_times a_words z_refused z_steps z_held z_sort z_size z_shown z_carried z_was z_kept z_cutSpace z_cutTimes z_cutOff z_trace v_stretches v_cars v_tunes v_along v_near v_borne v_tempo v_seed v_fault v_from v_at v_end v_told v_wrongAt v_culprit v_ran v_isKept f_base f_beats g_cells f_kind f_notes f_other f_pitch f_share f_space f_speed f_tell f_times f_words) H → va_D A (wX10_item cI cJ cS a_o a_base a_beats a_cells a_kind a_notes a_other a_pitch a_share a_space a_speed a_tell a_times a_words z_refused z_steps z_held z_sort z_size z_shown z_carried z_was z_kept z_cutSpace z_cutTimes z_cutOff z_trace v_stretches v_cars v_tunes v_along v_near v_borne v_tempo v_seed v_fault v_from v_at v_end v_told v_wrongAt v_culprit v_ran v_isKept f_base f_beats g_cells f_kind f_notes f_other f_pitch f_share f_space f_speed f_tell f_times f_words) → va_S A s.heap H locs → lv_has ls 6 [(0, .ref a_o), (1, .int x1)] → W p l e (rmd 2 0 0) s m args below meth c H locs 0 0 (MQ below (va_Qi (fun r (u : Int32 × Int32 × Int32 × Int32 × Int32 × Int32 × Int32 × Int32 × Int32 × Int32 × (Nat → Int32) × (Nat → Int32) × (Nat → Int32) × (Nat → Int32) × (Nat → Int32) × (Nat → Int32) × (Nat → Int32) × (Nat → Int32) × (Nat → Int32) × (Nat → Int32) × (Nat → Int32)) => post r u.1 u.2.1 u.2.2.1 u.2.2.2.1 u.2.2.2.2.1 u.2.2.2.2.2.1 u.2.2.2.2.2.2.1 u.2.2.2.2.2.2.2.1 u.2.2.2.2.2.2.2.2.1 u.2.2.2.2.2.2.2.2.2.1 u.2.2.2.2.2.2.2.2.2.2.1 u.2.2.2.2.2.2.2.2.2.2.2.1 u.2.2.2.2.2.2.2.2.2.2.2.2.1 u.2.2.2.2.2.2.2.2.2.2.2.2.2.1 u.2.2.2.2.2.2.2.2.2.2.2.2.2.2.1 u.2.2.2.2.2.2.2.2.2.2.2.2.2.2.2.1 u.2.2.2.2.2.2.2.2.2.2.2.2.2.2.2.2.1 u.2.2.2.2.2.2.2.2.2.2.2.2.2.2.2.2.2.1 u.2.2.2.2.2.2.2.2.2.2.2.2.2.2.2.2.2.2.1 u.2.2.2.2.2.2.2.2.2.2.2.2.2.2.2.2.2.2.2.1 u.2.2.2.2.2.2.2.2.2.2.2.2.2.2.2.2.2.2.2.2) (fun u t => va_P D vwCl (wX10_item cI cJ cS a_o a_base a_beats a_cells a_kind a_notes a_other a_pitch a_share a_space a_speed a_tell a_times a_words z_refused z_steps z_held z_sort z_size z_shown z_carried z_was z_kept z_cutSpace z_cutTimes z_cutOff z_trace u.1 u.2.1 u.2.2.1 u.2.2.2.1 u.2.2.2.2.1 u.2.2.2.2.2.1 u.2.2.2.2.2.2.1 v_seed v_fault v_from u.2.2.2.2.2.2.2.1 v_end u.2.2.2.2.2.2.2.2.1 u.2.2.2.2.2.2.2.2.2.1 v_culprit v_ran v_isKept u.2.2.2.2.2.2.2.2.2.2.1 u.2.2.2.2.2.2.2.2.2.2.2.1 g_cells u.2.2.2.2.2.2.2.2.2.2.2.2.1 u.2.2.2.2.2.2.2.2.2.2.2.2.2.1 u.2.2.2.2.2.2.2.2.2.2.2.2.2.2.1 u.2.2.2.2.2.2.2.2.2.2.2.2.2.2.2.1 u.2.2.2.2.2.2.2.2.2.2.2.2.2.2.2.2.1 u.2.2.2.2.2.2.2.2.2.2.2.2.2.2.2.2.2.1 u.2.2.2.2.2.2.2.2.2.2.2.2.2.2.2.2.2.2.1 u.2.2.2.2.2.2.2.2.2.2.2.2.2.2.2.2.2.2.2.1 u.2.2.2.2.2.2.2.2.2.2.2.2.2.2.2.2.2.2.2.2 f_words) t.heap) A) args s 0 0 A) (F0 m 2 ls []) := by
  intro n
  induction n with
  | zero =>
    intro x1 v_stretches v_cars v_tunes v_along v_near v_borne v_tempo v_at v_told v_wrongAt f_base f_beats f_kind f_notes f_other f_pitch f_share f_space f_speed f_tell f_times H locs ls h hP hD hS hl
    exact h.elim
  | succ n ih =>
    intro x1 v_stretches v_cars v_tunes v_along v_near v_borne v_tempo v_at v_told v_wrongAt f_base f_beats f_kind f_notes f_other f_pitch f_share f_space f_speed f_tell f_times H locs ls h hP hD hS hl
    rw [L_X10_item_2] at h
    have hx := S.1
    have hb := S.2.1
    refine lv_iload_n hx hb dX10_item_2 rfl (lv_at hl 1 rfl) ?_
    refine lv_bipush (v := 13) hx hb dX10_item_3 (by decide) ?_
    refine lv_icmp_ge (tgt := 39) hx hb dX10_item_5 (by decide) (fun hc => ?_) (fun hc => ?_)
    · have h := h.1 hc
      refine lv_aload_n hx hb dX10_item_39 rfl (lv_at hl 0 rfl) ?_
      refine gf S hE hP 0 rfl rfl inX10 (k := 30) (by decide) q1123 rfl dX10_item_40 ?_
      refine lv_istore_n (lv' := [(1, .int v_at), (0, .ref a_o)]) hx hb dX10_item_43 rfl hl (by decide) rfl (fun ls hl => ?_)
      refine lv_aload_n hx hb dX10_item_44 rfl (lv_at hl 1 rfl) ?_
      refine rw_i (rwV S hE hT hS hP hD hA (c_X10_word h) [0, 3, 13] rfl (by decide) lkX10_205 rfl ⟨(Nat.le_of_ble_eq_true rfl), (Nat.le_of_ble_eq_true rfl)⟩ 0 rfl rfl hl.1 rfl (Nat.le_of_ble_eq_true rfl) dX10_item_45 ⟨(Nat.zero_le _), (Nat.zero_le _)⟩) hP hD hS hA [0, 3, 13] rfl (by decide) (fun _ => rfl) (fun r45 u45 H locs h hP hD hS => ?_)
      obtain ⟨w45_0, w45_1⟩ := u45
      try dsimp only at h
      have hP : va_P D vwCl (wX10_item cI cJ cS a_o a_base a_beats a_cells a_kind a_notes a_other a_pitch a_share a_space a_speed a_tell a_times a_words z_refused z_steps z_held z_sort z_size z_shown z_carried z_was z_kept z_cutSpace z_cutTimes z_cutOff z_trace v_stretches v_cars v_tunes v_along v_near v_borne v_tempo v_seed v_fault v_from w45_0 v_end v_told w45_1 v_culprit v_ran v_isKept f_base f_beats g_cells f_kind f_notes f_other f_pitch f_share f_space f_speed f_tell f_times f_words) H := hP
      have hD : va_D A (wX10_item cI cJ cS a_o a_base a_beats a_cells a_kind a_notes a_other a_pitch a_share a_space a_speed a_tell a_times a_words z_refused z_steps z_held z_sort z_size z_shown z_carried z_was z_kept z_cutSpace z_cutTimes z_cutOff z_trace v_stretches v_cars v_tunes v_along v_near v_borne v_tempo v_seed v_fault v_from w45_0 v_end v_told w45_1 v_culprit v_ran v_isKept f_base f_beats g_cells f_kind f_notes f_other f_pitch f_share f_space f_speed f_tell f_times f_words) := hD
      refine lv_istore_n (lv' := [(2, .int r45), (1, .int v_at), (0, .ref a_o)]) hx hb dX10_item_48 rfl hl (by decide) rfl (fun ls hl => ?_)
      refine lv_iload_n hx hb dX10_item_49 rfl (lv_at hl 0 rfl) ?_
      refine lv_iconst (v := (-1)) hx hb dX10_item_50 (by decide) ?_
      refine lv_icmp_ne (tgt := 56) hx hb dX10_item_51 (by decide) (fun hc => ?_) (fun hc => ?_)
      · have h := h.2 hc
        refine lv_iload_n hx hb dX10_item_56 rfl (lv_at hl 0 rfl) ?_
        refine lv_bipush (v := 6) hx hb dX10_item_57 (by decide) ?_
        refine lv_icmp_ge (tgt := 71) hx hb dX10_item_59 (by decide) (fun hc => ?_) (fun hc => ?_)
        · have h := h.1 hc
          refine w_X10_item_71 S hE hT hA hr hlocks _ _ _ h hP hD hS (lv_sub hl [2, 1, 0] rfl)
        have h := h.2 hc
        refine lv_aload_n hx hb dX10_item_62 rfl (lv_at hl 2 rfl) ?_
        refine gf S hE hP 0 rfl rfl inX10 (k := 0) (by decide) q1093 rfl dX10_item_63 ?_
        refine lv_bipush (v := 16) hx hb dX10_item_66 (by decide) ?_
        refine lv_icmp_eq (tgt := 130) hx hb dX10_item_68 (by decide) (fun hc => ?_) (fun hc => ?_)
        · have h := h.1 hc
          refine lv_aload_n hx hb dX10_item_130 rfl (lv_at hl 2 rfl) ?_
          refine lv_iload_n hx hb dX10_item_131 rfl (lv_at hl 1 rfl) ?_
          refine rw_i (rwV S hE hT hS hP hD hA (c_X10_wrong h) [0] rfl (by decide) lkX10_193 rfl ⟨(Nat.le_of_ble_eq_true rfl), (Nat.le_of_ble_eq_true rfl)⟩ 0 rfl rfl hl.1 rfl (Nat.le_of_ble_eq_true rfl) dX10_item_132 ⟨(Nat.zero_le _), (Nat.zero_le _)⟩) hP hD hS hA [0] rfl (by decide) (fun _ => rfl) (fun r132 w132_0 H locs h hP hD hS => ?_)
          try dsimp only at h
          have hP : va_P D vwCl (wX10_item cI cJ cS a_o a_base a_beats a_cells a_kind a_notes a_other a_pitch a_share a_space a_speed a_tell a_times a_words z_refused z_steps z_held z_sort z_size z_shown z_carried z_was z_kept z_cutSpace z_cutTimes z_cutOff z_trace v_stretches v_cars v_tunes v_along v_near v_borne v_tempo v_seed v_fault v_from w45_0 v_end v_told w132_0 v_culprit v_ran v_isKept f_base f_beats g_cells f_kind f_notes f_other f_pitch f_share f_space f_speed f_tell f_times f_words) H := hP
          have hD : va_D A (wX10_item cI cJ cS a_o a_base a_beats a_cells a_kind a_notes a_other a_pitch a_share a_space a_speed a_tell a_times a_words z_refused z_steps z_held z_sort z_size z_shown z_carried z_was z_kept z_cutSpace z_cutTimes z_cutOff z_trace v_stretches v_cars v_tunes v_along v_near v_borne v_tempo v_seed v_fault v_from w45_0 v_end v_told w132_0 v_culprit v_ran v_isKept f_base f_beats g_cells f_kind f_notes f_other f_pitch f_share f_space f_speed f_tell f_times f_words) := hD
          exact W.zret hx hb hr h.1 (fun t ht _ => ⟨⟨_, (v_stretches, v_cars, v_tunes, v_along, v_near, v_borne, v_tempo, w45_0, v_told, w132_0, f_base, f_beats, f_kind, f_notes, f_other, f_pitch, f_share, f_space, f_speed, f_tell, f_times), rfl, h.2, hPt hP ht⟩, hS.F ht⟩) hS.2.2 dX10_item_135
        have h := h.2 hc
        refine w_X10_item_71 S hE hT hA hr hlocks _ _ _ h hP hD hS (lv_sub hl [2, 1, 0] rfl)
      have h := h.1 hc
      refine lv_iconst (v := 0) hx hb dX10_item_54 (by decide) ?_
      exact W.zret hx hb hr rfl (fun t ht _ => ⟨⟨_, (v_stretches, v_cars, v_tunes, v_along, v_near, v_borne, v_tempo, w45_0, v_told, w45_1, f_base, f_beats, f_kind, f_notes, f_other, f_pitch, f_share, f_space, f_speed, f_tell, f_times), rfl, h, hPt hP ht⟩, hS.F ht⟩) hS.2.2 dX10_item_55
    have h := h.2 hc
    refine lv_aload_n hx hb dX10_item_8 rfl (lv_at hl 0 rfl) ?_
    refine lv_iload_n hx hb dX10_item_9 rfl (lv_at hl 1 rfl) ?_
    refine ro_i (roV S hE hT hS (c_X10_isWordAt h) lkX10_199 rfl ⟨(Nat.le_of_ble_eq_true rfl), (Nat.le_of_ble_eq_true rfl)⟩ (hP.sub [0, 3, 13] rfl) 0 rfl rfl hl.1 rfl (Nat.le_of_ble_eq_true rfl) dX10_item_10 ⟨(Nat.zero_le _), (Nat.zero_le _)⟩) (fun r10 h => ?_)
    refine lv_if_eq (tgt := 33) hx hb dX10_item_13 (by decide) (fun hc => ?_) (fun hc => ?_)
    · have h := h.1 hc
      refine w_X10_item_33 S hE hT hA hr hlocks ih _ _ _ h hP hD hS (lv_sub hl [0, 1] rfl)
    have h := h.2 hc
    refine lv_aload_n hx hb dX10_item_16 rfl (lv_at hl 0 rfl) ?_
    refine lv_iload_n hx hb dX10_item_17 rfl (lv_at hl 1 rfl) ?_
    refine ro_i (roV S hE hT hS (c_X10_isFull h) lkX10_202 rfl ⟨(Nat.le_of_ble_eq_true rfl), (Nat.le_of_ble_eq_true rfl)⟩ (hP.sub [0, 5] rfl) 0 rfl rfl hl.1 rfl (Nat.le_of_ble_eq_true rfl) dX10_item_18 ⟨(Nat.zero_le _), (Nat.zero_le _)⟩) (fun r18 h => ?_)
    refine lv_if_eq (tgt := 33) hx hb dX10_item_21 (by decide) (fun hc => ?_) (fun hc => ?_)
    · have h := h.1 hc
      refine w_X10_item_33 S hE hT hA hr hlocks ih _ _ _ h hP hD hS (lv_sub hl [0, 1] rfl)
    have h := h.2 hc
    refine lv_aload_n hx hb dX10_item_24 rfl (lv_at hl 0 rfl) ?_
    refine lv_aload_n hx hb dX10_item_25 rfl (lv_at hl 0 rfl) ?_
    refine gf S hE hP 0 rfl rfl inX10 (k := 30) (by decide) q1123 rfl dX10_item_26 ?_
    refine rw_i (rwV S hE hT hS hP hD hA (c_X10_wrong h) [0] rfl (by decide) lkX10_193 rfl ⟨(Nat.le_of_ble_eq_true rfl), (Nat.le_of_ble_eq_true rfl)⟩ 0 rfl rfl hl.1 rfl (Nat.le_of_ble_eq_true rfl) dX10_item_29 ⟨(Nat.zero_le _), (Nat.zero_le _)⟩) hP hD hS hA [0] rfl (by decide) (fun _ => rfl) (fun r29 w29_0 H locs h hP hD hS => ?_)
    try dsimp only at h
    have hP : va_P D vwCl (wX10_item cI cJ cS a_o a_base a_beats a_cells a_kind a_notes a_other a_pitch a_share a_space a_speed a_tell a_times a_words z_refused z_steps z_held z_sort z_size z_shown z_carried z_was z_kept z_cutSpace z_cutTimes z_cutOff z_trace v_stretches v_cars v_tunes v_along v_near v_borne v_tempo v_seed v_fault v_from v_at v_end v_told w29_0 v_culprit v_ran v_isKept f_base f_beats g_cells f_kind f_notes f_other f_pitch f_share f_space f_speed f_tell f_times f_words) H := hP
    have hD : va_D A (wX10_item cI cJ cS a_o a_base a_beats a_cells a_kind a_notes a_other a_pitch a_share a_space a_speed a_tell a_times a_words z_refused z_steps z_held z_sort z_size z_shown z_carried z_was z_kept z_cutSpace z_cutTimes z_cutOff z_trace v_stretches v_cars v_tunes v_along v_near v_borne v_tempo v_seed v_fault v_from v_at v_end v_told w29_0 v_culprit v_ran v_isKept f_base f_beats g_cells f_kind f_notes f_other f_pitch f_share f_space f_speed f_tell f_times f_words) := hD
    exact W.zret hx hb hr h.1 (fun t ht _ => ⟨⟨_, (v_stretches, v_cars, v_tunes, v_along, v_near, v_borne, v_tempo, v_at, v_told, w29_0, f_base, f_beats, f_kind, f_notes, f_other, f_pitch, f_share, f_space, f_speed, f_tell, f_times), rfl, h.2, hPt hP ht⟩, hS.F ht⟩) hS.2.2 dX10_item_32
set_option maxHeartbeats 4000000 in
set_option maxRecDepth 100000 in
theorem c_X10_item {l : Launch} {D : va_G} {cI cJ cS : ClassId} {ad adK : Nat → Nat} {a_o a_base a_beats a_cells a_kind a_notes a_other a_pitch a_share a_space a_speed a_tell a_times a_words : Nat} {z_refused z_steps z_held z_sort z_size z_shown z_carried z_was z_kept z_cutSpace z_cutTimes z_cutOff z_trace : Value} {v_stretches : Int32} {v_cars : Int32} {v_tunes : Int32} {v_along : Int32} {v_near : Int32} {v_borne : Int32} {v_tempo : Int32} {v_seed : Int32} {v_fault : Int32} {v_from : Int32} {v_at : Int32} {v_end : Int32} {v_told : Int32} {v_wrongAt : Int32} {v_culprit : Int32} {v_ran : Int32} {v_isKept : Int32} {f_base : Nat → Int32} {f_beats : Nat → Int32} {g_cells : Nat → Int64} {f_kind : Nat → Int32} {f_notes : Nat → Int32} {f_other : Nat → Int32} {f_pitch : Nat → Int32} {f_share : Nat → Int32} {f_space : Nat → Int32} {f_speed : Nat → Int32} {f_tell : Nat → Int32} {f_times : Nat → Int32} {f_words : Nat → Int32} {post : Int32 → Int32 → Int32 → Int32 → Int32 → Int32 → Int32 → Int32 → Int32 → Int32 → Int32 → (Nat → Int32) → (Nat → Int32) → (Nat → Int32) → (Nat → Int32) → (Nat → Int32) → (Nat → Int32) → (Nat → Int32) → (Nat → Int32) → (Nat → Int32) → (Nat → Int32) → (Nat → Int32) → Prop} (h : F_X10_item v_stretches v_cars v_tunes v_along v_near v_borne v_tempo v_from v_at v_end v_told v_wrongAt f_base f_beats g_cells f_kind f_notes f_other f_pitch f_share f_space f_speed f_tell f_times f_words post) {sz : Nat} : Met l yX10_item (Cond.code yX10_item cX10_item 6 (some (.boolean)) :: GW) (rmd 2 0 0) (PW D cI cJ cS ad adK [.ref a_o] (wX10_item cI cJ cS a_o a_base a_beats a_cells a_kind a_notes a_other a_pitch a_share a_space a_speed a_tell a_times a_words z_refused z_steps z_held z_sort z_size z_shown z_carried z_was z_kept z_cutSpace z_cutTimes z_cutOff z_trace v_stretches v_cars v_tunes v_along v_near v_borne v_tempo v_seed v_fault v_from v_at v_end v_told v_wrongAt v_culprit v_ran v_isKept f_base f_beats g_cells f_kind f_notes f_other f_pitch f_share f_space f_speed f_tell f_times f_words) sz) (va_Qi (fun r (u : Int32 × Int32 × Int32 × Int32 × Int32 × Int32 × Int32 × Int32 × Int32 × Int32 × (Nat → Int32) × (Nat → Int32) × (Nat → Int32) × (Nat → Int32) × (Nat → Int32) × (Nat → Int32) × (Nat → Int32) × (Nat → Int32) × (Nat → Int32) × (Nat → Int32) × (Nat → Int32)) => post r u.1 u.2.1 u.2.2.1 u.2.2.2.1 u.2.2.2.2.1 u.2.2.2.2.2.1 u.2.2.2.2.2.2.1 u.2.2.2.2.2.2.2.1 u.2.2.2.2.2.2.2.2.1 u.2.2.2.2.2.2.2.2.2.1 u.2.2.2.2.2.2.2.2.2.2.1 u.2.2.2.2.2.2.2.2.2.2.2.1 u.2.2.2.2.2.2.2.2.2.2.2.2.1 u.2.2.2.2.2.2.2.2.2.2.2.2.2.1 u.2.2.2.2.2.2.2.2.2.2.2.2.2.2.1 u.2.2.2.2.2.2.2.2.2.2.2.2.2.2.2.1 u.2.2.2.2.2.2.2.2.2.2.2.2.2.2.2.2.1 u.2.2.2.2.2.2.2.2.2.2.2.2.2.2.2.2.2.1 u.2.2.2.2.2.2.2.2.2.2.2.2.2.2.2.2.2.2.1 u.2.2.2.2.2.2.2.2.2.2.2.2.2.2.2.2.2.2.2.1 u.2.2.2.2.2.2.2.2.2.2.2.2.2.2.2.2.2.2.2.2) (fun u t => va_P D vwCl (wX10_item cI cJ cS a_o a_base a_beats a_cells a_kind a_notes a_other a_pitch a_share a_space a_speed a_tell a_times a_words z_refused z_steps z_held z_sort z_size z_shown z_carried z_was z_kept z_cutSpace z_cutTimes z_cutOff z_trace u.1 u.2.1 u.2.2.1 u.2.2.2.1 u.2.2.2.2.1 u.2.2.2.2.2.1 u.2.2.2.2.2.2.1 v_seed v_fault v_from u.2.2.2.2.2.2.2.1 v_end u.2.2.2.2.2.2.2.2.1 u.2.2.2.2.2.2.2.2.2.1 v_culprit v_ran v_isKept u.2.2.2.2.2.2.2.2.2.2.1 u.2.2.2.2.2.2.2.2.2.2.2.1 g_cells u.2.2.2.2.2.2.2.2.2.2.2.2.1 u.2.2.2.2.2.2.2.2.2.2.2.2.2.1 u.2.2.2.2.2.2.2.2.2.2.2.2.2.2.1 u.2.2.2.2.2.2.2.2.2.2.2.2.2.2.2.1 u.2.2.2.2.2.2.2.2.2.2.2.2.2.2.2.2.1 u.2.2.2.2.2.2.2.2.2.2.2.2.2.2.2.2.2.1 u.2.2.2.2.2.2.2.2.2.2.2.2.2.2.2.2.2.2.1 u.2.2.2.2.2.2.2.2.2.2.2.2.2.2.2.2.2.2.2.1 u.2.2.2.2.2.2.2.2.2.2.2.2.2.2.2.2.2.2.2.2 f_words) t.heap) (va_A (wX10_item cI cJ cS a_o a_base a_beats a_cells a_kind a_notes a_other a_pitch a_share a_space a_speed a_tell a_times a_words z_refused z_steps z_held z_sort z_size z_shown z_carried z_was z_kept z_cutSpace z_cutTimes z_cutOff z_trace v_stretches v_cars v_tunes v_along v_near v_borne v_tempo v_seed v_fault v_from v_at v_end v_told v_wrongAt v_culprit v_ran v_isKept f_base f_beats g_cells f_kind f_notes f_other f_pitch f_share f_space f_speed f_tell f_times f_words) sz)) 0 0 (va_A (wX10_item cI cJ cS a_o a_base a_beats a_cells a_kind a_notes a_other a_pitch a_share a_space a_speed a_tell a_times a_words z_refused z_steps z_held z_sort z_size z_shown z_carried z_was z_kept z_cutSpace z_cutTimes z_cutOff z_trace v_stretches v_cars v_tunes v_along v_near v_borne v_tempo v_seed v_fault v_from v_at v_end v_told v_wrongAt v_culprit v_ran v_isKept f_base f_beats g_cells f_kind f_notes f_other f_pitch f_share f_space f_speed f_tell f_times f_words) sz) := by
  refine Met.rw (Qc := fun A => (va_Qi (fun r (u : Int32 × Int32 × Int32 × Int32 × Int32 × Int32 × Int32 × Int32 × Int32 × Int32 × (Nat → Int32) × (Nat → Int32) × (Nat → Int32) × (Nat → Int32) × (Nat → Int32) × (Nat → Int32) × (Nat → Int32) × (Nat → Int32) × (Nat → Int32) × (Nat → Int32) × (Nat → Int32)) => post r u.1 u.2.1 u.2.2.1 u.2.2.2.1 u.2.2.2.2.1 u.2.2.2.2.2.1 u.2.2.2.2.2.2.1 u.2.2.2.2.2.2.2.1 u.2.2.2.2.2.2.2.2.1 u.2.2.2.2.2.2.2.2.2.1 u.2.2.2.2.2.2.2.2.2.2.1 u.2.2.2.2.2.2.2.2.2.2.2.1 u.2.2.2.2.2.2.2.2.2.2.2.2.1 u.2.2.2.2.2.2.2.2.2.2.2.2.2.1 u.2.2.2.2.2.2.2.2.2.2.2.2.2.2.1 u.2.2.2.2.2.2.2.2.2.2.2.2.2.2.2.1 u.2.2.2.2.2.2.2.2.2.2.2.2.2.2.2.2.1 u.2.2.2.2.2.2.2.2.2.2.2.2.2.2.2.2.2.1 u.2.2.2.2.2.2.2.2.2.2.2.2.2.2.2.2.2.2.1 u.2.2.2.2.2.2.2.2.2.2.2.2.2.2.2.2.2.2.2.1 u.2.2.2.2.2.2.2.2.2.2.2.2.2.2.2.2.2.2.2.2) (fun u t => va_P D vwCl (wX10_item cI cJ cS a_o a_base a_beats a_cells a_kind a_notes a_other a_pitch a_share a_space a_speed a_tell a_times a_words z_refused z_steps z_held z_sort z_size z_shown z_carried z_was z_kept z_cutSpace z_cutTimes z_cutOff z_trace u.1 u.2.1 u.2.2.1 u.2.2.2.1 u.2.2.2.2.1 u.2.2.2.2.2.1 u.2.2.2.2.2.2.1 v_seed v_fault v_from u.2.2.2.2.2.2.2.1 v_end u.2.2.2.2.2.2.2.2.1 u.2.2.2.2.2.2.2.2.2.1 v_culprit v_ran v_isKept u.2.2.2.2.2.2.2.2.2.2.1 u.2.2.2.2.2.2.2.2.2.2.2.1 g_cells u.2.2.2.2.2.2.2.2.2.2.2.2.1 u.2.2.2.2.2.2.2.2.2.2.2.2.2.1 u.2.2.2.2.2.2.2.2.2.2.2.2.2.2.1 u.2.2.2.2.2.2.2.2.2.2.2.2.2.2.2.1 u.2.2.2.2.2.2.2.2.2.2.2.2.2.2.2.2.1 u.2.2.2.2.2.2.2.2.2.2.2.2.2.2.2.2.2.1 u.2.2.2.2.2.2.2.2.2.2.2.2.2.2.2.2.2.2.1 u.2.2.2.2.2.2.2.2.2.2.2.2.2.2.2.2.2.2.2.1 u.2.2.2.2.2.2.2.2.2.2.2.2.2.2.2.2.2.2.2.2 f_words) t.heap) A)) (by decide) (Nat.le_of_ble_eq_true rfl) (fun p e s m args below meth c ls A (S : CallFix p m c cX10_item 6 s args GW "RoadThatSingsModel") hE hT hP hD hA hS hr hlocks hname hl => ?_)
  have hS0 := hS
  have hx := S.1
  have hb := S.2.1
  have hl : lv_has ls 6 [(0, .ref a_o)] := hl
  unfold F_X10_item at h
  refine lv_iconst (v := 0) hx hb dX10_item_0 (by decide) ?_
  refine lv_istore_n (lv' := [(1, .int 0), (0, .ref a_o)]) hx hb dX10_item_1 rfl hl (by decide) rfl (fun ls hl => ?_)
  obtain ⟨n, h⟩ := h
  refine w_X10_item_2 S hE hT hA hr hlocks n _ _ _ _ _ _ _ _ _ _ _ _ _ _ _ _ _ _ _ _ _ _ _ _ _ h hP hD hS (lv_sub hl [1, 0] rfl)
/-! X10_fault -/
abbrev wX10_fault (cI cJ cS : ClassId) (a_o : Nat) (z_refused z_steps z_kind z_space z_other z_times z_speed z_base z_share z_notes z_pitch z_beats z_held z_sort z_size z_shown z_cells z_carried z_words z_tell z_was z_kept z_cutSpace z_cutTimes z_cutOff z_trace : Value) (v_stretches : Int32) (v_cars : Int32) (v_tunes : Int32) (v_along : Int32) (v_near : Int32) (v_borne : Int32) (v_tempo : Int32) (v_seed : Int32) (v_fault : Int32) (v_from : Int32) (v_at : Int32) (v_end : Int32) (v_told : Int32) (v_wrongAt : Int32) (v_culprit : Int32) (v_ran : Int32) (v_isKept : Int32) : va_W := [(a_o, .inr (9, [.int v_stretches, .int v_cars, .int v_tunes, .int v_along, .int v_near, .int v_borne, .int v_tempo, .int v_seed, .int v_fault, z_refused, z_steps, z_kind, z_space, z_other, z_times, z_speed, z_base, z_share, z_notes, z_pitch, z_beats, z_held, z_sort, z_size, z_shown, z_cells, z_carried, z_words, z_tell, .int v_from, .int v_at, .int v_end, .int v_told, .int v_wrongAt, z_was, z_kept, .int v_culprit, z_cutSpace, z_cutTimes, z_cutOff, z_trace, .int v_ran, .int v_isKept]))]
def F_X10_fault (v_fault : Int32) (post : Int32 → Prop) : Prop := post v_fault
set_option maxHeartbeats 4000000 in
set_option maxRecDepth 100000 in
theorem c_X10_fault {l : Launch} {D : va_G} {cI cJ cS : ClassId} {ad adK : Nat → Nat} {a_o : Nat} {z_refused z_steps z_kind z_space z_other z_times z_speed z_base z_share z_notes z_pitch z_beats z_held z_sort z_size z_shown z_cells z_carried z_words z_tell z_was z_kept z_cutSpace z_cutTimes z_cutOff z_trace : Value} {v_stretches : Int32} {v_cars : Int32} {v_tunes : Int32} {v_along : Int32} {v_near : Int32} {v_borne : Int32} {v_tempo : Int32} {v_seed : Int32} {v_fault : Int32} {v_from : Int32} {v_at : Int32} {v_end : Int32} {v_told : Int32} {v_wrongAt : Int32} {v_culprit : Int32} {v_ran : Int32} {v_isKept : Int32} {post : Int32 → Prop} (h : F_X10_fault v_fault post) : Met l yX10_fault (Cond.code yX10_fault cX10_fault 1 (some (.int)) :: GW) (rmd 0 0 0) (PR D cI cJ cS ad adK [.ref a_o] (wX10_fault cI cJ cS a_o z_refused z_steps z_kind z_space z_other z_times z_speed z_base z_share z_notes z_pitch z_beats z_held z_sort z_size z_shown z_cells z_carried z_words z_tell z_was z_kept z_cutSpace z_cutTimes z_cutOff z_trace v_stretches v_cars v_tunes v_along v_near v_borne v_tempo v_seed v_fault v_from v_at v_end v_told v_wrongAt v_culprit v_ran v_isKept)) (vp_Si post) 0 0 nof := by
  refine Met.ro (by decide) (Nat.le_of_ble_eq_true rfl) (fun p e s m args below meth c ls (S : CallFix p m c cX10_fault 1 s args GW "RoadThatSingsModel") hE hT hP hS hr hlocks hl => ?_)
  have hx := S.1
  have hb := S.2.1
  have hl : lv_has ls 1 [(0, .ref a_o)] := hl
  unfold F_X10_fault at h
  refine lv_aload_n hx hb dX10_fault_0 rfl (lv_at hl 0 rfl) ?_
  refine gf S hE hP 0 rfl rfl inX10 (k := 8) (by decide) q1101 rfl dX10_fault_1 ?_
  exact W.iret hx hb hr (fun t ht _ => ⟨_, rfl, h, ht⟩) (fun _ hq => by cases hq) dX10_fault_4
/-! X10_humBy -/
abbrev wX10_humBy (cI cJ cS : ClassId) (a_o : Nat) (z_refused z_steps z_kind z_space z_other z_times z_speed z_base z_share z_notes z_pitch z_beats z_held z_sort z_size z_shown z_cells z_carried z_words z_tell z_was z_kept z_cutSpace z_cutTimes z_cutOff z_trace : Value) (v_stretches : Int32) (v_cars : Int32) (v_tunes : Int32) (v_along : Int32) (v_near : Int32) (v_borne : Int32) (v_tempo : Int32) (v_seed : Int32) (v_fault : Int32) (v_from : Int32) (v_at : Int32) (v_end : Int32) (v_told : Int32) (v_wrongAt : Int32) (v_culprit : Int32) (v_ran : Int32) (v_isKept : Int32) : va_W := [(a_o, .inr (9, [.int v_stretches, .int v_cars, .int v_tunes, .int v_along, .int v_near, .int v_borne, .int v_tempo, .int v_seed, .int v_fault, z_refused, z_steps, z_kind, z_space, z_other, z_times, z_speed, z_base, z_share, z_notes, z_pitch, z_beats, z_held, z_sort, z_size, z_shown, z_cells, z_carried, z_words, z_tell, .int v_from, .int v_at, .int v_end, .int v_told, .int v_wrongAt, z_was, z_kept, .int v_culprit, z_cutSpace, z_cutTimes, z_cutOff, z_trace, .int v_ran, .int v_isKept]))]
def F_X10_humBy (x1 : Int32) (x2 : Int32) (post : Int32 → Prop) : Prop := (¬ x1 = 0 ∧ post ((704 * x2) / x1))
set_option maxHeartbeats 4000000 in
set_option maxRecDepth 100000 in
theorem c_X10_humBy {l : Launch} {D : va_G} {cI cJ cS : ClassId} {ad adK : Nat → Nat} {a_o : Nat} {z_refused z_steps z_kind z_space z_other z_times z_speed z_base z_share z_notes z_pitch z_beats z_held z_sort z_size z_shown z_cells z_carried z_words z_tell z_was z_kept z_cutSpace z_cutTimes z_cutOff z_trace : Value} {v_stretches : Int32} {v_cars : Int32} {v_tunes : Int32} {v_along : Int32} {v_near : Int32} {v_borne : Int32} {v_tempo : Int32} {v_seed : Int32} {v_fault : Int32} {v_from : Int32} {v_at : Int32} {v_end : Int32} {v_told : Int32} {v_wrongAt : Int32} {v_culprit : Int32} {v_ran : Int32} {v_isKept : Int32} {x1 : Int32} {x2 : Int32} {post : Int32 → Prop} (h : F_X10_humBy x1 x2 post) : Met l yX10_humBy (Cond.code yX10_humBy cX10_humBy 3 (some (.int)) :: GW) (rmd 0 0 0) (PR D cI cJ cS ad adK [.ref a_o, .int x1, .int x2] (wX10_humBy cI cJ cS a_o z_refused z_steps z_kind z_space z_other z_times z_speed z_base z_share z_notes z_pitch z_beats z_held z_sort z_size z_shown z_cells z_carried z_words z_tell z_was z_kept z_cutSpace z_cutTimes z_cutOff z_trace v_stretches v_cars v_tunes v_along v_near v_borne v_tempo v_seed v_fault v_from v_at v_end v_told v_wrongAt v_culprit v_ran v_isKept)) (vp_Si post) 0 0 nof := by
  refine Met.ro (by decide) (Nat.le_of_ble_eq_true rfl) (fun p e s m args below meth c ls (S : CallFix p m c cX10_humBy 3 s args GW "RoadThatSingsModel") hE hT hP hS hr hlocks hl => ?_)
  have hx := S.1
  have hb := S.2.1
  have hl : lv_has ls 3 [(0, .ref a_o), (1, .int x1), (2, .int x2)] := hl
  unfold F_X10_humBy at h
  refine lv_sipush (v := 704) hx hb dX10_humBy_0 (by decide) ?_
  refine lv_iload_n hx hb dX10_humBy_3 rfl (lv_at hl 2 rfl) ?_
  refine lv_imul hx hb dX10_humBy_4 ?_
  refine lv_iload_n hx hb dX10_humBy_5 rfl (lv_at hl 1 rfl) ?_
  obtain ⟨hz, h⟩ := h
  refine lv_idiv hx hb dX10_humBy_6 hz ?_
  exact W.iret hx hb hr (fun t ht _ => ⟨_, rfl, h, ht⟩) (fun _ hq => by cases hq) dX10_humBy_7
/-! X10_humOf -/
abbrev wX10_humOf (cI cJ cS : ClassId) (a_o a_kind a_other a_space : Nat) (z_refused z_steps z_times z_speed z_base z_share z_notes z_pitch z_beats z_held z_sort z_size z_shown z_cells z_carried z_words z_tell z_was z_kept z_cutSpace z_cutTimes z_cutOff z_trace : Value) (v_stretches : Int32) (v_cars : Int32) (v_tunes : Int32) (v_along : Int32) (v_near : Int32) (v_borne : Int32) (v_tempo : Int32) (v_seed : Int32) (v_fault : Int32) (v_from : Int32) (v_at : Int32) (v_end : Int32) (v_told : Int32) (v_wrongAt : Int32) (v_culprit : Int32) (v_ran : Int32) (v_isKept : Int32) (f_kind : Nat → Int32) (f_other : Nat → Int32) (f_space : Nat → Int32) : va_W := [(a_o, .inr (9, [.int v_stretches, .int v_cars, .int v_tunes, .int v_along, .int v_near, .int v_borne, .int v_tempo, .int v_seed, .int v_fault, z_refused, z_steps, .ref a_kind, .ref a_space, .ref a_other, z_times, z_speed, z_base, z_share, z_notes, z_pitch, z_beats, z_held, z_sort, z_size, z_shown, z_cells, z_carried, z_words, z_tell, .int v_from, .int v_at, .int v_end, .int v_told, .int v_wrongAt, z_was, z_kept, .int v_culprit, z_cutSpace, z_cutTimes, z_cutOff, z_trace, .int v_ran, .int v_isKept])), (a_kind, .inl (cI, 16, .inl f_kind)), (a_other, .inl (cI, 16, .inl f_other)), (a_space, .inl (cI, 16, .inl f_space))]
def F_X10_humOf (f_kind : Nat → Int32) (f_other : Nat → Int32) (f_space : Nat → Int32) (x1 : Int32) (x2 : Int32) (post : Int32 → Prop) : Prop := (vp_in x1 16 ∧ (∀ x3_6 : Int32, x3_6 = f_kind x1.toNatClampNeg → ((x3_6 = 3 → post 0) ∧ (¬ x3_6 = 3 → (F_X10_isTwo x3_6 (fun r16 => ((r16 = 0 → (vp_in x1 16 ∧ (F_X10_humBy (f_space x1.toNatClampNeg) x2 (fun r30 => post r30)))) ∧ (¬ r16 = 0 → (vp_in x1 16 ∧ (vp_in x1 16 ∧ (F_X10_humBy ((f_space x1.toNatClampNeg) + (f_other x1.toNatClampNeg)) x2 (fun r50 => (∀ x4_54 : Int32, x4_54 = 2 * r50 → ((x3_6 = 5 → post (x4_54 / 2)) ∧ (¬ x3_6 = 5 → post x4_54)))))))))))))))
set_option maxHeartbeats 4000000 in
set_option maxRecDepth 100000 in
theorem c_X10_humOf {l : Launch} {D : va_G} {cI cJ cS : ClassId} {ad adK : Nat → Nat} {a_o a_kind a_other a_space : Nat} {z_refused z_steps z_times z_speed z_base z_share z_notes z_pitch z_beats z_held z_sort z_size z_shown z_cells z_carried z_words z_tell z_was z_kept z_cutSpace z_cutTimes z_cutOff z_trace : Value} {v_stretches : Int32} {v_cars : Int32} {v_tunes : Int32} {v_along : Int32} {v_near : Int32} {v_borne : Int32} {v_tempo : Int32} {v_seed : Int32} {v_fault : Int32} {v_from : Int32} {v_at : Int32} {v_end : Int32} {v_told : Int32} {v_wrongAt : Int32} {v_culprit : Int32} {v_ran : Int32} {v_isKept : Int32} {f_kind : Nat → Int32} {f_other : Nat → Int32} {f_space : Nat → Int32} {x1 : Int32} {x2 : Int32} {post : Int32 → Prop} (h : F_X10_humOf f_kind f_other f_space x1 x2 post) : Met l yX10_humOf (Cond.code yX10_humOf cX10_humOf 5 (some (.int)) :: GW) (rmd 1 0 0) (PR D cI cJ cS ad adK [.ref a_o, .int x1, .int x2] (wX10_humOf cI cJ cS a_o a_kind a_other a_space z_refused z_steps z_times z_speed z_base z_share z_notes z_pitch z_beats z_held z_sort z_size z_shown z_cells z_carried z_words z_tell z_was z_kept z_cutSpace z_cutTimes z_cutOff z_trace v_stretches v_cars v_tunes v_along v_near v_borne v_tempo v_seed v_fault v_from v_at v_end v_told v_wrongAt v_culprit v_ran v_isKept f_kind f_other f_space)) (vp_Si post) 0 0 nof := by
  refine Met.ro (by decide) (Nat.le_of_ble_eq_true rfl) (fun p e s m args below meth c ls (S : CallFix p m c cX10_humOf 5 s args GW "RoadThatSingsModel") hE hT hP hS hr hlocks hl => ?_)
  have hx := S.1
  have hb := S.2.1
  have hl : lv_has ls 5 [(0, .ref a_o), (1, .int x1), (2, .int x2)] := hl
  unfold F_X10_humOf at h
  refine lv_aload_n hx hb dX10_humOf_0 rfl (lv_at hl 0 rfl) ?_
  refine gf S hE hP 0 rfl rfl inX10 (k := 11) (by decide) q1104 rfl dX10_humOf_1 ?_
  refine lv_iload_n hx hb dX10_humOf_4 rfl (lv_at hl 1 rfl) ?_
  obtain ⟨hi, h⟩ := h
  refine ial S hE hP 1 rfl hi dX10_humOf_5 ?_
  refine lv_topi (fun x3_6 ex3_6 => ?_)
  have h := h _ ex3_6
  refine lv_istore_n (lv' := [(3, .int x3_6), (0, .ref a_o), (1, .int x1), (2, .int x2)]) hx hb dX10_humOf_6 rfl hl (by decide) rfl (fun ls hl => ?_)
  refine lv_iload_n hx hb dX10_humOf_7 rfl (lv_at hl 0 rfl) ?_
  refine lv_iconst (v := 3) hx hb dX10_humOf_8 (by decide) ?_
  refine lv_icmp_ne (tgt := 14) hx hb dX10_humOf_9 (by decide) (fun hc => ?_) (fun hc => ?_)
  · have h := h.2 hc
    refine lv_aload_n hx hb dX10_humOf_14 rfl (lv_at hl 1 rfl) ?_
    refine lv_iload_n hx hb dX10_humOf_15 rfl (lv_at hl 0 rfl) ?_
    refine ro_i (roV S hE hT hS (c_X10_isTwo h) lkX10_152 rfl ⟨(Nat.le_of_ble_eq_true rfl), (Nat.le_of_ble_eq_true rfl)⟩ (hP.sub [0] rfl) 0 rfl rfl hl.1 rfl (Nat.le_of_ble_eq_true rfl) dX10_humOf_16 ⟨(Nat.zero_le _), (Nat.zero_le _)⟩) (fun r16 h => ?_)
    refine lv_if_ne (tgt := 34) hx hb dX10_humOf_19 (by decide) (fun hc => ?_) (fun hc => ?_)
    · have h := h.2 hc
      refine lv_iconst (v := 2) hx hb dX10_humOf_34 (by decide) ?_
      refine lv_aload_n hx hb dX10_humOf_35 rfl (lv_at hl 1 rfl) ?_
      refine lv_aload_n hx hb dX10_humOf_36 rfl (lv_at hl 1 rfl) ?_
      refine gf S hE hP 0 rfl rfl inX10 (k := 12) (by decide) q1105 rfl dX10_humOf_37 ?_
      refine lv_iload_n hx hb dX10_humOf_40 rfl (lv_at hl 2 rfl) ?_
      obtain ⟨hi, h⟩ := h
      refine ial S hE hP 3 rfl hi dX10_humOf_41 ?_
      refine lv_aload_n hx hb dX10_humOf_42 rfl (lv_at hl 1 rfl) ?_
      refine gf S hE hP 0 rfl rfl inX10 (k := 13) (by decide) q1106 rfl dX10_humOf_43 ?_
      refine lv_iload_n hx hb dX10_humOf_46 rfl (lv_at hl 2 rfl) ?_
      obtain ⟨hi, h⟩ := h
      refine ial S hE hP 2 rfl hi dX10_humOf_47 ?_
      refine lv_iadd hx hb dX10_humOf_48 ?_
      refine lv_iload_n hx hb dX10_humOf_49 rfl (lv_at hl 3 rfl) ?_
      refine ro_i (roV S hE hT hS (c_X10_humBy h) lkX10_229 rfl ⟨(Nat.le_of_ble_eq_true rfl), (Nat.le_of_ble_eq_true rfl)⟩ (hP.sub [0] rfl) 0 rfl rfl hl.1 rfl (Nat.le_of_ble_eq_true rfl) dX10_humOf_50 ⟨(Nat.zero_le _), (Nat.zero_le _)⟩) (fun r50 h => ?_)
      refine lv_imul hx hb dX10_humOf_53 ?_
      refine lv_topi (fun x4_54 ex4_54 => ?_)
      have h := h _ ex4_54
      refine lv_istore (lv' := [(4, .int x4_54), (3, .int x3_6), (0, .ref a_o), (1, .int x1), (2, .int x2)]) hx hb dX10_humOf_54 hl (by decide) rfl (fun ls hl => ?_)
      refine lv_iload_n hx hb dX10_humOf_56 rfl (lv_at hl 1 rfl) ?_
      refine lv_iconst (v := 5) hx hb dX10_humOf_57 (by decide) ?_
      refine lv_icmp_ne (tgt := 68) hx hb dX10_humOf_58 (by decide) (fun hc => ?_) (fun hc => ?_)
      · have h := h.2 hc
        refine lv_iload hx hb dX10_humOf_68 (lv_at hl 0 rfl) ?_
        exact W.iret hx hb hr (fun t ht _ => ⟨_, rfl, h, ht⟩) (fun _ hq => by cases hq) dX10_humOf_70
      have h := h.1 hc
      refine lv_iload hx hb dX10_humOf_61 (lv_at hl 0 rfl) ?_
      refine lv_iconst (v := 2) hx hb dX10_humOf_63 (by decide) ?_
      refine lv_idiv hx hb dX10_humOf_64 (by decide) ?_
      refine lv_goto (tgt := 70) hx hb dX10_humOf_65 (by decide) ?_
      exact W.iret hx hb hr (fun t ht _ => ⟨_, rfl, h, ht⟩) (fun _ hq => by cases hq) dX10_humOf_70
    have h := h.1 hc
    refine lv_aload_n hx hb dX10_humOf_22 rfl (lv_at hl 1 rfl) ?_
    refine lv_aload_n hx hb dX10_humOf_23 rfl (lv_at hl 1 rfl) ?_
    refine gf S hE hP 0 rfl rfl inX10 (k := 12) (by decide) q1105 rfl dX10_humOf_24 ?_
    refine lv_iload_n hx hb dX10_humOf_27 rfl (lv_at hl 2 rfl) ?_
    obtain ⟨hi, h⟩ := h
    refine ial S hE hP 3 rfl hi dX10_humOf_28 ?_
    refine lv_iload_n hx hb dX10_humOf_29 rfl (lv_at hl 3 rfl) ?_
    refine ro_i (roV S hE hT hS (c_X10_humBy h) lkX10_229 rfl ⟨(Nat.le_of_ble_eq_true rfl), (Nat.le_of_ble_eq_true rfl)⟩ (hP.sub [0] rfl) 0 rfl rfl hl.1 rfl (Nat.le_of_ble_eq_true rfl) dX10_humOf_30 ⟨(Nat.zero_le _), (Nat.zero_le _)⟩) (fun r30 h => ?_)
    exact W.iret hx hb hr (fun t ht _ => ⟨_, rfl, h, ht⟩) (fun _ hq => by cases hq) dX10_humOf_33
  have h := h.1 hc
  refine lv_iconst (v := 0) hx hb dX10_humOf_12 (by decide) ?_
  exact W.iret hx hb hr (fun t ht _ => ⟨_, rfl, h, ht⟩) (fun _ hq => by cases hq) dX10_humOf_13
/-! X10_lastsBy -/
abbrev wX10_lastsBy (cI cJ cS : ClassId) (a_o : Nat) (z_refused z_steps z_kind z_space z_other z_times z_speed z_base z_share z_notes z_pitch z_beats z_held z_sort z_size z_shown z_cells z_carried z_words z_tell z_was z_kept z_cutSpace z_cutTimes z_cutOff z_trace : Value) (v_stretches : Int32) (v_cars : Int32) (v_tunes : Int32) (v_along : Int32) (v_near : Int32) (v_borne : Int32) (v_tempo : Int32) (v_seed : Int32) (v_fault : Int32) (v_from : Int32) (v_at : Int32) (v_end : Int32) (v_told : Int32) (v_wrongAt : Int32) (v_culprit : Int32) (v_ran : Int32) (v_isKept : Int32) : va_W := [(a_o, .inr (9, [.int v_stretches, .int v_cars, .int v_tunes, .int v_along, .int v_near, .int v_borne, .int v_tempo, .int v_seed, .int v_fault, z_refused, z_steps, z_kind, z_space, z_other, z_times, z_speed, z_base, z_share, z_notes, z_pitch, z_beats, z_held, z_sort, z_size, z_shown, z_cells, z_carried, z_words, z_tell, .int v_from, .int v_at, .int v_end, .int v_told, .int v_wrongAt, z_was, z_kept, .int v_culprit, z_cutSpace, z_cutTimes, z_cutOff, z_trace, .int v_ran, .int v_isKept]))]
def F_X10_lastsBy (x1 : Int32) (x2 : Int32) (post : Int32 → Prop) : Prop := (¬ (704 * x2) = 0 ∧ post ((x1 * 10000) / (704 * x2)))
set_option maxHeartbeats 4000000 in
set_option maxRecDepth 100000 in
theorem c_X10_lastsBy {l : Launch} {D : va_G} {cI cJ cS : ClassId} {ad adK : Nat → Nat} {a_o : Nat} {z_refused z_steps z_kind z_space z_other z_times z_speed z_base z_share z_notes z_pitch z_beats z_held z_sort z_size z_shown z_cells z_carried z_words z_tell z_was z_kept z_cutSpace z_cutTimes z_cutOff z_trace : Value} {v_stretches : Int32} {v_cars : Int32} {v_tunes : Int32} {v_along : Int32} {v_near : Int32} {v_borne : Int32} {v_tempo : Int32} {v_seed : Int32} {v_fault : Int32} {v_from : Int32} {v_at : Int32} {v_end : Int32} {v_told : Int32} {v_wrongAt : Int32} {v_culprit : Int32} {v_ran : Int32} {v_isKept : Int32} {x1 : Int32} {x2 : Int32} {post : Int32 → Prop} (h : F_X10_lastsBy x1 x2 post) : Met l yX10_lastsBy (Cond.code yX10_lastsBy cX10_lastsBy 3 (some (.int)) :: GW) (rmd 0 0 0) (PR D cI cJ cS ad adK [.ref a_o, .int x1, .int x2] (wX10_lastsBy cI cJ cS a_o z_refused z_steps z_kind z_space z_other z_times z_speed z_base z_share z_notes z_pitch z_beats z_held z_sort z_size z_shown z_cells z_carried z_words z_tell z_was z_kept z_cutSpace z_cutTimes z_cutOff z_trace v_stretches v_cars v_tunes v_along v_near v_borne v_tempo v_seed v_fault v_from v_at v_end v_told v_wrongAt v_culprit v_ran v_isKept)) (vp_Si post) 0 0 nof := by
  refine Met.ro (by decide) (Nat.le_of_ble_eq_true rfl) (fun p e s m args below meth c ls (S : CallFix p m c cX10_lastsBy 3 s args GW "RoadThatSingsModel") hE hT hP hS hr hlocks hl => ?_)
  have hx := S.1
  have hb := S.2.1
  have hl : lv_has ls 3 [(0, .ref a_o), (1, .int x1), (2, .int x2)] := hl
  unfold F_X10_lastsBy at h
  refine lv_iload_n hx hb dX10_lastsBy_0 rfl (lv_at hl 1 rfl) ?_
  refine lv_sipush (v := 10000) hx hb dX10_lastsBy_1 (by decide) ?_
  refine lv_imul hx hb dX10_lastsBy_4 ?_
  refine lv_sipush (v := 704) hx hb dX10_lastsBy_5 (by decide) ?_
  refine lv_iload_n hx hb dX10_lastsBy_8 rfl (lv_at hl 2 rfl) ?_
  refine lv_imul hx hb dX10_lastsBy_9 ?_
  obtain ⟨hz, h⟩ := h
  refine lv_idiv hx hb dX10_lastsBy_10 hz ?_
  exact W.iret hx hb hr (fun t ht _ => ⟨_, rfl, h, ht⟩) (fun _ hq => by cases hq) dX10_lastsBy_11
/-! X10_hum -/
abbrev wX10_hum (cI cJ cS : ClassId) (a_o a_kind a_other a_refused a_space : Nat) (z_steps z_times z_speed z_base z_share z_notes z_pitch z_beats z_held z_sort z_size z_shown z_cells z_carried z_words z_tell z_was z_kept z_cutSpace z_cutTimes z_cutOff z_trace : Value) (v_stretches : Int32) (v_cars : Int32) (v_tunes : Int32) (v_along : Int32) (v_near : Int32) (v_borne : Int32) (v_tempo : Int32) (v_seed : Int32) (v_fault : Int32) (v_from : Int32) (v_at : Int32) (v_end : Int32) (v_told : Int32) (v_wrongAt : Int32) (v_culprit : Int32) (v_ran : Int32) (v_isKept : Int32) (f_kind : Nat → Int32) (f_other : Nat → Int32) (f_refused : Nat → Int32) (f_space : Nat → Int32) : va_W := [(a_o, .inr (9, [.int v_stretches, .int v_cars, .int v_tunes, .int v_along, .int v_near, .int v_borne, .int v_tempo, .int v_seed, .int v_fault, .ref a_refused, z_steps, .ref a_kind, .ref a_space, .ref a_other, z_times, z_speed, z_base, z_share, z_notes, z_pitch, z_beats, z_held, z_sort, z_size, z_shown, z_cells, z_carried, z_words, z_tell, .int v_from, .int v_at, .int v_end, .int v_told, .int v_wrongAt, z_was, z_kept, .int v_culprit, z_cutSpace, z_cutTimes, z_cutOff, z_trace, .int v_ran, .int v_isKept])), (a_kind, .inl (cI, 16, .inl f_kind)), (a_other, .inl (cI, 16, .inl f_other)), (a_refused, .inl (cI, 8, .inl f_refused)), (a_space, .inl (cI, 16, .inl f_space))]
def F_X10_hum (v_stretches : Int32) (f_kind : Nat → Int32) (f_other : Nat → Int32) (f_refused : Nat → Int32) (f_space : Nat → Int32) (x1 : Int32) (x2 : Int32) (post : Int32 → (Nat → Int32) → Prop) : Prop := (F_X10_isStretch v_stretches x1 (fun r2 => ((r2 = 0 → (F_X10_no f_refused (-1) (fun r10 w10_0 => post r10 w10_0))) ∧ (¬ r2 = 0 → (F_X10_isSpeed x2 (fun r16 => ((r16 = 0 → (F_X10_no f_refused (-6) (fun r34 w34_0 => post r34 w34_0))) ∧ (¬ r16 = 0 → (F_X10_humOf f_kind f_other f_space x1 x2 (fun r25 => post r25 f_refused))))))))))
set_option maxHeartbeats 4000000 in
set_option maxRecDepth 100000 in
theorem c_X10_hum {l : Launch} {D : va_G} {cI cJ cS : ClassId} {ad adK : Nat → Nat} {a_o a_kind a_other a_refused a_space : Nat} {z_steps z_times z_speed z_base z_share z_notes z_pitch z_beats z_held z_sort z_size z_shown z_cells z_carried z_words z_tell z_was z_kept z_cutSpace z_cutTimes z_cutOff z_trace : Value} {v_stretches : Int32} {v_cars : Int32} {v_tunes : Int32} {v_along : Int32} {v_near : Int32} {v_borne : Int32} {v_tempo : Int32} {v_seed : Int32} {v_fault : Int32} {v_from : Int32} {v_at : Int32} {v_end : Int32} {v_told : Int32} {v_wrongAt : Int32} {v_culprit : Int32} {v_ran : Int32} {v_isKept : Int32} {f_kind : Nat → Int32} {f_other : Nat → Int32} {f_refused : Nat → Int32} {f_space : Nat → Int32} {x1 : Int32} {x2 : Int32} {post : Int32 → (Nat → Int32) → Prop} (h : F_X10_hum v_stretches f_kind f_other f_refused f_space x1 x2 post) {sz : Nat} : Met l yX10_hum (Cond.code yX10_hum cX10_hum 3 (some (.int)) :: GW) (rmd 2 0 0) (PW D cI cJ cS ad adK [.ref a_o, .int x1, .int x2] (wX10_hum cI cJ cS a_o a_kind a_other a_refused a_space z_steps z_times z_speed z_base z_share z_notes z_pitch z_beats z_held z_sort z_size z_shown z_cells z_carried z_words z_tell z_was z_kept z_cutSpace z_cutTimes z_cutOff z_trace v_stretches v_cars v_tunes v_along v_near v_borne v_tempo v_seed v_fault v_from v_at v_end v_told v_wrongAt v_culprit v_ran v_isKept f_kind f_other f_refused f_space) sz) (va_Qi (fun r (u : (Nat → Int32)) => post r u) (fun u t => va_P D vwCl (wX10_hum cI cJ cS a_o a_kind a_other a_refused a_space z_steps z_times z_speed z_base z_share z_notes z_pitch z_beats z_held z_sort z_size z_shown z_cells z_carried z_words z_tell z_was z_kept z_cutSpace z_cutTimes z_cutOff z_trace v_stretches v_cars v_tunes v_along v_near v_borne v_tempo v_seed v_fault v_from v_at v_end v_told v_wrongAt v_culprit v_ran v_isKept f_kind f_other u f_space) t.heap) (va_A (wX10_hum cI cJ cS a_o a_kind a_other a_refused a_space z_steps z_times z_speed z_base z_share z_notes z_pitch z_beats z_held z_sort z_size z_shown z_cells z_carried z_words z_tell z_was z_kept z_cutSpace z_cutTimes z_cutOff z_trace v_stretches v_cars v_tunes v_along v_near v_borne v_tempo v_seed v_fault v_from v_at v_end v_told v_wrongAt v_culprit v_ran v_isKept f_kind f_other f_refused f_space) sz)) 0 0 (va_A (wX10_hum cI cJ cS a_o a_kind a_other a_refused a_space z_steps z_times z_speed z_base z_share z_notes z_pitch z_beats z_held z_sort z_size z_shown z_cells z_carried z_words z_tell z_was z_kept z_cutSpace z_cutTimes z_cutOff z_trace v_stretches v_cars v_tunes v_along v_near v_borne v_tempo v_seed v_fault v_from v_at v_end v_told v_wrongAt v_culprit v_ran v_isKept f_kind f_other f_refused f_space) sz) := by
  refine Met.rw (Qc := fun A => (va_Qi (fun r (u : (Nat → Int32)) => post r u) (fun u t => va_P D vwCl (wX10_hum cI cJ cS a_o a_kind a_other a_refused a_space z_steps z_times z_speed z_base z_share z_notes z_pitch z_beats z_held z_sort z_size z_shown z_cells z_carried z_words z_tell z_was z_kept z_cutSpace z_cutTimes z_cutOff z_trace v_stretches v_cars v_tunes v_along v_near v_borne v_tempo v_seed v_fault v_from v_at v_end v_told v_wrongAt v_culprit v_ran v_isKept f_kind f_other u f_space) t.heap) A)) (by decide) (Nat.le_of_ble_eq_true rfl) (fun p e s m args below meth c ls A (S : CallFix p m c cX10_hum 3 s args GW "RoadThatSingsModel") hE hT hP hD hA hS hr hlocks hname hl => ?_)
  have hS0 := hS
  have hx := S.1
  have hb := S.2.1
  have hl : lv_has ls 3 [(0, .ref a_o), (1, .int x1), (2, .int x2)] := hl
  unfold F_X10_hum at h
  refine lv_aload_n hx hb dX10_hum_0 rfl (lv_at hl 0 rfl) ?_
  refine lv_iload_n hx hb dX10_hum_1 rfl (lv_at hl 1 rfl) ?_
  refine ro_i (roV S hE hT hS (c_X10_isStretch h) lkX10_125 rfl ⟨(Nat.le_of_ble_eq_true rfl), (Nat.le_of_ble_eq_true rfl)⟩ (hP.sub [0] rfl) 0 rfl rfl hl.1 rfl (Nat.le_of_ble_eq_true rfl) dX10_hum_2 ⟨(Nat.zero_le _), (Nat.zero_le _)⟩) (fun r2 h => ?_)
  refine lv_if_ne (tgt := 14) hx hb dX10_hum_5 (by decide) (fun hc => ?_) (fun hc => ?_)
  · have h := h.2 hc
    refine lv_aload_n hx hb dX10_hum_14 rfl (lv_at hl 0 rfl) ?_
    refine lv_iload_n hx hb dX10_hum_15 rfl (lv_at hl 2 rfl) ?_
    refine ro_i (roV S hE hT hS (c_X10_isSpeed h) lkX10_155 rfl ⟨(Nat.le_of_ble_eq_true rfl), (Nat.le_of_ble_eq_true rfl)⟩ (hP.sub [0] rfl) 0 rfl rfl hl.1 rfl (Nat.le_of_ble_eq_true rfl) dX10_hum_16 ⟨(Nat.zero_le _), (Nat.zero_le _)⟩) (fun r16 h => ?_)
    refine lv_if_eq (tgt := 31) hx hb dX10_hum_19 (by decide) (fun hc => ?_) (fun hc => ?_)
    · have h := h.1 hc
      refine lv_aload_n hx hb dX10_hum_31 rfl (lv_at hl 0 rfl) ?_
      refine lv_bipush (v := (-6)) hx hb dX10_hum_32 (by decide) ?_
      refine rw_i (rwV S hE hT hS hP hD hA (c_X10_no h) [0, 3] rfl (by decide) lkX10_121 rfl ⟨(Nat.le_of_ble_eq_true rfl), (Nat.le_of_ble_eq_true rfl)⟩ 0 rfl rfl hl.1 rfl (Nat.le_of_ble_eq_true rfl) dX10_hum_34 ⟨(Nat.zero_le _), (Nat.zero_le _)⟩) hP hD hS hA [0, 3] rfl (by decide) (fun _ => rfl) (fun r34 w34_0 H locs h hP hD hS => ?_)
      try dsimp only at h
      have hP : va_P D vwCl (wX10_hum cI cJ cS a_o a_kind a_other a_refused a_space z_steps z_times z_speed z_base z_share z_notes z_pitch z_beats z_held z_sort z_size z_shown z_cells z_carried z_words z_tell z_was z_kept z_cutSpace z_cutTimes z_cutOff z_trace v_stretches v_cars v_tunes v_along v_near v_borne v_tempo v_seed v_fault v_from v_at v_end v_told v_wrongAt v_culprit v_ran v_isKept f_kind f_other w34_0 f_space) H := hP
      have hD : va_D A (wX10_hum cI cJ cS a_o a_kind a_other a_refused a_space z_steps z_times z_speed z_base z_share z_notes z_pitch z_beats z_held z_sort z_size z_shown z_cells z_carried z_words z_tell z_was z_kept z_cutSpace z_cutTimes z_cutOff z_trace v_stretches v_cars v_tunes v_along v_near v_borne v_tempo v_seed v_fault v_from v_at v_end v_told v_wrongAt v_culprit v_ran v_isKept f_kind f_other w34_0 f_space) := hD
      exact W.iret hx hb hr (fun t ht _ => ⟨⟨_, w34_0, rfl, h, hPt hP ht⟩, hS.F ht⟩) hS.2.2 dX10_hum_37
    have h := h.2 hc
    refine lv_aload_n hx hb dX10_hum_22 rfl (lv_at hl 0 rfl) ?_
    refine lv_iload_n hx hb dX10_hum_23 rfl (lv_at hl 1 rfl) ?_
    refine lv_iload_n hx hb dX10_hum_24 rfl (lv_at hl 2 rfl) ?_
    refine ro_i (roV S hE hT hS (c_X10_humOf h) lkX10_232 rfl ⟨(Nat.le_of_ble_eq_true rfl), (Nat.le_of_ble_eq_true rfl)⟩ (hP.sub [0, 1, 2, 4] rfl) 0 rfl rfl hl.1 rfl (Nat.le_of_ble_eq_true rfl) dX10_hum_25 ⟨(Nat.zero_le _), (Nat.zero_le _)⟩) (fun r25 h => ?_)
    refine lv_goto (tgt := 37) hx hb dX10_hum_28 (by decide) ?_
    exact W.iret hx hb hr (fun t ht _ => ⟨⟨_, f_refused, rfl, h, hPt hP ht⟩, hS.F ht⟩) hS.2.2 dX10_hum_37
  have h := h.1 hc
  refine lv_aload_n hx hb dX10_hum_8 rfl (lv_at hl 0 rfl) ?_
  refine lv_iconst (v := (-1)) hx hb dX10_hum_9 (by decide) ?_
  refine rw_i (rwV S hE hT hS hP hD hA (c_X10_no h) [0, 3] rfl (by decide) lkX10_121 rfl ⟨(Nat.le_of_ble_eq_true rfl), (Nat.le_of_ble_eq_true rfl)⟩ 0 rfl rfl hl.1 rfl (Nat.le_of_ble_eq_true rfl) dX10_hum_10 ⟨(Nat.zero_le _), (Nat.zero_le _)⟩) hP hD hS hA [0, 3] rfl (by decide) (fun _ => rfl) (fun r10 w10_0 H locs h hP hD hS => ?_)
  try dsimp only at h
  have hP : va_P D vwCl (wX10_hum cI cJ cS a_o a_kind a_other a_refused a_space z_steps z_times z_speed z_base z_share z_notes z_pitch z_beats z_held z_sort z_size z_shown z_cells z_carried z_words z_tell z_was z_kept z_cutSpace z_cutTimes z_cutOff z_trace v_stretches v_cars v_tunes v_along v_near v_borne v_tempo v_seed v_fault v_from v_at v_end v_told v_wrongAt v_culprit v_ran v_isKept f_kind f_other w10_0 f_space) H := hP
  have hD : va_D A (wX10_hum cI cJ cS a_o a_kind a_other a_refused a_space z_steps z_times z_speed z_base z_share z_notes z_pitch z_beats z_held z_sort z_size z_shown z_cells z_carried z_words z_tell z_was z_kept z_cutSpace z_cutTimes z_cutOff z_trace v_stretches v_cars v_tunes v_along v_near v_borne v_tempo v_seed v_fault v_from v_at v_end v_told v_wrongAt v_culprit v_ran v_isKept f_kind f_other w10_0 f_space) := hD
  exact W.iret hx hb hr (fun t ht _ => ⟨⟨_, w10_0, rfl, h, hPt hP ht⟩, hS.F ht⟩) hS.2.2 dX10_hum_13
/-! X10_lasts -/
abbrev wX10_lasts (cI cJ cS : ClassId) (a_o a_kind a_other a_refused a_space a_times : Nat) (z_steps z_speed z_base z_share z_notes z_pitch z_beats z_held z_sort z_size z_shown z_cells z_carried z_words z_tell z_was z_kept z_cutSpace z_cutTimes z_cutOff z_trace : Value) (v_stretches : Int32) (v_cars : Int32) (v_tunes : Int32) (v_along : Int32) (v_near : Int32) (v_borne : Int32) (v_tempo : Int32) (v_seed : Int32) (v_fault : Int32) (v_from : Int32) (v_at : Int32) (v_end : Int32) (v_told : Int32) (v_wrongAt : Int32) (v_culprit : Int32) (v_ran : Int32) (v_isKept : Int32) (f_kind : Nat → Int32) (f_other : Nat → Int32) (f_refused : Nat → Int32) (f_space : Nat → Int32) (f_times : Nat → Int32) : va_W := [(a_o, .inr (9, [.int v_stretches, .int v_cars, .int v_tunes, .int v_along, .int v_near, .int v_borne, .int v_tempo, .int v_seed, .int v_fault, .ref a_refused, z_steps, .ref a_kind, .ref a_space, .ref a_other, .ref a_times, z_speed, z_base, z_share, z_notes, z_pitch, z_beats, z_held, z_sort, z_size, z_shown, z_cells, z_carried, z_words, z_tell, .int v_from, .int v_at, .int v_end, .int v_told, .int v_wrongAt, z_was, z_kept, .int v_culprit, z_cutSpace, z_cutTimes, z_cutOff, z_trace, .int v_ran, .int v_isKept])), (a_kind, .inl (cI, 16, .inl f_kind)), (a_other, .inl (cI, 16, .inl f_other)), (a_refused, .inl (cI, 8, .inl f_refused)), (a_space, .inl (cI, 16, .inl f_space)), (a_times, .inl (cI, 16, .inl f_times))]
def F_X10_lasts (v_stretches : Int32) (f_kind : Nat → Int32) (f_other : Nat → Int32) (f_refused : Nat → Int32) (f_space : Nat → Int32) (f_times : Nat → Int32) (x1 : Int32) (x2 : Int32) (post : Int32 → (Nat → Int32) → Prop) : Prop := (F_X10_isStretch v_stretches x1 (fun r2 => ((r2 = 0 → (F_X10_no f_refused (-1) (fun r10 w10_0 => post r10 w10_0))) ∧ (¬ r2 = 0 → (F_X10_isSpeed x2 (fun r16 => ((r16 = 0 → (F_X10_no f_refused (-6) (fun r38 w38_0 => post r38 w38_0))) ∧ (¬ r16 = 0 → (F_X10_lengthOf f_kind f_other f_space f_times x1 (fun r25 => (F_X10_lastsBy r25 x2 (fun r29 => post r29 f_refused))))))))))))
set_option maxHeartbeats 4000000 in
set_option maxRecDepth 100000 in
theorem c_X10_lasts {l : Launch} {D : va_G} {cI cJ cS : ClassId} {ad adK : Nat → Nat} {a_o a_kind a_other a_refused a_space a_times : Nat} {z_steps z_speed z_base z_share z_notes z_pitch z_beats z_held z_sort z_size z_shown z_cells z_carried z_words z_tell z_was z_kept z_cutSpace z_cutTimes z_cutOff z_trace : Value} {v_stretches : Int32} {v_cars : Int32} {v_tunes : Int32} {v_along : Int32} {v_near : Int32} {v_borne : Int32} {v_tempo : Int32} {v_seed : Int32} {v_fault : Int32} {v_from : Int32} {v_at : Int32} {v_end : Int32} {v_told : Int32} {v_wrongAt : Int32} {v_culprit : Int32} {v_ran : Int32} {v_isKept : Int32} {f_kind : Nat → Int32} {f_other : Nat → Int32} {f_refused : Nat → Int32} {f_space : Nat → Int32} {f_times : Nat → Int32} {x1 : Int32} {x2 : Int32} {post : Int32 → (Nat → Int32) → Prop} (h : F_X10_lasts v_stretches f_kind f_other f_refused f_space f_times x1 x2 post) {sz : Nat} : Met l yX10_lasts (Cond.code yX10_lasts cX10_lasts 3 (some (.int)) :: GW) (rmd 2 0 0) (PW D cI cJ cS ad adK [.ref a_o, .int x1, .int x2] (wX10_lasts cI cJ cS a_o a_kind a_other a_refused a_space a_times z_steps z_speed z_base z_share z_notes z_pitch z_beats z_held z_sort z_size z_shown z_cells z_carried z_words z_tell z_was z_kept z_cutSpace z_cutTimes z_cutOff z_trace v_stretches v_cars v_tunes v_along v_near v_borne v_tempo v_seed v_fault v_from v_at v_end v_told v_wrongAt v_culprit v_ran v_isKept f_kind f_other f_refused f_space f_times) sz) (va_Qi (fun r (u : (Nat → Int32)) => post r u) (fun u t => va_P D vwCl (wX10_lasts cI cJ cS a_o a_kind a_other a_refused a_space a_times z_steps z_speed z_base z_share z_notes z_pitch z_beats z_held z_sort z_size z_shown z_cells z_carried z_words z_tell z_was z_kept z_cutSpace z_cutTimes z_cutOff z_trace v_stretches v_cars v_tunes v_along v_near v_borne v_tempo v_seed v_fault v_from v_at v_end v_told v_wrongAt v_culprit v_ran v_isKept f_kind f_other u f_space f_times) t.heap) (va_A (wX10_lasts cI cJ cS a_o a_kind a_other a_refused a_space a_times z_steps z_speed z_base z_share z_notes z_pitch z_beats z_held z_sort z_size z_shown z_cells z_carried z_words z_tell z_was z_kept z_cutSpace z_cutTimes z_cutOff z_trace v_stretches v_cars v_tunes v_along v_near v_borne v_tempo v_seed v_fault v_from v_at v_end v_told v_wrongAt v_culprit v_ran v_isKept f_kind f_other f_refused f_space f_times) sz)) 0 0 (va_A (wX10_lasts cI cJ cS a_o a_kind a_other a_refused a_space a_times z_steps z_speed z_base z_share z_notes z_pitch z_beats z_held z_sort z_size z_shown z_cells z_carried z_words z_tell z_was z_kept z_cutSpace z_cutTimes z_cutOff z_trace v_stretches v_cars v_tunes v_along v_near v_borne v_tempo v_seed v_fault v_from v_at v_end v_told v_wrongAt v_culprit v_ran v_isKept f_kind f_other f_refused f_space f_times) sz) := by
  refine Met.rw (Qc := fun A => (va_Qi (fun r (u : (Nat → Int32)) => post r u) (fun u t => va_P D vwCl (wX10_lasts cI cJ cS a_o a_kind a_other a_refused a_space a_times z_steps z_speed z_base z_share z_notes z_pitch z_beats z_held z_sort z_size z_shown z_cells z_carried z_words z_tell z_was z_kept z_cutSpace z_cutTimes z_cutOff z_trace v_stretches v_cars v_tunes v_along v_near v_borne v_tempo v_seed v_fault v_from v_at v_end v_told v_wrongAt v_culprit v_ran v_isKept f_kind f_other u f_space f_times) t.heap) A)) (by decide) (Nat.le_of_ble_eq_true rfl) (fun p e s m args below meth c ls A (S : CallFix p m c cX10_lasts 3 s args GW "RoadThatSingsModel") hE hT hP hD hA hS hr hlocks hname hl => ?_)
  have hS0 := hS
  have hx := S.1
  have hb := S.2.1
  have hl : lv_has ls 3 [(0, .ref a_o), (1, .int x1), (2, .int x2)] := hl
  unfold F_X10_lasts at h
  refine lv_aload_n hx hb dX10_lasts_0 rfl (lv_at hl 0 rfl) ?_
  refine lv_iload_n hx hb dX10_lasts_1 rfl (lv_at hl 1 rfl) ?_
  refine ro_i (roV S hE hT hS (c_X10_isStretch h) lkX10_125 rfl ⟨(Nat.le_of_ble_eq_true rfl), (Nat.le_of_ble_eq_true rfl)⟩ (hP.sub [0] rfl) 0 rfl rfl hl.1 rfl (Nat.le_of_ble_eq_true rfl) dX10_lasts_2 ⟨(Nat.zero_le _), (Nat.zero_le _)⟩) (fun r2 h => ?_)
  refine lv_if_ne (tgt := 14) hx hb dX10_lasts_5 (by decide) (fun hc => ?_) (fun hc => ?_)
  · have h := h.2 hc
    refine lv_aload_n hx hb dX10_lasts_14 rfl (lv_at hl 0 rfl) ?_
    refine lv_iload_n hx hb dX10_lasts_15 rfl (lv_at hl 2 rfl) ?_
    refine ro_i (roV S hE hT hS (c_X10_isSpeed h) lkX10_155 rfl ⟨(Nat.le_of_ble_eq_true rfl), (Nat.le_of_ble_eq_true rfl)⟩ (hP.sub [0] rfl) 0 rfl rfl hl.1 rfl (Nat.le_of_ble_eq_true rfl) dX10_lasts_16 ⟨(Nat.zero_le _), (Nat.zero_le _)⟩) (fun r16 h => ?_)
    refine lv_if_eq (tgt := 35) hx hb dX10_lasts_19 (by decide) (fun hc => ?_) (fun hc => ?_)
    · have h := h.1 hc
      refine lv_aload_n hx hb dX10_lasts_35 rfl (lv_at hl 0 rfl) ?_
      refine lv_bipush (v := (-6)) hx hb dX10_lasts_36 (by decide) ?_
      refine rw_i (rwV S hE hT hS hP hD hA (c_X10_no h) [0, 3] rfl (by decide) lkX10_121 rfl ⟨(Nat.le_of_ble_eq_true rfl), (Nat.le_of_ble_eq_true rfl)⟩ 0 rfl rfl hl.1 rfl (Nat.le_of_ble_eq_true rfl) dX10_lasts_38 ⟨(Nat.zero_le _), (Nat.zero_le _)⟩) hP hD hS hA [0, 3] rfl (by decide) (fun _ => rfl) (fun r38 w38_0 H locs h hP hD hS => ?_)
      try dsimp only at h
      have hP : va_P D vwCl (wX10_lasts cI cJ cS a_o a_kind a_other a_refused a_space a_times z_steps z_speed z_base z_share z_notes z_pitch z_beats z_held z_sort z_size z_shown z_cells z_carried z_words z_tell z_was z_kept z_cutSpace z_cutTimes z_cutOff z_trace v_stretches v_cars v_tunes v_along v_near v_borne v_tempo v_seed v_fault v_from v_at v_end v_told v_wrongAt v_culprit v_ran v_isKept f_kind f_other w38_0 f_space f_times) H := hP
      have hD : va_D A (wX10_lasts cI cJ cS a_o a_kind a_other a_refused a_space a_times z_steps z_speed z_base z_share z_notes z_pitch z_beats z_held z_sort z_size z_shown z_cells z_carried z_words z_tell z_was z_kept z_cutSpace z_cutTimes z_cutOff z_trace v_stretches v_cars v_tunes v_along v_near v_borne v_tempo v_seed v_fault v_from v_at v_end v_told v_wrongAt v_culprit v_ran v_isKept f_kind f_other w38_0 f_space f_times) := hD
      exact W.iret hx hb hr (fun t ht _ => ⟨⟨_, w38_0, rfl, h, hPt hP ht⟩, hS.F ht⟩) hS.2.2 dX10_lasts_41
    have h := h.2 hc
    refine lv_aload_n hx hb dX10_lasts_22 rfl (lv_at hl 0 rfl) ?_
    refine lv_aload_n hx hb dX10_lasts_23 rfl (lv_at hl 0 rfl) ?_
    refine lv_iload_n hx hb dX10_lasts_24 rfl (lv_at hl 1 rfl) ?_
    refine ro_i (roV S hE hT hS (c_X10_lengthOf h) lkX10_131 rfl ⟨(Nat.le_of_ble_eq_true rfl), (Nat.le_of_ble_eq_true rfl)⟩ (hP.sub [0, 1, 2, 4, 5] rfl) 0 rfl rfl hl.1 rfl (Nat.le_of_ble_eq_true rfl) dX10_lasts_25 ⟨(Nat.zero_le _), (Nat.zero_le _)⟩) (fun r25 h => ?_)
    refine lv_iload_n hx hb dX10_lasts_28 rfl (lv_at hl 2 rfl) ?_
    refine ro_i (roV S hE hT hS (c_X10_lastsBy h) lkX10_235 rfl ⟨(Nat.le_of_ble_eq_true rfl), (Nat.le_of_ble_eq_true rfl)⟩ (hP.sub [0] rfl) 0 rfl rfl hl.1 rfl (Nat.le_of_ble_eq_true rfl) dX10_lasts_29 ⟨(Nat.zero_le _), (Nat.zero_le _)⟩) (fun r29 h => ?_)
    refine lv_goto (tgt := 41) hx hb dX10_lasts_32 (by decide) ?_
    exact W.iret hx hb hr (fun t ht _ => ⟨⟨_, f_refused, rfl, h, hPt hP ht⟩, hS.F ht⟩) hS.2.2 dX10_lasts_41
  have h := h.1 hc
  refine lv_aload_n hx hb dX10_lasts_8 rfl (lv_at hl 0 rfl) ?_
  refine lv_iconst (v := (-1)) hx hb dX10_lasts_9 (by decide) ?_
  refine rw_i (rwV S hE hT hS hP hD hA (c_X10_no h) [0, 3] rfl (by decide) lkX10_121 rfl ⟨(Nat.le_of_ble_eq_true rfl), (Nat.le_of_ble_eq_true rfl)⟩ 0 rfl rfl hl.1 rfl (Nat.le_of_ble_eq_true rfl) dX10_lasts_10 ⟨(Nat.zero_le _), (Nat.zero_le _)⟩) hP hD hS hA [0, 3] rfl (by decide) (fun _ => rfl) (fun r10 w10_0 H locs h hP hD hS => ?_)
  try dsimp only at h
  have hP : va_P D vwCl (wX10_lasts cI cJ cS a_o a_kind a_other a_refused a_space a_times z_steps z_speed z_base z_share z_notes z_pitch z_beats z_held z_sort z_size z_shown z_cells z_carried z_words z_tell z_was z_kept z_cutSpace z_cutTimes z_cutOff z_trace v_stretches v_cars v_tunes v_along v_near v_borne v_tempo v_seed v_fault v_from v_at v_end v_told v_wrongAt v_culprit v_ran v_isKept f_kind f_other w10_0 f_space f_times) H := hP
  have hD : va_D A (wX10_lasts cI cJ cS a_o a_kind a_other a_refused a_space a_times z_steps z_speed z_base z_share z_notes z_pitch z_beats z_held z_sort z_size z_shown z_cells z_carried z_words z_tell z_was z_kept z_cutSpace z_cutTimes z_cutOff z_trace v_stretches v_cars v_tunes v_along v_near v_borne v_tempo v_seed v_fault v_from v_at v_end v_told v_wrongAt v_culprit v_ran v_isKept f_kind f_other w10_0 f_space f_times) := hD
  exact W.iret hx hb hr (fun t ht _ => ⟨⟨_, w10_0, rfl, h, hPt hP ht⟩, hS.F ht⟩) hS.2.2 dX10_lasts_13
/-! X10_loudOf -/
abbrev wX10_loudOf (cI cJ cS : ClassId) (a_o a_kind : Nat) (z_refused z_steps z_space z_other z_times z_speed z_base z_share z_notes z_pitch z_beats z_held z_sort z_size z_shown z_cells z_carried z_words z_tell z_was z_kept z_cutSpace z_cutTimes z_cutOff z_trace : Value) (v_stretches : Int32) (v_cars : Int32) (v_tunes : Int32) (v_along : Int32) (v_near : Int32) (v_borne : Int32) (v_tempo : Int32) (v_seed : Int32) (v_fault : Int32) (v_from : Int32) (v_at : Int32) (v_end : Int32) (v_told : Int32) (v_wrongAt : Int32) (v_culprit : Int32) (v_ran : Int32) (v_isKept : Int32) (f_kind : Nat → Int32) : va_W := [(a_o, .inr (9, [.int v_stretches, .int v_cars, .int v_tunes, .int v_along, .int v_near, .int v_borne, .int v_tempo, .int v_seed, .int v_fault, z_refused, z_steps, .ref a_kind, z_space, z_other, z_times, z_speed, z_base, z_share, z_notes, z_pitch, z_beats, z_held, z_sort, z_size, z_shown, z_cells, z_carried, z_words, z_tell, .int v_from, .int v_at, .int v_end, .int v_told, .int v_wrongAt, z_was, z_kept, .int v_culprit, z_cutSpace, z_cutTimes, z_cutOff, z_trace, .int v_ran, .int v_isKept])), (a_kind, .inl (cI, 16, .inl f_kind))]
def F_X10_loudOf_46 (post : Int32 → Prop) (x2 : Int32) (s0 : Int32) : Prop := (∀ x3_52 : Int32, x3_52 = s0 - (x2 / 5) → ((0 ≤ x3_52 → post x3_52) ∧ (¬ 0 ≤ x3_52 → post 0)))
def F_X10_loudOf (f_kind : Nat → Int32) (x1 : Int32) (x2 : Int32) (post : Int32 → Prop) : Prop := (vp_in x1 16 ∧ (((f_kind x1.toNatClampNeg) = 3 → F_X10_loudOf_46 post x2 0) ∧ (¬ (f_kind x1.toNatClampNeg) = 3 → (vp_in x1 16 ∧ (((f_kind x1.toNatClampNeg) = 4 → F_X10_loudOf_46 post x2 15) ∧ (¬ (f_kind x1.toNatClampNeg) = 4 → (vp_in x1 16 ∧ (((f_kind x1.toNatClampNeg) = 5 → F_X10_loudOf_46 post x2 8) ∧ (¬ (f_kind x1.toNatClampNeg) = 5 → F_X10_loudOf_46 post x2 10)))))))))
set_option maxHeartbeats 4000000 in
set_option maxRecDepth 100000 in
theorem w_X10_loudOf_46 {l : Launch} {D : va_G} {cI cJ cS : ClassId} {ad adK : Nat → Nat} {a_o a_kind : Nat} {z_refused z_steps z_space z_other z_times z_speed z_base z_share z_notes z_pitch z_beats z_held z_sort z_size z_shown z_cells z_carried z_words z_tell z_was z_kept z_cutSpace z_cutTimes z_cutOff z_trace : Value} {v_stretches : Int32} {v_cars : Int32} {v_tunes : Int32} {v_along : Int32} {v_near : Int32} {v_borne : Int32} {v_tempo : Int32} {v_seed : Int32} {v_fault : Int32} {v_from : Int32} {v_at : Int32} {v_end : Int32} {v_told : Int32} {v_wrongAt : Int32} {v_culprit : Int32} {v_ran : Int32} {v_isKept : Int32} {f_kind : Nat → Int32} {x2 : Int32} {s0 : Int32} {post : Int32 → Prop} {p : Program} {e : Env} {s : State} {m : MethodId} {args : Array Value} {below : List Frame} {meth : Method} {c : Code} (S : CallFix p m c cX10_loudOf 4 s args GW "RoadThatSingsModel") (hE : EN D cI cJ cS s) (hT : ST ad adK nof s s.heap) (hP : va_P D vwCl (wX10_loudOf cI cJ cS a_o a_kind z_refused z_steps z_space z_other z_times z_speed z_base z_share z_notes z_pitch z_beats z_held z_sort z_size z_shown z_cells z_carried z_words z_tell z_was z_kept z_cutSpace z_cutTimes z_cutOff z_trace v_stretches v_cars v_tunes v_along v_near v_borne v_tempo v_seed v_fault v_from v_at v_end v_told v_wrongAt v_culprit v_ran v_isKept f_kind) s.heap) (hS : va_S nof s.heap s.heap []) (hr : meth.sig.returnType = (some (.int))) (hlocks : meth.locks = false) : ∀ (ls : Array Slot), F_X10_loudOf_46 post x2 s0 → lv_has ls 4 [(2, .int x2)] → W p l e (rmd 0 0 0) s m args below meth c s.heap [] 0 0 (MQ below (vp_Si post) args s 0 0 nof) (F0 m 46 ls [.int s0]) := by
  intro  ls h hl
  unfold F_X10_loudOf_46 at h
  have hx := S.1
  have hb := S.2.1
  refine lv_istore_n (lv' := [(3, .int s0), (2, .int x2)]) hx hb dX10_loudOf_46 rfl hl (by decide) rfl (fun ls hl => ?_)
  refine lv_iload_n hx hb dX10_loudOf_47 rfl (lv_at hl 0 rfl) ?_
  refine lv_iload_n hx hb dX10_loudOf_48 rfl (lv_at hl 1 rfl) ?_
  refine lv_iconst (v := 5) hx hb dX10_loudOf_49 (by decide) ?_
  refine lv_idiv hx hb dX10_loudOf_50 (by decide) ?_
  refine lv_isub hx hb dX10_loudOf_51 ?_
  refine lv_topi (fun x3_52 ex3_52 => ?_)
  have h := h _ ex3_52
  refine lv_istore_n (lv' := [(3, .int x3_52), (2, .int x2)]) hx hb dX10_loudOf_52 rfl hl (by decide) rfl (fun ls hl => ?_)
  refine lv_iload_n hx hb dX10_loudOf_53 rfl (lv_at hl 0 rfl) ?_
  refine lv_if_ge (tgt := 61) hx hb dX10_loudOf_54 (by decide) (fun hc => ?_) (fun hc => ?_)
  · have h := h.1 hc
    refine lv_iload_n hx hb dX10_loudOf_61 rfl (lv_at hl 0 rfl) ?_
    exact W.iret hx hb hr (fun t ht _ => ⟨_, rfl, h, ht⟩) (fun _ hq => by cases hq) dX10_loudOf_62
  have h := h.2 hc
  refine lv_iconst (v := 0) hx hb dX10_loudOf_57 (by decide) ?_
  refine lv_goto (tgt := 62) hx hb dX10_loudOf_58 (by decide) ?_
  exact W.iret hx hb hr (fun t ht _ => ⟨_, rfl, h, ht⟩) (fun _ hq => by cases hq) dX10_loudOf_62
set_option maxHeartbeats 4000000 in
set_option maxRecDepth 100000 in
theorem c_X10_loudOf {l : Launch} {D : va_G} {cI cJ cS : ClassId} {ad adK : Nat → Nat} {a_o a_kind : Nat} {z_refused z_steps z_space z_other z_times z_speed z_base z_share z_notes z_pitch z_beats z_held z_sort z_size z_shown z_cells z_carried z_words z_tell z_was z_kept z_cutSpace z_cutTimes z_cutOff z_trace : Value} {v_stretches : Int32} {v_cars : Int32} {v_tunes : Int32} {v_along : Int32} {v_near : Int32} {v_borne : Int32} {v_tempo : Int32} {v_seed : Int32} {v_fault : Int32} {v_from : Int32} {v_at : Int32} {v_end : Int32} {v_told : Int32} {v_wrongAt : Int32} {v_culprit : Int32} {v_ran : Int32} {v_isKept : Int32} {f_kind : Nat → Int32} {x1 : Int32} {x2 : Int32} {post : Int32 → Prop} (h : F_X10_loudOf f_kind x1 x2 post) : Met l yX10_loudOf (Cond.code yX10_loudOf cX10_loudOf 4 (some (.int)) :: GW) (rmd 0 0 0) (PR D cI cJ cS ad adK [.ref a_o, .int x1, .int x2] (wX10_loudOf cI cJ cS a_o a_kind z_refused z_steps z_space z_other z_times z_speed z_base z_share z_notes z_pitch z_beats z_held z_sort z_size z_shown z_cells z_carried z_words z_tell z_was z_kept z_cutSpace z_cutTimes z_cutOff z_trace v_stretches v_cars v_tunes v_along v_near v_borne v_tempo v_seed v_fault v_from v_at v_end v_told v_wrongAt v_culprit v_ran v_isKept f_kind)) (vp_Si post) 0 0 nof := by
  refine Met.ro (by decide) (Nat.le_of_ble_eq_true rfl) (fun p e s m args below meth c ls (S : CallFix p m c cX10_loudOf 4 s args GW "RoadThatSingsModel") hE hT hP hS hr hlocks hl => ?_)
  have hx := S.1
  have hb := S.2.1
  have hl : lv_has ls 4 [(0, .ref a_o), (1, .int x1), (2, .int x2)] := hl
  unfold F_X10_loudOf at h
  refine lv_aload_n hx hb dX10_loudOf_0 rfl (lv_at hl 0 rfl) ?_
  refine gf S hE hP 0 rfl rfl inX10 (k := 11) (by decide) q1104 rfl dX10_loudOf_1 ?_
  refine lv_iload_n hx hb dX10_loudOf_4 rfl (lv_at hl 1 rfl) ?_
  obtain ⟨hi, h⟩ := h
  refine ial S hE hP 1 rfl hi dX10_loudOf_5 ?_
  refine lv_iconst (v := 3) hx hb dX10_loudOf_6 (by decide) ?_
  refine lv_icmp_ne (tgt := 14) hx hb dX10_loudOf_7 (by decide) (fun hc => ?_) (fun hc => ?_)
  · have h := h.2 hc
    refine lv_aload_n hx hb dX10_loudOf_14 rfl (lv_at hl 0 rfl) ?_
    refine gf S hE hP 0 rfl rfl inX10 (k := 11) (by decide) q1104 rfl dX10_loudOf_15 ?_
    refine lv_iload_n hx hb dX10_loudOf_18 rfl (lv_at hl 1 rfl) ?_
    obtain ⟨hi, h⟩ := h
    refine ial S hE hP 1 rfl hi dX10_loudOf_19 ?_
    refine lv_iconst (v := 4) hx hb dX10_loudOf_20 (by decide) ?_
    refine lv_icmp_ne (tgt := 29) hx hb dX10_loudOf_21 (by decide) (fun hc => ?_) (fun hc => ?_)
    · have h := h.2 hc
      refine lv_aload_n hx hb dX10_loudOf_29 rfl (lv_at hl 0 rfl) ?_
      refine gf S hE hP 0 rfl rfl inX10 (k := 11) (by decide) q1104 rfl dX10_loudOf_30 ?_
      refine lv_iload_n hx hb dX10_loudOf_33 rfl (lv_at hl 1 rfl) ?_
      obtain ⟨hi, h⟩ := h
      refine ial S hE hP 1 rfl hi dX10_loudOf_34 ?_
      refine lv_iconst (v := 5) hx hb dX10_loudOf_35 (by decide) ?_
      refine lv_icmp_ne (tgt := 44) hx hb dX10_loudOf_36 (by decide) (fun hc => ?_) (fun hc => ?_)
      · have h := h.2 hc
        refine lv_bipush (v := 10) hx hb dX10_loudOf_44 (by decide) ?_
        refine w_X10_loudOf_46 S hE hT hP hS hr hlocks _ h (lv_sub hl [2] rfl)
      have h := h.1 hc
      refine lv_bipush (v := 8) hx hb dX10_loudOf_39 (by decide) ?_
      refine lv_goto (tgt := 46) hx hb dX10_loudOf_41 (by decide) ?_
      refine w_X10_loudOf_46 S hE hT hP hS hr hlocks _ h (lv_sub hl [2] rfl)
    have h := h.1 hc
    refine lv_bipush (v := 15) hx hb dX10_loudOf_24 (by decide) ?_
    refine lv_goto (tgt := 46) hx hb dX10_loudOf_26 (by decide) ?_
    refine w_X10_loudOf_46 S hE hT hP hS hr hlocks _ h (lv_sub hl [2] rfl)
  have h := h.1 hc
  refine lv_iconst (v := 0) hx hb dX10_loudOf_10 (by decide) ?_
  refine lv_goto (tgt := 46) hx hb dX10_loudOf_11 (by decide) ?_
  refine w_X10_loudOf_46 S hE hT hP hS hr hlocks _ h (lv_sub hl [2] rfl)
/-! X10_loud -/
abbrev wX10_loud (cI cJ cS : ClassId) (a_o a_kind a_refused : Nat) (z_steps z_space z_other z_times z_speed z_base z_share z_notes z_pitch z_beats z_held z_sort z_size z_shown z_cells z_carried z_words z_tell z_was z_kept z_cutSpace z_cutTimes z_cutOff z_trace : Value) (v_stretches : Int32) (v_cars : Int32) (v_tunes : Int32) (v_along : Int32) (v_near : Int32) (v_borne : Int32) (v_tempo : Int32) (v_seed : Int32) (v_fault : Int32) (v_from : Int32) (v_at : Int32) (v_end : Int32) (v_told : Int32) (v_wrongAt : Int32) (v_culprit : Int32) (v_ran : Int32) (v_isKept : Int32) (f_kind : Nat → Int32) (f_refused : Nat → Int32) : va_W := [(a_o, .inr (9, [.int v_stretches, .int v_cars, .int v_tunes, .int v_along, .int v_near, .int v_borne, .int v_tempo, .int v_seed, .int v_fault, .ref a_refused, z_steps, .ref a_kind, z_space, z_other, z_times, z_speed, z_base, z_share, z_notes, z_pitch, z_beats, z_held, z_sort, z_size, z_shown, z_cells, z_carried, z_words, z_tell, .int v_from, .int v_at, .int v_end, .int v_told, .int v_wrongAt, z_was, z_kept, .int v_culprit, z_cutSpace, z_cutTimes, z_cutOff, z_trace, .int v_ran, .int v_isKept])), (a_kind, .inl (cI, 16, .inl f_kind)), (a_refused, .inl (cI, 8, .inl f_refused))]
def F_X10_loud (v_stretches : Int32) (f_kind : Nat → Int32) (f_refused : Nat → Int32) (x1 : Int32) (x2 : Int32) (post : Int32 → (Nat → Int32) → Prop) : Prop := (F_X10_isStretch v_stretches x1 (fun r2 => ((r2 = 0 → (F_X10_no f_refused (-1) (fun r10 w10_0 => post r10 w10_0))) ∧ (¬ r2 = 0 → ((x2 < 0 → (F_X10_no f_refused (-6) (fun r36 w36_0 => post r36 w36_0))) ∧ (¬ x2 < 0 → ((50 < x2 → (F_X10_no f_refused (-6) (fun r36 w36_0 => post r36 w36_0))) ∧ (¬ 50 < x2 → (F_X10_loudOf f_kind x1 x2 (fun r27 => post r27 f_refused))))))))))
set_option maxHeartbeats 4000000 in
set_option maxRecDepth 100000 in
theorem c_X10_loud {l : Launch} {D : va_G} {cI cJ cS : ClassId} {ad adK : Nat → Nat} {a_o a_kind a_refused : Nat} {z_steps z_space z_other z_times z_speed z_base z_share z_notes z_pitch z_beats z_held z_sort z_size z_shown z_cells z_carried z_words z_tell z_was z_kept z_cutSpace z_cutTimes z_cutOff z_trace : Value} {v_stretches : Int32} {v_cars : Int32} {v_tunes : Int32} {v_along : Int32} {v_near : Int32} {v_borne : Int32} {v_tempo : Int32} {v_seed : Int32} {v_fault : Int32} {v_from : Int32} {v_at : Int32} {v_end : Int32} {v_told : Int32} {v_wrongAt : Int32} {v_culprit : Int32} {v_ran : Int32} {v_isKept : Int32} {f_kind : Nat → Int32} {f_refused : Nat → Int32} {x1 : Int32} {x2 : Int32} {post : Int32 → (Nat → Int32) → Prop} (h : F_X10_loud v_stretches f_kind f_refused x1 x2 post) {sz : Nat} : Met l yX10_loud (Cond.code yX10_loud cX10_loud 3 (some (.int)) :: GW) (rmd 1 0 0) (PW D cI cJ cS ad adK [.ref a_o, .int x1, .int x2] (wX10_loud cI cJ cS a_o a_kind a_refused z_steps z_space z_other z_times z_speed z_base z_share z_notes z_pitch z_beats z_held z_sort z_size z_shown z_cells z_carried z_words z_tell z_was z_kept z_cutSpace z_cutTimes z_cutOff z_trace v_stretches v_cars v_tunes v_along v_near v_borne v_tempo v_seed v_fault v_from v_at v_end v_told v_wrongAt v_culprit v_ran v_isKept f_kind f_refused) sz) (va_Qi (fun r (u : (Nat → Int32)) => post r u) (fun u t => va_P D vwCl (wX10_loud cI cJ cS a_o a_kind a_refused z_steps z_space z_other z_times z_speed z_base z_share z_notes z_pitch z_beats z_held z_sort z_size z_shown z_cells z_carried z_words z_tell z_was z_kept z_cutSpace z_cutTimes z_cutOff z_trace v_stretches v_cars v_tunes v_along v_near v_borne v_tempo v_seed v_fault v_from v_at v_end v_told v_wrongAt v_culprit v_ran v_isKept f_kind u) t.heap) (va_A (wX10_loud cI cJ cS a_o a_kind a_refused z_steps z_space z_other z_times z_speed z_base z_share z_notes z_pitch z_beats z_held z_sort z_size z_shown z_cells z_carried z_words z_tell z_was z_kept z_cutSpace z_cutTimes z_cutOff z_trace v_stretches v_cars v_tunes v_along v_near v_borne v_tempo v_seed v_fault v_from v_at v_end v_told v_wrongAt v_culprit v_ran v_isKept f_kind f_refused) sz)) 0 0 (va_A (wX10_loud cI cJ cS a_o a_kind a_refused z_steps z_space z_other z_times z_speed z_base z_share z_notes z_pitch z_beats z_held z_sort z_size z_shown z_cells z_carried z_words z_tell z_was z_kept z_cutSpace z_cutTimes z_cutOff z_trace v_stretches v_cars v_tunes v_along v_near v_borne v_tempo v_seed v_fault v_from v_at v_end v_told v_wrongAt v_culprit v_ran v_isKept f_kind f_refused) sz) := by
  refine Met.rw (Qc := fun A => (va_Qi (fun r (u : (Nat → Int32)) => post r u) (fun u t => va_P D vwCl (wX10_loud cI cJ cS a_o a_kind a_refused z_steps z_space z_other z_times z_speed z_base z_share z_notes z_pitch z_beats z_held z_sort z_size z_shown z_cells z_carried z_words z_tell z_was z_kept z_cutSpace z_cutTimes z_cutOff z_trace v_stretches v_cars v_tunes v_along v_near v_borne v_tempo v_seed v_fault v_from v_at v_end v_told v_wrongAt v_culprit v_ran v_isKept f_kind u) t.heap) A)) (by decide) (Nat.le_of_ble_eq_true rfl) (fun p e s m args below meth c ls A (S : CallFix p m c cX10_loud 3 s args GW "RoadThatSingsModel") hE hT hP hD hA hS hr hlocks hname hl => ?_)
  have hS0 := hS
  have hx := S.1
  have hb := S.2.1
  have hl : lv_has ls 3 [(0, .ref a_o), (1, .int x1), (2, .int x2)] := hl
  unfold F_X10_loud at h
  refine lv_aload_n hx hb dX10_loud_0 rfl (lv_at hl 0 rfl) ?_
  refine lv_iload_n hx hb dX10_loud_1 rfl (lv_at hl 1 rfl) ?_
  refine ro_i (roV S hE hT hS (c_X10_isStretch h) lkX10_125 rfl ⟨(Nat.le_of_ble_eq_true rfl), (Nat.le_of_ble_eq_true rfl)⟩ (hP.sub [0] rfl) 0 rfl rfl hl.1 rfl (Nat.le_of_ble_eq_true rfl) dX10_loud_2 ⟨(Nat.zero_le _), (Nat.zero_le _)⟩) (fun r2 h => ?_)
  refine lv_if_ne (tgt := 14) hx hb dX10_loud_5 (by decide) (fun hc => ?_) (fun hc => ?_)
  · have h := h.2 hc
    refine lv_iload_n hx hb dX10_loud_14 rfl (lv_at hl 2 rfl) ?_
    refine lv_if_lt (tgt := 33) hx hb dX10_loud_15 (by decide) (fun hc => ?_) (fun hc => ?_)
    · have h := h.1 hc
      refine lv_aload_n hx hb dX10_loud_33 rfl (lv_at hl 0 rfl) ?_
      refine lv_bipush (v := (-6)) hx hb dX10_loud_34 (by decide) ?_
      refine rw_i (rwV S hE hT hS hP hD hA (c_X10_no h) [0, 2] rfl (by decide) lkX10_121 rfl ⟨(Nat.le_of_ble_eq_true rfl), (Nat.le_of_ble_eq_true rfl)⟩ 0 rfl rfl hl.1 rfl (Nat.le_of_ble_eq_true rfl) dX10_loud_36 ⟨(Nat.zero_le _), (Nat.zero_le _)⟩) hP hD hS hA [0, 2] rfl (by decide) (fun _ => rfl) (fun r36 w36_0 H locs h hP hD hS => ?_)
      try dsimp only at h
      have hP : va_P D vwCl (wX10_loud cI cJ cS a_o a_kind a_refused z_steps z_space z_other z_times z_speed z_base z_share z_notes z_pitch z_beats z_held z_sort z_size z_shown z_cells z_carried z_words z_tell z_was z_kept z_cutSpace z_cutTimes z_cutOff z_trace v_stretches v_cars v_tunes v_along v_near v_borne v_tempo v_seed v_fault v_from v_at v_end v_told v_wrongAt v_culprit v_ran v_isKept f_kind w36_0) H := hP
      have hD : va_D A (wX10_loud cI cJ cS a_o a_kind a_refused z_steps z_space z_other z_times z_speed z_base z_share z_notes z_pitch z_beats z_held z_sort z_size z_shown z_cells z_carried z_words z_tell z_was z_kept z_cutSpace z_cutTimes z_cutOff z_trace v_stretches v_cars v_tunes v_along v_near v_borne v_tempo v_seed v_fault v_from v_at v_end v_told v_wrongAt v_culprit v_ran v_isKept f_kind w36_0) := hD
      exact W.iret hx hb hr (fun t ht _ => ⟨⟨_, w36_0, rfl, h, hPt hP ht⟩, hS.F ht⟩) hS.2.2 dX10_loud_39
    have h := h.2 hc
    refine lv_iload_n hx hb dX10_loud_18 rfl (lv_at hl 2 rfl) ?_
    refine lv_bipush (v := 50) hx hb dX10_loud_19 (by decide) ?_
    refine lv_icmp_gt (tgt := 33) hx hb dX10_loud_21 (by decide) (fun hc => ?_) (fun hc => ?_)
    · have h := h.1 hc
      refine lv_aload_n hx hb dX10_loud_33 rfl (lv_at hl 0 rfl) ?_
      refine lv_bipush (v := (-6)) hx hb dX10_loud_34 (by decide) ?_
      refine rw_i (rwV S hE hT hS hP hD hA (c_X10_no h) [0, 2] rfl (by decide) lkX10_121 rfl ⟨(Nat.le_of_ble_eq_true rfl), (Nat.le_of_ble_eq_true rfl)⟩ 0 rfl rfl hl.1 rfl (Nat.le_of_ble_eq_true rfl) dX10_loud_36 ⟨(Nat.zero_le _), (Nat.zero_le _)⟩) hP hD hS hA [0, 2] rfl (by decide) (fun _ => rfl) (fun r36 w36_0 H locs h hP hD hS => ?_)
      try dsimp only at h
      have hP : va_P D vwCl (wX10_loud cI cJ cS a_o a_kind a_refused z_steps z_space z_other z_times z_speed z_base z_share z_notes z_pitch z_beats z_held z_sort z_size z_shown z_cells z_carried z_words z_tell z_was z_kept z_cutSpace z_cutTimes z_cutOff z_trace v_stretches v_cars v_tunes v_along v_near v_borne v_tempo v_seed v_fault v_from v_at v_end v_told v_wrongAt v_culprit v_ran v_isKept f_kind w36_0) H := hP
      have hD : va_D A (wX10_loud cI cJ cS a_o a_kind a_refused z_steps z_space z_other z_times z_speed z_base z_share z_notes z_pitch z_beats z_held z_sort z_size z_shown z_cells z_carried z_words z_tell z_was z_kept z_cutSpace z_cutTimes z_cutOff z_trace v_stretches v_cars v_tunes v_along v_near v_borne v_tempo v_seed v_fault v_from v_at v_end v_told v_wrongAt v_culprit v_ran v_isKept f_kind w36_0) := hD
      exact W.iret hx hb hr (fun t ht _ => ⟨⟨_, w36_0, rfl, h, hPt hP ht⟩, hS.F ht⟩) hS.2.2 dX10_loud_39
    have h := h.2 hc
    refine lv_aload_n hx hb dX10_loud_24 rfl (lv_at hl 0 rfl) ?_
    refine lv_iload_n hx hb dX10_loud_25 rfl (lv_at hl 1 rfl) ?_
    refine lv_iload_n hx hb dX10_loud_26 rfl (lv_at hl 2 rfl) ?_
    refine ro_i (roV S hE hT hS (c_X10_loudOf h) lkX10_238 rfl ⟨(Nat.le_of_ble_eq_true rfl), (Nat.le_of_ble_eq_true rfl)⟩ (hP.sub [0, 1] rfl) 0 rfl rfl hl.1 rfl (Nat.le_of_ble_eq_true rfl) dX10_loud_27 ⟨(Nat.zero_le _), (Nat.zero_le _)⟩) (fun r27 h => ?_)
    refine lv_goto (tgt := 39) hx hb dX10_loud_30 (by decide) ?_
    exact W.iret hx hb hr (fun t ht _ => ⟨⟨_, f_refused, rfl, h, hPt hP ht⟩, hS.F ht⟩) hS.2.2 dX10_loud_39
  have h := h.1 hc
  refine lv_aload_n hx hb dX10_loud_8 rfl (lv_at hl 0 rfl) ?_
  refine lv_iconst (v := (-1)) hx hb dX10_loud_9 (by decide) ?_
  refine rw_i (rwV S hE hT hS hP hD hA (c_X10_no h) [0, 2] rfl (by decide) lkX10_121 rfl ⟨(Nat.le_of_ble_eq_true rfl), (Nat.le_of_ble_eq_true rfl)⟩ 0 rfl rfl hl.1 rfl (Nat.le_of_ble_eq_true rfl) dX10_loud_10 ⟨(Nat.zero_le _), (Nat.zero_le _)⟩) hP hD hS hA [0, 2] rfl (by decide) (fun _ => rfl) (fun r10 w10_0 H locs h hP hD hS => ?_)
  try dsimp only at h
  have hP : va_P D vwCl (wX10_loud cI cJ cS a_o a_kind a_refused z_steps z_space z_other z_times z_speed z_base z_share z_notes z_pitch z_beats z_held z_sort z_size z_shown z_cells z_carried z_words z_tell z_was z_kept z_cutSpace z_cutTimes z_cutOff z_trace v_stretches v_cars v_tunes v_along v_near v_borne v_tempo v_seed v_fault v_from v_at v_end v_told v_wrongAt v_culprit v_ran v_isKept f_kind w10_0) H := hP
  have hD : va_D A (wX10_loud cI cJ cS a_o a_kind a_refused z_steps z_space z_other z_times z_speed z_base z_share z_notes z_pitch z_beats z_held z_sort z_size z_shown z_cells z_carried z_words z_tell z_was z_kept z_cutSpace z_cutTimes z_cutOff z_trace v_stretches v_cars v_tunes v_along v_near v_borne v_tempo v_seed v_fault v_from v_at v_end v_told v_wrongAt v_culprit v_ran v_isKept f_kind w10_0) := hD
  exact W.iret hx hb hr (fun t ht _ => ⟨⟨_, w10_0, rfl, h, hPt hP ht⟩, hS.F ht⟩) hS.2.2 dX10_loud_13
/-! X10_offOf -/
abbrev wX10_offOf (cI cJ cS : ClassId) (a_o : Nat) (z_refused z_steps z_kind z_space z_other z_times z_speed z_base z_share z_notes z_pitch z_beats z_held z_sort z_size z_shown z_cells z_carried z_words z_tell z_was z_kept z_cutSpace z_cutTimes z_cutOff z_trace : Value) (v_stretches : Int32) (v_cars : Int32) (v_tunes : Int32) (v_along : Int32) (v_near : Int32) (v_borne : Int32) (v_tempo : Int32) (v_seed : Int32) (v_fault : Int32) (v_from : Int32) (v_at : Int32) (v_end : Int32) (v_told : Int32) (v_wrongAt : Int32) (v_culprit : Int32) (v_ran : Int32) (v_isKept : Int32) : va_W := [(a_o, .inr (9, [.int v_stretches, .int v_cars, .int v_tunes, .int v_along, .int v_near, .int v_borne, .int v_tempo, .int v_seed, .int v_fault, z_refused, z_steps, z_kind, z_space, z_other, z_times, z_speed, z_base, z_share, z_notes, z_pitch, z_beats, z_held, z_sort, z_size, z_shown, z_cells, z_carried, z_words, z_tell, .int v_from, .int v_at, .int v_end, .int v_told, .int v_wrongAt, z_was, z_kept, .int v_culprit, z_cutSpace, z_cutTimes, z_cutOff, z_trace, .int v_ran, .int v_isKept]))]
def F_X10_offOf_30 (post : Int32 → Prop) (x2 : Int32) (s0 : Int32) : Prop := (¬ x2 = 0 ∧ (∀ x3_36 : Int32, x3_36 = (s0 * 1000) / x2 → ((x3_36 ≤ 999 → post x3_36) ∧ (¬ x3_36 ≤ 999 → post 999))))
def F_X10_offOf (x1 : Int32) (x2 : Int32) (post : Int32 → Prop) : Prop := ((x2 = 0 → ((x1 = 0 → post 0) ∧ (¬ x1 = 0 → post 999))) ∧ (¬ x2 = 0 → ((x1 ≤ x2 → F_X10_offOf_30 post x2 (x2 - x1)) ∧ (¬ x1 ≤ x2 → F_X10_offOf_30 post x2 (x1 - x2)))))
set_option maxHeartbeats 4000000 in
set_option maxRecDepth 100000 in
theorem w_X10_offOf_30 {l : Launch} {D : va_G} {cI cJ cS : ClassId} {ad adK : Nat → Nat} {a_o : Nat} {z_refused z_steps z_kind z_space z_other z_times z_speed z_base z_share z_notes z_pitch z_beats z_held z_sort z_size z_shown z_cells z_carried z_words z_tell z_was z_kept z_cutSpace z_cutTimes z_cutOff z_trace : Value} {v_stretches : Int32} {v_cars : Int32} {v_tunes : Int32} {v_along : Int32} {v_near : Int32} {v_borne : Int32} {v_tempo : Int32} {v_seed : Int32} {v_fault : Int32} {v_from : Int32} {v_at : Int32} {v_end : Int32} {v_told : Int32} {v_wrongAt : Int32} {v_culprit : Int32} {v_ran : Int32} {v_isKept : Int32} {x2 : Int32} {s0 : Int32} {post : Int32 → Prop} {p : Program} {e : Env} {s : State} {m : MethodId} {args : Array Value} {below : List Frame} {meth : Method} {c : Code} (S : CallFix p m c cX10_offOf 4 s args GW "RoadThatSingsModel") (hE : EN D cI cJ cS s) (hT : ST ad adK nof s s.heap) (hP : va_P D vwCl (wX10_offOf cI cJ cS a_o z_refused z_steps z_kind z_space z_other z_times z_speed z_base z_share z_notes z_pitch z_beats z_held z_sort z_size z_shown z_cells z_carried z_words z_tell z_was z_kept z_cutSpace z_cutTimes z_cutOff z_trace v_stretches v_cars v_tunes v_along v_near v_borne v_tempo v_seed v_fault v_from v_at v_end v_told v_wrongAt v_culprit v_ran v_isKept) s.heap) (hS : va_S nof s.heap s.heap []) (hr : meth.sig.returnType = (some (.int))) (hlocks : meth.locks = false) : ∀ (ls : Array Slot), F_X10_offOf_30 post x2 s0 → lv_has ls 4 [(2, .int x2)] → W p l e (rmd 0 0 0) s m args below meth c s.heap [] 0 0 (MQ below (vp_Si post) args s 0 0 nof) (F0 m 30 ls [.int s0]) := by
  intro  ls h hl
  unfold F_X10_offOf_30 at h
  have hx := S.1
  have hb := S.2.1
  refine lv_sipush (v := 1000) hx hb dX10_offOf_30 (by decide) ?_
  refine lv_imul hx hb dX10_offOf_33 ?_
  refine lv_iload_n hx hb dX10_offOf_34 rfl (lv_at hl 0 rfl) ?_
  obtain ⟨hz, h⟩ := h
  refine lv_idiv hx hb dX10_offOf_35 hz ?_
  refine lv_topi (fun x3_36 ex3_36 => ?_)
  have h := h _ ex3_36
  refine lv_istore_n (lv' := [(3, .int x3_36), (2, .int x2)]) hx hb dX10_offOf_36 rfl hl (by decide) rfl (fun ls hl => ?_)
  refine lv_iload_n hx hb dX10_offOf_37 rfl (lv_at hl 0 rfl) ?_
  refine lv_sipush (v := 999) hx hb dX10_offOf_38 (by decide) ?_
  refine lv_icmp_le (tgt := 50) hx hb dX10_offOf_41 (by decide) (fun hc => ?_) (fun hc => ?_)
  · have h := h.1 hc
    refine lv_iload_n hx hb dX10_offOf_50 rfl (lv_at hl 0 rfl) ?_
    exact W.iret hx hb hr (fun t ht _ => ⟨_, rfl, h, ht⟩) (fun _ hq => by cases hq) dX10_offOf_51
  have h := h.2 hc
  refine lv_sipush (v := 999) hx hb dX10_offOf_44 (by decide) ?_
  refine lv_goto (tgt := 51) hx hb dX10_offOf_47 (by decide) ?_
  exact W.iret hx hb hr (fun t ht _ => ⟨_, rfl, h, ht⟩) (fun _ hq => by cases hq) dX10_offOf_51
set_option maxHeartbeats 4000000 in
set_option maxRecDepth 100000 in
theorem c_X10_offOf {l : Launch} {D : va_G} {cI cJ cS : ClassId} {ad adK : Nat → Nat} {a_o : Nat} {z_refused z_steps z_kind z_space z_other z_times z_speed z_base z_share z_notes z_pitch z_beats z_held z_sort z_size z_shown z_cells z_carried z_words z_tell z_was z_kept z_cutSpace z_cutTimes z_cutOff z_trace : Value} {v_stretches : Int32} {v_cars : Int32} {v_tunes : Int32} {v_along : Int32} {v_near : Int32} {v_borne : Int32} {v_tempo : Int32} {v_seed : Int32} {v_fault : Int32} {v_from : Int32} {v_at : Int32} {v_end : Int32} {v_told : Int32} {v_wrongAt : Int32} {v_culprit : Int32} {v_ran : Int32} {v_isKept : Int32} {x1 : Int32} {x2 : Int32} {post : Int32 → Prop} (h : F_X10_offOf x1 x2 post) : Met l yX10_offOf (Cond.code yX10_offOf cX10_offOf 4 (some (.int)) :: GW) (rmd 0 0 0) (PR D cI cJ cS ad adK [.ref a_o, .int x1, .int x2] (wX10_offOf cI cJ cS a_o z_refused z_steps z_kind z_space z_other z_times z_speed z_base z_share z_notes z_pitch z_beats z_held z_sort z_size z_shown z_cells z_carried z_words z_tell z_was z_kept z_cutSpace z_cutTimes z_cutOff z_trace v_stretches v_cars v_tunes v_along v_near v_borne v_tempo v_seed v_fault v_from v_at v_end v_told v_wrongAt v_culprit v_ran v_isKept)) (vp_Si post) 0 0 nof := by
  refine Met.ro (by decide) (Nat.le_of_ble_eq_true rfl) (fun p e s m args below meth c ls (S : CallFix p m c cX10_offOf 4 s args GW "RoadThatSingsModel") hE hT hP hS hr hlocks hl => ?_)
  have hx := S.1
  have hb := S.2.1
  have hl : lv_has ls 4 [(0, .ref a_o), (1, .int x1), (2, .int x2)] := hl
  unfold F_X10_offOf at h
  refine lv_iload_n hx hb dX10_offOf_0 rfl (lv_at hl 2 rfl) ?_
  refine lv_if_ne (tgt := 16) hx hb dX10_offOf_1 (by decide) (fun hc => ?_) (fun hc => ?_)
  · have h := h.2 hc
    refine lv_iload_n hx hb dX10_offOf_16 rfl (lv_at hl 1 rfl) ?_
    refine lv_iload_n hx hb dX10_offOf_17 rfl (lv_at hl 2 rfl) ?_
    refine lv_icmp_le (tgt := 27) hx hb dX10_offOf_18 (by decide) (fun hc => ?_) (fun hc => ?_)
    · have h := h.1 hc
      refine lv_iload_n hx hb dX10_offOf_27 rfl (lv_at hl 2 rfl) ?_
      refine lv_iload_n hx hb dX10_offOf_28 rfl (lv_at hl 1 rfl) ?_
      refine lv_isub hx hb dX10_offOf_29 ?_
      refine w_X10_offOf_30 S hE hT hP hS hr hlocks _ h (lv_sub hl [2] rfl)
    have h := h.2 hc
    refine lv_iload_n hx hb dX10_offOf_21 rfl (lv_at hl 1 rfl) ?_
    refine lv_iload_n hx hb dX10_offOf_22 rfl (lv_at hl 2 rfl) ?_
    refine lv_isub hx hb dX10_offOf_23 ?_
    refine lv_goto (tgt := 30) hx hb dX10_offOf_24 (by decide) ?_
    refine w_X10_offOf_30 S hE hT hP hS hr hlocks _ h (lv_sub hl [2] rfl)
  have h := h.1 hc
  refine lv_iload_n hx hb dX10_offOf_4 rfl (lv_at hl 1 rfl) ?_
  refine lv_if_ne (tgt := 12) hx hb dX10_offOf_5 (by decide) (fun hc => ?_) (fun hc => ?_)
  · have h := h.2 hc
    refine lv_sipush (v := 999) hx hb dX10_offOf_12 (by decide) ?_
    exact W.iret hx hb hr (fun t ht _ => ⟨_, rfl, h, ht⟩) (fun _ hq => by cases hq) dX10_offOf_15
  have h := h.1 hc
  refine lv_iconst (v := 0) hx hb dX10_offOf_8 (by decide) ?_
  refine lv_goto (tgt := 15) hx hb dX10_offOf_9 (by decide) ?_
  exact W.iret hx hb hr (fun t ht _ => ⟨_, rfl, h, ht⟩) (fun _ hq => by cases hq) dX10_offOf_15
/-! X10_off -/
abbrev wX10_off (cI cJ cS : ClassId) (a_o a_refused : Nat) (z_steps z_kind z_space z_other z_times z_speed z_base z_share z_notes z_pitch z_beats z_held z_sort z_size z_shown z_cells z_carried z_words z_tell z_was z_kept z_cutSpace z_cutTimes z_cutOff z_trace : Value) (v_stretches : Int32) (v_cars : Int32) (v_tunes : Int32) (v_along : Int32) (v_near : Int32) (v_borne : Int32) (v_tempo : Int32) (v_seed : Int32) (v_fault : Int32) (v_from : Int32) (v_at : Int32) (v_end : Int32) (v_told : Int32) (v_wrongAt : Int32) (v_culprit : Int32) (v_ran : Int32) (v_isKept : Int32) (f_refused : Nat → Int32) : va_W := [(a_o, .inr (9, [.int v_stretches, .int v_cars, .int v_tunes, .int v_along, .int v_near, .int v_borne, .int v_tempo, .int v_seed, .int v_fault, .ref a_refused, z_steps, z_kind, z_space, z_other, z_times, z_speed, z_base, z_share, z_notes, z_pitch, z_beats, z_held, z_sort, z_size, z_shown, z_cells, z_carried, z_words, z_tell, .int v_from, .int v_at, .int v_end, .int v_told, .int v_wrongAt, z_was, z_kept, .int v_culprit, z_cutSpace, z_cutTimes, z_cutOff, z_trace, .int v_ran, .int v_isKept])), (a_refused, .inl (cI, 8, .inl f_refused))]
def F_X10_off (f_refused : Nat → Int32) (x1 : Int32) (x2 : Int32) (post : Int32 → (Nat → Int32) → Prop) : Prop := ((x1 < 0 → (F_X10_no f_refused (-6) (fun r32 w32_0 => post r32 w32_0))) ∧ (¬ x1 < 0 → ((99999 < x1 → (F_X10_no f_refused (-6) (fun r32 w32_0 => post r32 w32_0))) ∧ (¬ 99999 < x1 → ((x2 < 0 → (F_X10_no f_refused (-6) (fun r32 w32_0 => post r32 w32_0))) ∧ (¬ x2 < 0 → ((99999 < x2 → (F_X10_no f_refused (-6) (fun r32 w32_0 => post r32 w32_0))) ∧ (¬ 99999 < x2 → (F_X10_offOf x1 x2 (fun r23 => post r23 f_refused))))))))))
set_option maxHeartbeats 4000000 in
set_option maxRecDepth 100000 in
theorem c_X10_off {l : Launch} {D : va_G} {cI cJ cS : ClassId} {ad adK : Nat → Nat} {a_o a_refused : Nat} {z_steps z_kind z_space z_other z_times z_speed z_base z_share z_notes z_pitch z_beats z_held z_sort z_size z_shown z_cells z_carried z_words z_tell z_was z_kept z_cutSpace z_cutTimes z_cutOff z_trace : Value} {v_stretches : Int32} {v_cars : Int32} {v_tunes : Int32} {v_along : Int32} {v_near : Int32} {v_borne : Int32} {v_tempo : Int32} {v_seed : Int32} {v_fault : Int32} {v_from : Int32} {v_at : Int32} {v_end : Int32} {v_told : Int32} {v_wrongAt : Int32} {v_culprit : Int32} {v_ran : Int32} {v_isKept : Int32} {f_refused : Nat → Int32} {x1 : Int32} {x2 : Int32} {post : Int32 → (Nat → Int32) → Prop} (h : F_X10_off f_refused x1 x2 post) {sz : Nat} : Met l yX10_off (Cond.code yX10_off cX10_off 3 (some (.int)) :: GW) (rmd 1 0 0) (PW D cI cJ cS ad adK [.ref a_o, .int x1, .int x2] (wX10_off cI cJ cS a_o a_refused z_steps z_kind z_space z_other z_times z_speed z_base z_share z_notes z_pitch z_beats z_held z_sort z_size z_shown z_cells z_carried z_words z_tell z_was z_kept z_cutSpace z_cutTimes z_cutOff z_trace v_stretches v_cars v_tunes v_along v_near v_borne v_tempo v_seed v_fault v_from v_at v_end v_told v_wrongAt v_culprit v_ran v_isKept f_refused) sz) (va_Qi (fun r (u : (Nat → Int32)) => post r u) (fun u t => va_P D vwCl (wX10_off cI cJ cS a_o a_refused z_steps z_kind z_space z_other z_times z_speed z_base z_share z_notes z_pitch z_beats z_held z_sort z_size z_shown z_cells z_carried z_words z_tell z_was z_kept z_cutSpace z_cutTimes z_cutOff z_trace v_stretches v_cars v_tunes v_along v_near v_borne v_tempo v_seed v_fault v_from v_at v_end v_told v_wrongAt v_culprit v_ran v_isKept u) t.heap) (va_A (wX10_off cI cJ cS a_o a_refused z_steps z_kind z_space z_other z_times z_speed z_base z_share z_notes z_pitch z_beats z_held z_sort z_size z_shown z_cells z_carried z_words z_tell z_was z_kept z_cutSpace z_cutTimes z_cutOff z_trace v_stretches v_cars v_tunes v_along v_near v_borne v_tempo v_seed v_fault v_from v_at v_end v_told v_wrongAt v_culprit v_ran v_isKept f_refused) sz)) 0 0 (va_A (wX10_off cI cJ cS a_o a_refused z_steps z_kind z_space z_other z_times z_speed z_base z_share z_notes z_pitch z_beats z_held z_sort z_size z_shown z_cells z_carried z_words z_tell z_was z_kept z_cutSpace z_cutTimes z_cutOff z_trace v_stretches v_cars v_tunes v_along v_near v_borne v_tempo v_seed v_fault v_from v_at v_end v_told v_wrongAt v_culprit v_ran v_isKept f_refused) sz) := by
  refine Met.rw (Qc := fun A => (va_Qi (fun r (u : (Nat → Int32)) => post r u) (fun u t => va_P D vwCl (wX10_off cI cJ cS a_o a_refused z_steps z_kind z_space z_other z_times z_speed z_base z_share z_notes z_pitch z_beats z_held z_sort z_size z_shown z_cells z_carried z_words z_tell z_was z_kept z_cutSpace z_cutTimes z_cutOff z_trace v_stretches v_cars v_tunes v_along v_near v_borne v_tempo v_seed v_fault v_from v_at v_end v_told v_wrongAt v_culprit v_ran v_isKept u) t.heap) A)) (by decide) (Nat.le_of_ble_eq_true rfl) (fun p e s m args below meth c ls A (S : CallFix p m c cX10_off 3 s args GW "RoadThatSingsModel") hE hT hP hD hA hS hr hlocks hname hl => ?_)
  have hS0 := hS
  have hx := S.1
  have hb := S.2.1
  have hl : lv_has ls 3 [(0, .ref a_o), (1, .int x1), (2, .int x2)] := hl
  unfold F_X10_off at h
  refine lv_iload_n hx hb dX10_off_0 rfl (lv_at hl 1 rfl) ?_
  refine lv_if_lt (tgt := 29) hx hb dX10_off_1 (by decide) (fun hc => ?_) (fun hc => ?_)
  · have h := h.1 hc
    refine lv_aload_n hx hb dX10_off_29 rfl (lv_at hl 0 rfl) ?_
    refine lv_bipush (v := (-6)) hx hb dX10_off_30 (by decide) ?_
    refine rw_i (rwV S hE hT hS hP hD hA (c_X10_no h) [0, 1] rfl (by decide) lkX10_121 rfl ⟨(Nat.le_of_ble_eq_true rfl), (Nat.le_of_ble_eq_true rfl)⟩ 0 rfl rfl hl.1 rfl (Nat.le_of_ble_eq_true rfl) dX10_off_32 ⟨(Nat.zero_le _), (Nat.zero_le _)⟩) hP hD hS hA [0, 1] rfl (by decide) (fun _ => rfl) (fun r32 w32_0 H locs h hP hD hS => ?_)
    try dsimp only at h
    have hP : va_P D vwCl (wX10_off cI cJ cS a_o a_refused z_steps z_kind z_space z_other z_times z_speed z_base z_share z_notes z_pitch z_beats z_held z_sort z_size z_shown z_cells z_carried z_words z_tell z_was z_kept z_cutSpace z_cutTimes z_cutOff z_trace v_stretches v_cars v_tunes v_along v_near v_borne v_tempo v_seed v_fault v_from v_at v_end v_told v_wrongAt v_culprit v_ran v_isKept w32_0) H := hP
    have hD : va_D A (wX10_off cI cJ cS a_o a_refused z_steps z_kind z_space z_other z_times z_speed z_base z_share z_notes z_pitch z_beats z_held z_sort z_size z_shown z_cells z_carried z_words z_tell z_was z_kept z_cutSpace z_cutTimes z_cutOff z_trace v_stretches v_cars v_tunes v_along v_near v_borne v_tempo v_seed v_fault v_from v_at v_end v_told v_wrongAt v_culprit v_ran v_isKept w32_0) := hD
    exact W.iret hx hb hr (fun t ht _ => ⟨⟨_, w32_0, rfl, h, hPt hP ht⟩, hS.F ht⟩) hS.2.2 dX10_off_35
  have h := h.2 hc
  refine lv_iload_n hx hb dX10_off_4 rfl (lv_at hl 1 rfl) ?_
  refine lv_ldc (v := 99999) hx hb S.2.2.2.1 (S.2.2.2.2 _ q1443) dX10_off_5 ?_
  refine lv_icmp_gt (tgt := 29) hx hb dX10_off_7 (by decide) (fun hc => ?_) (fun hc => ?_)
  · have h := h.1 hc
    refine lv_aload_n hx hb dX10_off_29 rfl (lv_at hl 0 rfl) ?_
    refine lv_bipush (v := (-6)) hx hb dX10_off_30 (by decide) ?_
    refine rw_i (rwV S hE hT hS hP hD hA (c_X10_no h) [0, 1] rfl (by decide) lkX10_121 rfl ⟨(Nat.le_of_ble_eq_true rfl), (Nat.le_of_ble_eq_true rfl)⟩ 0 rfl rfl hl.1 rfl (Nat.le_of_ble_eq_true rfl) dX10_off_32 ⟨(Nat.zero_le _), (Nat.zero_le _)⟩) hP hD hS hA [0, 1] rfl (by decide) (fun _ => rfl) (fun r32 w32_0 H locs h hP hD hS => ?_)
    try dsimp only at h
    have hP : va_P D vwCl (wX10_off cI cJ cS a_o a_refused z_steps z_kind z_space z_other z_times z_speed z_base z_share z_notes z_pitch z_beats z_held z_sort z_size z_shown z_cells z_carried z_words z_tell z_was z_kept z_cutSpace z_cutTimes z_cutOff z_trace v_stretches v_cars v_tunes v_along v_near v_borne v_tempo v_seed v_fault v_from v_at v_end v_told v_wrongAt v_culprit v_ran v_isKept w32_0) H := hP
    have hD : va_D A (wX10_off cI cJ cS a_o a_refused z_steps z_kind z_space z_other z_times z_speed z_base z_share z_notes z_pitch z_beats z_held z_sort z_size z_shown z_cells z_carried z_words z_tell z_was z_kept z_cutSpace z_cutTimes z_cutOff z_trace v_stretches v_cars v_tunes v_along v_near v_borne v_tempo v_seed v_fault v_from v_at v_end v_told v_wrongAt v_culprit v_ran v_isKept w32_0) := hD
    exact W.iret hx hb hr (fun t ht _ => ⟨⟨_, w32_0, rfl, h, hPt hP ht⟩, hS.F ht⟩) hS.2.2 dX10_off_35
  have h := h.2 hc
  refine lv_iload_n hx hb dX10_off_10 rfl (lv_at hl 2 rfl) ?_
  refine lv_if_lt (tgt := 29) hx hb dX10_off_11 (by decide) (fun hc => ?_) (fun hc => ?_)
  · have h := h.1 hc
    refine lv_aload_n hx hb dX10_off_29 rfl (lv_at hl 0 rfl) ?_
    refine lv_bipush (v := (-6)) hx hb dX10_off_30 (by decide) ?_
    refine rw_i (rwV S hE hT hS hP hD hA (c_X10_no h) [0, 1] rfl (by decide) lkX10_121 rfl ⟨(Nat.le_of_ble_eq_true rfl), (Nat.le_of_ble_eq_true rfl)⟩ 0 rfl rfl hl.1 rfl (Nat.le_of_ble_eq_true rfl) dX10_off_32 ⟨(Nat.zero_le _), (Nat.zero_le _)⟩) hP hD hS hA [0, 1] rfl (by decide) (fun _ => rfl) (fun r32 w32_0 H locs h hP hD hS => ?_)
    try dsimp only at h
    have hP : va_P D vwCl (wX10_off cI cJ cS a_o a_refused z_steps z_kind z_space z_other z_times z_speed z_base z_share z_notes z_pitch z_beats z_held z_sort z_size z_shown z_cells z_carried z_words z_tell z_was z_kept z_cutSpace z_cutTimes z_cutOff z_trace v_stretches v_cars v_tunes v_along v_near v_borne v_tempo v_seed v_fault v_from v_at v_end v_told v_wrongAt v_culprit v_ran v_isKept w32_0) H := hP
    have hD : va_D A (wX10_off cI cJ cS a_o a_refused z_steps z_kind z_space z_other z_times z_speed z_base z_share z_notes z_pitch z_beats z_held z_sort z_size z_shown z_cells z_carried z_words z_tell z_was z_kept z_cutSpace z_cutTimes z_cutOff z_trace v_stretches v_cars v_tunes v_along v_near v_borne v_tempo v_seed v_fault v_from v_at v_end v_told v_wrongAt v_culprit v_ran v_isKept w32_0) := hD
    exact W.iret hx hb hr (fun t ht _ => ⟨⟨_, w32_0, rfl, h, hPt hP ht⟩, hS.F ht⟩) hS.2.2 dX10_off_35
  have h := h.2 hc
  refine lv_iload_n hx hb dX10_off_14 rfl (lv_at hl 2 rfl) ?_
  refine lv_ldc (v := 99999) hx hb S.2.2.2.1 (S.2.2.2.2 _ q1443) dX10_off_15 ?_
  refine lv_icmp_gt (tgt := 29) hx hb dX10_off_17 (by decide) (fun hc => ?_) (fun hc => ?_)
  · have h := h.1 hc
    refine lv_aload_n hx hb dX10_off_29 rfl (lv_at hl 0 rfl) ?_
    refine lv_bipush (v := (-6)) hx hb dX10_off_30 (by decide) ?_
    refine rw_i (rwV S hE hT hS hP hD hA (c_X10_no h) [0, 1] rfl (by decide) lkX10_121 rfl ⟨(Nat.le_of_ble_eq_true rfl), (Nat.le_of_ble_eq_true rfl)⟩ 0 rfl rfl hl.1 rfl (Nat.le_of_ble_eq_true rfl) dX10_off_32 ⟨(Nat.zero_le _), (Nat.zero_le _)⟩) hP hD hS hA [0, 1] rfl (by decide) (fun _ => rfl) (fun r32 w32_0 H locs h hP hD hS => ?_)
    try dsimp only at h
    have hP : va_P D vwCl (wX10_off cI cJ cS a_o a_refused z_steps z_kind z_space z_other z_times z_speed z_base z_share z_notes z_pitch z_beats z_held z_sort z_size z_shown z_cells z_carried z_words z_tell z_was z_kept z_cutSpace z_cutTimes z_cutOff z_trace v_stretches v_cars v_tunes v_along v_near v_borne v_tempo v_seed v_fault v_from v_at v_end v_told v_wrongAt v_culprit v_ran v_isKept w32_0) H := hP
    have hD : va_D A (wX10_off cI cJ cS a_o a_refused z_steps z_kind z_space z_other z_times z_speed z_base z_share z_notes z_pitch z_beats z_held z_sort z_size z_shown z_cells z_carried z_words z_tell z_was z_kept z_cutSpace z_cutTimes z_cutOff z_trace v_stretches v_cars v_tunes v_along v_near v_borne v_tempo v_seed v_fault v_from v_at v_end v_told v_wrongAt v_culprit v_ran v_isKept w32_0) := hD
    exact W.iret hx hb hr (fun t ht _ => ⟨⟨_, w32_0, rfl, h, hPt hP ht⟩, hS.F ht⟩) hS.2.2 dX10_off_35
  have h := h.2 hc
  refine lv_aload_n hx hb dX10_off_20 rfl (lv_at hl 0 rfl) ?_
  refine lv_iload_n hx hb dX10_off_21 rfl (lv_at hl 1 rfl) ?_
  refine lv_iload_n hx hb dX10_off_22 rfl (lv_at hl 2 rfl) ?_
  refine ro_i (roV S hE hT hS (c_X10_offOf h) lkX10_242 rfl ⟨(Nat.le_of_ble_eq_true rfl), (Nat.le_of_ble_eq_true rfl)⟩ (hP.sub [0] rfl) 0 rfl rfl hl.1 rfl (Nat.le_of_ble_eq_true rfl) dX10_off_23 ⟨(Nat.zero_le _), (Nat.zero_le _)⟩) (fun r23 h => ?_)
  refine lv_goto (tgt := 35) hx hb dX10_off_26 (by decide) ?_
  exact W.iret hx hb hr (fun t ht _ => ⟨⟨_, f_refused, rfl, h, hPt hP ht⟩, hS.F ht⟩) hS.2.2 dX10_off_35
/-! X10_noteBy -/
abbrev wX10_noteBy (cI cJ cS : ClassId) (a_o a_kind a_other a_pitch a_space a_speed : Nat) (z_refused z_steps z_times z_base z_share z_notes z_beats z_held z_sort z_size z_shown z_cells z_carried z_words z_tell z_was z_kept z_cutSpace z_cutTimes z_cutOff z_trace : Value) (v_stretches : Int32) (v_cars : Int32) (v_tunes : Int32) (v_along : Int32) (v_near : Int32) (v_borne : Int32) (v_tempo : Int32) (v_seed : Int32) (v_fault : Int32) (v_from : Int32) (v_at : Int32) (v_end : Int32) (v_told : Int32) (v_wrongAt : Int32) (v_culprit : Int32) (v_ran : Int32) (v_isKept : Int32) (f_kind : Nat → Int32) (f_other : Nat → Int32) (f_pitch : Nat → Int32) (f_space : Nat → Int32) (f_speed : Nat → Int32) : va_W := [(a_o, .inr (9, [.int v_stretches, .int v_cars, .int v_tunes, .int v_along, .int v_near, .int v_borne, .int v_tempo, .int v_seed, .int v_fault, z_refused, z_steps, .ref a_kind, .ref a_space, .ref a_other, z_times, .ref a_speed, z_base, z_share, z_notes, .ref a_pitch, z_beats, z_held, z_sort, z_size, z_shown, z_cells, z_carried, z_words, z_tell, .int v_from, .int v_at, .int v_end, .int v_told, .int v_wrongAt, z_was, z_kept, .int v_culprit, z_cutSpace, z_cutTimes, z_cutOff, z_trace, .int v_ran, .int v_isKept])), (a_kind, .inl (cI, 16, .inl f_kind)), (a_other, .inl (cI, 16, .inl f_other)), (a_pitch, .inl (cI, 72, .inl f_pitch)), (a_space, .inl (cI, 16, .inl f_space)), (a_speed, .inl (cI, 6, .inl f_speed))]
def F_X10_noteBy (v_stretches : Int32) (f_kind : Nat → Int32) (f_other : Nat → Int32) (f_pitch : Nat → Int32) (f_space : Nat → Int32) (f_speed : Nat → Int32) (x1 : Int32) (x2 : Int32) (x3 : Int32) (post : Int32 → Prop) : Prop := ((v_stretches ≤ x3 → post 999) ∧ (¬ v_stretches ≤ x3 → (vp_in x1 6 ∧ (F_X10_humOf f_kind f_other f_space x3 (f_speed x1.toNatClampNeg) (fun r17 => (vp_in ((12 * x2) + x3) 72 ∧ (F_X10_offOf r17 (f_pitch ((12 * x2) + x3).toNatClampNeg) (fun r31 => post r31))))))))
set_option maxHeartbeats 4000000 in
set_option maxRecDepth 100000 in
theorem c_X10_noteBy {l : Launch} {D : va_G} {cI cJ cS : ClassId} {ad adK : Nat → Nat} {a_o a_kind a_other a_pitch a_space a_speed : Nat} {z_refused z_steps z_times z_base z_share z_notes z_beats z_held z_sort z_size z_shown z_cells z_carried z_words z_tell z_was z_kept z_cutSpace z_cutTimes z_cutOff z_trace : Value} {v_stretches : Int32} {v_cars : Int32} {v_tunes : Int32} {v_along : Int32} {v_near : Int32} {v_borne : Int32} {v_tempo : Int32} {v_seed : Int32} {v_fault : Int32} {v_from : Int32} {v_at : Int32} {v_end : Int32} {v_told : Int32} {v_wrongAt : Int32} {v_culprit : Int32} {v_ran : Int32} {v_isKept : Int32} {f_kind : Nat → Int32} {f_other : Nat → Int32} {f_pitch : Nat → Int32} {f_space : Nat → Int32} {f_speed : Nat → Int32} {x1 : Int32} {x2 : Int32} {x3 : Int32} {post : Int32 → Prop} (h : F_X10_noteBy v_stretches f_kind f_other f_pitch f_space f_speed x1 x2 x3 post) : Met l yX10_noteBy (Cond.code yX10_noteBy cX10_noteBy 4 (some (.int)) :: GW) (rmd 2 0 0) (PR D cI cJ cS ad adK [.ref a_o, .int x1, .int x2, .int x3] (wX10_noteBy cI cJ cS a_o a_kind a_other a_pitch a_space a_speed z_refused z_steps z_times z_base z_share z_notes z_beats z_held z_sort z_size z_shown z_cells z_carried z_words z_tell z_was z_kept z_cutSpace z_cutTimes z_cutOff z_trace v_stretches v_cars v_tunes v_along v_near v_borne v_tempo v_seed v_fault v_from v_at v_end v_told v_wrongAt v_culprit v_ran v_isKept f_kind f_other f_pitch f_space f_speed)) (vp_Si post) 0 0 nof := by
  refine Met.ro (by decide) (Nat.le_of_ble_eq_true rfl) (fun p e s m args below meth c ls (S : CallFix p m c cX10_noteBy 4 s args GW "RoadThatSingsModel") hE hT hP hS hr hlocks hl => ?_)
  have hx := S.1
  have hb := S.2.1
  have hl : lv_has ls 4 [(0, .ref a_o), (1, .int x1), (2, .int x2), (3, .int x3)] := hl
  unfold F_X10_noteBy at h
  refine lv_iload_n hx hb dX10_noteBy_0 rfl (lv_at hl 3 rfl) ?_
  refine lv_aload_n hx hb dX10_noteBy_1 rfl (lv_at hl 0 rfl) ?_
  refine gf S hE hP 0 rfl rfl inX10 (k := 0) (by decide) q1093 rfl dX10_noteBy_2 ?_
  refine lv_icmp_ge (tgt := 37) hx hb dX10_noteBy_5 (by decide) (fun hc => ?_) (fun hc => ?_)
  · have h := h.1 hc
    refine lv_sipush (v := 999) hx hb dX10_noteBy_37 (by decide) ?_
    exact W.iret hx hb hr (fun t ht _ => ⟨_, rfl, h, ht⟩) (fun _ hq => by cases hq) dX10_noteBy_40
  have h := h.2 hc
  refine lv_aload_n hx hb dX10_noteBy_8 rfl (lv_at hl 0 rfl) ?_
  refine lv_aload_n hx hb dX10_noteBy_9 rfl (lv_at hl 0 rfl) ?_
  refine lv_iload_n hx hb dX10_noteBy_10 rfl (lv_at hl 3 rfl) ?_
  refine lv_aload_n hx hb dX10_noteBy_11 rfl (lv_at hl 0 rfl) ?_
  refine gf S hE hP 0 rfl rfl inX10 (k := 15) (by decide) q1108 rfl dX10_noteBy_12 ?_
  refine lv_iload_n hx hb dX10_noteBy_15 rfl (lv_at hl 1 rfl) ?_
  obtain ⟨hi, h⟩ := h
  refine ial S hE hP 5 rfl hi dX10_noteBy_16 ?_
  refine ro_i (roV S hE hT hS (c_X10_humOf h) lkX10_232 rfl ⟨(Nat.le_of_ble_eq_true rfl), (Nat.le_of_ble_eq_true rfl)⟩ (hP.sub [0, 1, 2, 4] rfl) 0 rfl rfl hl.1 rfl (Nat.le_of_ble_eq_true rfl) dX10_noteBy_17 ⟨(Nat.zero_le _), (Nat.zero_le _)⟩) (fun r17 h => ?_)
  refine lv_aload_n hx hb dX10_noteBy_20 rfl (lv_at hl 0 rfl) ?_
  refine gf S hE hP 0 rfl rfl inX10 (k := 19) (by decide) q1112 rfl dX10_noteBy_21 ?_
  refine lv_bipush (v := 12) hx hb dX10_noteBy_24 (by decide) ?_
  refine lv_iload_n hx hb dX10_noteBy_26 rfl (lv_at hl 2 rfl) ?_
  refine lv_imul hx hb dX10_noteBy_27 ?_
  refine lv_iload_n hx hb dX10_noteBy_28 rfl (lv_at hl 3 rfl) ?_
  refine lv_iadd hx hb dX10_noteBy_29 ?_
  obtain ⟨hi, h⟩ := h
  refine ial S hE hP 3 rfl hi dX10_noteBy_30 ?_
  refine ro_i (roV S hE hT hS (c_X10_offOf h) lkX10_242 rfl ⟨(Nat.le_of_ble_eq_true rfl), (Nat.le_of_ble_eq_true rfl)⟩ (hP.sub [0] rfl) 0 rfl rfl hl.1 rfl (Nat.le_of_ble_eq_true rfl) dX10_noteBy_31 ⟨(Nat.zero_le _), (Nat.zero_le _)⟩) (fun r31 h => ?_)
  refine lv_goto (tgt := 40) hx hb dX10_noteBy_34 (by decide) ?_
  exact W.iret hx hb hr (fun t ht _ => ⟨_, rfl, h, ht⟩) (fun _ hq => by cases hq) dX10_noteBy_40
/-! X10_note -/
abbrev wX10_note (cI cJ cS : ClassId) (a_o a_kind a_notes a_other a_pitch a_refused a_space a_speed : Nat) (z_steps z_times z_base z_share z_beats z_held z_sort z_size z_shown z_cells z_carried z_words z_tell z_was z_kept z_cutSpace z_cutTimes z_cutOff z_trace : Value) (v_stretches : Int32) (v_cars : Int32) (v_tunes : Int32) (v_along : Int32) (v_near : Int32) (v_borne : Int32) (v_tempo : Int32) (v_seed : Int32) (v_fault : Int32) (v_from : Int32) (v_at : Int32) (v_end : Int32) (v_told : Int32) (v_wrongAt : Int32) (v_culprit : Int32) (v_ran : Int32) (v_isKept : Int32) (f_kind : Nat → Int32) (f_notes : Nat → Int32) (f_other : Nat → Int32) (f_pitch : Nat → Int32) (f_refused : Nat → Int32) (f_space : Nat → Int32) (f_speed : Nat → Int32) : va_W := [(a_o, .inr (9, [.int v_stretches, .int v_cars, .int v_tunes, .int v_along, .int v_near, .int v_borne, .int v_tempo, .int v_seed, .int v_fault, .ref a_refused, z_steps, .ref a_kind, .ref a_space, .ref a_other, z_times, .ref a_speed, z_base, z_share, .ref a_notes, .ref a_pitch, z_beats, z_held, z_sort, z_size, z_shown, z_cells, z_carried, z_words, z_tell, .int v_from, .int v_at, .int v_end, .int v_told, .int v_wrongAt, z_was, z_kept, .int v_culprit, z_cutSpace, z_cutTimes, z_cutOff, z_trace, .int v_ran, .int v_isKept])), (a_kind, .inl (cI, 16, .inl f_kind)), (a_notes, .inl (cI, 6, .inl f_notes)), (a_other, .inl (cI, 16, .inl f_other)), (a_pitch, .inl (cI, 72, .inl f_pitch)), (a_refused, .inl (cI, 8, .inl f_refused)), (a_space, .inl (cI, 16, .inl f_space)), (a_speed, .inl (cI, 6, .inl f_speed))]
def F_X10_note (v_stretches : Int32) (v_cars : Int32) (v_tunes : Int32) (f_kind : Nat → Int32) (f_notes : Nat → Int32) (f_other : Nat → Int32) (f_pitch : Nat → Int32) (f_refused : Nat → Int32) (f_space : Nat → Int32) (f_speed : Nat → Int32) (x1 : Int32) (x2 : Int32) (x3 : Int32) (post : Int32 → (Nat → Int32) → Prop) : Prop := (F_X10_isCar v_cars x1 (fun r2 => ((r2 = 0 → (F_X10_no f_refused (-1) (fun r32 w32_0 => post r32 w32_0))) ∧ (¬ r2 = 0 → (F_X10_isTune v_tunes x2 (fun r10 => ((r10 = 0 → (F_X10_no f_refused (-1) (fun r32 w32_0 => post r32 w32_0))) ∧ (¬ r10 = 0 → ((x3 < 0 → (F_X10_no f_refused (-1) (fun r32 w32_0 => post r32 w32_0))) ∧ (¬ x3 < 0 → (vp_in x2 6 ∧ ((x3 < (f_notes x2.toNatClampNeg) → (F_X10_noteBy v_stretches f_kind f_other f_pitch f_space f_speed x1 x2 x3 (fun r40 => post r40 f_refused))) ∧ (¬ x3 < (f_notes x2.toNatClampNeg) → (F_X10_no f_refused (-1) (fun r32 w32_0 => post r32 w32_0)))))))))))))))
set_option maxHeartbeats 4000000 in
set_option maxRecDepth 100000 in
theorem c_X10_note {l : Launch} {D : va_G} {cI cJ cS : ClassId} {ad adK : Nat → Nat} {a_o a_kind a_notes a_other a_pitch a_refused a_space a_speed : Nat} {z_steps z_times z_base z_share z_beats z_held z_sort z_size z_shown z_cells z_carried z_words z_tell z_was z_kept z_cutSpace z_cutTimes z_cutOff z_trace : Value} {v_stretches : Int32} {v_cars : Int32} {v_tunes : Int32} {v_along : Int32} {v_near : Int32} {v_borne : Int32} {v_tempo : Int32} {v_seed : Int32} {v_fault : Int32} {v_from : Int32} {v_at : Int32} {v_end : Int32} {v_told : Int32} {v_wrongAt : Int32} {v_culprit : Int32} {v_ran : Int32} {v_isKept : Int32} {f_kind : Nat → Int32} {f_notes : Nat → Int32} {f_other : Nat → Int32} {f_pitch : Nat → Int32} {f_refused : Nat → Int32} {f_space : Nat → Int32} {f_speed : Nat → Int32} {x1 : Int32} {x2 : Int32} {x3 : Int32} {post : Int32 → (Nat → Int32) → Prop} (h : F_X10_note v_stretches v_cars v_tunes f_kind f_notes f_other f_pitch f_refused f_space f_speed x1 x2 x3 post) {sz : Nat} : Met l yX10_note (Cond.code yX10_note cX10_note 4 (some (.int)) :: GW) (rmd 3 0 0) (PW D cI cJ cS ad adK [.ref a_o, .int x1, .int x2, .int x3] (wX10_note cI cJ cS a_o a_kind a_notes a_other a_pitch a_refused a_space a_speed z_steps z_times z_base z_share z_beats z_held z_sort z_size z_shown z_cells z_carried z_words z_tell z_was z_kept z_cutSpace z_cutTimes z_cutOff z_trace v_stretches v_cars v_tunes v_along v_near v_borne v_tempo v_seed v_fault v_from v_at v_end v_told v_wrongAt v_culprit v_ran v_isKept f_kind f_notes f_other f_pitch f_refused f_space f_speed) sz) (va_Qi (fun r (u : (Nat → Int32)) => post r u) (fun u t => va_P D vwCl (wX10_note cI cJ cS a_o a_kind a_notes a_other a_pitch a_refused a_space a_speed z_steps z_times z_base z_share z_beats z_held z_sort z_size z_shown z_cells z_carried z_words z_tell z_was z_kept z_cutSpace z_cutTimes z_cutOff z_trace v_stretches v_cars v_tunes v_along v_near v_borne v_tempo v_seed v_fault v_from v_at v_end v_told v_wrongAt v_culprit v_ran v_isKept f_kind f_notes f_other f_pitch u f_space f_speed) t.heap) (va_A (wX10_note cI cJ cS a_o a_kind a_notes a_other a_pitch a_refused a_space a_speed z_steps z_times z_base z_share z_beats z_held z_sort z_size z_shown z_cells z_carried z_words z_tell z_was z_kept z_cutSpace z_cutTimes z_cutOff z_trace v_stretches v_cars v_tunes v_along v_near v_borne v_tempo v_seed v_fault v_from v_at v_end v_told v_wrongAt v_culprit v_ran v_isKept f_kind f_notes f_other f_pitch f_refused f_space f_speed) sz)) 0 0 (va_A (wX10_note cI cJ cS a_o a_kind a_notes a_other a_pitch a_refused a_space a_speed z_steps z_times z_base z_share z_beats z_held z_sort z_size z_shown z_cells z_carried z_words z_tell z_was z_kept z_cutSpace z_cutTimes z_cutOff z_trace v_stretches v_cars v_tunes v_along v_near v_borne v_tempo v_seed v_fault v_from v_at v_end v_told v_wrongAt v_culprit v_ran v_isKept f_kind f_notes f_other f_pitch f_refused f_space f_speed) sz) := by
  refine Met.rw (Qc := fun A => (va_Qi (fun r (u : (Nat → Int32)) => post r u) (fun u t => va_P D vwCl (wX10_note cI cJ cS a_o a_kind a_notes a_other a_pitch a_refused a_space a_speed z_steps z_times z_base z_share z_beats z_held z_sort z_size z_shown z_cells z_carried z_words z_tell z_was z_kept z_cutSpace z_cutTimes z_cutOff z_trace v_stretches v_cars v_tunes v_along v_near v_borne v_tempo v_seed v_fault v_from v_at v_end v_told v_wrongAt v_culprit v_ran v_isKept f_kind f_notes f_other f_pitch u f_space f_speed) t.heap) A)) (by decide) (Nat.le_of_ble_eq_true rfl) (fun p e s m args below meth c ls A (S : CallFix p m c cX10_note 4 s args GW "RoadThatSingsModel") hE hT hP hD hA hS hr hlocks hname hl => ?_)
  have hS0 := hS
  have hx := S.1
  have hb := S.2.1
  have hl : lv_has ls 4 [(0, .ref a_o), (1, .int x1), (2, .int x2), (3, .int x3)] := hl
  unfold F_X10_note at h
  refine lv_aload_n hx hb dX10_note_0 rfl (lv_at hl 0 rfl) ?_
  refine lv_iload_n hx hb dX10_note_1 rfl (lv_at hl 1 rfl) ?_
  refine ro_i (roV S hE hT hS (c_X10_isCar h) lkX10_165 rfl ⟨(Nat.le_of_ble_eq_true rfl), (Nat.le_of_ble_eq_true rfl)⟩ (hP.sub [0] rfl) 0 rfl rfl hl.1 rfl (Nat.le_of_ble_eq_true rfl) dX10_note_2 ⟨(Nat.zero_le _), (Nat.zero_le _)⟩) (fun r2 h => ?_)
  refine lv_if_eq (tgt := 30) hx hb dX10_note_5 (by decide) (fun hc => ?_) (fun hc => ?_)
  · have h := h.1 hc
    refine lv_aload_n hx hb dX10_note_30 rfl (lv_at hl 0 rfl) ?_
    refine lv_iconst (v := (-1)) hx hb dX10_note_31 (by decide) ?_
    refine rw_i (rwV S hE hT hS hP hD hA (c_X10_no h) [0, 5] rfl (by decide) lkX10_121 rfl ⟨(Nat.le_of_ble_eq_true rfl), (Nat.le_of_ble_eq_true rfl)⟩ 0 rfl rfl hl.1 rfl (Nat.le_of_ble_eq_true rfl) dX10_note_32 ⟨(Nat.zero_le _), (Nat.zero_le _)⟩) hP hD hS hA [0, 5] rfl (by decide) (fun _ => rfl) (fun r32 w32_0 H locs h hP hD hS => ?_)
    try dsimp only at h
    have hP : va_P D vwCl (wX10_note cI cJ cS a_o a_kind a_notes a_other a_pitch a_refused a_space a_speed z_steps z_times z_base z_share z_beats z_held z_sort z_size z_shown z_cells z_carried z_words z_tell z_was z_kept z_cutSpace z_cutTimes z_cutOff z_trace v_stretches v_cars v_tunes v_along v_near v_borne v_tempo v_seed v_fault v_from v_at v_end v_told v_wrongAt v_culprit v_ran v_isKept f_kind f_notes f_other f_pitch w32_0 f_space f_speed) H := hP
    have hD : va_D A (wX10_note cI cJ cS a_o a_kind a_notes a_other a_pitch a_refused a_space a_speed z_steps z_times z_base z_share z_beats z_held z_sort z_size z_shown z_cells z_carried z_words z_tell z_was z_kept z_cutSpace z_cutTimes z_cutOff z_trace v_stretches v_cars v_tunes v_along v_near v_borne v_tempo v_seed v_fault v_from v_at v_end v_told v_wrongAt v_culprit v_ran v_isKept f_kind f_notes f_other f_pitch w32_0 f_space f_speed) := hD
    exact W.iret hx hb hr (fun t ht _ => ⟨⟨_, w32_0, rfl, h, hPt hP ht⟩, hS.F ht⟩) hS.2.2 dX10_note_35
  have h := h.2 hc
  refine lv_aload_n hx hb dX10_note_8 rfl (lv_at hl 0 rfl) ?_
  refine lv_iload_n hx hb dX10_note_9 rfl (lv_at hl 2 rfl) ?_
  refine ro_i (roV S hE hT hS (c_X10_isTune h) lkX10_168 rfl ⟨(Nat.le_of_ble_eq_true rfl), (Nat.le_of_ble_eq_true rfl)⟩ (hP.sub [0] rfl) 0 rfl rfl hl.1 rfl (Nat.le_of_ble_eq_true rfl) dX10_note_10 ⟨(Nat.zero_le _), (Nat.zero_le _)⟩) (fun r10 h => ?_)
  refine lv_if_eq (tgt := 30) hx hb dX10_note_13 (by decide) (fun hc => ?_) (fun hc => ?_)
  · have h := h.1 hc
    refine lv_aload_n hx hb dX10_note_30 rfl (lv_at hl 0 rfl) ?_
    refine lv_iconst (v := (-1)) hx hb dX10_note_31 (by decide) ?_
    refine rw_i (rwV S hE hT hS hP hD hA (c_X10_no h) [0, 5] rfl (by decide) lkX10_121 rfl ⟨(Nat.le_of_ble_eq_true rfl), (Nat.le_of_ble_eq_true rfl)⟩ 0 rfl rfl hl.1 rfl (Nat.le_of_ble_eq_true rfl) dX10_note_32 ⟨(Nat.zero_le _), (Nat.zero_le _)⟩) hP hD hS hA [0, 5] rfl (by decide) (fun _ => rfl) (fun r32 w32_0 H locs h hP hD hS => ?_)
    try dsimp only at h
    have hP : va_P D vwCl (wX10_note cI cJ cS a_o a_kind a_notes a_other a_pitch a_refused a_space a_speed z_steps z_times z_base z_share z_beats z_held z_sort z_size z_shown z_cells z_carried z_words z_tell z_was z_kept z_cutSpace z_cutTimes z_cutOff z_trace v_stretches v_cars v_tunes v_along v_near v_borne v_tempo v_seed v_fault v_from v_at v_end v_told v_wrongAt v_culprit v_ran v_isKept f_kind f_notes f_other f_pitch w32_0 f_space f_speed) H := hP
    have hD : va_D A (wX10_note cI cJ cS a_o a_kind a_notes a_other a_pitch a_refused a_space a_speed z_steps z_times z_base z_share z_beats z_held z_sort z_size z_shown z_cells z_carried z_words z_tell z_was z_kept z_cutSpace z_cutTimes z_cutOff z_trace v_stretches v_cars v_tunes v_along v_near v_borne v_tempo v_seed v_fault v_from v_at v_end v_told v_wrongAt v_culprit v_ran v_isKept f_kind f_notes f_other f_pitch w32_0 f_space f_speed) := hD
    exact W.iret hx hb hr (fun t ht _ => ⟨⟨_, w32_0, rfl, h, hPt hP ht⟩, hS.F ht⟩) hS.2.2 dX10_note_35
  have h := h.2 hc
  refine lv_iload_n hx hb dX10_note_16 rfl (lv_at hl 3 rfl) ?_
  refine lv_if_lt (tgt := 30) hx hb dX10_note_17 (by decide) (fun hc => ?_) (fun hc => ?_)
  · have h := h.1 hc
    refine lv_aload_n hx hb dX10_note_30 rfl (lv_at hl 0 rfl) ?_
    refine lv_iconst (v := (-1)) hx hb dX10_note_31 (by decide) ?_
    refine rw_i (rwV S hE hT hS hP hD hA (c_X10_no h) [0, 5] rfl (by decide) lkX10_121 rfl ⟨(Nat.le_of_ble_eq_true rfl), (Nat.le_of_ble_eq_true rfl)⟩ 0 rfl rfl hl.1 rfl (Nat.le_of_ble_eq_true rfl) dX10_note_32 ⟨(Nat.zero_le _), (Nat.zero_le _)⟩) hP hD hS hA [0, 5] rfl (by decide) (fun _ => rfl) (fun r32 w32_0 H locs h hP hD hS => ?_)
    try dsimp only at h
    have hP : va_P D vwCl (wX10_note cI cJ cS a_o a_kind a_notes a_other a_pitch a_refused a_space a_speed z_steps z_times z_base z_share z_beats z_held z_sort z_size z_shown z_cells z_carried z_words z_tell z_was z_kept z_cutSpace z_cutTimes z_cutOff z_trace v_stretches v_cars v_tunes v_along v_near v_borne v_tempo v_seed v_fault v_from v_at v_end v_told v_wrongAt v_culprit v_ran v_isKept f_kind f_notes f_other f_pitch w32_0 f_space f_speed) H := hP
    have hD : va_D A (wX10_note cI cJ cS a_o a_kind a_notes a_other a_pitch a_refused a_space a_speed z_steps z_times z_base z_share z_beats z_held z_sort z_size z_shown z_cells z_carried z_words z_tell z_was z_kept z_cutSpace z_cutTimes z_cutOff z_trace v_stretches v_cars v_tunes v_along v_near v_borne v_tempo v_seed v_fault v_from v_at v_end v_told v_wrongAt v_culprit v_ran v_isKept f_kind f_notes f_other f_pitch w32_0 f_space f_speed) := hD
    exact W.iret hx hb hr (fun t ht _ => ⟨⟨_, w32_0, rfl, h, hPt hP ht⟩, hS.F ht⟩) hS.2.2 dX10_note_35
  have h := h.2 hc
  refine lv_iload_n hx hb dX10_note_20 rfl (lv_at hl 3 rfl) ?_
  refine lv_aload_n hx hb dX10_note_21 rfl (lv_at hl 0 rfl) ?_
  refine gf S hE hP 0 rfl rfl inX10 (k := 18) (by decide) q1111 rfl dX10_note_22 ?_
  refine lv_iload_n hx hb dX10_note_25 rfl (lv_at hl 2 rfl) ?_
  obtain ⟨hi, h⟩ := h
  refine ial S hE hP 2 rfl hi dX10_note_26 ?_
  refine lv_icmp_lt (tgt := 36) hx hb dX10_note_27 (by decide) (fun hc => ?_) (fun hc => ?_)
  · have h := h.1 hc
    refine lv_aload_n hx hb dX10_note_36 rfl (lv_at hl 0 rfl) ?_
    refine lv_iload_n hx hb dX10_note_37 rfl (lv_at hl 1 rfl) ?_
    refine lv_iload_n hx hb dX10_note_38 rfl (lv_at hl 2 rfl) ?_
    refine lv_iload_n hx hb dX10_note_39 rfl (lv_at hl 3 rfl) ?_
    refine ro_i (roV S hE hT hS (c_X10_noteBy h) lkX10_245 rfl ⟨(Nat.le_of_ble_eq_true rfl), (Nat.le_of_ble_eq_true rfl)⟩ (hP.sub [0, 1, 3, 4, 6, 7] rfl) 0 rfl rfl hl.1 rfl (Nat.le_of_ble_eq_true rfl) dX10_note_40 ⟨(Nat.zero_le _), (Nat.zero_le _)⟩) (fun r40 h => ?_)
    exact W.iret hx hb hr (fun t ht _ => ⟨⟨_, f_refused, rfl, h, hPt hP ht⟩, hS.F ht⟩) hS.2.2 dX10_note_43
  have h := h.2 hc
  refine lv_aload_n hx hb dX10_note_30 rfl (lv_at hl 0 rfl) ?_
  refine lv_iconst (v := (-1)) hx hb dX10_note_31 (by decide) ?_
  refine rw_i (rwV S hE hT hS hP hD hA (c_X10_no h) [0, 5] rfl (by decide) lkX10_121 rfl ⟨(Nat.le_of_ble_eq_true rfl), (Nat.le_of_ble_eq_true rfl)⟩ 0 rfl rfl hl.1 rfl (Nat.le_of_ble_eq_true rfl) dX10_note_32 ⟨(Nat.zero_le _), (Nat.zero_le _)⟩) hP hD hS hA [0, 5] rfl (by decide) (fun _ => rfl) (fun r32 w32_0 H locs h hP hD hS => ?_)
  try dsimp only at h
  have hP : va_P D vwCl (wX10_note cI cJ cS a_o a_kind a_notes a_other a_pitch a_refused a_space a_speed z_steps z_times z_base z_share z_beats z_held z_sort z_size z_shown z_cells z_carried z_words z_tell z_was z_kept z_cutSpace z_cutTimes z_cutOff z_trace v_stretches v_cars v_tunes v_along v_near v_borne v_tempo v_seed v_fault v_from v_at v_end v_told v_wrongAt v_culprit v_ran v_isKept f_kind f_notes f_other f_pitch w32_0 f_space f_speed) H := hP
  have hD : va_D A (wX10_note cI cJ cS a_o a_kind a_notes a_other a_pitch a_refused a_space a_speed z_steps z_times z_base z_share z_beats z_held z_sort z_size z_shown z_cells z_carried z_words z_tell z_was z_kept z_cutSpace z_cutTimes z_cutOff z_trace v_stretches v_cars v_tunes v_along v_near v_borne v_tempo v_seed v_fault v_from v_at v_end v_told v_wrongAt v_culprit v_ran v_isKept f_kind f_notes f_other f_pitch w32_0 f_space f_speed) := hD
  exact W.iret hx hb hr (fun t ht _ => ⟨⟨_, w32_0, rfl, h, hPt hP ht⟩, hS.F ht⟩) hS.2.2 dX10_note_35
/-! X10_worstOf -/
abbrev wX10_worstOf (cI cJ cS : ClassId) (a_o a_kind a_notes a_other a_pitch a_space a_speed : Nat) (z_refused z_steps z_times z_base z_share z_beats z_held z_sort z_size z_shown z_cells z_carried z_words z_tell z_was z_kept z_cutSpace z_cutTimes z_cutOff z_trace : Value) (v_stretches : Int32) (v_cars : Int32) (v_tunes : Int32) (v_along : Int32) (v_near : Int32) (v_borne : Int32) (v_tempo : Int32) (v_seed : Int32) (v_fault : Int32) (v_from : Int32) (v_at : Int32) (v_end : Int32) (v_told : Int32) (v_wrongAt : Int32) (v_culprit : Int32) (v_ran : Int32) (v_isKept : Int32) (f_kind : Nat → Int32) (f_notes : Nat → Int32) (f_other : Nat → Int32) (f_pitch : Nat → Int32) (f_space : Nat → Int32) (f_speed : Nat → Int32) : va_W := [(a_o, .inr (9, [.int v_stretches, .int v_cars, .int v_tunes, .int v_along, .int v_near, .int v_borne, .int v_tempo, .int v_seed, .int v_fault, z_refused, z_steps, .ref a_kind, .ref a_space, .ref a_other, z_times, .ref a_speed, z_base, z_share, .ref a_notes, .ref a_pitch, z_beats, z_held, z_sort, z_size, z_shown, z_cells, z_carried, z_words, z_tell, .int v_from, .int v_at, .int v_end, .int v_told, .int v_wrongAt, z_was, z_kept, .int v_culprit, z_cutSpace, z_cutTimes, z_cutOff, z_trace, .int v_ran, .int v_isKept])), (a_kind, .inl (cI, 16, .inl f_kind)), (a_notes, .inl (cI, 6, .inl f_notes)), (a_other, .inl (cI, 16, .inl f_other)), (a_pitch, .inl (cI, 72, .inl f_pitch)), (a_space, .inl (cI, 16, .inl f_space)), (a_speed, .inl (cI, 6, .inl f_speed))]
def F_X10_worstOf_38 (k5 : Int32 → Int32 → Prop) (x1 : Int32) (x2 : Int32) (x4 : Int32) (s0 : Int32) : Prop := (∀ x4_39 : Int32, x4_39 = x4 + 1 → k5 s0 x4_39)
def L_X10_worstOf_5 (v_stretches : Int32) (f_kind : Nat → Int32) (f_notes : Nat → Int32) (f_other : Nat → Int32) (f_pitch : Nat → Int32) (f_space : Nat → Int32) (f_speed : Nat → Int32) (x1 : Int32) (x2 : Int32) (post : Int32 → Prop) : Nat → Int32 → Int32 → Prop
  | 0, _, _ => False
  | n5 + 1, x3, x4 => (vp_in x2 6 ∧ (((f_notes x2.toNatClampNeg) ≤ x4 → post x3) ∧ (¬ (f_notes x2.toNatClampNeg) ≤ x4 → (F_X10_noteBy v_stretches f_kind f_other f_pitch f_space f_speed x1 x2 x4 (fun r21 => ((r21 ≤ x3 → F_X10_worstOf_38 (fun x3 x4 => L_X10_worstOf_5 v_stretches f_kind f_notes f_other f_pitch f_space f_speed x1 x2 post n5 x3 x4) x1 x2 x4 x3) ∧ (¬ r21 ≤ x3 → F_X10_worstOf_38 (fun x3 x4 => L_X10_worstOf_5 v_stretches f_kind f_notes f_other f_pitch f_space f_speed x1 x2 post n5 x3 x4) x1 x2 x4 r21)))))))
def F_X10_worstOf (v_stretches : Int32) (f_kind : Nat → Int32) (f_notes : Nat → Int32) (f_other : Nat → Int32) (f_pitch : Nat → Int32) (f_space : Nat → Int32) (f_speed : Nat → Int32) (x1 : Int32) (x2 : Int32) (post : Int32 → Prop) : Prop := (∃ n5 : Nat, L_X10_worstOf_5 v_stretches f_kind f_notes f_other f_pitch f_space f_speed x1 x2 post n5 0 0)
set_option maxHeartbeats 4000000 in
set_option maxRecDepth 100000 in
theorem w_X10_worstOf_38 {l : Launch} {D : va_G} {cI cJ cS : ClassId} {ad adK : Nat → Nat} {a_o a_kind a_notes a_other a_pitch a_space a_speed : Nat} {z_refused z_steps z_times z_base z_share z_beats z_held z_sort z_size z_shown z_cells z_carried z_words z_tell z_was z_kept z_cutSpace z_cutTimes z_cutOff z_trace : Value} {v_stretches : Int32} {v_cars : Int32} {v_tunes : Int32} {v_along : Int32} {v_near : Int32} {v_borne : Int32} {v_tempo : Int32} {v_seed : Int32} {v_fault : Int32} {v_from : Int32} {v_at : Int32} {v_end : Int32} {v_told : Int32} {v_wrongAt : Int32} {v_culprit : Int32} {v_ran : Int32} {v_isKept : Int32} {f_kind : Nat → Int32} {f_notes : Nat → Int32} {f_other : Nat → Int32} {f_pitch : Nat → Int32} {f_space : Nat → Int32} {f_speed : Nat → Int32} {x1 : Int32} {x2 : Int32} {x4 : Int32} {s0 : Int32} {post : Int32 → Prop} {k5 : Int32 → Int32 → Prop} {p : Program} {e : Env} {s : State} {m : MethodId} {args : Array Value} {below : List Frame} {meth : Method} {c : Code} (S : CallFix p m c cX10_worstOf 6 s args GW "RoadThatSingsModel") (hE : EN D cI cJ cS s) (hT : ST ad adK nof s s.heap) (hP : va_P D vwCl (wX10_worstOf cI cJ cS a_o a_kind a_notes a_other a_pitch a_space a_speed z_refused z_steps z_times z_base z_share z_beats z_held z_sort z_size z_shown z_cells z_carried z_words z_tell z_was z_kept z_cutSpace z_cutTimes z_cutOff z_trace v_stretches v_cars v_tunes v_along v_near v_borne v_tempo v_seed v_fault v_from v_at v_end v_told v_wrongAt v_culprit v_ran v_isKept f_kind f_notes f_other f_pitch f_space f_speed) s.heap) (hS : va_S nof s.heap s.heap []) (hr : meth.sig.returnType = (some (.int))) (hlocks : meth.locks = false) (hk5 : ∀ (x3 : Int32) (x4 : Int32) (ls : Array Slot), k5 x3 x4 → lv_has ls 6 [(0, .ref a_o), (1, .int x1), (2, .int x2), (3, .int x3), (4, .int x4)] → W p l e (rmd 3 0 0) s m args below meth c s.heap [] 0 0 (MQ below (vp_Si post) args s 0 0 nof) (F0 m 5 ls [])) : ∀ (ls : Array Slot), F_X10_worstOf_38 k5 x1 x2 x4 s0 → lv_has ls 6 [(0, .ref a_o), (1, .int x1), (2, .int x2), (4, .int x4)] → W p l e (rmd 3 0 0) s m args below meth c s.heap [] 0 0 (MQ below (vp_Si post) args s 0 0 nof) (F0 m 38 ls [.int s0]) := by
  intro  ls h hl
  unfold F_X10_worstOf_38 at h
  have hx := S.1
  have hb := S.2.1
  refine lv_istore_n (lv' := [(3, .int s0), (0, .ref a_o), (1, .int x1), (2, .int x2), (4, .int x4)]) hx hb dX10_worstOf_38 rfl hl (by decide) rfl (fun ls hl => ?_)
  obtain ⟨x4_39, ex4_39⟩ : ∃ z : Int32, z = x4 + 1 := ⟨_, rfl⟩
  have h := h _ ex4_39
  refine lv_iinc (v := x4_39) (lv' := [(4, .int x4_39), (3, .int s0), (0, .ref a_o), (1, .int x1), (2, .int x2)]) hx hb dX10_worstOf_39 hl (k := 4) rfl (by rw [ex4_39]; rfl) (by decide) rfl (fun ls hl => ?_)
  refine lv_goto (tgt := 5) hx hb dX10_worstOf_42 (by decide) ?_
  exact hk5 _ _ _ h (lv_sub hl [2, 3, 4, 1, 0] rfl)
set_option maxHeartbeats 4000000 in
set_option maxRecDepth 100000 in
theorem w_X10_worstOf_5 {l : Launch} {D : va_G} {cI cJ cS : ClassId} {ad adK : Nat → Nat} {a_o a_kind a_notes a_other a_pitch a_space a_speed : Nat} {z_refused z_steps z_times z_base z_share z_beats z_held z_sort z_size z_shown z_cells z_carried z_words z_tell z_was z_kept z_cutSpace z_cutTimes z_cutOff z_trace : Value} {v_stretches : Int32} {v_cars : Int32} {v_tunes : Int32} {v_along : Int32} {v_near : Int32} {v_borne : Int32} {v_tempo : Int32} {v_seed : Int32} {v_fault : Int32} {v_from : Int32} {v_at : Int32} {v_end : Int32} {v_told : Int32} {v_wrongAt : Int32} {v_culprit : Int32} {v_ran : Int32} {v_isKept : Int32} {f_kind : Nat → Int32} {f_notes : Nat → Int32} {f_other : Nat → Int32} {f_pitch : Nat → Int32} {f_space : Nat → Int32} {f_speed : Nat → Int32} {x1 : Int32} {x2 : Int32} {post : Int32 → Prop} {p : Program} {e : Env} {s : State} {m : MethodId} {args : Array Value} {below : List Frame} {meth : Method} {c : Code} (S : CallFix p m c cX10_worstOf 6 s args GW "RoadThatSingsModel") (hE : EN D cI cJ cS s) (hT : ST ad adK nof s s.heap) (hP : va_P D vwCl (wX10_worstOf cI cJ cS a_o a_kind a_notes a_other a_pitch a_space a_speed z_refused z_steps z_times z_base z_share z_beats z_held z_sort z_size z_shown z_cells z_carried z_words z_tell z_was z_kept z_cutSpace z_cutTimes z_cutOff z_trace v_stretches v_cars v_tunes v_along v_near v_borne v_tempo v_seed v_fault v_from v_at v_end v_told v_wrongAt v_culprit v_ran v_isKept f_kind f_notes f_other f_pitch f_space f_speed) s.heap) (hS : va_S nof s.heap s.heap []) (hr : meth.sig.returnType = (some (.int))) (hlocks : meth.locks = false) : ∀ n : Nat, ∀ (x3 : Int32) (x4 : Int32) (ls : Array Slot), L_X10_worstOf_5 v_stretches f_kind f_notes f_other f_pitch f_space f_speed x1 x2 post n x3 x4 → lv_has ls 6 [(0, .ref a_o), (1, .int x1), (2, .int x2), (3, .int x3), (4, .int x4)] → W p l e (rmd 3 0 0) s m args below meth c s.heap [] 0 0 (MQ below (vp_Si post) args s 0 0 nof) (F0 m 5 ls []) := by
  intro n
  induction n with
  | zero =>
    intro x3 x4 ls h hl
    exact h.elim
  | succ n ih =>
    intro x3 x4 ls h hl
    rw [L_X10_worstOf_5] at h
    have hx := S.1
    have hb := S.2.1
    refine lv_iload hx hb dX10_worstOf_5 (lv_at hl 4 rfl) ?_
    refine lv_aload_n hx hb dX10_worstOf_7 rfl (lv_at hl 0 rfl) ?_
    refine gf S hE hP 0 rfl rfl inX10 (k := 18) (by decide) q1111 rfl dX10_worstOf_8 ?_
    refine lv_iload_n hx hb dX10_worstOf_11 rfl (lv_at hl 2 rfl) ?_
    obtain ⟨hi, h⟩ := h
    refine ial S hE hP 2 rfl hi dX10_worstOf_12 ?_
    refine lv_icmp_ge (tgt := 45) hx hb dX10_worstOf_13 (by decide) (fun hc => ?_) (fun hc => ?_)
    · have h := h.1 hc
      refine lv_iload_n hx hb dX10_worstOf_45 rfl (lv_at hl 3 rfl) ?_
      exact W.iret hx hb hr (fun t ht _ => ⟨_, rfl, h, ht⟩) (fun _ hq => by cases hq) dX10_worstOf_46
    have h := h.2 hc
    refine lv_aload_n hx hb dX10_worstOf_16 rfl (lv_at hl 0 rfl) ?_
    refine lv_iload_n hx hb dX10_worstOf_17 rfl (lv_at hl 1 rfl) ?_
    refine lv_iload_n hx hb dX10_worstOf_18 rfl (lv_at hl 2 rfl) ?_
    refine lv_iload hx hb dX10_worstOf_19 (lv_at hl 4 rfl) ?_
    refine ro_i (roV S hE hT hS (c_X10_noteBy h) lkX10_245 rfl ⟨(Nat.le_of_ble_eq_true rfl), (Nat.le_of_ble_eq_true rfl)⟩ (hP.sub [0, 1, 3, 4, 5, 6] rfl) 0 rfl rfl hl.1 rfl (Nat.le_of_ble_eq_true rfl) dX10_worstOf_21 ⟨(Nat.zero_le _), (Nat.zero_le _)⟩) (fun r21 h => ?_)
    refine lv_istore (lv' := [(5, .int r21), (0, .ref a_o), (1, .int x1), (2, .int x2), (3, .int x3), (4, .int x4)]) hx hb dX10_worstOf_24 hl (by decide) rfl (fun ls hl => ?_)
    refine lv_iload hx hb dX10_worstOf_26 (lv_at hl 0 rfl) ?_
    refine lv_iload_n hx hb dX10_worstOf_28 rfl (lv_at hl 4 rfl) ?_
    refine lv_icmp_le (tgt := 37) hx hb dX10_worstOf_29 (by decide) (fun hc => ?_) (fun hc => ?_)
    · have h := h.1 hc
      refine lv_iload_n hx hb dX10_worstOf_37 rfl (lv_at hl 4 rfl) ?_
      refine w_X10_worstOf_38 S hE hT hP hS hr hlocks ih _ h (lv_sub hl [1, 2, 3, 5] rfl)
    have h := h.2 hc
    refine lv_iload hx hb dX10_worstOf_32 (lv_at hl 0 rfl) ?_
    refine lv_goto (tgt := 38) hx hb dX10_worstOf_34 (by decide) ?_
    refine w_X10_worstOf_38 S hE hT hP hS hr hlocks ih _ h (lv_sub hl [1, 2, 3, 5] rfl)
set_option maxHeartbeats 4000000 in
set_option maxRecDepth 100000 in
theorem c_X10_worstOf {l : Launch} {D : va_G} {cI cJ cS : ClassId} {ad adK : Nat → Nat} {a_o a_kind a_notes a_other a_pitch a_space a_speed : Nat} {z_refused z_steps z_times z_base z_share z_beats z_held z_sort z_size z_shown z_cells z_carried z_words z_tell z_was z_kept z_cutSpace z_cutTimes z_cutOff z_trace : Value} {v_stretches : Int32} {v_cars : Int32} {v_tunes : Int32} {v_along : Int32} {v_near : Int32} {v_borne : Int32} {v_tempo : Int32} {v_seed : Int32} {v_fault : Int32} {v_from : Int32} {v_at : Int32} {v_end : Int32} {v_told : Int32} {v_wrongAt : Int32} {v_culprit : Int32} {v_ran : Int32} {v_isKept : Int32} {f_kind : Nat → Int32} {f_notes : Nat → Int32} {f_other : Nat → Int32} {f_pitch : Nat → Int32} {f_space : Nat → Int32} {f_speed : Nat → Int32} {x1 : Int32} {x2 : Int32} {post : Int32 → Prop} (h : F_X10_worstOf v_stretches f_kind f_notes f_other f_pitch f_space f_speed x1 x2 post) : Met l yX10_worstOf (Cond.code yX10_worstOf cX10_worstOf 6 (some (.int)) :: GW) (rmd 3 0 0) (PR D cI cJ cS ad adK [.ref a_o, .int x1, .int x2] (wX10_worstOf cI cJ cS a_o a_kind a_notes a_other a_pitch a_space a_speed z_refused z_steps z_times z_base z_share z_beats z_held z_sort z_size z_shown z_cells z_carried z_words z_tell z_was z_kept z_cutSpace z_cutTimes z_cutOff z_trace v_stretches v_cars v_tunes v_along v_near v_borne v_tempo v_seed v_fault v_from v_at v_end v_told v_wrongAt v_culprit v_ran v_isKept f_kind f_notes f_other f_pitch f_space f_speed)) (vp_Si post) 0 0 nof := by
  refine Met.ro (by decide) (Nat.le_of_ble_eq_true rfl) (fun p e s m args below meth c ls (S : CallFix p m c cX10_worstOf 6 s args GW "RoadThatSingsModel") hE hT hP hS hr hlocks hl => ?_)
  have hx := S.1
  have hb := S.2.1
  have hl : lv_has ls 6 [(0, .ref a_o), (1, .int x1), (2, .int x2)] := hl
  unfold F_X10_worstOf at h
  refine lv_iconst (v := 0) hx hb dX10_worstOf_0 (by decide) ?_
  refine lv_istore_n (lv' := [(3, .int 0), (0, .ref a_o), (1, .int x1), (2, .int x2)]) hx hb dX10_worstOf_1 rfl hl (by decide) rfl (fun ls hl => ?_)
  refine lv_iconst (v := 0) hx hb dX10_worstOf_2 (by decide) ?_
  refine lv_istore (lv' := [(4, .int 0), (3, .int 0), (0, .ref a_o), (1, .int x1), (2, .int x2)]) hx hb dX10_worstOf_3 hl (by decide) rfl (fun ls hl => ?_)
  obtain ⟨n, h⟩ := h
  refine w_X10_worstOf_5 S hE hT hP hS hr hlocks n _ _ _ h (lv_sub hl [2, 3, 4, 1, 0] rfl)
/-! X10_lateOf -/
abbrev wX10_lateOf (cI cJ cS : ClassId) (a_o a_beats a_kind a_notes a_other a_space a_speed a_times : Nat) (z_refused z_steps z_base z_share z_pitch z_held z_sort z_size z_shown z_cells z_carried z_words z_tell z_was z_kept z_cutSpace z_cutTimes z_cutOff z_trace : Value) (v_stretches : Int32) (v_cars : Int32) (v_tunes : Int32) (v_along : Int32) (v_near : Int32) (v_borne : Int32) (v_tempo : Int32) (v_seed : Int32) (v_fault : Int32) (v_from : Int32) (v_at : Int32) (v_end : Int32) (v_told : Int32) (v_wrongAt : Int32) (v_culprit : Int32) (v_ran : Int32) (v_isKept : Int32) (f_beats : Nat → Int32) (f_kind : Nat → Int32) (f_notes : Nat → Int32) (f_other : Nat → Int32) (f_space : Nat → Int32) (f_speed : Nat → Int32) (f_times : Nat → Int32) : va_W := [(a_o, .inr (9, [.int v_stretches, .int v_cars, .int v_tunes, .int v_along, .int v_near, .int v_borne, .int v_tempo, .int v_seed, .int v_fault, z_refused, z_steps, .ref a_kind, .ref a_space, .ref a_other, .ref a_times, .ref a_speed, z_base, z_share, .ref a_notes, z_pitch, .ref a_beats, z_held, z_sort, z_size, z_shown, z_cells, z_carried, z_words, z_tell, .int v_from, .int v_at, .int v_end, .int v_told, .int v_wrongAt, z_was, z_kept, .int v_culprit, z_cutSpace, z_cutTimes, z_cutOff, z_trace, .int v_ran, .int v_isKept])), (a_beats, .inl (cI, 72, .inl f_beats)), (a_kind, .inl (cI, 16, .inl f_kind)), (a_notes, .inl (cI, 6, .inl f_notes)), (a_other, .inl (cI, 16, .inl f_other)), (a_space, .inl (cI, 16, .inl f_space)), (a_speed, .inl (cI, 6, .inl f_speed)), (a_times, .inl (cI, 16, .inl f_times))]
def F_X10_lateOf_94 (k8 : Int32 → Int32 → Int32 → Prop) (x1 : Int32) (x2 : Int32) (x3 : Int32) (x4 : Int32) (x5 : Int32) : Prop := (∀ x5_94 : Int32, x5_94 = x5 + 1 → k8 x3 x4 x5_94)
def F_X10_lateOf_63 (v_stretches : Int32) (f_kind : Nat → Int32) (f_other : Nat → Int32) (f_space : Nat → Int32) (f_speed : Nat → Int32) (f_times : Nat → Int32) (k8 : Int32 → Int32 → Int32 → Prop) (x1 : Int32) (x2 : Int32) (x4 : Int32) (x5 : Int32) (s0 : Int32) : Prop := ((v_stretches ≤ x5 → F_X10_lateOf_94 k8 x1 x2 s0 x4 x5) ∧ (¬ v_stretches ≤ x5 → (F_X10_lengthOf f_kind f_other f_space f_times x5 (fun r79 => (vp_in x1 6 ∧ (F_X10_lastsBy r79 (f_speed x1.toNatClampNeg) (fun r88 => (∀ x4_92 : Int32, x4_92 = x4 + r88 → F_X10_lateOf_94 k8 x1 x2 s0 x4_92 x5))))))))
def F_X10_lateOf_49 (v_stretches : Int32) (f_kind : Nat → Int32) (f_other : Nat → Int32) (f_space : Nat → Int32) (f_speed : Nat → Int32) (f_times : Nat → Int32) (k8 : Int32 → Int32 → Int32 → Prop) (x1 : Int32) (x2 : Int32) (x3 : Int32) (x4 : Int32) (x5 : Int32) (s0 : Int32) : Prop := ((s0 ≤ x3 → F_X10_lateOf_63 v_stretches f_kind f_other f_space f_speed f_times k8 x1 x2 x4 x5 x3) ∧ (¬ s0 ≤ x3 → F_X10_lateOf_63 v_stretches f_kind f_other f_space f_speed f_times k8 x1 x2 x4 x5 s0))
def L_X10_lateOf_8 (v_stretches : Int32) (v_tempo : Int32) (f_beats : Nat → Int32) (f_kind : Nat → Int32) (f_notes : Nat → Int32) (f_other : Nat → Int32) (f_space : Nat → Int32) (f_speed : Nat → Int32) (f_times : Nat → Int32) (x1 : Int32) (x2 : Int32) (post : Int32 → Prop) : Nat → Int32 → Int32 → Int32 → Prop
  | 0, _, _, _ => False
  | n8 + 1, x3, x4, x5 => (vp_in x2 6 ∧ (((f_notes x2.toNatClampNeg) ≤ x5 → post x3) ∧ (¬ (f_notes x2.toNatClampNeg) ≤ x5 → (F_X10_beatsTo f_beats x2 x5 (fun r25 => (∀ x6_34 : Int32, x6_34 = x4 - (r25 * v_tempo) → ((0 ≤ x6_34 → F_X10_lateOf_49 v_stretches f_kind f_other f_space f_speed f_times (fun x3 x4 x5 => L_X10_lateOf_8 v_stretches v_tempo f_beats f_kind f_notes f_other f_space f_speed f_times x1 x2 post n8 x3 x4 x5) x1 x2 x3 x4 x5 x6_34) ∧ (¬ 0 ≤ x6_34 → F_X10_lateOf_49 v_stretches f_kind f_other f_space f_speed f_times (fun x3 x4 x5 => L_X10_lateOf_8 v_stretches v_tempo f_beats f_kind f_notes f_other f_space f_speed f_times x1 x2 post n8 x3 x4 x5) x1 x2 x3 x4 x5 (-x6_34)))))))))
def F_X10_lateOf (v_stretches : Int32) (v_tempo : Int32) (f_beats : Nat → Int32) (f_kind : Nat → Int32) (f_notes : Nat → Int32) (f_other : Nat → Int32) (f_space : Nat → Int32) (f_speed : Nat → Int32) (f_times : Nat → Int32) (x1 : Int32) (x2 : Int32) (post : Int32 → Prop) : Prop := (∃ n8 : Nat, L_X10_lateOf_8 v_stretches v_tempo f_beats f_kind f_notes f_other f_space f_speed f_times x1 x2 post n8 0 0 0)
set_option maxHeartbeats 4000000 in
set_option maxRecDepth 100000 in
theorem w_X10_lateOf_94 {l : Launch} {D : va_G} {cI cJ cS : ClassId} {ad adK : Nat → Nat} {a_o a_beats a_kind a_notes a_other a_space a_speed a_times : Nat} {z_refused z_steps z_base z_share z_pitch z_held z_sort z_size z_shown z_cells z_carried z_words z_tell z_was z_kept z_cutSpace z_cutTimes z_cutOff z_trace : Value} {v_stretches : Int32} {v_cars : Int32} {v_tunes : Int32} {v_along : Int32} {v_near : Int32} {v_borne : Int32} {v_tempo : Int32} {v_seed : Int32} {v_fault : Int32} {v_from : Int32} {v_at : Int32} {v_end : Int32} {v_told : Int32} {v_wrongAt : Int32} {v_culprit : Int32} {v_ran : Int32} {v_isKept : Int32} {f_beats : Nat → Int32} {f_kind : Nat → Int32} {f_notes : Nat → Int32} {f_other : Nat → Int32} {f_space : Nat → Int32} {f_speed : Nat → Int32} {f_times : Nat → Int32} {x1 : Int32} {x2 : Int32} {x3 : Int32} {x4 : Int32} {x5 : Int32} {post : Int32 → Prop} {k8 : Int32 → Int32 → Int32 → Prop} {p : Program} {e : Env} {s : State} {m : MethodId} {args : Array Value} {below : List Frame} {meth : Method} {c : Code} (S : CallFix p m c cX10_lateOf 7 s args GW "RoadThatSingsModel") (hE : EN D cI cJ cS s) (hT : ST ad adK nof s s.heap) (hP : va_P D vwCl (wX10_lateOf cI cJ cS a_o a_beats a_kind a_notes a_other a_space a_speed a_times z_refused z_steps z_base z_share z_pitch z_held z_sort z_size z_shown z_cells z_carried z_words z_tell z_was z_kept z_cutSpace z_cutTimes z_cutOff z_trace v_stretches v_cars v_tunes v_along v_near v_borne v_tempo v_seed v_fault v_from v_at v_end v_told v_wrongAt v_culprit v_ran v_isKept f_beats f_kind f_notes f_other f_space f_speed f_times) s.heap) (hS : va_S nof s.heap s.heap []) (hr : meth.sig.returnType = (some (.int))) (hlocks : meth.locks = false) (hk8 : ∀ (x3 : Int32) (x4 : Int32) (x5 : Int32) (ls : Array Slot), k8 x3 x4 x5 → lv_has ls 7 [(0, .ref a_o), (1, .int x1), (2, .int x2), (3, .int x3), (4, .int x4), (5, .int x5)] → W p l e (rmd 2 0 0) s m args below meth c s.heap [] 0 0 (MQ below (vp_Si post) args s 0 0 nof) (F0 m 8 ls [])) : ∀ (ls : Array Slot), F_X10_lateOf_94 k8 x1 x2 x3 x4 x5 → lv_has ls 7 [(0, .ref a_o), (1, .int x1), (2, .int x2), (3, .int x3), (4, .int x4), (5, .int x5)] → W p l e (rmd 2 0 0) s m args below meth c s.heap [] 0 0 (MQ below (vp_Si post) args s 0 0 nof) (F0 m 94 ls []) := by
  intro  ls h hl
  unfold F_X10_lateOf_94 at h
  have hx := S.1
  have hb := S.2.1
  obtain ⟨x5_94, ex5_94⟩ : ∃ z : Int32, z = x5 + 1 := ⟨_, rfl⟩
  have h := h _ ex5_94
  refine lv_iinc (v := x5_94) (lv' := [(5, .int x5_94), (0, .ref a_o), (1, .int x1), (2, .int x2), (3, .int x3), (4, .int x4)]) hx hb dX10_lateOf_94 hl (k := 5) rfl (by rw [ex5_94]; rfl) (by decide) rfl (fun ls hl => ?_)
  refine lv_goto (tgt := 8) hx hb dX10_lateOf_97 (by decide) ?_
  exact hk8 _ _ _ _ h (lv_sub hl [1, 2, 3, 4, 5, 0] rfl)
set_option maxHeartbeats 4000000 in
set_option maxRecDepth 100000 in
theorem w_X10_lateOf_63 {l : Launch} {D : va_G} {cI cJ cS : ClassId} {ad adK : Nat → Nat} {a_o a_beats a_kind a_notes a_other a_space a_speed a_times : Nat} {z_refused z_steps z_base z_share z_pitch z_held z_sort z_size z_shown z_cells z_carried z_words z_tell z_was z_kept z_cutSpace z_cutTimes z_cutOff z_trace : Value} {v_stretches : Int32} {v_cars : Int32} {v_tunes : Int32} {v_along : Int32} {v_near : Int32} {v_borne : Int32} {v_tempo : Int32} {v_seed : Int32} {v_fault : Int32} {v_from : Int32} {v_at : Int32} {v_end : Int32} {v_told : Int32} {v_wrongAt : Int32} {v_culprit : Int32} {v_ran : Int32} {v_isKept : Int32} {f_beats : Nat → Int32} {f_kind : Nat → Int32} {f_notes : Nat → Int32} {f_other : Nat → Int32} {f_space : Nat → Int32} {f_speed : Nat → Int32} {f_times : Nat → Int32} {x1 : Int32} {x2 : Int32} {x4 : Int32} {x5 : Int32} {s0 : Int32} {post : Int32 → Prop} {k8 : Int32 → Int32 → Int32 → Prop} {p : Program} {e : Env} {s : State} {m : MethodId} {args : Array Value} {below : List Frame} {meth : Method} {c : Code} (S : CallFix p m c cX10_lateOf 7 s args GW "RoadThatSingsModel") (hE : EN D cI cJ cS s) (hT : ST ad adK nof s s.heap) (hP : va_P D vwCl (wX10_lateOf cI cJ cS a_o a_beats a_kind a_notes a_other a_space a_speed a_times z_refused z_steps z_base z_share z_pitch z_held z_sort z_size z_shown z_cells z_carried z_words z_tell z_was z_kept z_cutSpace z_cutTimes z_cutOff z_trace v_stretches v_cars v_tunes v_along v_near v_borne v_tempo v_seed v_fault v_from v_at v_end v_told v_wrongAt v_culprit v_ran v_isKept f_beats f_kind f_notes f_other f_space f_speed f_times) s.heap) (hS : va_S nof s.heap s.heap []) (hr : meth.sig.returnType = (some (.int))) (hlocks : meth.locks = false) (hk8 : ∀ (x3 : Int32) (x4 : Int32) (x5 : Int32) (ls : Array Slot), k8 x3 x4 x5 → lv_has ls 7 [(0, .ref a_o), (1, .int x1), (2, .int x2), (3, .int x3), (4, .int x4), (5, .int x5)] → W p l e (rmd 2 0 0) s m args below meth c s.heap [] 0 0 (MQ below (vp_Si post) args s 0 0 nof) (F0 m 8 ls [])) : ∀ (ls : Array Slot), F_X10_lateOf_63 v_stretches f_kind f_other f_space f_speed f_times k8 x1 x2 x4 x5 s0 → lv_has ls 7 [(0, .ref a_o), (1, .int x1), (2, .int x2), (4, .int x4), (5, .int x5)] → W p l e (rmd 2 0 0) s m args below meth c s.heap [] 0 0 (MQ below (vp_Si post) args s 0 0 nof) (F0 m 63 ls [.int s0]) := by
  intro  ls h hl
  unfold F_X10_lateOf_63 at h
  have hx := S.1
  have hb := S.2.1
  refine lv_istore_n (lv' := [(3, .int s0), (0, .ref a_o), (1, .int x1), (2, .int x2), (4, .int x4), (5, .int x5)]) hx hb dX10_lateOf_63 rfl hl (by decide) rfl (fun ls hl => ?_)
  refine lv_iload hx hb dX10_lateOf_64 (lv_at hl 5 rfl) ?_
  refine lv_aload_n hx hb dX10_lateOf_66 rfl (lv_at hl 1 rfl) ?_
  refine gf S hE hP 0 rfl rfl inX10 (k := 0) (by decide) q1093 rfl dX10_lateOf_67 ?_
  refine lv_icmp_ge (tgt := 94) hx hb dX10_lateOf_70 (by decide) (fun hc => ?_) (fun hc => ?_)
  · have h := h.1 hc
    refine w_X10_lateOf_94 S hE hT hP hS hr hlocks hk8 _ h (lv_sub hl [1, 2, 3, 0, 4, 5] rfl)
  have h := h.2 hc
  refine lv_iload hx hb dX10_lateOf_73 (lv_at hl 4 rfl) ?_
  refine lv_aload_n hx hb dX10_lateOf_75 rfl (lv_at hl 1 rfl) ?_
  refine lv_aload_n hx hb dX10_lateOf_76 rfl (lv_at hl 1 rfl) ?_
  refine lv_iload hx hb dX10_lateOf_77 (lv_at hl 5 rfl) ?_
  refine ro_i (roV S hE hT hS (c_X10_lengthOf h) lkX10_131 rfl ⟨(Nat.le_of_ble_eq_true rfl), (Nat.le_of_ble_eq_true rfl)⟩ (hP.sub [0, 2, 4, 5, 7] rfl) 0 rfl rfl hl.1 rfl (Nat.le_of_ble_eq_true rfl) dX10_lateOf_79 ⟨(Nat.zero_le _), (Nat.zero_le _)⟩) (fun r79 h => ?_)
  refine lv_aload_n hx hb dX10_lateOf_82 rfl (lv_at hl 1 rfl) ?_
  refine gf S hE hP 0 rfl rfl inX10 (k := 15) (by decide) q1108 rfl dX10_lateOf_83 ?_
  refine lv_iload_n hx hb dX10_lateOf_86 rfl (lv_at hl 2 rfl) ?_
  obtain ⟨hi, h⟩ := h
  refine ial S hE hP 6 rfl hi dX10_lateOf_87 ?_
  refine ro_i (roV S hE hT hS (c_X10_lastsBy h) lkX10_235 rfl ⟨(Nat.le_of_ble_eq_true rfl), (Nat.le_of_ble_eq_true rfl)⟩ (hP.sub [0] rfl) 0 rfl rfl hl.1 rfl (Nat.le_of_ble_eq_true rfl) dX10_lateOf_88 ⟨(Nat.zero_le _), (Nat.zero_le _)⟩) (fun r88 h => ?_)
  refine lv_iadd hx hb dX10_lateOf_91 ?_
  refine lv_topi (fun x4_92 ex4_92 => ?_)
  have h := h _ ex4_92
  refine lv_istore (lv' := [(4, .int x4_92), (3, .int s0), (0, .ref a_o), (1, .int x1), (2, .int x2), (5, .int x5)]) hx hb dX10_lateOf_92 hl (by decide) rfl (fun ls hl => ?_)
  refine w_X10_lateOf_94 S hE hT hP hS hr hlocks hk8 _ h (lv_sub hl [2, 3, 4, 1, 0, 5] rfl)
set_option maxHeartbeats 4000000 in
set_option maxRecDepth 100000 in
theorem w_X10_lateOf_49 {l : Launch} {D : va_G} {cI cJ cS : ClassId} {ad adK : Nat → Nat} {a_o a_beats a_kind a_notes a_other a_space a_speed a_times : Nat} {z_refused z_steps z_base z_share z_pitch z_held z_sort z_size z_shown z_cells z_carried z_words z_tell z_was z_kept z_cutSpace z_cutTimes z_cutOff z_trace : Value} {v_stretches : Int32} {v_cars : Int32} {v_tunes : Int32} {v_along : Int32} {v_near : Int32} {v_borne : Int32} {v_tempo : Int32} {v_seed : Int32} {v_fault : Int32} {v_from : Int32} {v_at : Int32} {v_end : Int32} {v_told : Int32} {v_wrongAt : Int32} {v_culprit : Int32} {v_ran : Int32} {v_isKept : Int32} {f_beats : Nat → Int32} {f_kind : Nat → Int32} {f_notes : Nat → Int32} {f_other : Nat → Int32} {f_space : Nat → Int32} {f_speed : Nat → Int32} {f_times : Nat → Int32} {x1 : Int32} {x2 : Int32} {x3 : Int32} {x4 : Int32} {x5 : Int32} {s0 : Int32} {post : Int32 → Prop} {k8 : Int32 → Int32 → Int32 → Prop} {p : Program} {e : Env} {s : State} {m : MethodId} {args : Array Value} {below : List Frame} {meth : Method} {c : Code} (S : CallFix p m c cX10_lateOf 7 s args GW "RoadThatSingsModel") (hE : EN D cI cJ cS s) (hT : ST ad adK nof s s.heap) (hP : va_P D vwCl (wX10_lateOf cI cJ cS a_o a_beats a_kind a_notes a_other a_space a_speed a_times z_refused z_steps z_base z_share z_pitch z_held z_sort z_size z_shown z_cells z_carried z_words z_tell z_was z_kept z_cutSpace z_cutTimes z_cutOff z_trace v_stretches v_cars v_tunes v_along v_near v_borne v_tempo v_seed v_fault v_from v_at v_end v_told v_wrongAt v_culprit v_ran v_isKept f_beats f_kind f_notes f_other f_space f_speed f_times) s.heap) (hS : va_S nof s.heap s.heap []) (hr : meth.sig.returnType = (some (.int))) (hlocks : meth.locks = false) (hk8 : ∀ (x3 : Int32) (x4 : Int32) (x5 : Int32) (ls : Array Slot), k8 x3 x4 x5 → lv_has ls 7 [(0, .ref a_o), (1, .int x1), (2, .int x2), (3, .int x3), (4, .int x4), (5, .int x5)] → W p l e (rmd 2 0 0) s m args below meth c s.heap [] 0 0 (MQ below (vp_Si post) args s 0 0 nof) (F0 m 8 ls [])) : ∀ (ls : Array Slot), F_X10_lateOf_49 v_stretches f_kind f_other f_space f_speed f_times k8 x1 x2 x3 x4 x5 s0 → lv_has ls 7 [(0, .ref a_o), (1, .int x1), (2, .int x2), (3, .int x3), (4, .int x4), (5, .int x5)] → W p l e (rmd 2 0 0) s m args below meth c s.heap [] 0 0 (MQ below (vp_Si post) args s 0 0 nof) (F0 m 49 ls [.int s0]) := by
  intro  ls h hl
  unfold F_X10_lateOf_49 at h
  have hx := S.1
  have hb := S.2.1
  refine lv_istore (lv' := [(6, .int s0), (0, .ref a_o), (1, .int x1), (2, .int x2), (3, .int x3), (4, .int x4), (5, .int x5)]) hx hb dX10_lateOf_49 hl (by decide) rfl (fun ls hl => ?_)
  refine lv_iload hx hb dX10_lateOf_51 (lv_at hl 0 rfl) ?_
  refine lv_iload_n hx hb dX10_lateOf_53 rfl (lv_at hl 4 rfl) ?_
  refine lv_icmp_le (tgt := 62) hx hb dX10_lateOf_54 (by decide) (fun hc => ?_) (fun hc => ?_)
  · have h := h.1 hc
    refine lv_iload_n hx hb dX10_lateOf_62 rfl (lv_at hl 4 rfl) ?_
    refine w_X10_lateOf_63 S hE hT hP hS hr hlocks hk8 _ h (lv_sub hl [1, 2, 3, 5, 6] rfl)
  have h := h.2 hc
  refine lv_iload hx hb dX10_lateOf_57 (lv_at hl 0 rfl) ?_
  refine lv_goto (tgt := 63) hx hb dX10_lateOf_59 (by decide) ?_
  refine w_X10_lateOf_63 S hE hT hP hS hr hlocks hk8 _ h (lv_sub hl [1, 2, 3, 5, 6] rfl)
set_option maxHeartbeats 4000000 in
set_option maxRecDepth 100000 in
theorem w_X10_lateOf_8 {l : Launch} {D : va_G} {cI cJ cS : ClassId} {ad adK : Nat → Nat} {a_o a_beats a_kind a_notes a_other a_space a_speed a_times : Nat} {z_refused z_steps z_base z_share z_pitch z_held z_sort z_size z_shown z_cells z_carried z_words z_tell z_was z_kept z_cutSpace z_cutTimes z_cutOff z_trace : Value} {v_stretches : Int32} {v_cars : Int32} {v_tunes : Int32} {v_along : Int32} {v_near : Int32} {v_borne : Int32} {v_tempo : Int32} {v_seed : Int32} {v_fault : Int32} {v_from : Int32} {v_at : Int32} {v_end : Int32} {v_told : Int32} {v_wrongAt : Int32} {v_culprit : Int32} {v_ran : Int32} {v_isKept : Int32} {f_beats : Nat → Int32} {f_kind : Nat → Int32} {f_notes : Nat → Int32} {f_other : Nat → Int32} {f_space : Nat → Int32} {f_speed : Nat → Int32} {f_times : Nat → Int32} {x1 : Int32} {x2 : Int32} {post : Int32 → Prop} {p : Program} {e : Env} {s : State} {m : MethodId} {args : Array Value} {below : List Frame} {meth : Method} {c : Code} (S : CallFix p m c cX10_lateOf 7 s args GW "RoadThatSingsModel") (hE : EN D cI cJ cS s) (hT : ST ad adK nof s s.heap) (hP : va_P D vwCl (wX10_lateOf cI cJ cS a_o a_beats a_kind a_notes a_other a_space a_speed a_times z_refused z_steps z_base z_share z_pitch z_held z_sort z_size z_shown z_cells z_carried z_words z_tell z_was z_kept z_cutSpace z_cutTimes z_cutOff z_trace v_stretches v_cars v_tunes v_along v_near v_borne v_tempo v_seed v_fault v_from v_at v_end v_told v_wrongAt v_culprit v_ran v_isKept f_beats f_kind f_notes f_other f_space f_speed f_times) s.heap) (hS : va_S nof s.heap s.heap []) (hr : meth.sig.returnType = (some (.int))) (hlocks : meth.locks = false) : ∀ n : Nat, ∀ (x3 : Int32) (x4 : Int32) (x5 : Int32) (ls : Array Slot), L_X10_lateOf_8 v_stretches v_tempo f_beats f_kind f_notes f_other f_space f_speed f_times x1 x2 post n x3 x4 x5 → lv_has ls 7 [(0, .ref a_o), (1, .int x1), (2, .int x2), (3, .int x3), (4, .int x4), (5, .int x5)] → W p l e (rmd 2 0 0) s m args below meth c s.heap [] 0 0 (MQ below (vp_Si post) args s 0 0 nof) (F0 m 8 ls []) := by
  intro n
  induction n with
  | zero =>
    intro x3 x4 x5 ls h hl
    exact h.elim
  | succ n ih =>
    intro x3 x4 x5 ls h hl
    rw [L_X10_lateOf_8] at h
    have hx := S.1
    have hb := S.2.1
    refine lv_iload hx hb dX10_lateOf_8 (lv_at hl 5 rfl) ?_
    refine lv_aload_n hx hb dX10_lateOf_10 rfl (lv_at hl 0 rfl) ?_
    refine gf S hE hP 0 rfl rfl inX10 (k := 18) (by decide) q1111 rfl dX10_lateOf_11 ?_
    refine lv_iload_n hx hb dX10_lateOf_14 rfl (lv_at hl 2 rfl) ?_
    obtain ⟨hi, h⟩ := h
    refine ial S hE hP 3 rfl hi dX10_lateOf_15 ?_
    refine lv_icmp_ge (tgt := 100) hx hb dX10_lateOf_16 (by decide) (fun hc => ?_) (fun hc => ?_)
    · have h := h.1 hc
      refine lv_iload_n hx hb dX10_lateOf_100 rfl (lv_at hl 3 rfl) ?_
      exact W.iret hx hb hr (fun t ht _ => ⟨_, rfl, h, ht⟩) (fun _ hq => by cases hq) dX10_lateOf_101
    have h := h.2 hc
    refine lv_iload hx hb dX10_lateOf_19 (lv_at hl 4 rfl) ?_
    refine lv_aload_n hx hb dX10_lateOf_21 rfl (lv_at hl 0 rfl) ?_
    refine lv_iload_n hx hb dX10_lateOf_22 rfl (lv_at hl 2 rfl) ?_
    refine lv_iload hx hb dX10_lateOf_23 (lv_at hl 5 rfl) ?_
    refine ro_i (roV S hE hT hS (c_X10_beatsTo h) lkX10_171 rfl ⟨(Nat.le_of_ble_eq_true rfl), (Nat.le_of_ble_eq_true rfl)⟩ (hP.sub [0, 1] rfl) 0 rfl rfl hl.1 rfl (Nat.le_of_ble_eq_true rfl) dX10_lateOf_25 ⟨(Nat.zero_le _), (Nat.zero_le _)⟩) (fun r25 h => ?_)
    refine lv_aload_n hx hb dX10_lateOf_28 rfl (lv_at hl 0 rfl) ?_
    refine gf S hE hP 0 rfl rfl inX10 (k := 6) (by decide) q1099 rfl dX10_lateOf_29 ?_
    refine lv_imul hx hb dX10_lateOf_32 ?_
    refine lv_isub hx hb dX10_lateOf_33 ?_
    refine lv_topi (fun x6_34 ex6_34 => ?_)
    have h := h _ ex6_34
    refine lv_istore (lv' := [(6, .int x6_34), (0, .ref a_o), (1, .int x1), (2, .int x2), (3, .int x3), (4, .int x4), (5, .int x5)]) hx hb dX10_lateOf_34 hl (by decide) rfl (fun ls hl => ?_)
    refine lv_iload hx hb dX10_lateOf_36 (lv_at hl 0 rfl) ?_
    refine lv_if_ge (tgt := 47) hx hb dX10_lateOf_38 (by decide) (fun hc => ?_) (fun hc => ?_)
    · have h := h.1 hc
      refine lv_iload hx hb dX10_lateOf_47 (lv_at hl 0 rfl) ?_
      refine w_X10_lateOf_49 S hE hT hP hS hr hlocks ih _ h (lv_sub hl [1, 2, 3, 4, 5, 6] rfl)
    have h := h.2 hc
    refine lv_iload hx hb dX10_lateOf_41 (lv_at hl 0 rfl) ?_
    refine lv_ineg hx hb dX10_lateOf_43 ?_
    refine lv_goto (tgt := 49) hx hb dX10_lateOf_44 (by decide) ?_
    refine w_X10_lateOf_49 S hE hT hP hS hr hlocks ih _ h (lv_sub hl [1, 2, 3, 4, 5, 6] rfl)
set_option maxHeartbeats 4000000 in
set_option maxRecDepth 100000 in
theorem c_X10_lateOf {l : Launch} {D : va_G} {cI cJ cS : ClassId} {ad adK : Nat → Nat} {a_o a_beats a_kind a_notes a_other a_space a_speed a_times : Nat} {z_refused z_steps z_base z_share z_pitch z_held z_sort z_size z_shown z_cells z_carried z_words z_tell z_was z_kept z_cutSpace z_cutTimes z_cutOff z_trace : Value} {v_stretches : Int32} {v_cars : Int32} {v_tunes : Int32} {v_along : Int32} {v_near : Int32} {v_borne : Int32} {v_tempo : Int32} {v_seed : Int32} {v_fault : Int32} {v_from : Int32} {v_at : Int32} {v_end : Int32} {v_told : Int32} {v_wrongAt : Int32} {v_culprit : Int32} {v_ran : Int32} {v_isKept : Int32} {f_beats : Nat → Int32} {f_kind : Nat → Int32} {f_notes : Nat → Int32} {f_other : Nat → Int32} {f_space : Nat → Int32} {f_speed : Nat → Int32} {f_times : Nat → Int32} {x1 : Int32} {x2 : Int32} {post : Int32 → Prop} (h : F_X10_lateOf v_stretches v_tempo f_beats f_kind f_notes f_other f_space f_speed f_times x1 x2 post) : Met l yX10_lateOf (Cond.code yX10_lateOf cX10_lateOf 7 (some (.int)) :: GW) (rmd 2 0 0) (PR D cI cJ cS ad adK [.ref a_o, .int x1, .int x2] (wX10_lateOf cI cJ cS a_o a_beats a_kind a_notes a_other a_space a_speed a_times z_refused z_steps z_base z_share z_pitch z_held z_sort z_size z_shown z_cells z_carried z_words z_tell z_was z_kept z_cutSpace z_cutTimes z_cutOff z_trace v_stretches v_cars v_tunes v_along v_near v_borne v_tempo v_seed v_fault v_from v_at v_end v_told v_wrongAt v_culprit v_ran v_isKept f_beats f_kind f_notes f_other f_space f_speed f_times)) (vp_Si post) 0 0 nof := by
  refine Met.ro (by decide) (Nat.le_of_ble_eq_true rfl) (fun p e s m args below meth c ls (S : CallFix p m c cX10_lateOf 7 s args GW "RoadThatSingsModel") hE hT hP hS hr hlocks hl => ?_)
  have hx := S.1
  have hb := S.2.1
  have hl : lv_has ls 7 [(0, .ref a_o), (1, .int x1), (2, .int x2)] := hl
  unfold F_X10_lateOf at h
  refine lv_iconst (v := 0) hx hb dX10_lateOf_0 (by decide) ?_
  refine lv_istore_n (lv' := [(3, .int 0), (0, .ref a_o), (1, .int x1), (2, .int x2)]) hx hb dX10_lateOf_1 rfl hl (by decide) rfl (fun ls hl => ?_)
  refine lv_iconst (v := 0) hx hb dX10_lateOf_2 (by decide) ?_
  refine lv_istore (lv' := [(4, .int 0), (3, .int 0), (0, .ref a_o), (1, .int x1), (2, .int x2)]) hx hb dX10_lateOf_3 hl (by decide) rfl (fun ls hl => ?_)
  refine lv_iconst (v := 0) hx hb dX10_lateOf_5 (by decide) ?_
  refine lv_istore (lv' := [(5, .int 0), (4, .int 0), (3, .int 0), (0, .ref a_o), (1, .int x1), (2, .int x2)]) hx hb dX10_lateOf_6 hl (by decide) rfl (fun ls hl => ?_)
  obtain ⟨n, h⟩ := h
  refine w_X10_lateOf_8 S hE hT hP hS hr hlocks n _ _ _ _ h (lv_sub hl [3, 4, 5, 2, 1, 0] rfl)
/-! X10_hears -/
abbrev wX10_hears (cI cJ cS : ClassId) (a_o a_beats a_kind a_notes a_other a_pitch a_refused a_space a_speed a_times : Nat) (z_steps z_base z_share z_held z_sort z_size z_shown z_cells z_carried z_words z_tell z_was z_kept z_cutSpace z_cutTimes z_cutOff z_trace : Value) (v_stretches : Int32) (v_cars : Int32) (v_tunes : Int32) (v_along : Int32) (v_near : Int32) (v_borne : Int32) (v_tempo : Int32) (v_seed : Int32) (v_fault : Int32) (v_from : Int32) (v_at : Int32) (v_end : Int32) (v_told : Int32) (v_wrongAt : Int32) (v_culprit : Int32) (v_ran : Int32) (v_isKept : Int32) (f_beats : Nat → Int32) (f_kind : Nat → Int32) (f_notes : Nat → Int32) (f_other : Nat → Int32) (f_pitch : Nat → Int32) (f_refused : Nat → Int32) (f_space : Nat → Int32) (f_speed : Nat → Int32) (f_times : Nat → Int32) : va_W := [(a_o, .inr (9, [.int v_stretches, .int v_cars, .int v_tunes, .int v_along, .int v_near, .int v_borne, .int v_tempo, .int v_seed, .int v_fault, .ref a_refused, z_steps, .ref a_kind, .ref a_space, .ref a_other, .ref a_times, .ref a_speed, z_base, z_share, .ref a_notes, .ref a_pitch, .ref a_beats, z_held, z_sort, z_size, z_shown, z_cells, z_carried, z_words, z_tell, .int v_from, .int v_at, .int v_end, .int v_told, .int v_wrongAt, z_was, z_kept, .int v_culprit, z_cutSpace, z_cutTimes, z_cutOff, z_trace, .int v_ran, .int v_isKept])), (a_beats, .inl (cI, 72, .inl f_beats)), (a_kind, .inl (cI, 16, .inl f_kind)), (a_notes, .inl (cI, 6, .inl f_notes)), (a_other, .inl (cI, 16, .inl f_other)), (a_pitch, .inl (cI, 72, .inl f_pitch)), (a_refused, .inl (cI, 8, .inl f_refused)), (a_space, .inl (cI, 16, .inl f_space)), (a_speed, .inl (cI, 6, .inl f_speed)), (a_times, .inl (cI, 16, .inl f_times))]
def F_X10_hears (v_stretches : Int32) (v_cars : Int32) (v_tunes : Int32) (v_borne : Int32) (v_tempo : Int32) (f_beats : Nat → Int32) (f_kind : Nat → Int32) (f_notes : Nat → Int32) (f_other : Nat → Int32) (f_pitch : Nat → Int32) (f_refused : Nat → Int32) (f_space : Nat → Int32) (f_speed : Nat → Int32) (f_times : Nat → Int32) (x1 : Int32) (x2 : Int32) (x3 : Int32) (post : Int32 → (Nat → Int32) → Prop) : Prop := (F_X10_isCar v_cars x1 (fun r2 => ((r2 = 0 → (F_X10_no f_refused (-1) (fun r18 w18_0 => post r18 w18_0))) ∧ (¬ r2 = 0 → (F_X10_isTune v_tunes x2 (fun r10 => ((r10 = 0 → (F_X10_no f_refused (-1) (fun r18 w18_0 => post r18 w18_0))) ∧ (¬ r10 = 0 → ((x3 < 0 → (F_X10_no f_refused (-5) (fun r34 w34_0 => post r34 w34_0))) ∧ (¬ x3 < 0 → ((x3 ≤ 2 → ((x3 = 0 → (F_X10_worstOf v_stretches f_kind f_notes f_other f_pitch f_space f_speed x1 x2 (fun r45 => post r45 f_refused))) ∧ (¬ x3 = 0 → ((x3 = 1 → (F_X10_lateOf v_stretches v_tempo f_beats f_kind f_notes f_other f_space f_speed f_times x1 x2 (fun r59 => post r59 f_refused))) ∧ (¬ x3 = 1 → (F_X10_worstOf v_stretches f_kind f_notes f_other f_pitch f_space f_speed x1 x2 (fun r68 => ((v_borne < r68 → post 0 f_refused) ∧ (¬ v_borne < r68 → post 1 f_refused))))))))) ∧ (¬ x3 ≤ 2 → (F_X10_no f_refused (-5) (fun r34 w34_0 => post r34 w34_0))))))))))))))
set_option maxHeartbeats 4000000 in
set_option maxRecDepth 100000 in
theorem c_X10_hears {l : Launch} {D : va_G} {cI cJ cS : ClassId} {ad adK : Nat → Nat} {a_o a_beats a_kind a_notes a_other a_pitch a_refused a_space a_speed a_times : Nat} {z_steps z_base z_share z_held z_sort z_size z_shown z_cells z_carried z_words z_tell z_was z_kept z_cutSpace z_cutTimes z_cutOff z_trace : Value} {v_stretches : Int32} {v_cars : Int32} {v_tunes : Int32} {v_along : Int32} {v_near : Int32} {v_borne : Int32} {v_tempo : Int32} {v_seed : Int32} {v_fault : Int32} {v_from : Int32} {v_at : Int32} {v_end : Int32} {v_told : Int32} {v_wrongAt : Int32} {v_culprit : Int32} {v_ran : Int32} {v_isKept : Int32} {f_beats : Nat → Int32} {f_kind : Nat → Int32} {f_notes : Nat → Int32} {f_other : Nat → Int32} {f_pitch : Nat → Int32} {f_refused : Nat → Int32} {f_space : Nat → Int32} {f_speed : Nat → Int32} {f_times : Nat → Int32} {x1 : Int32} {x2 : Int32} {x3 : Int32} {post : Int32 → (Nat → Int32) → Prop} (h : F_X10_hears v_stretches v_cars v_tunes v_borne v_tempo f_beats f_kind f_notes f_other f_pitch f_refused f_space f_speed f_times x1 x2 x3 post) {sz : Nat} : Met l yX10_hears (Cond.code yX10_hears cX10_hears 4 (some (.int)) :: GW) (rmd 4 0 0) (PW D cI cJ cS ad adK [.ref a_o, .int x1, .int x2, .int x3] (wX10_hears cI cJ cS a_o a_beats a_kind a_notes a_other a_pitch a_refused a_space a_speed a_times z_steps z_base z_share z_held z_sort z_size z_shown z_cells z_carried z_words z_tell z_was z_kept z_cutSpace z_cutTimes z_cutOff z_trace v_stretches v_cars v_tunes v_along v_near v_borne v_tempo v_seed v_fault v_from v_at v_end v_told v_wrongAt v_culprit v_ran v_isKept f_beats f_kind f_notes f_other f_pitch f_refused f_space f_speed f_times) sz) (va_Qi (fun r (u : (Nat → Int32)) => post r u) (fun u t => va_P D vwCl (wX10_hears cI cJ cS a_o a_beats a_kind a_notes a_other a_pitch a_refused a_space a_speed a_times z_steps z_base z_share z_held z_sort z_size z_shown z_cells z_carried z_words z_tell z_was z_kept z_cutSpace z_cutTimes z_cutOff z_trace v_stretches v_cars v_tunes v_along v_near v_borne v_tempo v_seed v_fault v_from v_at v_end v_told v_wrongAt v_culprit v_ran v_isKept f_beats f_kind f_notes f_other f_pitch u f_space f_speed f_times) t.heap) (va_A (wX10_hears cI cJ cS a_o a_beats a_kind a_notes a_other a_pitch a_refused a_space a_speed a_times z_steps z_base z_share z_held z_sort z_size z_shown z_cells z_carried z_words z_tell z_was z_kept z_cutSpace z_cutTimes z_cutOff z_trace v_stretches v_cars v_tunes v_along v_near v_borne v_tempo v_seed v_fault v_from v_at v_end v_told v_wrongAt v_culprit v_ran v_isKept f_beats f_kind f_notes f_other f_pitch f_refused f_space f_speed f_times) sz)) 0 0 (va_A (wX10_hears cI cJ cS a_o a_beats a_kind a_notes a_other a_pitch a_refused a_space a_speed a_times z_steps z_base z_share z_held z_sort z_size z_shown z_cells z_carried z_words z_tell z_was z_kept z_cutSpace z_cutTimes z_cutOff z_trace v_stretches v_cars v_tunes v_along v_near v_borne v_tempo v_seed v_fault v_from v_at v_end v_told v_wrongAt v_culprit v_ran v_isKept f_beats f_kind f_notes f_other f_pitch f_refused f_space f_speed f_times) sz) := by
  refine Met.rw (Qc := fun A => (va_Qi (fun r (u : (Nat → Int32)) => post r u) (fun u t => va_P D vwCl (wX10_hears cI cJ cS a_o a_beats a_kind a_notes a_other a_pitch a_refused a_space a_speed a_times z_steps z_base z_share z_held z_sort z_size z_shown z_cells z_carried z_words z_tell z_was z_kept z_cutSpace z_cutTimes z_cutOff z_trace v_stretches v_cars v_tunes v_along v_near v_borne v_tempo v_seed v_fault v_from v_at v_end v_told v_wrongAt v_culprit v_ran v_isKept f_beats f_kind f_notes f_other f_pitch u f_space f_speed f_times) t.heap) A)) (by decide) (Nat.le_of_ble_eq_true rfl) (fun p e s m args below meth c ls A (S : CallFix p m c cX10_hears 4 s args GW "RoadThatSingsModel") hE hT hP hD hA hS hr hlocks hname hl => ?_)
  have hS0 := hS
  have hx := S.1
  have hb := S.2.1
  have hl : lv_has ls 4 [(0, .ref a_o), (1, .int x1), (2, .int x2), (3, .int x3)] := hl
  unfold F_X10_hears at h
  refine lv_aload_n hx hb dX10_hears_0 rfl (lv_at hl 0 rfl) ?_
  refine lv_iload_n hx hb dX10_hears_1 rfl (lv_at hl 1 rfl) ?_
  refine ro_i (roV S hE hT hS (c_X10_isCar h) lkX10_165 rfl ⟨(Nat.le_of_ble_eq_true rfl), (Nat.le_of_ble_eq_true rfl)⟩ (hP.sub [0] rfl) 0 rfl rfl hl.1 rfl (Nat.le_of_ble_eq_true rfl) dX10_hears_2 ⟨(Nat.zero_le _), (Nat.zero_le _)⟩) (fun r2 h => ?_)
  refine lv_if_eq (tgt := 16) hx hb dX10_hears_5 (by decide) (fun hc => ?_) (fun hc => ?_)
  · have h := h.1 hc
    refine lv_aload_n hx hb dX10_hears_16 rfl (lv_at hl 0 rfl) ?_
    refine lv_iconst (v := (-1)) hx hb dX10_hears_17 (by decide) ?_
    refine rw_i (rwV S hE hT hS hP hD hA (c_X10_no h) [0, 6] rfl (by decide) lkX10_121 rfl ⟨(Nat.le_of_ble_eq_true rfl), (Nat.le_of_ble_eq_true rfl)⟩ 0 rfl rfl hl.1 rfl (Nat.le_of_ble_eq_true rfl) dX10_hears_18 ⟨(Nat.zero_le _), (Nat.zero_le _)⟩) hP hD hS hA [0, 6] rfl (by decide) (fun _ => rfl) (fun r18 w18_0 H locs h hP hD hS => ?_)
    try dsimp only at h
    have hP : va_P D vwCl (wX10_hears cI cJ cS a_o a_beats a_kind a_notes a_other a_pitch a_refused a_space a_speed a_times z_steps z_base z_share z_held z_sort z_size z_shown z_cells z_carried z_words z_tell z_was z_kept z_cutSpace z_cutTimes z_cutOff z_trace v_stretches v_cars v_tunes v_along v_near v_borne v_tempo v_seed v_fault v_from v_at v_end v_told v_wrongAt v_culprit v_ran v_isKept f_beats f_kind f_notes f_other f_pitch w18_0 f_space f_speed f_times) H := hP
    have hD : va_D A (wX10_hears cI cJ cS a_o a_beats a_kind a_notes a_other a_pitch a_refused a_space a_speed a_times z_steps z_base z_share z_held z_sort z_size z_shown z_cells z_carried z_words z_tell z_was z_kept z_cutSpace z_cutTimes z_cutOff z_trace v_stretches v_cars v_tunes v_along v_near v_borne v_tempo v_seed v_fault v_from v_at v_end v_told v_wrongAt v_culprit v_ran v_isKept f_beats f_kind f_notes f_other f_pitch w18_0 f_space f_speed f_times) := hD
    exact W.iret hx hb hr (fun t ht _ => ⟨⟨_, w18_0, rfl, h, hPt hP ht⟩, hS.F ht⟩) hS.2.2 dX10_hears_21
  have h := h.2 hc
  refine lv_aload_n hx hb dX10_hears_8 rfl (lv_at hl 0 rfl) ?_
  refine lv_iload_n hx hb dX10_hears_9 rfl (lv_at hl 2 rfl) ?_
  refine ro_i (roV S hE hT hS (c_X10_isTune h) lkX10_168 rfl ⟨(Nat.le_of_ble_eq_true rfl), (Nat.le_of_ble_eq_true rfl)⟩ (hP.sub [0] rfl) 0 rfl rfl hl.1 rfl (Nat.le_of_ble_eq_true rfl) dX10_hears_10 ⟨(Nat.zero_le _), (Nat.zero_le _)⟩) (fun r10 h => ?_)
  refine lv_if_ne (tgt := 22) hx hb dX10_hears_13 (by decide) (fun hc => ?_) (fun hc => ?_)
  · have h := h.2 hc
    refine lv_iload_n hx hb dX10_hears_22 rfl (lv_at hl 3 rfl) ?_
    refine lv_if_lt (tgt := 31) hx hb dX10_hears_23 (by decide) (fun hc => ?_) (fun hc => ?_)
    · have h := h.1 hc
      refine lv_aload_n hx hb dX10_hears_31 rfl (lv_at hl 0 rfl) ?_
      refine lv_bipush (v := (-5)) hx hb dX10_hears_32 (by decide) ?_
      refine rw_i (rwV S hE hT hS hP hD hA (c_X10_no h) [0, 6] rfl (by decide) lkX10_121 rfl ⟨(Nat.le_of_ble_eq_true rfl), (Nat.le_of_ble_eq_true rfl)⟩ 0 rfl rfl hl.1 rfl (Nat.le_of_ble_eq_true rfl) dX10_hears_34 ⟨(Nat.zero_le _), (Nat.zero_le _)⟩) hP hD hS hA [0, 6] rfl (by decide) (fun _ => rfl) (fun r34 w34_0 H locs h hP hD hS => ?_)
      try dsimp only at h
      have hP : va_P D vwCl (wX10_hears cI cJ cS a_o a_beats a_kind a_notes a_other a_pitch a_refused a_space a_speed a_times z_steps z_base z_share z_held z_sort z_size z_shown z_cells z_carried z_words z_tell z_was z_kept z_cutSpace z_cutTimes z_cutOff z_trace v_stretches v_cars v_tunes v_along v_near v_borne v_tempo v_seed v_fault v_from v_at v_end v_told v_wrongAt v_culprit v_ran v_isKept f_beats f_kind f_notes f_other f_pitch w34_0 f_space f_speed f_times) H := hP
      have hD : va_D A (wX10_hears cI cJ cS a_o a_beats a_kind a_notes a_other a_pitch a_refused a_space a_speed a_times z_steps z_base z_share z_held z_sort z_size z_shown z_cells z_carried z_words z_tell z_was z_kept z_cutSpace z_cutTimes z_cutOff z_trace v_stretches v_cars v_tunes v_along v_near v_borne v_tempo v_seed v_fault v_from v_at v_end v_told v_wrongAt v_culprit v_ran v_isKept f_beats f_kind f_notes f_other f_pitch w34_0 f_space f_speed f_times) := hD
      exact W.iret hx hb hr (fun t ht _ => ⟨⟨_, w34_0, rfl, h, hPt hP ht⟩, hS.F ht⟩) hS.2.2 dX10_hears_37
    have h := h.2 hc
    refine lv_iload_n hx hb dX10_hears_26 rfl (lv_at hl 3 rfl) ?_
    refine lv_iconst (v := 2) hx hb dX10_hears_27 (by decide) ?_
    refine lv_icmp_le (tgt := 38) hx hb dX10_hears_28 (by decide) (fun hc => ?_) (fun hc => ?_)
    · have h := h.1 hc
      refine lv_iload_n hx hb dX10_hears_38 rfl (lv_at hl 3 rfl) ?_
      refine lv_if_ne (tgt := 51) hx hb dX10_hears_39 (by decide) (fun hc => ?_) (fun hc => ?_)
      · have h := h.2 hc
        refine lv_iload_n hx hb dX10_hears_51 rfl (lv_at hl 3 rfl) ?_
        refine lv_iconst (v := 1) hx hb dX10_hears_52 (by decide) ?_
        refine lv_icmp_ne (tgt := 65) hx hb dX10_hears_53 (by decide) (fun hc => ?_) (fun hc => ?_)
        · have h := h.2 hc
          refine lv_aload_n hx hb dX10_hears_65 rfl (lv_at hl 0 rfl) ?_
          refine lv_iload_n hx hb dX10_hears_66 rfl (lv_at hl 1 rfl) ?_
          refine lv_iload_n hx hb dX10_hears_67 rfl (lv_at hl 2 rfl) ?_
          refine ro_i (roV S hE hT hS (c_X10_worstOf h) lkX10_248 rfl ⟨(Nat.le_of_ble_eq_true rfl), (Nat.le_of_ble_eq_true rfl)⟩ (hP.sub [0, 2, 3, 4, 5, 7, 8] rfl) 0 rfl rfl hl.1 rfl (Nat.le_of_ble_eq_true rfl) dX10_hears_68 ⟨(Nat.zero_le _), (Nat.zero_le _)⟩) (fun r68 h => ?_)
          refine lv_aload_n hx hb dX10_hears_71 rfl (lv_at hl 0 rfl) ?_
          refine gf S hE hP 0 rfl rfl inX10 (k := 5) (by decide) q1098 rfl dX10_hears_72 ?_
          refine lv_icmp_gt (tgt := 82) hx hb dX10_hears_75 (by decide) (fun hc => ?_) (fun hc => ?_)
          · have h := h.1 hc
            refine lv_iconst (v := 0) hx hb dX10_hears_82 (by decide) ?_
            exact W.iret hx hb hr (fun t ht _ => ⟨⟨_, f_refused, rfl, h, hPt hP ht⟩, hS.F ht⟩) hS.2.2 dX10_hears_83
          have h := h.2 hc
          refine lv_iconst (v := 1) hx hb dX10_hears_78 (by decide) ?_
          refine lv_goto (tgt := 83) hx hb dX10_hears_79 (by decide) ?_
          exact W.iret hx hb hr (fun t ht _ => ⟨⟨_, f_refused, rfl, h, hPt hP ht⟩, hS.F ht⟩) hS.2.2 dX10_hears_83
        have h := h.1 hc
        refine lv_aload_n hx hb dX10_hears_56 rfl (lv_at hl 0 rfl) ?_
        refine lv_iload_n hx hb dX10_hears_57 rfl (lv_at hl 1 rfl) ?_
        refine lv_iload_n hx hb dX10_hears_58 rfl (lv_at hl 2 rfl) ?_
        refine ro_i (roV S hE hT hS (c_X10_lateOf h) lkX10_251 rfl ⟨(Nat.le_of_ble_eq_true rfl), (Nat.le_of_ble_eq_true rfl)⟩ (hP.sub [0, 1, 2, 3, 4, 7, 8, 9] rfl) 0 rfl rfl hl.1 rfl (Nat.le_of_ble_eq_true rfl) dX10_hears_59 ⟨(Nat.zero_le _), (Nat.zero_le _)⟩) (fun r59 h => ?_)
        refine lv_goto (tgt := 83) hx hb dX10_hears_62 (by decide) ?_
        exact W.iret hx hb hr (fun t ht _ => ⟨⟨_, f_refused, rfl, h, hPt hP ht⟩, hS.F ht⟩) hS.2.2 dX10_hears_83
      have h := h.1 hc
      refine lv_aload_n hx hb dX10_hears_42 rfl (lv_at hl 0 rfl) ?_
      refine lv_iload_n hx hb dX10_hears_43 rfl (lv_at hl 1 rfl) ?_
      refine lv_iload_n hx hb dX10_hears_44 rfl (lv_at hl 2 rfl) ?_
      refine ro_i (roV S hE hT hS (c_X10_worstOf h) lkX10_248 rfl ⟨(Nat.le_of_ble_eq_true rfl), (Nat.le_of_ble_eq_true rfl)⟩ (hP.sub [0, 2, 3, 4, 5, 7, 8] rfl) 0 rfl rfl hl.1 rfl (Nat.le_of_ble_eq_true rfl) dX10_hears_45 ⟨(Nat.zero_le _), (Nat.zero_le _)⟩) (fun r45 h => ?_)
      refine lv_goto (tgt := 83) hx hb dX10_hears_48 (by decide) ?_
      exact W.iret hx hb hr (fun t ht _ => ⟨⟨_, f_refused, rfl, h, hPt hP ht⟩, hS.F ht⟩) hS.2.2 dX10_hears_83
    have h := h.2 hc
    refine lv_aload_n hx hb dX10_hears_31 rfl (lv_at hl 0 rfl) ?_
    refine lv_bipush (v := (-5)) hx hb dX10_hears_32 (by decide) ?_
    refine rw_i (rwV S hE hT hS hP hD hA (c_X10_no h) [0, 6] rfl (by decide) lkX10_121 rfl ⟨(Nat.le_of_ble_eq_true rfl), (Nat.le_of_ble_eq_true rfl)⟩ 0 rfl rfl hl.1 rfl (Nat.le_of_ble_eq_true rfl) dX10_hears_34 ⟨(Nat.zero_le _), (Nat.zero_le _)⟩) hP hD hS hA [0, 6] rfl (by decide) (fun _ => rfl) (fun r34 w34_0 H locs h hP hD hS => ?_)
    try dsimp only at h
    have hP : va_P D vwCl (wX10_hears cI cJ cS a_o a_beats a_kind a_notes a_other a_pitch a_refused a_space a_speed a_times z_steps z_base z_share z_held z_sort z_size z_shown z_cells z_carried z_words z_tell z_was z_kept z_cutSpace z_cutTimes z_cutOff z_trace v_stretches v_cars v_tunes v_along v_near v_borne v_tempo v_seed v_fault v_from v_at v_end v_told v_wrongAt v_culprit v_ran v_isKept f_beats f_kind f_notes f_other f_pitch w34_0 f_space f_speed f_times) H := hP
    have hD : va_D A (wX10_hears cI cJ cS a_o a_beats a_kind a_notes a_other a_pitch a_refused a_space a_speed a_times z_steps z_base z_share z_held z_sort z_size z_shown z_cells z_carried z_words z_tell z_was z_kept z_cutSpace z_cutTimes z_cutOff z_trace v_stretches v_cars v_tunes v_along v_near v_borne v_tempo v_seed v_fault v_from v_at v_end v_told v_wrongAt v_culprit v_ran v_isKept f_beats f_kind f_notes f_other f_pitch w34_0 f_space f_speed f_times) := hD
    exact W.iret hx hb hr (fun t ht _ => ⟨⟨_, w34_0, rfl, h, hPt hP ht⟩, hS.F ht⟩) hS.2.2 dX10_hears_37
  have h := h.1 hc
  refine lv_aload_n hx hb dX10_hears_16 rfl (lv_at hl 0 rfl) ?_
  refine lv_iconst (v := (-1)) hx hb dX10_hears_17 (by decide) ?_
  refine rw_i (rwV S hE hT hS hP hD hA (c_X10_no h) [0, 6] rfl (by decide) lkX10_121 rfl ⟨(Nat.le_of_ble_eq_true rfl), (Nat.le_of_ble_eq_true rfl)⟩ 0 rfl rfl hl.1 rfl (Nat.le_of_ble_eq_true rfl) dX10_hears_18 ⟨(Nat.zero_le _), (Nat.zero_le _)⟩) hP hD hS hA [0, 6] rfl (by decide) (fun _ => rfl) (fun r18 w18_0 H locs h hP hD hS => ?_)
  try dsimp only at h
  have hP : va_P D vwCl (wX10_hears cI cJ cS a_o a_beats a_kind a_notes a_other a_pitch a_refused a_space a_speed a_times z_steps z_base z_share z_held z_sort z_size z_shown z_cells z_carried z_words z_tell z_was z_kept z_cutSpace z_cutTimes z_cutOff z_trace v_stretches v_cars v_tunes v_along v_near v_borne v_tempo v_seed v_fault v_from v_at v_end v_told v_wrongAt v_culprit v_ran v_isKept f_beats f_kind f_notes f_other f_pitch w18_0 f_space f_speed f_times) H := hP
  have hD : va_D A (wX10_hears cI cJ cS a_o a_beats a_kind a_notes a_other a_pitch a_refused a_space a_speed a_times z_steps z_base z_share z_held z_sort z_size z_shown z_cells z_carried z_words z_tell z_was z_kept z_cutSpace z_cutTimes z_cutOff z_trace v_stretches v_cars v_tunes v_along v_near v_borne v_tempo v_seed v_fault v_from v_at v_end v_told v_wrongAt v_culprit v_ran v_isKept f_beats f_kind f_notes f_other f_pitch w18_0 f_space f_speed f_times) := hD
  exact W.iret hx hb hr (fun t ht _ => ⟨⟨_, w18_0, rfl, h, hPt hP ht⟩, hS.F ht⟩) hS.2.2 dX10_hears_21
/-! X10_wrongOf -/
abbrev wX10_wrongOf (cI cJ cS : ClassId) (a_o a_kind a_other a_space a_times : Nat) (z_refused z_steps z_speed z_base z_share z_notes z_pitch z_beats z_held z_sort z_size z_shown z_cells z_carried z_words z_tell z_was z_kept z_cutSpace z_cutTimes z_cutOff z_trace : Value) (v_stretches : Int32) (v_cars : Int32) (v_tunes : Int32) (v_along : Int32) (v_near : Int32) (v_borne : Int32) (v_tempo : Int32) (v_seed : Int32) (v_fault : Int32) (v_from : Int32) (v_at : Int32) (v_end : Int32) (v_told : Int32) (v_wrongAt : Int32) (v_culprit : Int32) (v_ran : Int32) (v_isKept : Int32) (f_kind : Nat → Int32) (f_other : Nat → Int32) (f_space : Nat → Int32) (f_times : Nat → Int32) : va_W := [(a_o, .inr (9, [.int v_stretches, .int v_cars, .int v_tunes, .int v_along, .int v_near, .int v_borne, .int v_tempo, .int v_seed, .int v_fault, z_refused, z_steps, .ref a_kind, .ref a_space, .ref a_other, .ref a_times, z_speed, z_base, z_share, z_notes, z_pitch, z_beats, z_held, z_sort, z_size, z_shown, z_cells, z_carried, z_words, z_tell, .int v_from, .int v_at, .int v_end, .int v_told, .int v_wrongAt, z_was, z_kept, .int v_culprit, z_cutSpace, z_cutTimes, z_cutOff, z_trace, .int v_ran, .int v_isKept])), (a_kind, .inl (cI, 16, .inl f_kind)), (a_other, .inl (cI, 16, .inl f_other)), (a_space, .inl (cI, 16, .inl f_space)), (a_times, .inl (cI, 16, .inl f_times))]
def L_X10_wrongOf_114 (v_stretches : Int32) (v_along : Int32) (f_kind : Nat → Int32) (f_other : Nat → Int32) (f_space : Nat → Int32) (f_times : Nat → Int32) (post : Int32 → Int32 → Prop) : Nat → Int32 → Int32 → Prop
  | 0, _, _ => False
  | n114 + 1, x1, v_culprit => ((v_stretches ≤ v_culprit → post 0 (-1)) ∧ (¬ v_stretches ≤ v_culprit → (F_X10_lengthOf f_kind f_other f_space f_times v_culprit (fun r131 => (∀ x1_135 : Int32, x1_135 = x1 + r131 → ((x1_135 ≤ v_along → L_X10_wrongOf_114 v_stretches v_along f_kind f_other f_space f_times post n114 x1_135 (v_culprit + 1)) ∧ (¬ x1_135 ≤ v_along → post 2 v_culprit)))))))
def F_X10_wrongOf_94 (k5 : Int32 → Prop) (v_culprit : Int32) : Prop := k5 (v_culprit + 1)
def L_X10_wrongOf_5 (v_stretches : Int32) (v_along : Int32) (v_near : Int32) (f_kind : Nat → Int32) (f_other : Nat → Int32) (f_space : Nat → Int32) (f_times : Nat → Int32) (post : Int32 → Int32 → Prop) : Nat → Int32 → Prop
  | 0, _ => False
  | n5 + 1, v_culprit => ((v_stretches ≤ v_culprit → (∃ n114 : Nat, L_X10_wrongOf_114 v_stretches v_along f_kind f_other f_space f_times post n114 0 0)) ∧ (¬ v_stretches ≤ v_culprit → (vp_in v_culprit 16 ∧ (∀ x1_25 : Int32, x1_25 = f_kind v_culprit.toNatClampNeg → ((x1_25 = 3 → F_X10_wrongOf_94 (fun v_culprit => L_X10_wrongOf_5 v_stretches v_along v_near f_kind f_other f_space f_times post n5 v_culprit) v_culprit) ∧ (¬ x1_25 = 3 → ((x1_25 = 6 → F_X10_wrongOf_94 (fun v_culprit => L_X10_wrongOf_5 v_stretches v_along v_near f_kind f_other f_space f_times post n5 v_culprit) v_culprit) ∧ (¬ x1_25 = 6 → (vp_in v_culprit 16 ∧ (((f_space v_culprit.toNatClampNeg) < v_near → post 1 v_culprit) ∧ (¬ (f_space v_culprit.toNatClampNeg) < v_near → (F_X10_isTwo x1_25 (fun r58 => ((r58 = 0 → F_X10_wrongOf_94 (fun v_culprit => L_X10_wrongOf_5 v_stretches v_along v_near f_kind f_other f_space f_times post n5 v_culprit) v_culprit) ∧ (¬ r58 = 0 → (vp_in v_culprit 16 ∧ (((f_other v_culprit.toNatClampNeg) ≤ 0 → F_X10_wrongOf_94 (fun v_culprit => L_X10_wrongOf_5 v_stretches v_along v_near f_kind f_other f_space f_times post n5 v_culprit) v_culprit) ∧ (¬ (f_other v_culprit.toNatClampNeg) ≤ 0 → (vp_in v_culprit 16 ∧ ((v_near ≤ (f_other v_culprit.toNatClampNeg) → F_X10_wrongOf_94 (fun v_culprit => L_X10_wrongOf_5 v_stretches v_along v_near f_kind f_other f_space f_times post n5 v_culprit) v_culprit) ∧ (¬ v_near ≤ (f_other v_culprit.toNatClampNeg) → post 1 v_culprit)))))))))))))))))))))
def F_X10_wrongOf (v_stretches : Int32) (v_along : Int32) (v_near : Int32) (v_culprit : Int32) (f_kind : Nat → Int32) (f_other : Nat → Int32) (f_space : Nat → Int32) (f_times : Nat → Int32) (post : Int32 → Int32 → Prop) : Prop := (∃ n5 : Nat, L_X10_wrongOf_5 v_stretches v_along v_near f_kind f_other f_space f_times post n5 0)
set_option maxHeartbeats 4000000 in
set_option maxRecDepth 100000 in
theorem w_X10_wrongOf_114 {l : Launch} {D : va_G} {cI cJ cS : ClassId} {ad adK : Nat → Nat} {a_o a_kind a_other a_space a_times : Nat} {z_refused z_steps z_speed z_base z_share z_notes z_pitch z_beats z_held z_sort z_size z_shown z_cells z_carried z_words z_tell z_was z_kept z_cutSpace z_cutTimes z_cutOff z_trace : Value} {v_stretches : Int32} {v_cars : Int32} {v_tunes : Int32} {v_along : Int32} {v_near : Int32} {v_borne : Int32} {v_tempo : Int32} {v_seed : Int32} {v_fault : Int32} {v_from : Int32} {v_at : Int32} {v_end : Int32} {v_told : Int32} {v_wrongAt : Int32} {v_ran : Int32} {v_isKept : Int32} {f_kind : Nat → Int32} {f_other : Nat → Int32} {f_space : Nat → Int32} {f_times : Nat → Int32} {post : Int32 → Int32 → Prop} {p : Program} {e : Env} {s : State} {m : MethodId} {args : Array Value} {below : List Frame} {meth : Method} {c : Code} {A : Nat → Prop} (S : CallFix p m c cX10_wrongOf 2 s args GW "RoadThatSingsModel") (hE : EN D cI cJ cS s) (hT : ST ad adK A s s.heap) (hA : ∀ q : Nat, s.heap.size ≤ q → A q) (hr : meth.sig.returnType = (some (.int))) (hlocks : meth.locks = false) : ∀ n : Nat, ∀ (x1 : Int32) (v_culprit : Int32) (H : Heap) (locs : List Loc) (ls : Array Slot), L_X10_wrongOf_114 v_stretches v_along f_kind f_other f_space f_times post n x1 v_culprit → va_P D vwCl (wX10_wrongOf cI cJ cS a_o a_kind a_other a_space a_times z_refused z_steps z_speed z_base z_share z_notes z_pitch z_beats z_held z_sort z_size z_shown z_cells z_carried z_words z_tell z_was z_kept z_cutSpace z_cutTimes z_cutOff z_trace v_stretches v_cars v_tunes v_along v_near v_borne v_tempo v_seed v_fault v_from v_at v_end v_told v_wrongAt v_culprit v_ran v_isKept f_kind f_other f_space f_times) H → va_D A (wX10_wrongOf cI cJ cS a_o a_kind a_other a_space a_times z_refused z_steps z_speed z_base z_share z_notes z_pitch z_beats z_held z_sort z_size z_shown z_cells z_carried z_words z_tell z_was z_kept z_cutSpace z_cutTimes z_cutOff z_trace v_stretches v_cars v_tunes v_along v_near v_borne v_tempo v_seed v_fault v_from v_at v_end v_told v_wrongAt v_culprit v_ran v_isKept f_kind f_other f_space f_times) → va_S A s.heap H locs → lv_has ls 2 [(0, .ref a_o), (1, .int x1)] → W p l e (rmd 2 0 0) s m args below meth c H locs 0 0 (MQ below (va_Qi (fun r (u : Int32) => post r u) (fun u t => va_P D vwCl (wX10_wrongOf cI cJ cS a_o a_kind a_other a_space a_times z_refused z_steps z_speed z_base z_share z_notes z_pitch z_beats z_held z_sort z_size z_shown z_cells z_carried z_words z_tell z_was z_kept z_cutSpace z_cutTimes z_cutOff z_trace v_stretches v_cars v_tunes v_along v_near v_borne v_tempo v_seed v_fault v_from v_at v_end v_told v_wrongAt u v_ran v_isKept f_kind f_other f_space f_times) t.heap) A) args s 0 0 A) (F0 m 114 ls []) := by
  intro n
  induction n with
  | zero =>
    intro x1 v_culprit H locs ls h hP hD hS hl
    exact h.elim
  | succ n ih =>
    intro x1 v_culprit H locs ls h hP hD hS hl
    rw [L_X10_wrongOf_114] at h
    have hx := S.1
    have hb := S.2.1
    refine lv_aload_n hx hb dX10_wrongOf_114 rfl (lv_at hl 0 rfl) ?_
    refine gf S hE hP 0 rfl rfl inX10 (k := 36) (by decide) q1129 rfl dX10_wrongOf_115 ?_
    refine lv_aload_n hx hb dX10_wrongOf_118 rfl (lv_at hl 0 rfl) ?_
    refine gf S hE hP 0 rfl rfl inX10 (k := 0) (by decide) q1093 rfl dX10_wrongOf_119 ?_
    refine lv_icmp_ge (tgt := 159) hx hb dX10_wrongOf_122 (by decide) (fun hc => ?_) (fun hc => ?_)
    · have h := h.1 hc
      refine lv_aload_n hx hb dX10_wrongOf_159 rfl (lv_at hl 0 rfl) ?_
      refine lv_iconst (v := (-1)) hx hb dX10_wrongOf_160 (by decide) ?_
      refine pf S hE hP hD hS 0 (k := 36) rfl rfl inX10 tyX10_ok nmX10 (by decide) q1129 rfl rfl rfl (Nat.le_of_ble_eq_true rfl) dX10_wrongOf_161 (fun H locs hP hD hS => ?_)
      have hP : va_P D vwCl (wX10_wrongOf cI cJ cS a_o a_kind a_other a_space a_times z_refused z_steps z_speed z_base z_share z_notes z_pitch z_beats z_held z_sort z_size z_shown z_cells z_carried z_words z_tell z_was z_kept z_cutSpace z_cutTimes z_cutOff z_trace v_stretches v_cars v_tunes v_along v_near v_borne v_tempo v_seed v_fault v_from v_at v_end v_told v_wrongAt (-1) v_ran v_isKept f_kind f_other f_space f_times) H := hP
      have hD : va_D A (wX10_wrongOf cI cJ cS a_o a_kind a_other a_space a_times z_refused z_steps z_speed z_base z_share z_notes z_pitch z_beats z_held z_sort z_size z_shown z_cells z_carried z_words z_tell z_was z_kept z_cutSpace z_cutTimes z_cutOff z_trace v_stretches v_cars v_tunes v_along v_near v_borne v_tempo v_seed v_fault v_from v_at v_end v_told v_wrongAt (-1) v_ran v_isKept f_kind f_other f_space f_times) := hD
      refine lv_iconst (v := 0) hx hb dX10_wrongOf_164 (by decide) ?_
      exact W.iret hx hb hr (fun t ht _ => ⟨⟨_, (-1), rfl, h, hPt hP ht⟩, hS.F ht⟩) hS.2.2 dX10_wrongOf_165
    have h := h.2 hc
    refine lv_iload_n hx hb dX10_wrongOf_125 rfl (lv_at hl 1 rfl) ?_
    refine lv_aload_n hx hb dX10_wrongOf_126 rfl (lv_at hl 0 rfl) ?_
    refine lv_aload_n hx hb dX10_wrongOf_127 rfl (lv_at hl 0 rfl) ?_
    refine gf S hE hP 0 rfl rfl inX10 (k := 36) (by decide) q1129 rfl dX10_wrongOf_128 ?_
    refine ro_i (roV S hE hT hS (c_X10_lengthOf h) lkX10_131 rfl ⟨(Nat.le_of_ble_eq_true rfl), (Nat.le_of_ble_eq_true rfl)⟩ (hP.sub [0, 1, 2, 3, 4] rfl) 0 rfl rfl hl.1 rfl (Nat.le_of_ble_eq_true rfl) dX10_wrongOf_131 ⟨(Nat.zero_le _), (Nat.zero_le _)⟩) (fun r131 h => ?_)
    refine lv_iadd hx hb dX10_wrongOf_134 ?_
    refine lv_topi (fun x1_135 ex1_135 => ?_)
    have h := h _ ex1_135
    refine lv_istore_n (lv' := [(1, .int x1_135), (0, .ref a_o)]) hx hb dX10_wrongOf_135 rfl hl (by decide) rfl (fun ls hl => ?_)
    refine lv_iload_n hx hb dX10_wrongOf_136 rfl (lv_at hl 0 rfl) ?_
    refine lv_aload_n hx hb dX10_wrongOf_137 rfl (lv_at hl 1 rfl) ?_
    refine gf S hE hP 0 rfl rfl inX10 (k := 3) (by decide) q1096 rfl dX10_wrongOf_138 ?_
    refine lv_icmp_le (tgt := 146) hx hb dX10_wrongOf_141 (by decide) (fun hc => ?_) (fun hc => ?_)
    · have h := h.1 hc
      refine lv_aload_n hx hb dX10_wrongOf_146 rfl (lv_at hl 1 rfl) ?_
      refine lv_dup hx hb dX10_wrongOf_147 rfl ?_
      refine gf S hE hP 0 rfl rfl inX10 (k := 36) (by decide) q1129 rfl dX10_wrongOf_148 ?_
      refine lv_iconst (v := 1) hx hb dX10_wrongOf_151 (by decide) ?_
      refine lv_iadd hx hb dX10_wrongOf_152 ?_
      refine pf S hE hP hD hS 0 (k := 36) rfl rfl inX10 tyX10_ok nmX10 (by decide) q1129 rfl rfl rfl (Nat.le_of_ble_eq_true rfl) dX10_wrongOf_153 (fun H locs hP hD hS => ?_)
      have hP : va_P D vwCl (wX10_wrongOf cI cJ cS a_o a_kind a_other a_space a_times z_refused z_steps z_speed z_base z_share z_notes z_pitch z_beats z_held z_sort z_size z_shown z_cells z_carried z_words z_tell z_was z_kept z_cutSpace z_cutTimes z_cutOff z_trace v_stretches v_cars v_tunes v_along v_near v_borne v_tempo v_seed v_fault v_from v_at v_end v_told v_wrongAt (v_culprit + 1) v_ran v_isKept f_kind f_other f_space f_times) H := hP
      have hD : va_D A (wX10_wrongOf cI cJ cS a_o a_kind a_other a_space a_times z_refused z_steps z_speed z_base z_share z_notes z_pitch z_beats z_held z_sort z_size z_shown z_cells z_carried z_words z_tell z_was z_kept z_cutSpace z_cutTimes z_cutOff z_trace v_stretches v_cars v_tunes v_along v_near v_borne v_tempo v_seed v_fault v_from v_at v_end v_told v_wrongAt (v_culprit + 1) v_ran v_isKept f_kind f_other f_space f_times) := hD
      refine lv_goto (tgt := 114) hx hb dX10_wrongOf_156 (by decide) ?_
      exact ih _ _ _ _ _ h hP hD hS (lv_sub hl [1, 0] rfl)
    have h := h.2 hc
    refine lv_iconst (v := 2) hx hb dX10_wrongOf_144 (by decide) ?_
    exact W.iret hx hb hr (fun t ht _ => ⟨⟨_, v_culprit, rfl, h, hPt hP ht⟩, hS.F ht⟩) hS.2.2 dX10_wrongOf_145
set_option maxHeartbeats 4000000 in
set_option maxRecDepth 100000 in
theorem w_X10_wrongOf_94 {l : Launch} {D : va_G} {cI cJ cS : ClassId} {ad adK : Nat → Nat} {a_o a_kind a_other a_space a_times : Nat} {z_refused z_steps z_speed z_base z_share z_notes z_pitch z_beats z_held z_sort z_size z_shown z_cells z_carried z_words z_tell z_was z_kept z_cutSpace z_cutTimes z_cutOff z_trace : Value} {v_stretches : Int32} {v_cars : Int32} {v_tunes : Int32} {v_along : Int32} {v_near : Int32} {v_borne : Int32} {v_tempo : Int32} {v_seed : Int32} {v_fault : Int32} {v_from : Int32} {v_at : Int32} {v_end : Int32} {v_told : Int32} {v_wrongAt : Int32} {v_culprit : Int32} {v_ran : Int32} {v_isKept : Int32} {f_kind : Nat → Int32} {f_other : Nat → Int32} {f_space : Nat → Int32} {f_times : Nat → Int32} {post : Int32 → Int32 → Prop} {k5 : Int32 → Prop} {p : Program} {e : Env} {s : State} {m : MethodId} {args : Array Value} {below : List Frame} {meth : Method} {c : Code} {A : Nat → Prop} (S : CallFix p m c cX10_wrongOf 2 s args GW "RoadThatSingsModel") (hE : EN D cI cJ cS s) (hT : ST ad adK A s s.heap) (hA : ∀ q : Nat, s.heap.size ≤ q → A q) (hr : meth.sig.returnType = (some (.int))) (hlocks : meth.locks = false) (hk5 : ∀ (v_culprit : Int32) (H : Heap) (locs : List Loc) (ls : Array Slot), k5 v_culprit → va_P D vwCl (wX10_wrongOf cI cJ cS a_o a_kind a_other a_space a_times z_refused z_steps z_speed z_base z_share z_notes z_pitch z_beats z_held z_sort z_size z_shown z_cells z_carried z_words z_tell z_was z_kept z_cutSpace z_cutTimes z_cutOff z_trace v_stretches v_cars v_tunes v_along v_near v_borne v_tempo v_seed v_fault v_from v_at v_end v_told v_wrongAt v_culprit v_ran v_isKept f_kind f_other f_space f_times) H → va_D A (wX10_wrongOf cI cJ cS a_o a_kind a_other a_space a_times z_refused z_steps z_speed z_base z_share z_notes z_pitch z_beats z_held z_sort z_size z_shown z_cells z_carried z_words z_tell z_was z_kept z_cutSpace z_cutTimes z_cutOff z_trace v_stretches v_cars v_tunes v_along v_near v_borne v_tempo v_seed v_fault v_from v_at v_end v_told v_wrongAt v_culprit v_ran v_isKept f_kind f_other f_space f_times) → va_S A s.heap H locs → lv_has ls 2 [(0, .ref a_o)] → W p l e (rmd 2 0 0) s m args below meth c H locs 0 0 (MQ below (va_Qi (fun r (u : Int32) => post r u) (fun u t => va_P D vwCl (wX10_wrongOf cI cJ cS a_o a_kind a_other a_space a_times z_refused z_steps z_speed z_base z_share z_notes z_pitch z_beats z_held z_sort z_size z_shown z_cells z_carried z_words z_tell z_was z_kept z_cutSpace z_cutTimes z_cutOff z_trace v_stretches v_cars v_tunes v_along v_near v_borne v_tempo v_seed v_fault v_from v_at v_end v_told v_wrongAt u v_ran v_isKept f_kind f_other f_space f_times) t.heap) A) args s 0 0 A) (F0 m 5 ls [])) : ∀ (H : Heap) (locs : List Loc) (ls : Array Slot), F_X10_wrongOf_94 k5 v_culprit → va_P D vwCl (wX10_wrongOf cI cJ cS a_o a_kind a_other a_space a_times z_refused z_steps z_speed z_base z_share z_notes z_pitch z_beats z_held z_sort z_size z_shown z_cells z_carried z_words z_tell z_was z_kept z_cutSpace z_cutTimes z_cutOff z_trace v_stretches v_cars v_tunes v_along v_near v_borne v_tempo v_seed v_fault v_from v_at v_end v_told v_wrongAt v_culprit v_ran v_isKept f_kind f_other f_space f_times) H → va_D A (wX10_wrongOf cI cJ cS a_o a_kind a_other a_space a_times z_refused z_steps z_speed z_base z_share z_notes z_pitch z_beats z_held z_sort z_size z_shown z_cells z_carried z_words z_tell z_was z_kept z_cutSpace z_cutTimes z_cutOff z_trace v_stretches v_cars v_tunes v_along v_near v_borne v_tempo v_seed v_fault v_from v_at v_end v_told v_wrongAt v_culprit v_ran v_isKept f_kind f_other f_space f_times) → va_S A s.heap H locs → lv_has ls 2 [(0, .ref a_o)] → W p l e (rmd 2 0 0) s m args below meth c H locs 0 0 (MQ below (va_Qi (fun r (u : Int32) => post r u) (fun u t => va_P D vwCl (wX10_wrongOf cI cJ cS a_o a_kind a_other a_space a_times z_refused z_steps z_speed z_base z_share z_notes z_pitch z_beats z_held z_sort z_size z_shown z_cells z_carried z_words z_tell z_was z_kept z_cutSpace z_cutTimes z_cutOff z_trace v_stretches v_cars v_tunes v_along v_near v_borne v_tempo v_seed v_fault v_from v_at v_end v_told v_wrongAt u v_ran v_isKept f_kind f_other f_space f_times) t.heap) A) args s 0 0 A) (F0 m 94 ls []) := by
  intro  H locs ls h hP hD hS hl
  unfold F_X10_wrongOf_94 at h
  have hx := S.1
  have hb := S.2.1
  refine lv_aload_n hx hb dX10_wrongOf_94 rfl (lv_at hl 0 rfl) ?_
  refine lv_dup hx hb dX10_wrongOf_95 rfl ?_
  refine gf S hE hP 0 rfl rfl inX10 (k := 36) (by decide) q1129 rfl dX10_wrongOf_96 ?_
  refine lv_iconst (v := 1) hx hb dX10_wrongOf_99 (by decide) ?_
  refine lv_iadd hx hb dX10_wrongOf_100 ?_
  refine pf S hE hP hD hS 0 (k := 36) rfl rfl inX10 tyX10_ok nmX10 (by decide) q1129 rfl rfl rfl (Nat.le_of_ble_eq_true rfl) dX10_wrongOf_101 (fun H locs hP hD hS => ?_)
  have hP : va_P D vwCl (wX10_wrongOf cI cJ cS a_o a_kind a_other a_space a_times z_refused z_steps z_speed z_base z_share z_notes z_pitch z_beats z_held z_sort z_size z_shown z_cells z_carried z_words z_tell z_was z_kept z_cutSpace z_cutTimes z_cutOff z_trace v_stretches v_cars v_tunes v_along v_near v_borne v_tempo v_seed v_fault v_from v_at v_end v_told v_wrongAt (v_culprit + 1) v_ran v_isKept f_kind f_other f_space f_times) H := hP
  have hD : va_D A (wX10_wrongOf cI cJ cS a_o a_kind a_other a_space a_times z_refused z_steps z_speed z_base z_share z_notes z_pitch z_beats z_held z_sort z_size z_shown z_cells z_carried z_words z_tell z_was z_kept z_cutSpace z_cutTimes z_cutOff z_trace v_stretches v_cars v_tunes v_along v_near v_borne v_tempo v_seed v_fault v_from v_at v_end v_told v_wrongAt (v_culprit + 1) v_ran v_isKept f_kind f_other f_space f_times) := hD
  refine lv_goto (tgt := 5) hx hb dX10_wrongOf_104 (by decide) ?_
  exact hk5 _ _ _ _ h hP hD hS (lv_sub hl [0] rfl)
set_option maxHeartbeats 4000000 in
set_option maxRecDepth 100000 in
theorem w_X10_wrongOf_5 {l : Launch} {D : va_G} {cI cJ cS : ClassId} {ad adK : Nat → Nat} {a_o a_kind a_other a_space a_times : Nat} {z_refused z_steps z_speed z_base z_share z_notes z_pitch z_beats z_held z_sort z_size z_shown z_cells z_carried z_words z_tell z_was z_kept z_cutSpace z_cutTimes z_cutOff z_trace : Value} {v_stretches : Int32} {v_cars : Int32} {v_tunes : Int32} {v_along : Int32} {v_near : Int32} {v_borne : Int32} {v_tempo : Int32} {v_seed : Int32} {v_fault : Int32} {v_from : Int32} {v_at : Int32} {v_end : Int32} {v_told : Int32} {v_wrongAt : Int32} {v_ran : Int32} {v_isKept : Int32} {f_kind : Nat → Int32} {f_other : Nat → Int32} {f_space : Nat → Int32} {f_times : Nat → Int32} {post : Int32 → Int32 → Prop} {p : Program} {e : Env} {s : State} {m : MethodId} {args : Array Value} {below : List Frame} {meth : Method} {c : Code} {A : Nat → Prop} (S : CallFix p m c cX10_wrongOf 2 s args GW "RoadThatSingsModel") (hE : EN D cI cJ cS s) (hT : ST ad adK A s s.heap) (hA : ∀ q : Nat, s.heap.size ≤ q → A q) (hr : meth.sig.returnType = (some (.int))) (hlocks : meth.locks = false) : ∀ n : Nat, ∀ (v_culprit : Int32) (H : Heap) (locs : List Loc) (ls : Array Slot), L_X10_wrongOf_5 v_stretches v_along v_near f_kind f_other f_space f_times post n v_culprit → va_P D vwCl (wX10_wrongOf cI cJ cS a_o a_kind a_other a_space a_times z_refused z_steps z_speed z_base z_share z_notes z_pitch z_beats z_held z_sort z_size z_shown z_cells z_carried z_words z_tell z_was z_kept z_cutSpace z_cutTimes z_cutOff z_trace v_stretches v_cars v_tunes v_along v_near v_borne v_tempo v_seed v_fault v_from v_at v_end v_told v_wrongAt v_culprit v_ran v_isKept f_kind f_other f_space f_times) H → va_D A (wX10_wrongOf cI cJ cS a_o a_kind a_other a_space a_times z_refused z_steps z_speed z_base z_share z_notes z_pitch z_beats z_held z_sort z_size z_shown z_cells z_carried z_words z_tell z_was z_kept z_cutSpace z_cutTimes z_cutOff z_trace v_stretches v_cars v_tunes v_along v_near v_borne v_tempo v_seed v_fault v_from v_at v_end v_told v_wrongAt v_culprit v_ran v_isKept f_kind f_other f_space f_times) → va_S A s.heap H locs → lv_has ls 2 [(0, .ref a_o)] → W p l e (rmd 2 0 0) s m args below meth c H locs 0 0 (MQ below (va_Qi (fun r (u : Int32) => post r u) (fun u t => va_P D vwCl (wX10_wrongOf cI cJ cS a_o a_kind a_other a_space a_times z_refused z_steps z_speed z_base z_share z_notes z_pitch z_beats z_held z_sort z_size z_shown z_cells z_carried z_words z_tell z_was z_kept z_cutSpace z_cutTimes z_cutOff z_trace v_stretches v_cars v_tunes v_along v_near v_borne v_tempo v_seed v_fault v_from v_at v_end v_told v_wrongAt u v_ran v_isKept f_kind f_other f_space f_times) t.heap) A) args s 0 0 A) (F0 m 5 ls []) := by
  intro n
  induction n with
  | zero =>
    intro v_culprit H locs ls h hP hD hS hl
    exact h.elim
  | succ n ih =>
    intro v_culprit H locs ls h hP hD hS hl
    rw [L_X10_wrongOf_5] at h
    have hx := S.1
    have hb := S.2.1
    refine lv_aload_n hx hb dX10_wrongOf_5 rfl (lv_at hl 0 rfl) ?_
    refine gf S hE hP 0 rfl rfl inX10 (k := 36) (by decide) q1129 rfl dX10_wrongOf_6 ?_
    refine lv_aload_n hx hb dX10_wrongOf_9 rfl (lv_at hl 0 rfl) ?_
    refine gf S hE hP 0 rfl rfl inX10 (k := 0) (by decide) q1093 rfl dX10_wrongOf_10 ?_
    refine lv_icmp_ge (tgt := 107) hx hb dX10_wrongOf_13 (by decide) (fun hc => ?_) (fun hc => ?_)
    · have h := h.1 hc
      refine lv_iconst (v := 0) hx hb dX10_wrongOf_107 (by decide) ?_
      refine lv_istore_n (lv' := [(1, .int 0), (0, .ref a_o)]) hx hb dX10_wrongOf_108 rfl hl (by decide) rfl (fun ls hl => ?_)
      refine lv_aload_n hx hb dX10_wrongOf_109 rfl (lv_at hl 1 rfl) ?_
      refine lv_iconst (v := 0) hx hb dX10_wrongOf_110 (by decide) ?_
      refine pf S hE hP hD hS 0 (k := 36) rfl rfl inX10 tyX10_ok nmX10 (by decide) q1129 rfl rfl rfl (Nat.le_of_ble_eq_true rfl) dX10_wrongOf_111 (fun H locs hP hD hS => ?_)
      have hP : va_P D vwCl (wX10_wrongOf cI cJ cS a_o a_kind a_other a_space a_times z_refused z_steps z_speed z_base z_share z_notes z_pitch z_beats z_held z_sort z_size z_shown z_cells z_carried z_words z_tell z_was z_kept z_cutSpace z_cutTimes z_cutOff z_trace v_stretches v_cars v_tunes v_along v_near v_borne v_tempo v_seed v_fault v_from v_at v_end v_told v_wrongAt 0 v_ran v_isKept f_kind f_other f_space f_times) H := hP
      have hD : va_D A (wX10_wrongOf cI cJ cS a_o a_kind a_other a_space a_times z_refused z_steps z_speed z_base z_share z_notes z_pitch z_beats z_held z_sort z_size z_shown z_cells z_carried z_words z_tell z_was z_kept z_cutSpace z_cutTimes z_cutOff z_trace v_stretches v_cars v_tunes v_along v_near v_borne v_tempo v_seed v_fault v_from v_at v_end v_told v_wrongAt 0 v_ran v_isKept f_kind f_other f_space f_times) := hD
      obtain ⟨n, h⟩ := h
      refine w_X10_wrongOf_114 S hE hT hA hr hlocks n _ _ _ _ _ h hP hD hS (lv_sub hl [1, 0] rfl)
    have h := h.2 hc
    refine lv_aload_n hx hb dX10_wrongOf_16 rfl (lv_at hl 0 rfl) ?_
    refine gf S hE hP 0 rfl rfl inX10 (k := 11) (by decide) q1104 rfl dX10_wrongOf_17 ?_
    refine lv_aload_n hx hb dX10_wrongOf_20 rfl (lv_at hl 0 rfl) ?_
    refine gf S hE hP 0 rfl rfl inX10 (k := 36) (by decide) q1129 rfl dX10_wrongOf_21 ?_
    obtain ⟨hi, h⟩ := h
    refine ial S hE hP 1 rfl hi dX10_wrongOf_24 ?_
    refine lv_topi (fun x1_25 ex1_25 => ?_)
    have h := h _ ex1_25
    refine lv_istore_n (lv' := [(1, .int x1_25), (0, .ref a_o)]) hx hb dX10_wrongOf_25 rfl hl (by decide) rfl (fun ls hl => ?_)
    refine lv_iload_n hx hb dX10_wrongOf_26 rfl (lv_at hl 0 rfl) ?_
    refine lv_iconst (v := 3) hx hb dX10_wrongOf_27 (by decide) ?_
    refine lv_icmp_eq (tgt := 94) hx hb dX10_wrongOf_28 (by decide) (fun hc => ?_) (fun hc => ?_)
    · have h := h.1 hc
      refine w_X10_wrongOf_94 S hE hT hA hr hlocks ih _ _ _ h hP hD hS (lv_sub hl [1] rfl)
    have h := h.2 hc
    refine lv_iload_n hx hb dX10_wrongOf_31 rfl (lv_at hl 0 rfl) ?_
    refine lv_bipush (v := 6) hx hb dX10_wrongOf_32 (by decide) ?_
    refine lv_icmp_ne (tgt := 40) hx hb dX10_wrongOf_34 (by decide) (fun hc => ?_) (fun hc => ?_)
    · have h := h.2 hc
      refine lv_aload_n hx hb dX10_wrongOf_40 rfl (lv_at hl 1 rfl) ?_
      refine gf S hE hP 0 rfl rfl inX10 (k := 12) (by decide) q1105 rfl dX10_wrongOf_41 ?_
      refine lv_aload_n hx hb dX10_wrongOf_44 rfl (lv_at hl 1 rfl) ?_
      refine gf S hE hP 0 rfl rfl inX10 (k := 36) (by decide) q1129 rfl dX10_wrongOf_45 ?_
      obtain ⟨hi, h⟩ := h
      refine ial S hE hP 3 rfl hi dX10_wrongOf_48 ?_
      refine lv_aload_n hx hb dX10_wrongOf_49 rfl (lv_at hl 1 rfl) ?_
      refine gf S hE hP 0 rfl rfl inX10 (k := 4) (by decide) q1097 rfl dX10_wrongOf_50 ?_
      refine lv_icmp_lt (tgt := 92) hx hb dX10_wrongOf_53 (by decide) (fun hc => ?_) (fun hc => ?_)
      · have h := h.1 hc
        refine lv_iconst (v := 1) hx hb dX10_wrongOf_92 (by decide) ?_
        exact W.iret hx hb hr (fun t ht _ => ⟨⟨_, v_culprit, rfl, h, hPt hP ht⟩, hS.F ht⟩) hS.2.2 dX10_wrongOf_93
      have h := h.2 hc
      refine lv_aload_n hx hb dX10_wrongOf_56 rfl (lv_at hl 1 rfl) ?_
      refine lv_iload_n hx hb dX10_wrongOf_57 rfl (lv_at hl 0 rfl) ?_
      refine ro_i (roV S hE hT hS (c_X10_isTwo h) lkX10_152 rfl ⟨(Nat.le_of_ble_eq_true rfl), (Nat.le_of_ble_eq_true rfl)⟩ (hP.sub [0] rfl) 0 rfl rfl hl.1 rfl (Nat.le_of_ble_eq_true rfl) dX10_wrongOf_58 ⟨(Nat.zero_le _), (Nat.zero_le _)⟩) (fun r58 h => ?_)
      refine lv_if_eq (tgt := 94) hx hb dX10_wrongOf_61 (by decide) (fun hc => ?_) (fun hc => ?_)
      · have h := h.1 hc
        refine w_X10_wrongOf_94 S hE hT hA hr hlocks ih _ _ _ h hP hD hS (lv_sub hl [1] rfl)
      have h := h.2 hc
      refine lv_aload_n hx hb dX10_wrongOf_64 rfl (lv_at hl 1 rfl) ?_
      refine gf S hE hP 0 rfl rfl inX10 (k := 13) (by decide) q1106 rfl dX10_wrongOf_65 ?_
      refine lv_aload_n hx hb dX10_wrongOf_68 rfl (lv_at hl 1 rfl) ?_
      refine gf S hE hP 0 rfl rfl inX10 (k := 36) (by decide) q1129 rfl dX10_wrongOf_69 ?_
      obtain ⟨hi, h⟩ := h
      refine ial S hE hP 2 rfl hi dX10_wrongOf_72 ?_
      refine lv_if_le (tgt := 94) hx hb dX10_wrongOf_73 (by decide) (fun hc => ?_) (fun hc => ?_)
      · have h := h.1 hc
        refine w_X10_wrongOf_94 S hE hT hA hr hlocks ih _ _ _ h hP hD hS (lv_sub hl [1] rfl)
      have h := h.2 hc
      refine lv_aload_n hx hb dX10_wrongOf_76 rfl (lv_at hl 1 rfl) ?_
      refine gf S hE hP 0 rfl rfl inX10 (k := 13) (by decide) q1106 rfl dX10_wrongOf_77 ?_
      refine lv_aload_n hx hb dX10_wrongOf_80 rfl (lv_at hl 1 rfl) ?_
      refine gf S hE hP 0 rfl rfl inX10 (k := 36) (by decide) q1129 rfl dX10_wrongOf_81 ?_
      obtain ⟨hi, h⟩ := h
      refine ial S hE hP 2 rfl hi dX10_wrongOf_84 ?_
      refine lv_aload_n hx hb dX10_wrongOf_85 rfl (lv_at hl 1 rfl) ?_
      refine gf S hE hP 0 rfl rfl inX10 (k := 4) (by decide) q1097 rfl dX10_wrongOf_86 ?_
      refine lv_icmp_ge (tgt := 94) hx hb dX10_wrongOf_89 (by decide) (fun hc => ?_) (fun hc => ?_)
      · have h := h.1 hc
        refine w_X10_wrongOf_94 S hE hT hA hr hlocks ih _ _ _ h hP hD hS (lv_sub hl [1] rfl)
      have h := h.2 hc
      refine lv_iconst (v := 1) hx hb dX10_wrongOf_92 (by decide) ?_
      exact W.iret hx hb hr (fun t ht _ => ⟨⟨_, v_culprit, rfl, h, hPt hP ht⟩, hS.F ht⟩) hS.2.2 dX10_wrongOf_93
    have h := h.1 hc
    refine lv_goto (tgt := 94) hx hb dX10_wrongOf_37 (by decide) ?_
    refine w_X10_wrongOf_94 S hE hT hA hr hlocks ih _ _ _ h hP hD hS (lv_sub hl [1] rfl)
set_option maxHeartbeats 4000000 in
set_option maxRecDepth 100000 in
theorem c_X10_wrongOf {l : Launch} {D : va_G} {cI cJ cS : ClassId} {ad adK : Nat → Nat} {a_o a_kind a_other a_space a_times : Nat} {z_refused z_steps z_speed z_base z_share z_notes z_pitch z_beats z_held z_sort z_size z_shown z_cells z_carried z_words z_tell z_was z_kept z_cutSpace z_cutTimes z_cutOff z_trace : Value} {v_stretches : Int32} {v_cars : Int32} {v_tunes : Int32} {v_along : Int32} {v_near : Int32} {v_borne : Int32} {v_tempo : Int32} {v_seed : Int32} {v_fault : Int32} {v_from : Int32} {v_at : Int32} {v_end : Int32} {v_told : Int32} {v_wrongAt : Int32} {v_culprit : Int32} {v_ran : Int32} {v_isKept : Int32} {f_kind : Nat → Int32} {f_other : Nat → Int32} {f_space : Nat → Int32} {f_times : Nat → Int32} {post : Int32 → Int32 → Prop} (h : F_X10_wrongOf v_stretches v_along v_near v_culprit f_kind f_other f_space f_times post) {sz : Nat} : Met l yX10_wrongOf (Cond.code yX10_wrongOf cX10_wrongOf 2 (some (.int)) :: GW) (rmd 2 0 0) (PW D cI cJ cS ad adK [.ref a_o] (wX10_wrongOf cI cJ cS a_o a_kind a_other a_space a_times z_refused z_steps z_speed z_base z_share z_notes z_pitch z_beats z_held z_sort z_size z_shown z_cells z_carried z_words z_tell z_was z_kept z_cutSpace z_cutTimes z_cutOff z_trace v_stretches v_cars v_tunes v_along v_near v_borne v_tempo v_seed v_fault v_from v_at v_end v_told v_wrongAt v_culprit v_ran v_isKept f_kind f_other f_space f_times) sz) (va_Qi (fun r (u : Int32) => post r u) (fun u t => va_P D vwCl (wX10_wrongOf cI cJ cS a_o a_kind a_other a_space a_times z_refused z_steps z_speed z_base z_share z_notes z_pitch z_beats z_held z_sort z_size z_shown z_cells z_carried z_words z_tell z_was z_kept z_cutSpace z_cutTimes z_cutOff z_trace v_stretches v_cars v_tunes v_along v_near v_borne v_tempo v_seed v_fault v_from v_at v_end v_told v_wrongAt u v_ran v_isKept f_kind f_other f_space f_times) t.heap) (va_A (wX10_wrongOf cI cJ cS a_o a_kind a_other a_space a_times z_refused z_steps z_speed z_base z_share z_notes z_pitch z_beats z_held z_sort z_size z_shown z_cells z_carried z_words z_tell z_was z_kept z_cutSpace z_cutTimes z_cutOff z_trace v_stretches v_cars v_tunes v_along v_near v_borne v_tempo v_seed v_fault v_from v_at v_end v_told v_wrongAt v_culprit v_ran v_isKept f_kind f_other f_space f_times) sz)) 0 0 (va_A (wX10_wrongOf cI cJ cS a_o a_kind a_other a_space a_times z_refused z_steps z_speed z_base z_share z_notes z_pitch z_beats z_held z_sort z_size z_shown z_cells z_carried z_words z_tell z_was z_kept z_cutSpace z_cutTimes z_cutOff z_trace v_stretches v_cars v_tunes v_along v_near v_borne v_tempo v_seed v_fault v_from v_at v_end v_told v_wrongAt v_culprit v_ran v_isKept f_kind f_other f_space f_times) sz) := by
  refine Met.rw (Qc := fun A => (va_Qi (fun r (u : Int32) => post r u) (fun u t => va_P D vwCl (wX10_wrongOf cI cJ cS a_o a_kind a_other a_space a_times z_refused z_steps z_speed z_base z_share z_notes z_pitch z_beats z_held z_sort z_size z_shown z_cells z_carried z_words z_tell z_was z_kept z_cutSpace z_cutTimes z_cutOff z_trace v_stretches v_cars v_tunes v_along v_near v_borne v_tempo v_seed v_fault v_from v_at v_end v_told v_wrongAt u v_ran v_isKept f_kind f_other f_space f_times) t.heap) A)) (by decide) (Nat.le_of_ble_eq_true rfl) (fun p e s m args below meth c ls A (S : CallFix p m c cX10_wrongOf 2 s args GW "RoadThatSingsModel") hE hT hP hD hA hS hr hlocks hname hl => ?_)
  have hS0 := hS
  have hx := S.1
  have hb := S.2.1
  have hl : lv_has ls 2 [(0, .ref a_o)] := hl
  unfold F_X10_wrongOf at h
  refine lv_aload_n hx hb dX10_wrongOf_0 rfl (lv_at hl 0 rfl) ?_
  refine lv_iconst (v := 0) hx hb dX10_wrongOf_1 (by decide) ?_
  refine pf S hE hP hD hS 0 (k := 36) rfl rfl inX10 tyX10_ok nmX10 (by decide) q1129 rfl rfl rfl (Nat.le_of_ble_eq_true rfl) dX10_wrongOf_2 (fun H locs hP hD hS => ?_)
  have hP : va_P D vwCl (wX10_wrongOf cI cJ cS a_o a_kind a_other a_space a_times z_refused z_steps z_speed z_base z_share z_notes z_pitch z_beats z_held z_sort z_size z_shown z_cells z_carried z_words z_tell z_was z_kept z_cutSpace z_cutTimes z_cutOff z_trace v_stretches v_cars v_tunes v_along v_near v_borne v_tempo v_seed v_fault v_from v_at v_end v_told v_wrongAt 0 v_ran v_isKept f_kind f_other f_space f_times) H := hP
  have hD : va_D A (wX10_wrongOf cI cJ cS a_o a_kind a_other a_space a_times z_refused z_steps z_speed z_base z_share z_notes z_pitch z_beats z_held z_sort z_size z_shown z_cells z_carried z_words z_tell z_was z_kept z_cutSpace z_cutTimes z_cutOff z_trace v_stretches v_cars v_tunes v_along v_near v_borne v_tempo v_seed v_fault v_from v_at v_end v_told v_wrongAt 0 v_ran v_isKept f_kind f_other f_space f_times) := hD
  obtain ⟨n, h⟩ := h
  refine w_X10_wrongOf_5 S hE hT hA hr hlocks n _ _ _ _ h hP hD hS (lv_sub hl [0] rfl)
/-! X10_wrong_ -/
abbrev wX10_wrong_ (cI cJ cS : ClassId) (a_o a_kind a_other a_space a_times : Nat) (z_refused z_steps z_speed z_base z_share z_notes z_pitch z_beats z_held z_sort z_size z_shown z_cells z_carried z_words z_tell z_was z_kept z_cutSpace z_cutTimes z_cutOff z_trace : Value) (v_stretches : Int32) (v_cars : Int32) (v_tunes : Int32) (v_along : Int32) (v_near : Int32) (v_borne : Int32) (v_tempo : Int32) (v_seed : Int32) (v_fault : Int32) (v_from : Int32) (v_at : Int32) (v_end : Int32) (v_told : Int32) (v_wrongAt : Int32) (v_culprit : Int32) (v_ran : Int32) (v_isKept : Int32) (f_kind : Nat → Int32) (f_other : Nat → Int32) (f_space : Nat → Int32) (f_times : Nat → Int32) : va_W := [(a_o, .inr (9, [.int v_stretches, .int v_cars, .int v_tunes, .int v_along, .int v_near, .int v_borne, .int v_tempo, .int v_seed, .int v_fault, z_refused, z_steps, .ref a_kind, .ref a_space, .ref a_other, .ref a_times, z_speed, z_base, z_share, z_notes, z_pitch, z_beats, z_held, z_sort, z_size, z_shown, z_cells, z_carried, z_words, z_tell, .int v_from, .int v_at, .int v_end, .int v_told, .int v_wrongAt, z_was, z_kept, .int v_culprit, z_cutSpace, z_cutTimes, z_cutOff, z_trace, .int v_ran, .int v_isKept])), (a_kind, .inl (cI, 16, .inl f_kind)), (a_other, .inl (cI, 16, .inl f_other)), (a_space, .inl (cI, 16, .inl f_space)), (a_times, .inl (cI, 16, .inl f_times))]
def F_X10_wrong_ (v_stretches : Int32) (v_along : Int32) (v_near : Int32) (v_culprit : Int32) (f_kind : Nat → Int32) (f_other : Nat → Int32) (f_space : Nat → Int32) (f_times : Nat → Int32) (post : Int32 → Int32 → Prop) : Prop := (F_X10_wrongOf v_stretches v_along v_near v_culprit f_kind f_other f_space f_times (fun r1 w1_0 => post r1 w1_0))
set_option maxHeartbeats 4000000 in
set_option maxRecDepth 100000 in
theorem c_X10_wrong_ {l : Launch} {D : va_G} {cI cJ cS : ClassId} {ad adK : Nat → Nat} {a_o a_kind a_other a_space a_times : Nat} {z_refused z_steps z_speed z_base z_share z_notes z_pitch z_beats z_held z_sort z_size z_shown z_cells z_carried z_words z_tell z_was z_kept z_cutSpace z_cutTimes z_cutOff z_trace : Value} {v_stretches : Int32} {v_cars : Int32} {v_tunes : Int32} {v_along : Int32} {v_near : Int32} {v_borne : Int32} {v_tempo : Int32} {v_seed : Int32} {v_fault : Int32} {v_from : Int32} {v_at : Int32} {v_end : Int32} {v_told : Int32} {v_wrongAt : Int32} {v_culprit : Int32} {v_ran : Int32} {v_isKept : Int32} {f_kind : Nat → Int32} {f_other : Nat → Int32} {f_space : Nat → Int32} {f_times : Nat → Int32} {post : Int32 → Int32 → Prop} (h : F_X10_wrong_ v_stretches v_along v_near v_culprit f_kind f_other f_space f_times post) {sz : Nat} : Met l yX10_wrong_ (Cond.code yX10_wrong_ cX10_wrong_ 1 (some (.int)) :: GW) (rmd 3 0 0) (PW D cI cJ cS ad adK [.ref a_o] (wX10_wrong_ cI cJ cS a_o a_kind a_other a_space a_times z_refused z_steps z_speed z_base z_share z_notes z_pitch z_beats z_held z_sort z_size z_shown z_cells z_carried z_words z_tell z_was z_kept z_cutSpace z_cutTimes z_cutOff z_trace v_stretches v_cars v_tunes v_along v_near v_borne v_tempo v_seed v_fault v_from v_at v_end v_told v_wrongAt v_culprit v_ran v_isKept f_kind f_other f_space f_times) sz) (va_Qi (fun r (u : Int32) => post r u) (fun u t => va_P D vwCl (wX10_wrong_ cI cJ cS a_o a_kind a_other a_space a_times z_refused z_steps z_speed z_base z_share z_notes z_pitch z_beats z_held z_sort z_size z_shown z_cells z_carried z_words z_tell z_was z_kept z_cutSpace z_cutTimes z_cutOff z_trace v_stretches v_cars v_tunes v_along v_near v_borne v_tempo v_seed v_fault v_from v_at v_end v_told v_wrongAt u v_ran v_isKept f_kind f_other f_space f_times) t.heap) (va_A (wX10_wrong_ cI cJ cS a_o a_kind a_other a_space a_times z_refused z_steps z_speed z_base z_share z_notes z_pitch z_beats z_held z_sort z_size z_shown z_cells z_carried z_words z_tell z_was z_kept z_cutSpace z_cutTimes z_cutOff z_trace v_stretches v_cars v_tunes v_along v_near v_borne v_tempo v_seed v_fault v_from v_at v_end v_told v_wrongAt v_culprit v_ran v_isKept f_kind f_other f_space f_times) sz)) 0 0 (va_A (wX10_wrong_ cI cJ cS a_o a_kind a_other a_space a_times z_refused z_steps z_speed z_base z_share z_notes z_pitch z_beats z_held z_sort z_size z_shown z_cells z_carried z_words z_tell z_was z_kept z_cutSpace z_cutTimes z_cutOff z_trace v_stretches v_cars v_tunes v_along v_near v_borne v_tempo v_seed v_fault v_from v_at v_end v_told v_wrongAt v_culprit v_ran v_isKept f_kind f_other f_space f_times) sz) := by
  refine Met.rw (Qc := fun A => (va_Qi (fun r (u : Int32) => post r u) (fun u t => va_P D vwCl (wX10_wrong_ cI cJ cS a_o a_kind a_other a_space a_times z_refused z_steps z_speed z_base z_share z_notes z_pitch z_beats z_held z_sort z_size z_shown z_cells z_carried z_words z_tell z_was z_kept z_cutSpace z_cutTimes z_cutOff z_trace v_stretches v_cars v_tunes v_along v_near v_borne v_tempo v_seed v_fault v_from v_at v_end v_told v_wrongAt u v_ran v_isKept f_kind f_other f_space f_times) t.heap) A)) (by decide) (Nat.le_of_ble_eq_true rfl) (fun p e s m args below meth c ls A (S : CallFix p m c cX10_wrong_ 1 s args GW "RoadThatSingsModel") hE hT hP hD hA hS hr hlocks hname hl => ?_)
  have hS0 := hS
  have hx := S.1
  have hb := S.2.1
  have hl : lv_has ls 1 [(0, .ref a_o)] := hl
  unfold F_X10_wrong_ at h
  refine lv_aload_n hx hb dX10_wrong__0 rfl (lv_at hl 0 rfl) ?_
  refine rw_i (rwV S hE hT hS hP hD hA (c_X10_wrongOf h) [0, 1, 2, 3, 4] rfl (by decide) lkX10_257 rfl ⟨(Nat.le_of_ble_eq_true rfl), (Nat.le_of_ble_eq_true rfl)⟩ 0 rfl rfl hl.1 rfl (Nat.le_of_ble_eq_true rfl) dX10_wrong__1 ⟨(Nat.zero_le _), (Nat.zero_le _)⟩) hP hD hS hA [0, 1, 2, 3, 4] rfl (by decide) (fun _ => rfl) (fun r1 w1_0 H locs h hP hD hS => ?_)
  try dsimp only at h
  have hP : va_P D vwCl (wX10_wrong_ cI cJ cS a_o a_kind a_other a_space a_times z_refused z_steps z_speed z_base z_share z_notes z_pitch z_beats z_held z_sort z_size z_shown z_cells z_carried z_words z_tell z_was z_kept z_cutSpace z_cutTimes z_cutOff z_trace v_stretches v_cars v_tunes v_along v_near v_borne v_tempo v_seed v_fault v_from v_at v_end v_told v_wrongAt w1_0 v_ran v_isKept f_kind f_other f_space f_times) H := hP
  have hD : va_D A (wX10_wrong_ cI cJ cS a_o a_kind a_other a_space a_times z_refused z_steps z_speed z_base z_share z_notes z_pitch z_beats z_held z_sort z_size z_shown z_cells z_carried z_words z_tell z_was z_kept z_cutSpace z_cutTimes z_cutOff z_trace v_stretches v_cars v_tunes v_along v_near v_borne v_tempo v_seed v_fault v_from v_at v_end v_told v_wrongAt w1_0 v_ran v_isKept f_kind f_other f_space f_times) := hD
  exact W.iret hx hb hr (fun t ht _ => ⟨⟨_, w1_0, rfl, h, hPt hP ht⟩, hS.F ht⟩) hS.2.2 dX10_wrong__4
/-! X10_judge -/
abbrev wX10_judge (cI cJ cS : ClassId) (a_o a_kind a_other a_space a_times : Nat) (z_refused z_steps z_speed z_base z_share z_notes z_pitch z_beats z_held z_sort z_size z_shown z_cells z_carried z_words z_tell z_was z_kept z_cutSpace z_cutTimes z_cutOff z_trace : Value) (v_stretches : Int32) (v_cars : Int32) (v_tunes : Int32) (v_along : Int32) (v_near : Int32) (v_borne : Int32) (v_tempo : Int32) (v_seed : Int32) (v_fault : Int32) (v_from : Int32) (v_at : Int32) (v_end : Int32) (v_told : Int32) (v_wrongAt : Int32) (v_culprit : Int32) (v_ran : Int32) (v_isKept : Int32) (f_kind : Nat → Int32) (f_other : Nat → Int32) (f_space : Nat → Int32) (f_times : Nat → Int32) : va_W := [(a_o, .inr (9, [.int v_stretches, .int v_cars, .int v_tunes, .int v_along, .int v_near, .int v_borne, .int v_tempo, .int v_seed, .int v_fault, z_refused, z_steps, .ref a_kind, .ref a_space, .ref a_other, .ref a_times, z_speed, z_base, z_share, z_notes, z_pitch, z_beats, z_held, z_sort, z_size, z_shown, z_cells, z_carried, z_words, z_tell, .int v_from, .int v_at, .int v_end, .int v_told, .int v_wrongAt, z_was, z_kept, .int v_culprit, z_cutSpace, z_cutTimes, z_cutOff, z_trace, .int v_ran, .int v_isKept])), (a_kind, .inl (cI, 16, .inl f_kind)), (a_other, .inl (cI, 16, .inl f_other)), (a_space, .inl (cI, 16, .inl f_space)), (a_times, .inl (cI, 16, .inl f_times))]
def F_X10_judge (v_stretches : Int32) (v_along : Int32) (v_near : Int32) (v_culprit : Int32) (f_kind : Nat → Int32) (f_other : Nat → Int32) (f_space : Nat → Int32) (f_times : Nat → Int32) (post : Int32 → Int32 → Prop) : Prop := (F_X10_wrongOf v_stretches v_along v_near v_culprit f_kind f_other f_space f_times (fun r1 w1_0 => post w1_0 w1_0))
set_option maxHeartbeats 4000000 in
set_option maxRecDepth 100000 in
theorem c_X10_judge {l : Launch} {D : va_G} {cI cJ cS : ClassId} {ad adK : Nat → Nat} {a_o a_kind a_other a_space a_times : Nat} {z_refused z_steps z_speed z_base z_share z_notes z_pitch z_beats z_held z_sort z_size z_shown z_cells z_carried z_words z_tell z_was z_kept z_cutSpace z_cutTimes z_cutOff z_trace : Value} {v_stretches : Int32} {v_cars : Int32} {v_tunes : Int32} {v_along : Int32} {v_near : Int32} {v_borne : Int32} {v_tempo : Int32} {v_seed : Int32} {v_fault : Int32} {v_from : Int32} {v_at : Int32} {v_end : Int32} {v_told : Int32} {v_wrongAt : Int32} {v_culprit : Int32} {v_ran : Int32} {v_isKept : Int32} {f_kind : Nat → Int32} {f_other : Nat → Int32} {f_space : Nat → Int32} {f_times : Nat → Int32} {post : Int32 → Int32 → Prop} (h : F_X10_judge v_stretches v_along v_near v_culprit f_kind f_other f_space f_times post) {sz : Nat} : Met l yX10_judge (Cond.code yX10_judge cX10_judge 1 (some (.int)) :: GW) (rmd 3 0 0) (PW D cI cJ cS ad adK [.ref a_o] (wX10_judge cI cJ cS a_o a_kind a_other a_space a_times z_refused z_steps z_speed z_base z_share z_notes z_pitch z_beats z_held z_sort z_size z_shown z_cells z_carried z_words z_tell z_was z_kept z_cutSpace z_cutTimes z_cutOff z_trace v_stretches v_cars v_tunes v_along v_near v_borne v_tempo v_seed v_fault v_from v_at v_end v_told v_wrongAt v_culprit v_ran v_isKept f_kind f_other f_space f_times) sz) (va_Qi (fun r (u : Int32) => post r u) (fun u t => va_P D vwCl (wX10_judge cI cJ cS a_o a_kind a_other a_space a_times z_refused z_steps z_speed z_base z_share z_notes z_pitch z_beats z_held z_sort z_size z_shown z_cells z_carried z_words z_tell z_was z_kept z_cutSpace z_cutTimes z_cutOff z_trace v_stretches v_cars v_tunes v_along v_near v_borne v_tempo v_seed v_fault v_from v_at v_end v_told v_wrongAt u v_ran v_isKept f_kind f_other f_space f_times) t.heap) (va_A (wX10_judge cI cJ cS a_o a_kind a_other a_space a_times z_refused z_steps z_speed z_base z_share z_notes z_pitch z_beats z_held z_sort z_size z_shown z_cells z_carried z_words z_tell z_was z_kept z_cutSpace z_cutTimes z_cutOff z_trace v_stretches v_cars v_tunes v_along v_near v_borne v_tempo v_seed v_fault v_from v_at v_end v_told v_wrongAt v_culprit v_ran v_isKept f_kind f_other f_space f_times) sz)) 0 0 (va_A (wX10_judge cI cJ cS a_o a_kind a_other a_space a_times z_refused z_steps z_speed z_base z_share z_notes z_pitch z_beats z_held z_sort z_size z_shown z_cells z_carried z_words z_tell z_was z_kept z_cutSpace z_cutTimes z_cutOff z_trace v_stretches v_cars v_tunes v_along v_near v_borne v_tempo v_seed v_fault v_from v_at v_end v_told v_wrongAt v_culprit v_ran v_isKept f_kind f_other f_space f_times) sz) := by
  refine Met.rw (Qc := fun A => (va_Qi (fun r (u : Int32) => post r u) (fun u t => va_P D vwCl (wX10_judge cI cJ cS a_o a_kind a_other a_space a_times z_refused z_steps z_speed z_base z_share z_notes z_pitch z_beats z_held z_sort z_size z_shown z_cells z_carried z_words z_tell z_was z_kept z_cutSpace z_cutTimes z_cutOff z_trace v_stretches v_cars v_tunes v_along v_near v_borne v_tempo v_seed v_fault v_from v_at v_end v_told v_wrongAt u v_ran v_isKept f_kind f_other f_space f_times) t.heap) A)) (by decide) (Nat.le_of_ble_eq_true rfl) (fun p e s m args below meth c ls A (S : CallFix p m c cX10_judge 1 s args GW "RoadThatSingsModel") hE hT hP hD hA hS hr hlocks hname hl => ?_)
  have hS0 := hS
  have hx := S.1
  have hb := S.2.1
  have hl : lv_has ls 1 [(0, .ref a_o)] := hl
  unfold F_X10_judge at h
  refine lv_aload_n hx hb dX10_judge_0 rfl (lv_at hl 0 rfl) ?_
  refine rw_i (rwV S hE hT hS hP hD hA (c_X10_wrongOf h) [0, 1, 2, 3, 4] rfl (by decide) lkX10_257 rfl ⟨(Nat.le_of_ble_eq_true rfl), (Nat.le_of_ble_eq_true rfl)⟩ 0 rfl rfl hl.1 rfl (Nat.le_of_ble_eq_true rfl) dX10_judge_1 ⟨(Nat.zero_le _), (Nat.zero_le _)⟩) hP hD hS hA [0, 1, 2, 3, 4] rfl (by decide) (fun _ => rfl) (fun r1 w1_0 H locs h hP hD hS => ?_)
  try dsimp only at h
  have hP : va_P D vwCl (wX10_judge cI cJ cS a_o a_kind a_other a_space a_times z_refused z_steps z_speed z_base z_share z_notes z_pitch z_beats z_held z_sort z_size z_shown z_cells z_carried z_words z_tell z_was z_kept z_cutSpace z_cutTimes z_cutOff z_trace v_stretches v_cars v_tunes v_along v_near v_borne v_tempo v_seed v_fault v_from v_at v_end v_told v_wrongAt w1_0 v_ran v_isKept f_kind f_other f_space f_times) H := hP
  have hD : va_D A (wX10_judge cI cJ cS a_o a_kind a_other a_space a_times z_refused z_steps z_speed z_base z_share z_notes z_pitch z_beats z_held z_sort z_size z_shown z_cells z_carried z_words z_tell z_was z_kept z_cutSpace z_cutTimes z_cutOff z_trace v_stretches v_cars v_tunes v_along v_near v_borne v_tempo v_seed v_fault v_from v_at v_end v_told v_wrongAt w1_0 v_ran v_isKept f_kind f_other f_space f_times) := hD
  refine lv_pop hx hb dX10_judge_4 rfl ?_
  refine lv_aload_n hx hb dX10_judge_5 rfl (lv_at hl 0 rfl) ?_
  refine gf S hE hP 0 rfl rfl inX10 (k := 36) (by decide) q1129 rfl dX10_judge_6 ?_
  exact W.iret hx hb hr (fun t ht _ => ⟨⟨_, w1_0, rfl, h, hPt hP ht⟩, hS.F ht⟩) hS.2.2 dX10_judge_9
/-! X10_meet -/
abbrev wX10_meet (cI cJ cS : ClassId) (a_o a_kind a_other a_refused a_space : Nat) (z_steps z_times z_speed z_base z_share z_notes z_pitch z_beats z_held z_sort z_size z_shown z_cells z_carried z_words z_tell z_was z_kept z_cutSpace z_cutTimes z_cutOff z_trace : Value) (v_stretches : Int32) (v_cars : Int32) (v_tunes : Int32) (v_along : Int32) (v_near : Int32) (v_borne : Int32) (v_tempo : Int32) (v_seed : Int32) (v_fault : Int32) (v_from : Int32) (v_at : Int32) (v_end : Int32) (v_told : Int32) (v_wrongAt : Int32) (v_culprit : Int32) (v_ran : Int32) (v_isKept : Int32) (f_kind : Nat → Int32) (f_other : Nat → Int32) (f_refused : Nat → Int32) (f_space : Nat → Int32) : va_W := [(a_o, .inr (9, [.int v_stretches, .int v_cars, .int v_tunes, .int v_along, .int v_near, .int v_borne, .int v_tempo, .int v_seed, .int v_fault, .ref a_refused, z_steps, .ref a_kind, .ref a_space, .ref a_other, z_times, z_speed, z_base, z_share, z_notes, z_pitch, z_beats, z_held, z_sort, z_size, z_shown, z_cells, z_carried, z_words, z_tell, .int v_from, .int v_at, .int v_end, .int v_told, .int v_wrongAt, z_was, z_kept, .int v_culprit, z_cutSpace, z_cutTimes, z_cutOff, z_trace, .int v_ran, .int v_isKept])), (a_kind, .inl (cI, 16, .inl f_kind)), (a_other, .inl (cI, 16, .inl f_other)), (a_refused, .inl (cI, 8, .inl f_refused)), (a_space, .inl (cI, 16, .inl f_space))]
def F_X10_meet_90 (k22 : Int32 → Int32 → Prop) (x1 : Int32) (x2 : Int32) (x3 : Int32) (f_refused : Nat → Int32) : Prop := (∀ x3_90 : Int32, x3_90 = x3 + 1 → k22 x2 x3_90)
def F_X10_meet_65 (f_kind : Nat → Int32) (k22 : Int32 → Int32 → Prop) (x1 : Int32) (x2 : Int32) (x3 : Int32) (f_refused : Nat → Int32) (s0 : Int32) : Prop := (vp_in x3 16 ∧ (((f_kind x3.toNatClampNeg) = 3 → F_X10_meet_90 k22 x1 x2 x3 f_refused) ∧ (¬ (f_kind x3.toNatClampNeg) = 3 → (¬ s0 = 0 ∧ (((x1 - x1 / s0 * s0) = 0 → (∀ x2_89 : Int32, x2_89 = x2 ||| (1 <<< (x3 &&& 31)) → F_X10_meet_90 k22 x1 x2_89 x3 f_refused)) ∧ (¬ (x1 - x1 / s0 * s0) = 0 → F_X10_meet_90 k22 x1 x2 x3 f_refused))))))
def L_X10_meet_22 (v_stretches : Int32) (f_kind : Nat → Int32) (f_other : Nat → Int32) (f_space : Nat → Int32) (x1 : Int32) (f_refused : Nat → Int32) (post : Int32 → (Nat → Int32) → Prop) : Nat → Int32 → Int32 → Prop
  | 0, _, _ => False
  | n22 + 1, x2, x3 => ((v_stretches ≤ x3 → post x2 f_refused) ∧ (¬ v_stretches ≤ x3 → (vp_in x3 16 ∧ (F_X10_isTwo (f_kind x3.toNatClampNeg) (fun r37 => ((r37 = 0 → (vp_in x3 16 ∧ F_X10_meet_65 f_kind (fun x2 x3 => L_X10_meet_22 v_stretches f_kind f_other f_space x1 f_refused post n22 x2 x3) x1 x2 x3 f_refused (f_space x3.toNatClampNeg))) ∧ (¬ r37 = 0 → (vp_in x3 16 ∧ (vp_in x3 16 ∧ F_X10_meet_65 f_kind (fun x2 x3 => L_X10_meet_22 v_stretches f_kind f_other f_space x1 f_refused post n22 x2 x3) x1 x2 x3 f_refused ((f_space x3.toNatClampNeg) + (f_other x3.toNatClampNeg)))))))))))
def F_X10_meet (v_stretches : Int32) (f_kind : Nat → Int32) (f_other : Nat → Int32) (f_refused : Nat → Int32) (f_space : Nat → Int32) (x1 : Int32) (post : Int32 → (Nat → Int32) → Prop) : Prop := ((x1 < 0 → (F_X10_no f_refused (-6) (fun r14 w14_0 => post r14 w14_0))) ∧ (¬ x1 < 0 → ((x1 ≤ 999 → (∃ n22 : Nat, L_X10_meet_22 v_stretches f_kind f_other f_space x1 f_refused post n22 0 0)) ∧ (¬ x1 ≤ 999 → (F_X10_no f_refused (-6) (fun r14 w14_0 => post r14 w14_0))))))
set_option maxHeartbeats 4000000 in
set_option maxRecDepth 100000 in
theorem w_X10_meet_90 {l : Launch} {D : va_G} {cI cJ cS : ClassId} {ad adK : Nat → Nat} {a_o a_kind a_other a_refused a_space : Nat} {z_steps z_times z_speed z_base z_share z_notes z_pitch z_beats z_held z_sort z_size z_shown z_cells z_carried z_words z_tell z_was z_kept z_cutSpace z_cutTimes z_cutOff z_trace : Value} {v_stretches : Int32} {v_cars : Int32} {v_tunes : Int32} {v_along : Int32} {v_near : Int32} {v_borne : Int32} {v_tempo : Int32} {v_seed : Int32} {v_fault : Int32} {v_from : Int32} {v_at : Int32} {v_end : Int32} {v_told : Int32} {v_wrongAt : Int32} {v_culprit : Int32} {v_ran : Int32} {v_isKept : Int32} {f_kind : Nat → Int32} {f_other : Nat → Int32} {f_refused : Nat → Int32} {f_space : Nat → Int32} {x1 : Int32} {x2 : Int32} {x3 : Int32} {post : Int32 → (Nat → Int32) → Prop} {k22 : Int32 → Int32 → Prop} {p : Program} {e : Env} {s : State} {m : MethodId} {args : Array Value} {below : List Frame} {meth : Method} {c : Code} {A : Nat → Prop} (S : CallFix p m c cX10_meet 5 s args GW "RoadThatSingsModel") (hE : EN D cI cJ cS s) (hT : ST ad adK A s s.heap) (hA : ∀ q : Nat, s.heap.size ≤ q → A q) (hr : meth.sig.returnType = (some (.int))) (hlocks : meth.locks = false) (hk22 : ∀ (x2 : Int32) (x3 : Int32) (H : Heap) (locs : List Loc) (ls : Array Slot), k22 x2 x3 → va_P D vwCl (wX10_meet cI cJ cS a_o a_kind a_other a_refused a_space z_steps z_times z_speed z_base z_share z_notes z_pitch z_beats z_held z_sort z_size z_shown z_cells z_carried z_words z_tell z_was z_kept z_cutSpace z_cutTimes z_cutOff z_trace v_stretches v_cars v_tunes v_along v_near v_borne v_tempo v_seed v_fault v_from v_at v_end v_told v_wrongAt v_culprit v_ran v_isKept f_kind f_other f_refused f_space) H → va_D A (wX10_meet cI cJ cS a_o a_kind a_other a_refused a_space z_steps z_times z_speed z_base z_share z_notes z_pitch z_beats z_held z_sort z_size z_shown z_cells z_carried z_words z_tell z_was z_kept z_cutSpace z_cutTimes z_cutOff z_trace v_stretches v_cars v_tunes v_along v_near v_borne v_tempo v_seed v_fault v_from v_at v_end v_told v_wrongAt v_culprit v_ran v_isKept f_kind f_other f_refused f_space) → va_S A s.heap H locs → lv_has ls 5 [(0, .ref a_o), (1, .int x1), (2, .int x2), (3, .int x3)] → W p l e (rmd 1 0 0) s m args below meth c H locs 0 0 (MQ below (va_Qi (fun r (u : (Nat → Int32)) => post r u) (fun u t => va_P D vwCl (wX10_meet cI cJ cS a_o a_kind a_other a_refused a_space z_steps z_times z_speed z_base z_share z_notes z_pitch z_beats z_held z_sort z_size z_shown z_cells z_carried z_words z_tell z_was z_kept z_cutSpace z_cutTimes z_cutOff z_trace v_stretches v_cars v_tunes v_along v_near v_borne v_tempo v_seed v_fault v_from v_at v_end v_told v_wrongAt v_culprit v_ran v_isKept f_kind f_other u f_space) t.heap) A) args s 0 0 A) (F0 m 22 ls [])) : ∀ (H : Heap) (locs : List Loc) (ls : Array Slot), F_X10_meet_90 k22 x1 x2 x3 f_refused → va_P D vwCl (wX10_meet cI cJ cS a_o a_kind a_other a_refused a_space z_steps z_times z_speed z_base z_share z_notes z_pitch z_beats z_held z_sort z_size z_shown z_cells z_carried z_words z_tell z_was z_kept z_cutSpace z_cutTimes z_cutOff z_trace v_stretches v_cars v_tunes v_along v_near v_borne v_tempo v_seed v_fault v_from v_at v_end v_told v_wrongAt v_culprit v_ran v_isKept f_kind f_other f_refused f_space) H → va_D A (wX10_meet cI cJ cS a_o a_kind a_other a_refused a_space z_steps z_times z_speed z_base z_share z_notes z_pitch z_beats z_held z_sort z_size z_shown z_cells z_carried z_words z_tell z_was z_kept z_cutSpace z_cutTimes z_cutOff z_trace v_stretches v_cars v_tunes v_along v_near v_borne v_tempo v_seed v_fault v_from v_at v_end v_told v_wrongAt v_culprit v_ran v_isKept f_kind f_other f_refused f_space) → va_S A s.heap H locs → lv_has ls 5 [(0, .ref a_o), (1, .int x1), (2, .int x2), (3, .int x3)] → W p l e (rmd 1 0 0) s m args below meth c H locs 0 0 (MQ below (va_Qi (fun r (u : (Nat → Int32)) => post r u) (fun u t => va_P D vwCl (wX10_meet cI cJ cS a_o a_kind a_other a_refused a_space z_steps z_times z_speed z_base z_share z_notes z_pitch z_beats z_held z_sort z_size z_shown z_cells z_carried z_words z_tell z_was z_kept z_cutSpace z_cutTimes z_cutOff z_trace v_stretches v_cars v_tunes v_along v_near v_borne v_tempo v_seed v_fault v_from v_at v_end v_told v_wrongAt v_culprit v_ran v_isKept f_kind f_other u f_space) t.heap) A) args s 0 0 A) (F0 m 90 ls []) := by
  intro  H locs ls h hP hD hS hl
  unfold F_X10_meet_90 at h
  have hx := S.1
  have hb := S.2.1
  obtain ⟨x3_90, ex3_90⟩ : ∃ z : Int32, z = x3 + 1 := ⟨_, rfl⟩
  have h := h _ ex3_90
  refine lv_iinc (v := x3_90) (lv' := [(3, .int x3_90), (0, .ref a_o), (1, .int x1), (2, .int x2)]) hx hb dX10_meet_90 hl (k := 3) rfl (by rw [ex3_90]; rfl) (by decide) rfl (fun ls hl => ?_)
  refine lv_goto (tgt := 22) hx hb dX10_meet_93 (by decide) ?_
  exact hk22 _ _ _ _ _ h hP hD hS (lv_sub hl [1, 2, 3, 0] rfl)
set_option maxHeartbeats 4000000 in
set_option maxRecDepth 100000 in
theorem w_X10_meet_65 {l : Launch} {D : va_G} {cI cJ cS : ClassId} {ad adK : Nat → Nat} {a_o a_kind a_other a_refused a_space : Nat} {z_steps z_times z_speed z_base z_share z_notes z_pitch z_beats z_held z_sort z_size z_shown z_cells z_carried z_words z_tell z_was z_kept z_cutSpace z_cutTimes z_cutOff z_trace : Value} {v_stretches : Int32} {v_cars : Int32} {v_tunes : Int32} {v_along : Int32} {v_near : Int32} {v_borne : Int32} {v_tempo : Int32} {v_seed : Int32} {v_fault : Int32} {v_from : Int32} {v_at : Int32} {v_end : Int32} {v_told : Int32} {v_wrongAt : Int32} {v_culprit : Int32} {v_ran : Int32} {v_isKept : Int32} {f_kind : Nat → Int32} {f_other : Nat → Int32} {f_refused : Nat → Int32} {f_space : Nat → Int32} {x1 : Int32} {x2 : Int32} {x3 : Int32} {s0 : Int32} {post : Int32 → (Nat → Int32) → Prop} {k22 : Int32 → Int32 → Prop} {p : Program} {e : Env} {s : State} {m : MethodId} {args : Array Value} {below : List Frame} {meth : Method} {c : Code} {A : Nat → Prop} (S : CallFix p m c cX10_meet 5 s args GW "RoadThatSingsModel") (hE : EN D cI cJ cS s) (hT : ST ad adK A s s.heap) (hA : ∀ q : Nat, s.heap.size ≤ q → A q) (hr : meth.sig.returnType = (some (.int))) (hlocks : meth.locks = false) (hk22 : ∀ (x2 : Int32) (x3 : Int32) (H : Heap) (locs : List Loc) (ls : Array Slot), k22 x2 x3 → va_P D vwCl (wX10_meet cI cJ cS a_o a_kind a_other a_refused a_space z_steps z_times z_speed z_base z_share z_notes z_pitch z_beats z_held z_sort z_size z_shown z_cells z_carried z_words z_tell z_was z_kept z_cutSpace z_cutTimes z_cutOff z_trace v_stretches v_cars v_tunes v_along v_near v_borne v_tempo v_seed v_fault v_from v_at v_end v_told v_wrongAt v_culprit v_ran v_isKept f_kind f_other f_refused f_space) H → va_D A (wX10_meet cI cJ cS a_o a_kind a_other a_refused a_space z_steps z_times z_speed z_base z_share z_notes z_pitch z_beats z_held z_sort z_size z_shown z_cells z_carried z_words z_tell z_was z_kept z_cutSpace z_cutTimes z_cutOff z_trace v_stretches v_cars v_tunes v_along v_near v_borne v_tempo v_seed v_fault v_from v_at v_end v_told v_wrongAt v_culprit v_ran v_isKept f_kind f_other f_refused f_space) → va_S A s.heap H locs → lv_has ls 5 [(0, .ref a_o), (1, .int x1), (2, .int x2), (3, .int x3)] → W p l e (rmd 1 0 0) s m args below meth c H locs 0 0 (MQ below (va_Qi (fun r (u : (Nat → Int32)) => post r u) (fun u t => va_P D vwCl (wX10_meet cI cJ cS a_o a_kind a_other a_refused a_space z_steps z_times z_speed z_base z_share z_notes z_pitch z_beats z_held z_sort z_size z_shown z_cells z_carried z_words z_tell z_was z_kept z_cutSpace z_cutTimes z_cutOff z_trace v_stretches v_cars v_tunes v_along v_near v_borne v_tempo v_seed v_fault v_from v_at v_end v_told v_wrongAt v_culprit v_ran v_isKept f_kind f_other u f_space) t.heap) A) args s 0 0 A) (F0 m 22 ls [])) : ∀ (H : Heap) (locs : List Loc) (ls : Array Slot), F_X10_meet_65 f_kind k22 x1 x2 x3 f_refused s0 → va_P D vwCl (wX10_meet cI cJ cS a_o a_kind a_other a_refused a_space z_steps z_times z_speed z_base z_share z_notes z_pitch z_beats z_held z_sort z_size z_shown z_cells z_carried z_words z_tell z_was z_kept z_cutSpace z_cutTimes z_cutOff z_trace v_stretches v_cars v_tunes v_along v_near v_borne v_tempo v_seed v_fault v_from v_at v_end v_told v_wrongAt v_culprit v_ran v_isKept f_kind f_other f_refused f_space) H → va_D A (wX10_meet cI cJ cS a_o a_kind a_other a_refused a_space z_steps z_times z_speed z_base z_share z_notes z_pitch z_beats z_held z_sort z_size z_shown z_cells z_carried z_words z_tell z_was z_kept z_cutSpace z_cutTimes z_cutOff z_trace v_stretches v_cars v_tunes v_along v_near v_borne v_tempo v_seed v_fault v_from v_at v_end v_told v_wrongAt v_culprit v_ran v_isKept f_kind f_other f_refused f_space) → va_S A s.heap H locs → lv_has ls 5 [(0, .ref a_o), (1, .int x1), (2, .int x2), (3, .int x3)] → W p l e (rmd 1 0 0) s m args below meth c H locs 0 0 (MQ below (va_Qi (fun r (u : (Nat → Int32)) => post r u) (fun u t => va_P D vwCl (wX10_meet cI cJ cS a_o a_kind a_other a_refused a_space z_steps z_times z_speed z_base z_share z_notes z_pitch z_beats z_held z_sort z_size z_shown z_cells z_carried z_words z_tell z_was z_kept z_cutSpace z_cutTimes z_cutOff z_trace v_stretches v_cars v_tunes v_along v_near v_borne v_tempo v_seed v_fault v_from v_at v_end v_told v_wrongAt v_culprit v_ran v_isKept f_kind f_other u f_space) t.heap) A) args s 0 0 A) (F0 m 65 ls [.int s0]) := by
  intro  H locs ls h hP hD hS hl
  unfold F_X10_meet_65 at h
  have hx := S.1
  have hb := S.2.1
  refine lv_istore (lv' := [(4, .int s0), (0, .ref a_o), (1, .int x1), (2, .int x2), (3, .int x3)]) hx hb dX10_meet_65 hl (by decide) rfl (fun ls hl => ?_)
  refine lv_aload_n hx hb dX10_meet_67 rfl (lv_at hl 1 rfl) ?_
  refine gf S hE hP 0 rfl rfl inX10 (k := 11) (by decide) q1104 rfl dX10_meet_68 ?_
  refine lv_iload_n hx hb dX10_meet_71 rfl (lv_at hl 4 rfl) ?_
  obtain ⟨hi, h⟩ := h
  refine ial S hE hP 1 rfl hi dX10_meet_72 ?_
  refine lv_iconst (v := 3) hx hb dX10_meet_73 (by decide) ?_
  refine lv_icmp_eq (tgt := 90) hx hb dX10_meet_74 (by decide) (fun hc => ?_) (fun hc => ?_)
  · have h := h.1 hc
    refine w_X10_meet_90 S hE hT hA hr hlocks hk22 _ _ _ h hP hD hS (lv_sub hl [1, 2, 3, 4] rfl)
  have h := h.2 hc
  refine lv_iload_n hx hb dX10_meet_77 rfl (lv_at hl 2 rfl) ?_
  refine lv_iload hx hb dX10_meet_78 (lv_at hl 0 rfl) ?_
  obtain ⟨hz, h⟩ := h
  refine lv_irem hx hb dX10_meet_80 hz ?_
  refine lv_if_ne (tgt := 90) hx hb dX10_meet_81 (by decide) (fun hc => ?_) (fun hc => ?_)
  · have h := h.2 hc
    refine w_X10_meet_90 S hE hT hA hr hlocks hk22 _ _ _ h hP hD hS (lv_sub hl [1, 2, 3, 4] rfl)
  have h := h.1 hc
  refine lv_iload_n hx hb dX10_meet_84 rfl (lv_at hl 3 rfl) ?_
  refine lv_iconst (v := 1) hx hb dX10_meet_85 (by decide) ?_
  refine lv_iload_n hx hb dX10_meet_86 rfl (lv_at hl 4 rfl) ?_
  refine lv_ishl hx hb dX10_meet_87 ?_
  refine lv_ior hx hb dX10_meet_88 ?_
  refine lv_topi (fun x2_89 ex2_89 => ?_)
  have h := h _ ex2_89
  refine lv_istore_n (lv' := [(2, .int x2_89), (4, .int s0), (0, .ref a_o), (1, .int x1), (3, .int x3)]) hx hb dX10_meet_89 rfl hl (by decide) rfl (fun ls hl => ?_)
  refine w_X10_meet_90 S hE hT hA hr hlocks hk22 _ _ _ h hP hD hS (lv_sub hl [2, 3, 0, 4] rfl)
set_option maxHeartbeats 4000000 in
set_option maxRecDepth 100000 in
theorem w_X10_meet_22 {l : Launch} {D : va_G} {cI cJ cS : ClassId} {ad adK : Nat → Nat} {a_o a_kind a_other a_refused a_space : Nat} {z_steps z_times z_speed z_base z_share z_notes z_pitch z_beats z_held z_sort z_size z_shown z_cells z_carried z_words z_tell z_was z_kept z_cutSpace z_cutTimes z_cutOff z_trace : Value} {v_stretches : Int32} {v_cars : Int32} {v_tunes : Int32} {v_along : Int32} {v_near : Int32} {v_borne : Int32} {v_tempo : Int32} {v_seed : Int32} {v_fault : Int32} {v_from : Int32} {v_at : Int32} {v_end : Int32} {v_told : Int32} {v_wrongAt : Int32} {v_culprit : Int32} {v_ran : Int32} {v_isKept : Int32} {f_kind : Nat → Int32} {f_other : Nat → Int32} {f_refused : Nat → Int32} {f_space : Nat → Int32} {x1 : Int32} {post : Int32 → (Nat → Int32) → Prop} {p : Program} {e : Env} {s : State} {m : MethodId} {args : Array Value} {below : List Frame} {meth : Method} {c : Code} {A : Nat → Prop} (S : CallFix p m c cX10_meet 5 s args GW "RoadThatSingsModel") (hE : EN D cI cJ cS s) (hT : ST ad adK A s s.heap) (hA : ∀ q : Nat, s.heap.size ≤ q → A q) (hr : meth.sig.returnType = (some (.int))) (hlocks : meth.locks = false) : ∀ n : Nat, ∀ (x2 : Int32) (x3 : Int32) (H : Heap) (locs : List Loc) (ls : Array Slot), L_X10_meet_22 v_stretches f_kind f_other f_space x1 f_refused post n x2 x3 → va_P D vwCl (wX10_meet cI cJ cS a_o a_kind a_other a_refused a_space z_steps z_times z_speed z_base z_share z_notes z_pitch z_beats z_held z_sort z_size z_shown z_cells z_carried z_words z_tell z_was z_kept z_cutSpace z_cutTimes z_cutOff z_trace v_stretches v_cars v_tunes v_along v_near v_borne v_tempo v_seed v_fault v_from v_at v_end v_told v_wrongAt v_culprit v_ran v_isKept f_kind f_other f_refused f_space) H → va_D A (wX10_meet cI cJ cS a_o a_kind a_other a_refused a_space z_steps z_times z_speed z_base z_share z_notes z_pitch z_beats z_held z_sort z_size z_shown z_cells z_carried z_words z_tell z_was z_kept z_cutSpace z_cutTimes z_cutOff z_trace v_stretches v_cars v_tunes v_along v_near v_borne v_tempo v_seed v_fault v_from v_at v_end v_told v_wrongAt v_culprit v_ran v_isKept f_kind f_other f_refused f_space) → va_S A s.heap H locs → lv_has ls 5 [(0, .ref a_o), (1, .int x1), (2, .int x2), (3, .int x3)] → W p l e (rmd 1 0 0) s m args below meth c H locs 0 0 (MQ below (va_Qi (fun r (u : (Nat → Int32)) => post r u) (fun u t => va_P D vwCl (wX10_meet cI cJ cS a_o a_kind a_other a_refused a_space z_steps z_times z_speed z_base z_share z_notes z_pitch z_beats z_held z_sort z_size z_shown z_cells z_carried z_words z_tell z_was z_kept z_cutSpace z_cutTimes z_cutOff z_trace v_stretches v_cars v_tunes v_along v_near v_borne v_tempo v_seed v_fault v_from v_at v_end v_told v_wrongAt v_culprit v_ran v_isKept f_kind f_other u f_space) t.heap) A) args s 0 0 A) (F0 m 22 ls []) := by
  intro n
  induction n with
  | zero =>
    intro x2 x3 H locs ls h hP hD hS hl
    exact h.elim
  | succ n ih =>
    intro x2 x3 H locs ls h hP hD hS hl
    rw [L_X10_meet_22] at h
    have hx := S.1
    have hb := S.2.1
    refine lv_iload_n hx hb dX10_meet_22 rfl (lv_at hl 3 rfl) ?_
    refine lv_aload_n hx hb dX10_meet_23 rfl (lv_at hl 0 rfl) ?_
    refine gf S hE hP 0 rfl rfl inX10 (k := 0) (by decide) q1093 rfl dX10_meet_24 ?_
    refine lv_icmp_ge (tgt := 96) hx hb dX10_meet_27 (by decide) (fun hc => ?_) (fun hc => ?_)
    · have h := h.1 hc
      refine lv_iload_n hx hb dX10_meet_96 rfl (lv_at hl 2 rfl) ?_
      exact W.iret hx hb hr (fun t ht _ => ⟨⟨_, f_refused, rfl, h, hPt hP ht⟩, hS.F ht⟩) hS.2.2 dX10_meet_97
    have h := h.2 hc
    refine lv_aload_n hx hb dX10_meet_30 rfl (lv_at hl 0 rfl) ?_
    refine lv_aload_n hx hb dX10_meet_31 rfl (lv_at hl 0 rfl) ?_
    refine gf S hE hP 0 rfl rfl inX10 (k := 11) (by decide) q1104 rfl dX10_meet_32 ?_
    refine lv_iload_n hx hb dX10_meet_35 rfl (lv_at hl 3 rfl) ?_
    obtain ⟨hi, h⟩ := h
    refine ial S hE hP 1 rfl hi dX10_meet_36 ?_
    refine ro_i (roV S hE hT hS (c_X10_isTwo h) lkX10_152 rfl ⟨(Nat.le_of_ble_eq_true rfl), (Nat.le_of_ble_eq_true rfl)⟩ (hP.sub [0] rfl) 0 rfl rfl hl.1 rfl (Nat.le_of_ble_eq_true rfl) dX10_meet_37 ⟨(Nat.zero_le _), (Nat.zero_le _)⟩) (fun r37 h => ?_)
    refine lv_if_eq (tgt := 59) hx hb dX10_meet_40 (by decide) (fun hc => ?_) (fun hc => ?_)
    · have h := h.1 hc
      refine lv_aload_n hx hb dX10_meet_59 rfl (lv_at hl 0 rfl) ?_
      refine gf S hE hP 0 rfl rfl inX10 (k := 12) (by decide) q1105 rfl dX10_meet_60 ?_
      refine lv_iload_n hx hb dX10_meet_63 rfl (lv_at hl 3 rfl) ?_
      obtain ⟨hi, h⟩ := h
      refine ial S hE hP 4 rfl hi dX10_meet_64 ?_
      refine w_X10_meet_65 S hE hT hA hr hlocks ih _ _ _ h hP hD hS (lv_sub hl [0, 1, 2, 3] rfl)
    have h := h.2 hc
    refine lv_aload_n hx hb dX10_meet_43 rfl (lv_at hl 0 rfl) ?_
    refine gf S hE hP 0 rfl rfl inX10 (k := 12) (by decide) q1105 rfl dX10_meet_44 ?_
    refine lv_iload_n hx hb dX10_meet_47 rfl (lv_at hl 3 rfl) ?_
    obtain ⟨hi, h⟩ := h
    refine ial S hE hP 4 rfl hi dX10_meet_48 ?_
    refine lv_aload_n hx hb dX10_meet_49 rfl (lv_at hl 0 rfl) ?_
    refine gf S hE hP 0 rfl rfl inX10 (k := 13) (by decide) q1106 rfl dX10_meet_50 ?_
    refine lv_iload_n hx hb dX10_meet_53 rfl (lv_at hl 3 rfl) ?_
    obtain ⟨hi, h⟩ := h
    refine ial S hE hP 2 rfl hi dX10_meet_54 ?_
    refine lv_iadd hx hb dX10_meet_55 ?_
    refine lv_goto (tgt := 65) hx hb dX10_meet_56 (by decide) ?_
    refine w_X10_meet_65 S hE hT hA hr hlocks ih _ _ _ h hP hD hS (lv_sub hl [0, 1, 2, 3] rfl)
set_option maxHeartbeats 4000000 in
set_option maxRecDepth 100000 in
theorem c_X10_meet {l : Launch} {D : va_G} {cI cJ cS : ClassId} {ad adK : Nat → Nat} {a_o a_kind a_other a_refused a_space : Nat} {z_steps z_times z_speed z_base z_share z_notes z_pitch z_beats z_held z_sort z_size z_shown z_cells z_carried z_words z_tell z_was z_kept z_cutSpace z_cutTimes z_cutOff z_trace : Value} {v_stretches : Int32} {v_cars : Int32} {v_tunes : Int32} {v_along : Int32} {v_near : Int32} {v_borne : Int32} {v_tempo : Int32} {v_seed : Int32} {v_fault : Int32} {v_from : Int32} {v_at : Int32} {v_end : Int32} {v_told : Int32} {v_wrongAt : Int32} {v_culprit : Int32} {v_ran : Int32} {v_isKept : Int32} {f_kind : Nat → Int32} {f_other : Nat → Int32} {f_refused : Nat → Int32} {f_space : Nat → Int32} {x1 : Int32} {post : Int32 → (Nat → Int32) → Prop} (h : F_X10_meet v_stretches f_kind f_other f_refused f_space x1 post) {sz : Nat} : Met l yX10_meet (Cond.code yX10_meet cX10_meet 5 (some (.int)) :: GW) (rmd 1 0 0) (PW D cI cJ cS ad adK [.ref a_o, .int x1] (wX10_meet cI cJ cS a_o a_kind a_other a_refused a_space z_steps z_times z_speed z_base z_share z_notes z_pitch z_beats z_held z_sort z_size z_shown z_cells z_carried z_words z_tell z_was z_kept z_cutSpace z_cutTimes z_cutOff z_trace v_stretches v_cars v_tunes v_along v_near v_borne v_tempo v_seed v_fault v_from v_at v_end v_told v_wrongAt v_culprit v_ran v_isKept f_kind f_other f_refused f_space) sz) (va_Qi (fun r (u : (Nat → Int32)) => post r u) (fun u t => va_P D vwCl (wX10_meet cI cJ cS a_o a_kind a_other a_refused a_space z_steps z_times z_speed z_base z_share z_notes z_pitch z_beats z_held z_sort z_size z_shown z_cells z_carried z_words z_tell z_was z_kept z_cutSpace z_cutTimes z_cutOff z_trace v_stretches v_cars v_tunes v_along v_near v_borne v_tempo v_seed v_fault v_from v_at v_end v_told v_wrongAt v_culprit v_ran v_isKept f_kind f_other u f_space) t.heap) (va_A (wX10_meet cI cJ cS a_o a_kind a_other a_refused a_space z_steps z_times z_speed z_base z_share z_notes z_pitch z_beats z_held z_sort z_size z_shown z_cells z_carried z_words z_tell z_was z_kept z_cutSpace z_cutTimes z_cutOff z_trace v_stretches v_cars v_tunes v_along v_near v_borne v_tempo v_seed v_fault v_from v_at v_end v_told v_wrongAt v_culprit v_ran v_isKept f_kind f_other f_refused f_space) sz)) 0 0 (va_A (wX10_meet cI cJ cS a_o a_kind a_other a_refused a_space z_steps z_times z_speed z_base z_share z_notes z_pitch z_beats z_held z_sort z_size z_shown z_cells z_carried z_words z_tell z_was z_kept z_cutSpace z_cutTimes z_cutOff z_trace v_stretches v_cars v_tunes v_along v_near v_borne v_tempo v_seed v_fault v_from v_at v_end v_told v_wrongAt v_culprit v_ran v_isKept f_kind f_other f_refused f_space) sz) := by
  refine Met.rw (Qc := fun A => (va_Qi (fun r (u : (Nat → Int32)) => post r u) (fun u t => va_P D vwCl (wX10_meet cI cJ cS a_o a_kind a_other a_refused a_space z_steps z_times z_speed z_base z_share z_notes z_pitch z_beats z_held z_sort z_size z_shown z_cells z_carried z_words z_tell z_was z_kept z_cutSpace z_cutTimes z_cutOff z_trace v_stretches v_cars v_tunes v_along v_near v_borne v_tempo v_seed v_fault v_from v_at v_end v_told v_wrongAt v_culprit v_ran v_isKept f_kind f_other u f_space) t.heap) A)) (by decide) (Nat.le_of_ble_eq_true rfl) (fun p e s m args below meth c ls A (S : CallFix p m c cX10_meet 5 s args GW "RoadThatSingsModel") hE hT hP hD hA hS hr hlocks hname hl => ?_)
  have hS0 := hS
  have hx := S.1
  have hb := S.2.1
  have hl : lv_has ls 5 [(0, .ref a_o), (1, .int x1)] := hl
  unfold F_X10_meet at h
  refine lv_iload_n hx hb dX10_meet_0 rfl (lv_at hl 1 rfl) ?_
  refine lv_if_lt (tgt := 11) hx hb dX10_meet_1 (by decide) (fun hc => ?_) (fun hc => ?_)
  · have h := h.1 hc
    refine lv_aload_n hx hb dX10_meet_11 rfl (lv_at hl 0 rfl) ?_
    refine lv_bipush (v := (-6)) hx hb dX10_meet_12 (by decide) ?_
    refine rw_i (rwV S hE hT hS hP hD hA (c_X10_no h) [0, 3] rfl (by decide) lkX10_121 rfl ⟨(Nat.le_of_ble_eq_true rfl), (Nat.le_of_ble_eq_true rfl)⟩ 0 rfl rfl hl.1 rfl (Nat.le_of_ble_eq_true rfl) dX10_meet_14 ⟨(Nat.zero_le _), (Nat.zero_le _)⟩) hP hD hS hA [0, 3] rfl (by decide) (fun _ => rfl) (fun r14 w14_0 H locs h hP hD hS => ?_)
    try dsimp only at h
    have hP : va_P D vwCl (wX10_meet cI cJ cS a_o a_kind a_other a_refused a_space z_steps z_times z_speed z_base z_share z_notes z_pitch z_beats z_held z_sort z_size z_shown z_cells z_carried z_words z_tell z_was z_kept z_cutSpace z_cutTimes z_cutOff z_trace v_stretches v_cars v_tunes v_along v_near v_borne v_tempo v_seed v_fault v_from v_at v_end v_told v_wrongAt v_culprit v_ran v_isKept f_kind f_other w14_0 f_space) H := hP
    have hD : va_D A (wX10_meet cI cJ cS a_o a_kind a_other a_refused a_space z_steps z_times z_speed z_base z_share z_notes z_pitch z_beats z_held z_sort z_size z_shown z_cells z_carried z_words z_tell z_was z_kept z_cutSpace z_cutTimes z_cutOff z_trace v_stretches v_cars v_tunes v_along v_near v_borne v_tempo v_seed v_fault v_from v_at v_end v_told v_wrongAt v_culprit v_ran v_isKept f_kind f_other w14_0 f_space) := hD
    exact W.iret hx hb hr (fun t ht _ => ⟨⟨_, w14_0, rfl, h, hPt hP ht⟩, hS.F ht⟩) hS.2.2 dX10_meet_17
  have h := h.2 hc
  refine lv_iload_n hx hb dX10_meet_4 rfl (lv_at hl 1 rfl) ?_
  refine lv_sipush (v := 999) hx hb dX10_meet_5 (by decide) ?_
  refine lv_icmp_le (tgt := 18) hx hb dX10_meet_8 (by decide) (fun hc => ?_) (fun hc => ?_)
  · have h := h.1 hc
    refine lv_iconst (v := 0) hx hb dX10_meet_18 (by decide) ?_
    refine lv_istore_n (lv' := [(2, .int 0), (0, .ref a_o), (1, .int x1)]) hx hb dX10_meet_19 rfl hl (by decide) rfl (fun ls hl => ?_)
    refine lv_iconst (v := 0) hx hb dX10_meet_20 (by decide) ?_
    refine lv_istore_n (lv' := [(3, .int 0), (2, .int 0), (0, .ref a_o), (1, .int x1)]) hx hb dX10_meet_21 rfl hl (by decide) rfl (fun ls hl => ?_)
    obtain ⟨n, h⟩ := h
    refine w_X10_meet_22 S hE hT hA hr hlocks n _ _ _ _ _ h hP hD hS (lv_sub hl [2, 3, 1, 0] rfl)
  have h := h.2 hc
  refine lv_aload_n hx hb dX10_meet_11 rfl (lv_at hl 0 rfl) ?_
  refine lv_bipush (v := (-6)) hx hb dX10_meet_12 (by decide) ?_
  refine rw_i (rwV S hE hT hS hP hD hA (c_X10_no h) [0, 3] rfl (by decide) lkX10_121 rfl ⟨(Nat.le_of_ble_eq_true rfl), (Nat.le_of_ble_eq_true rfl)⟩ 0 rfl rfl hl.1 rfl (Nat.le_of_ble_eq_true rfl) dX10_meet_14 ⟨(Nat.zero_le _), (Nat.zero_le _)⟩) hP hD hS hA [0, 3] rfl (by decide) (fun _ => rfl) (fun r14 w14_0 H locs h hP hD hS => ?_)
  try dsimp only at h
  have hP : va_P D vwCl (wX10_meet cI cJ cS a_o a_kind a_other a_refused a_space z_steps z_times z_speed z_base z_share z_notes z_pitch z_beats z_held z_sort z_size z_shown z_cells z_carried z_words z_tell z_was z_kept z_cutSpace z_cutTimes z_cutOff z_trace v_stretches v_cars v_tunes v_along v_near v_borne v_tempo v_seed v_fault v_from v_at v_end v_told v_wrongAt v_culprit v_ran v_isKept f_kind f_other w14_0 f_space) H := hP
  have hD : va_D A (wX10_meet cI cJ cS a_o a_kind a_other a_refused a_space z_steps z_times z_speed z_base z_share z_notes z_pitch z_beats z_held z_sort z_size z_shown z_cells z_carried z_words z_tell z_was z_kept z_cutSpace z_cutTimes z_cutOff z_trace v_stretches v_cars v_tunes v_along v_near v_borne v_tempo v_seed v_fault v_from v_at v_end v_told v_wrongAt v_culprit v_ran v_isKept f_kind f_other w14_0 f_space) := hD
  exact W.iret hx hb hr (fun t ht _ => ⟨⟨_, w14_0, rfl, h, hPt hP ht⟩, hS.F ht⟩) hS.2.2 dX10_meet_17
/-! X10_two -/
abbrev wX10_two (cI cJ cS : ClassId) (a_o a_notes a_pitch a_refused : Nat) (z_steps z_kind z_space z_other z_times z_speed z_base z_share z_beats z_held z_sort z_size z_shown z_cells z_carried z_words z_tell z_was z_kept z_cutSpace z_cutTimes z_cutOff z_trace : Value) (v_stretches : Int32) (v_cars : Int32) (v_tunes : Int32) (v_along : Int32) (v_near : Int32) (v_borne : Int32) (v_tempo : Int32) (v_seed : Int32) (v_fault : Int32) (v_from : Int32) (v_at : Int32) (v_end : Int32) (v_told : Int32) (v_wrongAt : Int32) (v_culprit : Int32) (v_ran : Int32) (v_isKept : Int32) (f_notes : Nat → Int32) (f_pitch : Nat → Int32) (f_refused : Nat → Int32) : va_W := [(a_o, .inr (9, [.int v_stretches, .int v_cars, .int v_tunes, .int v_along, .int v_near, .int v_borne, .int v_tempo, .int v_seed, .int v_fault, .ref a_refused, z_steps, z_kind, z_space, z_other, z_times, z_speed, z_base, z_share, .ref a_notes, .ref a_pitch, z_beats, z_held, z_sort, z_size, z_shown, z_cells, z_carried, z_words, z_tell, .int v_from, .int v_at, .int v_end, .int v_told, .int v_wrongAt, z_was, z_kept, .int v_culprit, z_cutSpace, z_cutTimes, z_cutOff, z_trace, .int v_ran, .int v_isKept])), (a_notes, .inl (cI, 6, .inl f_notes)), (a_pitch, .inl (cI, 72, .inl f_pitch)), (a_refused, .inl (cI, 8, .inl f_refused))]
def F_X10_two_197 (k129 : Int32 → Int32 → Prop) (x1 : Int32) (x2 : Int32) (x3 : Int32) (x4 : Int32) (x5 : Int32) (x6 : Int32) (x7 : Int32) (x8 : Int32) (x10 : Int32) (f_refused : Nat → Int32) (s0 : Int32) : Prop := (∀ x10_199 : Int32, x10_199 = x10 + 1 → k129 s0 x10_199)
def F_X10_two_196 (k129 : Int32 → Int32 → Prop) (x1 : Int32) (x2 : Int32) (x3 : Int32) (x4 : Int32) (x5 : Int32) (x6 : Int32) (x7 : Int32) (x8 : Int32) (x10 : Int32) (f_refused : Nat → Int32) : Prop := F_X10_two_197 k129 x1 x2 x3 x4 x5 x6 x7 x8 x10 f_refused 0
def L_X10_two_129 (v_borne : Int32) (x1 : Int32) (x2 : Int32) (x3 : Int32) (x4 : Int32) (x5 : Int32) (x6 : Int32) (x7 : Int32) (x8 : Int32) (f_refused : Nat → Int32) (k205 : Int32 → Prop) : Nat → Int32 → Int32 → Prop
  | 0, _, _ => False
  | n129 + 1, x9, x10 => ((60 < x10 → k205 x9) ∧ (¬ 60 < x10 → ((x9 = 0 → ((x7 ≤ 0 → k205 x9) ∧ (¬ x7 ≤ 0 → ((x8 ≤ 0 → k205 x9) ∧ (¬ x8 ≤ 0 → (F_X10_humBy x10 x2 (fun r156 => (F_X10_offOf r156 x7 (fun r161 => ((v_borne < r161 → F_X10_two_196 (fun x9 x10 => L_X10_two_129 v_borne x1 x2 x3 x4 x5 x6 x7 x8 f_refused k205 n129 x9 x10) x1 x2 x3 x4 x5 x6 x7 x8 x10 f_refused) ∧ (¬ v_borne < r161 → (F_X10_humBy x10 x4 (fun r177 => (F_X10_offOf r177 x8 (fun r182 => ((v_borne < r182 → F_X10_two_196 (fun x9 x10 => L_X10_two_129 v_borne x1 x2 x3 x4 x5 x6 x7 x8 f_refused k205 n129 x9 x10) x1 x2 x3 x4 x5 x6 x7 x8 x10 f_refused) ∧ (¬ v_borne < r182 → F_X10_two_197 (fun x9 x10 => L_X10_two_129 v_borne x1 x2 x3 x4 x5 x6 x7 x8 f_refused k205 n129 x9 x10) x1 x2 x3 x4 x5 x6 x7 x8 x10 f_refused 1))))))))))))))))) ∧ (¬ x9 = 0 → k205 x9))))
def F_X10_two_213 (k67 : Int32 → Int32 → Prop) (x1 : Int32) (x2 : Int32) (x3 : Int32) (x4 : Int32) (x5 : Int32) (x6 : Int32) (f_refused : Nat → Int32) : Prop := (∀ x6_213 : Int32, x6_213 = x6 + 1 → k67 x5 x6_213)
def F_X10_two_205 (k67 : Int32 → Int32 → Prop) (x1 : Int32) (x2 : Int32) (x3 : Int32) (x4 : Int32) (x5 : Int32) (x6 : Int32) (x9 : Int32) (f_refused : Nat → Int32) : Prop := ((x9 = 0 → F_X10_two_213 k67 x1 x2 x3 x4 x5 x6 f_refused) ∧ (¬ x9 = 0 → (∀ x5_210 : Int32, x5_210 = x5 + 1 → F_X10_two_213 k67 x1 x2 x3 x4 x5_210 x6 f_refused)))
def F_X10_two_121 (v_near : Int32) (v_borne : Int32) (k67 : Int32 → Int32 → Prop) (x1 : Int32) (x2 : Int32) (x3 : Int32) (x4 : Int32) (x5 : Int32) (x6 : Int32) (x7 : Int32) (x8 : Int32) (f_refused : Nat → Int32) (s0 : Int32) : Prop := (∃ n129 : Nat, L_X10_two_129 v_borne x1 x2 x3 x4 x5 x6 x7 x8 f_refused (fun x9_1 => F_X10_two_205 k67 x1 x2 x3 x4 x5 x6 x9_1 f_refused) n129 s0 v_near)
def F_X10_two_120 (v_near : Int32) (v_borne : Int32) (k67 : Int32 → Int32 → Prop) (x1 : Int32) (x2 : Int32) (x3 : Int32) (x4 : Int32) (x5 : Int32) (x6 : Int32) (x7 : Int32) (x8 : Int32) (f_refused : Nat → Int32) : Prop := F_X10_two_121 v_near v_borne k67 x1 x2 x3 x4 x5 x6 x7 x8 f_refused 0
def L_X10_two_67 (v_near : Int32) (v_borne : Int32) (f_notes : Nat → Int32) (f_pitch : Nat → Int32) (x1 : Int32) (x2 : Int32) (x3 : Int32) (x4 : Int32) (f_refused : Nat → Int32) (post : Int32 → (Nat → Int32) → Prop) : Nat → Int32 → Int32 → Prop
  | 0, _, _ => False
  | n67 + 1, x5, x6 => (vp_in x1 6 ∧ (((f_notes x1.toNatClampNeg) ≤ x6 → post x5 f_refused) ∧ (¬ (f_notes x1.toNatClampNeg) ≤ x6 → (vp_in ((12 * x1) + x6) 72 ∧ (∀ x7_90 : Int32, x7_90 = f_pitch ((12 * x1) + x6).toNatClampNeg → (vp_in ((12 * x3) + x6) 72 ∧ (∀ x8_104 : Int32, x8_104 = f_pitch ((12 * x3) + x6).toNatClampNeg → ((x7_90 = 0 → ((x8_104 = 0 → F_X10_two_121 v_near v_borne (fun x5 x6 => L_X10_two_67 v_near v_borne f_notes f_pitch x1 x2 x3 x4 f_refused post n67 x5 x6) x1 x2 x3 x4 x5 x6 x7_90 x8_104 f_refused 1) ∧ (¬ x8_104 = 0 → F_X10_two_120 v_near v_borne (fun x5 x6 => L_X10_two_67 v_near v_borne f_notes f_pitch x1 x2 x3 x4 f_refused post n67 x5 x6) x1 x2 x3 x4 x5 x6 x7_90 x8_104 f_refused))) ∧ (¬ x7_90 = 0 → F_X10_two_120 v_near v_borne (fun x5 x6 => L_X10_two_67 v_near v_borne f_notes f_pitch x1 x2 x3 x4 f_refused post n67 x5 x6) x1 x2 x3 x4 x5 x6 x7_90 x8_104 f_refused)))))))))
def F_X10_two (v_tunes : Int32) (v_near : Int32) (v_borne : Int32) (f_notes : Nat → Int32) (f_pitch : Nat → Int32) (f_refused : Nat → Int32) (x1 : Int32) (x2 : Int32) (x3 : Int32) (x4 : Int32) (post : Int32 → (Nat → Int32) → Prop) : Prop := (F_X10_isTune v_tunes x1 (fun r2 => ((r2 = 0 → (F_X10_no f_refused (-1) (fun r18 w18_0 => post r18 w18_0))) ∧ (¬ r2 = 0 → (F_X10_isTune v_tunes x3 (fun r10 => ((r10 = 0 → (F_X10_no f_refused (-1) (fun r18 w18_0 => post r18 w18_0))) ∧ (¬ r10 = 0 → (F_X10_isSpeed x2 (fun r24 => ((r24 = 0 → (F_X10_no f_refused (-6) (fun r57 w57_0 => post r57 w57_0))) ∧ (¬ r24 = 0 → (F_X10_isSpeed x4 (fun r33 => ((r33 = 0 → (F_X10_no f_refused (-6) (fun r57 w57_0 => post r57 w57_0))) ∧ (¬ r33 = 0 → (vp_in x1 6 ∧ (vp_in x3 6 ∧ (((f_notes x1.toNatClampNeg) = (f_notes x3.toNatClampNeg) → (∃ n67 : Nat, L_X10_two_67 v_near v_borne f_notes f_pitch x1 x2 x3 x4 f_refused post n67 0 0)) ∧ (¬ (f_notes x1.toNatClampNeg) = (f_notes x3.toNatClampNeg) → (F_X10_no f_refused (-6) (fun r57 w57_0 => post r57 w57_0))))))))))))))))))))))
set_option maxHeartbeats 4000000 in
set_option maxRecDepth 100000 in
theorem w_X10_two_197 {l : Launch} {D : va_G} {cI cJ cS : ClassId} {ad adK : Nat → Nat} {a_o a_notes a_pitch a_refused : Nat} {z_steps z_kind z_space z_other z_times z_speed z_base z_share z_beats z_held z_sort z_size z_shown z_cells z_carried z_words z_tell z_was z_kept z_cutSpace z_cutTimes z_cutOff z_trace : Value} {v_stretches : Int32} {v_cars : Int32} {v_tunes : Int32} {v_along : Int32} {v_near : Int32} {v_borne : Int32} {v_tempo : Int32} {v_seed : Int32} {v_fault : Int32} {v_from : Int32} {v_at : Int32} {v_end : Int32} {v_told : Int32} {v_wrongAt : Int32} {v_culprit : Int32} {v_ran : Int32} {v_isKept : Int32} {f_notes : Nat → Int32} {f_pitch : Nat → Int32} {f_refused : Nat → Int32} {x1 : Int32} {x2 : Int32} {x3 : Int32} {x4 : Int32} {x5 : Int32} {x6 : Int32} {x7 : Int32} {x8 : Int32} {x10 : Int32} {s0 : Int32} {post : Int32 → (Nat → Int32) → Prop} {k129 : Int32 → Int32 → Prop} {p : Program} {e : Env} {s : State} {m : MethodId} {args : Array Value} {below : List Frame} {meth : Method} {c : Code} {A : Nat → Prop} (S : CallFix p m c cX10_two 11 s args GW "RoadThatSingsModel") (hE : EN D cI cJ cS s) (hT : ST ad adK A s s.heap) (hA : ∀ q : Nat, s.heap.size ≤ q → A q) (hr : meth.sig.returnType = (some (.int))) (hlocks : meth.locks = false) (hk129 : ∀ (x9 : Int32) (x10 : Int32) (H : Heap) (locs : List Loc) (ls : Array Slot), k129 x9 x10 → va_P D vwCl (wX10_two cI cJ cS a_o a_notes a_pitch a_refused z_steps z_kind z_space z_other z_times z_speed z_base z_share z_beats z_held z_sort z_size z_shown z_cells z_carried z_words z_tell z_was z_kept z_cutSpace z_cutTimes z_cutOff z_trace v_stretches v_cars v_tunes v_along v_near v_borne v_tempo v_seed v_fault v_from v_at v_end v_told v_wrongAt v_culprit v_ran v_isKept f_notes f_pitch f_refused) H → va_D A (wX10_two cI cJ cS a_o a_notes a_pitch a_refused z_steps z_kind z_space z_other z_times z_speed z_base z_share z_beats z_held z_sort z_size z_shown z_cells z_carried z_words z_tell z_was z_kept z_cutSpace z_cutTimes z_cutOff z_trace v_stretches v_cars v_tunes v_along v_near v_borne v_tempo v_seed v_fault v_from v_at v_end v_told v_wrongAt v_culprit v_ran v_isKept f_notes f_pitch f_refused) → va_S A s.heap H locs → lv_has ls 11 [(0, .ref a_o), (1, .int x1), (2, .int x2), (3, .int x3), (4, .int x4), (5, .int x5), (6, .int x6), (7, .int x7), (8, .int x8), (9, .int x9), (10, .int x10)] → W p l e (rmd 1 0 0) s m args below meth c H locs 0 0 (MQ below (va_Qi (fun r (u : (Nat → Int32)) => post r u) (fun u t => va_P D vwCl (wX10_two cI cJ cS a_o a_notes a_pitch a_refused z_steps z_kind z_space z_other z_times z_speed z_base z_share z_beats z_held z_sort z_size z_shown z_cells z_carried z_words z_tell z_was z_kept z_cutSpace z_cutTimes z_cutOff z_trace v_stretches v_cars v_tunes v_along v_near v_borne v_tempo v_seed v_fault v_from v_at v_end v_told v_wrongAt v_culprit v_ran v_isKept f_notes f_pitch u) t.heap) A) args s 0 0 A) (F0 m 129 ls [])) : ∀ (H : Heap) (locs : List Loc) (ls : Array Slot), F_X10_two_197 k129 x1 x2 x3 x4 x5 x6 x7 x8 x10 f_refused s0 → va_P D vwCl (wX10_two cI cJ cS a_o a_notes a_pitch a_refused z_steps z_kind z_space z_other z_times z_speed z_base z_share z_beats z_held z_sort z_size z_shown z_cells z_carried z_words z_tell z_was z_kept z_cutSpace z_cutTimes z_cutOff z_trace v_stretches v_cars v_tunes v_along v_near v_borne v_tempo v_seed v_fault v_from v_at v_end v_told v_wrongAt v_culprit v_ran v_isKept f_notes f_pitch f_refused) H → va_D A (wX10_two cI cJ cS a_o a_notes a_pitch a_refused z_steps z_kind z_space z_other z_times z_speed z_base z_share z_beats z_held z_sort z_size z_shown z_cells z_carried z_words z_tell z_was z_kept z_cutSpace z_cutTimes z_cutOff z_trace v_stretches v_cars v_tunes v_along v_near v_borne v_tempo v_seed v_fault v_from v_at v_end v_told v_wrongAt v_culprit v_ran v_isKept f_notes f_pitch f_refused) → va_S A s.heap H locs → lv_has ls 11 [(0, .ref a_o), (1, .int x1), (2, .int x2), (3, .int x3), (4, .int x4), (5, .int x5), (6, .int x6), (7, .int x7), (8, .int x8), (10, .int x10)] → W p l e (rmd 1 0 0) s m args below meth c H locs 0 0 (MQ below (va_Qi (fun r (u : (Nat → Int32)) => post r u) (fun u t => va_P D vwCl (wX10_two cI cJ cS a_o a_notes a_pitch a_refused z_steps z_kind z_space z_other z_times z_speed z_base z_share z_beats z_held z_sort z_size z_shown z_cells z_carried z_words z_tell z_was z_kept z_cutSpace z_cutTimes z_cutOff z_trace v_stretches v_cars v_tunes v_along v_near v_borne v_tempo v_seed v_fault v_from v_at v_end v_told v_wrongAt v_culprit v_ran v_isKept f_notes f_pitch u) t.heap) A) args s 0 0 A) (F0 m 197 ls [.int s0]) := by
  intro  H locs ls h hP hD hS hl
  unfold F_X10_two_197 at h
  have hx := S.1
  have hb := S.2.1
  refine lv_istore (lv' := [(9, .int s0), (0, .ref a_o), (1, .int x1), (2, .int x2), (3, .int x3), (4, .int x4), (5, .int x5), (6, .int x6), (7, .int x7), (8, .int x8), (10, .int x10)]) hx hb dX10_two_197 hl (by decide) rfl (fun ls hl => ?_)
  obtain ⟨x10_199, ex10_199⟩ : ∃ z : Int32, z = x10 + 1 := ⟨_, rfl⟩
  have h := h _ ex10_199
  refine lv_iinc (v := x10_199) (lv' := [(10, .int x10_199), (9, .int s0), (0, .ref a_o), (1, .int x1), (2, .int x2), (3, .int x3), (4, .int x4), (5, .int x5), (6, .int x6), (7, .int x7), (8, .int x8)]) hx hb dX10_two_199 hl (k := 10) rfl (by rw [ex10_199]; rfl) (by decide) rfl (fun ls hl => ?_)
  refine lv_goto (tgt := 129) hx hb dX10_two_202 (by decide) ?_
  exact hk129 _ _ _ _ _ h hP hD hS (lv_sub hl [2, 3, 4, 5, 6, 7, 8, 9, 10, 1, 0] rfl)
set_option maxHeartbeats 4000000 in
set_option maxRecDepth 100000 in
theorem w_X10_two_196 {l : Launch} {D : va_G} {cI cJ cS : ClassId} {ad adK : Nat → Nat} {a_o a_notes a_pitch a_refused : Nat} {z_steps z_kind z_space z_other z_times z_speed z_base z_share z_beats z_held z_sort z_size z_shown z_cells z_carried z_words z_tell z_was z_kept z_cutSpace z_cutTimes z_cutOff z_trace : Value} {v_stretches : Int32} {v_cars : Int32} {v_tunes : Int32} {v_along : Int32} {v_near : Int32} {v_borne : Int32} {v_tempo : Int32} {v_seed : Int32} {v_fault : Int32} {v_from : Int32} {v_at : Int32} {v_end : Int32} {v_told : Int32} {v_wrongAt : Int32} {v_culprit : Int32} {v_ran : Int32} {v_isKept : Int32} {f_notes : Nat → Int32} {f_pitch : Nat → Int32} {f_refused : Nat → Int32} {x1 : Int32} {x2 : Int32} {x3 : Int32} {x4 : Int32} {x5 : Int32} {x6 : Int32} {x7 : Int32} {x8 : Int32} {x10 : Int32} {post : Int32 → (Nat → Int32) → Prop} {k129 : Int32 → Int32 → Prop} {p : Program} {e : Env} {s : State} {m : MethodId} {args : Array Value} {below : List Frame} {meth : Method} {c : Code} {A : Nat → Prop} (S : CallFix p m c cX10_two 11 s args GW "RoadThatSingsModel") (hE : EN D cI cJ cS s) (hT : ST ad adK A s s.heap) (hA : ∀ q : Nat, s.heap.size ≤ q → A q) (hr : meth.sig.returnType = (some (.int))) (hlocks : meth.locks = false) (hk129 : ∀ (x9 : Int32) (x10 : Int32) (H : Heap) (locs : List Loc) (ls : Array Slot), k129 x9 x10 → va_P D vwCl (wX10_two cI cJ cS a_o a_notes a_pitch a_refused z_steps z_kind z_space z_other z_times z_speed z_base z_share z_beats z_held z_sort z_size z_shown z_cells z_carried z_words z_tell z_was z_kept z_cutSpace z_cutTimes z_cutOff z_trace v_stretches v_cars v_tunes v_along v_near v_borne v_tempo v_seed v_fault v_from v_at v_end v_told v_wrongAt v_culprit v_ran v_isKept f_notes f_pitch f_refused) H → va_D A (wX10_two cI cJ cS a_o a_notes a_pitch a_refused z_steps z_kind z_space z_other z_times z_speed z_base z_share z_beats z_held z_sort z_size z_shown z_cells z_carried z_words z_tell z_was z_kept z_cutSpace z_cutTimes z_cutOff z_trace v_stretches v_cars v_tunes v_along v_near v_borne v_tempo v_seed v_fault v_from v_at v_end v_told v_wrongAt v_culprit v_ran v_isKept f_notes f_pitch f_refused) → va_S A s.heap H locs → lv_has ls 11 [(0, .ref a_o), (1, .int x1), (2, .int x2), (3, .int x3), (4, .int x4), (5, .int x5), (6, .int x6), (7, .int x7), (8, .int x8), (9, .int x9), (10, .int x10)] → W p l e (rmd 1 0 0) s m args below meth c H locs 0 0 (MQ below (va_Qi (fun r (u : (Nat → Int32)) => post r u) (fun u t => va_P D vwCl (wX10_two cI cJ cS a_o a_notes a_pitch a_refused z_steps z_kind z_space z_other z_times z_speed z_base z_share z_beats z_held z_sort z_size z_shown z_cells z_carried z_words z_tell z_was z_kept z_cutSpace z_cutTimes z_cutOff z_trace v_stretches v_cars v_tunes v_along v_near v_borne v_tempo v_seed v_fault v_from v_at v_end v_told v_wrongAt v_culprit v_ran v_isKept f_notes f_pitch u) t.heap) A) args s 0 0 A) (F0 m 129 ls [])) : ∀ (H : Heap) (locs : List Loc) (ls : Array Slot), F_X10_two_196 k129 x1 x2 x3 x4 x5 x6 x7 x8 x10 f_refused → va_P D vwCl (wX10_two cI cJ cS a_o a_notes a_pitch a_refused z_steps z_kind z_space z_other z_times z_speed z_base z_share z_beats z_held z_sort z_size z_shown z_cells z_carried z_words z_tell z_was z_kept z_cutSpace z_cutTimes z_cutOff z_trace v_stretches v_cars v_tunes v_along v_near v_borne v_tempo v_seed v_fault v_from v_at v_end v_told v_wrongAt v_culprit v_ran v_isKept f_notes f_pitch f_refused) H → va_D A (wX10_two cI cJ cS a_o a_notes a_pitch a_refused z_steps z_kind z_space z_other z_times z_speed z_base z_share z_beats z_held z_sort z_size z_shown z_cells z_carried z_words z_tell z_was z_kept z_cutSpace z_cutTimes z_cutOff z_trace v_stretches v_cars v_tunes v_along v_near v_borne v_tempo v_seed v_fault v_from v_at v_end v_told v_wrongAt v_culprit v_ran v_isKept f_notes f_pitch f_refused) → va_S A s.heap H locs → lv_has ls 11 [(0, .ref a_o), (1, .int x1), (2, .int x2), (3, .int x3), (4, .int x4), (5, .int x5), (6, .int x6), (7, .int x7), (8, .int x8), (10, .int x10)] → W p l e (rmd 1 0 0) s m args below meth c H locs 0 0 (MQ below (va_Qi (fun r (u : (Nat → Int32)) => post r u) (fun u t => va_P D vwCl (wX10_two cI cJ cS a_o a_notes a_pitch a_refused z_steps z_kind z_space z_other z_times z_speed z_base z_share z_beats z_held z_sort z_size z_shown z_cells z_carried z_words z_tell z_was z_kept z_cutSpace z_cutTimes z_cutOff z_trace v_stretches v_cars v_tunes v_along v_near v_borne v_tempo v_seed v_fault v_from v_at v_end v_told v_wrongAt v_culprit v_ran v_isKept f_notes f_pitch u) t.heap) A) args s 0 0 A) (F0 m 196 ls []) := by
  intro  H locs ls h hP hD hS hl
  unfold F_X10_two_196 at h
  have hx := S.1
  have hb := S.2.1
  refine lv_iconst (v := 0) hx hb dX10_two_196 (by decide) ?_
  refine w_X10_two_197 S hE hT hA hr hlocks hk129 _ _ _ h hP hD hS (lv_sub hl [0, 1, 2, 3, 4, 5, 6, 7, 8, 9] rfl)
set_option maxHeartbeats 4000000 in
set_option maxRecDepth 100000 in
theorem w_X10_two_129 {l : Launch} {D : va_G} {cI cJ cS : ClassId} {ad adK : Nat → Nat} {a_o a_notes a_pitch a_refused : Nat} {z_steps z_kind z_space z_other z_times z_speed z_base z_share z_beats z_held z_sort z_size z_shown z_cells z_carried z_words z_tell z_was z_kept z_cutSpace z_cutTimes z_cutOff z_trace : Value} {v_stretches : Int32} {v_cars : Int32} {v_tunes : Int32} {v_along : Int32} {v_near : Int32} {v_borne : Int32} {v_tempo : Int32} {v_seed : Int32} {v_fault : Int32} {v_from : Int32} {v_at : Int32} {v_end : Int32} {v_told : Int32} {v_wrongAt : Int32} {v_culprit : Int32} {v_ran : Int32} {v_isKept : Int32} {f_notes : Nat → Int32} {f_pitch : Nat → Int32} {f_refused : Nat → Int32} {x1 : Int32} {x2 : Int32} {x3 : Int32} {x4 : Int32} {x5 : Int32} {x6 : Int32} {x7 : Int32} {x8 : Int32} {post : Int32 → (Nat → Int32) → Prop} {k205 : Int32 → Prop} {p : Program} {e : Env} {s : State} {m : MethodId} {args : Array Value} {below : List Frame} {meth : Method} {c : Code} {A : Nat → Prop} (S : CallFix p m c cX10_two 11 s args GW "RoadThatSingsModel") (hE : EN D cI cJ cS s) (hT : ST ad adK A s s.heap) (hA : ∀ q : Nat, s.heap.size ≤ q → A q) (hr : meth.sig.returnType = (some (.int))) (hlocks : meth.locks = false) (hk205 : ∀ (x9 : Int32) (H : Heap) (locs : List Loc) (ls : Array Slot), k205 x9 → va_P D vwCl (wX10_two cI cJ cS a_o a_notes a_pitch a_refused z_steps z_kind z_space z_other z_times z_speed z_base z_share z_beats z_held z_sort z_size z_shown z_cells z_carried z_words z_tell z_was z_kept z_cutSpace z_cutTimes z_cutOff z_trace v_stretches v_cars v_tunes v_along v_near v_borne v_tempo v_seed v_fault v_from v_at v_end v_told v_wrongAt v_culprit v_ran v_isKept f_notes f_pitch f_refused) H → va_D A (wX10_two cI cJ cS a_o a_notes a_pitch a_refused z_steps z_kind z_space z_other z_times z_speed z_base z_share z_beats z_held z_sort z_size z_shown z_cells z_carried z_words z_tell z_was z_kept z_cutSpace z_cutTimes z_cutOff z_trace v_stretches v_cars v_tunes v_along v_near v_borne v_tempo v_seed v_fault v_from v_at v_end v_told v_wrongAt v_culprit v_ran v_isKept f_notes f_pitch f_refused) → va_S A s.heap H locs → lv_has ls 11 [(0, .ref a_o), (1, .int x1), (2, .int x2), (3, .int x3), (4, .int x4), (5, .int x5), (6, .int x6), (9, .int x9)] → W p l e (rmd 1 0 0) s m args below meth c H locs 0 0 (MQ below (va_Qi (fun r (u : (Nat → Int32)) => post r u) (fun u t => va_P D vwCl (wX10_two cI cJ cS a_o a_notes a_pitch a_refused z_steps z_kind z_space z_other z_times z_speed z_base z_share z_beats z_held z_sort z_size z_shown z_cells z_carried z_words z_tell z_was z_kept z_cutSpace z_cutTimes z_cutOff z_trace v_stretches v_cars v_tunes v_along v_near v_borne v_tempo v_seed v_fault v_from v_at v_end v_told v_wrongAt v_culprit v_ran v_isKept f_notes f_pitch u) t.heap) A) args s 0 0 A) (F0 m 205 ls [])) : ∀ n : Nat, ∀ (x9 : Int32) (x10 : Int32) (H : Heap) (locs : List Loc) (ls : Array Slot), L_X10_two_129 v_borne x1 x2 x3 x4 x5 x6 x7 x8 f_refused k205 n x9 x10 → va_P D vwCl (wX10_two cI cJ cS a_o a_notes a_pitch a_refused z_steps z_kind z_space z_other z_times z_speed z_base z_share z_beats z_held z_sort z_size z_shown z_cells z_carried z_words z_tell z_was z_kept z_cutSpace z_cutTimes z_cutOff z_trace v_stretches v_cars v_tunes v_along v_near v_borne v_tempo v_seed v_fault v_from v_at v_end v_told v_wrongAt v_culprit v_ran v_isKept f_notes f_pitch f_refused) H → va_D A (wX10_two cI cJ cS a_o a_notes a_pitch a_refused z_steps z_kind z_space z_other z_times z_speed z_base z_share z_beats z_held z_sort z_size z_shown z_cells z_carried z_words z_tell z_was z_kept z_cutSpace z_cutTimes z_cutOff z_trace v_stretches v_cars v_tunes v_along v_near v_borne v_tempo v_seed v_fault v_from v_at v_end v_told v_wrongAt v_culprit v_ran v_isKept f_notes f_pitch f_refused) → va_S A s.heap H locs → lv_has ls 11 [(0, .ref a_o), (1, .int x1), (2, .int x2), (3, .int x3), (4, .int x4), (5, .int x5), (6, .int x6), (7, .int x7), (8, .int x8), (9, .int x9), (10, .int x10)] → W p l e (rmd 1 0 0) s m args below meth c H locs 0 0 (MQ below (va_Qi (fun r (u : (Nat → Int32)) => post r u) (fun u t => va_P D vwCl (wX10_two cI cJ cS a_o a_notes a_pitch a_refused z_steps z_kind z_space z_other z_times z_speed z_base z_share z_beats z_held z_sort z_size z_shown z_cells z_carried z_words z_tell z_was z_kept z_cutSpace z_cutTimes z_cutOff z_trace v_stretches v_cars v_tunes v_along v_near v_borne v_tempo v_seed v_fault v_from v_at v_end v_told v_wrongAt v_culprit v_ran v_isKept f_notes f_pitch u) t.heap) A) args s 0 0 A) (F0 m 129 ls []) := by
  intro n
  induction n with
  | zero =>
    intro x9 x10 H locs ls h hP hD hS hl
    exact h.elim
  | succ n ih =>
    intro x9 x10 H locs ls h hP hD hS hl
    rw [L_X10_two_129] at h
    have hx := S.1
    have hb := S.2.1
    refine lv_iload hx hb dX10_two_129 (lv_at hl 10 rfl) ?_
    refine lv_bipush (v := 60) hx hb dX10_two_131 (by decide) ?_
    refine lv_icmp_gt (tgt := 205) hx hb dX10_two_133 (by decide) (fun hc => ?_) (fun hc => ?_)
    · have h := h.1 hc
      exact hk205 _ _ _ _ h hP hD hS (lv_sub hl [0, 1, 2, 3, 4, 5, 6, 9] rfl)
    have h := h.2 hc
    refine lv_iload hx hb dX10_two_136 (lv_at hl 9 rfl) ?_
    refine lv_if_ne (tgt := 205) hx hb dX10_two_138 (by decide) (fun hc => ?_) (fun hc => ?_)
    · have h := h.2 hc
      exact hk205 _ _ _ _ h hP hD hS (lv_sub hl [0, 1, 2, 3, 4, 5, 6, 9] rfl)
    have h := h.1 hc
    refine lv_iload hx hb dX10_two_141 (lv_at hl 7 rfl) ?_
    refine lv_if_le (tgt := 205) hx hb dX10_two_143 (by decide) (fun hc => ?_) (fun hc => ?_)
    · have h := h.1 hc
      exact hk205 _ _ _ _ h hP hD hS (lv_sub hl [0, 1, 2, 3, 4, 5, 6, 9] rfl)
    have h := h.2 hc
    refine lv_iload hx hb dX10_two_146 (lv_at hl 8 rfl) ?_
    refine lv_if_le (tgt := 205) hx hb dX10_two_148 (by decide) (fun hc => ?_) (fun hc => ?_)
    · have h := h.1 hc
      exact hk205 _ _ _ _ h hP hD hS (lv_sub hl [0, 1, 2, 3, 4, 5, 6, 9] rfl)
    have h := h.2 hc
    refine lv_aload_n hx hb dX10_two_151 rfl (lv_at hl 0 rfl) ?_
    refine lv_aload_n hx hb dX10_two_152 rfl (lv_at hl 0 rfl) ?_
    refine lv_iload hx hb dX10_two_153 (lv_at hl 10 rfl) ?_
    refine lv_iload_n hx hb dX10_two_155 rfl (lv_at hl 2 rfl) ?_
    refine ro_i (roV S hE hT hS (c_X10_humBy h) lkX10_229 rfl ⟨(Nat.le_of_ble_eq_true rfl), (Nat.le_of_ble_eq_true rfl)⟩ (hP.sub [0] rfl) 0 rfl rfl hl.1 rfl (Nat.le_of_ble_eq_true rfl) dX10_two_156 ⟨(Nat.zero_le _), (Nat.zero_le _)⟩) (fun r156 h => ?_)
    refine lv_iload hx hb dX10_two_159 (lv_at hl 7 rfl) ?_
    refine ro_i (roV S hE hT hS (c_X10_offOf h) lkX10_242 rfl ⟨(Nat.le_of_ble_eq_true rfl), (Nat.le_of_ble_eq_true rfl)⟩ (hP.sub [0] rfl) 0 rfl rfl hl.1 rfl (Nat.le_of_ble_eq_true rfl) dX10_two_161 ⟨(Nat.zero_le _), (Nat.zero_le _)⟩) (fun r161 h => ?_)
    refine lv_aload_n hx hb dX10_two_164 rfl (lv_at hl 0 rfl) ?_
    refine gf S hE hP 0 rfl rfl inX10 (k := 5) (by decide) q1098 rfl dX10_two_165 ?_
    refine lv_icmp_gt (tgt := 196) hx hb dX10_two_168 (by decide) (fun hc => ?_) (fun hc => ?_)
    · have h := h.1 hc
      refine w_X10_two_196 S hE hT hA hr hlocks ih _ _ _ h hP hD hS (lv_sub hl [0, 1, 2, 3, 4, 5, 6, 7, 8, 10] rfl)
    have h := h.2 hc
    refine lv_aload_n hx hb dX10_two_171 rfl (lv_at hl 0 rfl) ?_
    refine lv_aload_n hx hb dX10_two_172 rfl (lv_at hl 0 rfl) ?_
    refine lv_iload hx hb dX10_two_173 (lv_at hl 10 rfl) ?_
    refine lv_iload hx hb dX10_two_175 (lv_at hl 4 rfl) ?_
    refine ro_i (roV S hE hT hS (c_X10_humBy h) lkX10_229 rfl ⟨(Nat.le_of_ble_eq_true rfl), (Nat.le_of_ble_eq_true rfl)⟩ (hP.sub [0] rfl) 0 rfl rfl hl.1 rfl (Nat.le_of_ble_eq_true rfl) dX10_two_177 ⟨(Nat.zero_le _), (Nat.zero_le _)⟩) (fun r177 h => ?_)
    refine lv_iload hx hb dX10_two_180 (lv_at hl 8 rfl) ?_
    refine ro_i (roV S hE hT hS (c_X10_offOf h) lkX10_242 rfl ⟨(Nat.le_of_ble_eq_true rfl), (Nat.le_of_ble_eq_true rfl)⟩ (hP.sub [0] rfl) 0 rfl rfl hl.1 rfl (Nat.le_of_ble_eq_true rfl) dX10_two_182 ⟨(Nat.zero_le _), (Nat.zero_le _)⟩) (fun r182 h => ?_)
    refine lv_aload_n hx hb dX10_two_185 rfl (lv_at hl 0 rfl) ?_
    refine gf S hE hP 0 rfl rfl inX10 (k := 5) (by decide) q1098 rfl dX10_two_186 ?_
    refine lv_icmp_gt (tgt := 196) hx hb dX10_two_189 (by decide) (fun hc => ?_) (fun hc => ?_)
    · have h := h.1 hc
      refine w_X10_two_196 S hE hT hA hr hlocks ih _ _ _ h hP hD hS (lv_sub hl [0, 1, 2, 3, 4, 5, 6, 7, 8, 10] rfl)
    have h := h.2 hc
    refine lv_iconst (v := 1) hx hb dX10_two_192 (by decide) ?_
    refine lv_goto (tgt := 197) hx hb dX10_two_193 (by decide) ?_
    refine w_X10_two_197 S hE hT hA hr hlocks ih _ _ _ h hP hD hS (lv_sub hl [0, 1, 2, 3, 4, 5, 6, 7, 8, 10] rfl)
set_option maxHeartbeats 4000000 in
set_option maxRecDepth 100000 in
theorem w_X10_two_213 {l : Launch} {D : va_G} {cI cJ cS : ClassId} {ad adK : Nat → Nat} {a_o a_notes a_pitch a_refused : Nat} {z_steps z_kind z_space z_other z_times z_speed z_base z_share z_beats z_held z_sort z_size z_shown z_cells z_carried z_words z_tell z_was z_kept z_cutSpace z_cutTimes z_cutOff z_trace : Value} {v_stretches : Int32} {v_cars : Int32} {v_tunes : Int32} {v_along : Int32} {v_near : Int32} {v_borne : Int32} {v_tempo : Int32} {v_seed : Int32} {v_fault : Int32} {v_from : Int32} {v_at : Int32} {v_end : Int32} {v_told : Int32} {v_wrongAt : Int32} {v_culprit : Int32} {v_ran : Int32} {v_isKept : Int32} {f_notes : Nat → Int32} {f_pitch : Nat → Int32} {f_refused : Nat → Int32} {x1 : Int32} {x2 : Int32} {x3 : Int32} {x4 : Int32} {x5 : Int32} {x6 : Int32} {post : Int32 → (Nat → Int32) → Prop} {k67 : Int32 → Int32 → Prop} {p : Program} {e : Env} {s : State} {m : MethodId} {args : Array Value} {below : List Frame} {meth : Method} {c : Code} {A : Nat → Prop} (S : CallFix p m c cX10_two 11 s args GW "RoadThatSingsModel") (hE : EN D cI cJ cS s) (hT : ST ad adK A s s.heap) (hA : ∀ q : Nat, s.heap.size ≤ q → A q) (hr : meth.sig.returnType = (some (.int))) (hlocks : meth.locks = false) (hk67 : ∀ (x5 : Int32) (x6 : Int32) (H : Heap) (locs : List Loc) (ls : Array Slot), k67 x5 x6 → va_P D vwCl (wX10_two cI cJ cS a_o a_notes a_pitch a_refused z_steps z_kind z_space z_other z_times z_speed z_base z_share z_beats z_held z_sort z_size z_shown z_cells z_carried z_words z_tell z_was z_kept z_cutSpace z_cutTimes z_cutOff z_trace v_stretches v_cars v_tunes v_along v_near v_borne v_tempo v_seed v_fault v_from v_at v_end v_told v_wrongAt v_culprit v_ran v_isKept f_notes f_pitch f_refused) H → va_D A (wX10_two cI cJ cS a_o a_notes a_pitch a_refused z_steps z_kind z_space z_other z_times z_speed z_base z_share z_beats z_held z_sort z_size z_shown z_cells z_carried z_words z_tell z_was z_kept z_cutSpace z_cutTimes z_cutOff z_trace v_stretches v_cars v_tunes v_along v_near v_borne v_tempo v_seed v_fault v_from v_at v_end v_told v_wrongAt v_culprit v_ran v_isKept f_notes f_pitch f_refused) → va_S A s.heap H locs → lv_has ls 11 [(0, .ref a_o), (1, .int x1), (2, .int x2), (3, .int x3), (4, .int x4), (5, .int x5), (6, .int x6)] → W p l e (rmd 1 0 0) s m args below meth c H locs 0 0 (MQ below (va_Qi (fun r (u : (Nat → Int32)) => post r u) (fun u t => va_P D vwCl (wX10_two cI cJ cS a_o a_notes a_pitch a_refused z_steps z_kind z_space z_other z_times z_speed z_base z_share z_beats z_held z_sort z_size z_shown z_cells z_carried z_words z_tell z_was z_kept z_cutSpace z_cutTimes z_cutOff z_trace v_stretches v_cars v_tunes v_along v_near v_borne v_tempo v_seed v_fault v_from v_at v_end v_told v_wrongAt v_culprit v_ran v_isKept f_notes f_pitch u) t.heap) A) args s 0 0 A) (F0 m 67 ls [])) : ∀ (H : Heap) (locs : List Loc) (ls : Array Slot), F_X10_two_213 k67 x1 x2 x3 x4 x5 x6 f_refused → va_P D vwCl (wX10_two cI cJ cS a_o a_notes a_pitch a_refused z_steps z_kind z_space z_other z_times z_speed z_base z_share z_beats z_held z_sort z_size z_shown z_cells z_carried z_words z_tell z_was z_kept z_cutSpace z_cutTimes z_cutOff z_trace v_stretches v_cars v_tunes v_along v_near v_borne v_tempo v_seed v_fault v_from v_at v_end v_told v_wrongAt v_culprit v_ran v_isKept f_notes f_pitch f_refused) H → va_D A (wX10_two cI cJ cS a_o a_notes a_pitch a_refused z_steps z_kind z_space z_other z_times z_speed z_base z_share z_beats z_held z_sort z_size z_shown z_cells z_carried z_words z_tell z_was z_kept z_cutSpace z_cutTimes z_cutOff z_trace v_stretches v_cars v_tunes v_along v_near v_borne v_tempo v_seed v_fault v_from v_at v_end v_told v_wrongAt v_culprit v_ran v_isKept f_notes f_pitch f_refused) → va_S A s.heap H locs → lv_has ls 11 [(0, .ref a_o), (1, .int x1), (2, .int x2), (3, .int x3), (4, .int x4), (5, .int x5), (6, .int x6)] → W p l e (rmd 1 0 0) s m args below meth c H locs 0 0 (MQ below (va_Qi (fun r (u : (Nat → Int32)) => post r u) (fun u t => va_P D vwCl (wX10_two cI cJ cS a_o a_notes a_pitch a_refused z_steps z_kind z_space z_other z_times z_speed z_base z_share z_beats z_held z_sort z_size z_shown z_cells z_carried z_words z_tell z_was z_kept z_cutSpace z_cutTimes z_cutOff z_trace v_stretches v_cars v_tunes v_along v_near v_borne v_tempo v_seed v_fault v_from v_at v_end v_told v_wrongAt v_culprit v_ran v_isKept f_notes f_pitch u) t.heap) A) args s 0 0 A) (F0 m 213 ls []) := by
  intro  H locs ls h hP hD hS hl
  unfold F_X10_two_213 at h
  have hx := S.1
  have hb := S.2.1
  obtain ⟨x6_213, ex6_213⟩ : ∃ z : Int32, z = x6 + 1 := ⟨_, rfl⟩
  have h := h _ ex6_213
  refine lv_iinc (v := x6_213) (lv' := [(6, .int x6_213), (0, .ref a_o), (1, .int x1), (2, .int x2), (3, .int x3), (4, .int x4), (5, .int x5)]) hx hb dX10_two_213 hl (k := 6) rfl (by rw [ex6_213]; rfl) (by decide) rfl (fun ls hl => ?_)
  refine lv_goto (tgt := 67) hx hb dX10_two_216 (by decide) ?_
  exact hk67 _ _ _ _ _ h hP hD hS (lv_sub hl [1, 2, 3, 4, 5, 6, 0] rfl)
set_option maxHeartbeats 4000000 in
set_option maxRecDepth 100000 in
theorem w_X10_two_205 {l : Launch} {D : va_G} {cI cJ cS : ClassId} {ad adK : Nat → Nat} {a_o a_notes a_pitch a_refused : Nat} {z_steps z_kind z_space z_other z_times z_speed z_base z_share z_beats z_held z_sort z_size z_shown z_cells z_carried z_words z_tell z_was z_kept z_cutSpace z_cutTimes z_cutOff z_trace : Value} {v_stretches : Int32} {v_cars : Int32} {v_tunes : Int32} {v_along : Int32} {v_near : Int32} {v_borne : Int32} {v_tempo : Int32} {v_seed : Int32} {v_fault : Int32} {v_from : Int32} {v_at : Int32} {v_end : Int32} {v_told : Int32} {v_wrongAt : Int32} {v_culprit : Int32} {v_ran : Int32} {v_isKept : Int32} {f_notes : Nat → Int32} {f_pitch : Nat → Int32} {f_refused : Nat → Int32} {x1 : Int32} {x2 : Int32} {x3 : Int32} {x4 : Int32} {x5 : Int32} {x6 : Int32} {x9 : Int32} {post : Int32 → (Nat → Int32) → Prop} {k67 : Int32 → Int32 → Prop} {p : Program} {e : Env} {s : State} {m : MethodId} {args : Array Value} {below : List Frame} {meth : Method} {c : Code} {A : Nat → Prop} (S : CallFix p m c cX10_two 11 s args GW "RoadThatSingsModel") (hE : EN D cI cJ cS s) (hT : ST ad adK A s s.heap) (hA : ∀ q : Nat, s.heap.size ≤ q → A q) (hr : meth.sig.returnType = (some (.int))) (hlocks : meth.locks = false) (hk67 : ∀ (x5 : Int32) (x6 : Int32) (H : Heap) (locs : List Loc) (ls : Array Slot), k67 x5 x6 → va_P D vwCl (wX10_two cI cJ cS a_o a_notes a_pitch a_refused z_steps z_kind z_space z_other z_times z_speed z_base z_share z_beats z_held z_sort z_size z_shown z_cells z_carried z_words z_tell z_was z_kept z_cutSpace z_cutTimes z_cutOff z_trace v_stretches v_cars v_tunes v_along v_near v_borne v_tempo v_seed v_fault v_from v_at v_end v_told v_wrongAt v_culprit v_ran v_isKept f_notes f_pitch f_refused) H → va_D A (wX10_two cI cJ cS a_o a_notes a_pitch a_refused z_steps z_kind z_space z_other z_times z_speed z_base z_share z_beats z_held z_sort z_size z_shown z_cells z_carried z_words z_tell z_was z_kept z_cutSpace z_cutTimes z_cutOff z_trace v_stretches v_cars v_tunes v_along v_near v_borne v_tempo v_seed v_fault v_from v_at v_end v_told v_wrongAt v_culprit v_ran v_isKept f_notes f_pitch f_refused) → va_S A s.heap H locs → lv_has ls 11 [(0, .ref a_o), (1, .int x1), (2, .int x2), (3, .int x3), (4, .int x4), (5, .int x5), (6, .int x6)] → W p l e (rmd 1 0 0) s m args below meth c H locs 0 0 (MQ below (va_Qi (fun r (u : (Nat → Int32)) => post r u) (fun u t => va_P D vwCl (wX10_two cI cJ cS a_o a_notes a_pitch a_refused z_steps z_kind z_space z_other z_times z_speed z_base z_share z_beats z_held z_sort z_size z_shown z_cells z_carried z_words z_tell z_was z_kept z_cutSpace z_cutTimes z_cutOff z_trace v_stretches v_cars v_tunes v_along v_near v_borne v_tempo v_seed v_fault v_from v_at v_end v_told v_wrongAt v_culprit v_ran v_isKept f_notes f_pitch u) t.heap) A) args s 0 0 A) (F0 m 67 ls [])) : ∀ (H : Heap) (locs : List Loc) (ls : Array Slot), F_X10_two_205 k67 x1 x2 x3 x4 x5 x6 x9 f_refused → va_P D vwCl (wX10_two cI cJ cS a_o a_notes a_pitch a_refused z_steps z_kind z_space z_other z_times z_speed z_base z_share z_beats z_held z_sort z_size z_shown z_cells z_carried z_words z_tell z_was z_kept z_cutSpace z_cutTimes z_cutOff z_trace v_stretches v_cars v_tunes v_along v_near v_borne v_tempo v_seed v_fault v_from v_at v_end v_told v_wrongAt v_culprit v_ran v_isKept f_notes f_pitch f_refused) H → va_D A (wX10_two cI cJ cS a_o a_notes a_pitch a_refused z_steps z_kind z_space z_other z_times z_speed z_base z_share z_beats z_held z_sort z_size z_shown z_cells z_carried z_words z_tell z_was z_kept z_cutSpace z_cutTimes z_cutOff z_trace v_stretches v_cars v_tunes v_along v_near v_borne v_tempo v_seed v_fault v_from v_at v_end v_told v_wrongAt v_culprit v_ran v_isKept f_notes f_pitch f_refused) → va_S A s.heap H locs → lv_has ls 11 [(0, .ref a_o), (1, .int x1), (2, .int x2), (3, .int x3), (4, .int x4), (5, .int x5), (6, .int x6), (9, .int x9)] → W p l e (rmd 1 0 0) s m args below meth c H locs 0 0 (MQ below (va_Qi (fun r (u : (Nat → Int32)) => post r u) (fun u t => va_P D vwCl (wX10_two cI cJ cS a_o a_notes a_pitch a_refused z_steps z_kind z_space z_other z_times z_speed z_base z_share z_beats z_held z_sort z_size z_shown z_cells z_carried z_words z_tell z_was z_kept z_cutSpace z_cutTimes z_cutOff z_trace v_stretches v_cars v_tunes v_along v_near v_borne v_tempo v_seed v_fault v_from v_at v_end v_told v_wrongAt v_culprit v_ran v_isKept f_notes f_pitch u) t.heap) A) args s 0 0 A) (F0 m 205 ls []) := by
  intro  H locs ls h hP hD hS hl
  unfold F_X10_two_205 at h
  have hx := S.1
  have hb := S.2.1
  refine lv_iload hx hb dX10_two_205 (lv_at hl 7 rfl) ?_
  refine lv_if_eq (tgt := 213) hx hb dX10_two_207 (by decide) (fun hc => ?_) (fun hc => ?_)
  · have h := h.1 hc
    refine w_X10_two_213 S hE hT hA hr hlocks hk67 _ _ _ h hP hD hS (lv_sub hl [0, 1, 2, 3, 4, 5, 6] rfl)
  have h := h.2 hc
  obtain ⟨x5_210, ex5_210⟩ : ∃ z : Int32, z = x5 + 1 := ⟨_, rfl⟩
  have h := h _ ex5_210
  refine lv_iinc (v := x5_210) (lv' := [(5, .int x5_210), (0, .ref a_o), (1, .int x1), (2, .int x2), (3, .int x3), (4, .int x4), (6, .int x6), (9, .int x9)]) hx hb dX10_two_210 hl (k := 5) rfl (by rw [ex5_210]; rfl) (by decide) rfl (fun ls hl => ?_)
  refine w_X10_two_213 S hE hT hA hr hlocks hk67 _ _ _ h hP hD hS (lv_sub hl [1, 2, 3, 4, 5, 0, 6] rfl)
set_option maxHeartbeats 4000000 in
set_option maxRecDepth 100000 in
theorem w_X10_two_121 {l : Launch} {D : va_G} {cI cJ cS : ClassId} {ad adK : Nat → Nat} {a_o a_notes a_pitch a_refused : Nat} {z_steps z_kind z_space z_other z_times z_speed z_base z_share z_beats z_held z_sort z_size z_shown z_cells z_carried z_words z_tell z_was z_kept z_cutSpace z_cutTimes z_cutOff z_trace : Value} {v_stretches : Int32} {v_cars : Int32} {v_tunes : Int32} {v_along : Int32} {v_near : Int32} {v_borne : Int32} {v_tempo : Int32} {v_seed : Int32} {v_fault : Int32} {v_from : Int32} {v_at : Int32} {v_end : Int32} {v_told : Int32} {v_wrongAt : Int32} {v_culprit : Int32} {v_ran : Int32} {v_isKept : Int32} {f_notes : Nat → Int32} {f_pitch : Nat → Int32} {f_refused : Nat → Int32} {x1 : Int32} {x2 : Int32} {x3 : Int32} {x4 : Int32} {x5 : Int32} {x6 : Int32} {x7 : Int32} {x8 : Int32} {s0 : Int32} {post : Int32 → (Nat → Int32) → Prop} {k67 : Int32 → Int32 → Prop} {p : Program} {e : Env} {s : State} {m : MethodId} {args : Array Value} {below : List Frame} {meth : Method} {c : Code} {A : Nat → Prop} (S : CallFix p m c cX10_two 11 s args GW "RoadThatSingsModel") (hE : EN D cI cJ cS s) (hT : ST ad adK A s s.heap) (hA : ∀ q : Nat, s.heap.size ≤ q → A q) (hr : meth.sig.returnType = (some (.int))) (hlocks : meth.locks = false) (hk67 : ∀ (x5 : Int32) (x6 : Int32) (H : Heap) (locs : List Loc) (ls : Array Slot), k67 x5 x6 → va_P D vwCl (wX10_two cI cJ cS a_o a_notes a_pitch a_refused z_steps z_kind z_space z_other z_times z_speed z_base z_share z_beats z_held z_sort z_size z_shown z_cells z_carried z_words z_tell z_was z_kept z_cutSpace z_cutTimes z_cutOff z_trace v_stretches v_cars v_tunes v_along v_near v_borne v_tempo v_seed v_fault v_from v_at v_end v_told v_wrongAt v_culprit v_ran v_isKept f_notes f_pitch f_refused) H → va_D A (wX10_two cI cJ cS a_o a_notes a_pitch a_refused z_steps z_kind z_space z_other z_times z_speed z_base z_share z_beats z_held z_sort z_size z_shown z_cells z_carried z_words z_tell z_was z_kept z_cutSpace z_cutTimes z_cutOff z_trace v_stretches v_cars v_tunes v_along v_near v_borne v_tempo v_seed v_fault v_from v_at v_end v_told v_wrongAt v_culprit v_ran v_isKept f_notes f_pitch f_refused) → va_S A s.heap H locs → lv_has ls 11 [(0, .ref a_o), (1, .int x1), (2, .int x2), (3, .int x3), (4, .int x4), (5, .int x5), (6, .int x6)] → W p l e (rmd 1 0 0) s m args below meth c H locs 0 0 (MQ below (va_Qi (fun r (u : (Nat → Int32)) => post r u) (fun u t => va_P D vwCl (wX10_two cI cJ cS a_o a_notes a_pitch a_refused z_steps z_kind z_space z_other z_times z_speed z_base z_share z_beats z_held z_sort z_size z_shown z_cells z_carried z_words z_tell z_was z_kept z_cutSpace z_cutTimes z_cutOff z_trace v_stretches v_cars v_tunes v_along v_near v_borne v_tempo v_seed v_fault v_from v_at v_end v_told v_wrongAt v_culprit v_ran v_isKept f_notes f_pitch u) t.heap) A) args s 0 0 A) (F0 m 67 ls [])) : ∀ (H : Heap) (locs : List Loc) (ls : Array Slot), F_X10_two_121 v_near v_borne k67 x1 x2 x3 x4 x5 x6 x7 x8 f_refused s0 → va_P D vwCl (wX10_two cI cJ cS a_o a_notes a_pitch a_refused z_steps z_kind z_space z_other z_times z_speed z_base z_share z_beats z_held z_sort z_size z_shown z_cells z_carried z_words z_tell z_was z_kept z_cutSpace z_cutTimes z_cutOff z_trace v_stretches v_cars v_tunes v_along v_near v_borne v_tempo v_seed v_fault v_from v_at v_end v_told v_wrongAt v_culprit v_ran v_isKept f_notes f_pitch f_refused) H → va_D A (wX10_two cI cJ cS a_o a_notes a_pitch a_refused z_steps z_kind z_space z_other z_times z_speed z_base z_share z_beats z_held z_sort z_size z_shown z_cells z_carried z_words z_tell z_was z_kept z_cutSpace z_cutTimes z_cutOff z_trace v_stretches v_cars v_tunes v_along v_near v_borne v_tempo v_seed v_fault v_from v_at v_end v_told v_wrongAt v_culprit v_ran v_isKept f_notes f_pitch f_refused) → va_S A s.heap H locs → lv_has ls 11 [(0, .ref a_o), (1, .int x1), (2, .int x2), (3, .int x3), (4, .int x4), (5, .int x5), (6, .int x6), (7, .int x7), (8, .int x8)] → W p l e (rmd 1 0 0) s m args below meth c H locs 0 0 (MQ below (va_Qi (fun r (u : (Nat → Int32)) => post r u) (fun u t => va_P D vwCl (wX10_two cI cJ cS a_o a_notes a_pitch a_refused z_steps z_kind z_space z_other z_times z_speed z_base z_share z_beats z_held z_sort z_size z_shown z_cells z_carried z_words z_tell z_was z_kept z_cutSpace z_cutTimes z_cutOff z_trace v_stretches v_cars v_tunes v_along v_near v_borne v_tempo v_seed v_fault v_from v_at v_end v_told v_wrongAt v_culprit v_ran v_isKept f_notes f_pitch u) t.heap) A) args s 0 0 A) (F0 m 121 ls [.int s0]) := by
  intro  H locs ls h hP hD hS hl
  unfold F_X10_two_121 at h
  have hx := S.1
  have hb := S.2.1
  refine lv_istore (lv' := [(9, .int s0), (0, .ref a_o), (1, .int x1), (2, .int x2), (3, .int x3), (4, .int x4), (5, .int x5), (6, .int x6), (7, .int x7), (8, .int x8)]) hx hb dX10_two_121 hl (by decide) rfl (fun ls hl => ?_)
  refine lv_aload_n hx hb dX10_two_123 rfl (lv_at hl 1 rfl) ?_
  refine gf S hE hP 0 rfl rfl inX10 (k := 4) (by decide) q1097 rfl dX10_two_124 ?_
  refine lv_istore (lv' := [(10, .int v_near), (9, .int s0), (0, .ref a_o), (1, .int x1), (2, .int x2), (3, .int x3), (4, .int x4), (5, .int x5), (6, .int x6), (7, .int x7), (8, .int x8)]) hx hb dX10_two_127 hl (by decide) rfl (fun ls hl => ?_)
  obtain ⟨n, h⟩ := h
  refine w_X10_two_129 S hE hT hA hr hlocks (fun x9_1 H locs ls h hP hD hS hl => ?_) n _ _ _ _ _ h hP hD hS (lv_sub hl [2, 3, 4, 5, 6, 7, 8, 9, 10, 1, 0] rfl)
  refine w_X10_two_205 S hE hT hA hr hlocks hk67 _ _ _ h hP hD hS (lv_sub hl [0, 1, 2, 3, 4, 5, 6, 7] rfl)
set_option maxHeartbeats 4000000 in
set_option maxRecDepth 100000 in
theorem w_X10_two_120 {l : Launch} {D : va_G} {cI cJ cS : ClassId} {ad adK : Nat → Nat} {a_o a_notes a_pitch a_refused : Nat} {z_steps z_kind z_space z_other z_times z_speed z_base z_share z_beats z_held z_sort z_size z_shown z_cells z_carried z_words z_tell z_was z_kept z_cutSpace z_cutTimes z_cutOff z_trace : Value} {v_stretches : Int32} {v_cars : Int32} {v_tunes : Int32} {v_along : Int32} {v_near : Int32} {v_borne : Int32} {v_tempo : Int32} {v_seed : Int32} {v_fault : Int32} {v_from : Int32} {v_at : Int32} {v_end : Int32} {v_told : Int32} {v_wrongAt : Int32} {v_culprit : Int32} {v_ran : Int32} {v_isKept : Int32} {f_notes : Nat → Int32} {f_pitch : Nat → Int32} {f_refused : Nat → Int32} {x1 : Int32} {x2 : Int32} {x3 : Int32} {x4 : Int32} {x5 : Int32} {x6 : Int32} {x7 : Int32} {x8 : Int32} {post : Int32 → (Nat → Int32) → Prop} {k67 : Int32 → Int32 → Prop} {p : Program} {e : Env} {s : State} {m : MethodId} {args : Array Value} {below : List Frame} {meth : Method} {c : Code} {A : Nat → Prop} (S : CallFix p m c cX10_two 11 s args GW "RoadThatSingsModel") (hE : EN D cI cJ cS s) (hT : ST ad adK A s s.heap) (hA : ∀ q : Nat, s.heap.size ≤ q → A q) (hr : meth.sig.returnType = (some (.int))) (hlocks : meth.locks = false) (hk67 : ∀ (x5 : Int32) (x6 : Int32) (H : Heap) (locs : List Loc) (ls : Array Slot), k67 x5 x6 → va_P D vwCl (wX10_two cI cJ cS a_o a_notes a_pitch a_refused z_steps z_kind z_space z_other z_times z_speed z_base z_share z_beats z_held z_sort z_size z_shown z_cells z_carried z_words z_tell z_was z_kept z_cutSpace z_cutTimes z_cutOff z_trace v_stretches v_cars v_tunes v_along v_near v_borne v_tempo v_seed v_fault v_from v_at v_end v_told v_wrongAt v_culprit v_ran v_isKept f_notes f_pitch f_refused) H → va_D A (wX10_two cI cJ cS a_o a_notes a_pitch a_refused z_steps z_kind z_space z_other z_times z_speed z_base z_share z_beats z_held z_sort z_size z_shown z_cells z_carried z_words z_tell z_was z_kept z_cutSpace z_cutTimes z_cutOff z_trace v_stretches v_cars v_tunes v_along v_near v_borne v_tempo v_seed v_fault v_from v_at v_end v_told v_wrongAt v_culprit v_ran v_isKept f_notes f_pitch f_refused) → va_S A s.heap H locs → lv_has ls 11 [(0, .ref a_o), (1, .int x1), (2, .int x2), (3, .int x3), (4, .int x4), (5, .int x5), (6, .int x6)] → W p l e (rmd 1 0 0) s m args below meth c H locs 0 0 (MQ below (va_Qi (fun r (u : (Nat → Int32)) => post r u) (fun u t => va_P D vwCl (wX10_two cI cJ cS a_o a_notes a_pitch a_refused z_steps z_kind z_space z_other z_times z_speed z_base z_share z_beats z_held z_sort z_size z_shown z_cells z_carried z_words z_tell z_was z_kept z_cutSpace z_cutTimes z_cutOff z_trace v_stretches v_cars v_tunes v_along v_near v_borne v_tempo v_seed v_fault v_from v_at v_end v_told v_wrongAt v_culprit v_ran v_isKept f_notes f_pitch u) t.heap) A) args s 0 0 A) (F0 m 67 ls [])) : ∀ (H : Heap) (locs : List Loc) (ls : Array Slot), F_X10_two_120 v_near v_borne k67 x1 x2 x3 x4 x5 x6 x7 x8 f_refused → va_P D vwCl (wX10_two cI cJ cS a_o a_notes a_pitch a_refused z_steps z_kind z_space z_other z_times z_speed z_base z_share z_beats z_held z_sort z_size z_shown z_cells z_carried z_words z_tell z_was z_kept z_cutSpace z_cutTimes z_cutOff z_trace v_stretches v_cars v_tunes v_along v_near v_borne v_tempo v_seed v_fault v_from v_at v_end v_told v_wrongAt v_culprit v_ran v_isKept f_notes f_pitch f_refused) H → va_D A (wX10_two cI cJ cS a_o a_notes a_pitch a_refused z_steps z_kind z_space z_other z_times z_speed z_base z_share z_beats z_held z_sort z_size z_shown z_cells z_carried z_words z_tell z_was z_kept z_cutSpace z_cutTimes z_cutOff z_trace v_stretches v_cars v_tunes v_along v_near v_borne v_tempo v_seed v_fault v_from v_at v_end v_told v_wrongAt v_culprit v_ran v_isKept f_notes f_pitch f_refused) → va_S A s.heap H locs → lv_has ls 11 [(0, .ref a_o), (1, .int x1), (2, .int x2), (3, .int x3), (4, .int x4), (5, .int x5), (6, .int x6), (7, .int x7), (8, .int x8)] → W p l e (rmd 1 0 0) s m args below meth c H locs 0 0 (MQ below (va_Qi (fun r (u : (Nat → Int32)) => post r u) (fun u t => va_P D vwCl (wX10_two cI cJ cS a_o a_notes a_pitch a_refused z_steps z_kind z_space z_other z_times z_speed z_base z_share z_beats z_held z_sort z_size z_shown z_cells z_carried z_words z_tell z_was z_kept z_cutSpace z_cutTimes z_cutOff z_trace v_stretches v_cars v_tunes v_along v_near v_borne v_tempo v_seed v_fault v_from v_at v_end v_told v_wrongAt v_culprit v_ran v_isKept f_notes f_pitch u) t.heap) A) args s 0 0 A) (F0 m 120 ls []) := by
  intro  H locs ls h hP hD hS hl
  unfold F_X10_two_120 at h
  have hx := S.1
  have hb := S.2.1
  refine lv_iconst (v := 0) hx hb dX10_two_120 (by decide) ?_
  refine w_X10_two_121 S hE hT hA hr hlocks hk67 _ _ _ h hP hD hS (lv_sub hl [0, 1, 2, 3, 4, 5, 6, 7, 8] rfl)
set_option maxHeartbeats 4000000 in
set_option maxRecDepth 100000 in
theorem w_X10_two_67 {l : Launch} {D : va_G} {cI cJ cS : ClassId} {ad adK : Nat → Nat} {a_o a_notes a_pitch a_refused : Nat} {z_steps z_kind z_space z_other z_times z_speed z_base z_share z_beats z_held z_sort z_size z_shown z_cells z_carried z_words z_tell z_was z_kept z_cutSpace z_cutTimes z_cutOff z_trace : Value} {v_stretches : Int32} {v_cars : Int32} {v_tunes : Int32} {v_along : Int32} {v_near : Int32} {v_borne : Int32} {v_tempo : Int32} {v_seed : Int32} {v_fault : Int32} {v_from : Int32} {v_at : Int32} {v_end : Int32} {v_told : Int32} {v_wrongAt : Int32} {v_culprit : Int32} {v_ran : Int32} {v_isKept : Int32} {f_notes : Nat → Int32} {f_pitch : Nat → Int32} {f_refused : Nat → Int32} {x1 : Int32} {x2 : Int32} {x3 : Int32} {x4 : Int32} {post : Int32 → (Nat → Int32) → Prop} {p : Program} {e : Env} {s : State} {m : MethodId} {args : Array Value} {below : List Frame} {meth : Method} {c : Code} {A : Nat → Prop} (S : CallFix p m c cX10_two 11 s args GW "RoadThatSingsModel") (hE : EN D cI cJ cS s) (hT : ST ad adK A s s.heap) (hA : ∀ q : Nat, s.heap.size ≤ q → A q) (hr : meth.sig.returnType = (some (.int))) (hlocks : meth.locks = false) : ∀ n : Nat, ∀ (x5 : Int32) (x6 : Int32) (H : Heap) (locs : List Loc) (ls : Array Slot), L_X10_two_67 v_near v_borne f_notes f_pitch x1 x2 x3 x4 f_refused post n x5 x6 → va_P D vwCl (wX10_two cI cJ cS a_o a_notes a_pitch a_refused z_steps z_kind z_space z_other z_times z_speed z_base z_share z_beats z_held z_sort z_size z_shown z_cells z_carried z_words z_tell z_was z_kept z_cutSpace z_cutTimes z_cutOff z_trace v_stretches v_cars v_tunes v_along v_near v_borne v_tempo v_seed v_fault v_from v_at v_end v_told v_wrongAt v_culprit v_ran v_isKept f_notes f_pitch f_refused) H → va_D A (wX10_two cI cJ cS a_o a_notes a_pitch a_refused z_steps z_kind z_space z_other z_times z_speed z_base z_share z_beats z_held z_sort z_size z_shown z_cells z_carried z_words z_tell z_was z_kept z_cutSpace z_cutTimes z_cutOff z_trace v_stretches v_cars v_tunes v_along v_near v_borne v_tempo v_seed v_fault v_from v_at v_end v_told v_wrongAt v_culprit v_ran v_isKept f_notes f_pitch f_refused) → va_S A s.heap H locs → lv_has ls 11 [(0, .ref a_o), (1, .int x1), (2, .int x2), (3, .int x3), (4, .int x4), (5, .int x5), (6, .int x6)] → W p l e (rmd 1 0 0) s m args below meth c H locs 0 0 (MQ below (va_Qi (fun r (u : (Nat → Int32)) => post r u) (fun u t => va_P D vwCl (wX10_two cI cJ cS a_o a_notes a_pitch a_refused z_steps z_kind z_space z_other z_times z_speed z_base z_share z_beats z_held z_sort z_size z_shown z_cells z_carried z_words z_tell z_was z_kept z_cutSpace z_cutTimes z_cutOff z_trace v_stretches v_cars v_tunes v_along v_near v_borne v_tempo v_seed v_fault v_from v_at v_end v_told v_wrongAt v_culprit v_ran v_isKept f_notes f_pitch u) t.heap) A) args s 0 0 A) (F0 m 67 ls []) := by
  intro n
  induction n with
  | zero =>
    intro x5 x6 H locs ls h hP hD hS hl
    exact h.elim
  | succ n ih =>
    intro x5 x6 H locs ls h hP hD hS hl
    rw [L_X10_two_67] at h
    have hx := S.1
    have hb := S.2.1
    refine lv_iload hx hb dX10_two_67 (lv_at hl 6 rfl) ?_
    refine lv_aload_n hx hb dX10_two_69 rfl (lv_at hl 0 rfl) ?_
    refine gf S hE hP 0 rfl rfl inX10 (k := 18) (by decide) q1111 rfl dX10_two_70 ?_
    refine lv_iload_n hx hb dX10_two_73 rfl (lv_at hl 1 rfl) ?_
    obtain ⟨hi, h⟩ := h
    refine ial S hE hP 1 rfl hi dX10_two_74 ?_
    refine lv_icmp_ge (tgt := 219) hx hb dX10_two_75 (by decide) (fun hc => ?_) (fun hc => ?_)
    · have h := h.1 hc
      refine lv_iload hx hb dX10_two_219 (lv_at hl 5 rfl) ?_
      exact W.iret hx hb hr (fun t ht _ => ⟨⟨_, f_refused, rfl, h, hPt hP ht⟩, hS.F ht⟩) hS.2.2 dX10_two_221
    have h := h.2 hc
    refine lv_aload_n hx hb dX10_two_78 rfl (lv_at hl 0 rfl) ?_
    refine gf S hE hP 0 rfl rfl inX10 (k := 19) (by decide) q1112 rfl dX10_two_79 ?_
    refine lv_bipush (v := 12) hx hb dX10_two_82 (by decide) ?_
    refine lv_iload_n hx hb dX10_two_84 rfl (lv_at hl 1 rfl) ?_
    refine lv_imul hx hb dX10_two_85 ?_
    refine lv_iload hx hb dX10_two_86 (lv_at hl 6 rfl) ?_
    refine lv_iadd hx hb dX10_two_88 ?_
    obtain ⟨hi, h⟩ := h
    refine ial S hE hP 2 rfl hi dX10_two_89 ?_
    refine lv_topi (fun x7_90 ex7_90 => ?_)
    have h := h _ ex7_90
    refine lv_istore (lv' := [(7, .int x7_90), (0, .ref a_o), (1, .int x1), (2, .int x2), (3, .int x3), (4, .int x4), (5, .int x5), (6, .int x6)]) hx hb dX10_two_90 hl (by decide) rfl (fun ls hl => ?_)
    refine lv_aload_n hx hb dX10_two_92 rfl (lv_at hl 1 rfl) ?_
    refine gf S hE hP 0 rfl rfl inX10 (k := 19) (by decide) q1112 rfl dX10_two_93 ?_
    refine lv_bipush (v := 12) hx hb dX10_two_96 (by decide) ?_
    refine lv_iload_n hx hb dX10_two_98 rfl (lv_at hl 4 rfl) ?_
    refine lv_imul hx hb dX10_two_99 ?_
    refine lv_iload hx hb dX10_two_100 (lv_at hl 7 rfl) ?_
    refine lv_iadd hx hb dX10_two_102 ?_
    obtain ⟨hi, h⟩ := h
    refine ial S hE hP 2 rfl hi dX10_two_103 ?_
    refine lv_topi (fun x8_104 ex8_104 => ?_)
    have h := h _ ex8_104
    refine lv_istore (lv' := [(8, .int x8_104), (7, .int x7_90), (0, .ref a_o), (1, .int x1), (2, .int x2), (3, .int x3), (4, .int x4), (5, .int x5), (6, .int x6)]) hx hb dX10_two_104 hl (by decide) rfl (fun ls hl => ?_)
    refine lv_iload hx hb dX10_two_106 (lv_at hl 1 rfl) ?_
    refine lv_if_ne (tgt := 120) hx hb dX10_two_108 (by decide) (fun hc => ?_) (fun hc => ?_)
    · have h := h.2 hc
      refine w_X10_two_120 S hE hT hA hr hlocks ih _ _ _ h hP hD hS (lv_sub hl [2, 3, 4, 5, 6, 7, 8, 1, 0] rfl)
    have h := h.1 hc
    refine lv_iload hx hb dX10_two_111 (lv_at hl 0 rfl) ?_
    refine lv_if_ne (tgt := 120) hx hb dX10_two_113 (by decide) (fun hc => ?_) (fun hc => ?_)
    · have h := h.2 hc
      refine w_X10_two_120 S hE hT hA hr hlocks ih _ _ _ h hP hD hS (lv_sub hl [2, 3, 4, 5, 6, 7, 8, 1, 0] rfl)
    have h := h.1 hc
    refine lv_iconst (v := 1) hx hb dX10_two_116 (by decide) ?_
    refine lv_goto (tgt := 121) hx hb dX10_two_117 (by decide) ?_
    refine w_X10_two_121 S hE hT hA hr hlocks ih _ _ _ h hP hD hS (lv_sub hl [2, 3, 4, 5, 6, 7, 8, 1, 0] rfl)
set_option maxHeartbeats 4000000 in
set_option maxRecDepth 100000 in
theorem c_X10_two {l : Launch} {D : va_G} {cI cJ cS : ClassId} {ad adK : Nat → Nat} {a_o a_notes a_pitch a_refused : Nat} {z_steps z_kind z_space z_other z_times z_speed z_base z_share z_beats z_held z_sort z_size z_shown z_cells z_carried z_words z_tell z_was z_kept z_cutSpace z_cutTimes z_cutOff z_trace : Value} {v_stretches : Int32} {v_cars : Int32} {v_tunes : Int32} {v_along : Int32} {v_near : Int32} {v_borne : Int32} {v_tempo : Int32} {v_seed : Int32} {v_fault : Int32} {v_from : Int32} {v_at : Int32} {v_end : Int32} {v_told : Int32} {v_wrongAt : Int32} {v_culprit : Int32} {v_ran : Int32} {v_isKept : Int32} {f_notes : Nat → Int32} {f_pitch : Nat → Int32} {f_refused : Nat → Int32} {x1 : Int32} {x2 : Int32} {x3 : Int32} {x4 : Int32} {post : Int32 → (Nat → Int32) → Prop} (h : F_X10_two v_tunes v_near v_borne f_notes f_pitch f_refused x1 x2 x3 x4 post) {sz : Nat} : Met l yX10_two (Cond.code yX10_two cX10_two 11 (some (.int)) :: GW) (rmd 1 0 0) (PW D cI cJ cS ad adK [.ref a_o, .int x1, .int x2, .int x3, .int x4] (wX10_two cI cJ cS a_o a_notes a_pitch a_refused z_steps z_kind z_space z_other z_times z_speed z_base z_share z_beats z_held z_sort z_size z_shown z_cells z_carried z_words z_tell z_was z_kept z_cutSpace z_cutTimes z_cutOff z_trace v_stretches v_cars v_tunes v_along v_near v_borne v_tempo v_seed v_fault v_from v_at v_end v_told v_wrongAt v_culprit v_ran v_isKept f_notes f_pitch f_refused) sz) (va_Qi (fun r (u : (Nat → Int32)) => post r u) (fun u t => va_P D vwCl (wX10_two cI cJ cS a_o a_notes a_pitch a_refused z_steps z_kind z_space z_other z_times z_speed z_base z_share z_beats z_held z_sort z_size z_shown z_cells z_carried z_words z_tell z_was z_kept z_cutSpace z_cutTimes z_cutOff z_trace v_stretches v_cars v_tunes v_along v_near v_borne v_tempo v_seed v_fault v_from v_at v_end v_told v_wrongAt v_culprit v_ran v_isKept f_notes f_pitch u) t.heap) (va_A (wX10_two cI cJ cS a_o a_notes a_pitch a_refused z_steps z_kind z_space z_other z_times z_speed z_base z_share z_beats z_held z_sort z_size z_shown z_cells z_carried z_words z_tell z_was z_kept z_cutSpace z_cutTimes z_cutOff z_trace v_stretches v_cars v_tunes v_along v_near v_borne v_tempo v_seed v_fault v_from v_at v_end v_told v_wrongAt v_culprit v_ran v_isKept f_notes f_pitch f_refused) sz)) 0 0 (va_A (wX10_two cI cJ cS a_o a_notes a_pitch a_refused z_steps z_kind z_space z_other z_times z_speed z_base z_share z_beats z_held z_sort z_size z_shown z_cells z_carried z_words z_tell z_was z_kept z_cutSpace z_cutTimes z_cutOff z_trace v_stretches v_cars v_tunes v_along v_near v_borne v_tempo v_seed v_fault v_from v_at v_end v_told v_wrongAt v_culprit v_ran v_isKept f_notes f_pitch f_refused) sz) := by
  refine Met.rw (Qc := fun A => (va_Qi (fun r (u : (Nat → Int32)) => post r u) (fun u t => va_P D vwCl (wX10_two cI cJ cS a_o a_notes a_pitch a_refused z_steps z_kind z_space z_other z_times z_speed z_base z_share z_beats z_held z_sort z_size z_shown z_cells z_carried z_words z_tell z_was z_kept z_cutSpace z_cutTimes z_cutOff z_trace v_stretches v_cars v_tunes v_along v_near v_borne v_tempo v_seed v_fault v_from v_at v_end v_told v_wrongAt v_culprit v_ran v_isKept f_notes f_pitch u) t.heap) A)) (by decide) (Nat.le_of_ble_eq_true rfl) (fun p e s m args below meth c ls A (S : CallFix p m c cX10_two 11 s args GW "RoadThatSingsModel") hE hT hP hD hA hS hr hlocks hname hl => ?_)
  have hS0 := hS
  have hx := S.1
  have hb := S.2.1
  have hl : lv_has ls 11 [(0, .ref a_o), (1, .int x1), (2, .int x2), (3, .int x3), (4, .int x4)] := hl
  unfold F_X10_two at h
  refine lv_aload_n hx hb dX10_two_0 rfl (lv_at hl 0 rfl) ?_
  refine lv_iload_n hx hb dX10_two_1 rfl (lv_at hl 1 rfl) ?_
  refine ro_i (roV S hE hT hS (c_X10_isTune h) lkX10_168 rfl ⟨(Nat.le_of_ble_eq_true rfl), (Nat.le_of_ble_eq_true rfl)⟩ (hP.sub [0] rfl) 0 rfl rfl hl.1 rfl (Nat.le_of_ble_eq_true rfl) dX10_two_2 ⟨(Nat.zero_le _), (Nat.zero_le _)⟩) (fun r2 h => ?_)
  refine lv_if_eq (tgt := 16) hx hb dX10_two_5 (by decide) (fun hc => ?_) (fun hc => ?_)
  · have h := h.1 hc
    refine lv_aload_n hx hb dX10_two_16 rfl (lv_at hl 0 rfl) ?_
    refine lv_iconst (v := (-1)) hx hb dX10_two_17 (by decide) ?_
    refine rw_i (rwV S hE hT hS hP hD hA (c_X10_no h) [0, 3] rfl (by decide) lkX10_121 rfl ⟨(Nat.le_of_ble_eq_true rfl), (Nat.le_of_ble_eq_true rfl)⟩ 0 rfl rfl hl.1 rfl (Nat.le_of_ble_eq_true rfl) dX10_two_18 ⟨(Nat.zero_le _), (Nat.zero_le _)⟩) hP hD hS hA [0, 3] rfl (by decide) (fun _ => rfl) (fun r18 w18_0 H locs h hP hD hS => ?_)
    try dsimp only at h
    have hP : va_P D vwCl (wX10_two cI cJ cS a_o a_notes a_pitch a_refused z_steps z_kind z_space z_other z_times z_speed z_base z_share z_beats z_held z_sort z_size z_shown z_cells z_carried z_words z_tell z_was z_kept z_cutSpace z_cutTimes z_cutOff z_trace v_stretches v_cars v_tunes v_along v_near v_borne v_tempo v_seed v_fault v_from v_at v_end v_told v_wrongAt v_culprit v_ran v_isKept f_notes f_pitch w18_0) H := hP
    have hD : va_D A (wX10_two cI cJ cS a_o a_notes a_pitch a_refused z_steps z_kind z_space z_other z_times z_speed z_base z_share z_beats z_held z_sort z_size z_shown z_cells z_carried z_words z_tell z_was z_kept z_cutSpace z_cutTimes z_cutOff z_trace v_stretches v_cars v_tunes v_along v_near v_borne v_tempo v_seed v_fault v_from v_at v_end v_told v_wrongAt v_culprit v_ran v_isKept f_notes f_pitch w18_0) := hD
    exact W.iret hx hb hr (fun t ht _ => ⟨⟨_, w18_0, rfl, h, hPt hP ht⟩, hS.F ht⟩) hS.2.2 dX10_two_21
  have h := h.2 hc
  refine lv_aload_n hx hb dX10_two_8 rfl (lv_at hl 0 rfl) ?_
  refine lv_iload_n hx hb dX10_two_9 rfl (lv_at hl 3 rfl) ?_
  refine ro_i (roV S hE hT hS (c_X10_isTune h) lkX10_168 rfl ⟨(Nat.le_of_ble_eq_true rfl), (Nat.le_of_ble_eq_true rfl)⟩ (hP.sub [0] rfl) 0 rfl rfl hl.1 rfl (Nat.le_of_ble_eq_true rfl) dX10_two_10 ⟨(Nat.zero_le _), (Nat.zero_le _)⟩) (fun r10 h => ?_)
  refine lv_if_ne (tgt := 22) hx hb dX10_two_13 (by decide) (fun hc => ?_) (fun hc => ?_)
  · have h := h.2 hc
    refine lv_aload_n hx hb dX10_two_22 rfl (lv_at hl 0 rfl) ?_
    refine lv_iload_n hx hb dX10_two_23 rfl (lv_at hl 2 rfl) ?_
    refine ro_i (roV S hE hT hS (c_X10_isSpeed h) lkX10_155 rfl ⟨(Nat.le_of_ble_eq_true rfl), (Nat.le_of_ble_eq_true rfl)⟩ (hP.sub [0] rfl) 0 rfl rfl hl.1 rfl (Nat.le_of_ble_eq_true rfl) dX10_two_24 ⟨(Nat.zero_le _), (Nat.zero_le _)⟩) (fun r24 h => ?_)
    refine lv_if_eq (tgt := 54) hx hb dX10_two_27 (by decide) (fun hc => ?_) (fun hc => ?_)
    · have h := h.1 hc
      refine lv_aload_n hx hb dX10_two_54 rfl (lv_at hl 0 rfl) ?_
      refine lv_bipush (v := (-6)) hx hb dX10_two_55 (by decide) ?_
      refine rw_i (rwV S hE hT hS hP hD hA (c_X10_no h) [0, 3] rfl (by decide) lkX10_121 rfl ⟨(Nat.le_of_ble_eq_true rfl), (Nat.le_of_ble_eq_true rfl)⟩ 0 rfl rfl hl.1 rfl (Nat.le_of_ble_eq_true rfl) dX10_two_57 ⟨(Nat.zero_le _), (Nat.zero_le _)⟩) hP hD hS hA [0, 3] rfl (by decide) (fun _ => rfl) (fun r57 w57_0 H locs h hP hD hS => ?_)
      try dsimp only at h
      have hP : va_P D vwCl (wX10_two cI cJ cS a_o a_notes a_pitch a_refused z_steps z_kind z_space z_other z_times z_speed z_base z_share z_beats z_held z_sort z_size z_shown z_cells z_carried z_words z_tell z_was z_kept z_cutSpace z_cutTimes z_cutOff z_trace v_stretches v_cars v_tunes v_along v_near v_borne v_tempo v_seed v_fault v_from v_at v_end v_told v_wrongAt v_culprit v_ran v_isKept f_notes f_pitch w57_0) H := hP
      have hD : va_D A (wX10_two cI cJ cS a_o a_notes a_pitch a_refused z_steps z_kind z_space z_other z_times z_speed z_base z_share z_beats z_held z_sort z_size z_shown z_cells z_carried z_words z_tell z_was z_kept z_cutSpace z_cutTimes z_cutOff z_trace v_stretches v_cars v_tunes v_along v_near v_borne v_tempo v_seed v_fault v_from v_at v_end v_told v_wrongAt v_culprit v_ran v_isKept f_notes f_pitch w57_0) := hD
      exact W.iret hx hb hr (fun t ht _ => ⟨⟨_, w57_0, rfl, h, hPt hP ht⟩, hS.F ht⟩) hS.2.2 dX10_two_60
    have h := h.2 hc
    refine lv_aload_n hx hb dX10_two_30 rfl (lv_at hl 0 rfl) ?_
    refine lv_iload hx hb dX10_two_31 (lv_at hl 4 rfl) ?_
    refine ro_i (roV S hE hT hS (c_X10_isSpeed h) lkX10_155 rfl ⟨(Nat.le_of_ble_eq_true rfl), (Nat.le_of_ble_eq_true rfl)⟩ (hP.sub [0] rfl) 0 rfl rfl hl.1 rfl (Nat.le_of_ble_eq_true rfl) dX10_two_33 ⟨(Nat.zero_le _), (Nat.zero_le _)⟩) (fun r33 h => ?_)
    refine lv_if_eq (tgt := 54) hx hb dX10_two_36 (by decide) (fun hc => ?_) (fun hc => ?_)
    · have h := h.1 hc
      refine lv_aload_n hx hb dX10_two_54 rfl (lv_at hl 0 rfl) ?_
      refine lv_bipush (v := (-6)) hx hb dX10_two_55 (by decide) ?_
      refine rw_i (rwV S hE hT hS hP hD hA (c_X10_no h) [0, 3] rfl (by decide) lkX10_121 rfl ⟨(Nat.le_of_ble_eq_true rfl), (Nat.le_of_ble_eq_true rfl)⟩ 0 rfl rfl hl.1 rfl (Nat.le_of_ble_eq_true rfl) dX10_two_57 ⟨(Nat.zero_le _), (Nat.zero_le _)⟩) hP hD hS hA [0, 3] rfl (by decide) (fun _ => rfl) (fun r57 w57_0 H locs h hP hD hS => ?_)
      try dsimp only at h
      have hP : va_P D vwCl (wX10_two cI cJ cS a_o a_notes a_pitch a_refused z_steps z_kind z_space z_other z_times z_speed z_base z_share z_beats z_held z_sort z_size z_shown z_cells z_carried z_words z_tell z_was z_kept z_cutSpace z_cutTimes z_cutOff z_trace v_stretches v_cars v_tunes v_along v_near v_borne v_tempo v_seed v_fault v_from v_at v_end v_told v_wrongAt v_culprit v_ran v_isKept f_notes f_pitch w57_0) H := hP
      have hD : va_D A (wX10_two cI cJ cS a_o a_notes a_pitch a_refused z_steps z_kind z_space z_other z_times z_speed z_base z_share z_beats z_held z_sort z_size z_shown z_cells z_carried z_words z_tell z_was z_kept z_cutSpace z_cutTimes z_cutOff z_trace v_stretches v_cars v_tunes v_along v_near v_borne v_tempo v_seed v_fault v_from v_at v_end v_told v_wrongAt v_culprit v_ran v_isKept f_notes f_pitch w57_0) := hD
      exact W.iret hx hb hr (fun t ht _ => ⟨⟨_, w57_0, rfl, h, hPt hP ht⟩, hS.F ht⟩) hS.2.2 dX10_two_60
    have h := h.2 hc
    refine lv_aload_n hx hb dX10_two_39 rfl (lv_at hl 0 rfl) ?_
    refine gf S hE hP 0 rfl rfl inX10 (k := 18) (by decide) q1111 rfl dX10_two_40 ?_
    refine lv_iload_n hx hb dX10_two_43 rfl (lv_at hl 1 rfl) ?_
    obtain ⟨hi, h⟩ := h
    refine ial S hE hP 1 rfl hi dX10_two_44 ?_
    refine lv_aload_n hx hb dX10_two_45 rfl (lv_at hl 0 rfl) ?_
    refine gf S hE hP 0 rfl rfl inX10 (k := 18) (by decide) q1111 rfl dX10_two_46 ?_
    refine lv_iload_n hx hb dX10_two_49 rfl (lv_at hl 3 rfl) ?_
    obtain ⟨hi, h⟩ := h
    refine ial S hE hP 1 rfl hi dX10_two_50 ?_
    refine lv_icmp_eq (tgt := 61) hx hb dX10_two_51 (by decide) (fun hc => ?_) (fun hc => ?_)
    · have h := h.1 hc
      refine lv_iconst (v := 0) hx hb dX10_two_61 (by decide) ?_
      refine lv_istore (lv' := [(5, .int 0), (0, .ref a_o), (1, .int x1), (2, .int x2), (3, .int x3), (4, .int x4)]) hx hb dX10_two_62 hl (by decide) rfl (fun ls hl => ?_)
      refine lv_iconst (v := 0) hx hb dX10_two_64 (by decide) ?_
      refine lv_istore (lv' := [(6, .int 0), (5, .int 0), (0, .ref a_o), (1, .int x1), (2, .int x2), (3, .int x3), (4, .int x4)]) hx hb dX10_two_65 hl (by decide) rfl (fun ls hl => ?_)
      obtain ⟨n, h⟩ := h
      refine w_X10_two_67 S hE hT hA hr hlocks n _ _ _ _ _ h hP hD hS (lv_sub hl [2, 3, 4, 5, 6, 1, 0] rfl)
    have h := h.2 hc
    refine lv_aload_n hx hb dX10_two_54 rfl (lv_at hl 0 rfl) ?_
    refine lv_bipush (v := (-6)) hx hb dX10_two_55 (by decide) ?_
    refine rw_i (rwV S hE hT hS hP hD hA (c_X10_no h) [0, 3] rfl (by decide) lkX10_121 rfl ⟨(Nat.le_of_ble_eq_true rfl), (Nat.le_of_ble_eq_true rfl)⟩ 0 rfl rfl hl.1 rfl (Nat.le_of_ble_eq_true rfl) dX10_two_57 ⟨(Nat.zero_le _), (Nat.zero_le _)⟩) hP hD hS hA [0, 3] rfl (by decide) (fun _ => rfl) (fun r57 w57_0 H locs h hP hD hS => ?_)
    try dsimp only at h
    have hP : va_P D vwCl (wX10_two cI cJ cS a_o a_notes a_pitch a_refused z_steps z_kind z_space z_other z_times z_speed z_base z_share z_beats z_held z_sort z_size z_shown z_cells z_carried z_words z_tell z_was z_kept z_cutSpace z_cutTimes z_cutOff z_trace v_stretches v_cars v_tunes v_along v_near v_borne v_tempo v_seed v_fault v_from v_at v_end v_told v_wrongAt v_culprit v_ran v_isKept f_notes f_pitch w57_0) H := hP
    have hD : va_D A (wX10_two cI cJ cS a_o a_notes a_pitch a_refused z_steps z_kind z_space z_other z_times z_speed z_base z_share z_beats z_held z_sort z_size z_shown z_cells z_carried z_words z_tell z_was z_kept z_cutSpace z_cutTimes z_cutOff z_trace v_stretches v_cars v_tunes v_along v_near v_borne v_tempo v_seed v_fault v_from v_at v_end v_told v_wrongAt v_culprit v_ran v_isKept f_notes f_pitch w57_0) := hD
    exact W.iret hx hb hr (fun t ht _ => ⟨⟨_, w57_0, rfl, h, hPt hP ht⟩, hS.F ht⟩) hS.2.2 dX10_two_60
  have h := h.1 hc
  refine lv_aload_n hx hb dX10_two_16 rfl (lv_at hl 0 rfl) ?_
  refine lv_iconst (v := (-1)) hx hb dX10_two_17 (by decide) ?_
  refine rw_i (rwV S hE hT hS hP hD hA (c_X10_no h) [0, 3] rfl (by decide) lkX10_121 rfl ⟨(Nat.le_of_ble_eq_true rfl), (Nat.le_of_ble_eq_true rfl)⟩ 0 rfl rfl hl.1 rfl (Nat.le_of_ble_eq_true rfl) dX10_two_18 ⟨(Nat.zero_le _), (Nat.zero_le _)⟩) hP hD hS hA [0, 3] rfl (by decide) (fun _ => rfl) (fun r18 w18_0 H locs h hP hD hS => ?_)
  try dsimp only at h
  have hP : va_P D vwCl (wX10_two cI cJ cS a_o a_notes a_pitch a_refused z_steps z_kind z_space z_other z_times z_speed z_base z_share z_beats z_held z_sort z_size z_shown z_cells z_carried z_words z_tell z_was z_kept z_cutSpace z_cutTimes z_cutOff z_trace v_stretches v_cars v_tunes v_along v_near v_borne v_tempo v_seed v_fault v_from v_at v_end v_told v_wrongAt v_culprit v_ran v_isKept f_notes f_pitch w18_0) H := hP
  have hD : va_D A (wX10_two cI cJ cS a_o a_notes a_pitch a_refused z_steps z_kind z_space z_other z_times z_speed z_base z_share z_beats z_held z_sort z_size z_shown z_cells z_carried z_words z_tell z_was z_kept z_cutSpace z_cutTimes z_cutOff z_trace v_stretches v_cars v_tunes v_along v_near v_borne v_tempo v_seed v_fault v_from v_at v_end v_told v_wrongAt v_culprit v_ran v_isKept f_notes f_pitch w18_0) := hD
  exact W.iret hx hb hr (fun t ht _ => ⟨⟨_, w18_0, rfl, h, hPt hP ht⟩, hS.F ht⟩) hS.2.2 dX10_two_21
/-! X10_scale -/
abbrev wX10_scale (cI cJ cS : ClassId) (a_o a_kind a_other a_refused a_space a_steps : Nat) (z_times z_speed z_base z_share z_notes z_pitch z_beats z_held z_sort z_size z_shown z_cells z_carried z_words z_tell z_was z_kept z_cutSpace z_cutTimes z_cutOff z_trace : Value) (v_stretches : Int32) (v_cars : Int32) (v_tunes : Int32) (v_along : Int32) (v_near : Int32) (v_borne : Int32) (v_tempo : Int32) (v_seed : Int32) (v_fault : Int32) (v_from : Int32) (v_at : Int32) (v_end : Int32) (v_told : Int32) (v_wrongAt : Int32) (v_culprit : Int32) (v_ran : Int32) (v_isKept : Int32) (f_kind : Nat → Int32) (f_other : Nat → Int32) (f_refused : Nat → Int32) (f_space : Nat → Int32) (f_steps : Nat → Int32) : va_W := [(a_o, .inr (9, [.int v_stretches, .int v_cars, .int v_tunes, .int v_along, .int v_near, .int v_borne, .int v_tempo, .int v_seed, .int v_fault, .ref a_refused, .ref a_steps, .ref a_kind, .ref a_space, .ref a_other, z_times, z_speed, z_base, z_share, z_notes, z_pitch, z_beats, z_held, z_sort, z_size, z_shown, z_cells, z_carried, z_words, z_tell, .int v_from, .int v_at, .int v_end, .int v_told, .int v_wrongAt, z_was, z_kept, .int v_culprit, z_cutSpace, z_cutTimes, z_cutOff, z_trace, .int v_ran, .int v_isKept])), (a_kind, .inl (cI, 16, .inl f_kind)), (a_other, .inl (cI, 16, .inl f_other)), (a_refused, .inl (cI, 8, .inl f_refused)), (a_space, .inl (cI, 16, .inl f_space)), (a_steps, .inl (cI, 12, .inl f_steps))]
def L_X10_scale_68 (k85 : Int32 → Prop) : Nat → Int32 → Prop
  | 0, _ => False
  | n68 + 1, x4 => ((x4 ≤ 1999 → k85 x4) ∧ (¬ x4 ≤ 1999 → (∀ x4_80 : Int32, x4_80 = x4 / 2 → L_X10_scale_68 k85 n68 x4_80)))
def F_X10_scale_163 (k105 : Int32 → Int32 → Int32 → Prop) (x4 : Int32) (x5 : Int32) (x6 : Int32) (x7 : Int32) (f_refused : Nat → Int32) : Prop := (∀ x7_163 : Int32, x7_163 = x7 + 1 → k105 x5 x6 x7_163)
def F_X10_scale_155 (k105 : Int32 → Int32 → Int32 → Prop) (x4 : Int32) (x7 : Int32) (x8 : Int32) (f_refused : Nat → Int32) : Prop := F_X10_scale_163 k105 x4 x7 x8 x7 f_refused
def F_X10_scale_137 (k105 : Int32 → Int32 → Int32 → Prop) (x4 : Int32) (x5 : Int32) (x6 : Int32) (x7 : Int32) (f_refused : Nat → Int32) (s0 : Int32) : Prop := ((x5 = (-1) → F_X10_scale_155 k105 x4 x7 s0 f_refused) ∧ (¬ x5 = (-1) → ((s0 < x6 → F_X10_scale_155 k105 x4 x7 s0 f_refused) ∧ (¬ s0 < x6 → F_X10_scale_163 k105 x4 x5 x6 x7 f_refused))))
def L_X10_scale_105 (f_steps : Nat → Int32) (x4 : Int32) (f_refused : Nat → Int32) (post : Int32 → (Nat → Int32) → Prop) : Nat → Int32 → Int32 → Int32 → Prop
  | 0, _, _, _ => False
  | n105 + 1, x5, x6, x7 => ((12 ≤ x7 → post x5 f_refused) ∧ (¬ 12 ≤ x7 → (vp_in x7 12 ∧ (∀ x8_122 : Int32, x8_122 = (f_steps x7.toNatClampNeg) - x4 → ((0 ≤ x8_122 → F_X10_scale_137 (fun x5 x6 x7 => L_X10_scale_105 f_steps x4 f_refused post n105 x5 x6 x7) x4 x5 x6 x7 f_refused x8_122) ∧ (¬ 0 ≤ x8_122 → F_X10_scale_137 (fun x5 x6 x7 => L_X10_scale_105 f_steps x4 f_refused post n105 x5 x6 x7) x4 x5 x6 x7 f_refused (-x8_122)))))))
def L_X10_scale_85 (f_steps : Nat → Int32) (x5 : Int32) (x6 : Int32) (f_refused : Nat → Int32) (post : Int32 → (Nat → Int32) → Prop) : Nat → Int32 → Prop
  | 0, _ => False
  | n85 + 1, x4 => ((1000 ≤ x4 → (∃ n105 : Nat, L_X10_scale_105 f_steps x4 f_refused post n105 x5 x6 0)) ∧ (¬ 1000 ≤ x4 → (∀ x4_97 : Int32, x4_97 = x4 * 2 → L_X10_scale_85 f_steps x5 x6 f_refused post n85 x4_97)))
def F_X10_scale (v_stretches : Int32) (f_kind : Nat → Int32) (f_other : Nat → Int32) (f_refused : Nat → Int32) (f_space : Nat → Int32) (f_steps : Nat → Int32) (x1 : Int32) (x2 : Int32) (x3 : Int32) (post : Int32 → (Nat → Int32) → Prop) : Prop := (F_X10_isStretch v_stretches x1 (fun r2 => ((r2 = 0 → (F_X10_noTen f_refused (-1) (fun r10 w10_0 => post r10 w10_0))) ∧ (¬ r2 = 0 → (F_X10_isSpeed x2 (fun r16 => ((r16 = 0 → (F_X10_noTen f_refused (-6) (fun r37 w37_0 => post r37 w37_0))) ∧ (¬ r16 = 0 → ((x3 < 1 → (F_X10_noTen f_refused (-6) (fun r37 w37_0 => post r37 w37_0))) ∧ (¬ x3 < 1 → ((x3 ≤ 9999 → (F_X10_humOf f_kind f_other f_space x1 x2 (fun r44 => (¬ x3 = 0 ∧ (∀ x4_53 : Int32, x4_53 = (r44 * 1000) / x3 → ((x4_53 = 0 → post (-1) f_refused) ∧ (¬ x4_53 = 0 → (∃ n68 : Nat, L_X10_scale_68 (fun x4_1 => (∃ n85 : Nat, L_X10_scale_85 f_steps (-1) 0 f_refused post n85 x4_1)) n68 x4_53)))))))) ∧ (¬ x3 ≤ 9999 → (F_X10_noTen f_refused (-6) (fun r37 w37_0 => post r37 w37_0))))))))))))))
set_option maxHeartbeats 4000000 in
set_option maxRecDepth 100000 in
theorem w_X10_scale_68 {l : Launch} {D : va_G} {cI cJ cS : ClassId} {ad adK : Nat → Nat} {a_o a_kind a_other a_refused a_space a_steps : Nat} {z_times z_speed z_base z_share z_notes z_pitch z_beats z_held z_sort z_size z_shown z_cells z_carried z_words z_tell z_was z_kept z_cutSpace z_cutTimes z_cutOff z_trace : Value} {v_stretches : Int32} {v_cars : Int32} {v_tunes : Int32} {v_along : Int32} {v_near : Int32} {v_borne : Int32} {v_tempo : Int32} {v_seed : Int32} {v_fault : Int32} {v_from : Int32} {v_at : Int32} {v_end : Int32} {v_told : Int32} {v_wrongAt : Int32} {v_culprit : Int32} {v_ran : Int32} {v_isKept : Int32} {f_kind : Nat → Int32} {f_other : Nat → Int32} {f_refused : Nat → Int32} {f_space : Nat → Int32} {f_steps : Nat → Int32} {x5 : Int32} {x6 : Int32} {post : Int32 → (Nat → Int32) → Prop} {k85 : Int32 → Prop} {p : Program} {e : Env} {s : State} {m : MethodId} {args : Array Value} {below : List Frame} {meth : Method} {c : Code} {A : Nat → Prop} (S : CallFix p m c cX10_scale 9 s args GW "RoadThatSingsModel") (hE : EN D cI cJ cS s) (hT : ST ad adK A s s.heap) (hA : ∀ q : Nat, s.heap.size ≤ q → A q) (hr : meth.sig.returnType = (some (.int))) (hlocks : meth.locks = false) (hk85 : ∀ (x4 : Int32) (H : Heap) (locs : List Loc) (ls : Array Slot), k85 x4 → va_P D vwCl (wX10_scale cI cJ cS a_o a_kind a_other a_refused a_space a_steps z_times z_speed z_base z_share z_notes z_pitch z_beats z_held z_sort z_size z_shown z_cells z_carried z_words z_tell z_was z_kept z_cutSpace z_cutTimes z_cutOff z_trace v_stretches v_cars v_tunes v_along v_near v_borne v_tempo v_seed v_fault v_from v_at v_end v_told v_wrongAt v_culprit v_ran v_isKept f_kind f_other f_refused f_space f_steps) H → va_D A (wX10_scale cI cJ cS a_o a_kind a_other a_refused a_space a_steps z_times z_speed z_base z_share z_notes z_pitch z_beats z_held z_sort z_size z_shown z_cells z_carried z_words z_tell z_was z_kept z_cutSpace z_cutTimes z_cutOff z_trace v_stretches v_cars v_tunes v_along v_near v_borne v_tempo v_seed v_fault v_from v_at v_end v_told v_wrongAt v_culprit v_ran v_isKept f_kind f_other f_refused f_space f_steps) → va_S A s.heap H locs → lv_has ls 9 [(0, .ref a_o), (4, .int x4), (5, .int x5), (6, .int x6)] → W p l e (rmd 2 0 0) s m args below meth c H locs 0 0 (MQ below (va_Qi (fun r (u : (Nat → Int32)) => post r u) (fun u t => va_P D vwCl (wX10_scale cI cJ cS a_o a_kind a_other a_refused a_space a_steps z_times z_speed z_base z_share z_notes z_pitch z_beats z_held z_sort z_size z_shown z_cells z_carried z_words z_tell z_was z_kept z_cutSpace z_cutTimes z_cutOff z_trace v_stretches v_cars v_tunes v_along v_near v_borne v_tempo v_seed v_fault v_from v_at v_end v_told v_wrongAt v_culprit v_ran v_isKept f_kind f_other u f_space f_steps) t.heap) A) args s 0 0 A) (F0 m 85 ls [])) : ∀ n : Nat, ∀ (x4 : Int32) (H : Heap) (locs : List Loc) (ls : Array Slot), L_X10_scale_68 k85 n x4 → va_P D vwCl (wX10_scale cI cJ cS a_o a_kind a_other a_refused a_space a_steps z_times z_speed z_base z_share z_notes z_pitch z_beats z_held z_sort z_size z_shown z_cells z_carried z_words z_tell z_was z_kept z_cutSpace z_cutTimes z_cutOff z_trace v_stretches v_cars v_tunes v_along v_near v_borne v_tempo v_seed v_fault v_from v_at v_end v_told v_wrongAt v_culprit v_ran v_isKept f_kind f_other f_refused f_space f_steps) H → va_D A (wX10_scale cI cJ cS a_o a_kind a_other a_refused a_space a_steps z_times z_speed z_base z_share z_notes z_pitch z_beats z_held z_sort z_size z_shown z_cells z_carried z_words z_tell z_was z_kept z_cutSpace z_cutTimes z_cutOff z_trace v_stretches v_cars v_tunes v_along v_near v_borne v_tempo v_seed v_fault v_from v_at v_end v_told v_wrongAt v_culprit v_ran v_isKept f_kind f_other f_refused f_space f_steps) → va_S A s.heap H locs → lv_has ls 9 [(0, .ref a_o), (4, .int x4), (5, .int x5), (6, .int x6)] → W p l e (rmd 2 0 0) s m args below meth c H locs 0 0 (MQ below (va_Qi (fun r (u : (Nat → Int32)) => post r u) (fun u t => va_P D vwCl (wX10_scale cI cJ cS a_o a_kind a_other a_refused a_space a_steps z_times z_speed z_base z_share z_notes z_pitch z_beats z_held z_sort z_size z_shown z_cells z_carried z_words z_tell z_was z_kept z_cutSpace z_cutTimes z_cutOff z_trace v_stretches v_cars v_tunes v_along v_near v_borne v_tempo v_seed v_fault v_from v_at v_end v_told v_wrongAt v_culprit v_ran v_isKept f_kind f_other u f_space f_steps) t.heap) A) args s 0 0 A) (F0 m 68 ls []) := by
  intro n
  induction n with
  | zero =>
    intro x4 H locs ls h hP hD hS hl
    exact h.elim
  | succ n ih =>
    intro x4 H locs ls h hP hD hS hl
    rw [L_X10_scale_68] at h
    have hx := S.1
    have hb := S.2.1
    refine lv_iload hx hb dX10_scale_68 (lv_at hl 1 rfl) ?_
    refine lv_sipush (v := 1999) hx hb dX10_scale_70 (by decide) ?_
    refine lv_icmp_le (tgt := 85) hx hb dX10_scale_73 (by decide) (fun hc => ?_) (fun hc => ?_)
    · have h := h.1 hc
      exact hk85 _ _ _ _ h hP hD hS (lv_sub hl [0, 1, 2, 3] rfl)
    have h := h.2 hc
    refine lv_iload hx hb dX10_scale_76 (lv_at hl 1 rfl) ?_
    refine lv_iconst (v := 2) hx hb dX10_scale_78 (by decide) ?_
    refine lv_idiv hx hb dX10_scale_79 (by decide) ?_
    refine lv_topi (fun x4_80 ex4_80 => ?_)
    have h := h _ ex4_80
    refine lv_istore (lv' := [(4, .int x4_80), (0, .ref a_o), (5, .int x5), (6, .int x6)]) hx hb dX10_scale_80 hl (by decide) rfl (fun ls hl => ?_)
    refine lv_goto (tgt := 68) hx hb dX10_scale_82 (by decide) ?_
    exact ih _ _ _ _ h hP hD hS (lv_sub hl [1, 0, 2, 3] rfl)
set_option maxHeartbeats 4000000 in
set_option maxRecDepth 100000 in
theorem w_X10_scale_163 {l : Launch} {D : va_G} {cI cJ cS : ClassId} {ad adK : Nat → Nat} {a_o a_kind a_other a_refused a_space a_steps : Nat} {z_times z_speed z_base z_share z_notes z_pitch z_beats z_held z_sort z_size z_shown z_cells z_carried z_words z_tell z_was z_kept z_cutSpace z_cutTimes z_cutOff z_trace : Value} {v_stretches : Int32} {v_cars : Int32} {v_tunes : Int32} {v_along : Int32} {v_near : Int32} {v_borne : Int32} {v_tempo : Int32} {v_seed : Int32} {v_fault : Int32} {v_from : Int32} {v_at : Int32} {v_end : Int32} {v_told : Int32} {v_wrongAt : Int32} {v_culprit : Int32} {v_ran : Int32} {v_isKept : Int32} {f_kind : Nat → Int32} {f_other : Nat → Int32} {f_refused : Nat → Int32} {f_space : Nat → Int32} {f_steps : Nat → Int32} {x4 : Int32} {x5 : Int32} {x6 : Int32} {x7 : Int32} {post : Int32 → (Nat → Int32) → Prop} {k105 : Int32 → Int32 → Int32 → Prop} {p : Program} {e : Env} {s : State} {m : MethodId} {args : Array Value} {below : List Frame} {meth : Method} {c : Code} {A : Nat → Prop} (S : CallFix p m c cX10_scale 9 s args GW "RoadThatSingsModel") (hE : EN D cI cJ cS s) (hT : ST ad adK A s s.heap) (hA : ∀ q : Nat, s.heap.size ≤ q → A q) (hr : meth.sig.returnType = (some (.int))) (hlocks : meth.locks = false) (hk105 : ∀ (x5 : Int32) (x6 : Int32) (x7 : Int32) (H : Heap) (locs : List Loc) (ls : Array Slot), k105 x5 x6 x7 → va_P D vwCl (wX10_scale cI cJ cS a_o a_kind a_other a_refused a_space a_steps z_times z_speed z_base z_share z_notes z_pitch z_beats z_held z_sort z_size z_shown z_cells z_carried z_words z_tell z_was z_kept z_cutSpace z_cutTimes z_cutOff z_trace v_stretches v_cars v_tunes v_along v_near v_borne v_tempo v_seed v_fault v_from v_at v_end v_told v_wrongAt v_culprit v_ran v_isKept f_kind f_other f_refused f_space f_steps) H → va_D A (wX10_scale cI cJ cS a_o a_kind a_other a_refused a_space a_steps z_times z_speed z_base z_share z_notes z_pitch z_beats z_held z_sort z_size z_shown z_cells z_carried z_words z_tell z_was z_kept z_cutSpace z_cutTimes z_cutOff z_trace v_stretches v_cars v_tunes v_along v_near v_borne v_tempo v_seed v_fault v_from v_at v_end v_told v_wrongAt v_culprit v_ran v_isKept f_kind f_other f_refused f_space f_steps) → va_S A s.heap H locs → lv_has ls 9 [(0, .ref a_o), (4, .int x4), (5, .int x5), (6, .int x6), (7, .int x7)] → W p l e (rmd 2 0 0) s m args below meth c H locs 0 0 (MQ below (va_Qi (fun r (u : (Nat → Int32)) => post r u) (fun u t => va_P D vwCl (wX10_scale cI cJ cS a_o a_kind a_other a_refused a_space a_steps z_times z_speed z_base z_share z_notes z_pitch z_beats z_held z_sort z_size z_shown z_cells z_carried z_words z_tell z_was z_kept z_cutSpace z_cutTimes z_cutOff z_trace v_stretches v_cars v_tunes v_along v_near v_borne v_tempo v_seed v_fault v_from v_at v_end v_told v_wrongAt v_culprit v_ran v_isKept f_kind f_other u f_space f_steps) t.heap) A) args s 0 0 A) (F0 m 105 ls [])) : ∀ (H : Heap) (locs : List Loc) (ls : Array Slot), F_X10_scale_163 k105 x4 x5 x6 x7 f_refused → va_P D vwCl (wX10_scale cI cJ cS a_o a_kind a_other a_refused a_space a_steps z_times z_speed z_base z_share z_notes z_pitch z_beats z_held z_sort z_size z_shown z_cells z_carried z_words z_tell z_was z_kept z_cutSpace z_cutTimes z_cutOff z_trace v_stretches v_cars v_tunes v_along v_near v_borne v_tempo v_seed v_fault v_from v_at v_end v_told v_wrongAt v_culprit v_ran v_isKept f_kind f_other f_refused f_space f_steps) H → va_D A (wX10_scale cI cJ cS a_o a_kind a_other a_refused a_space a_steps z_times z_speed z_base z_share z_notes z_pitch z_beats z_held z_sort z_size z_shown z_cells z_carried z_words z_tell z_was z_kept z_cutSpace z_cutTimes z_cutOff z_trace v_stretches v_cars v_tunes v_along v_near v_borne v_tempo v_seed v_fault v_from v_at v_end v_told v_wrongAt v_culprit v_ran v_isKept f_kind f_other f_refused f_space f_steps) → va_S A s.heap H locs → lv_has ls 9 [(0, .ref a_o), (4, .int x4), (5, .int x5), (6, .int x6), (7, .int x7)] → W p l e (rmd 2 0 0) s m args below meth c H locs 0 0 (MQ below (va_Qi (fun r (u : (Nat → Int32)) => post r u) (fun u t => va_P D vwCl (wX10_scale cI cJ cS a_o a_kind a_other a_refused a_space a_steps z_times z_speed z_base z_share z_notes z_pitch z_beats z_held z_sort z_size z_shown z_cells z_carried z_words z_tell z_was z_kept z_cutSpace z_cutTimes z_cutOff z_trace v_stretches v_cars v_tunes v_along v_near v_borne v_tempo v_seed v_fault v_from v_at v_end v_told v_wrongAt v_culprit v_ran v_isKept f_kind f_other u f_space f_steps) t.heap) A) args s 0 0 A) (F0 m 163 ls []) := by
  intro  H locs ls h hP hD hS hl
  unfold F_X10_scale_163 at h
  have hx := S.1
  have hb := S.2.1
  obtain ⟨x7_163, ex7_163⟩ : ∃ z : Int32, z = x7 + 1 := ⟨_, rfl⟩
  have h := h _ ex7_163
  refine lv_iinc (v := x7_163) (lv' := [(7, .int x7_163), (0, .ref a_o), (4, .int x4), (5, .int x5), (6, .int x6)]) hx hb dX10_scale_163 hl (k := 4) rfl (by rw [ex7_163]; rfl) (by decide) rfl (fun ls hl => ?_)
  refine lv_goto (tgt := 105) hx hb dX10_scale_166 (by decide) ?_
  exact hk105 _ _ _ _ _ _ h hP hD hS (lv_sub hl [1, 2, 3, 4, 0] rfl)
set_option maxHeartbeats 4000000 in
set_option maxRecDepth 100000 in
theorem w_X10_scale_155 {l : Launch} {D : va_G} {cI cJ cS : ClassId} {ad adK : Nat → Nat} {a_o a_kind a_other a_refused a_space a_steps : Nat} {z_times z_speed z_base z_share z_notes z_pitch z_beats z_held z_sort z_size z_shown z_cells z_carried z_words z_tell z_was z_kept z_cutSpace z_cutTimes z_cutOff z_trace : Value} {v_stretches : Int32} {v_cars : Int32} {v_tunes : Int32} {v_along : Int32} {v_near : Int32} {v_borne : Int32} {v_tempo : Int32} {v_seed : Int32} {v_fault : Int32} {v_from : Int32} {v_at : Int32} {v_end : Int32} {v_told : Int32} {v_wrongAt : Int32} {v_culprit : Int32} {v_ran : Int32} {v_isKept : Int32} {f_kind : Nat → Int32} {f_other : Nat → Int32} {f_refused : Nat → Int32} {f_space : Nat → Int32} {f_steps : Nat → Int32} {x4 : Int32} {x7 : Int32} {x8 : Int32} {post : Int32 → (Nat → Int32) → Prop} {k105 : Int32 → Int32 → Int32 → Prop} {p : Program} {e : Env} {s : State} {m : MethodId} {args : Array Value} {below : List Frame} {meth : Method} {c : Code} {A : Nat → Prop} (S : CallFix p m c cX10_scale 9 s args GW "RoadThatSingsModel") (hE : EN D cI cJ cS s) (hT : ST ad adK A s s.heap) (hA : ∀ q : Nat, s.heap.size ≤ q → A q) (hr : meth.sig.returnType = (some (.int))) (hlocks : meth.locks = false) (hk105 : ∀ (x5 : Int32) (x6 : Int32) (x7 : Int32) (H : Heap) (locs : List Loc) (ls : Array Slot), k105 x5 x6 x7 → va_P D vwCl (wX10_scale cI cJ cS a_o a_kind a_other a_refused a_space a_steps z_times z_speed z_base z_share z_notes z_pitch z_beats z_held z_sort z_size z_shown z_cells z_carried z_words z_tell z_was z_kept z_cutSpace z_cutTimes z_cutOff z_trace v_stretches v_cars v_tunes v_along v_near v_borne v_tempo v_seed v_fault v_from v_at v_end v_told v_wrongAt v_culprit v_ran v_isKept f_kind f_other f_refused f_space f_steps) H → va_D A (wX10_scale cI cJ cS a_o a_kind a_other a_refused a_space a_steps z_times z_speed z_base z_share z_notes z_pitch z_beats z_held z_sort z_size z_shown z_cells z_carried z_words z_tell z_was z_kept z_cutSpace z_cutTimes z_cutOff z_trace v_stretches v_cars v_tunes v_along v_near v_borne v_tempo v_seed v_fault v_from v_at v_end v_told v_wrongAt v_culprit v_ran v_isKept f_kind f_other f_refused f_space f_steps) → va_S A s.heap H locs → lv_has ls 9 [(0, .ref a_o), (4, .int x4), (5, .int x5), (6, .int x6), (7, .int x7)] → W p l e (rmd 2 0 0) s m args below meth c H locs 0 0 (MQ below (va_Qi (fun r (u : (Nat → Int32)) => post r u) (fun u t => va_P D vwCl (wX10_scale cI cJ cS a_o a_kind a_other a_refused a_space a_steps z_times z_speed z_base z_share z_notes z_pitch z_beats z_held z_sort z_size z_shown z_cells z_carried z_words z_tell z_was z_kept z_cutSpace z_cutTimes z_cutOff z_trace v_stretches v_cars v_tunes v_along v_near v_borne v_tempo v_seed v_fault v_from v_at v_end v_told v_wrongAt v_culprit v_ran v_isKept f_kind f_other u f_space f_steps) t.heap) A) args s 0 0 A) (F0 m 105 ls [])) : ∀ (H : Heap) (locs : List Loc) (ls : Array Slot), F_X10_scale_155 k105 x4 x7 x8 f_refused → va_P D vwCl (wX10_scale cI cJ cS a_o a_kind a_other a_refused a_space a_steps z_times z_speed z_base z_share z_notes z_pitch z_beats z_held z_sort z_size z_shown z_cells z_carried z_words z_tell z_was z_kept z_cutSpace z_cutTimes z_cutOff z_trace v_stretches v_cars v_tunes v_along v_near v_borne v_tempo v_seed v_fault v_from v_at v_end v_told v_wrongAt v_culprit v_ran v_isKept f_kind f_other f_refused f_space f_steps) H → va_D A (wX10_scale cI cJ cS a_o a_kind a_other a_refused a_space a_steps z_times z_speed z_base z_share z_notes z_pitch z_beats z_held z_sort z_size z_shown z_cells z_carried z_words z_tell z_was z_kept z_cutSpace z_cutTimes z_cutOff z_trace v_stretches v_cars v_tunes v_along v_near v_borne v_tempo v_seed v_fault v_from v_at v_end v_told v_wrongAt v_culprit v_ran v_isKept f_kind f_other f_refused f_space f_steps) → va_S A s.heap H locs → lv_has ls 9 [(0, .ref a_o), (4, .int x4), (7, .int x7), (8, .int x8)] → W p l e (rmd 2 0 0) s m args below meth c H locs 0 0 (MQ below (va_Qi (fun r (u : (Nat → Int32)) => post r u) (fun u t => va_P D vwCl (wX10_scale cI cJ cS a_o a_kind a_other a_refused a_space a_steps z_times z_speed z_base z_share z_notes z_pitch z_beats z_held z_sort z_size z_shown z_cells z_carried z_words z_tell z_was z_kept z_cutSpace z_cutTimes z_cutOff z_trace v_stretches v_cars v_tunes v_along v_near v_borne v_tempo v_seed v_fault v_from v_at v_end v_told v_wrongAt v_culprit v_ran v_isKept f_kind f_other u f_space f_steps) t.heap) A) args s 0 0 A) (F0 m 155 ls []) := by
  intro  H locs ls h hP hD hS hl
  unfold F_X10_scale_155 at h
  have hx := S.1
  have hb := S.2.1
  refine lv_iload hx hb dX10_scale_155 (lv_at hl 2 rfl) ?_
  refine lv_istore (lv' := [(5, .int x7), (0, .ref a_o), (4, .int x4), (7, .int x7), (8, .int x8)]) hx hb dX10_scale_157 hl (by decide) rfl (fun ls hl => ?_)
  refine lv_iload hx hb dX10_scale_159 (lv_at hl 4 rfl) ?_
  refine lv_istore (lv' := [(6, .int x8), (5, .int x7), (0, .ref a_o), (4, .int x4), (7, .int x7), (8, .int x8)]) hx hb dX10_scale_161 hl (by decide) rfl (fun ls hl => ?_)
  refine w_X10_scale_163 S hE hT hA hr hlocks hk105 _ _ _ h hP hD hS (lv_sub hl [2, 3, 1, 0, 4] rfl)
set_option maxHeartbeats 4000000 in
set_option maxRecDepth 100000 in
theorem w_X10_scale_137 {l : Launch} {D : va_G} {cI cJ cS : ClassId} {ad adK : Nat → Nat} {a_o a_kind a_other a_refused a_space a_steps : Nat} {z_times z_speed z_base z_share z_notes z_pitch z_beats z_held z_sort z_size z_shown z_cells z_carried z_words z_tell z_was z_kept z_cutSpace z_cutTimes z_cutOff z_trace : Value} {v_stretches : Int32} {v_cars : Int32} {v_tunes : Int32} {v_along : Int32} {v_near : Int32} {v_borne : Int32} {v_tempo : Int32} {v_seed : Int32} {v_fault : Int32} {v_from : Int32} {v_at : Int32} {v_end : Int32} {v_told : Int32} {v_wrongAt : Int32} {v_culprit : Int32} {v_ran : Int32} {v_isKept : Int32} {f_kind : Nat → Int32} {f_other : Nat → Int32} {f_refused : Nat → Int32} {f_space : Nat → Int32} {f_steps : Nat → Int32} {x4 : Int32} {x5 : Int32} {x6 : Int32} {x7 : Int32} {s0 : Int32} {post : Int32 → (Nat → Int32) → Prop} {k105 : Int32 → Int32 → Int32 → Prop} {p : Program} {e : Env} {s : State} {m : MethodId} {args : Array Value} {below : List Frame} {meth : Method} {c : Code} {A : Nat → Prop} (S : CallFix p m c cX10_scale 9 s args GW "RoadThatSingsModel") (hE : EN D cI cJ cS s) (hT : ST ad adK A s s.heap) (hA : ∀ q : Nat, s.heap.size ≤ q → A q) (hr : meth.sig.returnType = (some (.int))) (hlocks : meth.locks = false) (hk105 : ∀ (x5 : Int32) (x6 : Int32) (x7 : Int32) (H : Heap) (locs : List Loc) (ls : Array Slot), k105 x5 x6 x7 → va_P D vwCl (wX10_scale cI cJ cS a_o a_kind a_other a_refused a_space a_steps z_times z_speed z_base z_share z_notes z_pitch z_beats z_held z_sort z_size z_shown z_cells z_carried z_words z_tell z_was z_kept z_cutSpace z_cutTimes z_cutOff z_trace v_stretches v_cars v_tunes v_along v_near v_borne v_tempo v_seed v_fault v_from v_at v_end v_told v_wrongAt v_culprit v_ran v_isKept f_kind f_other f_refused f_space f_steps) H → va_D A (wX10_scale cI cJ cS a_o a_kind a_other a_refused a_space a_steps z_times z_speed z_base z_share z_notes z_pitch z_beats z_held z_sort z_size z_shown z_cells z_carried z_words z_tell z_was z_kept z_cutSpace z_cutTimes z_cutOff z_trace v_stretches v_cars v_tunes v_along v_near v_borne v_tempo v_seed v_fault v_from v_at v_end v_told v_wrongAt v_culprit v_ran v_isKept f_kind f_other f_refused f_space f_steps) → va_S A s.heap H locs → lv_has ls 9 [(0, .ref a_o), (4, .int x4), (5, .int x5), (6, .int x6), (7, .int x7)] → W p l e (rmd 2 0 0) s m args below meth c H locs 0 0 (MQ below (va_Qi (fun r (u : (Nat → Int32)) => post r u) (fun u t => va_P D vwCl (wX10_scale cI cJ cS a_o a_kind a_other a_refused a_space a_steps z_times z_speed z_base z_share z_notes z_pitch z_beats z_held z_sort z_size z_shown z_cells z_carried z_words z_tell z_was z_kept z_cutSpace z_cutTimes z_cutOff z_trace v_stretches v_cars v_tunes v_along v_near v_borne v_tempo v_seed v_fault v_from v_at v_end v_told v_wrongAt v_culprit v_ran v_isKept f_kind f_other u f_space f_steps) t.heap) A) args s 0 0 A) (F0 m 105 ls [])) : ∀ (H : Heap) (locs : List Loc) (ls : Array Slot), F_X10_scale_137 k105 x4 x5 x6 x7 f_refused s0 → va_P D vwCl (wX10_scale cI cJ cS a_o a_kind a_other a_refused a_space a_steps z_times z_speed z_base z_share z_notes z_pitch z_beats z_held z_sort z_size z_shown z_cells z_carried z_words z_tell z_was z_kept z_cutSpace z_cutTimes z_cutOff z_trace v_stretches v_cars v_tunes v_along v_near v_borne v_tempo v_seed v_fault v_from v_at v_end v_told v_wrongAt v_culprit v_ran v_isKept f_kind f_other f_refused f_space f_steps) H → va_D A (wX10_scale cI cJ cS a_o a_kind a_other a_refused a_space a_steps z_times z_speed z_base z_share z_notes z_pitch z_beats z_held z_sort z_size z_shown z_cells z_carried z_words z_tell z_was z_kept z_cutSpace z_cutTimes z_cutOff z_trace v_stretches v_cars v_tunes v_along v_near v_borne v_tempo v_seed v_fault v_from v_at v_end v_told v_wrongAt v_culprit v_ran v_isKept f_kind f_other f_refused f_space f_steps) → va_S A s.heap H locs → lv_has ls 9 [(0, .ref a_o), (4, .int x4), (5, .int x5), (6, .int x6), (7, .int x7)] → W p l e (rmd 2 0 0) s m args below meth c H locs 0 0 (MQ below (va_Qi (fun r (u : (Nat → Int32)) => post r u) (fun u t => va_P D vwCl (wX10_scale cI cJ cS a_o a_kind a_other a_refused a_space a_steps z_times z_speed z_base z_share z_notes z_pitch z_beats z_held z_sort z_size z_shown z_cells z_carried z_words z_tell z_was z_kept z_cutSpace z_cutTimes z_cutOff z_trace v_stretches v_cars v_tunes v_along v_near v_borne v_tempo v_seed v_fault v_from v_at v_end v_told v_wrongAt v_culprit v_ran v_isKept f_kind f_other u f_space f_steps) t.heap) A) args s 0 0 A) (F0 m 137 ls [.int s0]) := by
  intro  H locs ls h hP hD hS hl
  unfold F_X10_scale_137 at h
  have hx := S.1
  have hb := S.2.1
  refine lv_istore (lv' := [(8, .int s0), (0, .ref a_o), (4, .int x4), (5, .int x5), (6, .int x6), (7, .int x7)]) hx hb dX10_scale_137 hl (by decide) rfl (fun ls hl => ?_)
  refine lv_iload hx hb dX10_scale_139 (lv_at hl 3 rfl) ?_
  refine lv_iconst (v := (-1)) hx hb dX10_scale_141 (by decide) ?_
  refine lv_icmp_eq (tgt := 155) hx hb dX10_scale_142 (by decide) (fun hc => ?_) (fun hc => ?_)
  · have h := h.1 hc
    refine w_X10_scale_155 S hE hT hA hr hlocks hk105 _ _ _ h hP hD hS (lv_sub hl [1, 2, 5, 0] rfl)
  have h := h.2 hc
  refine lv_iload hx hb dX10_scale_145 (lv_at hl 0 rfl) ?_
  refine lv_iload hx hb dX10_scale_147 (lv_at hl 4 rfl) ?_
  refine lv_icmp_lt (tgt := 155) hx hb dX10_scale_149 (by decide) (fun hc => ?_) (fun hc => ?_)
  · have h := h.1 hc
    refine w_X10_scale_155 S hE hT hA hr hlocks hk105 _ _ _ h hP hD hS (lv_sub hl [1, 2, 5, 0] rfl)
  have h := h.2 hc
  refine lv_goto (tgt := 163) hx hb dX10_scale_152 (by decide) ?_
  refine w_X10_scale_163 S hE hT hA hr hlocks hk105 _ _ _ h hP hD hS (lv_sub hl [1, 2, 3, 4, 5] rfl)
set_option maxHeartbeats 4000000 in
set_option maxRecDepth 100000 in
theorem w_X10_scale_105 {l : Launch} {D : va_G} {cI cJ cS : ClassId} {ad adK : Nat → Nat} {a_o a_kind a_other a_refused a_space a_steps : Nat} {z_times z_speed z_base z_share z_notes z_pitch z_beats z_held z_sort z_size z_shown z_cells z_carried z_words z_tell z_was z_kept z_cutSpace z_cutTimes z_cutOff z_trace : Value} {v_stretches : Int32} {v_cars : Int32} {v_tunes : Int32} {v_along : Int32} {v_near : Int32} {v_borne : Int32} {v_tempo : Int32} {v_seed : Int32} {v_fault : Int32} {v_from : Int32} {v_at : Int32} {v_end : Int32} {v_told : Int32} {v_wrongAt : Int32} {v_culprit : Int32} {v_ran : Int32} {v_isKept : Int32} {f_kind : Nat → Int32} {f_other : Nat → Int32} {f_refused : Nat → Int32} {f_space : Nat → Int32} {f_steps : Nat → Int32} {x4 : Int32} {post : Int32 → (Nat → Int32) → Prop} {p : Program} {e : Env} {s : State} {m : MethodId} {args : Array Value} {below : List Frame} {meth : Method} {c : Code} {A : Nat → Prop} (S : CallFix p m c cX10_scale 9 s args GW "RoadThatSingsModel") (hE : EN D cI cJ cS s) (hT : ST ad adK A s s.heap) (hA : ∀ q : Nat, s.heap.size ≤ q → A q) (hr : meth.sig.returnType = (some (.int))) (hlocks : meth.locks = false) : ∀ n : Nat, ∀ (x5 : Int32) (x6 : Int32) (x7 : Int32) (H : Heap) (locs : List Loc) (ls : Array Slot), L_X10_scale_105 f_steps x4 f_refused post n x5 x6 x7 → va_P D vwCl (wX10_scale cI cJ cS a_o a_kind a_other a_refused a_space a_steps z_times z_speed z_base z_share z_notes z_pitch z_beats z_held z_sort z_size z_shown z_cells z_carried z_words z_tell z_was z_kept z_cutSpace z_cutTimes z_cutOff z_trace v_stretches v_cars v_tunes v_along v_near v_borne v_tempo v_seed v_fault v_from v_at v_end v_told v_wrongAt v_culprit v_ran v_isKept f_kind f_other f_refused f_space f_steps) H → va_D A (wX10_scale cI cJ cS a_o a_kind a_other a_refused a_space a_steps z_times z_speed z_base z_share z_notes z_pitch z_beats z_held z_sort z_size z_shown z_cells z_carried z_words z_tell z_was z_kept z_cutSpace z_cutTimes z_cutOff z_trace v_stretches v_cars v_tunes v_along v_near v_borne v_tempo v_seed v_fault v_from v_at v_end v_told v_wrongAt v_culprit v_ran v_isKept f_kind f_other f_refused f_space f_steps) → va_S A s.heap H locs → lv_has ls 9 [(0, .ref a_o), (4, .int x4), (5, .int x5), (6, .int x6), (7, .int x7)] → W p l e (rmd 2 0 0) s m args below meth c H locs 0 0 (MQ below (va_Qi (fun r (u : (Nat → Int32)) => post r u) (fun u t => va_P D vwCl (wX10_scale cI cJ cS a_o a_kind a_other a_refused a_space a_steps z_times z_speed z_base z_share z_notes z_pitch z_beats z_held z_sort z_size z_shown z_cells z_carried z_words z_tell z_was z_kept z_cutSpace z_cutTimes z_cutOff z_trace v_stretches v_cars v_tunes v_along v_near v_borne v_tempo v_seed v_fault v_from v_at v_end v_told v_wrongAt v_culprit v_ran v_isKept f_kind f_other u f_space f_steps) t.heap) A) args s 0 0 A) (F0 m 105 ls []) := by
  intro n
  induction n with
  | zero =>
    intro x5 x6 x7 H locs ls h hP hD hS hl
    exact h.elim
  | succ n ih =>
    intro x5 x6 x7 H locs ls h hP hD hS hl
    rw [L_X10_scale_105] at h
    have hx := S.1
    have hb := S.2.1
    refine lv_iload hx hb dX10_scale_105 (lv_at hl 4 rfl) ?_
    refine lv_bipush (v := 12) hx hb dX10_scale_107 (by decide) ?_
    refine lv_icmp_ge (tgt := 169) hx hb dX10_scale_109 (by decide) (fun hc => ?_) (fun hc => ?_)
    · have h := h.1 hc
      refine lv_iload hx hb dX10_scale_169 (lv_at hl 2 rfl) ?_
      exact W.iret hx hb hr (fun t ht _ => ⟨⟨_, f_refused, rfl, h, hPt hP ht⟩, hS.F ht⟩) hS.2.2 dX10_scale_171
    have h := h.2 hc
    refine lv_aload_n hx hb dX10_scale_112 rfl (lv_at hl 0 rfl) ?_
    refine gf S hE hP 0 rfl rfl inX10 (k := 10) (by decide) q1103 rfl dX10_scale_113 ?_
    refine lv_iload hx hb dX10_scale_116 (lv_at hl 4 rfl) ?_
    obtain ⟨hi, h⟩ := h
    refine ial S hE hP 5 rfl hi dX10_scale_118 ?_
    refine lv_iload hx hb dX10_scale_119 (lv_at hl 1 rfl) ?_
    refine lv_isub hx hb dX10_scale_121 ?_
    refine lv_topi (fun x8_122 ex8_122 => ?_)
    have h := h _ ex8_122
    refine lv_istore (lv' := [(8, .int x8_122), (0, .ref a_o), (4, .int x4), (5, .int x5), (6, .int x6), (7, .int x7)]) hx hb dX10_scale_122 hl (by decide) rfl (fun ls hl => ?_)
    refine lv_iload hx hb dX10_scale_124 (lv_at hl 0 rfl) ?_
    refine lv_if_ge (tgt := 135) hx hb dX10_scale_126 (by decide) (fun hc => ?_) (fun hc => ?_)
    · have h := h.1 hc
      refine lv_iload hx hb dX10_scale_135 (lv_at hl 0 rfl) ?_
      refine w_X10_scale_137 S hE hT hA hr hlocks ih _ _ _ h hP hD hS (lv_sub hl [1, 2, 3, 4, 5] rfl)
    have h := h.2 hc
    refine lv_iload hx hb dX10_scale_129 (lv_at hl 0 rfl) ?_
    refine lv_ineg hx hb dX10_scale_131 ?_
    refine lv_goto (tgt := 137) hx hb dX10_scale_132 (by decide) ?_
    refine w_X10_scale_137 S hE hT hA hr hlocks ih _ _ _ h hP hD hS (lv_sub hl [1, 2, 3, 4, 5] rfl)
set_option maxHeartbeats 4000000 in
set_option maxRecDepth 100000 in
theorem w_X10_scale_85 {l : Launch} {D : va_G} {cI cJ cS : ClassId} {ad adK : Nat → Nat} {a_o a_kind a_other a_refused a_space a_steps : Nat} {z_times z_speed z_base z_share z_notes z_pitch z_beats z_held z_sort z_size z_shown z_cells z_carried z_words z_tell z_was z_kept z_cutSpace z_cutTimes z_cutOff z_trace : Value} {v_stretches : Int32} {v_cars : Int32} {v_tunes : Int32} {v_along : Int32} {v_near : Int32} {v_borne : Int32} {v_tempo : Int32} {v_seed : Int32} {v_fault : Int32} {v_from : Int32} {v_at : Int32} {v_end : Int32} {v_told : Int32} {v_wrongAt : Int32} {v_culprit : Int32} {v_ran : Int32} {v_isKept : Int32} {f_kind : Nat → Int32} {f_other : Nat → Int32} {f_refused : Nat → Int32} {f_space : Nat → Int32} {f_steps : Nat → Int32} {x5 : Int32} {x6 : Int32} {post : Int32 → (Nat → Int32) → Prop} {p : Program} {e : Env} {s : State} {m : MethodId} {args : Array Value} {below : List Frame} {meth : Method} {c : Code} {A : Nat → Prop} (S : CallFix p m c cX10_scale 9 s args GW "RoadThatSingsModel") (hE : EN D cI cJ cS s) (hT : ST ad adK A s s.heap) (hA : ∀ q : Nat, s.heap.size ≤ q → A q) (hr : meth.sig.returnType = (some (.int))) (hlocks : meth.locks = false) : ∀ n : Nat, ∀ (x4 : Int32) (H : Heap) (locs : List Loc) (ls : Array Slot), L_X10_scale_85 f_steps x5 x6 f_refused post n x4 → va_P D vwCl (wX10_scale cI cJ cS a_o a_kind a_other a_refused a_space a_steps z_times z_speed z_base z_share z_notes z_pitch z_beats z_held z_sort z_size z_shown z_cells z_carried z_words z_tell z_was z_kept z_cutSpace z_cutTimes z_cutOff z_trace v_stretches v_cars v_tunes v_along v_near v_borne v_tempo v_seed v_fault v_from v_at v_end v_told v_wrongAt v_culprit v_ran v_isKept f_kind f_other f_refused f_space f_steps) H → va_D A (wX10_scale cI cJ cS a_o a_kind a_other a_refused a_space a_steps z_times z_speed z_base z_share z_notes z_pitch z_beats z_held z_sort z_size z_shown z_cells z_carried z_words z_tell z_was z_kept z_cutSpace z_cutTimes z_cutOff z_trace v_stretches v_cars v_tunes v_along v_near v_borne v_tempo v_seed v_fault v_from v_at v_end v_told v_wrongAt v_culprit v_ran v_isKept f_kind f_other f_refused f_space f_steps) → va_S A s.heap H locs → lv_has ls 9 [(0, .ref a_o), (4, .int x4), (5, .int x5), (6, .int x6)] → W p l e (rmd 2 0 0) s m args below meth c H locs 0 0 (MQ below (va_Qi (fun r (u : (Nat → Int32)) => post r u) (fun u t => va_P D vwCl (wX10_scale cI cJ cS a_o a_kind a_other a_refused a_space a_steps z_times z_speed z_base z_share z_notes z_pitch z_beats z_held z_sort z_size z_shown z_cells z_carried z_words z_tell z_was z_kept z_cutSpace z_cutTimes z_cutOff z_trace v_stretches v_cars v_tunes v_along v_near v_borne v_tempo v_seed v_fault v_from v_at v_end v_told v_wrongAt v_culprit v_ran v_isKept f_kind f_other u f_space f_steps) t.heap) A) args s 0 0 A) (F0 m 85 ls []) := by
  intro n
  induction n with
  | zero =>
    intro x4 H locs ls h hP hD hS hl
    exact h.elim
  | succ n ih =>
    intro x4 H locs ls h hP hD hS hl
    rw [L_X10_scale_85] at h
    have hx := S.1
    have hb := S.2.1
    refine lv_iload hx hb dX10_scale_85 (lv_at hl 1 rfl) ?_
    refine lv_sipush (v := 1000) hx hb dX10_scale_87 (by decide) ?_
    refine lv_icmp_ge (tgt := 102) hx hb dX10_scale_90 (by decide) (fun hc => ?_) (fun hc => ?_)
    · have h := h.1 hc
      refine lv_iconst (v := 0) hx hb dX10_scale_102 (by decide) ?_
      refine lv_istore (lv' := [(7, .int 0), (0, .ref a_o), (4, .int x4), (5, .int x5), (6, .int x6)]) hx hb dX10_scale_103 hl (by decide) rfl (fun ls hl => ?_)
      obtain ⟨n, h⟩ := h
      refine w_X10_scale_105 S hE hT hA hr hlocks n _ _ _ _ _ _ h hP hD hS (lv_sub hl [1, 2, 3, 4, 0] rfl)
    have h := h.2 hc
    refine lv_iload hx hb dX10_scale_93 (lv_at hl 1 rfl) ?_
    refine lv_iconst (v := 2) hx hb dX10_scale_95 (by decide) ?_
    refine lv_imul hx hb dX10_scale_96 ?_
    refine lv_topi (fun x4_97 ex4_97 => ?_)
    have h := h _ ex4_97
    refine lv_istore (lv' := [(4, .int x4_97), (0, .ref a_o), (5, .int x5), (6, .int x6)]) hx hb dX10_scale_97 hl (by decide) rfl (fun ls hl => ?_)
    refine lv_goto (tgt := 85) hx hb dX10_scale_99 (by decide) ?_
    exact ih _ _ _ _ h hP hD hS (lv_sub hl [1, 0, 2, 3] rfl)
set_option maxHeartbeats 4000000 in
set_option maxRecDepth 100000 in
theorem c_X10_scale {l : Launch} {D : va_G} {cI cJ cS : ClassId} {ad adK : Nat → Nat} {a_o a_kind a_other a_refused a_space a_steps : Nat} {z_times z_speed z_base z_share z_notes z_pitch z_beats z_held z_sort z_size z_shown z_cells z_carried z_words z_tell z_was z_kept z_cutSpace z_cutTimes z_cutOff z_trace : Value} {v_stretches : Int32} {v_cars : Int32} {v_tunes : Int32} {v_along : Int32} {v_near : Int32} {v_borne : Int32} {v_tempo : Int32} {v_seed : Int32} {v_fault : Int32} {v_from : Int32} {v_at : Int32} {v_end : Int32} {v_told : Int32} {v_wrongAt : Int32} {v_culprit : Int32} {v_ran : Int32} {v_isKept : Int32} {f_kind : Nat → Int32} {f_other : Nat → Int32} {f_refused : Nat → Int32} {f_space : Nat → Int32} {f_steps : Nat → Int32} {x1 : Int32} {x2 : Int32} {x3 : Int32} {post : Int32 → (Nat → Int32) → Prop} (h : F_X10_scale v_stretches f_kind f_other f_refused f_space f_steps x1 x2 x3 post) {sz : Nat} : Met l yX10_scale (Cond.code yX10_scale cX10_scale 9 (some (.int)) :: GW) (rmd 2 0 0) (PW D cI cJ cS ad adK [.ref a_o, .int x1, .int x2, .int x3] (wX10_scale cI cJ cS a_o a_kind a_other a_refused a_space a_steps z_times z_speed z_base z_share z_notes z_pitch z_beats z_held z_sort z_size z_shown z_cells z_carried z_words z_tell z_was z_kept z_cutSpace z_cutTimes z_cutOff z_trace v_stretches v_cars v_tunes v_along v_near v_borne v_tempo v_seed v_fault v_from v_at v_end v_told v_wrongAt v_culprit v_ran v_isKept f_kind f_other f_refused f_space f_steps) sz) (va_Qi (fun r (u : (Nat → Int32)) => post r u) (fun u t => va_P D vwCl (wX10_scale cI cJ cS a_o a_kind a_other a_refused a_space a_steps z_times z_speed z_base z_share z_notes z_pitch z_beats z_held z_sort z_size z_shown z_cells z_carried z_words z_tell z_was z_kept z_cutSpace z_cutTimes z_cutOff z_trace v_stretches v_cars v_tunes v_along v_near v_borne v_tempo v_seed v_fault v_from v_at v_end v_told v_wrongAt v_culprit v_ran v_isKept f_kind f_other u f_space f_steps) t.heap) (va_A (wX10_scale cI cJ cS a_o a_kind a_other a_refused a_space a_steps z_times z_speed z_base z_share z_notes z_pitch z_beats z_held z_sort z_size z_shown z_cells z_carried z_words z_tell z_was z_kept z_cutSpace z_cutTimes z_cutOff z_trace v_stretches v_cars v_tunes v_along v_near v_borne v_tempo v_seed v_fault v_from v_at v_end v_told v_wrongAt v_culprit v_ran v_isKept f_kind f_other f_refused f_space f_steps) sz)) 0 0 (va_A (wX10_scale cI cJ cS a_o a_kind a_other a_refused a_space a_steps z_times z_speed z_base z_share z_notes z_pitch z_beats z_held z_sort z_size z_shown z_cells z_carried z_words z_tell z_was z_kept z_cutSpace z_cutTimes z_cutOff z_trace v_stretches v_cars v_tunes v_along v_near v_borne v_tempo v_seed v_fault v_from v_at v_end v_told v_wrongAt v_culprit v_ran v_isKept f_kind f_other f_refused f_space f_steps) sz) := by
  refine Met.rw (Qc := fun A => (va_Qi (fun r (u : (Nat → Int32)) => post r u) (fun u t => va_P D vwCl (wX10_scale cI cJ cS a_o a_kind a_other a_refused a_space a_steps z_times z_speed z_base z_share z_notes z_pitch z_beats z_held z_sort z_size z_shown z_cells z_carried z_words z_tell z_was z_kept z_cutSpace z_cutTimes z_cutOff z_trace v_stretches v_cars v_tunes v_along v_near v_borne v_tempo v_seed v_fault v_from v_at v_end v_told v_wrongAt v_culprit v_ran v_isKept f_kind f_other u f_space f_steps) t.heap) A)) (by decide) (Nat.le_of_ble_eq_true rfl) (fun p e s m args below meth c ls A (S : CallFix p m c cX10_scale 9 s args GW "RoadThatSingsModel") hE hT hP hD hA hS hr hlocks hname hl => ?_)
  have hS0 := hS
  have hx := S.1
  have hb := S.2.1
  have hl : lv_has ls 9 [(0, .ref a_o), (1, .int x1), (2, .int x2), (3, .int x3)] := hl
  unfold F_X10_scale at h
  refine lv_aload_n hx hb dX10_scale_0 rfl (lv_at hl 0 rfl) ?_
  refine lv_iload_n hx hb dX10_scale_1 rfl (lv_at hl 1 rfl) ?_
  refine ro_i (roV S hE hT hS (c_X10_isStretch h) lkX10_125 rfl ⟨(Nat.le_of_ble_eq_true rfl), (Nat.le_of_ble_eq_true rfl)⟩ (hP.sub [0] rfl) 0 rfl rfl hl.1 rfl (Nat.le_of_ble_eq_true rfl) dX10_scale_2 ⟨(Nat.zero_le _), (Nat.zero_le _)⟩) (fun r2 h => ?_)
  refine lv_if_ne (tgt := 14) hx hb dX10_scale_5 (by decide) (fun hc => ?_) (fun hc => ?_)
  · have h := h.2 hc
    refine lv_aload_n hx hb dX10_scale_14 rfl (lv_at hl 0 rfl) ?_
    refine lv_iload_n hx hb dX10_scale_15 rfl (lv_at hl 2 rfl) ?_
    refine ro_i (roV S hE hT hS (c_X10_isSpeed h) lkX10_155 rfl ⟨(Nat.le_of_ble_eq_true rfl), (Nat.le_of_ble_eq_true rfl)⟩ (hP.sub [0] rfl) 0 rfl rfl hl.1 rfl (Nat.le_of_ble_eq_true rfl) dX10_scale_16 ⟨(Nat.zero_le _), (Nat.zero_le _)⟩) (fun r16 h => ?_)
    refine lv_if_eq (tgt := 34) hx hb dX10_scale_19 (by decide) (fun hc => ?_) (fun hc => ?_)
    · have h := h.1 hc
      refine lv_aload_n hx hb dX10_scale_34 rfl (lv_at hl 0 rfl) ?_
      refine lv_bipush (v := (-6)) hx hb dX10_scale_35 (by decide) ?_
      refine rw_i (rwV S hE hT hS hP hD hA (c_X10_noTen h) [0, 3] rfl (by decide) lkX10_274 rfl ⟨(Nat.le_of_ble_eq_true rfl), (Nat.le_of_ble_eq_true rfl)⟩ 0 rfl rfl hl.1 rfl (Nat.le_of_ble_eq_true rfl) dX10_scale_37 ⟨(Nat.zero_le _), (Nat.zero_le _)⟩) hP hD hS hA [0, 3] rfl (by decide) (fun _ => rfl) (fun r37 w37_0 H locs h hP hD hS => ?_)
      try dsimp only at h
      have hP : va_P D vwCl (wX10_scale cI cJ cS a_o a_kind a_other a_refused a_space a_steps z_times z_speed z_base z_share z_notes z_pitch z_beats z_held z_sort z_size z_shown z_cells z_carried z_words z_tell z_was z_kept z_cutSpace z_cutTimes z_cutOff z_trace v_stretches v_cars v_tunes v_along v_near v_borne v_tempo v_seed v_fault v_from v_at v_end v_told v_wrongAt v_culprit v_ran v_isKept f_kind f_other w37_0 f_space f_steps) H := hP
      have hD : va_D A (wX10_scale cI cJ cS a_o a_kind a_other a_refused a_space a_steps z_times z_speed z_base z_share z_notes z_pitch z_beats z_held z_sort z_size z_shown z_cells z_carried z_words z_tell z_was z_kept z_cutSpace z_cutTimes z_cutOff z_trace v_stretches v_cars v_tunes v_along v_near v_borne v_tempo v_seed v_fault v_from v_at v_end v_told v_wrongAt v_culprit v_ran v_isKept f_kind f_other w37_0 f_space f_steps) := hD
      exact W.iret hx hb hr (fun t ht _ => ⟨⟨_, w37_0, rfl, h, hPt hP ht⟩, hS.F ht⟩) hS.2.2 dX10_scale_40
    have h := h.2 hc
    refine lv_iload_n hx hb dX10_scale_22 rfl (lv_at hl 3 rfl) ?_
    refine lv_iconst (v := 1) hx hb dX10_scale_23 (by decide) ?_
    refine lv_icmp_lt (tgt := 34) hx hb dX10_scale_24 (by decide) (fun hc => ?_) (fun hc => ?_)
    · have h := h.1 hc
      refine lv_aload_n hx hb dX10_scale_34 rfl (lv_at hl 0 rfl) ?_
      refine lv_bipush (v := (-6)) hx hb dX10_scale_35 (by decide) ?_
      refine rw_i (rwV S hE hT hS hP hD hA (c_X10_noTen h) [0, 3] rfl (by decide) lkX10_274 rfl ⟨(Nat.le_of_ble_eq_true rfl), (Nat.le_of_ble_eq_true rfl)⟩ 0 rfl rfl hl.1 rfl (Nat.le_of_ble_eq_true rfl) dX10_scale_37 ⟨(Nat.zero_le _), (Nat.zero_le _)⟩) hP hD hS hA [0, 3] rfl (by decide) (fun _ => rfl) (fun r37 w37_0 H locs h hP hD hS => ?_)
      try dsimp only at h
      have hP : va_P D vwCl (wX10_scale cI cJ cS a_o a_kind a_other a_refused a_space a_steps z_times z_speed z_base z_share z_notes z_pitch z_beats z_held z_sort z_size z_shown z_cells z_carried z_words z_tell z_was z_kept z_cutSpace z_cutTimes z_cutOff z_trace v_stretches v_cars v_tunes v_along v_near v_borne v_tempo v_seed v_fault v_from v_at v_end v_told v_wrongAt v_culprit v_ran v_isKept f_kind f_other w37_0 f_space f_steps) H := hP
      have hD : va_D A (wX10_scale cI cJ cS a_o a_kind a_other a_refused a_space a_steps z_times z_speed z_base z_share z_notes z_pitch z_beats z_held z_sort z_size z_shown z_cells z_carried z_words z_tell z_was z_kept z_cutSpace z_cutTimes z_cutOff z_trace v_stretches v_cars v_tunes v_along v_near v_borne v_tempo v_seed v_fault v_from v_at v_end v_told v_wrongAt v_culprit v_ran v_isKept f_kind f_other w37_0 f_space f_steps) := hD
      exact W.iret hx hb hr (fun t ht _ => ⟨⟨_, w37_0, rfl, h, hPt hP ht⟩, hS.F ht⟩) hS.2.2 dX10_scale_40
    have h := h.2 hc
    refine lv_iload_n hx hb dX10_scale_27 rfl (lv_at hl 3 rfl) ?_
    refine lv_sipush (v := 9999) hx hb dX10_scale_28 (by decide) ?_
    refine lv_icmp_le (tgt := 41) hx hb dX10_scale_31 (by decide) (fun hc => ?_) (fun hc => ?_)
    · have h := h.1 hc
      refine lv_aload_n hx hb dX10_scale_41 rfl (lv_at hl 0 rfl) ?_
      refine lv_iload_n hx hb dX10_scale_42 rfl (lv_at hl 1 rfl) ?_
      refine lv_iload_n hx hb dX10_scale_43 rfl (lv_at hl 2 rfl) ?_
      refine ro_i (roV S hE hT hS (c_X10_humOf h) lkX10_232 rfl ⟨(Nat.le_of_ble_eq_true rfl), (Nat.le_of_ble_eq_true rfl)⟩ (hP.sub [0, 1, 2, 4] rfl) 0 rfl rfl hl.1 rfl (Nat.le_of_ble_eq_true rfl) dX10_scale_44 ⟨(Nat.zero_le _), (Nat.zero_le _)⟩) (fun r44 h => ?_)
      refine lv_sipush (v := 1000) hx hb dX10_scale_47 (by decide) ?_
      refine lv_imul hx hb dX10_scale_50 ?_
      refine lv_iload_n hx hb dX10_scale_51 rfl (lv_at hl 3 rfl) ?_
      obtain ⟨hz, h⟩ := h
      refine lv_idiv hx hb dX10_scale_52 hz ?_
      refine lv_topi (fun x4_53 ex4_53 => ?_)
      have h := h _ ex4_53
      refine lv_istore (lv' := [(4, .int x4_53), (0, .ref a_o), (1, .int x1), (2, .int x2), (3, .int x3)]) hx hb dX10_scale_53 hl (by decide) rfl (fun ls hl => ?_)
      refine lv_iconst (v := (-1)) hx hb dX10_scale_55 (by decide) ?_
      refine lv_istore (lv' := [(5, .int (-1)), (4, .int x4_53), (0, .ref a_o), (1, .int x1), (2, .int x2), (3, .int x3)]) hx hb dX10_scale_56 hl (by decide) rfl (fun ls hl => ?_)
      refine lv_iconst (v := 0) hx hb dX10_scale_58 (by decide) ?_
      refine lv_istore (lv' := [(6, .int 0), (5, .int (-1)), (4, .int x4_53), (0, .ref a_o), (1, .int x1), (2, .int x2), (3, .int x3)]) hx hb dX10_scale_59 hl (by decide) rfl (fun ls hl => ?_)
      refine lv_iload hx hb dX10_scale_61 (lv_at hl 2 rfl) ?_
      refine lv_if_ne (tgt := 68) hx hb dX10_scale_63 (by decide) (fun hc => ?_) (fun hc => ?_)
      · have h := h.2 hc
        obtain ⟨n, h⟩ := h
        refine w_X10_scale_68 S hE hT hA hr hlocks (fun x4_1 H locs ls h hP hD hS hl => ?_) n _ _ _ _ h hP hD hS (lv_sub hl [3, 2, 1, 0] rfl)
        obtain ⟨n, h⟩ := h
        refine w_X10_scale_85 S hE hT hA hr hlocks n _ _ _ _ h hP hD hS (lv_sub hl [0, 1, 2, 3] rfl)
      have h := h.1 hc
      refine lv_iconst (v := (-1)) hx hb dX10_scale_66 (by decide) ?_
      exact W.iret hx hb hr (fun t ht _ => ⟨⟨_, f_refused, rfl, h, hPt hP ht⟩, hS.F ht⟩) hS.2.2 dX10_scale_67
    have h := h.2 hc
    refine lv_aload_n hx hb dX10_scale_34 rfl (lv_at hl 0 rfl) ?_
    refine lv_bipush (v := (-6)) hx hb dX10_scale_35 (by decide) ?_
    refine rw_i (rwV S hE hT hS hP hD hA (c_X10_noTen h) [0, 3] rfl (by decide) lkX10_274 rfl ⟨(Nat.le_of_ble_eq_true rfl), (Nat.le_of_ble_eq_true rfl)⟩ 0 rfl rfl hl.1 rfl (Nat.le_of_ble_eq_true rfl) dX10_scale_37 ⟨(Nat.zero_le _), (Nat.zero_le _)⟩) hP hD hS hA [0, 3] rfl (by decide) (fun _ => rfl) (fun r37 w37_0 H locs h hP hD hS => ?_)
    try dsimp only at h
    have hP : va_P D vwCl (wX10_scale cI cJ cS a_o a_kind a_other a_refused a_space a_steps z_times z_speed z_base z_share z_notes z_pitch z_beats z_held z_sort z_size z_shown z_cells z_carried z_words z_tell z_was z_kept z_cutSpace z_cutTimes z_cutOff z_trace v_stretches v_cars v_tunes v_along v_near v_borne v_tempo v_seed v_fault v_from v_at v_end v_told v_wrongAt v_culprit v_ran v_isKept f_kind f_other w37_0 f_space f_steps) H := hP
    have hD : va_D A (wX10_scale cI cJ cS a_o a_kind a_other a_refused a_space a_steps z_times z_speed z_base z_share z_notes z_pitch z_beats z_held z_sort z_size z_shown z_cells z_carried z_words z_tell z_was z_kept z_cutSpace z_cutTimes z_cutOff z_trace v_stretches v_cars v_tunes v_along v_near v_borne v_tempo v_seed v_fault v_from v_at v_end v_told v_wrongAt v_culprit v_ran v_isKept f_kind f_other w37_0 f_space f_steps) := hD
    exact W.iret hx hb hr (fun t ht _ => ⟨⟨_, w37_0, rfl, h, hPt hP ht⟩, hS.F ht⟩) hS.2.2 dX10_scale_40
  have h := h.1 hc
  refine lv_aload_n hx hb dX10_scale_8 rfl (lv_at hl 0 rfl) ?_
  refine lv_iconst (v := (-1)) hx hb dX10_scale_9 (by decide) ?_
  refine rw_i (rwV S hE hT hS hP hD hA (c_X10_noTen h) [0, 3] rfl (by decide) lkX10_274 rfl ⟨(Nat.le_of_ble_eq_true rfl), (Nat.le_of_ble_eq_true rfl)⟩ 0 rfl rfl hl.1 rfl (Nat.le_of_ble_eq_true rfl) dX10_scale_10 ⟨(Nat.zero_le _), (Nat.zero_le _)⟩) hP hD hS hA [0, 3] rfl (by decide) (fun _ => rfl) (fun r10 w10_0 H locs h hP hD hS => ?_)
  try dsimp only at h
  have hP : va_P D vwCl (wX10_scale cI cJ cS a_o a_kind a_other a_refused a_space a_steps z_times z_speed z_base z_share z_notes z_pitch z_beats z_held z_sort z_size z_shown z_cells z_carried z_words z_tell z_was z_kept z_cutSpace z_cutTimes z_cutOff z_trace v_stretches v_cars v_tunes v_along v_near v_borne v_tempo v_seed v_fault v_from v_at v_end v_told v_wrongAt v_culprit v_ran v_isKept f_kind f_other w10_0 f_space f_steps) H := hP
  have hD : va_D A (wX10_scale cI cJ cS a_o a_kind a_other a_refused a_space a_steps z_times z_speed z_base z_share z_notes z_pitch z_beats z_held z_sort z_size z_shown z_cells z_carried z_words z_tell z_was z_kept z_cutSpace z_cutTimes z_cutOff z_trace v_stretches v_cars v_tunes v_along v_near v_borne v_tempo v_seed v_fault v_from v_at v_end v_told v_wrongAt v_culprit v_ran v_isKept f_kind f_other w10_0 f_space f_steps) := hD
  exact W.iret hx hb hr (fun t ht _ => ⟨⟨_, w10_0, rfl, h, hPt hP ht⟩, hS.F ht⟩) hS.2.2 dX10_scale_13
/-! X10_read -/
abbrev wX10_read (cI cJ cS : ClassId) (a_o a_kind a_notes a_other a_pitch a_refused a_space a_speed : Nat) (z_steps z_times z_base z_share z_beats z_held z_sort z_size z_shown z_cells z_carried z_words z_tell z_was z_kept z_cutSpace z_cutTimes z_cutOff z_trace : Value) (v_stretches : Int32) (v_cars : Int32) (v_tunes : Int32) (v_along : Int32) (v_near : Int32) (v_borne : Int32) (v_tempo : Int32) (v_seed : Int32) (v_fault : Int32) (v_from : Int32) (v_at : Int32) (v_end : Int32) (v_told : Int32) (v_wrongAt : Int32) (v_culprit : Int32) (v_ran : Int32) (v_isKept : Int32) (f_kind : Nat → Int32) (f_notes : Nat → Int32) (f_other : Nat → Int32) (f_pitch : Nat → Int32) (f_refused : Nat → Int32) (f_space : Nat → Int32) (f_speed : Nat → Int32) : va_W := [(a_o, .inr (9, [.int v_stretches, .int v_cars, .int v_tunes, .int v_along, .int v_near, .int v_borne, .int v_tempo, .int v_seed, .int v_fault, .ref a_refused, z_steps, .ref a_kind, .ref a_space, .ref a_other, z_times, .ref a_speed, z_base, z_share, .ref a_notes, .ref a_pitch, z_beats, z_held, z_sort, z_size, z_shown, z_cells, z_carried, z_words, z_tell, .int v_from, .int v_at, .int v_end, .int v_told, .int v_wrongAt, z_was, z_kept, .int v_culprit, z_cutSpace, z_cutTimes, z_cutOff, z_trace, .int v_ran, .int v_isKept])), (a_kind, .inl (cI, 16, .inl f_kind)), (a_notes, .inl (cI, 6, .inl f_notes)), (a_other, .inl (cI, 16, .inl f_other)), (a_pitch, .inl (cI, 72, .inl f_pitch)), (a_refused, .inl (cI, 8, .inl f_refused)), (a_space, .inl (cI, 16, .inl f_space)), (a_speed, .inl (cI, 6, .inl f_speed))]
def F_X10_read_73 (k40 : Int32 → Int32 → Int32 → Prop) (x1 : Int32) (x2 : Int32) (x3 : Int32) (x4 : Int32) (f_refused : Nat → Int32) : Prop := (∀ x4_73 : Int32, x4_73 = x4 + 1 → k40 x2 x3 x4_73)
def L_X10_read_40 (v_stretches : Int32) (v_tunes : Int32) (f_kind : Nat → Int32) (f_notes : Nat → Int32) (f_other : Nat → Int32) (f_pitch : Nat → Int32) (f_space : Nat → Int32) (f_speed : Nat → Int32) (x1 : Int32) (f_refused : Nat → Int32) (post : Int32 → (Nat → Int32) → Prop) : Nat → Int32 → Int32 → Int32 → Prop
  | 0, _, _, _ => False
  | n40 + 1, x2, x3, x4 => ((v_tunes ≤ x4 → post x2 f_refused) ∧ (¬ v_tunes ≤ x4 → (F_X10_worstOf v_stretches f_kind f_notes f_other f_pitch f_space f_speed x1 x4 (fun r53 => ((r53 < x3 → F_X10_read_73 (fun x2 x3 x4 => L_X10_read_40 v_stretches v_tunes f_kind f_notes f_other f_pitch f_space f_speed x1 f_refused post n40 x2 x3 x4) x1 x4 r53 x4 f_refused) ∧ (¬ r53 < x3 → F_X10_read_73 (fun x2 x3 x4 => L_X10_read_40 v_stretches v_tunes f_kind f_notes f_other f_pitch f_space f_speed x1 f_refused post n40 x2 x3 x4) x1 x2 x3 x4 f_refused))))))
def F_X10_read (v_stretches : Int32) (v_cars : Int32) (v_tunes : Int32) (f_kind : Nat → Int32) (f_notes : Nat → Int32) (f_other : Nat → Int32) (f_pitch : Nat → Int32) (f_refused : Nat → Int32) (f_space : Nat → Int32) (f_speed : Nat → Int32) (x1 : Int32) (post : Int32 → (Nat → Int32) → Prop) : Prop := (F_X10_isCar v_cars x1 (fun r2 => ((r2 = 0 → (F_X10_no f_refused (-1) (fun r10 w10_0 => post r10 w10_0))) ∧ (¬ r2 = 0 → ((v_tunes = 0 → (F_X10_no f_refused (-5) (fun r24 w24_0 => post r24 w24_0))) ∧ (¬ v_tunes = 0 → (F_X10_worstOf v_stretches f_kind f_notes f_other f_pitch f_space f_speed x1 0 (fun r33 => (∃ n40 : Nat, L_X10_read_40 v_stretches v_tunes f_kind f_notes f_other f_pitch f_space f_speed x1 f_refused post n40 0 r33 1)))))))))
set_option maxHeartbeats 4000000 in
set_option maxRecDepth 100000 in
theorem w_X10_read_73 {l : Launch} {D : va_G} {cI cJ cS : ClassId} {ad adK : Nat → Nat} {a_o a_kind a_notes a_other a_pitch a_refused a_space a_speed : Nat} {z_steps z_times z_base z_share z_beats z_held z_sort z_size z_shown z_cells z_carried z_words z_tell z_was z_kept z_cutSpace z_cutTimes z_cutOff z_trace : Value} {v_stretches : Int32} {v_cars : Int32} {v_tunes : Int32} {v_along : Int32} {v_near : Int32} {v_borne : Int32} {v_tempo : Int32} {v_seed : Int32} {v_fault : Int32} {v_from : Int32} {v_at : Int32} {v_end : Int32} {v_told : Int32} {v_wrongAt : Int32} {v_culprit : Int32} {v_ran : Int32} {v_isKept : Int32} {f_kind : Nat → Int32} {f_notes : Nat → Int32} {f_other : Nat → Int32} {f_pitch : Nat → Int32} {f_refused : Nat → Int32} {f_space : Nat → Int32} {f_speed : Nat → Int32} {x1 : Int32} {x2 : Int32} {x3 : Int32} {x4 : Int32} {post : Int32 → (Nat → Int32) → Prop} {k40 : Int32 → Int32 → Int32 → Prop} {p : Program} {e : Env} {s : State} {m : MethodId} {args : Array Value} {below : List Frame} {meth : Method} {c : Code} {A : Nat → Prop} (S : CallFix p m c cX10_read 6 s args GW "RoadThatSingsModel") (hE : EN D cI cJ cS s) (hT : ST ad adK A s s.heap) (hA : ∀ q : Nat, s.heap.size ≤ q → A q) (hr : meth.sig.returnType = (some (.int))) (hlocks : meth.locks = false) (hk40 : ∀ (x2 : Int32) (x3 : Int32) (x4 : Int32) (H : Heap) (locs : List Loc) (ls : Array Slot), k40 x2 x3 x4 → va_P D vwCl (wX10_read cI cJ cS a_o a_kind a_notes a_other a_pitch a_refused a_space a_speed z_steps z_times z_base z_share z_beats z_held z_sort z_size z_shown z_cells z_carried z_words z_tell z_was z_kept z_cutSpace z_cutTimes z_cutOff z_trace v_stretches v_cars v_tunes v_along v_near v_borne v_tempo v_seed v_fault v_from v_at v_end v_told v_wrongAt v_culprit v_ran v_isKept f_kind f_notes f_other f_pitch f_refused f_space f_speed) H → va_D A (wX10_read cI cJ cS a_o a_kind a_notes a_other a_pitch a_refused a_space a_speed z_steps z_times z_base z_share z_beats z_held z_sort z_size z_shown z_cells z_carried z_words z_tell z_was z_kept z_cutSpace z_cutTimes z_cutOff z_trace v_stretches v_cars v_tunes v_along v_near v_borne v_tempo v_seed v_fault v_from v_at v_end v_told v_wrongAt v_culprit v_ran v_isKept f_kind f_notes f_other f_pitch f_refused f_space f_speed) → va_S A s.heap H locs → lv_has ls 6 [(0, .ref a_o), (1, .int x1), (2, .int x2), (3, .int x3), (4, .int x4)] → W p l e (rmd 4 0 0) s m args below meth c H locs 0 0 (MQ below (va_Qi (fun r (u : (Nat → Int32)) => post r u) (fun u t => va_P D vwCl (wX10_read cI cJ cS a_o a_kind a_notes a_other a_pitch a_refused a_space a_speed z_steps z_times z_base z_share z_beats z_held z_sort z_size z_shown z_cells z_carried z_words z_tell z_was z_kept z_cutSpace z_cutTimes z_cutOff z_trace v_stretches v_cars v_tunes v_along v_near v_borne v_tempo v_seed v_fault v_from v_at v_end v_told v_wrongAt v_culprit v_ran v_isKept f_kind f_notes f_other f_pitch u f_space f_speed) t.heap) A) args s 0 0 A) (F0 m 40 ls [])) : ∀ (H : Heap) (locs : List Loc) (ls : Array Slot), F_X10_read_73 k40 x1 x2 x3 x4 f_refused → va_P D vwCl (wX10_read cI cJ cS a_o a_kind a_notes a_other a_pitch a_refused a_space a_speed z_steps z_times z_base z_share z_beats z_held z_sort z_size z_shown z_cells z_carried z_words z_tell z_was z_kept z_cutSpace z_cutTimes z_cutOff z_trace v_stretches v_cars v_tunes v_along v_near v_borne v_tempo v_seed v_fault v_from v_at v_end v_told v_wrongAt v_culprit v_ran v_isKept f_kind f_notes f_other f_pitch f_refused f_space f_speed) H → va_D A (wX10_read cI cJ cS a_o a_kind a_notes a_other a_pitch a_refused a_space a_speed z_steps z_times z_base z_share z_beats z_held z_sort z_size z_shown z_cells z_carried z_words z_tell z_was z_kept z_cutSpace z_cutTimes z_cutOff z_trace v_stretches v_cars v_tunes v_along v_near v_borne v_tempo v_seed v_fault v_from v_at v_end v_told v_wrongAt v_culprit v_ran v_isKept f_kind f_notes f_other f_pitch f_refused f_space f_speed) → va_S A s.heap H locs → lv_has ls 6 [(0, .ref a_o), (1, .int x1), (2, .int x2), (3, .int x3), (4, .int x4)] → W p l e (rmd 4 0 0) s m args below meth c H locs 0 0 (MQ below (va_Qi (fun r (u : (Nat → Int32)) => post r u) (fun u t => va_P D vwCl (wX10_read cI cJ cS a_o a_kind a_notes a_other a_pitch a_refused a_space a_speed z_steps z_times z_base z_share z_beats z_held z_sort z_size z_shown z_cells z_carried z_words z_tell z_was z_kept z_cutSpace z_cutTimes z_cutOff z_trace v_stretches v_cars v_tunes v_along v_near v_borne v_tempo v_seed v_fault v_from v_at v_end v_told v_wrongAt v_culprit v_ran v_isKept f_kind f_notes f_other f_pitch u f_space f_speed) t.heap) A) args s 0 0 A) (F0 m 73 ls []) := by
  intro  H locs ls h hP hD hS hl
  unfold F_X10_read_73 at h
  have hx := S.1
  have hb := S.2.1
  obtain ⟨x4_73, ex4_73⟩ : ∃ z : Int32, z = x4 + 1 := ⟨_, rfl⟩
  have h := h _ ex4_73
  refine lv_iinc (v := x4_73) (lv' := [(4, .int x4_73), (0, .ref a_o), (1, .int x1), (2, .int x2), (3, .int x3)]) hx hb dX10_read_73 hl (k := 4) rfl (by rw [ex4_73]; rfl) (by decide) rfl (fun ls hl => ?_)
  refine lv_goto (tgt := 40) hx hb dX10_read_76 (by decide) ?_
  exact hk40 _ _ _ _ _ _ h hP hD hS (lv_sub hl [1, 2, 3, 4, 0] rfl)
set_option maxHeartbeats 4000000 in
set_option maxRecDepth 100000 in
theorem w_X10_read_40 {l : Launch} {D : va_G} {cI cJ cS : ClassId} {ad adK : Nat → Nat} {a_o a_kind a_notes a_other a_pitch a_refused a_space a_speed : Nat} {z_steps z_times z_base z_share z_beats z_held z_sort z_size z_shown z_cells z_carried z_words z_tell z_was z_kept z_cutSpace z_cutTimes z_cutOff z_trace : Value} {v_stretches : Int32} {v_cars : Int32} {v_tunes : Int32} {v_along : Int32} {v_near : Int32} {v_borne : Int32} {v_tempo : Int32} {v_seed : Int32} {v_fault : Int32} {v_from : Int32} {v_at : Int32} {v_end : Int32} {v_told : Int32} {v_wrongAt : Int32} {v_culprit : Int32} {v_ran : Int32} {v_isKept : Int32} {f_kind : Nat → Int32} {f_notes : Nat → Int32} {f_other : Nat → Int32} {f_pitch : Nat → Int32} {f_refused : Nat → Int32} {f_space : Nat → Int32} {f_speed : Nat → Int32} {x1 : Int32} {post : Int32 → (Nat → Int32) → Prop} {p : Program} {e : Env} {s : State} {m : MethodId} {args : Array Value} {below : List Frame} {meth : Method} {c : Code} {A : Nat → Prop} (S : CallFix p m c cX10_read 6 s args GW "RoadThatSingsModel") (hE : EN D cI cJ cS s) (hT : ST ad adK A s s.heap) (hA : ∀ q : Nat, s.heap.size ≤ q → A q) (hr : meth.sig.returnType = (some (.int))) (hlocks : meth.locks = false) : ∀ n : Nat, ∀ (x2 : Int32) (x3 : Int32) (x4 : Int32) (H : Heap) (locs : List Loc) (ls : Array Slot), L_X10_read_40 v_stretches v_tunes f_kind f_notes f_other f_pitch f_space f_speed x1 f_refused post n x2 x3 x4 → va_P D vwCl (wX10_read cI cJ cS a_o a_kind a_notes a_other a_pitch a_refused a_space a_speed z_steps z_times z_base z_share z_beats z_held z_sort z_size z_shown z_cells z_carried z_words z_tell z_was z_kept z_cutSpace z_cutTimes z_cutOff z_trace v_stretches v_cars v_tunes v_along v_near v_borne v_tempo v_seed v_fault v_from v_at v_end v_told v_wrongAt v_culprit v_ran v_isKept f_kind f_notes f_other f_pitch f_refused f_space f_speed) H → va_D A (wX10_read cI cJ cS a_o a_kind a_notes a_other a_pitch a_refused a_space a_speed z_steps z_times z_base z_share z_beats z_held z_sort z_size z_shown z_cells z_carried z_words z_tell z_was z_kept z_cutSpace z_cutTimes z_cutOff z_trace v_stretches v_cars v_tunes v_along v_near v_borne v_tempo v_seed v_fault v_from v_at v_end v_told v_wrongAt v_culprit v_ran v_isKept f_kind f_notes f_other f_pitch f_refused f_space f_speed) → va_S A s.heap H locs → lv_has ls 6 [(0, .ref a_o), (1, .int x1), (2, .int x2), (3, .int x3), (4, .int x4)] → W p l e (rmd 4 0 0) s m args below meth c H locs 0 0 (MQ below (va_Qi (fun r (u : (Nat → Int32)) => post r u) (fun u t => va_P D vwCl (wX10_read cI cJ cS a_o a_kind a_notes a_other a_pitch a_refused a_space a_speed z_steps z_times z_base z_share z_beats z_held z_sort z_size z_shown z_cells z_carried z_words z_tell z_was z_kept z_cutSpace z_cutTimes z_cutOff z_trace v_stretches v_cars v_tunes v_along v_near v_borne v_tempo v_seed v_fault v_from v_at v_end v_told v_wrongAt v_culprit v_ran v_isKept f_kind f_notes f_other f_pitch u f_space f_speed) t.heap) A) args s 0 0 A) (F0 m 40 ls []) := by
  intro n
  induction n with
  | zero =>
    intro x2 x3 x4 H locs ls h hP hD hS hl
    exact h.elim
  | succ n ih =>
    intro x2 x3 x4 H locs ls h hP hD hS hl
    rw [L_X10_read_40] at h
    have hx := S.1
    have hb := S.2.1
    refine lv_iload hx hb dX10_read_40 (lv_at hl 4 rfl) ?_
    refine lv_aload_n hx hb dX10_read_42 rfl (lv_at hl 0 rfl) ?_
    refine gf S hE hP 0 rfl rfl inX10 (k := 2) (by decide) q1095 rfl dX10_read_43 ?_
    refine lv_icmp_ge (tgt := 79) hx hb dX10_read_46 (by decide) (fun hc => ?_) (fun hc => ?_)
    · have h := h.1 hc
      refine lv_iload_n hx hb dX10_read_79 rfl (lv_at hl 2 rfl) ?_
      exact W.iret hx hb hr (fun t ht _ => ⟨⟨_, f_refused, rfl, h, hPt hP ht⟩, hS.F ht⟩) hS.2.2 dX10_read_80
    have h := h.2 hc
    refine lv_aload_n hx hb dX10_read_49 rfl (lv_at hl 0 rfl) ?_
    refine lv_iload_n hx hb dX10_read_50 rfl (lv_at hl 1 rfl) ?_
    refine lv_iload hx hb dX10_read_51 (lv_at hl 4 rfl) ?_
    refine ro_i (roV S hE hT hS (c_X10_worstOf h) lkX10_248 rfl ⟨(Nat.le_of_ble_eq_true rfl), (Nat.le_of_ble_eq_true rfl)⟩ (hP.sub [0, 1, 2, 3, 4, 6, 7] rfl) 0 rfl rfl hl.1 rfl (Nat.le_of_ble_eq_true rfl) dX10_read_53 ⟨(Nat.zero_le _), (Nat.zero_le _)⟩) (fun r53 h => ?_)
    refine lv_istore (lv' := [(5, .int r53), (0, .ref a_o), (1, .int x1), (2, .int x2), (3, .int x3), (4, .int x4)]) hx hb dX10_read_56 hl (by decide) rfl (fun ls hl => ?_)
    refine lv_iload hx hb dX10_read_58 (lv_at hl 0 rfl) ?_
    refine lv_iload_n hx hb dX10_read_60 rfl (lv_at hl 4 rfl) ?_
    refine lv_icmp_lt (tgt := 67) hx hb dX10_read_61 (by decide) (fun hc => ?_) (fun hc => ?_)
    · have h := h.1 hc
      refine lv_iload hx hb dX10_read_67 (lv_at hl 5 rfl) ?_
      refine lv_istore_n (lv' := [(2, .int x4), (5, .int r53), (0, .ref a_o), (1, .int x1), (3, .int x3), (4, .int x4)]) hx hb dX10_read_69 rfl hl (by decide) rfl (fun ls hl => ?_)
      refine lv_iload hx hb dX10_read_70 (lv_at hl 1 rfl) ?_
      refine lv_istore_n (lv' := [(3, .int r53), (2, .int x4), (5, .int r53), (0, .ref a_o), (1, .int x1), (4, .int x4)]) hx hb dX10_read_72 rfl hl (by decide) rfl (fun ls hl => ?_)
      refine w_X10_read_73 S hE hT hA hr hlocks ih _ _ _ h hP hD hS (lv_sub hl [3, 4, 1, 0, 5] rfl)
    have h := h.2 hc
    refine lv_goto (tgt := 73) hx hb dX10_read_64 (by decide) ?_
    refine w_X10_read_73 S hE hT hA hr hlocks ih _ _ _ h hP hD hS (lv_sub hl [1, 2, 3, 4, 5] rfl)
set_option maxHeartbeats 4000000 in
set_option maxRecDepth 100000 in
theorem c_X10_read {l : Launch} {D : va_G} {cI cJ cS : ClassId} {ad adK : Nat → Nat} {a_o a_kind a_notes a_other a_pitch a_refused a_space a_speed : Nat} {z_steps z_times z_base z_share z_beats z_held z_sort z_size z_shown z_cells z_carried z_words z_tell z_was z_kept z_cutSpace z_cutTimes z_cutOff z_trace : Value} {v_stretches : Int32} {v_cars : Int32} {v_tunes : Int32} {v_along : Int32} {v_near : Int32} {v_borne : Int32} {v_tempo : Int32} {v_seed : Int32} {v_fault : Int32} {v_from : Int32} {v_at : Int32} {v_end : Int32} {v_told : Int32} {v_wrongAt : Int32} {v_culprit : Int32} {v_ran : Int32} {v_isKept : Int32} {f_kind : Nat → Int32} {f_notes : Nat → Int32} {f_other : Nat → Int32} {f_pitch : Nat → Int32} {f_refused : Nat → Int32} {f_space : Nat → Int32} {f_speed : Nat → Int32} {x1 : Int32} {post : Int32 → (Nat → Int32) → Prop} (h : F_X10_read v_stretches v_cars v_tunes f_kind f_notes f_other f_pitch f_refused f_space f_speed x1 post) {sz : Nat} : Met l yX10_read (Cond.code yX10_read cX10_read 6 (some (.int)) :: GW) (rmd 4 0 0) (PW D cI cJ cS ad adK [.ref a_o, .int x1] (wX10_read cI cJ cS a_o a_kind a_notes a_other a_pitch a_refused a_space a_speed z_steps z_times z_base z_share z_beats z_held z_sort z_size z_shown z_cells z_carried z_words z_tell z_was z_kept z_cutSpace z_cutTimes z_cutOff z_trace v_stretches v_cars v_tunes v_along v_near v_borne v_tempo v_seed v_fault v_from v_at v_end v_told v_wrongAt v_culprit v_ran v_isKept f_kind f_notes f_other f_pitch f_refused f_space f_speed) sz) (va_Qi (fun r (u : (Nat → Int32)) => post r u) (fun u t => va_P D vwCl (wX10_read cI cJ cS a_o a_kind a_notes a_other a_pitch a_refused a_space a_speed z_steps z_times z_base z_share z_beats z_held z_sort z_size z_shown z_cells z_carried z_words z_tell z_was z_kept z_cutSpace z_cutTimes z_cutOff z_trace v_stretches v_cars v_tunes v_along v_near v_borne v_tempo v_seed v_fault v_from v_at v_end v_told v_wrongAt v_culprit v_ran v_isKept f_kind f_notes f_other f_pitch u f_space f_speed) t.heap) (va_A (wX10_read cI cJ cS a_o a_kind a_notes a_other a_pitch a_refused a_space a_speed z_steps z_times z_base z_share z_beats z_held z_sort z_size z_shown z_cells z_carried z_words z_tell z_was z_kept z_cutSpace z_cutTimes z_cutOff z_trace v_stretches v_cars v_tunes v_along v_near v_borne v_tempo v_seed v_fault v_from v_at v_end v_told v_wrongAt v_culprit v_ran v_isKept f_kind f_notes f_other f_pitch f_refused f_space f_speed) sz)) 0 0 (va_A (wX10_read cI cJ cS a_o a_kind a_notes a_other a_pitch a_refused a_space a_speed z_steps z_times z_base z_share z_beats z_held z_sort z_size z_shown z_cells z_carried z_words z_tell z_was z_kept z_cutSpace z_cutTimes z_cutOff z_trace v_stretches v_cars v_tunes v_along v_near v_borne v_tempo v_seed v_fault v_from v_at v_end v_told v_wrongAt v_culprit v_ran v_isKept f_kind f_notes f_other f_pitch f_refused f_space f_speed) sz) := by
  refine Met.rw (Qc := fun A => (va_Qi (fun r (u : (Nat → Int32)) => post r u) (fun u t => va_P D vwCl (wX10_read cI cJ cS a_o a_kind a_notes a_other a_pitch a_refused a_space a_speed z_steps z_times z_base z_share z_beats z_held z_sort z_size z_shown z_cells z_carried z_words z_tell z_was z_kept z_cutSpace z_cutTimes z_cutOff z_trace v_stretches v_cars v_tunes v_along v_near v_borne v_tempo v_seed v_fault v_from v_at v_end v_told v_wrongAt v_culprit v_ran v_isKept f_kind f_notes f_other f_pitch u f_space f_speed) t.heap) A)) (by decide) (Nat.le_of_ble_eq_true rfl) (fun p e s m args below meth c ls A (S : CallFix p m c cX10_read 6 s args GW "RoadThatSingsModel") hE hT hP hD hA hS hr hlocks hname hl => ?_)
  have hS0 := hS
  have hx := S.1
  have hb := S.2.1
  have hl : lv_has ls 6 [(0, .ref a_o), (1, .int x1)] := hl
  unfold F_X10_read at h
  refine lv_aload_n hx hb dX10_read_0 rfl (lv_at hl 0 rfl) ?_
  refine lv_iload_n hx hb dX10_read_1 rfl (lv_at hl 1 rfl) ?_
  refine ro_i (roV S hE hT hS (c_X10_isCar h) lkX10_165 rfl ⟨(Nat.le_of_ble_eq_true rfl), (Nat.le_of_ble_eq_true rfl)⟩ (hP.sub [0] rfl) 0 rfl rfl hl.1 rfl (Nat.le_of_ble_eq_true rfl) dX10_read_2 ⟨(Nat.zero_le _), (Nat.zero_le _)⟩) (fun r2 h => ?_)
  refine lv_if_ne (tgt := 14) hx hb dX10_read_5 (by decide) (fun hc => ?_) (fun hc => ?_)
  · have h := h.2 hc
    refine lv_aload_n hx hb dX10_read_14 rfl (lv_at hl 0 rfl) ?_
    refine gf S hE hP 0 rfl rfl inX10 (k := 2) (by decide) q1095 rfl dX10_read_15 ?_
    refine lv_if_ne (tgt := 28) hx hb dX10_read_18 (by decide) (fun hc => ?_) (fun hc => ?_)
    · have h := h.2 hc
      refine lv_iconst (v := 0) hx hb dX10_read_28 (by decide) ?_
      refine lv_istore_n (lv' := [(2, .int 0), (0, .ref a_o), (1, .int x1)]) hx hb dX10_read_29 rfl hl (by decide) rfl (fun ls hl => ?_)
      refine lv_aload_n hx hb dX10_read_30 rfl (lv_at hl 1 rfl) ?_
      refine lv_iload_n hx hb dX10_read_31 rfl (lv_at hl 2 rfl) ?_
      refine lv_iconst (v := 0) hx hb dX10_read_32 (by decide) ?_
      refine ro_i (roV S hE hT hS (c_X10_worstOf h) lkX10_248 rfl ⟨(Nat.le_of_ble_eq_true rfl), (Nat.le_of_ble_eq_true rfl)⟩ (hP.sub [0, 1, 2, 3, 4, 6, 7] rfl) 0 rfl rfl hl.1 rfl (Nat.le_of_ble_eq_true rfl) dX10_read_33 ⟨(Nat.zero_le _), (Nat.zero_le _)⟩) (fun r33 h => ?_)
      refine lv_istore_n (lv' := [(3, .int r33), (2, .int 0), (0, .ref a_o), (1, .int x1)]) hx hb dX10_read_36 rfl hl (by decide) rfl (fun ls hl => ?_)
      refine lv_iconst (v := 1) hx hb dX10_read_37 (by decide) ?_
      refine lv_istore (lv' := [(4, .int 1), (3, .int r33), (2, .int 0), (0, .ref a_o), (1, .int x1)]) hx hb dX10_read_38 hl (by decide) rfl (fun ls hl => ?_)
      obtain ⟨n, h⟩ := h
      refine w_X10_read_40 S hE hT hA hr hlocks n _ _ _ _ _ _ h hP hD hS (lv_sub hl [3, 4, 2, 1, 0] rfl)
    have h := h.1 hc
    refine lv_aload_n hx hb dX10_read_21 rfl (lv_at hl 0 rfl) ?_
    refine lv_bipush (v := (-5)) hx hb dX10_read_22 (by decide) ?_
    refine rw_i (rwV S hE hT hS hP hD hA (c_X10_no h) [0, 5] rfl (by decide) lkX10_121 rfl ⟨(Nat.le_of_ble_eq_true rfl), (Nat.le_of_ble_eq_true rfl)⟩ 0 rfl rfl hl.1 rfl (Nat.le_of_ble_eq_true rfl) dX10_read_24 ⟨(Nat.zero_le _), (Nat.zero_le _)⟩) hP hD hS hA [0, 5] rfl (by decide) (fun _ => rfl) (fun r24 w24_0 H locs h hP hD hS => ?_)
    try dsimp only at h
    have hP : va_P D vwCl (wX10_read cI cJ cS a_o a_kind a_notes a_other a_pitch a_refused a_space a_speed z_steps z_times z_base z_share z_beats z_held z_sort z_size z_shown z_cells z_carried z_words z_tell z_was z_kept z_cutSpace z_cutTimes z_cutOff z_trace v_stretches v_cars v_tunes v_along v_near v_borne v_tempo v_seed v_fault v_from v_at v_end v_told v_wrongAt v_culprit v_ran v_isKept f_kind f_notes f_other f_pitch w24_0 f_space f_speed) H := hP
    have hD : va_D A (wX10_read cI cJ cS a_o a_kind a_notes a_other a_pitch a_refused a_space a_speed z_steps z_times z_base z_share z_beats z_held z_sort z_size z_shown z_cells z_carried z_words z_tell z_was z_kept z_cutSpace z_cutTimes z_cutOff z_trace v_stretches v_cars v_tunes v_along v_near v_borne v_tempo v_seed v_fault v_from v_at v_end v_told v_wrongAt v_culprit v_ran v_isKept f_kind f_notes f_other f_pitch w24_0 f_space f_speed) := hD
    exact W.iret hx hb hr (fun t ht _ => ⟨⟨_, w24_0, rfl, h, hPt hP ht⟩, hS.F ht⟩) hS.2.2 dX10_read_27
  have h := h.1 hc
  refine lv_aload_n hx hb dX10_read_8 rfl (lv_at hl 0 rfl) ?_
  refine lv_iconst (v := (-1)) hx hb dX10_read_9 (by decide) ?_
  refine rw_i (rwV S hE hT hS hP hD hA (c_X10_no h) [0, 5] rfl (by decide) lkX10_121 rfl ⟨(Nat.le_of_ble_eq_true rfl), (Nat.le_of_ble_eq_true rfl)⟩ 0 rfl rfl hl.1 rfl (Nat.le_of_ble_eq_true rfl) dX10_read_10 ⟨(Nat.zero_le _), (Nat.zero_le _)⟩) hP hD hS hA [0, 5] rfl (by decide) (fun _ => rfl) (fun r10 w10_0 H locs h hP hD hS => ?_)
  try dsimp only at h
  have hP : va_P D vwCl (wX10_read cI cJ cS a_o a_kind a_notes a_other a_pitch a_refused a_space a_speed z_steps z_times z_base z_share z_beats z_held z_sort z_size z_shown z_cells z_carried z_words z_tell z_was z_kept z_cutSpace z_cutTimes z_cutOff z_trace v_stretches v_cars v_tunes v_along v_near v_borne v_tempo v_seed v_fault v_from v_at v_end v_told v_wrongAt v_culprit v_ran v_isKept f_kind f_notes f_other f_pitch w10_0 f_space f_speed) H := hP
  have hD : va_D A (wX10_read cI cJ cS a_o a_kind a_notes a_other a_pitch a_refused a_space a_speed z_steps z_times z_base z_share z_beats z_held z_sort z_size z_shown z_cells z_carried z_words z_tell z_was z_kept z_cutSpace z_cutTimes z_cutOff z_trace v_stretches v_cars v_tunes v_along v_near v_borne v_tempo v_seed v_fault v_from v_at v_end v_told v_wrongAt v_culprit v_ran v_isKept f_kind f_notes f_other f_pitch w10_0 f_space f_speed) := hD
  exact W.iret hx hb hr (fun t ht _ => ⟨⟨_, w10_0, rfl, h, hPt hP ht⟩, hS.F ht⟩) hS.2.2 dX10_read_13
/-! X10_mirror -/
abbrev wX10_mirror (cI cJ cS : ClassId) (a_o a_kind a_other a_space : Nat) (z_refused z_steps z_times z_speed z_base z_share z_notes z_pitch z_beats z_held z_sort z_size z_shown z_cells z_carried z_words z_tell z_was z_kept z_cutSpace z_cutTimes z_cutOff z_trace : Value) (v_stretches : Int32) (v_cars : Int32) (v_tunes : Int32) (v_along : Int32) (v_near : Int32) (v_borne : Int32) (v_tempo : Int32) (v_seed : Int32) (v_fault : Int32) (v_from : Int32) (v_at : Int32) (v_end : Int32) (v_told : Int32) (v_wrongAt : Int32) (v_culprit : Int32) (v_ran : Int32) (v_isKept : Int32) (f_kind : Nat → Int32) (f_other : Nat → Int32) (f_space : Nat → Int32) : va_W := [(a_o, .inr (9, [.int v_stretches, .int v_cars, .int v_tunes, .int v_along, .int v_near, .int v_borne, .int v_tempo, .int v_seed, .int v_fault, z_refused, z_steps, .ref a_kind, .ref a_space, .ref a_other, z_times, z_speed, z_base, z_share, z_notes, z_pitch, z_beats, z_held, z_sort, z_size, z_shown, z_cells, z_carried, z_words, z_tell, .int v_from, .int v_at, .int v_end, .int v_told, .int v_wrongAt, z_was, z_kept, .int v_culprit, z_cutSpace, z_cutTimes, z_cutOff, z_trace, .int v_ran, .int v_isKept])), (a_kind, .inl (cI, 16, .inl f_kind)), (a_other, .inl (cI, 16, .inl f_other)), (a_space, .inl (cI, 16, .inl f_space))]
def F_X10_mirror_41 (k4 : Int32 → Int32 → Prop) (x1 : Int32) (x2 : Int32) : Prop := (∀ x2_41 : Int32, x2_41 = x2 + 1 → k4 x1 x2_41)
def L_X10_mirror_4 (v_stretches : Int32) (f_kind : Nat → Int32) (f_other : Nat → Int32) (f_space : Nat → Int32) (post : Int32 → Prop) : Nat → Int32 → Int32 → Prop
  | 0, _, _ => False
  | n4 + 1, x1, x2 => (((v_stretches / 2) ≤ x2 → post x1) ∧ (¬ (v_stretches / 2) ≤ x2 → (F_X10_humOf f_kind f_other f_space x2 10 (fun r18 => (F_X10_humOf f_kind f_other f_space ((v_stretches - 1) - x2) 10 (fun r32 => ((r18 = r32 → F_X10_mirror_41 (fun x1 x2 => L_X10_mirror_4 v_stretches f_kind f_other f_space post n4 x1 x2) x1 x2) ∧ (¬ r18 = r32 → (∀ x1_38 : Int32, x1_38 = x1 + 1 → F_X10_mirror_41 (fun x1 x2 => L_X10_mirror_4 v_stretches f_kind f_other f_space post n4 x1 x2) x1_38 x2)))))))))
def F_X10_mirror (v_stretches : Int32) (f_kind : Nat → Int32) (f_other : Nat → Int32) (f_space : Nat → Int32) (post : Int32 → Prop) : Prop := (∃ n4 : Nat, L_X10_mirror_4 v_stretches f_kind f_other f_space post n4 0 0)
set_option maxHeartbeats 4000000 in
set_option maxRecDepth 100000 in
theorem w_X10_mirror_41 {l : Launch} {D : va_G} {cI cJ cS : ClassId} {ad adK : Nat → Nat} {a_o a_kind a_other a_space : Nat} {z_refused z_steps z_times z_speed z_base z_share z_notes z_pitch z_beats z_held z_sort z_size z_shown z_cells z_carried z_words z_tell z_was z_kept z_cutSpace z_cutTimes z_cutOff z_trace : Value} {v_stretches : Int32} {v_cars : Int32} {v_tunes : Int32} {v_along : Int32} {v_near : Int32} {v_borne : Int32} {v_tempo : Int32} {v_seed : Int32} {v_fault : Int32} {v_from : Int32} {v_at : Int32} {v_end : Int32} {v_told : Int32} {v_wrongAt : Int32} {v_culprit : Int32} {v_ran : Int32} {v_isKept : Int32} {f_kind : Nat → Int32} {f_other : Nat → Int32} {f_space : Nat → Int32} {x1 : Int32} {x2 : Int32} {post : Int32 → Prop} {k4 : Int32 → Int32 → Prop} {p : Program} {e : Env} {s : State} {m : MethodId} {args : Array Value} {below : List Frame} {meth : Method} {c : Code} (S : CallFix p m c cX10_mirror 3 s args GW "RoadThatSingsModel") (hE : EN D cI cJ cS s) (hT : ST ad adK nof s s.heap) (hP : va_P D vwCl (wX10_mirror cI cJ cS a_o a_kind a_other a_space z_refused z_steps z_times z_speed z_base z_share z_notes z_pitch z_beats z_held z_sort z_size z_shown z_cells z_carried z_words z_tell z_was z_kept z_cutSpace z_cutTimes z_cutOff z_trace v_stretches v_cars v_tunes v_along v_near v_borne v_tempo v_seed v_fault v_from v_at v_end v_told v_wrongAt v_culprit v_ran v_isKept f_kind f_other f_space) s.heap) (hS : va_S nof s.heap s.heap []) (hr : meth.sig.returnType = (some (.int))) (hlocks : meth.locks = false) (hk4 : ∀ (x1 : Int32) (x2 : Int32) (ls : Array Slot), k4 x1 x2 → lv_has ls 3 [(0, .ref a_o), (1, .int x1), (2, .int x2)] → W p l e (rmd 2 0 0) s m args below meth c s.heap [] 0 0 (MQ below (vp_Si post) args s 0 0 nof) (F0 m 4 ls [])) : ∀ (ls : Array Slot), F_X10_mirror_41 k4 x1 x2 → lv_has ls 3 [(0, .ref a_o), (1, .int x1), (2, .int x2)] → W p l e (rmd 2 0 0) s m args below meth c s.heap [] 0 0 (MQ below (vp_Si post) args s 0 0 nof) (F0 m 41 ls []) := by
  intro  ls h hl
  unfold F_X10_mirror_41 at h
  have hx := S.1
  have hb := S.2.1
  obtain ⟨x2_41, ex2_41⟩ : ∃ z : Int32, z = x2 + 1 := ⟨_, rfl⟩
  have h := h _ ex2_41
  refine lv_iinc (v := x2_41) (lv' := [(2, .int x2_41), (0, .ref a_o), (1, .int x1)]) hx hb dX10_mirror_41 hl (k := 2) rfl (by rw [ex2_41]; rfl) (by decide) rfl (fun ls hl => ?_)
  refine lv_goto (tgt := 4) hx hb dX10_mirror_44 (by decide) ?_
  exact hk4 _ _ _ h (lv_sub hl [1, 2, 0] rfl)
set_option maxHeartbeats 4000000 in
set_option maxRecDepth 100000 in
theorem w_X10_mirror_4 {l : Launch} {D : va_G} {cI cJ cS : ClassId} {ad adK : Nat → Nat} {a_o a_kind a_other a_space : Nat} {z_refused z_steps z_times z_speed z_base z_share z_notes z_pitch z_beats z_held z_sort z_size z_shown z_cells z_carried z_words z_tell z_was z_kept z_cutSpace z_cutTimes z_cutOff z_trace : Value} {v_stretches : Int32} {v_cars : Int32} {v_tunes : Int32} {v_along : Int32} {v_near : Int32} {v_borne : Int32} {v_tempo : Int32} {v_seed : Int32} {v_fault : Int32} {v_from : Int32} {v_at : Int32} {v_end : Int32} {v_told : Int32} {v_wrongAt : Int32} {v_culprit : Int32} {v_ran : Int32} {v_isKept : Int32} {f_kind : Nat → Int32} {f_other : Nat → Int32} {f_space : Nat → Int32} {post : Int32 → Prop} {p : Program} {e : Env} {s : State} {m : MethodId} {args : Array Value} {below : List Frame} {meth : Method} {c : Code} (S : CallFix p m c cX10_mirror 3 s args GW "RoadThatSingsModel") (hE : EN D cI cJ cS s) (hT : ST ad adK nof s s.heap) (hP : va_P D vwCl (wX10_mirror cI cJ cS a_o a_kind a_other a_space z_refused z_steps z_times z_speed z_base z_share z_notes z_pitch z_beats z_held z_sort z_size z_shown z_cells z_carried z_words z_tell z_was z_kept z_cutSpace z_cutTimes z_cutOff z_trace v_stretches v_cars v_tunes v_along v_near v_borne v_tempo v_seed v_fault v_from v_at v_end v_told v_wrongAt v_culprit v_ran v_isKept f_kind f_other f_space) s.heap) (hS : va_S nof s.heap s.heap []) (hr : meth.sig.returnType = (some (.int))) (hlocks : meth.locks = false) : ∀ n : Nat, ∀ (x1 : Int32) (x2 : Int32) (ls : Array Slot), L_X10_mirror_4 v_stretches f_kind f_other f_space post n x1 x2 → lv_has ls 3 [(0, .ref a_o), (1, .int x1), (2, .int x2)] → W p l e (rmd 2 0 0) s m args below meth c s.heap [] 0 0 (MQ below (vp_Si post) args s 0 0 nof) (F0 m 4 ls []) := by
  intro n
  induction n with
  | zero =>
    intro x1 x2 ls h hl
    exact h.elim
  | succ n ih =>
    intro x1 x2 ls h hl
    rw [L_X10_mirror_4] at h
    have hx := S.1
    have hb := S.2.1
    refine lv_iload_n hx hb dX10_mirror_4 rfl (lv_at hl 2 rfl) ?_
    refine lv_aload_n hx hb dX10_mirror_5 rfl (lv_at hl 0 rfl) ?_
    refine gf S hE hP 0 rfl rfl inX10 (k := 0) (by decide) q1093 rfl dX10_mirror_6 ?_
    refine lv_iconst (v := 2) hx hb dX10_mirror_9 (by decide) ?_
    refine lv_idiv hx hb dX10_mirror_10 (by decide) ?_
    refine lv_icmp_ge (tgt := 47) hx hb dX10_mirror_11 (by decide) (fun hc => ?_) (fun hc => ?_)
    · have h := h.1 hc
      refine lv_iload_n hx hb dX10_mirror_47 rfl (lv_at hl 1 rfl) ?_
      exact W.iret hx hb hr (fun t ht _ => ⟨_, rfl, h, ht⟩) (fun _ hq => by cases hq) dX10_mirror_48
    have h := h.2 hc
    refine lv_aload_n hx hb dX10_mirror_14 rfl (lv_at hl 0 rfl) ?_
    refine lv_iload_n hx hb dX10_mirror_15 rfl (lv_at hl 2 rfl) ?_
    refine lv_bipush (v := 10) hx hb dX10_mirror_16 (by decide) ?_
    refine ro_i (roV S hE hT hS (c_X10_humOf h) lkX10_232 rfl ⟨(Nat.le_of_ble_eq_true rfl), (Nat.le_of_ble_eq_true rfl)⟩ (hP.sub [0, 1, 2, 3] rfl) 0 rfl rfl hl.1 rfl (Nat.le_of_ble_eq_true rfl) dX10_mirror_18 ⟨(Nat.zero_le _), (Nat.zero_le _)⟩) (fun r18 h => ?_)
    refine lv_aload_n hx hb dX10_mirror_21 rfl (lv_at hl 0 rfl) ?_
    refine lv_aload_n hx hb dX10_mirror_22 rfl (lv_at hl 0 rfl) ?_
    refine gf S hE hP 0 rfl rfl inX10 (k := 0) (by decide) q1093 rfl dX10_mirror_23 ?_
    refine lv_iconst (v := 1) hx hb dX10_mirror_26 (by decide) ?_
    refine lv_isub hx hb dX10_mirror_27 ?_
    refine lv_iload_n hx hb dX10_mirror_28 rfl (lv_at hl 2 rfl) ?_
    refine lv_isub hx hb dX10_mirror_29 ?_
    refine lv_bipush (v := 10) hx hb dX10_mirror_30 (by decide) ?_
    refine ro_i (roV S hE hT hS (c_X10_humOf h) lkX10_232 rfl ⟨(Nat.le_of_ble_eq_true rfl), (Nat.le_of_ble_eq_true rfl)⟩ (hP.sub [0, 1, 2, 3] rfl) 0 rfl rfl hl.1 rfl (Nat.le_of_ble_eq_true rfl) dX10_mirror_32 ⟨(Nat.zero_le _), (Nat.zero_le _)⟩) (fun r32 h => ?_)
    refine lv_icmp_eq (tgt := 41) hx hb dX10_mirror_35 (by decide) (fun hc => ?_) (fun hc => ?_)
    · have h := h.1 hc
      refine w_X10_mirror_41 S hE hT hP hS hr hlocks ih _ h (lv_sub hl [0, 1, 2] rfl)
    have h := h.2 hc
    obtain ⟨x1_38, ex1_38⟩ : ∃ z : Int32, z = x1 + 1 := ⟨_, rfl⟩
    have h := h _ ex1_38
    refine lv_iinc (v := x1_38) (lv' := [(1, .int x1_38), (0, .ref a_o), (2, .int x2)]) hx hb dX10_mirror_38 hl (k := 1) rfl (by rw [ex1_38]; rfl) (by decide) rfl (fun ls hl => ?_)
    refine w_X10_mirror_41 S hE hT hP hS hr hlocks ih _ h (lv_sub hl [1, 0, 2] rfl)
set_option maxHeartbeats 4000000 in
set_option maxRecDepth 100000 in
theorem c_X10_mirror {l : Launch} {D : va_G} {cI cJ cS : ClassId} {ad adK : Nat → Nat} {a_o a_kind a_other a_space : Nat} {z_refused z_steps z_times z_speed z_base z_share z_notes z_pitch z_beats z_held z_sort z_size z_shown z_cells z_carried z_words z_tell z_was z_kept z_cutSpace z_cutTimes z_cutOff z_trace : Value} {v_stretches : Int32} {v_cars : Int32} {v_tunes : Int32} {v_along : Int32} {v_near : Int32} {v_borne : Int32} {v_tempo : Int32} {v_seed : Int32} {v_fault : Int32} {v_from : Int32} {v_at : Int32} {v_end : Int32} {v_told : Int32} {v_wrongAt : Int32} {v_culprit : Int32} {v_ran : Int32} {v_isKept : Int32} {f_kind : Nat → Int32} {f_other : Nat → Int32} {f_space : Nat → Int32} {post : Int32 → Prop} (h : F_X10_mirror v_stretches f_kind f_other f_space post) : Met l yX10_mirror (Cond.code yX10_mirror cX10_mirror 3 (some (.int)) :: GW) (rmd 2 0 0) (PR D cI cJ cS ad adK [.ref a_o] (wX10_mirror cI cJ cS a_o a_kind a_other a_space z_refused z_steps z_times z_speed z_base z_share z_notes z_pitch z_beats z_held z_sort z_size z_shown z_cells z_carried z_words z_tell z_was z_kept z_cutSpace z_cutTimes z_cutOff z_trace v_stretches v_cars v_tunes v_along v_near v_borne v_tempo v_seed v_fault v_from v_at v_end v_told v_wrongAt v_culprit v_ran v_isKept f_kind f_other f_space)) (vp_Si post) 0 0 nof := by
  refine Met.ro (by decide) (Nat.le_of_ble_eq_true rfl) (fun p e s m args below meth c ls (S : CallFix p m c cX10_mirror 3 s args GW "RoadThatSingsModel") hE hT hP hS hr hlocks hl => ?_)
  have hx := S.1
  have hb := S.2.1
  have hl : lv_has ls 3 [(0, .ref a_o)] := hl
  unfold F_X10_mirror at h
  refine lv_iconst (v := 0) hx hb dX10_mirror_0 (by decide) ?_
  refine lv_istore_n (lv' := [(1, .int 0), (0, .ref a_o)]) hx hb dX10_mirror_1 rfl hl (by decide) rfl (fun ls hl => ?_)
  refine lv_iconst (v := 0) hx hb dX10_mirror_2 (by decide) ?_
  refine lv_istore_n (lv' := [(2, .int 0), (1, .int 0), (0, .ref a_o)]) hx hb dX10_mirror_3 rfl hl (by decide) rfl (fun ls hl => ?_)
  obtain ⟨n, h⟩ := h
  refine w_X10_mirror_4 S hE hT hP hS hr hlocks n _ _ _ h (lv_sub hl [2, 1, 0] rfl)
/-! X10_warns -/
abbrev wX10_warns (cI cJ cS : ClassId) (a_o a_kind a_other a_refused a_space : Nat) (z_steps z_times z_speed z_base z_share z_notes z_pitch z_beats z_held z_sort z_size z_shown z_cells z_carried z_words z_tell z_was z_kept z_cutSpace z_cutTimes z_cutOff z_trace : Value) (v_stretches : Int32) (v_cars : Int32) (v_tunes : Int32) (v_along : Int32) (v_near : Int32) (v_borne : Int32) (v_tempo : Int32) (v_seed : Int32) (v_fault : Int32) (v_from : Int32) (v_at : Int32) (v_end : Int32) (v_told : Int32) (v_wrongAt : Int32) (v_culprit : Int32) (v_ran : Int32) (v_isKept : Int32) (f_kind : Nat → Int32) (f_other : Nat → Int32) (f_refused : Nat → Int32) (f_space : Nat → Int32) : va_W := [(a_o, .inr (9, [.int v_stretches, .int v_cars, .int v_tunes, .int v_along, .int v_near, .int v_borne, .int v_tempo, .int v_seed, .int v_fault, .ref a_refused, z_steps, .ref a_kind, .ref a_space, .ref a_other, z_times, z_speed, z_base, z_share, z_notes, z_pitch, z_beats, z_held, z_sort, z_size, z_shown, z_cells, z_carried, z_words, z_tell, .int v_from, .int v_at, .int v_end, .int v_told, .int v_wrongAt, z_was, z_kept, .int v_culprit, z_cutSpace, z_cutTimes, z_cutOff, z_trace, .int v_ran, .int v_isKept])), (a_kind, .inl (cI, 16, .inl f_kind)), (a_other, .inl (cI, 16, .inl f_other)), (a_refused, .inl (cI, 8, .inl f_refused)), (a_space, .inl (cI, 16, .inl f_space))]
def L_X10_warns_27 (v_stretches : Int32) (f_kind : Nat → Int32) (f_other : Nat → Int32) (f_space : Nat → Int32) (x1 : Int32) (x2 : Int32) (f_refused : Nat → Int32) (post : Int32 → (Nat → Int32) → Prop) (k19 : Int32 → Prop) : Nat → Int32 → Prop
  | 0, _ => False
  | n27 + 1, x3 => ((v_stretches ≤ x3 → (∀ x2_53 : Int32, x2_53 = x2 + 1 → k19 x2_53)) ∧ (¬ v_stretches ≤ x3 → (F_X10_humOf f_kind f_other f_space x3 x2 (fun r38 => ((r38 < x1 → (∀ x3_47 : Int32, x3_47 = x3 + 1 → L_X10_warns_27 v_stretches f_kind f_other f_space x1 x2 f_refused post k19 n27 x3_47)) ∧ (¬ r38 < x1 → post x2 f_refused))))))
def L_X10_warns_19 (v_stretches : Int32) (f_kind : Nat → Int32) (f_other : Nat → Int32) (f_space : Nat → Int32) (x1 : Int32) (f_refused : Nat → Int32) (post : Int32 → (Nat → Int32) → Prop) : Nat → Int32 → Prop
  | 0, _ => False
  | n19 + 1, x2 => ((100 ≤ x2 → post (-1) f_refused) ∧ (¬ 100 ≤ x2 → (∃ n27 : Nat, L_X10_warns_27 v_stretches f_kind f_other f_space x1 x2 f_refused post (fun x2 => L_X10_warns_19 v_stretches f_kind f_other f_space x1 f_refused post n19 x2) n27 0)))
def F_X10_warns (v_stretches : Int32) (f_kind : Nat → Int32) (f_other : Nat → Int32) (f_refused : Nat → Int32) (f_space : Nat → Int32) (x1 : Int32) (post : Int32 → (Nat → Int32) → Prop) : Prop := ((x1 < 0 → (F_X10_noTen f_refused (-6) (fun r13 w13_0 => post r13 w13_0))) ∧ (¬ x1 < 0 → ((x1 ≤ 99999 → (∃ n19 : Nat, L_X10_warns_19 v_stretches f_kind f_other f_space x1 f_refused post n19 1)) ∧ (¬ x1 ≤ 99999 → (F_X10_noTen f_refused (-6) (fun r13 w13_0 => post r13 w13_0))))))
set_option maxHeartbeats 4000000 in
set_option maxRecDepth 100000 in
theorem w_X10_warns_27 {l : Launch} {D : va_G} {cI cJ cS : ClassId} {ad adK : Nat → Nat} {a_o a_kind a_other a_refused a_space : Nat} {z_steps z_times z_speed z_base z_share z_notes z_pitch z_beats z_held z_sort z_size z_shown z_cells z_carried z_words z_tell z_was z_kept z_cutSpace z_cutTimes z_cutOff z_trace : Value} {v_stretches : Int32} {v_cars : Int32} {v_tunes : Int32} {v_along : Int32} {v_near : Int32} {v_borne : Int32} {v_tempo : Int32} {v_seed : Int32} {v_fault : Int32} {v_from : Int32} {v_at : Int32} {v_end : Int32} {v_told : Int32} {v_wrongAt : Int32} {v_culprit : Int32} {v_ran : Int32} {v_isKept : Int32} {f_kind : Nat → Int32} {f_other : Nat → Int32} {f_refused : Nat → Int32} {f_space : Nat → Int32} {x1 : Int32} {x2 : Int32} {post : Int32 → (Nat → Int32) → Prop} {k19 : Int32 → Prop} {p : Program} {e : Env} {s : State} {m : MethodId} {args : Array Value} {below : List Frame} {meth : Method} {c : Code} {A : Nat → Prop} (S : CallFix p m c cX10_warns 4 s args GW "RoadThatSingsModel") (hE : EN D cI cJ cS s) (hT : ST ad adK A s s.heap) (hA : ∀ q : Nat, s.heap.size ≤ q → A q) (hr : meth.sig.returnType = (some (.int))) (hlocks : meth.locks = false) (hk19 : ∀ (x2 : Int32) (H : Heap) (locs : List Loc) (ls : Array Slot), k19 x2 → va_P D vwCl (wX10_warns cI cJ cS a_o a_kind a_other a_refused a_space z_steps z_times z_speed z_base z_share z_notes z_pitch z_beats z_held z_sort z_size z_shown z_cells z_carried z_words z_tell z_was z_kept z_cutSpace z_cutTimes z_cutOff z_trace v_stretches v_cars v_tunes v_along v_near v_borne v_tempo v_seed v_fault v_from v_at v_end v_told v_wrongAt v_culprit v_ran v_isKept f_kind f_other f_refused f_space) H → va_D A (wX10_warns cI cJ cS a_o a_kind a_other a_refused a_space z_steps z_times z_speed z_base z_share z_notes z_pitch z_beats z_held z_sort z_size z_shown z_cells z_carried z_words z_tell z_was z_kept z_cutSpace z_cutTimes z_cutOff z_trace v_stretches v_cars v_tunes v_along v_near v_borne v_tempo v_seed v_fault v_from v_at v_end v_told v_wrongAt v_culprit v_ran v_isKept f_kind f_other f_refused f_space) → va_S A s.heap H locs → lv_has ls 4 [(0, .ref a_o), (1, .int x1), (2, .int x2)] → W p l e (rmd 2 0 0) s m args below meth c H locs 0 0 (MQ below (va_Qi (fun r (u : (Nat → Int32)) => post r u) (fun u t => va_P D vwCl (wX10_warns cI cJ cS a_o a_kind a_other a_refused a_space z_steps z_times z_speed z_base z_share z_notes z_pitch z_beats z_held z_sort z_size z_shown z_cells z_carried z_words z_tell z_was z_kept z_cutSpace z_cutTimes z_cutOff z_trace v_stretches v_cars v_tunes v_along v_near v_borne v_tempo v_seed v_fault v_from v_at v_end v_told v_wrongAt v_culprit v_ran v_isKept f_kind f_other u f_space) t.heap) A) args s 0 0 A) (F0 m 19 ls [])) : ∀ n : Nat, ∀ (x3 : Int32) (H : Heap) (locs : List Loc) (ls : Array Slot), L_X10_warns_27 v_stretches f_kind f_other f_space x1 x2 f_refused post k19 n x3 → va_P D vwCl (wX10_warns cI cJ cS a_o a_kind a_other a_refused a_space z_steps z_times z_speed z_base z_share z_notes z_pitch z_beats z_held z_sort z_size z_shown z_cells z_carried z_words z_tell z_was z_kept z_cutSpace z_cutTimes z_cutOff z_trace v_stretches v_cars v_tunes v_along v_near v_borne v_tempo v_seed v_fault v_from v_at v_end v_told v_wrongAt v_culprit v_ran v_isKept f_kind f_other f_refused f_space) H → va_D A (wX10_warns cI cJ cS a_o a_kind a_other a_refused a_space z_steps z_times z_speed z_base z_share z_notes z_pitch z_beats z_held z_sort z_size z_shown z_cells z_carried z_words z_tell z_was z_kept z_cutSpace z_cutTimes z_cutOff z_trace v_stretches v_cars v_tunes v_along v_near v_borne v_tempo v_seed v_fault v_from v_at v_end v_told v_wrongAt v_culprit v_ran v_isKept f_kind f_other f_refused f_space) → va_S A s.heap H locs → lv_has ls 4 [(0, .ref a_o), (1, .int x1), (2, .int x2), (3, .int x3)] → W p l e (rmd 2 0 0) s m args below meth c H locs 0 0 (MQ below (va_Qi (fun r (u : (Nat → Int32)) => post r u) (fun u t => va_P D vwCl (wX10_warns cI cJ cS a_o a_kind a_other a_refused a_space z_steps z_times z_speed z_base z_share z_notes z_pitch z_beats z_held z_sort z_size z_shown z_cells z_carried z_words z_tell z_was z_kept z_cutSpace z_cutTimes z_cutOff z_trace v_stretches v_cars v_tunes v_along v_near v_borne v_tempo v_seed v_fault v_from v_at v_end v_told v_wrongAt v_culprit v_ran v_isKept f_kind f_other u f_space) t.heap) A) args s 0 0 A) (F0 m 27 ls []) := by
  intro n
  induction n with
  | zero =>
    intro x3 H locs ls h hP hD hS hl
    exact h.elim
  | succ n ih =>
    intro x3 H locs ls h hP hD hS hl
    rw [L_X10_warns_27] at h
    have hx := S.1
    have hb := S.2.1
    refine lv_iload_n hx hb dX10_warns_27 rfl (lv_at hl 3 rfl) ?_
    refine lv_aload_n hx hb dX10_warns_28 rfl (lv_at hl 0 rfl) ?_
    refine gf S hE hP 0 rfl rfl inX10 (k := 0) (by decide) q1093 rfl dX10_warns_29 ?_
    refine lv_icmp_ge (tgt := 53) hx hb dX10_warns_32 (by decide) (fun hc => ?_) (fun hc => ?_)
    · have h := h.1 hc
      obtain ⟨x2_53, ex2_53⟩ : ∃ z : Int32, z = x2 + 1 := ⟨_, rfl⟩
      have h := h _ ex2_53
      refine lv_iinc (v := x2_53) (lv' := [(2, .int x2_53), (0, .ref a_o), (1, .int x1), (3, .int x3)]) hx hb dX10_warns_53 hl (k := 2) rfl (by rw [ex2_53]; rfl) (by decide) rfl (fun ls hl => ?_)
      refine lv_goto (tgt := 19) hx hb dX10_warns_56 (by decide) ?_
      exact hk19 _ _ _ _ h hP hD hS (lv_sub hl [1, 2, 0] rfl)
    have h := h.2 hc
    refine lv_aload_n hx hb dX10_warns_35 rfl (lv_at hl 0 rfl) ?_
    refine lv_iload_n hx hb dX10_warns_36 rfl (lv_at hl 3 rfl) ?_
    refine lv_iload_n hx hb dX10_warns_37 rfl (lv_at hl 2 rfl) ?_
    refine ro_i (roV S hE hT hS (c_X10_humOf h) lkX10_232 rfl ⟨(Nat.le_of_ble_eq_true rfl), (Nat.le_of_ble_eq_true rfl)⟩ (hP.sub [0, 1, 2, 4] rfl) 0 rfl rfl hl.1 rfl (Nat.le_of_ble_eq_true rfl) dX10_warns_38 ⟨(Nat.zero_le _), (Nat.zero_le _)⟩) (fun r38 h => ?_)
    refine lv_iload_n hx hb dX10_warns_41 rfl (lv_at hl 1 rfl) ?_
    refine lv_icmp_lt (tgt := 47) hx hb dX10_warns_42 (by decide) (fun hc => ?_) (fun hc => ?_)
    · have h := h.1 hc
      obtain ⟨x3_47, ex3_47⟩ : ∃ z : Int32, z = x3 + 1 := ⟨_, rfl⟩
      have h := h _ ex3_47
      refine lv_iinc (v := x3_47) (lv' := [(3, .int x3_47), (0, .ref a_o), (1, .int x1), (2, .int x2)]) hx hb dX10_warns_47 hl (k := 3) rfl (by rw [ex3_47]; rfl) (by decide) rfl (fun ls hl => ?_)
      refine lv_goto (tgt := 27) hx hb dX10_warns_50 (by decide) ?_
      exact ih _ _ _ _ h hP hD hS (lv_sub hl [1, 2, 3, 0] rfl)
    have h := h.2 hc
    refine lv_iload_n hx hb dX10_warns_45 rfl (lv_at hl 2 rfl) ?_
    exact W.iret hx hb hr (fun t ht _ => ⟨⟨_, f_refused, rfl, h, hPt hP ht⟩, hS.F ht⟩) hS.2.2 dX10_warns_46
set_option maxHeartbeats 4000000 in
set_option maxRecDepth 100000 in
theorem w_X10_warns_19 {l : Launch} {D : va_G} {cI cJ cS : ClassId} {ad adK : Nat → Nat} {a_o a_kind a_other a_refused a_space : Nat} {z_steps z_times z_speed z_base z_share z_notes z_pitch z_beats z_held z_sort z_size z_shown z_cells z_carried z_words z_tell z_was z_kept z_cutSpace z_cutTimes z_cutOff z_trace : Value} {v_stretches : Int32} {v_cars : Int32} {v_tunes : Int32} {v_along : Int32} {v_near : Int32} {v_borne : Int32} {v_tempo : Int32} {v_seed : Int32} {v_fault : Int32} {v_from : Int32} {v_at : Int32} {v_end : Int32} {v_told : Int32} {v_wrongAt : Int32} {v_culprit : Int32} {v_ran : Int32} {v_isKept : Int32} {f_kind : Nat → Int32} {f_other : Nat → Int32} {f_refused : Nat → Int32} {f_space : Nat → Int32} {x1 : Int32} {post : Int32 → (Nat → Int32) → Prop} {p : Program} {e : Env} {s : State} {m : MethodId} {args : Array Value} {below : List Frame} {meth : Method} {c : Code} {A : Nat → Prop} (S : CallFix p m c cX10_warns 4 s args GW "RoadThatSingsModel") (hE : EN D cI cJ cS s) (hT : ST ad adK A s s.heap) (hA : ∀ q : Nat, s.heap.size ≤ q → A q) (hr : meth.sig.returnType = (some (.int))) (hlocks : meth.locks = false) : ∀ n : Nat, ∀ (x2 : Int32) (H : Heap) (locs : List Loc) (ls : Array Slot), L_X10_warns_19 v_stretches f_kind f_other f_space x1 f_refused post n x2 → va_P D vwCl (wX10_warns cI cJ cS a_o a_kind a_other a_refused a_space z_steps z_times z_speed z_base z_share z_notes z_pitch z_beats z_held z_sort z_size z_shown z_cells z_carried z_words z_tell z_was z_kept z_cutSpace z_cutTimes z_cutOff z_trace v_stretches v_cars v_tunes v_along v_near v_borne v_tempo v_seed v_fault v_from v_at v_end v_told v_wrongAt v_culprit v_ran v_isKept f_kind f_other f_refused f_space) H → va_D A (wX10_warns cI cJ cS a_o a_kind a_other a_refused a_space z_steps z_times z_speed z_base z_share z_notes z_pitch z_beats z_held z_sort z_size z_shown z_cells z_carried z_words z_tell z_was z_kept z_cutSpace z_cutTimes z_cutOff z_trace v_stretches v_cars v_tunes v_along v_near v_borne v_tempo v_seed v_fault v_from v_at v_end v_told v_wrongAt v_culprit v_ran v_isKept f_kind f_other f_refused f_space) → va_S A s.heap H locs → lv_has ls 4 [(0, .ref a_o), (1, .int x1), (2, .int x2)] → W p l e (rmd 2 0 0) s m args below meth c H locs 0 0 (MQ below (va_Qi (fun r (u : (Nat → Int32)) => post r u) (fun u t => va_P D vwCl (wX10_warns cI cJ cS a_o a_kind a_other a_refused a_space z_steps z_times z_speed z_base z_share z_notes z_pitch z_beats z_held z_sort z_size z_shown z_cells z_carried z_words z_tell z_was z_kept z_cutSpace z_cutTimes z_cutOff z_trace v_stretches v_cars v_tunes v_along v_near v_borne v_tempo v_seed v_fault v_from v_at v_end v_told v_wrongAt v_culprit v_ran v_isKept f_kind f_other u f_space) t.heap) A) args s 0 0 A) (F0 m 19 ls []) := by
  intro n
  induction n with
  | zero =>
    intro x2 H locs ls h hP hD hS hl
    exact h.elim
  | succ n ih =>
    intro x2 H locs ls h hP hD hS hl
    rw [L_X10_warns_19] at h
    have hx := S.1
    have hb := S.2.1
    refine lv_iload_n hx hb dX10_warns_19 rfl (lv_at hl 2 rfl) ?_
    refine lv_bipush (v := 100) hx hb dX10_warns_20 (by decide) ?_
    refine lv_icmp_ge (tgt := 59) hx hb dX10_warns_22 (by decide) (fun hc => ?_) (fun hc => ?_)
    · have h := h.1 hc
      refine lv_iconst (v := (-1)) hx hb dX10_warns_59 (by decide) ?_
      exact W.iret hx hb hr (fun t ht _ => ⟨⟨_, f_refused, rfl, h, hPt hP ht⟩, hS.F ht⟩) hS.2.2 dX10_warns_60
    have h := h.2 hc
    refine lv_iconst (v := 0) hx hb dX10_warns_25 (by decide) ?_
    refine lv_istore_n (lv' := [(3, .int 0), (0, .ref a_o), (1, .int x1), (2, .int x2)]) hx hb dX10_warns_26 rfl hl (by decide) rfl (fun ls hl => ?_)
    obtain ⟨n, h⟩ := h
    refine w_X10_warns_27 S hE hT hA hr hlocks ih n _ _ _ _ h hP hD hS (lv_sub hl [1, 2, 3, 0] rfl)
set_option maxHeartbeats 4000000 in
set_option maxRecDepth 100000 in
theorem c_X10_warns {l : Launch} {D : va_G} {cI cJ cS : ClassId} {ad adK : Nat → Nat} {a_o a_kind a_other a_refused a_space : Nat} {z_steps z_times z_speed z_base z_share z_notes z_pitch z_beats z_held z_sort z_size z_shown z_cells z_carried z_words z_tell z_was z_kept z_cutSpace z_cutTimes z_cutOff z_trace : Value} {v_stretches : Int32} {v_cars : Int32} {v_tunes : Int32} {v_along : Int32} {v_near : Int32} {v_borne : Int32} {v_tempo : Int32} {v_seed : Int32} {v_fault : Int32} {v_from : Int32} {v_at : Int32} {v_end : Int32} {v_told : Int32} {v_wrongAt : Int32} {v_culprit : Int32} {v_ran : Int32} {v_isKept : Int32} {f_kind : Nat → Int32} {f_other : Nat → Int32} {f_refused : Nat → Int32} {f_space : Nat → Int32} {x1 : Int32} {post : Int32 → (Nat → Int32) → Prop} (h : F_X10_warns v_stretches f_kind f_other f_refused f_space x1 post) {sz : Nat} : Met l yX10_warns (Cond.code yX10_warns cX10_warns 4 (some (.int)) :: GW) (rmd 2 0 0) (PW D cI cJ cS ad adK [.ref a_o, .int x1] (wX10_warns cI cJ cS a_o a_kind a_other a_refused a_space z_steps z_times z_speed z_base z_share z_notes z_pitch z_beats z_held z_sort z_size z_shown z_cells z_carried z_words z_tell z_was z_kept z_cutSpace z_cutTimes z_cutOff z_trace v_stretches v_cars v_tunes v_along v_near v_borne v_tempo v_seed v_fault v_from v_at v_end v_told v_wrongAt v_culprit v_ran v_isKept f_kind f_other f_refused f_space) sz) (va_Qi (fun r (u : (Nat → Int32)) => post r u) (fun u t => va_P D vwCl (wX10_warns cI cJ cS a_o a_kind a_other a_refused a_space z_steps z_times z_speed z_base z_share z_notes z_pitch z_beats z_held z_sort z_size z_shown z_cells z_carried z_words z_tell z_was z_kept z_cutSpace z_cutTimes z_cutOff z_trace v_stretches v_cars v_tunes v_along v_near v_borne v_tempo v_seed v_fault v_from v_at v_end v_told v_wrongAt v_culprit v_ran v_isKept f_kind f_other u f_space) t.heap) (va_A (wX10_warns cI cJ cS a_o a_kind a_other a_refused a_space z_steps z_times z_speed z_base z_share z_notes z_pitch z_beats z_held z_sort z_size z_shown z_cells z_carried z_words z_tell z_was z_kept z_cutSpace z_cutTimes z_cutOff z_trace v_stretches v_cars v_tunes v_along v_near v_borne v_tempo v_seed v_fault v_from v_at v_end v_told v_wrongAt v_culprit v_ran v_isKept f_kind f_other f_refused f_space) sz)) 0 0 (va_A (wX10_warns cI cJ cS a_o a_kind a_other a_refused a_space z_steps z_times z_speed z_base z_share z_notes z_pitch z_beats z_held z_sort z_size z_shown z_cells z_carried z_words z_tell z_was z_kept z_cutSpace z_cutTimes z_cutOff z_trace v_stretches v_cars v_tunes v_along v_near v_borne v_tempo v_seed v_fault v_from v_at v_end v_told v_wrongAt v_culprit v_ran v_isKept f_kind f_other f_refused f_space) sz) := by
  refine Met.rw (Qc := fun A => (va_Qi (fun r (u : (Nat → Int32)) => post r u) (fun u t => va_P D vwCl (wX10_warns cI cJ cS a_o a_kind a_other a_refused a_space z_steps z_times z_speed z_base z_share z_notes z_pitch z_beats z_held z_sort z_size z_shown z_cells z_carried z_words z_tell z_was z_kept z_cutSpace z_cutTimes z_cutOff z_trace v_stretches v_cars v_tunes v_along v_near v_borne v_tempo v_seed v_fault v_from v_at v_end v_told v_wrongAt v_culprit v_ran v_isKept f_kind f_other u f_space) t.heap) A)) (by decide) (Nat.le_of_ble_eq_true rfl) (fun p e s m args below meth c ls A (S : CallFix p m c cX10_warns 4 s args GW "RoadThatSingsModel") hE hT hP hD hA hS hr hlocks hname hl => ?_)
  have hS0 := hS
  have hx := S.1
  have hb := S.2.1
  have hl : lv_has ls 4 [(0, .ref a_o), (1, .int x1)] := hl
  unfold F_X10_warns at h
  refine lv_iload_n hx hb dX10_warns_0 rfl (lv_at hl 1 rfl) ?_
  refine lv_if_lt (tgt := 10) hx hb dX10_warns_1 (by decide) (fun hc => ?_) (fun hc => ?_)
  · have h := h.1 hc
    refine lv_aload_n hx hb dX10_warns_10 rfl (lv_at hl 0 rfl) ?_
    refine lv_bipush (v := (-6)) hx hb dX10_warns_11 (by decide) ?_
    refine rw_i (rwV S hE hT hS hP hD hA (c_X10_noTen h) [0, 3] rfl (by decide) lkX10_274 rfl ⟨(Nat.le_of_ble_eq_true rfl), (Nat.le_of_ble_eq_true rfl)⟩ 0 rfl rfl hl.1 rfl (Nat.le_of_ble_eq_true rfl) dX10_warns_13 ⟨(Nat.zero_le _), (Nat.zero_le _)⟩) hP hD hS hA [0, 3] rfl (by decide) (fun _ => rfl) (fun r13 w13_0 H locs h hP hD hS => ?_)
    try dsimp only at h
    have hP : va_P D vwCl (wX10_warns cI cJ cS a_o a_kind a_other a_refused a_space z_steps z_times z_speed z_base z_share z_notes z_pitch z_beats z_held z_sort z_size z_shown z_cells z_carried z_words z_tell z_was z_kept z_cutSpace z_cutTimes z_cutOff z_trace v_stretches v_cars v_tunes v_along v_near v_borne v_tempo v_seed v_fault v_from v_at v_end v_told v_wrongAt v_culprit v_ran v_isKept f_kind f_other w13_0 f_space) H := hP
    have hD : va_D A (wX10_warns cI cJ cS a_o a_kind a_other a_refused a_space z_steps z_times z_speed z_base z_share z_notes z_pitch z_beats z_held z_sort z_size z_shown z_cells z_carried z_words z_tell z_was z_kept z_cutSpace z_cutTimes z_cutOff z_trace v_stretches v_cars v_tunes v_along v_near v_borne v_tempo v_seed v_fault v_from v_at v_end v_told v_wrongAt v_culprit v_ran v_isKept f_kind f_other w13_0 f_space) := hD
    exact W.iret hx hb hr (fun t ht _ => ⟨⟨_, w13_0, rfl, h, hPt hP ht⟩, hS.F ht⟩) hS.2.2 dX10_warns_16
  have h := h.2 hc
  refine lv_iload_n hx hb dX10_warns_4 rfl (lv_at hl 1 rfl) ?_
  refine lv_ldc (v := 99999) hx hb S.2.2.2.1 (S.2.2.2.2 _ q1443) dX10_warns_5 ?_
  refine lv_icmp_le (tgt := 17) hx hb dX10_warns_7 (by decide) (fun hc => ?_) (fun hc => ?_)
  · have h := h.1 hc
    refine lv_iconst (v := 1) hx hb dX10_warns_17 (by decide) ?_
    refine lv_istore_n (lv' := [(2, .int 1), (0, .ref a_o), (1, .int x1)]) hx hb dX10_warns_18 rfl hl (by decide) rfl (fun ls hl => ?_)
    obtain ⟨n, h⟩ := h
    refine w_X10_warns_19 S hE hT hA hr hlocks n _ _ _ _ h hP hD hS (lv_sub hl [1, 2, 0] rfl)
  have h := h.2 hc
  refine lv_aload_n hx hb dX10_warns_10 rfl (lv_at hl 0 rfl) ?_
  refine lv_bipush (v := (-6)) hx hb dX10_warns_11 (by decide) ?_
  refine rw_i (rwV S hE hT hS hP hD hA (c_X10_noTen h) [0, 3] rfl (by decide) lkX10_274 rfl ⟨(Nat.le_of_ble_eq_true rfl), (Nat.le_of_ble_eq_true rfl)⟩ 0 rfl rfl hl.1 rfl (Nat.le_of_ble_eq_true rfl) dX10_warns_13 ⟨(Nat.zero_le _), (Nat.zero_le _)⟩) hP hD hS hA [0, 3] rfl (by decide) (fun _ => rfl) (fun r13 w13_0 H locs h hP hD hS => ?_)
  try dsimp only at h
  have hP : va_P D vwCl (wX10_warns cI cJ cS a_o a_kind a_other a_refused a_space z_steps z_times z_speed z_base z_share z_notes z_pitch z_beats z_held z_sort z_size z_shown z_cells z_carried z_words z_tell z_was z_kept z_cutSpace z_cutTimes z_cutOff z_trace v_stretches v_cars v_tunes v_along v_near v_borne v_tempo v_seed v_fault v_from v_at v_end v_told v_wrongAt v_culprit v_ran v_isKept f_kind f_other w13_0 f_space) H := hP
  have hD : va_D A (wX10_warns cI cJ cS a_o a_kind a_other a_refused a_space z_steps z_times z_speed z_base z_share z_notes z_pitch z_beats z_held z_sort z_size z_shown z_cells z_carried z_words z_tell z_was z_kept z_cutSpace z_cutTimes z_cutOff z_trace v_stretches v_cars v_tunes v_along v_near v_borne v_tempo v_seed v_fault v_from v_at v_end v_told v_wrongAt v_culprit v_ran v_isKept f_kind f_other w13_0 f_space) := hD
  exact W.iret hx hb hr (fun t ht _ => ⟨⟨_, w13_0, rfl, h, hPt hP ht⟩, hS.F ht⟩) hS.2.2 dX10_warns_16
/-! X10_worn -/
abbrev wX10_worn (cI cJ cS : ClassId) (a_o a_kind : Nat) (z_refused z_steps z_space z_other z_times z_speed z_base z_share z_notes z_pitch z_beats z_held z_sort z_size z_shown z_cells z_carried z_words z_tell z_was z_kept z_cutSpace z_cutTimes z_cutOff z_trace : Value) (v_stretches : Int32) (v_cars : Int32) (v_tunes : Int32) (v_along : Int32) (v_near : Int32) (v_borne : Int32) (v_tempo : Int32) (v_seed : Int32) (v_fault : Int32) (v_from : Int32) (v_at : Int32) (v_end : Int32) (v_told : Int32) (v_wrongAt : Int32) (v_culprit : Int32) (v_ran : Int32) (v_isKept : Int32) (f_kind : Nat → Int32) : va_W := [(a_o, .inr (9, [.int v_stretches, .int v_cars, .int v_tunes, .int v_along, .int v_near, .int v_borne, .int v_tempo, .int v_seed, .int v_fault, z_refused, z_steps, .ref a_kind, z_space, z_other, z_times, z_speed, z_base, z_share, z_notes, z_pitch, z_beats, z_held, z_sort, z_size, z_shown, z_cells, z_carried, z_words, z_tell, .int v_from, .int v_at, .int v_end, .int v_told, .int v_wrongAt, z_was, z_kept, .int v_culprit, z_cutSpace, z_cutTimes, z_cutOff, z_trace, .int v_ran, .int v_isKept])), (a_kind, .inl (cI, 16, .inl f_kind))]
def F_X10_worn_38 (k12 : Int32 → Int32 → Prop) (x1 : Int32) (x3 : Int32) (s0 : Int32) : Prop := (∀ x3_39 : Int32, x3_39 = x3 + 1 → k12 s0 x3_39)
def F_X10_worn_33 (k12 : Int32 → Int32 → Prop) (x1 : Int32) (x3 : Int32) : Prop := F_X10_worn_38 k12 x1 x3 1
def L_X10_worn_12 (v_stretches : Int32) (f_kind : Nat → Int32) (x1 : Int32) (post : Int32 → Prop) (k2 : Int32 → Prop) : Nat → Int32 → Int32 → Prop
  | 0, _, _ => False
  | n12 + 1, x2, x3 => ((v_stretches ≤ x3 → ((x2 = 0 → post x1) ∧ (¬ x2 = 0 → (∀ x1_51 : Int32, x1_51 = x1 + 1 → k2 x1_51)))) ∧ (¬ v_stretches ≤ x3 → ((x2 = 0 → (F_X10_loudOf f_kind x3 x1 (fun r27 => ((r27 ≤ 0 → F_X10_worn_38 (fun x2 x3 => L_X10_worn_12 v_stretches f_kind x1 post k2 n12 x2 x3) x1 x3 0) ∧ (¬ r27 ≤ 0 → F_X10_worn_33 (fun x2 x3 => L_X10_worn_12 v_stretches f_kind x1 post k2 n12 x2 x3) x1 x3))))) ∧ (¬ x2 = 0 → F_X10_worn_33 (fun x2 x3 => L_X10_worn_12 v_stretches f_kind x1 post k2 n12 x2 x3) x1 x3))))
def L_X10_worn_2 (v_stretches : Int32) (f_kind : Nat → Int32) (post : Int32 → Prop) : Nat → Int32 → Prop
  | 0, _ => False
  | n2 + 1, x1 => ((50 < x1 → post (-1)) ∧ (¬ 50 < x1 → (∃ n12 : Nat, L_X10_worn_12 v_stretches f_kind x1 post (fun x1 => L_X10_worn_2 v_stretches f_kind post n2 x1) n12 0 0)))
def F_X10_worn (v_stretches : Int32) (f_kind : Nat → Int32) (post : Int32 → Prop) : Prop := (∃ n2 : Nat, L_X10_worn_2 v_stretches f_kind post n2 0)
set_option maxHeartbeats 4000000 in
set_option maxRecDepth 100000 in
theorem w_X10_worn_38 {l : Launch} {D : va_G} {cI cJ cS : ClassId} {ad adK : Nat → Nat} {a_o a_kind : Nat} {z_refused z_steps z_space z_other z_times z_speed z_base z_share z_notes z_pitch z_beats z_held z_sort z_size z_shown z_cells z_carried z_words z_tell z_was z_kept z_cutSpace z_cutTimes z_cutOff z_trace : Value} {v_stretches : Int32} {v_cars : Int32} {v_tunes : Int32} {v_along : Int32} {v_near : Int32} {v_borne : Int32} {v_tempo : Int32} {v_seed : Int32} {v_fault : Int32} {v_from : Int32} {v_at : Int32} {v_end : Int32} {v_told : Int32} {v_wrongAt : Int32} {v_culprit : Int32} {v_ran : Int32} {v_isKept : Int32} {f_kind : Nat → Int32} {x1 : Int32} {x3 : Int32} {s0 : Int32} {post : Int32 → Prop} {k12 : Int32 → Int32 → Prop} {p : Program} {e : Env} {s : State} {m : MethodId} {args : Array Value} {below : List Frame} {meth : Method} {c : Code} (S : CallFix p m c cX10_worn 4 s args GW "RoadThatSingsModel") (hE : EN D cI cJ cS s) (hT : ST ad adK nof s s.heap) (hP : va_P D vwCl (wX10_worn cI cJ cS a_o a_kind z_refused z_steps z_space z_other z_times z_speed z_base z_share z_notes z_pitch z_beats z_held z_sort z_size z_shown z_cells z_carried z_words z_tell z_was z_kept z_cutSpace z_cutTimes z_cutOff z_trace v_stretches v_cars v_tunes v_along v_near v_borne v_tempo v_seed v_fault v_from v_at v_end v_told v_wrongAt v_culprit v_ran v_isKept f_kind) s.heap) (hS : va_S nof s.heap s.heap []) (hr : meth.sig.returnType = (some (.int))) (hlocks : meth.locks = false) (hk12 : ∀ (x2 : Int32) (x3 : Int32) (ls : Array Slot), k12 x2 x3 → lv_has ls 4 [(0, .ref a_o), (1, .int x1), (2, .int x2), (3, .int x3)] → W p l e (rmd 1 0 0) s m args below meth c s.heap [] 0 0 (MQ below (vp_Si post) args s 0 0 nof) (F0 m 12 ls [])) : ∀ (ls : Array Slot), F_X10_worn_38 k12 x1 x3 s0 → lv_has ls 4 [(0, .ref a_o), (1, .int x1), (3, .int x3)] → W p l e (rmd 1 0 0) s m args below meth c s.heap [] 0 0 (MQ below (vp_Si post) args s 0 0 nof) (F0 m 38 ls [.int s0]) := by
  intro  ls h hl
  unfold F_X10_worn_38 at h
  have hx := S.1
  have hb := S.2.1
  refine lv_istore_n (lv' := [(2, .int s0), (0, .ref a_o), (1, .int x1), (3, .int x3)]) hx hb dX10_worn_38 rfl hl (by decide) rfl (fun ls hl => ?_)
  obtain ⟨x3_39, ex3_39⟩ : ∃ z : Int32, z = x3 + 1 := ⟨_, rfl⟩
  have h := h _ ex3_39
  refine lv_iinc (v := x3_39) (lv' := [(3, .int x3_39), (2, .int s0), (0, .ref a_o), (1, .int x1)]) hx hb dX10_worn_39 hl (k := 3) rfl (by rw [ex3_39]; rfl) (by decide) rfl (fun ls hl => ?_)
  refine lv_goto (tgt := 12) hx hb dX10_worn_42 (by decide) ?_
  exact hk12 _ _ _ h (lv_sub hl [2, 3, 1, 0] rfl)
set_option maxHeartbeats 4000000 in
set_option maxRecDepth 100000 in
theorem w_X10_worn_33 {l : Launch} {D : va_G} {cI cJ cS : ClassId} {ad adK : Nat → Nat} {a_o a_kind : Nat} {z_refused z_steps z_space z_other z_times z_speed z_base z_share z_notes z_pitch z_beats z_held z_sort z_size z_shown z_cells z_carried z_words z_tell z_was z_kept z_cutSpace z_cutTimes z_cutOff z_trace : Value} {v_stretches : Int32} {v_cars : Int32} {v_tunes : Int32} {v_along : Int32} {v_near : Int32} {v_borne : Int32} {v_tempo : Int32} {v_seed : Int32} {v_fault : Int32} {v_from : Int32} {v_at : Int32} {v_end : Int32} {v_told : Int32} {v_wrongAt : Int32} {v_culprit : Int32} {v_ran : Int32} {v_isKept : Int32} {f_kind : Nat → Int32} {x1 : Int32} {x3 : Int32} {post : Int32 → Prop} {k12 : Int32 → Int32 → Prop} {p : Program} {e : Env} {s : State} {m : MethodId} {args : Array Value} {below : List Frame} {meth : Method} {c : Code} (S : CallFix p m c cX10_worn 4 s args GW "RoadThatSingsModel") (hE : EN D cI cJ cS s) (hT : ST ad adK nof s s.heap) (hP : va_P D vwCl (wX10_worn cI cJ cS a_o a_kind z_refused z_steps z_space z_other z_times z_speed z_base z_share z_notes z_pitch z_beats z_held z_sort z_size z_shown z_cells z_carried z_words z_tell z_was z_kept z_cutSpace z_cutTimes z_cutOff z_trace v_stretches v_cars v_tunes v_along v_near v_borne v_tempo v_seed v_fault v_from v_at v_end v_told v_wrongAt v_culprit v_ran v_isKept f_kind) s.heap) (hS : va_S nof s.heap s.heap []) (hr : meth.sig.returnType = (some (.int))) (hlocks : meth.locks = false) (hk12 : ∀ (x2 : Int32) (x3 : Int32) (ls : Array Slot), k12 x2 x3 → lv_has ls 4 [(0, .ref a_o), (1, .int x1), (2, .int x2), (3, .int x3)] → W p l e (rmd 1 0 0) s m args below meth c s.heap [] 0 0 (MQ below (vp_Si post) args s 0 0 nof) (F0 m 12 ls [])) : ∀ (ls : Array Slot), F_X10_worn_33 k12 x1 x3 → lv_has ls 4 [(0, .ref a_o), (1, .int x1), (3, .int x3)] → W p l e (rmd 1 0 0) s m args below meth c s.heap [] 0 0 (MQ below (vp_Si post) args s 0 0 nof) (F0 m 33 ls []) := by
  intro  ls h hl
  unfold F_X10_worn_33 at h
  have hx := S.1
  have hb := S.2.1
  refine lv_iconst (v := 1) hx hb dX10_worn_33 (by decide) ?_
  refine lv_goto (tgt := 38) hx hb dX10_worn_34 (by decide) ?_
  refine w_X10_worn_38 S hE hT hP hS hr hlocks hk12 _ h (lv_sub hl [0, 1, 2] rfl)
set_option maxHeartbeats 4000000 in
set_option maxRecDepth 100000 in
theorem w_X10_worn_12 {l : Launch} {D : va_G} {cI cJ cS : ClassId} {ad adK : Nat → Nat} {a_o a_kind : Nat} {z_refused z_steps z_space z_other z_times z_speed z_base z_share z_notes z_pitch z_beats z_held z_sort z_size z_shown z_cells z_carried z_words z_tell z_was z_kept z_cutSpace z_cutTimes z_cutOff z_trace : Value} {v_stretches : Int32} {v_cars : Int32} {v_tunes : Int32} {v_along : Int32} {v_near : Int32} {v_borne : Int32} {v_tempo : Int32} {v_seed : Int32} {v_fault : Int32} {v_from : Int32} {v_at : Int32} {v_end : Int32} {v_told : Int32} {v_wrongAt : Int32} {v_culprit : Int32} {v_ran : Int32} {v_isKept : Int32} {f_kind : Nat → Int32} {x1 : Int32} {post : Int32 → Prop} {k2 : Int32 → Prop} {p : Program} {e : Env} {s : State} {m : MethodId} {args : Array Value} {below : List Frame} {meth : Method} {c : Code} (S : CallFix p m c cX10_worn 4 s args GW "RoadThatSingsModel") (hE : EN D cI cJ cS s) (hT : ST ad adK nof s s.heap) (hP : va_P D vwCl (wX10_worn cI cJ cS a_o a_kind z_refused z_steps z_space z_other z_times z_speed z_base z_share z_notes z_pitch z_beats z_held z_sort z_size z_shown z_cells z_carried z_words z_tell z_was z_kept z_cutSpace z_cutTimes z_cutOff z_trace v_stretches v_cars v_tunes v_along v_near v_borne v_tempo v_seed v_fault v_from v_at v_end v_told v_wrongAt v_culprit v_ran v_isKept f_kind) s.heap) (hS : va_S nof s.heap s.heap []) (hr : meth.sig.returnType = (some (.int))) (hlocks : meth.locks = false) (hk2 : ∀ (x1 : Int32) (ls : Array Slot), k2 x1 → lv_has ls 4 [(0, .ref a_o), (1, .int x1)] → W p l e (rmd 1 0 0) s m args below meth c s.heap [] 0 0 (MQ below (vp_Si post) args s 0 0 nof) (F0 m 2 ls [])) : ∀ n : Nat, ∀ (x2 : Int32) (x3 : Int32) (ls : Array Slot), L_X10_worn_12 v_stretches f_kind x1 post k2 n x2 x3 → lv_has ls 4 [(0, .ref a_o), (1, .int x1), (2, .int x2), (3, .int x3)] → W p l e (rmd 1 0 0) s m args below meth c s.heap [] 0 0 (MQ below (vp_Si post) args s 0 0 nof) (F0 m 12 ls []) := by
  intro n
  induction n with
  | zero =>
    intro x2 x3 ls h hl
    exact h.elim
  | succ n ih =>
    intro x2 x3 ls h hl
    rw [L_X10_worn_12] at h
    have hx := S.1
    have hb := S.2.1
    refine lv_iload_n hx hb dX10_worn_12 rfl (lv_at hl 3 rfl) ?_
    refine lv_aload_n hx hb dX10_worn_13 rfl (lv_at hl 0 rfl) ?_
    refine gf S hE hP 0 rfl rfl inX10 (k := 0) (by decide) q1093 rfl dX10_worn_14 ?_
    refine lv_icmp_ge (tgt := 45) hx hb dX10_worn_17 (by decide) (fun hc => ?_) (fun hc => ?_)
    · have h := h.1 hc
      refine lv_iload_n hx hb dX10_worn_45 rfl (lv_at hl 2 rfl) ?_
      refine lv_if_ne (tgt := 51) hx hb dX10_worn_46 (by decide) (fun hc => ?_) (fun hc => ?_)
      · have h := h.2 hc
        obtain ⟨x1_51, ex1_51⟩ : ∃ z : Int32, z = x1 + 1 := ⟨_, rfl⟩
        have h := h _ ex1_51
        refine lv_iinc (v := x1_51) (lv' := [(1, .int x1_51), (0, .ref a_o), (2, .int x2), (3, .int x3)]) hx hb dX10_worn_51 hl (k := 1) rfl (by rw [ex1_51]; rfl) (by decide) rfl (fun ls hl => ?_)
        refine lv_goto (tgt := 2) hx hb dX10_worn_54 (by decide) ?_
        exact hk2 _ _ h (lv_sub hl [1, 0] rfl)
      have h := h.1 hc
      refine lv_iload_n hx hb dX10_worn_49 rfl (lv_at hl 1 rfl) ?_
      exact W.iret hx hb hr (fun t ht _ => ⟨_, rfl, h, ht⟩) (fun _ hq => by cases hq) dX10_worn_50
    have h := h.2 hc
    refine lv_iload_n hx hb dX10_worn_20 rfl (lv_at hl 2 rfl) ?_
    refine lv_if_ne (tgt := 33) hx hb dX10_worn_21 (by decide) (fun hc => ?_) (fun hc => ?_)
    · have h := h.2 hc
      refine w_X10_worn_33 S hE hT hP hS hr hlocks ih _ h (lv_sub hl [0, 1, 3] rfl)
    have h := h.1 hc
    refine lv_aload_n hx hb dX10_worn_24 rfl (lv_at hl 0 rfl) ?_
    refine lv_iload_n hx hb dX10_worn_25 rfl (lv_at hl 3 rfl) ?_
    refine lv_iload_n hx hb dX10_worn_26 rfl (lv_at hl 1 rfl) ?_
    refine ro_i (roV S hE hT hS (c_X10_loudOf h) lkX10_238 rfl ⟨(Nat.le_of_ble_eq_true rfl), (Nat.le_of_ble_eq_true rfl)⟩ (hP.sub [0, 1] rfl) 0 rfl rfl hl.1 rfl (Nat.le_of_ble_eq_true rfl) dX10_worn_27 ⟨(Nat.zero_le _), (Nat.zero_le _)⟩) (fun r27 h => ?_)
    refine lv_if_le (tgt := 37) hx hb dX10_worn_30 (by decide) (fun hc => ?_) (fun hc => ?_)
    · have h := h.1 hc
      refine lv_iconst (v := 0) hx hb dX10_worn_37 (by decide) ?_
      refine w_X10_worn_38 S hE hT hP hS hr hlocks ih _ h (lv_sub hl [0, 1, 3] rfl)
    have h := h.2 hc
    refine w_X10_worn_33 S hE hT hP hS hr hlocks ih _ h (lv_sub hl [0, 1, 3] rfl)
set_option maxHeartbeats 4000000 in
set_option maxRecDepth 100000 in
theorem w_X10_worn_2 {l : Launch} {D : va_G} {cI cJ cS : ClassId} {ad adK : Nat → Nat} {a_o a_kind : Nat} {z_refused z_steps z_space z_other z_times z_speed z_base z_share z_notes z_pitch z_beats z_held z_sort z_size z_shown z_cells z_carried z_words z_tell z_was z_kept z_cutSpace z_cutTimes z_cutOff z_trace : Value} {v_stretches : Int32} {v_cars : Int32} {v_tunes : Int32} {v_along : Int32} {v_near : Int32} {v_borne : Int32} {v_tempo : Int32} {v_seed : Int32} {v_fault : Int32} {v_from : Int32} {v_at : Int32} {v_end : Int32} {v_told : Int32} {v_wrongAt : Int32} {v_culprit : Int32} {v_ran : Int32} {v_isKept : Int32} {f_kind : Nat → Int32} {post : Int32 → Prop} {p : Program} {e : Env} {s : State} {m : MethodId} {args : Array Value} {below : List Frame} {meth : Method} {c : Code} (S : CallFix p m c cX10_worn 4 s args GW "RoadThatSingsModel") (hE : EN D cI cJ cS s) (hT : ST ad adK nof s s.heap) (hP : va_P D vwCl (wX10_worn cI cJ cS a_o a_kind z_refused z_steps z_space z_other z_times z_speed z_base z_share z_notes z_pitch z_beats z_held z_sort z_size z_shown z_cells z_carried z_words z_tell z_was z_kept z_cutSpace z_cutTimes z_cutOff z_trace v_stretches v_cars v_tunes v_along v_near v_borne v_tempo v_seed v_fault v_from v_at v_end v_told v_wrongAt v_culprit v_ran v_isKept f_kind) s.heap) (hS : va_S nof s.heap s.heap []) (hr : meth.sig.returnType = (some (.int))) (hlocks : meth.locks = false) : ∀ n : Nat, ∀ (x1 : Int32) (ls : Array Slot), L_X10_worn_2 v_stretches f_kind post n x1 → lv_has ls 4 [(0, .ref a_o), (1, .int x1)] → W p l e (rmd 1 0 0) s m args below meth c s.heap [] 0 0 (MQ below (vp_Si post) args s 0 0 nof) (F0 m 2 ls []) := by
  intro n
  induction n with
  | zero =>
    intro x1 ls h hl
    exact h.elim
  | succ n ih =>
    intro x1 ls h hl
    rw [L_X10_worn_2] at h
    have hx := S.1
    have hb := S.2.1
    refine lv_iload_n hx hb dX10_worn_2 rfl (lv_at hl 1 rfl) ?_
    refine lv_bipush (v := 50) hx hb dX10_worn_3 (by decide) ?_
    refine lv_icmp_gt (tgt := 57) hx hb dX10_worn_5 (by decide) (fun hc => ?_) (fun hc => ?_)
    · have h := h.1 hc
      refine lv_iconst (v := (-1)) hx hb dX10_worn_57 (by decide) ?_
      exact W.iret hx hb hr (fun t ht _ => ⟨_, rfl, h, ht⟩) (fun _ hq => by cases hq) dX10_worn_58
    have h := h.2 hc
    refine lv_iconst (v := 0) hx hb dX10_worn_8 (by decide) ?_
    refine lv_istore_n (lv' := [(2, .int 0), (0, .ref a_o), (1, .int x1)]) hx hb dX10_worn_9 rfl hl (by decide) rfl (fun ls hl => ?_)
    refine lv_iconst (v := 0) hx hb dX10_worn_10 (by decide) ?_
    refine lv_istore_n (lv' := [(3, .int 0), (2, .int 0), (0, .ref a_o), (1, .int x1)]) hx hb dX10_worn_11 rfl hl (by decide) rfl (fun ls hl => ?_)
    obtain ⟨n, h⟩ := h
    refine w_X10_worn_12 S hE hT hP hS hr hlocks ih n _ _ _ h (lv_sub hl [2, 3, 1, 0] rfl)
set_option maxHeartbeats 4000000 in
set_option maxRecDepth 100000 in
theorem c_X10_worn {l : Launch} {D : va_G} {cI cJ cS : ClassId} {ad adK : Nat → Nat} {a_o a_kind : Nat} {z_refused z_steps z_space z_other z_times z_speed z_base z_share z_notes z_pitch z_beats z_held z_sort z_size z_shown z_cells z_carried z_words z_tell z_was z_kept z_cutSpace z_cutTimes z_cutOff z_trace : Value} {v_stretches : Int32} {v_cars : Int32} {v_tunes : Int32} {v_along : Int32} {v_near : Int32} {v_borne : Int32} {v_tempo : Int32} {v_seed : Int32} {v_fault : Int32} {v_from : Int32} {v_at : Int32} {v_end : Int32} {v_told : Int32} {v_wrongAt : Int32} {v_culprit : Int32} {v_ran : Int32} {v_isKept : Int32} {f_kind : Nat → Int32} {post : Int32 → Prop} (h : F_X10_worn v_stretches f_kind post) : Met l yX10_worn (Cond.code yX10_worn cX10_worn 4 (some (.int)) :: GW) (rmd 1 0 0) (PR D cI cJ cS ad adK [.ref a_o] (wX10_worn cI cJ cS a_o a_kind z_refused z_steps z_space z_other z_times z_speed z_base z_share z_notes z_pitch z_beats z_held z_sort z_size z_shown z_cells z_carried z_words z_tell z_was z_kept z_cutSpace z_cutTimes z_cutOff z_trace v_stretches v_cars v_tunes v_along v_near v_borne v_tempo v_seed v_fault v_from v_at v_end v_told v_wrongAt v_culprit v_ran v_isKept f_kind)) (vp_Si post) 0 0 nof := by
  refine Met.ro (by decide) (Nat.le_of_ble_eq_true rfl) (fun p e s m args below meth c ls (S : CallFix p m c cX10_worn 4 s args GW "RoadThatSingsModel") hE hT hP hS hr hlocks hl => ?_)
  have hx := S.1
  have hb := S.2.1
  have hl : lv_has ls 4 [(0, .ref a_o)] := hl
  unfold F_X10_worn at h
  refine lv_iconst (v := 0) hx hb dX10_worn_0 (by decide) ?_
  refine lv_istore_n (lv' := [(1, .int 0), (0, .ref a_o)]) hx hb dX10_worn_1 rfl hl (by decide) rfl (fun ls hl => ?_)
  obtain ⟨n, h⟩ := h
  refine w_X10_worn_2 S hE hT hP hS hr hlocks n _ _ h (lv_sub hl [1, 0] rfl)
/-! X10_draw -/
abbrev wX10_draw (cI cJ cS : ClassId) (a_o : Nat) (z_refused z_steps z_kind z_space z_other z_times z_speed z_base z_share z_notes z_pitch z_beats z_held z_sort z_size z_shown z_cells z_carried z_words z_tell z_was z_kept z_cutSpace z_cutTimes z_cutOff z_trace : Value) (v_stretches : Int32) (v_cars : Int32) (v_tunes : Int32) (v_along : Int32) (v_near : Int32) (v_borne : Int32) (v_tempo : Int32) (v_seed : Int32) (v_fault : Int32) (v_from : Int32) (v_at : Int32) (v_end : Int32) (v_told : Int32) (v_wrongAt : Int32) (v_culprit : Int32) (v_ran : Int32) (v_isKept : Int32) : va_W := [(a_o, .inr (9, [.int v_stretches, .int v_cars, .int v_tunes, .int v_along, .int v_near, .int v_borne, .int v_tempo, .int v_seed, .int v_fault, z_refused, z_steps, z_kind, z_space, z_other, z_times, z_speed, z_base, z_share, z_notes, z_pitch, z_beats, z_held, z_sort, z_size, z_shown, z_cells, z_carried, z_words, z_tell, .int v_from, .int v_at, .int v_end, .int v_told, .int v_wrongAt, z_was, z_kept, .int v_culprit, z_cutSpace, z_cutTimes, z_cutOff, z_trace, .int v_ran, .int v_isKept]))]
def F_X10_draw (v_seed : Int32) (x1 : Int32) (post : Int32 → Int32 → Prop) : Prop := (¬ x1 = 0 ∧ post (((((v_seed * 1103515245) + 12345).toUInt32 >>> ((16 : Int32).toUInt32 &&& Int32.toUInt32 31)).toInt32) - ((((v_seed * 1103515245) + 12345).toUInt32 >>> ((16 : Int32).toUInt32 &&& Int32.toUInt32 31)).toInt32) / x1 * x1) ((v_seed * 1103515245) + 12345))
set_option maxHeartbeats 4000000 in
set_option maxRecDepth 100000 in
theorem c_X10_draw {l : Launch} {D : va_G} {cI cJ cS : ClassId} {ad adK : Nat → Nat} {a_o : Nat} {z_refused z_steps z_kind z_space z_other z_times z_speed z_base z_share z_notes z_pitch z_beats z_held z_sort z_size z_shown z_cells z_carried z_words z_tell z_was z_kept z_cutSpace z_cutTimes z_cutOff z_trace : Value} {v_stretches : Int32} {v_cars : Int32} {v_tunes : Int32} {v_along : Int32} {v_near : Int32} {v_borne : Int32} {v_tempo : Int32} {v_seed : Int32} {v_fault : Int32} {v_from : Int32} {v_at : Int32} {v_end : Int32} {v_told : Int32} {v_wrongAt : Int32} {v_culprit : Int32} {v_ran : Int32} {v_isKept : Int32} {x1 : Int32} {post : Int32 → Int32 → Prop} (h : F_X10_draw v_seed x1 post) {sz : Nat} : Met l yX10_draw (Cond.code yX10_draw cX10_draw 2 (some (.int)) :: GW) (rmd 0 0 0) (PW D cI cJ cS ad adK [.ref a_o, .int x1] (wX10_draw cI cJ cS a_o z_refused z_steps z_kind z_space z_other z_times z_speed z_base z_share z_notes z_pitch z_beats z_held z_sort z_size z_shown z_cells z_carried z_words z_tell z_was z_kept z_cutSpace z_cutTimes z_cutOff z_trace v_stretches v_cars v_tunes v_along v_near v_borne v_tempo v_seed v_fault v_from v_at v_end v_told v_wrongAt v_culprit v_ran v_isKept) sz) (va_Qi (fun r (u : Int32) => post r u) (fun u t => va_P D vwCl (wX10_draw cI cJ cS a_o z_refused z_steps z_kind z_space z_other z_times z_speed z_base z_share z_notes z_pitch z_beats z_held z_sort z_size z_shown z_cells z_carried z_words z_tell z_was z_kept z_cutSpace z_cutTimes z_cutOff z_trace v_stretches v_cars v_tunes v_along v_near v_borne v_tempo u v_fault v_from v_at v_end v_told v_wrongAt v_culprit v_ran v_isKept) t.heap) (va_A (wX10_draw cI cJ cS a_o z_refused z_steps z_kind z_space z_other z_times z_speed z_base z_share z_notes z_pitch z_beats z_held z_sort z_size z_shown z_cells z_carried z_words z_tell z_was z_kept z_cutSpace z_cutTimes z_cutOff z_trace v_stretches v_cars v_tunes v_along v_near v_borne v_tempo v_seed v_fault v_from v_at v_end v_told v_wrongAt v_culprit v_ran v_isKept) sz)) 0 0 (va_A (wX10_draw cI cJ cS a_o z_refused z_steps z_kind z_space z_other z_times z_speed z_base z_share z_notes z_pitch z_beats z_held z_sort z_size z_shown z_cells z_carried z_words z_tell z_was z_kept z_cutSpace z_cutTimes z_cutOff z_trace v_stretches v_cars v_tunes v_along v_near v_borne v_tempo v_seed v_fault v_from v_at v_end v_told v_wrongAt v_culprit v_ran v_isKept) sz) := by
  refine Met.rw (Qc := fun A => (va_Qi (fun r (u : Int32) => post r u) (fun u t => va_P D vwCl (wX10_draw cI cJ cS a_o z_refused z_steps z_kind z_space z_other z_times z_speed z_base z_share z_notes z_pitch z_beats z_held z_sort z_size z_shown z_cells z_carried z_words z_tell z_was z_kept z_cutSpace z_cutTimes z_cutOff z_trace v_stretches v_cars v_tunes v_along v_near v_borne v_tempo u v_fault v_from v_at v_end v_told v_wrongAt v_culprit v_ran v_isKept) t.heap) A)) (by decide) (Nat.le_of_ble_eq_true rfl) (fun p e s m args below meth c ls A (S : CallFix p m c cX10_draw 2 s args GW "RoadThatSingsModel") hE hT hP hD hA hS hr hlocks hname hl => ?_)
  have hS0 := hS
  have hx := S.1
  have hb := S.2.1
  have hl : lv_has ls 2 [(0, .ref a_o), (1, .int x1)] := hl
  unfold F_X10_draw at h
  refine lv_aload_n hx hb dX10_draw_0 rfl (lv_at hl 0 rfl) ?_
  refine lv_aload_n hx hb dX10_draw_1 rfl (lv_at hl 0 rfl) ?_
  refine gf S hE hP 0 rfl rfl inX10 (k := 7) (by decide) q1100 rfl dX10_draw_2 ?_
  refine lv_ldcw (v := 1103515245) hx hb S.2.2.2.1 (S.2.2.2.2 _ q1562) dX10_draw_5 ?_
  refine lv_imul hx hb dX10_draw_8 ?_
  refine lv_sipush (v := 12345) hx hb dX10_draw_9 (by decide) ?_
  refine lv_iadd hx hb dX10_draw_12 ?_
  refine pf S hE hP hD hS 0 (k := 7) rfl rfl inX10 tyX10_ok nmX10 (by decide) q1100 rfl rfl rfl (Nat.le_of_ble_eq_true rfl) dX10_draw_13 (fun H locs hP hD hS => ?_)
  have hP : va_P D vwCl (wX10_draw cI cJ cS a_o z_refused z_steps z_kind z_space z_other z_times z_speed z_base z_share z_notes z_pitch z_beats z_held z_sort z_size z_shown z_cells z_carried z_words z_tell z_was z_kept z_cutSpace z_cutTimes z_cutOff z_trace v_stretches v_cars v_tunes v_along v_near v_borne v_tempo ((v_seed * 1103515245) + 12345) v_fault v_from v_at v_end v_told v_wrongAt v_culprit v_ran v_isKept) H := hP
  have hD : va_D A (wX10_draw cI cJ cS a_o z_refused z_steps z_kind z_space z_other z_times z_speed z_base z_share z_notes z_pitch z_beats z_held z_sort z_size z_shown z_cells z_carried z_words z_tell z_was z_kept z_cutSpace z_cutTimes z_cutOff z_trace v_stretches v_cars v_tunes v_along v_near v_borne v_tempo ((v_seed * 1103515245) + 12345) v_fault v_from v_at v_end v_told v_wrongAt v_culprit v_ran v_isKept) := hD
  refine lv_aload_n hx hb dX10_draw_16 rfl (lv_at hl 0 rfl) ?_
  refine gf S hE hP 0 rfl rfl inX10 (k := 7) (by decide) q1100 rfl dX10_draw_17 ?_
  refine lv_bipush (v := 16) hx hb dX10_draw_20 (by decide) ?_
  refine lv_iushr hx hb dX10_draw_22 rfl ?_
  refine lv_iload_n hx hb dX10_draw_23 rfl (lv_at hl 1 rfl) ?_
  obtain ⟨hz, h⟩ := h
  refine lv_irem hx hb dX10_draw_24 hz ?_
  exact W.iret hx hb hr (fun t ht _ => ⟨⟨_, ((v_seed * 1103515245) + 12345), rfl, h, hPt hP ht⟩, hS.F ht⟩) hS.2.2 dX10_draw_25
/-! X10_day -/
abbrev wX10_day (cI cJ cS : ClassId) (a_o a_kind a_notes a_other a_pitch a_refused a_share a_space a_speed : Nat) (z_steps z_times z_base z_beats z_held z_sort z_size z_shown z_cells z_carried z_words z_tell z_was z_kept z_cutSpace z_cutTimes z_cutOff z_trace : Value) (v_stretches : Int32) (v_cars : Int32) (v_tunes : Int32) (v_along : Int32) (v_near : Int32) (v_borne : Int32) (v_tempo : Int32) (v_seed : Int32) (v_fault : Int32) (v_from : Int32) (v_at : Int32) (v_end : Int32) (v_told : Int32) (v_wrongAt : Int32) (v_culprit : Int32) (v_ran : Int32) (v_isKept : Int32) (f_kind : Nat → Int32) (f_notes : Nat → Int32) (f_other : Nat → Int32) (f_pitch : Nat → Int32) (f_refused : Nat → Int32) (f_share : Nat → Int32) (f_space : Nat → Int32) (f_speed : Nat → Int32) : va_W := [(a_o, .inr (9, [.int v_stretches, .int v_cars, .int v_tunes, .int v_along, .int v_near, .int v_borne, .int v_tempo, .int v_seed, .int v_fault, .ref a_refused, z_steps, .ref a_kind, .ref a_space, .ref a_other, z_times, .ref a_speed, z_base, .ref a_share, .ref a_notes, .ref a_pitch, z_beats, z_held, z_sort, z_size, z_shown, z_cells, z_carried, z_words, z_tell, .int v_from, .int v_at, .int v_end, .int v_told, .int v_wrongAt, z_was, z_kept, .int v_culprit, z_cutSpace, z_cutTimes, z_cutOff, z_trace, .int v_ran, .int v_isKept])), (a_kind, .inl (cI, 16, .inl f_kind)), (a_notes, .inl (cI, 6, .inl f_notes)), (a_other, .inl (cI, 16, .inl f_other)), (a_pitch, .inl (cI, 72, .inl f_pitch)), (a_refused, .inl (cI, 8, .inl f_refused)), (a_share, .inl (cI, 6, .inl f_share)), (a_space, .inl (cI, 16, .inl f_space)), (a_speed, .inl (cI, 6, .inl f_speed))]
def L_X10_day_55 (v_cars : Int32) (f_share : Nat → Int32) (k94 : Int32 → Prop) : Nat → Int32 → Int32 → Prop
  | 0, _, _ => False
  | n55 + 1, x5, x6 => ((v_cars ≤ x6 → k94 x6) ∧ (¬ v_cars ≤ x6 → (vp_in x6 6 ∧ ((x5 < (f_share x6.toNatClampNeg) → k94 x6) ∧ (¬ x5 < (f_share x6.toNatClampNeg) → (vp_in x6 6 ∧ (∀ x5_86 : Int32, x5_86 = x5 - (f_share x6.toNatClampNeg) → (∀ x6_88 : Int32, x6_88 = x6 + 1 → L_X10_day_55 v_cars f_share k94 n55 x5_86 x6_88))))))))
def F_X10_day_120 (k38 : Int32 → Int32 → Int32 → Prop) (x1 : Int32) (x2 : Int32) (x3 : Int32) (x4 : Int32) (v_seed : Int32) (f_refused : Nat → Int32) : Prop := (∀ x4_120 : Int32, x4_120 = x4 + 1 → k38 x3 x4_120 v_seed)
def F_X10_day_94 (v_stretches : Int32) (v_cars : Int32) (v_borne : Int32) (f_kind : Nat → Int32) (f_notes : Nat → Int32) (f_other : Nat → Int32) (f_pitch : Nat → Int32) (f_space : Nat → Int32) (f_speed : Nat → Int32) (k38 : Int32 → Int32 → Int32 → Prop) (x1 : Int32) (x2 : Int32) (x3 : Int32) (x4 : Int32) (x6 : Int32) (v_seed : Int32) (f_refused : Nat → Int32) : Prop := ((v_cars ≤ x6 → F_X10_day_120 k38 x1 x2 x3 x4 v_seed f_refused) ∧ (¬ v_cars ≤ x6 → (F_X10_worstOf v_stretches f_kind f_notes f_other f_pitch f_space f_speed x6 x1 (fun r107 => ((v_borne < r107 → F_X10_day_120 k38 x1 x2 x3 x4 v_seed f_refused) ∧ (¬ v_borne < r107 → (∀ x3_117 : Int32, x3_117 = x3 + 1 → F_X10_day_120 k38 x1 x2 x3_117 x4 v_seed f_refused)))))))
def L_X10_day_38 (v_stretches : Int32) (v_cars : Int32) (v_borne : Int32) (f_kind : Nat → Int32) (f_notes : Nat → Int32) (f_other : Nat → Int32) (f_pitch : Nat → Int32) (f_share : Nat → Int32) (f_space : Nat → Int32) (f_speed : Nat → Int32) (x1 : Int32) (x2 : Int32) (f_refused : Nat → Int32) (post : Int32 → Int32 → (Nat → Int32) → Prop) : Nat → Int32 → Int32 → Int32 → Prop
  | 0, _, _, _ => False
  | n38 + 1, x3, x4, v_seed => ((x2 ≤ x4 → post x3 v_seed f_refused) ∧ (¬ x2 ≤ x4 → (F_X10_draw v_seed 100 (fun r47 w47_0 => (∃ n55 : Nat, L_X10_day_55 v_cars f_share (fun x6_1 => F_X10_day_94 v_stretches v_cars v_borne f_kind f_notes f_other f_pitch f_space f_speed (fun x3 x4 v_seed => L_X10_day_38 v_stretches v_cars v_borne f_kind f_notes f_other f_pitch f_share f_space f_speed x1 x2 f_refused post n38 x3 x4 v_seed) x1 x2 x3 x4 x6_1 w47_0 f_refused) n55 r47 0)))))
def F_X10_day (v_stretches : Int32) (v_cars : Int32) (v_tunes : Int32) (v_borne : Int32) (v_seed : Int32) (f_kind : Nat → Int32) (f_notes : Nat → Int32) (f_other : Nat → Int32) (f_pitch : Nat → Int32) (f_refused : Nat → Int32) (f_share : Nat → Int32) (f_space : Nat → Int32) (f_speed : Nat → Int32) (x1 : Int32) (x2 : Int32) (post : Int32 → Int32 → (Nat → Int32) → Prop) : Prop := (F_X10_isTune v_tunes x1 (fun r2 => ((r2 = 0 → (F_X10_no f_refused (-1) (fun r10 w10_0 => post r10 v_seed w10_0))) ∧ (¬ r2 = 0 → ((x2 < 1 → (F_X10_no f_refused (-6) (fun r29 w29_0 => post r29 v_seed w29_0))) ∧ (¬ x2 < 1 → ((x2 ≤ 200 → (∃ n38 : Nat, L_X10_day_38 v_stretches v_cars v_borne f_kind f_notes f_other f_pitch f_share f_space f_speed x1 x2 f_refused post n38 0 0 v_seed)) ∧ (¬ x2 ≤ 200 → (F_X10_no f_refused (-6) (fun r29 w29_0 => post r29 v_seed w29_0))))))))))
set_option maxHeartbeats 4000000 in
set_option maxRecDepth 100000 in
theorem w_X10_day_55 {l : Launch} {D : va_G} {cI cJ cS : ClassId} {ad adK : Nat → Nat} {a_o a_kind a_notes a_other a_pitch a_refused a_share a_space a_speed : Nat} {z_steps z_times z_base z_beats z_held z_sort z_size z_shown z_cells z_carried z_words z_tell z_was z_kept z_cutSpace z_cutTimes z_cutOff z_trace : Value} {v_stretches : Int32} {v_cars : Int32} {v_tunes : Int32} {v_along : Int32} {v_near : Int32} {v_borne : Int32} {v_tempo : Int32} {v_seed : Int32} {v_fault : Int32} {v_from : Int32} {v_at : Int32} {v_end : Int32} {v_told : Int32} {v_wrongAt : Int32} {v_culprit : Int32} {v_ran : Int32} {v_isKept : Int32} {f_kind : Nat → Int32} {f_notes : Nat → Int32} {f_other : Nat → Int32} {f_pitch : Nat → Int32} {f_refused : Nat → Int32} {f_share : Nat → Int32} {f_space : Nat → Int32} {f_speed : Nat → Int32} {x1 : Int32} {x2 : Int32} {x3 : Int32} {x4 : Int32} {post : Int32 → Int32 → (Nat → Int32) → Prop} {k94 : Int32 → Prop} {p : Program} {e : Env} {s : State} {m : MethodId} {args : Array Value} {below : List Frame} {meth : Method} {c : Code} {A : Nat → Prop} (S : CallFix p m c cX10_day 7 s args GW "RoadThatSingsModel") (hE : EN D cI cJ cS s) (hT : ST ad adK A s s.heap) (hA : ∀ q : Nat, s.heap.size ≤ q → A q) (hr : meth.sig.returnType = (some (.int))) (hlocks : meth.locks = false) (hk94 : ∀ (x6 : Int32) (H : Heap) (locs : List Loc) (ls : Array Slot), k94 x6 → va_P D vwCl (wX10_day cI cJ cS a_o a_kind a_notes a_other a_pitch a_refused a_share a_space a_speed z_steps z_times z_base z_beats z_held z_sort z_size z_shown z_cells z_carried z_words z_tell z_was z_kept z_cutSpace z_cutTimes z_cutOff z_trace v_stretches v_cars v_tunes v_along v_near v_borne v_tempo v_seed v_fault v_from v_at v_end v_told v_wrongAt v_culprit v_ran v_isKept f_kind f_notes f_other f_pitch f_refused f_share f_space f_speed) H → va_D A (wX10_day cI cJ cS a_o a_kind a_notes a_other a_pitch a_refused a_share a_space a_speed z_steps z_times z_base z_beats z_held z_sort z_size z_shown z_cells z_carried z_words z_tell z_was z_kept z_cutSpace z_cutTimes z_cutOff z_trace v_stretches v_cars v_tunes v_along v_near v_borne v_tempo v_seed v_fault v_from v_at v_end v_told v_wrongAt v_culprit v_ran v_isKept f_kind f_notes f_other f_pitch f_refused f_share f_space f_speed) → va_S A s.heap H locs → lv_has ls 7 [(0, .ref a_o), (1, .int x1), (2, .int x2), (3, .int x3), (4, .int x4), (6, .int x6)] → W p l e (rmd 4 0 0) s m args below meth c H locs 0 0 (MQ below (va_Qi (fun r (u : Int32 × (Nat → Int32)) => post r u.1 u.2) (fun u t => va_P D vwCl (wX10_day cI cJ cS a_o a_kind a_notes a_other a_pitch a_refused a_share a_space a_speed z_steps z_times z_base z_beats z_held z_sort z_size z_shown z_cells z_carried z_words z_tell z_was z_kept z_cutSpace z_cutTimes z_cutOff z_trace v_stretches v_cars v_tunes v_along v_near v_borne v_tempo u.1 v_fault v_from v_at v_end v_told v_wrongAt v_culprit v_ran v_isKept f_kind f_notes f_other f_pitch u.2 f_share f_space f_speed) t.heap) A) args s 0 0 A) (F0 m 94 ls [])) : ∀ n : Nat, ∀ (x5 : Int32) (x6 : Int32) (H : Heap) (locs : List Loc) (ls : Array Slot), L_X10_day_55 v_cars f_share k94 n x5 x6 → va_P D vwCl (wX10_day cI cJ cS a_o a_kind a_notes a_other a_pitch a_refused a_share a_space a_speed z_steps z_times z_base z_beats z_held z_sort z_size z_shown z_cells z_carried z_words z_tell z_was z_kept z_cutSpace z_cutTimes z_cutOff z_trace v_stretches v_cars v_tunes v_along v_near v_borne v_tempo v_seed v_fault v_from v_at v_end v_told v_wrongAt v_culprit v_ran v_isKept f_kind f_notes f_other f_pitch f_refused f_share f_space f_speed) H → va_D A (wX10_day cI cJ cS a_o a_kind a_notes a_other a_pitch a_refused a_share a_space a_speed z_steps z_times z_base z_beats z_held z_sort z_size z_shown z_cells z_carried z_words z_tell z_was z_kept z_cutSpace z_cutTimes z_cutOff z_trace v_stretches v_cars v_tunes v_along v_near v_borne v_tempo v_seed v_fault v_from v_at v_end v_told v_wrongAt v_culprit v_ran v_isKept f_kind f_notes f_other f_pitch f_refused f_share f_space f_speed) → va_S A s.heap H locs → lv_has ls 7 [(0, .ref a_o), (1, .int x1), (2, .int x2), (3, .int x3), (4, .int x4), (5, .int x5), (6, .int x6)] → W p l e (rmd 4 0 0) s m args below meth c H locs 0 0 (MQ below (va_Qi (fun r (u : Int32 × (Nat → Int32)) => post r u.1 u.2) (fun u t => va_P D vwCl (wX10_day cI cJ cS a_o a_kind a_notes a_other a_pitch a_refused a_share a_space a_speed z_steps z_times z_base z_beats z_held z_sort z_size z_shown z_cells z_carried z_words z_tell z_was z_kept z_cutSpace z_cutTimes z_cutOff z_trace v_stretches v_cars v_tunes v_along v_near v_borne v_tempo u.1 v_fault v_from v_at v_end v_told v_wrongAt v_culprit v_ran v_isKept f_kind f_notes f_other f_pitch u.2 f_share f_space f_speed) t.heap) A) args s 0 0 A) (F0 m 55 ls []) := by
  intro n
  induction n with
  | zero =>
    intro x5 x6 H locs ls h hP hD hS hl
    exact h.elim
  | succ n ih =>
    intro x5 x6 H locs ls h hP hD hS hl
    rw [L_X10_day_55] at h
    have hx := S.1
    have hb := S.2.1
    refine lv_iload hx hb dX10_day_55 (lv_at hl 6 rfl) ?_
    refine lv_aload_n hx hb dX10_day_57 rfl (lv_at hl 0 rfl) ?_
    refine gf S hE hP 0 rfl rfl inX10 (k := 1) (by decide) q1094 rfl dX10_day_58 ?_
    refine lv_icmp_ge (tgt := 94) hx hb dX10_day_61 (by decide) (fun hc => ?_) (fun hc => ?_)
    · have h := h.1 hc
      exact hk94 _ _ _ _ h hP hD hS (lv_sub hl [0, 1, 2, 3, 4, 6] rfl)
    have h := h.2 hc
    refine lv_iload hx hb dX10_day_64 (lv_at hl 5 rfl) ?_
    refine lv_aload_n hx hb dX10_day_66 rfl (lv_at hl 0 rfl) ?_
    refine gf S hE hP 0 rfl rfl inX10 (k := 17) (by decide) q1110 rfl dX10_day_67 ?_
    refine lv_iload hx hb dX10_day_70 (lv_at hl 6 rfl) ?_
    obtain ⟨hi, h⟩ := h
    refine ial S hE hP 6 rfl hi dX10_day_72 ?_
    refine lv_icmp_lt (tgt := 94) hx hb dX10_day_73 (by decide) (fun hc => ?_) (fun hc => ?_)
    · have h := h.1 hc
      exact hk94 _ _ _ _ h hP hD hS (lv_sub hl [0, 1, 2, 3, 4, 6] rfl)
    have h := h.2 hc
    refine lv_iload hx hb dX10_day_76 (lv_at hl 5 rfl) ?_
    refine lv_aload_n hx hb dX10_day_78 rfl (lv_at hl 0 rfl) ?_
    refine gf S hE hP 0 rfl rfl inX10 (k := 17) (by decide) q1110 rfl dX10_day_79 ?_
    refine lv_iload hx hb dX10_day_82 (lv_at hl 6 rfl) ?_
    obtain ⟨hi, h⟩ := h
    refine ial S hE hP 6 rfl hi dX10_day_84 ?_
    refine lv_isub hx hb dX10_day_85 ?_
    refine lv_topi (fun x5_86 ex5_86 => ?_)
    have h := h _ ex5_86
    refine lv_istore (lv' := [(5, .int x5_86), (0, .ref a_o), (1, .int x1), (2, .int x2), (3, .int x3), (4, .int x4), (6, .int x6)]) hx hb dX10_day_86 hl (by decide) rfl (fun ls hl => ?_)
    obtain ⟨x6_88, ex6_88⟩ : ∃ z : Int32, z = x6 + 1 := ⟨_, rfl⟩
    have h := h _ ex6_88
    refine lv_iinc (v := x6_88) (lv' := [(6, .int x6_88), (5, .int x5_86), (0, .ref a_o), (1, .int x1), (2, .int x2), (3, .int x3), (4, .int x4)]) hx hb dX10_day_88 hl (k := 6) rfl (by rw [ex6_88]; rfl) (by decide) rfl (fun ls hl => ?_)
    refine lv_goto (tgt := 55) hx hb dX10_day_91 (by decide) ?_
    exact ih _ _ _ _ _ h hP hD hS (lv_sub hl [2, 3, 4, 5, 6, 1, 0] rfl)
set_option maxHeartbeats 4000000 in
set_option maxRecDepth 100000 in
theorem w_X10_day_120 {l : Launch} {D : va_G} {cI cJ cS : ClassId} {ad adK : Nat → Nat} {a_o a_kind a_notes a_other a_pitch a_refused a_share a_space a_speed : Nat} {z_steps z_times z_base z_beats z_held z_sort z_size z_shown z_cells z_carried z_words z_tell z_was z_kept z_cutSpace z_cutTimes z_cutOff z_trace : Value} {v_stretches : Int32} {v_cars : Int32} {v_tunes : Int32} {v_along : Int32} {v_near : Int32} {v_borne : Int32} {v_tempo : Int32} {v_seed : Int32} {v_fault : Int32} {v_from : Int32} {v_at : Int32} {v_end : Int32} {v_told : Int32} {v_wrongAt : Int32} {v_culprit : Int32} {v_ran : Int32} {v_isKept : Int32} {f_kind : Nat → Int32} {f_notes : Nat → Int32} {f_other : Nat → Int32} {f_pitch : Nat → Int32} {f_refused : Nat → Int32} {f_share : Nat → Int32} {f_space : Nat → Int32} {f_speed : Nat → Int32} {x1 : Int32} {x2 : Int32} {x3 : Int32} {x4 : Int32} {post : Int32 → Int32 → (Nat → Int32) → Prop} {k38 : Int32 → Int32 → Int32 → Prop} {p : Program} {e : Env} {s : State} {m : MethodId} {args : Array Value} {below : List Frame} {meth : Method} {c : Code} {A : Nat → Prop} (S : CallFix p m c cX10_day 7 s args GW "RoadThatSingsModel") (hE : EN D cI cJ cS s) (hT : ST ad adK A s s.heap) (hA : ∀ q : Nat, s.heap.size ≤ q → A q) (hr : meth.sig.returnType = (some (.int))) (hlocks : meth.locks = false) (hk38 : ∀ (x3 : Int32) (x4 : Int32) (v_seed : Int32) (H : Heap) (locs : List Loc) (ls : Array Slot), k38 x3 x4 v_seed → va_P D vwCl (wX10_day cI cJ cS a_o a_kind a_notes a_other a_pitch a_refused a_share a_space a_speed z_steps z_times z_base z_beats z_held z_sort z_size z_shown z_cells z_carried z_words z_tell z_was z_kept z_cutSpace z_cutTimes z_cutOff z_trace v_stretches v_cars v_tunes v_along v_near v_borne v_tempo v_seed v_fault v_from v_at v_end v_told v_wrongAt v_culprit v_ran v_isKept f_kind f_notes f_other f_pitch f_refused f_share f_space f_speed) H → va_D A (wX10_day cI cJ cS a_o a_kind a_notes a_other a_pitch a_refused a_share a_space a_speed z_steps z_times z_base z_beats z_held z_sort z_size z_shown z_cells z_carried z_words z_tell z_was z_kept z_cutSpace z_cutTimes z_cutOff z_trace v_stretches v_cars v_tunes v_along v_near v_borne v_tempo v_seed v_fault v_from v_at v_end v_told v_wrongAt v_culprit v_ran v_isKept f_kind f_notes f_other f_pitch f_refused f_share f_space f_speed) → va_S A s.heap H locs → lv_has ls 7 [(0, .ref a_o), (1, .int x1), (2, .int x2), (3, .int x3), (4, .int x4)] → W p l e (rmd 4 0 0) s m args below meth c H locs 0 0 (MQ below (va_Qi (fun r (u : Int32 × (Nat → Int32)) => post r u.1 u.2) (fun u t => va_P D vwCl (wX10_day cI cJ cS a_o a_kind a_notes a_other a_pitch a_refused a_share a_space a_speed z_steps z_times z_base z_beats z_held z_sort z_size z_shown z_cells z_carried z_words z_tell z_was z_kept z_cutSpace z_cutTimes z_cutOff z_trace v_stretches v_cars v_tunes v_along v_near v_borne v_tempo u.1 v_fault v_from v_at v_end v_told v_wrongAt v_culprit v_ran v_isKept f_kind f_notes f_other f_pitch u.2 f_share f_space f_speed) t.heap) A) args s 0 0 A) (F0 m 38 ls [])) : ∀ (H : Heap) (locs : List Loc) (ls : Array Slot), F_X10_day_120 k38 x1 x2 x3 x4 v_seed f_refused → va_P D vwCl (wX10_day cI cJ cS a_o a_kind a_notes a_other a_pitch a_refused a_share a_space a_speed z_steps z_times z_base z_beats z_held z_sort z_size z_shown z_cells z_carried z_words z_tell z_was z_kept z_cutSpace z_cutTimes z_cutOff z_trace v_stretches v_cars v_tunes v_along v_near v_borne v_tempo v_seed v_fault v_from v_at v_end v_told v_wrongAt v_culprit v_ran v_isKept f_kind f_notes f_other f_pitch f_refused f_share f_space f_speed) H → va_D A (wX10_day cI cJ cS a_o a_kind a_notes a_other a_pitch a_refused a_share a_space a_speed z_steps z_times z_base z_beats z_held z_sort z_size z_shown z_cells z_carried z_words z_tell z_was z_kept z_cutSpace z_cutTimes z_cutOff z_trace v_stretches v_cars v_tunes v_along v_near v_borne v_tempo v_seed v_fault v_from v_at v_end v_told v_wrongAt v_culprit v_ran v_isKept f_kind f_notes f_other f_pitch f_refused f_share f_space f_speed) → va_S A s.heap H locs → lv_has ls 7 [(0, .ref a_o), (1, .int x1), (2, .int x2), (3, .int x3), (4, .int x4)] → W p l e (rmd 4 0 0) s m args below meth c H locs 0 0 (MQ below (va_Qi (fun r (u : Int32 × (Nat → Int32)) => post r u.1 u.2) (fun u t => va_P D vwCl (wX10_day cI cJ cS a_o a_kind a_notes a_other a_pitch a_refused a_share a_space a_speed z_steps z_times z_base z_beats z_held z_sort z_size z_shown z_cells z_carried z_words z_tell z_was z_kept z_cutSpace z_cutTimes z_cutOff z_trace v_stretches v_cars v_tunes v_along v_near v_borne v_tempo u.1 v_fault v_from v_at v_end v_told v_wrongAt v_culprit v_ran v_isKept f_kind f_notes f_other f_pitch u.2 f_share f_space f_speed) t.heap) A) args s 0 0 A) (F0 m 120 ls []) := by
  intro  H locs ls h hP hD hS hl
  unfold F_X10_day_120 at h
  have hx := S.1
  have hb := S.2.1
  obtain ⟨x4_120, ex4_120⟩ : ∃ z : Int32, z = x4 + 1 := ⟨_, rfl⟩
  have h := h _ ex4_120
  refine lv_iinc (v := x4_120) (lv' := [(4, .int x4_120), (0, .ref a_o), (1, .int x1), (2, .int x2), (3, .int x3)]) hx hb dX10_day_120 hl (k := 4) rfl (by rw [ex4_120]; rfl) (by decide) rfl (fun ls hl => ?_)
  refine lv_goto (tgt := 38) hx hb dX10_day_123 (by decide) ?_
  exact hk38 _ _ _ _ _ _ h hP hD hS (lv_sub hl [1, 2, 3, 4, 0] rfl)
set_option maxHeartbeats 4000000 in
set_option maxRecDepth 100000 in
theorem w_X10_day_94 {l : Launch} {D : va_G} {cI cJ cS : ClassId} {ad adK : Nat → Nat} {a_o a_kind a_notes a_other a_pitch a_refused a_share a_space a_speed : Nat} {z_steps z_times z_base z_beats z_held z_sort z_size z_shown z_cells z_carried z_words z_tell z_was z_kept z_cutSpace z_cutTimes z_cutOff z_trace : Value} {v_stretches : Int32} {v_cars : Int32} {v_tunes : Int32} {v_along : Int32} {v_near : Int32} {v_borne : Int32} {v_tempo : Int32} {v_seed : Int32} {v_fault : Int32} {v_from : Int32} {v_at : Int32} {v_end : Int32} {v_told : Int32} {v_wrongAt : Int32} {v_culprit : Int32} {v_ran : Int32} {v_isKept : Int32} {f_kind : Nat → Int32} {f_notes : Nat → Int32} {f_other : Nat → Int32} {f_pitch : Nat → Int32} {f_refused : Nat → Int32} {f_share : Nat → Int32} {f_space : Nat → Int32} {f_speed : Nat → Int32} {x1 : Int32} {x2 : Int32} {x3 : Int32} {x4 : Int32} {x6 : Int32} {post : Int32 → Int32 → (Nat → Int32) → Prop} {k38 : Int32 → Int32 → Int32 → Prop} {p : Program} {e : Env} {s : State} {m : MethodId} {args : Array Value} {below : List Frame} {meth : Method} {c : Code} {A : Nat → Prop} (S : CallFix p m c cX10_day 7 s args GW "RoadThatSingsModel") (hE : EN D cI cJ cS s) (hT : ST ad adK A s s.heap) (hA : ∀ q : Nat, s.heap.size ≤ q → A q) (hr : meth.sig.returnType = (some (.int))) (hlocks : meth.locks = false) (hk38 : ∀ (x3 : Int32) (x4 : Int32) (v_seed : Int32) (H : Heap) (locs : List Loc) (ls : Array Slot), k38 x3 x4 v_seed → va_P D vwCl (wX10_day cI cJ cS a_o a_kind a_notes a_other a_pitch a_refused a_share a_space a_speed z_steps z_times z_base z_beats z_held z_sort z_size z_shown z_cells z_carried z_words z_tell z_was z_kept z_cutSpace z_cutTimes z_cutOff z_trace v_stretches v_cars v_tunes v_along v_near v_borne v_tempo v_seed v_fault v_from v_at v_end v_told v_wrongAt v_culprit v_ran v_isKept f_kind f_notes f_other f_pitch f_refused f_share f_space f_speed) H → va_D A (wX10_day cI cJ cS a_o a_kind a_notes a_other a_pitch a_refused a_share a_space a_speed z_steps z_times z_base z_beats z_held z_sort z_size z_shown z_cells z_carried z_words z_tell z_was z_kept z_cutSpace z_cutTimes z_cutOff z_trace v_stretches v_cars v_tunes v_along v_near v_borne v_tempo v_seed v_fault v_from v_at v_end v_told v_wrongAt v_culprit v_ran v_isKept f_kind f_notes f_other f_pitch f_refused f_share f_space f_speed) → va_S A s.heap H locs → lv_has ls 7 [(0, .ref a_o), (1, .int x1), (2, .int x2), (3, .int x3), (4, .int x4)] → W p l e (rmd 4 0 0) s m args below meth c H locs 0 0 (MQ below (va_Qi (fun r (u : Int32 × (Nat → Int32)) => post r u.1 u.2) (fun u t => va_P D vwCl (wX10_day cI cJ cS a_o a_kind a_notes a_other a_pitch a_refused a_share a_space a_speed z_steps z_times z_base z_beats z_held z_sort z_size z_shown z_cells z_carried z_words z_tell z_was z_kept z_cutSpace z_cutTimes z_cutOff z_trace v_stretches v_cars v_tunes v_along v_near v_borne v_tempo u.1 v_fault v_from v_at v_end v_told v_wrongAt v_culprit v_ran v_isKept f_kind f_notes f_other f_pitch u.2 f_share f_space f_speed) t.heap) A) args s 0 0 A) (F0 m 38 ls [])) : ∀ (H : Heap) (locs : List Loc) (ls : Array Slot), F_X10_day_94 v_stretches v_cars v_borne f_kind f_notes f_other f_pitch f_space f_speed k38 x1 x2 x3 x4 x6 v_seed f_refused → va_P D vwCl (wX10_day cI cJ cS a_o a_kind a_notes a_other a_pitch a_refused a_share a_space a_speed z_steps z_times z_base z_beats z_held z_sort z_size z_shown z_cells z_carried z_words z_tell z_was z_kept z_cutSpace z_cutTimes z_cutOff z_trace v_stretches v_cars v_tunes v_along v_near v_borne v_tempo v_seed v_fault v_from v_at v_end v_told v_wrongAt v_culprit v_ran v_isKept f_kind f_notes f_other f_pitch f_refused f_share f_space f_speed) H → va_D A (wX10_day cI cJ cS a_o a_kind a_notes a_other a_pitch a_refused a_share a_space a_speed z_steps z_times z_base z_beats z_held z_sort z_size z_shown z_cells z_carried z_words z_tell z_was z_kept z_cutSpace z_cutTimes z_cutOff z_trace v_stretches v_cars v_tunes v_along v_near v_borne v_tempo v_seed v_fault v_from v_at v_end v_told v_wrongAt v_culprit v_ran v_isKept f_kind f_notes f_other f_pitch f_refused f_share f_space f_speed) → va_S A s.heap H locs → lv_has ls 7 [(0, .ref a_o), (1, .int x1), (2, .int x2), (3, .int x3), (4, .int x4), (6, .int x6)] → W p l e (rmd 4 0 0) s m args below meth c H locs 0 0 (MQ below (va_Qi (fun r (u : Int32 × (Nat → Int32)) => post r u.1 u.2) (fun u t => va_P D vwCl (wX10_day cI cJ cS a_o a_kind a_notes a_other a_pitch a_refused a_share a_space a_speed z_steps z_times z_base z_beats z_held z_sort z_size z_shown z_cells z_carried z_words z_tell z_was z_kept z_cutSpace z_cutTimes z_cutOff z_trace v_stretches v_cars v_tunes v_along v_near v_borne v_tempo u.1 v_fault v_from v_at v_end v_told v_wrongAt v_culprit v_ran v_isKept f_kind f_notes f_other f_pitch u.2 f_share f_space f_speed) t.heap) A) args s 0 0 A) (F0 m 94 ls []) := by
  intro  H locs ls h hP hD hS hl
  unfold F_X10_day_94 at h
  have hx := S.1
  have hb := S.2.1
  refine lv_iload hx hb dX10_day_94 (lv_at hl 5 rfl) ?_
  refine lv_aload_n hx hb dX10_day_96 rfl (lv_at hl 0 rfl) ?_
  refine gf S hE hP 0 rfl rfl inX10 (k := 1) (by decide) q1094 rfl dX10_day_97 ?_
  refine lv_icmp_ge (tgt := 120) hx hb dX10_day_100 (by decide) (fun hc => ?_) (fun hc => ?_)
  · have h := h.1 hc
    refine w_X10_day_120 S hE hT hA hr hlocks hk38 _ _ _ h hP hD hS (lv_sub hl [0, 1, 2, 3, 4] rfl)
  have h := h.2 hc
  refine lv_aload_n hx hb dX10_day_103 rfl (lv_at hl 0 rfl) ?_
  refine lv_iload hx hb dX10_day_104 (lv_at hl 5 rfl) ?_
  refine lv_iload_n hx hb dX10_day_106 rfl (lv_at hl 1 rfl) ?_
  refine ro_i (roV S hE hT hS (c_X10_worstOf h) lkX10_248 rfl ⟨(Nat.le_of_ble_eq_true rfl), (Nat.le_of_ble_eq_true rfl)⟩ (hP.sub [0, 1, 2, 3, 4, 7, 8] rfl) 0 rfl rfl hl.1 rfl (Nat.le_of_ble_eq_true rfl) dX10_day_107 ⟨(Nat.zero_le _), (Nat.zero_le _)⟩) (fun r107 h => ?_)
  refine lv_aload_n hx hb dX10_day_110 rfl (lv_at hl 0 rfl) ?_
  refine gf S hE hP 0 rfl rfl inX10 (k := 5) (by decide) q1098 rfl dX10_day_111 ?_
  refine lv_icmp_gt (tgt := 120) hx hb dX10_day_114 (by decide) (fun hc => ?_) (fun hc => ?_)
  · have h := h.1 hc
    refine w_X10_day_120 S hE hT hA hr hlocks hk38 _ _ _ h hP hD hS (lv_sub hl [0, 1, 2, 3, 4] rfl)
  have h := h.2 hc
  obtain ⟨x3_117, ex3_117⟩ : ∃ z : Int32, z = x3 + 1 := ⟨_, rfl⟩
  have h := h _ ex3_117
  refine lv_iinc (v := x3_117) (lv' := [(3, .int x3_117), (0, .ref a_o), (1, .int x1), (2, .int x2), (4, .int x4), (6, .int x6)]) hx hb dX10_day_117 hl (k := 3) rfl (by rw [ex3_117]; rfl) (by decide) rfl (fun ls hl => ?_)
  refine w_X10_day_120 S hE hT hA hr hlocks hk38 _ _ _ h hP hD hS (lv_sub hl [1, 2, 3, 0, 4] rfl)
set_option maxHeartbeats 4000000 in
set_option maxRecDepth 100000 in
theorem w_X10_day_38 {l : Launch} {D : va_G} {cI cJ cS : ClassId} {ad adK : Nat → Nat} {a_o a_kind a_notes a_other a_pitch a_refused a_share a_space a_speed : Nat} {z_steps z_times z_base z_beats z_held z_sort z_size z_shown z_cells z_carried z_words z_tell z_was z_kept z_cutSpace z_cutTimes z_cutOff z_trace : Value} {v_stretches : Int32} {v_cars : Int32} {v_tunes : Int32} {v_along : Int32} {v_near : Int32} {v_borne : Int32} {v_tempo : Int32} {v_fault : Int32} {v_from : Int32} {v_at : Int32} {v_end : Int32} {v_told : Int32} {v_wrongAt : Int32} {v_culprit : Int32} {v_ran : Int32} {v_isKept : Int32} {f_kind : Nat → Int32} {f_notes : Nat → Int32} {f_other : Nat → Int32} {f_pitch : Nat → Int32} {f_refused : Nat → Int32} {f_share : Nat → Int32} {f_space : Nat → Int32} {f_speed : Nat → Int32} {x1 : Int32} {x2 : Int32} {post : Int32 → Int32 → (Nat → Int32) → Prop} {p : Program} {e : Env} {s : State} {m : MethodId} {args : Array Value} {below : List Frame} {meth : Method} {c : Code} {A : Nat → Prop} (S : CallFix p m c cX10_day 7 s args GW "RoadThatSingsModel") (hE : EN D cI cJ cS s) (hT : ST ad adK A s s.heap) (hA : ∀ q : Nat, s.heap.size ≤ q → A q) (hr : meth.sig.returnType = (some (.int))) (hlocks : meth.locks = false) : ∀ n : Nat, ∀ (x3 : Int32) (x4 : Int32) (v_seed : Int32) (H : Heap) (locs : List Loc) (ls : Array Slot), L_X10_day_38 v_stretches v_cars v_borne f_kind f_notes f_other f_pitch f_share f_space f_speed x1 x2 f_refused post n x3 x4 v_seed → va_P D vwCl (wX10_day cI cJ cS a_o a_kind a_notes a_other a_pitch a_refused a_share a_space a_speed z_steps z_times z_base z_beats z_held z_sort z_size z_shown z_cells z_carried z_words z_tell z_was z_kept z_cutSpace z_cutTimes z_cutOff z_trace v_stretches v_cars v_tunes v_along v_near v_borne v_tempo v_seed v_fault v_from v_at v_end v_told v_wrongAt v_culprit v_ran v_isKept f_kind f_notes f_other f_pitch f_refused f_share f_space f_speed) H → va_D A (wX10_day cI cJ cS a_o a_kind a_notes a_other a_pitch a_refused a_share a_space a_speed z_steps z_times z_base z_beats z_held z_sort z_size z_shown z_cells z_carried z_words z_tell z_was z_kept z_cutSpace z_cutTimes z_cutOff z_trace v_stretches v_cars v_tunes v_along v_near v_borne v_tempo v_seed v_fault v_from v_at v_end v_told v_wrongAt v_culprit v_ran v_isKept f_kind f_notes f_other f_pitch f_refused f_share f_space f_speed) → va_S A s.heap H locs → lv_has ls 7 [(0, .ref a_o), (1, .int x1), (2, .int x2), (3, .int x3), (4, .int x4)] → W p l e (rmd 4 0 0) s m args below meth c H locs 0 0 (MQ below (va_Qi (fun r (u : Int32 × (Nat → Int32)) => post r u.1 u.2) (fun u t => va_P D vwCl (wX10_day cI cJ cS a_o a_kind a_notes a_other a_pitch a_refused a_share a_space a_speed z_steps z_times z_base z_beats z_held z_sort z_size z_shown z_cells z_carried z_words z_tell z_was z_kept z_cutSpace z_cutTimes z_cutOff z_trace v_stretches v_cars v_tunes v_along v_near v_borne v_tempo u.1 v_fault v_from v_at v_end v_told v_wrongAt v_culprit v_ran v_isKept f_kind f_notes f_other f_pitch u.2 f_share f_space f_speed) t.heap) A) args s 0 0 A) (F0 m 38 ls []) := by
  intro n
  induction n with
  | zero =>
    intro x3 x4 v_seed H locs ls h hP hD hS hl
    exact h.elim
  | succ n ih =>
    intro x3 x4 v_seed H locs ls h hP hD hS hl
    rw [L_X10_day_38] at h
    have hx := S.1
    have hb := S.2.1
    refine lv_iload hx hb dX10_day_38 (lv_at hl 4 rfl) ?_
    refine lv_iload_n hx hb dX10_day_40 rfl (lv_at hl 2 rfl) ?_
    refine lv_icmp_ge (tgt := 126) hx hb dX10_day_41 (by decide) (fun hc => ?_) (fun hc => ?_)
    · have h := h.1 hc
      refine lv_iload_n hx hb dX10_day_126 rfl (lv_at hl 3 rfl) ?_
      exact W.iret hx hb hr (fun t ht _ => ⟨⟨_, (v_seed, f_refused), rfl, h, hPt hP ht⟩, hS.F ht⟩) hS.2.2 dX10_day_127
    have h := h.2 hc
    refine lv_aload_n hx hb dX10_day_44 rfl (lv_at hl 0 rfl) ?_
    refine lv_bipush (v := 100) hx hb dX10_day_45 (by decide) ?_
    refine rw_i (rwV S hE hT hS hP hD hA (c_X10_draw h) [0] rfl (by decide) lkX10_278 rfl ⟨(Nat.le_of_ble_eq_true rfl), (Nat.le_of_ble_eq_true rfl)⟩ 0 rfl rfl hl.1 rfl (Nat.le_of_ble_eq_true rfl) dX10_day_47 ⟨(Nat.zero_le _), (Nat.zero_le _)⟩) hP hD hS hA [0] rfl (by decide) (fun _ => rfl) (fun r47 w47_0 H locs h hP hD hS => ?_)
    try dsimp only at h
    have hP : va_P D vwCl (wX10_day cI cJ cS a_o a_kind a_notes a_other a_pitch a_refused a_share a_space a_speed z_steps z_times z_base z_beats z_held z_sort z_size z_shown z_cells z_carried z_words z_tell z_was z_kept z_cutSpace z_cutTimes z_cutOff z_trace v_stretches v_cars v_tunes v_along v_near v_borne v_tempo w47_0 v_fault v_from v_at v_end v_told v_wrongAt v_culprit v_ran v_isKept f_kind f_notes f_other f_pitch f_refused f_share f_space f_speed) H := hP
    have hD : va_D A (wX10_day cI cJ cS a_o a_kind a_notes a_other a_pitch a_refused a_share a_space a_speed z_steps z_times z_base z_beats z_held z_sort z_size z_shown z_cells z_carried z_words z_tell z_was z_kept z_cutSpace z_cutTimes z_cutOff z_trace v_stretches v_cars v_tunes v_along v_near v_borne v_tempo w47_0 v_fault v_from v_at v_end v_told v_wrongAt v_culprit v_ran v_isKept f_kind f_notes f_other f_pitch f_refused f_share f_space f_speed) := hD
    refine lv_istore (lv' := [(5, .int r47), (0, .ref a_o), (1, .int x1), (2, .int x2), (3, .int x3), (4, .int x4)]) hx hb dX10_day_50 hl (by decide) rfl (fun ls hl => ?_)
    refine lv_iconst (v := 0) hx hb dX10_day_52 (by decide) ?_
    refine lv_istore (lv' := [(6, .int 0), (5, .int r47), (0, .ref a_o), (1, .int x1), (2, .int x2), (3, .int x3), (4, .int x4)]) hx hb dX10_day_53 hl (by decide) rfl (fun ls hl => ?_)
    obtain ⟨n, h⟩ := h
    refine w_X10_day_55 S hE hT hA hr hlocks (fun x6_1 H locs ls h hP hD hS hl => ?_) n _ _ _ _ _ h hP hD hS (lv_sub hl [2, 3, 4, 5, 6, 1, 0] rfl)
    refine w_X10_day_94 S hE hT hA hr hlocks ih _ _ _ h hP hD hS (lv_sub hl [0, 1, 2, 3, 4, 5] rfl)
set_option maxHeartbeats 4000000 in
set_option maxRecDepth 100000 in
theorem c_X10_day {l : Launch} {D : va_G} {cI cJ cS : ClassId} {ad adK : Nat → Nat} {a_o a_kind a_notes a_other a_pitch a_refused a_share a_space a_speed : Nat} {z_steps z_times z_base z_beats z_held z_sort z_size z_shown z_cells z_carried z_words z_tell z_was z_kept z_cutSpace z_cutTimes z_cutOff z_trace : Value} {v_stretches : Int32} {v_cars : Int32} {v_tunes : Int32} {v_along : Int32} {v_near : Int32} {v_borne : Int32} {v_tempo : Int32} {v_seed : Int32} {v_fault : Int32} {v_from : Int32} {v_at : Int32} {v_end : Int32} {v_told : Int32} {v_wrongAt : Int32} {v_culprit : Int32} {v_ran : Int32} {v_isKept : Int32} {f_kind : Nat → Int32} {f_notes : Nat → Int32} {f_other : Nat → Int32} {f_pitch : Nat → Int32} {f_refused : Nat → Int32} {f_share : Nat → Int32} {f_space : Nat → Int32} {f_speed : Nat → Int32} {x1 : Int32} {x2 : Int32} {post : Int32 → Int32 → (Nat → Int32) → Prop} (h : F_X10_day v_stretches v_cars v_tunes v_borne v_seed f_kind f_notes f_other f_pitch f_refused f_share f_space f_speed x1 x2 post) {sz : Nat} : Met l yX10_day (Cond.code yX10_day cX10_day 7 (some (.int)) :: GW) (rmd 4 0 0) (PW D cI cJ cS ad adK [.ref a_o, .int x1, .int x2] (wX10_day cI cJ cS a_o a_kind a_notes a_other a_pitch a_refused a_share a_space a_speed z_steps z_times z_base z_beats z_held z_sort z_size z_shown z_cells z_carried z_words z_tell z_was z_kept z_cutSpace z_cutTimes z_cutOff z_trace v_stretches v_cars v_tunes v_along v_near v_borne v_tempo v_seed v_fault v_from v_at v_end v_told v_wrongAt v_culprit v_ran v_isKept f_kind f_notes f_other f_pitch f_refused f_share f_space f_speed) sz) (va_Qi (fun r (u : Int32 × (Nat → Int32)) => post r u.1 u.2) (fun u t => va_P D vwCl (wX10_day cI cJ cS a_o a_kind a_notes a_other a_pitch a_refused a_share a_space a_speed z_steps z_times z_base z_beats z_held z_sort z_size z_shown z_cells z_carried z_words z_tell z_was z_kept z_cutSpace z_cutTimes z_cutOff z_trace v_stretches v_cars v_tunes v_along v_near v_borne v_tempo u.1 v_fault v_from v_at v_end v_told v_wrongAt v_culprit v_ran v_isKept f_kind f_notes f_other f_pitch u.2 f_share f_space f_speed) t.heap) (va_A (wX10_day cI cJ cS a_o a_kind a_notes a_other a_pitch a_refused a_share a_space a_speed z_steps z_times z_base z_beats z_held z_sort z_size z_shown z_cells z_carried z_words z_tell z_was z_kept z_cutSpace z_cutTimes z_cutOff z_trace v_stretches v_cars v_tunes v_along v_near v_borne v_tempo v_seed v_fault v_from v_at v_end v_told v_wrongAt v_culprit v_ran v_isKept f_kind f_notes f_other f_pitch f_refused f_share f_space f_speed) sz)) 0 0 (va_A (wX10_day cI cJ cS a_o a_kind a_notes a_other a_pitch a_refused a_share a_space a_speed z_steps z_times z_base z_beats z_held z_sort z_size z_shown z_cells z_carried z_words z_tell z_was z_kept z_cutSpace z_cutTimes z_cutOff z_trace v_stretches v_cars v_tunes v_along v_near v_borne v_tempo v_seed v_fault v_from v_at v_end v_told v_wrongAt v_culprit v_ran v_isKept f_kind f_notes f_other f_pitch f_refused f_share f_space f_speed) sz) := by
  refine Met.rw (Qc := fun A => (va_Qi (fun r (u : Int32 × (Nat → Int32)) => post r u.1 u.2) (fun u t => va_P D vwCl (wX10_day cI cJ cS a_o a_kind a_notes a_other a_pitch a_refused a_share a_space a_speed z_steps z_times z_base z_beats z_held z_sort z_size z_shown z_cells z_carried z_words z_tell z_was z_kept z_cutSpace z_cutTimes z_cutOff z_trace v_stretches v_cars v_tunes v_along v_near v_borne v_tempo u.1 v_fault v_from v_at v_end v_told v_wrongAt v_culprit v_ran v_isKept f_kind f_notes f_other f_pitch u.2 f_share f_space f_speed) t.heap) A)) (by decide) (Nat.le_of_ble_eq_true rfl) (fun p e s m args below meth c ls A (S : CallFix p m c cX10_day 7 s args GW "RoadThatSingsModel") hE hT hP hD hA hS hr hlocks hname hl => ?_)
  have hS0 := hS
  have hx := S.1
  have hb := S.2.1
  have hl : lv_has ls 7 [(0, .ref a_o), (1, .int x1), (2, .int x2)] := hl
  unfold F_X10_day at h
  refine lv_aload_n hx hb dX10_day_0 rfl (lv_at hl 0 rfl) ?_
  refine lv_iload_n hx hb dX10_day_1 rfl (lv_at hl 1 rfl) ?_
  refine ro_i (roV S hE hT hS (c_X10_isTune h) lkX10_168 rfl ⟨(Nat.le_of_ble_eq_true rfl), (Nat.le_of_ble_eq_true rfl)⟩ (hP.sub [0] rfl) 0 rfl rfl hl.1 rfl (Nat.le_of_ble_eq_true rfl) dX10_day_2 ⟨(Nat.zero_le _), (Nat.zero_le _)⟩) (fun r2 h => ?_)
  refine lv_if_ne (tgt := 14) hx hb dX10_day_5 (by decide) (fun hc => ?_) (fun hc => ?_)
  · have h := h.2 hc
    refine lv_iload_n hx hb dX10_day_14 rfl (lv_at hl 2 rfl) ?_
    refine lv_iconst (v := 1) hx hb dX10_day_15 (by decide) ?_
    refine lv_icmp_lt (tgt := 26) hx hb dX10_day_16 (by decide) (fun hc => ?_) (fun hc => ?_)
    · have h := h.1 hc
      refine lv_aload_n hx hb dX10_day_26 rfl (lv_at hl 0 rfl) ?_
      refine lv_bipush (v := (-6)) hx hb dX10_day_27 (by decide) ?_
      refine rw_i (rwV S hE hT hS hP hD hA (c_X10_no h) [0, 5] rfl (by decide) lkX10_121 rfl ⟨(Nat.le_of_ble_eq_true rfl), (Nat.le_of_ble_eq_true rfl)⟩ 0 rfl rfl hl.1 rfl (Nat.le_of_ble_eq_true rfl) dX10_day_29 ⟨(Nat.zero_le _), (Nat.zero_le _)⟩) hP hD hS hA [0, 5] rfl (by decide) (fun _ => rfl) (fun r29 w29_0 H locs h hP hD hS => ?_)
      try dsimp only at h
      have hP : va_P D vwCl (wX10_day cI cJ cS a_o a_kind a_notes a_other a_pitch a_refused a_share a_space a_speed z_steps z_times z_base z_beats z_held z_sort z_size z_shown z_cells z_carried z_words z_tell z_was z_kept z_cutSpace z_cutTimes z_cutOff z_trace v_stretches v_cars v_tunes v_along v_near v_borne v_tempo v_seed v_fault v_from v_at v_end v_told v_wrongAt v_culprit v_ran v_isKept f_kind f_notes f_other f_pitch w29_0 f_share f_space f_speed) H := hP
      have hD : va_D A (wX10_day cI cJ cS a_o a_kind a_notes a_other a_pitch a_refused a_share a_space a_speed z_steps z_times z_base z_beats z_held z_sort z_size z_shown z_cells z_carried z_words z_tell z_was z_kept z_cutSpace z_cutTimes z_cutOff z_trace v_stretches v_cars v_tunes v_along v_near v_borne v_tempo v_seed v_fault v_from v_at v_end v_told v_wrongAt v_culprit v_ran v_isKept f_kind f_notes f_other f_pitch w29_0 f_share f_space f_speed) := hD
      exact W.iret hx hb hr (fun t ht _ => ⟨⟨_, (v_seed, w29_0), rfl, h, hPt hP ht⟩, hS.F ht⟩) hS.2.2 dX10_day_32
    have h := h.2 hc
    refine lv_iload_n hx hb dX10_day_19 rfl (lv_at hl 2 rfl) ?_
    refine lv_sipush (v := 200) hx hb dX10_day_20 (by decide) ?_
    refine lv_icmp_le (tgt := 33) hx hb dX10_day_23 (by decide) (fun hc => ?_) (fun hc => ?_)
    · have h := h.1 hc
      refine lv_iconst (v := 0) hx hb dX10_day_33 (by decide) ?_
      refine lv_istore_n (lv' := [(3, .int 0), (0, .ref a_o), (1, .int x1), (2, .int x2)]) hx hb dX10_day_34 rfl hl (by decide) rfl (fun ls hl => ?_)
      refine lv_iconst (v := 0) hx hb dX10_day_35 (by decide) ?_
      refine lv_istore (lv' := [(4, .int 0), (3, .int 0), (0, .ref a_o), (1, .int x1), (2, .int x2)]) hx hb dX10_day_36 hl (by decide) rfl (fun ls hl => ?_)
      obtain ⟨n, h⟩ := h
      refine w_X10_day_38 S hE hT hA hr hlocks n _ _ _ _ _ _ h hP hD hS (lv_sub hl [2, 3, 4, 1, 0] rfl)
    have h := h.2 hc
    refine lv_aload_n hx hb dX10_day_26 rfl (lv_at hl 0 rfl) ?_
    refine lv_bipush (v := (-6)) hx hb dX10_day_27 (by decide) ?_
    refine rw_i (rwV S hE hT hS hP hD hA (c_X10_no h) [0, 5] rfl (by decide) lkX10_121 rfl ⟨(Nat.le_of_ble_eq_true rfl), (Nat.le_of_ble_eq_true rfl)⟩ 0 rfl rfl hl.1 rfl (Nat.le_of_ble_eq_true rfl) dX10_day_29 ⟨(Nat.zero_le _), (Nat.zero_le _)⟩) hP hD hS hA [0, 5] rfl (by decide) (fun _ => rfl) (fun r29 w29_0 H locs h hP hD hS => ?_)
    try dsimp only at h
    have hP : va_P D vwCl (wX10_day cI cJ cS a_o a_kind a_notes a_other a_pitch a_refused a_share a_space a_speed z_steps z_times z_base z_beats z_held z_sort z_size z_shown z_cells z_carried z_words z_tell z_was z_kept z_cutSpace z_cutTimes z_cutOff z_trace v_stretches v_cars v_tunes v_along v_near v_borne v_tempo v_seed v_fault v_from v_at v_end v_told v_wrongAt v_culprit v_ran v_isKept f_kind f_notes f_other f_pitch w29_0 f_share f_space f_speed) H := hP
    have hD : va_D A (wX10_day cI cJ cS a_o a_kind a_notes a_other a_pitch a_refused a_share a_space a_speed z_steps z_times z_base z_beats z_held z_sort z_size z_shown z_cells z_carried z_words z_tell z_was z_kept z_cutSpace z_cutTimes z_cutOff z_trace v_stretches v_cars v_tunes v_along v_near v_borne v_tempo v_seed v_fault v_from v_at v_end v_told v_wrongAt v_culprit v_ran v_isKept f_kind f_notes f_other f_pitch w29_0 f_share f_space f_speed) := hD
    exact W.iret hx hb hr (fun t ht _ => ⟨⟨_, (v_seed, w29_0), rfl, h, hPt hP ht⟩, hS.F ht⟩) hS.2.2 dX10_day_32
  have h := h.1 hc
  refine lv_aload_n hx hb dX10_day_8 rfl (lv_at hl 0 rfl) ?_
  refine lv_iconst (v := (-1)) hx hb dX10_day_9 (by decide) ?_
  refine rw_i (rwV S hE hT hS hP hD hA (c_X10_no h) [0, 5] rfl (by decide) lkX10_121 rfl ⟨(Nat.le_of_ble_eq_true rfl), (Nat.le_of_ble_eq_true rfl)⟩ 0 rfl rfl hl.1 rfl (Nat.le_of_ble_eq_true rfl) dX10_day_10 ⟨(Nat.zero_le _), (Nat.zero_le _)⟩) hP hD hS hA [0, 5] rfl (by decide) (fun _ => rfl) (fun r10 w10_0 H locs h hP hD hS => ?_)
  try dsimp only at h
  have hP : va_P D vwCl (wX10_day cI cJ cS a_o a_kind a_notes a_other a_pitch a_refused a_share a_space a_speed z_steps z_times z_base z_beats z_held z_sort z_size z_shown z_cells z_carried z_words z_tell z_was z_kept z_cutSpace z_cutTimes z_cutOff z_trace v_stretches v_cars v_tunes v_along v_near v_borne v_tempo v_seed v_fault v_from v_at v_end v_told v_wrongAt v_culprit v_ran v_isKept f_kind f_notes f_other f_pitch w10_0 f_share f_space f_speed) H := hP
  have hD : va_D A (wX10_day cI cJ cS a_o a_kind a_notes a_other a_pitch a_refused a_share a_space a_speed z_steps z_times z_base z_beats z_held z_sort z_size z_shown z_cells z_carried z_words z_tell z_was z_kept z_cutSpace z_cutTimes z_cutOff z_trace v_stretches v_cars v_tunes v_along v_near v_borne v_tempo v_seed v_fault v_from v_at v_end v_told v_wrongAt v_culprit v_ran v_isKept f_kind f_notes f_other f_pitch w10_0 f_share f_space f_speed) := hD
  exact W.iret hx hb hr (fun t ht _ => ⟨⟨_, (v_seed, w10_0), rfl, h, hPt hP ht⟩, hS.F ht⟩) hS.2.2 dX10_day_13
/-! X10_seed -/
abbrev wX10_seed (cI cJ cS : ClassId) (a_o : Nat) (z_refused z_steps z_kind z_space z_other z_times z_speed z_base z_share z_notes z_pitch z_beats z_held z_sort z_size z_shown z_cells z_carried z_words z_tell z_was z_kept z_cutSpace z_cutTimes z_cutOff z_trace : Value) (v_stretches : Int32) (v_cars : Int32) (v_tunes : Int32) (v_along : Int32) (v_near : Int32) (v_borne : Int32) (v_tempo : Int32) (v_seed : Int32) (v_fault : Int32) (v_from : Int32) (v_at : Int32) (v_end : Int32) (v_told : Int32) (v_wrongAt : Int32) (v_culprit : Int32) (v_ran : Int32) (v_isKept : Int32) : va_W := [(a_o, .inr (9, [.int v_stretches, .int v_cars, .int v_tunes, .int v_along, .int v_near, .int v_borne, .int v_tempo, .int v_seed, .int v_fault, z_refused, z_steps, z_kind, z_space, z_other, z_times, z_speed, z_base, z_share, z_notes, z_pitch, z_beats, z_held, z_sort, z_size, z_shown, z_cells, z_carried, z_words, z_tell, .int v_from, .int v_at, .int v_end, .int v_told, .int v_wrongAt, z_was, z_kept, .int v_culprit, z_cutSpace, z_cutTimes, z_cutOff, z_trace, .int v_ran, .int v_isKept]))]
def F_X10_seed (v_seed : Int32) (x1 : Int32) (post : Int32 → Int32 → Prop) : Prop := post v_seed x1
set_option maxHeartbeats 4000000 in
set_option maxRecDepth 100000 in
theorem c_X10_seed {l : Launch} {D : va_G} {cI cJ cS : ClassId} {ad adK : Nat → Nat} {a_o : Nat} {z_refused z_steps z_kind z_space z_other z_times z_speed z_base z_share z_notes z_pitch z_beats z_held z_sort z_size z_shown z_cells z_carried z_words z_tell z_was z_kept z_cutSpace z_cutTimes z_cutOff z_trace : Value} {v_stretches : Int32} {v_cars : Int32} {v_tunes : Int32} {v_along : Int32} {v_near : Int32} {v_borne : Int32} {v_tempo : Int32} {v_seed : Int32} {v_fault : Int32} {v_from : Int32} {v_at : Int32} {v_end : Int32} {v_told : Int32} {v_wrongAt : Int32} {v_culprit : Int32} {v_ran : Int32} {v_isKept : Int32} {x1 : Int32} {post : Int32 → Int32 → Prop} (h : F_X10_seed v_seed x1 post) {sz : Nat} : Met l yX10_seed (Cond.code yX10_seed cX10_seed 3 (some (.int)) :: GW) (rmd 0 0 0) (PW D cI cJ cS ad adK [.ref a_o, .int x1] (wX10_seed cI cJ cS a_o z_refused z_steps z_kind z_space z_other z_times z_speed z_base z_share z_notes z_pitch z_beats z_held z_sort z_size z_shown z_cells z_carried z_words z_tell z_was z_kept z_cutSpace z_cutTimes z_cutOff z_trace v_stretches v_cars v_tunes v_along v_near v_borne v_tempo v_seed v_fault v_from v_at v_end v_told v_wrongAt v_culprit v_ran v_isKept) sz) (va_Qi (fun r (u : Int32) => post r u) (fun u t => va_P D vwCl (wX10_seed cI cJ cS a_o z_refused z_steps z_kind z_space z_other z_times z_speed z_base z_share z_notes z_pitch z_beats z_held z_sort z_size z_shown z_cells z_carried z_words z_tell z_was z_kept z_cutSpace z_cutTimes z_cutOff z_trace v_stretches v_cars v_tunes v_along v_near v_borne v_tempo u v_fault v_from v_at v_end v_told v_wrongAt v_culprit v_ran v_isKept) t.heap) (va_A (wX10_seed cI cJ cS a_o z_refused z_steps z_kind z_space z_other z_times z_speed z_base z_share z_notes z_pitch z_beats z_held z_sort z_size z_shown z_cells z_carried z_words z_tell z_was z_kept z_cutSpace z_cutTimes z_cutOff z_trace v_stretches v_cars v_tunes v_along v_near v_borne v_tempo v_seed v_fault v_from v_at v_end v_told v_wrongAt v_culprit v_ran v_isKept) sz)) 0 0 (va_A (wX10_seed cI cJ cS a_o z_refused z_steps z_kind z_space z_other z_times z_speed z_base z_share z_notes z_pitch z_beats z_held z_sort z_size z_shown z_cells z_carried z_words z_tell z_was z_kept z_cutSpace z_cutTimes z_cutOff z_trace v_stretches v_cars v_tunes v_along v_near v_borne v_tempo v_seed v_fault v_from v_at v_end v_told v_wrongAt v_culprit v_ran v_isKept) sz) := by
  refine Met.rw (Qc := fun A => (va_Qi (fun r (u : Int32) => post r u) (fun u t => va_P D vwCl (wX10_seed cI cJ cS a_o z_refused z_steps z_kind z_space z_other z_times z_speed z_base z_share z_notes z_pitch z_beats z_held z_sort z_size z_shown z_cells z_carried z_words z_tell z_was z_kept z_cutSpace z_cutTimes z_cutOff z_trace v_stretches v_cars v_tunes v_along v_near v_borne v_tempo u v_fault v_from v_at v_end v_told v_wrongAt v_culprit v_ran v_isKept) t.heap) A)) (by decide) (Nat.le_of_ble_eq_true rfl) (fun p e s m args below meth c ls A (S : CallFix p m c cX10_seed 3 s args GW "RoadThatSingsModel") hE hT hP hD hA hS hr hlocks hname hl => ?_)
  have hS0 := hS
  have hx := S.1
  have hb := S.2.1
  have hl : lv_has ls 3 [(0, .ref a_o), (1, .int x1)] := hl
  unfold F_X10_seed at h
  refine lv_aload_n hx hb dX10_seed_0 rfl (lv_at hl 0 rfl) ?_
  refine gf S hE hP 0 rfl rfl inX10 (k := 7) (by decide) q1100 rfl dX10_seed_1 ?_
  refine lv_istore_n (lv' := [(2, .int v_seed), (0, .ref a_o), (1, .int x1)]) hx hb dX10_seed_4 rfl hl (by decide) rfl (fun ls hl => ?_)
  refine lv_aload_n hx hb dX10_seed_5 rfl (lv_at hl 1 rfl) ?_
  refine lv_iload_n hx hb dX10_seed_6 rfl (lv_at hl 2 rfl) ?_
  refine pf S hE hP hD hS 0 (k := 7) rfl rfl inX10 tyX10_ok nmX10 (by decide) q1100 rfl rfl rfl (Nat.le_of_ble_eq_true rfl) dX10_seed_7 (fun H locs hP hD hS => ?_)
  have hP : va_P D vwCl (wX10_seed cI cJ cS a_o z_refused z_steps z_kind z_space z_other z_times z_speed z_base z_share z_notes z_pitch z_beats z_held z_sort z_size z_shown z_cells z_carried z_words z_tell z_was z_kept z_cutSpace z_cutTimes z_cutOff z_trace v_stretches v_cars v_tunes v_along v_near v_borne v_tempo x1 v_fault v_from v_at v_end v_told v_wrongAt v_culprit v_ran v_isKept) H := hP
  have hD : va_D A (wX10_seed cI cJ cS a_o z_refused z_steps z_kind z_space z_other z_times z_speed z_base z_share z_notes z_pitch z_beats z_held z_sort z_size z_shown z_cells z_carried z_words z_tell z_was z_kept z_cutSpace z_cutTimes z_cutOff z_trace v_stretches v_cars v_tunes v_along v_near v_borne v_tempo x1 v_fault v_from v_at v_end v_told v_wrongAt v_culprit v_ran v_isKept) := hD
  refine lv_iload_n hx hb dX10_seed_10 rfl (lv_at hl 0 rfl) ?_
  exact W.iret hx hb hr (fun t ht _ => ⟨⟨_, x1, rfl, h, hPt hP ht⟩, hS.F ht⟩) hS.2.2 dX10_seed_11
/-! X10_body -/
abbrev wX10_body (cI cJ cS : ClassId) (a_o a_trace : Nat) (z_refused z_steps z_kind z_space z_other z_times z_speed z_base z_share z_notes z_pitch z_beats z_held z_sort z_size z_shown z_cells z_carried z_words z_tell z_was z_kept z_cutSpace z_cutTimes z_cutOff : Value) (v_stretches : Int32) (v_cars : Int32) (v_tunes : Int32) (v_along : Int32) (v_near : Int32) (v_borne : Int32) (v_tempo : Int32) (v_seed : Int32) (v_fault : Int32) (v_from : Int32) (v_at : Int32) (v_end : Int32) (v_told : Int32) (v_wrongAt : Int32) (v_culprit : Int32) (v_ran : Int32) (v_isKept : Int32) (f_trace : Nat → Int32) : va_W := [(a_o, .inr (9, [.int v_stretches, .int v_cars, .int v_tunes, .int v_along, .int v_near, .int v_borne, .int v_tempo, .int v_seed, .int v_fault, z_refused, z_steps, z_kind, z_space, z_other, z_times, z_speed, z_base, z_share, z_notes, z_pitch, z_beats, z_held, z_sort, z_size, z_shown, z_cells, z_carried, z_words, z_tell, .int v_from, .int v_at, .int v_end, .int v_told, .int v_wrongAt, z_was, z_kept, .int v_culprit, z_cutSpace, z_cutTimes, z_cutOff, .ref a_trace, .int v_ran, .int v_isKept])), (a_trace, .inl (cI, 20, .inl f_trace))]
def F_X10_body_19 (post : Int32 → (Nat → Int32) → Prop) (v_ran : Int32) (f_trace : Nat → Int32) : Prop := post (v_ran + 1) f_trace
def F_X10_body (v_ran : Int32) (f_trace : Nat → Int32) (x1 : Int32) (post : Int32 → (Nat → Int32) → Prop) : Prop := ((20 ≤ v_ran → F_X10_body_19 post v_ran f_trace) ∧ (¬ 20 ≤ v_ran → (vp_in v_ran 20 ∧ F_X10_body_19 post v_ran (upd f_trace v_ran.toNatClampNeg x1))))
set_option maxHeartbeats 4000000 in
set_option maxRecDepth 100000 in
theorem w_X10_body_19 {l : Launch} {D : va_G} {cI cJ cS : ClassId} {ad adK : Nat → Nat} {a_o a_trace : Nat} {z_refused z_steps z_kind z_space z_other z_times z_speed z_base z_share z_notes z_pitch z_beats z_held z_sort z_size z_shown z_cells z_carried z_words z_tell z_was z_kept z_cutSpace z_cutTimes z_cutOff : Value} {v_stretches : Int32} {v_cars : Int32} {v_tunes : Int32} {v_along : Int32} {v_near : Int32} {v_borne : Int32} {v_tempo : Int32} {v_seed : Int32} {v_fault : Int32} {v_from : Int32} {v_at : Int32} {v_end : Int32} {v_told : Int32} {v_wrongAt : Int32} {v_culprit : Int32} {v_ran : Int32} {v_isKept : Int32} {f_trace : Nat → Int32} {post : Int32 → (Nat → Int32) → Prop} {p : Program} {e : Env} {s : State} {m : MethodId} {args : Array Value} {below : List Frame} {meth : Method} {c : Code} {A : Nat → Prop} (S : CallFix p m c cX10_body 2 s args GW "RoadThatSingsModel") (hE : EN D cI cJ cS s) (hT : ST ad adK A s s.heap) (hA : ∀ q : Nat, s.heap.size ≤ q → A q) (hr : meth.sig.returnType = none) (hlocks : meth.locks = false) : ∀ (H : Heap) (locs : List Loc) (ls : Array Slot), F_X10_body_19 post v_ran f_trace → va_P D vwCl (wX10_body cI cJ cS a_o a_trace z_refused z_steps z_kind z_space z_other z_times z_speed z_base z_share z_notes z_pitch z_beats z_held z_sort z_size z_shown z_cells z_carried z_words z_tell z_was z_kept z_cutSpace z_cutTimes z_cutOff v_stretches v_cars v_tunes v_along v_near v_borne v_tempo v_seed v_fault v_from v_at v_end v_told v_wrongAt v_culprit v_ran v_isKept f_trace) H → va_D A (wX10_body cI cJ cS a_o a_trace z_refused z_steps z_kind z_space z_other z_times z_speed z_base z_share z_notes z_pitch z_beats z_held z_sort z_size z_shown z_cells z_carried z_words z_tell z_was z_kept z_cutSpace z_cutTimes z_cutOff v_stretches v_cars v_tunes v_along v_near v_borne v_tempo v_seed v_fault v_from v_at v_end v_told v_wrongAt v_culprit v_ran v_isKept f_trace) → va_S A s.heap H locs → lv_has ls 2 [(0, .ref a_o)] → W p l e (rmd 0 0 0) s m args below meth c H locs 0 0 (MQ below (va_Qv (fun u : Int32 × (Nat → Int32) => post u.1 u.2) (fun u t => va_P D vwCl (wX10_body cI cJ cS a_o a_trace z_refused z_steps z_kind z_space z_other z_times z_speed z_base z_share z_notes z_pitch z_beats z_held z_sort z_size z_shown z_cells z_carried z_words z_tell z_was z_kept z_cutSpace z_cutTimes z_cutOff v_stretches v_cars v_tunes v_along v_near v_borne v_tempo v_seed v_fault v_from v_at v_end v_told v_wrongAt v_culprit u.1 v_isKept u.2) t.heap) A) args s 0 0 A) (F0 m 19 ls []) := by
  intro  H locs ls h hP hD hS hl
  unfold F_X10_body_19 at h
  have hx := S.1
  have hb := S.2.1
  refine lv_aload_n hx hb dX10_body_19 rfl (lv_at hl 0 rfl) ?_
  refine lv_dup hx hb dX10_body_20 rfl ?_
  refine gf S hE hP 0 rfl rfl inX10 (k := 41) (by decide) q1134 rfl dX10_body_21 ?_
  refine lv_iconst (v := 1) hx hb dX10_body_24 (by decide) ?_
  refine lv_iadd hx hb dX10_body_25 ?_
  refine pf S hE hP hD hS 0 (k := 41) rfl rfl inX10 tyX10_ok nmX10 (by decide) q1134 rfl rfl rfl (Nat.le_of_ble_eq_true rfl) dX10_body_26 (fun H locs hP hD hS => ?_)
  have hP : va_P D vwCl (wX10_body cI cJ cS a_o a_trace z_refused z_steps z_kind z_space z_other z_times z_speed z_base z_share z_notes z_pitch z_beats z_held z_sort z_size z_shown z_cells z_carried z_words z_tell z_was z_kept z_cutSpace z_cutTimes z_cutOff v_stretches v_cars v_tunes v_along v_near v_borne v_tempo v_seed v_fault v_from v_at v_end v_told v_wrongAt v_culprit (v_ran + 1) v_isKept f_trace) H := hP
  have hD : va_D A (wX10_body cI cJ cS a_o a_trace z_refused z_steps z_kind z_space z_other z_times z_speed z_base z_share z_notes z_pitch z_beats z_held z_sort z_size z_shown z_cells z_carried z_words z_tell z_was z_kept z_cutSpace z_cutTimes z_cutOff v_stretches v_cars v_tunes v_along v_near v_borne v_tempo v_seed v_fault v_from v_at v_end v_told v_wrongAt v_culprit (v_ran + 1) v_isKept f_trace) := hD
  exact W.vret hx hb hr (fun t ht _ => ⟨⟨((v_ran + 1), f_trace), rfl, h, hPt hP ht⟩, hS.F ht⟩) hS.2.2 dX10_body_29
set_option maxHeartbeats 4000000 in
set_option maxRecDepth 100000 in
theorem c_X10_body {l : Launch} {D : va_G} {cI cJ cS : ClassId} {ad adK : Nat → Nat} {a_o a_trace : Nat} {z_refused z_steps z_kind z_space z_other z_times z_speed z_base z_share z_notes z_pitch z_beats z_held z_sort z_size z_shown z_cells z_carried z_words z_tell z_was z_kept z_cutSpace z_cutTimes z_cutOff : Value} {v_stretches : Int32} {v_cars : Int32} {v_tunes : Int32} {v_along : Int32} {v_near : Int32} {v_borne : Int32} {v_tempo : Int32} {v_seed : Int32} {v_fault : Int32} {v_from : Int32} {v_at : Int32} {v_end : Int32} {v_told : Int32} {v_wrongAt : Int32} {v_culprit : Int32} {v_ran : Int32} {v_isKept : Int32} {f_trace : Nat → Int32} {x1 : Int32} {post : Int32 → (Nat → Int32) → Prop} (h : F_X10_body v_ran f_trace x1 post) {sz : Nat} : Met l yX10_body (Cond.code yX10_body cX10_body 2 none :: GW) (rmd 0 0 0) (PW D cI cJ cS ad adK [.ref a_o, .int x1] (wX10_body cI cJ cS a_o a_trace z_refused z_steps z_kind z_space z_other z_times z_speed z_base z_share z_notes z_pitch z_beats z_held z_sort z_size z_shown z_cells z_carried z_words z_tell z_was z_kept z_cutSpace z_cutTimes z_cutOff v_stretches v_cars v_tunes v_along v_near v_borne v_tempo v_seed v_fault v_from v_at v_end v_told v_wrongAt v_culprit v_ran v_isKept f_trace) sz) (va_Qv (fun u : Int32 × (Nat → Int32) => post u.1 u.2) (fun u t => va_P D vwCl (wX10_body cI cJ cS a_o a_trace z_refused z_steps z_kind z_space z_other z_times z_speed z_base z_share z_notes z_pitch z_beats z_held z_sort z_size z_shown z_cells z_carried z_words z_tell z_was z_kept z_cutSpace z_cutTimes z_cutOff v_stretches v_cars v_tunes v_along v_near v_borne v_tempo v_seed v_fault v_from v_at v_end v_told v_wrongAt v_culprit u.1 v_isKept u.2) t.heap) (va_A (wX10_body cI cJ cS a_o a_trace z_refused z_steps z_kind z_space z_other z_times z_speed z_base z_share z_notes z_pitch z_beats z_held z_sort z_size z_shown z_cells z_carried z_words z_tell z_was z_kept z_cutSpace z_cutTimes z_cutOff v_stretches v_cars v_tunes v_along v_near v_borne v_tempo v_seed v_fault v_from v_at v_end v_told v_wrongAt v_culprit v_ran v_isKept f_trace) sz)) 0 0 (va_A (wX10_body cI cJ cS a_o a_trace z_refused z_steps z_kind z_space z_other z_times z_speed z_base z_share z_notes z_pitch z_beats z_held z_sort z_size z_shown z_cells z_carried z_words z_tell z_was z_kept z_cutSpace z_cutTimes z_cutOff v_stretches v_cars v_tunes v_along v_near v_borne v_tempo v_seed v_fault v_from v_at v_end v_told v_wrongAt v_culprit v_ran v_isKept f_trace) sz) := by
  refine Met.rw (Qc := fun A => (va_Qv (fun u : Int32 × (Nat → Int32) => post u.1 u.2) (fun u t => va_P D vwCl (wX10_body cI cJ cS a_o a_trace z_refused z_steps z_kind z_space z_other z_times z_speed z_base z_share z_notes z_pitch z_beats z_held z_sort z_size z_shown z_cells z_carried z_words z_tell z_was z_kept z_cutSpace z_cutTimes z_cutOff v_stretches v_cars v_tunes v_along v_near v_borne v_tempo v_seed v_fault v_from v_at v_end v_told v_wrongAt v_culprit u.1 v_isKept u.2) t.heap) A)) (by decide) (Nat.le_of_ble_eq_true rfl) (fun p e s m args below meth c ls A (S : CallFix p m c cX10_body 2 s args GW "RoadThatSingsModel") hE hT hP hD hA hS hr hlocks hname hl => ?_)
  have hS0 := hS
  have hx := S.1
  have hb := S.2.1
  have hl : lv_has ls 2 [(0, .ref a_o), (1, .int x1)] := hl
  unfold F_X10_body at h
  refine lv_aload_n hx hb dX10_body_0 rfl (lv_at hl 0 rfl) ?_
  refine gf S hE hP 0 rfl rfl inX10 (k := 41) (by decide) q1134 rfl dX10_body_1 ?_
  refine lv_bipush (v := 20) hx hb dX10_body_4 (by decide) ?_
  refine lv_icmp_ge (tgt := 19) hx hb dX10_body_6 (by decide) (fun hc => ?_) (fun hc => ?_)
  · have h := h.1 hc
    refine w_X10_body_19 S hE hT hA hr hlocks _ _ _ h hP hD hS (lv_sub hl [0] rfl)
  have h := h.2 hc
  refine lv_aload_n hx hb dX10_body_9 rfl (lv_at hl 0 rfl) ?_
  refine gf S hE hP 0 rfl rfl inX10 (k := 40) (by decide) q1133 rfl dX10_body_10 ?_
  refine lv_aload_n hx hb dX10_body_13 rfl (lv_at hl 0 rfl) ?_
  refine gf S hE hP 0 rfl rfl inX10 (k := 41) (by decide) q1134 rfl dX10_body_14 ?_
  refine lv_iload_n hx hb dX10_body_17 rfl (lv_at hl 1 rfl) ?_
  obtain ⟨hi, h⟩ := h
  refine ias S hE hP hD hS 1 rfl hi dX10_body_18 (fun H locs hP hD hS => ?_)
  have hP : va_P D vwCl (wX10_body cI cJ cS a_o a_trace z_refused z_steps z_kind z_space z_other z_times z_speed z_base z_share z_notes z_pitch z_beats z_held z_sort z_size z_shown z_cells z_carried z_words z_tell z_was z_kept z_cutSpace z_cutTimes z_cutOff v_stretches v_cars v_tunes v_along v_near v_borne v_tempo v_seed v_fault v_from v_at v_end v_told v_wrongAt v_culprit v_ran v_isKept (upd f_trace v_ran.toNatClampNeg x1)) H := hP
  have hD : va_D A (wX10_body cI cJ cS a_o a_trace z_refused z_steps z_kind z_space z_other z_times z_speed z_base z_share z_notes z_pitch z_beats z_held z_sort z_size z_shown z_cells z_carried z_words z_tell z_was z_kept z_cutSpace z_cutTimes z_cutOff v_stretches v_cars v_tunes v_along v_near v_borne v_tempo v_seed v_fault v_from v_at v_end v_told v_wrongAt v_culprit v_ran v_isKept (upd f_trace v_ran.toNatClampNeg x1)) := hD
  refine w_X10_body_19 S hE hT hA hr hlocks _ _ _ h hP hD hS (lv_sub hl [0] rfl)
/-! X10_humming -/
abbrev wX10_humming (cI cJ cS : ClassId) (a_o a_kind a_space a_trace : Nat) (z_refused z_steps z_other z_times z_speed z_base z_share z_notes z_pitch z_beats z_held z_sort z_size z_shown z_cells z_carried z_words z_tell z_was z_kept z_cutSpace z_cutTimes z_cutOff : Value) (v_stretches : Int32) (v_cars : Int32) (v_tunes : Int32) (v_along : Int32) (v_near : Int32) (v_borne : Int32) (v_tempo : Int32) (v_seed : Int32) (v_fault : Int32) (v_from : Int32) (v_at : Int32) (v_end : Int32) (v_told : Int32) (v_wrongAt : Int32) (v_culprit : Int32) (v_ran : Int32) (v_isKept : Int32) (f_kind : Nat → Int32) (f_space : Nat → Int32) (f_trace : Nat → Int32) : va_W := [(a_o, .inr (9, [.int v_stretches, .int v_cars, .int v_tunes, .int v_along, .int v_near, .int v_borne, .int v_tempo, .int v_seed, .int v_fault, z_refused, z_steps, .ref a_kind, .ref a_space, z_other, z_times, z_speed, z_base, z_share, z_notes, z_pitch, z_beats, z_held, z_sort, z_size, z_shown, z_cells, z_carried, z_words, z_tell, .int v_from, .int v_at, .int v_end, .int v_told, .int v_wrongAt, z_was, z_kept, .int v_culprit, z_cutSpace, z_cutTimes, z_cutOff, .ref a_trace, .int v_ran, .int v_isKept])), (a_kind, .inl (cI, 16, .inl f_kind)), (a_space, .inl (cI, 16, .inl f_space)), (a_trace, .inl (cI, 20, .inl f_trace))]
def F_X10_humming_74 (post : Int32 → Int32 → (Nat → Int32) → Prop) (x1 : Int32) (x3 : Int32) (x4 : Int32) (v_ran : Int32) (f_trace : Nat → Int32) : Prop := ((x3 = 5 → post (x4 - x1) v_ran f_trace) ∧ (¬ x3 = 5 → ((x3 = 6 → post (x4 * 2) v_ran f_trace) ∧ (¬ x3 = 6 → post x4 v_ran f_trace))))
def F_X10_humming_44 (f_space : Nat → Int32) (post : Int32 → Int32 → (Nat → Int32) → Prop) (x1 : Int32) (x2 : Int32) (x3 : Int32) (v_ran : Int32) (f_trace : Nat → Int32) : Prop := (F_X10_body v_ran f_trace 10 (fun w47_0 w47_1 => (∀ x4_53 : Int32, x4_53 = x2 + x1 → (F_X10_isEven x3 (fun r57 => ((r57 = 0 → F_X10_humming_74 post x1 x3 x4_53 w47_0 w47_1) ∧ (¬ r57 = 0 → (vp_in x1 16 ∧ (∀ x4_72 : Int32, x4_72 = x4_53 + (f_space x1.toNatClampNeg) → F_X10_humming_74 post x1 x3 x4_72 w47_0 w47_1)))))))))
def F_X10_humming_32 (f_space : Nat → Int32) (post : Int32 → Int32 → (Nat → Int32) → Prop) (x1 : Int32) (x2 : Int32) (x3 : Int32) (v_ran : Int32) (f_trace : Nat → Int32) : Prop := ((x3 = 6 → (F_X10_body v_ran f_trace 70 (fun w41_0 w41_1 => F_X10_humming_44 f_space post x1 x2 x3 w41_0 w41_1))) ∧ (¬ x3 = 6 → F_X10_humming_44 f_space post x1 x2 x3 v_ran f_trace))
def F_X10_humming_18 (f_space : Nat → Int32) (post : Int32 → Int32 → (Nat → Int32) → Prop) (x1 : Int32) (x2 : Int32) (x3 : Int32) (v_ran : Int32) (f_trace : Nat → Int32) : Prop := (F_X10_isEven x3 (fun r20 => ((r20 = 0 → F_X10_humming_32 f_space post x1 x2 x3 v_ran f_trace) ∧ (¬ r20 = 0 → (F_X10_body v_ran f_trace 20 (fun w29_0 w29_1 => F_X10_humming_32 f_space post x1 x2 x3 w29_0 w29_1))))))
def F_X10_humming (v_ran : Int32) (f_kind : Nat → Int32) (f_space : Nat → Int32) (f_trace : Nat → Int32) (x1 : Int32) (x2 : Int32) (post : Int32 → Int32 → (Nat → Int32) → Prop) : Prop := (vp_in x1 16 ∧ (∀ x3_6 : Int32, x3_6 = f_kind x1.toNatClampNeg → ((x3_6 = 5 → (F_X10_body v_ran f_trace 41 (fun w15_0 w15_1 => F_X10_humming_18 f_space post x1 x2 x3_6 w15_0 w15_1))) ∧ (¬ x3_6 = 5 → F_X10_humming_18 f_space post x1 x2 x3_6 v_ran f_trace))))
set_option maxHeartbeats 4000000 in
set_option maxRecDepth 100000 in
theorem w_X10_humming_74 {l : Launch} {D : va_G} {cI cJ cS : ClassId} {ad adK : Nat → Nat} {a_o a_kind a_space a_trace : Nat} {z_refused z_steps z_other z_times z_speed z_base z_share z_notes z_pitch z_beats z_held z_sort z_size z_shown z_cells z_carried z_words z_tell z_was z_kept z_cutSpace z_cutTimes z_cutOff : Value} {v_stretches : Int32} {v_cars : Int32} {v_tunes : Int32} {v_along : Int32} {v_near : Int32} {v_borne : Int32} {v_tempo : Int32} {v_seed : Int32} {v_fault : Int32} {v_from : Int32} {v_at : Int32} {v_end : Int32} {v_told : Int32} {v_wrongAt : Int32} {v_culprit : Int32} {v_ran : Int32} {v_isKept : Int32} {f_kind : Nat → Int32} {f_space : Nat → Int32} {f_trace : Nat → Int32} {x1 : Int32} {x3 : Int32} {x4 : Int32} {post : Int32 → Int32 → (Nat → Int32) → Prop} {p : Program} {e : Env} {s : State} {m : MethodId} {args : Array Value} {below : List Frame} {meth : Method} {c : Code} {A : Nat → Prop} (S : CallFix p m c cX10_humming 5 s args GW "RoadThatSingsModel") (hE : EN D cI cJ cS s) (hT : ST ad adK A s s.heap) (hA : ∀ q : Nat, s.heap.size ≤ q → A q) (hr : meth.sig.returnType = (some (.int))) (hlocks : meth.locks = false) : ∀ (H : Heap) (locs : List Loc) (ls : Array Slot), F_X10_humming_74 post x1 x3 x4 v_ran f_trace → va_P D vwCl (wX10_humming cI cJ cS a_o a_kind a_space a_trace z_refused z_steps z_other z_times z_speed z_base z_share z_notes z_pitch z_beats z_held z_sort z_size z_shown z_cells z_carried z_words z_tell z_was z_kept z_cutSpace z_cutTimes z_cutOff v_stretches v_cars v_tunes v_along v_near v_borne v_tempo v_seed v_fault v_from v_at v_end v_told v_wrongAt v_culprit v_ran v_isKept f_kind f_space f_trace) H → va_D A (wX10_humming cI cJ cS a_o a_kind a_space a_trace z_refused z_steps z_other z_times z_speed z_base z_share z_notes z_pitch z_beats z_held z_sort z_size z_shown z_cells z_carried z_words z_tell z_was z_kept z_cutSpace z_cutTimes z_cutOff v_stretches v_cars v_tunes v_along v_near v_borne v_tempo v_seed v_fault v_from v_at v_end v_told v_wrongAt v_culprit v_ran v_isKept f_kind f_space f_trace) → va_S A s.heap H locs → lv_has ls 5 [(1, .int x1), (3, .int x3), (4, .int x4)] → W p l e (rmd 1 0 0) s m args below meth c H locs 0 0 (MQ below (va_Qi (fun r (u : Int32 × (Nat → Int32)) => post r u.1 u.2) (fun u t => va_P D vwCl (wX10_humming cI cJ cS a_o a_kind a_space a_trace z_refused z_steps z_other z_times z_speed z_base z_share z_notes z_pitch z_beats z_held z_sort z_size z_shown z_cells z_carried z_words z_tell z_was z_kept z_cutSpace z_cutTimes z_cutOff v_stretches v_cars v_tunes v_along v_near v_borne v_tempo v_seed v_fault v_from v_at v_end v_told v_wrongAt v_culprit u.1 v_isKept f_kind f_space u.2) t.heap) A) args s 0 0 A) (F0 m 74 ls []) := by
  intro  H locs ls h hP hD hS hl
  unfold F_X10_humming_74 at h
  have hx := S.1
  have hb := S.2.1
  refine lv_iload_n hx hb dX10_humming_74 rfl (lv_at hl 1 rfl) ?_
  refine lv_iconst (v := 5) hx hb dX10_humming_75 (by decide) ?_
  refine lv_icmp_ne (tgt := 86) hx hb dX10_humming_76 (by decide) (fun hc => ?_) (fun hc => ?_)
  · have h := h.2 hc
    refine lv_iload_n hx hb dX10_humming_86 rfl (lv_at hl 1 rfl) ?_
    refine lv_bipush (v := 6) hx hb dX10_humming_87 (by decide) ?_
    refine lv_icmp_ne (tgt := 99) hx hb dX10_humming_89 (by decide) (fun hc => ?_) (fun hc => ?_)
    · have h := h.2 hc
      refine lv_iload hx hb dX10_humming_99 (lv_at hl 2 rfl) ?_
      exact W.iret hx hb hr (fun t ht _ => ⟨⟨_, (v_ran, f_trace), rfl, h, hPt hP ht⟩, hS.F ht⟩) hS.2.2 dX10_humming_101
    have h := h.1 hc
    refine lv_iload hx hb dX10_humming_92 (lv_at hl 2 rfl) ?_
    refine lv_iconst (v := 2) hx hb dX10_humming_94 (by decide) ?_
    refine lv_imul hx hb dX10_humming_95 ?_
    refine lv_goto (tgt := 101) hx hb dX10_humming_96 (by decide) ?_
    exact W.iret hx hb hr (fun t ht _ => ⟨⟨_, (v_ran, f_trace), rfl, h, hPt hP ht⟩, hS.F ht⟩) hS.2.2 dX10_humming_101
  have h := h.1 hc
  refine lv_iload hx hb dX10_humming_79 (lv_at hl 2 rfl) ?_
  refine lv_iload_n hx hb dX10_humming_81 rfl (lv_at hl 0 rfl) ?_
  refine lv_isub hx hb dX10_humming_82 ?_
  refine lv_goto (tgt := 101) hx hb dX10_humming_83 (by decide) ?_
  exact W.iret hx hb hr (fun t ht _ => ⟨⟨_, (v_ran, f_trace), rfl, h, hPt hP ht⟩, hS.F ht⟩) hS.2.2 dX10_humming_101
set_option maxHeartbeats 4000000 in
set_option maxRecDepth 100000 in
theorem w_X10_humming_44 {l : Launch} {D : va_G} {cI cJ cS : ClassId} {ad adK : Nat → Nat} {a_o a_kind a_space a_trace : Nat} {z_refused z_steps z_other z_times z_speed z_base z_share z_notes z_pitch z_beats z_held z_sort z_size z_shown z_cells z_carried z_words z_tell z_was z_kept z_cutSpace z_cutTimes z_cutOff : Value} {v_stretches : Int32} {v_cars : Int32} {v_tunes : Int32} {v_along : Int32} {v_near : Int32} {v_borne : Int32} {v_tempo : Int32} {v_seed : Int32} {v_fault : Int32} {v_from : Int32} {v_at : Int32} {v_end : Int32} {v_told : Int32} {v_wrongAt : Int32} {v_culprit : Int32} {v_ran : Int32} {v_isKept : Int32} {f_kind : Nat → Int32} {f_space : Nat → Int32} {f_trace : Nat → Int32} {x1 : Int32} {x2 : Int32} {x3 : Int32} {post : Int32 → Int32 → (Nat → Int32) → Prop} {p : Program} {e : Env} {s : State} {m : MethodId} {args : Array Value} {below : List Frame} {meth : Method} {c : Code} {A : Nat → Prop} (S : CallFix p m c cX10_humming 5 s args GW "RoadThatSingsModel") (hE : EN D cI cJ cS s) (hT : ST ad adK A s s.heap) (hA : ∀ q : Nat, s.heap.size ≤ q → A q) (hr : meth.sig.returnType = (some (.int))) (hlocks : meth.locks = false) : ∀ (H : Heap) (locs : List Loc) (ls : Array Slot), F_X10_humming_44 f_space post x1 x2 x3 v_ran f_trace → va_P D vwCl (wX10_humming cI cJ cS a_o a_kind a_space a_trace z_refused z_steps z_other z_times z_speed z_base z_share z_notes z_pitch z_beats z_held z_sort z_size z_shown z_cells z_carried z_words z_tell z_was z_kept z_cutSpace z_cutTimes z_cutOff v_stretches v_cars v_tunes v_along v_near v_borne v_tempo v_seed v_fault v_from v_at v_end v_told v_wrongAt v_culprit v_ran v_isKept f_kind f_space f_trace) H → va_D A (wX10_humming cI cJ cS a_o a_kind a_space a_trace z_refused z_steps z_other z_times z_speed z_base z_share z_notes z_pitch z_beats z_held z_sort z_size z_shown z_cells z_carried z_words z_tell z_was z_kept z_cutSpace z_cutTimes z_cutOff v_stretches v_cars v_tunes v_along v_near v_borne v_tempo v_seed v_fault v_from v_at v_end v_told v_wrongAt v_culprit v_ran v_isKept f_kind f_space f_trace) → va_S A s.heap H locs → lv_has ls 5 [(0, .ref a_o), (1, .int x1), (2, .int x2), (3, .int x3)] → W p l e (rmd 1 0 0) s m args below meth c H locs 0 0 (MQ below (va_Qi (fun r (u : Int32 × (Nat → Int32)) => post r u.1 u.2) (fun u t => va_P D vwCl (wX10_humming cI cJ cS a_o a_kind a_space a_trace z_refused z_steps z_other z_times z_speed z_base z_share z_notes z_pitch z_beats z_held z_sort z_size z_shown z_cells z_carried z_words z_tell z_was z_kept z_cutSpace z_cutTimes z_cutOff v_stretches v_cars v_tunes v_along v_near v_borne v_tempo v_seed v_fault v_from v_at v_end v_told v_wrongAt v_culprit u.1 v_isKept f_kind f_space u.2) t.heap) A) args s 0 0 A) (F0 m 44 ls []) := by
  intro  H locs ls h hP hD hS hl
  unfold F_X10_humming_44 at h
  have hx := S.1
  have hb := S.2.1
  refine lv_aload_n hx hb dX10_humming_44 rfl (lv_at hl 0 rfl) ?_
  refine lv_bipush (v := 10) hx hb dX10_humming_45 (by decide) ?_
  refine rw_v (rwV S hE hT hS hP hD hA (c_X10_body h) [0, 3] rfl (by decide) lkX10_284 rfl ⟨(Nat.le_of_ble_eq_true rfl), (Nat.le_of_ble_eq_true rfl)⟩ 0 rfl rfl hl.1 rfl (Nat.le_of_ble_eq_true rfl) dX10_humming_47 ⟨(Nat.zero_le _), (Nat.zero_le _)⟩) hP hD hS hA [0, 3] rfl (by decide) (fun _ => rfl) (fun u47 H locs h hP hD hS => ?_)
  obtain ⟨w47_0, w47_1⟩ := u47
  try dsimp only at h
  have hP : va_P D vwCl (wX10_humming cI cJ cS a_o a_kind a_space a_trace z_refused z_steps z_other z_times z_speed z_base z_share z_notes z_pitch z_beats z_held z_sort z_size z_shown z_cells z_carried z_words z_tell z_was z_kept z_cutSpace z_cutTimes z_cutOff v_stretches v_cars v_tunes v_along v_near v_borne v_tempo v_seed v_fault v_from v_at v_end v_told v_wrongAt v_culprit w47_0 v_isKept f_kind f_space w47_1) H := hP
  have hD : va_D A (wX10_humming cI cJ cS a_o a_kind a_space a_trace z_refused z_steps z_other z_times z_speed z_base z_share z_notes z_pitch z_beats z_held z_sort z_size z_shown z_cells z_carried z_words z_tell z_was z_kept z_cutSpace z_cutTimes z_cutOff v_stretches v_cars v_tunes v_along v_near v_borne v_tempo v_seed v_fault v_from v_at v_end v_told v_wrongAt v_culprit w47_0 v_isKept f_kind f_space w47_1) := hD
  refine lv_iload_n hx hb dX10_humming_50 rfl (lv_at hl 2 rfl) ?_
  refine lv_iload_n hx hb dX10_humming_51 rfl (lv_at hl 1 rfl) ?_
  refine lv_iadd hx hb dX10_humming_52 ?_
  refine lv_topi (fun x4_53 ex4_53 => ?_)
  have h := h _ ex4_53
  refine lv_istore (lv' := [(4, .int x4_53), (0, .ref a_o), (1, .int x1), (2, .int x2), (3, .int x3)]) hx hb dX10_humming_53 hl (by decide) rfl (fun ls hl => ?_)
  refine lv_aload_n hx hb dX10_humming_55 rfl (lv_at hl 1 rfl) ?_
  refine lv_iload_n hx hb dX10_humming_56 rfl (lv_at hl 4 rfl) ?_
  refine ro_i (roV S hE hT hS (c_X10_isEven h) lkX10_128 rfl ⟨(Nat.le_of_ble_eq_true rfl), (Nat.le_of_ble_eq_true rfl)⟩ (hP.sub [0] rfl) 0 rfl rfl hl.1 rfl (Nat.le_of_ble_eq_true rfl) dX10_humming_57 ⟨(Nat.zero_le _), (Nat.zero_le _)⟩) (fun r57 h => ?_)
  refine lv_if_eq (tgt := 74) hx hb dX10_humming_60 (by decide) (fun hc => ?_) (fun hc => ?_)
  · have h := h.1 hc
    refine w_X10_humming_74 S hE hT hA hr hlocks _ _ _ h hP hD hS (lv_sub hl [2, 4, 0] rfl)
  have h := h.2 hc
  refine lv_iload hx hb dX10_humming_63 (lv_at hl 0 rfl) ?_
  refine lv_aload_n hx hb dX10_humming_65 rfl (lv_at hl 1 rfl) ?_
  refine gf S hE hP 0 rfl rfl inX10 (k := 12) (by decide) q1105 rfl dX10_humming_66 ?_
  refine lv_iload_n hx hb dX10_humming_69 rfl (lv_at hl 2 rfl) ?_
  obtain ⟨hi, h⟩ := h
  refine ial S hE hP 2 rfl hi dX10_humming_70 ?_
  refine lv_iadd hx hb dX10_humming_71 ?_
  refine lv_topi (fun x4_72 ex4_72 => ?_)
  have h := h _ ex4_72
  refine lv_istore (lv' := [(4, .int x4_72), (0, .ref a_o), (1, .int x1), (2, .int x2), (3, .int x3)]) hx hb dX10_humming_72 hl (by decide) rfl (fun ls hl => ?_)
  refine w_X10_humming_74 S hE hT hA hr hlocks _ _ _ h hP hD hS (lv_sub hl [2, 4, 0] rfl)
set_option maxHeartbeats 4000000 in
set_option maxRecDepth 100000 in
theorem w_X10_humming_32 {l : Launch} {D : va_G} {cI cJ cS : ClassId} {ad adK : Nat → Nat} {a_o a_kind a_space a_trace : Nat} {z_refused z_steps z_other z_times z_speed z_base z_share z_notes z_pitch z_beats z_held z_sort z_size z_shown z_cells z_carried z_words z_tell z_was z_kept z_cutSpace z_cutTimes z_cutOff : Value} {v_stretches : Int32} {v_cars : Int32} {v_tunes : Int32} {v_along : Int32} {v_near : Int32} {v_borne : Int32} {v_tempo : Int32} {v_seed : Int32} {v_fault : Int32} {v_from : Int32} {v_at : Int32} {v_end : Int32} {v_told : Int32} {v_wrongAt : Int32} {v_culprit : Int32} {v_ran : Int32} {v_isKept : Int32} {f_kind : Nat → Int32} {f_space : Nat → Int32} {f_trace : Nat → Int32} {x1 : Int32} {x2 : Int32} {x3 : Int32} {post : Int32 → Int32 → (Nat → Int32) → Prop} {p : Program} {e : Env} {s : State} {m : MethodId} {args : Array Value} {below : List Frame} {meth : Method} {c : Code} {A : Nat → Prop} (S : CallFix p m c cX10_humming 5 s args GW "RoadThatSingsModel") (hE : EN D cI cJ cS s) (hT : ST ad adK A s s.heap) (hA : ∀ q : Nat, s.heap.size ≤ q → A q) (hr : meth.sig.returnType = (some (.int))) (hlocks : meth.locks = false) : ∀ (H : Heap) (locs : List Loc) (ls : Array Slot), F_X10_humming_32 f_space post x1 x2 x3 v_ran f_trace → va_P D vwCl (wX10_humming cI cJ cS a_o a_kind a_space a_trace z_refused z_steps z_other z_times z_speed z_base z_share z_notes z_pitch z_beats z_held z_sort z_size z_shown z_cells z_carried z_words z_tell z_was z_kept z_cutSpace z_cutTimes z_cutOff v_stretches v_cars v_tunes v_along v_near v_borne v_tempo v_seed v_fault v_from v_at v_end v_told v_wrongAt v_culprit v_ran v_isKept f_kind f_space f_trace) H → va_D A (wX10_humming cI cJ cS a_o a_kind a_space a_trace z_refused z_steps z_other z_times z_speed z_base z_share z_notes z_pitch z_beats z_held z_sort z_size z_shown z_cells z_carried z_words z_tell z_was z_kept z_cutSpace z_cutTimes z_cutOff v_stretches v_cars v_tunes v_along v_near v_borne v_tempo v_seed v_fault v_from v_at v_end v_told v_wrongAt v_culprit v_ran v_isKept f_kind f_space f_trace) → va_S A s.heap H locs → lv_has ls 5 [(0, .ref a_o), (1, .int x1), (2, .int x2), (3, .int x3)] → W p l e (rmd 1 0 0) s m args below meth c H locs 0 0 (MQ below (va_Qi (fun r (u : Int32 × (Nat → Int32)) => post r u.1 u.2) (fun u t => va_P D vwCl (wX10_humming cI cJ cS a_o a_kind a_space a_trace z_refused z_steps z_other z_times z_speed z_base z_share z_notes z_pitch z_beats z_held z_sort z_size z_shown z_cells z_carried z_words z_tell z_was z_kept z_cutSpace z_cutTimes z_cutOff v_stretches v_cars v_tunes v_along v_near v_borne v_tempo v_seed v_fault v_from v_at v_end v_told v_wrongAt v_culprit u.1 v_isKept f_kind f_space u.2) t.heap) A) args s 0 0 A) (F0 m 32 ls []) := by
  intro  H locs ls h hP hD hS hl
  unfold F_X10_humming_32 at h
  have hx := S.1
  have hb := S.2.1
  refine lv_iload_n hx hb dX10_humming_32 rfl (lv_at hl 3 rfl) ?_
  refine lv_bipush (v := 6) hx hb dX10_humming_33 (by decide) ?_
  refine lv_icmp_ne (tgt := 44) hx hb dX10_humming_35 (by decide) (fun hc => ?_) (fun hc => ?_)
  · have h := h.2 hc
    refine w_X10_humming_44 S hE hT hA hr hlocks _ _ _ h hP hD hS (lv_sub hl [0, 1, 2, 3] rfl)
  have h := h.1 hc
  refine lv_aload_n hx hb dX10_humming_38 rfl (lv_at hl 0 rfl) ?_
  refine lv_bipush (v := 70) hx hb dX10_humming_39 (by decide) ?_
  refine rw_v (rwV S hE hT hS hP hD hA (c_X10_body h) [0, 3] rfl (by decide) lkX10_284 rfl ⟨(Nat.le_of_ble_eq_true rfl), (Nat.le_of_ble_eq_true rfl)⟩ 0 rfl rfl hl.1 rfl (Nat.le_of_ble_eq_true rfl) dX10_humming_41 ⟨(Nat.zero_le _), (Nat.zero_le _)⟩) hP hD hS hA [0, 3] rfl (by decide) (fun _ => rfl) (fun u41 H locs h hP hD hS => ?_)
  obtain ⟨w41_0, w41_1⟩ := u41
  try dsimp only at h
  have hP : va_P D vwCl (wX10_humming cI cJ cS a_o a_kind a_space a_trace z_refused z_steps z_other z_times z_speed z_base z_share z_notes z_pitch z_beats z_held z_sort z_size z_shown z_cells z_carried z_words z_tell z_was z_kept z_cutSpace z_cutTimes z_cutOff v_stretches v_cars v_tunes v_along v_near v_borne v_tempo v_seed v_fault v_from v_at v_end v_told v_wrongAt v_culprit w41_0 v_isKept f_kind f_space w41_1) H := hP
  have hD : va_D A (wX10_humming cI cJ cS a_o a_kind a_space a_trace z_refused z_steps z_other z_times z_speed z_base z_share z_notes z_pitch z_beats z_held z_sort z_size z_shown z_cells z_carried z_words z_tell z_was z_kept z_cutSpace z_cutTimes z_cutOff v_stretches v_cars v_tunes v_along v_near v_borne v_tempo v_seed v_fault v_from v_at v_end v_told v_wrongAt v_culprit w41_0 v_isKept f_kind f_space w41_1) := hD
  refine w_X10_humming_44 S hE hT hA hr hlocks _ _ _ h hP hD hS (lv_sub hl [0, 1, 2, 3] rfl)
set_option maxHeartbeats 4000000 in
set_option maxRecDepth 100000 in
theorem w_X10_humming_18 {l : Launch} {D : va_G} {cI cJ cS : ClassId} {ad adK : Nat → Nat} {a_o a_kind a_space a_trace : Nat} {z_refused z_steps z_other z_times z_speed z_base z_share z_notes z_pitch z_beats z_held z_sort z_size z_shown z_cells z_carried z_words z_tell z_was z_kept z_cutSpace z_cutTimes z_cutOff : Value} {v_stretches : Int32} {v_cars : Int32} {v_tunes : Int32} {v_along : Int32} {v_near : Int32} {v_borne : Int32} {v_tempo : Int32} {v_seed : Int32} {v_fault : Int32} {v_from : Int32} {v_at : Int32} {v_end : Int32} {v_told : Int32} {v_wrongAt : Int32} {v_culprit : Int32} {v_ran : Int32} {v_isKept : Int32} {f_kind : Nat → Int32} {f_space : Nat → Int32} {f_trace : Nat → Int32} {x1 : Int32} {x2 : Int32} {x3 : Int32} {post : Int32 → Int32 → (Nat → Int32) → Prop} {p : Program} {e : Env} {s : State} {m : MethodId} {args : Array Value} {below : List Frame} {meth : Method} {c : Code} {A : Nat → Prop} (S : CallFix p m c cX10_humming 5 s args GW "RoadThatSingsModel") (hE : EN D cI cJ cS s) (hT : ST ad adK A s s.heap) (hA : ∀ q : Nat, s.heap.size ≤ q → A q) (hr : meth.sig.returnType = (some (.int))) (hlocks : meth.locks = false) : ∀ (H : Heap) (locs : List Loc) (ls : Array Slot), F_X10_humming_18 f_space post x1 x2 x3 v_ran f_trace → va_P D vwCl (wX10_humming cI cJ cS a_o a_kind a_space a_trace z_refused z_steps z_other z_times z_speed z_base z_share z_notes z_pitch z_beats z_held z_sort z_size z_shown z_cells z_carried z_words z_tell z_was z_kept z_cutSpace z_cutTimes z_cutOff v_stretches v_cars v_tunes v_along v_near v_borne v_tempo v_seed v_fault v_from v_at v_end v_told v_wrongAt v_culprit v_ran v_isKept f_kind f_space f_trace) H → va_D A (wX10_humming cI cJ cS a_o a_kind a_space a_trace z_refused z_steps z_other z_times z_speed z_base z_share z_notes z_pitch z_beats z_held z_sort z_size z_shown z_cells z_carried z_words z_tell z_was z_kept z_cutSpace z_cutTimes z_cutOff v_stretches v_cars v_tunes v_along v_near v_borne v_tempo v_seed v_fault v_from v_at v_end v_told v_wrongAt v_culprit v_ran v_isKept f_kind f_space f_trace) → va_S A s.heap H locs → lv_has ls 5 [(0, .ref a_o), (1, .int x1), (2, .int x2), (3, .int x3)] → W p l e (rmd 1 0 0) s m args below meth c H locs 0 0 (MQ below (va_Qi (fun r (u : Int32 × (Nat → Int32)) => post r u.1 u.2) (fun u t => va_P D vwCl (wX10_humming cI cJ cS a_o a_kind a_space a_trace z_refused z_steps z_other z_times z_speed z_base z_share z_notes z_pitch z_beats z_held z_sort z_size z_shown z_cells z_carried z_words z_tell z_was z_kept z_cutSpace z_cutTimes z_cutOff v_stretches v_cars v_tunes v_along v_near v_borne v_tempo v_seed v_fault v_from v_at v_end v_told v_wrongAt v_culprit u.1 v_isKept f_kind f_space u.2) t.heap) A) args s 0 0 A) (F0 m 18 ls []) := by
  intro  H locs ls h hP hD hS hl
  unfold F_X10_humming_18 at h
  have hx := S.1
  have hb := S.2.1
  refine lv_aload_n hx hb dX10_humming_18 rfl (lv_at hl 0 rfl) ?_
  refine lv_iload_n hx hb dX10_humming_19 rfl (lv_at hl 3 rfl) ?_
  refine ro_i (roV S hE hT hS (c_X10_isEven h) lkX10_128 rfl ⟨(Nat.le_of_ble_eq_true rfl), (Nat.le_of_ble_eq_true rfl)⟩ (hP.sub [0] rfl) 0 rfl rfl hl.1 rfl (Nat.le_of_ble_eq_true rfl) dX10_humming_20 ⟨(Nat.zero_le _), (Nat.zero_le _)⟩) (fun r20 h => ?_)
  refine lv_if_eq (tgt := 32) hx hb dX10_humming_23 (by decide) (fun hc => ?_) (fun hc => ?_)
  · have h := h.1 hc
    refine w_X10_humming_32 S hE hT hA hr hlocks _ _ _ h hP hD hS (lv_sub hl [0, 1, 2, 3] rfl)
  have h := h.2 hc
  refine lv_aload_n hx hb dX10_humming_26 rfl (lv_at hl 0 rfl) ?_
  refine lv_bipush (v := 20) hx hb dX10_humming_27 (by decide) ?_
  refine rw_v (rwV S hE hT hS hP hD hA (c_X10_body h) [0, 3] rfl (by decide) lkX10_284 rfl ⟨(Nat.le_of_ble_eq_true rfl), (Nat.le_of_ble_eq_true rfl)⟩ 0 rfl rfl hl.1 rfl (Nat.le_of_ble_eq_true rfl) dX10_humming_29 ⟨(Nat.zero_le _), (Nat.zero_le _)⟩) hP hD hS hA [0, 3] rfl (by decide) (fun _ => rfl) (fun u29 H locs h hP hD hS => ?_)
  obtain ⟨w29_0, w29_1⟩ := u29
  try dsimp only at h
  have hP : va_P D vwCl (wX10_humming cI cJ cS a_o a_kind a_space a_trace z_refused z_steps z_other z_times z_speed z_base z_share z_notes z_pitch z_beats z_held z_sort z_size z_shown z_cells z_carried z_words z_tell z_was z_kept z_cutSpace z_cutTimes z_cutOff v_stretches v_cars v_tunes v_along v_near v_borne v_tempo v_seed v_fault v_from v_at v_end v_told v_wrongAt v_culprit w29_0 v_isKept f_kind f_space w29_1) H := hP
  have hD : va_D A (wX10_humming cI cJ cS a_o a_kind a_space a_trace z_refused z_steps z_other z_times z_speed z_base z_share z_notes z_pitch z_beats z_held z_sort z_size z_shown z_cells z_carried z_words z_tell z_was z_kept z_cutSpace z_cutTimes z_cutOff v_stretches v_cars v_tunes v_along v_near v_borne v_tempo v_seed v_fault v_from v_at v_end v_told v_wrongAt v_culprit w29_0 v_isKept f_kind f_space w29_1) := hD
  refine w_X10_humming_32 S hE hT hA hr hlocks _ _ _ h hP hD hS (lv_sub hl [0, 1, 2, 3] rfl)
set_option maxHeartbeats 4000000 in
set_option maxRecDepth 100000 in
theorem c_X10_humming {l : Launch} {D : va_G} {cI cJ cS : ClassId} {ad adK : Nat → Nat} {a_o a_kind a_space a_trace : Nat} {z_refused z_steps z_other z_times z_speed z_base z_share z_notes z_pitch z_beats z_held z_sort z_size z_shown z_cells z_carried z_words z_tell z_was z_kept z_cutSpace z_cutTimes z_cutOff : Value} {v_stretches : Int32} {v_cars : Int32} {v_tunes : Int32} {v_along : Int32} {v_near : Int32} {v_borne : Int32} {v_tempo : Int32} {v_seed : Int32} {v_fault : Int32} {v_from : Int32} {v_at : Int32} {v_end : Int32} {v_told : Int32} {v_wrongAt : Int32} {v_culprit : Int32} {v_ran : Int32} {v_isKept : Int32} {f_kind : Nat → Int32} {f_space : Nat → Int32} {f_trace : Nat → Int32} {x1 : Int32} {x2 : Int32} {post : Int32 → Int32 → (Nat → Int32) → Prop} (h : F_X10_humming v_ran f_kind f_space f_trace x1 x2 post) {sz : Nat} : Met l yX10_humming (Cond.code yX10_humming cX10_humming 5 (some (.int)) :: GW) (rmd 1 0 0) (PW D cI cJ cS ad adK [.ref a_o, .int x1, .int x2] (wX10_humming cI cJ cS a_o a_kind a_space a_trace z_refused z_steps z_other z_times z_speed z_base z_share z_notes z_pitch z_beats z_held z_sort z_size z_shown z_cells z_carried z_words z_tell z_was z_kept z_cutSpace z_cutTimes z_cutOff v_stretches v_cars v_tunes v_along v_near v_borne v_tempo v_seed v_fault v_from v_at v_end v_told v_wrongAt v_culprit v_ran v_isKept f_kind f_space f_trace) sz) (va_Qi (fun r (u : Int32 × (Nat → Int32)) => post r u.1 u.2) (fun u t => va_P D vwCl (wX10_humming cI cJ cS a_o a_kind a_space a_trace z_refused z_steps z_other z_times z_speed z_base z_share z_notes z_pitch z_beats z_held z_sort z_size z_shown z_cells z_carried z_words z_tell z_was z_kept z_cutSpace z_cutTimes z_cutOff v_stretches v_cars v_tunes v_along v_near v_borne v_tempo v_seed v_fault v_from v_at v_end v_told v_wrongAt v_culprit u.1 v_isKept f_kind f_space u.2) t.heap) (va_A (wX10_humming cI cJ cS a_o a_kind a_space a_trace z_refused z_steps z_other z_times z_speed z_base z_share z_notes z_pitch z_beats z_held z_sort z_size z_shown z_cells z_carried z_words z_tell z_was z_kept z_cutSpace z_cutTimes z_cutOff v_stretches v_cars v_tunes v_along v_near v_borne v_tempo v_seed v_fault v_from v_at v_end v_told v_wrongAt v_culprit v_ran v_isKept f_kind f_space f_trace) sz)) 0 0 (va_A (wX10_humming cI cJ cS a_o a_kind a_space a_trace z_refused z_steps z_other z_times z_speed z_base z_share z_notes z_pitch z_beats z_held z_sort z_size z_shown z_cells z_carried z_words z_tell z_was z_kept z_cutSpace z_cutTimes z_cutOff v_stretches v_cars v_tunes v_along v_near v_borne v_tempo v_seed v_fault v_from v_at v_end v_told v_wrongAt v_culprit v_ran v_isKept f_kind f_space f_trace) sz) := by
  refine Met.rw (Qc := fun A => (va_Qi (fun r (u : Int32 × (Nat → Int32)) => post r u.1 u.2) (fun u t => va_P D vwCl (wX10_humming cI cJ cS a_o a_kind a_space a_trace z_refused z_steps z_other z_times z_speed z_base z_share z_notes z_pitch z_beats z_held z_sort z_size z_shown z_cells z_carried z_words z_tell z_was z_kept z_cutSpace z_cutTimes z_cutOff v_stretches v_cars v_tunes v_along v_near v_borne v_tempo v_seed v_fault v_from v_at v_end v_told v_wrongAt v_culprit u.1 v_isKept f_kind f_space u.2) t.heap) A)) (by decide) (Nat.le_of_ble_eq_true rfl) (fun p e s m args below meth c ls A (S : CallFix p m c cX10_humming 5 s args GW "RoadThatSingsModel") hE hT hP hD hA hS hr hlocks hname hl => ?_)
  have hS0 := hS
  have hx := S.1
  have hb := S.2.1
  have hl : lv_has ls 5 [(0, .ref a_o), (1, .int x1), (2, .int x2)] := hl
  unfold F_X10_humming at h
  refine lv_aload_n hx hb dX10_humming_0 rfl (lv_at hl 0 rfl) ?_
  refine gf S hE hP 0 rfl rfl inX10 (k := 11) (by decide) q1104 rfl dX10_humming_1 ?_
  refine lv_iload_n hx hb dX10_humming_4 rfl (lv_at hl 1 rfl) ?_
  obtain ⟨hi, h⟩ := h
  refine ial S hE hP 1 rfl hi dX10_humming_5 ?_
  refine lv_topi (fun x3_6 ex3_6 => ?_)
  have h := h _ ex3_6
  refine lv_istore_n (lv' := [(3, .int x3_6), (0, .ref a_o), (1, .int x1), (2, .int x2)]) hx hb dX10_humming_6 rfl hl (by decide) rfl (fun ls hl => ?_)
  refine lv_iload_n hx hb dX10_humming_7 rfl (lv_at hl 0 rfl) ?_
  refine lv_iconst (v := 5) hx hb dX10_humming_8 (by decide) ?_
  refine lv_icmp_ne (tgt := 18) hx hb dX10_humming_9 (by decide) (fun hc => ?_) (fun hc => ?_)
  · have h := h.2 hc
    refine w_X10_humming_18 S hE hT hA hr hlocks _ _ _ h hP hD hS (lv_sub hl [1, 2, 3, 0] rfl)
  have h := h.1 hc
  refine lv_aload_n hx hb dX10_humming_12 rfl (lv_at hl 1 rfl) ?_
  refine lv_bipush (v := 41) hx hb dX10_humming_13 (by decide) ?_
  refine rw_v (rwV S hE hT hS hP hD hA (c_X10_body h) [0, 3] rfl (by decide) lkX10_284 rfl ⟨(Nat.le_of_ble_eq_true rfl), (Nat.le_of_ble_eq_true rfl)⟩ 0 rfl rfl hl.1 rfl (Nat.le_of_ble_eq_true rfl) dX10_humming_15 ⟨(Nat.zero_le _), (Nat.zero_le _)⟩) hP hD hS hA [0, 3] rfl (by decide) (fun _ => rfl) (fun u15 H locs h hP hD hS => ?_)
  obtain ⟨w15_0, w15_1⟩ := u15
  try dsimp only at h
  have hP : va_P D vwCl (wX10_humming cI cJ cS a_o a_kind a_space a_trace z_refused z_steps z_other z_times z_speed z_base z_share z_notes z_pitch z_beats z_held z_sort z_size z_shown z_cells z_carried z_words z_tell z_was z_kept z_cutSpace z_cutTimes z_cutOff v_stretches v_cars v_tunes v_along v_near v_borne v_tempo v_seed v_fault v_from v_at v_end v_told v_wrongAt v_culprit w15_0 v_isKept f_kind f_space w15_1) H := hP
  have hD : va_D A (wX10_humming cI cJ cS a_o a_kind a_space a_trace z_refused z_steps z_other z_times z_speed z_base z_share z_notes z_pitch z_beats z_held z_sort z_size z_shown z_cells z_carried z_words z_tell z_was z_kept z_cutSpace z_cutTimes z_cutOff v_stretches v_cars v_tunes v_along v_near v_borne v_tempo v_seed v_fault v_from v_at v_end v_told v_wrongAt v_culprit w15_0 v_isKept f_kind f_space w15_1) := hD
  refine w_X10_humming_18 S hE hT hA hr hlocks _ _ _ h hP hD hS (lv_sub hl [1, 2, 3, 0] rfl)
/-! X10_lasting -/
abbrev wX10_lasting (cI cJ cS : ClassId) (a_o a_kind a_space a_trace : Nat) (z_refused z_steps z_other z_times z_speed z_base z_share z_notes z_pitch z_beats z_held z_sort z_size z_shown z_cells z_carried z_words z_tell z_was z_kept z_cutSpace z_cutTimes z_cutOff : Value) (v_stretches : Int32) (v_cars : Int32) (v_tunes : Int32) (v_along : Int32) (v_near : Int32) (v_borne : Int32) (v_tempo : Int32) (v_seed : Int32) (v_fault : Int32) (v_from : Int32) (v_at : Int32) (v_end : Int32) (v_told : Int32) (v_wrongAt : Int32) (v_culprit : Int32) (v_ran : Int32) (v_isKept : Int32) (f_kind : Nat → Int32) (f_space : Nat → Int32) (f_trace : Nat → Int32) : va_W := [(a_o, .inr (9, [.int v_stretches, .int v_cars, .int v_tunes, .int v_along, .int v_near, .int v_borne, .int v_tempo, .int v_seed, .int v_fault, z_refused, z_steps, .ref a_kind, .ref a_space, z_other, z_times, z_speed, z_base, z_share, z_notes, z_pitch, z_beats, z_held, z_sort, z_size, z_shown, z_cells, z_carried, z_words, z_tell, .int v_from, .int v_at, .int v_end, .int v_told, .int v_wrongAt, z_was, z_kept, .int v_culprit, z_cutSpace, z_cutTimes, z_cutOff, .ref a_trace, .int v_ran, .int v_isKept])), (a_kind, .inl (cI, 16, .inl f_kind)), (a_space, .inl (cI, 16, .inl f_space)), (a_trace, .inl (cI, 20, .inl f_trace))]
def F_X10_lasting_40 (f_kind : Nat → Int32) (f_space : Nat → Int32) (post : Int32 → Int32 → (Nat → Int32) → Prop) (x1 : Int32) (x3 : Int32) (x4 : Int32) (v_ran : Int32) (f_trace : Nat → Int32) : Prop := (F_X10_body v_ran f_trace 11 (fun w43_0 w43_1 => (F_X10_humming w43_0 f_kind f_space w43_1 x1 x4 (fun r50 w50_0 w50_1 => (∀ x5_55 : Int32, x5_55 = r50 * 2 → (F_X10_isTwo x3 (fun r59 => ((r59 = 0 → post x5_55 w50_0 w50_1) ∧ (¬ r59 = 0 → post (x5_55 * 3) w50_0 w50_1)))))))))
def F_X10_lasting_26 (f_kind : Nat → Int32) (f_space : Nat → Int32) (post : Int32 → Int32 → (Nat → Int32) → Prop) (x1 : Int32) (x3 : Int32) (x4 : Int32) (v_ran : Int32) (f_trace : Nat → Int32) : Prop := (F_X10_isTwo x3 (fun r28 => ((r28 = 0 → F_X10_lasting_40 f_kind f_space post x1 x3 x4 v_ran f_trace) ∧ (¬ r28 = 0 → (F_X10_body v_ran f_trace 30 (fun w37_0 w37_1 => F_X10_lasting_40 f_kind f_space post x1 x3 x4 w37_0 w37_1))))))
def F_X10_lasting (v_ran : Int32) (f_kind : Nat → Int32) (f_space : Nat → Int32) (f_trace : Nat → Int32) (x1 : Int32) (x2 : Int32) (post : Int32 → Int32 → (Nat → Int32) → Prop) : Prop := (vp_in x1 16 ∧ (∀ x3_6 : Int32, x3_6 = f_kind x1.toNatClampNeg → ((x3_6 = 5 → (F_X10_body v_ran f_trace 40 (fun w18_0 w18_1 => (∀ x4_24 : Int32, x4_24 = x2 + 1 → F_X10_lasting_26 f_kind f_space post x1 x3_6 x4_24 w18_0 w18_1)))) ∧ (¬ x3_6 = 5 → F_X10_lasting_26 f_kind f_space post x1 x3_6 x2 v_ran f_trace))))
set_option maxHeartbeats 4000000 in
set_option maxRecDepth 100000 in
theorem w_X10_lasting_40 {l : Launch} {D : va_G} {cI cJ cS : ClassId} {ad adK : Nat → Nat} {a_o a_kind a_space a_trace : Nat} {z_refused z_steps z_other z_times z_speed z_base z_share z_notes z_pitch z_beats z_held z_sort z_size z_shown z_cells z_carried z_words z_tell z_was z_kept z_cutSpace z_cutTimes z_cutOff : Value} {v_stretches : Int32} {v_cars : Int32} {v_tunes : Int32} {v_along : Int32} {v_near : Int32} {v_borne : Int32} {v_tempo : Int32} {v_seed : Int32} {v_fault : Int32} {v_from : Int32} {v_at : Int32} {v_end : Int32} {v_told : Int32} {v_wrongAt : Int32} {v_culprit : Int32} {v_ran : Int32} {v_isKept : Int32} {f_kind : Nat → Int32} {f_space : Nat → Int32} {f_trace : Nat → Int32} {x1 : Int32} {x3 : Int32} {x4 : Int32} {post : Int32 → Int32 → (Nat → Int32) → Prop} {p : Program} {e : Env} {s : State} {m : MethodId} {args : Array Value} {below : List Frame} {meth : Method} {c : Code} {A : Nat → Prop} (S : CallFix p m c cX10_lasting 6 s args GW "RoadThatSingsModel") (hE : EN D cI cJ cS s) (hT : ST ad adK A s s.heap) (hA : ∀ q : Nat, s.heap.size ≤ q → A q) (hr : meth.sig.returnType = (some (.int))) (hlocks : meth.locks = false) : ∀ (H : Heap) (locs : List Loc) (ls : Array Slot), F_X10_lasting_40 f_kind f_space post x1 x3 x4 v_ran f_trace → va_P D vwCl (wX10_lasting cI cJ cS a_o a_kind a_space a_trace z_refused z_steps z_other z_times z_speed z_base z_share z_notes z_pitch z_beats z_held z_sort z_size z_shown z_cells z_carried z_words z_tell z_was z_kept z_cutSpace z_cutTimes z_cutOff v_stretches v_cars v_tunes v_along v_near v_borne v_tempo v_seed v_fault v_from v_at v_end v_told v_wrongAt v_culprit v_ran v_isKept f_kind f_space f_trace) H → va_D A (wX10_lasting cI cJ cS a_o a_kind a_space a_trace z_refused z_steps z_other z_times z_speed z_base z_share z_notes z_pitch z_beats z_held z_sort z_size z_shown z_cells z_carried z_words z_tell z_was z_kept z_cutSpace z_cutTimes z_cutOff v_stretches v_cars v_tunes v_along v_near v_borne v_tempo v_seed v_fault v_from v_at v_end v_told v_wrongAt v_culprit v_ran v_isKept f_kind f_space f_trace) → va_S A s.heap H locs → lv_has ls 6 [(0, .ref a_o), (1, .int x1), (3, .int x3), (4, .int x4)] → W p l e (rmd 2 0 0) s m args below meth c H locs 0 0 (MQ below (va_Qi (fun r (u : Int32 × (Nat → Int32)) => post r u.1 u.2) (fun u t => va_P D vwCl (wX10_lasting cI cJ cS a_o a_kind a_space a_trace z_refused z_steps z_other z_times z_speed z_base z_share z_notes z_pitch z_beats z_held z_sort z_size z_shown z_cells z_carried z_words z_tell z_was z_kept z_cutSpace z_cutTimes z_cutOff v_stretches v_cars v_tunes v_along v_near v_borne v_tempo v_seed v_fault v_from v_at v_end v_told v_wrongAt v_culprit u.1 v_isKept f_kind f_space u.2) t.heap) A) args s 0 0 A) (F0 m 40 ls []) := by
  intro  H locs ls h hP hD hS hl
  unfold F_X10_lasting_40 at h
  have hx := S.1
  have hb := S.2.1
  refine lv_aload_n hx hb dX10_lasting_40 rfl (lv_at hl 0 rfl) ?_
  refine lv_bipush (v := 11) hx hb dX10_lasting_41 (by decide) ?_
  refine rw_v (rwV S hE hT hS hP hD hA (c_X10_body h) [0, 3] rfl (by decide) lkX10_284 rfl ⟨(Nat.le_of_ble_eq_true rfl), (Nat.le_of_ble_eq_true rfl)⟩ 0 rfl rfl hl.1 rfl (Nat.le_of_ble_eq_true rfl) dX10_lasting_43 ⟨(Nat.zero_le _), (Nat.zero_le _)⟩) hP hD hS hA [0, 3] rfl (by decide) (fun _ => rfl) (fun u43 H locs h hP hD hS => ?_)
  obtain ⟨w43_0, w43_1⟩ := u43
  try dsimp only at h
  have hP : va_P D vwCl (wX10_lasting cI cJ cS a_o a_kind a_space a_trace z_refused z_steps z_other z_times z_speed z_base z_share z_notes z_pitch z_beats z_held z_sort z_size z_shown z_cells z_carried z_words z_tell z_was z_kept z_cutSpace z_cutTimes z_cutOff v_stretches v_cars v_tunes v_along v_near v_borne v_tempo v_seed v_fault v_from v_at v_end v_told v_wrongAt v_culprit w43_0 v_isKept f_kind f_space w43_1) H := hP
  have hD : va_D A (wX10_lasting cI cJ cS a_o a_kind a_space a_trace z_refused z_steps z_other z_times z_speed z_base z_share z_notes z_pitch z_beats z_held z_sort z_size z_shown z_cells z_carried z_words z_tell z_was z_kept z_cutSpace z_cutTimes z_cutOff v_stretches v_cars v_tunes v_along v_near v_borne v_tempo v_seed v_fault v_from v_at v_end v_told v_wrongAt v_culprit w43_0 v_isKept f_kind f_space w43_1) := hD
  refine lv_aload_n hx hb dX10_lasting_46 rfl (lv_at hl 0 rfl) ?_
  refine lv_iload_n hx hb dX10_lasting_47 rfl (lv_at hl 1 rfl) ?_
  refine lv_iload hx hb dX10_lasting_48 (lv_at hl 3 rfl) ?_
  refine rw_i (rwV S hE hT hS hP hD hA (c_X10_humming h) [0, 1, 2, 3] rfl (by decide) lkX10_288 rfl ⟨(Nat.le_of_ble_eq_true rfl), (Nat.le_of_ble_eq_true rfl)⟩ 0 rfl rfl hl.1 rfl (Nat.le_of_ble_eq_true rfl) dX10_lasting_50 ⟨(Nat.zero_le _), (Nat.zero_le _)⟩) hP hD hS hA [0, 1, 2, 3] rfl (by decide) (fun _ => rfl) (fun r50 u50 H locs h hP hD hS => ?_)
  obtain ⟨w50_0, w50_1⟩ := u50
  try dsimp only at h
  have hP : va_P D vwCl (wX10_lasting cI cJ cS a_o a_kind a_space a_trace z_refused z_steps z_other z_times z_speed z_base z_share z_notes z_pitch z_beats z_held z_sort z_size z_shown z_cells z_carried z_words z_tell z_was z_kept z_cutSpace z_cutTimes z_cutOff v_stretches v_cars v_tunes v_along v_near v_borne v_tempo v_seed v_fault v_from v_at v_end v_told v_wrongAt v_culprit w50_0 v_isKept f_kind f_space w50_1) H := hP
  have hD : va_D A (wX10_lasting cI cJ cS a_o a_kind a_space a_trace z_refused z_steps z_other z_times z_speed z_base z_share z_notes z_pitch z_beats z_held z_sort z_size z_shown z_cells z_carried z_words z_tell z_was z_kept z_cutSpace z_cutTimes z_cutOff v_stretches v_cars v_tunes v_along v_near v_borne v_tempo v_seed v_fault v_from v_at v_end v_told v_wrongAt v_culprit w50_0 v_isKept f_kind f_space w50_1) := hD
  refine lv_iconst (v := 2) hx hb dX10_lasting_53 (by decide) ?_
  refine lv_imul hx hb dX10_lasting_54 ?_
  refine lv_topi (fun x5_55 ex5_55 => ?_)
  have h := h _ ex5_55
  refine lv_istore (lv' := [(5, .int x5_55), (0, .ref a_o), (1, .int x1), (3, .int x3), (4, .int x4)]) hx hb dX10_lasting_55 hl (by decide) rfl (fun ls hl => ?_)
  refine lv_aload_n hx hb dX10_lasting_57 rfl (lv_at hl 1 rfl) ?_
  refine lv_iload_n hx hb dX10_lasting_58 rfl (lv_at hl 3 rfl) ?_
  refine ro_i (roV S hE hT hS (c_X10_isTwo h) lkX10_152 rfl ⟨(Nat.le_of_ble_eq_true rfl), (Nat.le_of_ble_eq_true rfl)⟩ (hP.sub [0] rfl) 0 rfl rfl hl.1 rfl (Nat.le_of_ble_eq_true rfl) dX10_lasting_59 ⟨(Nat.zero_le _), (Nat.zero_le _)⟩) (fun r59 h => ?_)
  refine lv_if_eq (tgt := 72) hx hb dX10_lasting_62 (by decide) (fun hc => ?_) (fun hc => ?_)
  · have h := h.1 hc
    refine lv_iload hx hb dX10_lasting_72 (lv_at hl 0 rfl) ?_
    exact W.iret hx hb hr (fun t ht _ => ⟨⟨_, (w50_0, w50_1), rfl, h, hPt hP ht⟩, hS.F ht⟩) hS.2.2 dX10_lasting_74
  have h := h.2 hc
  refine lv_iload hx hb dX10_lasting_65 (lv_at hl 0 rfl) ?_
  refine lv_iconst (v := 3) hx hb dX10_lasting_67 (by decide) ?_
  refine lv_imul hx hb dX10_lasting_68 ?_
  refine lv_goto (tgt := 74) hx hb dX10_lasting_69 (by decide) ?_
  exact W.iret hx hb hr (fun t ht _ => ⟨⟨_, (w50_0, w50_1), rfl, h, hPt hP ht⟩, hS.F ht⟩) hS.2.2 dX10_lasting_74
set_option maxHeartbeats 4000000 in
set_option maxRecDepth 100000 in
theorem w_X10_lasting_26 {l : Launch} {D : va_G} {cI cJ cS : ClassId} {ad adK : Nat → Nat} {a_o a_kind a_space a_trace : Nat} {z_refused z_steps z_other z_times z_speed z_base z_share z_notes z_pitch z_beats z_held z_sort z_size z_shown z_cells z_carried z_words z_tell z_was z_kept z_cutSpace z_cutTimes z_cutOff : Value} {v_stretches : Int32} {v_cars : Int32} {v_tunes : Int32} {v_along : Int32} {v_near : Int32} {v_borne : Int32} {v_tempo : Int32} {v_seed : Int32} {v_fault : Int32} {v_from : Int32} {v_at : Int32} {v_end : Int32} {v_told : Int32} {v_wrongAt : Int32} {v_culprit : Int32} {v_ran : Int32} {v_isKept : Int32} {f_kind : Nat → Int32} {f_space : Nat → Int32} {f_trace : Nat → Int32} {x1 : Int32} {x3 : Int32} {x4 : Int32} {post : Int32 → Int32 → (Nat → Int32) → Prop} {p : Program} {e : Env} {s : State} {m : MethodId} {args : Array Value} {below : List Frame} {meth : Method} {c : Code} {A : Nat → Prop} (S : CallFix p m c cX10_lasting 6 s args GW "RoadThatSingsModel") (hE : EN D cI cJ cS s) (hT : ST ad adK A s s.heap) (hA : ∀ q : Nat, s.heap.size ≤ q → A q) (hr : meth.sig.returnType = (some (.int))) (hlocks : meth.locks = false) : ∀ (H : Heap) (locs : List Loc) (ls : Array Slot), F_X10_lasting_26 f_kind f_space post x1 x3 x4 v_ran f_trace → va_P D vwCl (wX10_lasting cI cJ cS a_o a_kind a_space a_trace z_refused z_steps z_other z_times z_speed z_base z_share z_notes z_pitch z_beats z_held z_sort z_size z_shown z_cells z_carried z_words z_tell z_was z_kept z_cutSpace z_cutTimes z_cutOff v_stretches v_cars v_tunes v_along v_near v_borne v_tempo v_seed v_fault v_from v_at v_end v_told v_wrongAt v_culprit v_ran v_isKept f_kind f_space f_trace) H → va_D A (wX10_lasting cI cJ cS a_o a_kind a_space a_trace z_refused z_steps z_other z_times z_speed z_base z_share z_notes z_pitch z_beats z_held z_sort z_size z_shown z_cells z_carried z_words z_tell z_was z_kept z_cutSpace z_cutTimes z_cutOff v_stretches v_cars v_tunes v_along v_near v_borne v_tempo v_seed v_fault v_from v_at v_end v_told v_wrongAt v_culprit v_ran v_isKept f_kind f_space f_trace) → va_S A s.heap H locs → lv_has ls 6 [(0, .ref a_o), (1, .int x1), (3, .int x3), (4, .int x4)] → W p l e (rmd 2 0 0) s m args below meth c H locs 0 0 (MQ below (va_Qi (fun r (u : Int32 × (Nat → Int32)) => post r u.1 u.2) (fun u t => va_P D vwCl (wX10_lasting cI cJ cS a_o a_kind a_space a_trace z_refused z_steps z_other z_times z_speed z_base z_share z_notes z_pitch z_beats z_held z_sort z_size z_shown z_cells z_carried z_words z_tell z_was z_kept z_cutSpace z_cutTimes z_cutOff v_stretches v_cars v_tunes v_along v_near v_borne v_tempo v_seed v_fault v_from v_at v_end v_told v_wrongAt v_culprit u.1 v_isKept f_kind f_space u.2) t.heap) A) args s 0 0 A) (F0 m 26 ls []) := by
  intro  H locs ls h hP hD hS hl
  unfold F_X10_lasting_26 at h
  have hx := S.1
  have hb := S.2.1
  refine lv_aload_n hx hb dX10_lasting_26 rfl (lv_at hl 0 rfl) ?_
  refine lv_iload_n hx hb dX10_lasting_27 rfl (lv_at hl 2 rfl) ?_
  refine ro_i (roV S hE hT hS (c_X10_isTwo h) lkX10_152 rfl ⟨(Nat.le_of_ble_eq_true rfl), (Nat.le_of_ble_eq_true rfl)⟩ (hP.sub [0] rfl) 0 rfl rfl hl.1 rfl (Nat.le_of_ble_eq_true rfl) dX10_lasting_28 ⟨(Nat.zero_le _), (Nat.zero_le _)⟩) (fun r28 h => ?_)
  refine lv_if_eq (tgt := 40) hx hb dX10_lasting_31 (by decide) (fun hc => ?_) (fun hc => ?_)
  · have h := h.1 hc
    refine w_X10_lasting_40 S hE hT hA hr hlocks _ _ _ h hP hD hS (lv_sub hl [0, 1, 2, 3] rfl)
  have h := h.2 hc
  refine lv_aload_n hx hb dX10_lasting_34 rfl (lv_at hl 0 rfl) ?_
  refine lv_bipush (v := 30) hx hb dX10_lasting_35 (by decide) ?_
  refine rw_v (rwV S hE hT hS hP hD hA (c_X10_body h) [0, 3] rfl (by decide) lkX10_284 rfl ⟨(Nat.le_of_ble_eq_true rfl), (Nat.le_of_ble_eq_true rfl)⟩ 0 rfl rfl hl.1 rfl (Nat.le_of_ble_eq_true rfl) dX10_lasting_37 ⟨(Nat.zero_le _), (Nat.zero_le _)⟩) hP hD hS hA [0, 3] rfl (by decide) (fun _ => rfl) (fun u37 H locs h hP hD hS => ?_)
  obtain ⟨w37_0, w37_1⟩ := u37
  try dsimp only at h
  have hP : va_P D vwCl (wX10_lasting cI cJ cS a_o a_kind a_space a_trace z_refused z_steps z_other z_times z_speed z_base z_share z_notes z_pitch z_beats z_held z_sort z_size z_shown z_cells z_carried z_words z_tell z_was z_kept z_cutSpace z_cutTimes z_cutOff v_stretches v_cars v_tunes v_along v_near v_borne v_tempo v_seed v_fault v_from v_at v_end v_told v_wrongAt v_culprit w37_0 v_isKept f_kind f_space w37_1) H := hP
  have hD : va_D A (wX10_lasting cI cJ cS a_o a_kind a_space a_trace z_refused z_steps z_other z_times z_speed z_base z_share z_notes z_pitch z_beats z_held z_sort z_size z_shown z_cells z_carried z_words z_tell z_was z_kept z_cutSpace z_cutTimes z_cutOff v_stretches v_cars v_tunes v_along v_near v_borne v_tempo v_seed v_fault v_from v_at v_end v_told v_wrongAt v_culprit w37_0 v_isKept f_kind f_space w37_1) := hD
  refine w_X10_lasting_40 S hE hT hA hr hlocks _ _ _ h hP hD hS (lv_sub hl [0, 1, 2, 3] rfl)
set_option maxHeartbeats 4000000 in
set_option maxRecDepth 100000 in
theorem c_X10_lasting {l : Launch} {D : va_G} {cI cJ cS : ClassId} {ad adK : Nat → Nat} {a_o a_kind a_space a_trace : Nat} {z_refused z_steps z_other z_times z_speed z_base z_share z_notes z_pitch z_beats z_held z_sort z_size z_shown z_cells z_carried z_words z_tell z_was z_kept z_cutSpace z_cutTimes z_cutOff : Value} {v_stretches : Int32} {v_cars : Int32} {v_tunes : Int32} {v_along : Int32} {v_near : Int32} {v_borne : Int32} {v_tempo : Int32} {v_seed : Int32} {v_fault : Int32} {v_from : Int32} {v_at : Int32} {v_end : Int32} {v_told : Int32} {v_wrongAt : Int32} {v_culprit : Int32} {v_ran : Int32} {v_isKept : Int32} {f_kind : Nat → Int32} {f_space : Nat → Int32} {f_trace : Nat → Int32} {x1 : Int32} {x2 : Int32} {post : Int32 → Int32 → (Nat → Int32) → Prop} (h : F_X10_lasting v_ran f_kind f_space f_trace x1 x2 post) {sz : Nat} : Met l yX10_lasting (Cond.code yX10_lasting cX10_lasting 6 (some (.int)) :: GW) (rmd 2 0 0) (PW D cI cJ cS ad adK [.ref a_o, .int x1, .int x2] (wX10_lasting cI cJ cS a_o a_kind a_space a_trace z_refused z_steps z_other z_times z_speed z_base z_share z_notes z_pitch z_beats z_held z_sort z_size z_shown z_cells z_carried z_words z_tell z_was z_kept z_cutSpace z_cutTimes z_cutOff v_stretches v_cars v_tunes v_along v_near v_borne v_tempo v_seed v_fault v_from v_at v_end v_told v_wrongAt v_culprit v_ran v_isKept f_kind f_space f_trace) sz) (va_Qi (fun r (u : Int32 × (Nat → Int32)) => post r u.1 u.2) (fun u t => va_P D vwCl (wX10_lasting cI cJ cS a_o a_kind a_space a_trace z_refused z_steps z_other z_times z_speed z_base z_share z_notes z_pitch z_beats z_held z_sort z_size z_shown z_cells z_carried z_words z_tell z_was z_kept z_cutSpace z_cutTimes z_cutOff v_stretches v_cars v_tunes v_along v_near v_borne v_tempo v_seed v_fault v_from v_at v_end v_told v_wrongAt v_culprit u.1 v_isKept f_kind f_space u.2) t.heap) (va_A (wX10_lasting cI cJ cS a_o a_kind a_space a_trace z_refused z_steps z_other z_times z_speed z_base z_share z_notes z_pitch z_beats z_held z_sort z_size z_shown z_cells z_carried z_words z_tell z_was z_kept z_cutSpace z_cutTimes z_cutOff v_stretches v_cars v_tunes v_along v_near v_borne v_tempo v_seed v_fault v_from v_at v_end v_told v_wrongAt v_culprit v_ran v_isKept f_kind f_space f_trace) sz)) 0 0 (va_A (wX10_lasting cI cJ cS a_o a_kind a_space a_trace z_refused z_steps z_other z_times z_speed z_base z_share z_notes z_pitch z_beats z_held z_sort z_size z_shown z_cells z_carried z_words z_tell z_was z_kept z_cutSpace z_cutTimes z_cutOff v_stretches v_cars v_tunes v_along v_near v_borne v_tempo v_seed v_fault v_from v_at v_end v_told v_wrongAt v_culprit v_ran v_isKept f_kind f_space f_trace) sz) := by
  refine Met.rw (Qc := fun A => (va_Qi (fun r (u : Int32 × (Nat → Int32)) => post r u.1 u.2) (fun u t => va_P D vwCl (wX10_lasting cI cJ cS a_o a_kind a_space a_trace z_refused z_steps z_other z_times z_speed z_base z_share z_notes z_pitch z_beats z_held z_sort z_size z_shown z_cells z_carried z_words z_tell z_was z_kept z_cutSpace z_cutTimes z_cutOff v_stretches v_cars v_tunes v_along v_near v_borne v_tempo v_seed v_fault v_from v_at v_end v_told v_wrongAt v_culprit u.1 v_isKept f_kind f_space u.2) t.heap) A)) (by decide) (Nat.le_of_ble_eq_true rfl) (fun p e s m args below meth c ls A (S : CallFix p m c cX10_lasting 6 s args GW "RoadThatSingsModel") hE hT hP hD hA hS hr hlocks hname hl => ?_)
  have hS0 := hS
  have hx := S.1
  have hb := S.2.1
  have hl : lv_has ls 6 [(0, .ref a_o), (1, .int x1), (2, .int x2)] := hl
  unfold F_X10_lasting at h
  refine lv_aload_n hx hb dX10_lasting_0 rfl (lv_at hl 0 rfl) ?_
  refine gf S hE hP 0 rfl rfl inX10 (k := 11) (by decide) q1104 rfl dX10_lasting_1 ?_
  refine lv_iload_n hx hb dX10_lasting_4 rfl (lv_at hl 1 rfl) ?_
  obtain ⟨hi, h⟩ := h
  refine ial S hE hP 1 rfl hi dX10_lasting_5 ?_
  refine lv_topi (fun x3_6 ex3_6 => ?_)
  have h := h _ ex3_6
  refine lv_istore_n (lv' := [(3, .int x3_6), (0, .ref a_o), (1, .int x1), (2, .int x2)]) hx hb dX10_lasting_6 rfl hl (by decide) rfl (fun ls hl => ?_)
  refine lv_iload_n hx hb dX10_lasting_7 rfl (lv_at hl 3 rfl) ?_
  refine lv_istore (lv' := [(4, .int x2), (3, .int x3_6), (0, .ref a_o), (1, .int x1), (2, .int x2)]) hx hb dX10_lasting_8 hl (by decide) rfl (fun ls hl => ?_)
  refine lv_iload_n hx hb dX10_lasting_10 rfl (lv_at hl 1 rfl) ?_
  refine lv_iconst (v := 5) hx hb dX10_lasting_11 (by decide) ?_
  refine lv_icmp_ne (tgt := 26) hx hb dX10_lasting_12 (by decide) (fun hc => ?_) (fun hc => ?_)
  · have h := h.2 hc
    refine w_X10_lasting_26 S hE hT hA hr hlocks _ _ _ h hP hD hS (lv_sub hl [2, 3, 1, 0] rfl)
  have h := h.1 hc
  refine lv_aload_n hx hb dX10_lasting_15 rfl (lv_at hl 2 rfl) ?_
  refine lv_bipush (v := 40) hx hb dX10_lasting_16 (by decide) ?_
  refine rw_v (rwV S hE hT hS hP hD hA (c_X10_body h) [0, 3] rfl (by decide) lkX10_284 rfl ⟨(Nat.le_of_ble_eq_true rfl), (Nat.le_of_ble_eq_true rfl)⟩ 0 rfl rfl hl.1 rfl (Nat.le_of_ble_eq_true rfl) dX10_lasting_18 ⟨(Nat.zero_le _), (Nat.zero_le _)⟩) hP hD hS hA [0, 3] rfl (by decide) (fun _ => rfl) (fun u18 H locs h hP hD hS => ?_)
  obtain ⟨w18_0, w18_1⟩ := u18
  try dsimp only at h
  have hP : va_P D vwCl (wX10_lasting cI cJ cS a_o a_kind a_space a_trace z_refused z_steps z_other z_times z_speed z_base z_share z_notes z_pitch z_beats z_held z_sort z_size z_shown z_cells z_carried z_words z_tell z_was z_kept z_cutSpace z_cutTimes z_cutOff v_stretches v_cars v_tunes v_along v_near v_borne v_tempo v_seed v_fault v_from v_at v_end v_told v_wrongAt v_culprit w18_0 v_isKept f_kind f_space w18_1) H := hP
  have hD : va_D A (wX10_lasting cI cJ cS a_o a_kind a_space a_trace z_refused z_steps z_other z_times z_speed z_base z_share z_notes z_pitch z_beats z_held z_sort z_size z_shown z_cells z_carried z_words z_tell z_was z_kept z_cutSpace z_cutTimes z_cutOff v_stretches v_cars v_tunes v_along v_near v_borne v_tempo v_seed v_fault v_from v_at v_end v_told v_wrongAt v_culprit w18_0 v_isKept f_kind f_space w18_1) := hD
  refine lv_iload_n hx hb dX10_lasting_21 rfl (lv_at hl 4 rfl) ?_
  refine lv_iconst (v := 1) hx hb dX10_lasting_22 (by decide) ?_
  refine lv_iadd hx hb dX10_lasting_23 ?_
  refine lv_topi (fun x4_24 ex4_24 => ?_)
  have h := h _ ex4_24
  refine lv_istore (lv' := [(4, .int x4_24), (3, .int x3_6), (0, .ref a_o), (1, .int x1), (2, .int x2)]) hx hb dX10_lasting_24 hl (by decide) rfl (fun ls hl => ?_)
  refine w_X10_lasting_26 S hE hT hA hr hlocks _ _ _ h hP hD hS (lv_sub hl [2, 3, 1, 0] rfl)
/-! X10_wearing -/
abbrev wX10_wearing (cI cJ cS : ClassId) (a_o a_kind a_space a_trace : Nat) (z_refused z_steps z_other z_times z_speed z_base z_share z_notes z_pitch z_beats z_held z_sort z_size z_shown z_cells z_carried z_words z_tell z_was z_kept z_cutSpace z_cutTimes z_cutOff : Value) (v_stretches : Int32) (v_cars : Int32) (v_tunes : Int32) (v_along : Int32) (v_near : Int32) (v_borne : Int32) (v_tempo : Int32) (v_seed : Int32) (v_fault : Int32) (v_from : Int32) (v_at : Int32) (v_end : Int32) (v_told : Int32) (v_wrongAt : Int32) (v_culprit : Int32) (v_ran : Int32) (v_isKept : Int32) (f_kind : Nat → Int32) (f_space : Nat → Int32) (f_trace : Nat → Int32) : va_W := [(a_o, .inr (9, [.int v_stretches, .int v_cars, .int v_tunes, .int v_along, .int v_near, .int v_borne, .int v_tempo, .int v_seed, .int v_fault, z_refused, z_steps, .ref a_kind, .ref a_space, z_other, z_times, z_speed, z_base, z_share, z_notes, z_pitch, z_beats, z_held, z_sort, z_size, z_shown, z_cells, z_carried, z_words, z_tell, .int v_from, .int v_at, .int v_end, .int v_told, .int v_wrongAt, z_was, z_kept, .int v_culprit, z_cutSpace, z_cutTimes, z_cutOff, .ref a_trace, .int v_ran, .int v_isKept])), (a_kind, .inl (cI, 16, .inl f_kind)), (a_space, .inl (cI, 16, .inl f_space)), (a_trace, .inl (cI, 20, .inl f_trace))]
def F_X10_wearing_54 (f_kind : Nat → Int32) (f_space : Nat → Int32) (post : Int32 → Int32 → (Nat → Int32) → Prop) (x1 : Int32) (x3 : Int32) (x4 : Int32) (v_ran : Int32) (f_trace : Nat → Int32) : Prop := (F_X10_body v_ran f_trace 12 (fun w57_0 w57_1 => (F_X10_lasting w57_0 f_kind f_space w57_1 x1 x4 (fun r64 w64_0 w64_1 => (vp_in x1 16 ∧ (F_X10_humming w64_0 f_kind f_space w64_1 x1 (x4 - (f_space x1.toNatClampNeg)) (fun r82 w82_0 w82_1 => (∀ x5_86 : Int32, x5_86 = r64 ^^^ r82 → ((x3 = 4 → post (-x5_86) w82_0 w82_1) ∧ (¬ x3 = 4 → ((x3 = 3 → post (x5_86 ^^^ 5) w82_0 w82_1) ∧ (¬ x3 = 3 → post x5_86 w82_0 w82_1))))))))))))
def F_X10_wearing_32 (f_kind : Nat → Int32) (f_space : Nat → Int32) (post : Int32 → Int32 → (Nat → Int32) → Prop) (x1 : Int32) (x2 : Int32) (x3 : Int32) (x4 : Int32) (v_ran : Int32) (f_trace : Nat → Int32) : Prop := ((x3 = 6 → (F_X10_body v_ran f_trace 71 (fun w41_0 w41_1 => (vp_in x1 16 ∧ (∀ x4_52 : Int32, x4_52 = x2 - (f_space x1.toNatClampNeg) → F_X10_wearing_54 f_kind f_space post x1 x3 x4_52 w41_0 w41_1))))) ∧ (¬ x3 = 6 → F_X10_wearing_54 f_kind f_space post x1 x3 x4 v_ran f_trace))
def F_X10_wearing_21 (f_kind : Nat → Int32) (f_space : Nat → Int32) (post : Int32 → Int32 → (Nat → Int32) → Prop) (x1 : Int32) (x2 : Int32) (x3 : Int32) (x4 : Int32) (v_ran : Int32) (f_trace : Nat → Int32) : Prop := ((x3 = 3 → (F_X10_body v_ran f_trace 60 (fun w29_0 w29_1 => F_X10_wearing_32 f_kind f_space post x1 x2 x3 x4 w29_0 w29_1))) ∧ (¬ x3 = 3 → F_X10_wearing_32 f_kind f_space post x1 x2 x3 x4 v_ran f_trace))
def F_X10_wearing (v_ran : Int32) (f_kind : Nat → Int32) (f_space : Nat → Int32) (f_trace : Nat → Int32) (x1 : Int32) (x2 : Int32) (post : Int32 → Int32 → (Nat → Int32) → Prop) : Prop := (vp_in x1 16 ∧ (∀ x3_6 : Int32, x3_6 = f_kind x1.toNatClampNeg → ((x3_6 = 4 → (F_X10_body v_ran f_trace 50 (fun w18_0 w18_1 => F_X10_wearing_21 f_kind f_space post x1 x2 x3_6 x2 w18_0 w18_1))) ∧ (¬ x3_6 = 4 → F_X10_wearing_21 f_kind f_space post x1 x2 x3_6 x2 v_ran f_trace))))
set_option maxHeartbeats 4000000 in
set_option maxRecDepth 100000 in
theorem w_X10_wearing_54 {l : Launch} {D : va_G} {cI cJ cS : ClassId} {ad adK : Nat → Nat} {a_o a_kind a_space a_trace : Nat} {z_refused z_steps z_other z_times z_speed z_base z_share z_notes z_pitch z_beats z_held z_sort z_size z_shown z_cells z_carried z_words z_tell z_was z_kept z_cutSpace z_cutTimes z_cutOff : Value} {v_stretches : Int32} {v_cars : Int32} {v_tunes : Int32} {v_along : Int32} {v_near : Int32} {v_borne : Int32} {v_tempo : Int32} {v_seed : Int32} {v_fault : Int32} {v_from : Int32} {v_at : Int32} {v_end : Int32} {v_told : Int32} {v_wrongAt : Int32} {v_culprit : Int32} {v_ran : Int32} {v_isKept : Int32} {f_kind : Nat → Int32} {f_space : Nat → Int32} {f_trace : Nat → Int32} {x1 : Int32} {x3 : Int32} {x4 : Int32} {post : Int32 → Int32 → (Nat → Int32) → Prop} {p : Program} {e : Env} {s : State} {m : MethodId} {args : Array Value} {below : List Frame} {meth : Method} {c : Code} {A : Nat → Prop} (S : CallFix p m c cX10_wearing 6 s args GW "RoadThatSingsModel") (hE : EN D cI cJ cS s) (hT : ST ad adK A s s.heap) (hA : ∀ q : Nat, s.heap.size ≤ q → A q) (hr : meth.sig.returnType = (some (.int))) (hlocks : meth.locks = false) : ∀ (H : Heap) (locs : List Loc) (ls : Array Slot), F_X10_wearing_54 f_kind f_space post x1 x3 x4 v_ran f_trace → va_P D vwCl (wX10_wearing cI cJ cS a_o a_kind a_space a_trace z_refused z_steps z_other z_times z_speed z_base z_share z_notes z_pitch z_beats z_held z_sort z_size z_shown z_cells z_carried z_words z_tell z_was z_kept z_cutSpace z_cutTimes z_cutOff v_stretches v_cars v_tunes v_along v_near v_borne v_tempo v_seed v_fault v_from v_at v_end v_told v_wrongAt v_culprit v_ran v_isKept f_kind f_space f_trace) H → va_D A (wX10_wearing cI cJ cS a_o a_kind a_space a_trace z_refused z_steps z_other z_times z_speed z_base z_share z_notes z_pitch z_beats z_held z_sort z_size z_shown z_cells z_carried z_words z_tell z_was z_kept z_cutSpace z_cutTimes z_cutOff v_stretches v_cars v_tunes v_along v_near v_borne v_tempo v_seed v_fault v_from v_at v_end v_told v_wrongAt v_culprit v_ran v_isKept f_kind f_space f_trace) → va_S A s.heap H locs → lv_has ls 6 [(0, .ref a_o), (1, .int x1), (3, .int x3), (4, .int x4)] → W p l e (rmd 3 0 0) s m args below meth c H locs 0 0 (MQ below (va_Qi (fun r (u : Int32 × (Nat → Int32)) => post r u.1 u.2) (fun u t => va_P D vwCl (wX10_wearing cI cJ cS a_o a_kind a_space a_trace z_refused z_steps z_other z_times z_speed z_base z_share z_notes z_pitch z_beats z_held z_sort z_size z_shown z_cells z_carried z_words z_tell z_was z_kept z_cutSpace z_cutTimes z_cutOff v_stretches v_cars v_tunes v_along v_near v_borne v_tempo v_seed v_fault v_from v_at v_end v_told v_wrongAt v_culprit u.1 v_isKept f_kind f_space u.2) t.heap) A) args s 0 0 A) (F0 m 54 ls []) := by
  intro  H locs ls h hP hD hS hl
  unfold F_X10_wearing_54 at h
  have hx := S.1
  have hb := S.2.1
  refine lv_aload_n hx hb dX10_wearing_54 rfl (lv_at hl 0 rfl) ?_
  refine lv_bipush (v := 12) hx hb dX10_wearing_55 (by decide) ?_
  refine rw_v (rwV S hE hT hS hP hD hA (c_X10_body h) [0, 3] rfl (by decide) lkX10_284 rfl ⟨(Nat.le_of_ble_eq_true rfl), (Nat.le_of_ble_eq_true rfl)⟩ 0 rfl rfl hl.1 rfl (Nat.le_of_ble_eq_true rfl) dX10_wearing_57 ⟨(Nat.zero_le _), (Nat.zero_le _)⟩) hP hD hS hA [0, 3] rfl (by decide) (fun _ => rfl) (fun u57 H locs h hP hD hS => ?_)
  obtain ⟨w57_0, w57_1⟩ := u57
  try dsimp only at h
  have hP : va_P D vwCl (wX10_wearing cI cJ cS a_o a_kind a_space a_trace z_refused z_steps z_other z_times z_speed z_base z_share z_notes z_pitch z_beats z_held z_sort z_size z_shown z_cells z_carried z_words z_tell z_was z_kept z_cutSpace z_cutTimes z_cutOff v_stretches v_cars v_tunes v_along v_near v_borne v_tempo v_seed v_fault v_from v_at v_end v_told v_wrongAt v_culprit w57_0 v_isKept f_kind f_space w57_1) H := hP
  have hD : va_D A (wX10_wearing cI cJ cS a_o a_kind a_space a_trace z_refused z_steps z_other z_times z_speed z_base z_share z_notes z_pitch z_beats z_held z_sort z_size z_shown z_cells z_carried z_words z_tell z_was z_kept z_cutSpace z_cutTimes z_cutOff v_stretches v_cars v_tunes v_along v_near v_borne v_tempo v_seed v_fault v_from v_at v_end v_told v_wrongAt v_culprit w57_0 v_isKept f_kind f_space w57_1) := hD
  refine lv_aload_n hx hb dX10_wearing_60 rfl (lv_at hl 0 rfl) ?_
  refine lv_iload_n hx hb dX10_wearing_61 rfl (lv_at hl 1 rfl) ?_
  refine lv_iload hx hb dX10_wearing_62 (lv_at hl 3 rfl) ?_
  refine rw_i (rwV S hE hT hS hP hD hA (c_X10_lasting h) [0, 1, 2, 3] rfl (by decide) lkX10_291 rfl ⟨(Nat.le_of_ble_eq_true rfl), (Nat.le_of_ble_eq_true rfl)⟩ 0 rfl rfl hl.1 rfl (Nat.le_of_ble_eq_true rfl) dX10_wearing_64 ⟨(Nat.zero_le _), (Nat.zero_le _)⟩) hP hD hS hA [0, 1, 2, 3] rfl (by decide) (fun _ => rfl) (fun r64 u64 H locs h hP hD hS => ?_)
  obtain ⟨w64_0, w64_1⟩ := u64
  try dsimp only at h
  have hP : va_P D vwCl (wX10_wearing cI cJ cS a_o a_kind a_space a_trace z_refused z_steps z_other z_times z_speed z_base z_share z_notes z_pitch z_beats z_held z_sort z_size z_shown z_cells z_carried z_words z_tell z_was z_kept z_cutSpace z_cutTimes z_cutOff v_stretches v_cars v_tunes v_along v_near v_borne v_tempo v_seed v_fault v_from v_at v_end v_told v_wrongAt v_culprit w64_0 v_isKept f_kind f_space w64_1) H := hP
  have hD : va_D A (wX10_wearing cI cJ cS a_o a_kind a_space a_trace z_refused z_steps z_other z_times z_speed z_base z_share z_notes z_pitch z_beats z_held z_sort z_size z_shown z_cells z_carried z_words z_tell z_was z_kept z_cutSpace z_cutTimes z_cutOff v_stretches v_cars v_tunes v_along v_near v_borne v_tempo v_seed v_fault v_from v_at v_end v_told v_wrongAt v_culprit w64_0 v_isKept f_kind f_space w64_1) := hD
  refine lv_istore (lv' := [(5, .int r64), (0, .ref a_o), (1, .int x1), (3, .int x3), (4, .int x4)]) hx hb dX10_wearing_67 hl (by decide) rfl (fun ls hl => ?_)
  refine lv_iload hx hb dX10_wearing_69 (lv_at hl 0 rfl) ?_
  refine lv_aload_n hx hb dX10_wearing_71 rfl (lv_at hl 1 rfl) ?_
  refine lv_iload_n hx hb dX10_wearing_72 rfl (lv_at hl 2 rfl) ?_
  refine lv_iload hx hb dX10_wearing_73 (lv_at hl 4 rfl) ?_
  refine lv_aload_n hx hb dX10_wearing_75 rfl (lv_at hl 1 rfl) ?_
  refine gf S hE hP 0 rfl rfl inX10 (k := 12) (by decide) q1105 rfl dX10_wearing_76 ?_
  refine lv_iload_n hx hb dX10_wearing_79 rfl (lv_at hl 2 rfl) ?_
  obtain ⟨hi, h⟩ := h
  refine ial S hE hP 2 rfl hi dX10_wearing_80 ?_
  refine lv_isub hx hb dX10_wearing_81 ?_
  refine rw_i (rwV S hE hT hS hP hD hA (c_X10_humming h) [0, 1, 2, 3] rfl (by decide) lkX10_288 rfl ⟨(Nat.le_of_ble_eq_true rfl), (Nat.le_of_ble_eq_true rfl)⟩ 0 rfl rfl hl.1 rfl (Nat.le_of_ble_eq_true rfl) dX10_wearing_82 ⟨(Nat.zero_le _), (Nat.zero_le _)⟩) hP hD hS hA [0, 1, 2, 3] rfl (by decide) (fun _ => rfl) (fun r82 u82 H locs h hP hD hS => ?_)
  obtain ⟨w82_0, w82_1⟩ := u82
  try dsimp only at h
  have hP : va_P D vwCl (wX10_wearing cI cJ cS a_o a_kind a_space a_trace z_refused z_steps z_other z_times z_speed z_base z_share z_notes z_pitch z_beats z_held z_sort z_size z_shown z_cells z_carried z_words z_tell z_was z_kept z_cutSpace z_cutTimes z_cutOff v_stretches v_cars v_tunes v_along v_near v_borne v_tempo v_seed v_fault v_from v_at v_end v_told v_wrongAt v_culprit w82_0 v_isKept f_kind f_space w82_1) H := hP
  have hD : va_D A (wX10_wearing cI cJ cS a_o a_kind a_space a_trace z_refused z_steps z_other z_times z_speed z_base z_share z_notes z_pitch z_beats z_held z_sort z_size z_shown z_cells z_carried z_words z_tell z_was z_kept z_cutSpace z_cutTimes z_cutOff v_stretches v_cars v_tunes v_along v_near v_borne v_tempo v_seed v_fault v_from v_at v_end v_told v_wrongAt v_culprit w82_0 v_isKept f_kind f_space w82_1) := hD
  refine lv_ixor hx hb dX10_wearing_85 ?_
  refine lv_topi (fun x5_86 ex5_86 => ?_)
  have h := h _ ex5_86
  refine lv_istore (lv' := [(5, .int x5_86), (0, .ref a_o), (1, .int x1), (3, .int x3), (4, .int x4)]) hx hb dX10_wearing_86 hl (by decide) rfl (fun ls hl => ?_)
  refine lv_iload_n hx hb dX10_wearing_88 rfl (lv_at hl 3 rfl) ?_
  refine lv_iconst (v := 4) hx hb dX10_wearing_89 (by decide) ?_
  refine lv_icmp_ne (tgt := 99) hx hb dX10_wearing_90 (by decide) (fun hc => ?_) (fun hc => ?_)
  · have h := h.2 hc
    refine lv_iload_n hx hb dX10_wearing_99 rfl (lv_at hl 3 rfl) ?_
    refine lv_iconst (v := 3) hx hb dX10_wearing_100 (by decide) ?_
    refine lv_icmp_ne (tgt := 111) hx hb dX10_wearing_101 (by decide) (fun hc => ?_) (fun hc => ?_)
    · have h := h.2 hc
      refine lv_iload hx hb dX10_wearing_111 (lv_at hl 0 rfl) ?_
      exact W.iret hx hb hr (fun t ht _ => ⟨⟨_, (w82_0, w82_1), rfl, h, hPt hP ht⟩, hS.F ht⟩) hS.2.2 dX10_wearing_113
    have h := h.1 hc
    refine lv_iload hx hb dX10_wearing_104 (lv_at hl 0 rfl) ?_
    refine lv_iconst (v := 5) hx hb dX10_wearing_106 (by decide) ?_
    refine lv_ixor hx hb dX10_wearing_107 ?_
    refine lv_goto (tgt := 113) hx hb dX10_wearing_108 (by decide) ?_
    exact W.iret hx hb hr (fun t ht _ => ⟨⟨_, (w82_0, w82_1), rfl, h, hPt hP ht⟩, hS.F ht⟩) hS.2.2 dX10_wearing_113
  have h := h.1 hc
  refine lv_iload hx hb dX10_wearing_93 (lv_at hl 0 rfl) ?_
  refine lv_ineg hx hb dX10_wearing_95 ?_
  refine lv_goto (tgt := 113) hx hb dX10_wearing_96 (by decide) ?_
  exact W.iret hx hb hr (fun t ht _ => ⟨⟨_, (w82_0, w82_1), rfl, h, hPt hP ht⟩, hS.F ht⟩) hS.2.2 dX10_wearing_113
set_option maxHeartbeats 4000000 in
set_option maxRecDepth 100000 in
theorem w_X10_wearing_32 {l : Launch} {D : va_G} {cI cJ cS : ClassId} {ad adK : Nat → Nat} {a_o a_kind a_space a_trace : Nat} {z_refused z_steps z_other z_times z_speed z_base z_share z_notes z_pitch z_beats z_held z_sort z_size z_shown z_cells z_carried z_words z_tell z_was z_kept z_cutSpace z_cutTimes z_cutOff : Value} {v_stretches : Int32} {v_cars : Int32} {v_tunes : Int32} {v_along : Int32} {v_near : Int32} {v_borne : Int32} {v_tempo : Int32} {v_seed : Int32} {v_fault : Int32} {v_from : Int32} {v_at : Int32} {v_end : Int32} {v_told : Int32} {v_wrongAt : Int32} {v_culprit : Int32} {v_ran : Int32} {v_isKept : Int32} {f_kind : Nat → Int32} {f_space : Nat → Int32} {f_trace : Nat → Int32} {x1 : Int32} {x2 : Int32} {x3 : Int32} {x4 : Int32} {post : Int32 → Int32 → (Nat → Int32) → Prop} {p : Program} {e : Env} {s : State} {m : MethodId} {args : Array Value} {below : List Frame} {meth : Method} {c : Code} {A : Nat → Prop} (S : CallFix p m c cX10_wearing 6 s args GW "RoadThatSingsModel") (hE : EN D cI cJ cS s) (hT : ST ad adK A s s.heap) (hA : ∀ q : Nat, s.heap.size ≤ q → A q) (hr : meth.sig.returnType = (some (.int))) (hlocks : meth.locks = false) : ∀ (H : Heap) (locs : List Loc) (ls : Array Slot), F_X10_wearing_32 f_kind f_space post x1 x2 x3 x4 v_ran f_trace → va_P D vwCl (wX10_wearing cI cJ cS a_o a_kind a_space a_trace z_refused z_steps z_other z_times z_speed z_base z_share z_notes z_pitch z_beats z_held z_sort z_size z_shown z_cells z_carried z_words z_tell z_was z_kept z_cutSpace z_cutTimes z_cutOff v_stretches v_cars v_tunes v_along v_near v_borne v_tempo v_seed v_fault v_from v_at v_end v_told v_wrongAt v_culprit v_ran v_isKept f_kind f_space f_trace) H → va_D A (wX10_wearing cI cJ cS a_o a_kind a_space a_trace z_refused z_steps z_other z_times z_speed z_base z_share z_notes z_pitch z_beats z_held z_sort z_size z_shown z_cells z_carried z_words z_tell z_was z_kept z_cutSpace z_cutTimes z_cutOff v_stretches v_cars v_tunes v_along v_near v_borne v_tempo v_seed v_fault v_from v_at v_end v_told v_wrongAt v_culprit v_ran v_isKept f_kind f_space f_trace) → va_S A s.heap H locs → lv_has ls 6 [(0, .ref a_o), (1, .int x1), (2, .int x2), (3, .int x3), (4, .int x4)] → W p l e (rmd 3 0 0) s m args below meth c H locs 0 0 (MQ below (va_Qi (fun r (u : Int32 × (Nat → Int32)) => post r u.1 u.2) (fun u t => va_P D vwCl (wX10_wearing cI cJ cS a_o a_kind a_space a_trace z_refused z_steps z_other z_times z_speed z_base z_share z_notes z_pitch z_beats z_held z_sort z_size z_shown z_cells z_carried z_words z_tell z_was z_kept z_cutSpace z_cutTimes z_cutOff v_stretches v_cars v_tunes v_along v_near v_borne v_tempo v_seed v_fault v_from v_at v_end v_told v_wrongAt v_culprit u.1 v_isKept f_kind f_space u.2) t.heap) A) args s 0 0 A) (F0 m 32 ls []) := by
  intro  H locs ls h hP hD hS hl
  unfold F_X10_wearing_32 at h
  have hx := S.1
  have hb := S.2.1
  refine lv_iload_n hx hb dX10_wearing_32 rfl (lv_at hl 3 rfl) ?_
  refine lv_bipush (v := 6) hx hb dX10_wearing_33 (by decide) ?_
  refine lv_icmp_ne (tgt := 54) hx hb dX10_wearing_35 (by decide) (fun hc => ?_) (fun hc => ?_)
  · have h := h.2 hc
    refine w_X10_wearing_54 S hE hT hA hr hlocks _ _ _ h hP hD hS (lv_sub hl [0, 1, 3, 4] rfl)
  have h := h.1 hc
  refine lv_aload_n hx hb dX10_wearing_38 rfl (lv_at hl 0 rfl) ?_
  refine lv_bipush (v := 71) hx hb dX10_wearing_39 (by decide) ?_
  refine rw_v (rwV S hE hT hS hP hD hA (c_X10_body h) [0, 3] rfl (by decide) lkX10_284 rfl ⟨(Nat.le_of_ble_eq_true rfl), (Nat.le_of_ble_eq_true rfl)⟩ 0 rfl rfl hl.1 rfl (Nat.le_of_ble_eq_true rfl) dX10_wearing_41 ⟨(Nat.zero_le _), (Nat.zero_le _)⟩) hP hD hS hA [0, 3] rfl (by decide) (fun _ => rfl) (fun u41 H locs h hP hD hS => ?_)
  obtain ⟨w41_0, w41_1⟩ := u41
  try dsimp only at h
  have hP : va_P D vwCl (wX10_wearing cI cJ cS a_o a_kind a_space a_trace z_refused z_steps z_other z_times z_speed z_base z_share z_notes z_pitch z_beats z_held z_sort z_size z_shown z_cells z_carried z_words z_tell z_was z_kept z_cutSpace z_cutTimes z_cutOff v_stretches v_cars v_tunes v_along v_near v_borne v_tempo v_seed v_fault v_from v_at v_end v_told v_wrongAt v_culprit w41_0 v_isKept f_kind f_space w41_1) H := hP
  have hD : va_D A (wX10_wearing cI cJ cS a_o a_kind a_space a_trace z_refused z_steps z_other z_times z_speed z_base z_share z_notes z_pitch z_beats z_held z_sort z_size z_shown z_cells z_carried z_words z_tell z_was z_kept z_cutSpace z_cutTimes z_cutOff v_stretches v_cars v_tunes v_along v_near v_borne v_tempo v_seed v_fault v_from v_at v_end v_told v_wrongAt v_culprit w41_0 v_isKept f_kind f_space w41_1) := hD
  refine lv_iload_n hx hb dX10_wearing_44 rfl (lv_at hl 2 rfl) ?_
  refine lv_aload_n hx hb dX10_wearing_45 rfl (lv_at hl 0 rfl) ?_
  refine gf S hE hP 0 rfl rfl inX10 (k := 12) (by decide) q1105 rfl dX10_wearing_46 ?_
  refine lv_iload_n hx hb dX10_wearing_49 rfl (lv_at hl 1 rfl) ?_
  obtain ⟨hi, h⟩ := h
  refine ial S hE hP 2 rfl hi dX10_wearing_50 ?_
  refine lv_isub hx hb dX10_wearing_51 ?_
  refine lv_topi (fun x4_52 ex4_52 => ?_)
  have h := h _ ex4_52
  refine lv_istore (lv' := [(4, .int x4_52), (0, .ref a_o), (1, .int x1), (2, .int x2), (3, .int x3)]) hx hb dX10_wearing_52 hl (by decide) rfl (fun ls hl => ?_)
  refine w_X10_wearing_54 S hE hT hA hr hlocks _ _ _ h hP hD hS (lv_sub hl [1, 2, 4, 0] rfl)
set_option maxHeartbeats 4000000 in
set_option maxRecDepth 100000 in
theorem w_X10_wearing_21 {l : Launch} {D : va_G} {cI cJ cS : ClassId} {ad adK : Nat → Nat} {a_o a_kind a_space a_trace : Nat} {z_refused z_steps z_other z_times z_speed z_base z_share z_notes z_pitch z_beats z_held z_sort z_size z_shown z_cells z_carried z_words z_tell z_was z_kept z_cutSpace z_cutTimes z_cutOff : Value} {v_stretches : Int32} {v_cars : Int32} {v_tunes : Int32} {v_along : Int32} {v_near : Int32} {v_borne : Int32} {v_tempo : Int32} {v_seed : Int32} {v_fault : Int32} {v_from : Int32} {v_at : Int32} {v_end : Int32} {v_told : Int32} {v_wrongAt : Int32} {v_culprit : Int32} {v_ran : Int32} {v_isKept : Int32} {f_kind : Nat → Int32} {f_space : Nat → Int32} {f_trace : Nat → Int32} {x1 : Int32} {x2 : Int32} {x3 : Int32} {x4 : Int32} {post : Int32 → Int32 → (Nat → Int32) → Prop} {p : Program} {e : Env} {s : State} {m : MethodId} {args : Array Value} {below : List Frame} {meth : Method} {c : Code} {A : Nat → Prop} (S : CallFix p m c cX10_wearing 6 s args GW "RoadThatSingsModel") (hE : EN D cI cJ cS s) (hT : ST ad adK A s s.heap) (hA : ∀ q : Nat, s.heap.size ≤ q → A q) (hr : meth.sig.returnType = (some (.int))) (hlocks : meth.locks = false) : ∀ (H : Heap) (locs : List Loc) (ls : Array Slot), F_X10_wearing_21 f_kind f_space post x1 x2 x3 x4 v_ran f_trace → va_P D vwCl (wX10_wearing cI cJ cS a_o a_kind a_space a_trace z_refused z_steps z_other z_times z_speed z_base z_share z_notes z_pitch z_beats z_held z_sort z_size z_shown z_cells z_carried z_words z_tell z_was z_kept z_cutSpace z_cutTimes z_cutOff v_stretches v_cars v_tunes v_along v_near v_borne v_tempo v_seed v_fault v_from v_at v_end v_told v_wrongAt v_culprit v_ran v_isKept f_kind f_space f_trace) H → va_D A (wX10_wearing cI cJ cS a_o a_kind a_space a_trace z_refused z_steps z_other z_times z_speed z_base z_share z_notes z_pitch z_beats z_held z_sort z_size z_shown z_cells z_carried z_words z_tell z_was z_kept z_cutSpace z_cutTimes z_cutOff v_stretches v_cars v_tunes v_along v_near v_borne v_tempo v_seed v_fault v_from v_at v_end v_told v_wrongAt v_culprit v_ran v_isKept f_kind f_space f_trace) → va_S A s.heap H locs → lv_has ls 6 [(0, .ref a_o), (1, .int x1), (2, .int x2), (3, .int x3), (4, .int x4)] → W p l e (rmd 3 0 0) s m args below meth c H locs 0 0 (MQ below (va_Qi (fun r (u : Int32 × (Nat → Int32)) => post r u.1 u.2) (fun u t => va_P D vwCl (wX10_wearing cI cJ cS a_o a_kind a_space a_trace z_refused z_steps z_other z_times z_speed z_base z_share z_notes z_pitch z_beats z_held z_sort z_size z_shown z_cells z_carried z_words z_tell z_was z_kept z_cutSpace z_cutTimes z_cutOff v_stretches v_cars v_tunes v_along v_near v_borne v_tempo v_seed v_fault v_from v_at v_end v_told v_wrongAt v_culprit u.1 v_isKept f_kind f_space u.2) t.heap) A) args s 0 0 A) (F0 m 21 ls []) := by
  intro  H locs ls h hP hD hS hl
  unfold F_X10_wearing_21 at h
  have hx := S.1
  have hb := S.2.1
  refine lv_iload_n hx hb dX10_wearing_21 rfl (lv_at hl 3 rfl) ?_
  refine lv_iconst (v := 3) hx hb dX10_wearing_22 (by decide) ?_
  refine lv_icmp_ne (tgt := 32) hx hb dX10_wearing_23 (by decide) (fun hc => ?_) (fun hc => ?_)
  · have h := h.2 hc
    refine w_X10_wearing_32 S hE hT hA hr hlocks _ _ _ h hP hD hS (lv_sub hl [0, 1, 2, 3, 4] rfl)
  have h := h.1 hc
  refine lv_aload_n hx hb dX10_wearing_26 rfl (lv_at hl 0 rfl) ?_
  refine lv_bipush (v := 60) hx hb dX10_wearing_27 (by decide) ?_
  refine rw_v (rwV S hE hT hS hP hD hA (c_X10_body h) [0, 3] rfl (by decide) lkX10_284 rfl ⟨(Nat.le_of_ble_eq_true rfl), (Nat.le_of_ble_eq_true rfl)⟩ 0 rfl rfl hl.1 rfl (Nat.le_of_ble_eq_true rfl) dX10_wearing_29 ⟨(Nat.zero_le _), (Nat.zero_le _)⟩) hP hD hS hA [0, 3] rfl (by decide) (fun _ => rfl) (fun u29 H locs h hP hD hS => ?_)
  obtain ⟨w29_0, w29_1⟩ := u29
  try dsimp only at h
  have hP : va_P D vwCl (wX10_wearing cI cJ cS a_o a_kind a_space a_trace z_refused z_steps z_other z_times z_speed z_base z_share z_notes z_pitch z_beats z_held z_sort z_size z_shown z_cells z_carried z_words z_tell z_was z_kept z_cutSpace z_cutTimes z_cutOff v_stretches v_cars v_tunes v_along v_near v_borne v_tempo v_seed v_fault v_from v_at v_end v_told v_wrongAt v_culprit w29_0 v_isKept f_kind f_space w29_1) H := hP
  have hD : va_D A (wX10_wearing cI cJ cS a_o a_kind a_space a_trace z_refused z_steps z_other z_times z_speed z_base z_share z_notes z_pitch z_beats z_held z_sort z_size z_shown z_cells z_carried z_words z_tell z_was z_kept z_cutSpace z_cutTimes z_cutOff v_stretches v_cars v_tunes v_along v_near v_borne v_tempo v_seed v_fault v_from v_at v_end v_told v_wrongAt v_culprit w29_0 v_isKept f_kind f_space w29_1) := hD
  refine w_X10_wearing_32 S hE hT hA hr hlocks _ _ _ h hP hD hS (lv_sub hl [0, 1, 2, 3, 4] rfl)
set_option maxHeartbeats 4000000 in
set_option maxRecDepth 100000 in
theorem c_X10_wearing {l : Launch} {D : va_G} {cI cJ cS : ClassId} {ad adK : Nat → Nat} {a_o a_kind a_space a_trace : Nat} {z_refused z_steps z_other z_times z_speed z_base z_share z_notes z_pitch z_beats z_held z_sort z_size z_shown z_cells z_carried z_words z_tell z_was z_kept z_cutSpace z_cutTimes z_cutOff : Value} {v_stretches : Int32} {v_cars : Int32} {v_tunes : Int32} {v_along : Int32} {v_near : Int32} {v_borne : Int32} {v_tempo : Int32} {v_seed : Int32} {v_fault : Int32} {v_from : Int32} {v_at : Int32} {v_end : Int32} {v_told : Int32} {v_wrongAt : Int32} {v_culprit : Int32} {v_ran : Int32} {v_isKept : Int32} {f_kind : Nat → Int32} {f_space : Nat → Int32} {f_trace : Nat → Int32} {x1 : Int32} {x2 : Int32} {post : Int32 → Int32 → (Nat → Int32) → Prop} (h : F_X10_wearing v_ran f_kind f_space f_trace x1 x2 post) {sz : Nat} : Met l yX10_wearing (Cond.code yX10_wearing cX10_wearing 6 (some (.int)) :: GW) (rmd 3 0 0) (PW D cI cJ cS ad adK [.ref a_o, .int x1, .int x2] (wX10_wearing cI cJ cS a_o a_kind a_space a_trace z_refused z_steps z_other z_times z_speed z_base z_share z_notes z_pitch z_beats z_held z_sort z_size z_shown z_cells z_carried z_words z_tell z_was z_kept z_cutSpace z_cutTimes z_cutOff v_stretches v_cars v_tunes v_along v_near v_borne v_tempo v_seed v_fault v_from v_at v_end v_told v_wrongAt v_culprit v_ran v_isKept f_kind f_space f_trace) sz) (va_Qi (fun r (u : Int32 × (Nat → Int32)) => post r u.1 u.2) (fun u t => va_P D vwCl (wX10_wearing cI cJ cS a_o a_kind a_space a_trace z_refused z_steps z_other z_times z_speed z_base z_share z_notes z_pitch z_beats z_held z_sort z_size z_shown z_cells z_carried z_words z_tell z_was z_kept z_cutSpace z_cutTimes z_cutOff v_stretches v_cars v_tunes v_along v_near v_borne v_tempo v_seed v_fault v_from v_at v_end v_told v_wrongAt v_culprit u.1 v_isKept f_kind f_space u.2) t.heap) (va_A (wX10_wearing cI cJ cS a_o a_kind a_space a_trace z_refused z_steps z_other z_times z_speed z_base z_share z_notes z_pitch z_beats z_held z_sort z_size z_shown z_cells z_carried z_words z_tell z_was z_kept z_cutSpace z_cutTimes z_cutOff v_stretches v_cars v_tunes v_along v_near v_borne v_tempo v_seed v_fault v_from v_at v_end v_told v_wrongAt v_culprit v_ran v_isKept f_kind f_space f_trace) sz)) 0 0 (va_A (wX10_wearing cI cJ cS a_o a_kind a_space a_trace z_refused z_steps z_other z_times z_speed z_base z_share z_notes z_pitch z_beats z_held z_sort z_size z_shown z_cells z_carried z_words z_tell z_was z_kept z_cutSpace z_cutTimes z_cutOff v_stretches v_cars v_tunes v_along v_near v_borne v_tempo v_seed v_fault v_from v_at v_end v_told v_wrongAt v_culprit v_ran v_isKept f_kind f_space f_trace) sz) := by
  refine Met.rw (Qc := fun A => (va_Qi (fun r (u : Int32 × (Nat → Int32)) => post r u.1 u.2) (fun u t => va_P D vwCl (wX10_wearing cI cJ cS a_o a_kind a_space a_trace z_refused z_steps z_other z_times z_speed z_base z_share z_notes z_pitch z_beats z_held z_sort z_size z_shown z_cells z_carried z_words z_tell z_was z_kept z_cutSpace z_cutTimes z_cutOff v_stretches v_cars v_tunes v_along v_near v_borne v_tempo v_seed v_fault v_from v_at v_end v_told v_wrongAt v_culprit u.1 v_isKept f_kind f_space u.2) t.heap) A)) (by decide) (Nat.le_of_ble_eq_true rfl) (fun p e s m args below meth c ls A (S : CallFix p m c cX10_wearing 6 s args GW "RoadThatSingsModel") hE hT hP hD hA hS hr hlocks hname hl => ?_)
  have hS0 := hS
  have hx := S.1
  have hb := S.2.1
  have hl : lv_has ls 6 [(0, .ref a_o), (1, .int x1), (2, .int x2)] := hl
  unfold F_X10_wearing at h
  refine lv_aload_n hx hb dX10_wearing_0 rfl (lv_at hl 0 rfl) ?_
  refine gf S hE hP 0 rfl rfl inX10 (k := 11) (by decide) q1104 rfl dX10_wearing_1 ?_
  refine lv_iload_n hx hb dX10_wearing_4 rfl (lv_at hl 1 rfl) ?_
  obtain ⟨hi, h⟩ := h
  refine ial S hE hP 1 rfl hi dX10_wearing_5 ?_
  refine lv_topi (fun x3_6 ex3_6 => ?_)
  have h := h _ ex3_6
  refine lv_istore_n (lv' := [(3, .int x3_6), (0, .ref a_o), (1, .int x1), (2, .int x2)]) hx hb dX10_wearing_6 rfl hl (by decide) rfl (fun ls hl => ?_)
  refine lv_iload_n hx hb dX10_wearing_7 rfl (lv_at hl 3 rfl) ?_
  refine lv_istore (lv' := [(4, .int x2), (3, .int x3_6), (0, .ref a_o), (1, .int x1), (2, .int x2)]) hx hb dX10_wearing_8 hl (by decide) rfl (fun ls hl => ?_)
  refine lv_iload_n hx hb dX10_wearing_10 rfl (lv_at hl 1 rfl) ?_
  refine lv_iconst (v := 4) hx hb dX10_wearing_11 (by decide) ?_
  refine lv_icmp_ne (tgt := 21) hx hb dX10_wearing_12 (by decide) (fun hc => ?_) (fun hc => ?_)
  · have h := h.2 hc
    refine w_X10_wearing_21 S hE hT hA hr hlocks _ _ _ h hP hD hS (lv_sub hl [2, 3, 4, 1, 0] rfl)
  have h := h.1 hc
  refine lv_aload_n hx hb dX10_wearing_15 rfl (lv_at hl 2 rfl) ?_
  refine lv_bipush (v := 50) hx hb dX10_wearing_16 (by decide) ?_
  refine rw_v (rwV S hE hT hS hP hD hA (c_X10_body h) [0, 3] rfl (by decide) lkX10_284 rfl ⟨(Nat.le_of_ble_eq_true rfl), (Nat.le_of_ble_eq_true rfl)⟩ 0 rfl rfl hl.1 rfl (Nat.le_of_ble_eq_true rfl) dX10_wearing_18 ⟨(Nat.zero_le _), (Nat.zero_le _)⟩) hP hD hS hA [0, 3] rfl (by decide) (fun _ => rfl) (fun u18 H locs h hP hD hS => ?_)
  obtain ⟨w18_0, w18_1⟩ := u18
  try dsimp only at h
  have hP : va_P D vwCl (wX10_wearing cI cJ cS a_o a_kind a_space a_trace z_refused z_steps z_other z_times z_speed z_base z_share z_notes z_pitch z_beats z_held z_sort z_size z_shown z_cells z_carried z_words z_tell z_was z_kept z_cutSpace z_cutTimes z_cutOff v_stretches v_cars v_tunes v_along v_near v_borne v_tempo v_seed v_fault v_from v_at v_end v_told v_wrongAt v_culprit w18_0 v_isKept f_kind f_space w18_1) H := hP
  have hD : va_D A (wX10_wearing cI cJ cS a_o a_kind a_space a_trace z_refused z_steps z_other z_times z_speed z_base z_share z_notes z_pitch z_beats z_held z_sort z_size z_shown z_cells z_carried z_words z_tell z_was z_kept z_cutSpace z_cutTimes z_cutOff v_stretches v_cars v_tunes v_along v_near v_borne v_tempo v_seed v_fault v_from v_at v_end v_told v_wrongAt v_culprit w18_0 v_isKept f_kind f_space w18_1) := hD
  refine w_X10_wearing_21 S hE hT hA hr hlocks _ _ _ h hP hD hS (lv_sub hl [2, 3, 4, 1, 0] rfl)
/-! X10_act -/
abbrev wX10_act (cI cJ cS : ClassId) (a_o a_kind a_space a_trace : Nat) (z_refused z_steps z_other z_times z_speed z_base z_share z_notes z_pitch z_beats z_held z_sort z_size z_shown z_cells z_carried z_words z_tell z_was z_kept z_cutSpace z_cutTimes z_cutOff : Value) (v_stretches : Int32) (v_cars : Int32) (v_tunes : Int32) (v_along : Int32) (v_near : Int32) (v_borne : Int32) (v_tempo : Int32) (v_seed : Int32) (v_fault : Int32) (v_from : Int32) (v_at : Int32) (v_end : Int32) (v_told : Int32) (v_wrongAt : Int32) (v_culprit : Int32) (v_ran : Int32) (v_isKept : Int32) (f_kind : Nat → Int32) (f_space : Nat → Int32) (f_trace : Nat → Int32) : va_W := [(a_o, .inr (9, [.int v_stretches, .int v_cars, .int v_tunes, .int v_along, .int v_near, .int v_borne, .int v_tempo, .int v_seed, .int v_fault, z_refused, z_steps, .ref a_kind, .ref a_space, z_other, z_times, z_speed, z_base, z_share, z_notes, z_pitch, z_beats, z_held, z_sort, z_size, z_shown, z_cells, z_carried, z_words, z_tell, .int v_from, .int v_at, .int v_end, .int v_told, .int v_wrongAt, z_was, z_kept, .int v_culprit, z_cutSpace, z_cutTimes, z_cutOff, .ref a_trace, .int v_ran, .int v_isKept])), (a_kind, .inl (cI, 16, .inl f_kind)), (a_space, .inl (cI, 16, .inl f_space)), (a_trace, .inl (cI, 20, .inl f_trace))]
def F_X10_act (v_stretches : Int32) (v_ran : Int32) (f_kind : Nat → Int32) (f_space : Nat → Int32) (f_trace : Nat → Int32) (x1 : Int32) (x2 : Int32) (x3 : Int32) (post : Int32 → Int32 → (Nat → Int32) → Prop) : Prop := (F_X10_isStretch v_stretches x1 (fun r7 => ((r7 = 0 → post 0 0 f_trace) ∧ (¬ r7 = 0 → ((x2 < 0 → post 0 0 f_trace) ∧ (¬ x2 < 0 → ((x2 ≤ 2 → ((x2 = 0 → (F_X10_humming 0 f_kind f_space f_trace x1 x3 (fun r31 w31_0 w31_1 => post r31 w31_0 w31_1))) ∧ (¬ x2 = 0 → ((x2 = 1 → (F_X10_lasting 0 f_kind f_space f_trace x1 x3 (fun r45 w45_0 w45_1 => post r45 w45_0 w45_1))) ∧ (¬ x2 = 1 → (F_X10_wearing 0 f_kind f_space f_trace x1 x3 (fun r54 w54_0 w54_1 => post r54 w54_0 w54_1))))))) ∧ (¬ x2 ≤ 2 → post 0 0 f_trace))))))))
set_option maxHeartbeats 4000000 in
set_option maxRecDepth 100000 in
theorem c_X10_act {l : Launch} {D : va_G} {cI cJ cS : ClassId} {ad adK : Nat → Nat} {a_o a_kind a_space a_trace : Nat} {z_refused z_steps z_other z_times z_speed z_base z_share z_notes z_pitch z_beats z_held z_sort z_size z_shown z_cells z_carried z_words z_tell z_was z_kept z_cutSpace z_cutTimes z_cutOff : Value} {v_stretches : Int32} {v_cars : Int32} {v_tunes : Int32} {v_along : Int32} {v_near : Int32} {v_borne : Int32} {v_tempo : Int32} {v_seed : Int32} {v_fault : Int32} {v_from : Int32} {v_at : Int32} {v_end : Int32} {v_told : Int32} {v_wrongAt : Int32} {v_culprit : Int32} {v_ran : Int32} {v_isKept : Int32} {f_kind : Nat → Int32} {f_space : Nat → Int32} {f_trace : Nat → Int32} {x1 : Int32} {x2 : Int32} {x3 : Int32} {post : Int32 → Int32 → (Nat → Int32) → Prop} (h : F_X10_act v_stretches v_ran f_kind f_space f_trace x1 x2 x3 post) {sz : Nat} : Met l yX10_act (Cond.code yX10_act cX10_act 4 (some (.int)) :: GW) (rmd 4 0 0) (PW D cI cJ cS ad adK [.ref a_o, .int x1, .int x2, .int x3] (wX10_act cI cJ cS a_o a_kind a_space a_trace z_refused z_steps z_other z_times z_speed z_base z_share z_notes z_pitch z_beats z_held z_sort z_size z_shown z_cells z_carried z_words z_tell z_was z_kept z_cutSpace z_cutTimes z_cutOff v_stretches v_cars v_tunes v_along v_near v_borne v_tempo v_seed v_fault v_from v_at v_end v_told v_wrongAt v_culprit v_ran v_isKept f_kind f_space f_trace) sz) (va_Qi (fun r (u : Int32 × (Nat → Int32)) => post r u.1 u.2) (fun u t => va_P D vwCl (wX10_act cI cJ cS a_o a_kind a_space a_trace z_refused z_steps z_other z_times z_speed z_base z_share z_notes z_pitch z_beats z_held z_sort z_size z_shown z_cells z_carried z_words z_tell z_was z_kept z_cutSpace z_cutTimes z_cutOff v_stretches v_cars v_tunes v_along v_near v_borne v_tempo v_seed v_fault v_from v_at v_end v_told v_wrongAt v_culprit u.1 v_isKept f_kind f_space u.2) t.heap) (va_A (wX10_act cI cJ cS a_o a_kind a_space a_trace z_refused z_steps z_other z_times z_speed z_base z_share z_notes z_pitch z_beats z_held z_sort z_size z_shown z_cells z_carried z_words z_tell z_was z_kept z_cutSpace z_cutTimes z_cutOff v_stretches v_cars v_tunes v_along v_near v_borne v_tempo v_seed v_fault v_from v_at v_end v_told v_wrongAt v_culprit v_ran v_isKept f_kind f_space f_trace) sz)) 0 0 (va_A (wX10_act cI cJ cS a_o a_kind a_space a_trace z_refused z_steps z_other z_times z_speed z_base z_share z_notes z_pitch z_beats z_held z_sort z_size z_shown z_cells z_carried z_words z_tell z_was z_kept z_cutSpace z_cutTimes z_cutOff v_stretches v_cars v_tunes v_along v_near v_borne v_tempo v_seed v_fault v_from v_at v_end v_told v_wrongAt v_culprit v_ran v_isKept f_kind f_space f_trace) sz) := by
  refine Met.rw (Qc := fun A => (va_Qi (fun r (u : Int32 × (Nat → Int32)) => post r u.1 u.2) (fun u t => va_P D vwCl (wX10_act cI cJ cS a_o a_kind a_space a_trace z_refused z_steps z_other z_times z_speed z_base z_share z_notes z_pitch z_beats z_held z_sort z_size z_shown z_cells z_carried z_words z_tell z_was z_kept z_cutSpace z_cutTimes z_cutOff v_stretches v_cars v_tunes v_along v_near v_borne v_tempo v_seed v_fault v_from v_at v_end v_told v_wrongAt v_culprit u.1 v_isKept f_kind f_space u.2) t.heap) A)) (by decide) (Nat.le_of_ble_eq_true rfl) (fun p e s m args below meth c ls A (S : CallFix p m c cX10_act 4 s args GW "RoadThatSingsModel") hE hT hP hD hA hS hr hlocks hname hl => ?_)
  have hS0 := hS
  have hx := S.1
  have hb := S.2.1
  have hl : lv_has ls 4 [(0, .ref a_o), (1, .int x1), (2, .int x2), (3, .int x3)] := hl
  unfold F_X10_act at h
  refine lv_aload_n hx hb dX10_act_0 rfl (lv_at hl 0 rfl) ?_
  refine lv_iconst (v := 0) hx hb dX10_act_1 (by decide) ?_
  refine pf S hE hP hD hS 0 (k := 41) rfl rfl inX10 tyX10_ok nmX10 (by decide) q1134 rfl rfl rfl (Nat.le_of_ble_eq_true rfl) dX10_act_2 (fun H locs hP hD hS => ?_)
  have hP : va_P D vwCl (wX10_act cI cJ cS a_o a_kind a_space a_trace z_refused z_steps z_other z_times z_speed z_base z_share z_notes z_pitch z_beats z_held z_sort z_size z_shown z_cells z_carried z_words z_tell z_was z_kept z_cutSpace z_cutTimes z_cutOff v_stretches v_cars v_tunes v_along v_near v_borne v_tempo v_seed v_fault v_from v_at v_end v_told v_wrongAt v_culprit 0 v_isKept f_kind f_space f_trace) H := hP
  have hD : va_D A (wX10_act cI cJ cS a_o a_kind a_space a_trace z_refused z_steps z_other z_times z_speed z_base z_share z_notes z_pitch z_beats z_held z_sort z_size z_shown z_cells z_carried z_words z_tell z_was z_kept z_cutSpace z_cutTimes z_cutOff v_stretches v_cars v_tunes v_along v_near v_borne v_tempo v_seed v_fault v_from v_at v_end v_told v_wrongAt v_culprit 0 v_isKept f_kind f_space f_trace) := hD
  refine lv_aload_n hx hb dX10_act_5 rfl (lv_at hl 0 rfl) ?_
  refine lv_iload_n hx hb dX10_act_6 rfl (lv_at hl 1 rfl) ?_
  refine ro_i (roV S hE hT hS (c_X10_isStretch h) lkX10_125 rfl ⟨(Nat.le_of_ble_eq_true rfl), (Nat.le_of_ble_eq_true rfl)⟩ (hP.sub [0] rfl) 0 rfl rfl hl.1 rfl (Nat.le_of_ble_eq_true rfl) dX10_act_7 ⟨(Nat.zero_le _), (Nat.zero_le _)⟩) (fun r7 h => ?_)
  refine lv_if_eq (tgt := 22) hx hb dX10_act_10 (by decide) (fun hc => ?_) (fun hc => ?_)
  · have h := h.1 hc
    refine lv_iconst (v := 0) hx hb dX10_act_22 (by decide) ?_
    exact W.iret hx hb hr (fun t ht _ => ⟨⟨_, (0, f_trace), rfl, h, hPt hP ht⟩, hS.F ht⟩) hS.2.2 dX10_act_23
  have h := h.2 hc
  refine lv_iload_n hx hb dX10_act_13 rfl (lv_at hl 2 rfl) ?_
  refine lv_if_lt (tgt := 22) hx hb dX10_act_14 (by decide) (fun hc => ?_) (fun hc => ?_)
  · have h := h.1 hc
    refine lv_iconst (v := 0) hx hb dX10_act_22 (by decide) ?_
    exact W.iret hx hb hr (fun t ht _ => ⟨⟨_, (0, f_trace), rfl, h, hPt hP ht⟩, hS.F ht⟩) hS.2.2 dX10_act_23
  have h := h.2 hc
  refine lv_iload_n hx hb dX10_act_17 rfl (lv_at hl 2 rfl) ?_
  refine lv_iconst (v := 2) hx hb dX10_act_18 (by decide) ?_
  refine lv_icmp_le (tgt := 24) hx hb dX10_act_19 (by decide) (fun hc => ?_) (fun hc => ?_)
  · have h := h.1 hc
    refine lv_iload_n hx hb dX10_act_24 rfl (lv_at hl 2 rfl) ?_
    refine lv_if_ne (tgt := 37) hx hb dX10_act_25 (by decide) (fun hc => ?_) (fun hc => ?_)
    · have h := h.2 hc
      refine lv_iload_n hx hb dX10_act_37 rfl (lv_at hl 2 rfl) ?_
      refine lv_iconst (v := 1) hx hb dX10_act_38 (by decide) ?_
      refine lv_icmp_ne (tgt := 51) hx hb dX10_act_39 (by decide) (fun hc => ?_) (fun hc => ?_)
      · have h := h.2 hc
        refine lv_aload_n hx hb dX10_act_51 rfl (lv_at hl 0 rfl) ?_
        refine lv_iload_n hx hb dX10_act_52 rfl (lv_at hl 1 rfl) ?_
        refine lv_iload_n hx hb dX10_act_53 rfl (lv_at hl 3 rfl) ?_
        refine rw_i (rwV S hE hT hS hP hD hA (c_X10_wearing h) [0, 1, 2, 3] rfl (by decide) lkX10_294 rfl ⟨(Nat.le_of_ble_eq_true rfl), (Nat.le_of_ble_eq_true rfl)⟩ 0 rfl rfl hl.1 rfl (Nat.le_of_ble_eq_true rfl) dX10_act_54 ⟨(Nat.zero_le _), (Nat.zero_le _)⟩) hP hD hS hA [0, 1, 2, 3] rfl (by decide) (fun _ => rfl) (fun r54 u54 H locs h hP hD hS => ?_)
        obtain ⟨w54_0, w54_1⟩ := u54
        try dsimp only at h
        have hP : va_P D vwCl (wX10_act cI cJ cS a_o a_kind a_space a_trace z_refused z_steps z_other z_times z_speed z_base z_share z_notes z_pitch z_beats z_held z_sort z_size z_shown z_cells z_carried z_words z_tell z_was z_kept z_cutSpace z_cutTimes z_cutOff v_stretches v_cars v_tunes v_along v_near v_borne v_tempo v_seed v_fault v_from v_at v_end v_told v_wrongAt v_culprit w54_0 v_isKept f_kind f_space w54_1) H := hP
        have hD : va_D A (wX10_act cI cJ cS a_o a_kind a_space a_trace z_refused z_steps z_other z_times z_speed z_base z_share z_notes z_pitch z_beats z_held z_sort z_size z_shown z_cells z_carried z_words z_tell z_was z_kept z_cutSpace z_cutTimes z_cutOff v_stretches v_cars v_tunes v_along v_near v_borne v_tempo v_seed v_fault v_from v_at v_end v_told v_wrongAt v_culprit w54_0 v_isKept f_kind f_space w54_1) := hD
        exact W.iret hx hb hr (fun t ht _ => ⟨⟨_, (w54_0, w54_1), rfl, h, hPt hP ht⟩, hS.F ht⟩) hS.2.2 dX10_act_57
      have h := h.1 hc
      refine lv_aload_n hx hb dX10_act_42 rfl (lv_at hl 0 rfl) ?_
      refine lv_iload_n hx hb dX10_act_43 rfl (lv_at hl 1 rfl) ?_
      refine lv_iload_n hx hb dX10_act_44 rfl (lv_at hl 3 rfl) ?_
      refine rw_i (rwV S hE hT hS hP hD hA (c_X10_lasting h) [0, 1, 2, 3] rfl (by decide) lkX10_291 rfl ⟨(Nat.le_of_ble_eq_true rfl), (Nat.le_of_ble_eq_true rfl)⟩ 0 rfl rfl hl.1 rfl (Nat.le_of_ble_eq_true rfl) dX10_act_45 ⟨(Nat.zero_le _), (Nat.zero_le _)⟩) hP hD hS hA [0, 1, 2, 3] rfl (by decide) (fun _ => rfl) (fun r45 u45 H locs h hP hD hS => ?_)
      obtain ⟨w45_0, w45_1⟩ := u45
      try dsimp only at h
      have hP : va_P D vwCl (wX10_act cI cJ cS a_o a_kind a_space a_trace z_refused z_steps z_other z_times z_speed z_base z_share z_notes z_pitch z_beats z_held z_sort z_size z_shown z_cells z_carried z_words z_tell z_was z_kept z_cutSpace z_cutTimes z_cutOff v_stretches v_cars v_tunes v_along v_near v_borne v_tempo v_seed v_fault v_from v_at v_end v_told v_wrongAt v_culprit w45_0 v_isKept f_kind f_space w45_1) H := hP
      have hD : va_D A (wX10_act cI cJ cS a_o a_kind a_space a_trace z_refused z_steps z_other z_times z_speed z_base z_share z_notes z_pitch z_beats z_held z_sort z_size z_shown z_cells z_carried z_words z_tell z_was z_kept z_cutSpace z_cutTimes z_cutOff v_stretches v_cars v_tunes v_along v_near v_borne v_tempo v_seed v_fault v_from v_at v_end v_told v_wrongAt v_culprit w45_0 v_isKept f_kind f_space w45_1) := hD
      refine lv_goto (tgt := 57) hx hb dX10_act_48 (by decide) ?_
      exact W.iret hx hb hr (fun t ht _ => ⟨⟨_, (w45_0, w45_1), rfl, h, hPt hP ht⟩, hS.F ht⟩) hS.2.2 dX10_act_57
    have h := h.1 hc
    refine lv_aload_n hx hb dX10_act_28 rfl (lv_at hl 0 rfl) ?_
    refine lv_iload_n hx hb dX10_act_29 rfl (lv_at hl 1 rfl) ?_
    refine lv_iload_n hx hb dX10_act_30 rfl (lv_at hl 3 rfl) ?_
    refine rw_i (rwV S hE hT hS hP hD hA (c_X10_humming h) [0, 1, 2, 3] rfl (by decide) lkX10_288 rfl ⟨(Nat.le_of_ble_eq_true rfl), (Nat.le_of_ble_eq_true rfl)⟩ 0 rfl rfl hl.1 rfl (Nat.le_of_ble_eq_true rfl) dX10_act_31 ⟨(Nat.zero_le _), (Nat.zero_le _)⟩) hP hD hS hA [0, 1, 2, 3] rfl (by decide) (fun _ => rfl) (fun r31 u31 H locs h hP hD hS => ?_)
    obtain ⟨w31_0, w31_1⟩ := u31
    try dsimp only at h
    have hP : va_P D vwCl (wX10_act cI cJ cS a_o a_kind a_space a_trace z_refused z_steps z_other z_times z_speed z_base z_share z_notes z_pitch z_beats z_held z_sort z_size z_shown z_cells z_carried z_words z_tell z_was z_kept z_cutSpace z_cutTimes z_cutOff v_stretches v_cars v_tunes v_along v_near v_borne v_tempo v_seed v_fault v_from v_at v_end v_told v_wrongAt v_culprit w31_0 v_isKept f_kind f_space w31_1) H := hP
    have hD : va_D A (wX10_act cI cJ cS a_o a_kind a_space a_trace z_refused z_steps z_other z_times z_speed z_base z_share z_notes z_pitch z_beats z_held z_sort z_size z_shown z_cells z_carried z_words z_tell z_was z_kept z_cutSpace z_cutTimes z_cutOff v_stretches v_cars v_tunes v_along v_near v_borne v_tempo v_seed v_fault v_from v_at v_end v_told v_wrongAt v_culprit w31_0 v_isKept f_kind f_space w31_1) := hD
    refine lv_goto (tgt := 57) hx hb dX10_act_34 (by decide) ?_
    exact W.iret hx hb hr (fun t ht _ => ⟨⟨_, (w31_0, w31_1), rfl, h, hPt hP ht⟩, hS.F ht⟩) hS.2.2 dX10_act_57
  have h := h.2 hc
  refine lv_iconst (v := 0) hx hb dX10_act_22 (by decide) ?_
  exact W.iret hx hb hr (fun t ht _ => ⟨⟨_, (0, f_trace), rfl, h, hPt hP ht⟩, hS.F ht⟩) hS.2.2 dX10_act_23
/-! X10_trace -/
abbrev wX10_trace (cI cJ cS : ClassId) (a_o a_trace : Nat) (z_refused z_steps z_kind z_space z_other z_times z_speed z_base z_share z_notes z_pitch z_beats z_held z_sort z_size z_shown z_cells z_carried z_words z_tell z_was z_kept z_cutSpace z_cutTimes z_cutOff : Value) (v_stretches : Int32) (v_cars : Int32) (v_tunes : Int32) (v_along : Int32) (v_near : Int32) (v_borne : Int32) (v_tempo : Int32) (v_seed : Int32) (v_fault : Int32) (v_from : Int32) (v_at : Int32) (v_end : Int32) (v_told : Int32) (v_wrongAt : Int32) (v_culprit : Int32) (v_ran : Int32) (v_isKept : Int32) (f_trace : Nat → Int32) : va_W := [(a_o, .inr (9, [.int v_stretches, .int v_cars, .int v_tunes, .int v_along, .int v_near, .int v_borne, .int v_tempo, .int v_seed, .int v_fault, z_refused, z_steps, z_kind, z_space, z_other, z_times, z_speed, z_base, z_share, z_notes, z_pitch, z_beats, z_held, z_sort, z_size, z_shown, z_cells, z_carried, z_words, z_tell, .int v_from, .int v_at, .int v_end, .int v_told, .int v_wrongAt, z_was, z_kept, .int v_culprit, z_cutSpace, z_cutTimes, z_cutOff, .ref a_trace, .int v_ran, .int v_isKept])), (a_trace, .inl (cI, 20, .inl f_trace))]
def F_X10_trace (v_ran : Int32) (f_trace : Nat → Int32) (x1 : Int32) (post : Int32 → Prop) : Prop := ((x1 < 0 → post (-1)) ∧ (¬ x1 < 0 → ((20 ≤ x1 → post (-1)) ∧ (¬ 20 ≤ x1 → ((v_ran ≤ x1 → post (-1)) ∧ (¬ v_ran ≤ x1 → (vp_in x1 20 ∧ post (f_trace x1.toNatClampNeg))))))))
set_option maxHeartbeats 4000000 in
set_option maxRecDepth 100000 in
theorem c_X10_trace {l : Launch} {D : va_G} {cI cJ cS : ClassId} {ad adK : Nat → Nat} {a_o a_trace : Nat} {z_refused z_steps z_kind z_space z_other z_times z_speed z_base z_share z_notes z_pitch z_beats z_held z_sort z_size z_shown z_cells z_carried z_words z_tell z_was z_kept z_cutSpace z_cutTimes z_cutOff : Value} {v_stretches : Int32} {v_cars : Int32} {v_tunes : Int32} {v_along : Int32} {v_near : Int32} {v_borne : Int32} {v_tempo : Int32} {v_seed : Int32} {v_fault : Int32} {v_from : Int32} {v_at : Int32} {v_end : Int32} {v_told : Int32} {v_wrongAt : Int32} {v_culprit : Int32} {v_ran : Int32} {v_isKept : Int32} {f_trace : Nat → Int32} {x1 : Int32} {post : Int32 → Prop} (h : F_X10_trace v_ran f_trace x1 post) : Met l yX10_trace (Cond.code yX10_trace cX10_trace 2 (some (.int)) :: GW) (rmd 0 0 0) (PR D cI cJ cS ad adK [.ref a_o, .int x1] (wX10_trace cI cJ cS a_o a_trace z_refused z_steps z_kind z_space z_other z_times z_speed z_base z_share z_notes z_pitch z_beats z_held z_sort z_size z_shown z_cells z_carried z_words z_tell z_was z_kept z_cutSpace z_cutTimes z_cutOff v_stretches v_cars v_tunes v_along v_near v_borne v_tempo v_seed v_fault v_from v_at v_end v_told v_wrongAt v_culprit v_ran v_isKept f_trace)) (vp_Si post) 0 0 nof := by
  refine Met.ro (by decide) (Nat.le_of_ble_eq_true rfl) (fun p e s m args below meth c ls (S : CallFix p m c cX10_trace 2 s args GW "RoadThatSingsModel") hE hT hP hS hr hlocks hl => ?_)
  have hx := S.1
  have hb := S.2.1
  have hl : lv_has ls 2 [(0, .ref a_o), (1, .int x1)] := hl
  unfold F_X10_trace at h
  refine lv_iload_n hx hb dX10_trace_0 rfl (lv_at hl 1 rfl) ?_
  refine lv_if_lt (tgt := 27) hx hb dX10_trace_1 (by decide) (fun hc => ?_) (fun hc => ?_)
  · have h := h.1 hc
    refine lv_iconst (v := (-1)) hx hb dX10_trace_27 (by decide) ?_
    exact W.iret hx hb hr (fun t ht _ => ⟨_, rfl, h, ht⟩) (fun _ hq => by cases hq) dX10_trace_28
  have h := h.2 hc
  refine lv_iload_n hx hb dX10_trace_4 rfl (lv_at hl 1 rfl) ?_
  refine lv_bipush (v := 20) hx hb dX10_trace_5 (by decide) ?_
  refine lv_icmp_ge (tgt := 27) hx hb dX10_trace_7 (by decide) (fun hc => ?_) (fun hc => ?_)
  · have h := h.1 hc
    refine lv_iconst (v := (-1)) hx hb dX10_trace_27 (by decide) ?_
    exact W.iret hx hb hr (fun t ht _ => ⟨_, rfl, h, ht⟩) (fun _ hq => by cases hq) dX10_trace_28
  have h := h.2 hc
  refine lv_iload_n hx hb dX10_trace_10 rfl (lv_at hl 1 rfl) ?_
  refine lv_aload_n hx hb dX10_trace_11 rfl (lv_at hl 0 rfl) ?_
  refine gf S hE hP 0 rfl rfl inX10 (k := 41) (by decide) q1134 rfl dX10_trace_12 ?_
  refine lv_icmp_ge (tgt := 27) hx hb dX10_trace_15 (by decide) (fun hc => ?_) (fun hc => ?_)
  · have h := h.1 hc
    refine lv_iconst (v := (-1)) hx hb dX10_trace_27 (by decide) ?_
    exact W.iret hx hb hr (fun t ht _ => ⟨_, rfl, h, ht⟩) (fun _ hq => by cases hq) dX10_trace_28
  have h := h.2 hc
  refine lv_aload_n hx hb dX10_trace_18 rfl (lv_at hl 0 rfl) ?_
  refine gf S hE hP 0 rfl rfl inX10 (k := 40) (by decide) q1133 rfl dX10_trace_19 ?_
  refine lv_iload_n hx hb dX10_trace_22 rfl (lv_at hl 1 rfl) ?_
  obtain ⟨hi, h⟩ := h
  refine ial S hE hP 1 rfl hi dX10_trace_23 ?_
  refine lv_goto (tgt := 28) hx hb dX10_trace_24 (by decide) ?_
  exact W.iret hx hb hr (fun t ht _ => ⟨_, rfl, h, ht⟩) (fun _ hq => by cases hq) dX10_trace_28
/-! X10_status -/
abbrev wX10_status (cI cJ cS : ClassId) (a_o a_kind a_other a_refused a_share a_space a_times : Nat) (z_steps z_speed z_base z_notes z_pitch z_beats z_held z_sort z_size z_shown z_cells z_carried z_words z_tell z_was z_kept z_cutSpace z_cutTimes z_cutOff z_trace : Value) (v_stretches : Int32) (v_cars : Int32) (v_tunes : Int32) (v_along : Int32) (v_near : Int32) (v_borne : Int32) (v_tempo : Int32) (v_seed : Int32) (v_fault : Int32) (v_from : Int32) (v_at : Int32) (v_end : Int32) (v_told : Int32) (v_wrongAt : Int32) (v_culprit : Int32) (v_ran : Int32) (v_isKept : Int32) (f_kind : Nat → Int32) (f_other : Nat → Int32) (f_refused : Nat → Int32) (f_share : Nat → Int32) (f_space : Nat → Int32) (f_times : Nat → Int32) : va_W := [(a_o, .inr (9, [.int v_stretches, .int v_cars, .int v_tunes, .int v_along, .int v_near, .int v_borne, .int v_tempo, .int v_seed, .int v_fault, .ref a_refused, z_steps, .ref a_kind, .ref a_space, .ref a_other, .ref a_times, z_speed, z_base, .ref a_share, z_notes, z_pitch, z_beats, z_held, z_sort, z_size, z_shown, z_cells, z_carried, z_words, z_tell, .int v_from, .int v_at, .int v_end, .int v_told, .int v_wrongAt, z_was, z_kept, .int v_culprit, z_cutSpace, z_cutTimes, z_cutOff, z_trace, .int v_ran, .int v_isKept])), (a_kind, .inl (cI, 16, .inl f_kind)), (a_other, .inl (cI, 16, .inl f_other)), (a_refused, .inl (cI, 8, .inl f_refused)), (a_share, .inl (cI, 6, .inl f_share)), (a_space, .inl (cI, 16, .inl f_space)), (a_times, .inl (cI, 16, .inl f_times))]
def L_X10_status_85 (v_stretches : Int32) (f_kind : Nat → Int32) (f_other : Nat → Int32) (f_space : Nat → Int32) (f_times : Nat → Int32) (post : Int32 → Prop) : Nat → Int32 → Int32 → Prop
  | 0, _, _ => False
  | n85 + 1, x2, x3 => ((v_stretches ≤ x3 → post x2) ∧ (¬ v_stretches ≤ x3 → (F_X10_lengthOf f_kind f_other f_space f_times x3 (fun r96 => (∀ x2_100 : Int32, x2_100 = x2 + r96 → (∀ x3_101 : Int32, x3_101 = x3 + 1 → L_X10_status_85 v_stretches f_kind f_other f_space f_times post n85 x2_100 x3_101))))))
def F_X10_status_22 (v_stretches : Int32) (v_cars : Int32) (v_tunes : Int32) (v_seed : Int32) (v_ran : Int32) (f_kind : Nat → Int32) (f_other : Nat → Int32) (f_share : Nat → Int32) (f_space : Nat → Int32) (f_times : Nat → Int32) (post : Int32 → Prop) (x1 : Int32) : Prop := ((x1 = 0 → post v_stretches) ∧ (¬ x1 = 0 → ((x1 = 1 → post v_cars) ∧ (¬ x1 = 1 → ((x1 = 2 → post v_tunes) ∧ (¬ x1 = 2 → ((x1 = 3 → (∃ n85 : Nat, L_X10_status_85 v_stretches f_kind f_other f_space f_times post n85 0 0)) ∧ (¬ x1 = 3 → ((x1 = 4 → (F_X10_shares v_cars f_share (fun r110 => post r110))) ∧ (¬ x1 = 4 → ((x1 = 5 → post v_seed) ∧ (¬ x1 = 5 → ((x1 = 6 → post v_ran) ∧ (¬ x1 = 6 → post (-1)))))))))))))))
def F_X10_status (v_stretches : Int32) (v_cars : Int32) (v_tunes : Int32) (v_seed : Int32) (v_ran : Int32) (f_kind : Nat → Int32) (f_other : Nat → Int32) (f_refused : Nat → Int32) (f_share : Nat → Int32) (f_space : Nat → Int32) (f_times : Nat → Int32) (x1 : Int32) (post : Int32 → Prop) : Prop := ((x1 < 11 → F_X10_status_22 v_stretches v_cars v_tunes v_seed v_ran f_kind f_other f_share f_space f_times post x1) ∧ (¬ x1 < 11 → ((17 < x1 → F_X10_status_22 v_stretches v_cars v_tunes v_seed v_ran f_kind f_other f_share f_space f_times post x1) ∧ (¬ 17 < x1 → (vp_in (x1 - 10) 8 ∧ post (f_refused (x1 - 10).toNatClampNeg))))))
set_option maxHeartbeats 4000000 in
set_option maxRecDepth 100000 in
theorem w_X10_status_85 {l : Launch} {D : va_G} {cI cJ cS : ClassId} {ad adK : Nat → Nat} {a_o a_kind a_other a_refused a_share a_space a_times : Nat} {z_steps z_speed z_base z_notes z_pitch z_beats z_held z_sort z_size z_shown z_cells z_carried z_words z_tell z_was z_kept z_cutSpace z_cutTimes z_cutOff z_trace : Value} {v_stretches : Int32} {v_cars : Int32} {v_tunes : Int32} {v_along : Int32} {v_near : Int32} {v_borne : Int32} {v_tempo : Int32} {v_seed : Int32} {v_fault : Int32} {v_from : Int32} {v_at : Int32} {v_end : Int32} {v_told : Int32} {v_wrongAt : Int32} {v_culprit : Int32} {v_ran : Int32} {v_isKept : Int32} {f_kind : Nat → Int32} {f_other : Nat → Int32} {f_refused : Nat → Int32} {f_share : Nat → Int32} {f_space : Nat → Int32} {f_times : Nat → Int32} {post : Int32 → Prop} {p : Program} {e : Env} {s : State} {m : MethodId} {args : Array Value} {below : List Frame} {meth : Method} {c : Code} (S : CallFix p m c cX10_status 4 s args GW "RoadThatSingsModel") (hE : EN D cI cJ cS s) (hT : ST ad adK nof s s.heap) (hP : va_P D vwCl (wX10_status cI cJ cS a_o a_kind a_other a_refused a_share a_space a_times z_steps z_speed z_base z_notes z_pitch z_beats z_held z_sort z_size z_shown z_cells z_carried z_words z_tell z_was z_kept z_cutSpace z_cutTimes z_cutOff z_trace v_stretches v_cars v_tunes v_along v_near v_borne v_tempo v_seed v_fault v_from v_at v_end v_told v_wrongAt v_culprit v_ran v_isKept f_kind f_other f_refused f_share f_space f_times) s.heap) (hS : va_S nof s.heap s.heap []) (hr : meth.sig.returnType = (some (.int))) (hlocks : meth.locks = false) : ∀ n : Nat, ∀ (x2 : Int32) (x3 : Int32) (ls : Array Slot), L_X10_status_85 v_stretches f_kind f_other f_space f_times post n x2 x3 → lv_has ls 4 [(0, .ref a_o), (2, .int x2), (3, .int x3)] → W p l e (rmd 2 0 0) s m args below meth c s.heap [] 0 0 (MQ below (vp_Si post) args s 0 0 nof) (F0 m 85 ls []) := by
  intro n
  induction n with
  | zero =>
    intro x2 x3 ls h hl
    exact h.elim
  | succ n ih =>
    intro x2 x3 ls h hl
    rw [L_X10_status_85] at h
    have hx := S.1
    have hb := S.2.1
    refine lv_iload_n hx hb dX10_status_85 rfl (lv_at hl 2 rfl) ?_
    refine lv_aload_n hx hb dX10_status_86 rfl (lv_at hl 0 rfl) ?_
    refine gf S hE hP 0 rfl rfl inX10 (k := 0) (by decide) q1093 rfl dX10_status_87 ?_
    refine lv_icmp_ge (tgt := 107) hx hb dX10_status_90 (by decide) (fun hc => ?_) (fun hc => ?_)
    · have h := h.1 hc
      refine lv_iload_n hx hb dX10_status_107 rfl (lv_at hl 1 rfl) ?_
      exact W.iret hx hb hr (fun t ht _ => ⟨_, rfl, h, ht⟩) (fun _ hq => by cases hq) dX10_status_108
    have h := h.2 hc
    refine lv_iload_n hx hb dX10_status_93 rfl (lv_at hl 1 rfl) ?_
    refine lv_aload_n hx hb dX10_status_94 rfl (lv_at hl 0 rfl) ?_
    refine lv_iload_n hx hb dX10_status_95 rfl (lv_at hl 2 rfl) ?_
    refine ro_i (roV S hE hT hS (c_X10_lengthOf h) lkX10_131 rfl ⟨(Nat.le_of_ble_eq_true rfl), (Nat.le_of_ble_eq_true rfl)⟩ (hP.sub [0, 1, 2, 5, 6] rfl) 0 rfl rfl hl.1 rfl (Nat.le_of_ble_eq_true rfl) dX10_status_96 ⟨(Nat.zero_le _), (Nat.zero_le _)⟩) (fun r96 h => ?_)
    refine lv_iadd hx hb dX10_status_99 ?_
    refine lv_topi (fun x2_100 ex2_100 => ?_)
    have h := h _ ex2_100
    refine lv_istore_n (lv' := [(2, .int x2_100), (0, .ref a_o), (3, .int x3)]) hx hb dX10_status_100 rfl hl (by decide) rfl (fun ls hl => ?_)
    obtain ⟨x3_101, ex3_101⟩ : ∃ z : Int32, z = x3 + 1 := ⟨_, rfl⟩
    have h := h _ ex3_101
    refine lv_iinc (v := x3_101) (lv' := [(3, .int x3_101), (2, .int x2_100), (0, .ref a_o)]) hx hb dX10_status_101 hl (k := 2) rfl (by rw [ex3_101]; rfl) (by decide) rfl (fun ls hl => ?_)
    refine lv_goto (tgt := 85) hx hb dX10_status_104 (by decide) ?_
    exact ih _ _ _ h (lv_sub hl [2, 1, 0] rfl)
set_option maxHeartbeats 4000000 in
set_option maxRecDepth 100000 in
theorem w_X10_status_22 {l : Launch} {D : va_G} {cI cJ cS : ClassId} {ad adK : Nat → Nat} {a_o a_kind a_other a_refused a_share a_space a_times : Nat} {z_steps z_speed z_base z_notes z_pitch z_beats z_held z_sort z_size z_shown z_cells z_carried z_words z_tell z_was z_kept z_cutSpace z_cutTimes z_cutOff z_trace : Value} {v_stretches : Int32} {v_cars : Int32} {v_tunes : Int32} {v_along : Int32} {v_near : Int32} {v_borne : Int32} {v_tempo : Int32} {v_seed : Int32} {v_fault : Int32} {v_from : Int32} {v_at : Int32} {v_end : Int32} {v_told : Int32} {v_wrongAt : Int32} {v_culprit : Int32} {v_ran : Int32} {v_isKept : Int32} {f_kind : Nat → Int32} {f_other : Nat → Int32} {f_refused : Nat → Int32} {f_share : Nat → Int32} {f_space : Nat → Int32} {f_times : Nat → Int32} {x1 : Int32} {post : Int32 → Prop} {p : Program} {e : Env} {s : State} {m : MethodId} {args : Array Value} {below : List Frame} {meth : Method} {c : Code} (S : CallFix p m c cX10_status 4 s args GW "RoadThatSingsModel") (hE : EN D cI cJ cS s) (hT : ST ad adK nof s s.heap) (hP : va_P D vwCl (wX10_status cI cJ cS a_o a_kind a_other a_refused a_share a_space a_times z_steps z_speed z_base z_notes z_pitch z_beats z_held z_sort z_size z_shown z_cells z_carried z_words z_tell z_was z_kept z_cutSpace z_cutTimes z_cutOff z_trace v_stretches v_cars v_tunes v_along v_near v_borne v_tempo v_seed v_fault v_from v_at v_end v_told v_wrongAt v_culprit v_ran v_isKept f_kind f_other f_refused f_share f_space f_times) s.heap) (hS : va_S nof s.heap s.heap []) (hr : meth.sig.returnType = (some (.int))) (hlocks : meth.locks = false) : ∀ (ls : Array Slot), F_X10_status_22 v_stretches v_cars v_tunes v_seed v_ran f_kind f_other f_share f_space f_times post x1 → lv_has ls 4 [(0, .ref a_o), (1, .int x1)] → W p l e (rmd 2 0 0) s m args below meth c s.heap [] 0 0 (MQ below (vp_Si post) args s 0 0 nof) (F0 m 22 ls []) := by
  intro  ls h hl
  unfold F_X10_status_22 at h
  have hx := S.1
  have hb := S.2.1
  refine lv_iconst (v := 0) hx hb dX10_status_22 (by decide) ?_
  refine lv_istore_n (lv' := [(2, .int 0), (0, .ref a_o), (1, .int x1)]) hx hb dX10_status_23 rfl hl (by decide) rfl (fun ls hl => ?_)
  refine lv_iload_n hx hb dX10_status_24 rfl (lv_at hl 2 rfl) ?_
  by_cases hk0 : x1 = 0
  · have h := h.1 hk0
    refine lv_tableIn (off := 43) (tgt := 68) hx hb dX10_status_25 (by rw [hk0]; decide) (by rw [hk0]; decide) (by rw [hk0]; rfl) (by decide) ?_
    refine lv_aload_n hx hb dX10_status_68 rfl (lv_at hl 1 rfl) ?_
    refine gf S hE hP 0 rfl rfl inX10 (k := 0) (by decide) q1093 rfl dX10_status_69 ?_
    exact W.iret hx hb hr (fun t ht _ => ⟨_, rfl, h, ht⟩) (fun _ hq => by cases hq) dX10_status_72
  have h := h.2 hk0
  by_cases hk1 : x1 = 1
  · have h := h.1 hk1
    refine lv_tableIn (off := 48) (tgt := 73) hx hb dX10_status_25 (by rw [hk1]; decide) (by rw [hk1]; decide) (by rw [hk1]; rfl) (by decide) ?_
    refine lv_aload_n hx hb dX10_status_73 rfl (lv_at hl 1 rfl) ?_
    refine gf S hE hP 0 rfl rfl inX10 (k := 1) (by decide) q1094 rfl dX10_status_74 ?_
    exact W.iret hx hb hr (fun t ht _ => ⟨_, rfl, h, ht⟩) (fun _ hq => by cases hq) dX10_status_77
  have h := h.2 hk1
  by_cases hk2 : x1 = 2
  · have h := h.1 hk2
    refine lv_tableIn (off := 53) (tgt := 78) hx hb dX10_status_25 (by rw [hk2]; decide) (by rw [hk2]; decide) (by rw [hk2]; rfl) (by decide) ?_
    refine lv_aload_n hx hb dX10_status_78 rfl (lv_at hl 1 rfl) ?_
    refine gf S hE hP 0 rfl rfl inX10 (k := 2) (by decide) q1095 rfl dX10_status_79 ?_
    exact W.iret hx hb hr (fun t ht _ => ⟨_, rfl, h, ht⟩) (fun _ hq => by cases hq) dX10_status_82
  have h := h.2 hk2
  by_cases hk3 : x1 = 3
  · have h := h.1 hk3
    refine lv_tableIn (off := 58) (tgt := 83) hx hb dX10_status_25 (by rw [hk3]; decide) (by rw [hk3]; decide) (by rw [hk3]; rfl) (by decide) ?_
    refine lv_iconst (v := 0) hx hb dX10_status_83 (by decide) ?_
    refine lv_istore_n (lv' := [(3, .int 0), (2, .int 0), (0, .ref a_o), (1, .int x1)]) hx hb dX10_status_84 rfl hl (by decide) rfl (fun ls hl => ?_)
    obtain ⟨n, h⟩ := h
    refine w_X10_status_85 S hE hT hP hS hr hlocks n _ _ _ h (lv_sub hl [2, 1, 0] rfl)
  have h := h.2 hk3
  by_cases hk4 : x1 = 4
  · have h := h.1 hk4
    refine lv_tableIn (off := 84) (tgt := 109) hx hb dX10_status_25 (by rw [hk4]; decide) (by rw [hk4]; decide) (by rw [hk4]; rfl) (by decide) ?_
    refine lv_aload_n hx hb dX10_status_109 rfl (lv_at hl 1 rfl) ?_
    refine ro_i (roV S hE hT hS (c_X10_shares h) lkX10_158 rfl ⟨(Nat.le_of_ble_eq_true rfl), (Nat.le_of_ble_eq_true rfl)⟩ (hP.sub [0, 4] rfl) 0 rfl rfl hl.1 rfl (Nat.le_of_ble_eq_true rfl) dX10_status_110 ⟨(Nat.zero_le _), (Nat.zero_le _)⟩) (fun r110 h => ?_)
    exact W.iret hx hb hr (fun t ht _ => ⟨_, rfl, h, ht⟩) (fun _ hq => by cases hq) dX10_status_113
  have h := h.2 hk4
  by_cases hk5 : x1 = 5
  · have h := h.1 hk5
    refine lv_tableIn (off := 89) (tgt := 114) hx hb dX10_status_25 (by rw [hk5]; decide) (by rw [hk5]; decide) (by rw [hk5]; rfl) (by decide) ?_
    refine lv_aload_n hx hb dX10_status_114 rfl (lv_at hl 1 rfl) ?_
    refine gf S hE hP 0 rfl rfl inX10 (k := 7) (by decide) q1100 rfl dX10_status_115 ?_
    exact W.iret hx hb hr (fun t ht _ => ⟨_, rfl, h, ht⟩) (fun _ hq => by cases hq) dX10_status_118
  have h := h.2 hk5
  by_cases hk6 : x1 = 6
  · have h := h.1 hk6
    refine lv_tableIn (off := 94) (tgt := 119) hx hb dX10_status_25 (by rw [hk6]; decide) (by rw [hk6]; decide) (by rw [hk6]; rfl) (by decide) ?_
    refine lv_aload_n hx hb dX10_status_119 rfl (lv_at hl 1 rfl) ?_
    refine gf S hE hP 0 rfl rfl inX10 (k := 41) (by decide) q1134 rfl dX10_status_120 ?_
    exact W.iret hx hb hr (fun t ht _ => ⟨_, rfl, h, ht⟩) (fun _ hq => by cases hq) dX10_status_123
  have h := h.2 hk6
  refine lv_tableOut (tgt := 124) hx hb dX10_status_25 (sw_out (fun k h1 h2 => by
    rcases (show k = 0 ∨ k = 1 ∨ k = 2 ∨ k = 3 ∨ k = 4 ∨ k = 5 ∨ k = 6 by omega) with rfl | rfl | rfl | rfl | rfl | rfl | rfl
    · exact hk0
    · exact hk1
    · exact hk2
    · exact hk3
    · exact hk4
    · exact hk5
    · exact hk6)) (by decide) ?_
  refine lv_iconst (v := (-1)) hx hb dX10_status_124 (by decide) ?_
  exact W.iret hx hb hr (fun t ht _ => ⟨_, rfl, h, ht⟩) (fun _ hq => by cases hq) dX10_status_125
set_option maxHeartbeats 4000000 in
set_option maxRecDepth 100000 in
theorem c_X10_status {l : Launch} {D : va_G} {cI cJ cS : ClassId} {ad adK : Nat → Nat} {a_o a_kind a_other a_refused a_share a_space a_times : Nat} {z_steps z_speed z_base z_notes z_pitch z_beats z_held z_sort z_size z_shown z_cells z_carried z_words z_tell z_was z_kept z_cutSpace z_cutTimes z_cutOff z_trace : Value} {v_stretches : Int32} {v_cars : Int32} {v_tunes : Int32} {v_along : Int32} {v_near : Int32} {v_borne : Int32} {v_tempo : Int32} {v_seed : Int32} {v_fault : Int32} {v_from : Int32} {v_at : Int32} {v_end : Int32} {v_told : Int32} {v_wrongAt : Int32} {v_culprit : Int32} {v_ran : Int32} {v_isKept : Int32} {f_kind : Nat → Int32} {f_other : Nat → Int32} {f_refused : Nat → Int32} {f_share : Nat → Int32} {f_space : Nat → Int32} {f_times : Nat → Int32} {x1 : Int32} {post : Int32 → Prop} (h : F_X10_status v_stretches v_cars v_tunes v_seed v_ran f_kind f_other f_refused f_share f_space f_times x1 post) : Met l yX10_status (Cond.code yX10_status cX10_status 4 (some (.int)) :: GW) (rmd 2 0 0) (PR D cI cJ cS ad adK [.ref a_o, .int x1] (wX10_status cI cJ cS a_o a_kind a_other a_refused a_share a_space a_times z_steps z_speed z_base z_notes z_pitch z_beats z_held z_sort z_size z_shown z_cells z_carried z_words z_tell z_was z_kept z_cutSpace z_cutTimes z_cutOff z_trace v_stretches v_cars v_tunes v_along v_near v_borne v_tempo v_seed v_fault v_from v_at v_end v_told v_wrongAt v_culprit v_ran v_isKept f_kind f_other f_refused f_share f_space f_times)) (vp_Si post) 0 0 nof := by
  refine Met.ro (by decide) (Nat.le_of_ble_eq_true rfl) (fun p e s m args below meth c ls (S : CallFix p m c cX10_status 4 s args GW "RoadThatSingsModel") hE hT hP hS hr hlocks hl => ?_)
  have hx := S.1
  have hb := S.2.1
  have hl : lv_has ls 4 [(0, .ref a_o), (1, .int x1)] := hl
  unfold F_X10_status at h
  refine lv_iload_n hx hb dX10_status_0 rfl (lv_at hl 1 rfl) ?_
  refine lv_bipush (v := 11) hx hb dX10_status_1 (by decide) ?_
  refine lv_icmp_lt (tgt := 22) hx hb dX10_status_3 (by decide) (fun hc => ?_) (fun hc => ?_)
  · have h := h.1 hc
    refine w_X10_status_22 S hE hT hP hS hr hlocks _ h (lv_sub hl [0, 1] rfl)
  have h := h.2 hc
  refine lv_iload_n hx hb dX10_status_6 rfl (lv_at hl 1 rfl) ?_
  refine lv_bipush (v := 17) hx hb dX10_status_7 (by decide) ?_
  refine lv_icmp_gt (tgt := 22) hx hb dX10_status_9 (by decide) (fun hc => ?_) (fun hc => ?_)
  · have h := h.1 hc
    refine w_X10_status_22 S hE hT hP hS hr hlocks _ h (lv_sub hl [0, 1] rfl)
  have h := h.2 hc
  refine lv_aload_n hx hb dX10_status_12 rfl (lv_at hl 0 rfl) ?_
  refine gf S hE hP 0 rfl rfl inX10 (k := 9) (by decide) q1102 rfl dX10_status_13 ?_
  refine lv_iload_n hx hb dX10_status_16 rfl (lv_at hl 1 rfl) ?_
  refine lv_bipush (v := 10) hx hb dX10_status_17 (by decide) ?_
  refine lv_isub hx hb dX10_status_19 ?_
  obtain ⟨hi, h⟩ := h
  refine ial S hE hP 3 rfl hi dX10_status_20 ?_
  exact W.iret hx hb hr (fun t ht _ => ⟨_, rfl, h, ht⟩) (fun _ hq => by cases hq) dX10_status_21
