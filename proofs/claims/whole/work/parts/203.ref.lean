/-! X10_isDigit -/
abbrev wX10_isDigit (cI cJ cS : ClassId) (a_o a_cells : Nat) (z_refused z_steps z_kind z_space z_other z_times z_speed z_base z_share z_notes z_pitch z_beats z_held z_sort z_size z_shown z_carried z_words z_tell z_was z_kept z_cutSpace z_cutTimes z_cutOff z_trace : Value) (v_stretches : Int32) (v_cars : Int32) (v_tunes : Int32) (v_along : Int32) (v_near : Int32) (v_borne : Int32) (v_tempo : Int32) (v_seed : Int32) (v_fault : Int32) (v_from : Int32) (v_at : Int32) (v_end : Int32) (v_told : Int32) (v_wrongAt : Int32) (v_culprit : Int32) (v_ran : Int32) (v_isKept : Int32) (g_cells : Nat → Int64) : va_W := [(a_o, .inr (9, [.int v_stretches, .int v_cars, .int v_tunes, .int v_along, .int v_near, .int v_borne, .int v_tempo, .int v_seed, .int v_fault, z_refused, z_steps, z_kind, z_space, z_other, z_times, z_speed, z_base, z_share, z_notes, z_pitch, z_beats, z_held, z_sort, z_size, z_shown, .ref a_cells, z_carried, z_words, z_tell, .int v_from, .int v_at, .int v_end, .int v_told, .int v_wrongAt, z_was, z_kept, .int v_culprit, z_cutSpace, z_cutTimes, z_cutOff, z_trace, .int v_ran, .int v_isKept])), (a_cells, .inl (cJ, 1280, .inr (.inl g_cells)))]
def F_X10_isDigit (v_from : Int32) (v_at : Int32) (v_end : Int32) (g_cells : Nat → Int64) (post : Int32 → Prop) : Prop := ((v_end ≤ v_at → post 0) ∧ (¬ v_end ≤ v_at → (vp_in (v_from + v_at) 1280 ∧ ((((g_cells (v_from + v_at).toNatClampNeg).toInt32) < 48 → post 0) ∧ (¬ ((g_cells (v_from + v_at).toNatClampNeg).toInt32) < 48 → (vp_in (v_from + v_at) 1280 ∧ ((57 < ((g_cells (v_from + v_at).toNatClampNeg).toInt32) → post 0) ∧ (¬ 57 < ((g_cells (v_from + v_at).toNatClampNeg).toInt32) → post 1))))))))
set_option maxHeartbeats 4000000 in
set_option maxRecDepth 100000 in
theorem c_X10_isDigit {l : Launch} {D : va_G} {cI cJ cS : ClassId} {ad adK : Nat → Nat} {a_o a_cells : Nat} {z_refused z_steps z_kind z_space z_other z_times z_speed z_base z_share z_notes z_pitch z_beats z_held z_sort z_size z_shown z_carried z_words z_tell z_was z_kept z_cutSpace z_cutTimes z_cutOff z_trace : Value} {v_stretches : Int32} {v_cars : Int32} {v_tunes : Int32} {v_along : Int32} {v_near : Int32} {v_borne : Int32} {v_tempo : Int32} {v_seed : Int32} {v_fault : Int32} {v_from : Int32} {v_at : Int32} {v_end : Int32} {v_told : Int32} {v_wrongAt : Int32} {v_culprit : Int32} {v_ran : Int32} {v_isKept : Int32} {g_cells : Nat → Int64} {post : Int32 → Prop} (h : F_X10_isDigit v_from v_at v_end g_cells post) : Met l yX10_isDigit (Cond.code yX10_isDigit cX10_isDigit 1 (some (.boolean)) :: GW) (rmd 0 0 0) (PR D cI cJ cS ad adK [.ref a_o] (wX10_isDigit cI cJ cS a_o a_cells z_refused z_steps z_kind z_space z_other z_times z_speed z_base z_share z_notes z_pitch z_beats z_held z_sort z_size z_shown z_carried z_words z_tell z_was z_kept z_cutSpace z_cutTimes z_cutOff z_trace v_stretches v_cars v_tunes v_along v_near v_borne v_tempo v_seed v_fault v_from v_at v_end v_told v_wrongAt v_culprit v_ran v_isKept g_cells)) (vp_Si post) 0 0 nof := by
  refine Met.ro (by decide) (Nat.le_of_ble_eq_true rfl) (fun p e s m args below meth c ls (S : CallFix p m c cX10_isDigit 1 s args GW "RoadThatSingsModel") hE hT hP hS hr hlocks hl => ?_)
  have hx := S.1
  have hb := S.2.1
  have hl : lv_has ls 1 [(0, .ref a_o)] := hl
  unfold F_X10_isDigit at h
  refine lv_aload_n hx hb dX10_isDigit_0 rfl (lv_at hl 0 rfl) ?_
  refine gf S hE hP 0 rfl rfl inX10 (k := 30) (by decide) q1123 rfl dX10_isDigit_1 ?_
  refine lv_aload_n hx hb dX10_isDigit_4 rfl (lv_at hl 0 rfl) ?_
  refine gf S hE hP 0 rfl rfl inX10 (k := 31) (by decide) q1124 rfl dX10_isDigit_5 ?_
  refine lv_icmp_ge (tgt := 55) hx hb dX10_isDigit_8 (by decide) (fun hc => ?_) (fun hc => ?_)
  · have h := h.1 hc
    refine lv_iconst (v := 0) hx hb dX10_isDigit_55 (by decide) ?_
    exact W.zret hx hb hr rfl (fun t ht _ => ⟨_, rfl, h, ht⟩) (fun _ hq => by cases hq) dX10_isDigit_56
  have h := h.2 hc
  refine lv_aload_n hx hb dX10_isDigit_11 rfl (lv_at hl 0 rfl) ?_
  refine gf S hE hP 0 rfl rfl inX10 (k := 25) (by decide) q1118 rfl dX10_isDigit_12 ?_
  refine lv_aload_n hx hb dX10_isDigit_15 rfl (lv_at hl 0 rfl) ?_
  refine gf S hE hP 0 rfl rfl inX10 (k := 29) (by decide) q1122 rfl dX10_isDigit_16 ?_
  refine lv_aload_n hx hb dX10_isDigit_19 rfl (lv_at hl 0 rfl) ?_
  refine gf S hE hP 0 rfl rfl inX10 (k := 30) (by decide) q1123 rfl dX10_isDigit_20 ?_
  refine lv_iadd hx hb dX10_isDigit_23 ?_
  obtain ⟨hi, h⟩ := h
  refine lal S hE hP 1 rfl hi dX10_isDigit_24 ?_
  refine lv_l2i hx hb dX10_isDigit_25 rfl ?_
  refine lv_bipush (v := 48) hx hb dX10_isDigit_26 (by decide) ?_
  refine lv_icmp_lt (tgt := 55) hx hb dX10_isDigit_28 (by decide) (fun hc => ?_) (fun hc => ?_)
  · have h := h.1 hc
    refine lv_iconst (v := 0) hx hb dX10_isDigit_55 (by decide) ?_
    exact W.zret hx hb hr rfl (fun t ht _ => ⟨_, rfl, h, ht⟩) (fun _ hq => by cases hq) dX10_isDigit_56
  have h := h.2 hc
  refine lv_aload_n hx hb dX10_isDigit_31 rfl (lv_at hl 0 rfl) ?_
  refine gf S hE hP 0 rfl rfl inX10 (k := 25) (by decide) q1118 rfl dX10_isDigit_32 ?_
  refine lv_aload_n hx hb dX10_isDigit_35 rfl (lv_at hl 0 rfl) ?_
  refine gf S hE hP 0 rfl rfl inX10 (k := 29) (by decide) q1122 rfl dX10_isDigit_36 ?_
  refine lv_aload_n hx hb dX10_isDigit_39 rfl (lv_at hl 0 rfl) ?_
  refine gf S hE hP 0 rfl rfl inX10 (k := 30) (by decide) q1123 rfl dX10_isDigit_40 ?_
  refine lv_iadd hx hb dX10_isDigit_43 ?_
  obtain ⟨hi, h⟩ := h
  refine lal S hE hP 1 rfl hi dX10_isDigit_44 ?_
  refine lv_l2i hx hb dX10_isDigit_45 rfl ?_
  refine lv_bipush (v := 57) hx hb dX10_isDigit_46 (by decide) ?_
  refine lv_icmp_gt (tgt := 55) hx hb dX10_isDigit_48 (by decide) (fun hc => ?_) (fun hc => ?_)
  · have h := h.1 hc
    refine lv_iconst (v := 0) hx hb dX10_isDigit_55 (by decide) ?_
    exact W.zret hx hb hr rfl (fun t ht _ => ⟨_, rfl, h, ht⟩) (fun _ hq => by cases hq) dX10_isDigit_56
  have h := h.2 hc
  refine lv_iconst (v := 1) hx hb dX10_isDigit_51 (by decide) ?_
  refine lv_goto (tgt := 56) hx hb dX10_isDigit_52 (by decide) ?_
  exact W.zret hx hb hr rfl (fun t ht _ => ⟨_, rfl, h, ht⟩) (fun _ hq => by cases hq) dX10_isDigit_56
/-! X10_number -/
abbrev wX10_number (cI cJ cS : ClassId) (a_o a_cells : Nat) (z_refused z_steps z_kind z_space z_other z_times z_speed z_base z_share z_notes z_pitch z_beats z_held z_sort z_size z_shown z_carried z_words z_tell z_was z_kept z_cutSpace z_cutTimes z_cutOff z_trace : Value) (v_stretches : Int32) (v_cars : Int32) (v_tunes : Int32) (v_along : Int32) (v_near : Int32) (v_borne : Int32) (v_tempo : Int32) (v_seed : Int32) (v_fault : Int32) (v_from : Int32) (v_at : Int32) (v_end : Int32) (v_told : Int32) (v_wrongAt : Int32) (v_culprit : Int32) (v_ran : Int32) (v_isKept : Int32) (g_cells : Nat → Int64) : va_W := [(a_o, .inr (9, [.int v_stretches, .int v_cars, .int v_tunes, .int v_along, .int v_near, .int v_borne, .int v_tempo, .int v_seed, .int v_fault, z_refused, z_steps, z_kind, z_space, z_other, z_times, z_speed, z_base, z_share, z_notes, z_pitch, z_beats, z_held, z_sort, z_size, z_shown, .ref a_cells, z_carried, z_words, z_tell, .int v_from, .int v_at, .int v_end, .int v_told, .int v_wrongAt, z_was, z_kept, .int v_culprit, z_cutSpace, z_cutTimes, z_cutOff, z_trace, .int v_ran, .int v_isKept])), (a_cells, .inl (cJ, 1280, .inr (.inl g_cells)))]
def L_X10_number_29 (v_from : Int32) (v_end : Int32) (g_cells : Nat → Int64) (k88 : Int32 → Int32 → Prop) : Nat → Int32 → Int32 → Int32 → Prop
  | 0, _, _, _ => False
  | n29 + 1, x4, v_at, v_told => ((4 ≤ x4 → k88 v_at v_told) ∧ (¬ 4 ≤ x4 → (F_X10_isDigit v_from v_at v_end g_cells (fun r36 => ((r36 = 0 → k88 v_at v_told) ∧ (¬ r36 = 0 → (vp_in (v_from + v_at) 1280 ∧ (∀ x4_82 : Int32, x4_82 = x4 + 1 → L_X10_number_29 v_from v_end g_cells k88 n29 x4_82 (v_at + 1) (((10 * v_told) + ((g_cells (v_from + v_at).toNatClampNeg).toInt32)) - 48)))))))))
def F_X10_number_104 (post : Int32 → Int32 → Int32 → Int32 → Prop) (x3 : Int32) (v_at : Int32) (v_told : Int32) (v_wrongAt : Int32) : Prop := (F_X10_wrong v_wrongAt x3 (fun r106 w106_0 => ((r106 = 0 → post 0 v_at v_told w106_0) ∧ (¬ r106 = 0 → post 1 v_at v_told w106_0))))
def F_X10_number_88 (post : Int32 → Int32 → Int32 → Int32 → Prop) (x1 : Int32) (x2 : Int32) (x3 : Int32) (v_at : Int32) (v_told : Int32) (v_wrongAt : Int32) : Prop := ((v_told < x1 → F_X10_number_104 post x3 v_at v_told v_wrongAt) ∧ (¬ v_told < x1 → ((v_told ≤ x2 → post 1 v_at v_told v_wrongAt) ∧ (¬ v_told ≤ x2 → F_X10_number_104 post x3 v_at v_told v_wrongAt))))
def F_X10_number (v_from : Int32) (v_at : Int32) (v_end : Int32) (v_told : Int32) (v_wrongAt : Int32) (g_cells : Nat → Int64) (x1 : Int32) (x2 : Int32) (post : Int32 → Int32 → Int32 → Int32 → Prop) : Prop := (F_X10_isDigit v_from v_at v_end g_cells (fun r11 => ((r11 = 0 → (F_X10_wrong v_wrongAt v_at (fun r22 w22_0 => (vb r22 ∧ post r22 v_at 0 w22_0)))) ∧ (¬ r11 = 0 → (∃ n29 : Nat, L_X10_number_29 v_from v_end g_cells (fun v_at_1 v_told_2 => F_X10_number_88 post x1 x2 v_at v_at_1 v_told_2 v_wrongAt) n29 0 v_at 0)))))
set_option maxHeartbeats 4000000 in
set_option maxRecDepth 100000 in
theorem w_X10_number_29 {l : Launch} {D : va_G} {cI cJ cS : ClassId} {ad adK : Nat → Nat} {a_o a_cells : Nat} {z_refused z_steps z_kind z_space z_other z_times z_speed z_base z_share z_notes z_pitch z_beats z_held z_sort z_size z_shown z_carried z_words z_tell z_was z_kept z_cutSpace z_cutTimes z_cutOff z_trace : Value} {v_stretches : Int32} {v_cars : Int32} {v_tunes : Int32} {v_along : Int32} {v_near : Int32} {v_borne : Int32} {v_tempo : Int32} {v_seed : Int32} {v_fault : Int32} {v_from : Int32} {v_end : Int32} {v_wrongAt : Int32} {v_culprit : Int32} {v_ran : Int32} {v_isKept : Int32} {g_cells : Nat → Int64} {x1 : Int32} {x2 : Int32} {x3 : Int32} {post : Int32 → Int32 → Int32 → Int32 → Prop} {k88 : Int32 → Int32 → Prop} {p : Program} {e : Env} {s : State} {m : MethodId} {args : Array Value} {below : List Frame} {meth : Method} {c : Code} {A : Nat → Prop} (S : CallFix p m c cX10_number 5 s args GW "RoadThatSingsModel") (hE : EN D cI cJ cS s) (hT : ST ad adK A s s.heap) (hA : ∀ q : Nat, s.heap.size ≤ q → A q) (hr : meth.sig.returnType = (some (.boolean))) (hlocks : meth.locks = false) (hk88 : ∀ (v_at : Int32) (v_told : Int32) (H : Heap) (locs : List Loc) (ls : Array Slot), k88 v_at v_told → va_P D vwCl (wX10_number cI cJ cS a_o a_cells z_refused z_steps z_kind z_space z_other z_times z_speed z_base z_share z_notes z_pitch z_beats z_held z_sort z_size z_shown z_carried z_words z_tell z_was z_kept z_cutSpace z_cutTimes z_cutOff z_trace v_stretches v_cars v_tunes v_along v_near v_borne v_tempo v_seed v_fault v_from v_at v_end v_told v_wrongAt v_culprit v_ran v_isKept g_cells) H → va_D A (wX10_number cI cJ cS a_o a_cells z_refused z_steps z_kind z_space z_other z_times z_speed z_base z_share z_notes z_pitch z_beats z_held z_sort z_size z_shown z_carried z_words z_tell z_was z_kept z_cutSpace z_cutTimes z_cutOff z_trace v_stretches v_cars v_tunes v_along v_near v_borne v_tempo v_seed v_fault v_from v_at v_end v_told v_wrongAt v_culprit v_ran v_isKept g_cells) → va_S A s.heap H locs → lv_has ls 5 [(0, .ref a_o), (1, .int x1), (2, .int x2), (3, .int x3)] → W p l e (rmd 1 0 0) s m args below meth c H locs 0 0 (MQ below (va_Qi (fun r (u : Int32 × Int32 × Int32) => post r u.1 u.2.1 u.2.2) (fun u t => va_P D vwCl (wX10_number cI cJ cS a_o a_cells z_refused z_steps z_kind z_space z_other z_times z_speed z_base z_share z_notes z_pitch z_beats z_held z_sort z_size z_shown z_carried z_words z_tell z_was z_kept z_cutSpace z_cutTimes z_cutOff z_trace v_stretches v_cars v_tunes v_along v_near v_borne v_tempo v_seed v_fault v_from u.1 v_end u.2.1 u.2.2 v_culprit v_ran v_isKept g_cells) t.heap) A) args s 0 0 A) (F0 m 88 ls [])) : ∀ n : Nat, ∀ (x4 : Int32) (v_at : Int32) (v_told : Int32) (H : Heap) (locs : List Loc) (ls : Array Slot), L_X10_number_29 v_from v_end g_cells k88 n x4 v_at v_told → va_P D vwCl (wX10_number cI cJ cS a_o a_cells z_refused z_steps z_kind z_space z_other z_times z_speed z_base z_share z_notes z_pitch z_beats z_held z_sort z_size z_shown z_carried z_words z_tell z_was z_kept z_cutSpace z_cutTimes z_cutOff z_trace v_stretches v_cars v_tunes v_along v_near v_borne v_tempo v_seed v_fault v_from v_at v_end v_told v_wrongAt v_culprit v_ran v_isKept g_cells) H → va_D A (wX10_number cI cJ cS a_o a_cells z_refused z_steps z_kind z_space z_other z_times z_speed z_base z_share z_notes z_pitch z_beats z_held z_sort z_size z_shown z_carried z_words z_tell z_was z_kept z_cutSpace z_cutTimes z_cutOff z_trace v_stretches v_cars v_tunes v_along v_near v_borne v_tempo v_seed v_fault v_from v_at v_end v_told v_wrongAt v_culprit v_ran v_isKept g_cells) → va_S A s.heap H locs → lv_has ls 5 [(0, .ref a_o), (1, .int x1), (2, .int x2), (3, .int x3), (4, .int x4)] → W p l e (rmd 1 0 0) s m args below meth c H locs 0 0 (MQ below (va_Qi (fun r (u : Int32 × Int32 × Int32) => post r u.1 u.2.1 u.2.2) (fun u t => va_P D vwCl (wX10_number cI cJ cS a_o a_cells z_refused z_steps z_kind z_space z_other z_times z_speed z_base z_share z_notes z_pitch z_beats z_held z_sort z_size z_shown z_carried z_words z_tell z_was z_kept z_cutSpace z_cutTimes z_cutOff z_trace v_stretches v_cars v_tunes v_along v_near v_borne v_tempo v_seed v_fault v_from u.1 v_end u.2.1 u.2.2 v_culprit v_ran v_isKept g_cells) t.heap) A) args s 0 0 A) (F0 m 29 ls []) := by
  intro n
  induction n with
  | zero =>
    intro x4 v_at v_told H locs ls h hP hD hS hl
    exact h.elim
  | succ n ih =>
    intro x4 v_at v_told H locs ls h hP hD hS hl
    rw [L_X10_number_29] at h
    have hx := S.1
    have hb := S.2.1
    refine lv_iload hx hb dX10_number_29 (lv_at hl 4 rfl) ?_
    refine lv_iconst (v := 4) hx hb dX10_number_31 (by decide) ?_
    refine lv_icmp_ge (tgt := 88) hx hb dX10_number_32 (by decide) (fun hc => ?_) (fun hc => ?_)
    · have h := h.1 hc
      exact hk88 _ _ _ _ _ h hP hD hS (lv_sub hl [0, 1, 2, 3] rfl)
    have h := h.2 hc
    refine lv_aload_n hx hb dX10_number_35 rfl (lv_at hl 0 rfl) ?_
    refine ro_i (roV S hE hT hS (c_X10_isDigit h) lkX10_189 rfl ⟨(Nat.le_of_ble_eq_true rfl), (Nat.le_of_ble_eq_true rfl)⟩ (hP.sub [0, 1] rfl) 0 rfl rfl hl.1 rfl (Nat.le_of_ble_eq_true rfl) dX10_number_36 ⟨(Nat.zero_le _), (Nat.zero_le _)⟩) (fun r36 h => ?_)
    refine lv_if_eq (tgt := 88) hx hb dX10_number_39 (by decide) (fun hc => ?_) (fun hc => ?_)
    · have h := h.1 hc
      exact hk88 _ _ _ _ _ h hP hD hS (lv_sub hl [0, 1, 2, 3] rfl)
    have h := h.2 hc
    refine lv_aload_n hx hb dX10_number_42 rfl (lv_at hl 0 rfl) ?_
    refine lv_bipush (v := 10) hx hb dX10_number_43 (by decide) ?_
    refine lv_aload_n hx hb dX10_number_45 rfl (lv_at hl 0 rfl) ?_
    refine gf S hE hP 0 rfl rfl inX10 (k := 32) (by decide) q1125 rfl dX10_number_46 ?_
    refine lv_imul hx hb dX10_number_49 ?_
    refine lv_aload_n hx hb dX10_number_50 rfl (lv_at hl 0 rfl) ?_
    refine gf S hE hP 0 rfl rfl inX10 (k := 25) (by decide) q1118 rfl dX10_number_51 ?_
    refine lv_aload_n hx hb dX10_number_54 rfl (lv_at hl 0 rfl) ?_
    refine gf S hE hP 0 rfl rfl inX10 (k := 29) (by decide) q1122 rfl dX10_number_55 ?_
    refine lv_aload_n hx hb dX10_number_58 rfl (lv_at hl 0 rfl) ?_
    refine gf S hE hP 0 rfl rfl inX10 (k := 30) (by decide) q1123 rfl dX10_number_59 ?_
    refine lv_iadd hx hb dX10_number_62 ?_
    obtain ⟨hi, h⟩ := h
    refine lal S hE hP 1 rfl hi dX10_number_63 ?_
    refine lv_l2i hx hb dX10_number_64 rfl ?_
    refine lv_iadd hx hb dX10_number_65 ?_
    refine lv_bipush (v := 48) hx hb dX10_number_66 (by decide) ?_
    refine lv_isub hx hb dX10_number_68 ?_
    refine pf S hE hP hD hS 0 (k := 32) rfl rfl inX10 tyX10_ok nmX10 (by decide) q1125 rfl rfl rfl (Nat.le_of_ble_eq_true rfl) dX10_number_69 (fun H locs hP hD hS => ?_)
    have hP : va_P D vwCl (wX10_number cI cJ cS a_o a_cells z_refused z_steps z_kind z_space z_other z_times z_speed z_base z_share z_notes z_pitch z_beats z_held z_sort z_size z_shown z_carried z_words z_tell z_was z_kept z_cutSpace z_cutTimes z_cutOff z_trace v_stretches v_cars v_tunes v_along v_near v_borne v_tempo v_seed v_fault v_from v_at v_end (((10 * v_told) + ((g_cells (v_from + v_at).toNatClampNeg).toInt32)) - 48) v_wrongAt v_culprit v_ran v_isKept g_cells) H := hP
    have hD : va_D A (wX10_number cI cJ cS a_o a_cells z_refused z_steps z_kind z_space z_other z_times z_speed z_base z_share z_notes z_pitch z_beats z_held z_sort z_size z_shown z_carried z_words z_tell z_was z_kept z_cutSpace z_cutTimes z_cutOff z_trace v_stretches v_cars v_tunes v_along v_near v_borne v_tempo v_seed v_fault v_from v_at v_end (((10 * v_told) + ((g_cells (v_from + v_at).toNatClampNeg).toInt32)) - 48) v_wrongAt v_culprit v_ran v_isKept g_cells) := hD
    refine lv_aload_n hx hb dX10_number_72 rfl (lv_at hl 0 rfl) ?_
    refine lv_dup hx hb dX10_number_73 rfl ?_
    refine gf S hE hP 0 rfl rfl inX10 (k := 30) (by decide) q1123 rfl dX10_number_74 ?_
    refine lv_iconst (v := 1) hx hb dX10_number_77 (by decide) ?_
    refine lv_iadd hx hb dX10_number_78 ?_
    refine pf S hE hP hD hS 0 (k := 30) rfl rfl inX10 tyX10_ok nmX10 (by decide) q1123 rfl rfl rfl (Nat.le_of_ble_eq_true rfl) dX10_number_79 (fun H locs hP hD hS => ?_)
    have hP : va_P D vwCl (wX10_number cI cJ cS a_o a_cells z_refused z_steps z_kind z_space z_other z_times z_speed z_base z_share z_notes z_pitch z_beats z_held z_sort z_size z_shown z_carried z_words z_tell z_was z_kept z_cutSpace z_cutTimes z_cutOff z_trace v_stretches v_cars v_tunes v_along v_near v_borne v_tempo v_seed v_fault v_from (v_at + 1) v_end (((10 * v_told) + ((g_cells (v_from + v_at).toNatClampNeg).toInt32)) - 48) v_wrongAt v_culprit v_ran v_isKept g_cells) H := hP
    have hD : va_D A (wX10_number cI cJ cS a_o a_cells z_refused z_steps z_kind z_space z_other z_times z_speed z_base z_share z_notes z_pitch z_beats z_held z_sort z_size z_shown z_carried z_words z_tell z_was z_kept z_cutSpace z_cutTimes z_cutOff z_trace v_stretches v_cars v_tunes v_along v_near v_borne v_tempo v_seed v_fault v_from (v_at + 1) v_end (((10 * v_told) + ((g_cells (v_from + v_at).toNatClampNeg).toInt32)) - 48) v_wrongAt v_culprit v_ran v_isKept g_cells) := hD
    obtain ⟨x4_82, ex4_82⟩ : ∃ z : Int32, z = x4 + 1 := ⟨_, rfl⟩
    have h := h _ ex4_82
    refine lv_iinc (v := x4_82) (lv' := [(4, .int x4_82), (0, .ref a_o), (1, .int x1), (2, .int x2), (3, .int x3)]) hx hb dX10_number_82 hl (k := 4) rfl (by rw [ex4_82]; rfl) (by decide) rfl (fun ls hl => ?_)
    refine lv_goto (tgt := 29) hx hb dX10_number_85 (by decide) ?_
    exact ih _ _ _ _ _ _ h hP hD hS (lv_sub hl [1, 2, 3, 4, 0] rfl)
set_option maxHeartbeats 4000000 in
set_option maxRecDepth 100000 in
theorem w_X10_number_104 {l : Launch} {D : va_G} {cI cJ cS : ClassId} {ad adK : Nat → Nat} {a_o a_cells : Nat} {z_refused z_steps z_kind z_space z_other z_times z_speed z_base z_share z_notes z_pitch z_beats z_held z_sort z_size z_shown z_carried z_words z_tell z_was z_kept z_cutSpace z_cutTimes z_cutOff z_trace : Value} {v_stretches : Int32} {v_cars : Int32} {v_tunes : Int32} {v_along : Int32} {v_near : Int32} {v_borne : Int32} {v_tempo : Int32} {v_seed : Int32} {v_fault : Int32} {v_from : Int32} {v_at : Int32} {v_end : Int32} {v_told : Int32} {v_wrongAt : Int32} {v_culprit : Int32} {v_ran : Int32} {v_isKept : Int32} {g_cells : Nat → Int64} {x3 : Int32} {post : Int32 → Int32 → Int32 → Int32 → Prop} {p : Program} {e : Env} {s : State} {m : MethodId} {args : Array Value} {below : List Frame} {meth : Method} {c : Code} {A : Nat → Prop} (S : CallFix p m c cX10_number 5 s args GW "RoadThatSingsModel") (hE : EN D cI cJ cS s) (hT : ST ad adK A s s.heap) (hA : ∀ q : Nat, s.heap.size ≤ q → A q) (hr : meth.sig.returnType = (some (.boolean))) (hlocks : meth.locks = false) : ∀ (H : Heap) (locs : List Loc) (ls : Array Slot), F_X10_number_104 post x3 v_at v_told v_wrongAt → va_P D vwCl (wX10_number cI cJ cS a_o a_cells z_refused z_steps z_kind z_space z_other z_times z_speed z_base z_share z_notes z_pitch z_beats z_held z_sort z_size z_shown z_carried z_words z_tell z_was z_kept z_cutSpace z_cutTimes z_cutOff z_trace v_stretches v_cars v_tunes v_along v_near v_borne v_tempo v_seed v_fault v_from v_at v_end v_told v_wrongAt v_culprit v_ran v_isKept g_cells) H → va_D A (wX10_number cI cJ cS a_o a_cells z_refused z_steps z_kind z_space z_other z_times z_speed z_base z_share z_notes z_pitch z_beats z_held z_sort z_size z_shown z_carried z_words z_tell z_was z_kept z_cutSpace z_cutTimes z_cutOff z_trace v_stretches v_cars v_tunes v_along v_near v_borne v_tempo v_seed v_fault v_from v_at v_end v_told v_wrongAt v_culprit v_ran v_isKept g_cells) → va_S A s.heap H locs → lv_has ls 5 [(0, .ref a_o), (3, .int x3)] → W p l e (rmd 1 0 0) s m args below meth c H locs 0 0 (MQ below (va_Qi (fun r (u : Int32 × Int32 × Int32) => post r u.1 u.2.1 u.2.2) (fun u t => va_P D vwCl (wX10_number cI cJ cS a_o a_cells z_refused z_steps z_kind z_space z_other z_times z_speed z_base z_share z_notes z_pitch z_beats z_held z_sort z_size z_shown z_carried z_words z_tell z_was z_kept z_cutSpace z_cutTimes z_cutOff z_trace v_stretches v_cars v_tunes v_along v_near v_borne v_tempo v_seed v_fault v_from u.1 v_end u.2.1 u.2.2 v_culprit v_ran v_isKept g_cells) t.heap) A) args s 0 0 A) (F0 m 104 ls []) := by
  intro  H locs ls h hP hD hS hl
  unfold F_X10_number_104 at h
  have hx := S.1
  have hb := S.2.1
  refine lv_aload_n hx hb dX10_number_104 rfl (lv_at hl 0 rfl) ?_
  refine lv_iload_n hx hb dX10_number_105 rfl (lv_at hl 1 rfl) ?_
  refine rw_i (rwV S hE hT hS hP hD hA (c_X10_wrong h) [0] rfl (by decide +kernel) lkX10_193 rfl ⟨(Nat.le_of_ble_eq_true rfl), (Nat.le_of_ble_eq_true rfl)⟩ 0 rfl rfl hl.1 rfl (Nat.le_of_ble_eq_true rfl) dX10_number_106 ⟨(Nat.zero_le _), (Nat.zero_le _)⟩) hP hD hS hA [0] rfl (by decide +kernel) (fun _ => rfl) (fun r106 w106_0 H locs h hP hD hS => ?_)
  try dsimp only at h
  have hP : va_P D vwCl (wX10_number cI cJ cS a_o a_cells z_refused z_steps z_kind z_space z_other z_times z_speed z_base z_share z_notes z_pitch z_beats z_held z_sort z_size z_shown z_carried z_words z_tell z_was z_kept z_cutSpace z_cutTimes z_cutOff z_trace v_stretches v_cars v_tunes v_along v_near v_borne v_tempo v_seed v_fault v_from v_at v_end v_told w106_0 v_culprit v_ran v_isKept g_cells) H := hP
  have hD : va_D A (wX10_number cI cJ cS a_o a_cells z_refused z_steps z_kind z_space z_other z_times z_speed z_base z_share z_notes z_pitch z_beats z_held z_sort z_size z_shown z_carried z_words z_tell z_was z_kept z_cutSpace z_cutTimes z_cutOff z_trace v_stretches v_cars v_tunes v_along v_near v_borne v_tempo v_seed v_fault v_from v_at v_end v_told w106_0 v_culprit v_ran v_isKept g_cells) := hD
  refine lv_if_eq (tgt := 116) hx hb dX10_number_109 (by decide) (fun hc => ?_) (fun hc => ?_)
  · have h := h.1 hc
    refine lv_iconst (v := 0) hx hb dX10_number_116 (by decide) ?_
    exact W.zret hx hb hr rfl (fun t ht _ => ⟨⟨_, (v_at, v_told, w106_0), rfl, h, hPt hP ht⟩, hS.F ht⟩) hS.2.2 dX10_number_117
  have h := h.2 hc
  refine lv_iconst (v := 1) hx hb dX10_number_112 (by decide) ?_
  refine lv_goto (tgt := 117) hx hb dX10_number_113 (by decide) ?_
  exact W.zret hx hb hr rfl (fun t ht _ => ⟨⟨_, (v_at, v_told, w106_0), rfl, h, hPt hP ht⟩, hS.F ht⟩) hS.2.2 dX10_number_117
set_option maxHeartbeats 4000000 in
set_option maxRecDepth 100000 in
theorem w_X10_number_88 {l : Launch} {D : va_G} {cI cJ cS : ClassId} {ad adK : Nat → Nat} {a_o a_cells : Nat} {z_refused z_steps z_kind z_space z_other z_times z_speed z_base z_share z_notes z_pitch z_beats z_held z_sort z_size z_shown z_carried z_words z_tell z_was z_kept z_cutSpace z_cutTimes z_cutOff z_trace : Value} {v_stretches : Int32} {v_cars : Int32} {v_tunes : Int32} {v_along : Int32} {v_near : Int32} {v_borne : Int32} {v_tempo : Int32} {v_seed : Int32} {v_fault : Int32} {v_from : Int32} {v_at : Int32} {v_end : Int32} {v_told : Int32} {v_wrongAt : Int32} {v_culprit : Int32} {v_ran : Int32} {v_isKept : Int32} {g_cells : Nat → Int64} {x1 : Int32} {x2 : Int32} {x3 : Int32} {post : Int32 → Int32 → Int32 → Int32 → Prop} {p : Program} {e : Env} {s : State} {m : MethodId} {args : Array Value} {below : List Frame} {meth : Method} {c : Code} {A : Nat → Prop} (S : CallFix p m c cX10_number 5 s args GW "RoadThatSingsModel") (hE : EN D cI cJ cS s) (hT : ST ad adK A s s.heap) (hA : ∀ q : Nat, s.heap.size ≤ q → A q) (hr : meth.sig.returnType = (some (.boolean))) (hlocks : meth.locks = false) : ∀ (H : Heap) (locs : List Loc) (ls : Array Slot), F_X10_number_88 post x1 x2 x3 v_at v_told v_wrongAt → va_P D vwCl (wX10_number cI cJ cS a_o a_cells z_refused z_steps z_kind z_space z_other z_times z_speed z_base z_share z_notes z_pitch z_beats z_held z_sort z_size z_shown z_carried z_words z_tell z_was z_kept z_cutSpace z_cutTimes z_cutOff z_trace v_stretches v_cars v_tunes v_along v_near v_borne v_tempo v_seed v_fault v_from v_at v_end v_told v_wrongAt v_culprit v_ran v_isKept g_cells) H → va_D A (wX10_number cI cJ cS a_o a_cells z_refused z_steps z_kind z_space z_other z_times z_speed z_base z_share z_notes z_pitch z_beats z_held z_sort z_size z_shown z_carried z_words z_tell z_was z_kept z_cutSpace z_cutTimes z_cutOff z_trace v_stretches v_cars v_tunes v_along v_near v_borne v_tempo v_seed v_fault v_from v_at v_end v_told v_wrongAt v_culprit v_ran v_isKept g_cells) → va_S A s.heap H locs → lv_has ls 5 [(0, .ref a_o), (1, .int x1), (2, .int x2), (3, .int x3)] → W p l e (rmd 1 0 0) s m args below meth c H locs 0 0 (MQ below (va_Qi (fun r (u : Int32 × Int32 × Int32) => post r u.1 u.2.1 u.2.2) (fun u t => va_P D vwCl (wX10_number cI cJ cS a_o a_cells z_refused z_steps z_kind z_space z_other z_times z_speed z_base z_share z_notes z_pitch z_beats z_held z_sort z_size z_shown z_carried z_words z_tell z_was z_kept z_cutSpace z_cutTimes z_cutOff z_trace v_stretches v_cars v_tunes v_along v_near v_borne v_tempo v_seed v_fault v_from u.1 v_end u.2.1 u.2.2 v_culprit v_ran v_isKept g_cells) t.heap) A) args s 0 0 A) (F0 m 88 ls []) := by
  intro  H locs ls h hP hD hS hl
  unfold F_X10_number_88 at h
  have hx := S.1
  have hb := S.2.1
  refine lv_aload_n hx hb dX10_number_88 rfl (lv_at hl 0 rfl) ?_
  refine gf S hE hP 0 rfl rfl inX10 (k := 32) (by decide) q1125 rfl dX10_number_89 ?_
  refine lv_iload_n hx hb dX10_number_92 rfl (lv_at hl 1 rfl) ?_
  refine lv_icmp_lt (tgt := 104) hx hb dX10_number_93 (by decide) (fun hc => ?_) (fun hc => ?_)
  · have h := h.1 hc
    refine w_X10_number_104 S hE hT hA hr hlocks _ _ _ h hP hD hS (lv_sub hl [0, 3] rfl)
  have h := h.2 hc
  refine lv_aload_n hx hb dX10_number_96 rfl (lv_at hl 0 rfl) ?_
  refine gf S hE hP 0 rfl rfl inX10 (k := 32) (by decide) q1125 rfl dX10_number_97 ?_
  refine lv_iload_n hx hb dX10_number_100 rfl (lv_at hl 2 rfl) ?_
  refine lv_icmp_le (tgt := 112) hx hb dX10_number_101 (by decide) (fun hc => ?_) (fun hc => ?_)
  · have h := h.1 hc
    refine lv_iconst (v := 1) hx hb dX10_number_112 (by decide) ?_
    refine lv_goto (tgt := 117) hx hb dX10_number_113 (by decide) ?_
    exact W.zret hx hb hr rfl (fun t ht _ => ⟨⟨_, (v_at, v_told, v_wrongAt), rfl, h, hPt hP ht⟩, hS.F ht⟩) hS.2.2 dX10_number_117
  have h := h.2 hc
  refine w_X10_number_104 S hE hT hA hr hlocks _ _ _ h hP hD hS (lv_sub hl [0, 3] rfl)
set_option maxHeartbeats 4000000 in
set_option maxRecDepth 100000 in
theorem c_X10_number {l : Launch} {D : va_G} {cI cJ cS : ClassId} {ad adK : Nat → Nat} {a_o a_cells : Nat} {z_refused z_steps z_kind z_space z_other z_times z_speed z_base z_share z_notes z_pitch z_beats z_held z_sort z_size z_shown z_carried z_words z_tell z_was z_kept z_cutSpace z_cutTimes z_cutOff z_trace : Value} {v_stretches : Int32} {v_cars : Int32} {v_tunes : Int32} {v_along : Int32} {v_near : Int32} {v_borne : Int32} {v_tempo : Int32} {v_seed : Int32} {v_fault : Int32} {v_from : Int32} {v_at : Int32} {v_end : Int32} {v_told : Int32} {v_wrongAt : Int32} {v_culprit : Int32} {v_ran : Int32} {v_isKept : Int32} {g_cells : Nat → Int64} {x1 : Int32} {x2 : Int32} {post : Int32 → Int32 → Int32 → Int32 → Prop} (h : F_X10_number v_from v_at v_end v_told v_wrongAt g_cells x1 x2 post) {sz : Nat} : Met l yX10_number (Cond.code yX10_number cX10_number 5 (some (.boolean)) :: GW) (rmd 1 0 0) (PW D cI cJ cS ad adK [.ref a_o, .int x1, .int x2] (wX10_number cI cJ cS a_o a_cells z_refused z_steps z_kind z_space z_other z_times z_speed z_base z_share z_notes z_pitch z_beats z_held z_sort z_size z_shown z_carried z_words z_tell z_was z_kept z_cutSpace z_cutTimes z_cutOff z_trace v_stretches v_cars v_tunes v_along v_near v_borne v_tempo v_seed v_fault v_from v_at v_end v_told v_wrongAt v_culprit v_ran v_isKept g_cells) sz) (va_Qi (fun r (u : Int32 × Int32 × Int32) => post r u.1 u.2.1 u.2.2) (fun u t => va_P D vwCl (wX10_number cI cJ cS a_o a_cells z_refused z_steps z_kind z_space z_other z_times z_speed z_base z_share z_notes z_pitch z_beats z_held z_sort z_size z_shown z_carried z_words z_tell z_was z_kept z_cutSpace z_cutTimes z_cutOff z_trace v_stretches v_cars v_tunes v_along v_near v_borne v_tempo v_seed v_fault v_from u.1 v_end u.2.1 u.2.2 v_culprit v_ran v_isKept g_cells) t.heap) (va_A (wX10_number cI cJ cS a_o a_cells z_refused z_steps z_kind z_space z_other z_times z_speed z_base z_share z_notes z_pitch z_beats z_held z_sort z_size z_shown z_carried z_words z_tell z_was z_kept z_cutSpace z_cutTimes z_cutOff z_trace v_stretches v_cars v_tunes v_along v_near v_borne v_tempo v_seed v_fault v_from v_at v_end v_told v_wrongAt v_culprit v_ran v_isKept g_cells) sz)) 0 0 (va_A (wX10_number cI cJ cS a_o a_cells z_refused z_steps z_kind z_space z_other z_times z_speed z_base z_share z_notes z_pitch z_beats z_held z_sort z_size z_shown z_carried z_words z_tell z_was z_kept z_cutSpace z_cutTimes z_cutOff z_trace v_stretches v_cars v_tunes v_along v_near v_borne v_tempo v_seed v_fault v_from v_at v_end v_told v_wrongAt v_culprit v_ran v_isKept g_cells) sz) := by
  refine Met.rw (Qc := fun A => (va_Qi (fun r (u : Int32 × Int32 × Int32) => post r u.1 u.2.1 u.2.2) (fun u t => va_P D vwCl (wX10_number cI cJ cS a_o a_cells z_refused z_steps z_kind z_space z_other z_times z_speed z_base z_share z_notes z_pitch z_beats z_held z_sort z_size z_shown z_carried z_words z_tell z_was z_kept z_cutSpace z_cutTimes z_cutOff z_trace v_stretches v_cars v_tunes v_along v_near v_borne v_tempo v_seed v_fault v_from u.1 v_end u.2.1 u.2.2 v_culprit v_ran v_isKept g_cells) t.heap) A)) (by decide) (Nat.le_of_ble_eq_true rfl) (fun p e s m args below meth c ls A (S : CallFix p m c cX10_number 5 s args GW "RoadThatSingsModel") hE hT hP hD hA hS hr hlocks hname hl => ?_)
  have hS0 := hS
  have hx := S.1
  have hb := S.2.1
  have hl : lv_has ls 5 [(0, .ref a_o), (1, .int x1), (2, .int x2)] := hl
  unfold F_X10_number at h
  refine lv_aload_n hx hb dX10_number_0 rfl (lv_at hl 0 rfl) ?_
  refine gf S hE hP 0 rfl rfl inX10 (k := 30) (by decide) q1123 rfl dX10_number_1 ?_
  refine lv_istore_n (lv' := [(3, .int v_at), (0, .ref a_o), (1, .int x1), (2, .int x2)]) hx hb dX10_number_4 rfl hl (by decide) rfl (fun ls hl => ?_)
  refine lv_aload_n hx hb dX10_number_5 rfl (lv_at hl 1 rfl) ?_
  refine lv_iconst (v := 0) hx hb dX10_number_6 (by decide) ?_
  refine pf S hE hP hD hS 0 (k := 32) rfl rfl inX10 tyX10_ok nmX10 (by decide) q1125 rfl rfl rfl (Nat.le_of_ble_eq_true rfl) dX10_number_7 (fun H locs hP hD hS => ?_)
  have hP : va_P D vwCl (wX10_number cI cJ cS a_o a_cells z_refused z_steps z_kind z_space z_other z_times z_speed z_base z_share z_notes z_pitch z_beats z_held z_sort z_size z_shown z_carried z_words z_tell z_was z_kept z_cutSpace z_cutTimes z_cutOff z_trace v_stretches v_cars v_tunes v_along v_near v_borne v_tempo v_seed v_fault v_from v_at v_end 0 v_wrongAt v_culprit v_ran v_isKept g_cells) H := hP
  have hD : va_D A (wX10_number cI cJ cS a_o a_cells z_refused z_steps z_kind z_space z_other z_times z_speed z_base z_share z_notes z_pitch z_beats z_held z_sort z_size z_shown z_carried z_words z_tell z_was z_kept z_cutSpace z_cutTimes z_cutOff z_trace v_stretches v_cars v_tunes v_along v_near v_borne v_tempo v_seed v_fault v_from v_at v_end 0 v_wrongAt v_culprit v_ran v_isKept g_cells) := hD
  refine lv_aload_n hx hb dX10_number_10 rfl (lv_at hl 1 rfl) ?_
  refine ro_i (roV S hE hT hS (c_X10_isDigit h) lkX10_189 rfl ⟨(Nat.le_of_ble_eq_true rfl), (Nat.le_of_ble_eq_true rfl)⟩ (hP.sub [0, 1] rfl) 0 rfl rfl hl.1 rfl (Nat.le_of_ble_eq_true rfl) dX10_number_11 ⟨(Nat.zero_le _), (Nat.zero_le _)⟩) (fun r11 h => ?_)
  refine lv_if_ne (tgt := 26) hx hb dX10_number_14 (by decide) (fun hc => ?_) (fun hc => ?_)
  · have h := h.2 hc
    refine lv_iconst (v := 0) hx hb dX10_number_26 (by decide) ?_
    refine lv_istore (lv' := [(4, .int 0), (3, .int v_at), (0, .ref a_o), (1, .int x1), (2, .int x2)]) hx hb dX10_number_27 hl (by decide) rfl (fun ls hl => ?_)
    obtain ⟨n, h⟩ := h
    refine w_X10_number_29 S hE hT hA hr hlocks (fun v_at_1 v_told_2 H locs ls h hP hD hS hl => ?_) n _ _ _ _ _ _ h hP hD hS (lv_sub hl [2, 3, 4, 1, 0] rfl)
    refine w_X10_number_88 S hE hT hA hr hlocks _ _ _ h hP hD hS (lv_sub hl [0, 1, 2, 3] rfl)
  have h := h.1 hc
  refine lv_aload_n hx hb dX10_number_17 rfl (lv_at hl 1 rfl) ?_
  refine lv_aload_n hx hb dX10_number_18 rfl (lv_at hl 1 rfl) ?_
  refine gf S hE hP 0 rfl rfl inX10 (k := 30) (by decide) q1123 rfl dX10_number_19 ?_
  refine rw_i (rwV S hE hT hS hP hD hA (c_X10_wrong h) [0] rfl (by decide +kernel) lkX10_193 rfl ⟨(Nat.le_of_ble_eq_true rfl), (Nat.le_of_ble_eq_true rfl)⟩ 0 rfl rfl hl.1 rfl (Nat.le_of_ble_eq_true rfl) dX10_number_22 ⟨(Nat.zero_le _), (Nat.zero_le _)⟩) hP hD hS hA [0] rfl (by decide +kernel) (fun _ => rfl) (fun r22 w22_0 H locs h hP hD hS => ?_)
  try dsimp only at h
  have hP : va_P D vwCl (wX10_number cI cJ cS a_o a_cells z_refused z_steps z_kind z_space z_other z_times z_speed z_base z_share z_notes z_pitch z_beats z_held z_sort z_size z_shown z_carried z_words z_tell z_was z_kept z_cutSpace z_cutTimes z_cutOff z_trace v_stretches v_cars v_tunes v_along v_near v_borne v_tempo v_seed v_fault v_from v_at v_end 0 w22_0 v_culprit v_ran v_isKept g_cells) H := hP
  have hD : va_D A (wX10_number cI cJ cS a_o a_cells z_refused z_steps z_kind z_space z_other z_times z_speed z_base z_share z_notes z_pitch z_beats z_held z_sort z_size z_shown z_carried z_words z_tell z_was z_kept z_cutSpace z_cutTimes z_cutOff z_trace v_stretches v_cars v_tunes v_along v_near v_borne v_tempo v_seed v_fault v_from v_at v_end 0 w22_0 v_culprit v_ran v_isKept g_cells) := hD
  exact W.zret hx hb hr h.1 (fun t ht _ => ⟨⟨_, (v_at, 0, w22_0), rfl, h.2, hPt hP ht⟩, hS.F ht⟩) hS.2.2 dX10_number_25
/-! X10_many -/
abbrev wX10_many (cI cJ cS : ClassId) (a_o : Nat) (z_refused z_steps z_kind z_space z_other z_times z_speed z_base z_share z_notes z_pitch z_beats z_held z_sort z_size z_shown z_cells z_carried z_words z_tell z_was z_kept z_cutSpace z_cutTimes z_cutOff z_trace : Value) (v_stretches : Int32) (v_cars : Int32) (v_tunes : Int32) (v_along : Int32) (v_near : Int32) (v_borne : Int32) (v_tempo : Int32) (v_seed : Int32) (v_fault : Int32) (v_from : Int32) (v_at : Int32) (v_end : Int32) (v_told : Int32) (v_wrongAt : Int32) (v_culprit : Int32) (v_ran : Int32) (v_isKept : Int32) : va_W := [(a_o, .inr (9, [.int v_stretches, .int v_cars, .int v_tunes, .int v_along, .int v_near, .int v_borne, .int v_tempo, .int v_seed, .int v_fault, z_refused, z_steps, z_kind, z_space, z_other, z_times, z_speed, z_base, z_share, z_notes, z_pitch, z_beats, z_held, z_sort, z_size, z_shown, z_cells, z_carried, z_words, z_tell, .int v_from, .int v_at, .int v_end, .int v_told, .int v_wrongAt, z_was, z_kept, .int v_culprit, z_cutSpace, z_cutTimes, z_cutOff, z_trace, .int v_ran, .int v_isKept]))]
def F_X10_many (x1 : Int32) (post : Int32 → Prop) : Prop := ((x1 = 0 → post 2) ∧ (¬ x1 = 0 → ((x1 = 2 → post 2) ∧ (¬ x1 = 2 → ((x1 = 3 → post 2) ∧ (¬ x1 = 3 → ((x1 = 8 → post 2) ∧ (¬ x1 = 8 → ((7 ≤ x1 → ((x1 = 7 → post 0) ∧ (¬ x1 = 7 → post 1))) ∧ (¬ 7 ≤ x1 → post 3))))))))))
set_option maxHeartbeats 4000000 in
set_option maxRecDepth 100000 in
theorem c_X10_many {l : Launch} {D : va_G} {cI cJ cS : ClassId} {ad adK : Nat → Nat} {a_o : Nat} {z_refused z_steps z_kind z_space z_other z_times z_speed z_base z_share z_notes z_pitch z_beats z_held z_sort z_size z_shown z_cells z_carried z_words z_tell z_was z_kept z_cutSpace z_cutTimes z_cutOff z_trace : Value} {v_stretches : Int32} {v_cars : Int32} {v_tunes : Int32} {v_along : Int32} {v_near : Int32} {v_borne : Int32} {v_tempo : Int32} {v_seed : Int32} {v_fault : Int32} {v_from : Int32} {v_at : Int32} {v_end : Int32} {v_told : Int32} {v_wrongAt : Int32} {v_culprit : Int32} {v_ran : Int32} {v_isKept : Int32} {x1 : Int32} {post : Int32 → Prop} (h : F_X10_many x1 post) : Met l yX10_many (Cond.code yX10_many cX10_many 2 (some (.int)) :: GW) (rmd 0 0 0) (PR D cI cJ cS ad adK [.ref a_o, .int x1] (wX10_many cI cJ cS a_o z_refused z_steps z_kind z_space z_other z_times z_speed z_base z_share z_notes z_pitch z_beats z_held z_sort z_size z_shown z_cells z_carried z_words z_tell z_was z_kept z_cutSpace z_cutTimes z_cutOff z_trace v_stretches v_cars v_tunes v_along v_near v_borne v_tempo v_seed v_fault v_from v_at v_end v_told v_wrongAt v_culprit v_ran v_isKept)) (vp_Si post) 0 0 nof := by
  refine Met.ro (by decide) (Nat.le_of_ble_eq_true rfl) (fun p e s m args below meth c ls (S : CallFix p m c cX10_many 2 s args GW "RoadThatSingsModel") hE hT hP hS hr hlocks hl => ?_)
  have hx := S.1
  have hb := S.2.1
  have hl : lv_has ls 2 [(0, .ref a_o), (1, .int x1)] := hl
  unfold F_X10_many at h
  refine lv_iload_n hx hb dX10_many_0 rfl (lv_at hl 1 rfl) ?_
  refine lv_if_eq (tgt := 20) hx hb dX10_many_1 (by decide) (fun hc => ?_) (fun hc => ?_)
  · have h := h.1 hc
    refine lv_iconst (v := 2) hx hb dX10_many_20 (by decide) ?_
    refine lv_goto (tgt := 45) hx hb dX10_many_21 (by decide) ?_
    exact W.iret hx hb hr (fun t ht _ => ⟨_, rfl, h, ht⟩) (fun _ hq => by cases hq) dX10_many_45
  have h := h.2 hc
  refine lv_iload_n hx hb dX10_many_4 rfl (lv_at hl 1 rfl) ?_
  refine lv_iconst (v := 2) hx hb dX10_many_5 (by decide) ?_
  refine lv_icmp_eq (tgt := 20) hx hb dX10_many_6 (by decide) (fun hc => ?_) (fun hc => ?_)
  · have h := h.1 hc
    refine lv_iconst (v := 2) hx hb dX10_many_20 (by decide) ?_
    refine lv_goto (tgt := 45) hx hb dX10_many_21 (by decide) ?_
    exact W.iret hx hb hr (fun t ht _ => ⟨_, rfl, h, ht⟩) (fun _ hq => by cases hq) dX10_many_45
  have h := h.2 hc
  refine lv_iload_n hx hb dX10_many_9 rfl (lv_at hl 1 rfl) ?_
  refine lv_iconst (v := 3) hx hb dX10_many_10 (by decide) ?_
  refine lv_icmp_eq (tgt := 20) hx hb dX10_many_11 (by decide) (fun hc => ?_) (fun hc => ?_)
  · have h := h.1 hc
    refine lv_iconst (v := 2) hx hb dX10_many_20 (by decide) ?_
    refine lv_goto (tgt := 45) hx hb dX10_many_21 (by decide) ?_
    exact W.iret hx hb hr (fun t ht _ => ⟨_, rfl, h, ht⟩) (fun _ hq => by cases hq) dX10_many_45
  have h := h.2 hc
  refine lv_iload_n hx hb dX10_many_14 rfl (lv_at hl 1 rfl) ?_
  refine lv_bipush (v := 8) hx hb dX10_many_15 (by decide) ?_
  refine lv_icmp_ne (tgt := 24) hx hb dX10_many_17 (by decide) (fun hc => ?_) (fun hc => ?_)
  · have h := h.2 hc
    refine lv_iload_n hx hb dX10_many_24 rfl (lv_at hl 1 rfl) ?_
    refine lv_bipush (v := 7) hx hb dX10_many_25 (by decide) ?_
    refine lv_icmp_ge (tgt := 34) hx hb dX10_many_27 (by decide) (fun hc => ?_) (fun hc => ?_)
    · have h := h.1 hc
      refine lv_iload_n hx hb dX10_many_34 rfl (lv_at hl 1 rfl) ?_
      refine lv_bipush (v := 7) hx hb dX10_many_35 (by decide) ?_
      refine lv_icmp_ne (tgt := 44) hx hb dX10_many_37 (by decide) (fun hc => ?_) (fun hc => ?_)
      · have h := h.2 hc
        refine lv_iconst (v := 1) hx hb dX10_many_44 (by decide) ?_
        exact W.iret hx hb hr (fun t ht _ => ⟨_, rfl, h, ht⟩) (fun _ hq => by cases hq) dX10_many_45
      have h := h.1 hc
      refine lv_iconst (v := 0) hx hb dX10_many_40 (by decide) ?_
      refine lv_goto (tgt := 45) hx hb dX10_many_41 (by decide) ?_
      exact W.iret hx hb hr (fun t ht _ => ⟨_, rfl, h, ht⟩) (fun _ hq => by cases hq) dX10_many_45
    have h := h.2 hc
    refine lv_iconst (v := 3) hx hb dX10_many_30 (by decide) ?_
    refine lv_goto (tgt := 45) hx hb dX10_many_31 (by decide) ?_
    exact W.iret hx hb hr (fun t ht _ => ⟨_, rfl, h, ht⟩) (fun _ hq => by cases hq) dX10_many_45
  have h := h.1 hc
  refine lv_iconst (v := 2) hx hb dX10_many_20 (by decide) ?_
  refine lv_goto (tgt := 45) hx hb dX10_many_21 (by decide) ?_
  exact W.iret hx hb hr (fun t ht _ => ⟨_, rfl, h, ht⟩) (fun _ hq => by cases hq) dX10_many_45
/-! X10_low -/
abbrev wX10_low (cI cJ cS : ClassId) (a_o : Nat) (z_refused z_steps z_kind z_space z_other z_times z_speed z_base z_share z_notes z_pitch z_beats z_held z_sort z_size z_shown z_cells z_carried z_words z_tell z_was z_kept z_cutSpace z_cutTimes z_cutOff z_trace : Value) (v_stretches : Int32) (v_cars : Int32) (v_tunes : Int32) (v_along : Int32) (v_near : Int32) (v_borne : Int32) (v_tempo : Int32) (v_seed : Int32) (v_fault : Int32) (v_from : Int32) (v_at : Int32) (v_end : Int32) (v_told : Int32) (v_wrongAt : Int32) (v_culprit : Int32) (v_ran : Int32) (v_isKept : Int32) : va_W := [(a_o, .inr (9, [.int v_stretches, .int v_cars, .int v_tunes, .int v_along, .int v_near, .int v_borne, .int v_tempo, .int v_seed, .int v_fault, z_refused, z_steps, z_kind, z_space, z_other, z_times, z_speed, z_base, z_share, z_notes, z_pitch, z_beats, z_held, z_sort, z_size, z_shown, z_cells, z_carried, z_words, z_tell, .int v_from, .int v_at, .int v_end, .int v_told, .int v_wrongAt, z_was, z_kept, .int v_culprit, z_cutSpace, z_cutTimes, z_cutOff, z_trace, .int v_ran, .int v_isKept]))]
def F_X10_low (x1 : Int32) (x2 : Int32) (post : Int32 → Prop) : Prop := ((6 ≤ x1 → ((x1 = 6 → ((x2 = 0 → post 1) ∧ (¬ x2 = 0 → post 0))) ∧ (¬ x1 = 6 → ((x1 = 8 → post x2) ∧ (¬ x1 = 8 → ((x1 = 9 → post 1) ∧ (¬ x1 = 9 → ((x1 = 10 → post 2) ∧ (¬ x1 = 10 → ((x1 = 12 → post 50) ∧ (¬ x1 = 12 → post 0))))))))))) ∧ (¬ 6 ≤ x1 → (F_X10_many x1 (fun r8 => ((r8 = 3 → ((x2 = 1 → post 0) ∧ (¬ x2 = 1 → post 1))) ∧ (¬ r8 = 3 → post 1))))))
set_option maxHeartbeats 4000000 in
set_option maxRecDepth 100000 in
theorem c_X10_low {l : Launch} {D : va_G} {cI cJ cS : ClassId} {ad adK : Nat → Nat} {a_o : Nat} {z_refused z_steps z_kind z_space z_other z_times z_speed z_base z_share z_notes z_pitch z_beats z_held z_sort z_size z_shown z_cells z_carried z_words z_tell z_was z_kept z_cutSpace z_cutTimes z_cutOff z_trace : Value} {v_stretches : Int32} {v_cars : Int32} {v_tunes : Int32} {v_along : Int32} {v_near : Int32} {v_borne : Int32} {v_tempo : Int32} {v_seed : Int32} {v_fault : Int32} {v_from : Int32} {v_at : Int32} {v_end : Int32} {v_told : Int32} {v_wrongAt : Int32} {v_culprit : Int32} {v_ran : Int32} {v_isKept : Int32} {x1 : Int32} {x2 : Int32} {post : Int32 → Prop} (h : F_X10_low x1 x2 post) : Met l yX10_low (Cond.code yX10_low cX10_low 3 (some (.int)) :: GW) (rmd 1 0 0) (PR D cI cJ cS ad adK [.ref a_o, .int x1, .int x2] (wX10_low cI cJ cS a_o z_refused z_steps z_kind z_space z_other z_times z_speed z_base z_share z_notes z_pitch z_beats z_held z_sort z_size z_shown z_cells z_carried z_words z_tell z_was z_kept z_cutSpace z_cutTimes z_cutOff z_trace v_stretches v_cars v_tunes v_along v_near v_borne v_tempo v_seed v_fault v_from v_at v_end v_told v_wrongAt v_culprit v_ran v_isKept)) (vp_Si post) 0 0 nof := by
  refine Met.ro (by decide) (Nat.le_of_ble_eq_true rfl) (fun p e s m args below meth c ls (S : CallFix p m c cX10_low 3 s args GW "RoadThatSingsModel") hE hT hP hS hr hlocks hl => ?_)
  have hx := S.1
  have hb := S.2.1
  have hl : lv_has ls 3 [(0, .ref a_o), (1, .int x1), (2, .int x2)] := hl
  unfold F_X10_low at h
  refine lv_iload_n hx hb dX10_low_0 rfl (lv_at hl 1 rfl) ?_
  refine lv_bipush (v := 6) hx hb dX10_low_1 (by decide) ?_
  refine lv_icmp_ge (tgt := 26) hx hb dX10_low_3 (by decide) (fun hc => ?_) (fun hc => ?_)
  · have h := h.1 hc
    refine lv_iload_n hx hb dX10_low_26 rfl (lv_at hl 1 rfl) ?_
    refine lv_bipush (v := 6) hx hb dX10_low_27 (by decide) ?_
    refine lv_icmp_ne (tgt := 42) hx hb dX10_low_29 (by decide) (fun hc => ?_) (fun hc => ?_)
    · have h := h.2 hc
      refine lv_iload_n hx hb dX10_low_42 rfl (lv_at hl 1 rfl) ?_
      refine lv_bipush (v := 8) hx hb dX10_low_43 (by decide) ?_
      refine lv_icmp_ne (tgt := 52) hx hb dX10_low_45 (by decide) (fun hc => ?_) (fun hc => ?_)
      · have h := h.2 hc
        refine lv_iload_n hx hb dX10_low_52 rfl (lv_at hl 1 rfl) ?_
        refine lv_bipush (v := 9) hx hb dX10_low_53 (by decide) ?_
        refine lv_icmp_ne (tgt := 62) hx hb dX10_low_55 (by decide) (fun hc => ?_) (fun hc => ?_)
        · have h := h.2 hc
          refine lv_iload_n hx hb dX10_low_62 rfl (lv_at hl 1 rfl) ?_
          refine lv_bipush (v := 10) hx hb dX10_low_63 (by decide) ?_
          refine lv_icmp_ne (tgt := 72) hx hb dX10_low_65 (by decide) (fun hc => ?_) (fun hc => ?_)
          · have h := h.2 hc
            refine lv_iload_n hx hb dX10_low_72 rfl (lv_at hl 1 rfl) ?_
            refine lv_bipush (v := 12) hx hb dX10_low_73 (by decide) ?_
            refine lv_icmp_ne (tgt := 83) hx hb dX10_low_75 (by decide) (fun hc => ?_) (fun hc => ?_)
            · have h := h.2 hc
              refine lv_iconst (v := 0) hx hb dX10_low_83 (by decide) ?_
              exact W.iret hx hb hr (fun t ht _ => ⟨_, rfl, h, ht⟩) (fun _ hq => by cases hq) dX10_low_84
            have h := h.1 hc
            refine lv_bipush (v := 50) hx hb dX10_low_78 (by decide) ?_
            refine lv_goto (tgt := 84) hx hb dX10_low_80 (by decide) ?_
            exact W.iret hx hb hr (fun t ht _ => ⟨_, rfl, h, ht⟩) (fun _ hq => by cases hq) dX10_low_84
          have h := h.1 hc
          refine lv_iconst (v := 2) hx hb dX10_low_68 (by decide) ?_
          refine lv_goto (tgt := 84) hx hb dX10_low_69 (by decide) ?_
          exact W.iret hx hb hr (fun t ht _ => ⟨_, rfl, h, ht⟩) (fun _ hq => by cases hq) dX10_low_84
        have h := h.1 hc
        refine lv_iconst (v := 1) hx hb dX10_low_58 (by decide) ?_
        refine lv_goto (tgt := 84) hx hb dX10_low_59 (by decide) ?_
        exact W.iret hx hb hr (fun t ht _ => ⟨_, rfl, h, ht⟩) (fun _ hq => by cases hq) dX10_low_84
      have h := h.1 hc
      refine lv_iload_n hx hb dX10_low_48 rfl (lv_at hl 2 rfl) ?_
      refine lv_goto (tgt := 84) hx hb dX10_low_49 (by decide) ?_
      exact W.iret hx hb hr (fun t ht _ => ⟨_, rfl, h, ht⟩) (fun _ hq => by cases hq) dX10_low_84
    have h := h.1 hc
    refine lv_iload_n hx hb dX10_low_32 rfl (lv_at hl 2 rfl) ?_
    refine lv_if_ne (tgt := 40) hx hb dX10_low_33 (by decide) (fun hc => ?_) (fun hc => ?_)
    · have h := h.2 hc
      refine lv_iconst (v := 0) hx hb dX10_low_40 (by decide) ?_
      exact W.iret hx hb hr (fun t ht _ => ⟨_, rfl, h, ht⟩) (fun _ hq => by cases hq) dX10_low_41
    have h := h.1 hc
    refine lv_iconst (v := 1) hx hb dX10_low_36 (by decide) ?_
    refine lv_goto (tgt := 41) hx hb dX10_low_37 (by decide) ?_
    exact W.iret hx hb hr (fun t ht _ => ⟨_, rfl, h, ht⟩) (fun _ hq => by cases hq) dX10_low_41
  have h := h.2 hc
  refine lv_aload_n hx hb dX10_low_6 rfl (lv_at hl 0 rfl) ?_
  refine lv_iload_n hx hb dX10_low_7 rfl (lv_at hl 1 rfl) ?_
  refine ro_i (roV S hE hT hS (c_X10_many h) lkX10_196 rfl ⟨(Nat.le_of_ble_eq_true rfl), (Nat.le_of_ble_eq_true rfl)⟩ (hP.sub [0] rfl) 0 rfl rfl hl.1 rfl (Nat.le_of_ble_eq_true rfl) dX10_low_8 ⟨(Nat.zero_le _), (Nat.zero_le _)⟩) (fun r8 h => ?_)
  refine lv_iconst (v := 3) hx hb dX10_low_11 (by decide) ?_
  refine lv_icmp_ne (tgt := 24) hx hb dX10_low_12 (by decide) (fun hc => ?_) (fun hc => ?_)
  · have h := h.2 hc
    refine lv_iconst (v := 1) hx hb dX10_low_24 (by decide) ?_
    exact W.iret hx hb hr (fun t ht _ => ⟨_, rfl, h, ht⟩) (fun _ hq => by cases hq) dX10_low_25
  have h := h.1 hc
  refine lv_iload_n hx hb dX10_low_15 rfl (lv_at hl 2 rfl) ?_
  refine lv_iconst (v := 1) hx hb dX10_low_16 (by decide) ?_
  refine lv_icmp_ne (tgt := 24) hx hb dX10_low_17 (by decide) (fun hc => ?_) (fun hc => ?_)
  · have h := h.2 hc
    refine lv_iconst (v := 1) hx hb dX10_low_24 (by decide) ?_
    exact W.iret hx hb hr (fun t ht _ => ⟨_, rfl, h, ht⟩) (fun _ hq => by cases hq) dX10_low_25
  have h := h.1 hc
  refine lv_iconst (v := 0) hx hb dX10_low_20 (by decide) ?_
  refine lv_goto (tgt := 25) hx hb dX10_low_21 (by decide) ?_
  exact W.iret hx hb hr (fun t ht _ => ⟨_, rfl, h, ht⟩) (fun _ hq => by cases hq) dX10_low_25
/-! X10_high -/
abbrev wX10_high (cI cJ cS : ClassId) (a_o a_share : Nat) (z_refused z_steps z_kind z_space z_other z_times z_speed z_base z_notes z_pitch z_beats z_held z_sort z_size z_shown z_cells z_carried z_words z_tell z_was z_kept z_cutSpace z_cutTimes z_cutOff z_trace : Value) (v_stretches : Int32) (v_cars : Int32) (v_tunes : Int32) (v_along : Int32) (v_near : Int32) (v_borne : Int32) (v_tempo : Int32) (v_seed : Int32) (v_fault : Int32) (v_from : Int32) (v_at : Int32) (v_end : Int32) (v_told : Int32) (v_wrongAt : Int32) (v_culprit : Int32) (v_ran : Int32) (v_isKept : Int32) (f_share : Nat → Int32) : va_W := [(a_o, .inr (9, [.int v_stretches, .int v_cars, .int v_tunes, .int v_along, .int v_near, .int v_borne, .int v_tempo, .int v_seed, .int v_fault, z_refused, z_steps, z_kind, z_space, z_other, z_times, z_speed, z_base, .ref a_share, z_notes, z_pitch, z_beats, z_held, z_sort, z_size, z_shown, z_cells, z_carried, z_words, z_tell, .int v_from, .int v_at, .int v_end, .int v_told, .int v_wrongAt, z_was, z_kept, .int v_culprit, z_cutSpace, z_cutTimes, z_cutOff, z_trace, .int v_ran, .int v_isKept])), (a_share, .inl (cI, 6, .inl f_share))]
def F_X10_high (v_cars : Int32) (f_share : Nat → Int32) (x1 : Int32) (x2 : Int32) (post : Int32 → Prop) : Prop := ((6 ≤ x1 → ((x1 = 6 → ((x2 = 0 → post 99) ∧ (¬ x2 = 0 → ((x2 = 1 → post 999) ∧ (¬ x2 = 1 → (F_X10_shares v_cars f_share (fun r38 => post (100 - r38)))))))) ∧ (¬ x1 = 6 → ((x1 = 8 → ((x2 = 0 → post 9999) ∧ (¬ x2 = 0 → post 16))) ∧ (¬ x1 = 8 → ((x1 = 9 → post 9999) ∧ (¬ x1 = 9 → ((x1 = 10 → post 30) ∧ (¬ x1 = 10 → ((x1 = 11 → post 500) ∧ (¬ x1 = 11 → post 2000))))))))))) ∧ (¬ 6 ≤ x1 → post 60))
set_option maxHeartbeats 4000000 in
set_option maxRecDepth 100000 in
theorem c_X10_high {l : Launch} {D : va_G} {cI cJ cS : ClassId} {ad adK : Nat → Nat} {a_o a_share : Nat} {z_refused z_steps z_kind z_space z_other z_times z_speed z_base z_notes z_pitch z_beats z_held z_sort z_size z_shown z_cells z_carried z_words z_tell z_was z_kept z_cutSpace z_cutTimes z_cutOff z_trace : Value} {v_stretches : Int32} {v_cars : Int32} {v_tunes : Int32} {v_along : Int32} {v_near : Int32} {v_borne : Int32} {v_tempo : Int32} {v_seed : Int32} {v_fault : Int32} {v_from : Int32} {v_at : Int32} {v_end : Int32} {v_told : Int32} {v_wrongAt : Int32} {v_culprit : Int32} {v_ran : Int32} {v_isKept : Int32} {f_share : Nat → Int32} {x1 : Int32} {x2 : Int32} {post : Int32 → Prop} (h : F_X10_high v_cars f_share x1 x2 post) : Met l yX10_high (Cond.code yX10_high cX10_high 3 (some (.int)) :: GW) (rmd 1 0 0) (PR D cI cJ cS ad adK [.ref a_o, .int x1, .int x2] (wX10_high cI cJ cS a_o a_share z_refused z_steps z_kind z_space z_other z_times z_speed z_base z_notes z_pitch z_beats z_held z_sort z_size z_shown z_cells z_carried z_words z_tell z_was z_kept z_cutSpace z_cutTimes z_cutOff z_trace v_stretches v_cars v_tunes v_along v_near v_borne v_tempo v_seed v_fault v_from v_at v_end v_told v_wrongAt v_culprit v_ran v_isKept f_share)) (vp_Si post) 0 0 nof := by
  refine Met.ro (by decide) (Nat.le_of_ble_eq_true rfl) (fun p e s m args below meth c ls (S : CallFix p m c cX10_high 3 s args GW "RoadThatSingsModel") hE hT hP hS hr hlocks hl => ?_)
  have hx := S.1
  have hb := S.2.1
  have hl : lv_has ls 3 [(0, .ref a_o), (1, .int x1), (2, .int x2)] := hl
  unfold F_X10_high at h
  refine lv_iload_n hx hb dX10_high_0 rfl (lv_at hl 1 rfl) ?_
  refine lv_bipush (v := 6) hx hb dX10_high_1 (by decide) ?_
  refine lv_icmp_ge (tgt := 9) hx hb dX10_high_3 (by decide) (fun hc => ?_) (fun hc => ?_)
  · have h := h.1 hc
    refine lv_iload_n hx hb dX10_high_9 rfl (lv_at hl 1 rfl) ?_
    refine lv_bipush (v := 6) hx hb dX10_high_10 (by decide) ?_
    refine lv_icmp_ne (tgt := 43) hx hb dX10_high_12 (by decide) (fun hc => ?_) (fun hc => ?_)
    · have h := h.2 hc
      refine lv_iload_n hx hb dX10_high_43 rfl (lv_at hl 1 rfl) ?_
      refine lv_bipush (v := 8) hx hb dX10_high_44 (by decide) ?_
      refine lv_icmp_ne (tgt := 62) hx hb dX10_high_46 (by decide) (fun hc => ?_) (fun hc => ?_)
      · have h := h.2 hc
        refine lv_iload_n hx hb dX10_high_62 rfl (lv_at hl 1 rfl) ?_
        refine lv_bipush (v := 9) hx hb dX10_high_63 (by decide) ?_
        refine lv_icmp_ne (tgt := 74) hx hb dX10_high_65 (by decide) (fun hc => ?_) (fun hc => ?_)
        · have h := h.2 hc
          refine lv_iload_n hx hb dX10_high_74 rfl (lv_at hl 1 rfl) ?_
          refine lv_bipush (v := 10) hx hb dX10_high_75 (by decide) ?_
          refine lv_icmp_ne (tgt := 85) hx hb dX10_high_77 (by decide) (fun hc => ?_) (fun hc => ?_)
          · have h := h.2 hc
            refine lv_iload_n hx hb dX10_high_85 rfl (lv_at hl 1 rfl) ?_
            refine lv_bipush (v := 11) hx hb dX10_high_86 (by decide) ?_
            refine lv_icmp_ne (tgt := 97) hx hb dX10_high_88 (by decide) (fun hc => ?_) (fun hc => ?_)
            · have h := h.2 hc
              refine lv_sipush (v := 2000) hx hb dX10_high_97 (by decide) ?_
              exact W.iret hx hb hr (fun t ht _ => ⟨_, rfl, h, ht⟩) (fun _ hq => by cases hq) dX10_high_100
            have h := h.1 hc
            refine lv_sipush (v := 500) hx hb dX10_high_91 (by decide) ?_
            refine lv_goto (tgt := 100) hx hb dX10_high_94 (by decide) ?_
            exact W.iret hx hb hr (fun t ht _ => ⟨_, rfl, h, ht⟩) (fun _ hq => by cases hq) dX10_high_100
          have h := h.1 hc
          refine lv_bipush (v := 30) hx hb dX10_high_80 (by decide) ?_
          refine lv_goto (tgt := 100) hx hb dX10_high_82 (by decide) ?_
          exact W.iret hx hb hr (fun t ht _ => ⟨_, rfl, h, ht⟩) (fun _ hq => by cases hq) dX10_high_100
        have h := h.1 hc
        refine lv_sipush (v := 9999) hx hb dX10_high_68 (by decide) ?_
        refine lv_goto (tgt := 100) hx hb dX10_high_71 (by decide) ?_
        exact W.iret hx hb hr (fun t ht _ => ⟨_, rfl, h, ht⟩) (fun _ hq => by cases hq) dX10_high_100
      have h := h.1 hc
      refine lv_iload_n hx hb dX10_high_49 rfl (lv_at hl 2 rfl) ?_
      refine lv_if_ne (tgt := 59) hx hb dX10_high_50 (by decide) (fun hc => ?_) (fun hc => ?_)
      · have h := h.2 hc
        refine lv_bipush (v := 16) hx hb dX10_high_59 (by decide) ?_
        exact W.iret hx hb hr (fun t ht _ => ⟨_, rfl, h, ht⟩) (fun _ hq => by cases hq) dX10_high_61
      have h := h.1 hc
      refine lv_sipush (v := 9999) hx hb dX10_high_53 (by decide) ?_
      refine lv_goto (tgt := 61) hx hb dX10_high_56 (by decide) ?_
      exact W.iret hx hb hr (fun t ht _ => ⟨_, rfl, h, ht⟩) (fun _ hq => by cases hq) dX10_high_61
    have h := h.1 hc
    refine lv_iload_n hx hb dX10_high_15 rfl (lv_at hl 2 rfl) ?_
    refine lv_if_ne (tgt := 24) hx hb dX10_high_16 (by decide) (fun hc => ?_) (fun hc => ?_)
    · have h := h.2 hc
      refine lv_iload_n hx hb dX10_high_24 rfl (lv_at hl 2 rfl) ?_
      refine lv_iconst (v := 1) hx hb dX10_high_25 (by decide) ?_
      refine lv_icmp_ne (tgt := 35) hx hb dX10_high_26 (by decide) (fun hc => ?_) (fun hc => ?_)
      · have h := h.2 hc
        refine lv_bipush (v := 100) hx hb dX10_high_35 (by decide) ?_
        refine lv_aload_n hx hb dX10_high_37 rfl (lv_at hl 0 rfl) ?_
        refine ro_i (roV S hE hT hS (c_X10_shares h) lkX10_158 rfl ⟨(Nat.le_of_ble_eq_true rfl), (Nat.le_of_ble_eq_true rfl)⟩ (hP.sub [0, 1] rfl) 0 rfl rfl hl.1 rfl (Nat.le_of_ble_eq_true rfl) dX10_high_38 ⟨(Nat.zero_le _), (Nat.zero_le _)⟩) (fun r38 h => ?_)
        refine lv_isub hx hb dX10_high_41 ?_
        exact W.iret hx hb hr (fun t ht _ => ⟨_, rfl, h, ht⟩) (fun _ hq => by cases hq) dX10_high_42
      have h := h.1 hc
      refine lv_sipush (v := 999) hx hb dX10_high_29 (by decide) ?_
      refine lv_goto (tgt := 42) hx hb dX10_high_32 (by decide) ?_
      exact W.iret hx hb hr (fun t ht _ => ⟨_, rfl, h, ht⟩) (fun _ hq => by cases hq) dX10_high_42
    have h := h.1 hc
    refine lv_bipush (v := 99) hx hb dX10_high_19 (by decide) ?_
    refine lv_goto (tgt := 42) hx hb dX10_high_21 (by decide) ?_
    exact W.iret hx hb hr (fun t ht _ => ⟨_, rfl, h, ht⟩) (fun _ hq => by cases hq) dX10_high_42
  have h := h.2 hc
  refine lv_bipush (v := 60) hx hb dX10_high_6 (by decide) ?_
  exact W.iret hx hb hr (fun t ht _ => ⟨_, rfl, h, ht⟩) (fun _ hq => by cases hq) dX10_high_8
/-! X10_isFull -/
abbrev wX10_isFull (cI cJ cS : ClassId) (a_o a_notes : Nat) (z_refused z_steps z_kind z_space z_other z_times z_speed z_base z_share z_pitch z_beats z_held z_sort z_size z_shown z_cells z_carried z_words z_tell z_was z_kept z_cutSpace z_cutTimes z_cutOff z_trace : Value) (v_stretches : Int32) (v_cars : Int32) (v_tunes : Int32) (v_along : Int32) (v_near : Int32) (v_borne : Int32) (v_tempo : Int32) (v_seed : Int32) (v_fault : Int32) (v_from : Int32) (v_at : Int32) (v_end : Int32) (v_told : Int32) (v_wrongAt : Int32) (v_culprit : Int32) (v_ran : Int32) (v_isKept : Int32) (f_notes : Nat → Int32) : va_W := [(a_o, .inr (9, [.int v_stretches, .int v_cars, .int v_tunes, .int v_along, .int v_near, .int v_borne, .int v_tempo, .int v_seed, .int v_fault, z_refused, z_steps, z_kind, z_space, z_other, z_times, z_speed, z_base, z_share, .ref a_notes, z_pitch, z_beats, z_held, z_sort, z_size, z_shown, z_cells, z_carried, z_words, z_tell, .int v_from, .int v_at, .int v_end, .int v_told, .int v_wrongAt, z_was, z_kept, .int v_culprit, z_cutSpace, z_cutTimes, z_cutOff, z_trace, .int v_ran, .int v_isKept])), (a_notes, .inl (cI, 6, .inl f_notes))]
def F_X10_isFull_45 (v_tunes : Int32) (f_notes : Nat → Int32) (post : Int32 → Prop) (x1 : Int32) : Prop := ((x1 = 8 → ((v_tunes = 0 → post 1) ∧ (¬ v_tunes = 0 → (vp_in (v_tunes - 1) 6 ∧ (((f_notes (v_tunes - 1).toNatClampNeg) = 12 → post 1) ∧ (¬ (f_notes (v_tunes - 1).toNatClampNeg) = 12 → post 0)))))) ∧ (¬ x1 = 8 → post 0))
def F_X10_isFull_30 (v_tunes : Int32) (f_notes : Nat → Int32) (post : Int32 → Prop) (x1 : Int32) : Prop := ((x1 = 7 → ((v_tunes = 6 → post 1) ∧ (¬ v_tunes = 6 → F_X10_isFull_45 v_tunes f_notes post x1))) ∧ (¬ x1 = 7 → F_X10_isFull_45 v_tunes f_notes post x1))
def F_X10_isFull_15 (v_cars : Int32) (v_tunes : Int32) (f_notes : Nat → Int32) (post : Int32 → Prop) (x1 : Int32) : Prop := ((x1 = 6 → ((v_cars = 6 → post 1) ∧ (¬ v_cars = 6 → F_X10_isFull_30 v_tunes f_notes post x1))) ∧ (¬ x1 = 6 → F_X10_isFull_30 v_tunes f_notes post x1))
def F_X10_isFull (v_stretches : Int32) (v_cars : Int32) (v_tunes : Int32) (f_notes : Nat → Int32) (x1 : Int32) (post : Int32 → Prop) : Prop := ((6 ≤ x1 → F_X10_isFull_15 v_cars v_tunes f_notes post x1) ∧ (¬ 6 ≤ x1 → ((v_stretches = 16 → post 1) ∧ (¬ v_stretches = 16 → F_X10_isFull_15 v_cars v_tunes f_notes post x1))))
set_option maxHeartbeats 4000000 in
set_option maxRecDepth 100000 in
theorem w_X10_isFull_45 {l : Launch} {D : va_G} {cI cJ cS : ClassId} {ad adK : Nat → Nat} {a_o a_notes : Nat} {z_refused z_steps z_kind z_space z_other z_times z_speed z_base z_share z_pitch z_beats z_held z_sort z_size z_shown z_cells z_carried z_words z_tell z_was z_kept z_cutSpace z_cutTimes z_cutOff z_trace : Value} {v_stretches : Int32} {v_cars : Int32} {v_tunes : Int32} {v_along : Int32} {v_near : Int32} {v_borne : Int32} {v_tempo : Int32} {v_seed : Int32} {v_fault : Int32} {v_from : Int32} {v_at : Int32} {v_end : Int32} {v_told : Int32} {v_wrongAt : Int32} {v_culprit : Int32} {v_ran : Int32} {v_isKept : Int32} {f_notes : Nat → Int32} {x1 : Int32} {post : Int32 → Prop} {p : Program} {e : Env} {s : State} {m : MethodId} {args : Array Value} {below : List Frame} {meth : Method} {c : Code} (S : CallFix p m c cX10_isFull 2 s args GW "RoadThatSingsModel") (hE : EN D cI cJ cS s) (hT : ST ad adK nof s s.heap) (hP : va_P D vwCl (wX10_isFull cI cJ cS a_o a_notes z_refused z_steps z_kind z_space z_other z_times z_speed z_base z_share z_pitch z_beats z_held z_sort z_size z_shown z_cells z_carried z_words z_tell z_was z_kept z_cutSpace z_cutTimes z_cutOff z_trace v_stretches v_cars v_tunes v_along v_near v_borne v_tempo v_seed v_fault v_from v_at v_end v_told v_wrongAt v_culprit v_ran v_isKept f_notes) s.heap) (hS : va_S nof s.heap s.heap []) (hr : meth.sig.returnType = (some (.boolean))) (hlocks : meth.locks = false) : ∀ (ls : Array Slot), F_X10_isFull_45 v_tunes f_notes post x1 → lv_has ls 2 [(0, .ref a_o), (1, .int x1)] → W p l e (rmd 0 0 0) s m args below meth c s.heap [] 0 0 (MQ below (vp_Si post) args s 0 0 nof) (F0 m 45 ls []) := by
  intro  ls h hl
  unfold F_X10_isFull_45 at h
  have hx := S.1
  have hb := S.2.1
  refine lv_iload_n hx hb dX10_isFull_45 rfl (lv_at hl 1 rfl) ?_
  refine lv_bipush (v := 8) hx hb dX10_isFull_46 (by decide) ?_
  refine lv_icmp_ne (tgt := 78) hx hb dX10_isFull_48 (by decide) (fun hc => ?_) (fun hc => ?_)
  · have h := h.2 hc
    refine lv_iconst (v := 0) hx hb dX10_isFull_78 (by decide) ?_
    exact W.zret hx hb hr rfl (fun t ht _ => ⟨_, rfl, h, ht⟩) (fun _ hq => by cases hq) dX10_isFull_79
  have h := h.1 hc
  refine lv_aload_n hx hb dX10_isFull_51 rfl (lv_at hl 0 rfl) ?_
  refine gf S hE hP 0 rfl rfl inX10 (k := 2) (by decide) q1095 rfl dX10_isFull_52 ?_
  refine lv_if_eq (tgt := 74) hx hb dX10_isFull_55 (by decide) (fun hc => ?_) (fun hc => ?_)
  · have h := h.1 hc
    refine lv_iconst (v := 1) hx hb dX10_isFull_74 (by decide) ?_
    refine lv_goto (tgt := 79) hx hb dX10_isFull_75 (by decide) ?_
    exact W.zret hx hb hr rfl (fun t ht _ => ⟨_, rfl, h, ht⟩) (fun _ hq => by cases hq) dX10_isFull_79
  have h := h.2 hc
  refine lv_aload_n hx hb dX10_isFull_58 rfl (lv_at hl 0 rfl) ?_
  refine gf S hE hP 0 rfl rfl inX10 (k := 18) (by decide) q1111 rfl dX10_isFull_59 ?_
  refine lv_aload_n hx hb dX10_isFull_62 rfl (lv_at hl 0 rfl) ?_
  refine gf S hE hP 0 rfl rfl inX10 (k := 2) (by decide) q1095 rfl dX10_isFull_63 ?_
  refine lv_iconst (v := 1) hx hb dX10_isFull_66 (by decide) ?_
  refine lv_isub hx hb dX10_isFull_67 ?_
  obtain ⟨hi, h⟩ := h
  refine ial S hE hP 1 rfl hi dX10_isFull_68 ?_
  refine lv_bipush (v := 12) hx hb dX10_isFull_69 (by decide) ?_
  refine lv_icmp_ne (tgt := 78) hx hb dX10_isFull_71 (by decide) (fun hc => ?_) (fun hc => ?_)
  · have h := h.2 hc
    refine lv_iconst (v := 0) hx hb dX10_isFull_78 (by decide) ?_
    exact W.zret hx hb hr rfl (fun t ht _ => ⟨_, rfl, h, ht⟩) (fun _ hq => by cases hq) dX10_isFull_79
  have h := h.1 hc
  refine lv_iconst (v := 1) hx hb dX10_isFull_74 (by decide) ?_
  refine lv_goto (tgt := 79) hx hb dX10_isFull_75 (by decide) ?_
  exact W.zret hx hb hr rfl (fun t ht _ => ⟨_, rfl, h, ht⟩) (fun _ hq => by cases hq) dX10_isFull_79
set_option maxHeartbeats 4000000 in
set_option maxRecDepth 100000 in
theorem w_X10_isFull_30 {l : Launch} {D : va_G} {cI cJ cS : ClassId} {ad adK : Nat → Nat} {a_o a_notes : Nat} {z_refused z_steps z_kind z_space z_other z_times z_speed z_base z_share z_pitch z_beats z_held z_sort z_size z_shown z_cells z_carried z_words z_tell z_was z_kept z_cutSpace z_cutTimes z_cutOff z_trace : Value} {v_stretches : Int32} {v_cars : Int32} {v_tunes : Int32} {v_along : Int32} {v_near : Int32} {v_borne : Int32} {v_tempo : Int32} {v_seed : Int32} {v_fault : Int32} {v_from : Int32} {v_at : Int32} {v_end : Int32} {v_told : Int32} {v_wrongAt : Int32} {v_culprit : Int32} {v_ran : Int32} {v_isKept : Int32} {f_notes : Nat → Int32} {x1 : Int32} {post : Int32 → Prop} {p : Program} {e : Env} {s : State} {m : MethodId} {args : Array Value} {below : List Frame} {meth : Method} {c : Code} (S : CallFix p m c cX10_isFull 2 s args GW "RoadThatSingsModel") (hE : EN D cI cJ cS s) (hT : ST ad adK nof s s.heap) (hP : va_P D vwCl (wX10_isFull cI cJ cS a_o a_notes z_refused z_steps z_kind z_space z_other z_times z_speed z_base z_share z_pitch z_beats z_held z_sort z_size z_shown z_cells z_carried z_words z_tell z_was z_kept z_cutSpace z_cutTimes z_cutOff z_trace v_stretches v_cars v_tunes v_along v_near v_borne v_tempo v_seed v_fault v_from v_at v_end v_told v_wrongAt v_culprit v_ran v_isKept f_notes) s.heap) (hS : va_S nof s.heap s.heap []) (hr : meth.sig.returnType = (some (.boolean))) (hlocks : meth.locks = false) : ∀ (ls : Array Slot), F_X10_isFull_30 v_tunes f_notes post x1 → lv_has ls 2 [(0, .ref a_o), (1, .int x1)] → W p l e (rmd 0 0 0) s m args below meth c s.heap [] 0 0 (MQ below (vp_Si post) args s 0 0 nof) (F0 m 30 ls []) := by
  intro  ls h hl
  unfold F_X10_isFull_30 at h
  have hx := S.1
  have hb := S.2.1
  refine lv_iload_n hx hb dX10_isFull_30 rfl (lv_at hl 1 rfl) ?_
  refine lv_bipush (v := 7) hx hb dX10_isFull_31 (by decide) ?_
  refine lv_icmp_ne (tgt := 45) hx hb dX10_isFull_33 (by decide) (fun hc => ?_) (fun hc => ?_)
  · have h := h.2 hc
    refine w_X10_isFull_45 S hE hT hP hS hr hlocks _ h (lv_sub hl [0, 1] rfl)
  have h := h.1 hc
  refine lv_aload_n hx hb dX10_isFull_36 rfl (lv_at hl 0 rfl) ?_
  refine gf S hE hP 0 rfl rfl inX10 (k := 2) (by decide) q1095 rfl dX10_isFull_37 ?_
  refine lv_bipush (v := 6) hx hb dX10_isFull_40 (by decide) ?_
  refine lv_icmp_eq (tgt := 74) hx hb dX10_isFull_42 (by decide) (fun hc => ?_) (fun hc => ?_)
  · have h := h.1 hc
    refine lv_iconst (v := 1) hx hb dX10_isFull_74 (by decide) ?_
    refine lv_goto (tgt := 79) hx hb dX10_isFull_75 (by decide) ?_
    exact W.zret hx hb hr rfl (fun t ht _ => ⟨_, rfl, h, ht⟩) (fun _ hq => by cases hq) dX10_isFull_79
  have h := h.2 hc
  refine w_X10_isFull_45 S hE hT hP hS hr hlocks _ h (lv_sub hl [0, 1] rfl)
set_option maxHeartbeats 4000000 in
set_option maxRecDepth 100000 in
theorem w_X10_isFull_15 {l : Launch} {D : va_G} {cI cJ cS : ClassId} {ad adK : Nat → Nat} {a_o a_notes : Nat} {z_refused z_steps z_kind z_space z_other z_times z_speed z_base z_share z_pitch z_beats z_held z_sort z_size z_shown z_cells z_carried z_words z_tell z_was z_kept z_cutSpace z_cutTimes z_cutOff z_trace : Value} {v_stretches : Int32} {v_cars : Int32} {v_tunes : Int32} {v_along : Int32} {v_near : Int32} {v_borne : Int32} {v_tempo : Int32} {v_seed : Int32} {v_fault : Int32} {v_from : Int32} {v_at : Int32} {v_end : Int32} {v_told : Int32} {v_wrongAt : Int32} {v_culprit : Int32} {v_ran : Int32} {v_isKept : Int32} {f_notes : Nat → Int32} {x1 : Int32} {post : Int32 → Prop} {p : Program} {e : Env} {s : State} {m : MethodId} {args : Array Value} {below : List Frame} {meth : Method} {c : Code} (S : CallFix p m c cX10_isFull 2 s args GW "RoadThatSingsModel") (hE : EN D cI cJ cS s) (hT : ST ad adK nof s s.heap) (hP : va_P D vwCl (wX10_isFull cI cJ cS a_o a_notes z_refused z_steps z_kind z_space z_other z_times z_speed z_base z_share z_pitch z_beats z_held z_sort z_size z_shown z_cells z_carried z_words z_tell z_was z_kept z_cutSpace z_cutTimes z_cutOff z_trace v_stretches v_cars v_tunes v_along v_near v_borne v_tempo v_seed v_fault v_from v_at v_end v_told v_wrongAt v_culprit v_ran v_isKept f_notes) s.heap) (hS : va_S nof s.heap s.heap []) (hr : meth.sig.returnType = (some (.boolean))) (hlocks : meth.locks = false) : ∀ (ls : Array Slot), F_X10_isFull_15 v_cars v_tunes f_notes post x1 → lv_has ls 2 [(0, .ref a_o), (1, .int x1)] → W p l e (rmd 0 0 0) s m args below meth c s.heap [] 0 0 (MQ below (vp_Si post) args s 0 0 nof) (F0 m 15 ls []) := by
  intro  ls h hl
  unfold F_X10_isFull_15 at h
  have hx := S.1
  have hb := S.2.1
  refine lv_iload_n hx hb dX10_isFull_15 rfl (lv_at hl 1 rfl) ?_
  refine lv_bipush (v := 6) hx hb dX10_isFull_16 (by decide) ?_
  refine lv_icmp_ne (tgt := 30) hx hb dX10_isFull_18 (by decide) (fun hc => ?_) (fun hc => ?_)
  · have h := h.2 hc
    refine w_X10_isFull_30 S hE hT hP hS hr hlocks _ h (lv_sub hl [0, 1] rfl)
  have h := h.1 hc
  refine lv_aload_n hx hb dX10_isFull_21 rfl (lv_at hl 0 rfl) ?_
  refine gf S hE hP 0 rfl rfl inX10 (k := 1) (by decide) q1094 rfl dX10_isFull_22 ?_
  refine lv_bipush (v := 6) hx hb dX10_isFull_25 (by decide) ?_
  refine lv_icmp_eq (tgt := 74) hx hb dX10_isFull_27 (by decide) (fun hc => ?_) (fun hc => ?_)
  · have h := h.1 hc
    refine lv_iconst (v := 1) hx hb dX10_isFull_74 (by decide) ?_
    refine lv_goto (tgt := 79) hx hb dX10_isFull_75 (by decide) ?_
    exact W.zret hx hb hr rfl (fun t ht _ => ⟨_, rfl, h, ht⟩) (fun _ hq => by cases hq) dX10_isFull_79
  have h := h.2 hc
  refine w_X10_isFull_30 S hE hT hP hS hr hlocks _ h (lv_sub hl [0, 1] rfl)
set_option maxHeartbeats 4000000 in
set_option maxRecDepth 100000 in
theorem c_X10_isFull {l : Launch} {D : va_G} {cI cJ cS : ClassId} {ad adK : Nat → Nat} {a_o a_notes : Nat} {z_refused z_steps z_kind z_space z_other z_times z_speed z_base z_share z_pitch z_beats z_held z_sort z_size z_shown z_cells z_carried z_words z_tell z_was z_kept z_cutSpace z_cutTimes z_cutOff z_trace : Value} {v_stretches : Int32} {v_cars : Int32} {v_tunes : Int32} {v_along : Int32} {v_near : Int32} {v_borne : Int32} {v_tempo : Int32} {v_seed : Int32} {v_fault : Int32} {v_from : Int32} {v_at : Int32} {v_end : Int32} {v_told : Int32} {v_wrongAt : Int32} {v_culprit : Int32} {v_ran : Int32} {v_isKept : Int32} {f_notes : Nat → Int32} {x1 : Int32} {post : Int32 → Prop} (h : F_X10_isFull v_stretches v_cars v_tunes f_notes x1 post) : Met l yX10_isFull (Cond.code yX10_isFull cX10_isFull 2 (some (.boolean)) :: GW) (rmd 0 0 0) (PR D cI cJ cS ad adK [.ref a_o, .int x1] (wX10_isFull cI cJ cS a_o a_notes z_refused z_steps z_kind z_space z_other z_times z_speed z_base z_share z_pitch z_beats z_held z_sort z_size z_shown z_cells z_carried z_words z_tell z_was z_kept z_cutSpace z_cutTimes z_cutOff z_trace v_stretches v_cars v_tunes v_along v_near v_borne v_tempo v_seed v_fault v_from v_at v_end v_told v_wrongAt v_culprit v_ran v_isKept f_notes)) (vp_Si post) 0 0 nof := by
  refine Met.ro (by decide) (Nat.le_of_ble_eq_true rfl) (fun p e s m args below meth c ls (S : CallFix p m c cX10_isFull 2 s args GW "RoadThatSingsModel") hE hT hP hS hr hlocks hl => ?_)
  have hx := S.1
  have hb := S.2.1
  have hl : lv_has ls 2 [(0, .ref a_o), (1, .int x1)] := hl
  unfold F_X10_isFull at h
  refine lv_iload_n hx hb dX10_isFull_0 rfl (lv_at hl 1 rfl) ?_
  refine lv_bipush (v := 6) hx hb dX10_isFull_1 (by decide) ?_
  refine lv_icmp_ge (tgt := 15) hx hb dX10_isFull_3 (by decide) (fun hc => ?_) (fun hc => ?_)
  · have h := h.1 hc
    refine w_X10_isFull_15 S hE hT hP hS hr hlocks _ h (lv_sub hl [0, 1] rfl)
  have h := h.2 hc
  refine lv_aload_n hx hb dX10_isFull_6 rfl (lv_at hl 0 rfl) ?_
  refine gf S hE hP 0 rfl rfl inX10 (k := 0) (by decide) q1093 rfl dX10_isFull_7 ?_
  refine lv_bipush (v := 16) hx hb dX10_isFull_10 (by decide) ?_
  refine lv_icmp_eq (tgt := 74) hx hb dX10_isFull_12 (by decide) (fun hc => ?_) (fun hc => ?_)
  · have h := h.1 hc
    refine lv_iconst (v := 1) hx hb dX10_isFull_74 (by decide) ?_
    refine lv_goto (tgt := 79) hx hb dX10_isFull_75 (by decide) ?_
    exact W.zret hx hb hr rfl (fun t ht _ => ⟨_, rfl, h, ht⟩) (fun _ hq => by cases hq) dX10_isFull_79
  have h := h.2 hc
  refine w_X10_isFull_15 S hE hT hP hS hr hlocks _ h (lv_sub hl [0, 1] rfl)
/-! X10_isWordAt -/
abbrev wX10_isWordAt (cI cJ cS : ClassId) (a_o a_cells a_words : Nat) (z_refused z_steps z_kind z_space z_other z_times z_speed z_base z_share z_notes z_pitch z_beats z_held z_sort z_size z_shown z_carried z_tell z_was z_kept z_cutSpace z_cutTimes z_cutOff z_trace : Value) (v_stretches : Int32) (v_cars : Int32) (v_tunes : Int32) (v_along : Int32) (v_near : Int32) (v_borne : Int32) (v_tempo : Int32) (v_seed : Int32) (v_fault : Int32) (v_from : Int32) (v_at : Int32) (v_end : Int32) (v_told : Int32) (v_wrongAt : Int32) (v_culprit : Int32) (v_ran : Int32) (v_isKept : Int32) (g_cells : Nat → Int64) (f_words : Nat → Int32) : va_W := [(a_o, .inr (9, [.int v_stretches, .int v_cars, .int v_tunes, .int v_along, .int v_near, .int v_borne, .int v_tempo, .int v_seed, .int v_fault, z_refused, z_steps, z_kind, z_space, z_other, z_times, z_speed, z_base, z_share, z_notes, z_pitch, z_beats, z_held, z_sort, z_size, z_shown, .ref a_cells, z_carried, .ref a_words, z_tell, .int v_from, .int v_at, .int v_end, .int v_told, .int v_wrongAt, z_was, z_kept, .int v_culprit, z_cutSpace, z_cutTimes, z_cutOff, z_trace, .int v_ran, .int v_isKept])), (a_cells, .inl (cJ, 1280, .inr (.inl g_cells))), (a_words, .inl (cI, 79, .inl f_words))]
def L_X10_isWordAt_37 (v_from : Int32) (v_end : Int32) (g_cells : Nat → Int64) (f_words : Nat → Int32) (k86 : Int32 → Prop) : Nat → Int32 → Int32 → Prop
  | 0, _, _ => False
  | n37 + 1, x2, x3 => (vp_in x2 79 ∧ (((f_words x2.toNatClampNeg) ≤ 32 → k86 x2) ∧ (¬ (f_words x2.toNatClampNeg) ≤ 32 → ((v_end ≤ x3 → k86 x2) ∧ (¬ v_end ≤ x3 → (vp_in (v_from + x3) 1280 ∧ (vp_in x2 79 ∧ ((((g_cells (v_from + x3).toNatClampNeg).toInt32) = (f_words x2.toNatClampNeg) → (∀ x3_77 : Int32, x3_77 = x3 + 1 → (∀ x2_80 : Int32, x2_80 = x2 + 1 → L_X10_isWordAt_37 v_from v_end g_cells f_words k86 n37 x2_80 x3_77))) ∧ (¬ ((g_cells (v_from + x3).toNatClampNeg).toInt32) = (f_words x2.toNatClampNeg) → k86 x2)))))))))
def F_X10_isWordAt_86 (f_words : Nat → Int32) (post : Int32 → Prop) (x2 : Int32) : Prop := (vp_in x2 79 ∧ ((32 < (f_words x2.toNatClampNeg) → post 0) ∧ (¬ 32 < (f_words x2.toNatClampNeg) → post 1)))
def F_X10_isWordAt_24 (k4 : Int32 → Int32 → Prop) (x1 : Int32) (x2 : Int32) (s0 : Int32) (s1 : Int32) : Prop := (∀ x3_25 : Int32, x3_25 = s1 + s0 → (∀ x2_26 : Int32, x2_26 = x2 + 1 → k4 x2_26 x3_25))
def L_X10_isWordAt_4 (v_from : Int32) (v_at : Int32) (v_end : Int32) (g_cells : Nat → Int64) (f_words : Nat → Int32) (x1 : Int32) (post : Int32 → Prop) : Nat → Int32 → Int32 → Prop
  | 0, _, _ => False
  | n4 + 1, x2, x3 => ((x1 ≤ x3 → (∃ n37 : Nat, L_X10_isWordAt_37 v_from v_end g_cells f_words (fun x2_1 => F_X10_isWordAt_86 f_words post x2_1) n37 x2 v_at)) ∧ (¬ x1 ≤ x3 → (vp_in x2 79 ∧ (((f_words x2.toNatClampNeg) = 0 → F_X10_isWordAt_24 (fun x2 x3 => L_X10_isWordAt_4 v_from v_at v_end g_cells f_words x1 post n4 x2 x3) x1 x2 1 x3) ∧ (¬ (f_words x2.toNatClampNeg) = 0 → F_X10_isWordAt_24 (fun x2 x3 => L_X10_isWordAt_4 v_from v_at v_end g_cells f_words x1 post n4 x2 x3) x1 x2 0 x3)))))
def F_X10_isWordAt (v_from : Int32) (v_at : Int32) (v_end : Int32) (g_cells : Nat → Int64) (f_words : Nat → Int32) (x1 : Int32) (post : Int32 → Prop) : Prop := (∃ n4 : Nat, L_X10_isWordAt_4 v_from v_at v_end g_cells f_words x1 post n4 0 0)
set_option maxHeartbeats 4000000 in
set_option maxRecDepth 100000 in
theorem w_X10_isWordAt_37 {l : Launch} {D : va_G} {cI cJ cS : ClassId} {ad adK : Nat → Nat} {a_o a_cells a_words : Nat} {z_refused z_steps z_kind z_space z_other z_times z_speed z_base z_share z_notes z_pitch z_beats z_held z_sort z_size z_shown z_carried z_tell z_was z_kept z_cutSpace z_cutTimes z_cutOff z_trace : Value} {v_stretches : Int32} {v_cars : Int32} {v_tunes : Int32} {v_along : Int32} {v_near : Int32} {v_borne : Int32} {v_tempo : Int32} {v_seed : Int32} {v_fault : Int32} {v_from : Int32} {v_at : Int32} {v_end : Int32} {v_told : Int32} {v_wrongAt : Int32} {v_culprit : Int32} {v_ran : Int32} {v_isKept : Int32} {g_cells : Nat → Int64} {f_words : Nat → Int32} {post : Int32 → Prop} {k86 : Int32 → Prop} {p : Program} {e : Env} {s : State} {m : MethodId} {args : Array Value} {below : List Frame} {meth : Method} {c : Code} (S : CallFix p m c cX10_isWordAt 4 s args GW "RoadThatSingsModel") (hE : EN D cI cJ cS s) (hT : ST ad adK nof s s.heap) (hP : va_P D vwCl (wX10_isWordAt cI cJ cS a_o a_cells a_words z_refused z_steps z_kind z_space z_other z_times z_speed z_base z_share z_notes z_pitch z_beats z_held z_sort z_size z_shown z_carried z_tell z_was z_kept z_cutSpace z_cutTimes z_cutOff z_trace v_stretches v_cars v_tunes v_along v_near v_borne v_tempo v_seed v_fault v_from v_at v_end v_told v_wrongAt v_culprit v_ran v_isKept g_cells f_words) s.heap) (hS : va_S nof s.heap s.heap []) (hr : meth.sig.returnType = (some (.boolean))) (hlocks : meth.locks = false) (hk86 : ∀ (x2 : Int32) (ls : Array Slot), k86 x2 → lv_has ls 4 [(0, .ref a_o), (2, .int x2)] → W p l e (rmd 0 0 0) s m args below meth c s.heap [] 0 0 (MQ below (vp_Si post) args s 0 0 nof) (F0 m 86 ls [])) : ∀ n : Nat, ∀ (x2 : Int32) (x3 : Int32) (ls : Array Slot), L_X10_isWordAt_37 v_from v_end g_cells f_words k86 n x2 x3 → lv_has ls 4 [(0, .ref a_o), (2, .int x2), (3, .int x3)] → W p l e (rmd 0 0 0) s m args below meth c s.heap [] 0 0 (MQ below (vp_Si post) args s 0 0 nof) (F0 m 37 ls []) := by
  intro n
  induction n with
  | zero =>
    intro x2 x3 ls h hl
    exact h.elim
  | succ n ih =>
    intro x2 x3 ls h hl
    rw [L_X10_isWordAt_37] at h
    have hx := S.1
    have hb := S.2.1
    refine lv_aload_n hx hb dX10_isWordAt_37 rfl (lv_at hl 0 rfl) ?_
    refine gf S hE hP 0 rfl rfl inX10 (k := 27) (by decide) q1120 rfl dX10_isWordAt_38 ?_
    refine lv_iload_n hx hb dX10_isWordAt_41 rfl (lv_at hl 1 rfl) ?_
    obtain ⟨hi, h⟩ := h
    refine ial S hE hP 2 rfl hi dX10_isWordAt_42 ?_
    refine lv_bipush (v := 32) hx hb dX10_isWordAt_43 (by decide) ?_
    refine lv_icmp_le (tgt := 86) hx hb dX10_isWordAt_45 (by decide) (fun hc => ?_) (fun hc => ?_)
    · have h := h.1 hc
      exact hk86 _ _ h (lv_sub hl [0, 1] rfl)
    have h := h.2 hc
    refine lv_iload_n hx hb dX10_isWordAt_48 rfl (lv_at hl 2 rfl) ?_
    refine lv_aload_n hx hb dX10_isWordAt_49 rfl (lv_at hl 0 rfl) ?_
    refine gf S hE hP 0 rfl rfl inX10 (k := 31) (by decide) q1124 rfl dX10_isWordAt_50 ?_
    refine lv_icmp_ge (tgt := 86) hx hb dX10_isWordAt_53 (by decide) (fun hc => ?_) (fun hc => ?_)
    · have h := h.1 hc
      exact hk86 _ _ h (lv_sub hl [0, 1] rfl)
    have h := h.2 hc
    refine lv_aload_n hx hb dX10_isWordAt_56 rfl (lv_at hl 0 rfl) ?_
    refine gf S hE hP 0 rfl rfl inX10 (k := 25) (by decide) q1118 rfl dX10_isWordAt_57 ?_
    refine lv_aload_n hx hb dX10_isWordAt_60 rfl (lv_at hl 0 rfl) ?_
    refine gf S hE hP 0 rfl rfl inX10 (k := 29) (by decide) q1122 rfl dX10_isWordAt_61 ?_
    refine lv_iload_n hx hb dX10_isWordAt_64 rfl (lv_at hl 2 rfl) ?_
    refine lv_iadd hx hb dX10_isWordAt_65 ?_
    obtain ⟨hi, h⟩ := h
    refine lal S hE hP 1 rfl hi dX10_isWordAt_66 ?_
    refine lv_l2i hx hb dX10_isWordAt_67 rfl ?_
    refine lv_aload_n hx hb dX10_isWordAt_68 rfl (lv_at hl 0 rfl) ?_
    refine gf S hE hP 0 rfl rfl inX10 (k := 27) (by decide) q1120 rfl dX10_isWordAt_69 ?_
    refine lv_iload_n hx hb dX10_isWordAt_72 rfl (lv_at hl 1 rfl) ?_
    obtain ⟨hi, h⟩ := h
    refine ial S hE hP 2 rfl hi dX10_isWordAt_73 ?_
    refine lv_icmp_ne (tgt := 86) hx hb dX10_isWordAt_74 (by decide) (fun hc => ?_) (fun hc => ?_)
    · have h := h.2 hc
      exact hk86 _ _ h (lv_sub hl [0, 1] rfl)
    have h := h.1 hc
    obtain ⟨x3_77, ex3_77⟩ : ∃ z : Int32, z = x3 + 1 := ⟨_, rfl⟩
    have h := h _ ex3_77
    refine lv_iinc (v := x3_77) (lv' := [(3, .int x3_77), (0, .ref a_o), (2, .int x2)]) hx hb dX10_isWordAt_77 hl (k := 2) rfl (by rw [ex3_77]; rfl) (by decide) rfl (fun ls hl => ?_)
    obtain ⟨x2_80, ex2_80⟩ : ∃ z : Int32, z = x2 + 1 := ⟨_, rfl⟩
    have h := h _ ex2_80
    refine lv_iinc (v := x2_80) (lv' := [(2, .int x2_80), (3, .int x3_77), (0, .ref a_o)]) hx hb dX10_isWordAt_80 hl (k := 2) rfl (by rw [ex2_80]; rfl) (by decide) rfl (fun ls hl => ?_)
    refine lv_goto (tgt := 37) hx hb dX10_isWordAt_83 (by decide) ?_
    exact ih _ _ _ h (lv_sub hl [2, 0, 1] rfl)
set_option maxHeartbeats 4000000 in
set_option maxRecDepth 100000 in
theorem w_X10_isWordAt_86 {l : Launch} {D : va_G} {cI cJ cS : ClassId} {ad adK : Nat → Nat} {a_o a_cells a_words : Nat} {z_refused z_steps z_kind z_space z_other z_times z_speed z_base z_share z_notes z_pitch z_beats z_held z_sort z_size z_shown z_carried z_tell z_was z_kept z_cutSpace z_cutTimes z_cutOff z_trace : Value} {v_stretches : Int32} {v_cars : Int32} {v_tunes : Int32} {v_along : Int32} {v_near : Int32} {v_borne : Int32} {v_tempo : Int32} {v_seed : Int32} {v_fault : Int32} {v_from : Int32} {v_at : Int32} {v_end : Int32} {v_told : Int32} {v_wrongAt : Int32} {v_culprit : Int32} {v_ran : Int32} {v_isKept : Int32} {g_cells : Nat → Int64} {f_words : Nat → Int32} {x2 : Int32} {post : Int32 → Prop} {p : Program} {e : Env} {s : State} {m : MethodId} {args : Array Value} {below : List Frame} {meth : Method} {c : Code} (S : CallFix p m c cX10_isWordAt 4 s args GW "RoadThatSingsModel") (hE : EN D cI cJ cS s) (hT : ST ad adK nof s s.heap) (hP : va_P D vwCl (wX10_isWordAt cI cJ cS a_o a_cells a_words z_refused z_steps z_kind z_space z_other z_times z_speed z_base z_share z_notes z_pitch z_beats z_held z_sort z_size z_shown z_carried z_tell z_was z_kept z_cutSpace z_cutTimes z_cutOff z_trace v_stretches v_cars v_tunes v_along v_near v_borne v_tempo v_seed v_fault v_from v_at v_end v_told v_wrongAt v_culprit v_ran v_isKept g_cells f_words) s.heap) (hS : va_S nof s.heap s.heap []) (hr : meth.sig.returnType = (some (.boolean))) (hlocks : meth.locks = false) : ∀ (ls : Array Slot), F_X10_isWordAt_86 f_words post x2 → lv_has ls 4 [(0, .ref a_o), (2, .int x2)] → W p l e (rmd 0 0 0) s m args below meth c s.heap [] 0 0 (MQ below (vp_Si post) args s 0 0 nof) (F0 m 86 ls []) := by
  intro  ls h hl
  unfold F_X10_isWordAt_86 at h
  have hx := S.1
  have hb := S.2.1
  refine lv_aload_n hx hb dX10_isWordAt_86 rfl (lv_at hl 0 rfl) ?_
  refine gf S hE hP 0 rfl rfl inX10 (k := 27) (by decide) q1120 rfl dX10_isWordAt_87 ?_
  refine lv_iload_n hx hb dX10_isWordAt_90 rfl (lv_at hl 1 rfl) ?_
  obtain ⟨hi, h⟩ := h
  refine ial S hE hP 2 rfl hi dX10_isWordAt_91 ?_
  refine lv_bipush (v := 32) hx hb dX10_isWordAt_92 (by decide) ?_
  refine lv_icmp_gt (tgt := 101) hx hb dX10_isWordAt_94 (by decide) (fun hc => ?_) (fun hc => ?_)
  · have h := h.1 hc
    refine lv_iconst (v := 0) hx hb dX10_isWordAt_101 (by decide) ?_
    exact W.zret hx hb hr rfl (fun t ht _ => ⟨_, rfl, h, ht⟩) (fun _ hq => by cases hq) dX10_isWordAt_102
  have h := h.2 hc
  refine lv_iconst (v := 1) hx hb dX10_isWordAt_97 (by decide) ?_
  refine lv_goto (tgt := 102) hx hb dX10_isWordAt_98 (by decide) ?_
  exact W.zret hx hb hr rfl (fun t ht _ => ⟨_, rfl, h, ht⟩) (fun _ hq => by cases hq) dX10_isWordAt_102
set_option maxHeartbeats 4000000 in
set_option maxRecDepth 100000 in
theorem w_X10_isWordAt_24 {l : Launch} {D : va_G} {cI cJ cS : ClassId} {ad adK : Nat → Nat} {a_o a_cells a_words : Nat} {z_refused z_steps z_kind z_space z_other z_times z_speed z_base z_share z_notes z_pitch z_beats z_held z_sort z_size z_shown z_carried z_tell z_was z_kept z_cutSpace z_cutTimes z_cutOff z_trace : Value} {v_stretches : Int32} {v_cars : Int32} {v_tunes : Int32} {v_along : Int32} {v_near : Int32} {v_borne : Int32} {v_tempo : Int32} {v_seed : Int32} {v_fault : Int32} {v_from : Int32} {v_at : Int32} {v_end : Int32} {v_told : Int32} {v_wrongAt : Int32} {v_culprit : Int32} {v_ran : Int32} {v_isKept : Int32} {g_cells : Nat → Int64} {f_words : Nat → Int32} {x1 : Int32} {x2 : Int32} {s0 : Int32} {s1 : Int32} {post : Int32 → Prop} {k4 : Int32 → Int32 → Prop} {p : Program} {e : Env} {s : State} {m : MethodId} {args : Array Value} {below : List Frame} {meth : Method} {c : Code} (S : CallFix p m c cX10_isWordAt 4 s args GW "RoadThatSingsModel") (hE : EN D cI cJ cS s) (hT : ST ad adK nof s s.heap) (hP : va_P D vwCl (wX10_isWordAt cI cJ cS a_o a_cells a_words z_refused z_steps z_kind z_space z_other z_times z_speed z_base z_share z_notes z_pitch z_beats z_held z_sort z_size z_shown z_carried z_tell z_was z_kept z_cutSpace z_cutTimes z_cutOff z_trace v_stretches v_cars v_tunes v_along v_near v_borne v_tempo v_seed v_fault v_from v_at v_end v_told v_wrongAt v_culprit v_ran v_isKept g_cells f_words) s.heap) (hS : va_S nof s.heap s.heap []) (hr : meth.sig.returnType = (some (.boolean))) (hlocks : meth.locks = false) (hk4 : ∀ (x2 : Int32) (x3 : Int32) (ls : Array Slot), k4 x2 x3 → lv_has ls 4 [(0, .ref a_o), (1, .int x1), (2, .int x2), (3, .int x3)] → W p l e (rmd 0 0 0) s m args below meth c s.heap [] 0 0 (MQ below (vp_Si post) args s 0 0 nof) (F0 m 4 ls [])) : ∀ (ls : Array Slot), F_X10_isWordAt_24 k4 x1 x2 s0 s1 → lv_has ls 4 [(0, .ref a_o), (1, .int x1), (2, .int x2)] → W p l e (rmd 0 0 0) s m args below meth c s.heap [] 0 0 (MQ below (vp_Si post) args s 0 0 nof) (F0 m 24 ls [.int s0, .int s1]) := by
  intro  ls h hl
  unfold F_X10_isWordAt_24 at h
  have hx := S.1
  have hb := S.2.1
  refine lv_iadd hx hb dX10_isWordAt_24 ?_
  refine lv_topi (fun x3_25 ex3_25 => ?_)
  have h := h _ ex3_25
  refine lv_istore_n (lv' := [(3, .int x3_25), (0, .ref a_o), (1, .int x1), (2, .int x2)]) hx hb dX10_isWordAt_25 rfl hl (by decide) rfl (fun ls hl => ?_)
  obtain ⟨x2_26, ex2_26⟩ : ∃ z : Int32, z = x2 + 1 := ⟨_, rfl⟩
  have h := h _ ex2_26
  refine lv_iinc (v := x2_26) (lv' := [(2, .int x2_26), (3, .int x3_25), (0, .ref a_o), (1, .int x1)]) hx hb dX10_isWordAt_26 hl (k := 3) rfl (by rw [ex2_26]; rfl) (by decide) rfl (fun ls hl => ?_)
  refine lv_goto (tgt := 4) hx hb dX10_isWordAt_29 (by decide) ?_
  exact hk4 _ _ _ h (lv_sub hl [2, 3, 0, 1] rfl)
set_option maxHeartbeats 4000000 in
set_option maxRecDepth 100000 in
theorem w_X10_isWordAt_4 {l : Launch} {D : va_G} {cI cJ cS : ClassId} {ad adK : Nat → Nat} {a_o a_cells a_words : Nat} {z_refused z_steps z_kind z_space z_other z_times z_speed z_base z_share z_notes z_pitch z_beats z_held z_sort z_size z_shown z_carried z_tell z_was z_kept z_cutSpace z_cutTimes z_cutOff z_trace : Value} {v_stretches : Int32} {v_cars : Int32} {v_tunes : Int32} {v_along : Int32} {v_near : Int32} {v_borne : Int32} {v_tempo : Int32} {v_seed : Int32} {v_fault : Int32} {v_from : Int32} {v_at : Int32} {v_end : Int32} {v_told : Int32} {v_wrongAt : Int32} {v_culprit : Int32} {v_ran : Int32} {v_isKept : Int32} {g_cells : Nat → Int64} {f_words : Nat → Int32} {x1 : Int32} {post : Int32 → Prop} {p : Program} {e : Env} {s : State} {m : MethodId} {args : Array Value} {below : List Frame} {meth : Method} {c : Code} (S : CallFix p m c cX10_isWordAt 4 s args GW "RoadThatSingsModel") (hE : EN D cI cJ cS s) (hT : ST ad adK nof s s.heap) (hP : va_P D vwCl (wX10_isWordAt cI cJ cS a_o a_cells a_words z_refused z_steps z_kind z_space z_other z_times z_speed z_base z_share z_notes z_pitch z_beats z_held z_sort z_size z_shown z_carried z_tell z_was z_kept z_cutSpace z_cutTimes z_cutOff z_trace v_stretches v_cars v_tunes v_along v_near v_borne v_tempo v_seed v_fault v_from v_at v_end v_told v_wrongAt v_culprit v_ran v_isKept g_cells f_words) s.heap) (hS : va_S nof s.heap s.heap []) (hr : meth.sig.returnType = (some (.boolean))) (hlocks : meth.locks = false) : ∀ n : Nat, ∀ (x2 : Int32) (x3 : Int32) (ls : Array Slot), L_X10_isWordAt_4 v_from v_at v_end g_cells f_words x1 post n x2 x3 → lv_has ls 4 [(0, .ref a_o), (1, .int x1), (2, .int x2), (3, .int x3)] → W p l e (rmd 0 0 0) s m args below meth c s.heap [] 0 0 (MQ below (vp_Si post) args s 0 0 nof) (F0 m 4 ls []) := by
  intro n
  induction n with
  | zero =>
    intro x2 x3 ls h hl
    exact h.elim
  | succ n ih =>
    intro x2 x3 ls h hl
    rw [L_X10_isWordAt_4] at h
    have hx := S.1
    have hb := S.2.1
    refine lv_iload_n hx hb dX10_isWordAt_4 rfl (lv_at hl 3 rfl) ?_
    refine lv_iload_n hx hb dX10_isWordAt_5 rfl (lv_at hl 1 rfl) ?_
    refine lv_icmp_ge (tgt := 32) hx hb dX10_isWordAt_6 (by decide) (fun hc => ?_) (fun hc => ?_)
    · have h := h.1 hc
      refine lv_aload_n hx hb dX10_isWordAt_32 rfl (lv_at hl 0 rfl) ?_
      refine gf S hE hP 0 rfl rfl inX10 (k := 30) (by decide) q1123 rfl dX10_isWordAt_33 ?_
      refine lv_istore_n (lv' := [(3, .int v_at), (0, .ref a_o), (1, .int x1), (2, .int x2)]) hx hb dX10_isWordAt_36 rfl hl (by decide) rfl (fun ls hl => ?_)
      obtain ⟨n, h⟩ := h
      refine w_X10_isWordAt_37 S hE hT hP hS hr hlocks (fun x2_1 ls h hl => ?_) n _ _ _ h (lv_sub hl [1, 3, 0] rfl)
      refine w_X10_isWordAt_86 S hE hT hP hS hr hlocks _ h (lv_sub hl [0, 1] rfl)
    have h := h.2 hc
    refine lv_iload_n hx hb dX10_isWordAt_9 rfl (lv_at hl 3 rfl) ?_
    refine lv_aload_n hx hb dX10_isWordAt_10 rfl (lv_at hl 0 rfl) ?_
    refine gf S hE hP 0 rfl rfl inX10 (k := 27) (by decide) q1120 rfl dX10_isWordAt_11 ?_
    refine lv_iload_n hx hb dX10_isWordAt_14 rfl (lv_at hl 2 rfl) ?_
    obtain ⟨hi, h⟩ := h
    refine ial S hE hP 2 rfl hi dX10_isWordAt_15 ?_
    refine lv_if_ne (tgt := 23) hx hb dX10_isWordAt_16 (by decide) (fun hc => ?_) (fun hc => ?_)
    · have h := h.2 hc
      refine lv_iconst (v := 0) hx hb dX10_isWordAt_23 (by decide) ?_
      refine w_X10_isWordAt_24 S hE hT hP hS hr hlocks ih _ h (lv_sub hl [0, 1, 2] rfl)
    have h := h.1 hc
    refine lv_iconst (v := 1) hx hb dX10_isWordAt_19 (by decide) ?_
    refine lv_goto (tgt := 24) hx hb dX10_isWordAt_20 (by decide) ?_
    refine w_X10_isWordAt_24 S hE hT hP hS hr hlocks ih _ h (lv_sub hl [0, 1, 2] rfl)
set_option maxHeartbeats 4000000 in
set_option maxRecDepth 100000 in
theorem c_X10_isWordAt {l : Launch} {D : va_G} {cI cJ cS : ClassId} {ad adK : Nat → Nat} {a_o a_cells a_words : Nat} {z_refused z_steps z_kind z_space z_other z_times z_speed z_base z_share z_notes z_pitch z_beats z_held z_sort z_size z_shown z_carried z_tell z_was z_kept z_cutSpace z_cutTimes z_cutOff z_trace : Value} {v_stretches : Int32} {v_cars : Int32} {v_tunes : Int32} {v_along : Int32} {v_near : Int32} {v_borne : Int32} {v_tempo : Int32} {v_seed : Int32} {v_fault : Int32} {v_from : Int32} {v_at : Int32} {v_end : Int32} {v_told : Int32} {v_wrongAt : Int32} {v_culprit : Int32} {v_ran : Int32} {v_isKept : Int32} {g_cells : Nat → Int64} {f_words : Nat → Int32} {x1 : Int32} {post : Int32 → Prop} (h : F_X10_isWordAt v_from v_at v_end g_cells f_words x1 post) : Met l yX10_isWordAt (Cond.code yX10_isWordAt cX10_isWordAt 4 (some (.boolean)) :: GW) (rmd 0 0 0) (PR D cI cJ cS ad adK [.ref a_o, .int x1] (wX10_isWordAt cI cJ cS a_o a_cells a_words z_refused z_steps z_kind z_space z_other z_times z_speed z_base z_share z_notes z_pitch z_beats z_held z_sort z_size z_shown z_carried z_tell z_was z_kept z_cutSpace z_cutTimes z_cutOff z_trace v_stretches v_cars v_tunes v_along v_near v_borne v_tempo v_seed v_fault v_from v_at v_end v_told v_wrongAt v_culprit v_ran v_isKept g_cells f_words)) (vp_Si post) 0 0 nof := by
  refine Met.ro (by decide) (Nat.le_of_ble_eq_true rfl) (fun p e s m args below meth c ls (S : CallFix p m c cX10_isWordAt 4 s args GW "RoadThatSingsModel") hE hT hP hS hr hlocks hl => ?_)
  have hx := S.1
  have hb := S.2.1
  have hl : lv_has ls 4 [(0, .ref a_o), (1, .int x1)] := hl
  unfold F_X10_isWordAt at h
  refine lv_iconst (v := 0) hx hb dX10_isWordAt_0 (by decide) ?_
  refine lv_istore_n (lv' := [(2, .int 0), (0, .ref a_o), (1, .int x1)]) hx hb dX10_isWordAt_1 rfl hl (by decide) rfl (fun ls hl => ?_)
  refine lv_iconst (v := 0) hx hb dX10_isWordAt_2 (by decide) ?_
  refine lv_istore_n (lv' := [(3, .int 0), (2, .int 0), (0, .ref a_o), (1, .int x1)]) hx hb dX10_isWordAt_3 rfl hl (by decide) rfl (fun ls hl => ?_)
  obtain ⟨n, h⟩ := h
  refine w_X10_isWordAt_4 S hE hT hP hS hr hlocks n _ _ _ h (lv_sub hl [2, 3, 1, 0] rfl)
/-! X10_item -/
abbrev wX10_item (cI cJ cS : ClassId) (a_o a_base a_beats a_cells a_kind a_notes a_other a_pitch a_share a_space a_speed a_tell a_times a_words : Nat) (z_refused z_steps z_held z_sort z_size z_shown z_carried z_was z_kept z_cutSpace z_cutTimes z_cutOff z_trace : Value) (v_stretches : Int32) (v_cars : Int32) (v_tunes : Int32) (v_along : Int32) (v_near : Int32) (v_borne : Int32) (v_tempo : Int32) (v_seed : Int32) (v_fault : Int32) (v_from : Int32) (v_at : Int32) (v_end : Int32) (v_told : Int32) (v_wrongAt : Int32) (v_culprit : Int32) (v_ran : Int32) (v_isKept : Int32) (f_base : Nat → Int32) (f_beats : Nat → Int32) (g_cells : Nat → Int64) (f_kind : Nat → Int32) (f_notes : Nat → Int32) (f_other : Nat → Int32) (f_pitch : Nat → Int32) (f_share : Nat → Int32) (f_space : Nat → Int32) (f_speed : Nat → Int32) (f_tell : Nat → Int32) (f_times : Nat → Int32) (f_words : Nat → Int32) : va_W := [(a_o, .inr (9, [.int v_stretches, .int v_cars, .int v_tunes, .int v_along, .int v_near, .int v_borne, .int v_tempo, .int v_seed, .int v_fault, z_refused, z_steps, .ref a_kind, .ref a_space, .ref a_other, .ref a_times, .ref a_speed, .ref a_base, .ref a_share, .ref a_notes, .ref a_pitch, .ref a_beats, z_held, z_sort, z_size, z_shown, .ref a_cells, z_carried, .ref a_words, .ref a_tell, .int v_from, .int v_at, .int v_end, .int v_told, .int v_wrongAt, z_was, z_kept, .int v_culprit, z_cutSpace, z_cutTimes, z_cutOff, z_trace, .int v_ran, .int v_isKept])), (a_base, .inl (cI, 6, .inl f_base)), (a_beats, .inl (cI, 72, .inl f_beats)), (a_cells, .inl (cJ, 1280, .inr (.inl g_cells))), (a_kind, .inl (cI, 16, .inl f_kind)), (a_notes, .inl (cI, 6, .inl f_notes)), (a_other, .inl (cI, 16, .inl f_other)), (a_pitch, .inl (cI, 72, .inl f_pitch)), (a_share, .inl (cI, 6, .inl f_share)), (a_space, .inl (cI, 16, .inl f_space)), (a_speed, .inl (cI, 6, .inl f_speed)), (a_tell, .inl (cI, 3, .inl f_tell)), (a_times, .inl (cI, 16, .inl f_times)), (a_words, .inl (cI, 79, .inl f_words))]
def F_X10_item_327 (post : Int32 → Int32 → Int32 → Int32 → Int32 → Int32 → Int32 → Int32 → Int32 → Int32 → Int32 → (Nat → Int32) → (Nat → Int32) → (Nat → Int32) → (Nat → Int32) → (Nat → Int32) → (Nat → Int32) → (Nat → Int32) → (Nat → Int32) → (Nat → Int32) → (Nat → Int32) → (Nat → Int32) → Prop) (v_stretches : Int32) (v_cars : Int32) (v_tunes : Int32) (v_along : Int32) (v_near : Int32) (v_borne : Int32) (v_tempo : Int32) (v_at : Int32) (v_told : Int32) (v_wrongAt : Int32) (f_base : Nat → Int32) (f_beats : Nat → Int32) (f_kind : Nat → Int32) (f_notes : Nat → Int32) (f_other : Nat → Int32) (f_pitch : Nat → Int32) (f_share : Nat → Int32) (f_space : Nat → Int32) (f_speed : Nat → Int32) (f_tell : Nat → Int32) (f_times : Nat → Int32) (s0 : Int32) : Prop := (F_X10_comes v_stretches f_kind f_other f_space f_times s0 (f_tell (0 : Int32).toNatClampNeg) 0 (f_tell (1 : Int32).toNatClampNeg) (fun w340_0 w340_1 w340_2 w340_3 w340_4 => post 1 w340_0 v_cars v_tunes v_along v_near v_borne v_tempo v_at v_told v_wrongAt f_base f_beats w340_1 f_notes w340_2 f_pitch f_share w340_3 f_speed f_tell w340_4))
def F_X10_item_367 (post : Int32 → Int32 → Int32 → Int32 → Int32 → Int32 → Int32 → Int32 → Int32 → Int32 → Int32 → (Nat → Int32) → (Nat → Int32) → (Nat → Int32) → (Nat → Int32) → (Nat → Int32) → (Nat → Int32) → (Nat → Int32) → (Nat → Int32) → (Nat → Int32) → (Nat → Int32) → (Nat → Int32) → Prop) (v_stretches : Int32) (v_cars : Int32) (v_tunes : Int32) (v_along : Int32) (v_near : Int32) (v_borne : Int32) (v_tempo : Int32) (v_at : Int32) (v_told : Int32) (v_wrongAt : Int32) (f_base : Nat → Int32) (f_beats : Nat → Int32) (f_kind : Nat → Int32) (f_notes : Nat → Int32) (f_other : Nat → Int32) (f_pitch : Nat → Int32) (f_share : Nat → Int32) (f_space : Nat → Int32) (f_speed : Nat → Int32) (f_tell : Nat → Int32) (f_times : Nat → Int32) (s0 : Int32) : Prop := (F_X10_comes v_stretches f_kind f_other f_space f_times s0 (f_tell (0 : Int32).toNatClampNeg) (f_tell (1 : Int32).toNatClampNeg) (f_tell (2 : Int32).toNatClampNeg) (fun w385_0 w385_1 w385_2 w385_3 w385_4 => post 1 w385_0 v_cars v_tunes v_along v_near v_borne v_tempo v_at v_told v_wrongAt f_base f_beats w385_1 f_notes w385_2 f_pitch f_share w385_3 f_speed f_tell w385_4))
def F_X10_item_206 (v_from : Int32) (v_end : Int32) (g_cells : Nat → Int64) (post : Int32 → Int32 → Int32 → Int32 → Int32 → Int32 → Int32 → Int32 → Int32 → Int32 → Int32 → (Nat → Int32) → (Nat → Int32) → (Nat → Int32) → (Nat → Int32) → (Nat → Int32) → (Nat → Int32) → (Nat → Int32) → (Nat → Int32) → (Nat → Int32) → (Nat → Int32) → (Nat → Int32) → Prop) (k145 : Int32 → Int32 → Int32 → Int32 → Int32 → Int32 → Int32 → Int32 → Int32 → Int32 → Int32 → (Nat → Int32) → (Nat → Int32) → (Nat → Int32) → (Nat → Int32) → (Nat → Int32) → (Nat → Int32) → (Nat → Int32) → (Nat → Int32) → (Nat → Int32) → (Nat → Int32) → (Nat → Int32) → Prop) (x2 : Int32) (x3 : Int32) (x4 : Int32) (v_stretches : Int32) (v_cars : Int32) (v_tunes : Int32) (v_along : Int32) (v_near : Int32) (v_borne : Int32) (v_tempo : Int32) (v_at : Int32) (v_told : Int32) (v_wrongAt : Int32) (f_base : Nat → Int32) (f_beats : Nat → Int32) (f_kind : Nat → Int32) (f_notes : Nat → Int32) (f_other : Nat → Int32) (f_pitch : Nat → Int32) (f_share : Nat → Int32) (f_space : Nat → Int32) (f_speed : Nat → Int32) (f_tell : Nat → Int32) (f_times : Nat → Int32) : Prop := (F_X10_low x2 x4 (fun r211 => (F_X10_high v_cars f_share x2 x4 (fun r218 => (F_X10_number v_from v_at v_end v_told v_wrongAt g_cells r211 r218 (fun r221 w221_0 w221_1 w221_2 => ((r221 = 0 → post 0 v_stretches v_cars v_tunes v_along v_near v_borne v_tempo w221_0 w221_1 w221_2 f_base f_beats f_kind f_notes f_other f_pitch f_share f_space f_speed f_tell f_times) ∧ (¬ r221 = 0 → (vp_in x4 3 ∧ (∀ x4_240 : Int32, x4_240 = x4 + 1 → k145 x4_240 v_stretches v_cars v_tunes v_along v_near v_borne v_tempo w221_0 w221_1 w221_2 f_base f_beats f_kind f_notes f_other f_pitch f_share f_space f_speed (upd f_tell x4.toNatClampNeg w221_1) f_times))))))))))
def L_X10_item_145 (v_from : Int32) (v_end : Int32) (g_cells : Nat → Int64) (x2 : Int32) (x3 : Int32) (post : Int32 → Int32 → Int32 → Int32 → Int32 → Int32 → Int32 → Int32 → Int32 → Int32 → Int32 → (Nat → Int32) → (Nat → Int32) → (Nat → Int32) → (Nat → Int32) → (Nat → Int32) → (Nat → Int32) → (Nat → Int32) → (Nat → Int32) → (Nat → Int32) → (Nat → Int32) → (Nat → Int32) → Prop) : Nat → Int32 → Int32 → Int32 → Int32 → Int32 → Int32 → Int32 → Int32 → Int32 → Int32 → Int32 → (Nat → Int32) → (Nat → Int32) → (Nat → Int32) → (Nat → Int32) → (Nat → Int32) → (Nat → Int32) → (Nat → Int32) → (Nat → Int32) → (Nat → Int32) → (Nat → Int32) → (Nat → Int32) → Prop
  | 0, _, _, _, _, _, _, _, _, _, _, _, _, _, _, _, _, _, _, _, _, _, _ => False
  | n145 + 1, x4, v_stretches, v_cars, v_tunes, v_along, v_near, v_borne, v_tempo, v_at, v_told, v_wrongAt, f_base, f_beats, f_kind, f_notes, f_other, f_pitch, f_share, f_space, f_speed, f_tell, f_times => ((x3 ≤ x4 → ((x2 = 0 → ((x2 = 0 → F_X10_item_327 post v_stretches v_cars v_tunes v_along v_near v_borne v_tempo v_at v_told v_wrongAt f_base f_beats f_kind f_notes f_other f_pitch f_share f_space f_speed f_tell f_times 1) ∧ (¬ x2 = 0 → ((x2 = 2 → F_X10_item_327 post v_stretches v_cars v_tunes v_along v_near v_borne v_tempo v_at v_told v_wrongAt f_base f_beats f_kind f_notes f_other f_pitch f_share f_space f_speed f_tell f_times 3) ∧ (¬ x2 = 2 → F_X10_item_327 post v_stretches v_cars v_tunes v_along v_near v_borne v_tempo v_at v_told v_wrongAt f_base f_beats f_kind f_notes f_other f_pitch f_share f_space f_speed f_tell f_times 4))))) ∧ (¬ x2 = 0 → ((x2 = 1 → ((x2 = 1 → F_X10_item_367 post v_stretches v_cars v_tunes v_along v_near v_borne v_tempo v_at v_told v_wrongAt f_base f_beats f_kind f_notes f_other f_pitch f_share f_space f_speed f_tell f_times 2) ∧ (¬ x2 = 1 → ((x2 = 4 → F_X10_item_367 post v_stretches v_cars v_tunes v_along v_near v_borne v_tempo v_at v_told v_wrongAt f_base f_beats f_kind f_notes f_other f_pitch f_share f_space f_speed f_tell f_times 5) ∧ (¬ x2 = 4 → F_X10_item_367 post v_stretches v_cars v_tunes v_along v_near v_borne v_tempo v_at v_told v_wrongAt f_base f_beats f_kind f_notes f_other f_pitch f_share f_space f_speed f_tell f_times 6))))) ∧ (¬ x2 = 1 → ((x2 = 2 → ((x2 = 0 → F_X10_item_327 post v_stretches v_cars v_tunes v_along v_near v_borne v_tempo v_at v_told v_wrongAt f_base f_beats f_kind f_notes f_other f_pitch f_share f_space f_speed f_tell f_times 1) ∧ (¬ x2 = 0 → ((x2 = 2 → F_X10_item_327 post v_stretches v_cars v_tunes v_along v_near v_borne v_tempo v_at v_told v_wrongAt f_base f_beats f_kind f_notes f_other f_pitch f_share f_space f_speed f_tell f_times 3) ∧ (¬ x2 = 2 → F_X10_item_327 post v_stretches v_cars v_tunes v_along v_near v_borne v_tempo v_at v_told v_wrongAt f_base f_beats f_kind f_notes f_other f_pitch f_share f_space f_speed f_tell f_times 4))))) ∧ (¬ x2 = 2 → ((x2 = 3 → ((x2 = 0 → F_X10_item_327 post v_stretches v_cars v_tunes v_along v_near v_borne v_tempo v_at v_told v_wrongAt f_base f_beats f_kind f_notes f_other f_pitch f_share f_space f_speed f_tell f_times 1) ∧ (¬ x2 = 0 → ((x2 = 2 → F_X10_item_327 post v_stretches v_cars v_tunes v_along v_near v_borne v_tempo v_at v_told v_wrongAt f_base f_beats f_kind f_notes f_other f_pitch f_share f_space f_speed f_tell f_times 3) ∧ (¬ x2 = 2 → F_X10_item_327 post v_stretches v_cars v_tunes v_along v_near v_borne v_tempo v_at v_told v_wrongAt f_base f_beats f_kind f_notes f_other f_pitch f_share f_space f_speed f_tell f_times 4))))) ∧ (¬ x2 = 3 → ((x2 = 4 → ((x2 = 1 → F_X10_item_367 post v_stretches v_cars v_tunes v_along v_near v_borne v_tempo v_at v_told v_wrongAt f_base f_beats f_kind f_notes f_other f_pitch f_share f_space f_speed f_tell f_times 2) ∧ (¬ x2 = 1 → ((x2 = 4 → F_X10_item_367 post v_stretches v_cars v_tunes v_along v_near v_borne v_tempo v_at v_told v_wrongAt f_base f_beats f_kind f_notes f_other f_pitch f_share f_space f_speed f_tell f_times 5) ∧ (¬ x2 = 4 → F_X10_item_367 post v_stretches v_cars v_tunes v_along v_near v_borne v_tempo v_at v_told v_wrongAt f_base f_beats f_kind f_notes f_other f_pitch f_share f_space f_speed f_tell f_times 6))))) ∧ (¬ x2 = 4 → ((x2 = 5 → ((x2 = 1 → F_X10_item_367 post v_stretches v_cars v_tunes v_along v_near v_borne v_tempo v_at v_told v_wrongAt f_base f_beats f_kind f_notes f_other f_pitch f_share f_space f_speed f_tell f_times 2) ∧ (¬ x2 = 1 → ((x2 = 4 → F_X10_item_367 post v_stretches v_cars v_tunes v_along v_near v_borne v_tempo v_at v_told v_wrongAt f_base f_beats f_kind f_notes f_other f_pitch f_share f_space f_speed f_tell f_times 5) ∧ (¬ x2 = 4 → F_X10_item_367 post v_stretches v_cars v_tunes v_along v_near v_borne v_tempo v_at v_told v_wrongAt f_base f_beats f_kind f_notes f_other f_pitch f_share f_space f_speed f_tell f_times 6))))) ∧ (¬ x2 = 5 → ((x2 = 6 → (F_X10_cars v_cars f_base f_share f_speed (f_tell (0 : Int32).toNatClampNeg) (f_tell (1 : Int32).toNatClampNeg) (f_tell (2 : Int32).toNatClampNeg) (fun r410 w410_0 w410_1 w410_2 w410_3 => post 1 v_stretches w410_0 v_tunes v_along v_near v_borne v_tempo v_at v_told v_wrongAt w410_1 f_beats f_kind f_notes f_other f_pitch w410_2 f_space w410_3 f_tell f_times))) ∧ (¬ x2 = 6 → ((x2 = 7 → (vp_in v_tunes 6 ∧ post 1 v_stretches v_cars (v_tunes + 1) v_along v_near v_borne v_tempo v_at v_told v_wrongAt f_base f_beats f_kind (upd f_notes v_tunes.toNatClampNeg 0) f_other f_pitch f_share f_space f_speed f_tell f_times)) ∧ (¬ x2 = 7 → ((x2 = 8 → (∀ x4_443 : Int32, x4_443 = v_tunes - 1 → (vp_in x4_443 6 ∧ (∀ x5_458 : Int32, x5_458 = (12 * x4_443) + (f_notes x4_443.toNatClampNeg) → (vp_in x5_458 72 ∧ (vp_in x5_458 72 ∧ (vp_in x4_443 6 ∧ (vp_in x4_443 6 ∧ post 1 v_stretches v_cars v_tunes v_along v_near v_borne v_tempo v_at v_told v_wrongAt f_base (upd f_beats x5_458.toNatClampNeg (f_tell (1 : Int32).toNatClampNeg)) f_kind (upd f_notes x4_443.toNatClampNeg ((f_notes x4_443.toNatClampNeg) + 1)) f_other (upd f_pitch x5_458.toNatClampNeg (f_tell (0 : Int32).toNatClampNeg)) f_share f_space f_speed f_tell f_times)))))))) ∧ (¬ x2 = 8 → ((x2 = 9 → post 1 v_stretches v_cars v_tunes (f_tell (0 : Int32).toNatClampNeg) v_near v_borne v_tempo v_at v_told v_wrongAt f_base f_beats f_kind f_notes f_other f_pitch f_share f_space f_speed f_tell f_times) ∧ (¬ x2 = 9 → ((x2 = 10 → post 1 v_stretches v_cars v_tunes v_along (f_tell (0 : Int32).toNatClampNeg) v_borne v_tempo v_at v_told v_wrongAt f_base f_beats f_kind f_notes f_other f_pitch f_share f_space f_speed f_tell f_times) ∧ (¬ x2 = 10 → ((x2 = 11 → post 1 v_stretches v_cars v_tunes v_along v_near (f_tell (0 : Int32).toNatClampNeg) v_tempo v_at v_told v_wrongAt f_base f_beats f_kind f_notes f_other f_pitch f_share f_space f_speed f_tell f_times) ∧ (¬ x2 = 11 → post 1 v_stretches v_cars v_tunes v_along v_near v_borne (f_tell (0 : Int32).toNatClampNeg) v_at v_told v_wrongAt f_base f_beats f_kind f_notes f_other f_pitch f_share f_space f_speed f_tell f_times))))))))))))))))))))))))) ∧ (¬ x3 ≤ x4 → ((x4 ≤ 0 → F_X10_item_206 v_from v_end g_cells post (fun x4 v_stretches v_cars v_tunes v_along v_near v_borne v_tempo v_at v_told v_wrongAt f_base f_beats f_kind f_notes f_other f_pitch f_share f_space f_speed f_tell f_times => L_X10_item_145 v_from v_end g_cells x2 x3 post n145 x4 v_stretches v_cars v_tunes v_along v_near v_borne v_tempo v_at v_told v_wrongAt f_base f_beats f_kind f_notes f_other f_pitch f_share f_space f_speed f_tell f_times) x2 x3 x4 v_stretches v_cars v_tunes v_along v_near v_borne v_tempo v_at v_told v_wrongAt f_base f_beats f_kind f_notes f_other f_pitch f_share f_space f_speed f_tell f_times) ∧ (¬ x4 ≤ 0 → ((v_end ≤ v_at → (F_X10_wrong v_wrongAt v_at (fun r192 w192_0 => (vb r192 ∧ post r192 v_stretches v_cars v_tunes v_along v_near v_borne v_tempo v_at v_told w192_0 f_base f_beats f_kind f_notes f_other f_pitch f_share f_space f_speed f_tell f_times)))) ∧ (¬ v_end ≤ v_at → (vp_in (v_from + v_at) 1280 ∧ ((((g_cells (v_from + v_at).toNatClampNeg).toInt32) = 32 → F_X10_item_206 v_from v_end g_cells post (fun x4 v_stretches v_cars v_tunes v_along v_near v_borne v_tempo v_at v_told v_wrongAt f_base f_beats f_kind f_notes f_other f_pitch f_share f_space f_speed f_tell f_times => L_X10_item_145 v_from v_end g_cells x2 x3 post n145 x4 v_stretches v_cars v_tunes v_along v_near v_borne v_tempo v_at v_told v_wrongAt f_base f_beats f_kind f_notes f_other f_pitch f_share f_space f_speed f_tell f_times) x2 x3 x4 v_stretches v_cars v_tunes v_along v_near v_borne v_tempo (v_at + 1) v_told v_wrongAt f_base f_beats f_kind f_notes f_other f_pitch f_share f_space f_speed f_tell f_times) ∧ (¬ ((g_cells (v_from + v_at).toNatClampNeg).toInt32) = 32 → (F_X10_wrong v_wrongAt v_at (fun r192 w192_0 => (vb r192 ∧ post r192 v_stretches v_cars v_tunes v_along v_near v_borne v_tempo v_at v_told w192_0 f_base f_beats f_kind f_notes f_other f_pitch f_share f_space f_speed f_tell f_times))))))))))))
def F_X10_item_136 (v_from : Int32) (v_end : Int32) (g_cells : Nat → Int64) (post : Int32 → Int32 → Int32 → Int32 → Int32 → Int32 → Int32 → Int32 → Int32 → Int32 → Int32 → (Nat → Int32) → (Nat → Int32) → (Nat → Int32) → (Nat → Int32) → (Nat → Int32) → (Nat → Int32) → (Nat → Int32) → (Nat → Int32) → (Nat → Int32) → (Nat → Int32) → (Nat → Int32) → Prop) (x2 : Int32) (v_stretches : Int32) (v_cars : Int32) (v_tunes : Int32) (v_along : Int32) (v_near : Int32) (v_borne : Int32) (v_tempo : Int32) (v_at : Int32) (v_told : Int32) (v_wrongAt : Int32) (f_base : Nat → Int32) (f_beats : Nat → Int32) (f_kind : Nat → Int32) (f_notes : Nat → Int32) (f_other : Nat → Int32) (f_pitch : Nat → Int32) (f_share : Nat → Int32) (f_space : Nat → Int32) (f_speed : Nat → Int32) (f_tell : Nat → Int32) (f_times : Nat → Int32) : Prop := (F_X10_many x2 (fun r138 => (∃ n145 : Nat, L_X10_item_145 v_from v_end g_cells x2 r138 post n145 0 v_stretches v_cars v_tunes v_along v_near v_borne v_tempo v_at v_told v_wrongAt f_base f_beats f_kind f_notes f_other f_pitch f_share f_space f_speed f_tell f_times)))
def F_X10_item_101 (v_from : Int32) (v_end : Int32) (g_cells : Nat → Int64) (post : Int32 → Int32 → Int32 → Int32 → Int32 → Int32 → Int32 → Int32 → Int32 → Int32 → Int32 → (Nat → Int32) → (Nat → Int32) → (Nat → Int32) → (Nat → Int32) → (Nat → Int32) → (Nat → Int32) → (Nat → Int32) → (Nat → Int32) → (Nat → Int32) → (Nat → Int32) → (Nat → Int32) → Prop) (x1 : Int32) (x2 : Int32) (v_stretches : Int32) (v_cars : Int32) (v_tunes : Int32) (v_along : Int32) (v_near : Int32) (v_borne : Int32) (v_tempo : Int32) (v_at : Int32) (v_told : Int32) (v_wrongAt : Int32) (f_base : Nat → Int32) (f_beats : Nat → Int32) (f_kind : Nat → Int32) (f_notes : Nat → Int32) (f_other : Nat → Int32) (f_pitch : Nat → Int32) (f_share : Nat → Int32) (f_space : Nat → Int32) (f_speed : Nat → Int32) (f_tell : Nat → Int32) (f_times : Nat → Int32) : Prop := ((x2 = 8 → ((v_tunes = 0 → (F_X10_wrong v_wrongAt x1 (fun r132 w132_0 => (vb r132 ∧ post r132 v_stretches v_cars v_tunes v_along v_near v_borne v_tempo v_at v_told w132_0 f_base f_beats f_kind f_notes f_other f_pitch f_share f_space f_speed f_tell f_times)))) ∧ (¬ v_tunes = 0 → (vp_in (v_tunes - 1) 6 ∧ (((f_notes (v_tunes - 1).toNatClampNeg) = 12 → (F_X10_wrong v_wrongAt x1 (fun r132 w132_0 => (vb r132 ∧ post r132 v_stretches v_cars v_tunes v_along v_near v_borne v_tempo v_at v_told w132_0 f_base f_beats f_kind f_notes f_other f_pitch f_share f_space f_speed f_tell f_times)))) ∧ (¬ (f_notes (v_tunes - 1).toNatClampNeg) = 12 → F_X10_item_136 v_from v_end g_cells post x2 v_stretches v_cars v_tunes v_along v_near v_borne v_tempo v_at v_told v_wrongAt f_base f_beats f_kind f_notes f_other f_pitch f_share f_space f_speed f_tell f_times)))))) ∧ (¬ x2 = 8 → F_X10_item_136 v_from v_end g_cells post x2 v_stretches v_cars v_tunes v_along v_near v_borne v_tempo v_at v_told v_wrongAt f_base f_beats f_kind f_notes f_other f_pitch f_share f_space f_speed f_tell f_times))
def F_X10_item_86 (v_from : Int32) (v_end : Int32) (g_cells : Nat → Int64) (post : Int32 → Int32 → Int32 → Int32 → Int32 → Int32 → Int32 → Int32 → Int32 → Int32 → Int32 → (Nat → Int32) → (Nat → Int32) → (Nat → Int32) → (Nat → Int32) → (Nat → Int32) → (Nat → Int32) → (Nat → Int32) → (Nat → Int32) → (Nat → Int32) → (Nat → Int32) → (Nat → Int32) → Prop) (x1 : Int32) (x2 : Int32) (v_stretches : Int32) (v_cars : Int32) (v_tunes : Int32) (v_along : Int32) (v_near : Int32) (v_borne : Int32) (v_tempo : Int32) (v_at : Int32) (v_told : Int32) (v_wrongAt : Int32) (f_base : Nat → Int32) (f_beats : Nat → Int32) (f_kind : Nat → Int32) (f_notes : Nat → Int32) (f_other : Nat → Int32) (f_pitch : Nat → Int32) (f_share : Nat → Int32) (f_space : Nat → Int32) (f_speed : Nat → Int32) (f_tell : Nat → Int32) (f_times : Nat → Int32) : Prop := ((x2 = 7 → ((v_tunes = 6 → (F_X10_wrong v_wrongAt x1 (fun r132 w132_0 => (vb r132 ∧ post r132 v_stretches v_cars v_tunes v_along v_near v_borne v_tempo v_at v_told w132_0 f_base f_beats f_kind f_notes f_other f_pitch f_share f_space f_speed f_tell f_times)))) ∧ (¬ v_tunes = 6 → F_X10_item_101 v_from v_end g_cells post x1 x2 v_stretches v_cars v_tunes v_along v_near v_borne v_tempo v_at v_told v_wrongAt f_base f_beats f_kind f_notes f_other f_pitch f_share f_space f_speed f_tell f_times))) ∧ (¬ x2 = 7 → F_X10_item_101 v_from v_end g_cells post x1 x2 v_stretches v_cars v_tunes v_along v_near v_borne v_tempo v_at v_told v_wrongAt f_base f_beats f_kind f_notes f_other f_pitch f_share f_space f_speed f_tell f_times))
def F_X10_item_71 (v_from : Int32) (v_end : Int32) (g_cells : Nat → Int64) (post : Int32 → Int32 → Int32 → Int32 → Int32 → Int32 → Int32 → Int32 → Int32 → Int32 → Int32 → (Nat → Int32) → (Nat → Int32) → (Nat → Int32) → (Nat → Int32) → (Nat → Int32) → (Nat → Int32) → (Nat → Int32) → (Nat → Int32) → (Nat → Int32) → (Nat → Int32) → (Nat → Int32) → Prop) (x1 : Int32) (x2 : Int32) (v_stretches : Int32) (v_cars : Int32) (v_tunes : Int32) (v_along : Int32) (v_near : Int32) (v_borne : Int32) (v_tempo : Int32) (v_at : Int32) (v_told : Int32) (v_wrongAt : Int32) (f_base : Nat → Int32) (f_beats : Nat → Int32) (f_kind : Nat → Int32) (f_notes : Nat → Int32) (f_other : Nat → Int32) (f_pitch : Nat → Int32) (f_share : Nat → Int32) (f_space : Nat → Int32) (f_speed : Nat → Int32) (f_tell : Nat → Int32) (f_times : Nat → Int32) : Prop := ((x2 = 6 → ((v_cars = 6 → (F_X10_wrong v_wrongAt x1 (fun r132 w132_0 => (vb r132 ∧ post r132 v_stretches v_cars v_tunes v_along v_near v_borne v_tempo v_at v_told w132_0 f_base f_beats f_kind f_notes f_other f_pitch f_share f_space f_speed f_tell f_times)))) ∧ (¬ v_cars = 6 → F_X10_item_86 v_from v_end g_cells post x1 x2 v_stretches v_cars v_tunes v_along v_near v_borne v_tempo v_at v_told v_wrongAt f_base f_beats f_kind f_notes f_other f_pitch f_share f_space f_speed f_tell f_times))) ∧ (¬ x2 = 6 → F_X10_item_86 v_from v_end g_cells post x1 x2 v_stretches v_cars v_tunes v_along v_near v_borne v_tempo v_at v_told v_wrongAt f_base f_beats f_kind f_notes f_other f_pitch f_share f_space f_speed f_tell f_times))
def F_X10_item_33 (k2 : Int32 → Int32 → Int32 → Int32 → Int32 → Int32 → Int32 → Int32 → Int32 → Int32 → Int32 → (Nat → Int32) → (Nat → Int32) → (Nat → Int32) → (Nat → Int32) → (Nat → Int32) → (Nat → Int32) → (Nat → Int32) → (Nat → Int32) → (Nat → Int32) → (Nat → Int32) → (Nat → Int32) → Prop) (x1 : Int32) (v_stretches : Int32) (v_cars : Int32) (v_tunes : Int32) (v_along : Int32) (v_near : Int32) (v_borne : Int32) (v_tempo : Int32) (v_at : Int32) (v_told : Int32) (v_wrongAt : Int32) (f_base : Nat → Int32) (f_beats : Nat → Int32) (f_kind : Nat → Int32) (f_notes : Nat → Int32) (f_other : Nat → Int32) (f_pitch : Nat → Int32) (f_share : Nat → Int32) (f_space : Nat → Int32) (f_speed : Nat → Int32) (f_tell : Nat → Int32) (f_times : Nat → Int32) : Prop := (∀ x1_33 : Int32, x1_33 = x1 + 1 → k2 x1_33 v_stretches v_cars v_tunes v_along v_near v_borne v_tempo v_at v_told v_wrongAt f_base f_beats f_kind f_notes f_other f_pitch f_share f_space f_speed f_tell f_times)
def L_X10_item_2 (v_from : Int32) (v_end : Int32) (g_cells : Nat → Int64) (f_words : Nat → Int32) (post : Int32 → Int32 → Int32 → Int32 → Int32 → Int32 → Int32 → Int32 → Int32 → Int32 → Int32 → (Nat → Int32) → (Nat → Int32) → (Nat → Int32) → (Nat → Int32) → (Nat → Int32) → (Nat → Int32) → (Nat → Int32) → (Nat → Int32) → (Nat → Int32) → (Nat → Int32) → (Nat → Int32) → Prop) : Nat → Int32 → Int32 → Int32 → Int32 → Int32 → Int32 → Int32 → Int32 → Int32 → Int32 → Int32 → (Nat → Int32) → (Nat → Int32) → (Nat → Int32) → (Nat → Int32) → (Nat → Int32) → (Nat → Int32) → (Nat → Int32) → (Nat → Int32) → (Nat → Int32) → (Nat → Int32) → (Nat → Int32) → Prop
  | 0, _, _, _, _, _, _, _, _, _, _, _, _, _, _, _, _, _, _, _, _, _, _ => False
  | n2 + 1, x1, v_stretches, v_cars, v_tunes, v_along, v_near, v_borne, v_tempo, v_at, v_told, v_wrongAt, f_base, f_beats, f_kind, f_notes, f_other, f_pitch, f_share, f_space, f_speed, f_tell, f_times => ((13 ≤ x1 → (F_X10_word v_from v_at v_end v_wrongAt g_cells f_words (fun r45 w45_0 w45_1 => ((r45 = (-1) → post 0 v_stretches v_cars v_tunes v_along v_near v_borne v_tempo w45_0 v_told w45_1 f_base f_beats f_kind f_notes f_other f_pitch f_share f_space f_speed f_tell f_times) ∧ (¬ r45 = (-1) → ((6 ≤ r45 → F_X10_item_71 v_from v_end g_cells post v_at r45 v_stretches v_cars v_tunes v_along v_near v_borne v_tempo w45_0 v_told w45_1 f_base f_beats f_kind f_notes f_other f_pitch f_share f_space f_speed f_tell f_times) ∧ (¬ 6 ≤ r45 → ((v_stretches = 16 → (F_X10_wrong w45_1 v_at (fun r132 w132_0 => (vb r132 ∧ post r132 v_stretches v_cars v_tunes v_along v_near v_borne v_tempo w45_0 v_told w132_0 f_base f_beats f_kind f_notes f_other f_pitch f_share f_space f_speed f_tell f_times)))) ∧ (¬ v_stretches = 16 → F_X10_item_71 v_from v_end g_cells post v_at r45 v_stretches v_cars v_tunes v_along v_near v_borne v_tempo w45_0 v_told w45_1 f_base f_beats f_kind f_notes f_other f_pitch f_share f_space f_speed f_tell f_times))))))))) ∧ (¬ 13 ≤ x1 → (F_X10_isWordAt v_from v_at v_end g_cells f_words x1 (fun r10 => ((r10 = 0 → F_X10_item_33 (fun x1 v_stretches v_cars v_tunes v_along v_near v_borne v_tempo v_at v_told v_wrongAt f_base f_beats f_kind f_notes f_other f_pitch f_share f_space f_speed f_tell f_times => L_X10_item_2 v_from v_end g_cells f_words post n2 x1 v_stretches v_cars v_tunes v_along v_near v_borne v_tempo v_at v_told v_wrongAt f_base f_beats f_kind f_notes f_other f_pitch f_share f_space f_speed f_tell f_times) x1 v_stretches v_cars v_tunes v_along v_near v_borne v_tempo v_at v_told v_wrongAt f_base f_beats f_kind f_notes f_other f_pitch f_share f_space f_speed f_tell f_times) ∧ (¬ r10 = 0 → (F_X10_isFull v_stretches v_cars v_tunes f_notes x1 (fun r18 => ((r18 = 0 → F_X10_item_33 (fun x1 v_stretches v_cars v_tunes v_along v_near v_borne v_tempo v_at v_told v_wrongAt f_base f_beats f_kind f_notes f_other f_pitch f_share f_space f_speed f_tell f_times => L_X10_item_2 v_from v_end g_cells f_words post n2 x1 v_stretches v_cars v_tunes v_along v_near v_borne v_tempo v_at v_told v_wrongAt f_base f_beats f_kind f_notes f_other f_pitch f_share f_space f_speed f_tell f_times) x1 v_stretches v_cars v_tunes v_along v_near v_borne v_tempo v_at v_told v_wrongAt f_base f_beats f_kind f_notes f_other f_pitch f_share f_space f_speed f_tell f_times) ∧ (¬ r18 = 0 → (F_X10_wrong v_wrongAt v_at (fun r29 w29_0 => (vb r29 ∧ post r29 v_stretches v_cars v_tunes v_along v_near v_borne v_tempo v_at v_told w29_0 f_base f_beats f_kind f_notes f_other f_pitch f_share f_space f_speed f_tell f_times)))))))))))))
def F_X10_item (v_stretches : Int32) (v_cars : Int32) (v_tunes : Int32) (v_along : Int32) (v_near : Int32) (v_borne : Int32) (v_tempo : Int32) (v_from : Int32) (v_at : Int32) (v_end : Int32) (v_told : Int32) (v_wrongAt : Int32) (f_base : Nat → Int32) (f_beats : Nat → Int32) (g_cells : Nat → Int64) (f_kind : Nat → Int32) (f_notes : Nat → Int32) (f_other : Nat → Int32) (f_pitch : Nat → Int32) (f_share : Nat → Int32) (f_space : Nat → Int32) (f_speed : Nat → Int32) (f_tell : Nat → Int32) (f_times : Nat → Int32) (f_words : Nat → Int32) (post : Int32 → Int32 → Int32 → Int32 → Int32 → Int32 → Int32 → Int32 → Int32 → Int32 → Int32 → (Nat → Int32) → (Nat → Int32) → (Nat → Int32) → (Nat → Int32) → (Nat → Int32) → (Nat → Int32) → (Nat → Int32) → (Nat → Int32) → (Nat → Int32) → (Nat → Int32) → (Nat → Int32) → Prop) : Prop := (∃ n2 : Nat, L_X10_item_2 v_from v_end g_cells f_words post n2 0 v_stretches v_cars v_tunes v_along v_near v_borne v_tempo v_at v_told v_wrongAt f_base f_beats f_kind f_notes f_other f_pitch f_share f_space f_speed f_tell f_times)
set_option maxHeartbeats 4000000 in
set_option maxRecDepth 100000 in
theorem w_X10_item_327 {l : Launch} {D : va_G} {cI cJ cS : ClassId} {ad adK : Nat → Nat} {a_o a_base a_beats a_cells a_kind a_notes a_other a_pitch a_share a_space a_speed a_tell a_times a_words : Nat} {z_refused z_steps z_held z_sort z_size z_shown z_carried z_was z_kept z_cutSpace z_cutTimes z_cutOff z_trace : Value} {v_stretches : Int32} {v_cars : Int32} {v_tunes : Int32} {v_along : Int32} {v_near : Int32} {v_borne : Int32} {v_tempo : Int32} {v_seed : Int32} {v_fault : Int32} {v_from : Int32} {v_at : Int32} {v_end : Int32} {v_told : Int32} {v_wrongAt : Int32} {v_culprit : Int32} {v_ran : Int32} {v_isKept : Int32} {f_base : Nat → Int32} {f_beats : Nat → Int32} {g_cells : Nat → Int64} {f_kind : Nat → Int32} {f_notes : Nat → Int32} {f_other : Nat → Int32} {f_pitch : Nat → Int32} {f_share : Nat → Int32} {f_space : Nat → Int32} {f_speed : Nat → Int32} {f_tell : Nat → Int32} {f_times : Nat → Int32} {f_words : Nat → Int32} {s0 : Int32} {post : Int32 → Int32 → Int32 → Int32 → Int32 → Int32 → Int32 → Int32 → Int32 → Int32 → Int32 → (Nat → Int32) → (Nat → Int32) → (Nat → Int32) → (Nat → Int32) → (Nat → Int32) → (Nat → Int32) → (Nat → Int32) → (Nat → Int32) → (Nat → Int32) → (Nat → Int32) → (Nat → Int32) → Prop} {p : Program} {e : Env} {s : State} {m : MethodId} {args : Array Value} {below : List Frame} {meth : Method} {c : Code} {A : Nat → Prop} (S : CallFix p m c cX10_item 6 s args GW "RoadThatSingsModel") (hE : EN D cI cJ cS s) (hT : ST ad adK A s s.heap) (hA : ∀ q : Nat, s.heap.size ≤ q → A q) (hr : meth.sig.returnType = (some (.boolean))) (hlocks : meth.locks = false) : ∀ (H : Heap) (locs : List Loc) (ls : Array Slot), F_X10_item_327 post v_stretches v_cars v_tunes v_along v_near v_borne v_tempo v_at v_told v_wrongAt f_base f_beats f_kind f_notes f_other f_pitch f_share f_space f_speed f_tell f_times s0 → va_P D vwCl (wX10_item cI cJ cS a_o a_base a_beats a_cells a_kind a_notes a_other a_pitch a_share a_space a_speed a_tell a_times a_words z_refused z_steps z_held z_sort z_size z_shown z_carried z_was z_kept z_cutSpace z_cutTimes z_cutOff z_trace v_stretches v_cars v_tunes v_along v_near v_borne v_tempo v_seed v_fault v_from v_at v_end v_told v_wrongAt v_culprit v_ran v_isKept f_base f_beats g_cells f_kind f_notes f_other f_pitch f_share f_space f_speed f_tell f_times f_words) H → va_D A (wX10_item cI cJ cS a_o a_base a_beats a_cells a_kind a_notes a_other a_pitch a_share a_space a_speed a_tell a_times a_words z_refused z_steps z_held z_sort z_size z_shown z_carried z_was z_kept z_cutSpace z_cutTimes z_cutOff z_trace v_stretches v_cars v_tunes v_along v_near v_borne v_tempo v_seed v_fault v_from v_at v_end v_told v_wrongAt v_culprit v_ran v_isKept f_base f_beats g_cells f_kind f_notes f_other f_pitch f_share f_space f_speed f_tell f_times f_words) → va_S A s.heap H locs → lv_has ls 6 [(0, .ref a_o)] → W p l e (rmd 2 0 0) s m args below meth c H locs 0 0 (MQ below (va_Qi (fun r (u : Int32 × Int32 × Int32 × Int32 × Int32 × Int32 × Int32 × Int32 × Int32 × Int32 × (Nat → Int32) × (Nat → Int32) × (Nat → Int32) × (Nat → Int32) × (Nat → Int32) × (Nat → Int32) × (Nat → Int32) × (Nat → Int32) × (Nat → Int32) × (Nat → Int32) × (Nat → Int32)) => post r u.1 u.2.1 u.2.2.1 u.2.2.2.1 u.2.2.2.2.1 u.2.2.2.2.2.1 u.2.2.2.2.2.2.1 u.2.2.2.2.2.2.2.1 u.2.2.2.2.2.2.2.2.1 u.2.2.2.2.2.2.2.2.2.1 u.2.2.2.2.2.2.2.2.2.2.1 u.2.2.2.2.2.2.2.2.2.2.2.1 u.2.2.2.2.2.2.2.2.2.2.2.2.1 u.2.2.2.2.2.2.2.2.2.2.2.2.2.1 u.2.2.2.2.2.2.2.2.2.2.2.2.2.2.1 u.2.2.2.2.2.2.2.2.2.2.2.2.2.2.2.1 u.2.2.2.2.2.2.2.2.2.2.2.2.2.2.2.2.1 u.2.2.2.2.2.2.2.2.2.2.2.2.2.2.2.2.2.1 u.2.2.2.2.2.2.2.2.2.2.2.2.2.2.2.2.2.2.1 u.2.2.2.2.2.2.2.2.2.2.2.2.2.2.2.2.2.2.2.1 u.2.2.2.2.2.2.2.2.2.2.2.2.2.2.2.2.2.2.2.2) (fun u t => va_P D vwCl (wX10_item cI cJ cS a_o a_base a_beats a_cells a_kind a_notes a_other a_pitch a_share a_space a_speed a_tell a_times a_words z_refused z_steps z_held z_sort z_size z_shown z_carried z_was z_kept z_cutSpace z_cutTimes z_cutOff z_trace u.1 u.2.1 u.2.2.1 u.2.2.2.1 u.2.2.2.2.1 u.2.2.2.2.2.1 u.2.2.2.2.2.2.1 v_seed v_fault v_from u.2.2.2.2.2.2.2.1 v_end u.2.2.2.2.2.2.2.2.1 u.2.2.2.2.2.2.2.2.2.1 v_culprit v_ran v_isKept u.2.2.2.2.2.2.2.2.2.2.1 u.2.2.2.2.2.2.2.2.2.2.2.1 g_cells u.2.2.2.2.2.2.2.2.2.2.2.2.1 u.2.2.2.2.2.2.2.2.2.2.2.2.2.1 u.2.2.2.2.2.2.2.2.2.2.2.2.2.2.1 u.2.2.2.2.2.2.2.2.2.2.2.2.2.2.2.1 u.2.2.2.2.2.2.2.2.2.2.2.2.2.2.2.2.1 u.2.2.2.2.2.2.2.2.2.2.2.2.2.2.2.2.2.1 u.2.2.2.2.2.2.2.2.2.2.2.2.2.2.2.2.2.2.1 u.2.2.2.2.2.2.2.2.2.2.2.2.2.2.2.2.2.2.2.1 u.2.2.2.2.2.2.2.2.2.2.2.2.2.2.2.2.2.2.2.2 f_words) t.heap) A) args s 0 0 A) (F0 m 327 ls [.int s0, .ref a_o]) := by
  intro  H locs ls h hP hD hS hl
  unfold F_X10_item_327 at h
  have hx := S.1
  have hb := S.2.1
  refine lv_aload_n hx hb dX10_item_327 rfl (lv_at hl 0 rfl) ?_
  refine gf S hE hP 0 rfl rfl inX10 (k := 28) (by decide) q1121 rfl dX10_item_328 ?_
  refine lv_iconst (v := 0) hx hb dX10_item_331 (by decide) ?_
  refine ial S hE hP 11 rfl (by unfold vp_in; decide) dX10_item_332 ?_
  refine lv_iconst (v := 0) hx hb dX10_item_333 (by decide) ?_
  refine lv_aload_n hx hb dX10_item_334 rfl (lv_at hl 0 rfl) ?_
  refine gf S hE hP 0 rfl rfl inX10 (k := 28) (by decide) q1121 rfl dX10_item_335 ?_
  refine lv_iconst (v := 1) hx hb dX10_item_338 (by decide) ?_
  refine ial S hE hP 11 rfl (by unfold vp_in; decide) dX10_item_339 ?_
  refine rw_v (rwV S hE hT hS hP hD hA (c_X10_comes h) [0, 4, 6, 9, 12] rfl (by decide +kernel) lkX10_138 rfl ⟨(Nat.le_of_ble_eq_true rfl), (Nat.le_of_ble_eq_true rfl)⟩ 0 rfl rfl hl.1 rfl (Nat.le_of_ble_eq_true rfl) dX10_item_340 ⟨(Nat.zero_le _), (Nat.zero_le _)⟩) hP hD hS hA [0, 4, 6, 9, 12] rfl (by decide +kernel) (fun _ => rfl) (fun u340 H locs h hP hD hS => ?_)
  obtain ⟨w340_0, w340_1, w340_2, w340_3, w340_4⟩ := u340
  try dsimp only at h
  have hP : va_P D vwCl (wX10_item cI cJ cS a_o a_base a_beats a_cells a_kind a_notes a_other a_pitch a_share a_space a_speed a_tell a_times a_words z_refused z_steps z_held z_sort z_size z_shown z_carried z_was z_kept z_cutSpace z_cutTimes z_cutOff z_trace w340_0 v_cars v_tunes v_along v_near v_borne v_tempo v_seed v_fault v_from v_at v_end v_told v_wrongAt v_culprit v_ran v_isKept f_base f_beats g_cells w340_1 f_notes w340_2 f_pitch f_share w340_3 f_speed f_tell w340_4 f_words) H := wsetP 14 [1, 2, 3, 5, 7, 8, 10, 11, 13] hP rfl ⟨rfl, rfl, rfl, rfl, rfl, rfl, rfl, rfl, rfl, trivial⟩ rfl rfl (by decide +kernel) (by decide +kernel) (by decide +kernel)
  have hD : va_D A (wX10_item cI cJ cS a_o a_base a_beats a_cells a_kind a_notes a_other a_pitch a_share a_space a_speed a_tell a_times a_words z_refused z_steps z_held z_sort z_size z_shown z_carried z_was z_kept z_cutSpace z_cutTimes z_cutOff z_trace w340_0 v_cars v_tunes v_along v_near v_borne v_tempo v_seed v_fault v_from v_at v_end v_told v_wrongAt v_culprit v_ran v_isKept f_base f_beats g_cells w340_1 f_notes w340_2 f_pitch f_share w340_3 f_speed f_tell w340_4 f_words) := wsetD 14 [1, 2, 3, 5, 7, 8, 10, 11, 13] hD rfl ⟨rfl, rfl, rfl, rfl, rfl, rfl, rfl, rfl, rfl, trivial⟩ rfl rfl (by decide +kernel) (by decide +kernel) (by decide +kernel)
  refine lv_goto (tgt := 549) hx hb dX10_item_343 (by decide) ?_
  refine lv_iconst (v := 1) hx hb dX10_item_549 (by decide) ?_
  exact W.zret hx hb hr rfl (fun t ht _ => ⟨⟨_, (w340_0, v_cars, v_tunes, v_along, v_near, v_borne, v_tempo, v_at, v_told, v_wrongAt, f_base, f_beats, w340_1, f_notes, w340_2, f_pitch, f_share, w340_3, f_speed, f_tell, w340_4), rfl, h, hPt hP ht⟩, hS.F ht⟩) hS.2.2 dX10_item_550
set_option maxHeartbeats 4000000 in
set_option maxRecDepth 100000 in
theorem w_X10_item_367 {l : Launch} {D : va_G} {cI cJ cS : ClassId} {ad adK : Nat → Nat} {a_o a_base a_beats a_cells a_kind a_notes a_other a_pitch a_share a_space a_speed a_tell a_times a_words : Nat} {z_refused z_steps z_held z_sort z_size z_shown z_carried z_was z_kept z_cutSpace z_cutTimes z_cutOff z_trace : Value} {v_stretches : Int32} {v_cars : Int32} {v_tunes : Int32} {v_along : Int32} {v_near : Int32} {v_borne : Int32} {v_tempo : Int32} {v_seed : Int32} {v_fault : Int32} {v_from : Int32} {v_at : Int32} {v_end : Int32} {v_told : Int32} {v_wrongAt : Int32} {v_culprit : Int32} {v_ran : Int32} {v_isKept : Int32} {f_base : Nat → Int32} {f_beats : Nat → Int32} {g_cells : Nat → Int64} {f_kind : Nat → Int32} {f_notes : Nat → Int32} {f_other : Nat → Int32} {f_pitch : Nat → Int32} {f_share : Nat → Int32} {f_space : Nat → Int32} {f_speed : Nat → Int32} {f_tell : Nat → Int32} {f_times : Nat → Int32} {f_words : Nat → Int32} {s0 : Int32} {post : Int32 → Int32 → Int32 → Int32 → Int32 → Int32 → Int32 → Int32 → Int32 → Int32 → Int32 → (Nat → Int32) → (Nat → Int32) → (Nat → Int32) → (Nat → Int32) → (Nat → Int32) → (Nat → Int32) → (Nat → Int32) → (Nat → Int32) → (Nat → Int32) → (Nat → Int32) → (Nat → Int32) → Prop} {p : Program} {e : Env} {s : State} {m : MethodId} {args : Array Value} {below : List Frame} {meth : Method} {c : Code} {A : Nat → Prop} (S : CallFix p m c cX10_item 6 s args GW "RoadThatSingsModel") (hE : EN D cI cJ cS s) (hT : ST ad adK A s s.heap) (hA : ∀ q : Nat, s.heap.size ≤ q → A q) (hr : meth.sig.returnType = (some (.boolean))) (hlocks : meth.locks = false) : ∀ (H : Heap) (locs : List Loc) (ls : Array Slot), F_X10_item_367 post v_stretches v_cars v_tunes v_along v_near v_borne v_tempo v_at v_told v_wrongAt f_base f_beats f_kind f_notes f_other f_pitch f_share f_space f_speed f_tell f_times s0 → va_P D vwCl (wX10_item cI cJ cS a_o a_base a_beats a_cells a_kind a_notes a_other a_pitch a_share a_space a_speed a_tell a_times a_words z_refused z_steps z_held z_sort z_size z_shown z_carried z_was z_kept z_cutSpace z_cutTimes z_cutOff z_trace v_stretches v_cars v_tunes v_along v_near v_borne v_tempo v_seed v_fault v_from v_at v_end v_told v_wrongAt v_culprit v_ran v_isKept f_base f_beats g_cells f_kind f_notes f_other f_pitch f_share f_space f_speed f_tell f_times f_words) H → va_D A (wX10_item cI cJ cS a_o a_base a_beats a_cells a_kind a_notes a_other a_pitch a_share a_space a_speed a_tell a_times a_words z_refused z_steps z_held z_sort z_size z_shown z_carried z_was z_kept z_cutSpace z_cutTimes z_cutOff z_trace v_stretches v_cars v_tunes v_along v_near v_borne v_tempo v_seed v_fault v_from v_at v_end v_told v_wrongAt v_culprit v_ran v_isKept f_base f_beats g_cells f_kind f_notes f_other f_pitch f_share f_space f_speed f_tell f_times f_words) → va_S A s.heap H locs → lv_has ls 6 [(0, .ref a_o)] → W p l e (rmd 2 0 0) s m args below meth c H locs 0 0 (MQ below (va_Qi (fun r (u : Int32 × Int32 × Int32 × Int32 × Int32 × Int32 × Int32 × Int32 × Int32 × Int32 × (Nat → Int32) × (Nat → Int32) × (Nat → Int32) × (Nat → Int32) × (Nat → Int32) × (Nat → Int32) × (Nat → Int32) × (Nat → Int32) × (Nat → Int32) × (Nat → Int32) × (Nat → Int32)) => post r u.1 u.2.1 u.2.2.1 u.2.2.2.1 u.2.2.2.2.1 u.2.2.2.2.2.1 u.2.2.2.2.2.2.1 u.2.2.2.2.2.2.2.1 u.2.2.2.2.2.2.2.2.1 u.2.2.2.2.2.2.2.2.2.1 u.2.2.2.2.2.2.2.2.2.2.1 u.2.2.2.2.2.2.2.2.2.2.2.1 u.2.2.2.2.2.2.2.2.2.2.2.2.1 u.2.2.2.2.2.2.2.2.2.2.2.2.2.1 u.2.2.2.2.2.2.2.2.2.2.2.2.2.2.1 u.2.2.2.2.2.2.2.2.2.2.2.2.2.2.2.1 u.2.2.2.2.2.2.2.2.2.2.2.2.2.2.2.2.1 u.2.2.2.2.2.2.2.2.2.2.2.2.2.2.2.2.2.1 u.2.2.2.2.2.2.2.2.2.2.2.2.2.2.2.2.2.2.1 u.2.2.2.2.2.2.2.2.2.2.2.2.2.2.2.2.2.2.2.1 u.2.2.2.2.2.2.2.2.2.2.2.2.2.2.2.2.2.2.2.2) (fun u t => va_P D vwCl (wX10_item cI cJ cS a_o a_base a_beats a_cells a_kind a_notes a_other a_pitch a_share a_space a_speed a_tell a_times a_words z_refused z_steps z_held z_sort z_size z_shown z_carried z_was z_kept z_cutSpace z_cutTimes z_cutOff z_trace u.1 u.2.1 u.2.2.1 u.2.2.2.1 u.2.2.2.2.1 u.2.2.2.2.2.1 u.2.2.2.2.2.2.1 v_seed v_fault v_from u.2.2.2.2.2.2.2.1 v_end u.2.2.2.2.2.2.2.2.1 u.2.2.2.2.2.2.2.2.2.1 v_culprit v_ran v_isKept u.2.2.2.2.2.2.2.2.2.2.1 u.2.2.2.2.2.2.2.2.2.2.2.1 g_cells u.2.2.2.2.2.2.2.2.2.2.2.2.1 u.2.2.2.2.2.2.2.2.2.2.2.2.2.1 u.2.2.2.2.2.2.2.2.2.2.2.2.2.2.1 u.2.2.2.2.2.2.2.2.2.2.2.2.2.2.2.1 u.2.2.2.2.2.2.2.2.2.2.2.2.2.2.2.2.1 u.2.2.2.2.2.2.2.2.2.2.2.2.2.2.2.2.2.1 u.2.2.2.2.2.2.2.2.2.2.2.2.2.2.2.2.2.2.1 u.2.2.2.2.2.2.2.2.2.2.2.2.2.2.2.2.2.2.2.1 u.2.2.2.2.2.2.2.2.2.2.2.2.2.2.2.2.2.2.2.2 f_words) t.heap) A) args s 0 0 A) (F0 m 367 ls [.int s0, .ref a_o]) := by
  intro  H locs ls h hP hD hS hl
  unfold F_X10_item_367 at h
  have hx := S.1
  have hb := S.2.1
  refine lv_aload_n hx hb dX10_item_367 rfl (lv_at hl 0 rfl) ?_
  refine gf S hE hP 0 rfl rfl inX10 (k := 28) (by decide) q1121 rfl dX10_item_368 ?_
  refine lv_iconst (v := 0) hx hb dX10_item_371 (by decide) ?_
  refine ial S hE hP 11 rfl (by unfold vp_in; decide) dX10_item_372 ?_
  refine lv_aload_n hx hb dX10_item_373 rfl (lv_at hl 0 rfl) ?_
  refine gf S hE hP 0 rfl rfl inX10 (k := 28) (by decide) q1121 rfl dX10_item_374 ?_
  refine lv_iconst (v := 1) hx hb dX10_item_377 (by decide) ?_
  refine ial S hE hP 11 rfl (by unfold vp_in; decide) dX10_item_378 ?_
  refine lv_aload_n hx hb dX10_item_379 rfl (lv_at hl 0 rfl) ?_
  refine gf S hE hP 0 rfl rfl inX10 (k := 28) (by decide) q1121 rfl dX10_item_380 ?_
  refine lv_iconst (v := 2) hx hb dX10_item_383 (by decide) ?_
  refine ial S hE hP 11 rfl (by unfold vp_in; decide) dX10_item_384 ?_
  refine rw_v (rwV S hE hT hS hP hD hA (c_X10_comes h) [0, 4, 6, 9, 12] rfl (by decide +kernel) lkX10_138 rfl ⟨(Nat.le_of_ble_eq_true rfl), (Nat.le_of_ble_eq_true rfl)⟩ 0 rfl rfl hl.1 rfl (Nat.le_of_ble_eq_true rfl) dX10_item_385 ⟨(Nat.zero_le _), (Nat.zero_le _)⟩) hP hD hS hA [0, 4, 6, 9, 12] rfl (by decide +kernel) (fun _ => rfl) (fun u385 H locs h hP hD hS => ?_)
  obtain ⟨w385_0, w385_1, w385_2, w385_3, w385_4⟩ := u385
  try dsimp only at h
  have hP : va_P D vwCl (wX10_item cI cJ cS a_o a_base a_beats a_cells a_kind a_notes a_other a_pitch a_share a_space a_speed a_tell a_times a_words z_refused z_steps z_held z_sort z_size z_shown z_carried z_was z_kept z_cutSpace z_cutTimes z_cutOff z_trace w385_0 v_cars v_tunes v_along v_near v_borne v_tempo v_seed v_fault v_from v_at v_end v_told v_wrongAt v_culprit v_ran v_isKept f_base f_beats g_cells w385_1 f_notes w385_2 f_pitch f_share w385_3 f_speed f_tell w385_4 f_words) H := wsetP 14 [1, 2, 3, 5, 7, 8, 10, 11, 13] hP rfl ⟨rfl, rfl, rfl, rfl, rfl, rfl, rfl, rfl, rfl, trivial⟩ rfl rfl (by decide +kernel) (by decide +kernel) (by decide +kernel)
  have hD : va_D A (wX10_item cI cJ cS a_o a_base a_beats a_cells a_kind a_notes a_other a_pitch a_share a_space a_speed a_tell a_times a_words z_refused z_steps z_held z_sort z_size z_shown z_carried z_was z_kept z_cutSpace z_cutTimes z_cutOff z_trace w385_0 v_cars v_tunes v_along v_near v_borne v_tempo v_seed v_fault v_from v_at v_end v_told v_wrongAt v_culprit v_ran v_isKept f_base f_beats g_cells w385_1 f_notes w385_2 f_pitch f_share w385_3 f_speed f_tell w385_4 f_words) := wsetD 14 [1, 2, 3, 5, 7, 8, 10, 11, 13] hD rfl ⟨rfl, rfl, rfl, rfl, rfl, rfl, rfl, rfl, rfl, trivial⟩ rfl rfl (by decide +kernel) (by decide +kernel) (by decide +kernel)
  refine lv_goto (tgt := 549) hx hb dX10_item_388 (by decide) ?_
  refine lv_iconst (v := 1) hx hb dX10_item_549 (by decide) ?_
  exact W.zret hx hb hr rfl (fun t ht _ => ⟨⟨_, (w385_0, v_cars, v_tunes, v_along, v_near, v_borne, v_tempo, v_at, v_told, v_wrongAt, f_base, f_beats, w385_1, f_notes, w385_2, f_pitch, f_share, w385_3, f_speed, f_tell, w385_4), rfl, h, hPt hP ht⟩, hS.F ht⟩) hS.2.2 dX10_item_550
set_option maxHeartbeats 4000000 in
set_option maxRecDepth 100000 in
theorem w_X10_item_206 {l : Launch} {D : va_G} {cI cJ cS : ClassId} {ad adK : Nat → Nat} {a_o a_base a_beats a_cells a_kind a_notes a_other a_pitch a_share a_space a_speed a_tell a_times a_words : Nat} {z_refused z_steps z_held z_sort z_size z_shown z_carried z_was z_kept z_cutSpace z_cutTimes z_cutOff z_trace : Value} {v_stretches : Int32} {v_cars : Int32} {v_tunes : Int32} {v_along : Int32} {v_near : Int32} {v_borne : Int32} {v_tempo : Int32} {v_seed : Int32} {v_fault : Int32} {v_from : Int32} {v_at : Int32} {v_end : Int32} {v_told : Int32} {v_wrongAt : Int32} {v_culprit : Int32} {v_ran : Int32} {v_isKept : Int32} {f_base : Nat → Int32} {f_beats : Nat → Int32} {g_cells : Nat → Int64} {f_kind : Nat → Int32} {f_notes : Nat → Int32} {f_other : Nat → Int32} {f_pitch : Nat → Int32} {f_share : Nat → Int32} {f_space : Nat → Int32} {f_speed : Nat → Int32} {f_tell : Nat → Int32} {f_times : Nat → Int32} {f_words : Nat → Int32} {x2 : Int32} {x3 : Int32} {x4 : Int32} {post : Int32 → Int32 → Int32 → Int32 → Int32 → Int32 → Int32 → Int32 → Int32 → Int32 → Int32 → (Nat → Int32) → (Nat → Int32) → (Nat → Int32) → (Nat → Int32) → (Nat → Int32) → (Nat → Int32) → (Nat → Int32) → (Nat → Int32) → (Nat → Int32) → (Nat → Int32) → (Nat → Int32) → Prop} {k145 : Int32 → Int32 → Int32 → Int32 → Int32 → Int32 → Int32 → Int32 → Int32 → Int32 → Int32 → (Nat → Int32) → (Nat → Int32) → (Nat → Int32) → (Nat → Int32) → (Nat → Int32) → (Nat → Int32) → (Nat → Int32) → (Nat → Int32) → (Nat → Int32) → (Nat → Int32) → (Nat → Int32) → Prop} {p : Program} {e : Env} {s : State} {m : MethodId} {args : Array Value} {below : List Frame} {meth : Method} {c : Code} {A : Nat → Prop} (S : CallFix p m c cX10_item 6 s args GW "RoadThatSingsModel") (hE : EN D cI cJ cS s) (hT : ST ad adK A s s.heap) (hA : ∀ q : Nat, s.heap.size ≤ q → A q) (hr : meth.sig.returnType = (some (.boolean))) (hlocks : meth.locks = false) (hk145 : ∀ (x4 : Int32) (v_stretches : Int32) (v_cars : Int32) (v_tunes : Int32) (v_along : Int32) (v_near : Int32) (v_borne : Int32) (v_tempo : Int32) (v_at : Int32) (v_told : Int32) (v_wrongAt : Int32) (f_base : Nat → Int32) (f_beats : Nat → Int32) (f_kind : Nat → Int32) (f_notes : Nat → Int32) (f_other : Nat → Int32) (f_pitch : Nat → Int32) (f_share : Nat → Int32) (f_space : Nat → Int32) (f_speed : Nat → Int32) (f_tell : Nat → Int32) (f_times : Nat → Int32) (H : Heap) (locs : List Loc) (ls : Array Slot), k145 x4 v_stretches v_cars v_tunes v_along v_near v_borne v_tempo v_at v_told v_wrongAt f_base f_beats f_kind f_notes f_other f_pitch f_share f_space f_speed f_tell f_times → va_P D vwCl (wX10_item cI cJ cS a_o a_base a_beats a_cells a_kind a_notes a_other a_pitch a_share a_space a_speed a_tell a_times a_words z_refused z_steps z_held z_sort z_size z_shown z_carried z_was z_kept z_cutSpace z_cutTimes z_cutOff z_trace v_stretches v_cars v_tunes v_along v_near v_borne v_tempo v_seed v_fault v_from v_at v_end v_told v_wrongAt v_culprit v_ran v_isKept f_base f_beats g_cells f_kind f_notes f_other f_pitch f_share f_space f_speed f_tell f_times f_words) H → va_D A (wX10_item cI cJ cS a_o a_base a_beats a_cells a_kind a_notes a_other a_pitch a_share a_space a_speed a_tell a_times a_words z_refused z_steps z_held z_sort z_size z_shown z_carried z_was z_kept z_cutSpace z_cutTimes z_cutOff z_trace v_stretches v_cars v_tunes v_along v_near v_borne v_tempo v_seed v_fault v_from v_at v_end v_told v_wrongAt v_culprit v_ran v_isKept f_base f_beats g_cells f_kind f_notes f_other f_pitch f_share f_space f_speed f_tell f_times f_words) → va_S A s.heap H locs → lv_has ls 6 [(0, .ref a_o), (2, .int x2), (3, .int x3), (4, .int x4)] → W p l e (rmd 2 0 0) s m args below meth c H locs 0 0 (MQ below (va_Qi (fun r (u : Int32 × Int32 × Int32 × Int32 × Int32 × Int32 × Int32 × Int32 × Int32 × Int32 × (Nat → Int32) × (Nat → Int32) × (Nat → Int32) × (Nat → Int32) × (Nat → Int32) × (Nat → Int32) × (Nat → Int32) × (Nat → Int32) × (Nat → Int32) × (Nat → Int32) × (Nat → Int32)) => post r u.1 u.2.1 u.2.2.1 u.2.2.2.1 u.2.2.2.2.1 u.2.2.2.2.2.1 u.2.2.2.2.2.2.1 u.2.2.2.2.2.2.2.1 u.2.2.2.2.2.2.2.2.1 u.2.2.2.2.2.2.2.2.2.1 u.2.2.2.2.2.2.2.2.2.2.1 u.2.2.2.2.2.2.2.2.2.2.2.1 u.2.2.2.2.2.2.2.2.2.2.2.2.1 u.2.2.2.2.2.2.2.2.2.2.2.2.2.1 u.2.2.2.2.2.2.2.2.2.2.2.2.2.2.1 u.2.2.2.2.2.2.2.2.2.2.2.2.2.2.2.1 u.2.2.2.2.2.2.2.2.2.2.2.2.2.2.2.2.1 u.2.2.2.2.2.2.2.2.2.2.2.2.2.2.2.2.2.1 u.2.2.2.2.2.2.2.2.2.2.2.2.2.2.2.2.2.2.1 u.2.2.2.2.2.2.2.2.2.2.2.2.2.2.2.2.2.2.2.1 u.2.2.2.2.2.2.2.2.2.2.2.2.2.2.2.2.2.2.2.2) (fun u t => va_P D vwCl (wX10_item cI cJ cS a_o a_base a_beats a_cells a_kind a_notes a_other a_pitch a_share a_space a_speed a_tell a_times a_words z_refused z_steps z_held z_sort z_size z_shown z_carried z_was z_kept z_cutSpace z_cutTimes z_cutOff z_trace u.1 u.2.1 u.2.2.1 u.2.2.2.1 u.2.2.2.2.1 u.2.2.2.2.2.1 u.2.2.2.2.2.2.1 v_seed v_fault v_from u.2.2.2.2.2.2.2.1 v_end u.2.2.2.2.2.2.2.2.1 u.2.2.2.2.2.2.2.2.2.1 v_culprit v_ran v_isKept u.2.2.2.2.2.2.2.2.2.2.1 u.2.2.2.2.2.2.2.2.2.2.2.1 g_cells u.2.2.2.2.2.2.2.2.2.2.2.2.1 u.2.2.2.2.2.2.2.2.2.2.2.2.2.1 u.2.2.2.2.2.2.2.2.2.2.2.2.2.2.1 u.2.2.2.2.2.2.2.2.2.2.2.2.2.2.2.1 u.2.2.2.2.2.2.2.2.2.2.2.2.2.2.2.2.1 u.2.2.2.2.2.2.2.2.2.2.2.2.2.2.2.2.2.1 u.2.2.2.2.2.2.2.2.2.2.2.2.2.2.2.2.2.2.1 u.2.2.2.2.2.2.2.2.2.2.2.2.2.2.2.2.2.2.2.1 u.2.2.2.2.2.2.2.2.2.2.2.2.2.2.2.2.2.2.2.2 f_words) t.heap) A) args s 0 0 A) (F0 m 145 ls [])) : ∀ (H : Heap) (locs : List Loc) (ls : Array Slot), F_X10_item_206 v_from v_end g_cells post k145 x2 x3 x4 v_stretches v_cars v_tunes v_along v_near v_borne v_tempo v_at v_told v_wrongAt f_base f_beats f_kind f_notes f_other f_pitch f_share f_space f_speed f_tell f_times → va_P D vwCl (wX10_item cI cJ cS a_o a_base a_beats a_cells a_kind a_notes a_other a_pitch a_share a_space a_speed a_tell a_times a_words z_refused z_steps z_held z_sort z_size z_shown z_carried z_was z_kept z_cutSpace z_cutTimes z_cutOff z_trace v_stretches v_cars v_tunes v_along v_near v_borne v_tempo v_seed v_fault v_from v_at v_end v_told v_wrongAt v_culprit v_ran v_isKept f_base f_beats g_cells f_kind f_notes f_other f_pitch f_share f_space f_speed f_tell f_times f_words) H → va_D A (wX10_item cI cJ cS a_o a_base a_beats a_cells a_kind a_notes a_other a_pitch a_share a_space a_speed a_tell a_times a_words z_refused z_steps z_held z_sort z_size z_shown z_carried z_was z_kept z_cutSpace z_cutTimes z_cutOff z_trace v_stretches v_cars v_tunes v_along v_near v_borne v_tempo v_seed v_fault v_from v_at v_end v_told v_wrongAt v_culprit v_ran v_isKept f_base f_beats g_cells f_kind f_notes f_other f_pitch f_share f_space f_speed f_tell f_times f_words) → va_S A s.heap H locs → lv_has ls 6 [(0, .ref a_o), (2, .int x2), (3, .int x3), (4, .int x4)] → W p l e (rmd 2 0 0) s m args below meth c H locs 0 0 (MQ below (va_Qi (fun r (u : Int32 × Int32 × Int32 × Int32 × Int32 × Int32 × Int32 × Int32 × Int32 × Int32 × (Nat → Int32) × (Nat → Int32) × (Nat → Int32) × (Nat → Int32) × (Nat → Int32) × (Nat → Int32) × (Nat → Int32) × (Nat → Int32) × (Nat → Int32) × (Nat → Int32) × (Nat → Int32)) => post r u.1 u.2.1 u.2.2.1 u.2.2.2.1 u.2.2.2.2.1 u.2.2.2.2.2.1 u.2.2.2.2.2.2.1 u.2.2.2.2.2.2.2.1 u.2.2.2.2.2.2.2.2.1 u.2.2.2.2.2.2.2.2.2.1 u.2.2.2.2.2.2.2.2.2.2.1 u.2.2.2.2.2.2.2.2.2.2.2.1 u.2.2.2.2.2.2.2.2.2.2.2.2.1 u.2.2.2.2.2.2.2.2.2.2.2.2.2.1 u.2.2.2.2.2.2.2.2.2.2.2.2.2.2.1 u.2.2.2.2.2.2.2.2.2.2.2.2.2.2.2.1 u.2.2.2.2.2.2.2.2.2.2.2.2.2.2.2.2.1 u.2.2.2.2.2.2.2.2.2.2.2.2.2.2.2.2.2.1 u.2.2.2.2.2.2.2.2.2.2.2.2.2.2.2.2.2.2.1 u.2.2.2.2.2.2.2.2.2.2.2.2.2.2.2.2.2.2.2.1 u.2.2.2.2.2.2.2.2.2.2.2.2.2.2.2.2.2.2.2.2) (fun u t => va_P D vwCl (wX10_item cI cJ cS a_o a_base a_beats a_cells a_kind a_notes a_other a_pitch a_share a_space a_speed a_tell a_times a_words z_refused z_steps z_held z_sort z_size z_shown z_carried z_was z_kept z_cutSpace z_cutTimes z_cutOff z_trace u.1 u.2.1 u.2.2.1 u.2.2.2.1 u.2.2.2.2.1 u.2.2.2.2.2.1 u.2.2.2.2.2.2.1 v_seed v_fault v_from u.2.2.2.2.2.2.2.1 v_end u.2.2.2.2.2.2.2.2.1 u.2.2.2.2.2.2.2.2.2.1 v_culprit v_ran v_isKept u.2.2.2.2.2.2.2.2.2.2.1 u.2.2.2.2.2.2.2.2.2.2.2.1 g_cells u.2.2.2.2.2.2.2.2.2.2.2.2.1 u.2.2.2.2.2.2.2.2.2.2.2.2.2.1 u.2.2.2.2.2.2.2.2.2.2.2.2.2.2.1 u.2.2.2.2.2.2.2.2.2.2.2.2.2.2.2.1 u.2.2.2.2.2.2.2.2.2.2.2.2.2.2.2.2.1 u.2.2.2.2.2.2.2.2.2.2.2.2.2.2.2.2.2.1 u.2.2.2.2.2.2.2.2.2.2.2.2.2.2.2.2.2.2.1 u.2.2.2.2.2.2.2.2.2.2.2.2.2.2.2.2.2.2.2.1 u.2.2.2.2.2.2.2.2.2.2.2.2.2.2.2.2.2.2.2.2 f_words) t.heap) A) args s 0 0 A) (F0 m 206 ls []) := by
  intro  H locs ls h hP hD hS hl
  unfold F_X10_item_206 at h
  have hx := S.1
  have hb := S.2.1
  refine lv_aload_n hx hb dX10_item_206 rfl (lv_at hl 0 rfl) ?_
  refine lv_aload_n hx hb dX10_item_207 rfl (lv_at hl 0 rfl) ?_
  refine lv_iload_n hx hb dX10_item_208 rfl (lv_at hl 1 rfl) ?_
  refine lv_iload hx hb dX10_item_209 (lv_at hl 3 rfl) ?_
  refine ro_i (roV S hE hT hS (c_X10_low h) lkX10_208 rfl ⟨(Nat.le_of_ble_eq_true rfl), (Nat.le_of_ble_eq_true rfl)⟩ (hP.sub [0] rfl) 0 rfl rfl hl.1 rfl (Nat.le_of_ble_eq_true rfl) dX10_item_211 ⟨(Nat.zero_le _), (Nat.zero_le _)⟩) (fun r211 h => ?_)
  refine lv_aload_n hx hb dX10_item_214 rfl (lv_at hl 0 rfl) ?_
  refine lv_iload_n hx hb dX10_item_215 rfl (lv_at hl 1 rfl) ?_
  refine lv_iload hx hb dX10_item_216 (lv_at hl 3 rfl) ?_
  refine ro_i (roV S hE hT hS (c_X10_high h) lkX10_211 rfl ⟨(Nat.le_of_ble_eq_true rfl), (Nat.le_of_ble_eq_true rfl)⟩ (hP.sub [0, 8] rfl) 0 rfl rfl hl.1 rfl (Nat.le_of_ble_eq_true rfl) dX10_item_218 ⟨(Nat.zero_le _), (Nat.zero_le _)⟩) (fun r218 h => ?_)
  refine rw_i (rwV S hE hT hS hP hD hA (c_X10_number h) [0, 3] rfl (by decide +kernel) lkX10_214 rfl ⟨(Nat.le_of_ble_eq_true rfl), (Nat.le_of_ble_eq_true rfl)⟩ 0 rfl rfl hl.1 rfl (Nat.le_of_ble_eq_true rfl) dX10_item_221 ⟨(Nat.zero_le _), (Nat.zero_le _)⟩) hP hD hS hA [0, 3] rfl (by decide +kernel) (fun _ => rfl) (fun r221 u221 H locs h hP hD hS => ?_)
  obtain ⟨w221_0, w221_1, w221_2⟩ := u221
  try dsimp only at h
  have hP : va_P D vwCl (wX10_item cI cJ cS a_o a_base a_beats a_cells a_kind a_notes a_other a_pitch a_share a_space a_speed a_tell a_times a_words z_refused z_steps z_held z_sort z_size z_shown z_carried z_was z_kept z_cutSpace z_cutTimes z_cutOff z_trace v_stretches v_cars v_tunes v_along v_near v_borne v_tempo v_seed v_fault v_from w221_0 v_end w221_1 w221_2 v_culprit v_ran v_isKept f_base f_beats g_cells f_kind f_notes f_other f_pitch f_share f_space f_speed f_tell f_times f_words) H := hP
  have hD : va_D A (wX10_item cI cJ cS a_o a_base a_beats a_cells a_kind a_notes a_other a_pitch a_share a_space a_speed a_tell a_times a_words z_refused z_steps z_held z_sort z_size z_shown z_carried z_was z_kept z_cutSpace z_cutTimes z_cutOff z_trace v_stretches v_cars v_tunes v_along v_near v_borne v_tempo v_seed v_fault v_from w221_0 v_end w221_1 w221_2 v_culprit v_ran v_isKept f_base f_beats g_cells f_kind f_notes f_other f_pitch f_share f_space f_speed f_tell f_times f_words) := hD
  refine lv_if_ne (tgt := 229) hx hb dX10_item_224 (by decide) (fun hc => ?_) (fun hc => ?_)
  · have h := h.2 hc
    refine lv_aload_n hx hb dX10_item_229 rfl (lv_at hl 0 rfl) ?_
    refine gf S hE hP 0 rfl rfl inX10 (k := 28) (by decide) q1121 rfl dX10_item_230 ?_
    refine lv_iload hx hb dX10_item_233 (lv_at hl 3 rfl) ?_
    refine lv_aload_n hx hb dX10_item_235 rfl (lv_at hl 0 rfl) ?_
    refine gf S hE hP 0 rfl rfl inX10 (k := 32) (by decide) q1125 rfl dX10_item_236 ?_
    obtain ⟨hi, h⟩ := h
    refine ias S hE hP hD hS 11 rfl hi dX10_item_239 (fun H locs hP hD hS => ?_)
    have hP : va_P D vwCl (wX10_item cI cJ cS a_o a_base a_beats a_cells a_kind a_notes a_other a_pitch a_share a_space a_speed a_tell a_times a_words z_refused z_steps z_held z_sort z_size z_shown z_carried z_was z_kept z_cutSpace z_cutTimes z_cutOff z_trace v_stretches v_cars v_tunes v_along v_near v_borne v_tempo v_seed v_fault v_from w221_0 v_end w221_1 w221_2 v_culprit v_ran v_isKept f_base f_beats g_cells f_kind f_notes f_other f_pitch f_share f_space f_speed (upd f_tell x4.toNatClampNeg w221_1) f_times f_words) H := hP
    have hD : va_D A (wX10_item cI cJ cS a_o a_base a_beats a_cells a_kind a_notes a_other a_pitch a_share a_space a_speed a_tell a_times a_words z_refused z_steps z_held z_sort z_size z_shown z_carried z_was z_kept z_cutSpace z_cutTimes z_cutOff z_trace v_stretches v_cars v_tunes v_along v_near v_borne v_tempo v_seed v_fault v_from w221_0 v_end w221_1 w221_2 v_culprit v_ran v_isKept f_base f_beats g_cells f_kind f_notes f_other f_pitch f_share f_space f_speed (upd f_tell x4.toNatClampNeg w221_1) f_times f_words) := hD
    obtain ⟨x4_240, ex4_240⟩ : ∃ z : Int32, z = x4 + 1 := ⟨_, rfl⟩
    have h := h _ ex4_240
    refine lv_iinc (v := x4_240) (lv' := [(4, .int x4_240), (0, .ref a_o), (2, .int x2), (3, .int x3)]) hx hb dX10_item_240 hl (k := 3) rfl (by rw [ex4_240]; rfl) (by decide) rfl (fun ls hl => ?_)
    refine lv_goto (tgt := 145) hx hb dX10_item_243 (by decide) ?_
    exact hk145 _ _ _ _ _ _ _ _ _ _ _ _ _ _ _ _ _ _ _ _ _ _ _ _ _ h hP hD hS (lv_sub hl [1, 2, 3, 0] rfl)
  have h := h.1 hc
  refine lv_iconst (v := 0) hx hb dX10_item_227 (by decide) ?_
  exact W.zret hx hb hr rfl (fun t ht _ => ⟨⟨_, (v_stretches, v_cars, v_tunes, v_along, v_near, v_borne, v_tempo, w221_0, w221_1, w221_2, f_base, f_beats, f_kind, f_notes, f_other, f_pitch, f_share, f_space, f_speed, f_tell, f_times), rfl, h, hPt hP ht⟩, hS.F ht⟩) hS.2.2 dX10_item_228
set_option maxHeartbeats 4000000 in
set_option maxRecDepth 100000 in
theorem w_X10_item_145 {l : Launch} {D : va_G} {cI cJ cS : ClassId} {ad adK : Nat → Nat} {a_o a_base a_beats a_cells a_kind a_notes a_other a_pitch a_share a_space a_speed a_tell a_times a_words : Nat} {z_refused z_steps z_held z_sort z_size z_shown z_carried z_was z_kept z_cutSpace z_cutTimes z_cutOff z_trace : Value} {v_seed : Int32} {v_fault : Int32} {v_from : Int32} {v_end : Int32} {v_culprit : Int32} {v_ran : Int32} {v_isKept : Int32} {g_cells : Nat → Int64} {f_words : Nat → Int32} {x2 : Int32} {x3 : Int32} {post : Int32 → Int32 → Int32 → Int32 → Int32 → Int32 → Int32 → Int32 → Int32 → Int32 → Int32 → (Nat → Int32) → (Nat → Int32) → (Nat → Int32) → (Nat → Int32) → (Nat → Int32) → (Nat → Int32) → (Nat → Int32) → (Nat → Int32) → (Nat → Int32) → (Nat → Int32) → (Nat → Int32) → Prop} {p : Program} {e : Env} {s : State} {m : MethodId} {args : Array Value} {below : List Frame} {meth : Method} {c : Code} {A : Nat → Prop} (S : CallFix p m c cX10_item 6 s args GW "RoadThatSingsModel") (hE : EN D cI cJ cS s) (hT : ST ad adK A s s.heap) (hA : ∀ q : Nat, s.heap.size ≤ q → A q) (hr : meth.sig.returnType = (some (.boolean))) (hlocks : meth.locks = false) : ∀ n : Nat, ∀ (x4 : Int32) (v_stretches : Int32) (v_cars : Int32) (v_tunes : Int32) (v_along : Int32) (v_near : Int32) (v_borne : Int32) (v_tempo : Int32) (v_at : Int32) (v_told : Int32) (v_wrongAt : Int32) (f_base : Nat → Int32) (f_beats : Nat → Int32) (f_kind : Nat → Int32) (f_notes : Nat → Int32) (f_other : Nat → Int32) (f_pitch : Nat → Int32) (f_share : Nat → Int32) (f_space : Nat → Int32) (f_speed : Nat → Int32) (f_tell : Nat → Int32) (f_times : Nat → Int32) (H : Heap) (locs : List Loc) (ls : Array Slot), L_X10_item_145 v_from v_end g_cells x2 x3 post n x4 v_stretches v_cars v_tunes v_along v_near v_borne v_tempo v_at v_told v_wrongAt f_base f_beats f_kind f_notes f_other f_pitch f_share f_space f_speed f_tell f_times → va_P D vwCl (wX10_item cI cJ cS a_o a_base a_beats a_cells a_kind a_notes a_other a_pitch a_share a_space a_speed a_tell a_times a_words z_refused z_steps z_held z_sort z_size z_shown z_carried z_was z_kept z_cutSpace z_cutTimes z_cutOff z_trace v_stretches v_cars v_tunes v_along v_near v_borne v_tempo v_seed v_fault v_from v_at v_end v_told v_wrongAt v_culprit v_ran v_isKept f_base f_beats g_cells f_kind f_notes f_other f_pitch f_share f_space f_speed f_tell f_times f_words) H → va_D A (wX10_item cI cJ cS a_o a_base a_beats a_cells a_kind a_notes a_other a_pitch a_share a_space a_speed a_tell a_times a_words z_refused z_steps z_held z_sort z_size z_shown z_carried z_was z_kept z_cutSpace z_cutTimes z_cutOff z_trace v_stretches v_cars v_tunes v_along v_near v_borne v_tempo v_seed v_fault v_from v_at v_end v_told v_wrongAt v_culprit v_ran v_isKept f_base f_beats g_cells f_kind f_notes f_other f_pitch f_share f_space f_speed f_tell f_times f_words) → va_S A s.heap H locs → lv_has ls 6 [(0, .ref a_o), (2, .int x2), (3, .int x3), (4, .int x4)] → W p l e (rmd 2 0 0) s m args below meth c H locs 0 0 (MQ below (va_Qi (fun r (u : Int32 × Int32 × Int32 × Int32 × Int32 × Int32 × Int32 × Int32 × Int32 × Int32 × (Nat → Int32) × (Nat → Int32) × (Nat → Int32) × (Nat → Int32) × (Nat → Int32) × (Nat → Int32) × (Nat → Int32) × (Nat → Int32) × (Nat → Int32) × (Nat → Int32) × (Nat → Int32)) => post r u.1 u.2.1 u.2.2.1 u.2.2.2.1 u.2.2.2.2.1 u.2.2.2.2.2.1 u.2.2.2.2.2.2.1 u.2.2.2.2.2.2.2.1 u.2.2.2.2.2.2.2.2.1 u.2.2.2.2.2.2.2.2.2.1 u.2.2.2.2.2.2.2.2.2.2.1 u.2.2.2.2.2.2.2.2.2.2.2.1 u.2.2.2.2.2.2.2.2.2.2.2.2.1 u.2.2.2.2.2.2.2.2.2.2.2.2.2.1 u.2.2.2.2.2.2.2.2.2.2.2.2.2.2.1 u.2.2.2.2.2.2.2.2.2.2.2.2.2.2.2.1 u.2.2.2.2.2.2.2.2.2.2.2.2.2.2.2.2.1 u.2.2.2.2.2.2.2.2.2.2.2.2.2.2.2.2.2.1 u.2.2.2.2.2.2.2.2.2.2.2.2.2.2.2.2.2.2.1 u.2.2.2.2.2.2.2.2.2.2.2.2.2.2.2.2.2.2.2.1 u.2.2.2.2.2.2.2.2.2.2.2.2.2.2.2.2.2.2.2.2) (fun u t => va_P D vwCl (wX10_item cI cJ cS a_o a_base a_beats a_cells a_kind a_notes a_other a_pitch a_share a_space a_speed a_tell a_times a_words z_refused z_steps z_held z_sort z_size z_shown z_carried z_was z_kept z_cutSpace z_cutTimes z_cutOff z_trace u.1 u.2.1 u.2.2.1 u.2.2.2.1 u.2.2.2.2.1 u.2.2.2.2.2.1 u.2.2.2.2.2.2.1 v_seed v_fault v_from u.2.2.2.2.2.2.2.1 v_end u.2.2.2.2.2.2.2.2.1 u.2.2.2.2.2.2.2.2.2.1 v_culprit v_ran v_isKept u.2.2.2.2.2.2.2.2.2.2.1 u.2.2.2.2.2.2.2.2.2.2.2.1 g_cells u.2.2.2.2.2.2.2.2.2.2.2.2.1 u.2.2.2.2.2.2.2.2.2.2.2.2.2.1 u.2.2.2.2.2.2.2.2.2.2.2.2.2.2.1 u.2.2.2.2.2.2.2.2.2.2.2.2.2.2.2.1 u.2.2.2.2.2.2.2.2.2.2.2.2.2.2.2.2.1 u.2.2.2.2.2.2.2.2.2.2.2.2.2.2.2.2.2.1 u.2.2.2.2.2.2.2.2.2.2.2.2.2.2.2.2.2.2.1 u.2.2.2.2.2.2.2.2.2.2.2.2.2.2.2.2.2.2.2.1 u.2.2.2.2.2.2.2.2.2.2.2.2.2.2.2.2.2.2.2.2 f_words) t.heap) A) args s 0 0 A) (F0 m 145 ls []) := by
  intro n
  induction n with
  | zero =>
    intro x4 v_stretches v_cars v_tunes v_along v_near v_borne v_tempo v_at v_told v_wrongAt f_base f_beats f_kind f_notes f_other f_pitch f_share f_space f_speed f_tell f_times H locs ls h hP hD hS hl
    exact h.elim
  | succ n ih =>
    intro x4 v_stretches v_cars v_tunes v_along v_near v_borne v_tempo v_at v_told v_wrongAt f_base f_beats f_kind f_notes f_other f_pitch f_share f_space f_speed f_tell f_times H locs ls h hP hD hS hl
    rw [L_X10_item_145] at h
    have hx := S.1
    have hb := S.2.1
    refine lv_iload hx hb dX10_item_145 (lv_at hl 3 rfl) ?_
    refine lv_iload_n hx hb dX10_item_147 rfl (lv_at hl 2 rfl) ?_
    refine lv_icmp_ge (tgt := 246) hx hb dX10_item_148 (by decide) (fun hc => ?_) (fun hc => ?_)
    · have h := h.1 hc
      refine lv_iload_n hx hb dX10_item_246 rfl (lv_at hl 1 rfl) ?_
      by_cases hk0 : x2 = 0
      · have h := h.1 hk0
        refine lv_tableIn (off := 61) (tgt := 308) hx hb dX10_item_247 (by rw [hk0]; decide) (by rw [hk0]; decide) (by rw [hk0]; rfl) (by decide) ?_
        refine lv_aload_n hx hb dX10_item_308 rfl (lv_at hl 0 rfl) ?_
        refine lv_iload_n hx hb dX10_item_309 rfl (lv_at hl 1 rfl) ?_
        refine lv_if_ne (tgt := 317) hx hb dX10_item_310 (by decide) (fun hc => ?_) (fun hc => ?_)
        · have h := h.2 hc
          refine lv_iload_n hx hb dX10_item_317 rfl (lv_at hl 1 rfl) ?_
          refine lv_iconst (v := 2) hx hb dX10_item_318 (by decide) ?_
          refine lv_icmp_ne (tgt := 326) hx hb dX10_item_319 (by decide) (fun hc => ?_) (fun hc => ?_)
          · have h := h.2 hc
            refine lv_iconst (v := 4) hx hb dX10_item_326 (by decide) ?_
            refine w_X10_item_327 S hE hT hA hr hlocks _ _ _ h hP hD hS (lv_sub hl [0] rfl)
          have h := h.1 hc
          refine lv_iconst (v := 3) hx hb dX10_item_322 (by decide) ?_
          refine lv_goto (tgt := 327) hx hb dX10_item_323 (by decide) ?_
          refine w_X10_item_327 S hE hT hA hr hlocks _ _ _ h hP hD hS (lv_sub hl [0] rfl)
        have h := h.1 hc
        refine lv_iconst (v := 1) hx hb dX10_item_313 (by decide) ?_
        refine lv_goto (tgt := 327) hx hb dX10_item_314 (by decide) ?_
        refine w_X10_item_327 S hE hT hA hr hlocks _ _ _ h hP hD hS (lv_sub hl [0] rfl)
      have h := h.2 hk0
      by_cases hk1 : x2 = 1
      · have h := h.1 hk1
        refine lv_tableIn (off := 99) (tgt := 346) hx hb dX10_item_247 (by rw [hk1]; decide) (by rw [hk1]; decide) (by rw [hk1]; rfl) (by decide) ?_
        refine lv_aload_n hx hb dX10_item_346 rfl (lv_at hl 0 rfl) ?_
        refine lv_iload_n hx hb dX10_item_347 rfl (lv_at hl 1 rfl) ?_
        refine lv_iconst (v := 1) hx hb dX10_item_348 (by decide) ?_
        refine lv_icmp_ne (tgt := 356) hx hb dX10_item_349 (by decide) (fun hc => ?_) (fun hc => ?_)
        · have h := h.2 hc
          refine lv_iload_n hx hb dX10_item_356 rfl (lv_at hl 1 rfl) ?_
          refine lv_iconst (v := 4) hx hb dX10_item_357 (by decide) ?_
          refine lv_icmp_ne (tgt := 365) hx hb dX10_item_358 (by decide) (fun hc => ?_) (fun hc => ?_)
          · have h := h.2 hc
            refine lv_bipush (v := 6) hx hb dX10_item_365 (by decide) ?_
            refine w_X10_item_367 S hE hT hA hr hlocks _ _ _ h hP hD hS (lv_sub hl [0] rfl)
          have h := h.1 hc
          refine lv_iconst (v := 5) hx hb dX10_item_361 (by decide) ?_
          refine lv_goto (tgt := 367) hx hb dX10_item_362 (by decide) ?_
          refine w_X10_item_367 S hE hT hA hr hlocks _ _ _ h hP hD hS (lv_sub hl [0] rfl)
        have h := h.1 hc
        refine lv_iconst (v := 2) hx hb dX10_item_352 (by decide) ?_
        refine lv_goto (tgt := 367) hx hb dX10_item_353 (by decide) ?_
        refine w_X10_item_367 S hE hT hA hr hlocks _ _ _ h hP hD hS (lv_sub hl [0] rfl)
      have h := h.2 hk1
      by_cases hk2 : x2 = 2
      · have h := h.1 hk2
        refine lv_tableIn (off := 61) (tgt := 308) hx hb dX10_item_247 (by rw [hk2]; decide) (by rw [hk2]; decide) (by rw [hk2]; rfl) (by decide) ?_
        refine lv_aload_n hx hb dX10_item_308 rfl (lv_at hl 0 rfl) ?_
        refine lv_iload_n hx hb dX10_item_309 rfl (lv_at hl 1 rfl) ?_
        refine lv_if_ne (tgt := 317) hx hb dX10_item_310 (by decide) (fun hc => ?_) (fun hc => ?_)
        · have h := h.2 hc
          refine lv_iload_n hx hb dX10_item_317 rfl (lv_at hl 1 rfl) ?_
          refine lv_iconst (v := 2) hx hb dX10_item_318 (by decide) ?_
          refine lv_icmp_ne (tgt := 326) hx hb dX10_item_319 (by decide) (fun hc => ?_) (fun hc => ?_)
          · have h := h.2 hc
            refine lv_iconst (v := 4) hx hb dX10_item_326 (by decide) ?_
            refine w_X10_item_327 S hE hT hA hr hlocks _ _ _ h hP hD hS (lv_sub hl [0] rfl)
          have h := h.1 hc
          refine lv_iconst (v := 3) hx hb dX10_item_322 (by decide) ?_
          refine lv_goto (tgt := 327) hx hb dX10_item_323 (by decide) ?_
          refine w_X10_item_327 S hE hT hA hr hlocks _ _ _ h hP hD hS (lv_sub hl [0] rfl)
        have h := h.1 hc
        refine lv_iconst (v := 1) hx hb dX10_item_313 (by decide) ?_
        refine lv_goto (tgt := 327) hx hb dX10_item_314 (by decide) ?_
        refine w_X10_item_327 S hE hT hA hr hlocks _ _ _ h hP hD hS (lv_sub hl [0] rfl)
      have h := h.2 hk2
      by_cases hk3 : x2 = 3
      · have h := h.1 hk3
        refine lv_tableIn (off := 61) (tgt := 308) hx hb dX10_item_247 (by rw [hk3]; decide) (by rw [hk3]; decide) (by rw [hk3]; rfl) (by decide) ?_
        refine lv_aload_n hx hb dX10_item_308 rfl (lv_at hl 0 rfl) ?_
        refine lv_iload_n hx hb dX10_item_309 rfl (lv_at hl 1 rfl) ?_
        refine lv_if_ne (tgt := 317) hx hb dX10_item_310 (by decide) (fun hc => ?_) (fun hc => ?_)
        · have h := h.2 hc
          refine lv_iload_n hx hb dX10_item_317 rfl (lv_at hl 1 rfl) ?_
          refine lv_iconst (v := 2) hx hb dX10_item_318 (by decide) ?_
          refine lv_icmp_ne (tgt := 326) hx hb dX10_item_319 (by decide) (fun hc => ?_) (fun hc => ?_)
          · have h := h.2 hc
            refine lv_iconst (v := 4) hx hb dX10_item_326 (by decide) ?_
            refine w_X10_item_327 S hE hT hA hr hlocks _ _ _ h hP hD hS (lv_sub hl [0] rfl)
          have h := h.1 hc
          refine lv_iconst (v := 3) hx hb dX10_item_322 (by decide) ?_
          refine lv_goto (tgt := 327) hx hb dX10_item_323 (by decide) ?_
          refine w_X10_item_327 S hE hT hA hr hlocks _ _ _ h hP hD hS (lv_sub hl [0] rfl)
        have h := h.1 hc
        refine lv_iconst (v := 1) hx hb dX10_item_313 (by decide) ?_
        refine lv_goto (tgt := 327) hx hb dX10_item_314 (by decide) ?_
        refine w_X10_item_327 S hE hT hA hr hlocks _ _ _ h hP hD hS (lv_sub hl [0] rfl)
      have h := h.2 hk3
      by_cases hk4 : x2 = 4
      · have h := h.1 hk4
        refine lv_tableIn (off := 99) (tgt := 346) hx hb dX10_item_247 (by rw [hk4]; decide) (by rw [hk4]; decide) (by rw [hk4]; rfl) (by decide) ?_
        refine lv_aload_n hx hb dX10_item_346 rfl (lv_at hl 0 rfl) ?_
        refine lv_iload_n hx hb dX10_item_347 rfl (lv_at hl 1 rfl) ?_
        refine lv_iconst (v := 1) hx hb dX10_item_348 (by decide) ?_
        refine lv_icmp_ne (tgt := 356) hx hb dX10_item_349 (by decide) (fun hc => ?_) (fun hc => ?_)
        · have h := h.2 hc
          refine lv_iload_n hx hb dX10_item_356 rfl (lv_at hl 1 rfl) ?_
          refine lv_iconst (v := 4) hx hb dX10_item_357 (by decide) ?_
          refine lv_icmp_ne (tgt := 365) hx hb dX10_item_358 (by decide) (fun hc => ?_) (fun hc => ?_)
          · have h := h.2 hc
            refine lv_bipush (v := 6) hx hb dX10_item_365 (by decide) ?_
            refine w_X10_item_367 S hE hT hA hr hlocks _ _ _ h hP hD hS (lv_sub hl [0] rfl)
          have h := h.1 hc
          refine lv_iconst (v := 5) hx hb dX10_item_361 (by decide) ?_
          refine lv_goto (tgt := 367) hx hb dX10_item_362 (by decide) ?_
          refine w_X10_item_367 S hE hT hA hr hlocks _ _ _ h hP hD hS (lv_sub hl [0] rfl)
        have h := h.1 hc
        refine lv_iconst (v := 2) hx hb dX10_item_352 (by decide) ?_
        refine lv_goto (tgt := 367) hx hb dX10_item_353 (by decide) ?_
        refine w_X10_item_367 S hE hT hA hr hlocks _ _ _ h hP hD hS (lv_sub hl [0] rfl)
      have h := h.2 hk4
      by_cases hk5 : x2 = 5
      · have h := h.1 hk5
        refine lv_tableIn (off := 99) (tgt := 346) hx hb dX10_item_247 (by rw [hk5]; decide) (by rw [hk5]; decide) (by rw [hk5]; rfl) (by decide) ?_
        refine lv_aload_n hx hb dX10_item_346 rfl (lv_at hl 0 rfl) ?_
        refine lv_iload_n hx hb dX10_item_347 rfl (lv_at hl 1 rfl) ?_
        refine lv_iconst (v := 1) hx hb dX10_item_348 (by decide) ?_
        refine lv_icmp_ne (tgt := 356) hx hb dX10_item_349 (by decide) (fun hc => ?_) (fun hc => ?_)
        · have h := h.2 hc
          refine lv_iload_n hx hb dX10_item_356 rfl (lv_at hl 1 rfl) ?_
          refine lv_iconst (v := 4) hx hb dX10_item_357 (by decide) ?_
          refine lv_icmp_ne (tgt := 365) hx hb dX10_item_358 (by decide) (fun hc => ?_) (fun hc => ?_)
          · have h := h.2 hc
            refine lv_bipush (v := 6) hx hb dX10_item_365 (by decide) ?_
            refine w_X10_item_367 S hE hT hA hr hlocks _ _ _ h hP hD hS (lv_sub hl [0] rfl)
          have h := h.1 hc
          refine lv_iconst (v := 5) hx hb dX10_item_361 (by decide) ?_
          refine lv_goto (tgt := 367) hx hb dX10_item_362 (by decide) ?_
          refine w_X10_item_367 S hE hT hA hr hlocks _ _ _ h hP hD hS (lv_sub hl [0] rfl)
        have h := h.1 hc
        refine lv_iconst (v := 2) hx hb dX10_item_352 (by decide) ?_
        refine lv_goto (tgt := 367) hx hb dX10_item_353 (by decide) ?_
        refine w_X10_item_367 S hE hT hA hr hlocks _ _ _ h hP hD hS (lv_sub hl [0] rfl)
      have h := h.2 hk5
      by_cases hk6 : x2 = 6
      · have h := h.1 hk6
        refine lv_tableIn (off := 144) (tgt := 391) hx hb dX10_item_247 (by rw [hk6]; decide) (by rw [hk6]; decide) (by rw [hk6]; rfl) (by decide) ?_
        refine lv_aload_n hx hb dX10_item_391 rfl (lv_at hl 0 rfl) ?_
        refine lv_aload_n hx hb dX10_item_392 rfl (lv_at hl 0 rfl) ?_
        refine gf S hE hP 0 rfl rfl inX10 (k := 28) (by decide) q1121 rfl dX10_item_393 ?_
        refine lv_iconst (v := 0) hx hb dX10_item_396 (by decide) ?_
        refine ial S hE hP 11 rfl (by unfold vp_in; decide) dX10_item_397 ?_
        refine lv_aload_n hx hb dX10_item_398 rfl (lv_at hl 0 rfl) ?_
        refine gf S hE hP 0 rfl rfl inX10 (k := 28) (by decide) q1121 rfl dX10_item_399 ?_
        refine lv_iconst (v := 1) hx hb dX10_item_402 (by decide) ?_
        refine ial S hE hP 11 rfl (by unfold vp_in; decide) dX10_item_403 ?_
        refine lv_aload_n hx hb dX10_item_404 rfl (lv_at hl 0 rfl) ?_
        refine gf S hE hP 0 rfl rfl inX10 (k := 28) (by decide) q1121 rfl dX10_item_405 ?_
        refine lv_iconst (v := 2) hx hb dX10_item_408 (by decide) ?_
        refine ial S hE hP 11 rfl (by unfold vp_in; decide) dX10_item_409 ?_
        refine rw_i (rwV S hE hT hS hP hD hA (c_X10_cars h) [0, 1, 8, 10] rfl (by decide +kernel) lkX10_162 rfl ⟨(Nat.le_of_ble_eq_true rfl), (Nat.le_of_ble_eq_true rfl)⟩ 0 rfl rfl hl.1 rfl (Nat.le_of_ble_eq_true rfl) dX10_item_410 ⟨(Nat.zero_le _), (Nat.zero_le _)⟩) hP hD hS hA [0, 1, 8, 10] rfl (by decide +kernel) (fun _ => rfl) (fun r410 u410 H locs h hP hD hS => ?_)
        obtain ⟨w410_0, w410_1, w410_2, w410_3⟩ := u410
        try dsimp only at h
        have hP : va_P D vwCl (wX10_item cI cJ cS a_o a_base a_beats a_cells a_kind a_notes a_other a_pitch a_share a_space a_speed a_tell a_times a_words z_refused z_steps z_held z_sort z_size z_shown z_carried z_was z_kept z_cutSpace z_cutTimes z_cutOff z_trace v_stretches w410_0 v_tunes v_along v_near v_borne v_tempo v_seed v_fault v_from v_at v_end v_told v_wrongAt v_culprit v_ran v_isKept w410_1 f_beats g_cells f_kind f_notes f_other f_pitch w410_2 f_space w410_3 f_tell f_times f_words) H := hP
        have hD : va_D A (wX10_item cI cJ cS a_o a_base a_beats a_cells a_kind a_notes a_other a_pitch a_share a_space a_speed a_tell a_times a_words z_refused z_steps z_held z_sort z_size z_shown z_carried z_was z_kept z_cutSpace z_cutTimes z_cutOff z_trace v_stretches w410_0 v_tunes v_along v_near v_borne v_tempo v_seed v_fault v_from v_at v_end v_told v_wrongAt v_culprit v_ran v_isKept w410_1 f_beats g_cells f_kind f_notes f_other f_pitch w410_2 f_space w410_3 f_tell f_times f_words) := hD
        refine lv_pop hx hb dX10_item_413 rfl ?_
        refine lv_goto (tgt := 549) hx hb dX10_item_414 (by decide) ?_
        refine lv_iconst (v := 1) hx hb dX10_item_549 (by decide) ?_
        exact W.zret hx hb hr rfl (fun t ht _ => ⟨⟨_, (v_stretches, w410_0, v_tunes, v_along, v_near, v_borne, v_tempo, v_at, v_told, v_wrongAt, w410_1, f_beats, f_kind, f_notes, f_other, f_pitch, w410_2, f_space, w410_3, f_tell, f_times), rfl, h, hPt hP ht⟩, hS.F ht⟩) hS.2.2 dX10_item_550
      have h := h.2 hk6
      by_cases hk7 : x2 = 7
      · have h := h.1 hk7
        refine lv_tableIn (off := 170) (tgt := 417) hx hb dX10_item_247 (by rw [hk7]; decide) (by rw [hk7]; decide) (by rw [hk7]; rfl) (by decide) ?_
        refine lv_aload_n hx hb dX10_item_417 rfl (lv_at hl 0 rfl) ?_
        refine gf S hE hP 0 rfl rfl inX10 (k := 18) (by decide) q1111 rfl dX10_item_418 ?_
        refine lv_aload_n hx hb dX10_item_421 rfl (lv_at hl 0 rfl) ?_
        refine lv_dup hx hb dX10_item_422 rfl ?_
        refine gf S hE hP 0 rfl rfl inX10 (k := 2) (by decide) q1095 rfl dX10_item_423 ?_
        refine lv_dup_x1 hx hb dX10_item_426 rfl rfl ?_
        refine lv_iconst (v := 1) hx hb dX10_item_427 (by decide) ?_
        refine lv_iadd hx hb dX10_item_428 ?_
        refine pf S hE hP hD hS 0 (k := 2) rfl rfl inX10 tyX10_ok nmX10 (by decide) q1095 rfl rfl rfl (Nat.le_of_ble_eq_true rfl) dX10_item_429 (fun H locs hP hD hS => ?_)
        have hP : va_P D vwCl (wX10_item cI cJ cS a_o a_base a_beats a_cells a_kind a_notes a_other a_pitch a_share a_space a_speed a_tell a_times a_words z_refused z_steps z_held z_sort z_size z_shown z_carried z_was z_kept z_cutSpace z_cutTimes z_cutOff z_trace v_stretches v_cars (v_tunes + 1) v_along v_near v_borne v_tempo v_seed v_fault v_from v_at v_end v_told v_wrongAt v_culprit v_ran v_isKept f_base f_beats g_cells f_kind f_notes f_other f_pitch f_share f_space f_speed f_tell f_times f_words) H := hP
        have hD : va_D A (wX10_item cI cJ cS a_o a_base a_beats a_cells a_kind a_notes a_other a_pitch a_share a_space a_speed a_tell a_times a_words z_refused z_steps z_held z_sort z_size z_shown z_carried z_was z_kept z_cutSpace z_cutTimes z_cutOff z_trace v_stretches v_cars (v_tunes + 1) v_along v_near v_borne v_tempo v_seed v_fault v_from v_at v_end v_told v_wrongAt v_culprit v_ran v_isKept f_base f_beats g_cells f_kind f_notes f_other f_pitch f_share f_space f_speed f_tell f_times f_words) := hD
        refine lv_iconst (v := 0) hx hb dX10_item_432 (by decide) ?_
        obtain ⟨hi, h⟩ := h
        refine ias S hE hP hD hS 5 rfl hi dX10_item_433 (fun H locs hP hD hS => ?_)
        have hP : va_P D vwCl (wX10_item cI cJ cS a_o a_base a_beats a_cells a_kind a_notes a_other a_pitch a_share a_space a_speed a_tell a_times a_words z_refused z_steps z_held z_sort z_size z_shown z_carried z_was z_kept z_cutSpace z_cutTimes z_cutOff z_trace v_stretches v_cars (v_tunes + 1) v_along v_near v_borne v_tempo v_seed v_fault v_from v_at v_end v_told v_wrongAt v_culprit v_ran v_isKept f_base f_beats g_cells f_kind (upd f_notes v_tunes.toNatClampNeg 0) f_other f_pitch f_share f_space f_speed f_tell f_times f_words) H := hP
        have hD : va_D A (wX10_item cI cJ cS a_o a_base a_beats a_cells a_kind a_notes a_other a_pitch a_share a_space a_speed a_tell a_times a_words z_refused z_steps z_held z_sort z_size z_shown z_carried z_was z_kept z_cutSpace z_cutTimes z_cutOff z_trace v_stretches v_cars (v_tunes + 1) v_along v_near v_borne v_tempo v_seed v_fault v_from v_at v_end v_told v_wrongAt v_culprit v_ran v_isKept f_base f_beats g_cells f_kind (upd f_notes v_tunes.toNatClampNeg 0) f_other f_pitch f_share f_space f_speed f_tell f_times f_words) := hD
        refine lv_goto (tgt := 549) hx hb dX10_item_434 (by decide) ?_
        refine lv_iconst (v := 1) hx hb dX10_item_549 (by decide) ?_
        exact W.zret hx hb hr rfl (fun t ht _ => ⟨⟨_, (v_stretches, v_cars, (v_tunes + 1), v_along, v_near, v_borne, v_tempo, v_at, v_told, v_wrongAt, f_base, f_beats, f_kind, (upd f_notes v_tunes.toNatClampNeg 0), f_other, f_pitch, f_share, f_space, f_speed, f_tell, f_times), rfl, h, hPt hP ht⟩, hS.F ht⟩) hS.2.2 dX10_item_550
      have h := h.2 hk7
      by_cases hk8 : x2 = 8
      · have h := h.1 hk8
        refine lv_tableIn (off := 190) (tgt := 437) hx hb dX10_item_247 (by rw [hk8]; decide) (by rw [hk8]; decide) (by rw [hk8]; rfl) (by decide) ?_
        refine lv_aload_n hx hb dX10_item_437 rfl (lv_at hl 0 rfl) ?_
        refine gf S hE hP 0 rfl rfl inX10 (k := 2) (by decide) q1095 rfl dX10_item_438 ?_
        refine lv_iconst (v := 1) hx hb dX10_item_441 (by decide) ?_
        refine lv_isub hx hb dX10_item_442 ?_
        refine lv_topi (fun x4_443 ex4_443 => ?_)
        have h := h _ ex4_443
        refine lv_istore (lv' := [(4, .int x4_443), (0, .ref a_o), (2, .int x2), (3, .int x3)]) hx hb dX10_item_443 hl (by decide) rfl (fun ls hl => ?_)
        refine lv_bipush (v := 12) hx hb dX10_item_445 (by decide) ?_
        refine lv_iload hx hb dX10_item_447 (lv_at hl 0 rfl) ?_
        refine lv_imul hx hb dX10_item_449 ?_
        refine lv_aload_n hx hb dX10_item_450 rfl (lv_at hl 1 rfl) ?_
        refine gf S hE hP 0 rfl rfl inX10 (k := 18) (by decide) q1111 rfl dX10_item_451 ?_
        refine lv_iload hx hb dX10_item_454 (lv_at hl 0 rfl) ?_
        obtain ⟨hi, h⟩ := h
        refine ial S hE hP 5 rfl hi dX10_item_456 ?_
        refine lv_iadd hx hb dX10_item_457 ?_
        refine lv_topi (fun x5_458 ex5_458 => ?_)
        have h := h _ ex5_458
        refine lv_istore (lv' := [(5, .int x5_458), (4, .int x4_443), (0, .ref a_o), (2, .int x2), (3, .int x3)]) hx hb dX10_item_458 hl (by decide) rfl (fun ls hl => ?_)
        refine lv_aload_n hx hb dX10_item_460 rfl (lv_at hl 2 rfl) ?_
        refine gf S hE hP 0 rfl rfl inX10 (k := 19) (by decide) q1112 rfl dX10_item_461 ?_
        refine lv_iload hx hb dX10_item_464 (lv_at hl 0 rfl) ?_
        refine lv_aload_n hx hb dX10_item_466 rfl (lv_at hl 2 rfl) ?_
        refine gf S hE hP 0 rfl rfl inX10 (k := 28) (by decide) q1121 rfl dX10_item_467 ?_
        refine lv_iconst (v := 0) hx hb dX10_item_470 (by decide) ?_
        refine ial S hE hP 11 rfl (by unfold vp_in; decide) dX10_item_471 ?_
        obtain ⟨hi, h⟩ := h
        refine ias S hE hP hD hS 7 rfl hi dX10_item_472 (fun H locs hP hD hS => ?_)
        have hP : va_P D vwCl (wX10_item cI cJ cS a_o a_base a_beats a_cells a_kind a_notes a_other a_pitch a_share a_space a_speed a_tell a_times a_words z_refused z_steps z_held z_sort z_size z_shown z_carried z_was z_kept z_cutSpace z_cutTimes z_cutOff z_trace v_stretches v_cars v_tunes v_along v_near v_borne v_tempo v_seed v_fault v_from v_at v_end v_told v_wrongAt v_culprit v_ran v_isKept f_base f_beats g_cells f_kind f_notes f_other (upd f_pitch x5_458.toNatClampNeg (f_tell (0 : Int32).toNatClampNeg)) f_share f_space f_speed f_tell f_times f_words) H := hP
        have hD : va_D A (wX10_item cI cJ cS a_o a_base a_beats a_cells a_kind a_notes a_other a_pitch a_share a_space a_speed a_tell a_times a_words z_refused z_steps z_held z_sort z_size z_shown z_carried z_was z_kept z_cutSpace z_cutTimes z_cutOff z_trace v_stretches v_cars v_tunes v_along v_near v_borne v_tempo v_seed v_fault v_from v_at v_end v_told v_wrongAt v_culprit v_ran v_isKept f_base f_beats g_cells f_kind f_notes f_other (upd f_pitch x5_458.toNatClampNeg (f_tell (0 : Int32).toNatClampNeg)) f_share f_space f_speed f_tell f_times f_words) := hD
        refine lv_aload_n hx hb dX10_item_473 rfl (lv_at hl 2 rfl) ?_
        refine gf S hE hP 0 rfl rfl inX10 (k := 20) (by decide) q1113 rfl dX10_item_474 ?_
        refine lv_iload hx hb dX10_item_477 (lv_at hl 0 rfl) ?_
        refine lv_aload_n hx hb dX10_item_479 rfl (lv_at hl 2 rfl) ?_
        refine gf S hE hP 0 rfl rfl inX10 (k := 28) (by decide) q1121 rfl dX10_item_480 ?_
        refine lv_iconst (v := 1) hx hb dX10_item_483 (by decide) ?_
        refine ial S hE hP 11 rfl (by unfold vp_in; decide) dX10_item_484 ?_
        obtain ⟨hi, h⟩ := h
        refine ias S hE hP hD hS 2 rfl hi dX10_item_485 (fun H locs hP hD hS => ?_)
        have hP : va_P D vwCl (wX10_item cI cJ cS a_o a_base a_beats a_cells a_kind a_notes a_other a_pitch a_share a_space a_speed a_tell a_times a_words z_refused z_steps z_held z_sort z_size z_shown z_carried z_was z_kept z_cutSpace z_cutTimes z_cutOff z_trace v_stretches v_cars v_tunes v_along v_near v_borne v_tempo v_seed v_fault v_from v_at v_end v_told v_wrongAt v_culprit v_ran v_isKept f_base (upd f_beats x5_458.toNatClampNeg (f_tell (1 : Int32).toNatClampNeg)) g_cells f_kind f_notes f_other (upd f_pitch x5_458.toNatClampNeg (f_tell (0 : Int32).toNatClampNeg)) f_share f_space f_speed f_tell f_times f_words) H := hP
        have hD : va_D A (wX10_item cI cJ cS a_o a_base a_beats a_cells a_kind a_notes a_other a_pitch a_share a_space a_speed a_tell a_times a_words z_refused z_steps z_held z_sort z_size z_shown z_carried z_was z_kept z_cutSpace z_cutTimes z_cutOff z_trace v_stretches v_cars v_tunes v_along v_near v_borne v_tempo v_seed v_fault v_from v_at v_end v_told v_wrongAt v_culprit v_ran v_isKept f_base (upd f_beats x5_458.toNatClampNeg (f_tell (1 : Int32).toNatClampNeg)) g_cells f_kind f_notes f_other (upd f_pitch x5_458.toNatClampNeg (f_tell (0 : Int32).toNatClampNeg)) f_share f_space f_speed f_tell f_times f_words) := hD
        refine lv_aload_n hx hb dX10_item_486 rfl (lv_at hl 2 rfl) ?_
        refine gf S hE hP 0 rfl rfl inX10 (k := 18) (by decide) q1111 rfl dX10_item_487 ?_
        refine lv_iload hx hb dX10_item_490 (lv_at hl 1 rfl) ?_
        refine lv_dup2_11 hx hb dX10_item_492 rfl rfl ?_
        obtain ⟨hi, h⟩ := h
        refine ial S hE hP 5 rfl hi dX10_item_493 ?_
        refine lv_iconst (v := 1) hx hb dX10_item_494 (by decide) ?_
        refine lv_iadd hx hb dX10_item_495 ?_
        obtain ⟨hi, h⟩ := h
        refine ias S hE hP hD hS 5 rfl hi dX10_item_496 (fun H locs hP hD hS => ?_)
        have hP : va_P D vwCl (wX10_item cI cJ cS a_o a_base a_beats a_cells a_kind a_notes a_other a_pitch a_share a_space a_speed a_tell a_times a_words z_refused z_steps z_held z_sort z_size z_shown z_carried z_was z_kept z_cutSpace z_cutTimes z_cutOff z_trace v_stretches v_cars v_tunes v_along v_near v_borne v_tempo v_seed v_fault v_from v_at v_end v_told v_wrongAt v_culprit v_ran v_isKept f_base (upd f_beats x5_458.toNatClampNeg (f_tell (1 : Int32).toNatClampNeg)) g_cells f_kind (upd f_notes x4_443.toNatClampNeg ((f_notes x4_443.toNatClampNeg) + 1)) f_other (upd f_pitch x5_458.toNatClampNeg (f_tell (0 : Int32).toNatClampNeg)) f_share f_space f_speed f_tell f_times f_words) H := hP
        have hD : va_D A (wX10_item cI cJ cS a_o a_base a_beats a_cells a_kind a_notes a_other a_pitch a_share a_space a_speed a_tell a_times a_words z_refused z_steps z_held z_sort z_size z_shown z_carried z_was z_kept z_cutSpace z_cutTimes z_cutOff z_trace v_stretches v_cars v_tunes v_along v_near v_borne v_tempo v_seed v_fault v_from v_at v_end v_told v_wrongAt v_culprit v_ran v_isKept f_base (upd f_beats x5_458.toNatClampNeg (f_tell (1 : Int32).toNatClampNeg)) g_cells f_kind (upd f_notes x4_443.toNatClampNeg ((f_notes x4_443.toNatClampNeg) + 1)) f_other (upd f_pitch x5_458.toNatClampNeg (f_tell (0 : Int32).toNatClampNeg)) f_share f_space f_speed f_tell f_times f_words) := hD
        refine lv_goto (tgt := 549) hx hb dX10_item_497 (by decide) ?_
        refine lv_iconst (v := 1) hx hb dX10_item_549 (by decide) ?_
        exact W.zret hx hb hr rfl (fun t ht _ => ⟨⟨_, (v_stretches, v_cars, v_tunes, v_along, v_near, v_borne, v_tempo, v_at, v_told, v_wrongAt, f_base, (upd f_beats x5_458.toNatClampNeg (f_tell (1 : Int32).toNatClampNeg)), f_kind, (upd f_notes x4_443.toNatClampNeg ((f_notes x4_443.toNatClampNeg) + 1)), f_other, (upd f_pitch x5_458.toNatClampNeg (f_tell (0 : Int32).toNatClampNeg)), f_share, f_space, f_speed, f_tell, f_times), rfl, h, hPt hP ht⟩, hS.F ht⟩) hS.2.2 dX10_item_550
      have h := h.2 hk8
      by_cases hk9 : x2 = 9
      · have h := h.1 hk9
        refine lv_tableIn (off := 253) (tgt := 500) hx hb dX10_item_247 (by rw [hk9]; decide) (by rw [hk9]; decide) (by rw [hk9]; rfl) (by decide) ?_
        refine lv_aload_n hx hb dX10_item_500 rfl (lv_at hl 0 rfl) ?_
        refine lv_aload_n hx hb dX10_item_501 rfl (lv_at hl 0 rfl) ?_
        refine gf S hE hP 0 rfl rfl inX10 (k := 28) (by decide) q1121 rfl dX10_item_502 ?_
        refine lv_iconst (v := 0) hx hb dX10_item_505 (by decide) ?_
        refine ial S hE hP 11 rfl (by unfold vp_in; decide) dX10_item_506 ?_
        refine pf S hE hP hD hS 0 (k := 3) rfl rfl inX10 tyX10_ok nmX10 (by decide) q1096 rfl rfl rfl (Nat.le_of_ble_eq_true rfl) dX10_item_507 (fun H locs hP hD hS => ?_)
        have hP : va_P D vwCl (wX10_item cI cJ cS a_o a_base a_beats a_cells a_kind a_notes a_other a_pitch a_share a_space a_speed a_tell a_times a_words z_refused z_steps z_held z_sort z_size z_shown z_carried z_was z_kept z_cutSpace z_cutTimes z_cutOff z_trace v_stretches v_cars v_tunes (f_tell (0 : Int32).toNatClampNeg) v_near v_borne v_tempo v_seed v_fault v_from v_at v_end v_told v_wrongAt v_culprit v_ran v_isKept f_base f_beats g_cells f_kind f_notes f_other f_pitch f_share f_space f_speed f_tell f_times f_words) H := hP
        have hD : va_D A (wX10_item cI cJ cS a_o a_base a_beats a_cells a_kind a_notes a_other a_pitch a_share a_space a_speed a_tell a_times a_words z_refused z_steps z_held z_sort z_size z_shown z_carried z_was z_kept z_cutSpace z_cutTimes z_cutOff z_trace v_stretches v_cars v_tunes (f_tell (0 : Int32).toNatClampNeg) v_near v_borne v_tempo v_seed v_fault v_from v_at v_end v_told v_wrongAt v_culprit v_ran v_isKept f_base f_beats g_cells f_kind f_notes f_other f_pitch f_share f_space f_speed f_tell f_times f_words) := hD
        refine lv_goto (tgt := 549) hx hb dX10_item_510 (by decide) ?_
        refine lv_iconst (v := 1) hx hb dX10_item_549 (by decide) ?_
        exact W.zret hx hb hr rfl (fun t ht _ => ⟨⟨_, (v_stretches, v_cars, v_tunes, (f_tell (0 : Int32).toNatClampNeg), v_near, v_borne, v_tempo, v_at, v_told, v_wrongAt, f_base, f_beats, f_kind, f_notes, f_other, f_pitch, f_share, f_space, f_speed, f_tell, f_times), rfl, h, hPt hP ht⟩, hS.F ht⟩) hS.2.2 dX10_item_550
      have h := h.2 hk9
      by_cases hk10 : x2 = 10
      · have h := h.1 hk10
        refine lv_tableIn (off := 266) (tgt := 513) hx hb dX10_item_247 (by rw [hk10]; decide) (by rw [hk10]; decide) (by rw [hk10]; rfl) (by decide) ?_
        refine lv_aload_n hx hb dX10_item_513 rfl (lv_at hl 0 rfl) ?_
        refine lv_aload_n hx hb dX10_item_514 rfl (lv_at hl 0 rfl) ?_
        refine gf S hE hP 0 rfl rfl inX10 (k := 28) (by decide) q1121 rfl dX10_item_515 ?_
        refine lv_iconst (v := 0) hx hb dX10_item_518 (by decide) ?_
        refine ial S hE hP 11 rfl (by unfold vp_in; decide) dX10_item_519 ?_
        refine pf S hE hP hD hS 0 (k := 4) rfl rfl inX10 tyX10_ok nmX10 (by decide) q1097 rfl rfl rfl (Nat.le_of_ble_eq_true rfl) dX10_item_520 (fun H locs hP hD hS => ?_)
        have hP : va_P D vwCl (wX10_item cI cJ cS a_o a_base a_beats a_cells a_kind a_notes a_other a_pitch a_share a_space a_speed a_tell a_times a_words z_refused z_steps z_held z_sort z_size z_shown z_carried z_was z_kept z_cutSpace z_cutTimes z_cutOff z_trace v_stretches v_cars v_tunes v_along (f_tell (0 : Int32).toNatClampNeg) v_borne v_tempo v_seed v_fault v_from v_at v_end v_told v_wrongAt v_culprit v_ran v_isKept f_base f_beats g_cells f_kind f_notes f_other f_pitch f_share f_space f_speed f_tell f_times f_words) H := hP
        have hD : va_D A (wX10_item cI cJ cS a_o a_base a_beats a_cells a_kind a_notes a_other a_pitch a_share a_space a_speed a_tell a_times a_words z_refused z_steps z_held z_sort z_size z_shown z_carried z_was z_kept z_cutSpace z_cutTimes z_cutOff z_trace v_stretches v_cars v_tunes v_along (f_tell (0 : Int32).toNatClampNeg) v_borne v_tempo v_seed v_fault v_from v_at v_end v_told v_wrongAt v_culprit v_ran v_isKept f_base f_beats g_cells f_kind f_notes f_other f_pitch f_share f_space f_speed f_tell f_times f_words) := hD
        refine lv_goto (tgt := 549) hx hb dX10_item_523 (by decide) ?_
        refine lv_iconst (v := 1) hx hb dX10_item_549 (by decide) ?_
        exact W.zret hx hb hr rfl (fun t ht _ => ⟨⟨_, (v_stretches, v_cars, v_tunes, v_along, (f_tell (0 : Int32).toNatClampNeg), v_borne, v_tempo, v_at, v_told, v_wrongAt, f_base, f_beats, f_kind, f_notes, f_other, f_pitch, f_share, f_space, f_speed, f_tell, f_times), rfl, h, hPt hP ht⟩, hS.F ht⟩) hS.2.2 dX10_item_550
      have h := h.2 hk10
      by_cases hk11 : x2 = 11
      · have h := h.1 hk11
        refine lv_tableIn (off := 279) (tgt := 526) hx hb dX10_item_247 (by rw [hk11]; decide) (by rw [hk11]; decide) (by rw [hk11]; rfl) (by decide) ?_
        refine lv_aload_n hx hb dX10_item_526 rfl (lv_at hl 0 rfl) ?_
        refine lv_aload_n hx hb dX10_item_527 rfl (lv_at hl 0 rfl) ?_
        refine gf S hE hP 0 rfl rfl inX10 (k := 28) (by decide) q1121 rfl dX10_item_528 ?_
        refine lv_iconst (v := 0) hx hb dX10_item_531 (by decide) ?_
        refine ial S hE hP 11 rfl (by unfold vp_in; decide) dX10_item_532 ?_
        refine pf S hE hP hD hS 0 (k := 5) rfl rfl inX10 tyX10_ok nmX10 (by decide) q1098 rfl rfl rfl (Nat.le_of_ble_eq_true rfl) dX10_item_533 (fun H locs hP hD hS => ?_)
        have hP : va_P D vwCl (wX10_item cI cJ cS a_o a_base a_beats a_cells a_kind a_notes a_other a_pitch a_share a_space a_speed a_tell a_times a_words z_refused z_steps z_held z_sort z_size z_shown z_carried z_was z_kept z_cutSpace z_cutTimes z_cutOff z_trace v_stretches v_cars v_tunes v_along v_near (f_tell (0 : Int32).toNatClampNeg) v_tempo v_seed v_fault v_from v_at v_end v_told v_wrongAt v_culprit v_ran v_isKept f_base f_beats g_cells f_kind f_notes f_other f_pitch f_share f_space f_speed f_tell f_times f_words) H := hP
        have hD : va_D A (wX10_item cI cJ cS a_o a_base a_beats a_cells a_kind a_notes a_other a_pitch a_share a_space a_speed a_tell a_times a_words z_refused z_steps z_held z_sort z_size z_shown z_carried z_was z_kept z_cutSpace z_cutTimes z_cutOff z_trace v_stretches v_cars v_tunes v_along v_near (f_tell (0 : Int32).toNatClampNeg) v_tempo v_seed v_fault v_from v_at v_end v_told v_wrongAt v_culprit v_ran v_isKept f_base f_beats g_cells f_kind f_notes f_other f_pitch f_share f_space f_speed f_tell f_times f_words) := hD
        refine lv_goto (tgt := 549) hx hb dX10_item_536 (by decide) ?_
        refine lv_iconst (v := 1) hx hb dX10_item_549 (by decide) ?_
        exact W.zret hx hb hr rfl (fun t ht _ => ⟨⟨_, (v_stretches, v_cars, v_tunes, v_along, v_near, (f_tell (0 : Int32).toNatClampNeg), v_tempo, v_at, v_told, v_wrongAt, f_base, f_beats, f_kind, f_notes, f_other, f_pitch, f_share, f_space, f_speed, f_tell, f_times), rfl, h, hPt hP ht⟩, hS.F ht⟩) hS.2.2 dX10_item_550
      have h := h.2 hk11
      refine lv_tableOut (tgt := 539) hx hb dX10_item_247 (sw_out (fun k h1 h2 => by
        rcases (show k = 0 ∨ k = 1 ∨ k = 2 ∨ k = 3 ∨ k = 4 ∨ k = 5 ∨ k = 6 ∨ k = 7 ∨ k = 8 ∨ k = 9 ∨ k = 10 ∨ k = 11 by omega) with rfl | rfl | rfl | rfl | rfl | rfl | rfl | rfl | rfl | rfl | rfl | rfl
        · exact hk0
        · exact hk1
        · exact hk2
        · exact hk3
        · exact hk4
        · exact hk5
        · exact hk6
        · exact hk7
        · exact hk8
        · exact hk9
        · exact hk10
        · exact hk11)) (by decide) ?_
      refine lv_aload_n hx hb dX10_item_539 rfl (lv_at hl 0 rfl) ?_
      refine lv_aload_n hx hb dX10_item_540 rfl (lv_at hl 0 rfl) ?_
      refine gf S hE hP 0 rfl rfl inX10 (k := 28) (by decide) q1121 rfl dX10_item_541 ?_
      refine lv_iconst (v := 0) hx hb dX10_item_544 (by decide) ?_
      refine ial S hE hP 11 rfl (by unfold vp_in; decide) dX10_item_545 ?_
      refine pf S hE hP hD hS 0 (k := 6) rfl rfl inX10 tyX10_ok nmX10 (by decide) q1099 rfl rfl rfl (Nat.le_of_ble_eq_true rfl) dX10_item_546 (fun H locs hP hD hS => ?_)
      have hP : va_P D vwCl (wX10_item cI cJ cS a_o a_base a_beats a_cells a_kind a_notes a_other a_pitch a_share a_space a_speed a_tell a_times a_words z_refused z_steps z_held z_sort z_size z_shown z_carried z_was z_kept z_cutSpace z_cutTimes z_cutOff z_trace v_stretches v_cars v_tunes v_along v_near v_borne (f_tell (0 : Int32).toNatClampNeg) v_seed v_fault v_from v_at v_end v_told v_wrongAt v_culprit v_ran v_isKept f_base f_beats g_cells f_kind f_notes f_other f_pitch f_share f_space f_speed f_tell f_times f_words) H := hP
      have hD : va_D A (wX10_item cI cJ cS a_o a_base a_beats a_cells a_kind a_notes a_other a_pitch a_share a_space a_speed a_tell a_times a_words z_refused z_steps z_held z_sort z_size z_shown z_carried z_was z_kept z_cutSpace z_cutTimes z_cutOff z_trace v_stretches v_cars v_tunes v_along v_near v_borne (f_tell (0 : Int32).toNatClampNeg) v_seed v_fault v_from v_at v_end v_told v_wrongAt v_culprit v_ran v_isKept f_base f_beats g_cells f_kind f_notes f_other f_pitch f_share f_space f_speed f_tell f_times f_words) := hD
      refine lv_iconst (v := 1) hx hb dX10_item_549 (by decide) ?_
      exact W.zret hx hb hr rfl (fun t ht _ => ⟨⟨_, (v_stretches, v_cars, v_tunes, v_along, v_near, v_borne, (f_tell (0 : Int32).toNatClampNeg), v_at, v_told, v_wrongAt, f_base, f_beats, f_kind, f_notes, f_other, f_pitch, f_share, f_space, f_speed, f_tell, f_times), rfl, h, hPt hP ht⟩, hS.F ht⟩) hS.2.2 dX10_item_550
    have h := h.2 hc
    refine lv_iload hx hb dX10_item_151 (lv_at hl 3 rfl) ?_
    refine lv_if_le (tgt := 206) hx hb dX10_item_153 (by decide) (fun hc => ?_) (fun hc => ?_)
    · have h := h.1 hc
      refine w_X10_item_206 S hE hT hA hr hlocks ih _ _ _ h hP hD hS (lv_sub hl [0, 1, 2, 3] rfl)
    have h := h.2 hc
    refine lv_aload_n hx hb dX10_item_156 rfl (lv_at hl 0 rfl) ?_
    refine gf S hE hP 0 rfl rfl inX10 (k := 30) (by decide) q1123 rfl dX10_item_157 ?_
    refine lv_aload_n hx hb dX10_item_160 rfl (lv_at hl 0 rfl) ?_
    refine gf S hE hP 0 rfl rfl inX10 (k := 31) (by decide) q1124 rfl dX10_item_161 ?_
    refine lv_icmp_ge (tgt := 187) hx hb dX10_item_164 (by decide) (fun hc => ?_) (fun hc => ?_)
    · have h := h.1 hc
      refine lv_aload_n hx hb dX10_item_187 rfl (lv_at hl 0 rfl) ?_
      refine lv_aload_n hx hb dX10_item_188 rfl (lv_at hl 0 rfl) ?_
      refine gf S hE hP 0 rfl rfl inX10 (k := 30) (by decide) q1123 rfl dX10_item_189 ?_
      refine rw_i (rwV S hE hT hS hP hD hA (c_X10_wrong h) [0] rfl (by decide +kernel) lkX10_193 rfl ⟨(Nat.le_of_ble_eq_true rfl), (Nat.le_of_ble_eq_true rfl)⟩ 0 rfl rfl hl.1 rfl (Nat.le_of_ble_eq_true rfl) dX10_item_192 ⟨(Nat.zero_le _), (Nat.zero_le _)⟩) hP hD hS hA [0] rfl (by decide +kernel) (fun _ => rfl) (fun r192 w192_0 H locs h hP hD hS => ?_)
      try dsimp only at h
      have hP : va_P D vwCl (wX10_item cI cJ cS a_o a_base a_beats a_cells a_kind a_notes a_other a_pitch a_share a_space a_speed a_tell a_times a_words z_refused z_steps z_held z_sort z_size z_shown z_carried z_was z_kept z_cutSpace z_cutTimes z_cutOff z_trace v_stretches v_cars v_tunes v_along v_near v_borne v_tempo v_seed v_fault v_from v_at v_end v_told w192_0 v_culprit v_ran v_isKept f_base f_beats g_cells f_kind f_notes f_other f_pitch f_share f_space f_speed f_tell f_times f_words) H := hP
      have hD : va_D A (wX10_item cI cJ cS a_o a_base a_beats a_cells a_kind a_notes a_other a_pitch a_share a_space a_speed a_tell a_times a_words z_refused z_steps z_held z_sort z_size z_shown z_carried z_was z_kept z_cutSpace z_cutTimes z_cutOff z_trace v_stretches v_cars v_tunes v_along v_near v_borne v_tempo v_seed v_fault v_from v_at v_end v_told w192_0 v_culprit v_ran v_isKept f_base f_beats g_cells f_kind f_notes f_other f_pitch f_share f_space f_speed f_tell f_times f_words) := hD
      exact W.zret hx hb hr h.1 (fun t ht _ => ⟨⟨_, (v_stretches, v_cars, v_tunes, v_along, v_near, v_borne, v_tempo, v_at, v_told, w192_0, f_base, f_beats, f_kind, f_notes, f_other, f_pitch, f_share, f_space, f_speed, f_tell, f_times), rfl, h.2, hPt hP ht⟩, hS.F ht⟩) hS.2.2 dX10_item_195
    have h := h.2 hc
    refine lv_aload_n hx hb dX10_item_167 rfl (lv_at hl 0 rfl) ?_
    refine gf S hE hP 0 rfl rfl inX10 (k := 25) (by decide) q1118 rfl dX10_item_168 ?_
    refine lv_aload_n hx hb dX10_item_171 rfl (lv_at hl 0 rfl) ?_
    refine gf S hE hP 0 rfl rfl inX10 (k := 29) (by decide) q1122 rfl dX10_item_172 ?_
    refine lv_aload_n hx hb dX10_item_175 rfl (lv_at hl 0 rfl) ?_
    refine gf S hE hP 0 rfl rfl inX10 (k := 30) (by decide) q1123 rfl dX10_item_176 ?_
    refine lv_iadd hx hb dX10_item_179 ?_
    obtain ⟨hi, h⟩ := h
    refine lal S hE hP 3 rfl hi dX10_item_180 ?_
    refine lv_l2i hx hb dX10_item_181 rfl ?_
    refine lv_bipush (v := 32) hx hb dX10_item_182 (by decide) ?_
    refine lv_icmp_eq (tgt := 196) hx hb dX10_item_184 (by decide) (fun hc => ?_) (fun hc => ?_)
    · have h := h.1 hc
      refine lv_aload_n hx hb dX10_item_196 rfl (lv_at hl 0 rfl) ?_
      refine lv_dup hx hb dX10_item_197 rfl ?_
      refine gf S hE hP 0 rfl rfl inX10 (k := 30) (by decide) q1123 rfl dX10_item_198 ?_
      refine lv_iconst (v := 1) hx hb dX10_item_201 (by decide) ?_
      refine lv_iadd hx hb dX10_item_202 ?_
      refine pf S hE hP hD hS 0 (k := 30) rfl rfl inX10 tyX10_ok nmX10 (by decide) q1123 rfl rfl rfl (Nat.le_of_ble_eq_true rfl) dX10_item_203 (fun H locs hP hD hS => ?_)
      have hP : va_P D vwCl (wX10_item cI cJ cS a_o a_base a_beats a_cells a_kind a_notes a_other a_pitch a_share a_space a_speed a_tell a_times a_words z_refused z_steps z_held z_sort z_size z_shown z_carried z_was z_kept z_cutSpace z_cutTimes z_cutOff z_trace v_stretches v_cars v_tunes v_along v_near v_borne v_tempo v_seed v_fault v_from (v_at + 1) v_end v_told v_wrongAt v_culprit v_ran v_isKept f_base f_beats g_cells f_kind f_notes f_other f_pitch f_share f_space f_speed f_tell f_times f_words) H := hP
      have hD : va_D A (wX10_item cI cJ cS a_o a_base a_beats a_cells a_kind a_notes a_other a_pitch a_share a_space a_speed a_tell a_times a_words z_refused z_steps z_held z_sort z_size z_shown z_carried z_was z_kept z_cutSpace z_cutTimes z_cutOff z_trace v_stretches v_cars v_tunes v_along v_near v_borne v_tempo v_seed v_fault v_from (v_at + 1) v_end v_told v_wrongAt v_culprit v_ran v_isKept f_base f_beats g_cells f_kind f_notes f_other f_pitch f_share f_space f_speed f_tell f_times f_words) := hD
      refine w_X10_item_206 S hE hT hA hr hlocks ih _ _ _ h hP hD hS (lv_sub hl [0, 1, 2, 3] rfl)
    have h := h.2 hc
    refine lv_aload_n hx hb dX10_item_187 rfl (lv_at hl 0 rfl) ?_
    refine lv_aload_n hx hb dX10_item_188 rfl (lv_at hl 0 rfl) ?_
    refine gf S hE hP 0 rfl rfl inX10 (k := 30) (by decide) q1123 rfl dX10_item_189 ?_
    refine rw_i (rwV S hE hT hS hP hD hA (c_X10_wrong h) [0] rfl (by decide +kernel) lkX10_193 rfl ⟨(Nat.le_of_ble_eq_true rfl), (Nat.le_of_ble_eq_true rfl)⟩ 0 rfl rfl hl.1 rfl (Nat.le_of_ble_eq_true rfl) dX10_item_192 ⟨(Nat.zero_le _), (Nat.zero_le _)⟩) hP hD hS hA [0] rfl (by decide +kernel) (fun _ => rfl) (fun r192 w192_0 H locs h hP hD hS => ?_)
    try dsimp only at h
    have hP : va_P D vwCl (wX10_item cI cJ cS a_o a_base a_beats a_cells a_kind a_notes a_other a_pitch a_share a_space a_speed a_tell a_times a_words z_refused z_steps z_held z_sort z_size z_shown z_carried z_was z_kept z_cutSpace z_cutTimes z_cutOff z_trace v_stretches v_cars v_tunes v_along v_near v_borne v_tempo v_seed v_fault v_from v_at v_end v_told w192_0 v_culprit v_ran v_isKept f_base f_beats g_cells f_kind f_notes f_other f_pitch f_share f_space f_speed f_tell f_times f_words) H := hP
    have hD : va_D A (wX10_item cI cJ cS a_o a_base a_beats a_cells a_kind a_notes a_other a_pitch a_share a_space a_speed a_tell a_times a_words z_refused z_steps z_held z_sort z_size z_shown z_carried z_was z_kept z_cutSpace z_cutTimes z_cutOff z_trace v_stretches v_cars v_tunes v_along v_near v_borne v_tempo v_seed v_fault v_from v_at v_end v_told w192_0 v_culprit v_ran v_isKept f_base f_beats g_cells f_kind f_notes f_other f_pitch f_share f_space f_speed f_tell f_times f_words) := hD
    exact W.zret hx hb hr h.1 (fun t ht _ => ⟨⟨_, (v_stretches, v_cars, v_tunes, v_along, v_near, v_borne, v_tempo, v_at, v_told, w192_0, f_base, f_beats, f_kind, f_notes, f_other, f_pitch, f_share, f_space, f_speed, f_tell, f_times), rfl, h.2, hPt hP ht⟩, hS.F ht⟩) hS.2.2 dX10_item_195
set_option maxHeartbeats 4000000 in
set_option maxRecDepth 100000 in
theorem w_X10_item_136 {l : Launch} {D : va_G} {cI cJ cS : ClassId} {ad adK : Nat → Nat} {a_o a_base a_beats a_cells a_kind a_notes a_other a_pitch a_share a_space a_speed a_tell a_times a_words : Nat} {z_refused z_steps z_held z_sort z_size z_shown z_carried z_was z_kept z_cutSpace z_cutTimes z_cutOff z_trace : Value} {v_stretches : Int32} {v_cars : Int32} {v_tunes : Int32} {v_along : Int32} {v_near : Int32} {v_borne : Int32} {v_tempo : Int32} {v_seed : Int32} {v_fault : Int32} {v_from : Int32} {v_at : Int32} {v_end : Int32} {v_told : Int32} {v_wrongAt : Int32} {v_culprit : Int32} {v_ran : Int32} {v_isKept : Int32} {f_base : Nat → Int32} {f_beats : Nat → Int32} {g_cells : Nat → Int64} {f_kind : Nat → Int32} {f_notes : Nat → Int32} {f_other : Nat → Int32} {f_pitch : Nat → Int32} {f_share : Nat → Int32} {f_space : Nat → Int32} {f_speed : Nat → Int32} {f_tell : Nat → Int32} {f_times : Nat → Int32} {f_words : Nat → Int32} {x2 : Int32} {post : Int32 → Int32 → Int32 → Int32 → Int32 → Int32 → Int32 → Int32 → Int32 → Int32 → Int32 → (Nat → Int32) → (Nat → Int32) → (Nat → Int32) → (Nat → Int32) → (Nat → Int32) → (Nat → Int32) → (Nat → Int32) → (Nat → Int32) → (Nat → Int32) → (Nat → Int32) → (Nat → Int32) → Prop} {p : Program} {e : Env} {s : State} {m : MethodId} {args : Array Value} {below : List Frame} {meth : Method} {c : Code} {A : Nat → Prop} (S : CallFix p m c cX10_item 6 s args GW "RoadThatSingsModel") (hE : EN D cI cJ cS s) (hT : ST ad adK A s s.heap) (hA : ∀ q : Nat, s.heap.size ≤ q → A q) (hr : meth.sig.returnType = (some (.boolean))) (hlocks : meth.locks = false) : ∀ (H : Heap) (locs : List Loc) (ls : Array Slot), F_X10_item_136 v_from v_end g_cells post x2 v_stretches v_cars v_tunes v_along v_near v_borne v_tempo v_at v_told v_wrongAt f_base f_beats f_kind f_notes f_other f_pitch f_share f_space f_speed f_tell f_times → va_P D vwCl (wX10_item cI cJ cS a_o a_base a_beats a_cells a_kind a_notes a_other a_pitch a_share a_space a_speed a_tell a_times a_words z_refused z_steps z_held z_sort z_size z_shown z_carried z_was z_kept z_cutSpace z_cutTimes z_cutOff z_trace v_stretches v_cars v_tunes v_along v_near v_borne v_tempo v_seed v_fault v_from v_at v_end v_told v_wrongAt v_culprit v_ran v_isKept f_base f_beats g_cells f_kind f_notes f_other f_pitch f_share f_space f_speed f_tell f_times f_words) H → va_D A (wX10_item cI cJ cS a_o a_base a_beats a_cells a_kind a_notes a_other a_pitch a_share a_space a_speed a_tell a_times a_words z_refused z_steps z_held z_sort z_size z_shown z_carried z_was z_kept z_cutSpace z_cutTimes z_cutOff z_trace v_stretches v_cars v_tunes v_along v_near v_borne v_tempo v_seed v_fault v_from v_at v_end v_told v_wrongAt v_culprit v_ran v_isKept f_base f_beats g_cells f_kind f_notes f_other f_pitch f_share f_space f_speed f_tell f_times f_words) → va_S A s.heap H locs → lv_has ls 6 [(0, .ref a_o), (2, .int x2)] → W p l e (rmd 2 0 0) s m args below meth c H locs 0 0 (MQ below (va_Qi (fun r (u : Int32 × Int32 × Int32 × Int32 × Int32 × Int32 × Int32 × Int32 × Int32 × Int32 × (Nat → Int32) × (Nat → Int32) × (Nat → Int32) × (Nat → Int32) × (Nat → Int32) × (Nat → Int32) × (Nat → Int32) × (Nat → Int32) × (Nat → Int32) × (Nat → Int32) × (Nat → Int32)) => post r u.1 u.2.1 u.2.2.1 u.2.2.2.1 u.2.2.2.2.1 u.2.2.2.2.2.1 u.2.2.2.2.2.2.1 u.2.2.2.2.2.2.2.1 u.2.2.2.2.2.2.2.2.1 u.2.2.2.2.2.2.2.2.2.1 u.2.2.2.2.2.2.2.2.2.2.1 u.2.2.2.2.2.2.2.2.2.2.2.1 u.2.2.2.2.2.2.2.2.2.2.2.2.1 u.2.2.2.2.2.2.2.2.2.2.2.2.2.1 u.2.2.2.2.2.2.2.2.2.2.2.2.2.2.1 u.2.2.2.2.2.2.2.2.2.2.2.2.2.2.2.1 u.2.2.2.2.2.2.2.2.2.2.2.2.2.2.2.2.1 u.2.2.2.2.2.2.2.2.2.2.2.2.2.2.2.2.2.1 u.2.2.2.2.2.2.2.2.2.2.2.2.2.2.2.2.2.2.1 u.2.2.2.2.2.2.2.2.2.2.2.2.2.2.2.2.2.2.2.1 u.2.2.2.2.2.2.2.2.2.2.2.2.2.2.2.2.2.2.2.2) (fun u t => va_P D vwCl (wX10_item cI cJ cS a_o a_base a_beats a_cells a_kind a_notes a_other a_pitch a_share a_space a_speed a_tell a_times a_words z_refused z_steps z_held z_sort z_size z_shown z_carried z_was z_kept z_cutSpace z_cutTimes z_cutOff z_trace u.1 u.2.1 u.2.2.1 u.2.2.2.1 u.2.2.2.2.1 u.2.2.2.2.2.1 u.2.2.2.2.2.2.1 v_seed v_fault v_from u.2.2.2.2.2.2.2.1 v_end u.2.2.2.2.2.2.2.2.1 u.2.2.2.2.2.2.2.2.2.1 v_culprit v_ran v_isKept u.2.2.2.2.2.2.2.2.2.2.1 u.2.2.2.2.2.2.2.2.2.2.2.1 g_cells u.2.2.2.2.2.2.2.2.2.2.2.2.1 u.2.2.2.2.2.2.2.2.2.2.2.2.2.1 u.2.2.2.2.2.2.2.2.2.2.2.2.2.2.1 u.2.2.2.2.2.2.2.2.2.2.2.2.2.2.2.1 u.2.2.2.2.2.2.2.2.2.2.2.2.2.2.2.2.1 u.2.2.2.2.2.2.2.2.2.2.2.2.2.2.2.2.2.1 u.2.2.2.2.2.2.2.2.2.2.2.2.2.2.2.2.2.2.1 u.2.2.2.2.2.2.2.2.2.2.2.2.2.2.2.2.2.2.2.1 u.2.2.2.2.2.2.2.2.2.2.2.2.2.2.2.2.2.2.2.2 f_words) t.heap) A) args s 0 0 A) (F0 m 136 ls []) := by
  intro  H locs ls h hP hD hS hl
  unfold F_X10_item_136 at h
  have hx := S.1
  have hb := S.2.1
  refine lv_aload_n hx hb dX10_item_136 rfl (lv_at hl 0 rfl) ?_
  refine lv_iload_n hx hb dX10_item_137 rfl (lv_at hl 1 rfl) ?_
  refine ro_i (roV S hE hT hS (c_X10_many h) lkX10_196 rfl ⟨(Nat.le_of_ble_eq_true rfl), (Nat.le_of_ble_eq_true rfl)⟩ (hP.sub [0] rfl) 0 rfl rfl hl.1 rfl (Nat.le_of_ble_eq_true rfl) dX10_item_138 ⟨(Nat.zero_le _), (Nat.zero_le _)⟩) (fun r138 h => ?_)
  refine lv_istore_n (lv' := [(3, .int r138), (0, .ref a_o), (2, .int x2)]) hx hb dX10_item_141 rfl hl (by decide) rfl (fun ls hl => ?_)
  refine lv_iconst (v := 0) hx hb dX10_item_142 (by decide) ?_
  refine lv_istore (lv' := [(4, .int 0), (3, .int r138), (0, .ref a_o), (2, .int x2)]) hx hb dX10_item_143 hl (by decide) rfl (fun ls hl => ?_)
  obtain ⟨n, h⟩ := h
  refine w_X10_item_145 S hE hT hA hr hlocks n _ _ _ _ _ _ _ _ _ _ _ _ _ _ _ _ _ _ _ _ _ _ _ _ _ h hP hD hS (lv_sub hl [2, 3, 1, 0] rfl)
set_option maxHeartbeats 4000000 in
set_option maxRecDepth 100000 in
theorem w_X10_item_101 {l : Launch} {D : va_G} {cI cJ cS : ClassId} {ad adK : Nat → Nat} {a_o a_base a_beats a_cells a_kind a_notes a_other a_pitch a_share a_space a_speed a_tell a_times a_words : Nat} {z_refused z_steps z_held z_sort z_size z_shown z_carried z_was z_kept z_cutSpace z_cutTimes z_cutOff z_trace : Value} {v_stretches : Int32} {v_cars : Int32} {v_tunes : Int32} {v_along : Int32} {v_near : Int32} {v_borne : Int32} {v_tempo : Int32} {v_seed : Int32} {v_fault : Int32} {v_from : Int32} {v_at : Int32} {v_end : Int32} {v_told : Int32} {v_wrongAt : Int32} {v_culprit : Int32} {v_ran : Int32} {v_isKept : Int32} {f_base : Nat → Int32} {f_beats : Nat → Int32} {g_cells : Nat → Int64} {f_kind : Nat → Int32} {f_notes : Nat → Int32} {f_other : Nat → Int32} {f_pitch : Nat → Int32} {f_share : Nat → Int32} {f_space : Nat → Int32} {f_speed : Nat → Int32} {f_tell : Nat → Int32} {f_times : Nat → Int32} {f_words : Nat → Int32} {x1 : Int32} {x2 : Int32} {post : Int32 → Int32 → Int32 → Int32 → Int32 → Int32 → Int32 → Int32 → Int32 → Int32 → Int32 → (Nat → Int32) → (Nat → Int32) → (Nat → Int32) → (Nat → Int32) → (Nat → Int32) → (Nat → Int32) → (Nat → Int32) → (Nat → Int32) → (Nat → Int32) → (Nat → Int32) → (Nat → Int32) → Prop} {p : Program} {e : Env} {s : State} {m : MethodId} {args : Array Value} {below : List Frame} {meth : Method} {c : Code} {A : Nat → Prop} (S : CallFix p m c cX10_item 6 s args GW "RoadThatSingsModel") (hE : EN D cI cJ cS s) (hT : ST ad adK A s s.heap) (hA : ∀ q : Nat, s.heap.size ≤ q → A q) (hr : meth.sig.returnType = (some (.boolean))) (hlocks : meth.locks = false) : ∀ (H : Heap) (locs : List Loc) (ls : Array Slot), F_X10_item_101 v_from v_end g_cells post x1 x2 v_stretches v_cars v_tunes v_along v_near v_borne v_tempo v_at v_told v_wrongAt f_base f_beats f_kind f_notes f_other f_pitch f_share f_space f_speed f_tell f_times → va_P D vwCl (wX10_item cI cJ cS a_o a_base a_beats a_cells a_kind a_notes a_other a_pitch a_share a_space a_speed a_tell a_times a_words z_refused z_steps z_held z_sort z_size z_shown z_carried z_was z_kept z_cutSpace z_cutTimes z_cutOff z_trace v_stretches v_cars v_tunes v_along v_near v_borne v_tempo v_seed v_fault v_from v_at v_end v_told v_wrongAt v_culprit v_ran v_isKept f_base f_beats g_cells f_kind f_notes f_other f_pitch f_share f_space f_speed f_tell f_times f_words) H → va_D A (wX10_item cI cJ cS a_o a_base a_beats a_cells a_kind a_notes a_other a_pitch a_share a_space a_speed a_tell a_times a_words z_refused z_steps z_held z_sort z_size z_shown z_carried z_was z_kept z_cutSpace z_cutTimes z_cutOff z_trace v_stretches v_cars v_tunes v_along v_near v_borne v_tempo v_seed v_fault v_from v_at v_end v_told v_wrongAt v_culprit v_ran v_isKept f_base f_beats g_cells f_kind f_notes f_other f_pitch f_share f_space f_speed f_tell f_times f_words) → va_S A s.heap H locs → lv_has ls 6 [(0, .ref a_o), (1, .int x1), (2, .int x2)] → W p l e (rmd 2 0 0) s m args below meth c H locs 0 0 (MQ below (va_Qi (fun r (u : Int32 × Int32 × Int32 × Int32 × Int32 × Int32 × Int32 × Int32 × Int32 × Int32 × (Nat → Int32) × (Nat → Int32) × (Nat → Int32) × (Nat → Int32) × (Nat → Int32) × (Nat → Int32) × (Nat → Int32) × (Nat → Int32) × (Nat → Int32) × (Nat → Int32) × (Nat → Int32)) => post r u.1 u.2.1 u.2.2.1 u.2.2.2.1 u.2.2.2.2.1 u.2.2.2.2.2.1 u.2.2.2.2.2.2.1 u.2.2.2.2.2.2.2.1 u.2.2.2.2.2.2.2.2.1 u.2.2.2.2.2.2.2.2.2.1 u.2.2.2.2.2.2.2.2.2.2.1 u.2.2.2.2.2.2.2.2.2.2.2.1 u.2.2.2.2.2.2.2.2.2.2.2.2.1 u.2.2.2.2.2.2.2.2.2.2.2.2.2.1 u.2.2.2.2.2.2.2.2.2.2.2.2.2.2.1 u.2.2.2.2.2.2.2.2.2.2.2.2.2.2.2.1 u.2.2.2.2.2.2.2.2.2.2.2.2.2.2.2.2.1 u.2.2.2.2.2.2.2.2.2.2.2.2.2.2.2.2.2.1 u.2.2.2.2.2.2.2.2.2.2.2.2.2.2.2.2.2.2.1 u.2.2.2.2.2.2.2.2.2.2.2.2.2.2.2.2.2.2.2.1 u.2.2.2.2.2.2.2.2.2.2.2.2.2.2.2.2.2.2.2.2) (fun u t => va_P D vwCl (wX10_item cI cJ cS a_o a_base a_beats a_cells a_kind a_notes a_other a_pitch a_share a_space a_speed a_tell a_times a_words z_refused z_steps z_held z_sort z_size z_shown z_carried z_was z_kept z_cutSpace z_cutTimes z_cutOff z_trace u.1 u.2.1 u.2.2.1 u.2.2.2.1 u.2.2.2.2.1 u.2.2.2.2.2.1 u.2.2.2.2.2.2.1 v_seed v_fault v_from u.2.2.2.2.2.2.2.1 v_end u.2.2.2.2.2.2.2.2.1 u.2.2.2.2.2.2.2.2.2.1 v_culprit v_ran v_isKept u.2.2.2.2.2.2.2.2.2.2.1 u.2.2.2.2.2.2.2.2.2.2.2.1 g_cells u.2.2.2.2.2.2.2.2.2.2.2.2.1 u.2.2.2.2.2.2.2.2.2.2.2.2.2.1 u.2.2.2.2.2.2.2.2.2.2.2.2.2.2.1 u.2.2.2.2.2.2.2.2.2.2.2.2.2.2.2.1 u.2.2.2.2.2.2.2.2.2.2.2.2.2.2.2.2.1 u.2.2.2.2.2.2.2.2.2.2.2.2.2.2.2.2.2.1 u.2.2.2.2.2.2.2.2.2.2.2.2.2.2.2.2.2.2.1 u.2.2.2.2.2.2.2.2.2.2.2.2.2.2.2.2.2.2.2.1 u.2.2.2.2.2.2.2.2.2.2.2.2.2.2.2.2.2.2.2.2 f_words) t.heap) A) args s 0 0 A) (F0 m 101 ls []) := by
  intro  H locs ls h hP hD hS hl
  unfold F_X10_item_101 at h
  have hx := S.1
  have hb := S.2.1
  refine lv_iload_n hx hb dX10_item_101 rfl (lv_at hl 2 rfl) ?_
  refine lv_bipush (v := 8) hx hb dX10_item_102 (by decide) ?_
  refine lv_icmp_ne (tgt := 136) hx hb dX10_item_104 (by decide) (fun hc => ?_) (fun hc => ?_)
  · have h := h.2 hc
    refine w_X10_item_136 S hE hT hA hr hlocks _ _ _ h hP hD hS (lv_sub hl [0, 2] rfl)
  have h := h.1 hc
  refine lv_aload_n hx hb dX10_item_107 rfl (lv_at hl 0 rfl) ?_
  refine gf S hE hP 0 rfl rfl inX10 (k := 2) (by decide) q1095 rfl dX10_item_108 ?_
  refine lv_if_eq (tgt := 130) hx hb dX10_item_111 (by decide) (fun hc => ?_) (fun hc => ?_)
  · have h := h.1 hc
    refine lv_aload_n hx hb dX10_item_130 rfl (lv_at hl 0 rfl) ?_
    refine lv_iload_n hx hb dX10_item_131 rfl (lv_at hl 1 rfl) ?_
    refine rw_i (rwV S hE hT hS hP hD hA (c_X10_wrong h) [0] rfl (by decide +kernel) lkX10_193 rfl ⟨(Nat.le_of_ble_eq_true rfl), (Nat.le_of_ble_eq_true rfl)⟩ 0 rfl rfl hl.1 rfl (Nat.le_of_ble_eq_true rfl) dX10_item_132 ⟨(Nat.zero_le _), (Nat.zero_le _)⟩) hP hD hS hA [0] rfl (by decide +kernel) (fun _ => rfl) (fun r132 w132_0 H locs h hP hD hS => ?_)
    try dsimp only at h
    have hP : va_P D vwCl (wX10_item cI cJ cS a_o a_base a_beats a_cells a_kind a_notes a_other a_pitch a_share a_space a_speed a_tell a_times a_words z_refused z_steps z_held z_sort z_size z_shown z_carried z_was z_kept z_cutSpace z_cutTimes z_cutOff z_trace v_stretches v_cars v_tunes v_along v_near v_borne v_tempo v_seed v_fault v_from v_at v_end v_told w132_0 v_culprit v_ran v_isKept f_base f_beats g_cells f_kind f_notes f_other f_pitch f_share f_space f_speed f_tell f_times f_words) H := hP
    have hD : va_D A (wX10_item cI cJ cS a_o a_base a_beats a_cells a_kind a_notes a_other a_pitch a_share a_space a_speed a_tell a_times a_words z_refused z_steps z_held z_sort z_size z_shown z_carried z_was z_kept z_cutSpace z_cutTimes z_cutOff z_trace v_stretches v_cars v_tunes v_along v_near v_borne v_tempo v_seed v_fault v_from v_at v_end v_told w132_0 v_culprit v_ran v_isKept f_base f_beats g_cells f_kind f_notes f_other f_pitch f_share f_space f_speed f_tell f_times f_words) := hD
    exact W.zret hx hb hr h.1 (fun t ht _ => ⟨⟨_, (v_stretches, v_cars, v_tunes, v_along, v_near, v_borne, v_tempo, v_at, v_told, w132_0, f_base, f_beats, f_kind, f_notes, f_other, f_pitch, f_share, f_space, f_speed, f_tell, f_times), rfl, h.2, hPt hP ht⟩, hS.F ht⟩) hS.2.2 dX10_item_135
  have h := h.2 hc
  refine lv_aload_n hx hb dX10_item_114 rfl (lv_at hl 0 rfl) ?_
  refine gf S hE hP 0 rfl rfl inX10 (k := 18) (by decide) q1111 rfl dX10_item_115 ?_
  refine lv_aload_n hx hb dX10_item_118 rfl (lv_at hl 0 rfl) ?_
  refine gf S hE hP 0 rfl rfl inX10 (k := 2) (by decide) q1095 rfl dX10_item_119 ?_
  refine lv_iconst (v := 1) hx hb dX10_item_122 (by decide) ?_
  refine lv_isub hx hb dX10_item_123 ?_
  obtain ⟨hi, h⟩ := h
  refine ial S hE hP 5 rfl hi dX10_item_124 ?_
  refine lv_bipush (v := 12) hx hb dX10_item_125 (by decide) ?_
  refine lv_icmp_ne (tgt := 136) hx hb dX10_item_127 (by decide) (fun hc => ?_) (fun hc => ?_)
  · have h := h.2 hc
    refine w_X10_item_136 S hE hT hA hr hlocks _ _ _ h hP hD hS (lv_sub hl [0, 2] rfl)
  have h := h.1 hc
  refine lv_aload_n hx hb dX10_item_130 rfl (lv_at hl 0 rfl) ?_
  refine lv_iload_n hx hb dX10_item_131 rfl (lv_at hl 1 rfl) ?_
  refine rw_i (rwV S hE hT hS hP hD hA (c_X10_wrong h) [0] rfl (by decide +kernel) lkX10_193 rfl ⟨(Nat.le_of_ble_eq_true rfl), (Nat.le_of_ble_eq_true rfl)⟩ 0 rfl rfl hl.1 rfl (Nat.le_of_ble_eq_true rfl) dX10_item_132 ⟨(Nat.zero_le _), (Nat.zero_le _)⟩) hP hD hS hA [0] rfl (by decide +kernel) (fun _ => rfl) (fun r132 w132_0 H locs h hP hD hS => ?_)
  try dsimp only at h
  have hP : va_P D vwCl (wX10_item cI cJ cS a_o a_base a_beats a_cells a_kind a_notes a_other a_pitch a_share a_space a_speed a_tell a_times a_words z_refused z_steps z_held z_sort z_size z_shown z_carried z_was z_kept z_cutSpace z_cutTimes z_cutOff z_trace v_stretches v_cars v_tunes v_along v_near v_borne v_tempo v_seed v_fault v_from v_at v_end v_told w132_0 v_culprit v_ran v_isKept f_base f_beats g_cells f_kind f_notes f_other f_pitch f_share f_space f_speed f_tell f_times f_words) H := hP
  have hD : va_D A (wX10_item cI cJ cS a_o a_base a_beats a_cells a_kind a_notes a_other a_pitch a_share a_space a_speed a_tell a_times a_words z_refused z_steps z_held z_sort z_size z_shown z_carried z_was z_kept z_cutSpace z_cutTimes z_cutOff z_trace v_stretches v_cars v_tunes v_along v_near v_borne v_tempo v_seed v_fault v_from v_at v_end v_told w132_0 v_culprit v_ran v_isKept f_base f_beats g_cells f_kind f_notes f_other f_pitch f_share f_space f_speed f_tell f_times f_words) := hD
  exact W.zret hx hb hr h.1 (fun t ht _ => ⟨⟨_, (v_stretches, v_cars, v_tunes, v_along, v_near, v_borne, v_tempo, v_at, v_told, w132_0, f_base, f_beats, f_kind, f_notes, f_other, f_pitch, f_share, f_space, f_speed, f_tell, f_times), rfl, h.2, hPt hP ht⟩, hS.F ht⟩) hS.2.2 dX10_item_135
set_option maxHeartbeats 4000000 in
set_option maxRecDepth 100000 in
theorem w_X10_item_86 {l : Launch} {D : va_G} {cI cJ cS : ClassId} {ad adK : Nat → Nat} {a_o a_base a_beats a_cells a_kind a_notes a_other a_pitch a_share a_space a_speed a_tell a_times a_words : Nat} {z_refused z_steps z_held z_sort z_size z_shown z_carried z_was z_kept z_cutSpace z_cutTimes z_cutOff z_trace : Value} {v_stretches : Int32} {v_cars : Int32} {v_tunes : Int32} {v_along : Int32} {v_near : Int32} {v_borne : Int32} {v_tempo : Int32} {v_seed : Int32} {v_fault : Int32} {v_from : Int32} {v_at : Int32} {v_end : Int32} {v_told : Int32} {v_wrongAt : Int32} {v_culprit : Int32} {v_ran : Int32} {v_isKept : Int32} {f_base : Nat → Int32} {f_beats : Nat → Int32} {g_cells : Nat → Int64} {f_kind : Nat → Int32} {f_notes : Nat → Int32} {f_other : Nat → Int32} {f_pitch : Nat → Int32} {f_share : Nat → Int32} {f_space : Nat → Int32} {f_speed : Nat → Int32} {f_tell : Nat → Int32} {f_times : Nat → Int32} {f_words : Nat → Int32} {x1 : Int32} {x2 : Int32} {post : Int32 → Int32 → Int32 → Int32 → Int32 → Int32 → Int32 → Int32 → Int32 → Int32 → Int32 → (Nat → Int32) → (Nat → Int32) → (Nat → Int32) → (Nat → Int32) → (Nat → Int32) → (Nat → Int32) → (Nat → Int32) → (Nat → Int32) → (Nat → Int32) → (Nat → Int32) → (Nat → Int32) → Prop} {p : Program} {e : Env} {s : State} {m : MethodId} {args : Array Value} {below : List Frame} {meth : Method} {c : Code} {A : Nat → Prop} (S : CallFix p m c cX10_item 6 s args GW "RoadThatSingsModel") (hE : EN D cI cJ cS s) (hT : ST ad adK A s s.heap) (hA : ∀ q : Nat, s.heap.size ≤ q → A q) (hr : meth.sig.returnType = (some (.boolean))) (hlocks : meth.locks = false) : ∀ (H : Heap) (locs : List Loc) (ls : Array Slot), F_X10_item_86 v_from v_end g_cells post x1 x2 v_stretches v_cars v_tunes v_along v_near v_borne v_tempo v_at v_told v_wrongAt f_base f_beats f_kind f_notes f_other f_pitch f_share f_space f_speed f_tell f_times → va_P D vwCl (wX10_item cI cJ cS a_o a_base a_beats a_cells a_kind a_notes a_other a_pitch a_share a_space a_speed a_tell a_times a_words z_refused z_steps z_held z_sort z_size z_shown z_carried z_was z_kept z_cutSpace z_cutTimes z_cutOff z_trace v_stretches v_cars v_tunes v_along v_near v_borne v_tempo v_seed v_fault v_from v_at v_end v_told v_wrongAt v_culprit v_ran v_isKept f_base f_beats g_cells f_kind f_notes f_other f_pitch f_share f_space f_speed f_tell f_times f_words) H → va_D A (wX10_item cI cJ cS a_o a_base a_beats a_cells a_kind a_notes a_other a_pitch a_share a_space a_speed a_tell a_times a_words z_refused z_steps z_held z_sort z_size z_shown z_carried z_was z_kept z_cutSpace z_cutTimes z_cutOff z_trace v_stretches v_cars v_tunes v_along v_near v_borne v_tempo v_seed v_fault v_from v_at v_end v_told v_wrongAt v_culprit v_ran v_isKept f_base f_beats g_cells f_kind f_notes f_other f_pitch f_share f_space f_speed f_tell f_times f_words) → va_S A s.heap H locs → lv_has ls 6 [(0, .ref a_o), (1, .int x1), (2, .int x2)] → W p l e (rmd 2 0 0) s m args below meth c H locs 0 0 (MQ below (va_Qi (fun r (u : Int32 × Int32 × Int32 × Int32 × Int32 × Int32 × Int32 × Int32 × Int32 × Int32 × (Nat → Int32) × (Nat → Int32) × (Nat → Int32) × (Nat → Int32) × (Nat → Int32) × (Nat → Int32) × (Nat → Int32) × (Nat → Int32) × (Nat → Int32) × (Nat → Int32) × (Nat → Int32)) => post r u.1 u.2.1 u.2.2.1 u.2.2.2.1 u.2.2.2.2.1 u.2.2.2.2.2.1 u.2.2.2.2.2.2.1 u.2.2.2.2.2.2.2.1 u.2.2.2.2.2.2.2.2.1 u.2.2.2.2.2.2.2.2.2.1 u.2.2.2.2.2.2.2.2.2.2.1 u.2.2.2.2.2.2.2.2.2.2.2.1 u.2.2.2.2.2.2.2.2.2.2.2.2.1 u.2.2.2.2.2.2.2.2.2.2.2.2.2.1 u.2.2.2.2.2.2.2.2.2.2.2.2.2.2.1 u.2.2.2.2.2.2.2.2.2.2.2.2.2.2.2.1 u.2.2.2.2.2.2.2.2.2.2.2.2.2.2.2.2.1 u.2.2.2.2.2.2.2.2.2.2.2.2.2.2.2.2.2.1 u.2.2.2.2.2.2.2.2.2.2.2.2.2.2.2.2.2.2.1 u.2.2.2.2.2.2.2.2.2.2.2.2.2.2.2.2.2.2.2.1 u.2.2.2.2.2.2.2.2.2.2.2.2.2.2.2.2.2.2.2.2) (fun u t => va_P D vwCl (wX10_item cI cJ cS a_o a_base a_beats a_cells a_kind a_notes a_other a_pitch a_share a_space a_speed a_tell a_times a_words z_refused z_steps z_held z_sort z_size z_shown z_carried z_was z_kept z_cutSpace z_cutTimes z_cutOff z_trace u.1 u.2.1 u.2.2.1 u.2.2.2.1 u.2.2.2.2.1 u.2.2.2.2.2.1 u.2.2.2.2.2.2.1 v_seed v_fault v_from u.2.2.2.2.2.2.2.1 v_end u.2.2.2.2.2.2.2.2.1 u.2.2.2.2.2.2.2.2.2.1 v_culprit v_ran v_isKept u.2.2.2.2.2.2.2.2.2.2.1 u.2.2.2.2.2.2.2.2.2.2.2.1 g_cells u.2.2.2.2.2.2.2.2.2.2.2.2.1 u.2.2.2.2.2.2.2.2.2.2.2.2.2.1 u.2.2.2.2.2.2.2.2.2.2.2.2.2.2.1 u.2.2.2.2.2.2.2.2.2.2.2.2.2.2.2.1 u.2.2.2.2.2.2.2.2.2.2.2.2.2.2.2.2.1 u.2.2.2.2.2.2.2.2.2.2.2.2.2.2.2.2.2.1 u.2.2.2.2.2.2.2.2.2.2.2.2.2.2.2.2.2.2.1 u.2.2.2.2.2.2.2.2.2.2.2.2.2.2.2.2.2.2.2.1 u.2.2.2.2.2.2.2.2.2.2.2.2.2.2.2.2.2.2.2.2 f_words) t.heap) A) args s 0 0 A) (F0 m 86 ls []) := by
  intro  H locs ls h hP hD hS hl
  unfold F_X10_item_86 at h
  have hx := S.1
  have hb := S.2.1
  refine lv_iload_n hx hb dX10_item_86 rfl (lv_at hl 2 rfl) ?_
  refine lv_bipush (v := 7) hx hb dX10_item_87 (by decide) ?_
  refine lv_icmp_ne (tgt := 101) hx hb dX10_item_89 (by decide) (fun hc => ?_) (fun hc => ?_)
  · have h := h.2 hc
    refine w_X10_item_101 S hE hT hA hr hlocks _ _ _ h hP hD hS (lv_sub hl [0, 1, 2] rfl)
  have h := h.1 hc
  refine lv_aload_n hx hb dX10_item_92 rfl (lv_at hl 0 rfl) ?_
  refine gf S hE hP 0 rfl rfl inX10 (k := 2) (by decide) q1095 rfl dX10_item_93 ?_
  refine lv_bipush (v := 6) hx hb dX10_item_96 (by decide) ?_
  refine lv_icmp_eq (tgt := 130) hx hb dX10_item_98 (by decide) (fun hc => ?_) (fun hc => ?_)
  · have h := h.1 hc
    refine lv_aload_n hx hb dX10_item_130 rfl (lv_at hl 0 rfl) ?_
    refine lv_iload_n hx hb dX10_item_131 rfl (lv_at hl 1 rfl) ?_
    refine rw_i (rwV S hE hT hS hP hD hA (c_X10_wrong h) [0] rfl (by decide +kernel) lkX10_193 rfl ⟨(Nat.le_of_ble_eq_true rfl), (Nat.le_of_ble_eq_true rfl)⟩ 0 rfl rfl hl.1 rfl (Nat.le_of_ble_eq_true rfl) dX10_item_132 ⟨(Nat.zero_le _), (Nat.zero_le _)⟩) hP hD hS hA [0] rfl (by decide +kernel) (fun _ => rfl) (fun r132 w132_0 H locs h hP hD hS => ?_)
    try dsimp only at h
    have hP : va_P D vwCl (wX10_item cI cJ cS a_o a_base a_beats a_cells a_kind a_notes a_other a_pitch a_share a_space a_speed a_tell a_times a_words z_refused z_steps z_held z_sort z_size z_shown z_carried z_was z_kept z_cutSpace z_cutTimes z_cutOff z_trace v_stretches v_cars v_tunes v_along v_near v_borne v_tempo v_seed v_fault v_from v_at v_end v_told w132_0 v_culprit v_ran v_isKept f_base f_beats g_cells f_kind f_notes f_other f_pitch f_share f_space f_speed f_tell f_times f_words) H := hP
    have hD : va_D A (wX10_item cI cJ cS a_o a_base a_beats a_cells a_kind a_notes a_other a_pitch a_share a_space a_speed a_tell a_times a_words z_refused z_steps z_held z_sort z_size z_shown z_carried z_was z_kept z_cutSpace z_cutTimes z_cutOff z_trace v_stretches v_cars v_tunes v_along v_near v_borne v_tempo v_seed v_fault v_from v_at v_end v_told w132_0 v_culprit v_ran v_isKept f_base f_beats g_cells f_kind f_notes f_other f_pitch f_share f_space f_speed f_tell f_times f_words) := hD
    exact W.zret hx hb hr h.1 (fun t ht _ => ⟨⟨_, (v_stretches, v_cars, v_tunes, v_along, v_near, v_borne, v_tempo, v_at, v_told, w132_0, f_base, f_beats, f_kind, f_notes, f_other, f_pitch, f_share, f_space, f_speed, f_tell, f_times), rfl, h.2, hPt hP ht⟩, hS.F ht⟩) hS.2.2 dX10_item_135
  have h := h.2 hc
  refine w_X10_item_101 S hE hT hA hr hlocks _ _ _ h hP hD hS (lv_sub hl [0, 1, 2] rfl)
set_option maxHeartbeats 4000000 in
set_option maxRecDepth 100000 in
theorem w_X10_item_71 {l : Launch} {D : va_G} {cI cJ cS : ClassId} {ad adK : Nat → Nat} {a_o a_base a_beats a_cells a_kind a_notes a_other a_pitch a_share a_space a_speed a_tell a_times a_words : Nat} {z_refused z_steps z_held z_sort z_size z_shown z_carried z_was z_kept z_cutSpace z_cutTimes z_cutOff z_trace : Value} {v_stretches : Int32} {v_cars : Int32} {v_tunes : Int32} {v_along : Int32} {v_near : Int32} {v_borne : Int32} {v_tempo : Int32} {v_seed : Int32} {v_fault : Int32} {v_from : Int32} {v_at : Int32} {v_end : Int32} {v_told : Int32} {v_wrongAt : Int32} {v_culprit : Int32} {v_ran : Int32} {v_isKept : Int32} {f_base : Nat → Int32} {f_beats : Nat → Int32} {g_cells : Nat → Int64} {f_kind : Nat → Int32} {f_notes : Nat → Int32} {f_other : Nat → Int32} {f_pitch : Nat → Int32} {f_share : Nat → Int32} {f_space : Nat → Int32} {f_speed : Nat → Int32} {f_tell : Nat → Int32} {f_times : Nat → Int32} {f_words : Nat → Int32} {x1 : Int32} {x2 : Int32} {post : Int32 → Int32 → Int32 → Int32 → Int32 → Int32 → Int32 → Int32 → Int32 → Int32 → Int32 → (Nat → Int32) → (Nat → Int32) → (Nat → Int32) → (Nat → Int32) → (Nat → Int32) → (Nat → Int32) → (Nat → Int32) → (Nat → Int32) → (Nat → Int32) → (Nat → Int32) → (Nat → Int32) → Prop} {p : Program} {e : Env} {s : State} {m : MethodId} {args : Array Value} {below : List Frame} {meth : Method} {c : Code} {A : Nat → Prop} (S : CallFix p m c cX10_item 6 s args GW "RoadThatSingsModel") (hE : EN D cI cJ cS s) (hT : ST ad adK A s s.heap) (hA : ∀ q : Nat, s.heap.size ≤ q → A q) (hr : meth.sig.returnType = (some (.boolean))) (hlocks : meth.locks = false) : ∀ (H : Heap) (locs : List Loc) (ls : Array Slot), F_X10_item_71 v_from v_end g_cells post x1 x2 v_stretches v_cars v_tunes v_along v_near v_borne v_tempo v_at v_told v_wrongAt f_base f_beats f_kind f_notes f_other f_pitch f_share f_space f_speed f_tell f_times → va_P D vwCl (wX10_item cI cJ cS a_o a_base a_beats a_cells a_kind a_notes a_other a_pitch a_share a_space a_speed a_tell a_times a_words z_refused z_steps z_held z_sort z_size z_shown z_carried z_was z_kept z_cutSpace z_cutTimes z_cutOff z_trace v_stretches v_cars v_tunes v_along v_near v_borne v_tempo v_seed v_fault v_from v_at v_end v_told v_wrongAt v_culprit v_ran v_isKept f_base f_beats g_cells f_kind f_notes f_other f_pitch f_share f_space f_speed f_tell f_times f_words) H → va_D A (wX10_item cI cJ cS a_o a_base a_beats a_cells a_kind a_notes a_other a_pitch a_share a_space a_speed a_tell a_times a_words z_refused z_steps z_held z_sort z_size z_shown z_carried z_was z_kept z_cutSpace z_cutTimes z_cutOff z_trace v_stretches v_cars v_tunes v_along v_near v_borne v_tempo v_seed v_fault v_from v_at v_end v_told v_wrongAt v_culprit v_ran v_isKept f_base f_beats g_cells f_kind f_notes f_other f_pitch f_share f_space f_speed f_tell f_times f_words) → va_S A s.heap H locs → lv_has ls 6 [(0, .ref a_o), (1, .int x1), (2, .int x2)] → W p l e (rmd 2 0 0) s m args below meth c H locs 0 0 (MQ below (va_Qi (fun r (u : Int32 × Int32 × Int32 × Int32 × Int32 × Int32 × Int32 × Int32 × Int32 × Int32 × (Nat → Int32) × (Nat → Int32) × (Nat → Int32) × (Nat → Int32) × (Nat → Int32) × (Nat → Int32) × (Nat → Int32) × (Nat → Int32) × (Nat → Int32) × (Nat → Int32) × (Nat → Int32)) => post r u.1 u.2.1 u.2.2.1 u.2.2.2.1 u.2.2.2.2.1 u.2.2.2.2.2.1 u.2.2.2.2.2.2.1 u.2.2.2.2.2.2.2.1 u.2.2.2.2.2.2.2.2.1 u.2.2.2.2.2.2.2.2.2.1 u.2.2.2.2.2.2.2.2.2.2.1 u.2.2.2.2.2.2.2.2.2.2.2.1 u.2.2.2.2.2.2.2.2.2.2.2.2.1 u.2.2.2.2.2.2.2.2.2.2.2.2.2.1 u.2.2.2.2.2.2.2.2.2.2.2.2.2.2.1 u.2.2.2.2.2.2.2.2.2.2.2.2.2.2.2.1 u.2.2.2.2.2.2.2.2.2.2.2.2.2.2.2.2.1 u.2.2.2.2.2.2.2.2.2.2.2.2.2.2.2.2.2.1 u.2.2.2.2.2.2.2.2.2.2.2.2.2.2.2.2.2.2.1 u.2.2.2.2.2.2.2.2.2.2.2.2.2.2.2.2.2.2.2.1 u.2.2.2.2.2.2.2.2.2.2.2.2.2.2.2.2.2.2.2.2) (fun u t => va_P D vwCl (wX10_item cI cJ cS a_o a_base a_beats a_cells a_kind a_notes a_other a_pitch a_share a_space a_speed a_tell a_times a_words z_refused z_steps z_held z_sort z_size z_shown z_carried z_was z_kept z_cutSpace z_cutTimes z_cutOff z_trace u.1 u.2.1 u.2.2.1 u.2.2.2.1 u.2.2.2.2.1 u.2.2.2.2.2.1 u.2.2.2.2.2.2.1 v_seed v_fault v_from u.2.2.2.2.2.2.2.1 v_end u.2.2.2.2.2.2.2.2.1 u.2.2.2.2.2.2.2.2.2.1 v_culprit v_ran v_isKept u.2.2.2.2.2.2.2.2.2.2.1 u.2.2.2.2.2.2.2.2.2.2.2.1 g_cells u.2.2.2.2.2.2.2.2.2.2.2.2.1 u.2.2.2.2.2.2.2.2.2.2.2.2.2.1 u.2.2.2.2.2.2.2.2.2.2.2.2.2.2.1 u.2.2.2.2.2.2.2.2.2.2.2.2.2.2.2.1 u.2.2.2.2.2.2.2.2.2.2.2.2.2.2.2.2.1 u.2.2.2.2.2.2.2.2.2.2.2.2.2.2.2.2.2.1 u.2.2.2.2.2.2.2.2.2.2.2.2.2.2.2.2.2.2.1 u.2.2.2.2.2.2.2.2.2.2.2.2.2.2.2.2.2.2.2.1 u.2.2.2.2.2.2.2.2.2.2.2.2.2.2.2.2.2.2.2.2 f_words) t.heap) A) args s 0 0 A) (F0 m 71 ls []) := by
  intro  H locs ls h hP hD hS hl
  unfold F_X10_item_71 at h
  have hx := S.1
  have hb := S.2.1
  refine lv_iload_n hx hb dX10_item_71 rfl (lv_at hl 2 rfl) ?_
  refine lv_bipush (v := 6) hx hb dX10_item_72 (by decide) ?_
  refine lv_icmp_ne (tgt := 86) hx hb dX10_item_74 (by decide) (fun hc => ?_) (fun hc => ?_)
  · have h := h.2 hc
    refine w_X10_item_86 S hE hT hA hr hlocks _ _ _ h hP hD hS (lv_sub hl [0, 1, 2] rfl)
  have h := h.1 hc
  refine lv_aload_n hx hb dX10_item_77 rfl (lv_at hl 0 rfl) ?_
  refine gf S hE hP 0 rfl rfl inX10 (k := 1) (by decide) q1094 rfl dX10_item_78 ?_
  refine lv_bipush (v := 6) hx hb dX10_item_81 (by decide) ?_
  refine lv_icmp_eq (tgt := 130) hx hb dX10_item_83 (by decide) (fun hc => ?_) (fun hc => ?_)
  · have h := h.1 hc
    refine lv_aload_n hx hb dX10_item_130 rfl (lv_at hl 0 rfl) ?_
    refine lv_iload_n hx hb dX10_item_131 rfl (lv_at hl 1 rfl) ?_
    refine rw_i (rwV S hE hT hS hP hD hA (c_X10_wrong h) [0] rfl (by decide +kernel) lkX10_193 rfl ⟨(Nat.le_of_ble_eq_true rfl), (Nat.le_of_ble_eq_true rfl)⟩ 0 rfl rfl hl.1 rfl (Nat.le_of_ble_eq_true rfl) dX10_item_132 ⟨(Nat.zero_le _), (Nat.zero_le _)⟩) hP hD hS hA [0] rfl (by decide +kernel) (fun _ => rfl) (fun r132 w132_0 H locs h hP hD hS => ?_)
    try dsimp only at h
    have hP : va_P D vwCl (wX10_item cI cJ cS a_o a_base a_beats a_cells a_kind a_notes a_other a_pitch a_share a_space a_speed a_tell a_times a_words z_refused z_steps z_held z_sort z_size z_shown z_carried z_was z_kept z_cutSpace z_cutTimes z_cutOff z_trace v_stretches v_cars v_tunes v_along v_near v_borne v_tempo v_seed v_fault v_from v_at v_end v_told w132_0 v_culprit v_ran v_isKept f_base f_beats g_cells f_kind f_notes f_other f_pitch f_share f_space f_speed f_tell f_times f_words) H := hP
    have hD : va_D A (wX10_item cI cJ cS a_o a_base a_beats a_cells a_kind a_notes a_other a_pitch a_share a_space a_speed a_tell a_times a_words z_refused z_steps z_held z_sort z_size z_shown z_carried z_was z_kept z_cutSpace z_cutTimes z_cutOff z_trace v_stretches v_cars v_tunes v_along v_near v_borne v_tempo v_seed v_fault v_from v_at v_end v_told w132_0 v_culprit v_ran v_isKept f_base f_beats g_cells f_kind f_notes f_other f_pitch f_share f_space f_speed f_tell f_times f_words) := hD
    exact W.zret hx hb hr h.1 (fun t ht _ => ⟨⟨_, (v_stretches, v_cars, v_tunes, v_along, v_near, v_borne, v_tempo, v_at, v_told, w132_0, f_base, f_beats, f_kind, f_notes, f_other, f_pitch, f_share, f_space, f_speed, f_tell, f_times), rfl, h.2, hPt hP ht⟩, hS.F ht⟩) hS.2.2 dX10_item_135
  have h := h.2 hc
  refine w_X10_item_86 S hE hT hA hr hlocks _ _ _ h hP hD hS (lv_sub hl [0, 1, 2] rfl)
set_option maxHeartbeats 4000000 in
set_option maxRecDepth 100000 in
theorem w_X10_item_33 {l : Launch} {D : va_G} {cI cJ cS : ClassId} {ad adK : Nat → Nat} {a_o a_base a_beats a_cells a_kind a_notes a_other a_pitch a_share a_space a_speed a_tell a_times a_words : Nat} {z_refused z_steps z_held z_sort z_size z_shown z_carried z_was z_kept z_cutSpace z_cutTimes z_cutOff z_trace : Value} {v_stretches : Int32} {v_cars : Int32} {v_tunes : Int32} {v_along : Int32} {v_near : Int32} {v_borne : Int32} {v_tempo : Int32} {v_seed : Int32} {v_fault : Int32} {v_from : Int32} {v_at : Int32} {v_end : Int32} {v_told : Int32} {v_wrongAt : Int32} {v_culprit : Int32} {v_ran : Int32} {v_isKept : Int32} {f_base : Nat → Int32} {f_beats : Nat → Int32} {g_cells : Nat → Int64} {f_kind : Nat → Int32} {f_notes : Nat → Int32} {f_other : Nat → Int32} {f_pitch : Nat → Int32} {f_share : Nat → Int32} {f_space : Nat → Int32} {f_speed : Nat → Int32} {f_tell : Nat → Int32} {f_times : Nat → Int32} {f_words : Nat → Int32} {x1 : Int32} {post : Int32 → Int32 → Int32 → Int32 → Int32 → Int32 → Int32 → Int32 → Int32 → Int32 → Int32 → (Nat → Int32) → (Nat → Int32) → (Nat → Int32) → (Nat → Int32) → (Nat → Int32) → (Nat → Int32) → (Nat → Int32) → (Nat → Int32) → (Nat → Int32) → (Nat → Int32) → (Nat → Int32) → Prop} {k2 : Int32 → Int32 → Int32 → Int32 → Int32 → Int32 → Int32 → Int32 → Int32 → Int32 → Int32 → (Nat → Int32) → (Nat → Int32) → (Nat → Int32) → (Nat → Int32) → (Nat → Int32) → (Nat → Int32) → (Nat → Int32) → (Nat → Int32) → (Nat → Int32) → (Nat → Int32) → (Nat → Int32) → Prop} {p : Program} {e : Env} {s : State} {m : MethodId} {args : Array Value} {below : List Frame} {meth : Method} {c : Code} {A : Nat → Prop} (S : CallFix p m c cX10_item 6 s args GW "RoadThatSingsModel") (hE : EN D cI cJ cS s) (hT : ST ad adK A s s.heap) (hA : ∀ q : Nat, s.heap.size ≤ q → A q) (hr : meth.sig.returnType = (some (.boolean))) (hlocks : meth.locks = false) (hk2 : ∀ (x1 : Int32) (v_stretches : Int32) (v_cars : Int32) (v_tunes : Int32) (v_along : Int32) (v_near : Int32) (v_borne : Int32) (v_tempo : Int32) (v_at : Int32) (v_told : Int32) (v_wrongAt : Int32) (f_base : Nat → Int32) (f_beats : Nat → Int32) (f_kind : Nat → Int32) (f_notes : Nat → Int32) (f_other : Nat → Int32) (f_pitch : Nat → Int32) (f_share : Nat → Int32) (f_space : Nat → Int32) (f_speed : Nat → Int32) (f_tell : Nat → Int32) (f_times : Nat → Int32) (H : Heap) (locs : List Loc) (ls : Array Slot), k2 x1 v_stretches v_cars v_tunes v_along v_near v_borne v_tempo v_at v_told v_wrongAt f_base f_beats f_kind f_notes f_other f_pitch f_share f_space f_speed f_tell f_times → va_P D vwCl (wX10_item cI cJ cS a_o a_base a_beats a_cells a_kind a_notes a_other a_pitch a_share a_space a_speed a_tell a_times a_words z_refused z_steps z_held z_sort z_size z_shown z_carried z_was z_kept z_cutSpace z_cutTimes z_cutOff z_trace v_stretches v_cars v_tunes v_along v_near v_borne v_tempo v_seed v_fault v_from v_at v_end v_told v_wrongAt v_culprit v_ran v_isKept f_base f_beats g_cells f_kind f_notes f_other f_pitch f_share f_space f_speed f_tell f_times f_words) H → va_D A (wX10_item cI cJ cS a_o a_base a_beats a_cells a_kind a_notes a_other a_pitch a_share a_space a_speed a_tell a_times a_words z_refused z_steps z_held z_sort z_size z_shown z_carried z_was z_kept z_cutSpace z_cutTimes z_cutOff z_trace v_stretches v_cars v_tunes v_along v_near v_borne v_tempo v_seed v_fault v_from v_at v_end v_told v_wrongAt v_culprit v_ran v_isKept f_base f_beats g_cells f_kind f_notes f_other f_pitch f_share f_space f_speed f_tell f_times f_words) → va_S A s.heap H locs → lv_has ls 6 [(0, .ref a_o), (1, .int x1)] → W p l e (rmd 2 0 0) s m args below meth c H locs 0 0 (MQ below (va_Qi (fun r (u : Int32 × Int32 × Int32 × Int32 × Int32 × Int32 × Int32 × Int32 × Int32 × Int32 × (Nat → Int32) × (Nat → Int32) × (Nat → Int32) × (Nat → Int32) × (Nat → Int32) × (Nat → Int32) × (Nat → Int32) × (Nat → Int32) × (Nat → Int32) × (Nat → Int32) × (Nat → Int32)) => post r u.1 u.2.1 u.2.2.1 u.2.2.2.1 u.2.2.2.2.1 u.2.2.2.2.2.1 u.2.2.2.2.2.2.1 u.2.2.2.2.2.2.2.1 u.2.2.2.2.2.2.2.2.1 u.2.2.2.2.2.2.2.2.2.1 u.2.2.2.2.2.2.2.2.2.2.1 u.2.2.2.2.2.2.2.2.2.2.2.1 u.2.2.2.2.2.2.2.2.2.2.2.2.1 u.2.2.2.2.2.2.2.2.2.2.2.2.2.1 u.2.2.2.2.2.2.2.2.2.2.2.2.2.2.1 u.2.2.2.2.2.2.2.2.2.2.2.2.2.2.2.1 u.2.2.2.2.2.2.2.2.2.2.2.2.2.2.2.2.1 u.2.2.2.2.2.2.2.2.2.2.2.2.2.2.2.2.2.1 u.2.2.2.2.2.2.2.2.2.2.2.2.2.2.2.2.2.2.1 u.2.2.2.2.2.2.2.2.2.2.2.2.2.2.2.2.2.2.2.1 u.2.2.2.2.2.2.2.2.2.2.2.2.2.2.2.2.2.2.2.2) (fun u t => va_P D vwCl (wX10_item cI cJ cS a_o a_base a_beats a_cells a_kind a_notes a_other a_pitch a_share a_space a_speed a_tell a_times a_words z_refused z_steps z_held z_sort z_size z_shown z_carried z_was z_kept z_cutSpace z_cutTimes z_cutOff z_trace u.1 u.2.1 u.2.2.1 u.2.2.2.1 u.2.2.2.2.1 u.2.2.2.2.2.1 u.2.2.2.2.2.2.1 v_seed v_fault v_from u.2.2.2.2.2.2.2.1 v_end u.2.2.2.2.2.2.2.2.1 u.2.2.2.2.2.2.2.2.2.1 v_culprit v_ran v_isKept u.2.2.2.2.2.2.2.2.2.2.1 u.2.2.2.2.2.2.2.2.2.2.2.1 g_cells u.2.2.2.2.2.2.2.2.2.2.2.2.1 u.2.2.2.2.2.2.2.2.2.2.2.2.2.1 u.2.2.2.2.2.2.2.2.2.2.2.2.2.2.1 u.2.2.2.2.2.2.2.2.2.2.2.2.2.2.2.1 u.2.2.2.2.2.2.2.2.2.2.2.2.2.2.2.2.1 u.2.2.2.2.2.2.2.2.2.2.2.2.2.2.2.2.2.1 u.2.2.2.2.2.2.2.2.2.2.2.2.2.2.2.2.2.2.1 u.2.2.2.2.2.2.2.2.2.2.2.2.2.2.2.2.2.2.2.1 u.2.2.2.2.2.2.2.2.2.2.2.2.2.2.2.2.2.2.2.2 f_words) t.heap) A) args s 0 0 A) (F0 m 2 ls [])) : ∀ (H : Heap) (locs : List Loc) (ls : Array Slot), F_X10_item_33 k2 x1 v_stretches v_cars v_tunes v_along v_near v_borne v_tempo v_at v_told v_wrongAt f_base f_beats f_kind f_notes f_other f_pitch f_share f_space f_speed f_tell f_times → va_P D vwCl (wX10_item cI cJ cS a_o a_base a_beats a_cells a_kind a_notes a_other a_pitch a_share a_space a_speed a_tell a_times a_words z_refused z_steps z_held z_sort z_size z_shown z_carried z_was z_kept z_cutSpace z_cutTimes z_cutOff z_trace v_stretches v_cars v_tunes v_along v_near v_borne v_tempo v_seed v_fault v_from v_at v_end v_told v_wrongAt v_culprit v_ran v_isKept f_base f_beats g_cells f_kind f_notes f_other f_pitch f_share f_space f_speed f_tell f_times f_words) H → va_D A (wX10_item cI cJ cS a_o a_base a_beats a_cells a_kind a_notes a_other a_pitch a_share a_space a_speed a_tell a_times a_words z_refused z_steps z_held z_sort z_size z_shown z_carried z_was z_kept z_cutSpace z_cutTimes z_cutOff z_trace v_stretches v_cars v_tunes v_along v_near v_borne v_tempo v_seed v_fault v_from v_at v_end v_told v_wrongAt v_culprit v_ran v_isKept f_base f_beats g_cells f_kind f_notes f_other f_pitch f_share f_space f_speed f_tell f_times f_words) → va_S A s.heap H locs → lv_has ls 6 [(0, .ref a_o), (1, .int x1)] → W p l e (rmd 2 0 0) s m args below meth c H locs 0 0 (MQ below (va_Qi (fun r (u : Int32 × Int32 × Int32 × Int32 × Int32 × Int32 × Int32 × Int32 × Int32 × Int32 × (Nat → Int32) × (Nat → Int32) × (Nat → Int32) × (Nat → Int32) × (Nat → Int32) × (Nat → Int32) × (Nat → Int32) × (Nat → Int32) × (Nat → Int32) × (Nat → Int32) × (Nat → Int32)) => post r u.1 u.2.1 u.2.2.1 u.2.2.2.1 u.2.2.2.2.1 u.2.2.2.2.2.1 u.2.2.2.2.2.2.1 u.2.2.2.2.2.2.2.1 u.2.2.2.2.2.2.2.2.1 u.2.2.2.2.2.2.2.2.2.1 u.2.2.2.2.2.2.2.2.2.2.1 u.2.2.2.2.2.2.2.2.2.2.2.1 u.2.2.2.2.2.2.2.2.2.2.2.2.1 u.2.2.2.2.2.2.2.2.2.2.2.2.2.1 u.2.2.2.2.2.2.2.2.2.2.2.2.2.2.1 u.2.2.2.2.2.2.2.2.2.2.2.2.2.2.2.1 u.2.2.2.2.2.2.2.2.2.2.2.2.2.2.2.2.1 u.2.2.2.2.2.2.2.2.2.2.2.2.2.2.2.2.2.1 u.2.2.2.2.2.2.2.2.2.2.2.2.2.2.2.2.2.2.1 u.2.2.2.2.2.2.2.2.2.2.2.2.2.2.2.2.2.2.2.1 u.2.2.2.2.2.2.2.2.2.2.2.2.2.2.2.2.2.2.2.2) (fun u t => va_P D vwCl (wX10_item cI cJ cS a_o a_base a_beats a_cells a_kind a_notes a_other a_pitch a_share a_space a_speed a_tell a_times a_words z_refused z_steps z_held z_sort z_size z_shown z_carried z_was z_kept z_cutSpace z_cutTimes z_cutOff z_trace u.1 u.2.1 u.2.2.1 u.2.2.2.1 u.2.2.2.2.1 u.2.2.2.2.2.1 u.2.2.2.2.2.2.1 v_seed v_fault v_from u.2.2.2.2.2.2.2.1 v_end u.2.2.2.2.2.2.2.2.1 u.2.2.2.2.2.2.2.2.2.1 v_culprit v_ran v_isKept u.2.2.2.2.2.2.2.2.2.2.1 u.2.2.2.2.2.2.2.2.2.2.2.1 g_cells u.2.2.2.2.2.2.2.2.2.2.2.2.1 u.2.2.2.2.2.2.2.2.2.2.2.2.2.1 u.2.2.2.2.2.2.2.2.2.2.2.2.2.2.1 u.2.2.2.2.2.2.2.2.2.2.2.2.2.2.2.1 u.2.2.2.2.2.2.2.2.2.2.2.2.2.2.2.2.1 u.2.2.2.2.2.2.2.2.2.2.2.2.2.2.2.2.2.1 u.2.2.2.2.2.2.2.2.2.2.2.2.2.2.2.2.2.2.1 u.2.2.2.2.2.2.2.2.2.2.2.2.2.2.2.2.2.2.2.1 u.2.2.2.2.2.2.2.2.2.2.2.2.2.2.2.2.2.2.2.2 f_words) t.heap) A) args s 0 0 A) (F0 m 33 ls []) := by
  intro  H locs ls h hP hD hS hl
  unfold F_X10_item_33 at h
  have hx := S.1
  have hb := S.2.1
  obtain ⟨x1_33, ex1_33⟩ : ∃ z : Int32, z = x1 + 1 := ⟨_, rfl⟩
  have h := h _ ex1_33
  refine lv_iinc (v := x1_33) (lv' := [(1, .int x1_33), (0, .ref a_o)]) hx hb dX10_item_33 hl (k := 1) rfl (by rw [ex1_33]; rfl) (by decide) rfl (fun ls hl => ?_)
  refine lv_goto (tgt := 2) hx hb dX10_item_36 (by decide) ?_
  exact hk2 _ _ _ _ _ _ _ _ _ _ _ _ _ _ _ _ _ _ _ _ _ _ _ _ _ h hP hD hS (lv_sub hl [1, 0] rfl)
set_option maxHeartbeats 4000000 in
set_option maxRecDepth 100000 in
theorem w_X10_item_2 {l : Launch} {D : va_G} {cI cJ cS : ClassId} {ad adK : Nat → Nat} {a_o a_base a_beats a_cells a_kind a_notes a_other a_pitch a_share a_space a_speed a_tell a_times a_words : Nat} {z_refused z_steps z_held z_sort z_size z_shown z_carried z_was z_kept z_cutSpace z_cutTimes z_cutOff z_trace : Value} {v_seed : Int32} {v_fault : Int32} {v_from : Int32} {v_end : Int32} {v_culprit : Int32} {v_ran : Int32} {v_isKept : Int32} {g_cells : Nat → Int64} {f_words : Nat → Int32} {post : Int32 → Int32 → Int32 → Int32 → Int32 → Int32 → Int32 → Int32 → Int32 → Int32 → Int32 → (Nat → Int32) → (Nat → Int32) → (Nat → Int32) → (Nat → Int32) → (Nat → Int32) → (Nat → Int32) → (Nat → Int32) → (Nat → Int32) → (Nat → Int32) → (Nat → Int32) → (Nat → Int32) → Prop} {p : Program} {e : Env} {s : State} {m : MethodId} {args : Array Value} {below : List Frame} {meth : Method} {c : Code} {A : Nat → Prop} (S : CallFix p m c cX10_item 6 s args GW "RoadThatSingsModel") (hE : EN D cI cJ cS s) (hT : ST ad adK A s s.heap) (hA : ∀ q : Nat, s.heap.size ≤ q → A q) (hr : meth.sig.returnType = (some (.boolean))) (hlocks : meth.locks = false) : ∀ n : Nat, ∀ (x1 : Int32) (v_stretches : Int32) (v_cars : Int32) (v_tunes : Int32) (v_along : Int32) (v_near : Int32) (v_borne : Int32) (v_tempo : Int32) (v_at : Int32) (v_told : Int32) (v_wrongAt : Int32) (f_base : Nat → Int32) (f_beats : Nat → Int32) (f_kind : Nat → Int32) (f_notes : Nat → Int32) (f_other : Nat → Int32) (f_pitch : Nat → Int32) (f_share : Nat → Int32) (f_space : Nat → Int32) (f_speed : Nat → Int32) (f_tell : Nat → Int32) (f_times : Nat → Int32) (H : Heap) (locs : List Loc) (ls : Array Slot), L_X10_item_2 v_from v_end g_cells f_words post n x1 v_stretches v_cars v_tunes v_along v_near v_borne v_tempo v_at v_told v_wrongAt f_base f_beats f_kind f_notes f_other f_pitch f_share f_space f_speed f_tell f_times → va_P D vwCl (wX10_item cI cJ cS a_o a_base a_beats a_cells a_kind a_notes a_other a_pitch a_share a_space a_speed a_tell a_times a_words z_refused z_steps z_held z_sort z_size z_shown z_carried z_was z_kept z_cutSpace z_cutTimes z_cutOff z_trace v_stretches v_cars v_tunes v_along v_near v_borne v_tempo v_seed v_fault v_from v_at v_end v_told v_wrongAt v_culprit v_ran v_isKept f_base f_beats g_cells f_kind f_notes f_other f_pitch f_share f_space f_speed f_tell f_times f_words) H → va_D A (wX10_item cI cJ cS a_o a_base a_beats a_cells a_kind a_notes a_other a_pitch a_share a_space a_speed a_tell a_times a_words z_refused z_steps z_held z_sort z_size z_shown z_carried z_was z_kept z_cutSpace z_cutTimes z_cutOff z_trace v_stretches v_cars v_tunes v_along v_near v_borne v_tempo v_seed v_fault v_from v_at v_end v_told v_wrongAt v_culprit v_ran v_isKept f_base f_beats g_cells f_kind f_notes f_other f_pitch f_share f_space f_speed f_tell f_times f_words) → va_S A s.heap H locs → lv_has ls 6 [(0, .ref a_o), (1, .int x1)] → W p l e (rmd 2 0 0) s m args below meth c H locs 0 0 (MQ below (va_Qi (fun r (u : Int32 × Int32 × Int32 × Int32 × Int32 × Int32 × Int32 × Int32 × Int32 × Int32 × (Nat → Int32) × (Nat → Int32) × (Nat → Int32) × (Nat → Int32) × (Nat → Int32) × (Nat → Int32) × (Nat → Int32) × (Nat → Int32) × (Nat → Int32) × (Nat → Int32) × (Nat → Int32)) => post r u.1 u.2.1 u.2.2.1 u.2.2.2.1 u.2.2.2.2.1 u.2.2.2.2.2.1 u.2.2.2.2.2.2.1 u.2.2.2.2.2.2.2.1 u.2.2.2.2.2.2.2.2.1 u.2.2.2.2.2.2.2.2.2.1 u.2.2.2.2.2.2.2.2.2.2.1 u.2.2.2.2.2.2.2.2.2.2.2.1 u.2.2.2.2.2.2.2.2.2.2.2.2.1 u.2.2.2.2.2.2.2.2.2.2.2.2.2.1 u.2.2.2.2.2.2.2.2.2.2.2.2.2.2.1 u.2.2.2.2.2.2.2.2.2.2.2.2.2.2.2.1 u.2.2.2.2.2.2.2.2.2.2.2.2.2.2.2.2.1 u.2.2.2.2.2.2.2.2.2.2.2.2.2.2.2.2.2.1 u.2.2.2.2.2.2.2.2.2.2.2.2.2.2.2.2.2.2.1 u.2.2.2.2.2.2.2.2.2.2.2.2.2.2.2.2.2.2.2.1 u.2.2.2.2.2.2.2.2.2.2.2.2.2.2.2.2.2.2.2.2) (fun u t => va_P D vwCl (wX10_item cI cJ cS a_o a_base a_beats a_cells a_kind a_notes a_other a_pitch a_share a_space a_speed a_tell a_times a_words z_refused z_steps z_held z_sort z_size z_shown z_carried z_was z_kept z_cutSpace z_cutTimes z_cutOff z_trace u.1 u.2.1 u.2.2.1 u.2.2.2.1 u.2.2.2.2.1 u.2.2.2.2.2.1 u.2.2.2.2.2.2.1 v_seed v_fault v_from u.2.2.2.2.2.2.2.1 v_end u.2.2.2.2.2.2.2.2.1 u.2.2.2.2.2.2.2.2.2.1 v_culprit v_ran v_isKept u.2.2.2.2.2.2.2.2.2.2.1 u.2.2.2.2.2.2.2.2.2.2.2.1 g_cells u.2.2.2.2.2.2.2.2.2.2.2.2.1 u.2.2.2.2.2.2.2.2.2.2.2.2.2.1 u.2.2.2.2.2.2.2.2.2.2.2.2.2.2.1 u.2.2.2.2.2.2.2.2.2.2.2.2.2.2.2.1 u.2.2.2.2.2.2.2.2.2.2.2.2.2.2.2.2.1 u.2.2.2.2.2.2.2.2.2.2.2.2.2.2.2.2.2.1 u.2.2.2.2.2.2.2.2.2.2.2.2.2.2.2.2.2.2.1 u.2.2.2.2.2.2.2.2.2.2.2.2.2.2.2.2.2.2.2.1 u.2.2.2.2.2.2.2.2.2.2.2.2.2.2.2.2.2.2.2.2 f_words) t.heap) A) args s 0 0 A) (F0 m 2 ls []) := by
  intro n
  induction n with
  | zero =>
    intro x1 v_stretches v_cars v_tunes v_along v_near v_borne v_tempo v_at v_told v_wrongAt f_base f_beats f_kind f_notes f_other f_pitch f_share f_space f_speed f_tell f_times H locs ls h hP hD hS hl
    exact h.elim
  | succ n ih =>
    intro x1 v_stretches v_cars v_tunes v_along v_near v_borne v_tempo v_at v_told v_wrongAt f_base f_beats f_kind f_notes f_other f_pitch f_share f_space f_speed f_tell f_times H locs ls h hP hD hS hl
    rw [L_X10_item_2] at h
    have hx := S.1
    have hb := S.2.1
    refine lv_iload_n hx hb dX10_item_2 rfl (lv_at hl 1 rfl) ?_
    refine lv_bipush (v := 13) hx hb dX10_item_3 (by decide) ?_
    refine lv_icmp_ge (tgt := 39) hx hb dX10_item_5 (by decide) (fun hc => ?_) (fun hc => ?_)
    · have h := h.1 hc
      refine lv_aload_n hx hb dX10_item_39 rfl (lv_at hl 0 rfl) ?_
      refine gf S hE hP 0 rfl rfl inX10 (k := 30) (by decide) q1123 rfl dX10_item_40 ?_
      refine lv_istore_n (lv' := [(1, .int v_at), (0, .ref a_o)]) hx hb dX10_item_43 rfl hl (by decide) rfl (fun ls hl => ?_)
      refine lv_aload_n hx hb dX10_item_44 rfl (lv_at hl 1 rfl) ?_
      refine rw_i (rwV S hE hT hS hP hD hA (c_X10_word h) [0, 3, 13] rfl (by decide +kernel) lkX10_205 rfl ⟨(Nat.le_of_ble_eq_true rfl), (Nat.le_of_ble_eq_true rfl)⟩ 0 rfl rfl hl.1 rfl (Nat.le_of_ble_eq_true rfl) dX10_item_45 ⟨(Nat.zero_le _), (Nat.zero_le _)⟩) hP hD hS hA [0, 3, 13] rfl (by decide +kernel) (fun _ => rfl) (fun r45 u45 H locs h hP hD hS => ?_)
      obtain ⟨w45_0, w45_1⟩ := u45
      try dsimp only at h
      have hP : va_P D vwCl (wX10_item cI cJ cS a_o a_base a_beats a_cells a_kind a_notes a_other a_pitch a_share a_space a_speed a_tell a_times a_words z_refused z_steps z_held z_sort z_size z_shown z_carried z_was z_kept z_cutSpace z_cutTimes z_cutOff z_trace v_stretches v_cars v_tunes v_along v_near v_borne v_tempo v_seed v_fault v_from w45_0 v_end v_told w45_1 v_culprit v_ran v_isKept f_base f_beats g_cells f_kind f_notes f_other f_pitch f_share f_space f_speed f_tell f_times f_words) H := hP
      have hD : va_D A (wX10_item cI cJ cS a_o a_base a_beats a_cells a_kind a_notes a_other a_pitch a_share a_space a_speed a_tell a_times a_words z_refused z_steps z_held z_sort z_size z_shown z_carried z_was z_kept z_cutSpace z_cutTimes z_cutOff z_trace v_stretches v_cars v_tunes v_along v_near v_borne v_tempo v_seed v_fault v_from w45_0 v_end v_told w45_1 v_culprit v_ran v_isKept f_base f_beats g_cells f_kind f_notes f_other f_pitch f_share f_space f_speed f_tell f_times f_words) := hD
      refine lv_istore_n (lv' := [(2, .int r45), (1, .int v_at), (0, .ref a_o)]) hx hb dX10_item_48 rfl hl (by decide) rfl (fun ls hl => ?_)
      refine lv_iload_n hx hb dX10_item_49 rfl (lv_at hl 0 rfl) ?_
      refine lv_iconst (v := (-1)) hx hb dX10_item_50 (by decide) ?_
      refine lv_icmp_ne (tgt := 56) hx hb dX10_item_51 (by decide) (fun hc => ?_) (fun hc => ?_)
      · have h := h.2 hc
        refine lv_iload_n hx hb dX10_item_56 rfl (lv_at hl 0 rfl) ?_
        refine lv_bipush (v := 6) hx hb dX10_item_57 (by decide) ?_
        refine lv_icmp_ge (tgt := 71) hx hb dX10_item_59 (by decide) (fun hc => ?_) (fun hc => ?_)
        · have h := h.1 hc
          refine w_X10_item_71 S hE hT hA hr hlocks _ _ _ h hP hD hS (lv_sub hl [2, 1, 0] rfl)
        have h := h.2 hc
        refine lv_aload_n hx hb dX10_item_62 rfl (lv_at hl 2 rfl) ?_
        refine gf S hE hP 0 rfl rfl inX10 (k := 0) (by decide) q1093 rfl dX10_item_63 ?_
        refine lv_bipush (v := 16) hx hb dX10_item_66 (by decide) ?_
        refine lv_icmp_eq (tgt := 130) hx hb dX10_item_68 (by decide) (fun hc => ?_) (fun hc => ?_)
        · have h := h.1 hc
          refine lv_aload_n hx hb dX10_item_130 rfl (lv_at hl 2 rfl) ?_
          refine lv_iload_n hx hb dX10_item_131 rfl (lv_at hl 1 rfl) ?_
          refine rw_i (rwV S hE hT hS hP hD hA (c_X10_wrong h) [0] rfl (by decide +kernel) lkX10_193 rfl ⟨(Nat.le_of_ble_eq_true rfl), (Nat.le_of_ble_eq_true rfl)⟩ 0 rfl rfl hl.1 rfl (Nat.le_of_ble_eq_true rfl) dX10_item_132 ⟨(Nat.zero_le _), (Nat.zero_le _)⟩) hP hD hS hA [0] rfl (by decide +kernel) (fun _ => rfl) (fun r132 w132_0 H locs h hP hD hS => ?_)
          try dsimp only at h
          have hP : va_P D vwCl (wX10_item cI cJ cS a_o a_base a_beats a_cells a_kind a_notes a_other a_pitch a_share a_space a_speed a_tell a_times a_words z_refused z_steps z_held z_sort z_size z_shown z_carried z_was z_kept z_cutSpace z_cutTimes z_cutOff z_trace v_stretches v_cars v_tunes v_along v_near v_borne v_tempo v_seed v_fault v_from w45_0 v_end v_told w132_0 v_culprit v_ran v_isKept f_base f_beats g_cells f_kind f_notes f_other f_pitch f_share f_space f_speed f_tell f_times f_words) H := hP
          have hD : va_D A (wX10_item cI cJ cS a_o a_base a_beats a_cells a_kind a_notes a_other a_pitch a_share a_space a_speed a_tell a_times a_words z_refused z_steps z_held z_sort z_size z_shown z_carried z_was z_kept z_cutSpace z_cutTimes z_cutOff z_trace v_stretches v_cars v_tunes v_along v_near v_borne v_tempo v_seed v_fault v_from w45_0 v_end v_told w132_0 v_culprit v_ran v_isKept f_base f_beats g_cells f_kind f_notes f_other f_pitch f_share f_space f_speed f_tell f_times f_words) := hD
          exact W.zret hx hb hr h.1 (fun t ht _ => ⟨⟨_, (v_stretches, v_cars, v_tunes, v_along, v_near, v_borne, v_tempo, w45_0, v_told, w132_0, f_base, f_beats, f_kind, f_notes, f_other, f_pitch, f_share, f_space, f_speed, f_tell, f_times), rfl, h.2, hPt hP ht⟩, hS.F ht⟩) hS.2.2 dX10_item_135
        have h := h.2 hc
        refine w_X10_item_71 S hE hT hA hr hlocks _ _ _ h hP hD hS (lv_sub hl [2, 1, 0] rfl)
      have h := h.1 hc
      refine lv_iconst (v := 0) hx hb dX10_item_54 (by decide) ?_
      exact W.zret hx hb hr rfl (fun t ht _ => ⟨⟨_, (v_stretches, v_cars, v_tunes, v_along, v_near, v_borne, v_tempo, w45_0, v_told, w45_1, f_base, f_beats, f_kind, f_notes, f_other, f_pitch, f_share, f_space, f_speed, f_tell, f_times), rfl, h, hPt hP ht⟩, hS.F ht⟩) hS.2.2 dX10_item_55
    have h := h.2 hc
    refine lv_aload_n hx hb dX10_item_8 rfl (lv_at hl 0 rfl) ?_
    refine lv_iload_n hx hb dX10_item_9 rfl (lv_at hl 1 rfl) ?_
    refine ro_i (roV S hE hT hS (c_X10_isWordAt h) lkX10_199 rfl ⟨(Nat.le_of_ble_eq_true rfl), (Nat.le_of_ble_eq_true rfl)⟩ (hP.sub [0, 3, 13] rfl) 0 rfl rfl hl.1 rfl (Nat.le_of_ble_eq_true rfl) dX10_item_10 ⟨(Nat.zero_le _), (Nat.zero_le _)⟩) (fun r10 h => ?_)
    refine lv_if_eq (tgt := 33) hx hb dX10_item_13 (by decide) (fun hc => ?_) (fun hc => ?_)
    · have h := h.1 hc
      refine w_X10_item_33 S hE hT hA hr hlocks ih _ _ _ h hP hD hS (lv_sub hl [0, 1] rfl)
    have h := h.2 hc
    refine lv_aload_n hx hb dX10_item_16 rfl (lv_at hl 0 rfl) ?_
    refine lv_iload_n hx hb dX10_item_17 rfl (lv_at hl 1 rfl) ?_
    refine ro_i (roV S hE hT hS (c_X10_isFull h) lkX10_202 rfl ⟨(Nat.le_of_ble_eq_true rfl), (Nat.le_of_ble_eq_true rfl)⟩ (hP.sub [0, 5] rfl) 0 rfl rfl hl.1 rfl (Nat.le_of_ble_eq_true rfl) dX10_item_18 ⟨(Nat.zero_le _), (Nat.zero_le _)⟩) (fun r18 h => ?_)
    refine lv_if_eq (tgt := 33) hx hb dX10_item_21 (by decide) (fun hc => ?_) (fun hc => ?_)
    · have h := h.1 hc
      refine w_X10_item_33 S hE hT hA hr hlocks ih _ _ _ h hP hD hS (lv_sub hl [0, 1] rfl)
    have h := h.2 hc
    refine lv_aload_n hx hb dX10_item_24 rfl (lv_at hl 0 rfl) ?_
    refine lv_aload_n hx hb dX10_item_25 rfl (lv_at hl 0 rfl) ?_
    refine gf S hE hP 0 rfl rfl inX10 (k := 30) (by decide) q1123 rfl dX10_item_26 ?_
    refine rw_i (rwV S hE hT hS hP hD hA (c_X10_wrong h) [0] rfl (by decide +kernel) lkX10_193 rfl ⟨(Nat.le_of_ble_eq_true rfl), (Nat.le_of_ble_eq_true rfl)⟩ 0 rfl rfl hl.1 rfl (Nat.le_of_ble_eq_true rfl) dX10_item_29 ⟨(Nat.zero_le _), (Nat.zero_le _)⟩) hP hD hS hA [0] rfl (by decide +kernel) (fun _ => rfl) (fun r29 w29_0 H locs h hP hD hS => ?_)
    try dsimp only at h
    have hP : va_P D vwCl (wX10_item cI cJ cS a_o a_base a_beats a_cells a_kind a_notes a_other a_pitch a_share a_space a_speed a_tell a_times a_words z_refused z_steps z_held z_sort z_size z_shown z_carried z_was z_kept z_cutSpace z_cutTimes z_cutOff z_trace v_stretches v_cars v_tunes v_along v_near v_borne v_tempo v_seed v_fault v_from v_at v_end v_told w29_0 v_culprit v_ran v_isKept f_base f_beats g_cells f_kind f_notes f_other f_pitch f_share f_space f_speed f_tell f_times f_words) H := hP
    have hD : va_D A (wX10_item cI cJ cS a_o a_base a_beats a_cells a_kind a_notes a_other a_pitch a_share a_space a_speed a_tell a_times a_words z_refused z_steps z_held z_sort z_size z_shown z_carried z_was z_kept z_cutSpace z_cutTimes z_cutOff z_trace v_stretches v_cars v_tunes v_along v_near v_borne v_tempo v_seed v_fault v_from v_at v_end v_told w29_0 v_culprit v_ran v_isKept f_base f_beats g_cells f_kind f_notes f_other f_pitch f_share f_space f_speed f_tell f_times f_words) := hD
    exact W.zret hx hb hr h.1 (fun t ht _ => ⟨⟨_, (v_stretches, v_cars, v_tunes, v_along, v_near, v_borne, v_tempo, v_at, v_told, w29_0, f_base, f_beats, f_kind, f_notes, f_other, f_pitch, f_share, f_space, f_speed, f_tell, f_times), rfl, h.2, hPt hP ht⟩, hS.F ht⟩) hS.2.2 dX10_item_32
set_option maxHeartbeats 4000000 in
set_option maxRecDepth 100000 in
theorem c_X10_item {l : Launch} {D : va_G} {cI cJ cS : ClassId} {ad adK : Nat → Nat} {a_o a_base a_beats a_cells a_kind a_notes a_other a_pitch a_share a_space a_speed a_tell a_times a_words : Nat} {z_refused z_steps z_held z_sort z_size z_shown z_carried z_was z_kept z_cutSpace z_cutTimes z_cutOff z_trace : Value} {v_stretches : Int32} {v_cars : Int32} {v_tunes : Int32} {v_along : Int32} {v_near : Int32} {v_borne : Int32} {v_tempo : Int32} {v_seed : Int32} {v_fault : Int32} {v_from : Int32} {v_at : Int32} {v_end : Int32} {v_told : Int32} {v_wrongAt : Int32} {v_culprit : Int32} {v_ran : Int32} {v_isKept : Int32} {f_base : Nat → Int32} {f_beats : Nat → Int32} {g_cells : Nat → Int64} {f_kind : Nat → Int32} {f_notes : Nat → Int32} {f_other : Nat → Int32} {f_pitch : Nat → Int32} {f_share : Nat → Int32} {f_space : Nat → Int32} {f_speed : Nat → Int32} {f_tell : Nat → Int32} {f_times : Nat → Int32} {f_words : Nat → Int32} {post : Int32 → Int32 → Int32 → Int32 → Int32 → Int32 → Int32 → Int32 → Int32 → Int32 → Int32 → (Nat → Int32) → (Nat → Int32) → (Nat → Int32) → (Nat → Int32) → (Nat → Int32) → (Nat → Int32) → (Nat → Int32) → (Nat → Int32) → (Nat → Int32) → (Nat → Int32) → (Nat → Int32) → Prop} (h : F_X10_item v_stretches v_cars v_tunes v_along v_near v_borne v_tempo v_from v_at v_end v_told v_wrongAt f_base f_beats g_cells f_kind f_notes f_other f_pitch f_share f_space f_speed f_tell f_times f_words post) {sz : Nat} : Met l yX10_item (Cond.code yX10_item cX10_item 6 (some (.boolean)) :: GW) (rmd 2 0 0) (PW D cI cJ cS ad adK [.ref a_o] (wX10_item cI cJ cS a_o a_base a_beats a_cells a_kind a_notes a_other a_pitch a_share a_space a_speed a_tell a_times a_words z_refused z_steps z_held z_sort z_size z_shown z_carried z_was z_kept z_cutSpace z_cutTimes z_cutOff z_trace v_stretches v_cars v_tunes v_along v_near v_borne v_tempo v_seed v_fault v_from v_at v_end v_told v_wrongAt v_culprit v_ran v_isKept f_base f_beats g_cells f_kind f_notes f_other f_pitch f_share f_space f_speed f_tell f_times f_words) sz) (va_Qi (fun r (u : Int32 × Int32 × Int32 × Int32 × Int32 × Int32 × Int32 × Int32 × Int32 × Int32 × (Nat → Int32) × (Nat → Int32) × (Nat → Int32) × (Nat → Int32) × (Nat → Int32) × (Nat → Int32) × (Nat → Int32) × (Nat → Int32) × (Nat → Int32) × (Nat → Int32) × (Nat → Int32)) => post r u.1 u.2.1 u.2.2.1 u.2.2.2.1 u.2.2.2.2.1 u.2.2.2.2.2.1 u.2.2.2.2.2.2.1 u.2.2.2.2.2.2.2.1 u.2.2.2.2.2.2.2.2.1 u.2.2.2.2.2.2.2.2.2.1 u.2.2.2.2.2.2.2.2.2.2.1 u.2.2.2.2.2.2.2.2.2.2.2.1 u.2.2.2.2.2.2.2.2.2.2.2.2.1 u.2.2.2.2.2.2.2.2.2.2.2.2.2.1 u.2.2.2.2.2.2.2.2.2.2.2.2.2.2.1 u.2.2.2.2.2.2.2.2.2.2.2.2.2.2.2.1 u.2.2.2.2.2.2.2.2.2.2.2.2.2.2.2.2.1 u.2.2.2.2.2.2.2.2.2.2.2.2.2.2.2.2.2.1 u.2.2.2.2.2.2.2.2.2.2.2.2.2.2.2.2.2.2.1 u.2.2.2.2.2.2.2.2.2.2.2.2.2.2.2.2.2.2.2.1 u.2.2.2.2.2.2.2.2.2.2.2.2.2.2.2.2.2.2.2.2) (fun u t => va_P D vwCl (wX10_item cI cJ cS a_o a_base a_beats a_cells a_kind a_notes a_other a_pitch a_share a_space a_speed a_tell a_times a_words z_refused z_steps z_held z_sort z_size z_shown z_carried z_was z_kept z_cutSpace z_cutTimes z_cutOff z_trace u.1 u.2.1 u.2.2.1 u.2.2.2.1 u.2.2.2.2.1 u.2.2.2.2.2.1 u.2.2.2.2.2.2.1 v_seed v_fault v_from u.2.2.2.2.2.2.2.1 v_end u.2.2.2.2.2.2.2.2.1 u.2.2.2.2.2.2.2.2.2.1 v_culprit v_ran v_isKept u.2.2.2.2.2.2.2.2.2.2.1 u.2.2.2.2.2.2.2.2.2.2.2.1 g_cells u.2.2.2.2.2.2.2.2.2.2.2.2.1 u.2.2.2.2.2.2.2.2.2.2.2.2.2.1 u.2.2.2.2.2.2.2.2.2.2.2.2.2.2.1 u.2.2.2.2.2.2.2.2.2.2.2.2.2.2.2.1 u.2.2.2.2.2.2.2.2.2.2.2.2.2.2.2.2.1 u.2.2.2.2.2.2.2.2.2.2.2.2.2.2.2.2.2.1 u.2.2.2.2.2.2.2.2.2.2.2.2.2.2.2.2.2.2.1 u.2.2.2.2.2.2.2.2.2.2.2.2.2.2.2.2.2.2.2.1 u.2.2.2.2.2.2.2.2.2.2.2.2.2.2.2.2.2.2.2.2 f_words) t.heap) (va_A (wX10_item cI cJ cS a_o a_base a_beats a_cells a_kind a_notes a_other a_pitch a_share a_space a_speed a_tell a_times a_words z_refused z_steps z_held z_sort z_size z_shown z_carried z_was z_kept z_cutSpace z_cutTimes z_cutOff z_trace v_stretches v_cars v_tunes v_along v_near v_borne v_tempo v_seed v_fault v_from v_at v_end v_told v_wrongAt v_culprit v_ran v_isKept f_base f_beats g_cells f_kind f_notes f_other f_pitch f_share f_space f_speed f_tell f_times f_words) sz)) 0 0 (va_A (wX10_item cI cJ cS a_o a_base a_beats a_cells a_kind a_notes a_other a_pitch a_share a_space a_speed a_tell a_times a_words z_refused z_steps z_held z_sort z_size z_shown z_carried z_was z_kept z_cutSpace z_cutTimes z_cutOff z_trace v_stretches v_cars v_tunes v_along v_near v_borne v_tempo v_seed v_fault v_from v_at v_end v_told v_wrongAt v_culprit v_ran v_isKept f_base f_beats g_cells f_kind f_notes f_other f_pitch f_share f_space f_speed f_tell f_times f_words) sz) := by
  refine Met.rw (Qc := fun A => (va_Qi (fun r (u : Int32 × Int32 × Int32 × Int32 × Int32 × Int32 × Int32 × Int32 × Int32 × Int32 × (Nat → Int32) × (Nat → Int32) × (Nat → Int32) × (Nat → Int32) × (Nat → Int32) × (Nat → Int32) × (Nat → Int32) × (Nat → Int32) × (Nat → Int32) × (Nat → Int32) × (Nat → Int32)) => post r u.1 u.2.1 u.2.2.1 u.2.2.2.1 u.2.2.2.2.1 u.2.2.2.2.2.1 u.2.2.2.2.2.2.1 u.2.2.2.2.2.2.2.1 u.2.2.2.2.2.2.2.2.1 u.2.2.2.2.2.2.2.2.2.1 u.2.2.2.2.2.2.2.2.2.2.1 u.2.2.2.2.2.2.2.2.2.2.2.1 u.2.2.2.2.2.2.2.2.2.2.2.2.1 u.2.2.2.2.2.2.2.2.2.2.2.2.2.1 u.2.2.2.2.2.2.2.2.2.2.2.2.2.2.1 u.2.2.2.2.2.2.2.2.2.2.2.2.2.2.2.1 u.2.2.2.2.2.2.2.2.2.2.2.2.2.2.2.2.1 u.2.2.2.2.2.2.2.2.2.2.2.2.2.2.2.2.2.1 u.2.2.2.2.2.2.2.2.2.2.2.2.2.2.2.2.2.2.1 u.2.2.2.2.2.2.2.2.2.2.2.2.2.2.2.2.2.2.2.1 u.2.2.2.2.2.2.2.2.2.2.2.2.2.2.2.2.2.2.2.2) (fun u t => va_P D vwCl (wX10_item cI cJ cS a_o a_base a_beats a_cells a_kind a_notes a_other a_pitch a_share a_space a_speed a_tell a_times a_words z_refused z_steps z_held z_sort z_size z_shown z_carried z_was z_kept z_cutSpace z_cutTimes z_cutOff z_trace u.1 u.2.1 u.2.2.1 u.2.2.2.1 u.2.2.2.2.1 u.2.2.2.2.2.1 u.2.2.2.2.2.2.1 v_seed v_fault v_from u.2.2.2.2.2.2.2.1 v_end u.2.2.2.2.2.2.2.2.1 u.2.2.2.2.2.2.2.2.2.1 v_culprit v_ran v_isKept u.2.2.2.2.2.2.2.2.2.2.1 u.2.2.2.2.2.2.2.2.2.2.2.1 g_cells u.2.2.2.2.2.2.2.2.2.2.2.2.1 u.2.2.2.2.2.2.2.2.2.2.2.2.2.1 u.2.2.2.2.2.2.2.2.2.2.2.2.2.2.1 u.2.2.2.2.2.2.2.2.2.2.2.2.2.2.2.1 u.2.2.2.2.2.2.2.2.2.2.2.2.2.2.2.2.1 u.2.2.2.2.2.2.2.2.2.2.2.2.2.2.2.2.2.1 u.2.2.2.2.2.2.2.2.2.2.2.2.2.2.2.2.2.2.1 u.2.2.2.2.2.2.2.2.2.2.2.2.2.2.2.2.2.2.2.1 u.2.2.2.2.2.2.2.2.2.2.2.2.2.2.2.2.2.2.2.2 f_words) t.heap) A)) (by decide) (Nat.le_of_ble_eq_true rfl) (fun p e s m args below meth c ls A (S : CallFix p m c cX10_item 6 s args GW "RoadThatSingsModel") hE hT hP hD hA hS hr hlocks hname hl => ?_)
  have hS0 := hS
  have hx := S.1
  have hb := S.2.1
  have hl : lv_has ls 6 [(0, .ref a_o)] := hl
  unfold F_X10_item at h
  refine lv_iconst (v := 0) hx hb dX10_item_0 (by decide) ?_
  refine lv_istore_n (lv' := [(1, .int 0), (0, .ref a_o)]) hx hb dX10_item_1 rfl hl (by decide) rfl (fun ls hl => ?_)
  obtain ⟨n, h⟩ := h
  refine w_X10_item_2 S hE hT hA hr hlocks n _ _ _ _ _ _ _ _ _ _ _ _ _ _ _ _ _ _ _ _ _ _ _ _ _ h hP hD hS (lv_sub hl [1, 0] rfl)
/-! X10_keeps -/
abbrev wX10_keeps (cI cJ cS : ClassId) (a_o a_p1 a_p3 : Nat) (z_refused z_steps z_kind z_space z_other z_times z_speed z_base z_share z_notes z_pitch z_beats z_held z_sort z_size z_shown z_cells z_carried z_words z_tell z_was z_kept z_cutSpace z_cutTimes z_cutOff z_trace : Value) (n_p1 n_p3 : Nat) (v_stretches : Int32) (v_cars : Int32) (v_tunes : Int32) (v_along : Int32) (v_near : Int32) (v_borne : Int32) (v_tempo : Int32) (v_seed : Int32) (v_fault : Int32) (v_from : Int32) (v_at : Int32) (v_end : Int32) (v_told : Int32) (v_wrongAt : Int32) (v_culprit : Int32) (v_ran : Int32) (v_isKept : Int32) (f_p1 : Nat → Int32) (f_p3 : Nat → Int32) : va_W := [(a_o, .inr (9, [.int v_stretches, .int v_cars, .int v_tunes, .int v_along, .int v_near, .int v_borne, .int v_tempo, .int v_seed, .int v_fault, z_refused, z_steps, z_kind, z_space, z_other, z_times, z_speed, z_base, z_share, z_notes, z_pitch, z_beats, z_held, z_sort, z_size, z_shown, z_cells, z_carried, z_words, z_tell, .int v_from, .int v_at, .int v_end, .int v_told, .int v_wrongAt, z_was, z_kept, .int v_culprit, z_cutSpace, z_cutTimes, z_cutOff, z_trace, .int v_ran, .int v_isKept])), (a_p1, .inl (cI, n_p1, .inl f_p1)), (a_p3, .inl (cI, n_p3, .inl f_p3))]
def F_X10_keeps_39 (k3 : Int32 → (Nat → Int32) → (Nat → Int32) → Prop) (x2 : Int32) (x4 : Int32) (x5 : Int32) (x6 : Int32) (f_p1 : Nat → Int32) (f_p3 : Nat → Int32) : Prop := (∀ x6_39 : Int32, x6_39 = x6 + 1 → k3 x6_39 f_p1 f_p3)
def L_X10_keeps_3 (n_p1 : Nat) (n_p3 : Nat) (x2 : Int32) (x4 : Int32) (x5 : Int32) (post : Int32 → (Nat → Int32) → (Nat → Int32) → Prop) : Nat → Int32 → (Nat → Int32) → (Nat → Int32) → Prop
  | 0, _, _, _ => False
  | n3 + 1, x6, f_p1, f_p3 => ((x2 ≤ x6 → post (x4 + x2) f_p1 f_p3) ∧ (¬ x2 ≤ x6 → ((x5 = 0 → (vp_in x6 n_p1 ∧ (vp_in (x4 + x6) n_p3 ∧ F_X10_keeps_39 (fun x6 f_p1 f_p3 => L_X10_keeps_3 n_p1 n_p3 x2 x4 x5 post n3 x6 f_p1 f_p3) x2 x4 x5 x6 f_p1 (upd f_p3 (x4 + x6).toNatClampNeg (f_p1 x6.toNatClampNeg))))) ∧ (¬ x5 = 0 → (vp_in (x4 + x6) n_p3 ∧ (vp_in x6 n_p1 ∧ F_X10_keeps_39 (fun x6 f_p1 f_p3 => L_X10_keeps_3 n_p1 n_p3 x2 x4 x5 post n3 x6 f_p1 f_p3) x2 x4 x5 x6 (upd f_p1 x6.toNatClampNeg (f_p3 (x4 + x6).toNatClampNeg)) f_p3))))))
def F_X10_keeps (n_p1 : Nat) (n_p3 : Nat) (f_p1 : Nat → Int32) (f_p3 : Nat → Int32) (x2 : Int32) (x4 : Int32) (x5 : Int32) (post : Int32 → (Nat → Int32) → (Nat → Int32) → Prop) : Prop := (∃ n3 : Nat, L_X10_keeps_3 n_p1 n_p3 x2 x4 x5 post n3 0 f_p1 f_p3)
set_option maxHeartbeats 4000000 in
set_option maxRecDepth 100000 in
theorem w_X10_keeps_39 {l : Launch} {D : va_G} {cI cJ cS : ClassId} {ad adK : Nat → Nat} {a_o a_p1 a_p3 : Nat} {z_refused z_steps z_kind z_space z_other z_times z_speed z_base z_share z_notes z_pitch z_beats z_held z_sort z_size z_shown z_cells z_carried z_words z_tell z_was z_kept z_cutSpace z_cutTimes z_cutOff z_trace : Value} {n_p1 n_p3 : Nat} {v_stretches : Int32} {v_cars : Int32} {v_tunes : Int32} {v_along : Int32} {v_near : Int32} {v_borne : Int32} {v_tempo : Int32} {v_seed : Int32} {v_fault : Int32} {v_from : Int32} {v_at : Int32} {v_end : Int32} {v_told : Int32} {v_wrongAt : Int32} {v_culprit : Int32} {v_ran : Int32} {v_isKept : Int32} {f_p1 : Nat → Int32} {f_p3 : Nat → Int32} {x2 : Int32} {x4 : Int32} {x5 : Int32} {x6 : Int32} {post : Int32 → (Nat → Int32) → (Nat → Int32) → Prop} {k3 : Int32 → (Nat → Int32) → (Nat → Int32) → Prop} {p : Program} {e : Env} {s : State} {m : MethodId} {args : Array Value} {below : List Frame} {meth : Method} {c : Code} {A : Nat → Prop} (S : CallFix p m c cX10_keeps 7 s args GW "RoadThatSingsModel") (hE : EN D cI cJ cS s) (hT : ST ad adK A s s.heap) (hA : ∀ q : Nat, s.heap.size ≤ q → A q) (hr : meth.sig.returnType = (some (.int))) (hlocks : meth.locks = false) (hk3 : ∀ (x6 : Int32) (f_p1 : Nat → Int32) (f_p3 : Nat → Int32) (H : Heap) (locs : List Loc) (ls : Array Slot), k3 x6 f_p1 f_p3 → va_P D vwCl (wX10_keeps cI cJ cS a_o a_p1 a_p3 z_refused z_steps z_kind z_space z_other z_times z_speed z_base z_share z_notes z_pitch z_beats z_held z_sort z_size z_shown z_cells z_carried z_words z_tell z_was z_kept z_cutSpace z_cutTimes z_cutOff z_trace n_p1 n_p3 v_stretches v_cars v_tunes v_along v_near v_borne v_tempo v_seed v_fault v_from v_at v_end v_told v_wrongAt v_culprit v_ran v_isKept f_p1 f_p3) H → va_D A (wX10_keeps cI cJ cS a_o a_p1 a_p3 z_refused z_steps z_kind z_space z_other z_times z_speed z_base z_share z_notes z_pitch z_beats z_held z_sort z_size z_shown z_cells z_carried z_words z_tell z_was z_kept z_cutSpace z_cutTimes z_cutOff z_trace n_p1 n_p3 v_stretches v_cars v_tunes v_along v_near v_borne v_tempo v_seed v_fault v_from v_at v_end v_told v_wrongAt v_culprit v_ran v_isKept f_p1 f_p3) → va_S A s.heap H locs → lv_has ls 7 [(1, .ref a_p1), (2, .int x2), (3, .ref a_p3), (4, .int x4), (5, .int x5), (6, .int x6)] → W p l e (rmd 0 0 0) s m args below meth c H locs 0 0 (MQ below (va_Qi (fun r (u : (Nat → Int32) × (Nat → Int32)) => post r u.1 u.2) (fun u t => va_P D vwCl (wX10_keeps cI cJ cS a_o a_p1 a_p3 z_refused z_steps z_kind z_space z_other z_times z_speed z_base z_share z_notes z_pitch z_beats z_held z_sort z_size z_shown z_cells z_carried z_words z_tell z_was z_kept z_cutSpace z_cutTimes z_cutOff z_trace n_p1 n_p3 v_stretches v_cars v_tunes v_along v_near v_borne v_tempo v_seed v_fault v_from v_at v_end v_told v_wrongAt v_culprit v_ran v_isKept u.1 u.2) t.heap) A) args s 0 0 A) (F0 m 3 ls [])) : ∀ (H : Heap) (locs : List Loc) (ls : Array Slot), F_X10_keeps_39 k3 x2 x4 x5 x6 f_p1 f_p3 → va_P D vwCl (wX10_keeps cI cJ cS a_o a_p1 a_p3 z_refused z_steps z_kind z_space z_other z_times z_speed z_base z_share z_notes z_pitch z_beats z_held z_sort z_size z_shown z_cells z_carried z_words z_tell z_was z_kept z_cutSpace z_cutTimes z_cutOff z_trace n_p1 n_p3 v_stretches v_cars v_tunes v_along v_near v_borne v_tempo v_seed v_fault v_from v_at v_end v_told v_wrongAt v_culprit v_ran v_isKept f_p1 f_p3) H → va_D A (wX10_keeps cI cJ cS a_o a_p1 a_p3 z_refused z_steps z_kind z_space z_other z_times z_speed z_base z_share z_notes z_pitch z_beats z_held z_sort z_size z_shown z_cells z_carried z_words z_tell z_was z_kept z_cutSpace z_cutTimes z_cutOff z_trace n_p1 n_p3 v_stretches v_cars v_tunes v_along v_near v_borne v_tempo v_seed v_fault v_from v_at v_end v_told v_wrongAt v_culprit v_ran v_isKept f_p1 f_p3) → va_S A s.heap H locs → lv_has ls 7 [(1, .ref a_p1), (2, .int x2), (3, .ref a_p3), (4, .int x4), (5, .int x5), (6, .int x6)] → W p l e (rmd 0 0 0) s m args below meth c H locs 0 0 (MQ below (va_Qi (fun r (u : (Nat → Int32) × (Nat → Int32)) => post r u.1 u.2) (fun u t => va_P D vwCl (wX10_keeps cI cJ cS a_o a_p1 a_p3 z_refused z_steps z_kind z_space z_other z_times z_speed z_base z_share z_notes z_pitch z_beats z_held z_sort z_size z_shown z_cells z_carried z_words z_tell z_was z_kept z_cutSpace z_cutTimes z_cutOff z_trace n_p1 n_p3 v_stretches v_cars v_tunes v_along v_near v_borne v_tempo v_seed v_fault v_from v_at v_end v_told v_wrongAt v_culprit v_ran v_isKept u.1 u.2) t.heap) A) args s 0 0 A) (F0 m 39 ls []) := by
  intro  H locs ls h hP hD hS hl
  unfold F_X10_keeps_39 at h
  have hx := S.1
  have hb := S.2.1
  obtain ⟨x6_39, ex6_39⟩ : ∃ z : Int32, z = x6 + 1 := ⟨_, rfl⟩
  have h := h _ ex6_39
  refine lv_iinc (v := x6_39) (lv' := [(6, .int x6_39), (1, .ref a_p1), (2, .int x2), (3, .ref a_p3), (4, .int x4), (5, .int x5)]) hx hb dX10_keeps_39 hl (k := 5) rfl (by rw [ex6_39]; rfl) (by decide) rfl (fun ls hl => ?_)
  refine lv_goto (tgt := 3) hx hb dX10_keeps_42 (by decide) ?_
  exact hk3 _ _ _ _ _ _ h hP hD hS (lv_sub hl [1, 2, 3, 4, 5, 0] rfl)
set_option maxHeartbeats 4000000 in
set_option maxRecDepth 100000 in
theorem w_X10_keeps_3 {l : Launch} {D : va_G} {cI cJ cS : ClassId} {ad adK : Nat → Nat} {a_o a_p1 a_p3 : Nat} {z_refused z_steps z_kind z_space z_other z_times z_speed z_base z_share z_notes z_pitch z_beats z_held z_sort z_size z_shown z_cells z_carried z_words z_tell z_was z_kept z_cutSpace z_cutTimes z_cutOff z_trace : Value} {n_p1 n_p3 : Nat} {v_stretches : Int32} {v_cars : Int32} {v_tunes : Int32} {v_along : Int32} {v_near : Int32} {v_borne : Int32} {v_tempo : Int32} {v_seed : Int32} {v_fault : Int32} {v_from : Int32} {v_at : Int32} {v_end : Int32} {v_told : Int32} {v_wrongAt : Int32} {v_culprit : Int32} {v_ran : Int32} {v_isKept : Int32} {x2 : Int32} {x4 : Int32} {x5 : Int32} {post : Int32 → (Nat → Int32) → (Nat → Int32) → Prop} {p : Program} {e : Env} {s : State} {m : MethodId} {args : Array Value} {below : List Frame} {meth : Method} {c : Code} {A : Nat → Prop} (S : CallFix p m c cX10_keeps 7 s args GW "RoadThatSingsModel") (hE : EN D cI cJ cS s) (hT : ST ad adK A s s.heap) (hA : ∀ q : Nat, s.heap.size ≤ q → A q) (hr : meth.sig.returnType = (some (.int))) (hlocks : meth.locks = false) : ∀ n : Nat, ∀ (x6 : Int32) (f_p1 : Nat → Int32) (f_p3 : Nat → Int32) (H : Heap) (locs : List Loc) (ls : Array Slot), L_X10_keeps_3 n_p1 n_p3 x2 x4 x5 post n x6 f_p1 f_p3 → va_P D vwCl (wX10_keeps cI cJ cS a_o a_p1 a_p3 z_refused z_steps z_kind z_space z_other z_times z_speed z_base z_share z_notes z_pitch z_beats z_held z_sort z_size z_shown z_cells z_carried z_words z_tell z_was z_kept z_cutSpace z_cutTimes z_cutOff z_trace n_p1 n_p3 v_stretches v_cars v_tunes v_along v_near v_borne v_tempo v_seed v_fault v_from v_at v_end v_told v_wrongAt v_culprit v_ran v_isKept f_p1 f_p3) H → va_D A (wX10_keeps cI cJ cS a_o a_p1 a_p3 z_refused z_steps z_kind z_space z_other z_times z_speed z_base z_share z_notes z_pitch z_beats z_held z_sort z_size z_shown z_cells z_carried z_words z_tell z_was z_kept z_cutSpace z_cutTimes z_cutOff z_trace n_p1 n_p3 v_stretches v_cars v_tunes v_along v_near v_borne v_tempo v_seed v_fault v_from v_at v_end v_told v_wrongAt v_culprit v_ran v_isKept f_p1 f_p3) → va_S A s.heap H locs → lv_has ls 7 [(1, .ref a_p1), (2, .int x2), (3, .ref a_p3), (4, .int x4), (5, .int x5), (6, .int x6)] → W p l e (rmd 0 0 0) s m args below meth c H locs 0 0 (MQ below (va_Qi (fun r (u : (Nat → Int32) × (Nat → Int32)) => post r u.1 u.2) (fun u t => va_P D vwCl (wX10_keeps cI cJ cS a_o a_p1 a_p3 z_refused z_steps z_kind z_space z_other z_times z_speed z_base z_share z_notes z_pitch z_beats z_held z_sort z_size z_shown z_cells z_carried z_words z_tell z_was z_kept z_cutSpace z_cutTimes z_cutOff z_trace n_p1 n_p3 v_stretches v_cars v_tunes v_along v_near v_borne v_tempo v_seed v_fault v_from v_at v_end v_told v_wrongAt v_culprit v_ran v_isKept u.1 u.2) t.heap) A) args s 0 0 A) (F0 m 3 ls []) := by
  intro n
  induction n with
  | zero =>
    intro x6 f_p1 f_p3 H locs ls h hP hD hS hl
    exact h.elim
  | succ n ih =>
    intro x6 f_p1 f_p3 H locs ls h hP hD hS hl
    rw [L_X10_keeps_3] at h
    have hx := S.1
    have hb := S.2.1
    refine lv_iload hx hb dX10_keeps_3 (lv_at hl 5 rfl) ?_
    refine lv_iload_n hx hb dX10_keeps_5 rfl (lv_at hl 1 rfl) ?_
    refine lv_icmp_ge (tgt := 45) hx hb dX10_keeps_6 (by decide) (fun hc => ?_) (fun hc => ?_)
    · have h := h.1 hc
      refine lv_iload hx hb dX10_keeps_45 (lv_at hl 3 rfl) ?_
      refine lv_iload_n hx hb dX10_keeps_47 rfl (lv_at hl 1 rfl) ?_
      refine lv_iadd hx hb dX10_keeps_48 ?_
      exact W.iret hx hb hr (fun t ht _ => ⟨⟨_, (f_p1, f_p3), rfl, h, hPt hP ht⟩, hS.F ht⟩) hS.2.2 dX10_keeps_49
    have h := h.2 hc
    refine lv_iload hx hb dX10_keeps_9 (lv_at hl 4 rfl) ?_
    refine lv_if_eq (tgt := 28) hx hb dX10_keeps_11 (by decide) (fun hc => ?_) (fun hc => ?_)
    · have h := h.1 hc
      refine lv_aload_n hx hb dX10_keeps_28 rfl (lv_at hl 2 rfl) ?_
      refine lv_iload hx hb dX10_keeps_29 (lv_at hl 3 rfl) ?_
      refine lv_iload hx hb dX10_keeps_31 (lv_at hl 5 rfl) ?_
      refine lv_iadd hx hb dX10_keeps_33 ?_
      refine lv_aload_n hx hb dX10_keeps_34 rfl (lv_at hl 0 rfl) ?_
      refine lv_iload hx hb dX10_keeps_35 (lv_at hl 5 rfl) ?_
      obtain ⟨hi, h⟩ := h
      refine ial S hE hP 1 rfl hi dX10_keeps_37 ?_
      obtain ⟨hi, h⟩ := h
      refine ias S hE hP hD hS 2 rfl hi dX10_keeps_38 (fun H locs hP hD hS => ?_)
      have hP : va_P D vwCl (wX10_keeps cI cJ cS a_o a_p1 a_p3 z_refused z_steps z_kind z_space z_other z_times z_speed z_base z_share z_notes z_pitch z_beats z_held z_sort z_size z_shown z_cells z_carried z_words z_tell z_was z_kept z_cutSpace z_cutTimes z_cutOff z_trace n_p1 n_p3 v_stretches v_cars v_tunes v_along v_near v_borne v_tempo v_seed v_fault v_from v_at v_end v_told v_wrongAt v_culprit v_ran v_isKept f_p1 (upd f_p3 (x4 + x6).toNatClampNeg (f_p1 x6.toNatClampNeg))) H := hP
      have hD : va_D A (wX10_keeps cI cJ cS a_o a_p1 a_p3 z_refused z_steps z_kind z_space z_other z_times z_speed z_base z_share z_notes z_pitch z_beats z_held z_sort z_size z_shown z_cells z_carried z_words z_tell z_was z_kept z_cutSpace z_cutTimes z_cutOff z_trace n_p1 n_p3 v_stretches v_cars v_tunes v_along v_near v_borne v_tempo v_seed v_fault v_from v_at v_end v_told v_wrongAt v_culprit v_ran v_isKept f_p1 (upd f_p3 (x4 + x6).toNatClampNeg (f_p1 x6.toNatClampNeg))) := hD
      refine w_X10_keeps_39 S hE hT hA hr hlocks ih _ _ _ h hP hD hS (lv_sub hl [0, 1, 2, 3, 4, 5] rfl)
    have h := h.2 hc
    refine lv_aload_n hx hb dX10_keeps_14 rfl (lv_at hl 0 rfl) ?_
    refine lv_iload hx hb dX10_keeps_15 (lv_at hl 5 rfl) ?_
    refine lv_aload_n hx hb dX10_keeps_17 rfl (lv_at hl 2 rfl) ?_
    refine lv_iload hx hb dX10_keeps_18 (lv_at hl 3 rfl) ?_
    refine lv_iload hx hb dX10_keeps_20 (lv_at hl 5 rfl) ?_
    refine lv_iadd hx hb dX10_keeps_22 ?_
    obtain ⟨hi, h⟩ := h
    refine ial S hE hP 2 rfl hi dX10_keeps_23 ?_
    obtain ⟨hi, h⟩ := h
    refine ias S hE hP hD hS 1 rfl hi dX10_keeps_24 (fun H locs hP hD hS => ?_)
    have hP : va_P D vwCl (wX10_keeps cI cJ cS a_o a_p1 a_p3 z_refused z_steps z_kind z_space z_other z_times z_speed z_base z_share z_notes z_pitch z_beats z_held z_sort z_size z_shown z_cells z_carried z_words z_tell z_was z_kept z_cutSpace z_cutTimes z_cutOff z_trace n_p1 n_p3 v_stretches v_cars v_tunes v_along v_near v_borne v_tempo v_seed v_fault v_from v_at v_end v_told v_wrongAt v_culprit v_ran v_isKept (upd f_p1 x6.toNatClampNeg (f_p3 (x4 + x6).toNatClampNeg)) f_p3) H := hP
    have hD : va_D A (wX10_keeps cI cJ cS a_o a_p1 a_p3 z_refused z_steps z_kind z_space z_other z_times z_speed z_base z_share z_notes z_pitch z_beats z_held z_sort z_size z_shown z_cells z_carried z_words z_tell z_was z_kept z_cutSpace z_cutTimes z_cutOff z_trace n_p1 n_p3 v_stretches v_cars v_tunes v_along v_near v_borne v_tempo v_seed v_fault v_from v_at v_end v_told v_wrongAt v_culprit v_ran v_isKept (upd f_p1 x6.toNatClampNeg (f_p3 (x4 + x6).toNatClampNeg)) f_p3) := hD
    refine lv_goto (tgt := 39) hx hb dX10_keeps_25 (by decide) ?_
    refine w_X10_keeps_39 S hE hT hA hr hlocks ih _ _ _ h hP hD hS (lv_sub hl [0, 1, 2, 3, 4, 5] rfl)
set_option maxHeartbeats 4000000 in
set_option maxRecDepth 100000 in
theorem c_X10_keeps {l : Launch} {D : va_G} {cI cJ cS : ClassId} {ad adK : Nat → Nat} {a_o a_p1 a_p3 : Nat} {z_refused z_steps z_kind z_space z_other z_times z_speed z_base z_share z_notes z_pitch z_beats z_held z_sort z_size z_shown z_cells z_carried z_words z_tell z_was z_kept z_cutSpace z_cutTimes z_cutOff z_trace : Value} {n_p1 n_p3 : Nat} {v_stretches : Int32} {v_cars : Int32} {v_tunes : Int32} {v_along : Int32} {v_near : Int32} {v_borne : Int32} {v_tempo : Int32} {v_seed : Int32} {v_fault : Int32} {v_from : Int32} {v_at : Int32} {v_end : Int32} {v_told : Int32} {v_wrongAt : Int32} {v_culprit : Int32} {v_ran : Int32} {v_isKept : Int32} {f_p1 : Nat → Int32} {f_p3 : Nat → Int32} {x2 : Int32} {x4 : Int32} {x5 : Int32} {post : Int32 → (Nat → Int32) → (Nat → Int32) → Prop} (h : F_X10_keeps n_p1 n_p3 f_p1 f_p3 x2 x4 x5 post) {sz : Nat} : Met l yX10_keeps (Cond.code yX10_keeps cX10_keeps 7 (some (.int)) :: GW) (rmd 0 0 0) (PW D cI cJ cS ad adK [.ref a_o, .ref a_p1, .int x2, .ref a_p3, .int x4, .int x5] (wX10_keeps cI cJ cS a_o a_p1 a_p3 z_refused z_steps z_kind z_space z_other z_times z_speed z_base z_share z_notes z_pitch z_beats z_held z_sort z_size z_shown z_cells z_carried z_words z_tell z_was z_kept z_cutSpace z_cutTimes z_cutOff z_trace n_p1 n_p3 v_stretches v_cars v_tunes v_along v_near v_borne v_tempo v_seed v_fault v_from v_at v_end v_told v_wrongAt v_culprit v_ran v_isKept f_p1 f_p3) sz) (va_Qi (fun r (u : (Nat → Int32) × (Nat → Int32)) => post r u.1 u.2) (fun u t => va_P D vwCl (wX10_keeps cI cJ cS a_o a_p1 a_p3 z_refused z_steps z_kind z_space z_other z_times z_speed z_base z_share z_notes z_pitch z_beats z_held z_sort z_size z_shown z_cells z_carried z_words z_tell z_was z_kept z_cutSpace z_cutTimes z_cutOff z_trace n_p1 n_p3 v_stretches v_cars v_tunes v_along v_near v_borne v_tempo v_seed v_fault v_from v_at v_end v_told v_wrongAt v_culprit v_ran v_isKept u.1 u.2) t.heap) (va_A (wX10_keeps cI cJ cS a_o a_p1 a_p3 z_refused z_steps z_kind z_space z_other z_times z_speed z_base z_share z_notes z_pitch z_beats z_held z_sort z_size z_shown z_cells z_carried z_words z_tell z_was z_kept z_cutSpace z_cutTimes z_cutOff z_trace n_p1 n_p3 v_stretches v_cars v_tunes v_along v_near v_borne v_tempo v_seed v_fault v_from v_at v_end v_told v_wrongAt v_culprit v_ran v_isKept f_p1 f_p3) sz)) 0 0 (va_A (wX10_keeps cI cJ cS a_o a_p1 a_p3 z_refused z_steps z_kind z_space z_other z_times z_speed z_base z_share z_notes z_pitch z_beats z_held z_sort z_size z_shown z_cells z_carried z_words z_tell z_was z_kept z_cutSpace z_cutTimes z_cutOff z_trace n_p1 n_p3 v_stretches v_cars v_tunes v_along v_near v_borne v_tempo v_seed v_fault v_from v_at v_end v_told v_wrongAt v_culprit v_ran v_isKept f_p1 f_p3) sz) := by
  refine Met.rw (Qc := fun A => (va_Qi (fun r (u : (Nat → Int32) × (Nat → Int32)) => post r u.1 u.2) (fun u t => va_P D vwCl (wX10_keeps cI cJ cS a_o a_p1 a_p3 z_refused z_steps z_kind z_space z_other z_times z_speed z_base z_share z_notes z_pitch z_beats z_held z_sort z_size z_shown z_cells z_carried z_words z_tell z_was z_kept z_cutSpace z_cutTimes z_cutOff z_trace n_p1 n_p3 v_stretches v_cars v_tunes v_along v_near v_borne v_tempo v_seed v_fault v_from v_at v_end v_told v_wrongAt v_culprit v_ran v_isKept u.1 u.2) t.heap) A)) (by decide) (Nat.le_of_ble_eq_true rfl) (fun p e s m args below meth c ls A (S : CallFix p m c cX10_keeps 7 s args GW "RoadThatSingsModel") hE hT hP hD hA hS hr hlocks hname hl => ?_)
  have hS0 := hS
  have hx := S.1
  have hb := S.2.1
  have hl : lv_has ls 7 [(0, .ref a_o), (1, .ref a_p1), (2, .int x2), (3, .ref a_p3), (4, .int x4), (5, .int x5)] := hl
  unfold F_X10_keeps at h
  refine lv_iconst (v := 0) hx hb dX10_keeps_0 (by decide) ?_
  refine lv_istore (lv' := [(6, .int 0), (0, .ref a_o), (1, .ref a_p1), (2, .int x2), (3, .ref a_p3), (4, .int x4), (5, .int x5)]) hx hb dX10_keeps_1 hl (by decide) rfl (fun ls hl => ?_)
  obtain ⟨n, h⟩ := h
  refine w_X10_keeps_3 S hE hT hA hr hlocks n _ _ _ _ _ _ h hP hD hS (lv_sub hl [2, 3, 4, 5, 6, 0] rfl)
/-! X10_all -/
abbrev wX10_all (cI cJ cS : ClassId) (a_o a_base a_beats a_kind a_notes a_other a_p1 a_pitch a_share a_space a_speed a_times : Nat) (z_refused z_steps z_held z_sort z_size z_shown z_cells z_carried z_words z_tell z_was z_kept z_cutSpace z_cutTimes z_cutOff z_trace : Value) (n_p1 : Nat) (v_stretches : Int32) (v_cars : Int32) (v_tunes : Int32) (v_along : Int32) (v_near : Int32) (v_borne : Int32) (v_tempo : Int32) (v_seed : Int32) (v_fault : Int32) (v_from : Int32) (v_at : Int32) (v_end : Int32) (v_told : Int32) (v_wrongAt : Int32) (v_culprit : Int32) (v_ran : Int32) (v_isKept : Int32) (f_base : Nat → Int32) (f_beats : Nat → Int32) (f_kind : Nat → Int32) (f_notes : Nat → Int32) (f_other : Nat → Int32) (f_p1 : Nat → Int32) (f_pitch : Nat → Int32) (f_share : Nat → Int32) (f_space : Nat → Int32) (f_speed : Nat → Int32) (f_times : Nat → Int32) : va_W := [(a_o, .inr (9, [.int v_stretches, .int v_cars, .int v_tunes, .int v_along, .int v_near, .int v_borne, .int v_tempo, .int v_seed, .int v_fault, z_refused, z_steps, .ref a_kind, .ref a_space, .ref a_other, .ref a_times, .ref a_speed, .ref a_base, .ref a_share, .ref a_notes, .ref a_pitch, .ref a_beats, z_held, z_sort, z_size, z_shown, z_cells, z_carried, z_words, z_tell, .int v_from, .int v_at, .int v_end, .int v_told, .int v_wrongAt, z_was, z_kept, .int v_culprit, z_cutSpace, z_cutTimes, z_cutOff, z_trace, .int v_ran, .int v_isKept])), (a_base, .inl (cI, 6, .inl f_base)), (a_beats, .inl (cI, 72, .inl f_beats)), (a_kind, .inl (cI, 16, .inl f_kind)), (a_notes, .inl (cI, 6, .inl f_notes)), (a_other, .inl (cI, 16, .inl f_other)), (a_p1, .inl (cI, n_p1, .inl f_p1)), (a_pitch, .inl (cI, 72, .inl f_pitch)), (a_share, .inl (cI, 6, .inl f_share)), (a_space, .inl (cI, 16, .inl f_space)), (a_speed, .inl (cI, 6, .inl f_speed)), (a_times, .inl (cI, 16, .inl f_times))]
def F_X10_all (n_p1 : Nat) (v_stretches : Int32) (v_cars : Int32) (v_tunes : Int32) (v_along : Int32) (v_near : Int32) (v_borne : Int32) (v_tempo : Int32) (v_seed : Int32) (f_base : Nat → Int32) (f_beats : Nat → Int32) (f_kind : Nat → Int32) (f_notes : Nat → Int32) (f_other : Nat → Int32) (f_p1 : Nat → Int32) (f_pitch : Nat → Int32) (f_share : Nat → Int32) (f_space : Nat → Int32) (f_speed : Nat → Int32) (f_times : Nat → Int32) (x2 : Int32) (post : Int32 → Int32 → Int32 → Int32 → Int32 → Int32 → Int32 → Int32 → (Nat → Int32) → (Nat → Int32) → (Nat → Int32) → (Nat → Int32) → (Nat → Int32) → (Nat → Int32) → (Nat → Int32) → (Nat → Int32) → (Nat → Int32) → (Nat → Int32) → (Nat → Int32) → Prop) : Prop := (F_X10_keeps 16 n_p1 f_kind f_p1 16 0 x2 (fun r10 w10_0 w10_1 => (F_X10_keeps 16 n_p1 f_space w10_1 16 r10 x2 (fun r24 w24_0 w24_1 => (F_X10_keeps 16 n_p1 f_other w24_1 16 r24 x2 (fun r38 w38_0 w38_1 => (F_X10_keeps 16 n_p1 f_times w38_1 16 r38 x2 (fun r52 w52_0 w52_1 => (F_X10_keeps 6 n_p1 f_speed w52_1 6 r52 x2 (fun r66 w66_0 w66_1 => (F_X10_keeps 6 n_p1 f_base w66_1 6 r66 x2 (fun r80 w80_0 w80_1 => (F_X10_keeps 6 n_p1 f_share w80_1 6 r80 x2 (fun r94 w94_0 w94_1 => (F_X10_keeps 6 n_p1 f_notes w94_1 6 r94 x2 (fun r108 w108_0 w108_1 => (F_X10_keeps 72 n_p1 f_pitch w108_1 72 r108 x2 (fun r122 w122_0 w122_1 => (F_X10_keeps 72 n_p1 f_beats w122_1 72 r122 x2 (fun r136 w136_0 w136_1 => ((x2 = 0 → (vp_in r136 n_p1 ∧ (vp_in (r136 + 1) n_p1 ∧ (vp_in (r136 + 2) n_p1 ∧ (vp_in (r136 + 3) n_p1 ∧ (vp_in (r136 + 4) n_p1 ∧ (vp_in (r136 + 5) n_p1 ∧ (vp_in (r136 + 6) n_p1 ∧ (vp_in (r136 + 7) n_p1 ∧ post v_stretches v_cars v_tunes v_along v_near v_borne v_tempo v_seed w80_0 w136_0 w10_0 w108_0 w38_0 (upd (upd (upd (upd (upd (upd (upd (upd w136_1 r136.toNatClampNeg v_stretches) (r136 + 1).toNatClampNeg v_cars) (r136 + 2).toNatClampNeg v_tunes) (r136 + 3).toNatClampNeg v_along) (r136 + 4).toNatClampNeg v_near) (r136 + 5).toNatClampNeg v_borne) (r136 + 6).toNatClampNeg v_tempo) (r136 + 7).toNatClampNeg v_seed) w122_0 w94_0 w24_0 w66_0 w52_0))))))))) ∧ (¬ x2 = 0 → (vp_in r136 n_p1 ∧ (vp_in (r136 + 1) n_p1 ∧ (vp_in (r136 + 2) n_p1 ∧ (vp_in (r136 + 3) n_p1 ∧ (vp_in (r136 + 4) n_p1 ∧ (vp_in (r136 + 5) n_p1 ∧ (vp_in (r136 + 6) n_p1 ∧ (vp_in (r136 + 7) n_p1 ∧ post (w136_1 r136.toNatClampNeg) (w136_1 (r136 + 1).toNatClampNeg) (w136_1 (r136 + 2).toNatClampNeg) (w136_1 (r136 + 3).toNatClampNeg) (w136_1 (r136 + 4).toNatClampNeg) (w136_1 (r136 + 5).toNatClampNeg) (w136_1 (r136 + 6).toNatClampNeg) (w136_1 (r136 + 7).toNatClampNeg) w80_0 w136_0 w10_0 w108_0 w38_0 w136_1 w122_0 w94_0 w24_0 w66_0 w52_0))))))))))))))))))))))))))))))
set_option maxHeartbeats 4000000 in
set_option maxRecDepth 100000 in
theorem c_X10_all {l : Launch} {D : va_G} {cI cJ cS : ClassId} {ad adK : Nat → Nat} {a_o a_base a_beats a_kind a_notes a_other a_p1 a_pitch a_share a_space a_speed a_times : Nat} {z_refused z_steps z_held z_sort z_size z_shown z_cells z_carried z_words z_tell z_was z_kept z_cutSpace z_cutTimes z_cutOff z_trace : Value} {n_p1 : Nat} {v_stretches : Int32} {v_cars : Int32} {v_tunes : Int32} {v_along : Int32} {v_near : Int32} {v_borne : Int32} {v_tempo : Int32} {v_seed : Int32} {v_fault : Int32} {v_from : Int32} {v_at : Int32} {v_end : Int32} {v_told : Int32} {v_wrongAt : Int32} {v_culprit : Int32} {v_ran : Int32} {v_isKept : Int32} {f_base : Nat → Int32} {f_beats : Nat → Int32} {f_kind : Nat → Int32} {f_notes : Nat → Int32} {f_other : Nat → Int32} {f_p1 : Nat → Int32} {f_pitch : Nat → Int32} {f_share : Nat → Int32} {f_space : Nat → Int32} {f_speed : Nat → Int32} {f_times : Nat → Int32} {x2 : Int32} {post : Int32 → Int32 → Int32 → Int32 → Int32 → Int32 → Int32 → Int32 → (Nat → Int32) → (Nat → Int32) → (Nat → Int32) → (Nat → Int32) → (Nat → Int32) → (Nat → Int32) → (Nat → Int32) → (Nat → Int32) → (Nat → Int32) → (Nat → Int32) → (Nat → Int32) → Prop} (h : F_X10_all n_p1 v_stretches v_cars v_tunes v_along v_near v_borne v_tempo v_seed f_base f_beats f_kind f_notes f_other f_p1 f_pitch f_share f_space f_speed f_times x2 post) {sz : Nat} : Met l yX10_all (Cond.code yX10_all cX10_all 4 none :: GW) (rmd 1 0 0) (PW D cI cJ cS ad adK [.ref a_o, .ref a_p1, .int x2] (wX10_all cI cJ cS a_o a_base a_beats a_kind a_notes a_other a_p1 a_pitch a_share a_space a_speed a_times z_refused z_steps z_held z_sort z_size z_shown z_cells z_carried z_words z_tell z_was z_kept z_cutSpace z_cutTimes z_cutOff z_trace n_p1 v_stretches v_cars v_tunes v_along v_near v_borne v_tempo v_seed v_fault v_from v_at v_end v_told v_wrongAt v_culprit v_ran v_isKept f_base f_beats f_kind f_notes f_other f_p1 f_pitch f_share f_space f_speed f_times) sz) (va_Qv (fun u : Int32 × Int32 × Int32 × Int32 × Int32 × Int32 × Int32 × Int32 × (Nat → Int32) × (Nat → Int32) × (Nat → Int32) × (Nat → Int32) × (Nat → Int32) × (Nat → Int32) × (Nat → Int32) × (Nat → Int32) × (Nat → Int32) × (Nat → Int32) × (Nat → Int32) => post u.1 u.2.1 u.2.2.1 u.2.2.2.1 u.2.2.2.2.1 u.2.2.2.2.2.1 u.2.2.2.2.2.2.1 u.2.2.2.2.2.2.2.1 u.2.2.2.2.2.2.2.2.1 u.2.2.2.2.2.2.2.2.2.1 u.2.2.2.2.2.2.2.2.2.2.1 u.2.2.2.2.2.2.2.2.2.2.2.1 u.2.2.2.2.2.2.2.2.2.2.2.2.1 u.2.2.2.2.2.2.2.2.2.2.2.2.2.1 u.2.2.2.2.2.2.2.2.2.2.2.2.2.2.1 u.2.2.2.2.2.2.2.2.2.2.2.2.2.2.2.1 u.2.2.2.2.2.2.2.2.2.2.2.2.2.2.2.2.1 u.2.2.2.2.2.2.2.2.2.2.2.2.2.2.2.2.2.1 u.2.2.2.2.2.2.2.2.2.2.2.2.2.2.2.2.2.2) (fun u t => va_P D vwCl (wX10_all cI cJ cS a_o a_base a_beats a_kind a_notes a_other a_p1 a_pitch a_share a_space a_speed a_times z_refused z_steps z_held z_sort z_size z_shown z_cells z_carried z_words z_tell z_was z_kept z_cutSpace z_cutTimes z_cutOff z_trace n_p1 u.1 u.2.1 u.2.2.1 u.2.2.2.1 u.2.2.2.2.1 u.2.2.2.2.2.1 u.2.2.2.2.2.2.1 u.2.2.2.2.2.2.2.1 v_fault v_from v_at v_end v_told v_wrongAt v_culprit v_ran v_isKept u.2.2.2.2.2.2.2.2.1 u.2.2.2.2.2.2.2.2.2.1 u.2.2.2.2.2.2.2.2.2.2.1 u.2.2.2.2.2.2.2.2.2.2.2.1 u.2.2.2.2.2.2.2.2.2.2.2.2.1 u.2.2.2.2.2.2.2.2.2.2.2.2.2.1 u.2.2.2.2.2.2.2.2.2.2.2.2.2.2.1 u.2.2.2.2.2.2.2.2.2.2.2.2.2.2.2.1 u.2.2.2.2.2.2.2.2.2.2.2.2.2.2.2.2.1 u.2.2.2.2.2.2.2.2.2.2.2.2.2.2.2.2.2.1 u.2.2.2.2.2.2.2.2.2.2.2.2.2.2.2.2.2.2) t.heap) (va_A (wX10_all cI cJ cS a_o a_base a_beats a_kind a_notes a_other a_p1 a_pitch a_share a_space a_speed a_times z_refused z_steps z_held z_sort z_size z_shown z_cells z_carried z_words z_tell z_was z_kept z_cutSpace z_cutTimes z_cutOff z_trace n_p1 v_stretches v_cars v_tunes v_along v_near v_borne v_tempo v_seed v_fault v_from v_at v_end v_told v_wrongAt v_culprit v_ran v_isKept f_base f_beats f_kind f_notes f_other f_p1 f_pitch f_share f_space f_speed f_times) sz)) 0 0 (va_A (wX10_all cI cJ cS a_o a_base a_beats a_kind a_notes a_other a_p1 a_pitch a_share a_space a_speed a_times z_refused z_steps z_held z_sort z_size z_shown z_cells z_carried z_words z_tell z_was z_kept z_cutSpace z_cutTimes z_cutOff z_trace n_p1 v_stretches v_cars v_tunes v_along v_near v_borne v_tempo v_seed v_fault v_from v_at v_end v_told v_wrongAt v_culprit v_ran v_isKept f_base f_beats f_kind f_notes f_other f_p1 f_pitch f_share f_space f_speed f_times) sz) := by
  refine Met.rw (Qc := fun A => (va_Qv (fun u : Int32 × Int32 × Int32 × Int32 × Int32 × Int32 × Int32 × Int32 × (Nat → Int32) × (Nat → Int32) × (Nat → Int32) × (Nat → Int32) × (Nat → Int32) × (Nat → Int32) × (Nat → Int32) × (Nat → Int32) × (Nat → Int32) × (Nat → Int32) × (Nat → Int32) => post u.1 u.2.1 u.2.2.1 u.2.2.2.1 u.2.2.2.2.1 u.2.2.2.2.2.1 u.2.2.2.2.2.2.1 u.2.2.2.2.2.2.2.1 u.2.2.2.2.2.2.2.2.1 u.2.2.2.2.2.2.2.2.2.1 u.2.2.2.2.2.2.2.2.2.2.1 u.2.2.2.2.2.2.2.2.2.2.2.1 u.2.2.2.2.2.2.2.2.2.2.2.2.1 u.2.2.2.2.2.2.2.2.2.2.2.2.2.1 u.2.2.2.2.2.2.2.2.2.2.2.2.2.2.1 u.2.2.2.2.2.2.2.2.2.2.2.2.2.2.2.1 u.2.2.2.2.2.2.2.2.2.2.2.2.2.2.2.2.1 u.2.2.2.2.2.2.2.2.2.2.2.2.2.2.2.2.2.1 u.2.2.2.2.2.2.2.2.2.2.2.2.2.2.2.2.2.2) (fun u t => va_P D vwCl (wX10_all cI cJ cS a_o a_base a_beats a_kind a_notes a_other a_p1 a_pitch a_share a_space a_speed a_times z_refused z_steps z_held z_sort z_size z_shown z_cells z_carried z_words z_tell z_was z_kept z_cutSpace z_cutTimes z_cutOff z_trace n_p1 u.1 u.2.1 u.2.2.1 u.2.2.2.1 u.2.2.2.2.1 u.2.2.2.2.2.1 u.2.2.2.2.2.2.1 u.2.2.2.2.2.2.2.1 v_fault v_from v_at v_end v_told v_wrongAt v_culprit v_ran v_isKept u.2.2.2.2.2.2.2.2.1 u.2.2.2.2.2.2.2.2.2.1 u.2.2.2.2.2.2.2.2.2.2.1 u.2.2.2.2.2.2.2.2.2.2.2.1 u.2.2.2.2.2.2.2.2.2.2.2.2.1 u.2.2.2.2.2.2.2.2.2.2.2.2.2.1 u.2.2.2.2.2.2.2.2.2.2.2.2.2.2.1 u.2.2.2.2.2.2.2.2.2.2.2.2.2.2.2.1 u.2.2.2.2.2.2.2.2.2.2.2.2.2.2.2.2.1 u.2.2.2.2.2.2.2.2.2.2.2.2.2.2.2.2.2.1 u.2.2.2.2.2.2.2.2.2.2.2.2.2.2.2.2.2.2) t.heap) A)) (by decide) (Nat.le_of_ble_eq_true rfl) (fun p e s m args below meth c ls A (S : CallFix p m c cX10_all 4 s args GW "RoadThatSingsModel") hE hT hP hD hA hS hr hlocks hname hl => ?_)
  have hS0 := hS
  have hx := S.1
  have hb := S.2.1
  have hl : lv_has ls 4 [(0, .ref a_o), (1, .ref a_p1), (2, .int x2)] := hl
  unfold F_X10_all at h
  refine lv_aload_n hx hb dX10_all_0 rfl (lv_at hl 0 rfl) ?_
  refine lv_aload_n hx hb dX10_all_1 rfl (lv_at hl 0 rfl) ?_
  refine gf S hE hP 0 rfl rfl inX10 (k := 11) (by decide) q1104 rfl dX10_all_2 ?_
  refine lv_bipush (v := 16) hx hb dX10_all_5 (by decide) ?_
  refine lv_aload_n hx hb dX10_all_7 rfl (lv_at hl 1 rfl) ?_
  refine lv_iconst (v := 0) hx hb dX10_all_8 (by decide) ?_
  refine lv_iload_n hx hb dX10_all_9 rfl (lv_at hl 2 rfl) ?_
  refine rw_i (rwV S hE hT hS hP hD hA (c_X10_keeps h) [0, 3, 6] rfl (by decide +kernel) lkX10_218 rfl ⟨(Nat.le_of_ble_eq_true rfl), (Nat.le_of_ble_eq_true rfl)⟩ 0 rfl rfl hl.1 rfl (Nat.le_of_ble_eq_true rfl) dX10_all_10 ⟨(Nat.zero_le _), (Nat.zero_le _)⟩) hP hD hS hA [0, 3, 6] rfl (by decide +kernel) (fun _ => rfl) (fun r10 u10 H locs h hP hD hS => ?_)
  obtain ⟨w10_0, w10_1⟩ := u10
  try dsimp only at h
  have hP : va_P D vwCl (wX10_all cI cJ cS a_o a_base a_beats a_kind a_notes a_other a_p1 a_pitch a_share a_space a_speed a_times z_refused z_steps z_held z_sort z_size z_shown z_cells z_carried z_words z_tell z_was z_kept z_cutSpace z_cutTimes z_cutOff z_trace n_p1 v_stretches v_cars v_tunes v_along v_near v_borne v_tempo v_seed v_fault v_from v_at v_end v_told v_wrongAt v_culprit v_ran v_isKept f_base f_beats w10_0 f_notes f_other w10_1 f_pitch f_share f_space f_speed f_times) H := hP
  have hD : va_D A (wX10_all cI cJ cS a_o a_base a_beats a_kind a_notes a_other a_p1 a_pitch a_share a_space a_speed a_times z_refused z_steps z_held z_sort z_size z_shown z_cells z_carried z_words z_tell z_was z_kept z_cutSpace z_cutTimes z_cutOff z_trace n_p1 v_stretches v_cars v_tunes v_along v_near v_borne v_tempo v_seed v_fault v_from v_at v_end v_told v_wrongAt v_culprit v_ran v_isKept f_base f_beats w10_0 f_notes f_other w10_1 f_pitch f_share f_space f_speed f_times) := hD
  refine lv_istore_n (lv' := [(3, .int r10), (0, .ref a_o), (1, .ref a_p1), (2, .int x2)]) hx hb dX10_all_13 rfl hl (by decide) rfl (fun ls hl => ?_)
  refine lv_aload_n hx hb dX10_all_14 rfl (lv_at hl 1 rfl) ?_
  refine lv_aload_n hx hb dX10_all_15 rfl (lv_at hl 1 rfl) ?_
  refine gf S hE hP 0 rfl rfl inX10 (k := 12) (by decide) q1105 rfl dX10_all_16 ?_
  refine lv_bipush (v := 16) hx hb dX10_all_19 (by decide) ?_
  refine lv_aload_n hx hb dX10_all_21 rfl (lv_at hl 2 rfl) ?_
  refine lv_iload_n hx hb dX10_all_22 rfl (lv_at hl 0 rfl) ?_
  refine lv_iload_n hx hb dX10_all_23 rfl (lv_at hl 3 rfl) ?_
  refine rw_i (rwV S hE hT hS hP hD hA (c_X10_keeps h) [0, 9, 6] rfl (by decide +kernel) lkX10_218 rfl ⟨(Nat.le_of_ble_eq_true rfl), (Nat.le_of_ble_eq_true rfl)⟩ 0 rfl rfl hl.1 rfl (Nat.le_of_ble_eq_true rfl) dX10_all_24 ⟨(Nat.zero_le _), (Nat.zero_le _)⟩) hP hD hS hA [0, 9, 6] rfl (by decide +kernel) (fun _ => rfl) (fun r24 u24 H locs h hP hD hS => ?_)
  obtain ⟨w24_0, w24_1⟩ := u24
  try dsimp only at h
  have hP : va_P D vwCl (wX10_all cI cJ cS a_o a_base a_beats a_kind a_notes a_other a_p1 a_pitch a_share a_space a_speed a_times z_refused z_steps z_held z_sort z_size z_shown z_cells z_carried z_words z_tell z_was z_kept z_cutSpace z_cutTimes z_cutOff z_trace n_p1 v_stretches v_cars v_tunes v_along v_near v_borne v_tempo v_seed v_fault v_from v_at v_end v_told v_wrongAt v_culprit v_ran v_isKept f_base f_beats w10_0 f_notes f_other w24_1 f_pitch f_share w24_0 f_speed f_times) H := hP
  have hD : va_D A (wX10_all cI cJ cS a_o a_base a_beats a_kind a_notes a_other a_p1 a_pitch a_share a_space a_speed a_times z_refused z_steps z_held z_sort z_size z_shown z_cells z_carried z_words z_tell z_was z_kept z_cutSpace z_cutTimes z_cutOff z_trace n_p1 v_stretches v_cars v_tunes v_along v_near v_borne v_tempo v_seed v_fault v_from v_at v_end v_told v_wrongAt v_culprit v_ran v_isKept f_base f_beats w10_0 f_notes f_other w24_1 f_pitch f_share w24_0 f_speed f_times) := hD
  refine lv_istore_n (lv' := [(3, .int r24), (0, .ref a_o), (1, .ref a_p1), (2, .int x2)]) hx hb dX10_all_27 rfl hl (by decide) rfl (fun ls hl => ?_)
  refine lv_aload_n hx hb dX10_all_28 rfl (lv_at hl 1 rfl) ?_
  refine lv_aload_n hx hb dX10_all_29 rfl (lv_at hl 1 rfl) ?_
  refine gf S hE hP 0 rfl rfl inX10 (k := 13) (by decide) q1106 rfl dX10_all_30 ?_
  refine lv_bipush (v := 16) hx hb dX10_all_33 (by decide) ?_
  refine lv_aload_n hx hb dX10_all_35 rfl (lv_at hl 2 rfl) ?_
  refine lv_iload_n hx hb dX10_all_36 rfl (lv_at hl 0 rfl) ?_
  refine lv_iload_n hx hb dX10_all_37 rfl (lv_at hl 3 rfl) ?_
  refine rw_i (rwV S hE hT hS hP hD hA (c_X10_keeps h) [0, 5, 6] rfl (by decide +kernel) lkX10_218 rfl ⟨(Nat.le_of_ble_eq_true rfl), (Nat.le_of_ble_eq_true rfl)⟩ 0 rfl rfl hl.1 rfl (Nat.le_of_ble_eq_true rfl) dX10_all_38 ⟨(Nat.zero_le _), (Nat.zero_le _)⟩) hP hD hS hA [0, 5, 6] rfl (by decide +kernel) (fun _ => rfl) (fun r38 u38 H locs h hP hD hS => ?_)
  obtain ⟨w38_0, w38_1⟩ := u38
  try dsimp only at h
  have hP : va_P D vwCl (wX10_all cI cJ cS a_o a_base a_beats a_kind a_notes a_other a_p1 a_pitch a_share a_space a_speed a_times z_refused z_steps z_held z_sort z_size z_shown z_cells z_carried z_words z_tell z_was z_kept z_cutSpace z_cutTimes z_cutOff z_trace n_p1 v_stretches v_cars v_tunes v_along v_near v_borne v_tempo v_seed v_fault v_from v_at v_end v_told v_wrongAt v_culprit v_ran v_isKept f_base f_beats w10_0 f_notes w38_0 w38_1 f_pitch f_share w24_0 f_speed f_times) H := hP
  have hD : va_D A (wX10_all cI cJ cS a_o a_base a_beats a_kind a_notes a_other a_p1 a_pitch a_share a_space a_speed a_times z_refused z_steps z_held z_sort z_size z_shown z_cells z_carried z_words z_tell z_was z_kept z_cutSpace z_cutTimes z_cutOff z_trace n_p1 v_stretches v_cars v_tunes v_along v_near v_borne v_tempo v_seed v_fault v_from v_at v_end v_told v_wrongAt v_culprit v_ran v_isKept f_base f_beats w10_0 f_notes w38_0 w38_1 f_pitch f_share w24_0 f_speed f_times) := hD
  refine lv_istore_n (lv' := [(3, .int r38), (0, .ref a_o), (1, .ref a_p1), (2, .int x2)]) hx hb dX10_all_41 rfl hl (by decide) rfl (fun ls hl => ?_)
  refine lv_aload_n hx hb dX10_all_42 rfl (lv_at hl 1 rfl) ?_
  refine lv_aload_n hx hb dX10_all_43 rfl (lv_at hl 1 rfl) ?_
  refine gf S hE hP 0 rfl rfl inX10 (k := 14) (by decide) q1107 rfl dX10_all_44 ?_
  refine lv_bipush (v := 16) hx hb dX10_all_47 (by decide) ?_
  refine lv_aload_n hx hb dX10_all_49 rfl (lv_at hl 2 rfl) ?_
  refine lv_iload_n hx hb dX10_all_50 rfl (lv_at hl 0 rfl) ?_
  refine lv_iload_n hx hb dX10_all_51 rfl (lv_at hl 3 rfl) ?_
  refine rw_i (rwV S hE hT hS hP hD hA (c_X10_keeps h) [0, 11, 6] rfl (by decide +kernel) lkX10_218 rfl ⟨(Nat.le_of_ble_eq_true rfl), (Nat.le_of_ble_eq_true rfl)⟩ 0 rfl rfl hl.1 rfl (Nat.le_of_ble_eq_true rfl) dX10_all_52 ⟨(Nat.zero_le _), (Nat.zero_le _)⟩) hP hD hS hA [0, 11, 6] rfl (by decide +kernel) (fun _ => rfl) (fun r52 u52 H locs h hP hD hS => ?_)
  obtain ⟨w52_0, w52_1⟩ := u52
  try dsimp only at h
  have hP : va_P D vwCl (wX10_all cI cJ cS a_o a_base a_beats a_kind a_notes a_other a_p1 a_pitch a_share a_space a_speed a_times z_refused z_steps z_held z_sort z_size z_shown z_cells z_carried z_words z_tell z_was z_kept z_cutSpace z_cutTimes z_cutOff z_trace n_p1 v_stretches v_cars v_tunes v_along v_near v_borne v_tempo v_seed v_fault v_from v_at v_end v_told v_wrongAt v_culprit v_ran v_isKept f_base f_beats w10_0 f_notes w38_0 w52_1 f_pitch f_share w24_0 f_speed w52_0) H := hP
  have hD : va_D A (wX10_all cI cJ cS a_o a_base a_beats a_kind a_notes a_other a_p1 a_pitch a_share a_space a_speed a_times z_refused z_steps z_held z_sort z_size z_shown z_cells z_carried z_words z_tell z_was z_kept z_cutSpace z_cutTimes z_cutOff z_trace n_p1 v_stretches v_cars v_tunes v_along v_near v_borne v_tempo v_seed v_fault v_from v_at v_end v_told v_wrongAt v_culprit v_ran v_isKept f_base f_beats w10_0 f_notes w38_0 w52_1 f_pitch f_share w24_0 f_speed w52_0) := hD
  refine lv_istore_n (lv' := [(3, .int r52), (0, .ref a_o), (1, .ref a_p1), (2, .int x2)]) hx hb dX10_all_55 rfl hl (by decide) rfl (fun ls hl => ?_)
  refine lv_aload_n hx hb dX10_all_56 rfl (lv_at hl 1 rfl) ?_
  refine lv_aload_n hx hb dX10_all_57 rfl (lv_at hl 1 rfl) ?_
  refine gf S hE hP 0 rfl rfl inX10 (k := 15) (by decide) q1108 rfl dX10_all_58 ?_
  refine lv_bipush (v := 6) hx hb dX10_all_61 (by decide) ?_
  refine lv_aload_n hx hb dX10_all_63 rfl (lv_at hl 2 rfl) ?_
  refine lv_iload_n hx hb dX10_all_64 rfl (lv_at hl 0 rfl) ?_
  refine lv_iload_n hx hb dX10_all_65 rfl (lv_at hl 3 rfl) ?_
  refine rw_i (rwV S hE hT hS hP hD hA (c_X10_keeps h) [0, 10, 6] rfl (by decide +kernel) lkX10_218 rfl ⟨(Nat.le_of_ble_eq_true rfl), (Nat.le_of_ble_eq_true rfl)⟩ 0 rfl rfl hl.1 rfl (Nat.le_of_ble_eq_true rfl) dX10_all_66 ⟨(Nat.zero_le _), (Nat.zero_le _)⟩) hP hD hS hA [0, 10, 6] rfl (by decide +kernel) (fun _ => rfl) (fun r66 u66 H locs h hP hD hS => ?_)
  obtain ⟨w66_0, w66_1⟩ := u66
  try dsimp only at h
  have hP : va_P D vwCl (wX10_all cI cJ cS a_o a_base a_beats a_kind a_notes a_other a_p1 a_pitch a_share a_space a_speed a_times z_refused z_steps z_held z_sort z_size z_shown z_cells z_carried z_words z_tell z_was z_kept z_cutSpace z_cutTimes z_cutOff z_trace n_p1 v_stretches v_cars v_tunes v_along v_near v_borne v_tempo v_seed v_fault v_from v_at v_end v_told v_wrongAt v_culprit v_ran v_isKept f_base f_beats w10_0 f_notes w38_0 w66_1 f_pitch f_share w24_0 w66_0 w52_0) H := hP
  have hD : va_D A (wX10_all cI cJ cS a_o a_base a_beats a_kind a_notes a_other a_p1 a_pitch a_share a_space a_speed a_times z_refused z_steps z_held z_sort z_size z_shown z_cells z_carried z_words z_tell z_was z_kept z_cutSpace z_cutTimes z_cutOff z_trace n_p1 v_stretches v_cars v_tunes v_along v_near v_borne v_tempo v_seed v_fault v_from v_at v_end v_told v_wrongAt v_culprit v_ran v_isKept f_base f_beats w10_0 f_notes w38_0 w66_1 f_pitch f_share w24_0 w66_0 w52_0) := hD
  refine lv_istore_n (lv' := [(3, .int r66), (0, .ref a_o), (1, .ref a_p1), (2, .int x2)]) hx hb dX10_all_69 rfl hl (by decide) rfl (fun ls hl => ?_)
  refine lv_aload_n hx hb dX10_all_70 rfl (lv_at hl 1 rfl) ?_
  refine lv_aload_n hx hb dX10_all_71 rfl (lv_at hl 1 rfl) ?_
  refine gf S hE hP 0 rfl rfl inX10 (k := 16) (by decide) q1109 rfl dX10_all_72 ?_
  refine lv_bipush (v := 6) hx hb dX10_all_75 (by decide) ?_
  refine lv_aload_n hx hb dX10_all_77 rfl (lv_at hl 2 rfl) ?_
  refine lv_iload_n hx hb dX10_all_78 rfl (lv_at hl 0 rfl) ?_
  refine lv_iload_n hx hb dX10_all_79 rfl (lv_at hl 3 rfl) ?_
  refine rw_i (rwV S hE hT hS hP hD hA (c_X10_keeps h) [0, 1, 6] rfl (by decide +kernel) lkX10_218 rfl ⟨(Nat.le_of_ble_eq_true rfl), (Nat.le_of_ble_eq_true rfl)⟩ 0 rfl rfl hl.1 rfl (Nat.le_of_ble_eq_true rfl) dX10_all_80 ⟨(Nat.zero_le _), (Nat.zero_le _)⟩) hP hD hS hA [0, 1, 6] rfl (by decide +kernel) (fun _ => rfl) (fun r80 u80 H locs h hP hD hS => ?_)
  obtain ⟨w80_0, w80_1⟩ := u80
  try dsimp only at h
  have hP : va_P D vwCl (wX10_all cI cJ cS a_o a_base a_beats a_kind a_notes a_other a_p1 a_pitch a_share a_space a_speed a_times z_refused z_steps z_held z_sort z_size z_shown z_cells z_carried z_words z_tell z_was z_kept z_cutSpace z_cutTimes z_cutOff z_trace n_p1 v_stretches v_cars v_tunes v_along v_near v_borne v_tempo v_seed v_fault v_from v_at v_end v_told v_wrongAt v_culprit v_ran v_isKept w80_0 f_beats w10_0 f_notes w38_0 w80_1 f_pitch f_share w24_0 w66_0 w52_0) H := hP
  have hD : va_D A (wX10_all cI cJ cS a_o a_base a_beats a_kind a_notes a_other a_p1 a_pitch a_share a_space a_speed a_times z_refused z_steps z_held z_sort z_size z_shown z_cells z_carried z_words z_tell z_was z_kept z_cutSpace z_cutTimes z_cutOff z_trace n_p1 v_stretches v_cars v_tunes v_along v_near v_borne v_tempo v_seed v_fault v_from v_at v_end v_told v_wrongAt v_culprit v_ran v_isKept w80_0 f_beats w10_0 f_notes w38_0 w80_1 f_pitch f_share w24_0 w66_0 w52_0) := hD
  refine lv_istore_n (lv' := [(3, .int r80), (0, .ref a_o), (1, .ref a_p1), (2, .int x2)]) hx hb dX10_all_83 rfl hl (by decide) rfl (fun ls hl => ?_)
  refine lv_aload_n hx hb dX10_all_84 rfl (lv_at hl 1 rfl) ?_
  refine lv_aload_n hx hb dX10_all_85 rfl (lv_at hl 1 rfl) ?_
  refine gf S hE hP 0 rfl rfl inX10 (k := 17) (by decide) q1110 rfl dX10_all_86 ?_
  refine lv_bipush (v := 6) hx hb dX10_all_89 (by decide) ?_
  refine lv_aload_n hx hb dX10_all_91 rfl (lv_at hl 2 rfl) ?_
  refine lv_iload_n hx hb dX10_all_92 rfl (lv_at hl 0 rfl) ?_
  refine lv_iload_n hx hb dX10_all_93 rfl (lv_at hl 3 rfl) ?_
  refine rw_i (rwV S hE hT hS hP hD hA (c_X10_keeps h) [0, 8, 6] rfl (by decide +kernel) lkX10_218 rfl ⟨(Nat.le_of_ble_eq_true rfl), (Nat.le_of_ble_eq_true rfl)⟩ 0 rfl rfl hl.1 rfl (Nat.le_of_ble_eq_true rfl) dX10_all_94 ⟨(Nat.zero_le _), (Nat.zero_le _)⟩) hP hD hS hA [0, 8, 6] rfl (by decide +kernel) (fun _ => rfl) (fun r94 u94 H locs h hP hD hS => ?_)
  obtain ⟨w94_0, w94_1⟩ := u94
  try dsimp only at h
  have hP : va_P D vwCl (wX10_all cI cJ cS a_o a_base a_beats a_kind a_notes a_other a_p1 a_pitch a_share a_space a_speed a_times z_refused z_steps z_held z_sort z_size z_shown z_cells z_carried z_words z_tell z_was z_kept z_cutSpace z_cutTimes z_cutOff z_trace n_p1 v_stretches v_cars v_tunes v_along v_near v_borne v_tempo v_seed v_fault v_from v_at v_end v_told v_wrongAt v_culprit v_ran v_isKept w80_0 f_beats w10_0 f_notes w38_0 w94_1 f_pitch w94_0 w24_0 w66_0 w52_0) H := hP
  have hD : va_D A (wX10_all cI cJ cS a_o a_base a_beats a_kind a_notes a_other a_p1 a_pitch a_share a_space a_speed a_times z_refused z_steps z_held z_sort z_size z_shown z_cells z_carried z_words z_tell z_was z_kept z_cutSpace z_cutTimes z_cutOff z_trace n_p1 v_stretches v_cars v_tunes v_along v_near v_borne v_tempo v_seed v_fault v_from v_at v_end v_told v_wrongAt v_culprit v_ran v_isKept w80_0 f_beats w10_0 f_notes w38_0 w94_1 f_pitch w94_0 w24_0 w66_0 w52_0) := hD
  refine lv_istore_n (lv' := [(3, .int r94), (0, .ref a_o), (1, .ref a_p1), (2, .int x2)]) hx hb dX10_all_97 rfl hl (by decide) rfl (fun ls hl => ?_)
  refine lv_aload_n hx hb dX10_all_98 rfl (lv_at hl 1 rfl) ?_
  refine lv_aload_n hx hb dX10_all_99 rfl (lv_at hl 1 rfl) ?_
  refine gf S hE hP 0 rfl rfl inX10 (k := 18) (by decide) q1111 rfl dX10_all_100 ?_
  refine lv_bipush (v := 6) hx hb dX10_all_103 (by decide) ?_
  refine lv_aload_n hx hb dX10_all_105 rfl (lv_at hl 2 rfl) ?_
  refine lv_iload_n hx hb dX10_all_106 rfl (lv_at hl 0 rfl) ?_
  refine lv_iload_n hx hb dX10_all_107 rfl (lv_at hl 3 rfl) ?_
  refine rw_i (rwV S hE hT hS hP hD hA (c_X10_keeps h) [0, 4, 6] rfl (by decide +kernel) lkX10_218 rfl ⟨(Nat.le_of_ble_eq_true rfl), (Nat.le_of_ble_eq_true rfl)⟩ 0 rfl rfl hl.1 rfl (Nat.le_of_ble_eq_true rfl) dX10_all_108 ⟨(Nat.zero_le _), (Nat.zero_le _)⟩) hP hD hS hA [0, 4, 6] rfl (by decide +kernel) (fun _ => rfl) (fun r108 u108 H locs h hP hD hS => ?_)
  obtain ⟨w108_0, w108_1⟩ := u108
  try dsimp only at h
  have hP : va_P D vwCl (wX10_all cI cJ cS a_o a_base a_beats a_kind a_notes a_other a_p1 a_pitch a_share a_space a_speed a_times z_refused z_steps z_held z_sort z_size z_shown z_cells z_carried z_words z_tell z_was z_kept z_cutSpace z_cutTimes z_cutOff z_trace n_p1 v_stretches v_cars v_tunes v_along v_near v_borne v_tempo v_seed v_fault v_from v_at v_end v_told v_wrongAt v_culprit v_ran v_isKept w80_0 f_beats w10_0 w108_0 w38_0 w108_1 f_pitch w94_0 w24_0 w66_0 w52_0) H := hP
  have hD : va_D A (wX10_all cI cJ cS a_o a_base a_beats a_kind a_notes a_other a_p1 a_pitch a_share a_space a_speed a_times z_refused z_steps z_held z_sort z_size z_shown z_cells z_carried z_words z_tell z_was z_kept z_cutSpace z_cutTimes z_cutOff z_trace n_p1 v_stretches v_cars v_tunes v_along v_near v_borne v_tempo v_seed v_fault v_from v_at v_end v_told v_wrongAt v_culprit v_ran v_isKept w80_0 f_beats w10_0 w108_0 w38_0 w108_1 f_pitch w94_0 w24_0 w66_0 w52_0) := hD
  refine lv_istore_n (lv' := [(3, .int r108), (0, .ref a_o), (1, .ref a_p1), (2, .int x2)]) hx hb dX10_all_111 rfl hl (by decide) rfl (fun ls hl => ?_)
  refine lv_aload_n hx hb dX10_all_112 rfl (lv_at hl 1 rfl) ?_
  refine lv_aload_n hx hb dX10_all_113 rfl (lv_at hl 1 rfl) ?_
  refine gf S hE hP 0 rfl rfl inX10 (k := 19) (by decide) q1112 rfl dX10_all_114 ?_
  refine lv_bipush (v := 72) hx hb dX10_all_117 (by decide) ?_
  refine lv_aload_n hx hb dX10_all_119 rfl (lv_at hl 2 rfl) ?_
  refine lv_iload_n hx hb dX10_all_120 rfl (lv_at hl 0 rfl) ?_
  refine lv_iload_n hx hb dX10_all_121 rfl (lv_at hl 3 rfl) ?_
  refine rw_i (rwV S hE hT hS hP hD hA (c_X10_keeps h) [0, 7, 6] rfl (by decide +kernel) lkX10_218 rfl ⟨(Nat.le_of_ble_eq_true rfl), (Nat.le_of_ble_eq_true rfl)⟩ 0 rfl rfl hl.1 rfl (Nat.le_of_ble_eq_true rfl) dX10_all_122 ⟨(Nat.zero_le _), (Nat.zero_le _)⟩) hP hD hS hA [0, 7, 6] rfl (by decide +kernel) (fun _ => rfl) (fun r122 u122 H locs h hP hD hS => ?_)
  obtain ⟨w122_0, w122_1⟩ := u122
  try dsimp only at h
  have hP : va_P D vwCl (wX10_all cI cJ cS a_o a_base a_beats a_kind a_notes a_other a_p1 a_pitch a_share a_space a_speed a_times z_refused z_steps z_held z_sort z_size z_shown z_cells z_carried z_words z_tell z_was z_kept z_cutSpace z_cutTimes z_cutOff z_trace n_p1 v_stretches v_cars v_tunes v_along v_near v_borne v_tempo v_seed v_fault v_from v_at v_end v_told v_wrongAt v_culprit v_ran v_isKept w80_0 f_beats w10_0 w108_0 w38_0 w122_1 w122_0 w94_0 w24_0 w66_0 w52_0) H := hP
  have hD : va_D A (wX10_all cI cJ cS a_o a_base a_beats a_kind a_notes a_other a_p1 a_pitch a_share a_space a_speed a_times z_refused z_steps z_held z_sort z_size z_shown z_cells z_carried z_words z_tell z_was z_kept z_cutSpace z_cutTimes z_cutOff z_trace n_p1 v_stretches v_cars v_tunes v_along v_near v_borne v_tempo v_seed v_fault v_from v_at v_end v_told v_wrongAt v_culprit v_ran v_isKept w80_0 f_beats w10_0 w108_0 w38_0 w122_1 w122_0 w94_0 w24_0 w66_0 w52_0) := hD
  refine lv_istore_n (lv' := [(3, .int r122), (0, .ref a_o), (1, .ref a_p1), (2, .int x2)]) hx hb dX10_all_125 rfl hl (by decide) rfl (fun ls hl => ?_)
  refine lv_aload_n hx hb dX10_all_126 rfl (lv_at hl 1 rfl) ?_
  refine lv_aload_n hx hb dX10_all_127 rfl (lv_at hl 1 rfl) ?_
  refine gf S hE hP 0 rfl rfl inX10 (k := 20) (by decide) q1113 rfl dX10_all_128 ?_
  refine lv_bipush (v := 72) hx hb dX10_all_131 (by decide) ?_
  refine lv_aload_n hx hb dX10_all_133 rfl (lv_at hl 2 rfl) ?_
  refine lv_iload_n hx hb dX10_all_134 rfl (lv_at hl 0 rfl) ?_
  refine lv_iload_n hx hb dX10_all_135 rfl (lv_at hl 3 rfl) ?_
  refine rw_i (rwV S hE hT hS hP hD hA (c_X10_keeps h) [0, 2, 6] rfl (by decide +kernel) lkX10_218 rfl ⟨(Nat.le_of_ble_eq_true rfl), (Nat.le_of_ble_eq_true rfl)⟩ 0 rfl rfl hl.1 rfl (Nat.le_of_ble_eq_true rfl) dX10_all_136 ⟨(Nat.zero_le _), (Nat.zero_le _)⟩) hP hD hS hA [0, 2, 6] rfl (by decide +kernel) (fun _ => rfl) (fun r136 u136 H locs h hP hD hS => ?_)
  obtain ⟨w136_0, w136_1⟩ := u136
  try dsimp only at h
  have hP : va_P D vwCl (wX10_all cI cJ cS a_o a_base a_beats a_kind a_notes a_other a_p1 a_pitch a_share a_space a_speed a_times z_refused z_steps z_held z_sort z_size z_shown z_cells z_carried z_words z_tell z_was z_kept z_cutSpace z_cutTimes z_cutOff z_trace n_p1 v_stretches v_cars v_tunes v_along v_near v_borne v_tempo v_seed v_fault v_from v_at v_end v_told v_wrongAt v_culprit v_ran v_isKept w80_0 w136_0 w10_0 w108_0 w38_0 w136_1 w122_0 w94_0 w24_0 w66_0 w52_0) H := hP
  have hD : va_D A (wX10_all cI cJ cS a_o a_base a_beats a_kind a_notes a_other a_p1 a_pitch a_share a_space a_speed a_times z_refused z_steps z_held z_sort z_size z_shown z_cells z_carried z_words z_tell z_was z_kept z_cutSpace z_cutTimes z_cutOff z_trace n_p1 v_stretches v_cars v_tunes v_along v_near v_borne v_tempo v_seed v_fault v_from v_at v_end v_told v_wrongAt v_culprit v_ran v_isKept w80_0 w136_0 w10_0 w108_0 w38_0 w136_1 w122_0 w94_0 w24_0 w66_0 w52_0) := hD
  refine lv_istore_n (lv' := [(3, .int r136), (0, .ref a_o), (1, .ref a_p1), (2, .int x2)]) hx hb dX10_all_139 rfl hl (by decide) rfl (fun ls hl => ?_)
  refine lv_iload_n hx hb dX10_all_140 rfl (lv_at hl 3 rfl) ?_
  refine lv_if_eq (tgt := 219) hx hb dX10_all_141 (by decide) (fun hc => ?_) (fun hc => ?_)
  · have h := h.1 hc
    refine lv_aload_n hx hb dX10_all_219 rfl (lv_at hl 2 rfl) ?_
    refine lv_iload_n hx hb dX10_all_220 rfl (lv_at hl 0 rfl) ?_
    refine lv_aload_n hx hb dX10_all_221 rfl (lv_at hl 1 rfl) ?_
    refine gf S hE hP 0 rfl rfl inX10 (k := 0) (by decide) q1093 rfl dX10_all_222 ?_
    obtain ⟨hi, h⟩ := h
    refine ias S hE hP hD hS 6 rfl hi dX10_all_225 (fun H locs hP hD hS => ?_)
    have hP : va_P D vwCl (wX10_all cI cJ cS a_o a_base a_beats a_kind a_notes a_other a_p1 a_pitch a_share a_space a_speed a_times z_refused z_steps z_held z_sort z_size z_shown z_cells z_carried z_words z_tell z_was z_kept z_cutSpace z_cutTimes z_cutOff z_trace n_p1 v_stretches v_cars v_tunes v_along v_near v_borne v_tempo v_seed v_fault v_from v_at v_end v_told v_wrongAt v_culprit v_ran v_isKept w80_0 w136_0 w10_0 w108_0 w38_0 (upd w136_1 r136.toNatClampNeg v_stretches) w122_0 w94_0 w24_0 w66_0 w52_0) H := hP
    have hD : va_D A (wX10_all cI cJ cS a_o a_base a_beats a_kind a_notes a_other a_p1 a_pitch a_share a_space a_speed a_times z_refused z_steps z_held z_sort z_size z_shown z_cells z_carried z_words z_tell z_was z_kept z_cutSpace z_cutTimes z_cutOff z_trace n_p1 v_stretches v_cars v_tunes v_along v_near v_borne v_tempo v_seed v_fault v_from v_at v_end v_told v_wrongAt v_culprit v_ran v_isKept w80_0 w136_0 w10_0 w108_0 w38_0 (upd w136_1 r136.toNatClampNeg v_stretches) w122_0 w94_0 w24_0 w66_0 w52_0) := hD
    refine lv_aload_n hx hb dX10_all_226 rfl (lv_at hl 2 rfl) ?_
    refine lv_iload_n hx hb dX10_all_227 rfl (lv_at hl 0 rfl) ?_
    refine lv_iconst (v := 1) hx hb dX10_all_228 (by decide) ?_
    refine lv_iadd hx hb dX10_all_229 ?_
    refine lv_aload_n hx hb dX10_all_230 rfl (lv_at hl 1 rfl) ?_
    refine gf S hE hP 0 rfl rfl inX10 (k := 1) (by decide) q1094 rfl dX10_all_231 ?_
    obtain ⟨hi, h⟩ := h
    refine ias S hE hP hD hS 6 rfl hi dX10_all_234 (fun H locs hP hD hS => ?_)
    have hP : va_P D vwCl (wX10_all cI cJ cS a_o a_base a_beats a_kind a_notes a_other a_p1 a_pitch a_share a_space a_speed a_times z_refused z_steps z_held z_sort z_size z_shown z_cells z_carried z_words z_tell z_was z_kept z_cutSpace z_cutTimes z_cutOff z_trace n_p1 v_stretches v_cars v_tunes v_along v_near v_borne v_tempo v_seed v_fault v_from v_at v_end v_told v_wrongAt v_culprit v_ran v_isKept w80_0 w136_0 w10_0 w108_0 w38_0 (upd (upd w136_1 r136.toNatClampNeg v_stretches) (r136 + 1).toNatClampNeg v_cars) w122_0 w94_0 w24_0 w66_0 w52_0) H := hP
    have hD : va_D A (wX10_all cI cJ cS a_o a_base a_beats a_kind a_notes a_other a_p1 a_pitch a_share a_space a_speed a_times z_refused z_steps z_held z_sort z_size z_shown z_cells z_carried z_words z_tell z_was z_kept z_cutSpace z_cutTimes z_cutOff z_trace n_p1 v_stretches v_cars v_tunes v_along v_near v_borne v_tempo v_seed v_fault v_from v_at v_end v_told v_wrongAt v_culprit v_ran v_isKept w80_0 w136_0 w10_0 w108_0 w38_0 (upd (upd w136_1 r136.toNatClampNeg v_stretches) (r136 + 1).toNatClampNeg v_cars) w122_0 w94_0 w24_0 w66_0 w52_0) := hD
    refine lv_aload_n hx hb dX10_all_235 rfl (lv_at hl 2 rfl) ?_
    refine lv_iload_n hx hb dX10_all_236 rfl (lv_at hl 0 rfl) ?_
    refine lv_iconst (v := 2) hx hb dX10_all_237 (by decide) ?_
    refine lv_iadd hx hb dX10_all_238 ?_
    refine lv_aload_n hx hb dX10_all_239 rfl (lv_at hl 1 rfl) ?_
    refine gf S hE hP 0 rfl rfl inX10 (k := 2) (by decide) q1095 rfl dX10_all_240 ?_
    obtain ⟨hi, h⟩ := h
    refine ias S hE hP hD hS 6 rfl hi dX10_all_243 (fun H locs hP hD hS => ?_)
    have hP : va_P D vwCl (wX10_all cI cJ cS a_o a_base a_beats a_kind a_notes a_other a_p1 a_pitch a_share a_space a_speed a_times z_refused z_steps z_held z_sort z_size z_shown z_cells z_carried z_words z_tell z_was z_kept z_cutSpace z_cutTimes z_cutOff z_trace n_p1 v_stretches v_cars v_tunes v_along v_near v_borne v_tempo v_seed v_fault v_from v_at v_end v_told v_wrongAt v_culprit v_ran v_isKept w80_0 w136_0 w10_0 w108_0 w38_0 (upd (upd (upd w136_1 r136.toNatClampNeg v_stretches) (r136 + 1).toNatClampNeg v_cars) (r136 + 2).toNatClampNeg v_tunes) w122_0 w94_0 w24_0 w66_0 w52_0) H := hP
    have hD : va_D A (wX10_all cI cJ cS a_o a_base a_beats a_kind a_notes a_other a_p1 a_pitch a_share a_space a_speed a_times z_refused z_steps z_held z_sort z_size z_shown z_cells z_carried z_words z_tell z_was z_kept z_cutSpace z_cutTimes z_cutOff z_trace n_p1 v_stretches v_cars v_tunes v_along v_near v_borne v_tempo v_seed v_fault v_from v_at v_end v_told v_wrongAt v_culprit v_ran v_isKept w80_0 w136_0 w10_0 w108_0 w38_0 (upd (upd (upd w136_1 r136.toNatClampNeg v_stretches) (r136 + 1).toNatClampNeg v_cars) (r136 + 2).toNatClampNeg v_tunes) w122_0 w94_0 w24_0 w66_0 w52_0) := hD
    refine lv_aload_n hx hb dX10_all_244 rfl (lv_at hl 2 rfl) ?_
    refine lv_iload_n hx hb dX10_all_245 rfl (lv_at hl 0 rfl) ?_
    refine lv_iconst (v := 3) hx hb dX10_all_246 (by decide) ?_
    refine lv_iadd hx hb dX10_all_247 ?_
    refine lv_aload_n hx hb dX10_all_248 rfl (lv_at hl 1 rfl) ?_
    refine gf S hE hP 0 rfl rfl inX10 (k := 3) (by decide) q1096 rfl dX10_all_249 ?_
    obtain ⟨hi, h⟩ := h
    refine ias S hE hP hD hS 6 rfl hi dX10_all_252 (fun H locs hP hD hS => ?_)
    have hP : va_P D vwCl (wX10_all cI cJ cS a_o a_base a_beats a_kind a_notes a_other a_p1 a_pitch a_share a_space a_speed a_times z_refused z_steps z_held z_sort z_size z_shown z_cells z_carried z_words z_tell z_was z_kept z_cutSpace z_cutTimes z_cutOff z_trace n_p1 v_stretches v_cars v_tunes v_along v_near v_borne v_tempo v_seed v_fault v_from v_at v_end v_told v_wrongAt v_culprit v_ran v_isKept w80_0 w136_0 w10_0 w108_0 w38_0 (upd (upd (upd (upd w136_1 r136.toNatClampNeg v_stretches) (r136 + 1).toNatClampNeg v_cars) (r136 + 2).toNatClampNeg v_tunes) (r136 + 3).toNatClampNeg v_along) w122_0 w94_0 w24_0 w66_0 w52_0) H := hP
    have hD : va_D A (wX10_all cI cJ cS a_o a_base a_beats a_kind a_notes a_other a_p1 a_pitch a_share a_space a_speed a_times z_refused z_steps z_held z_sort z_size z_shown z_cells z_carried z_words z_tell z_was z_kept z_cutSpace z_cutTimes z_cutOff z_trace n_p1 v_stretches v_cars v_tunes v_along v_near v_borne v_tempo v_seed v_fault v_from v_at v_end v_told v_wrongAt v_culprit v_ran v_isKept w80_0 w136_0 w10_0 w108_0 w38_0 (upd (upd (upd (upd w136_1 r136.toNatClampNeg v_stretches) (r136 + 1).toNatClampNeg v_cars) (r136 + 2).toNatClampNeg v_tunes) (r136 + 3).toNatClampNeg v_along) w122_0 w94_0 w24_0 w66_0 w52_0) := hD
    refine lv_aload_n hx hb dX10_all_253 rfl (lv_at hl 2 rfl) ?_
    refine lv_iload_n hx hb dX10_all_254 rfl (lv_at hl 0 rfl) ?_
    refine lv_iconst (v := 4) hx hb dX10_all_255 (by decide) ?_
    refine lv_iadd hx hb dX10_all_256 ?_
    refine lv_aload_n hx hb dX10_all_257 rfl (lv_at hl 1 rfl) ?_
    refine gf S hE hP 0 rfl rfl inX10 (k := 4) (by decide) q1097 rfl dX10_all_258 ?_
    obtain ⟨hi, h⟩ := h
    refine ias S hE hP hD hS 6 rfl hi dX10_all_261 (fun H locs hP hD hS => ?_)
    have hP : va_P D vwCl (wX10_all cI cJ cS a_o a_base a_beats a_kind a_notes a_other a_p1 a_pitch a_share a_space a_speed a_times z_refused z_steps z_held z_sort z_size z_shown z_cells z_carried z_words z_tell z_was z_kept z_cutSpace z_cutTimes z_cutOff z_trace n_p1 v_stretches v_cars v_tunes v_along v_near v_borne v_tempo v_seed v_fault v_from v_at v_end v_told v_wrongAt v_culprit v_ran v_isKept w80_0 w136_0 w10_0 w108_0 w38_0 (upd (upd (upd (upd (upd w136_1 r136.toNatClampNeg v_stretches) (r136 + 1).toNatClampNeg v_cars) (r136 + 2).toNatClampNeg v_tunes) (r136 + 3).toNatClampNeg v_along) (r136 + 4).toNatClampNeg v_near) w122_0 w94_0 w24_0 w66_0 w52_0) H := hP
    have hD : va_D A (wX10_all cI cJ cS a_o a_base a_beats a_kind a_notes a_other a_p1 a_pitch a_share a_space a_speed a_times z_refused z_steps z_held z_sort z_size z_shown z_cells z_carried z_words z_tell z_was z_kept z_cutSpace z_cutTimes z_cutOff z_trace n_p1 v_stretches v_cars v_tunes v_along v_near v_borne v_tempo v_seed v_fault v_from v_at v_end v_told v_wrongAt v_culprit v_ran v_isKept w80_0 w136_0 w10_0 w108_0 w38_0 (upd (upd (upd (upd (upd w136_1 r136.toNatClampNeg v_stretches) (r136 + 1).toNatClampNeg v_cars) (r136 + 2).toNatClampNeg v_tunes) (r136 + 3).toNatClampNeg v_along) (r136 + 4).toNatClampNeg v_near) w122_0 w94_0 w24_0 w66_0 w52_0) := hD
    refine lv_aload_n hx hb dX10_all_262 rfl (lv_at hl 2 rfl) ?_
    refine lv_iload_n hx hb dX10_all_263 rfl (lv_at hl 0 rfl) ?_
    refine lv_iconst (v := 5) hx hb dX10_all_264 (by decide) ?_
    refine lv_iadd hx hb dX10_all_265 ?_
    refine lv_aload_n hx hb dX10_all_266 rfl (lv_at hl 1 rfl) ?_
    refine gf S hE hP 0 rfl rfl inX10 (k := 5) (by decide) q1098 rfl dX10_all_267 ?_
    obtain ⟨hi, h⟩ := h
    refine ias S hE hP hD hS 6 rfl hi dX10_all_270 (fun H locs hP hD hS => ?_)
    have hP : va_P D vwCl (wX10_all cI cJ cS a_o a_base a_beats a_kind a_notes a_other a_p1 a_pitch a_share a_space a_speed a_times z_refused z_steps z_held z_sort z_size z_shown z_cells z_carried z_words z_tell z_was z_kept z_cutSpace z_cutTimes z_cutOff z_trace n_p1 v_stretches v_cars v_tunes v_along v_near v_borne v_tempo v_seed v_fault v_from v_at v_end v_told v_wrongAt v_culprit v_ran v_isKept w80_0 w136_0 w10_0 w108_0 w38_0 (upd (upd (upd (upd (upd (upd w136_1 r136.toNatClampNeg v_stretches) (r136 + 1).toNatClampNeg v_cars) (r136 + 2).toNatClampNeg v_tunes) (r136 + 3).toNatClampNeg v_along) (r136 + 4).toNatClampNeg v_near) (r136 + 5).toNatClampNeg v_borne) w122_0 w94_0 w24_0 w66_0 w52_0) H := hP
    have hD : va_D A (wX10_all cI cJ cS a_o a_base a_beats a_kind a_notes a_other a_p1 a_pitch a_share a_space a_speed a_times z_refused z_steps z_held z_sort z_size z_shown z_cells z_carried z_words z_tell z_was z_kept z_cutSpace z_cutTimes z_cutOff z_trace n_p1 v_stretches v_cars v_tunes v_along v_near v_borne v_tempo v_seed v_fault v_from v_at v_end v_told v_wrongAt v_culprit v_ran v_isKept w80_0 w136_0 w10_0 w108_0 w38_0 (upd (upd (upd (upd (upd (upd w136_1 r136.toNatClampNeg v_stretches) (r136 + 1).toNatClampNeg v_cars) (r136 + 2).toNatClampNeg v_tunes) (r136 + 3).toNatClampNeg v_along) (r136 + 4).toNatClampNeg v_near) (r136 + 5).toNatClampNeg v_borne) w122_0 w94_0 w24_0 w66_0 w52_0) := hD
    refine lv_aload_n hx hb dX10_all_271 rfl (lv_at hl 2 rfl) ?_
    refine lv_iload_n hx hb dX10_all_272 rfl (lv_at hl 0 rfl) ?_
    refine lv_bipush (v := 6) hx hb dX10_all_273 (by decide) ?_
    refine lv_iadd hx hb dX10_all_275 ?_
    refine lv_aload_n hx hb dX10_all_276 rfl (lv_at hl 1 rfl) ?_
    refine gf S hE hP 0 rfl rfl inX10 (k := 6) (by decide) q1099 rfl dX10_all_277 ?_
    obtain ⟨hi, h⟩ := h
    refine ias S hE hP hD hS 6 rfl hi dX10_all_280 (fun H locs hP hD hS => ?_)
    have hP : va_P D vwCl (wX10_all cI cJ cS a_o a_base a_beats a_kind a_notes a_other a_p1 a_pitch a_share a_space a_speed a_times z_refused z_steps z_held z_sort z_size z_shown z_cells z_carried z_words z_tell z_was z_kept z_cutSpace z_cutTimes z_cutOff z_trace n_p1 v_stretches v_cars v_tunes v_along v_near v_borne v_tempo v_seed v_fault v_from v_at v_end v_told v_wrongAt v_culprit v_ran v_isKept w80_0 w136_0 w10_0 w108_0 w38_0 (upd (upd (upd (upd (upd (upd (upd w136_1 r136.toNatClampNeg v_stretches) (r136 + 1).toNatClampNeg v_cars) (r136 + 2).toNatClampNeg v_tunes) (r136 + 3).toNatClampNeg v_along) (r136 + 4).toNatClampNeg v_near) (r136 + 5).toNatClampNeg v_borne) (r136 + 6).toNatClampNeg v_tempo) w122_0 w94_0 w24_0 w66_0 w52_0) H := hP
    have hD : va_D A (wX10_all cI cJ cS a_o a_base a_beats a_kind a_notes a_other a_p1 a_pitch a_share a_space a_speed a_times z_refused z_steps z_held z_sort z_size z_shown z_cells z_carried z_words z_tell z_was z_kept z_cutSpace z_cutTimes z_cutOff z_trace n_p1 v_stretches v_cars v_tunes v_along v_near v_borne v_tempo v_seed v_fault v_from v_at v_end v_told v_wrongAt v_culprit v_ran v_isKept w80_0 w136_0 w10_0 w108_0 w38_0 (upd (upd (upd (upd (upd (upd (upd w136_1 r136.toNatClampNeg v_stretches) (r136 + 1).toNatClampNeg v_cars) (r136 + 2).toNatClampNeg v_tunes) (r136 + 3).toNatClampNeg v_along) (r136 + 4).toNatClampNeg v_near) (r136 + 5).toNatClampNeg v_borne) (r136 + 6).toNatClampNeg v_tempo) w122_0 w94_0 w24_0 w66_0 w52_0) := hD
    refine lv_aload_n hx hb dX10_all_281 rfl (lv_at hl 2 rfl) ?_
    refine lv_iload_n hx hb dX10_all_282 rfl (lv_at hl 0 rfl) ?_
    refine lv_bipush (v := 7) hx hb dX10_all_283 (by decide) ?_
    refine lv_iadd hx hb dX10_all_285 ?_
    refine lv_aload_n hx hb dX10_all_286 rfl (lv_at hl 1 rfl) ?_
    refine gf S hE hP 0 rfl rfl inX10 (k := 7) (by decide) q1100 rfl dX10_all_287 ?_
    obtain ⟨hi, h⟩ := h
    refine ias S hE hP hD hS 6 rfl hi dX10_all_290 (fun H locs hP hD hS => ?_)
    have hP : va_P D vwCl (wX10_all cI cJ cS a_o a_base a_beats a_kind a_notes a_other a_p1 a_pitch a_share a_space a_speed a_times z_refused z_steps z_held z_sort z_size z_shown z_cells z_carried z_words z_tell z_was z_kept z_cutSpace z_cutTimes z_cutOff z_trace n_p1 v_stretches v_cars v_tunes v_along v_near v_borne v_tempo v_seed v_fault v_from v_at v_end v_told v_wrongAt v_culprit v_ran v_isKept w80_0 w136_0 w10_0 w108_0 w38_0 (upd (upd (upd (upd (upd (upd (upd (upd w136_1 r136.toNatClampNeg v_stretches) (r136 + 1).toNatClampNeg v_cars) (r136 + 2).toNatClampNeg v_tunes) (r136 + 3).toNatClampNeg v_along) (r136 + 4).toNatClampNeg v_near) (r136 + 5).toNatClampNeg v_borne) (r136 + 6).toNatClampNeg v_tempo) (r136 + 7).toNatClampNeg v_seed) w122_0 w94_0 w24_0 w66_0 w52_0) H := hP
    have hD : va_D A (wX10_all cI cJ cS a_o a_base a_beats a_kind a_notes a_other a_p1 a_pitch a_share a_space a_speed a_times z_refused z_steps z_held z_sort z_size z_shown z_cells z_carried z_words z_tell z_was z_kept z_cutSpace z_cutTimes z_cutOff z_trace n_p1 v_stretches v_cars v_tunes v_along v_near v_borne v_tempo v_seed v_fault v_from v_at v_end v_told v_wrongAt v_culprit v_ran v_isKept w80_0 w136_0 w10_0 w108_0 w38_0 (upd (upd (upd (upd (upd (upd (upd (upd w136_1 r136.toNatClampNeg v_stretches) (r136 + 1).toNatClampNeg v_cars) (r136 + 2).toNatClampNeg v_tunes) (r136 + 3).toNatClampNeg v_along) (r136 + 4).toNatClampNeg v_near) (r136 + 5).toNatClampNeg v_borne) (r136 + 6).toNatClampNeg v_tempo) (r136 + 7).toNatClampNeg v_seed) w122_0 w94_0 w24_0 w66_0 w52_0) := hD
    exact W.vret hx hb hr (fun t ht _ => ⟨⟨(v_stretches, v_cars, v_tunes, v_along, v_near, v_borne, v_tempo, v_seed, w80_0, w136_0, w10_0, w108_0, w38_0, (upd (upd (upd (upd (upd (upd (upd (upd w136_1 r136.toNatClampNeg v_stretches) (r136 + 1).toNatClampNeg v_cars) (r136 + 2).toNatClampNeg v_tunes) (r136 + 3).toNatClampNeg v_along) (r136 + 4).toNatClampNeg v_near) (r136 + 5).toNatClampNeg v_borne) (r136 + 6).toNatClampNeg v_tempo) (r136 + 7).toNatClampNeg v_seed), w122_0, w94_0, w24_0, w66_0, w52_0), rfl, h, hPt hP ht⟩, hS.F ht⟩) hS.2.2 dX10_all_291
  have h := h.2 hc
  refine lv_aload_n hx hb dX10_all_144 rfl (lv_at hl 1 rfl) ?_
  refine lv_aload_n hx hb dX10_all_145 rfl (lv_at hl 2 rfl) ?_
  refine lv_iload_n hx hb dX10_all_146 rfl (lv_at hl 0 rfl) ?_
  obtain ⟨hi, h⟩ := h
  refine ial S hE hP 6 rfl hi dX10_all_147 ?_
  refine pf S hE hP hD hS 0 (k := 0) rfl rfl inX10 tyX10_ok nmX10 (by decide) q1093 rfl rfl rfl (Nat.le_of_ble_eq_true rfl) dX10_all_148 (fun H locs hP hD hS => ?_)
  have hP : va_P D vwCl (wX10_all cI cJ cS a_o a_base a_beats a_kind a_notes a_other a_p1 a_pitch a_share a_space a_speed a_times z_refused z_steps z_held z_sort z_size z_shown z_cells z_carried z_words z_tell z_was z_kept z_cutSpace z_cutTimes z_cutOff z_trace n_p1 (w136_1 r136.toNatClampNeg) v_cars v_tunes v_along v_near v_borne v_tempo v_seed v_fault v_from v_at v_end v_told v_wrongAt v_culprit v_ran v_isKept w80_0 w136_0 w10_0 w108_0 w38_0 w136_1 w122_0 w94_0 w24_0 w66_0 w52_0) H := hP
  have hD : va_D A (wX10_all cI cJ cS a_o a_base a_beats a_kind a_notes a_other a_p1 a_pitch a_share a_space a_speed a_times z_refused z_steps z_held z_sort z_size z_shown z_cells z_carried z_words z_tell z_was z_kept z_cutSpace z_cutTimes z_cutOff z_trace n_p1 (w136_1 r136.toNatClampNeg) v_cars v_tunes v_along v_near v_borne v_tempo v_seed v_fault v_from v_at v_end v_told v_wrongAt v_culprit v_ran v_isKept w80_0 w136_0 w10_0 w108_0 w38_0 w136_1 w122_0 w94_0 w24_0 w66_0 w52_0) := hD
  refine lv_aload_n hx hb dX10_all_151 rfl (lv_at hl 1 rfl) ?_
  refine lv_aload_n hx hb dX10_all_152 rfl (lv_at hl 2 rfl) ?_
  refine lv_iload_n hx hb dX10_all_153 rfl (lv_at hl 0 rfl) ?_
  refine lv_iconst (v := 1) hx hb dX10_all_154 (by decide) ?_
  refine lv_iadd hx hb dX10_all_155 ?_
  obtain ⟨hi, h⟩ := h
  refine ial S hE hP 6 rfl hi dX10_all_156 ?_
  refine pf S hE hP hD hS 0 (k := 1) rfl rfl inX10 tyX10_ok nmX10 (by decide) q1094 rfl rfl rfl (Nat.le_of_ble_eq_true rfl) dX10_all_157 (fun H locs hP hD hS => ?_)
  have hP : va_P D vwCl (wX10_all cI cJ cS a_o a_base a_beats a_kind a_notes a_other a_p1 a_pitch a_share a_space a_speed a_times z_refused z_steps z_held z_sort z_size z_shown z_cells z_carried z_words z_tell z_was z_kept z_cutSpace z_cutTimes z_cutOff z_trace n_p1 (w136_1 r136.toNatClampNeg) (w136_1 (r136 + 1).toNatClampNeg) v_tunes v_along v_near v_borne v_tempo v_seed v_fault v_from v_at v_end v_told v_wrongAt v_culprit v_ran v_isKept w80_0 w136_0 w10_0 w108_0 w38_0 w136_1 w122_0 w94_0 w24_0 w66_0 w52_0) H := hP
  have hD : va_D A (wX10_all cI cJ cS a_o a_base a_beats a_kind a_notes a_other a_p1 a_pitch a_share a_space a_speed a_times z_refused z_steps z_held z_sort z_size z_shown z_cells z_carried z_words z_tell z_was z_kept z_cutSpace z_cutTimes z_cutOff z_trace n_p1 (w136_1 r136.toNatClampNeg) (w136_1 (r136 + 1).toNatClampNeg) v_tunes v_along v_near v_borne v_tempo v_seed v_fault v_from v_at v_end v_told v_wrongAt v_culprit v_ran v_isKept w80_0 w136_0 w10_0 w108_0 w38_0 w136_1 w122_0 w94_0 w24_0 w66_0 w52_0) := hD
  refine lv_aload_n hx hb dX10_all_160 rfl (lv_at hl 1 rfl) ?_
  refine lv_aload_n hx hb dX10_all_161 rfl (lv_at hl 2 rfl) ?_
  refine lv_iload_n hx hb dX10_all_162 rfl (lv_at hl 0 rfl) ?_
  refine lv_iconst (v := 2) hx hb dX10_all_163 (by decide) ?_
  refine lv_iadd hx hb dX10_all_164 ?_
  obtain ⟨hi, h⟩ := h
  refine ial S hE hP 6 rfl hi dX10_all_165 ?_
  refine pf S hE hP hD hS 0 (k := 2) rfl rfl inX10 tyX10_ok nmX10 (by decide) q1095 rfl rfl rfl (Nat.le_of_ble_eq_true rfl) dX10_all_166 (fun H locs hP hD hS => ?_)
  have hP : va_P D vwCl (wX10_all cI cJ cS a_o a_base a_beats a_kind a_notes a_other a_p1 a_pitch a_share a_space a_speed a_times z_refused z_steps z_held z_sort z_size z_shown z_cells z_carried z_words z_tell z_was z_kept z_cutSpace z_cutTimes z_cutOff z_trace n_p1 (w136_1 r136.toNatClampNeg) (w136_1 (r136 + 1).toNatClampNeg) (w136_1 (r136 + 2).toNatClampNeg) v_along v_near v_borne v_tempo v_seed v_fault v_from v_at v_end v_told v_wrongAt v_culprit v_ran v_isKept w80_0 w136_0 w10_0 w108_0 w38_0 w136_1 w122_0 w94_0 w24_0 w66_0 w52_0) H := hP
  have hD : va_D A (wX10_all cI cJ cS a_o a_base a_beats a_kind a_notes a_other a_p1 a_pitch a_share a_space a_speed a_times z_refused z_steps z_held z_sort z_size z_shown z_cells z_carried z_words z_tell z_was z_kept z_cutSpace z_cutTimes z_cutOff z_trace n_p1 (w136_1 r136.toNatClampNeg) (w136_1 (r136 + 1).toNatClampNeg) (w136_1 (r136 + 2).toNatClampNeg) v_along v_near v_borne v_tempo v_seed v_fault v_from v_at v_end v_told v_wrongAt v_culprit v_ran v_isKept w80_0 w136_0 w10_0 w108_0 w38_0 w136_1 w122_0 w94_0 w24_0 w66_0 w52_0) := hD
  refine lv_aload_n hx hb dX10_all_169 rfl (lv_at hl 1 rfl) ?_
  refine lv_aload_n hx hb dX10_all_170 rfl (lv_at hl 2 rfl) ?_
  refine lv_iload_n hx hb dX10_all_171 rfl (lv_at hl 0 rfl) ?_
  refine lv_iconst (v := 3) hx hb dX10_all_172 (by decide) ?_
  refine lv_iadd hx hb dX10_all_173 ?_
  obtain ⟨hi, h⟩ := h
  refine ial S hE hP 6 rfl hi dX10_all_174 ?_
  refine pf S hE hP hD hS 0 (k := 3) rfl rfl inX10 tyX10_ok nmX10 (by decide) q1096 rfl rfl rfl (Nat.le_of_ble_eq_true rfl) dX10_all_175 (fun H locs hP hD hS => ?_)
  have hP : va_P D vwCl (wX10_all cI cJ cS a_o a_base a_beats a_kind a_notes a_other a_p1 a_pitch a_share a_space a_speed a_times z_refused z_steps z_held z_sort z_size z_shown z_cells z_carried z_words z_tell z_was z_kept z_cutSpace z_cutTimes z_cutOff z_trace n_p1 (w136_1 r136.toNatClampNeg) (w136_1 (r136 + 1).toNatClampNeg) (w136_1 (r136 + 2).toNatClampNeg) (w136_1 (r136 + 3).toNatClampNeg) v_near v_borne v_tempo v_seed v_fault v_from v_at v_end v_told v_wrongAt v_culprit v_ran v_isKept w80_0 w136_0 w10_0 w108_0 w38_0 w136_1 w122_0 w94_0 w24_0 w66_0 w52_0) H := hP
  have hD : va_D A (wX10_all cI cJ cS a_o a_base a_beats a_kind a_notes a_other a_p1 a_pitch a_share a_space a_speed a_times z_refused z_steps z_held z_sort z_size z_shown z_cells z_carried z_words z_tell z_was z_kept z_cutSpace z_cutTimes z_cutOff z_trace n_p1 (w136_1 r136.toNatClampNeg) (w136_1 (r136 + 1).toNatClampNeg) (w136_1 (r136 + 2).toNatClampNeg) (w136_1 (r136 + 3).toNatClampNeg) v_near v_borne v_tempo v_seed v_fault v_from v_at v_end v_told v_wrongAt v_culprit v_ran v_isKept w80_0 w136_0 w10_0 w108_0 w38_0 w136_1 w122_0 w94_0 w24_0 w66_0 w52_0) := hD
  refine lv_aload_n hx hb dX10_all_178 rfl (lv_at hl 1 rfl) ?_
  refine lv_aload_n hx hb dX10_all_179 rfl (lv_at hl 2 rfl) ?_
  refine lv_iload_n hx hb dX10_all_180 rfl (lv_at hl 0 rfl) ?_
  refine lv_iconst (v := 4) hx hb dX10_all_181 (by decide) ?_
  refine lv_iadd hx hb dX10_all_182 ?_
  obtain ⟨hi, h⟩ := h
  refine ial S hE hP 6 rfl hi dX10_all_183 ?_
  refine pf S hE hP hD hS 0 (k := 4) rfl rfl inX10 tyX10_ok nmX10 (by decide) q1097 rfl rfl rfl (Nat.le_of_ble_eq_true rfl) dX10_all_184 (fun H locs hP hD hS => ?_)
  have hP : va_P D vwCl (wX10_all cI cJ cS a_o a_base a_beats a_kind a_notes a_other a_p1 a_pitch a_share a_space a_speed a_times z_refused z_steps z_held z_sort z_size z_shown z_cells z_carried z_words z_tell z_was z_kept z_cutSpace z_cutTimes z_cutOff z_trace n_p1 (w136_1 r136.toNatClampNeg) (w136_1 (r136 + 1).toNatClampNeg) (w136_1 (r136 + 2).toNatClampNeg) (w136_1 (r136 + 3).toNatClampNeg) (w136_1 (r136 + 4).toNatClampNeg) v_borne v_tempo v_seed v_fault v_from v_at v_end v_told v_wrongAt v_culprit v_ran v_isKept w80_0 w136_0 w10_0 w108_0 w38_0 w136_1 w122_0 w94_0 w24_0 w66_0 w52_0) H := hP
  have hD : va_D A (wX10_all cI cJ cS a_o a_base a_beats a_kind a_notes a_other a_p1 a_pitch a_share a_space a_speed a_times z_refused z_steps z_held z_sort z_size z_shown z_cells z_carried z_words z_tell z_was z_kept z_cutSpace z_cutTimes z_cutOff z_trace n_p1 (w136_1 r136.toNatClampNeg) (w136_1 (r136 + 1).toNatClampNeg) (w136_1 (r136 + 2).toNatClampNeg) (w136_1 (r136 + 3).toNatClampNeg) (w136_1 (r136 + 4).toNatClampNeg) v_borne v_tempo v_seed v_fault v_from v_at v_end v_told v_wrongAt v_culprit v_ran v_isKept w80_0 w136_0 w10_0 w108_0 w38_0 w136_1 w122_0 w94_0 w24_0 w66_0 w52_0) := hD
  refine lv_aload_n hx hb dX10_all_187 rfl (lv_at hl 1 rfl) ?_
  refine lv_aload_n hx hb dX10_all_188 rfl (lv_at hl 2 rfl) ?_
  refine lv_iload_n hx hb dX10_all_189 rfl (lv_at hl 0 rfl) ?_
  refine lv_iconst (v := 5) hx hb dX10_all_190 (by decide) ?_
  refine lv_iadd hx hb dX10_all_191 ?_
  obtain ⟨hi, h⟩ := h
  refine ial S hE hP 6 rfl hi dX10_all_192 ?_
  refine pf S hE hP hD hS 0 (k := 5) rfl rfl inX10 tyX10_ok nmX10 (by decide) q1098 rfl rfl rfl (Nat.le_of_ble_eq_true rfl) dX10_all_193 (fun H locs hP hD hS => ?_)
  have hP : va_P D vwCl (wX10_all cI cJ cS a_o a_base a_beats a_kind a_notes a_other a_p1 a_pitch a_share a_space a_speed a_times z_refused z_steps z_held z_sort z_size z_shown z_cells z_carried z_words z_tell z_was z_kept z_cutSpace z_cutTimes z_cutOff z_trace n_p1 (w136_1 r136.toNatClampNeg) (w136_1 (r136 + 1).toNatClampNeg) (w136_1 (r136 + 2).toNatClampNeg) (w136_1 (r136 + 3).toNatClampNeg) (w136_1 (r136 + 4).toNatClampNeg) (w136_1 (r136 + 5).toNatClampNeg) v_tempo v_seed v_fault v_from v_at v_end v_told v_wrongAt v_culprit v_ran v_isKept w80_0 w136_0 w10_0 w108_0 w38_0 w136_1 w122_0 w94_0 w24_0 w66_0 w52_0) H := hP
  have hD : va_D A (wX10_all cI cJ cS a_o a_base a_beats a_kind a_notes a_other a_p1 a_pitch a_share a_space a_speed a_times z_refused z_steps z_held z_sort z_size z_shown z_cells z_carried z_words z_tell z_was z_kept z_cutSpace z_cutTimes z_cutOff z_trace n_p1 (w136_1 r136.toNatClampNeg) (w136_1 (r136 + 1).toNatClampNeg) (w136_1 (r136 + 2).toNatClampNeg) (w136_1 (r136 + 3).toNatClampNeg) (w136_1 (r136 + 4).toNatClampNeg) (w136_1 (r136 + 5).toNatClampNeg) v_tempo v_seed v_fault v_from v_at v_end v_told v_wrongAt v_culprit v_ran v_isKept w80_0 w136_0 w10_0 w108_0 w38_0 w136_1 w122_0 w94_0 w24_0 w66_0 w52_0) := hD
  refine lv_aload_n hx hb dX10_all_196 rfl (lv_at hl 1 rfl) ?_
  refine lv_aload_n hx hb dX10_all_197 rfl (lv_at hl 2 rfl) ?_
  refine lv_iload_n hx hb dX10_all_198 rfl (lv_at hl 0 rfl) ?_
  refine lv_bipush (v := 6) hx hb dX10_all_199 (by decide) ?_
  refine lv_iadd hx hb dX10_all_201 ?_
  obtain ⟨hi, h⟩ := h
  refine ial S hE hP 6 rfl hi dX10_all_202 ?_
  refine pf S hE hP hD hS 0 (k := 6) rfl rfl inX10 tyX10_ok nmX10 (by decide) q1099 rfl rfl rfl (Nat.le_of_ble_eq_true rfl) dX10_all_203 (fun H locs hP hD hS => ?_)
  have hP : va_P D vwCl (wX10_all cI cJ cS a_o a_base a_beats a_kind a_notes a_other a_p1 a_pitch a_share a_space a_speed a_times z_refused z_steps z_held z_sort z_size z_shown z_cells z_carried z_words z_tell z_was z_kept z_cutSpace z_cutTimes z_cutOff z_trace n_p1 (w136_1 r136.toNatClampNeg) (w136_1 (r136 + 1).toNatClampNeg) (w136_1 (r136 + 2).toNatClampNeg) (w136_1 (r136 + 3).toNatClampNeg) (w136_1 (r136 + 4).toNatClampNeg) (w136_1 (r136 + 5).toNatClampNeg) (w136_1 (r136 + 6).toNatClampNeg) v_seed v_fault v_from v_at v_end v_told v_wrongAt v_culprit v_ran v_isKept w80_0 w136_0 w10_0 w108_0 w38_0 w136_1 w122_0 w94_0 w24_0 w66_0 w52_0) H := hP
  have hD : va_D A (wX10_all cI cJ cS a_o a_base a_beats a_kind a_notes a_other a_p1 a_pitch a_share a_space a_speed a_times z_refused z_steps z_held z_sort z_size z_shown z_cells z_carried z_words z_tell z_was z_kept z_cutSpace z_cutTimes z_cutOff z_trace n_p1 (w136_1 r136.toNatClampNeg) (w136_1 (r136 + 1).toNatClampNeg) (w136_1 (r136 + 2).toNatClampNeg) (w136_1 (r136 + 3).toNatClampNeg) (w136_1 (r136 + 4).toNatClampNeg) (w136_1 (r136 + 5).toNatClampNeg) (w136_1 (r136 + 6).toNatClampNeg) v_seed v_fault v_from v_at v_end v_told v_wrongAt v_culprit v_ran v_isKept w80_0 w136_0 w10_0 w108_0 w38_0 w136_1 w122_0 w94_0 w24_0 w66_0 w52_0) := hD
  refine lv_aload_n hx hb dX10_all_206 rfl (lv_at hl 1 rfl) ?_
  refine lv_aload_n hx hb dX10_all_207 rfl (lv_at hl 2 rfl) ?_
  refine lv_iload_n hx hb dX10_all_208 rfl (lv_at hl 0 rfl) ?_
  refine lv_bipush (v := 7) hx hb dX10_all_209 (by decide) ?_
  refine lv_iadd hx hb dX10_all_211 ?_
  obtain ⟨hi, h⟩ := h
  refine ial S hE hP 6 rfl hi dX10_all_212 ?_
  refine pf S hE hP hD hS 0 (k := 7) rfl rfl inX10 tyX10_ok nmX10 (by decide) q1100 rfl rfl rfl (Nat.le_of_ble_eq_true rfl) dX10_all_213 (fun H locs hP hD hS => ?_)
  have hP : va_P D vwCl (wX10_all cI cJ cS a_o a_base a_beats a_kind a_notes a_other a_p1 a_pitch a_share a_space a_speed a_times z_refused z_steps z_held z_sort z_size z_shown z_cells z_carried z_words z_tell z_was z_kept z_cutSpace z_cutTimes z_cutOff z_trace n_p1 (w136_1 r136.toNatClampNeg) (w136_1 (r136 + 1).toNatClampNeg) (w136_1 (r136 + 2).toNatClampNeg) (w136_1 (r136 + 3).toNatClampNeg) (w136_1 (r136 + 4).toNatClampNeg) (w136_1 (r136 + 5).toNatClampNeg) (w136_1 (r136 + 6).toNatClampNeg) (w136_1 (r136 + 7).toNatClampNeg) v_fault v_from v_at v_end v_told v_wrongAt v_culprit v_ran v_isKept w80_0 w136_0 w10_0 w108_0 w38_0 w136_1 w122_0 w94_0 w24_0 w66_0 w52_0) H := hP
  have hD : va_D A (wX10_all cI cJ cS a_o a_base a_beats a_kind a_notes a_other a_p1 a_pitch a_share a_space a_speed a_times z_refused z_steps z_held z_sort z_size z_shown z_cells z_carried z_words z_tell z_was z_kept z_cutSpace z_cutTimes z_cutOff z_trace n_p1 (w136_1 r136.toNatClampNeg) (w136_1 (r136 + 1).toNatClampNeg) (w136_1 (r136 + 2).toNatClampNeg) (w136_1 (r136 + 3).toNatClampNeg) (w136_1 (r136 + 4).toNatClampNeg) (w136_1 (r136 + 5).toNatClampNeg) (w136_1 (r136 + 6).toNatClampNeg) (w136_1 (r136 + 7).toNatClampNeg) v_fault v_from v_at v_end v_told v_wrongAt v_culprit v_ran v_isKept w80_0 w136_0 w10_0 w108_0 w38_0 w136_1 w122_0 w94_0 w24_0 w66_0 w52_0) := hD
  refine lv_goto (tgt := 291) hx hb dX10_all_216 (by decide) ?_
  exact W.vret hx hb hr (fun t ht _ => ⟨⟨((w136_1 r136.toNatClampNeg), (w136_1 (r136 + 1).toNatClampNeg), (w136_1 (r136 + 2).toNatClampNeg), (w136_1 (r136 + 3).toNatClampNeg), (w136_1 (r136 + 4).toNatClampNeg), (w136_1 (r136 + 5).toNatClampNeg), (w136_1 (r136 + 6).toNatClampNeg), (w136_1 (r136 + 7).toNatClampNeg), w80_0, w136_0, w10_0, w108_0, w38_0, w136_1, w122_0, w94_0, w24_0, w66_0, w52_0), rfl, h, hPt hP ht⟩, hS.F ht⟩) hS.2.2 dX10_all_291
/-! X10_book -/
abbrev wX10_book (cI cJ cS : ClassId) (a_o a_base a_beats a_cells a_held a_kind a_notes a_other a_pitch a_refused a_share a_size a_space a_speed a_tell a_times a_was a_words : Nat) (z_steps z_sort z_shown z_carried z_kept z_cutSpace z_cutTimes z_cutOff z_trace : Value) (v_stretches : Int32) (v_cars : Int32) (v_tunes : Int32) (v_along : Int32) (v_near : Int32) (v_borne : Int32) (v_tempo : Int32) (v_seed : Int32) (v_fault : Int32) (v_from : Int32) (v_at : Int32) (v_end : Int32) (v_told : Int32) (v_wrongAt : Int32) (v_culprit : Int32) (v_ran : Int32) (v_isKept : Int32) (f_base : Nat → Int32) (f_beats : Nat → Int32) (g_cells : Nat → Int64) (f_held : Nat → Int32) (f_kind : Nat → Int32) (f_notes : Nat → Int32) (f_other : Nat → Int32) (f_pitch : Nat → Int32) (f_refused : Nat → Int32) (f_share : Nat → Int32) (f_size : Nat → Int32) (f_space : Nat → Int32) (f_speed : Nat → Int32) (f_tell : Nat → Int32) (f_times : Nat → Int32) (f_was : Nat → Int32) (f_words : Nat → Int32) : va_W := [(a_o, .inr (9, [.int v_stretches, .int v_cars, .int v_tunes, .int v_along, .int v_near, .int v_borne, .int v_tempo, .int v_seed, .int v_fault, .ref a_refused, z_steps, .ref a_kind, .ref a_space, .ref a_other, .ref a_times, .ref a_speed, .ref a_base, .ref a_share, .ref a_notes, .ref a_pitch, .ref a_beats, .ref a_held, z_sort, .ref a_size, z_shown, .ref a_cells, z_carried, .ref a_words, .ref a_tell, .int v_from, .int v_at, .int v_end, .int v_told, .int v_wrongAt, .ref a_was, z_kept, .int v_culprit, z_cutSpace, z_cutTimes, z_cutOff, z_trace, .int v_ran, .int v_isKept])), (a_base, .inl (cI, 6, .inl f_base)), (a_beats, .inl (cI, 72, .inl f_beats)), (a_cells, .inl (cJ, 1280, .inr (.inl g_cells))), (a_held, .inl (cI, 8, .inl f_held)), (a_kind, .inl (cI, 16, .inl f_kind)), (a_notes, .inl (cI, 6, .inl f_notes)), (a_other, .inl (cI, 16, .inl f_other)), (a_pitch, .inl (cI, 72, .inl f_pitch)), (a_refused, .inl (cI, 8, .inl f_refused)), (a_share, .inl (cI, 6, .inl f_share)), (a_size, .inl (cI, 8, .inl f_size)), (a_space, .inl (cI, 16, .inl f_space)), (a_speed, .inl (cI, 6, .inl f_speed)), (a_tell, .inl (cI, 3, .inl f_tell)), (a_times, .inl (cI, 16, .inl f_times)), (a_was, .inl (cI, 240, .inl f_was)), (a_words, .inl (cI, 79, .inl f_words))]
def L_X10_book_62 (g_cells : Nat → Int64) (f_words : Nat → Int32) (v_from : Int32) (v_end : Int32) (k133 : Int32 → Int32 → Int32 → Int32 → Int32 → Int32 → Int32 → Int32 → Int32 → Int32 → Int32 → Int32 → (Nat → Int32) → (Nat → Int32) → (Nat → Int32) → (Nat → Int32) → (Nat → Int32) → (Nat → Int32) → (Nat → Int32) → (Nat → Int32) → (Nat → Int32) → (Nat → Int32) → (Nat → Int32) → Prop) : Nat → Int32 → Int32 → Int32 → Int32 → Int32 → Int32 → Int32 → Int32 → Int32 → Int32 → Int32 → Int32 → (Nat → Int32) → (Nat → Int32) → (Nat → Int32) → (Nat → Int32) → (Nat → Int32) → (Nat → Int32) → (Nat → Int32) → (Nat → Int32) → (Nat → Int32) → (Nat → Int32) → (Nat → Int32) → Prop
  | 0, _, _, _, _, _, _, _, _, _, _, _, _, _, _, _, _, _, _, _, _, _, _, _ => False
  | n62 + 1, x3, x4, v_stretches, v_cars, v_tunes, v_along, v_near, v_borne, v_tempo, v_at, v_told, v_wrongAt, f_base, f_beats, f_kind, f_notes, f_other, f_pitch, f_share, f_space, f_speed, f_tell, f_times => ((x4 = 0 → k133 x3 x4 v_stretches v_cars v_tunes v_along v_near v_borne v_tempo v_at v_told v_wrongAt f_base f_beats f_kind f_notes f_other f_pitch f_share f_space f_speed f_tell f_times) ∧ (¬ x4 = 0 → ((v_end ≤ v_at → k133 x3 x4 v_stretches v_cars v_tunes v_along v_near v_borne v_tempo v_at v_told v_wrongAt f_base f_beats f_kind f_notes f_other f_pitch f_share f_space f_speed f_tell f_times) ∧ (¬ v_end ≤ v_at → (vp_in (v_from + v_at) 1280 ∧ ((((g_cells (v_from + v_at).toNatClampNeg).toInt32) = 59 → (∀ x3_121 : Int32, x3_121 = x3 + 1 → (F_X10_item v_stretches v_cars v_tunes v_along v_near v_borne v_tempo v_from (v_at + 1) v_end v_told v_wrongAt f_base f_beats g_cells f_kind f_notes f_other f_pitch f_share f_space f_speed f_tell f_times f_words (fun r125 w125_0 w125_1 w125_2 w125_3 w125_4 w125_5 w125_6 w125_7 w125_8 w125_9 w125_10 w125_11 w125_12 w125_13 w125_14 w125_15 w125_16 w125_17 w125_18 w125_19 w125_20 => L_X10_book_62 g_cells f_words v_from v_end k133 n62 x3_121 r125 w125_0 w125_1 w125_2 w125_3 w125_4 w125_5 w125_6 w125_7 w125_8 w125_9 w125_10 w125_11 w125_12 w125_13 w125_14 w125_15 w125_16 w125_17 w125_18 w125_19 w125_20)))) ∧ (¬ ((g_cells (v_from + v_at).toNatClampNeg).toInt32) = 59 → (F_X10_wrong v_wrongAt v_at (fun r103 w103_0 => L_X10_book_62 g_cells f_words v_from v_end k133 n62 x3 r103 v_stretches v_cars v_tunes v_along v_near v_borne v_tempo v_at v_told w103_0 f_base f_beats f_kind f_notes f_other f_pitch f_share f_space f_speed f_tell f_times)))))))))
def F_X10_book_133 (post : Int32 → Int32 → Int32 → Int32 → Int32 → Int32 → Int32 → Int32 → Int32 → Int32 → Int32 → Int32 → Int32 → Int32 → Int32 → (Nat → Int32) → (Nat → Int32) → (Nat → Int32) → (Nat → Int32) → (Nat → Int32) → (Nat → Int32) → (Nat → Int32) → (Nat → Int32) → (Nat → Int32) → (Nat → Int32) → (Nat → Int32) → (Nat → Int32) → (Nat → Int32) → Prop) (x3 : Int32) (x4 : Int32) (v_stretches : Int32) (v_cars : Int32) (v_tunes : Int32) (v_along : Int32) (v_near : Int32) (v_borne : Int32) (v_tempo : Int32) (v_seed : Int32) (v_fault : Int32) (v_from : Int32) (v_at : Int32) (v_end : Int32) (v_told : Int32) (v_wrongAt : Int32) (f_base : Nat → Int32) (f_beats : Nat → Int32) (f_kind : Nat → Int32) (f_notes : Nat → Int32) (f_other : Nat → Int32) (f_pitch : Nat → Int32) (f_refused : Nat → Int32) (f_share : Nat → Int32) (f_space : Nat → Int32) (f_speed : Nat → Int32) (f_tell : Nat → Int32) (f_times : Nat → Int32) (f_was : Nat → Int32) : Prop := ((x4 = 0 → (F_X10_all 240 v_stretches v_cars v_tunes v_along v_near v_borne v_tempo v_seed f_base f_beats f_kind f_notes f_other f_was f_pitch f_share f_space f_speed f_times 1 (fun w146_0 w146_1 w146_2 w146_3 w146_4 w146_5 w146_6 w146_7 w146_8 w146_9 w146_10 w146_11 w146_12 w146_13 w146_14 w146_15 w146_16 w146_17 w146_18 => (F_X10_no f_refused (-6) (fun r160 w160_0 => post r160 w146_0 w146_1 w146_2 w146_3 w146_4 w146_5 w146_6 w146_7 v_wrongAt v_from v_at v_end v_told v_wrongAt w146_8 w146_9 w146_10 w146_11 w146_12 w146_14 w160_0 w146_15 w146_16 w146_17 f_tell w146_18 w146_13))))) ∧ (¬ x4 = 0 → post x3 v_stretches v_cars v_tunes v_along v_near v_borne v_tempo v_seed v_fault v_from v_at v_end v_told v_wrongAt f_base f_beats f_kind f_notes f_other f_pitch f_refused f_share f_space f_speed f_tell f_times f_was))
def F_X10_book (v_stretches : Int32) (v_cars : Int32) (v_tunes : Int32) (v_along : Int32) (v_near : Int32) (v_borne : Int32) (v_tempo : Int32) (v_seed : Int32) (v_fault : Int32) (v_from : Int32) (v_at : Int32) (v_end : Int32) (v_told : Int32) (v_wrongAt : Int32) (f_base : Nat → Int32) (f_beats : Nat → Int32) (g_cells : Nat → Int64) (f_held : Nat → Int32) (f_kind : Nat → Int32) (f_notes : Nat → Int32) (f_other : Nat → Int32) (f_pitch : Nat → Int32) (f_refused : Nat → Int32) (f_share : Nat → Int32) (f_size : Nat → Int32) (f_space : Nat → Int32) (f_speed : Nat → Int32) (f_tell : Nat → Int32) (f_times : Nat → Int32) (f_was : Nat → Int32) (f_words : Nat → Int32) (x1 : Int32) (post : Int32 → Int32 → Int32 → Int32 → Int32 → Int32 → Int32 → Int32 → Int32 → Int32 → Int32 → Int32 → Int32 → Int32 → Int32 → (Nat → Int32) → (Nat → Int32) → (Nat → Int32) → (Nat → Int32) → (Nat → Int32) → (Nat → Int32) → (Nat → Int32) → (Nat → Int32) → (Nat → Int32) → (Nat → Int32) → (Nat → Int32) → (Nat → Int32) → (Nat → Int32) → Prop) : Prop := (F_X10_wants f_held x1 (fun r2 => ((r2 = 0 → (F_X10_all 240 v_stretches v_cars v_tunes v_along v_near v_borne v_tempo v_seed f_base f_beats f_kind f_notes f_other f_was f_pitch f_share f_space f_speed f_times 0 (fun w22_0 w22_1 w22_2 w22_3 w22_4 w22_5 w22_6 w22_7 w22_8 w22_9 w22_10 w22_11 w22_12 w22_13 w22_14 w22_15 w22_16 w22_17 w22_18 => (vp_in x1 8 ∧ (F_X10_item w22_0 w22_1 w22_2 w22_3 w22_4 w22_5 w22_6 (160 * x1) 0 (f_size x1.toNatClampNeg) v_told v_wrongAt w22_8 w22_9 g_cells w22_10 w22_11 w22_12 w22_14 w22_15 w22_16 w22_17 f_tell w22_18 f_words (fun r57 w57_0 w57_1 w57_2 w57_3 w57_4 w57_5 w57_6 w57_7 w57_8 w57_9 w57_10 w57_11 w57_12 w57_13 w57_14 w57_15 w57_16 w57_17 w57_18 w57_19 w57_20 => (∃ n62 : Nat, L_X10_book_62 g_cells f_words (160 * x1) (f_size x1.toNatClampNeg) (fun x3_1 x4_2 v_stretches_3 v_cars_4 v_tunes_5 v_along_6 v_near_7 v_borne_8 v_tempo_9 v_at_10 v_told_11 v_wrongAt_12 f_base_13 f_beats_14 f_kind_15 f_notes_16 f_other_17 f_pitch_18 f_share_19 f_space_20 f_speed_21 f_tell_22 f_times_23 => F_X10_book_133 post x3_1 x4_2 v_stretches_3 v_cars_4 v_tunes_5 v_along_6 v_near_7 v_borne_8 v_tempo_9 w22_7 (-1) (160 * x1) v_at_10 (f_size x1.toNatClampNeg) v_told_11 v_wrongAt_12 f_base_13 f_beats_14 f_kind_15 f_notes_16 f_other_17 f_pitch_18 f_refused f_share_19 f_space_20 f_speed_21 f_tell_22 f_times_23 w22_13) n62 1 r57 w57_0 w57_1 w57_2 w57_3 w57_4 w57_5 w57_6 w57_7 w57_8 w57_9 w57_10 w57_11 w57_12 w57_13 w57_14 w57_15 w57_16 w57_17 w57_18 w57_19 w57_20))))))) ∧ (¬ r2 = 0 → (F_X10_no f_refused r2 (fun r12 w12_0 => post r12 v_stretches v_cars v_tunes v_along v_near v_borne v_tempo v_seed v_fault v_from v_at v_end v_told v_wrongAt f_base f_beats f_kind f_notes f_other f_pitch w12_0 f_share f_space f_speed f_tell f_times f_was))))))
set_option maxHeartbeats 4000000 in
set_option maxRecDepth 100000 in
theorem w_X10_book_62 {l : Launch} {D : va_G} {cI cJ cS : ClassId} {ad adK : Nat → Nat} {a_o a_base a_beats a_cells a_held a_kind a_notes a_other a_pitch a_refused a_share a_size a_space a_speed a_tell a_times a_was a_words : Nat} {z_steps z_sort z_shown z_carried z_kept z_cutSpace z_cutTimes z_cutOff z_trace : Value} {v_seed : Int32} {v_fault : Int32} {v_from : Int32} {v_end : Int32} {v_culprit : Int32} {v_ran : Int32} {v_isKept : Int32} {g_cells : Nat → Int64} {f_held : Nat → Int32} {f_refused : Nat → Int32} {f_size : Nat → Int32} {f_was : Nat → Int32} {f_words : Nat → Int32} {post : Int32 → Int32 → Int32 → Int32 → Int32 → Int32 → Int32 → Int32 → Int32 → Int32 → Int32 → Int32 → Int32 → Int32 → Int32 → (Nat → Int32) → (Nat → Int32) → (Nat → Int32) → (Nat → Int32) → (Nat → Int32) → (Nat → Int32) → (Nat → Int32) → (Nat → Int32) → (Nat → Int32) → (Nat → Int32) → (Nat → Int32) → (Nat → Int32) → (Nat → Int32) → Prop} {k133 : Int32 → Int32 → Int32 → Int32 → Int32 → Int32 → Int32 → Int32 → Int32 → Int32 → Int32 → Int32 → (Nat → Int32) → (Nat → Int32) → (Nat → Int32) → (Nat → Int32) → (Nat → Int32) → (Nat → Int32) → (Nat → Int32) → (Nat → Int32) → (Nat → Int32) → (Nat → Int32) → (Nat → Int32) → Prop} {p : Program} {e : Env} {s : State} {m : MethodId} {args : Array Value} {below : List Frame} {meth : Method} {c : Code} {A : Nat → Prop} (S : CallFix p m c cX10_book 5 s args GW "RoadThatSingsModel") (hE : EN D cI cJ cS s) (hT : ST ad adK A s s.heap) (hA : ∀ q : Nat, s.heap.size ≤ q → A q) (hr : meth.sig.returnType = (some (.int))) (hlocks : meth.locks = false) (hk133 : ∀ (x3 : Int32) (x4 : Int32) (v_stretches : Int32) (v_cars : Int32) (v_tunes : Int32) (v_along : Int32) (v_near : Int32) (v_borne : Int32) (v_tempo : Int32) (v_at : Int32) (v_told : Int32) (v_wrongAt : Int32) (f_base : Nat → Int32) (f_beats : Nat → Int32) (f_kind : Nat → Int32) (f_notes : Nat → Int32) (f_other : Nat → Int32) (f_pitch : Nat → Int32) (f_share : Nat → Int32) (f_space : Nat → Int32) (f_speed : Nat → Int32) (f_tell : Nat → Int32) (f_times : Nat → Int32) (H : Heap) (locs : List Loc) (ls : Array Slot), k133 x3 x4 v_stretches v_cars v_tunes v_along v_near v_borne v_tempo v_at v_told v_wrongAt f_base f_beats f_kind f_notes f_other f_pitch f_share f_space f_speed f_tell f_times → va_P D vwCl (wX10_book cI cJ cS a_o a_base a_beats a_cells a_held a_kind a_notes a_other a_pitch a_refused a_share a_size a_space a_speed a_tell a_times a_was a_words z_steps z_sort z_shown z_carried z_kept z_cutSpace z_cutTimes z_cutOff z_trace v_stretches v_cars v_tunes v_along v_near v_borne v_tempo v_seed v_fault v_from v_at v_end v_told v_wrongAt v_culprit v_ran v_isKept f_base f_beats g_cells f_held f_kind f_notes f_other f_pitch f_refused f_share f_size f_space f_speed f_tell f_times f_was f_words) H → va_D A (wX10_book cI cJ cS a_o a_base a_beats a_cells a_held a_kind a_notes a_other a_pitch a_refused a_share a_size a_space a_speed a_tell a_times a_was a_words z_steps z_sort z_shown z_carried z_kept z_cutSpace z_cutTimes z_cutOff z_trace v_stretches v_cars v_tunes v_along v_near v_borne v_tempo v_seed v_fault v_from v_at v_end v_told v_wrongAt v_culprit v_ran v_isKept f_base f_beats g_cells f_held f_kind f_notes f_other f_pitch f_refused f_share f_size f_space f_speed f_tell f_times f_was f_words) → va_S A s.heap H locs → lv_has ls 5 [(0, .ref a_o), (3, .int x3), (4, .int x4)] → W p l e (rmd 3 0 0) s m args below meth c H locs 0 0 (MQ below (va_Qi (fun r (u : Int32 × Int32 × Int32 × Int32 × Int32 × Int32 × Int32 × Int32 × Int32 × Int32 × Int32 × Int32 × Int32 × Int32 × (Nat → Int32) × (Nat → Int32) × (Nat → Int32) × (Nat → Int32) × (Nat → Int32) × (Nat → Int32) × (Nat → Int32) × (Nat → Int32) × (Nat → Int32) × (Nat → Int32) × (Nat → Int32) × (Nat → Int32) × (Nat → Int32)) => post r u.1 u.2.1 u.2.2.1 u.2.2.2.1 u.2.2.2.2.1 u.2.2.2.2.2.1 u.2.2.2.2.2.2.1 u.2.2.2.2.2.2.2.1 u.2.2.2.2.2.2.2.2.1 u.2.2.2.2.2.2.2.2.2.1 u.2.2.2.2.2.2.2.2.2.2.1 u.2.2.2.2.2.2.2.2.2.2.2.1 u.2.2.2.2.2.2.2.2.2.2.2.2.1 u.2.2.2.2.2.2.2.2.2.2.2.2.2.1 u.2.2.2.2.2.2.2.2.2.2.2.2.2.2.1 u.2.2.2.2.2.2.2.2.2.2.2.2.2.2.2.1 u.2.2.2.2.2.2.2.2.2.2.2.2.2.2.2.2.1 u.2.2.2.2.2.2.2.2.2.2.2.2.2.2.2.2.2.1 u.2.2.2.2.2.2.2.2.2.2.2.2.2.2.2.2.2.2.1 u.2.2.2.2.2.2.2.2.2.2.2.2.2.2.2.2.2.2.2.1 u.2.2.2.2.2.2.2.2.2.2.2.2.2.2.2.2.2.2.2.2.1 u.2.2.2.2.2.2.2.2.2.2.2.2.2.2.2.2.2.2.2.2.2.1 u.2.2.2.2.2.2.2.2.2.2.2.2.2.2.2.2.2.2.2.2.2.2.1 u.2.2.2.2.2.2.2.2.2.2.2.2.2.2.2.2.2.2.2.2.2.2.2.1 u.2.2.2.2.2.2.2.2.2.2.2.2.2.2.2.2.2.2.2.2.2.2.2.2.1 u.2.2.2.2.2.2.2.2.2.2.2.2.2.2.2.2.2.2.2.2.2.2.2.2.2.1 u.2.2.2.2.2.2.2.2.2.2.2.2.2.2.2.2.2.2.2.2.2.2.2.2.2.2) (fun u t => va_P D vwCl (wX10_book cI cJ cS a_o a_base a_beats a_cells a_held a_kind a_notes a_other a_pitch a_refused a_share a_size a_space a_speed a_tell a_times a_was a_words z_steps z_sort z_shown z_carried z_kept z_cutSpace z_cutTimes z_cutOff z_trace u.1 u.2.1 u.2.2.1 u.2.2.2.1 u.2.2.2.2.1 u.2.2.2.2.2.1 u.2.2.2.2.2.2.1 u.2.2.2.2.2.2.2.1 u.2.2.2.2.2.2.2.2.1 u.2.2.2.2.2.2.2.2.2.1 u.2.2.2.2.2.2.2.2.2.2.1 u.2.2.2.2.2.2.2.2.2.2.2.1 u.2.2.2.2.2.2.2.2.2.2.2.2.1 u.2.2.2.2.2.2.2.2.2.2.2.2.2.1 v_culprit v_ran v_isKept u.2.2.2.2.2.2.2.2.2.2.2.2.2.2.1 u.2.2.2.2.2.2.2.2.2.2.2.2.2.2.2.1 g_cells f_held u.2.2.2.2.2.2.2.2.2.2.2.2.2.2.2.2.1 u.2.2.2.2.2.2.2.2.2.2.2.2.2.2.2.2.2.1 u.2.2.2.2.2.2.2.2.2.2.2.2.2.2.2.2.2.2.1 u.2.2.2.2.2.2.2.2.2.2.2.2.2.2.2.2.2.2.2.1 u.2.2.2.2.2.2.2.2.2.2.2.2.2.2.2.2.2.2.2.2.1 u.2.2.2.2.2.2.2.2.2.2.2.2.2.2.2.2.2.2.2.2.2.1 f_size u.2.2.2.2.2.2.2.2.2.2.2.2.2.2.2.2.2.2.2.2.2.2.1 u.2.2.2.2.2.2.2.2.2.2.2.2.2.2.2.2.2.2.2.2.2.2.2.1 u.2.2.2.2.2.2.2.2.2.2.2.2.2.2.2.2.2.2.2.2.2.2.2.2.1 u.2.2.2.2.2.2.2.2.2.2.2.2.2.2.2.2.2.2.2.2.2.2.2.2.2.1 u.2.2.2.2.2.2.2.2.2.2.2.2.2.2.2.2.2.2.2.2.2.2.2.2.2.2 f_words) t.heap) A) args s 0 0 A) (F0 m 133 ls [])) : ∀ n : Nat, ∀ (x3 : Int32) (x4 : Int32) (v_stretches : Int32) (v_cars : Int32) (v_tunes : Int32) (v_along : Int32) (v_near : Int32) (v_borne : Int32) (v_tempo : Int32) (v_at : Int32) (v_told : Int32) (v_wrongAt : Int32) (f_base : Nat → Int32) (f_beats : Nat → Int32) (f_kind : Nat → Int32) (f_notes : Nat → Int32) (f_other : Nat → Int32) (f_pitch : Nat → Int32) (f_share : Nat → Int32) (f_space : Nat → Int32) (f_speed : Nat → Int32) (f_tell : Nat → Int32) (f_times : Nat → Int32) (H : Heap) (locs : List Loc) (ls : Array Slot), L_X10_book_62 g_cells f_words v_from v_end k133 n x3 x4 v_stretches v_cars v_tunes v_along v_near v_borne v_tempo v_at v_told v_wrongAt f_base f_beats f_kind f_notes f_other f_pitch f_share f_space f_speed f_tell f_times → va_P D vwCl (wX10_book cI cJ cS a_o a_base a_beats a_cells a_held a_kind a_notes a_other a_pitch a_refused a_share a_size a_space a_speed a_tell a_times a_was a_words z_steps z_sort z_shown z_carried z_kept z_cutSpace z_cutTimes z_cutOff z_trace v_stretches v_cars v_tunes v_along v_near v_borne v_tempo v_seed v_fault v_from v_at v_end v_told v_wrongAt v_culprit v_ran v_isKept f_base f_beats g_cells f_held f_kind f_notes f_other f_pitch f_refused f_share f_size f_space f_speed f_tell f_times f_was f_words) H → va_D A (wX10_book cI cJ cS a_o a_base a_beats a_cells a_held a_kind a_notes a_other a_pitch a_refused a_share a_size a_space a_speed a_tell a_times a_was a_words z_steps z_sort z_shown z_carried z_kept z_cutSpace z_cutTimes z_cutOff z_trace v_stretches v_cars v_tunes v_along v_near v_borne v_tempo v_seed v_fault v_from v_at v_end v_told v_wrongAt v_culprit v_ran v_isKept f_base f_beats g_cells f_held f_kind f_notes f_other f_pitch f_refused f_share f_size f_space f_speed f_tell f_times f_was f_words) → va_S A s.heap H locs → lv_has ls 5 [(0, .ref a_o), (3, .int x3), (4, .int x4)] → W p l e (rmd 3 0 0) s m args below meth c H locs 0 0 (MQ below (va_Qi (fun r (u : Int32 × Int32 × Int32 × Int32 × Int32 × Int32 × Int32 × Int32 × Int32 × Int32 × Int32 × Int32 × Int32 × Int32 × (Nat → Int32) × (Nat → Int32) × (Nat → Int32) × (Nat → Int32) × (Nat → Int32) × (Nat → Int32) × (Nat → Int32) × (Nat → Int32) × (Nat → Int32) × (Nat → Int32) × (Nat → Int32) × (Nat → Int32) × (Nat → Int32)) => post r u.1 u.2.1 u.2.2.1 u.2.2.2.1 u.2.2.2.2.1 u.2.2.2.2.2.1 u.2.2.2.2.2.2.1 u.2.2.2.2.2.2.2.1 u.2.2.2.2.2.2.2.2.1 u.2.2.2.2.2.2.2.2.2.1 u.2.2.2.2.2.2.2.2.2.2.1 u.2.2.2.2.2.2.2.2.2.2.2.1 u.2.2.2.2.2.2.2.2.2.2.2.2.1 u.2.2.2.2.2.2.2.2.2.2.2.2.2.1 u.2.2.2.2.2.2.2.2.2.2.2.2.2.2.1 u.2.2.2.2.2.2.2.2.2.2.2.2.2.2.2.1 u.2.2.2.2.2.2.2.2.2.2.2.2.2.2.2.2.1 u.2.2.2.2.2.2.2.2.2.2.2.2.2.2.2.2.2.1 u.2.2.2.2.2.2.2.2.2.2.2.2.2.2.2.2.2.2.1 u.2.2.2.2.2.2.2.2.2.2.2.2.2.2.2.2.2.2.2.1 u.2.2.2.2.2.2.2.2.2.2.2.2.2.2.2.2.2.2.2.2.1 u.2.2.2.2.2.2.2.2.2.2.2.2.2.2.2.2.2.2.2.2.2.1 u.2.2.2.2.2.2.2.2.2.2.2.2.2.2.2.2.2.2.2.2.2.2.1 u.2.2.2.2.2.2.2.2.2.2.2.2.2.2.2.2.2.2.2.2.2.2.2.1 u.2.2.2.2.2.2.2.2.2.2.2.2.2.2.2.2.2.2.2.2.2.2.2.2.1 u.2.2.2.2.2.2.2.2.2.2.2.2.2.2.2.2.2.2.2.2.2.2.2.2.2.1 u.2.2.2.2.2.2.2.2.2.2.2.2.2.2.2.2.2.2.2.2.2.2.2.2.2.2) (fun u t => va_P D vwCl (wX10_book cI cJ cS a_o a_base a_beats a_cells a_held a_kind a_notes a_other a_pitch a_refused a_share a_size a_space a_speed a_tell a_times a_was a_words z_steps z_sort z_shown z_carried z_kept z_cutSpace z_cutTimes z_cutOff z_trace u.1 u.2.1 u.2.2.1 u.2.2.2.1 u.2.2.2.2.1 u.2.2.2.2.2.1 u.2.2.2.2.2.2.1 u.2.2.2.2.2.2.2.1 u.2.2.2.2.2.2.2.2.1 u.2.2.2.2.2.2.2.2.2.1 u.2.2.2.2.2.2.2.2.2.2.1 u.2.2.2.2.2.2.2.2.2.2.2.1 u.2.2.2.2.2.2.2.2.2.2.2.2.1 u.2.2.2.2.2.2.2.2.2.2.2.2.2.1 v_culprit v_ran v_isKept u.2.2.2.2.2.2.2.2.2.2.2.2.2.2.1 u.2.2.2.2.2.2.2.2.2.2.2.2.2.2.2.1 g_cells f_held u.2.2.2.2.2.2.2.2.2.2.2.2.2.2.2.2.1 u.2.2.2.2.2.2.2.2.2.2.2.2.2.2.2.2.2.1 u.2.2.2.2.2.2.2.2.2.2.2.2.2.2.2.2.2.2.1 u.2.2.2.2.2.2.2.2.2.2.2.2.2.2.2.2.2.2.2.1 u.2.2.2.2.2.2.2.2.2.2.2.2.2.2.2.2.2.2.2.2.1 u.2.2.2.2.2.2.2.2.2.2.2.2.2.2.2.2.2.2.2.2.2.1 f_size u.2.2.2.2.2.2.2.2.2.2.2.2.2.2.2.2.2.2.2.2.2.2.1 u.2.2.2.2.2.2.2.2.2.2.2.2.2.2.2.2.2.2.2.2.2.2.2.1 u.2.2.2.2.2.2.2.2.2.2.2.2.2.2.2.2.2.2.2.2.2.2.2.2.1 u.2.2.2.2.2.2.2.2.2.2.2.2.2.2.2.2.2.2.2.2.2.2.2.2.2.1 u.2.2.2.2.2.2.2.2.2.2.2.2.2.2.2.2.2.2.2.2.2.2.2.2.2.2 f_words) t.heap) A) args s 0 0 A) (F0 m 62 ls []) := by
  intro n
  induction n with
  | zero =>
    intro x3 x4 v_stretches v_cars v_tunes v_along v_near v_borne v_tempo v_at v_told v_wrongAt f_base f_beats f_kind f_notes f_other f_pitch f_share f_space f_speed f_tell f_times H locs ls h hP hD hS hl
    exact h.elim
  | succ n ih =>
    intro x3 x4 v_stretches v_cars v_tunes v_along v_near v_borne v_tempo v_at v_told v_wrongAt f_base f_beats f_kind f_notes f_other f_pitch f_share f_space f_speed f_tell f_times H locs ls h hP hD hS hl
    rw [L_X10_book_62] at h
    have hx := S.1
    have hb := S.2.1
    refine lv_iload hx hb dX10_book_62 (lv_at hl 2 rfl) ?_
    refine lv_if_eq (tgt := 133) hx hb dX10_book_64 (by decide) (fun hc => ?_) (fun hc => ?_)
    · have h := h.1 hc
      exact hk133 _ _ _ _ _ _ _ _ _ _ _ _ _ _ _ _ _ _ _ _ _ _ _ _ _ _ h hP hD hS (lv_sub hl [0, 1, 2] rfl)
    have h := h.2 hc
    refine lv_aload_n hx hb dX10_book_67 rfl (lv_at hl 0 rfl) ?_
    refine gf S hE hP 0 rfl rfl inX10 (k := 30) (by decide) q1123 rfl dX10_book_68 ?_
    refine lv_aload_n hx hb dX10_book_71 rfl (lv_at hl 0 rfl) ?_
    refine gf S hE hP 0 rfl rfl inX10 (k := 31) (by decide) q1124 rfl dX10_book_72 ?_
    refine lv_icmp_ge (tgt := 133) hx hb dX10_book_75 (by decide) (fun hc => ?_) (fun hc => ?_)
    · have h := h.1 hc
      exact hk133 _ _ _ _ _ _ _ _ _ _ _ _ _ _ _ _ _ _ _ _ _ _ _ _ _ _ h hP hD hS (lv_sub hl [0, 1, 2] rfl)
    have h := h.2 hc
    refine lv_aload_n hx hb dX10_book_78 rfl (lv_at hl 0 rfl) ?_
    refine gf S hE hP 0 rfl rfl inX10 (k := 25) (by decide) q1118 rfl dX10_book_79 ?_
    refine lv_aload_n hx hb dX10_book_82 rfl (lv_at hl 0 rfl) ?_
    refine gf S hE hP 0 rfl rfl inX10 (k := 29) (by decide) q1122 rfl dX10_book_83 ?_
    refine lv_aload_n hx hb dX10_book_86 rfl (lv_at hl 0 rfl) ?_
    refine gf S hE hP 0 rfl rfl inX10 (k := 30) (by decide) q1123 rfl dX10_book_87 ?_
    refine lv_iadd hx hb dX10_book_90 ?_
    obtain ⟨hi, h⟩ := h
    refine lal S hE hP 3 rfl hi dX10_book_91 ?_
    refine lv_l2i hx hb dX10_book_92 rfl ?_
    refine lv_bipush (v := 59) hx hb dX10_book_93 (by decide) ?_
    refine lv_icmp_eq (tgt := 111) hx hb dX10_book_95 (by decide) (fun hc => ?_) (fun hc => ?_)
    · have h := h.1 hc
      refine lv_aload_n hx hb dX10_book_111 rfl (lv_at hl 0 rfl) ?_
      refine lv_dup hx hb dX10_book_112 rfl ?_
      refine gf S hE hP 0 rfl rfl inX10 (k := 30) (by decide) q1123 rfl dX10_book_113 ?_
      refine lv_iconst (v := 1) hx hb dX10_book_116 (by decide) ?_
      refine lv_iadd hx hb dX10_book_117 ?_
      refine pf S hE hP hD hS 0 (k := 30) rfl rfl inX10 tyX10_ok nmX10 (by decide) q1123 rfl rfl rfl (Nat.le_of_ble_eq_true rfl) dX10_book_118 (fun H locs hP hD hS => ?_)
      have hP : va_P D vwCl (wX10_book cI cJ cS a_o a_base a_beats a_cells a_held a_kind a_notes a_other a_pitch a_refused a_share a_size a_space a_speed a_tell a_times a_was a_words z_steps z_sort z_shown z_carried z_kept z_cutSpace z_cutTimes z_cutOff z_trace v_stretches v_cars v_tunes v_along v_near v_borne v_tempo v_seed v_fault v_from (v_at + 1) v_end v_told v_wrongAt v_culprit v_ran v_isKept f_base f_beats g_cells f_held f_kind f_notes f_other f_pitch f_refused f_share f_size f_space f_speed f_tell f_times f_was f_words) H := hP
      have hD : va_D A (wX10_book cI cJ cS a_o a_base a_beats a_cells a_held a_kind a_notes a_other a_pitch a_refused a_share a_size a_space a_speed a_tell a_times a_was a_words z_steps z_sort z_shown z_carried z_kept z_cutSpace z_cutTimes z_cutOff z_trace v_stretches v_cars v_tunes v_along v_near v_borne v_tempo v_seed v_fault v_from (v_at + 1) v_end v_told v_wrongAt v_culprit v_ran v_isKept f_base f_beats g_cells f_held f_kind f_notes f_other f_pitch f_refused f_share f_size f_space f_speed f_tell f_times f_was f_words) := hD
      obtain ⟨x3_121, ex3_121⟩ : ∃ z : Int32, z = x3 + 1 := ⟨_, rfl⟩
      have h := h _ ex3_121
      refine lv_iinc (v := x3_121) (lv' := [(3, .int x3_121), (0, .ref a_o), (4, .int x4)]) hx hb dX10_book_121 hl (k := 1) rfl (by rw [ex3_121]; rfl) (by decide) rfl (fun ls hl => ?_)
      refine lv_aload_n hx hb dX10_book_124 rfl (lv_at hl 1 rfl) ?_
      refine rw_i (rwV S hE hT hS hP hD hA (c_X10_item h) [0, 1, 2, 3, 5, 6, 7, 8, 10, 12, 13, 14, 15, 17] rfl (by decide +kernel) lkX10_226 rfl ⟨(Nat.le_of_ble_eq_true rfl), (Nat.le_of_ble_eq_true rfl)⟩ 0 rfl rfl hl.1 rfl (Nat.le_of_ble_eq_true rfl) dX10_book_125 ⟨(Nat.zero_le _), (Nat.zero_le _)⟩) hP hD hS hA [0, 1, 2, 3, 5, 6, 7, 8, 10, 12, 13, 14, 15, 17] rfl (by decide +kernel) (fun _ => rfl) (fun r125 u125 H locs h hP hD hS => ?_)
      obtain ⟨w125_0, w125_1, w125_2, w125_3, w125_4, w125_5, w125_6, w125_7, w125_8, w125_9, w125_10, w125_11, w125_12, w125_13, w125_14, w125_15, w125_16, w125_17, w125_18, w125_19, w125_20⟩ := u125
      try dsimp only at h
      have hP : va_P D vwCl (wX10_book cI cJ cS a_o a_base a_beats a_cells a_held a_kind a_notes a_other a_pitch a_refused a_share a_size a_space a_speed a_tell a_times a_was a_words z_steps z_sort z_shown z_carried z_kept z_cutSpace z_cutTimes z_cutOff z_trace w125_0 w125_1 w125_2 w125_3 w125_4 w125_5 w125_6 v_seed v_fault v_from w125_7 v_end w125_8 w125_9 v_culprit v_ran v_isKept w125_10 w125_11 g_cells f_held w125_12 w125_13 w125_14 w125_15 f_refused w125_16 f_size w125_17 w125_18 w125_19 w125_20 f_was f_words) H := wsetP 18 [4, 9, 11, 16] hP rfl ⟨rfl, rfl, rfl, rfl, trivial⟩ rfl rfl (by decide +kernel) (by decide +kernel) (by decide +kernel)
      have hD : va_D A (wX10_book cI cJ cS a_o a_base a_beats a_cells a_held a_kind a_notes a_other a_pitch a_refused a_share a_size a_space a_speed a_tell a_times a_was a_words z_steps z_sort z_shown z_carried z_kept z_cutSpace z_cutTimes z_cutOff z_trace w125_0 w125_1 w125_2 w125_3 w125_4 w125_5 w125_6 v_seed v_fault v_from w125_7 v_end w125_8 w125_9 v_culprit v_ran v_isKept w125_10 w125_11 g_cells f_held w125_12 w125_13 w125_14 w125_15 f_refused w125_16 f_size w125_17 w125_18 w125_19 w125_20 f_was f_words) := wsetD 18 [4, 9, 11, 16] hD rfl ⟨rfl, rfl, rfl, rfl, trivial⟩ rfl rfl (by decide +kernel) (by decide +kernel) (by decide +kernel)
      refine lv_istore (lv' := [(4, .int r125), (3, .int x3_121), (0, .ref a_o)]) hx hb dX10_book_128 hl (by decide) rfl (fun ls hl => ?_)
      refine lv_goto (tgt := 62) hx hb dX10_book_130 (by decide) ?_
      exact ih _ _ _ _ _ _ _ _ _ _ _ _ _ _ _ _ _ _ _ _ _ _ _ _ _ _ h hP hD hS (lv_sub hl [2, 1, 0] rfl)
    have h := h.2 hc
    refine lv_aload_n hx hb dX10_book_98 rfl (lv_at hl 0 rfl) ?_
    refine lv_aload_n hx hb dX10_book_99 rfl (lv_at hl 0 rfl) ?_
    refine gf S hE hP 0 rfl rfl inX10 (k := 30) (by decide) q1123 rfl dX10_book_100 ?_
    refine rw_i (rwV S hE hT hS hP hD hA (c_X10_wrong h) [0] rfl (by decide +kernel) lkX10_193 rfl ⟨(Nat.le_of_ble_eq_true rfl), (Nat.le_of_ble_eq_true rfl)⟩ 0 rfl rfl hl.1 rfl (Nat.le_of_ble_eq_true rfl) dX10_book_103 ⟨(Nat.zero_le _), (Nat.zero_le _)⟩) hP hD hS hA [0] rfl (by decide +kernel) (fun _ => rfl) (fun r103 w103_0 H locs h hP hD hS => ?_)
    try dsimp only at h
    have hP : va_P D vwCl (wX10_book cI cJ cS a_o a_base a_beats a_cells a_held a_kind a_notes a_other a_pitch a_refused a_share a_size a_space a_speed a_tell a_times a_was a_words z_steps z_sort z_shown z_carried z_kept z_cutSpace z_cutTimes z_cutOff z_trace v_stretches v_cars v_tunes v_along v_near v_borne v_tempo v_seed v_fault v_from v_at v_end v_told w103_0 v_culprit v_ran v_isKept f_base f_beats g_cells f_held f_kind f_notes f_other f_pitch f_refused f_share f_size f_space f_speed f_tell f_times f_was f_words) H := hP
    have hD : va_D A (wX10_book cI cJ cS a_o a_base a_beats a_cells a_held a_kind a_notes a_other a_pitch a_refused a_share a_size a_space a_speed a_tell a_times a_was a_words z_steps z_sort z_shown z_carried z_kept z_cutSpace z_cutTimes z_cutOff z_trace v_stretches v_cars v_tunes v_along v_near v_borne v_tempo v_seed v_fault v_from v_at v_end v_told w103_0 v_culprit v_ran v_isKept f_base f_beats g_cells f_held f_kind f_notes f_other f_pitch f_refused f_share f_size f_space f_speed f_tell f_times f_was f_words) := hD
    refine lv_istore (lv' := [(4, .int r103), (0, .ref a_o), (3, .int x3)]) hx hb dX10_book_106 hl (by decide) rfl (fun ls hl => ?_)
    refine lv_goto (tgt := 62) hx hb dX10_book_108 (by decide) ?_
    exact ih _ _ _ _ _ _ _ _ _ _ _ _ _ _ _ _ _ _ _ _ _ _ _ _ _ _ h hP hD hS (lv_sub hl [1, 2, 0] rfl)
set_option maxHeartbeats 4000000 in
set_option maxRecDepth 100000 in
theorem w_X10_book_133 {l : Launch} {D : va_G} {cI cJ cS : ClassId} {ad adK : Nat → Nat} {a_o a_base a_beats a_cells a_held a_kind a_notes a_other a_pitch a_refused a_share a_size a_space a_speed a_tell a_times a_was a_words : Nat} {z_steps z_sort z_shown z_carried z_kept z_cutSpace z_cutTimes z_cutOff z_trace : Value} {v_stretches : Int32} {v_cars : Int32} {v_tunes : Int32} {v_along : Int32} {v_near : Int32} {v_borne : Int32} {v_tempo : Int32} {v_seed : Int32} {v_fault : Int32} {v_from : Int32} {v_at : Int32} {v_end : Int32} {v_told : Int32} {v_wrongAt : Int32} {v_culprit : Int32} {v_ran : Int32} {v_isKept : Int32} {f_base : Nat → Int32} {f_beats : Nat → Int32} {g_cells : Nat → Int64} {f_held : Nat → Int32} {f_kind : Nat → Int32} {f_notes : Nat → Int32} {f_other : Nat → Int32} {f_pitch : Nat → Int32} {f_refused : Nat → Int32} {f_share : Nat → Int32} {f_size : Nat → Int32} {f_space : Nat → Int32} {f_speed : Nat → Int32} {f_tell : Nat → Int32} {f_times : Nat → Int32} {f_was : Nat → Int32} {f_words : Nat → Int32} {x3 : Int32} {x4 : Int32} {post : Int32 → Int32 → Int32 → Int32 → Int32 → Int32 → Int32 → Int32 → Int32 → Int32 → Int32 → Int32 → Int32 → Int32 → Int32 → (Nat → Int32) → (Nat → Int32) → (Nat → Int32) → (Nat → Int32) → (Nat → Int32) → (Nat → Int32) → (Nat → Int32) → (Nat → Int32) → (Nat → Int32) → (Nat → Int32) → (Nat → Int32) → (Nat → Int32) → (Nat → Int32) → Prop} {p : Program} {e : Env} {s : State} {m : MethodId} {args : Array Value} {below : List Frame} {meth : Method} {c : Code} {A : Nat → Prop} (S : CallFix p m c cX10_book 5 s args GW "RoadThatSingsModel") (hE : EN D cI cJ cS s) (hT : ST ad adK A s s.heap) (hA : ∀ q : Nat, s.heap.size ≤ q → A q) (hr : meth.sig.returnType = (some (.int))) (hlocks : meth.locks = false) : ∀ (H : Heap) (locs : List Loc) (ls : Array Slot), F_X10_book_133 post x3 x4 v_stretches v_cars v_tunes v_along v_near v_borne v_tempo v_seed v_fault v_from v_at v_end v_told v_wrongAt f_base f_beats f_kind f_notes f_other f_pitch f_refused f_share f_space f_speed f_tell f_times f_was → va_P D vwCl (wX10_book cI cJ cS a_o a_base a_beats a_cells a_held a_kind a_notes a_other a_pitch a_refused a_share a_size a_space a_speed a_tell a_times a_was a_words z_steps z_sort z_shown z_carried z_kept z_cutSpace z_cutTimes z_cutOff z_trace v_stretches v_cars v_tunes v_along v_near v_borne v_tempo v_seed v_fault v_from v_at v_end v_told v_wrongAt v_culprit v_ran v_isKept f_base f_beats g_cells f_held f_kind f_notes f_other f_pitch f_refused f_share f_size f_space f_speed f_tell f_times f_was f_words) H → va_D A (wX10_book cI cJ cS a_o a_base a_beats a_cells a_held a_kind a_notes a_other a_pitch a_refused a_share a_size a_space a_speed a_tell a_times a_was a_words z_steps z_sort z_shown z_carried z_kept z_cutSpace z_cutTimes z_cutOff z_trace v_stretches v_cars v_tunes v_along v_near v_borne v_tempo v_seed v_fault v_from v_at v_end v_told v_wrongAt v_culprit v_ran v_isKept f_base f_beats g_cells f_held f_kind f_notes f_other f_pitch f_refused f_share f_size f_space f_speed f_tell f_times f_was f_words) → va_S A s.heap H locs → lv_has ls 5 [(0, .ref a_o), (3, .int x3), (4, .int x4)] → W p l e (rmd 3 0 0) s m args below meth c H locs 0 0 (MQ below (va_Qi (fun r (u : Int32 × Int32 × Int32 × Int32 × Int32 × Int32 × Int32 × Int32 × Int32 × Int32 × Int32 × Int32 × Int32 × Int32 × (Nat → Int32) × (Nat → Int32) × (Nat → Int32) × (Nat → Int32) × (Nat → Int32) × (Nat → Int32) × (Nat → Int32) × (Nat → Int32) × (Nat → Int32) × (Nat → Int32) × (Nat → Int32) × (Nat → Int32) × (Nat → Int32)) => post r u.1 u.2.1 u.2.2.1 u.2.2.2.1 u.2.2.2.2.1 u.2.2.2.2.2.1 u.2.2.2.2.2.2.1 u.2.2.2.2.2.2.2.1 u.2.2.2.2.2.2.2.2.1 u.2.2.2.2.2.2.2.2.2.1 u.2.2.2.2.2.2.2.2.2.2.1 u.2.2.2.2.2.2.2.2.2.2.2.1 u.2.2.2.2.2.2.2.2.2.2.2.2.1 u.2.2.2.2.2.2.2.2.2.2.2.2.2.1 u.2.2.2.2.2.2.2.2.2.2.2.2.2.2.1 u.2.2.2.2.2.2.2.2.2.2.2.2.2.2.2.1 u.2.2.2.2.2.2.2.2.2.2.2.2.2.2.2.2.1 u.2.2.2.2.2.2.2.2.2.2.2.2.2.2.2.2.2.1 u.2.2.2.2.2.2.2.2.2.2.2.2.2.2.2.2.2.2.1 u.2.2.2.2.2.2.2.2.2.2.2.2.2.2.2.2.2.2.2.1 u.2.2.2.2.2.2.2.2.2.2.2.2.2.2.2.2.2.2.2.2.1 u.2.2.2.2.2.2.2.2.2.2.2.2.2.2.2.2.2.2.2.2.2.1 u.2.2.2.2.2.2.2.2.2.2.2.2.2.2.2.2.2.2.2.2.2.2.1 u.2.2.2.2.2.2.2.2.2.2.2.2.2.2.2.2.2.2.2.2.2.2.2.1 u.2.2.2.2.2.2.2.2.2.2.2.2.2.2.2.2.2.2.2.2.2.2.2.2.1 u.2.2.2.2.2.2.2.2.2.2.2.2.2.2.2.2.2.2.2.2.2.2.2.2.2.1 u.2.2.2.2.2.2.2.2.2.2.2.2.2.2.2.2.2.2.2.2.2.2.2.2.2.2) (fun u t => va_P D vwCl (wX10_book cI cJ cS a_o a_base a_beats a_cells a_held a_kind a_notes a_other a_pitch a_refused a_share a_size a_space a_speed a_tell a_times a_was a_words z_steps z_sort z_shown z_carried z_kept z_cutSpace z_cutTimes z_cutOff z_trace u.1 u.2.1 u.2.2.1 u.2.2.2.1 u.2.2.2.2.1 u.2.2.2.2.2.1 u.2.2.2.2.2.2.1 u.2.2.2.2.2.2.2.1 u.2.2.2.2.2.2.2.2.1 u.2.2.2.2.2.2.2.2.2.1 u.2.2.2.2.2.2.2.2.2.2.1 u.2.2.2.2.2.2.2.2.2.2.2.1 u.2.2.2.2.2.2.2.2.2.2.2.2.1 u.2.2.2.2.2.2.2.2.2.2.2.2.2.1 v_culprit v_ran v_isKept u.2.2.2.2.2.2.2.2.2.2.2.2.2.2.1 u.2.2.2.2.2.2.2.2.2.2.2.2.2.2.2.1 g_cells f_held u.2.2.2.2.2.2.2.2.2.2.2.2.2.2.2.2.1 u.2.2.2.2.2.2.2.2.2.2.2.2.2.2.2.2.2.1 u.2.2.2.2.2.2.2.2.2.2.2.2.2.2.2.2.2.2.1 u.2.2.2.2.2.2.2.2.2.2.2.2.2.2.2.2.2.2.2.1 u.2.2.2.2.2.2.2.2.2.2.2.2.2.2.2.2.2.2.2.2.1 u.2.2.2.2.2.2.2.2.2.2.2.2.2.2.2.2.2.2.2.2.2.1 f_size u.2.2.2.2.2.2.2.2.2.2.2.2.2.2.2.2.2.2.2.2.2.2.1 u.2.2.2.2.2.2.2.2.2.2.2.2.2.2.2.2.2.2.2.2.2.2.2.1 u.2.2.2.2.2.2.2.2.2.2.2.2.2.2.2.2.2.2.2.2.2.2.2.2.1 u.2.2.2.2.2.2.2.2.2.2.2.2.2.2.2.2.2.2.2.2.2.2.2.2.2.1 u.2.2.2.2.2.2.2.2.2.2.2.2.2.2.2.2.2.2.2.2.2.2.2.2.2.2 f_words) t.heap) A) args s 0 0 A) (F0 m 133 ls []) := by
  intro  H locs ls h hP hD hS hl
  unfold F_X10_book_133 at h
  have hx := S.1
  have hb := S.2.1
  refine lv_iload hx hb dX10_book_133 (lv_at hl 2 rfl) ?_
  refine lv_if_eq (tgt := 140) hx hb dX10_book_135 (by decide) (fun hc => ?_) (fun hc => ?_)
  · have h := h.1 hc
    refine lv_aload_n hx hb dX10_book_140 rfl (lv_at hl 0 rfl) ?_
    refine lv_aload_n hx hb dX10_book_141 rfl (lv_at hl 0 rfl) ?_
    refine gf S hE hP 0 rfl rfl inX10 (k := 34) (by decide) q1127 rfl dX10_book_142 ?_
    refine lv_iconst (v := 1) hx hb dX10_book_145 (by decide) ?_
    refine rw_v (rwV S hE hT hS hP hD hA (c_X10_all h) [0, 1, 2, 5, 6, 7, 16, 8, 10, 12, 13, 15] rfl (by decide +kernel) lkX10_222 rfl ⟨(Nat.le_of_ble_eq_true rfl), (Nat.le_of_ble_eq_true rfl)⟩ 0 rfl rfl hl.1 rfl (Nat.le_of_ble_eq_true rfl) dX10_book_146 ⟨(Nat.zero_le _), (Nat.zero_le _)⟩) hP hD hS hA [0, 1, 2, 5, 6, 7, 16, 8, 10, 12, 13, 15] rfl (by decide +kernel) (fun _ => rfl) (fun u146 H locs h hP hD hS => ?_)
    obtain ⟨w146_0, w146_1, w146_2, w146_3, w146_4, w146_5, w146_6, w146_7, w146_8, w146_9, w146_10, w146_11, w146_12, w146_13, w146_14, w146_15, w146_16, w146_17, w146_18⟩ := u146
    try dsimp only at h
    have hP : va_P D vwCl (wX10_book cI cJ cS a_o a_base a_beats a_cells a_held a_kind a_notes a_other a_pitch a_refused a_share a_size a_space a_speed a_tell a_times a_was a_words z_steps z_sort z_shown z_carried z_kept z_cutSpace z_cutTimes z_cutOff z_trace w146_0 w146_1 w146_2 w146_3 w146_4 w146_5 w146_6 w146_7 v_fault v_from v_at v_end v_told v_wrongAt v_culprit v_ran v_isKept w146_8 w146_9 g_cells f_held w146_10 w146_11 w146_12 w146_14 f_refused w146_15 f_size w146_16 w146_17 f_tell w146_18 w146_13 f_words) H := wsetP 18 [3, 4, 9, 11, 14, 17] hP rfl ⟨rfl, rfl, rfl, rfl, rfl, rfl, trivial⟩ rfl rfl (by decide +kernel) (by decide +kernel) (by decide +kernel)
    have hD : va_D A (wX10_book cI cJ cS a_o a_base a_beats a_cells a_held a_kind a_notes a_other a_pitch a_refused a_share a_size a_space a_speed a_tell a_times a_was a_words z_steps z_sort z_shown z_carried z_kept z_cutSpace z_cutTimes z_cutOff z_trace w146_0 w146_1 w146_2 w146_3 w146_4 w146_5 w146_6 w146_7 v_fault v_from v_at v_end v_told v_wrongAt v_culprit v_ran v_isKept w146_8 w146_9 g_cells f_held w146_10 w146_11 w146_12 w146_14 f_refused w146_15 f_size w146_16 w146_17 f_tell w146_18 w146_13 f_words) := wsetD 18 [3, 4, 9, 11, 14, 17] hD rfl ⟨rfl, rfl, rfl, rfl, rfl, rfl, trivial⟩ rfl rfl (by decide +kernel) (by decide +kernel) (by decide +kernel)
    refine lv_aload_n hx hb dX10_book_149 rfl (lv_at hl 0 rfl) ?_
    refine lv_aload_n hx hb dX10_book_150 rfl (lv_at hl 0 rfl) ?_
    refine gf S hE hP 0 rfl rfl inX10 (k := 33) (by decide) q1126 rfl dX10_book_151 ?_
    refine pf S hE hP hD hS 0 (k := 8) rfl rfl inX10 tyX10_ok nmX10 (by decide) q1101 rfl rfl rfl (Nat.le_of_ble_eq_true rfl) dX10_book_154 (fun H locs hP hD hS => ?_)
    have hP : va_P D vwCl (wX10_book cI cJ cS a_o a_base a_beats a_cells a_held a_kind a_notes a_other a_pitch a_refused a_share a_size a_space a_speed a_tell a_times a_was a_words z_steps z_sort z_shown z_carried z_kept z_cutSpace z_cutTimes z_cutOff z_trace w146_0 w146_1 w146_2 w146_3 w146_4 w146_5 w146_6 w146_7 v_wrongAt v_from v_at v_end v_told v_wrongAt v_culprit v_ran v_isKept w146_8 w146_9 g_cells f_held w146_10 w146_11 w146_12 w146_14 f_refused w146_15 f_size w146_16 w146_17 f_tell w146_18 w146_13 f_words) H := hP
    have hD : va_D A (wX10_book cI cJ cS a_o a_base a_beats a_cells a_held a_kind a_notes a_other a_pitch a_refused a_share a_size a_space a_speed a_tell a_times a_was a_words z_steps z_sort z_shown z_carried z_kept z_cutSpace z_cutTimes z_cutOff z_trace w146_0 w146_1 w146_2 w146_3 w146_4 w146_5 w146_6 w146_7 v_wrongAt v_from v_at v_end v_told v_wrongAt v_culprit v_ran v_isKept w146_8 w146_9 g_cells f_held w146_10 w146_11 w146_12 w146_14 f_refused w146_15 f_size w146_16 w146_17 f_tell w146_18 w146_13 f_words) := hD
    refine lv_aload_n hx hb dX10_book_157 rfl (lv_at hl 0 rfl) ?_
    refine lv_bipush (v := (-6)) hx hb dX10_book_158 (by decide) ?_
    refine rw_i (rwV S hE hT hS hP hD hA (c_X10_no h) [0, 9] rfl (by decide +kernel) lkX10_121 rfl ⟨(Nat.le_of_ble_eq_true rfl), (Nat.le_of_ble_eq_true rfl)⟩ 0 rfl rfl hl.1 rfl (Nat.le_of_ble_eq_true rfl) dX10_book_160 ⟨(Nat.zero_le _), (Nat.zero_le _)⟩) hP hD hS hA [0, 9] rfl (by decide +kernel) (fun _ => rfl) (fun r160 w160_0 H locs h hP hD hS => ?_)
    try dsimp only at h
    have hP : va_P D vwCl (wX10_book cI cJ cS a_o a_base a_beats a_cells a_held a_kind a_notes a_other a_pitch a_refused a_share a_size a_space a_speed a_tell a_times a_was a_words z_steps z_sort z_shown z_carried z_kept z_cutSpace z_cutTimes z_cutOff z_trace w146_0 w146_1 w146_2 w146_3 w146_4 w146_5 w146_6 w146_7 v_wrongAt v_from v_at v_end v_told v_wrongAt v_culprit v_ran v_isKept w146_8 w146_9 g_cells f_held w146_10 w146_11 w146_12 w146_14 w160_0 w146_15 f_size w146_16 w146_17 f_tell w146_18 w146_13 f_words) H := hP
    have hD : va_D A (wX10_book cI cJ cS a_o a_base a_beats a_cells a_held a_kind a_notes a_other a_pitch a_refused a_share a_size a_space a_speed a_tell a_times a_was a_words z_steps z_sort z_shown z_carried z_kept z_cutSpace z_cutTimes z_cutOff z_trace w146_0 w146_1 w146_2 w146_3 w146_4 w146_5 w146_6 w146_7 v_wrongAt v_from v_at v_end v_told v_wrongAt v_culprit v_ran v_isKept w146_8 w146_9 g_cells f_held w146_10 w146_11 w146_12 w146_14 w160_0 w146_15 f_size w146_16 w146_17 f_tell w146_18 w146_13 f_words) := hD
    exact W.iret hx hb hr (fun t ht _ => ⟨⟨_, (w146_0, w146_1, w146_2, w146_3, w146_4, w146_5, w146_6, w146_7, v_wrongAt, v_from, v_at, v_end, v_told, v_wrongAt, w146_8, w146_9, w146_10, w146_11, w146_12, w146_14, w160_0, w146_15, w146_16, w146_17, f_tell, w146_18, w146_13), rfl, h, hPt hP ht⟩, hS.F ht⟩) hS.2.2 dX10_book_163
  have h := h.2 hc
  refine lv_iload_n hx hb dX10_book_138 rfl (lv_at hl 1 rfl) ?_
  exact W.iret hx hb hr (fun t ht _ => ⟨⟨_, (v_stretches, v_cars, v_tunes, v_along, v_near, v_borne, v_tempo, v_seed, v_fault, v_from, v_at, v_end, v_told, v_wrongAt, f_base, f_beats, f_kind, f_notes, f_other, f_pitch, f_refused, f_share, f_space, f_speed, f_tell, f_times, f_was), rfl, h, hPt hP ht⟩, hS.F ht⟩) hS.2.2 dX10_book_139
set_option maxHeartbeats 4000000 in
set_option maxRecDepth 100000 in
theorem c_X10_book {l : Launch} {D : va_G} {cI cJ cS : ClassId} {ad adK : Nat → Nat} {a_o a_base a_beats a_cells a_held a_kind a_notes a_other a_pitch a_refused a_share a_size a_space a_speed a_tell a_times a_was a_words : Nat} {z_steps z_sort z_shown z_carried z_kept z_cutSpace z_cutTimes z_cutOff z_trace : Value} {v_stretches : Int32} {v_cars : Int32} {v_tunes : Int32} {v_along : Int32} {v_near : Int32} {v_borne : Int32} {v_tempo : Int32} {v_seed : Int32} {v_fault : Int32} {v_from : Int32} {v_at : Int32} {v_end : Int32} {v_told : Int32} {v_wrongAt : Int32} {v_culprit : Int32} {v_ran : Int32} {v_isKept : Int32} {f_base : Nat → Int32} {f_beats : Nat → Int32} {g_cells : Nat → Int64} {f_held : Nat → Int32} {f_kind : Nat → Int32} {f_notes : Nat → Int32} {f_other : Nat → Int32} {f_pitch : Nat → Int32} {f_refused : Nat → Int32} {f_share : Nat → Int32} {f_size : Nat → Int32} {f_space : Nat → Int32} {f_speed : Nat → Int32} {f_tell : Nat → Int32} {f_times : Nat → Int32} {f_was : Nat → Int32} {f_words : Nat → Int32} {x1 : Int32} {post : Int32 → Int32 → Int32 → Int32 → Int32 → Int32 → Int32 → Int32 → Int32 → Int32 → Int32 → Int32 → Int32 → Int32 → Int32 → (Nat → Int32) → (Nat → Int32) → (Nat → Int32) → (Nat → Int32) → (Nat → Int32) → (Nat → Int32) → (Nat → Int32) → (Nat → Int32) → (Nat → Int32) → (Nat → Int32) → (Nat → Int32) → (Nat → Int32) → (Nat → Int32) → Prop} (h : F_X10_book v_stretches v_cars v_tunes v_along v_near v_borne v_tempo v_seed v_fault v_from v_at v_end v_told v_wrongAt f_base f_beats g_cells f_held f_kind f_notes f_other f_pitch f_refused f_share f_size f_space f_speed f_tell f_times f_was f_words x1 post) {sz : Nat} : Met l yX10_book (Cond.code yX10_book cX10_book 5 (some (.int)) :: GW) (rmd 3 0 0) (PW D cI cJ cS ad adK [.ref a_o, .int x1] (wX10_book cI cJ cS a_o a_base a_beats a_cells a_held a_kind a_notes a_other a_pitch a_refused a_share a_size a_space a_speed a_tell a_times a_was a_words z_steps z_sort z_shown z_carried z_kept z_cutSpace z_cutTimes z_cutOff z_trace v_stretches v_cars v_tunes v_along v_near v_borne v_tempo v_seed v_fault v_from v_at v_end v_told v_wrongAt v_culprit v_ran v_isKept f_base f_beats g_cells f_held f_kind f_notes f_other f_pitch f_refused f_share f_size f_space f_speed f_tell f_times f_was f_words) sz) (va_Qi (fun r (u : Int32 × Int32 × Int32 × Int32 × Int32 × Int32 × Int32 × Int32 × Int32 × Int32 × Int32 × Int32 × Int32 × Int32 × (Nat → Int32) × (Nat → Int32) × (Nat → Int32) × (Nat → Int32) × (Nat → Int32) × (Nat → Int32) × (Nat → Int32) × (Nat → Int32) × (Nat → Int32) × (Nat → Int32) × (Nat → Int32) × (Nat → Int32) × (Nat → Int32)) => post r u.1 u.2.1 u.2.2.1 u.2.2.2.1 u.2.2.2.2.1 u.2.2.2.2.2.1 u.2.2.2.2.2.2.1 u.2.2.2.2.2.2.2.1 u.2.2.2.2.2.2.2.2.1 u.2.2.2.2.2.2.2.2.2.1 u.2.2.2.2.2.2.2.2.2.2.1 u.2.2.2.2.2.2.2.2.2.2.2.1 u.2.2.2.2.2.2.2.2.2.2.2.2.1 u.2.2.2.2.2.2.2.2.2.2.2.2.2.1 u.2.2.2.2.2.2.2.2.2.2.2.2.2.2.1 u.2.2.2.2.2.2.2.2.2.2.2.2.2.2.2.1 u.2.2.2.2.2.2.2.2.2.2.2.2.2.2.2.2.1 u.2.2.2.2.2.2.2.2.2.2.2.2.2.2.2.2.2.1 u.2.2.2.2.2.2.2.2.2.2.2.2.2.2.2.2.2.2.1 u.2.2.2.2.2.2.2.2.2.2.2.2.2.2.2.2.2.2.2.1 u.2.2.2.2.2.2.2.2.2.2.2.2.2.2.2.2.2.2.2.2.1 u.2.2.2.2.2.2.2.2.2.2.2.2.2.2.2.2.2.2.2.2.2.1 u.2.2.2.2.2.2.2.2.2.2.2.2.2.2.2.2.2.2.2.2.2.2.1 u.2.2.2.2.2.2.2.2.2.2.2.2.2.2.2.2.2.2.2.2.2.2.2.1 u.2.2.2.2.2.2.2.2.2.2.2.2.2.2.2.2.2.2.2.2.2.2.2.2.1 u.2.2.2.2.2.2.2.2.2.2.2.2.2.2.2.2.2.2.2.2.2.2.2.2.2.1 u.2.2.2.2.2.2.2.2.2.2.2.2.2.2.2.2.2.2.2.2.2.2.2.2.2.2) (fun u t => va_P D vwCl (wX10_book cI cJ cS a_o a_base a_beats a_cells a_held a_kind a_notes a_other a_pitch a_refused a_share a_size a_space a_speed a_tell a_times a_was a_words z_steps z_sort z_shown z_carried z_kept z_cutSpace z_cutTimes z_cutOff z_trace u.1 u.2.1 u.2.2.1 u.2.2.2.1 u.2.2.2.2.1 u.2.2.2.2.2.1 u.2.2.2.2.2.2.1 u.2.2.2.2.2.2.2.1 u.2.2.2.2.2.2.2.2.1 u.2.2.2.2.2.2.2.2.2.1 u.2.2.2.2.2.2.2.2.2.2.1 u.2.2.2.2.2.2.2.2.2.2.2.1 u.2.2.2.2.2.2.2.2.2.2.2.2.1 u.2.2.2.2.2.2.2.2.2.2.2.2.2.1 v_culprit v_ran v_isKept u.2.2.2.2.2.2.2.2.2.2.2.2.2.2.1 u.2.2.2.2.2.2.2.2.2.2.2.2.2.2.2.1 g_cells f_held u.2.2.2.2.2.2.2.2.2.2.2.2.2.2.2.2.1 u.2.2.2.2.2.2.2.2.2.2.2.2.2.2.2.2.2.1 u.2.2.2.2.2.2.2.2.2.2.2.2.2.2.2.2.2.2.1 u.2.2.2.2.2.2.2.2.2.2.2.2.2.2.2.2.2.2.2.1 u.2.2.2.2.2.2.2.2.2.2.2.2.2.2.2.2.2.2.2.2.1 u.2.2.2.2.2.2.2.2.2.2.2.2.2.2.2.2.2.2.2.2.2.1 f_size u.2.2.2.2.2.2.2.2.2.2.2.2.2.2.2.2.2.2.2.2.2.2.1 u.2.2.2.2.2.2.2.2.2.2.2.2.2.2.2.2.2.2.2.2.2.2.2.1 u.2.2.2.2.2.2.2.2.2.2.2.2.2.2.2.2.2.2.2.2.2.2.2.2.1 u.2.2.2.2.2.2.2.2.2.2.2.2.2.2.2.2.2.2.2.2.2.2.2.2.2.1 u.2.2.2.2.2.2.2.2.2.2.2.2.2.2.2.2.2.2.2.2.2.2.2.2.2.2 f_words) t.heap) (va_A (wX10_book cI cJ cS a_o a_base a_beats a_cells a_held a_kind a_notes a_other a_pitch a_refused a_share a_size a_space a_speed a_tell a_times a_was a_words z_steps z_sort z_shown z_carried z_kept z_cutSpace z_cutTimes z_cutOff z_trace v_stretches v_cars v_tunes v_along v_near v_borne v_tempo v_seed v_fault v_from v_at v_end v_told v_wrongAt v_culprit v_ran v_isKept f_base f_beats g_cells f_held f_kind f_notes f_other f_pitch f_refused f_share f_size f_space f_speed f_tell f_times f_was f_words) sz)) 0 0 (va_A (wX10_book cI cJ cS a_o a_base a_beats a_cells a_held a_kind a_notes a_other a_pitch a_refused a_share a_size a_space a_speed a_tell a_times a_was a_words z_steps z_sort z_shown z_carried z_kept z_cutSpace z_cutTimes z_cutOff z_trace v_stretches v_cars v_tunes v_along v_near v_borne v_tempo v_seed v_fault v_from v_at v_end v_told v_wrongAt v_culprit v_ran v_isKept f_base f_beats g_cells f_held f_kind f_notes f_other f_pitch f_refused f_share f_size f_space f_speed f_tell f_times f_was f_words) sz) := by
  refine Met.rw (Qc := fun A => (va_Qi (fun r (u : Int32 × Int32 × Int32 × Int32 × Int32 × Int32 × Int32 × Int32 × Int32 × Int32 × Int32 × Int32 × Int32 × Int32 × (Nat → Int32) × (Nat → Int32) × (Nat → Int32) × (Nat → Int32) × (Nat → Int32) × (Nat → Int32) × (Nat → Int32) × (Nat → Int32) × (Nat → Int32) × (Nat → Int32) × (Nat → Int32) × (Nat → Int32) × (Nat → Int32)) => post r u.1 u.2.1 u.2.2.1 u.2.2.2.1 u.2.2.2.2.1 u.2.2.2.2.2.1 u.2.2.2.2.2.2.1 u.2.2.2.2.2.2.2.1 u.2.2.2.2.2.2.2.2.1 u.2.2.2.2.2.2.2.2.2.1 u.2.2.2.2.2.2.2.2.2.2.1 u.2.2.2.2.2.2.2.2.2.2.2.1 u.2.2.2.2.2.2.2.2.2.2.2.2.1 u.2.2.2.2.2.2.2.2.2.2.2.2.2.1 u.2.2.2.2.2.2.2.2.2.2.2.2.2.2.1 u.2.2.2.2.2.2.2.2.2.2.2.2.2.2.2.1 u.2.2.2.2.2.2.2.2.2.2.2.2.2.2.2.2.1 u.2.2.2.2.2.2.2.2.2.2.2.2.2.2.2.2.2.1 u.2.2.2.2.2.2.2.2.2.2.2.2.2.2.2.2.2.2.1 u.2.2.2.2.2.2.2.2.2.2.2.2.2.2.2.2.2.2.2.1 u.2.2.2.2.2.2.2.2.2.2.2.2.2.2.2.2.2.2.2.2.1 u.2.2.2.2.2.2.2.2.2.2.2.2.2.2.2.2.2.2.2.2.2.1 u.2.2.2.2.2.2.2.2.2.2.2.2.2.2.2.2.2.2.2.2.2.2.1 u.2.2.2.2.2.2.2.2.2.2.2.2.2.2.2.2.2.2.2.2.2.2.2.1 u.2.2.2.2.2.2.2.2.2.2.2.2.2.2.2.2.2.2.2.2.2.2.2.2.1 u.2.2.2.2.2.2.2.2.2.2.2.2.2.2.2.2.2.2.2.2.2.2.2.2.2.1 u.2.2.2.2.2.2.2.2.2.2.2.2.2.2.2.2.2.2.2.2.2.2.2.2.2.2) (fun u t => va_P D vwCl (wX10_book cI cJ cS a_o a_base a_beats a_cells a_held a_kind a_notes a_other a_pitch a_refused a_share a_size a_space a_speed a_tell a_times a_was a_words z_steps z_sort z_shown z_carried z_kept z_cutSpace z_cutTimes z_cutOff z_trace u.1 u.2.1 u.2.2.1 u.2.2.2.1 u.2.2.2.2.1 u.2.2.2.2.2.1 u.2.2.2.2.2.2.1 u.2.2.2.2.2.2.2.1 u.2.2.2.2.2.2.2.2.1 u.2.2.2.2.2.2.2.2.2.1 u.2.2.2.2.2.2.2.2.2.2.1 u.2.2.2.2.2.2.2.2.2.2.2.1 u.2.2.2.2.2.2.2.2.2.2.2.2.1 u.2.2.2.2.2.2.2.2.2.2.2.2.2.1 v_culprit v_ran v_isKept u.2.2.2.2.2.2.2.2.2.2.2.2.2.2.1 u.2.2.2.2.2.2.2.2.2.2.2.2.2.2.2.1 g_cells f_held u.2.2.2.2.2.2.2.2.2.2.2.2.2.2.2.2.1 u.2.2.2.2.2.2.2.2.2.2.2.2.2.2.2.2.2.1 u.2.2.2.2.2.2.2.2.2.2.2.2.2.2.2.2.2.2.1 u.2.2.2.2.2.2.2.2.2.2.2.2.2.2.2.2.2.2.2.1 u.2.2.2.2.2.2.2.2.2.2.2.2.2.2.2.2.2.2.2.2.1 u.2.2.2.2.2.2.2.2.2.2.2.2.2.2.2.2.2.2.2.2.2.1 f_size u.2.2.2.2.2.2.2.2.2.2.2.2.2.2.2.2.2.2.2.2.2.2.1 u.2.2.2.2.2.2.2.2.2.2.2.2.2.2.2.2.2.2.2.2.2.2.2.1 u.2.2.2.2.2.2.2.2.2.2.2.2.2.2.2.2.2.2.2.2.2.2.2.2.1 u.2.2.2.2.2.2.2.2.2.2.2.2.2.2.2.2.2.2.2.2.2.2.2.2.2.1 u.2.2.2.2.2.2.2.2.2.2.2.2.2.2.2.2.2.2.2.2.2.2.2.2.2.2 f_words) t.heap) A)) (by decide) (Nat.le_of_ble_eq_true rfl) (fun p e s m args below meth c ls A (S : CallFix p m c cX10_book 5 s args GW "RoadThatSingsModel") hE hT hP hD hA hS hr hlocks hname hl => ?_)
  have hS0 := hS
  have hx := S.1
  have hb := S.2.1
  have hl : lv_has ls 5 [(0, .ref a_o), (1, .int x1)] := hl
  unfold F_X10_book at h
  refine lv_aload_n hx hb dX10_book_0 rfl (lv_at hl 0 rfl) ?_
  refine lv_iload_n hx hb dX10_book_1 rfl (lv_at hl 1 rfl) ?_
  refine ro_i (roV S hE hT hS (c_X10_wants h) lkX10_142 rfl ⟨(Nat.le_of_ble_eq_true rfl), (Nat.le_of_ble_eq_true rfl)⟩ (hP.sub [0, 4] rfl) 0 rfl rfl hl.1 rfl (Nat.le_of_ble_eq_true rfl) dX10_book_2 ⟨(Nat.zero_le _), (Nat.zero_le _)⟩) (fun r2 h => ?_)
  refine lv_istore_n (lv' := [(2, .int r2), (0, .ref a_o), (1, .int x1)]) hx hb dX10_book_5 rfl hl (by decide) rfl (fun ls hl => ?_)
  refine lv_iload_n hx hb dX10_book_6 rfl (lv_at hl 0 rfl) ?_
  refine lv_if_eq (tgt := 16) hx hb dX10_book_7 (by decide) (fun hc => ?_) (fun hc => ?_)
  · have h := h.1 hc
    refine lv_aload_n hx hb dX10_book_16 rfl (lv_at hl 1 rfl) ?_
    refine lv_aload_n hx hb dX10_book_17 rfl (lv_at hl 1 rfl) ?_
    refine gf S hE hP 0 rfl rfl inX10 (k := 34) (by decide) q1127 rfl dX10_book_18 ?_
    refine lv_iconst (v := 0) hx hb dX10_book_21 (by decide) ?_
    refine rw_v (rwV S hE hT hS hP hD hA (c_X10_all h) [0, 1, 2, 5, 6, 7, 16, 8, 10, 12, 13, 15] rfl (by decide +kernel) lkX10_222 rfl ⟨(Nat.le_of_ble_eq_true rfl), (Nat.le_of_ble_eq_true rfl)⟩ 0 rfl rfl hl.1 rfl (Nat.le_of_ble_eq_true rfl) dX10_book_22 ⟨(Nat.zero_le _), (Nat.zero_le _)⟩) hP hD hS hA [0, 1, 2, 5, 6, 7, 16, 8, 10, 12, 13, 15] rfl (by decide +kernel) (fun _ => rfl) (fun u22 H locs h hP hD hS => ?_)
    obtain ⟨w22_0, w22_1, w22_2, w22_3, w22_4, w22_5, w22_6, w22_7, w22_8, w22_9, w22_10, w22_11, w22_12, w22_13, w22_14, w22_15, w22_16, w22_17, w22_18⟩ := u22
    try dsimp only at h
    have hP : va_P D vwCl (wX10_book cI cJ cS a_o a_base a_beats a_cells a_held a_kind a_notes a_other a_pitch a_refused a_share a_size a_space a_speed a_tell a_times a_was a_words z_steps z_sort z_shown z_carried z_kept z_cutSpace z_cutTimes z_cutOff z_trace w22_0 w22_1 w22_2 w22_3 w22_4 w22_5 w22_6 w22_7 v_fault v_from v_at v_end v_told v_wrongAt v_culprit v_ran v_isKept w22_8 w22_9 g_cells f_held w22_10 w22_11 w22_12 w22_14 f_refused w22_15 f_size w22_16 w22_17 f_tell w22_18 w22_13 f_words) H := wsetP 18 [3, 4, 9, 11, 14, 17] hP rfl ⟨rfl, rfl, rfl, rfl, rfl, rfl, trivial⟩ rfl rfl (by decide +kernel) (by decide +kernel) (by decide +kernel)
    have hD : va_D A (wX10_book cI cJ cS a_o a_base a_beats a_cells a_held a_kind a_notes a_other a_pitch a_refused a_share a_size a_space a_speed a_tell a_times a_was a_words z_steps z_sort z_shown z_carried z_kept z_cutSpace z_cutTimes z_cutOff z_trace w22_0 w22_1 w22_2 w22_3 w22_4 w22_5 w22_6 w22_7 v_fault v_from v_at v_end v_told v_wrongAt v_culprit v_ran v_isKept w22_8 w22_9 g_cells f_held w22_10 w22_11 w22_12 w22_14 f_refused w22_15 f_size w22_16 w22_17 f_tell w22_18 w22_13 f_words) := wsetD 18 [3, 4, 9, 11, 14, 17] hD rfl ⟨rfl, rfl, rfl, rfl, rfl, rfl, trivial⟩ rfl rfl (by decide +kernel) (by decide +kernel) (by decide +kernel)
    refine lv_aload_n hx hb dX10_book_25 rfl (lv_at hl 1 rfl) ?_
    refine lv_sipush (v := 160) hx hb dX10_book_26 (by decide) ?_
    refine lv_iload_n hx hb dX10_book_29 rfl (lv_at hl 2 rfl) ?_
    refine lv_imul hx hb dX10_book_30 ?_
    refine pf S hE hP hD hS 0 (k := 29) rfl rfl inX10 tyX10_ok nmX10 (by decide) q1122 rfl rfl rfl (Nat.le_of_ble_eq_true rfl) dX10_book_31 (fun H locs hP hD hS => ?_)
    have hP : va_P D vwCl (wX10_book cI cJ cS a_o a_base a_beats a_cells a_held a_kind a_notes a_other a_pitch a_refused a_share a_size a_space a_speed a_tell a_times a_was a_words z_steps z_sort z_shown z_carried z_kept z_cutSpace z_cutTimes z_cutOff z_trace w22_0 w22_1 w22_2 w22_3 w22_4 w22_5 w22_6 w22_7 v_fault (160 * x1) v_at v_end v_told v_wrongAt v_culprit v_ran v_isKept w22_8 w22_9 g_cells f_held w22_10 w22_11 w22_12 w22_14 f_refused w22_15 f_size w22_16 w22_17 f_tell w22_18 w22_13 f_words) H := hP
    have hD : va_D A (wX10_book cI cJ cS a_o a_base a_beats a_cells a_held a_kind a_notes a_other a_pitch a_refused a_share a_size a_space a_speed a_tell a_times a_was a_words z_steps z_sort z_shown z_carried z_kept z_cutSpace z_cutTimes z_cutOff z_trace w22_0 w22_1 w22_2 w22_3 w22_4 w22_5 w22_6 w22_7 v_fault (160 * x1) v_at v_end v_told v_wrongAt v_culprit v_ran v_isKept w22_8 w22_9 g_cells f_held w22_10 w22_11 w22_12 w22_14 f_refused w22_15 f_size w22_16 w22_17 f_tell w22_18 w22_13 f_words) := hD
    refine lv_aload_n hx hb dX10_book_34 rfl (lv_at hl 1 rfl) ?_
    refine lv_iconst (v := 0) hx hb dX10_book_35 (by decide) ?_
    refine pf S hE hP hD hS 0 (k := 30) rfl rfl inX10 tyX10_ok nmX10 (by decide) q1123 rfl rfl rfl (Nat.le_of_ble_eq_true rfl) dX10_book_36 (fun H locs hP hD hS => ?_)
    have hP : va_P D vwCl (wX10_book cI cJ cS a_o a_base a_beats a_cells a_held a_kind a_notes a_other a_pitch a_refused a_share a_size a_space a_speed a_tell a_times a_was a_words z_steps z_sort z_shown z_carried z_kept z_cutSpace z_cutTimes z_cutOff z_trace w22_0 w22_1 w22_2 w22_3 w22_4 w22_5 w22_6 w22_7 v_fault (160 * x1) 0 v_end v_told v_wrongAt v_culprit v_ran v_isKept w22_8 w22_9 g_cells f_held w22_10 w22_11 w22_12 w22_14 f_refused w22_15 f_size w22_16 w22_17 f_tell w22_18 w22_13 f_words) H := hP
    have hD : va_D A (wX10_book cI cJ cS a_o a_base a_beats a_cells a_held a_kind a_notes a_other a_pitch a_refused a_share a_size a_space a_speed a_tell a_times a_was a_words z_steps z_sort z_shown z_carried z_kept z_cutSpace z_cutTimes z_cutOff z_trace w22_0 w22_1 w22_2 w22_3 w22_4 w22_5 w22_6 w22_7 v_fault (160 * x1) 0 v_end v_told v_wrongAt v_culprit v_ran v_isKept w22_8 w22_9 g_cells f_held w22_10 w22_11 w22_12 w22_14 f_refused w22_15 f_size w22_16 w22_17 f_tell w22_18 w22_13 f_words) := hD
    refine lv_aload_n hx hb dX10_book_39 rfl (lv_at hl 1 rfl) ?_
    refine lv_aload_n hx hb dX10_book_40 rfl (lv_at hl 1 rfl) ?_
    refine gf S hE hP 0 rfl rfl inX10 (k := 23) (by decide) q1116 rfl dX10_book_41 ?_
    refine lv_iload_n hx hb dX10_book_44 rfl (lv_at hl 2 rfl) ?_
    obtain ⟨hi, h⟩ := h
    refine ial S hE hP 11 rfl hi dX10_book_45 ?_
    refine pf S hE hP hD hS 0 (k := 31) rfl rfl inX10 tyX10_ok nmX10 (by decide) q1124 rfl rfl rfl (Nat.le_of_ble_eq_true rfl) dX10_book_46 (fun H locs hP hD hS => ?_)
    have hP : va_P D vwCl (wX10_book cI cJ cS a_o a_base a_beats a_cells a_held a_kind a_notes a_other a_pitch a_refused a_share a_size a_space a_speed a_tell a_times a_was a_words z_steps z_sort z_shown z_carried z_kept z_cutSpace z_cutTimes z_cutOff z_trace w22_0 w22_1 w22_2 w22_3 w22_4 w22_5 w22_6 w22_7 v_fault (160 * x1) 0 (f_size x1.toNatClampNeg) v_told v_wrongAt v_culprit v_ran v_isKept w22_8 w22_9 g_cells f_held w22_10 w22_11 w22_12 w22_14 f_refused w22_15 f_size w22_16 w22_17 f_tell w22_18 w22_13 f_words) H := hP
    have hD : va_D A (wX10_book cI cJ cS a_o a_base a_beats a_cells a_held a_kind a_notes a_other a_pitch a_refused a_share a_size a_space a_speed a_tell a_times a_was a_words z_steps z_sort z_shown z_carried z_kept z_cutSpace z_cutTimes z_cutOff z_trace w22_0 w22_1 w22_2 w22_3 w22_4 w22_5 w22_6 w22_7 v_fault (160 * x1) 0 (f_size x1.toNatClampNeg) v_told v_wrongAt v_culprit v_ran v_isKept w22_8 w22_9 g_cells f_held w22_10 w22_11 w22_12 w22_14 f_refused w22_15 f_size w22_16 w22_17 f_tell w22_18 w22_13 f_words) := hD
    refine lv_aload_n hx hb dX10_book_49 rfl (lv_at hl 1 rfl) ?_
    refine lv_iconst (v := (-1)) hx hb dX10_book_50 (by decide) ?_
    refine pf S hE hP hD hS 0 (k := 8) rfl rfl inX10 tyX10_ok nmX10 (by decide) q1101 rfl rfl rfl (Nat.le_of_ble_eq_true rfl) dX10_book_51 (fun H locs hP hD hS => ?_)
    have hP : va_P D vwCl (wX10_book cI cJ cS a_o a_base a_beats a_cells a_held a_kind a_notes a_other a_pitch a_refused a_share a_size a_space a_speed a_tell a_times a_was a_words z_steps z_sort z_shown z_carried z_kept z_cutSpace z_cutTimes z_cutOff z_trace w22_0 w22_1 w22_2 w22_3 w22_4 w22_5 w22_6 w22_7 (-1) (160 * x1) 0 (f_size x1.toNatClampNeg) v_told v_wrongAt v_culprit v_ran v_isKept w22_8 w22_9 g_cells f_held w22_10 w22_11 w22_12 w22_14 f_refused w22_15 f_size w22_16 w22_17 f_tell w22_18 w22_13 f_words) H := hP
    have hD : va_D A (wX10_book cI cJ cS a_o a_base a_beats a_cells a_held a_kind a_notes a_other a_pitch a_refused a_share a_size a_space a_speed a_tell a_times a_was a_words z_steps z_sort z_shown z_carried z_kept z_cutSpace z_cutTimes z_cutOff z_trace w22_0 w22_1 w22_2 w22_3 w22_4 w22_5 w22_6 w22_7 (-1) (160 * x1) 0 (f_size x1.toNatClampNeg) v_told v_wrongAt v_culprit v_ran v_isKept w22_8 w22_9 g_cells f_held w22_10 w22_11 w22_12 w22_14 f_refused w22_15 f_size w22_16 w22_17 f_tell w22_18 w22_13 f_words) := hD
    refine lv_iconst (v := 1) hx hb dX10_book_54 (by decide) ?_
    refine lv_istore_n (lv' := [(3, .int 1), (2, .int r2), (0, .ref a_o), (1, .int x1)]) hx hb dX10_book_55 rfl hl (by decide) rfl (fun ls hl => ?_)
    refine lv_aload_n hx hb dX10_book_56 rfl (lv_at hl 2 rfl) ?_
    refine rw_i (rwV S hE hT hS hP hD hA (c_X10_item h) [0, 1, 2, 3, 5, 6, 7, 8, 10, 12, 13, 14, 15, 17] rfl (by decide +kernel) lkX10_226 rfl ⟨(Nat.le_of_ble_eq_true rfl), (Nat.le_of_ble_eq_true rfl)⟩ 0 rfl rfl hl.1 rfl (Nat.le_of_ble_eq_true rfl) dX10_book_57 ⟨(Nat.zero_le _), (Nat.zero_le _)⟩) hP hD hS hA [0, 1, 2, 3, 5, 6, 7, 8, 10, 12, 13, 14, 15, 17] rfl (by decide +kernel) (fun _ => rfl) (fun r57 u57 H locs h hP hD hS => ?_)
    obtain ⟨w57_0, w57_1, w57_2, w57_3, w57_4, w57_5, w57_6, w57_7, w57_8, w57_9, w57_10, w57_11, w57_12, w57_13, w57_14, w57_15, w57_16, w57_17, w57_18, w57_19, w57_20⟩ := u57
    try dsimp only at h
    have hP : va_P D vwCl (wX10_book cI cJ cS a_o a_base a_beats a_cells a_held a_kind a_notes a_other a_pitch a_refused a_share a_size a_space a_speed a_tell a_times a_was a_words z_steps z_sort z_shown z_carried z_kept z_cutSpace z_cutTimes z_cutOff z_trace w57_0 w57_1 w57_2 w57_3 w57_4 w57_5 w57_6 w22_7 (-1) (160 * x1) w57_7 (f_size x1.toNatClampNeg) w57_8 w57_9 v_culprit v_ran v_isKept w57_10 w57_11 g_cells f_held w57_12 w57_13 w57_14 w57_15 f_refused w57_16 f_size w57_17 w57_18 w57_19 w57_20 w22_13 f_words) H := wsetP 18 [4, 9, 11, 16] hP rfl ⟨rfl, rfl, rfl, rfl, trivial⟩ rfl rfl (by decide +kernel) (by decide +kernel) (by decide +kernel)
    have hD : va_D A (wX10_book cI cJ cS a_o a_base a_beats a_cells a_held a_kind a_notes a_other a_pitch a_refused a_share a_size a_space a_speed a_tell a_times a_was a_words z_steps z_sort z_shown z_carried z_kept z_cutSpace z_cutTimes z_cutOff z_trace w57_0 w57_1 w57_2 w57_3 w57_4 w57_5 w57_6 w22_7 (-1) (160 * x1) w57_7 (f_size x1.toNatClampNeg) w57_8 w57_9 v_culprit v_ran v_isKept w57_10 w57_11 g_cells f_held w57_12 w57_13 w57_14 w57_15 f_refused w57_16 f_size w57_17 w57_18 w57_19 w57_20 w22_13 f_words) := wsetD 18 [4, 9, 11, 16] hD rfl ⟨rfl, rfl, rfl, rfl, trivial⟩ rfl rfl (by decide +kernel) (by decide +kernel) (by decide +kernel)
    refine lv_istore (lv' := [(4, .int r57), (3, .int 1), (2, .int r2), (0, .ref a_o), (1, .int x1)]) hx hb dX10_book_60 hl (by decide) rfl (fun ls hl => ?_)
    obtain ⟨n, h⟩ := h
    refine w_X10_book_62 S hE hT hA hr hlocks (fun x3_1 x4_2 v_stretches_3 v_cars_4 v_tunes_5 v_along_6 v_near_7 v_borne_8 v_tempo_9 v_at_10 v_told_11 v_wrongAt_12 f_base_13 f_beats_14 f_kind_15 f_notes_16 f_other_17 f_pitch_18 f_share_19 f_space_20 f_speed_21 f_tell_22 f_times_23 H locs ls h hP hD hS hl => ?_) n _ _ _ _ _ _ _ _ _ _ _ _ _ _ _ _ _ _ _ _ _ _ _ _ _ _ h hP hD hS (lv_sub hl [3, 1, 0] rfl)
    refine w_X10_book_133 S hE hT hA hr hlocks _ _ _ h hP hD hS (lv_sub hl [0, 1, 2] rfl)
  have h := h.2 hc
  refine lv_aload_n hx hb dX10_book_10 rfl (lv_at hl 1 rfl) ?_
  refine lv_iload_n hx hb dX10_book_11 rfl (lv_at hl 0 rfl) ?_
  refine rw_i (rwV S hE hT hS hP hD hA (c_X10_no h) [0, 9] rfl (by decide +kernel) lkX10_121 rfl ⟨(Nat.le_of_ble_eq_true rfl), (Nat.le_of_ble_eq_true rfl)⟩ 0 rfl rfl hl.1 rfl (Nat.le_of_ble_eq_true rfl) dX10_book_12 ⟨(Nat.zero_le _), (Nat.zero_le _)⟩) hP hD hS hA [0, 9] rfl (by decide +kernel) (fun _ => rfl) (fun r12 w12_0 H locs h hP hD hS => ?_)
  try dsimp only at h
  have hP : va_P D vwCl (wX10_book cI cJ cS a_o a_base a_beats a_cells a_held a_kind a_notes a_other a_pitch a_refused a_share a_size a_space a_speed a_tell a_times a_was a_words z_steps z_sort z_shown z_carried z_kept z_cutSpace z_cutTimes z_cutOff z_trace v_stretches v_cars v_tunes v_along v_near v_borne v_tempo v_seed v_fault v_from v_at v_end v_told v_wrongAt v_culprit v_ran v_isKept f_base f_beats g_cells f_held f_kind f_notes f_other f_pitch w12_0 f_share f_size f_space f_speed f_tell f_times f_was f_words) H := hP
  have hD : va_D A (wX10_book cI cJ cS a_o a_base a_beats a_cells a_held a_kind a_notes a_other a_pitch a_refused a_share a_size a_space a_speed a_tell a_times a_was a_words z_steps z_sort z_shown z_carried z_kept z_cutSpace z_cutTimes z_cutOff z_trace v_stretches v_cars v_tunes v_along v_near v_borne v_tempo v_seed v_fault v_from v_at v_end v_told v_wrongAt v_culprit v_ran v_isKept f_base f_beats g_cells f_held f_kind f_notes f_other f_pitch w12_0 f_share f_size f_space f_speed f_tell f_times f_was f_words) := hD
  exact W.iret hx hb hr (fun t ht _ => ⟨⟨_, (v_stretches, v_cars, v_tunes, v_along, v_near, v_borne, v_tempo, v_seed, v_fault, v_from, v_at, v_end, v_told, v_wrongAt, f_base, f_beats, f_kind, f_notes, f_other, f_pitch, w12_0, f_share, f_space, f_speed, f_tell, f_times, f_was), rfl, h, hPt hP ht⟩, hS.F ht⟩) hS.2.2 dX10_book_15
/-! X10_fault -/
abbrev wX10_fault (cI cJ cS : ClassId) (a_o : Nat) (z_refused z_steps z_kind z_space z_other z_times z_speed z_base z_share z_notes z_pitch z_beats z_held z_sort z_size z_shown z_cells z_carried z_words z_tell z_was z_kept z_cutSpace z_cutTimes z_cutOff z_trace : Value) (v_stretches : Int32) (v_cars : Int32) (v_tunes : Int32) (v_along : Int32) (v_near : Int32) (v_borne : Int32) (v_tempo : Int32) (v_seed : Int32) (v_fault : Int32) (v_from : Int32) (v_at : Int32) (v_end : Int32) (v_told : Int32) (v_wrongAt : Int32) (v_culprit : Int32) (v_ran : Int32) (v_isKept : Int32) : va_W := [(a_o, .inr (9, [.int v_stretches, .int v_cars, .int v_tunes, .int v_along, .int v_near, .int v_borne, .int v_tempo, .int v_seed, .int v_fault, z_refused, z_steps, z_kind, z_space, z_other, z_times, z_speed, z_base, z_share, z_notes, z_pitch, z_beats, z_held, z_sort, z_size, z_shown, z_cells, z_carried, z_words, z_tell, .int v_from, .int v_at, .int v_end, .int v_told, .int v_wrongAt, z_was, z_kept, .int v_culprit, z_cutSpace, z_cutTimes, z_cutOff, z_trace, .int v_ran, .int v_isKept]))]
def F_X10_fault (v_fault : Int32) (post : Int32 → Prop) : Prop := post v_fault
set_option maxHeartbeats 4000000 in
set_option maxRecDepth 100000 in
theorem c_X10_fault {l : Launch} {D : va_G} {cI cJ cS : ClassId} {ad adK : Nat → Nat} {a_o : Nat} {z_refused z_steps z_kind z_space z_other z_times z_speed z_base z_share z_notes z_pitch z_beats z_held z_sort z_size z_shown z_cells z_carried z_words z_tell z_was z_kept z_cutSpace z_cutTimes z_cutOff z_trace : Value} {v_stretches : Int32} {v_cars : Int32} {v_tunes : Int32} {v_along : Int32} {v_near : Int32} {v_borne : Int32} {v_tempo : Int32} {v_seed : Int32} {v_fault : Int32} {v_from : Int32} {v_at : Int32} {v_end : Int32} {v_told : Int32} {v_wrongAt : Int32} {v_culprit : Int32} {v_ran : Int32} {v_isKept : Int32} {post : Int32 → Prop} (h : F_X10_fault v_fault post) : Met l yX10_fault (Cond.code yX10_fault cX10_fault 1 (some (.int)) :: GW) (rmd 0 0 0) (PR D cI cJ cS ad adK [.ref a_o] (wX10_fault cI cJ cS a_o z_refused z_steps z_kind z_space z_other z_times z_speed z_base z_share z_notes z_pitch z_beats z_held z_sort z_size z_shown z_cells z_carried z_words z_tell z_was z_kept z_cutSpace z_cutTimes z_cutOff z_trace v_stretches v_cars v_tunes v_along v_near v_borne v_tempo v_seed v_fault v_from v_at v_end v_told v_wrongAt v_culprit v_ran v_isKept)) (vp_Si post) 0 0 nof := by
  refine Met.ro (by decide) (Nat.le_of_ble_eq_true rfl) (fun p e s m args below meth c ls (S : CallFix p m c cX10_fault 1 s args GW "RoadThatSingsModel") hE hT hP hS hr hlocks hl => ?_)
  have hx := S.1
  have hb := S.2.1
  have hl : lv_has ls 1 [(0, .ref a_o)] := hl
  unfold F_X10_fault at h
  refine lv_aload_n hx hb dX10_fault_0 rfl (lv_at hl 0 rfl) ?_
  refine gf S hE hP 0 rfl rfl inX10 (k := 8) (by decide) q1101 rfl dX10_fault_1 ?_
  exact W.iret hx hb hr (fun t ht _ => ⟨_, rfl, h, ht⟩) (fun _ hq => by cases hq) dX10_fault_4
