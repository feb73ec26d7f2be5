/-! X7_loudnessOf -/
abbrev wX7_loudnessOf (cI cJ cS : ClassId) (a_o a_kinds : Nat) (z_spaces z_others z_times : Value) (v_stretchCount : Int32) (f_kinds : Nat → Int32) : va_W := [(a_o, .inr (6, [.ref a_kinds, z_spaces, z_others, z_times, .int v_stretchCount])), (a_kinds, .inl (cI, 16, .inl f_kinds))]
def F_X7_loudnessOf (v_stretchCount : Int32) (f_kinds : Nat → Int32) (x1 : Int32) (x2 : Int32) (post : Int32 → Prop) : Prop := (F_X7_newLoudnessOf v_stretchCount f_kinds x1 (fun r3 => post (if 0 < (r3 - (x2 / 5)) then (r3 - (x2 / 5)) else 0)))
set_option maxHeartbeats 4000000 in
set_option maxRecDepth 100000 in
theorem c_X7_loudnessOf {l : Launch} {D : va_G} {cI cJ cS : ClassId} {ad adK : Nat → Nat} {a_o a_kinds : Nat} {z_spaces z_others z_times : Value} {v_stretchCount : Int32} {f_kinds : Nat → Int32} {x1 : Int32} {x2 : Int32} {post : Int32 → Prop} (h : F_X7_loudnessOf v_stretchCount f_kinds x1 x2 post) : Met l yX7_loudnessOf (Cond.code yX7_loudnessOf cX7_loudnessOf 3 (some (.int)) :: GW) (rmd 3 0 0) (PR D cI cJ cS ad adK [.ref a_o, .int x1, .int x2] (wX7_loudnessOf cI cJ cS a_o a_kinds z_spaces z_others z_times v_stretchCount f_kinds)) (vp_Si post) 0 0 nof := by
  refine Met.ro (by decide) (Nat.le_of_ble_eq_true rfl) (fun p e s m args below meth c ls (S : CallFix p m c cX7_loudnessOf 3 s args GW "RoadThatSings$Stretches") hE hT hP hS hr hlocks hl => ?_)
  have hx := S.1
  have hb := S.2.1
  have hl : lv_has ls 3 [(0, .ref a_o), (1, .int x1), (2, .int x2)] := hl
  unfold F_X7_loudnessOf at h
  refine lv_iconst (v := 0) hx hb dX7_loudnessOf_0 (by decide) ?_
  refine lv_aload_n hx hb dX7_loudnessOf_1 rfl (lv_at hl 0 rfl) ?_
  refine lv_iload_n hx hb dX7_loudnessOf_2 rfl (lv_at hl 1 rfl) ?_
  refine ro_i (roV S hE hT hS (c_X7_newLoudnessOf h) lkX7_79 rfl ⟨(Nat.le_of_ble_eq_true rfl), (Nat.le_of_ble_eq_true rfl)⟩ (hP.sub [0, 1] rfl) 0 rfl rfl hl.1 rfl (Nat.le_of_ble_eq_true rfl) dX7_loudnessOf_3 ⟨(Nat.zero_le _), (Nat.zero_le _)⟩) (fun r3 h => ?_)
  refine lv_iload_n hx hb dX7_loudnessOf_6 rfl (lv_at hl 2 rfl) ?_
  refine lv_iconst (v := 5) hx hb dX7_loudnessOf_7 (by decide) ?_
  refine lv_idiv hx hb dX7_loudnessOf_8 (by decide) ?_
  refine lv_isub hx hb dX7_loudnessOf_9 ?_
  refine va_mmax hx hb (S.2.2.1.trans hl.1.symm) S.2.2.2.1 (S.2.2.2.2 _ q413) (S.2.2.2.2 _ q236) (S.2.2.2.2 _ q10) (S.2.2.2.2 _ q237) (Nat.le_of_ble_eq_true rfl) (Nat.le_of_ble_eq_true rfl) (Nat.zero_le _) (Nat.zero_le _) dX7_loudnessOf_10 ?_
  exact W.iret hx hb hr (fun t ht _ => ⟨_, rfl, h, ht⟩) (fun _ hq => by cases hq) dX7_loudnessOf_13
/-! X7_isOneLoud -/
abbrev wX7_isOneLoud (cI cJ cS : ClassId) (a_o a_kinds : Nat) (z_spaces z_others z_times : Value) (v_stretchCount : Int32) (f_kinds : Nat → Int32) : va_W := [(a_o, .inr (6, [.ref a_kinds, z_spaces, z_others, z_times, .int v_stretchCount])), (a_kinds, .inl (cI, 16, .inl f_kinds))]
def L_X7_isOneLoud_2 (v_stretchCount : Int32) (f_kinds : Nat → Int32) (x1 : Int32) (post : Int32 → Prop) : Nat → Int32 → Prop
  | 0, _ => False
  | n2 + 1, x2 => ((v_stretchCount ≤ x2 → post 0) ∧ (¬ v_stretchCount ≤ x2 → (F_X7_loudnessOf v_stretchCount f_kinds x2 x1 (fun r13 => ((r13 ≤ 0 → (∀ x2_21 : Int32, x2_21 = x2 + 1 → L_X7_isOneLoud_2 v_stretchCount f_kinds x1 post n2 x2_21)) ∧ (¬ r13 ≤ 0 → post 1))))))
def F_X7_isOneLoud (v_stretchCount : Int32) (f_kinds : Nat → Int32) (x1 : Int32) (post : Int32 → Prop) : Prop := (∃ n2 : Nat, L_X7_isOneLoud_2 v_stretchCount f_kinds x1 post n2 0)
set_option maxHeartbeats 4000000 in
set_option maxRecDepth 100000 in
theorem w_X7_isOneLoud_2 {l : Launch} {D : va_G} {cI cJ cS : ClassId} {ad adK : Nat → Nat} {a_o a_kinds : Nat} {z_spaces z_others z_times : Value} {v_stretchCount : Int32} {f_kinds : Nat → Int32} {x1 : Int32} {post : Int32 → Prop} {p : Program} {e : Env} {s : State} {m : MethodId} {args : Array Value} {below : List Frame} {meth : Method} {c : Code} (S : CallFix p m c cX7_isOneLoud 3 s args GW "RoadThatSings$Stretches") (hE : EN D cI cJ cS s) (hT : ST ad adK nof s s.heap) (hP : va_P D vwCl (wX7_isOneLoud cI cJ cS a_o a_kinds z_spaces z_others z_times v_stretchCount f_kinds) s.heap) (hS : va_S nof s.heap s.heap []) (hr : meth.sig.returnType = (some (.boolean))) (hlocks : meth.locks = false) : ∀ n : Nat, ∀ (x2 : Int32) (ls : Array Slot), L_X7_isOneLoud_2 v_stretchCount f_kinds x1 post n x2 → lv_has ls 3 [(0, .ref a_o), (1, .int x1), (2, .int x2)] → W p l e (rmd 4 0 0) s m args below meth c s.heap [] 0 0 (MQ below (vp_Si post) args s 0 0 nof) (F0 m 2 ls []) := by
  intro n
  induction n with
  | zero =>
    intro x2 ls h hl
    exact h.elim
  | succ n ih =>
    intro x2 ls h hl
    rw [L_X7_isOneLoud_2] at h
    have hx := S.1
    have hb := S.2.1
    refine lv_iload_n hx hb dX7_isOneLoud_2 rfl (lv_at hl 2 rfl) ?_
    refine lv_aload_n hx hb dX7_isOneLoud_3 rfl (lv_at hl 0 rfl) ?_
    refine gf S hE hP 0 rfl rfl inX7 (k := 4) (by decide) q42 rfl dX7_isOneLoud_4 ?_
    refine lv_icmp_ge (tgt := 27) hx hb dX7_isOneLoud_7 (by decide) (fun hc => ?_) (fun hc => ?_)
    · have h := h.1 hc
      refine lv_iconst (v := 0) hx hb dX7_isOneLoud_27 (by decide) ?_
      exact W.zret hx hb hr rfl (fun t ht _ => ⟨_, rfl, h, ht⟩) (fun _ hq => by cases hq) dX7_isOneLoud_28
    have h := h.2 hc
    refine lv_aload_n hx hb dX7_isOneLoud_10 rfl (lv_at hl 0 rfl) ?_
    refine lv_iload_n hx hb dX7_isOneLoud_11 rfl (lv_at hl 2 rfl) ?_
    refine lv_iload_n hx hb dX7_isOneLoud_12 rfl (lv_at hl 1 rfl) ?_
    refine ro_i (roV S hE hT hS (c_X7_loudnessOf h) lkX7_82 rfl ⟨(Nat.le_of_ble_eq_true rfl), (Nat.le_of_ble_eq_true rfl)⟩ (hP.sub [0, 1] rfl) 0 rfl rfl hl.1 rfl (Nat.le_of_ble_eq_true rfl) dX7_isOneLoud_13 ⟨(Nat.zero_le _), (Nat.zero_le _)⟩) (fun r13 h => ?_)
    refine lv_if_le (tgt := 21) hx hb dX7_isOneLoud_16 (by decide) (fun hc => ?_) (fun hc => ?_)
    · have h := h.1 hc
      obtain ⟨x2_21, ex2_21⟩ : ∃ z : Int32, z = x2 + 1 := ⟨_, rfl⟩
      have h := h _ ex2_21
      refine lv_iinc (v := x2_21) (lv' := [(2, .int x2_21), (0, .ref a_o), (1, .int x1)]) hx hb dX7_isOneLoud_21 hl (k := 2) rfl (by rw [ex2_21]; rfl) (by decide) rfl (fun ls hl => ?_)
      refine lv_goto (tgt := 2) hx hb dX7_isOneLoud_24 (by decide) ?_
      exact ih _ _ h (lv_sub hl [1, 2, 0] rfl)
    have h := h.2 hc
    refine lv_iconst (v := 1) hx hb dX7_isOneLoud_19 (by decide) ?_
    exact W.zret hx hb hr rfl (fun t ht _ => ⟨_, rfl, h, ht⟩) (fun _ hq => by cases hq) dX7_isOneLoud_20
set_option maxHeartbeats 4000000 in
set_option maxRecDepth 100000 in
theorem c_X7_isOneLoud {l : Launch} {D : va_G} {cI cJ cS : ClassId} {ad adK : Nat → Nat} {a_o a_kinds : Nat} {z_spaces z_others z_times : Value} {v_stretchCount : Int32} {f_kinds : Nat → Int32} {x1 : Int32} {post : Int32 → Prop} (h : F_X7_isOneLoud v_stretchCount f_kinds x1 post) : Met l yX7_isOneLoud (Cond.code yX7_isOneLoud cX7_isOneLoud 3 (some (.boolean)) :: GW) (rmd 4 0 0) (PR D cI cJ cS ad adK [.ref a_o, .int x1] (wX7_isOneLoud cI cJ cS a_o a_kinds z_spaces z_others z_times v_stretchCount f_kinds)) (vp_Si post) 0 0 nof := by
  refine Met.ro (by decide) (Nat.le_of_ble_eq_true rfl) (fun p e s m args below meth c ls (S : CallFix p m c cX7_isOneLoud 3 s args GW "RoadThatSings$Stretches") hE hT hP hS hr hlocks hl => ?_)
  have hx := S.1
  have hb := S.2.1
  have hl : lv_has ls 3 [(0, .ref a_o), (1, .int x1)] := hl
  unfold F_X7_isOneLoud at h
  refine lv_iconst (v := 0) hx hb dX7_isOneLoud_0 (by decide) ?_
  refine lv_istore_n (lv' := [(2, .int 0), (0, .ref a_o), (1, .int x1)]) hx hb dX7_isOneLoud_1 rfl hl (by decide) rfl (fun ls hl => ?_)
  obtain ⟨n, h⟩ := h
  refine w_X7_isOneLoud_2 S hE hT hP hS hr hlocks n _ _ h (lv_sub hl [1, 2, 0] rfl)
/-! X7_isMetBy -/
abbrev wX7_isMetBy (cI cJ cS : ClassId) (a_o a_kinds a_others a_spaces : Nat) (z_times : Value) (v_stretchCount : Int32) (f_kinds : Nat → Int32) (f_others : Nat → Int32) (f_spaces : Nat → Int32) : va_W := [(a_o, .inr (6, [.ref a_kinds, .ref a_spaces, .ref a_others, z_times, .int v_stretchCount])), (a_kinds, .inl (cI, 16, .inl f_kinds)), (a_others, .inl (cI, 16, .inl f_others)), (a_spaces, .inl (cI, 16, .inl f_spaces))]
def F_X7_isMetBy (v_stretchCount : Int32) (f_kinds : Nat → Int32) (f_others : Nat → Int32) (f_spaces : Nat → Int32) (x1 : Int32) (x2 : Int32) (post : Int32 → Prop) : Prop := (F_X7_spacesTogether v_stretchCount f_kinds f_others f_spaces x1 (fun r2 => (F_X7_kindOf v_stretchCount f_kinds x1 (fun r8 => ((r8 = 3 → post 0) ∧ (¬ r8 = 3 → ((r2 ≤ 0 → post 0) ∧ (¬ r2 ≤ 0 → (¬ r2 = 0 ∧ (((x2 - x2 / r2 * r2) = 0 → post 1) ∧ (¬ (x2 - x2 / r2 * r2) = 0 → post 0)))))))))))
set_option maxHeartbeats 4000000 in
set_option maxRecDepth 100000 in
theorem c_X7_isMetBy {l : Launch} {D : va_G} {cI cJ cS : ClassId} {ad adK : Nat → Nat} {a_o a_kinds a_others a_spaces : Nat} {z_times : Value} {v_stretchCount : Int32} {f_kinds : Nat → Int32} {f_others : Nat → Int32} {f_spaces : Nat → Int32} {x1 : Int32} {x2 : Int32} {post : Int32 → Prop} (h : F_X7_isMetBy v_stretchCount f_kinds f_others f_spaces x1 x2 post) : Met l yX7_isMetBy (Cond.code yX7_isMetBy cX7_isMetBy 4 (some (.boolean)) :: GW) (rmd 2 0 0) (PR D cI cJ cS ad adK [.ref a_o, .int x1, .int x2] (wX7_isMetBy cI cJ cS a_o a_kinds a_others a_spaces z_times v_stretchCount f_kinds f_others f_spaces)) (vp_Si post) 0 0 nof := by
  refine Met.ro (by decide) (Nat.le_of_ble_eq_true rfl) (fun p e s m args below meth c ls (S : CallFix p m c cX7_isMetBy 4 s args GW "RoadThatSings$Stretches") hE hT hP hS hr hlocks hl => ?_)
  have hx := S.1
  have hb := S.2.1
  have hl : lv_has ls 4 [(0, .ref a_o), (1, .int x1), (2, .int x2)] := hl
  unfold F_X7_isMetBy at h
  refine lv_aload_n hx hb dX7_isMetBy_0 rfl (lv_at hl 0 rfl) ?_
  refine lv_iload_n hx hb dX7_isMetBy_1 rfl (lv_at hl 1 rfl) ?_
  refine ro_i (roV S hE hT hS (c_X7_spacesTogether h) lkX7_61 rfl ⟨(Nat.le_of_ble_eq_true rfl), (Nat.le_of_ble_eq_true rfl)⟩ (hP.sub [0, 1, 2, 3] rfl) 0 rfl rfl hl.1 rfl (Nat.le_of_ble_eq_true rfl) dX7_isMetBy_2 ⟨(Nat.zero_le _), (Nat.zero_le _)⟩) (fun r2 h => ?_)
  refine lv_istore_n (lv' := [(3, .int r2), (0, .ref a_o), (1, .int x1), (2, .int x2)]) hx hb dX7_isMetBy_5 rfl hl (by decide) rfl (fun ls hl => ?_)
  refine lv_aload_n hx hb dX7_isMetBy_6 rfl (lv_at hl 1 rfl) ?_
  refine lv_iload_n hx hb dX7_isMetBy_7 rfl (lv_at hl 2 rfl) ?_
  refine ro_i (roV S hE hT hS (c_X7_kindOf h) lkX7_54 rfl ⟨(Nat.le_of_ble_eq_true rfl), (Nat.le_of_ble_eq_true rfl)⟩ (hP.sub [0, 1] rfl) 0 rfl rfl hl.1 rfl (Nat.le_of_ble_eq_true rfl) dX7_isMetBy_8 ⟨(Nat.zero_le _), (Nat.zero_le _)⟩) (fun r8 h => ?_)
  refine lv_iconst (v := 3) hx hb dX7_isMetBy_11 (by decide) ?_
  refine lv_icmp_eq (tgt := 29) hx hb dX7_isMetBy_12 (by decide) (fun hc => ?_) (fun hc => ?_)
  · have h := h.1 hc
    refine lv_iconst (v := 0) hx hb dX7_isMetBy_29 (by decide) ?_
    exact W.zret hx hb hr rfl (fun t ht _ => ⟨_, rfl, h, ht⟩) (fun _ hq => by cases hq) dX7_isMetBy_30
  have h := h.2 hc
  refine lv_iload_n hx hb dX7_isMetBy_15 rfl (lv_at hl 0 rfl) ?_
  refine lv_if_le (tgt := 29) hx hb dX7_isMetBy_16 (by decide) (fun hc => ?_) (fun hc => ?_)
  · have h := h.1 hc
    refine lv_iconst (v := 0) hx hb dX7_isMetBy_29 (by decide) ?_
    exact W.zret hx hb hr rfl (fun t ht _ => ⟨_, rfl, h, ht⟩) (fun _ hq => by cases hq) dX7_isMetBy_30
  have h := h.2 hc
  refine lv_iload_n hx hb dX7_isMetBy_19 rfl (lv_at hl 3 rfl) ?_
  refine lv_iload_n hx hb dX7_isMetBy_20 rfl (lv_at hl 0 rfl) ?_
  obtain ⟨hz, h⟩ := h
  refine lv_irem hx hb dX7_isMetBy_21 hz ?_
  refine lv_if_ne (tgt := 29) hx hb dX7_isMetBy_22 (by decide) (fun hc => ?_) (fun hc => ?_)
  · have h := h.2 hc
    refine lv_iconst (v := 0) hx hb dX7_isMetBy_29 (by decide) ?_
    exact W.zret hx hb hr rfl (fun t ht _ => ⟨_, rfl, h, ht⟩) (fun _ hq => by cases hq) dX7_isMetBy_30
  have h := h.1 hc
  refine lv_iconst (v := 1) hx hb dX7_isMetBy_25 (by decide) ?_
  refine lv_goto (tgt := 30) hx hb dX7_isMetBy_26 (by decide) ?_
  exact W.zret hx hb hr rfl (fun t ht _ => ⟨_, rfl, h, ht⟩) (fun _ hq => by cases hq) dX7_isMetBy_30
/-! X8_count -/
abbrev wX8_count (cI cJ cS : ClassId) (a_o : Nat) (z_pitches z_beats z_noteCounts : Value) (v_tuneCount : Int32) : va_W := [(a_o, .inr (7, [z_pitches, z_beats, z_noteCounts, .int v_tuneCount]))]
def F_X8_count (v_tuneCount : Int32) (post : Int32 → Prop) : Prop := post v_tuneCount
set_option maxHeartbeats 4000000 in
set_option maxRecDepth 100000 in
theorem c_X8_count {l : Launch} {D : va_G} {cI cJ cS : ClassId} {ad adK : Nat → Nat} {a_o : Nat} {z_pitches z_beats z_noteCounts : Value} {v_tuneCount : Int32} {post : Int32 → Prop} (h : F_X8_count v_tuneCount post) : Met l yX8_count (Cond.code yX8_count cX8_count 1 (some (.int)) :: GW) (rmd 0 0 0) (PR D cI cJ cS ad adK [.ref a_o] (wX8_count cI cJ cS a_o z_pitches z_beats z_noteCounts v_tuneCount)) (vp_Si post) 0 0 nof := by
  refine Met.ro (by decide) (Nat.le_of_ble_eq_true rfl) (fun p e s m args below meth c ls (S : CallFix p m c cX8_count 1 s args GW "RoadThatSings$Tunes") hE hT hP hS hr hlocks hl => ?_)
  have hx := S.1
  have hb := S.2.1
  have hl : lv_has ls 1 [(0, .ref a_o)] := hl
  unfold F_X8_count at h
  refine lv_aload_n hx hb dX8_count_0 rfl (lv_at hl 0 rfl) ?_
  refine gf S hE hP 0 rfl rfl inX8 (k := 3) (by decide) q83 rfl dX8_count_1 ?_
  exact W.iret hx hb hr (fun t ht _ => ⟨_, rfl, h, ht⟩) (fun _ hq => by cases hq) dX8_count_4
/-! X8_beatsAhead -/
abbrev wX8_beatsAhead (cI cJ cS : ClassId) (a_o a_beats a_noteCounts : Nat) (z_pitches : Value) (v_tuneCount : Int32) (f_beats : Nat → Int32) (f_noteCounts : Nat → Int32) : va_W := [(a_o, .inr (7, [z_pitches, .ref a_beats, .ref a_noteCounts, .int v_tuneCount])), (a_beats, .inl (cI, 72, .inl f_beats)), (a_noteCounts, .inl (cI, 6, .inl f_noteCounts))]
def L_X8_beatsAhead_5 (v_tuneCount : Int32) (f_beats : Nat → Int32) (f_noteCounts : Nat → Int32) (x1 : Int32) (x2 : Int32) (post : Int32 → Prop) : Nat → Int32 → Int32 → Prop
  | 0, _, _ => False
  | n5 + 1, x3, x4 => ((x2 ≤ x4 → post x3) ∧ (¬ x2 ≤ x4 → ((12 ≤ x4 → post x3) ∧ (¬ 12 ≤ x4 → (F_X8_beatsOf v_tuneCount f_beats f_noteCounts x1 x4 (fun r23 => (∀ x3_27 : Int32, x3_27 = x3 + r23 → (∀ x4_28 : Int32, x4_28 = x4 + 1 → L_X8_beatsAhead_5 v_tuneCount f_beats f_noteCounts x1 x2 post n5 x3_27 x4_28))))))))
def F_X8_beatsAhead (v_tuneCount : Int32) (f_beats : Nat → Int32) (f_noteCounts : Nat → Int32) (x1 : Int32) (x2 : Int32) (post : Int32 → Prop) : Prop := (∃ n5 : Nat, L_X8_beatsAhead_5 v_tuneCount f_beats f_noteCounts x1 x2 post n5 0 0)
set_option maxHeartbeats 4000000 in
set_option maxRecDepth 100000 in
theorem w_X8_beatsAhead_5 {l : Launch} {D : va_G} {cI cJ cS : ClassId} {ad adK : Nat → Nat} {a_o a_beats a_noteCounts : Nat} {z_pitches : Value} {v_tuneCount : Int32} {f_beats : Nat → Int32} {f_noteCounts : Nat → Int32} {x1 : Int32} {x2 : Int32} {post : Int32 → Prop} {p : Program} {e : Env} {s : State} {m : MethodId} {args : Array Value} {below : List Frame} {meth : Method} {c : Code} (S : CallFix p m c cX8_beatsAhead 5 s args GW "RoadThatSings$Tunes") (hE : EN D cI cJ cS s) (hT : ST ad adK nof s s.heap) (hP : va_P D vwCl (wX8_beatsAhead cI cJ cS a_o a_beats a_noteCounts z_pitches v_tuneCount f_beats f_noteCounts) s.heap) (hS : va_S nof s.heap s.heap []) (hr : meth.sig.returnType = (some (.int))) (hlocks : meth.locks = false) : ∀ n : Nat, ∀ (x3 : Int32) (x4 : Int32) (ls : Array Slot), L_X8_beatsAhead_5 v_tuneCount f_beats f_noteCounts x1 x2 post n x3 x4 → lv_has ls 5 [(0, .ref a_o), (1, .int x1), (2, .int x2), (3, .int x3), (4, .int x4)] → W p l e (rmd 3 0 0) s m args below meth c s.heap [] 0 0 (MQ below (vp_Si post) args s 0 0 nof) (F0 m 5 ls []) := by
  intro n
  induction n with
  | zero =>
    intro x3 x4 ls h hl
    exact h.elim
  | succ n ih =>
    intro x3 x4 ls h hl
    rw [L_X8_beatsAhead_5] at h
    have hx := S.1
    have hb := S.2.1
    refine lv_iload hx hb dX8_beatsAhead_5 (lv_at hl 4 rfl) ?_
    refine lv_iload_n hx hb dX8_beatsAhead_7 rfl (lv_at hl 2 rfl) ?_
    refine lv_icmp_ge (tgt := 34) hx hb dX8_beatsAhead_8 (by decide) (fun hc => ?_) (fun hc => ?_)
    · have h := h.1 hc
      refine lv_iload_n hx hb dX8_beatsAhead_34 rfl (lv_at hl 3 rfl) ?_
      exact W.iret hx hb hr (fun t ht _ => ⟨_, rfl, h, ht⟩) (fun _ hq => by cases hq) dX8_beatsAhead_35
    have h := h.2 hc
    refine lv_iload hx hb dX8_beatsAhead_11 (lv_at hl 4 rfl) ?_
    refine lv_bipush (v := 12) hx hb dX8_beatsAhead_13 (by decide) ?_
    refine lv_icmp_ge (tgt := 34) hx hb dX8_beatsAhead_15 (by decide) (fun hc => ?_) (fun hc => ?_)
    · have h := h.1 hc
      refine lv_iload_n hx hb dX8_beatsAhead_34 rfl (lv_at hl 3 rfl) ?_
      exact W.iret hx hb hr (fun t ht _ => ⟨_, rfl, h, ht⟩) (fun _ hq => by cases hq) dX8_beatsAhead_35
    have h := h.2 hc
    refine lv_iload_n hx hb dX8_beatsAhead_18 rfl (lv_at hl 3 rfl) ?_
    refine lv_aload_n hx hb dX8_beatsAhead_19 rfl (lv_at hl 0 rfl) ?_
    refine lv_iload_n hx hb dX8_beatsAhead_20 rfl (lv_at hl 1 rfl) ?_
    refine lv_iload hx hb dX8_beatsAhead_21 (lv_at hl 4 rfl) ?_
    refine ro_i (roV S hE hT hS (c_X8_beatsOf h) lkX8_47 rfl ⟨(Nat.le_of_ble_eq_true rfl), (Nat.le_of_ble_eq_true rfl)⟩ (hP.sub [0, 1, 2] rfl) 0 rfl rfl hl.1 rfl (Nat.le_of_ble_eq_true rfl) dX8_beatsAhead_23 ⟨(Nat.zero_le _), (Nat.zero_le _)⟩) (fun r23 h => ?_)
    refine lv_iadd hx hb dX8_beatsAhead_26 ?_
    refine lv_topi (fun x3_27 ex3_27 => ?_)
    have h := h _ ex3_27
    refine lv_istore_n (lv' := [(3, .int x3_27), (0, .ref a_o), (1, .int x1), (2, .int x2), (4, .int x4)]) hx hb dX8_beatsAhead_27 rfl hl (by decide) rfl (fun ls hl => ?_)
    obtain ⟨x4_28, ex4_28⟩ : ∃ z : Int32, z = x4 + 1 := ⟨_, rfl⟩
    have h := h _ ex4_28
    refine lv_iinc (v := x4_28) (lv' := [(4, .int x4_28), (3, .int x3_27), (0, .ref a_o), (1, .int x1), (2, .int x2)]) hx hb dX8_beatsAhead_28 hl (k := 4) rfl (by rw [ex4_28]; rfl) (by decide) rfl (fun ls hl => ?_)
    refine lv_goto (tgt := 5) hx hb dX8_beatsAhead_31 (by decide) ?_
    exact ih _ _ _ h (lv_sub hl [2, 3, 4, 1, 0] rfl)
set_option maxHeartbeats 4000000 in
set_option maxRecDepth 100000 in
theorem c_X8_beatsAhead {l : Launch} {D : va_G} {cI cJ cS : ClassId} {ad adK : Nat → Nat} {a_o a_beats a_noteCounts : Nat} {z_pitches : Value} {v_tuneCount : Int32} {f_beats : Nat → Int32} {f_noteCounts : Nat → Int32} {x1 : Int32} {x2 : Int32} {post : Int32 → Prop} (h : F_X8_beatsAhead v_tuneCount f_beats f_noteCounts x1 x2 post) : Met l yX8_beatsAhead (Cond.code yX8_beatsAhead cX8_beatsAhead 5 (some (.int)) :: GW) (rmd 3 0 0) (PR D cI cJ cS ad adK [.ref a_o, .int x1, .int x2] (wX8_beatsAhead cI cJ cS a_o a_beats a_noteCounts z_pitches v_tuneCount f_beats f_noteCounts)) (vp_Si post) 0 0 nof := by
  refine Met.ro (by decide) (Nat.le_of_ble_eq_true rfl) (fun p e s m args below meth c ls (S : CallFix p m c cX8_beatsAhead 5 s args GW "RoadThatSings$Tunes") hE hT hP hS hr hlocks hl => ?_)
  have hx := S.1
  have hb := S.2.1
  have hl : lv_has ls 5 [(0, .ref a_o), (1, .int x1), (2, .int x2)] := hl
  unfold F_X8_beatsAhead at h
  refine lv_iconst (v := 0) hx hb dX8_beatsAhead_0 (by decide) ?_
  refine lv_istore_n (lv' := [(3, .int 0), (0, .ref a_o), (1, .int x1), (2, .int x2)]) hx hb dX8_beatsAhead_1 rfl hl (by decide) rfl (fun ls hl => ?_)
  refine lv_iconst (v := 0) hx hb dX8_beatsAhead_2 (by decide) ?_
  refine lv_istore (lv' := [(4, .int 0), (3, .int 0), (0, .ref a_o), (1, .int x1), (2, .int x2)]) hx hb dX8_beatsAhead_3 hl (by decide) rfl (fun ls hl => ?_)
  obtain ⟨n, h⟩ := h
  refine w_X8_beatsAhead_5 S hE hT hP hS hr hlocks n _ _ _ h (lv_sub hl [2, 3, 4, 1, 0] rfl)
/-! X9_shelfAt -/
abbrev wX9_shelfAt (cI cJ cS : ClassId) (a_o a_shelves : Nat) (z_road z_kept z_ahead z_cutting z_acting z_refused : Value) (sa : Nat → Nat) (v_imaged : Int32) (v_lastFault : Int32) : va_W := [(a_o, .inr (8, [z_road, z_kept, z_ahead, .ref a_shelves, z_cutting, z_acting, z_refused, .int v_imaged, .int v_lastFault])), (a_shelves, .inl (cS, 8, .inr (.inr (.inr (.inr (fun k => some (sa k)))))))]
def F_X9_shelfAt (x1 : Int32) (k0 : Prop) (k1 : Nat → Prop) : Prop := (F_X9_within x1 0 7 (fun r4 => ((r4 = 0 → k0) ∧ (¬ r4 = 0 → (vp_in x1 8 ∧ k1 x1.toNatClampNeg)))))
set_option maxHeartbeats 4000000 in
set_option maxRecDepth 100000 in
theorem c_X9_shelfAt {l : Launch} {D : va_G} {cI cJ cS : ClassId} {ad adK : Nat → Nat} {a_o a_shelves : Nat} {z_road z_kept z_ahead z_cutting z_acting z_refused : Value} {sa : Nat → Nat} {v_imaged : Int32} {v_lastFault : Int32} {x1 : Int32} {k0 : Prop} {k1 : Nat → Prop} (h : F_X9_shelfAt x1 k0 k1) : Met l yX9_shelfAt (Cond.code yX9_shelfAt cX9_shelfAt 2 (some (.object "RoadThatSings$Shelf")) :: GW) (rmd 1 0 0) (PR D cI cJ cS ad adK [.ref a_o, .int x1] (wX9_shelfAt cI cJ cS a_o a_shelves z_road z_kept z_ahead z_cutting z_acting z_refused sa v_imaged v_lastFault)) (va_Sq (fun r => (r = none ∧ k0) ∨ ∃ j, j < 8 ∧ r = some (sa j) ∧ k1 j)) 0 0 nof := by
  refine Met.ro (by decide) (Nat.le_of_ble_eq_true rfl) (fun p e s m args below meth c ls (S : CallFix p m c cX9_shelfAt 2 s args GW "RoadThatSings") hE hT hP hS hr hlocks hl => ?_)
  have hx := S.1
  have hb := S.2.1
  have hl : lv_has ls 2 [(0, .ref a_o), (1, .int x1)] := hl
  unfold F_X9_shelfAt at h
  refine lv_iload_n hx hb dX9_shelfAt_0 rfl (lv_at hl 1 rfl) ?_
  refine lv_iconst (v := 0) hx hb dX9_shelfAt_1 (by decide) ?_
  refine lv_bipush (v := 7) hx hb dX9_shelfAt_2 (by decide) ?_
  refine ro_i (roS S hE hT hS (c_X9_within h) lkX9_63 rfl ⟨(Nat.le_of_ble_eq_true rfl), (Nat.le_of_ble_eq_true rfl)⟩ (hP.sub [] rfl) hl.1 rfl (Nat.le_of_ble_eq_true rfl) dX9_shelfAt_4 ⟨(Nat.zero_le _), (Nat.zero_le _)⟩) (fun r4 h => ?_)
  refine lv_if_eq (tgt := 19) hx hb dX9_shelfAt_7 (by decide) (fun hc => ?_) (fun hc => ?_)
  · have h := h.1 hc
    refine lv_null hx hb dX9_shelfAt_19 ?_
    exact W.aret hx hb hr (Or.inl ⟨_, rfl⟩) (Or.inl rfl) (fun t ht _ => ⟨none, rfl, Or.inl ⟨rfl, h⟩, ht⟩) (fun _ hq => by cases hq) dX9_shelfAt_20
  have h := h.2 hc
  refine lv_aload_n hx hb dX9_shelfAt_10 rfl (lv_at hl 0 rfl) ?_
  refine gf S hE hP 0 rfl rfl inX9 (k := 3) (by decide) q184 rfl dX9_shelfAt_11 ?_
  refine lv_iload_n hx hb dX9_shelfAt_14 rfl (lv_at hl 1 rfl) ?_
  obtain ⟨hi, h⟩ := h
  refine aalS S hE hP 1 rfl hi dX9_shelfAt_15 ?_
  refine lv_goto (tgt := 20) hx hb dX9_shelfAt_16 (by decide) ?_
  exact W.aret hx hb hr (Or.inl ⟨_, rfl⟩) (Or.inr ⟨_, rfl⟩) (fun t ht _ => ⟨some _, rfl, Or.inr ⟨_, Nat.not_le.mp (fun q => hi (Or.inr q)), rfl, h⟩, ht⟩) (fun _ hq => by cases hq) dX9_shelfAt_20
/-! X9_refuseAs -/
abbrev wX9_refuseAs (cI cJ cS : ClassId) (a_o a_refused : Nat) (z_road z_kept z_ahead z_shelves z_cutting z_acting : Value) (v_imaged : Int32) (v_lastFault : Int32) (f_refused : Nat → Int32) : va_W := [(a_o, .inr (8, [z_road, z_kept, z_ahead, z_shelves, z_cutting, z_acting, .ref a_refused, .int v_imaged, .int v_lastFault])), (a_refused, .inl (cI, 8, .inl f_refused))]
def F_X9_refuseAs (f_refused : Nat → Int32) (x1 : Int32) (x2 : Int32) (post : Int32 → (Nat → Int32) → Prop) : Prop := (F_X9_within x1 (-7) (-1) (fun r4 => ((r4 = 0 → post x2 f_refused) ∧ (¬ r4 = 0 → (vp_in (-x1) 8 ∧ (vp_in (-x1) 8 ∧ post x2 (upd f_refused (-x1).toNatClampNeg ((f_refused (-x1).toNatClampNeg) + 1))))))))
set_option maxHeartbeats 4000000 in
set_option maxRecDepth 100000 in
theorem c_X9_refuseAs {l : Launch} {D : va_G} {cI cJ cS : ClassId} {ad adK : Nat → Nat} {a_o a_refused : Nat} {z_road z_kept z_ahead z_shelves z_cutting z_acting : Value} {v_imaged : Int32} {v_lastFault : Int32} {f_refused : Nat → Int32} {x1 : Int32} {x2 : Int32} {post : Int32 → (Nat → Int32) → Prop} (h : F_X9_refuseAs f_refused x1 x2 post) {sz : Nat} : Met l yX9_refuseAs (Cond.code yX9_refuseAs cX9_refuseAs 3 (some (.int)) :: GW) (rmd 1 0 0) (PW D cI cJ cS ad adK [.ref a_o, .int x1, .int x2] (wX9_refuseAs cI cJ cS a_o a_refused z_road z_kept z_ahead z_shelves z_cutting z_acting v_imaged v_lastFault f_refused) sz) (va_Qi (fun r (u : (Nat → Int32)) => post r u) (fun u t => va_P D vwCl (wX9_refuseAs cI cJ cS a_o a_refused z_road z_kept z_ahead z_shelves z_cutting z_acting v_imaged v_lastFault u) t.heap) (va_A (wX9_refuseAs cI cJ cS a_o a_refused z_road z_kept z_ahead z_shelves z_cutting z_acting v_imaged v_lastFault f_refused) sz)) 0 0 (va_A (wX9_refuseAs cI cJ cS a_o a_refused z_road z_kept z_ahead z_shelves z_cutting z_acting v_imaged v_lastFault f_refused) sz) := by
  refine Met.rw (Qc := fun A => (va_Qi (fun r (u : (Nat → Int32)) => post r u) (fun u t => va_P D vwCl (wX9_refuseAs cI cJ cS a_o a_refused z_road z_kept z_ahead z_shelves z_cutting z_acting v_imaged v_lastFault u) t.heap) A)) (by decide) (Nat.le_of_ble_eq_true rfl) (fun p e s m args below meth c ls A (S : CallFix p m c cX9_refuseAs 3 s args GW "RoadThatSings") hE hT hP hD hA hS hr hlocks hname hl => ?_)
  have hS0 := hS
  have hx := S.1
  have hb := S.2.1
  have hl : lv_has ls 3 [(0, .ref a_o), (1, .int x1), (2, .int x2)] := hl
  unfold F_X9_refuseAs at h
  refine lv_iload_n hx hb dX9_refuseAs_0 rfl (lv_at hl 1 rfl) ?_
  refine lv_bipush (v := (-7)) hx hb dX9_refuseAs_1 (by decide) ?_
  refine lv_iconst (v := (-1)) hx hb dX9_refuseAs_3 (by decide) ?_
  refine ro_i (roS S hE hT hS (c_X9_within h) lkX9_63 rfl ⟨(Nat.le_of_ble_eq_true rfl), (Nat.le_of_ble_eq_true rfl)⟩ (hP.sub [] rfl) hl.1 rfl (Nat.le_of_ble_eq_true rfl) dX9_refuseAs_4 ⟨(Nat.zero_le _), (Nat.zero_le _)⟩) (fun r4 h => ?_)
  refine lv_if_eq (tgt := 21) hx hb dX9_refuseAs_7 (by decide) (fun hc => ?_) (fun hc => ?_)
  · have h := h.1 hc
    refine lv_iload_n hx hb dX9_refuseAs_21 rfl (lv_at hl 2 rfl) ?_
    exact W.iret hx hb hr (fun t ht _ => ⟨⟨_, f_refused, rfl, h, hPt hP ht⟩, hS.F ht⟩) hS.2.2 dX9_refuseAs_22
  have h := h.2 hc
  refine lv_aload_n hx hb dX9_refuseAs_10 rfl (lv_at hl 0 rfl) ?_
  refine gf S hE hP 0 rfl rfl inX9 (k := 6) (by decide) q187 rfl dX9_refuseAs_11 ?_
  refine lv_iload_n hx hb dX9_refuseAs_14 rfl (lv_at hl 1 rfl) ?_
  refine lv_ineg hx hb dX9_refuseAs_15 ?_
  refine lv_dup2_11 hx hb dX9_refuseAs_16 rfl rfl ?_
  obtain ⟨hi, h⟩ := h
  refine ial S hE hP 1 rfl hi dX9_refuseAs_17 ?_
  refine lv_iconst (v := 1) hx hb dX9_refuseAs_18 (by decide) ?_
  refine lv_iadd hx hb dX9_refuseAs_19 ?_
  obtain ⟨hi, h⟩ := h
  refine ias S hE hP hD hS 1 rfl hi dX9_refuseAs_20 (fun H locs hP hD hS => ?_)
  have hP : va_P D vwCl (wX9_refuseAs cI cJ cS a_o a_refused z_road z_kept z_ahead z_shelves z_cutting z_acting v_imaged v_lastFault (upd f_refused (-x1).toNatClampNeg ((f_refused (-x1).toNatClampNeg) + 1))) H := hP
  have hD : va_D A (wX9_refuseAs cI cJ cS a_o a_refused z_road z_kept z_ahead z_shelves z_cutting z_acting v_imaged v_lastFault (upd f_refused (-x1).toNatClampNeg ((f_refused (-x1).toNatClampNeg) + 1))) := hD
  refine lv_iload_n hx hb dX9_refuseAs_21 rfl (lv_at hl 2 rfl) ?_
  exact W.iret hx hb hr (fun t ht _ => ⟨⟨_, (upd f_refused (-x1).toNatClampNeg ((f_refused (-x1).toNatClampNeg) + 1)), rfl, h, hPt hP ht⟩, hS.F ht⟩) hS.2.2 dX9_refuseAs_22
/-! X9_refuse -/
abbrev wX9_refuse (cI cJ cS : ClassId) (a_o a_refused : Nat) (z_road z_kept z_ahead z_shelves z_cutting z_acting : Value) (v_imaged : Int32) (v_lastFault : Int32) (f_refused : Nat → Int32) : va_W := [(a_o, .inr (8, [z_road, z_kept, z_ahead, z_shelves, z_cutting, z_acting, .ref a_refused, .int v_imaged, .int v_lastFault])), (a_refused, .inl (cI, 8, .inl f_refused))]
def F_X9_refuse (f_refused : Nat → Int32) (x1 : Int32) (post : Int32 → (Nat → Int32) → Prop) : Prop := (F_X9_refuseAs f_refused x1 x1 (fun r3 w3_0 => post r3 w3_0))
set_option maxHeartbeats 4000000 in
set_option maxRecDepth 100000 in
theorem c_X9_refuse {l : Launch} {D : va_G} {cI cJ cS : ClassId} {ad adK : Nat → Nat} {a_o a_refused : Nat} {z_road z_kept z_ahead z_shelves z_cutting z_acting : Value} {v_imaged : Int32} {v_lastFault : Int32} {f_refused : Nat → Int32} {x1 : Int32} {post : Int32 → (Nat → Int32) → Prop} (h : F_X9_refuse f_refused x1 post) {sz : Nat} : Met l yX9_refuse (Cond.code yX9_refuse cX9_refuse 2 (some (.int)) :: GW) (rmd 2 0 0) (PW D cI cJ cS ad adK [.ref a_o, .int x1] (wX9_refuse cI cJ cS a_o a_refused z_road z_kept z_ahead z_shelves z_cutting z_acting v_imaged v_lastFault f_refused) sz) (va_Qi (fun r (u : (Nat → Int32)) => post r u) (fun u t => va_P D vwCl (wX9_refuse cI cJ cS a_o a_refused z_road z_kept z_ahead z_shelves z_cutting z_acting v_imaged v_lastFault u) t.heap) (va_A (wX9_refuse cI cJ cS a_o a_refused z_road z_kept z_ahead z_shelves z_cutting z_acting v_imaged v_lastFault f_refused) sz)) 0 0 (va_A (wX9_refuse cI cJ cS a_o a_refused z_road z_kept z_ahead z_shelves z_cutting z_acting v_imaged v_lastFault f_refused) sz) := by
  refine Met.rw (Qc := fun A => (va_Qi (fun r (u : (Nat → Int32)) => post r u) (fun u t => va_P D vwCl (wX9_refuse cI cJ cS a_o a_refused z_road z_kept z_ahead z_shelves z_cutting z_acting v_imaged v_lastFault u) t.heap) A)) (by decide) (Nat.le_of_ble_eq_true rfl) (fun p e s m args below meth c ls A (S : CallFix p m c cX9_refuse 2 s args GW "RoadThatSings") hE hT hP hD hA hS hr hlocks hname hl => ?_)
  have hS0 := hS
  have hx := S.1
  have hb := S.2.1
  have hl : lv_has ls 2 [(0, .ref a_o), (1, .int x1)] := hl
  unfold F_X9_refuse at h
  refine lv_aload_n hx hb dX9_refuse_0 rfl (lv_at hl 0 rfl) ?_
  refine lv_iload_n hx hb dX9_refuse_1 rfl (lv_at hl 1 rfl) ?_
  refine lv_iload_n hx hb dX9_refuse_2 rfl (lv_at hl 1 rfl) ?_
  refine rw_i (rwV S hE hT hS hP hD hA (c_X9_refuseAs h) [0, 1] rfl (by decide +kernel) lkX9_351 rfl ⟨(Nat.le_of_ble_eq_true rfl), (Nat.le_of_ble_eq_true rfl)⟩ 0 rfl rfl hl.1 rfl (Nat.le_of_ble_eq_true rfl) dX9_refuse_3 ⟨(Nat.zero_le _), (Nat.zero_le _)⟩) hP hD hS hA [0, 1] rfl (by decide +kernel) (fun _ => rfl) (fun r3 w3_0 H locs h hP hD hS => ?_)
  try dsimp only at h
  have hP : va_P D vwCl (wX9_refuse cI cJ cS a_o a_refused z_road z_kept z_ahead z_shelves z_cutting z_acting v_imaged v_lastFault w3_0) H := hP
  have hD : va_D A (wX9_refuse cI cJ cS a_o a_refused z_road z_kept z_ahead z_shelves z_cutting z_acting v_imaged v_lastFault w3_0) := hD
  exact W.iret hx hb hr (fun t ht _ => ⟨⟨_, w3_0, rfl, h, hPt hP ht⟩, hS.F ht⟩) hS.2.2 dX9_refuse_6
/-! X9_row -/
abbrev wX9_row (cI cJ cS : ClassId) (a_o a_refused a_shelves : Nat) (z_road z_kept z_ahead z_cutting z_acting : Value) (sa ea : Nat → Nat) (v_imaged : Int32) (v_lastFault : Int32) (f_refused : Nat → Int32) (f_sh_held : Nat → Int32) (f_sh_sort : Nat → Int32) (f_sh_cnt : Nat → Int32) (f_sh_num : Nat → Int32) (g_sh_el : Nat → Nat → Int64) : va_W := [(a_o, .inr (8, [z_road, z_kept, z_ahead, .ref a_shelves, z_cutting, z_acting, .ref a_refused, .int v_imaged, .int v_lastFault])), (a_refused, .inl (cI, 8, .inl f_refused)), (a_shelves, .inl (cS, 8, .inr (.inr (.inr (.inr (fun k => some (sa k)))))))] ++ shW sa ea cJ f_sh_held f_sh_sort f_sh_cnt f_sh_num g_sh_el
def F_X9_row (f_refused : Nat → Int32) (f_sh_held : Nat → Int32) (f_sh_sort : Nat → Int32) (f_sh_cnt : Nat → Int32) (g_sh_el : Nat → Nat → Int64) (x1 : Int32) (x2 : Int32) (x3 : Int32) (post : Int32 → (Nat → Int32) → (Nat → Int32) → (Nat → Int32) → (Nat → Int32) → (Nat → Nat → Int64) → Prop) : Prop := (F_X9_shelfAt x1 ((F_X9_refuse f_refused (-1) (fun r14 w14_0 => post r14 w14_0 f_sh_held f_sh_sort f_sh_cnt g_sh_el))) (fun j2 => ((0 ≤ x3 → (F_X9_within x2 0 3 (fun r32 => ((r32 = 0 → (F_X9_refuse f_refused (-6) (fun r41 w41_0 => post r41 w41_0 f_sh_held f_sh_sort f_sh_cnt g_sh_el))) ∧ (¬ r32 = 0 → ((x3 ≤ 160 → (F_X6_holdRow (f_sh_held j2) (f_sh_sort j2) (f_sh_cnt j2) (g_sh_el j2) x2 x3 (fun w63_0 w63_1 w63_2 w63_3 => post 1 f_refused (va_up f_sh_held j2 w63_0) (va_up f_sh_sort j2 w63_1) (va_up f_sh_cnt j2 w63_2) (va_up g_sh_el j2 w63_3)))) ∧ (¬ x3 ≤ 160 → (F_X9_refuse f_refused (-7) (fun r55 w55_0 => post r55 w55_0 f_sh_held f_sh_sort f_sh_cnt g_sh_el))))))))) ∧ (¬ 0 ≤ x3 → (F_X9_refuse f_refused (-4) (fun r25 w25_0 => post r25 w25_0 f_sh_held f_sh_sort f_sh_cnt g_sh_el))))))
set_option maxHeartbeats 4000000 in
set_option maxRecDepth 100000 in
theorem c_X9_row {l : Launch} {D : va_G} {cI cJ cS : ClassId} {ad adK : Nat → Nat} {a_o a_refused a_shelves : Nat} {z_road z_kept z_ahead z_cutting z_acting : Value} {sa ea : Nat → Nat} {v_imaged : Int32} {v_lastFault : Int32} {f_refused : Nat → Int32} {f_sh_held : Nat → Int32} {f_sh_sort : Nat → Int32} {f_sh_cnt : Nat → Int32} {f_sh_num : Nat → Int32} {g_sh_el : Nat → Nat → Int64} {x1 : Int32} {x2 : Int32} {x3 : Int32} {post : Int32 → (Nat → Int32) → (Nat → Int32) → (Nat → Int32) → (Nat → Int32) → (Nat → Nat → Int64) → Prop} (h : F_X9_row f_refused f_sh_held f_sh_sort f_sh_cnt g_sh_el x1 x2 x3 post) {sz : Nat} : Met l yX9_row (Cond.code yX9_row cX9_row 5 (some (.int)) :: GW) (rmd 3 0 0) (PW D cI cJ cS ad adK [.ref a_o, .int x1, .int x2, .int x3] (wX9_row cI cJ cS a_o a_refused a_shelves z_road z_kept z_ahead z_cutting z_acting sa ea v_imaged v_lastFault f_refused f_sh_held f_sh_sort f_sh_cnt f_sh_num g_sh_el) sz) (va_Qi (fun r (u : (Nat → Int32) × (Nat → Int32) × (Nat → Int32) × (Nat → Int32) × (Nat → Nat → Int64)) => post r u.1 u.2.1 u.2.2.1 u.2.2.2.1 u.2.2.2.2) (fun u t => va_P D vwCl (wX9_row cI cJ cS a_o a_refused a_shelves z_road z_kept z_ahead z_cutting z_acting sa ea v_imaged v_lastFault u.1 u.2.1 u.2.2.1 u.2.2.2.1 f_sh_num u.2.2.2.2) t.heap) (va_A (wX9_row cI cJ cS a_o a_refused a_shelves z_road z_kept z_ahead z_cutting z_acting sa ea v_imaged v_lastFault f_refused f_sh_held f_sh_sort f_sh_cnt f_sh_num g_sh_el) sz)) 0 0 (va_A (wX9_row cI cJ cS a_o a_refused a_shelves z_road z_kept z_ahead z_cutting z_acting sa ea v_imaged v_lastFault f_refused f_sh_held f_sh_sort f_sh_cnt f_sh_num g_sh_el) sz) := by
  refine Met.rw (Qc := fun A => (va_Qi (fun r (u : (Nat → Int32) × (Nat → Int32) × (Nat → Int32) × (Nat → Int32) × (Nat → Nat → Int64)) => post r u.1 u.2.1 u.2.2.1 u.2.2.2.1 u.2.2.2.2) (fun u t => va_P D vwCl (wX9_row cI cJ cS a_o a_refused a_shelves z_road z_kept z_ahead z_cutting z_acting sa ea v_imaged v_lastFault u.1 u.2.1 u.2.2.1 u.2.2.2.1 f_sh_num u.2.2.2.2) t.heap) A)) (by decide) (Nat.le_of_ble_eq_true rfl) (fun p e s m args below meth c ls A (S : CallFix p m c cX9_row 5 s args GW "RoadThatSings") hE hT hP hD hA hS hr hlocks hname hl => ?_)
  have hS0 := hS
  have hx := S.1
  have hb := S.2.1
  have hl : lv_has ls 5 [(0, .ref a_o), (1, .int x1), (2, .int x2), (3, .int x3)] := hl
  unfold F_X9_row at h
  refine lv_aload_n hx hb dX9_row_0 rfl (lv_at hl 0 rfl) ?_
  refine lv_iload_n hx hb dX9_row_1 rfl (lv_at hl 1 rfl) ?_
  refine ro_s (roV S hE hT hS (c_X9_shelfAt h) lkX9_55 rfl ⟨(Nat.le_of_ble_eq_true rfl), (Nat.le_of_ble_eq_true rfl)⟩ (hP.sub [0, 2] rfl) 0 rfl rfl hl.1 rfl (Nat.le_of_ble_eq_true rfl) dX9_row_2 ⟨(Nat.zero_le _), (Nat.zero_le _)⟩) (fun h => ?_) (fun j2 hj2 h => ?_)
  · refine lv_astoreN (lv' := [(4, .null), (0, .ref a_o), (1, .int x1), (2, .int x2), (3, .int x3)]) hx hb dX9_row_5 hl (by decide) rfl (fun ls hl => ?_)
    refine lv_aloadN hx hb dX9_row_7 (lv_at hl 0 rfl) ?_
    refine lv_ifnonnullN hx hb dX9_row_9 ?_
    refine lv_aload_n hx hb dX9_row_12 rfl (lv_at hl 1 rfl) ?_
    refine lv_iconst (v := (-1)) hx hb dX9_row_13 (by decide) ?_
    refine rw_i (rwV S hE hT hS hP hD hA (c_X9_refuse h) [0, 1] rfl (by decide +kernel) lkX9_59 rfl ⟨(Nat.le_of_ble_eq_true rfl), (Nat.le_of_ble_eq_true rfl)⟩ 0 rfl rfl hl.1 rfl (Nat.le_of_ble_eq_true rfl) dX9_row_14 ⟨(Nat.zero_le _), (Nat.zero_le _)⟩) hP hD hS hA [0, 1] rfl (by decide +kernel) (fun _ => rfl) (fun r14 w14_0 H locs h hP hD hS => ?_)
    try dsimp only at h
    have hP : va_P D vwCl (wX9_row cI cJ cS a_o a_refused a_shelves z_road z_kept z_ahead z_cutting z_acting sa ea v_imaged v_lastFault w14_0 f_sh_held f_sh_sort f_sh_cnt f_sh_num g_sh_el) H := hP
    have hD : va_D A (wX9_row cI cJ cS a_o a_refused a_shelves z_road z_kept z_ahead z_cutting z_acting sa ea v_imaged v_lastFault w14_0 f_sh_held f_sh_sort f_sh_cnt f_sh_num g_sh_el) := hD
    exact W.iret hx hb hr (fun t ht _ => ⟨⟨_, (w14_0, f_sh_held, f_sh_sort, f_sh_cnt, g_sh_el), rfl, h, hPt hP ht⟩, hS.F ht⟩) hS.2.2 dX9_row_17
  refine lv_astore (lv' := [(4, .ref (sa j2)), (0, .ref a_o), (1, .int x1), (2, .int x2), (3, .int x3)]) hx hb dX9_row_5 hl (by decide) rfl (fun ls hl => ?_)
  refine lv_aload hx hb dX9_row_7 (lv_at hl 0 rfl) ?_
  refine lv_ifnonnull (tgt := 18) hx hb dX9_row_9 (by decide) ?_
  refine lv_iload_n hx hb dX9_row_18 rfl (lv_at hl 4 rfl) ?_
  refine lv_if_ge (tgt := 29) hx hb dX9_row_19 (by decide) (fun hc => ?_) (fun hc => ?_)
  · have h := h.1 hc
    refine lv_iload_n hx hb dX9_row_29 rfl (lv_at hl 3 rfl) ?_
    refine lv_iconst (v := 0) hx hb dX9_row_30 (by decide) ?_
    refine lv_iconst (v := 3) hx hb dX9_row_31 (by decide) ?_
    refine ro_i (roS S hE hT hS (c_X9_within h) lkX9_63 rfl ⟨(Nat.le_of_ble_eq_true rfl), (Nat.le_of_ble_eq_true rfl)⟩ (hP.sub [] rfl) hl.1 rfl (Nat.le_of_ble_eq_true rfl) dX9_row_32 ⟨(Nat.zero_le _), (Nat.zero_le _)⟩) (fun r32 h => ?_)
    refine lv_if_ne (tgt := 45) hx hb dX9_row_35 (by decide) (fun hc => ?_) (fun hc => ?_)
    · have h := h.2 hc
      refine lv_iload_n hx hb dX9_row_45 rfl (lv_at hl 4 rfl) ?_
      refine lv_sipush (v := 160) hx hb dX9_row_46 (by decide) ?_
      refine lv_icmp_le (tgt := 59) hx hb dX9_row_49 (by decide) (fun hc => ?_) (fun hc => ?_)
      · have h := h.1 hc
        refine lv_aload hx hb dX9_row_59 (lv_at hl 0 rfl) ?_
        refine lv_iload_n hx hb dX9_row_61 rfl (lv_at hl 3 rfl) ?_
        refine lv_iload_n hx hb dX9_row_62 rfl (lv_at hl 4 rfl) ?_
        refine rw_v (rwV S hE hT hS hP hD hA (c_X6_holdRow h) [(3 + 2 * j2), (3 + 2 * j2 + 1)] (mCc (shS rfl hj2) (mCc (shE rfl hj2) mCn)) (by simp [va_nd]; try omega) lkX9_67 rfl ⟨(Nat.le_of_ble_eq_true rfl), (Nat.le_of_ble_eq_true rfl)⟩ _ (shS rfl hj2) rfl hl.1 rfl (Nat.le_of_ble_eq_true rfl) dX9_row_63 ⟨(Nat.zero_le _), (Nat.zero_le _)⟩) hP hD hS hA [(3 + 2 * j2), (3 + 2 * j2 + 1)] (mCc (shS rfl hj2) (mCc (shE rfl hj2) mCn)) (by simp [va_nd]; try omega) (fun _ => rfl) (fun u63 H locs h hP hD hS => ?_)
        obtain ⟨w63_0, w63_1, w63_2, w63_3⟩ := u63
        try dsimp only at h
        have hP : va_P D vwCl (wX9_row cI cJ cS a_o a_refused a_shelves z_road z_kept z_ahead z_cutting z_acting sa ea v_imaged v_lastFault f_refused (va_up f_sh_held j2 w63_0) (va_up f_sh_sort j2 w63_1) (va_up f_sh_cnt j2 w63_2) f_sh_num (va_up g_sh_el j2 w63_3)) H := by (rcases lt8 hj2 with rfl | rfl | rfl | rfl | rfl | rfl | rfl | rfl) <;> exact hP
        have hD : va_D A (wX9_row cI cJ cS a_o a_refused a_shelves z_road z_kept z_ahead z_cutting z_acting sa ea v_imaged v_lastFault f_refused (va_up f_sh_held j2 w63_0) (va_up f_sh_sort j2 w63_1) (va_up f_sh_cnt j2 w63_2) f_sh_num (va_up g_sh_el j2 w63_3)) := by (rcases lt8 hj2 with rfl | rfl | rfl | rfl | rfl | rfl | rfl | rfl) <;> exact hD
        refine lv_iconst (v := 1) hx hb dX9_row_66 (by decide) ?_
        exact W.iret hx hb hr (fun t ht _ => ⟨⟨_, (f_refused, (va_up f_sh_held j2 w63_0), (va_up f_sh_sort j2 w63_1), (va_up f_sh_cnt j2 w63_2), (va_up g_sh_el j2 w63_3)), rfl, h, hPt hP ht⟩, hS.F ht⟩) hS.2.2 dX9_row_67
      have h := h.2 hc
      refine lv_aload_n hx hb dX9_row_52 rfl (lv_at hl 1 rfl) ?_
      refine lv_bipush (v := (-7)) hx hb dX9_row_53 (by decide) ?_
      refine rw_i (rwV S hE hT hS hP hD hA (c_X9_refuse h) [0, 1] rfl (by decide +kernel) lkX9_59 rfl ⟨(Nat.le_of_ble_eq_true rfl), (Nat.le_of_ble_eq_true rfl)⟩ 0 rfl rfl hl.1 rfl (Nat.le_of_ble_eq_true rfl) dX9_row_55 ⟨(Nat.zero_le _), (Nat.zero_le _)⟩) hP hD hS hA [0, 1] rfl (by decide +kernel) (fun _ => rfl) (fun r55 w55_0 H locs h hP hD hS => ?_)
      try dsimp only at h
      have hP : va_P D vwCl (wX9_row cI cJ cS a_o a_refused a_shelves z_road z_kept z_ahead z_cutting z_acting sa ea v_imaged v_lastFault w55_0 f_sh_held f_sh_sort f_sh_cnt f_sh_num g_sh_el) H := hP
      have hD : va_D A (wX9_row cI cJ cS a_o a_refused a_shelves z_road z_kept z_ahead z_cutting z_acting sa ea v_imaged v_lastFault w55_0 f_sh_held f_sh_sort f_sh_cnt f_sh_num g_sh_el) := hD
      exact W.iret hx hb hr (fun t ht _ => ⟨⟨_, (w55_0, f_sh_held, f_sh_sort, f_sh_cnt, g_sh_el), rfl, h, hPt hP ht⟩, hS.F ht⟩) hS.2.2 dX9_row_58
    have h := h.1 hc
    refine lv_aload_n hx hb dX9_row_38 rfl (lv_at hl 1 rfl) ?_
    refine lv_bipush (v := (-6)) hx hb dX9_row_39 (by decide) ?_
    refine rw_i (rwV S hE hT hS hP hD hA (c_X9_refuse h) [0, 1] rfl (by decide +kernel) lkX9_59 rfl ⟨(Nat.le_of_ble_eq_true rfl), (Nat.le_of_ble_eq_true rfl)⟩ 0 rfl rfl hl.1 rfl (Nat.le_of_ble_eq_true rfl) dX9_row_41 ⟨(Nat.zero_le _), (Nat.zero_le _)⟩) hP hD hS hA [0, 1] rfl (by decide +kernel) (fun _ => rfl) (fun r41 w41_0 H locs h hP hD hS => ?_)
    try dsimp only at h
    have hP : va_P D vwCl (wX9_row cI cJ cS a_o a_refused a_shelves z_road z_kept z_ahead z_cutting z_acting sa ea v_imaged v_lastFault w41_0 f_sh_held f_sh_sort f_sh_cnt f_sh_num g_sh_el) H := hP
    have hD : va_D A (wX9_row cI cJ cS a_o a_refused a_shelves z_road z_kept z_ahead z_cutting z_acting sa ea v_imaged v_lastFault w41_0 f_sh_held f_sh_sort f_sh_cnt f_sh_num g_sh_el) := hD
    exact W.iret hx hb hr (fun t ht _ => ⟨⟨_, (w41_0, f_sh_held, f_sh_sort, f_sh_cnt, g_sh_el), rfl, h, hPt hP ht⟩, hS.F ht⟩) hS.2.2 dX9_row_44
  have h := h.2 hc
  refine lv_aload_n hx hb dX9_row_22 rfl (lv_at hl 1 rfl) ?_
  refine lv_bipush (v := (-4)) hx hb dX9_row_23 (by decide) ?_
  refine rw_i (rwV S hE hT hS hP hD hA (c_X9_refuse h) [0, 1] rfl (by decide +kernel) lkX9_59 rfl ⟨(Nat.le_of_ble_eq_true rfl), (Nat.le_of_ble_eq_true rfl)⟩ 0 rfl rfl hl.1 rfl (Nat.le_of_ble_eq_true rfl) dX9_row_25 ⟨(Nat.zero_le _), (Nat.zero_le _)⟩) hP hD hS hA [0, 1] rfl (by decide +kernel) (fun _ => rfl) (fun r25 w25_0 H locs h hP hD hS => ?_)
  try dsimp only at h
  have hP : va_P D vwCl (wX9_row cI cJ cS a_o a_refused a_shelves z_road z_kept z_ahead z_cutting z_acting sa ea v_imaged v_lastFault w25_0 f_sh_held f_sh_sort f_sh_cnt f_sh_num g_sh_el) H := hP
  have hD : va_D A (wX9_row cI cJ cS a_o a_refused a_shelves z_road z_kept z_ahead z_cutting z_acting sa ea v_imaged v_lastFault w25_0 f_sh_held f_sh_sort f_sh_cnt f_sh_num g_sh_el) := hD
  exact W.iret hx hb hr (fun t ht _ => ⟨⟨_, (w25_0, f_sh_held, f_sh_sort, f_sh_cnt, g_sh_el), rfl, h, hPt hP ht⟩, hS.F ht⟩) hS.2.2 dX9_row_28
/-! X9_refusalOfRow -/
abbrev wX9_refusalOfRow (cI cJ cS : ClassId) (a_p0 : Nat) (z_p0_elements : Value) (v_p0_held : Int32) (v_p0_sort : Int32) (v_p0_elementCount : Int32) (v_p0_stretchNumber : Int32) : va_W := [(a_p0, .inr (5, [z_p0_elements, .int v_p0_held, .int v_p0_sort, .int v_p0_elementCount, .int v_p0_stretchNumber]))]
def F_X9_refusalOfRow (v_p0_held : Int32) (post : Int32 → Prop) : Prop := (F_X6_holdsStretch v_p0_held (fun r7 => ((r7 = 0 → (F_X6_holdsRow v_p0_held (fun r17 => ((r17 = 0 → post (-3)) ∧ (¬ r17 = 0 → post 0))))) ∧ (¬ r7 = 0 → post (-2)))))
set_option maxHeartbeats 4000000 in
set_option maxRecDepth 100000 in
theorem c_X9_refusalOfRow {l : Launch} {D : va_G} {cI cJ cS : ClassId} {ad adK : Nat → Nat} {a_p0 : Nat} {z_p0_elements : Value} {v_p0_held : Int32} {v_p0_sort : Int32} {v_p0_elementCount : Int32} {v_p0_stretchNumber : Int32} {post : Int32 → Prop} (h : F_X9_refusalOfRow v_p0_held post) : Met l yX9_refusalOfRow (Cond.code yX9_refusalOfRow cX9_refusalOfRow 1 (some (.int)) :: GW) (rmd 1 0 0) (PR D cI cJ cS ad adK [.ref a_p0] (wX9_refusalOfRow cI cJ cS a_p0 z_p0_elements v_p0_held v_p0_sort v_p0_elementCount v_p0_stretchNumber)) (vp_Si post) 0 0 nof := by
  refine Met.ro (by decide) (Nat.le_of_ble_eq_true rfl) (fun p e s m args below meth c ls (S : CallFix p m c cX9_refusalOfRow 1 s args GW "RoadThatSings") hE hT hP hS hr hlocks hl => ?_)
  have hx := S.1
  have hb := S.2.1
  have hl : lv_has ls 1 [(0, .ref a_p0)] := hl
  unfold F_X9_refusalOfRow at h
  refine lv_aload_n hx hb dX9_refusalOfRow_0 rfl (lv_at hl 0 rfl) ?_
  refine lv_ifnonnull (tgt := 6) hx hb dX9_refusalOfRow_1 (by decide) ?_
  refine lv_aload_n hx hb dX9_refusalOfRow_6 rfl (lv_at hl 0 rfl) ?_
  refine ro_i (roV S hE hT hS (c_X6_holdsStretch h) lkX9_83 rfl ⟨(Nat.le_of_ble_eq_true rfl), (Nat.le_of_ble_eq_true rfl)⟩ (hP.sub [0] rfl) 0 rfl rfl hl.1 rfl (Nat.le_of_ble_eq_true rfl) dX9_refusalOfRow_7 ⟨(Nat.zero_le _), (Nat.zero_le _)⟩) (fun r7 h => ?_)
  refine lv_if_eq (tgt := 16) hx hb dX9_refusalOfRow_10 (by decide) (fun hc => ?_) (fun hc => ?_)
  · have h := h.1 hc
    refine lv_aload_n hx hb dX9_refusalOfRow_16 rfl (lv_at hl 0 rfl) ?_
    refine ro_i (roV S hE hT hS (c_X6_holdsRow h) lkX9_91 rfl ⟨(Nat.le_of_ble_eq_true rfl), (Nat.le_of_ble_eq_true rfl)⟩ (hP.sub [0] rfl) 0 rfl rfl hl.1 rfl (Nat.le_of_ble_eq_true rfl) dX9_refusalOfRow_17 ⟨(Nat.zero_le _), (Nat.zero_le _)⟩) (fun r17 h => ?_)
    refine lv_if_eq (tgt := 27) hx hb dX9_refusalOfRow_20 (by decide) (fun hc => ?_) (fun hc => ?_)
    · have h := h.1 hc
      refine lv_bipush (v := (-3)) hx hb dX9_refusalOfRow_27 (by decide) ?_
      exact W.iret hx hb hr (fun t ht _ => ⟨_, rfl, h, ht⟩) (fun _ hq => by cases hq) dX9_refusalOfRow_29
    have h := h.2 hc
    refine lv_iconst (v := 0) hx hb dX9_refusalOfRow_23 (by decide) ?_
    refine lv_goto (tgt := 29) hx hb dX9_refusalOfRow_24 (by decide) ?_
    exact W.iret hx hb hr (fun t ht _ => ⟨_, rfl, h, ht⟩) (fun _ hq => by cases hq) dX9_refusalOfRow_29
  have h := h.2 hc
  refine lv_bipush (v := (-2)) hx hb dX9_refusalOfRow_13 (by decide) ?_
  exact W.iret hx hb hr (fun t ht _ => ⟨_, rfl, h, ht⟩) (fun _ hq => by cases hq) dX9_refusalOfRow_15
/-! X9_refusalOfRow_null0 -/
abbrev wX9_refusalOfRow_null0 (cI cJ cS : ClassId) : va_W := []
def F_X9_refusalOfRow_null0 (post : Int32 → Prop) : Prop := post (-1)
set_option maxHeartbeats 4000000 in
set_option maxRecDepth 100000 in
theorem c_X9_refusalOfRow_null0 {l : Launch} {D : va_G} {cI cJ cS : ClassId} {ad adK : Nat → Nat}  {post : Int32 → Prop} (h : F_X9_refusalOfRow_null0 post) : Met l yX9_refusalOfRow (Cond.code yX9_refusalOfRow cX9_refusalOfRow 1 (some (.int)) :: GW) (rmd 0 0 0) (PR D cI cJ cS ad adK [.null] (wX9_refusalOfRow_null0 cI cJ cS)) (vp_Si post) 0 0 nof := by
  refine Met.ro (by decide) (Nat.le_of_ble_eq_true rfl) (fun p e s m args below meth c ls (S : CallFix p m c cX9_refusalOfRow 1 s args GW "RoadThatSings") hE hT hP hS hr hlocks hl => ?_)
  have hx := S.1
  have hb := S.2.1
  have hl : lv_has ls 1 [(0, .null)] := hl
  unfold F_X9_refusalOfRow_null0 at h
  refine lv_aload_nN hx hb dX9_refusalOfRow_0 rfl (lv_at hl 0 rfl) ?_
  refine lv_ifnonnullN hx hb dX9_refusalOfRow_1 ?_
  refine lv_iconst (v := (-1)) hx hb dX9_refusalOfRow_4 (by decide) ?_
  exact W.iret hx hb hr (fun t ht _ => ⟨_, rfl, h, ht⟩) (fun _ hq => by cases hq) dX9_refusalOfRow_5
/-! X9_set -/
abbrev wX9_set (cI cJ cS : ClassId) (a_o a_refused a_shelves : Nat) (z_road z_kept z_ahead z_cutting z_acting : Value) (sa ea : Nat → Nat) (v_imaged : Int32) (v_lastFault : Int32) (f_refused : Nat → Int32) (f_sh_held : Nat → Int32) (f_sh_sort : Nat → Int32) (f_sh_cnt : Nat → Int32) (f_sh_num : Nat → Int32) (g_sh_el : Nat → Nat → Int64) : va_W := [(a_o, .inr (8, [z_road, z_kept, z_ahead, .ref a_shelves, z_cutting, z_acting, .ref a_refused, .int v_imaged, .int v_lastFault])), (a_refused, .inl (cI, 8, .inl f_refused)), (a_shelves, .inl (cS, 8, .inr (.inr (.inr (.inr (fun k => some (sa k)))))))] ++ shW sa ea cJ f_sh_held f_sh_sort f_sh_cnt f_sh_num g_sh_el
def F_X9_set (f_refused : Nat → Int32) (f_sh_held : Nat → Int32) (f_sh_sort : Nat → Int32) (f_sh_cnt : Nat → Int32) (g_sh_el : Nat → Nat → Int64) (x1 : Int32) (x2 : Int32) (y3 : Int64) (post : Int32 → (Nat → Int32) → (Nat → Nat → Int64) → Prop) : Prop := (F_X9_shelfAt x1 ((F_X9_refusalOfRow_null0  (fun r9 => ((r9 = 0 → (F_X9_refuse f_refused r9 (fun r27 w27_0 => post r27 w27_0 g_sh_el))) ∧ (¬ r9 = 0 → (F_X9_refuse f_refused r9 (fun r27 w27_0 => post r27 w27_0 g_sh_el))))))) (fun j2 => (F_X9_refusalOfRow (f_sh_held j2) (fun r9 => ((r9 = 0 → (F_X6_hasElement (f_sh_cnt j2) x2 (fun r34 => ((r34 = 0 → (F_X9_refuse f_refused (-5) (fun r43 w43_0 => post r43 w43_0 g_sh_el))) ∧ (¬ r34 = 0 → (F_X6_put (f_sh_sort j2) (f_sh_cnt j2) (g_sh_el j2) x2 y3 (fun w51_0 => post 1 f_refused (va_up g_sh_el j2 w51_0)))))))) ∧ (¬ r9 = 0 → (F_X9_refuse f_refused r9 (fun r27 w27_0 => post r27 w27_0 g_sh_el))))))))
set_option maxHeartbeats 4000000 in
set_option maxRecDepth 100000 in
theorem c_X9_set {l : Launch} {D : va_G} {cI cJ cS : ClassId} {ad adK : Nat → Nat} {a_o a_refused a_shelves : Nat} {z_road z_kept z_ahead z_cutting z_acting : Value} {sa ea : Nat → Nat} {v_imaged : Int32} {v_lastFault : Int32} {f_refused : Nat → Int32} {f_sh_held : Nat → Int32} {f_sh_sort : Nat → Int32} {f_sh_cnt : Nat → Int32} {f_sh_num : Nat → Int32} {g_sh_el : Nat → Nat → Int64} {x1 : Int32} {x2 : Int32} {y3 : Int64} {post : Int32 → (Nat → Int32) → (Nat → Nat → Int64) → Prop} (h : F_X9_set f_refused f_sh_held f_sh_sort f_sh_cnt g_sh_el x1 x2 y3 post) {sz : Nat} : Met l yX9_set (Cond.code yX9_set cX9_set 7 (some (.int)) :: GW) (rmd 3 0 0) (PW D cI cJ cS ad adK [.ref a_o, .int x1, .int x2, .long y3] (wX9_set cI cJ cS a_o a_refused a_shelves z_road z_kept z_ahead z_cutting z_acting sa ea v_imaged v_lastFault f_refused f_sh_held f_sh_sort f_sh_cnt f_sh_num g_sh_el) sz) (va_Qi (fun r (u : (Nat → Int32) × (Nat → Nat → Int64)) => post r u.1 u.2) (fun u t => va_P D vwCl (wX9_set cI cJ cS a_o a_refused a_shelves z_road z_kept z_ahead z_cutting z_acting sa ea v_imaged v_lastFault u.1 f_sh_held f_sh_sort f_sh_cnt f_sh_num u.2) t.heap) (va_A (wX9_set cI cJ cS a_o a_refused a_shelves z_road z_kept z_ahead z_cutting z_acting sa ea v_imaged v_lastFault f_refused f_sh_held f_sh_sort f_sh_cnt f_sh_num g_sh_el) sz)) 0 0 (va_A (wX9_set cI cJ cS a_o a_refused a_shelves z_road z_kept z_ahead z_cutting z_acting sa ea v_imaged v_lastFault f_refused f_sh_held f_sh_sort f_sh_cnt f_sh_num g_sh_el) sz) := by
  refine Met.rw (Qc := fun A => (va_Qi (fun r (u : (Nat → Int32) × (Nat → Nat → Int64)) => post r u.1 u.2) (fun u t => va_P D vwCl (wX9_set cI cJ cS a_o a_refused a_shelves z_road z_kept z_ahead z_cutting z_acting sa ea v_imaged v_lastFault u.1 f_sh_held f_sh_sort f_sh_cnt f_sh_num u.2) t.heap) A)) (by decide) (Nat.le_of_ble_eq_true rfl) (fun p e s m args below meth c ls A (S : CallFix p m c cX9_set 7 s args GW "RoadThatSings") hE hT hP hD hA hS hr hlocks hname hl => ?_)
  have hS0 := hS
  have hx := S.1
  have hb := S.2.1
  have hl : lv_has ls 7 [(0, .ref a_o), (1, .int x1), (2, .int x2), (3, .long y3)] := hl
  unfold F_X9_set at h
  refine lv_aload_n hx hb dX9_set_0 rfl (lv_at hl 0 rfl) ?_
  refine lv_iload_n hx hb dX9_set_1 rfl (lv_at hl 1 rfl) ?_
  refine ro_s (roV S hE hT hS (c_X9_shelfAt h) lkX9_55 rfl ⟨(Nat.le_of_ble_eq_true rfl), (Nat.le_of_ble_eq_true rfl)⟩ (hP.sub [0, 2] rfl) 0 rfl rfl hl.1 rfl (Nat.le_of_ble_eq_true rfl) dX9_set_2 ⟨(Nat.zero_le _), (Nat.zero_le _)⟩) (fun h => ?_) (fun j2 hj2 h => ?_)
  · refine lv_astoreN (lv' := [(5, .null), (0, .ref a_o), (1, .int x1), (2, .int x2), (3, .long y3)]) hx hb dX9_set_5 hl (by decide) rfl (fun ls hl => ?_)
    refine lv_aloadN hx hb dX9_set_7 (lv_at hl 0 rfl) ?_
    refine ro_i (roS S hE hT hS (c_X9_refusalOfRow_null0 h) lkX9_71 rfl ⟨(Nat.le_of_ble_eq_true rfl), (Nat.le_of_ble_eq_true rfl)⟩ (hP.sub [] rfl) hl.1 rfl (Nat.le_of_ble_eq_true rfl) dX9_set_9 ⟨(Nat.zero_le _), (Nat.zero_le _)⟩) (fun r9 h => ?_)
    refine lv_istore (lv' := [(6, .int r9), (5, .null), (0, .ref a_o), (1, .int x1), (2, .int x2), (3, .long y3)]) hx hb dX9_set_12 hl (by decide) rfl (fun ls hl => ?_)
    refine lv_iload hx hb dX9_set_14 (lv_at hl 0 rfl) ?_
    refine lv_if_ne (tgt := 24) hx hb dX9_set_16 (by decide) (fun hc => ?_) (fun hc => ?_)
    · have h := h.2 hc
      refine lv_aload_n hx hb dX9_set_24 rfl (lv_at hl 2 rfl) ?_
      refine lv_iload hx hb dX9_set_25 (lv_at hl 0 rfl) ?_
      refine rw_i (rwV S hE hT hS hP hD hA (c_X9_refuse h) [0, 1] rfl (by decide +kernel) lkX9_59 rfl ⟨(Nat.le_of_ble_eq_true rfl), (Nat.le_of_ble_eq_true rfl)⟩ 0 rfl rfl hl.1 rfl (Nat.le_of_ble_eq_true rfl) dX9_set_27 ⟨(Nat.zero_le _), (Nat.zero_le _)⟩) hP hD hS hA [0, 1] rfl (by decide +kernel) (fun _ => rfl) (fun r27 w27_0 H locs h hP hD hS => ?_)
      try dsimp only at h
      have hP : va_P D vwCl (wX9_set cI cJ cS a_o a_refused a_shelves z_road z_kept z_ahead z_cutting z_acting sa ea v_imaged v_lastFault w27_0 f_sh_held f_sh_sort f_sh_cnt f_sh_num g_sh_el) H := hP
      have hD : va_D A (wX9_set cI cJ cS a_o a_refused a_shelves z_road z_kept z_ahead z_cutting z_acting sa ea v_imaged v_lastFault w27_0 f_sh_held f_sh_sort f_sh_cnt f_sh_num g_sh_el) := hD
      exact W.iret hx hb hr (fun t ht _ => ⟨⟨_, (w27_0, g_sh_el), rfl, h, hPt hP ht⟩, hS.F ht⟩) hS.2.2 dX9_set_30
    have h := h.1 hc
    refine lv_aloadN hx hb dX9_set_19 (lv_at hl 1 rfl) ?_
    refine lv_ifnonnullN hx hb dX9_set_21 ?_
    refine lv_aload_n hx hb dX9_set_24 rfl (lv_at hl 2 rfl) ?_
    refine lv_iload hx hb dX9_set_25 (lv_at hl 0 rfl) ?_
    refine rw_i (rwV S hE hT hS hP hD hA (c_X9_refuse h) [0, 1] rfl (by decide +kernel) lkX9_59 rfl ⟨(Nat.le_of_ble_eq_true rfl), (Nat.le_of_ble_eq_true rfl)⟩ 0 rfl rfl hl.1 rfl (Nat.le_of_ble_eq_true rfl) dX9_set_27 ⟨(Nat.zero_le _), (Nat.zero_le _)⟩) hP hD hS hA [0, 1] rfl (by decide +kernel) (fun _ => rfl) (fun r27 w27_0 H locs h hP hD hS => ?_)
    try dsimp only at h
    have hP : va_P D vwCl (wX9_set cI cJ cS a_o a_refused a_shelves z_road z_kept z_ahead z_cutting z_acting sa ea v_imaged v_lastFault w27_0 f_sh_held f_sh_sort f_sh_cnt f_sh_num g_sh_el) H := hP
    have hD : va_D A (wX9_set cI cJ cS a_o a_refused a_shelves z_road z_kept z_ahead z_cutting z_acting sa ea v_imaged v_lastFault w27_0 f_sh_held f_sh_sort f_sh_cnt f_sh_num g_sh_el) := hD
    exact W.iret hx hb hr (fun t ht _ => ⟨⟨_, (w27_0, g_sh_el), rfl, h, hPt hP ht⟩, hS.F ht⟩) hS.2.2 dX9_set_30
  refine lv_astore (lv' := [(5, .ref (sa j2)), (0, .ref a_o), (1, .int x1), (2, .int x2), (3, .long y3)]) hx hb dX9_set_5 hl (by decide) rfl (fun ls hl => ?_)
  refine lv_aload hx hb dX9_set_7 (lv_at hl 0 rfl) ?_
  refine ro_i (roS S hE hT hS (c_X9_refusalOfRow h) lkX9_71 rfl ⟨(Nat.le_of_ble_eq_true rfl), (Nat.le_of_ble_eq_true rfl)⟩ (vPc hP (shS rfl hj2) vPn) hl.1 rfl (Nat.le_of_ble_eq_true rfl) dX9_set_9 ⟨(Nat.zero_le _), (Nat.zero_le _)⟩) (fun r9 h => ?_)
  refine lv_istore (lv' := [(6, .int r9), (5, .ref (sa j2)), (0, .ref a_o), (1, .int x1), (2, .int x2), (3, .long y3)]) hx hb dX9_set_12 hl (by decide) rfl (fun ls hl => ?_)
  refine lv_iload hx hb dX9_set_14 (lv_at hl 0 rfl) ?_
  refine lv_if_ne (tgt := 24) hx hb dX9_set_16 (by decide) (fun hc => ?_) (fun hc => ?_)
  · have h := h.2 hc
    refine lv_aload_n hx hb dX9_set_24 rfl (lv_at hl 2 rfl) ?_
    refine lv_iload hx hb dX9_set_25 (lv_at hl 0 rfl) ?_
    refine rw_i (rwV S hE hT hS hP hD hA (c_X9_refuse h) [0, 1] rfl (by decide +kernel) lkX9_59 rfl ⟨(Nat.le_of_ble_eq_true rfl), (Nat.le_of_ble_eq_true rfl)⟩ 0 rfl rfl hl.1 rfl (Nat.le_of_ble_eq_true rfl) dX9_set_27 ⟨(Nat.zero_le _), (Nat.zero_le _)⟩) hP hD hS hA [0, 1] rfl (by decide +kernel) (fun _ => rfl) (fun r27 w27_0 H locs h hP hD hS => ?_)
    try dsimp only at h
    have hP : va_P D vwCl (wX9_set cI cJ cS a_o a_refused a_shelves z_road z_kept z_ahead z_cutting z_acting sa ea v_imaged v_lastFault w27_0 f_sh_held f_sh_sort f_sh_cnt f_sh_num g_sh_el) H := hP
    have hD : va_D A (wX9_set cI cJ cS a_o a_refused a_shelves z_road z_kept z_ahead z_cutting z_acting sa ea v_imaged v_lastFault w27_0 f_sh_held f_sh_sort f_sh_cnt f_sh_num g_sh_el) := hD
    exact W.iret hx hb hr (fun t ht _ => ⟨⟨_, (w27_0, g_sh_el), rfl, h, hPt hP ht⟩, hS.F ht⟩) hS.2.2 dX9_set_30
  have h := h.1 hc
  refine lv_aload hx hb dX9_set_19 (lv_at hl 1 rfl) ?_
  refine lv_ifnonnull (tgt := 31) hx hb dX9_set_21 (by decide) ?_
  refine lv_aload hx hb dX9_set_31 (lv_at hl 1 rfl) ?_
  refine lv_iload_n hx hb dX9_set_33 rfl (lv_at hl 4 rfl) ?_
  refine ro_i (roV S hE hT hS (c_X6_hasElement h) lkX9_75 rfl ⟨(Nat.le_of_ble_eq_true rfl), (Nat.le_of_ble_eq_true rfl)⟩ (vPc hP (shS rfl hj2) vPn) 0 rfl rfl hl.1 rfl (Nat.le_of_ble_eq_true rfl) dX9_set_34 ⟨(Nat.zero_le _), (Nat.zero_le _)⟩) (fun r34 h => ?_)
  refine lv_if_ne (tgt := 47) hx hb dX9_set_37 (by decide) (fun hc => ?_) (fun hc => ?_)
  · have h := h.2 hc
    refine lv_aload hx hb dX9_set_47 (lv_at hl 1 rfl) ?_
    refine lv_iload_n hx hb dX9_set_49 rfl (lv_at hl 4 rfl) ?_
    refine lv_lload_n hx hb dX9_set_50 rfl (lv_at hl 5 rfl) ?_
    refine rw_v (rwV S hE hT hS hP hD hA (c_X6_put h) [(3 + 2 * j2), (3 + 2 * j2 + 1)] (mCc (shS rfl hj2) (mCc (shE rfl hj2) mCn)) (by simp [va_nd]; try omega) lkX9_79 rfl ⟨(Nat.le_of_ble_eq_true rfl), (Nat.le_of_ble_eq_true rfl)⟩ _ (shS rfl hj2) rfl hl.1 rfl (Nat.le_of_ble_eq_true rfl) dX9_set_51 ⟨(Nat.zero_le _), (Nat.zero_le _)⟩) hP hD hS hA [(3 + 2 * j2), (3 + 2 * j2 + 1)] (mCc (shS rfl hj2) (mCc (shE rfl hj2) mCn)) (by simp [va_nd]; try omega) (fun _ => rfl) (fun w51_0 H locs h hP hD hS => ?_)
    try dsimp only at h
    have hP : va_P D vwCl (wX9_set cI cJ cS a_o a_refused a_shelves z_road z_kept z_ahead z_cutting z_acting sa ea v_imaged v_lastFault f_refused f_sh_held f_sh_sort f_sh_cnt f_sh_num (va_up g_sh_el j2 w51_0)) H := by (rcases lt8 hj2 with rfl | rfl | rfl | rfl | rfl | rfl | rfl | rfl) <;> exact hP
    have hD : va_D A (wX9_set cI cJ cS a_o a_refused a_shelves z_road z_kept z_ahead z_cutting z_acting sa ea v_imaged v_lastFault f_refused f_sh_held f_sh_sort f_sh_cnt f_sh_num (va_up g_sh_el j2 w51_0)) := by (rcases lt8 hj2 with rfl | rfl | rfl | rfl | rfl | rfl | rfl | rfl) <;> exact hD
    refine lv_iconst (v := 1) hx hb dX9_set_54 (by decide) ?_
    exact W.iret hx hb hr (fun t ht _ => ⟨⟨_, (f_refused, (va_up g_sh_el j2 w51_0)), rfl, h, hPt hP ht⟩, hS.F ht⟩) hS.2.2 dX9_set_55
  have h := h.1 hc
  refine lv_aload_n hx hb dX9_set_40 rfl (lv_at hl 2 rfl) ?_
  refine lv_bipush (v := (-5)) hx hb dX9_set_41 (by decide) ?_
  refine rw_i (rwV S hE hT hS hP hD hA (c_X9_refuse h) [0, 1] rfl (by decide +kernel) lkX9_59 rfl ⟨(Nat.le_of_ble_eq_true rfl), (Nat.le_of_ble_eq_true rfl)⟩ 0 rfl rfl hl.1 rfl (Nat.le_of_ble_eq_true rfl) dX9_set_43 ⟨(Nat.zero_le _), (Nat.zero_le _)⟩) hP hD hS hA [0, 1] rfl (by decide +kernel) (fun _ => rfl) (fun r43 w43_0 H locs h hP hD hS => ?_)
  try dsimp only at h
  have hP : va_P D vwCl (wX9_set cI cJ cS a_o a_refused a_shelves z_road z_kept z_ahead z_cutting z_acting sa ea v_imaged v_lastFault w43_0 f_sh_held f_sh_sort f_sh_cnt f_sh_num g_sh_el) H := hP
  have hD : va_D A (wX9_set cI cJ cS a_o a_refused a_shelves z_road z_kept z_ahead z_cutting z_acting sa ea v_imaged v_lastFault w43_0 f_sh_held f_sh_sort f_sh_cnt f_sh_num g_sh_el) := hD
  exact W.iret hx hb hr (fun t ht _ => ⟨⟨_, (w43_0, g_sh_el), rfl, h, hPt hP ht⟩, hS.F ht⟩) hS.2.2 dX9_set_46
