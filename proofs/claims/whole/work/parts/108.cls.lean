/-! X5_hearingCars -/
abbrev wX5_hearingCars (cI cJ cS : ClassId) (a_o a_cars a_cars_speeds a_demands a_stretches a_stretches_kinds a_stretches_others a_stretches_spaces a_tunes a_tunes_noteCounts a_tunes_pitches : Nat) (z_cars_bases z_cars_shares z_stretches_times z_tunes_beats : Value) (v_drawSeed : Int32) (v_cars_carCount : Int32) (f_cars_speeds : Nat → Int32) (f_demands : Nat → Int32) (v_stretches_stretchCount : Int32) (f_stretches_kinds : Nat → Int32) (f_stretches_others : Nat → Int32) (f_stretches_spaces : Nat → Int32) (v_tunes_tuneCount : Int32) (f_tunes_noteCounts : Nat → Int32) (f_tunes_pitches : Nat → Int32) : va_W := [(a_o, .inr (4, [.ref a_stretches, .ref a_cars, .ref a_tunes, .ref a_demands, .int v_drawSeed])), (a_cars, .inr (1, [.ref a_cars_speeds, z_cars_bases, z_cars_shares, .int v_cars_carCount])), (a_cars_speeds, .inl (cI, 6, .inl f_cars_speeds)), (a_demands, .inl (cI, 4, .inl f_demands)), (a_stretches, .inr (6, [.ref a_stretches_kinds, .ref a_stretches_spaces, .ref a_stretches_others, z_stretches_times, .int v_stretches_stretchCount])), (a_stretches_kinds, .inl (cI, 16, .inl f_stretches_kinds)), (a_stretches_others, .inl (cI, 16, .inl f_stretches_others)), (a_stretches_spaces, .inl (cI, 16, .inl f_stretches_spaces)), (a_tunes, .inr (7, [.ref a_tunes_pitches, z_tunes_beats, .ref a_tunes_noteCounts, .int v_tunes_tuneCount])), (a_tunes_noteCounts, .inl (cI, 6, .inl f_tunes_noteCounts)), (a_tunes_pitches, .inl (cI, 72, .inl f_tunes_pitches))]
def F_X5_hearingCars_35 (k4 : Int32 → Int32 → Prop) (x1 : Int32) (x2 : Int32) (x3 : Int32) : Prop := (∀ x3_35 : Int32, x3_35 = x3 + 1 → k4 x2 x3_35)
def L_X5_hearingCars_4 (v_cars_carCount : Int32) (f_cars_speeds : Nat → Int32) (f_demands : Nat → Int32) (v_stretches_stretchCount : Int32) (f_stretches_kinds : Nat → Int32) (f_stretches_others : Nat → Int32) (f_stretches_spaces : Nat → Int32) (v_tunes_tuneCount : Int32) (f_tunes_noteCounts : Nat → Int32) (f_tunes_pitches : Nat → Int32) (x1 : Int32) (post : Int32 → Prop) : Nat → Int32 → Int32 → Prop
  | 0, _, _ => False
  | n4 + 1, x2, x3 => (F_X1_count v_cars_carCount (fun r9 => ((r9 ≤ x3 → post x2) ∧ (¬ r9 ≤ x3 → (F_X5_worstOf v_cars_carCount f_cars_speeds v_stretches_stretchCount f_stretches_kinds f_stretches_others f_stretches_spaces v_tunes_tuneCount f_tunes_noteCounts f_tunes_pitches x3 x1 (fun r18 => (F_X5_asked f_demands 2 (fun r23 => ((r23 < r18 → F_X5_hearingCars_35 (fun x2 x3 => L_X5_hearingCars_4 v_cars_carCount f_cars_speeds f_demands v_stretches_stretchCount f_stretches_kinds f_stretches_others f_stretches_spaces v_tunes_tuneCount f_tunes_noteCounts f_tunes_pitches x1 post n4 x2 x3) x1 x2 x3) ∧ (¬ r23 < r18 → (∀ x2_34 : Int32, x2_34 = x2 ||| (1 <<< (x3 &&& 31)) → F_X5_hearingCars_35 (fun x2 x3 => L_X5_hearingCars_4 v_cars_carCount f_cars_speeds f_demands v_stretches_stretchCount f_stretches_kinds f_stretches_others f_stretches_spaces v_tunes_tuneCount f_tunes_noteCounts f_tunes_pitches x1 post n4 x2 x3) x1 x2_34 x3)))))))))))
def F_X5_hearingCars (v_cars_carCount : Int32) (f_cars_speeds : Nat → Int32) (f_demands : Nat → Int32) (v_stretches_stretchCount : Int32) (f_stretches_kinds : Nat → Int32) (f_stretches_others : Nat → Int32) (f_stretches_spaces : Nat → Int32) (v_tunes_tuneCount : Int32) (f_tunes_noteCounts : Nat → Int32) (f_tunes_pitches : Nat → Int32) (x1 : Int32) (post : Int32 → Prop) : Prop := (∃ n4 : Nat, L_X5_hearingCars_4 v_cars_carCount f_cars_speeds f_demands v_stretches_stretchCount f_stretches_kinds f_stretches_others f_stretches_spaces v_tunes_tuneCount f_tunes_noteCounts f_tunes_pitches x1 post n4 0 0)
set_option maxHeartbeats 4000000 in
set_option maxRecDepth 100000 in
theorem w_X5_hearingCars_35 {l : Launch} {D : va_G} {cI cJ cS : ClassId} {ad adK : Nat → Nat} {a_o a_cars a_cars_speeds a_demands a_stretches a_stretches_kinds a_stretches_others a_stretches_spaces a_tunes a_tunes_noteCounts a_tunes_pitches : Nat} {z_cars_bases z_cars_shares z_stretches_times z_tunes_beats : Value} {v_drawSeed : Int32} {v_cars_carCount : Int32} {f_cars_speeds : Nat → Int32} {f_demands : Nat → Int32} {v_stretches_stretchCount : Int32} {f_stretches_kinds : Nat → Int32} {f_stretches_others : Nat → Int32} {f_stretches_spaces : Nat → Int32} {v_tunes_tuneCount : Int32} {f_tunes_noteCounts : Nat → Int32} {f_tunes_pitches : Nat → Int32} {x1 : Int32} {x2 : Int32} {x3 : Int32} {post : Int32 → Prop} {k4 : Int32 → Int32 → Prop} {p : Program} {e : Env} {s : State} {m : MethodId} {args : Array Value} {below : List Frame} {meth : Method} {c : Code} (S : CallFix p m c cX5_hearingCars 4 s args GW "RoadThatSings$Road") (hE : EN D cI cJ cS s) (hT : ST ad adK nof s s.heap) (hP : va_P D vwCl (wX5_hearingCars cI cJ cS a_o a_cars a_cars_speeds a_demands a_stretches a_stretches_kinds a_stretches_others a_stretches_spaces a_tunes a_tunes_noteCounts a_tunes_pitches z_cars_bases z_cars_shares z_stretches_times z_tunes_beats v_drawSeed v_cars_carCount f_cars_speeds f_demands v_stretches_stretchCount f_stretches_kinds f_stretches_others f_stretches_spaces v_tunes_tuneCount f_tunes_noteCounts f_tunes_pitches) s.heap) (hS : va_S nof s.heap s.heap []) (hr : meth.sig.returnType = (some (.int))) (hlocks : meth.locks = false) (hk4 : ∀ (x2 : Int32) (x3 : Int32) (ls : Array Slot), k4 x2 x3 → lv_has ls 4 [(0, .ref a_o), (1, .int x1), (2, .int x2), (3, .int x3)] → W p l e (rmd 5 0 0) s m args below meth c s.heap [] 0 0 (MQ below (vp_Si post) args s 0 0 nof) (F0 m 4 ls [])) : ∀ (ls : Array Slot), F_X5_hearingCars_35 k4 x1 x2 x3 → lv_has ls 4 [(0, .ref a_o), (1, .int x1), (2, .int x2), (3, .int x3)] → W p l e (rmd 5 0 0) s m args below meth c s.heap [] 0 0 (MQ below (vp_Si post) args s 0 0 nof) (F0 m 35 ls []) := by
  intro  ls h hl
  unfold F_X5_hearingCars_35 at h
  have hx := S.1
  have hb := S.2.1
  obtain ⟨x3_35, ex3_35⟩ : ∃ z : Int32, z = x3 + 1 := ⟨_, rfl⟩
  have h := h _ ex3_35
  refine lv_iinc (v := x3_35) (lv' := [(3, .int x3_35), (0, .ref a_o), (1, .int x1), (2, .int x2)]) hx hb dX5_hearingCars_35 hl (k := 3) rfl (by rw [ex3_35]; rfl) (by decide) rfl (fun ls hl => ?_)
  refine lv_goto (tgt := 4) hx hb dX5_hearingCars_38 (by decide) ?_
  exact hk4 _ _ _ h (lv_sub hl [1, 2, 3, 0] rfl)
set_option maxHeartbeats 4000000 in
set_option maxRecDepth 100000 in
theorem w_X5_hearingCars_4 {l : Launch} {D : va_G} {cI cJ cS : ClassId} {ad adK : Nat → Nat} {a_o a_cars a_cars_speeds a_demands a_stretches a_stretches_kinds a_stretches_others a_stretches_spaces a_tunes a_tunes_noteCounts a_tunes_pitches : Nat} {z_cars_bases z_cars_shares z_stretches_times z_tunes_beats : Value} {v_drawSeed : Int32} {v_cars_carCount : Int32} {f_cars_speeds : Nat → Int32} {f_demands : Nat → Int32} {v_stretches_stretchCount : Int32} {f_stretches_kinds : Nat → Int32} {f_stretches_others : Nat → Int32} {f_stretches_spaces : Nat → Int32} {v_tunes_tuneCount : Int32} {f_tunes_noteCounts : Nat → Int32} {f_tunes_pitches : Nat → Int32} {x1 : Int32} {post : Int32 → Prop} {p : Program} {e : Env} {s : State} {m : MethodId} {args : Array Value} {below : List Frame} {meth : Method} {c : Code} (S : CallFix p m c cX5_hearingCars 4 s args GW "RoadThatSings$Road") (hE : EN D cI cJ cS s) (hT : ST ad adK nof s s.heap) (hP : va_P D vwCl (wX5_hearingCars cI cJ cS a_o a_cars a_cars_speeds a_demands a_stretches a_stretches_kinds a_stretches_others a_stretches_spaces a_tunes a_tunes_noteCounts a_tunes_pitches z_cars_bases z_cars_shares z_stretches_times z_tunes_beats v_drawSeed v_cars_carCount f_cars_speeds f_demands v_stretches_stretchCount f_stretches_kinds f_stretches_others f_stretches_spaces v_tunes_tuneCount f_tunes_noteCounts f_tunes_pitches) s.heap) (hS : va_S nof s.heap s.heap []) (hr : meth.sig.returnType = (some (.int))) (hlocks : meth.locks = false) : ∀ n : Nat, ∀ (x2 : Int32) (x3 : Int32) (ls : Array Slot), L_X5_hearingCars_4 v_cars_carCount f_cars_speeds f_demands v_stretches_stretchCount f_stretches_kinds f_stretches_others f_stretches_spaces v_tunes_tuneCount f_tunes_noteCounts f_tunes_pitches x1 post n x2 x3 → lv_has ls 4 [(0, .ref a_o), (1, .int x1), (2, .int x2), (3, .int x3)] → W p l e (rmd 5 0 0) s m args below meth c s.heap [] 0 0 (MQ below (vp_Si post) args s 0 0 nof) (F0 m 4 ls []) := by
  intro n
  induction n with
  | zero =>
    intro x2 x3 ls h hl
    exact h.elim
  | succ n ih =>
    intro x2 x3 ls h hl
    rw [L_X5_hearingCars_4] at h
    have hx := S.1
    have hb := S.2.1
    refine lv_iload_n hx hb dX5_hearingCars_4 rfl (lv_at hl 3 rfl) ?_
    refine lv_aload_n hx hb dX5_hearingCars_5 rfl (lv_at hl 0 rfl) ?_
    refine gf S hE hP 0 rfl rfl inX5 (k := 1) (by decide) q96 rfl dX5_hearingCars_6 ?_
    refine ro_i (roV S hE hT hS (c_X1_count h) lkX5_110 rfl ⟨(Nat.le_of_ble_eq_true rfl), (Nat.le_of_ble_eq_true rfl)⟩ (hP.sub [1] rfl) 0 rfl rfl hl.1 rfl (Nat.le_of_ble_eq_true rfl) dX5_hearingCars_9 ⟨(Nat.zero_le _), (Nat.zero_le _)⟩) (fun r9 h => ?_)
    refine lv_icmp_ge (tgt := 41) hx hb dX5_hearingCars_12 (by decide) (fun hc => ?_) (fun hc => ?_)
    · have h := h.1 hc
      refine lv_iload_n hx hb dX5_hearingCars_41 rfl (lv_at hl 2 rfl) ?_
      exact W.iret hx hb hr (fun t ht _ => ⟨_, rfl, h, ht⟩) (fun _ hq => by cases hq) dX5_hearingCars_42
    have h := h.2 hc
    refine lv_aload_n hx hb dX5_hearingCars_15 rfl (lv_at hl 0 rfl) ?_
    refine lv_iload_n hx hb dX5_hearingCars_16 rfl (lv_at hl 3 rfl) ?_
    refine lv_iload_n hx hb dX5_hearingCars_17 rfl (lv_at hl 1 rfl) ?_
    refine ro_i (roV S hE hT hS (c_X5_worstOf h) lkX5_107 rfl ⟨(Nat.le_of_ble_eq_true rfl), (Nat.le_of_ble_eq_true rfl)⟩ (hP.sub [0, 1, 2, 4, 5, 6, 7, 8, 9, 10] rfl) 0 rfl rfl hl.1 rfl (Nat.le_of_ble_eq_true rfl) dX5_hearingCars_18 ⟨(Nat.zero_le _), (Nat.zero_le _)⟩) (fun r18 h => ?_)
    refine lv_aload_n hx hb dX5_hearingCars_21 rfl (lv_at hl 0 rfl) ?_
    refine lv_iconst (v := 2) hx hb dX5_hearingCars_22 (by decide) ?_
    refine ro_i (roV S hE hT hS (c_X5_asked h) lkX5_104 rfl ⟨(Nat.le_of_ble_eq_true rfl), (Nat.le_of_ble_eq_true rfl)⟩ (hP.sub [0, 3] rfl) 0 rfl rfl hl.1 rfl (Nat.le_of_ble_eq_true rfl) dX5_hearingCars_23 ⟨(Nat.zero_le _), (Nat.zero_le _)⟩) (fun r23 h => ?_)
    refine lv_icmp_gt (tgt := 35) hx hb dX5_hearingCars_26 (by decide) (fun hc => ?_) (fun hc => ?_)
    · have h := h.1 hc
      refine w_X5_hearingCars_35 S hE hT hP hS hr hlocks ih _ h (lv_sub hl [0, 1, 2, 3] rfl)
    have h := h.2 hc
    refine lv_iload_n hx hb dX5_hearingCars_29 rfl (lv_at hl 2 rfl) ?_
    refine lv_iconst (v := 1) hx hb dX5_hearingCars_30 (by decide) ?_
    refine lv_iload_n hx hb dX5_hearingCars_31 rfl (lv_at hl 3 rfl) ?_
    refine lv_ishl hx hb dX5_hearingCars_32 ?_
    refine lv_ior hx hb dX5_hearingCars_33 ?_
    refine lv_topi (fun x2_34 ex2_34 => ?_)
    have h := h _ ex2_34
    refine lv_istore_n (lv' := [(2, .int x2_34), (0, .ref a_o), (1, .int x1), (3, .int x3)]) hx hb dX5_hearingCars_34 rfl hl (by decide) rfl (fun ls hl => ?_)
    refine w_X5_hearingCars_35 S hE hT hP hS hr hlocks ih _ h (lv_sub hl [1, 2, 0, 3] rfl)
set_option maxHeartbeats 4000000 in
set_option maxRecDepth 100000 in
theorem c_X5_hearingCars {l : Launch} {D : va_G} {cI cJ cS : ClassId} {ad adK : Nat → Nat} {a_o a_cars a_cars_speeds a_demands a_stretches a_stretches_kinds a_stretches_others a_stretches_spaces a_tunes a_tunes_noteCounts a_tunes_pitches : Nat} {z_cars_bases z_cars_shares z_stretches_times z_tunes_beats : Value} {v_drawSeed : Int32} {v_cars_carCount : Int32} {f_cars_speeds : Nat → Int32} {f_demands : Nat → Int32} {v_stretches_stretchCount : Int32} {f_stretches_kinds : Nat → Int32} {f_stretches_others : Nat → Int32} {f_stretches_spaces : Nat → Int32} {v_tunes_tuneCount : Int32} {f_tunes_noteCounts : Nat → Int32} {f_tunes_pitches : Nat → Int32} {x1 : Int32} {post : Int32 → Prop} (h : F_X5_hearingCars v_cars_carCount f_cars_speeds f_demands v_stretches_stretchCount f_stretches_kinds f_stretches_others f_stretches_spaces v_tunes_tuneCount f_tunes_noteCounts f_tunes_pitches x1 post) : Met l yX5_hearingCars (Cond.code yX5_hearingCars cX5_hearingCars 4 (some (.int)) :: GW) (rmd 5 0 0) (PR D cI cJ cS ad adK [.ref a_o, .int x1] (wX5_hearingCars cI cJ cS a_o a_cars a_cars_speeds a_demands a_stretches a_stretches_kinds a_stretches_others a_stretches_spaces a_tunes a_tunes_noteCounts a_tunes_pitches z_cars_bases z_cars_shares z_stretches_times z_tunes_beats v_drawSeed v_cars_carCount f_cars_speeds f_demands v_stretches_stretchCount f_stretches_kinds f_stretches_others f_stretches_spaces v_tunes_tuneCount f_tunes_noteCounts f_tunes_pitches)) (vp_Si post) 0 0 nof := by
  refine Met.ro (by decide) (Nat.le_of_ble_eq_true rfl) (fun p e s m args below meth c ls (S : CallFix p m c cX5_hearingCars 4 s args GW "RoadThatSings$Road") hE hT hP hS hr hlocks hl => ?_)
  have hx := S.1
  have hb := S.2.1
  have hl : lv_has ls 4 [(0, .ref a_o), (1, .int x1)] := hl
  unfold F_X5_hearingCars at h
  refine lv_iconst (v := 0) hx hb dX5_hearingCars_0 (by decide) ?_
  refine lv_istore_n (lv' := [(2, .int 0), (0, .ref a_o), (1, .int x1)]) hx hb dX5_hearingCars_1 rfl hl (by decide) rfl (fun ls hl => ?_)
  refine lv_iconst (v := 0) hx hb dX5_hearingCars_2 (by decide) ?_
  refine lv_istore_n (lv' := [(3, .int 0), (2, .int 0), (0, .ref a_o), (1, .int x1)]) hx hb dX5_hearingCars_3 rfl hl (by decide) rfl (fun ls hl => ?_)
  obtain ⟨n, h⟩ := h
  refine w_X5_hearingCars_4 S hE hT hP hS hr hlocks n _ _ _ h (lv_sub hl [2, 3, 1, 0] rfl)
/-! X7_count -/
abbrev wX7_count (cI cJ cS : ClassId) (a_o : Nat) (z_kinds z_spaces z_others z_times : Value) (v_stretchCount : Int32) : va_W := [(a_o, .inr (6, [z_kinds, z_spaces, z_others, z_times, .int v_stretchCount]))]
def F_X7_count (v_stretchCount : Int32) (post : Int32 → Prop) : Prop := post v_stretchCount
set_option maxHeartbeats 4000000 in
set_option maxRecDepth 100000 in
theorem c_X7_count {l : Launch} {D : va_G} {cI cJ cS : ClassId} {ad adK : Nat → Nat} {a_o : Nat} {z_kinds z_spaces z_others z_times : Value} {v_stretchCount : Int32} {post : Int32 → Prop} (h : F_X7_count v_stretchCount post) : Met l yX7_count (Cond.code yX7_count cX7_count 1 (some (.int)) :: GW) (rmd 0 0 0) (PR D cI cJ cS ad adK [.ref a_o] (wX7_count cI cJ cS a_o z_kinds z_spaces z_others z_times v_stretchCount)) (vp_Si post) 0 0 nof := by
  refine Met.ro (by decide) (Nat.le_of_ble_eq_true rfl) (fun p e s m args below meth c ls (S : CallFix p m c cX7_count 1 s args GW "RoadThatSings$Stretches") hE hT hP hS hr hlocks hl => ?_)
  have hx := S.1
  have hb := S.2.1
  have hl : lv_has ls 1 [(0, .ref a_o)] := hl
  unfold F_X7_count at h
  refine lv_aload_n hx hb dX7_count_0 rfl (lv_at hl 0 rfl) ?_
  refine gf S hE hP 0 rfl rfl inX7 (k := 4) (by decide) q42 rfl dX7_count_1 ?_
  exact W.iret hx hb hr (fun t ht _ => ⟨_, rfl, h, ht⟩) (fun _ hq => by cases hq) dX7_count_4
/-! X7_spaceOf -/
abbrev wX7_spaceOf (cI cJ cS : ClassId) (a_o a_spaces : Nat) (z_kinds z_others z_times : Value) (v_stretchCount : Int32) (f_spaces : Nat → Int32) : va_W := [(a_o, .inr (6, [z_kinds, .ref a_spaces, z_others, z_times, .int v_stretchCount])), (a_spaces, .inl (cI, 16, .inl f_spaces))]
def F_X7_spaceOf (v_stretchCount : Int32) (f_spaces : Nat → Int32) (x1 : Int32) (post : Int32 → Prop) : Prop := (F_X7_has v_stretchCount x1 (fun r2 => ((r2 = 0 → post 0) ∧ (¬ r2 = 0 → (vp_in x1 16 ∧ post (f_spaces x1.toNatClampNeg))))))
set_option maxHeartbeats 4000000 in
set_option maxRecDepth 100000 in
theorem c_X7_spaceOf {l : Launch} {D : va_G} {cI cJ cS : ClassId} {ad adK : Nat → Nat} {a_o a_spaces : Nat} {z_kinds z_others z_times : Value} {v_stretchCount : Int32} {f_spaces : Nat → Int32} {x1 : Int32} {post : Int32 → Prop} (h : F_X7_spaceOf v_stretchCount f_spaces x1 post) : Met l yX7_spaceOf (Cond.code yX7_spaceOf cX7_spaceOf 2 (some (.int)) :: GW) (rmd 1 0 0) (PR D cI cJ cS ad adK [.ref a_o, .int x1] (wX7_spaceOf cI cJ cS a_o a_spaces z_kinds z_others z_times v_stretchCount f_spaces)) (vp_Si post) 0 0 nof := by
  refine Met.ro (by decide) (Nat.le_of_ble_eq_true rfl) (fun p e s m args below meth c ls (S : CallFix p m c cX7_spaceOf 2 s args GW "RoadThatSings$Stretches") hE hT hP hS hr hlocks hl => ?_)
  have hx := S.1
  have hb := S.2.1
  have hl : lv_has ls 2 [(0, .ref a_o), (1, .int x1)] := hl
  unfold F_X7_spaceOf at h
  refine lv_aload_n hx hb dX7_spaceOf_0 rfl (lv_at hl 0 rfl) ?_
  refine lv_iload_n hx hb dX7_spaceOf_1 rfl (lv_at hl 1 rfl) ?_
  refine ro_i (roV S hE hT hS (c_X7_has h) lkX7_47 rfl ⟨(Nat.le_of_ble_eq_true rfl), (Nat.le_of_ble_eq_true rfl)⟩ (hP.sub [0] rfl) 0 rfl rfl hl.1 rfl (Nat.le_of_ble_eq_true rfl) dX7_spaceOf_2 ⟨(Nat.zero_le _), (Nat.zero_le _)⟩) (fun r2 h => ?_)
  refine lv_if_eq (tgt := 17) hx hb dX7_spaceOf_5 (by decide) (fun hc => ?_) (fun hc => ?_)
  · have h := h.1 hc
    refine lv_iconst (v := 0) hx hb dX7_spaceOf_17 (by decide) ?_
    exact W.iret hx hb hr (fun t ht _ => ⟨_, rfl, h, ht⟩) (fun _ hq => by cases hq) dX7_spaceOf_18
  have h := h.2 hc
  refine lv_aload_n hx hb dX7_spaceOf_8 rfl (lv_at hl 0 rfl) ?_
  refine gf S hE hP 0 rfl rfl inX7 (k := 1) (by decide) q39 rfl dX7_spaceOf_9 ?_
  refine lv_iload_n hx hb dX7_spaceOf_12 rfl (lv_at hl 1 rfl) ?_
  obtain ⟨hi, h⟩ := h
  refine ial S hE hP 1 rfl hi dX7_spaceOf_13 ?_
  refine lv_goto (tgt := 18) hx hb dX7_spaceOf_14 (by decide) ?_
  exact W.iret hx hb hr (fun t ht _ => ⟨_, rfl, h, ht⟩) (fun _ hq => by cases hq) dX7_spaceOf_18
/-! X7_isNearerThan -/
abbrev wX7_isNearerThan (cI cJ cS : ClassId) (a_o a_kinds a_others a_spaces : Nat) (z_times : Value) (v_stretchCount : Int32) (f_kinds : Nat → Int32) (f_others : Nat → Int32) (f_spaces : Nat → Int32) : va_W := [(a_o, .inr (6, [.ref a_kinds, .ref a_spaces, .ref a_others, z_times, .int v_stretchCount])), (a_kinds, .inl (cI, 16, .inl f_kinds)), (a_others, .inl (cI, 16, .inl f_others)), (a_spaces, .inl (cI, 16, .inl f_spaces))]
def F_X7_isNearerThan_48 (v_stretchCount : Int32) (f_spaces : Nat → Int32) (post : Int32 → Prop) (x1 : Int32) (x2 : Int32) (s0 : Int32) : Prop := (F_X7_spaceOf v_stretchCount f_spaces x1 (fun r52 => ((r52 < x2 → post 1) ∧ (¬ r52 < x2 → ((s0 = 0 → post 0) ∧ (¬ s0 = 0 → post 1))))))
def F_X7_isNearerThan_47 (v_stretchCount : Int32) (f_spaces : Nat → Int32) (post : Int32 → Prop) (x1 : Int32) (x2 : Int32) : Prop := F_X7_isNearerThan_48 v_stretchCount f_spaces post x1 x2 0
def F_X7_isNearerThan (v_stretchCount : Int32) (f_kinds : Nat → Int32) (f_others : Nat → Int32) (f_spaces : Nat → Int32) (x1 : Int32) (x2 : Int32) (post : Int32 → Prop) : Prop := (F_X7_kindOf v_stretchCount f_kinds x1 (fun r2 => ((r2 = 6 → post 0) ∧ (¬ r2 = 6 → ((r2 = 3 → post 0) ∧ (¬ r2 = 3 → (F_X9_isOfTwoSpaces r2 (fun r20 => ((r20 = 0 → F_X7_isNearerThan_47 v_stretchCount f_spaces post x1 x2) ∧ (¬ r20 = 0 → (F_X7_otherOf v_stretchCount f_others x1 (fun r28 => ((r28 = 0 → F_X7_isNearerThan_47 v_stretchCount f_spaces post x1 x2) ∧ (¬ r28 = 0 → (F_X7_otherOf v_stretchCount f_others x1 (fun r36 => ((x2 ≤ r36 → F_X7_isNearerThan_47 v_stretchCount f_spaces post x1 x2) ∧ (¬ x2 ≤ r36 → F_X7_isNearerThan_48 v_stretchCount f_spaces post x1 x2 1))))))))))))))))))
set_option maxHeartbeats 4000000 in
set_option maxRecDepth 100000 in
theorem w_X7_isNearerThan_48 {l : Launch} {D : va_G} {cI cJ cS : ClassId} {ad adK : Nat → Nat} {a_o a_kinds a_others a_spaces : Nat} {z_times : Value} {v_stretchCount : Int32} {f_kinds : Nat → Int32} {f_others : Nat → Int32} {f_spaces : Nat → Int32} {x1 : Int32} {x2 : Int32} {s0 : Int32} {post : Int32 → Prop} {p : Program} {e : Env} {s : State} {m : MethodId} {args : Array Value} {below : List Frame} {meth : Method} {c : Code} (S : CallFix p m c cX7_isNearerThan 5 s args GW "RoadThatSings$Stretches") (hE : EN D cI cJ cS s) (hT : ST ad adK nof s s.heap) (hP : va_P D vwCl (wX7_isNearerThan cI cJ cS a_o a_kinds a_others a_spaces z_times v_stretchCount f_kinds f_others f_spaces) s.heap) (hS : va_S nof s.heap s.heap []) (hr : meth.sig.returnType = (some (.boolean))) (hlocks : meth.locks = false) : ∀ (ls : Array Slot), F_X7_isNearerThan_48 v_stretchCount f_spaces post x1 x2 s0 → lv_has ls 5 [(0, .ref a_o), (1, .int x1), (2, .int x2)] → W p l e (rmd 2 0 0) s m args below meth c s.heap [] 0 0 (MQ below (vp_Si post) args s 0 0 nof) (F0 m 48 ls [.int s0]) := by
  intro  ls h hl
  unfold F_X7_isNearerThan_48 at h
  have hx := S.1
  have hb := S.2.1
  refine lv_istore (lv' := [(4, .int s0), (0, .ref a_o), (1, .int x1), (2, .int x2)]) hx hb dX7_isNearerThan_48 hl (by decide) rfl (fun ls hl => ?_)
  refine lv_aload_n hx hb dX7_isNearerThan_50 rfl (lv_at hl 1 rfl) ?_
  refine lv_iload_n hx hb dX7_isNearerThan_51 rfl (lv_at hl 2 rfl) ?_
  refine ro_i (roV S hE hT hS (c_X7_spaceOf h) lkX7_70 rfl ⟨(Nat.le_of_ble_eq_true rfl), (Nat.le_of_ble_eq_true rfl)⟩ (hP.sub [0, 3] rfl) 0 rfl rfl hl.1 rfl (Nat.le_of_ble_eq_true rfl) dX7_isNearerThan_52 ⟨(Nat.zero_le _), (Nat.zero_le _)⟩) (fun r52 h => ?_)
  refine lv_iload_n hx hb dX7_isNearerThan_55 rfl (lv_at hl 3 rfl) ?_
  refine lv_icmp_lt (tgt := 64) hx hb dX7_isNearerThan_56 (by decide) (fun hc => ?_) (fun hc => ?_)
  · have h := h.1 hc
    refine lv_iconst (v := 1) hx hb dX7_isNearerThan_64 (by decide) ?_
    refine lv_goto (tgt := 69) hx hb dX7_isNearerThan_65 (by decide) ?_
    exact W.zret hx hb hr rfl (fun t ht _ => ⟨_, rfl, h, ht⟩) (fun _ hq => by cases hq) dX7_isNearerThan_69
  have h := h.2 hc
  refine lv_iload hx hb dX7_isNearerThan_59 (lv_at hl 0 rfl) ?_
  refine lv_if_eq (tgt := 68) hx hb dX7_isNearerThan_61 (by decide) (fun hc => ?_) (fun hc => ?_)
  · have h := h.1 hc
    refine lv_iconst (v := 0) hx hb dX7_isNearerThan_68 (by decide) ?_
    exact W.zret hx hb hr rfl (fun t ht _ => ⟨_, rfl, h, ht⟩) (fun _ hq => by cases hq) dX7_isNearerThan_69
  have h := h.2 hc
  refine lv_iconst (v := 1) hx hb dX7_isNearerThan_64 (by decide) ?_
  refine lv_goto (tgt := 69) hx hb dX7_isNearerThan_65 (by decide) ?_
  exact W.zret hx hb hr rfl (fun t ht _ => ⟨_, rfl, h, ht⟩) (fun _ hq => by cases hq) dX7_isNearerThan_69
set_option maxHeartbeats 4000000 in
set_option maxRecDepth 100000 in
theorem w_X7_isNearerThan_47 {l : Launch} {D : va_G} {cI cJ cS : ClassId} {ad adK : Nat → Nat} {a_o a_kinds a_others a_spaces : Nat} {z_times : Value} {v_stretchCount : Int32} {f_kinds : Nat → Int32} {f_others : Nat → Int32} {f_spaces : Nat → Int32} {x1 : Int32} {x2 : Int32} {post : Int32 → Prop} {p : Program} {e : Env} {s : State} {m : MethodId} {args : Array Value} {below : List Frame} {meth : Method} {c : Code} (S : CallFix p m c cX7_isNearerThan 5 s args GW "RoadThatSings$Stretches") (hE : EN D cI cJ cS s) (hT : ST ad adK nof s s.heap) (hP : va_P D vwCl (wX7_isNearerThan cI cJ cS a_o a_kinds a_others a_spaces z_times v_stretchCount f_kinds f_others f_spaces) s.heap) (hS : va_S nof s.heap s.heap []) (hr : meth.sig.returnType = (some (.boolean))) (hlocks : meth.locks = false) : ∀ (ls : Array Slot), F_X7_isNearerThan_47 v_stretchCount f_spaces post x1 x2 → lv_has ls 5 [(0, .ref a_o), (1, .int x1), (2, .int x2)] → W p l e (rmd 2 0 0) s m args below meth c s.heap [] 0 0 (MQ below (vp_Si post) args s 0 0 nof) (F0 m 47 ls []) := by
  intro  ls h hl
  unfold F_X7_isNearerThan_47 at h
  have hx := S.1
  have hb := S.2.1
  refine lv_iconst (v := 0) hx hb dX7_isNearerThan_47 (by decide) ?_
  refine w_X7_isNearerThan_48 S hE hT hP hS hr hlocks _ h (lv_sub hl [0, 1, 2] rfl)
set_option maxHeartbeats 4000000 in
set_option maxRecDepth 100000 in
theorem c_X7_isNearerThan {l : Launch} {D : va_G} {cI cJ cS : ClassId} {ad adK : Nat → Nat} {a_o a_kinds a_others a_spaces : Nat} {z_times : Value} {v_stretchCount : Int32} {f_kinds : Nat → Int32} {f_others : Nat → Int32} {f_spaces : Nat → Int32} {x1 : Int32} {x2 : Int32} {post : Int32 → Prop} (h : F_X7_isNearerThan v_stretchCount f_kinds f_others f_spaces x1 x2 post) : Met l yX7_isNearerThan (Cond.code yX7_isNearerThan cX7_isNearerThan 5 (some (.boolean)) :: GW) (rmd 2 0 0) (PR D cI cJ cS ad adK [.ref a_o, .int x1, .int x2] (wX7_isNearerThan cI cJ cS a_o a_kinds a_others a_spaces z_times v_stretchCount f_kinds f_others f_spaces)) (vp_Si post) 0 0 nof := by
  refine Met.ro (by decide) (Nat.le_of_ble_eq_true rfl) (fun p e s m args below meth c ls (S : CallFix p m c cX7_isNearerThan 5 s args GW "RoadThatSings$Stretches") hE hT hP hS hr hlocks hl => ?_)
  have hx := S.1
  have hb := S.2.1
  have hl : lv_has ls 5 [(0, .ref a_o), (1, .int x1), (2, .int x2)] := hl
  unfold F_X7_isNearerThan at h
  refine lv_aload_n hx hb dX7_isNearerThan_0 rfl (lv_at hl 0 rfl) ?_
  refine lv_iload_n hx hb dX7_isNearerThan_1 rfl (lv_at hl 1 rfl) ?_
  refine ro_i (roV S hE hT hS (c_X7_kindOf h) lkX7_54 rfl ⟨(Nat.le_of_ble_eq_true rfl), (Nat.le_of_ble_eq_true rfl)⟩ (hP.sub [0, 1] rfl) 0 rfl rfl hl.1 rfl (Nat.le_of_ble_eq_true rfl) dX7_isNearerThan_2 ⟨(Nat.zero_le _), (Nat.zero_le _)⟩) (fun r2 h => ?_)
  refine lv_istore_n (lv' := [(3, .int r2), (0, .ref a_o), (1, .int x1), (2, .int x2)]) hx hb dX7_isNearerThan_5 rfl hl (by decide) rfl (fun ls hl => ?_)
  refine lv_iload_n hx hb dX7_isNearerThan_6 rfl (lv_at hl 0 rfl) ?_
  refine lv_bipush (v := 6) hx hb dX7_isNearerThan_7 (by decide) ?_
  refine lv_icmp_eq (tgt := 17) hx hb dX7_isNearerThan_9 (by decide) (fun hc => ?_) (fun hc => ?_)
  · have h := h.1 hc
    refine lv_iconst (v := 0) hx hb dX7_isNearerThan_17 (by decide) ?_
    exact W.zret hx hb hr rfl (fun t ht _ => ⟨_, rfl, h, ht⟩) (fun _ hq => by cases hq) dX7_isNearerThan_18
  have h := h.2 hc
  refine lv_iload_n hx hb dX7_isNearerThan_12 rfl (lv_at hl 0 rfl) ?_
  refine lv_iconst (v := 3) hx hb dX7_isNearerThan_13 (by decide) ?_
  refine lv_icmp_ne (tgt := 19) hx hb dX7_isNearerThan_14 (by decide) (fun hc => ?_) (fun hc => ?_)
  · have h := h.2 hc
    refine lv_iload_n hx hb dX7_isNearerThan_19 rfl (lv_at hl 0 rfl) ?_
    refine ro_i (roSN S hE hT hS (c_X9_isOfTwoSpaces h) lkX7_51 rfl ⟨(Nat.le_of_ble_eq_true rfl), (Nat.le_of_ble_eq_true rfl)⟩ (hP.sub [] rfl) hl.1 rfl (Nat.le_of_ble_eq_true rfl) dX7_isNearerThan_20 ⟨(Nat.zero_le _), (Nat.zero_le _)⟩) (fun r20 h => ?_)
    refine lv_if_eq (tgt := 47) hx hb dX7_isNearerThan_23 (by decide) (fun hc => ?_) (fun hc => ?_)
    · have h := h.1 hc
      refine w_X7_isNearerThan_47 S hE hT hP hS hr hlocks _ h (lv_sub hl [1, 2, 3] rfl)
    have h := h.2 hc
    refine lv_aload_n hx hb dX7_isNearerThan_26 rfl (lv_at hl 1 rfl) ?_
    refine lv_iload_n hx hb dX7_isNearerThan_27 rfl (lv_at hl 2 rfl) ?_
    refine ro_i (roV S hE hT hS (c_X7_otherOf h) lkX7_58 rfl ⟨(Nat.le_of_ble_eq_true rfl), (Nat.le_of_ble_eq_true rfl)⟩ (hP.sub [0, 2] rfl) 0 rfl rfl hl.1 rfl (Nat.le_of_ble_eq_true rfl) dX7_isNearerThan_28 ⟨(Nat.zero_le _), (Nat.zero_le _)⟩) (fun r28 h => ?_)
    refine lv_if_eq (tgt := 47) hx hb dX7_isNearerThan_31 (by decide) (fun hc => ?_) (fun hc => ?_)
    · have h := h.1 hc
      refine w_X7_isNearerThan_47 S hE hT hP hS hr hlocks _ h (lv_sub hl [1, 2, 3] rfl)
    have h := h.2 hc
    refine lv_aload_n hx hb dX7_isNearerThan_34 rfl (lv_at hl 1 rfl) ?_
    refine lv_iload_n hx hb dX7_isNearerThan_35 rfl (lv_at hl 2 rfl) ?_
    refine ro_i (roV S hE hT hS (c_X7_otherOf h) lkX7_58 rfl ⟨(Nat.le_of_ble_eq_true rfl), (Nat.le_of_ble_eq_true rfl)⟩ (hP.sub [0, 2] rfl) 0 rfl rfl hl.1 rfl (Nat.le_of_ble_eq_true rfl) dX7_isNearerThan_36 ⟨(Nat.zero_le _), (Nat.zero_le _)⟩) (fun r36 h => ?_)
    refine lv_iload_n hx hb dX7_isNearerThan_39 rfl (lv_at hl 3 rfl) ?_
    refine lv_icmp_ge (tgt := 47) hx hb dX7_isNearerThan_40 (by decide) (fun hc => ?_) (fun hc => ?_)
    · have h := h.1 hc
      refine w_X7_isNearerThan_47 S hE hT hP hS hr hlocks _ h (lv_sub hl [1, 2, 3] rfl)
    have h := h.2 hc
    refine lv_iconst (v := 1) hx hb dX7_isNearerThan_43 (by decide) ?_
    refine lv_goto (tgt := 48) hx hb dX7_isNearerThan_44 (by decide) ?_
    refine w_X7_isNearerThan_48 S hE hT hP hS hr hlocks _ h (lv_sub hl [1, 2, 3] rfl)
  have h := h.1 hc
  refine lv_iconst (v := 0) hx hb dX7_isNearerThan_17 (by decide) ?_
  exact W.zret hx hb hr rfl (fun t ht _ => ⟨_, rfl, h, ht⟩) (fun _ hq => by cases hq) dX7_isNearerThan_18
/-! X5_firstTooNear -/
abbrev wX5_firstTooNear (cI cJ cS : ClassId) (a_o a_demands a_stretches a_stretches_kinds a_stretches_others a_stretches_spaces : Nat) (z_cars z_tunes z_stretches_times : Value) (v_drawSeed : Int32) (f_demands : Nat → Int32) (v_stretches_stretchCount : Int32) (f_stretches_kinds : Nat → Int32) (f_stretches_others : Nat → Int32) (f_stretches_spaces : Nat → Int32) : va_W := [(a_o, .inr (4, [.ref a_stretches, z_cars, z_tunes, .ref a_demands, .int v_drawSeed])), (a_demands, .inl (cI, 4, .inl f_demands)), (a_stretches, .inr (6, [.ref a_stretches_kinds, .ref a_stretches_spaces, .ref a_stretches_others, z_stretches_times, .int v_stretches_stretchCount])), (a_stretches_kinds, .inl (cI, 16, .inl f_stretches_kinds)), (a_stretches_others, .inl (cI, 16, .inl f_stretches_others)), (a_stretches_spaces, .inl (cI, 16, .inl f_stretches_spaces))]
def L_X5_firstTooNear_2 (f_demands : Nat → Int32) (v_stretches_stretchCount : Int32) (f_stretches_kinds : Nat → Int32) (f_stretches_others : Nat → Int32) (f_stretches_spaces : Nat → Int32) (post : Int32 → Prop) : Nat → Int32 → Prop
  | 0, _ => False
  | n2 + 1, x1 => (F_X7_count v_stretches_stretchCount (fun r7 => ((r7 ≤ x1 → post (-1)) ∧ (¬ r7 ≤ x1 → (F_X5_asked f_demands 1 (fun r20 => (F_X7_isNearerThan v_stretches_stretchCount f_stretches_kinds f_stretches_others f_stretches_spaces x1 r20 (fun r23 => ((r23 = 0 → (∀ x1_31 : Int32, x1_31 = x1 + 1 → L_X5_firstTooNear_2 f_demands v_stretches_stretchCount f_stretches_kinds f_stretches_others f_stretches_spaces post n2 x1_31)) ∧ (¬ r23 = 0 → post x1))))))))))
def F_X5_firstTooNear (f_demands : Nat → Int32) (v_stretches_stretchCount : Int32) (f_stretches_kinds : Nat → Int32) (f_stretches_others : Nat → Int32) (f_stretches_spaces : Nat → Int32) (post : Int32 → Prop) : Prop := (∃ n2 : Nat, L_X5_firstTooNear_2 f_demands v_stretches_stretchCount f_stretches_kinds f_stretches_others f_stretches_spaces post n2 0)
set_option maxHeartbeats 4000000 in
set_option maxRecDepth 100000 in
theorem w_X5_firstTooNear_2 {l : Launch} {D : va_G} {cI cJ cS : ClassId} {ad adK : Nat → Nat} {a_o a_demands a_stretches a_stretches_kinds a_stretches_others a_stretches_spaces : Nat} {z_cars z_tunes z_stretches_times : Value} {v_drawSeed : Int32} {f_demands : Nat → Int32} {v_stretches_stretchCount : Int32} {f_stretches_kinds : Nat → Int32} {f_stretches_others : Nat → Int32} {f_stretches_spaces : Nat → Int32} {post : Int32 → Prop} {p : Program} {e : Env} {s : State} {m : MethodId} {args : Array Value} {below : List Frame} {meth : Method} {c : Code} (S : CallFix p m c cX5_firstTooNear 2 s args GW "RoadThatSings$Road") (hE : EN D cI cJ cS s) (hT : ST ad adK nof s s.heap) (hP : va_P D vwCl (wX5_firstTooNear cI cJ cS a_o a_demands a_stretches a_stretches_kinds a_stretches_others a_stretches_spaces z_cars z_tunes z_stretches_times v_drawSeed f_demands v_stretches_stretchCount f_stretches_kinds f_stretches_others f_stretches_spaces) s.heap) (hS : va_S nof s.heap s.heap []) (hr : meth.sig.returnType = (some (.int))) (hlocks : meth.locks = false) : ∀ n : Nat, ∀ (x1 : Int32) (ls : Array Slot), L_X5_firstTooNear_2 f_demands v_stretches_stretchCount f_stretches_kinds f_stretches_others f_stretches_spaces post n x1 → lv_has ls 2 [(0, .ref a_o), (1, .int x1)] → W p l e (rmd 3 0 0) s m args below meth c s.heap [] 0 0 (MQ below (vp_Si post) args s 0 0 nof) (F0 m 2 ls []) := by
  intro n
  induction n with
  | zero =>
    intro x1 ls h hl
    exact h.elim
  | succ n ih =>
    intro x1 ls h hl
    rw [L_X5_firstTooNear_2] at h
    have hx := S.1
    have hb := S.2.1
    refine lv_iload_n hx hb dX5_firstTooNear_2 rfl (lv_at hl 1 rfl) ?_
    refine lv_aload_n hx hb dX5_firstTooNear_3 rfl (lv_at hl 0 rfl) ?_
    refine gf S hE hP 0 rfl rfl inX5 (k := 0) (by decide) q93 rfl dX5_firstTooNear_4 ?_
    refine ro_i (roV S hE hT hS (c_X7_count h) lkX5_114 rfl ⟨(Nat.le_of_ble_eq_true rfl), (Nat.le_of_ble_eq_true rfl)⟩ (hP.sub [2] rfl) 0 rfl rfl hl.1 rfl (Nat.le_of_ble_eq_true rfl) dX5_firstTooNear_7 ⟨(Nat.zero_le _), (Nat.zero_le _)⟩) (fun r7 h => ?_)
    refine lv_icmp_ge (tgt := 37) hx hb dX5_firstTooNear_10 (by decide) (fun hc => ?_) (fun hc => ?_)
    · have h := h.1 hc
      refine lv_iconst (v := (-1)) hx hb dX5_firstTooNear_37 (by decide) ?_
      exact W.iret hx hb hr (fun t ht _ => ⟨_, rfl, h, ht⟩) (fun _ hq => by cases hq) dX5_firstTooNear_38
    have h := h.2 hc
    refine lv_aload_n hx hb dX5_firstTooNear_13 rfl (lv_at hl 0 rfl) ?_
    refine gf S hE hP 0 rfl rfl inX5 (k := 0) (by decide) q93 rfl dX5_firstTooNear_14 ?_
    refine lv_iload_n hx hb dX5_firstTooNear_17 rfl (lv_at hl 1 rfl) ?_
    refine lv_aload_n hx hb dX5_firstTooNear_18 rfl (lv_at hl 0 rfl) ?_
    refine lv_iconst (v := 1) hx hb dX5_firstTooNear_19 (by decide) ?_
    refine ro_i (roV S hE hT hS (c_X5_asked h) lkX5_104 rfl ⟨(Nat.le_of_ble_eq_true rfl), (Nat.le_of_ble_eq_true rfl)⟩ (hP.sub [0, 1] rfl) 0 rfl rfl hl.1 rfl (Nat.le_of_ble_eq_true rfl) dX5_firstTooNear_20 ⟨(Nat.zero_le _), (Nat.zero_le _)⟩) (fun r20 h => ?_)
    refine ro_i (roV S hE hT hS (c_X7_isNearerThan h) lkX5_115 rfl ⟨(Nat.le_of_ble_eq_true rfl), (Nat.le_of_ble_eq_true rfl)⟩ (hP.sub [2, 3, 4, 5] rfl) 0 rfl rfl hl.1 rfl (Nat.le_of_ble_eq_true rfl) dX5_firstTooNear_23 ⟨(Nat.zero_le _), (Nat.zero_le _)⟩) (fun r23 h => ?_)
    refine lv_if_eq (tgt := 31) hx hb dX5_firstTooNear_26 (by decide) (fun hc => ?_) (fun hc => ?_)
    · have h := h.1 hc
      obtain ⟨x1_31, ex1_31⟩ : ∃ z : Int32, z = x1 + 1 := ⟨_, rfl⟩
      have h := h _ ex1_31
      refine lv_iinc (v := x1_31) (lv' := [(1, .int x1_31), (0, .ref a_o)]) hx hb dX5_firstTooNear_31 hl (k := 1) rfl (by rw [ex1_31]; rfl) (by decide) rfl (fun ls hl => ?_)
      refine lv_goto (tgt := 2) hx hb dX5_firstTooNear_34 (by decide) ?_
      exact ih _ _ h (lv_sub hl [1, 0] rfl)
    have h := h.2 hc
    refine lv_iload_n hx hb dX5_firstTooNear_29 rfl (lv_at hl 1 rfl) ?_
    exact W.iret hx hb hr (fun t ht _ => ⟨_, rfl, h, ht⟩) (fun _ hq => by cases hq) dX5_firstTooNear_30
set_option maxHeartbeats 4000000 in
set_option maxRecDepth 100000 in
theorem c_X5_firstTooNear {l : Launch} {D : va_G} {cI cJ cS : ClassId} {ad adK : Nat → Nat} {a_o a_demands a_stretches a_stretches_kinds a_stretches_others a_stretches_spaces : Nat} {z_cars z_tunes z_stretches_times : Value} {v_drawSeed : Int32} {f_demands : Nat → Int32} {v_stretches_stretchCount : Int32} {f_stretches_kinds : Nat → Int32} {f_stretches_others : Nat → Int32} {f_stretches_spaces : Nat → Int32} {post : Int32 → Prop} (h : F_X5_firstTooNear f_demands v_stretches_stretchCount f_stretches_kinds f_stretches_others f_stretches_spaces post) : Met l yX5_firstTooNear (Cond.code yX5_firstTooNear cX5_firstTooNear 2 (some (.int)) :: GW) (rmd 3 0 0) (PR D cI cJ cS ad adK [.ref a_o] (wX5_firstTooNear cI cJ cS a_o a_demands a_stretches a_stretches_kinds a_stretches_others a_stretches_spaces z_cars z_tunes z_stretches_times v_drawSeed f_demands v_stretches_stretchCount f_stretches_kinds f_stretches_others f_stretches_spaces)) (vp_Si post) 0 0 nof := by
  refine Met.ro (by decide) (Nat.le_of_ble_eq_true rfl) (fun p e s m args below meth c ls (S : CallFix p m c cX5_firstTooNear 2 s args GW "RoadThatSings$Road") hE hT hP hS hr hlocks hl => ?_)
  have hx := S.1
  have hb := S.2.1
  have hl : lv_has ls 2 [(0, .ref a_o)] := hl
  unfold F_X5_firstTooNear at h
  refine lv_iconst (v := 0) hx hb dX5_firstTooNear_0 (by decide) ?_
  refine lv_istore_n (lv' := [(1, .int 0), (0, .ref a_o)]) hx hb dX5_firstTooNear_1 rfl hl (by decide) rfl (fun ls hl => ?_)
  obtain ⟨n, h⟩ := h
  refine w_X5_firstTooNear_2 S hE hT hP hS hr hlocks n _ _ h (lv_sub hl [1, 0] rfl)
/-! X5_firstTooFar -/
abbrev wX5_firstTooFar (cI cJ cS : ClassId) (a_o a_demands a_stretches a_stretches_kinds a_stretches_others a_stretches_spaces a_stretches_times : Nat) (z_cars z_tunes : Value) (v_drawSeed : Int32) (f_demands : Nat → Int32) (v_stretches_stretchCount : Int32) (f_stretches_kinds : Nat → Int32) (f_stretches_others : Nat → Int32) (f_stretches_spaces : Nat → Int32) (f_stretches_times : Nat → Int32) : va_W := [(a_o, .inr (4, [.ref a_stretches, z_cars, z_tunes, .ref a_demands, .int v_drawSeed])), (a_demands, .inl (cI, 4, .inl f_demands)), (a_stretches, .inr (6, [.ref a_stretches_kinds, .ref a_stretches_spaces, .ref a_stretches_others, .ref a_stretches_times, .int v_stretches_stretchCount])), (a_stretches_kinds, .inl (cI, 16, .inl f_stretches_kinds)), (a_stretches_others, .inl (cI, 16, .inl f_stretches_others)), (a_stretches_spaces, .inl (cI, 16, .inl f_stretches_spaces)), (a_stretches_times, .inl (cI, 16, .inl f_stretches_times))]
def L_X5_firstTooFar_4 (f_demands : Nat → Int32) (v_stretches_stretchCount : Int32) (f_stretches_kinds : Nat → Int32) (f_stretches_others : Nat → Int32) (f_stretches_spaces : Nat → Int32) (f_stretches_times : Nat → Int32) (post : Int32 → Prop) : Nat → Int32 → Int32 → Prop
  | 0, _, _ => False
  | n4 + 1, x1, x2 => (F_X7_count v_stretches_stretchCount (fun r9 => ((r9 ≤ x2 → post (-1)) ∧ (¬ r9 ≤ x2 → (F_X7_lengthOf v_stretches_stretchCount f_stretches_kinds f_stretches_others f_stretches_spaces f_stretches_times x2 (fun r21 => (∀ x1_25 : Int32, x1_25 = x1 + r21 → (F_X5_asked f_demands 0 (fun r29 => ((x1_25 ≤ r29 → (∀ x2_37 : Int32, x2_37 = x2 + 1 → L_X5_firstTooFar_4 f_demands v_stretches_stretchCount f_stretches_kinds f_stretches_others f_stretches_spaces f_stretches_times post n4 x1_25 x2_37)) ∧ (¬ x1_25 ≤ r29 → post x2)))))))))))
def F_X5_firstTooFar (f_demands : Nat → Int32) (v_stretches_stretchCount : Int32) (f_stretches_kinds : Nat → Int32) (f_stretches_others : Nat → Int32) (f_stretches_spaces : Nat → Int32) (f_stretches_times : Nat → Int32) (post : Int32 → Prop) : Prop := (∃ n4 : Nat, L_X5_firstTooFar_4 f_demands v_stretches_stretchCount f_stretches_kinds f_stretches_others f_stretches_spaces f_stretches_times post n4 0 0)
set_option maxHeartbeats 4000000 in
set_option maxRecDepth 100000 in
theorem w_X5_firstTooFar_4 {l : Launch} {D : va_G} {cI cJ cS : ClassId} {ad adK : Nat → Nat} {a_o a_demands a_stretches a_stretches_kinds a_stretches_others a_stretches_spaces a_stretches_times : Nat} {z_cars z_tunes : Value} {v_drawSeed : Int32} {f_demands : Nat → Int32} {v_stretches_stretchCount : Int32} {f_stretches_kinds : Nat → Int32} {f_stretches_others : Nat → Int32} {f_stretches_spaces : Nat → Int32} {f_stretches_times : Nat → Int32} {post : Int32 → Prop} {p : Program} {e : Env} {s : State} {m : MethodId} {args : Array Value} {below : List Frame} {meth : Method} {c : Code} (S : CallFix p m c cX5_firstTooFar 3 s args GW "RoadThatSings$Road") (hE : EN D cI cJ cS s) (hT : ST ad adK nof s s.heap) (hP : va_P D vwCl (wX5_firstTooFar cI cJ cS a_o a_demands a_stretches a_stretches_kinds a_stretches_others a_stretches_spaces a_stretches_times z_cars z_tunes v_drawSeed f_demands v_stretches_stretchCount f_stretches_kinds f_stretches_others f_stretches_spaces f_stretches_times) s.heap) (hS : va_S nof s.heap s.heap []) (hr : meth.sig.returnType = (some (.int))) (hlocks : meth.locks = false) : ∀ n : Nat, ∀ (x1 : Int32) (x2 : Int32) (ls : Array Slot), L_X5_firstTooFar_4 f_demands v_stretches_stretchCount f_stretches_kinds f_stretches_others f_stretches_spaces f_stretches_times post n x1 x2 → lv_has ls 3 [(0, .ref a_o), (1, .int x1), (2, .int x2)] → W p l e (rmd 3 0 0) s m args below meth c s.heap [] 0 0 (MQ below (vp_Si post) args s 0 0 nof) (F0 m 4 ls []) := by
  intro n
  induction n with
  | zero =>
    intro x1 x2 ls h hl
    exact h.elim
  | succ n ih =>
    intro x1 x2 ls h hl
    rw [L_X5_firstTooFar_4] at h
    have hx := S.1
    have hb := S.2.1
    refine lv_iload_n hx hb dX5_firstTooFar_4 rfl (lv_at hl 2 rfl) ?_
    refine lv_aload_n hx hb dX5_firstTooFar_5 rfl (lv_at hl 0 rfl) ?_
    refine gf S hE hP 0 rfl rfl inX5 (k := 0) (by decide) q93 rfl dX5_firstTooFar_6 ?_
    refine ro_i (roV S hE hT hS (c_X7_count h) lkX5_114 rfl ⟨(Nat.le_of_ble_eq_true rfl), (Nat.le_of_ble_eq_true rfl)⟩ (hP.sub [2] rfl) 0 rfl rfl hl.1 rfl (Nat.le_of_ble_eq_true rfl) dX5_firstTooFar_9 ⟨(Nat.zero_le _), (Nat.zero_le _)⟩) (fun r9 h => ?_)
    refine lv_icmp_ge (tgt := 43) hx hb dX5_firstTooFar_12 (by decide) (fun hc => ?_) (fun hc => ?_)
    · have h := h.1 hc
      refine lv_iconst (v := (-1)) hx hb dX5_firstTooFar_43 (by decide) ?_
      exact W.iret hx hb hr (fun t ht _ => ⟨_, rfl, h, ht⟩) (fun _ hq => by cases hq) dX5_firstTooFar_44
    have h := h.2 hc
    refine lv_iload_n hx hb dX5_firstTooFar_15 rfl (lv_at hl 1 rfl) ?_
    refine lv_aload_n hx hb dX5_firstTooFar_16 rfl (lv_at hl 0 rfl) ?_
    refine gf S hE hP 0 rfl rfl inX5 (k := 0) (by decide) q93 rfl dX5_firstTooFar_17 ?_
    refine lv_iload_n hx hb dX5_firstTooFar_20 rfl (lv_at hl 2 rfl) ?_
    refine ro_i (roV S hE hT hS (c_X7_lengthOf h) lkX5_118 rfl ⟨(Nat.le_of_ble_eq_true rfl), (Nat.le_of_ble_eq_true rfl)⟩ (hP.sub [2, 3, 4, 5, 6] rfl) 0 rfl rfl hl.1 rfl (Nat.le_of_ble_eq_true rfl) dX5_firstTooFar_21 ⟨(Nat.zero_le _), (Nat.zero_le _)⟩) (fun r21 h => ?_)
    refine lv_iadd hx hb dX5_firstTooFar_24 ?_
    refine lv_topi (fun x1_25 ex1_25 => ?_)
    have h := h _ ex1_25
    refine lv_istore_n (lv' := [(1, .int x1_25), (0, .ref a_o), (2, .int x2)]) hx hb dX5_firstTooFar_25 rfl hl (by decide) rfl (fun ls hl => ?_)
    refine lv_iload_n hx hb dX5_firstTooFar_26 rfl (lv_at hl 0 rfl) ?_
    refine lv_aload_n hx hb dX5_firstTooFar_27 rfl (lv_at hl 1 rfl) ?_
    refine lv_iconst (v := 0) hx hb dX5_firstTooFar_28 (by decide) ?_
    refine ro_i (roV S hE hT hS (c_X5_asked h) lkX5_104 rfl ⟨(Nat.le_of_ble_eq_true rfl), (Nat.le_of_ble_eq_true rfl)⟩ (hP.sub [0, 1] rfl) 0 rfl rfl hl.1 rfl (Nat.le_of_ble_eq_true rfl) dX5_firstTooFar_29 ⟨(Nat.zero_le _), (Nat.zero_le _)⟩) (fun r29 h => ?_)
    refine lv_icmp_le (tgt := 37) hx hb dX5_firstTooFar_32 (by decide) (fun hc => ?_) (fun hc => ?_)
    · have h := h.1 hc
      obtain ⟨x2_37, ex2_37⟩ : ∃ z : Int32, z = x2 + 1 := ⟨_, rfl⟩
      have h := h _ ex2_37
      refine lv_iinc (v := x2_37) (lv' := [(2, .int x2_37), (1, .int x1_25), (0, .ref a_o)]) hx hb dX5_firstTooFar_37 hl (k := 2) rfl (by rw [ex2_37]; rfl) (by decide) rfl (fun ls hl => ?_)
      refine lv_goto (tgt := 4) hx hb dX5_firstTooFar_40 (by decide) ?_
      exact ih _ _ _ h (lv_sub hl [2, 1, 0] rfl)
    have h := h.2 hc
    refine lv_iload_n hx hb dX5_firstTooFar_35 rfl (lv_at hl 2 rfl) ?_
    exact W.iret hx hb hr (fun t ht _ => ⟨_, rfl, h, ht⟩) (fun _ hq => by cases hq) dX5_firstTooFar_36
set_option maxHeartbeats 4000000 in
set_option maxRecDepth 100000 in
theorem c_X5_firstTooFar {l : Launch} {D : va_G} {cI cJ cS : ClassId} {ad adK : Nat → Nat} {a_o a_demands a_stretches a_stretches_kinds a_stretches_others a_stretches_spaces a_stretches_times : Nat} {z_cars z_tunes : Value} {v_drawSeed : Int32} {f_demands : Nat → Int32} {v_stretches_stretchCount : Int32} {f_stretches_kinds : Nat → Int32} {f_stretches_others : Nat → Int32} {f_stretches_spaces : Nat → Int32} {f_stretches_times : Nat → Int32} {post : Int32 → Prop} (h : F_X5_firstTooFar f_demands v_stretches_stretchCount f_stretches_kinds f_stretches_others f_stretches_spaces f_stretches_times post) : Met l yX5_firstTooFar (Cond.code yX5_firstTooFar cX5_firstTooFar 3 (some (.int)) :: GW) (rmd 3 0 0) (PR D cI cJ cS ad adK [.ref a_o] (wX5_firstTooFar cI cJ cS a_o a_demands a_stretches a_stretches_kinds a_stretches_others a_stretches_spaces a_stretches_times z_cars z_tunes v_drawSeed f_demands v_stretches_stretchCount f_stretches_kinds f_stretches_others f_stretches_spaces f_stretches_times)) (vp_Si post) 0 0 nof := by
  refine Met.ro (by decide) (Nat.le_of_ble_eq_true rfl) (fun p e s m args below meth c ls (S : CallFix p m c cX5_firstTooFar 3 s args GW "RoadThatSings$Road") hE hT hP hS hr hlocks hl => ?_)
  have hx := S.1
  have hb := S.2.1
  have hl : lv_has ls 3 [(0, .ref a_o)] := hl
  unfold F_X5_firstTooFar at h
  refine lv_iconst (v := 0) hx hb dX5_firstTooFar_0 (by decide) ?_
  refine lv_istore_n (lv' := [(1, .int 0), (0, .ref a_o)]) hx hb dX5_firstTooFar_1 rfl hl (by decide) rfl (fun ls hl => ?_)
  refine lv_iconst (v := 0) hx hb dX5_firstTooFar_2 (by decide) ?_
  refine lv_istore_n (lv' := [(2, .int 0), (1, .int 0), (0, .ref a_o)]) hx hb dX5_firstTooFar_3 rfl hl (by decide) rfl (fun ls hl => ?_)
  obtain ⟨n, h⟩ := h
  refine w_X5_firstTooFar_4 S hE hT hP hS hr hlocks n _ _ _ h (lv_sub hl [2, 1, 0] rfl)
/-! X6_holdsRow -/
abbrev wX6_holdsRow (cI cJ cS : ClassId) (a_o : Nat) (z_elements : Value) (v_held : Int32) (v_sort : Int32) (v_elementCount : Int32) (v_stretchNumber : Int32) : va_W := [(a_o, .inr (5, [z_elements, .int v_held, .int v_sort, .int v_elementCount, .int v_stretchNumber]))]
def F_X6_holdsRow (v_held : Int32) (post : Int32 → Prop) : Prop := ((v_held = 1 → post 1) ∧ (¬ v_held = 1 → post 0))
set_option maxHeartbeats 4000000 in
set_option maxRecDepth 100000 in
theorem c_X6_holdsRow {l : Launch} {D : va_G} {cI cJ cS : ClassId} {ad adK : Nat → Nat} {a_o : Nat} {z_elements : Value} {v_held : Int32} {v_sort : Int32} {v_elementCount : Int32} {v_stretchNumber : Int32} {post : Int32 → Prop} (h : F_X6_holdsRow v_held post) : Met l yX6_holdsRow (Cond.code yX6_holdsRow cX6_holdsRow 1 (some (.boolean)) :: GW) (rmd 0 0 0) (PR D cI cJ cS ad adK [.ref a_o] (wX6_holdsRow cI cJ cS a_o z_elements v_held v_sort v_elementCount v_stretchNumber)) (vp_Si post) 0 0 nof := by
  refine Met.ro (by decide) (Nat.le_of_ble_eq_true rfl) (fun p e s m args below meth c ls (S : CallFix p m c cX6_holdsRow 1 s args GW "RoadThatSings$Shelf") hE hT hP hS hr hlocks hl => ?_)
  have hx := S.1
  have hb := S.2.1
  have hl : lv_has ls 1 [(0, .ref a_o)] := hl
  unfold F_X6_holdsRow at h
  refine lv_aload_n hx hb dX6_holdsRow_0 rfl (lv_at hl 0 rfl) ?_
  refine gf S hE hP 0 rfl rfl inX6 (k := 1) (by decide) q165 rfl dX6_holdsRow_1 ?_
  refine lv_iconst (v := 1) hx hb dX6_holdsRow_4 (by decide) ?_
  refine lv_icmp_ne (tgt := 12) hx hb dX6_holdsRow_5 (by decide) (fun hc => ?_) (fun hc => ?_)
  · have h := h.2 hc
    refine lv_iconst (v := 0) hx hb dX6_holdsRow_12 (by decide) ?_
    exact W.zret hx hb hr rfl (fun t ht _ => ⟨_, rfl, h, ht⟩) (fun _ hq => by cases hq) dX6_holdsRow_13
  have h := h.1 hc
  refine lv_iconst (v := 1) hx hb dX6_holdsRow_8 (by decide) ?_
  refine lv_goto (tgt := 13) hx hb dX6_holdsRow_9 (by decide) ?_
  exact W.zret hx hb hr rfl (fun t ht _ => ⟨_, rfl, h, ht⟩) (fun _ hq => by cases hq) dX6_holdsRow_13
/-! X6_holdsStretch -/
abbrev wX6_holdsStretch (cI cJ cS : ClassId) (a_o : Nat) (z_elements : Value) (v_held : Int32) (v_sort : Int32) (v_elementCount : Int32) (v_stretchNumber : Int32) : va_W := [(a_o, .inr (5, [z_elements, .int v_held, .int v_sort, .int v_elementCount, .int v_stretchNumber]))]
def F_X6_holdsStretch (v_held : Int32) (post : Int32 → Prop) : Prop := ((v_held = 2 → post 1) ∧ (¬ v_held = 2 → post 0))
set_option maxHeartbeats 4000000 in
set_option maxRecDepth 100000 in
theorem c_X6_holdsStretch {l : Launch} {D : va_G} {cI cJ cS : ClassId} {ad adK : Nat → Nat} {a_o : Nat} {z_elements : Value} {v_held : Int32} {v_sort : Int32} {v_elementCount : Int32} {v_stretchNumber : Int32} {post : Int32 → Prop} (h : F_X6_holdsStretch v_held post) : Met l yX6_holdsStretch (Cond.code yX6_holdsStretch cX6_holdsStretch 1 (some (.boolean)) :: GW) (rmd 0 0 0) (PR D cI cJ cS ad adK [.ref a_o] (wX6_holdsStretch cI cJ cS a_o z_elements v_held v_sort v_elementCount v_stretchNumber)) (vp_Si post) 0 0 nof := by
  refine Met.ro (by decide) (Nat.le_of_ble_eq_true rfl) (fun p e s m args below meth c ls (S : CallFix p m c cX6_holdsStretch 1 s args GW "RoadThatSings$Shelf") hE hT hP hS hr hlocks hl => ?_)
  have hx := S.1
  have hb := S.2.1
  have hl : lv_has ls 1 [(0, .ref a_o)] := hl
  unfold F_X6_holdsStretch at h
  refine lv_aload_n hx hb dX6_holdsStretch_0 rfl (lv_at hl 0 rfl) ?_
  refine gf S hE hP 0 rfl rfl inX6 (k := 1) (by decide) q165 rfl dX6_holdsStretch_1 ?_
  refine lv_iconst (v := 2) hx hb dX6_holdsStretch_4 (by decide) ?_
  refine lv_icmp_ne (tgt := 12) hx hb dX6_holdsStretch_5 (by decide) (fun hc => ?_) (fun hc => ?_)
  · have h := h.2 hc
    refine lv_iconst (v := 0) hx hb dX6_holdsStretch_12 (by decide) ?_
    exact W.zret hx hb hr rfl (fun t ht _ => ⟨_, rfl, h, ht⟩) (fun _ hq => by cases hq) dX6_holdsStretch_13
  have h := h.1 hc
  refine lv_iconst (v := 1) hx hb dX6_holdsStretch_8 (by decide) ?_
  refine lv_goto (tgt := 13) hx hb dX6_holdsStretch_9 (by decide) ?_
  exact W.zret hx hb hr rfl (fun t ht _ => ⟨_, rfl, h, ht⟩) (fun _ hq => by cases hq) dX6_holdsStretch_13
/-! X6_whatIsHeld -/
abbrev wX6_whatIsHeld (cI cJ cS : ClassId) (a_o : Nat) (z_elements : Value) (v_held : Int32) (v_sort : Int32) (v_elementCount : Int32) (v_stretchNumber : Int32) : va_W := [(a_o, .inr (5, [z_elements, .int v_held, .int v_sort, .int v_elementCount, .int v_stretchNumber]))]
def F_X6_whatIsHeld (v_held : Int32) (v_sort : Int32) (v_stretchNumber : Int32) (post : Int32 → Prop) : Prop := (F_X6_holdsRow v_held (fun r1 => ((r1 = 0 → (F_X6_holdsStretch v_held (fun r16 => ((r16 = 0 → post (-1)) ∧ (¬ r16 = 0 → post v_stretchNumber))))) ∧ (¬ r1 = 0 → post (100 + v_sort)))))
set_option maxHeartbeats 4000000 in
set_option maxRecDepth 100000 in
theorem c_X6_whatIsHeld {l : Launch} {D : va_G} {cI cJ cS : ClassId} {ad adK : Nat → Nat} {a_o : Nat} {z_elements : Value} {v_held : Int32} {v_sort : Int32} {v_elementCount : Int32} {v_stretchNumber : Int32} {post : Int32 → Prop} (h : F_X6_whatIsHeld v_held v_sort v_stretchNumber post) : Met l yX6_whatIsHeld (Cond.code yX6_whatIsHeld cX6_whatIsHeld 1 (some (.int)) :: GW) (rmd 1 0 0) (PR D cI cJ cS ad adK [.ref a_o] (wX6_whatIsHeld cI cJ cS a_o z_elements v_held v_sort v_elementCount v_stretchNumber)) (vp_Si post) 0 0 nof := by
  refine Met.ro (by decide) (Nat.le_of_ble_eq_true rfl) (fun p e s m args below meth c ls (S : CallFix p m c cX6_whatIsHeld 1 s args GW "RoadThatSings$Shelf") hE hT hP hS hr hlocks hl => ?_)
  have hx := S.1
  have hb := S.2.1
  have hl : lv_has ls 1 [(0, .ref a_o)] := hl
  unfold F_X6_whatIsHeld at h
  refine lv_aload_n hx hb dX6_whatIsHeld_0 rfl (lv_at hl 0 rfl) ?_
  refine ro_i (roV S hE hT hS (c_X6_holdsRow h) lkX6_28 rfl ⟨(Nat.le_of_ble_eq_true rfl), (Nat.le_of_ble_eq_true rfl)⟩ (hP.sub [0] rfl) 0 rfl rfl hl.1 rfl (Nat.le_of_ble_eq_true rfl) dX6_whatIsHeld_1 ⟨(Nat.zero_le _), (Nat.zero_le _)⟩) (fun r1 h => ?_)
  refine lv_if_eq (tgt := 15) hx hb dX6_whatIsHeld_4 (by decide) (fun hc => ?_) (fun hc => ?_)
  · have h := h.1 hc
    refine lv_aload_n hx hb dX6_whatIsHeld_15 rfl (lv_at hl 0 rfl) ?_
    refine ro_i (roV S hE hT hS (c_X6_holdsStretch h) lkX6_32 rfl ⟨(Nat.le_of_ble_eq_true rfl), (Nat.le_of_ble_eq_true rfl)⟩ (hP.sub [0] rfl) 0 rfl rfl hl.1 rfl (Nat.le_of_ble_eq_true rfl) dX6_whatIsHeld_16 ⟨(Nat.zero_le _), (Nat.zero_le _)⟩) (fun r16 h => ?_)
    refine lv_if_eq (tgt := 29) hx hb dX6_whatIsHeld_19 (by decide) (fun hc => ?_) (fun hc => ?_)
    · have h := h.1 hc
      refine lv_iconst (v := (-1)) hx hb dX6_whatIsHeld_29 (by decide) ?_
      exact W.iret hx hb hr (fun t ht _ => ⟨_, rfl, h, ht⟩) (fun _ hq => by cases hq) dX6_whatIsHeld_30
    have h := h.2 hc
    refine lv_aload_n hx hb dX6_whatIsHeld_22 rfl (lv_at hl 0 rfl) ?_
    refine gf S hE hP 0 rfl rfl inX6 (k := 4) (by decide) q168 rfl dX6_whatIsHeld_23 ?_
    refine lv_goto (tgt := 30) hx hb dX6_whatIsHeld_26 (by decide) ?_
    exact W.iret hx hb hr (fun t ht _ => ⟨_, rfl, h, ht⟩) (fun _ hq => by cases hq) dX6_whatIsHeld_30
  have h := h.2 hc
  refine lv_bipush (v := 100) hx hb dX6_whatIsHeld_7 (by decide) ?_
  refine lv_aload_n hx hb dX6_whatIsHeld_9 rfl (lv_at hl 0 rfl) ?_
  refine gf S hE hP 0 rfl rfl inX6 (k := 2) (by decide) q166 rfl dX6_whatIsHeld_10 ?_
  refine lv_iadd hx hb dX6_whatIsHeld_13 ?_
  exact W.iret hx hb hr (fun t ht _ => ⟨_, rfl, h, ht⟩) (fun _ hq => by cases hq) dX6_whatIsHeld_14
/-! X6_stretchHeld -/
abbrev wX6_stretchHeld (cI cJ cS : ClassId) (a_o : Nat) (z_elements : Value) (v_held : Int32) (v_sort : Int32) (v_elementCount : Int32) (v_stretchNumber : Int32) : va_W := [(a_o, .inr (5, [z_elements, .int v_held, .int v_sort, .int v_elementCount, .int v_stretchNumber]))]
def F_X6_stretchHeld (v_held : Int32) (v_stretchNumber : Int32) (post : Int32 → Prop) : Prop := (F_X6_holdsStretch v_held (fun r1 => ((r1 = 0 → post (-1)) ∧ (¬ r1 = 0 → post v_stretchNumber))))
set_option maxHeartbeats 4000000 in
set_option maxRecDepth 100000 in
theorem c_X6_stretchHeld {l : Launch} {D : va_G} {cI cJ cS : ClassId} {ad adK : Nat → Nat} {a_o : Nat} {z_elements : Value} {v_held : Int32} {v_sort : Int32} {v_elementCount : Int32} {v_stretchNumber : Int32} {post : Int32 → Prop} (h : F_X6_stretchHeld v_held v_stretchNumber post) : Met l yX6_stretchHeld (Cond.code yX6_stretchHeld cX6_stretchHeld 1 (some (.int)) :: GW) (rmd 1 0 0) (PR D cI cJ cS ad adK [.ref a_o] (wX6_stretchHeld cI cJ cS a_o z_elements v_held v_sort v_elementCount v_stretchNumber)) (vp_Si post) 0 0 nof := by
  refine Met.ro (by decide) (Nat.le_of_ble_eq_true rfl) (fun p e s m args below meth c ls (S : CallFix p m c cX6_stretchHeld 1 s args GW "RoadThatSings$Shelf") hE hT hP hS hr hlocks hl => ?_)
  have hx := S.1
  have hb := S.2.1
  have hl : lv_has ls 1 [(0, .ref a_o)] := hl
  unfold F_X6_stretchHeld at h
  refine lv_aload_n hx hb dX6_stretchHeld_0 rfl (lv_at hl 0 rfl) ?_
  refine ro_i (roV S hE hT hS (c_X6_holdsStretch h) lkX6_32 rfl ⟨(Nat.le_of_ble_eq_true rfl), (Nat.le_of_ble_eq_true rfl)⟩ (hP.sub [0] rfl) 0 rfl rfl hl.1 rfl (Nat.le_of_ble_eq_true rfl) dX6_stretchHeld_1 ⟨(Nat.zero_le _), (Nat.zero_le _)⟩) (fun r1 h => ?_)
  refine lv_if_eq (tgt := 14) hx hb dX6_stretchHeld_4 (by decide) (fun hc => ?_) (fun hc => ?_)
  · have h := h.1 hc
    refine lv_iconst (v := (-1)) hx hb dX6_stretchHeld_14 (by decide) ?_
    exact W.iret hx hb hr (fun t ht _ => ⟨_, rfl, h, ht⟩) (fun _ hq => by cases hq) dX6_stretchHeld_15
  have h := h.2 hc
  refine lv_aload_n hx hb dX6_stretchHeld_7 rfl (lv_at hl 0 rfl) ?_
  refine gf S hE hP 0 rfl rfl inX6 (k := 4) (by decide) q168 rfl dX6_stretchHeld_8 ?_
  refine lv_goto (tgt := 15) hx hb dX6_stretchHeld_11 (by decide) ?_
  exact W.iret hx hb hr (fun t ht _ => ⟨_, rfl, h, ht⟩) (fun _ hq => by cases hq) dX6_stretchHeld_15
/-! X6_isRowUnlike -/
abbrev wX6_isRowUnlike (cI cJ cS : ClassId) (a_o a_p1 : Nat) (z_elements z_p1_elements : Value) (v_held : Int32) (v_sort : Int32) (v_elementCount : Int32) (v_stretchNumber : Int32) (v_p1_held : Int32) (v_p1_sort : Int32) (v_p1_elementCount : Int32) (v_p1_stretchNumber : Int32) : va_W := [(a_o, .inr (5, [z_elements, .int v_held, .int v_sort, .int v_elementCount, .int v_stretchNumber])), (a_p1, .inr (5, [z_p1_elements, .int v_p1_held, .int v_p1_sort, .int v_p1_elementCount, .int v_p1_stretchNumber]))]
def F_X6_isRowUnlike (v_held : Int32) (v_sort : Int32) (v_p1_held : Int32) (v_p1_sort : Int32) (post : Int32 → Prop) : Prop := (F_X6_holdsRow v_held (fun r1 => ((r1 = 0 → post 0) ∧ (¬ r1 = 0 → (F_X6_holdsRow v_p1_held (fun r8 => ((r8 = 0 → post 0) ∧ (¬ r8 = 0 → ((v_sort = v_p1_sort → post 0) ∧ (¬ v_sort = v_p1_sort → post 1))))))))))
set_option maxHeartbeats 4000000 in
set_option maxRecDepth 100000 in
theorem c_X6_isRowUnlike {l : Launch} {D : va_G} {cI cJ cS : ClassId} {ad adK : Nat → Nat} {a_o a_p1 : Nat} {z_elements z_p1_elements : Value} {v_held : Int32} {v_sort : Int32} {v_elementCount : Int32} {v_stretchNumber : Int32} {v_p1_held : Int32} {v_p1_sort : Int32} {v_p1_elementCount : Int32} {v_p1_stretchNumber : Int32} {post : Int32 → Prop} (h : F_X6_isRowUnlike v_held v_sort v_p1_held v_p1_sort post) : Met l yX6_isRowUnlike (Cond.code yX6_isRowUnlike cX6_isRowUnlike 2 (some (.boolean)) :: GW) (rmd 1 0 0) (PR D cI cJ cS ad adK [.ref a_o, .ref a_p1] (wX6_isRowUnlike cI cJ cS a_o a_p1 z_elements z_p1_elements v_held v_sort v_elementCount v_stretchNumber v_p1_held v_p1_sort v_p1_elementCount v_p1_stretchNumber)) (vp_Si post) 0 0 nof := by
  refine Met.ro (by decide) (Nat.le_of_ble_eq_true rfl) (fun p e s m args below meth c ls (S : CallFix p m c cX6_isRowUnlike 2 s args GW "RoadThatSings$Shelf") hE hT hP hS hr hlocks hl => ?_)
  have hx := S.1
  have hb := S.2.1
  have hl : lv_has ls 2 [(0, .ref a_o), (1, .ref a_p1)] := hl
  unfold F_X6_isRowUnlike at h
  refine lv_aload_n hx hb dX6_isRowUnlike_0 rfl (lv_at hl 0 rfl) ?_
  refine ro_i (roV S hE hT hS (c_X6_holdsRow h) lkX6_28 rfl ⟨(Nat.le_of_ble_eq_true rfl), (Nat.le_of_ble_eq_true rfl)⟩ (hP.sub [0] rfl) 0 rfl rfl hl.1 rfl (Nat.le_of_ble_eq_true rfl) dX6_isRowUnlike_1 ⟨(Nat.zero_le _), (Nat.zero_le _)⟩) (fun r1 h => ?_)
  refine lv_if_eq (tgt := 29) hx hb dX6_isRowUnlike_4 (by decide) (fun hc => ?_) (fun hc => ?_)
  · have h := h.1 hc
    refine lv_iconst (v := 0) hx hb dX6_isRowUnlike_29 (by decide) ?_
    exact W.zret hx hb hr rfl (fun t ht _ => ⟨_, rfl, h, ht⟩) (fun _ hq => by cases hq) dX6_isRowUnlike_30
  have h := h.2 hc
  refine lv_aload_n hx hb dX6_isRowUnlike_7 rfl (lv_at hl 1 rfl) ?_
  refine ro_i (roV S hE hT hS (c_X6_holdsRow h) lkX6_28 rfl ⟨(Nat.le_of_ble_eq_true rfl), (Nat.le_of_ble_eq_true rfl)⟩ (hP.sub [1] rfl) 0 rfl rfl hl.1 rfl (Nat.le_of_ble_eq_true rfl) dX6_isRowUnlike_8 ⟨(Nat.zero_le _), (Nat.zero_le _)⟩) (fun r8 h => ?_)
  refine lv_if_eq (tgt := 29) hx hb dX6_isRowUnlike_11 (by decide) (fun hc => ?_) (fun hc => ?_)
  · have h := h.1 hc
    refine lv_iconst (v := 0) hx hb dX6_isRowUnlike_29 (by decide) ?_
    exact W.zret hx hb hr rfl (fun t ht _ => ⟨_, rfl, h, ht⟩) (fun _ hq => by cases hq) dX6_isRowUnlike_30
  have h := h.2 hc
  refine lv_aload_n hx hb dX6_isRowUnlike_14 rfl (lv_at hl 0 rfl) ?_
  refine gf S hE hP 0 rfl rfl inX6 (k := 2) (by decide) q166 rfl dX6_isRowUnlike_15 ?_
  refine lv_aload_n hx hb dX6_isRowUnlike_18 rfl (lv_at hl 1 rfl) ?_
  refine gf S hE hP 1 rfl rfl inX6 (k := 2) (by decide) q166 rfl dX6_isRowUnlike_19 ?_
  refine lv_icmp_eq (tgt := 29) hx hb dX6_isRowUnlike_22 (by decide) (fun hc => ?_) (fun hc => ?_)
  · have h := h.1 hc
    refine lv_iconst (v := 0) hx hb dX6_isRowUnlike_29 (by decide) ?_
    exact W.zret hx hb hr rfl (fun t ht _ => ⟨_, rfl, h, ht⟩) (fun _ hq => by cases hq) dX6_isRowUnlike_30
  have h := h.2 hc
  refine lv_iconst (v := 1) hx hb dX6_isRowUnlike_25 (by decide) ?_
  refine lv_goto (tgt := 30) hx hb dX6_isRowUnlike_26 (by decide) ?_
  exact W.zret hx hb hr rfl (fun t ht _ => ⟨_, rfl, h, ht⟩) (fun _ hq => by cases hq) dX6_isRowUnlike_30
/-! X6_holdNothing -/
abbrev wX6_holdNothing (cI cJ cS : ClassId) (a_o : Nat) (z_elements : Value) (v_held : Int32) (v_sort : Int32) (v_elementCount : Int32) (v_stretchNumber : Int32) : va_W := [(a_o, .inr (5, [z_elements, .int v_held, .int v_sort, .int v_elementCount, .int v_stretchNumber]))]
def F_X6_holdNothing (v_held : Int32) (v_elementCount : Int32) (post : Int32 → Int32 → Prop) : Prop := post 0 0
set_option maxHeartbeats 4000000 in
set_option maxRecDepth 100000 in
theorem c_X6_holdNothing {l : Launch} {D : va_G} {cI cJ cS : ClassId} {ad adK : Nat → Nat} {a_o : Nat} {z_elements : Value} {v_held : Int32} {v_sort : Int32} {v_elementCount : Int32} {v_stretchNumber : Int32} {post : Int32 → Int32 → Prop} (h : F_X6_holdNothing v_held v_elementCount post) {sz : Nat} : Met l yX6_holdNothing (Cond.code yX6_holdNothing cX6_holdNothing 1 none :: GW) (rmd 0 0 0) (PW D cI cJ cS ad adK [.ref a_o] (wX6_holdNothing cI cJ cS a_o z_elements v_held v_sort v_elementCount v_stretchNumber) sz) (va_Qv (fun u : Int32 × Int32 => post u.1 u.2) (fun u t => va_P D vwCl (wX6_holdNothing cI cJ cS a_o z_elements u.1 v_sort u.2 v_stretchNumber) t.heap) (va_A (wX6_holdNothing cI cJ cS a_o z_elements v_held v_sort v_elementCount v_stretchNumber) sz)) 0 0 (va_A (wX6_holdNothing cI cJ cS a_o z_elements v_held v_sort v_elementCount v_stretchNumber) sz) := by
  refine Met.rw (Qc := fun A => (va_Qv (fun u : Int32 × Int32 => post u.1 u.2) (fun u t => va_P D vwCl (wX6_holdNothing cI cJ cS a_o z_elements u.1 v_sort u.2 v_stretchNumber) t.heap) A)) (by decide) (Nat.le_of_ble_eq_true rfl) (fun p e s m args below meth c ls A (S : CallFix p m c cX6_holdNothing 1 s args GW "RoadThatSings$Shelf") hE hT hP hD hA hS hr hlocks hname hl => ?_)
  have hS0 := hS
  have hx := S.1
  have hb := S.2.1
  have hl : lv_has ls 1 [(0, .ref a_o)] := hl
  unfold F_X6_holdNothing at h
  refine lv_aload_n hx hb dX6_holdNothing_0 rfl (lv_at hl 0 rfl) ?_
  refine lv_iconst (v := 0) hx hb dX6_holdNothing_1 (by decide) ?_
  refine pf S hE hP hD hS 0 (k := 1) rfl rfl inX6 tyX6_ok nmX6 (by decide) q165 rfl rfl rfl (Nat.le_of_ble_eq_true rfl) dX6_holdNothing_2 (fun H locs hP hD hS => ?_)
  have hP : va_P D vwCl (wX6_holdNothing cI cJ cS a_o z_elements 0 v_sort v_elementCount v_stretchNumber) H := hP
  have hD : va_D A (wX6_holdNothing cI cJ cS a_o z_elements 0 v_sort v_elementCount v_stretchNumber) := hD
  refine lv_aload_n hx hb dX6_holdNothing_5 rfl (lv_at hl 0 rfl) ?_
  refine lv_iconst (v := 0) hx hb dX6_holdNothing_6 (by decide) ?_
  refine pf S hE hP hD hS 0 (k := 3) rfl rfl inX6 tyX6_ok nmX6 (by decide) q167 rfl rfl rfl (Nat.le_of_ble_eq_true rfl) dX6_holdNothing_7 (fun H locs hP hD hS => ?_)
  have hP : va_P D vwCl (wX6_holdNothing cI cJ cS a_o z_elements 0 v_sort 0 v_stretchNumber) H := hP
  have hD : va_D A (wX6_holdNothing cI cJ cS a_o z_elements 0 v_sort 0 v_stretchNumber) := hD
  exact W.vret hx hb hr (fun t ht _ => ⟨⟨(0, 0), rfl, h, hPt hP ht⟩, hS.F ht⟩) hS.2.2 dX6_holdNothing_10
