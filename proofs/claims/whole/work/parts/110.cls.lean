/-! X8_count -/
abbrev wX8_count (cI cJ cS : ClassId) (a_o : Nat) (z_pitches z_beats z_noteCounts : Value) (v_tuneCount : Int32) : va_W := [(a_o, .inr (7, [z_pitches, z_beats, z_noteCounts, .int v_tuneCount]))]
def F_X8_count (v_tuneCount : Int32) (post : Int32 → Prop) : Prop := post v_tuneCount
set_option maxHeartbeats 4000000 in
set_option maxRecDepth 100000 in
theorem c_X8_count {l : Launch} {D : va_G} {cI cJ cS : ClassId} {ad adK : Nat → Nat} {a_o : Nat} {z_pitches z_beats z_noteCounts : Value} {v_tuneCount : Int32} {post : Int32 → Prop} (h : F_X8_count v_tuneCount post) : Met l yX8_count (Cond.code yX8_count cX8_count 1 (some (.int)) :: GW) (rmd 0 0 0) (PR D cI cJ cS ad adK [.ref a_o] (wX8_count cI cJ cS a_o z_pitches z_beats z_noteCounts v_tuneCount)) (vp_Si post) 0 0 nof := by
  refine Met.ro (by decide) (Nat.le_of_ble_eq_true rfl) (fun p e s m args below meth c ls (S : CallFix p m c cX8_count 1 s args GW "RoadThatSings$Tunes") hE hT hP hS hr hlocks hl => ?_)
  have hx := S.1
  have hb := S.2.1
  have hl : lv_has ls 1 [(0, .ref a_o)] := hl
  unfold F_X8_count at h
  refine lv_aload_n hx hb dX8_count_0 rfl (lv_at hl 0 rfl) ?_
  refine gf S hE hP 0 rfl rfl inX8 (k := 3) (by decide) q83 rfl dX8_count_1 ?_
  exact W.iret hx hb hr (fun t ht _ => ⟨_, rfl, h, ht⟩) (fun _ hq => by cases hq) dX8_count_4
/-! X8_beatsAhead -/
abbrev wX8_beatsAhead (cI cJ cS : ClassId) (a_o a_beats a_noteCounts : Nat) (z_pitches : Value) (v_tuneCount : Int32) (f_beats : Nat → Int32) (f_noteCounts : Nat → Int32) : va_W := [(a_o, .inr (7, [z_pitches, .ref a_beats, .ref a_noteCounts, .int v_tuneCount])), (a_beats, .inl (cI, 72, .inl f_beats)), (a_noteCounts, .inl (cI, 6, .inl f_noteCounts))]
def L_X8_beatsAhead_5 (v_tuneCount : Int32) (f_beats : Nat → Int32) (f_noteCounts : Nat → Int32) (x1 : Int32) (x2 : Int32) (post : Int32 → Prop) : Nat → Int32 → Int32 → Prop
  | 0, _, _ => False
  | n5 + 1, x3, x4 => ((x2 ≤ x4 → post x3) ∧ (¬ x2 ≤ x4 → ((12 ≤ x4 → post x3) ∧ (¬ 12 ≤ x4 → (F_X8_beatsOf v_tuneCount f_beats f_noteCounts x1 x4 (fun r23 => (∀ x3_27 : Int32, x3_27 = x3 + r23 → (∀ x4_28 : Int32, x4_28 = x4 + 1 → L_X8_beatsAhead_5 v_tuneCount f_beats f_noteCounts x1 x2 post n5 x3_27 x4_28))))))))
def F_X8_beatsAhead (v_tuneCount : Int32) (f_beats : Nat → Int32) (f_noteCounts : Nat → Int32) (x1 : Int32) (x2 : Int32) (post : Int32 → Prop) : Prop := (∃ n5 : Nat, L_X8_beatsAhead_5 v_tuneCount f_beats f_noteCounts x1 x2 post n5 0 0)
set_option maxHeartbeats 4000000 in
set_option maxRecDepth 100000 in
theorem w_X8_beatsAhead_5 {l : Launch} {D : va_G} {cI cJ cS : ClassId} {ad adK : Nat → Nat} {a_o a_beats a_noteCounts : Nat} {z_pitches : Value} {v_tuneCount : Int32} {f_beats : Nat → Int32} {f_noteCounts : Nat → Int32} {x1 : Int32} {x2 : Int32} {post : Int32 → Prop} {p : Program} {e : Env} {s : State} {m : MethodId} {args : Array Value} {below : List Frame} {meth : Method} {c : Code} (S : CallFix p m c cX8_beatsAhead 5 s args GW "RoadThatSings$Tunes") (hE : EN D cI cJ cS s) (hT : ST ad adK nof s s.heap) (hP : va_P D vwCl (wX8_beatsAhead cI cJ cS a_o a_beats a_noteCounts z_pitches v_tuneCount f_beats f_noteCounts) s.heap) (hS : va_S nof s.heap s.heap []) (hr : meth.sig.returnType = (some (.int))) (hlocks : meth.locks = false) : ∀ n : Nat, ∀ (x3 : Int32) (x4 : Int32) (ls : Array Slot), L_X8_beatsAhead_5 v_tuneCount f_beats f_noteCounts x1 x2 post n x3 x4 → lv_has ls 5 [(0, .ref a_o), (1, .int x1), (2, .int x2), (3, .int x3), (4, .int x4)] → W p l e (rmd 3 0 0) s m args below meth c s.heap [] 0 0 (MQ below (vp_Si post) args s 0 0 nof) (F0 m 5 ls []) := by
  intro n
  induction n with
  | zero =>
    intro x3 x4 ls h hl
    exact h.elim
  | succ n ih =>
    intro x3 x4 ls h hl
    rw [L_X8_beatsAhead_5] at h
    have hx := S.1
    have hb := S.2.1
    refine lv_iload hx hb dX8_beatsAhead_5 (lv_at hl 4 rfl) ?_
    refine lv_iload_n hx hb dX8_beatsAhead_7 rfl (lv_at hl 2 rfl) ?_
    refine lv_icmp_ge (tgt := 34) hx hb dX8_beatsAhead_8 (by decide) (fun hc => ?_) (fun hc => ?_)
    · have h := h.1 hc
      refine lv_iload_n hx hb dX8_beatsAhead_34 rfl (lv_at hl 3 rfl) ?_
      exact W.iret hx hb hr (fun t ht _ => ⟨_, rfl, h, ht⟩) (fun _ hq => by cases hq) dX8_beatsAhead_35
    have h := h.2 hc
    refine lv_iload hx hb dX8_beatsAhead_11 (lv_at hl 4 rfl) ?_
    refine lv_bipush (v := 12) hx hb dX8_beatsAhead_13 (by decide) ?_
    refine lv_icmp_ge (tgt := 34) hx hb dX8_beatsAhead_15 (by decide) (fun hc => ?_) (fun hc => ?_)
    · have h := h.1 hc
      refine lv_iload_n hx hb dX8_beatsAhead_34 rfl (lv_at hl 3 rfl) ?_
      exact W.iret hx hb hr (fun t ht _ => ⟨_, rfl, h, ht⟩) (fun _ hq => by cases hq) dX8_beatsAhead_35
    have h := h.2 hc
    refine lv_iload_n hx hb dX8_beatsAhead_18 rfl (lv_at hl 3 rfl) ?_
    refine lv_aload_n hx hb dX8_beatsAhead_19 rfl (lv_at hl 0 rfl) ?_
    refine lv_iload_n hx hb dX8_beatsAhead_20 rfl (lv_at hl 1 rfl) ?_
    refine lv_iload hx hb dX8_beatsAhead_21 (lv_at hl 4 rfl) ?_
    refine ro_i (roV S hE hT hS (c_X8_beatsOf h) lkX8_47 rfl ⟨(Nat.le_of_ble_eq_true rfl), (Nat.le_of_ble_eq_true rfl)⟩ (hP.sub [0, 1, 2] rfl) 0 rfl rfl hl.1 rfl (Nat.le_of_ble_eq_true rfl) dX8_beatsAhead_23 ⟨(Nat.zero_le _), (Nat.zero_le _)⟩) (fun r23 h => ?_)
    refine lv_iadd hx hb dX8_beatsAhead_26 ?_
    refine lv_topi (fun x3_27 ex3_27 => ?_)
    have h := h _ ex3_27
    refine lv_istore_n (lv' := [(3, .int x3_27), (0, .ref a_o), (1, .int x1), (2, .int x2), (4, .int x4)]) hx hb dX8_beatsAhead_27 rfl hl (by decide) rfl (fun ls hl => ?_)
    obtain ⟨x4_28, ex4_28⟩ : ∃ z : Int32, z = x4 + 1 := ⟨_, rfl⟩
    have h := h _ ex4_28
    refine lv_iinc (v := x4_28) (lv' := [(4, .int x4_28), (3, .int x3_27), (0, .ref a_o), (1, .int x1), (2, .int x2)]) hx hb dX8_beatsAhead_28 hl (k := 4) rfl (by rw [ex4_28]; rfl) (by decide) rfl (fun ls hl => ?_)
    refine lv_goto (tgt := 5) hx hb dX8_beatsAhead_31 (by decide) ?_
    exact ih _ _ _ h (lv_sub hl [2, 3, 4, 1, 0] rfl)
set_option maxHeartbeats 4000000 in
set_option maxRecDepth 100000 in
theorem c_X8_beatsAhead {l : Launch} {D : va_G} {cI cJ cS : ClassId} {ad adK : Nat → Nat} {a_o a_beats a_noteCounts : Nat} {z_pitches : Value} {v_tuneCount : Int32} {f_beats : Nat → Int32} {f_noteCounts : Nat → Int32} {x1 : Int32} {x2 : Int32} {post : Int32 → Prop} (h : F_X8_beatsAhead v_tuneCount f_beats f_noteCounts x1 x2 post) : Met l yX8_beatsAhead (Cond.code yX8_beatsAhead cX8_beatsAhead 5 (some (.int)) :: GW) (rmd 3 0 0) (PR D cI cJ cS ad adK [.ref a_o, .int x1, .int x2] (wX8_beatsAhead cI cJ cS a_o a_beats a_noteCounts z_pitches v_tuneCount f_beats f_noteCounts)) (vp_Si post) 0 0 nof := by
  refine Met.ro (by decide) (Nat.le_of_ble_eq_true rfl) (fun p e s m args below meth c ls (S : CallFix p m c cX8_beatsAhead 5 s args GW "RoadThatSings$Tunes") hE hT hP hS hr hlocks hl => ?_)
  have hx := S.1
  have hb := S.2.1
  have hl : lv_has ls 5 [(0, .ref a_o), (1, .int x1), (2, .int x2)] := hl
  unfold F_X8_beatsAhead at h
  refine lv_iconst (v := 0) hx hb dX8_beatsAhead_0 (by decide) ?_
  refine lv_istore_n (lv' := [(3, .int 0), (0, .ref a_o), (1, .int x1), (2, .int x2)]) hx hb dX8_beatsAhead_1 rfl hl (by decide) rfl (fun ls hl => ?_)
  refine lv_iconst (v := 0) hx hb dX8_beatsAhead_2 (by decide) ?_
  refine lv_istore (lv' := [(4, .int 0), (3, .int 0), (0, .ref a_o), (1, .int x1), (2, .int x2)]) hx hb dX8_beatsAhead_3 hl (by decide) rfl (fun ls hl => ?_)
  obtain ⟨n, h⟩ := h
  refine w_X8_beatsAhead_5 S hE hT hP hS hr hlocks n _ _ _ h (lv_sub hl [2, 3, 4, 1, 0] rfl)
/-! X9_shelfAt -/
abbrev wX9_shelfAt (cI cJ cS : ClassId) (a_o a_shelves : Nat) (z_road z_kept z_ahead z_cutting z_acting z_refused : Value) (sa : Nat → Nat) (v_imaged : Int32) (v_lastFault : Int32) : va_W := [(a_o, .inr (8, [z_road, z_kept, z_ahead, .ref a_shelves, z_cutting, z_acting, z_refused, .int v_imaged, .int v_lastFault])), (a_shelves, .inl (cS, 8, .inr (.inr (.inr (.inr (fun k => some (sa k)))))))]
def F_X9_shelfAt (x1 : Int32) (k0 : Prop) (k1 : Nat → Prop) : Prop := (F_X9_within x1 0 7 (fun r4 => ((r4 = 0 → k0) ∧ (¬ r4 = 0 → (vp_in x1 8 ∧ k1 x1.toNatClampNeg)))))
set_option maxHeartbeats 4000000 in
set_option maxRecDepth 100000 in
theorem c_X9_shelfAt {l : Launch} {D : va_G} {cI cJ cS : ClassId} {ad adK : Nat → Nat} {a_o a_shelves : Nat} {z_road z_kept z_ahead z_cutting z_acting z_refused : Value} {sa : Nat → Nat} {v_imaged : Int32} {v_lastFault : Int32} {x1 : Int32} {k0 : Prop} {k1 : Nat → Prop} (h : F_X9_shelfAt x1 k0 k1) : Met l yX9_shelfAt (Cond.code yX9_shelfAt cX9_shelfAt 2 (some (.object "RoadThatSings$Shelf")) :: GW) (rmd 1 0 0) (PR D cI cJ cS ad adK [.ref a_o, .int x1] (wX9_shelfAt cI cJ cS a_o a_shelves z_road z_kept z_ahead z_cutting z_acting z_refused sa v_imaged v_lastFault)) (va_Sq (fun r => (r = none ∧ k0) ∨ ∃ j, j < 8 ∧ r = some (sa j) ∧ k1 j)) 0 0 nof := by
  refine Met.ro (by decide) (Nat.le_of_ble_eq_true rfl) (fun p e s m args below meth c ls (S : CallFix p m c cX9_shelfAt 2 s args GW "RoadThatSings") hE hT hP hS hr hlocks hl => ?_)
  have hx := S.1
  have hb := S.2.1
  have hl : lv_has ls 2 [(0, .ref a_o), (1, .int x1)] := hl
  unfold F_X9_shelfAt at h
  refine lv_iload_n hx hb dX9_shelfAt_0 rfl (lv_at hl 1 rfl) ?_
  refine lv_iconst (v := 0) hx hb dX9_shelfAt_1 (by decide) ?_
  refine lv_bipush (v := 7) hx hb dX9_shelfAt_2 (by decide) ?_
  refine ro_i (roS S hE hT hS (c_X9_within h) lkX9_63 rfl ⟨(Nat.le_of_ble_eq_true rfl), (Nat.le_of_ble_eq_true rfl)⟩ (hP.sub [] rfl) hl.1 rfl (Nat.le_of_ble_eq_true rfl) dX9_shelfAt_4 ⟨(Nat.zero_le _), (Nat.zero_le _)⟩) (fun r4 h => ?_)
  refine lv_if_eq (tgt := 19) hx hb dX9_shelfAt_7 (by decide) (fun hc => ?_) (fun hc => ?_)
  · have h := h.1 hc
    refine lv_null hx hb dX9_shelfAt_19 ?_
    exact W.aret hx hb hr (Or.inl ⟨_, rfl⟩) (Or.inl rfl) (fun t ht _ => ⟨none, rfl, Or.inl ⟨rfl, h⟩, ht⟩) (fun _ hq => by cases hq) dX9_shelfAt_20
  have h := h.2 hc
  refine lv_aload_n hx hb dX9_shelfAt_10 rfl (lv_at hl 0 rfl) ?_
  refine gf S hE hP 0 rfl rfl inX9 (k := 3) (by decide) q184 rfl dX9_shelfAt_11 ?_
  refine lv_iload_n hx hb dX9_shelfAt_14 rfl (lv_at hl 1 rfl) ?_
  obtain ⟨hi, h⟩ := h
  refine aalS S hE hP 1 rfl hi dX9_shelfAt_15 ?_
  refine lv_goto (tgt := 20) hx hb dX9_shelfAt_16 (by decide) ?_
  exact W.aret hx hb hr (Or.inl ⟨_, rfl⟩) (Or.inr ⟨_, rfl⟩) (fun t ht _ => ⟨some _, rfl, Or.inr ⟨_, Nat.not_le.mp (fun q => hi (Or.inr q)), rfl, h⟩, ht⟩) (fun _ hq => by cases hq) dX9_shelfAt_20
/-! X9_refuseAs -/
abbrev wX9_refuseAs (cI cJ cS : ClassId) (a_o a_refused : Nat) (z_road z_kept z_ahead z_shelves z_cutting z_acting : Value) (v_imaged : Int32) (v_lastFault : Int32) (f_refused : Nat → Int32) : va_W := [(a_o, .inr (8, [z_road, z_kept, z_ahead, z_shelves, z_cutting, z_acting, .ref a_refused, .int v_imaged, .int v_lastFault])), (a_refused, .inl (cI, 8, .inl f_refused))]
def F_X9_refuseAs (f_refused : Nat → Int32) (x1 : Int32) (x2 : Int32) (post : Int32 → (Nat → Int32) → Prop) : Prop := (F_X9_within x1 (-7) (-1) (fun r4 => ((r4 = 0 → post x2 f_refused) ∧ (¬ r4 = 0 → (vp_in (-x1) 8 ∧ (vp_in (-x1) 8 ∧ post x2 (upd f_refused (-x1).toNatClampNeg ((f_refused (-x1).toNatClampNeg) + 1))))))))
set_option maxHeartbeats 4000000 in
set_option maxRecDepth 100000 in
theorem c_X9_refuseAs {l : Launch} {D : va_G} {cI cJ cS : ClassId} {ad adK : Nat → Nat} {a_o a_refused : Nat} {z_road z_kept z_ahead z_shelves z_cutting z_acting : Value} {v_imaged : Int32} {v_lastFault : Int32} {f_refused : Nat → Int32} {x1 : Int32} {x2 : Int32} {post : Int32 → (Nat → Int32) → Prop} (h : F_X9_refuseAs f_refused x1 x2 post) {sz : Nat} : Met l yX9_refuseAs (Cond.code yX9_refuseAs cX9_refuseAs 3 (some (.int)) :: GW) (rmd 1 0 0) (PW D cI cJ cS ad adK [.ref a_o, .int x1, .int x2] (wX9_refuseAs cI cJ cS a_o a_refused z_road z_kept z_ahead z_shelves z_cutting z_acting v_imaged v_lastFault f_refused) sz) (va_Qi (fun r (u : (Nat → Int32)) => post r u) (fun u t => va_P D vwCl (wX9_refuseAs cI cJ cS a_o a_refused z_road z_kept z_ahead z_shelves z_cutting z_acting v_imaged v_lastFault u) t.heap) (va_A (wX9_refuseAs cI cJ cS a_o a_refused z_road z_kept z_ahead z_shelves z_cutting z_acting v_imaged v_lastFault f_refused) sz)) 0 0 (va_A (wX9_refuseAs cI cJ cS a_o a_refused z_road z_kept z_ahead z_shelves z_cutting z_acting v_imaged v_lastFault f_refused) sz) := by
  refine Met.rw (Qc := fun A => (va_Qi (fun r (u : (Nat → Int32)) => post r u) (fun u t => va_P D vwCl (wX9_refuseAs cI cJ cS a_o a_refused z_road z_kept z_ahead z_shelves z_cutting z_acting v_imaged v_lastFault u) t.heap) A)) (by decide) (Nat.le_of_ble_eq_true rfl) (fun p e s m args below meth c ls A (S : CallFix p m c cX9_refuseAs 3 s args GW "RoadThatSings") hE hT hP hD hA hS hr hlocks hname hl => ?_)
  have hS0 := hS
  have hx := S.1
  have hb := S.2.1
  have hl : lv_has ls 3 [(0, .ref a_o), (1, .int x1), (2, .int x2)] := hl
  unfold F_X9_refuseAs at h
  refine lv_iload_n hx hb dX9_refuseAs_0 rfl (lv_at hl 1 rfl) ?_
  refine lv_bipush (v := (-7)) hx hb dX9_refuseAs_1 (by decide) ?_
  refine lv_iconst (v := (-1)) hx hb dX9_refuseAs_3 (by decide) ?_
  refine ro_i (roS S hE hT hS (c_X9_within h) lkX9_63 rfl ⟨(Nat.le_of_ble_eq_true rfl), (Nat.le_of_ble_eq_true rfl)⟩ (hP.sub [] rfl) hl.1 rfl (Nat.le_of_ble_eq_true rfl) dX9_refuseAs_4 ⟨(Nat.zero_le _), (Nat.zero_le _)⟩) (fun r4 h => ?_)
  refine lv_if_eq (tgt := 21) hx hb dX9_refuseAs_7 (by decide) (fun hc => ?_) (fun hc => ?_)
  · have h := h.1 hc
    refine lv_iload_n hx hb dX9_refuseAs_21 rfl (lv_at hl 2 rfl) ?_
    exact W.iret hx hb hr (fun t ht _ => ⟨⟨_, f_refused, rfl, h, hPt hP ht⟩, hS.F ht⟩) hS.2.2 dX9_refuseAs_22
  have h := h.2 hc
  refine lv_aload_n hx hb dX9_refuseAs_10 rfl (lv_at hl 0 rfl) ?_
  refine gf S hE hP 0 rfl rfl inX9 (k := 6) (by decide) q187 rfl dX9_refuseAs_11 ?_
  refine lv_iload_n hx hb dX9_refuseAs_14 rfl (lv_at hl 1 rfl) ?_
  refine lv_ineg hx hb dX9_refuseAs_15 ?_
  refine lv_dup2_11 hx hb dX9_refuseAs_16 rfl rfl ?_
  obtain ⟨hi, h⟩ := h
  refine ial S hE hP 1 rfl hi dX9_refuseAs_17 ?_
  refine lv_iconst (v := 1) hx hb dX9_refuseAs_18 (by decide) ?_
  refine lv_iadd hx hb dX9_refuseAs_19 ?_
  obtain ⟨hi, h⟩ := h
  refine ias S hE hP hD hS 1 rfl hi dX9_refuseAs_20 (fun H locs hP hD hS => ?_)
  have hP : va_P D vwCl (wX9_refuseAs cI cJ cS a_o a_refused z_road z_kept z_ahead z_shelves z_cutting z_acting v_imaged v_lastFault (upd f_refused (-x1).toNatClampNeg ((f_refused (-x1).toNatClampNeg) + 1))) H := hP
  have hD : va_D A (wX9_refuseAs cI cJ cS a_o a_refused z_road z_kept z_ahead z_shelves z_cutting z_acting v_imaged v_lastFault (upd f_refused (-x1).toNatClampNeg ((f_refused (-x1).toNatClampNeg) + 1))) := hD
  refine lv_iload_n hx hb dX9_refuseAs_21 rfl (lv_at hl 2 rfl) ?_
  exact W.iret hx hb hr (fun t ht _ => ⟨⟨_, (upd f_refused (-x1).toNatClampNeg ((f_refused (-x1).toNatClampNeg) + 1)), rfl, h, hPt hP ht⟩, hS.F ht⟩) hS.2.2 dX9_refuseAs_22
/-! X9_refuse -/
abbrev wX9_refuse (cI cJ cS : ClassId) (a_o a_refused : Nat) (z_road z_kept z_ahead z_shelves z_cutting z_acting : Value) (v_imaged : Int32) (v_lastFault : Int32) (f_refused : Nat → Int32) : va_W := [(a_o, .inr (8, [z_road, z_kept, z_ahead, z_shelves, z_cutting, z_acting, .ref a_refused, .int v_imaged, .int v_lastFault])), (a_refused, .inl (cI, 8, .inl f_refused))]
def F_X9_refuse (f_refused : Nat → Int32) (x1 : Int32) (post : Int32 → (Nat → Int32) → Prop) : Prop := (F_X9_refuseAs f_refused x1 x1 (fun r3 w3_0 => post r3 w3_0))
set_option maxHeartbeats 4000000 in
set_option maxRecDepth 100000 in
theorem c_X9_refuse {l : Launch} {D : va_G} {cI cJ cS : ClassId} {ad adK : Nat → Nat} {a_o a_refused : Nat} {z_road z_kept z_ahead z_shelves z_cutting z_acting : Value} {v_imaged : Int32} {v_lastFault : Int32} {f_refused : Nat → Int32} {x1 : Int32} {post : Int32 → (Nat → Int32) → Prop} (h : F_X9_refuse f_refused x1 post) {sz : Nat} : Met l yX9_refuse (Cond.code yX9_refuse cX9_refuse 2 (some (.int)) :: GW) (rmd 2 0 0) (PW D cI cJ cS ad adK [.ref a_o, .int x1] (wX9_refuse cI cJ cS a_o a_refused z_road z_kept z_ahead z_shelves z_cutting z_acting v_imaged v_lastFault f_refused) sz) (va_Qi (fun r (u : (Nat → Int32)) => post r u) (fun u t => va_P D vwCl (wX9_refuse cI cJ cS a_o a_refused z_road z_kept z_ahead z_shelves z_cutting z_acting v_imaged v_lastFault u) t.heap) (va_A (wX9_refuse cI cJ cS a_o a_refused z_road z_kept z_ahead z_shelves z_cutting z_acting v_imaged v_lastFault f_refused) sz)) 0 0 (va_A (wX9_refuse cI cJ cS a_o a_refused z_road z_kept z_ahead z_shelves z_cutting z_acting v_imaged v_lastFault f_refused) sz) := by
  refine Met.rw (Qc := fun A => (va_Qi (fun r (u : (Nat → Int32)) => post r u) (fun u t => va_P D vwCl (wX9_refuse cI cJ cS a_o a_refused z_road z_kept z_ahead z_shelves z_cutting z_acting v_imaged v_lastFault u) t.heap) A)) (by decide) (Nat.le_of_ble_eq_true rfl) (fun p e s m args below meth c ls A (S : CallFix p m c cX9_refuse 2 s args GW "RoadThatSings") hE hT hP hD hA hS hr hlocks hname hl => ?_)
  have hS0 := hS
  have hx := S.1
  have hb := S.2.1
  have hl : lv_has ls 2 [(0, .ref a_o), (1, .int x1)] := hl
  unfold F_X9_refuse at h
  refine lv_aload_n hx hb dX9_refuse_0 rfl (lv_at hl 0 rfl) ?_
  refine lv_iload_n hx hb dX9_refuse_1 rfl (lv_at hl 1 rfl) ?_
  refine lv_iload_n hx hb dX9_refuse_2 rfl (lv_at hl 1 rfl) ?_
  refine rw_i (rwV S hE hT hS hP hD hA (c_X9_refuseAs h) [0, 1] rfl (by decide +kernel) lkX9_351 rfl ⟨(Nat.le_of_ble_eq_true rfl), (Nat.le_of_ble_eq_true rfl)⟩ 0 rfl rfl hl.1 rfl (Nat.le_of_ble_eq_true rfl) dX9_refuse_3 ⟨(Nat.zero_le _), (Nat.zero_le _)⟩) hP hD hS hA [0, 1] rfl (by decide +kernel) (fun _ => rfl) (fun r3 w3_0 H locs h hP hD hS => ?_)
  try dsimp only at h
  have hP : va_P D vwCl (wX9_refuse cI cJ cS a_o a_refused z_road z_kept z_ahead z_shelves z_cutting z_acting v_imaged v_lastFault w3_0) H := hP
  have hD : va_D A (wX9_refuse cI cJ cS a_o a_refused z_road z_kept z_ahead z_shelves z_cutting z_acting v_imaged v_lastFault w3_0) := hD
  exact W.iret hx hb hr (fun t ht _ => ⟨⟨_, w3_0, rfl, h, hPt hP ht⟩, hS.F ht⟩) hS.2.2 dX9_refuse_6
/-! X9_row -/
abbrev wX9_row (cI cJ cS : ClassId) (a_o a_refused a_shelves : Nat) (z_road z_kept z_ahead z_cutting z_acting : Value) (sa ea : Nat → Nat) (v_imaged : Int32) (v_lastFault : Int32) (f_refused : Nat → Int32) (f_sh_held : Nat → Int32) (f_sh_sort : Nat → Int32) (f_sh_cnt : Nat → Int32) (f_sh_num : Nat → Int32) (g_sh_el : Nat → Nat → Int64) : va_W := [(a_o, .inr (8, [z_road, z_kept, z_ahead, .ref a_shelves, z_cutting, z_acting, .ref a_refused, .int v_imaged, .int v_lastFault])), (a_refused, .inl (cI, 8, .inl f_refused)), (a_shelves, .inl (cS, 8, .inr (.inr (.inr (.inr (fun k => some (sa k)))))))] ++ shW sa ea cJ f_sh_held f_sh_sort f_sh_cnt f_sh_num g_sh_el
def F_X9_row (f_refused : Nat → Int32) (f_sh_held : Nat → Int32) (f_sh_sort : Nat → Int32) (f_sh_cnt : Nat → Int32) (g_sh_el : Nat → Nat → Int64) (x1 : Int32) (x2 : Int32) (x3 : Int32) (post : Int32 → (Nat → Int32) → (Nat → Int32) → (Nat → Int32) → (Nat → Int32) → (Nat → Nat → Int64) → Prop) : Prop := (F_X9_shelfAt x1 ((F_X9_refuse f_refused (-1) (fun r14 w14_0 => post r14 w14_0 f_sh_held f_sh_sort f_sh_cnt g_sh_el))) (fun j2 => ((0 ≤ x3 → (F_X9_within x2 0 3 (fun r32 => ((r32 = 0 → (F_X9_refuse f_refused (-6) (fun r41 w41_0 => post r41 w41_0 f_sh_held f_sh_sort f_sh_cnt g_sh_el))) ∧ (¬ r32 = 0 → ((x3 ≤ 160 → (F_X6_holdRow (f_sh_held j2) (f_sh_sort j2) (f_sh_cnt j2) (g_sh_el j2) x2 x3 (fun w63_0 w63_1 w63_2 w63_3 => post 1 f_refused (va_up f_sh_held j2 w63_0) (va_up f_sh_sort j2 w63_1) (va_up f_sh_cnt j2 w63_2) (va_up g_sh_el j2 w63_3)))) ∧ (¬ x3 ≤ 160 → (F_X9_refuse f_refused (-7) (fun r55 w55_0 => post r55 w55_0 f_sh_held f_sh_sort f_sh_cnt g_sh_el))))))))) ∧ (¬ 0 ≤ x3 → (F_X9_refuse f_refused (-4) (fun r25 w25_0 => post r25 w25_0 f_sh_held f_sh_sort f_sh_cnt g_sh_el))))))
set_option maxHeartbeats 4000000 in
set_option maxRecDepth 100000 in
theorem c_X9_row {l : Launch} {D : va_G} {cI cJ cS : ClassId} {ad adK : Nat → Nat} {a_o a_refused a_shelves : Nat} {z_road z_kept z_ahead z_cutting z_acting : Value} {sa ea : Nat → Nat} {v_imaged : Int32} {v_lastFault : Int32} {f_refused : Nat → Int32} {f_sh_held : Nat → Int32} {f_sh_sort : Nat → Int32} {f_sh_cnt : Nat → Int32} {f_sh_num : Nat → Int32} {g_sh_el : Nat → Nat → Int64} {x1 : Int32} {x2 : Int32} {x3 : Int32} {post : Int32 → (Nat → Int32) → (Nat → Int32) → (Nat → Int32) → (Nat → Int32) → (Nat → Nat → Int64) → Prop} (h : F_X9_row f_refused f_sh_held f_sh_sort f_sh_cnt g_sh_el x1 x2 x3 post) {sz : Nat} : Met l yX9_row (Cond.code yX9_row cX9_row 5 (some (.int)) :: GW) (rmd 3 0 0) (PW D cI cJ cS ad adK [.ref a_o, .int x1, .int x2, .int x3] (wX9_row cI cJ cS a_o a_refused a_shelves z_road z_kept z_ahead z_cutting z_acting sa ea v_imaged v_lastFault f_refused f_sh_held f_sh_sort f_sh_cnt f_sh_num g_sh_el) sz) (va_Qi (fun r (u : (Nat → Int32) × (Nat → Int32) × (Nat → Int32) × (Nat → Int32) × (Nat → Nat → Int64)) => post r u.1 u.2.1 u.2.2.1 u.2.2.2.1 u.2.2.2.2) (fun u t => va_P D vwCl (wX9_row cI cJ cS a_o a_refused a_shelves z_road z_kept z_ahead z_cutting z_acting sa ea v_imaged v_lastFault u.1 u.2.1 u.2.2.1 u.2.2.2.1 f_sh_num u.2.2.2.2) t.heap) (va_A (wX9_row cI cJ cS a_o a_refused a_shelves z_road z_kept z_ahead z_cutting z_acting sa ea v_imaged v_lastFault f_refused f_sh_held f_sh_sort f_sh_cnt f_sh_num g_sh_el) sz)) 0 0 (va_A (wX9_row cI cJ cS a_o a_refused a_shelves z_road z_kept z_ahead z_cutting z_acting sa ea v_imaged v_lastFault f_refused f_sh_held f_sh_sort f_sh_cnt f_sh_num g_sh_el) sz) := by
  refine Met.rw (Qc := fun A => (va_Qi (fun r (u : (Nat → Int32) × (Nat → Int32) × (Nat → Int32) × (Nat → Int32) × (Nat → Nat → Int64)) => post r u.1 u.2.1 u.2.2.1 u.2.2.2.1 u.2.2.2.2) (fun u t => va_P D vwCl (wX9_row cI cJ cS a_o a_refused a_shelves z_road z_kept z_ahead z_cutting z_acting sa ea v_imaged v_lastFault u.1 u.2.1 u.2.2.1 u.2.2.2.1 f_sh_num u.2.2.2.2) t.heap) A)) (by decide) (Nat.le_of_ble_eq_true rfl) (fun p e s m args below meth c ls A (S : CallFix p m c cX9_row 5 s args GW "RoadThatSings") hE hT hP hD hA hS hr hlocks hname hl => ?_)
  have hS0 := hS
  have hx := S.1
  have hb := S.2.1
  have hl : lv_has ls 5 [(0, .ref a_o), (1, .int x1), (2, .int x2), (3, .int x3)] := hl
  unfold F_X9_row at h
  refine lv_aload_n hx hb dX9_row_0 rfl (lv_at hl 0 rfl) ?_
  refine lv_iload_n hx hb dX9_row_1 rfl (lv_at hl 1 rfl) ?_
  refine ro_s (roV S hE hT hS (c_X9_shelfAt h) lkX9_55 rfl ⟨(Nat.le_of_ble_eq_true rfl), (Nat.le_of_ble_eq_true rfl)⟩ (hP.sub [0, 2] rfl) 0 rfl rfl hl.1 rfl (Nat.le_of_ble_eq_true rfl) dX9_row_2 ⟨(Nat.zero_le _), (Nat.zero_le _)⟩) (fun h => ?_) (fun j2 hj2 h => ?_)
  · refine lv_astoreN (lv' := [(4, .null), (0, .ref a_o), (1, .int x1), (2, .int x2), (3, .int x3)]) hx hb dX9_row_5 hl (by decide) rfl (fun ls hl => ?_)
    refine lv_aloadN hx hb dX9_row_7 (lv_at hl 0 rfl) ?_
    refine lv_ifnonnullN hx hb dX9_row_9 ?_
    refine lv_aload_n hx hb dX9_row_12 rfl (lv_at hl 1 rfl) ?_
    refine lv_iconst (v := (-1)) hx hb dX9_row_13 (by decide) ?_
    refine rw_i (rwV S hE hT hS hP hD hA (c_X9_refuse h) [0, 1] rfl (by decide +kernel) lkX9_59 rfl ⟨(Nat.le_of_ble_eq_true rfl), (Nat.le_of_ble_eq_true rfl)⟩ 0 rfl rfl hl.1 rfl (Nat.le_of_ble_eq_true rfl) dX9_row_14 ⟨(Nat.zero_le _), (Nat.zero_le _)⟩) hP hD hS hA [0, 1] rfl (by decide +kernel) (fun _ => rfl) (fun r14 w14_0 H locs h hP hD hS => ?_)
    try dsimp only at h
    have hP : va_P D vwCl (wX9_row cI cJ cS a_o a_refused a_shelves z_road z_kept z_ahead z_cutting z_acting sa ea v_imaged v_lastFault w14_0 f_sh_held f_sh_sort f_sh_cnt f_sh_num g_sh_el) H := hP
    have hD : va_D A (wX9_row cI cJ cS a_o a_refused a_shelves z_road z_kept z_ahead z_cutting z_acting sa ea v_imaged v_lastFault w14_0 f_sh_held f_sh_sort f_sh_cnt f_sh_num g_sh_el) := hD
    exact W.iret hx hb hr (fun t ht _ => ⟨⟨_, (w14_0, f_sh_held, f_sh_sort, f_sh_cnt, g_sh_el), rfl, h, hPt hP ht⟩, hS.F ht⟩) hS.2.2 dX9_row_17
  refine lv_astore (lv' := [(4, .ref (sa j2)), (0, .ref a_o), (1, .int x1), (2, .int x2), (3, .int x3)]) hx hb dX9_row_5 hl (by decide) rfl (fun ls hl => ?_)
  refine lv_aload hx hb dX9_row_7 (lv_at hl 0 rfl) ?_
  refine lv_ifnonnull (tgt := 18) hx hb dX9_row_9 (by decide) ?_
  refine lv_iload_n hx hb dX9_row_18 rfl (lv_at hl 4 rfl) ?_
  refine lv_if_ge (tgt := 29) hx hb dX9_row_19 (by decide) (fun hc => ?_) (fun hc => ?_)
  · have h := h.1 hc
    refine lv_iload_n hx hb dX9_row_29 rfl (lv_at hl 3 rfl) ?_
    refine lv_iconst (v := 0) hx hb dX9_row_30 (by decide) ?_
    refine lv_iconst (v := 3) hx hb dX9_row_31 (by decide) ?_
    refine ro_i (roS S hE hT hS (c_X9_within h) lkX9_63 rfl ⟨(Nat.le_of_ble_eq_true rfl), (Nat.le_of_ble_eq_true rfl)⟩ (hP.sub [] rfl) hl.1 rfl (Nat.le_of_ble_eq_true rfl) dX9_row_32 ⟨(Nat.zero_le _), (Nat.zero_le _)⟩) (fun r32 h => ?_)
    refine lv_if_ne (tgt := 45) hx hb dX9_row_35 (by decide) (fun hc => ?_) (fun hc => ?_)
    · have h := h.2 hc
      refine lv_iload_n hx hb dX9_row_45 rfl (lv_at hl 4 rfl) ?_
      refine lv_sipush (v := 160) hx hb dX9_row_46 (by decide) ?_
      refine lv_icmp_le (tgt := 59) hx hb dX9_row_49 (by decide) (fun hc => ?_) (fun hc => ?_)
      · have h := h.1 hc
        refine lv_aload hx hb dX9_row_59 (lv_at hl 0 rfl) ?_
        refine lv_iload_n hx hb dX9_row_61 rfl (lv_at hl 3 rfl) ?_
        refine lv_iload_n hx hb dX9_row_62 rfl (lv_at hl 4 rfl) ?_
        refine rw_v (rwV S hE hT hS hP hD hA (c_X6_holdRow h) [(3 + 2 * j2), (3 + 2 * j2 + 1)] (mCc (shS rfl hj2) (mCc (shE rfl hj2) mCn)) (by simp [va_nd]; try omega) lkX9_67 rfl ⟨(Nat.le_of_ble_eq_true rfl), (Nat.le_of_ble_eq_true rfl)⟩ _ (shS rfl hj2) rfl hl.1 rfl (Nat.le_of_ble_eq_true rfl) dX9_row_63 ⟨(Nat.zero_le _), (Nat.zero_le _)⟩) hP hD hS hA [(3 + 2 * j2), (3 + 2 * j2 + 1)] (mCc (shS rfl hj2) (mCc (shE rfl hj2) mCn)) (by simp [va_nd]; try omega) (fun _ => rfl) (fun u63 H locs h hP hD hS => ?_)
        obtain ⟨w63_0, w63_1, w63_2, w63_3⟩ := u63
        try dsimp only at h
        have hP : va_P D vwCl (wX9_row cI cJ cS a_o a_refused a_shelves z_road z_kept z_ahead z_cutting z_acting sa ea v_imaged v_lastFault f_refused (va_up f_sh_held j2 w63_0) (va_up f_sh_sort j2 w63_1) (va_up f_sh_cnt j2 w63_2) f_sh_num (va_up g_sh_el j2 w63_3)) H := by (rcases lt8 hj2 with rfl | rfl | rfl | rfl | rfl | rfl | rfl | rfl) <;> exact hP
        have hD : va_D A (wX9_row cI cJ cS a_o a_refused a_shelves z_road z_kept z_ahead z_cutting z_acting sa ea v_imaged v_lastFault f_refused (va_up f_sh_held j2 w63_0) (va_up f_sh_sort j2 w63_1) (va_up f_sh_cnt j2 w63_2) f_sh_num (va_up g_sh_el j2 w63_3)) := by (rcases lt8 hj2 with rfl | rfl | rfl | rfl | rfl | rfl | rfl | rfl) <;> exact hD
        refine lv_iconst (v := 1) hx hb dX9_row_66 (by decide) ?_
        exact W.iret hx hb hr (fun t ht _ => ⟨⟨_, (f_refused, (va_up f_sh_held j2 w63_0), (va_up f_sh_sort j2 w63_1), (va_up f_sh_cnt j2 w63_2), (va_up g_sh_el j2 w63_3)), rfl, h, hPt hP ht⟩, hS.F ht⟩) hS.2.2 dX9_row_67
      have h := h.2 hc
      refine lv_aload_n hx hb dX9_row_52 rfl (lv_at hl 1 rfl) ?_
      refine lv_bipush (v := (-7)) hx hb dX9_row_53 (by decide) ?_
      refine rw_i (rwV S hE hT hS hP hD hA (c_X9_refuse h) [0, 1] rfl (by decide +kernel) lkX9_59 rfl ⟨(Nat.le_of_ble_eq_true rfl), (Nat.le_of_ble_eq_true rfl)⟩ 0 rfl rfl hl.1 rfl (Nat.le_of_ble_eq_true rfl) dX9_row_55 ⟨(Nat.zero_le _), (Nat.zero_le _)⟩) hP hD hS hA [0, 1] rfl (by decide +kernel) (fun _ => rfl) (fun r55 w55_0 H locs h hP hD hS => ?_)
      try dsimp only at h
      have hP : va_P D vwCl (wX9_row cI cJ cS a_o a_refused a_shelves z_road z_kept z_ahead z_cutting z_acting sa ea v_imaged v_lastFault w55_0 f_sh_held f_sh_sort f_sh_cnt f_sh_num g_sh_el) H := hP
      have hD : va_D A (wX9_row cI cJ cS a_o a_refused a_shelves z_road z_kept z_ahead z_cutting z_acting sa ea v_imaged v_lastFault w55_0 f_sh_held f_sh_sort f_sh_cnt f_sh_num g_sh_el) := hD
      exact W.iret hx hb hr (fun t ht _ => ⟨⟨_, (w55_0, f_sh_held, f_sh_sort, f_sh_cnt, g_sh_el), rfl, h, hPt hP ht⟩, hS.F ht⟩) hS.2.2 dX9_row_58
    have h := h.1 hc
    refine lv_aload_n hx hb dX9_row_38 rfl (lv_at hl 1 rfl) ?_
    refine lv_bipush (v := (-6)) hx hb dX9_row_39 (by decide) ?_
    refine rw_i (rwV S hE hT hS hP hD hA (c_X9_refuse h) [0, 1] rfl (by decide +kernel) lkX9_59 rfl ⟨(Nat.le_of_ble_eq_true rfl), (Nat.le_of_ble_eq_true rfl)⟩ 0 rfl rfl hl.1 rfl (Nat.le_of_ble_eq_true rfl) dX9_row_41 ⟨(Nat.zero_le _), (Nat.zero_le _)⟩) hP hD hS hA [0, 1] rfl (by decide +kernel) (fun _ => rfl) (fun r41 w41_0 H locs h hP hD hS => ?_)
    try dsimp only at h
    have hP : va_P D vwCl (wX9_row cI cJ cS a_o a_refused a_shelves z_road z_kept z_ahead z_cutting z_acting sa ea v_imaged v_lastFault w41_0 f_sh_held f_sh_sort f_sh_cnt f_sh_num g_sh_el) H := hP
    have hD : va_D A (wX9_row cI cJ cS a_o a_refused a_shelves z_road z_kept z_ahead z_cutting z_acting sa ea v_imaged v_lastFault w41_0 f_sh_held f_sh_sort f_sh_cnt f_sh_num g_sh_el) := hD
    exact W.iret hx hb hr (fun t ht _ => ⟨⟨_, (w41_0, f_sh_held, f_sh_sort, f_sh_cnt, g_sh_el), rfl, h, hPt hP ht⟩, hS.F ht⟩) hS.2.2 dX9_row_44
  have h := h.2 hc
  refine lv_aload_n hx hb dX9_row_22 rfl (lv_at hl 1 rfl) ?_
  refine lv_bipush (v := (-4)) hx hb dX9_row_23 (by decide) ?_
  refine rw_i (rwV S hE hT hS hP hD hA (c_X9_refuse h) [0, 1] rfl (by decide +kernel) lkX9_59 rfl ⟨(Nat.le_of_ble_eq_true rfl), (Nat.le_of_ble_eq_true rfl)⟩ 0 rfl rfl hl.1 rfl (Nat.le_of_ble_eq_true rfl) dX9_row_25 ⟨(Nat.zero_le _), (Nat.zero_le _)⟩) hP hD hS hA [0, 1] rfl (by decide +kernel) (fun _ => rfl) (fun r25 w25_0 H locs h hP hD hS => ?_)
  try dsimp only at h
  have hP : va_P D vwCl (wX9_row cI cJ cS a_o a_refused a_shelves z_road z_kept z_ahead z_cutting z_acting sa ea v_imaged v_lastFault w25_0 f_sh_held f_sh_sort f_sh_cnt f_sh_num g_sh_el) H := hP
  have hD : va_D A (wX9_row cI cJ cS a_o a_refused a_shelves z_road z_kept z_ahead z_cutting z_acting sa ea v_imaged v_lastFault w25_0 f_sh_held f_sh_sort f_sh_cnt f_sh_num g_sh_el) := hD
  exact W.iret hx hb hr (fun t ht _ => ⟨⟨_, (w25_0, f_sh_held, f_sh_sort, f_sh_cnt, g_sh_el), rfl, h, hPt hP ht⟩, hS.F ht⟩) hS.2.2 dX9_row_28
/-! X9_refusalOfRow -/
abbrev wX9_refusalOfRow (cI cJ cS : ClassId) (a_p0 : Nat) (z_p0_elements : Value) (v_p0_held : Int32) (v_p0_sort : Int32) (v_p0_elementCount : Int32) (v_p0_stretchNumber : Int32) : va_W := [(a_p0, .inr (5, [z_p0_elements, .int v_p0_held, .int v_p0_sort, .int v_p0_elementCount, .int v_p0_stretchNumber]))]
def F_X9_refusalOfRow (v_p0_held : Int32) (post : Int32 → Prop) : Prop := (F_X6_holdsStretch v_p0_held (fun r7 => ((r7 = 0 → (F_X6_holdsRow v_p0_held (fun r17 => ((r17 = 0 → post (-3)) ∧ (¬ r17 = 0 → post 0))))) ∧ (¬ r7 = 0 → post (-2)))))
set_option maxHeartbeats 4000000 in
set_option maxRecDepth 100000 in
theorem c_X9_refusalOfRow {l : Launch} {D : va_G} {cI cJ cS : ClassId} {ad adK : Nat → Nat} {a_p0 : Nat} {z_p0_elements : Value} {v_p0_held : Int32} {v_p0_sort : Int32} {v_p0_elementCount : Int32} {v_p0_stretchNumber : Int32} {post : Int32 → Prop} (h : F_X9_refusalOfRow v_p0_held post) : Met l yX9_refusalOfRow (Cond.code yX9_refusalOfRow cX9_refusalOfRow 1 (some (.int)) :: GW) (rmd 1 0 0) (PR D cI cJ cS ad adK [.ref a_p0] (wX9_refusalOfRow cI cJ cS a_p0 z_p0_elements v_p0_held v_p0_sort v_p0_elementCount v_p0_stretchNumber)) (vp_Si post) 0 0 nof := by
  refine Met.ro (by decide) (Nat.le_of_ble_eq_true rfl) (fun p e s m args below meth c ls (S : CallFix p m c cX9_refusalOfRow 1 s args GW "RoadThatSings") hE hT hP hS hr hlocks hl => ?_)
  have hx := S.1
  have hb := S.2.1
  have hl : lv_has ls 1 [(0, .ref a_p0)] := hl
  unfold F_X9_refusalOfRow at h
  refine lv_aload_n hx hb dX9_refusalOfRow_0 rfl (lv_at hl 0 rfl) ?_
  refine lv_ifnonnull (tgt := 6) hx hb dX9_refusalOfRow_1 (by decide) ?_
  refine lv_aload_n hx hb dX9_refusalOfRow_6 rfl (lv_at hl 0 rfl) ?_
  refine ro_i (roV S hE hT hS (c_X6_holdsStretch h) lkX9_83 rfl ⟨(Nat.le_of_ble_eq_true rfl), (Nat.le_of_ble_eq_true rfl)⟩ (hP.sub [0] rfl) 0 rfl rfl hl.1 rfl (Nat.le_of_ble_eq_true rfl) dX9_refusalOfRow_7 ⟨(Nat.zero_le _), (Nat.zero_le _)⟩) (fun r7 h => ?_)
  refine lv_if_eq (tgt := 16) hx hb dX9_refusalOfRow_10 (by decide) (fun hc => ?_) (fun hc => ?_)
  · have h := h.1 hc
    refine lv_aload_n hx hb dX9_refusalOfRow_16 rfl (lv_at hl 0 rfl) ?_
    refine ro_i (roV S hE hT hS (c_X6_holdsRow h) lkX9_91 rfl ⟨(Nat.le_of_ble_eq_true rfl), (Nat.le_of_ble_eq_true rfl)⟩ (hP.sub [0] rfl) 0 rfl rfl hl.1 rfl (Nat.le_of_ble_eq_true rfl) dX9_refusalOfRow_17 ⟨(Nat.zero_le _), (Nat.zero_le _)⟩) (fun r17 h => ?_)
    refine lv_if_eq (tgt := 27) hx hb dX9_refusalOfRow_20 (by decide) (fun hc => ?_) (fun hc => ?_)
    · have h := h.1 hc
      refine lv_bipush (v := (-3)) hx hb dX9_refusalOfRow_27 (by decide) ?_
      exact W.iret hx hb hr (fun t ht _ => ⟨_, rfl, h, ht⟩) (fun _ hq => by cases hq) dX9_refusalOfRow_29
    have h := h.2 hc
    refine lv_iconst (v := 0) hx hb dX9_refusalOfRow_23 (by decide) ?_
    refine lv_goto (tgt := 29) hx hb dX9_refusalOfRow_24 (by decide) ?_
    exact W.iret hx hb hr (fun t ht _ => ⟨_, rfl, h, ht⟩) (fun _ hq => by cases hq) dX9_refusalOfRow_29
  have h := h.2 hc
  refine lv_bipush (v := (-2)) hx hb dX9_refusalOfRow_13 (by decide) ?_
  exact W.iret hx hb hr (fun t ht _ => ⟨_, rfl, h, ht⟩) (fun _ hq => by cases hq) dX9_refusalOfRow_15
/-! X9_refusalOfRow_null0 -/
abbrev wX9_refusalOfRow_null0 (cI cJ cS : ClassId) : va_W := []
def F_X9_refusalOfRow_null0 (post : Int32 → Prop) : Prop := post (-1)
set_option maxHeartbeats 4000000 in
set_option maxRecDepth 100000 in
theorem c_X9_refusalOfRow_null0 {l : Launch} {D : va_G} {cI cJ cS : ClassId} {ad adK : Nat → Nat}  {post : Int32 → Prop} (h : F_X9_refusalOfRow_null0 post) : Met l yX9_refusalOfRow (Cond.code yX9_refusalOfRow cX9_refusalOfRow 1 (some (.int)) :: GW) (rmd 0 0 0) (PR D cI cJ cS ad adK [.null] (wX9_refusalOfRow_null0 cI cJ cS)) (vp_Si post) 0 0 nof := by
  refine Met.ro (by decide) (Nat.le_of_ble_eq_true rfl) (fun p e s m args below meth c ls (S : CallFix p m c cX9_refusalOfRow 1 s args GW "RoadThatSings") hE hT hP hS hr hlocks hl => ?_)
  have hx := S.1
  have hb := S.2.1
  have hl : lv_has ls 1 [(0, .null)] := hl
  unfold F_X9_refusalOfRow_null0 at h
  refine lv_aload_nN hx hb dX9_refusalOfRow_0 rfl (lv_at hl 0 rfl) ?_
  refine lv_ifnonnullN hx hb dX9_refusalOfRow_1 ?_
  refine lv_iconst (v := (-1)) hx hb dX9_refusalOfRow_4 (by decide) ?_
  exact W.iret hx hb hr (fun t ht _ => ⟨_, rfl, h, ht⟩) (fun _ hq => by cases hq) dX9_refusalOfRow_5
/-! X9_set -/
abbrev wX9_set (cI cJ cS : ClassId) (a_o a_refused a_shelves : Nat) (z_road z_kept z_ahead z_cutting z_acting : Value) (sa ea : Nat → Nat) (v_imaged : Int32) (v_lastFault : Int32) (f_refused : Nat → Int32) (f_sh_held : Nat → Int32) (f_sh_sort : Nat → Int32) (f_sh_cnt : Nat → Int32) (f_sh_num : Nat → Int32) (g_sh_el : Nat → Nat → Int64) : va_W := [(a_o, .inr (8, [z_road, z_kept, z_ahead, .ref a_shelves, z_cutting, z_acting, .ref a_refused, .int v_imaged, .int v_lastFault])), (a_refused, .inl (cI, 8, .inl f_refused)), (a_shelves, .inl (cS, 8, .inr (.inr (.inr (.inr (fun k => some (sa k)))))))] ++ shW sa ea cJ f_sh_held f_sh_sort f_sh_cnt f_sh_num g_sh_el
def F_X9_set (f_refused : Nat → Int32) (f_sh_held : Nat → Int32) (f_sh_sort : Nat → Int32) (f_sh_cnt : Nat → Int32) (g_sh_el : Nat → Nat → Int64) (x1 : Int32) (x2 : Int32) (y3 : Int64) (post : Int32 → (Nat → Int32) → (Nat → Nat → Int64) → Prop) : Prop := (F_X9_shelfAt x1 ((F_X9_refusalOfRow_null0  (fun r9 => ((r9 = 0 → (F_X9_refuse f_refused r9 (fun r27 w27_0 => post r27 w27_0 g_sh_el))) ∧ (¬ r9 = 0 → (F_X9_refuse f_refused r9 (fun r27 w27_0 => post r27 w27_0 g_sh_el))))))) (fun j2 => (F_X9_refusalOfRow (f_sh_held j2) (fun r9 => ((r9 = 0 → (F_X6_hasElement (f_sh_cnt j2) x2 (fun r34 => ((r34 = 0 → (F_X9_refuse f_refused (-5) (fun r43 w43_0 => post r43 w43_0 g_sh_el))) ∧ (¬ r34 = 0 → (F_X6_put (f_sh_sort j2) (f_sh_cnt j2) (g_sh_el j2) x2 y3 (fun w51_0 => post 1 f_refused (va_up g_sh_el j2 w51_0)))))))) ∧ (¬ r9 = 0 → (F_X9_refuse f_refused r9 (fun r27 w27_0 => post r27 w27_0 g_sh_el))))))))
set_option maxHeartbeats 4000000 in
set_option maxRecDepth 100000 in
theorem c_X9_set {l : Launch} {D : va_G} {cI cJ cS : ClassId} {ad adK : Nat → Nat} {a_o a_refused a_shelves : Nat} {z_road z_kept z_ahead z_cutting z_acting : Value} {sa ea : Nat → Nat} {v_imaged : Int32} {v_lastFault : Int32} {f_refused : Nat → Int32} {f_sh_held : Nat → Int32} {f_sh_sort : Nat → Int32} {f_sh_cnt : Nat → Int32} {f_sh_num : Nat → Int32} {g_sh_el : Nat → Nat → Int64} {x1 : Int32} {x2 : Int32} {y3 : Int64} {post : Int32 → (Nat → Int32) → (Nat → Nat → Int64) → Prop} (h : F_X9_set f_refused f_sh_held f_sh_sort f_sh_cnt g_sh_el x1 x2 y3 post) {sz : Nat} : Met l yX9_set (Cond.code yX9_set cX9_set 7 (some (.int)) :: GW) (rmd 3 0 0) (PW D cI cJ cS ad adK [.ref a_o, .int x1, .int x2, .long y3] (wX9_set cI cJ cS a_o a_refused a_shelves z_road z_kept z_ahead z_cutting z_acting sa ea v_imaged v_lastFault f_refused f_sh_held f_sh_sort f_sh_cnt f_sh_num g_sh_el) sz) (va_Qi (fun r (u : (Nat → Int32) × (Nat → Nat → Int64)) => post r u.1 u.2) (fun u t => va_P D vwCl (wX9_set cI cJ cS a_o a_refused a_shelves z_road z_kept z_ahead z_cutting z_acting sa ea v_imaged v_lastFault u.1 f_sh_held f_sh_sort f_sh_cnt f_sh_num u.2) t.heap) (va_A (wX9_set cI cJ cS a_o a_refused a_shelves z_road z_kept z_ahead z_cutting z_acting sa ea v_imaged v_lastFault f_refused f_sh_held f_sh_sort f_sh_cnt f_sh_num g_sh_el) sz)) 0 0 (va_A (wX9_set cI cJ cS a_o a_refused a_shelves z_road z_kept z_ahead z_cutting z_acting sa ea v_imaged v_lastFault f_refused f_sh_held f_sh_sort f_sh_cnt f_sh_num g_sh_el) sz) := by
  refine Met.rw (Qc := fun A => (va_Qi (fun r (u : (Nat → Int32) × (Nat → Nat → Int64)) => post r u.1 u.2) (fun u t => va_P D vwCl (wX9_set cI cJ cS a_o a_refused a_shelves z_road z_kept z_ahead z_cutting z_acting sa ea v_imaged v_lastFault u.1 f_sh_held f_sh_sort f_sh_cnt f_sh_num u.2) t.heap) A)) (by decide) (Nat.le_of_ble_eq_true rfl) (fun p e s m args below meth c ls A (S : CallFix p m c cX9_set 7 s args GW "RoadThatSings") hE hT hP hD hA hS hr hlocks hname hl => ?_)
  have hS0 := hS
  have hx := S.1
  have hb := S.2.1
  have hl : lv_has ls 7 [(0, .ref a_o), (1, .int x1), (2, .int x2), (3, .long y3)] := hl
  unfold F_X9_set at h
  refine lv_aload_n hx hb dX9_set_0 rfl (lv_at hl 0 rfl) ?_
  refine lv_iload_n hx hb dX9_set_1 rfl (lv_at hl 1 rfl) ?_
  refine ro_s (roV S hE hT hS (c_X9_shelfAt h) lkX9_55 rfl ⟨(Nat.le_of_ble_eq_true rfl), (Nat.le_of_ble_eq_true rfl)⟩ (hP.sub [0, 2] rfl) 0 rfl rfl hl.1 rfl (Nat.le_of_ble_eq_true rfl) dX9_set_2 ⟨(Nat.zero_le _), (Nat.zero_le _)⟩) (fun h => ?_) (fun j2 hj2 h => ?_)
  · refine lv_astoreN (lv' := [(5, .null), (0, .ref a_o), (1, .int x1), (2, .int x2), (3, .long y3)]) hx hb dX9_set_5 hl (by decide) rfl (fun ls hl => ?_)
    refine lv_aloadN hx hb dX9_set_7 (lv_at hl 0 rfl) ?_
    refine ro_i (roS S hE hT hS (c_X9_refusalOfRow_null0 h) lkX9_71 rfl ⟨(Nat.le_of_ble_eq_true rfl), (Nat.le_of_ble_eq_true rfl)⟩ (hP.sub [] rfl) hl.1 rfl (Nat.le_of_ble_eq_true rfl) dX9_set_9 ⟨(Nat.zero_le _), (Nat.zero_le _)⟩) (fun r9 h => ?_)
    refine lv_istore (lv' := [(6, .int r9), (5, .null), (0, .ref a_o), (1, .int x1), (2, .int x2), (3, .long y3)]) hx hb dX9_set_12 hl (by decide) rfl (fun ls hl => ?_)
    refine lv_iload hx hb dX9_set_14 (lv_at hl 0 rfl) ?_
    refine lv_if_ne (tgt := 24) hx hb dX9_set_16 (by decide) (fun hc => ?_) (fun hc => ?_)
    · have h := h.2 hc
      refine lv_aload_n hx hb dX9_set_24 rfl (lv_at hl 2 rfl) ?_
      refine lv_iload hx hb dX9_set_25 (lv_at hl 0 rfl) ?_
      refine rw_i (rwV S hE hT hS hP hD hA (c_X9_refuse h) [0, 1] rfl (by decide +kernel) lkX9_59 rfl ⟨(Nat.le_of_ble_eq_true rfl), (Nat.le_of_ble_eq_true rfl)⟩ 0 rfl rfl hl.1 rfl (Nat.le_of_ble_eq_true rfl) dX9_set_27 ⟨(Nat.zero_le _), (Nat.zero_le _)⟩) hP hD hS hA [0, 1] rfl (by decide +kernel) (fun _ => rfl) (fun r27 w27_0 H locs h hP hD hS => ?_)
      try dsimp only at h
      have hP : va_P D vwCl (wX9_set cI cJ cS a_o a_refused a_shelves z_road z_kept z_ahead z_cutting z_acting sa ea v_imaged v_lastFault w27_0 f_sh_held f_sh_sort f_sh_cnt f_sh_num g_sh_el) H := hP
      have hD : va_D A (wX9_set cI cJ cS a_o a_refused a_shelves z_road z_kept z_ahead z_cutting z_acting sa ea v_imaged v_lastFault w27_0 f_sh_held f_sh_sort f_sh_cnt f_sh_num g_sh_el) := hD
      exact W.iret hx hb hr (fun t ht _ => ⟨⟨_, (w27_0, g_sh_el), rfl, h, hPt hP ht⟩, hS.F ht⟩) hS.2.2 dX9_set_30
    have h := h.1 hc
    refine lv_aloadN hx hb dX9_set_19 (lv_at hl 1 rfl) ?_
    refine lv_ifnonnullN hx hb dX9_set_21 ?_
    refine lv_aload_n hx hb dX9_set_24 rfl (lv_at hl 2 rfl) ?_
    refine lv_iload hx hb dX9_set_25 (lv_at hl 0 rfl) ?_
    refine rw_i (rwV S hE hT hS hP hD hA (c_X9_refuse h) [0, 1] rfl (by decide +kernel) lkX9_59 rfl ⟨(Nat.le_of_ble_eq_true rfl), (Nat.le_of_ble_eq_true rfl)⟩ 0 rfl rfl hl.1 rfl (Nat.le_of_ble_eq_true rfl) dX9_set_27 ⟨(Nat.zero_le _), (Nat.zero_le _)⟩) hP hD hS hA [0, 1] rfl (by decide +kernel) (fun _ => rfl) (fun r27 w27_0 H locs h hP hD hS => ?_)
    try dsimp only at h
    have hP : va_P D vwCl (wX9_set cI cJ cS a_o a_refused a_shelves z_road z_kept z_ahead z_cutting z_acting sa ea v_imaged v_lastFault w27_0 f_sh_held f_sh_sort f_sh_cnt f_sh_num g_sh_el) H := hP
    have hD : va_D A (wX9_set cI cJ cS a_o a_refused a_shelves z_road z_kept z_ahead z_cutting z_acting sa ea v_imaged v_lastFault w27_0 f_sh_held f_sh_sort f_sh_cnt f_sh_num g_sh_el) := hD
    exact W.iret hx hb hr (fun t ht _ => ⟨⟨_, (w27_0, g_sh_el), rfl, h, hPt hP ht⟩, hS.F ht⟩) hS.2.2 dX9_set_30
  refine lv_astore (lv' := [(5, .ref (sa j2)), (0, .ref a_o), (1, .int x1), (2, .int x2), (3, .long y3)]) hx hb dX9_set_5 hl (by decide) rfl (fun ls hl => ?_)
  refine lv_aload hx hb dX9_set_7 (lv_at hl 0 rfl) ?_
  refine ro_i (roS S hE hT hS (c_X9_refusalOfRow h) lkX9_71 rfl ⟨(Nat.le_of_ble_eq_true rfl), (Nat.le_of_ble_eq_true rfl)⟩ (vPc hP (shS rfl hj2) vPn) hl.1 rfl (Nat.le_of_ble_eq_true rfl) dX9_set_9 ⟨(Nat.zero_le _), (Nat.zero_le _)⟩) (fun r9 h => ?_)
  refine lv_istore (lv' := [(6, .int r9), (5, .ref (sa j2)), (0, .ref a_o), (1, .int x1), (2, .int x2), (3, .long y3)]) hx hb dX9_set_12 hl (by decide) rfl (fun ls hl => ?_)
  refine lv_iload hx hb dX9_set_14 (lv_at hl 0 rfl) ?_
  refine lv_if_ne (tgt := 24) hx hb dX9_set_16 (by decide) (fun hc => ?_) (fun hc => ?_)
  · have h := h.2 hc
    refine lv_aload_n hx hb dX9_set_24 rfl (lv_at hl 2 rfl) ?_
    refine lv_iload hx hb dX9_set_25 (lv_at hl 0 rfl) ?_
    refine rw_i (rwV S hE hT hS hP hD hA (c_X9_refuse h) [0, 1] rfl (by decide +kernel) lkX9_59 rfl ⟨(Nat.le_of_ble_eq_true rfl), (Nat.le_of_ble_eq_true rfl)⟩ 0 rfl rfl hl.1 rfl (Nat.le_of_ble_eq_true rfl) dX9_set_27 ⟨(Nat.zero_le _), (Nat.zero_le _)⟩) hP hD hS hA [0, 1] rfl (by decide +kernel) (fun _ => rfl) (fun r27 w27_0 H locs h hP hD hS => ?_)
    try dsimp only at h
    have hP : va_P D vwCl (wX9_set cI cJ cS a_o a_refused a_shelves z_road z_kept z_ahead z_cutting z_acting sa ea v_imaged v_lastFault w27_0 f_sh_held f_sh_sort f_sh_cnt f_sh_num g_sh_el) H := hP
    have hD : va_D A (wX9_set cI cJ cS a_o a_refused a_shelves z_road z_kept z_ahead z_cutting z_acting sa ea v_imaged v_lastFault w27_0 f_sh_held f_sh_sort f_sh_cnt f_sh_num g_sh_el) := hD
    exact W.iret hx hb hr (fun t ht _ => ⟨⟨_, (w27_0, g_sh_el), rfl, h, hPt hP ht⟩, hS.F ht⟩) hS.2.2 dX9_set_30
  have h := h.1 hc
  refine lv_aload hx hb dX9_set_19 (lv_at hl 1 rfl) ?_
  refine lv_ifnonnull (tgt := 31) hx hb dX9_set_21 (by decide) ?_
  refine lv_aload hx hb dX9_set_31 (lv_at hl 1 rfl) ?_
  refine lv_iload_n hx hb dX9_set_33 rfl (lv_at hl 4 rfl) ?_
  refine ro_i (roV S hE hT hS (c_X6_hasElement h) lkX9_75 rfl ⟨(Nat.le_of_ble_eq_true rfl), (Nat.le_of_ble_eq_true rfl)⟩ (vPc hP (shS rfl hj2) vPn) 0 rfl rfl hl.1 rfl (Nat.le_of_ble_eq_true rfl) dX9_set_34 ⟨(Nat.zero_le _), (Nat.zero_le _)⟩) (fun r34 h => ?_)
  refine lv_if_ne (tgt := 47) hx hb dX9_set_37 (by decide) (fun hc => ?_) (fun hc => ?_)
  · have h := h.2 hc
    refine lv_aload hx hb dX9_set_47 (lv_at hl 1 rfl) ?_
    refine lv_iload_n hx hb dX9_set_49 rfl (lv_at hl 4 rfl) ?_
    refine lv_lload_n hx hb dX9_set_50 rfl (lv_at hl 5 rfl) ?_
    refine rw_v (rwV S hE hT hS hP hD hA (c_X6_put h) [(3 + 2 * j2), (3 + 2 * j2 + 1)] (mCc (shS rfl hj2) (mCc (shE rfl hj2) mCn)) (by simp [va_nd]; try omega) lkX9_79 rfl ⟨(Nat.le_of_ble_eq_true rfl), (Nat.le_of_ble_eq_true rfl)⟩ _ (shS rfl hj2) rfl hl.1 rfl (Nat.le_of_ble_eq_true rfl) dX9_set_51 ⟨(Nat.zero_le _), (Nat.zero_le _)⟩) hP hD hS hA [(3 + 2 * j2), (3 + 2 * j2 + 1)] (mCc (shS rfl hj2) (mCc (shE rfl hj2) mCn)) (by simp [va_nd]; try omega) (fun _ => rfl) (fun w51_0 H locs h hP hD hS => ?_)
    try dsimp only at h
    have hP : va_P D vwCl (wX9_set cI cJ cS a_o a_refused a_shelves z_road z_kept z_ahead z_cutting z_acting sa ea v_imaged v_lastFault f_refused f_sh_held f_sh_sort f_sh_cnt f_sh_num (va_up g_sh_el j2 w51_0)) H := by (rcases lt8 hj2 with rfl | rfl | rfl | rfl | rfl | rfl | rfl | rfl) <;> exact hP
    have hD : va_D A (wX9_set cI cJ cS a_o a_refused a_shelves z_road z_kept z_ahead z_cutting z_acting sa ea v_imaged v_lastFault f_refused f_sh_held f_sh_sort f_sh_cnt f_sh_num (va_up g_sh_el j2 w51_0)) := by (rcases lt8 hj2 with rfl | rfl | rfl | rfl | rfl | rfl | rfl | rfl) <;> exact hD
    refine lv_iconst (v := 1) hx hb dX9_set_54 (by decide) ?_
    exact W.iret hx hb hr (fun t ht _ => ⟨⟨_, (f_refused, (va_up g_sh_el j2 w51_0)), rfl, h, hPt hP ht⟩, hS.F ht⟩) hS.2.2 dX9_set_55
  have h := h.1 hc
  refine lv_aload_n hx hb dX9_set_40 rfl (lv_at hl 2 rfl) ?_
  refine lv_bipush (v := (-5)) hx hb dX9_set_41 (by decide) ?_
  refine rw_i (rwV S hE hT hS hP hD hA (c_X9_refuse h) [0, 1] rfl (by decide +kernel) lkX9_59 rfl ⟨(Nat.le_of_ble_eq_true rfl), (Nat.le_of_ble_eq_true rfl)⟩ 0 rfl rfl hl.1 rfl (Nat.le_of_ble_eq_true rfl) dX9_set_43 ⟨(Nat.zero_le _), (Nat.zero_le _)⟩) hP hD hS hA [0, 1] rfl (by decide +kernel) (fun _ => rfl) (fun r43 w43_0 H locs h hP hD hS => ?_)
  try dsimp only at h
  have hP : va_P D vwCl (wX9_set cI cJ cS a_o a_refused a_shelves z_road z_kept z_ahead z_cutting z_acting sa ea v_imaged v_lastFault w43_0 f_sh_held f_sh_sort f_sh_cnt f_sh_num g_sh_el) H := hP
  have hD : va_D A (wX9_set cI cJ cS a_o a_refused a_shelves z_road z_kept z_ahead z_cutting z_acting sa ea v_imaged v_lastFault w43_0 f_sh_held f_sh_sort f_sh_cnt f_sh_num g_sh_el) := hD
  exact W.iret hx hb hr (fun t ht _ => ⟨⟨_, (w43_0, g_sh_el), rfl, h, hPt hP ht⟩, hS.F ht⟩) hS.2.2 dX9_set_46
/-! X9_copy -/
abbrev wX9_copy (cI cJ cS : ClassId) (a_o a_refused a_shelves : Nat) (z_road z_kept z_ahead z_cutting z_acting : Value) (sa ea : Nat → Nat) (v_imaged : Int32) (v_lastFault : Int32) (f_refused : Nat → Int32) (f_sh_held : Nat → Int32) (f_sh_sort : Nat → Int32) (f_sh_cnt : Nat → Int32) (f_sh_num : Nat → Int32) (g_sh_el : Nat → Nat → Int64) : va_W := [(a_o, .inr (8, [z_road, z_kept, z_ahead, .ref a_shelves, z_cutting, z_acting, .ref a_refused, .int v_imaged, .int v_lastFault])), (a_refused, .inl (cI, 8, .inl f_refused)), (a_shelves, .inl (cS, 8, .inr (.inr (.inr (.inr (fun k => some (sa k)))))))] ++ shW sa ea cJ f_sh_held f_sh_sort f_sh_cnt f_sh_num g_sh_el
def F_X9_copy (f_refused : Nat → Int32) (f_sh_held : Nat → Int32) (f_sh_sort : Nat → Int32) (f_sh_cnt : Nat → Int32) (g_sh_el : Nat → Nat → Int64) (x1 : Int32) (x2 : Int32) (x3 : Int32) (x4 : Int32) (x5 : Int32) (post : Int32 → (Nat → Int32) → (Nat → Nat → Int64) → Prop) : Prop := (F_X9_shelfAt x1 ((F_X9_shelfAt x2 ((F_X9_refuse f_refused (-1) (fun r26 w26_0 => post r26 w26_0 g_sh_el))) (fun j9 => (F_X9_refuse f_refused (-1) (fun r26 w26_0 => post r26 w26_0 g_sh_el))))) (fun j2 => (F_X9_shelfAt x2 ((F_X9_refuse f_refused (-1) (fun r26 w26_0 => post r26 w26_0 g_sh_el))) (fun j9 => (F_X6_holdsStretch (f_sh_held j2) (fun r32 => ((r32 = 0 → (F_X6_holdsStretch (f_sh_held j9) (fun r40 => ((r40 = 0 → (F_X6_isRowUnlike (f_sh_held j2) (f_sh_sort j2) (f_sh_held j9) (f_sh_sort j9) (fun r50 => ((r50 = 0 → (F_X6_holdsRow (f_sh_held j2) (fun r65 => ((r65 = 0 → (F_X9_refuse f_refused (-3) (fun r82 w82_0 => post r82 w82_0 g_sh_el))) ∧ (¬ r65 = 0 → (F_X6_holdsRow (f_sh_held j9) (fun r73 => ((r73 = 0 → (F_X9_refuse f_refused (-3) (fun r82 w82_0 => post r82 w82_0 g_sh_el))) ∧ (¬ r73 = 0 → ((0 ≤ x5 → (F_X6_hasElements (f_sh_cnt j2) x3 x5 (fun r103 => ((r103 = 0 → (F_X9_refuse f_refused (-5) (fun r124 w124_0 => post r124 w124_0 g_sh_el))) ∧ (¬ r103 = 0 → (F_X6_hasElements (f_sh_cnt j9) x4 x5 (fun r115 => ((r115 = 0 → (F_X9_refuse f_refused (-5) (fun r124 w124_0 => post r124 w124_0 g_sh_el))) ∧ (¬ r115 = 0 → ((j2 = j9 → (F_X6_takeFrom_same (f_sh_cnt j2) (g_sh_el j2) x3 x4 x5 (fun w137_0 => post 1 f_refused (va_up g_sh_el j2 w137_0)))) ∧ (¬ j2 = j9 → (F_X6_takeFrom (f_sh_cnt j9) (g_sh_el j9) (f_sh_cnt j2) (g_sh_el j2) x3 x4 x5 (fun w137_0 => post 1 f_refused (va_up g_sh_el j9 w137_0)))))))))))))) ∧ (¬ 0 ≤ x5 → (F_X9_refuse f_refused (-4) (fun r94 w94_0 => post r94 w94_0 g_sh_el))))))))))))) ∧ (¬ r50 = 0 → (F_X9_refuse f_refused (-2) (fun r59 w59_0 => post r59 w59_0 g_sh_el))))))) ∧ (¬ r40 = 0 → (F_X9_refuse f_refused (-2) (fun r59 w59_0 => post r59 w59_0 g_sh_el))))))) ∧ (¬ r32 = 0 → (F_X9_refuse f_refused (-2) (fun r59 w59_0 => post r59 w59_0 g_sh_el))))))))))
set_option maxHeartbeats 4000000 in
set_option maxRecDepth 100000 in
theorem c_X9_copy {l : Launch} {D : va_G} {cI cJ cS : ClassId} {ad adK : Nat → Nat} {a_o a_refused a_shelves : Nat} {z_road z_kept z_ahead z_cutting z_acting : Value} {sa ea : Nat → Nat} {v_imaged : Int32} {v_lastFault : Int32} {f_refused : Nat → Int32} {f_sh_held : Nat → Int32} {f_sh_sort : Nat → Int32} {f_sh_cnt : Nat → Int32} {f_sh_num : Nat → Int32} {g_sh_el : Nat → Nat → Int64} {x1 : Int32} {x2 : Int32} {x3 : Int32} {x4 : Int32} {x5 : Int32} {post : Int32 → (Nat → Int32) → (Nat → Nat → Int64) → Prop} (h : F_X9_copy f_refused f_sh_held f_sh_sort f_sh_cnt g_sh_el x1 x2 x3 x4 x5 post) {sz : Nat} : Met l yX9_copy (Cond.code yX9_copy cX9_copy 8 (some (.int)) :: GW) (rmd 3 0 0) (PW D cI cJ cS ad adK [.ref a_o, .int x1, .int x2, .int x3, .int x4, .int x5] (wX9_copy cI cJ cS a_o a_refused a_shelves z_road z_kept z_ahead z_cutting z_acting sa ea v_imaged v_lastFault f_refused f_sh_held f_sh_sort f_sh_cnt f_sh_num g_sh_el) sz) (va_Qi (fun r (u : (Nat → Int32) × (Nat → Nat → Int64)) => post r u.1 u.2) (fun u t => va_P D vwCl (wX9_copy cI cJ cS a_o a_refused a_shelves z_road z_kept z_ahead z_cutting z_acting sa ea v_imaged v_lastFault u.1 f_sh_held f_sh_sort f_sh_cnt f_sh_num u.2) t.heap) (va_A (wX9_copy cI cJ cS a_o a_refused a_shelves z_road z_kept z_ahead z_cutting z_acting sa ea v_imaged v_lastFault f_refused f_sh_held f_sh_sort f_sh_cnt f_sh_num g_sh_el) sz)) 0 0 (va_A (wX9_copy cI cJ cS a_o a_refused a_shelves z_road z_kept z_ahead z_cutting z_acting sa ea v_imaged v_lastFault f_refused f_sh_held f_sh_sort f_sh_cnt f_sh_num g_sh_el) sz) := by
  refine Met.rw (Qc := fun A => (va_Qi (fun r (u : (Nat → Int32) × (Nat → Nat → Int64)) => post r u.1 u.2) (fun u t => va_P D vwCl (wX9_copy cI cJ cS a_o a_refused a_shelves z_road z_kept z_ahead z_cutting z_acting sa ea v_imaged v_lastFault u.1 f_sh_held f_sh_sort f_sh_cnt f_sh_num u.2) t.heap) A)) (by decide) (Nat.le_of_ble_eq_true rfl) (fun p e s m args below meth c ls A (S : CallFix p m c cX9_copy 8 s args GW "RoadThatSings") hE hT hP hD hA hS hr hlocks hname hl => ?_)
  have hS0 := hS
  have hx := S.1
  have hb := S.2.1
  have hl : lv_has ls 8 [(0, .ref a_o), (1, .int x1), (2, .int x2), (3, .int x3), (4, .int x4), (5, .int x5)] := hl
  unfold F_X9_copy at h
  refine lv_aload_n hx hb dX9_copy_0 rfl (lv_at hl 0 rfl) ?_
  refine lv_iload_n hx hb dX9_copy_1 rfl (lv_at hl 1 rfl) ?_
  refine ro_s (roV S hE hT hS (c_X9_shelfAt h) lkX9_55 rfl ⟨(Nat.le_of_ble_eq_true rfl), (Nat.le_of_ble_eq_true rfl)⟩ (hP.sub [0, 2] rfl) 0 rfl rfl hl.1 rfl (Nat.le_of_ble_eq_true rfl) dX9_copy_2 ⟨(Nat.zero_le _), (Nat.zero_le _)⟩) (fun h => ?_) (fun j2 hj2 h => ?_)
  · refine lv_astoreN (lv' := [(6, .null), (0, .ref a_o), (1, .int x1), (2, .int x2), (3, .int x3), (4, .int x4), (5, .int x5)]) hx hb dX9_copy_5 hl (by decide) rfl (fun ls hl => ?_)
    refine lv_aload_n hx hb dX9_copy_7 rfl (lv_at hl 1 rfl) ?_
    refine lv_iload_n hx hb dX9_copy_8 rfl (lv_at hl 3 rfl) ?_
    refine ro_s (roV S hE hT hS (c_X9_shelfAt h) lkX9_55 rfl ⟨(Nat.le_of_ble_eq_true rfl), (Nat.le_of_ble_eq_true rfl)⟩ (hP.sub [0, 2] rfl) 0 rfl rfl hl.1 rfl (Nat.le_of_ble_eq_true rfl) dX9_copy_9 ⟨(Nat.zero_le _), (Nat.zero_le _)⟩) (fun h => ?_) (fun j9 hj9 h => ?_)
    · refine lv_astoreN (lv' := [(7, .null), (6, .null), (0, .ref a_o), (1, .int x1), (2, .int x2), (3, .int x3), (4, .int x4), (5, .int x5)]) hx hb dX9_copy_12 hl (by decide) rfl (fun ls hl => ?_)
      refine lv_aloadN hx hb dX9_copy_14 (lv_at hl 1 rfl) ?_
      refine lv_ifnullN (tgt := 24) hx hb dX9_copy_16 (by decide) ?_
      refine lv_aload_n hx hb dX9_copy_24 rfl (lv_at hl 2 rfl) ?_
      refine lv_iconst (v := (-1)) hx hb dX9_copy_25 (by decide) ?_
      refine rw_i (rwV S hE hT hS hP hD hA (c_X9_refuse h) [0, 1] rfl (by decide +kernel) lkX9_59 rfl ⟨(Nat.le_of_ble_eq_true rfl), (Nat.le_of_ble_eq_true rfl)⟩ 0 rfl rfl hl.1 rfl (Nat.le_of_ble_eq_true rfl) dX9_copy_26 ⟨(Nat.zero_le _), (Nat.zero_le _)⟩) hP hD hS hA [0, 1] rfl (by decide +kernel) (fun _ => rfl) (fun r26 w26_0 H locs h hP hD hS => ?_)
      try dsimp only at h
      have hP : va_P D vwCl (wX9_copy cI cJ cS a_o a_refused a_shelves z_road z_kept z_ahead z_cutting z_acting sa ea v_imaged v_lastFault w26_0 f_sh_held f_sh_sort f_sh_cnt f_sh_num g_sh_el) H := hP
      have hD : va_D A (wX9_copy cI cJ cS a_o a_refused a_shelves z_road z_kept z_ahead z_cutting z_acting sa ea v_imaged v_lastFault w26_0 f_sh_held f_sh_sort f_sh_cnt f_sh_num g_sh_el) := hD
      exact W.iret hx hb hr (fun t ht _ => ⟨⟨_, (w26_0, g_sh_el), rfl, h, hPt hP ht⟩, hS.F ht⟩) hS.2.2 dX9_copy_29
    refine lv_astore (lv' := [(7, .ref (sa j9)), (6, .null), (0, .ref a_o), (1, .int x1), (2, .int x2), (3, .int x3), (4, .int x4), (5, .int x5)]) hx hb dX9_copy_12 hl (by decide) rfl (fun ls hl => ?_)
    refine lv_aloadN hx hb dX9_copy_14 (lv_at hl 1 rfl) ?_
    refine lv_ifnullN (tgt := 24) hx hb dX9_copy_16 (by decide) ?_
    refine lv_aload_n hx hb dX9_copy_24 rfl (lv_at hl 2 rfl) ?_
    refine lv_iconst (v := (-1)) hx hb dX9_copy_25 (by decide) ?_
    refine rw_i (rwV S hE hT hS hP hD hA (c_X9_refuse h) [0, 1] rfl (by decide +kernel) lkX9_59 rfl ⟨(Nat.le_of_ble_eq_true rfl), (Nat.le_of_ble_eq_true rfl)⟩ 0 rfl rfl hl.1 rfl (Nat.le_of_ble_eq_true rfl) dX9_copy_26 ⟨(Nat.zero_le _), (Nat.zero_le _)⟩) hP hD hS hA [0, 1] rfl (by decide +kernel) (fun _ => rfl) (fun r26 w26_0 H locs h hP hD hS => ?_)
    try dsimp only at h
    have hP : va_P D vwCl (wX9_copy cI cJ cS a_o a_refused a_shelves z_road z_kept z_ahead z_cutting z_acting sa ea v_imaged v_lastFault w26_0 f_sh_held f_sh_sort f_sh_cnt f_sh_num g_sh_el) H := hP
    have hD : va_D A (wX9_copy cI cJ cS a_o a_refused a_shelves z_road z_kept z_ahead z_cutting z_acting sa ea v_imaged v_lastFault w26_0 f_sh_held f_sh_sort f_sh_cnt f_sh_num g_sh_el) := hD
    exact W.iret hx hb hr (fun t ht _ => ⟨⟨_, (w26_0, g_sh_el), rfl, h, hPt hP ht⟩, hS.F ht⟩) hS.2.2 dX9_copy_29
  refine lv_astore (lv' := [(6, .ref (sa j2)), (0, .ref a_o), (1, .int x1), (2, .int x2), (3, .int x3), (4, .int x4), (5, .int x5)]) hx hb dX9_copy_5 hl (by decide) rfl (fun ls hl => ?_)
  refine lv_aload_n hx hb dX9_copy_7 rfl (lv_at hl 1 rfl) ?_
  refine lv_iload_n hx hb dX9_copy_8 rfl (lv_at hl 3 rfl) ?_
  refine ro_s (roV S hE hT hS (c_X9_shelfAt h) lkX9_55 rfl ⟨(Nat.le_of_ble_eq_true rfl), (Nat.le_of_ble_eq_true rfl)⟩ (hP.sub [0, 2] rfl) 0 rfl rfl hl.1 rfl (Nat.le_of_ble_eq_true rfl) dX9_copy_9 ⟨(Nat.zero_le _), (Nat.zero_le _)⟩) (fun h => ?_) (fun j9 hj9 h => ?_)
  · refine lv_astoreN (lv' := [(7, .null), (6, .ref (sa j2)), (0, .ref a_o), (1, .int x1), (2, .int x2), (3, .int x3), (4, .int x4), (5, .int x5)]) hx hb dX9_copy_12 hl (by decide) rfl (fun ls hl => ?_)
    refine lv_aload hx hb dX9_copy_14 (lv_at hl 1 rfl) ?_
    refine lv_ifnull hx hb dX9_copy_16 ?_
    refine lv_aloadN hx hb dX9_copy_19 (lv_at hl 0 rfl) ?_
    refine lv_ifnonnullN hx hb dX9_copy_21 ?_
    refine lv_aload_n hx hb dX9_copy_24 rfl (lv_at hl 2 rfl) ?_
    refine lv_iconst (v := (-1)) hx hb dX9_copy_25 (by decide) ?_
    refine rw_i (rwV S hE hT hS hP hD hA (c_X9_refuse h) [0, 1] rfl (by decide +kernel) lkX9_59 rfl ⟨(Nat.le_of_ble_eq_true rfl), (Nat.le_of_ble_eq_true rfl)⟩ 0 rfl rfl hl.1 rfl (Nat.le_of_ble_eq_true rfl) dX9_copy_26 ⟨(Nat.zero_le _), (Nat.zero_le _)⟩) hP hD hS hA [0, 1] rfl (by decide +kernel) (fun _ => rfl) (fun r26 w26_0 H locs h hP hD hS => ?_)
    try dsimp only at h
    have hP : va_P D vwCl (wX9_copy cI cJ cS a_o a_refused a_shelves z_road z_kept z_ahead z_cutting z_acting sa ea v_imaged v_lastFault w26_0 f_sh_held f_sh_sort f_sh_cnt f_sh_num g_sh_el) H := hP
    have hD : va_D A (wX9_copy cI cJ cS a_o a_refused a_shelves z_road z_kept z_ahead z_cutting z_acting sa ea v_imaged v_lastFault w26_0 f_sh_held f_sh_sort f_sh_cnt f_sh_num g_sh_el) := hD
    exact W.iret hx hb hr (fun t ht _ => ⟨⟨_, (w26_0, g_sh_el), rfl, h, hPt hP ht⟩, hS.F ht⟩) hS.2.2 dX9_copy_29
  refine lv_astore (lv' := [(7, .ref (sa j9)), (6, .ref (sa j2)), (0, .ref a_o), (1, .int x1), (2, .int x2), (3, .int x3), (4, .int x4), (5, .int x5)]) hx hb dX9_copy_12 hl (by decide) rfl (fun ls hl => ?_)
  refine lv_aload hx hb dX9_copy_14 (lv_at hl 1 rfl) ?_
  refine lv_ifnull hx hb dX9_copy_16 ?_
  refine lv_aload hx hb dX9_copy_19 (lv_at hl 0 rfl) ?_
  refine lv_ifnonnull (tgt := 30) hx hb dX9_copy_21 (by decide) ?_
  refine lv_aload hx hb dX9_copy_30 (lv_at hl 1 rfl) ?_
  refine ro_i (roV S hE hT hS (c_X6_holdsStretch h) lkX9_83 rfl ⟨(Nat.le_of_ble_eq_true rfl), (Nat.le_of_ble_eq_true rfl)⟩ (vPc hP (shS rfl hj2) vPn) 0 rfl rfl hl.1 rfl (Nat.le_of_ble_eq_true rfl) dX9_copy_32 ⟨(Nat.zero_le _), (Nat.zero_le _)⟩) (fun r32 h => ?_)
  refine lv_if_ne (tgt := 56) hx hb dX9_copy_35 (by decide) (fun hc => ?_) (fun hc => ?_)
  · have h := h.2 hc
    refine lv_aload_n hx hb dX9_copy_56 rfl (lv_at hl 2 rfl) ?_
    refine lv_bipush (v := (-2)) hx hb dX9_copy_57 (by decide) ?_
    refine rw_i (rwV S hE hT hS hP hD hA (c_X9_refuse h) [0, 1] rfl (by decide +kernel) lkX9_59 rfl ⟨(Nat.le_of_ble_eq_true rfl), (Nat.le_of_ble_eq_true rfl)⟩ 0 rfl rfl hl.1 rfl (Nat.le_of_ble_eq_true rfl) dX9_copy_59 ⟨(Nat.zero_le _), (Nat.zero_le _)⟩) hP hD hS hA [0, 1] rfl (by decide +kernel) (fun _ => rfl) (fun r59 w59_0 H locs h hP hD hS => ?_)
    try dsimp only at h
    have hP : va_P D vwCl (wX9_copy cI cJ cS a_o a_refused a_shelves z_road z_kept z_ahead z_cutting z_acting sa ea v_imaged v_lastFault w59_0 f_sh_held f_sh_sort f_sh_cnt f_sh_num g_sh_el) H := hP
    have hD : va_D A (wX9_copy cI cJ cS a_o a_refused a_shelves z_road z_kept z_ahead z_cutting z_acting sa ea v_imaged v_lastFault w59_0 f_sh_held f_sh_sort f_sh_cnt f_sh_num g_sh_el) := hD
    exact W.iret hx hb hr (fun t ht _ => ⟨⟨_, (w59_0, g_sh_el), rfl, h, hPt hP ht⟩, hS.F ht⟩) hS.2.2 dX9_copy_62
  have h := h.1 hc
  refine lv_aload hx hb dX9_copy_38 (lv_at hl 0 rfl) ?_
  refine ro_i (roV S hE hT hS (c_X6_holdsStretch h) lkX9_83 rfl ⟨(Nat.le_of_ble_eq_true rfl), (Nat.le_of_ble_eq_true rfl)⟩ (vPc hP (shS rfl hj9) vPn) 0 rfl rfl hl.1 rfl (Nat.le_of_ble_eq_true rfl) dX9_copy_40 ⟨(Nat.zero_le _), (Nat.zero_le _)⟩) (fun r40 h => ?_)
  refine lv_if_ne (tgt := 56) hx hb dX9_copy_43 (by decide) (fun hc => ?_) (fun hc => ?_)
  · have h := h.2 hc
    refine lv_aload_n hx hb dX9_copy_56 rfl (lv_at hl 2 rfl) ?_
    refine lv_bipush (v := (-2)) hx hb dX9_copy_57 (by decide) ?_
    refine rw_i (rwV S hE hT hS hP hD hA (c_X9_refuse h) [0, 1] rfl (by decide +kernel) lkX9_59 rfl ⟨(Nat.le_of_ble_eq_true rfl), (Nat.le_of_ble_eq_true rfl)⟩ 0 rfl rfl hl.1 rfl (Nat.le_of_ble_eq_true rfl) dX9_copy_59 ⟨(Nat.zero_le _), (Nat.zero_le _)⟩) hP hD hS hA [0, 1] rfl (by decide +kernel) (fun _ => rfl) (fun r59 w59_0 H locs h hP hD hS => ?_)
    try dsimp only at h
    have hP : va_P D vwCl (wX9_copy cI cJ cS a_o a_refused a_shelves z_road z_kept z_ahead z_cutting z_acting sa ea v_imaged v_lastFault w59_0 f_sh_held f_sh_sort f_sh_cnt f_sh_num g_sh_el) H := hP
    have hD : va_D A (wX9_copy cI cJ cS a_o a_refused a_shelves z_road z_kept z_ahead z_cutting z_acting sa ea v_imaged v_lastFault w59_0 f_sh_held f_sh_sort f_sh_cnt f_sh_num g_sh_el) := hD
    exact W.iret hx hb hr (fun t ht _ => ⟨⟨_, (w59_0, g_sh_el), rfl, h, hPt hP ht⟩, hS.F ht⟩) hS.2.2 dX9_copy_62
  have h := h.1 hc
  refine lv_aload hx hb dX9_copy_46 (lv_at hl 1 rfl) ?_
  refine lv_aload hx hb dX9_copy_48 (lv_at hl 0 rfl) ?_
  refine ro_i (roV S hE hT hS (c_X6_isRowUnlike h) lkX9_87 rfl ⟨(Nat.le_of_ble_eq_true rfl), (Nat.le_of_ble_eq_true rfl)⟩ (vPc hP (shS rfl hj2) (vPc hP (shS rfl hj9) vPn)) 0 rfl rfl hl.1 rfl (Nat.le_of_ble_eq_true rfl) dX9_copy_50 ⟨(Nat.zero_le _), (Nat.zero_le _)⟩) (fun r50 h => ?_)
  refine lv_if_eq (tgt := 63) hx hb dX9_copy_53 (by decide) (fun hc => ?_) (fun hc => ?_)
  · have h := h.1 hc
    refine lv_aload hx hb dX9_copy_63 (lv_at hl 1 rfl) ?_
    refine ro_i (roV S hE hT hS (c_X6_holdsRow h) lkX9_91 rfl ⟨(Nat.le_of_ble_eq_true rfl), (Nat.le_of_ble_eq_true rfl)⟩ (vPc hP (shS rfl hj2) vPn) 0 rfl rfl hl.1 rfl (Nat.le_of_ble_eq_true rfl) dX9_copy_65 ⟨(Nat.zero_le _), (Nat.zero_le _)⟩) (fun r65 h => ?_)
    refine lv_if_eq (tgt := 79) hx hb dX9_copy_68 (by decide) (fun hc => ?_) (fun hc => ?_)
    · have h := h.1 hc
      refine lv_aload_n hx hb dX9_copy_79 rfl (lv_at hl 2 rfl) ?_
      refine lv_bipush (v := (-3)) hx hb dX9_copy_80 (by decide) ?_
      refine rw_i (rwV S hE hT hS hP hD hA (c_X9_refuse h) [0, 1] rfl (by decide +kernel) lkX9_59 rfl ⟨(Nat.le_of_ble_eq_true rfl), (Nat.le_of_ble_eq_true rfl)⟩ 0 rfl rfl hl.1 rfl (Nat.le_of_ble_eq_true rfl) dX9_copy_82 ⟨(Nat.zero_le _), (Nat.zero_le _)⟩) hP hD hS hA [0, 1] rfl (by decide +kernel) (fun _ => rfl) (fun r82 w82_0 H locs h hP hD hS => ?_)
      try dsimp only at h
      have hP : va_P D vwCl (wX9_copy cI cJ cS a_o a_refused a_shelves z_road z_kept z_ahead z_cutting z_acting sa ea v_imaged v_lastFault w82_0 f_sh_held f_sh_sort f_sh_cnt f_sh_num g_sh_el) H := hP
      have hD : va_D A (wX9_copy cI cJ cS a_o a_refused a_shelves z_road z_kept z_ahead z_cutting z_acting sa ea v_imaged v_lastFault w82_0 f_sh_held f_sh_sort f_sh_cnt f_sh_num g_sh_el) := hD
      exact W.iret hx hb hr (fun t ht _ => ⟨⟨_, (w82_0, g_sh_el), rfl, h, hPt hP ht⟩, hS.F ht⟩) hS.2.2 dX9_copy_85
    have h := h.2 hc
    refine lv_aload hx hb dX9_copy_71 (lv_at hl 0 rfl) ?_
    refine ro_i (roV S hE hT hS (c_X6_holdsRow h) lkX9_91 rfl ⟨(Nat.le_of_ble_eq_true rfl), (Nat.le_of_ble_eq_true rfl)⟩ (vPc hP (shS rfl hj9) vPn) 0 rfl rfl hl.1 rfl (Nat.le_of_ble_eq_true rfl) dX9_copy_73 ⟨(Nat.zero_le _), (Nat.zero_le _)⟩) (fun r73 h => ?_)
    refine lv_if_ne (tgt := 86) hx hb dX9_copy_76 (by decide) (fun hc => ?_) (fun hc => ?_)
    · have h := h.2 hc
      refine lv_iload hx hb dX9_copy_86 (lv_at hl 7 rfl) ?_
      refine lv_if_ge (tgt := 98) hx hb dX9_copy_88 (by decide) (fun hc => ?_) (fun hc => ?_)
      · have h := h.1 hc
        refine lv_aload hx hb dX9_copy_98 (lv_at hl 1 rfl) ?_
        refine lv_iload_n hx hb dX9_copy_100 rfl (lv_at hl 5 rfl) ?_
        refine lv_iload hx hb dX9_copy_101 (lv_at hl 7 rfl) ?_
        refine ro_i (roV S hE hT hS (c_X6_hasElements h) lkX9_94 rfl ⟨(Nat.le_of_ble_eq_true rfl), (Nat.le_of_ble_eq_true rfl)⟩ (vPc hP (shS rfl hj2) vPn) 0 rfl rfl hl.1 rfl (Nat.le_of_ble_eq_true rfl) dX9_copy_103 ⟨(Nat.zero_le _), (Nat.zero_le _)⟩) (fun r103 h => ?_)
        refine lv_if_eq (tgt := 121) hx hb dX9_copy_106 (by decide) (fun hc => ?_) (fun hc => ?_)
        · have h := h.1 hc
          refine lv_aload_n hx hb dX9_copy_121 rfl (lv_at hl 2 rfl) ?_
          refine lv_bipush (v := (-5)) hx hb dX9_copy_122 (by decide) ?_
          refine rw_i (rwV S hE hT hS hP hD hA (c_X9_refuse h) [0, 1] rfl (by decide +kernel) lkX9_59 rfl ⟨(Nat.le_of_ble_eq_true rfl), (Nat.le_of_ble_eq_true rfl)⟩ 0 rfl rfl hl.1 rfl (Nat.le_of_ble_eq_true rfl) dX9_copy_124 ⟨(Nat.zero_le _), (Nat.zero_le _)⟩) hP hD hS hA [0, 1] rfl (by decide +kernel) (fun _ => rfl) (fun r124 w124_0 H locs h hP hD hS => ?_)
          try dsimp only at h
          have hP : va_P D vwCl (wX9_copy cI cJ cS a_o a_refused a_shelves z_road z_kept z_ahead z_cutting z_acting sa ea v_imaged v_lastFault w124_0 f_sh_held f_sh_sort f_sh_cnt f_sh_num g_sh_el) H := hP
          have hD : va_D A (wX9_copy cI cJ cS a_o a_refused a_shelves z_road z_kept z_ahead z_cutting z_acting sa ea v_imaged v_lastFault w124_0 f_sh_held f_sh_sort f_sh_cnt f_sh_num g_sh_el) := hD
          exact W.iret hx hb hr (fun t ht _ => ⟨⟨_, (w124_0, g_sh_el), rfl, h, hPt hP ht⟩, hS.F ht⟩) hS.2.2 dX9_copy_127
        have h := h.2 hc
        refine lv_aload hx hb dX9_copy_109 (lv_at hl 0 rfl) ?_
        refine lv_iload hx hb dX9_copy_111 (lv_at hl 6 rfl) ?_
        refine lv_iload hx hb dX9_copy_113 (lv_at hl 7 rfl) ?_
        refine ro_i (roV S hE hT hS (c_X6_hasElements h) lkX9_94 rfl ⟨(Nat.le_of_ble_eq_true rfl), (Nat.le_of_ble_eq_true rfl)⟩ (vPc hP (shS rfl hj9) vPn) 0 rfl rfl hl.1 rfl (Nat.le_of_ble_eq_true rfl) dX9_copy_115 ⟨(Nat.zero_le _), (Nat.zero_le _)⟩) (fun r115 h => ?_)
        refine lv_if_ne (tgt := 128) hx hb dX9_copy_118 (by decide) (fun hc => ?_) (fun hc => ?_)
        · have h := h.2 hc
          refine lv_aload hx hb dX9_copy_128 (lv_at hl 0 rfl) ?_
          refine lv_aload hx hb dX9_copy_130 (lv_at hl 1 rfl) ?_
          refine lv_iload_n hx hb dX9_copy_132 rfl (lv_at hl 5 rfl) ?_
          refine lv_iload hx hb dX9_copy_133 (lv_at hl 6 rfl) ?_
          refine lv_iload hx hb dX9_copy_135 (lv_at hl 7 rfl) ?_
          by_cases hjj : j2 = j9
          · have hk77 := h.1 hjj
            subst hjj
            have h := hk77
            refine rw_v (rwV S hE hT hS hP hD hA (c_X6_takeFrom_same h) [(3 + 2 * j2), (3 + 2 * j2 + 1)] (mCc (shS rfl hj2) (mCc (shE rfl hj2) mCn)) (by simp [va_nd]; try omega) lkX9_98 rfl ⟨(Nat.le_of_ble_eq_true rfl), (Nat.le_of_ble_eq_true rfl)⟩ _ (shS rfl hj2) rfl hl.1 rfl (Nat.le_of_ble_eq_true rfl) dX9_copy_137 ⟨(Nat.zero_le _), (Nat.zero_le _)⟩) hP hD hS hA [(3 + 2 * j2), (3 + 2 * j2 + 1)] (mCc (shS rfl hj2) (mCc (shE rfl hj2) mCn)) (by simp [va_nd]; try omega) (fun _ => rfl) (fun w137_0 H locs h hP hD hS => ?_)
            try dsimp only at h
            have hP : va_P D vwCl (wX9_copy cI cJ cS a_o a_refused a_shelves z_road z_kept z_ahead z_cutting z_acting sa ea v_imaged v_lastFault f_refused f_sh_held f_sh_sort f_sh_cnt f_sh_num (va_up g_sh_el j2 w137_0)) H := by (rcases lt8 hj2 with rfl | rfl | rfl | rfl | rfl | rfl | rfl | rfl) <;> exact hP
            have hD : va_D A (wX9_copy cI cJ cS a_o a_refused a_shelves z_road z_kept z_ahead z_cutting z_acting sa ea v_imaged v_lastFault f_refused f_sh_held f_sh_sort f_sh_cnt f_sh_num (va_up g_sh_el j2 w137_0)) := by (rcases lt8 hj2 with rfl | rfl | rfl | rfl | rfl | rfl | rfl | rfl) <;> exact hD
            refine lv_iconst (v := 1) hx hb dX9_copy_140 (by decide) ?_
            exact W.iret hx hb hr (fun t ht _ => ⟨⟨_, (f_refused, (va_up g_sh_el j2 w137_0)), rfl, h, hPt hP ht⟩, hS.F ht⟩) hS.2.2 dX9_copy_141
          replace h := h.2 hjj
          refine rw_v (rwV S hE hT hS hP hD hA (c_X6_takeFrom h) [(3 + 2 * j9), (3 + 2 * j9 + 1), (3 + 2 * j2), (3 + 2 * j2 + 1)] (mCc (shS rfl hj9) (mCc (shE rfl hj9) (mCc (shS rfl hj2) (mCc (shE rfl hj2) mCn)))) (by simp [va_nd]; try omega) lkX9_98 rfl ⟨(Nat.le_of_ble_eq_true rfl), (Nat.le_of_ble_eq_true rfl)⟩ _ (shS rfl hj9) rfl hl.1 rfl (Nat.le_of_ble_eq_true rfl) dX9_copy_137 ⟨(Nat.zero_le _), (Nat.zero_le _)⟩) hP hD hS hA [(3 + 2 * j9), (3 + 2 * j9 + 1), (3 + 2 * j2), (3 + 2 * j2 + 1)] (mCc (shS rfl hj9) (mCc (shE rfl hj9) (mCc (shS rfl hj2) (mCc (shE rfl hj2) mCn)))) (by simp [va_nd]; try omega) (fun _ => rfl) (fun w137_0 H locs h hP hD hS => ?_)
          try dsimp only at h
          have hP : va_P D vwCl (wX9_copy cI cJ cS a_o a_refused a_shelves z_road z_kept z_ahead z_cutting z_acting sa ea v_imaged v_lastFault f_refused f_sh_held f_sh_sort f_sh_cnt f_sh_num (va_up g_sh_el j9 w137_0)) H := by (rcases lt8 hj9 with rfl | rfl | rfl | rfl | rfl | rfl | rfl | rfl <;> rcases lt8 hj2 with rfl | rfl | rfl | rfl | rfl | rfl | rfl | rfl) <;> first | exact hP | exact absurd rfl hjj
          have hD : va_D A (wX9_copy cI cJ cS a_o a_refused a_shelves z_road z_kept z_ahead z_cutting z_acting sa ea v_imaged v_lastFault f_refused f_sh_held f_sh_sort f_sh_cnt f_sh_num (va_up g_sh_el j9 w137_0)) := by (rcases lt8 hj9 with rfl | rfl | rfl | rfl | rfl | rfl | rfl | rfl <;> rcases lt8 hj2 with rfl | rfl | rfl | rfl | rfl | rfl | rfl | rfl) <;> first | exact hD | exact absurd rfl hjj
          refine lv_iconst (v := 1) hx hb dX9_copy_140 (by decide) ?_
          exact W.iret hx hb hr (fun t ht _ => ⟨⟨_, (f_refused, (va_up g_sh_el j9 w137_0)), rfl, h, hPt hP ht⟩, hS.F ht⟩) hS.2.2 dX9_copy_141
        have h := h.1 hc
        refine lv_aload_n hx hb dX9_copy_121 rfl (lv_at hl 2 rfl) ?_
        refine lv_bipush (v := (-5)) hx hb dX9_copy_122 (by decide) ?_
        refine rw_i (rwV S hE hT hS hP hD hA (c_X9_refuse h) [0, 1] rfl (by decide +kernel) lkX9_59 rfl ⟨(Nat.le_of_ble_eq_true rfl), (Nat.le_of_ble_eq_true rfl)⟩ 0 rfl rfl hl.1 rfl (Nat.le_of_ble_eq_true rfl) dX9_copy_124 ⟨(Nat.zero_le _), (Nat.zero_le _)⟩) hP hD hS hA [0, 1] rfl (by decide +kernel) (fun _ => rfl) (fun r124 w124_0 H locs h hP hD hS => ?_)
        try dsimp only at h
        have hP : va_P D vwCl (wX9_copy cI cJ cS a_o a_refused a_shelves z_road z_kept z_ahead z_cutting z_acting sa ea v_imaged v_lastFault w124_0 f_sh_held f_sh_sort f_sh_cnt f_sh_num g_sh_el) H := hP
        have hD : va_D A (wX9_copy cI cJ cS a_o a_refused a_shelves z_road z_kept z_ahead z_cutting z_acting sa ea v_imaged v_lastFault w124_0 f_sh_held f_sh_sort f_sh_cnt f_sh_num g_sh_el) := hD
        exact W.iret hx hb hr (fun t ht _ => ⟨⟨_, (w124_0, g_sh_el), rfl, h, hPt hP ht⟩, hS.F ht⟩) hS.2.2 dX9_copy_127
      have h := h.2 hc
      refine lv_aload_n hx hb dX9_copy_91 rfl (lv_at hl 2 rfl) ?_
      refine lv_bipush (v := (-4)) hx hb dX9_copy_92 (by decide) ?_
      refine rw_i (rwV S hE hT hS hP hD hA (c_X9_refuse h) [0, 1] rfl (by decide +kernel) lkX9_59 rfl ⟨(Nat.le_of_ble_eq_true rfl), (Nat.le_of_ble_eq_true rfl)⟩ 0 rfl rfl hl.1 rfl (Nat.le_of_ble_eq_true rfl) dX9_copy_94 ⟨(Nat.zero_le _), (Nat.zero_le _)⟩) hP hD hS hA [0, 1] rfl (by decide +kernel) (fun _ => rfl) (fun r94 w94_0 H locs h hP hD hS => ?_)
      try dsimp only at h
      have hP : va_P D vwCl (wX9_copy cI cJ cS a_o a_refused a_shelves z_road z_kept z_ahead z_cutting z_acting sa ea v_imaged v_lastFault w94_0 f_sh_held f_sh_sort f_sh_cnt f_sh_num g_sh_el) H := hP
      have hD : va_D A (wX9_copy cI cJ cS a_o a_refused a_shelves z_road z_kept z_ahead z_cutting z_acting sa ea v_imaged v_lastFault w94_0 f_sh_held f_sh_sort f_sh_cnt f_sh_num g_sh_el) := hD
      exact W.iret hx hb hr (fun t ht _ => ⟨⟨_, (w94_0, g_sh_el), rfl, h, hPt hP ht⟩, hS.F ht⟩) hS.2.2 dX9_copy_97
    have h := h.1 hc
    refine lv_aload_n hx hb dX9_copy_79 rfl (lv_at hl 2 rfl) ?_
    refine lv_bipush (v := (-3)) hx hb dX9_copy_80 (by decide) ?_
    refine rw_i (rwV S hE hT hS hP hD hA (c_X9_refuse h) [0, 1] rfl (by decide +kernel) lkX9_59 rfl ⟨(Nat.le_of_ble_eq_true rfl), (Nat.le_of_ble_eq_true rfl)⟩ 0 rfl rfl hl.1 rfl (Nat.le_of_ble_eq_true rfl) dX9_copy_82 ⟨(Nat.zero_le _), (Nat.zero_le _)⟩) hP hD hS hA [0, 1] rfl (by decide +kernel) (fun _ => rfl) (fun r82 w82_0 H locs h hP hD hS => ?_)
    try dsimp only at h
    have hP : va_P D vwCl (wX9_copy cI cJ cS a_o a_refused a_shelves z_road z_kept z_ahead z_cutting z_acting sa ea v_imaged v_lastFault w82_0 f_sh_held f_sh_sort f_sh_cnt f_sh_num g_sh_el) H := hP
    have hD : va_D A (wX9_copy cI cJ cS a_o a_refused a_shelves z_road z_kept z_ahead z_cutting z_acting sa ea v_imaged v_lastFault w82_0 f_sh_held f_sh_sort f_sh_cnt f_sh_num g_sh_el) := hD
    exact W.iret hx hb hr (fun t ht _ => ⟨⟨_, (w82_0, g_sh_el), rfl, h, hPt hP ht⟩, hS.F ht⟩) hS.2.2 dX9_copy_85
  have h := h.2 hc
  refine lv_aload_n hx hb dX9_copy_56 rfl (lv_at hl 2 rfl) ?_
  refine lv_bipush (v := (-2)) hx hb dX9_copy_57 (by decide) ?_
  refine rw_i (rwV S hE hT hS hP hD hA (c_X9_refuse h) [0, 1] rfl (by decide +kernel) lkX9_59 rfl ⟨(Nat.le_of_ble_eq_true rfl), (Nat.le_of_ble_eq_true rfl)⟩ 0 rfl rfl hl.1 rfl (Nat.le_of_ble_eq_true rfl) dX9_copy_59 ⟨(Nat.zero_le _), (Nat.zero_le _)⟩) hP hD hS hA [0, 1] rfl (by decide +kernel) (fun _ => rfl) (fun r59 w59_0 H locs h hP hD hS => ?_)
  try dsimp only at h
  have hP : va_P D vwCl (wX9_copy cI cJ cS a_o a_refused a_shelves z_road z_kept z_ahead z_cutting z_acting sa ea v_imaged v_lastFault w59_0 f_sh_held f_sh_sort f_sh_cnt f_sh_num g_sh_el) H := hP
  have hD : va_D A (wX9_copy cI cJ cS a_o a_refused a_shelves z_road z_kept z_ahead z_cutting z_acting sa ea v_imaged v_lastFault w59_0 f_sh_held f_sh_sort f_sh_cnt f_sh_num g_sh_el) := hD
  exact W.iret hx hb hr (fun t ht _ => ⟨⟨_, (w59_0, g_sh_el), rfl, h, hPt hP ht⟩, hS.F ht⟩) hS.2.2 dX9_copy_62
/-! X9_element -/
abbrev wX9_element (cI cJ cS : ClassId) (a_o a_shelves : Nat) (z_road z_kept z_ahead z_cutting z_acting z_refused : Value) (sa ea : Nat → Nat) (v_imaged : Int32) (v_lastFault : Int32) (f_sh_held : Nat → Int32) (f_sh_sort : Nat → Int32) (f_sh_cnt : Nat → Int32) (f_sh_num : Nat → Int32) (g_sh_el : Nat → Nat → Int64) : va_W := [(a_o, .inr (8, [z_road, z_kept, z_ahead, .ref a_shelves, z_cutting, z_acting, z_refused, .int v_imaged, .int v_lastFault])), (a_shelves, .inl (cS, 8, .inr (.inr (.inr (.inr (fun k => some (sa k)))))))] ++ shW sa ea cJ f_sh_held f_sh_sort f_sh_cnt f_sh_num g_sh_el
def F_X9_element (f_sh_cnt : Nat → Int32) (g_sh_el : Nat → Nat → Int64) (x1 : Int32) (x2 : Int32) (post : Int64 → Prop) : Prop := (F_X9_shelfAt x1 (post 0) (fun j2 => (F_X6_elementAt (f_sh_cnt j2) (g_sh_el j2) x2 (fun r16 => post r16))))
set_option maxHeartbeats 4000000 in
set_option maxRecDepth 100000 in
theorem c_X9_element {l : Launch} {D : va_G} {cI cJ cS : ClassId} {ad adK : Nat → Nat} {a_o a_shelves : Nat} {z_road z_kept z_ahead z_cutting z_acting z_refused : Value} {sa ea : Nat → Nat} {v_imaged : Int32} {v_lastFault : Int32} {f_sh_held : Nat → Int32} {f_sh_sort : Nat → Int32} {f_sh_cnt : Nat → Int32} {f_sh_num : Nat → Int32} {g_sh_el : Nat → Nat → Int64} {x1 : Int32} {x2 : Int32} {post : Int64 → Prop} (h : F_X9_element f_sh_cnt g_sh_el x1 x2 post) : Met l yX9_element (Cond.code yX9_element cX9_element 4 (some (.long)) :: GW) (rmd 2 0 0) (PR D cI cJ cS ad adK [.ref a_o, .int x1, .int x2] (wX9_element cI cJ cS a_o a_shelves z_road z_kept z_ahead z_cutting z_acting z_refused sa ea v_imaged v_lastFault f_sh_held f_sh_sort f_sh_cnt f_sh_num g_sh_el)) (vp_Sl post) 0 0 nof := by
  refine Met.ro (by decide) (Nat.le_of_ble_eq_true rfl) (fun p e s m args below meth c ls (S : CallFix p m c cX9_element 4 s args GW "RoadThatSings") hE hT hP hS hr hlocks hl => ?_)
  have hx := S.1
  have hb := S.2.1
  have hl : lv_has ls 4 [(0, .ref a_o), (1, .int x1), (2, .int x2)] := hl
  unfold F_X9_element at h
  refine lv_aload_n hx hb dX9_element_0 rfl (lv_at hl 0 rfl) ?_
  refine lv_iload_n hx hb dX9_element_1 rfl (lv_at hl 1 rfl) ?_
  refine ro_s (roV S hE hT hS (c_X9_shelfAt h) lkX9_55 rfl ⟨(Nat.le_of_ble_eq_true rfl), (Nat.le_of_ble_eq_true rfl)⟩ (hP.sub [0, 1] rfl) 0 rfl rfl hl.1 rfl (Nat.le_of_ble_eq_true rfl) dX9_element_2 ⟨(Nat.zero_le _), (Nat.zero_le _)⟩) (fun h => ?_) (fun j2 hj2 h => ?_)
  · refine lv_astore_nN (lv' := [(3, .null), (0, .ref a_o), (1, .int x1), (2, .int x2)]) hx hb dX9_element_5 rfl hl (by decide) rfl (fun ls hl => ?_)
    refine lv_aload_nN hx hb dX9_element_6 rfl (lv_at hl 0 rfl) ?_
    refine lv_ifnonnullN hx hb dX9_element_7 ?_
    refine lv_lconst (v := 0) hx hb dX9_element_10 (by decide) ?_
    refine lv_goto (tgt := 19) hx hb dX9_element_11 (by decide) ?_
    exact W.lret hx hb hr (fun t ht _ => ⟨_, rfl, h, ht⟩) (fun _ hq => by cases hq) dX9_element_19
  refine lv_astore_n (lv' := [(3, .ref (sa j2)), (0, .ref a_o), (1, .int x1), (2, .int x2)]) hx hb dX9_element_5 rfl hl (by decide) rfl (fun ls hl => ?_)
  refine lv_aload_n hx hb dX9_element_6 rfl (lv_at hl 0 rfl) ?_
  refine lv_ifnonnull (tgt := 14) hx hb dX9_element_7 (by decide) ?_
  refine lv_aload_n hx hb dX9_element_14 rfl (lv_at hl 0 rfl) ?_
  refine lv_iload_n hx hb dX9_element_15 rfl (lv_at hl 3 rfl) ?_
  refine ro_l (roV S hE hT hS (c_X6_elementAt h) lkX9_102 rfl ⟨(Nat.le_of_ble_eq_true rfl), (Nat.le_of_ble_eq_true rfl)⟩ (vPc hP (shS rfl hj2) (vPc hP (shE rfl hj2) vPn)) 0 rfl rfl hl.1 rfl (Nat.le_of_ble_eq_true rfl) dX9_element_16 ⟨(Nat.zero_le _), (Nat.zero_le _)⟩) (fun r16 h => ?_)
  exact W.lret hx hb hr (fun t ht _ => ⟨_, rfl, h, ht⟩) (fun _ hq => by cases hq) dX9_element_19
/-! X9_show -/
abbrev wX9_show (cI cJ cS : ClassId) (a_o a_refused a_road a_road_stretches a_shelves : Nat) (z_kept z_ahead z_cutting z_acting z_road_cars z_road_tunes z_road_demands z_road_stretches_kinds z_road_stretches_spaces z_road_stretches_others z_road_stretches_times : Value) (sa ea : Nat → Nat) (v_imaged : Int32) (v_lastFault : Int32) (f_refused : Nat → Int32) (v_road_drawSeed : Int32) (v_road_stretches_stretchCount : Int32) (f_sh_held : Nat → Int32) (f_sh_sort : Nat → Int32) (f_sh_cnt : Nat → Int32) (f_sh_num : Nat → Int32) (g_sh_el : Nat → Nat → Int64) : va_W := [(a_o, .inr (8, [.ref a_road, z_kept, z_ahead, .ref a_shelves, z_cutting, z_acting, .ref a_refused, .int v_imaged, .int v_lastFault])), (a_refused, .inl (cI, 8, .inl f_refused)), (a_road, .inr (4, [.ref a_road_stretches, z_road_cars, z_road_tunes, z_road_demands, .int v_road_drawSeed])), (a_road_stretches, .inr (6, [z_road_stretches_kinds, z_road_stretches_spaces, z_road_stretches_others, z_road_stretches_times, .int v_road_stretches_stretchCount])), (a_shelves, .inl (cS, 8, .inr (.inr (.inr (.inr (fun k => some (sa k)))))))] ++ shW sa ea cJ f_sh_held f_sh_sort f_sh_cnt f_sh_num g_sh_el
def F_X9_show_35 (post : Int32 → (Nat → Int32) → (Nat → Int32) → (Nat → Int32) → (Nat → Int32) → Prop) (x2 : Int32) (j3 : Nat) (f_refused : Nat → Int32) (f_sh_held : Nat → Int32) (f_sh_cnt : Nat → Int32) (f_sh_num : Nat → Int32) : Prop := ((x2 = (-1) → (F_X6_holdNothing (f_sh_held j3) (f_sh_cnt j3) (fun w41_0 w41_1 => post 0 f_refused (va_up f_sh_held j3 w41_0) (va_up f_sh_cnt j3 w41_1) f_sh_num))) ∧ (¬ x2 = (-1) → (F_X6_holdStretch (f_sh_held j3) (f_sh_cnt j3) (f_sh_num j3) x2 (fun w48_0 w48_1 w48_2 => post 1 f_refused (va_up f_sh_held j3 w48_0) (va_up f_sh_cnt j3 w48_1) (va_up f_sh_num j3 w48_2)))))
def F_X9_show (f_refused : Nat → Int32) (v_road_stretches_stretchCount : Int32) (f_sh_held : Nat → Int32) (f_sh_cnt : Nat → Int32) (f_sh_num : Nat → Int32) (x1 : Int32) (x2 : Int32) (post : Int32 → (Nat → Int32) → (Nat → Int32) → (Nat → Int32) → (Nat → Int32) → Prop) : Prop := (F_X9_shelfAt x1 ((F_X9_refuse f_refused (-1) (fun r31 w31_0 => post r31 w31_0 f_sh_held f_sh_cnt f_sh_num))) (fun j2 => ((x2 = (-1) → F_X9_show_35 post x2 j2 f_refused f_sh_held f_sh_cnt f_sh_num) ∧ (¬ x2 = (-1) → (F_X7_has v_road_stretches_stretchCount x2 (fun r23 => ((r23 = 0 → (F_X9_refuse f_refused (-1) (fun r31 w31_0 => post r31 w31_0 f_sh_held f_sh_cnt f_sh_num))) ∧ (¬ r23 = 0 → F_X9_show_35 post x2 j2 f_refused f_sh_held f_sh_cnt f_sh_num))))))))
set_option maxHeartbeats 4000000 in
set_option maxRecDepth 100000 in
theorem w_X9_show_35 {l : Launch} {D : va_G} {cI cJ cS : ClassId} {ad adK : Nat → Nat} {a_o a_refused a_road a_road_stretches a_shelves : Nat} {z_kept z_ahead z_cutting z_acting z_road_cars z_road_tunes z_road_demands z_road_stretches_kinds z_road_stretches_spaces z_road_stretches_others z_road_stretches_times : Value} {sa ea : Nat → Nat} {v_imaged : Int32} {v_lastFault : Int32} {f_refused : Nat → Int32} {v_road_drawSeed : Int32} {v_road_stretches_stretchCount : Int32} {f_sh_held : Nat → Int32} {f_sh_sort : Nat → Int32} {f_sh_cnt : Nat → Int32} {f_sh_num : Nat → Int32} {g_sh_el : Nat → Nat → Int64} {x2 : Int32} {j3 : Nat} {post : Int32 → (Nat → Int32) → (Nat → Int32) → (Nat → Int32) → (Nat → Int32) → Prop} {p : Program} {e : Env} {s : State} {m : MethodId} {args : Array Value} {below : List Frame} {meth : Method} {c : Code} {A : Nat → Prop} (S : CallFix p m c cX9_show 4 s args GW "RoadThatSings") (hE : EN D cI cJ cS s) (hT : ST ad adK A s s.heap) (hA : ∀ q : Nat, s.heap.size ≤ q → A q) (hr : meth.sig.returnType = (some (.int))) (hlocks : meth.locks = false) (hjj3 : j3 < 8) : ∀ (H : Heap) (locs : List Loc) (ls : Array Slot), F_X9_show_35 post x2 j3 f_refused f_sh_held f_sh_cnt f_sh_num → va_P D vwCl (wX9_show cI cJ cS a_o a_refused a_road a_road_stretches a_shelves z_kept z_ahead z_cutting z_acting z_road_cars z_road_tunes z_road_demands z_road_stretches_kinds z_road_stretches_spaces z_road_stretches_others z_road_stretches_times sa ea v_imaged v_lastFault f_refused v_road_drawSeed v_road_stretches_stretchCount f_sh_held f_sh_sort f_sh_cnt f_sh_num g_sh_el) H → va_D A (wX9_show cI cJ cS a_o a_refused a_road a_road_stretches a_shelves z_kept z_ahead z_cutting z_acting z_road_cars z_road_tunes z_road_demands z_road_stretches_kinds z_road_stretches_spaces z_road_stretches_others z_road_stretches_times sa ea v_imaged v_lastFault f_refused v_road_drawSeed v_road_stretches_stretchCount f_sh_held f_sh_sort f_sh_cnt f_sh_num g_sh_el) → va_S A s.heap H locs → lv_has ls 4 [(2, .int x2), (3, .ref (sa j3))] → W p l e (rmd 3 0 0) s m args below meth c H locs 0 0 (MQ below (va_Qi (fun r (u : (Nat → Int32) × (Nat → Int32) × (Nat → Int32) × (Nat → Int32)) => post r u.1 u.2.1 u.2.2.1 u.2.2.2) (fun u t => va_P D vwCl (wX9_show cI cJ cS a_o a_refused a_road a_road_stretches a_shelves z_kept z_ahead z_cutting z_acting z_road_cars z_road_tunes z_road_demands z_road_stretches_kinds z_road_stretches_spaces z_road_stretches_others z_road_stretches_times sa ea v_imaged v_lastFault u.1 v_road_drawSeed v_road_stretches_stretchCount u.2.1 f_sh_sort u.2.2.1 u.2.2.2 g_sh_el) t.heap) A) args s 0 0 A) (F0 m 35 ls []) := by
  intro  H locs ls h hP hD hS hl
  unfold F_X9_show_35 at h
  have hx := S.1
  have hb := S.2.1
  refine lv_iload_n hx hb dX9_show_35 rfl (lv_at hl 0 rfl) ?_
  refine lv_iconst (v := (-1)) hx hb dX9_show_36 (by decide) ?_
  refine lv_icmp_ne (tgt := 46) hx hb dX9_show_37 (by decide) (fun hc => ?_) (fun hc => ?_)
  · have h := h.2 hc
    refine lv_aload_n hx hb dX9_show_46 rfl (lv_at hl 1 rfl) ?_
    refine lv_iload_n hx hb dX9_show_47 rfl (lv_at hl 0 rfl) ?_
    refine rw_v (rwV S hE hT hS hP hD hA (c_X6_holdStretch h) [(5 + 2 * j3)] (mCc (shS rfl hjj3) mCn) (by simp [va_nd]; try omega) lkX9_118 rfl ⟨(Nat.le_of_ble_eq_true rfl), (Nat.le_of_ble_eq_true rfl)⟩ _ (shS rfl hjj3) rfl hl.1 rfl (Nat.le_of_ble_eq_true rfl) dX9_show_48 ⟨(Nat.zero_le _), (Nat.zero_le _)⟩) hP hD hS hA [(5 + 2 * j3)] (mCc (shS rfl hjj3) mCn) (by simp [va_nd]; try omega) (fun _ => rfl) (fun u48 H locs h hP hD hS => ?_)
    obtain ⟨w48_0, w48_1, w48_2⟩ := u48
    try dsimp only at h
    have hP : va_P D vwCl (wX9_show cI cJ cS a_o a_refused a_road a_road_stretches a_shelves z_kept z_ahead z_cutting z_acting z_road_cars z_road_tunes z_road_demands z_road_stretches_kinds z_road_stretches_spaces z_road_stretches_others z_road_stretches_times sa ea v_imaged v_lastFault f_refused v_road_drawSeed v_road_stretches_stretchCount (va_up f_sh_held j3 w48_0) f_sh_sort (va_up f_sh_cnt j3 w48_1) (va_up f_sh_num j3 w48_2) g_sh_el) H := by (rcases lt8 hjj3 with rfl | rfl | rfl | rfl | rfl | rfl | rfl | rfl) <;> exact hP
    have hD : va_D A (wX9_show cI cJ cS a_o a_refused a_road a_road_stretches a_shelves z_kept z_ahead z_cutting z_acting z_road_cars z_road_tunes z_road_demands z_road_stretches_kinds z_road_stretches_spaces z_road_stretches_others z_road_stretches_times sa ea v_imaged v_lastFault f_refused v_road_drawSeed v_road_stretches_stretchCount (va_up f_sh_held j3 w48_0) f_sh_sort (va_up f_sh_cnt j3 w48_1) (va_up f_sh_num j3 w48_2) g_sh_el) := by (rcases lt8 hjj3 with rfl | rfl | rfl | rfl | rfl | rfl | rfl | rfl) <;> exact hD
    refine lv_iconst (v := 1) hx hb dX9_show_51 (by decide) ?_
    exact W.iret hx hb hr (fun t ht _ => ⟨⟨_, (f_refused, (va_up f_sh_held j3 w48_0), (va_up f_sh_cnt j3 w48_1), (va_up f_sh_num j3 w48_2)), rfl, h, hPt hP ht⟩, hS.F ht⟩) hS.2.2 dX9_show_52
  have h := h.1 hc
  refine lv_aload_n hx hb dX9_show_40 rfl (lv_at hl 1 rfl) ?_
  refine rw_v (rwV S hE hT hS hP hD hA (c_X6_holdNothing h) [(5 + 2 * j3)] (mCc (shS rfl hjj3) mCn) (by simp [va_nd]; try omega) lkX9_115 rfl ⟨(Nat.le_of_ble_eq_true rfl), (Nat.le_of_ble_eq_true rfl)⟩ _ (shS rfl hjj3) rfl hl.1 rfl (Nat.le_of_ble_eq_true rfl) dX9_show_41 ⟨(Nat.zero_le _), (Nat.zero_le _)⟩) hP hD hS hA [(5 + 2 * j3)] (mCc (shS rfl hjj3) mCn) (by simp [va_nd]; try omega) (fun _ => rfl) (fun u41 H locs h hP hD hS => ?_)
  obtain ⟨w41_0, w41_1⟩ := u41
  try dsimp only at h
  have hP : va_P D vwCl (wX9_show cI cJ cS a_o a_refused a_road a_road_stretches a_shelves z_kept z_ahead z_cutting z_acting z_road_cars z_road_tunes z_road_demands z_road_stretches_kinds z_road_stretches_spaces z_road_stretches_others z_road_stretches_times sa ea v_imaged v_lastFault f_refused v_road_drawSeed v_road_stretches_stretchCount (va_up f_sh_held j3 w41_0) f_sh_sort (va_up f_sh_cnt j3 w41_1) f_sh_num g_sh_el) H := by (rcases lt8 hjj3 with rfl | rfl | rfl | rfl | rfl | rfl | rfl | rfl) <;> exact hP
  have hD : va_D A (wX9_show cI cJ cS a_o a_refused a_road a_road_stretches a_shelves z_kept z_ahead z_cutting z_acting z_road_cars z_road_tunes z_road_demands z_road_stretches_kinds z_road_stretches_spaces z_road_stretches_others z_road_stretches_times sa ea v_imaged v_lastFault f_refused v_road_drawSeed v_road_stretches_stretchCount (va_up f_sh_held j3 w41_0) f_sh_sort (va_up f_sh_cnt j3 w41_1) f_sh_num g_sh_el) := by (rcases lt8 hjj3 with rfl | rfl | rfl | rfl | rfl | rfl | rfl | rfl) <;> exact hD
  refine lv_iconst (v := 0) hx hb dX9_show_44 (by decide) ?_
  exact W.iret hx hb hr (fun t ht _ => ⟨⟨_, (f_refused, (va_up f_sh_held j3 w41_0), (va_up f_sh_cnt j3 w41_1), f_sh_num), rfl, h, hPt hP ht⟩, hS.F ht⟩) hS.2.2 dX9_show_45
set_option maxHeartbeats 4000000 in
set_option maxRecDepth 100000 in
theorem c_X9_show {l : Launch} {D : va_G} {cI cJ cS : ClassId} {ad adK : Nat → Nat} {a_o a_refused a_road a_road_stretches a_shelves : Nat} {z_kept z_ahead z_cutting z_acting z_road_cars z_road_tunes z_road_demands z_road_stretches_kinds z_road_stretches_spaces z_road_stretches_others z_road_stretches_times : Value} {sa ea : Nat → Nat} {v_imaged : Int32} {v_lastFault : Int32} {f_refused : Nat → Int32} {v_road_drawSeed : Int32} {v_road_stretches_stretchCount : Int32} {f_sh_held : Nat → Int32} {f_sh_sort : Nat → Int32} {f_sh_cnt : Nat → Int32} {f_sh_num : Nat → Int32} {g_sh_el : Nat → Nat → Int64} {x1 : Int32} {x2 : Int32} {post : Int32 → (Nat → Int32) → (Nat → Int32) → (Nat → Int32) → (Nat → Int32) → Prop} (h : F_X9_show f_refused v_road_stretches_stretchCount f_sh_held f_sh_cnt f_sh_num x1 x2 post) {sz : Nat} : Met l yX9_show (Cond.code yX9_show cX9_show 4 (some (.int)) :: GW) (rmd 3 0 0) (PW D cI cJ cS ad adK [.ref a_o, .int x1, .int x2] (wX9_show cI cJ cS a_o a_refused a_road a_road_stretches a_shelves z_kept z_ahead z_cutting z_acting z_road_cars z_road_tunes z_road_demands z_road_stretches_kinds z_road_stretches_spaces z_road_stretches_others z_road_stretches_times sa ea v_imaged v_lastFault f_refused v_road_drawSeed v_road_stretches_stretchCount f_sh_held f_sh_sort f_sh_cnt f_sh_num g_sh_el) sz) (va_Qi (fun r (u : (Nat → Int32) × (Nat → Int32) × (Nat → Int32) × (Nat → Int32)) => post r u.1 u.2.1 u.2.2.1 u.2.2.2) (fun u t => va_P D vwCl (wX9_show cI cJ cS a_o a_refused a_road a_road_stretches a_shelves z_kept z_ahead z_cutting z_acting z_road_cars z_road_tunes z_road_demands z_road_stretches_kinds z_road_stretches_spaces z_road_stretches_others z_road_stretches_times sa ea v_imaged v_lastFault u.1 v_road_drawSeed v_road_stretches_stretchCount u.2.1 f_sh_sort u.2.2.1 u.2.2.2 g_sh_el) t.heap) (va_A (wX9_show cI cJ cS a_o a_refused a_road a_road_stretches a_shelves z_kept z_ahead z_cutting z_acting z_road_cars z_road_tunes z_road_demands z_road_stretches_kinds z_road_stretches_spaces z_road_stretches_others z_road_stretches_times sa ea v_imaged v_lastFault f_refused v_road_drawSeed v_road_stretches_stretchCount f_sh_held f_sh_sort f_sh_cnt f_sh_num g_sh_el) sz)) 0 0 (va_A (wX9_show cI cJ cS a_o a_refused a_road a_road_stretches a_shelves z_kept z_ahead z_cutting z_acting z_road_cars z_road_tunes z_road_demands z_road_stretches_kinds z_road_stretches_spaces z_road_stretches_others z_road_stretches_times sa ea v_imaged v_lastFault f_refused v_road_drawSeed v_road_stretches_stretchCount f_sh_held f_sh_sort f_sh_cnt f_sh_num g_sh_el) sz) := by
  refine Met.rw (Qc := fun A => (va_Qi (fun r (u : (Nat → Int32) × (Nat → Int32) × (Nat → Int32) × (Nat → Int32)) => post r u.1 u.2.1 u.2.2.1 u.2.2.2) (fun u t => va_P D vwCl (wX9_show cI cJ cS a_o a_refused a_road a_road_stretches a_shelves z_kept z_ahead z_cutting z_acting z_road_cars z_road_tunes z_road_demands z_road_stretches_kinds z_road_stretches_spaces z_road_stretches_others z_road_stretches_times sa ea v_imaged v_lastFault u.1 v_road_drawSeed v_road_stretches_stretchCount u.2.1 f_sh_sort u.2.2.1 u.2.2.2 g_sh_el) t.heap) A)) (by decide) (Nat.le_of_ble_eq_true rfl) (fun p e s m args below meth c ls A (S : CallFix p m c cX9_show 4 s args GW "RoadThatSings") hE hT hP hD hA hS hr hlocks hname hl => ?_)
  have hS0 := hS
  have hx := S.1
  have hb := S.2.1
  have hl : lv_has ls 4 [(0, .ref a_o), (1, .int x1), (2, .int x2)] := hl
  unfold F_X9_show at h
  refine lv_aload_n hx hb dX9_show_0 rfl (lv_at hl 0 rfl) ?_
  refine lv_iload_n hx hb dX9_show_1 rfl (lv_at hl 1 rfl) ?_
  refine ro_s (roV S hE hT hS (c_X9_shelfAt h) lkX9_55 rfl ⟨(Nat.le_of_ble_eq_true rfl), (Nat.le_of_ble_eq_true rfl)⟩ (hP.sub [0, 4] rfl) 0 rfl rfl hl.1 rfl (Nat.le_of_ble_eq_true rfl) dX9_show_2 ⟨(Nat.zero_le _), (Nat.zero_le _)⟩) (fun h => ?_) (fun j2 hj2 h => ?_)
  · refine lv_astore_nN (lv' := [(3, .null), (0, .ref a_o), (1, .int x1), (2, .int x2)]) hx hb dX9_show_5 rfl hl (by decide) rfl (fun ls hl => ?_)
    refine lv_aload_nN hx hb dX9_show_6 rfl (lv_at hl 0 rfl) ?_
    refine lv_ifnullN (tgt := 29) hx hb dX9_show_7 (by decide) ?_
    refine lv_aload_n hx hb dX9_show_29 rfl (lv_at hl 1 rfl) ?_
    refine lv_iconst (v := (-1)) hx hb dX9_show_30 (by decide) ?_
    refine rw_i (rwV S hE hT hS hP hD hA (c_X9_refuse h) [0, 1] rfl (by decide +kernel) lkX9_59 rfl ⟨(Nat.le_of_ble_eq_true rfl), (Nat.le_of_ble_eq_true rfl)⟩ 0 rfl rfl hl.1 rfl (Nat.le_of_ble_eq_true rfl) dX9_show_31 ⟨(Nat.zero_le _), (Nat.zero_le _)⟩) hP hD hS hA [0, 1] rfl (by decide +kernel) (fun _ => rfl) (fun r31 w31_0 H locs h hP hD hS => ?_)
    try dsimp only at h
    have hP : va_P D vwCl (wX9_show cI cJ cS a_o a_refused a_road a_road_stretches a_shelves z_kept z_ahead z_cutting z_acting z_road_cars z_road_tunes z_road_demands z_road_stretches_kinds z_road_stretches_spaces z_road_stretches_others z_road_stretches_times sa ea v_imaged v_lastFault w31_0 v_road_drawSeed v_road_stretches_stretchCount f_sh_held f_sh_sort f_sh_cnt f_sh_num g_sh_el) H := hP
    have hD : va_D A (wX9_show cI cJ cS a_o a_refused a_road a_road_stretches a_shelves z_kept z_ahead z_cutting z_acting z_road_cars z_road_tunes z_road_demands z_road_stretches_kinds z_road_stretches_spaces z_road_stretches_others z_road_stretches_times sa ea v_imaged v_lastFault w31_0 v_road_drawSeed v_road_stretches_stretchCount f_sh_held f_sh_sort f_sh_cnt f_sh_num g_sh_el) := hD
    exact W.iret hx hb hr (fun t ht _ => ⟨⟨_, (w31_0, f_sh_held, f_sh_cnt, f_sh_num), rfl, h, hPt hP ht⟩, hS.F ht⟩) hS.2.2 dX9_show_34
  refine lv_astore_n (lv' := [(3, .ref (sa j2)), (0, .ref a_o), (1, .int x1), (2, .int x2)]) hx hb dX9_show_5 rfl hl (by decide) rfl (fun ls hl => ?_)
  refine lv_aload_n hx hb dX9_show_6 rfl (lv_at hl 0 rfl) ?_
  refine lv_ifnull hx hb dX9_show_7 ?_
  refine lv_iload_n hx hb dX9_show_10 rfl (lv_at hl 3 rfl) ?_
  refine lv_iconst (v := (-1)) hx hb dX9_show_11 (by decide) ?_
  refine lv_icmp_eq (tgt := 35) hx hb dX9_show_12 (by decide) (fun hc => ?_) (fun hc => ?_)
  · have h := h.1 hc
    refine w_X9_show_35 S hE hT hA hr hlocks hj2 _ _ _ h hP hD hS (lv_sub hl [3, 0] rfl)
  have h := h.2 hc
  refine lv_aload_n hx hb dX9_show_15 rfl (lv_at hl 1 rfl) ?_
  refine gf S hE hP 0 rfl rfl inX9 (k := 0) (by decide) q181 rfl dX9_show_16 ?_
  refine gfN S hE hP 2 rfl rfl inX5 (k := 0) (by decide) nfX9_106 rfl dX9_show_19 ?_
  refine lv_iload_n hx hb dX9_show_22 rfl (lv_at hl 3 rfl) ?_
  refine ro_i (roV S hE hT hS (c_X7_has h) lkX9_110 rfl ⟨(Nat.le_of_ble_eq_true rfl), (Nat.le_of_ble_eq_true rfl)⟩ (hP.sub [3] rfl) 0 rfl rfl hl.1 rfl (Nat.le_of_ble_eq_true rfl) dX9_show_23 ⟨(Nat.zero_le _), (Nat.zero_le _)⟩) (fun r23 h => ?_)
  refine lv_if_ne (tgt := 35) hx hb dX9_show_26 (by decide) (fun hc => ?_) (fun hc => ?_)
  · have h := h.2 hc
    refine w_X9_show_35 S hE hT hA hr hlocks hj2 _ _ _ h hP hD hS (lv_sub hl [3, 0] rfl)
  have h := h.1 hc
  refine lv_aload_n hx hb dX9_show_29 rfl (lv_at hl 1 rfl) ?_
  refine lv_iconst (v := (-1)) hx hb dX9_show_30 (by decide) ?_
  refine rw_i (rwV S hE hT hS hP hD hA (c_X9_refuse h) [0, 1] rfl (by decide +kernel) lkX9_59 rfl ⟨(Nat.le_of_ble_eq_true rfl), (Nat.le_of_ble_eq_true rfl)⟩ 0 rfl rfl hl.1 rfl (Nat.le_of_ble_eq_true rfl) dX9_show_31 ⟨(Nat.zero_le _), (Nat.zero_le _)⟩) hP hD hS hA [0, 1] rfl (by decide +kernel) (fun _ => rfl) (fun r31 w31_0 H locs h hP hD hS => ?_)
  try dsimp only at h
  have hP : va_P D vwCl (wX9_show cI cJ cS a_o a_refused a_road a_road_stretches a_shelves z_kept z_ahead z_cutting z_acting z_road_cars z_road_tunes z_road_demands z_road_stretches_kinds z_road_stretches_spaces z_road_stretches_others z_road_stretches_times sa ea v_imaged v_lastFault w31_0 v_road_drawSeed v_road_stretches_stretchCount f_sh_held f_sh_sort f_sh_cnt f_sh_num g_sh_el) H := hP
  have hD : va_D A (wX9_show cI cJ cS a_o a_refused a_road a_road_stretches a_shelves z_kept z_ahead z_cutting z_acting z_road_cars z_road_tunes z_road_demands z_road_stretches_kinds z_road_stretches_spaces z_road_stretches_others z_road_stretches_times sa ea v_imaged v_lastFault w31_0 v_road_drawSeed v_road_stretches_stretchCount f_sh_held f_sh_sort f_sh_cnt f_sh_num g_sh_el) := hD
  exact W.iret hx hb hr (fun t ht _ => ⟨⟨_, (w31_0, f_sh_held, f_sh_cnt, f_sh_num), rfl, h, hPt hP ht⟩, hS.F ht⟩) hS.2.2 dX9_show_34
