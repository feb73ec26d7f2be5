/-! X9_stretchOf -/
abbrev wX9_stretchOf (cI cJ cS : ClassId) (a_o a_refused a_road a_road_stretches a_road_stretches_kinds a_road_stretches_others a_road_stretches_spaces a_road_stretches_times : Nat) (z_kept z_ahead z_shelves z_cutting z_acting z_road_cars z_road_tunes z_road_demands : Value) (v_imaged : Int32) (v_lastFault : Int32) (f_refused : Nat → Int32) (v_road_drawSeed : Int32) (v_road_stretches_stretchCount : Int32) (f_road_stretches_kinds : Nat → Int32) (f_road_stretches_others : Nat → Int32) (f_road_stretches_spaces : Nat → Int32) (f_road_stretches_times : Nat → Int32) : va_W := [(a_o, .inr (8, [.ref a_road, z_kept, z_ahead, z_shelves, z_cutting, z_acting, .ref a_refused, .int v_imaged, .int v_lastFault])), (a_refused, .inl (cI, 8, .inl f_refused)), (a_road, .inr (4, [.ref a_road_stretches, z_road_cars, z_road_tunes, z_road_demands, .int v_road_drawSeed])), (a_road_stretches, .inr (6, [.ref a_road_stretches_kinds, .ref a_road_stretches_spaces, .ref a_road_stretches_others, .ref a_road_stretches_times, .int v_road_stretches_stretchCount])), (a_road_stretches_kinds, .inl (cI, 16, .inl f_road_stretches_kinds)), (a_road_stretches_others, .inl (cI, 16, .inl f_road_stretches_others)), (a_road_stretches_spaces, .inl (cI, 16, .inl f_road_stretches_spaces)), (a_road_stretches_times, .inl (cI, 16, .inl f_road_stretches_times))]
def F_X9_stretchOf (f_refused : Nat → Int32) (v_road_stretches_stretchCount : Int32) (f_road_stretches_kinds : Nat → Int32) (f_road_stretches_others : Nat → Int32) (f_road_stretches_spaces : Nat → Int32) (f_road_stretches_times : Nat → Int32) (x1 : Int32) (x2 : Int32) (post : Int32 → (Nat → Int32) → Prop) : Prop := (F_X7_has v_road_stretches_stretchCount x1 (fun r10 => ((r10 = 0 → (F_X9_refuse f_refused (-5) (fun r19 w19_0 => post r19 w19_0))) ∧ (¬ r10 = 0 → ((x2 = 0 → (F_X7_kindOf v_road_stretches_stretchCount f_road_stretches_kinds x1 (fun r62 => post r62 f_refused))) ∧ (¬ x2 = 0 → ((x2 = 1 → (F_X7_spaceOf v_road_stretches_stretchCount f_road_stretches_spaces x1 (fun r68 => post r68 f_refused))) ∧ (¬ x2 = 1 → ((x2 = 2 → (F_X7_otherOf v_road_stretches_stretchCount f_road_stretches_others x1 (fun r74 => post r74 f_refused))) ∧ (¬ x2 = 2 → ((x2 = 3 → (F_X7_timesOf v_road_stretches_stretchCount f_road_stretches_times x1 (fun r80 => post r80 f_refused))) ∧ (¬ x2 = 3 → ((x2 = 4 → (F_X7_lengthOf v_road_stretches_stretchCount f_road_stretches_kinds f_road_stretches_others f_road_stretches_spaces f_road_stretches_times x1 (fun r86 => post r86 f_refused))) ∧ (¬ x2 = 4 → (F_X9_refuse f_refused (-5) (fun r93 w93_0 => post r93 w93_0))))))))))))))))
set_option maxHeartbeats 4000000 in
set_option maxRecDepth 100000 in
theorem c_X9_stretchOf {l : Launch} {D : va_G} {cI cJ cS : ClassId} {ad adK : Nat → Nat} {a_o a_refused a_road a_road_stretches a_road_stretches_kinds a_road_stretches_others a_road_stretches_spaces a_road_stretches_times : Nat} {z_kept z_ahead z_shelves z_cutting z_acting z_road_cars z_road_tunes z_road_demands : Value} {v_imaged : Int32} {v_lastFault : Int32} {f_refused : Nat → Int32} {v_road_drawSeed : Int32} {v_road_stretches_stretchCount : Int32} {f_road_stretches_kinds : Nat → Int32} {f_road_stretches_others : Nat → Int32} {f_road_stretches_spaces : Nat → Int32} {f_road_stretches_times : Nat → Int32} {x1 : Int32} {x2 : Int32} {post : Int32 → (Nat → Int32) → Prop} (h : F_X9_stretchOf f_refused v_road_stretches_stretchCount f_road_stretches_kinds f_road_stretches_others f_road_stretches_spaces f_road_stretches_times x1 x2 post) {sz : Nat} : Met l yX9_stretchOf (Cond.code yX9_stretchOf cX9_stretchOf 4 (some (.int)) :: GW) (rmd 3 0 0) (PW D cI cJ cS ad adK [.ref a_o, .int x1, .int x2] (wX9_stretchOf cI cJ cS a_o a_refused a_road a_road_stretches a_road_stretches_kinds a_road_stretches_others a_road_stretches_spaces a_road_stretches_times z_kept z_ahead z_shelves z_cutting z_acting z_road_cars z_road_tunes z_road_demands v_imaged v_lastFault f_refused v_road_drawSeed v_road_stretches_stretchCount f_road_stretches_kinds f_road_stretches_others f_road_stretches_spaces f_road_stretches_times) sz) (va_Qi (fun r (u : (Nat → Int32)) => post r u) (fun u t => va_P D vwCl (wX9_stretchOf cI cJ cS a_o a_refused a_road a_road_stretches a_road_stretches_kinds a_road_stretches_others a_road_stretches_spaces a_road_stretches_times z_kept z_ahead z_shelves z_cutting z_acting z_road_cars z_road_tunes z_road_demands v_imaged v_lastFault u v_road_drawSeed v_road_stretches_stretchCount f_road_stretches_kinds f_road_stretches_others f_road_stretches_spaces f_road_stretches_times) t.heap) (va_A (wX9_stretchOf cI cJ cS a_o a_refused a_road a_road_stretches a_road_stretches_kinds a_road_stretches_others a_road_stretches_spaces a_road_stretches_times z_kept z_ahead z_shelves z_cutting z_acting z_road_cars z_road_tunes z_road_demands v_imaged v_lastFault f_refused v_road_drawSeed v_road_stretches_stretchCount f_road_stretches_kinds f_road_stretches_others f_road_stretches_spaces f_road_stretches_times) sz)) 0 0 (va_A (wX9_stretchOf cI cJ cS a_o a_refused a_road a_road_stretches a_road_stretches_kinds a_road_stretches_others a_road_stretches_spaces a_road_stretches_times z_kept z_ahead z_shelves z_cutting z_acting z_road_cars z_road_tunes z_road_demands v_imaged v_lastFault f_refused v_road_drawSeed v_road_stretches_stretchCount f_road_stretches_kinds f_road_stretches_others f_road_stretches_spaces f_road_stretches_times) sz) := by
  refine Met.rw (Qc := fun A => (va_Qi (fun r (u : (Nat → Int32)) => post r u) (fun u t => va_P D vwCl (wX9_stretchOf cI cJ cS a_o a_refused a_road a_road_stretches a_road_stretches_kinds a_road_stretches_others a_road_stretches_spaces a_road_stretches_times z_kept z_ahead z_shelves z_cutting z_acting z_road_cars z_road_tunes z_road_demands v_imaged v_lastFault u v_road_drawSeed v_road_stretches_stretchCount f_road_stretches_kinds f_road_stretches_others f_road_stretches_spaces f_road_stretches_times) t.heap) A)) (by decide) (Nat.le_of_ble_eq_true rfl) (fun p e s m args below meth c ls A (S : CallFix p m c cX9_stretchOf 4 s args GW "RoadThatSings") hE hT hP hD hA hS hr hlocks hname hl => ?_)
  have hS0 := hS
  have hx := S.1
  have hb := S.2.1
  have hl : lv_has ls 4 [(0, .ref a_o), (1, .int x1), (2, .int x2)] := hl
  unfold F_X9_stretchOf at h
  refine lv_aload_n hx hb dX9_stretchOf_0 rfl (lv_at hl 0 rfl) ?_
  refine gf S hE hP 0 rfl rfl inX9 (k := 0) (by decide) q181 rfl dX9_stretchOf_1 ?_
  refine gfN S hE hP 2 rfl rfl inX5 (k := 0) (by decide) nfX9_106 rfl dX9_stretchOf_4 ?_
  refine lv_astore_n (lv' := [(3, .ref a_road_stretches), (0, .ref a_o), (1, .int x1), (2, .int x2)]) hx hb dX9_stretchOf_7 rfl hl (by decide) rfl (fun ls hl => ?_)
  refine lv_aload_n hx hb dX9_stretchOf_8 rfl (lv_at hl 0 rfl) ?_
  refine lv_iload_n hx hb dX9_stretchOf_9 rfl (lv_at hl 2 rfl) ?_
  refine ro_i (roV S hE hT hS (c_X7_has h) lkX9_110 rfl ⟨(Nat.le_of_ble_eq_true rfl), (Nat.le_of_ble_eq_true rfl)⟩ (hP.sub [3] rfl) 0 rfl rfl hl.1 rfl (Nat.le_of_ble_eq_true rfl) dX9_stretchOf_10 ⟨(Nat.zero_le _), (Nat.zero_le _)⟩) (fun r10 h => ?_)
  refine lv_if_ne (tgt := 23) hx hb dX9_stretchOf_13 (by decide) (fun hc => ?_) (fun hc => ?_)
  · have h := h.2 hc
    refine lv_iload_n hx hb dX9_stretchOf_23 rfl (lv_at hl 3 rfl) ?_
    by_cases hk0 : x2 = 0
    · have h := h.1 hk0
      refine lv_tableIn (off := 36) (tgt := 60) hx hb dX9_stretchOf_24 (by rw [hk0]; decide) (by rw [hk0]; decide) (by rw [hk0]; rfl) (by decide) ?_
      refine lv_aload_n hx hb dX9_stretchOf_60 rfl (lv_at hl 0 rfl) ?_
      refine lv_iload_n hx hb dX9_stretchOf_61 rfl (lv_at hl 2 rfl) ?_
      refine ro_i (roV S hE hT hS (c_X7_kindOf h) lkX9_129 rfl ⟨(Nat.le_of_ble_eq_true rfl), (Nat.le_of_ble_eq_true rfl)⟩ (hP.sub [3, 4] rfl) 0 rfl rfl hl.1 rfl (Nat.le_of_ble_eq_true rfl) dX9_stretchOf_62 ⟨(Nat.zero_le _), (Nat.zero_le _)⟩) (fun r62 h => ?_)
      exact W.iret hx hb hr (fun t ht _ => ⟨⟨_, f_refused, rfl, h, hPt hP ht⟩, hS.F ht⟩) hS.2.2 dX9_stretchOf_65
    have h := h.2 hk0
    by_cases hk1 : x2 = 1
    · have h := h.1 hk1
      refine lv_tableIn (off := 42) (tgt := 66) hx hb dX9_stretchOf_24 (by rw [hk1]; decide) (by rw [hk1]; decide) (by rw [hk1]; rfl) (by decide) ?_
      refine lv_aload_n hx hb dX9_stretchOf_66 rfl (lv_at hl 0 rfl) ?_
      refine lv_iload_n hx hb dX9_stretchOf_67 rfl (lv_at hl 2 rfl) ?_
      refine ro_i (roV S hE hT hS (c_X7_spaceOf h) lkX9_165 rfl ⟨(Nat.le_of_ble_eq_true rfl), (Nat.le_of_ble_eq_true rfl)⟩ (hP.sub [3, 6] rfl) 0 rfl rfl hl.1 rfl (Nat.le_of_ble_eq_true rfl) dX9_stretchOf_68 ⟨(Nat.zero_le _), (Nat.zero_le _)⟩) (fun r68 h => ?_)
      exact W.iret hx hb hr (fun t ht _ => ⟨⟨_, f_refused, rfl, h, hPt hP ht⟩, hS.F ht⟩) hS.2.2 dX9_stretchOf_71
    have h := h.2 hk1
    by_cases hk2 : x2 = 2
    · have h := h.1 hk2
      refine lv_tableIn (off := 48) (tgt := 72) hx hb dX9_stretchOf_24 (by rw [hk2]; decide) (by rw [hk2]; decide) (by rw [hk2]; rfl) (by decide) ?_
      refine lv_aload_n hx hb dX9_stretchOf_72 rfl (lv_at hl 0 rfl) ?_
      refine lv_iload_n hx hb dX9_stretchOf_73 rfl (lv_at hl 2 rfl) ?_
      refine ro_i (roV S hE hT hS (c_X7_otherOf h) lkX9_168 rfl ⟨(Nat.le_of_ble_eq_true rfl), (Nat.le_of_ble_eq_true rfl)⟩ (hP.sub [3, 5] rfl) 0 rfl rfl hl.1 rfl (Nat.le_of_ble_eq_true rfl) dX9_stretchOf_74 ⟨(Nat.zero_le _), (Nat.zero_le _)⟩) (fun r74 h => ?_)
      exact W.iret hx hb hr (fun t ht _ => ⟨⟨_, f_refused, rfl, h, hPt hP ht⟩, hS.F ht⟩) hS.2.2 dX9_stretchOf_77
    have h := h.2 hk2
    by_cases hk3 : x2 = 3
    · have h := h.1 hk3
      refine lv_tableIn (off := 54) (tgt := 78) hx hb dX9_stretchOf_24 (by rw [hk3]; decide) (by rw [hk3]; decide) (by rw [hk3]; rfl) (by decide) ?_
      refine lv_aload_n hx hb dX9_stretchOf_78 rfl (lv_at hl 0 rfl) ?_
      refine lv_iload_n hx hb dX9_stretchOf_79 rfl (lv_at hl 2 rfl) ?_
      refine ro_i (roV S hE hT hS (c_X7_timesOf h) lkX9_171 rfl ⟨(Nat.le_of_ble_eq_true rfl), (Nat.le_of_ble_eq_true rfl)⟩ (hP.sub [3, 7] rfl) 0 rfl rfl hl.1 rfl (Nat.le_of_ble_eq_true rfl) dX9_stretchOf_80 ⟨(Nat.zero_le _), (Nat.zero_le _)⟩) (fun r80 h => ?_)
      exact W.iret hx hb hr (fun t ht _ => ⟨⟨_, f_refused, rfl, h, hPt hP ht⟩, hS.F ht⟩) hS.2.2 dX9_stretchOf_83
    have h := h.2 hk3
    by_cases hk4 : x2 = 4
    · have h := h.1 hk4
      refine lv_tableIn (off := 60) (tgt := 84) hx hb dX9_stretchOf_24 (by rw [hk4]; decide) (by rw [hk4]; decide) (by rw [hk4]; rfl) (by decide) ?_
      refine lv_aload_n hx hb dX9_stretchOf_84 rfl (lv_at hl 0 rfl) ?_
      refine lv_iload_n hx hb dX9_stretchOf_85 rfl (lv_at hl 2 rfl) ?_
      refine ro_i (roV S hE hT hS (c_X7_lengthOf h) lkX9_174 rfl ⟨(Nat.le_of_ble_eq_true rfl), (Nat.le_of_ble_eq_true rfl)⟩ (hP.sub [3, 4, 5, 6, 7] rfl) 0 rfl rfl hl.1 rfl (Nat.le_of_ble_eq_true rfl) dX9_stretchOf_86 ⟨(Nat.zero_le _), (Nat.zero_le _)⟩) (fun r86 h => ?_)
      exact W.iret hx hb hr (fun t ht _ => ⟨⟨_, f_refused, rfl, h, hPt hP ht⟩, hS.F ht⟩) hS.2.2 dX9_stretchOf_89
    have h := h.2 hk4
    refine lv_tableOut (tgt := 90) hx hb dX9_stretchOf_24 (sw_out (fun k h1 h2 => by
      rcases (show k = 0 ∨ k = 1 ∨ k = 2 ∨ k = 3 ∨ k = 4 by omega) with rfl | rfl | rfl | rfl | rfl
      · exact hk0
      · exact hk1
      · exact hk2
      · exact hk3
      · exact hk4)) (by decide) ?_
    refine lv_aload_n hx hb dX9_stretchOf_90 rfl (lv_at hl 1 rfl) ?_
    refine lv_bipush (v := (-5)) hx hb dX9_stretchOf_91 (by decide) ?_
    refine rw_i (rwV S hE hT hS hP hD hA (c_X9_refuse h) [0, 1] rfl (by decide +kernel) lkX9_59 rfl ⟨(Nat.le_of_ble_eq_true rfl), (Nat.le_of_ble_eq_true rfl)⟩ 0 rfl rfl hl.1 rfl (Nat.le_of_ble_eq_true rfl) dX9_stretchOf_93 ⟨(Nat.zero_le _), (Nat.zero_le _)⟩) hP hD hS hA [0, 1] rfl (by decide +kernel) (fun _ => rfl) (fun r93 w93_0 H locs h hP hD hS => ?_)
    try dsimp only at h
    have hP : va_P D vwCl (wX9_stretchOf cI cJ cS a_o a_refused a_road a_road_stretches a_road_stretches_kinds a_road_stretches_others a_road_stretches_spaces a_road_stretches_times z_kept z_ahead z_shelves z_cutting z_acting z_road_cars z_road_tunes z_road_demands v_imaged v_lastFault w93_0 v_road_drawSeed v_road_stretches_stretchCount f_road_stretches_kinds f_road_stretches_others f_road_stretches_spaces f_road_stretches_times) H := hP
    have hD : va_D A (wX9_stretchOf cI cJ cS a_o a_refused a_road a_road_stretches a_road_stretches_kinds a_road_stretches_others a_road_stretches_spaces a_road_stretches_times z_kept z_ahead z_shelves z_cutting z_acting z_road_cars z_road_tunes z_road_demands v_imaged v_lastFault w93_0 v_road_drawSeed v_road_stretches_stretchCount f_road_stretches_kinds f_road_stretches_others f_road_stretches_spaces f_road_stretches_times) := hD
    exact W.iret hx hb hr (fun t ht _ => ⟨⟨_, w93_0, rfl, h, hPt hP ht⟩, hS.F ht⟩) hS.2.2 dX9_stretchOf_96
  have h := h.1 hc
  refine lv_aload_n hx hb dX9_stretchOf_16 rfl (lv_at hl 1 rfl) ?_
  refine lv_bipush (v := (-5)) hx hb dX9_stretchOf_17 (by decide) ?_
  refine rw_i (rwV S hE hT hS hP hD hA (c_X9_refuse h) [0, 1] rfl (by decide +kernel) lkX9_59 rfl ⟨(Nat.le_of_ble_eq_true rfl), (Nat.le_of_ble_eq_true rfl)⟩ 0 rfl rfl hl.1 rfl (Nat.le_of_ble_eq_true rfl) dX9_stretchOf_19 ⟨(Nat.zero_le _), (Nat.zero_le _)⟩) hP hD hS hA [0, 1] rfl (by decide +kernel) (fun _ => rfl) (fun r19 w19_0 H locs h hP hD hS => ?_)
  try dsimp only at h
  have hP : va_P D vwCl (wX9_stretchOf cI cJ cS a_o a_refused a_road a_road_stretches a_road_stretches_kinds a_road_stretches_others a_road_stretches_spaces a_road_stretches_times z_kept z_ahead z_shelves z_cutting z_acting z_road_cars z_road_tunes z_road_demands v_imaged v_lastFault w19_0 v_road_drawSeed v_road_stretches_stretchCount f_road_stretches_kinds f_road_stretches_others f_road_stretches_spaces f_road_stretches_times) H := hP
  have hD : va_D A (wX9_stretchOf cI cJ cS a_o a_refused a_road a_road_stretches a_road_stretches_kinds a_road_stretches_others a_road_stretches_spaces a_road_stretches_times z_kept z_ahead z_shelves z_cutting z_acting z_road_cars z_road_tunes z_road_demands v_imaged v_lastFault w19_0 v_road_drawSeed v_road_stretches_stretchCount f_road_stretches_kinds f_road_stretches_others f_road_stretches_spaces f_road_stretches_times) := hD
  exact W.iret hx hb hr (fun t ht _ => ⟨⟨_, w19_0, rfl, h, hPt hP ht⟩, hS.F ht⟩) hS.2.2 dX9_stretchOf_22
/-! X9_isSpeed -/
abbrev wX9_isSpeed (cI cJ cS : ClassId) : va_W := []
def F_X9_isSpeed (x0 : Int32) (post : Int32 → Prop) : Prop := (F_X9_within x0 1 99 (fun r4 => (vb r4 ∧ post r4)))
set_option maxHeartbeats 4000000 in
set_option maxRecDepth 100000 in
theorem c_X9_isSpeed {l : Launch} {D : va_G} {cI cJ cS : ClassId} {ad adK : Nat → Nat}  {x0 : Int32} {post : Int32 → Prop} (h : F_X9_isSpeed x0 post) : Met l yX9_isSpeed (Cond.code yX9_isSpeed cX9_isSpeed 1 (some (.boolean)) :: GW) (rmd 1 0 0) (PR D cI cJ cS ad adK [.int x0] (wX9_isSpeed cI cJ cS)) (vp_Si post) 0 0 nof := by
  refine Met.ro (by decide) (Nat.le_of_ble_eq_true rfl) (fun p e s m args below meth c ls (S : CallFix p m c cX9_isSpeed 1 s args GW "RoadThatSings") hE hT hP hS hr hlocks hl => ?_)
  have hx := S.1
  have hb := S.2.1
  have hl : lv_has ls 1 [(0, .int x0)] := hl
  unfold F_X9_isSpeed at h
  refine lv_iload_n hx hb dX9_isSpeed_0 rfl (lv_at hl 0 rfl) ?_
  refine lv_iconst (v := 1) hx hb dX9_isSpeed_1 (by decide) ?_
  refine lv_bipush (v := 99) hx hb dX9_isSpeed_2 (by decide) ?_
  refine ro_i (roS S hE hT hS (c_X9_within h) lkX9_63 rfl ⟨(Nat.le_of_ble_eq_true rfl), (Nat.le_of_ble_eq_true rfl)⟩ (hP.sub [] rfl) hl.1 rfl (Nat.le_of_ble_eq_true rfl) dX9_isSpeed_4 ⟨(Nat.zero_le _), (Nat.zero_le _)⟩) (fun r4 h => ?_)
  exact W.zret hx hb hr h.1 (fun t ht _ => ⟨_, rfl, h.2, ht⟩) (fun _ hq => by cases hq) dX9_isSpeed_7
/-! X9_car -/
abbrev wX9_car (cI cJ cS : ClassId) (a_o a_refused a_road a_road_cars a_road_cars_bases a_road_cars_shares a_road_cars_speeds : Nat) (z_kept z_ahead z_shelves z_cutting z_acting z_road_stretches z_road_tunes z_road_demands : Value) (v_imaged : Int32) (v_lastFault : Int32) (f_refused : Nat → Int32) (v_road_drawSeed : Int32) (v_road_cars_carCount : Int32) (f_road_cars_bases : Nat → Int32) (f_road_cars_shares : Nat → Int32) (f_road_cars_speeds : Nat → Int32) : va_W := [(a_o, .inr (8, [.ref a_road, z_kept, z_ahead, z_shelves, z_cutting, z_acting, .ref a_refused, .int v_imaged, .int v_lastFault])), (a_refused, .inl (cI, 8, .inl f_refused)), (a_road, .inr (4, [z_road_stretches, .ref a_road_cars, z_road_tunes, z_road_demands, .int v_road_drawSeed])), (a_road_cars, .inr (1, [.ref a_road_cars_speeds, .ref a_road_cars_bases, .ref a_road_cars_shares, .int v_road_cars_carCount])), (a_road_cars_bases, .inl (cI, 6, .inl f_road_cars_bases)), (a_road_cars_shares, .inl (cI, 6, .inl f_road_cars_shares)), (a_road_cars_speeds, .inl (cI, 6, .inl f_road_cars_speeds))]
def F_X9_car (f_refused : Nat → Int32) (v_road_cars_carCount : Int32) (f_road_cars_bases : Nat → Int32) (f_road_cars_shares : Nat → Int32) (f_road_cars_speeds : Nat → Int32) (x1 : Int32) (x2 : Int32) (x3 : Int32) (post : Int32 → (Nat → Int32) → Int32 → (Nat → Int32) → (Nat → Int32) → (Nat → Int32) → Prop) : Prop := (F_X9_isSpeed x1 (fun r1 => ((r1 = 0 → (F_X9_refuse f_refused (-6) (fun r42 w42_0 => post r42 w42_0 v_road_cars_carCount f_road_cars_bases f_road_cars_shares f_road_cars_speeds))) ∧ (¬ r1 = 0 → (F_X9_within x2 0 999 (fun r12 => ((r12 = 0 → (F_X9_refuse f_refused (-6) (fun r42 w42_0 => post r42 w42_0 v_road_cars_carCount f_road_cars_bases f_road_cars_shares f_road_cars_speeds))) ∧ (¬ r12 = 0 → (F_X1_shareOfAll v_road_cars_carCount f_road_cars_shares (fun r29 => (F_X9_within x3 0 (100 - r29) (fun r33 => ((r33 = 0 → (F_X9_refuse f_refused (-6) (fun r42 w42_0 => post r42 w42_0 v_road_cars_carCount f_road_cars_bases f_road_cars_shares f_road_cars_speeds))) ∧ (¬ r33 = 0 → (F_X1_isFull v_road_cars_carCount (fun r53 => ((r53 = 0 → (F_X1_add v_road_cars_carCount f_road_cars_bases f_road_cars_shares f_road_cars_speeds x1 x2 x3 (fun r76 w76_0 w76_1 w76_2 w76_3 => post r76 f_refused w76_0 w76_1 w76_2 w76_3))) ∧ (¬ r53 = 0 → (F_X9_refuse f_refused (-7) (fun r62 w62_0 => post r62 w62_0 v_road_cars_carCount f_road_cars_bases f_road_cars_shares f_road_cars_speeds))))))))))))))))))))
set_option maxHeartbeats 4000000 in
set_option maxRecDepth 100000 in
theorem c_X9_car {l : Launch} {D : va_G} {cI cJ cS : ClassId} {ad adK : Nat → Nat} {a_o a_refused a_road a_road_cars a_road_cars_bases a_road_cars_shares a_road_cars_speeds : Nat} {z_kept z_ahead z_shelves z_cutting z_acting z_road_stretches z_road_tunes z_road_demands : Value} {v_imaged : Int32} {v_lastFault : Int32} {f_refused : Nat → Int32} {v_road_drawSeed : Int32} {v_road_cars_carCount : Int32} {f_road_cars_bases : Nat → Int32} {f_road_cars_shares : Nat → Int32} {f_road_cars_speeds : Nat → Int32} {x1 : Int32} {x2 : Int32} {x3 : Int32} {post : Int32 → (Nat → Int32) → Int32 → (Nat → Int32) → (Nat → Int32) → (Nat → Int32) → Prop} (h : F_X9_car f_refused v_road_cars_carCount f_road_cars_bases f_road_cars_shares f_road_cars_speeds x1 x2 x3 post) {sz : Nat} : Met l yX9_car (Cond.code yX9_car cX9_car 4 (some (.int)) :: GW) (rmd 3 0 0) (PW D cI cJ cS ad adK [.ref a_o, .int x1, .int x2, .int x3] (wX9_car cI cJ cS a_o a_refused a_road a_road_cars a_road_cars_bases a_road_cars_shares a_road_cars_speeds z_kept z_ahead z_shelves z_cutting z_acting z_road_stretches z_road_tunes z_road_demands v_imaged v_lastFault f_refused v_road_drawSeed v_road_cars_carCount f_road_cars_bases f_road_cars_shares f_road_cars_speeds) sz) (va_Qi (fun r (u : (Nat → Int32) × Int32 × (Nat → Int32) × (Nat → Int32) × (Nat → Int32)) => post r u.1 u.2.1 u.2.2.1 u.2.2.2.1 u.2.2.2.2) (fun u t => va_P D vwCl (wX9_car cI cJ cS a_o a_refused a_road a_road_cars a_road_cars_bases a_road_cars_shares a_road_cars_speeds z_kept z_ahead z_shelves z_cutting z_acting z_road_stretches z_road_tunes z_road_demands v_imaged v_lastFault u.1 v_road_drawSeed u.2.1 u.2.2.1 u.2.2.2.1 u.2.2.2.2) t.heap) (va_A (wX9_car cI cJ cS a_o a_refused a_road a_road_cars a_road_cars_bases a_road_cars_shares a_road_cars_speeds z_kept z_ahead z_shelves z_cutting z_acting z_road_stretches z_road_tunes z_road_demands v_imaged v_lastFault f_refused v_road_drawSeed v_road_cars_carCount f_road_cars_bases f_road_cars_shares f_road_cars_speeds) sz)) 0 0 (va_A (wX9_car cI cJ cS a_o a_refused a_road a_road_cars a_road_cars_bases a_road_cars_shares a_road_cars_speeds z_kept z_ahead z_shelves z_cutting z_acting z_road_stretches z_road_tunes z_road_demands v_imaged v_lastFault f_refused v_road_drawSeed v_road_cars_carCount f_road_cars_bases f_road_cars_shares f_road_cars_speeds) sz) := by
  refine Met.rw (Qc := fun A => (va_Qi (fun r (u : (Nat → Int32) × Int32 × (Nat → Int32) × (Nat → Int32) × (Nat → Int32)) => post r u.1 u.2.1 u.2.2.1 u.2.2.2.1 u.2.2.2.2) (fun u t => va_P D vwCl (wX9_car cI cJ cS a_o a_refused a_road a_road_cars a_road_cars_bases a_road_cars_shares a_road_cars_speeds z_kept z_ahead z_shelves z_cutting z_acting z_road_stretches z_road_tunes z_road_demands v_imaged v_lastFault u.1 v_road_drawSeed u.2.1 u.2.2.1 u.2.2.2.1 u.2.2.2.2) t.heap) A)) (by decide) (Nat.le_of_ble_eq_true rfl) (fun p e s m args below meth c ls A (S : CallFix p m c cX9_car 4 s args GW "RoadThatSings") hE hT hP hD hA hS hr hlocks hname hl => ?_)
  have hS0 := hS
  have hx := S.1
  have hb := S.2.1
  have hl : lv_has ls 4 [(0, .ref a_o), (1, .int x1), (2, .int x2), (3, .int x3)] := hl
  unfold F_X9_car at h
  refine lv_iload_n hx hb dX9_car_0 rfl (lv_at hl 1 rfl) ?_
  refine ro_i (roS S hE hT hS (c_X9_isSpeed h) lkX9_177 rfl ⟨(Nat.le_of_ble_eq_true rfl), (Nat.le_of_ble_eq_true rfl)⟩ (hP.sub [] rfl) hl.1 rfl (Nat.le_of_ble_eq_true rfl) dX9_car_1 ⟨(Nat.zero_le _), (Nat.zero_le _)⟩) (fun r1 h => ?_)
  refine lv_if_eq (tgt := 39) hx hb dX9_car_4 (by decide) (fun hc => ?_) (fun hc => ?_)
  · have h := h.1 hc
    refine lv_aload_n hx hb dX9_car_39 rfl (lv_at hl 0 rfl) ?_
    refine lv_bipush (v := (-6)) hx hb dX9_car_40 (by decide) ?_
    refine rw_i (rwV S hE hT hS hP hD hA (c_X9_refuse h) [0, 1] rfl (by decide +kernel) lkX9_59 rfl ⟨(Nat.le_of_ble_eq_true rfl), (Nat.le_of_ble_eq_true rfl)⟩ 0 rfl rfl hl.1 rfl (Nat.le_of_ble_eq_true rfl) dX9_car_42 ⟨(Nat.zero_le _), (Nat.zero_le _)⟩) hP hD hS hA [0, 1] rfl (by decide +kernel) (fun _ => rfl) (fun r42 w42_0 H locs h hP hD hS => ?_)
    try dsimp only at h
    have hP : va_P D vwCl (wX9_car cI cJ cS a_o a_refused a_road a_road_cars a_road_cars_bases a_road_cars_shares a_road_cars_speeds z_kept z_ahead z_shelves z_cutting z_acting z_road_stretches z_road_tunes z_road_demands v_imaged v_lastFault w42_0 v_road_drawSeed v_road_cars_carCount f_road_cars_bases f_road_cars_shares f_road_cars_speeds) H := hP
    have hD : va_D A (wX9_car cI cJ cS a_o a_refused a_road a_road_cars a_road_cars_bases a_road_cars_shares a_road_cars_speeds z_kept z_ahead z_shelves z_cutting z_acting z_road_stretches z_road_tunes z_road_demands v_imaged v_lastFault w42_0 v_road_drawSeed v_road_cars_carCount f_road_cars_bases f_road_cars_shares f_road_cars_speeds) := hD
    exact W.iret hx hb hr (fun t ht _ => ⟨⟨_, (w42_0, v_road_cars_carCount, f_road_cars_bases, f_road_cars_shares, f_road_cars_speeds), rfl, h, hPt hP ht⟩, hS.F ht⟩) hS.2.2 dX9_car_45
  have h := h.2 hc
  refine lv_iload_n hx hb dX9_car_7 rfl (lv_at hl 2 rfl) ?_
  refine lv_iconst (v := 0) hx hb dX9_car_8 (by decide) ?_
  refine lv_sipush (v := 999) hx hb dX9_car_9 (by decide) ?_
  refine ro_i (roS S hE hT hS (c_X9_within h) lkX9_63 rfl ⟨(Nat.le_of_ble_eq_true rfl), (Nat.le_of_ble_eq_true rfl)⟩ (hP.sub [] rfl) hl.1 rfl (Nat.le_of_ble_eq_true rfl) dX9_car_12 ⟨(Nat.zero_le _), (Nat.zero_le _)⟩) (fun r12 h => ?_)
  refine lv_if_eq (tgt := 39) hx hb dX9_car_15 (by decide) (fun hc => ?_) (fun hc => ?_)
  · have h := h.1 hc
    refine lv_aload_n hx hb dX9_car_39 rfl (lv_at hl 0 rfl) ?_
    refine lv_bipush (v := (-6)) hx hb dX9_car_40 (by decide) ?_
    refine rw_i (rwV S hE hT hS hP hD hA (c_X9_refuse h) [0, 1] rfl (by decide +kernel) lkX9_59 rfl ⟨(Nat.le_of_ble_eq_true rfl), (Nat.le_of_ble_eq_true rfl)⟩ 0 rfl rfl hl.1 rfl (Nat.le_of_ble_eq_true rfl) dX9_car_42 ⟨(Nat.zero_le _), (Nat.zero_le _)⟩) hP hD hS hA [0, 1] rfl (by decide +kernel) (fun _ => rfl) (fun r42 w42_0 H locs h hP hD hS => ?_)
    try dsimp only at h
    have hP : va_P D vwCl (wX9_car cI cJ cS a_o a_refused a_road a_road_cars a_road_cars_bases a_road_cars_shares a_road_cars_speeds z_kept z_ahead z_shelves z_cutting z_acting z_road_stretches z_road_tunes z_road_demands v_imaged v_lastFault w42_0 v_road_drawSeed v_road_cars_carCount f_road_cars_bases f_road_cars_shares f_road_cars_speeds) H := hP
    have hD : va_D A (wX9_car cI cJ cS a_o a_refused a_road a_road_cars a_road_cars_bases a_road_cars_shares a_road_cars_speeds z_kept z_ahead z_shelves z_cutting z_acting z_road_stretches z_road_tunes z_road_demands v_imaged v_lastFault w42_0 v_road_drawSeed v_road_cars_carCount f_road_cars_bases f_road_cars_shares f_road_cars_speeds) := hD
    exact W.iret hx hb hr (fun t ht _ => ⟨⟨_, (w42_0, v_road_cars_carCount, f_road_cars_bases, f_road_cars_shares, f_road_cars_speeds), rfl, h, hPt hP ht⟩, hS.F ht⟩) hS.2.2 dX9_car_45
  have h := h.2 hc
  refine lv_iload_n hx hb dX9_car_18 rfl (lv_at hl 3 rfl) ?_
  refine lv_iconst (v := 0) hx hb dX9_car_19 (by decide) ?_
  refine lv_bipush (v := 100) hx hb dX9_car_20 (by decide) ?_
  refine lv_aload_n hx hb dX9_car_22 rfl (lv_at hl 0 rfl) ?_
  refine gf S hE hP 0 rfl rfl inX9 (k := 0) (by decide) q181 rfl dX9_car_23 ?_
  refine gfN S hE hP 2 rfl rfl inX5 (k := 1) (by decide) nfX9_180 rfl dX9_car_26 ?_
  refine ro_i (roV S hE hT hS (c_X1_shareOfAll h) lkX9_184 rfl ⟨(Nat.le_of_ble_eq_true rfl), (Nat.le_of_ble_eq_true rfl)⟩ (hP.sub [3, 5] rfl) 0 rfl rfl hl.1 rfl (Nat.le_of_ble_eq_true rfl) dX9_car_29 ⟨(Nat.zero_le _), (Nat.zero_le _)⟩) (fun r29 h => ?_)
  refine lv_isub hx hb dX9_car_32 ?_
  refine ro_i (roS S hE hT hS (c_X9_within h) lkX9_63 rfl ⟨(Nat.le_of_ble_eq_true rfl), (Nat.le_of_ble_eq_true rfl)⟩ (hP.sub [] rfl) hl.1 rfl (Nat.le_of_ble_eq_true rfl) dX9_car_33 ⟨(Nat.zero_le _), (Nat.zero_le _)⟩) (fun r33 h => ?_)
  refine lv_if_ne (tgt := 46) hx hb dX9_car_36 (by decide) (fun hc => ?_) (fun hc => ?_)
  · have h := h.2 hc
    refine lv_aload_n hx hb dX9_car_46 rfl (lv_at hl 0 rfl) ?_
    refine gf S hE hP 0 rfl rfl inX9 (k := 0) (by decide) q181 rfl dX9_car_47 ?_
    refine gfN S hE hP 2 rfl rfl inX5 (k := 1) (by decide) nfX9_180 rfl dX9_car_50 ?_
    refine ro_i (roV S hE hT hS (c_X1_isFull h) lkX9_189 rfl ⟨(Nat.le_of_ble_eq_true rfl), (Nat.le_of_ble_eq_true rfl)⟩ (hP.sub [3] rfl) 0 rfl rfl hl.1 rfl (Nat.le_of_ble_eq_true rfl) dX9_car_53 ⟨(Nat.zero_le _), (Nat.zero_le _)⟩) (fun r53 h => ?_)
    refine lv_if_eq (tgt := 66) hx hb dX9_car_56 (by decide) (fun hc => ?_) (fun hc => ?_)
    · have h := h.1 hc
      refine lv_aload_n hx hb dX9_car_66 rfl (lv_at hl 0 rfl) ?_
      refine gf S hE hP 0 rfl rfl inX9 (k := 0) (by decide) q181 rfl dX9_car_67 ?_
      refine gfN S hE hP 2 rfl rfl inX5 (k := 1) (by decide) nfX9_180 rfl dX9_car_70 ?_
      refine lv_iload_n hx hb dX9_car_73 rfl (lv_at hl 1 rfl) ?_
      refine lv_iload_n hx hb dX9_car_74 rfl (lv_at hl 2 rfl) ?_
      refine lv_iload_n hx hb dX9_car_75 rfl (lv_at hl 3 rfl) ?_
      refine rw_i (rwV S hE hT hS hP hD hA (c_X1_add h) [3, 4, 5, 6] rfl (by decide +kernel) lkX9_190 rfl ⟨(Nat.le_of_ble_eq_true rfl), (Nat.le_of_ble_eq_true rfl)⟩ 3 rfl rfl hl.1 rfl (Nat.le_of_ble_eq_true rfl) dX9_car_76 ⟨(Nat.zero_le _), (Nat.zero_le _)⟩) hP hD hS hA [3, 4, 5, 6] rfl (by decide +kernel) (fun _ => rfl) (fun r76 u76 H locs h hP hD hS => ?_)
      obtain ⟨w76_0, w76_1, w76_2, w76_3⟩ := u76
      try dsimp only at h
      have hP : va_P D vwCl (wX9_car cI cJ cS a_o a_refused a_road a_road_cars a_road_cars_bases a_road_cars_shares a_road_cars_speeds z_kept z_ahead z_shelves z_cutting z_acting z_road_stretches z_road_tunes z_road_demands v_imaged v_lastFault f_refused v_road_drawSeed w76_0 w76_1 w76_2 w76_3) H := hP
      have hD : va_D A (wX9_car cI cJ cS a_o a_refused a_road a_road_cars a_road_cars_bases a_road_cars_shares a_road_cars_speeds z_kept z_ahead z_shelves z_cutting z_acting z_road_stretches z_road_tunes z_road_demands v_imaged v_lastFault f_refused v_road_drawSeed w76_0 w76_1 w76_2 w76_3) := hD
      exact W.iret hx hb hr (fun t ht _ => ⟨⟨_, (f_refused, w76_0, w76_1, w76_2, w76_3), rfl, h, hPt hP ht⟩, hS.F ht⟩) hS.2.2 dX9_car_79
    have h := h.2 hc
    refine lv_aload_n hx hb dX9_car_59 rfl (lv_at hl 0 rfl) ?_
    refine lv_bipush (v := (-7)) hx hb dX9_car_60 (by decide) ?_
    refine rw_i (rwV S hE hT hS hP hD hA (c_X9_refuse h) [0, 1] rfl (by decide +kernel) lkX9_59 rfl ⟨(Nat.le_of_ble_eq_true rfl), (Nat.le_of_ble_eq_true rfl)⟩ 0 rfl rfl hl.1 rfl (Nat.le_of_ble_eq_true rfl) dX9_car_62 ⟨(Nat.zero_le _), (Nat.zero_le _)⟩) hP hD hS hA [0, 1] rfl (by decide +kernel) (fun _ => rfl) (fun r62 w62_0 H locs h hP hD hS => ?_)
    try dsimp only at h
    have hP : va_P D vwCl (wX9_car cI cJ cS a_o a_refused a_road a_road_cars a_road_cars_bases a_road_cars_shares a_road_cars_speeds z_kept z_ahead z_shelves z_cutting z_acting z_road_stretches z_road_tunes z_road_demands v_imaged v_lastFault w62_0 v_road_drawSeed v_road_cars_carCount f_road_cars_bases f_road_cars_shares f_road_cars_speeds) H := hP
    have hD : va_D A (wX9_car cI cJ cS a_o a_refused a_road a_road_cars a_road_cars_bases a_road_cars_shares a_road_cars_speeds z_kept z_ahead z_shelves z_cutting z_acting z_road_stretches z_road_tunes z_road_demands v_imaged v_lastFault w62_0 v_road_drawSeed v_road_cars_carCount f_road_cars_bases f_road_cars_shares f_road_cars_speeds) := hD
    exact W.iret hx hb hr (fun t ht _ => ⟨⟨_, (w62_0, v_road_cars_carCount, f_road_cars_bases, f_road_cars_shares, f_road_cars_speeds), rfl, h, hPt hP ht⟩, hS.F ht⟩) hS.2.2 dX9_car_65
  have h := h.1 hc
  refine lv_aload_n hx hb dX9_car_39 rfl (lv_at hl 0 rfl) ?_
  refine lv_bipush (v := (-6)) hx hb dX9_car_40 (by decide) ?_
  refine rw_i (rwV S hE hT hS hP hD hA (c_X9_refuse h) [0, 1] rfl (by decide +kernel) lkX9_59 rfl ⟨(Nat.le_of_ble_eq_true rfl), (Nat.le_of_ble_eq_true rfl)⟩ 0 rfl rfl hl.1 rfl (Nat.le_of_ble_eq_true rfl) dX9_car_42 ⟨(Nat.zero_le _), (Nat.zero_le _)⟩) hP hD hS hA [0, 1] rfl (by decide +kernel) (fun _ => rfl) (fun r42 w42_0 H locs h hP hD hS => ?_)
  try dsimp only at h
  have hP : va_P D vwCl (wX9_car cI cJ cS a_o a_refused a_road a_road_cars a_road_cars_bases a_road_cars_shares a_road_cars_speeds z_kept z_ahead z_shelves z_cutting z_acting z_road_stretches z_road_tunes z_road_demands v_imaged v_lastFault w42_0 v_road_drawSeed v_road_cars_carCount f_road_cars_bases f_road_cars_shares f_road_cars_speeds) H := hP
  have hD : va_D A (wX9_car cI cJ cS a_o a_refused a_road a_road_cars a_road_cars_bases a_road_cars_shares a_road_cars_speeds z_kept z_ahead z_shelves z_cutting z_acting z_road_stretches z_road_tunes z_road_demands v_imaged v_lastFault w42_0 v_road_drawSeed v_road_cars_carCount f_road_cars_bases f_road_cars_shares f_road_cars_speeds) := hD
  exact W.iret hx hb hr (fun t ht _ => ⟨⟨_, (w42_0, v_road_cars_carCount, f_road_cars_bases, f_road_cars_shares, f_road_cars_speeds), rfl, h, hPt hP ht⟩, hS.F ht⟩) hS.2.2 dX9_car_45
/-! X9_carOf -/
abbrev wX9_carOf (cI cJ cS : ClassId) (a_o a_refused a_road a_road_cars a_road_cars_bases a_road_cars_shares a_road_cars_speeds : Nat) (z_kept z_ahead z_shelves z_cutting z_acting z_road_stretches z_road_tunes z_road_demands : Value) (v_imaged : Int32) (v_lastFault : Int32) (f_refused : Nat → Int32) (v_road_drawSeed : Int32) (v_road_cars_carCount : Int32) (f_road_cars_bases : Nat → Int32) (f_road_cars_shares : Nat → Int32) (f_road_cars_speeds : Nat → Int32) : va_W := [(a_o, .inr (8, [.ref a_road, z_kept, z_ahead, z_shelves, z_cutting, z_acting, .ref a_refused, .int v_imaged, .int v_lastFault])), (a_refused, .inl (cI, 8, .inl f_refused)), (a_road, .inr (4, [z_road_stretches, .ref a_road_cars, z_road_tunes, z_road_demands, .int v_road_drawSeed])), (a_road_cars, .inr (1, [.ref a_road_cars_speeds, .ref a_road_cars_bases, .ref a_road_cars_shares, .int v_road_cars_carCount])), (a_road_cars_bases, .inl (cI, 6, .inl f_road_cars_bases)), (a_road_cars_shares, .inl (cI, 6, .inl f_road_cars_shares)), (a_road_cars_speeds, .inl (cI, 6, .inl f_road_cars_speeds))]
def F_X9_carOf (f_refused : Nat → Int32) (v_road_cars_carCount : Int32) (f_road_cars_bases : Nat → Int32) (f_road_cars_shares : Nat → Int32) (f_road_cars_speeds : Nat → Int32) (x1 : Int32) (x2 : Int32) (post : Int32 → (Nat → Int32) → Prop) : Prop := (F_X1_has v_road_cars_carCount x1 (fun r8 => ((r8 = 0 → (F_X9_refuse f_refused (-5) (fun r17 w17_0 => post r17 w17_0))) ∧ (¬ r8 = 0 → ((x2 = 0 → (F_X1_speedOf v_road_cars_carCount f_road_cars_speeds x1 (fun r56 => post r56 f_refused))) ∧ (¬ x2 = 0 → ((x2 = 1 → (F_X1_baseOf v_road_cars_carCount f_road_cars_bases x1 (fun r68 => post r68 f_refused))) ∧ (¬ x2 = 1 → ((x2 = 2 → (F_X1_shareOf v_road_cars_carCount f_road_cars_shares x1 (fun r80 => post r80 f_refused))) ∧ (¬ x2 = 2 → (F_X9_refuse f_refused (-5) (fun r87 w87_0 => post r87 w87_0))))))))))))
set_option maxHeartbeats 4000000 in
set_option maxRecDepth 100000 in
theorem c_X9_carOf {l : Launch} {D : va_G} {cI cJ cS : ClassId} {ad adK : Nat → Nat} {a_o a_refused a_road a_road_cars a_road_cars_bases a_road_cars_shares a_road_cars_speeds : Nat} {z_kept z_ahead z_shelves z_cutting z_acting z_road_stretches z_road_tunes z_road_demands : Value} {v_imaged : Int32} {v_lastFault : Int32} {f_refused : Nat → Int32} {v_road_drawSeed : Int32} {v_road_cars_carCount : Int32} {f_road_cars_bases : Nat → Int32} {f_road_cars_shares : Nat → Int32} {f_road_cars_speeds : Nat → Int32} {x1 : Int32} {x2 : Int32} {post : Int32 → (Nat → Int32) → Prop} (h : F_X9_carOf f_refused v_road_cars_carCount f_road_cars_bases f_road_cars_shares f_road_cars_speeds x1 x2 post) {sz : Nat} : Met l yX9_carOf (Cond.code yX9_carOf cX9_carOf 3 (some (.int)) :: GW) (rmd 3 0 0) (PW D cI cJ cS ad adK [.ref a_o, .int x1, .int x2] (wX9_carOf cI cJ cS a_o a_refused a_road a_road_cars a_road_cars_bases a_road_cars_shares a_road_cars_speeds z_kept z_ahead z_shelves z_cutting z_acting z_road_stretches z_road_tunes z_road_demands v_imaged v_lastFault f_refused v_road_drawSeed v_road_cars_carCount f_road_cars_bases f_road_cars_shares f_road_cars_speeds) sz) (va_Qi (fun r (u : (Nat → Int32)) => post r u) (fun u t => va_P D vwCl (wX9_carOf cI cJ cS a_o a_refused a_road a_road_cars a_road_cars_bases a_road_cars_shares a_road_cars_speeds z_kept z_ahead z_shelves z_cutting z_acting z_road_stretches z_road_tunes z_road_demands v_imaged v_lastFault u v_road_drawSeed v_road_cars_carCount f_road_cars_bases f_road_cars_shares f_road_cars_speeds) t.heap) (va_A (wX9_carOf cI cJ cS a_o a_refused a_road a_road_cars a_road_cars_bases a_road_cars_shares a_road_cars_speeds z_kept z_ahead z_shelves z_cutting z_acting z_road_stretches z_road_tunes z_road_demands v_imaged v_lastFault f_refused v_road_drawSeed v_road_cars_carCount f_road_cars_bases f_road_cars_shares f_road_cars_speeds) sz)) 0 0 (va_A (wX9_carOf cI cJ cS a_o a_refused a_road a_road_cars a_road_cars_bases a_road_cars_shares a_road_cars_speeds z_kept z_ahead z_shelves z_cutting z_acting z_road_stretches z_road_tunes z_road_demands v_imaged v_lastFault f_refused v_road_drawSeed v_road_cars_carCount f_road_cars_bases f_road_cars_shares f_road_cars_speeds) sz) := by
  refine Met.rw (Qc := fun A => (va_Qi (fun r (u : (Nat → Int32)) => post r u) (fun u t => va_P D vwCl (wX9_carOf cI cJ cS a_o a_refused a_road a_road_cars a_road_cars_bases a_road_cars_shares a_road_cars_speeds z_kept z_ahead z_shelves z_cutting z_acting z_road_stretches z_road_tunes z_road_demands v_imaged v_lastFault u v_road_drawSeed v_road_cars_carCount f_road_cars_bases f_road_cars_shares f_road_cars_speeds) t.heap) A)) (by decide) (Nat.le_of_ble_eq_true rfl) (fun p e s m args below meth c ls A (S : CallFix p m c cX9_carOf 3 s args GW "RoadThatSings") hE hT hP hD hA hS hr hlocks hname hl => ?_)
  have hS0 := hS
  have hx := S.1
  have hb := S.2.1
  have hl : lv_has ls 3 [(0, .ref a_o), (1, .int x1), (2, .int x2)] := hl
  unfold F_X9_carOf at h
  refine lv_aload_n hx hb dX9_carOf_0 rfl (lv_at hl 0 rfl) ?_
  refine gf S hE hP 0 rfl rfl inX9 (k := 0) (by decide) q181 rfl dX9_carOf_1 ?_
  refine gfN S hE hP 2 rfl rfl inX5 (k := 1) (by decide) nfX9_180 rfl dX9_carOf_4 ?_
  refine lv_iload_n hx hb dX9_carOf_7 rfl (lv_at hl 1 rfl) ?_
  refine ro_i (roV S hE hT hS (c_X1_has h) lkX9_193 rfl ⟨(Nat.le_of_ble_eq_true rfl), (Nat.le_of_ble_eq_true rfl)⟩ (hP.sub [3] rfl) 0 rfl rfl hl.1 rfl (Nat.le_of_ble_eq_true rfl) dX9_carOf_8 ⟨(Nat.zero_le _), (Nat.zero_le _)⟩) (fun r8 h => ?_)
  refine lv_if_ne (tgt := 21) hx hb dX9_carOf_11 (by decide) (fun hc => ?_) (fun hc => ?_)
  · have h := h.2 hc
    refine lv_iload_n hx hb dX9_carOf_21 rfl (lv_at hl 2 rfl) ?_
    by_cases hk0 : x2 = 0
    · have h := h.1 hk0
      refine lv_tableIn (off := 26) (tgt := 48) hx hb dX9_carOf_22 (by rw [hk0]; decide) (by rw [hk0]; decide) (by rw [hk0]; rfl) (by decide) ?_
      refine lv_aload_n hx hb dX9_carOf_48 rfl (lv_at hl 0 rfl) ?_
      refine gf S hE hP 0 rfl rfl inX9 (k := 0) (by decide) q181 rfl dX9_carOf_49 ?_
      refine gfN S hE hP 2 rfl rfl inX5 (k := 1) (by decide) nfX9_180 rfl dX9_carOf_52 ?_
      refine lv_iload_n hx hb dX9_carOf_55 rfl (lv_at hl 1 rfl) ?_
      refine ro_i (roV S hE hT hS (c_X1_speedOf h) lkX9_194 rfl ⟨(Nat.le_of_ble_eq_true rfl), (Nat.le_of_ble_eq_true rfl)⟩ (hP.sub [3, 6] rfl) 0 rfl rfl hl.1 rfl (Nat.le_of_ble_eq_true rfl) dX9_carOf_56 ⟨(Nat.zero_le _), (Nat.zero_le _)⟩) (fun r56 h => ?_)
      exact W.iret hx hb hr (fun t ht _ => ⟨⟨_, f_refused, rfl, h, hPt hP ht⟩, hS.F ht⟩) hS.2.2 dX9_carOf_59
    have h := h.2 hk0
    by_cases hk1 : x2 = 1
    · have h := h.1 hk1
      refine lv_tableIn (off := 38) (tgt := 60) hx hb dX9_carOf_22 (by rw [hk1]; decide) (by rw [hk1]; decide) (by rw [hk1]; rfl) (by decide) ?_
      refine lv_aload_n hx hb dX9_carOf_60 rfl (lv_at hl 0 rfl) ?_
      refine gf S hE hP 0 rfl rfl inX9 (k := 0) (by decide) q181 rfl dX9_carOf_61 ?_
      refine gfN S hE hP 2 rfl rfl inX5 (k := 1) (by decide) nfX9_180 rfl dX9_carOf_64 ?_
      refine lv_iload_n hx hb dX9_carOf_67 rfl (lv_at hl 1 rfl) ?_
      refine ro_i (roV S hE hT hS (c_X1_baseOf h) lkX9_197 rfl ⟨(Nat.le_of_ble_eq_true rfl), (Nat.le_of_ble_eq_true rfl)⟩ (hP.sub [3, 4] rfl) 0 rfl rfl hl.1 rfl (Nat.le_of_ble_eq_true rfl) dX9_carOf_68 ⟨(Nat.zero_le _), (Nat.zero_le _)⟩) (fun r68 h => ?_)
      exact W.iret hx hb hr (fun t ht _ => ⟨⟨_, f_refused, rfl, h, hPt hP ht⟩, hS.F ht⟩) hS.2.2 dX9_carOf_71
    have h := h.2 hk1
    by_cases hk2 : x2 = 2
    · have h := h.1 hk2
      refine lv_tableIn (off := 50) (tgt := 72) hx hb dX9_carOf_22 (by rw [hk2]; decide) (by rw [hk2]; decide) (by rw [hk2]; rfl) (by decide) ?_
      refine lv_aload_n hx hb dX9_carOf_72 rfl (lv_at hl 0 rfl) ?_
      refine gf S hE hP 0 rfl rfl inX9 (k := 0) (by decide) q181 rfl dX9_carOf_73 ?_
      refine gfN S hE hP 2 rfl rfl inX5 (k := 1) (by decide) nfX9_180 rfl dX9_carOf_76 ?_
      refine lv_iload_n hx hb dX9_carOf_79 rfl (lv_at hl 1 rfl) ?_
      refine ro_i (roV S hE hT hS (c_X1_shareOf h) lkX9_200 rfl ⟨(Nat.le_of_ble_eq_true rfl), (Nat.le_of_ble_eq_true rfl)⟩ (hP.sub [3, 5] rfl) 0 rfl rfl hl.1 rfl (Nat.le_of_ble_eq_true rfl) dX9_carOf_80 ⟨(Nat.zero_le _), (Nat.zero_le _)⟩) (fun r80 h => ?_)
      exact W.iret hx hb hr (fun t ht _ => ⟨⟨_, f_refused, rfl, h, hPt hP ht⟩, hS.F ht⟩) hS.2.2 dX9_carOf_83
    have h := h.2 hk2
    refine lv_tableOut (tgt := 84) hx hb dX9_carOf_22 (sw_out (fun k h1 h2 => by
      rcases (show k = 0 ∨ k = 1 ∨ k = 2 by omega) with rfl | rfl | rfl
      · exact hk0
      · exact hk1
      · exact hk2)) (by decide) ?_
    refine lv_aload_n hx hb dX9_carOf_84 rfl (lv_at hl 0 rfl) ?_
    refine lv_bipush (v := (-5)) hx hb dX9_carOf_85 (by decide) ?_
    refine rw_i (rwV S hE hT hS hP hD hA (c_X9_refuse h) [0, 1] rfl (by decide +kernel) lkX9_59 rfl ⟨(Nat.le_of_ble_eq_true rfl), (Nat.le_of_ble_eq_true rfl)⟩ 0 rfl rfl hl.1 rfl (Nat.le_of_ble_eq_true rfl) dX9_carOf_87 ⟨(Nat.zero_le _), (Nat.zero_le _)⟩) hP hD hS hA [0, 1] rfl (by decide +kernel) (fun _ => rfl) (fun r87 w87_0 H locs h hP hD hS => ?_)
    try dsimp only at h
    have hP : va_P D vwCl (wX9_carOf cI cJ cS a_o a_refused a_road a_road_cars a_road_cars_bases a_road_cars_shares a_road_cars_speeds z_kept z_ahead z_shelves z_cutting z_acting z_road_stretches z_road_tunes z_road_demands v_imaged v_lastFault w87_0 v_road_drawSeed v_road_cars_carCount f_road_cars_bases f_road_cars_shares f_road_cars_speeds) H := hP
    have hD : va_D A (wX9_carOf cI cJ cS a_o a_refused a_road a_road_cars a_road_cars_bases a_road_cars_shares a_road_cars_speeds z_kept z_ahead z_shelves z_cutting z_acting z_road_stretches z_road_tunes z_road_demands v_imaged v_lastFault w87_0 v_road_drawSeed v_road_cars_carCount f_road_cars_bases f_road_cars_shares f_road_cars_speeds) := hD
    exact W.iret hx hb hr (fun t ht _ => ⟨⟨_, w87_0, rfl, h, hPt hP ht⟩, hS.F ht⟩) hS.2.2 dX9_carOf_90
  have h := h.1 hc
  refine lv_aload_n hx hb dX9_carOf_14 rfl (lv_at hl 0 rfl) ?_
  refine lv_bipush (v := (-5)) hx hb dX9_carOf_15 (by decide) ?_
  refine rw_i (rwV S hE hT hS hP hD hA (c_X9_refuse h) [0, 1] rfl (by decide +kernel) lkX9_59 rfl ⟨(Nat.le_of_ble_eq_true rfl), (Nat.le_of_ble_eq_true rfl)⟩ 0 rfl rfl hl.1 rfl (Nat.le_of_ble_eq_true rfl) dX9_carOf_17 ⟨(Nat.zero_le _), (Nat.zero_le _)⟩) hP hD hS hA [0, 1] rfl (by decide +kernel) (fun _ => rfl) (fun r17 w17_0 H locs h hP hD hS => ?_)
  try dsimp only at h
  have hP : va_P D vwCl (wX9_carOf cI cJ cS a_o a_refused a_road a_road_cars a_road_cars_bases a_road_cars_shares a_road_cars_speeds z_kept z_ahead z_shelves z_cutting z_acting z_road_stretches z_road_tunes z_road_demands v_imaged v_lastFault w17_0 v_road_drawSeed v_road_cars_carCount f_road_cars_bases f_road_cars_shares f_road_cars_speeds) H := hP
  have hD : va_D A (wX9_carOf cI cJ cS a_o a_refused a_road a_road_cars a_road_cars_bases a_road_cars_shares a_road_cars_speeds z_kept z_ahead z_shelves z_cutting z_acting z_road_stretches z_road_tunes z_road_demands v_imaged v_lastFault w17_0 v_road_drawSeed v_road_cars_carCount f_road_cars_bases f_road_cars_shares f_road_cars_speeds) := hD
  exact W.iret hx hb hr (fun t ht _ => ⟨⟨_, w17_0, rfl, h, hPt hP ht⟩, hS.F ht⟩) hS.2.2 dX9_carOf_20
/-! X9_areNotes -/
abbrev wX9_areNotes (cI cJ cS : ClassId) (a_p0 a_p0_elements : Nat) (v_p0_held : Int32) (v_p0_sort : Int32) (v_p0_elementCount : Int32) (v_p0_stretchNumber : Int32) (g_p0_elements : Nat → Int64) : va_W := [(a_p0, .inr (5, [.ref a_p0_elements, .int v_p0_held, .int v_p0_sort, .int v_p0_elementCount, .int v_p0_stretchNumber])), (a_p0_elements, .inl (cJ, 160, .inr (.inl g_p0_elements)))]
def L_X9_areNotes_2 (v_p0_elementCount : Int32) (g_p0_elements : Nat → Int64) (x1 : Int32) (post : Int32 → Prop) : Nat → Int32 → Prop
  | 0, _ => False
  | n2 + 1, x2 => ((x1 ≤ x2 → post 1) ∧ (¬ x1 ≤ x2 → (F_X6_intAt v_p0_elementCount g_p0_elements (2 * x2) (fun r11 => (F_X9_within r11 0 9999 (fun r18 => ((r18 = 0 → post 0) ∧ (¬ r18 = 0 → (F_X6_intAt v_p0_elementCount g_p0_elements ((2 * x2) + 1) (fun r30 => (F_X9_within r30 1 16 (fun r36 => ((r36 = 0 → post 0) ∧ (¬ r36 = 0 → (∀ x2_44 : Int32, x2_44 = x2 + 1 → L_X9_areNotes_2 v_p0_elementCount g_p0_elements x1 post n2 x2_44)))))))))))))))
def F_X9_areNotes (v_p0_elementCount : Int32) (g_p0_elements : Nat → Int64) (x1 : Int32) (post : Int32 → Prop) : Prop := (∃ n2 : Nat, L_X9_areNotes_2 v_p0_elementCount g_p0_elements x1 post n2 0)
set_option maxHeartbeats 4000000 in
set_option maxRecDepth 100000 in
theorem w_X9_areNotes_2 {l : Launch} {D : va_G} {cI cJ cS : ClassId} {ad adK : Nat → Nat} {a_p0 a_p0_elements : Nat} {v_p0_held : Int32} {v_p0_sort : Int32} {v_p0_elementCount : Int32} {v_p0_stretchNumber : Int32} {g_p0_elements : Nat → Int64} {x1 : Int32} {post : Int32 → Prop} {p : Program} {e : Env} {s : State} {m : MethodId} {args : Array Value} {below : List Frame} {meth : Method} {c : Code} (S : CallFix p m c cX9_areNotes 3 s args GW "RoadThatSings") (hE : EN D cI cJ cS s) (hT : ST ad adK nof s s.heap) (hP : va_P D vwCl (wX9_areNotes cI cJ cS a_p0 a_p0_elements v_p0_held v_p0_sort v_p0_elementCount v_p0_stretchNumber g_p0_elements) s.heap) (hS : va_S nof s.heap s.heap []) (hr : meth.sig.returnType = (some (.boolean))) (hlocks : meth.locks = false) : ∀ n : Nat, ∀ (x2 : Int32) (ls : Array Slot), L_X9_areNotes_2 v_p0_elementCount g_p0_elements x1 post n x2 → lv_has ls 3 [(0, .ref a_p0), (1, .int x1), (2, .int x2)] → W p l e (rmd 2 0 0) s m args below meth c s.heap [] 0 0 (MQ below (vp_Si post) args s 0 0 nof) (F0 m 2 ls []) := by
  intro n
  induction n with
  | zero =>
    intro x2 ls h hl
    exact h.elim
  | succ n ih =>
    intro x2 ls h hl
    rw [L_X9_areNotes_2] at h
    have hx := S.1
    have hb := S.2.1
    refine lv_iload_n hx hb dX9_areNotes_2 rfl (lv_at hl 2 rfl) ?_
    refine lv_iload_n hx hb dX9_areNotes_3 rfl (lv_at hl 1 rfl) ?_
    refine lv_icmp_ge (tgt := 50) hx hb dX9_areNotes_4 (by decide) (fun hc => ?_) (fun hc => ?_)
    · have h := h.1 hc
      refine lv_iconst (v := 1) hx hb dX9_areNotes_50 (by decide) ?_
      exact W.zret hx hb hr rfl (fun t ht _ => ⟨_, rfl, h, ht⟩) (fun _ hq => by cases hq) dX9_areNotes_51
    have h := h.2 hc
    refine lv_aload_n hx hb dX9_areNotes_7 rfl (lv_at hl 0 rfl) ?_
    refine lv_iconst (v := 2) hx hb dX9_areNotes_8 (by decide) ?_
    refine lv_iload_n hx hb dX9_areNotes_9 rfl (lv_at hl 2 rfl) ?_
    refine lv_imul hx hb dX9_areNotes_10 ?_
    refine ro_i (roV S hE hT hS (c_X6_intAt h) lkX9_153 rfl ⟨(Nat.le_of_ble_eq_true rfl), (Nat.le_of_ble_eq_true rfl)⟩ (hP.sub [0, 1] rfl) 0 rfl rfl hl.1 rfl (Nat.le_of_ble_eq_true rfl) dX9_areNotes_11 ⟨(Nat.zero_le _), (Nat.zero_le _)⟩) (fun r11 h => ?_)
    refine lv_iconst (v := 0) hx hb dX9_areNotes_14 (by decide) ?_
    refine lv_sipush (v := 9999) hx hb dX9_areNotes_15 (by decide) ?_
    refine ro_i (roS S hE hT hS (c_X9_within h) lkX9_63 rfl ⟨(Nat.le_of_ble_eq_true rfl), (Nat.le_of_ble_eq_true rfl)⟩ (hP.sub [] rfl) hl.1 rfl (Nat.le_of_ble_eq_true rfl) dX9_areNotes_18 ⟨(Nat.zero_le _), (Nat.zero_le _)⟩) (fun r18 h => ?_)
    refine lv_if_eq (tgt := 42) hx hb dX9_areNotes_21 (by decide) (fun hc => ?_) (fun hc => ?_)
    · have h := h.1 hc
      refine lv_iconst (v := 0) hx hb dX9_areNotes_42 (by decide) ?_
      exact W.zret hx hb hr rfl (fun t ht _ => ⟨_, rfl, h, ht⟩) (fun _ hq => by cases hq) dX9_areNotes_43
    have h := h.2 hc
    refine lv_aload_n hx hb dX9_areNotes_24 rfl (lv_at hl 0 rfl) ?_
    refine lv_iconst (v := 2) hx hb dX9_areNotes_25 (by decide) ?_
    refine lv_iload_n hx hb dX9_areNotes_26 rfl (lv_at hl 2 rfl) ?_
    refine lv_imul hx hb dX9_areNotes_27 ?_
    refine lv_iconst (v := 1) hx hb dX9_areNotes_28 (by decide) ?_
    refine lv_iadd hx hb dX9_areNotes_29 ?_
    refine ro_i (roV S hE hT hS (c_X6_intAt h) lkX9_153 rfl ⟨(Nat.le_of_ble_eq_true rfl), (Nat.le_of_ble_eq_true rfl)⟩ (hP.sub [0, 1] rfl) 0 rfl rfl hl.1 rfl (Nat.le_of_ble_eq_true rfl) dX9_areNotes_30 ⟨(Nat.zero_le _), (Nat.zero_le _)⟩) (fun r30 h => ?_)
    refine lv_iconst (v := 1) hx hb dX9_areNotes_33 (by decide) ?_
    refine lv_bipush (v := 16) hx hb dX9_areNotes_34 (by decide) ?_
    refine ro_i (roS S hE hT hS (c_X9_within h) lkX9_63 rfl ⟨(Nat.le_of_ble_eq_true rfl), (Nat.le_of_ble_eq_true rfl)⟩ (hP.sub [] rfl) hl.1 rfl (Nat.le_of_ble_eq_true rfl) dX9_areNotes_36 ⟨(Nat.zero_le _), (Nat.zero_le _)⟩) (fun r36 h => ?_)
    refine lv_if_ne (tgt := 44) hx hb dX9_areNotes_39 (by decide) (fun hc => ?_) (fun hc => ?_)
    · have h := h.2 hc
      obtain ⟨x2_44, ex2_44⟩ : ∃ z : Int32, z = x2 + 1 := ⟨_, rfl⟩
      have h := h _ ex2_44
      refine lv_iinc (v := x2_44) (lv' := [(2, .int x2_44), (0, .ref a_p0), (1, .int x1)]) hx hb dX9_areNotes_44 hl (k := 2) rfl (by rw [ex2_44]; rfl) (by decide) rfl (fun ls hl => ?_)
      refine lv_goto (tgt := 2) hx hb dX9_areNotes_47 (by decide) ?_
      exact ih _ _ h (lv_sub hl [1, 2, 0] rfl)
    have h := h.1 hc
    refine lv_iconst (v := 0) hx hb dX9_areNotes_42 (by decide) ?_
    exact W.zret hx hb hr rfl (fun t ht _ => ⟨_, rfl, h, ht⟩) (fun _ hq => by cases hq) dX9_areNotes_43
set_option maxHeartbeats 4000000 in
set_option maxRecDepth 100000 in
theorem c_X9_areNotes {l : Launch} {D : va_G} {cI cJ cS : ClassId} {ad adK : Nat → Nat} {a_p0 a_p0_elements : Nat} {v_p0_held : Int32} {v_p0_sort : Int32} {v_p0_elementCount : Int32} {v_p0_stretchNumber : Int32} {g_p0_elements : Nat → Int64} {x1 : Int32} {post : Int32 → Prop} (h : F_X9_areNotes v_p0_elementCount g_p0_elements x1 post) : Met l yX9_areNotes (Cond.code yX9_areNotes cX9_areNotes 3 (some (.boolean)) :: GW) (rmd 2 0 0) (PR D cI cJ cS ad adK [.ref a_p0, .int x1] (wX9_areNotes cI cJ cS a_p0 a_p0_elements v_p0_held v_p0_sort v_p0_elementCount v_p0_stretchNumber g_p0_elements)) (vp_Si post) 0 0 nof := by
  refine Met.ro (by decide) (Nat.le_of_ble_eq_true rfl) (fun p e s m args below meth c ls (S : CallFix p m c cX9_areNotes 3 s args GW "RoadThatSings") hE hT hP hS hr hlocks hl => ?_)
  have hx := S.1
  have hb := S.2.1
  have hl : lv_has ls 3 [(0, .ref a_p0), (1, .int x1)] := hl
  unfold F_X9_areNotes at h
  refine lv_iconst (v := 0) hx hb dX9_areNotes_0 (by decide) ?_
  refine lv_istore_n (lv' := [(2, .int 0), (0, .ref a_p0), (1, .int x1)]) hx hb dX9_areNotes_1 rfl hl (by decide) rfl (fun ls hl => ?_)
  obtain ⟨n, h⟩ := h
  refine w_X9_areNotes_2 S hE hT hP hS hr hlocks n _ _ h (lv_sub hl [1, 2, 0] rfl)
/-! X9_tune -/
abbrev wX9_tune (cI cJ cS : ClassId) (a_o a_refused a_road a_road_tunes a_road_tunes_beats a_road_tunes_noteCounts a_road_tunes_pitches a_shelves : Nat) (z_kept z_ahead z_cutting z_acting z_road_stretches z_road_cars z_road_demands : Value) (sa ea : Nat → Nat) (v_imaged : Int32) (v_lastFault : Int32) (f_refused : Nat → Int32) (v_road_drawSeed : Int32) (v_road_tunes_tuneCount : Int32) (f_road_tunes_beats : Nat → Int32) (f_road_tunes_noteCounts : Nat → Int32) (f_road_tunes_pitches : Nat → Int32) (f_sh_held : Nat → Int32) (f_sh_sort : Nat → Int32) (f_sh_cnt : Nat → Int32) (f_sh_num : Nat → Int32) (g_sh_el : Nat → Nat → Int64) : va_W := [(a_o, .inr (8, [.ref a_road, z_kept, z_ahead, .ref a_shelves, z_cutting, z_acting, .ref a_refused, .int v_imaged, .int v_lastFault])), (a_refused, .inl (cI, 8, .inl f_refused)), (a_road, .inr (4, [z_road_stretches, z_road_cars, .ref a_road_tunes, z_road_demands, .int v_road_drawSeed])), (a_road_tunes, .inr (7, [.ref a_road_tunes_pitches, .ref a_road_tunes_beats, .ref a_road_tunes_noteCounts, .int v_road_tunes_tuneCount])), (a_road_tunes_beats, .inl (cI, 72, .inl f_road_tunes_beats)), (a_road_tunes_noteCounts, .inl (cI, 6, .inl f_road_tunes_noteCounts)), (a_road_tunes_pitches, .inl (cI, 72, .inl f_road_tunes_pitches)), (a_shelves, .inl (cS, 8, .inr (.inr (.inr (.inr (fun k => some (sa k)))))))] ++ shW sa ea cJ f_sh_held f_sh_sort f_sh_cnt f_sh_num g_sh_el
def L_X9_tune_112 (f_sh_cnt : Nat → Int32) (g_sh_el : Nat → Nat → Int64) (x2 : Int32) (j3 : Nat) (x5 : Int32) (f_refused : Nat → Int32) (v_road_tunes_tuneCount : Int32) (post : Int32 → (Nat → Int32) → Int32 → (Nat → Int32) → (Nat → Int32) → (Nat → Int32) → Prop) : Nat → Int32 → (Nat → Int32) → (Nat → Int32) → (Nat → Int32) → Prop
  | 0, _, _, _, _ => False
  | n112 + 1, x6, f_road_tunes_beats, f_road_tunes_noteCounts, f_road_tunes_pitches => ((x2 ≤ x6 → post x5 f_refused v_road_tunes_tuneCount f_road_tunes_beats f_road_tunes_noteCounts f_road_tunes_pitches) ∧ (¬ x2 ≤ x6 → (F_X6_intAt (f_sh_cnt j3) (g_sh_el j3) (2 * x6) (fun r130 => (F_X6_intAt (f_sh_cnt j3) (g_sh_el j3) ((2 * x6) + 1) (fun r140 => (F_X8_addNote v_road_tunes_tuneCount f_road_tunes_beats f_road_tunes_noteCounts f_road_tunes_pitches r130 r140 (fun w143_0 w143_1 w143_2 => (∀ x6_146 : Int32, x6_146 = x6 + 1 → L_X9_tune_112 f_sh_cnt g_sh_el x2 j3 x5 f_refused v_road_tunes_tuneCount post n112 x6_146 w143_0 w143_1 w143_2)))))))))
def F_X9_tune (f_refused : Nat → Int32) (v_road_tunes_tuneCount : Int32) (f_road_tunes_beats : Nat → Int32) (f_road_tunes_noteCounts : Nat → Int32) (f_road_tunes_pitches : Nat → Int32) (f_sh_held : Nat → Int32) (f_sh_cnt : Nat → Int32) (g_sh_el : Nat → Nat → Int64) (x1 : Int32) (x2 : Int32) (post : Int32 → (Nat → Int32) → Int32 → (Nat → Int32) → (Nat → Int32) → (Nat → Int32) → Prop) : Prop := (F_X9_shelfAt x1 ((F_X9_refusalOfRow_null0  (fun r7 => ((r7 = 0 → (F_X9_refuse f_refused r7 (fun r24 w24_0 => post r24 w24_0 v_road_tunes_tuneCount f_road_tunes_beats f_road_tunes_noteCounts f_road_tunes_pitches))) ∧ (¬ r7 = 0 → (F_X9_refuse f_refused r7 (fun r24 w24_0 => post r24 w24_0 v_road_tunes_tuneCount f_road_tunes_beats f_road_tunes_noteCounts f_road_tunes_pitches))))))) (fun j2 => (F_X9_refusalOfRow (f_sh_held j2) (fun r7 => ((r7 = 0 → ((0 ≤ x2 → (F_X6_size (f_sh_cnt j2) (fun r41 => ((x2 ≤ (r41 / 2) → ((12 < x2 → (F_X9_refuse f_refused (-6) (fun r73 w73_0 => post r73 w73_0 v_road_tunes_tuneCount f_road_tunes_beats f_road_tunes_noteCounts f_road_tunes_pitches))) ∧ (¬ 12 < x2 → (F_X9_areNotes (f_sh_cnt j2) (g_sh_el j2) x2 (fun r64 => ((r64 = 0 → (F_X9_refuse f_refused (-6) (fun r73 w73_0 => post r73 w73_0 v_road_tunes_tuneCount f_road_tunes_beats f_road_tunes_noteCounts f_road_tunes_pitches))) ∧ (¬ r64 = 0 → (F_X8_isFull v_road_tunes_tuneCount (fun r84 => ((r84 = 0 → (F_X8_begin v_road_tunes_tuneCount f_road_tunes_noteCounts (fun r104 w104_0 w104_1 => (∃ n112 : Nat, L_X9_tune_112 f_sh_cnt g_sh_el x2 j2 r104 f_refused w104_0 post n112 0 f_road_tunes_beats w104_1 f_road_tunes_pitches)))) ∧ (¬ r84 = 0 → (F_X9_refuse f_refused (-7) (fun r93 w93_0 => post r93 w93_0 v_road_tunes_tuneCount f_road_tunes_beats f_road_tunes_noteCounts f_road_tunes_pitches))))))))))))) ∧ (¬ x2 ≤ (r41 / 2) → (F_X9_refuse f_refused (-5) (fun r52 w52_0 => post r52 w52_0 v_road_tunes_tuneCount f_road_tunes_beats f_road_tunes_noteCounts f_road_tunes_pitches))))))) ∧ (¬ 0 ≤ x2 → (F_X9_refuse f_refused (-4) (fun r35 w35_0 => post r35 w35_0 v_road_tunes_tuneCount f_road_tunes_beats f_road_tunes_noteCounts f_road_tunes_pitches))))) ∧ (¬ r7 = 0 → (F_X9_refuse f_refused r7 (fun r24 w24_0 => post r24 w24_0 v_road_tunes_tuneCount f_road_tunes_beats f_road_tunes_noteCounts f_road_tunes_pitches))))))))
set_option maxHeartbeats 4000000 in
set_option maxRecDepth 100000 in
theorem w_X9_tune_112 {l : Launch} {D : va_G} {cI cJ cS : ClassId} {ad adK : Nat → Nat} {a_o a_refused a_road a_road_tunes a_road_tunes_beats a_road_tunes_noteCounts a_road_tunes_pitches a_shelves : Nat} {z_kept z_ahead z_cutting z_acting z_road_stretches z_road_cars z_road_demands : Value} {sa ea : Nat → Nat} {v_imaged : Int32} {v_lastFault : Int32} {f_refused : Nat → Int32} {v_road_drawSeed : Int32} {v_road_tunes_tuneCount : Int32} {f_sh_held : Nat → Int32} {f_sh_sort : Nat → Int32} {f_sh_cnt : Nat → Int32} {f_sh_num : Nat → Int32} {g_sh_el : Nat → Nat → Int64} {x2 : Int32} {j3 : Nat} {x5 : Int32} {post : Int32 → (Nat → Int32) → Int32 → (Nat → Int32) → (Nat → Int32) → (Nat → Int32) → Prop} {p : Program} {e : Env} {s : State} {m : MethodId} {args : Array Value} {below : List Frame} {meth : Method} {c : Code} {A : Nat → Prop} (S : CallFix p m c cX9_tune 7 s args GW "RoadThatSings") (hE : EN D cI cJ cS s) (hT : ST ad adK A s s.heap) (hA : ∀ q : Nat, s.heap.size ≤ q → A q) (hr : meth.sig.returnType = (some (.int))) (hlocks : meth.locks = false) (hjj3 : j3 < 8) : ∀ n : Nat, ∀ (x6 : Int32) (f_road_tunes_beats : Nat → Int32) (f_road_tunes_noteCounts : Nat → Int32) (f_road_tunes_pitches : Nat → Int32) (H : Heap) (locs : List Loc) (ls : Array Slot), L_X9_tune_112 f_sh_cnt g_sh_el x2 j3 x5 f_refused v_road_tunes_tuneCount post n x6 f_road_tunes_beats f_road_tunes_noteCounts f_road_tunes_pitches → va_P D vwCl (wX9_tune cI cJ cS a_o a_refused a_road a_road_tunes a_road_tunes_beats a_road_tunes_noteCounts a_road_tunes_pitches a_shelves z_kept z_ahead z_cutting z_acting z_road_stretches z_road_cars z_road_demands sa ea v_imaged v_lastFault f_refused v_road_drawSeed v_road_tunes_tuneCount f_road_tunes_beats f_road_tunes_noteCounts f_road_tunes_pitches f_sh_held f_sh_sort f_sh_cnt f_sh_num g_sh_el) H → va_D A (wX9_tune cI cJ cS a_o a_refused a_road a_road_tunes a_road_tunes_beats a_road_tunes_noteCounts a_road_tunes_pitches a_shelves z_kept z_ahead z_cutting z_acting z_road_stretches z_road_cars z_road_demands sa ea v_imaged v_lastFault f_refused v_road_drawSeed v_road_tunes_tuneCount f_road_tunes_beats f_road_tunes_noteCounts f_road_tunes_pitches f_sh_held f_sh_sort f_sh_cnt f_sh_num g_sh_el) → va_S A s.heap H locs → lv_has ls 7 [(0, .ref a_o), (2, .int x2), (3, .ref (sa j3)), (5, .int x5), (6, .int x6)] → W p l e (rmd 3 0 0) s m args below meth c H locs 0 0 (MQ below (va_Qi (fun r (u : (Nat → Int32) × Int32 × (Nat → Int32) × (Nat → Int32) × (Nat → Int32)) => post r u.1 u.2.1 u.2.2.1 u.2.2.2.1 u.2.2.2.2) (fun u t => va_P D vwCl (wX9_tune cI cJ cS a_o a_refused a_road a_road_tunes a_road_tunes_beats a_road_tunes_noteCounts a_road_tunes_pitches a_shelves z_kept z_ahead z_cutting z_acting z_road_stretches z_road_cars z_road_demands sa ea v_imaged v_lastFault u.1 v_road_drawSeed u.2.1 u.2.2.1 u.2.2.2.1 u.2.2.2.2 f_sh_held f_sh_sort f_sh_cnt f_sh_num g_sh_el) t.heap) A) args s 0 0 A) (F0 m 112 ls []) := by
  intro n
  induction n with
  | zero =>
    intro x6 f_road_tunes_beats f_road_tunes_noteCounts f_road_tunes_pitches H locs ls h hP hD hS hl
    exact h.elim
  | succ n ih =>
    intro x6 f_road_tunes_beats f_road_tunes_noteCounts f_road_tunes_pitches H locs ls h hP hD hS hl
    rw [L_X9_tune_112] at h
    have hx := S.1
    have hb := S.2.1
    refine lv_iload hx hb dX9_tune_112 (lv_at hl 4 rfl) ?_
    refine lv_iload_n hx hb dX9_tune_114 rfl (lv_at hl 1 rfl) ?_
    refine lv_icmp_ge (tgt := 152) hx hb dX9_tune_115 (by decide) (fun hc => ?_) (fun hc => ?_)
    · have h := h.1 hc
      refine lv_iload hx hb dX9_tune_152 (lv_at hl 3 rfl) ?_
      exact W.iret hx hb hr (fun t ht _ => ⟨⟨_, (f_refused, v_road_tunes_tuneCount, f_road_tunes_beats, f_road_tunes_noteCounts, f_road_tunes_pitches), rfl, h, hPt hP ht⟩, hS.F ht⟩) hS.2.2 dX9_tune_154
    have h := h.2 hc
    refine lv_aload_n hx hb dX9_tune_118 rfl (lv_at hl 0 rfl) ?_
    refine gf S hE hP 0 rfl rfl inX9 (k := 0) (by decide) q181 rfl dX9_tune_119 ?_
    refine gfN S hE hP 2 rfl rfl inX5 (k := 2) (by decide) nfX9_209 rfl dX9_tune_122 ?_
    refine lv_aload_n hx hb dX9_tune_125 rfl (lv_at hl 2 rfl) ?_
    refine lv_iconst (v := 2) hx hb dX9_tune_126 (by decide) ?_
    refine lv_iload hx hb dX9_tune_127 (lv_at hl 4 rfl) ?_
    refine lv_imul hx hb dX9_tune_129 ?_
    refine ro_i (roV S hE hT hS (c_X6_intAt h) lkX9_153 rfl ⟨(Nat.le_of_ble_eq_true rfl), (Nat.le_of_ble_eq_true rfl)⟩ (vPc hP (shS rfl hjj3) (vPc hP (shE rfl hjj3) vPn)) 0 rfl rfl hl.1 rfl (Nat.le_of_ble_eq_true rfl) dX9_tune_130 ⟨(Nat.zero_le _), (Nat.zero_le _)⟩) (fun r130 h => ?_)
    refine lv_aload_n hx hb dX9_tune_133 rfl (lv_at hl 2 rfl) ?_
    refine lv_iconst (v := 2) hx hb dX9_tune_134 (by decide) ?_
    refine lv_iload hx hb dX9_tune_135 (lv_at hl 4 rfl) ?_
    refine lv_imul hx hb dX9_tune_137 ?_
    refine lv_iconst (v := 1) hx hb dX9_tune_138 (by decide) ?_
    refine lv_iadd hx hb dX9_tune_139 ?_
    refine ro_i (roV S hE hT hS (c_X6_intAt h) lkX9_153 rfl ⟨(Nat.le_of_ble_eq_true rfl), (Nat.le_of_ble_eq_true rfl)⟩ (vPc hP (shS rfl hjj3) (vPc hP (shE rfl hjj3) vPn)) 0 rfl rfl hl.1 rfl (Nat.le_of_ble_eq_true rfl) dX9_tune_140 ⟨(Nat.zero_le _), (Nat.zero_le _)⟩) (fun r140 h => ?_)
    refine rw_v (rwV S hE hT hS hP hD hA (c_X8_addNote h) [3, 4, 5, 6] rfl (by decide +kernel) lkX9_219 rfl ⟨(Nat.le_of_ble_eq_true rfl), (Nat.le_of_ble_eq_true rfl)⟩ 3 rfl rfl hl.1 rfl (Nat.le_of_ble_eq_true rfl) dX9_tune_143 ⟨(Nat.zero_le _), (Nat.zero_le _)⟩) hP hD hS hA [3, 4, 5, 6] rfl (by decide +kernel) (fun _ => rfl) (fun u143 H locs h hP hD hS => ?_)
    obtain ⟨w143_0, w143_1, w143_2⟩ := u143
    try dsimp only at h
    have hP : va_P D vwCl (wX9_tune cI cJ cS a_o a_refused a_road a_road_tunes a_road_tunes_beats a_road_tunes_noteCounts a_road_tunes_pitches a_shelves z_kept z_ahead z_cutting z_acting z_road_stretches z_road_cars z_road_demands sa ea v_imaged v_lastFault f_refused v_road_drawSeed v_road_tunes_tuneCount w143_0 w143_1 w143_2 f_sh_held f_sh_sort f_sh_cnt f_sh_num g_sh_el) H := hP
    have hD : va_D A (wX9_tune cI cJ cS a_o a_refused a_road a_road_tunes a_road_tunes_beats a_road_tunes_noteCounts a_road_tunes_pitches a_shelves z_kept z_ahead z_cutting z_acting z_road_stretches z_road_cars z_road_demands sa ea v_imaged v_lastFault f_refused v_road_drawSeed v_road_tunes_tuneCount w143_0 w143_1 w143_2 f_sh_held f_sh_sort f_sh_cnt f_sh_num g_sh_el) := hD
    obtain ⟨x6_146, ex6_146⟩ : ∃ z : Int32, z = x6 + 1 := ⟨_, rfl⟩
    have h := h _ ex6_146
    refine lv_iinc (v := x6_146) (lv' := [(6, .int x6_146), (0, .ref a_o), (2, .int x2), (3, .ref (sa j3)), (5, .int x5)]) hx hb dX9_tune_146 hl (k := 4) rfl (by rw [ex6_146]; rfl) (by decide) rfl (fun ls hl => ?_)
    refine lv_goto (tgt := 112) hx hb dX9_tune_149 (by decide) ?_
    exact ih _ _ _ _ _ _ _ h hP hD hS (lv_sub hl [1, 2, 3, 4, 0] rfl)
set_option maxHeartbeats 4000000 in
set_option maxRecDepth 100000 in
theorem c_X9_tune {l : Launch} {D : va_G} {cI cJ cS : ClassId} {ad adK : Nat → Nat} {a_o a_refused a_road a_road_tunes a_road_tunes_beats a_road_tunes_noteCounts a_road_tunes_pitches a_shelves : Nat} {z_kept z_ahead z_cutting z_acting z_road_stretches z_road_cars z_road_demands : Value} {sa ea : Nat → Nat} {v_imaged : Int32} {v_lastFault : Int32} {f_refused : Nat → Int32} {v_road_drawSeed : Int32} {v_road_tunes_tuneCount : Int32} {f_road_tunes_beats : Nat → Int32} {f_road_tunes_noteCounts : Nat → Int32} {f_road_tunes_pitches : Nat → Int32} {f_sh_held : Nat → Int32} {f_sh_sort : Nat → Int32} {f_sh_cnt : Nat → Int32} {f_sh_num : Nat → Int32} {g_sh_el : Nat → Nat → Int64} {x1 : Int32} {x2 : Int32} {post : Int32 → (Nat → Int32) → Int32 → (Nat → Int32) → (Nat → Int32) → (Nat → Int32) → Prop} (h : F_X9_tune f_refused v_road_tunes_tuneCount f_road_tunes_beats f_road_tunes_noteCounts f_road_tunes_pitches f_sh_held f_sh_cnt g_sh_el x1 x2 post) {sz : Nat} : Met l yX9_tune (Cond.code yX9_tune cX9_tune 7 (some (.int)) :: GW) (rmd 3 0 0) (PW D cI cJ cS ad adK [.ref a_o, .int x1, .int x2] (wX9_tune cI cJ cS a_o a_refused a_road a_road_tunes a_road_tunes_beats a_road_tunes_noteCounts a_road_tunes_pitches a_shelves z_kept z_ahead z_cutting z_acting z_road_stretches z_road_cars z_road_demands sa ea v_imaged v_lastFault f_refused v_road_drawSeed v_road_tunes_tuneCount f_road_tunes_beats f_road_tunes_noteCounts f_road_tunes_pitches f_sh_held f_sh_sort f_sh_cnt f_sh_num g_sh_el) sz) (va_Qi (fun r (u : (Nat → Int32) × Int32 × (Nat → Int32) × (Nat → Int32) × (Nat → Int32)) => post r u.1 u.2.1 u.2.2.1 u.2.2.2.1 u.2.2.2.2) (fun u t => va_P D vwCl (wX9_tune cI cJ cS a_o a_refused a_road a_road_tunes a_road_tunes_beats a_road_tunes_noteCounts a_road_tunes_pitches a_shelves z_kept z_ahead z_cutting z_acting z_road_stretches z_road_cars z_road_demands sa ea v_imaged v_lastFault u.1 v_road_drawSeed u.2.1 u.2.2.1 u.2.2.2.1 u.2.2.2.2 f_sh_held f_sh_sort f_sh_cnt f_sh_num g_sh_el) t.heap) (va_A (wX9_tune cI cJ cS a_o a_refused a_road a_road_tunes a_road_tunes_beats a_road_tunes_noteCounts a_road_tunes_pitches a_shelves z_kept z_ahead z_cutting z_acting z_road_stretches z_road_cars z_road_demands sa ea v_imaged v_lastFault f_refused v_road_drawSeed v_road_tunes_tuneCount f_road_tunes_beats f_road_tunes_noteCounts f_road_tunes_pitches f_sh_held f_sh_sort f_sh_cnt f_sh_num g_sh_el) sz)) 0 0 (va_A (wX9_tune cI cJ cS a_o a_refused a_road a_road_tunes a_road_tunes_beats a_road_tunes_noteCounts a_road_tunes_pitches a_shelves z_kept z_ahead z_cutting z_acting z_road_stretches z_road_cars z_road_demands sa ea v_imaged v_lastFault f_refused v_road_drawSeed v_road_tunes_tuneCount f_road_tunes_beats f_road_tunes_noteCounts f_road_tunes_pitches f_sh_held f_sh_sort f_sh_cnt f_sh_num g_sh_el) sz) := by
  refine Met.rw (Qc := fun A => (va_Qi (fun r (u : (Nat → Int32) × Int32 × (Nat → Int32) × (Nat → Int32) × (Nat → Int32)) => post r u.1 u.2.1 u.2.2.1 u.2.2.2.1 u.2.2.2.2) (fun u t => va_P D vwCl (wX9_tune cI cJ cS a_o a_refused a_road a_road_tunes a_road_tunes_beats a_road_tunes_noteCounts a_road_tunes_pitches a_shelves z_kept z_ahead z_cutting z_acting z_road_stretches z_road_cars z_road_demands sa ea v_imaged v_lastFault u.1 v_road_drawSeed u.2.1 u.2.2.1 u.2.2.2.1 u.2.2.2.2 f_sh_held f_sh_sort f_sh_cnt f_sh_num g_sh_el) t.heap) A)) (by decide) (Nat.le_of_ble_eq_true rfl) (fun p e s m args below meth c ls A (S : CallFix p m c cX9_tune 7 s args GW "RoadThatSings") hE hT hP hD hA hS hr hlocks hname hl => ?_)
  have hS0 := hS
  have hx := S.1
  have hb := S.2.1
  have hl : lv_has ls 7 [(0, .ref a_o), (1, .int x1), (2, .int x2)] := hl
  unfold F_X9_tune at h
  refine lv_aload_n hx hb dX9_tune_0 rfl (lv_at hl 0 rfl) ?_
  refine lv_iload_n hx hb dX9_tune_1 rfl (lv_at hl 1 rfl) ?_
  refine ro_s (roV S hE hT hS (c_X9_shelfAt h) lkX9_55 rfl ⟨(Nat.le_of_ble_eq_true rfl), (Nat.le_of_ble_eq_true rfl)⟩ (hP.sub [0, 7] rfl) 0 rfl rfl hl.1 rfl (Nat.le_of_ble_eq_true rfl) dX9_tune_2 ⟨(Nat.zero_le _), (Nat.zero_le _)⟩) (fun h => ?_) (fun j2 hj2 h => ?_)
  · refine lv_astore_nN (lv' := [(3, .null), (0, .ref a_o), (1, .int x1), (2, .int x2)]) hx hb dX9_tune_5 rfl hl (by decide) rfl (fun ls hl => ?_)
    refine lv_aload_nN hx hb dX9_tune_6 rfl (lv_at hl 0 rfl) ?_
    refine ro_i (roS S hE hT hS (c_X9_refusalOfRow_null0 h) lkX9_71 rfl ⟨(Nat.le_of_ble_eq_true rfl), (Nat.le_of_ble_eq_true rfl)⟩ (hP.sub [] rfl) hl.1 rfl (Nat.le_of_ble_eq_true rfl) dX9_tune_7 ⟨(Nat.zero_le _), (Nat.zero_le _)⟩) (fun r7 h => ?_)
    refine lv_istore (lv' := [(4, .int r7), (3, .null), (0, .ref a_o), (1, .int x1), (2, .int x2)]) hx hb dX9_tune_10 hl (by decide) rfl (fun ls hl => ?_)
    refine lv_iload hx hb dX9_tune_12 (lv_at hl 0 rfl) ?_
    refine lv_if_ne (tgt := 21) hx hb dX9_tune_14 (by decide) (fun hc => ?_) (fun hc => ?_)
    · have h := h.2 hc
      refine lv_aload_n hx hb dX9_tune_21 rfl (lv_at hl 2 rfl) ?_
      refine lv_iload hx hb dX9_tune_22 (lv_at hl 0 rfl) ?_
      refine rw_i (rwV S hE hT hS hP hD hA (c_X9_refuse h) [0, 1] rfl (by decide +kernel) lkX9_59 rfl ⟨(Nat.le_of_ble_eq_true rfl), (Nat.le_of_ble_eq_true rfl)⟩ 0 rfl rfl hl.1 rfl (Nat.le_of_ble_eq_true rfl) dX9_tune_24 ⟨(Nat.zero_le _), (Nat.zero_le _)⟩) hP hD hS hA [0, 1] rfl (by decide +kernel) (fun _ => rfl) (fun r24 w24_0 H locs h hP hD hS => ?_)
      try dsimp only at h
      have hP : va_P D vwCl (wX9_tune cI cJ cS a_o a_refused a_road a_road_tunes a_road_tunes_beats a_road_tunes_noteCounts a_road_tunes_pitches a_shelves z_kept z_ahead z_cutting z_acting z_road_stretches z_road_cars z_road_demands sa ea v_imaged v_lastFault w24_0 v_road_drawSeed v_road_tunes_tuneCount f_road_tunes_beats f_road_tunes_noteCounts f_road_tunes_pitches f_sh_held f_sh_sort f_sh_cnt f_sh_num g_sh_el) H := hP
      have hD : va_D A (wX9_tune cI cJ cS a_o a_refused a_road a_road_tunes a_road_tunes_beats a_road_tunes_noteCounts a_road_tunes_pitches a_shelves z_kept z_ahead z_cutting z_acting z_road_stretches z_road_cars z_road_demands sa ea v_imaged v_lastFault w24_0 v_road_drawSeed v_road_tunes_tuneCount f_road_tunes_beats f_road_tunes_noteCounts f_road_tunes_pitches f_sh_held f_sh_sort f_sh_cnt f_sh_num g_sh_el) := hD
      exact W.iret hx hb hr (fun t ht _ => ⟨⟨_, (w24_0, v_road_tunes_tuneCount, f_road_tunes_beats, f_road_tunes_noteCounts, f_road_tunes_pitches), rfl, h, hPt hP ht⟩, hS.F ht⟩) hS.2.2 dX9_tune_27
    have h := h.1 hc
    refine lv_aload_nN hx hb dX9_tune_17 rfl (lv_at hl 1 rfl) ?_
    refine lv_ifnonnullN hx hb dX9_tune_18 ?_
    refine lv_aload_n hx hb dX9_tune_21 rfl (lv_at hl 2 rfl) ?_
    refine lv_iload hx hb dX9_tune_22 (lv_at hl 0 rfl) ?_
    refine rw_i (rwV S hE hT hS hP hD hA (c_X9_refuse h) [0, 1] rfl (by decide +kernel) lkX9_59 rfl ⟨(Nat.le_of_ble_eq_true rfl), (Nat.le_of_ble_eq_true rfl)⟩ 0 rfl rfl hl.1 rfl (Nat.le_of_ble_eq_true rfl) dX9_tune_24 ⟨(Nat.zero_le _), (Nat.zero_le _)⟩) hP hD hS hA [0, 1] rfl (by decide +kernel) (fun _ => rfl) (fun r24 w24_0 H locs h hP hD hS => ?_)
    try dsimp only at h
    have hP : va_P D vwCl (wX9_tune cI cJ cS a_o a_refused a_road a_road_tunes a_road_tunes_beats a_road_tunes_noteCounts a_road_tunes_pitches a_shelves z_kept z_ahead z_cutting z_acting z_road_stretches z_road_cars z_road_demands sa ea v_imaged v_lastFault w24_0 v_road_drawSeed v_road_tunes_tuneCount f_road_tunes_beats f_road_tunes_noteCounts f_road_tunes_pitches f_sh_held f_sh_sort f_sh_cnt f_sh_num g_sh_el) H := hP
    have hD : va_D A (wX9_tune cI cJ cS a_o a_refused a_road a_road_tunes a_road_tunes_beats a_road_tunes_noteCounts a_road_tunes_pitches a_shelves z_kept z_ahead z_cutting z_acting z_road_stretches z_road_cars z_road_demands sa ea v_imaged v_lastFault w24_0 v_road_drawSeed v_road_tunes_tuneCount f_road_tunes_beats f_road_tunes_noteCounts f_road_tunes_pitches f_sh_held f_sh_sort f_sh_cnt f_sh_num g_sh_el) := hD
    exact W.iret hx hb hr (fun t ht _ => ⟨⟨_, (w24_0, v_road_tunes_tuneCount, f_road_tunes_beats, f_road_tunes_noteCounts, f_road_tunes_pitches), rfl, h, hPt hP ht⟩, hS.F ht⟩) hS.2.2 dX9_tune_27
  refine lv_astore_n (lv' := [(3, .ref (sa j2)), (0, .ref a_o), (1, .int x1), (2, .int x2)]) hx hb dX9_tune_5 rfl hl (by decide) rfl (fun ls hl => ?_)
  refine lv_aload_n hx hb dX9_tune_6 rfl (lv_at hl 0 rfl) ?_
  refine ro_i (roS S hE hT hS (c_X9_refusalOfRow h) lkX9_71 rfl ⟨(Nat.le_of_ble_eq_true rfl), (Nat.le_of_ble_eq_true rfl)⟩ (vPc hP (shS rfl hj2) vPn) hl.1 rfl (Nat.le_of_ble_eq_true rfl) dX9_tune_7 ⟨(Nat.zero_le _), (Nat.zero_le _)⟩) (fun r7 h => ?_)
  refine lv_istore (lv' := [(4, .int r7), (3, .ref (sa j2)), (0, .ref a_o), (1, .int x1), (2, .int x2)]) hx hb dX9_tune_10 hl (by decide) rfl (fun ls hl => ?_)
  refine lv_iload hx hb dX9_tune_12 (lv_at hl 0 rfl) ?_
  refine lv_if_ne (tgt := 21) hx hb dX9_tune_14 (by decide) (fun hc => ?_) (fun hc => ?_)
  · have h := h.2 hc
    refine lv_aload_n hx hb dX9_tune_21 rfl (lv_at hl 2 rfl) ?_
    refine lv_iload hx hb dX9_tune_22 (lv_at hl 0 rfl) ?_
    refine rw_i (rwV S hE hT hS hP hD hA (c_X9_refuse h) [0, 1] rfl (by decide +kernel) lkX9_59 rfl ⟨(Nat.le_of_ble_eq_true rfl), (Nat.le_of_ble_eq_true rfl)⟩ 0 rfl rfl hl.1 rfl (Nat.le_of_ble_eq_true rfl) dX9_tune_24 ⟨(Nat.zero_le _), (Nat.zero_le _)⟩) hP hD hS hA [0, 1] rfl (by decide +kernel) (fun _ => rfl) (fun r24 w24_0 H locs h hP hD hS => ?_)
    try dsimp only at h
    have hP : va_P D vwCl (wX9_tune cI cJ cS a_o a_refused a_road a_road_tunes a_road_tunes_beats a_road_tunes_noteCounts a_road_tunes_pitches a_shelves z_kept z_ahead z_cutting z_acting z_road_stretches z_road_cars z_road_demands sa ea v_imaged v_lastFault w24_0 v_road_drawSeed v_road_tunes_tuneCount f_road_tunes_beats f_road_tunes_noteCounts f_road_tunes_pitches f_sh_held f_sh_sort f_sh_cnt f_sh_num g_sh_el) H := hP
    have hD : va_D A (wX9_tune cI cJ cS a_o a_refused a_road a_road_tunes a_road_tunes_beats a_road_tunes_noteCounts a_road_tunes_pitches a_shelves z_kept z_ahead z_cutting z_acting z_road_stretches z_road_cars z_road_demands sa ea v_imaged v_lastFault w24_0 v_road_drawSeed v_road_tunes_tuneCount f_road_tunes_beats f_road_tunes_noteCounts f_road_tunes_pitches f_sh_held f_sh_sort f_sh_cnt f_sh_num g_sh_el) := hD
    exact W.iret hx hb hr (fun t ht _ => ⟨⟨_, (w24_0, v_road_tunes_tuneCount, f_road_tunes_beats, f_road_tunes_noteCounts, f_road_tunes_pitches), rfl, h, hPt hP ht⟩, hS.F ht⟩) hS.2.2 dX9_tune_27
  have h := h.1 hc
  refine lv_aload_n hx hb dX9_tune_17 rfl (lv_at hl 1 rfl) ?_
  refine lv_ifnonnull (tgt := 28) hx hb dX9_tune_18 (by decide) ?_
  refine lv_iload_n hx hb dX9_tune_28 rfl (lv_at hl 4 rfl) ?_
  refine lv_if_ge (tgt := 39) hx hb dX9_tune_29 (by decide) (fun hc => ?_) (fun hc => ?_)
  · have h := h.1 hc
    refine lv_iload_n hx hb dX9_tune_39 rfl (lv_at hl 4 rfl) ?_
    refine lv_aload_n hx hb dX9_tune_40 rfl (lv_at hl 1 rfl) ?_
    refine ro_i (roV S hE hT hS (c_X6_size h) lkX9_203 rfl ⟨(Nat.le_of_ble_eq_true rfl), (Nat.le_of_ble_eq_true rfl)⟩ (vPc hP (shS rfl hj2) vPn) 0 rfl rfl hl.1 rfl (Nat.le_of_ble_eq_true rfl) dX9_tune_41 ⟨(Nat.zero_le _), (Nat.zero_le _)⟩) (fun r41 h => ?_)
    refine lv_iconst (v := 2) hx hb dX9_tune_44 (by decide) ?_
    refine lv_idiv hx hb dX9_tune_45 (by decide) ?_
    refine lv_icmp_le (tgt := 56) hx hb dX9_tune_46 (by decide) (fun hc => ?_) (fun hc => ?_)
    · have h := h.1 hc
      refine lv_iload_n hx hb dX9_tune_56 rfl (lv_at hl 4 rfl) ?_
      refine lv_bipush (v := 12) hx hb dX9_tune_57 (by decide) ?_
      refine lv_icmp_gt (tgt := 70) hx hb dX9_tune_59 (by decide) (fun hc => ?_) (fun hc => ?_)
      · have h := h.1 hc
        refine lv_aload_n hx hb dX9_tune_70 rfl (lv_at hl 2 rfl) ?_
        refine lv_bipush (v := (-6)) hx hb dX9_tune_71 (by decide) ?_
        refine rw_i (rwV S hE hT hS hP hD hA (c_X9_refuse h) [0, 1] rfl (by decide +kernel) lkX9_59 rfl ⟨(Nat.le_of_ble_eq_true rfl), (Nat.le_of_ble_eq_true rfl)⟩ 0 rfl rfl hl.1 rfl (Nat.le_of_ble_eq_true rfl) dX9_tune_73 ⟨(Nat.zero_le _), (Nat.zero_le _)⟩) hP hD hS hA [0, 1] rfl (by decide +kernel) (fun _ => rfl) (fun r73 w73_0 H locs h hP hD hS => ?_)
        try dsimp only at h
        have hP : va_P D vwCl (wX9_tune cI cJ cS a_o a_refused a_road a_road_tunes a_road_tunes_beats a_road_tunes_noteCounts a_road_tunes_pitches a_shelves z_kept z_ahead z_cutting z_acting z_road_stretches z_road_cars z_road_demands sa ea v_imaged v_lastFault w73_0 v_road_drawSeed v_road_tunes_tuneCount f_road_tunes_beats f_road_tunes_noteCounts f_road_tunes_pitches f_sh_held f_sh_sort f_sh_cnt f_sh_num g_sh_el) H := hP
        have hD : va_D A (wX9_tune cI cJ cS a_o a_refused a_road a_road_tunes a_road_tunes_beats a_road_tunes_noteCounts a_road_tunes_pitches a_shelves z_kept z_ahead z_cutting z_acting z_road_stretches z_road_cars z_road_demands sa ea v_imaged v_lastFault w73_0 v_road_drawSeed v_road_tunes_tuneCount f_road_tunes_beats f_road_tunes_noteCounts f_road_tunes_pitches f_sh_held f_sh_sort f_sh_cnt f_sh_num g_sh_el) := hD
        exact W.iret hx hb hr (fun t ht _ => ⟨⟨_, (w73_0, v_road_tunes_tuneCount, f_road_tunes_beats, f_road_tunes_noteCounts, f_road_tunes_pitches), rfl, h, hPt hP ht⟩, hS.F ht⟩) hS.2.2 dX9_tune_76
      have h := h.2 hc
      refine lv_aload_n hx hb dX9_tune_62 rfl (lv_at hl 1 rfl) ?_
      refine lv_iload_n hx hb dX9_tune_63 rfl (lv_at hl 4 rfl) ?_
      refine ro_i (roS S hE hT hS (c_X9_areNotes h) lkX9_206 rfl ⟨(Nat.le_of_ble_eq_true rfl), (Nat.le_of_ble_eq_true rfl)⟩ (vPc hP (shS rfl hj2) (vPc hP (shE rfl hj2) vPn)) hl.1 rfl (Nat.le_of_ble_eq_true rfl) dX9_tune_64 ⟨(Nat.zero_le _), (Nat.zero_le _)⟩) (fun r64 h => ?_)
      refine lv_if_ne (tgt := 77) hx hb dX9_tune_67 (by decide) (fun hc => ?_) (fun hc => ?_)
      · have h := h.2 hc
        refine lv_aload_n hx hb dX9_tune_77 rfl (lv_at hl 2 rfl) ?_
        refine gf S hE hP 0 rfl rfl inX9 (k := 0) (by decide) q181 rfl dX9_tune_78 ?_
        refine gfN S hE hP 2 rfl rfl inX5 (k := 2) (by decide) nfX9_209 rfl dX9_tune_81 ?_
        refine ro_i (roV S hE hT hS (c_X8_isFull h) lkX9_213 rfl ⟨(Nat.le_of_ble_eq_true rfl), (Nat.le_of_ble_eq_true rfl)⟩ (hP.sub [3] rfl) 0 rfl rfl hl.1 rfl (Nat.le_of_ble_eq_true rfl) dX9_tune_84 ⟨(Nat.zero_le _), (Nat.zero_le _)⟩) (fun r84 h => ?_)
        refine lv_if_eq (tgt := 97) hx hb dX9_tune_87 (by decide) (fun hc => ?_) (fun hc => ?_)
        · have h := h.1 hc
          refine lv_aload_n hx hb dX9_tune_97 rfl (lv_at hl 2 rfl) ?_
          refine gf S hE hP 0 rfl rfl inX9 (k := 0) (by decide) q181 rfl dX9_tune_98 ?_
          refine gfN S hE hP 2 rfl rfl inX5 (k := 2) (by decide) nfX9_209 rfl dX9_tune_101 ?_
          refine rw_i (rwV S hE hT hS hP hD hA (c_X8_begin h) [3, 5] rfl (by decide +kernel) lkX9_216 rfl ⟨(Nat.le_of_ble_eq_true rfl), (Nat.le_of_ble_eq_true rfl)⟩ 3 rfl rfl hl.1 rfl (Nat.le_of_ble_eq_true rfl) dX9_tune_104 ⟨(Nat.zero_le _), (Nat.zero_le _)⟩) hP hD hS hA [3, 5] rfl (by decide +kernel) (fun _ => rfl) (fun r104 u104 H locs h hP hD hS => ?_)
          obtain ⟨w104_0, w104_1⟩ := u104
          try dsimp only at h
          have hP : va_P D vwCl (wX9_tune cI cJ cS a_o a_refused a_road a_road_tunes a_road_tunes_beats a_road_tunes_noteCounts a_road_tunes_pitches a_shelves z_kept z_ahead z_cutting z_acting z_road_stretches z_road_cars z_road_demands sa ea v_imaged v_lastFault f_refused v_road_drawSeed w104_0 f_road_tunes_beats w104_1 f_road_tunes_pitches f_sh_held f_sh_sort f_sh_cnt f_sh_num g_sh_el) H := hP
          have hD : va_D A (wX9_tune cI cJ cS a_o a_refused a_road a_road_tunes a_road_tunes_beats a_road_tunes_noteCounts a_road_tunes_pitches a_shelves z_kept z_ahead z_cutting z_acting z_road_stretches z_road_cars z_road_demands sa ea v_imaged v_lastFault f_refused v_road_drawSeed w104_0 f_road_tunes_beats w104_1 f_road_tunes_pitches f_sh_held f_sh_sort f_sh_cnt f_sh_num g_sh_el) := hD
          refine lv_istore (lv' := [(5, .int r104), (4, .int r7), (3, .ref (sa j2)), (0, .ref a_o), (1, .int x1), (2, .int x2)]) hx hb dX9_tune_107 hl (by decide) rfl (fun ls hl => ?_)
          refine lv_iconst (v := 0) hx hb dX9_tune_109 (by decide) ?_
          refine lv_istore (lv' := [(6, .int 0), (5, .int r104), (4, .int r7), (3, .ref (sa j2)), (0, .ref a_o), (1, .int x1), (2, .int x2)]) hx hb dX9_tune_110 hl (by decide) rfl (fun ls hl => ?_)
          obtain ⟨n, h⟩ := h
          refine w_X9_tune_112 S hE hT hA hr hlocks hj2 n _ _ _ _ _ _ _ h hP hD hS (lv_sub hl [4, 6, 3, 1, 0] rfl)
        have h := h.2 hc
        refine lv_aload_n hx hb dX9_tune_90 rfl (lv_at hl 2 rfl) ?_
        refine lv_bipush (v := (-7)) hx hb dX9_tune_91 (by decide) ?_
        refine rw_i (rwV S hE hT hS hP hD hA (c_X9_refuse h) [0, 1] rfl (by decide +kernel) lkX9_59 rfl ⟨(Nat.le_of_ble_eq_true rfl), (Nat.le_of_ble_eq_true rfl)⟩ 0 rfl rfl hl.1 rfl (Nat.le_of_ble_eq_true rfl) dX9_tune_93 ⟨(Nat.zero_le _), (Nat.zero_le _)⟩) hP hD hS hA [0, 1] rfl (by decide +kernel) (fun _ => rfl) (fun r93 w93_0 H locs h hP hD hS => ?_)
        try dsimp only at h
        have hP : va_P D vwCl (wX9_tune cI cJ cS a_o a_refused a_road a_road_tunes a_road_tunes_beats a_road_tunes_noteCounts a_road_tunes_pitches a_shelves z_kept z_ahead z_cutting z_acting z_road_stretches z_road_cars z_road_demands sa ea v_imaged v_lastFault w93_0 v_road_drawSeed v_road_tunes_tuneCount f_road_tunes_beats f_road_tunes_noteCounts f_road_tunes_pitches f_sh_held f_sh_sort f_sh_cnt f_sh_num g_sh_el) H := hP
        have hD : va_D A (wX9_tune cI cJ cS a_o a_refused a_road a_road_tunes a_road_tunes_beats a_road_tunes_noteCounts a_road_tunes_pitches a_shelves z_kept z_ahead z_cutting z_acting z_road_stretches z_road_cars z_road_demands sa ea v_imaged v_lastFault w93_0 v_road_drawSeed v_road_tunes_tuneCount f_road_tunes_beats f_road_tunes_noteCounts f_road_tunes_pitches f_sh_held f_sh_sort f_sh_cnt f_sh_num g_sh_el) := hD
        exact W.iret hx hb hr (fun t ht _ => ⟨⟨_, (w93_0, v_road_tunes_tuneCount, f_road_tunes_beats, f_road_tunes_noteCounts, f_road_tunes_pitches), rfl, h, hPt hP ht⟩, hS.F ht⟩) hS.2.2 dX9_tune_96
      have h := h.1 hc
      refine lv_aload_n hx hb dX9_tune_70 rfl (lv_at hl 2 rfl) ?_
      refine lv_bipush (v := (-6)) hx hb dX9_tune_71 (by decide) ?_
      refine rw_i (rwV S hE hT hS hP hD hA (c_X9_refuse h) [0, 1] rfl (by decide +kernel) lkX9_59 rfl ⟨(Nat.le_of_ble_eq_true rfl), (Nat.le_of_ble_eq_true rfl)⟩ 0 rfl rfl hl.1 rfl (Nat.le_of_ble_eq_true rfl) dX9_tune_73 ⟨(Nat.zero_le _), (Nat.zero_le _)⟩) hP hD hS hA [0, 1] rfl (by decide +kernel) (fun _ => rfl) (fun r73 w73_0 H locs h hP hD hS => ?_)
      try dsimp only at h
      have hP : va_P D vwCl (wX9_tune cI cJ cS a_o a_refused a_road a_road_tunes a_road_tunes_beats a_road_tunes_noteCounts a_road_tunes_pitches a_shelves z_kept z_ahead z_cutting z_acting z_road_stretches z_road_cars z_road_demands sa ea v_imaged v_lastFault w73_0 v_road_drawSeed v_road_tunes_tuneCount f_road_tunes_beats f_road_tunes_noteCounts f_road_tunes_pitches f_sh_held f_sh_sort f_sh_cnt f_sh_num g_sh_el) H := hP
      have hD : va_D A (wX9_tune cI cJ cS a_o a_refused a_road a_road_tunes a_road_tunes_beats a_road_tunes_noteCounts a_road_tunes_pitches a_shelves z_kept z_ahead z_cutting z_acting z_road_stretches z_road_cars z_road_demands sa ea v_imaged v_lastFault w73_0 v_road_drawSeed v_road_tunes_tuneCount f_road_tunes_beats f_road_tunes_noteCounts f_road_tunes_pitches f_sh_held f_sh_sort f_sh_cnt f_sh_num g_sh_el) := hD
      exact W.iret hx hb hr (fun t ht _ => ⟨⟨_, (w73_0, v_road_tunes_tuneCount, f_road_tunes_beats, f_road_tunes_noteCounts, f_road_tunes_pitches), rfl, h, hPt hP ht⟩, hS.F ht⟩) hS.2.2 dX9_tune_76
    have h := h.2 hc
    refine lv_aload_n hx hb dX9_tune_49 rfl (lv_at hl 2 rfl) ?_
    refine lv_bipush (v := (-5)) hx hb dX9_tune_50 (by decide) ?_
    refine rw_i (rwV S hE hT hS hP hD hA (c_X9_refuse h) [0, 1] rfl (by decide +kernel) lkX9_59 rfl ⟨(Nat.le_of_ble_eq_true rfl), (Nat.le_of_ble_eq_true rfl)⟩ 0 rfl rfl hl.1 rfl (Nat.le_of_ble_eq_true rfl) dX9_tune_52 ⟨(Nat.zero_le _), (Nat.zero_le _)⟩) hP hD hS hA [0, 1] rfl (by decide +kernel) (fun _ => rfl) (fun r52 w52_0 H locs h hP hD hS => ?_)
    try dsimp only at h
    have hP : va_P D vwCl (wX9_tune cI cJ cS a_o a_refused a_road a_road_tunes a_road_tunes_beats a_road_tunes_noteCounts a_road_tunes_pitches a_shelves z_kept z_ahead z_cutting z_acting z_road_stretches z_road_cars z_road_demands sa ea v_imaged v_lastFault w52_0 v_road_drawSeed v_road_tunes_tuneCount f_road_tunes_beats f_road_tunes_noteCounts f_road_tunes_pitches f_sh_held f_sh_sort f_sh_cnt f_sh_num g_sh_el) H := hP
    have hD : va_D A (wX9_tune cI cJ cS a_o a_refused a_road a_road_tunes a_road_tunes_beats a_road_tunes_noteCounts a_road_tunes_pitches a_shelves z_kept z_ahead z_cutting z_acting z_road_stretches z_road_cars z_road_demands sa ea v_imaged v_lastFault w52_0 v_road_drawSeed v_road_tunes_tuneCount f_road_tunes_beats f_road_tunes_noteCounts f_road_tunes_pitches f_sh_held f_sh_sort f_sh_cnt f_sh_num g_sh_el) := hD
    exact W.iret hx hb hr (fun t ht _ => ⟨⟨_, (w52_0, v_road_tunes_tuneCount, f_road_tunes_beats, f_road_tunes_noteCounts, f_road_tunes_pitches), rfl, h, hPt hP ht⟩, hS.F ht⟩) hS.2.2 dX9_tune_55
  have h := h.2 hc
  refine lv_aload_n hx hb dX9_tune_32 rfl (lv_at hl 2 rfl) ?_
  refine lv_bipush (v := (-4)) hx hb dX9_tune_33 (by decide) ?_
  refine rw_i (rwV S hE hT hS hP hD hA (c_X9_refuse h) [0, 1] rfl (by decide +kernel) lkX9_59 rfl ⟨(Nat.le_of_ble_eq_true rfl), (Nat.le_of_ble_eq_true rfl)⟩ 0 rfl rfl hl.1 rfl (Nat.le_of_ble_eq_true rfl) dX9_tune_35 ⟨(Nat.zero_le _), (Nat.zero_le _)⟩) hP hD hS hA [0, 1] rfl (by decide +kernel) (fun _ => rfl) (fun r35 w35_0 H locs h hP hD hS => ?_)
  try dsimp only at h
  have hP : va_P D vwCl (wX9_tune cI cJ cS a_o a_refused a_road a_road_tunes a_road_tunes_beats a_road_tunes_noteCounts a_road_tunes_pitches a_shelves z_kept z_ahead z_cutting z_acting z_road_stretches z_road_cars z_road_demands sa ea v_imaged v_lastFault w35_0 v_road_drawSeed v_road_tunes_tuneCount f_road_tunes_beats f_road_tunes_noteCounts f_road_tunes_pitches f_sh_held f_sh_sort f_sh_cnt f_sh_num g_sh_el) H := hP
  have hD : va_D A (wX9_tune cI cJ cS a_o a_refused a_road a_road_tunes a_road_tunes_beats a_road_tunes_noteCounts a_road_tunes_pitches a_shelves z_kept z_ahead z_cutting z_acting z_road_stretches z_road_cars z_road_demands sa ea v_imaged v_lastFault w35_0 v_road_drawSeed v_road_tunes_tuneCount f_road_tunes_beats f_road_tunes_noteCounts f_road_tunes_pitches f_sh_held f_sh_sort f_sh_cnt f_sh_num g_sh_el) := hD
  exact W.iret hx hb hr (fun t ht _ => ⟨⟨_, (w35_0, v_road_tunes_tuneCount, f_road_tunes_beats, f_road_tunes_noteCounts, f_road_tunes_pitches), rfl, h, hPt hP ht⟩, hS.F ht⟩) hS.2.2 dX9_tune_38
/-! X9_noteOf -/
abbrev wX9_noteOf (cI cJ cS : ClassId) (a_o a_refused a_road a_road_tunes a_road_tunes_beats a_road_tunes_noteCounts a_road_tunes_pitches : Nat) (z_kept z_ahead z_shelves z_cutting z_acting z_road_stretches z_road_cars z_road_demands : Value) (v_imaged : Int32) (v_lastFault : Int32) (f_refused : Nat → Int32) (v_road_drawSeed : Int32) (v_road_tunes_tuneCount : Int32) (f_road_tunes_beats : Nat → Int32) (f_road_tunes_noteCounts : Nat → Int32) (f_road_tunes_pitches : Nat → Int32) : va_W := [(a_o, .inr (8, [.ref a_road, z_kept, z_ahead, z_shelves, z_cutting, z_acting, .ref a_refused, .int v_imaged, .int v_lastFault])), (a_refused, .inl (cI, 8, .inl f_refused)), (a_road, .inr (4, [z_road_stretches, z_road_cars, .ref a_road_tunes, z_road_demands, .int v_road_drawSeed])), (a_road_tunes, .inr (7, [.ref a_road_tunes_pitches, .ref a_road_tunes_beats, .ref a_road_tunes_noteCounts, .int v_road_tunes_tuneCount])), (a_road_tunes_beats, .inl (cI, 72, .inl f_road_tunes_beats)), (a_road_tunes_noteCounts, .inl (cI, 6, .inl f_road_tunes_noteCounts)), (a_road_tunes_pitches, .inl (cI, 72, .inl f_road_tunes_pitches))]
def F_X9_noteOf_61 (v_road_tunes_tuneCount : Int32) (f_road_tunes_beats : Nat → Int32) (f_road_tunes_noteCounts : Nat → Int32) (f_road_tunes_pitches : Nat → Int32) (post : Int32 → (Nat → Int32) → Prop) (x1 : Int32) (x2 : Int32) (x3 : Int32) (x5 : Int32) (f_refused : Nat → Int32) : Prop := ((x5 = 0 → ((x3 = 0 → (F_X8_pitchOf v_road_tunes_tuneCount f_road_tunes_noteCounts f_road_tunes_pitches x1 x2 (fun r100 => post r100 f_refused))) ∧ (¬ x3 = 0 → (F_X8_beatsOf v_road_tunes_tuneCount f_road_tunes_beats f_road_tunes_noteCounts x1 x2 (fun r110 => post r110 f_refused))))) ∧ (¬ x5 = 0 → ((x3 = 0 → (F_X8_notesOf v_road_tunes_tuneCount f_road_tunes_noteCounts x1 (fun r73 => post r73 f_refused))) ∧ (¬ x3 = 0 → (F_X8_notesOf v_road_tunes_tuneCount f_road_tunes_noteCounts x1 (fun r85 => (F_X8_beatsAhead v_road_tunes_tuneCount f_road_tunes_beats f_road_tunes_noteCounts x1 r85 (fun r88 => post r88 f_refused))))))))
def F_X9_noteOf_28 (v_road_tunes_tuneCount : Int32) (f_road_tunes_beats : Nat → Int32) (f_road_tunes_noteCounts : Nat → Int32) (f_road_tunes_pitches : Nat → Int32) (post : Int32 → (Nat → Int32) → Prop) (x1 : Int32) (x2 : Int32) (x3 : Int32) (f_refused : Nat → Int32) (s0 : Int32) : Prop := (F_X9_within x3 0 1 (fun r33 => ((r33 = 0 → (F_X9_refuse f_refused (-5) (fun r57 w57_0 => post r57 w57_0))) ∧ (¬ r33 = 0 → ((s0 = 0 → (F_X8_hasNote v_road_tunes_tuneCount f_road_tunes_noteCounts x1 x2 (fun r48 => ((r48 = 0 → (F_X9_refuse f_refused (-5) (fun r57 w57_0 => post r57 w57_0))) ∧ (¬ r48 = 0 → F_X9_noteOf_61 v_road_tunes_tuneCount f_road_tunes_beats f_road_tunes_noteCounts f_road_tunes_pitches post x1 x2 x3 s0 f_refused))))) ∧ (¬ s0 = 0 → F_X9_noteOf_61 v_road_tunes_tuneCount f_road_tunes_beats f_road_tunes_noteCounts f_road_tunes_pitches post x1 x2 x3 s0 f_refused))))))
def F_X9_noteOf_27 (v_road_tunes_tuneCount : Int32) (f_road_tunes_beats : Nat → Int32) (f_road_tunes_noteCounts : Nat → Int32) (f_road_tunes_pitches : Nat → Int32) (post : Int32 → (Nat → Int32) → Prop) (x1 : Int32) (x2 : Int32) (x3 : Int32) (f_refused : Nat → Int32) : Prop := F_X9_noteOf_28 v_road_tunes_tuneCount f_road_tunes_beats f_road_tunes_noteCounts f_road_tunes_pitches post x1 x2 x3 f_refused 0
def F_X9_noteOf (f_refused : Nat → Int32) (v_road_tunes_tuneCount : Int32) (f_road_tunes_beats : Nat → Int32) (f_road_tunes_noteCounts : Nat → Int32) (f_road_tunes_pitches : Nat → Int32) (x1 : Int32) (x2 : Int32) (x3 : Int32) (post : Int32 → (Nat → Int32) → Prop) : Prop := (F_X8_has v_road_tunes_tuneCount x1 (fun r12 => ((r12 = 0 → F_X9_noteOf_27 v_road_tunes_tuneCount f_road_tunes_beats f_road_tunes_noteCounts f_road_tunes_pitches post x1 x2 x3 f_refused) ∧ (¬ r12 = 0 → ((x2 = (-1) → F_X9_noteOf_28 v_road_tunes_tuneCount f_road_tunes_beats f_road_tunes_noteCounts f_road_tunes_pitches post x1 x2 x3 f_refused 1) ∧ (¬ x2 = (-1) → F_X9_noteOf_27 v_road_tunes_tuneCount f_road_tunes_beats f_road_tunes_noteCounts f_road_tunes_pitches post x1 x2 x3 f_refused))))))
set_option maxHeartbeats 4000000 in
set_option maxRecDepth 100000 in
theorem w_X9_noteOf_61 {l : Launch} {D : va_G} {cI cJ cS : ClassId} {ad adK : Nat → Nat} {a_o a_refused a_road a_road_tunes a_road_tunes_beats a_road_tunes_noteCounts a_road_tunes_pitches : Nat} {z_kept z_ahead z_shelves z_cutting z_acting z_road_stretches z_road_cars z_road_demands : Value} {v_imaged : Int32} {v_lastFault : Int32} {f_refused : Nat → Int32} {v_road_drawSeed : Int32} {v_road_tunes_tuneCount : Int32} {f_road_tunes_beats : Nat → Int32} {f_road_tunes_noteCounts : Nat → Int32} {f_road_tunes_pitches : Nat → Int32} {x1 : Int32} {x2 : Int32} {x3 : Int32} {x5 : Int32} {post : Int32 → (Nat → Int32) → Prop} {p : Program} {e : Env} {s : State} {m : MethodId} {args : Array Value} {below : List Frame} {meth : Method} {c : Code} {A : Nat → Prop} (S : CallFix p m c cX9_noteOf 6 s args GW "RoadThatSings") (hE : EN D cI cJ cS s) (hT : ST ad adK A s s.heap) (hA : ∀ q : Nat, s.heap.size ≤ q → A q) (hr : meth.sig.returnType = (some (.int))) (hlocks : meth.locks = false) : ∀ (H : Heap) (locs : List Loc) (ls : Array Slot), F_X9_noteOf_61 v_road_tunes_tuneCount f_road_tunes_beats f_road_tunes_noteCounts f_road_tunes_pitches post x1 x2 x3 x5 f_refused → va_P D vwCl (wX9_noteOf cI cJ cS a_o a_refused a_road a_road_tunes a_road_tunes_beats a_road_tunes_noteCounts a_road_tunes_pitches z_kept z_ahead z_shelves z_cutting z_acting z_road_stretches z_road_cars z_road_demands v_imaged v_lastFault f_refused v_road_drawSeed v_road_tunes_tuneCount f_road_tunes_beats f_road_tunes_noteCounts f_road_tunes_pitches) H → va_D A (wX9_noteOf cI cJ cS a_o a_refused a_road a_road_tunes a_road_tunes_beats a_road_tunes_noteCounts a_road_tunes_pitches z_kept z_ahead z_shelves z_cutting z_acting z_road_stretches z_road_cars z_road_demands v_imaged v_lastFault f_refused v_road_drawSeed v_road_tunes_tuneCount f_road_tunes_beats f_road_tunes_noteCounts f_road_tunes_pitches) → va_S A s.heap H locs → lv_has ls 6 [(1, .int x1), (2, .int x2), (3, .int x3), (4, .ref a_road_tunes), (5, .int x5)] → W p l e (rmd 4 0 0) s m args below meth c H locs 0 0 (MQ below (va_Qi (fun r (u : (Nat → Int32)) => post r u) (fun u t => va_P D vwCl (wX9_noteOf cI cJ cS a_o a_refused a_road a_road_tunes a_road_tunes_beats a_road_tunes_noteCounts a_road_tunes_pitches z_kept z_ahead z_shelves z_cutting z_acting z_road_stretches z_road_cars z_road_demands v_imaged v_lastFault u v_road_drawSeed v_road_tunes_tuneCount f_road_tunes_beats f_road_tunes_noteCounts f_road_tunes_pitches) t.heap) A) args s 0 0 A) (F0 m 61 ls []) := by
  intro  H locs ls h hP hD hS hl
  unfold F_X9_noteOf_61 at h
  have hx := S.1
  have hb := S.2.1
  refine lv_iload hx hb dX9_noteOf_61 (lv_at hl 4 rfl) ?_
  refine lv_if_eq (tgt := 92) hx hb dX9_noteOf_63 (by decide) (fun hc => ?_) (fun hc => ?_)
  · have h := h.1 hc
    refine lv_iload_n hx hb dX9_noteOf_92 rfl (lv_at hl 2 rfl) ?_
    refine lv_if_ne (tgt := 106) hx hb dX9_noteOf_93 (by decide) (fun hc => ?_) (fun hc => ?_)
    · have h := h.2 hc
      refine lv_aload hx hb dX9_noteOf_106 (lv_at hl 3 rfl) ?_
      refine lv_iload_n hx hb dX9_noteOf_108 rfl (lv_at hl 0 rfl) ?_
      refine lv_iload_n hx hb dX9_noteOf_109 rfl (lv_at hl 1 rfl) ?_
      refine ro_i (roV S hE hT hS (c_X8_beatsOf h) lkX9_235 rfl ⟨(Nat.le_of_ble_eq_true rfl), (Nat.le_of_ble_eq_true rfl)⟩ (hP.sub [3, 4, 5] rfl) 0 rfl rfl hl.1 rfl (Nat.le_of_ble_eq_true rfl) dX9_noteOf_110 ⟨(Nat.zero_le _), (Nat.zero_le _)⟩) (fun r110 h => ?_)
      exact W.iret hx hb hr (fun t ht _ => ⟨⟨_, f_refused, rfl, h, hPt hP ht⟩, hS.F ht⟩) hS.2.2 dX9_noteOf_113
    have h := h.1 hc
    refine lv_aload hx hb dX9_noteOf_96 (lv_at hl 3 rfl) ?_
    refine lv_iload_n hx hb dX9_noteOf_98 rfl (lv_at hl 0 rfl) ?_
    refine lv_iload_n hx hb dX9_noteOf_99 rfl (lv_at hl 1 rfl) ?_
    refine ro_i (roV S hE hT hS (c_X8_pitchOf h) lkX9_232 rfl ⟨(Nat.le_of_ble_eq_true rfl), (Nat.le_of_ble_eq_true rfl)⟩ (hP.sub [3, 5, 6] rfl) 0 rfl rfl hl.1 rfl (Nat.le_of_ble_eq_true rfl) dX9_noteOf_100 ⟨(Nat.zero_le _), (Nat.zero_le _)⟩) (fun r100 h => ?_)
    refine lv_goto (tgt := 113) hx hb dX9_noteOf_103 (by decide) ?_
    exact W.iret hx hb hr (fun t ht _ => ⟨⟨_, f_refused, rfl, h, hPt hP ht⟩, hS.F ht⟩) hS.2.2 dX9_noteOf_113
  have h := h.2 hc
  refine lv_iload_n hx hb dX9_noteOf_66 rfl (lv_at hl 2 rfl) ?_
  refine lv_if_ne (tgt := 79) hx hb dX9_noteOf_67 (by decide) (fun hc => ?_) (fun hc => ?_)
  · have h := h.2 hc
    refine lv_aload hx hb dX9_noteOf_79 (lv_at hl 3 rfl) ?_
    refine lv_iload_n hx hb dX9_noteOf_81 rfl (lv_at hl 0 rfl) ?_
    refine lv_aload hx hb dX9_noteOf_82 (lv_at hl 3 rfl) ?_
    refine lv_iload_n hx hb dX9_noteOf_84 rfl (lv_at hl 0 rfl) ?_
    refine ro_i (roV S hE hT hS (c_X8_notesOf h) lkX9_226 rfl ⟨(Nat.le_of_ble_eq_true rfl), (Nat.le_of_ble_eq_true rfl)⟩ (hP.sub [3, 5] rfl) 0 rfl rfl hl.1 rfl (Nat.le_of_ble_eq_true rfl) dX9_noteOf_85 ⟨(Nat.zero_le _), (Nat.zero_le _)⟩) (fun r85 h => ?_)
    refine ro_i (roV S hE hT hS (c_X8_beatsAhead h) lkX9_229 rfl ⟨(Nat.le_of_ble_eq_true rfl), (Nat.le_of_ble_eq_true rfl)⟩ (hP.sub [3, 4, 5] rfl) 0 rfl rfl hl.1 rfl (Nat.le_of_ble_eq_true rfl) dX9_noteOf_88 ⟨(Nat.zero_le _), (Nat.zero_le _)⟩) (fun r88 h => ?_)
    exact W.iret hx hb hr (fun t ht _ => ⟨⟨_, f_refused, rfl, h, hPt hP ht⟩, hS.F ht⟩) hS.2.2 dX9_noteOf_91
  have h := h.1 hc
  refine lv_aload hx hb dX9_noteOf_70 (lv_at hl 3 rfl) ?_
  refine lv_iload_n hx hb dX9_noteOf_72 rfl (lv_at hl 0 rfl) ?_
  refine ro_i (roV S hE hT hS (c_X8_notesOf h) lkX9_226 rfl ⟨(Nat.le_of_ble_eq_true rfl), (Nat.le_of_ble_eq_true rfl)⟩ (hP.sub [3, 5] rfl) 0 rfl rfl hl.1 rfl (Nat.le_of_ble_eq_true rfl) dX9_noteOf_73 ⟨(Nat.zero_le _), (Nat.zero_le _)⟩) (fun r73 h => ?_)
  refine lv_goto (tgt := 91) hx hb dX9_noteOf_76 (by decide) ?_
  exact W.iret hx hb hr (fun t ht _ => ⟨⟨_, f_refused, rfl, h, hPt hP ht⟩, hS.F ht⟩) hS.2.2 dX9_noteOf_91
set_option maxHeartbeats 4000000 in
set_option maxRecDepth 100000 in
theorem w_X9_noteOf_28 {l : Launch} {D : va_G} {cI cJ cS : ClassId} {ad adK : Nat → Nat} {a_o a_refused a_road a_road_tunes a_road_tunes_beats a_road_tunes_noteCounts a_road_tunes_pitches : Nat} {z_kept z_ahead z_shelves z_cutting z_acting z_road_stretches z_road_cars z_road_demands : Value} {v_imaged : Int32} {v_lastFault : Int32} {f_refused : Nat → Int32} {v_road_drawSeed : Int32} {v_road_tunes_tuneCount : Int32} {f_road_tunes_beats : Nat → Int32} {f_road_tunes_noteCounts : Nat → Int32} {f_road_tunes_pitches : Nat → Int32} {x1 : Int32} {x2 : Int32} {x3 : Int32} {s0 : Int32} {post : Int32 → (Nat → Int32) → Prop} {p : Program} {e : Env} {s : State} {m : MethodId} {args : Array Value} {below : List Frame} {meth : Method} {c : Code} {A : Nat → Prop} (S : CallFix p m c cX9_noteOf 6 s args GW "RoadThatSings") (hE : EN D cI cJ cS s) (hT : ST ad adK A s s.heap) (hA : ∀ q : Nat, s.heap.size ≤ q → A q) (hr : meth.sig.returnType = (some (.int))) (hlocks : meth.locks = false) : ∀ (H : Heap) (locs : List Loc) (ls : Array Slot), F_X9_noteOf_28 v_road_tunes_tuneCount f_road_tunes_beats f_road_tunes_noteCounts f_road_tunes_pitches post x1 x2 x3 f_refused s0 → va_P D vwCl (wX9_noteOf cI cJ cS a_o a_refused a_road a_road_tunes a_road_tunes_beats a_road_tunes_noteCounts a_road_tunes_pitches z_kept z_ahead z_shelves z_cutting z_acting z_road_stretches z_road_cars z_road_demands v_imaged v_lastFault f_refused v_road_drawSeed v_road_tunes_tuneCount f_road_tunes_beats f_road_tunes_noteCounts f_road_tunes_pitches) H → va_D A (wX9_noteOf cI cJ cS a_o a_refused a_road a_road_tunes a_road_tunes_beats a_road_tunes_noteCounts a_road_tunes_pitches z_kept z_ahead z_shelves z_cutting z_acting z_road_stretches z_road_cars z_road_demands v_imaged v_lastFault f_refused v_road_drawSeed v_road_tunes_tuneCount f_road_tunes_beats f_road_tunes_noteCounts f_road_tunes_pitches) → va_S A s.heap H locs → lv_has ls 6 [(0, .ref a_o), (1, .int x1), (2, .int x2), (3, .int x3), (4, .ref a_road_tunes)] → W p l e (rmd 4 0 0) s m args below meth c H locs 0 0 (MQ below (va_Qi (fun r (u : (Nat → Int32)) => post r u) (fun u t => va_P D vwCl (wX9_noteOf cI cJ cS a_o a_refused a_road a_road_tunes a_road_tunes_beats a_road_tunes_noteCounts a_road_tunes_pitches z_kept z_ahead z_shelves z_cutting z_acting z_road_stretches z_road_cars z_road_demands v_imaged v_lastFault u v_road_drawSeed v_road_tunes_tuneCount f_road_tunes_beats f_road_tunes_noteCounts f_road_tunes_pitches) t.heap) A) args s 0 0 A) (F0 m 28 ls [.int s0]) := by
  intro  H locs ls h hP hD hS hl
  unfold F_X9_noteOf_28 at h
  have hx := S.1
  have hb := S.2.1
  refine lv_istore (lv' := [(5, .int s0), (0, .ref a_o), (1, .int x1), (2, .int x2), (3, .int x3), (4, .ref a_road_tunes)]) hx hb dX9_noteOf_28 hl (by decide) rfl (fun ls hl => ?_)
  refine lv_iload_n hx hb dX9_noteOf_30 rfl (lv_at hl 4 rfl) ?_
  refine lv_iconst (v := 0) hx hb dX9_noteOf_31 (by decide) ?_
  refine lv_iconst (v := 1) hx hb dX9_noteOf_32 (by decide) ?_
  refine ro_i (roS S hE hT hS (c_X9_within h) lkX9_63 rfl ⟨(Nat.le_of_ble_eq_true rfl), (Nat.le_of_ble_eq_true rfl)⟩ (hP.sub [] rfl) hl.1 rfl (Nat.le_of_ble_eq_true rfl) dX9_noteOf_33 ⟨(Nat.zero_le _), (Nat.zero_le _)⟩) (fun r33 h => ?_)
  refine lv_if_eq (tgt := 54) hx hb dX9_noteOf_36 (by decide) (fun hc => ?_) (fun hc => ?_)
  · have h := h.1 hc
    refine lv_aload_n hx hb dX9_noteOf_54 rfl (lv_at hl 1 rfl) ?_
    refine lv_bipush (v := (-5)) hx hb dX9_noteOf_55 (by decide) ?_
    refine rw_i (rwV S hE hT hS hP hD hA (c_X9_refuse h) [0, 1] rfl (by decide +kernel) lkX9_59 rfl ⟨(Nat.le_of_ble_eq_true rfl), (Nat.le_of_ble_eq_true rfl)⟩ 0 rfl rfl hl.1 rfl (Nat.le_of_ble_eq_true rfl) dX9_noteOf_57 ⟨(Nat.zero_le _), (Nat.zero_le _)⟩) hP hD hS hA [0, 1] rfl (by decide +kernel) (fun _ => rfl) (fun r57 w57_0 H locs h hP hD hS => ?_)
    try dsimp only at h
    have hP : va_P D vwCl (wX9_noteOf cI cJ cS a_o a_refused a_road a_road_tunes a_road_tunes_beats a_road_tunes_noteCounts a_road_tunes_pitches z_kept z_ahead z_shelves z_cutting z_acting z_road_stretches z_road_cars z_road_demands v_imaged v_lastFault w57_0 v_road_drawSeed v_road_tunes_tuneCount f_road_tunes_beats f_road_tunes_noteCounts f_road_tunes_pitches) H := hP
    have hD : va_D A (wX9_noteOf cI cJ cS a_o a_refused a_road a_road_tunes a_road_tunes_beats a_road_tunes_noteCounts a_road_tunes_pitches z_kept z_ahead z_shelves z_cutting z_acting z_road_stretches z_road_cars z_road_demands v_imaged v_lastFault w57_0 v_road_drawSeed v_road_tunes_tuneCount f_road_tunes_beats f_road_tunes_noteCounts f_road_tunes_pitches) := hD
    exact W.iret hx hb hr (fun t ht _ => ⟨⟨_, w57_0, rfl, h, hPt hP ht⟩, hS.F ht⟩) hS.2.2 dX9_noteOf_60
  have h := h.2 hc
  refine lv_iload hx hb dX9_noteOf_39 (lv_at hl 0 rfl) ?_
  refine lv_if_ne (tgt := 61) hx hb dX9_noteOf_41 (by decide) (fun hc => ?_) (fun hc => ?_)
  · have h := h.2 hc
    refine w_X9_noteOf_61 S hE hT hA hr hlocks _ _ _ h hP hD hS (lv_sub hl [2, 3, 4, 5, 0] rfl)
  have h := h.1 hc
  refine lv_aload hx hb dX9_noteOf_44 (lv_at hl 5 rfl) ?_
  refine lv_iload_n hx hb dX9_noteOf_46 rfl (lv_at hl 2 rfl) ?_
  refine lv_iload_n hx hb dX9_noteOf_47 rfl (lv_at hl 3 rfl) ?_
  refine ro_i (roV S hE hT hS (c_X8_hasNote h) lkX9_223 rfl ⟨(Nat.le_of_ble_eq_true rfl), (Nat.le_of_ble_eq_true rfl)⟩ (hP.sub [3, 5] rfl) 0 rfl rfl hl.1 rfl (Nat.le_of_ble_eq_true rfl) dX9_noteOf_48 ⟨(Nat.zero_le _), (Nat.zero_le _)⟩) (fun r48 h => ?_)
  refine lv_if_ne (tgt := 61) hx hb dX9_noteOf_51 (by decide) (fun hc => ?_) (fun hc => ?_)
  · have h := h.2 hc
    refine w_X9_noteOf_61 S hE hT hA hr hlocks _ _ _ h hP hD hS (lv_sub hl [2, 3, 4, 5, 0] rfl)
  have h := h.1 hc
  refine lv_aload_n hx hb dX9_noteOf_54 rfl (lv_at hl 1 rfl) ?_
  refine lv_bipush (v := (-5)) hx hb dX9_noteOf_55 (by decide) ?_
  refine rw_i (rwV S hE hT hS hP hD hA (c_X9_refuse h) [0, 1] rfl (by decide +kernel) lkX9_59 rfl ⟨(Nat.le_of_ble_eq_true rfl), (Nat.le_of_ble_eq_true rfl)⟩ 0 rfl rfl hl.1 rfl (Nat.le_of_ble_eq_true rfl) dX9_noteOf_57 ⟨(Nat.zero_le _), (Nat.zero_le _)⟩) hP hD hS hA [0, 1] rfl (by decide +kernel) (fun _ => rfl) (fun r57 w57_0 H locs h hP hD hS => ?_)
  try dsimp only at h
  have hP : va_P D vwCl (wX9_noteOf cI cJ cS a_o a_refused a_road a_road_tunes a_road_tunes_beats a_road_tunes_noteCounts a_road_tunes_pitches z_kept z_ahead z_shelves z_cutting z_acting z_road_stretches z_road_cars z_road_demands v_imaged v_lastFault w57_0 v_road_drawSeed v_road_tunes_tuneCount f_road_tunes_beats f_road_tunes_noteCounts f_road_tunes_pitches) H := hP
  have hD : va_D A (wX9_noteOf cI cJ cS a_o a_refused a_road a_road_tunes a_road_tunes_beats a_road_tunes_noteCounts a_road_tunes_pitches z_kept z_ahead z_shelves z_cutting z_acting z_road_stretches z_road_cars z_road_demands v_imaged v_lastFault w57_0 v_road_drawSeed v_road_tunes_tuneCount f_road_tunes_beats f_road_tunes_noteCounts f_road_tunes_pitches) := hD
  exact W.iret hx hb hr (fun t ht _ => ⟨⟨_, w57_0, rfl, h, hPt hP ht⟩, hS.F ht⟩) hS.2.2 dX9_noteOf_60
set_option maxHeartbeats 4000000 in
set_option maxRecDepth 100000 in
theorem w_X9_noteOf_27 {l : Launch} {D : va_G} {cI cJ cS : ClassId} {ad adK : Nat → Nat} {a_o a_refused a_road a_road_tunes a_road_tunes_beats a_road_tunes_noteCounts a_road_tunes_pitches : Nat} {z_kept z_ahead z_shelves z_cutting z_acting z_road_stretches z_road_cars z_road_demands : Value} {v_imaged : Int32} {v_lastFault : Int32} {f_refused : Nat → Int32} {v_road_drawSeed : Int32} {v_road_tunes_tuneCount : Int32} {f_road_tunes_beats : Nat → Int32} {f_road_tunes_noteCounts : Nat → Int32} {f_road_tunes_pitches : Nat → Int32} {x1 : Int32} {x2 : Int32} {x3 : Int32} {post : Int32 → (Nat → Int32) → Prop} {p : Program} {e : Env} {s : State} {m : MethodId} {args : Array Value} {below : List Frame} {meth : Method} {c : Code} {A : Nat → Prop} (S : CallFix p m c cX9_noteOf 6 s args GW "RoadThatSings") (hE : EN D cI cJ cS s) (hT : ST ad adK A s s.heap) (hA : ∀ q : Nat, s.heap.size ≤ q → A q) (hr : meth.sig.returnType = (some (.int))) (hlocks : meth.locks = false) : ∀ (H : Heap) (locs : List Loc) (ls : Array Slot), F_X9_noteOf_27 v_road_tunes_tuneCount f_road_tunes_beats f_road_tunes_noteCounts f_road_tunes_pitches post x1 x2 x3 f_refused → va_P D vwCl (wX9_noteOf cI cJ cS a_o a_refused a_road a_road_tunes a_road_tunes_beats a_road_tunes_noteCounts a_road_tunes_pitches z_kept z_ahead z_shelves z_cutting z_acting z_road_stretches z_road_cars z_road_demands v_imaged v_lastFault f_refused v_road_drawSeed v_road_tunes_tuneCount f_road_tunes_beats f_road_tunes_noteCounts f_road_tunes_pitches) H → va_D A (wX9_noteOf cI cJ cS a_o a_refused a_road a_road_tunes a_road_tunes_beats a_road_tunes_noteCounts a_road_tunes_pitches z_kept z_ahead z_shelves z_cutting z_acting z_road_stretches z_road_cars z_road_demands v_imaged v_lastFault f_refused v_road_drawSeed v_road_tunes_tuneCount f_road_tunes_beats f_road_tunes_noteCounts f_road_tunes_pitches) → va_S A s.heap H locs → lv_has ls 6 [(0, .ref a_o), (1, .int x1), (2, .int x2), (3, .int x3), (4, .ref a_road_tunes)] → W p l e (rmd 4 0 0) s m args below meth c H locs 0 0 (MQ below (va_Qi (fun r (u : (Nat → Int32)) => post r u) (fun u t => va_P D vwCl (wX9_noteOf cI cJ cS a_o a_refused a_road a_road_tunes a_road_tunes_beats a_road_tunes_noteCounts a_road_tunes_pitches z_kept z_ahead z_shelves z_cutting z_acting z_road_stretches z_road_cars z_road_demands v_imaged v_lastFault u v_road_drawSeed v_road_tunes_tuneCount f_road_tunes_beats f_road_tunes_noteCounts f_road_tunes_pitches) t.heap) A) args s 0 0 A) (F0 m 27 ls []) := by
  intro  H locs ls h hP hD hS hl
  unfold F_X9_noteOf_27 at h
  have hx := S.1
  have hb := S.2.1
  refine lv_iconst (v := 0) hx hb dX9_noteOf_27 (by decide) ?_
  refine w_X9_noteOf_28 S hE hT hA hr hlocks _ _ _ h hP hD hS (lv_sub hl [0, 1, 2, 3, 4] rfl)
set_option maxHeartbeats 4000000 in
set_option maxRecDepth 100000 in
theorem c_X9_noteOf {l : Launch} {D : va_G} {cI cJ cS : ClassId} {ad adK : Nat → Nat} {a_o a_refused a_road a_road_tunes a_road_tunes_beats a_road_tunes_noteCounts a_road_tunes_pitches : Nat} {z_kept z_ahead z_shelves z_cutting z_acting z_road_stretches z_road_cars z_road_demands : Value} {v_imaged : Int32} {v_lastFault : Int32} {f_refused : Nat → Int32} {v_road_drawSeed : Int32} {v_road_tunes_tuneCount : Int32} {f_road_tunes_beats : Nat → Int32} {f_road_tunes_noteCounts : Nat → Int32} {f_road_tunes_pitches : Nat → Int32} {x1 : Int32} {x2 : Int32} {x3 : Int32} {post : Int32 → (Nat → Int32) → Prop} (h : F_X9_noteOf f_refused v_road_tunes_tuneCount f_road_tunes_beats f_road_tunes_noteCounts f_road_tunes_pitches x1 x2 x3 post) {sz : Nat} : Met l yX9_noteOf (Cond.code yX9_noteOf cX9_noteOf 6 (some (.int)) :: GW) (rmd 4 0 0) (PW D cI cJ cS ad adK [.ref a_o, .int x1, .int x2, .int x3] (wX9_noteOf cI cJ cS a_o a_refused a_road a_road_tunes a_road_tunes_beats a_road_tunes_noteCounts a_road_tunes_pitches z_kept z_ahead z_shelves z_cutting z_acting z_road_stretches z_road_cars z_road_demands v_imaged v_lastFault f_refused v_road_drawSeed v_road_tunes_tuneCount f_road_tunes_beats f_road_tunes_noteCounts f_road_tunes_pitches) sz) (va_Qi (fun r (u : (Nat → Int32)) => post r u) (fun u t => va_P D vwCl (wX9_noteOf cI cJ cS a_o a_refused a_road a_road_tunes a_road_tunes_beats a_road_tunes_noteCounts a_road_tunes_pitches z_kept z_ahead z_shelves z_cutting z_acting z_road_stretches z_road_cars z_road_demands v_imaged v_lastFault u v_road_drawSeed v_road_tunes_tuneCount f_road_tunes_beats f_road_tunes_noteCounts f_road_tunes_pitches) t.heap) (va_A (wX9_noteOf cI cJ cS a_o a_refused a_road a_road_tunes a_road_tunes_beats a_road_tunes_noteCounts a_road_tunes_pitches z_kept z_ahead z_shelves z_cutting z_acting z_road_stretches z_road_cars z_road_demands v_imaged v_lastFault f_refused v_road_drawSeed v_road_tunes_tuneCount f_road_tunes_beats f_road_tunes_noteCounts f_road_tunes_pitches) sz)) 0 0 (va_A (wX9_noteOf cI cJ cS a_o a_refused a_road a_road_tunes a_road_tunes_beats a_road_tunes_noteCounts a_road_tunes_pitches z_kept z_ahead z_shelves z_cutting z_acting z_road_stretches z_road_cars z_road_demands v_imaged v_lastFault f_refused v_road_drawSeed v_road_tunes_tuneCount f_road_tunes_beats f_road_tunes_noteCounts f_road_tunes_pitches) sz) := by
  refine Met.rw (Qc := fun A => (va_Qi (fun r (u : (Nat → Int32)) => post r u) (fun u t => va_P D vwCl (wX9_noteOf cI cJ cS a_o a_refused a_road a_road_tunes a_road_tunes_beats a_road_tunes_noteCounts a_road_tunes_pitches z_kept z_ahead z_shelves z_cutting z_acting z_road_stretches z_road_cars z_road_demands v_imaged v_lastFault u v_road_drawSeed v_road_tunes_tuneCount f_road_tunes_beats f_road_tunes_noteCounts f_road_tunes_pitches) t.heap) A)) (by decide) (Nat.le_of_ble_eq_true rfl) (fun p e s m args below meth c ls A (S : CallFix p m c cX9_noteOf 6 s args GW "RoadThatSings") hE hT hP hD hA hS hr hlocks hname hl => ?_)
  have hS0 := hS
  have hx := S.1
  have hb := S.2.1
  have hl : lv_has ls 6 [(0, .ref a_o), (1, .int x1), (2, .int x2), (3, .int x3)] := hl
  unfold F_X9_noteOf at h
  refine lv_aload_n hx hb dX9_noteOf_0 rfl (lv_at hl 0 rfl) ?_
  refine gf S hE hP 0 rfl rfl inX9 (k := 0) (by decide) q181 rfl dX9_noteOf_1 ?_
  refine gfN S hE hP 2 rfl rfl inX5 (k := 2) (by decide) nfX9_209 rfl dX9_noteOf_4 ?_
  refine lv_astore (lv' := [(4, .ref a_road_tunes), (0, .ref a_o), (1, .int x1), (2, .int x2), (3, .int x3)]) hx hb dX9_noteOf_7 hl (by decide) rfl (fun ls hl => ?_)
  refine lv_aload hx hb dX9_noteOf_9 (lv_at hl 0 rfl) ?_
  refine lv_iload_n hx hb dX9_noteOf_11 rfl (lv_at hl 2 rfl) ?_
  refine ro_i (roV S hE hT hS (c_X8_has h) lkX9_222 rfl ⟨(Nat.le_of_ble_eq_true rfl), (Nat.le_of_ble_eq_true rfl)⟩ (hP.sub [3] rfl) 0 rfl rfl hl.1 rfl (Nat.le_of_ble_eq_true rfl) dX9_noteOf_12 ⟨(Nat.zero_le _), (Nat.zero_le _)⟩) (fun r12 h => ?_)
  refine lv_if_eq (tgt := 27) hx hb dX9_noteOf_15 (by decide) (fun hc => ?_) (fun hc => ?_)
  · have h := h.1 hc
    refine w_X9_noteOf_27 S hE hT hA hr hlocks _ _ _ h hP hD hS (lv_sub hl [1, 2, 3, 4, 0] rfl)
  have h := h.2 hc
  refine lv_iload_n hx hb dX9_noteOf_18 rfl (lv_at hl 3 rfl) ?_
  refine lv_iconst (v := (-1)) hx hb dX9_noteOf_19 (by decide) ?_
  refine lv_icmp_ne (tgt := 27) hx hb dX9_noteOf_20 (by decide) (fun hc => ?_) (fun hc => ?_)
  · have h := h.2 hc
    refine w_X9_noteOf_27 S hE hT hA hr hlocks _ _ _ h hP hD hS (lv_sub hl [1, 2, 3, 4, 0] rfl)
  have h := h.1 hc
  refine lv_iconst (v := 1) hx hb dX9_noteOf_23 (by decide) ?_
  refine lv_goto (tgt := 28) hx hb dX9_noteOf_24 (by decide) ?_
  refine w_X9_noteOf_28 S hE hT hA hr hlocks _ _ _ h hP hD hS (lv_sub hl [1, 2, 3, 4, 0] rfl)
/-! X9_ask -/
abbrev wX9_ask (cI cJ cS : ClassId) (a_o a_refused a_road a_road_demands : Nat) (z_kept z_ahead z_shelves z_cutting z_acting z_road_stretches z_road_cars z_road_tunes : Value) (v_imaged : Int32) (v_lastFault : Int32) (f_refused : Nat → Int32) (v_road_drawSeed : Int32) (f_road_demands : Nat → Int32) : va_W := [(a_o, .inr (8, [.ref a_road, z_kept, z_ahead, z_shelves, z_cutting, z_acting, .ref a_refused, .int v_imaged, .int v_lastFault])), (a_refused, .inl (cI, 8, .inl f_refused)), (a_road, .inr (4, [z_road_stretches, z_road_cars, z_road_tunes, .ref a_road_demands, .int v_road_drawSeed])), (a_road_demands, .inl (cI, 4, .inl f_road_demands))]
def F_X9_ask (f_refused : Nat → Int32) (f_road_demands : Nat → Int32) (x1 : Int32) (x2 : Int32) (post : Int32 → (Nat → Int32) → (Nat → Int32) → Prop) : Prop := (F_X9_mayBeAsked x1 x2 (fun r2 => ((r2 = 0 → (F_X9_refuse f_refused (-6) (fun r11 w11_0 => post r11 w11_0 f_road_demands))) ∧ (¬ r2 = 0 → (F_X5_asked f_road_demands x1 (fun r20 => (F_X5_demand f_road_demands x1 x2 (fun w30_0 => post r20 f_refused w30_0))))))))
set_option maxHeartbeats 4000000 in
set_option maxRecDepth 100000 in
theorem c_X9_ask {l : Launch} {D : va_G} {cI cJ cS : ClassId} {ad adK : Nat → Nat} {a_o a_refused a_road a_road_demands : Nat} {z_kept z_ahead z_shelves z_cutting z_acting z_road_stretches z_road_cars z_road_tunes : Value} {v_imaged : Int32} {v_lastFault : Int32} {f_refused : Nat → Int32} {v_road_drawSeed : Int32} {f_road_demands : Nat → Int32} {x1 : Int32} {x2 : Int32} {post : Int32 → (Nat → Int32) → (Nat → Int32) → Prop} (h : F_X9_ask f_refused f_road_demands x1 x2 post) {sz : Nat} : Met l yX9_ask (Cond.code yX9_ask cX9_ask 4 (some (.int)) :: GW) (rmd 3 0 0) (PW D cI cJ cS ad adK [.ref a_o, .int x1, .int x2] (wX9_ask cI cJ cS a_o a_refused a_road a_road_demands z_kept z_ahead z_shelves z_cutting z_acting z_road_stretches z_road_cars z_road_tunes v_imaged v_lastFault f_refused v_road_drawSeed f_road_demands) sz) (va_Qi (fun r (u : (Nat → Int32) × (Nat → Int32)) => post r u.1 u.2) (fun u t => va_P D vwCl (wX9_ask cI cJ cS a_o a_refused a_road a_road_demands z_kept z_ahead z_shelves z_cutting z_acting z_road_stretches z_road_cars z_road_tunes v_imaged v_lastFault u.1 v_road_drawSeed u.2) t.heap) (va_A (wX9_ask cI cJ cS a_o a_refused a_road a_road_demands z_kept z_ahead z_shelves z_cutting z_acting z_road_stretches z_road_cars z_road_tunes v_imaged v_lastFault f_refused v_road_drawSeed f_road_demands) sz)) 0 0 (va_A (wX9_ask cI cJ cS a_o a_refused a_road a_road_demands z_kept z_ahead z_shelves z_cutting z_acting z_road_stretches z_road_cars z_road_tunes v_imaged v_lastFault f_refused v_road_drawSeed f_road_demands) sz) := by
  refine Met.rw (Qc := fun A => (va_Qi (fun r (u : (Nat → Int32) × (Nat → Int32)) => post r u.1 u.2) (fun u t => va_P D vwCl (wX9_ask cI cJ cS a_o a_refused a_road a_road_demands z_kept z_ahead z_shelves z_cutting z_acting z_road_stretches z_road_cars z_road_tunes v_imaged v_lastFault u.1 v_road_drawSeed u.2) t.heap) A)) (by decide) (Nat.le_of_ble_eq_true rfl) (fun p e s m args below meth c ls A (S : CallFix p m c cX9_ask 4 s args GW "RoadThatSings") hE hT hP hD hA hS hr hlocks hname hl => ?_)
  have hS0 := hS
  have hx := S.1
  have hb := S.2.1
  have hl : lv_has ls 4 [(0, .ref a_o), (1, .int x1), (2, .int x2)] := hl
  unfold F_X9_ask at h
  refine lv_iload_n hx hb dX9_ask_0 rfl (lv_at hl 1 rfl) ?_
  refine lv_iload_n hx hb dX9_ask_1 rfl (lv_at hl 2 rfl) ?_
  refine ro_i (roS S hE hT hS (c_X9_mayBeAsked h) lkX9_238 rfl ⟨(Nat.le_of_ble_eq_true rfl), (Nat.le_of_ble_eq_true rfl)⟩ (hP.sub [] rfl) hl.1 rfl (Nat.le_of_ble_eq_true rfl) dX9_ask_2 ⟨(Nat.zero_le _), (Nat.zero_le _)⟩) (fun r2 h => ?_)
  refine lv_if_ne (tgt := 15) hx hb dX9_ask_5 (by decide) (fun hc => ?_) (fun hc => ?_)
  · have h := h.2 hc
    refine lv_aload_n hx hb dX9_ask_15 rfl (lv_at hl 0 rfl) ?_
    refine gf S hE hP 0 rfl rfl inX9 (k := 0) (by decide) q181 rfl dX9_ask_16 ?_
    refine lv_iload_n hx hb dX9_ask_19 rfl (lv_at hl 1 rfl) ?_
    refine ro_i (roV S hE hT hS (c_X5_asked h) lkX9_241 rfl ⟨(Nat.le_of_ble_eq_true rfl), (Nat.le_of_ble_eq_true rfl)⟩ (hP.sub [2, 3] rfl) 0 rfl rfl hl.1 rfl (Nat.le_of_ble_eq_true rfl) dX9_ask_20 ⟨(Nat.zero_le _), (Nat.zero_le _)⟩) (fun r20 h => ?_)
    refine lv_istore_n (lv' := [(3, .int r20), (0, .ref a_o), (1, .int x1), (2, .int x2)]) hx hb dX9_ask_23 rfl hl (by decide) rfl (fun ls hl => ?_)
    refine lv_aload_n hx hb dX9_ask_24 rfl (lv_at hl 1 rfl) ?_
    refine gf S hE hP 0 rfl rfl inX9 (k := 0) (by decide) q181 rfl dX9_ask_25 ?_
    refine lv_iload_n hx hb dX9_ask_28 rfl (lv_at hl 2 rfl) ?_
    refine lv_iload_n hx hb dX9_ask_29 rfl (lv_at hl 3 rfl) ?_
    refine rw_v (rwV S hE hT hS hP hD hA (c_X5_demand h) [2, 3] rfl (by decide +kernel) lkX9_244 rfl ⟨(Nat.le_of_ble_eq_true rfl), (Nat.le_of_ble_eq_true rfl)⟩ 2 rfl rfl hl.1 rfl (Nat.le_of_ble_eq_true rfl) dX9_ask_30 ⟨(Nat.zero_le _), (Nat.zero_le _)⟩) hP hD hS hA [2, 3] rfl (by decide +kernel) (fun _ => rfl) (fun w30_0 H locs h hP hD hS => ?_)
    try dsimp only at h
    have hP : va_P D vwCl (wX9_ask cI cJ cS a_o a_refused a_road a_road_demands z_kept z_ahead z_shelves z_cutting z_acting z_road_stretches z_road_cars z_road_tunes v_imaged v_lastFault f_refused v_road_drawSeed w30_0) H := hP
    have hD : va_D A (wX9_ask cI cJ cS a_o a_refused a_road a_road_demands z_kept z_ahead z_shelves z_cutting z_acting z_road_stretches z_road_cars z_road_tunes v_imaged v_lastFault f_refused v_road_drawSeed w30_0) := hD
    refine lv_iload_n hx hb dX9_ask_33 rfl (lv_at hl 0 rfl) ?_
    exact W.iret hx hb hr (fun t ht _ => ⟨⟨_, (f_refused, w30_0), rfl, h, hPt hP ht⟩, hS.F ht⟩) hS.2.2 dX9_ask_34
  have h := h.1 hc
  refine lv_aload_n hx hb dX9_ask_8 rfl (lv_at hl 0 rfl) ?_
  refine lv_bipush (v := (-6)) hx hb dX9_ask_9 (by decide) ?_
  refine rw_i (rwV S hE hT hS hP hD hA (c_X9_refuse h) [0, 1] rfl (by decide +kernel) lkX9_59 rfl ⟨(Nat.le_of_ble_eq_true rfl), (Nat.le_of_ble_eq_true rfl)⟩ 0 rfl rfl hl.1 rfl (Nat.le_of_ble_eq_true rfl) dX9_ask_11 ⟨(Nat.zero_le _), (Nat.zero_le _)⟩) hP hD hS hA [0, 1] rfl (by decide +kernel) (fun _ => rfl) (fun r11 w11_0 H locs h hP hD hS => ?_)
  try dsimp only at h
  have hP : va_P D vwCl (wX9_ask cI cJ cS a_o a_refused a_road a_road_demands z_kept z_ahead z_shelves z_cutting z_acting z_road_stretches z_road_cars z_road_tunes v_imaged v_lastFault w11_0 v_road_drawSeed f_road_demands) H := hP
  have hD : va_D A (wX9_ask cI cJ cS a_o a_refused a_road a_road_demands z_kept z_ahead z_shelves z_cutting z_acting z_road_stretches z_road_cars z_road_tunes v_imaged v_lastFault w11_0 v_road_drawSeed f_road_demands) := hD
  exact W.iret hx hb hr (fun t ht _ => ⟨⟨_, (w11_0, f_road_demands), rfl, h, hPt hP ht⟩, hS.F ht⟩) hS.2.2 dX9_ask_14
/-! X9_fault -/
abbrev wX9_fault (cI cJ cS : ClassId) (a_o : Nat) (z_road z_kept z_ahead z_shelves z_cutting z_acting z_refused : Value) (v_imaged : Int32) (v_lastFault : Int32) : va_W := [(a_o, .inr (8, [z_road, z_kept, z_ahead, z_shelves, z_cutting, z_acting, z_refused, .int v_imaged, .int v_lastFault]))]
def F_X9_fault (v_lastFault : Int32) (post : Int32 → Prop) : Prop := post v_lastFault
set_option maxHeartbeats 4000000 in
set_option maxRecDepth 100000 in
theorem c_X9_fault {l : Launch} {D : va_G} {cI cJ cS : ClassId} {ad adK : Nat → Nat} {a_o : Nat} {z_road z_kept z_ahead z_shelves z_cutting z_acting z_refused : Value} {v_imaged : Int32} {v_lastFault : Int32} {post : Int32 → Prop} (h : F_X9_fault v_lastFault post) : Met l yX9_fault (Cond.code yX9_fault cX9_fault 1 (some (.int)) :: GW) (rmd 0 0 0) (PR D cI cJ cS ad adK [.ref a_o] (wX9_fault cI cJ cS a_o z_road z_kept z_ahead z_shelves z_cutting z_acting z_refused v_imaged v_lastFault)) (vp_Si post) 0 0 nof := by
  refine Met.ro (by decide) (Nat.le_of_ble_eq_true rfl) (fun p e s m args below meth c ls (S : CallFix p m c cX9_fault 1 s args GW "RoadThatSings") hE hT hP hS hr hlocks hl => ?_)
  have hx := S.1
  have hb := S.2.1
  have hl : lv_has ls 1 [(0, .ref a_o)] := hl
  unfold F_X9_fault at h
  refine lv_aload_n hx hb dX9_fault_0 rfl (lv_at hl 0 rfl) ?_
  refine gf S hE hP 0 rfl rfl inX9 (k := 8) (by decide) q189 rfl dX9_fault_1 ?_
  exact W.iret hx hb hr (fun t ht _ => ⟨_, rfl, h, ht⟩) (fun _ hq => by cases hq) dX9_fault_4
/-! X9_hum -/
abbrev wX9_hum (cI cJ cS : ClassId) (a_o a_refused a_road a_road_stretches a_road_stretches_kinds a_road_stretches_others a_road_stretches_spaces : Nat) (z_kept z_ahead z_shelves z_cutting z_acting z_road_cars z_road_tunes z_road_demands z_road_stretches_times : Value) (v_imaged : Int32) (v_lastFault : Int32) (f_refused : Nat → Int32) (v_road_drawSeed : Int32) (v_road_stretches_stretchCount : Int32) (f_road_stretches_kinds : Nat → Int32) (f_road_stretches_others : Nat → Int32) (f_road_stretches_spaces : Nat → Int32) : va_W := [(a_o, .inr (8, [.ref a_road, z_kept, z_ahead, z_shelves, z_cutting, z_acting, .ref a_refused, .int v_imaged, .int v_lastFault])), (a_refused, .inl (cI, 8, .inl f_refused)), (a_road, .inr (4, [.ref a_road_stretches, z_road_cars, z_road_tunes, z_road_demands, .int v_road_drawSeed])), (a_road_stretches, .inr (6, [.ref a_road_stretches_kinds, .ref a_road_stretches_spaces, .ref a_road_stretches_others, z_road_stretches_times, .int v_road_stretches_stretchCount])), (a_road_stretches_kinds, .inl (cI, 16, .inl f_road_stretches_kinds)), (a_road_stretches_others, .inl (cI, 16, .inl f_road_stretches_others)), (a_road_stretches_spaces, .inl (cI, 16, .inl f_road_stretches_spaces))]
def F_X9_hum (f_refused : Nat → Int32) (v_road_stretches_stretchCount : Int32) (f_road_stretches_kinds : Nat → Int32) (f_road_stretches_others : Nat → Int32) (f_road_stretches_spaces : Nat → Int32) (x1 : Int32) (x2 : Int32) (post : Int32 → (Nat → Int32) → Prop) : Prop := (F_X7_has v_road_stretches_stretchCount x1 (fun r8 => ((r8 = 0 → (F_X9_refuse f_refused (-1) (fun r16 w16_0 => post r16 w16_0))) ∧ (¬ r8 = 0 → (F_X9_isSpeed x2 (fun r21 => ((r21 = 0 → (F_X9_refuse f_refused (-6) (fun r45 w45_0 => post r45 w45_0))) ∧ (¬ r21 = 0 → (F_X7_humOf v_road_stretches_stretchCount f_road_stretches_kinds f_road_stretches_others f_road_stretches_spaces x1 x2 (fun r36 => post r36 f_refused))))))))))
set_option maxHeartbeats 4000000 in
set_option maxRecDepth 100000 in
theorem c_X9_hum {l : Launch} {D : va_G} {cI cJ cS : ClassId} {ad adK : Nat → Nat} {a_o a_refused a_road a_road_stretches a_road_stretches_kinds a_road_stretches_others a_road_stretches_spaces : Nat} {z_kept z_ahead z_shelves z_cutting z_acting z_road_cars z_road_tunes z_road_demands z_road_stretches_times : Value} {v_imaged : Int32} {v_lastFault : Int32} {f_refused : Nat → Int32} {v_road_drawSeed : Int32} {v_road_stretches_stretchCount : Int32} {f_road_stretches_kinds : Nat → Int32} {f_road_stretches_others : Nat → Int32} {f_road_stretches_spaces : Nat → Int32} {x1 : Int32} {x2 : Int32} {post : Int32 → (Nat → Int32) → Prop} (h : F_X9_hum f_refused v_road_stretches_stretchCount f_road_stretches_kinds f_road_stretches_others f_road_stretches_spaces x1 x2 post) {sz : Nat} : Met l yX9_hum (Cond.code yX9_hum cX9_hum 3 (some (.int)) :: GW) (rmd 3 0 0) (PW D cI cJ cS ad adK [.ref a_o, .int x1, .int x2] (wX9_hum cI cJ cS a_o a_refused a_road a_road_stretches a_road_stretches_kinds a_road_stretches_others a_road_stretches_spaces z_kept z_ahead z_shelves z_cutting z_acting z_road_cars z_road_tunes z_road_demands z_road_stretches_times v_imaged v_lastFault f_refused v_road_drawSeed v_road_stretches_stretchCount f_road_stretches_kinds f_road_stretches_others f_road_stretches_spaces) sz) (va_Qi (fun r (u : (Nat → Int32)) => post r u) (fun u t => va_P D vwCl (wX9_hum cI cJ cS a_o a_refused a_road a_road_stretches a_road_stretches_kinds a_road_stretches_others a_road_stretches_spaces z_kept z_ahead z_shelves z_cutting z_acting z_road_cars z_road_tunes z_road_demands z_road_stretches_times v_imaged v_lastFault u v_road_drawSeed v_road_stretches_stretchCount f_road_stretches_kinds f_road_stretches_others f_road_stretches_spaces) t.heap) (va_A (wX9_hum cI cJ cS a_o a_refused a_road a_road_stretches a_road_stretches_kinds a_road_stretches_others a_road_stretches_spaces z_kept z_ahead z_shelves z_cutting z_acting z_road_cars z_road_tunes z_road_demands z_road_stretches_times v_imaged v_lastFault f_refused v_road_drawSeed v_road_stretches_stretchCount f_road_stretches_kinds f_road_stretches_others f_road_stretches_spaces) sz)) 0 0 (va_A (wX9_hum cI cJ cS a_o a_refused a_road a_road_stretches a_road_stretches_kinds a_road_stretches_others a_road_stretches_spaces z_kept z_ahead z_shelves z_cutting z_acting z_road_cars z_road_tunes z_road_demands z_road_stretches_times v_imaged v_lastFault f_refused v_road_drawSeed v_road_stretches_stretchCount f_road_stretches_kinds f_road_stretches_others f_road_stretches_spaces) sz) := by
  refine Met.rw (Qc := fun A => (va_Qi (fun r (u : (Nat → Int32)) => post r u) (fun u t => va_P D vwCl (wX9_hum cI cJ cS a_o a_refused a_road a_road_stretches a_road_stretches_kinds a_road_stretches_others a_road_stretches_spaces z_kept z_ahead z_shelves z_cutting z_acting z_road_cars z_road_tunes z_road_demands z_road_stretches_times v_imaged v_lastFault u v_road_drawSeed v_road_stretches_stretchCount f_road_stretches_kinds f_road_stretches_others f_road_stretches_spaces) t.heap) A)) (by decide) (Nat.le_of_ble_eq_true rfl) (fun p e s m args below meth c ls A (S : CallFix p m c cX9_hum 3 s args GW "RoadThatSings") hE hT hP hD hA hS hr hlocks hname hl => ?_)
  have hS0 := hS
  have hx := S.1
  have hb := S.2.1
  have hl : lv_has ls 3 [(0, .ref a_o), (1, .int x1), (2, .int x2)] := hl
  unfold F_X9_hum at h
  refine lv_aload_n hx hb dX9_hum_0 rfl (lv_at hl 0 rfl) ?_
  refine gf S hE hP 0 rfl rfl inX9 (k := 0) (by decide) q181 rfl dX9_hum_1 ?_
  refine gfN S hE hP 2 rfl rfl inX5 (k := 0) (by decide) nfX9_106 rfl dX9_hum_4 ?_
  refine lv_iload_n hx hb dX9_hum_7 rfl (lv_at hl 1 rfl) ?_
  refine ro_i (roV S hE hT hS (c_X7_has h) lkX9_110 rfl ⟨(Nat.le_of_ble_eq_true rfl), (Nat.le_of_ble_eq_true rfl)⟩ (hP.sub [3] rfl) 0 rfl rfl hl.1 rfl (Nat.le_of_ble_eq_true rfl) dX9_hum_8 ⟨(Nat.zero_le _), (Nat.zero_le _)⟩) (fun r8 h => ?_)
  refine lv_if_ne (tgt := 20) hx hb dX9_hum_11 (by decide) (fun hc => ?_) (fun hc => ?_)
  · have h := h.2 hc
    refine lv_iload_n hx hb dX9_hum_20 rfl (lv_at hl 2 rfl) ?_
    refine ro_i (roS S hE hT hS (c_X9_isSpeed h) lkX9_177 rfl ⟨(Nat.le_of_ble_eq_true rfl), (Nat.le_of_ble_eq_true rfl)⟩ (hP.sub [] rfl) hl.1 rfl (Nat.le_of_ble_eq_true rfl) dX9_hum_21 ⟨(Nat.zero_le _), (Nat.zero_le _)⟩) (fun r21 h => ?_)
    refine lv_if_eq (tgt := 42) hx hb dX9_hum_24 (by decide) (fun hc => ?_) (fun hc => ?_)
    · have h := h.1 hc
      refine lv_aload_n hx hb dX9_hum_42 rfl (lv_at hl 0 rfl) ?_
      refine lv_bipush (v := (-6)) hx hb dX9_hum_43 (by decide) ?_
      refine rw_i (rwV S hE hT hS hP hD hA (c_X9_refuse h) [0, 1] rfl (by decide +kernel) lkX9_59 rfl ⟨(Nat.le_of_ble_eq_true rfl), (Nat.le_of_ble_eq_true rfl)⟩ 0 rfl rfl hl.1 rfl (Nat.le_of_ble_eq_true rfl) dX9_hum_45 ⟨(Nat.zero_le _), (Nat.zero_le _)⟩) hP hD hS hA [0, 1] rfl (by decide +kernel) (fun _ => rfl) (fun r45 w45_0 H locs h hP hD hS => ?_)
      try dsimp only at h
      have hP : va_P D vwCl (wX9_hum cI cJ cS a_o a_refused a_road a_road_stretches a_road_stretches_kinds a_road_stretches_others a_road_stretches_spaces z_kept z_ahead z_shelves z_cutting z_acting z_road_cars z_road_tunes z_road_demands z_road_stretches_times v_imaged v_lastFault w45_0 v_road_drawSeed v_road_stretches_stretchCount f_road_stretches_kinds f_road_stretches_others f_road_stretches_spaces) H := hP
      have hD : va_D A (wX9_hum cI cJ cS a_o a_refused a_road a_road_stretches a_road_stretches_kinds a_road_stretches_others a_road_stretches_spaces z_kept z_ahead z_shelves z_cutting z_acting z_road_cars z_road_tunes z_road_demands z_road_stretches_times v_imaged v_lastFault w45_0 v_road_drawSeed v_road_stretches_stretchCount f_road_stretches_kinds f_road_stretches_others f_road_stretches_spaces) := hD
      exact W.iret hx hb hr (fun t ht _ => ⟨⟨_, w45_0, rfl, h, hPt hP ht⟩, hS.F ht⟩) hS.2.2 dX9_hum_48
    have h := h.2 hc
    refine lv_aload_n hx hb dX9_hum_27 rfl (lv_at hl 0 rfl) ?_
    refine gf S hE hP 0 rfl rfl inX9 (k := 0) (by decide) q181 rfl dX9_hum_28 ?_
    refine gfN S hE hP 2 rfl rfl inX5 (k := 0) (by decide) nfX9_106 rfl dX9_hum_31 ?_
    refine lv_iload_n hx hb dX9_hum_34 rfl (lv_at hl 1 rfl) ?_
    refine lv_iload_n hx hb dX9_hum_35 rfl (lv_at hl 2 rfl) ?_
    refine ro_i (roV S hE hT hS (c_X7_humOf h) lkX9_262 rfl ⟨(Nat.le_of_ble_eq_true rfl), (Nat.le_of_ble_eq_true rfl)⟩ (hP.sub [3, 4, 5, 6] rfl) 0 rfl rfl hl.1 rfl (Nat.le_of_ble_eq_true rfl) dX9_hum_36 ⟨(Nat.zero_le _), (Nat.zero_le _)⟩) (fun r36 h => ?_)
    refine lv_goto (tgt := 48) hx hb dX9_hum_39 (by decide) ?_
    exact W.iret hx hb hr (fun t ht _ => ⟨⟨_, f_refused, rfl, h, hPt hP ht⟩, hS.F ht⟩) hS.2.2 dX9_hum_48
  have h := h.1 hc
  refine lv_aload_n hx hb dX9_hum_14 rfl (lv_at hl 0 rfl) ?_
  refine lv_iconst (v := (-1)) hx hb dX9_hum_15 (by decide) ?_
  refine rw_i (rwV S hE hT hS hP hD hA (c_X9_refuse h) [0, 1] rfl (by decide +kernel) lkX9_59 rfl ⟨(Nat.le_of_ble_eq_true rfl), (Nat.le_of_ble_eq_true rfl)⟩ 0 rfl rfl hl.1 rfl (Nat.le_of_ble_eq_true rfl) dX9_hum_16 ⟨(Nat.zero_le _), (Nat.zero_le _)⟩) hP hD hS hA [0, 1] rfl (by decide +kernel) (fun _ => rfl) (fun r16 w16_0 H locs h hP hD hS => ?_)
  try dsimp only at h
  have hP : va_P D vwCl (wX9_hum cI cJ cS a_o a_refused a_road a_road_stretches a_road_stretches_kinds a_road_stretches_others a_road_stretches_spaces z_kept z_ahead z_shelves z_cutting z_acting z_road_cars z_road_tunes z_road_demands z_road_stretches_times v_imaged v_lastFault w16_0 v_road_drawSeed v_road_stretches_stretchCount f_road_stretches_kinds f_road_stretches_others f_road_stretches_spaces) H := hP
  have hD : va_D A (wX9_hum cI cJ cS a_o a_refused a_road a_road_stretches a_road_stretches_kinds a_road_stretches_others a_road_stretches_spaces z_kept z_ahead z_shelves z_cutting z_acting z_road_cars z_road_tunes z_road_demands z_road_stretches_times v_imaged v_lastFault w16_0 v_road_drawSeed v_road_stretches_stretchCount f_road_stretches_kinds f_road_stretches_others f_road_stretches_spaces) := hD
  exact W.iret hx hb hr (fun t ht _ => ⟨⟨_, w16_0, rfl, h, hPt hP ht⟩, hS.F ht⟩) hS.2.2 dX9_hum_19
/-! X9_lasts -/
abbrev wX9_lasts (cI cJ cS : ClassId) (a_o a_refused a_road a_road_stretches a_road_stretches_kinds a_road_stretches_others a_road_stretches_spaces a_road_stretches_times : Nat) (z_kept z_ahead z_shelves z_cutting z_acting z_road_cars z_road_tunes z_road_demands : Value) (v_imaged : Int32) (v_lastFault : Int32) (f_refused : Nat → Int32) (v_road_drawSeed : Int32) (v_road_stretches_stretchCount : Int32) (f_road_stretches_kinds : Nat → Int32) (f_road_stretches_others : Nat → Int32) (f_road_stretches_spaces : Nat → Int32) (f_road_stretches_times : Nat → Int32) : va_W := [(a_o, .inr (8, [.ref a_road, z_kept, z_ahead, z_shelves, z_cutting, z_acting, .ref a_refused, .int v_imaged, .int v_lastFault])), (a_refused, .inl (cI, 8, .inl f_refused)), (a_road, .inr (4, [.ref a_road_stretches, z_road_cars, z_road_tunes, z_road_demands, .int v_road_drawSeed])), (a_road_stretches, .inr (6, [.ref a_road_stretches_kinds, .ref a_road_stretches_spaces, .ref a_road_stretches_others, .ref a_road_stretches_times, .int v_road_stretches_stretchCount])), (a_road_stretches_kinds, .inl (cI, 16, .inl f_road_stretches_kinds)), (a_road_stretches_others, .inl (cI, 16, .inl f_road_stretches_others)), (a_road_stretches_spaces, .inl (cI, 16, .inl f_road_stretches_spaces)), (a_road_stretches_times, .inl (cI, 16, .inl f_road_stretches_times))]
def F_X9_lasts (f_refused : Nat → Int32) (v_road_stretches_stretchCount : Int32) (f_road_stretches_kinds : Nat → Int32) (f_road_stretches_others : Nat → Int32) (f_road_stretches_spaces : Nat → Int32) (f_road_stretches_times : Nat → Int32) (x1 : Int32) (x2 : Int32) (post : Int32 → (Nat → Int32) → Prop) : Prop := (F_X7_has v_road_stretches_stretchCount x1 (fun r8 => ((r8 = 0 → (F_X9_refuse f_refused (-1) (fun r16 w16_0 => post r16 w16_0))) ∧ (¬ r8 = 0 → (F_X9_isSpeed x2 (fun r21 => ((r21 = 0 → (F_X9_refuse f_refused (-6) (fun r45 w45_0 => post r45 w45_0))) ∧ (¬ r21 = 0 → (F_X7_lastingOf v_road_stretches_stretchCount f_road_stretches_kinds f_road_stretches_others f_road_stretches_spaces f_road_stretches_times x1 x2 (fun r36 => post r36 f_refused))))))))))
set_option maxHeartbeats 4000000 in
set_option maxRecDepth 100000 in
theorem c_X9_lasts {l : Launch} {D : va_G} {cI cJ cS : ClassId} {ad adK : Nat → Nat} {a_o a_refused a_road a_road_stretches a_road_stretches_kinds a_road_stretches_others a_road_stretches_spaces a_road_stretches_times : Nat} {z_kept z_ahead z_shelves z_cutting z_acting z_road_cars z_road_tunes z_road_demands : Value} {v_imaged : Int32} {v_lastFault : Int32} {f_refused : Nat → Int32} {v_road_drawSeed : Int32} {v_road_stretches_stretchCount : Int32} {f_road_stretches_kinds : Nat → Int32} {f_road_stretches_others : Nat → Int32} {f_road_stretches_spaces : Nat → Int32} {f_road_stretches_times : Nat → Int32} {x1 : Int32} {x2 : Int32} {post : Int32 → (Nat → Int32) → Prop} (h : F_X9_lasts f_refused v_road_stretches_stretchCount f_road_stretches_kinds f_road_stretches_others f_road_stretches_spaces f_road_stretches_times x1 x2 post) {sz : Nat} : Met l yX9_lasts (Cond.code yX9_lasts cX9_lasts 3 (some (.int)) :: GW) (rmd 4 0 0) (PW D cI cJ cS ad adK [.ref a_o, .int x1, .int x2] (wX9_lasts cI cJ cS a_o a_refused a_road a_road_stretches a_road_stretches_kinds a_road_stretches_others a_road_stretches_spaces a_road_stretches_times z_kept z_ahead z_shelves z_cutting z_acting z_road_cars z_road_tunes z_road_demands v_imaged v_lastFault f_refused v_road_drawSeed v_road_stretches_stretchCount f_road_stretches_kinds f_road_stretches_others f_road_stretches_spaces f_road_stretches_times) sz) (va_Qi (fun r (u : (Nat → Int32)) => post r u) (fun u t => va_P D vwCl (wX9_lasts cI cJ cS a_o a_refused a_road a_road_stretches a_road_stretches_kinds a_road_stretches_others a_road_stretches_spaces a_road_stretches_times z_kept z_ahead z_shelves z_cutting z_acting z_road_cars z_road_tunes z_road_demands v_imaged v_lastFault u v_road_drawSeed v_road_stretches_stretchCount f_road_stretches_kinds f_road_stretches_others f_road_stretches_spaces f_road_stretches_times) t.heap) (va_A (wX9_lasts cI cJ cS a_o a_refused a_road a_road_stretches a_road_stretches_kinds a_road_stretches_others a_road_stretches_spaces a_road_stretches_times z_kept z_ahead z_shelves z_cutting z_acting z_road_cars z_road_tunes z_road_demands v_imaged v_lastFault f_refused v_road_drawSeed v_road_stretches_stretchCount f_road_stretches_kinds f_road_stretches_others f_road_stretches_spaces f_road_stretches_times) sz)) 0 0 (va_A (wX9_lasts cI cJ cS a_o a_refused a_road a_road_stretches a_road_stretches_kinds a_road_stretches_others a_road_stretches_spaces a_road_stretches_times z_kept z_ahead z_shelves z_cutting z_acting z_road_cars z_road_tunes z_road_demands v_imaged v_lastFault f_refused v_road_drawSeed v_road_stretches_stretchCount f_road_stretches_kinds f_road_stretches_others f_road_stretches_spaces f_road_stretches_times) sz) := by
  refine Met.rw (Qc := fun A => (va_Qi (fun r (u : (Nat → Int32)) => post r u) (fun u t => va_P D vwCl (wX9_lasts cI cJ cS a_o a_refused a_road a_road_stretches a_road_stretches_kinds a_road_stretches_others a_road_stretches_spaces a_road_stretches_times z_kept z_ahead z_shelves z_cutting z_acting z_road_cars z_road_tunes z_road_demands v_imaged v_lastFault u v_road_drawSeed v_road_stretches_stretchCount f_road_stretches_kinds f_road_stretches_others f_road_stretches_spaces f_road_stretches_times) t.heap) A)) (by decide) (Nat.le_of_ble_eq_true rfl) (fun p e s m args below meth c ls A (S : CallFix p m c cX9_lasts 3 s args GW "RoadThatSings") hE hT hP hD hA hS hr hlocks hname hl => ?_)
  have hS0 := hS
  have hx := S.1
  have hb := S.2.1
  have hl : lv_has ls 3 [(0, .ref a_o), (1, .int x1), (2, .int x2)] := hl
  unfold F_X9_lasts at h
  refine lv_aload_n hx hb dX9_lasts_0 rfl (lv_at hl 0 rfl) ?_
  refine gf S hE hP 0 rfl rfl inX9 (k := 0) (by decide) q181 rfl dX9_lasts_1 ?_
  refine gfN S hE hP 2 rfl rfl inX5 (k := 0) (by decide) nfX9_106 rfl dX9_lasts_4 ?_
  refine lv_iload_n hx hb dX9_lasts_7 rfl (lv_at hl 1 rfl) ?_
  refine ro_i (roV S hE hT hS (c_X7_has h) lkX9_110 rfl ⟨(Nat.le_of_ble_eq_true rfl), (Nat.le_of_ble_eq_true rfl)⟩ (hP.sub [3] rfl) 0 rfl rfl hl.1 rfl (Nat.le_of_ble_eq_true rfl) dX9_lasts_8 ⟨(Nat.zero_le _), (Nat.zero_le _)⟩) (fun r8 h => ?_)
  refine lv_if_ne (tgt := 20) hx hb dX9_lasts_11 (by decide) (fun hc => ?_) (fun hc => ?_)
  · have h := h.2 hc
    refine lv_iload_n hx hb dX9_lasts_20 rfl (lv_at hl 2 rfl) ?_
    refine ro_i (roS S hE hT hS (c_X9_isSpeed h) lkX9_177 rfl ⟨(Nat.le_of_ble_eq_true rfl), (Nat.le_of_ble_eq_true rfl)⟩ (hP.sub [] rfl) hl.1 rfl (Nat.le_of_ble_eq_true rfl) dX9_lasts_21 ⟨(Nat.zero_le _), (Nat.zero_le _)⟩) (fun r21 h => ?_)
    refine lv_if_eq (tgt := 42) hx hb dX9_lasts_24 (by decide) (fun hc => ?_) (fun hc => ?_)
    · have h := h.1 hc
      refine lv_aload_n hx hb dX9_lasts_42 rfl (lv_at hl 0 rfl) ?_
      refine lv_bipush (v := (-6)) hx hb dX9_lasts_43 (by decide) ?_
      refine rw_i (rwV S hE hT hS hP hD hA (c_X9_refuse h) [0, 1] rfl (by decide +kernel) lkX9_59 rfl ⟨(Nat.le_of_ble_eq_true rfl), (Nat.le_of_ble_eq_true rfl)⟩ 0 rfl rfl hl.1 rfl (Nat.le_of_ble_eq_true rfl) dX9_lasts_45 ⟨(Nat.zero_le _), (Nat.zero_le _)⟩) hP hD hS hA [0, 1] rfl (by decide +kernel) (fun _ => rfl) (fun r45 w45_0 H locs h hP hD hS => ?_)
      try dsimp only at h
      have hP : va_P D vwCl (wX9_lasts cI cJ cS a_o a_refused a_road a_road_stretches a_road_stretches_kinds a_road_stretches_others a_road_stretches_spaces a_road_stretches_times z_kept z_ahead z_shelves z_cutting z_acting z_road_cars z_road_tunes z_road_demands v_imaged v_lastFault w45_0 v_road_drawSeed v_road_stretches_stretchCount f_road_stretches_kinds f_road_stretches_others f_road_stretches_spaces f_road_stretches_times) H := hP
      have hD : va_D A (wX9_lasts cI cJ cS a_o a_refused a_road a_road_stretches a_road_stretches_kinds a_road_stretches_others a_road_stretches_spaces a_road_stretches_times z_kept z_ahead z_shelves z_cutting z_acting z_road_cars z_road_tunes z_road_demands v_imaged v_lastFault w45_0 v_road_drawSeed v_road_stretches_stretchCount f_road_stretches_kinds f_road_stretches_others f_road_stretches_spaces f_road_stretches_times) := hD
      exact W.iret hx hb hr (fun t ht _ => ⟨⟨_, w45_0, rfl, h, hPt hP ht⟩, hS.F ht⟩) hS.2.2 dX9_lasts_48
    have h := h.2 hc
    refine lv_aload_n hx hb dX9_lasts_27 rfl (lv_at hl 0 rfl) ?_
    refine gf S hE hP 0 rfl rfl inX9 (k := 0) (by decide) q181 rfl dX9_lasts_28 ?_
    refine gfN S hE hP 2 rfl rfl inX5 (k := 0) (by decide) nfX9_106 rfl dX9_lasts_31 ?_
    refine lv_iload_n hx hb dX9_lasts_34 rfl (lv_at hl 1 rfl) ?_
    refine lv_iload_n hx hb dX9_lasts_35 rfl (lv_at hl 2 rfl) ?_
    refine ro_i (roV S hE hT hS (c_X7_lastingOf h) lkX9_265 rfl ⟨(Nat.le_of_ble_eq_true rfl), (Nat.le_of_ble_eq_true rfl)⟩ (hP.sub [3, 4, 5, 6, 7] rfl) 0 rfl rfl hl.1 rfl (Nat.le_of_ble_eq_true rfl) dX9_lasts_36 ⟨(Nat.zero_le _), (Nat.zero_le _)⟩) (fun r36 h => ?_)
    refine lv_goto (tgt := 48) hx hb dX9_lasts_39 (by decide) ?_
    exact W.iret hx hb hr (fun t ht _ => ⟨⟨_, f_refused, rfl, h, hPt hP ht⟩, hS.F ht⟩) hS.2.2 dX9_lasts_48
  have h := h.1 hc
  refine lv_aload_n hx hb dX9_lasts_14 rfl (lv_at hl 0 rfl) ?_
  refine lv_iconst (v := (-1)) hx hb dX9_lasts_15 (by decide) ?_
  refine rw_i (rwV S hE hT hS hP hD hA (c_X9_refuse h) [0, 1] rfl (by decide +kernel) lkX9_59 rfl ⟨(Nat.le_of_ble_eq_true rfl), (Nat.le_of_ble_eq_true rfl)⟩ 0 rfl rfl hl.1 rfl (Nat.le_of_ble_eq_true rfl) dX9_lasts_16 ⟨(Nat.zero_le _), (Nat.zero_le _)⟩) hP hD hS hA [0, 1] rfl (by decide +kernel) (fun _ => rfl) (fun r16 w16_0 H locs h hP hD hS => ?_)
  try dsimp only at h
  have hP : va_P D vwCl (wX9_lasts cI cJ cS a_o a_refused a_road a_road_stretches a_road_stretches_kinds a_road_stretches_others a_road_stretches_spaces a_road_stretches_times z_kept z_ahead z_shelves z_cutting z_acting z_road_cars z_road_tunes z_road_demands v_imaged v_lastFault w16_0 v_road_drawSeed v_road_stretches_stretchCount f_road_stretches_kinds f_road_stretches_others f_road_stretches_spaces f_road_stretches_times) H := hP
  have hD : va_D A (wX9_lasts cI cJ cS a_o a_refused a_road a_road_stretches a_road_stretches_kinds a_road_stretches_others a_road_stretches_spaces a_road_stretches_times z_kept z_ahead z_shelves z_cutting z_acting z_road_cars z_road_tunes z_road_demands v_imaged v_lastFault w16_0 v_road_drawSeed v_road_stretches_stretchCount f_road_stretches_kinds f_road_stretches_others f_road_stretches_spaces f_road_stretches_times) := hD
  exact W.iret hx hb hr (fun t ht _ => ⟨⟨_, w16_0, rfl, h, hPt hP ht⟩, hS.F ht⟩) hS.2.2 dX9_lasts_19
/-! X9_loud -/
abbrev wX9_loud (cI cJ cS : ClassId) (a_o a_refused a_road a_road_stretches a_road_stretches_kinds : Nat) (z_kept z_ahead z_shelves z_cutting z_acting z_road_cars z_road_tunes z_road_demands z_road_stretches_spaces z_road_stretches_others z_road_stretches_times : Value) (v_imaged : Int32) (v_lastFault : Int32) (f_refused : Nat → Int32) (v_road_drawSeed : Int32) (v_road_stretches_stretchCount : Int32) (f_road_stretches_kinds : Nat → Int32) : va_W := [(a_o, .inr (8, [.ref a_road, z_kept, z_ahead, z_shelves, z_cutting, z_acting, .ref a_refused, .int v_imaged, .int v_lastFault])), (a_refused, .inl (cI, 8, .inl f_refused)), (a_road, .inr (4, [.ref a_road_stretches, z_road_cars, z_road_tunes, z_road_demands, .int v_road_drawSeed])), (a_road_stretches, .inr (6, [.ref a_road_stretches_kinds, z_road_stretches_spaces, z_road_stretches_others, z_road_stretches_times, .int v_road_stretches_stretchCount])), (a_road_stretches_kinds, .inl (cI, 16, .inl f_road_stretches_kinds))]
def F_X9_loud (f_refused : Nat → Int32) (v_road_stretches_stretchCount : Int32) (f_road_stretches_kinds : Nat → Int32) (x1 : Int32) (x2 : Int32) (post : Int32 → (Nat → Int32) → Prop) : Prop := (F_X7_has v_road_stretches_stretchCount x1 (fun r8 => ((r8 = 0 → (F_X9_refuse f_refused (-1) (fun r16 w16_0 => post r16 w16_0))) ∧ (¬ r8 = 0 → (F_X9_within x2 0 50 (fun r24 => ((r24 = 0 → (F_X9_refuse f_refused (-6) (fun r48 w48_0 => post r48 w48_0))) ∧ (¬ r24 = 0 → (F_X7_loudnessOf v_road_stretches_stretchCount f_road_stretches_kinds x1 x2 (fun r39 => post r39 f_refused))))))))))
set_option maxHeartbeats 4000000 in
set_option maxRecDepth 100000 in
theorem c_X9_loud {l : Launch} {D : va_G} {cI cJ cS : ClassId} {ad adK : Nat → Nat} {a_o a_refused a_road a_road_stretches a_road_stretches_kinds : Nat} {z_kept z_ahead z_shelves z_cutting z_acting z_road_cars z_road_tunes z_road_demands z_road_stretches_spaces z_road_stretches_others z_road_stretches_times : Value} {v_imaged : Int32} {v_lastFault : Int32} {f_refused : Nat → Int32} {v_road_drawSeed : Int32} {v_road_stretches_stretchCount : Int32} {f_road_stretches_kinds : Nat → Int32} {x1 : Int32} {x2 : Int32} {post : Int32 → (Nat → Int32) → Prop} (h : F_X9_loud f_refused v_road_stretches_stretchCount f_road_stretches_kinds x1 x2 post) {sz : Nat} : Met l yX9_loud (Cond.code yX9_loud cX9_loud 3 (some (.int)) :: GW) (rmd 4 0 0) (PW D cI cJ cS ad adK [.ref a_o, .int x1, .int x2] (wX9_loud cI cJ cS a_o a_refused a_road a_road_stretches a_road_stretches_kinds z_kept z_ahead z_shelves z_cutting z_acting z_road_cars z_road_tunes z_road_demands z_road_stretches_spaces z_road_stretches_others z_road_stretches_times v_imaged v_lastFault f_refused v_road_drawSeed v_road_stretches_stretchCount f_road_stretches_kinds) sz) (va_Qi (fun r (u : (Nat → Int32)) => post r u) (fun u t => va_P D vwCl (wX9_loud cI cJ cS a_o a_refused a_road a_road_stretches a_road_stretches_kinds z_kept z_ahead z_shelves z_cutting z_acting z_road_cars z_road_tunes z_road_demands z_road_stretches_spaces z_road_stretches_others z_road_stretches_times v_imaged v_lastFault u v_road_drawSeed v_road_stretches_stretchCount f_road_stretches_kinds) t.heap) (va_A (wX9_loud cI cJ cS a_o a_refused a_road a_road_stretches a_road_stretches_kinds z_kept z_ahead z_shelves z_cutting z_acting z_road_cars z_road_tunes z_road_demands z_road_stretches_spaces z_road_stretches_others z_road_stretches_times v_imaged v_lastFault f_refused v_road_drawSeed v_road_stretches_stretchCount f_road_stretches_kinds) sz)) 0 0 (va_A (wX9_loud cI cJ cS a_o a_refused a_road a_road_stretches a_road_stretches_kinds z_kept z_ahead z_shelves z_cutting z_acting z_road_cars z_road_tunes z_road_demands z_road_stretches_spaces z_road_stretches_others z_road_stretches_times v_imaged v_lastFault f_refused v_road_drawSeed v_road_stretches_stretchCount f_road_stretches_kinds) sz) := by
  refine Met.rw (Qc := fun A => (va_Qi (fun r (u : (Nat → Int32)) => post r u) (fun u t => va_P D vwCl (wX9_loud cI cJ cS a_o a_refused a_road a_road_stretches a_road_stretches_kinds z_kept z_ahead z_shelves z_cutting z_acting z_road_cars z_road_tunes z_road_demands z_road_stretches_spaces z_road_stretches_others z_road_stretches_times v_imaged v_lastFault u v_road_drawSeed v_road_stretches_stretchCount f_road_stretches_kinds) t.heap) A)) (by decide) (Nat.le_of_ble_eq_true rfl) (fun p e s m args below meth c ls A (S : CallFix p m c cX9_loud 3 s args GW "RoadThatSings") hE hT hP hD hA hS hr hlocks hname hl => ?_)
  have hS0 := hS
  have hx := S.1
  have hb := S.2.1
  have hl : lv_has ls 3 [(0, .ref a_o), (1, .int x1), (2, .int x2)] := hl
  unfold F_X9_loud at h
  refine lv_aload_n hx hb dX9_loud_0 rfl (lv_at hl 0 rfl) ?_
  refine gf S hE hP 0 rfl rfl inX9 (k := 0) (by decide) q181 rfl dX9_loud_1 ?_
  refine gfN S hE hP 2 rfl rfl inX5 (k := 0) (by decide) nfX9_106 rfl dX9_loud_4 ?_
  refine lv_iload_n hx hb dX9_loud_7 rfl (lv_at hl 1 rfl) ?_
  refine ro_i (roV S hE hT hS (c_X7_has h) lkX9_110 rfl ⟨(Nat.le_of_ble_eq_true rfl), (Nat.le_of_ble_eq_true rfl)⟩ (hP.sub [3] rfl) 0 rfl rfl hl.1 rfl (Nat.le_of_ble_eq_true rfl) dX9_loud_8 ⟨(Nat.zero_le _), (Nat.zero_le _)⟩) (fun r8 h => ?_)
  refine lv_if_ne (tgt := 20) hx hb dX9_loud_11 (by decide) (fun hc => ?_) (fun hc => ?_)
  · have h := h.2 hc
    refine lv_iload_n hx hb dX9_loud_20 rfl (lv_at hl 2 rfl) ?_
    refine lv_iconst (v := 0) hx hb dX9_loud_21 (by decide) ?_
    refine lv_bipush (v := 50) hx hb dX9_loud_22 (by decide) ?_
    refine ro_i (roS S hE hT hS (c_X9_within h) lkX9_63 rfl ⟨(Nat.le_of_ble_eq_true rfl), (Nat.le_of_ble_eq_true rfl)⟩ (hP.sub [] rfl) hl.1 rfl (Nat.le_of_ble_eq_true rfl) dX9_loud_24 ⟨(Nat.zero_le _), (Nat.zero_le _)⟩) (fun r24 h => ?_)
    refine lv_if_eq (tgt := 45) hx hb dX9_loud_27 (by decide) (fun hc => ?_) (fun hc => ?_)
    · have h := h.1 hc
      refine lv_aload_n hx hb dX9_loud_45 rfl (lv_at hl 0 rfl) ?_
      refine lv_bipush (v := (-6)) hx hb dX9_loud_46 (by decide) ?_
      refine rw_i (rwV S hE hT hS hP hD hA (c_X9_refuse h) [0, 1] rfl (by decide +kernel) lkX9_59 rfl ⟨(Nat.le_of_ble_eq_true rfl), (Nat.le_of_ble_eq_true rfl)⟩ 0 rfl rfl hl.1 rfl (Nat.le_of_ble_eq_true rfl) dX9_loud_48 ⟨(Nat.zero_le _), (Nat.zero_le _)⟩) hP hD hS hA [0, 1] rfl (by decide +kernel) (fun _ => rfl) (fun r48 w48_0 H locs h hP hD hS => ?_)
      try dsimp only at h
      have hP : va_P D vwCl (wX9_loud cI cJ cS a_o a_refused a_road a_road_stretches a_road_stretches_kinds z_kept z_ahead z_shelves z_cutting z_acting z_road_cars z_road_tunes z_road_demands z_road_stretches_spaces z_road_stretches_others z_road_stretches_times v_imaged v_lastFault w48_0 v_road_drawSeed v_road_stretches_stretchCount f_road_stretches_kinds) H := hP
      have hD : va_D A (wX9_loud cI cJ cS a_o a_refused a_road a_road_stretches a_road_stretches_kinds z_kept z_ahead z_shelves z_cutting z_acting z_road_cars z_road_tunes z_road_demands z_road_stretches_spaces z_road_stretches_others z_road_stretches_times v_imaged v_lastFault w48_0 v_road_drawSeed v_road_stretches_stretchCount f_road_stretches_kinds) := hD
      exact W.iret hx hb hr (fun t ht _ => ⟨⟨_, w48_0, rfl, h, hPt hP ht⟩, hS.F ht⟩) hS.2.2 dX9_loud_51
    have h := h.2 hc
    refine lv_aload_n hx hb dX9_loud_30 rfl (lv_at hl 0 rfl) ?_
    refine gf S hE hP 0 rfl rfl inX9 (k := 0) (by decide) q181 rfl dX9_loud_31 ?_
    refine gfN S hE hP 2 rfl rfl inX5 (k := 0) (by decide) nfX9_106 rfl dX9_loud_34 ?_
    refine lv_iload_n hx hb dX9_loud_37 rfl (lv_at hl 1 rfl) ?_
    refine lv_iload_n hx hb dX9_loud_38 rfl (lv_at hl 2 rfl) ?_
    refine ro_i (roV S hE hT hS (c_X7_loudnessOf h) lkX9_268 rfl ⟨(Nat.le_of_ble_eq_true rfl), (Nat.le_of_ble_eq_true rfl)⟩ (hP.sub [3, 4] rfl) 0 rfl rfl hl.1 rfl (Nat.le_of_ble_eq_true rfl) dX9_loud_39 ⟨(Nat.zero_le _), (Nat.zero_le _)⟩) (fun r39 h => ?_)
    refine lv_goto (tgt := 51) hx hb dX9_loud_42 (by decide) ?_
    exact W.iret hx hb hr (fun t ht _ => ⟨⟨_, f_refused, rfl, h, hPt hP ht⟩, hS.F ht⟩) hS.2.2 dX9_loud_51
  have h := h.1 hc
  refine lv_aload_n hx hb dX9_loud_14 rfl (lv_at hl 0 rfl) ?_
  refine lv_iconst (v := (-1)) hx hb dX9_loud_15 (by decide) ?_
  refine rw_i (rwV S hE hT hS hP hD hA (c_X9_refuse h) [0, 1] rfl (by decide +kernel) lkX9_59 rfl ⟨(Nat.le_of_ble_eq_true rfl), (Nat.le_of_ble_eq_true rfl)⟩ 0 rfl rfl hl.1 rfl (Nat.le_of_ble_eq_true rfl) dX9_loud_16 ⟨(Nat.zero_le _), (Nat.zero_le _)⟩) hP hD hS hA [0, 1] rfl (by decide +kernel) (fun _ => rfl) (fun r16 w16_0 H locs h hP hD hS => ?_)
  try dsimp only at h
  have hP : va_P D vwCl (wX9_loud cI cJ cS a_o a_refused a_road a_road_stretches a_road_stretches_kinds z_kept z_ahead z_shelves z_cutting z_acting z_road_cars z_road_tunes z_road_demands z_road_stretches_spaces z_road_stretches_others z_road_stretches_times v_imaged v_lastFault w16_0 v_road_drawSeed v_road_stretches_stretchCount f_road_stretches_kinds) H := hP
  have hD : va_D A (wX9_loud cI cJ cS a_o a_refused a_road a_road_stretches a_road_stretches_kinds z_kept z_ahead z_shelves z_cutting z_acting z_road_cars z_road_tunes z_road_demands z_road_stretches_spaces z_road_stretches_others z_road_stretches_times v_imaged v_lastFault w16_0 v_road_drawSeed v_road_stretches_stretchCount f_road_stretches_kinds) := hD
  exact W.iret hx hb hr (fun t ht _ => ⟨⟨_, w16_0, rfl, h, hPt hP ht⟩, hS.F ht⟩) hS.2.2 dX9_loud_19
