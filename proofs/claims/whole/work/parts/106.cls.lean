/-! X5_demand -/
abbrev wX5_demand (cI cJ cS : ClassId) (a_o a_demands : Nat) (z_stretches z_cars z_tunes : Value) (v_drawSeed : Int32) (f_demands : Nat → Int32) : va_W := [(a_o, .inr (4, [z_stretches, z_cars, z_tunes, .ref a_demands, .int v_drawSeed])), (a_demands, .inl (cI, 4, .inl f_demands))]
def F_X5_demand (f_demands : Nat → Int32) (x1 : Int32) (x2 : Int32) (post : (Nat → Int32) → Prop) : Prop := (F_X9_mayBeAsked x1 x2 (fun r2 => ((r2 = 0 → post f_demands) ∧ (¬ r2 = 0 → (vp_in x1 4 ∧ post (upd f_demands x1.toNatClampNeg x2))))))
set_option maxHeartbeats 4000000 in
set_option maxRecDepth 100000 in
theorem c_X5_demand {l : Launch} {D : va_G} {cI cJ cS : ClassId} {ad adK : Nat → Nat} {a_o a_demands : Nat} {z_stretches z_cars z_tunes : Value} {v_drawSeed : Int32} {f_demands : Nat → Int32} {x1 : Int32} {x2 : Int32} {post : (Nat → Int32) → Prop} (h : F_X5_demand f_demands x1 x2 post) {sz : Nat} : Met l yX5_demand (Cond.code yX5_demand cX5_demand 3 none :: GW) (rmd 2 0 0) (PW D cI cJ cS ad adK [.ref a_o, .int x1, .int x2] (wX5_demand cI cJ cS a_o a_demands z_stretches z_cars z_tunes v_drawSeed f_demands) sz) (va_Qv (fun u : (Nat → Int32) => post u) (fun u t => va_P D vwCl (wX5_demand cI cJ cS a_o a_demands z_stretches z_cars z_tunes v_drawSeed u) t.heap) (va_A (wX5_demand cI cJ cS a_o a_demands z_stretches z_cars z_tunes v_drawSeed f_demands) sz)) 0 0 (va_A (wX5_demand cI cJ cS a_o a_demands z_stretches z_cars z_tunes v_drawSeed f_demands) sz) := by
  refine Met.rw (Qc := fun A => (va_Qv (fun u : (Nat → Int32) => post u) (fun u t => va_P D vwCl (wX5_demand cI cJ cS a_o a_demands z_stretches z_cars z_tunes v_drawSeed u) t.heap) A)) (by decide) (Nat.le_of_ble_eq_true rfl) (fun p e s m args below meth c ls A (S : CallFix p m c cX5_demand 3 s args GW "RoadThatSings$Road") hE hT hP hD hA hS hr hlocks hname hl => ?_)
  have hS0 := hS
  have hx := S.1
  have hb := S.2.1
  have hl : lv_has ls 3 [(0, .ref a_o), (1, .int x1), (2, .int x2)] := hl
  unfold F_X5_demand at h
  refine lv_iload_n hx hb dX5_demand_0 rfl (lv_at hl 1 rfl) ?_
  refine lv_iload_n hx hb dX5_demand_1 rfl (lv_at hl 2 rfl) ?_
  refine ro_i (roSN S hE hT hS (c_X9_mayBeAsked h) lkX5_60 rfl ⟨(Nat.le_of_ble_eq_true rfl), (Nat.le_of_ble_eq_true rfl)⟩ (hP.sub [] rfl) hl.1 rfl (Nat.le_of_ble_eq_true rfl) dX5_demand_2 ⟨(Nat.zero_le _), (Nat.zero_le _)⟩) (fun r2 h => ?_)
  refine lv_if_eq (tgt := 15) hx hb dX5_demand_5 (by decide) (fun hc => ?_) (fun hc => ?_)
  · have h := h.1 hc
    exact W.vret hx hb hr (fun t ht _ => ⟨⟨f_demands, rfl, h, hPt hP ht⟩, hS.F ht⟩) hS.2.2 dX5_demand_15
  have h := h.2 hc
  refine lv_aload_n hx hb dX5_demand_8 rfl (lv_at hl 0 rfl) ?_
  refine gf S hE hP 0 rfl rfl inX5 (k := 3) (by decide) q103 rfl dX5_demand_9 ?_
  refine lv_iload_n hx hb dX5_demand_12 rfl (lv_at hl 1 rfl) ?_
  refine lv_iload_n hx hb dX5_demand_13 rfl (lv_at hl 2 rfl) ?_
  obtain ⟨hi, h⟩ := h
  refine ias S hE hP hD hS 1 rfl hi dX5_demand_14 (fun H locs hP hD hS => ?_)
  have hP : va_P D vwCl (wX5_demand cI cJ cS a_o a_demands z_stretches z_cars z_tunes v_drawSeed (upd f_demands x1.toNatClampNeg x2)) H := hP
  have hD : va_D A (wX5_demand cI cJ cS a_o a_demands z_stretches z_cars z_tunes v_drawSeed (upd f_demands x1.toNatClampNeg x2)) := hD
  exact W.vret hx hb hr (fun t ht _ => ⟨⟨(upd f_demands x1.toNatClampNeg x2), rfl, h, hPt hP ht⟩, hS.F ht⟩) hS.2.2 dX5_demand_15
/-! X4_readDemand -/
abbrev wX4_readDemand (cI cJ cS : ClassId) (a_o a_text a_text_elements a_told a_told_demands : Nat) (z_told_stretches z_told_cars z_told_tunes : Value) (v_at : Int32) (v_faultAt : Int32) (v_text_held : Int32) (v_text_sort : Int32) (v_text_elementCount : Int32) (v_text_stretchNumber : Int32) (g_text_elements : Nat → Int64) (v_told_drawSeed : Int32) (f_told_demands : Nat → Int32) : va_W := [(a_o, .inr (3, [.ref a_text, .ref a_told, .int v_at, .int v_faultAt])), (a_text, .inr (5, [.ref a_text_elements, .int v_text_held, .int v_text_sort, .int v_text_elementCount, .int v_text_stretchNumber])), (a_text_elements, .inl (cJ, 160, .inr (.inl g_text_elements))), (a_told, .inr (4, [z_told_stretches, z_told_cars, z_told_tunes, .ref a_told_demands, .int v_told_drawSeed])), (a_told_demands, .inl (cI, 4, .inl f_told_demands))]
def F_X4_readDemand (v_at : Int32) (v_faultAt : Int32) (v_text_elementCount : Int32) (g_text_elements : Nat → Int64) (f_told_demands : Nat → Int32) (x1 : Int32) (post : Int32 → Int32 → Int32 → (Nat → Int32) → Prop) : Prop := (F_X9_within x1 0 3 (fun r3 => ((r3 = 0 → (F_X4_failAt v_faultAt v_at (fun r14 w14_0 => (vb r14 ∧ post r14 v_at w14_0 f_told_demands)))) ∧ (¬ r3 = 0 → (vp_in x1 4 ∧ (vp_in x1 4 ∧ (F_X4_readNumber v_at v_faultAt v_text_elementCount g_text_elements (tbLEAST_ASKED.getD x1.toNatClampNeg 0) (tbMOST_ASKED.getD x1.toNatClampNeg 0) (fun r29 w29_0 w29_1 => ((r29 = (-1) → post 0 w29_0 w29_1 f_told_demands) ∧ (¬ r29 = (-1) → (F_X5_demand f_told_demands x1 r29 (fun w46_0 => post 1 w29_0 w29_1 w46_0))))))))))))
set_option maxHeartbeats 4000000 in
set_option maxRecDepth 100000 in
theorem c_X4_readDemand {l : Launch} {D : va_G} {cI cJ cS : ClassId} {ad adK : Nat → Nat} {a_o a_text a_text_elements a_told a_told_demands : Nat} {z_told_stretches z_told_cars z_told_tunes : Value} {v_at : Int32} {v_faultAt : Int32} {v_text_held : Int32} {v_text_sort : Int32} {v_text_elementCount : Int32} {v_text_stretchNumber : Int32} {g_text_elements : Nat → Int64} {v_told_drawSeed : Int32} {f_told_demands : Nat → Int32} {x1 : Int32} {post : Int32 → Int32 → Int32 → (Nat → Int32) → Prop} (h : F_X4_readDemand v_at v_faultAt v_text_elementCount g_text_elements f_told_demands x1 post) {sz : Nat} : Met l yX4_readDemand (Cond.code yX4_readDemand cX4_readDemand 3 (some (.boolean)) :: GW) (rmd 3 0 0) (PW D cI cJ cS ad adK [.ref a_o, .int x1] (wX4_readDemand cI cJ cS a_o a_text a_text_elements a_told a_told_demands z_told_stretches z_told_cars z_told_tunes v_at v_faultAt v_text_held v_text_sort v_text_elementCount v_text_stretchNumber g_text_elements v_told_drawSeed f_told_demands) sz) (va_Qi (fun r (u : Int32 × Int32 × (Nat → Int32)) => post r u.1 u.2.1 u.2.2) (fun u t => va_P D vwCl (wX4_readDemand cI cJ cS a_o a_text a_text_elements a_told a_told_demands z_told_stretches z_told_cars z_told_tunes u.1 u.2.1 v_text_held v_text_sort v_text_elementCount v_text_stretchNumber g_text_elements v_told_drawSeed u.2.2) t.heap) (va_A (wX4_readDemand cI cJ cS a_o a_text a_text_elements a_told a_told_demands z_told_stretches z_told_cars z_told_tunes v_at v_faultAt v_text_held v_text_sort v_text_elementCount v_text_stretchNumber g_text_elements v_told_drawSeed f_told_demands) sz)) 0 0 (va_A (wX4_readDemand cI cJ cS a_o a_text a_text_elements a_told a_told_demands z_told_stretches z_told_cars z_told_tunes v_at v_faultAt v_text_held v_text_sort v_text_elementCount v_text_stretchNumber g_text_elements v_told_drawSeed f_told_demands) sz) := by
  refine Met.rw (Qc := fun A => (va_Qi (fun r (u : Int32 × Int32 × (Nat → Int32)) => post r u.1 u.2.1 u.2.2) (fun u t => va_P D vwCl (wX4_readDemand cI cJ cS a_o a_text a_text_elements a_told a_told_demands z_told_stretches z_told_cars z_told_tunes u.1 u.2.1 v_text_held v_text_sort v_text_elementCount v_text_stretchNumber g_text_elements v_told_drawSeed u.2.2) t.heap) A)) (by decide) (Nat.le_of_ble_eq_true rfl) (fun p e s m args below meth c ls A (S : CallFix p m c cX4_readDemand 3 s args GW "RoadThatSings$Reader") hE hT hP hD hA hS hr hlocks hname hl => ?_)
  have hS0 := hS
  have hx := S.1
  have hb := S.2.1
  have hl : lv_has ls 3 [(0, .ref a_o), (1, .int x1)] := hl
  unfold F_X4_readDemand at h
  refine lv_iload_n hx hb dX4_readDemand_0 rfl (lv_at hl 1 rfl) ?_
  refine lv_iconst (v := 0) hx hb dX4_readDemand_1 (by decide) ?_
  refine lv_iconst (v := 3) hx hb dX4_readDemand_2 (by decide) ?_
  refine ro_i (roSN S hE hT hS (c_X9_within h) lkX4_145 rfl ⟨(Nat.le_of_ble_eq_true rfl), (Nat.le_of_ble_eq_true rfl)⟩ (hP.sub [] rfl) hl.1 rfl (Nat.le_of_ble_eq_true rfl) dX4_readDemand_3 ⟨(Nat.zero_le _), (Nat.zero_le _)⟩) (fun r3 h => ?_)
  refine lv_if_ne (tgt := 18) hx hb dX4_readDemand_6 (by decide) (fun hc => ?_) (fun hc => ?_)
  · have h := h.2 hc
    refine lv_aload_n hx hb dX4_readDemand_18 rfl (lv_at hl 0 rfl) ?_
    refine gsAN S hE hT hS stm_LEAST_ASKED nfX4_149 dX4_readDemand_19 (fun t19 ht19 => ?_)
    refine lv_iload_n hx hb dX4_readDemand_22 rfl (lv_at hl 1 rfl) ?_
    obtain ⟨hi, h⟩ := h
    refine tal S hS ht19 hi dX4_readDemand_23 ?_
    refine gsAN S hE hT hS stm_MOST_ASKED nfX4_153 dX4_readDemand_24 (fun t24 ht24 => ?_)
    refine lv_iload_n hx hb dX4_readDemand_27 rfl (lv_at hl 1 rfl) ?_
    obtain ⟨hi, h⟩ := h
    refine tal S hS ht24 hi dX4_readDemand_28 ?_
    refine rw_i (rwV S hE hT hS hP hD hA (c_X4_readNumber h) [0, 1, 2] rfl (by decide +kernel) lkX4_124 rfl ⟨(Nat.le_of_ble_eq_true rfl), (Nat.le_of_ble_eq_true rfl)⟩ 0 rfl rfl hl.1 rfl (Nat.le_of_ble_eq_true rfl) dX4_readDemand_29 ⟨(Nat.zero_le _), (Nat.zero_le _)⟩) hP hD hS hA [0, 1, 2] rfl (by decide +kernel) (fun _ => rfl) (fun r29 u29 H locs h hP hD hS => ?_)
    obtain ⟨w29_0, w29_1⟩ := u29
    try dsimp only at h
    have hP : va_P D vwCl (wX4_readDemand cI cJ cS a_o a_text a_text_elements a_told a_told_demands z_told_stretches z_told_cars z_told_tunes w29_0 w29_1 v_text_held v_text_sort v_text_elementCount v_text_stretchNumber g_text_elements v_told_drawSeed f_told_demands) H := hP
    have hD : va_D A (wX4_readDemand cI cJ cS a_o a_text a_text_elements a_told a_told_demands z_told_stretches z_told_cars z_told_tunes w29_0 w29_1 v_text_held v_text_sort v_text_elementCount v_text_stretchNumber g_text_elements v_told_drawSeed f_told_demands) := hD
    refine lv_istore_n (lv' := [(2, .int r29), (0, .ref a_o), (1, .int x1)]) hx hb dX4_readDemand_32 rfl hl (by decide) rfl (fun ls hl => ?_)
    refine lv_iload_n hx hb dX4_readDemand_33 rfl (lv_at hl 0 rfl) ?_
    refine lv_iconst (v := (-1)) hx hb dX4_readDemand_34 (by decide) ?_
    refine lv_icmp_ne (tgt := 40) hx hb dX4_readDemand_35 (by decide) (fun hc => ?_) (fun hc => ?_)
    · have h := h.2 hc
      refine lv_aload_n hx hb dX4_readDemand_40 rfl (lv_at hl 1 rfl) ?_
      refine gf S hE hP 0 rfl rfl inX4 (k := 1) (by decide) q575 rfl dX4_readDemand_41 ?_
      refine lv_iload_n hx hb dX4_readDemand_44 rfl (lv_at hl 2 rfl) ?_
      refine lv_iload_n hx hb dX4_readDemand_45 rfl (lv_at hl 0 rfl) ?_
      refine rw_v (rwV S hE hT hS hP hD hA (c_X5_demand h) [3, 4] rfl (by decide +kernel) lkX4_156 rfl ⟨(Nat.le_of_ble_eq_true rfl), (Nat.le_of_ble_eq_true rfl)⟩ 3 rfl rfl hl.1 rfl (Nat.le_of_ble_eq_true rfl) dX4_readDemand_46 ⟨(Nat.zero_le _), (Nat.zero_le _)⟩) hP hD hS hA [3, 4] rfl (by decide +kernel) (fun _ => rfl) (fun w46_0 H locs h hP hD hS => ?_)
      try dsimp only at h
      have hP : va_P D vwCl (wX4_readDemand cI cJ cS a_o a_text a_text_elements a_told a_told_demands z_told_stretches z_told_cars z_told_tunes w29_0 w29_1 v_text_held v_text_sort v_text_elementCount v_text_stretchNumber g_text_elements v_told_drawSeed w46_0) H := hP
      have hD : va_D A (wX4_readDemand cI cJ cS a_o a_text a_text_elements a_told a_told_demands z_told_stretches z_told_cars z_told_tunes w29_0 w29_1 v_text_held v_text_sort v_text_elementCount v_text_stretchNumber g_text_elements v_told_drawSeed w46_0) := hD
      refine lv_iconst (v := 1) hx hb dX4_readDemand_49 (by decide) ?_
      exact W.zret hx hb hr rfl (fun t ht _ => ⟨⟨_, (w29_0, w29_1, w46_0), rfl, h, hPt hP ht⟩, hS.F ht⟩) hS.2.2 dX4_readDemand_50
    have h := h.1 hc
    refine lv_iconst (v := 0) hx hb dX4_readDemand_38 (by decide) ?_
    exact W.zret hx hb hr rfl (fun t ht _ => ⟨⟨_, (w29_0, w29_1, f_told_demands), rfl, h, hPt hP ht⟩, hS.F ht⟩) hS.2.2 dX4_readDemand_39
  have h := h.1 hc
  refine lv_aload_n hx hb dX4_readDemand_9 rfl (lv_at hl 0 rfl) ?_
  refine lv_aload_n hx hb dX4_readDemand_10 rfl (lv_at hl 0 rfl) ?_
  refine gf S hE hP 0 rfl rfl inX4 (k := 2) (by decide) q576 rfl dX4_readDemand_11 ?_
  refine rw_i (rwV S hE hT hS hP hD hA (c_X4_failAt h) [0] rfl (by decide +kernel) lkX4_48 rfl ⟨(Nat.le_of_ble_eq_true rfl), (Nat.le_of_ble_eq_true rfl)⟩ 0 rfl rfl hl.1 rfl (Nat.le_of_ble_eq_true rfl) dX4_readDemand_14 ⟨(Nat.zero_le _), (Nat.zero_le _)⟩) hP hD hS hA [0] rfl (by decide +kernel) (fun _ => rfl) (fun r14 w14_0 H locs h hP hD hS => ?_)
  try dsimp only at h
  have hP : va_P D vwCl (wX4_readDemand cI cJ cS a_o a_text a_text_elements a_told a_told_demands z_told_stretches z_told_cars z_told_tunes v_at w14_0 v_text_held v_text_sort v_text_elementCount v_text_stretchNumber g_text_elements v_told_drawSeed f_told_demands) H := hP
  have hD : va_D A (wX4_readDemand cI cJ cS a_o a_text a_text_elements a_told a_told_demands z_told_stretches z_told_cars z_told_tunes v_at w14_0 v_text_held v_text_sort v_text_elementCount v_text_stretchNumber g_text_elements v_told_drawSeed f_told_demands) := hD
  exact W.zret hx hb hr h.1 (fun t ht _ => ⟨⟨_, (v_at, w14_0, f_told_demands), rfl, h.2, hPt hP ht⟩, hS.F ht⟩) hS.2.2 dX4_readDemand_17
/-! X7_become -/
abbrev wX7_become (cI cJ cS : ClassId) (a_o a_kinds a_others a_p1 a_p1_kinds a_p1_others a_p1_spaces a_p1_times a_spaces a_times : Nat) (v_stretchCount : Int32) (f_kinds : Nat → Int32) (f_others : Nat → Int32) (v_p1_stretchCount : Int32) (f_p1_kinds : Nat → Int32) (f_p1_others : Nat → Int32) (f_p1_spaces : Nat → Int32) (f_p1_times : Nat → Int32) (f_spaces : Nat → Int32) (f_times : Nat → Int32) : va_W := [(a_o, .inr (6, [.ref a_kinds, .ref a_spaces, .ref a_others, .ref a_times, .int v_stretchCount])), (a_kinds, .inl (cI, 16, .inl f_kinds)), (a_others, .inl (cI, 16, .inl f_others)), (a_p1, .inr (6, [.ref a_p1_kinds, .ref a_p1_spaces, .ref a_p1_others, .ref a_p1_times, .int v_p1_stretchCount])), (a_p1_kinds, .inl (cI, 16, .inl f_p1_kinds)), (a_p1_others, .inl (cI, 16, .inl f_p1_others)), (a_p1_spaces, .inl (cI, 16, .inl f_p1_spaces)), (a_p1_times, .inl (cI, 16, .inl f_p1_times)), (a_spaces, .inl (cI, 16, .inl f_spaces)), (a_times, .inl (cI, 16, .inl f_times))]
def F_X7_become (v_stretchCount : Int32) (f_kinds : Nat → Int32) (f_others : Nat → Int32) (v_p1_stretchCount : Int32) (f_p1_kinds : Nat → Int32) (f_p1_others : Nat → Int32) (f_p1_spaces : Nat → Int32) (f_p1_times : Nat → Int32) (f_spaces : Nat → Int32) (f_times : Nat → Int32) (post : Int32 → (Nat → Int32) → (Nat → Int32) → (Nat → Int32) → (Nat → Int32) → Prop) : Prop := post v_p1_stretchCount (va_cpy f_p1_kinds f_kinds (0 : Int32).toNatClampNeg (0 : Int32).toNatClampNeg (16 : Int32).toNatClampNeg) (va_cpy f_p1_others f_others (0 : Int32).toNatClampNeg (0 : Int32).toNatClampNeg (16 : Int32).toNatClampNeg) (va_cpy f_p1_spaces f_spaces (0 : Int32).toNatClampNeg (0 : Int32).toNatClampNeg (16 : Int32).toNatClampNeg) (va_cpy f_p1_times f_times (0 : Int32).toNatClampNeg (0 : Int32).toNatClampNeg (16 : Int32).toNatClampNeg)
set_option maxHeartbeats 4000000 in
set_option maxRecDepth 100000 in
theorem c_X7_become {l : Launch} {D : va_G} {cI cJ cS : ClassId} {ad adK : Nat → Nat} {a_o a_kinds a_others a_p1 a_p1_kinds a_p1_others a_p1_spaces a_p1_times a_spaces a_times : Nat} {v_stretchCount : Int32} {f_kinds : Nat → Int32} {f_others : Nat → Int32} {v_p1_stretchCount : Int32} {f_p1_kinds : Nat → Int32} {f_p1_others : Nat → Int32} {f_p1_spaces : Nat → Int32} {f_p1_times : Nat → Int32} {f_spaces : Nat → Int32} {f_times : Nat → Int32} {post : Int32 → (Nat → Int32) → (Nat → Int32) → (Nat → Int32) → (Nat → Int32) → Prop} (h : F_X7_become v_stretchCount f_kinds f_others v_p1_stretchCount f_p1_kinds f_p1_others f_p1_spaces f_p1_times f_spaces f_times post) {sz : Nat} : Met l yX7_become (Cond.code yX7_become cX7_become 2 none :: GW) (rmd 1 0 0) (PW D cI cJ cS ad adK [.ref a_o, .ref a_p1] (wX7_become cI cJ cS a_o a_kinds a_others a_p1 a_p1_kinds a_p1_others a_p1_spaces a_p1_times a_spaces a_times v_stretchCount f_kinds f_others v_p1_stretchCount f_p1_kinds f_p1_others f_p1_spaces f_p1_times f_spaces f_times) sz) (va_Qv (fun u : Int32 × (Nat → Int32) × (Nat → Int32) × (Nat → Int32) × (Nat → Int32) => post u.1 u.2.1 u.2.2.1 u.2.2.2.1 u.2.2.2.2) (fun u t => va_P D vwCl (wX7_become cI cJ cS a_o a_kinds a_others a_p1 a_p1_kinds a_p1_others a_p1_spaces a_p1_times a_spaces a_times u.1 u.2.1 u.2.2.1 v_p1_stretchCount f_p1_kinds f_p1_others f_p1_spaces f_p1_times u.2.2.2.1 u.2.2.2.2) t.heap) (va_A (wX7_become cI cJ cS a_o a_kinds a_others a_p1 a_p1_kinds a_p1_others a_p1_spaces a_p1_times a_spaces a_times v_stretchCount f_kinds f_others v_p1_stretchCount f_p1_kinds f_p1_others f_p1_spaces f_p1_times f_spaces f_times) sz)) 0 0 (va_A (wX7_become cI cJ cS a_o a_kinds a_others a_p1 a_p1_kinds a_p1_others a_p1_spaces a_p1_times a_spaces a_times v_stretchCount f_kinds f_others v_p1_stretchCount f_p1_kinds f_p1_others f_p1_spaces f_p1_times f_spaces f_times) sz) := by
  refine Met.rw (Qc := fun A => (va_Qv (fun u : Int32 × (Nat → Int32) × (Nat → Int32) × (Nat → Int32) × (Nat → Int32) => post u.1 u.2.1 u.2.2.1 u.2.2.2.1 u.2.2.2.2) (fun u t => va_P D vwCl (wX7_become cI cJ cS a_o a_kinds a_others a_p1 a_p1_kinds a_p1_others a_p1_spaces a_p1_times a_spaces a_times u.1 u.2.1 u.2.2.1 v_p1_stretchCount f_p1_kinds f_p1_others f_p1_spaces f_p1_times u.2.2.2.1 u.2.2.2.2) t.heap) A)) (by decide) (Nat.le_of_ble_eq_true rfl) (fun p e s m args below meth c ls A (S : CallFix p m c cX7_become 2 s args GW "RoadThatSings$Stretches") hE hT hP hD hA hS hr hlocks hname hl => ?_)
  have hS0 := hS
  have hx := S.1
  have hb := S.2.1
  have hl : lv_has ls 2 [(0, .ref a_o), (1, .ref a_p1)] := hl
  unfold F_X7_become at h
  refine lv_aload_n hx hb dX7_become_0 rfl (lv_at hl 1 rfl) ?_
  refine gf S hE hP 3 rfl rfl inX7 (k := 0) (by decide) q38 rfl dX7_become_1 ?_
  refine lv_iconst (v := 0) hx hb dX7_become_4 (by decide) ?_
  refine lv_aload_n hx hb dX7_become_5 rfl (lv_at hl 0 rfl) ?_
  refine gf S hE hP 0 rfl rfl inX7 (k := 0) (by decide) q38 rfl dX7_become_6 ?_
  refine lv_iconst (v := 0) hx hb dX7_become_9 (by decide) ?_
  refine lv_bipush (v := 16) hx hb dX7_become_10 (by decide) ?_
  refine acpi S hE hP hD hS hl.1 4 1 rfl rfl q556 q289 q288 q12 (by decide) (by decide) (by decide) (by decide) (by decide) (Nat.le_of_ble_eq_true rfl) (Nat.le_of_ble_eq_true rfl) dX7_become_12 (fun H locs hP hD hS => ?_)
  have hP : va_P D vwCl (wX7_become cI cJ cS a_o a_kinds a_others a_p1 a_p1_kinds a_p1_others a_p1_spaces a_p1_times a_spaces a_times v_stretchCount (va_cpy f_p1_kinds f_kinds (0 : Int32).toNatClampNeg (0 : Int32).toNatClampNeg (16 : Int32).toNatClampNeg) f_others v_p1_stretchCount f_p1_kinds f_p1_others f_p1_spaces f_p1_times f_spaces f_times) H := hP
  have hD : va_D A (wX7_become cI cJ cS a_o a_kinds a_others a_p1 a_p1_kinds a_p1_others a_p1_spaces a_p1_times a_spaces a_times v_stretchCount (va_cpy f_p1_kinds f_kinds (0 : Int32).toNatClampNeg (0 : Int32).toNatClampNeg (16 : Int32).toNatClampNeg) f_others v_p1_stretchCount f_p1_kinds f_p1_others f_p1_spaces f_p1_times f_spaces f_times) := hD
  refine lv_aload_n hx hb dX7_become_15 rfl (lv_at hl 1 rfl) ?_
  refine gf S hE hP 3 rfl rfl inX7 (k := 1) (by decide) q39 rfl dX7_become_16 ?_
  refine lv_iconst (v := 0) hx hb dX7_become_19 (by decide) ?_
  refine lv_aload_n hx hb dX7_become_20 rfl (lv_at hl 0 rfl) ?_
  refine gf S hE hP 0 rfl rfl inX7 (k := 1) (by decide) q39 rfl dX7_become_21 ?_
  refine lv_iconst (v := 0) hx hb dX7_become_24 (by decide) ?_
  refine lv_bipush (v := 16) hx hb dX7_become_25 (by decide) ?_
  refine acpi S hE hP hD hS hl.1 6 8 rfl rfl q556 q289 q288 q12 (by decide) (by decide) (by decide) (by decide) (by decide) (Nat.le_of_ble_eq_true rfl) (Nat.le_of_ble_eq_true rfl) dX7_become_27 (fun H locs hP hD hS => ?_)
  have hP : va_P D vwCl (wX7_become cI cJ cS a_o a_kinds a_others a_p1 a_p1_kinds a_p1_others a_p1_spaces a_p1_times a_spaces a_times v_stretchCount (va_cpy f_p1_kinds f_kinds (0 : Int32).toNatClampNeg (0 : Int32).toNatClampNeg (16 : Int32).toNatClampNeg) f_others v_p1_stretchCount f_p1_kinds f_p1_others f_p1_spaces f_p1_times (va_cpy f_p1_spaces f_spaces (0 : Int32).toNatClampNeg (0 : Int32).toNatClampNeg (16 : Int32).toNatClampNeg) f_times) H := hP
  have hD : va_D A (wX7_become cI cJ cS a_o a_kinds a_others a_p1 a_p1_kinds a_p1_others a_p1_spaces a_p1_times a_spaces a_times v_stretchCount (va_cpy f_p1_kinds f_kinds (0 : Int32).toNatClampNeg (0 : Int32).toNatClampNeg (16 : Int32).toNatClampNeg) f_others v_p1_stretchCount f_p1_kinds f_p1_others f_p1_spaces f_p1_times (va_cpy f_p1_spaces f_spaces (0 : Int32).toNatClampNeg (0 : Int32).toNatClampNeg (16 : Int32).toNatClampNeg) f_times) := hD
  refine lv_aload_n hx hb dX7_become_30 rfl (lv_at hl 1 rfl) ?_
  refine gf S hE hP 3 rfl rfl inX7 (k := 2) (by decide) q40 rfl dX7_become_31 ?_
  refine lv_iconst (v := 0) hx hb dX7_become_34 (by decide) ?_
  refine lv_aload_n hx hb dX7_become_35 rfl (lv_at hl 0 rfl) ?_
  refine gf S hE hP 0 rfl rfl inX7 (k := 2) (by decide) q40 rfl dX7_become_36 ?_
  refine lv_iconst (v := 0) hx hb dX7_become_39 (by decide) ?_
  refine lv_bipush (v := 16) hx hb dX7_become_40 (by decide) ?_
  refine acpi S hE hP hD hS hl.1 5 2 rfl rfl q556 q289 q288 q12 (by decide) (by decide) (by decide) (by decide) (by decide) (Nat.le_of_ble_eq_true rfl) (Nat.le_of_ble_eq_true rfl) dX7_become_42 (fun H locs hP hD hS => ?_)
  have hP : va_P D vwCl (wX7_become cI cJ cS a_o a_kinds a_others a_p1 a_p1_kinds a_p1_others a_p1_spaces a_p1_times a_spaces a_times v_stretchCount (va_cpy f_p1_kinds f_kinds (0 : Int32).toNatClampNeg (0 : Int32).toNatClampNeg (16 : Int32).toNatClampNeg) (va_cpy f_p1_others f_others (0 : Int32).toNatClampNeg (0 : Int32).toNatClampNeg (16 : Int32).toNatClampNeg) v_p1_stretchCount f_p1_kinds f_p1_others f_p1_spaces f_p1_times (va_cpy f_p1_spaces f_spaces (0 : Int32).toNatClampNeg (0 : Int32).toNatClampNeg (16 : Int32).toNatClampNeg) f_times) H := hP
  have hD : va_D A (wX7_become cI cJ cS a_o a_kinds a_others a_p1 a_p1_kinds a_p1_others a_p1_spaces a_p1_times a_spaces a_times v_stretchCount (va_cpy f_p1_kinds f_kinds (0 : Int32).toNatClampNeg (0 : Int32).toNatClampNeg (16 : Int32).toNatClampNeg) (va_cpy f_p1_others f_others (0 : Int32).toNatClampNeg (0 : Int32).toNatClampNeg (16 : Int32).toNatClampNeg) v_p1_stretchCount f_p1_kinds f_p1_others f_p1_spaces f_p1_times (va_cpy f_p1_spaces f_spaces (0 : Int32).toNatClampNeg (0 : Int32).toNatClampNeg (16 : Int32).toNatClampNeg) f_times) := hD
  refine lv_aload_n hx hb dX7_become_45 rfl (lv_at hl 1 rfl) ?_
  refine gf S hE hP 3 rfl rfl inX7 (k := 3) (by decide) q41 rfl dX7_become_46 ?_
  refine lv_iconst (v := 0) hx hb dX7_become_49 (by decide) ?_
  refine lv_aload_n hx hb dX7_become_50 rfl (lv_at hl 0 rfl) ?_
  refine gf S hE hP 0 rfl rfl inX7 (k := 3) (by decide) q41 rfl dX7_become_51 ?_
  refine lv_iconst (v := 0) hx hb dX7_become_54 (by decide) ?_
  refine lv_bipush (v := 16) hx hb dX7_become_55 (by decide) ?_
  refine acpi S hE hP hD hS hl.1 7 9 rfl rfl q556 q289 q288 q12 (by decide) (by decide) (by decide) (by decide) (by decide) (Nat.le_of_ble_eq_true rfl) (Nat.le_of_ble_eq_true rfl) dX7_become_57 (fun H locs hP hD hS => ?_)
  have hP : va_P D vwCl (wX7_become cI cJ cS a_o a_kinds a_others a_p1 a_p1_kinds a_p1_others a_p1_spaces a_p1_times a_spaces a_times v_stretchCount (va_cpy f_p1_kinds f_kinds (0 : Int32).toNatClampNeg (0 : Int32).toNatClampNeg (16 : Int32).toNatClampNeg) (va_cpy f_p1_others f_others (0 : Int32).toNatClampNeg (0 : Int32).toNatClampNeg (16 : Int32).toNatClampNeg) v_p1_stretchCount f_p1_kinds f_p1_others f_p1_spaces f_p1_times (va_cpy f_p1_spaces f_spaces (0 : Int32).toNatClampNeg (0 : Int32).toNatClampNeg (16 : Int32).toNatClampNeg) (va_cpy f_p1_times f_times (0 : Int32).toNatClampNeg (0 : Int32).toNatClampNeg (16 : Int32).toNatClampNeg)) H := hP
  have hD : va_D A (wX7_become cI cJ cS a_o a_kinds a_others a_p1 a_p1_kinds a_p1_others a_p1_spaces a_p1_times a_spaces a_times v_stretchCount (va_cpy f_p1_kinds f_kinds (0 : Int32).toNatClampNeg (0 : Int32).toNatClampNeg (16 : Int32).toNatClampNeg) (va_cpy f_p1_others f_others (0 : Int32).toNatClampNeg (0 : Int32).toNatClampNeg (16 : Int32).toNatClampNeg) v_p1_stretchCount f_p1_kinds f_p1_others f_p1_spaces f_p1_times (va_cpy f_p1_spaces f_spaces (0 : Int32).toNatClampNeg (0 : Int32).toNatClampNeg (16 : Int32).toNatClampNeg) (va_cpy f_p1_times f_times (0 : Int32).toNatClampNeg (0 : Int32).toNatClampNeg (16 : Int32).toNatClampNeg)) := hD
  refine lv_aload_n hx hb dX7_become_60 rfl (lv_at hl 0 rfl) ?_
  refine lv_aload_n hx hb dX7_become_61 rfl (lv_at hl 1 rfl) ?_
  refine gf S hE hP 3 rfl rfl inX7 (k := 4) (by decide) q42 rfl dX7_become_62 ?_
  refine pf S hE hP hD hS 0 (k := 4) rfl rfl inX7 tyX7_ok nmX7 (by decide) q42 rfl rfl rfl (Nat.le_of_ble_eq_true rfl) dX7_become_65 (fun H locs hP hD hS => ?_)
  have hP : va_P D vwCl (wX7_become cI cJ cS a_o a_kinds a_others a_p1 a_p1_kinds a_p1_others a_p1_spaces a_p1_times a_spaces a_times v_p1_stretchCount (va_cpy f_p1_kinds f_kinds (0 : Int32).toNatClampNeg (0 : Int32).toNatClampNeg (16 : Int32).toNatClampNeg) (va_cpy f_p1_others f_others (0 : Int32).toNatClampNeg (0 : Int32).toNatClampNeg (16 : Int32).toNatClampNeg) v_p1_stretchCount f_p1_kinds f_p1_others f_p1_spaces f_p1_times (va_cpy f_p1_spaces f_spaces (0 : Int32).toNatClampNeg (0 : Int32).toNatClampNeg (16 : Int32).toNatClampNeg) (va_cpy f_p1_times f_times (0 : Int32).toNatClampNeg (0 : Int32).toNatClampNeg (16 : Int32).toNatClampNeg)) H := hP
  have hD : va_D A (wX7_become cI cJ cS a_o a_kinds a_others a_p1 a_p1_kinds a_p1_others a_p1_spaces a_p1_times a_spaces a_times v_p1_stretchCount (va_cpy f_p1_kinds f_kinds (0 : Int32).toNatClampNeg (0 : Int32).toNatClampNeg (16 : Int32).toNatClampNeg) (va_cpy f_p1_others f_others (0 : Int32).toNatClampNeg (0 : Int32).toNatClampNeg (16 : Int32).toNatClampNeg) v_p1_stretchCount f_p1_kinds f_p1_others f_p1_spaces f_p1_times (va_cpy f_p1_spaces f_spaces (0 : Int32).toNatClampNeg (0 : Int32).toNatClampNeg (16 : Int32).toNatClampNeg) (va_cpy f_p1_times f_times (0 : Int32).toNatClampNeg (0 : Int32).toNatClampNeg (16 : Int32).toNatClampNeg)) := hD
  exact W.vret hx hb hr (fun t ht _ => ⟨⟨(v_p1_stretchCount, (va_cpy f_p1_kinds f_kinds (0 : Int32).toNatClampNeg (0 : Int32).toNatClampNeg (16 : Int32).toNatClampNeg), (va_cpy f_p1_others f_others (0 : Int32).toNatClampNeg (0 : Int32).toNatClampNeg (16 : Int32).toNatClampNeg), (va_cpy f_p1_spaces f_spaces (0 : Int32).toNatClampNeg (0 : Int32).toNatClampNeg (16 : Int32).toNatClampNeg), (va_cpy f_p1_times f_times (0 : Int32).toNatClampNeg (0 : Int32).toNatClampNeg (16 : Int32).toNatClampNeg)), rfl, h, hPt hP ht⟩, hS.F ht⟩) hS.2.2 dX7_become_68
/-! X8_become -/
abbrev wX8_become (cI cJ cS : ClassId) (a_o a_beats a_noteCounts a_p1 a_p1_beats a_p1_noteCounts a_p1_pitches a_pitches : Nat) (v_tuneCount : Int32) (f_beats : Nat → Int32) (f_noteCounts : Nat → Int32) (v_p1_tuneCount : Int32) (f_p1_beats : Nat → Int32) (f_p1_noteCounts : Nat → Int32) (f_p1_pitches : Nat → Int32) (f_pitches : Nat → Int32) : va_W := [(a_o, .inr (7, [.ref a_pitches, .ref a_beats, .ref a_noteCounts, .int v_tuneCount])), (a_beats, .inl (cI, 72, .inl f_beats)), (a_noteCounts, .inl (cI, 6, .inl f_noteCounts)), (a_p1, .inr (7, [.ref a_p1_pitches, .ref a_p1_beats, .ref a_p1_noteCounts, .int v_p1_tuneCount])), (a_p1_beats, .inl (cI, 72, .inl f_p1_beats)), (a_p1_noteCounts, .inl (cI, 6, .inl f_p1_noteCounts)), (a_p1_pitches, .inl (cI, 72, .inl f_p1_pitches)), (a_pitches, .inl (cI, 72, .inl f_pitches))]
def F_X8_become (v_tuneCount : Int32) (f_beats : Nat → Int32) (f_noteCounts : Nat → Int32) (v_p1_tuneCount : Int32) (f_p1_beats : Nat → Int32) (f_p1_noteCounts : Nat → Int32) (f_p1_pitches : Nat → Int32) (f_pitches : Nat → Int32) (post : Int32 → (Nat → Int32) → (Nat → Int32) → (Nat → Int32) → Prop) : Prop := post v_p1_tuneCount (va_cpy f_p1_beats f_beats (0 : Int32).toNatClampNeg (0 : Int32).toNatClampNeg (72 : Int32).toNatClampNeg) (va_cpy f_p1_noteCounts f_noteCounts (0 : Int32).toNatClampNeg (0 : Int32).toNatClampNeg (6 : Int32).toNatClampNeg) (va_cpy f_p1_pitches f_pitches (0 : Int32).toNatClampNeg (0 : Int32).toNatClampNeg (72 : Int32).toNatClampNeg)
set_option maxHeartbeats 4000000 in
set_option maxRecDepth 100000 in
theorem c_X8_become {l : Launch} {D : va_G} {cI cJ cS : ClassId} {ad adK : Nat → Nat} {a_o a_beats a_noteCounts a_p1 a_p1_beats a_p1_noteCounts a_p1_pitches a_pitches : Nat} {v_tuneCount : Int32} {f_beats : Nat → Int32} {f_noteCounts : Nat → Int32} {v_p1_tuneCount : Int32} {f_p1_beats : Nat → Int32} {f_p1_noteCounts : Nat → Int32} {f_p1_pitches : Nat → Int32} {f_pitches : Nat → Int32} {post : Int32 → (Nat → Int32) → (Nat → Int32) → (Nat → Int32) → Prop} (h : F_X8_become v_tuneCount f_beats f_noteCounts v_p1_tuneCount f_p1_beats f_p1_noteCounts f_p1_pitches f_pitches post) {sz : Nat} : Met l yX8_become (Cond.code yX8_become cX8_become 2 none :: GW) (rmd 1 0 0) (PW D cI cJ cS ad adK [.ref a_o, .ref a_p1] (wX8_become cI cJ cS a_o a_beats a_noteCounts a_p1 a_p1_beats a_p1_noteCounts a_p1_pitches a_pitches v_tuneCount f_beats f_noteCounts v_p1_tuneCount f_p1_beats f_p1_noteCounts f_p1_pitches f_pitches) sz) (va_Qv (fun u : Int32 × (Nat → Int32) × (Nat → Int32) × (Nat → Int32) => post u.1 u.2.1 u.2.2.1 u.2.2.2) (fun u t => va_P D vwCl (wX8_become cI cJ cS a_o a_beats a_noteCounts a_p1 a_p1_beats a_p1_noteCounts a_p1_pitches a_pitches u.1 u.2.1 u.2.2.1 v_p1_tuneCount f_p1_beats f_p1_noteCounts f_p1_pitches u.2.2.2) t.heap) (va_A (wX8_become cI cJ cS a_o a_beats a_noteCounts a_p1 a_p1_beats a_p1_noteCounts a_p1_pitches a_pitches v_tuneCount f_beats f_noteCounts v_p1_tuneCount f_p1_beats f_p1_noteCounts f_p1_pitches f_pitches) sz)) 0 0 (va_A (wX8_become cI cJ cS a_o a_beats a_noteCounts a_p1 a_p1_beats a_p1_noteCounts a_p1_pitches a_pitches v_tuneCount f_beats f_noteCounts v_p1_tuneCount f_p1_beats f_p1_noteCounts f_p1_pitches f_pitches) sz) := by
  refine Met.rw (Qc := fun A => (va_Qv (fun u : Int32 × (Nat → Int32) × (Nat → Int32) × (Nat → Int32) => post u.1 u.2.1 u.2.2.1 u.2.2.2) (fun u t => va_P D vwCl (wX8_become cI cJ cS a_o a_beats a_noteCounts a_p1 a_p1_beats a_p1_noteCounts a_p1_pitches a_pitches u.1 u.2.1 u.2.2.1 v_p1_tuneCount f_p1_beats f_p1_noteCounts f_p1_pitches u.2.2.2) t.heap) A)) (by decide) (Nat.le_of_ble_eq_true rfl) (fun p e s m args below meth c ls A (S : CallFix p m c cX8_become 2 s args GW "RoadThatSings$Tunes") hE hT hP hD hA hS hr hlocks hname hl => ?_)
  have hS0 := hS
  have hx := S.1
  have hb := S.2.1
  have hl : lv_has ls 2 [(0, .ref a_o), (1, .ref a_p1)] := hl
  unfold F_X8_become at h
  refine lv_aload_n hx hb dX8_become_0 rfl (lv_at hl 1 rfl) ?_
  refine gf S hE hP 3 rfl rfl inX8 (k := 0) (by decide) q80 rfl dX8_become_1 ?_
  refine lv_iconst (v := 0) hx hb dX8_become_4 (by decide) ?_
  refine lv_aload_n hx hb dX8_become_5 rfl (lv_at hl 0 rfl) ?_
  refine gf S hE hP 0 rfl rfl inX8 (k := 0) (by decide) q80 rfl dX8_become_6 ?_
  refine lv_iconst (v := 0) hx hb dX8_become_9 (by decide) ?_
  refine lv_bipush (v := 72) hx hb dX8_become_10 (by decide) ?_
  refine acpi S hE hP hD hS hl.1 6 7 rfl rfl q566 q289 q288 q12 (by decide) (by decide) (by decide) (by decide) (by decide) (Nat.le_of_ble_eq_true rfl) (Nat.le_of_ble_eq_true rfl) dX8_become_12 (fun H locs hP hD hS => ?_)
  have hP : va_P D vwCl (wX8_become cI cJ cS a_o a_beats a_noteCounts a_p1 a_p1_beats a_p1_noteCounts a_p1_pitches a_pitches v_tuneCount f_beats f_noteCounts v_p1_tuneCount f_p1_beats f_p1_noteCounts f_p1_pitches (va_cpy f_p1_pitches f_pitches (0 : Int32).toNatClampNeg (0 : Int32).toNatClampNeg (72 : Int32).toNatClampNeg)) H := hP
  have hD : va_D A (wX8_become cI cJ cS a_o a_beats a_noteCounts a_p1 a_p1_beats a_p1_noteCounts a_p1_pitches a_pitches v_tuneCount f_beats f_noteCounts v_p1_tuneCount f_p1_beats f_p1_noteCounts f_p1_pitches (va_cpy f_p1_pitches f_pitches (0 : Int32).toNatClampNeg (0 : Int32).toNatClampNeg (72 : Int32).toNatClampNeg)) := hD
  refine lv_aload_n hx hb dX8_become_15 rfl (lv_at hl 1 rfl) ?_
  refine gf S hE hP 3 rfl rfl inX8 (k := 1) (by decide) q81 rfl dX8_become_16 ?_
  refine lv_iconst (v := 0) hx hb dX8_become_19 (by decide) ?_
  refine lv_aload_n hx hb dX8_become_20 rfl (lv_at hl 0 rfl) ?_
  refine gf S hE hP 0 rfl rfl inX8 (k := 1) (by decide) q81 rfl dX8_become_21 ?_
  refine lv_iconst (v := 0) hx hb dX8_become_24 (by decide) ?_
  refine lv_bipush (v := 72) hx hb dX8_become_25 (by decide) ?_
  refine acpi S hE hP hD hS hl.1 4 1 rfl rfl q566 q289 q288 q12 (by decide) (by decide) (by decide) (by decide) (by decide) (Nat.le_of_ble_eq_true rfl) (Nat.le_of_ble_eq_true rfl) dX8_become_27 (fun H locs hP hD hS => ?_)
  have hP : va_P D vwCl (wX8_become cI cJ cS a_o a_beats a_noteCounts a_p1 a_p1_beats a_p1_noteCounts a_p1_pitches a_pitches v_tuneCount (va_cpy f_p1_beats f_beats (0 : Int32).toNatClampNeg (0 : Int32).toNatClampNeg (72 : Int32).toNatClampNeg) f_noteCounts v_p1_tuneCount f_p1_beats f_p1_noteCounts f_p1_pitches (va_cpy f_p1_pitches f_pitches (0 : Int32).toNatClampNeg (0 : Int32).toNatClampNeg (72 : Int32).toNatClampNeg)) H := hP
  have hD : va_D A (wX8_become cI cJ cS a_o a_beats a_noteCounts a_p1 a_p1_beats a_p1_noteCounts a_p1_pitches a_pitches v_tuneCount (va_cpy f_p1_beats f_beats (0 : Int32).toNatClampNeg (0 : Int32).toNatClampNeg (72 : Int32).toNatClampNeg) f_noteCounts v_p1_tuneCount f_p1_beats f_p1_noteCounts f_p1_pitches (va_cpy f_p1_pitches f_pitches (0 : Int32).toNatClampNeg (0 : Int32).toNatClampNeg (72 : Int32).toNatClampNeg)) := hD
  refine lv_aload_n hx hb dX8_become_30 rfl (lv_at hl 1 rfl) ?_
  refine gf S hE hP 3 rfl rfl inX8 (k := 2) (by decide) q82 rfl dX8_become_31 ?_
  refine lv_iconst (v := 0) hx hb dX8_become_34 (by decide) ?_
  refine lv_aload_n hx hb dX8_become_35 rfl (lv_at hl 0 rfl) ?_
  refine gf S hE hP 0 rfl rfl inX8 (k := 2) (by decide) q82 rfl dX8_become_36 ?_
  refine lv_iconst (v := 0) hx hb dX8_become_39 (by decide) ?_
  refine lv_bipush (v := 6) hx hb dX8_become_40 (by decide) ?_
  refine acpi S hE hP hD hS hl.1 5 2 rfl rfl q566 q289 q288 q12 (by decide) (by decide) (by decide) (by decide) (by decide) (Nat.le_of_ble_eq_true rfl) (Nat.le_of_ble_eq_true rfl) dX8_become_42 (fun H locs hP hD hS => ?_)
  have hP : va_P D vwCl (wX8_become cI cJ cS a_o a_beats a_noteCounts a_p1 a_p1_beats a_p1_noteCounts a_p1_pitches a_pitches v_tuneCount (va_cpy f_p1_beats f_beats (0 : Int32).toNatClampNeg (0 : Int32).toNatClampNeg (72 : Int32).toNatClampNeg) (va_cpy f_p1_noteCounts f_noteCounts (0 : Int32).toNatClampNeg (0 : Int32).toNatClampNeg (6 : Int32).toNatClampNeg) v_p1_tuneCount f_p1_beats f_p1_noteCounts f_p1_pitches (va_cpy f_p1_pitches f_pitches (0 : Int32).toNatClampNeg (0 : Int32).toNatClampNeg (72 : Int32).toNatClampNeg)) H := hP
  have hD : va_D A (wX8_become cI cJ cS a_o a_beats a_noteCounts a_p1 a_p1_beats a_p1_noteCounts a_p1_pitches a_pitches v_tuneCount (va_cpy f_p1_beats f_beats (0 : Int32).toNatClampNeg (0 : Int32).toNatClampNeg (72 : Int32).toNatClampNeg) (va_cpy f_p1_noteCounts f_noteCounts (0 : Int32).toNatClampNeg (0 : Int32).toNatClampNeg (6 : Int32).toNatClampNeg) v_p1_tuneCount f_p1_beats f_p1_noteCounts f_p1_pitches (va_cpy f_p1_pitches f_pitches (0 : Int32).toNatClampNeg (0 : Int32).toNatClampNeg (72 : Int32).toNatClampNeg)) := hD
  refine lv_aload_n hx hb dX8_become_45 rfl (lv_at hl 0 rfl) ?_
  refine lv_aload_n hx hb dX8_become_46 rfl (lv_at hl 1 rfl) ?_
  refine gf S hE hP 3 rfl rfl inX8 (k := 3) (by decide) q83 rfl dX8_become_47 ?_
  refine pf S hE hP hD hS 0 (k := 3) rfl rfl inX8 tyX8_ok nmX8 (by decide) q83 rfl rfl rfl (Nat.le_of_ble_eq_true rfl) dX8_become_50 (fun H locs hP hD hS => ?_)
  have hP : va_P D vwCl (wX8_become cI cJ cS a_o a_beats a_noteCounts a_p1 a_p1_beats a_p1_noteCounts a_p1_pitches a_pitches v_p1_tuneCount (va_cpy f_p1_beats f_beats (0 : Int32).toNatClampNeg (0 : Int32).toNatClampNeg (72 : Int32).toNatClampNeg) (va_cpy f_p1_noteCounts f_noteCounts (0 : Int32).toNatClampNeg (0 : Int32).toNatClampNeg (6 : Int32).toNatClampNeg) v_p1_tuneCount f_p1_beats f_p1_noteCounts f_p1_pitches (va_cpy f_p1_pitches f_pitches (0 : Int32).toNatClampNeg (0 : Int32).toNatClampNeg (72 : Int32).toNatClampNeg)) H := hP
  have hD : va_D A (wX8_become cI cJ cS a_o a_beats a_noteCounts a_p1 a_p1_beats a_p1_noteCounts a_p1_pitches a_pitches v_p1_tuneCount (va_cpy f_p1_beats f_beats (0 : Int32).toNatClampNeg (0 : Int32).toNatClampNeg (72 : Int32).toNatClampNeg) (va_cpy f_p1_noteCounts f_noteCounts (0 : Int32).toNatClampNeg (0 : Int32).toNatClampNeg (6 : Int32).toNatClampNeg) v_p1_tuneCount f_p1_beats f_p1_noteCounts f_p1_pitches (va_cpy f_p1_pitches f_pitches (0 : Int32).toNatClampNeg (0 : Int32).toNatClampNeg (72 : Int32).toNatClampNeg)) := hD
  exact W.vret hx hb hr (fun t ht _ => ⟨⟨(v_p1_tuneCount, (va_cpy f_p1_beats f_beats (0 : Int32).toNatClampNeg (0 : Int32).toNatClampNeg (72 : Int32).toNatClampNeg), (va_cpy f_p1_noteCounts f_noteCounts (0 : Int32).toNatClampNeg (0 : Int32).toNatClampNeg (6 : Int32).toNatClampNeg), (va_cpy f_p1_pitches f_pitches (0 : Int32).toNatClampNeg (0 : Int32).toNatClampNeg (72 : Int32).toNatClampNeg)), rfl, h, hPt hP ht⟩, hS.F ht⟩) hS.2.2 dX8_become_53
/-! X5_become -/
abbrev wX5_become (cI cJ cS : ClassId) (a_o a_cars a_cars_bases a_cars_shares a_cars_speeds a_demands a_p1 a_p1_cars a_p1_cars_bases a_p1_cars_shares a_p1_cars_speeds a_p1_demands a_p1_stretches a_p1_stretches_kinds a_p1_stretches_others a_p1_stretches_spaces a_p1_stretches_times a_p1_tunes a_p1_tunes_beats a_p1_tunes_noteCounts a_p1_tunes_pitches a_stretches a_stretches_kinds a_stretches_others a_stretches_spaces a_stretches_times a_tunes a_tunes_beats a_tunes_noteCounts a_tunes_pitches : Nat) (v_drawSeed : Int32) (v_cars_carCount : Int32) (f_cars_bases : Nat → Int32) (f_cars_shares : Nat → Int32) (f_cars_speeds : Nat → Int32) (f_demands : Nat → Int32) (v_p1_drawSeed : Int32) (v_p1_cars_carCount : Int32) (f_p1_cars_bases : Nat → Int32) (f_p1_cars_shares : Nat → Int32) (f_p1_cars_speeds : Nat → Int32) (f_p1_demands : Nat → Int32) (v_p1_stretches_stretchCount : Int32) (f_p1_stretches_kinds : Nat → Int32) (f_p1_stretches_others : Nat → Int32) (f_p1_stretches_spaces : Nat → Int32) (f_p1_stretches_times : Nat → Int32) (v_p1_tunes_tuneCount : Int32) (f_p1_tunes_beats : Nat → Int32) (f_p1_tunes_noteCounts : Nat → Int32) (f_p1_tunes_pitches : Nat → Int32) (v_stretches_stretchCount : Int32) (f_stretches_kinds : Nat → Int32) (f_stretches_others : Nat → Int32) (f_stretches_spaces : Nat → Int32) (f_stretches_times : Nat → Int32) (v_tunes_tuneCount : Int32) (f_tunes_beats : Nat → Int32) (f_tunes_noteCounts : Nat → Int32) (f_tunes_pitches : Nat → Int32) : va_W := [(a_o, .inr (4, [.ref a_stretches, .ref a_cars, .ref a_tunes, .ref a_demands, .int v_drawSeed])), (a_cars, .inr (1, [.ref a_cars_speeds, .ref a_cars_bases, .ref a_cars_shares, .int v_cars_carCount])), (a_cars_bases, .inl (cI, 6, .inl f_cars_bases)), (a_cars_shares, .inl (cI, 6, .inl f_cars_shares)), (a_cars_speeds, .inl (cI, 6, .inl f_cars_speeds)), (a_demands, .inl (cI, 4, .inl f_demands)), (a_p1, .inr (4, [.ref a_p1_stretches, .ref a_p1_cars, .ref a_p1_tunes, .ref a_p1_demands, .int v_p1_drawSeed])), (a_p1_cars, .inr (1, [.ref a_p1_cars_speeds, .ref a_p1_cars_bases, .ref a_p1_cars_shares, .int v_p1_cars_carCount])), (a_p1_cars_bases, .inl (cI, 6, .inl f_p1_cars_bases)), (a_p1_cars_shares, .inl (cI, 6, .inl f_p1_cars_shares)), (a_p1_cars_speeds, .inl (cI, 6, .inl f_p1_cars_speeds)), (a_p1_demands, .inl (cI, 4, .inl f_p1_demands)), (a_p1_stretches, .inr (6, [.ref a_p1_stretches_kinds, .ref a_p1_stretches_spaces, .ref a_p1_stretches_others, .ref a_p1_stretches_times, .int v_p1_stretches_stretchCount])), (a_p1_stretches_kinds, .inl (cI, 16, .inl f_p1_stretches_kinds)), (a_p1_stretches_others, .inl (cI, 16, .inl f_p1_stretches_others)), (a_p1_stretches_spaces, .inl (cI, 16, .inl f_p1_stretches_spaces)), (a_p1_stretches_times, .inl (cI, 16, .inl f_p1_stretches_times)), (a_p1_tunes, .inr (7, [.ref a_p1_tunes_pitches, .ref a_p1_tunes_beats, .ref a_p1_tunes_noteCounts, .int v_p1_tunes_tuneCount])), (a_p1_tunes_beats, .inl (cI, 72, .inl f_p1_tunes_beats)), (a_p1_tunes_noteCounts, .inl (cI, 6, .inl f_p1_tunes_noteCounts)), (a_p1_tunes_pitches, .inl (cI, 72, .inl f_p1_tunes_pitches)), (a_stretches, .inr (6, [.ref a_stretches_kinds, .ref a_stretches_spaces, .ref a_stretches_others, .ref a_stretches_times, .int v_stretches_stretchCount])), (a_stretches_kinds, .inl (cI, 16, .inl f_stretches_kinds)), (a_stretches_others, .inl (cI, 16, .inl f_stretches_others)), (a_stretches_spaces, .inl (cI, 16, .inl f_stretches_spaces)), (a_stretches_times, .inl (cI, 16, .inl f_stretches_times)), (a_tunes, .inr (7, [.ref a_tunes_pitches, .ref a_tunes_beats, .ref a_tunes_noteCounts, .int v_tunes_tuneCount])), (a_tunes_beats, .inl (cI, 72, .inl f_tunes_beats)), (a_tunes_noteCounts, .inl (cI, 6, .inl f_tunes_noteCounts)), (a_tunes_pitches, .inl (cI, 72, .inl f_tunes_pitches))]
def F_X5_become (v_drawSeed : Int32) (v_cars_carCount : Int32) (f_cars_bases : Nat → Int32) (f_cars_shares : Nat → Int32) (f_cars_speeds : Nat → Int32) (f_demands : Nat → Int32) (v_p1_drawSeed : Int32) (v_p1_cars_carCount : Int32) (f_p1_cars_bases : Nat → Int32) (f_p1_cars_shares : Nat → Int32) (f_p1_cars_speeds : Nat → Int32) (f_p1_demands : Nat → Int32) (v_p1_stretches_stretchCount : Int32) (f_p1_stretches_kinds : Nat → Int32) (f_p1_stretches_others : Nat → Int32) (f_p1_stretches_spaces : Nat → Int32) (f_p1_stretches_times : Nat → Int32) (v_p1_tunes_tuneCount : Int32) (f_p1_tunes_beats : Nat → Int32) (f_p1_tunes_noteCounts : Nat → Int32) (f_p1_tunes_pitches : Nat → Int32) (v_stretches_stretchCount : Int32) (f_stretches_kinds : Nat → Int32) (f_stretches_others : Nat → Int32) (f_stretches_spaces : Nat → Int32) (f_stretches_times : Nat → Int32) (v_tunes_tuneCount : Int32) (f_tunes_beats : Nat → Int32) (f_tunes_noteCounts : Nat → Int32) (f_tunes_pitches : Nat → Int32) (post : Int32 → Int32 → (Nat → Int32) → (Nat → Int32) → (Nat → Int32) → (Nat → Int32) → Int32 → (Nat → Int32) → (Nat → Int32) → (Nat → Int32) → (Nat → Int32) → Int32 → (Nat → Int32) → (Nat → Int32) → (Nat → Int32) → Prop) : Prop := (F_X7_become v_stretches_stretchCount f_stretches_kinds f_stretches_others v_p1_stretches_stretchCount f_p1_stretches_kinds f_p1_stretches_others f_p1_stretches_spaces f_p1_stretches_times f_stretches_spaces f_stretches_times (fun w8_0 w8_1 w8_2 w8_3 w8_4 => (F_X1_become v_cars_carCount f_cars_bases v_p1_cars_carCount f_p1_cars_bases f_p1_cars_shares f_p1_cars_speeds f_cars_shares f_cars_speeds (fun w19_0 w19_1 w19_2 w19_3 => (F_X8_become v_tunes_tuneCount f_tunes_beats f_tunes_noteCounts v_p1_tunes_tuneCount f_p1_tunes_beats f_p1_tunes_noteCounts f_p1_tunes_pitches f_tunes_pitches (fun w30_0 w30_1 w30_2 w30_3 => post v_p1_drawSeed w19_0 w19_1 w19_2 w19_3 (va_cpy f_p1_demands f_demands (0 : Int32).toNatClampNeg (0 : Int32).toNatClampNeg (4 : Int32).toNatClampNeg) w8_0 w8_1 w8_2 w8_3 w8_4 w30_0 w30_1 w30_2 w30_3))))))
set_option maxHeartbeats 4000000 in
set_option maxRecDepth 100000 in
theorem c_X5_become {l : Launch} {D : va_G} {cI cJ cS : ClassId} {ad adK : Nat → Nat} {a_o a_cars a_cars_bases a_cars_shares a_cars_speeds a_demands a_p1 a_p1_cars a_p1_cars_bases a_p1_cars_shares a_p1_cars_speeds a_p1_demands a_p1_stretches a_p1_stretches_kinds a_p1_stretches_others a_p1_stretches_spaces a_p1_stretches_times a_p1_tunes a_p1_tunes_beats a_p1_tunes_noteCounts a_p1_tunes_pitches a_stretches a_stretches_kinds a_stretches_others a_stretches_spaces a_stretches_times a_tunes a_tunes_beats a_tunes_noteCounts a_tunes_pitches : Nat} {v_drawSeed : Int32} {v_cars_carCount : Int32} {f_cars_bases : Nat → Int32} {f_cars_shares : Nat → Int32} {f_cars_speeds : Nat → Int32} {f_demands : Nat → Int32} {v_p1_drawSeed : Int32} {v_p1_cars_carCount : Int32} {f_p1_cars_bases : Nat → Int32} {f_p1_cars_shares : Nat → Int32} {f_p1_cars_speeds : Nat → Int32} {f_p1_demands : Nat → Int32} {v_p1_stretches_stretchCount : Int32} {f_p1_stretches_kinds : Nat → Int32} {f_p1_stretches_others : Nat → Int32} {f_p1_stretches_spaces : Nat → Int32} {f_p1_stretches_times : Nat → Int32} {v_p1_tunes_tuneCount : Int32} {f_p1_tunes_beats : Nat → Int32} {f_p1_tunes_noteCounts : Nat → Int32} {f_p1_tunes_pitches : Nat → Int32} {v_stretches_stretchCount : Int32} {f_stretches_kinds : Nat → Int32} {f_stretches_others : Nat → Int32} {f_stretches_spaces : Nat → Int32} {f_stretches_times : Nat → Int32} {v_tunes_tuneCount : Int32} {f_tunes_beats : Nat → Int32} {f_tunes_noteCounts : Nat → Int32} {f_tunes_pitches : Nat → Int32} {post : Int32 → Int32 → (Nat → Int32) → (Nat → Int32) → (Nat → Int32) → (Nat → Int32) → Int32 → (Nat → Int32) → (Nat → Int32) → (Nat → Int32) → (Nat → Int32) → Int32 → (Nat → Int32) → (Nat → Int32) → (Nat → Int32) → Prop} (h : F_X5_become v_drawSeed v_cars_carCount f_cars_bases f_cars_shares f_cars_speeds f_demands v_p1_drawSeed v_p1_cars_carCount f_p1_cars_bases f_p1_cars_shares f_p1_cars_speeds f_p1_demands v_p1_stretches_stretchCount f_p1_stretches_kinds f_p1_stretches_others f_p1_stretches_spaces f_p1_stretches_times v_p1_tunes_tuneCount f_p1_tunes_beats f_p1_tunes_noteCounts f_p1_tunes_pitches v_stretches_stretchCount f_stretches_kinds f_stretches_others f_stretches_spaces f_stretches_times v_tunes_tuneCount f_tunes_beats f_tunes_noteCounts f_tunes_pitches post) {sz : Nat} : Met l yX5_become (Cond.code yX5_become cX5_become 2 none :: GW) (rmd 2 0 0) (PW D cI cJ cS ad adK [.ref a_o, .ref a_p1] (wX5_become cI cJ cS a_o a_cars a_cars_bases a_cars_shares a_cars_speeds a_demands a_p1 a_p1_cars a_p1_cars_bases a_p1_cars_shares a_p1_cars_speeds a_p1_demands a_p1_stretches a_p1_stretches_kinds a_p1_stretches_others a_p1_stretches_spaces a_p1_stretches_times a_p1_tunes a_p1_tunes_beats a_p1_tunes_noteCounts a_p1_tunes_pitches a_stretches a_stretches_kinds a_stretches_others a_stretches_spaces a_stretches_times a_tunes a_tunes_beats a_tunes_noteCounts a_tunes_pitches v_drawSeed v_cars_carCount f_cars_bases f_cars_shares f_cars_speeds f_demands v_p1_drawSeed v_p1_cars_carCount f_p1_cars_bases f_p1_cars_shares f_p1_cars_speeds f_p1_demands v_p1_stretches_stretchCount f_p1_stretches_kinds f_p1_stretches_others f_p1_stretches_spaces f_p1_stretches_times v_p1_tunes_tuneCount f_p1_tunes_beats f_p1_tunes_noteCounts f_p1_tunes_pitches v_stretches_stretchCount f_stretches_kinds f_stretches_others f_stretches_spaces f_stretches_times v_tunes_tuneCount f_tunes_beats f_tunes_noteCounts f_tunes_pitches) sz) (va_Qv (fun u : Int32 × Int32 × (Nat → Int32) × (Nat → Int32) × (Nat → Int32) × (Nat → Int32) × Int32 × (Nat → Int32) × (Nat → Int32) × (Nat → Int32) × (Nat → Int32) × Int32 × (Nat → Int32) × (Nat → Int32) × (Nat → Int32) => post u.1 u.2.1 u.2.2.1 u.2.2.2.1 u.2.2.2.2.1 u.2.2.2.2.2.1 u.2.2.2.2.2.2.1 u.2.2.2.2.2.2.2.1 u.2.2.2.2.2.2.2.2.1 u.2.2.2.2.2.2.2.2.2.1 u.2.2.2.2.2.2.2.2.2.2.1 u.2.2.2.2.2.2.2.2.2.2.2.1 u.2.2.2.2.2.2.2.2.2.2.2.2.1 u.2.2.2.2.2.2.2.2.2.2.2.2.2.1 u.2.2.2.2.2.2.2.2.2.2.2.2.2.2) (fun u t => va_P D vwCl (wX5_become cI cJ cS a_o a_cars a_cars_bases a_cars_shares a_cars_speeds a_demands a_p1 a_p1_cars a_p1_cars_bases a_p1_cars_shares a_p1_cars_speeds a_p1_demands a_p1_stretches a_p1_stretches_kinds a_p1_stretches_others a_p1_stretches_spaces a_p1_stretches_times a_p1_tunes a_p1_tunes_beats a_p1_tunes_noteCounts a_p1_tunes_pitches a_stretches a_stretches_kinds a_stretches_others a_stretches_spaces a_stretches_times a_tunes a_tunes_beats a_tunes_noteCounts a_tunes_pitches u.1 u.2.1 u.2.2.1 u.2.2.2.1 u.2.2.2.2.1 u.2.2.2.2.2.1 v_p1_drawSeed v_p1_cars_carCount f_p1_cars_bases f_p1_cars_shares f_p1_cars_speeds f_p1_demands v_p1_stretches_stretchCount f_p1_stretches_kinds f_p1_stretches_others f_p1_stretches_spaces f_p1_stretches_times v_p1_tunes_tuneCount f_p1_tunes_beats f_p1_tunes_noteCounts f_p1_tunes_pitches u.2.2.2.2.2.2.1 u.2.2.2.2.2.2.2.1 u.2.2.2.2.2.2.2.2.1 u.2.2.2.2.2.2.2.2.2.1 u.2.2.2.2.2.2.2.2.2.2.1 u.2.2.2.2.2.2.2.2.2.2.2.1 u.2.2.2.2.2.2.2.2.2.2.2.2.1 u.2.2.2.2.2.2.2.2.2.2.2.2.2.1 u.2.2.2.2.2.2.2.2.2.2.2.2.2.2) t.heap) (va_A (wX5_become cI cJ cS a_o a_cars a_cars_bases a_cars_shares a_cars_speeds a_demands a_p1 a_p1_cars a_p1_cars_bases a_p1_cars_shares a_p1_cars_speeds a_p1_demands a_p1_stretches a_p1_stretches_kinds a_p1_stretches_others a_p1_stretches_spaces a_p1_stretches_times a_p1_tunes a_p1_tunes_beats a_p1_tunes_noteCounts a_p1_tunes_pitches a_stretches a_stretches_kinds a_stretches_others a_stretches_spaces a_stretches_times a_tunes a_tunes_beats a_tunes_noteCounts a_tunes_pitches v_drawSeed v_cars_carCount f_cars_bases f_cars_shares f_cars_speeds f_demands v_p1_drawSeed v_p1_cars_carCount f_p1_cars_bases f_p1_cars_shares f_p1_cars_speeds f_p1_demands v_p1_stretches_stretchCount f_p1_stretches_kinds f_p1_stretches_others f_p1_stretches_spaces f_p1_stretches_times v_p1_tunes_tuneCount f_p1_tunes_beats f_p1_tunes_noteCounts f_p1_tunes_pitches v_stretches_stretchCount f_stretches_kinds f_stretches_others f_stretches_spaces f_stretches_times v_tunes_tuneCount f_tunes_beats f_tunes_noteCounts f_tunes_pitches) sz)) 0 0 (va_A (wX5_become cI cJ cS a_o a_cars a_cars_bases a_cars_shares a_cars_speeds a_demands a_p1 a_p1_cars a_p1_cars_bases a_p1_cars_shares a_p1_cars_speeds a_p1_demands a_p1_stretches a_p1_stretches_kinds a_p1_stretches_others a_p1_stretches_spaces a_p1_stretches_times a_p1_tunes a_p1_tunes_beats a_p1_tunes_noteCounts a_p1_tunes_pitches a_stretches a_stretches_kinds a_stretches_others a_stretches_spaces a_stretches_times a_tunes a_tunes_beats a_tunes_noteCounts a_tunes_pitches v_drawSeed v_cars_carCount f_cars_bases f_cars_shares f_cars_speeds f_demands v_p1_drawSeed v_p1_cars_carCount f_p1_cars_bases f_p1_cars_shares f_p1_cars_speeds f_p1_demands v_p1_stretches_stretchCount f_p1_stretches_kinds f_p1_stretches_others f_p1_stretches_spaces f_p1_stretches_times v_p1_tunes_tuneCount f_p1_tunes_beats f_p1_tunes_noteCounts f_p1_tunes_pitches v_stretches_stretchCount f_stretches_kinds f_stretches_others f_stretches_spaces f_stretches_times v_tunes_tuneCount f_tunes_beats f_tunes_noteCounts f_tunes_pitches) sz) := by
  refine Met.rw (Qc := fun A => (va_Qv (fun u : Int32 × Int32 × (Nat → Int32) × (Nat → Int32) × (Nat → Int32) × (Nat → Int32) × Int32 × (Nat → Int32) × (Nat → Int32) × (Nat → Int32) × (Nat → Int32) × Int32 × (Nat → Int32) × (Nat → Int32) × (Nat → Int32) => post u.1 u.2.1 u.2.2.1 u.2.2.2.1 u.2.2.2.2.1 u.2.2.2.2.2.1 u.2.2.2.2.2.2.1 u.2.2.2.2.2.2.2.1 u.2.2.2.2.2.2.2.2.1 u.2.2.2.2.2.2.2.2.2.1 u.2.2.2.2.2.2.2.2.2.2.1 u.2.2.2.2.2.2.2.2.2.2.2.1 u.2.2.2.2.2.2.2.2.2.2.2.2.1 u.2.2.2.2.2.2.2.2.2.2.2.2.2.1 u.2.2.2.2.2.2.2.2.2.2.2.2.2.2) (fun u t => va_P D vwCl (wX5_become cI cJ cS a_o a_cars a_cars_bases a_cars_shares a_cars_speeds a_demands a_p1 a_p1_cars a_p1_cars_bases a_p1_cars_shares a_p1_cars_speeds a_p1_demands a_p1_stretches a_p1_stretches_kinds a_p1_stretches_others a_p1_stretches_spaces a_p1_stretches_times a_p1_tunes a_p1_tunes_beats a_p1_tunes_noteCounts a_p1_tunes_pitches a_stretches a_stretches_kinds a_stretches_others a_stretches_spaces a_stretches_times a_tunes a_tunes_beats a_tunes_noteCounts a_tunes_pitches u.1 u.2.1 u.2.2.1 u.2.2.2.1 u.2.2.2.2.1 u.2.2.2.2.2.1 v_p1_drawSeed v_p1_cars_carCount f_p1_cars_bases f_p1_cars_shares f_p1_cars_speeds f_p1_demands v_p1_stretches_stretchCount f_p1_stretches_kinds f_p1_stretches_others f_p1_stretches_spaces f_p1_stretches_times v_p1_tunes_tuneCount f_p1_tunes_beats f_p1_tunes_noteCounts f_p1_tunes_pitches u.2.2.2.2.2.2.1 u.2.2.2.2.2.2.2.1 u.2.2.2.2.2.2.2.2.1 u.2.2.2.2.2.2.2.2.2.1 u.2.2.2.2.2.2.2.2.2.2.1 u.2.2.2.2.2.2.2.2.2.2.2.1 u.2.2.2.2.2.2.2.2.2.2.2.2.1 u.2.2.2.2.2.2.2.2.2.2.2.2.2.1 u.2.2.2.2.2.2.2.2.2.2.2.2.2.2) t.heap) A)) (by decide) (Nat.le_of_ble_eq_true rfl) (fun p e s m args below meth c ls A (S : CallFix p m c cX5_become 2 s args GW "RoadThatSings$Road") hE hT hP hD hA hS hr hlocks hname hl => ?_)
  have hS0 := hS
  have hx := S.1
  have hb := S.2.1
  have hl : lv_has ls 2 [(0, .ref a_o), (1, .ref a_p1)] := hl
  unfold F_X5_become at h
  refine lv_aload_n hx hb dX5_become_0 rfl (lv_at hl 0 rfl) ?_
  refine gf S hE hP 0 rfl rfl inX5 (k := 0) (by decide) q93 rfl dX5_become_1 ?_
  refine lv_aload_n hx hb dX5_become_4 rfl (lv_at hl 1 rfl) ?_
  refine gf S hE hP 6 rfl rfl inX5 (k := 0) (by decide) q93 rfl dX5_become_5 ?_
  refine rw_v (rwV S hE hT hS hP hD hA (c_X7_become h) [21, 22, 23, 12, 13, 14, 15, 16, 24, 25] rfl (by decide +kernel) lkX5_40 rfl ⟨(Nat.le_of_ble_eq_true rfl), (Nat.le_of_ble_eq_true rfl)⟩ 21 rfl rfl hl.1 rfl (Nat.le_of_ble_eq_true rfl) dX5_become_8 ⟨(Nat.zero_le _), (Nat.zero_le _)⟩) hP hD hS hA [21, 22, 23, 12, 13, 14, 15, 16, 24, 25] rfl (by decide +kernel) (fun _ => rfl) (fun u8 H locs h hP hD hS => ?_)
  obtain ⟨w8_0, w8_1, w8_2, w8_3, w8_4⟩ := u8
  try dsimp only at h
  have hP : va_P D vwCl (wX5_become cI cJ cS a_o a_cars a_cars_bases a_cars_shares a_cars_speeds a_demands a_p1 a_p1_cars a_p1_cars_bases a_p1_cars_shares a_p1_cars_speeds a_p1_demands a_p1_stretches a_p1_stretches_kinds a_p1_stretches_others a_p1_stretches_spaces a_p1_stretches_times a_p1_tunes a_p1_tunes_beats a_p1_tunes_noteCounts a_p1_tunes_pitches a_stretches a_stretches_kinds a_stretches_others a_stretches_spaces a_stretches_times a_tunes a_tunes_beats a_tunes_noteCounts a_tunes_pitches v_drawSeed v_cars_carCount f_cars_bases f_cars_shares f_cars_speeds f_demands v_p1_drawSeed v_p1_cars_carCount f_p1_cars_bases f_p1_cars_shares f_p1_cars_speeds f_p1_demands v_p1_stretches_stretchCount f_p1_stretches_kinds f_p1_stretches_others f_p1_stretches_spaces f_p1_stretches_times v_p1_tunes_tuneCount f_p1_tunes_beats f_p1_tunes_noteCounts f_p1_tunes_pitches w8_0 w8_1 w8_2 w8_3 w8_4 v_tunes_tuneCount f_tunes_beats f_tunes_noteCounts f_tunes_pitches) H := wsetP 30 [0, 1, 2, 3, 4, 5, 6, 7, 8, 9, 10, 11, 17, 18, 19, 20, 26, 27, 28, 29] hP rfl ⟨rfl, rfl, rfl, rfl, rfl, rfl, rfl, rfl, rfl, rfl, rfl, rfl, rfl, rfl, rfl, rfl, rfl, rfl, rfl, rfl, trivial⟩ rfl rfl (by decide +kernel) (by decide +kernel) (by decide +kernel)
  have hD : va_D A (wX5_become cI cJ cS a_o a_cars a_cars_bases a_cars_shares a_cars_speeds a_demands a_p1 a_p1_cars a_p1_cars_bases a_p1_cars_shares a_p1_cars_speeds a_p1_demands a_p1_stretches a_p1_stretches_kinds a_p1_stretches_others a_p1_stretches_spaces a_p1_stretches_times a_p1_tunes a_p1_tunes_beats a_p1_tunes_noteCounts a_p1_tunes_pitches a_stretches a_stretches_kinds a_stretches_others a_stretches_spaces a_stretches_times a_tunes a_tunes_beats a_tunes_noteCounts a_tunes_pitches v_drawSeed v_cars_carCount f_cars_bases f_cars_shares f_cars_speeds f_demands v_p1_drawSeed v_p1_cars_carCount f_p1_cars_bases f_p1_cars_shares f_p1_cars_speeds f_p1_demands v_p1_stretches_stretchCount f_p1_stretches_kinds f_p1_stretches_others f_p1_stretches_spaces f_p1_stretches_times v_p1_tunes_tuneCount f_p1_tunes_beats f_p1_tunes_noteCounts f_p1_tunes_pitches w8_0 w8_1 w8_2 w8_3 w8_4 v_tunes_tuneCount f_tunes_beats f_tunes_noteCounts f_tunes_pitches) := wsetD 30 [0, 1, 2, 3, 4, 5, 6, 7, 8, 9, 10, 11, 17, 18, 19, 20, 26, 27, 28, 29] hD rfl ⟨rfl, rfl, rfl, rfl, rfl, rfl, rfl, rfl, rfl, rfl, rfl, rfl, rfl, rfl, rfl, rfl, rfl, rfl, rfl, rfl, trivial⟩ rfl rfl (by decide +kernel) (by decide +kernel) (by decide +kernel)
  refine lv_aload_n hx hb dX5_become_11 rfl (lv_at hl 0 rfl) ?_
  refine gf S hE hP 0 rfl rfl inX5 (k := 1) (by decide) q96 rfl dX5_become_12 ?_
  refine lv_aload_n hx hb dX5_become_15 rfl (lv_at hl 1 rfl) ?_
  refine gf S hE hP 6 rfl rfl inX5 (k := 1) (by decide) q96 rfl dX5_become_16 ?_
  refine rw_v (rwV S hE hT hS hP hD hA (c_X1_become h) [1, 2, 7, 8, 9, 10, 3, 4] rfl (by decide +kernel) lkX5_44 rfl ⟨(Nat.le_of_ble_eq_true rfl), (Nat.le_of_ble_eq_true rfl)⟩ 1 rfl rfl hl.1 rfl (Nat.le_of_ble_eq_true rfl) dX5_become_19 ⟨(Nat.zero_le _), (Nat.zero_le _)⟩) hP hD hS hA [1, 2, 7, 8, 9, 10, 3, 4] rfl (by decide +kernel) (fun _ => rfl) (fun u19 H locs h hP hD hS => ?_)
  obtain ⟨w19_0, w19_1, w19_2, w19_3⟩ := u19
  try dsimp only at h
  have hP : va_P D vwCl (wX5_become cI cJ cS a_o a_cars a_cars_bases a_cars_shares a_cars_speeds a_demands a_p1 a_p1_cars a_p1_cars_bases a_p1_cars_shares a_p1_cars_speeds a_p1_demands a_p1_stretches a_p1_stretches_kinds a_p1_stretches_others a_p1_stretches_spaces a_p1_stretches_times a_p1_tunes a_p1_tunes_beats a_p1_tunes_noteCounts a_p1_tunes_pitches a_stretches a_stretches_kinds a_stretches_others a_stretches_spaces a_stretches_times a_tunes a_tunes_beats a_tunes_noteCounts a_tunes_pitches v_drawSeed w19_0 w19_1 w19_2 w19_3 f_demands v_p1_drawSeed v_p1_cars_carCount f_p1_cars_bases f_p1_cars_shares f_p1_cars_speeds f_p1_demands v_p1_stretches_stretchCount f_p1_stretches_kinds f_p1_stretches_others f_p1_stretches_spaces f_p1_stretches_times v_p1_tunes_tuneCount f_p1_tunes_beats f_p1_tunes_noteCounts f_p1_tunes_pitches w8_0 w8_1 w8_2 w8_3 w8_4 v_tunes_tuneCount f_tunes_beats f_tunes_noteCounts f_tunes_pitches) H := wsetP 30 [0, 5, 6, 11, 12, 13, 14, 15, 16, 17, 18, 19, 20, 21, 22, 23, 24, 25, 26, 27, 28, 29] hP rfl ⟨rfl, rfl, rfl, rfl, rfl, rfl, rfl, rfl, rfl, rfl, rfl, rfl, rfl, rfl, rfl, rfl, rfl, rfl, rfl, rfl, rfl, rfl, trivial⟩ rfl rfl (by decide +kernel) (by decide +kernel) (by decide +kernel)
  have hD : va_D A (wX5_become cI cJ cS a_o a_cars a_cars_bases a_cars_shares a_cars_speeds a_demands a_p1 a_p1_cars a_p1_cars_bases a_p1_cars_shares a_p1_cars_speeds a_p1_demands a_p1_stretches a_p1_stretches_kinds a_p1_stretches_others a_p1_stretches_spaces a_p1_stretches_times a_p1_tunes a_p1_tunes_beats a_p1_tunes_noteCounts a_p1_tunes_pitches a_stretches a_stretches_kinds a_stretches_others a_stretches_spaces a_stretches_times a_tunes a_tunes_beats a_tunes_noteCounts a_tunes_pitches v_drawSeed w19_0 w19_1 w19_2 w19_3 f_demands v_p1_drawSeed v_p1_cars_carCount f_p1_cars_bases f_p1_cars_shares f_p1_cars_speeds f_p1_demands v_p1_stretches_stretchCount f_p1_stretches_kinds f_p1_stretches_others f_p1_stretches_spaces f_p1_stretches_times v_p1_tunes_tuneCount f_p1_tunes_beats f_p1_tunes_noteCounts f_p1_tunes_pitches w8_0 w8_1 w8_2 w8_3 w8_4 v_tunes_tuneCount f_tunes_beats f_tunes_noteCounts f_tunes_pitches) := wsetD 30 [0, 5, 6, 11, 12, 13, 14, 15, 16, 17, 18, 19, 20, 21, 22, 23, 24, 25, 26, 27, 28, 29] hD rfl ⟨rfl, rfl, rfl, rfl, rfl, rfl, rfl, rfl, rfl, rfl, rfl, rfl, rfl, rfl, rfl, rfl, rfl, rfl, rfl, rfl, rfl, rfl, trivial⟩ rfl rfl (by decide +kernel) (by decide +kernel) (by decide +kernel)
  refine lv_aload_n hx hb dX5_become_22 rfl (lv_at hl 0 rfl) ?_
  refine gf S hE hP 0 rfl rfl inX5 (k := 2) (by decide) q99 rfl dX5_become_23 ?_
  refine lv_aload_n hx hb dX5_become_26 rfl (lv_at hl 1 rfl) ?_
  refine gf S hE hP 6 rfl rfl inX5 (k := 2) (by decide) q99 rfl dX5_become_27 ?_
  refine rw_v (rwV S hE hT hS hP hD hA (c_X8_become h) [26, 27, 28, 17, 18, 19, 20, 29] rfl (by decide +kernel) lkX5_47 rfl ⟨(Nat.le_of_ble_eq_true rfl), (Nat.le_of_ble_eq_true rfl)⟩ 26 rfl rfl hl.1 rfl (Nat.le_of_ble_eq_true rfl) dX5_become_30 ⟨(Nat.zero_le _), (Nat.zero_le _)⟩) hP hD hS hA [26, 27, 28, 17, 18, 19, 20, 29] rfl (by decide +kernel) (fun _ => rfl) (fun u30 H locs h hP hD hS => ?_)
  obtain ⟨w30_0, w30_1, w30_2, w30_3⟩ := u30
  try dsimp only at h
  have hP : va_P D vwCl (wX5_become cI cJ cS a_o a_cars a_cars_bases a_cars_shares a_cars_speeds a_demands a_p1 a_p1_cars a_p1_cars_bases a_p1_cars_shares a_p1_cars_speeds a_p1_demands a_p1_stretches a_p1_stretches_kinds a_p1_stretches_others a_p1_stretches_spaces a_p1_stretches_times a_p1_tunes a_p1_tunes_beats a_p1_tunes_noteCounts a_p1_tunes_pitches a_stretches a_stretches_kinds a_stretches_others a_stretches_spaces a_stretches_times a_tunes a_tunes_beats a_tunes_noteCounts a_tunes_pitches v_drawSeed w19_0 w19_1 w19_2 w19_3 f_demands v_p1_drawSeed v_p1_cars_carCount f_p1_cars_bases f_p1_cars_shares f_p1_cars_speeds f_p1_demands v_p1_stretches_stretchCount f_p1_stretches_kinds f_p1_stretches_others f_p1_stretches_spaces f_p1_stretches_times v_p1_tunes_tuneCount f_p1_tunes_beats f_p1_tunes_noteCounts f_p1_tunes_pitches w8_0 w8_1 w8_2 w8_3 w8_4 w30_0 w30_1 w30_2 w30_3) H := wsetP 30 [0, 1, 2, 3, 4, 5, 6, 7, 8, 9, 10, 11, 12, 13, 14, 15, 16, 21, 22, 23, 24, 25] hP rfl ⟨rfl, rfl, rfl, rfl, rfl, rfl, rfl, rfl, rfl, rfl, rfl, rfl, rfl, rfl, rfl, rfl, rfl, rfl, rfl, rfl, rfl, rfl, trivial⟩ rfl rfl (by decide +kernel) (by decide +kernel) (by decide +kernel)
  have hD : va_D A (wX5_become cI cJ cS a_o a_cars a_cars_bases a_cars_shares a_cars_speeds a_demands a_p1 a_p1_cars a_p1_cars_bases a_p1_cars_shares a_p1_cars_speeds a_p1_demands a_p1_stretches a_p1_stretches_kinds a_p1_stretches_others a_p1_stretches_spaces a_p1_stretches_times a_p1_tunes a_p1_tunes_beats a_p1_tunes_noteCounts a_p1_tunes_pitches a_stretches a_stretches_kinds a_stretches_others a_stretches_spaces a_stretches_times a_tunes a_tunes_beats a_tunes_noteCounts a_tunes_pitches v_drawSeed w19_0 w19_1 w19_2 w19_3 f_demands v_p1_drawSeed v_p1_cars_carCount f_p1_cars_bases f_p1_cars_shares f_p1_cars_speeds f_p1_demands v_p1_stretches_stretchCount f_p1_stretches_kinds f_p1_stretches_others f_p1_stretches_spaces f_p1_stretches_times v_p1_tunes_tuneCount f_p1_tunes_beats f_p1_tunes_noteCounts f_p1_tunes_pitches w8_0 w8_1 w8_2 w8_3 w8_4 w30_0 w30_1 w30_2 w30_3) := wsetD 30 [0, 1, 2, 3, 4, 5, 6, 7, 8, 9, 10, 11, 12, 13, 14, 15, 16, 21, 22, 23, 24, 25] hD rfl ⟨rfl, rfl, rfl, rfl, rfl, rfl, rfl, rfl, rfl, rfl, rfl, rfl, rfl, rfl, rfl, rfl, rfl, rfl, rfl, rfl, rfl, rfl, trivial⟩ rfl rfl (by decide +kernel) (by decide +kernel) (by decide +kernel)
  refine lv_aload_n hx hb dX5_become_33 rfl (lv_at hl 1 rfl) ?_
  refine gf S hE hP 6 rfl rfl inX5 (k := 3) (by decide) q103 rfl dX5_become_34 ?_
  refine lv_iconst (v := 0) hx hb dX5_become_37 (by decide) ?_
  refine lv_aload_n hx hb dX5_become_38 rfl (lv_at hl 0 rfl) ?_
  refine gf S hE hP 0 rfl rfl inX5 (k := 3) (by decide) q103 rfl dX5_become_39 ?_
  refine lv_iconst (v := 0) hx hb dX5_become_42 (by decide) ?_
  refine lv_iconst (v := 4) hx hb dX5_become_43 (by decide) ?_
  refine acpi S hE hP hD hS hl.1 11 5 rfl rfl q567 q289 q288 q12 (by decide) (by decide) (by decide) (by decide) (by decide) (Nat.le_of_ble_eq_true rfl) (Nat.le_of_ble_eq_true rfl) dX5_become_44 (fun H locs hP hD hS => ?_)
  have hP : va_P D vwCl (wX5_become cI cJ cS a_o a_cars a_cars_bases a_cars_shares a_cars_speeds a_demands a_p1 a_p1_cars a_p1_cars_bases a_p1_cars_shares a_p1_cars_speeds a_p1_demands a_p1_stretches a_p1_stretches_kinds a_p1_stretches_others a_p1_stretches_spaces a_p1_stretches_times a_p1_tunes a_p1_tunes_beats a_p1_tunes_noteCounts a_p1_tunes_pitches a_stretches a_stretches_kinds a_stretches_others a_stretches_spaces a_stretches_times a_tunes a_tunes_beats a_tunes_noteCounts a_tunes_pitches v_drawSeed w19_0 w19_1 w19_2 w19_3 (va_cpy f_p1_demands f_demands (0 : Int32).toNatClampNeg (0 : Int32).toNatClampNeg (4 : Int32).toNatClampNeg) v_p1_drawSeed v_p1_cars_carCount f_p1_cars_bases f_p1_cars_shares f_p1_cars_speeds f_p1_demands v_p1_stretches_stretchCount f_p1_stretches_kinds f_p1_stretches_others f_p1_stretches_spaces f_p1_stretches_times v_p1_tunes_tuneCount f_p1_tunes_beats f_p1_tunes_noteCounts f_p1_tunes_pitches w8_0 w8_1 w8_2 w8_3 w8_4 w30_0 w30_1 w30_2 w30_3) H := hP
  have hD : va_D A (wX5_become cI cJ cS a_o a_cars a_cars_bases a_cars_shares a_cars_speeds a_demands a_p1 a_p1_cars a_p1_cars_bases a_p1_cars_shares a_p1_cars_speeds a_p1_demands a_p1_stretches a_p1_stretches_kinds a_p1_stretches_others a_p1_stretches_spaces a_p1_stretches_times a_p1_tunes a_p1_tunes_beats a_p1_tunes_noteCounts a_p1_tunes_pitches a_stretches a_stretches_kinds a_stretches_others a_stretches_spaces a_stretches_times a_tunes a_tunes_beats a_tunes_noteCounts a_tunes_pitches v_drawSeed w19_0 w19_1 w19_2 w19_3 (va_cpy f_p1_demands f_demands (0 : Int32).toNatClampNeg (0 : Int32).toNatClampNeg (4 : Int32).toNatClampNeg) v_p1_drawSeed v_p1_cars_carCount f_p1_cars_bases f_p1_cars_shares f_p1_cars_speeds f_p1_demands v_p1_stretches_stretchCount f_p1_stretches_kinds f_p1_stretches_others f_p1_stretches_spaces f_p1_stretches_times v_p1_tunes_tuneCount f_p1_tunes_beats f_p1_tunes_noteCounts f_p1_tunes_pitches w8_0 w8_1 w8_2 w8_3 w8_4 w30_0 w30_1 w30_2 w30_3) := hD
  refine lv_aload_n hx hb dX5_become_47 rfl (lv_at hl 0 rfl) ?_
  refine lv_aload_n hx hb dX5_become_48 rfl (lv_at hl 1 rfl) ?_
  refine gf S hE hP 6 rfl rfl inX5 (k := 4) (by decide) q104 rfl dX5_become_49 ?_
  refine pf S hE hP hD hS 0 (k := 4) rfl rfl inX5 tyX5_ok nmX5 (by decide) q104 rfl rfl rfl (Nat.le_of_ble_eq_true rfl) dX5_become_52 (fun H locs hP hD hS => ?_)
  have hP : va_P D vwCl (wX5_become cI cJ cS a_o a_cars a_cars_bases a_cars_shares a_cars_speeds a_demands a_p1 a_p1_cars a_p1_cars_bases a_p1_cars_shares a_p1_cars_speeds a_p1_demands a_p1_stretches a_p1_stretches_kinds a_p1_stretches_others a_p1_stretches_spaces a_p1_stretches_times a_p1_tunes a_p1_tunes_beats a_p1_tunes_noteCounts a_p1_tunes_pitches a_stretches a_stretches_kinds a_stretches_others a_stretches_spaces a_stretches_times a_tunes a_tunes_beats a_tunes_noteCounts a_tunes_pitches v_p1_drawSeed w19_0 w19_1 w19_2 w19_3 (va_cpy f_p1_demands f_demands (0 : Int32).toNatClampNeg (0 : Int32).toNatClampNeg (4 : Int32).toNatClampNeg) v_p1_drawSeed v_p1_cars_carCount f_p1_cars_bases f_p1_cars_shares f_p1_cars_speeds f_p1_demands v_p1_stretches_stretchCount f_p1_stretches_kinds f_p1_stretches_others f_p1_stretches_spaces f_p1_stretches_times v_p1_tunes_tuneCount f_p1_tunes_beats f_p1_tunes_noteCounts f_p1_tunes_pitches w8_0 w8_1 w8_2 w8_3 w8_4 w30_0 w30_1 w30_2 w30_3) H := hP
  have hD : va_D A (wX5_become cI cJ cS a_o a_cars a_cars_bases a_cars_shares a_cars_speeds a_demands a_p1 a_p1_cars a_p1_cars_bases a_p1_cars_shares a_p1_cars_speeds a_p1_demands a_p1_stretches a_p1_stretches_kinds a_p1_stretches_others a_p1_stretches_spaces a_p1_stretches_times a_p1_tunes a_p1_tunes_beats a_p1_tunes_noteCounts a_p1_tunes_pitches a_stretches a_stretches_kinds a_stretches_others a_stretches_spaces a_stretches_times a_tunes a_tunes_beats a_tunes_noteCounts a_tunes_pitches v_p1_drawSeed w19_0 w19_1 w19_2 w19_3 (va_cpy f_p1_demands f_demands (0 : Int32).toNatClampNeg (0 : Int32).toNatClampNeg (4 : Int32).toNatClampNeg) v_p1_drawSeed v_p1_cars_carCount f_p1_cars_bases f_p1_cars_shares f_p1_cars_speeds f_p1_demands v_p1_stretches_stretchCount f_p1_stretches_kinds f_p1_stretches_others f_p1_stretches_spaces f_p1_stretches_times v_p1_tunes_tuneCount f_p1_tunes_beats f_p1_tunes_noteCounts f_p1_tunes_pitches w8_0 w8_1 w8_2 w8_3 w8_4 w30_0 w30_1 w30_2 w30_3) := hD
  exact W.vret hx hb hr (fun t ht _ => ⟨⟨(v_p1_drawSeed, w19_0, w19_1, w19_2, w19_3, (va_cpy f_p1_demands f_demands (0 : Int32).toNatClampNeg (0 : Int32).toNatClampNeg (4 : Int32).toNatClampNeg), w8_0, w8_1, w8_2, w8_3, w8_4, w30_0, w30_1, w30_2, w30_3), rfl, h, hPt hP ht⟩, hS.F ht⟩) hS.2.2 dX5_become_55
/-! X5_seedNow -/
abbrev wX5_seedNow (cI cJ cS : ClassId) (a_o : Nat) (z_stretches z_cars z_tunes z_demands : Value) (v_drawSeed : Int32) : va_W := [(a_o, .inr (4, [z_stretches, z_cars, z_tunes, z_demands, .int v_drawSeed]))]
def F_X5_seedNow (v_drawSeed : Int32) (post : Int32 → Prop) : Prop := post v_drawSeed
set_option maxHeartbeats 4000000 in
set_option maxRecDepth 100000 in
theorem c_X5_seedNow {l : Launch} {D : va_G} {cI cJ cS : ClassId} {ad adK : Nat → Nat} {a_o : Nat} {z_stretches z_cars z_tunes z_demands : Value} {v_drawSeed : Int32} {post : Int32 → Prop} (h : F_X5_seedNow v_drawSeed post) : Met l yX5_seedNow (Cond.code yX5_seedNow cX5_seedNow 1 (some (.int)) :: GW) (rmd 0 0 0) (PR D cI cJ cS ad adK [.ref a_o] (wX5_seedNow cI cJ cS a_o z_stretches z_cars z_tunes z_demands v_drawSeed)) (vp_Si post) 0 0 nof := by
  refine Met.ro (by decide) (Nat.le_of_ble_eq_true rfl) (fun p e s m args below meth c ls (S : CallFix p m c cX5_seedNow 1 s args GW "RoadThatSings$Road") hE hT hP hS hr hlocks hl => ?_)
  have hx := S.1
  have hb := S.2.1
  have hl : lv_has ls 1 [(0, .ref a_o)] := hl
  unfold F_X5_seedNow at h
  refine lv_aload_n hx hb dX5_seedNow_0 rfl (lv_at hl 0 rfl) ?_
  refine gf S hE hP 0 rfl rfl inX5 (k := 4) (by decide) q104 rfl dX5_seedNow_1 ?_
  exact W.iret hx hb hr (fun t ht _ => ⟨_, rfl, h, ht⟩) (fun _ hq => by cases hq) dX5_seedNow_4
/-! X5_seedAnew -/
abbrev wX5_seedAnew (cI cJ cS : ClassId) (a_o : Nat) (z_stretches z_cars z_tunes z_demands : Value) (v_drawSeed : Int32) : va_W := [(a_o, .inr (4, [z_stretches, z_cars, z_tunes, z_demands, .int v_drawSeed]))]
def F_X5_seedAnew (v_drawSeed : Int32) (x1 : Int32) (post : Int32 → Prop) : Prop := post x1
set_option maxHeartbeats 4000000 in
set_option maxRecDepth 100000 in
theorem c_X5_seedAnew {l : Launch} {D : va_G} {cI cJ cS : ClassId} {ad adK : Nat → Nat} {a_o : Nat} {z_stretches z_cars z_tunes z_demands : Value} {v_drawSeed : Int32} {x1 : Int32} {post : Int32 → Prop} (h : F_X5_seedAnew v_drawSeed x1 post) {sz : Nat} : Met l yX5_seedAnew (Cond.code yX5_seedAnew cX5_seedAnew 2 none :: GW) (rmd 0 0 0) (PW D cI cJ cS ad adK [.ref a_o, .int x1] (wX5_seedAnew cI cJ cS a_o z_stretches z_cars z_tunes z_demands v_drawSeed) sz) (va_Qv (fun u : Int32 => post u) (fun u t => va_P D vwCl (wX5_seedAnew cI cJ cS a_o z_stretches z_cars z_tunes z_demands u) t.heap) (va_A (wX5_seedAnew cI cJ cS a_o z_stretches z_cars z_tunes z_demands v_drawSeed) sz)) 0 0 (va_A (wX5_seedAnew cI cJ cS a_o z_stretches z_cars z_tunes z_demands v_drawSeed) sz) := by
  refine Met.rw (Qc := fun A => (va_Qv (fun u : Int32 => post u) (fun u t => va_P D vwCl (wX5_seedAnew cI cJ cS a_o z_stretches z_cars z_tunes z_demands u) t.heap) A)) (by decide) (Nat.le_of_ble_eq_true rfl) (fun p e s m args below meth c ls A (S : CallFix p m c cX5_seedAnew 2 s args GW "RoadThatSings$Road") hE hT hP hD hA hS hr hlocks hname hl => ?_)
  have hS0 := hS
  have hx := S.1
  have hb := S.2.1
  have hl : lv_has ls 2 [(0, .ref a_o), (1, .int x1)] := hl
  unfold F_X5_seedAnew at h
  refine lv_aload_n hx hb dX5_seedAnew_0 rfl (lv_at hl 0 rfl) ?_
  refine lv_iload_n hx hb dX5_seedAnew_1 rfl (lv_at hl 1 rfl) ?_
  refine pf S hE hP hD hS 0 (k := 4) rfl rfl inX5 tyX5_ok nmX5 (by decide) q104 rfl rfl rfl (Nat.le_of_ble_eq_true rfl) dX5_seedAnew_2 (fun H locs hP hD hS => ?_)
  have hP : va_P D vwCl (wX5_seedAnew cI cJ cS a_o z_stretches z_cars z_tunes z_demands x1) H := hP
  have hD : va_D A (wX5_seedAnew cI cJ cS a_o z_stretches z_cars z_tunes z_demands x1) := hD
  exact W.vret hx hb hr (fun t ht _ => ⟨⟨x1, rfl, h, hPt hP ht⟩, hS.F ht⟩) hS.2.2 dX5_seedAnew_5
/-! X5_draw -/
abbrev wX5_draw (cI cJ cS : ClassId) (a_o : Nat) (z_stretches z_cars z_tunes z_demands : Value) (v_drawSeed : Int32) : va_W := [(a_o, .inr (4, [z_stretches, z_cars, z_tunes, z_demands, .int v_drawSeed]))]
def F_X5_draw (v_drawSeed : Int32) (x1 : Int32) (post : Int32 → Int32 → Prop) : Prop := ((0 < x1 → (¬ x1 = 0 ∧ post (((((v_drawSeed * 1103515245) + 12345).toUInt32 >>> ((16 : Int32).toUInt32 &&& Int32.toUInt32 31)).toInt32) - ((((v_drawSeed * 1103515245) + 12345).toUInt32 >>> ((16 : Int32).toUInt32 &&& Int32.toUInt32 31)).toInt32) / x1 * x1) ((v_drawSeed * 1103515245) + 12345))) ∧ (¬ 0 < x1 → post 0 ((v_drawSeed * 1103515245) + 12345)))
set_option maxHeartbeats 4000000 in
set_option maxRecDepth 100000 in
theorem c_X5_draw {l : Launch} {D : va_G} {cI cJ cS : ClassId} {ad adK : Nat → Nat} {a_o : Nat} {z_stretches z_cars z_tunes z_demands : Value} {v_drawSeed : Int32} {x1 : Int32} {post : Int32 → Int32 → Prop} (h : F_X5_draw v_drawSeed x1 post) {sz : Nat} : Met l yX5_draw (Cond.code yX5_draw cX5_draw 2 (some (.int)) :: GW) (rmd 0 0 0) (PW D cI cJ cS ad adK [.ref a_o, .int x1] (wX5_draw cI cJ cS a_o z_stretches z_cars z_tunes z_demands v_drawSeed) sz) (va_Qi (fun r (u : Int32) => post r u) (fun u t => va_P D vwCl (wX5_draw cI cJ cS a_o z_stretches z_cars z_tunes z_demands u) t.heap) (va_A (wX5_draw cI cJ cS a_o z_stretches z_cars z_tunes z_demands v_drawSeed) sz)) 0 0 (va_A (wX5_draw cI cJ cS a_o z_stretches z_cars z_tunes z_demands v_drawSeed) sz) := by
  refine Met.rw (Qc := fun A => (va_Qi (fun r (u : Int32) => post r u) (fun u t => va_P D vwCl (wX5_draw cI cJ cS a_o z_stretches z_cars z_tunes z_demands u) t.heap) A)) (by decide) (Nat.le_of_ble_eq_true rfl) (fun p e s m args below meth c ls A (S : CallFix p m c cX5_draw 2 s args GW "RoadThatSings$Road") hE hT hP hD hA hS hr hlocks hname hl => ?_)
  have hS0 := hS
  have hx := S.1
  have hb := S.2.1
  have hl : lv_has ls 2 [(0, .ref a_o), (1, .int x1)] := hl
  unfold F_X5_draw at h
  refine lv_aload_n hx hb dX5_draw_0 rfl (lv_at hl 0 rfl) ?_
  refine lv_aload_n hx hb dX5_draw_1 rfl (lv_at hl 0 rfl) ?_
  refine gf S hE hP 0 rfl rfl inX5 (k := 4) (by decide) q104 rfl dX5_draw_2 ?_
  refine lv_ldc (v := 1103515245) hx hb S.2.2.2.1 (S.2.2.2.2 _ q1008) dX5_draw_5 ?_
  refine lv_imul hx hb dX5_draw_7 ?_
  refine lv_sipush (v := 12345) hx hb dX5_draw_8 (by decide) ?_
  refine lv_iadd hx hb dX5_draw_11 ?_
  refine pf S hE hP hD hS 0 (k := 4) rfl rfl inX5 tyX5_ok nmX5 (by decide) q104 rfl rfl rfl (Nat.le_of_ble_eq_true rfl) dX5_draw_12 (fun H locs hP hD hS => ?_)
  have hP : va_P D vwCl (wX5_draw cI cJ cS a_o z_stretches z_cars z_tunes z_demands ((v_drawSeed * 1103515245) + 12345)) H := hP
  have hD : va_D A (wX5_draw cI cJ cS a_o z_stretches z_cars z_tunes z_demands ((v_drawSeed * 1103515245) + 12345)) := hD
  refine lv_iload_n hx hb dX5_draw_15 rfl (lv_at hl 1 rfl) ?_
  refine lv_if_gt (tgt := 23) hx hb dX5_draw_16 (by decide) (fun hc => ?_) (fun hc => ?_)
  · have h := h.1 hc
    refine lv_aload_n hx hb dX5_draw_23 rfl (lv_at hl 0 rfl) ?_
    refine gf S hE hP 0 rfl rfl inX5 (k := 4) (by decide) q104 rfl dX5_draw_24 ?_
    refine lv_bipush (v := 16) hx hb dX5_draw_27 (by decide) ?_
    refine lv_iushr hx hb dX5_draw_29 rfl ?_
    refine lv_iload_n hx hb dX5_draw_30 rfl (lv_at hl 1 rfl) ?_
    obtain ⟨hz, h⟩ := h
    refine lv_irem hx hb dX5_draw_31 hz ?_
    exact W.iret hx hb hr (fun t ht _ => ⟨⟨_, ((v_drawSeed * 1103515245) + 12345), rfl, h, hPt hP ht⟩, hS.F ht⟩) hS.2.2 dX5_draw_32
  have h := h.2 hc
  refine lv_iconst (v := 0) hx hb dX5_draw_19 (by decide) ?_
  refine lv_goto (tgt := 32) hx hb dX5_draw_20 (by decide) ?_
  exact W.iret hx hb hr (fun t ht _ => ⟨⟨_, ((v_drawSeed * 1103515245) + 12345), rfl, h, hPt hP ht⟩, hS.F ht⟩) hS.2.2 dX5_draw_32
/-! X7_has -/
abbrev wX7_has (cI cJ cS : ClassId) (a_o : Nat) (z_kinds z_spaces z_others z_times : Value) (v_stretchCount : Int32) : va_W := [(a_o, .inr (6, [z_kinds, z_spaces, z_others, z_times, .int v_stretchCount]))]
def F_X7_has (v_stretchCount : Int32) (x1 : Int32) (post : Int32 → Prop) : Prop := ((x1 < 0 → post 0) ∧ (¬ x1 < 0 → ((v_stretchCount ≤ x1 → post 0) ∧ (¬ v_stretchCount ≤ x1 → ((16 ≤ x1 → post 0) ∧ (¬ 16 ≤ x1 → post 1))))))
set_option maxHeartbeats 4000000 in
set_option maxRecDepth 100000 in
theorem c_X7_has {l : Launch} {D : va_G} {cI cJ cS : ClassId} {ad adK : Nat → Nat} {a_o : Nat} {z_kinds z_spaces z_others z_times : Value} {v_stretchCount : Int32} {x1 : Int32} {post : Int32 → Prop} (h : F_X7_has v_stretchCount x1 post) : Met l yX7_has (Cond.code yX7_has cX7_has 2 (some (.boolean)) :: GW) (rmd 0 0 0) (PR D cI cJ cS ad adK [.ref a_o, .int x1] (wX7_has cI cJ cS a_o z_kinds z_spaces z_others z_times v_stretchCount)) (vp_Si post) 0 0 nof := by
  refine Met.ro (by decide) (Nat.le_of_ble_eq_true rfl) (fun p e s m args below meth c ls (S : CallFix p m c cX7_has 2 s args GW "RoadThatSings$Stretches") hE hT hP hS hr hlocks hl => ?_)
  have hx := S.1
  have hb := S.2.1
  have hl : lv_has ls 2 [(0, .ref a_o), (1, .int x1)] := hl
  unfold F_X7_has at h
  refine lv_iload_n hx hb dX7_has_0 rfl (lv_at hl 1 rfl) ?_
  refine lv_if_lt (tgt := 22) hx hb dX7_has_1 (by decide) (fun hc => ?_) (fun hc => ?_)
  · have h := h.1 hc
    refine lv_iconst (v := 0) hx hb dX7_has_22 (by decide) ?_
    exact W.zret hx hb hr rfl (fun t ht _ => ⟨_, rfl, h, ht⟩) (fun _ hq => by cases hq) dX7_has_23
  have h := h.2 hc
  refine lv_iload_n hx hb dX7_has_4 rfl (lv_at hl 1 rfl) ?_
  refine lv_aload_n hx hb dX7_has_5 rfl (lv_at hl 0 rfl) ?_
  refine gf S hE hP 0 rfl rfl inX7 (k := 4) (by decide) q42 rfl dX7_has_6 ?_
  refine lv_icmp_ge (tgt := 22) hx hb dX7_has_9 (by decide) (fun hc => ?_) (fun hc => ?_)
  · have h := h.1 hc
    refine lv_iconst (v := 0) hx hb dX7_has_22 (by decide) ?_
    exact W.zret hx hb hr rfl (fun t ht _ => ⟨_, rfl, h, ht⟩) (fun _ hq => by cases hq) dX7_has_23
  have h := h.2 hc
  refine lv_iload_n hx hb dX7_has_12 rfl (lv_at hl 1 rfl) ?_
  refine lv_bipush (v := 16) hx hb dX7_has_13 (by decide) ?_
  refine lv_icmp_ge (tgt := 22) hx hb dX7_has_15 (by decide) (fun hc => ?_) (fun hc => ?_)
  · have h := h.1 hc
    refine lv_iconst (v := 0) hx hb dX7_has_22 (by decide) ?_
    exact W.zret hx hb hr rfl (fun t ht _ => ⟨_, rfl, h, ht⟩) (fun _ hq => by cases hq) dX7_has_23
  have h := h.2 hc
  refine lv_iconst (v := 1) hx hb dX7_has_18 (by decide) ?_
  refine lv_goto (tgt := 23) hx hb dX7_has_19 (by decide) ?_
  exact W.zret hx hb hr rfl (fun t ht _ => ⟨_, rfl, h, ht⟩) (fun _ hq => by cases hq) dX7_has_23
/-! X7_kindOf -/
abbrev wX7_kindOf (cI cJ cS : ClassId) (a_o a_kinds : Nat) (z_spaces z_others z_times : Value) (v_stretchCount : Int32) (f_kinds : Nat → Int32) : va_W := [(a_o, .inr (6, [.ref a_kinds, z_spaces, z_others, z_times, .int v_stretchCount])), (a_kinds, .inl (cI, 16, .inl f_kinds))]
def F_X7_kindOf (v_stretchCount : Int32) (f_kinds : Nat → Int32) (x1 : Int32) (post : Int32 → Prop) : Prop := (F_X7_has v_stretchCount x1 (fun r2 => ((r2 = 0 → post (-1)) ∧ (¬ r2 = 0 → (vp_in x1 16 ∧ post (f_kinds x1.toNatClampNeg))))))
set_option maxHeartbeats 4000000 in
set_option maxRecDepth 100000 in
theorem c_X7_kindOf {l : Launch} {D : va_G} {cI cJ cS : ClassId} {ad adK : Nat → Nat} {a_o a_kinds : Nat} {z_spaces z_others z_times : Value} {v_stretchCount : Int32} {f_kinds : Nat → Int32} {x1 : Int32} {post : Int32 → Prop} (h : F_X7_kindOf v_stretchCount f_kinds x1 post) : Met l yX7_kindOf (Cond.code yX7_kindOf cX7_kindOf 2 (some (.int)) :: GW) (rmd 1 0 0) (PR D cI cJ cS ad adK [.ref a_o, .int x1] (wX7_kindOf cI cJ cS a_o a_kinds z_spaces z_others z_times v_stretchCount f_kinds)) (vp_Si post) 0 0 nof := by
  refine Met.ro (by decide) (Nat.le_of_ble_eq_true rfl) (fun p e s m args below meth c ls (S : CallFix p m c cX7_kindOf 2 s args GW "RoadThatSings$Stretches") hE hT hP hS hr hlocks hl => ?_)
  have hx := S.1
  have hb := S.2.1
  have hl : lv_has ls 2 [(0, .ref a_o), (1, .int x1)] := hl
  unfold F_X7_kindOf at h
  refine lv_aload_n hx hb dX7_kindOf_0 rfl (lv_at hl 0 rfl) ?_
  refine lv_iload_n hx hb dX7_kindOf_1 rfl (lv_at hl 1 rfl) ?_
  refine ro_i (roV S hE hT hS (c_X7_has h) lkX7_47 rfl ⟨(Nat.le_of_ble_eq_true rfl), (Nat.le_of_ble_eq_true rfl)⟩ (hP.sub [0] rfl) 0 rfl rfl hl.1 rfl (Nat.le_of_ble_eq_true rfl) dX7_kindOf_2 ⟨(Nat.zero_le _), (Nat.zero_le _)⟩) (fun r2 h => ?_)
  refine lv_if_eq (tgt := 17) hx hb dX7_kindOf_5 (by decide) (fun hc => ?_) (fun hc => ?_)
  · have h := h.1 hc
    refine lv_iconst (v := (-1)) hx hb dX7_kindOf_17 (by decide) ?_
    exact W.iret hx hb hr (fun t ht _ => ⟨_, rfl, h, ht⟩) (fun _ hq => by cases hq) dX7_kindOf_18
  have h := h.2 hc
  refine lv_aload_n hx hb dX7_kindOf_8 rfl (lv_at hl 0 rfl) ?_
  refine gf S hE hP 0 rfl rfl inX7 (k := 0) (by decide) q38 rfl dX7_kindOf_9 ?_
  refine lv_iload_n hx hb dX7_kindOf_12 rfl (lv_at hl 1 rfl) ?_
  obtain ⟨hi, h⟩ := h
  refine ial S hE hP 1 rfl hi dX7_kindOf_13 ?_
  refine lv_goto (tgt := 18) hx hb dX7_kindOf_14 (by decide) ?_
  exact W.iret hx hb hr (fun t ht _ => ⟨_, rfl, h, ht⟩) (fun _ hq => by cases hq) dX7_kindOf_18
/-! X9_isOfTwoSpaces -/
abbrev wX9_isOfTwoSpaces (cI cJ cS : ClassId) : va_W := []
def F_X9_isOfTwoSpaces (x0 : Int32) (post : Int32 → Prop) : Prop := ((x0 = 2 → post 1) ∧ (¬ x0 = 2 → ((x0 = 5 → post 1) ∧ (¬ x0 = 5 → post 0))))
set_option maxHeartbeats 4000000 in
set_option maxRecDepth 100000 in
theorem c_X9_isOfTwoSpaces {l : Launch} {D : va_G} {cI cJ cS : ClassId} {ad adK : Nat → Nat}  {x0 : Int32} {post : Int32 → Prop} (h : F_X9_isOfTwoSpaces x0 post) : Met l yX9_isOfTwoSpaces (Cond.code yX9_isOfTwoSpaces cX9_isOfTwoSpaces 1 (some (.boolean)) :: GW) (rmd 0 0 0) (PR D cI cJ cS ad adK [.int x0] (wX9_isOfTwoSpaces cI cJ cS)) (vp_Si post) 0 0 nof := by
  refine Met.ro (by decide) (Nat.le_of_ble_eq_true rfl) (fun p e s m args below meth c ls (S : CallFix p m c cX9_isOfTwoSpaces 1 s args GW "RoadThatSings") hE hT hP hS hr hlocks hl => ?_)
  have hx := S.1
  have hb := S.2.1
  have hl : lv_has ls 1 [(0, .int x0)] := hl
  unfold F_X9_isOfTwoSpaces at h
  refine lv_iload_n hx hb dX9_isOfTwoSpaces_0 rfl (lv_at hl 0 rfl) ?_
  refine lv_iconst (v := 2) hx hb dX9_isOfTwoSpaces_1 (by decide) ?_
  refine lv_icmp_eq (tgt := 10) hx hb dX9_isOfTwoSpaces_2 (by decide) (fun hc => ?_) (fun hc => ?_)
  · have h := h.1 hc
    refine lv_iconst (v := 1) hx hb dX9_isOfTwoSpaces_10 (by decide) ?_
    refine lv_goto (tgt := 15) hx hb dX9_isOfTwoSpaces_11 (by decide) ?_
    exact W.zret hx hb hr rfl (fun t ht _ => ⟨_, rfl, h, ht⟩) (fun _ hq => by cases hq) dX9_isOfTwoSpaces_15
  have h := h.2 hc
  refine lv_iload_n hx hb dX9_isOfTwoSpaces_5 rfl (lv_at hl 0 rfl) ?_
  refine lv_iconst (v := 5) hx hb dX9_isOfTwoSpaces_6 (by decide) ?_
  refine lv_icmp_ne (tgt := 14) hx hb dX9_isOfTwoSpaces_7 (by decide) (fun hc => ?_) (fun hc => ?_)
  · have h := h.2 hc
    refine lv_iconst (v := 0) hx hb dX9_isOfTwoSpaces_14 (by decide) ?_
    exact W.zret hx hb hr rfl (fun t ht _ => ⟨_, rfl, h, ht⟩) (fun _ hq => by cases hq) dX9_isOfTwoSpaces_15
  have h := h.1 hc
  refine lv_iconst (v := 1) hx hb dX9_isOfTwoSpaces_10 (by decide) ?_
  refine lv_goto (tgt := 15) hx hb dX9_isOfTwoSpaces_11 (by decide) ?_
  exact W.zret hx hb hr rfl (fun t ht _ => ⟨_, rfl, h, ht⟩) (fun _ hq => by cases hq) dX9_isOfTwoSpaces_15
/-! X7_spacesTogether -/
abbrev wX7_spacesTogether (cI cJ cS : ClassId) (a_o a_kinds a_others a_spaces : Nat) (z_times : Value) (v_stretchCount : Int32) (f_kinds : Nat → Int32) (f_others : Nat → Int32) (f_spaces : Nat → Int32) : va_W := [(a_o, .inr (6, [.ref a_kinds, .ref a_spaces, .ref a_others, z_times, .int v_stretchCount])), (a_kinds, .inl (cI, 16, .inl f_kinds)), (a_others, .inl (cI, 16, .inl f_others)), (a_spaces, .inl (cI, 16, .inl f_spaces))]
def F_X7_spacesTogether (v_stretchCount : Int32) (f_kinds : Nat → Int32) (f_others : Nat → Int32) (f_spaces : Nat → Int32) (x1 : Int32) (post : Int32 → Prop) : Prop := (F_X7_has v_stretchCount x1 (fun r2 => ((r2 = 0 → post 0) ∧ (¬ r2 = 0 → (vp_in x1 16 ∧ (F_X9_isOfTwoSpaces (f_kinds x1.toNatClampNeg) (fun r16 => ((r16 = 0 → (vp_in x1 16 ∧ post (f_spaces x1.toNatClampNeg))) ∧ (¬ r16 = 0 → (vp_in x1 16 ∧ (vp_in x1 16 ∧ post ((f_spaces x1.toNatClampNeg) + (f_others x1.toNatClampNeg)))))))))))))
set_option maxHeartbeats 4000000 in
set_option maxRecDepth 100000 in
theorem c_X7_spacesTogether {l : Launch} {D : va_G} {cI cJ cS : ClassId} {ad adK : Nat → Nat} {a_o a_kinds a_others a_spaces : Nat} {z_times : Value} {v_stretchCount : Int32} {f_kinds : Nat → Int32} {f_others : Nat → Int32} {f_spaces : Nat → Int32} {x1 : Int32} {post : Int32 → Prop} (h : F_X7_spacesTogether v_stretchCount f_kinds f_others f_spaces x1 post) : Met l yX7_spacesTogether (Cond.code yX7_spacesTogether cX7_spacesTogether 2 (some (.int)) :: GW) (rmd 1 0 0) (PR D cI cJ cS ad adK [.ref a_o, .int x1] (wX7_spacesTogether cI cJ cS a_o a_kinds a_others a_spaces z_times v_stretchCount f_kinds f_others f_spaces)) (vp_Si post) 0 0 nof := by
  refine Met.ro (by decide) (Nat.le_of_ble_eq_true rfl) (fun p e s m args below meth c ls (S : CallFix p m c cX7_spacesTogether 2 s args GW "RoadThatSings$Stretches") hE hT hP hS hr hlocks hl => ?_)
  have hx := S.1
  have hb := S.2.1
  have hl : lv_has ls 2 [(0, .ref a_o), (1, .int x1)] := hl
  unfold F_X7_spacesTogether at h
  refine lv_aload_n hx hb dX7_spacesTogether_0 rfl (lv_at hl 0 rfl) ?_
  refine lv_iload_n hx hb dX7_spacesTogether_1 rfl (lv_at hl 1 rfl) ?_
  refine ro_i (roV S hE hT hS (c_X7_has h) lkX7_47 rfl ⟨(Nat.le_of_ble_eq_true rfl), (Nat.le_of_ble_eq_true rfl)⟩ (hP.sub [0] rfl) 0 rfl rfl hl.1 rfl (Nat.le_of_ble_eq_true rfl) dX7_spacesTogether_2 ⟨(Nat.zero_le _), (Nat.zero_le _)⟩) (fun r2 h => ?_)
  refine lv_if_ne (tgt := 10) hx hb dX7_spacesTogether_5 (by decide) (fun hc => ?_) (fun hc => ?_)
  · have h := h.2 hc
    refine lv_aload_n hx hb dX7_spacesTogether_10 rfl (lv_at hl 0 rfl) ?_
    refine gf S hE hP 0 rfl rfl inX7 (k := 0) (by decide) q38 rfl dX7_spacesTogether_11 ?_
    refine lv_iload_n hx hb dX7_spacesTogether_14 rfl (lv_at hl 1 rfl) ?_
    obtain ⟨hi, h⟩ := h
    refine ial S hE hP 1 rfl hi dX7_spacesTogether_15 ?_
    refine ro_i (roSN S hE hT hS (c_X9_isOfTwoSpaces h) lkX7_51 rfl ⟨(Nat.le_of_ble_eq_true rfl), (Nat.le_of_ble_eq_true rfl)⟩ (hP.sub [] rfl) hl.1 rfl (Nat.le_of_ble_eq_true rfl) dX7_spacesTogether_16 ⟨(Nat.zero_le _), (Nat.zero_le _)⟩) (fun r16 h => ?_)
    refine lv_if_eq (tgt := 38) hx hb dX7_spacesTogether_19 (by decide) (fun hc => ?_) (fun hc => ?_)
    · have h := h.1 hc
      refine lv_aload_n hx hb dX7_spacesTogether_38 rfl (lv_at hl 0 rfl) ?_
      refine gf S hE hP 0 rfl rfl inX7 (k := 1) (by decide) q39 rfl dX7_spacesTogether_39 ?_
      refine lv_iload_n hx hb dX7_spacesTogether_42 rfl (lv_at hl 1 rfl) ?_
      obtain ⟨hi, h⟩ := h
      refine ial S hE hP 3 rfl hi dX7_spacesTogether_43 ?_
      exact W.iret hx hb hr (fun t ht _ => ⟨_, rfl, h, ht⟩) (fun _ hq => by cases hq) dX7_spacesTogether_44
    have h := h.2 hc
    refine lv_aload_n hx hb dX7_spacesTogether_22 rfl (lv_at hl 0 rfl) ?_
    refine gf S hE hP 0 rfl rfl inX7 (k := 1) (by decide) q39 rfl dX7_spacesTogether_23 ?_
    refine lv_iload_n hx hb dX7_spacesTogether_26 rfl (lv_at hl 1 rfl) ?_
    obtain ⟨hi, h⟩ := h
    refine ial S hE hP 3 rfl hi dX7_spacesTogether_27 ?_
    refine lv_aload_n hx hb dX7_spacesTogether_28 rfl (lv_at hl 0 rfl) ?_
    refine gf S hE hP 0 rfl rfl inX7 (k := 2) (by decide) q40 rfl dX7_spacesTogether_29 ?_
    refine lv_iload_n hx hb dX7_spacesTogether_32 rfl (lv_at hl 1 rfl) ?_
    obtain ⟨hi, h⟩ := h
    refine ial S hE hP 2 rfl hi dX7_spacesTogether_33 ?_
    refine lv_iadd hx hb dX7_spacesTogether_34 ?_
    refine lv_goto (tgt := 44) hx hb dX7_spacesTogether_35 (by decide) ?_
    exact W.iret hx hb hr (fun t ht _ => ⟨_, rfl, h, ht⟩) (fun _ hq => by cases hq) dX7_spacesTogether_44
  have h := h.1 hc
  refine lv_iconst (v := 0) hx hb dX7_spacesTogether_8 (by decide) ?_
  exact W.iret hx hb hr (fun t ht _ => ⟨_, rfl, h, ht⟩) (fun _ hq => by cases hq) dX7_spacesTogether_9
