/-! X9_copy -/
abbrev wX9_copy (cI cJ cS : ClassId) (a_o a_refused a_shelves : Nat) (z_road z_kept z_ahead z_cutting z_acting : Value) (sa ea : Nat → Nat) (v_imaged : Int32) (v_lastFault : Int32) (f_refused : Nat → Int32) (f_sh_held : Nat → Int32) (f_sh_sort : Nat → Int32) (f_sh_cnt : Nat → Int32) (f_sh_num : Nat → Int32) (g_sh_el : Nat → Nat → Int64) : va_W := [(a_o, .inr (8, [z_road, z_kept, z_ahead, .ref a_shelves, z_cutting, z_acting, .ref a_refused, .int v_imaged, .int v_lastFault])), (a_refused, .inl (cI, 8, .inl f_refused)), (a_shelves, .inl (cS, 8, .inr (.inr (.inr (.inr (fun k => some (sa k)))))))] ++ shW sa ea cJ f_sh_held f_sh_sort f_sh_cnt f_sh_num g_sh_el
def F_X9_copy (f_refused : Nat → Int32) (f_sh_held : Nat → Int32) (f_sh_sort : Nat → Int32) (f_sh_cnt : Nat → Int32) (g_sh_el : Nat → Nat → Int64) (x1 : Int32) (x2 : Int32) (x3 : Int32) (x4 : Int32) (x5 : Int32) (post : Int32 → (Nat → Int32) → (Nat → Nat → Int64) → Prop) : Prop := (F_X9_shelfAt x1 ((F_X9_shelfAt x2 ((F_X9_refuse f_refused (-1) (fun r26 w26_0 => post r26 w26_0 g_sh_el))) (fun j9 => (F_X9_refuse f_refused (-1) (fun r26 w26_0 => post r26 w26_0 g_sh_el))))) (fun j2 => (F_X9_shelfAt x2 ((F_X9_refuse f_refused (-1) (fun r26 w26_0 => post r26 w26_0 g_sh_el))) (fun j9 => (F_X6_holdsStretch (f_sh_held j2) (fun r32 => ((r32 = 0 → (F_X6_holdsStretch (f_sh_held j9) (fun r40 => ((r40 = 0 → (F_X6_isRowUnlike (f_sh_held j2) (f_sh_sort j2) (f_sh_held j9) (f_sh_sort j9) (fun r50 => ((r50 = 0 → (F_X6_holdsRow (f_sh_held j2) (fun r65 => ((r65 = 0 → (F_X9_refuse f_refused (-3) (fun r82 w82_0 => post r82 w82_0 g_sh_el))) ∧ (¬ r65 = 0 → (F_X6_holdsRow (f_sh_held j9) (fun r73 => ((r73 = 0 → (F_X9_refuse f_refused (-3) (fun r82 w82_0 => post r82 w82_0 g_sh_el))) ∧ (¬ r73 = 0 → ((0 ≤ x5 → (F_X6_hasElements (f_sh_cnt j2) x3 x5 (fun r103 => ((r103 = 0 → (F_X9_refuse f_refused (-5) (fun r124 w124_0 => post r124 w124_0 g_sh_el))) ∧ (¬ r103 = 0 → (F_X6_hasElements (f_sh_cnt j9) x4 x5 (fun r115 => ((r115 = 0 → (F_X9_refuse f_refused (-5) (fun r124 w124_0 => post r124 w124_0 g_sh_el))) ∧ (¬ r115 = 0 → ((j2 = j9 → (F_X6_takeFrom_same (f_sh_cnt j2) (g_sh_el j2) x3 x4 x5 (fun w137_0 => post 1 f_refused (va_up g_sh_el j2 w137_0)))) ∧ (¬ j2 = j9 → (F_X6_takeFrom (f_sh_cnt j9) (g_sh_el j9) (f_sh_cnt j2) (g_sh_el j2) x3 x4 x5 (fun w137_0 => post 1 f_refused (va_up g_sh_el j9 w137_0)))))))))))))) ∧ (¬ 0 ≤ x5 → (F_X9_refuse f_refused (-4) (fun r94 w94_0 => post r94 w94_0 g_sh_el))))))))))))) ∧ (¬ r50 = 0 → (F_X9_refuse f_refused (-2) (fun r59 w59_0 => post r59 w59_0 g_sh_el))))))) ∧ (¬ r40 = 0 → (F_X9_refuse f_refused (-2) (fun r59 w59_0 => post r59 w59_0 g_sh_el))))))) ∧ (¬ r32 = 0 → (F_X9_refuse f_refused (-2) (fun r59 w59_0 => post r59 w59_0 g_sh_el))))))))))
set_option maxHeartbeats 4000000 in
set_option maxRecDepth 100000 in
theorem c_X9_copy {l : Launch} {D : va_G} {cI cJ cS : ClassId} {ad adK : Nat → Nat} {a_o a_refused a_shelves : Nat} {z_road z_kept z_ahead z_cutting z_acting : Value} {sa ea : Nat → Nat} {v_imaged : Int32} {v_lastFault : Int32} {f_refused : Nat → Int32} {f_sh_held : Nat → Int32} {f_sh_sort : Nat → Int32} {f_sh_cnt : Nat → Int32} {f_sh_num : Nat → Int32} {g_sh_el : Nat → Nat → Int64} {x1 : Int32} {x2 : Int32} {x3 : Int32} {x4 : Int32} {x5 : Int32} {post : Int32 → (Nat → Int32) → (Nat → Nat → Int64) → Prop} (h : F_X9_copy f_refused f_sh_held f_sh_sort f_sh_cnt g_sh_el x1 x2 x3 x4 x5 post) {sz : Nat} : Met l yX9_copy (Cond.code yX9_copy cX9_copy 8 (some (.int)) :: GW) (rmd 3 0 0) (PW D cI cJ cS ad adK [.ref a_o, .int x1, .int x2, .int x3, .int x4, .int x5] (wX9_copy cI cJ cS a_o a_refused a_shelves z_road z_kept z_ahead z_cutting z_acting sa ea v_imaged v_lastFault f_refused f_sh_held f_sh_sort f_sh_cnt f_sh_num g_sh_el) sz) (va_Qi (fun r (u : (Nat → Int32) × (Nat → Nat → Int64)) => post r u.1 u.2) (fun u t => va_P D vwCl (wX9_copy cI cJ cS a_o a_refused a_shelves z_road z_kept z_ahead z_cutting z_acting sa ea v_imaged v_lastFault u.1 f_sh_held f_sh_sort f_sh_cnt f_sh_num u.2) t.heap) (va_A (wX9_copy cI cJ cS a_o a_refused a_shelves z_road z_kept z_ahead z_cutting z_acting sa ea v_imaged v_lastFault f_refused f_sh_held f_sh_sort f_sh_cnt f_sh_num g_sh_el) sz)) 0 0 (va_A (wX9_copy cI cJ cS a_o a_refused a_shelves z_road z_kept z_ahead z_cutting z_acting sa ea v_imaged v_lastFault f_refused f_sh_held f_sh_sort f_sh_cnt f_sh_num g_sh_el) sz) := by
  refine Met.rw (Qc := fun A => (va_Qi (fun r (u : (Nat → Int32) × (Nat → Nat → Int64)) => post r u.1 u.2) (fun u t => va_P D vwCl (wX9_copy cI cJ cS a_o a_refused a_shelves z_road z_kept z_ahead z_cutting z_acting sa ea v_imaged v_lastFault u.1 f_sh_held f_sh_sort f_sh_cnt f_sh_num u.2) t.heap) A)) (by decide) (Nat.le_of_ble_eq_true rfl) (fun p e s m args below meth c ls A (S : CallFix p m c cX9_copy 8 s args GW "RoadThatSings") hE hT hP hD hA hS hr hlocks hname hl => ?_)
  have hS0 := hS
  have hx := S.1
  have hb := S.2.1
  have hl : lv_has ls 8 [(0, .ref a_o), (1, .int x1), (2, .int x2), (3, .int x3), (4, .int x4), (5, .int x5)] := hl
  unfold F_X9_copy at h
  refine lv_aload_n hx hb dX9_copy_0 rfl (lv_at hl 0 rfl) ?_
  refine lv_iload_n hx hb dX9_copy_1 rfl (lv_at hl 1 rfl) ?_
  refine ro_s (roV S hE hT hS (c_X9_shelfAt h) lkX9_55 rfl ⟨(Nat.le_of_ble_eq_true rfl), (Nat.le_of_ble_eq_true rfl)⟩ (hP.sub [0, 2] rfl) 0 rfl rfl hl.1 rfl (Nat.le_of_ble_eq_true rfl) dX9_copy_2 ⟨(Nat.zero_le _), (Nat.zero_le _)⟩) (fun h => ?_) (fun j2 hj2 h => ?_)
  · refine lv_astoreN (lv' := [(6, .null), (0, .ref a_o), (1, .int x1), (2, .int x2), (3, .int x3), (4, .int x4), (5, .int x5)]) hx hb dX9_copy_5 hl (by decide) rfl (fun ls hl => ?_)
    refine lv_aload_n hx hb dX9_copy_7 rfl (lv_at hl 1 rfl) ?_
    refine lv_iload_n hx hb dX9_copy_8 rfl (lv_at hl 3 rfl) ?_
    refine ro_s (roV S hE hT hS (c_X9_shelfAt h) lkX9_55 rfl ⟨(Nat.le_of_ble_eq_true rfl), (Nat.le_of_ble_eq_true rfl)⟩ (hP.sub [0, 2] rfl) 0 rfl rfl hl.1 rfl (Nat.le_of_ble_eq_true rfl) dX9_copy_9 ⟨(Nat.zero_le _), (Nat.zero_le _)⟩) (fun h => ?_) (fun j9 hj9 h => ?_)
    · refine lv_astoreN (lv' := [(7, .null), (6, .null), (0, .ref a_o), (1, .int x1), (2, .int x2), (3, .int x3), (4, .int x4), (5, .int x5)]) hx hb dX9_copy_12 hl (by decide) rfl (fun ls hl => ?_)
      refine lv_aloadN hx hb dX9_copy_14 (lv_at hl 1 rfl) ?_
      refine lv_ifnullN (tgt := 24) hx hb dX9_copy_16 (by decide) ?_
      refine lv_aload_n hx hb dX9_copy_24 rfl (lv_at hl 2 rfl) ?_
      refine lv_iconst (v := (-1)) hx hb dX9_copy_25 (by decide) ?_
      refine rw_i (rwV S hE hT hS hP hD hA (c_X9_refuse h) [0, 1] rfl (by decide +kernel) lkX9_59 rfl ⟨(Nat.le_of_ble_eq_true rfl), (Nat.le_of_ble_eq_true rfl)⟩ 0 rfl rfl hl.1 rfl (Nat.le_of_ble_eq_true rfl) dX9_copy_26 ⟨(Nat.zero_le _), (Nat.zero_le _)⟩) hP hD hS hA [0, 1] rfl (by decide +kernel) (fun _ => rfl) (fun r26 w26_0 H locs h hP hD hS => ?_)
      try dsimp only at h
      have hP : va_P D vwCl (wX9_copy cI cJ cS a_o a_refused a_shelves z_road z_kept z_ahead z_cutting z_acting sa ea v_imaged v_lastFault w26_0 f_sh_held f_sh_sort f_sh_cnt f_sh_num g_sh_el) H := hP
      have hD : va_D A (wX9_copy cI cJ cS a_o a_refused a_shelves z_road z_kept z_ahead z_cutting z_acting sa ea v_imaged v_lastFault w26_0 f_sh_held f_sh_sort f_sh_cnt f_sh_num g_sh_el) := hD
      exact W.iret hx hb hr (fun t ht _ => ⟨⟨_, (w26_0, g_sh_el), rfl, h, hPt hP ht⟩, hS.F ht⟩) hS.2.2 dX9_copy_29
    refine lv_astore (lv' := [(7, .ref (sa j9)), (6, .null), (0, .ref a_o), (1, .int x1), (2, .int x2), (3, .int x3), (4, .int x4), (5, .int x5)]) hx hb dX9_copy_12 hl (by decide) rfl (fun ls hl => ?_)
    refine lv_aloadN hx hb dX9_copy_14 (lv_at hl 1 rfl) ?_
    refine lv_ifnullN (tgt := 24) hx hb dX9_copy_16 (by decide) ?_
    refine lv_aload_n hx hb dX9_copy_24 rfl (lv_at hl 2 rfl) ?_
    refine lv_iconst (v := (-1)) hx hb dX9_copy_25 (by decide) ?_
    refine rw_i (rwV S hE hT hS hP hD hA (c_X9_refuse h) [0, 1] rfl (by decide +kernel) lkX9_59 rfl ⟨(Nat.le_of_ble_eq_true rfl), (Nat.le_of_ble_eq_true rfl)⟩ 0 rfl rfl hl.1 rfl (Nat.le_of_ble_eq_true rfl) dX9_copy_26 ⟨(Nat.zero_le _), (Nat.zero_le _)⟩) hP hD hS hA [0, 1] rfl (by decide +kernel) (fun _ => rfl) (fun r26 w26_0 H locs h hP hD hS => ?_)
    try dsimp only at h
    have hP : va_P D vwCl (wX9_copy cI cJ cS a_o a_refused a_shelves z_road z_kept z_ahead z_cutting z_acting sa ea v_imaged v_lastFault w26_0 f_sh_held f_sh_sort f_sh_cnt f_sh_num g_sh_el) H := hP
    have hD : va_D A (wX9_copy cI cJ cS a_o a_refused a_shelves z_road z_kept z_ahead z_cutting z_acting sa ea v_imaged v_lastFault w26_0 f_sh_held f_sh_sort f_sh_cnt f_sh_num g_sh_el) := hD
    exact W.iret hx hb hr (fun t ht _ => ⟨⟨_, (w26_0, g_sh_el), rfl, h, hPt hP ht⟩, hS.F ht⟩) hS.2.2 dX9_copy_29
  refine lv_astore (lv' := [(6, .ref (sa j2)), (0, .ref a_o), (1, .int x1), (2, .int x2), (3, .int x3), (4, .int x4), (5, .int x5)]) hx hb dX9_copy_5 hl (by decide) rfl (fun ls hl => ?_)
  refine lv_aload_n hx hb dX9_copy_7 rfl (lv_at hl 1 rfl) ?_
  refine lv_iload_n hx hb dX9_copy_8 rfl (lv_at hl 3 rfl) ?_
  refine ro_s (roV S hE hT hS (c_X9_shelfAt h) lkX9_55 rfl ⟨(Nat.le_of_ble_eq_true rfl), (Nat.le_of_ble_eq_true rfl)⟩ (hP.sub [0, 2] rfl) 0 rfl rfl hl.1 rfl (Nat.le_of_ble_eq_true rfl) dX9_copy_9 ⟨(Nat.zero_le _), (Nat.zero_le _)⟩) (fun h => ?_) (fun j9 hj9 h => ?_)
  · refine lv_astoreN (lv' := [(7, .null), (6, .ref (sa j2)), (0, .ref a_o), (1, .int x1), (2, .int x2), (3, .int x3), (4, .int x4), (5, .int x5)]) hx hb dX9_copy_12 hl (by decide) rfl (fun ls hl => ?_)
    refine lv_aload hx hb dX9_copy_14 (lv_at hl 1 rfl) ?_
    refine lv_ifnull hx hb dX9_copy_16 ?_
    refine lv_aloadN hx hb dX9_copy_19 (lv_at hl 0 rfl) ?_
    refine lv_ifnonnullN hx hb dX9_copy_21 ?_
    refine lv_aload_n hx hb dX9_copy_24 rfl (lv_at hl 2 rfl) ?_
    refine lv_iconst (v := (-1)) hx hb dX9_copy_25 (by decide) ?_
    refine rw_i (rwV S hE hT hS hP hD hA (c_X9_refuse h) [0, 1] rfl (by decide +kernel) lkX9_59 rfl ⟨(Nat.le_of_ble_eq_true rfl), (Nat.le_of_ble_eq_true rfl)⟩ 0 rfl rfl hl.1 rfl (Nat.le_of_ble_eq_true rfl) dX9_copy_26 ⟨(Nat.zero_le _), (Nat.zero_le _)⟩) hP hD hS hA [0, 1] rfl (by decide +kernel) (fun _ => rfl) (fun r26 w26_0 H locs h hP hD hS => ?_)
    try dsimp only at h
    have hP : va_P D vwCl (wX9_copy cI cJ cS a_o a_refused a_shelves z_road z_kept z_ahead z_cutting z_acting sa ea v_imaged v_lastFault w26_0 f_sh_held f_sh_sort f_sh_cnt f_sh_num g_sh_el) H := hP
    have hD : va_D A (wX9_copy cI cJ cS a_o a_refused a_shelves z_road z_kept z_ahead z_cutting z_acting sa ea v_imaged v_lastFault w26_0 f_sh_held f_sh_sort f_sh_cnt f_sh_num g_sh_el) := hD
    exact W.iret hx hb hr (fun t ht _ => ⟨⟨_, (w26_0, g_sh_el), rfl, h, hPt hP ht⟩, hS.F ht⟩) hS.2.2 dX9_copy_29
  refine lv_astore (lv' := [(7, .ref (sa j9)), (6, .ref (sa j2)), (0, .ref a_o), (1, .int x1), (2, .int x2), (3, .int x3), (4, .int x4), (5, .int x5)]) hx hb dX9_copy_12 hl (by decide) rfl (fun ls hl => ?_)
  refine lv_aload hx hb dX9_copy_14 (lv_at hl 1 rfl) ?_
  refine lv_ifnull hx hb dX9_copy_16 ?_
  refine lv_aload hx hb dX9_copy_19 (lv_at hl 0 rfl) ?_
  refine lv_ifnonnull (tgt := 30) hx hb dX9_copy_21 (by decide) ?_
  refine lv_aload hx hb dX9_copy_30 (lv_at hl 1 rfl) ?_
  refine ro_i (roV S hE hT hS (c_X6_holdsStretch h) lkX9_83 rfl ⟨(Nat.le_of_ble_eq_true rfl), (Nat.le_of_ble_eq_true rfl)⟩ (vPc hP (shS rfl hj2) vPn) 0 rfl rfl hl.1 rfl (Nat.le_of_ble_eq_true rfl) dX9_copy_32 ⟨(Nat.zero_le _), (Nat.zero_le _)⟩) (fun r32 h => ?_)
  refine lv_if_ne (tgt := 56) hx hb dX9_copy_35 (by decide) (fun hc => ?_) (fun hc => ?_)
  · have h := h.2 hc
    refine lv_aload_n hx hb dX9_copy_56 rfl (lv_at hl 2 rfl) ?_
    refine lv_bipush (v := (-2)) hx hb dX9_copy_57 (by decide) ?_
    refine rw_i (rwV S hE hT hS hP hD hA (c_X9_refuse h) [0, 1] rfl (by decide +kernel) lkX9_59 rfl ⟨(Nat.le_of_ble_eq_true rfl), (Nat.le_of_ble_eq_true rfl)⟩ 0 rfl rfl hl.1 rfl (Nat.le_of_ble_eq_true rfl) dX9_copy_59 ⟨(Nat.zero_le _), (Nat.zero_le _)⟩) hP hD hS hA [0, 1] rfl (by decide +kernel) (fun _ => rfl) (fun r59 w59_0 H locs h hP hD hS => ?_)
    try dsimp only at h
    have hP : va_P D vwCl (wX9_copy cI cJ cS a_o a_refused a_shelves z_road z_kept z_ahead z_cutting z_acting sa ea v_imaged v_lastFault w59_0 f_sh_held f_sh_sort f_sh_cnt f_sh_num g_sh_el) H := hP
    have hD : va_D A (wX9_copy cI cJ cS a_o a_refused a_shelves z_road z_kept z_ahead z_cutting z_acting sa ea v_imaged v_lastFault w59_0 f_sh_held f_sh_sort f_sh_cnt f_sh_num g_sh_el) := hD
    exact W.iret hx hb hr (fun t ht _ => ⟨⟨_, (w59_0, g_sh_el), rfl, h, hPt hP ht⟩, hS.F ht⟩) hS.2.2 dX9_copy_62
  have h := h.1 hc
  refine lv_aload hx hb dX9_copy_38 (lv_at hl 0 rfl) ?_
  refine ro_i (roV S hE hT hS (c_X6_holdsStretch h) lkX9_83 rfl ⟨(Nat.le_of_ble_eq_true rfl), (Nat.le_of_ble_eq_true rfl)⟩ (vPc hP (shS rfl hj9) vPn) 0 rfl rfl hl.1 rfl (Nat.le_of_ble_eq_true rfl) dX9_copy_40 ⟨(Nat.zero_le _), (Nat.zero_le _)⟩) (fun r40 h => ?_)
  refine lv_if_ne (tgt := 56) hx hb dX9_copy_43 (by decide) (fun hc => ?_) (fun hc => ?_)
  · have h := h.2 hc
    refine lv_aload_n hx hb dX9_copy_56 rfl (lv_at hl 2 rfl) ?_
    refine lv_bipush (v := (-2)) hx hb dX9_copy_57 (by decide) ?_
    refine rw_i (rwV S hE hT hS hP hD hA (c_X9_refuse h) [0, 1] rfl (by decide +kernel) lkX9_59 rfl ⟨(Nat.le_of_ble_eq_true rfl), (Nat.le_of_ble_eq_true rfl)⟩ 0 rfl rfl hl.1 rfl (Nat.le_of_ble_eq_true rfl) dX9_copy_59 ⟨(Nat.zero_le _), (Nat.zero_le _)⟩) hP hD hS hA [0, 1] rfl (by decide +kernel) (fun _ => rfl) (fun r59 w59_0 H locs h hP hD hS => ?_)
    try dsimp only at h
    have hP : va_P D vwCl (wX9_copy cI cJ cS a_o a_refused a_shelves z_road z_kept z_ahead z_cutting z_acting sa ea v_imaged v_lastFault w59_0 f_sh_held f_sh_sort f_sh_cnt f_sh_num g_sh_el) H := hP
    have hD : va_D A (wX9_copy cI cJ cS a_o a_refused a_shelves z_road z_kept z_ahead z_cutting z_acting sa ea v_imaged v_lastFault w59_0 f_sh_held f_sh_sort f_sh_cnt f_sh_num g_sh_el) := hD
    exact W.iret hx hb hr (fun t ht _ => ⟨⟨_, (w59_0, g_sh_el), rfl, h, hPt hP ht⟩, hS.F ht⟩) hS.2.2 dX9_copy_62
  have h := h.1 hc
  refine lv_aload hx hb dX9_copy_46 (lv_at hl 1 rfl) ?_
  refine lv_aload hx hb dX9_copy_48 (lv_at hl 0 rfl) ?_
  refine ro_i (roV S hE hT hS (c_X6_isRowUnlike h) lkX9_87 rfl ⟨(Nat.le_of_ble_eq_true rfl), (Nat.le_of_ble_eq_true rfl)⟩ (vPc hP (shS rfl hj2) (vPc hP (shS rfl hj9) vPn)) 0 rfl rfl hl.1 rfl (Nat.le_of_ble_eq_true rfl) dX9_copy_50 ⟨(Nat.zero_le _), (Nat.zero_le _)⟩) (fun r50 h => ?_)
  refine lv_if_eq (tgt := 63) hx hb dX9_copy_53 (by decide) (fun hc => ?_) (fun hc => ?_)
  · have h := h.1 hc
    refine lv_aload hx hb dX9_copy_63 (lv_at hl 1 rfl) ?_
    refine ro_i (roV S hE hT hS (c_X6_holdsRow h) lkX9_91 rfl ⟨(Nat.le_of_ble_eq_true rfl), (Nat.le_of_ble_eq_true rfl)⟩ (vPc hP (shS rfl hj2) vPn) 0 rfl rfl hl.1 rfl (Nat.le_of_ble_eq_true rfl) dX9_copy_65 ⟨(Nat.zero_le _), (Nat.zero_le _)⟩) (fun r65 h => ?_)
    refine lv_if_eq (tgt := 79) hx hb dX9_copy_68 (by decide) (fun hc => ?_) (fun hc => ?_)
    · have h := h.1 hc
      refine lv_aload_n hx hb dX9_copy_79 rfl (lv_at hl 2 rfl) ?_
      refine lv_bipush (v := (-3)) hx hb dX9_copy_80 (by decide) ?_
      refine rw_i (rwV S hE hT hS hP hD hA (c_X9_refuse h) [0, 1] rfl (by decide +kernel) lkX9_59 rfl ⟨(Nat.le_of_ble_eq_true rfl), (Nat.le_of_ble_eq_true rfl)⟩ 0 rfl rfl hl.1 rfl (Nat.le_of_ble_eq_true rfl) dX9_copy_82 ⟨(Nat.zero_le _), (Nat.zero_le _)⟩) hP hD hS hA [0, 1] rfl (by decide +kernel) (fun _ => rfl) (fun r82 w82_0 H locs h hP hD hS => ?_)
      try dsimp only at h
      have hP : va_P D vwCl (wX9_copy cI cJ cS a_o a_refused a_shelves z_road z_kept z_ahead z_cutting z_acting sa ea v_imaged v_lastFault w82_0 f_sh_held f_sh_sort f_sh_cnt f_sh_num g_sh_el) H := hP
      have hD : va_D A (wX9_copy cI cJ cS a_o a_refused a_shelves z_road z_kept z_ahead z_cutting z_acting sa ea v_imaged v_lastFault w82_0 f_sh_held f_sh_sort f_sh_cnt f_sh_num g_sh_el) := hD
      exact W.iret hx hb hr (fun t ht _ => ⟨⟨_, (w82_0, g_sh_el), rfl, h, hPt hP ht⟩, hS.F ht⟩) hS.2.2 dX9_copy_85
    have h := h.2 hc
    refine lv_aload hx hb dX9_copy_71 (lv_at hl 0 rfl) ?_
    refine ro_i (roV S hE hT hS (c_X6_holdsRow h) lkX9_91 rfl ⟨(Nat.le_of_ble_eq_true rfl), (Nat.le_of_ble_eq_true rfl)⟩ (vPc hP (shS rfl hj9) vPn) 0 rfl rfl hl.1 rfl (Nat.le_of_ble_eq_true rfl) dX9_copy_73 ⟨(Nat.zero_le _), (Nat.zero_le _)⟩) (fun r73 h => ?_)
    refine lv_if_ne (tgt := 86) hx hb dX9_copy_76 (by decide) (fun hc => ?_) (fun hc => ?_)
    · have h := h.2 hc
      refine lv_iload hx hb dX9_copy_86 (lv_at hl 7 rfl) ?_
      refine lv_if_ge (tgt := 98) hx hb dX9_copy_88 (by decide) (fun hc => ?_) (fun hc => ?_)
      · have h := h.1 hc
        refine lv_aload hx hb dX9_copy_98 (lv_at hl 1 rfl) ?_
        refine lv_iload_n hx hb dX9_copy_100 rfl (lv_at hl 5 rfl) ?_
        refine lv_iload hx hb dX9_copy_101 (lv_at hl 7 rfl) ?_
        refine ro_i (roV S hE hT hS (c_X6_hasElements h) lkX9_94 rfl ⟨(Nat.le_of_ble_eq_true rfl), (Nat.le_of_ble_eq_true rfl)⟩ (vPc hP (shS rfl hj2) vPn) 0 rfl rfl hl.1 rfl (Nat.le_of_ble_eq_true rfl) dX9_copy_103 ⟨(Nat.zero_le _), (Nat.zero_le _)⟩) (fun r103 h => ?_)
        refine lv_if_eq (tgt := 121) hx hb dX9_copy_106 (by decide) (fun hc => ?_) (fun hc => ?_)
        · have h := h.1 hc
          refine lv_aload_n hx hb dX9_copy_121 rfl (lv_at hl 2 rfl) ?_
          refine lv_bipush (v := (-5)) hx hb dX9_copy_122 (by decide) ?_
          refine rw_i (rwV S hE hT hS hP hD hA (c_X9_refuse h) [0, 1] rfl (by decide +kernel) lkX9_59 rfl ⟨(Nat.le_of_ble_eq_true rfl), (Nat.le_of_ble_eq_true rfl)⟩ 0 rfl rfl hl.1 rfl (Nat.le_of_ble_eq_true rfl) dX9_copy_124 ⟨(Nat.zero_le _), (Nat.zero_le _)⟩) hP hD hS hA [0, 1] rfl (by decide +kernel) (fun _ => rfl) (fun r124 w124_0 H locs h hP hD hS => ?_)
          try dsimp only at h
          have hP : va_P D vwCl (wX9_copy cI cJ cS a_o a_refused a_shelves z_road z_kept z_ahead z_cutting z_acting sa ea v_imaged v_lastFault w124_0 f_sh_held f_sh_sort f_sh_cnt f_sh_num g_sh_el) H := hP
          have hD : va_D A (wX9_copy cI cJ cS a_o a_refused a_shelves z_road z_kept z_ahead z_cutting z_acting sa ea v_imaged v_lastFault w124_0 f_sh_held f_sh_sort f_sh_cnt f_sh_num g_sh_el) := hD
          exact W.iret hx hb hr (fun t ht _ => ⟨⟨_, (w124_0, g_sh_el), rfl, h, hPt hP ht⟩, hS.F ht⟩) hS.2.2 dX9_copy_127
        have h := h.2 hc
        refine lv_aload hx hb dX9_copy_109 (lv_at hl 0 rfl) ?_
        refine lv_iload hx hb dX9_copy_111 (lv_at hl 6 rfl) ?_
        refine lv_iload hx hb dX9_copy_113 (lv_at hl 7 rfl) ?_
        refine ro_i (roV S hE hT hS (c_X6_hasElements h) lkX9_94 rfl ⟨(Nat.le_of_ble_eq_true rfl), (Nat.le_of_ble_eq_true rfl)⟩ (vPc hP (shS rfl hj9) vPn) 0 rfl rfl hl.1 rfl (Nat.le_of_ble_eq_true rfl) dX9_copy_115 ⟨(Nat.zero_le _), (Nat.zero_le _)⟩) (fun r115 h => ?_)
        refine lv_if_ne (tgt := 128) hx hb dX9_copy_118 (by decide) (fun hc => ?_) (fun hc => ?_)
        · have h := h.2 hc
          refine lv_aload hx hb dX9_copy_128 (lv_at hl 0 rfl) ?_
          refine lv_aload hx hb dX9_copy_130 (lv_at hl 1 rfl) ?_
          refine lv_iload_n hx hb dX9_copy_132 rfl (lv_at hl 5 rfl) ?_
          refine lv_iload hx hb dX9_copy_133 (lv_at hl 6 rfl) ?_
          refine lv_iload hx hb dX9_copy_135 (lv_at hl 7 rfl) ?_
          by_cases hjj : j2 = j9
          · have hk77 := h.1 hjj
            subst hjj
            have h := hk77
            refine rw_v (rwV S hE hT hS hP hD hA (c_X6_takeFrom_same h) [(3 + 2 * j2), (3 + 2 * j2 + 1)] (mCc (shS rfl hj2) (mCc (shE rfl hj2) mCn)) (by simp [va_nd]; try omega) lkX9_98 rfl ⟨(Nat.le_of_ble_eq_true rfl), (Nat.le_of_ble_eq_true rfl)⟩ _ (shS rfl hj2) rfl hl.1 rfl (Nat.le_of_ble_eq_true rfl) dX9_copy_137 ⟨(Nat.zero_le _), (Nat.zero_le _)⟩) hP hD hS hA [(3 + 2 * j2), (3 + 2 * j2 + 1)] (mCc (shS rfl hj2) (mCc (shE rfl hj2) mCn)) (by simp [va_nd]; try omega) (fun _ => rfl) (fun w137_0 H locs h hP hD hS => ?_)
            try dsimp only at h
            have hP : va_P D vwCl (wX9_copy cI cJ cS a_o a_refused a_shelves z_road z_kept z_ahead z_cutting z_acting sa ea v_imaged v_lastFault f_refused f_sh_held f_sh_sort f_sh_cnt f_sh_num (va_up g_sh_el j2 w137_0)) H := by (rcases lt8 hj2 with rfl | rfl | rfl | rfl | rfl | rfl | rfl | rfl) <;> exact hP
            have hD : va_D A (wX9_copy cI cJ cS a_o a_refused a_shelves z_road z_kept z_ahead z_cutting z_acting sa ea v_imaged v_lastFault f_refused f_sh_held f_sh_sort f_sh_cnt f_sh_num (va_up g_sh_el j2 w137_0)) := by (rcases lt8 hj2 with rfl | rfl | rfl | rfl | rfl | rfl | rfl | rfl) <;> exact hD
            refine lv_iconst (v := 1) hx hb dX9_copy_140 (by decide) ?_
            exact W.iret hx hb hr (fun t ht _ => ⟨⟨_, (f_refused, (va_up g_sh_el j2 w137_0)), rfl, h, hPt hP ht⟩, hS.F ht⟩) hS.2.2 dX9_copy_141
          replace h := h.2 hjj
          refine rw_v (rwV S hE hT hS hP hD hA (c_X6_takeFrom h) [(3 + 2 * j9), (3 + 2 * j9 + 1), (3 + 2 * j2), (3 + 2 * j2 + 1)] (mCc (shS rfl hj9) (mCc (shE rfl hj9) (mCc (shS rfl hj2) (mCc (shE rfl hj2) mCn)))) (by simp [va_nd]; try omega) lkX9_98 rfl ⟨(Nat.le_of_ble_eq_true rfl), (Nat.le_of_ble_eq_true rfl)⟩ _ (shS rfl hj9) rfl hl.1 rfl (Nat.le_of_ble_eq_true rfl) dX9_copy_137 ⟨(Nat.zero_le _), (Nat.zero_le _)⟩) hP hD hS hA [(3 + 2 * j9), (3 + 2 * j9 + 1), (3 + 2 * j2), (3 + 2 * j2 + 1)] (mCc (shS rfl hj9) (mCc (shE rfl hj9) (mCc (shS rfl hj2) (mCc (shE rfl hj2) mCn)))) (by simp [va_nd]; try omega) (fun _ => rfl) (fun w137_0 H locs h hP hD hS => ?_)
          try dsimp only at h
          have hP : va_P D vwCl (wX9_copy cI cJ cS a_o a_refused a_shelves z_road z_kept z_ahead z_cutting z_acting sa ea v_imaged v_lastFault f_refused f_sh_held f_sh_sort f_sh_cnt f_sh_num (va_up g_sh_el j9 w137_0)) H := by (rcases lt8 hj9 with rfl | rfl | rfl | rfl | rfl | rfl | rfl | rfl <;> rcases lt8 hj2 with rfl | rfl | rfl | rfl | rfl | rfl | rfl | rfl) <;> first | exact hP | exact absurd rfl hjj
          have hD : va_D A (wX9_copy cI cJ cS a_o a_refused a_shelves z_road z_kept z_ahead z_cutting z_acting sa ea v_imaged v_lastFault f_refused f_sh_held f_sh_sort f_sh_cnt f_sh_num (va_up g_sh_el j9 w137_0)) := by (rcases lt8 hj9 with rfl | rfl | rfl | rfl | rfl | rfl | rfl | rfl <;> rcases lt8 hj2 with rfl | rfl | rfl | rfl | rfl | rfl | rfl | rfl) <;> first | exact hD | exact absurd rfl hjj
          refine lv_iconst (v := 1) hx hb dX9_copy_140 (by decide) ?_
          exact W.iret hx hb hr (fun t ht _ => ⟨⟨_, (f_refused, (va_up g_sh_el j9 w137_0)), rfl, h, hPt hP ht⟩, hS.F ht⟩) hS.2.2 dX9_copy_141
        have h := h.1 hc
        refine lv_aload_n hx hb dX9_copy_121 rfl (lv_at hl 2 rfl) ?_
        refine lv_bipush (v := (-5)) hx hb dX9_copy_122 (by decide) ?_
        refine rw_i (rwV S hE hT hS hP hD hA (c_X9_refuse h) [0, 1] rfl (by decide +kernel) lkX9_59 rfl ⟨(Nat.le_of_ble_eq_true rfl), (Nat.le_of_ble_eq_true rfl)⟩ 0 rfl rfl hl.1 rfl (Nat.le_of_ble_eq_true rfl) dX9_copy_124 ⟨(Nat.zero_le _), (Nat.zero_le _)⟩) hP hD hS hA [0, 1] rfl (by decide +kernel) (fun _ => rfl) (fun r124 w124_0 H locs h hP hD hS => ?_)
        try dsimp only at h
        have hP : va_P D vwCl (wX9_copy cI cJ cS a_o a_refused a_shelves z_road z_kept z_ahead z_cutting z_acting sa ea v_imaged v_lastFault w124_0 f_sh_held f_sh_sort f_sh_cnt f_sh_num g_sh_el) H := hP
        have hD : va_D A (wX9_copy cI cJ cS a_o a_refused a_shelves z_road z_kept z_ahead z_cutting z_acting sa ea v_imaged v_lastFault w124_0 f_sh_held f_sh_sort f_sh_cnt f_sh_num g_sh_el) := hD
        exact W.iret hx hb hr (fun t ht _ => ⟨⟨_, (w124_0, g_sh_el), rfl, h, hPt hP ht⟩, hS.F ht⟩) hS.2.2 dX9_copy_127
      have h := h.2 hc
      refine lv_aload_n hx hb dX9_copy_91 rfl (lv_at hl 2 rfl) ?_
      refine lv_bipush (v := (-4)) hx hb dX9_copy_92 (by decide) ?_
      refine rw_i (rwV S hE hT hS hP hD hA (c_X9_refuse h) [0, 1] rfl (by decide +kernel) lkX9_59 rfl ⟨(Nat.le_of_ble_eq_true rfl), (Nat.le_of_ble_eq_true rfl)⟩ 0 rfl rfl hl.1 rfl (Nat.le_of_ble_eq_true rfl) dX9_copy_94 ⟨(Nat.zero_le _), (Nat.zero_le _)⟩) hP hD hS hA [0, 1] rfl (by decide +kernel) (fun _ => rfl) (fun r94 w94_0 H locs h hP hD hS => ?_)
      try dsimp only at h
      have hP : va_P D vwCl (wX9_copy cI cJ cS a_o a_refused a_shelves z_road z_kept z_ahead z_cutting z_acting sa ea v_imaged v_lastFault w94_0 f_sh_held f_sh_sort f_sh_cnt f_sh_num g_sh_el) H := hP
      have hD : va_D A (wX9_copy cI cJ cS a_o a_refused a_shelves z_road z_kept z_ahead z_cutting z_acting sa ea v_imaged v_lastFault w94_0 f_sh_held f_sh_sort f_sh_cnt f_sh_num g_sh_el) := hD
      exact W.iret hx hb hr (fun t ht _ => ⟨⟨_, (w94_0, g_sh_el), rfl, h, hPt hP ht⟩, hS.F ht⟩) hS.2.2 dX9_copy_97
    have h := h.1 hc
    refine lv_aload_n hx hb dX9_copy_79 rfl (lv_at hl 2 rfl) ?_
    refine lv_bipush (v := (-3)) hx hb dX9_copy_80 (by decide) ?_
    refine rw_i (rwV S hE hT hS hP hD hA (c_X9_refuse h) [0, 1] rfl (by decide +kernel) lkX9_59 rfl ⟨(Nat.le_of_ble_eq_true rfl), (Nat.le_of_ble_eq_true rfl)⟩ 0 rfl rfl hl.1 rfl (Nat.le_of_ble_eq_true rfl) dX9_copy_82 ⟨(Nat.zero_le _), (Nat.zero_le _)⟩) hP hD hS hA [0, 1] rfl (by decide +kernel) (fun _ => rfl) (fun r82 w82_0 H locs h hP hD hS => ?_)
    try dsimp only at h
    have hP : va_P D vwCl (wX9_copy cI cJ cS a_o a_refused a_shelves z_road z_kept z_ahead z_cutting z_acting sa ea v_imaged v_lastFault w82_0 f_sh_held f_sh_sort f_sh_cnt f_sh_num g_sh_el) H := hP
    have hD : va_D A (wX9_copy cI cJ cS a_o a_refused a_shelves z_road z_kept z_ahead z_cutting z_acting sa ea v_imaged v_lastFault w82_0 f_sh_held f_sh_sort f_sh_cnt f_sh_num g_sh_el) := hD
    exact W.iret hx hb hr (fun t ht _ => ⟨⟨_, (w82_0, g_sh_el), rfl, h, hPt hP ht⟩, hS.F ht⟩) hS.2.2 dX9_copy_85
  have h := h.2 hc
  refine lv_aload_n hx hb dX9_copy_56 rfl (lv_at hl 2 rfl) ?_
  refine lv_bipush (v := (-2)) hx hb dX9_copy_57 (by decide) ?_
  refine rw_i (rwV S hE hT hS hP hD hA (c_X9_refuse h) [0, 1] rfl (by decide +kernel) lkX9_59 rfl ⟨(Nat.le_of_ble_eq_true rfl), (Nat.le_of_ble_eq_true rfl)⟩ 0 rfl rfl hl.1 rfl (Nat.le_of_ble_eq_true rfl) dX9_copy_59 ⟨(Nat.zero_le _), (Nat.zero_le _)⟩) hP hD hS hA [0, 1] rfl (by decide +kernel) (fun _ => rfl) (fun r59 w59_0 H locs h hP hD hS => ?_)
  try dsimp only at h
  have hP : va_P D vwCl (wX9_copy cI cJ cS a_o a_refused a_shelves z_road z_kept z_ahead z_cutting z_acting sa ea v_imaged v_lastFault w59_0 f_sh_held f_sh_sort f_sh_cnt f_sh_num g_sh_el) H := hP
  have hD : va_D A (wX9_copy cI cJ cS a_o a_refused a_shelves z_road z_kept z_ahead z_cutting z_acting sa ea v_imaged v_lastFault w59_0 f_sh_held f_sh_sort f_sh_cnt f_sh_num g_sh_el) := hD
  exact W.iret hx hb hr (fun t ht _ => ⟨⟨_, (w59_0, g_sh_el), rfl, h, hPt hP ht⟩, hS.F ht⟩) hS.2.2 dX9_copy_62
/-! X9_element -/
abbrev wX9_element (cI cJ cS : ClassId) (a_o a_shelves : Nat) (z_road z_kept z_ahead z_cutting z_acting z_refused : Value) (sa ea : Nat → Nat) (v_imaged : Int32) (v_lastFault : Int32) (f_sh_held : Nat → Int32) (f_sh_sort : Nat → Int32) (f_sh_cnt : Nat → Int32) (f_sh_num : Nat → Int32) (g_sh_el : Nat → Nat → Int64) : va_W := [(a_o, .inr (8, [z_road, z_kept, z_ahead, .ref a_shelves, z_cutting, z_acting, z_refused, .int v_imaged, .int v_lastFault])), (a_shelves, .inl (cS, 8, .inr (.inr (.inr (.inr (fun k => some (sa k)))))))] ++ shW sa ea cJ f_sh_held f_sh_sort f_sh_cnt f_sh_num g_sh_el
def F_X9_element (f_sh_cnt : Nat → Int32) (g_sh_el : Nat → Nat → Int64) (x1 : Int32) (x2 : Int32) (post : Int64 → Prop) : Prop := (F_X9_shelfAt x1 (post 0) (fun j2 => (F_X6_elementAt (f_sh_cnt j2) (g_sh_el j2) x2 (fun r16 => post r16))))
set_option maxHeartbeats 4000000 in
set_option maxRecDepth 100000 in
theorem c_X9_element {l : Launch} {D : va_G} {cI cJ cS : ClassId} {ad adK : Nat → Nat} {a_o a_shelves : Nat} {z_road z_kept z_ahead z_cutting z_acting z_refused : Value} {sa ea : Nat → Nat} {v_imaged : Int32} {v_lastFault : Int32} {f_sh_held : Nat → Int32} {f_sh_sort : Nat → Int32} {f_sh_cnt : Nat → Int32} {f_sh_num : Nat → Int32} {g_sh_el : Nat → Nat → Int64} {x1 : Int32} {x2 : Int32} {post : Int64 → Prop} (h : F_X9_element f_sh_cnt g_sh_el x1 x2 post) : Met l yX9_element (Cond.code yX9_element cX9_element 4 (some (.long)) :: GW) (rmd 2 0 0) (PR D cI cJ cS ad adK [.ref a_o, .int x1, .int x2] (wX9_element cI cJ cS a_o a_shelves z_road z_kept z_ahead z_cutting z_acting z_refused sa ea v_imaged v_lastFault f_sh_held f_sh_sort f_sh_cnt f_sh_num g_sh_el)) (vp_Sl post) 0 0 nof := by
  refine Met.ro (by decide) (Nat.le_of_ble_eq_true rfl) (fun p e s m args below meth c ls (S : CallFix p m c cX9_element 4 s args GW "RoadThatSings") hE hT hP hS hr hlocks hl => ?_)
  have hx := S.1
  have hb := S.2.1
  have hl : lv_has ls 4 [(0, .ref a_o), (1, .int x1), (2, .int x2)] := hl
  unfold F_X9_element at h
  refine lv_aload_n hx hb dX9_element_0 rfl (lv_at hl 0 rfl) ?_
  refine lv_iload_n hx hb dX9_element_1 rfl (lv_at hl 1 rfl) ?_
  refine ro_s (roV S hE hT hS (c_X9_shelfAt h) lkX9_55 rfl ⟨(Nat.le_of_ble_eq_true rfl), (Nat.le_of_ble_eq_true rfl)⟩ (hP.sub [0, 1] rfl) 0 rfl rfl hl.1 rfl (Nat.le_of_ble_eq_true rfl) dX9_element_2 ⟨(Nat.zero_le _), (Nat.zero_le _)⟩) (fun h => ?_) (fun j2 hj2 h => ?_)
  · refine lv_astore_nN (lv' := [(3, .null), (0, .ref a_o), (1, .int x1), (2, .int x2)]) hx hb dX9_element_5 rfl hl (by decide) rfl (fun ls hl => ?_)
    refine lv_aload_nN hx hb dX9_element_6 rfl (lv_at hl 0 rfl) ?_
    refine lv_ifnonnullN hx hb dX9_element_7 ?_
    refine lv_lconst (v := 0) hx hb dX9_element_10 (by decide) ?_
    refine lv_goto (tgt := 19) hx hb dX9_element_11 (by decide) ?_
    exact W.lret hx hb hr (fun t ht _ => ⟨_, rfl, h, ht⟩) (fun _ hq => by cases hq) dX9_element_19
  refine lv_astore_n (lv' := [(3, .ref (sa j2)), (0, .ref a_o), (1, .int x1), (2, .int x2)]) hx hb dX9_element_5 rfl hl (by decide) rfl (fun ls hl => ?_)
  refine lv_aload_n hx hb dX9_element_6 rfl (lv_at hl 0 rfl) ?_
  refine lv_ifnonnull (tgt := 14) hx hb dX9_element_7 (by decide) ?_
  refine lv_aload_n hx hb dX9_element_14 rfl (lv_at hl 0 rfl) ?_
  refine lv_iload_n hx hb dX9_element_15 rfl (lv_at hl 3 rfl) ?_
  refine ro_l (roV S hE hT hS (c_X6_elementAt h) lkX9_102 rfl ⟨(Nat.le_of_ble_eq_true rfl), (Nat.le_of_ble_eq_true rfl)⟩ (vPc hP (shS rfl hj2) (vPc hP (shE rfl hj2) vPn)) 0 rfl rfl hl.1 rfl (Nat.le_of_ble_eq_true rfl) dX9_element_16 ⟨(Nat.zero_le _), (Nat.zero_le _)⟩) (fun r16 h => ?_)
  exact W.lret hx hb hr (fun t ht _ => ⟨_, rfl, h, ht⟩) (fun _ hq => by cases hq) dX9_element_19
/-! X9_show -/
abbrev wX9_show (cI cJ cS : ClassId) (a_o a_refused a_road a_road_stretches a_shelves : Nat) (z_kept z_ahead z_cutting z_acting z_road_cars z_road_tunes z_road_demands z_road_stretches_kinds z_road_stretches_spaces z_road_stretches_others z_road_stretches_times : Value) (sa ea : Nat → Nat) (v_imaged : Int32) (v_lastFault : Int32) (f_refused : Nat → Int32) (v_road_drawSeed : Int32) (v_road_stretches_stretchCount : Int32) (f_sh_held : Nat → Int32) (f_sh_sort : Nat → Int32) (f_sh_cnt : Nat → Int32) (f_sh_num : Nat → Int32) (g_sh_el : Nat → Nat → Int64) : va_W := [(a_o, .inr (8, [.ref a_road, z_kept, z_ahead, .ref a_shelves, z_cutting, z_acting, .ref a_refused, .int v_imaged, .int v_lastFault])), (a_refused, .inl (cI, 8, .inl f_refused)), (a_road, .inr (4, [.ref a_road_stretches, z_road_cars, z_road_tunes, z_road_demands, .int v_road_drawSeed])), (a_road_stretches, .inr (6, [z_road_stretches_kinds, z_road_stretches_spaces, z_road_stretches_others, z_road_stretches_times, .int v_road_stretches_stretchCount])), (a_shelves, .inl (cS, 8, .inr (.inr (.inr (.inr (fun k => some (sa k)))))))] ++ shW sa ea cJ f_sh_held f_sh_sort f_sh_cnt f_sh_num g_sh_el
def F_X9_show_35 (post : Int32 → (Nat → Int32) → (Nat → Int32) → (Nat → Int32) → (Nat → Int32) → Prop) (x2 : Int32) (j3 : Nat) (f_refused : Nat → Int32) (f_sh_held : Nat → Int32) (f_sh_cnt : Nat → Int32) (f_sh_num : Nat → Int32) : Prop := ((x2 = (-1) → (F_X6_holdNothing (f_sh_held j3) (f_sh_cnt j3) (fun w41_0 w41_1 => post 0 f_refused (va_up f_sh_held j3 w41_0) (va_up f_sh_cnt j3 w41_1) f_sh_num))) ∧ (¬ x2 = (-1) → (F_X6_holdStretch (f_sh_held j3) (f_sh_cnt j3) (f_sh_num j3) x2 (fun w48_0 w48_1 w48_2 => post 1 f_refused (va_up f_sh_held j3 w48_0) (va_up f_sh_cnt j3 w48_1) (va_up f_sh_num j3 w48_2)))))
def F_X9_show (f_refused : Nat → Int32) (v_road_stretches_stretchCount : Int32) (f_sh_held : Nat → Int32) (f_sh_cnt : Nat → Int32) (f_sh_num : Nat → Int32) (x1 : Int32) (x2 : Int32) (post : Int32 → (Nat → Int32) → (Nat → Int32) → (Nat → Int32) → (Nat → Int32) → Prop) : Prop := (F_X9_shelfAt x1 ((F_X9_refuse f_refused (-1) (fun r31 w31_0 => post r31 w31_0 f_sh_held f_sh_cnt f_sh_num))) (fun j2 => ((x2 = (-1) → F_X9_show_35 post x2 j2 f_refused f_sh_held f_sh_cnt f_sh_num) ∧ (¬ x2 = (-1) → (F_X7_has v_road_stretches_stretchCount x2 (fun r23 => ((r23 = 0 → (F_X9_refuse f_refused (-1) (fun r31 w31_0 => post r31 w31_0 f_sh_held f_sh_cnt f_sh_num))) ∧ (¬ r23 = 0 → F_X9_show_35 post x2 j2 f_refused f_sh_held f_sh_cnt f_sh_num))))))))
set_option maxHeartbeats 4000000 in
set_option maxRecDepth 100000 in
theorem w_X9_show_35 {l : Launch} {D : va_G} {cI cJ cS : ClassId} {ad adK : Nat → Nat} {a_o a_refused a_road a_road_stretches a_shelves : Nat} {z_kept z_ahead z_cutting z_acting z_road_cars z_road_tunes z_road_demands z_road_stretches_kinds z_road_stretches_spaces z_road_stretches_others z_road_stretches_times : Value} {sa ea : Nat → Nat} {v_imaged : Int32} {v_lastFault : Int32} {f_refused : Nat → Int32} {v_road_drawSeed : Int32} {v_road_stretches_stretchCount : Int32} {f_sh_held : Nat → Int32} {f_sh_sort : Nat → Int32} {f_sh_cnt : Nat → Int32} {f_sh_num : Nat → Int32} {g_sh_el : Nat → Nat → Int64} {x2 : Int32} {j3 : Nat} {post : Int32 → (Nat → Int32) → (Nat → Int32) → (Nat → Int32) → (Nat → Int32) → Prop} {p : Program} {e : Env} {s : State} {m : MethodId} {args : Array Value} {below : List Frame} {meth : Method} {c : Code} {A : Nat → Prop} (S : CallFix p m c cX9_show 4 s args GW "RoadThatSings") (hE : EN D cI cJ cS s) (hT : ST ad adK A s s.heap) (hA : ∀ q : Nat, s.heap.size ≤ q → A q) (hr : meth.sig.returnType = (some (.int))) (hlocks : meth.locks = false) (hjj3 : j3 < 8) : ∀ (H : Heap) (locs : List Loc) (ls : Array Slot), F_X9_show_35 post x2 j3 f_refused f_sh_held f_sh_cnt f_sh_num → va_P D vwCl (wX9_show cI cJ cS a_o a_refused a_road a_road_stretches a_shelves z_kept z_ahead z_cutting z_acting z_road_cars z_road_tunes z_road_demands z_road_stretches_kinds z_road_stretches_spaces z_road_stretches_others z_road_stretches_times sa ea v_imaged v_lastFault f_refused v_road_drawSeed v_road_stretches_stretchCount f_sh_held f_sh_sort f_sh_cnt f_sh_num g_sh_el) H → va_D A (wX9_show cI cJ cS a_o a_refused a_road a_road_stretches a_shelves z_kept z_ahead z_cutting z_acting z_road_cars z_road_tunes z_road_demands z_road_stretches_kinds z_road_stretches_spaces z_road_stretches_others z_road_stretches_times sa ea v_imaged v_lastFault f_refused v_road_drawSeed v_road_stretches_stretchCount f_sh_held f_sh_sort f_sh_cnt f_sh_num g_sh_el) → va_S A s.heap H locs → lv_has ls 4 [(2, .int x2), (3, .ref (sa j3))] → W p l e (rmd 3 0 0) s m args below meth c H locs 0 0 (MQ below (va_Qi (fun r (u : (Nat → Int32) × (Nat → Int32) × (Nat → Int32) × (Nat → Int32)) => post r u.1 u.2.1 u.2.2.1 u.2.2.2) (fun u t => va_P D vwCl (wX9_show cI cJ cS a_o a_refused a_road a_road_stretches a_shelves z_kept z_ahead z_cutting z_acting z_road_cars z_road_tunes z_road_demands z_road_stretches_kinds z_road_stretches_spaces z_road_stretches_others z_road_stretches_times sa ea v_imaged v_lastFault u.1 v_road_drawSeed v_road_stretches_stretchCount u.2.1 f_sh_sort u.2.2.1 u.2.2.2 g_sh_el) t.heap) A) args s 0 0 A) (F0 m 35 ls []) := by
  intro  H locs ls h hP hD hS hl
  unfold F_X9_show_35 at h
  have hx := S.1
  have hb := S.2.1
  refine lv_iload_n hx hb dX9_show_35 rfl (lv_at hl 0 rfl) ?_
  refine lv_iconst (v := (-1)) hx hb dX9_show_36 (by decide) ?_
  refine lv_icmp_ne (tgt := 46) hx hb dX9_show_37 (by decide) (fun hc => ?_) (fun hc => ?_)
  · have h := h.2 hc
    refine lv_aload_n hx hb dX9_show_46 rfl (lv_at hl 1 rfl) ?_
    refine lv_iload_n hx hb dX9_show_47 rfl (lv_at hl 0 rfl) ?_
    refine rw_v (rwV S hE hT hS hP hD hA (c_X6_holdStretch h) [(5 + 2 * j3)] (mCc (shS rfl hjj3) mCn) (by simp [va_nd]; try omega) lkX9_118 rfl ⟨(Nat.le_of_ble_eq_true rfl), (Nat.le_of_ble_eq_true rfl)⟩ _ (shS rfl hjj3) rfl hl.1 rfl (Nat.le_of_ble_eq_true rfl) dX9_show_48 ⟨(Nat.zero_le _), (Nat.zero_le _)⟩) hP hD hS hA [(5 + 2 * j3)] (mCc (shS rfl hjj3) mCn) (by simp [va_nd]; try omega) (fun _ => rfl) (fun u48 H locs h hP hD hS => ?_)
    obtain ⟨w48_0, w48_1, w48_2⟩ := u48
    try dsimp only at h
    have hP : va_P D vwCl (wX9_show cI cJ cS a_o a_refused a_road a_road_stretches a_shelves z_kept z_ahead z_cutting z_acting z_road_cars z_road_tunes z_road_demands z_road_stretches_kinds z_road_stretches_spaces z_road_stretches_others z_road_stretches_times sa ea v_imaged v_lastFault f_refused v_road_drawSeed v_road_stretches_stretchCount (va_up f_sh_held j3 w48_0) f_sh_sort (va_up f_sh_cnt j3 w48_1) (va_up f_sh_num j3 w48_2) g_sh_el) H := by (rcases lt8 hjj3 with rfl | rfl | rfl | rfl | rfl | rfl | rfl | rfl) <;> exact hP
    have hD : va_D A (wX9_show cI cJ cS a_o a_refused a_road a_road_stretches a_shelves z_kept z_ahead z_cutting z_acting z_road_cars z_road_tunes z_road_demands z_road_stretches_kinds z_road_stretches_spaces z_road_stretches_others z_road_stretches_times sa ea v_imaged v_lastFault f_refused v_road_drawSeed v_road_stretches_stretchCount (va_up f_sh_held j3 w48_0) f_sh_sort (va_up f_sh_cnt j3 w48_1) (va_up f_sh_num j3 w48_2) g_sh_el) := by (rcases lt8 hjj3 with rfl | rfl | rfl | rfl | rfl | rfl | rfl | rfl) <;> exact hD
    refine lv_iconst (v := 1) hx hb dX9_show_51 (by decide) ?_
    exact W.iret hx hb hr (fun t ht _ => ⟨⟨_, (f_refused, (va_up f_sh_held j3 w48_0), (va_up f_sh_cnt j3 w48_1), (va_up f_sh_num j3 w48_2)), rfl, h, hPt hP ht⟩, hS.F ht⟩) hS.2.2 dX9_show_52
  have h := h.1 hc
  refine lv_aload_n hx hb dX9_show_40 rfl (lv_at hl 1 rfl) ?_
  refine rw_v (rwV S hE hT hS hP hD hA (c_X6_holdNothing h) [(5 + 2 * j3)] (mCc (shS rfl hjj3) mCn) (by simp [va_nd]; try omega) lkX9_115 rfl ⟨(Nat.le_of_ble_eq_true rfl), (Nat.le_of_ble_eq_true rfl)⟩ _ (shS rfl hjj3) rfl hl.1 rfl (Nat.le_of_ble_eq_true rfl) dX9_show_41 ⟨(Nat.zero_le _), (Nat.zero_le _)⟩) hP hD hS hA [(5 + 2 * j3)] (mCc (shS rfl hjj3) mCn) (by simp [va_nd]; try omega) (fun _ => rfl) (fun u41 H locs h hP hD hS => ?_)
  obtain ⟨w41_0, w41_1⟩ := u41
  try dsimp only at h
  have hP : va_P D vwCl (wX9_show cI cJ cS a_o a_refused a_road a_road_stretches a_shelves z_kept z_ahead z_cutting z_acting z_road_cars z_road_tunes z_road_demands z_road_stretches_kinds z_road_stretches_spaces z_road_stretches_others z_road_stretches_times sa ea v_imaged v_lastFault f_refused v_road_drawSeed v_road_stretches_stretchCount (va_up f_sh_held j3 w41_0) f_sh_sort (va_up f_sh_cnt j3 w41_1) f_sh_num g_sh_el) H := by (rcases lt8 hjj3 with rfl | rfl | rfl | rfl | rfl | rfl | rfl | rfl) <;> exact hP
  have hD : va_D A (wX9_show cI cJ cS a_o a_refused a_road a_road_stretches a_shelves z_kept z_ahead z_cutting z_acting z_road_cars z_road_tunes z_road_demands z_road_stretches_kinds z_road_stretches_spaces z_road_stretches_others z_road_stretches_times sa ea v_imaged v_lastFault f_refused v_road_drawSeed v_road_stretches_stretchCount (va_up f_sh_held j3 w41_0) f_sh_sort (va_up f_sh_cnt j3 w41_1) f_sh_num g_sh_el) := by (rcases lt8 hjj3 with rfl | rfl | rfl | rfl | rfl | rfl | rfl | rfl) <;> exact hD
  refine lv_iconst (v := 0) hx hb dX9_show_44 (by decide) ?_
  exact W.iret hx hb hr (fun t ht _ => ⟨⟨_, (f_refused, (va_up f_sh_held j3 w41_0), (va_up f_sh_cnt j3 w41_1), f_sh_num), rfl, h, hPt hP ht⟩, hS.F ht⟩) hS.2.2 dX9_show_45
set_option maxHeartbeats 4000000 in
set_option maxRecDepth 100000 in
theorem c_X9_show {l : Launch} {D : va_G} {cI cJ cS : ClassId} {ad adK : Nat → Nat} {a_o a_refused a_road a_road_stretches a_shelves : Nat} {z_kept z_ahead z_cutting z_acting z_road_cars z_road_tunes z_road_demands z_road_stretches_kinds z_road_stretches_spaces z_road_stretches_others z_road_stretches_times : Value} {sa ea : Nat → Nat} {v_imaged : Int32} {v_lastFault : Int32} {f_refused : Nat → Int32} {v_road_drawSeed : Int32} {v_road_stretches_stretchCount : Int32} {f_sh_held : Nat → Int32} {f_sh_sort : Nat → Int32} {f_sh_cnt : Nat → Int32} {f_sh_num : Nat → Int32} {g_sh_el : Nat → Nat → Int64} {x1 : Int32} {x2 : Int32} {post : Int32 → (Nat → Int32) → (Nat → Int32) → (Nat → Int32) → (Nat → Int32) → Prop} (h : F_X9_show f_refused v_road_stretches_stretchCount f_sh_held f_sh_cnt f_sh_num x1 x2 post) {sz : Nat} : Met l yX9_show (Cond.code yX9_show cX9_show 4 (some (.int)) :: GW) (rmd 3 0 0) (PW D cI cJ cS ad adK [.ref a_o, .int x1, .int x2] (wX9_show cI cJ cS a_o a_refused a_road a_road_stretches a_shelves z_kept z_ahead z_cutting z_acting z_road_cars z_road_tunes z_road_demands z_road_stretches_kinds z_road_stretches_spaces z_road_stretches_others z_road_stretches_times sa ea v_imaged v_lastFault f_refused v_road_drawSeed v_road_stretches_stretchCount f_sh_held f_sh_sort f_sh_cnt f_sh_num g_sh_el) sz) (va_Qi (fun r (u : (Nat → Int32) × (Nat → Int32) × (Nat → Int32) × (Nat → Int32)) => post r u.1 u.2.1 u.2.2.1 u.2.2.2) (fun u t => va_P D vwCl (wX9_show cI cJ cS a_o a_refused a_road a_road_stretches a_shelves z_kept z_ahead z_cutting z_acting z_road_cars z_road_tunes z_road_demands z_road_stretches_kinds z_road_stretches_spaces z_road_stretches_others z_road_stretches_times sa ea v_imaged v_lastFault u.1 v_road_drawSeed v_road_stretches_stretchCount u.2.1 f_sh_sort u.2.2.1 u.2.2.2 g_sh_el) t.heap) (va_A (wX9_show cI cJ cS a_o a_refused a_road a_road_stretches a_shelves z_kept z_ahead z_cutting z_acting z_road_cars z_road_tunes z_road_demands z_road_stretches_kinds z_road_stretches_spaces z_road_stretches_others z_road_stretches_times sa ea v_imaged v_lastFault f_refused v_road_drawSeed v_road_stretches_stretchCount f_sh_held f_sh_sort f_sh_cnt f_sh_num g_sh_el) sz)) 0 0 (va_A (wX9_show cI cJ cS a_o a_refused a_road a_road_stretches a_shelves z_kept z_ahead z_cutting z_acting z_road_cars z_road_tunes z_road_demands z_road_stretches_kinds z_road_stretches_spaces z_road_stretches_others z_road_stretches_times sa ea v_imaged v_lastFault f_refused v_road_drawSeed v_road_stretches_stretchCount f_sh_held f_sh_sort f_sh_cnt f_sh_num g_sh_el) sz) := by
  refine Met.rw (Qc := fun A => (va_Qi (fun r (u : (Nat → Int32) × (Nat → Int32) × (Nat → Int32) × (Nat → Int32)) => post r u.1 u.2.1 u.2.2.1 u.2.2.2) (fun u t => va_P D vwCl (wX9_show cI cJ cS a_o a_refused a_road a_road_stretches a_shelves z_kept z_ahead z_cutting z_acting z_road_cars z_road_tunes z_road_demands z_road_stretches_kinds z_road_stretches_spaces z_road_stretches_others z_road_stretches_times sa ea v_imaged v_lastFault u.1 v_road_drawSeed v_road_stretches_stretchCount u.2.1 f_sh_sort u.2.2.1 u.2.2.2 g_sh_el) t.heap) A)) (by decide) (Nat.le_of_ble_eq_true rfl) (fun p e s m args below meth c ls A (S : CallFix p m c cX9_show 4 s args GW "RoadThatSings") hE hT hP hD hA hS hr hlocks hname hl => ?_)
  have hS0 := hS
  have hx := S.1
  have hb := S.2.1
  have hl : lv_has ls 4 [(0, .ref a_o), (1, .int x1), (2, .int x2)] := hl
  unfold F_X9_show at h
  refine lv_aload_n hx hb dX9_show_0 rfl (lv_at hl 0 rfl) ?_
  refine lv_iload_n hx hb dX9_show_1 rfl (lv_at hl 1 rfl) ?_
  refine ro_s (roV S hE hT hS (c_X9_shelfAt h) lkX9_55 rfl ⟨(Nat.le_of_ble_eq_true rfl), (Nat.le_of_ble_eq_true rfl)⟩ (hP.sub [0, 4] rfl) 0 rfl rfl hl.1 rfl (Nat.le_of_ble_eq_true rfl) dX9_show_2 ⟨(Nat.zero_le _), (Nat.zero_le _)⟩) (fun h => ?_) (fun j2 hj2 h => ?_)
  · refine lv_astore_nN (lv' := [(3, .null), (0, .ref a_o), (1, .int x1), (2, .int x2)]) hx hb dX9_show_5 rfl hl (by decide) rfl (fun ls hl => ?_)
    refine lv_aload_nN hx hb dX9_show_6 rfl (lv_at hl 0 rfl) ?_
    refine lv_ifnullN (tgt := 29) hx hb dX9_show_7 (by decide) ?_
    refine lv_aload_n hx hb dX9_show_29 rfl (lv_at hl 1 rfl) ?_
    refine lv_iconst (v := (-1)) hx hb dX9_show_30 (by decide) ?_
    refine rw_i (rwV S hE hT hS hP hD hA (c_X9_refuse h) [0, 1] rfl (by decide +kernel) lkX9_59 rfl ⟨(Nat.le_of_ble_eq_true rfl), (Nat.le_of_ble_eq_true rfl)⟩ 0 rfl rfl hl.1 rfl (Nat.le_of_ble_eq_true rfl) dX9_show_31 ⟨(Nat.zero_le _), (Nat.zero_le _)⟩) hP hD hS hA [0, 1] rfl (by decide +kernel) (fun _ => rfl) (fun r31 w31_0 H locs h hP hD hS => ?_)
    try dsimp only at h
    have hP : va_P D vwCl (wX9_show cI cJ cS a_o a_refused a_road a_road_stretches a_shelves z_kept z_ahead z_cutting z_acting z_road_cars z_road_tunes z_road_demands z_road_stretches_kinds z_road_stretches_spaces z_road_stretches_others z_road_stretches_times sa ea v_imaged v_lastFault w31_0 v_road_drawSeed v_road_stretches_stretchCount f_sh_held f_sh_sort f_sh_cnt f_sh_num g_sh_el) H := hP
    have hD : va_D A (wX9_show cI cJ cS a_o a_refused a_road a_road_stretches a_shelves z_kept z_ahead z_cutting z_acting z_road_cars z_road_tunes z_road_demands z_road_stretches_kinds z_road_stretches_spaces z_road_stretches_others z_road_stretches_times sa ea v_imaged v_lastFault w31_0 v_road_drawSeed v_road_stretches_stretchCount f_sh_held f_sh_sort f_sh_cnt f_sh_num g_sh_el) := hD
    exact W.iret hx hb hr (fun t ht _ => ⟨⟨_, (w31_0, f_sh_held, f_sh_cnt, f_sh_num), rfl, h, hPt hP ht⟩, hS.F ht⟩) hS.2.2 dX9_show_34
  refine lv_astore_n (lv' := [(3, .ref (sa j2)), (0, .ref a_o), (1, .int x1), (2, .int x2)]) hx hb dX9_show_5 rfl hl (by decide) rfl (fun ls hl => ?_)
  refine lv_aload_n hx hb dX9_show_6 rfl (lv_at hl 0 rfl) ?_
  refine lv_ifnull hx hb dX9_show_7 ?_
  refine lv_iload_n hx hb dX9_show_10 rfl (lv_at hl 3 rfl) ?_
  refine lv_iconst (v := (-1)) hx hb dX9_show_11 (by decide) ?_
  refine lv_icmp_eq (tgt := 35) hx hb dX9_show_12 (by decide) (fun hc => ?_) (fun hc => ?_)
  · have h := h.1 hc
    refine w_X9_show_35 S hE hT hA hr hlocks hj2 _ _ _ h hP hD hS (lv_sub hl [3, 0] rfl)
  have h := h.2 hc
  refine lv_aload_n hx hb dX9_show_15 rfl (lv_at hl 1 rfl) ?_
  refine gf S hE hP 0 rfl rfl inX9 (k := 0) (by decide) q181 rfl dX9_show_16 ?_
  refine gfN S hE hP 2 rfl rfl inX5 (k := 0) (by decide) nfX9_106 rfl dX9_show_19 ?_
  refine lv_iload_n hx hb dX9_show_22 rfl (lv_at hl 3 rfl) ?_
  refine ro_i (roV S hE hT hS (c_X7_has h) lkX9_110 rfl ⟨(Nat.le_of_ble_eq_true rfl), (Nat.le_of_ble_eq_true rfl)⟩ (hP.sub [3] rfl) 0 rfl rfl hl.1 rfl (Nat.le_of_ble_eq_true rfl) dX9_show_23 ⟨(Nat.zero_le _), (Nat.zero_le _)⟩) (fun r23 h => ?_)
  refine lv_if_ne (tgt := 35) hx hb dX9_show_26 (by decide) (fun hc => ?_) (fun hc => ?_)
  · have h := h.2 hc
    refine w_X9_show_35 S hE hT hA hr hlocks hj2 _ _ _ h hP hD hS (lv_sub hl [3, 0] rfl)
  have h := h.1 hc
  refine lv_aload_n hx hb dX9_show_29 rfl (lv_at hl 1 rfl) ?_
  refine lv_iconst (v := (-1)) hx hb dX9_show_30 (by decide) ?_
  refine rw_i (rwV S hE hT hS hP hD hA (c_X9_refuse h) [0, 1] rfl (by decide +kernel) lkX9_59 rfl ⟨(Nat.le_of_ble_eq_true rfl), (Nat.le_of_ble_eq_true rfl)⟩ 0 rfl rfl hl.1 rfl (Nat.le_of_ble_eq_true rfl) dX9_show_31 ⟨(Nat.zero_le _), (Nat.zero_le _)⟩) hP hD hS hA [0, 1] rfl (by decide +kernel) (fun _ => rfl) (fun r31 w31_0 H locs h hP hD hS => ?_)
  try dsimp only at h
  have hP : va_P D vwCl (wX9_show cI cJ cS a_o a_refused a_road a_road_stretches a_shelves z_kept z_ahead z_cutting z_acting z_road_cars z_road_tunes z_road_demands z_road_stretches_kinds z_road_stretches_spaces z_road_stretches_others z_road_stretches_times sa ea v_imaged v_lastFault w31_0 v_road_drawSeed v_road_stretches_stretchCount f_sh_held f_sh_sort f_sh_cnt f_sh_num g_sh_el) H := hP
  have hD : va_D A (wX9_show cI cJ cS a_o a_refused a_road a_road_stretches a_shelves z_kept z_ahead z_cutting z_acting z_road_cars z_road_tunes z_road_demands z_road_stretches_kinds z_road_stretches_spaces z_road_stretches_others z_road_stretches_times sa ea v_imaged v_lastFault w31_0 v_road_drawSeed v_road_stretches_stretchCount f_sh_held f_sh_sort f_sh_cnt f_sh_num g_sh_el) := hD
  exact W.iret hx hb hr (fun t ht _ => ⟨⟨_, (w31_0, f_sh_held, f_sh_cnt, f_sh_num), rfl, h, hPt hP ht⟩, hS.F ht⟩) hS.2.2 dX9_show_34
/-! X9_holds -/
abbrev wX9_holds (cI cJ cS : ClassId) (a_o a_shelves : Nat) (z_road z_kept z_ahead z_cutting z_acting z_refused : Value) (sa ea : Nat → Nat) (v_imaged : Int32) (v_lastFault : Int32) (f_sh_held : Nat → Int32) (f_sh_sort : Nat → Int32) (f_sh_cnt : Nat → Int32) (f_sh_num : Nat → Int32) (g_sh_el : Nat → Nat → Int64) : va_W := [(a_o, .inr (8, [z_road, z_kept, z_ahead, .ref a_shelves, z_cutting, z_acting, z_refused, .int v_imaged, .int v_lastFault])), (a_shelves, .inl (cS, 8, .inr (.inr (.inr (.inr (fun k => some (sa k)))))))] ++ shW sa ea cJ f_sh_held f_sh_sort f_sh_cnt f_sh_num g_sh_el
def F_X9_holds (f_sh_held : Nat → Int32) (f_sh_sort : Nat → Int32) (f_sh_num : Nat → Int32) (x1 : Int32) (post : Int32 → Prop) : Prop := (F_X9_shelfAt x1 (post (-1)) (fun j2 => (F_X6_whatIsHeld (f_sh_held j2) (f_sh_sort j2) (f_sh_num j2) (fun r15 => post r15))))
set_option maxHeartbeats 4000000 in
set_option maxRecDepth 100000 in
theorem c_X9_holds {l : Launch} {D : va_G} {cI cJ cS : ClassId} {ad adK : Nat → Nat} {a_o a_shelves : Nat} {z_road z_kept z_ahead z_cutting z_acting z_refused : Value} {sa ea : Nat → Nat} {v_imaged : Int32} {v_lastFault : Int32} {f_sh_held : Nat → Int32} {f_sh_sort : Nat → Int32} {f_sh_cnt : Nat → Int32} {f_sh_num : Nat → Int32} {g_sh_el : Nat → Nat → Int64} {x1 : Int32} {post : Int32 → Prop} (h : F_X9_holds f_sh_held f_sh_sort f_sh_num x1 post) : Met l yX9_holds (Cond.code yX9_holds cX9_holds 3 (some (.int)) :: GW) (rmd 2 0 0) (PR D cI cJ cS ad adK [.ref a_o, .int x1] (wX9_holds cI cJ cS a_o a_shelves z_road z_kept z_ahead z_cutting z_acting z_refused sa ea v_imaged v_lastFault f_sh_held f_sh_sort f_sh_cnt f_sh_num g_sh_el)) (vp_Si post) 0 0 nof := by
  refine Met.ro (by decide) (Nat.le_of_ble_eq_true rfl) (fun p e s m args below meth c ls (S : CallFix p m c cX9_holds 3 s args GW "RoadThatSings") hE hT hP hS hr hlocks hl => ?_)
  have hx := S.1
  have hb := S.2.1
  have hl : lv_has ls 3 [(0, .ref a_o), (1, .int x1)] := hl
  unfold F_X9_holds at h
  refine lv_aload_n hx hb dX9_holds_0 rfl (lv_at hl 0 rfl) ?_
  refine lv_iload_n hx hb dX9_holds_1 rfl (lv_at hl 1 rfl) ?_
  refine ro_s (roV S hE hT hS (c_X9_shelfAt h) lkX9_55 rfl ⟨(Nat.le_of_ble_eq_true rfl), (Nat.le_of_ble_eq_true rfl)⟩ (hP.sub [0, 1] rfl) 0 rfl rfl hl.1 rfl (Nat.le_of_ble_eq_true rfl) dX9_holds_2 ⟨(Nat.zero_le _), (Nat.zero_le _)⟩) (fun h => ?_) (fun j2 hj2 h => ?_)
  · refine lv_astore_nN (lv' := [(2, .null), (0, .ref a_o), (1, .int x1)]) hx hb dX9_holds_5 rfl hl (by decide) rfl (fun ls hl => ?_)
    refine lv_aload_nN hx hb dX9_holds_6 rfl (lv_at hl 0 rfl) ?_
    refine lv_ifnonnullN hx hb dX9_holds_7 ?_
    refine lv_iconst (v := (-1)) hx hb dX9_holds_10 (by decide) ?_
    refine lv_goto (tgt := 18) hx hb dX9_holds_11 (by decide) ?_
    exact W.iret hx hb hr (fun t ht _ => ⟨_, rfl, h, ht⟩) (fun _ hq => by cases hq) dX9_holds_18
  refine lv_astore_n (lv' := [(2, .ref (sa j2)), (0, .ref a_o), (1, .int x1)]) hx hb dX9_holds_5 rfl hl (by decide) rfl (fun ls hl => ?_)
  refine lv_aload_n hx hb dX9_holds_6 rfl (lv_at hl 0 rfl) ?_
  refine lv_ifnonnull (tgt := 14) hx hb dX9_holds_7 (by decide) ?_
  refine lv_aload_n hx hb dX9_holds_14 rfl (lv_at hl 0 rfl) ?_
  refine ro_i (roV S hE hT hS (c_X6_whatIsHeld h) lkX9_122 rfl ⟨(Nat.le_of_ble_eq_true rfl), (Nat.le_of_ble_eq_true rfl)⟩ (vPc hP (shS rfl hj2) vPn) 0 rfl rfl hl.1 rfl (Nat.le_of_ble_eq_true rfl) dX9_holds_15 ⟨(Nat.zero_le _), (Nat.zero_le _)⟩) (fun r15 h => ?_)
  exact W.iret hx hb hr (fun t ht _ => ⟨_, rfl, h, ht⟩) (fun _ hq => by cases hq) dX9_holds_18
/-! X9_isKindUnder -/
abbrev wX9_isKindUnder (cI cJ cS : ClassId) : va_W := []
def L_X9_isKindUnder_4 (x1 : Int32) (post : Int32 → Prop) : Nat → Int32 → Int32 → Prop
  | 0, _, _ => False
  | n4 + 1, x2, x3 => ((7 ≤ x3 → post 0) ∧ (¬ 7 ≤ x3 → ((x2 = (-1) → post 0) ∧ (¬ x2 = (-1) → ((x2 = x1 → post 1) ∧ (¬ x2 = x1 → (F_X9_kindAbove x2 (fun r23 => (∀ x3_27 : Int32, x3_27 = x3 + 1 → L_X9_isKindUnder_4 x1 post n4 r23 x3_27)))))))))
def F_X9_isKindUnder (x0 : Int32) (x1 : Int32) (post : Int32 → Prop) : Prop := (∃ n4 : Nat, L_X9_isKindUnder_4 x1 post n4 x0 0)
set_option maxHeartbeats 4000000 in
set_option maxRecDepth 100000 in
theorem w_X9_isKindUnder_4 {l : Launch} {D : va_G} {cI cJ cS : ClassId} {ad adK : Nat → Nat}  {x1 : Int32} {post : Int32 → Prop} {p : Program} {e : Env} {s : State} {m : MethodId} {args : Array Value} {below : List Frame} {meth : Method} {c : Code} (S : CallFix p m c cX9_isKindUnder 4 s args GW "RoadThatSings") (hE : EN D cI cJ cS s) (hT : ST ad adK nof s s.heap) (hP : va_P D vwCl (wX9_isKindUnder cI cJ cS) s.heap) (hS : va_S nof s.heap s.heap []) (hr : meth.sig.returnType = (some (.boolean))) (hlocks : meth.locks = false) : ∀ n : Nat, ∀ (x2 : Int32) (x3 : Int32) (ls : Array Slot), L_X9_isKindUnder_4 x1 post n x2 x3 → lv_has ls 4 [(1, .int x1), (2, .int x2), (3, .int x3)] → W p l e (rmd 2 0 0) s m args below meth c s.heap [] 0 0 (MQ below (vp_Si post) args s 0 0 nof) (F0 m 4 ls []) := by
  intro n
  induction n with
  | zero =>
    intro x2 x3 ls h hl
    exact h.elim
  | succ n ih =>
    intro x2 x3 ls h hl
    rw [L_X9_isKindUnder_4] at h
    have hx := S.1
    have hb := S.2.1
    refine lv_iload_n hx hb dX9_isKindUnder_4 rfl (lv_at hl 2 rfl) ?_
    refine lv_bipush (v := 7) hx hb dX9_isKindUnder_5 (by decide) ?_
    refine lv_icmp_ge (tgt := 33) hx hb dX9_isKindUnder_7 (by decide) (fun hc => ?_) (fun hc => ?_)
    · have h := h.1 hc
      refine lv_iconst (v := 0) hx hb dX9_isKindUnder_33 (by decide) ?_
      exact W.zret hx hb hr rfl (fun t ht _ => ⟨_, rfl, h, ht⟩) (fun _ hq => by cases hq) dX9_isKindUnder_34
    have h := h.2 hc
    refine lv_iload_n hx hb dX9_isKindUnder_10 rfl (lv_at hl 1 rfl) ?_
    refine lv_iconst (v := (-1)) hx hb dX9_isKindUnder_11 (by decide) ?_
    refine lv_icmp_eq (tgt := 33) hx hb dX9_isKindUnder_12 (by decide) (fun hc => ?_) (fun hc => ?_)
    · have h := h.1 hc
      refine lv_iconst (v := 0) hx hb dX9_isKindUnder_33 (by decide) ?_
      exact W.zret hx hb hr rfl (fun t ht _ => ⟨_, rfl, h, ht⟩) (fun _ hq => by cases hq) dX9_isKindUnder_34
    have h := h.2 hc
    refine lv_iload_n hx hb dX9_isKindUnder_15 rfl (lv_at hl 1 rfl) ?_
    refine lv_iload_n hx hb dX9_isKindUnder_16 rfl (lv_at hl 0 rfl) ?_
    refine lv_icmp_ne (tgt := 22) hx hb dX9_isKindUnder_17 (by decide) (fun hc => ?_) (fun hc => ?_)
    · have h := h.2 hc
      refine lv_iload_n hx hb dX9_isKindUnder_22 rfl (lv_at hl 1 rfl) ?_
      refine ro_i (roS S hE hT hS (c_X9_kindAbove h) lkX9_416 rfl ⟨(Nat.le_of_ble_eq_true rfl), (Nat.le_of_ble_eq_true rfl)⟩ (hP.sub [] rfl) hl.1 rfl (Nat.le_of_ble_eq_true rfl) dX9_isKindUnder_23 ⟨(Nat.zero_le _), (Nat.zero_le _)⟩) (fun r23 h => ?_)
      refine lv_istore_n (lv' := [(2, .int r23), (1, .int x1), (3, .int x3)]) hx hb dX9_isKindUnder_26 rfl hl (by decide) rfl (fun ls hl => ?_)
      obtain ⟨x3_27, ex3_27⟩ : ∃ z : Int32, z = x3 + 1 := ⟨_, rfl⟩
      have h := h _ ex3_27
      refine lv_iinc (v := x3_27) (lv' := [(3, .int x3_27), (2, .int r23), (1, .int x1)]) hx hb dX9_isKindUnder_27 hl (k := 2) rfl (by rw [ex3_27]; rfl) (by decide) rfl (fun ls hl => ?_)
      refine lv_goto (tgt := 4) hx hb dX9_isKindUnder_30 (by decide) ?_
      exact ih _ _ _ h (lv_sub hl [2, 1, 0] rfl)
    have h := h.1 hc
    refine lv_iconst (v := 1) hx hb dX9_isKindUnder_20 (by decide) ?_
    exact W.zret hx hb hr rfl (fun t ht _ => ⟨_, rfl, h, ht⟩) (fun _ hq => by cases hq) dX9_isKindUnder_21
set_option maxHeartbeats 4000000 in
set_option maxRecDepth 100000 in
theorem c_X9_isKindUnder {l : Launch} {D : va_G} {cI cJ cS : ClassId} {ad adK : Nat → Nat}  {x0 : Int32} {x1 : Int32} {post : Int32 → Prop} (h : F_X9_isKindUnder x0 x1 post) : Met l yX9_isKindUnder (Cond.code yX9_isKindUnder cX9_isKindUnder 4 (some (.boolean)) :: GW) (rmd 2 0 0) (PR D cI cJ cS ad adK [.int x0, .int x1] (wX9_isKindUnder cI cJ cS)) (vp_Si post) 0 0 nof := by
  refine Met.ro (by decide) (Nat.le_of_ble_eq_true rfl) (fun p e s m args below meth c ls (S : CallFix p m c cX9_isKindUnder 4 s args GW "RoadThatSings") hE hT hP hS hr hlocks hl => ?_)
  have hx := S.1
  have hb := S.2.1
  have hl : lv_has ls 4 [(0, .int x0), (1, .int x1)] := hl
  unfold F_X9_isKindUnder at h
  refine lv_iload_n hx hb dX9_isKindUnder_0 rfl (lv_at hl 0 rfl) ?_
  refine lv_istore_n (lv' := [(2, .int x0), (0, .int x0), (1, .int x1)]) hx hb dX9_isKindUnder_1 rfl hl (by decide) rfl (fun ls hl => ?_)
  refine lv_iconst (v := 0) hx hb dX9_isKindUnder_2 (by decide) ?_
  refine lv_istore_n (lv' := [(3, .int 0), (2, .int x0), (0, .int x0), (1, .int x1)]) hx hb dX9_isKindUnder_3 rfl hl (by decide) rfl (fun ls hl => ?_)
  obtain ⟨n, h⟩ := h
  refine w_X9_isKindUnder_4 S hE hT hP hS hr hlocks n _ _ _ h (lv_sub hl [3, 1, 0] rfl)
/-! X9_says -/
abbrev wX9_says (cI cJ cS : ClassId) (a_o a_refused a_road a_road_stretches a_road_stretches_kinds a_road_stretches_others a_road_stretches_spaces a_road_stretches_times a_shelves : Nat) (z_kept z_ahead z_cutting z_acting z_road_cars z_road_tunes z_road_demands : Value) (sa ea : Nat → Nat) (v_imaged : Int32) (v_lastFault : Int32) (f_refused : Nat → Int32) (v_road_drawSeed : Int32) (v_road_stretches_stretchCount : Int32) (f_road_stretches_kinds : Nat → Int32) (f_road_stretches_others : Nat → Int32) (f_road_stretches_spaces : Nat → Int32) (f_road_stretches_times : Nat → Int32) (f_sh_held : Nat → Int32) (f_sh_sort : Nat → Int32) (f_sh_cnt : Nat → Int32) (f_sh_num : Nat → Int32) (g_sh_el : Nat → Nat → Int64) : va_W := [(a_o, .inr (8, [.ref a_road, z_kept, z_ahead, .ref a_shelves, z_cutting, z_acting, .ref a_refused, .int v_imaged, .int v_lastFault])), (a_refused, .inl (cI, 8, .inl f_refused)), (a_road, .inr (4, [.ref a_road_stretches, z_road_cars, z_road_tunes, z_road_demands, .int v_road_drawSeed])), (a_road_stretches, .inr (6, [.ref a_road_stretches_kinds, .ref a_road_stretches_spaces, .ref a_road_stretches_others, .ref a_road_stretches_times, .int v_road_stretches_stretchCount])), (a_road_stretches_kinds, .inl (cI, 16, .inl f_road_stretches_kinds)), (a_road_stretches_others, .inl (cI, 16, .inl f_road_stretches_others)), (a_road_stretches_spaces, .inl (cI, 16, .inl f_road_stretches_spaces)), (a_road_stretches_times, .inl (cI, 16, .inl f_road_stretches_times)), (a_shelves, .inl (cS, 8, .inr (.inr (.inr (.inr (fun k => some (sa k)))))))] ++ shW sa ea cJ f_sh_held f_sh_sort f_sh_cnt f_sh_num g_sh_el
def F_X9_says (f_refused : Nat → Int32) (v_road_stretches_stretchCount : Int32) (f_road_stretches_kinds : Nat → Int32) (f_road_stretches_others : Nat → Int32) (f_road_stretches_spaces : Nat → Int32) (f_road_stretches_times : Nat → Int32) (f_sh_held : Nat → Int32) (f_sh_num : Nat → Int32) (x1 : Int32) (x2 : Int32) (post : Int32 → (Nat → Int32) → Prop) : Prop := (F_X9_shelfAt x1 ((F_X9_refuse f_refused (-1) (fun r22 w22_0 => post r22 w22_0))) (fun j2 => (F_X9_within x2 0 6 (fun r14 => ((r14 = 0 → (F_X9_refuse f_refused (-1) (fun r22 w22_0 => post r22 w22_0))) ∧ (¬ r14 = 0 → (F_X6_holdsRow (f_sh_held j2) (fun r27 => ((r27 = 0 → (F_X6_holdsStretch (f_sh_held j2) (fun r41 => ((r41 = 0 → (F_X9_refuse f_refused (-3) (fun r50 w50_0 => post r50 w50_0))) ∧ (¬ r41 = 0 → (F_X6_stretchHeld (f_sh_held j2) (f_sh_num j2) (fun r55 => (F_X7_kindOf v_road_stretches_stretchCount f_road_stretches_kinds r55 (fun r69 => (F_X9_isKindUnder r69 x2 (fun r73 => ((r73 = 0 → (F_X9_refuse f_refused (-2) (fun r82 w82_0 => post r82 w82_0))) ∧ (¬ r73 = 0 → (F_X7_sayingOf v_road_stretches_stretchCount f_road_stretches_kinds f_road_stretches_others f_road_stretches_spaces f_road_stretches_times r55 x2 (fun r96 => post r96 f_refused))))))))))))))) ∧ (¬ r27 = 0 → (F_X9_refuse f_refused (-2) (fun r36 w36_0 => post r36 w36_0))))))))))))
set_option maxHeartbeats 4000000 in
set_option maxRecDepth 100000 in
theorem c_X9_says {l : Launch} {D : va_G} {cI cJ cS : ClassId} {ad adK : Nat → Nat} {a_o a_refused a_road a_road_stretches a_road_stretches_kinds a_road_stretches_others a_road_stretches_spaces a_road_stretches_times a_shelves : Nat} {z_kept z_ahead z_cutting z_acting z_road_cars z_road_tunes z_road_demands : Value} {sa ea : Nat → Nat} {v_imaged : Int32} {v_lastFault : Int32} {f_refused : Nat → Int32} {v_road_drawSeed : Int32} {v_road_stretches_stretchCount : Int32} {f_road_stretches_kinds : Nat → Int32} {f_road_stretches_others : Nat → Int32} {f_road_stretches_spaces : Nat → Int32} {f_road_stretches_times : Nat → Int32} {f_sh_held : Nat → Int32} {f_sh_sort : Nat → Int32} {f_sh_cnt : Nat → Int32} {f_sh_num : Nat → Int32} {g_sh_el : Nat → Nat → Int64} {x1 : Int32} {x2 : Int32} {post : Int32 → (Nat → Int32) → Prop} (h : F_X9_says f_refused v_road_stretches_stretchCount f_road_stretches_kinds f_road_stretches_others f_road_stretches_spaces f_road_stretches_times f_sh_held f_sh_num x1 x2 post) {sz : Nat} : Met l yX9_says (Cond.code yX9_says cX9_says 5 (some (.int)) :: GW) (rmd 4 0 0) (PW D cI cJ cS ad adK [.ref a_o, .int x1, .int x2] (wX9_says cI cJ cS a_o a_refused a_road a_road_stretches a_road_stretches_kinds a_road_stretches_others a_road_stretches_spaces a_road_stretches_times a_shelves z_kept z_ahead z_cutting z_acting z_road_cars z_road_tunes z_road_demands sa ea v_imaged v_lastFault f_refused v_road_drawSeed v_road_stretches_stretchCount f_road_stretches_kinds f_road_stretches_others f_road_stretches_spaces f_road_stretches_times f_sh_held f_sh_sort f_sh_cnt f_sh_num g_sh_el) sz) (va_Qi (fun r (u : (Nat → Int32)) => post r u) (fun u t => va_P D vwCl (wX9_says cI cJ cS a_o a_refused a_road a_road_stretches a_road_stretches_kinds a_road_stretches_others a_road_stretches_spaces a_road_stretches_times a_shelves z_kept z_ahead z_cutting z_acting z_road_cars z_road_tunes z_road_demands sa ea v_imaged v_lastFault u v_road_drawSeed v_road_stretches_stretchCount f_road_stretches_kinds f_road_stretches_others f_road_stretches_spaces f_road_stretches_times f_sh_held f_sh_sort f_sh_cnt f_sh_num g_sh_el) t.heap) (va_A (wX9_says cI cJ cS a_o a_refused a_road a_road_stretches a_road_stretches_kinds a_road_stretches_others a_road_stretches_spaces a_road_stretches_times a_shelves z_kept z_ahead z_cutting z_acting z_road_cars z_road_tunes z_road_demands sa ea v_imaged v_lastFault f_refused v_road_drawSeed v_road_stretches_stretchCount f_road_stretches_kinds f_road_stretches_others f_road_stretches_spaces f_road_stretches_times f_sh_held f_sh_sort f_sh_cnt f_sh_num g_sh_el) sz)) 0 0 (va_A (wX9_says cI cJ cS a_o a_refused a_road a_road_stretches a_road_stretches_kinds a_road_stretches_others a_road_stretches_spaces a_road_stretches_times a_shelves z_kept z_ahead z_cutting z_acting z_road_cars z_road_tunes z_road_demands sa ea v_imaged v_lastFault f_refused v_road_drawSeed v_road_stretches_stretchCount f_road_stretches_kinds f_road_stretches_others f_road_stretches_spaces f_road_stretches_times f_sh_held f_sh_sort f_sh_cnt f_sh_num g_sh_el) sz) := by
  refine Met.rw (Qc := fun A => (va_Qi (fun r (u : (Nat → Int32)) => post r u) (fun u t => va_P D vwCl (wX9_says cI cJ cS a_o a_refused a_road a_road_stretches a_road_stretches_kinds a_road_stretches_others a_road_stretches_spaces a_road_stretches_times a_shelves z_kept z_ahead z_cutting z_acting z_road_cars z_road_tunes z_road_demands sa ea v_imaged v_lastFault u v_road_drawSeed v_road_stretches_stretchCount f_road_stretches_kinds f_road_stretches_others f_road_stretches_spaces f_road_stretches_times f_sh_held f_sh_sort f_sh_cnt f_sh_num g_sh_el) t.heap) A)) (by decide) (Nat.le_of_ble_eq_true rfl) (fun p e s m args below meth c ls A (S : CallFix p m c cX9_says 5 s args GW "RoadThatSings") hE hT hP hD hA hS hr hlocks hname hl => ?_)
  have hS0 := hS
  have hx := S.1
  have hb := S.2.1
  have hl : lv_has ls 5 [(0, .ref a_o), (1, .int x1), (2, .int x2)] := hl
  unfold F_X9_says at h
  refine lv_aload_n hx hb dX9_says_0 rfl (lv_at hl 0 rfl) ?_
  refine lv_iload_n hx hb dX9_says_1 rfl (lv_at hl 1 rfl) ?_
  refine ro_s (roV S hE hT hS (c_X9_shelfAt h) lkX9_55 rfl ⟨(Nat.le_of_ble_eq_true rfl), (Nat.le_of_ble_eq_true rfl)⟩ (hP.sub [0, 8] rfl) 0 rfl rfl hl.1 rfl (Nat.le_of_ble_eq_true rfl) dX9_says_2 ⟨(Nat.zero_le _), (Nat.zero_le _)⟩) (fun h => ?_) (fun j2 hj2 h => ?_)
  · refine lv_astore_nN (lv' := [(3, .null), (0, .ref a_o), (1, .int x1), (2, .int x2)]) hx hb dX9_says_5 rfl hl (by decide) rfl (fun ls hl => ?_)
    refine lv_aload_nN hx hb dX9_says_6 rfl (lv_at hl 0 rfl) ?_
    refine lv_ifnullN (tgt := 20) hx hb dX9_says_7 (by decide) ?_
    refine lv_aload_n hx hb dX9_says_20 rfl (lv_at hl 1 rfl) ?_
    refine lv_iconst (v := (-1)) hx hb dX9_says_21 (by decide) ?_
    refine rw_i (rwV S hE hT hS hP hD hA (c_X9_refuse h) [0, 1] rfl (by decide +kernel) lkX9_59 rfl ⟨(Nat.le_of_ble_eq_true rfl), (Nat.le_of_ble_eq_true rfl)⟩ 0 rfl rfl hl.1 rfl (Nat.le_of_ble_eq_true rfl) dX9_says_22 ⟨(Nat.zero_le _), (Nat.zero_le _)⟩) hP hD hS hA [0, 1] rfl (by decide +kernel) (fun _ => rfl) (fun r22 w22_0 H locs h hP hD hS => ?_)
    try dsimp only at h
    have hP : va_P D vwCl (wX9_says cI cJ cS a_o a_refused a_road a_road_stretches a_road_stretches_kinds a_road_stretches_others a_road_stretches_spaces a_road_stretches_times a_shelves z_kept z_ahead z_cutting z_acting z_road_cars z_road_tunes z_road_demands sa ea v_imaged v_lastFault w22_0 v_road_drawSeed v_road_stretches_stretchCount f_road_stretches_kinds f_road_stretches_others f_road_stretches_spaces f_road_stretches_times f_sh_held f_sh_sort f_sh_cnt f_sh_num g_sh_el) H := hP
    have hD : va_D A (wX9_says cI cJ cS a_o a_refused a_road a_road_stretches a_road_stretches_kinds a_road_stretches_others a_road_stretches_spaces a_road_stretches_times a_shelves z_kept z_ahead z_cutting z_acting z_road_cars z_road_tunes z_road_demands sa ea v_imaged v_lastFault w22_0 v_road_drawSeed v_road_stretches_stretchCount f_road_stretches_kinds f_road_stretches_others f_road_stretches_spaces f_road_stretches_times f_sh_held f_sh_sort f_sh_cnt f_sh_num g_sh_el) := hD
    exact W.iret hx hb hr (fun t ht _ => ⟨⟨_, w22_0, rfl, h, hPt hP ht⟩, hS.F ht⟩) hS.2.2 dX9_says_25
  refine lv_astore_n (lv' := [(3, .ref (sa j2)), (0, .ref a_o), (1, .int x1), (2, .int x2)]) hx hb dX9_says_5 rfl hl (by decide) rfl (fun ls hl => ?_)
  refine lv_aload_n hx hb dX9_says_6 rfl (lv_at hl 0 rfl) ?_
  refine lv_ifnull hx hb dX9_says_7 ?_
  refine lv_iload_n hx hb dX9_says_10 rfl (lv_at hl 3 rfl) ?_
  refine lv_iconst (v := 0) hx hb dX9_says_11 (by decide) ?_
  refine lv_bipush (v := 6) hx hb dX9_says_12 (by decide) ?_
  refine ro_i (roS S hE hT hS (c_X9_within h) lkX9_63 rfl ⟨(Nat.le_of_ble_eq_true rfl), (Nat.le_of_ble_eq_true rfl)⟩ (hP.sub [] rfl) hl.1 rfl (Nat.le_of_ble_eq_true rfl) dX9_says_14 ⟨(Nat.zero_le _), (Nat.zero_le _)⟩) (fun r14 h => ?_)
  refine lv_if_ne (tgt := 26) hx hb dX9_says_17 (by decide) (fun hc => ?_) (fun hc => ?_)
  · have h := h.2 hc
    refine lv_aload_n hx hb dX9_says_26 rfl (lv_at hl 0 rfl) ?_
    refine ro_i (roV S hE hT hS (c_X6_holdsRow h) lkX9_91 rfl ⟨(Nat.le_of_ble_eq_true rfl), (Nat.le_of_ble_eq_true rfl)⟩ (vPc hP (shS rfl hj2) vPn) 0 rfl rfl hl.1 rfl (Nat.le_of_ble_eq_true rfl) dX9_says_27 ⟨(Nat.zero_le _), (Nat.zero_le _)⟩) (fun r27 h => ?_)
    refine lv_if_eq (tgt := 40) hx hb dX9_says_30 (by decide) (fun hc => ?_) (fun hc => ?_)
    · have h := h.1 hc
      refine lv_aload_n hx hb dX9_says_40 rfl (lv_at hl 0 rfl) ?_
      refine ro_i (roV S hE hT hS (c_X6_holdsStretch h) lkX9_83 rfl ⟨(Nat.le_of_ble_eq_true rfl), (Nat.le_of_ble_eq_true rfl)⟩ (vPc hP (shS rfl hj2) vPn) 0 rfl rfl hl.1 rfl (Nat.le_of_ble_eq_true rfl) dX9_says_41 ⟨(Nat.zero_le _), (Nat.zero_le _)⟩) (fun r41 h => ?_)
      refine lv_if_ne (tgt := 54) hx hb dX9_says_44 (by decide) (fun hc => ?_) (fun hc => ?_)
      · have h := h.2 hc
        refine lv_aload_n hx hb dX9_says_54 rfl (lv_at hl 0 rfl) ?_
        refine ro_i (roV S hE hT hS (c_X6_stretchHeld h) lkX9_126 rfl ⟨(Nat.le_of_ble_eq_true rfl), (Nat.le_of_ble_eq_true rfl)⟩ (vPc hP (shS rfl hj2) vPn) 0 rfl rfl hl.1 rfl (Nat.le_of_ble_eq_true rfl) dX9_says_55 ⟨(Nat.zero_le _), (Nat.zero_le _)⟩) (fun r55 h => ?_)
        refine lv_istore (lv' := [(4, .int r55), (3, .ref (sa j2)), (0, .ref a_o), (1, .int x1), (2, .int x2)]) hx hb dX9_says_58 hl (by decide) rfl (fun ls hl => ?_)
        refine lv_aload_n hx hb dX9_says_60 rfl (lv_at hl 2 rfl) ?_
        refine gf S hE hP 0 rfl rfl inX9 (k := 0) (by decide) q181 rfl dX9_says_61 ?_
        refine gfN S hE hP 2 rfl rfl inX5 (k := 0) (by decide) nfX9_106 rfl dX9_says_64 ?_
        refine lv_iload hx hb dX9_says_67 (lv_at hl 0 rfl) ?_
        refine ro_i (roV S hE hT hS (c_X7_kindOf h) lkX9_129 rfl ⟨(Nat.le_of_ble_eq_true rfl), (Nat.le_of_ble_eq_true rfl)⟩ (hP.sub [3, 4] rfl) 0 rfl rfl hl.1 rfl (Nat.le_of_ble_eq_true rfl) dX9_says_69 ⟨(Nat.zero_le _), (Nat.zero_le _)⟩) (fun r69 h => ?_)
        refine lv_iload_n hx hb dX9_says_72 rfl (lv_at hl 4 rfl) ?_
        refine ro_i (roS S hE hT hS (c_X9_isKindUnder h) lkX9_132 rfl ⟨(Nat.le_of_ble_eq_true rfl), (Nat.le_of_ble_eq_true rfl)⟩ (hP.sub [] rfl) hl.1 rfl (Nat.le_of_ble_eq_true rfl) dX9_says_73 ⟨(Nat.zero_le _), (Nat.zero_le _)⟩) (fun r73 h => ?_)
        refine lv_if_ne (tgt := 86) hx hb dX9_says_76 (by decide) (fun hc => ?_) (fun hc => ?_)
        · have h := h.2 hc
          refine lv_aload_n hx hb dX9_says_86 rfl (lv_at hl 2 rfl) ?_
          refine gf S hE hP 0 rfl rfl inX9 (k := 0) (by decide) q181 rfl dX9_says_87 ?_
          refine gfN S hE hP 2 rfl rfl inX5 (k := 0) (by decide) nfX9_106 rfl dX9_says_90 ?_
          refine lv_iload hx hb dX9_says_93 (lv_at hl 0 rfl) ?_
          refine lv_iload_n hx hb dX9_says_95 rfl (lv_at hl 4 rfl) ?_
          refine ro_i (roV S hE hT hS (c_X7_sayingOf h) lkX9_135 rfl ⟨(Nat.le_of_ble_eq_true rfl), (Nat.le_of_ble_eq_true rfl)⟩ (hP.sub [3, 4, 5, 6, 7] rfl) 0 rfl rfl hl.1 rfl (Nat.le_of_ble_eq_true rfl) dX9_says_96 ⟨(Nat.zero_le _), (Nat.zero_le _)⟩) (fun r96 h => ?_)
          exact W.iret hx hb hr (fun t ht _ => ⟨⟨_, f_refused, rfl, h, hPt hP ht⟩, hS.F ht⟩) hS.2.2 dX9_says_99
        have h := h.1 hc
        refine lv_aload_n hx hb dX9_says_79 rfl (lv_at hl 2 rfl) ?_
        refine lv_bipush (v := (-2)) hx hb dX9_says_80 (by decide) ?_
        refine rw_i (rwV S hE hT hS hP hD hA (c_X9_refuse h) [0, 1] rfl (by decide +kernel) lkX9_59 rfl ⟨(Nat.le_of_ble_eq_true rfl), (Nat.le_of_ble_eq_true rfl)⟩ 0 rfl rfl hl.1 rfl (Nat.le_of_ble_eq_true rfl) dX9_says_82 ⟨(Nat.zero_le _), (Nat.zero_le _)⟩) hP hD hS hA [0, 1] rfl (by decide +kernel) (fun _ => rfl) (fun r82 w82_0 H locs h hP hD hS => ?_)
        try dsimp only at h
        have hP : va_P D vwCl (wX9_says cI cJ cS a_o a_refused a_road a_road_stretches a_road_stretches_kinds a_road_stretches_others a_road_stretches_spaces a_road_stretches_times a_shelves z_kept z_ahead z_cutting z_acting z_road_cars z_road_tunes z_road_demands sa ea v_imaged v_lastFault w82_0 v_road_drawSeed v_road_stretches_stretchCount f_road_stretches_kinds f_road_stretches_others f_road_stretches_spaces f_road_stretches_times f_sh_held f_sh_sort f_sh_cnt f_sh_num g_sh_el) H := hP
        have hD : va_D A (wX9_says cI cJ cS a_o a_refused a_road a_road_stretches a_road_stretches_kinds a_road_stretches_others a_road_stretches_spaces a_road_stretches_times a_shelves z_kept z_ahead z_cutting z_acting z_road_cars z_road_tunes z_road_demands sa ea v_imaged v_lastFault w82_0 v_road_drawSeed v_road_stretches_stretchCount f_road_stretches_kinds f_road_stretches_others f_road_stretches_spaces f_road_stretches_times f_sh_held f_sh_sort f_sh_cnt f_sh_num g_sh_el) := hD
        exact W.iret hx hb hr (fun t ht _ => ⟨⟨_, w82_0, rfl, h, hPt hP ht⟩, hS.F ht⟩) hS.2.2 dX9_says_85
      have h := h.1 hc
      refine lv_aload_n hx hb dX9_says_47 rfl (lv_at hl 1 rfl) ?_
      refine lv_bipush (v := (-3)) hx hb dX9_says_48 (by decide) ?_
      refine rw_i (rwV S hE hT hS hP hD hA (c_X9_refuse h) [0, 1] rfl (by decide +kernel) lkX9_59 rfl ⟨(Nat.le_of_ble_eq_true rfl), (Nat.le_of_ble_eq_true rfl)⟩ 0 rfl rfl hl.1 rfl (Nat.le_of_ble_eq_true rfl) dX9_says_50 ⟨(Nat.zero_le _), (Nat.zero_le _)⟩) hP hD hS hA [0, 1] rfl (by decide +kernel) (fun _ => rfl) (fun r50 w50_0 H locs h hP hD hS => ?_)
      try dsimp only at h
      have hP : va_P D vwCl (wX9_says cI cJ cS a_o a_refused a_road a_road_stretches a_road_stretches_kinds a_road_stretches_others a_road_stretches_spaces a_road_stretches_times a_shelves z_kept z_ahead z_cutting z_acting z_road_cars z_road_tunes z_road_demands sa ea v_imaged v_lastFault w50_0 v_road_drawSeed v_road_stretches_stretchCount f_road_stretches_kinds f_road_stretches_others f_road_stretches_spaces f_road_stretches_times f_sh_held f_sh_sort f_sh_cnt f_sh_num g_sh_el) H := hP
      have hD : va_D A (wX9_says cI cJ cS a_o a_refused a_road a_road_stretches a_road_stretches_kinds a_road_stretches_others a_road_stretches_spaces a_road_stretches_times a_shelves z_kept z_ahead z_cutting z_acting z_road_cars z_road_tunes z_road_demands sa ea v_imaged v_lastFault w50_0 v_road_drawSeed v_road_stretches_stretchCount f_road_stretches_kinds f_road_stretches_others f_road_stretches_spaces f_road_stretches_times f_sh_held f_sh_sort f_sh_cnt f_sh_num g_sh_el) := hD
      exact W.iret hx hb hr (fun t ht _ => ⟨⟨_, w50_0, rfl, h, hPt hP ht⟩, hS.F ht⟩) hS.2.2 dX9_says_53
    have h := h.2 hc
    refine lv_aload_n hx hb dX9_says_33 rfl (lv_at hl 1 rfl) ?_
    refine lv_bipush (v := (-2)) hx hb dX9_says_34 (by decide) ?_
    refine rw_i (rwV S hE hT hS hP hD hA (c_X9_refuse h) [0, 1] rfl (by decide +kernel) lkX9_59 rfl ⟨(Nat.le_of_ble_eq_true rfl), (Nat.le_of_ble_eq_true rfl)⟩ 0 rfl rfl hl.1 rfl (Nat.le_of_ble_eq_true rfl) dX9_says_36 ⟨(Nat.zero_le _), (Nat.zero_le _)⟩) hP hD hS hA [0, 1] rfl (by decide +kernel) (fun _ => rfl) (fun r36 w36_0 H locs h hP hD hS => ?_)
    try dsimp only at h
    have hP : va_P D vwCl (wX9_says cI cJ cS a_o a_refused a_road a_road_stretches a_road_stretches_kinds a_road_stretches_others a_road_stretches_spaces a_road_stretches_times a_shelves z_kept z_ahead z_cutting z_acting z_road_cars z_road_tunes z_road_demands sa ea v_imaged v_lastFault w36_0 v_road_drawSeed v_road_stretches_stretchCount f_road_stretches_kinds f_road_stretches_others f_road_stretches_spaces f_road_stretches_times f_sh_held f_sh_sort f_sh_cnt f_sh_num g_sh_el) H := hP
    have hD : va_D A (wX9_says cI cJ cS a_o a_refused a_road a_road_stretches a_road_stretches_kinds a_road_stretches_others a_road_stretches_spaces a_road_stretches_times a_shelves z_kept z_ahead z_cutting z_acting z_road_cars z_road_tunes z_road_demands sa ea v_imaged v_lastFault w36_0 v_road_drawSeed v_road_stretches_stretchCount f_road_stretches_kinds f_road_stretches_others f_road_stretches_spaces f_road_stretches_times f_sh_held f_sh_sort f_sh_cnt f_sh_num g_sh_el) := hD
    exact W.iret hx hb hr (fun t ht _ => ⟨⟨_, w36_0, rfl, h, hPt hP ht⟩, hS.F ht⟩) hS.2.2 dX9_says_39
  have h := h.1 hc
  refine lv_aload_n hx hb dX9_says_20 rfl (lv_at hl 1 rfl) ?_
  refine lv_iconst (v := (-1)) hx hb dX9_says_21 (by decide) ?_
  refine rw_i (rwV S hE hT hS hP hD hA (c_X9_refuse h) [0, 1] rfl (by decide +kernel) lkX9_59 rfl ⟨(Nat.le_of_ble_eq_true rfl), (Nat.le_of_ble_eq_true rfl)⟩ 0 rfl rfl hl.1 rfl (Nat.le_of_ble_eq_true rfl) dX9_says_22 ⟨(Nat.zero_le _), (Nat.zero_le _)⟩) hP hD hS hA [0, 1] rfl (by decide +kernel) (fun _ => rfl) (fun r22 w22_0 H locs h hP hD hS => ?_)
  try dsimp only at h
  have hP : va_P D vwCl (wX9_says cI cJ cS a_o a_refused a_road a_road_stretches a_road_stretches_kinds a_road_stretches_others a_road_stretches_spaces a_road_stretches_times a_shelves z_kept z_ahead z_cutting z_acting z_road_cars z_road_tunes z_road_demands sa ea v_imaged v_lastFault w22_0 v_road_drawSeed v_road_stretches_stretchCount f_road_stretches_kinds f_road_stretches_others f_road_stretches_spaces f_road_stretches_times f_sh_held f_sh_sort f_sh_cnt f_sh_num g_sh_el) H := hP
  have hD : va_D A (wX9_says cI cJ cS a_o a_refused a_road a_road_stretches a_road_stretches_kinds a_road_stretches_others a_road_stretches_spaces a_road_stretches_times a_shelves z_kept z_ahead z_cutting z_acting z_road_cars z_road_tunes z_road_demands sa ea v_imaged v_lastFault w22_0 v_road_drawSeed v_road_stretches_stretchCount f_road_stretches_kinds f_road_stretches_others f_road_stretches_spaces f_road_stretches_times f_sh_held f_sh_sort f_sh_cnt f_sh_num g_sh_el) := hD
  exact W.iret hx hb hr (fun t ht _ => ⟨⟨_, w22_0, rfl, h, hPt hP ht⟩, hS.F ht⟩) hS.2.2 dX9_says_25
/-! X9_areMeasures -/
abbrev wX9_areMeasures (cI cJ cS : ClassId) : va_W := []
def F_X9_areMeasures (x0 : Int32) (x1 : Int32) (x2 : Int32) (post : Int32 → Prop) : Prop := (F_X9_within x0 1 60 (fun r4 => ((r4 = 0 → post 0) ∧ (¬ r4 = 0 → (F_X9_within x1 0 60 (fun r14 => ((r14 = 0 → post 0) ∧ (¬ r14 = 0 → (F_X9_within x2 1 60 (fun r24 => ((r24 = 0 → post 0) ∧ (¬ r24 = 0 → post 1))))))))))))
set_option maxHeartbeats 4000000 in
set_option maxRecDepth 100000 in
theorem c_X9_areMeasures {l : Launch} {D : va_G} {cI cJ cS : ClassId} {ad adK : Nat → Nat}  {x0 : Int32} {x1 : Int32} {x2 : Int32} {post : Int32 → Prop} (h : F_X9_areMeasures x0 x1 x2 post) : Met l yX9_areMeasures (Cond.code yX9_areMeasures cX9_areMeasures 3 (some (.boolean)) :: GW) (rmd 1 0 0) (PR D cI cJ cS ad adK [.int x0, .int x1, .int x2] (wX9_areMeasures cI cJ cS)) (vp_Si post) 0 0 nof := by
  refine Met.ro (by decide) (Nat.le_of_ble_eq_true rfl) (fun p e s m args below meth c ls (S : CallFix p m c cX9_areMeasures 3 s args GW "RoadThatSings") hE hT hP hS hr hlocks hl => ?_)
  have hx := S.1
  have hb := S.2.1
  have hl : lv_has ls 3 [(0, .int x0), (1, .int x1), (2, .int x2)] := hl
  unfold F_X9_areMeasures at h
  refine lv_iload_n hx hb dX9_areMeasures_0 rfl (lv_at hl 0 rfl) ?_
  refine lv_iconst (v := 1) hx hb dX9_areMeasures_1 (by decide) ?_
  refine lv_bipush (v := 60) hx hb dX9_areMeasures_2 (by decide) ?_
  refine ro_i (roS S hE hT hS (c_X9_within h) lkX9_63 rfl ⟨(Nat.le_of_ble_eq_true rfl), (Nat.le_of_ble_eq_true rfl)⟩ (hP.sub [] rfl) hl.1 rfl (Nat.le_of_ble_eq_true rfl) dX9_areMeasures_4 ⟨(Nat.zero_le _), (Nat.zero_le _)⟩) (fun r4 h => ?_)
  refine lv_if_eq (tgt := 34) hx hb dX9_areMeasures_7 (by decide) (fun hc => ?_) (fun hc => ?_)
  · have h := h.1 hc
    refine lv_iconst (v := 0) hx hb dX9_areMeasures_34 (by decide) ?_
    exact W.zret hx hb hr rfl (fun t ht _ => ⟨_, rfl, h, ht⟩) (fun _ hq => by cases hq) dX9_areMeasures_35
  have h := h.2 hc
  refine lv_iload_n hx hb dX9_areMeasures_10 rfl (lv_at hl 1 rfl) ?_
  refine lv_iconst (v := 0) hx hb dX9_areMeasures_11 (by decide) ?_
  refine lv_bipush (v := 60) hx hb dX9_areMeasures_12 (by decide) ?_
  refine ro_i (roS S hE hT hS (c_X9_within h) lkX9_63 rfl ⟨(Nat.le_of_ble_eq_true rfl), (Nat.le_of_ble_eq_true rfl)⟩ (hP.sub [] rfl) hl.1 rfl (Nat.le_of_ble_eq_true rfl) dX9_areMeasures_14 ⟨(Nat.zero_le _), (Nat.zero_le _)⟩) (fun r14 h => ?_)
  refine lv_if_eq (tgt := 34) hx hb dX9_areMeasures_17 (by decide) (fun hc => ?_) (fun hc => ?_)
  · have h := h.1 hc
    refine lv_iconst (v := 0) hx hb dX9_areMeasures_34 (by decide) ?_
    exact W.zret hx hb hr rfl (fun t ht _ => ⟨_, rfl, h, ht⟩) (fun _ hq => by cases hq) dX9_areMeasures_35
  have h := h.2 hc
  refine lv_iload_n hx hb dX9_areMeasures_20 rfl (lv_at hl 2 rfl) ?_
  refine lv_iconst (v := 1) hx hb dX9_areMeasures_21 (by decide) ?_
  refine lv_bipush (v := 60) hx hb dX9_areMeasures_22 (by decide) ?_
  refine ro_i (roS S hE hT hS (c_X9_within h) lkX9_63 rfl ⟨(Nat.le_of_ble_eq_true rfl), (Nat.le_of_ble_eq_true rfl)⟩ (hP.sub [] rfl) hl.1 rfl (Nat.le_of_ble_eq_true rfl) dX9_areMeasures_24 ⟨(Nat.zero_le _), (Nat.zero_le _)⟩) (fun r24 h => ?_)
  refine lv_if_eq (tgt := 34) hx hb dX9_areMeasures_27 (by decide) (fun hc => ?_) (fun hc => ?_)
  · have h := h.1 hc
    refine lv_iconst (v := 0) hx hb dX9_areMeasures_34 (by decide) ?_
    exact W.zret hx hb hr rfl (fun t ht _ => ⟨_, rfl, h, ht⟩) (fun _ hq => by cases hq) dX9_areMeasures_35
  have h := h.2 hc
  refine lv_iconst (v := 1) hx hb dX9_areMeasures_30 (by decide) ?_
  refine lv_goto (tgt := 35) hx hb dX9_areMeasures_31 (by decide) ?_
  exact W.zret hx hb hr rfl (fun t ht _ => ⟨_, rfl, h, ht⟩) (fun _ hq => by cases hq) dX9_areMeasures_35
/-! X9_stretch -/
abbrev wX9_stretch (cI cJ cS : ClassId) (a_o a_refused a_road a_road_stretches a_road_stretches_kinds a_road_stretches_others a_road_stretches_spaces a_road_stretches_times : Nat) (z_kept z_ahead z_shelves z_cutting z_acting z_road_cars z_road_tunes z_road_demands : Value) (v_imaged : Int32) (v_lastFault : Int32) (f_refused : Nat → Int32) (v_road_drawSeed : Int32) (v_road_stretches_stretchCount : Int32) (f_road_stretches_kinds : Nat → Int32) (f_road_stretches_others : Nat → Int32) (f_road_stretches_spaces : Nat → Int32) (f_road_stretches_times : Nat → Int32) : va_W := [(a_o, .inr (8, [.ref a_road, z_kept, z_ahead, z_shelves, z_cutting, z_acting, .ref a_refused, .int v_imaged, .int v_lastFault])), (a_refused, .inl (cI, 8, .inl f_refused)), (a_road, .inr (4, [.ref a_road_stretches, z_road_cars, z_road_tunes, z_road_demands, .int v_road_drawSeed])), (a_road_stretches, .inr (6, [.ref a_road_stretches_kinds, .ref a_road_stretches_spaces, .ref a_road_stretches_others, .ref a_road_stretches_times, .int v_road_stretches_stretchCount])), (a_road_stretches_kinds, .inl (cI, 16, .inl f_road_stretches_kinds)), (a_road_stretches_others, .inl (cI, 16, .inl f_road_stretches_others)), (a_road_stretches_spaces, .inl (cI, 16, .inl f_road_stretches_spaces)), (a_road_stretches_times, .inl (cI, 16, .inl f_road_stretches_times))]
def F_X9_stretch (f_refused : Nat → Int32) (v_road_stretches_stretchCount : Int32) (f_road_stretches_kinds : Nat → Int32) (f_road_stretches_others : Nat → Int32) (f_road_stretches_spaces : Nat → Int32) (f_road_stretches_times : Nat → Int32) (x1 : Int32) (x2 : Int32) (x3 : Int32) (x4 : Int32) (post : Int32 → (Nat → Int32) → Int32 → (Nat → Int32) → (Nat → Int32) → (Nat → Int32) → (Nat → Int32) → Prop) : Prop := (F_X9_within x1 0 6 (fun r4 => ((r4 = 0 → (F_X9_refuse f_refused (-1) (fun r12 w12_0 => post r12 w12_0 v_road_stretches_stretchCount f_road_stretches_kinds f_road_stretches_others f_road_stretches_spaces f_road_stretches_times))) ∧ (¬ r4 = 0 → (F_X9_areMeasures x2 x3 x4 (fun r20 => ((r20 = 0 → (F_X9_refuse f_refused (-6) (fun r29 w29_0 => post r29 w29_0 v_road_stretches_stretchCount f_road_stretches_kinds f_road_stretches_others f_road_stretches_spaces f_road_stretches_times))) ∧ (¬ r20 = 0 → (F_X7_isFull v_road_stretches_stretchCount (fun r40 => ((r40 = 0 → (F_X7_add v_road_stretches_stretchCount f_road_stretches_kinds f_road_stretches_others f_road_stretches_spaces f_road_stretches_times x1 x2 x3 x4 (fun r65 w65_0 w65_1 w65_2 w65_3 w65_4 => post r65 f_refused w65_0 w65_1 w65_2 w65_3 w65_4))) ∧ (¬ r40 = 0 → (F_X9_refuse f_refused (-7) (fun r49 w49_0 => post r49 w49_0 v_road_stretches_stretchCount f_road_stretches_kinds f_road_stretches_others f_road_stretches_spaces f_road_stretches_times))))))))))))))
set_option maxHeartbeats 4000000 in
set_option maxRecDepth 100000 in
theorem c_X9_stretch {l : Launch} {D : va_G} {cI cJ cS : ClassId} {ad adK : Nat → Nat} {a_o a_refused a_road a_road_stretches a_road_stretches_kinds a_road_stretches_others a_road_stretches_spaces a_road_stretches_times : Nat} {z_kept z_ahead z_shelves z_cutting z_acting z_road_cars z_road_tunes z_road_demands : Value} {v_imaged : Int32} {v_lastFault : Int32} {f_refused : Nat → Int32} {v_road_drawSeed : Int32} {v_road_stretches_stretchCount : Int32} {f_road_stretches_kinds : Nat → Int32} {f_road_stretches_others : Nat → Int32} {f_road_stretches_spaces : Nat → Int32} {f_road_stretches_times : Nat → Int32} {x1 : Int32} {x2 : Int32} {x3 : Int32} {x4 : Int32} {post : Int32 → (Nat → Int32) → Int32 → (Nat → Int32) → (Nat → Int32) → (Nat → Int32) → (Nat → Int32) → Prop} (h : F_X9_stretch f_refused v_road_stretches_stretchCount f_road_stretches_kinds f_road_stretches_others f_road_stretches_spaces f_road_stretches_times x1 x2 x3 x4 post) {sz : Nat} : Met l yX9_stretch (Cond.code yX9_stretch cX9_stretch 5 (some (.int)) :: GW) (rmd 3 0 0) (PW D cI cJ cS ad adK [.ref a_o, .int x1, .int x2, .int x3, .int x4] (wX9_stretch cI cJ cS a_o a_refused a_road a_road_stretches a_road_stretches_kinds a_road_stretches_others a_road_stretches_spaces a_road_stretches_times z_kept z_ahead z_shelves z_cutting z_acting z_road_cars z_road_tunes z_road_demands v_imaged v_lastFault f_refused v_road_drawSeed v_road_stretches_stretchCount f_road_stretches_kinds f_road_stretches_others f_road_stretches_spaces f_road_stretches_times) sz) (va_Qi (fun r (u : (Nat → Int32) × Int32 × (Nat → Int32) × (Nat → Int32) × (Nat → Int32) × (Nat → Int32)) => post r u.1 u.2.1 u.2.2.1 u.2.2.2.1 u.2.2.2.2.1 u.2.2.2.2.2) (fun u t => va_P D vwCl (wX9_stretch cI cJ cS a_o a_refused a_road a_road_stretches a_road_stretches_kinds a_road_stretches_others a_road_stretches_spaces a_road_stretches_times z_kept z_ahead z_shelves z_cutting z_acting z_road_cars z_road_tunes z_road_demands v_imaged v_lastFault u.1 v_road_drawSeed u.2.1 u.2.2.1 u.2.2.2.1 u.2.2.2.2.1 u.2.2.2.2.2) t.heap) (va_A (wX9_stretch cI cJ cS a_o a_refused a_road a_road_stretches a_road_stretches_kinds a_road_stretches_others a_road_stretches_spaces a_road_stretches_times z_kept z_ahead z_shelves z_cutting z_acting z_road_cars z_road_tunes z_road_demands v_imaged v_lastFault f_refused v_road_drawSeed v_road_stretches_stretchCount f_road_stretches_kinds f_road_stretches_others f_road_stretches_spaces f_road_stretches_times) sz)) 0 0 (va_A (wX9_stretch cI cJ cS a_o a_refused a_road a_road_stretches a_road_stretches_kinds a_road_stretches_others a_road_stretches_spaces a_road_stretches_times z_kept z_ahead z_shelves z_cutting z_acting z_road_cars z_road_tunes z_road_demands v_imaged v_lastFault f_refused v_road_drawSeed v_road_stretches_stretchCount f_road_stretches_kinds f_road_stretches_others f_road_stretches_spaces f_road_stretches_times) sz) := by
  refine Met.rw (Qc := fun A => (va_Qi (fun r (u : (Nat → Int32) × Int32 × (Nat → Int32) × (Nat → Int32) × (Nat → Int32) × (Nat → Int32)) => post r u.1 u.2.1 u.2.2.1 u.2.2.2.1 u.2.2.2.2.1 u.2.2.2.2.2) (fun u t => va_P D vwCl (wX9_stretch cI cJ cS a_o a_refused a_road a_road_stretches a_road_stretches_kinds a_road_stretches_others a_road_stretches_spaces a_road_stretches_times z_kept z_ahead z_shelves z_cutting z_acting z_road_cars z_road_tunes z_road_demands v_imaged v_lastFault u.1 v_road_drawSeed u.2.1 u.2.2.1 u.2.2.2.1 u.2.2.2.2.1 u.2.2.2.2.2) t.heap) A)) (by decide) (Nat.le_of_ble_eq_true rfl) (fun p e s m args below meth c ls A (S : CallFix p m c cX9_stretch 5 s args GW "RoadThatSings") hE hT hP hD hA hS hr hlocks hname hl => ?_)
  have hS0 := hS
  have hx := S.1
  have hb := S.2.1
  have hl : lv_has ls 5 [(0, .ref a_o), (1, .int x1), (2, .int x2), (3, .int x3), (4, .int x4)] := hl
  unfold F_X9_stretch at h
  refine lv_iload_n hx hb dX9_stretch_0 rfl (lv_at hl 1 rfl) ?_
  refine lv_iconst (v := 0) hx hb dX9_stretch_1 (by decide) ?_
  refine lv_bipush (v := 6) hx hb dX9_stretch_2 (by decide) ?_
  refine ro_i (roS S hE hT hS (c_X9_within h) lkX9_63 rfl ⟨(Nat.le_of_ble_eq_true rfl), (Nat.le_of_ble_eq_true rfl)⟩ (hP.sub [] rfl) hl.1 rfl (Nat.le_of_ble_eq_true rfl) dX9_stretch_4 ⟨(Nat.zero_le _), (Nat.zero_le _)⟩) (fun r4 h => ?_)
  refine lv_if_ne (tgt := 16) hx hb dX9_stretch_7 (by decide) (fun hc => ?_) (fun hc => ?_)
  · have h := h.2 hc
    refine lv_iload_n hx hb dX9_stretch_16 rfl (lv_at hl 2 rfl) ?_
    refine lv_iload_n hx hb dX9_stretch_17 rfl (lv_at hl 3 rfl) ?_
    refine lv_iload hx hb dX9_stretch_18 (lv_at hl 4 rfl) ?_
    refine ro_i (roS S hE hT hS (c_X9_areMeasures h) lkX9_139 rfl ⟨(Nat.le_of_ble_eq_true rfl), (Nat.le_of_ble_eq_true rfl)⟩ (hP.sub [] rfl) hl.1 rfl (Nat.le_of_ble_eq_true rfl) dX9_stretch_20 ⟨(Nat.zero_le _), (Nat.zero_le _)⟩) (fun r20 h => ?_)
    refine lv_if_ne (tgt := 33) hx hb dX9_stretch_23 (by decide) (fun hc => ?_) (fun hc => ?_)
    · have h := h.2 hc
      refine lv_aload_n hx hb dX9_stretch_33 rfl (lv_at hl 0 rfl) ?_
      refine gf S hE hP 0 rfl rfl inX9 (k := 0) (by decide) q181 rfl dX9_stretch_34 ?_
      refine gfN S hE hP 2 rfl rfl inX5 (k := 0) (by decide) nfX9_106 rfl dX9_stretch_37 ?_
      refine ro_i (roV S hE hT hS (c_X7_isFull h) lkX9_142 rfl ⟨(Nat.le_of_ble_eq_true rfl), (Nat.le_of_ble_eq_true rfl)⟩ (hP.sub [3] rfl) 0 rfl rfl hl.1 rfl (Nat.le_of_ble_eq_true rfl) dX9_stretch_40 ⟨(Nat.zero_le _), (Nat.zero_le _)⟩) (fun r40 h => ?_)
      refine lv_if_eq (tgt := 53) hx hb dX9_stretch_43 (by decide) (fun hc => ?_) (fun hc => ?_)
      · have h := h.1 hc
        refine lv_aload_n hx hb dX9_stretch_53 rfl (lv_at hl 0 rfl) ?_
        refine gf S hE hP 0 rfl rfl inX9 (k := 0) (by decide) q181 rfl dX9_stretch_54 ?_
        refine gfN S hE hP 2 rfl rfl inX5 (k := 0) (by decide) nfX9_106 rfl dX9_stretch_57 ?_
        refine lv_iload_n hx hb dX9_stretch_60 rfl (lv_at hl 1 rfl) ?_
        refine lv_iload_n hx hb dX9_stretch_61 rfl (lv_at hl 2 rfl) ?_
        refine lv_iload_n hx hb dX9_stretch_62 rfl (lv_at hl 3 rfl) ?_
        refine lv_iload hx hb dX9_stretch_63 (lv_at hl 4 rfl) ?_
        refine rw_i (rwV S hE hT hS hP hD hA (c_X7_add h) [3, 4, 5, 6, 7] rfl (by decide +kernel) lkX9_145 rfl ⟨(Nat.le_of_ble_eq_true rfl), (Nat.le_of_ble_eq_true rfl)⟩ 3 rfl rfl hl.1 rfl (Nat.le_of_ble_eq_true rfl) dX9_stretch_65 ⟨(Nat.zero_le _), (Nat.zero_le _)⟩) hP hD hS hA [3, 4, 5, 6, 7] rfl (by decide +kernel) (fun _ => rfl) (fun r65 u65 H locs h hP hD hS => ?_)
        obtain ⟨w65_0, w65_1, w65_2, w65_3, w65_4⟩ := u65
        try dsimp only at h
        have hP : va_P D vwCl (wX9_stretch cI cJ cS a_o a_refused a_road a_road_stretches a_road_stretches_kinds a_road_stretches_others a_road_stretches_spaces a_road_stretches_times z_kept z_ahead z_shelves z_cutting z_acting z_road_cars z_road_tunes z_road_demands v_imaged v_lastFault f_refused v_road_drawSeed w65_0 w65_1 w65_2 w65_3 w65_4) H := wsetP 8 [0, 1, 2] hP rfl ⟨rfl, rfl, rfl, trivial⟩ rfl rfl (by decide +kernel) (by decide +kernel) (by decide +kernel)
        have hD : va_D A (wX9_stretch cI cJ cS a_o a_refused a_road a_road_stretches a_road_stretches_kinds a_road_stretches_others a_road_stretches_spaces a_road_stretches_times z_kept z_ahead z_shelves z_cutting z_acting z_road_cars z_road_tunes z_road_demands v_imaged v_lastFault f_refused v_road_drawSeed w65_0 w65_1 w65_2 w65_3 w65_4) := wsetD 8 [0, 1, 2] hD rfl ⟨rfl, rfl, rfl, trivial⟩ rfl rfl (by decide +kernel) (by decide +kernel) (by decide +kernel)
        exact W.iret hx hb hr (fun t ht _ => ⟨⟨_, (f_refused, w65_0, w65_1, w65_2, w65_3, w65_4), rfl, h, hPt hP ht⟩, hS.F ht⟩) hS.2.2 dX9_stretch_68
      have h := h.2 hc
      refine lv_aload_n hx hb dX9_stretch_46 rfl (lv_at hl 0 rfl) ?_
      refine lv_bipush (v := (-7)) hx hb dX9_stretch_47 (by decide) ?_
      refine rw_i (rwV S hE hT hS hP hD hA (c_X9_refuse h) [0, 1] rfl (by decide +kernel) lkX9_59 rfl ⟨(Nat.le_of_ble_eq_true rfl), (Nat.le_of_ble_eq_true rfl)⟩ 0 rfl rfl hl.1 rfl (Nat.le_of_ble_eq_true rfl) dX9_stretch_49 ⟨(Nat.zero_le _), (Nat.zero_le _)⟩) hP hD hS hA [0, 1] rfl (by decide +kernel) (fun _ => rfl) (fun r49 w49_0 H locs h hP hD hS => ?_)
      try dsimp only at h
      have hP : va_P D vwCl (wX9_stretch cI cJ cS a_o a_refused a_road a_road_stretches a_road_stretches_kinds a_road_stretches_others a_road_stretches_spaces a_road_stretches_times z_kept z_ahead z_shelves z_cutting z_acting z_road_cars z_road_tunes z_road_demands v_imaged v_lastFault w49_0 v_road_drawSeed v_road_stretches_stretchCount f_road_stretches_kinds f_road_stretches_others f_road_stretches_spaces f_road_stretches_times) H := hP
      have hD : va_D A (wX9_stretch cI cJ cS a_o a_refused a_road a_road_stretches a_road_stretches_kinds a_road_stretches_others a_road_stretches_spaces a_road_stretches_times z_kept z_ahead z_shelves z_cutting z_acting z_road_cars z_road_tunes z_road_demands v_imaged v_lastFault w49_0 v_road_drawSeed v_road_stretches_stretchCount f_road_stretches_kinds f_road_stretches_others f_road_stretches_spaces f_road_stretches_times) := hD
      exact W.iret hx hb hr (fun t ht _ => ⟨⟨_, (w49_0, v_road_stretches_stretchCount, f_road_stretches_kinds, f_road_stretches_others, f_road_stretches_spaces, f_road_stretches_times), rfl, h, hPt hP ht⟩, hS.F ht⟩) hS.2.2 dX9_stretch_52
    have h := h.1 hc
    refine lv_aload_n hx hb dX9_stretch_26 rfl (lv_at hl 0 rfl) ?_
    refine lv_bipush (v := (-6)) hx hb dX9_stretch_27 (by decide) ?_
    refine rw_i (rwV S hE hT hS hP hD hA (c_X9_refuse h) [0, 1] rfl (by decide +kernel) lkX9_59 rfl ⟨(Nat.le_of_ble_eq_true rfl), (Nat.le_of_ble_eq_true rfl)⟩ 0 rfl rfl hl.1 rfl (Nat.le_of_ble_eq_true rfl) dX9_stretch_29 ⟨(Nat.zero_le _), (Nat.zero_le _)⟩) hP hD hS hA [0, 1] rfl (by decide +kernel) (fun _ => rfl) (fun r29 w29_0 H locs h hP hD hS => ?_)
    try dsimp only at h
    have hP : va_P D vwCl (wX9_stretch cI cJ cS a_o a_refused a_road a_road_stretches a_road_stretches_kinds a_road_stretches_others a_road_stretches_spaces a_road_stretches_times z_kept z_ahead z_shelves z_cutting z_acting z_road_cars z_road_tunes z_road_demands v_imaged v_lastFault w29_0 v_road_drawSeed v_road_stretches_stretchCount f_road_stretches_kinds f_road_stretches_others f_road_stretches_spaces f_road_stretches_times) H := hP
    have hD : va_D A (wX9_stretch cI cJ cS a_o a_refused a_road a_road_stretches a_road_stretches_kinds a_road_stretches_others a_road_stretches_spaces a_road_stretches_times z_kept z_ahead z_shelves z_cutting z_acting z_road_cars z_road_tunes z_road_demands v_imaged v_lastFault w29_0 v_road_drawSeed v_road_stretches_stretchCount f_road_stretches_kinds f_road_stretches_others f_road_stretches_spaces f_road_stretches_times) := hD
    exact W.iret hx hb hr (fun t ht _ => ⟨⟨_, (w29_0, v_road_stretches_stretchCount, f_road_stretches_kinds, f_road_stretches_others, f_road_stretches_spaces, f_road_stretches_times), rfl, h, hPt hP ht⟩, hS.F ht⟩) hS.2.2 dX9_stretch_32
  have h := h.1 hc
  refine lv_aload_n hx hb dX9_stretch_10 rfl (lv_at hl 0 rfl) ?_
  refine lv_iconst (v := (-1)) hx hb dX9_stretch_11 (by decide) ?_
  refine rw_i (rwV S hE hT hS hP hD hA (c_X9_refuse h) [0, 1] rfl (by decide +kernel) lkX9_59 rfl ⟨(Nat.le_of_ble_eq_true rfl), (Nat.le_of_ble_eq_true rfl)⟩ 0 rfl rfl hl.1 rfl (Nat.le_of_ble_eq_true rfl) dX9_stretch_12 ⟨(Nat.zero_le _), (Nat.zero_le _)⟩) hP hD hS hA [0, 1] rfl (by decide +kernel) (fun _ => rfl) (fun r12 w12_0 H locs h hP hD hS => ?_)
  try dsimp only at h
  have hP : va_P D vwCl (wX9_stretch cI cJ cS a_o a_refused a_road a_road_stretches a_road_stretches_kinds a_road_stretches_others a_road_stretches_spaces a_road_stretches_times z_kept z_ahead z_shelves z_cutting z_acting z_road_cars z_road_tunes z_road_demands v_imaged v_lastFault w12_0 v_road_drawSeed v_road_stretches_stretchCount f_road_stretches_kinds f_road_stretches_others f_road_stretches_spaces f_road_stretches_times) H := hP
  have hD : va_D A (wX9_stretch cI cJ cS a_o a_refused a_road a_road_stretches a_road_stretches_kinds a_road_stretches_others a_road_stretches_spaces a_road_stretches_times z_kept z_ahead z_shelves z_cutting z_acting z_road_cars z_road_tunes z_road_demands v_imaged v_lastFault w12_0 v_road_drawSeed v_road_stretches_stretchCount f_road_stretches_kinds f_road_stretches_others f_road_stretches_spaces f_road_stretches_times) := hD
  exact W.iret hx hb hr (fun t ht _ => ⟨⟨_, (w12_0, v_road_stretches_stretchCount, f_road_stretches_kinds, f_road_stretches_others, f_road_stretches_spaces, f_road_stretches_times), rfl, h, hPt hP ht⟩, hS.F ht⟩) hS.2.2 dX9_stretch_15
/-! X9_addStretchFrom -/
abbrev wX9_addStretchFrom (cI cJ cS : ClassId) (a_o a_p1 a_p1_elements a_road a_road_stretches a_road_stretches_kinds a_road_stretches_others a_road_stretches_spaces a_road_stretches_times : Nat) (z_kept z_ahead z_shelves z_cutting z_acting z_refused z_road_cars z_road_tunes z_road_demands : Value) (v_imaged : Int32) (v_lastFault : Int32) (v_p1_held : Int32) (v_p1_sort : Int32) (v_p1_elementCount : Int32) (v_p1_stretchNumber : Int32) (g_p1_elements : Nat → Int64) (v_road_drawSeed : Int32) (v_road_stretches_stretchCount : Int32) (f_road_stretches_kinds : Nat → Int32) (f_road_stretches_others : Nat → Int32) (f_road_stretches_spaces : Nat → Int32) (f_road_stretches_times : Nat → Int32) : va_W := [(a_o, .inr (8, [.ref a_road, z_kept, z_ahead, z_shelves, z_cutting, z_acting, z_refused, .int v_imaged, .int v_lastFault])), (a_p1, .inr (5, [.ref a_p1_elements, .int v_p1_held, .int v_p1_sort, .int v_p1_elementCount, .int v_p1_stretchNumber])), (a_p1_elements, .inl (cJ, 160, .inr (.inl g_p1_elements))), (a_road, .inr (4, [.ref a_road_stretches, z_road_cars, z_road_tunes, z_road_demands, .int v_road_drawSeed])), (a_road_stretches, .inr (6, [.ref a_road_stretches_kinds, .ref a_road_stretches_spaces, .ref a_road_stretches_others, .ref a_road_stretches_times, .int v_road_stretches_stretchCount])), (a_road_stretches_kinds, .inl (cI, 16, .inl f_road_stretches_kinds)), (a_road_stretches_others, .inl (cI, 16, .inl f_road_stretches_others)), (a_road_stretches_spaces, .inl (cI, 16, .inl f_road_stretches_spaces)), (a_road_stretches_times, .inl (cI, 16, .inl f_road_stretches_times))]
def F_X9_addStretchFrom (v_p1_elementCount : Int32) (g_p1_elements : Nat → Int64) (v_road_stretches_stretchCount : Int32) (f_road_stretches_kinds : Nat → Int32) (f_road_stretches_others : Nat → Int32) (f_road_stretches_spaces : Nat → Int32) (f_road_stretches_times : Nat → Int32) (x2 : Int32) (post : Int32 → Int32 → (Nat → Int32) → (Nat → Int32) → (Nat → Int32) → (Nat → Int32) → Prop) : Prop := (F_X6_intAt v_p1_elementCount g_p1_elements x2 (fun r2 => (F_X6_intAt v_p1_elementCount g_p1_elements (x2 + 1) (fun r10 => (F_X6_intAt v_p1_elementCount g_p1_elements (x2 + 2) (fun r19 => (F_X6_intAt v_p1_elementCount g_p1_elements (x2 + 3) (fun r28 => (F_X9_within r2 0 6 (fun r37 => ((r37 = 0 → post 0 v_road_stretches_stretchCount f_road_stretches_kinds f_road_stretches_others f_road_stretches_spaces f_road_stretches_times) ∧ (¬ r37 = 0 → (F_X9_areMeasures r10 r19 r28 (fun r49 => ((r49 = 0 → post 0 v_road_stretches_stretchCount f_road_stretches_kinds f_road_stretches_others f_road_stretches_spaces f_road_stretches_times) ∧ (¬ r49 = 0 → (F_X7_add v_road_stretches_stretchCount f_road_stretches_kinds f_road_stretches_others f_road_stretches_spaces f_road_stretches_times r2 r10 r19 r28 (fun r71 w71_0 w71_1 w71_2 w71_3 w71_4 => ((r71 = (-1) → post 0 w71_0 w71_1 w71_2 w71_3 w71_4) ∧ (¬ r71 = (-1) → post 1 w71_0 w71_1 w71_2 w71_3 w71_4))))))))))))))))))))
set_option maxHeartbeats 4000000 in
set_option maxRecDepth 100000 in
theorem c_X9_addStretchFrom {l : Launch} {D : va_G} {cI cJ cS : ClassId} {ad adK : Nat → Nat} {a_o a_p1 a_p1_elements a_road a_road_stretches a_road_stretches_kinds a_road_stretches_others a_road_stretches_spaces a_road_stretches_times : Nat} {z_kept z_ahead z_shelves z_cutting z_acting z_refused z_road_cars z_road_tunes z_road_demands : Value} {v_imaged : Int32} {v_lastFault : Int32} {v_p1_held : Int32} {v_p1_sort : Int32} {v_p1_elementCount : Int32} {v_p1_stretchNumber : Int32} {g_p1_elements : Nat → Int64} {v_road_drawSeed : Int32} {v_road_stretches_stretchCount : Int32} {f_road_stretches_kinds : Nat → Int32} {f_road_stretches_others : Nat → Int32} {f_road_stretches_spaces : Nat → Int32} {f_road_stretches_times : Nat → Int32} {x2 : Int32} {post : Int32 → Int32 → (Nat → Int32) → (Nat → Int32) → (Nat → Int32) → (Nat → Int32) → Prop} (h : F_X9_addStretchFrom v_p1_elementCount g_p1_elements v_road_stretches_stretchCount f_road_stretches_kinds f_road_stretches_others f_road_stretches_spaces f_road_stretches_times x2 post) {sz : Nat} : Met l yX9_addStretchFrom (Cond.code yX9_addStretchFrom cX9_addStretchFrom 7 (some (.boolean)) :: GW) (rmd 2 0 0) (PW D cI cJ cS ad adK [.ref a_o, .ref a_p1, .int x2] (wX9_addStretchFrom cI cJ cS a_o a_p1 a_p1_elements a_road a_road_stretches a_road_stretches_kinds a_road_stretches_others a_road_stretches_spaces a_road_stretches_times z_kept z_ahead z_shelves z_cutting z_acting z_refused z_road_cars z_road_tunes z_road_demands v_imaged v_lastFault v_p1_held v_p1_sort v_p1_elementCount v_p1_stretchNumber g_p1_elements v_road_drawSeed v_road_stretches_stretchCount f_road_stretches_kinds f_road_stretches_others f_road_stretches_spaces f_road_stretches_times) sz) (va_Qi (fun r (u : Int32 × (Nat → Int32) × (Nat → Int32) × (Nat → Int32) × (Nat → Int32)) => post r u.1 u.2.1 u.2.2.1 u.2.2.2.1 u.2.2.2.2) (fun u t => va_P D vwCl (wX9_addStretchFrom cI cJ cS a_o a_p1 a_p1_elements a_road a_road_stretches a_road_stretches_kinds a_road_stretches_others a_road_stretches_spaces a_road_stretches_times z_kept z_ahead z_shelves z_cutting z_acting z_refused z_road_cars z_road_tunes z_road_demands v_imaged v_lastFault v_p1_held v_p1_sort v_p1_elementCount v_p1_stretchNumber g_p1_elements v_road_drawSeed u.1 u.2.1 u.2.2.1 u.2.2.2.1 u.2.2.2.2) t.heap) (va_A (wX9_addStretchFrom cI cJ cS a_o a_p1 a_p1_elements a_road a_road_stretches a_road_stretches_kinds a_road_stretches_others a_road_stretches_spaces a_road_stretches_times z_kept z_ahead z_shelves z_cutting z_acting z_refused z_road_cars z_road_tunes z_road_demands v_imaged v_lastFault v_p1_held v_p1_sort v_p1_elementCount v_p1_stretchNumber g_p1_elements v_road_drawSeed v_road_stretches_stretchCount f_road_stretches_kinds f_road_stretches_others f_road_stretches_spaces f_road_stretches_times) sz)) 0 0 (va_A (wX9_addStretchFrom cI cJ cS a_o a_p1 a_p1_elements a_road a_road_stretches a_road_stretches_kinds a_road_stretches_others a_road_stretches_spaces a_road_stretches_times z_kept z_ahead z_shelves z_cutting z_acting z_refused z_road_cars z_road_tunes z_road_demands v_imaged v_lastFault v_p1_held v_p1_sort v_p1_elementCount v_p1_stretchNumber g_p1_elements v_road_drawSeed v_road_stretches_stretchCount f_road_stretches_kinds f_road_stretches_others f_road_stretches_spaces f_road_stretches_times) sz) := by
  refine Met.rw (Qc := fun A => (va_Qi (fun r (u : Int32 × (Nat → Int32) × (Nat → Int32) × (Nat → Int32) × (Nat → Int32)) => post r u.1 u.2.1 u.2.2.1 u.2.2.2.1 u.2.2.2.2) (fun u t => va_P D vwCl (wX9_addStretchFrom cI cJ cS a_o a_p1 a_p1_elements a_road a_road_stretches a_road_stretches_kinds a_road_stretches_others a_road_stretches_spaces a_road_stretches_times z_kept z_ahead z_shelves z_cutting z_acting z_refused z_road_cars z_road_tunes z_road_demands v_imaged v_lastFault v_p1_held v_p1_sort v_p1_elementCount v_p1_stretchNumber g_p1_elements v_road_drawSeed u.1 u.2.1 u.2.2.1 u.2.2.2.1 u.2.2.2.2) t.heap) A)) (by decide) (Nat.le_of_ble_eq_true rfl) (fun p e s m args below meth c ls A (S : CallFix p m c cX9_addStretchFrom 7 s args GW "RoadThatSings") hE hT hP hD hA hS hr hlocks hname hl => ?_)
  have hS0 := hS
  have hx := S.1
  have hb := S.2.1
  have hl : lv_has ls 7 [(0, .ref a_o), (1, .ref a_p1), (2, .int x2)] := hl
  unfold F_X9_addStretchFrom at h
  refine lv_aload_n hx hb dX9_addStretchFrom_0 rfl (lv_at hl 1 rfl) ?_
  refine lv_iload_n hx hb dX9_addStretchFrom_1 rfl (lv_at hl 2 rfl) ?_
  refine ro_i (roV S hE hT hS (c_X6_intAt h) lkX9_153 rfl ⟨(Nat.le_of_ble_eq_true rfl), (Nat.le_of_ble_eq_true rfl)⟩ (hP.sub [1, 2] rfl) 0 rfl rfl hl.1 rfl (Nat.le_of_ble_eq_true rfl) dX9_addStretchFrom_2 ⟨(Nat.zero_le _), (Nat.zero_le _)⟩) (fun r2 h => ?_)
  refine lv_istore_n (lv' := [(3, .int r2), (0, .ref a_o), (1, .ref a_p1), (2, .int x2)]) hx hb dX9_addStretchFrom_5 rfl hl (by decide) rfl (fun ls hl => ?_)
  refine lv_aload_n hx hb dX9_addStretchFrom_6 rfl (lv_at hl 2 rfl) ?_
  refine lv_iload_n hx hb dX9_addStretchFrom_7 rfl (lv_at hl 3 rfl) ?_
  refine lv_iconst (v := 1) hx hb dX9_addStretchFrom_8 (by decide) ?_
  refine lv_iadd hx hb dX9_addStretchFrom_9 ?_
  refine ro_i (roV S hE hT hS (c_X6_intAt h) lkX9_153 rfl ⟨(Nat.le_of_ble_eq_true rfl), (Nat.le_of_ble_eq_true rfl)⟩ (hP.sub [1, 2] rfl) 0 rfl rfl hl.1 rfl (Nat.le_of_ble_eq_true rfl) dX9_addStretchFrom_10 ⟨(Nat.zero_le _), (Nat.zero_le _)⟩) (fun r10 h => ?_)
  refine lv_istore (lv' := [(4, .int r10), (3, .int r2), (0, .ref a_o), (1, .ref a_p1), (2, .int x2)]) hx hb dX9_addStretchFrom_13 hl (by decide) rfl (fun ls hl => ?_)
  refine lv_aload_n hx hb dX9_addStretchFrom_15 rfl (lv_at hl 3 rfl) ?_
  refine lv_iload_n hx hb dX9_addStretchFrom_16 rfl (lv_at hl 4 rfl) ?_
  refine lv_iconst (v := 2) hx hb dX9_addStretchFrom_17 (by decide) ?_
  refine lv_iadd hx hb dX9_addStretchFrom_18 ?_
  refine ro_i (roV S hE hT hS (c_X6_intAt h) lkX9_153 rfl ⟨(Nat.le_of_ble_eq_true rfl), (Nat.le_of_ble_eq_true rfl)⟩ (hP.sub [1, 2] rfl) 0 rfl rfl hl.1 rfl (Nat.le_of_ble_eq_true rfl) dX9_addStretchFrom_19 ⟨(Nat.zero_le _), (Nat.zero_le _)⟩) (fun r19 h => ?_)
  refine lv_istore (lv' := [(5, .int r19), (4, .int r10), (3, .int r2), (0, .ref a_o), (1, .ref a_p1), (2, .int x2)]) hx hb dX9_addStretchFrom_22 hl (by decide) rfl (fun ls hl => ?_)
  refine lv_aload_n hx hb dX9_addStretchFrom_24 rfl (lv_at hl 4 rfl) ?_
  refine lv_iload_n hx hb dX9_addStretchFrom_25 rfl (lv_at hl 5 rfl) ?_
  refine lv_iconst (v := 3) hx hb dX9_addStretchFrom_26 (by decide) ?_
  refine lv_iadd hx hb dX9_addStretchFrom_27 ?_
  refine ro_i (roV S hE hT hS (c_X6_intAt h) lkX9_153 rfl ⟨(Nat.le_of_ble_eq_true rfl), (Nat.le_of_ble_eq_true rfl)⟩ (hP.sub [1, 2] rfl) 0 rfl rfl hl.1 rfl (Nat.le_of_ble_eq_true rfl) dX9_addStretchFrom_28 ⟨(Nat.zero_le _), (Nat.zero_le _)⟩) (fun r28 h => ?_)
  refine lv_istore (lv' := [(6, .int r28), (5, .int r19), (4, .int r10), (3, .int r2), (0, .ref a_o), (1, .ref a_p1), (2, .int x2)]) hx hb dX9_addStretchFrom_31 hl (by decide) rfl (fun ls hl => ?_)
  refine lv_iload_n hx hb dX9_addStretchFrom_33 rfl (lv_at hl 3 rfl) ?_
  refine lv_iconst (v := 0) hx hb dX9_addStretchFrom_34 (by decide) ?_
  refine lv_bipush (v := 6) hx hb dX9_addStretchFrom_35 (by decide) ?_
  refine ro_i (roS S hE hT hS (c_X9_within h) lkX9_63 rfl ⟨(Nat.le_of_ble_eq_true rfl), (Nat.le_of_ble_eq_true rfl)⟩ (hP.sub [] rfl) hl.1 rfl (Nat.le_of_ble_eq_true rfl) dX9_addStretchFrom_37 ⟨(Nat.zero_le _), (Nat.zero_le _)⟩) (fun r37 h => ?_)
  refine lv_if_eq (tgt := 55) hx hb dX9_addStretchFrom_40 (by decide) (fun hc => ?_) (fun hc => ?_)
  · have h := h.1 hc
    refine lv_iconst (v := 0) hx hb dX9_addStretchFrom_55 (by decide) ?_
    exact W.zret hx hb hr rfl (fun t ht _ => ⟨⟨_, (v_road_stretches_stretchCount, f_road_stretches_kinds, f_road_stretches_others, f_road_stretches_spaces, f_road_stretches_times), rfl, h, hPt hP ht⟩, hS.F ht⟩) hS.2.2 dX9_addStretchFrom_56
  have h := h.2 hc
  refine lv_iload hx hb dX9_addStretchFrom_43 (lv_at hl 2 rfl) ?_
  refine lv_iload hx hb dX9_addStretchFrom_45 (lv_at hl 1 rfl) ?_
  refine lv_iload hx hb dX9_addStretchFrom_47 (lv_at hl 0 rfl) ?_
  refine ro_i (roS S hE hT hS (c_X9_areMeasures h) lkX9_139 rfl ⟨(Nat.le_of_ble_eq_true rfl), (Nat.le_of_ble_eq_true rfl)⟩ (hP.sub [] rfl) hl.1 rfl (Nat.le_of_ble_eq_true rfl) dX9_addStretchFrom_49 ⟨(Nat.zero_le _), (Nat.zero_le _)⟩) (fun r49 h => ?_)
  refine lv_if_ne (tgt := 57) hx hb dX9_addStretchFrom_52 (by decide) (fun hc => ?_) (fun hc => ?_)
  · have h := h.2 hc
    refine lv_aload_n hx hb dX9_addStretchFrom_57 rfl (lv_at hl 4 rfl) ?_
    refine gf S hE hP 0 rfl rfl inX9 (k := 0) (by decide) q181 rfl dX9_addStretchFrom_58 ?_
    refine gfN S hE hP 3 rfl rfl inX5 (k := 0) (by decide) nfX9_106 rfl dX9_addStretchFrom_61 ?_
    refine lv_iload_n hx hb dX9_addStretchFrom_64 rfl (lv_at hl 3 rfl) ?_
    refine lv_iload hx hb dX9_addStretchFrom_65 (lv_at hl 2 rfl) ?_
    refine lv_iload hx hb dX9_addStretchFrom_67 (lv_at hl 1 rfl) ?_
    refine lv_iload hx hb dX9_addStretchFrom_69 (lv_at hl 0 rfl) ?_
    refine rw_i (rwV S hE hT hS hP hD hA (c_X7_add h) [4, 5, 6, 7, 8] rfl (by decide +kernel) lkX9_145 rfl ⟨(Nat.le_of_ble_eq_true rfl), (Nat.le_of_ble_eq_true rfl)⟩ 4 rfl rfl hl.1 rfl (Nat.le_of_ble_eq_true rfl) dX9_addStretchFrom_71 ⟨(Nat.zero_le _), (Nat.zero_le _)⟩) hP hD hS hA [4, 5, 6, 7, 8] rfl (by decide +kernel) (fun _ => rfl) (fun r71 u71 H locs h hP hD hS => ?_)
    obtain ⟨w71_0, w71_1, w71_2, w71_3, w71_4⟩ := u71
    try dsimp only at h
    have hP : va_P D vwCl (wX9_addStretchFrom cI cJ cS a_o a_p1 a_p1_elements a_road a_road_stretches a_road_stretches_kinds a_road_stretches_others a_road_stretches_spaces a_road_stretches_times z_kept z_ahead z_shelves z_cutting z_acting z_refused z_road_cars z_road_tunes z_road_demands v_imaged v_lastFault v_p1_held v_p1_sort v_p1_elementCount v_p1_stretchNumber g_p1_elements v_road_drawSeed w71_0 w71_1 w71_2 w71_3 w71_4) H := wsetP 9 [0, 1, 2, 3] hP rfl ⟨rfl, rfl, rfl, rfl, trivial⟩ rfl rfl (by decide +kernel) (by decide +kernel) (by decide +kernel)
    have hD : va_D A (wX9_addStretchFrom cI cJ cS a_o a_p1 a_p1_elements a_road a_road_stretches a_road_stretches_kinds a_road_stretches_others a_road_stretches_spaces a_road_stretches_times z_kept z_ahead z_shelves z_cutting z_acting z_refused z_road_cars z_road_tunes z_road_demands v_imaged v_lastFault v_p1_held v_p1_sort v_p1_elementCount v_p1_stretchNumber g_p1_elements v_road_drawSeed w71_0 w71_1 w71_2 w71_3 w71_4) := wsetD 9 [0, 1, 2, 3] hD rfl ⟨rfl, rfl, rfl, rfl, trivial⟩ rfl rfl (by decide +kernel) (by decide +kernel) (by decide +kernel)
    refine lv_iconst (v := (-1)) hx hb dX9_addStretchFrom_74 (by decide) ?_
    refine lv_icmp_eq (tgt := 82) hx hb dX9_addStretchFrom_75 (by decide) (fun hc => ?_) (fun hc => ?_)
    · have h := h.1 hc
      refine lv_iconst (v := 0) hx hb dX9_addStretchFrom_82 (by decide) ?_
      exact W.zret hx hb hr rfl (fun t ht _ => ⟨⟨_, (w71_0, w71_1, w71_2, w71_3, w71_4), rfl, h, hPt hP ht⟩, hS.F ht⟩) hS.2.2 dX9_addStretchFrom_83
    have h := h.2 hc
    refine lv_iconst (v := 1) hx hb dX9_addStretchFrom_78 (by decide) ?_
    refine lv_goto (tgt := 83) hx hb dX9_addStretchFrom_79 (by decide) ?_
    exact W.zret hx hb hr rfl (fun t ht _ => ⟨⟨_, (w71_0, w71_1, w71_2, w71_3, w71_4), rfl, h, hPt hP ht⟩, hS.F ht⟩) hS.2.2 dX9_addStretchFrom_83
  have h := h.1 hc
  refine lv_iconst (v := 0) hx hb dX9_addStretchFrom_55 (by decide) ?_
  exact W.zret hx hb hr rfl (fun t ht _ => ⟨⟨_, (v_road_stretches_stretchCount, f_road_stretches_kinds, f_road_stretches_others, f_road_stretches_spaces, f_road_stretches_times), rfl, h, hPt hP ht⟩, hS.F ht⟩) hS.2.2 dX9_addStretchFrom_56
/-! X9_stretches -/
abbrev wX9_stretches (cI cJ cS : ClassId) (a_o a_refused a_road a_road_stretches a_road_stretches_kinds a_road_stretches_others a_road_stretches_spaces a_road_stretches_times a_shelves : Nat) (z_kept z_ahead z_cutting z_acting z_road_cars z_road_tunes z_road_demands : Value) (sa ea : Nat → Nat) (v_imaged : Int32) (v_lastFault : Int32) (f_refused : Nat → Int32) (v_road_drawSeed : Int32) (v_road_stretches_stretchCount : Int32) (f_road_stretches_kinds : Nat → Int32) (f_road_stretches_others : Nat → Int32) (f_road_stretches_spaces : Nat → Int32) (f_road_stretches_times : Nat → Int32) (f_sh_held : Nat → Int32) (f_sh_sort : Nat → Int32) (f_sh_cnt : Nat → Int32) (f_sh_num : Nat → Int32) (g_sh_el : Nat → Nat → Int64) : va_W := [(a_o, .inr (8, [.ref a_road, z_kept, z_ahead, .ref a_shelves, z_cutting, z_acting, .ref a_refused, .int v_imaged, .int v_lastFault])), (a_refused, .inl (cI, 8, .inl f_refused)), (a_road, .inr (4, [.ref a_road_stretches, z_road_cars, z_road_tunes, z_road_demands, .int v_road_drawSeed])), (a_road_stretches, .inr (6, [.ref a_road_stretches_kinds, .ref a_road_stretches_spaces, .ref a_road_stretches_others, .ref a_road_stretches_times, .int v_road_stretches_stretchCount])), (a_road_stretches_kinds, .inl (cI, 16, .inl f_road_stretches_kinds)), (a_road_stretches_others, .inl (cI, 16, .inl f_road_stretches_others)), (a_road_stretches_spaces, .inl (cI, 16, .inl f_road_stretches_spaces)), (a_road_stretches_times, .inl (cI, 16, .inl f_road_stretches_times)), (a_shelves, .inl (cS, 8, .inr (.inr (.inr (.inr (fun k => some (sa k)))))))] ++ shW sa ea cJ f_sh_held f_sh_sort f_sh_cnt f_sh_num g_sh_el
def L_X9_stretches_75 (f_sh_cnt : Nat → Int32) (g_sh_el : Nat → Nat → Int64) (x2 : Int32) (x3 : Int32) (j4 : Nat) (f_refused : Nat → Int32) (post : Int32 → (Nat → Int32) → Int32 → (Nat → Int32) → (Nat → Int32) → (Nat → Int32) → (Nat → Int32) → Prop) : Nat → Int32 → Int32 → (Nat → Int32) → (Nat → Int32) → (Nat → Int32) → (Nat → Int32) → Prop
  | 0, _, _, _, _, _, _ => False
  | n75 + 1, x6, v_road_stretches_stretchCount, f_road_stretches_kinds, f_road_stretches_others, f_road_stretches_spaces, f_road_stretches_times => (((x3 / 4) ≤ x6 → post x6 f_refused v_road_stretches_stretchCount f_road_stretches_kinds f_road_stretches_others f_road_stretches_spaces f_road_stretches_times) ∧ (¬ (x3 / 4) ≤ x6 → (F_X9_addStretchFrom (f_sh_cnt j4) (g_sh_el j4) v_road_stretches_stretchCount f_road_stretches_kinds f_road_stretches_others f_road_stretches_spaces f_road_stretches_times (x2 + (4 * x6)) (fun r92 w92_0 w92_1 w92_2 w92_3 w92_4 => ((r92 = 0 → post x6 f_refused w92_0 w92_1 w92_2 w92_3 w92_4) ∧ (¬ r92 = 0 → (∀ x6_98 : Int32, x6_98 = x6 + 1 → L_X9_stretches_75 f_sh_cnt g_sh_el x2 x3 j4 f_refused post n75 x6_98 w92_0 w92_1 w92_2 w92_3 w92_4)))))))
def F_X9_stretches (f_refused : Nat → Int32) (v_road_stretches_stretchCount : Int32) (f_road_stretches_kinds : Nat → Int32) (f_road_stretches_others : Nat → Int32) (f_road_stretches_spaces : Nat → Int32) (f_road_stretches_times : Nat → Int32) (f_sh_held : Nat → Int32) (f_sh_cnt : Nat → Int32) (g_sh_el : Nat → Nat → Int64) (x1 : Int32) (x2 : Int32) (x3 : Int32) (post : Int32 → (Nat → Int32) → Int32 → (Nat → Int32) → (Nat → Int32) → (Nat → Int32) → (Nat → Int32) → Prop) : Prop := (F_X9_shelfAt x1 ((F_X9_refusalOfRow_null0  (fun r9 => ((r9 = 0 → (F_X9_refuse f_refused r9 (fun r27 w27_0 => post r27 w27_0 v_road_stretches_stretchCount f_road_stretches_kinds f_road_stretches_others f_road_stretches_spaces f_road_stretches_times))) ∧ (¬ r9 = 0 → (F_X9_refuse f_refused r9 (fun r27 w27_0 => post r27 w27_0 v_road_stretches_stretchCount f_road_stretches_kinds f_road_stretches_others f_road_stretches_spaces f_road_stretches_times))))))) (fun j2 => (F_X9_refusalOfRow (f_sh_held j2) (fun r9 => ((r9 = 0 → ((0 ≤ x3 → (F_X6_hasElements (f_sh_cnt j2) x2 x3 (fun r46 => ((r46 = 0 → (F_X9_refuse f_refused (-5) (fun r55 w55_0 => post r55 w55_0 v_road_stretches_stretchCount f_road_stretches_kinds f_road_stretches_others f_road_stretches_spaces f_road_stretches_times))) ∧ (¬ r46 = 0 → (((x3 - x3 / 4 * 4) = 0 → (∃ n75 : Nat, L_X9_stretches_75 f_sh_cnt g_sh_el x2 x3 j2 f_refused post n75 0 v_road_stretches_stretchCount f_road_stretches_kinds f_road_stretches_others f_road_stretches_spaces f_road_stretches_times)) ∧ (¬ (x3 - x3 / 4 * 4) = 0 → (F_X9_refuse f_refused (-6) (fun r68 w68_0 => post r68 w68_0 v_road_stretches_stretchCount f_road_stretches_kinds f_road_stretches_others f_road_stretches_spaces f_road_stretches_times))))))))) ∧ (¬ 0 ≤ x3 → (F_X9_refuse f_refused (-4) (fun r38 w38_0 => post r38 w38_0 v_road_stretches_stretchCount f_road_stretches_kinds f_road_stretches_others f_road_stretches_spaces f_road_stretches_times))))) ∧ (¬ r9 = 0 → (F_X9_refuse f_refused r9 (fun r27 w27_0 => post r27 w27_0 v_road_stretches_stretchCount f_road_stretches_kinds f_road_stretches_others f_road_stretches_spaces f_road_stretches_times))))))))
set_option maxHeartbeats 4000000 in
set_option maxRecDepth 100000 in
theorem w_X9_stretches_75 {l : Launch} {D : va_G} {cI cJ cS : ClassId} {ad adK : Nat → Nat} {a_o a_refused a_road a_road_stretches a_road_stretches_kinds a_road_stretches_others a_road_stretches_spaces a_road_stretches_times a_shelves : Nat} {z_kept z_ahead z_cutting z_acting z_road_cars z_road_tunes z_road_demands : Value} {sa ea : Nat → Nat} {v_imaged : Int32} {v_lastFault : Int32} {f_refused : Nat → Int32} {v_road_drawSeed : Int32} {f_sh_held : Nat → Int32} {f_sh_sort : Nat → Int32} {f_sh_cnt : Nat → Int32} {f_sh_num : Nat → Int32} {g_sh_el : Nat → Nat → Int64} {x2 : Int32} {x3 : Int32} {j4 : Nat} {post : Int32 → (Nat → Int32) → Int32 → (Nat → Int32) → (Nat → Int32) → (Nat → Int32) → (Nat → Int32) → Prop} {p : Program} {e : Env} {s : State} {m : MethodId} {args : Array Value} {below : List Frame} {meth : Method} {c : Code} {A : Nat → Prop} (S : CallFix p m c cX9_stretches 7 s args GW "RoadThatSings") (hE : EN D cI cJ cS s) (hT : ST ad adK A s s.heap) (hA : ∀ q : Nat, s.heap.size ≤ q → A q) (hr : meth.sig.returnType = (some (.int))) (hlocks : meth.locks = false) (hjj4 : j4 < 8) : ∀ n : Nat, ∀ (x6 : Int32) (v_road_stretches_stretchCount : Int32) (f_road_stretches_kinds : Nat → Int32) (f_road_stretches_others : Nat → Int32) (f_road_stretches_spaces : Nat → Int32) (f_road_stretches_times : Nat → Int32) (H : Heap) (locs : List Loc) (ls : Array Slot), L_X9_stretches_75 f_sh_cnt g_sh_el x2 x3 j4 f_refused post n x6 v_road_stretches_stretchCount f_road_stretches_kinds f_road_stretches_others f_road_stretches_spaces f_road_stretches_times → va_P D vwCl (wX9_stretches cI cJ cS a_o a_refused a_road a_road_stretches a_road_stretches_kinds a_road_stretches_others a_road_stretches_spaces a_road_stretches_times a_shelves z_kept z_ahead z_cutting z_acting z_road_cars z_road_tunes z_road_demands sa ea v_imaged v_lastFault f_refused v_road_drawSeed v_road_stretches_stretchCount f_road_stretches_kinds f_road_stretches_others f_road_stretches_spaces f_road_stretches_times f_sh_held f_sh_sort f_sh_cnt f_sh_num g_sh_el) H → va_D A (wX9_stretches cI cJ cS a_o a_refused a_road a_road_stretches a_road_stretches_kinds a_road_stretches_others a_road_stretches_spaces a_road_stretches_times a_shelves z_kept z_ahead z_cutting z_acting z_road_cars z_road_tunes z_road_demands sa ea v_imaged v_lastFault f_refused v_road_drawSeed v_road_stretches_stretchCount f_road_stretches_kinds f_road_stretches_others f_road_stretches_spaces f_road_stretches_times f_sh_held f_sh_sort f_sh_cnt f_sh_num g_sh_el) → va_S A s.heap H locs → lv_has ls 7 [(0, .ref a_o), (2, .int x2), (3, .int x3), (4, .ref (sa j4)), (6, .int x6)] → W p l e (rmd 3 0 0) s m args below meth c H locs 0 0 (MQ below (va_Qi (fun r (u : (Nat → Int32) × Int32 × (Nat → Int32) × (Nat → Int32) × (Nat → Int32) × (Nat → Int32)) => post r u.1 u.2.1 u.2.2.1 u.2.2.2.1 u.2.2.2.2.1 u.2.2.2.2.2) (fun u t => va_P D vwCl (wX9_stretches cI cJ cS a_o a_refused a_road a_road_stretches a_road_stretches_kinds a_road_stretches_others a_road_stretches_spaces a_road_stretches_times a_shelves z_kept z_ahead z_cutting z_acting z_road_cars z_road_tunes z_road_demands sa ea v_imaged v_lastFault u.1 v_road_drawSeed u.2.1 u.2.2.1 u.2.2.2.1 u.2.2.2.2.1 u.2.2.2.2.2 f_sh_held f_sh_sort f_sh_cnt f_sh_num g_sh_el) t.heap) A) args s 0 0 A) (F0 m 75 ls []) := by
  intro n
  induction n with
  | zero =>
    intro x6 v_road_stretches_stretchCount f_road_stretches_kinds f_road_stretches_others f_road_stretches_spaces f_road_stretches_times H locs ls h hP hD hS hl
    exact h.elim
  | succ n ih =>
    intro x6 v_road_stretches_stretchCount f_road_stretches_kinds f_road_stretches_others f_road_stretches_spaces f_road_stretches_times H locs ls h hP hD hS hl
    rw [L_X9_stretches_75] at h
    have hx := S.1
    have hb := S.2.1
    refine lv_iload hx hb dX9_stretches_75 (lv_at hl 4 rfl) ?_
    refine lv_iload_n hx hb dX9_stretches_77 rfl (lv_at hl 2 rfl) ?_
    refine lv_iconst (v := 4) hx hb dX9_stretches_78 (by decide) ?_
    refine lv_idiv hx hb dX9_stretches_79 (by decide) ?_
    refine lv_icmp_ge (tgt := 104) hx hb dX9_stretches_80 (by decide) (fun hc => ?_) (fun hc => ?_)
    · have h := h.1 hc
      refine lv_iload hx hb dX9_stretches_104 (lv_at hl 4 rfl) ?_
      exact W.iret hx hb hr (fun t ht _ => ⟨⟨_, (f_refused, v_road_stretches_stretchCount, f_road_stretches_kinds, f_road_stretches_others, f_road_stretches_spaces, f_road_stretches_times), rfl, h, hPt hP ht⟩, hS.F ht⟩) hS.2.2 dX9_stretches_106
    have h := h.2 hc
    refine lv_aload_n hx hb dX9_stretches_83 rfl (lv_at hl 0 rfl) ?_
    refine lv_aload hx hb dX9_stretches_84 (lv_at hl 3 rfl) ?_
    refine lv_iload_n hx hb dX9_stretches_86 rfl (lv_at hl 1 rfl) ?_
    refine lv_iconst (v := 4) hx hb dX9_stretches_87 (by decide) ?_
    refine lv_iload hx hb dX9_stretches_88 (lv_at hl 4 rfl) ?_
    refine lv_imul hx hb dX9_stretches_90 ?_
    refine lv_iadd hx hb dX9_stretches_91 ?_
    refine rw_i (rwV S hE hT hS hP hD hA (c_X9_addStretchFrom h) [0, (9 + 2 * j4), (9 + 2 * j4 + 1), 2, 3, 4, 5, 6, 7] (mCc rfl (mCc (shS rfl hjj4) (mCc (shE rfl hjj4) (mCc rfl (mCc rfl (mCc rfl (mCc rfl (mCc rfl (mCc rfl mCn))))))))) (by simp [va_nd]; try omega) lkX9_149 rfl ⟨(Nat.le_of_ble_eq_true rfl), (Nat.le_of_ble_eq_true rfl)⟩ 0 rfl rfl hl.1 rfl (Nat.le_of_ble_eq_true rfl) dX9_stretches_92 ⟨(Nat.zero_le _), (Nat.zero_le _)⟩) hP hD hS hA [0, (9 + 2 * j4), (9 + 2 * j4 + 1), 2, 3, 4, 5, 6, 7] (mCc rfl (mCc (shS rfl hjj4) (mCc (shE rfl hjj4) (mCc rfl (mCc rfl (mCc rfl (mCc rfl (mCc rfl (mCc rfl mCn))))))))) (by simp [va_nd]; try omega) (fun _ => rfl) (fun r92 u92 H locs h hP hD hS => ?_)
    obtain ⟨w92_0, w92_1, w92_2, w92_3, w92_4⟩ := u92
    try dsimp only at h
    have hP : va_P D vwCl (wX9_stretches cI cJ cS a_o a_refused a_road a_road_stretches a_road_stretches_kinds a_road_stretches_others a_road_stretches_spaces a_road_stretches_times a_shelves z_kept z_ahead z_cutting z_acting z_road_cars z_road_tunes z_road_demands sa ea v_imaged v_lastFault f_refused v_road_drawSeed w92_0 w92_1 w92_2 w92_3 w92_4 f_sh_held f_sh_sort f_sh_cnt f_sh_num g_sh_el) H := by (rcases lt8 hjj4 with rfl | rfl | rfl | rfl | rfl | rfl | rfl | rfl) <;> exact hP
    have hD : va_D A (wX9_stretches cI cJ cS a_o a_refused a_road a_road_stretches a_road_stretches_kinds a_road_stretches_others a_road_stretches_spaces a_road_stretches_times a_shelves z_kept z_ahead z_cutting z_acting z_road_cars z_road_tunes z_road_demands sa ea v_imaged v_lastFault f_refused v_road_drawSeed w92_0 w92_1 w92_2 w92_3 w92_4 f_sh_held f_sh_sort f_sh_cnt f_sh_num g_sh_el) := by (rcases lt8 hjj4 with rfl | rfl | rfl | rfl | rfl | rfl | rfl | rfl) <;> exact hD
    refine lv_if_eq (tgt := 104) hx hb dX9_stretches_95 (by decide) (fun hc => ?_) (fun hc => ?_)
    · have h := h.1 hc
      refine lv_iload hx hb dX9_stretches_104 (lv_at hl 4 rfl) ?_
      exact W.iret hx hb hr (fun t ht _ => ⟨⟨_, (f_refused, w92_0, w92_1, w92_2, w92_3, w92_4), rfl, h, hPt hP ht⟩, hS.F ht⟩) hS.2.2 dX9_stretches_106
    have h := h.2 hc
    obtain ⟨x6_98, ex6_98⟩ : ∃ z : Int32, z = x6 + 1 := ⟨_, rfl⟩
    have h := h _ ex6_98
    refine lv_iinc (v := x6_98) (lv' := [(6, .int x6_98), (0, .ref a_o), (2, .int x2), (3, .int x3), (4, .ref (sa j4))]) hx hb dX9_stretches_98 hl (k := 4) rfl (by rw [ex6_98]; rfl) (by decide) rfl (fun ls hl => ?_)
    refine lv_goto (tgt := 75) hx hb dX9_stretches_101 (by decide) ?_
    exact ih _ _ _ _ _ _ _ _ _ h hP hD hS (lv_sub hl [1, 2, 3, 4, 0] rfl)
set_option maxHeartbeats 4000000 in
set_option maxRecDepth 100000 in
theorem c_X9_stretches {l : Launch} {D : va_G} {cI cJ cS : ClassId} {ad adK : Nat → Nat} {a_o a_refused a_road a_road_stretches a_road_stretches_kinds a_road_stretches_others a_road_stretches_spaces a_road_stretches_times a_shelves : Nat} {z_kept z_ahead z_cutting z_acting z_road_cars z_road_tunes z_road_demands : Value} {sa ea : Nat → Nat} {v_imaged : Int32} {v_lastFault : Int32} {f_refused : Nat → Int32} {v_road_drawSeed : Int32} {v_road_stretches_stretchCount : Int32} {f_road_stretches_kinds : Nat → Int32} {f_road_stretches_others : Nat → Int32} {f_road_stretches_spaces : Nat → Int32} {f_road_stretches_times : Nat → Int32} {f_sh_held : Nat → Int32} {f_sh_sort : Nat → Int32} {f_sh_cnt : Nat → Int32} {f_sh_num : Nat → Int32} {g_sh_el : Nat → Nat → Int64} {x1 : Int32} {x2 : Int32} {x3 : Int32} {post : Int32 → (Nat → Int32) → Int32 → (Nat → Int32) → (Nat → Int32) → (Nat → Int32) → (Nat → Int32) → Prop} (h : F_X9_stretches f_refused v_road_stretches_stretchCount f_road_stretches_kinds f_road_stretches_others f_road_stretches_spaces f_road_stretches_times f_sh_held f_sh_cnt g_sh_el x1 x2 x3 post) {sz : Nat} : Met l yX9_stretches (Cond.code yX9_stretches cX9_stretches 7 (some (.int)) :: GW) (rmd 3 0 0) (PW D cI cJ cS ad adK [.ref a_o, .int x1, .int x2, .int x3] (wX9_stretches cI cJ cS a_o a_refused a_road a_road_stretches a_road_stretches_kinds a_road_stretches_others a_road_stretches_spaces a_road_stretches_times a_shelves z_kept z_ahead z_cutting z_acting z_road_cars z_road_tunes z_road_demands sa ea v_imaged v_lastFault f_refused v_road_drawSeed v_road_stretches_stretchCount f_road_stretches_kinds f_road_stretches_others f_road_stretches_spaces f_road_stretches_times f_sh_held f_sh_sort f_sh_cnt f_sh_num g_sh_el) sz) (va_Qi (fun r (u : (Nat → Int32) × Int32 × (Nat → Int32) × (Nat → Int32) × (Nat → Int32) × (Nat → Int32)) => post r u.1 u.2.1 u.2.2.1 u.2.2.2.1 u.2.2.2.2.1 u.2.2.2.2.2) (fun u t => va_P D vwCl (wX9_stretches cI cJ cS a_o a_refused a_road a_road_stretches a_road_stretches_kinds a_road_stretches_others a_road_stretches_spaces a_road_stretches_times a_shelves z_kept z_ahead z_cutting z_acting z_road_cars z_road_tunes z_road_demands sa ea v_imaged v_lastFault u.1 v_road_drawSeed u.2.1 u.2.2.1 u.2.2.2.1 u.2.2.2.2.1 u.2.2.2.2.2 f_sh_held f_sh_sort f_sh_cnt f_sh_num g_sh_el) t.heap) (va_A (wX9_stretches cI cJ cS a_o a_refused a_road a_road_stretches a_road_stretches_kinds a_road_stretches_others a_road_stretches_spaces a_road_stretches_times a_shelves z_kept z_ahead z_cutting z_acting z_road_cars z_road_tunes z_road_demands sa ea v_imaged v_lastFault f_refused v_road_drawSeed v_road_stretches_stretchCount f_road_stretches_kinds f_road_stretches_others f_road_stretches_spaces f_road_stretches_times f_sh_held f_sh_sort f_sh_cnt f_sh_num g_sh_el) sz)) 0 0 (va_A (wX9_stretches cI cJ cS a_o a_refused a_road a_road_stretches a_road_stretches_kinds a_road_stretches_others a_road_stretches_spaces a_road_stretches_times a_shelves z_kept z_ahead z_cutting z_acting z_road_cars z_road_tunes z_road_demands sa ea v_imaged v_lastFault f_refused v_road_drawSeed v_road_stretches_stretchCount f_road_stretches_kinds f_road_stretches_others f_road_stretches_spaces f_road_stretches_times f_sh_held f_sh_sort f_sh_cnt f_sh_num g_sh_el) sz) := by
  refine Met.rw (Qc := fun A => (va_Qi (fun r (u : (Nat → Int32) × Int32 × (Nat → Int32) × (Nat → Int32) × (Nat → Int32) × (Nat → Int32)) => post r u.1 u.2.1 u.2.2.1 u.2.2.2.1 u.2.2.2.2.1 u.2.2.2.2.2) (fun u t => va_P D vwCl (wX9_stretches cI cJ cS a_o a_refused a_road a_road_stretches a_road_stretches_kinds a_road_stretches_others a_road_stretches_spaces a_road_stretches_times a_shelves z_kept z_ahead z_cutting z_acting z_road_cars z_road_tunes z_road_demands sa ea v_imaged v_lastFault u.1 v_road_drawSeed u.2.1 u.2.2.1 u.2.2.2.1 u.2.2.2.2.1 u.2.2.2.2.2 f_sh_held f_sh_sort f_sh_cnt f_sh_num g_sh_el) t.heap) A)) (by decide) (Nat.le_of_ble_eq_true rfl) (fun p e s m args below meth c ls A (S : CallFix p m c cX9_stretches 7 s args GW "RoadThatSings") hE hT hP hD hA hS hr hlocks hname hl => ?_)
  have hS0 := hS
  have hx := S.1
  have hb := S.2.1
  have hl : lv_has ls 7 [(0, .ref a_o), (1, .int x1), (2, .int x2), (3, .int x3)] := hl
  unfold F_X9_stretches at h
  refine lv_aload_n hx hb dX9_stretches_0 rfl (lv_at hl 0 rfl) ?_
  refine lv_iload_n hx hb dX9_stretches_1 rfl (lv_at hl 1 rfl) ?_
  refine ro_s (roV S hE hT hS (c_X9_shelfAt h) lkX9_55 rfl ⟨(Nat.le_of_ble_eq_true rfl), (Nat.le_of_ble_eq_true rfl)⟩ (hP.sub [0, 8] rfl) 0 rfl rfl hl.1 rfl (Nat.le_of_ble_eq_true rfl) dX9_stretches_2 ⟨(Nat.zero_le _), (Nat.zero_le _)⟩) (fun h => ?_) (fun j2 hj2 h => ?_)
  · refine lv_astoreN (lv' := [(4, .null), (0, .ref a_o), (1, .int x1), (2, .int x2), (3, .int x3)]) hx hb dX9_stretches_5 hl (by decide) rfl (fun ls hl => ?_)
    refine lv_aloadN hx hb dX9_stretches_7 (lv_at hl 0 rfl) ?_
    refine ro_i (roS S hE hT hS (c_X9_refusalOfRow_null0 h) lkX9_71 rfl ⟨(Nat.le_of_ble_eq_true rfl), (Nat.le_of_ble_eq_true rfl)⟩ (hP.sub [] rfl) hl.1 rfl (Nat.le_of_ble_eq_true rfl) dX9_stretches_9 ⟨(Nat.zero_le _), (Nat.zero_le _)⟩) (fun r9 h => ?_)
    refine lv_istore (lv' := [(5, .int r9), (4, .null), (0, .ref a_o), (1, .int x1), (2, .int x2), (3, .int x3)]) hx hb dX9_stretches_12 hl (by decide) rfl (fun ls hl => ?_)
    refine lv_iload hx hb dX9_stretches_14 (lv_at hl 0 rfl) ?_
    refine lv_if_ne (tgt := 24) hx hb dX9_stretches_16 (by decide) (fun hc => ?_) (fun hc => ?_)
    · have h := h.2 hc
      refine lv_aload_n hx hb dX9_stretches_24 rfl (lv_at hl 2 rfl) ?_
      refine lv_iload hx hb dX9_stretches_25 (lv_at hl 0 rfl) ?_
      refine rw_i (rwV S hE hT hS hP hD hA (c_X9_refuse h) [0, 1] rfl (by decide +kernel) lkX9_59 rfl ⟨(Nat.le_of_ble_eq_true rfl), (Nat.le_of_ble_eq_true rfl)⟩ 0 rfl rfl hl.1 rfl (Nat.le_of_ble_eq_true rfl) dX9_stretches_27 ⟨(Nat.zero_le _), (Nat.zero_le _)⟩) hP hD hS hA [0, 1] rfl (by decide +kernel) (fun _ => rfl) (fun r27 w27_0 H locs h hP hD hS => ?_)
      try dsimp only at h
      have hP : va_P D vwCl (wX9_stretches cI cJ cS a_o a_refused a_road a_road_stretches a_road_stretches_kinds a_road_stretches_others a_road_stretches_spaces a_road_stretches_times a_shelves z_kept z_ahead z_cutting z_acting z_road_cars z_road_tunes z_road_demands sa ea v_imaged v_lastFault w27_0 v_road_drawSeed v_road_stretches_stretchCount f_road_stretches_kinds f_road_stretches_others f_road_stretches_spaces f_road_stretches_times f_sh_held f_sh_sort f_sh_cnt f_sh_num g_sh_el) H := hP
      have hD : va_D A (wX9_stretches cI cJ cS a_o a_refused a_road a_road_stretches a_road_stretches_kinds a_road_stretches_others a_road_stretches_spaces a_road_stretches_times a_shelves z_kept z_ahead z_cutting z_acting z_road_cars z_road_tunes z_road_demands sa ea v_imaged v_lastFault w27_0 v_road_drawSeed v_road_stretches_stretchCount f_road_stretches_kinds f_road_stretches_others f_road_stretches_spaces f_road_stretches_times f_sh_held f_sh_sort f_sh_cnt f_sh_num g_sh_el) := hD
      exact W.iret hx hb hr (fun t ht _ => ⟨⟨_, (w27_0, v_road_stretches_stretchCount, f_road_stretches_kinds, f_road_stretches_others, f_road_stretches_spaces, f_road_stretches_times), rfl, h, hPt hP ht⟩, hS.F ht⟩) hS.2.2 dX9_stretches_30
    have h := h.1 hc
    refine lv_aloadN hx hb dX9_stretches_19 (lv_at hl 1 rfl) ?_
    refine lv_ifnonnullN hx hb dX9_stretches_21 ?_
    refine lv_aload_n hx hb dX9_stretches_24 rfl (lv_at hl 2 rfl) ?_
    refine lv_iload hx hb dX9_stretches_25 (lv_at hl 0 rfl) ?_
    refine rw_i (rwV S hE hT hS hP hD hA (c_X9_refuse h) [0, 1] rfl (by decide +kernel) lkX9_59 rfl ⟨(Nat.le_of_ble_eq_true rfl), (Nat.le_of_ble_eq_true rfl)⟩ 0 rfl rfl hl.1 rfl (Nat.le_of_ble_eq_true rfl) dX9_stretches_27 ⟨(Nat.zero_le _), (Nat.zero_le _)⟩) hP hD hS hA [0, 1] rfl (by decide +kernel) (fun _ => rfl) (fun r27 w27_0 H locs h hP hD hS => ?_)
    try dsimp only at h
    have hP : va_P D vwCl (wX9_stretches cI cJ cS a_o a_refused a_road a_road_stretches a_road_stretches_kinds a_road_stretches_others a_road_stretches_spaces a_road_stretches_times a_shelves z_kept z_ahead z_cutting z_acting z_road_cars z_road_tunes z_road_demands sa ea v_imaged v_lastFault w27_0 v_road_drawSeed v_road_stretches_stretchCount f_road_stretches_kinds f_road_stretches_others f_road_stretches_spaces f_road_stretches_times f_sh_held f_sh_sort f_sh_cnt f_sh_num g_sh_el) H := hP
    have hD : va_D A (wX9_stretches cI cJ cS a_o a_refused a_road a_road_stretches a_road_stretches_kinds a_road_stretches_others a_road_stretches_spaces a_road_stretches_times a_shelves z_kept z_ahead z_cutting z_acting z_road_cars z_road_tunes z_road_demands sa ea v_imaged v_lastFault w27_0 v_road_drawSeed v_road_stretches_stretchCount f_road_stretches_kinds f_road_stretches_others f_road_stretches_spaces f_road_stretches_times f_sh_held f_sh_sort f_sh_cnt f_sh_num g_sh_el) := hD
    exact W.iret hx hb hr (fun t ht _ => ⟨⟨_, (w27_0, v_road_stretches_stretchCount, f_road_stretches_kinds, f_road_stretches_others, f_road_stretches_spaces, f_road_stretches_times), rfl, h, hPt hP ht⟩, hS.F ht⟩) hS.2.2 dX9_stretches_30
  refine lv_astore (lv' := [(4, .ref (sa j2)), (0, .ref a_o), (1, .int x1), (2, .int x2), (3, .int x3)]) hx hb dX9_stretches_5 hl (by decide) rfl (fun ls hl => ?_)
  refine lv_aload hx hb dX9_stretches_7 (lv_at hl 0 rfl) ?_
  refine ro_i (roS S hE hT hS (c_X9_refusalOfRow h) lkX9_71 rfl ⟨(Nat.le_of_ble_eq_true rfl), (Nat.le_of_ble_eq_true rfl)⟩ (vPc hP (shS rfl hj2) vPn) hl.1 rfl (Nat.le_of_ble_eq_true rfl) dX9_stretches_9 ⟨(Nat.zero_le _), (Nat.zero_le _)⟩) (fun r9 h => ?_)
  refine lv_istore (lv' := [(5, .int r9), (4, .ref (sa j2)), (0, .ref a_o), (1, .int x1), (2, .int x2), (3, .int x3)]) hx hb dX9_stretches_12 hl (by decide) rfl (fun ls hl => ?_)
  refine lv_iload hx hb dX9_stretches_14 (lv_at hl 0 rfl) ?_
  refine lv_if_ne (tgt := 24) hx hb dX9_stretches_16 (by decide) (fun hc => ?_) (fun hc => ?_)
  · have h := h.2 hc
    refine lv_aload_n hx hb dX9_stretches_24 rfl (lv_at hl 2 rfl) ?_
    refine lv_iload hx hb dX9_stretches_25 (lv_at hl 0 rfl) ?_
    refine rw_i (rwV S hE hT hS hP hD hA (c_X9_refuse h) [0, 1] rfl (by decide +kernel) lkX9_59 rfl ⟨(Nat.le_of_ble_eq_true rfl), (Nat.le_of_ble_eq_true rfl)⟩ 0 rfl rfl hl.1 rfl (Nat.le_of_ble_eq_true rfl) dX9_stretches_27 ⟨(Nat.zero_le _), (Nat.zero_le _)⟩) hP hD hS hA [0, 1] rfl (by decide +kernel) (fun _ => rfl) (fun r27 w27_0 H locs h hP hD hS => ?_)
    try dsimp only at h
    have hP : va_P D vwCl (wX9_stretches cI cJ cS a_o a_refused a_road a_road_stretches a_road_stretches_kinds a_road_stretches_others a_road_stretches_spaces a_road_stretches_times a_shelves z_kept z_ahead z_cutting z_acting z_road_cars z_road_tunes z_road_demands sa ea v_imaged v_lastFault w27_0 v_road_drawSeed v_road_stretches_stretchCount f_road_stretches_kinds f_road_stretches_others f_road_stretches_spaces f_road_stretches_times f_sh_held f_sh_sort f_sh_cnt f_sh_num g_sh_el) H := hP
    have hD : va_D A (wX9_stretches cI cJ cS a_o a_refused a_road a_road_stretches a_road_stretches_kinds a_road_stretches_others a_road_stretches_spaces a_road_stretches_times a_shelves z_kept z_ahead z_cutting z_acting z_road_cars z_road_tunes z_road_demands sa ea v_imaged v_lastFault w27_0 v_road_drawSeed v_road_stretches_stretchCount f_road_stretches_kinds f_road_stretches_others f_road_stretches_spaces f_road_stretches_times f_sh_held f_sh_sort f_sh_cnt f_sh_num g_sh_el) := hD
    exact W.iret hx hb hr (fun t ht _ => ⟨⟨_, (w27_0, v_road_stretches_stretchCount, f_road_stretches_kinds, f_road_stretches_others, f_road_stretches_spaces, f_road_stretches_times), rfl, h, hPt hP ht⟩, hS.F ht⟩) hS.2.2 dX9_stretches_30
  have h := h.1 hc
  refine lv_aload hx hb dX9_stretches_19 (lv_at hl 1 rfl) ?_
  refine lv_ifnonnull (tgt := 31) hx hb dX9_stretches_21 (by decide) ?_
  refine lv_iload_n hx hb dX9_stretches_31 rfl (lv_at hl 5 rfl) ?_
  refine lv_if_ge (tgt := 42) hx hb dX9_stretches_32 (by decide) (fun hc => ?_) (fun hc => ?_)
  · have h := h.1 hc
    refine lv_aload hx hb dX9_stretches_42 (lv_at hl 1 rfl) ?_
    refine lv_iload_n hx hb dX9_stretches_44 rfl (lv_at hl 4 rfl) ?_
    refine lv_iload_n hx hb dX9_stretches_45 rfl (lv_at hl 5 rfl) ?_
    refine ro_i (roV S hE hT hS (c_X6_hasElements h) lkX9_94 rfl ⟨(Nat.le_of_ble_eq_true rfl), (Nat.le_of_ble_eq_true rfl)⟩ (vPc hP (shS rfl hj2) vPn) 0 rfl rfl hl.1 rfl (Nat.le_of_ble_eq_true rfl) dX9_stretches_46 ⟨(Nat.zero_le _), (Nat.zero_le _)⟩) (fun r46 h => ?_)
    refine lv_if_ne (tgt := 59) hx hb dX9_stretches_49 (by decide) (fun hc => ?_) (fun hc => ?_)
    · have h := h.2 hc
      refine lv_iload_n hx hb dX9_stretches_59 rfl (lv_at hl 5 rfl) ?_
      refine lv_iconst (v := 4) hx hb dX9_stretches_60 (by decide) ?_
      refine lv_irem hx hb dX9_stretches_61 (by decide) ?_
      refine lv_if_eq (tgt := 72) hx hb dX9_stretches_62 (by decide) (fun hc => ?_) (fun hc => ?_)
      · have h := h.1 hc
        refine lv_iconst (v := 0) hx hb dX9_stretches_72 (by decide) ?_
        refine lv_istore (lv' := [(6, .int 0), (5, .int r9), (4, .ref (sa j2)), (0, .ref a_o), (1, .int x1), (2, .int x2), (3, .int x3)]) hx hb dX9_stretches_73 hl (by decide) rfl (fun ls hl => ?_)
        obtain ⟨n, h⟩ := h
        refine w_X9_stretches_75 S hE hT hA hr hlocks hj2 n _ _ _ _ _ _ _ _ _ h hP hD hS (lv_sub hl [3, 5, 6, 2, 0] rfl)
      have h := h.2 hc
      refine lv_aload_n hx hb dX9_stretches_65 rfl (lv_at hl 2 rfl) ?_
      refine lv_bipush (v := (-6)) hx hb dX9_stretches_66 (by decide) ?_
      refine rw_i (rwV S hE hT hS hP hD hA (c_X9_refuse h) [0, 1] rfl (by decide +kernel) lkX9_59 rfl ⟨(Nat.le_of_ble_eq_true rfl), (Nat.le_of_ble_eq_true rfl)⟩ 0 rfl rfl hl.1 rfl (Nat.le_of_ble_eq_true rfl) dX9_stretches_68 ⟨(Nat.zero_le _), (Nat.zero_le _)⟩) hP hD hS hA [0, 1] rfl (by decide +kernel) (fun _ => rfl) (fun r68 w68_0 H locs h hP hD hS => ?_)
      try dsimp only at h
      have hP : va_P D vwCl (wX9_stretches cI cJ cS a_o a_refused a_road a_road_stretches a_road_stretches_kinds a_road_stretches_others a_road_stretches_spaces a_road_stretches_times a_shelves z_kept z_ahead z_cutting z_acting z_road_cars z_road_tunes z_road_demands sa ea v_imaged v_lastFault w68_0 v_road_drawSeed v_road_stretches_stretchCount f_road_stretches_kinds f_road_stretches_others f_road_stretches_spaces f_road_stretches_times f_sh_held f_sh_sort f_sh_cnt f_sh_num g_sh_el) H := hP
      have hD : va_D A (wX9_stretches cI cJ cS a_o a_refused a_road a_road_stretches a_road_stretches_kinds a_road_stretches_others a_road_stretches_spaces a_road_stretches_times a_shelves z_kept z_ahead z_cutting z_acting z_road_cars z_road_tunes z_road_demands sa ea v_imaged v_lastFault w68_0 v_road_drawSeed v_road_stretches_stretchCount f_road_stretches_kinds f_road_stretches_others f_road_stretches_spaces f_road_stretches_times f_sh_held f_sh_sort f_sh_cnt f_sh_num g_sh_el) := hD
      exact W.iret hx hb hr (fun t ht _ => ⟨⟨_, (w68_0, v_road_stretches_stretchCount, f_road_stretches_kinds, f_road_stretches_others, f_road_stretches_spaces, f_road_stretches_times), rfl, h, hPt hP ht⟩, hS.F ht⟩) hS.2.2 dX9_stretches_71
    have h := h.1 hc
    refine lv_aload_n hx hb dX9_stretches_52 rfl (lv_at hl 2 rfl) ?_
    refine lv_bipush (v := (-5)) hx hb dX9_stretches_53 (by decide) ?_
    refine rw_i (rwV S hE hT hS hP hD hA (c_X9_refuse h) [0, 1] rfl (by decide +kernel) lkX9_59 rfl ⟨(Nat.le_of_ble_eq_true rfl), (Nat.le_of_ble_eq_true rfl)⟩ 0 rfl rfl hl.1 rfl (Nat.le_of_ble_eq_true rfl) dX9_stretches_55 ⟨(Nat.zero_le _), (Nat.zero_le _)⟩) hP hD hS hA [0, 1] rfl (by decide +kernel) (fun _ => rfl) (fun r55 w55_0 H locs h hP hD hS => ?_)
    try dsimp only at h
    have hP : va_P D vwCl (wX9_stretches cI cJ cS a_o a_refused a_road a_road_stretches a_road_stretches_kinds a_road_stretches_others a_road_stretches_spaces a_road_stretches_times a_shelves z_kept z_ahead z_cutting z_acting z_road_cars z_road_tunes z_road_demands sa ea v_imaged v_lastFault w55_0 v_road_drawSeed v_road_stretches_stretchCount f_road_stretches_kinds f_road_stretches_others f_road_stretches_spaces f_road_stretches_times f_sh_held f_sh_sort f_sh_cnt f_sh_num g_sh_el) H := hP
    have hD : va_D A (wX9_stretches cI cJ cS a_o a_refused a_road a_road_stretches a_road_stretches_kinds a_road_stretches_others a_road_stretches_spaces a_road_stretches_times a_shelves z_kept z_ahead z_cutting z_acting z_road_cars z_road_tunes z_road_demands sa ea v_imaged v_lastFault w55_0 v_road_drawSeed v_road_stretches_stretchCount f_road_stretches_kinds f_road_stretches_others f_road_stretches_spaces f_road_stretches_times f_sh_held f_sh_sort f_sh_cnt f_sh_num g_sh_el) := hD
    exact W.iret hx hb hr (fun t ht _ => ⟨⟨_, (w55_0, v_road_stretches_stretchCount, f_road_stretches_kinds, f_road_stretches_others, f_road_stretches_spaces, f_road_stretches_times), rfl, h, hPt hP ht⟩, hS.F ht⟩) hS.2.2 dX9_stretches_58
  have h := h.2 hc
  refine lv_aload_n hx hb dX9_stretches_35 rfl (lv_at hl 2 rfl) ?_
  refine lv_bipush (v := (-4)) hx hb dX9_stretches_36 (by decide) ?_
  refine rw_i (rwV S hE hT hS hP hD hA (c_X9_refuse h) [0, 1] rfl (by decide +kernel) lkX9_59 rfl ⟨(Nat.le_of_ble_eq_true rfl), (Nat.le_of_ble_eq_true rfl)⟩ 0 rfl rfl hl.1 rfl (Nat.le_of_ble_eq_true rfl) dX9_stretches_38 ⟨(Nat.zero_le _), (Nat.zero_le _)⟩) hP hD hS hA [0, 1] rfl (by decide +kernel) (fun _ => rfl) (fun r38 w38_0 H locs h hP hD hS => ?_)
  try dsimp only at h
  have hP : va_P D vwCl (wX9_stretches cI cJ cS a_o a_refused a_road a_road_stretches a_road_stretches_kinds a_road_stretches_others a_road_stretches_spaces a_road_stretches_times a_shelves z_kept z_ahead z_cutting z_acting z_road_cars z_road_tunes z_road_demands sa ea v_imaged v_lastFault w38_0 v_road_drawSeed v_road_stretches_stretchCount f_road_stretches_kinds f_road_stretches_others f_road_stretches_spaces f_road_stretches_times f_sh_held f_sh_sort f_sh_cnt f_sh_num g_sh_el) H := hP
  have hD : va_D A (wX9_stretches cI cJ cS a_o a_refused a_road a_road_stretches a_road_stretches_kinds a_road_stretches_others a_road_stretches_spaces a_road_stretches_times a_shelves z_kept z_ahead z_cutting z_acting z_road_cars z_road_tunes z_road_demands sa ea v_imaged v_lastFault w38_0 v_road_drawSeed v_road_stretches_stretchCount f_road_stretches_kinds f_road_stretches_others f_road_stretches_spaces f_road_stretches_times f_sh_held f_sh_sort f_sh_cnt f_sh_num g_sh_el) := hD
  exact W.iret hx hb hr (fun t ht _ => ⟨⟨_, (w38_0, v_road_stretches_stretchCount, f_road_stretches_kinds, f_road_stretches_others, f_road_stretches_spaces, f_road_stretches_times), rfl, h, hPt hP ht⟩, hS.F ht⟩) hS.2.2 dX9_stretches_41
/-! X9_clearShelvesOfGoneStretches -/
abbrev wX9_clearShelvesOfGoneStretches (cI cJ cS : ClassId) (a_o a_road a_road_stretches a_shelves : Nat) (z_kept z_ahead z_cutting z_acting z_refused z_road_cars z_road_tunes z_road_demands z_road_stretches_kinds z_road_stretches_spaces z_road_stretches_others z_road_stretches_times : Value) (sa ea : Nat → Nat) (v_imaged : Int32) (v_lastFault : Int32) (v_road_drawSeed : Int32) (v_road_stretches_stretchCount : Int32) (f_sh_held : Nat → Int32) (f_sh_sort : Nat → Int32) (f_sh_cnt : Nat → Int32) (f_sh_num : Nat → Int32) (g_sh_el : Nat → Nat → Int64) : va_W := [(a_o, .inr (8, [.ref a_road, z_kept, z_ahead, .ref a_shelves, z_cutting, z_acting, z_refused, .int v_imaged, .int v_lastFault])), (a_road, .inr (4, [.ref a_road_stretches, z_road_cars, z_road_tunes, z_road_demands, .int v_road_drawSeed])), (a_road_stretches, .inr (6, [z_road_stretches_kinds, z_road_stretches_spaces, z_road_stretches_others, z_road_stretches_times, .int v_road_stretches_stretchCount])), (a_shelves, .inl (cS, 8, .inr (.inr (.inr (.inr (fun k => some (sa k)))))))] ++ shW sa ea cJ f_sh_held f_sh_sort f_sh_cnt f_sh_num g_sh_el
def F_X9_clearShelvesOfGoneStretches_46 (k2 : Int32 → (Nat → Int32) → (Nat → Int32) → Prop) (x1 : Int32) (f_sh_held : Nat → Int32) (f_sh_cnt : Nat → Int32) : Prop := (∀ x1_46 : Int32, x1_46 = x1 + 1 → k2 x1_46 f_sh_held f_sh_cnt)
def L_X9_clearShelvesOfGoneStretches_2 (v_road_stretches_stretchCount : Int32) (f_sh_num : Nat → Int32) (post : (Nat → Int32) → (Nat → Int32) → Prop) : Nat → Int32 → (Nat → Int32) → (Nat → Int32) → Prop
  | 0, _, _, _ => False
  | n2 + 1, x1, f_sh_held, f_sh_cnt => ((8 ≤ x1 → post f_sh_held f_sh_cnt) ∧ (¬ 8 ≤ x1 → (F_X9_shelfAt x1 (F_X9_clearShelvesOfGoneStretches_46 (fun x1 f_sh_held f_sh_cnt => L_X9_clearShelvesOfGoneStretches_2 v_road_stretches_stretchCount f_sh_num post n2 x1 f_sh_held f_sh_cnt) x1 f_sh_held f_sh_cnt) (fun j10 => (F_X6_holdsStretch (f_sh_held j10) (fun r19 => ((r19 = 0 → F_X9_clearShelvesOfGoneStretches_46 (fun x1 f_sh_held f_sh_cnt => L_X9_clearShelvesOfGoneStretches_2 v_road_stretches_stretchCount f_sh_num post n2 x1 f_sh_held f_sh_cnt) x1 f_sh_held f_sh_cnt) ∧ (¬ r19 = 0 → (F_X6_stretchHeld (f_sh_held j10) (f_sh_num j10) (fun r33 => (F_X7_has v_road_stretches_stretchCount r33 (fun r36 => ((r36 = 0 → (F_X6_holdNothing (f_sh_held j10) (f_sh_cnt j10) (fun w43_0 w43_1 => F_X9_clearShelvesOfGoneStretches_46 (fun x1 f_sh_held f_sh_cnt => L_X9_clearShelvesOfGoneStretches_2 v_road_stretches_stretchCount f_sh_num post n2 x1 f_sh_held f_sh_cnt) x1 (va_up f_sh_held j10 w43_0) (va_up f_sh_cnt j10 w43_1)))) ∧ (¬ r36 = 0 → F_X9_clearShelvesOfGoneStretches_46 (fun x1 f_sh_held f_sh_cnt => L_X9_clearShelvesOfGoneStretches_2 v_road_stretches_stretchCount f_sh_num post n2 x1 f_sh_held f_sh_cnt) x1 f_sh_held f_sh_cnt))))))))))))))
def F_X9_clearShelvesOfGoneStretches (v_road_stretches_stretchCount : Int32) (f_sh_held : Nat → Int32) (f_sh_cnt : Nat → Int32) (f_sh_num : Nat → Int32) (post : (Nat → Int32) → (Nat → Int32) → Prop) : Prop := (∃ n2 : Nat, L_X9_clearShelvesOfGoneStretches_2 v_road_stretches_stretchCount f_sh_num post n2 0 f_sh_held f_sh_cnt)
set_option maxHeartbeats 4000000 in
set_option maxRecDepth 100000 in
theorem w_X9_clearShelvesOfGoneStretches_46 {l : Launch} {D : va_G} {cI cJ cS : ClassId} {ad adK : Nat → Nat} {a_o a_road a_road_stretches a_shelves : Nat} {z_kept z_ahead z_cutting z_acting z_refused z_road_cars z_road_tunes z_road_demands z_road_stretches_kinds z_road_stretches_spaces z_road_stretches_others z_road_stretches_times : Value} {sa ea : Nat → Nat} {v_imaged : Int32} {v_lastFault : Int32} {v_road_drawSeed : Int32} {v_road_stretches_stretchCount : Int32} {f_sh_held : Nat → Int32} {f_sh_sort : Nat → Int32} {f_sh_cnt : Nat → Int32} {f_sh_num : Nat → Int32} {g_sh_el : Nat → Nat → Int64} {x1 : Int32} {post : (Nat → Int32) → (Nat → Int32) → Prop} {k2 : Int32 → (Nat → Int32) → (Nat → Int32) → Prop} {p : Program} {e : Env} {s : State} {m : MethodId} {args : Array Value} {below : List Frame} {meth : Method} {c : Code} {A : Nat → Prop} (S : CallFix p m c cX9_clearShelvesOfGoneStretches 3 s args GW "RoadThatSings") (hE : EN D cI cJ cS s) (hT : ST ad adK A s s.heap) (hA : ∀ q : Nat, s.heap.size ≤ q → A q) (hr : meth.sig.returnType = none) (hlocks : meth.locks = false) (hk2 : ∀ (x1 : Int32) (f_sh_held : Nat → Int32) (f_sh_cnt : Nat → Int32) (H : Heap) (locs : List Loc) (ls : Array Slot), k2 x1 f_sh_held f_sh_cnt → va_P D vwCl (wX9_clearShelvesOfGoneStretches cI cJ cS a_o a_road a_road_stretches a_shelves z_kept z_ahead z_cutting z_acting z_refused z_road_cars z_road_tunes z_road_demands z_road_stretches_kinds z_road_stretches_spaces z_road_stretches_others z_road_stretches_times sa ea v_imaged v_lastFault v_road_drawSeed v_road_stretches_stretchCount f_sh_held f_sh_sort f_sh_cnt f_sh_num g_sh_el) H → va_D A (wX9_clearShelvesOfGoneStretches cI cJ cS a_o a_road a_road_stretches a_shelves z_kept z_ahead z_cutting z_acting z_refused z_road_cars z_road_tunes z_road_demands z_road_stretches_kinds z_road_stretches_spaces z_road_stretches_others z_road_stretches_times sa ea v_imaged v_lastFault v_road_drawSeed v_road_stretches_stretchCount f_sh_held f_sh_sort f_sh_cnt f_sh_num g_sh_el) → va_S A s.heap H locs → lv_has ls 3 [(0, .ref a_o), (1, .int x1)] → W p l e (rmd 2 0 0) s m args below meth c H locs 0 0 (MQ below (va_Qv (fun u : (Nat → Int32) × (Nat → Int32) => post u.1 u.2) (fun u t => va_P D vwCl (wX9_clearShelvesOfGoneStretches cI cJ cS a_o a_road a_road_stretches a_shelves z_kept z_ahead z_cutting z_acting z_refused z_road_cars z_road_tunes z_road_demands z_road_stretches_kinds z_road_stretches_spaces z_road_stretches_others z_road_stretches_times sa ea v_imaged v_lastFault v_road_drawSeed v_road_stretches_stretchCount u.1 f_sh_sort u.2 f_sh_num g_sh_el) t.heap) A) args s 0 0 A) (F0 m 2 ls [])) : ∀ (H : Heap) (locs : List Loc) (ls : Array Slot), F_X9_clearShelvesOfGoneStretches_46 k2 x1 f_sh_held f_sh_cnt → va_P D vwCl (wX9_clearShelvesOfGoneStretches cI cJ cS a_o a_road a_road_stretches a_shelves z_kept z_ahead z_cutting z_acting z_refused z_road_cars z_road_tunes z_road_demands z_road_stretches_kinds z_road_stretches_spaces z_road_stretches_others z_road_stretches_times sa ea v_imaged v_lastFault v_road_drawSeed v_road_stretches_stretchCount f_sh_held f_sh_sort f_sh_cnt f_sh_num g_sh_el) H → va_D A (wX9_clearShelvesOfGoneStretches cI cJ cS a_o a_road a_road_stretches a_shelves z_kept z_ahead z_cutting z_acting z_refused z_road_cars z_road_tunes z_road_demands z_road_stretches_kinds z_road_stretches_spaces z_road_stretches_others z_road_stretches_times sa ea v_imaged v_lastFault v_road_drawSeed v_road_stretches_stretchCount f_sh_held f_sh_sort f_sh_cnt f_sh_num g_sh_el) → va_S A s.heap H locs → lv_has ls 3 [(0, .ref a_o), (1, .int x1)] → W p l e (rmd 2 0 0) s m args below meth c H locs 0 0 (MQ below (va_Qv (fun u : (Nat → Int32) × (Nat → Int32) => post u.1 u.2) (fun u t => va_P D vwCl (wX9_clearShelvesOfGoneStretches cI cJ cS a_o a_road a_road_stretches a_shelves z_kept z_ahead z_cutting z_acting z_refused z_road_cars z_road_tunes z_road_demands z_road_stretches_kinds z_road_stretches_spaces z_road_stretches_others z_road_stretches_times sa ea v_imaged v_lastFault v_road_drawSeed v_road_stretches_stretchCount u.1 f_sh_sort u.2 f_sh_num g_sh_el) t.heap) A) args s 0 0 A) (F0 m 46 ls []) := by
  intro  H locs ls h hP hD hS hl
  unfold F_X9_clearShelvesOfGoneStretches_46 at h
  have hx := S.1
  have hb := S.2.1
  obtain ⟨x1_46, ex1_46⟩ : ∃ z : Int32, z = x1 + 1 := ⟨_, rfl⟩
  have h := h _ ex1_46
  refine lv_iinc (v := x1_46) (lv' := [(1, .int x1_46), (0, .ref a_o)]) hx hb dX9_clearShelvesOfGoneStretches_46 hl (k := 1) rfl (by rw [ex1_46]; rfl) (by decide) rfl (fun ls hl => ?_)
  refine lv_goto (tgt := 2) hx hb dX9_clearShelvesOfGoneStretches_49 (by decide) ?_
  exact hk2 _ _ _ _ _ _ h hP hD hS (lv_sub hl [1, 0] rfl)
set_option maxHeartbeats 4000000 in
set_option maxRecDepth 100000 in
theorem w_X9_clearShelvesOfGoneStretches_2 {l : Launch} {D : va_G} {cI cJ cS : ClassId} {ad adK : Nat → Nat} {a_o a_road a_road_stretches a_shelves : Nat} {z_kept z_ahead z_cutting z_acting z_refused z_road_cars z_road_tunes z_road_demands z_road_stretches_kinds z_road_stretches_spaces z_road_stretches_others z_road_stretches_times : Value} {sa ea : Nat → Nat} {v_imaged : Int32} {v_lastFault : Int32} {v_road_drawSeed : Int32} {v_road_stretches_stretchCount : Int32} {f_sh_sort : Nat → Int32} {f_sh_num : Nat → Int32} {g_sh_el : Nat → Nat → Int64} {post : (Nat → Int32) → (Nat → Int32) → Prop} {p : Program} {e : Env} {s : State} {m : MethodId} {args : Array Value} {below : List Frame} {meth : Method} {c : Code} {A : Nat → Prop} (S : CallFix p m c cX9_clearShelvesOfGoneStretches 3 s args GW "RoadThatSings") (hE : EN D cI cJ cS s) (hT : ST ad adK A s s.heap) (hA : ∀ q : Nat, s.heap.size ≤ q → A q) (hr : meth.sig.returnType = none) (hlocks : meth.locks = false) : ∀ n : Nat, ∀ (x1 : Int32) (f_sh_held : Nat → Int32) (f_sh_cnt : Nat → Int32) (H : Heap) (locs : List Loc) (ls : Array Slot), L_X9_clearShelvesOfGoneStretches_2 v_road_stretches_stretchCount f_sh_num post n x1 f_sh_held f_sh_cnt → va_P D vwCl (wX9_clearShelvesOfGoneStretches cI cJ cS a_o a_road a_road_stretches a_shelves z_kept z_ahead z_cutting z_acting z_refused z_road_cars z_road_tunes z_road_demands z_road_stretches_kinds z_road_stretches_spaces z_road_stretches_others z_road_stretches_times sa ea v_imaged v_lastFault v_road_drawSeed v_road_stretches_stretchCount f_sh_held f_sh_sort f_sh_cnt f_sh_num g_sh_el) H → va_D A (wX9_clearShelvesOfGoneStretches cI cJ cS a_o a_road a_road_stretches a_shelves z_kept z_ahead z_cutting z_acting z_refused z_road_cars z_road_tunes z_road_demands z_road_stretches_kinds z_road_stretches_spaces z_road_stretches_others z_road_stretches_times sa ea v_imaged v_lastFault v_road_drawSeed v_road_stretches_stretchCount f_sh_held f_sh_sort f_sh_cnt f_sh_num g_sh_el) → va_S A s.heap H locs → lv_has ls 3 [(0, .ref a_o), (1, .int x1)] → W p l e (rmd 2 0 0) s m args below meth c H locs 0 0 (MQ below (va_Qv (fun u : (Nat → Int32) × (Nat → Int32) => post u.1 u.2) (fun u t => va_P D vwCl (wX9_clearShelvesOfGoneStretches cI cJ cS a_o a_road a_road_stretches a_shelves z_kept z_ahead z_cutting z_acting z_refused z_road_cars z_road_tunes z_road_demands z_road_stretches_kinds z_road_stretches_spaces z_road_stretches_others z_road_stretches_times sa ea v_imaged v_lastFault v_road_drawSeed v_road_stretches_stretchCount u.1 f_sh_sort u.2 f_sh_num g_sh_el) t.heap) A) args s 0 0 A) (F0 m 2 ls []) := by
  intro n
  induction n with
  | zero =>
    intro x1 f_sh_held f_sh_cnt H locs ls h hP hD hS hl
    exact h.elim
  | succ n ih =>
    intro x1 f_sh_held f_sh_cnt H locs ls h hP hD hS hl
    rw [L_X9_clearShelvesOfGoneStretches_2] at h
    have hx := S.1
    have hb := S.2.1
    refine lv_iload_n hx hb dX9_clearShelvesOfGoneStretches_2 rfl (lv_at hl 1 rfl) ?_
    refine lv_bipush (v := 8) hx hb dX9_clearShelvesOfGoneStretches_3 (by decide) ?_
    refine lv_icmp_ge (tgt := 52) hx hb dX9_clearShelvesOfGoneStretches_5 (by decide) (fun hc => ?_) (fun hc => ?_)
    · have h := h.1 hc
      exact W.vret hx hb hr (fun t ht _ => ⟨⟨(f_sh_held, f_sh_cnt), rfl, h, hPt hP ht⟩, hS.F ht⟩) hS.2.2 dX9_clearShelvesOfGoneStretches_52
    have h := h.2 hc
    refine lv_aload_n hx hb dX9_clearShelvesOfGoneStretches_8 rfl (lv_at hl 0 rfl) ?_
    refine lv_iload_n hx hb dX9_clearShelvesOfGoneStretches_9 rfl (lv_at hl 1 rfl) ?_
    refine ro_s (roV S hE hT hS (c_X9_shelfAt h) lkX9_55 rfl ⟨(Nat.le_of_ble_eq_true rfl), (Nat.le_of_ble_eq_true rfl)⟩ (hP.sub [0, 3] rfl) 0 rfl rfl hl.1 rfl (Nat.le_of_ble_eq_true rfl) dX9_clearShelvesOfGoneStretches_10 ⟨(Nat.zero_le _), (Nat.zero_le _)⟩) (fun h => ?_) (fun j10 hj10 h => ?_)
    · refine lv_astore_nN (lv' := [(2, .null), (0, .ref a_o), (1, .int x1)]) hx hb dX9_clearShelvesOfGoneStretches_13 rfl hl (by decide) rfl (fun ls hl => ?_)
      refine lv_aload_nN hx hb dX9_clearShelvesOfGoneStretches_14 rfl (lv_at hl 0 rfl) ?_
      refine lv_ifnullN (tgt := 46) hx hb dX9_clearShelvesOfGoneStretches_15 (by decide) ?_
      refine w_X9_clearShelvesOfGoneStretches_46 S hE hT hA hr hlocks ih _ _ _ h hP hD hS (lv_sub hl [1, 2] rfl)
    refine lv_astore_n (lv' := [(2, .ref (sa j10)), (0, .ref a_o), (1, .int x1)]) hx hb dX9_clearShelvesOfGoneStretches_13 rfl hl (by decide) rfl (fun ls hl => ?_)
    refine lv_aload_n hx hb dX9_clearShelvesOfGoneStretches_14 rfl (lv_at hl 0 rfl) ?_
    refine lv_ifnull hx hb dX9_clearShelvesOfGoneStretches_15 ?_
    refine lv_aload_n hx hb dX9_clearShelvesOfGoneStretches_18 rfl (lv_at hl 0 rfl) ?_
    refine ro_i (roV S hE hT hS (c_X6_holdsStretch h) lkX9_83 rfl ⟨(Nat.le_of_ble_eq_true rfl), (Nat.le_of_ble_eq_true rfl)⟩ (vPc hP (shS rfl hj10) vPn) 0 rfl rfl hl.1 rfl (Nat.le_of_ble_eq_true rfl) dX9_clearShelvesOfGoneStretches_19 ⟨(Nat.zero_le _), (Nat.zero_le _)⟩) (fun r19 h => ?_)
    refine lv_if_eq (tgt := 46) hx hb dX9_clearShelvesOfGoneStretches_22 (by decide) (fun hc => ?_) (fun hc => ?_)
    · have h := h.1 hc
      refine w_X9_clearShelvesOfGoneStretches_46 S hE hT hA hr hlocks ih _ _ _ h hP hD hS (lv_sub hl [1, 2] rfl)
    have h := h.2 hc
    refine lv_aload_n hx hb dX9_clearShelvesOfGoneStretches_25 rfl (lv_at hl 1 rfl) ?_
    refine gf S hE hP 0 rfl rfl inX9 (k := 0) (by decide) q181 rfl dX9_clearShelvesOfGoneStretches_26 ?_
    refine gfN S hE hP 1 rfl rfl inX5 (k := 0) (by decide) nfX9_106 rfl dX9_clearShelvesOfGoneStretches_29 ?_
    refine lv_aload_n hx hb dX9_clearShelvesOfGoneStretches_32 rfl (lv_at hl 0 rfl) ?_
    refine ro_i (roV S hE hT hS (c_X6_stretchHeld h) lkX9_126 rfl ⟨(Nat.le_of_ble_eq_true rfl), (Nat.le_of_ble_eq_true rfl)⟩ (vPc hP (shS rfl hj10) vPn) 0 rfl rfl hl.1 rfl (Nat.le_of_ble_eq_true rfl) dX9_clearShelvesOfGoneStretches_33 ⟨(Nat.zero_le _), (Nat.zero_le _)⟩) (fun r33 h => ?_)
    refine ro_i (roV S hE hT hS (c_X7_has h) lkX9_110 rfl ⟨(Nat.le_of_ble_eq_true rfl), (Nat.le_of_ble_eq_true rfl)⟩ (hP.sub [2] rfl) 0 rfl rfl hl.1 rfl (Nat.le_of_ble_eq_true rfl) dX9_clearShelvesOfGoneStretches_36 ⟨(Nat.zero_le _), (Nat.zero_le _)⟩) (fun r36 h => ?_)
    refine lv_if_ne (tgt := 46) hx hb dX9_clearShelvesOfGoneStretches_39 (by decide) (fun hc => ?_) (fun hc => ?_)
    · have h := h.2 hc
      refine w_X9_clearShelvesOfGoneStretches_46 S hE hT hA hr hlocks ih _ _ _ h hP hD hS (lv_sub hl [1, 2] rfl)
    have h := h.1 hc
    refine lv_aload_n hx hb dX9_clearShelvesOfGoneStretches_42 rfl (lv_at hl 0 rfl) ?_
    refine rw_v (rwV S hE hT hS hP hD hA (c_X6_holdNothing h) [(4 + 2 * j10)] (mCc (shS rfl hj10) mCn) (by simp [va_nd]; try omega) lkX9_115 rfl ⟨(Nat.le_of_ble_eq_true rfl), (Nat.le_of_ble_eq_true rfl)⟩ _ (shS rfl hj10) rfl hl.1 rfl (Nat.le_of_ble_eq_true rfl) dX9_clearShelvesOfGoneStretches_43 ⟨(Nat.zero_le _), (Nat.zero_le _)⟩) hP hD hS hA [(4 + 2 * j10)] (mCc (shS rfl hj10) mCn) (by simp [va_nd]; try omega) (fun _ => rfl) (fun u43 H locs h hP hD hS => ?_)
    obtain ⟨w43_0, w43_1⟩ := u43
    try dsimp only at h
    have hP : va_P D vwCl (wX9_clearShelvesOfGoneStretches cI cJ cS a_o a_road a_road_stretches a_shelves z_kept z_ahead z_cutting z_acting z_refused z_road_cars z_road_tunes z_road_demands z_road_stretches_kinds z_road_stretches_spaces z_road_stretches_others z_road_stretches_times sa ea v_imaged v_lastFault v_road_drawSeed v_road_stretches_stretchCount (va_up f_sh_held j10 w43_0) f_sh_sort (va_up f_sh_cnt j10 w43_1) f_sh_num g_sh_el) H := by (rcases lt8 hj10 with rfl | rfl | rfl | rfl | rfl | rfl | rfl | rfl) <;> exact hP
    have hD : va_D A (wX9_clearShelvesOfGoneStretches cI cJ cS a_o a_road a_road_stretches a_shelves z_kept z_ahead z_cutting z_acting z_refused z_road_cars z_road_tunes z_road_demands z_road_stretches_kinds z_road_stretches_spaces z_road_stretches_others z_road_stretches_times sa ea v_imaged v_lastFault v_road_drawSeed v_road_stretches_stretchCount (va_up f_sh_held j10 w43_0) f_sh_sort (va_up f_sh_cnt j10 w43_1) f_sh_num g_sh_el) := by (rcases lt8 hj10 with rfl | rfl | rfl | rfl | rfl | rfl | rfl | rfl) <;> exact hD
    refine w_X9_clearShelvesOfGoneStretches_46 S hE hT hA hr hlocks ih _ _ _ h hP hD hS (lv_sub hl [1, 2] rfl)
set_option maxHeartbeats 4000000 in
set_option maxRecDepth 100000 in
theorem c_X9_clearShelvesOfGoneStretches {l : Launch} {D : va_G} {cI cJ cS : ClassId} {ad adK : Nat → Nat} {a_o a_road a_road_stretches a_shelves : Nat} {z_kept z_ahead z_cutting z_acting z_refused z_road_cars z_road_tunes z_road_demands z_road_stretches_kinds z_road_stretches_spaces z_road_stretches_others z_road_stretches_times : Value} {sa ea : Nat → Nat} {v_imaged : Int32} {v_lastFault : Int32} {v_road_drawSeed : Int32} {v_road_stretches_stretchCount : Int32} {f_sh_held : Nat → Int32} {f_sh_sort : Nat → Int32} {f_sh_cnt : Nat → Int32} {f_sh_num : Nat → Int32} {g_sh_el : Nat → Nat → Int64} {post : (Nat → Int32) → (Nat → Int32) → Prop} (h : F_X9_clearShelvesOfGoneStretches v_road_stretches_stretchCount f_sh_held f_sh_cnt f_sh_num post) {sz : Nat} : Met l yX9_clearShelvesOfGoneStretches (Cond.code yX9_clearShelvesOfGoneStretches cX9_clearShelvesOfGoneStretches 3 none :: GW) (rmd 2 0 0) (PW D cI cJ cS ad adK [.ref a_o] (wX9_clearShelvesOfGoneStretches cI cJ cS a_o a_road a_road_stretches a_shelves z_kept z_ahead z_cutting z_acting z_refused z_road_cars z_road_tunes z_road_demands z_road_stretches_kinds z_road_stretches_spaces z_road_stretches_others z_road_stretches_times sa ea v_imaged v_lastFault v_road_drawSeed v_road_stretches_stretchCount f_sh_held f_sh_sort f_sh_cnt f_sh_num g_sh_el) sz) (va_Qv (fun u : (Nat → Int32) × (Nat → Int32) => post u.1 u.2) (fun u t => va_P D vwCl (wX9_clearShelvesOfGoneStretches cI cJ cS a_o a_road a_road_stretches a_shelves z_kept z_ahead z_cutting z_acting z_refused z_road_cars z_road_tunes z_road_demands z_road_stretches_kinds z_road_stretches_spaces z_road_stretches_others z_road_stretches_times sa ea v_imaged v_lastFault v_road_drawSeed v_road_stretches_stretchCount u.1 f_sh_sort u.2 f_sh_num g_sh_el) t.heap) (va_A (wX9_clearShelvesOfGoneStretches cI cJ cS a_o a_road a_road_stretches a_shelves z_kept z_ahead z_cutting z_acting z_refused z_road_cars z_road_tunes z_road_demands z_road_stretches_kinds z_road_stretches_spaces z_road_stretches_others z_road_stretches_times sa ea v_imaged v_lastFault v_road_drawSeed v_road_stretches_stretchCount f_sh_held f_sh_sort f_sh_cnt f_sh_num g_sh_el) sz)) 0 0 (va_A (wX9_clearShelvesOfGoneStretches cI cJ cS a_o a_road a_road_stretches a_shelves z_kept z_ahead z_cutting z_acting z_refused z_road_cars z_road_tunes z_road_demands z_road_stretches_kinds z_road_stretches_spaces z_road_stretches_others z_road_stretches_times sa ea v_imaged v_lastFault v_road_drawSeed v_road_stretches_stretchCount f_sh_held f_sh_sort f_sh_cnt f_sh_num g_sh_el) sz) := by
  refine Met.rw (Qc := fun A => (va_Qv (fun u : (Nat → Int32) × (Nat → Int32) => post u.1 u.2) (fun u t => va_P D vwCl (wX9_clearShelvesOfGoneStretches cI cJ cS a_o a_road a_road_stretches a_shelves z_kept z_ahead z_cutting z_acting z_refused z_road_cars z_road_tunes z_road_demands z_road_stretches_kinds z_road_stretches_spaces z_road_stretches_others z_road_stretches_times sa ea v_imaged v_lastFault v_road_drawSeed v_road_stretches_stretchCount u.1 f_sh_sort u.2 f_sh_num g_sh_el) t.heap) A)) (by decide) (Nat.le_of_ble_eq_true rfl) (fun p e s m args below meth c ls A (S : CallFix p m c cX9_clearShelvesOfGoneStretches 3 s args GW "RoadThatSings") hE hT hP hD hA hS hr hlocks hname hl => ?_)
  have hS0 := hS
  have hx := S.1
  have hb := S.2.1
  have hl : lv_has ls 3 [(0, .ref a_o)] := hl
  unfold F_X9_clearShelvesOfGoneStretches at h
  refine lv_iconst (v := 0) hx hb dX9_clearShelvesOfGoneStretches_0 (by decide) ?_
  refine lv_istore_n (lv' := [(1, .int 0), (0, .ref a_o)]) hx hb dX9_clearShelvesOfGoneStretches_1 rfl hl (by decide) rfl (fun ls hl => ?_)
  obtain ⟨n, h⟩ := h
  refine w_X9_clearShelvesOfGoneStretches_2 S hE hT hA hr hlocks n _ _ _ _ _ _ h hP hD hS (lv_sub hl [1, 0] rfl)
/-! X9_till -/
abbrev wX9_till (cI cJ cS : ClassId) (a_o a_refused a_road a_road_stretches a_shelves : Nat) (z_kept z_ahead z_cutting z_acting z_road_cars z_road_tunes z_road_demands z_road_stretches_kinds z_road_stretches_spaces z_road_stretches_others z_road_stretches_times : Value) (sa ea : Nat → Nat) (v_imaged : Int32) (v_lastFault : Int32) (f_refused : Nat → Int32) (v_road_drawSeed : Int32) (v_road_stretches_stretchCount : Int32) (f_sh_held : Nat → Int32) (f_sh_sort : Nat → Int32) (f_sh_cnt : Nat → Int32) (f_sh_num : Nat → Int32) (g_sh_el : Nat → Nat → Int64) : va_W := [(a_o, .inr (8, [.ref a_road, z_kept, z_ahead, .ref a_shelves, z_cutting, z_acting, .ref a_refused, .int v_imaged, .int v_lastFault])), (a_refused, .inl (cI, 8, .inl f_refused)), (a_road, .inr (4, [.ref a_road_stretches, z_road_cars, z_road_tunes, z_road_demands, .int v_road_drawSeed])), (a_road_stretches, .inr (6, [z_road_stretches_kinds, z_road_stretches_spaces, z_road_stretches_others, z_road_stretches_times, .int v_road_stretches_stretchCount])), (a_shelves, .inl (cS, 8, .inr (.inr (.inr (.inr (fun k => some (sa k)))))))] ++ shW sa ea cJ f_sh_held f_sh_sort f_sh_cnt f_sh_num g_sh_el
def F_X9_till (f_refused : Nat → Int32) (v_road_stretches_stretchCount : Int32) (f_sh_held : Nat → Int32) (f_sh_sort : Nat → Int32) (f_sh_cnt : Nat → Int32) (f_sh_num : Nat → Int32) (g_sh_el : Nat → Nat → Int64) (x1 : Int32) (post : Int32 → (Nat → Int32) → Int32 → (Nat → Int32) → (Nat → Int32) → Prop) : Prop := (F_X7_count v_road_stretches_stretchCount (fun r9 => (F_X9_within x1 0 r9 (fun r12 => ((r12 = 0 → (F_X9_refuse f_refused (-6) (fun r21 w21_0 => post r21 w21_0 v_road_stretches_stretchCount f_sh_held f_sh_cnt))) ∧ (¬ r12 = 0 → (F_X7_leave v_road_stretches_stretchCount x1 (fun w33_0 => (F_X9_clearShelvesOfGoneStretches w33_0 f_sh_held f_sh_cnt f_sh_num (fun w37_0 w37_1 => post x1 f_refused w33_0 w37_0 w37_1))))))))))
set_option maxHeartbeats 4000000 in
set_option maxRecDepth 100000 in
theorem c_X9_till {l : Launch} {D : va_G} {cI cJ cS : ClassId} {ad adK : Nat → Nat} {a_o a_refused a_road a_road_stretches a_shelves : Nat} {z_kept z_ahead z_cutting z_acting z_road_cars z_road_tunes z_road_demands z_road_stretches_kinds z_road_stretches_spaces z_road_stretches_others z_road_stretches_times : Value} {sa ea : Nat → Nat} {v_imaged : Int32} {v_lastFault : Int32} {f_refused : Nat → Int32} {v_road_drawSeed : Int32} {v_road_stretches_stretchCount : Int32} {f_sh_held : Nat → Int32} {f_sh_sort : Nat → Int32} {f_sh_cnt : Nat → Int32} {f_sh_num : Nat → Int32} {g_sh_el : Nat → Nat → Int64} {x1 : Int32} {post : Int32 → (Nat → Int32) → Int32 → (Nat → Int32) → (Nat → Int32) → Prop} (h : F_X9_till f_refused v_road_stretches_stretchCount f_sh_held f_sh_sort f_sh_cnt f_sh_num g_sh_el x1 post) {sz : Nat} : Met l yX9_till (Cond.code yX9_till cX9_till 2 (some (.int)) :: GW) (rmd 3 0 0) (PW D cI cJ cS ad adK [.ref a_o, .int x1] (wX9_till cI cJ cS a_o a_refused a_road a_road_stretches a_shelves z_kept z_ahead z_cutting z_acting z_road_cars z_road_tunes z_road_demands z_road_stretches_kinds z_road_stretches_spaces z_road_stretches_others z_road_stretches_times sa ea v_imaged v_lastFault f_refused v_road_drawSeed v_road_stretches_stretchCount f_sh_held f_sh_sort f_sh_cnt f_sh_num g_sh_el) sz) (va_Qi (fun r (u : (Nat → Int32) × Int32 × (Nat → Int32) × (Nat → Int32)) => post r u.1 u.2.1 u.2.2.1 u.2.2.2) (fun u t => va_P D vwCl (wX9_till cI cJ cS a_o a_refused a_road a_road_stretches a_shelves z_kept z_ahead z_cutting z_acting z_road_cars z_road_tunes z_road_demands z_road_stretches_kinds z_road_stretches_spaces z_road_stretches_others z_road_stretches_times sa ea v_imaged v_lastFault u.1 v_road_drawSeed u.2.1 u.2.2.1 f_sh_sort u.2.2.2 f_sh_num g_sh_el) t.heap) (va_A (wX9_till cI cJ cS a_o a_refused a_road a_road_stretches a_shelves z_kept z_ahead z_cutting z_acting z_road_cars z_road_tunes z_road_demands z_road_stretches_kinds z_road_stretches_spaces z_road_stretches_others z_road_stretches_times sa ea v_imaged v_lastFault f_refused v_road_drawSeed v_road_stretches_stretchCount f_sh_held f_sh_sort f_sh_cnt f_sh_num g_sh_el) sz)) 0 0 (va_A (wX9_till cI cJ cS a_o a_refused a_road a_road_stretches a_shelves z_kept z_ahead z_cutting z_acting z_road_cars z_road_tunes z_road_demands z_road_stretches_kinds z_road_stretches_spaces z_road_stretches_others z_road_stretches_times sa ea v_imaged v_lastFault f_refused v_road_drawSeed v_road_stretches_stretchCount f_sh_held f_sh_sort f_sh_cnt f_sh_num g_sh_el) sz) := by
  refine Met.rw (Qc := fun A => (va_Qi (fun r (u : (Nat → Int32) × Int32 × (Nat → Int32) × (Nat → Int32)) => post r u.1 u.2.1 u.2.2.1 u.2.2.2) (fun u t => va_P D vwCl (wX9_till cI cJ cS a_o a_refused a_road a_road_stretches a_shelves z_kept z_ahead z_cutting z_acting z_road_cars z_road_tunes z_road_demands z_road_stretches_kinds z_road_stretches_spaces z_road_stretches_others z_road_stretches_times sa ea v_imaged v_lastFault u.1 v_road_drawSeed u.2.1 u.2.2.1 f_sh_sort u.2.2.2 f_sh_num g_sh_el) t.heap) A)) (by decide) (Nat.le_of_ble_eq_true rfl) (fun p e s m args below meth c ls A (S : CallFix p m c cX9_till 2 s args GW "RoadThatSings") hE hT hP hD hA hS hr hlocks hname hl => ?_)
  have hS0 := hS
  have hx := S.1
  have hb := S.2.1
  have hl : lv_has ls 2 [(0, .ref a_o), (1, .int x1)] := hl
  unfold F_X9_till at h
  refine lv_iload_n hx hb dX9_till_0 rfl (lv_at hl 1 rfl) ?_
  refine lv_iconst (v := 0) hx hb dX9_till_1 (by decide) ?_
  refine lv_aload_n hx hb dX9_till_2 rfl (lv_at hl 0 rfl) ?_
  refine gf S hE hP 0 rfl rfl inX9 (k := 0) (by decide) q181 rfl dX9_till_3 ?_
  refine gfN S hE hP 2 rfl rfl inX5 (k := 0) (by decide) nfX9_106 rfl dX9_till_6 ?_
  refine ro_i (roV S hE hT hS (c_X7_count h) lkX9_156 rfl ⟨(Nat.le_of_ble_eq_true rfl), (Nat.le_of_ble_eq_true rfl)⟩ (hP.sub [3] rfl) 0 rfl rfl hl.1 rfl (Nat.le_of_ble_eq_true rfl) dX9_till_9 ⟨(Nat.zero_le _), (Nat.zero_le _)⟩) (fun r9 h => ?_)
  refine ro_i (roS S hE hT hS (c_X9_within h) lkX9_63 rfl ⟨(Nat.le_of_ble_eq_true rfl), (Nat.le_of_ble_eq_true rfl)⟩ (hP.sub [] rfl) hl.1 rfl (Nat.le_of_ble_eq_true rfl) dX9_till_12 ⟨(Nat.zero_le _), (Nat.zero_le _)⟩) (fun r12 h => ?_)
  refine lv_if_ne (tgt := 25) hx hb dX9_till_15 (by decide) (fun hc => ?_) (fun hc => ?_)
  · have h := h.2 hc
    refine lv_aload_n hx hb dX9_till_25 rfl (lv_at hl 0 rfl) ?_
    refine gf S hE hP 0 rfl rfl inX9 (k := 0) (by decide) q181 rfl dX9_till_26 ?_
    refine gfN S hE hP 2 rfl rfl inX5 (k := 0) (by decide) nfX9_106 rfl dX9_till_29 ?_
    refine lv_iload_n hx hb dX9_till_32 rfl (lv_at hl 1 rfl) ?_
    refine rw_v (rwV S hE hT hS hP hD hA (c_X7_leave h) [3] rfl (by decide +kernel) lkX9_159 rfl ⟨(Nat.le_of_ble_eq_true rfl), (Nat.le_of_ble_eq_true rfl)⟩ 3 rfl rfl hl.1 rfl (Nat.le_of_ble_eq_true rfl) dX9_till_33 ⟨(Nat.zero_le _), (Nat.zero_le _)⟩) hP hD hS hA [3] rfl (by decide +kernel) (fun _ => rfl) (fun w33_0 H locs h hP hD hS => ?_)
    try dsimp only at h
    have hP : va_P D vwCl (wX9_till cI cJ cS a_o a_refused a_road a_road_stretches a_shelves z_kept z_ahead z_cutting z_acting z_road_cars z_road_tunes z_road_demands z_road_stretches_kinds z_road_stretches_spaces z_road_stretches_others z_road_stretches_times sa ea v_imaged v_lastFault f_refused v_road_drawSeed w33_0 f_sh_held f_sh_sort f_sh_cnt f_sh_num g_sh_el) H := hP
    have hD : va_D A (wX9_till cI cJ cS a_o a_refused a_road a_road_stretches a_shelves z_kept z_ahead z_cutting z_acting z_road_cars z_road_tunes z_road_demands z_road_stretches_kinds z_road_stretches_spaces z_road_stretches_others z_road_stretches_times sa ea v_imaged v_lastFault f_refused v_road_drawSeed w33_0 f_sh_held f_sh_sort f_sh_cnt f_sh_num g_sh_el) := hD
    refine lv_aload_n hx hb dX9_till_36 rfl (lv_at hl 0 rfl) ?_
    refine rw_v (rwV S hE hT hS hP hD hA (c_X9_clearShelvesOfGoneStretches (sa := sa) (ea := ea) (f_sh_held := f_sh_held) (f_sh_sort := f_sh_sort) (f_sh_cnt := f_sh_cnt) (f_sh_num := f_sh_num) (g_sh_el := g_sh_el) h) ([0, 2, 3, 4] ++ List.range' 5 16) (mCsh rfl rfl) (by decide +kernel) lkX9_162 rfl ⟨(Nat.le_of_ble_eq_true rfl), (Nat.le_of_ble_eq_true rfl)⟩ 0 rfl rfl hl.1 rfl (Nat.le_of_ble_eq_true rfl) dX9_till_37 ⟨(Nat.zero_le _), (Nat.zero_le _)⟩) hP hD hS hA ([0, 2, 3, 4] ++ List.range' 5 16) (mCsh rfl rfl) (by decide +kernel) (fun _ => rfl) (fun u37 H locs h hP hD hS => ?_)
    obtain ⟨w37_0, w37_1⟩ := u37
    try dsimp only at h
    have hP : va_P D vwCl (wX9_till cI cJ cS a_o a_refused a_road a_road_stretches a_shelves z_kept z_ahead z_cutting z_acting z_road_cars z_road_tunes z_road_demands z_road_stretches_kinds z_road_stretches_spaces z_road_stretches_others z_road_stretches_times sa ea v_imaged v_lastFault f_refused v_road_drawSeed w33_0 w37_0 f_sh_sort w37_1 f_sh_num g_sh_el) H := shallP (k := 5) rfl (by decide) rfl rfl hP
    have hD : va_D A (wX9_till cI cJ cS a_o a_refused a_road a_road_stretches a_shelves z_kept z_ahead z_cutting z_acting z_road_cars z_road_tunes z_road_demands z_road_stretches_kinds z_road_stretches_spaces z_road_stretches_others z_road_stretches_times sa ea v_imaged v_lastFault f_refused v_road_drawSeed w33_0 w37_0 f_sh_sort w37_1 f_sh_num g_sh_el) := shallD (k := 5) rfl (by decide) rfl rfl hD
    refine lv_iload_n hx hb dX9_till_40 rfl (lv_at hl 1 rfl) ?_
    exact W.iret hx hb hr (fun t ht _ => ⟨⟨_, (f_refused, w33_0, w37_0, w37_1), rfl, h, hPt hP ht⟩, hS.F ht⟩) hS.2.2 dX9_till_41
  have h := h.1 hc
  refine lv_aload_n hx hb dX9_till_18 rfl (lv_at hl 0 rfl) ?_
  refine lv_bipush (v := (-6)) hx hb dX9_till_19 (by decide) ?_
  refine rw_i (rwV S hE hT hS hP hD hA (c_X9_refuse h) [0, 1] rfl (by decide +kernel) lkX9_59 rfl ⟨(Nat.le_of_ble_eq_true rfl), (Nat.le_of_ble_eq_true rfl)⟩ 0 rfl rfl hl.1 rfl (Nat.le_of_ble_eq_true rfl) dX9_till_21 ⟨(Nat.zero_le _), (Nat.zero_le _)⟩) hP hD hS hA [0, 1] rfl (by decide +kernel) (fun _ => rfl) (fun r21 w21_0 H locs h hP hD hS => ?_)
  try dsimp only at h
  have hP : va_P D vwCl (wX9_till cI cJ cS a_o a_refused a_road a_road_stretches a_shelves z_kept z_ahead z_cutting z_acting z_road_cars z_road_tunes z_road_demands z_road_stretches_kinds z_road_stretches_spaces z_road_stretches_others z_road_stretches_times sa ea v_imaged v_lastFault w21_0 v_road_drawSeed v_road_stretches_stretchCount f_sh_held f_sh_sort f_sh_cnt f_sh_num g_sh_el) H := hP
  have hD : va_D A (wX9_till cI cJ cS a_o a_refused a_road a_road_stretches a_shelves z_kept z_ahead z_cutting z_acting z_road_cars z_road_tunes z_road_demands z_road_stretches_kinds z_road_stretches_spaces z_road_stretches_others z_road_stretches_times sa ea v_imaged v_lastFault w21_0 v_road_drawSeed v_road_stretches_stretchCount f_sh_held f_sh_sort f_sh_cnt f_sh_num g_sh_el) := hD
  exact W.iret hx hb hr (fun t ht _ => ⟨⟨_, (w21_0, v_road_stretches_stretchCount, f_sh_held, f_sh_cnt), rfl, h, hPt hP ht⟩, hS.F ht⟩) hS.2.2 dX9_till_24
