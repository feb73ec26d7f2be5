/-! constructors -/
theorem lz {ls : Array Slot} {n : Nat} {v : List (Nat × Value)} (h : lv_has ls n v) : ls.size = n := h.1
theorem lcX5_11 : LKJ "RoadThatSings$Road" 11 yX7_init "RoadThatSings" cX7_init 1 0 := ⟨⟨List.mem_of_getElem? (i := 1) rfl, q35, q3, q36⟩, by decide +kernel⟩
theorem lcX5_20 : LKJ "RoadThatSings$Road" 20 yX1_init "RoadThatSings" cX1_init 1 0 := ⟨⟨List.mem_of_getElem? (i := 2) rfl, q58, q4, q59⟩, by decide +kernel⟩
theorem lcX5_27 : LKJ "RoadThatSings$Road" 27 yX8_init "RoadThatSings" cX8_init 1 0 := ⟨⟨List.mem_of_getElem? (i := 3) rfl, q77, q5, q78⟩, by decide +kernel⟩
/-! X0_init -/
abbrev bX0 (a_o : Nat) : va_W := [(a_o, .inr (0, [.null, .int 0, .int 0, .int 0, .int 0]))]
abbrev kX0_init (cI cJ cS : ClassId) (a_o n1 : Nat) : va_W := [(a_o, .inr (0, [.ref n1, .int 0, .int 0, .int 0, .int 0])), (n1, .inl (cI, 20, .inl (fun _ => 0)))]
theorem x0b_ok : ∀ j, j < 5 → defaultValue (tyX0 j) = vp_V [.null, .int 0, .int 0, .int 0, .int 0] j := by decide +kernel
set_option maxHeartbeats 4000000 in
set_option maxRecDepth 100000 in
theorem c_X0_init {l : Launch} {D : va_G} {cI cJ cS : ClassId} {ad adK : Nat → Nat} {a_o : Nat} {sz : Nat} : Met l yX0_init (Cond.code yX0_init cX0_init 1 none :: GW) (rmd 1 1 20) (PW D cI cJ cS ad adK [.ref a_o] (bX0 a_o) sz) (va_Qv (fun _ : Nat => True) (fun u t => va_P D vwCl (kX0_init cI cJ cS a_o u) t.heap ∧ va_D (va_A (bX0 a_o) sz) (kX0_init cI cJ cS a_o u)) (va_A (bX0 a_o) sz)) 1 20 (va_A (bX0 a_o) sz) := by
  refine Met.rw (Qc := fun A => (va_Qv (fun _ : Nat => True) (fun u t => va_P D vwCl (kX0_init cI cJ cS a_o u) t.heap ∧ va_D A (kX0_init cI cJ cS a_o u)) A)) (by decide) (Nat.le_of_ble_eq_true rfl) (fun p e s m args below meth c ls A (S : CallFix p m c cX0_init 1 s args GW "RoadThatSings$Acting") hE hT hP hD hA hS hr hlocks hname hl => ?_)
  have hx := S.1
  have hb := S.2.1
  have hl : lv_has ls 1 [(0, .ref a_o)] := hl
  have hname : meth.name = "<init>" := hname
  refine lv_aload_n hx hb dX0_init_0 rfl (lv_at hl 0 rfl) ?_
  refine oin S q142 q24 q25 (lz hl) dX0_init_1 (by decide) (by decide) ?_
  refine lv_aload_n hx hb dX0_init_4 rfl (lv_at hl 0 rfl) ?_
  refine lv_bipush (v := 20) hx hb dX0_init_5 (by decide) ?_
  refine newI S hE hP hD hS hA (N' := 20) (by decide) (by decide) (by decide) (Nat.le_of_ble_eq_true rfl) (Nat.le_of_ble_eq_true rfl) dX0_init_7 (fun n1 H hP hD hS => ?_)
  have hP : va_P D vwCl [(a_o, .inr (0, [.null, .int 0, .int 0, .int 0, .int 0])), (n1, .inl (cI, 20, .inl (fun _ => 0)))] H := hP
  have hD : va_D A [(a_o, .inr (0, [.null, .int 0, .int 0, .int 0, .int 0])), (n1, .inl (cI, 20, .inl (fun _ => 0)))] := hD
  refine pfF S hE hP hD hS 0 (k := 0) rfl rfl inX0 tyX0_ok nmX0 (by decide) q143 rfl hname rfl rfl rfl (Nat.le_of_ble_eq_true rfl) dX0_init_9 (fun H locs hP hD hS => ?_)
  have hP : va_P D vwCl [(a_o, .inr (0, [.ref n1, .int 0, .int 0, .int 0, .int 0])), (n1, .inl (cI, 20, .inl (fun _ => 0)))] H := hP
  have hD : va_D A [(a_o, .inr (0, [.ref n1, .int 0, .int 0, .int 0, .int 0])), (n1, .inl (cI, 20, .inl (fun _ => 0)))] := hD
  refine lv_aload_n hx hb dX0_init_12 rfl (lv_at hl 0 rfl) ?_
  refine lv_iconst (v := 0) hx hb dX0_init_13 (by decide) ?_
  refine pf S hE hP hD hS 0 (k := 1) rfl rfl inX0 tyX0_ok nmX0 (by decide) q144 rfl rfl rfl (Nat.le_of_ble_eq_true rfl) dX0_init_14 (fun H locs hP hD hS => ?_)
  have hP : va_P D vwCl [(a_o, .inr (0, [.ref n1, .int 0, .int 0, .int 0, .int 0])), (n1, .inl (cI, 20, .inl (fun _ => 0)))] H := hP
  have hD : va_D A [(a_o, .inr (0, [.ref n1, .int 0, .int 0, .int 0, .int 0])), (n1, .inl (cI, 20, .inl (fun _ => 0)))] := hD
  refine lv_aload_n hx hb dX0_init_17 rfl (lv_at hl 0 rfl) ?_
  refine lv_iconst (v := 0) hx hb dX0_init_18 (by decide) ?_
  refine pf S hE hP hD hS 0 (k := 2) rfl rfl inX0 tyX0_ok nmX0 (by decide) q145 rfl rfl rfl (Nat.le_of_ble_eq_true rfl) dX0_init_19 (fun H locs hP hD hS => ?_)
  have hP : va_P D vwCl [(a_o, .inr (0, [.ref n1, .int 0, .int 0, .int 0, .int 0])), (n1, .inl (cI, 20, .inl (fun _ => 0)))] H := hP
  have hD : va_D A [(a_o, .inr (0, [.ref n1, .int 0, .int 0, .int 0, .int 0])), (n1, .inl (cI, 20, .inl (fun _ => 0)))] := hD
  refine lv_aload_n hx hb dX0_init_22 rfl (lv_at hl 0 rfl) ?_
  refine lv_iconst (v := 0) hx hb dX0_init_23 (by decide) ?_
  refine pf S hE hP hD hS 0 (k := 3) rfl rfl inX0 tyX0_ok nmX0 (by decide) q146 rfl rfl rfl (Nat.le_of_ble_eq_true rfl) dX0_init_24 (fun H locs hP hD hS => ?_)
  have hP : va_P D vwCl [(a_o, .inr (0, [.ref n1, .int 0, .int 0, .int 0, .int 0])), (n1, .inl (cI, 20, .inl (fun _ => 0)))] H := hP
  have hD : va_D A [(a_o, .inr (0, [.ref n1, .int 0, .int 0, .int 0, .int 0])), (n1, .inl (cI, 20, .inl (fun _ => 0)))] := hD
  refine lv_aload_n hx hb dX0_init_27 rfl (lv_at hl 0 rfl) ?_
  refine lv_iconst (v := 0) hx hb dX0_init_28 (by decide) ?_
  refine pf S hE hP hD hS 0 (k := 4) rfl rfl inX0 tyX0_ok nmX0 (by decide) q147 rfl rfl rfl (Nat.le_of_ble_eq_true rfl) dX0_init_29 (fun H locs hP hD hS => ?_)
  have hP : va_P D vwCl [(a_o, .inr (0, [.ref n1, .int 0, .int 0, .int 0, .int 0])), (n1, .inl (cI, 20, .inl (fun _ => 0)))] H := hP
  have hD : va_D A [(a_o, .inr (0, [.ref n1, .int 0, .int 0, .int 0, .int 0])), (n1, .inl (cI, 20, .inl (fun _ => 0)))] := hD
  refine W.widen (k := 1) (n := 20) (Nat.le_of_ble_eq_true rfl) (Nat.le_of_ble_eq_true rfl) ?_
  exact W.vret hx hb hr (fun t ht _ => ⟨⟨n1, rfl, trivial, hPt hP ht, hD⟩, hS.F ht⟩) hS.2.2 dX0_init_32
/-! X1_init -/
abbrev bX1 (a_o : Nat) : va_W := [(a_o, .inr (1, [.null, .null, .null, .int 0]))]
abbrev kX1_init (cI cJ cS : ClassId) (a_o n1 n2 n3 : Nat) : va_W := [(a_o, .inr (1, [.ref n1, .ref n2, .ref n3, .int 0])), (n1, .inl (cI, 6, .inl (fun _ => 0))), (n2, .inl (cI, 6, .inl (fun _ => 0))), (n3, .inl (cI, 6, .inl (fun _ => 0)))]
theorem x1b_ok : ∀ j, j < 4 → defaultValue (tyX1 j) = vp_V [.null, .null, .null, .int 0] j := by decide +kernel
set_option maxHeartbeats 4000000 in
set_option maxRecDepth 100000 in
theorem c_X1_init {l : Launch} {D : va_G} {cI cJ cS : ClassId} {ad adK : Nat → Nat} {a_o : Nat} {sz : Nat} : Met l yX1_init (Cond.code yX1_init cX1_init 1 none :: GW) (rmd 1 3 18) (PW D cI cJ cS ad adK [.ref a_o] (bX1 a_o) sz) (va_Qv (fun _ : Nat × Nat × Nat => True) (fun u t => va_P D vwCl (kX1_init cI cJ cS a_o u.1 u.2.1 u.2.2) t.heap ∧ va_D (va_A (bX1 a_o) sz) (kX1_init cI cJ cS a_o u.1 u.2.1 u.2.2)) (va_A (bX1 a_o) sz)) 3 18 (va_A (bX1 a_o) sz) := by
  refine Met.rw (Qc := fun A => (va_Qv (fun _ : Nat × Nat × Nat => True) (fun u t => va_P D vwCl (kX1_init cI cJ cS a_o u.1 u.2.1 u.2.2) t.heap ∧ va_D A (kX1_init cI cJ cS a_o u.1 u.2.1 u.2.2)) A)) (by decide) (Nat.le_of_ble_eq_true rfl) (fun p e s m args below meth c ls A (S : CallFix p m c cX1_init 1 s args GW "RoadThatSings$Cars") hE hT hP hD hA hS hr hlocks hname hl => ?_)
  have hx := S.1
  have hb := S.2.1
  have hl : lv_has ls 1 [(0, .ref a_o)] := hl
  have hname : meth.name = "<init>" := hname
  refine lv_aload_n hx hb dX1_init_0 rfl (lv_at hl 0 rfl) ?_
  refine oin S q60 q24 q25 (lz hl) dX1_init_1 (by decide) (by decide) ?_
  refine lv_aload_n hx hb dX1_init_4 rfl (lv_at hl 0 rfl) ?_
  refine lv_bipush (v := 6) hx hb dX1_init_5 (by decide) ?_
  refine newI S hE hP hD hS hA (N' := 6) (by decide) (by decide) (by decide) (Nat.le_of_ble_eq_true rfl) (Nat.le_of_ble_eq_true rfl) dX1_init_7 (fun n1 H hP hD hS => ?_)
  have hP : va_P D vwCl [(a_o, .inr (1, [.null, .null, .null, .int 0])), (n1, .inl (cI, 6, .inl (fun _ => 0)))] H := hP
  have hD : va_D A [(a_o, .inr (1, [.null, .null, .null, .int 0])), (n1, .inl (cI, 6, .inl (fun _ => 0)))] := hD
  refine pfF S hE hP hD hS 0 (k := 0) rfl rfl inX1 tyX1_ok nmX1 (by decide) q61 rfl hname rfl rfl rfl (Nat.le_of_ble_eq_true rfl) dX1_init_9 (fun H locs hP hD hS => ?_)
  have hP : va_P D vwCl [(a_o, .inr (1, [.ref n1, .null, .null, .int 0])), (n1, .inl (cI, 6, .inl (fun _ => 0)))] H := hP
  have hD : va_D A [(a_o, .inr (1, [.ref n1, .null, .null, .int 0])), (n1, .inl (cI, 6, .inl (fun _ => 0)))] := hD
  refine lv_aload_n hx hb dX1_init_12 rfl (lv_at hl 0 rfl) ?_
  refine lv_bipush (v := 6) hx hb dX1_init_13 (by decide) ?_
  refine newI S hE hP hD hS hA (N' := 6) (by decide) (by decide) (by decide) (Nat.le_of_ble_eq_true rfl) (Nat.le_of_ble_eq_true rfl) dX1_init_15 (fun n2 H hP hD hS => ?_)
  have hP : va_P D vwCl [(a_o, .inr (1, [.ref n1, .null, .null, .int 0])), (n1, .inl (cI, 6, .inl (fun _ => 0))), (n2, .inl (cI, 6, .inl (fun _ => 0)))] H := hP
  have hD : va_D A [(a_o, .inr (1, [.ref n1, .null, .null, .int 0])), (n1, .inl (cI, 6, .inl (fun _ => 0))), (n2, .inl (cI, 6, .inl (fun _ => 0)))] := hD
  refine pfF S hE hP hD hS 0 (k := 1) rfl rfl inX1 tyX1_ok nmX1 (by decide) q62 rfl hname rfl rfl rfl (Nat.le_of_ble_eq_true rfl) dX1_init_17 (fun H locs hP hD hS => ?_)
  have hP : va_P D vwCl [(a_o, .inr (1, [.ref n1, .ref n2, .null, .int 0])), (n1, .inl (cI, 6, .inl (fun _ => 0))), (n2, .inl (cI, 6, .inl (fun _ => 0)))] H := hP
  have hD : va_D A [(a_o, .inr (1, [.ref n1, .ref n2, .null, .int 0])), (n1, .inl (cI, 6, .inl (fun _ => 0))), (n2, .inl (cI, 6, .inl (fun _ => 0)))] := hD
  refine lv_aload_n hx hb dX1_init_20 rfl (lv_at hl 0 rfl) ?_
  refine lv_bipush (v := 6) hx hb dX1_init_21 (by decide) ?_
  refine newI S hE hP hD hS hA (N' := 6) (by decide) (by decide) (by decide) (Nat.le_of_ble_eq_true rfl) (Nat.le_of_ble_eq_true rfl) dX1_init_23 (fun n3 H hP hD hS => ?_)
  have hP : va_P D vwCl [(a_o, .inr (1, [.ref n1, .ref n2, .null, .int 0])), (n1, .inl (cI, 6, .inl (fun _ => 0))), (n2, .inl (cI, 6, .inl (fun _ => 0))), (n3, .inl (cI, 6, .inl (fun _ => 0)))] H := hP
  have hD : va_D A [(a_o, .inr (1, [.ref n1, .ref n2, .null, .int 0])), (n1, .inl (cI, 6, .inl (fun _ => 0))), (n2, .inl (cI, 6, .inl (fun _ => 0))), (n3, .inl (cI, 6, .inl (fun _ => 0)))] := hD
  refine pfF S hE hP hD hS 0 (k := 2) rfl rfl inX1 tyX1_ok nmX1 (by decide) q63 rfl hname rfl rfl rfl (Nat.le_of_ble_eq_true rfl) dX1_init_25 (fun H locs hP hD hS => ?_)
  have hP : va_P D vwCl [(a_o, .inr (1, [.ref n1, .ref n2, .ref n3, .int 0])), (n1, .inl (cI, 6, .inl (fun _ => 0))), (n2, .inl (cI, 6, .inl (fun _ => 0))), (n3, .inl (cI, 6, .inl (fun _ => 0)))] H := hP
  have hD : va_D A [(a_o, .inr (1, [.ref n1, .ref n2, .ref n3, .int 0])), (n1, .inl (cI, 6, .inl (fun _ => 0))), (n2, .inl (cI, 6, .inl (fun _ => 0))), (n3, .inl (cI, 6, .inl (fun _ => 0)))] := hD
  refine lv_aload_n hx hb dX1_init_28 rfl (lv_at hl 0 rfl) ?_
  refine lv_iconst (v := 0) hx hb dX1_init_29 (by decide) ?_
  refine pf S hE hP hD hS 0 (k := 3) rfl rfl inX1 tyX1_ok nmX1 (by decide) q64 rfl rfl rfl (Nat.le_of_ble_eq_true rfl) dX1_init_30 (fun H locs hP hD hS => ?_)
  have hP : va_P D vwCl [(a_o, .inr (1, [.ref n1, .ref n2, .ref n3, .int 0])), (n1, .inl (cI, 6, .inl (fun _ => 0))), (n2, .inl (cI, 6, .inl (fun _ => 0))), (n3, .inl (cI, 6, .inl (fun _ => 0)))] H := hP
  have hD : va_D A [(a_o, .inr (1, [.ref n1, .ref n2, .ref n3, .int 0])), (n1, .inl (cI, 6, .inl (fun _ => 0))), (n2, .inl (cI, 6, .inl (fun _ => 0))), (n3, .inl (cI, 6, .inl (fun _ => 0)))] := hD
  refine W.widen (k := 3) (n := 18) (Nat.le_of_ble_eq_true rfl) (Nat.le_of_ble_eq_true rfl) ?_
  exact W.vret hx hb hr (fun t ht _ => ⟨⟨(n1, n2, n3), rfl, trivial, hPt hP ht, hD⟩, hS.F ht⟩) hS.2.2 dX1_init_33
/-! X2_init -/
abbrev bX2 (a_o : Nat) : va_W := [(a_o, .inr (2, [.null, .null, .null, .int 0]))]
abbrev kX2_init (cI cJ cS : ClassId) (a_o n1 n2 n3 : Nat) : va_W := [(a_o, .inr (2, [.ref n1, .ref n2, .ref n3, .int 0])), (n1, .inl (cI, 12, .inl (fun _ => 0))), (n2, .inl (cI, 12, .inl (fun _ => 0))), (n3, .inl (cI, 12, .inl (fun _ => 0)))]
theorem x2b_ok : ∀ j, j < 4 → defaultValue (tyX2 j) = vp_V [.null, .null, .null, .int 0] j := by decide +kernel
set_option maxHeartbeats 4000000 in
set_option maxRecDepth 100000 in
theorem c_X2_init {l : Launch} {D : va_G} {cI cJ cS : ClassId} {ad adK : Nat → Nat} {a_o : Nat} {sz : Nat} : Met l yX2_init (Cond.code yX2_init cX2_init 1 none :: GW) (rmd 1 3 36) (PW D cI cJ cS ad adK [.ref a_o] (bX2 a_o) sz) (va_Qv (fun _ : Nat × Nat × Nat => True) (fun u t => va_P D vwCl (kX2_init cI cJ cS a_o u.1 u.2.1 u.2.2) t.heap ∧ va_D (va_A (bX2 a_o) sz) (kX2_init cI cJ cS a_o u.1 u.2.1 u.2.2)) (va_A (bX2 a_o) sz)) 3 36 (va_A (bX2 a_o) sz) := by
  refine Met.rw (Qc := fun A => (va_Qv (fun _ : Nat × Nat × Nat => True) (fun u t => va_P D vwCl (kX2_init cI cJ cS a_o u.1 u.2.1 u.2.2) t.heap ∧ va_D A (kX2_init cI cJ cS a_o u.1 u.2.1 u.2.2)) A)) (by decide) (Nat.le_of_ble_eq_true rfl) (fun p e s m args below meth c ls A (S : CallFix p m c cX2_init 1 s args GW "RoadThatSings$Cutting") hE hT hP hD hA hS hr hlocks hname hl => ?_)
  have hx := S.1
  have hb := S.2.1
  have hl : lv_has ls 1 [(0, .ref a_o)] := hl
  have hname : meth.name = "<init>" := hname
  refine lv_aload_n hx hb dX2_init_0 rfl (lv_at hl 0 rfl) ?_
  refine oin S q123 q24 q25 (lz hl) dX2_init_1 (by decide) (by decide) ?_
  refine lv_aload_n hx hb dX2_init_4 rfl (lv_at hl 0 rfl) ?_
  refine lv_bipush (v := 12) hx hb dX2_init_5 (by decide) ?_
  refine newI S hE hP hD hS hA (N' := 12) (by decide) (by decide) (by decide) (Nat.le_of_ble_eq_true rfl) (Nat.le_of_ble_eq_true rfl) dX2_init_7 (fun n1 H hP hD hS => ?_)
  have hP : va_P D vwCl [(a_o, .inr (2, [.null, .null, .null, .int 0])), (n1, .inl (cI, 12, .inl (fun _ => 0)))] H := hP
  have hD : va_D A [(a_o, .inr (2, [.null, .null, .null, .int 0])), (n1, .inl (cI, 12, .inl (fun _ => 0)))] := hD
  refine pfF S hE hP hD hS 0 (k := 0) rfl rfl inX2 tyX2_ok nmX2 (by decide) q124 rfl hname rfl rfl rfl (Nat.le_of_ble_eq_true rfl) dX2_init_9 (fun H locs hP hD hS => ?_)
  have hP : va_P D vwCl [(a_o, .inr (2, [.ref n1, .null, .null, .int 0])), (n1, .inl (cI, 12, .inl (fun _ => 0)))] H := hP
  have hD : va_D A [(a_o, .inr (2, [.ref n1, .null, .null, .int 0])), (n1, .inl (cI, 12, .inl (fun _ => 0)))] := hD
  refine lv_aload_n hx hb dX2_init_12 rfl (lv_at hl 0 rfl) ?_
  refine lv_bipush (v := 12) hx hb dX2_init_13 (by decide) ?_
  refine newI S hE hP hD hS hA (N' := 12) (by decide) (by decide) (by decide) (Nat.le_of_ble_eq_true rfl) (Nat.le_of_ble_eq_true rfl) dX2_init_15 (fun n2 H hP hD hS => ?_)
  have hP : va_P D vwCl [(a_o, .inr (2, [.ref n1, .null, .null, .int 0])), (n1, .inl (cI, 12, .inl (fun _ => 0))), (n2, .inl (cI, 12, .inl (fun _ => 0)))] H := hP
  have hD : va_D A [(a_o, .inr (2, [.ref n1, .null, .null, .int 0])), (n1, .inl (cI, 12, .inl (fun _ => 0))), (n2, .inl (cI, 12, .inl (fun _ => 0)))] := hD
  refine pfF S hE hP hD hS 0 (k := 1) rfl rfl inX2 tyX2_ok nmX2 (by decide) q125 rfl hname rfl rfl rfl (Nat.le_of_ble_eq_true rfl) dX2_init_17 (fun H locs hP hD hS => ?_)
  have hP : va_P D vwCl [(a_o, .inr (2, [.ref n1, .ref n2, .null, .int 0])), (n1, .inl (cI, 12, .inl (fun _ => 0))), (n2, .inl (cI, 12, .inl (fun _ => 0)))] H := hP
  have hD : va_D A [(a_o, .inr (2, [.ref n1, .ref n2, .null, .int 0])), (n1, .inl (cI, 12, .inl (fun _ => 0))), (n2, .inl (cI, 12, .inl (fun _ => 0)))] := hD
  refine lv_aload_n hx hb dX2_init_20 rfl (lv_at hl 0 rfl) ?_
  refine lv_bipush (v := 12) hx hb dX2_init_21 (by decide) ?_
  refine newI S hE hP hD hS hA (N' := 12) (by decide) (by decide) (by decide) (Nat.le_of_ble_eq_true rfl) (Nat.le_of_ble_eq_true rfl) dX2_init_23 (fun n3 H hP hD hS => ?_)
  have hP : va_P D vwCl [(a_o, .inr (2, [.ref n1, .ref n2, .null, .int 0])), (n1, .inl (cI, 12, .inl (fun _ => 0))), (n2, .inl (cI, 12, .inl (fun _ => 0))), (n3, .inl (cI, 12, .inl (fun _ => 0)))] H := hP
  have hD : va_D A [(a_o, .inr (2, [.ref n1, .ref n2, .null, .int 0])), (n1, .inl (cI, 12, .inl (fun _ => 0))), (n2, .inl (cI, 12, .inl (fun _ => 0))), (n3, .inl (cI, 12, .inl (fun _ => 0)))] := hD
  refine pfF S hE hP hD hS 0 (k := 2) rfl rfl inX2 tyX2_ok nmX2 (by decide) q126 rfl hname rfl rfl rfl (Nat.le_of_ble_eq_true rfl) dX2_init_25 (fun H locs hP hD hS => ?_)
  have hP : va_P D vwCl [(a_o, .inr (2, [.ref n1, .ref n2, .ref n3, .int 0])), (n1, .inl (cI, 12, .inl (fun _ => 0))), (n2, .inl (cI, 12, .inl (fun _ => 0))), (n3, .inl (cI, 12, .inl (fun _ => 0)))] H := hP
  have hD : va_D A [(a_o, .inr (2, [.ref n1, .ref n2, .ref n3, .int 0])), (n1, .inl (cI, 12, .inl (fun _ => 0))), (n2, .inl (cI, 12, .inl (fun _ => 0))), (n3, .inl (cI, 12, .inl (fun _ => 0)))] := hD
  refine lv_aload_n hx hb dX2_init_28 rfl (lv_at hl 0 rfl) ?_
  refine lv_iconst (v := 0) hx hb dX2_init_29 (by decide) ?_
  refine pf S hE hP hD hS 0 (k := 3) rfl rfl inX2 tyX2_ok nmX2 (by decide) q127 rfl rfl rfl (Nat.le_of_ble_eq_true rfl) dX2_init_30 (fun H locs hP hD hS => ?_)
  have hP : va_P D vwCl [(a_o, .inr (2, [.ref n1, .ref n2, .ref n3, .int 0])), (n1, .inl (cI, 12, .inl (fun _ => 0))), (n2, .inl (cI, 12, .inl (fun _ => 0))), (n3, .inl (cI, 12, .inl (fun _ => 0)))] H := hP
  have hD : va_D A [(a_o, .inr (2, [.ref n1, .ref n2, .ref n3, .int 0])), (n1, .inl (cI, 12, .inl (fun _ => 0))), (n2, .inl (cI, 12, .inl (fun _ => 0))), (n3, .inl (cI, 12, .inl (fun _ => 0)))] := hD
  refine W.widen (k := 3) (n := 36) (Nat.le_of_ble_eq_true rfl) (Nat.le_of_ble_eq_true rfl) ?_
  exact W.vret hx hb hr (fun t ht _ => ⟨⟨(n1, n2, n3), rfl, trivial, hPt hP ht, hD⟩, hS.F ht⟩) hS.2.2 dX2_init_33
/-! X6_init -/
abbrev bX6 (a_o : Nat) : va_W := [(a_o, .inr (5, [.null, .int 0, .int 0, .int 0, .int 0]))]
abbrev kX6_init (cI cJ cS : ClassId) (a_o n1 : Nat) : va_W := [(a_o, .inr (5, [.ref n1, .int 0, .int 0, .int 0, .int (-1)])), (n1, .inl (cJ, 160, .inr (.inl (fun _ => 0))))]
theorem x6b_ok : ∀ j, j < 5 → defaultValue (tyX6 j) = vp_V [.null, .int 0, .int 0, .int 0, .int 0] j := by decide +kernel
set_option maxHeartbeats 4000000 in
set_option maxRecDepth 100000 in
theorem c_X6_init {l : Launch} {D : va_G} {cI cJ cS : ClassId} {ad adK : Nat → Nat} {a_o : Nat} {sz : Nat} : Met l yX6_init (Cond.code yX6_init cX6_init 1 none :: GW) (rmd 1 1 160) (PW D cI cJ cS ad adK [.ref a_o] (bX6 a_o) sz) (va_Qv (fun _ : Nat => True) (fun u t => va_P D vwCl (kX6_init cI cJ cS a_o u) t.heap ∧ va_D (va_A (bX6 a_o) sz) (kX6_init cI cJ cS a_o u)) (va_A (bX6 a_o) sz)) 1 160 (va_A (bX6 a_o) sz) := by
  refine Met.rw (Qc := fun A => (va_Qv (fun _ : Nat => True) (fun u t => va_P D vwCl (kX6_init cI cJ cS a_o u) t.heap ∧ va_D A (kX6_init cI cJ cS a_o u)) A)) (by decide) (Nat.le_of_ble_eq_true rfl) (fun p e s m args below meth c ls A (S : CallFix p m c cX6_init 1 s args GW "RoadThatSings$Shelf") hE hT hP hD hA hS hr hlocks hname hl => ?_)
  have hx := S.1
  have hb := S.2.1
  have hl : lv_has ls 1 [(0, .ref a_o)] := hl
  have hname : meth.name = "<init>" := hname
  refine lv_aload_n hx hb dX6_init_0 rfl (lv_at hl 0 rfl) ?_
  refine oin S q163 q24 q25 (lz hl) dX6_init_1 (by decide) (by decide) ?_
  refine lv_aload_n hx hb dX6_init_4 rfl (lv_at hl 0 rfl) ?_
  refine lv_sipush (v := 160) hx hb dX6_init_5 (by decide) ?_
  refine newJ S hE hP hD hS hA (N' := 160) (by decide) (by decide) (by decide) (Nat.le_of_ble_eq_true rfl) (Nat.le_of_ble_eq_true rfl) dX6_init_8 (fun n1 H hP hD hS => ?_)
  have hP : va_P D vwCl [(a_o, .inr (5, [.null, .int 0, .int 0, .int 0, .int 0])), (n1, .inl (cJ, 160, .inr (.inl (fun _ => 0))))] H := hP
  have hD : va_D A [(a_o, .inr (5, [.null, .int 0, .int 0, .int 0, .int 0])), (n1, .inl (cJ, 160, .inr (.inl (fun _ => 0))))] := hD
  refine pfF S hE hP hD hS 0 (k := 0) rfl rfl inX6 tyX6_ok nmX6 (by decide) q164 rfl hname rfl rfl rfl (Nat.le_of_ble_eq_true rfl) dX6_init_10 (fun H locs hP hD hS => ?_)
  have hP : va_P D vwCl [(a_o, .inr (5, [.ref n1, .int 0, .int 0, .int 0, .int 0])), (n1, .inl (cJ, 160, .inr (.inl (fun _ => 0))))] H := hP
  have hD : va_D A [(a_o, .inr (5, [.ref n1, .int 0, .int 0, .int 0, .int 0])), (n1, .inl (cJ, 160, .inr (.inl (fun _ => 0))))] := hD
  refine lv_aload_n hx hb dX6_init_13 rfl (lv_at hl 0 rfl) ?_
  refine lv_iconst (v := 0) hx hb dX6_init_14 (by decide) ?_
  refine pf S hE hP hD hS 0 (k := 1) rfl rfl inX6 tyX6_ok nmX6 (by decide) q165 rfl rfl rfl (Nat.le_of_ble_eq_true rfl) dX6_init_15 (fun H locs hP hD hS => ?_)
  have hP : va_P D vwCl [(a_o, .inr (5, [.ref n1, .int 0, .int 0, .int 0, .int 0])), (n1, .inl (cJ, 160, .inr (.inl (fun _ => 0))))] H := hP
  have hD : va_D A [(a_o, .inr (5, [.ref n1, .int 0, .int 0, .int 0, .int 0])), (n1, .inl (cJ, 160, .inr (.inl (fun _ => 0))))] := hD
  refine lv_aload_n hx hb dX6_init_18 rfl (lv_at hl 0 rfl) ?_
  refine lv_iconst (v := 0) hx hb dX6_init_19 (by decide) ?_
  refine pf S hE hP hD hS 0 (k := 2) rfl rfl inX6 tyX6_ok nmX6 (by decide) q166 rfl rfl rfl (Nat.le_of_ble_eq_true rfl) dX6_init_20 (fun H locs hP hD hS => ?_)
  have hP : va_P D vwCl [(a_o, .inr (5, [.ref n1, .int 0, .int 0, .int 0, .int 0])), (n1, .inl (cJ, 160, .inr (.inl (fun _ => 0))))] H := hP
  have hD : va_D A [(a_o, .inr (5, [.ref n1, .int 0, .int 0, .int 0, .int 0])), (n1, .inl (cJ, 160, .inr (.inl (fun _ => 0))))] := hD
  refine lv_aload_n hx hb dX6_init_23 rfl (lv_at hl 0 rfl) ?_
  refine lv_iconst (v := 0) hx hb dX6_init_24 (by decide) ?_
  refine pf S hE hP hD hS 0 (k := 3) rfl rfl inX6 tyX6_ok nmX6 (by decide) q167 rfl rfl rfl (Nat.le_of_ble_eq_true rfl) dX6_init_25 (fun H locs hP hD hS => ?_)
  have hP : va_P D vwCl [(a_o, .inr (5, [.ref n1, .int 0, .int 0, .int 0, .int 0])), (n1, .inl (cJ, 160, .inr (.inl (fun _ => 0))))] H := hP
  have hD : va_D A [(a_o, .inr (5, [.ref n1, .int 0, .int 0, .int 0, .int 0])), (n1, .inl (cJ, 160, .inr (.inl (fun _ => 0))))] := hD
  refine lv_aload_n hx hb dX6_init_28 rfl (lv_at hl 0 rfl) ?_
  refine lv_iconst (v := (-1)) hx hb dX6_init_29 (by decide) ?_
  refine pf S hE hP hD hS 0 (k := 4) rfl rfl inX6 tyX6_ok nmX6 (by decide) q168 rfl rfl rfl (Nat.le_of_ble_eq_true rfl) dX6_init_30 (fun H locs hP hD hS => ?_)
  have hP : va_P D vwCl [(a_o, .inr (5, [.ref n1, .int 0, .int 0, .int 0, .int (-1)])), (n1, .inl (cJ, 160, .inr (.inl (fun _ => 0))))] H := hP
  have hD : va_D A [(a_o, .inr (5, [.ref n1, .int 0, .int 0, .int 0, .int (-1)])), (n1, .inl (cJ, 160, .inr (.inl (fun _ => 0))))] := hD
  refine W.widen (k := 1) (n := 160) (Nat.le_of_ble_eq_true rfl) (Nat.le_of_ble_eq_true rfl) ?_
  exact W.vret hx hb hr (fun t ht _ => ⟨⟨n1, rfl, trivial, hPt hP ht, hD⟩, hS.F ht⟩) hS.2.2 dX6_init_33
/-! X7_init -/
abbrev bX7 (a_o : Nat) : va_W := [(a_o, .inr (6, [.null, .null, .null, .null, .int 0]))]
abbrev kX7_init (cI cJ cS : ClassId) (a_o n1 n2 n3 n4 : Nat) : va_W := [(a_o, .inr (6, [.ref n1, .ref n2, .ref n3, .ref n4, .int 0])), (n1, .inl (cI, 16, .inl (fun _ => 0))), (n2, .inl (cI, 16, .inl (fun _ => 0))), (n3, .inl (cI, 16, .inl (fun _ => 0))), (n4, .inl (cI, 16, .inl (fun _ => 0)))]
theorem x7b_ok : ∀ j, j < 5 → defaultValue (tyX7 j) = vp_V [.null, .null, .null, .null, .int 0] j := by decide +kernel
set_option maxHeartbeats 4000000 in
set_option maxRecDepth 100000 in
theorem c_X7_init {l : Launch} {D : va_G} {cI cJ cS : ClassId} {ad adK : Nat → Nat} {a_o : Nat} {sz : Nat} : Met l yX7_init (Cond.code yX7_init cX7_init 1 none :: GW) (rmd 1 4 64) (PW D cI cJ cS ad adK [.ref a_o] (bX7 a_o) sz) (va_Qv (fun _ : Nat × Nat × Nat × Nat => True) (fun u t => va_P D vwCl (kX7_init cI cJ cS a_o u.1 u.2.1 u.2.2.1 u.2.2.2) t.heap ∧ va_D (va_A (bX7 a_o) sz) (kX7_init cI cJ cS a_o u.1 u.2.1 u.2.2.1 u.2.2.2)) (va_A (bX7 a_o) sz)) 4 64 (va_A (bX7 a_o) sz) := by
  refine Met.rw (Qc := fun A => (va_Qv (fun _ : Nat × Nat × Nat × Nat => True) (fun u t => va_P D vwCl (kX7_init cI cJ cS a_o u.1 u.2.1 u.2.2.1 u.2.2.2) t.heap ∧ va_D A (kX7_init cI cJ cS a_o u.1 u.2.1 u.2.2.1 u.2.2.2)) A)) (by decide) (Nat.le_of_ble_eq_true rfl) (fun p e s m args below meth c ls A (S : CallFix p m c cX7_init 1 s args GW "RoadThatSings$Stretches") hE hT hP hD hA hS hr hlocks hname hl => ?_)
  have hx := S.1
  have hb := S.2.1
  have hl : lv_has ls 1 [(0, .ref a_o)] := hl
  have hname : meth.name = "<init>" := hname
  refine lv_aload_n hx hb dX7_init_0 rfl (lv_at hl 0 rfl) ?_
  refine oin S q37 q24 q25 (lz hl) dX7_init_1 (by decide) (by decide) ?_
  refine lv_aload_n hx hb dX7_init_4 rfl (lv_at hl 0 rfl) ?_
  refine lv_bipush (v := 16) hx hb dX7_init_5 (by decide) ?_
  refine newI S hE hP hD hS hA (N' := 16) (by decide) (by decide) (by decide) (Nat.le_of_ble_eq_true rfl) (Nat.le_of_ble_eq_true rfl) dX7_init_7 (fun n1 H hP hD hS => ?_)
  have hP : va_P D vwCl [(a_o, .inr (6, [.null, .null, .null, .null, .int 0])), (n1, .inl (cI, 16, .inl (fun _ => 0)))] H := hP
  have hD : va_D A [(a_o, .inr (6, [.null, .null, .null, .null, .int 0])), (n1, .inl (cI, 16, .inl (fun _ => 0)))] := hD
  refine pfF S hE hP hD hS 0 (k := 0) rfl rfl inX7 tyX7_ok nmX7 (by decide) q38 rfl hname rfl rfl rfl (Nat.le_of_ble_eq_true rfl) dX7_init_9 (fun H locs hP hD hS => ?_)
  have hP : va_P D vwCl [(a_o, .inr (6, [.ref n1, .null, .null, .null, .int 0])), (n1, .inl (cI, 16, .inl (fun _ => 0)))] H := hP
  have hD : va_D A [(a_o, .inr (6, [.ref n1, .null, .null, .null, .int 0])), (n1, .inl (cI, 16, .inl (fun _ => 0)))] := hD
  refine lv_aload_n hx hb dX7_init_12 rfl (lv_at hl 0 rfl) ?_
  refine lv_bipush (v := 16) hx hb dX7_init_13 (by decide) ?_
  refine newI S hE hP hD hS hA (N' := 16) (by decide) (by decide) (by decide) (Nat.le_of_ble_eq_true rfl) (Nat.le_of_ble_eq_true rfl) dX7_init_15 (fun n2 H hP hD hS => ?_)
  have hP : va_P D vwCl [(a_o, .inr (6, [.ref n1, .null, .null, .null, .int 0])), (n1, .inl (cI, 16, .inl (fun _ => 0))), (n2, .inl (cI, 16, .inl (fun _ => 0)))] H := hP
  have hD : va_D A [(a_o, .inr (6, [.ref n1, .null, .null, .null, .int 0])), (n1, .inl (cI, 16, .inl (fun _ => 0))), (n2, .inl (cI, 16, .inl (fun _ => 0)))] := hD
  refine pfF S hE hP hD hS 0 (k := 1) rfl rfl inX7 tyX7_ok nmX7 (by decide) q39 rfl hname rfl rfl rfl (Nat.le_of_ble_eq_true rfl) dX7_init_17 (fun H locs hP hD hS => ?_)
  have hP : va_P D vwCl [(a_o, .inr (6, [.ref n1, .ref n2, .null, .null, .int 0])), (n1, .inl (cI, 16, .inl (fun _ => 0))), (n2, .inl (cI, 16, .inl (fun _ => 0)))] H := hP
  have hD : va_D A [(a_o, .inr (6, [.ref n1, .ref n2, .null, .null, .int 0])), (n1, .inl (cI, 16, .inl (fun _ => 0))), (n2, .inl (cI, 16, .inl (fun _ => 0)))] := hD
  refine lv_aload_n hx hb dX7_init_20 rfl (lv_at hl 0 rfl) ?_
  refine lv_bipush (v := 16) hx hb dX7_init_21 (by decide) ?_
  refine newI S hE hP hD hS hA (N' := 16) (by decide) (by decide) (by decide) (Nat.le_of_ble_eq_true rfl) (Nat.le_of_ble_eq_true rfl) dX7_init_23 (fun n3 H hP hD hS => ?_)
  have hP : va_P D vwCl [(a_o, .inr (6, [.ref n1, .ref n2, .null, .null, .int 0])), (n1, .inl (cI, 16, .inl (fun _ => 0))), (n2, .inl (cI, 16, .inl (fun _ => 0))), (n3, .inl (cI, 16, .inl (fun _ => 0)))] H := hP
  have hD : va_D A [(a_o, .inr (6, [.ref n1, .ref n2, .null, .null, .int 0])), (n1, .inl (cI, 16, .inl (fun _ => 0))), (n2, .inl (cI, 16, .inl (fun _ => 0))), (n3, .inl (cI, 16, .inl (fun _ => 0)))] := hD
  refine pfF S hE hP hD hS 0 (k := 2) rfl rfl inX7 tyX7_ok nmX7 (by decide) q40 rfl hname rfl rfl rfl (Nat.le_of_ble_eq_true rfl) dX7_init_25 (fun H locs hP hD hS => ?_)
  have hP : va_P D vwCl [(a_o, .inr (6, [.ref n1, .ref n2, .ref n3, .null, .int 0])), (n1, .inl (cI, 16, .inl (fun _ => 0))), (n2, .inl (cI, 16, .inl (fun _ => 0))), (n3, .inl (cI, 16, .inl (fun _ => 0)))] H := hP
  have hD : va_D A [(a_o, .inr (6, [.ref n1, .ref n2, .ref n3, .null, .int 0])), (n1, .inl (cI, 16, .inl (fun _ => 0))), (n2, .inl (cI, 16, .inl (fun _ => 0))), (n3, .inl (cI, 16, .inl (fun _ => 0)))] := hD
  refine lv_aload_n hx hb dX7_init_28 rfl (lv_at hl 0 rfl) ?_
  refine lv_bipush (v := 16) hx hb dX7_init_29 (by decide) ?_
  refine newI S hE hP hD hS hA (N' := 16) (by decide) (by decide) (by decide) (Nat.le_of_ble_eq_true rfl) (Nat.le_of_ble_eq_true rfl) dX7_init_31 (fun n4 H hP hD hS => ?_)
  have hP : va_P D vwCl [(a_o, .inr (6, [.ref n1, .ref n2, .ref n3, .null, .int 0])), (n1, .inl (cI, 16, .inl (fun _ => 0))), (n2, .inl (cI, 16, .inl (fun _ => 0))), (n3, .inl (cI, 16, .inl (fun _ => 0))), (n4, .inl (cI, 16, .inl (fun _ => 0)))] H := hP
  have hD : va_D A [(a_o, .inr (6, [.ref n1, .ref n2, .ref n3, .null, .int 0])), (n1, .inl (cI, 16, .inl (fun _ => 0))), (n2, .inl (cI, 16, .inl (fun _ => 0))), (n3, .inl (cI, 16, .inl (fun _ => 0))), (n4, .inl (cI, 16, .inl (fun _ => 0)))] := hD
  refine pfF S hE hP hD hS 0 (k := 3) rfl rfl inX7 tyX7_ok nmX7 (by decide) q41 rfl hname rfl rfl rfl (Nat.le_of_ble_eq_true rfl) dX7_init_33 (fun H locs hP hD hS => ?_)
  have hP : va_P D vwCl [(a_o, .inr (6, [.ref n1, .ref n2, .ref n3, .ref n4, .int 0])), (n1, .inl (cI, 16, .inl (fun _ => 0))), (n2, .inl (cI, 16, .inl (fun _ => 0))), (n3, .inl (cI, 16, .inl (fun _ => 0))), (n4, .inl (cI, 16, .inl (fun _ => 0)))] H := hP
  have hD : va_D A [(a_o, .inr (6, [.ref n1, .ref n2, .ref n3, .ref n4, .int 0])), (n1, .inl (cI, 16, .inl (fun _ => 0))), (n2, .inl (cI, 16, .inl (fun _ => 0))), (n3, .inl (cI, 16, .inl (fun _ => 0))), (n4, .inl (cI, 16, .inl (fun _ => 0)))] := hD
  refine lv_aload_n hx hb dX7_init_36 rfl (lv_at hl 0 rfl) ?_
  refine lv_iconst (v := 0) hx hb dX7_init_37 (by decide) ?_
  refine pf S hE hP hD hS 0 (k := 4) rfl rfl inX7 tyX7_ok nmX7 (by decide) q42 rfl rfl rfl (Nat.le_of_ble_eq_true rfl) dX7_init_38 (fun H locs hP hD hS => ?_)
  have hP : va_P D vwCl [(a_o, .inr (6, [.ref n1, .ref n2, .ref n3, .ref n4, .int 0])), (n1, .inl (cI, 16, .inl (fun _ => 0))), (n2, .inl (cI, 16, .inl (fun _ => 0))), (n3, .inl (cI, 16, .inl (fun _ => 0))), (n4, .inl (cI, 16, .inl (fun _ => 0)))] H := hP
  have hD : va_D A [(a_o, .inr (6, [.ref n1, .ref n2, .ref n3, .ref n4, .int 0])), (n1, .inl (cI, 16, .inl (fun _ => 0))), (n2, .inl (cI, 16, .inl (fun _ => 0))), (n3, .inl (cI, 16, .inl (fun _ => 0))), (n4, .inl (cI, 16, .inl (fun _ => 0)))] := hD
  refine W.widen (k := 4) (n := 64) (Nat.le_of_ble_eq_true rfl) (Nat.le_of_ble_eq_true rfl) ?_
  exact W.vret hx hb hr (fun t ht _ => ⟨⟨(n1, n2, n3, n4), rfl, trivial, hPt hP ht, hD⟩, hS.F ht⟩) hS.2.2 dX7_init_41
/-! X8_init -/
abbrev bX8 (a_o : Nat) : va_W := [(a_o, .inr (7, [.null, .null, .null, .int 0]))]
abbrev kX8_init (cI cJ cS : ClassId) (a_o n1 n2 n3 : Nat) : va_W := [(a_o, .inr (7, [.ref n1, .ref n2, .ref n3, .int 0])), (n1, .inl (cI, 72, .inl (fun _ => 0))), (n2, .inl (cI, 72, .inl (fun _ => 0))), (n3, .inl (cI, 6, .inl (fun _ => 0)))]
theorem x8b_ok : ∀ j, j < 4 → defaultValue (tyX8 j) = vp_V [.null, .null, .null, .int 0] j := by decide +kernel
set_option maxHeartbeats 4000000 in
set_option maxRecDepth 100000 in
theorem c_X8_init {l : Launch} {D : va_G} {cI cJ cS : ClassId} {ad adK : Nat → Nat} {a_o : Nat} {sz : Nat} : Met l yX8_init (Cond.code yX8_init cX8_init 1 none :: GW) (rmd 1 3 150) (PW D cI cJ cS ad adK [.ref a_o] (bX8 a_o) sz) (va_Qv (fun _ : Nat × Nat × Nat => True) (fun u t => va_P D vwCl (kX8_init cI cJ cS a_o u.1 u.2.1 u.2.2) t.heap ∧ va_D (va_A (bX8 a_o) sz) (kX8_init cI cJ cS a_o u.1 u.2.1 u.2.2)) (va_A (bX8 a_o) sz)) 3 150 (va_A (bX8 a_o) sz) := by
  refine Met.rw (Qc := fun A => (va_Qv (fun _ : Nat × Nat × Nat => True) (fun u t => va_P D vwCl (kX8_init cI cJ cS a_o u.1 u.2.1 u.2.2) t.heap ∧ va_D A (kX8_init cI cJ cS a_o u.1 u.2.1 u.2.2)) A)) (by decide) (Nat.le_of_ble_eq_true rfl) (fun p e s m args below meth c ls A (S : CallFix p m c cX8_init 1 s args GW "RoadThatSings$Tunes") hE hT hP hD hA hS hr hlocks hname hl => ?_)
  have hx := S.1
  have hb := S.2.1
  have hl : lv_has ls 1 [(0, .ref a_o)] := hl
  have hname : meth.name = "<init>" := hname
  refine lv_aload_n hx hb dX8_init_0 rfl (lv_at hl 0 rfl) ?_
  refine oin S q79 q24 q25 (lz hl) dX8_init_1 (by decide) (by decide) ?_
  refine lv_aload_n hx hb dX8_init_4 rfl (lv_at hl 0 rfl) ?_
  refine lv_bipush (v := 72) hx hb dX8_init_5 (by decide) ?_
  refine newI S hE hP hD hS hA (N' := 72) (by decide) (by decide) (by decide) (Nat.le_of_ble_eq_true rfl) (Nat.le_of_ble_eq_true rfl) dX8_init_7 (fun n1 H hP hD hS => ?_)
  have hP : va_P D vwCl [(a_o, .inr (7, [.null, .null, .null, .int 0])), (n1, .inl (cI, 72, .inl (fun _ => 0)))] H := hP
  have hD : va_D A [(a_o, .inr (7, [.null, .null, .null, .int 0])), (n1, .inl (cI, 72, .inl (fun _ => 0)))] := hD
  refine pfF S hE hP hD hS 0 (k := 0) rfl rfl inX8 tyX8_ok nmX8 (by decide) q80 rfl hname rfl rfl rfl (Nat.le_of_ble_eq_true rfl) dX8_init_9 (fun H locs hP hD hS => ?_)
  have hP : va_P D vwCl [(a_o, .inr (7, [.ref n1, .null, .null, .int 0])), (n1, .inl (cI, 72, .inl (fun _ => 0)))] H := hP
  have hD : va_D A [(a_o, .inr (7, [.ref n1, .null, .null, .int 0])), (n1, .inl (cI, 72, .inl (fun _ => 0)))] := hD
  refine lv_aload_n hx hb dX8_init_12 rfl (lv_at hl 0 rfl) ?_
  refine lv_bipush (v := 72) hx hb dX8_init_13 (by decide) ?_
  refine newI S hE hP hD hS hA (N' := 72) (by decide) (by decide) (by decide) (Nat.le_of_ble_eq_true rfl) (Nat.le_of_ble_eq_true rfl) dX8_init_15 (fun n2 H hP hD hS => ?_)
  have hP : va_P D vwCl [(a_o, .inr (7, [.ref n1, .null, .null, .int 0])), (n1, .inl (cI, 72, .inl (fun _ => 0))), (n2, .inl (cI, 72, .inl (fun _ => 0)))] H := hP
  have hD : va_D A [(a_o, .inr (7, [.ref n1, .null, .null, .int 0])), (n1, .inl (cI, 72, .inl (fun _ => 0))), (n2, .inl (cI, 72, .inl (fun _ => 0)))] := hD
  refine pfF S hE hP hD hS 0 (k := 1) rfl rfl inX8 tyX8_ok nmX8 (by decide) q81 rfl hname rfl rfl rfl (Nat.le_of_ble_eq_true rfl) dX8_init_17 (fun H locs hP hD hS => ?_)
  have hP : va_P D vwCl [(a_o, .inr (7, [.ref n1, .ref n2, .null, .int 0])), (n1, .inl (cI, 72, .inl (fun _ => 0))), (n2, .inl (cI, 72, .inl (fun _ => 0)))] H := hP
  have hD : va_D A [(a_o, .inr (7, [.ref n1, .ref n2, .null, .int 0])), (n1, .inl (cI, 72, .inl (fun _ => 0))), (n2, .inl (cI, 72, .inl (fun _ => 0)))] := hD
  refine lv_aload_n hx hb dX8_init_20 rfl (lv_at hl 0 rfl) ?_
  refine lv_bipush (v := 6) hx hb dX8_init_21 (by decide) ?_
  refine newI S hE hP hD hS hA (N' := 6) (by decide) (by decide) (by decide) (Nat.le_of_ble_eq_true rfl) (Nat.le_of_ble_eq_true rfl) dX8_init_23 (fun n3 H hP hD hS => ?_)
  have hP : va_P D vwCl [(a_o, .inr (7, [.ref n1, .ref n2, .null, .int 0])), (n1, .inl (cI, 72, .inl (fun _ => 0))), (n2, .inl (cI, 72, .inl (fun _ => 0))), (n3, .inl (cI, 6, .inl (fun _ => 0)))] H := hP
  have hD : va_D A [(a_o, .inr (7, [.ref n1, .ref n2, .null, .int 0])), (n1, .inl (cI, 72, .inl (fun _ => 0))), (n2, .inl (cI, 72, .inl (fun _ => 0))), (n3, .inl (cI, 6, .inl (fun _ => 0)))] := hD
  refine pfF S hE hP hD hS 0 (k := 2) rfl rfl inX8 tyX8_ok nmX8 (by decide) q82 rfl hname rfl rfl rfl (Nat.le_of_ble_eq_true rfl) dX8_init_25 (fun H locs hP hD hS => ?_)
  have hP : va_P D vwCl [(a_o, .inr (7, [.ref n1, .ref n2, .ref n3, .int 0])), (n1, .inl (cI, 72, .inl (fun _ => 0))), (n2, .inl (cI, 72, .inl (fun _ => 0))), (n3, .inl (cI, 6, .inl (fun _ => 0)))] H := hP
  have hD : va_D A [(a_o, .inr (7, [.ref n1, .ref n2, .ref n3, .int 0])), (n1, .inl (cI, 72, .inl (fun _ => 0))), (n2, .inl (cI, 72, .inl (fun _ => 0))), (n3, .inl (cI, 6, .inl (fun _ => 0)))] := hD
  refine lv_aload_n hx hb dX8_init_28 rfl (lv_at hl 0 rfl) ?_
  refine lv_iconst (v := 0) hx hb dX8_init_29 (by decide) ?_
  refine pf S hE hP hD hS 0 (k := 3) rfl rfl inX8 tyX8_ok nmX8 (by decide) q83 rfl rfl rfl (Nat.le_of_ble_eq_true rfl) dX8_init_30 (fun H locs hP hD hS => ?_)
  have hP : va_P D vwCl [(a_o, .inr (7, [.ref n1, .ref n2, .ref n3, .int 0])), (n1, .inl (cI, 72, .inl (fun _ => 0))), (n2, .inl (cI, 72, .inl (fun _ => 0))), (n3, .inl (cI, 6, .inl (fun _ => 0)))] H := hP
  have hD : va_D A [(a_o, .inr (7, [.ref n1, .ref n2, .ref n3, .int 0])), (n1, .inl (cI, 72, .inl (fun _ => 0))), (n2, .inl (cI, 72, .inl (fun _ => 0))), (n3, .inl (cI, 6, .inl (fun _ => 0)))] := hD
  refine W.widen (k := 3) (n := 150) (Nat.le_of_ble_eq_true rfl) (Nat.le_of_ble_eq_true rfl) ?_
  exact W.vret hx hb hr (fun t ht _ => ⟨⟨(n1, n2, n3), rfl, trivial, hPt hP ht, hD⟩, hS.F ht⟩) hS.2.2 dX8_init_33
/-! X5_init -/
def uX5_n14_0 : Nat → Int32 := upd (fun _ => 0) (0 : Int32).toNatClampNeg 2000
def uX5_n14_1 : Nat → Int32 := upd uX5_n14_0 (1 : Int32).toNatClampNeg 4
def uX5_n14_2 : Nat → Int32 := upd uX5_n14_1 (2 : Int32).toNatClampNeg 20
def uX5_n14_3 : Nat → Int32 := upd uX5_n14_2 (3 : Int32).toNatClampNeg 200
abbrev bX5 (a_o : Nat) : va_W := [(a_o, .inr (4, [.null, .null, .null, .null, .int 0]))]
abbrev kX5_init (cI cJ cS : ClassId) (a_o n1 n2 n3 n4 n5 n6 n7 n8 n9 n10 n11 n12 n13 n14 : Nat) : va_W := [(a_o, .inr (4, [.ref n1, .ref n6, .ref n10, .ref n14, .int 1])), (n1, .inr (6, [.ref n2, .ref n3, .ref n4, .ref n5, .int 0])), (n2, .inl (cI, 16, .inl (fun _ => 0))), (n3, .inl (cI, 16, .inl (fun _ => 0))), (n4, .inl (cI, 16, .inl (fun _ => 0))), (n5, .inl (cI, 16, .inl (fun _ => 0))), (n6, .inr (1, [.ref n7, .ref n8, .ref n9, .int 0])), (n7, .inl (cI, 6, .inl (fun _ => 0))), (n8, .inl (cI, 6, .inl (fun _ => 0))), (n9, .inl (cI, 6, .inl (fun _ => 0))), (n10, .inr (7, [.ref n11, .ref n12, .ref n13, .int 0])), (n11, .inl (cI, 72, .inl (fun _ => 0))), (n12, .inl (cI, 72, .inl (fun _ => 0))), (n13, .inl (cI, 6, .inl (fun _ => 0))), (n14, .inl (cI, 4, .inl uX5_n14_3))]
theorem x5b_ok : ∀ j, j < 5 → defaultValue (tyX5 j) = vp_V [.null, .null, .null, .null, .int 0] j := by decide +kernel
set_option maxHeartbeats 4000000 in
set_option maxRecDepth 100000 in
theorem c_X5_init {l : Launch} {D : va_G} {cI cJ cS : ClassId} {ad adK : Nat → Nat} {a_o : Nat} {sz : Nat} : Met l yX5_init (Cond.code yX5_init cX5_init 1 none :: GW) (rmd 2 14 249) (PW D cI cJ cS ad adK [.ref a_o] (bX5 a_o) sz) (va_Qv (fun _ : Nat × Nat × Nat × Nat × Nat × Nat × Nat × Nat × Nat × Nat × Nat × Nat × Nat × Nat => True) (fun u t => va_P D vwCl (kX5_init cI cJ cS a_o u.1 u.2.1 u.2.2.1 u.2.2.2.1 u.2.2.2.2.1 u.2.2.2.2.2.1 u.2.2.2.2.2.2.1 u.2.2.2.2.2.2.2.1 u.2.2.2.2.2.2.2.2.1 u.2.2.2.2.2.2.2.2.2.1 u.2.2.2.2.2.2.2.2.2.2.1 u.2.2.2.2.2.2.2.2.2.2.2.1 u.2.2.2.2.2.2.2.2.2.2.2.2.1 u.2.2.2.2.2.2.2.2.2.2.2.2.2) t.heap ∧ va_D (va_A (bX5 a_o) sz) (kX5_init cI cJ cS a_o u.1 u.2.1 u.2.2.1 u.2.2.2.1 u.2.2.2.2.1 u.2.2.2.2.2.1 u.2.2.2.2.2.2.1 u.2.2.2.2.2.2.2.1 u.2.2.2.2.2.2.2.2.1 u.2.2.2.2.2.2.2.2.2.1 u.2.2.2.2.2.2.2.2.2.2.1 u.2.2.2.2.2.2.2.2.2.2.2.1 u.2.2.2.2.2.2.2.2.2.2.2.2.1 u.2.2.2.2.2.2.2.2.2.2.2.2.2)) (va_A (bX5 a_o) sz)) 14 249 (va_A (bX5 a_o) sz) := by
  refine Met.rw (Qc := fun A => (va_Qv (fun _ : Nat × Nat × Nat × Nat × Nat × Nat × Nat × Nat × Nat × Nat × Nat × Nat × Nat × Nat => True) (fun u t => va_P D vwCl (kX5_init cI cJ cS a_o u.1 u.2.1 u.2.2.1 u.2.2.2.1 u.2.2.2.2.1 u.2.2.2.2.2.1 u.2.2.2.2.2.2.1 u.2.2.2.2.2.2.2.1 u.2.2.2.2.2.2.2.2.1 u.2.2.2.2.2.2.2.2.2.1 u.2.2.2.2.2.2.2.2.2.2.1 u.2.2.2.2.2.2.2.2.2.2.2.1 u.2.2.2.2.2.2.2.2.2.2.2.2.1 u.2.2.2.2.2.2.2.2.2.2.2.2.2) t.heap ∧ va_D A (kX5_init cI cJ cS a_o u.1 u.2.1 u.2.2.1 u.2.2.2.1 u.2.2.2.2.1 u.2.2.2.2.2.1 u.2.2.2.2.2.2.1 u.2.2.2.2.2.2.2.1 u.2.2.2.2.2.2.2.2.1 u.2.2.2.2.2.2.2.2.2.1 u.2.2.2.2.2.2.2.2.2.2.1 u.2.2.2.2.2.2.2.2.2.2.2.1 u.2.2.2.2.2.2.2.2.2.2.2.2.1 u.2.2.2.2.2.2.2.2.2.2.2.2.2)) A)) (by decide) (Nat.le_of_ble_eq_true rfl) (fun p e s m args below meth c ls A (S : CallFix p m c cX5_init 1 s args GW "RoadThatSings$Road") hE hT hP hD hA hS hr hlocks hname hl => ?_)
  have hx := S.1
  have hb := S.2.1
  have hl : lv_has ls 1 [(0, .ref a_o)] := hl
  have hname : meth.name = "<init>" := hname
  refine lv_aload_n hx hb dX5_init_0 rfl (lv_at hl 0 rfl) ?_
  refine oin S q31 q24 q25 (lz hl) dX5_init_1 (by decide) (by decide) ?_
  refine lv_aload_n hx hb dX5_init_4 rfl (lv_at hl 0 rfl) ?_
  refine newO S hE hP hD hS hA (ci := 6) (N := 5) rfl inX7 tyX7_ok q32 q33 q3 [.null, .null, .null, .null, .int 0] x7b_ok (Nat.le_of_ble_eq_true rfl) (Nat.le_of_ble_eq_true rfl) dX5_init_5 (fun n1 H hP hD hS => ?_)
  have hP : va_P D vwCl [(a_o, .inr (4, [.null, .null, .null, .null, .int 0])), (n1, .inr (6, [.null, .null, .null, .null, .int 0]))] H := hP
  have hD : va_D A [(a_o, .inr (4, [.null, .null, .null, .null, .int 0])), (n1, .inr (6, [.null, .null, .null, .null, .int 0]))] := hD
  refine lv_dup hx hb dX5_init_8 rfl ?_
  have hPs : va_P D vwCl ([(a_o, .inr (4, [.null, .null, .null, .null, .int 0]))] ++ [(n1, .inr (6, [.null, .null, .null, .null, .int 0]))]) H := hP
  have hDs : va_D A ([(a_o, .inr (4, [.null, .null, .null, .null, .int 0]))] ++ [(n1, .inr (6, [.null, .null, .null, .null, .int 0]))]) := hD
  refine rw_c (rwJ S hE hT hS hPs hDs hA (c_X7_init) lcX5_11 rfl ⟨by decide, by decide⟩ (lz hl) rfl (Nat.le_of_ble_eq_true rfl) dX5_init_9 ⟨Nat.le_of_ble_eq_true rfl, Nat.le_of_ble_eq_true rfl⟩) hPs hDs hS hA (fun u H locs _ hP hD hS => ?_)
  obtain ⟨n2, n3, n4, n5⟩ := u
  have hP : va_P D vwCl [(a_o, .inr (4, [.null, .null, .null, .null, .int 0])), (n1, .inr (6, [.ref n2, .ref n3, .ref n4, .ref n5, .int 0])), (n2, .inl (cI, 16, .inl (fun _ => 0))), (n3, .inl (cI, 16, .inl (fun _ => 0))), (n4, .inl (cI, 16, .inl (fun _ => 0))), (n5, .inl (cI, 16, .inl (fun _ => 0)))] H := hP
  have hD : va_D A [(a_o, .inr (4, [.null, .null, .null, .null, .int 0])), (n1, .inr (6, [.ref n2, .ref n3, .ref n4, .ref n5, .int 0])), (n2, .inl (cI, 16, .inl (fun _ => 0))), (n3, .inl (cI, 16, .inl (fun _ => 0))), (n4, .inl (cI, 16, .inl (fun _ => 0))), (n5, .inl (cI, 16, .inl (fun _ => 0)))] := hD
  refine pfF S hE hP hD hS 0 (k := 0) rfl rfl inX5 tyX5_ok nmX5 (by decide) q93 rfl hname rfl rfl rfl (Nat.le_of_ble_eq_true rfl) dX5_init_12 (fun H locs hP hD hS => ?_)
  have hP : va_P D vwCl [(a_o, .inr (4, [.ref n1, .null, .null, .null, .int 0])), (n1, .inr (6, [.ref n2, .ref n3, .ref n4, .ref n5, .int 0])), (n2, .inl (cI, 16, .inl (fun _ => 0))), (n3, .inl (cI, 16, .inl (fun _ => 0))), (n4, .inl (cI, 16, .inl (fun _ => 0))), (n5, .inl (cI, 16, .inl (fun _ => 0)))] H := hP
  have hD : va_D A [(a_o, .inr (4, [.ref n1, .null, .null, .null, .int 0])), (n1, .inr (6, [.ref n2, .ref n3, .ref n4, .ref n5, .int 0])), (n2, .inl (cI, 16, .inl (fun _ => 0))), (n3, .inl (cI, 16, .inl (fun _ => 0))), (n4, .inl (cI, 16, .inl (fun _ => 0))), (n5, .inl (cI, 16, .inl (fun _ => 0)))] := hD
  refine lv_aload_n hx hb dX5_init_15 rfl (lv_at hl 0 rfl) ?_
  refine newO S hE hP hD hS hA (ci := 1) (N := 4) rfl inX1 tyX1_ok q55 q56 q4 [.null, .null, .null, .int 0] x1b_ok (Nat.le_of_ble_eq_true rfl) (Nat.le_of_ble_eq_true rfl) dX5_init_16 (fun n6 H hP hD hS => ?_)
  have hP : va_P D vwCl [(a_o, .inr (4, [.ref n1, .null, .null, .null, .int 0])), (n1, .inr (6, [.ref n2, .ref n3, .ref n4, .ref n5, .int 0])), (n2, .inl (cI, 16, .inl (fun _ => 0))), (n3, .inl (cI, 16, .inl (fun _ => 0))), (n4, .inl (cI, 16, .inl (fun _ => 0))), (n5, .inl (cI, 16, .inl (fun _ => 0))), (n6, .inr (1, [.null, .null, .null, .int 0]))] H := hP
  have hD : va_D A [(a_o, .inr (4, [.ref n1, .null, .null, .null, .int 0])), (n1, .inr (6, [.ref n2, .ref n3, .ref n4, .ref n5, .int 0])), (n2, .inl (cI, 16, .inl (fun _ => 0))), (n3, .inl (cI, 16, .inl (fun _ => 0))), (n4, .inl (cI, 16, .inl (fun _ => 0))), (n5, .inl (cI, 16, .inl (fun _ => 0))), (n6, .inr (1, [.null, .null, .null, .int 0]))] := hD
  refine lv_dup hx hb dX5_init_19 rfl ?_
  have hPs : va_P D vwCl ([(a_o, .inr (4, [.ref n1, .null, .null, .null, .int 0])), (n1, .inr (6, [.ref n2, .ref n3, .ref n4, .ref n5, .int 0])), (n2, .inl (cI, 16, .inl (fun _ => 0))), (n3, .inl (cI, 16, .inl (fun _ => 0))), (n4, .inl (cI, 16, .inl (fun _ => 0))), (n5, .inl (cI, 16, .inl (fun _ => 0)))] ++ [(n6, .inr (1, [.null, .null, .null, .int 0]))]) H := hP
  have hDs : va_D A ([(a_o, .inr (4, [.ref n1, .null, .null, .null, .int 0])), (n1, .inr (6, [.ref n2, .ref n3, .ref n4, .ref n5, .int 0])), (n2, .inl (cI, 16, .inl (fun _ => 0))), (n3, .inl (cI, 16, .inl (fun _ => 0))), (n4, .inl (cI, 16, .inl (fun _ => 0))), (n5, .inl (cI, 16, .inl (fun _ => 0)))] ++ [(n6, .inr (1, [.null, .null, .null, .int 0]))]) := hD
  refine rw_c (rwJ S hE hT hS hPs hDs hA (c_X1_init) lcX5_20 rfl ⟨by decide, by decide⟩ (lz hl) rfl (Nat.le_of_ble_eq_true rfl) dX5_init_20 ⟨Nat.le_of_ble_eq_true rfl, Nat.le_of_ble_eq_true rfl⟩) hPs hDs hS hA (fun u H locs _ hP hD hS => ?_)
  obtain ⟨n7, n8, n9⟩ := u
  have hP : va_P D vwCl [(a_o, .inr (4, [.ref n1, .null, .null, .null, .int 0])), (n1, .inr (6, [.ref n2, .ref n3, .ref n4, .ref n5, .int 0])), (n2, .inl (cI, 16, .inl (fun _ => 0))), (n3, .inl (cI, 16, .inl (fun _ => 0))), (n4, .inl (cI, 16, .inl (fun _ => 0))), (n5, .inl (cI, 16, .inl (fun _ => 0))), (n6, .inr (1, [.ref n7, .ref n8, .ref n9, .int 0])), (n7, .inl (cI, 6, .inl (fun _ => 0))), (n8, .inl (cI, 6, .inl (fun _ => 0))), (n9, .inl (cI, 6, .inl (fun _ => 0)))] H := hP
  have hD : va_D A [(a_o, .inr (4, [.ref n1, .null, .null, .null, .int 0])), (n1, .inr (6, [.ref n2, .ref n3, .ref n4, .ref n5, .int 0])), (n2, .inl (cI, 16, .inl (fun _ => 0))), (n3, .inl (cI, 16, .inl (fun _ => 0))), (n4, .inl (cI, 16, .inl (fun _ => 0))), (n5, .inl (cI, 16, .inl (fun _ => 0))), (n6, .inr (1, [.ref n7, .ref n8, .ref n9, .int 0])), (n7, .inl (cI, 6, .inl (fun _ => 0))), (n8, .inl (cI, 6, .inl (fun _ => 0))), (n9, .inl (cI, 6, .inl (fun _ => 0)))] := hD
  refine pfF S hE hP hD hS 0 (k := 1) rfl rfl inX5 tyX5_ok nmX5 (by decide) q96 rfl hname rfl rfl rfl (Nat.le_of_ble_eq_true rfl) dX5_init_23 (fun H locs hP hD hS => ?_)
  have hP : va_P D vwCl [(a_o, .inr (4, [.ref n1, .ref n6, .null, .null, .int 0])), (n1, .inr (6, [.ref n2, .ref n3, .ref n4, .ref n5, .int 0])), (n2, .inl (cI, 16, .inl (fun _ => 0))), (n3, .inl (cI, 16, .inl (fun _ => 0))), (n4, .inl (cI, 16, .inl (fun _ => 0))), (n5, .inl (cI, 16, .inl (fun _ => 0))), (n6, .inr (1, [.ref n7, .ref n8, .ref n9, .int 0])), (n7, .inl (cI, 6, .inl (fun _ => 0))), (n8, .inl (cI, 6, .inl (fun _ => 0))), (n9, .inl (cI, 6, .inl (fun _ => 0)))] H := hP
  have hD : va_D A [(a_o, .inr (4, [.ref n1, .ref n6, .null, .null, .int 0])), (n1, .inr (6, [.ref n2, .ref n3, .ref n4, .ref n5, .int 0])), (n2, .inl (cI, 16, .inl (fun _ => 0))), (n3, .inl (cI, 16, .inl (fun _ => 0))), (n4, .inl (cI, 16, .inl (fun _ => 0))), (n5, .inl (cI, 16, .inl (fun _ => 0))), (n6, .inr (1, [.ref n7, .ref n8, .ref n9, .int 0])), (n7, .inl (cI, 6, .inl (fun _ => 0))), (n8, .inl (cI, 6, .inl (fun _ => 0))), (n9, .inl (cI, 6, .inl (fun _ => 0)))] := hD
  refine lv_aload_n hx hb dX5_init_26 rfl (lv_at hl 0 rfl) ?_
  refine newO S hE hP hD hS hA (ci := 7) (N := 4) rfl inX8 tyX8_ok q74 q75 q5 [.null, .null, .null, .int 0] x8b_ok (Nat.le_of_ble_eq_true rfl) (Nat.le_of_ble_eq_true rfl) dX5_init_27 (fun n10 H hP hD hS => ?_)
  have hP : va_P D vwCl [(a_o, .inr (4, [.ref n1, .ref n6, .null, .null, .int 0])), (n1, .inr (6, [.ref n2, .ref n3, .ref n4, .ref n5, .int 0])), (n2, .inl (cI, 16, .inl (fun _ => 0))), (n3, .inl (cI, 16, .inl (fun _ => 0))), (n4, .inl (cI, 16, .inl (fun _ => 0))), (n5, .inl (cI, 16, .inl (fun _ => 0))), (n6, .inr (1, [.ref n7, .ref n8, .ref n9, .int 0])), (n7, .inl (cI, 6, .inl (fun _ => 0))), (n8, .inl (cI, 6, .inl (fun _ => 0))), (n9, .inl (cI, 6, .inl (fun _ => 0))), (n10, .inr (7, [.null, .null, .null, .int 0]))] H := hP
  have hD : va_D A [(a_o, .inr (4, [.ref n1, .ref n6, .null, .null, .int 0])), (n1, .inr (6, [.ref n2, .ref n3, .ref n4, .ref n5, .int 0])), (n2, .inl (cI, 16, .inl (fun _ => 0))), (n3, .inl (cI, 16, .inl (fun _ => 0))), (n4, .inl (cI, 16, .inl (fun _ => 0))), (n5, .inl (cI, 16, .inl (fun _ => 0))), (n6, .inr (1, [.ref n7, .ref n8, .ref n9, .int 0])), (n7, .inl (cI, 6, .inl (fun _ => 0))), (n8, .inl (cI, 6, .inl (fun _ => 0))), (n9, .inl (cI, 6, .inl (fun _ => 0))), (n10, .inr (7, [.null, .null, .null, .int 0]))] := hD
  refine lv_dup hx hb dX5_init_30 rfl ?_
  have hPs : va_P D vwCl ([(a_o, .inr (4, [.ref n1, .ref n6, .null, .null, .int 0])), (n1, .inr (6, [.ref n2, .ref n3, .ref n4, .ref n5, .int 0])), (n2, .inl (cI, 16, .inl (fun _ => 0))), (n3, .inl (cI, 16, .inl (fun _ => 0))), (n4, .inl (cI, 16, .inl (fun _ => 0))), (n5, .inl (cI, 16, .inl (fun _ => 0))), (n6, .inr (1, [.ref n7, .ref n8, .ref n9, .int 0])), (n7, .inl (cI, 6, .inl (fun _ => 0))), (n8, .inl (cI, 6, .inl (fun _ => 0))), (n9, .inl (cI, 6, .inl (fun _ => 0)))] ++ [(n10, .inr (7, [.null, .null, .null, .int 0]))]) H := hP
  have hDs : va_D A ([(a_o, .inr (4, [.ref n1, .ref n6, .null, .null, .int 0])), (n1, .inr (6, [.ref n2, .ref n3, .ref n4, .ref n5, .int 0])), (n2, .inl (cI, 16, .inl (fun _ => 0))), (n3, .inl (cI, 16, .inl (fun _ => 0))), (n4, .inl (cI, 16, .inl (fun _ => 0))), (n5, .inl (cI, 16, .inl (fun _ => 0))), (n6, .inr (1, [.ref n7, .ref n8, .ref n9, .int 0])), (n7, .inl (cI, 6, .inl (fun _ => 0))), (n8, .inl (cI, 6, .inl (fun _ => 0))), (n9, .inl (cI, 6, .inl (fun _ => 0)))] ++ [(n10, .inr (7, [.null, .null, .null, .int 0]))]) := hD
  refine rw_c (rwJ S hE hT hS hPs hDs hA (c_X8_init) lcX5_27 rfl ⟨by decide, by decide⟩ (lz hl) rfl (Nat.le_of_ble_eq_true rfl) dX5_init_31 ⟨Nat.le_of_ble_eq_true rfl, Nat.le_of_ble_eq_true rfl⟩) hPs hDs hS hA (fun u H locs _ hP hD hS => ?_)
  obtain ⟨n11, n12, n13⟩ := u
  have hP : va_P D vwCl [(a_o, .inr (4, [.ref n1, .ref n6, .null, .null, .int 0])), (n1, .inr (6, [.ref n2, .ref n3, .ref n4, .ref n5, .int 0])), (n2, .inl (cI, 16, .inl (fun _ => 0))), (n3, .inl (cI, 16, .inl (fun _ => 0))), (n4, .inl (cI, 16, .inl (fun _ => 0))), (n5, .inl (cI, 16, .inl (fun _ => 0))), (n6, .inr (1, [.ref n7, .ref n8, .ref n9, .int 0])), (n7, .inl (cI, 6, .inl (fun _ => 0))), (n8, .inl (cI, 6, .inl (fun _ => 0))), (n9, .inl (cI, 6, .inl (fun _ => 0))), (n10, .inr (7, [.ref n11, .ref n12, .ref n13, .int 0])), (n11, .inl (cI, 72, .inl (fun _ => 0))), (n12, .inl (cI, 72, .inl (fun _ => 0))), (n13, .inl (cI, 6, .inl (fun _ => 0)))] H := hP
  have hD : va_D A [(a_o, .inr (4, [.ref n1, .ref n6, .null, .null, .int 0])), (n1, .inr (6, [.ref n2, .ref n3, .ref n4, .ref n5, .int 0])), (n2, .inl (cI, 16, .inl (fun _ => 0))), (n3, .inl (cI, 16, .inl (fun _ => 0))), (n4, .inl (cI, 16, .inl (fun _ => 0))), (n5, .inl (cI, 16, .inl (fun _ => 0))), (n6, .inr (1, [.ref n7, .ref n8, .ref n9, .int 0])), (n7, .inl (cI, 6, .inl (fun _ => 0))), (n8, .inl (cI, 6, .inl (fun _ => 0))), (n9, .inl (cI, 6, .inl (fun _ => 0))), (n10, .inr (7, [.ref n11, .ref n12, .ref n13, .int 0])), (n11, .inl (cI, 72, .inl (fun _ => 0))), (n12, .inl (cI, 72, .inl (fun _ => 0))), (n13, .inl (cI, 6, .inl (fun _ => 0)))] := hD
  refine pfF S hE hP hD hS 0 (k := 2) rfl rfl inX5 tyX5_ok nmX5 (by decide) q99 rfl hname rfl rfl rfl (Nat.le_of_ble_eq_true rfl) dX5_init_34 (fun H locs hP hD hS => ?_)
  have hP : va_P D vwCl [(a_o, .inr (4, [.ref n1, .ref n6, .ref n10, .null, .int 0])), (n1, .inr (6, [.ref n2, .ref n3, .ref n4, .ref n5, .int 0])), (n2, .inl (cI, 16, .inl (fun _ => 0))), (n3, .inl (cI, 16, .inl (fun _ => 0))), (n4, .inl (cI, 16, .inl (fun _ => 0))), (n5, .inl (cI, 16, .inl (fun _ => 0))), (n6, .inr (1, [.ref n7, .ref n8, .ref n9, .int 0])), (n7, .inl (cI, 6, .inl (fun _ => 0))), (n8, .inl (cI, 6, .inl (fun _ => 0))), (n9, .inl (cI, 6, .inl (fun _ => 0))), (n10, .inr (7, [.ref n11, .ref n12, .ref n13, .int 0])), (n11, .inl (cI, 72, .inl (fun _ => 0))), (n12, .inl (cI, 72, .inl (fun _ => 0))), (n13, .inl (cI, 6, .inl (fun _ => 0)))] H := hP
  have hD : va_D A [(a_o, .inr (4, [.ref n1, .ref n6, .ref n10, .null, .int 0])), (n1, .inr (6, [.ref n2, .ref n3, .ref n4, .ref n5, .int 0])), (n2, .inl (cI, 16, .inl (fun _ => 0))), (n3, .inl (cI, 16, .inl (fun _ => 0))), (n4, .inl (cI, 16, .inl (fun _ => 0))), (n5, .inl (cI, 16, .inl (fun _ => 0))), (n6, .inr (1, [.ref n7, .ref n8, .ref n9, .int 0])), (n7, .inl (cI, 6, .inl (fun _ => 0))), (n8, .inl (cI, 6, .inl (fun _ => 0))), (n9, .inl (cI, 6, .inl (fun _ => 0))), (n10, .inr (7, [.ref n11, .ref n12, .ref n13, .int 0])), (n11, .inl (cI, 72, .inl (fun _ => 0))), (n12, .inl (cI, 72, .inl (fun _ => 0))), (n13, .inl (cI, 6, .inl (fun _ => 0)))] := hD
  refine lv_aload_n hx hb dX5_init_37 rfl (lv_at hl 0 rfl) ?_
  refine lv_iconst (v := 4) hx hb dX5_init_38 (by decide) ?_
  refine newI S hE hP hD hS hA (N' := 4) (by decide) (by decide) (by decide) (Nat.le_of_ble_eq_true rfl) (Nat.le_of_ble_eq_true rfl) dX5_init_39 (fun n14 H hP hD hS => ?_)
  have hP : va_P D vwCl [(a_o, .inr (4, [.ref n1, .ref n6, .ref n10, .null, .int 0])), (n1, .inr (6, [.ref n2, .ref n3, .ref n4, .ref n5, .int 0])), (n2, .inl (cI, 16, .inl (fun _ => 0))), (n3, .inl (cI, 16, .inl (fun _ => 0))), (n4, .inl (cI, 16, .inl (fun _ => 0))), (n5, .inl (cI, 16, .inl (fun _ => 0))), (n6, .inr (1, [.ref n7, .ref n8, .ref n9, .int 0])), (n7, .inl (cI, 6, .inl (fun _ => 0))), (n8, .inl (cI, 6, .inl (fun _ => 0))), (n9, .inl (cI, 6, .inl (fun _ => 0))), (n10, .inr (7, [.ref n11, .ref n12, .ref n13, .int 0])), (n11, .inl (cI, 72, .inl (fun _ => 0))), (n12, .inl (cI, 72, .inl (fun _ => 0))), (n13, .inl (cI, 6, .inl (fun _ => 0))), (n14, .inl (cI, 4, .inl (fun _ => 0)))] H := hP
  have hD : va_D A [(a_o, .inr (4, [.ref n1, .ref n6, .ref n10, .null, .int 0])), (n1, .inr (6, [.ref n2, .ref n3, .ref n4, .ref n5, .int 0])), (n2, .inl (cI, 16, .inl (fun _ => 0))), (n3, .inl (cI, 16, .inl (fun _ => 0))), (n4, .inl (cI, 16, .inl (fun _ => 0))), (n5, .inl (cI, 16, .inl (fun _ => 0))), (n6, .inr (1, [.ref n7, .ref n8, .ref n9, .int 0])), (n7, .inl (cI, 6, .inl (fun _ => 0))), (n8, .inl (cI, 6, .inl (fun _ => 0))), (n9, .inl (cI, 6, .inl (fun _ => 0))), (n10, .inr (7, [.ref n11, .ref n12, .ref n13, .int 0])), (n11, .inl (cI, 72, .inl (fun _ => 0))), (n12, .inl (cI, 72, .inl (fun _ => 0))), (n13, .inl (cI, 6, .inl (fun _ => 0))), (n14, .inl (cI, 4, .inl (fun _ => 0)))] := hD
  refine lv_dup hx hb dX5_init_41 rfl ?_
  refine lv_iconst (v := 0) hx hb dX5_init_42 (by decide) ?_
  refine lv_sipush (v := 2000) hx hb dX5_init_43 (by decide) ?_
  refine ias S hE hP hD hS 14 rfl (by unfold vp_in; decide) dX5_init_46 (fun H locs hP hD hS => ?_)
  have hP : va_P D vwCl [(a_o, .inr (4, [.ref n1, .ref n6, .ref n10, .null, .int 0])), (n1, .inr (6, [.ref n2, .ref n3, .ref n4, .ref n5, .int 0])), (n2, .inl (cI, 16, .inl (fun _ => 0))), (n3, .inl (cI, 16, .inl (fun _ => 0))), (n4, .inl (cI, 16, .inl (fun _ => 0))), (n5, .inl (cI, 16, .inl (fun _ => 0))), (n6, .inr (1, [.ref n7, .ref n8, .ref n9, .int 0])), (n7, .inl (cI, 6, .inl (fun _ => 0))), (n8, .inl (cI, 6, .inl (fun _ => 0))), (n9, .inl (cI, 6, .inl (fun _ => 0))), (n10, .inr (7, [.ref n11, .ref n12, .ref n13, .int 0])), (n11, .inl (cI, 72, .inl (fun _ => 0))), (n12, .inl (cI, 72, .inl (fun _ => 0))), (n13, .inl (cI, 6, .inl (fun _ => 0))), (n14, .inl (cI, 4, .inl uX5_n14_0))] H := hP
  have hD : va_D A [(a_o, .inr (4, [.ref n1, .ref n6, .ref n10, .null, .int 0])), (n1, .inr (6, [.ref n2, .ref n3, .ref n4, .ref n5, .int 0])), (n2, .inl (cI, 16, .inl (fun _ => 0))), (n3, .inl (cI, 16, .inl (fun _ => 0))), (n4, .inl (cI, 16, .inl (fun _ => 0))), (n5, .inl (cI, 16, .inl (fun _ => 0))), (n6, .inr (1, [.ref n7, .ref n8, .ref n9, .int 0])), (n7, .inl (cI, 6, .inl (fun _ => 0))), (n8, .inl (cI, 6, .inl (fun _ => 0))), (n9, .inl (cI, 6, .inl (fun _ => 0))), (n10, .inr (7, [.ref n11, .ref n12, .ref n13, .int 0])), (n11, .inl (cI, 72, .inl (fun _ => 0))), (n12, .inl (cI, 72, .inl (fun _ => 0))), (n13, .inl (cI, 6, .inl (fun _ => 0))), (n14, .inl (cI, 4, .inl uX5_n14_0))] := hD
  refine lv_dup hx hb dX5_init_47 rfl ?_
  refine lv_iconst (v := 1) hx hb dX5_init_48 (by decide) ?_
  refine lv_iconst (v := 4) hx hb dX5_init_49 (by decide) ?_
  refine ias S hE hP hD hS 14 rfl (by unfold vp_in; decide) dX5_init_50 (fun H locs hP hD hS => ?_)
  have hP : va_P D vwCl [(a_o, .inr (4, [.ref n1, .ref n6, .ref n10, .null, .int 0])), (n1, .inr (6, [.ref n2, .ref n3, .ref n4, .ref n5, .int 0])), (n2, .inl (cI, 16, .inl (fun _ => 0))), (n3, .inl (cI, 16, .inl (fun _ => 0))), (n4, .inl (cI, 16, .inl (fun _ => 0))), (n5, .inl (cI, 16, .inl (fun _ => 0))), (n6, .inr (1, [.ref n7, .ref n8, .ref n9, .int 0])), (n7, .inl (cI, 6, .inl (fun _ => 0))), (n8, .inl (cI, 6, .inl (fun _ => 0))), (n9, .inl (cI, 6, .inl (fun _ => 0))), (n10, .inr (7, [.ref n11, .ref n12, .ref n13, .int 0])), (n11, .inl (cI, 72, .inl (fun _ => 0))), (n12, .inl (cI, 72, .inl (fun _ => 0))), (n13, .inl (cI, 6, .inl (fun _ => 0))), (n14, .inl (cI, 4, .inl uX5_n14_1))] H := hP
  have hD : va_D A [(a_o, .inr (4, [.ref n1, .ref n6, .ref n10, .null, .int 0])), (n1, .inr (6, [.ref n2, .ref n3, .ref n4, .ref n5, .int 0])), (n2, .inl (cI, 16, .inl (fun _ => 0))), (n3, .inl (cI, 16, .inl (fun _ => 0))), (n4, .inl (cI, 16, .inl (fun _ => 0))), (n5, .inl (cI, 16, .inl (fun _ => 0))), (n6, .inr (1, [.ref n7, .ref n8, .ref n9, .int 0])), (n7, .inl (cI, 6, .inl (fun _ => 0))), (n8, .inl (cI, 6, .inl (fun _ => 0))), (n9, .inl (cI, 6, .inl (fun _ => 0))), (n10, .inr (7, [.ref n11, .ref n12, .ref n13, .int 0])), (n11, .inl (cI, 72, .inl (fun _ => 0))), (n12, .inl (cI, 72, .inl (fun _ => 0))), (n13, .inl (cI, 6, .inl (fun _ => 0))), (n14, .inl (cI, 4, .inl uX5_n14_1))] := hD
  refine lv_dup hx hb dX5_init_51 rfl ?_
  refine lv_iconst (v := 2) hx hb dX5_init_52 (by decide) ?_
  refine lv_bipush (v := 20) hx hb dX5_init_53 (by decide) ?_
  refine ias S hE hP hD hS 14 rfl (by unfold vp_in; decide) dX5_init_55 (fun H locs hP hD hS => ?_)
  have hP : va_P D vwCl [(a_o, .inr (4, [.ref n1, .ref n6, .ref n10, .null, .int 0])), (n1, .inr (6, [.ref n2, .ref n3, .ref n4, .ref n5, .int 0])), (n2, .inl (cI, 16, .inl (fun _ => 0))), (n3, .inl (cI, 16, .inl (fun _ => 0))), (n4, .inl (cI, 16, .inl (fun _ => 0))), (n5, .inl (cI, 16, .inl (fun _ => 0))), (n6, .inr (1, [.ref n7, .ref n8, .ref n9, .int 0])), (n7, .inl (cI, 6, .inl (fun _ => 0))), (n8, .inl (cI, 6, .inl (fun _ => 0))), (n9, .inl (cI, 6, .inl (fun _ => 0))), (n10, .inr (7, [.ref n11, .ref n12, .ref n13, .int 0])), (n11, .inl (cI, 72, .inl (fun _ => 0))), (n12, .inl (cI, 72, .inl (fun _ => 0))), (n13, .inl (cI, 6, .inl (fun _ => 0))), (n14, .inl (cI, 4, .inl uX5_n14_2))] H := hP
  have hD : va_D A [(a_o, .inr (4, [.ref n1, .ref n6, .ref n10, .null, .int 0])), (n1, .inr (6, [.ref n2, .ref n3, .ref n4, .ref n5, .int 0])), (n2, .inl (cI, 16, .inl (fun _ => 0))), (n3, .inl (cI, 16, .inl (fun _ => 0))), (n4, .inl (cI, 16, .inl (fun _ => 0))), (n5, .inl (cI, 16, .inl (fun _ => 0))), (n6, .inr (1, [.ref n7, .ref n8, .ref n9, .int 0])), (n7, .inl (cI, 6, .inl (fun _ => 0))), (n8, .inl (cI, 6, .inl (fun _ => 0))), (n9, .inl (cI, 6, .inl (fun _ => 0))), (n10, .inr (7, [.ref n11, .ref n12, .ref n13, .int 0])), (n11, .inl (cI, 72, .inl (fun _ => 0))), (n12, .inl (cI, 72, .inl (fun _ => 0))), (n13, .inl (cI, 6, .inl (fun _ => 0))), (n14, .inl (cI, 4, .inl uX5_n14_2))] := hD
  refine lv_dup hx hb dX5_init_56 rfl ?_
  refine lv_iconst (v := 3) hx hb dX5_init_57 (by decide) ?_
  refine lv_sipush (v := 200) hx hb dX5_init_58 (by decide) ?_
  refine ias S hE hP hD hS 14 rfl (by unfold vp_in; decide) dX5_init_61 (fun H locs hP hD hS => ?_)
  have hP : va_P D vwCl [(a_o, .inr (4, [.ref n1, .ref n6, .ref n10, .null, .int 0])), (n1, .inr (6, [.ref n2, .ref n3, .ref n4, .ref n5, .int 0])), (n2, .inl (cI, 16, .inl (fun _ => 0))), (n3, .inl (cI, 16, .inl (fun _ => 0))), (n4, .inl (cI, 16, .inl (fun _ => 0))), (n5, .inl (cI, 16, .inl (fun _ => 0))), (n6, .inr (1, [.ref n7, .ref n8, .ref n9, .int 0])), (n7, .inl (cI, 6, .inl (fun _ => 0))), (n8, .inl (cI, 6, .inl (fun _ => 0))), (n9, .inl (cI, 6, .inl (fun _ => 0))), (n10, .inr (7, [.ref n11, .ref n12, .ref n13, .int 0])), (n11, .inl (cI, 72, .inl (fun _ => 0))), (n12, .inl (cI, 72, .inl (fun _ => 0))), (n13, .inl (cI, 6, .inl (fun _ => 0))), (n14, .inl (cI, 4, .inl uX5_n14_3))] H := hP
  have hD : va_D A [(a_o, .inr (4, [.ref n1, .ref n6, .ref n10, .null, .int 0])), (n1, .inr (6, [.ref n2, .ref n3, .ref n4, .ref n5, .int 0])), (n2, .inl (cI, 16, .inl (fun _ => 0))), (n3, .inl (cI, 16, .inl (fun _ => 0))), (n4, .inl (cI, 16, .inl (fun _ => 0))), (n5, .inl (cI, 16, .inl (fun _ => 0))), (n6, .inr (1, [.ref n7, .ref n8, .ref n9, .int 0])), (n7, .inl (cI, 6, .inl (fun _ => 0))), (n8, .inl (cI, 6, .inl (fun _ => 0))), (n9, .inl (cI, 6, .inl (fun _ => 0))), (n10, .inr (7, [.ref n11, .ref n12, .ref n13, .int 0])), (n11, .inl (cI, 72, .inl (fun _ => 0))), (n12, .inl (cI, 72, .inl (fun _ => 0))), (n13, .inl (cI, 6, .inl (fun _ => 0))), (n14, .inl (cI, 4, .inl uX5_n14_3))] := hD
  refine pfF S hE hP hD hS 0 (k := 3) rfl rfl inX5 tyX5_ok nmX5 (by decide) q103 rfl hname rfl rfl rfl (Nat.le_of_ble_eq_true rfl) dX5_init_62 (fun H locs hP hD hS => ?_)
  have hP : va_P D vwCl [(a_o, .inr (4, [.ref n1, .ref n6, .ref n10, .ref n14, .int 0])), (n1, .inr (6, [.ref n2, .ref n3, .ref n4, .ref n5, .int 0])), (n2, .inl (cI, 16, .inl (fun _ => 0))), (n3, .inl (cI, 16, .inl (fun _ => 0))), (n4, .inl (cI, 16, .inl (fun _ => 0))), (n5, .inl (cI, 16, .inl (fun _ => 0))), (n6, .inr (1, [.ref n7, .ref n8, .ref n9, .int 0])), (n7, .inl (cI, 6, .inl (fun _ => 0))), (n8, .inl (cI, 6, .inl (fun _ => 0))), (n9, .inl (cI, 6, .inl (fun _ => 0))), (n10, .inr (7, [.ref n11, .ref n12, .ref n13, .int 0])), (n11, .inl (cI, 72, .inl (fun _ => 0))), (n12, .inl (cI, 72, .inl (fun _ => 0))), (n13, .inl (cI, 6, .inl (fun _ => 0))), (n14, .inl (cI, 4, .inl uX5_n14_3))] H := hP
  have hD : va_D A [(a_o, .inr (4, [.ref n1, .ref n6, .ref n10, .ref n14, .int 0])), (n1, .inr (6, [.ref n2, .ref n3, .ref n4, .ref n5, .int 0])), (n2, .inl (cI, 16, .inl (fun _ => 0))), (n3, .inl (cI, 16, .inl (fun _ => 0))), (n4, .inl (cI, 16, .inl (fun _ => 0))), (n5, .inl (cI, 16, .inl (fun _ => 0))), (n6, .inr (1, [.ref n7, .ref n8, .ref n9, .int 0])), (n7, .inl (cI, 6, .inl (fun _ => 0))), (n8, .inl (cI, 6, .inl (fun _ => 0))), (n9, .inl (cI, 6, .inl (fun _ => 0))), (n10, .inr (7, [.ref n11, .ref n12, .ref n13, .int 0])), (n11, .inl (cI, 72, .inl (fun _ => 0))), (n12, .inl (cI, 72, .inl (fun _ => 0))), (n13, .inl (cI, 6, .inl (fun _ => 0))), (n14, .inl (cI, 4, .inl uX5_n14_3))] := hD
  refine lv_aload_n hx hb dX5_init_65 rfl (lv_at hl 0 rfl) ?_
  refine lv_iconst (v := 1) hx hb dX5_init_66 (by decide) ?_
  refine pf S hE hP hD hS 0 (k := 4) rfl rfl inX5 tyX5_ok nmX5 (by decide) q104 rfl rfl rfl (Nat.le_of_ble_eq_true rfl) dX5_init_67 (fun H locs hP hD hS => ?_)
  have hP : va_P D vwCl [(a_o, .inr (4, [.ref n1, .ref n6, .ref n10, .ref n14, .int 1])), (n1, .inr (6, [.ref n2, .ref n3, .ref n4, .ref n5, .int 0])), (n2, .inl (cI, 16, .inl (fun _ => 0))), (n3, .inl (cI, 16, .inl (fun _ => 0))), (n4, .inl (cI, 16, .inl (fun _ => 0))), (n5, .inl (cI, 16, .inl (fun _ => 0))), (n6, .inr (1, [.ref n7, .ref n8, .ref n9, .int 0])), (n7, .inl (cI, 6, .inl (fun _ => 0))), (n8, .inl (cI, 6, .inl (fun _ => 0))), (n9, .inl (cI, 6, .inl (fun _ => 0))), (n10, .inr (7, [.ref n11, .ref n12, .ref n13, .int 0])), (n11, .inl (cI, 72, .inl (fun _ => 0))), (n12, .inl (cI, 72, .inl (fun _ => 0))), (n13, .inl (cI, 6, .inl (fun _ => 0))), (n14, .inl (cI, 4, .inl uX5_n14_3))] H := hP
  have hD : va_D A [(a_o, .inr (4, [.ref n1, .ref n6, .ref n10, .ref n14, .int 1])), (n1, .inr (6, [.ref n2, .ref n3, .ref n4, .ref n5, .int 0])), (n2, .inl (cI, 16, .inl (fun _ => 0))), (n3, .inl (cI, 16, .inl (fun _ => 0))), (n4, .inl (cI, 16, .inl (fun _ => 0))), (n5, .inl (cI, 16, .inl (fun _ => 0))), (n6, .inr (1, [.ref n7, .ref n8, .ref n9, .int 0])), (n7, .inl (cI, 6, .inl (fun _ => 0))), (n8, .inl (cI, 6, .inl (fun _ => 0))), (n9, .inl (cI, 6, .inl (fun _ => 0))), (n10, .inr (7, [.ref n11, .ref n12, .ref n13, .int 0])), (n11, .inl (cI, 72, .inl (fun _ => 0))), (n12, .inl (cI, 72, .inl (fun _ => 0))), (n13, .inl (cI, 6, .inl (fun _ => 0))), (n14, .inl (cI, 4, .inl uX5_n14_3))] := hD
  refine W.widen (k := 14) (n := 249) (Nat.le_of_ble_eq_true rfl) (Nat.le_of_ble_eq_true rfl) ?_
  exact W.vret hx hb hr (fun t ht _ => ⟨⟨(n1, n2, n3, n4, n5, n6, n7, n8, n9, n10, n11, n12, n13, n14), rfl, trivial, hPt hP ht, hD⟩, hS.F ht⟩) hS.2.2 dX5_init_70
