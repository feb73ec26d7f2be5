/-! X6_holdStretch -/
abbrev wX6_holdStretch (cI cJ cS : ClassId) (a_o : Nat) (z_elements : Value) (v_held : Int32) (v_sort : Int32) (v_elementCount : Int32) (v_stretchNumber : Int32) : va_W := [(a_o, .inr (5, [z_elements, .int v_held, .int v_sort, .int v_elementCount, .int v_stretchNumber]))]
def F_X6_holdStretch (v_held : Int32) (v_elementCount : Int32) (v_stretchNumber : Int32) (x1 : Int32) (post : Int32 → Int32 → Int32 → Prop) : Prop := post 2 0 x1
set_option maxHeartbeats 4000000 in
set_option maxRecDepth 100000 in
theorem c_X6_holdStretch {l : Launch} {D : va_G} {cI cJ cS : ClassId} {ad adK : Nat → Nat} {a_o : Nat} {z_elements : Value} {v_held : Int32} {v_sort : Int32} {v_elementCount : Int32} {v_stretchNumber : Int32} {x1 : Int32} {post : Int32 → Int32 → Int32 → Prop} (h : F_X6_holdStretch v_held v_elementCount v_stretchNumber x1 post) {sz : Nat} : Met l yX6_holdStretch (Cond.code yX6_holdStretch cX6_holdStretch 2 none :: GW) (rmd 0 0 0) (PW D cI cJ cS ad adK [.ref a_o, .int x1] (wX6_holdStretch cI cJ cS a_o z_elements v_held v_sort v_elementCount v_stretchNumber) sz) (va_Qv (fun u : Int32 × Int32 × Int32 => post u.1 u.2.1 u.2.2) (fun u t => va_P D vwCl (wX6_holdStretch cI cJ cS a_o z_elements u.1 v_sort u.2.1 u.2.2) t.heap) (va_A (wX6_holdStretch cI cJ cS a_o z_elements v_held v_sort v_elementCount v_stretchNumber) sz)) 0 0 (va_A (wX6_holdStretch cI cJ cS a_o z_elements v_held v_sort v_elementCount v_stretchNumber) sz) := by
  refine Met.rw (Qc := fun A => (va_Qv (fun u : Int32 × Int32 × Int32 => post u.1 u.2.1 u.2.2) (fun u t => va_P D vwCl (wX6_holdStretch cI cJ cS a_o z_elements u.1 v_sort u.2.1 u.2.2) t.heap) A)) (by decide) (Nat.le_of_ble_eq_true rfl) (fun p e s m args below meth c ls A (S : CallFix p m c cX6_holdStretch 2 s args GW "RoadThatSings$Shelf") hE hT hP hD hA hS hr hlocks hname hl => ?_)
  have hS0 := hS
  have hx := S.1
  have hb := S.2.1
  have hl : lv_has ls 2 [(0, .ref a_o), (1, .int x1)] := hl
  unfold F_X6_holdStretch at h
  refine lv_aload_n hx hb dX6_holdStretch_0 rfl (lv_at hl 0 rfl) ?_
  refine lv_iconst (v := 2) hx hb dX6_holdStretch_1 (by decide) ?_
  refine pf S hE hP hD hS 0 (k := 1) rfl rfl inX6 tyX6_ok nmX6 (by decide) q165 rfl rfl rfl (Nat.le_of_ble_eq_true rfl) dX6_holdStretch_2 (fun H locs hP hD hS => ?_)
  have hP : va_P D vwCl (wX6_holdStretch cI cJ cS a_o z_elements 2 v_sort v_elementCount v_stretchNumber) H := hP
  have hD : va_D A (wX6_holdStretch cI cJ cS a_o z_elements 2 v_sort v_elementCount v_stretchNumber) := hD
  refine lv_aload_n hx hb dX6_holdStretch_5 rfl (lv_at hl 0 rfl) ?_
  refine lv_iconst (v := 0) hx hb dX6_holdStretch_6 (by decide) ?_
  refine pf S hE hP hD hS 0 (k := 3) rfl rfl inX6 tyX6_ok nmX6 (by decide) q167 rfl rfl rfl (Nat.le_of_ble_eq_true rfl) dX6_holdStretch_7 (fun H locs hP hD hS => ?_)
  have hP : va_P D vwCl (wX6_holdStretch cI cJ cS a_o z_elements 2 v_sort 0 v_stretchNumber) H := hP
  have hD : va_D A (wX6_holdStretch cI cJ cS a_o z_elements 2 v_sort 0 v_stretchNumber) := hD
  refine lv_aload_n hx hb dX6_holdStretch_10 rfl (lv_at hl 0 rfl) ?_
  refine lv_iload_n hx hb dX6_holdStretch_11 rfl (lv_at hl 1 rfl) ?_
  refine pf S hE hP hD hS 0 (k := 4) rfl rfl inX6 tyX6_ok nmX6 (by decide) q168 rfl rfl rfl (Nat.le_of_ble_eq_true rfl) dX6_holdStretch_12 (fun H locs hP hD hS => ?_)
  have hP : va_P D vwCl (wX6_holdStretch cI cJ cS a_o z_elements 2 v_sort 0 x1) H := hP
  have hD : va_D A (wX6_holdStretch cI cJ cS a_o z_elements 2 v_sort 0 x1) := hD
  exact W.vret hx hb hr (fun t ht _ => ⟨⟨(2, 0, x1), rfl, h, hPt hP ht⟩, hS.F ht⟩) hS.2.2 dX6_holdStretch_15
/-! X6_holdRow -/
abbrev wX6_holdRow (cI cJ cS : ClassId) (a_o a_elements : Nat) (v_held : Int32) (v_sort : Int32) (v_elementCount : Int32) (v_stretchNumber : Int32) (g_elements : Nat → Int64) : va_W := [(a_o, .inr (5, [.ref a_elements, .int v_held, .int v_sort, .int v_elementCount, .int v_stretchNumber])), (a_elements, .inl (cJ, 160, .inr (.inl g_elements)))]
def F_X6_holdRow (v_held : Int32) (v_sort : Int32) (v_elementCount : Int32) (g_elements : Nat → Int64) (x1 : Int32) (x2 : Int32) (post : Int32 → Int32 → Int32 → (Nat → Int64) → Prop) : Prop := (F_J7_fill_d0a16 160 g_elements 0 (fun w30_0 => post 1 x1 (if 0 < (if 160 < x2 then 160 else x2) then (if 160 < x2 then 160 else x2) else 0) w30_0))
set_option maxHeartbeats 4000000 in
set_option maxRecDepth 100000 in
theorem c_X6_holdRow {l : Launch} {D : va_G} {cI cJ cS : ClassId} {ad adK : Nat → Nat} {a_o a_elements : Nat} {v_held : Int32} {v_sort : Int32} {v_elementCount : Int32} {v_stretchNumber : Int32} {g_elements : Nat → Int64} {x1 : Int32} {x2 : Int32} {post : Int32 → Int32 → Int32 → (Nat → Int64) → Prop} (h : F_X6_holdRow v_held v_sort v_elementCount g_elements x1 x2 post) {sz : Nat} : Met l yX6_holdRow (Cond.code yX6_holdRow cX6_holdRow 3 none :: GW) (rmd 1 0 0) (PW D cI cJ cS ad adK [.ref a_o, .int x1, .int x2] (wX6_holdRow cI cJ cS a_o a_elements v_held v_sort v_elementCount v_stretchNumber g_elements) sz) (va_Qv (fun u : Int32 × Int32 × Int32 × (Nat → Int64) => post u.1 u.2.1 u.2.2.1 u.2.2.2) (fun u t => va_P D vwCl (wX6_holdRow cI cJ cS a_o a_elements u.1 u.2.1 u.2.2.1 v_stretchNumber u.2.2.2) t.heap) (va_A (wX6_holdRow cI cJ cS a_o a_elements v_held v_sort v_elementCount v_stretchNumber g_elements) sz)) 0 0 (va_A (wX6_holdRow cI cJ cS a_o a_elements v_held v_sort v_elementCount v_stretchNumber g_elements) sz) := by
  refine Met.rw (Qc := fun A => (va_Qv (fun u : Int32 × Int32 × Int32 × (Nat → Int64) => post u.1 u.2.1 u.2.2.1 u.2.2.2) (fun u t => va_P D vwCl (wX6_holdRow cI cJ cS a_o a_elements u.1 u.2.1 u.2.2.1 v_stretchNumber u.2.2.2) t.heap) A)) (by decide) (Nat.le_of_ble_eq_true rfl) (fun p e s m args below meth c ls A (S : CallFix p m c cX6_holdRow 3 s args GW "RoadThatSings$Shelf") hE hT hP hD hA hS hr hlocks hname hl => ?_)
  have hS0 := hS
  have hx := S.1
  have hb := S.2.1
  have hl : lv_has ls 3 [(0, .ref a_o), (1, .int x1), (2, .int x2)] := hl
  unfold F_X6_holdRow at h
  refine lv_aload_n hx hb dX6_holdRow_0 rfl (lv_at hl 0 rfl) ?_
  refine lv_iconst (v := 1) hx hb dX6_holdRow_1 (by decide) ?_
  refine pf S hE hP hD hS 0 (k := 1) rfl rfl inX6 tyX6_ok nmX6 (by decide) q165 rfl rfl rfl (Nat.le_of_ble_eq_true rfl) dX6_holdRow_2 (fun H locs hP hD hS => ?_)
  have hP : va_P D vwCl (wX6_holdRow cI cJ cS a_o a_elements 1 v_sort v_elementCount v_stretchNumber g_elements) H := hP
  have hD : va_D A (wX6_holdRow cI cJ cS a_o a_elements 1 v_sort v_elementCount v_stretchNumber g_elements) := hD
  refine lv_aload_n hx hb dX6_holdRow_5 rfl (lv_at hl 0 rfl) ?_
  refine lv_iload_n hx hb dX6_holdRow_6 rfl (lv_at hl 1 rfl) ?_
  refine pf S hE hP hD hS 0 (k := 2) rfl rfl inX6 tyX6_ok nmX6 (by decide) q166 rfl rfl rfl (Nat.le_of_ble_eq_true rfl) dX6_holdRow_7 (fun H locs hP hD hS => ?_)
  have hP : va_P D vwCl (wX6_holdRow cI cJ cS a_o a_elements 1 x1 v_elementCount v_stretchNumber g_elements) H := hP
  have hD : va_D A (wX6_holdRow cI cJ cS a_o a_elements 1 x1 v_elementCount v_stretchNumber g_elements) := hD
  refine lv_aload_n hx hb dX6_holdRow_10 rfl (lv_at hl 0 rfl) ?_
  refine lv_iconst (v := 0) hx hb dX6_holdRow_11 (by decide) ?_
  refine lv_iload_n hx hb dX6_holdRow_12 rfl (lv_at hl 2 rfl) ?_
  refine lv_sipush (v := 160) hx hb dX6_holdRow_13 (by decide) ?_
  refine va_mmin hx hb (S.2.2.1.trans hl.1.symm) S.2.2.2.1 (S.2.2.2.2 _ q232) (S.2.2.2.2 _ q233) (S.2.2.2.2 _ q10) (S.2.2.2.2 _ q234) (Nat.le_of_ble_eq_true rfl) (Nat.le_of_ble_eq_true rfl) (Nat.zero_le _) (Nat.zero_le _) dX6_holdRow_16 ?_
  refine va_mmax hx hb (S.2.2.1.trans hl.1.symm) S.2.2.2.1 (S.2.2.2.2 _ q235) (S.2.2.2.2 _ q236) (S.2.2.2.2 _ q10) (S.2.2.2.2 _ q237) (Nat.le_of_ble_eq_true rfl) (Nat.le_of_ble_eq_true rfl) (Nat.zero_le _) (Nat.zero_le _) dX6_holdRow_19 ?_
  refine pf S hE hP hD hS 0 (k := 3) rfl rfl inX6 tyX6_ok nmX6 (by decide) q167 rfl rfl rfl (Nat.le_of_ble_eq_true rfl) dX6_holdRow_22 (fun H locs hP hD hS => ?_)
  have hP : va_P D vwCl (wX6_holdRow cI cJ cS a_o a_elements 1 x1 (if 0 < (if 160 < x2 then 160 else x2) then (if 160 < x2 then 160 else x2) else 0) v_stretchNumber g_elements) H := hP
  have hD : va_D A (wX6_holdRow cI cJ cS a_o a_elements 1 x1 (if 0 < (if 160 < x2 then 160 else x2) then (if 160 < x2 then 160 else x2) else 0) v_stretchNumber g_elements) := hD
  refine lv_aload_n hx hb dX6_holdRow_25 rfl (lv_at hl 0 rfl) ?_
  refine gf S hE hP 0 rfl rfl inX6 (k := 0) (by decide) q164 rfl dX6_holdRow_26 ?_
  refine lv_lconst (v := 0) hx hb dX6_holdRow_29 (by decide) ?_
  refine rw_v (rwS S hE hT hS hP hD hA (c_J7_fill_d0a16 h) [1] rfl (by decide +kernel) lkX6_44 rfl ⟨(Nat.le_of_ble_eq_true rfl), (Nat.le_of_ble_eq_true rfl)⟩ hl.1 rfl (Nat.le_of_ble_eq_true rfl) dX6_holdRow_30 ⟨(Nat.zero_le _), (Nat.zero_le _)⟩) hP hD hS hA [1] rfl (by decide +kernel) (fun _ => rfl) (fun w30_0 H locs h hP hD hS => ?_)
  try dsimp only at h
  have hP : va_P D vwCl (wX6_holdRow cI cJ cS a_o a_elements 1 x1 (if 0 < (if 160 < x2 then 160 else x2) then (if 160 < x2 then 160 else x2) else 0) v_stretchNumber w30_0) H := hP
  have hD : va_D A (wX6_holdRow cI cJ cS a_o a_elements 1 x1 (if 0 < (if 160 < x2 then 160 else x2) then (if 160 < x2 then 160 else x2) else 0) v_stretchNumber w30_0) := hD
  exact W.vret hx hb hr (fun t ht _ => ⟨⟨(1, x1, (if 0 < (if 160 < x2 then 160 else x2) then (if 160 < x2 then 160 else x2) else 0), w30_0), rfl, h, hPt hP ht⟩, hS.F ht⟩) hS.2.2 dX6_holdRow_33
/-! X6_hasElements -/
abbrev wX6_hasElements (cI cJ cS : ClassId) (a_o : Nat) (z_elements : Value) (v_held : Int32) (v_sort : Int32) (v_elementCount : Int32) (v_stretchNumber : Int32) : va_W := [(a_o, .inr (5, [z_elements, .int v_held, .int v_sort, .int v_elementCount, .int v_stretchNumber]))]
def F_X6_hasElements (v_elementCount : Int32) (x1 : Int32) (x2 : Int32) (post : Int32 → Prop) : Prop := ((x1 < 0 → post 0) ∧ (¬ x1 < 0 → ((x2 < 0 → post 0) ∧ (¬ x2 < 0 → ((v_elementCount < x1 → post 0) ∧ (¬ v_elementCount < x1 → (((v_elementCount - x1) < x2 → post 0) ∧ (¬ (v_elementCount - x1) < x2 → post 1))))))))
set_option maxHeartbeats 4000000 in
set_option maxRecDepth 100000 in
theorem c_X6_hasElements {l : Launch} {D : va_G} {cI cJ cS : ClassId} {ad adK : Nat → Nat} {a_o : Nat} {z_elements : Value} {v_held : Int32} {v_sort : Int32} {v_elementCount : Int32} {v_stretchNumber : Int32} {x1 : Int32} {x2 : Int32} {post : Int32 → Prop} (h : F_X6_hasElements v_elementCount x1 x2 post) : Met l yX6_hasElements (Cond.code yX6_hasElements cX6_hasElements 3 (some (.boolean)) :: GW) (rmd 0 0 0) (PR D cI cJ cS ad adK [.ref a_o, .int x1, .int x2] (wX6_hasElements cI cJ cS a_o z_elements v_held v_sort v_elementCount v_stretchNumber)) (vp_Si post) 0 0 nof := by
  refine Met.ro (by decide) (Nat.le_of_ble_eq_true rfl) (fun p e s m args below meth c ls (S : CallFix p m c cX6_hasElements 3 s args GW "RoadThatSings$Shelf") hE hT hP hS hr hlocks hl => ?_)
  have hx := S.1
  have hb := S.2.1
  have hl : lv_has ls 3 [(0, .ref a_o), (1, .int x1), (2, .int x2)] := hl
  unfold F_X6_hasElements at h
  refine lv_iload_n hx hb dX6_hasElements_0 rfl (lv_at hl 1 rfl) ?_
  refine lv_if_lt (tgt := 30) hx hb dX6_hasElements_1 (by decide) (fun hc => ?_) (fun hc => ?_)
  · have h := h.1 hc
    refine lv_iconst (v := 0) hx hb dX6_hasElements_30 (by decide) ?_
    exact W.zret hx hb hr rfl (fun t ht _ => ⟨_, rfl, h, ht⟩) (fun _ hq => by cases hq) dX6_hasElements_31
  have h := h.2 hc
  refine lv_iload_n hx hb dX6_hasElements_4 rfl (lv_at hl 2 rfl) ?_
  refine lv_if_lt (tgt := 30) hx hb dX6_hasElements_5 (by decide) (fun hc => ?_) (fun hc => ?_)
  · have h := h.1 hc
    refine lv_iconst (v := 0) hx hb dX6_hasElements_30 (by decide) ?_
    exact W.zret hx hb hr rfl (fun t ht _ => ⟨_, rfl, h, ht⟩) (fun _ hq => by cases hq) dX6_hasElements_31
  have h := h.2 hc
  refine lv_iload_n hx hb dX6_hasElements_8 rfl (lv_at hl 1 rfl) ?_
  refine lv_aload_n hx hb dX6_hasElements_9 rfl (lv_at hl 0 rfl) ?_
  refine gf S hE hP 0 rfl rfl inX6 (k := 3) (by decide) q167 rfl dX6_hasElements_10 ?_
  refine lv_icmp_gt (tgt := 30) hx hb dX6_hasElements_13 (by decide) (fun hc => ?_) (fun hc => ?_)
  · have h := h.1 hc
    refine lv_iconst (v := 0) hx hb dX6_hasElements_30 (by decide) ?_
    exact W.zret hx hb hr rfl (fun t ht _ => ⟨_, rfl, h, ht⟩) (fun _ hq => by cases hq) dX6_hasElements_31
  have h := h.2 hc
  refine lv_iload_n hx hb dX6_hasElements_16 rfl (lv_at hl 2 rfl) ?_
  refine lv_aload_n hx hb dX6_hasElements_17 rfl (lv_at hl 0 rfl) ?_
  refine gf S hE hP 0 rfl rfl inX6 (k := 3) (by decide) q167 rfl dX6_hasElements_18 ?_
  refine lv_iload_n hx hb dX6_hasElements_21 rfl (lv_at hl 1 rfl) ?_
  refine lv_isub hx hb dX6_hasElements_22 ?_
  refine lv_icmp_gt (tgt := 30) hx hb dX6_hasElements_23 (by decide) (fun hc => ?_) (fun hc => ?_)
  · have h := h.1 hc
    refine lv_iconst (v := 0) hx hb dX6_hasElements_30 (by decide) ?_
    exact W.zret hx hb hr rfl (fun t ht _ => ⟨_, rfl, h, ht⟩) (fun _ hq => by cases hq) dX6_hasElements_31
  have h := h.2 hc
  refine lv_iconst (v := 1) hx hb dX6_hasElements_26 (by decide) ?_
  refine lv_goto (tgt := 31) hx hb dX6_hasElements_27 (by decide) ?_
  exact W.zret hx hb hr rfl (fun t ht _ => ⟨_, rfl, h, ht⟩) (fun _ hq => by cases hq) dX6_hasElements_31
/-! X6_lowestBits -/
abbrev wX6_lowestBits (cI cJ cS : ClassId) (a_o : Nat) (z_elements : Value) (v_held : Int32) (v_sort : Int32) (v_elementCount : Int32) (v_stretchNumber : Int32) : va_W := [(a_o, .inr (5, [z_elements, .int v_held, .int v_sort, .int v_elementCount, .int v_stretchNumber]))]
def F_X6_lowestBits (v_sort : Int32) (y1 : Int64) (post : Int64 → Prop) : Prop := ((v_sort = 0 → post y1.toInt32.toInt8.toInt32.toInt64) ∧ (¬ v_sort = 0 → ((v_sort = 1 → post y1.toInt32.toInt16.toInt32.toInt64) ∧ (¬ v_sort = 1 → ((v_sort = 2 → post y1.toInt32.toInt64) ∧ (¬ v_sort = 2 → post y1))))))
set_option maxHeartbeats 4000000 in
set_option maxRecDepth 100000 in
theorem c_X6_lowestBits {l : Launch} {D : va_G} {cI cJ cS : ClassId} {ad adK : Nat → Nat} {a_o : Nat} {z_elements : Value} {v_held : Int32} {v_sort : Int32} {v_elementCount : Int32} {v_stretchNumber : Int32} {y1 : Int64} {post : Int64 → Prop} (h : F_X6_lowestBits v_sort y1 post) : Met l yX6_lowestBits (Cond.code yX6_lowestBits cX6_lowestBits 3 (some (.long)) :: GW) (rmd 0 0 0) (PR D cI cJ cS ad adK [.ref a_o, .long y1] (wX6_lowestBits cI cJ cS a_o z_elements v_held v_sort v_elementCount v_stretchNumber)) (vp_Sl post) 0 0 nof := by
  refine Met.ro (by decide) (Nat.le_of_ble_eq_true rfl) (fun p e s m args below meth c ls (S : CallFix p m c cX6_lowestBits 3 s args GW "RoadThatSings$Shelf") hE hT hP hS hr hlocks hl => ?_)
  have hx := S.1
  have hb := S.2.1
  have hl : lv_has ls 3 [(0, .ref a_o), (1, .long y1)] := hl
  unfold F_X6_lowestBits at h
  refine lv_aload_n hx hb dX6_lowestBits_0 rfl (lv_at hl 0 rfl) ?_
  refine gf S hE hP 0 rfl rfl inX6 (k := 2) (by decide) q166 rfl dX6_lowestBits_1 ?_
  by_cases hk0 : v_sort = 0
  · have h := h.1 hk0
    refine lv_tableIn (off := 28) (tgt := 32) hx hb dX6_lowestBits_4 (by rw [hk0]; decide) (by rw [hk0]; decide) (by rw [hk0]; rfl) (by decide) ?_
    refine lv_lload_n hx hb dX6_lowestBits_32 rfl (lv_at hl 1 rfl) ?_
    refine lv_l2i hx hb dX6_lowestBits_33 rfl ?_
    refine lv_i2b hx hb dX6_lowestBits_34 rfl ?_
    refine lv_i2l hx hb dX6_lowestBits_35 rfl ?_
    exact W.lret hx hb hr (fun t ht _ => ⟨_, rfl, h, ht⟩) (fun _ hq => by cases hq) dX6_lowestBits_36
  have h := h.2 hk0
  by_cases hk1 : v_sort = 1
  · have h := h.1 hk1
    refine lv_tableIn (off := 33) (tgt := 37) hx hb dX6_lowestBits_4 (by rw [hk1]; decide) (by rw [hk1]; decide) (by rw [hk1]; rfl) (by decide) ?_
    refine lv_lload_n hx hb dX6_lowestBits_37 rfl (lv_at hl 1 rfl) ?_
    refine lv_l2i hx hb dX6_lowestBits_38 rfl ?_
    refine lv_i2s hx hb dX6_lowestBits_39 rfl ?_
    refine lv_i2l hx hb dX6_lowestBits_40 rfl ?_
    exact W.lret hx hb hr (fun t ht _ => ⟨_, rfl, h, ht⟩) (fun _ hq => by cases hq) dX6_lowestBits_41
  have h := h.2 hk1
  by_cases hk2 : v_sort = 2
  · have h := h.1 hk2
    refine lv_tableIn (off := 38) (tgt := 42) hx hb dX6_lowestBits_4 (by rw [hk2]; decide) (by rw [hk2]; decide) (by rw [hk2]; rfl) (by decide) ?_
    refine lv_lload_n hx hb dX6_lowestBits_42 rfl (lv_at hl 1 rfl) ?_
    refine lv_l2i hx hb dX6_lowestBits_43 rfl ?_
    refine lv_i2l hx hb dX6_lowestBits_44 rfl ?_
    exact W.lret hx hb hr (fun t ht _ => ⟨_, rfl, h, ht⟩) (fun _ hq => by cases hq) dX6_lowestBits_45
  have h := h.2 hk2
  refine lv_tableOut (tgt := 46) hx hb dX6_lowestBits_4 (sw_out (fun k h1 h2 => by
    rcases (show k = 0 ∨ k = 1 ∨ k = 2 by omega) with rfl | rfl | rfl
    · exact hk0
    · exact hk1
    · exact hk2)) (by decide) ?_
  refine lv_lload_n hx hb dX6_lowestBits_46 rfl (lv_at hl 1 rfl) ?_
  exact W.lret hx hb hr (fun t ht _ => ⟨_, rfl, h, ht⟩) (fun _ hq => by cases hq) dX6_lowestBits_47
/-! X6_put -/
abbrev wX6_put (cI cJ cS : ClassId) (a_o a_elements : Nat) (v_held : Int32) (v_sort : Int32) (v_elementCount : Int32) (v_stretchNumber : Int32) (g_elements : Nat → Int64) : va_W := [(a_o, .inr (5, [.ref a_elements, .int v_held, .int v_sort, .int v_elementCount, .int v_stretchNumber])), (a_elements, .inl (cJ, 160, .inr (.inl g_elements)))]
def F_X6_put (v_sort : Int32) (v_elementCount : Int32) (g_elements : Nat → Int64) (x1 : Int32) (y2 : Int64) (post : (Nat → Int64) → Prop) : Prop := (F_X6_hasElement v_elementCount x1 (fun r2 => ((r2 = 0 → post g_elements) ∧ (¬ r2 = 0 → (F_X6_lowestBits v_sort y2 (fun r15 => (vp_in x1 160 ∧ post (vp_updL g_elements x1.toNatClampNeg r15))))))))
set_option maxHeartbeats 4000000 in
set_option maxRecDepth 100000 in
theorem c_X6_put {l : Launch} {D : va_G} {cI cJ cS : ClassId} {ad adK : Nat → Nat} {a_o a_elements : Nat} {v_held : Int32} {v_sort : Int32} {v_elementCount : Int32} {v_stretchNumber : Int32} {g_elements : Nat → Int64} {x1 : Int32} {y2 : Int64} {post : (Nat → Int64) → Prop} (h : F_X6_put v_sort v_elementCount g_elements x1 y2 post) {sz : Nat} : Met l yX6_put (Cond.code yX6_put cX6_put 4 none :: GW) (rmd 1 0 0) (PW D cI cJ cS ad adK [.ref a_o, .int x1, .long y2] (wX6_put cI cJ cS a_o a_elements v_held v_sort v_elementCount v_stretchNumber g_elements) sz) (va_Qv (fun u : (Nat → Int64) => post u) (fun u t => va_P D vwCl (wX6_put cI cJ cS a_o a_elements v_held v_sort v_elementCount v_stretchNumber u) t.heap) (va_A (wX6_put cI cJ cS a_o a_elements v_held v_sort v_elementCount v_stretchNumber g_elements) sz)) 0 0 (va_A (wX6_put cI cJ cS a_o a_elements v_held v_sort v_elementCount v_stretchNumber g_elements) sz) := by
  refine Met.rw (Qc := fun A => (va_Qv (fun u : (Nat → Int64) => post u) (fun u t => va_P D vwCl (wX6_put cI cJ cS a_o a_elements v_held v_sort v_elementCount v_stretchNumber u) t.heap) A)) (by decide) (Nat.le_of_ble_eq_true rfl) (fun p e s m args below meth c ls A (S : CallFix p m c cX6_put 4 s args GW "RoadThatSings$Shelf") hE hT hP hD hA hS hr hlocks hname hl => ?_)
  have hS0 := hS
  have hx := S.1
  have hb := S.2.1
  have hl : lv_has ls 4 [(0, .ref a_o), (1, .int x1), (2, .long y2)] := hl
  unfold F_X6_put at h
  refine lv_aload_n hx hb dX6_put_0 rfl (lv_at hl 0 rfl) ?_
  refine lv_iload_n hx hb dX6_put_1 rfl (lv_at hl 1 rfl) ?_
  refine ro_i (roV S hE hT hS (c_X6_hasElement h) lkX6_50 rfl ⟨(Nat.le_of_ble_eq_true rfl), (Nat.le_of_ble_eq_true rfl)⟩ (hP.sub [0] rfl) 0 rfl rfl hl.1 rfl (Nat.le_of_ble_eq_true rfl) dX6_put_2 ⟨(Nat.zero_le _), (Nat.zero_le _)⟩) (fun r2 h => ?_)
  refine lv_if_eq (tgt := 19) hx hb dX6_put_5 (by decide) (fun hc => ?_) (fun hc => ?_)
  · have h := h.1 hc
    exact W.vret hx hb hr (fun t ht _ => ⟨⟨g_elements, rfl, h, hPt hP ht⟩, hS.F ht⟩) hS.2.2 dX6_put_19
  have h := h.2 hc
  refine lv_aload_n hx hb dX6_put_8 rfl (lv_at hl 0 rfl) ?_
  refine gf S hE hP 0 rfl rfl inX6 (k := 0) (by decide) q164 rfl dX6_put_9 ?_
  refine lv_iload_n hx hb dX6_put_12 rfl (lv_at hl 1 rfl) ?_
  refine lv_aload_n hx hb dX6_put_13 rfl (lv_at hl 0 rfl) ?_
  refine lv_lload_n hx hb dX6_put_14 rfl (lv_at hl 2 rfl) ?_
  refine ro_l (roV S hE hT hS (c_X6_lowestBits h) lkX6_54 rfl ⟨(Nat.le_of_ble_eq_true rfl), (Nat.le_of_ble_eq_true rfl)⟩ (hP.sub [0] rfl) 0 rfl rfl hl.1 rfl (Nat.le_of_ble_eq_true rfl) dX6_put_15 ⟨(Nat.zero_le _), (Nat.zero_le _)⟩) (fun r15 h => ?_)
  obtain ⟨hi, h⟩ := h
  refine las S hE hP hD hS 1 rfl hi dX6_put_18 (fun H locs hP hD hS => ?_)
  have hP : va_P D vwCl (wX6_put cI cJ cS a_o a_elements v_held v_sort v_elementCount v_stretchNumber (vp_updL g_elements x1.toNatClampNeg r15)) H := hP
  have hD : va_D A (wX6_put cI cJ cS a_o a_elements v_held v_sort v_elementCount v_stretchNumber (vp_updL g_elements x1.toNatClampNeg r15)) := hD
  exact W.vret hx hb hr (fun t ht _ => ⟨⟨(vp_updL g_elements x1.toNatClampNeg r15), rfl, h, hPt hP ht⟩, hS.F ht⟩) hS.2.2 dX6_put_19
/-! X6_elementAt -/
abbrev wX6_elementAt (cI cJ cS : ClassId) (a_o a_elements : Nat) (v_held : Int32) (v_sort : Int32) (v_elementCount : Int32) (v_stretchNumber : Int32) (g_elements : Nat → Int64) : va_W := [(a_o, .inr (5, [.ref a_elements, .int v_held, .int v_sort, .int v_elementCount, .int v_stretchNumber])), (a_elements, .inl (cJ, 160, .inr (.inl g_elements)))]
def F_X6_elementAt (v_elementCount : Int32) (g_elements : Nat → Int64) (x1 : Int32) (post : Int64 → Prop) : Prop := (F_X6_hasElement v_elementCount x1 (fun r2 => ((r2 = 0 → post 0) ∧ (¬ r2 = 0 → (vp_in x1 160 ∧ post (g_elements x1.toNatClampNeg))))))
set_option maxHeartbeats 4000000 in
set_option maxRecDepth 100000 in
theorem c_X6_elementAt {l : Launch} {D : va_G} {cI cJ cS : ClassId} {ad adK : Nat → Nat} {a_o a_elements : Nat} {v_held : Int32} {v_sort : Int32} {v_elementCount : Int32} {v_stretchNumber : Int32} {g_elements : Nat → Int64} {x1 : Int32} {post : Int64 → Prop} (h : F_X6_elementAt v_elementCount g_elements x1 post) : Met l yX6_elementAt (Cond.code yX6_elementAt cX6_elementAt 2 (some (.long)) :: GW) (rmd 1 0 0) (PR D cI cJ cS ad adK [.ref a_o, .int x1] (wX6_elementAt cI cJ cS a_o a_elements v_held v_sort v_elementCount v_stretchNumber g_elements)) (vp_Sl post) 0 0 nof := by
  refine Met.ro (by decide) (Nat.le_of_ble_eq_true rfl) (fun p e s m args below meth c ls (S : CallFix p m c cX6_elementAt 2 s args GW "RoadThatSings$Shelf") hE hT hP hS hr hlocks hl => ?_)
  have hx := S.1
  have hb := S.2.1
  have hl : lv_has ls 2 [(0, .ref a_o), (1, .int x1)] := hl
  unfold F_X6_elementAt at h
  refine lv_aload_n hx hb dX6_elementAt_0 rfl (lv_at hl 0 rfl) ?_
  refine lv_iload_n hx hb dX6_elementAt_1 rfl (lv_at hl 1 rfl) ?_
  refine ro_i (roV S hE hT hS (c_X6_hasElement h) lkX6_50 rfl ⟨(Nat.le_of_ble_eq_true rfl), (Nat.le_of_ble_eq_true rfl)⟩ (hP.sub [0] rfl) 0 rfl rfl hl.1 rfl (Nat.le_of_ble_eq_true rfl) dX6_elementAt_2 ⟨(Nat.zero_le _), (Nat.zero_le _)⟩) (fun r2 h => ?_)
  refine lv_if_eq (tgt := 17) hx hb dX6_elementAt_5 (by decide) (fun hc => ?_) (fun hc => ?_)
  · have h := h.1 hc
    refine lv_lconst (v := 0) hx hb dX6_elementAt_17 (by decide) ?_
    exact W.lret hx hb hr (fun t ht _ => ⟨_, rfl, h, ht⟩) (fun _ hq => by cases hq) dX6_elementAt_18
  have h := h.2 hc
  refine lv_aload_n hx hb dX6_elementAt_8 rfl (lv_at hl 0 rfl) ?_
  refine gf S hE hP 0 rfl rfl inX6 (k := 0) (by decide) q164 rfl dX6_elementAt_9 ?_
  refine lv_iload_n hx hb dX6_elementAt_12 rfl (lv_at hl 1 rfl) ?_
  obtain ⟨hi, h⟩ := h
  refine lal S hE hP 1 rfl hi dX6_elementAt_13 ?_
  refine lv_goto (tgt := 18) hx hb dX6_elementAt_14 (by decide) ?_
  exact W.lret hx hb hr (fun t ht _ => ⟨_, rfl, h, ht⟩) (fun _ hq => by cases hq) dX6_elementAt_18
/-! X6_takeFrom -/
abbrev wX6_takeFrom (cI cJ cS : ClassId) (a_o a_elements a_p1 a_p1_elements : Nat) (v_held : Int32) (v_sort : Int32) (v_elementCount : Int32) (v_stretchNumber : Int32) (g_elements : Nat → Int64) (v_p1_held : Int32) (v_p1_sort : Int32) (v_p1_elementCount : Int32) (v_p1_stretchNumber : Int32) (g_p1_elements : Nat → Int64) : va_W := [(a_o, .inr (5, [.ref a_elements, .int v_held, .int v_sort, .int v_elementCount, .int v_stretchNumber])), (a_elements, .inl (cJ, 160, .inr (.inl g_elements))), (a_p1, .inr (5, [.ref a_p1_elements, .int v_p1_held, .int v_p1_sort, .int v_p1_elementCount, .int v_p1_stretchNumber])), (a_p1_elements, .inl (cJ, 160, .inr (.inl g_p1_elements)))]
def F_X6_takeFrom (v_elementCount : Int32) (g_elements : Nat → Int64) (v_p1_elementCount : Int32) (g_p1_elements : Nat → Int64) (x2 : Int32) (x3 : Int32) (x4 : Int32) (post : (Nat → Int64) → Prop) : Prop := (F_X6_hasElements v_p1_elementCount x2 x4 (fun r4 => ((r4 = 0 → post g_elements) ∧ (¬ r4 = 0 → (F_X6_hasElements v_elementCount x3 x4 (fun r14 => ((r14 = 0 → post g_elements) ∧ (¬ r14 = 0 → (¬ x2 < 0 ∧ (¬ x3 < 0 ∧ (¬ x4 < 0 ∧ (x2.toNatClampNeg + x4.toNatClampNeg ≤ 160 ∧ (x3.toNatClampNeg + x4.toNatClampNeg ≤ 160 ∧ post (va_cpy g_p1_elements g_elements x2.toNatClampNeg x3.toNatClampNeg x4.toNatClampNeg))))))))))))))
set_option maxHeartbeats 4000000 in
set_option maxRecDepth 100000 in
theorem c_X6_takeFrom {l : Launch} {D : va_G} {cI cJ cS : ClassId} {ad adK : Nat → Nat} {a_o a_elements a_p1 a_p1_elements : Nat} {v_held : Int32} {v_sort : Int32} {v_elementCount : Int32} {v_stretchNumber : Int32} {g_elements : Nat → Int64} {v_p1_held : Int32} {v_p1_sort : Int32} {v_p1_elementCount : Int32} {v_p1_stretchNumber : Int32} {g_p1_elements : Nat → Int64} {x2 : Int32} {x3 : Int32} {x4 : Int32} {post : (Nat → Int64) → Prop} (h : F_X6_takeFrom v_elementCount g_elements v_p1_elementCount g_p1_elements x2 x3 x4 post) {sz : Nat} : Met l yX6_takeFrom (Cond.code yX6_takeFrom cX6_takeFrom 5 none :: GW) (rmd 1 0 0) (PW D cI cJ cS ad adK [.ref a_o, .ref a_p1, .int x2, .int x3, .int x4] (wX6_takeFrom cI cJ cS a_o a_elements a_p1 a_p1_elements v_held v_sort v_elementCount v_stretchNumber g_elements v_p1_held v_p1_sort v_p1_elementCount v_p1_stretchNumber g_p1_elements) sz) (va_Qv (fun u : (Nat → Int64) => post u) (fun u t => va_P D vwCl (wX6_takeFrom cI cJ cS a_o a_elements a_p1 a_p1_elements v_held v_sort v_elementCount v_stretchNumber u v_p1_held v_p1_sort v_p1_elementCount v_p1_stretchNumber g_p1_elements) t.heap) (va_A (wX6_takeFrom cI cJ cS a_o a_elements a_p1 a_p1_elements v_held v_sort v_elementCount v_stretchNumber g_elements v_p1_held v_p1_sort v_p1_elementCount v_p1_stretchNumber g_p1_elements) sz)) 0 0 (va_A (wX6_takeFrom cI cJ cS a_o a_elements a_p1 a_p1_elements v_held v_sort v_elementCount v_stretchNumber g_elements v_p1_held v_p1_sort v_p1_elementCount v_p1_stretchNumber g_p1_elements) sz) := by
  refine Met.rw (Qc := fun A => (va_Qv (fun u : (Nat → Int64) => post u) (fun u t => va_P D vwCl (wX6_takeFrom cI cJ cS a_o a_elements a_p1 a_p1_elements v_held v_sort v_elementCount v_stretchNumber u v_p1_held v_p1_sort v_p1_elementCount v_p1_stretchNumber g_p1_elements) t.heap) A)) (by decide) (Nat.le_of_ble_eq_true rfl) (fun p e s m args below meth c ls A (S : CallFix p m c cX6_takeFrom 5 s args GW "RoadThatSings$Shelf") hE hT hP hD hA hS hr hlocks hname hl => ?_)
  have hS0 := hS
  have hx := S.1
  have hb := S.2.1
  have hl : lv_has ls 5 [(0, .ref a_o), (1, .ref a_p1), (2, .int x2), (3, .int x3), (4, .int x4)] := hl
  unfold F_X6_takeFrom at h
  refine lv_aload_n hx hb dX6_takeFrom_0 rfl (lv_at hl 1 rfl) ?_
  refine lv_iload_n hx hb dX6_takeFrom_1 rfl (lv_at hl 2 rfl) ?_
  refine lv_iload hx hb dX6_takeFrom_2 (lv_at hl 4 rfl) ?_
  refine ro_i (roV S hE hT hS (c_X6_hasElements h) lkX6_58 rfl ⟨(Nat.le_of_ble_eq_true rfl), (Nat.le_of_ble_eq_true rfl)⟩ (hP.sub [2] rfl) 0 rfl rfl hl.1 rfl (Nat.le_of_ble_eq_true rfl) dX6_takeFrom_4 ⟨(Nat.zero_le _), (Nat.zero_le _)⟩) (fun r4 h => ?_)
  refine lv_if_eq (tgt := 35) hx hb dX6_takeFrom_7 (by decide) (fun hc => ?_) (fun hc => ?_)
  · have h := h.1 hc
    exact W.vret hx hb hr (fun t ht _ => ⟨⟨g_elements, rfl, h, hPt hP ht⟩, hS.F ht⟩) hS.2.2 dX6_takeFrom_35
  have h := h.2 hc
  refine lv_aload_n hx hb dX6_takeFrom_10 rfl (lv_at hl 0 rfl) ?_
  refine lv_iload_n hx hb dX6_takeFrom_11 rfl (lv_at hl 3 rfl) ?_
  refine lv_iload hx hb dX6_takeFrom_12 (lv_at hl 4 rfl) ?_
  refine ro_i (roV S hE hT hS (c_X6_hasElements h) lkX6_58 rfl ⟨(Nat.le_of_ble_eq_true rfl), (Nat.le_of_ble_eq_true rfl)⟩ (hP.sub [0] rfl) 0 rfl rfl hl.1 rfl (Nat.le_of_ble_eq_true rfl) dX6_takeFrom_14 ⟨(Nat.zero_le _), (Nat.zero_le _)⟩) (fun r14 h => ?_)
  refine lv_if_eq (tgt := 35) hx hb dX6_takeFrom_17 (by decide) (fun hc => ?_) (fun hc => ?_)
  · have h := h.1 hc
    exact W.vret hx hb hr (fun t ht _ => ⟨⟨g_elements, rfl, h, hPt hP ht⟩, hS.F ht⟩) hS.2.2 dX6_takeFrom_35
  have h := h.2 hc
  refine lv_aload_n hx hb dX6_takeFrom_20 rfl (lv_at hl 1 rfl) ?_
  refine gf S hE hP 2 rfl rfl inX6 (k := 0) (by decide) q164 rfl dX6_takeFrom_21 ?_
  refine lv_iload_n hx hb dX6_takeFrom_24 rfl (lv_at hl 2 rfl) ?_
  refine lv_aload_n hx hb dX6_takeFrom_25 rfl (lv_at hl 0 rfl) ?_
  refine gf S hE hP 0 rfl rfl inX6 (k := 0) (by decide) q164 rfl dX6_takeFrom_26 ?_
  refine lv_iload_n hx hb dX6_takeFrom_29 rfl (lv_at hl 3 rfl) ?_
  refine lv_iload hx hb dX6_takeFrom_30 (lv_at hl 4 rfl) ?_
  obtain ⟨hq0, h⟩ := h
  obtain ⟨hq1, h⟩ := h
  obtain ⟨hq2, h⟩ := h
  obtain ⟨hq3, h⟩ := h
  obtain ⟨hq4, h⟩ := h
  refine acpl S hE hP hD hS hl.1 3 1 rfl rfl q287 q289 q288 q12 hq0 hq1 hq2 hq3 hq4 (Nat.le_of_ble_eq_true rfl) (Nat.le_of_ble_eq_true rfl) dX6_takeFrom_32 (fun H locs hP hD hS => ?_)
  have hP : va_P D vwCl (wX6_takeFrom cI cJ cS a_o a_elements a_p1 a_p1_elements v_held v_sort v_elementCount v_stretchNumber (va_cpy g_p1_elements g_elements x2.toNatClampNeg x3.toNatClampNeg x4.toNatClampNeg) v_p1_held v_p1_sort v_p1_elementCount v_p1_stretchNumber g_p1_elements) H := hP
  have hD : va_D A (wX6_takeFrom cI cJ cS a_o a_elements a_p1 a_p1_elements v_held v_sort v_elementCount v_stretchNumber (va_cpy g_p1_elements g_elements x2.toNatClampNeg x3.toNatClampNeg x4.toNatClampNeg) v_p1_held v_p1_sort v_p1_elementCount v_p1_stretchNumber g_p1_elements) := hD
  exact W.vret hx hb hr (fun t ht _ => ⟨⟨(va_cpy g_p1_elements g_elements x2.toNatClampNeg x3.toNatClampNeg x4.toNatClampNeg), rfl, h, hPt hP ht⟩, hS.F ht⟩) hS.2.2 dX6_takeFrom_35
/-! X6_takeFrom_same -/
abbrev wX6_takeFrom_same (cI cJ cS : ClassId) (a_o a_elements : Nat) (v_held : Int32) (v_sort : Int32) (v_elementCount : Int32) (v_stretchNumber : Int32) (g_elements : Nat → Int64) : va_W := [(a_o, .inr (5, [.ref a_elements, .int v_held, .int v_sort, .int v_elementCount, .int v_stretchNumber])), (a_elements, .inl (cJ, 160, .inr (.inl g_elements)))]
def F_X6_takeFrom_same (v_elementCount : Int32) (g_elements : Nat → Int64) (x2 : Int32) (x3 : Int32) (x4 : Int32) (post : (Nat → Int64) → Prop) : Prop := (F_X6_hasElements v_elementCount x2 x4 (fun r4 => ((r4 = 0 → post g_elements) ∧ (¬ r4 = 0 → (F_X6_hasElements v_elementCount x3 x4 (fun r14 => ((r14 = 0 → post g_elements) ∧ (¬ r14 = 0 → (¬ x2 < 0 ∧ (¬ x3 < 0 ∧ (¬ x4 < 0 ∧ (x2.toNatClampNeg + x4.toNatClampNeg ≤ 160 ∧ (x3.toNatClampNeg + x4.toNatClampNeg ≤ 160 ∧ post (va_cpy g_elements g_elements x2.toNatClampNeg x3.toNatClampNeg x4.toNatClampNeg))))))))))))))
set_option maxHeartbeats 4000000 in
set_option maxRecDepth 100000 in
theorem c_X6_takeFrom_same {l : Launch} {D : va_G} {cI cJ cS : ClassId} {ad adK : Nat → Nat} {a_o a_elements : Nat} {v_held : Int32} {v_sort : Int32} {v_elementCount : Int32} {v_stretchNumber : Int32} {g_elements : Nat → Int64} {x2 : Int32} {x3 : Int32} {x4 : Int32} {post : (Nat → Int64) → Prop} (h : F_X6_takeFrom_same v_elementCount g_elements x2 x3 x4 post) {sz : Nat} : Met l yX6_takeFrom (Cond.code yX6_takeFrom cX6_takeFrom 5 none :: GW) (rmd 1 0 0) (PW D cI cJ cS ad adK [.ref a_o, .ref a_o, .int x2, .int x3, .int x4] (wX6_takeFrom_same cI cJ cS a_o a_elements v_held v_sort v_elementCount v_stretchNumber g_elements) sz) (va_Qv (fun u : (Nat → Int64) => post u) (fun u t => va_P D vwCl (wX6_takeFrom_same cI cJ cS a_o a_elements v_held v_sort v_elementCount v_stretchNumber u) t.heap) (va_A (wX6_takeFrom_same cI cJ cS a_o a_elements v_held v_sort v_elementCount v_stretchNumber g_elements) sz)) 0 0 (va_A (wX6_takeFrom_same cI cJ cS a_o a_elements v_held v_sort v_elementCount v_stretchNumber g_elements) sz) := by
  refine Met.rw (Qc := fun A => (va_Qv (fun u : (Nat → Int64) => post u) (fun u t => va_P D vwCl (wX6_takeFrom_same cI cJ cS a_o a_elements v_held v_sort v_elementCount v_stretchNumber u) t.heap) A)) (by decide) (Nat.le_of_ble_eq_true rfl) (fun p e s m args below meth c ls A (S : CallFix p m c cX6_takeFrom 5 s args GW "RoadThatSings$Shelf") hE hT hP hD hA hS hr hlocks hname hl => ?_)
  have hS0 := hS
  have hx := S.1
  have hb := S.2.1
  have hl : lv_has ls 5 [(0, .ref a_o), (1, .ref a_o), (2, .int x2), (3, .int x3), (4, .int x4)] := hl
  unfold F_X6_takeFrom_same at h
  refine lv_aload_n hx hb dX6_takeFrom_0 rfl (lv_at hl 1 rfl) ?_
  refine lv_iload_n hx hb dX6_takeFrom_1 rfl (lv_at hl 2 rfl) ?_
  refine lv_iload hx hb dX6_takeFrom_2 (lv_at hl 4 rfl) ?_
  refine ro_i (roV S hE hT hS (c_X6_hasElements h) lkX6_58 rfl ⟨(Nat.le_of_ble_eq_true rfl), (Nat.le_of_ble_eq_true rfl)⟩ (hP.sub [0] rfl) 0 rfl rfl hl.1 rfl (Nat.le_of_ble_eq_true rfl) dX6_takeFrom_4 ⟨(Nat.zero_le _), (Nat.zero_le _)⟩) (fun r4 h => ?_)
  refine lv_if_eq (tgt := 35) hx hb dX6_takeFrom_7 (by decide) (fun hc => ?_) (fun hc => ?_)
  · have h := h.1 hc
    exact W.vret hx hb hr (fun t ht _ => ⟨⟨g_elements, rfl, h, hPt hP ht⟩, hS.F ht⟩) hS.2.2 dX6_takeFrom_35
  have h := h.2 hc
  refine lv_aload_n hx hb dX6_takeFrom_10 rfl (lv_at hl 0 rfl) ?_
  refine lv_iload_n hx hb dX6_takeFrom_11 rfl (lv_at hl 3 rfl) ?_
  refine lv_iload hx hb dX6_takeFrom_12 (lv_at hl 4 rfl) ?_
  refine ro_i (roV S hE hT hS (c_X6_hasElements h) lkX6_58 rfl ⟨(Nat.le_of_ble_eq_true rfl), (Nat.le_of_ble_eq_true rfl)⟩ (hP.sub [0] rfl) 0 rfl rfl hl.1 rfl (Nat.le_of_ble_eq_true rfl) dX6_takeFrom_14 ⟨(Nat.zero_le _), (Nat.zero_le _)⟩) (fun r14 h => ?_)
  refine lv_if_eq (tgt := 35) hx hb dX6_takeFrom_17 (by decide) (fun hc => ?_) (fun hc => ?_)
  · have h := h.1 hc
    exact W.vret hx hb hr (fun t ht _ => ⟨⟨g_elements, rfl, h, hPt hP ht⟩, hS.F ht⟩) hS.2.2 dX6_takeFrom_35
  have h := h.2 hc
  refine lv_aload_n hx hb dX6_takeFrom_20 rfl (lv_at hl 1 rfl) ?_
  refine gf S hE hP 0 rfl rfl inX6 (k := 0) (by decide) q164 rfl dX6_takeFrom_21 ?_
  refine lv_iload_n hx hb dX6_takeFrom_24 rfl (lv_at hl 2 rfl) ?_
  refine lv_aload_n hx hb dX6_takeFrom_25 rfl (lv_at hl 0 rfl) ?_
  refine gf S hE hP 0 rfl rfl inX6 (k := 0) (by decide) q164 rfl dX6_takeFrom_26 ?_
  refine lv_iload_n hx hb dX6_takeFrom_29 rfl (lv_at hl 3 rfl) ?_
  refine lv_iload hx hb dX6_takeFrom_30 (lv_at hl 4 rfl) ?_
  obtain ⟨hq0, h⟩ := h
  obtain ⟨hq1, h⟩ := h
  obtain ⟨hq2, h⟩ := h
  obtain ⟨hq3, h⟩ := h
  obtain ⟨hq4, h⟩ := h
  refine acpl S hE hP hD hS hl.1 1 1 rfl rfl q287 q289 q288 q12 hq0 hq1 hq2 hq3 hq4 (Nat.le_of_ble_eq_true rfl) (Nat.le_of_ble_eq_true rfl) dX6_takeFrom_32 (fun H locs hP hD hS => ?_)
  have hP : va_P D vwCl (wX6_takeFrom_same cI cJ cS a_o a_elements v_held v_sort v_elementCount v_stretchNumber (va_cpy g_elements g_elements x2.toNatClampNeg x3.toNatClampNeg x4.toNatClampNeg)) H := hP
  have hD : va_D A (wX6_takeFrom_same cI cJ cS a_o a_elements v_held v_sort v_elementCount v_stretchNumber (va_cpy g_elements g_elements x2.toNatClampNeg x3.toNatClampNeg x4.toNatClampNeg)) := hD
  exact W.vret hx hb hr (fun t ht _ => ⟨⟨(va_cpy g_elements g_elements x2.toNatClampNeg x3.toNatClampNeg x4.toNatClampNeg), rfl, h, hPt hP ht⟩, hS.F ht⟩) hS.2.2 dX6_takeFrom_35
/-! X7_leave -/
abbrev wX7_leave (cI cJ cS : ClassId) (a_o : Nat) (z_kinds z_spaces z_others z_times : Value) (v_stretchCount : Int32) : va_W := [(a_o, .inr (6, [z_kinds, z_spaces, z_others, z_times, .int v_stretchCount]))]
def F_X7_leave (v_stretchCount : Int32) (x1 : Int32) (post : Int32 → Prop) : Prop := post (if 0 < (if v_stretchCount < x1 then v_stretchCount else x1) then (if v_stretchCount < x1 then v_stretchCount else x1) else 0)
set_option maxHeartbeats 4000000 in
set_option maxRecDepth 100000 in
theorem c_X7_leave {l : Launch} {D : va_G} {cI cJ cS : ClassId} {ad adK : Nat → Nat} {a_o : Nat} {z_kinds z_spaces z_others z_times : Value} {v_stretchCount : Int32} {x1 : Int32} {post : Int32 → Prop} (h : F_X7_leave v_stretchCount x1 post) {sz : Nat} : Met l yX7_leave (Cond.code yX7_leave cX7_leave 2 none :: GW) (rmd 1 0 0) (PW D cI cJ cS ad adK [.ref a_o, .int x1] (wX7_leave cI cJ cS a_o z_kinds z_spaces z_others z_times v_stretchCount) sz) (va_Qv (fun u : Int32 => post u) (fun u t => va_P D vwCl (wX7_leave cI cJ cS a_o z_kinds z_spaces z_others z_times u) t.heap) (va_A (wX7_leave cI cJ cS a_o z_kinds z_spaces z_others z_times v_stretchCount) sz)) 0 0 (va_A (wX7_leave cI cJ cS a_o z_kinds z_spaces z_others z_times v_stretchCount) sz) := by
  refine Met.rw (Qc := fun A => (va_Qv (fun u : Int32 => post u) (fun u t => va_P D vwCl (wX7_leave cI cJ cS a_o z_kinds z_spaces z_others z_times u) t.heap) A)) (by decide) (Nat.le_of_ble_eq_true rfl) (fun p e s m args below meth c ls A (S : CallFix p m c cX7_leave 2 s args GW "RoadThatSings$Stretches") hE hT hP hD hA hS hr hlocks hname hl => ?_)
  have hS0 := hS
  have hx := S.1
  have hb := S.2.1
  have hl : lv_has ls 2 [(0, .ref a_o), (1, .int x1)] := hl
  unfold F_X7_leave at h
  refine lv_aload_n hx hb dX7_leave_0 rfl (lv_at hl 0 rfl) ?_
  refine lv_iconst (v := 0) hx hb dX7_leave_1 (by decide) ?_
  refine lv_iload_n hx hb dX7_leave_2 rfl (lv_at hl 1 rfl) ?_
  refine lv_aload_n hx hb dX7_leave_3 rfl (lv_at hl 0 rfl) ?_
  refine gf S hE hP 0 rfl rfl inX7 (k := 4) (by decide) q42 rfl dX7_leave_4 ?_
  refine va_mmin hx hb (S.2.2.1.trans hl.1.symm) S.2.2.2.1 (S.2.2.2.2 _ q412) (S.2.2.2.2 _ q233) (S.2.2.2.2 _ q10) (S.2.2.2.2 _ q234) (Nat.le_of_ble_eq_true rfl) (Nat.le_of_ble_eq_true rfl) (Nat.zero_le _) (Nat.zero_le _) dX7_leave_7 ?_
  refine va_mmax hx hb (S.2.2.1.trans hl.1.symm) S.2.2.2.1 (S.2.2.2.2 _ q413) (S.2.2.2.2 _ q236) (S.2.2.2.2 _ q10) (S.2.2.2.2 _ q237) (Nat.le_of_ble_eq_true rfl) (Nat.le_of_ble_eq_true rfl) (Nat.zero_le _) (Nat.zero_le _) dX7_leave_10 ?_
  refine pf S hE hP hD hS 0 (k := 4) rfl rfl inX7 tyX7_ok nmX7 (by decide) q42 rfl rfl rfl (Nat.le_of_ble_eq_true rfl) dX7_leave_13 (fun H locs hP hD hS => ?_)
  have hP : va_P D vwCl (wX7_leave cI cJ cS a_o z_kinds z_spaces z_others z_times (if 0 < (if v_stretchCount < x1 then v_stretchCount else x1) then (if v_stretchCount < x1 then v_stretchCount else x1) else 0)) H := hP
  have hD : va_D A (wX7_leave cI cJ cS a_o z_kinds z_spaces z_others z_times (if 0 < (if v_stretchCount < x1 then v_stretchCount else x1) then (if v_stretchCount < x1 then v_stretchCount else x1) else 0)) := hD
  exact W.vret hx hb hr (fun t ht _ => ⟨⟨(if 0 < (if v_stretchCount < x1 then v_stretchCount else x1) then (if v_stretchCount < x1 then v_stretchCount else x1) else 0), rfl, h, hPt hP ht⟩, hS.F ht⟩) hS.2.2 dX7_leave_16
/-! X7_lengthOfAll -/
abbrev wX7_lengthOfAll (cI cJ cS : ClassId) (a_o a_kinds a_others a_spaces a_times : Nat) (v_stretchCount : Int32) (f_kinds : Nat → Int32) (f_others : Nat → Int32) (f_spaces : Nat → Int32) (f_times : Nat → Int32) : va_W := [(a_o, .inr (6, [.ref a_kinds, .ref a_spaces, .ref a_others, .ref a_times, .int v_stretchCount])), (a_kinds, .inl (cI, 16, .inl f_kinds)), (a_others, .inl (cI, 16, .inl f_others)), (a_spaces, .inl (cI, 16, .inl f_spaces)), (a_times, .inl (cI, 16, .inl f_times))]
def L_X7_lengthOfAll_4 (v_stretchCount : Int32) (f_kinds : Nat → Int32) (f_others : Nat → Int32) (f_spaces : Nat → Int32) (f_times : Nat → Int32) (post : Int32 → Prop) : Nat → Int32 → Int32 → Prop
  | 0, _, _ => False
  | n4 + 1, x1, x2 => ((v_stretchCount ≤ x2 → post x1) ∧ (¬ v_stretchCount ≤ x2 → (F_X7_lengthOf v_stretchCount f_kinds f_others f_spaces f_times x2 (fun r15 => (∀ x1_19 : Int32, x1_19 = x1 + r15 → (∀ x2_20 : Int32, x2_20 = x2 + 1 → L_X7_lengthOfAll_4 v_stretchCount f_kinds f_others f_spaces f_times post n4 x1_19 x2_20))))))
def F_X7_lengthOfAll (v_stretchCount : Int32) (f_kinds : Nat → Int32) (f_others : Nat → Int32) (f_spaces : Nat → Int32) (f_times : Nat → Int32) (post : Int32 → Prop) : Prop := (∃ n4 : Nat, L_X7_lengthOfAll_4 v_stretchCount f_kinds f_others f_spaces f_times post n4 0 0)
set_option maxHeartbeats 4000000 in
set_option maxRecDepth 100000 in
theorem w_X7_lengthOfAll_4 {l : Launch} {D : va_G} {cI cJ cS : ClassId} {ad adK : Nat → Nat} {a_o a_kinds a_others a_spaces a_times : Nat} {v_stretchCount : Int32} {f_kinds : Nat → Int32} {f_others : Nat → Int32} {f_spaces : Nat → Int32} {f_times : Nat → Int32} {post : Int32 → Prop} {p : Program} {e : Env} {s : State} {m : MethodId} {args : Array Value} {below : List Frame} {meth : Method} {c : Code} (S : CallFix p m c cX7_lengthOfAll 3 s args GW "RoadThatSings$Stretches") (hE : EN D cI cJ cS s) (hT : ST ad adK nof s s.heap) (hP : va_P D vwCl (wX7_lengthOfAll cI cJ cS a_o a_kinds a_others a_spaces a_times v_stretchCount f_kinds f_others f_spaces f_times) s.heap) (hS : va_S nof s.heap s.heap []) (hr : meth.sig.returnType = (some (.int))) (hlocks : meth.locks = false) : ∀ n : Nat, ∀ (x1 : Int32) (x2 : Int32) (ls : Array Slot), L_X7_lengthOfAll_4 v_stretchCount f_kinds f_others f_spaces f_times post n x1 x2 → lv_has ls 3 [(0, .ref a_o), (1, .int x1), (2, .int x2)] → W p l e (rmd 3 0 0) s m args below meth c s.heap [] 0 0 (MQ below (vp_Si post) args s 0 0 nof) (F0 m 4 ls []) := by
  intro n
  induction n with
  | zero =>
    intro x1 x2 ls h hl
    exact h.elim
  | succ n ih =>
    intro x1 x2 ls h hl
    rw [L_X7_lengthOfAll_4] at h
    have hx := S.1
    have hb := S.2.1
    refine lv_iload_n hx hb dX7_lengthOfAll_4 rfl (lv_at hl 2 rfl) ?_
    refine lv_aload_n hx hb dX7_lengthOfAll_5 rfl (lv_at hl 0 rfl) ?_
    refine gf S hE hP 0 rfl rfl inX7 (k := 4) (by decide) q42 rfl dX7_lengthOfAll_6 ?_
    refine lv_icmp_ge (tgt := 26) hx hb dX7_lengthOfAll_9 (by decide) (fun hc => ?_) (fun hc => ?_)
    · have h := h.1 hc
      refine lv_iload_n hx hb dX7_lengthOfAll_26 rfl (lv_at hl 1 rfl) ?_
      exact W.iret hx hb hr (fun t ht _ => ⟨_, rfl, h, ht⟩) (fun _ hq => by cases hq) dX7_lengthOfAll_27
    have h := h.2 hc
    refine lv_iload_n hx hb dX7_lengthOfAll_12 rfl (lv_at hl 1 rfl) ?_
    refine lv_aload_n hx hb dX7_lengthOfAll_13 rfl (lv_at hl 0 rfl) ?_
    refine lv_iload_n hx hb dX7_lengthOfAll_14 rfl (lv_at hl 2 rfl) ?_
    refine ro_i (roV S hE hT hS (c_X7_lengthOf h) lkX7_67 rfl ⟨(Nat.le_of_ble_eq_true rfl), (Nat.le_of_ble_eq_true rfl)⟩ (hP.sub [0, 1, 2, 3, 4] rfl) 0 rfl rfl hl.1 rfl (Nat.le_of_ble_eq_true rfl) dX7_lengthOfAll_15 ⟨(Nat.zero_le _), (Nat.zero_le _)⟩) (fun r15 h => ?_)
    refine lv_iadd hx hb dX7_lengthOfAll_18 ?_
    refine lv_topi (fun x1_19 ex1_19 => ?_)
    have h := h _ ex1_19
    refine lv_istore_n (lv' := [(1, .int x1_19), (0, .ref a_o), (2, .int x2)]) hx hb dX7_lengthOfAll_19 rfl hl (by decide) rfl (fun ls hl => ?_)
    obtain ⟨x2_20, ex2_20⟩ : ∃ z : Int32, z = x2 + 1 := ⟨_, rfl⟩
    have h := h _ ex2_20
    refine lv_iinc (v := x2_20) (lv' := [(2, .int x2_20), (1, .int x1_19), (0, .ref a_o)]) hx hb dX7_lengthOfAll_20 hl (k := 2) rfl (by rw [ex2_20]; rfl) (by decide) rfl (fun ls hl => ?_)
    refine lv_goto (tgt := 4) hx hb dX7_lengthOfAll_23 (by decide) ?_
    exact ih _ _ _ h (lv_sub hl [2, 1, 0] rfl)
set_option maxHeartbeats 4000000 in
set_option maxRecDepth 100000 in
theorem c_X7_lengthOfAll {l : Launch} {D : va_G} {cI cJ cS : ClassId} {ad adK : Nat → Nat} {a_o a_kinds a_others a_spaces a_times : Nat} {v_stretchCount : Int32} {f_kinds : Nat → Int32} {f_others : Nat → Int32} {f_spaces : Nat → Int32} {f_times : Nat → Int32} {post : Int32 → Prop} (h : F_X7_lengthOfAll v_stretchCount f_kinds f_others f_spaces f_times post) : Met l yX7_lengthOfAll (Cond.code yX7_lengthOfAll cX7_lengthOfAll 3 (some (.int)) :: GW) (rmd 3 0 0) (PR D cI cJ cS ad adK [.ref a_o] (wX7_lengthOfAll cI cJ cS a_o a_kinds a_others a_spaces a_times v_stretchCount f_kinds f_others f_spaces f_times)) (vp_Si post) 0 0 nof := by
  refine Met.ro (by decide) (Nat.le_of_ble_eq_true rfl) (fun p e s m args below meth c ls (S : CallFix p m c cX7_lengthOfAll 3 s args GW "RoadThatSings$Stretches") hE hT hP hS hr hlocks hl => ?_)
  have hx := S.1
  have hb := S.2.1
  have hl : lv_has ls 3 [(0, .ref a_o)] := hl
  unfold F_X7_lengthOfAll at h
  refine lv_iconst (v := 0) hx hb dX7_lengthOfAll_0 (by decide) ?_
  refine lv_istore_n (lv' := [(1, .int 0), (0, .ref a_o)]) hx hb dX7_lengthOfAll_1 rfl hl (by decide) rfl (fun ls hl => ?_)
  refine lv_iconst (v := 0) hx hb dX7_lengthOfAll_2 (by decide) ?_
  refine lv_istore_n (lv' := [(2, .int 0), (1, .int 0), (0, .ref a_o)]) hx hb dX7_lengthOfAll_3 rfl hl (by decide) rfl (fun ls hl => ?_)
  obtain ⟨n, h⟩ := h
  refine w_X7_lengthOfAll_4 S hE hT hP hS hr hlocks n _ _ _ h (lv_sub hl [2, 1, 0] rfl)
/-! X7_sayingOf -/
abbrev wX7_sayingOf (cI cJ cS : ClassId) (a_o a_kinds a_others a_spaces a_times : Nat) (v_stretchCount : Int32) (f_kinds : Nat → Int32) (f_others : Nat → Int32) (f_spaces : Nat → Int32) (f_times : Nat → Int32) : va_W := [(a_o, .inr (6, [.ref a_kinds, .ref a_spaces, .ref a_others, .ref a_times, .int v_stretchCount])), (a_kinds, .inl (cI, 16, .inl f_kinds)), (a_others, .inl (cI, 16, .inl f_others)), (a_spaces, .inl (cI, 16, .inl f_spaces)), (a_times, .inl (cI, 16, .inl f_times))]
def F_X7_sayingOf (v_stretchCount : Int32) (f_kinds : Nat → Int32) (f_others : Nat → Int32) (f_spaces : Nat → Int32) (f_times : Nat → Int32) (x1 : Int32) (x2 : Int32) (post : Int32 → Prop) : Prop := ((x2 = 0 → (F_X7_lengthOf v_stretchCount f_kinds f_others f_spaces f_times x1 (fun r46 => post r46))) ∧ (¬ x2 = 0 → ((x2 = 1 → (F_X7_spaceOf v_stretchCount f_spaces x1 (fun r76 => post r76))) ∧ (¬ x2 = 1 → ((x2 = 2 → (F_X7_spaceOf v_stretchCount f_spaces x1 (fun r52 => (F_X7_otherOf v_stretchCount f_others x1 (fun r57 => post (r52 + r57)))))) ∧ (¬ x2 = 2 → ((x2 = 3 → (F_X7_timesOf v_stretchCount f_times x1 (fun r64 => post r64))) ∧ (¬ x2 = 3 → ((x2 = 4 → (F_X7_spaceOf v_stretchCount f_spaces x1 (fun r76 => post r76))) ∧ (¬ x2 = 4 → ((x2 = 5 → (F_X7_spaceOf v_stretchCount f_spaces x1 (fun r52 => (F_X7_otherOf v_stretchCount f_others x1 (fun r57 => post (r52 + r57)))))) ∧ (¬ x2 = 5 → ((x2 = 6 → (F_X7_otherOf v_stretchCount f_others x1 (fun r70 => post r70))) ∧ (¬ x2 = 6 → (F_X7_spaceOf v_stretchCount f_spaces x1 (fun r76 => post r76))))))))))))))))
set_option maxHeartbeats 4000000 in
set_option maxRecDepth 100000 in
theorem c_X7_sayingOf {l : Launch} {D : va_G} {cI cJ cS : ClassId} {ad adK : Nat → Nat} {a_o a_kinds a_others a_spaces a_times : Nat} {v_stretchCount : Int32} {f_kinds : Nat → Int32} {f_others : Nat → Int32} {f_spaces : Nat → Int32} {f_times : Nat → Int32} {x1 : Int32} {x2 : Int32} {post : Int32 → Prop} (h : F_X7_sayingOf v_stretchCount f_kinds f_others f_spaces f_times x1 x2 post) : Met l yX7_sayingOf (Cond.code yX7_sayingOf cX7_sayingOf 3 (some (.int)) :: GW) (rmd 3 0 0) (PR D cI cJ cS ad adK [.ref a_o, .int x1, .int x2] (wX7_sayingOf cI cJ cS a_o a_kinds a_others a_spaces a_times v_stretchCount f_kinds f_others f_spaces f_times)) (vp_Si post) 0 0 nof := by
  refine Met.ro (by decide) (Nat.le_of_ble_eq_true rfl) (fun p e s m args below meth c ls (S : CallFix p m c cX7_sayingOf 3 s args GW "RoadThatSings$Stretches") hE hT hP hS hr hlocks hl => ?_)
  have hx := S.1
  have hb := S.2.1
  have hl : lv_has ls 3 [(0, .ref a_o), (1, .int x1), (2, .int x2)] := hl
  unfold F_X7_sayingOf at h
  refine lv_iload_n hx hb dX7_sayingOf_0 rfl (lv_at hl 2 rfl) ?_
  by_cases hk0 : x2 = 0
  · have h := h.1 hk0
    refine lv_tableIn (off := 43) (tgt := 44) hx hb dX7_sayingOf_1 (by rw [hk0]; decide) (by rw [hk0]; decide) (by rw [hk0]; rfl) (by decide) ?_
    refine lv_aload_n hx hb dX7_sayingOf_44 rfl (lv_at hl 0 rfl) ?_
    refine lv_iload_n hx hb dX7_sayingOf_45 rfl (lv_at hl 1 rfl) ?_
    refine ro_i (roV S hE hT hS (c_X7_lengthOf h) lkX7_67 rfl ⟨(Nat.le_of_ble_eq_true rfl), (Nat.le_of_ble_eq_true rfl)⟩ (hP.sub [0, 1, 2, 3, 4] rfl) 0 rfl rfl hl.1 rfl (Nat.le_of_ble_eq_true rfl) dX7_sayingOf_46 ⟨(Nat.zero_le _), (Nat.zero_le _)⟩) (fun r46 h => ?_)
    exact W.iret hx hb hr (fun t ht _ => ⟨_, rfl, h, ht⟩) (fun _ hq => by cases hq) dX7_sayingOf_49
  have h := h.2 hk0
  by_cases hk1 : x2 = 1
  · have h := h.1 hk1
    refine lv_tableIn (off := 73) (tgt := 74) hx hb dX7_sayingOf_1 (by rw [hk1]; decide) (by rw [hk1]; decide) (by rw [hk1]; rfl) (by decide) ?_
    refine lv_aload_n hx hb dX7_sayingOf_74 rfl (lv_at hl 0 rfl) ?_
    refine lv_iload_n hx hb dX7_sayingOf_75 rfl (lv_at hl 1 rfl) ?_
    refine ro_i (roV S hE hT hS (c_X7_spaceOf h) lkX7_70 rfl ⟨(Nat.le_of_ble_eq_true rfl), (Nat.le_of_ble_eq_true rfl)⟩ (hP.sub [0, 3] rfl) 0 rfl rfl hl.1 rfl (Nat.le_of_ble_eq_true rfl) dX7_sayingOf_76 ⟨(Nat.zero_le _), (Nat.zero_le _)⟩) (fun r76 h => ?_)
    exact W.iret hx hb hr (fun t ht _ => ⟨_, rfl, h, ht⟩) (fun _ hq => by cases hq) dX7_sayingOf_79
  have h := h.2 hk1
  by_cases hk2 : x2 = 2
  · have h := h.1 hk2
    refine lv_tableIn (off := 49) (tgt := 50) hx hb dX7_sayingOf_1 (by rw [hk2]; decide) (by rw [hk2]; decide) (by rw [hk2]; rfl) (by decide) ?_
    refine lv_aload_n hx hb dX7_sayingOf_50 rfl (lv_at hl 0 rfl) ?_
    refine lv_iload_n hx hb dX7_sayingOf_51 rfl (lv_at hl 1 rfl) ?_
    refine ro_i (roV S hE hT hS (c_X7_spaceOf h) lkX7_70 rfl ⟨(Nat.le_of_ble_eq_true rfl), (Nat.le_of_ble_eq_true rfl)⟩ (hP.sub [0, 3] rfl) 0 rfl rfl hl.1 rfl (Nat.le_of_ble_eq_true rfl) dX7_sayingOf_52 ⟨(Nat.zero_le _), (Nat.zero_le _)⟩) (fun r52 h => ?_)
    refine lv_aload_n hx hb dX7_sayingOf_55 rfl (lv_at hl 0 rfl) ?_
    refine lv_iload_n hx hb dX7_sayingOf_56 rfl (lv_at hl 1 rfl) ?_
    refine ro_i (roV S hE hT hS (c_X7_otherOf h) lkX7_58 rfl ⟨(Nat.le_of_ble_eq_true rfl), (Nat.le_of_ble_eq_true rfl)⟩ (hP.sub [0, 2] rfl) 0 rfl rfl hl.1 rfl (Nat.le_of_ble_eq_true rfl) dX7_sayingOf_57 ⟨(Nat.zero_le _), (Nat.zero_le _)⟩) (fun r57 h => ?_)
    refine lv_iadd hx hb dX7_sayingOf_60 ?_
    exact W.iret hx hb hr (fun t ht _ => ⟨_, rfl, h, ht⟩) (fun _ hq => by cases hq) dX7_sayingOf_61
  have h := h.2 hk2
  by_cases hk3 : x2 = 3
  · have h := h.1 hk3
    refine lv_tableIn (off := 61) (tgt := 62) hx hb dX7_sayingOf_1 (by rw [hk3]; decide) (by rw [hk3]; decide) (by rw [hk3]; rfl) (by decide) ?_
    refine lv_aload_n hx hb dX7_sayingOf_62 rfl (lv_at hl 0 rfl) ?_
    refine lv_iload_n hx hb dX7_sayingOf_63 rfl (lv_at hl 1 rfl) ?_
    refine ro_i (roV S hE hT hS (c_X7_timesOf h) lkX7_64 rfl ⟨(Nat.le_of_ble_eq_true rfl), (Nat.le_of_ble_eq_true rfl)⟩ (hP.sub [0, 4] rfl) 0 rfl rfl hl.1 rfl (Nat.le_of_ble_eq_true rfl) dX7_sayingOf_64 ⟨(Nat.zero_le _), (Nat.zero_le _)⟩) (fun r64 h => ?_)
    exact W.iret hx hb hr (fun t ht _ => ⟨_, rfl, h, ht⟩) (fun _ hq => by cases hq) dX7_sayingOf_67
  have h := h.2 hk3
  by_cases hk4 : x2 = 4
  · have h := h.1 hk4
    refine lv_tableIn (off := 73) (tgt := 74) hx hb dX7_sayingOf_1 (by rw [hk4]; decide) (by rw [hk4]; decide) (by rw [hk4]; rfl) (by decide) ?_
    refine lv_aload_n hx hb dX7_sayingOf_74 rfl (lv_at hl 0 rfl) ?_
    refine lv_iload_n hx hb dX7_sayingOf_75 rfl (lv_at hl 1 rfl) ?_
    refine ro_i (roV S hE hT hS (c_X7_spaceOf h) lkX7_70 rfl ⟨(Nat.le_of_ble_eq_true rfl), (Nat.le_of_ble_eq_true rfl)⟩ (hP.sub [0, 3] rfl) 0 rfl rfl hl.1 rfl (Nat.le_of_ble_eq_true rfl) dX7_sayingOf_76 ⟨(Nat.zero_le _), (Nat.zero_le _)⟩) (fun r76 h => ?_)
    exact W.iret hx hb hr (fun t ht _ => ⟨_, rfl, h, ht⟩) (fun _ hq => by cases hq) dX7_sayingOf_79
  have h := h.2 hk4
  by_cases hk5 : x2 = 5
  · have h := h.1 hk5
    refine lv_tableIn (off := 49) (tgt := 50) hx hb dX7_sayingOf_1 (by rw [hk5]; decide) (by rw [hk5]; decide) (by rw [hk5]; rfl) (by decide) ?_
    refine lv_aload_n hx hb dX7_sayingOf_50 rfl (lv_at hl 0 rfl) ?_
    refine lv_iload_n hx hb dX7_sayingOf_51 rfl (lv_at hl 1 rfl) ?_
    refine ro_i (roV S hE hT hS (c_X7_spaceOf h) lkX7_70 rfl ⟨(Nat.le_of_ble_eq_true rfl), (Nat.le_of_ble_eq_true rfl)⟩ (hP.sub [0, 3] rfl) 0 rfl rfl hl.1 rfl (Nat.le_of_ble_eq_true rfl) dX7_sayingOf_52 ⟨(Nat.zero_le _), (Nat.zero_le _)⟩) (fun r52 h => ?_)
    refine lv_aload_n hx hb dX7_sayingOf_55 rfl (lv_at hl 0 rfl) ?_
    refine lv_iload_n hx hb dX7_sayingOf_56 rfl (lv_at hl 1 rfl) ?_
    refine ro_i (roV S hE hT hS (c_X7_otherOf h) lkX7_58 rfl ⟨(Nat.le_of_ble_eq_true rfl), (Nat.le_of_ble_eq_true rfl)⟩ (hP.sub [0, 2] rfl) 0 rfl rfl hl.1 rfl (Nat.le_of_ble_eq_true rfl) dX7_sayingOf_57 ⟨(Nat.zero_le _), (Nat.zero_le _)⟩) (fun r57 h => ?_)
    refine lv_iadd hx hb dX7_sayingOf_60 ?_
    exact W.iret hx hb hr (fun t ht _ => ⟨_, rfl, h, ht⟩) (fun _ hq => by cases hq) dX7_sayingOf_61
  have h := h.2 hk5
  by_cases hk6 : x2 = 6
  · have h := h.1 hk6
    refine lv_tableIn (off := 67) (tgt := 68) hx hb dX7_sayingOf_1 (by rw [hk6]; decide) (by rw [hk6]; decide) (by rw [hk6]; rfl) (by decide) ?_
    refine lv_aload_n hx hb dX7_sayingOf_68 rfl (lv_at hl 0 rfl) ?_
    refine lv_iload_n hx hb dX7_sayingOf_69 rfl (lv_at hl 1 rfl) ?_
    refine ro_i (roV S hE hT hS (c_X7_otherOf h) lkX7_58 rfl ⟨(Nat.le_of_ble_eq_true rfl), (Nat.le_of_ble_eq_true rfl)⟩ (hP.sub [0, 2] rfl) 0 rfl rfl hl.1 rfl (Nat.le_of_ble_eq_true rfl) dX7_sayingOf_70 ⟨(Nat.zero_le _), (Nat.zero_le _)⟩) (fun r70 h => ?_)
    exact W.iret hx hb hr (fun t ht _ => ⟨_, rfl, h, ht⟩) (fun _ hq => by cases hq) dX7_sayingOf_73
  have h := h.2 hk6
  refine lv_tableOut (tgt := 74) hx hb dX7_sayingOf_1 (sw_out (fun k h1 h2 => by
    rcases (show k = 0 ∨ k = 1 ∨ k = 2 ∨ k = 3 ∨ k = 4 ∨ k = 5 ∨ k = 6 by omega) with rfl | rfl | rfl | rfl | rfl | rfl | rfl
    · exact hk0
    · exact hk1
    · exact hk2
    · exact hk3
    · exact hk4
    · exact hk5
    · exact hk6)) (by decide) ?_
  refine lv_aload_n hx hb dX7_sayingOf_74 rfl (lv_at hl 0 rfl) ?_
  refine lv_iload_n hx hb dX7_sayingOf_75 rfl (lv_at hl 1 rfl) ?_
  refine ro_i (roV S hE hT hS (c_X7_spaceOf h) lkX7_70 rfl ⟨(Nat.le_of_ble_eq_true rfl), (Nat.le_of_ble_eq_true rfl)⟩ (hP.sub [0, 3] rfl) 0 rfl rfl hl.1 rfl (Nat.le_of_ble_eq_true rfl) dX7_sayingOf_76 ⟨(Nat.zero_le _), (Nat.zero_le _)⟩) (fun r76 h => ?_)
  exact W.iret hx hb hr (fun t ht _ => ⟨_, rfl, h, ht⟩) (fun _ hq => by cases hq) dX7_sayingOf_79
/-! X7_newLoudnessOf -/
abbrev wX7_newLoudnessOf (cI cJ cS : ClassId) (a_o a_kinds : Nat) (z_spaces z_others z_times : Value) (v_stretchCount : Int32) (f_kinds : Nat → Int32) : va_W := [(a_o, .inr (6, [.ref a_kinds, z_spaces, z_others, z_times, .int v_stretchCount])), (a_kinds, .inl (cI, 16, .inl f_kinds))]
def F_X7_newLoudnessOf (v_stretchCount : Int32) (f_kinds : Nat → Int32) (x1 : Int32) (post : Int32 → Prop) : Prop := (F_X7_kindOf v_stretchCount f_kinds x1 (fun r2 => ((r2 = 3 → post 0) ∧ (¬ r2 = 3 → ((r2 = 4 → post 15) ∧ (¬ r2 = 4 → ((r2 = 5 → post 8) ∧ (¬ r2 = 5 → post 10))))))))
set_option maxHeartbeats 4000000 in
set_option maxRecDepth 100000 in
theorem c_X7_newLoudnessOf {l : Launch} {D : va_G} {cI cJ cS : ClassId} {ad adK : Nat → Nat} {a_o a_kinds : Nat} {z_spaces z_others z_times : Value} {v_stretchCount : Int32} {f_kinds : Nat → Int32} {x1 : Int32} {post : Int32 → Prop} (h : F_X7_newLoudnessOf v_stretchCount f_kinds x1 post) : Met l yX7_newLoudnessOf (Cond.code yX7_newLoudnessOf cX7_newLoudnessOf 2 (some (.int)) :: GW) (rmd 2 0 0) (PR D cI cJ cS ad adK [.ref a_o, .int x1] (wX7_newLoudnessOf cI cJ cS a_o a_kinds z_spaces z_others z_times v_stretchCount f_kinds)) (vp_Si post) 0 0 nof := by
  refine Met.ro (by decide) (Nat.le_of_ble_eq_true rfl) (fun p e s m args below meth c ls (S : CallFix p m c cX7_newLoudnessOf 2 s args GW "RoadThatSings$Stretches") hE hT hP hS hr hlocks hl => ?_)
  have hx := S.1
  have hb := S.2.1
  have hl : lv_has ls 2 [(0, .ref a_o), (1, .int x1)] := hl
  unfold F_X7_newLoudnessOf at h
  refine lv_aload_n hx hb dX7_newLoudnessOf_0 rfl (lv_at hl 0 rfl) ?_
  refine lv_iload_n hx hb dX7_newLoudnessOf_1 rfl (lv_at hl 1 rfl) ?_
  refine ro_i (roV S hE hT hS (c_X7_kindOf h) lkX7_54 rfl ⟨(Nat.le_of_ble_eq_true rfl), (Nat.le_of_ble_eq_true rfl)⟩ (hP.sub [0, 1] rfl) 0 rfl rfl hl.1 rfl (Nat.le_of_ble_eq_true rfl) dX7_newLoudnessOf_2 ⟨(Nat.zero_le _), (Nat.zero_le _)⟩) (fun r2 h => ?_)
  by_cases hk3 : r2 = 3
  · have h := h.1 hk3
    refine lv_tableIn (off := 27) (tgt := 32) hx hb dX7_newLoudnessOf_5 (by rw [hk3]; decide) (by rw [hk3]; decide) (by rw [hk3]; rfl) (by decide) ?_
    refine lv_iconst (v := 0) hx hb dX7_newLoudnessOf_32 (by decide) ?_
    exact W.iret hx hb hr (fun t ht _ => ⟨_, rfl, h, ht⟩) (fun _ hq => by cases hq) dX7_newLoudnessOf_33
  have h := h.2 hk3
  by_cases hk4 : r2 = 4
  · have h := h.1 hk4
    refine lv_tableIn (off := 29) (tgt := 34) hx hb dX7_newLoudnessOf_5 (by rw [hk4]; decide) (by rw [hk4]; decide) (by rw [hk4]; rfl) (by decide) ?_
    refine lv_bipush (v := 15) hx hb dX7_newLoudnessOf_34 (by decide) ?_
    exact W.iret hx hb hr (fun t ht _ => ⟨_, rfl, h, ht⟩) (fun _ hq => by cases hq) dX7_newLoudnessOf_36
  have h := h.2 hk4
  by_cases hk5 : r2 = 5
  · have h := h.1 hk5
    refine lv_tableIn (off := 32) (tgt := 37) hx hb dX7_newLoudnessOf_5 (by rw [hk5]; decide) (by rw [hk5]; decide) (by rw [hk5]; rfl) (by decide) ?_
    refine lv_bipush (v := 8) hx hb dX7_newLoudnessOf_37 (by decide) ?_
    exact W.iret hx hb hr (fun t ht _ => ⟨_, rfl, h, ht⟩) (fun _ hq => by cases hq) dX7_newLoudnessOf_39
  have h := h.2 hk5
  refine lv_tableOut (tgt := 40) hx hb dX7_newLoudnessOf_5 (sw_out (fun k h1 h2 => by
    rcases (show k = 3 ∨ k = 4 ∨ k = 5 by omega) with rfl | rfl | rfl
    · exact hk3
    · exact hk4
    · exact hk5)) (by decide) ?_
  refine lv_bipush (v := 10) hx hb dX7_newLoudnessOf_40 (by decide) ?_
  exact W.iret hx hb hr (fun t ht _ => ⟨_, rfl, h, ht⟩) (fun _ hq => by cases hq) dX7_newLoudnessOf_42
