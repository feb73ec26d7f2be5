/-! J0_length_8abf5 -/
abbrev wJ0_length_8abf5 (cI cJ cS : ClassId) : va_W := []
def F_J0_length_8abf5 (t0 : Nat) (post : Int32 → Prop) : Prop := (t0 < 13 ∧ (t0 < 13 ∧ (t0 < 13 ∧ (F_J0_coder_7d493 t0 (fun r6 => post ((nI (tbLen.getD t0 0)) >>> (r6 &&& 31)))))))
set_option maxHeartbeats 4000000 in
set_option maxRecDepth 100000 in
theorem c_J0_length_8abf5 {l : Launch} {D : va_G} {cI cJ cS : ClassId} {ad adK : Nat → Nat}  {t0 : Nat} {post : Int32 → Prop} (h : F_J0_length_8abf5 t0 post) : Met l yJ0_length_8abf5 (Cond.code yJ0_length_8abf5 cJ0_length_8abf5 1 (some (.int)) :: GW) (rmd 1 0 0) (PR D cI cJ cS ad adK [.ref (adK (2 * t0))] (wJ0_length_8abf5 cI cJ cS)) (vp_Si post) 0 0 nof := by
  refine Met.ro (by decide) (Nat.le_of_ble_eq_true rfl) (fun p e s m args below meth c ls (S : CallFix p m c cJ0_length_8abf5 1 s args GW "java/lang/String") hE hT hP hS hr hlocks hl => ?_)
  have hx := S.1
  have hb := S.2.1
  have hl : lv_has ls 1 [(0, .ref (adK (2 * t0)))] := hl
  unfold F_J0_length_8abf5 at h
  refine lv_aload_n hx hb dJ0_length_8abf5_0 rfl (lv_at hl 0 rfl) ?_
  obtain ⟨hi, h⟩ := h
  refine itf S (hT.sval hi) hS q1605 dJ0_length_8abf5_1 ?_
  obtain ⟨hi, h⟩ := h
  refine va_tlen hx hb (hT.sbyt hi) hS rfl dJ0_length_8abf5_4 ?_
  refine lv_aload_n hx hb dJ0_length_8abf5_5 rfl (lv_at hl 0 rfl) ?_
  obtain ⟨hi, h⟩ := h
  refine ro_i (roVr S hE hT hS (c_J0_coder_7d493 h) lkJ0_335 rfl ⟨(Nat.le_of_ble_eq_true rfl), (Nat.le_of_ble_eq_true rfl)⟩ (hP.sub [] rfl) (hT.srecv hS hi) hl.1 rfl (Nat.le_of_ble_eq_true rfl) dJ0_length_8abf5_6 ⟨(Nat.zero_le _), (Nat.zero_le _)⟩) (fun r6 h => ?_)
  refine lv_ishr hx hb dJ0_length_8abf5_9 ?_
  exact W.iret hx hb hr (fun t ht _ => ⟨_, rfl, h, ht⟩) (fun _ hq => by cases hq) dJ0_length_8abf5_10
/-! X6_size -/
abbrev wX6_size (cI cJ cS : ClassId) (a_o : Nat) (z_elements : Value) (v_held : Int32) (v_sort : Int32) (v_elementCount : Int32) (v_stretchNumber : Int32) : va_W := [(a_o, .inr (5, [z_elements, .int v_held, .int v_sort, .int v_elementCount, .int v_stretchNumber]))]
def F_X6_size (v_elementCount : Int32) (post : Int32 → Prop) : Prop := post v_elementCount
set_option maxHeartbeats 4000000 in
set_option maxRecDepth 100000 in
theorem c_X6_size {l : Launch} {D : va_G} {cI cJ cS : ClassId} {ad adK : Nat → Nat} {a_o : Nat} {z_elements : Value} {v_held : Int32} {v_sort : Int32} {v_elementCount : Int32} {v_stretchNumber : Int32} {post : Int32 → Prop} (h : F_X6_size v_elementCount post) : Met l yX6_size (Cond.code yX6_size cX6_size 1 (some (.int)) :: GW) (rmd 0 0 0) (PR D cI cJ cS ad adK [.ref a_o] (wX6_size cI cJ cS a_o z_elements v_held v_sort v_elementCount v_stretchNumber)) (vp_Si post) 0 0 nof := by
  refine Met.ro (by decide) (Nat.le_of_ble_eq_true rfl) (fun p e s m args below meth c ls (S : CallFix p m c cX6_size 1 s args GW "RoadThatSings$Shelf") hE hT hP hS hr hlocks hl => ?_)
  have hx := S.1
  have hb := S.2.1
  have hl : lv_has ls 1 [(0, .ref a_o)] := hl
  unfold F_X6_size at h
  refine lv_aload_n hx hb dX6_size_0 rfl (lv_at hl 0 rfl) ?_
  refine gf S hE hP 0 rfl rfl inX6 (k := 3) (by decide) q167 rfl dX6_size_1 ?_
  exact W.iret hx hb hr (fun t ht _ => ⟨_, rfl, h, ht⟩) (fun _ hq => by cases hq) dX6_size_4
/-! X6_hasElement -/
abbrev wX6_hasElement (cI cJ cS : ClassId) (a_o : Nat) (z_elements : Value) (v_held : Int32) (v_sort : Int32) (v_elementCount : Int32) (v_stretchNumber : Int32) : va_W := [(a_o, .inr (5, [z_elements, .int v_held, .int v_sort, .int v_elementCount, .int v_stretchNumber]))]
def F_X6_hasElement (v_elementCount : Int32) (x1 : Int32) (post : Int32 → Prop) : Prop := ((x1 < 0 → post 0) ∧ (¬ x1 < 0 → ((v_elementCount ≤ x1 → post 0) ∧ (¬ v_elementCount ≤ x1 → ((160 ≤ x1 → post 0) ∧ (¬ 160 ≤ x1 → post 1))))))
set_option maxHeartbeats 4000000 in
set_option maxRecDepth 100000 in
theorem c_X6_hasElement {l : Launch} {D : va_G} {cI cJ cS : ClassId} {ad adK : Nat → Nat} {a_o : Nat} {z_elements : Value} {v_held : Int32} {v_sort : Int32} {v_elementCount : Int32} {v_stretchNumber : Int32} {x1 : Int32} {post : Int32 → Prop} (h : F_X6_hasElement v_elementCount x1 post) : Met l yX6_hasElement (Cond.code yX6_hasElement cX6_hasElement 2 (some (.boolean)) :: GW) (rmd 0 0 0) (PR D cI cJ cS ad adK [.ref a_o, .int x1] (wX6_hasElement cI cJ cS a_o z_elements v_held v_sort v_elementCount v_stretchNumber)) (vp_Si post) 0 0 nof := by
  refine Met.ro (by decide) (Nat.le_of_ble_eq_true rfl) (fun p e s m args below meth c ls (S : CallFix p m c cX6_hasElement 2 s args GW "RoadThatSings$Shelf") hE hT hP hS hr hlocks hl => ?_)
  have hx := S.1
  have hb := S.2.1
  have hl : lv_has ls 2 [(0, .ref a_o), (1, .int x1)] := hl
  unfold F_X6_hasElement at h
  refine lv_iload_n hx hb dX6_hasElement_0 rfl (lv_at hl 1 rfl) ?_
  refine lv_if_lt (tgt := 23) hx hb dX6_hasElement_1 (by decide) (fun hc => ?_) (fun hc => ?_)
  · have h := h.1 hc
    refine lv_iconst (v := 0) hx hb dX6_hasElement_23 (by decide) ?_
    exact W.zret hx hb hr rfl (fun t ht _ => ⟨_, rfl, h, ht⟩) (fun _ hq => by cases hq) dX6_hasElement_24
  have h := h.2 hc
  refine lv_iload_n hx hb dX6_hasElement_4 rfl (lv_at hl 1 rfl) ?_
  refine lv_aload_n hx hb dX6_hasElement_5 rfl (lv_at hl 0 rfl) ?_
  refine gf S hE hP 0 rfl rfl inX6 (k := 3) (by decide) q167 rfl dX6_hasElement_6 ?_
  refine lv_icmp_ge (tgt := 23) hx hb dX6_hasElement_9 (by decide) (fun hc => ?_) (fun hc => ?_)
  · have h := h.1 hc
    refine lv_iconst (v := 0) hx hb dX6_hasElement_23 (by decide) ?_
    exact W.zret hx hb hr rfl (fun t ht _ => ⟨_, rfl, h, ht⟩) (fun _ hq => by cases hq) dX6_hasElement_24
  have h := h.2 hc
  refine lv_iload_n hx hb dX6_hasElement_12 rfl (lv_at hl 1 rfl) ?_
  refine lv_sipush (v := 160) hx hb dX6_hasElement_13 (by decide) ?_
  refine lv_icmp_ge (tgt := 23) hx hb dX6_hasElement_16 (by decide) (fun hc => ?_) (fun hc => ?_)
  · have h := h.1 hc
    refine lv_iconst (v := 0) hx hb dX6_hasElement_23 (by decide) ?_
    exact W.zret hx hb hr rfl (fun t ht _ => ⟨_, rfl, h, ht⟩) (fun _ hq => by cases hq) dX6_hasElement_24
  have h := h.2 hc
  refine lv_iconst (v := 1) hx hb dX6_hasElement_19 (by decide) ?_
  refine lv_goto (tgt := 24) hx hb dX6_hasElement_20 (by decide) ?_
  exact W.zret hx hb hr rfl (fun t ht _ => ⟨_, rfl, h, ht⟩) (fun _ hq => by cases hq) dX6_hasElement_24
/-! X6_intAt -/
abbrev wX6_intAt (cI cJ cS : ClassId) (a_o a_elements : Nat) (v_held : Int32) (v_sort : Int32) (v_elementCount : Int32) (v_stretchNumber : Int32) (g_elements : Nat → Int64) : va_W := [(a_o, .inr (5, [.ref a_elements, .int v_held, .int v_sort, .int v_elementCount, .int v_stretchNumber])), (a_elements, .inl (cJ, 160, .inr (.inl g_elements)))]
def F_X6_intAt (v_elementCount : Int32) (g_elements : Nat → Int64) (x1 : Int32) (post : Int32 → Prop) : Prop := (F_X6_hasElement v_elementCount x1 (fun r2 => ((r2 = 0 → post 0) ∧ (¬ r2 = 0 → (vp_in x1 160 ∧ post ((g_elements x1.toNatClampNeg).toInt32))))))
set_option maxHeartbeats 4000000 in
set_option maxRecDepth 100000 in
theorem c_X6_intAt {l : Launch} {D : va_G} {cI cJ cS : ClassId} {ad adK : Nat → Nat} {a_o a_elements : Nat} {v_held : Int32} {v_sort : Int32} {v_elementCount : Int32} {v_stretchNumber : Int32} {g_elements : Nat → Int64} {x1 : Int32} {post : Int32 → Prop} (h : F_X6_intAt v_elementCount g_elements x1 post) : Met l yX6_intAt (Cond.code yX6_intAt cX6_intAt 2 (some (.int)) :: GW) (rmd 1 0 0) (PR D cI cJ cS ad adK [.ref a_o, .int x1] (wX6_intAt cI cJ cS a_o a_elements v_held v_sort v_elementCount v_stretchNumber g_elements)) (vp_Si post) 0 0 nof := by
  refine Met.ro (by decide) (Nat.le_of_ble_eq_true rfl) (fun p e s m args below meth c ls (S : CallFix p m c cX6_intAt 2 s args GW "RoadThatSings$Shelf") hE hT hP hS hr hlocks hl => ?_)
  have hx := S.1
  have hb := S.2.1
  have hl : lv_has ls 2 [(0, .ref a_o), (1, .int x1)] := hl
  unfold F_X6_intAt at h
  refine lv_aload_n hx hb dX6_intAt_0 rfl (lv_at hl 0 rfl) ?_
  refine lv_iload_n hx hb dX6_intAt_1 rfl (lv_at hl 1 rfl) ?_
  refine ro_i (roV S hE hT hS (c_X6_hasElement h) lkX6_50 rfl ⟨(Nat.le_of_ble_eq_true rfl), (Nat.le_of_ble_eq_true rfl)⟩ (hP.sub [0] rfl) 0 rfl rfl hl.1 rfl (Nat.le_of_ble_eq_true rfl) dX6_intAt_2 ⟨(Nat.zero_le _), (Nat.zero_le _)⟩) (fun r2 h => ?_)
  refine lv_if_eq (tgt := 18) hx hb dX6_intAt_5 (by decide) (fun hc => ?_) (fun hc => ?_)
  · have h := h.1 hc
    refine lv_iconst (v := 0) hx hb dX6_intAt_18 (by decide) ?_
    exact W.iret hx hb hr (fun t ht _ => ⟨_, rfl, h, ht⟩) (fun _ hq => by cases hq) dX6_intAt_19
  have h := h.2 hc
  refine lv_aload_n hx hb dX6_intAt_8 rfl (lv_at hl 0 rfl) ?_
  refine gf S hE hP 0 rfl rfl inX6 (k := 0) (by decide) q164 rfl dX6_intAt_9 ?_
  refine lv_iload_n hx hb dX6_intAt_12 rfl (lv_at hl 1 rfl) ?_
  obtain ⟨hi, h⟩ := h
  refine lal S hE hP 1 rfl hi dX6_intAt_13 ?_
  refine lv_l2i hx hb dX6_intAt_14 rfl ?_
  refine lv_goto (tgt := 19) hx hb dX6_intAt_15 (by decide) ?_
  exact W.iret hx hb hr (fun t ht _ => ⟨_, rfl, h, ht⟩) (fun _ hq => by cases hq) dX6_intAt_19
/-! J0_isLatin1_aae02 -/
abbrev wJ0_isLatin1_aae02 (cI cJ cS : ClassId) : va_W := []
def F_J0_isLatin1_aae02 (t0 : Nat) (post : Int32 → Prop) : Prop := (((1 : Int32) = 0 → post 0) ∧ (¬ (1 : Int32) = 0 → (t0 < 13 ∧ (((0 : Int32) = 0 → post 1) ∧ (¬ (0 : Int32) = 0 → post 0)))))
set_option maxHeartbeats 4000000 in
set_option maxRecDepth 100000 in
theorem c_J0_isLatin1_aae02 {l : Launch} {D : va_G} {cI cJ cS : ClassId} {ad adK : Nat → Nat}  {t0 : Nat} {post : Int32 → Prop} (h : F_J0_isLatin1_aae02 t0 post) : Met l yJ0_isLatin1_aae02 (Cond.code yJ0_isLatin1_aae02 cJ0_isLatin1_aae02 1 (some (.boolean)) :: GW) (rmd 0 0 0) (PR D cI cJ cS ad adK [.ref (adK (2 * t0))] (wJ0_isLatin1_aae02 cI cJ cS)) (vp_Si post) 0 0 nof := by
  refine Met.ro (by decide) (Nat.le_of_ble_eq_true rfl) (fun p e s m args below meth c ls (S : CallFix p m c cJ0_isLatin1_aae02 1 s args GW "java/lang/String") hE hT hP hS hr hlocks hl => ?_)
  have hx := S.1
  have hb := S.2.1
  have hl : lv_has ls 1 [(0, .ref (adK (2 * t0)))] := hl
  unfold F_J0_isLatin1_aae02 at h
  refine gsC S hT hS q613 dJ0_isLatin1_aae02_0 ?_
  refine lv_if_eq (tgt := 17) hx hb dJ0_isLatin1_aae02_3 (by decide) (fun hc => ?_) (fun hc => ?_)
  · have h := h.1 hc
    refine lv_iconst (v := 0) hx hb dJ0_isLatin1_aae02_17 (by decide) ?_
    exact W.zret hx hb hr rfl (fun t ht _ => ⟨_, rfl, h, ht⟩) (fun _ hq => by cases hq) dJ0_isLatin1_aae02_18
  have h := h.2 hc
  refine lv_aload_n hx hb dJ0_isLatin1_aae02_6 rfl (lv_at hl 0 rfl) ?_
  obtain ⟨hi, h⟩ := h
  refine itf S (hT.coder hi) hS q1606 dJ0_isLatin1_aae02_7 ?_
  refine lv_if_ne (tgt := 17) hx hb dJ0_isLatin1_aae02_10 (by decide) (fun hc => ?_) (fun hc => ?_)
  · have h := h.2 hc
    refine lv_iconst (v := 0) hx hb dJ0_isLatin1_aae02_17 (by decide) ?_
    exact W.zret hx hb hr rfl (fun t ht _ => ⟨_, rfl, h, ht⟩) (fun _ hq => by cases hq) dJ0_isLatin1_aae02_18
  have h := h.1 hc
  refine lv_iconst (v := 1) hx hb dJ0_isLatin1_aae02_13 (by decide) ?_
  refine lv_goto (tgt := 18) hx hb dJ0_isLatin1_aae02_14 (by decide) ?_
  exact W.zret hx hb hr rfl (fun t ht _ => ⟨_, rfl, h, ht⟩) (fun _ hq => by cases hq) dJ0_isLatin1_aae02_18
/-! J3_checkIndex_8e157 -/
abbrev wJ3_checkIndex_8e157 (cI cJ cS : ClassId) : va_W := []
def F_J3_checkIndex_8e157 (x0 : Int32) (x1 : Int32) (post : Int32 → Prop) : Prop := ((x0 < 0 → False) ∧ (¬ x0 < 0 → ((x0 < x1 → post x0) ∧ (¬ x0 < x1 → False))))
set_option maxHeartbeats 4000000 in
set_option maxRecDepth 100000 in
theorem c_J3_checkIndex_8e157 {l : Launch} {D : va_G} {cI cJ cS : ClassId} {ad adK : Nat → Nat}  {x0 : Int32} {x1 : Int32} {b2 : Nat} {post : Int32 → Prop} (h : F_J3_checkIndex_8e157 x0 x1 post) : Met l yJ3_checkIndex_8e157 (Cond.code yJ3_checkIndex_8e157 cJ3_checkIndex_8e157 3 (some (.int)) :: GW) (rmd 0 0 0) (PR D cI cJ cS ad adK [.int x0, .int x1, .ref b2] (wJ3_checkIndex_8e157 cI cJ cS)) (vp_Si post) 0 0 nof := by
  refine Met.ro (by decide) (Nat.le_of_ble_eq_true rfl) (fun p e s m args below meth c ls (S : CallFix p m c cJ3_checkIndex_8e157 3 s args GW "jdk/internal/util/Preconditions") hE hT hP hS hr hlocks hl => ?_)
  have hx := S.1
  have hb := S.2.1
  have hl : lv_has ls 3 [(0, .int x0), (1, .int x1), (2, .ref b2)] := hl
  unfold F_J3_checkIndex_8e157 at h
  refine lv_iload_n hx hb dJ3_checkIndex_8e157_0 rfl (lv_at hl 0 rfl) ?_
  refine lv_if_lt (tgt := 9) hx hb dJ3_checkIndex_8e157_1 (by decide) (fun hc => ?_) (fun hc => ?_)
  · have h := h.1 hc
    exact h.elim
  have h := h.2 hc
  refine lv_iload_n hx hb dJ3_checkIndex_8e157_4 rfl (lv_at hl 0 rfl) ?_
  refine lv_iload_n hx hb dJ3_checkIndex_8e157_5 rfl (lv_at hl 1 rfl) ?_
  refine lv_icmp_lt (tgt := 16) hx hb dJ3_checkIndex_8e157_6 (by decide) (fun hc => ?_) (fun hc => ?_)
  · have h := h.1 hc
    refine lv_iload_n hx hb dJ3_checkIndex_8e157_16 rfl (lv_at hl 0 rfl) ?_
    exact W.iret hx hb hr (fun t ht _ => ⟨_, rfl, h, ht⟩) (fun _ hq => by cases hq) dJ3_checkIndex_8e157_17
  have h := h.2 hc
  exact h.elim
/-! J3_checkIndex_8e157_null2 -/
abbrev wJ3_checkIndex_8e157_null2 (cI cJ cS : ClassId) : va_W := []
def F_J3_checkIndex_8e157_null2 (x0 : Int32) (x1 : Int32) (post : Int32 → Prop) : Prop := ((x0 < 0 → False) ∧ (¬ x0 < 0 → ((x0 < x1 → post x0) ∧ (¬ x0 < x1 → False))))
set_option maxHeartbeats 4000000 in
set_option maxRecDepth 100000 in
theorem c_J3_checkIndex_8e157_null2 {l : Launch} {D : va_G} {cI cJ cS : ClassId} {ad adK : Nat → Nat}  {x0 : Int32} {x1 : Int32} {post : Int32 → Prop} (h : F_J3_checkIndex_8e157_null2 x0 x1 post) : Met l yJ3_checkIndex_8e157 (Cond.code yJ3_checkIndex_8e157 cJ3_checkIndex_8e157 3 (some (.int)) :: GW) (rmd 0 0 0) (PR D cI cJ cS ad adK [.int x0, .int x1, .null] (wJ3_checkIndex_8e157_null2 cI cJ cS)) (vp_Si post) 0 0 nof := by
  refine Met.ro (by decide) (Nat.le_of_ble_eq_true rfl) (fun p e s m args below meth c ls (S : CallFix p m c cJ3_checkIndex_8e157 3 s args GW "jdk/internal/util/Preconditions") hE hT hP hS hr hlocks hl => ?_)
  have hx := S.1
  have hb := S.2.1
  have hl : lv_has ls 3 [(0, .int x0), (1, .int x1), (2, .null)] := hl
  unfold F_J3_checkIndex_8e157_null2 at h
  refine lv_iload_n hx hb dJ3_checkIndex_8e157_0 rfl (lv_at hl 0 rfl) ?_
  refine lv_if_lt (tgt := 9) hx hb dJ3_checkIndex_8e157_1 (by decide) (fun hc => ?_) (fun hc => ?_)
  · have h := h.1 hc
    exact h.elim
  have h := h.2 hc
  refine lv_iload_n hx hb dJ3_checkIndex_8e157_4 rfl (lv_at hl 0 rfl) ?_
  refine lv_iload_n hx hb dJ3_checkIndex_8e157_5 rfl (lv_at hl 1 rfl) ?_
  refine lv_icmp_lt (tgt := 16) hx hb dJ3_checkIndex_8e157_6 (by decide) (fun hc => ?_) (fun hc => ?_)
  · have h := h.1 hc
    refine lv_iload_n hx hb dJ3_checkIndex_8e157_16 rfl (lv_at hl 0 rfl) ?_
    exact W.iret hx hb hr (fun t ht _ => ⟨_, rfl, h, ht⟩) (fun _ hq => by cases hq) dJ3_checkIndex_8e157_17
  have h := h.2 hc
  exact h.elim
/-! J0_checkIndex_df160 -/
abbrev wJ0_checkIndex_df160 (cI cJ cS : ClassId) : va_W := []
def F_J0_checkIndex_df160 (x0 : Int32) (x1 : Int32) (post : Prop) : Prop := ((F_J3_checkIndex_8e157_null2 x0 x1 (fun r5 => post)) ∧ (F_J3_checkIndex_8e157 x0 x1 (fun r5 => post)))
set_option maxHeartbeats 4000000 in
set_option maxRecDepth 100000 in
theorem c_J0_checkIndex_df160 {l : Launch} {D : va_G} {cI cJ cS : ClassId} {ad adK : Nat → Nat}  {x0 : Int32} {x1 : Int32} {post : Prop} (h : F_J0_checkIndex_df160 x0 x1 post) : Met l yJ0_checkIndex_df160 (Cond.code yJ0_checkIndex_df160 cJ0_checkIndex_df160 2 none :: GW) (rmd 1 0 0) (PR D cI cJ cS ad adK [.int x0, .int x1] (wJ0_checkIndex_df160 cI cJ cS)) (va_Sv (fun _ => post)) 0 0 nof := by
  refine Met.ro (by decide) (Nat.le_of_ble_eq_true rfl) (fun p e s m args below meth c ls (S : CallFix p m c cJ0_checkIndex_df160 2 s args GW "java/lang/String") hE hT hP hS hr hlocks hl => ?_)
  have hx := S.1
  have hb := S.2.1
  have hl : lv_has ls 2 [(0, .int x0), (1, .int x1)] := hl
  unfold F_J0_checkIndex_df160 at h
  refine lv_iload_n hx hb dJ0_checkIndex_df160_0 rfl (lv_at hl 0 rfl) ?_
  refine lv_iload_n hx hb dJ0_checkIndex_df160_1 rfl (lv_at hl 1 rfl) ?_
  refine gsF S hT hS q631 dJ0_checkIndex_df160_2 ?_ (fun b5 => ?_)
  · have h := h.1
    refine ro_i (roS S hE hT hS (c_J3_checkIndex_8e157_null2 h) lkJ0_1059 rfl ⟨(Nat.le_of_ble_eq_true rfl), (Nat.le_of_ble_eq_true rfl)⟩ (hP.sub [] rfl) hl.1 rfl (Nat.le_of_ble_eq_true rfl) dJ0_checkIndex_df160_5 ⟨(Nat.zero_le _), (Nat.zero_le _)⟩) (fun r5 h => ?_)
    refine lv_pop hx hb dJ0_checkIndex_df160_8 rfl ?_
    exact W.vret hx hb hr (fun t ht _ => ⟨rfl, h, ht⟩) (fun _ hq => by cases hq) dJ0_checkIndex_df160_9
  have h := h.2
  refine ro_i (roS S hE hT hS (c_J3_checkIndex_8e157 h) lkJ0_1059 rfl ⟨(Nat.le_of_ble_eq_true rfl), (Nat.le_of_ble_eq_true rfl)⟩ (hP.sub [] rfl) hl.1 rfl (Nat.le_of_ble_eq_true rfl) dJ0_checkIndex_df160_5 ⟨(Nat.zero_le _), (Nat.zero_le _)⟩) (fun r5 h => ?_)
  refine lv_pop hx hb dJ0_checkIndex_df160_8 rfl ?_
  exact W.vret hx hb hr (fun t ht _ => ⟨rfl, h, ht⟩) (fun _ hq => by cases hq) dJ0_checkIndex_df160_9
/-! J1_charAt_3b067 -/
abbrev wJ1_charAt_3b067 (cI cJ cS : ClassId) : va_W := []
def F_J1_charAt_3b067 (t0 : Nat) (x1 : Int32) (post : Int32 → Prop) : Prop := (t0 < 13 ∧ (F_J0_checkIndex_df160 x1 (nI (tbLen.getD t0 0)) ((t0 < 13 ∧ (vp_in x1 (tbLen.getD t0 0) ∧ (vbC (((((tbByt.getD t0 []).getD x1.toNatClampNeg 0) &&& 255).toUInt32 % 65536).toInt32) ∧ post (((((tbByt.getD t0 []).getD x1.toNatClampNeg 0) &&& 255).toUInt32 % 65536).toInt32)))))))
set_option maxHeartbeats 4000000 in
set_option maxRecDepth 100000 in
theorem c_J1_charAt_3b067 {l : Launch} {D : va_G} {cI cJ cS : ClassId} {ad adK : Nat → Nat}  {t0 : Nat} {x1 : Int32} {post : Int32 → Prop} (h : F_J1_charAt_3b067 t0 x1 post) : Met l yJ1_charAt_3b067 (Cond.code yJ1_charAt_3b067 cJ1_charAt_3b067 2 (some (.char)) :: GW) (rmd 2 0 0) (PR D cI cJ cS ad adK [.ref (adK (2 * t0 + 1)), .int x1] (wJ1_charAt_3b067 cI cJ cS)) (vp_Si post) 0 0 nof := by
  refine Met.ro (by decide) (Nat.le_of_ble_eq_true rfl) (fun p e s m args below meth c ls (S : CallFix p m c cJ1_charAt_3b067 2 s args GW "java/lang/StringLatin1") hE hT hP hS hr hlocks hl => ?_)
  have hx := S.1
  have hb := S.2.1
  have hl : lv_has ls 2 [(0, .ref (adK (2 * t0 + 1))), (1, .int x1)] := hl
  unfold F_J1_charAt_3b067 at h
  refine lv_iload_n hx hb dJ1_charAt_3b067_0 rfl (lv_at hl 1 rfl) ?_
  refine lv_aload_n hx hb dJ1_charAt_3b067_1 rfl (lv_at hl 0 rfl) ?_
  obtain ⟨hi, h⟩ := h
  refine va_tlen hx hb (hT.sbyt hi) hS rfl dJ1_charAt_3b067_2 ?_
  refine ro_v (roS S hE hT hS (c_J0_checkIndex_df160 h) lkJ1_9 rfl ⟨(Nat.le_of_ble_eq_true rfl), (Nat.le_of_ble_eq_true rfl)⟩ (hP.sub [] rfl) hl.1 rfl (Nat.le_of_ble_eq_true rfl) dJ1_charAt_3b067_3 ⟨(Nat.zero_le _), (Nat.zero_le _)⟩) (fun h => ?_)
  refine lv_aload_n hx hb dJ1_charAt_3b067_6 rfl (lv_at hl 0 rfl) ?_
  refine lv_iload_n hx hb dJ1_charAt_3b067_7 rfl (lv_at hl 1 rfl) ?_
  obtain ⟨hi, h⟩ := h
  obtain ⟨hj, h⟩ := h
  refine va_tb hx hb (hT.sbyt hi) hS hj rfl dJ1_charAt_3b067_8 ?_
  refine lv_sipush (v := 255) hx hb dJ1_charAt_3b067_9 (by decide) ?_
  refine lv_iand hx hb dJ1_charAt_3b067_12 ?_
  refine lv_i2c hx hb dJ1_charAt_3b067_13 rfl ?_
  exact W.zret hx hb hr h.1 (fun t ht _ => ⟨_, rfl, h.2, ht⟩) (fun _ hq => by cases hq) dJ1_charAt_3b067_14
/-! J0_charAt_5068e -/
abbrev wJ0_charAt_5068e (cI cJ cS : ClassId) : va_W := []
def F_J0_charAt_5068e (t0 : Nat) (x1 : Int32) (post : Int32 → Prop) : Prop := (t0 < 13 ∧ (F_J0_isLatin1_aae02 t0 (fun r1 => ((r1 = 0 → False) ∧ (¬ r1 = 0 → (t0 < 13 ∧ (F_J1_charAt_3b067 t0 x1 (fun r12 => (vbC r12 ∧ post r12)))))))))
set_option maxHeartbeats 4000000 in
set_option maxRecDepth 100000 in
theorem c_J0_charAt_5068e {l : Launch} {D : va_G} {cI cJ cS : ClassId} {ad adK : Nat → Nat}  {t0 : Nat} {x1 : Int32} {post : Int32 → Prop} (h : F_J0_charAt_5068e t0 x1 post) : Met l yJ0_charAt_5068e (Cond.code yJ0_charAt_5068e cJ0_charAt_5068e 2 (some (.char)) :: GW) (rmd 3 0 0) (PR D cI cJ cS ad adK [.ref (adK (2 * t0)), .int x1] (wJ0_charAt_5068e cI cJ cS)) (vp_Si post) 0 0 nof := by
  refine Met.ro (by decide) (Nat.le_of_ble_eq_true rfl) (fun p e s m args below meth c ls (S : CallFix p m c cJ0_charAt_5068e 2 s args GW "java/lang/String") hE hT hP hS hr hlocks hl => ?_)
  have hx := S.1
  have hb := S.2.1
  have hl : lv_has ls 2 [(0, .ref (adK (2 * t0))), (1, .int x1)] := hl
  unfold F_J0_charAt_5068e at h
  refine lv_aload_n hx hb dJ0_charAt_5068e_0 rfl (lv_at hl 0 rfl) ?_
  obtain ⟨hi, h⟩ := h
  refine ro_i (roVr S hE hT hS (c_J0_isLatin1_aae02 h) lkJ0_492 rfl ⟨(Nat.le_of_ble_eq_true rfl), (Nat.le_of_ble_eq_true rfl)⟩ (hP.sub [] rfl) (hT.srecv hS hi) hl.1 rfl (Nat.le_of_ble_eq_true rfl) dJ0_charAt_5068e_1 ⟨(Nat.zero_le _), (Nat.zero_le _)⟩) (fun r1 h => ?_)
  refine lv_if_eq (tgt := 16) hx hb dJ0_charAt_5068e_4 (by decide) (fun hc => ?_) (fun hc => ?_)
  · have h := h.1 hc
    exact h.elim
  have h := h.2 hc
  refine lv_aload_n hx hb dJ0_charAt_5068e_7 rfl (lv_at hl 0 rfl) ?_
  obtain ⟨hi, h⟩ := h
  refine itf S (hT.sval hi) hS q1605 dJ0_charAt_5068e_8 ?_
  refine lv_iload_n hx hb dJ0_charAt_5068e_11 rfl (lv_at hl 1 rfl) ?_
  refine ro_i (roS S hE hT hS (c_J1_charAt_3b067 h) lkJ0_495 rfl ⟨(Nat.le_of_ble_eq_true rfl), (Nat.le_of_ble_eq_true rfl)⟩ (hP.sub [] rfl) hl.1 rfl (Nat.le_of_ble_eq_true rfl) dJ0_charAt_5068e_12 ⟨(Nat.zero_le _), (Nat.zero_le _)⟩) (fun r12 h => ?_)
  exact W.zret hx hb hr h.1 (fun t ht _ => ⟨_, rfl, h.2, ht⟩) (fun _ hq => by cases hq) dJ0_charAt_5068e_15
/-! X4_lettersFitting -/
abbrev wX4_lettersFitting (cI cJ cS : ClassId) (a_o a_text a_text_elements : Nat) (z_told : Value) (v_at : Int32) (v_faultAt : Int32) (v_text_held : Int32) (v_text_sort : Int32) (v_text_elementCount : Int32) (v_text_stretchNumber : Int32) (g_text_elements : Nat → Int64) : va_W := [(a_o, .inr (3, [.ref a_text, z_told, .int v_at, .int v_faultAt])), (a_text, .inr (5, [.ref a_text_elements, .int v_text_held, .int v_text_sort, .int v_text_elementCount, .int v_text_stretchNumber])), (a_text_elements, .inl (cJ, 160, .inr (.inl g_text_elements)))]
def L_X4_lettersFitting_2 (v_at : Int32) (v_text_elementCount : Int32) (g_text_elements : Nat → Int64) (t1 : Nat) (post : Int32 → Prop) : Nat → Int32 → Prop
  | 0, _ => False
  | n2 + 1, x2 => (t1 < 13 ∧ (F_J0_length_8abf5 t1 (fun r4 => ((r4 ≤ x2 → post x2) ∧ (¬ r4 ≤ x2 → (F_X6_size v_text_elementCount (fun r20 => ((r20 ≤ (v_at + x2) → post x2) ∧ (¬ r20 ≤ (v_at + x2) → (F_X6_intAt v_text_elementCount g_text_elements (v_at + x2) (fun r36 => (t1 < 13 ∧ (F_J0_charAt_5068e t1 x2 (fun r41 => ((r36 = r41 → (∀ x2_47 : Int32, x2_47 = x2 + 1 → L_X4_lettersFitting_2 v_at v_text_elementCount g_text_elements t1 post n2 x2_47)) ∧ (¬ r36 = r41 → post x2))))))))))))))))
def F_X4_lettersFitting (v_at : Int32) (v_text_elementCount : Int32) (g_text_elements : Nat → Int64) (t1 : Nat) (post : Int32 → Prop) : Prop := (∃ n2 : Nat, L_X4_lettersFitting_2 v_at v_text_elementCount g_text_elements t1 post n2 0)
set_option maxHeartbeats 4000000 in
set_option maxRecDepth 100000 in
theorem w_X4_lettersFitting_2 {l : Launch} {D : va_G} {cI cJ cS : ClassId} {ad adK : Nat → Nat} {a_o a_text a_text_elements : Nat} {z_told : Value} {v_at : Int32} {v_faultAt : Int32} {v_text_held : Int32} {v_text_sort : Int32} {v_text_elementCount : Int32} {v_text_stretchNumber : Int32} {g_text_elements : Nat → Int64} {t1 : Nat} {post : Int32 → Prop} {p : Program} {e : Env} {s : State} {m : MethodId} {args : Array Value} {below : List Frame} {meth : Method} {c : Code} (S : CallFix p m c cX4_lettersFitting 3 s args GW "RoadThatSings$Reader") (hE : EN D cI cJ cS s) (hT : ST ad adK nof s s.heap) (hP : va_P D vwCl (wX4_lettersFitting cI cJ cS a_o a_text a_text_elements z_told v_at v_faultAt v_text_held v_text_sort v_text_elementCount v_text_stretchNumber g_text_elements) s.heap) (hS : va_S nof s.heap s.heap []) (hr : meth.sig.returnType = (some (.int))) (hlocks : meth.locks = false) : ∀ n : Nat, ∀ (x2 : Int32) (ls : Array Slot), L_X4_lettersFitting_2 v_at v_text_elementCount g_text_elements t1 post n x2 → lv_has ls 3 [(0, .ref a_o), (1, .ref (adK (2 * t1))), (2, .int x2)] → W p l e (rmd 4 0 0) s m args below meth c s.heap [] 0 0 (MQ below (vp_Si post) args s 0 0 nof) (F0 m 2 ls []) := by
  intro n
  induction n with
  | zero =>
    intro x2 ls h hl
    exact h.elim
  | succ n ih =>
    intro x2 ls h hl
    rw [L_X4_lettersFitting_2] at h
    have hx := S.1
    have hb := S.2.1
    refine lv_iload_n hx hb dX4_lettersFitting_2 rfl (lv_at hl 2 rfl) ?_
    refine lv_aload_n hx hb dX4_lettersFitting_3 rfl (lv_at hl 1 rfl) ?_
    obtain ⟨hi, h⟩ := h
    refine ro_i (roVr S hE hT hS (c_J0_length_8abf5 h) lkX4_95 rfl ⟨(Nat.le_of_ble_eq_true rfl), (Nat.le_of_ble_eq_true rfl)⟩ (hP.sub [] rfl) (hT.srecv hS hi) hl.1 rfl (Nat.le_of_ble_eq_true rfl) dX4_lettersFitting_4 ⟨(Nat.zero_le _), (Nat.zero_le _)⟩) (fun r4 h => ?_)
    refine lv_icmp_ge (tgt := 53) hx hb dX4_lettersFitting_7 (by decide) (fun hc => ?_) (fun hc => ?_)
    · have h := h.1 hc
      refine lv_iload_n hx hb dX4_lettersFitting_53 rfl (lv_at hl 2 rfl) ?_
      exact W.iret hx hb hr (fun t ht _ => ⟨_, rfl, h, ht⟩) (fun _ hq => by cases hq) dX4_lettersFitting_54
    have h := h.2 hc
    refine lv_aload_n hx hb dX4_lettersFitting_10 rfl (lv_at hl 0 rfl) ?_
    refine gf S hE hP 0 rfl rfl inX4 (k := 2) (by decide) q576 rfl dX4_lettersFitting_11 ?_
    refine lv_iload_n hx hb dX4_lettersFitting_14 rfl (lv_at hl 2 rfl) ?_
    refine lv_iadd hx hb dX4_lettersFitting_15 ?_
    refine lv_aload_n hx hb dX4_lettersFitting_16 rfl (lv_at hl 0 rfl) ?_
    refine gf S hE hP 0 rfl rfl inX4 (k := 0) (by decide) q574 rfl dX4_lettersFitting_17 ?_
    refine ro_i (roV S hE hT hS (c_X6_size h) lkX4_36 rfl ⟨(Nat.le_of_ble_eq_true rfl), (Nat.le_of_ble_eq_true rfl)⟩ (hP.sub [1] rfl) 0 rfl rfl hl.1 rfl (Nat.le_of_ble_eq_true rfl) dX4_lettersFitting_20 ⟨(Nat.zero_le _), (Nat.zero_le _)⟩) (fun r20 h => ?_)
    refine lv_icmp_ge (tgt := 53) hx hb dX4_lettersFitting_23 (by decide) (fun hc => ?_) (fun hc => ?_)
    · have h := h.1 hc
      refine lv_iload_n hx hb dX4_lettersFitting_53 rfl (lv_at hl 2 rfl) ?_
      exact W.iret hx hb hr (fun t ht _ => ⟨_, rfl, h, ht⟩) (fun _ hq => by cases hq) dX4_lettersFitting_54
    have h := h.2 hc
    refine lv_aload_n hx hb dX4_lettersFitting_26 rfl (lv_at hl 0 rfl) ?_
    refine gf S hE hP 0 rfl rfl inX4 (k := 0) (by decide) q574 rfl dX4_lettersFitting_27 ?_
    refine lv_aload_n hx hb dX4_lettersFitting_30 rfl (lv_at hl 0 rfl) ?_
    refine gf S hE hP 0 rfl rfl inX4 (k := 2) (by decide) q576 rfl dX4_lettersFitting_31 ?_
    refine lv_iload_n hx hb dX4_lettersFitting_34 rfl (lv_at hl 2 rfl) ?_
    refine lv_iadd hx hb dX4_lettersFitting_35 ?_
    refine ro_i (roV S hE hT hS (c_X6_intAt h) lkX4_30 rfl ⟨(Nat.le_of_ble_eq_true rfl), (Nat.le_of_ble_eq_true rfl)⟩ (hP.sub [1, 2] rfl) 0 rfl rfl hl.1 rfl (Nat.le_of_ble_eq_true rfl) dX4_lettersFitting_36 ⟨(Nat.zero_le _), (Nat.zero_le _)⟩) (fun r36 h => ?_)
    refine lv_aload_n hx hb dX4_lettersFitting_39 rfl (lv_at hl 1 rfl) ?_
    refine lv_iload_n hx hb dX4_lettersFitting_40 rfl (lv_at hl 2 rfl) ?_
    obtain ⟨hi, h⟩ := h
    refine ro_i (roVr S hE hT hS (c_J0_charAt_5068e h) lkX4_100 rfl ⟨(Nat.le_of_ble_eq_true rfl), (Nat.le_of_ble_eq_true rfl)⟩ (hP.sub [] rfl) (hT.srecv hS hi) hl.1 rfl (Nat.le_of_ble_eq_true rfl) dX4_lettersFitting_41 ⟨(Nat.zero_le _), (Nat.zero_le _)⟩) (fun r41 h => ?_)
    refine lv_icmp_ne (tgt := 53) hx hb dX4_lettersFitting_44 (by decide) (fun hc => ?_) (fun hc => ?_)
    · have h := h.2 hc
      refine lv_iload_n hx hb dX4_lettersFitting_53 rfl (lv_at hl 2 rfl) ?_
      exact W.iret hx hb hr (fun t ht _ => ⟨_, rfl, h, ht⟩) (fun _ hq => by cases hq) dX4_lettersFitting_54
    have h := h.1 hc
    obtain ⟨x2_47, ex2_47⟩ : ∃ z : Int32, z = x2 + 1 := ⟨_, rfl⟩
    have h := h _ ex2_47
    refine lv_iinc (v := x2_47) (lv' := [(2, .int x2_47), (0, .ref a_o), (1, .ref (adK (2 * t1)))]) hx hb dX4_lettersFitting_47 hl (k := 2) rfl (by rw [ex2_47]; rfl) (by decide) rfl (fun ls hl => ?_)
    refine lv_goto (tgt := 2) hx hb dX4_lettersFitting_50 (by decide) ?_
    exact ih _ _ h (lv_sub hl [1, 2, 0] rfl)
set_option maxHeartbeats 4000000 in
set_option maxRecDepth 100000 in
theorem c_X4_lettersFitting {l : Launch} {D : va_G} {cI cJ cS : ClassId} {ad adK : Nat → Nat} {a_o a_text a_text_elements : Nat} {z_told : Value} {v_at : Int32} {v_faultAt : Int32} {v_text_held : Int32} {v_text_sort : Int32} {v_text_elementCount : Int32} {v_text_stretchNumber : Int32} {g_text_elements : Nat → Int64} {t1 : Nat} {post : Int32 → Prop} (h : F_X4_lettersFitting v_at v_text_elementCount g_text_elements t1 post) : Met l yX4_lettersFitting (Cond.code yX4_lettersFitting cX4_lettersFitting 3 (some (.int)) :: GW) (rmd 4 0 0) (PR D cI cJ cS ad adK [.ref a_o, .ref (adK (2 * t1))] (wX4_lettersFitting cI cJ cS a_o a_text a_text_elements z_told v_at v_faultAt v_text_held v_text_sort v_text_elementCount v_text_stretchNumber g_text_elements)) (vp_Si post) 0 0 nof := by
  refine Met.ro (by decide) (Nat.le_of_ble_eq_true rfl) (fun p e s m args below meth c ls (S : CallFix p m c cX4_lettersFitting 3 s args GW "RoadThatSings$Reader") hE hT hP hS hr hlocks hl => ?_)
  have hx := S.1
  have hb := S.2.1
  have hl : lv_has ls 3 [(0, .ref a_o), (1, .ref (adK (2 * t1)))] := hl
  unfold F_X4_lettersFitting at h
  refine lv_iconst (v := 0) hx hb dX4_lettersFitting_0 (by decide) ?_
  refine lv_istore_n (lv' := [(2, .int 0), (0, .ref a_o), (1, .ref (adK (2 * t1)))]) hx hb dX4_lettersFitting_1 rfl hl (by decide) rfl (fun ls hl => ?_)
  obtain ⟨n, h⟩ := h
  refine w_X4_lettersFitting_2 S hE hT hP hS hr hlocks n _ _ h (lv_sub hl [1, 2, 0] rfl)
/-! X4_readWord -/
abbrev wX4_readWord (cI cJ cS : ClassId) (a_o a_text a_text_elements : Nat) (z_told : Value) (v_at : Int32) (v_faultAt : Int32) (v_text_held : Int32) (v_text_sort : Int32) (v_text_elementCount : Int32) (v_text_stretchNumber : Int32) (g_text_elements : Nat → Int64) : va_W := [(a_o, .inr (3, [.ref a_text, z_told, .int v_at, .int v_faultAt])), (a_text, .inr (5, [.ref a_text_elements, .int v_text_held, .int v_text_sort, .int v_text_elementCount, .int v_text_stretchNumber])), (a_text_elements, .inl (cJ, 160, .inr (.inl g_text_elements)))]
def F_X4_readWord_75 (post : Option Nat → Int32 → Int32 → Prop) (v_at : Int32) (v_faultAt : Int32) : Prop := post none v_at v_at
def F_X4_readWord_44 (k6 : Option Nat → Int32 → Int32 → Int32 → Int32 → Prop) (o1 : Option Nat) (x2 : Int32) (x3 : Int32) (v_at : Int32) (v_faultAt : Int32) : Prop := ((o1 = none → (∀ x3_44 : Int32, x3_44 = x3 + 1 → k6 none x2 x3_44 v_at v_faultAt)) ∧ (∀ t1_2 : Nat, o1 = some t1_2 → (∀ x3_44 : Int32, x3_44 = x3 + 1 → k6 (some t1_2) x2 x3_44 v_at v_faultAt)))
def L_X4_readWord_6 (v_text_elementCount : Int32) (g_text_elements : Nat → Int64) (post : Option Nat → Int32 → Int32 → Prop) : Nat → Option Nat → Int32 → Int32 → Int32 → Int32 → Prop
  | 0, _, _, _, _, _ => False
  | n6 + 1, o1, x2, x3, v_at, v_faultAt => ((o1 = none → (((nI 13) ≤ x3 → F_X4_readWord_75 post (v_at + x2) v_faultAt) ∧ (¬ (nI 13) ≤ x3 → (vp_in x3 13 ∧ (x3.toNatClampNeg < 13 ∧ (F_X4_lettersFitting v_at v_text_elementCount g_text_elements x3.toNatClampNeg (fun r27 => ((r27 ≤ x2 → F_X4_readWord_44 (fun o1 x2 x3 v_at v_faultAt => L_X4_readWord_6 v_text_elementCount g_text_elements post n6 o1 x2 x3 v_at v_faultAt) none x2 x3 v_at v_faultAt) ∧ (¬ r27 ≤ x2 → F_X4_readWord_44 (fun o1 x2 x3 v_at v_faultAt => L_X4_readWord_6 v_text_elementCount g_text_elements post n6 o1 x2 x3 v_at v_faultAt) (some x3.toNatClampNeg) r27 x3 v_at v_faultAt))))))))) ∧ (∀ t1_1 : Nat, o1 = some t1_1 → (((nI 13) ≤ x3 → (t1_1 < 13 ∧ (t1_1 < 13 ∧ (F_J0_length_8abf5 t1_1 (fun r69 => ((r69 ≤ x2 → post (some t1_1) (v_at + x2) v_faultAt) ∧ (¬ r69 ≤ x2 → F_X4_readWord_75 post (v_at + x2) v_faultAt))))))) ∧ (¬ (nI 13) ≤ x3 → (vp_in x3 13 ∧ (x3.toNatClampNeg < 13 ∧ (F_X4_lettersFitting v_at v_text_elementCount g_text_elements x3.toNatClampNeg (fun r27 => ((r27 ≤ x2 → F_X4_readWord_44 (fun o1 x2 x3 v_at v_faultAt => L_X4_readWord_6 v_text_elementCount g_text_elements post n6 o1 x2 x3 v_at v_faultAt) (some t1_1) x2 x3 v_at v_faultAt) ∧ (¬ r27 ≤ x2 → F_X4_readWord_44 (fun o1 x2 x3 v_at v_faultAt => L_X4_readWord_6 v_text_elementCount g_text_elements post n6 o1 x2 x3 v_at v_faultAt) (some x3.toNatClampNeg) r27 x3 v_at v_faultAt))))))))))
def F_X4_readWord (v_at : Int32) (v_faultAt : Int32) (v_text_elementCount : Int32) (g_text_elements : Nat → Int64) (post : Option Nat → Int32 → Int32 → Prop) : Prop := (∃ n6 : Nat, L_X4_readWord_6 v_text_elementCount g_text_elements post n6 none 0 0 v_at v_faultAt)
set_option maxHeartbeats 4000000 in
set_option maxRecDepth 100000 in
theorem w_X4_readWord_75 {l : Launch} {D : va_G} {cI cJ cS : ClassId} {ad adK : Nat → Nat} {a_o a_text a_text_elements : Nat} {z_told : Value} {v_at : Int32} {v_faultAt : Int32} {v_text_held : Int32} {v_text_sort : Int32} {v_text_elementCount : Int32} {v_text_stretchNumber : Int32} {g_text_elements : Nat → Int64} {post : Option Nat → Int32 → Int32 → Prop} {p : Program} {e : Env} {s : State} {m : MethodId} {args : Array Value} {below : List Frame} {meth : Method} {c : Code} {A : Nat → Prop} (S : CallFix p m c cX4_readWord 6 s args GW "RoadThatSings$Reader") (hE : EN D cI cJ cS s) (hT : ST ad adK A s s.heap) (hA : ∀ q : Nat, s.heap.size ≤ q → A q) (hr : meth.sig.returnType = (some (.object "RoadThatSings$Item"))) (hlocks : meth.locks = false) : ∀ (H : Heap) (locs : List Loc) (ls : Array Slot), F_X4_readWord_75 post v_at v_faultAt → va_P D vwCl (wX4_readWord cI cJ cS a_o a_text a_text_elements z_told v_at v_faultAt v_text_held v_text_sort v_text_elementCount v_text_stretchNumber g_text_elements) H → va_D A (wX4_readWord cI cJ cS a_o a_text a_text_elements z_told v_at v_faultAt v_text_held v_text_sort v_text_elementCount v_text_stretchNumber g_text_elements) → va_S A s.heap H locs → lv_has ls 6 [(0, .ref a_o)] → W p l e (rmd 5 0 0) s m args below meth c H locs 0 0 (MQ below (va_Qe ad (fun r (u : Int32 × Int32) => post r u.1 u.2) (fun u t => va_P D vwCl (wX4_readWord cI cJ cS a_o a_text a_text_elements z_told u.1 u.2 v_text_held v_text_sort v_text_elementCount v_text_stretchNumber g_text_elements) t.heap) A) args s 0 0 A) (F0 m 75 ls []) := by
  intro  H locs ls h hP hD hS hl
  unfold F_X4_readWord_75 at h
  have hx := S.1
  have hb := S.2.1
  refine lv_aload_n hx hb dX4_readWord_75 rfl (lv_at hl 0 rfl) ?_
  refine lv_aload_n hx hb dX4_readWord_76 rfl (lv_at hl 0 rfl) ?_
  refine gf S hE hP 0 rfl rfl inX4 (k := 2) (by decide) q576 rfl dX4_readWord_77 ?_
  refine pf S hE hP hD hS 0 (k := 3) rfl rfl inX4 tyX4_ok nmX4 (by decide) q577 rfl rfl rfl (Nat.le_of_ble_eq_true rfl) dX4_readWord_80 (fun H locs hP hD hS => ?_)
  have hP : va_P D vwCl (wX4_readWord cI cJ cS a_o a_text a_text_elements z_told v_at v_at v_text_held v_text_sort v_text_elementCount v_text_stretchNumber g_text_elements) H := hP
  have hD : va_D A (wX4_readWord cI cJ cS a_o a_text a_text_elements z_told v_at v_at v_text_held v_text_sort v_text_elementCount v_text_stretchNumber g_text_elements) := hD
  refine lv_null hx hb dX4_readWord_83 ?_
  exact W.aret hx hb hr (Or.inl ⟨_, rfl⟩) (Or.inl rfl) (fun t ht _ => ⟨⟨none, (v_at, v_at), rfl, h, hPt hP ht⟩, hS.F ht⟩) hS.2.2 dX4_readWord_84
set_option maxHeartbeats 4000000 in
set_option maxRecDepth 100000 in
theorem w_X4_readWord_44 {l : Launch} {D : va_G} {cI cJ cS : ClassId} {ad adK : Nat → Nat} {a_o a_text a_text_elements : Nat} {z_told : Value} {v_at : Int32} {v_faultAt : Int32} {v_text_held : Int32} {v_text_sort : Int32} {v_text_elementCount : Int32} {v_text_stretchNumber : Int32} {g_text_elements : Nat → Int64} {o1 : Option Nat} {x2 : Int32} {x3 : Int32} {post : Option Nat → Int32 → Int32 → Prop} {k6 : Option Nat → Int32 → Int32 → Int32 → Int32 → Prop} {p : Program} {e : Env} {s : State} {m : MethodId} {args : Array Value} {below : List Frame} {meth : Method} {c : Code} {A : Nat → Prop} (S : CallFix p m c cX4_readWord 6 s args GW "RoadThatSings$Reader") (hE : EN D cI cJ cS s) (hT : ST ad adK A s s.heap) (hA : ∀ q : Nat, s.heap.size ≤ q → A q) (hr : meth.sig.returnType = (some (.object "RoadThatSings$Item"))) (hlocks : meth.locks = false) (hk6 : ∀ (o1 : Option Nat) (x2 : Int32) (x3 : Int32) (v_at : Int32) (v_faultAt : Int32) (H : Heap) (locs : List Loc) (ls : Array Slot), k6 o1 x2 x3 v_at v_faultAt → va_P D vwCl (wX4_readWord cI cJ cS a_o a_text a_text_elements z_told v_at v_faultAt v_text_held v_text_sort v_text_elementCount v_text_stretchNumber g_text_elements) H → va_D A (wX4_readWord cI cJ cS a_o a_text a_text_elements z_told v_at v_faultAt v_text_held v_text_sort v_text_elementCount v_text_stretchNumber g_text_elements) → va_S A s.heap H locs → lv_has ls 6 [(0, .ref a_o), (1, va_re ad o1), (2, .int x2), (3, .int x3)] → W p l e (rmd 5 0 0) s m args below meth c H locs 0 0 (MQ below (va_Qe ad (fun r (u : Int32 × Int32) => post r u.1 u.2) (fun u t => va_P D vwCl (wX4_readWord cI cJ cS a_o a_text a_text_elements z_told u.1 u.2 v_text_held v_text_sort v_text_elementCount v_text_stretchNumber g_text_elements) t.heap) A) args s 0 0 A) (F0 m 6 ls [])) : ∀ (H : Heap) (locs : List Loc) (ls : Array Slot), F_X4_readWord_44 k6 o1 x2 x3 v_at v_faultAt → va_P D vwCl (wX4_readWord cI cJ cS a_o a_text a_text_elements z_told v_at v_faultAt v_text_held v_text_sort v_text_elementCount v_text_stretchNumber g_text_elements) H → va_D A (wX4_readWord cI cJ cS a_o a_text a_text_elements z_told v_at v_faultAt v_text_held v_text_sort v_text_elementCount v_text_stretchNumber g_text_elements) → va_S A s.heap H locs → lv_has ls 6 [(0, .ref a_o), (1, va_re ad o1), (2, .int x2), (3, .int x3)] → W p l e (rmd 5 0 0) s m args below meth c H locs 0 0 (MQ below (va_Qe ad (fun r (u : Int32 × Int32) => post r u.1 u.2) (fun u t => va_P D vwCl (wX4_readWord cI cJ cS a_o a_text a_text_elements z_told u.1 u.2 v_text_held v_text_sort v_text_elementCount v_text_stretchNumber g_text_elements) t.heap) A) args s 0 0 A) (F0 m 44 ls []) := by
  intro  H locs ls h hP hD hS hl
  unfold F_X4_readWord_44 at h
  have hx := S.1
  have hb := S.2.1
  cases o1 with
  | none =>
    replace h := h.1 rfl
    obtain ⟨x3_44, ex3_44⟩ : ∃ z : Int32, z = x3 + 1 := ⟨_, rfl⟩
    have h := h _ ex3_44
    refine lv_iinc (v := x3_44) (lv' := [(3, .int x3_44), (0, .ref a_o), (1, .null), (2, .int x2)]) hx hb dX4_readWord_44 hl (k := 3) rfl (by rw [ex3_44]; rfl) (by decide) rfl (fun ls hl => ?_)
    refine lv_goto (tgt := 6) hx hb dX4_readWord_47 (by decide) ?_
    exact hk6 _ _ _ _ _ _ _ _ h hP hD hS (lv_sub hl [1, 2, 3, 0] rfl)
  | some t1_2 =>
    replace h := h.2 _ rfl
    obtain ⟨x3_44, ex3_44⟩ : ∃ z : Int32, z = x3 + 1 := ⟨_, rfl⟩
    have h := h _ ex3_44
    refine lv_iinc (v := x3_44) (lv' := [(3, .int x3_44), (0, .ref a_o), (1, .ref (ad t1_2)), (2, .int x2)]) hx hb dX4_readWord_44 hl (k := 3) rfl (by rw [ex3_44]; rfl) (by decide) rfl (fun ls hl => ?_)
    refine lv_goto (tgt := 6) hx hb dX4_readWord_47 (by decide) ?_
    exact hk6 _ _ _ _ _ _ _ _ h hP hD hS (lv_sub hl [1, 2, 3, 0] rfl)
set_option maxHeartbeats 4000000 in
set_option maxRecDepth 100000 in
theorem w_X4_readWord_6 {l : Launch} {D : va_G} {cI cJ cS : ClassId} {ad adK : Nat → Nat} {a_o a_text a_text_elements : Nat} {z_told : Value} {v_text_held : Int32} {v_text_sort : Int32} {v_text_elementCount : Int32} {v_text_stretchNumber : Int32} {g_text_elements : Nat → Int64} {post : Option Nat → Int32 → Int32 → Prop} {p : Program} {e : Env} {s : State} {m : MethodId} {args : Array Value} {below : List Frame} {meth : Method} {c : Code} {A : Nat → Prop} (S : CallFix p m c cX4_readWord 6 s args GW "RoadThatSings$Reader") (hE : EN D cI cJ cS s) (hT : ST ad adK A s s.heap) (hA : ∀ q : Nat, s.heap.size ≤ q → A q) (hr : meth.sig.returnType = (some (.object "RoadThatSings$Item"))) (hlocks : meth.locks = false) : ∀ n : Nat, ∀ (o1 : Option Nat) (x2 : Int32) (x3 : Int32) (v_at : Int32) (v_faultAt : Int32) (H : Heap) (locs : List Loc) (ls : Array Slot), L_X4_readWord_6 v_text_elementCount g_text_elements post n o1 x2 x3 v_at v_faultAt → va_P D vwCl (wX4_readWord cI cJ cS a_o a_text a_text_elements z_told v_at v_faultAt v_text_held v_text_sort v_text_elementCount v_text_stretchNumber g_text_elements) H → va_D A (wX4_readWord cI cJ cS a_o a_text a_text_elements z_told v_at v_faultAt v_text_held v_text_sort v_text_elementCount v_text_stretchNumber g_text_elements) → va_S A s.heap H locs → lv_has ls 6 [(0, .ref a_o), (1, va_re ad o1), (2, .int x2), (3, .int x3)] → W p l e (rmd 5 0 0) s m args below meth c H locs 0 0 (MQ below (va_Qe ad (fun r (u : Int32 × Int32) => post r u.1 u.2) (fun u t => va_P D vwCl (wX4_readWord cI cJ cS a_o a_text a_text_elements z_told u.1 u.2 v_text_held v_text_sort v_text_elementCount v_text_stretchNumber g_text_elements) t.heap) A) args s 0 0 A) (F0 m 6 ls []) := by
  intro n
  induction n with
  | zero =>
    intro o1 x2 x3 v_at v_faultAt H locs ls h hP hD hS hl
    exact h.elim
  | succ n ih =>
    intro o1 x2 x3 v_at v_faultAt H locs ls h hP hD hS hl
    rw [L_X4_readWord_6] at h
    have hx := S.1
    have hb := S.2.1
    cases o1 with
    | none =>
      replace h := h.1 rfl
      refine lv_iload_n hx hb dX4_readWord_6 rfl (lv_at hl 3 rfl) ?_
      refine gsI S hE hT hS nfX4_83 dX4_readWord_7 (fun t7 ht7 => ?_)
      refine va_tlen hx hb ht7 hS rfl dX4_readWord_10 ?_
      refine lv_icmp_ge (tgt := 50) hx hb dX4_readWord_11 (by decide) (fun hc => ?_) (fun hc => ?_)
      · have h := h.1 hc
        refine lv_aload_n hx hb dX4_readWord_50 rfl (lv_at hl 0 rfl) ?_
        refine lv_dup hx hb dX4_readWord_51 rfl ?_
        refine gf S hE hP 0 rfl rfl inX4 (k := 2) (by decide) q576 rfl dX4_readWord_52 ?_
        refine lv_iload_n hx hb dX4_readWord_55 rfl (lv_at hl 2 rfl) ?_
        refine lv_iadd hx hb dX4_readWord_56 ?_
        refine pf S hE hP hD hS 0 (k := 2) rfl rfl inX4 tyX4_ok nmX4 (by decide) q576 rfl rfl rfl (Nat.le_of_ble_eq_true rfl) dX4_readWord_57 (fun H locs hP hD hS => ?_)
        have hP : va_P D vwCl (wX4_readWord cI cJ cS a_o a_text a_text_elements z_told (v_at + x2) v_faultAt v_text_held v_text_sort v_text_elementCount v_text_stretchNumber g_text_elements) H := hP
        have hD : va_D A (wX4_readWord cI cJ cS a_o a_text a_text_elements z_told (v_at + x2) v_faultAt v_text_held v_text_sort v_text_elementCount v_text_stretchNumber g_text_elements) := hD
        refine lv_aload_nN hx hb dX4_readWord_60 rfl (lv_at hl 1 rfl) ?_
        refine lv_ifnullN (tgt := 75) hx hb dX4_readWord_61 (by decide) ?_
        refine w_X4_readWord_75 S hE hT hA hr hlocks _ _ _ h hP hD hS (lv_sub hl [0] rfl)
      have h := h.2 hc
      refine gsI S hE hT hS nfX4_83 dX4_readWord_14 (fun t14 ht14 => ?_)
      refine lv_iload_n hx hb dX4_readWord_17 rfl (lv_at hl 3 rfl) ?_
      obtain ⟨hi, h⟩ := h
      refine vb_tq hx hb ht14 hS hi (v := .ref (ad x3.toNatClampNeg)) rfl dX4_readWord_18 ?_
      refine lv_astore (lv' := [(4, .ref (ad x3.toNatClampNeg)), (0, .ref a_o), (1, .null), (2, .int x2), (3, .int x3)]) hx hb dX4_readWord_19 hl (by decide) rfl (fun ls hl => ?_)
      refine lv_aload_n hx hb dX4_readWord_21 rfl (lv_at hl 1 rfl) ?_
      refine lv_aload hx hb dX4_readWord_22 (lv_at hl 0 rfl) ?_
      obtain ⟨hi, h⟩ := h
      refine itfN S hE (hT.word hi) hS nfX4_87 dX4_readWord_24 ?_
      refine ro_i (roV S hE hT hS (c_X4_lettersFitting h) lkX4_91 rfl ⟨(Nat.le_of_ble_eq_true rfl), (Nat.le_of_ble_eq_true rfl)⟩ (hP.sub [0, 1, 2] rfl) 0 rfl rfl hl.1 rfl (Nat.le_of_ble_eq_true rfl) dX4_readWord_27 ⟨(Nat.zero_le _), (Nat.zero_le _)⟩) (fun r27 h => ?_)
      refine lv_istore (lv' := [(5, .int r27), (4, .ref (ad x3.toNatClampNeg)), (0, .ref a_o), (1, .null), (2, .int x2), (3, .int x3)]) hx hb dX4_readWord_30 hl (by decide) rfl (fun ls hl => ?_)
      refine lv_iload hx hb dX4_readWord_32 (lv_at hl 0 rfl) ?_
      refine lv_iload_n hx hb dX4_readWord_34 rfl (lv_at hl 4 rfl) ?_
      refine lv_icmp_le (tgt := 44) hx hb dX4_readWord_35 (by decide) (fun hc => ?_) (fun hc => ?_)
      · have h := h.1 hc
        refine w_X4_readWord_44 S hE hT hA hr hlocks ih _ _ _ h hP hD hS (lv_sub hl [2, 3, 4, 5] rfl)
      have h := h.2 hc
      refine lv_iload hx hb dX4_readWord_38 (lv_at hl 0 rfl) ?_
      refine lv_istore_n (lv' := [(2, .int r27), (5, .int r27), (4, .ref (ad x3.toNatClampNeg)), (0, .ref a_o), (1, .null), (3, .int x3)]) hx hb dX4_readWord_40 rfl hl (by decide) rfl (fun ls hl => ?_)
      refine lv_aload hx hb dX4_readWord_41 (lv_at hl 2 rfl) ?_
      refine lv_astore_n (lv' := [(1, .ref (ad x3.toNatClampNeg)), (2, .int r27), (5, .int r27), (4, .ref (ad x3.toNatClampNeg)), (0, .ref a_o), (3, .int x3)]) hx hb dX4_readWord_43 rfl hl (by decide) rfl (fun ls hl => ?_)
      refine w_X4_readWord_44 S hE hT hA hr hlocks ih _ _ _ h hP hD hS (lv_sub hl [4, 0, 1, 5] rfl)
    | some t1_1 =>
      replace h := h.2 _ rfl
      refine lv_iload_n hx hb dX4_readWord_6 rfl (lv_at hl 3 rfl) ?_
      refine gsI S hE hT hS nfX4_83 dX4_readWord_7 (fun t7 ht7 => ?_)
      refine va_tlen hx hb ht7 hS rfl dX4_readWord_10 ?_
      refine lv_icmp_ge (tgt := 50) hx hb dX4_readWord_11 (by decide) (fun hc => ?_) (fun hc => ?_)
      · have h := h.1 hc
        refine lv_aload_n hx hb dX4_readWord_50 rfl (lv_at hl 0 rfl) ?_
        refine lv_dup hx hb dX4_readWord_51 rfl ?_
        refine gf S hE hP 0 rfl rfl inX4 (k := 2) (by decide) q576 rfl dX4_readWord_52 ?_
        refine lv_iload_n hx hb dX4_readWord_55 rfl (lv_at hl 2 rfl) ?_
        refine lv_iadd hx hb dX4_readWord_56 ?_
        refine pf S hE hP hD hS 0 (k := 2) rfl rfl inX4 tyX4_ok nmX4 (by decide) q576 rfl rfl rfl (Nat.le_of_ble_eq_true rfl) dX4_readWord_57 (fun H locs hP hD hS => ?_)
        have hP : va_P D vwCl (wX4_readWord cI cJ cS a_o a_text a_text_elements z_told (v_at + x2) v_faultAt v_text_held v_text_sort v_text_elementCount v_text_stretchNumber g_text_elements) H := hP
        have hD : va_D A (wX4_readWord cI cJ cS a_o a_text a_text_elements z_told (v_at + x2) v_faultAt v_text_held v_text_sort v_text_elementCount v_text_stretchNumber g_text_elements) := hD
        refine lv_aload_n hx hb dX4_readWord_60 rfl (lv_at hl 1 rfl) ?_
        refine lv_ifnull hx hb dX4_readWord_61 ?_
        refine lv_iload_n hx hb dX4_readWord_64 rfl (lv_at hl 2 rfl) ?_
        refine lv_aload_n hx hb dX4_readWord_65 rfl (lv_at hl 1 rfl) ?_
        obtain ⟨hi, h⟩ := h
        refine itfN S hE (hT.word hi) hS nfX4_87 dX4_readWord_66 ?_
        obtain ⟨hi, h⟩ := h
        refine ro_i (roVr S hE hT hS (c_J0_length_8abf5 h) lkX4_95 rfl ⟨(Nat.le_of_ble_eq_true rfl), (Nat.le_of_ble_eq_true rfl)⟩ (hP.sub [] rfl) (hT.srecv hS hi) hl.1 rfl (Nat.le_of_ble_eq_true rfl) dX4_readWord_69 ⟨(Nat.zero_le _), (Nat.zero_le _)⟩) (fun r69 h => ?_)
        refine lv_icmp_ge (tgt := 85) hx hb dX4_readWord_72 (by decide) (fun hc => ?_) (fun hc => ?_)
        · have h := h.1 hc
          refine lv_aload_n hx hb dX4_readWord_85 rfl (lv_at hl 1 rfl) ?_
          exact W.aret hx hb hr (Or.inl ⟨_, rfl⟩) (Or.inr ⟨_, rfl⟩) (fun t ht _ => ⟨⟨(some t1_1), ((v_at + x2), v_faultAt), rfl, h, hPt hP ht⟩, hS.F ht⟩) hS.2.2 dX4_readWord_86
        have h := h.2 hc
        refine w_X4_readWord_75 S hE hT hA hr hlocks _ _ _ h hP hD hS (lv_sub hl [0] rfl)
      have h := h.2 hc
      refine gsI S hE hT hS nfX4_83 dX4_readWord_14 (fun t14 ht14 => ?_)
      refine lv_iload_n hx hb dX4_readWord_17 rfl (lv_at hl 3 rfl) ?_
      obtain ⟨hi, h⟩ := h
      refine vb_tq hx hb ht14 hS hi (v := .ref (ad x3.toNatClampNeg)) rfl dX4_readWord_18 ?_
      refine lv_astore (lv' := [(4, .ref (ad x3.toNatClampNeg)), (0, .ref a_o), (1, .ref (ad t1_1)), (2, .int x2), (3, .int x3)]) hx hb dX4_readWord_19 hl (by decide) rfl (fun ls hl => ?_)
      refine lv_aload_n hx hb dX4_readWord_21 rfl (lv_at hl 1 rfl) ?_
      refine lv_aload hx hb dX4_readWord_22 (lv_at hl 0 rfl) ?_
      obtain ⟨hi, h⟩ := h
      refine itfN S hE (hT.word hi) hS nfX4_87 dX4_readWord_24 ?_
      refine ro_i (roV S hE hT hS (c_X4_lettersFitting h) lkX4_91 rfl ⟨(Nat.le_of_ble_eq_true rfl), (Nat.le_of_ble_eq_true rfl)⟩ (hP.sub [0, 1, 2] rfl) 0 rfl rfl hl.1 rfl (Nat.le_of_ble_eq_true rfl) dX4_readWord_27 ⟨(Nat.zero_le _), (Nat.zero_le _)⟩) (fun r27 h => ?_)
      refine lv_istore (lv' := [(5, .int r27), (4, .ref (ad x3.toNatClampNeg)), (0, .ref a_o), (1, .ref (ad t1_1)), (2, .int x2), (3, .int x3)]) hx hb dX4_readWord_30 hl (by decide) rfl (fun ls hl => ?_)
      refine lv_iload hx hb dX4_readWord_32 (lv_at hl 0 rfl) ?_
      refine lv_iload_n hx hb dX4_readWord_34 rfl (lv_at hl 4 rfl) ?_
      refine lv_icmp_le (tgt := 44) hx hb dX4_readWord_35 (by decide) (fun hc => ?_) (fun hc => ?_)
      · have h := h.1 hc
        refine w_X4_readWord_44 S hE hT hA hr hlocks ih _ _ _ h hP hD hS (lv_sub hl [2, 3, 4, 5] rfl)
      have h := h.2 hc
      refine lv_iload hx hb dX4_readWord_38 (lv_at hl 0 rfl) ?_
      refine lv_istore_n (lv' := [(2, .int r27), (5, .int r27), (4, .ref (ad x3.toNatClampNeg)), (0, .ref a_o), (1, .ref (ad t1_1)), (3, .int x3)]) hx hb dX4_readWord_40 rfl hl (by decide) rfl (fun ls hl => ?_)
      refine lv_aload hx hb dX4_readWord_41 (lv_at hl 2 rfl) ?_
      refine lv_astore_n (lv' := [(1, .ref (ad x3.toNatClampNeg)), (2, .int r27), (5, .int r27), (4, .ref (ad x3.toNatClampNeg)), (0, .ref a_o), (3, .int x3)]) hx hb dX4_readWord_43 rfl hl (by decide) rfl (fun ls hl => ?_)
      refine w_X4_readWord_44 S hE hT hA hr hlocks ih _ _ _ h hP hD hS (lv_sub hl [4, 0, 1, 5] rfl)
set_option maxHeartbeats 4000000 in
set_option maxRecDepth 100000 in
theorem c_X4_readWord {l : Launch} {D : va_G} {cI cJ cS : ClassId} {ad adK : Nat → Nat} {a_o a_text a_text_elements : Nat} {z_told : Value} {v_at : Int32} {v_faultAt : Int32} {v_text_held : Int32} {v_text_sort : Int32} {v_text_elementCount : Int32} {v_text_stretchNumber : Int32} {g_text_elements : Nat → Int64} {post : Option Nat → Int32 → Int32 → Prop} (h : F_X4_readWord v_at v_faultAt v_text_elementCount g_text_elements post) {sz : Nat} : Met l yX4_readWord (Cond.code yX4_readWord cX4_readWord 6 (some (.object "RoadThatSings$Item")) :: GW) (rmd 5 0 0) (PW D cI cJ cS ad adK [.ref a_o] (wX4_readWord cI cJ cS a_o a_text a_text_elements z_told v_at v_faultAt v_text_held v_text_sort v_text_elementCount v_text_stretchNumber g_text_elements) sz) (va_Qe ad (fun r (u : Int32 × Int32) => post r u.1 u.2) (fun u t => va_P D vwCl (wX4_readWord cI cJ cS a_o a_text a_text_elements z_told u.1 u.2 v_text_held v_text_sort v_text_elementCount v_text_stretchNumber g_text_elements) t.heap) (va_A (wX4_readWord cI cJ cS a_o a_text a_text_elements z_told v_at v_faultAt v_text_held v_text_sort v_text_elementCount v_text_stretchNumber g_text_elements) sz)) 0 0 (va_A (wX4_readWord cI cJ cS a_o a_text a_text_elements z_told v_at v_faultAt v_text_held v_text_sort v_text_elementCount v_text_stretchNumber g_text_elements) sz) := by
  refine Met.rw (Qc := fun A => (va_Qe ad (fun r (u : Int32 × Int32) => post r u.1 u.2) (fun u t => va_P D vwCl (wX4_readWord cI cJ cS a_o a_text a_text_elements z_told u.1 u.2 v_text_held v_text_sort v_text_elementCount v_text_stretchNumber g_text_elements) t.heap) A)) (by decide) (Nat.le_of_ble_eq_true rfl) (fun p e s m args below meth c ls A (S : CallFix p m c cX4_readWord 6 s args GW "RoadThatSings$Reader") hE hT hP hD hA hS hr hlocks hname hl => ?_)
  have hS0 := hS
  have hx := S.1
  have hb := S.2.1
  have hl : lv_has ls 6 [(0, .ref a_o)] := hl
  unfold F_X4_readWord at h
  refine lv_null hx hb dX4_readWord_0 ?_
  refine lv_astore_nN (lv' := [(1, .null), (0, .ref a_o)]) hx hb dX4_readWord_1 rfl hl (by decide) rfl (fun ls hl => ?_)
  refine lv_iconst (v := 0) hx hb dX4_readWord_2 (by decide) ?_
  refine lv_istore_n (lv' := [(2, .int 0), (1, .null), (0, .ref a_o)]) hx hb dX4_readWord_3 rfl hl (by decide) rfl (fun ls hl => ?_)
  refine lv_iconst (v := 0) hx hb dX4_readWord_4 (by decide) ?_
  refine lv_istore_n (lv' := [(3, .int 0), (2, .int 0), (1, .null), (0, .ref a_o)]) hx hb dX4_readWord_5 rfl hl (by decide) rfl (fun ls hl => ?_)
  obtain ⟨n, h⟩ := h
  refine w_X4_readWord_6 S hE hT hA hr hlocks n _ _ _ _ _ _ _ _ h hP hD hS (lv_sub hl [3, 2, 1, 0] rfl)
