/-! X9_holds -/
abbrev wX9_holds (cI cJ cS : ClassId) (a_o a_shelves : Nat) (z_road z_kept z_ahead z_cutting z_acting z_refused : Value) (sa ea : Nat → Nat) (v_imaged : Int32) (v_lastFault : Int32) (f_sh_held : Nat → Int32) (f_sh_sort : Nat → Int32) (f_sh_cnt : Nat → Int32) (f_sh_num : Nat → Int32) (g_sh_el : Nat → Nat → Int64) : va_W := [(a_o, .inr (8, [z_road, z_kept, z_ahead, .ref a_shelves, z_cutting, z_acting, z_refused, .int v_imaged, .int v_lastFault])), (a_shelves, .inl (cS, 8, .inr (.inr (.inr (.inr (fun k => some (sa k)))))))] ++ shW sa ea cJ f_sh_held f_sh_sort f_sh_cnt f_sh_num g_sh_el
def F_X9_holds (f_sh_held : Nat → Int32) (f_sh_sort : Nat → Int32) (f_sh_num : Nat → Int32) (x1 : Int32) (post : Int32 → Prop) : Prop := (F_X9_shelfAt x1 (post (-1)) (fun j2 => (F_X6_whatIsHeld (f_sh_held j2) (f_sh_sort j2) (f_sh_num j2) (fun r15 => post r15))))
set_option maxHeartbeats 4000000 in
set_option maxRecDepth 100000 in
theorem c_X9_holds {l : Launch} {D : va_G} {cI cJ cS : ClassId} {ad adK : Nat → Nat} {a_o a_shelves : Nat} {z_road z_kept z_ahead z_cutting z_acting z_refused : Value} {sa ea : Nat → Nat} {v_imaged : Int32} {v_lastFault : Int32} {f_sh_held : Nat → Int32} {f_sh_sort : Nat → Int32} {f_sh_cnt : Nat → Int32} {f_sh_num : Nat → Int32} {g_sh_el : Nat → Nat → Int64} {x1 : Int32} {post : Int32 → Prop} (h : F_X9_holds f_sh_held f_sh_sort f_sh_num x1 post) : Met l yX9_holds (Cond.code yX9_holds cX9_holds 3 (some (.int)) :: GW) (rmd 2 0 0) (PR D cI cJ cS ad adK [.ref a_o, .int x1] (wX9_holds cI cJ cS a_o a_shelves z_road z_kept z_ahead z_cutting z_acting z_refused sa ea v_imaged v_lastFault f_sh_held f_sh_sort f_sh_cnt f_sh_num g_sh_el)) (vp_Si post) 0 0 nof := by
  refine Met.ro (by decide) (Nat.le_of_ble_eq_true rfl) (fun p e s m args below meth c ls (S : CallFix p m c cX9_holds 3 s args GW "RoadThatSings") hE hT hP hS hr hlocks hl => ?_)
  have hx := S.1
  have hb := S.2.1
  have hl : lv_has ls 3 [(0, .ref a_o), (1, .int x1)] := hl
  unfold F_X9_holds at h
  refine lv_aload_n hx hb dX9_holds_0 rfl (lv_at hl 0 rfl) ?_
  refine lv_iload_n hx hb dX9_holds_1 rfl (lv_at hl 1 rfl) ?_
  refine ro_s (roV S hE hT hS (c_X9_shelfAt h) lkX9_55 rfl ⟨(Nat.le_of_ble_eq_true rfl), (Nat.le_of_ble_eq_true rfl)⟩ (hP.sub [0, 1] rfl) 0 rfl rfl hl.1 rfl (Nat.le_of_ble_eq_true rfl) dX9_holds_2 ⟨(Nat.zero_le _), (Nat.zero_le _)⟩) (fun h => ?_) (fun j2 hj2 h => ?_)
  · refine lv_astore_nN (lv' := [(2, .null), (0, .ref a_o), (1, .int x1)]) hx hb dX9_holds_5 rfl hl (by decide) rfl (fun ls hl => ?_)
    refine lv_aload_nN hx hb dX9_holds_6 rfl (lv_at hl 0 rfl) ?_
    refine lv_ifnonnullN hx hb dX9_holds_7 ?_
    refine lv_iconst (v := (-1)) hx hb dX9_holds_10 (by decide) ?_
    refine lv_goto (tgt := 18) hx hb dX9_holds_11 (by decide) ?_
    exact W.iret hx hb hr (fun t ht _ => ⟨_, rfl, h, ht⟩) (fun _ hq => by cases hq) dX9_holds_18
  refine lv_astore_n (lv' := [(2, .ref (sa j2)), (0, .ref a_o), (1, .int x1)]) hx hb dX9_holds_5 rfl hl (by decide) rfl (fun ls hl => ?_)
  refine lv_aload_n hx hb dX9_holds_6 rfl (lv_at hl 0 rfl) ?_
  refine lv_ifnonnull (tgt := 14) hx hb dX9_holds_7 (by decide) ?_
  refine lv_aload_n hx hb dX9_holds_14 rfl (lv_at hl 0 rfl) ?_
  refine ro_i (roV S hE hT hS (c_X6_whatIsHeld h) lkX9_122 rfl ⟨(Nat.le_of_ble_eq_true rfl), (Nat.le_of_ble_eq_true rfl)⟩ (vPc hP (shS rfl hj2) vPn) 0 rfl rfl hl.1 rfl (Nat.le_of_ble_eq_true rfl) dX9_holds_15 ⟨(Nat.zero_le _), (Nat.zero_le _)⟩) (fun r15 h => ?_)
  exact W.iret hx hb hr (fun t ht _ => ⟨_, rfl, h, ht⟩) (fun _ hq => by cases hq) dX9_holds_18
/-! X9_isKindUnder -/
abbrev wX9_isKindUnder (cI cJ cS : ClassId) : va_W := []
def L_X9_isKindUnder_4 (x1 : Int32) (post : Int32 → Prop) : Nat → Int32 → Int32 → Prop
  | 0, _, _ => False
  | n4 + 1, x2, x3 => ((7 ≤ x3 → post 0) ∧ (¬ 7 ≤ x3 → ((x2 = (-1) → post 0) ∧ (¬ x2 = (-1) → ((x2 = x1 → post 1) ∧ (¬ x2 = x1 → (F_X9_kindAbove x2 (fun r23 => (∀ x3_27 : Int32, x3_27 = x3 + 1 → L_X9_isKindUnder_4 x1 post n4 r23 x3_27)))))))))
def F_X9_isKindUnder (x0 : Int32) (x1 : Int32) (post : Int32 → Prop) : Prop := (∃ n4 : Nat, L_X9_isKindUnder_4 x1 post n4 x0 0)
set_option maxHeartbeats 4000000 in
set_option maxRecDepth 100000 in
theorem w_X9_isKindUnder_4 {l : Launch} {D : va_G} {cI cJ cS : ClassId} {ad adK : Nat → Nat}  {x1 : Int32} {post : Int32 → Prop} {p : Program} {e : Env} {s : State} {m : MethodId} {args : Array Value} {below : List Frame} {meth : Method} {c : Code} (S : CallFix p m c cX9_isKindUnder 4 s args GW "RoadThatSings") (hE : EN D cI cJ cS s) (hT : ST ad adK nof s s.heap) (hP : va_P D vwCl (wX9_isKindUnder cI cJ cS) s.heap) (hS : va_S nof s.heap s.heap []) (hr : meth.sig.returnType = (some (.boolean))) (hlocks : meth.locks = false) : ∀ n : Nat, ∀ (x2 : Int32) (x3 : Int32) (ls : Array Slot), L_X9_isKindUnder_4 x1 post n x2 x3 → lv_has ls 4 [(1, .int x1), (2, .int x2), (3, .int x3)] → W p l e (rmd 2 0 0) s m args below meth c s.heap [] 0 0 (MQ below (vp_Si post) args s 0 0 nof) (F0 m 4 ls []) := by
  intro n
  induction n with
  | zero =>
    intro x2 x3 ls h hl
    exact h.elim
  | succ n ih =>
    intro x2 x3 ls h hl
    rw [L_X9_isKindUnder_4] at h
    have hx := S.1
    have hb := S.2.1
    refine lv_iload_n hx hb dX9_isKindUnder_4 rfl (lv_at hl 2 rfl) ?_
    refine lv_bipush (v := 7) hx hb dX9_isKindUnder_5 (by decide) ?_
    refine lv_icmp_ge (tgt := 33) hx hb dX9_isKindUnder_7 (by decide) (fun hc => ?_) (fun hc => ?_)
    · have h := h.1 hc
      refine lv_iconst (v := 0) hx hb dX9_isKindUnder_33 (by decide) ?_
      exact W.zret hx hb hr rfl (fun t ht _ => ⟨_, rfl, h, ht⟩) (fun _ hq => by cases hq) dX9_isKindUnder_34
    have h := h.2 hc
    refine lv_iload_n hx hb dX9_isKindUnder_10 rfl (lv_at hl 1 rfl) ?_
    refine lv_iconst (v := (-1)) hx hb dX9_isKindUnder_11 (by decide) ?_
    refine lv_icmp_eq (tgt := 33) hx hb dX9_isKindUnder_12 (by decide) (fun hc => ?_) (fun hc => ?_)
    · have h := h.1 hc
      refine lv_iconst (v := 0) hx hb dX9_isKindUnder_33 (by decide) ?_
      exact W.zret hx hb hr rfl (fun t ht _ => ⟨_, rfl, h, ht⟩) (fun _ hq => by cases hq) dX9_isKindUnder_34
    have h := h.2 hc
    refine lv_iload_n hx hb dX9_isKindUnder_15 rfl (lv_at hl 1 rfl) ?_
    refine lv_iload_n hx hb dX9_isKindUnder_16 rfl (lv_at hl 0 rfl) ?_
    refine lv_icmp_ne (tgt := 22) hx hb dX9_isKindUnder_17 (by decide) (fun hc => ?_) (fun hc => ?_)
    · have h := h.2 hc
      refine lv_iload_n hx hb dX9_isKindUnder_22 rfl (lv_at hl 1 rfl) ?_
      refine ro_i (roS S hE hT hS (c_X9_kindAbove h) lkX9_416 rfl ⟨(Nat.le_of_ble_eq_true rfl), (Nat.le_of_ble_eq_true rfl)⟩ (hP.sub [] rfl) hl.1 rfl (Nat.le_of_ble_eq_true rfl) dX9_isKindUnder_23 ⟨(Nat.zero_le _), (Nat.zero_le _)⟩) (fun r23 h => ?_)
      refine lv_istore_n (lv' := [(2, .int r23), (1, .int x1), (3, .int x3)]) hx hb dX9_isKindUnder_26 rfl hl (by decide) rfl (fun ls hl => ?_)
      obtain ⟨x3_27, ex3_27⟩ : ∃ z : Int32, z = x3 + 1 := ⟨_, rfl⟩
      have h := h _ ex3_27
      refine lv_iinc (v := x3_27) (lv' := [(3, .int x3_27), (2, .int r23), (1, .int x1)]) hx hb dX9_isKindUnder_27 hl (k := 2) rfl (by rw [ex3_27]; rfl) (by decide) rfl (fun ls hl => ?_)
      refine lv_goto (tgt := 4) hx hb dX9_isKindUnder_30 (by decide) ?_
      exact ih _ _ _ h (lv_sub hl [2, 1, 0] rfl)
    have h := h.1 hc
    refine lv_iconst (v := 1) hx hb dX9_isKindUnder_20 (by decide) ?_
    exact W.zret hx hb hr rfl (fun t ht _ => ⟨_, rfl, h, ht⟩) (fun _ hq => by cases hq) dX9_isKindUnder_21
set_option maxHeartbeats 4000000 in
set_option maxRecDepth 100000 in
theorem c_X9_isKindUnder {l : Launch} {D : va_G} {cI cJ cS : ClassId} {ad adK : Nat → Nat}  {x0 : Int32} {x1 : Int32} {post : Int32 → Prop} (h : F_X9_isKindUnder x0 x1 post) : Met l yX9_isKindUnder (Cond.code yX9_isKindUnder cX9_isKindUnder 4 (some (.boolean)) :: GW) (rmd 2 0 0) (PR D cI cJ cS ad adK [.int x0, .int x1] (wX9_isKindUnder cI cJ cS)) (vp_Si post) 0 0 nof := by
  refine Met.ro (by decide) (Nat.le_of_ble_eq_true rfl) (fun p e s m args below meth c ls (S : CallFix p m c cX9_isKindUnder 4 s args GW "RoadThatSings") hE hT hP hS hr hlocks hl => ?_)
  have hx := S.1
  have hb := S.2.1
  have hl : lv_has ls 4 [(0, .int x0), (1, .int x1)] := hl
  unfold F_X9_isKindUnder at h
  refine lv_iload_n hx hb dX9_isKindUnder_0 rfl (lv_at hl 0 rfl) ?_
  refine lv_istore_n (lv' := [(2, .int x0), (0, .int x0), (1, .int x1)]) hx hb dX9_isKindUnder_1 rfl hl (by decide) rfl (fun ls hl => ?_)
  refine lv_iconst (v := 0) hx hb dX9_isKindUnder_2 (by decide) ?_
  refine lv_istore_n (lv' := [(3, .int 0), (2, .int x0), (0, .int x0), (1, .int x1)]) hx hb dX9_isKindUnder_3 rfl hl (by decide) rfl (fun ls hl => ?_)
  obtain ⟨n, h⟩ := h
  refine w_X9_isKindUnder_4 S hE hT hP hS hr hlocks n _ _ _ h (lv_sub hl [3, 1, 0] rfl)
/-! X9_says -/
abbrev wX9_says (cI cJ cS : ClassId) (a_o a_refused a_road a_road_stretches a_road_stretches_kinds a_road_stretches_others a_road_stretches_spaces a_road_stretches_times a_shelves : Nat) (z_kept z_ahead z_cutting z_acting z_road_cars z_road_tunes z_road_demands : Value) (sa ea : Nat → Nat) (v_imaged : Int32) (v_lastFault : Int32) (f_refused : Nat → Int32) (v_road_drawSeed : Int32) (v_road_stretches_stretchCount : Int32) (f_road_stretches_kinds : Nat → Int32) (f_road_stretches_others : Nat → Int32) (f_road_stretches_spaces : Nat → Int32) (f_road_stretches_times : Nat → Int32) (f_sh_held : Nat → Int32) (f_sh_sort : Nat → Int32) (f_sh_cnt : Nat → Int32) (f_sh_num : Nat → Int32) (g_sh_el : Nat → Nat → Int64) : va_W := [(a_o, .inr (8, [.ref a_road, z_kept, z_ahead, .ref a_shelves, z_cutting, z_acting, .ref a_refused, .int v_imaged, .int v_lastFault])), (a_refused, .inl (cI, 8, .inl f_refused)), (a_road, .inr (4, [.ref a_road_stretches, z_road_cars, z_road_tunes, z_road_demands, .int v_road_drawSeed])), (a_road_stretches, .inr (6, [.ref a_road_stretches_kinds, .ref a_road_stretches_spaces, .ref a_road_stretches_others, .ref a_road_stretches_times, .int v_road_stretches_stretchCount])), (a_road_stretches_kinds, .inl (cI, 16, .inl f_road_stretches_kinds)), (a_road_stretches_others, .inl (cI, 16, .inl f_road_stretches_others)), (a_road_stretches_spaces, .inl (cI, 16, .inl f_road_stretches_spaces)), (a_road_stretches_times, .inl (cI, 16, .inl f_road_stretches_times)), (a_shelves, .inl (cS, 8, .inr (.inr (.inr (.inr (fun k => some (sa k)))))))] ++ shW sa ea cJ f_sh_held f_sh_sort f_sh_cnt f_sh_num g_sh_el
def F_X9_says (f_refused : Nat → Int32) (v_road_stretches_stretchCount : Int32) (f_road_stretches_kinds : Nat → Int32) (f_road_stretches_others : Nat → Int32) (f_road_stretches_spaces : Nat → Int32) (f_road_stretches_times : Nat → Int32) (f_sh_held : Nat → Int32) (f_sh_num : Nat → Int32) (x1 : Int32) (x2 : Int32) (post : Int32 → (Nat → Int32) → Prop) : Prop := (F_X9_shelfAt x1 ((F_X9_refuse f_refused (-1) (fun r22 w22_0 => post r22 w22_0))) (fun j2 => (F_X9_within x2 0 6 (fun r14 => ((r14 = 0 → (F_X9_refuse f_refused (-1) (fun r22 w22_0 => post r22 w22_0))) ∧ (¬ r14 = 0 → (F_X6_holdsRow (f_sh_held j2) (fun r27 => ((r27 = 0 → (F_X6_holdsStretch (f_sh_held j2) (fun r41 => ((r41 = 0 → (F_X9_refuse f_refused (-3) (fun r50 w50_0 => post r50 w50_0))) ∧ (¬ r41 = 0 → (F_X6_stretchHeld (f_sh_held j2) (f_sh_num j2) (fun r55 => (F_X7_kindOf v_road_stretches_stretchCount f_road_stretches_kinds r55 (fun r69 => (F_X9_isKindUnder r69 x2 (fun r73 => ((r73 = 0 → (F_X9_refuse f_refused (-2) (fun r82 w82_0 => post r82 w82_0))) ∧ (¬ r73 = 0 → (F_X7_sayingOf v_road_stretches_stretchCount f_road_stretches_kinds f_road_stretches_others f_road_stretches_spaces f_road_stretches_times r55 x2 (fun r96 => post r96 f_refused))))))))))))))) ∧ (¬ r27 = 0 → (F_X9_refuse f_refused (-2) (fun r36 w36_0 => post r36 w36_0))))))))))))
set_option maxHeartbeats 4000000 in
set_option maxRecDepth 100000 in
theorem c_X9_says {l : Launch} {D : va_G} {cI cJ cS : ClassId} {ad adK : Nat → Nat} {a_o a_refused a_road a_road_stretches a_road_stretches_kinds a_road_stretches_others a_road_stretches_spaces a_road_stretches_times a_shelves : Nat} {z_kept z_ahead z_cutting z_acting z_road_cars z_road_tunes z_road_demands : Value} {sa ea : Nat → Nat} {v_imaged : Int32} {v_lastFault : Int32} {f_refused : Nat → Int32} {v_road_drawSeed : Int32} {v_road_stretches_stretchCount : Int32} {f_road_stretches_kinds : Nat → Int32} {f_road_stretches_others : Nat → Int32} {f_road_stretches_spaces : Nat → Int32} {f_road_stretches_times : Nat → Int32} {f_sh_held : Nat → Int32} {f_sh_sort : Nat → Int32} {f_sh_cnt : Nat → Int32} {f_sh_num : Nat → Int32} {g_sh_el : Nat → Nat → Int64} {x1 : Int32} {x2 : Int32} {post : Int32 → (Nat → Int32) → Prop} (h : F_X9_says f_refused v_road_stretches_stretchCount f_road_stretches_kinds f_road_stretches_others f_road_stretches_spaces f_road_stretches_times f_sh_held f_sh_num x1 x2 post) {sz : Nat} : Met l yX9_says (Cond.code yX9_says cX9_says 5 (some (.int)) :: GW) (rmd 4 0 0) (PW D cI cJ cS ad adK [.ref a_o, .int x1, .int x2] (wX9_says cI cJ cS a_o a_refused a_road a_road_stretches a_road_stretches_kinds a_road_stretches_others a_road_stretches_spaces a_road_stretches_times a_shelves z_kept z_ahead z_cutting z_acting z_road_cars z_road_tunes z_road_demands sa ea v_imaged v_lastFault f_refused v_road_drawSeed v_road_stretches_stretchCount f_road_stretches_kinds f_road_stretches_others f_road_stretches_spaces f_road_stretches_times f_sh_held f_sh_sort f_sh_cnt f_sh_num g_sh_el) sz) (va_Qi (fun r (u : (Nat → Int32)) => post r u) (fun u t => va_P D vwCl (wX9_says cI cJ cS a_o a_refused a_road a_road_stretches a_road_stretches_kinds a_road_stretches_others a_road_stretches_spaces a_road_stretches_times a_shelves z_kept z_ahead z_cutting z_acting z_road_cars z_road_tunes z_road_demands sa ea v_imaged v_lastFault u v_road_drawSeed v_road_stretches_stretchCount f_road_stretches_kinds f_road_stretches_others f_road_stretches_spaces f_road_stretches_times f_sh_held f_sh_sort f_sh_cnt f_sh_num g_sh_el) t.heap) (va_A (wX9_says cI cJ cS a_o a_refused a_road a_road_stretches a_road_stretches_kinds a_road_stretches_others a_road_stretches_spaces a_road_stretches_times a_shelves z_kept z_ahead z_cutting z_acting z_road_cars z_road_tunes z_road_demands sa ea v_imaged v_lastFault f_refused v_road_drawSeed v_road_stretches_stretchCount f_road_stretches_kinds f_road_stretches_others f_road_stretches_spaces f_road_stretches_times f_sh_held f_sh_sort f_sh_cnt f_sh_num g_sh_el) sz)) 0 0 (va_A (wX9_says cI cJ cS a_o a_refused a_road a_road_stretches a_road_stretches_kinds a_road_stretches_others a_road_stretches_spaces a_road_stretches_times a_shelves z_kept z_ahead z_cutting z_acting z_road_cars z_road_tunes z_road_demands sa ea v_imaged v_lastFault f_refused v_road_drawSeed v_road_stretches_stretchCount f_road_stretches_kinds f_road_stretches_others f_road_stretches_spaces f_road_stretches_times f_sh_held f_sh_sort f_sh_cnt f_sh_num g_sh_el) sz) := by
  refine Met.rw (Qc := fun A => (va_Qi (fun r (u : (Nat → Int32)) => post r u) (fun u t => va_P D vwCl (wX9_says cI cJ cS a_o a_refused a_road a_road_stretches a_road_stretches_kinds a_road_stretches_others a_road_stretches_spaces a_road_stretches_times a_shelves z_kept z_ahead z_cutting z_acting z_road_cars z_road_tunes z_road_demands sa ea v_imaged v_lastFault u v_road_drawSeed v_road_stretches_stretchCount f_road_stretches_kinds f_road_stretches_others f_road_stretches_spaces f_road_stretches_times f_sh_held f_sh_sort f_sh_cnt f_sh_num g_sh_el) t.heap) A)) (by decide) (Nat.le_of_ble_eq_true rfl) (fun p e s m args below meth c ls A (S : CallFix p m c cX9_says 5 s args GW "RoadThatSings") hE hT hP hD hA hS hr hlocks hname hl => ?_)
  have hS0 := hS
  have hx := S.1
  have hb := S.2.1
  have hl : lv_has ls 5 [(0, .ref a_o), (1, .int x1), (2, .int x2)] := hl
  unfold F_X9_says at h
  refine lv_aload_n hx hb dX9_says_0 rfl (lv_at hl 0 rfl) ?_
  refine lv_iload_n hx hb dX9_says_1 rfl (lv_at hl 1 rfl) ?_
  refine ro_s (roV S hE hT hS (c_X9_shelfAt h) lkX9_55 rfl ⟨(Nat.le_of_ble_eq_true rfl), (Nat.le_of_ble_eq_true rfl)⟩ (hP.sub [0, 8] rfl) 0 rfl rfl hl.1 rfl (Nat.le_of_ble_eq_true rfl) dX9_says_2 ⟨(Nat.zero_le _), (Nat.zero_le _)⟩) (fun h => ?_) (fun j2 hj2 h => ?_)
  · refine lv_astore_nN (lv' := [(3, .null), (0, .ref a_o), (1, .int x1), (2, .int x2)]) hx hb dX9_says_5 rfl hl (by decide) rfl (fun ls hl => ?_)
    refine lv_aload_nN hx hb dX9_says_6 rfl (lv_at hl 0 rfl) ?_
    refine lv_ifnullN (tgt := 20) hx hb dX9_says_7 (by decide) ?_
    refine lv_aload_n hx hb dX9_says_20 rfl (lv_at hl 1 rfl) ?_
    refine lv_iconst (v := (-1)) hx hb dX9_says_21 (by decide) ?_
    refine rw_i (rwV S hE hT hS hP hD hA (c_X9_refuse h) [0, 1] rfl (by decide +kernel) lkX9_59 rfl ⟨(Nat.le_of_ble_eq_true rfl), (Nat.le_of_ble_eq_true rfl)⟩ 0 rfl rfl hl.1 rfl (Nat.le_of_ble_eq_true rfl) dX9_says_22 ⟨(Nat.zero_le _), (Nat.zero_le _)⟩) hP hD hS hA [0, 1] rfl (by decide +kernel) (fun _ => rfl) (fun r22 w22_0 H locs h hP hD hS => ?_)
    try dsimp only at h
    have hP : va_P D vwCl (wX9_says cI cJ cS a_o a_refused a_road a_road_stretches a_road_stretches_kinds a_road_stretches_others a_road_stretches_spaces a_road_stretches_times a_shelves z_kept z_ahead z_cutting z_acting z_road_cars z_road_tunes z_road_demands sa ea v_imaged v_lastFault w22_0 v_road_drawSeed v_road_stretches_stretchCount f_road_stretches_kinds f_road_stretches_others f_road_stretches_spaces f_road_stretches_times f_sh_held f_sh_sort f_sh_cnt f_sh_num g_sh_el) H := hP
    have hD : va_D A (wX9_says cI cJ cS a_o a_refused a_road a_road_stretches a_road_stretches_kinds a_road_stretches_others a_road_stretches_spaces a_road_stretches_times a_shelves z_kept z_ahead z_cutting z_acting z_road_cars z_road_tunes z_road_demands sa ea v_imaged v_lastFault w22_0 v_road_drawSeed v_road_stretches_stretchCount f_road_stretches_kinds f_road_stretches_others f_road_stretches_spaces f_road_stretches_times f_sh_held f_sh_sort f_sh_cnt f_sh_num g_sh_el) := hD
    exact W.iret hx hb hr (fun t ht _ => ⟨⟨_, w22_0, rfl, h, hPt hP ht⟩, hS.F ht⟩) hS.2.2 dX9_says_25
  refine lv_astore_n (lv' := [(3, .ref (sa j2)), (0, .ref a_o), (1, .int x1), (2, .int x2)]) hx hb dX9_says_5 rfl hl (by decide) rfl (fun ls hl => ?_)
  refine lv_aload_n hx hb dX9_says_6 rfl (lv_at hl 0 rfl) ?_
  refine lv_ifnull hx hb dX9_says_7 ?_
  refine lv_iload_n hx hb dX9_says_10 rfl (lv_at hl 3 rfl) ?_
  refine lv_iconst (v := 0) hx hb dX9_says_11 (by decide) ?_
  refine lv_bipush (v := 6) hx hb dX9_says_12 (by decide) ?_
  refine ro_i (roS S hE hT hS (c_X9_within h) lkX9_63 rfl ⟨(Nat.le_of_ble_eq_true rfl), (Nat.le_of_ble_eq_true rfl)⟩ (hP.sub [] rfl) hl.1 rfl (Nat.le_of_ble_eq_true rfl) dX9_says_14 ⟨(Nat.zero_le _), (Nat.zero_le _)⟩) (fun r14 h => ?_)
  refine lv_if_ne (tgt := 26) hx hb dX9_says_17 (by decide) (fun hc => ?_) (fun hc => ?_)
  · have h := h.2 hc
    refine lv_aload_n hx hb dX9_says_26 rfl (lv_at hl 0 rfl) ?_
    refine ro_i (roV S hE hT hS (c_X6_holdsRow h) lkX9_91 rfl ⟨(Nat.le_of_ble_eq_true rfl), (Nat.le_of_ble_eq_true rfl)⟩ (vPc hP (shS rfl hj2) vPn) 0 rfl rfl hl.1 rfl (Nat.le_of_ble_eq_true rfl) dX9_says_27 ⟨(Nat.zero_le _), (Nat.zero_le _)⟩) (fun r27 h => ?_)
    refine lv_if_eq (tgt := 40) hx hb dX9_says_30 (by decide) (fun hc => ?_) (fun hc => ?_)
    · have h := h.1 hc
      refine lv_aload_n hx hb dX9_says_40 rfl (lv_at hl 0 rfl) ?_
      refine ro_i (roV S hE hT hS (c_X6_holdsStretch h) lkX9_83 rfl ⟨(Nat.le_of_ble_eq_true rfl), (Nat.le_of_ble_eq_true rfl)⟩ (vPc hP (shS rfl hj2) vPn) 0 rfl rfl hl.1 rfl (Nat.le_of_ble_eq_true rfl) dX9_says_41 ⟨(Nat.zero_le _), (Nat.zero_le _)⟩) (fun r41 h => ?_)
      refine lv_if_ne (tgt := 54) hx hb dX9_says_44 (by decide) (fun hc => ?_) (fun hc => ?_)
      · have h := h.2 hc
        refine lv_aload_n hx hb dX9_says_54 rfl (lv_at hl 0 rfl) ?_
        refine ro_i (roV S hE hT hS (c_X6_stretchHeld h) lkX9_126 rfl ⟨(Nat.le_of_ble_eq_true rfl), (Nat.le_of_ble_eq_true rfl)⟩ (vPc hP (shS rfl hj2) vPn) 0 rfl rfl hl.1 rfl (Nat.le_of_ble_eq_true rfl) dX9_says_55 ⟨(Nat.zero_le _), (Nat.zero_le _)⟩) (fun r55 h => ?_)
        refine lv_istore (lv' := [(4, .int r55), (3, .ref (sa j2)), (0, .ref a_o), (1, .int x1), (2, .int x2)]) hx hb dX9_says_58 hl (by decide) rfl (fun ls hl => ?_)
        refine lv_aload_n hx hb dX9_says_60 rfl (lv_at hl 2 rfl) ?_
        refine gf S hE hP 0 rfl rfl inX9 (k := 0) (by decide) q181 rfl dX9_says_61 ?_
        refine gfN S hE hP 2 rfl rfl inX5 (k := 0) (by decide) nfX9_106 rfl dX9_says_64 ?_
        refine lv_iload hx hb dX9_says_67 (lv_at hl 0 rfl) ?_
        refine ro_i (roV S hE hT hS (c_X7_kindOf h) lkX9_129 rfl ⟨(Nat.le_of_ble_eq_true rfl), (Nat.le_of_ble_eq_true rfl)⟩ (hP.sub [3, 4] rfl) 0 rfl rfl hl.1 rfl (Nat.le_of_ble_eq_true rfl) dX9_says_69 ⟨(Nat.zero_le _), (Nat.zero_le _)⟩) (fun r69 h => ?_)
        refine lv_iload_n hx hb dX9_says_72 rfl (lv_at hl 4 rfl) ?_
        refine ro_i (roS S hE hT hS (c_X9_isKindUnder h) lkX9_132 rfl ⟨(Nat.le_of_ble_eq_true rfl), (Nat.le_of_ble_eq_true rfl)⟩ (hP.sub [] rfl) hl.1 rfl (Nat.le_of_ble_eq_true rfl) dX9_says_73 ⟨(Nat.zero_le _), (Nat.zero_le _)⟩) (fun r73 h => ?_)
        refine lv_if_ne (tgt := 86) hx hb dX9_says_76 (by decide) (fun hc => ?_) (fun hc => ?_)
        · have h := h.2 hc
          refine lv_aload_n hx hb dX9_says_86 rfl (lv_at hl 2 rfl) ?_
          refine gf S hE hP 0 rfl rfl inX9 (k := 0) (by decide) q181 rfl dX9_says_87 ?_
          refine gfN S hE hP 2 rfl rfl inX5 (k := 0) (by decide) nfX9_106 rfl dX9_says_90 ?_
          refine lv_iload hx hb dX9_says_93 (lv_at hl 0 rfl) ?_
          refine lv_iload_n hx hb dX9_says_95 rfl (lv_at hl 4 rfl) ?_
          refine ro_i (roV S hE hT hS (c_X7_sayingOf h) lkX9_135 rfl ⟨(Nat.le_of_ble_eq_true rfl), (Nat.le_of_ble_eq_true rfl)⟩ (hP.sub [3, 4, 5, 6, 7] rfl) 0 rfl rfl hl.1 rfl (Nat.le_of_ble_eq_true rfl) dX9_says_96 ⟨(Nat.zero_le _), (Nat.zero_le _)⟩) (fun r96 h => ?_)
          exact W.iret hx hb hr (fun t ht _ => ⟨⟨_, f_refused, rfl, h, hPt hP ht⟩, hS.F ht⟩) hS.2.2 dX9_says_99
        have h := h.1 hc
        refine lv_aload_n hx hb dX9_says_79 rfl (lv_at hl 2 rfl) ?_
        refine lv_bipush (v := (-2)) hx hb dX9_says_80 (by decide) ?_
        refine rw_i (rwV S hE hT hS hP hD hA (c_X9_refuse h) [0, 1] rfl (by decide +kernel) lkX9_59 rfl ⟨(Nat.le_of_ble_eq_true rfl), (Nat.le_of_ble_eq_true rfl)⟩ 0 rfl rfl hl.1 rfl (Nat.le_of_ble_eq_true rfl) dX9_says_82 ⟨(Nat.zero_le _), (Nat.zero_le _)⟩) hP hD hS hA [0, 1] rfl (by decide +kernel) (fun _ => rfl) (fun r82 w82_0 H locs h hP hD hS => ?_)
        try dsimp only at h
        have hP : va_P D vwCl (wX9_says cI cJ cS a_o a_refused a_road a_road_stretches a_road_stretches_kinds a_road_stretches_others a_road_stretches_spaces a_road_stretches_times a_shelves z_kept z_ahead z_cutting z_acting z_road_cars z_road_tunes z_road_demands sa ea v_imaged v_lastFault w82_0 v_road_drawSeed v_road_stretches_stretchCount f_road_stretches_kinds f_road_stretches_others f_road_stretches_spaces f_road_stretches_times f_sh_held f_sh_sort f_sh_cnt f_sh_num g_sh_el) H := hP
        have hD : va_D A (wX9_says cI cJ cS a_o a_refused a_road a_road_stretches a_road_stretches_kinds a_road_stretches_others a_road_stretches_spaces a_road_stretches_times a_shelves z_kept z_ahead z_cutting z_acting z_road_cars z_road_tunes z_road_demands sa ea v_imaged v_lastFault w82_0 v_road_drawSeed v_road_stretches_stretchCount f_road_stretches_kinds f_road_stretches_others f_road_stretches_spaces f_road_stretches_times f_sh_held f_sh_sort f_sh_cnt f_sh_num g_sh_el) := hD
        exact W.iret hx hb hr (fun t ht _ => ⟨⟨_, w82_0, rfl, h, hPt hP ht⟩, hS.F ht⟩) hS.2.2 dX9_says_85
      have h := h.1 hc
      refine lv_aload_n hx hb dX9_says_47 rfl (lv_at hl 1 rfl) ?_
      refine lv_bipush (v := (-3)) hx hb dX9_says_48 (by decide) ?_
      refine rw_i (rwV S hE hT hS hP hD hA (c_X9_refuse h) [0, 1] rfl (by decide +kernel) lkX9_59 rfl ⟨(Nat.le_of_ble_eq_true rfl), (Nat.le_of_ble_eq_true rfl)⟩ 0 rfl rfl hl.1 rfl (Nat.le_of_ble_eq_true rfl) dX9_says_50 ⟨(Nat.zero_le _), (Nat.zero_le _)⟩) hP hD hS hA [0, 1] rfl (by decide +kernel) (fun _ => rfl) (fun r50 w50_0 H locs h hP hD hS => ?_)
      try dsimp only at h
      have hP : va_P D vwCl (wX9_says cI cJ cS a_o a_refused a_road a_road_stretches a_road_stretches_kinds a_road_stretches_others a_road_stretches_spaces a_road_stretches_times a_shelves z_kept z_ahead z_cutting z_acting z_road_cars z_road_tunes z_road_demands sa ea v_imaged v_lastFault w50_0 v_road_drawSeed v_road_stretches_stretchCount f_road_stretches_kinds f_road_stretches_others f_road_stretches_spaces f_road_stretches_times f_sh_held f_sh_sort f_sh_cnt f_sh_num g_sh_el) H := hP
      have hD : va_D A (wX9_says cI cJ cS a_o a_refused a_road a_road_stretches a_road_stretches_kinds a_road_stretches_others a_road_stretches_spaces a_road_stretches_times a_shelves z_kept z_ahead z_cutting z_acting z_road_cars z_road_tunes z_road_demands sa ea v_imaged v_lastFault w50_0 v_road_drawSeed v_road_stretches_stretchCount f_road_stretches_kinds f_road_stretches_others f_road_stretches_spaces f_road_stretches_times f_sh_held f_sh_sort f_sh_cnt f_sh_num g_sh_el) := hD
      exact W.iret hx hb hr (fun t ht _ => ⟨⟨_, w50_0, rfl, h, hPt hP ht⟩, hS.F ht⟩) hS.2.2 dX9_says_53
    have h := h.2 hc
    refine lv_aload_n hx hb dX9_says_33 rfl (lv_at hl 1 rfl) ?_
    refine lv_bipush (v := (-2)) hx hb dX9_says_34 (by decide) ?_
    refine rw_i (rwV S hE hT hS hP hD hA (c_X9_refuse h) [0, 1] rfl (by decide +kernel) lkX9_59 rfl ⟨(Nat.le_of_ble_eq_true rfl), (Nat.le_of_ble_eq_true rfl)⟩ 0 rfl rfl hl.1 rfl (Nat.le_of_ble_eq_true rfl) dX9_says_36 ⟨(Nat.zero_le _), (Nat.zero_le _)⟩) hP hD hS hA [0, 1] rfl (by decide +kernel) (fun _ => rfl) (fun r36 w36_0 H locs h hP hD hS => ?_)
    try dsimp only at h
    have hP : va_P D vwCl (wX9_says cI cJ cS a_o a_refused a_road a_road_stretches a_road_stretches_kinds a_road_stretches_others a_road_stretches_spaces a_road_stretches_times a_shelves z_kept z_ahead z_cutting z_acting z_road_cars z_road_tunes z_road_demands sa ea v_imaged v_lastFault w36_0 v_road_drawSeed v_road_stretches_stretchCount f_road_stretches_kinds f_road_stretches_others f_road_stretches_spaces f_road_stretches_times f_sh_held f_sh_sort f_sh_cnt f_sh_num g_sh_el) H := hP
    have hD : va_D A (wX9_says cI cJ cS a_o a_refused a_road a_road_stretches a_road_stretches_kinds a_road_stretches_others a_road_stretches_spaces a_road_stretches_times a_shelves z_kept z_ahead z_cutting z_acting z_road_cars z_road_tunes z_road_demands sa ea v_imaged v_lastFault w36_0 v_road_drawSeed v_road_stretches_stretchCount f_road_stretches_kinds f_road_stretches_others f_road_stretches_spaces f_road_stretches_times f_sh_held f_sh_sort f_sh_cnt f_sh_num g_sh_el) := hD
    exact W.iret hx hb hr (fun t ht _ => ⟨⟨_, w36_0, rfl, h, hPt hP ht⟩, hS.F ht⟩) hS.2.2 dX9_says_39
  have h := h.1 hc
  refine lv_aload_n hx hb dX9_says_20 rfl (lv_at hl 1 rfl) ?_
  refine lv_iconst (v := (-1)) hx hb dX9_says_21 (by decide) ?_
  refine rw_i (rwV S hE hT hS hP hD hA (c_X9_refuse h) [0, 1] rfl (by decide +kernel) lkX9_59 rfl ⟨(Nat.le_of_ble_eq_true rfl), (Nat.le_of_ble_eq_true rfl)⟩ 0 rfl rfl hl.1 rfl (Nat.le_of_ble_eq_true rfl) dX9_says_22 ⟨(Nat.zero_le _), (Nat.zero_le _)⟩) hP hD hS hA [0, 1] rfl (by decide +kernel) (fun _ => rfl) (fun r22 w22_0 H locs h hP hD hS => ?_)
  try dsimp only at h
  have hP : va_P D vwCl (wX9_says cI cJ cS a_o a_refused a_road a_road_stretches a_road_stretches_kinds a_road_stretches_others a_road_stretches_spaces a_road_stretches_times a_shelves z_kept z_ahead z_cutting z_acting z_road_cars z_road_tunes z_road_demands sa ea v_imaged v_lastFault w22_0 v_road_drawSeed v_road_stretches_stretchCount f_road_stretches_kinds f_road_stretches_others f_road_stretches_spaces f_road_stretches_times f_sh_held f_sh_sort f_sh_cnt f_sh_num g_sh_el) H := hP
  have hD : va_D A (wX9_says cI cJ cS a_o a_refused a_road a_road_stretches a_road_stretches_kinds a_road_stretches_others a_road_stretches_spaces a_road_stretches_times a_shelves z_kept z_ahead z_cutting z_acting z_road_cars z_road_tunes z_road_demands sa ea v_imaged v_lastFault w22_0 v_road_drawSeed v_road_stretches_stretchCount f_road_stretches_kinds f_road_stretches_others f_road_stretches_spaces f_road_stretches_times f_sh_held f_sh_sort f_sh_cnt f_sh_num g_sh_el) := hD
  exact W.iret hx hb hr (fun t ht _ => ⟨⟨_, w22_0, rfl, h, hPt hP ht⟩, hS.F ht⟩) hS.2.2 dX9_says_25
/-! X9_areMeasures -/
abbrev wX9_areMeasures (cI cJ cS : ClassId) : va_W := []
def F_X9_areMeasures (x0 : Int32) (x1 : Int32) (x2 : Int32) (post : Int32 → Prop) : Prop := (F_X9_within x0 1 60 (fun r4 => ((r4 = 0 → post 0) ∧ (¬ r4 = 0 → (F_X9_within x1 0 60 (fun r14 => ((r14 = 0 → post 0) ∧ (¬ r14 = 0 → (F_X9_within x2 1 60 (fun r24 => ((r24 = 0 → post 0) ∧ (¬ r24 = 0 → post 1))))))))))))
set_option maxHeartbeats 4000000 in
set_option maxRecDepth 100000 in
theorem c_X9_areMeasures {l : Launch} {D : va_G} {cI cJ cS : ClassId} {ad adK : Nat → Nat}  {x0 : Int32} {x1 : Int32} {x2 : Int32} {post : Int32 → Prop} (h : F_X9_areMeasures x0 x1 x2 post) : Met l yX9_areMeasures (Cond.code yX9_areMeasures cX9_areMeasures 3 (some (.boolean)) :: GW) (rmd 1 0 0) (PR D cI cJ cS ad adK [.int x0, .int x1, .int x2] (wX9_areMeasures cI cJ cS)) (vp_Si post) 0 0 nof := by
  refine Met.ro (by decide) (Nat.le_of_ble_eq_true rfl) (fun p e s m args below meth c ls (S : CallFix p m c cX9_areMeasures 3 s args GW "RoadThatSings") hE hT hP hS hr hlocks hl => ?_)
  have hx := S.1
  have hb := S.2.1
  have hl : lv_has ls 3 [(0, .int x0), (1, .int x1), (2, .int x2)] := hl
  unfold F_X9_areMeasures at h
  refine lv_iload_n hx hb dX9_areMeasures_0 rfl (lv_at hl 0 rfl) ?_
  refine lv_iconst (v := 1) hx hb dX9_areMeasures_1 (by decide) ?_
  refine lv_bipush (v := 60) hx hb dX9_areMeasures_2 (by decide) ?_
  refine ro_i (roS S hE hT hS (c_X9_within h) lkX9_63 rfl ⟨(Nat.le_of_ble_eq_true rfl), (Nat.le_of_ble_eq_true rfl)⟩ (hP.sub [] rfl) hl.1 rfl (Nat.le_of_ble_eq_true rfl) dX9_areMeasures_4 ⟨(Nat.zero_le _), (Nat.zero_le _)⟩) (fun r4 h => ?_)
  refine lv_if_eq (tgt := 34) hx hb dX9_areMeasures_7 (by decide) (fun hc => ?_) (fun hc => ?_)
  · have h := h.1 hc
    refine lv_iconst (v := 0) hx hb dX9_areMeasures_34 (by decide) ?_
    exact W.zret hx hb hr rfl (fun t ht _ => ⟨_, rfl, h, ht⟩) (fun _ hq => by cases hq) dX9_areMeasures_35
  have h := h.2 hc
  refine lv_iload_n hx hb dX9_areMeasures_10 rfl (lv_at hl 1 rfl) ?_
  refine lv_iconst (v := 0) hx hb dX9_areMeasures_11 (by decide) ?_
  refine lv_bipush (v := 60) hx hb dX9_areMeasures_12 (by decide) ?_
  refine ro_i (roS S hE hT hS (c_X9_within h) lkX9_63 rfl ⟨(Nat.le_of_ble_eq_true rfl), (Nat.le_of_ble_eq_true rfl)⟩ (hP.sub [] rfl) hl.1 rfl (Nat.le_of_ble_eq_true rfl) dX9_areMeasures_14 ⟨(Nat.zero_le _), (Nat.zero_le _)⟩) (fun r14 h => ?_)
  refine lv_if_eq (tgt := 34) hx hb dX9_areMeasures_17 (by decide) (fun hc => ?_) (fun hc => ?_)
  · have h := h.1 hc
    refine lv_iconst (v := 0) hx hb dX9_areMeasures_34 (by decide) ?_
    exact W.zret hx hb hr rfl (fun t ht _ => ⟨_, rfl, h, ht⟩) (fun _ hq => by cases hq) dX9_areMeasures_35
  have h := h.2 hc
  refine lv_iload_n hx hb dX9_areMeasures_20 rfl (lv_at hl 2 rfl) ?_
  refine lv_iconst (v := 1) hx hb dX9_areMeasures_21 (by decide) ?_
  refine lv_bipush (v := 60) hx hb dX9_areMeasures_22 (by decide) ?_
  refine ro_i (roS S hE hT hS (c_X9_within h) lkX9_63 rfl ⟨(Nat.le_of_ble_eq_true rfl), (Nat.le_of_ble_eq_true rfl)⟩ (hP.sub [] rfl) hl.1 rfl (Nat.le_of_ble_eq_true rfl) dX9_areMeasures_24 ⟨(Nat.zero_le _), (Nat.zero_le _)⟩) (fun r24 h => ?_)
  refine lv_if_eq (tgt := 34) hx hb dX9_areMeasures_27 (by decide) (fun hc => ?_) (fun hc => ?_)
  · have h := h.1 hc
    refine lv_iconst (v := 0) hx hb dX9_areMeasures_34 (by decide) ?_
    exact W.zret hx hb hr rfl (fun t ht _ => ⟨_, rfl, h, ht⟩) (fun _ hq => by cases hq) dX9_areMeasures_35
  have h := h.2 hc
  refine lv_iconst (v := 1) hx hb dX9_areMeasures_30 (by decide) ?_
  refine lv_goto (tgt := 35) hx hb dX9_areMeasures_31 (by decide) ?_
  exact W.zret hx hb hr rfl (fun t ht _ => ⟨_, rfl, h, ht⟩) (fun _ hq => by cases hq) dX9_areMeasures_35
/-! X9_stretch -/
abbrev wX9_stretch (cI cJ cS : ClassId) (a_o a_refused a_road a_road_stretches a_road_stretches_kinds a_road_stretches_others a_road_stretches_spaces a_road_stretches_times : Nat) (z_kept z_ahead z_shelves z_cutting z_acting z_road_cars z_road_tunes z_road_demands : Value) (v_imaged : Int32) (v_lastFault : Int32) (f_refused : Nat → Int32) (v_road_drawSeed : Int32) (v_road_stretches_stretchCount : Int32) (f_road_stretches_kinds : Nat → Int32) (f_road_stretches_others : Nat → Int32) (f_road_stretches_spaces : Nat → Int32) (f_road_stretches_times : Nat → Int32) : va_W := [(a_o, .inr (8, [.ref a_road, z_kept, z_ahead, z_shelves, z_cutting, z_acting, .ref a_refused, .int v_imaged, .int v_lastFault])), (a_refused, .inl (cI, 8, .inl f_refused)), (a_road, .inr (4, [.ref a_road_stretches, z_road_cars, z_road_tunes, z_road_demands, .int v_road_drawSeed])), (a_road_stretches, .inr (6, [.ref a_road_stretches_kinds, .ref a_road_stretches_spaces, .ref a_road_stretches_others, .ref a_road_stretches_times, .int v_road_stretches_stretchCount])), (a_road_stretches_kinds, .inl (cI, 16, .inl f_road_stretches_kinds)), (a_road_stretches_others, .inl (cI, 16, .inl f_road_stretches_others)), (a_road_stretches_spaces, .inl (cI, 16, .inl f_road_stretches_spaces)), (a_road_stretches_times, .inl (cI, 16, .inl f_road_stretches_times))]
def F_X9_stretch (f_refused : Nat → Int32) (v_road_stretches_stretchCount : Int32) (f_road_stretches_kinds : Nat → Int32) (f_road_stretches_others : Nat → Int32) (f_road_stretches_spaces : Nat → Int32) (f_road_stretches_times : Nat → Int32) (x1 : Int32) (x2 : Int32) (x3 : Int32) (x4 : Int32) (post : Int32 → (Nat → Int32) → Int32 → (Nat → Int32) → (Nat → Int32) → (Nat → Int32) → (Nat → Int32) → Prop) : Prop := (F_X9_within x1 0 6 (fun r4 => ((r4 = 0 → (F_X9_refuse f_refused (-1) (fun r12 w12_0 => post r12 w12_0 v_road_stretches_stretchCount f_road_stretches_kinds f_road_stretches_others f_road_stretches_spaces f_road_stretches_times))) ∧ (¬ r4 = 0 → (F_X9_areMeasures x2 x3 x4 (fun r20 => ((r20 = 0 → (F_X9_refuse f_refused (-6) (fun r29 w29_0 => post r29 w29_0 v_road_stretches_stretchCount f_road_stretches_kinds f_road_stretches_others f_road_stretches_spaces f_road_stretches_times))) ∧ (¬ r20 = 0 → (F_X7_isFull v_road_stretches_stretchCount (fun r40 => ((r40 = 0 → (F_X7_add v_road_stretches_stretchCount f_road_stretches_kinds f_road_stretches_others f_road_stretches_spaces f_road_stretches_times x1 x2 x3 x4 (fun r65 w65_0 w65_1 w65_2 w65_3 w65_4 => post r65 f_refused w65_0 w65_1 w65_2 w65_3 w65_4))) ∧ (¬ r40 = 0 → (F_X9_refuse f_refused (-7) (fun r49 w49_0 => post r49 w49_0 v_road_stretches_stretchCount f_road_stretches_kinds f_road_stretches_others f_road_stretches_spaces f_road_stretches_times))))))))))))))
set_option maxHeartbeats 4000000 in
set_option maxRecDepth 100000 in
theorem c_X9_stretch {l : Launch} {D : va_G} {cI cJ cS : ClassId} {ad adK : Nat → Nat} {a_o a_refused a_road a_road_stretches a_road_stretches_kinds a_road_stretches_others a_road_stretches_spaces a_road_stretches_times : Nat} {z_kept z_ahead z_shelves z_cutting z_acting z_road_cars z_road_tunes z_road_demands : Value} {v_imaged : Int32} {v_lastFault : Int32} {f_refused : Nat → Int32} {v_road_drawSeed : Int32} {v_road_stretches_stretchCount : Int32} {f_road_stretches_kinds : Nat → Int32} {f_road_stretches_others : Nat → Int32} {f_road_stretches_spaces : Nat → Int32} {f_road_stretches_times : Nat → Int32} {x1 : Int32} {x2 : Int32} {x3 : Int32} {x4 : Int32} {post : Int32 → (Nat → Int32) → Int32 → (Nat → Int32) → (Nat → Int32) → (Nat → Int32) → (Nat → Int32) → Prop} (h : F_X9_stretch f_refused v_road_stretches_stretchCount f_road_stretches_kinds f_road_stretches_others f_road_stretches_spaces f_road_stretches_times x1 x2 x3 x4 post) {sz : Nat} : Met l yX9_stretch (Cond.code yX9_stretch cX9_stretch 5 (some (.int)) :: GW) (rmd 3 0 0) (PW D cI cJ cS ad adK [.ref a_o, .int x1, .int x2, .int x3, .int x4] (wX9_stretch cI cJ cS a_o a_refused a_road a_road_stretches a_road_stretches_kinds a_road_stretches_others a_road_stretches_spaces a_road_stretches_times z_kept z_ahead z_shelves z_cutting z_acting z_road_cars z_road_tunes z_road_demands v_imaged v_lastFault f_refused v_road_drawSeed v_road_stretches_stretchCount f_road_stretches_kinds f_road_stretches_others f_road_stretches_spaces f_road_stretches_times) sz) (va_Qi (fun r (u : (Nat → Int32) × Int32 × (Nat → Int32) × (Nat → Int32) × (Nat → Int32) × (Nat → Int32)) => post r u.1 u.2.1 u.2.2.1 u.2.2.2.1 u.2.2.2.2.1 u.2.2.2.2.2) (fun u t => va_P D vwCl (wX9_stretch cI cJ cS a_o a_refused a_road a_road_stretches a_road_stretches_kinds a_road_stretches_others a_road_stretches_spaces a_road_stretches_times z_kept z_ahead z_shelves z_cutting z_acting z_road_cars z_road_tunes z_road_demands v_imaged v_lastFault u.1 v_road_drawSeed u.2.1 u.2.2.1 u.2.2.2.1 u.2.2.2.2.1 u.2.2.2.2.2) t.heap) (va_A (wX9_stretch cI cJ cS a_o a_refused a_road a_road_stretches a_road_stretches_kinds a_road_stretches_others a_road_stretches_spaces a_road_stretches_times z_kept z_ahead z_shelves z_cutting z_acting z_road_cars z_road_tunes z_road_demands v_imaged v_lastFault f_refused v_road_drawSeed v_road_stretches_stretchCount f_road_stretches_kinds f_road_stretches_others f_road_stretches_spaces f_road_stretches_times) sz)) 0 0 (va_A (wX9_stretch cI cJ cS a_o a_refused a_road a_road_stretches a_road_stretches_kinds a_road_stretches_others a_road_stretches_spaces a_road_stretches_times z_kept z_ahead z_shelves z_cutting z_acting z_road_cars z_road_tunes z_road_demands v_imaged v_lastFault f_refused v_road_drawSeed v_road_stretches_stretchCount f_road_stretches_kinds f_road_stretches_others f_road_stretches_spaces f_road_stretches_times) sz) := by
  refine Met.rw (Qc := fun A => (va_Qi (fun r (u : (Nat → Int32) × Int32 × (Nat → Int32) × (Nat → Int32) × (Nat → Int32) × (Nat → Int32)) => post r u.1 u.2.1 u.2.2.1 u.2.2.2.1 u.2.2.2.2.1 u.2.2.2.2.2) (fun u t => va_P D vwCl (wX9_stretch cI cJ cS a_o a_refused a_road a_road_stretches a_road_stretches_kinds a_road_stretches_others a_road_stretches_spaces a_road_stretches_times z_kept z_ahead z_shelves z_cutting z_acting z_road_cars z_road_tunes z_road_demands v_imaged v_lastFault u.1 v_road_drawSeed u.2.1 u.2.2.1 u.2.2.2.1 u.2.2.2.2.1 u.2.2.2.2.2) t.heap) A)) (by decide) (Nat.le_of_ble_eq_true rfl) (fun p e s m args below meth c ls A (S : CallFix p m c cX9_stretch 5 s args GW "RoadThatSings") hE hT hP hD hA hS hr hlocks hname hl => ?_)
  have hS0 := hS
  have hx := S.1
  have hb := S.2.1
  have hl : lv_has ls 5 [(0, .ref a_o), (1, .int x1), (2, .int x2), (3, .int x3), (4, .int x4)] := hl
  unfold F_X9_stretch at h
  refine lv_iload_n hx hb dX9_stretch_0 rfl (lv_at hl 1 rfl) ?_
  refine lv_iconst (v := 0) hx hb dX9_stretch_1 (by decide) ?_
  refine lv_bipush (v := 6) hx hb dX9_stretch_2 (by decide) ?_
  refine ro_i (roS S hE hT hS (c_X9_within h) lkX9_63 rfl ⟨(Nat.le_of_ble_eq_true rfl), (Nat.le_of_ble_eq_true rfl)⟩ (hP.sub [] rfl) hl.1 rfl (Nat.le_of_ble_eq_true rfl) dX9_stretch_4 ⟨(Nat.zero_le _), (Nat.zero_le _)⟩) (fun r4 h => ?_)
  refine lv_if_ne (tgt := 16) hx hb dX9_stretch_7 (by decide) (fun hc => ?_) (fun hc => ?_)
  · have h := h.2 hc
    refine lv_iload_n hx hb dX9_stretch_16 rfl (lv_at hl 2 rfl) ?_
    refine lv_iload_n hx hb dX9_stretch_17 rfl (lv_at hl 3 rfl) ?_
    refine lv_iload hx hb dX9_stretch_18 (lv_at hl 4 rfl) ?_
    refine ro_i (roS S hE hT hS (c_X9_areMeasures h) lkX9_139 rfl ⟨(Nat.le_of_ble_eq_true rfl), (Nat.le_of_ble_eq_true rfl)⟩ (hP.sub [] rfl) hl.1 rfl (Nat.le_of_ble_eq_true rfl) dX9_stretch_20 ⟨(Nat.zero_le _), (Nat.zero_le _)⟩) (fun r20 h => ?_)
    refine lv_if_ne (tgt := 33) hx hb dX9_stretch_23 (by decide) (fun hc => ?_) (fun hc => ?_)
    · have h := h.2 hc
      refine lv_aload_n hx hb dX9_stretch_33 rfl (lv_at hl 0 rfl) ?_
      refine gf S hE hP 0 rfl rfl inX9 (k := 0) (by decide) q181 rfl dX9_stretch_34 ?_
      refine gfN S hE hP 2 rfl rfl inX5 (k := 0) (by decide) nfX9_106 rfl dX9_stretch_37 ?_
      refine ro_i (roV S hE hT hS (c_X7_isFull h) lkX9_142 rfl ⟨(Nat.le_of_ble_eq_true rfl), (Nat.le_of_ble_eq_true rfl)⟩ (hP.sub [3] rfl) 0 rfl rfl hl.1 rfl (Nat.le_of_ble_eq_true rfl) dX9_stretch_40 ⟨(Nat.zero_le _), (Nat.zero_le _)⟩) (fun r40 h => ?_)
      refine lv_if_eq (tgt := 53) hx hb dX9_stretch_43 (by decide) (fun hc => ?_) (fun hc => ?_)
      · have h := h.1 hc
        refine lv_aload_n hx hb dX9_stretch_53 rfl (lv_at hl 0 rfl) ?_
        refine gf S hE hP 0 rfl rfl inX9 (k := 0) (by decide) q181 rfl dX9_stretch_54 ?_
        refine gfN S hE hP 2 rfl rfl inX5 (k := 0) (by decide) nfX9_106 rfl dX9_stretch_57 ?_
        refine lv_iload_n hx hb dX9_stretch_60 rfl (lv_at hl 1 rfl) ?_
        refine lv_iload_n hx hb dX9_stretch_61 rfl (lv_at hl 2 rfl) ?_
        refine lv_iload_n hx hb dX9_stretch_62 rfl (lv_at hl 3 rfl) ?_
        refine lv_iload hx hb dX9_stretch_63 (lv_at hl 4 rfl) ?_
        refine rw_i (rwV S hE hT hS hP hD hA (c_X7_add h) [3, 4, 5, 6, 7] rfl (by decide +kernel) lkX9_145 rfl ⟨(Nat.le_of_ble_eq_true rfl), (Nat.le_of_ble_eq_true rfl)⟩ 3 rfl rfl hl.1 rfl (Nat.le_of_ble_eq_true rfl) dX9_stretch_65 ⟨(Nat.zero_le _), (Nat.zero_le _)⟩) hP hD hS hA [3, 4, 5, 6, 7] rfl (by decide +kernel) (fun _ => rfl) (fun r65 u65 H locs h hP hD hS => ?_)
        obtain ⟨w65_0, w65_1, w65_2, w65_3, w65_4⟩ := u65
        try dsimp only at h
        have hP : va_P D vwCl (wX9_stretch cI cJ cS a_o a_refused a_road a_road_stretches a_road_stretches_kinds a_road_stretches_others a_road_stretches_spaces a_road_stretches_times z_kept z_ahead z_shelves z_cutting z_acting z_road_cars z_road_tunes z_road_demands v_imaged v_lastFault f_refused v_road_drawSeed w65_0 w65_1 w65_2 w65_3 w65_4) H := wsetP 8 [0, 1, 2] hP rfl ⟨rfl, rfl, rfl, trivial⟩ rfl rfl (by decide +kernel) (by decide +kernel) (by decide +kernel)
        have hD : va_D A (wX9_stretch cI cJ cS a_o a_refused a_road a_road_stretches a_road_stretches_kinds a_road_stretches_others a_road_stretches_spaces a_road_stretches_times z_kept z_ahead z_shelves z_cutting z_acting z_road_cars z_road_tunes z_road_demands v_imaged v_lastFault f_refused v_road_drawSeed w65_0 w65_1 w65_2 w65_3 w65_4) := wsetD 8 [0, 1, 2] hD rfl ⟨rfl, rfl, rfl, trivial⟩ rfl rfl (by decide +kernel) (by decide +kernel) (by decide +kernel)
        exact W.iret hx hb hr (fun t ht _ => ⟨⟨_, (f_refused, w65_0, w65_1, w65_2, w65_3, w65_4), rfl, h, hPt hP ht⟩, hS.F ht⟩) hS.2.2 dX9_stretch_68
      have h := h.2 hc
      refine lv_aload_n hx hb dX9_stretch_46 rfl (lv_at hl 0 rfl) ?_
      refine lv_bipush (v := (-7)) hx hb dX9_stretch_47 (by decide) ?_
      refine rw_i (rwV S hE hT hS hP hD hA (c_X9_refuse h) [0, 1] rfl (by decide +kernel) lkX9_59 rfl ⟨(Nat.le_of_ble_eq_true rfl), (Nat.le_of_ble_eq_true rfl)⟩ 0 rfl rfl hl.1 rfl (Nat.le_of_ble_eq_true rfl) dX9_stretch_49 ⟨(Nat.zero_le _), (Nat.zero_le _)⟩) hP hD hS hA [0, 1] rfl (by decide +kernel) (fun _ => rfl) (fun r49 w49_0 H locs h hP hD hS => ?_)
      try dsimp only at h
      have hP : va_P D vwCl (wX9_stretch cI cJ cS a_o a_refused a_road a_road_stretches a_road_stretches_kinds a_road_stretches_others a_road_stretches_spaces a_road_stretches_times z_kept z_ahead z_shelves z_cutting z_acting z_road_cars z_road_tunes z_road_demands v_imaged v_lastFault w49_0 v_road_drawSeed v_road_stretches_stretchCount f_road_stretches_kinds f_road_stretches_others f_road_stretches_spaces f_road_stretches_times) H := hP
      have hD : va_D A (wX9_stretch cI cJ cS a_o a_refused a_road a_road_stretches a_road_stretches_kinds a_road_stretches_others a_road_stretches_spaces a_road_stretches_times z_kept z_ahead z_shelves z_cutting z_acting z_road_cars z_road_tunes z_road_demands v_imaged v_lastFault w49_0 v_road_drawSeed v_road_stretches_stretchCount f_road_stretches_kinds f_road_stretches_others f_road_stretches_spaces f_road_stretches_times) := hD
      exact W.iret hx hb hr (fun t ht _ => ⟨⟨_, (w49_0, v_road_stretches_stretchCount, f_road_stretches_kinds, f_road_stretches_others, f_road_stretches_spaces, f_road_stretches_times), rfl, h, hPt hP ht⟩, hS.F ht⟩) hS.2.2 dX9_stretch_52
    have h := h.1 hc
    refine lv_aload_n hx hb dX9_stretch_26 rfl (lv_at hl 0 rfl) ?_
    refine lv_bipush (v := (-6)) hx hb dX9_stretch_27 (by decide) ?_
    refine rw_i (rwV S hE hT hS hP hD hA (c_X9_refuse h) [0, 1] rfl (by decide +kernel) lkX9_59 rfl ⟨(Nat.le_of_ble_eq_true rfl), (Nat.le_of_ble_eq_true rfl)⟩ 0 rfl rfl hl.1 rfl (Nat.le_of_ble_eq_true rfl) dX9_stretch_29 ⟨(Nat.zero_le _), (Nat.zero_le _)⟩) hP hD hS hA [0, 1] rfl (by decide +kernel) (fun _ => rfl) (fun r29 w29_0 H locs h hP hD hS => ?_)
    try dsimp only at h
    have hP : va_P D vwCl (wX9_stretch cI cJ cS a_o a_refused a_road a_road_stretches a_road_stretches_kinds a_road_stretches_others a_road_stretches_spaces a_road_stretches_times z_kept z_ahead z_shelves z_cutting z_acting z_road_cars z_road_tunes z_road_demands v_imaged v_lastFault w29_0 v_road_drawSeed v_road_stretches_stretchCount f_road_stretches_kinds f_road_stretches_others f_road_stretches_spaces f_road_stretches_times) H := hP
    have hD : va_D A (wX9_stretch cI cJ cS a_o a_refused a_road a_road_stretches a_road_stretches_kinds a_road_stretches_others a_road_stretches_spaces a_road_stretches_times z_kept z_ahead z_shelves z_cutting z_acting z_road_cars z_road_tunes z_road_demands v_imaged v_lastFault w29_0 v_road_drawSeed v_road_stretches_stretchCount f_road_stretches_kinds f_road_stretches_others f_road_stretches_spaces f_road_stretches_times) := hD
    exact W.iret hx hb hr (fun t ht _ => ⟨⟨_, (w29_0, v_road_stretches_stretchCount, f_road_stretches_kinds, f_road_stretches_others, f_road_stretches_spaces, f_road_stretches_times), rfl, h, hPt hP ht⟩, hS.F ht⟩) hS.2.2 dX9_stretch_32
  have h := h.1 hc
  refine lv_aload_n hx hb dX9_stretch_10 rfl (lv_at hl 0 rfl) ?_
  refine lv_iconst (v := (-1)) hx hb dX9_stretch_11 (by decide) ?_
  refine rw_i (rwV S hE hT hS hP hD hA (c_X9_refuse h) [0, 1] rfl (by decide +kernel) lkX9_59 rfl ⟨(Nat.le_of_ble_eq_true rfl), (Nat.le_of_ble_eq_true rfl)⟩ 0 rfl rfl hl.1 rfl (Nat.le_of_ble_eq_true rfl) dX9_stretch_12 ⟨(Nat.zero_le _), (Nat.zero_le _)⟩) hP hD hS hA [0, 1] rfl (by decide +kernel) (fun _ => rfl) (fun r12 w12_0 H locs h hP hD hS => ?_)
  try dsimp only at h
  have hP : va_P D vwCl (wX9_stretch cI cJ cS a_o a_refused a_road a_road_stretches a_road_stretches_kinds a_road_stretches_others a_road_stretches_spaces a_road_stretches_times z_kept z_ahead z_shelves z_cutting z_acting z_road_cars z_road_tunes z_road_demands v_imaged v_lastFault w12_0 v_road_drawSeed v_road_stretches_stretchCount f_road_stretches_kinds f_road_stretches_others f_road_stretches_spaces f_road_stretches_times) H := hP
  have hD : va_D A (wX9_stretch cI cJ cS a_o a_refused a_road a_road_stretches a_road_stretches_kinds a_road_stretches_others a_road_stretches_spaces a_road_stretches_times z_kept z_ahead z_shelves z_cutting z_acting z_road_cars z_road_tunes z_road_demands v_imaged v_lastFault w12_0 v_road_drawSeed v_road_stretches_stretchCount f_road_stretches_kinds f_road_stretches_others f_road_stretches_spaces f_road_stretches_times) := hD
  exact W.iret hx hb hr (fun t ht _ => ⟨⟨_, (w12_0, v_road_stretches_stretchCount, f_road_stretches_kinds, f_road_stretches_others, f_road_stretches_spaces, f_road_stretches_times), rfl, h, hPt hP ht⟩, hS.F ht⟩) hS.2.2 dX9_stretch_15
/-! X9_addStretchFrom -/
abbrev wX9_addStretchFrom (cI cJ cS : ClassId) (a_o a_p1 a_p1_elements a_road a_road_stretches a_road_stretches_kinds a_road_stretches_others a_road_stretches_spaces a_road_stretches_times : Nat) (z_kept z_ahead z_shelves z_cutting z_acting z_refused z_road_cars z_road_tunes z_road_demands : Value) (v_imaged : Int32) (v_lastFault : Int32) (v_p1_held : Int32) (v_p1_sort : Int32) (v_p1_elementCount : Int32) (v_p1_stretchNumber : Int32) (g_p1_elements : Nat → Int64) (v_road_drawSeed : Int32) (v_road_stretches_stretchCount : Int32) (f_road_stretches_kinds : Nat → Int32) (f_road_stretches_others : Nat → Int32) (f_road_stretches_spaces : Nat → Int32) (f_road_stretches_times : Nat → Int32) : va_W := [(a_o, .inr (8, [.ref a_road, z_kept, z_ahead, z_shelves, z_cutting, z_acting, z_refused, .int v_imaged, .int v_lastFault])), (a_p1, .inr (5, [.ref a_p1_elements, .int v_p1_held, .int v_p1_sort, .int v_p1_elementCount, .int v_p1_stretchNumber])), (a_p1_elements, .inl (cJ, 160, .inr (.inl g_p1_elements))), (a_road, .inr (4, [.ref a_road_stretches, z_road_cars, z_road_tunes, z_road_demands, .int v_road_drawSeed])), (a_road_stretches, .inr (6, [.ref a_road_stretches_kinds, .ref a_road_stretches_spaces, .ref a_road_stretches_others, .ref a_road_stretches_times, .int v_road_stretches_stretchCount])), (a_road_stretches_kinds, .inl (cI, 16, .inl f_road_stretches_kinds)), (a_road_stretches_others, .inl (cI, 16, .inl f_road_stretches_others)), (a_road_stretches_spaces, .inl (cI, 16, .inl f_road_stretches_spaces)), (a_road_stretches_times, .inl (cI, 16, .inl f_road_stretches_times))]
def F_X9_addStretchFrom (v_p1_elementCount : Int32) (g_p1_elements : Nat → Int64) (v_road_stretches_stretchCount : Int32) (f_road_stretches_kinds : Nat → Int32) (f_road_stretches_others : Nat → Int32) (f_road_stretches_spaces : Nat → Int32) (f_road_stretches_times : Nat → Int32) (x2 : Int32) (post : Int32 → Int32 → (Nat → Int32) → (Nat → Int32) → (Nat → Int32) → (Nat → Int32) → Prop) : Prop := (F_X6_intAt v_p1_elementCount g_p1_elements x2 (fun r2 => (F_X6_intAt v_p1_elementCount g_p1_elements (x2 + 1) (fun r10 => (F_X6_intAt v_p1_elementCount g_p1_elements (x2 + 2) (fun r19 => (F_X6_intAt v_p1_elementCount g_p1_elements (x2 + 3) (fun r28 => (F_X9_within r2 0 6 (fun r37 => ((r37 = 0 → post 0 v_road_stretches_stretchCount f_road_stretches_kinds f_road_stretches_others f_road_stretches_spaces f_road_stretches_times) ∧ (¬ r37 = 0 → (F_X9_areMeasures r10 r19 r28 (fun r49 => ((r49 = 0 → post 0 v_road_stretches_stretchCount f_road_stretches_kinds f_road_stretches_others f_road_stretches_spaces f_road_stretches_times) ∧ (¬ r49 = 0 → (F_X7_add v_road_stretches_stretchCount f_road_stretches_kinds f_road_stretches_others f_road_stretches_spaces f_road_stretches_times r2 r10 r19 r28 (fun r71 w71_0 w71_1 w71_2 w71_3 w71_4 => ((r71 = (-1) → post 0 w71_0 w71_1 w71_2 w71_3 w71_4) ∧ (¬ r71 = (-1) → post 1 w71_0 w71_1 w71_2 w71_3 w71_4))))))))))))))))))))
set_option maxHeartbeats 4000000 in
set_option maxRecDepth 100000 in
theorem c_X9_addStretchFrom {l : Launch} {D : va_G} {cI cJ cS : ClassId} {ad adK : Nat → Nat} {a_o a_p1 a_p1_elements a_road a_road_stretches a_road_stretches_kinds a_road_stretches_others a_road_stretches_spaces a_road_stretches_times : Nat} {z_kept z_ahead z_shelves z_cutting z_acting z_refused z_road_cars z_road_tunes z_road_demands : Value} {v_imaged : Int32} {v_lastFault : Int32} {v_p1_held : Int32} {v_p1_sort : Int32} {v_p1_elementCount : Int32} {v_p1_stretchNumber : Int32} {g_p1_elements : Nat → Int64} {v_road_drawSeed : Int32} {v_road_stretches_stretchCount : Int32} {f_road_stretches_kinds : Nat → Int32} {f_road_stretches_others : Nat → Int32} {f_road_stretches_spaces : Nat → Int32} {f_road_stretches_times : Nat → Int32} {x2 : Int32} {post : Int32 → Int32 → (Nat → Int32) → (Nat → Int32) → (Nat → Int32) → (Nat → Int32) → Prop} (h : F_X9_addStretchFrom v_p1_elementCount g_p1_elements v_road_stretches_stretchCount f_road_stretches_kinds f_road_stretches_others f_road_stretches_spaces f_road_stretches_times x2 post) {sz : Nat} : Met l yX9_addStretchFrom (Cond.code yX9_addStretchFrom cX9_addStretchFrom 7 (some (.boolean)) :: GW) (rmd 2 0 0) (PW D cI cJ cS ad adK [.ref a_o, .ref a_p1, .int x2] (wX9_addStretchFrom cI cJ cS a_o a_p1 a_p1_elements a_road a_road_stretches a_road_stretches_kinds a_road_stretches_others a_road_stretches_spaces a_road_stretches_times z_kept z_ahead z_shelves z_cutting z_acting z_refused z_road_cars z_road_tunes z_road_demands v_imaged v_lastFault v_p1_held v_p1_sort v_p1_elementCount v_p1_stretchNumber g_p1_elements v_road_drawSeed v_road_stretches_stretchCount f_road_stretches_kinds f_road_stretches_others f_road_stretches_spaces f_road_stretches_times) sz) (va_Qi (fun r (u : Int32 × (Nat → Int32) × (Nat → Int32) × (Nat → Int32) × (Nat → Int32)) => post r u.1 u.2.1 u.2.2.1 u.2.2.2.1 u.2.2.2.2) (fun u t => va_P D vwCl (wX9_addStretchFrom cI cJ cS a_o a_p1 a_p1_elements a_road a_road_stretches a_road_stretches_kinds a_road_stretches_others a_road_stretches_spaces a_road_stretches_times z_kept z_ahead z_shelves z_cutting z_acting z_refused z_road_cars z_road_tunes z_road_demands v_imaged v_lastFault v_p1_held v_p1_sort v_p1_elementCount v_p1_stretchNumber g_p1_elements v_road_drawSeed u.1 u.2.1 u.2.2.1 u.2.2.2.1 u.2.2.2.2) t.heap) (va_A (wX9_addStretchFrom cI cJ cS a_o a_p1 a_p1_elements a_road a_road_stretches a_road_stretches_kinds a_road_stretches_others a_road_stretches_spaces a_road_stretches_times z_kept z_ahead z_shelves z_cutting z_acting z_refused z_road_cars z_road_tunes z_road_demands v_imaged v_lastFault v_p1_held v_p1_sort v_p1_elementCount v_p1_stretchNumber g_p1_elements v_road_drawSeed v_road_stretches_stretchCount f_road_stretches_kinds f_road_stretches_others f_road_stretches_spaces f_road_stretches_times) sz)) 0 0 (va_A (wX9_addStretchFrom cI cJ cS a_o a_p1 a_p1_elements a_road a_road_stretches a_road_stretches_kinds a_road_stretches_others a_road_stretches_spaces a_road_stretches_times z_kept z_ahead z_shelves z_cutting z_acting z_refused z_road_cars z_road_tunes z_road_demands v_imaged v_lastFault v_p1_held v_p1_sort v_p1_elementCount v_p1_stretchNumber g_p1_elements v_road_drawSeed v_road_stretches_stretchCount f_road_stretches_kinds f_road_stretches_others f_road_stretches_spaces f_road_stretches_times) sz) := by
  refine Met.rw (Qc := fun A => (va_Qi (fun r (u : Int32 × (Nat → Int32) × (Nat → Int32) × (Nat → Int32) × (Nat → Int32)) => post r u.1 u.2.1 u.2.2.1 u.2.2.2.1 u.2.2.2.2) (fun u t => va_P D vwCl (wX9_addStretchFrom cI cJ cS a_o a_p1 a_p1_elements a_road a_road_stretches a_road_stretches_kinds a_road_stretches_others a_road_stretches_spaces a_road_stretches_times z_kept z_ahead z_shelves z_cutting z_acting z_refused z_road_cars z_road_tunes z_road_demands v_imaged v_lastFault v_p1_held v_p1_sort v_p1_elementCount v_p1_stretchNumber g_p1_elements v_road_drawSeed u.1 u.2.1 u.2.2.1 u.2.2.2.1 u.2.2.2.2) t.heap) A)) (by decide) (Nat.le_of_ble_eq_true rfl) (fun p e s m args below meth c ls A (S : CallFix p m c cX9_addStretchFrom 7 s args GW "RoadThatSings") hE hT hP hD hA hS hr hlocks hname hl => ?_)
  have hS0 := hS
  have hx := S.1
  have hb := S.2.1
  have hl : lv_has ls 7 [(0, .ref a_o), (1, .ref a_p1), (2, .int x2)] := hl
  unfold F_X9_addStretchFrom at h
  refine lv_aload_n hx hb dX9_addStretchFrom_0 rfl (lv_at hl 1 rfl) ?_
  refine lv_iload_n hx hb dX9_addStretchFrom_1 rfl (lv_at hl 2 rfl) ?_
  refine ro_i (roV S hE hT hS (c_X6_intAt h) lkX9_153 rfl ⟨(Nat.le_of_ble_eq_true rfl), (Nat.le_of_ble_eq_true rfl)⟩ (hP.sub [1, 2] rfl) 0 rfl rfl hl.1 rfl (Nat.le_of_ble_eq_true rfl) dX9_addStretchFrom_2 ⟨(Nat.zero_le _), (Nat.zero_le _)⟩) (fun r2 h => ?_)
  refine lv_istore_n (lv' := [(3, .int r2), (0, .ref a_o), (1, .ref a_p1), (2, .int x2)]) hx hb dX9_addStretchFrom_5 rfl hl (by decide) rfl (fun ls hl => ?_)
  refine lv_aload_n hx hb dX9_addStretchFrom_6 rfl (lv_at hl 2 rfl) ?_
  refine lv_iload_n hx hb dX9_addStretchFrom_7 rfl (lv_at hl 3 rfl) ?_
  refine lv_iconst (v := 1) hx hb dX9_addStretchFrom_8 (by decide) ?_
  refine lv_iadd hx hb dX9_addStretchFrom_9 ?_
  refine ro_i (roV S hE hT hS (c_X6_intAt h) lkX9_153 rfl ⟨(Nat.le_of_ble_eq_true rfl), (Nat.le_of_ble_eq_true rfl)⟩ (hP.sub [1, 2] rfl) 0 rfl rfl hl.1 rfl (Nat.le_of_ble_eq_true rfl) dX9_addStretchFrom_10 ⟨(Nat.zero_le _), (Nat.zero_le _)⟩) (fun r10 h => ?_)
  refine lv_istore (lv' := [(4, .int r10), (3, .int r2), (0, .ref a_o), (1, .ref a_p1), (2, .int x2)]) hx hb dX9_addStretchFrom_13 hl (by decide) rfl (fun ls hl => ?_)
  refine lv_aload_n hx hb dX9_addStretchFrom_15 rfl (lv_at hl 3 rfl) ?_
  refine lv_iload_n hx hb dX9_addStretchFrom_16 rfl (lv_at hl 4 rfl) ?_
  refine lv_iconst (v := 2) hx hb dX9_addStretchFrom_17 (by decide) ?_
  refine lv_iadd hx hb dX9_addStretchFrom_18 ?_
  refine ro_i (roV S hE hT hS (c_X6_intAt h) lkX9_153 rfl ⟨(Nat.le_of_ble_eq_true rfl), (Nat.le_of_ble_eq_true rfl)⟩ (hP.sub [1, 2] rfl) 0 rfl rfl hl.1 rfl (Nat.le_of_ble_eq_true rfl) dX9_addStretchFrom_19 ⟨(Nat.zero_le _), (Nat.zero_le _)⟩) (fun r19 h => ?_)
  refine lv_istore (lv' := [(5, .int r19), (4, .int r10), (3, .int r2), (0, .ref a_o), (1, .ref a_p1), (2, .int x2)]) hx hb dX9_addStretchFrom_22 hl (by decide) rfl (fun ls hl => ?_)
  refine lv_aload_n hx hb dX9_addStretchFrom_24 rfl (lv_at hl 4 rfl) ?_
  refine lv_iload_n hx hb dX9_addStretchFrom_25 rfl (lv_at hl 5 rfl) ?_
  refine lv_iconst (v := 3) hx hb dX9_addStretchFrom_26 (by decide) ?_
  refine lv_iadd hx hb dX9_addStretchFrom_27 ?_
  refine ro_i (roV S hE hT hS (c_X6_intAt h) lkX9_153 rfl ⟨(Nat.le_of_ble_eq_true rfl), (Nat.le_of_ble_eq_true rfl)⟩ (hP.sub [1, 2] rfl) 0 rfl rfl hl.1 rfl (Nat.le_of_ble_eq_true rfl) dX9_addStretchFrom_28 ⟨(Nat.zero_le _), (Nat.zero_le _)⟩) (fun r28 h => ?_)
  refine lv_istore (lv' := [(6, .int r28), (5, .int r19), (4, .int r10), (3, .int r2), (0, .ref a_o), (1, .ref a_p1), (2, .int x2)]) hx hb dX9_addStretchFrom_31 hl (by decide) rfl (fun ls hl => ?_)
  refine lv_iload_n hx hb dX9_addStretchFrom_33 rfl (lv_at hl 3 rfl) ?_
  refine lv_iconst (v := 0) hx hb dX9_addStretchFrom_34 (by decide) ?_
  refine lv_bipush (v := 6) hx hb dX9_addStretchFrom_35 (by decide) ?_
  refine ro_i (roS S hE hT hS (c_X9_within h) lkX9_63 rfl ⟨(Nat.le_of_ble_eq_true rfl), (Nat.le_of_ble_eq_true rfl)⟩ (hP.sub [] rfl) hl.1 rfl (Nat.le_of_ble_eq_true rfl) dX9_addStretchFrom_37 ⟨(Nat.zero_le _), (Nat.zero_le _)⟩) (fun r37 h => ?_)
  refine lv_if_eq (tgt := 55) hx hb dX9_addStretchFrom_40 (by decide) (fun hc => ?_) (fun hc => ?_)
  · have h := h.1 hc
    refine lv_iconst (v := 0) hx hb dX9_addStretchFrom_55 (by decide) ?_
    exact W.zret hx hb hr rfl (fun t ht _ => ⟨⟨_, (v_road_stretches_stretchCount, f_road_stretches_kinds, f_road_stretches_others, f_road_stretches_spaces, f_road_stretches_times), rfl, h, hPt hP ht⟩, hS.F ht⟩) hS.2.2 dX9_addStretchFrom_56
  have h := h.2 hc
  refine lv_iload hx hb dX9_addStretchFrom_43 (lv_at hl 2 rfl) ?_
  refine lv_iload hx hb dX9_addStretchFrom_45 (lv_at hl 1 rfl) ?_
  refine lv_iload hx hb dX9_addStretchFrom_47 (lv_at hl 0 rfl) ?_
  refine ro_i (roS S hE hT hS (c_X9_areMeasures h) lkX9_139 rfl ⟨(Nat.le_of_ble_eq_true rfl), (Nat.le_of_ble_eq_true rfl)⟩ (hP.sub [] rfl) hl.1 rfl (Nat.le_of_ble_eq_true rfl) dX9_addStretchFrom_49 ⟨(Nat.zero_le _), (Nat.zero_le _)⟩) (fun r49 h => ?_)
  refine lv_if_ne (tgt := 57) hx hb dX9_addStretchFrom_52 (by decide) (fun hc => ?_) (fun hc => ?_)
  · have h := h.2 hc
    refine lv_aload_n hx hb dX9_addStretchFrom_57 rfl (lv_at hl 4 rfl) ?_
    refine gf S hE hP 0 rfl rfl inX9 (k := 0) (by decide) q181 rfl dX9_addStretchFrom_58 ?_
    refine gfN S hE hP 3 rfl rfl inX5 (k := 0) (by decide) nfX9_106 rfl dX9_addStretchFrom_61 ?_
    refine lv_iload_n hx hb dX9_addStretchFrom_64 rfl (lv_at hl 3 rfl) ?_
    refine lv_iload hx hb dX9_addStretchFrom_65 (lv_at hl 2 rfl) ?_
    refine lv_iload hx hb dX9_addStretchFrom_67 (lv_at hl 1 rfl) ?_
    refine lv_iload hx hb dX9_addStretchFrom_69 (lv_at hl 0 rfl) ?_
    refine rw_i (rwV S hE hT hS hP hD hA (c_X7_add h) [4, 5, 6, 7, 8] rfl (by decide +kernel) lkX9_145 rfl ⟨(Nat.le_of_ble_eq_true rfl), (Nat.le_of_ble_eq_true rfl)⟩ 4 rfl rfl hl.1 rfl (Nat.le_of_ble_eq_true rfl) dX9_addStretchFrom_71 ⟨(Nat.zero_le _), (Nat.zero_le _)⟩) hP hD hS hA [4, 5, 6, 7, 8] rfl (by decide +kernel) (fun _ => rfl) (fun r71 u71 H locs h hP hD hS => ?_)
    obtain ⟨w71_0, w71_1, w71_2, w71_3, w71_4⟩ := u71
    try dsimp only at h
    have hP : va_P D vwCl (wX9_addStretchFrom cI cJ cS a_o a_p1 a_p1_elements a_road a_road_stretches a_road_stretches_kinds a_road_stretches_others a_road_stretches_spaces a_road_stretches_times z_kept z_ahead z_shelves z_cutting z_acting z_refused z_road_cars z_road_tunes z_road_demands v_imaged v_lastFault v_p1_held v_p1_sort v_p1_elementCount v_p1_stretchNumber g_p1_elements v_road_drawSeed w71_0 w71_1 w71_2 w71_3 w71_4) H := wsetP 9 [0, 1, 2, 3] hP rfl ⟨rfl, rfl, rfl, rfl, trivial⟩ rfl rfl (by decide +kernel) (by decide +kernel) (by decide +kernel)
    have hD : va_D A (wX9_addStretchFrom cI cJ cS a_o a_p1 a_p1_elements a_road a_road_stretches a_road_stretches_kinds a_road_stretches_others a_road_stretches_spaces a_road_stretches_times z_kept z_ahead z_shelves z_cutting z_acting z_refused z_road_cars z_road_tunes z_road_demands v_imaged v_lastFault v_p1_held v_p1_sort v_p1_elementCount v_p1_stretchNumber g_p1_elements v_road_drawSeed w71_0 w71_1 w71_2 w71_3 w71_4) := wsetD 9 [0, 1, 2, 3] hD rfl ⟨rfl, rfl, rfl, rfl, trivial⟩ rfl rfl (by decide +kernel) (by decide +kernel) (by decide +kernel)
    refine lv_iconst (v := (-1)) hx hb dX9_addStretchFrom_74 (by decide) ?_
    refine lv_icmp_eq (tgt := 82) hx hb dX9_addStretchFrom_75 (by decide) (fun hc => ?_) (fun hc => ?_)
    · have h := h.1 hc
      refine lv_iconst (v := 0) hx hb dX9_addStretchFrom_82 (by decide) ?_
      exact W.zret hx hb hr rfl (fun t ht _ => ⟨⟨_, (w71_0, w71_1, w71_2, w71_3, w71_4), rfl, h, hPt hP ht⟩, hS.F ht⟩) hS.2.2 dX9_addStretchFrom_83
    have h := h.2 hc
    refine lv_iconst (v := 1) hx hb dX9_addStretchFrom_78 (by decide) ?_
    refine lv_goto (tgt := 83) hx hb dX9_addStretchFrom_79 (by decide) ?_
    exact W.zret hx hb hr rfl (fun t ht _ => ⟨⟨_, (w71_0, w71_1, w71_2, w71_3, w71_4), rfl, h, hPt hP ht⟩, hS.F ht⟩) hS.2.2 dX9_addStretchFrom_83
  have h := h.1 hc
  refine lv_iconst (v := 0) hx hb dX9_addStretchFrom_55 (by decide) ?_
  exact W.zret hx hb hr rfl (fun t ht _ => ⟨⟨_, (v_road_stretches_stretchCount, f_road_stretches_kinds, f_road_stretches_others, f_road_stretches_spaces, f_road_stretches_times), rfl, h, hPt hP ht⟩, hS.F ht⟩) hS.2.2 dX9_addStretchFrom_56
/-! X9_stretches -/
abbrev wX9_stretches (cI cJ cS : ClassId) (a_o a_refused a_road a_road_stretches a_road_stretches_kinds a_road_stretches_others a_road_stretches_spaces a_road_stretches_times a_shelves : Nat) (z_kept z_ahead z_cutting z_acting z_road_cars z_road_tunes z_road_demands : Value) (sa ea : Nat → Nat) (v_imaged : Int32) (v_lastFault : Int32) (f_refused : Nat → Int32) (v_road_drawSeed : Int32) (v_road_stretches_stretchCount : Int32) (f_road_stretches_kinds : Nat → Int32) (f_road_stretches_others : Nat → Int32) (f_road_stretches_spaces : Nat → Int32) (f_road_stretches_times : Nat → Int32) (f_sh_held : Nat → Int32) (f_sh_sort : Nat → Int32) (f_sh_cnt : Nat → Int32) (f_sh_num : Nat → Int32) (g_sh_el : Nat → Nat → Int64) : va_W := [(a_o, .inr (8, [.ref a_road, z_kept, z_ahead, .ref a_shelves, z_cutting, z_acting, .ref a_refused, .int v_imaged, .int v_lastFault])), (a_refused, .inl (cI, 8, .inl f_refused)), (a_road, .inr (4, [.ref a_road_stretches, z_road_cars, z_road_tunes, z_road_demands, .int v_road_drawSeed])), (a_road_stretches, .inr (6, [.ref a_road_stretches_kinds, .ref a_road_stretches_spaces, .ref a_road_stretches_others, .ref a_road_stretches_times, .int v_road_stretches_stretchCount])), (a_road_stretches_kinds, .inl (cI, 16, .inl f_road_stretches_kinds)), (a_road_stretches_others, .inl (cI, 16, .inl f_road_stretches_others)), (a_road_stretches_spaces, .inl (cI, 16, .inl f_road_stretches_spaces)), (a_road_stretches_times, .inl (cI, 16, .inl f_road_stretches_times)), (a_shelves, .inl (cS, 8, .inr (.inr (.inr (.inr (fun k => some (sa k)))))))] ++ shW sa ea cJ f_sh_held f_sh_sort f_sh_cnt f_sh_num g_sh_el
def L_X9_stretches_75 (f_sh_cnt : Nat → Int32) (g_sh_el : Nat → Nat → Int64) (x2 : Int32) (x3 : Int32) (j4 : Nat) (f_refused : Nat → Int32) (post : Int32 → (Nat → Int32) → Int32 → (Nat → Int32) → (Nat → Int32) → (Nat → Int32) → (Nat → Int32) → Prop) : Nat → Int32 → Int32 → (Nat → Int32) → (Nat → Int32) → (Nat → Int32) → (Nat → Int32) → Prop
  | 0, _, _, _, _, _, _ => False
  | n75 + 1, x6, v_road_stretches_stretchCount, f_road_stretches_kinds, f_road_stretches_others, f_road_stretches_spaces, f_road_stretches_times => (((x3 / 4) ≤ x6 → post x6 f_refused v_road_stretches_stretchCount f_road_stretches_kinds f_road_stretches_others f_road_stretches_spaces f_road_stretches_times) ∧ (¬ (x3 / 4) ≤ x6 → (F_X9_addStretchFrom (f_sh_cnt j4) (g_sh_el j4) v_road_stretches_stretchCount f_road_stretches_kinds f_road_stretches_others f_road_stretches_spaces f_road_stretches_times (x2 + (4 * x6)) (fun r92 w92_0 w92_1 w92_2 w92_3 w92_4 => ((r92 = 0 → post x6 f_refused w92_0 w92_1 w92_2 w92_3 w92_4) ∧ (¬ r92 = 0 → (∀ x6_98 : Int32, x6_98 = x6 + 1 → L_X9_stretches_75 f_sh_cnt g_sh_el x2 x3 j4 f_refused post n75 x6_98 w92_0 w92_1 w92_2 w92_3 w92_4)))))))
def F_X9_stretches (f_refused : Nat → Int32) (v_road_stretches_stretchCount : Int32) (f_road_stretches_kinds : Nat → Int32) (f_road_stretches_others : Nat → Int32) (f_road_stretches_spaces : Nat → Int32) (f_road_stretches_times : Nat → Int32) (f_sh_held : Nat → Int32) (f_sh_cnt : Nat → Int32) (g_sh_el : Nat → Nat → Int64) (x1 : Int32) (x2 : Int32) (x3 : Int32) (post : Int32 → (Nat → Int32) → Int32 → (Nat → Int32) → (Nat → Int32) → (Nat → Int32) → (Nat → Int32) → Prop) : Prop := (F_X9_shelfAt x1 ((F_X9_refusalOfRow_null0  (fun r9 => ((r9 = 0 → (F_X9_refuse f_refused r9 (fun r27 w27_0 => post r27 w27_0 v_road_stretches_stretchCount f_road_stretches_kinds f_road_stretches_others f_road_stretches_spaces f_road_stretches_times))) ∧ (¬ r9 = 0 → (F_X9_refuse f_refused r9 (fun r27 w27_0 => post r27 w27_0 v_road_stretches_stretchCount f_road_stretches_kinds f_road_stretches_others f_road_stretches_spaces f_road_stretches_times))))))) (fun j2 => (F_X9_refusalOfRow (f_sh_held j2) (fun r9 => ((r9 = 0 → ((0 ≤ x3 → (F_X6_hasElements (f_sh_cnt j2) x2 x3 (fun r46 => ((r46 = 0 → (F_X9_refuse f_refused (-5) (fun r55 w55_0 => post r55 w55_0 v_road_stretches_stretchCount f_road_stretches_kinds f_road_stretches_others f_road_stretches_spaces f_road_stretches_times))) ∧ (¬ r46 = 0 → (((x3 - x3 / 4 * 4) = 0 → (∃ n75 : Nat, L_X9_stretches_75 f_sh_cnt g_sh_el x2 x3 j2 f_refused post n75 0 v_road_stretches_stretchCount f_road_stretches_kinds f_road_stretches_others f_road_stretches_spaces f_road_stretches_times)) ∧ (¬ (x3 - x3 / 4 * 4) = 0 → (F_X9_refuse f_refused (-6) (fun r68 w68_0 => post r68 w68_0 v_road_stretches_stretchCount f_road_stretches_kinds f_road_stretches_others f_road_stretches_spaces f_road_stretches_times))))))))) ∧ (¬ 0 ≤ x3 → (F_X9_refuse f_refused (-4) (fun r38 w38_0 => post r38 w38_0 v_road_stretches_stretchCount f_road_stretches_kinds f_road_stretches_others f_road_stretches_spaces f_road_stretches_times))))) ∧ (¬ r9 = 0 → (F_X9_refuse f_refused r9 (fun r27 w27_0 => post r27 w27_0 v_road_stretches_stretchCount f_road_stretches_kinds f_road_stretches_others f_road_stretches_spaces f_road_stretches_times))))))))
set_option maxHeartbeats 4000000 in
set_option maxRecDepth 100000 in
theorem w_X9_stretches_75 {l : Launch} {D : va_G} {cI cJ cS : ClassId} {ad adK : Nat → Nat} {a_o a_refused a_road a_road_stretches a_road_stretches_kinds a_road_stretches_others a_road_stretches_spaces a_road_stretches_times a_shelves : Nat} {z_kept z_ahead z_cutting z_acting z_road_cars z_road_tunes z_road_demands : Value} {sa ea : Nat → Nat} {v_imaged : Int32} {v_lastFault : Int32} {f_refused : Nat → Int32} {v_road_drawSeed : Int32} {f_sh_held : Nat → Int32} {f_sh_sort : Nat → Int32} {f_sh_cnt : Nat → Int32} {f_sh_num : Nat → Int32} {g_sh_el : Nat → Nat → Int64} {x2 : Int32} {x3 : Int32} {j4 : Nat} {post : Int32 → (Nat → Int32) → Int32 → (Nat → Int32) → (Nat → Int32) → (Nat → Int32) → (Nat → Int32) → Prop} {p : Program} {e : Env} {s : State} {m : MethodId} {args : Array Value} {below : List Frame} {meth : Method} {c : Code} {A : Nat → Prop} (S : CallFix p m c cX9_stretches 7 s args GW "RoadThatSings") (hE : EN D cI cJ cS s) (hT : ST ad adK A s s.heap) (hA : ∀ q : Nat, s.heap.size ≤ q → A q) (hr : meth.sig.returnType = (some (.int))) (hlocks : meth.locks = false) (hjj4 : j4 < 8) : ∀ n : Nat, ∀ (x6 : Int32) (v_road_stretches_stretchCount : Int32) (f_road_stretches_kinds : Nat → Int32) (f_road_stretches_others : Nat → Int32) (f_road_stretches_spaces : Nat → Int32) (f_road_stretches_times : Nat → Int32) (H : Heap) (locs : List Loc) (ls : Array Slot), L_X9_stretches_75 f_sh_cnt g_sh_el x2 x3 j4 f_refused post n x6 v_road_stretches_stretchCount f_road_stretches_kinds f_road_stretches_others f_road_stretches_spaces f_road_stretches_times → va_P D vwCl (wX9_stretches cI cJ cS a_o a_refused a_road a_road_stretches a_road_stretches_kinds a_road_stretches_others a_road_stretches_spaces a_road_stretches_times a_shelves z_kept z_ahead z_cutting z_acting z_road_cars z_road_tunes z_road_demands sa ea v_imaged v_lastFault f_refused v_road_drawSeed v_road_stretches_stretchCount f_road_stretches_kinds f_road_stretches_others f_road_stretches_spaces f_road_stretches_times f_sh_held f_sh_sort f_sh_cnt f_sh_num g_sh_el) H → va_D A (wX9_stretches cI cJ cS a_o a_refused a_road a_road_stretches a_road_stretches_kinds a_road_stretches_others a_road_stretches_spaces a_road_stretches_times a_shelves z_kept z_ahead z_cutting z_acting z_road_cars z_road_tunes z_road_demands sa ea v_imaged v_lastFault f_refused v_road_drawSeed v_road_stretches_stretchCount f_road_stretches_kinds f_road_stretches_others f_road_stretches_spaces f_road_stretches_times f_sh_held f_sh_sort f_sh_cnt f_sh_num g_sh_el) → va_S A s.heap H locs → lv_has ls 7 [(0, .ref a_o), (2, .int x2), (3, .int x3), (4, .ref (sa j4)), (6, .int x6)] → W p l e (rmd 3 0 0) s m args below meth c H locs 0 0 (MQ below (va_Qi (fun r (u : (Nat → Int32) × Int32 × (Nat → Int32) × (Nat → Int32) × (Nat → Int32) × (Nat → Int32)) => post r u.1 u.2.1 u.2.2.1 u.2.2.2.1 u.2.2.2.2.1 u.2.2.2.2.2) (fun u t => va_P D vwCl (wX9_stretches cI cJ cS a_o a_refused a_road a_road_stretches a_road_stretches_kinds a_road_stretches_others a_road_stretches_spaces a_road_stretches_times a_shelves z_kept z_ahead z_cutting z_acting z_road_cars z_road_tunes z_road_demands sa ea v_imaged v_lastFault u.1 v_road_drawSeed u.2.1 u.2.2.1 u.2.2.2.1 u.2.2.2.2.1 u.2.2.2.2.2 f_sh_held f_sh_sort f_sh_cnt f_sh_num g_sh_el) t.heap) A) args s 0 0 A) (F0 m 75 ls []) := by
  intro n
  induction n with
  | zero =>
    intro x6 v_road_stretches_stretchCount f_road_stretches_kinds f_road_stretches_others f_road_stretches_spaces f_road_stretches_times H locs ls h hP hD hS hl
    exact h.elim
  | succ n ih =>
    intro x6 v_road_stretches_stretchCount f_road_stretches_kinds f_road_stretches_others f_road_stretches_spaces f_road_stretches_times H locs ls h hP hD hS hl
    rw [L_X9_stretches_75] at h
    have hx := S.1
    have hb := S.2.1
    refine lv_iload hx hb dX9_stretches_75 (lv_at hl 4 rfl) ?_
    refine lv_iload_n hx hb dX9_stretches_77 rfl (lv_at hl 2 rfl) ?_
    refine lv_iconst (v := 4) hx hb dX9_stretches_78 (by decide) ?_
    refine lv_idiv hx hb dX9_stretches_79 (by decide) ?_
    refine lv_icmp_ge (tgt := 104) hx hb dX9_stretches_80 (by decide) (fun hc => ?_) (fun hc => ?_)
    · have h := h.1 hc
      refine lv_iload hx hb dX9_stretches_104 (lv_at hl 4 rfl) ?_
      exact W.iret hx hb hr (fun t ht _ => ⟨⟨_, (f_refused, v_road_stretches_stretchCount, f_road_stretches_kinds, f_road_stretches_others, f_road_stretches_spaces, f_road_stretches_times), rfl, h, hPt hP ht⟩, hS.F ht⟩) hS.2.2 dX9_stretches_106
    have h := h.2 hc
    refine lv_aload_n hx hb dX9_stretches_83 rfl (lv_at hl 0 rfl) ?_
    refine lv_aload hx hb dX9_stretches_84 (lv_at hl 3 rfl) ?_
    refine lv_iload_n hx hb dX9_stretches_86 rfl (lv_at hl 1 rfl) ?_
    refine lv_iconst (v := 4) hx hb dX9_stretches_87 (by decide) ?_
    refine lv_iload hx hb dX9_stretches_88 (lv_at hl 4 rfl) ?_
    refine lv_imul hx hb dX9_stretches_90 ?_
    refine lv_iadd hx hb dX9_stretches_91 ?_
    refine rw_i (rwV S hE hT hS hP hD hA (c_X9_addStretchFrom h) [0, (9 + 2 * j4), (9 + 2 * j4 + 1), 2, 3, 4, 5, 6, 7] (mCc rfl (mCc (shS rfl hjj4) (mCc (shE rfl hjj4) (mCc rfl (mCc rfl (mCc rfl (mCc rfl (mCc rfl (mCc rfl mCn))))))))) (by simp [va_nd]; try omega) lkX9_149 rfl ⟨(Nat.le_of_ble_eq_true rfl), (Nat.le_of_ble_eq_true rfl)⟩ 0 rfl rfl hl.1 rfl (Nat.le_of_ble_eq_true rfl) dX9_stretches_92 ⟨(Nat.zero_le _), (Nat.zero_le _)⟩) hP hD hS hA [0, (9 + 2 * j4), (9 + 2 * j4 + 1), 2, 3, 4, 5, 6, 7] (mCc rfl (mCc (shS rfl hjj4) (mCc (shE rfl hjj4) (mCc rfl (mCc rfl (mCc rfl (mCc rfl (mCc rfl (mCc rfl mCn))))))))) (by simp [va_nd]; try omega) (fun _ => rfl) (fun r92 u92 H locs h hP hD hS => ?_)
    obtain ⟨w92_0, w92_1, w92_2, w92_3, w92_4⟩ := u92
    try dsimp only at h
    have hP : va_P D vwCl (wX9_stretches cI cJ cS a_o a_refused a_road a_road_stretches a_road_stretches_kinds a_road_stretches_others a_road_stretches_spaces a_road_stretches_times a_shelves z_kept z_ahead z_cutting z_acting z_road_cars z_road_tunes z_road_demands sa ea v_imaged v_lastFault f_refused v_road_drawSeed w92_0 w92_1 w92_2 w92_3 w92_4 f_sh_held f_sh_sort f_sh_cnt f_sh_num g_sh_el) H := by (rcases lt8 hjj4 with rfl | rfl | rfl | rfl | rfl | rfl | rfl | rfl) <;> exact hP
    have hD : va_D A (wX9_stretches cI cJ cS a_o a_refused a_road a_road_stretches a_road_stretches_kinds a_road_stretches_others a_road_stretches_spaces a_road_stretches_times a_shelves z_kept z_ahead z_cutting z_acting z_road_cars z_road_tunes z_road_demands sa ea v_imaged v_lastFault f_refused v_road_drawSeed w92_0 w92_1 w92_2 w92_3 w92_4 f_sh_held f_sh_sort f_sh_cnt f_sh_num g_sh_el) := by (rcases lt8 hjj4 with rfl | rfl | rfl | rfl | rfl | rfl | rfl | rfl) <;> exact hD
    refine lv_if_eq (tgt := 104) hx hb dX9_stretches_95 (by decide) (fun hc => ?_) (fun hc => ?_)
    · have h := h.1 hc
      refine lv_iload hx hb dX9_stretches_104 (lv_at hl 4 rfl) ?_
      exact W.iret hx hb hr (fun t ht _ => ⟨⟨_, (f_refused, w92_0, w92_1, w92_2, w92_3, w92_4), rfl, h, hPt hP ht⟩, hS.F ht⟩) hS.2.2 dX9_stretches_106
    have h := h.2 hc
    obtain ⟨x6_98, ex6_98⟩ : ∃ z : Int32, z = x6 + 1 := ⟨_, rfl⟩
    have h := h _ ex6_98
    refine lv_iinc (v := x6_98) (lv' := [(6, .int x6_98), (0, .ref a_o), (2, .int x2), (3, .int x3), (4, .ref (sa j4))]) hx hb dX9_stretches_98 hl (k := 4) rfl (by rw [ex6_98]; rfl) (by decide) rfl (fun ls hl => ?_)
    refine lv_goto (tgt := 75) hx hb dX9_stretches_101 (by decide) ?_
    exact ih _ _ _ _ _ _ _ _ _ h hP hD hS (lv_sub hl [1, 2, 3, 4, 0] rfl)
set_option maxHeartbeats 4000000 in
set_option maxRecDepth 100000 in
theorem c_X9_stretches {l : Launch} {D : va_G} {cI cJ cS : ClassId} {ad adK : Nat → Nat} {a_o a_refused a_road a_road_stretches a_road_stretches_kinds a_road_stretches_others a_road_stretches_spaces a_road_stretches_times a_shelves : Nat} {z_kept z_ahead z_cutting z_acting z_road_cars z_road_tunes z_road_demands : Value} {sa ea : Nat → Nat} {v_imaged : Int32} {v_lastFault : Int32} {f_refused : Nat → Int32} {v_road_drawSeed : Int32} {v_road_stretches_stretchCount : Int32} {f_road_stretches_kinds : Nat → Int32} {f_road_stretches_others : Nat → Int32} {f_road_stretches_spaces : Nat → Int32} {f_road_stretches_times : Nat → Int32} {f_sh_held : Nat → Int32} {f_sh_sort : Nat → Int32} {f_sh_cnt : Nat → Int32} {f_sh_num : Nat → Int32} {g_sh_el : Nat → Nat → Int64} {x1 : Int32} {x2 : Int32} {x3 : Int32} {post : Int32 → (Nat → Int32) → Int32 → (Nat → Int32) → (Nat → Int32) → (Nat → Int32) → (Nat → Int32) → Prop} (h : F_X9_stretches f_refused v_road_stretches_stretchCount f_road_stretches_kinds f_road_stretches_others f_road_stretches_spaces f_road_stretches_times f_sh_held f_sh_cnt g_sh_el x1 x2 x3 post) {sz : Nat} : Met l yX9_stretches (Cond.code yX9_stretches cX9_stretches 7 (some (.int)) :: GW) (rmd 3 0 0) (PW D cI cJ cS ad adK [.ref a_o, .int x1, .int x2, .int x3] (wX9_stretches cI cJ cS a_o a_refused a_road a_road_stretches a_road_stretches_kinds a_road_stretches_others a_road_stretches_spaces a_road_stretches_times a_shelves z_kept z_ahead z_cutting z_acting z_road_cars z_road_tunes z_road_demands sa ea v_imaged v_lastFault f_refused v_road_drawSeed v_road_stretches_stretchCount f_road_stretches_kinds f_road_stretches_others f_road_stretches_spaces f_road_stretches_times f_sh_held f_sh_sort f_sh_cnt f_sh_num g_sh_el) sz) (va_Qi (fun r (u : (Nat → Int32) × Int32 × (Nat → Int32) × (Nat → Int32) × (Nat → Int32) × (Nat → Int32)) => post r u.1 u.2.1 u.2.2.1 u.2.2.2.1 u.2.2.2.2.1 u.2.2.2.2.2) (fun u t => va_P D vwCl (wX9_stretches cI cJ cS a_o a_refused a_road a_road_stretches a_road_stretches_kinds a_road_stretches_others a_road_stretches_spaces a_road_stretches_times a_shelves z_kept z_ahead z_cutting z_acting z_road_cars z_road_tunes z_road_demands sa ea v_imaged v_lastFault u.1 v_road_drawSeed u.2.1 u.2.2.1 u.2.2.2.1 u.2.2.2.2.1 u.2.2.2.2.2 f_sh_held f_sh_sort f_sh_cnt f_sh_num g_sh_el) t.heap) (va_A (wX9_stretches cI cJ cS a_o a_refused a_road a_road_stretches a_road_stretches_kinds a_road_stretches_others a_road_stretches_spaces a_road_stretches_times a_shelves z_kept z_ahead z_cutting z_acting z_road_cars z_road_tunes z_road_demands sa ea v_imaged v_lastFault f_refused v_road_drawSeed v_road_stretches_stretchCount f_road_stretches_kinds f_road_stretches_others f_road_stretches_spaces f_road_stretches_times f_sh_held f_sh_sort f_sh_cnt f_sh_num g_sh_el) sz)) 0 0 (va_A (wX9_stretches cI cJ cS a_o a_refused a_road a_road_stretches a_road_stretches_kinds a_road_stretches_others a_road_stretches_spaces a_road_stretches_times a_shelves z_kept z_ahead z_cutting z_acting z_road_cars z_road_tunes z_road_demands sa ea v_imaged v_lastFault f_refused v_road_drawSeed v_road_stretches_stretchCount f_road_stretches_kinds f_road_stretches_others f_road_stretches_spaces f_road_stretches_times f_sh_held f_sh_sort f_sh_cnt f_sh_num g_sh_el) sz) := by
  refine Met.rw (Qc := fun A => (va_Qi (fun r (u : (Nat → Int32) × Int32 × (Nat → Int32) × (Nat → Int32) × (Nat → Int32) × (Nat → Int32)) => post r u.1 u.2.1 u.2.2.1 u.2.2.2.1 u.2.2.2.2.1 u.2.2.2.2.2) (fun u t => va_P D vwCl (wX9_stretches cI cJ cS a_o a_refused a_road a_road_stretches a_road_stretches_kinds a_road_stretches_others a_road_stretches_spaces a_road_stretches_times a_shelves z_kept z_ahead z_cutting z_acting z_road_cars z_road_tunes z_road_demands sa ea v_imaged v_lastFault u.1 v_road_drawSeed u.2.1 u.2.2.1 u.2.2.2.1 u.2.2.2.2.1 u.2.2.2.2.2 f_sh_held f_sh_sort f_sh_cnt f_sh_num g_sh_el) t.heap) A)) (by decide) (Nat.le_of_ble_eq_true rfl) (fun p e s m args below meth c ls A (S : CallFix p m c cX9_stretches 7 s args GW "RoadThatSings") hE hT hP hD hA hS hr hlocks hname hl => ?_)
  have hS0 := hS
  have hx := S.1
  have hb := S.2.1
  have hl : lv_has ls 7 [(0, .ref a_o), (1, .int x1), (2, .int x2), (3, .int x3)] := hl
  unfold F_X9_stretches at h
  refine lv_aload_n hx hb dX9_stretches_0 rfl (lv_at hl 0 rfl) ?_
  refine lv_iload_n hx hb dX9_stretches_1 rfl (lv_at hl 1 rfl) ?_
  refine ro_s (roV S hE hT hS (c_X9_shelfAt h) lkX9_55 rfl ⟨(Nat.le_of_ble_eq_true rfl), (Nat.le_of_ble_eq_true rfl)⟩ (hP.sub [0, 8] rfl) 0 rfl rfl hl.1 rfl (Nat.le_of_ble_eq_true rfl) dX9_stretches_2 ⟨(Nat.zero_le _), (Nat.zero_le _)⟩) (fun h => ?_) (fun j2 hj2 h => ?_)
  · refine lv_astoreN (lv' := [(4, .null), (0, .ref a_o), (1, .int x1), (2, .int x2), (3, .int x3)]) hx hb dX9_stretches_5 hl (by decide) rfl (fun ls hl => ?_)
    refine lv_aloadN hx hb dX9_stretches_7 (lv_at hl 0 rfl) ?_
    refine ro_i (roS S hE hT hS (c_X9_refusalOfRow_null0 h) lkX9_71 rfl ⟨(Nat.le_of_ble_eq_true rfl), (Nat.le_of_ble_eq_true rfl)⟩ (hP.sub [] rfl) hl.1 rfl (Nat.le_of_ble_eq_true rfl) dX9_stretches_9 ⟨(Nat.zero_le _), (Nat.zero_le _)⟩) (fun r9 h => ?_)
    refine lv_istore (lv' := [(5, .int r9), (4, .null), (0, .ref a_o), (1, .int x1), (2, .int x2), (3, .int x3)]) hx hb dX9_stretches_12 hl (by decide) rfl (fun ls hl => ?_)
    refine lv_iload hx hb dX9_stretches_14 (lv_at hl 0 rfl) ?_
    refine lv_if_ne (tgt := 24) hx hb dX9_stretches_16 (by decide) (fun hc => ?_) (fun hc => ?_)
    · have h := h.2 hc
      refine lv_aload_n hx hb dX9_stretches_24 rfl (lv_at hl 2 rfl) ?_
      refine lv_iload hx hb dX9_stretches_25 (lv_at hl 0 rfl) ?_
      refine rw_i (rwV S hE hT hS hP hD hA (c_X9_refuse h) [0, 1] rfl (by decide +kernel) lkX9_59 rfl ⟨(Nat.le_of_ble_eq_true rfl), (Nat.le_of_ble_eq_true rfl)⟩ 0 rfl rfl hl.1 rfl (Nat.le_of_ble_eq_true rfl) dX9_stretches_27 ⟨(Nat.zero_le _), (Nat.zero_le _)⟩) hP hD hS hA [0, 1] rfl (by decide +kernel) (fun _ => rfl) (fun r27 w27_0 H locs h hP hD hS => ?_)
      try dsimp only at h
      have hP : va_P D vwCl (wX9_stretches cI cJ cS a_o a_refused a_road a_road_stretches a_road_stretches_kinds a_road_stretches_others a_road_stretches_spaces a_road_stretches_times a_shelves z_kept z_ahead z_cutting z_acting z_road_cars z_road_tunes z_road_demands sa ea v_imaged v_lastFault w27_0 v_road_drawSeed v_road_stretches_stretchCount f_road_stretches_kinds f_road_stretches_others f_road_stretches_spaces f_road_stretches_times f_sh_held f_sh_sort f_sh_cnt f_sh_num g_sh_el) H := hP
      have hD : va_D A (wX9_stretches cI cJ cS a_o a_refused a_road a_road_stretches a_road_stretches_kinds a_road_stretches_others a_road_stretches_spaces a_road_stretches_times a_shelves z_kept z_ahead z_cutting z_acting z_road_cars z_road_tunes z_road_demands sa ea v_imaged v_lastFault w27_0 v_road_drawSeed v_road_stretches_stretchCount f_road_stretches_kinds f_road_stretches_others f_road_stretches_spaces f_road_stretches_times f_sh_held f_sh_sort f_sh_cnt f_sh_num g_sh_el) := hD
      exact W.iret hx hb hr (fun t ht _ => ⟨⟨_, (w27_0, v_road_stretches_stretchCount, f_road_stretches_kinds, f_road_stretches_others, f_road_stretches_spaces, f_road_stretches_times), rfl, h, hPt hP ht⟩, hS.F ht⟩) hS.2.2 dX9_stretches_30
    have h := h.1 hc
    refine lv_aloadN hx hb dX9_stretches_19 (lv_at hl 1 rfl) ?_
    refine lv_ifnonnullN hx hb dX9_stretches_21 ?_
    refine lv_aload_n hx hb dX9_stretches_24 rfl (lv_at hl 2 rfl) ?_
    refine lv_iload hx hb dX9_stretches_25 (lv_at hl 0 rfl) ?_
    refine rw_i (rwV S hE hT hS hP hD hA (c_X9_refuse h) [0, 1] rfl (by decide +kernel) lkX9_59 rfl ⟨(Nat.le_of_ble_eq_true rfl), (Nat.le_of_ble_eq_true rfl)⟩ 0 rfl rfl hl.1 rfl (Nat.le_of_ble_eq_true rfl) dX9_stretches_27 ⟨(Nat.zero_le _), (Nat.zero_le _)⟩) hP hD hS hA [0, 1] rfl (by decide +kernel) (fun _ => rfl) (fun r27 w27_0 H locs h hP hD hS => ?_)
    try dsimp only at h
    have hP : va_P D vwCl (wX9_stretches cI cJ cS a_o a_refused a_road a_road_stretches a_road_stretches_kinds a_road_stretches_others a_road_stretches_spaces a_road_stretches_times a_shelves z_kept z_ahead z_cutting z_acting z_road_cars z_road_tunes z_road_demands sa ea v_imaged v_lastFault w27_0 v_road_drawSeed v_road_stretches_stretchCount f_road_stretches_kinds f_road_stretches_others f_road_stretches_spaces f_road_stretches_times f_sh_held f_sh_sort f_sh_cnt f_sh_num g_sh_el) H := hP
    have hD : va_D A (wX9_stretches cI cJ cS a_o a_refused a_road a_road_stretches a_road_stretches_kinds a_road_stretches_others a_road_stretches_spaces a_road_stretches_times a_shelves z_kept z_ahead z_cutting z_acting z_road_cars z_road_tunes z_road_demands sa ea v_imaged v_lastFault w27_0 v_road_drawSeed v_road_stretches_stretchCount f_road_stretches_kinds f_road_stretches_others f_road_stretches_spaces f_road_stretches_times f_sh_held f_sh_sort f_sh_cnt f_sh_num g_sh_el) := hD
    exact W.iret hx hb hr (fun t ht _ => ⟨⟨_, (w27_0, v_road_stretches_stretchCount, f_road_stretches_kinds, f_road_stretches_others, f_road_stretches_spaces, f_road_stretches_times), rfl, h, hPt hP ht⟩, hS.F ht⟩) hS.2.2 dX9_stretches_30
  refine lv_astore (lv' := [(4, .ref (sa j2)), (0, .ref a_o), (1, .int x1), (2, .int x2), (3, .int x3)]) hx hb dX9_stretches_5 hl (by decide) rfl (fun ls hl => ?_)
  refine lv_aload hx hb dX9_stretches_7 (lv_at hl 0 rfl) ?_
  refine ro_i (roS S hE hT hS (c_X9_refusalOfRow h) lkX9_71 rfl ⟨(Nat.le_of_ble_eq_true rfl), (Nat.le_of_ble_eq_true rfl)⟩ (vPc hP (shS rfl hj2) vPn) hl.1 rfl (Nat.le_of_ble_eq_true rfl) dX9_stretches_9 ⟨(Nat.zero_le _), (Nat.zero_le _)⟩) (fun r9 h => ?_)
  refine lv_istore (lv' := [(5, .int r9), (4, .ref (sa j2)), (0, .ref a_o), (1, .int x1), (2, .int x2), (3, .int x3)]) hx hb dX9_stretches_12 hl (by decide) rfl (fun ls hl => ?_)
  refine lv_iload hx hb dX9_stretches_14 (lv_at hl 0 rfl) ?_
  refine lv_if_ne (tgt := 24) hx hb dX9_stretches_16 (by decide) (fun hc => ?_) (fun hc => ?_)
  · have h := h.2 hc
    refine lv_aload_n hx hb dX9_stretches_24 rfl (lv_at hl 2 rfl) ?_
    refine lv_iload hx hb dX9_stretches_25 (lv_at hl 0 rfl) ?_
    refine rw_i (rwV S hE hT hS hP hD hA (c_X9_refuse h) [0, 1] rfl (by decide +kernel) lkX9_59 rfl ⟨(Nat.le_of_ble_eq_true rfl), (Nat.le_of_ble_eq_true rfl)⟩ 0 rfl rfl hl.1 rfl (Nat.le_of_ble_eq_true rfl) dX9_stretches_27 ⟨(Nat.zero_le _), (Nat.zero_le _)⟩) hP hD hS hA [0, 1] rfl (by decide +kernel) (fun _ => rfl) (fun r27 w27_0 H locs h hP hD hS => ?_)
    try dsimp only at h
    have hP : va_P D vwCl (wX9_stretches cI cJ cS a_o a_refused a_road a_road_stretches a_road_stretches_kinds a_road_stretches_others a_road_stretches_spaces a_road_stretches_times a_shelves z_kept z_ahead z_cutting z_acting z_road_cars z_road_tunes z_road_demands sa ea v_imaged v_lastFault w27_0 v_road_drawSeed v_road_stretches_stretchCount f_road_stretches_kinds f_road_stretches_others f_road_stretches_spaces f_road_stretches_times f_sh_held f_sh_sort f_sh_cnt f_sh_num g_sh_el) H := hP
    have hD : va_D A (wX9_stretches cI cJ cS a_o a_refused a_road a_road_stretches a_road_stretches_kinds a_road_stretches_others a_road_stretches_spaces a_road_stretches_times a_shelves z_kept z_ahead z_cutting z_acting z_road_cars z_road_tunes z_road_demands sa ea v_imaged v_lastFault w27_0 v_road_drawSeed v_road_stretches_stretchCount f_road_stretches_kinds f_road_stretches_others f_road_stretches_spaces f_road_stretches_times f_sh_held f_sh_sort f_sh_cnt f_sh_num g_sh_el) := hD
    exact W.iret hx hb hr (fun t ht _ => ⟨⟨_, (w27_0, v_road_stretches_stretchCount, f_road_stretches_kinds, f_road_stretches_others, f_road_stretches_spaces, f_road_stretches_times), rfl, h, hPt hP ht⟩, hS.F ht⟩) hS.2.2 dX9_stretches_30
  have h := h.1 hc
  refine lv_aload hx hb dX9_stretches_19 (lv_at hl 1 rfl) ?_
  refine lv_ifnonnull (tgt := 31) hx hb dX9_stretches_21 (by decide) ?_
  refine lv_iload_n hx hb dX9_stretches_31 rfl (lv_at hl 5 rfl) ?_
  refine lv_if_ge (tgt := 42) hx hb dX9_stretches_32 (by decide) (fun hc => ?_) (fun hc => ?_)
  · have h := h.1 hc
    refine lv_aload hx hb dX9_stretches_42 (lv_at hl 1 rfl) ?_
    refine lv_iload_n hx hb dX9_stretches_44 rfl (lv_at hl 4 rfl) ?_
    refine lv_iload_n hx hb dX9_stretches_45 rfl (lv_at hl 5 rfl) ?_
    refine ro_i (roV S hE hT hS (c_X6_hasElements h) lkX9_94 rfl ⟨(Nat.le_of_ble_eq_true rfl), (Nat.le_of_ble_eq_true rfl)⟩ (vPc hP (shS rfl hj2) vPn) 0 rfl rfl hl.1 rfl (Nat.le_of_ble_eq_true rfl) dX9_stretches_46 ⟨(Nat.zero_le _), (Nat.zero_le _)⟩) (fun r46 h => ?_)
    refine lv_if_ne (tgt := 59) hx hb dX9_stretches_49 (by decide) (fun hc => ?_) (fun hc => ?_)
    · have h := h.2 hc
      refine lv_iload_n hx hb dX9_stretches_59 rfl (lv_at hl 5 rfl) ?_
      refine lv_iconst (v := 4) hx hb dX9_stretches_60 (by decide) ?_
      refine lv_irem hx hb dX9_stretches_61 (by decide) ?_
      refine lv_if_eq (tgt := 72) hx hb dX9_stretches_62 (by decide) (fun hc => ?_) (fun hc => ?_)
      · have h := h.1 hc
        refine lv_iconst (v := 0) hx hb dX9_stretches_72 (by decide) ?_
        refine lv_istore (lv' := [(6, .int 0), (5, .int r9), (4, .ref (sa j2)), (0, .ref a_o), (1, .int x1), (2, .int x2), (3, .int x3)]) hx hb dX9_stretches_73 hl (by decide) rfl (fun ls hl => ?_)
        obtain ⟨n, h⟩ := h
        refine w_X9_stretches_75 S hE hT hA hr hlocks hj2 n _ _ _ _ _ _ _ _ _ h hP hD hS (lv_sub hl [3, 5, 6, 2, 0] rfl)
      have h := h.2 hc
      refine lv_aload_n hx hb dX9_stretches_65 rfl (lv_at hl 2 rfl) ?_
      refine lv_bipush (v := (-6)) hx hb dX9_stretches_66 (by decide) ?_
      refine rw_i (rwV S hE hT hS hP hD hA (c_X9_refuse h) [0, 1] rfl (by decide +kernel) lkX9_59 rfl ⟨(Nat.le_of_ble_eq_true rfl), (Nat.le_of_ble_eq_true rfl)⟩ 0 rfl rfl hl.1 rfl (Nat.le_of_ble_eq_true rfl) dX9_stretches_68 ⟨(Nat.zero_le _), (Nat.zero_le _)⟩) hP hD hS hA [0, 1] rfl (by decide +kernel) (fun _ => rfl) (fun r68 w68_0 H locs h hP hD hS => ?_)
      try dsimp only at h
      have hP : va_P D vwCl (wX9_stretches cI cJ cS a_o a_refused a_road a_road_stretches a_road_stretches_kinds a_road_stretches_others a_road_stretches_spaces a_road_stretches_times a_shelves z_kept z_ahead z_cutting z_acting z_road_cars z_road_tunes z_road_demands sa ea v_imaged v_lastFault w68_0 v_road_drawSeed v_road_stretches_stretchCount f_road_stretches_kinds f_road_stretches_others f_road_stretches_spaces f_road_stretches_times f_sh_held f_sh_sort f_sh_cnt f_sh_num g_sh_el) H := hP
      have hD : va_D A (wX9_stretches cI cJ cS a_o a_refused a_road a_road_stretches a_road_stretches_kinds a_road_stretches_others a_road_stretches_spaces a_road_stretches_times a_shelves z_kept z_ahead z_cutting z_acting z_road_cars z_road_tunes z_road_demands sa ea v_imaged v_lastFault w68_0 v_road_drawSeed v_road_stretches_stretchCount f_road_stretches_kinds f_road_stretches_others f_road_stretches_spaces f_road_stretches_times f_sh_held f_sh_sort f_sh_cnt f_sh_num g_sh_el) := hD
      exact W.iret hx hb hr (fun t ht _ => ⟨⟨_, (w68_0, v_road_stretches_stretchCount, f_road_stretches_kinds, f_road_stretches_others, f_road_stretches_spaces, f_road_stretches_times), rfl, h, hPt hP ht⟩, hS.F ht⟩) hS.2.2 dX9_stretches_71
    have h := h.1 hc
    refine lv_aload_n hx hb dX9_stretches_52 rfl (lv_at hl 2 rfl) ?_
    refine lv_bipush (v := (-5)) hx hb dX9_stretches_53 (by decide) ?_
    refine rw_i (rwV S hE hT hS hP hD hA (c_X9_refuse h) [0, 1] rfl (by decide +kernel) lkX9_59 rfl ⟨(Nat.le_of_ble_eq_true rfl), (Nat.le_of_ble_eq_true rfl)⟩ 0 rfl rfl hl.1 rfl (Nat.le_of_ble_eq_true rfl) dX9_stretches_55 ⟨(Nat.zero_le _), (Nat.zero_le _)⟩) hP hD hS hA [0, 1] rfl (by decide +kernel) (fun _ => rfl) (fun r55 w55_0 H locs h hP hD hS => ?_)
    try dsimp only at h
    have hP : va_P D vwCl (wX9_stretches cI cJ cS a_o a_refused a_road a_road_stretches a_road_stretches_kinds a_road_stretches_others a_road_stretches_spaces a_road_stretches_times a_shelves z_kept z_ahead z_cutting z_acting z_road_cars z_road_tunes z_road_demands sa ea v_imaged v_lastFault w55_0 v_road_drawSeed v_road_stretches_stretchCount f_road_stretches_kinds f_road_stretches_others f_road_stretches_spaces f_road_stretches_times f_sh_held f_sh_sort f_sh_cnt f_sh_num g_sh_el) H := hP
    have hD : va_D A (wX9_stretches cI cJ cS a_o a_refused a_road a_road_stretches a_road_stretches_kinds a_road_stretches_others a_road_stretches_spaces a_road_stretches_times a_shelves z_kept z_ahead z_cutting z_acting z_road_cars z_road_tunes z_road_demands sa ea v_imaged v_lastFault w55_0 v_road_drawSeed v_road_stretches_stretchCount f_road_stretches_kinds f_road_stretches_others f_road_stretches_spaces f_road_stretches_times f_sh_held f_sh_sort f_sh_cnt f_sh_num g_sh_el) := hD
    exact W.iret hx hb hr (fun t ht _ => ⟨⟨_, (w55_0, v_road_stretches_stretchCount, f_road_stretches_kinds, f_road_stretches_others, f_road_stretches_spaces, f_road_stretches_times), rfl, h, hPt hP ht⟩, hS.F ht⟩) hS.2.2 dX9_stretches_58
  have h := h.2 hc
  refine lv_aload_n hx hb dX9_stretches_35 rfl (lv_at hl 2 rfl) ?_
  refine lv_bipush (v := (-4)) hx hb dX9_stretches_36 (by decide) ?_
  refine rw_i (rwV S hE hT hS hP hD hA (c_X9_refuse h) [0, 1] rfl (by decide +kernel) lkX9_59 rfl ⟨(Nat.le_of_ble_eq_true rfl), (Nat.le_of_ble_eq_true rfl)⟩ 0 rfl rfl hl.1 rfl (Nat.le_of_ble_eq_true rfl) dX9_stretches_38 ⟨(Nat.zero_le _), (Nat.zero_le _)⟩) hP hD hS hA [0, 1] rfl (by decide +kernel) (fun _ => rfl) (fun r38 w38_0 H locs h hP hD hS => ?_)
  try dsimp only at h
  have hP : va_P D vwCl (wX9_stretches cI cJ cS a_o a_refused a_road a_road_stretches a_road_stretches_kinds a_road_stretches_others a_road_stretches_spaces a_road_stretches_times a_shelves z_kept z_ahead z_cutting z_acting z_road_cars z_road_tunes z_road_demands sa ea v_imaged v_lastFault w38_0 v_road_drawSeed v_road_stretches_stretchCount f_road_stretches_kinds f_road_stretches_others f_road_stretches_spaces f_road_stretches_times f_sh_held f_sh_sort f_sh_cnt f_sh_num g_sh_el) H := hP
  have hD : va_D A (wX9_stretches cI cJ cS a_o a_refused a_road a_road_stretches a_road_stretches_kinds a_road_stretches_others a_road_stretches_spaces a_road_stretches_times a_shelves z_kept z_ahead z_cutting z_acting z_road_cars z_road_tunes z_road_demands sa ea v_imaged v_lastFault w38_0 v_road_drawSeed v_road_stretches_stretchCount f_road_stretches_kinds f_road_stretches_others f_road_stretches_spaces f_road_stretches_times f_sh_held f_sh_sort f_sh_cnt f_sh_num g_sh_el) := hD
  exact W.iret hx hb hr (fun t ht _ => ⟨⟨_, (w38_0, v_road_stretches_stretchCount, f_road_stretches_kinds, f_road_stretches_others, f_road_stretches_spaces, f_road_stretches_times), rfl, h, hPt hP ht⟩, hS.F ht⟩) hS.2.2 dX9_stretches_41
/-! X9_clearShelvesOfGoneStretches -/
abbrev wX9_clearShelvesOfGoneStretches (cI cJ cS : ClassId) (a_o a_road a_road_stretches a_shelves : Nat) (z_kept z_ahead z_cutting z_acting z_refused z_road_cars z_road_tunes z_road_demands z_road_stretches_kinds z_road_stretches_spaces z_road_stretches_others z_road_stretches_times : Value) (sa ea : Nat → Nat) (v_imaged : Int32) (v_lastFault : Int32) (v_road_drawSeed : Int32) (v_road_stretches_stretchCount : Int32) (f_sh_held : Nat → Int32) (f_sh_sort : Nat → Int32) (f_sh_cnt : Nat → Int32) (f_sh_num : Nat → Int32) (g_sh_el : Nat → Nat → Int64) : va_W := [(a_o, .inr (8, [.ref a_road, z_kept, z_ahead, .ref a_shelves, z_cutting, z_acting, z_refused, .int v_imaged, .int v_lastFault])), (a_road, .inr (4, [.ref a_road_stretches, z_road_cars, z_road_tunes, z_road_demands, .int v_road_drawSeed])), (a_road_stretches, .inr (6, [z_road_stretches_kinds, z_road_stretches_spaces, z_road_stretches_others, z_road_stretches_times, .int v_road_stretches_stretchCount])), (a_shelves, .inl (cS, 8, .inr (.inr (.inr (.inr (fun k => some (sa k)))))))] ++ shW sa ea cJ f_sh_held f_sh_sort f_sh_cnt f_sh_num g_sh_el
def F_X9_clearShelvesOfGoneStretches_46 (k2 : Int32 → (Nat → Int32) → (Nat → Int32) → Prop) (x1 : Int32) (f_sh_held : Nat → Int32) (f_sh_cnt : Nat → Int32) : Prop := (∀ x1_46 : Int32, x1_46 = x1 + 1 → k2 x1_46 f_sh_held f_sh_cnt)
def L_X9_clearShelvesOfGoneStretches_2 (v_road_stretches_stretchCount : Int32) (f_sh_num : Nat → Int32) (post : (Nat → Int32) → (Nat → Int32) → Prop) : Nat → Int32 → (Nat → Int32) → (Nat → Int32) → Prop
  | 0, _, _, _ => False
  | n2 + 1, x1, f_sh_held, f_sh_cnt => ((8 ≤ x1 → post f_sh_held f_sh_cnt) ∧ (¬ 8 ≤ x1 → (F_X9_shelfAt x1 (F_X9_clearShelvesOfGoneStretches_46 (fun x1 f_sh_held f_sh_cnt => L_X9_clearShelvesOfGoneStretches_2 v_road_stretches_stretchCount f_sh_num post n2 x1 f_sh_held f_sh_cnt) x1 f_sh_held f_sh_cnt) (fun j10 => (F_X6_holdsStretch (f_sh_held j10) (fun r19 => ((r19 = 0 → F_X9_clearShelvesOfGoneStretches_46 (fun x1 f_sh_held f_sh_cnt => L_X9_clearShelvesOfGoneStretches_2 v_road_stretches_stretchCount f_sh_num post n2 x1 f_sh_held f_sh_cnt) x1 f_sh_held f_sh_cnt) ∧ (¬ r19 = 0 → (F_X6_stretchHeld (f_sh_held j10) (f_sh_num j10) (fun r33 => (F_X7_has v_road_stretches_stretchCount r33 (fun r36 => ((r36 = 0 → (F_X6_holdNothing (f_sh_held j10) (f_sh_cnt j10) (fun w43_0 w43_1 => F_X9_clearShelvesOfGoneStretches_46 (fun x1 f_sh_held f_sh_cnt => L_X9_clearShelvesOfGoneStretches_2 v_road_stretches_stretchCount f_sh_num post n2 x1 f_sh_held f_sh_cnt) x1 (va_up f_sh_held j10 w43_0) (va_up f_sh_cnt j10 w43_1)))) ∧ (¬ r36 = 0 → F_X9_clearShelvesOfGoneStretches_46 (fun x1 f_sh_held f_sh_cnt => L_X9_clearShelvesOfGoneStretches_2 v_road_stretches_stretchCount f_sh_num post n2 x1 f_sh_held f_sh_cnt) x1 f_sh_held f_sh_cnt))))))))))))))
def F_X9_clearShelvesOfGoneStretches (v_road_stretches_stretchCount : Int32) (f_sh_held : Nat → Int32) (f_sh_cnt : Nat → Int32) (f_sh_num : Nat → Int32) (post : (Nat → Int32) → (Nat → Int32) → Prop) : Prop := (∃ n2 : Nat, L_X9_clearShelvesOfGoneStretches_2 v_road_stretches_stretchCount f_sh_num post n2 0 f_sh_held f_sh_cnt)
set_option maxHeartbeats 4000000 in
set_option maxRecDepth 100000 in
theorem w_X9_clearShelvesOfGoneStretches_46 {l : Launch} {D : va_G} {cI cJ cS : ClassId} {ad adK : Nat → Nat} {a_o a_road a_road_stretches a_shelves : Nat} {z_kept z_ahead z_cutting z_acting z_refused z_road_cars z_road_tunes z_road_demands z_road_stretches_kinds z_road_stretches_spaces z_road_stretches_others z_road_stretches_times : Value} {sa ea : Nat → Nat} {v_imaged : Int32} {v_lastFault : Int32} {v_road_drawSeed : Int32} {v_road_stretches_stretchCount : Int32} {f_sh_held : Nat → Int32} {f_sh_sort : Nat → Int32} {f_sh_cnt : Nat → Int32} {f_sh_num : Nat → Int32} {g_sh_el : Nat → Nat → Int64} {x1 : Int32} {post : (Nat → Int32) → (Nat → Int32) → Prop} {k2 : Int32 → (Nat → Int32) → (Nat → Int32) → Prop} {p : Program} {e : Env} {s : State} {m : MethodId} {args : Array Value} {below : List Frame} {meth : Method} {c : Code} {A : Nat → Prop} (S : CallFix p m c cX9_clearShelvesOfGoneStretches 3 s args GW "RoadThatSings") (hE : EN D cI cJ cS s) (hT : ST ad adK A s s.heap) (hA : ∀ q : Nat, s.heap.size ≤ q → A q) (hr : meth.sig.returnType = none) (hlocks : meth.locks = false) (hk2 : ∀ (x1 : Int32) (f_sh_held : Nat → Int32) (f_sh_cnt : Nat → Int32) (H : Heap) (locs : List Loc) (ls : Array Slot), k2 x1 f_sh_held f_sh_cnt → va_P D vwCl (wX9_clearShelvesOfGoneStretches cI cJ cS a_o a_road a_road_stretches a_shelves z_kept z_ahead z_cutting z_acting z_refused z_road_cars z_road_tunes z_road_demands z_road_stretches_kinds z_road_stretches_spaces z_road_stretches_others z_road_stretches_times sa ea v_imaged v_lastFault v_road_drawSeed v_road_stretches_stretchCount f_sh_held f_sh_sort f_sh_cnt f_sh_num g_sh_el) H → va_D A (wX9_clearShelvesOfGoneStretches cI cJ cS a_o a_road a_road_stretches a_shelves z_kept z_ahead z_cutting z_acting z_refused z_road_cars z_road_tunes z_road_demands z_road_stretches_kinds z_road_stretches_spaces z_road_stretches_others z_road_stretches_times sa ea v_imaged v_lastFault v_road_drawSeed v_road_stretches_stretchCount f_sh_held f_sh_sort f_sh_cnt f_sh_num g_sh_el) → va_S A s.heap H locs → lv_has ls 3 [(0, .ref a_o), (1, .int x1)] → W p l e (rmd 2 0 0) s m args below meth c H locs 0 0 (MQ below (va_Qv (fun u : (Nat → Int32) × (Nat → Int32) => post u.1 u.2) (fun u t => va_P D vwCl (wX9_clearShelvesOfGoneStretches cI cJ cS a_o a_road a_road_stretches a_shelves z_kept z_ahead z_cutting z_acting z_refused z_road_cars z_road_tunes z_road_demands z_road_stretches_kinds z_road_stretches_spaces z_road_stretches_others z_road_stretches_times sa ea v_imaged v_lastFault v_road_drawSeed v_road_stretches_stretchCount u.1 f_sh_sort u.2 f_sh_num g_sh_el) t.heap) A) args s 0 0 A) (F0 m 2 ls [])) : ∀ (H : Heap) (locs : List Loc) (ls : Array Slot), F_X9_clearShelvesOfGoneStretches_46 k2 x1 f_sh_held f_sh_cnt → va_P D vwCl (wX9_clearShelvesOfGoneStretches cI cJ cS a_o a_road a_road_stretches a_shelves z_kept z_ahead z_cutting z_acting z_refused z_road_cars z_road_tunes z_road_demands z_road_stretches_kinds z_road_stretches_spaces z_road_stretches_others z_road_stretches_times sa ea v_imaged v_lastFault v_road_drawSeed v_road_stretches_stretchCount f_sh_held f_sh_sort f_sh_cnt f_sh_num g_sh_el) H → va_D A (wX9_clearShelvesOfGoneStretches cI cJ cS a_o a_road a_road_stretches a_shelves z_kept z_ahead z_cutting z_acting z_refused z_road_cars z_road_tunes z_road_demands z_road_stretches_kinds z_road_stretches_spaces z_road_stretches_others z_road_stretches_times sa ea v_imaged v_lastFault v_road_drawSeed v_road_stretches_stretchCount f_sh_held f_sh_sort f_sh_cnt f_sh_num g_sh_el) → va_S A s.heap H locs → lv_has ls 3 [(0, .ref a_o), (1, .int x1)] → W p l e (rmd 2 0 0) s m args below meth c H locs 0 0 (MQ below (va_Qv (fun u : (Nat → Int32) × (Nat → Int32) => post u.1 u.2) (fun u t => va_P D vwCl (wX9_clearShelvesOfGoneStretches cI cJ cS a_o a_road a_road_stretches a_shelves z_kept z_ahead z_cutting z_acting z_refused z_road_cars z_road_tunes z_road_demands z_road_stretches_kinds z_road_stretches_spaces z_road_stretches_others z_road_stretches_times sa ea v_imaged v_lastFault v_road_drawSeed v_road_stretches_stretchCount u.1 f_sh_sort u.2 f_sh_num g_sh_el) t.heap) A) args s 0 0 A) (F0 m 46 ls []) := by
  intro  H locs ls h hP hD hS hl
  unfold F_X9_clearShelvesOfGoneStretches_46 at h
  have hx := S.1
  have hb := S.2.1
  obtain ⟨x1_46, ex1_46⟩ : ∃ z : Int32, z = x1 + 1 := ⟨_, rfl⟩
  have h := h _ ex1_46
  refine lv_iinc (v := x1_46) (lv' := [(1, .int x1_46), (0, .ref a_o)]) hx hb dX9_clearShelvesOfGoneStretches_46 hl (k := 1) rfl (by rw [ex1_46]; rfl) (by decide) rfl (fun ls hl => ?_)
  refine lv_goto (tgt := 2) hx hb dX9_clearShelvesOfGoneStretches_49 (by decide) ?_
  exact hk2 _ _ _ _ _ _ h hP hD hS (lv_sub hl [1, 0] rfl)
set_option maxHeartbeats 4000000 in
set_option maxRecDepth 100000 in
theorem w_X9_clearShelvesOfGoneStretches_2 {l : Launch} {D : va_G} {cI cJ cS : ClassId} {ad adK : Nat → Nat} {a_o a_road a_road_stretches a_shelves : Nat} {z_kept z_ahead z_cutting z_acting z_refused z_road_cars z_road_tunes z_road_demands z_road_stretches_kinds z_road_stretches_spaces z_road_stretches_others z_road_stretches_times : Value} {sa ea : Nat → Nat} {v_imaged : Int32} {v_lastFault : Int32} {v_road_drawSeed : Int32} {v_road_stretches_stretchCount : Int32} {f_sh_sort : Nat → Int32} {f_sh_num : Nat → Int32} {g_sh_el : Nat → Nat → Int64} {post : (Nat → Int32) → (Nat → Int32) → Prop} {p : Program} {e : Env} {s : State} {m : MethodId} {args : Array Value} {below : List Frame} {meth : Method} {c : Code} {A : Nat → Prop} (S : CallFix p m c cX9_clearShelvesOfGoneStretches 3 s args GW "RoadThatSings") (hE : EN D cI cJ cS s) (hT : ST ad adK A s s.heap) (hA : ∀ q : Nat, s.heap.size ≤ q → A q) (hr : meth.sig.returnType = none) (hlocks : meth.locks = false) : ∀ n : Nat, ∀ (x1 : Int32) (f_sh_held : Nat → Int32) (f_sh_cnt : Nat → Int32) (H : Heap) (locs : List Loc) (ls : Array Slot), L_X9_clearShelvesOfGoneStretches_2 v_road_stretches_stretchCount f_sh_num post n x1 f_sh_held f_sh_cnt → va_P D vwCl (wX9_clearShelvesOfGoneStretches cI cJ cS a_o a_road a_road_stretches a_shelves z_kept z_ahead z_cutting z_acting z_refused z_road_cars z_road_tunes z_road_demands z_road_stretches_kinds z_road_stretches_spaces z_road_stretches_others z_road_stretches_times sa ea v_imaged v_lastFault v_road_drawSeed v_road_stretches_stretchCount f_sh_held f_sh_sort f_sh_cnt f_sh_num g_sh_el) H → va_D A (wX9_clearShelvesOfGoneStretches cI cJ cS a_o a_road a_road_stretches a_shelves z_kept z_ahead z_cutting z_acting z_refused z_road_cars z_road_tunes z_road_demands z_road_stretches_kinds z_road_stretches_spaces z_road_stretches_others z_road_stretches_times sa ea v_imaged v_lastFault v_road_drawSeed v_road_stretches_stretchCount f_sh_held f_sh_sort f_sh_cnt f_sh_num g_sh_el) → va_S A s.heap H locs → lv_has ls 3 [(0, .ref a_o), (1, .int x1)] → W p l e (rmd 2 0 0) s m args below meth c H locs 0 0 (MQ below (va_Qv (fun u : (Nat → Int32) × (Nat → Int32) => post u.1 u.2) (fun u t => va_P D vwCl (wX9_clearShelvesOfGoneStretches cI cJ cS a_o a_road a_road_stretches a_shelves z_kept z_ahead z_cutting z_acting z_refused z_road_cars z_road_tunes z_road_demands z_road_stretches_kinds z_road_stretches_spaces z_road_stretches_others z_road_stretches_times sa ea v_imaged v_lastFault v_road_drawSeed v_road_stretches_stretchCount u.1 f_sh_sort u.2 f_sh_num g_sh_el) t.heap) A) args s 0 0 A) (F0 m 2 ls []) := by
  intro n
  induction n with
  | zero =>
    intro x1 f_sh_held f_sh_cnt H locs ls h hP hD hS hl
    exact h.elim
  | succ n ih =>
    intro x1 f_sh_held f_sh_cnt H locs ls h hP hD hS hl
    rw [L_X9_clearShelvesOfGoneStretches_2] at h
    have hx := S.1
    have hb := S.2.1
    refine lv_iload_n hx hb dX9_clearShelvesOfGoneStretches_2 rfl (lv_at hl 1 rfl) ?_
    refine lv_bipush (v := 8) hx hb dX9_clearShelvesOfGoneStretches_3 (by decide) ?_
    refine lv_icmp_ge (tgt := 52) hx hb dX9_clearShelvesOfGoneStretches_5 (by decide) (fun hc => ?_) (fun hc => ?_)
    · have h := h.1 hc
      exact W.vret hx hb hr (fun t ht _ => ⟨⟨(f_sh_held, f_sh_cnt), rfl, h, hPt hP ht⟩, hS.F ht⟩) hS.2.2 dX9_clearShelvesOfGoneStretches_52
    have h := h.2 hc
    refine lv_aload_n hx hb dX9_clearShelvesOfGoneStretches_8 rfl (lv_at hl 0 rfl) ?_
    refine lv_iload_n hx hb dX9_clearShelvesOfGoneStretches_9 rfl (lv_at hl 1 rfl) ?_
    refine ro_s (roV S hE hT hS (c_X9_shelfAt h) lkX9_55 rfl ⟨(Nat.le_of_ble_eq_true rfl), (Nat.le_of_ble_eq_true rfl)⟩ (hP.sub [0, 3] rfl) 0 rfl rfl hl.1 rfl (Nat.le_of_ble_eq_true rfl) dX9_clearShelvesOfGoneStretches_10 ⟨(Nat.zero_le _), (Nat.zero_le _)⟩) (fun h => ?_) (fun j10 hj10 h => ?_)
    · refine lv_astore_nN (lv' := [(2, .null), (0, .ref a_o), (1, .int x1)]) hx hb dX9_clearShelvesOfGoneStretches_13 rfl hl (by decide) rfl (fun ls hl => ?_)
      refine lv_aload_nN hx hb dX9_clearShelvesOfGoneStretches_14 rfl (lv_at hl 0 rfl) ?_
      refine lv_ifnullN (tgt := 46) hx hb dX9_clearShelvesOfGoneStretches_15 (by decide) ?_
      refine w_X9_clearShelvesOfGoneStretches_46 S hE hT hA hr hlocks ih _ _ _ h hP hD hS (lv_sub hl [1, 2] rfl)
    refine lv_astore_n (lv' := [(2, .ref (sa j10)), (0, .ref a_o), (1, .int x1)]) hx hb dX9_clearShelvesOfGoneStretches_13 rfl hl (by decide) rfl (fun ls hl => ?_)
    refine lv_aload_n hx hb dX9_clearShelvesOfGoneStretches_14 rfl (lv_at hl 0 rfl) ?_
    refine lv_ifnull hx hb dX9_clearShelvesOfGoneStretches_15 ?_
    refine lv_aload_n hx hb dX9_clearShelvesOfGoneStretches_18 rfl (lv_at hl 0 rfl) ?_
    refine ro_i (roV S hE hT hS (c_X6_holdsStretch h) lkX9_83 rfl ⟨(Nat.le_of_ble_eq_true rfl), (Nat.le_of_ble_eq_true rfl)⟩ (vPc hP (shS rfl hj10) vPn) 0 rfl rfl hl.1 rfl (Nat.le_of_ble_eq_true rfl) dX9_clearShelvesOfGoneStretches_19 ⟨(Nat.zero_le _), (Nat.zero_le _)⟩) (fun r19 h => ?_)
    refine lv_if_eq (tgt := 46) hx hb dX9_clearShelvesOfGoneStretches_22 (by decide) (fun hc => ?_) (fun hc => ?_)
    · have h := h.1 hc
      refine w_X9_clearShelvesOfGoneStretches_46 S hE hT hA hr hlocks ih _ _ _ h hP hD hS (lv_sub hl [1, 2] rfl)
    have h := h.2 hc
    refine lv_aload_n hx hb dX9_clearShelvesOfGoneStretches_25 rfl (lv_at hl 1 rfl) ?_
    refine gf S hE hP 0 rfl rfl inX9 (k := 0) (by decide) q181 rfl dX9_clearShelvesOfGoneStretches_26 ?_
    refine gfN S hE hP 1 rfl rfl inX5 (k := 0) (by decide) nfX9_106 rfl dX9_clearShelvesOfGoneStretches_29 ?_
    refine lv_aload_n hx hb dX9_clearShelvesOfGoneStretches_32 rfl (lv_at hl 0 rfl) ?_
    refine ro_i (roV S hE hT hS (c_X6_stretchHeld h) lkX9_126 rfl ⟨(Nat.le_of_ble_eq_true rfl), (Nat.le_of_ble_eq_true rfl)⟩ (vPc hP (shS rfl hj10) vPn) 0 rfl rfl hl.1 rfl (Nat.le_of_ble_eq_true rfl) dX9_clearShelvesOfGoneStretches_33 ⟨(Nat.zero_le _), (Nat.zero_le _)⟩) (fun r33 h => ?_)
    refine ro_i (roV S hE hT hS (c_X7_has h) lkX9_110 rfl ⟨(Nat.le_of_ble_eq_true rfl), (Nat.le_of_ble_eq_true rfl)⟩ (hP.sub [2] rfl) 0 rfl rfl hl.1 rfl (Nat.le_of_ble_eq_true rfl) dX9_clearShelvesOfGoneStretches_36 ⟨(Nat.zero_le _), (Nat.zero_le _)⟩) (fun r36 h => ?_)
    refine lv_if_ne (tgt := 46) hx hb dX9_clearShelvesOfGoneStretches_39 (by decide) (fun hc => ?_) (fun hc => ?_)
    · have h := h.2 hc
      refine w_X9_clearShelvesOfGoneStretches_46 S hE hT hA hr hlocks ih _ _ _ h hP hD hS (lv_sub hl [1, 2] rfl)
    have h := h.1 hc
    refine lv_aload_n hx hb dX9_clearShelvesOfGoneStretches_42 rfl (lv_at hl 0 rfl) ?_
    refine rw_v (rwV S hE hT hS hP hD hA (c_X6_holdNothing h) [(4 + 2 * j10)] (mCc (shS rfl hj10) mCn) (by simp [va_nd]; try omega) lkX9_115 rfl ⟨(Nat.le_of_ble_eq_true rfl), (Nat.le_of_ble_eq_true rfl)⟩ _ (shS rfl hj10) rfl hl.1 rfl (Nat.le_of_ble_eq_true rfl) dX9_clearShelvesOfGoneStretches_43 ⟨(Nat.zero_le _), (Nat.zero_le _)⟩) hP hD hS hA [(4 + 2 * j10)] (mCc (shS rfl hj10) mCn) (by simp [va_nd]; try omega) (fun _ => rfl) (fun u43 H locs h hP hD hS => ?_)
    obtain ⟨w43_0, w43_1⟩ := u43
    try dsimp only at h
    have hP : va_P D vwCl (wX9_clearShelvesOfGoneStretches cI cJ cS a_o a_road a_road_stretches a_shelves z_kept z_ahead z_cutting z_acting z_refused z_road_cars z_road_tunes z_road_demands z_road_stretches_kinds z_road_stretches_spaces z_road_stretches_others z_road_stretches_times sa ea v_imaged v_lastFault v_road_drawSeed v_road_stretches_stretchCount (va_up f_sh_held j10 w43_0) f_sh_sort (va_up f_sh_cnt j10 w43_1) f_sh_num g_sh_el) H := by (rcases lt8 hj10 with rfl | rfl | rfl | rfl | rfl | rfl | rfl | rfl) <;> exact hP
    have hD : va_D A (wX9_clearShelvesOfGoneStretches cI cJ cS a_o a_road a_road_stretches a_shelves z_kept z_ahead z_cutting z_acting z_refused z_road_cars z_road_tunes z_road_demands z_road_stretches_kinds z_road_stretches_spaces z_road_stretches_others z_road_stretches_times sa ea v_imaged v_lastFault v_road_drawSeed v_road_stretches_stretchCount (va_up f_sh_held j10 w43_0) f_sh_sort (va_up f_sh_cnt j10 w43_1) f_sh_num g_sh_el) := by (rcases lt8 hj10 with rfl | rfl | rfl | rfl | rfl | rfl | rfl | rfl) <;> exact hD
    refine w_X9_clearShelvesOfGoneStretches_46 S hE hT hA hr hlocks ih _ _ _ h hP hD hS (lv_sub hl [1, 2] rfl)
set_option maxHeartbeats 4000000 in
set_option maxRecDepth 100000 in
theorem c_X9_clearShelvesOfGoneStretches {l : Launch} {D : va_G} {cI cJ cS : ClassId} {ad adK : Nat → Nat} {a_o a_road a_road_stretches a_shelves : Nat} {z_kept z_ahead z_cutting z_acting z_refused z_road_cars z_road_tunes z_road_demands z_road_stretches_kinds z_road_stretches_spaces z_road_stretches_others z_road_stretches_times : Value} {sa ea : Nat → Nat} {v_imaged : Int32} {v_lastFault : Int32} {v_road_drawSeed : Int32} {v_road_stretches_stretchCount : Int32} {f_sh_held : Nat → Int32} {f_sh_sort : Nat → Int32} {f_sh_cnt : Nat → Int32} {f_sh_num : Nat → Int32} {g_sh_el : Nat → Nat → Int64} {post : (Nat → Int32) → (Nat → Int32) → Prop} (h : F_X9_clearShelvesOfGoneStretches v_road_stretches_stretchCount f_sh_held f_sh_cnt f_sh_num post) {sz : Nat} : Met l yX9_clearShelvesOfGoneStretches (Cond.code yX9_clearShelvesOfGoneStretches cX9_clearShelvesOfGoneStretches 3 none :: GW) (rmd 2 0 0) (PW D cI cJ cS ad adK [.ref a_o] (wX9_clearShelvesOfGoneStretches cI cJ cS a_o a_road a_road_stretches a_shelves z_kept z_ahead z_cutting z_acting z_refused z_road_cars z_road_tunes z_road_demands z_road_stretches_kinds z_road_stretches_spaces z_road_stretches_others z_road_stretches_times sa ea v_imaged v_lastFault v_road_drawSeed v_road_stretches_stretchCount f_sh_held f_sh_sort f_sh_cnt f_sh_num g_sh_el) sz) (va_Qv (fun u : (Nat → Int32) × (Nat → Int32) => post u.1 u.2) (fun u t => va_P D vwCl (wX9_clearShelvesOfGoneStretches cI cJ cS a_o a_road a_road_stretches a_shelves z_kept z_ahead z_cutting z_acting z_refused z_road_cars z_road_tunes z_road_demands z_road_stretches_kinds z_road_stretches_spaces z_road_stretches_others z_road_stretches_times sa ea v_imaged v_lastFault v_road_drawSeed v_road_stretches_stretchCount u.1 f_sh_sort u.2 f_sh_num g_sh_el) t.heap) (va_A (wX9_clearShelvesOfGoneStretches cI cJ cS a_o a_road a_road_stretches a_shelves z_kept z_ahead z_cutting z_acting z_refused z_road_cars z_road_tunes z_road_demands z_road_stretches_kinds z_road_stretches_spaces z_road_stretches_others z_road_stretches_times sa ea v_imaged v_lastFault v_road_drawSeed v_road_stretches_stretchCount f_sh_held f_sh_sort f_sh_cnt f_sh_num g_sh_el) sz)) 0 0 (va_A (wX9_clearShelvesOfGoneStretches cI cJ cS a_o a_road a_road_stretches a_shelves z_kept z_ahead z_cutting z_acting z_refused z_road_cars z_road_tunes z_road_demands z_road_stretches_kinds z_road_stretches_spaces z_road_stretches_others z_road_stretches_times sa ea v_imaged v_lastFault v_road_drawSeed v_road_stretches_stretchCount f_sh_held f_sh_sort f_sh_cnt f_sh_num g_sh_el) sz) := by
  refine Met.rw (Qc := fun A => (va_Qv (fun u : (Nat → Int32) × (Nat → Int32) => post u.1 u.2) (fun u t => va_P D vwCl (wX9_clearShelvesOfGoneStretches cI cJ cS a_o a_road a_road_stretches a_shelves z_kept z_ahead z_cutting z_acting z_refused z_road_cars z_road_tunes z_road_demands z_road_stretches_kinds z_road_stretches_spaces z_road_stretches_others z_road_stretches_times sa ea v_imaged v_lastFault v_road_drawSeed v_road_stretches_stretchCount u.1 f_sh_sort u.2 f_sh_num g_sh_el) t.heap) A)) (by decide) (Nat.le_of_ble_eq_true rfl) (fun p e s m args below meth c ls A (S : CallFix p m c cX9_clearShelvesOfGoneStretches 3 s args GW "RoadThatSings") hE hT hP hD hA hS hr hlocks hname hl => ?_)
  have hS0 := hS
  have hx := S.1
  have hb := S.2.1
  have hl : lv_has ls 3 [(0, .ref a_o)] := hl
  unfold F_X9_clearShelvesOfGoneStretches at h
  refine lv_iconst (v := 0) hx hb dX9_clearShelvesOfGoneStretches_0 (by decide) ?_
  refine lv_istore_n (lv' := [(1, .int 0), (0, .ref a_o)]) hx hb dX9_clearShelvesOfGoneStretches_1 rfl hl (by decide) rfl (fun ls hl => ?_)
  obtain ⟨n, h⟩ := h
  refine w_X9_clearShelvesOfGoneStretches_2 S hE hT hA hr hlocks n _ _ _ _ _ _ h hP hD hS (lv_sub hl [1, 0] rfl)
/-! X9_till -/
abbrev wX9_till (cI cJ cS : ClassId) (a_o a_refused a_road a_road_stretches a_shelves : Nat) (z_kept z_ahead z_cutting z_acting z_road_cars z_road_tunes z_road_demands z_road_stretches_kinds z_road_stretches_spaces z_road_stretches_others z_road_stretches_times : Value) (sa ea : Nat → Nat) (v_imaged : Int32) (v_lastFault : Int32) (f_refused : Nat → Int32) (v_road_drawSeed : Int32) (v_road_stretches_stretchCount : Int32) (f_sh_held : Nat → Int32) (f_sh_sort : Nat → Int32) (f_sh_cnt : Nat → Int32) (f_sh_num : Nat → Int32) (g_sh_el : Nat → Nat → Int64) : va_W := [(a_o, .inr (8, [.ref a_road, z_kept, z_ahead, .ref a_shelves, z_cutting, z_acting, .ref a_refused, .int v_imaged, .int v_lastFault])), (a_refused, .inl (cI, 8, .inl f_refused)), (a_road, .inr (4, [.ref a_road_stretches, z_road_cars, z_road_tunes, z_road_demands, .int v_road_drawSeed])), (a_road_stretches, .inr (6, [z_road_stretches_kinds, z_road_stretches_spaces, z_road_stretches_others, z_road_stretches_times, .int v_road_stretches_stretchCount])), (a_shelves, .inl (cS, 8, .inr (.inr (.inr (.inr (fun k => some (sa k)))))))] ++ shW sa ea cJ f_sh_held f_sh_sort f_sh_cnt f_sh_num g_sh_el
def F_X9_till (f_refused : Nat → Int32) (v_road_stretches_stretchCount : Int32) (f_sh_held : Nat → Int32) (f_sh_sort : Nat → Int32) (f_sh_cnt : Nat → Int32) (f_sh_num : Nat → Int32) (g_sh_el : Nat → Nat → Int64) (x1 : Int32) (post : Int32 → (Nat → Int32) → Int32 → (Nat → Int32) → (Nat → Int32) → Prop) : Prop := (F_X7_count v_road_stretches_stretchCount (fun r9 => (F_X9_within x1 0 r9 (fun r12 => ((r12 = 0 → (F_X9_refuse f_refused (-6) (fun r21 w21_0 => post r21 w21_0 v_road_stretches_stretchCount f_sh_held f_sh_cnt))) ∧ (¬ r12 = 0 → (F_X7_leave v_road_stretches_stretchCount x1 (fun w33_0 => (F_X9_clearShelvesOfGoneStretches w33_0 f_sh_held f_sh_cnt f_sh_num (fun w37_0 w37_1 => post x1 f_refused w33_0 w37_0 w37_1))))))))))
set_option maxHeartbeats 4000000 in
set_option maxRecDepth 100000 in
theorem c_X9_till {l : Launch} {D : va_G} {cI cJ cS : ClassId} {ad adK : Nat → Nat} {a_o a_refused a_road a_road_stretches a_shelves : Nat} {z_kept z_ahead z_cutting z_acting z_road_cars z_road_tunes z_road_demands z_road_stretches_kinds z_road_stretches_spaces z_road_stretches_others z_road_stretches_times : Value} {sa ea : Nat → Nat} {v_imaged : Int32} {v_lastFault : Int32} {f_refused : Nat → Int32} {v_road_drawSeed : Int32} {v_road_stretches_stretchCount : Int32} {f_sh_held : Nat → Int32} {f_sh_sort : Nat → Int32} {f_sh_cnt : Nat → Int32} {f_sh_num : Nat → Int32} {g_sh_el : Nat → Nat → Int64} {x1 : Int32} {post : Int32 → (Nat → Int32) → Int32 → (Nat → Int32) → (Nat → Int32) → Prop} (h : F_X9_till f_refused v_road_stretches_stretchCount f_sh_held f_sh_sort f_sh_cnt f_sh_num g_sh_el x1 post) {sz : Nat} : Met l yX9_till (Cond.code yX9_till cX9_till 2 (some (.int)) :: GW) (rmd 3 0 0) (PW D cI cJ cS ad adK [.ref a_o, .int x1] (wX9_till cI cJ cS a_o a_refused a_road a_road_stretches a_shelves z_kept z_ahead z_cutting z_acting z_road_cars z_road_tunes z_road_demands z_road_stretches_kinds z_road_stretches_spaces z_road_stretches_others z_road_stretches_times sa ea v_imaged v_lastFault f_refused v_road_drawSeed v_road_stretches_stretchCount f_sh_held f_sh_sort f_sh_cnt f_sh_num g_sh_el) sz) (va_Qi (fun r (u : (Nat → Int32) × Int32 × (Nat → Int32) × (Nat → Int32)) => post r u.1 u.2.1 u.2.2.1 u.2.2.2) (fun u t => va_P D vwCl (wX9_till cI cJ cS a_o a_refused a_road a_road_stretches a_shelves z_kept z_ahead z_cutting z_acting z_road_cars z_road_tunes z_road_demands z_road_stretches_kinds z_road_stretches_spaces z_road_stretches_others z_road_stretches_times sa ea v_imaged v_lastFault u.1 v_road_drawSeed u.2.1 u.2.2.1 f_sh_sort u.2.2.2 f_sh_num g_sh_el) t.heap) (va_A (wX9_till cI cJ cS a_o a_refused a_road a_road_stretches a_shelves z_kept z_ahead z_cutting z_acting z_road_cars z_road_tunes z_road_demands z_road_stretches_kinds z_road_stretches_spaces z_road_stretches_others z_road_stretches_times sa ea v_imaged v_lastFault f_refused v_road_drawSeed v_road_stretches_stretchCount f_sh_held f_sh_sort f_sh_cnt f_sh_num g_sh_el) sz)) 0 0 (va_A (wX9_till cI cJ cS a_o a_refused a_road a_road_stretches a_shelves z_kept z_ahead z_cutting z_acting z_road_cars z_road_tunes z_road_demands z_road_stretches_kinds z_road_stretches_spaces z_road_stretches_others z_road_stretches_times sa ea v_imaged v_lastFault f_refused v_road_drawSeed v_road_stretches_stretchCount f_sh_held f_sh_sort f_sh_cnt f_sh_num g_sh_el) sz) := by
  refine Met.rw (Qc := fun A => (va_Qi (fun r (u : (Nat → Int32) × Int32 × (Nat → Int32) × (Nat → Int32)) => post r u.1 u.2.1 u.2.2.1 u.2.2.2) (fun u t => va_P D vwCl (wX9_till cI cJ cS a_o a_refused a_road a_road_stretches a_shelves z_kept z_ahead z_cutting z_acting z_road_cars z_road_tunes z_road_demands z_road_stretches_kinds z_road_stretches_spaces z_road_stretches_others z_road_stretches_times sa ea v_imaged v_lastFault u.1 v_road_drawSeed u.2.1 u.2.2.1 f_sh_sort u.2.2.2 f_sh_num g_sh_el) t.heap) A)) (by decide) (Nat.le_of_ble_eq_true rfl) (fun p e s m args below meth c ls A (S : CallFix p m c cX9_till 2 s args GW "RoadThatSings") hE hT hP hD hA hS hr hlocks hname hl => ?_)
  have hS0 := hS
  have hx := S.1
  have hb := S.2.1
  have hl : lv_has ls 2 [(0, .ref a_o), (1, .int x1)] := hl
  unfold F_X9_till at h
  refine lv_iload_n hx hb dX9_till_0 rfl (lv_at hl 1 rfl) ?_
  refine lv_iconst (v := 0) hx hb dX9_till_1 (by decide) ?_
  refine lv_aload_n hx hb dX9_till_2 rfl (lv_at hl 0 rfl) ?_
  refine gf S hE hP 0 rfl rfl inX9 (k := 0) (by decide) q181 rfl dX9_till_3 ?_
  refine gfN S hE hP 2 rfl rfl inX5 (k := 0) (by decide) nfX9_106 rfl dX9_till_6 ?_
  refine ro_i (roV S hE hT hS (c_X7_count h) lkX9_156 rfl ⟨(Nat.le_of_ble_eq_true rfl), (Nat.le_of_ble_eq_true rfl)⟩ (hP.sub [3] rfl) 0 rfl rfl hl.1 rfl (Nat.le_of_ble_eq_true rfl) dX9_till_9 ⟨(Nat.zero_le _), (Nat.zero_le _)⟩) (fun r9 h => ?_)
  refine ro_i (roS S hE hT hS (c_X9_within h) lkX9_63 rfl ⟨(Nat.le_of_ble_eq_true rfl), (Nat.le_of_ble_eq_true rfl)⟩ (hP.sub [] rfl) hl.1 rfl (Nat.le_of_ble_eq_true rfl) dX9_till_12 ⟨(Nat.zero_le _), (Nat.zero_le _)⟩) (fun r12 h => ?_)
  refine lv_if_ne (tgt := 25) hx hb dX9_till_15 (by decide) (fun hc => ?_) (fun hc => ?_)
  · have h := h.2 hc
    refine lv_aload_n hx hb dX9_till_25 rfl (lv_at hl 0 rfl) ?_
    refine gf S hE hP 0 rfl rfl inX9 (k := 0) (by decide) q181 rfl dX9_till_26 ?_
    refine gfN S hE hP 2 rfl rfl inX5 (k := 0) (by decide) nfX9_106 rfl dX9_till_29 ?_
    refine lv_iload_n hx hb dX9_till_32 rfl (lv_at hl 1 rfl) ?_
    refine rw_v (rwV S hE hT hS hP hD hA (c_X7_leave h) [3] rfl (by decide +kernel) lkX9_159 rfl ⟨(Nat.le_of_ble_eq_true rfl), (Nat.le_of_ble_eq_true rfl)⟩ 3 rfl rfl hl.1 rfl (Nat.le_of_ble_eq_true rfl) dX9_till_33 ⟨(Nat.zero_le _), (Nat.zero_le _)⟩) hP hD hS hA [3] rfl (by decide +kernel) (fun _ => rfl) (fun w33_0 H locs h hP hD hS => ?_)
    try dsimp only at h
    have hP : va_P D vwCl (wX9_till cI cJ cS a_o a_refused a_road a_road_stretches a_shelves z_kept z_ahead z_cutting z_acting z_road_cars z_road_tunes z_road_demands z_road_stretches_kinds z_road_stretches_spaces z_road_stretches_others z_road_stretches_times sa ea v_imaged v_lastFault f_refused v_road_drawSeed w33_0 f_sh_held f_sh_sort f_sh_cnt f_sh_num g_sh_el) H := hP
    have hD : va_D A (wX9_till cI cJ cS a_o a_refused a_road a_road_stretches a_shelves z_kept z_ahead z_cutting z_acting z_road_cars z_road_tunes z_road_demands z_road_stretches_kinds z_road_stretches_spaces z_road_stretches_others z_road_stretches_times sa ea v_imaged v_lastFault f_refused v_road_drawSeed w33_0 f_sh_held f_sh_sort f_sh_cnt f_sh_num g_sh_el) := hD
    refine lv_aload_n hx hb dX9_till_36 rfl (lv_at hl 0 rfl) ?_
    refine rw_v (rwV S hE hT hS hP hD hA (c_X9_clearShelvesOfGoneStretches (sa := sa) (ea := ea) (f_sh_held := f_sh_held) (f_sh_sort := f_sh_sort) (f_sh_cnt := f_sh_cnt) (f_sh_num := f_sh_num) (g_sh_el := g_sh_el) h) ([0, 2, 3, 4] ++ List.range' 5 16) (mCsh rfl rfl) (by decide +kernel) lkX9_162 rfl ⟨(Nat.le_of_ble_eq_true rfl), (Nat.le_of_ble_eq_true rfl)⟩ 0 rfl rfl hl.1 rfl (Nat.le_of_ble_eq_true rfl) dX9_till_37 ⟨(Nat.zero_le _), (Nat.zero_le _)⟩) hP hD hS hA ([0, 2, 3, 4] ++ List.range' 5 16) (mCsh rfl rfl) (by decide +kernel) (fun _ => rfl) (fun u37 H locs h hP hD hS => ?_)
    obtain ⟨w37_0, w37_1⟩ := u37
    try dsimp only at h
    have hP : va_P D vwCl (wX9_till cI cJ cS a_o a_refused a_road a_road_stretches a_shelves z_kept z_ahead z_cutting z_acting z_road_cars z_road_tunes z_road_demands z_road_stretches_kinds z_road_stretches_spaces z_road_stretches_others z_road_stretches_times sa ea v_imaged v_lastFault f_refused v_road_drawSeed w33_0 w37_0 f_sh_sort w37_1 f_sh_num g_sh_el) H := shallP (k := 5) rfl (by decide) rfl rfl hP
    have hD : va_D A (wX9_till cI cJ cS a_o a_refused a_road a_road_stretches a_shelves z_kept z_ahead z_cutting z_acting z_road_cars z_road_tunes z_road_demands z_road_stretches_kinds z_road_stretches_spaces z_road_stretches_others z_road_stretches_times sa ea v_imaged v_lastFault f_refused v_road_drawSeed w33_0 w37_0 f_sh_sort w37_1 f_sh_num g_sh_el) := shallD (k := 5) rfl (by decide) rfl rfl hD
    refine lv_iload_n hx hb dX9_till_40 rfl (lv_at hl 1 rfl) ?_
    exact W.iret hx hb hr (fun t ht _ => ⟨⟨_, (f_refused, w33_0, w37_0, w37_1), rfl, h, hPt hP ht⟩, hS.F ht⟩) hS.2.2 dX9_till_41
  have h := h.1 hc
  refine lv_aload_n hx hb dX9_till_18 rfl (lv_at hl 0 rfl) ?_
  refine lv_bipush (v := (-6)) hx hb dX9_till_19 (by decide) ?_
  refine rw_i (rwV S hE hT hS hP hD hA (c_X9_refuse h) [0, 1] rfl (by decide +kernel) lkX9_59 rfl ⟨(Nat.le_of_ble_eq_true rfl), (Nat.le_of_ble_eq_true rfl)⟩ 0 rfl rfl hl.1 rfl (Nat.le_of_ble_eq_true rfl) dX9_till_21 ⟨(Nat.zero_le _), (Nat.zero_le _)⟩) hP hD hS hA [0, 1] rfl (by decide +kernel) (fun _ => rfl) (fun r21 w21_0 H locs h hP hD hS => ?_)
  try dsimp only at h
  have hP : va_P D vwCl (wX9_till cI cJ cS a_o a_refused a_road a_road_stretches a_shelves z_kept z_ahead z_cutting z_acting z_road_cars z_road_tunes z_road_demands z_road_stretches_kinds z_road_stretches_spaces z_road_stretches_others z_road_stretches_times sa ea v_imaged v_lastFault w21_0 v_road_drawSeed v_road_stretches_stretchCount f_sh_held f_sh_sort f_sh_cnt f_sh_num g_sh_el) H := hP
  have hD : va_D A (wX9_till cI cJ cS a_o a_refused a_road a_road_stretches a_shelves z_kept z_ahead z_cutting z_acting z_road_cars z_road_tunes z_road_demands z_road_stretches_kinds z_road_stretches_spaces z_road_stretches_others z_road_stretches_times sa ea v_imaged v_lastFault w21_0 v_road_drawSeed v_road_stretches_stretchCount f_sh_held f_sh_sort f_sh_cnt f_sh_num g_sh_el) := hD
  exact W.iret hx hb hr (fun t ht _ => ⟨⟨_, (w21_0, v_road_stretches_stretchCount, f_sh_held, f_sh_cnt), rfl, h, hPt hP ht⟩, hS.F ht⟩) hS.2.2 dX9_till_24
/-! X9_stretchOf -/
abbrev wX9_stretchOf (cI cJ cS : ClassId) (a_o a_refused a_road a_road_stretches a_road_stretches_kinds a_road_stretches_others a_road_stretches_spaces a_road_stretches_times : Nat) (z_kept z_ahead z_shelves z_cutting z_acting z_road_cars z_road_tunes z_road_demands : Value) (v_imaged : Int32) (v_lastFault : Int32) (f_refused : Nat → Int32) (v_road_drawSeed : Int32) (v_road_stretches_stretchCount : Int32) (f_road_stretches_kinds : Nat → Int32) (f_road_stretches_others : Nat → Int32) (f_road_stretches_spaces : Nat → Int32) (f_road_stretches_times : Nat → Int32) : va_W := [(a_o, .inr (8, [.ref a_road, z_kept, z_ahead, z_shelves, z_cutting, z_acting, .ref a_refused, .int v_imaged, .int v_lastFault])), (a_refused, .inl (cI, 8, .inl f_refused)), (a_road, .inr (4, [.ref a_road_stretches, z_road_cars, z_road_tunes, z_road_demands, .int v_road_drawSeed])), (a_road_stretches, .inr (6, [.ref a_road_stretches_kinds, .ref a_road_stretches_spaces, .ref a_road_stretches_others, .ref a_road_stretches_times, .int v_road_stretches_stretchCount])), (a_road_stretches_kinds, .inl (cI, 16, .inl f_road_stretches_kinds)), (a_road_stretches_others, .inl (cI, 16, .inl f_road_stretches_others)), (a_road_stretches_spaces, .inl (cI, 16, .inl f_road_stretches_spaces)), (a_road_stretches_times, .inl (cI, 16, .inl f_road_stretches_times))]
def F_X9_stretchOf (f_refused : Nat → Int32) (v_road_stretches_stretchCount : Int32) (f_road_stretches_kinds : Nat → Int32) (f_road_stretches_others : Nat → Int32) (f_road_stretches_spaces : Nat → Int32) (f_road_stretches_times : Nat → Int32) (x1 : Int32) (x2 : Int32) (post : Int32 → (Nat → Int32) → Prop) : Prop := (F_X7_has v_road_stretches_stretchCount x1 (fun r10 => ((r10 = 0 → (F_X9_refuse f_refused (-5) (fun r19 w19_0 => post r19 w19_0))) ∧ (¬ r10 = 0 → ((x2 = 0 → (F_X7_kindOf v_road_stretches_stretchCount f_road_stretches_kinds x1 (fun r62 => post r62 f_refused))) ∧ (¬ x2 = 0 → ((x2 = 1 → (F_X7_spaceOf v_road_stretches_stretchCount f_road_stretches_spaces x1 (fun r68 => post r68 f_refused))) ∧ (¬ x2 = 1 → ((x2 = 2 → (F_X7_otherOf v_road_stretches_stretchCount f_road_stretches_others x1 (fun r74 => post r74 f_refused))) ∧ (¬ x2 = 2 → ((x2 = 3 → (F_X7_timesOf v_road_stretches_stretchCount f_road_stretches_times x1 (fun r80 => post r80 f_refused))) ∧ (¬ x2 = 3 → ((x2 = 4 → (F_X7_lengthOf v_road_stretches_stretchCount f_road_stretches_kinds f_road_stretches_others f_road_stretches_spaces f_road_stretches_times x1 (fun r86 => post r86 f_refused))) ∧ (¬ x2 = 4 → (F_X9_refuse f_refused (-5) (fun r93 w93_0 => post r93 w93_0))))))))))))))))
set_option maxHeartbeats 4000000 in
set_option maxRecDepth 100000 in
theorem c_X9_stretchOf {l : Launch} {D : va_G} {cI cJ cS : ClassId} {ad adK : Nat → Nat} {a_o a_refused a_road a_road_stretches a_road_stretches_kinds a_road_stretches_others a_road_stretches_spaces a_road_stretches_times : Nat} {z_kept z_ahead z_shelves z_cutting z_acting z_road_cars z_road_tunes z_road_demands : Value} {v_imaged : Int32} {v_lastFault : Int32} {f_refused : Nat → Int32} {v_road_drawSeed : Int32} {v_road_stretches_stretchCount : Int32} {f_road_stretches_kinds : Nat → Int32} {f_road_stretches_others : Nat → Int32} {f_road_stretches_spaces : Nat → Int32} {f_road_stretches_times : Nat → Int32} {x1 : Int32} {x2 : Int32} {post : Int32 → (Nat → Int32) → Prop} (h : F_X9_stretchOf f_refused v_road_stretches_stretchCount f_road_stretches_kinds f_road_stretches_others f_road_stretches_spaces f_road_stretches_times x1 x2 post) {sz : Nat} : Met l yX9_stretchOf (Cond.code yX9_stretchOf cX9_stretchOf 4 (some (.int)) :: GW) (rmd 3 0 0) (PW D cI cJ cS ad adK [.ref a_o, .int x1, .int x2] (wX9_stretchOf cI cJ cS a_o a_refused a_road a_road_stretches a_road_stretches_kinds a_road_stretches_others a_road_stretches_spaces a_road_stretches_times z_kept z_ahead z_shelves z_cutting z_acting z_road_cars z_road_tunes z_road_demands v_imaged v_lastFault f_refused v_road_drawSeed v_road_stretches_stretchCount f_road_stretches_kinds f_road_stretches_others f_road_stretches_spaces f_road_stretches_times) sz) (va_Qi (fun r (u : (Nat → Int32)) => post r u) (fun u t => va_P D vwCl (wX9_stretchOf cI cJ cS a_o a_refused a_road a_road_stretches a_road_stretches_kinds a_road_stretches_others a_road_stretches_spaces a_road_stretches_times z_kept z_ahead z_shelves z_cutting z_acting z_road_cars z_road_tunes z_road_demands v_imaged v_lastFault u v_road_drawSeed v_road_stretches_stretchCount f_road_stretches_kinds f_road_stretches_others f_road_stretches_spaces f_road_stretches_times) t.heap) (va_A (wX9_stretchOf cI cJ cS a_o a_refused a_road a_road_stretches a_road_stretches_kinds a_road_stretches_others a_road_stretches_spaces a_road_stretches_times z_kept z_ahead z_shelves z_cutting z_acting z_road_cars z_road_tunes z_road_demands v_imaged v_lastFault f_refused v_road_drawSeed v_road_stretches_stretchCount f_road_stretches_kinds f_road_stretches_others f_road_stretches_spaces f_road_stretches_times) sz)) 0 0 (va_A (wX9_stretchOf cI cJ cS a_o a_refused a_road a_road_stretches a_road_stretches_kinds a_road_stretches_others a_road_stretches_spaces a_road_stretches_times z_kept z_ahead z_shelves z_cutting z_acting z_road_cars z_road_tunes z_road_demands v_imaged v_lastFault f_refused v_road_drawSeed v_road_stretches_stretchCount f_road_stretches_kinds f_road_stretches_others f_road_stretches_spaces f_road_stretches_times) sz) := by
  refine Met.rw (Qc := fun A => (va_Qi (fun r (u : (Nat → Int32)) => post r u) (fun u t => va_P D vwCl (wX9_stretchOf cI cJ cS a_o a_refused a_road a_road_stretches a_road_stretches_kinds a_road_stretches_others a_road_stretches_spaces a_road_stretches_times z_kept z_ahead z_shelves z_cutting z_acting z_road_cars z_road_tunes z_road_demands v_imaged v_lastFault u v_road_drawSeed v_road_stretches_stretchCount f_road_stretches_kinds f_road_stretches_others f_road_stretches_spaces f_road_stretches_times) t.heap) A)) (by decide) (Nat.le_of_ble_eq_true rfl) (fun p e s m args below meth c ls A (S : CallFix p m c cX9_stretchOf 4 s args GW "RoadThatSings") hE hT hP hD hA hS hr hlocks hname hl => ?_)
  have hS0 := hS
  have hx := S.1
  have hb := S.2.1
  have hl : lv_has ls 4 [(0, .ref a_o), (1, .int x1), (2, .int x2)] := hl
  unfold F_X9_stretchOf at h
  refine lv_aload_n hx hb dX9_stretchOf_0 rfl (lv_at hl 0 rfl) ?_
  refine gf S hE hP 0 rfl rfl inX9 (k := 0) (by decide) q181 rfl dX9_stretchOf_1 ?_
  refine gfN S hE hP 2 rfl rfl inX5 (k := 0) (by decide) nfX9_106 rfl dX9_stretchOf_4 ?_
  refine lv_astore_n (lv' := [(3, .ref a_road_stretches), (0, .ref a_o), (1, .int x1), (2, .int x2)]) hx hb dX9_stretchOf_7 rfl hl (by decide) rfl (fun ls hl => ?_)
  refine lv_aload_n hx hb dX9_stretchOf_8 rfl (lv_at hl 0 rfl) ?_
  refine lv_iload_n hx hb dX9_stretchOf_9 rfl (lv_at hl 2 rfl) ?_
  refine ro_i (roV S hE hT hS (c_X7_has h) lkX9_110 rfl ⟨(Nat.le_of_ble_eq_true rfl), (Nat.le_of_ble_eq_true rfl)⟩ (hP.sub [3] rfl) 0 rfl rfl hl.1 rfl (Nat.le_of_ble_eq_true rfl) dX9_stretchOf_10 ⟨(Nat.zero_le _), (Nat.zero_le _)⟩) (fun r10 h => ?_)
  refine lv_if_ne (tgt := 23) hx hb dX9_stretchOf_13 (by decide) (fun hc => ?_) (fun hc => ?_)
  · have h := h.2 hc
    refine lv_iload_n hx hb dX9_stretchOf_23 rfl (lv_at hl 3 rfl) ?_
    by_cases hk0 : x2 = 0
    · have h := h.1 hk0
      refine lv_tableIn (off := 36) (tgt := 60) hx hb dX9_stretchOf_24 (by rw [hk0]; decide) (by rw [hk0]; decide) (by rw [hk0]; rfl) (by decide) ?_
      refine lv_aload_n hx hb dX9_stretchOf_60 rfl (lv_at hl 0 rfl) ?_
      refine lv_iload_n hx hb dX9_stretchOf_61 rfl (lv_at hl 2 rfl) ?_
      refine ro_i (roV S hE hT hS (c_X7_kindOf h) lkX9_129 rfl ⟨(Nat.le_of_ble_eq_true rfl), (Nat.le_of_ble_eq_true rfl)⟩ (hP.sub [3, 4] rfl) 0 rfl rfl hl.1 rfl (Nat.le_of_ble_eq_true rfl) dX9_stretchOf_62 ⟨(Nat.zero_le _), (Nat.zero_le _)⟩) (fun r62 h => ?_)
      exact W.iret hx hb hr (fun t ht _ => ⟨⟨_, f_refused, rfl, h, hPt hP ht⟩, hS.F ht⟩) hS.2.2 dX9_stretchOf_65
    have h := h.2 hk0
    by_cases hk1 : x2 = 1
    · have h := h.1 hk1
      refine lv_tableIn (off := 42) (tgt := 66) hx hb dX9_stretchOf_24 (by rw [hk1]; decide) (by rw [hk1]; decide) (by rw [hk1]; rfl) (by decide) ?_
      refine lv_aload_n hx hb dX9_stretchOf_66 rfl (lv_at hl 0 rfl) ?_
      refine lv_iload_n hx hb dX9_stretchOf_67 rfl (lv_at hl 2 rfl) ?_
      refine ro_i (roV S hE hT hS (c_X7_spaceOf h) lkX9_165 rfl ⟨(Nat.le_of_ble_eq_true rfl), (Nat.le_of_ble_eq_true rfl)⟩ (hP.sub [3, 6] rfl) 0 rfl rfl hl.1 rfl (Nat.le_of_ble_eq_true rfl) dX9_stretchOf_68 ⟨(Nat.zero_le _), (Nat.zero_le _)⟩) (fun r68 h => ?_)
      exact W.iret hx hb hr (fun t ht _ => ⟨⟨_, f_refused, rfl, h, hPt hP ht⟩, hS.F ht⟩) hS.2.2 dX9_stretchOf_71
    have h := h.2 hk1
    by_cases hk2 : x2 = 2
    · have h := h.1 hk2
      refine lv_tableIn (off := 48) (tgt := 72) hx hb dX9_stretchOf_24 (by rw [hk2]; decide) (by rw [hk2]; decide) (by rw [hk2]; rfl) (by decide) ?_
      refine lv_aload_n hx hb dX9_stretchOf_72 rfl (lv_at hl 0 rfl) ?_
      refine lv_iload_n hx hb dX9_stretchOf_73 rfl (lv_at hl 2 rfl) ?_
      refine ro_i (roV S hE hT hS (c_X7_otherOf h) lkX9_168 rfl ⟨(Nat.le_of_ble_eq_true rfl), (Nat.le_of_ble_eq_true rfl)⟩ (hP.sub [3, 5] rfl) 0 rfl rfl hl.1 rfl (Nat.le_of_ble_eq_true rfl) dX9_stretchOf_74 ⟨(Nat.zero_le _), (Nat.zero_le _)⟩) (fun r74 h => ?_)
      exact W.iret hx hb hr (fun t ht _ => ⟨⟨_, f_refused, rfl, h, hPt hP ht⟩, hS.F ht⟩) hS.2.2 dX9_stretchOf_77
    have h := h.2 hk2
    by_cases hk3 : x2 = 3
    · have h := h.1 hk3
      refine lv_tableIn (off := 54) (tgt := 78) hx hb dX9_stretchOf_24 (by rw [hk3]; decide) (by rw [hk3]; decide) (by rw [hk3]; rfl) (by decide) ?_
      refine lv_aload_n hx hb dX9_stretchOf_78 rfl (lv_at hl 0 rfl) ?_
      refine lv_iload_n hx hb dX9_stretchOf_79 rfl (lv_at hl 2 rfl) ?_
      refine ro_i (roV S hE hT hS (c_X7_timesOf h) lkX9_171 rfl ⟨(Nat.le_of_ble_eq_true rfl), (Nat.le_of_ble_eq_true rfl)⟩ (hP.sub [3, 7] rfl) 0 rfl rfl hl.1 rfl (Nat.le_of_ble_eq_true rfl) dX9_stretchOf_80 ⟨(Nat.zero_le _), (Nat.zero_le _)⟩) (fun r80 h => ?_)
      exact W.iret hx hb hr (fun t ht _ => ⟨⟨_, f_refused, rfl, h, hPt hP ht⟩, hS.F ht⟩) hS.2.2 dX9_stretchOf_83
    have h := h.2 hk3
    by_cases hk4 : x2 = 4
    · have h := h.1 hk4
      refine lv_tableIn (off := 60) (tgt := 84) hx hb dX9_stretchOf_24 (by rw [hk4]; decide) (by rw [hk4]; decide) (by rw [hk4]; rfl) (by decide) ?_
      refine lv_aload_n hx hb dX9_stretchOf_84 rfl (lv_at hl 0 rfl) ?_
      refine lv_iload_n hx hb dX9_stretchOf_85 rfl (lv_at hl 2 rfl) ?_
      refine ro_i (roV S hE hT hS (c_X7_lengthOf h) lkX9_174 rfl ⟨(Nat.le_of_ble_eq_true rfl), (Nat.le_of_ble_eq_true rfl)⟩ (hP.sub [3, 4, 5, 6, 7] rfl) 0 rfl rfl hl.1 rfl (Nat.le_of_ble_eq_true rfl) dX9_stretchOf_86 ⟨(Nat.zero_le _), (Nat.zero_le _)⟩) (fun r86 h => ?_)
      exact W.iret hx hb hr (fun t ht _ => ⟨⟨_, f_refused, rfl, h, hPt hP ht⟩, hS.F ht⟩) hS.2.2 dX9_stretchOf_89
    have h := h.2 hk4
    refine lv_tableOut (tgt := 90) hx hb dX9_stretchOf_24 (sw_out (fun k h1 h2 => by
      rcases (show k = 0 ∨ k = 1 ∨ k = 2 ∨ k = 3 ∨ k = 4 by omega) with rfl | rfl | rfl | rfl | rfl
      · exact hk0
      · exact hk1
      · exact hk2
      · exact hk3
      · exact hk4)) (by decide) ?_
    refine lv_aload_n hx hb dX9_stretchOf_90 rfl (lv_at hl 1 rfl) ?_
    refine lv_bipush (v := (-5)) hx hb dX9_stretchOf_91 (by decide) ?_
    refine rw_i (rwV S hE hT hS hP hD hA (c_X9_refuse h) [0, 1] rfl (by decide +kernel) lkX9_59 rfl ⟨(Nat.le_of_ble_eq_true rfl), (Nat.le_of_ble_eq_true rfl)⟩ 0 rfl rfl hl.1 rfl (Nat.le_of_ble_eq_true rfl) dX9_stretchOf_93 ⟨(Nat.zero_le _), (Nat.zero_le _)⟩) hP hD hS hA [0, 1] rfl (by decide +kernel) (fun _ => rfl) (fun r93 w93_0 H locs h hP hD hS => ?_)
    try dsimp only at h
    have hP : va_P D vwCl (wX9_stretchOf cI cJ cS a_o a_refused a_road a_road_stretches a_road_stretches_kinds a_road_stretches_others a_road_stretches_spaces a_road_stretches_times z_kept z_ahead z_shelves z_cutting z_acting z_road_cars z_road_tunes z_road_demands v_imaged v_lastFault w93_0 v_road_drawSeed v_road_stretches_stretchCount f_road_stretches_kinds f_road_stretches_others f_road_stretches_spaces f_road_stretches_times) H := hP
    have hD : va_D A (wX9_stretchOf cI cJ cS a_o a_refused a_road a_road_stretches a_road_stretches_kinds a_road_stretches_others a_road_stretches_spaces a_road_stretches_times z_kept z_ahead z_shelves z_cutting z_acting z_road_cars z_road_tunes z_road_demands v_imaged v_lastFault w93_0 v_road_drawSeed v_road_stretches_stretchCount f_road_stretches_kinds f_road_stretches_others f_road_stretches_spaces f_road_stretches_times) := hD
    exact W.iret hx hb hr (fun t ht _ => ⟨⟨_, w93_0, rfl, h, hPt hP ht⟩, hS.F ht⟩) hS.2.2 dX9_stretchOf_96
  have h := h.1 hc
  refine lv_aload_n hx hb dX9_stretchOf_16 rfl (lv_at hl 1 rfl) ?_
  refine lv_bipush (v := (-5)) hx hb dX9_stretchOf_17 (by decide) ?_
  refine rw_i (rwV S hE hT hS hP hD hA (c_X9_refuse h) [0, 1] rfl (by decide +kernel) lkX9_59 rfl ⟨(Nat.le_of_ble_eq_true rfl), (Nat.le_of_ble_eq_true rfl)⟩ 0 rfl rfl hl.1 rfl (Nat.le_of_ble_eq_true rfl) dX9_stretchOf_19 ⟨(Nat.zero_le _), (Nat.zero_le _)⟩) hP hD hS hA [0, 1] rfl (by decide +kernel) (fun _ => rfl) (fun r19 w19_0 H locs h hP hD hS => ?_)
  try dsimp only at h
  have hP : va_P D vwCl (wX9_stretchOf cI cJ cS a_o a_refused a_road a_road_stretches a_road_stretches_kinds a_road_stretches_others a_road_stretches_spaces a_road_stretches_times z_kept z_ahead z_shelves z_cutting z_acting z_road_cars z_road_tunes z_road_demands v_imaged v_lastFault w19_0 v_road_drawSeed v_road_stretches_stretchCount f_road_stretches_kinds f_road_stretches_others f_road_stretches_spaces f_road_stretches_times) H := hP
  have hD : va_D A (wX9_stretchOf cI cJ cS a_o a_refused a_road a_road_stretches a_road_stretches_kinds a_road_stretches_others a_road_stretches_spaces a_road_stretches_times z_kept z_ahead z_shelves z_cutting z_acting z_road_cars z_road_tunes z_road_demands v_imaged v_lastFault w19_0 v_road_drawSeed v_road_stretches_stretchCount f_road_stretches_kinds f_road_stretches_others f_road_stretches_spaces f_road_stretches_times) := hD
  exact W.iret hx hb hr (fun t ht _ => ⟨⟨_, w19_0, rfl, h, hPt hP ht⟩, hS.F ht⟩) hS.2.2 dX9_stretchOf_22
/-! X9_isSpeed -/
abbrev wX9_isSpeed (cI cJ cS : ClassId) : va_W := []
def F_X9_isSpeed (x0 : Int32) (post : Int32 → Prop) : Prop := (F_X9_within x0 1 99 (fun r4 => (vb r4 ∧ post r4)))
set_option maxHeartbeats 4000000 in
set_option maxRecDepth 100000 in
theorem c_X9_isSpeed {l : Launch} {D : va_G} {cI cJ cS : ClassId} {ad adK : Nat → Nat}  {x0 : Int32} {post : Int32 → Prop} (h : F_X9_isSpeed x0 post) : Met l yX9_isSpeed (Cond.code yX9_isSpeed cX9_isSpeed 1 (some (.boolean)) :: GW) (rmd 1 0 0) (PR D cI cJ cS ad adK [.int x0] (wX9_isSpeed cI cJ cS)) (vp_Si post) 0 0 nof := by
  refine Met.ro (by decide) (Nat.le_of_ble_eq_true rfl) (fun p e s m args below meth c ls (S : CallFix p m c cX9_isSpeed 1 s args GW "RoadThatSings") hE hT hP hS hr hlocks hl => ?_)
  have hx := S.1
  have hb := S.2.1
  have hl : lv_has ls 1 [(0, .int x0)] := hl
  unfold F_X9_isSpeed at h
  refine lv_iload_n hx hb dX9_isSpeed_0 rfl (lv_at hl 0 rfl) ?_
  refine lv_iconst (v := 1) hx hb dX9_isSpeed_1 (by decide) ?_
  refine lv_bipush (v := 99) hx hb dX9_isSpeed_2 (by decide) ?_
  refine ro_i (roS S hE hT hS (c_X9_within h) lkX9_63 rfl ⟨(Nat.le_of_ble_eq_true rfl), (Nat.le_of_ble_eq_true rfl)⟩ (hP.sub [] rfl) hl.1 rfl (Nat.le_of_ble_eq_true rfl) dX9_isSpeed_4 ⟨(Nat.zero_le _), (Nat.zero_le _)⟩) (fun r4 h => ?_)
  exact W.zret hx hb hr h.1 (fun t ht _ => ⟨_, rfl, h.2, ht⟩) (fun _ hq => by cases hq) dX9_isSpeed_7
/-! X9_car -/
abbrev wX9_car (cI cJ cS : ClassId) (a_o a_refused a_road a_road_cars a_road_cars_bases a_road_cars_shares a_road_cars_speeds : Nat) (z_kept z_ahead z_shelves z_cutting z_acting z_road_stretches z_road_tunes z_road_demands : Value) (v_imaged : Int32) (v_lastFault : Int32) (f_refused : Nat → Int32) (v_road_drawSeed : Int32) (v_road_cars_carCount : Int32) (f_road_cars_bases : Nat → Int32) (f_road_cars_shares : Nat → Int32) (f_road_cars_speeds : Nat → Int32) : va_W := [(a_o, .inr (8, [.ref a_road, z_kept, z_ahead, z_shelves, z_cutting, z_acting, .ref a_refused, .int v_imaged, .int v_lastFault])), (a_refused, .inl (cI, 8, .inl f_refused)), (a_road, .inr (4, [z_road_stretches, .ref a_road_cars, z_road_tunes, z_road_demands, .int v_road_drawSeed])), (a_road_cars, .inr (1, [.ref a_road_cars_speeds, .ref a_road_cars_bases, .ref a_road_cars_shares, .int v_road_cars_carCount])), (a_road_cars_bases, .inl (cI, 6, .inl f_road_cars_bases)), (a_road_cars_shares, .inl (cI, 6, .inl f_road_cars_shares)), (a_road_cars_speeds, .inl (cI, 6, .inl f_road_cars_speeds))]
def F_X9_car (f_refused : Nat → Int32) (v_road_cars_carCount : Int32) (f_road_cars_bases : Nat → Int32) (f_road_cars_shares : Nat → Int32) (f_road_cars_speeds : Nat → Int32) (x1 : Int32) (x2 : Int32) (x3 : Int32) (post : Int32 → (Nat → Int32) → Int32 → (Nat → Int32) → (Nat → Int32) → (Nat → Int32) → Prop) : Prop := (F_X9_isSpeed x1 (fun r1 => ((r1 = 0 → (F_X9_refuse f_refused (-6) (fun r42 w42_0 => post r42 w42_0 v_road_cars_carCount f_road_cars_bases f_road_cars_shares f_road_cars_speeds))) ∧ (¬ r1 = 0 → (F_X9_within x2 0 999 (fun r12 => ((r12 = 0 → (F_X9_refuse f_refused (-6) (fun r42 w42_0 => post r42 w42_0 v_road_cars_carCount f_road_cars_bases f_road_cars_shares f_road_cars_speeds))) ∧ (¬ r12 = 0 → (F_X1_shareOfAll v_road_cars_carCount f_road_cars_shares (fun r29 => (F_X9_within x3 0 (100 - r29) (fun r33 => ((r33 = 0 → (F_X9_refuse f_refused (-6) (fun r42 w42_0 => post r42 w42_0 v_road_cars_carCount f_road_cars_bases f_road_cars_shares f_road_cars_speeds))) ∧ (¬ r33 = 0 → (F_X1_isFull v_road_cars_carCount (fun r53 => ((r53 = 0 → (F_X1_add v_road_cars_carCount f_road_cars_bases f_road_cars_shares f_road_cars_speeds x1 x2 x3 (fun r76 w76_0 w76_1 w76_2 w76_3 => post r76 f_refused w76_0 w76_1 w76_2 w76_3))) ∧ (¬ r53 = 0 → (F_X9_refuse f_refused (-7) (fun r62 w62_0 => post r62 w62_0 v_road_cars_carCount f_road_cars_bases f_road_cars_shares f_road_cars_speeds))))))))))))))))))))
set_option maxHeartbeats 4000000 in
set_option maxRecDepth 100000 in
theorem c_X9_car {l : Launch} {D : va_G} {cI cJ cS : ClassId} {ad adK : Nat → Nat} {a_o a_refused a_road a_road_cars a_road_cars_bases a_road_cars_shares a_road_cars_speeds : Nat} {z_kept z_ahead z_shelves z_cutting z_acting z_road_stretches z_road_tunes z_road_demands : Value} {v_imaged : Int32} {v_lastFault : Int32} {f_refused : Nat → Int32} {v_road_drawSeed : Int32} {v_road_cars_carCount : Int32} {f_road_cars_bases : Nat → Int32} {f_road_cars_shares : Nat → Int32} {f_road_cars_speeds : Nat → Int32} {x1 : Int32} {x2 : Int32} {x3 : Int32} {post : Int32 → (Nat → Int32) → Int32 → (Nat → Int32) → (Nat → Int32) → (Nat → Int32) → Prop} (h : F_X9_car f_refused v_road_cars_carCount f_road_cars_bases f_road_cars_shares f_road_cars_speeds x1 x2 x3 post) {sz : Nat} : Met l yX9_car (Cond.code yX9_car cX9_car 4 (some (.int)) :: GW) (rmd 3 0 0) (PW D cI cJ cS ad adK [.ref a_o, .int x1, .int x2, .int x3] (wX9_car cI cJ cS a_o a_refused a_road a_road_cars a_road_cars_bases a_road_cars_shares a_road_cars_speeds z_kept z_ahead z_shelves z_cutting z_acting z_road_stretches z_road_tunes z_road_demands v_imaged v_lastFault f_refused v_road_drawSeed v_road_cars_carCount f_road_cars_bases f_road_cars_shares f_road_cars_speeds) sz) (va_Qi (fun r (u : (Nat → Int32) × Int32 × (Nat → Int32) × (Nat → Int32) × (Nat → Int32)) => post r u.1 u.2.1 u.2.2.1 u.2.2.2.1 u.2.2.2.2) (fun u t => va_P D vwCl (wX9_car cI cJ cS a_o a_refused a_road a_road_cars a_road_cars_bases a_road_cars_shares a_road_cars_speeds z_kept z_ahead z_shelves z_cutting z_acting z_road_stretches z_road_tunes z_road_demands v_imaged v_lastFault u.1 v_road_drawSeed u.2.1 u.2.2.1 u.2.2.2.1 u.2.2.2.2) t.heap) (va_A (wX9_car cI cJ cS a_o a_refused a_road a_road_cars a_road_cars_bases a_road_cars_shares a_road_cars_speeds z_kept z_ahead z_shelves z_cutting z_acting z_road_stretches z_road_tunes z_road_demands v_imaged v_lastFault f_refused v_road_drawSeed v_road_cars_carCount f_road_cars_bases f_road_cars_shares f_road_cars_speeds) sz)) 0 0 (va_A (wX9_car cI cJ cS a_o a_refused a_road a_road_cars a_road_cars_bases a_road_cars_shares a_road_cars_speeds z_kept z_ahead z_shelves z_cutting z_acting z_road_stretches z_road_tunes z_road_demands v_imaged v_lastFault f_refused v_road_drawSeed v_road_cars_carCount f_road_cars_bases f_road_cars_shares f_road_cars_speeds) sz) := by
  refine Met.rw (Qc := fun A => (va_Qi (fun r (u : (Nat → Int32) × Int32 × (Nat → Int32) × (Nat → Int32) × (Nat → Int32)) => post r u.1 u.2.1 u.2.2.1 u.2.2.2.1 u.2.2.2.2) (fun u t => va_P D vwCl (wX9_car cI cJ cS a_o a_refused a_road a_road_cars a_road_cars_bases a_road_cars_shares a_road_cars_speeds z_kept z_ahead z_shelves z_cutting z_acting z_road_stretches z_road_tunes z_road_demands v_imaged v_lastFault u.1 v_road_drawSeed u.2.1 u.2.2.1 u.2.2.2.1 u.2.2.2.2) t.heap) A)) (by decide) (Nat.le_of_ble_eq_true rfl) (fun p e s m args below meth c ls A (S : CallFix p m c cX9_car 4 s args GW "RoadThatSings") hE hT hP hD hA hS hr hlocks hname hl => ?_)
  have hS0 := hS
  have hx := S.1
  have hb := S.2.1
  have hl : lv_has ls 4 [(0, .ref a_o), (1, .int x1), (2, .int x2), (3, .int x3)] := hl
  unfold F_X9_car at h
  refine lv_iload_n hx hb dX9_car_0 rfl (lv_at hl 1 rfl) ?_
  refine ro_i (roS S hE hT hS (c_X9_isSpeed h) lkX9_177 rfl ⟨(Nat.le_of_ble_eq_true rfl), (Nat.le_of_ble_eq_true rfl)⟩ (hP.sub [] rfl) hl.1 rfl (Nat.le_of_ble_eq_true rfl) dX9_car_1 ⟨(Nat.zero_le _), (Nat.zero_le _)⟩) (fun r1 h => ?_)
  refine lv_if_eq (tgt := 39) hx hb dX9_car_4 (by decide) (fun hc => ?_) (fun hc => ?_)
  · have h := h.1 hc
    refine lv_aload_n hx hb dX9_car_39 rfl (lv_at hl 0 rfl) ?_
    refine lv_bipush (v := (-6)) hx hb dX9_car_40 (by decide) ?_
    refine rw_i (rwV S hE hT hS hP hD hA (c_X9_refuse h) [0, 1] rfl (by decide +kernel) lkX9_59 rfl ⟨(Nat.le_of_ble_eq_true rfl), (Nat.le_of_ble_eq_true rfl)⟩ 0 rfl rfl hl.1 rfl (Nat.le_of_ble_eq_true rfl) dX9_car_42 ⟨(Nat.zero_le _), (Nat.zero_le _)⟩) hP hD hS hA [0, 1] rfl (by decide +kernel) (fun _ => rfl) (fun r42 w42_0 H locs h hP hD hS => ?_)
    try dsimp only at h
    have hP : va_P D vwCl (wX9_car cI cJ cS a_o a_refused a_road a_road_cars a_road_cars_bases a_road_cars_shares a_road_cars_speeds z_kept z_ahead z_shelves z_cutting z_acting z_road_stretches z_road_tunes z_road_demands v_imaged v_lastFault w42_0 v_road_drawSeed v_road_cars_carCount f_road_cars_bases f_road_cars_shares f_road_cars_speeds) H := hP
    have hD : va_D A (wX9_car cI cJ cS a_o a_refused a_road a_road_cars a_road_cars_bases a_road_cars_shares a_road_cars_speeds z_kept z_ahead z_shelves z_cutting z_acting z_road_stretches z_road_tunes z_road_demands v_imaged v_lastFault w42_0 v_road_drawSeed v_road_cars_carCount f_road_cars_bases f_road_cars_shares f_road_cars_speeds) := hD
    exact W.iret hx hb hr (fun t ht _ => ⟨⟨_, (w42_0, v_road_cars_carCount, f_road_cars_bases, f_road_cars_shares, f_road_cars_speeds), rfl, h, hPt hP ht⟩, hS.F ht⟩) hS.2.2 dX9_car_45
  have h := h.2 hc
  refine lv_iload_n hx hb dX9_car_7 rfl (lv_at hl 2 rfl) ?_
  refine lv_iconst (v := 0) hx hb dX9_car_8 (by decide) ?_
  refine lv_sipush (v := 999) hx hb dX9_car_9 (by decide) ?_
  refine ro_i (roS S hE hT hS (c_X9_within h) lkX9_63 rfl ⟨(Nat.le_of_ble_eq_true rfl), (Nat.le_of_ble_eq_true rfl)⟩ (hP.sub [] rfl) hl.1 rfl (Nat.le_of_ble_eq_true rfl) dX9_car_12 ⟨(Nat.zero_le _), (Nat.zero_le _)⟩) (fun r12 h => ?_)
  refine lv_if_eq (tgt := 39) hx hb dX9_car_15 (by decide) (fun hc => ?_) (fun hc => ?_)
  · have h := h.1 hc
    refine lv_aload_n hx hb dX9_car_39 rfl (lv_at hl 0 rfl) ?_
    refine lv_bipush (v := (-6)) hx hb dX9_car_40 (by decide) ?_
    refine rw_i (rwV S hE hT hS hP hD hA (c_X9_refuse h) [0, 1] rfl (by decide +kernel) lkX9_59 rfl ⟨(Nat.le_of_ble_eq_true rfl), (Nat.le_of_ble_eq_true rfl)⟩ 0 rfl rfl hl.1 rfl (Nat.le_of_ble_eq_true rfl) dX9_car_42 ⟨(Nat.zero_le _), (Nat.zero_le _)⟩) hP hD hS hA [0, 1] rfl (by decide +kernel) (fun _ => rfl) (fun r42 w42_0 H locs h hP hD hS => ?_)
    try dsimp only at h
    have hP : va_P D vwCl (wX9_car cI cJ cS a_o a_refused a_road a_road_cars a_road_cars_bases a_road_cars_shares a_road_cars_speeds z_kept z_ahead z_shelves z_cutting z_acting z_road_stretches z_road_tunes z_road_demands v_imaged v_lastFault w42_0 v_road_drawSeed v_road_cars_carCount f_road_cars_bases f_road_cars_shares f_road_cars_speeds) H := hP
    have hD : va_D A (wX9_car cI cJ cS a_o a_refused a_road a_road_cars a_road_cars_bases a_road_cars_shares a_road_cars_speeds z_kept z_ahead z_shelves z_cutting z_acting z_road_stretches z_road_tunes z_road_demands v_imaged v_lastFault w42_0 v_road_drawSeed v_road_cars_carCount f_road_cars_bases f_road_cars_shares f_road_cars_speeds) := hD
    exact W.iret hx hb hr (fun t ht _ => ⟨⟨_, (w42_0, v_road_cars_carCount, f_road_cars_bases, f_road_cars_shares, f_road_cars_speeds), rfl, h, hPt hP ht⟩, hS.F ht⟩) hS.2.2 dX9_car_45
  have h := h.2 hc
  refine lv_iload_n hx hb dX9_car_18 rfl (lv_at hl 3 rfl) ?_
  refine lv_iconst (v := 0) hx hb dX9_car_19 (by decide) ?_
  refine lv_bipush (v := 100) hx hb dX9_car_20 (by decide) ?_
  refine lv_aload_n hx hb dX9_car_22 rfl (lv_at hl 0 rfl) ?_
  refine gf S hE hP 0 rfl rfl inX9 (k := 0) (by decide) q181 rfl dX9_car_23 ?_
  refine gfN S hE hP 2 rfl rfl inX5 (k := 1) (by decide) nfX9_180 rfl dX9_car_26 ?_
  refine ro_i (roV S hE hT hS (c_X1_shareOfAll h) lkX9_184 rfl ⟨(Nat.le_of_ble_eq_true rfl), (Nat.le_of_ble_eq_true rfl)⟩ (hP.sub [3, 5] rfl) 0 rfl rfl hl.1 rfl (Nat.le_of_ble_eq_true rfl) dX9_car_29 ⟨(Nat.zero_le _), (Nat.zero_le _)⟩) (fun r29 h => ?_)
  refine lv_isub hx hb dX9_car_32 ?_
  refine ro_i (roS S hE hT hS (c_X9_within h) lkX9_63 rfl ⟨(Nat.le_of_ble_eq_true rfl), (Nat.le_of_ble_eq_true rfl)⟩ (hP.sub [] rfl) hl.1 rfl (Nat.le_of_ble_eq_true rfl) dX9_car_33 ⟨(Nat.zero_le _), (Nat.zero_le _)⟩) (fun r33 h => ?_)
  refine lv_if_ne (tgt := 46) hx hb dX9_car_36 (by decide) (fun hc => ?_) (fun hc => ?_)
  · have h := h.2 hc
    refine lv_aload_n hx hb dX9_car_46 rfl (lv_at hl 0 rfl) ?_
    refine gf S hE hP 0 rfl rfl inX9 (k := 0) (by decide) q181 rfl dX9_car_47 ?_
    refine gfN S hE hP 2 rfl rfl inX5 (k := 1) (by decide) nfX9_180 rfl dX9_car_50 ?_
    refine ro_i (roV S hE hT hS (c_X1_isFull h) lkX9_189 rfl ⟨(Nat.le_of_ble_eq_true rfl), (Nat.le_of_ble_eq_true rfl)⟩ (hP.sub [3] rfl) 0 rfl rfl hl.1 rfl (Nat.le_of_ble_eq_true rfl) dX9_car_53 ⟨(Nat.zero_le _), (Nat.zero_le _)⟩) (fun r53 h => ?_)
    refine lv_if_eq (tgt := 66) hx hb dX9_car_56 (by decide) (fun hc => ?_) (fun hc => ?_)
    · have h := h.1 hc
      refine lv_aload_n hx hb dX9_car_66 rfl (lv_at hl 0 rfl) ?_
      refine gf S hE hP 0 rfl rfl inX9 (k := 0) (by decide) q181 rfl dX9_car_67 ?_
      refine gfN S hE hP 2 rfl rfl inX5 (k := 1) (by decide) nfX9_180 rfl dX9_car_70 ?_
      refine lv_iload_n hx hb dX9_car_73 rfl (lv_at hl 1 rfl) ?_
      refine lv_iload_n hx hb dX9_car_74 rfl (lv_at hl 2 rfl) ?_
      refine lv_iload_n hx hb dX9_car_75 rfl (lv_at hl 3 rfl) ?_
      refine rw_i (rwV S hE hT hS hP hD hA (c_X1_add h) [3, 4, 5, 6] rfl (by decide +kernel) lkX9_190 rfl ⟨(Nat.le_of_ble_eq_true rfl), (Nat.le_of_ble_eq_true rfl)⟩ 3 rfl rfl hl.1 rfl (Nat.le_of_ble_eq_true rfl) dX9_car_76 ⟨(Nat.zero_le _), (Nat.zero_le _)⟩) hP hD hS hA [3, 4, 5, 6] rfl (by decide +kernel) (fun _ => rfl) (fun r76 u76 H locs h hP hD hS => ?_)
      obtain ⟨w76_0, w76_1, w76_2, w76_3⟩ := u76
      try dsimp only at h
      have hP : va_P D vwCl (wX9_car cI cJ cS a_o a_refused a_road a_road_cars a_road_cars_bases a_road_cars_shares a_road_cars_speeds z_kept z_ahead z_shelves z_cutting z_acting z_road_stretches z_road_tunes z_road_demands v_imaged v_lastFault f_refused v_road_drawSeed w76_0 w76_1 w76_2 w76_3) H := hP
      have hD : va_D A (wX9_car cI cJ cS a_o a_refused a_road a_road_cars a_road_cars_bases a_road_cars_shares a_road_cars_speeds z_kept z_ahead z_shelves z_cutting z_acting z_road_stretches z_road_tunes z_road_demands v_imaged v_lastFault f_refused v_road_drawSeed w76_0 w76_1 w76_2 w76_3) := hD
      exact W.iret hx hb hr (fun t ht _ => ⟨⟨_, (f_refused, w76_0, w76_1, w76_2, w76_3), rfl, h, hPt hP ht⟩, hS.F ht⟩) hS.2.2 dX9_car_79
    have h := h.2 hc
    refine lv_aload_n hx hb dX9_car_59 rfl (lv_at hl 0 rfl) ?_
    refine lv_bipush (v := (-7)) hx hb dX9_car_60 (by decide) ?_
    refine rw_i (rwV S hE hT hS hP hD hA (c_X9_refuse h) [0, 1] rfl (by decide +kernel) lkX9_59 rfl ⟨(Nat.le_of_ble_eq_true rfl), (Nat.le_of_ble_eq_true rfl)⟩ 0 rfl rfl hl.1 rfl (Nat.le_of_ble_eq_true rfl) dX9_car_62 ⟨(Nat.zero_le _), (Nat.zero_le _)⟩) hP hD hS hA [0, 1] rfl (by decide +kernel) (fun _ => rfl) (fun r62 w62_0 H locs h hP hD hS => ?_)
    try dsimp only at h
    have hP : va_P D vwCl (wX9_car cI cJ cS a_o a_refused a_road a_road_cars a_road_cars_bases a_road_cars_shares a_road_cars_speeds z_kept z_ahead z_shelves z_cutting z_acting z_road_stretches z_road_tunes z_road_demands v_imaged v_lastFault w62_0 v_road_drawSeed v_road_cars_carCount f_road_cars_bases f_road_cars_shares f_road_cars_speeds) H := hP
    have hD : va_D A (wX9_car cI cJ cS a_o a_refused a_road a_road_cars a_road_cars_bases a_road_cars_shares a_road_cars_speeds z_kept z_ahead z_shelves z_cutting z_acting z_road_stretches z_road_tunes z_road_demands v_imaged v_lastFault w62_0 v_road_drawSeed v_road_cars_carCount f_road_cars_bases f_road_cars_shares f_road_cars_speeds) := hD
    exact W.iret hx hb hr (fun t ht _ => ⟨⟨_, (w62_0, v_road_cars_carCount, f_road_cars_bases, f_road_cars_shares, f_road_cars_speeds), rfl, h, hPt hP ht⟩, hS.F ht⟩) hS.2.2 dX9_car_65
  have h := h.1 hc
  refine lv_aload_n hx hb dX9_car_39 rfl (lv_at hl 0 rfl) ?_
  refine lv_bipush (v := (-6)) hx hb dX9_car_40 (by decide) ?_
  refine rw_i (rwV S hE hT hS hP hD hA (c_X9_refuse h) [0, 1] rfl (by decide +kernel) lkX9_59 rfl ⟨(Nat.le_of_ble_eq_true rfl), (Nat.le_of_ble_eq_true rfl)⟩ 0 rfl rfl hl.1 rfl (Nat.le_of_ble_eq_true rfl) dX9_car_42 ⟨(Nat.zero_le _), (Nat.zero_le _)⟩) hP hD hS hA [0, 1] rfl (by decide +kernel) (fun _ => rfl) (fun r42 w42_0 H locs h hP hD hS => ?_)
  try dsimp only at h
  have hP : va_P D vwCl (wX9_car cI cJ cS a_o a_refused a_road a_road_cars a_road_cars_bases a_road_cars_shares a_road_cars_speeds z_kept z_ahead z_shelves z_cutting z_acting z_road_stretches z_road_tunes z_road_demands v_imaged v_lastFault w42_0 v_road_drawSeed v_road_cars_carCount f_road_cars_bases f_road_cars_shares f_road_cars_speeds) H := hP
  have hD : va_D A (wX9_car cI cJ cS a_o a_refused a_road a_road_cars a_road_cars_bases a_road_cars_shares a_road_cars_speeds z_kept z_ahead z_shelves z_cutting z_acting z_road_stretches z_road_tunes z_road_demands v_imaged v_lastFault w42_0 v_road_drawSeed v_road_cars_carCount f_road_cars_bases f_road_cars_shares f_road_cars_speeds) := hD
  exact W.iret hx hb hr (fun t ht _ => ⟨⟨_, (w42_0, v_road_cars_carCount, f_road_cars_bases, f_road_cars_shares, f_road_cars_speeds), rfl, h, hPt hP ht⟩, hS.F ht⟩) hS.2.2 dX9_car_45
