/-! X0_forget -/
abbrev wX0_forget (cI cJ cS : ClassId) (a_o : Nat) (z_bodies : Value) (v_ran : Int32) (v_kind : Int32) (v_stretchNumber : Int32) (v_space : Int32) : va_W := [(a_o, .inr (0, [z_bodies, .int v_ran, .int v_kind, .int v_stretchNumber, .int v_space]))]
def F_X0_forget (v_ran : Int32) (post : Int32 → Prop) : Prop := post 0
set_option maxHeartbeats 4000000 in
set_option maxRecDepth 100000 in
theorem c_X0_forget {l : Launch} {D : va_G} {cI cJ cS : ClassId} {ad adK : Nat → Nat} {a_o : Nat} {z_bodies : Value} {v_ran : Int32} {v_kind : Int32} {v_stretchNumber : Int32} {v_space : Int32} {post : Int32 → Prop} (h : F_X0_forget v_ran post) {sz : Nat} : Met l yX0_forget (Cond.code yX0_forget cX0_forget 1 none :: GW) (rmd 0 0 0) (PW D cI cJ cS ad adK [.ref a_o] (wX0_forget cI cJ cS a_o z_bodies v_ran v_kind v_stretchNumber v_space) sz) (va_Qv (fun u : Int32 => post u) (fun u t => va_P D vwCl (wX0_forget cI cJ cS a_o z_bodies u v_kind v_stretchNumber v_space) t.heap) (va_A (wX0_forget cI cJ cS a_o z_bodies v_ran v_kind v_stretchNumber v_space) sz)) 0 0 (va_A (wX0_forget cI cJ cS a_o z_bodies v_ran v_kind v_stretchNumber v_space) sz) := by
  refine Met.rw (Qc := fun A => (va_Qv (fun u : Int32 => post u) (fun u t => va_P D vwCl (wX0_forget cI cJ cS a_o z_bodies u v_kind v_stretchNumber v_space) t.heap) A)) (by decide) (Nat.le_of_ble_eq_true rfl) (fun p e s m args below meth c ls A (S : CallFix p m c cX0_forget 1 s args GW "RoadThatSings$Acting") hE hT hP hD hA hS hr hlocks hname hl => ?_)
  have hS0 := hS
  have hx := S.1
  have hb := S.2.1
  have hl : lv_has ls 1 [(0, .ref a_o)] := hl
  unfold F_X0_forget at h
  refine lv_aload_n hx hb dX0_forget_0 rfl (lv_at hl 0 rfl) ?_
  refine lv_iconst (v := 0) hx hb dX0_forget_1 (by decide) ?_
  refine pf S hE hP hD hS 0 (k := 1) rfl rfl inX0 tyX0_ok nmX0 (by decide) q144 rfl rfl rfl (Nat.le_of_ble_eq_true rfl) dX0_forget_2 (fun H locs hP hD hS => ?_)
  have hP : va_P D vwCl (wX0_forget cI cJ cS a_o z_bodies 0 v_kind v_stretchNumber v_space) H := hP
  have hD : va_D A (wX0_forget cI cJ cS a_o z_bodies 0 v_kind v_stretchNumber v_space) := hD
  exact W.vret hx hb hr (fun t ht _ => ⟨⟨0, rfl, h, hPt hP ht⟩, hS.F ht⟩) hS.2.2 dX0_forget_5
/-! X0_begin -/
abbrev wX0_begin (cI cJ cS : ClassId) (a_o : Nat) (z_bodies : Value) (v_ran : Int32) (v_kind : Int32) (v_stretchNumber : Int32) (v_space : Int32) : va_W := [(a_o, .inr (0, [z_bodies, .int v_ran, .int v_kind, .int v_stretchNumber, .int v_space]))]
def F_X0_begin (v_kind : Int32) (v_stretchNumber : Int32) (v_space : Int32) (x1 : Int32) (x2 : Int32) (x3 : Int32) (post : Int32 → Int32 → Int32 → Prop) : Prop := post x1 x2 x3
set_option maxHeartbeats 4000000 in
set_option maxRecDepth 100000 in
theorem c_X0_begin {l : Launch} {D : va_G} {cI cJ cS : ClassId} {ad adK : Nat → Nat} {a_o : Nat} {z_bodies : Value} {v_ran : Int32} {v_kind : Int32} {v_stretchNumber : Int32} {v_space : Int32} {x1 : Int32} {x2 : Int32} {x3 : Int32} {post : Int32 → Int32 → Int32 → Prop} (h : F_X0_begin v_kind v_stretchNumber v_space x1 x2 x3 post) {sz : Nat} : Met l yX0_begin (Cond.code yX0_begin cX0_begin 4 none :: GW) (rmd 0 0 0) (PW D cI cJ cS ad adK [.ref a_o, .int x1, .int x2, .int x3] (wX0_begin cI cJ cS a_o z_bodies v_ran v_kind v_stretchNumber v_space) sz) (va_Qv (fun u : Int32 × Int32 × Int32 => post u.1 u.2.1 u.2.2) (fun u t => va_P D vwCl (wX0_begin cI cJ cS a_o z_bodies v_ran u.1 u.2.1 u.2.2) t.heap) (va_A (wX0_begin cI cJ cS a_o z_bodies v_ran v_kind v_stretchNumber v_space) sz)) 0 0 (va_A (wX0_begin cI cJ cS a_o z_bodies v_ran v_kind v_stretchNumber v_space) sz) := by
  refine Met.rw (Qc := fun A => (va_Qv (fun u : Int32 × Int32 × Int32 => post u.1 u.2.1 u.2.2) (fun u t => va_P D vwCl (wX0_begin cI cJ cS a_o z_bodies v_ran u.1 u.2.1 u.2.2) t.heap) A)) (by decide) (Nat.le_of_ble_eq_true rfl) (fun p e s m args below meth c ls A (S : CallFix p m c cX0_begin 4 s args GW "RoadThatSings$Acting") hE hT hP hD hA hS hr hlocks hname hl => ?_)
  have hS0 := hS
  have hx := S.1
  have hb := S.2.1
  have hl : lv_has ls 4 [(0, .ref a_o), (1, .int x1), (2, .int x2), (3, .int x3)] := hl
  unfold F_X0_begin at h
  refine lv_aload_n hx hb dX0_begin_0 rfl (lv_at hl 0 rfl) ?_
  refine lv_iload_n hx hb dX0_begin_1 rfl (lv_at hl 1 rfl) ?_
  refine pf S hE hP hD hS 0 (k := 2) rfl rfl inX0 tyX0_ok nmX0 (by decide) q145 rfl rfl rfl (Nat.le_of_ble_eq_true rfl) dX0_begin_2 (fun H locs hP hD hS => ?_)
  have hP : va_P D vwCl (wX0_begin cI cJ cS a_o z_bodies v_ran x1 v_stretchNumber v_space) H := hP
  have hD : va_D A (wX0_begin cI cJ cS a_o z_bodies v_ran x1 v_stretchNumber v_space) := hD
  refine lv_aload_n hx hb dX0_begin_5 rfl (lv_at hl 0 rfl) ?_
  refine lv_iload_n hx hb dX0_begin_6 rfl (lv_at hl 2 rfl) ?_
  refine pf S hE hP hD hS 0 (k := 3) rfl rfl inX0 tyX0_ok nmX0 (by decide) q146 rfl rfl rfl (Nat.le_of_ble_eq_true rfl) dX0_begin_7 (fun H locs hP hD hS => ?_)
  have hP : va_P D vwCl (wX0_begin cI cJ cS a_o z_bodies v_ran x1 x2 v_space) H := hP
  have hD : va_D A (wX0_begin cI cJ cS a_o z_bodies v_ran x1 x2 v_space) := hD
  refine lv_aload_n hx hb dX0_begin_10 rfl (lv_at hl 0 rfl) ?_
  refine lv_iload_n hx hb dX0_begin_11 rfl (lv_at hl 3 rfl) ?_
  refine pf S hE hP hD hS 0 (k := 4) rfl rfl inX0 tyX0_ok nmX0 (by decide) q147 rfl rfl rfl (Nat.le_of_ble_eq_true rfl) dX0_begin_12 (fun H locs hP hD hS => ?_)
  have hP : va_P D vwCl (wX0_begin cI cJ cS a_o z_bodies v_ran x1 x2 x3) H := hP
  have hD : va_D A (wX0_begin cI cJ cS a_o z_bodies v_ran x1 x2 x3) := hD
  exact W.vret hx hb hr (fun t ht _ => ⟨⟨(x1, x2, x3), rfl, h, hPt hP ht⟩, hS.F ht⟩) hS.2.2 dX0_begin_15
/-! X0_kindActing -/
abbrev wX0_kindActing (cI cJ cS : ClassId) (a_o : Nat) (z_bodies : Value) (v_ran : Int32) (v_kind : Int32) (v_stretchNumber : Int32) (v_space : Int32) : va_W := [(a_o, .inr (0, [z_bodies, .int v_ran, .int v_kind, .int v_stretchNumber, .int v_space]))]
def F_X0_kindActing (v_kind : Int32) (post : Int32 → Prop) : Prop := post v_kind
set_option maxHeartbeats 4000000 in
set_option maxRecDepth 100000 in
theorem c_X0_kindActing {l : Launch} {D : va_G} {cI cJ cS : ClassId} {ad adK : Nat → Nat} {a_o : Nat} {z_bodies : Value} {v_ran : Int32} {v_kind : Int32} {v_stretchNumber : Int32} {v_space : Int32} {post : Int32 → Prop} (h : F_X0_kindActing v_kind post) : Met l yX0_kindActing (Cond.code yX0_kindActing cX0_kindActing 1 (some (.int)) :: GW) (rmd 0 0 0) (PR D cI cJ cS ad adK [.ref a_o] (wX0_kindActing cI cJ cS a_o z_bodies v_ran v_kind v_stretchNumber v_space)) (vp_Si post) 0 0 nof := by
  refine Met.ro (by decide) (Nat.le_of_ble_eq_true rfl) (fun p e s m args below meth c ls (S : CallFix p m c cX0_kindActing 1 s args GW "RoadThatSings$Acting") hE hT hP hS hr hlocks hl => ?_)
  have hx := S.1
  have hb := S.2.1
  have hl : lv_has ls 1 [(0, .ref a_o)] := hl
  unfold F_X0_kindActing at h
  refine lv_aload_n hx hb dX0_kindActing_0 rfl (lv_at hl 0 rfl) ?_
  refine gf S hE hP 0 rfl rfl inX0 (k := 2) (by decide) q145 rfl dX0_kindActing_1 ?_
  exact W.iret hx hb hr (fun t ht _ => ⟨_, rfl, h, ht⟩) (fun _ hq => by cases hq) dX0_kindActing_4
/-! X0_bodiesRan -/
abbrev wX0_bodiesRan (cI cJ cS : ClassId) (a_o : Nat) (z_bodies : Value) (v_ran : Int32) (v_kind : Int32) (v_stretchNumber : Int32) (v_space : Int32) : va_W := [(a_o, .inr (0, [z_bodies, .int v_ran, .int v_kind, .int v_stretchNumber, .int v_space]))]
def F_X0_bodiesRan (v_ran : Int32) (post : Int32 → Prop) : Prop := post v_ran
set_option maxHeartbeats 4000000 in
set_option maxRecDepth 100000 in
theorem c_X0_bodiesRan {l : Launch} {D : va_G} {cI cJ cS : ClassId} {ad adK : Nat → Nat} {a_o : Nat} {z_bodies : Value} {v_ran : Int32} {v_kind : Int32} {v_stretchNumber : Int32} {v_space : Int32} {post : Int32 → Prop} (h : F_X0_bodiesRan v_ran post) : Met l yX0_bodiesRan (Cond.code yX0_bodiesRan cX0_bodiesRan 1 (some (.int)) :: GW) (rmd 0 0 0) (PR D cI cJ cS ad adK [.ref a_o] (wX0_bodiesRan cI cJ cS a_o z_bodies v_ran v_kind v_stretchNumber v_space)) (vp_Si post) 0 0 nof := by
  refine Met.ro (by decide) (Nat.le_of_ble_eq_true rfl) (fun p e s m args below meth c ls (S : CallFix p m c cX0_bodiesRan 1 s args GW "RoadThatSings$Acting") hE hT hP hS hr hlocks hl => ?_)
  have hx := S.1
  have hb := S.2.1
  have hl : lv_has ls 1 [(0, .ref a_o)] := hl
  unfold F_X0_bodiesRan at h
  refine lv_aload_n hx hb dX0_bodiesRan_0 rfl (lv_at hl 0 rfl) ?_
  refine gf S hE hP 0 rfl rfl inX0 (k := 1) (by decide) q144 rfl dX0_bodiesRan_1 ?_
  exact W.iret hx hb hr (fun t ht _ => ⟨_, rfl, h, ht⟩) (fun _ hq => by cases hq) dX0_bodiesRan_4
/-! X0_bodyAt -/
abbrev wX0_bodyAt (cI cJ cS : ClassId) (a_o a_bodies : Nat) (v_ran : Int32) (v_kind : Int32) (v_stretchNumber : Int32) (v_space : Int32) (f_bodies : Nat → Int32) : va_W := [(a_o, .inr (0, [.ref a_bodies, .int v_ran, .int v_kind, .int v_stretchNumber, .int v_space])), (a_bodies, .inl (cI, 20, .inl f_bodies))]
def F_X0_bodyAt (v_ran : Int32) (f_bodies : Nat → Int32) (x1 : Int32) (post : Int32 → Prop) : Prop := ((x1 < 0 → post (-1)) ∧ (¬ x1 < 0 → ((v_ran ≤ x1 → post (-1)) ∧ (¬ v_ran ≤ x1 → ((20 ≤ x1 → post (-1)) ∧ (¬ 20 ≤ x1 → (vp_in x1 20 ∧ post (f_bodies x1.toNatClampNeg))))))))
set_option maxHeartbeats 4000000 in
set_option maxRecDepth 100000 in
theorem c_X0_bodyAt {l : Launch} {D : va_G} {cI cJ cS : ClassId} {ad adK : Nat → Nat} {a_o a_bodies : Nat} {v_ran : Int32} {v_kind : Int32} {v_stretchNumber : Int32} {v_space : Int32} {f_bodies : Nat → Int32} {x1 : Int32} {post : Int32 → Prop} (h : F_X0_bodyAt v_ran f_bodies x1 post) : Met l yX0_bodyAt (Cond.code yX0_bodyAt cX0_bodyAt 2 (some (.int)) :: GW) (rmd 0 0 0) (PR D cI cJ cS ad adK [.ref a_o, .int x1] (wX0_bodyAt cI cJ cS a_o a_bodies v_ran v_kind v_stretchNumber v_space f_bodies)) (vp_Si post) 0 0 nof := by
  refine Met.ro (by decide) (Nat.le_of_ble_eq_true rfl) (fun p e s m args below meth c ls (S : CallFix p m c cX0_bodyAt 2 s args GW "RoadThatSings$Acting") hE hT hP hS hr hlocks hl => ?_)
  have hx := S.1
  have hb := S.2.1
  have hl : lv_has ls 2 [(0, .ref a_o), (1, .int x1)] := hl
  unfold F_X0_bodyAt at h
  refine lv_iload_n hx hb dX0_bodyAt_0 rfl (lv_at hl 1 rfl) ?_
  refine lv_if_lt (tgt := 27) hx hb dX0_bodyAt_1 (by decide) (fun hc => ?_) (fun hc => ?_)
  · have h := h.1 hc
    refine lv_iconst (v := (-1)) hx hb dX0_bodyAt_27 (by decide) ?_
    exact W.iret hx hb hr (fun t ht _ => ⟨_, rfl, h, ht⟩) (fun _ hq => by cases hq) dX0_bodyAt_28
  have h := h.2 hc
  refine lv_iload_n hx hb dX0_bodyAt_4 rfl (lv_at hl 1 rfl) ?_
  refine lv_aload_n hx hb dX0_bodyAt_5 rfl (lv_at hl 0 rfl) ?_
  refine gf S hE hP 0 rfl rfl inX0 (k := 1) (by decide) q144 rfl dX0_bodyAt_6 ?_
  refine lv_icmp_ge (tgt := 27) hx hb dX0_bodyAt_9 (by decide) (fun hc => ?_) (fun hc => ?_)
  · have h := h.1 hc
    refine lv_iconst (v := (-1)) hx hb dX0_bodyAt_27 (by decide) ?_
    exact W.iret hx hb hr (fun t ht _ => ⟨_, rfl, h, ht⟩) (fun _ hq => by cases hq) dX0_bodyAt_28
  have h := h.2 hc
  refine lv_iload_n hx hb dX0_bodyAt_12 rfl (lv_at hl 1 rfl) ?_
  refine lv_bipush (v := 20) hx hb dX0_bodyAt_13 (by decide) ?_
  refine lv_icmp_ge (tgt := 27) hx hb dX0_bodyAt_15 (by decide) (fun hc => ?_) (fun hc => ?_)
  · have h := h.1 hc
    refine lv_iconst (v := (-1)) hx hb dX0_bodyAt_27 (by decide) ?_
    exact W.iret hx hb hr (fun t ht _ => ⟨_, rfl, h, ht⟩) (fun _ hq => by cases hq) dX0_bodyAt_28
  have h := h.2 hc
  refine lv_aload_n hx hb dX0_bodyAt_18 rfl (lv_at hl 0 rfl) ?_
  refine gf S hE hP 0 rfl rfl inX0 (k := 0) (by decide) q143 rfl dX0_bodyAt_19 ?_
  refine lv_iload_n hx hb dX0_bodyAt_22 rfl (lv_at hl 1 rfl) ?_
  obtain ⟨hi, h⟩ := h
  refine ial S hE hP 1 rfl hi dX0_bodyAt_23 ?_
  refine lv_goto (tgt := 28) hx hb dX0_bodyAt_24 (by decide) ?_
  exact W.iret hx hb hr (fun t ht _ => ⟨_, rfl, h, ht⟩) (fun _ hq => by cases hq) dX0_bodyAt_28
/-! X0_mark -/
abbrev wX0_mark (cI cJ cS : ClassId) (a_o a_bodies : Nat) (v_ran : Int32) (v_kind : Int32) (v_stretchNumber : Int32) (v_space : Int32) (f_bodies : Nat → Int32) : va_W := [(a_o, .inr (0, [.ref a_bodies, .int v_ran, .int v_kind, .int v_stretchNumber, .int v_space])), (a_bodies, .inl (cI, 20, .inl f_bodies))]
def F_X0_mark_26 (post : Int32 → (Nat → Int32) → Prop) (v_ran : Int32) (f_bodies : Nat → Int32) : Prop := post (v_ran + 1) f_bodies
def F_X0_mark (v_ran : Int32) (f_bodies : Nat → Int32) (x1 : Int32) (post : Int32 → (Nat → Int32) → Prop) : Prop := ((v_ran < 0 → F_X0_mark_26 post v_ran f_bodies) ∧ (¬ v_ran < 0 → ((20 ≤ v_ran → F_X0_mark_26 post v_ran f_bodies) ∧ (¬ 20 ≤ v_ran → (vp_in v_ran 20 ∧ F_X0_mark_26 post v_ran (upd f_bodies v_ran.toNatClampNeg x1))))))
set_option maxHeartbeats 4000000 in
set_option maxRecDepth 100000 in
theorem w_X0_mark_26 {l : Launch} {D : va_G} {cI cJ cS : ClassId} {ad adK : Nat → Nat} {a_o a_bodies : Nat} {v_ran : Int32} {v_kind : Int32} {v_stretchNumber : Int32} {v_space : Int32} {f_bodies : Nat → Int32} {post : Int32 → (Nat → Int32) → Prop} {p : Program} {e : Env} {s : State} {m : MethodId} {args : Array Value} {below : List Frame} {meth : Method} {c : Code} {A : Nat → Prop} (S : CallFix p m c cX0_mark 2 s args GW "RoadThatSings$Acting") (hE : EN D cI cJ cS s) (hT : ST ad adK A s s.heap) (hA : ∀ q : Nat, s.heap.size ≤ q → A q) (hr : meth.sig.returnType = none) (hlocks : meth.locks = false) : ∀ (H : Heap) (locs : List Loc) (ls : Array Slot), F_X0_mark_26 post v_ran f_bodies → va_P D vwCl (wX0_mark cI cJ cS a_o a_bodies v_ran v_kind v_stretchNumber v_space f_bodies) H → va_D A (wX0_mark cI cJ cS a_o a_bodies v_ran v_kind v_stretchNumber v_space f_bodies) → va_S A s.heap H locs → lv_has ls 2 [(0, .ref a_o)] → W p l e (rmd 0 0 0) s m args below meth c H locs 0 0 (MQ below (va_Qv (fun u : Int32 × (Nat → Int32) => post u.1 u.2) (fun u t => va_P D vwCl (wX0_mark cI cJ cS a_o a_bodies u.1 v_kind v_stretchNumber v_space u.2) t.heap) A) args s 0 0 A) (F0 m 26 ls []) := by
  intro  H locs ls h hP hD hS hl
  unfold F_X0_mark_26 at h
  have hx := S.1
  have hb := S.2.1
  refine lv_aload_n hx hb dX0_mark_26 rfl (lv_at hl 0 rfl) ?_
  refine lv_dup hx hb dX0_mark_27 rfl ?_
  refine gf S hE hP 0 rfl rfl inX0 (k := 1) (by decide) q144 rfl dX0_mark_28 ?_
  refine lv_iconst (v := 1) hx hb dX0_mark_31 (by decide) ?_
  refine lv_iadd hx hb dX0_mark_32 ?_
  refine pf S hE hP hD hS 0 (k := 1) rfl rfl inX0 tyX0_ok nmX0 (by decide) q144 rfl rfl rfl (Nat.le_of_ble_eq_true rfl) dX0_mark_33 (fun H locs hP hD hS => ?_)
  have hP : va_P D vwCl (wX0_mark cI cJ cS a_o a_bodies (v_ran + 1) v_kind v_stretchNumber v_space f_bodies) H := hP
  have hD : va_D A (wX0_mark cI cJ cS a_o a_bodies (v_ran + 1) v_kind v_stretchNumber v_space f_bodies) := hD
  exact W.vret hx hb hr (fun t ht _ => ⟨⟨((v_ran + 1), f_bodies), rfl, h, hPt hP ht⟩, hS.F ht⟩) hS.2.2 dX0_mark_36
set_option maxHeartbeats 4000000 in
set_option maxRecDepth 100000 in
theorem c_X0_mark {l : Launch} {D : va_G} {cI cJ cS : ClassId} {ad adK : Nat → Nat} {a_o a_bodies : Nat} {v_ran : Int32} {v_kind : Int32} {v_stretchNumber : Int32} {v_space : Int32} {f_bodies : Nat → Int32} {x1 : Int32} {post : Int32 → (Nat → Int32) → Prop} (h : F_X0_mark v_ran f_bodies x1 post) {sz : Nat} : Met l yX0_mark (Cond.code yX0_mark cX0_mark 2 none :: GW) (rmd 0 0 0) (PW D cI cJ cS ad adK [.ref a_o, .int x1] (wX0_mark cI cJ cS a_o a_bodies v_ran v_kind v_stretchNumber v_space f_bodies) sz) (va_Qv (fun u : Int32 × (Nat → Int32) => post u.1 u.2) (fun u t => va_P D vwCl (wX0_mark cI cJ cS a_o a_bodies u.1 v_kind v_stretchNumber v_space u.2) t.heap) (va_A (wX0_mark cI cJ cS a_o a_bodies v_ran v_kind v_stretchNumber v_space f_bodies) sz)) 0 0 (va_A (wX0_mark cI cJ cS a_o a_bodies v_ran v_kind v_stretchNumber v_space f_bodies) sz) := by
  refine Met.rw (Qc := fun A => (va_Qv (fun u : Int32 × (Nat → Int32) => post u.1 u.2) (fun u t => va_P D vwCl (wX0_mark cI cJ cS a_o a_bodies u.1 v_kind v_stretchNumber v_space u.2) t.heap) A)) (by decide) (Nat.le_of_ble_eq_true rfl) (fun p e s m args below meth c ls A (S : CallFix p m c cX0_mark 2 s args GW "RoadThatSings$Acting") hE hT hP hD hA hS hr hlocks hname hl => ?_)
  have hS0 := hS
  have hx := S.1
  have hb := S.2.1
  have hl : lv_has ls 2 [(0, .ref a_o), (1, .int x1)] := hl
  unfold F_X0_mark at h
  refine lv_aload_n hx hb dX0_mark_0 rfl (lv_at hl 0 rfl) ?_
  refine gf S hE hP 0 rfl rfl inX0 (k := 1) (by decide) q144 rfl dX0_mark_1 ?_
  refine lv_if_lt (tgt := 26) hx hb dX0_mark_4 (by decide) (fun hc => ?_) (fun hc => ?_)
  · have h := h.1 hc
    refine w_X0_mark_26 S hE hT hA hr hlocks _ _ _ h hP hD hS (lv_sub hl [0] rfl)
  have h := h.2 hc
  refine lv_aload_n hx hb dX0_mark_7 rfl (lv_at hl 0 rfl) ?_
  refine gf S hE hP 0 rfl rfl inX0 (k := 1) (by decide) q144 rfl dX0_mark_8 ?_
  refine lv_bipush (v := 20) hx hb dX0_mark_11 (by decide) ?_
  refine lv_icmp_ge (tgt := 26) hx hb dX0_mark_13 (by decide) (fun hc => ?_) (fun hc => ?_)
  · have h := h.1 hc
    refine w_X0_mark_26 S hE hT hA hr hlocks _ _ _ h hP hD hS (lv_sub hl [0] rfl)
  have h := h.2 hc
  refine lv_aload_n hx hb dX0_mark_16 rfl (lv_at hl 0 rfl) ?_
  refine gf S hE hP 0 rfl rfl inX0 (k := 0) (by decide) q143 rfl dX0_mark_17 ?_
  refine lv_aload_n hx hb dX0_mark_20 rfl (lv_at hl 0 rfl) ?_
  refine gf S hE hP 0 rfl rfl inX0 (k := 1) (by decide) q144 rfl dX0_mark_21 ?_
  refine lv_iload_n hx hb dX0_mark_24 rfl (lv_at hl 1 rfl) ?_
  obtain ⟨hi, h⟩ := h
  refine ias S hE hP hD hS 1 rfl hi dX0_mark_25 (fun H locs hP hD hS => ?_)
  have hP : va_P D vwCl (wX0_mark cI cJ cS a_o a_bodies v_ran v_kind v_stretchNumber v_space (upd f_bodies v_ran.toNatClampNeg x1)) H := hP
  have hD : va_D A (wX0_mark cI cJ cS a_o a_bodies v_ran v_kind v_stretchNumber v_space (upd f_bodies v_ran.toNatClampNeg x1)) := hD
  refine w_X0_mark_26 S hE hT hA hr hlocks _ _ _ h hP hD hS (lv_sub hl [0] rfl)
/-! X9_within -/
abbrev wX9_within (cI cJ cS : ClassId) : va_W := []
def F_X9_within (x0 : Int32) (x1 : Int32) (x2 : Int32) (post : Int32 → Prop) : Prop := ((x0 < x1 → post 0) ∧ (¬ x0 < x1 → ((x2 < x0 → post 0) ∧ (¬ x2 < x0 → post 1))))
set_option maxHeartbeats 4000000 in
set_option maxRecDepth 100000 in
theorem c_X9_within {l : Launch} {D : va_G} {cI cJ cS : ClassId} {ad adK : Nat → Nat}  {x0 : Int32} {x1 : Int32} {x2 : Int32} {post : Int32 → Prop} (h : F_X9_within x0 x1 x2 post) : Met l yX9_within (Cond.code yX9_within cX9_within 3 (some (.boolean)) :: GW) (rmd 0 0 0) (PR D cI cJ cS ad adK [.int x0, .int x1, .int x2] (wX9_within cI cJ cS)) (vp_Si post) 0 0 nof := by
  refine Met.ro (by decide) (Nat.le_of_ble_eq_true rfl) (fun p e s m args below meth c ls (S : CallFix p m c cX9_within 3 s args GW "RoadThatSings") hE hT hP hS hr hlocks hl => ?_)
  have hx := S.1
  have hb := S.2.1
  have hl : lv_has ls 3 [(0, .int x0), (1, .int x1), (2, .int x2)] := hl
  unfold F_X9_within at h
  refine lv_iload_n hx hb dX9_within_0 rfl (lv_at hl 0 rfl) ?_
  refine lv_iload_n hx hb dX9_within_1 rfl (lv_at hl 1 rfl) ?_
  refine lv_icmp_lt (tgt := 14) hx hb dX9_within_2 (by decide) (fun hc => ?_) (fun hc => ?_)
  · have h := h.1 hc
    refine lv_iconst (v := 0) hx hb dX9_within_14 (by decide) ?_
    exact W.zret hx hb hr rfl (fun t ht _ => ⟨_, rfl, h, ht⟩) (fun _ hq => by cases hq) dX9_within_15
  have h := h.2 hc
  refine lv_iload_n hx hb dX9_within_5 rfl (lv_at hl 0 rfl) ?_
  refine lv_iload_n hx hb dX9_within_6 rfl (lv_at hl 2 rfl) ?_
  refine lv_icmp_gt (tgt := 14) hx hb dX9_within_7 (by decide) (fun hc => ?_) (fun hc => ?_)
  · have h := h.1 hc
    refine lv_iconst (v := 0) hx hb dX9_within_14 (by decide) ?_
    exact W.zret hx hb hr rfl (fun t ht _ => ⟨_, rfl, h, ht⟩) (fun _ hq => by cases hq) dX9_within_15
  have h := h.2 hc
  refine lv_iconst (v := 1) hx hb dX9_within_10 (by decide) ?_
  refine lv_goto (tgt := 15) hx hb dX9_within_11 (by decide) ?_
  exact W.zret hx hb hr rfl (fun t ht _ => ⟨_, rfl, h, ht⟩) (fun _ hq => by cases hq) dX9_within_15
/-! X9_kindAbove -/
abbrev wX9_kindAbove (cI cJ cS : ClassId) : va_W := []
def F_X9_kindAbove (x0 : Int32) (post : Int32 → Prop) : Prop := (F_X9_within x0 0 6 (fun r4 => ((r4 = 0 → post (-1)) ∧ (¬ r4 = 0 → (vp_in x0 7 ∧ post (tbKIND_ABOVE.getD x0.toNatClampNeg 0))))))
set_option maxHeartbeats 4000000 in
set_option maxRecDepth 100000 in
theorem c_X9_kindAbove {l : Launch} {D : va_G} {cI cJ cS : ClassId} {ad adK : Nat → Nat}  {x0 : Int32} {post : Int32 → Prop} (h : F_X9_kindAbove x0 post) : Met l yX9_kindAbove (Cond.code yX9_kindAbove cX9_kindAbove 1 (some (.int)) :: GW) (rmd 1 0 0) (PR D cI cJ cS ad adK [.int x0] (wX9_kindAbove cI cJ cS)) (vp_Si post) 0 0 nof := by
  refine Met.ro (by decide) (Nat.le_of_ble_eq_true rfl) (fun p e s m args below meth c ls (S : CallFix p m c cX9_kindAbove 1 s args GW "RoadThatSings") hE hT hP hS hr hlocks hl => ?_)
  have hx := S.1
  have hb := S.2.1
  have hl : lv_has ls 1 [(0, .int x0)] := hl
  unfold F_X9_kindAbove at h
  refine lv_iload_n hx hb dX9_kindAbove_0 rfl (lv_at hl 0 rfl) ?_
  refine lv_iconst (v := 0) hx hb dX9_kindAbove_1 (by decide) ?_
  refine lv_bipush (v := 6) hx hb dX9_kindAbove_2 (by decide) ?_
  refine ro_i (roS S hE hT hS (c_X9_within h) lkX9_63 rfl ⟨(Nat.le_of_ble_eq_true rfl), (Nat.le_of_ble_eq_true rfl)⟩ (hP.sub [] rfl) hl.1 rfl (Nat.le_of_ble_eq_true rfl) dX9_kindAbove_4 ⟨(Nat.zero_le _), (Nat.zero_le _)⟩) (fun r4 h => ?_)
  refine lv_if_eq (tgt := 18) hx hb dX9_kindAbove_7 (by decide) (fun hc => ?_) (fun hc => ?_)
  · have h := h.1 hc
    refine lv_iconst (v := (-1)) hx hb dX9_kindAbove_18 (by decide) ?_
    exact W.iret hx hb hr (fun t ht _ => ⟨_, rfl, h, ht⟩) (fun _ hq => by cases hq) dX9_kindAbove_19
  have h := h.2 hc
  refine gsA S hT hS stm_KIND_ABOVE q342 dX9_kindAbove_10 (fun t10 ht10 => ?_)
  refine lv_iload_n hx hb dX9_kindAbove_13 rfl (lv_at hl 0 rfl) ?_
  obtain ⟨hi, h⟩ := h
  refine tal S hS ht10 hi dX9_kindAbove_14 ?_
  refine lv_goto (tgt := 19) hx hb dX9_kindAbove_15 (by decide) ?_
  exact W.iret hx hb hr (fun t ht _ => ⟨_, rfl, h, ht⟩) (fun _ hq => by cases hq) dX9_kindAbove_19
/-! X1_count -/
abbrev wX1_count (cI cJ cS : ClassId) (a_o : Nat) (z_speeds z_bases z_shares : Value) (v_carCount : Int32) : va_W := [(a_o, .inr (1, [z_speeds, z_bases, z_shares, .int v_carCount]))]
def F_X1_count (v_carCount : Int32) (post : Int32 → Prop) : Prop := post v_carCount
set_option maxHeartbeats 4000000 in
set_option maxRecDepth 100000 in
theorem c_X1_count {l : Launch} {D : va_G} {cI cJ cS : ClassId} {ad adK : Nat → Nat} {a_o : Nat} {z_speeds z_bases z_shares : Value} {v_carCount : Int32} {post : Int32 → Prop} (h : F_X1_count v_carCount post) : Met l yX1_count (Cond.code yX1_count cX1_count 1 (some (.int)) :: GW) (rmd 0 0 0) (PR D cI cJ cS ad adK [.ref a_o] (wX1_count cI cJ cS a_o z_speeds z_bases z_shares v_carCount)) (vp_Si post) 0 0 nof := by
  refine Met.ro (by decide) (Nat.le_of_ble_eq_true rfl) (fun p e s m args below meth c ls (S : CallFix p m c cX1_count 1 s args GW "RoadThatSings$Cars") hE hT hP hS hr hlocks hl => ?_)
  have hx := S.1
  have hb := S.2.1
  have hl : lv_has ls 1 [(0, .ref a_o)] := hl
  unfold F_X1_count at h
  refine lv_aload_n hx hb dX1_count_0 rfl (lv_at hl 0 rfl) ?_
  refine gf S hE hP 0 rfl rfl inX1 (k := 3) (by decide) q64 rfl dX1_count_1 ?_
  exact W.iret hx hb hr (fun t ht _ => ⟨_, rfl, h, ht⟩) (fun _ hq => by cases hq) dX1_count_4
/-! X1_has -/
abbrev wX1_has (cI cJ cS : ClassId) (a_o : Nat) (z_speeds z_bases z_shares : Value) (v_carCount : Int32) : va_W := [(a_o, .inr (1, [z_speeds, z_bases, z_shares, .int v_carCount]))]
def F_X1_has (v_carCount : Int32) (x1 : Int32) (post : Int32 → Prop) : Prop := ((x1 < 0 → post 0) ∧ (¬ x1 < 0 → ((v_carCount ≤ x1 → post 0) ∧ (¬ v_carCount ≤ x1 → ((6 ≤ x1 → post 0) ∧ (¬ 6 ≤ x1 → post 1))))))
set_option maxHeartbeats 4000000 in
set_option maxRecDepth 100000 in
theorem c_X1_has {l : Launch} {D : va_G} {cI cJ cS : ClassId} {ad adK : Nat → Nat} {a_o : Nat} {z_speeds z_bases z_shares : Value} {v_carCount : Int32} {x1 : Int32} {post : Int32 → Prop} (h : F_X1_has v_carCount x1 post) : Met l yX1_has (Cond.code yX1_has cX1_has 2 (some (.boolean)) :: GW) (rmd 0 0 0) (PR D cI cJ cS ad adK [.ref a_o, .int x1] (wX1_has cI cJ cS a_o z_speeds z_bases z_shares v_carCount)) (vp_Si post) 0 0 nof := by
  refine Met.ro (by decide) (Nat.le_of_ble_eq_true rfl) (fun p e s m args below meth c ls (S : CallFix p m c cX1_has 2 s args GW "RoadThatSings$Cars") hE hT hP hS hr hlocks hl => ?_)
  have hx := S.1
  have hb := S.2.1
  have hl : lv_has ls 2 [(0, .ref a_o), (1, .int x1)] := hl
  unfold F_X1_has at h
  refine lv_iload_n hx hb dX1_has_0 rfl (lv_at hl 1 rfl) ?_
  refine lv_if_lt (tgt := 22) hx hb dX1_has_1 (by decide) (fun hc => ?_) (fun hc => ?_)
  · have h := h.1 hc
    refine lv_iconst (v := 0) hx hb dX1_has_22 (by decide) ?_
    exact W.zret hx hb hr rfl (fun t ht _ => ⟨_, rfl, h, ht⟩) (fun _ hq => by cases hq) dX1_has_23
  have h := h.2 hc
  refine lv_iload_n hx hb dX1_has_4 rfl (lv_at hl 1 rfl) ?_
  refine lv_aload_n hx hb dX1_has_5 rfl (lv_at hl 0 rfl) ?_
  refine gf S hE hP 0 rfl rfl inX1 (k := 3) (by decide) q64 rfl dX1_has_6 ?_
  refine lv_icmp_ge (tgt := 22) hx hb dX1_has_9 (by decide) (fun hc => ?_) (fun hc => ?_)
  · have h := h.1 hc
    refine lv_iconst (v := 0) hx hb dX1_has_22 (by decide) ?_
    exact W.zret hx hb hr rfl (fun t ht _ => ⟨_, rfl, h, ht⟩) (fun _ hq => by cases hq) dX1_has_23
  have h := h.2 hc
  refine lv_iload_n hx hb dX1_has_12 rfl (lv_at hl 1 rfl) ?_
  refine lv_bipush (v := 6) hx hb dX1_has_13 (by decide) ?_
  refine lv_icmp_ge (tgt := 22) hx hb dX1_has_15 (by decide) (fun hc => ?_) (fun hc => ?_)
  · have h := h.1 hc
    refine lv_iconst (v := 0) hx hb dX1_has_22 (by decide) ?_
    exact W.zret hx hb hr rfl (fun t ht _ => ⟨_, rfl, h, ht⟩) (fun _ hq => by cases hq) dX1_has_23
  have h := h.2 hc
  refine lv_iconst (v := 1) hx hb dX1_has_18 (by decide) ?_
  refine lv_goto (tgt := 23) hx hb dX1_has_19 (by decide) ?_
  exact W.zret hx hb hr rfl (fun t ht _ => ⟨_, rfl, h, ht⟩) (fun _ hq => by cases hq) dX1_has_23
/-! X1_isFull -/
abbrev wX1_isFull (cI cJ cS : ClassId) (a_o : Nat) (z_speeds z_bases z_shares : Value) (v_carCount : Int32) : va_W := [(a_o, .inr (1, [z_speeds, z_bases, z_shares, .int v_carCount]))]
def F_X1_isFull (v_carCount : Int32) (post : Int32 → Prop) : Prop := ((v_carCount < 6 → post 0) ∧ (¬ v_carCount < 6 → post 1))
set_option maxHeartbeats 4000000 in
set_option maxRecDepth 100000 in
theorem c_X1_isFull {l : Launch} {D : va_G} {cI cJ cS : ClassId} {ad adK : Nat → Nat} {a_o : Nat} {z_speeds z_bases z_shares : Value} {v_carCount : Int32} {post : Int32 → Prop} (h : F_X1_isFull v_carCount post) : Met l yX1_isFull (Cond.code yX1_isFull cX1_isFull 1 (some (.boolean)) :: GW) (rmd 0 0 0) (PR D cI cJ cS ad adK [.ref a_o] (wX1_isFull cI cJ cS a_o z_speeds z_bases z_shares v_carCount)) (vp_Si post) 0 0 nof := by
  refine Met.ro (by decide) (Nat.le_of_ble_eq_true rfl) (fun p e s m args below meth c ls (S : CallFix p m c cX1_isFull 1 s args GW "RoadThatSings$Cars") hE hT hP hS hr hlocks hl => ?_)
  have hx := S.1
  have hb := S.2.1
  have hl : lv_has ls 1 [(0, .ref a_o)] := hl
  unfold F_X1_isFull at h
  refine lv_aload_n hx hb dX1_isFull_0 rfl (lv_at hl 0 rfl) ?_
  refine gf S hE hP 0 rfl rfl inX1 (k := 3) (by decide) q64 rfl dX1_isFull_1 ?_
  refine lv_bipush (v := 6) hx hb dX1_isFull_4 (by decide) ?_
  refine lv_icmp_lt (tgt := 13) hx hb dX1_isFull_6 (by decide) (fun hc => ?_) (fun hc => ?_)
  · have h := h.1 hc
    refine lv_iconst (v := 0) hx hb dX1_isFull_13 (by decide) ?_
    exact W.zret hx hb hr rfl (fun t ht _ => ⟨_, rfl, h, ht⟩) (fun _ hq => by cases hq) dX1_isFull_14
  have h := h.2 hc
  refine lv_iconst (v := 1) hx hb dX1_isFull_9 (by decide) ?_
  refine lv_goto (tgt := 14) hx hb dX1_isFull_10 (by decide) ?_
  exact W.zret hx hb hr rfl (fun t ht _ => ⟨_, rfl, h, ht⟩) (fun _ hq => by cases hq) dX1_isFull_14
/-! X1_add -/
abbrev wX1_add (cI cJ cS : ClassId) (a_o a_bases a_shares a_speeds : Nat) (v_carCount : Int32) (f_bases : Nat → Int32) (f_shares : Nat → Int32) (f_speeds : Nat → Int32) : va_W := [(a_o, .inr (1, [.ref a_speeds, .ref a_bases, .ref a_shares, .int v_carCount])), (a_bases, .inl (cI, 6, .inl f_bases)), (a_shares, .inl (cI, 6, .inl f_shares)), (a_speeds, .inl (cI, 6, .inl f_speeds))]
def F_X1_add (v_carCount : Int32) (f_bases : Nat → Int32) (f_shares : Nat → Int32) (f_speeds : Nat → Int32) (x1 : Int32) (x2 : Int32) (x3 : Int32) (post : Int32 → Int32 → (Nat → Int32) → (Nat → Int32) → (Nat → Int32) → Prop) : Prop := (F_X1_isFull v_carCount (fun r1 => ((r1 = 0 → ((0 ≤ v_carCount → (vp_in v_carCount 6 ∧ (vp_in v_carCount 6 ∧ (vp_in v_carCount 6 ∧ post ((v_carCount + 1) - 1) (v_carCount + 1) (upd f_bases v_carCount.toNatClampNeg x2) (upd f_shares v_carCount.toNatClampNeg x3) (upd f_speeds v_carCount.toNatClampNeg x1))))) ∧ (¬ 0 ≤ v_carCount → post (-1) v_carCount f_bases f_shares f_speeds))) ∧ (¬ r1 = 0 → post (-1) v_carCount f_bases f_shares f_speeds))))
set_option maxHeartbeats 4000000 in
set_option maxRecDepth 100000 in
theorem c_X1_add {l : Launch} {D : va_G} {cI cJ cS : ClassId} {ad adK : Nat → Nat} {a_o a_bases a_shares a_speeds : Nat} {v_carCount : Int32} {f_bases : Nat → Int32} {f_shares : Nat → Int32} {f_speeds : Nat → Int32} {x1 : Int32} {x2 : Int32} {x3 : Int32} {post : Int32 → Int32 → (Nat → Int32) → (Nat → Int32) → (Nat → Int32) → Prop} (h : F_X1_add v_carCount f_bases f_shares f_speeds x1 x2 x3 post) {sz : Nat} : Met l yX1_add (Cond.code yX1_add cX1_add 4 (some (.int)) :: GW) (rmd 1 0 0) (PW D cI cJ cS ad adK [.ref a_o, .int x1, .int x2, .int x3] (wX1_add cI cJ cS a_o a_bases a_shares a_speeds v_carCount f_bases f_shares f_speeds) sz) (va_Qi (fun r (u : Int32 × (Nat → Int32) × (Nat → Int32) × (Nat → Int32)) => post r u.1 u.2.1 u.2.2.1 u.2.2.2) (fun u t => va_P D vwCl (wX1_add cI cJ cS a_o a_bases a_shares a_speeds u.1 u.2.1 u.2.2.1 u.2.2.2) t.heap) (va_A (wX1_add cI cJ cS a_o a_bases a_shares a_speeds v_carCount f_bases f_shares f_speeds) sz)) 0 0 (va_A (wX1_add cI cJ cS a_o a_bases a_shares a_speeds v_carCount f_bases f_shares f_speeds) sz) := by
  refine Met.rw (Qc := fun A => (va_Qi (fun r (u : Int32 × (Nat → Int32) × (Nat → Int32) × (Nat → Int32)) => post r u.1 u.2.1 u.2.2.1 u.2.2.2) (fun u t => va_P D vwCl (wX1_add cI cJ cS a_o a_bases a_shares a_speeds u.1 u.2.1 u.2.2.1 u.2.2.2) t.heap) A)) (by decide) (Nat.le_of_ble_eq_true rfl) (fun p e s m args below meth c ls A (S : CallFix p m c cX1_add 4 s args GW "RoadThatSings$Cars") hE hT hP hD hA hS hr hlocks hname hl => ?_)
  have hS0 := hS
  have hx := S.1
  have hb := S.2.1
  have hl : lv_has ls 4 [(0, .ref a_o), (1, .int x1), (2, .int x2), (3, .int x3)] := hl
  unfold F_X1_add at h
  refine lv_aload_n hx hb dX1_add_0 rfl (lv_at hl 0 rfl) ?_
  refine ro_i (roV S hE hT hS (c_X1_isFull h) lkX1_31 rfl ⟨(Nat.le_of_ble_eq_true rfl), (Nat.le_of_ble_eq_true rfl)⟩ (hP.sub [0] rfl) 0 rfl rfl hl.1 rfl (Nat.le_of_ble_eq_true rfl) dX1_add_1 ⟨(Nat.zero_le _), (Nat.zero_le _)⟩) (fun r1 h => ?_)
  refine lv_if_ne (tgt := 14) hx hb dX1_add_4 (by decide) (fun hc => ?_) (fun hc => ?_)
  · have h := h.2 hc
    refine lv_iconst (v := (-1)) hx hb dX1_add_14 (by decide) ?_
    exact W.iret hx hb hr (fun t ht _ => ⟨⟨_, (v_carCount, f_bases, f_shares, f_speeds), rfl, h, hPt hP ht⟩, hS.F ht⟩) hS.2.2 dX1_add_15
  have h := h.1 hc
  refine lv_aload_n hx hb dX1_add_7 rfl (lv_at hl 0 rfl) ?_
  refine gf S hE hP 0 rfl rfl inX1 (k := 3) (by decide) q64 rfl dX1_add_8 ?_
  refine lv_if_ge (tgt := 16) hx hb dX1_add_11 (by decide) (fun hc => ?_) (fun hc => ?_)
  · have h := h.1 hc
    refine lv_aload_n hx hb dX1_add_16 rfl (lv_at hl 0 rfl) ?_
    refine gf S hE hP 0 rfl rfl inX1 (k := 0) (by decide) q61 rfl dX1_add_17 ?_
    refine lv_aload_n hx hb dX1_add_20 rfl (lv_at hl 0 rfl) ?_
    refine gf S hE hP 0 rfl rfl inX1 (k := 3) (by decide) q64 rfl dX1_add_21 ?_
    refine lv_iload_n hx hb dX1_add_24 rfl (lv_at hl 1 rfl) ?_
    obtain ⟨hi, h⟩ := h
    refine ias S hE hP hD hS 3 rfl hi dX1_add_25 (fun H locs hP hD hS => ?_)
    have hP : va_P D vwCl (wX1_add cI cJ cS a_o a_bases a_shares a_speeds v_carCount f_bases f_shares (upd f_speeds v_carCount.toNatClampNeg x1)) H := hP
    have hD : va_D A (wX1_add cI cJ cS a_o a_bases a_shares a_speeds v_carCount f_bases f_shares (upd f_speeds v_carCount.toNatClampNeg x1)) := hD
    refine lv_aload_n hx hb dX1_add_26 rfl (lv_at hl 0 rfl) ?_
    refine gf S hE hP 0 rfl rfl inX1 (k := 1) (by decide) q62 rfl dX1_add_27 ?_
    refine lv_aload_n hx hb dX1_add_30 rfl (lv_at hl 0 rfl) ?_
    refine gf S hE hP 0 rfl rfl inX1 (k := 3) (by decide) q64 rfl dX1_add_31 ?_
    refine lv_iload_n hx hb dX1_add_34 rfl (lv_at hl 2 rfl) ?_
    obtain ⟨hi, h⟩ := h
    refine ias S hE hP hD hS 1 rfl hi dX1_add_35 (fun H locs hP hD hS => ?_)
    have hP : va_P D vwCl (wX1_add cI cJ cS a_o a_bases a_shares a_speeds v_carCount (upd f_bases v_carCount.toNatClampNeg x2) f_shares (upd f_speeds v_carCount.toNatClampNeg x1)) H := hP
    have hD : va_D A (wX1_add cI cJ cS a_o a_bases a_shares a_speeds v_carCount (upd f_bases v_carCount.toNatClampNeg x2) f_shares (upd f_speeds v_carCount.toNatClampNeg x1)) := hD
    refine lv_aload_n hx hb dX1_add_36 rfl (lv_at hl 0 rfl) ?_
    refine gf S hE hP 0 rfl rfl inX1 (k := 2) (by decide) q63 rfl dX1_add_37 ?_
    refine lv_aload_n hx hb dX1_add_40 rfl (lv_at hl 0 rfl) ?_
    refine gf S hE hP 0 rfl rfl inX1 (k := 3) (by decide) q64 rfl dX1_add_41 ?_
    refine lv_iload_n hx hb dX1_add_44 rfl (lv_at hl 3 rfl) ?_
    obtain ⟨hi, h⟩ := h
    refine ias S hE hP hD hS 2 rfl hi dX1_add_45 (fun H locs hP hD hS => ?_)
    have hP : va_P D vwCl (wX1_add cI cJ cS a_o a_bases a_shares a_speeds v_carCount (upd f_bases v_carCount.toNatClampNeg x2) (upd f_shares v_carCount.toNatClampNeg x3) (upd f_speeds v_carCount.toNatClampNeg x1)) H := hP
    have hD : va_D A (wX1_add cI cJ cS a_o a_bases a_shares a_speeds v_carCount (upd f_bases v_carCount.toNatClampNeg x2) (upd f_shares v_carCount.toNatClampNeg x3) (upd f_speeds v_carCount.toNatClampNeg x1)) := hD
    refine lv_aload_n hx hb dX1_add_46 rfl (lv_at hl 0 rfl) ?_
    refine lv_dup hx hb dX1_add_47 rfl ?_
    refine gf S hE hP 0 rfl rfl inX1 (k := 3) (by decide) q64 rfl dX1_add_48 ?_
    refine lv_iconst (v := 1) hx hb dX1_add_51 (by decide) ?_
    refine lv_iadd hx hb dX1_add_52 ?_
    refine pf S hE hP hD hS 0 (k := 3) rfl rfl inX1 tyX1_ok nmX1 (by decide) q64 rfl rfl rfl (Nat.le_of_ble_eq_true rfl) dX1_add_53 (fun H locs hP hD hS => ?_)
    have hP : va_P D vwCl (wX1_add cI cJ cS a_o a_bases a_shares a_speeds (v_carCount + 1) (upd f_bases v_carCount.toNatClampNeg x2) (upd f_shares v_carCount.toNatClampNeg x3) (upd f_speeds v_carCount.toNatClampNeg x1)) H := hP
    have hD : va_D A (wX1_add cI cJ cS a_o a_bases a_shares a_speeds (v_carCount + 1) (upd f_bases v_carCount.toNatClampNeg x2) (upd f_shares v_carCount.toNatClampNeg x3) (upd f_speeds v_carCount.toNatClampNeg x1)) := hD
    refine lv_aload_n hx hb dX1_add_56 rfl (lv_at hl 0 rfl) ?_
    refine gf S hE hP 0 rfl rfl inX1 (k := 3) (by decide) q64 rfl dX1_add_57 ?_
    refine lv_iconst (v := 1) hx hb dX1_add_60 (by decide) ?_
    refine lv_isub hx hb dX1_add_61 ?_
    exact W.iret hx hb hr (fun t ht _ => ⟨⟨_, ((v_carCount + 1), (upd f_bases v_carCount.toNatClampNeg x2), (upd f_shares v_carCount.toNatClampNeg x3), (upd f_speeds v_carCount.toNatClampNeg x1)), rfl, h, hPt hP ht⟩, hS.F ht⟩) hS.2.2 dX1_add_62
  have h := h.2 hc
  refine lv_iconst (v := (-1)) hx hb dX1_add_14 (by decide) ?_
  exact W.iret hx hb hr (fun t ht _ => ⟨⟨_, (v_carCount, f_bases, f_shares, f_speeds), rfl, h, hPt hP ht⟩, hS.F ht⟩) hS.2.2 dX1_add_15
/-! X1_speedOf -/
abbrev wX1_speedOf (cI cJ cS : ClassId) (a_o a_speeds : Nat) (z_bases z_shares : Value) (v_carCount : Int32) (f_speeds : Nat → Int32) : va_W := [(a_o, .inr (1, [.ref a_speeds, z_bases, z_shares, .int v_carCount])), (a_speeds, .inl (cI, 6, .inl f_speeds))]
def F_X1_speedOf (v_carCount : Int32) (f_speeds : Nat → Int32) (x1 : Int32) (post : Int32 → Prop) : Prop := (F_X1_has v_carCount x1 (fun r2 => ((r2 = 0 → post 0) ∧ (¬ r2 = 0 → (vp_in x1 6 ∧ post (f_speeds x1.toNatClampNeg))))))
set_option maxHeartbeats 4000000 in
set_option maxRecDepth 100000 in
theorem c_X1_speedOf {l : Launch} {D : va_G} {cI cJ cS : ClassId} {ad adK : Nat → Nat} {a_o a_speeds : Nat} {z_bases z_shares : Value} {v_carCount : Int32} {f_speeds : Nat → Int32} {x1 : Int32} {post : Int32 → Prop} (h : F_X1_speedOf v_carCount f_speeds x1 post) : Met l yX1_speedOf (Cond.code yX1_speedOf cX1_speedOf 2 (some (.int)) :: GW) (rmd 1 0 0) (PR D cI cJ cS ad adK [.ref a_o, .int x1] (wX1_speedOf cI cJ cS a_o a_speeds z_bases z_shares v_carCount f_speeds)) (vp_Si post) 0 0 nof := by
  refine Met.ro (by decide) (Nat.le_of_ble_eq_true rfl) (fun p e s m args below meth c ls (S : CallFix p m c cX1_speedOf 2 s args GW "RoadThatSings$Cars") hE hT hP hS hr hlocks hl => ?_)
  have hx := S.1
  have hb := S.2.1
  have hl : lv_has ls 2 [(0, .ref a_o), (1, .int x1)] := hl
  unfold F_X1_speedOf at h
  refine lv_aload_n hx hb dX1_speedOf_0 rfl (lv_at hl 0 rfl) ?_
  refine lv_iload_n hx hb dX1_speedOf_1 rfl (lv_at hl 1 rfl) ?_
  refine ro_i (roV S hE hT hS (c_X1_has h) lkX1_35 rfl ⟨(Nat.le_of_ble_eq_true rfl), (Nat.le_of_ble_eq_true rfl)⟩ (hP.sub [0] rfl) 0 rfl rfl hl.1 rfl (Nat.le_of_ble_eq_true rfl) dX1_speedOf_2 ⟨(Nat.zero_le _), (Nat.zero_le _)⟩) (fun r2 h => ?_)
  refine lv_if_eq (tgt := 17) hx hb dX1_speedOf_5 (by decide) (fun hc => ?_) (fun hc => ?_)
  · have h := h.1 hc
    refine lv_iconst (v := 0) hx hb dX1_speedOf_17 (by decide) ?_
    exact W.iret hx hb hr (fun t ht _ => ⟨_, rfl, h, ht⟩) (fun _ hq => by cases hq) dX1_speedOf_18
  have h := h.2 hc
  refine lv_aload_n hx hb dX1_speedOf_8 rfl (lv_at hl 0 rfl) ?_
  refine gf S hE hP 0 rfl rfl inX1 (k := 0) (by decide) q61 rfl dX1_speedOf_9 ?_
  refine lv_iload_n hx hb dX1_speedOf_12 rfl (lv_at hl 1 rfl) ?_
  obtain ⟨hi, h⟩ := h
  refine ial S hE hP 1 rfl hi dX1_speedOf_13 ?_
  refine lv_goto (tgt := 18) hx hb dX1_speedOf_14 (by decide) ?_
  exact W.iret hx hb hr (fun t ht _ => ⟨_, rfl, h, ht⟩) (fun _ hq => by cases hq) dX1_speedOf_18
/-! X1_baseOf -/
abbrev wX1_baseOf (cI cJ cS : ClassId) (a_o a_bases : Nat) (z_speeds z_shares : Value) (v_carCount : Int32) (f_bases : Nat → Int32) : va_W := [(a_o, .inr (1, [z_speeds, .ref a_bases, z_shares, .int v_carCount])), (a_bases, .inl (cI, 6, .inl f_bases))]
def F_X1_baseOf (v_carCount : Int32) (f_bases : Nat → Int32) (x1 : Int32) (post : Int32 → Prop) : Prop := (F_X1_has v_carCount x1 (fun r2 => ((r2 = 0 → post 0) ∧ (¬ r2 = 0 → (vp_in x1 6 ∧ post (f_bases x1.toNatClampNeg))))))
set_option maxHeartbeats 4000000 in
set_option maxRecDepth 100000 in
theorem c_X1_baseOf {l : Launch} {D : va_G} {cI cJ cS : ClassId} {ad adK : Nat → Nat} {a_o a_bases : Nat} {z_speeds z_shares : Value} {v_carCount : Int32} {f_bases : Nat → Int32} {x1 : Int32} {post : Int32 → Prop} (h : F_X1_baseOf v_carCount f_bases x1 post) : Met l yX1_baseOf (Cond.code yX1_baseOf cX1_baseOf 2 (some (.int)) :: GW) (rmd 1 0 0) (PR D cI cJ cS ad adK [.ref a_o, .int x1] (wX1_baseOf cI cJ cS a_o a_bases z_speeds z_shares v_carCount f_bases)) (vp_Si post) 0 0 nof := by
  refine Met.ro (by decide) (Nat.le_of_ble_eq_true rfl) (fun p e s m args below meth c ls (S : CallFix p m c cX1_baseOf 2 s args GW "RoadThatSings$Cars") hE hT hP hS hr hlocks hl => ?_)
  have hx := S.1
  have hb := S.2.1
  have hl : lv_has ls 2 [(0, .ref a_o), (1, .int x1)] := hl
  unfold F_X1_baseOf at h
  refine lv_aload_n hx hb dX1_baseOf_0 rfl (lv_at hl 0 rfl) ?_
  refine lv_iload_n hx hb dX1_baseOf_1 rfl (lv_at hl 1 rfl) ?_
  refine ro_i (roV S hE hT hS (c_X1_has h) lkX1_35 rfl ⟨(Nat.le_of_ble_eq_true rfl), (Nat.le_of_ble_eq_true rfl)⟩ (hP.sub [0] rfl) 0 rfl rfl hl.1 rfl (Nat.le_of_ble_eq_true rfl) dX1_baseOf_2 ⟨(Nat.zero_le _), (Nat.zero_le _)⟩) (fun r2 h => ?_)
  refine lv_if_eq (tgt := 17) hx hb dX1_baseOf_5 (by decide) (fun hc => ?_) (fun hc => ?_)
  · have h := h.1 hc
    refine lv_iconst (v := 0) hx hb dX1_baseOf_17 (by decide) ?_
    exact W.iret hx hb hr (fun t ht _ => ⟨_, rfl, h, ht⟩) (fun _ hq => by cases hq) dX1_baseOf_18
  have h := h.2 hc
  refine lv_aload_n hx hb dX1_baseOf_8 rfl (lv_at hl 0 rfl) ?_
  refine gf S hE hP 0 rfl rfl inX1 (k := 1) (by decide) q62 rfl dX1_baseOf_9 ?_
  refine lv_iload_n hx hb dX1_baseOf_12 rfl (lv_at hl 1 rfl) ?_
  obtain ⟨hi, h⟩ := h
  refine ial S hE hP 1 rfl hi dX1_baseOf_13 ?_
  refine lv_goto (tgt := 18) hx hb dX1_baseOf_14 (by decide) ?_
  exact W.iret hx hb hr (fun t ht _ => ⟨_, rfl, h, ht⟩) (fun _ hq => by cases hq) dX1_baseOf_18
/-! X1_shareOf -/
abbrev wX1_shareOf (cI cJ cS : ClassId) (a_o a_shares : Nat) (z_speeds z_bases : Value) (v_carCount : Int32) (f_shares : Nat → Int32) : va_W := [(a_o, .inr (1, [z_speeds, z_bases, .ref a_shares, .int v_carCount])), (a_shares, .inl (cI, 6, .inl f_shares))]
def F_X1_shareOf (v_carCount : Int32) (f_shares : Nat → Int32) (x1 : Int32) (post : Int32 → Prop) : Prop := (F_X1_has v_carCount x1 (fun r2 => ((r2 = 0 → post 0) ∧ (¬ r2 = 0 → (vp_in x1 6 ∧ post (f_shares x1.toNatClampNeg))))))
set_option maxHeartbeats 4000000 in
set_option maxRecDepth 100000 in
theorem c_X1_shareOf {l : Launch} {D : va_G} {cI cJ cS : ClassId} {ad adK : Nat → Nat} {a_o a_shares : Nat} {z_speeds z_bases : Value} {v_carCount : Int32} {f_shares : Nat → Int32} {x1 : Int32} {post : Int32 → Prop} (h : F_X1_shareOf v_carCount f_shares x1 post) : Met l yX1_shareOf (Cond.code yX1_shareOf cX1_shareOf 2 (some (.int)) :: GW) (rmd 1 0 0) (PR D cI cJ cS ad adK [.ref a_o, .int x1] (wX1_shareOf cI cJ cS a_o a_shares z_speeds z_bases v_carCount f_shares)) (vp_Si post) 0 0 nof := by
  refine Met.ro (by decide) (Nat.le_of_ble_eq_true rfl) (fun p e s m args below meth c ls (S : CallFix p m c cX1_shareOf 2 s args GW "RoadThatSings$Cars") hE hT hP hS hr hlocks hl => ?_)
  have hx := S.1
  have hb := S.2.1
  have hl : lv_has ls 2 [(0, .ref a_o), (1, .int x1)] := hl
  unfold F_X1_shareOf at h
  refine lv_aload_n hx hb dX1_shareOf_0 rfl (lv_at hl 0 rfl) ?_
  refine lv_iload_n hx hb dX1_shareOf_1 rfl (lv_at hl 1 rfl) ?_
  refine ro_i (roV S hE hT hS (c_X1_has h) lkX1_35 rfl ⟨(Nat.le_of_ble_eq_true rfl), (Nat.le_of_ble_eq_true rfl)⟩ (hP.sub [0] rfl) 0 rfl rfl hl.1 rfl (Nat.le_of_ble_eq_true rfl) dX1_shareOf_2 ⟨(Nat.zero_le _), (Nat.zero_le _)⟩) (fun r2 h => ?_)
  refine lv_if_eq (tgt := 17) hx hb dX1_shareOf_5 (by decide) (fun hc => ?_) (fun hc => ?_)
  · have h := h.1 hc
    refine lv_iconst (v := 0) hx hb dX1_shareOf_17 (by decide) ?_
    exact W.iret hx hb hr (fun t ht _ => ⟨_, rfl, h, ht⟩) (fun _ hq => by cases hq) dX1_shareOf_18
  have h := h.2 hc
  refine lv_aload_n hx hb dX1_shareOf_8 rfl (lv_at hl 0 rfl) ?_
  refine gf S hE hP 0 rfl rfl inX1 (k := 2) (by decide) q63 rfl dX1_shareOf_9 ?_
  refine lv_iload_n hx hb dX1_shareOf_12 rfl (lv_at hl 1 rfl) ?_
  obtain ⟨hi, h⟩ := h
  refine ial S hE hP 1 rfl hi dX1_shareOf_13 ?_
  refine lv_goto (tgt := 18) hx hb dX1_shareOf_14 (by decide) ?_
  exact W.iret hx hb hr (fun t ht _ => ⟨_, rfl, h, ht⟩) (fun _ hq => by cases hq) dX1_shareOf_18
/-! X1_shareOfAll -/
abbrev wX1_shareOfAll (cI cJ cS : ClassId) (a_o a_shares : Nat) (z_speeds z_bases : Value) (v_carCount : Int32) (f_shares : Nat → Int32) : va_W := [(a_o, .inr (1, [z_speeds, z_bases, .ref a_shares, .int v_carCount])), (a_shares, .inl (cI, 6, .inl f_shares))]
def L_X1_shareOfAll_4 (v_carCount : Int32) (f_shares : Nat → Int32) (post : Int32 → Prop) : Nat → Int32 → Int32 → Prop
  | 0, _, _ => False
  | n4 + 1, x1, x2 => ((v_carCount ≤ x2 → post x1) ∧ (¬ v_carCount ≤ x2 → (F_X1_shareOf v_carCount f_shares x2 (fun r15 => (∀ x1_19 : Int32, x1_19 = x1 + r15 → (∀ x2_20 : Int32, x2_20 = x2 + 1 → L_X1_shareOfAll_4 v_carCount f_shares post n4 x1_19 x2_20))))))
def F_X1_shareOfAll (v_carCount : Int32) (f_shares : Nat → Int32) (post : Int32 → Prop) : Prop := (∃ n4 : Nat, L_X1_shareOfAll_4 v_carCount f_shares post n4 0 0)
set_option maxHeartbeats 4000000 in
set_option maxRecDepth 100000 in
theorem w_X1_shareOfAll_4 {l : Launch} {D : va_G} {cI cJ cS : ClassId} {ad adK : Nat → Nat} {a_o a_shares : Nat} {z_speeds z_bases : Value} {v_carCount : Int32} {f_shares : Nat → Int32} {post : Int32 → Prop} {p : Program} {e : Env} {s : State} {m : MethodId} {args : Array Value} {below : List Frame} {meth : Method} {c : Code} (S : CallFix p m c cX1_shareOfAll 3 s args GW "RoadThatSings$Cars") (hE : EN D cI cJ cS s) (hT : ST ad adK nof s s.heap) (hP : va_P D vwCl (wX1_shareOfAll cI cJ cS a_o a_shares z_speeds z_bases v_carCount f_shares) s.heap) (hS : va_S nof s.heap s.heap []) (hr : meth.sig.returnType = (some (.int))) (hlocks : meth.locks = false) : ∀ n : Nat, ∀ (x1 : Int32) (x2 : Int32) (ls : Array Slot), L_X1_shareOfAll_4 v_carCount f_shares post n x1 x2 → lv_has ls 3 [(0, .ref a_o), (1, .int x1), (2, .int x2)] → W p l e (rmd 2 0 0) s m args below meth c s.heap [] 0 0 (MQ below (vp_Si post) args s 0 0 nof) (F0 m 4 ls []) := by
  intro n
  induction n with
  | zero =>
    intro x1 x2 ls h hl
    exact h.elim
  | succ n ih =>
    intro x1 x2 ls h hl
    rw [L_X1_shareOfAll_4] at h
    have hx := S.1
    have hb := S.2.1
    refine lv_iload_n hx hb dX1_shareOfAll_4 rfl (lv_at hl 2 rfl) ?_
    refine lv_aload_n hx hb dX1_shareOfAll_5 rfl (lv_at hl 0 rfl) ?_
    refine gf S hE hP 0 rfl rfl inX1 (k := 3) (by decide) q64 rfl dX1_shareOfAll_6 ?_
    refine lv_icmp_ge (tgt := 26) hx hb dX1_shareOfAll_9 (by decide) (fun hc => ?_) (fun hc => ?_)
    · have h := h.1 hc
      refine lv_iload_n hx hb dX1_shareOfAll_26 rfl (lv_at hl 1 rfl) ?_
      exact W.iret hx hb hr (fun t ht _ => ⟨_, rfl, h, ht⟩) (fun _ hq => by cases hq) dX1_shareOfAll_27
    have h := h.2 hc
    refine lv_iload_n hx hb dX1_shareOfAll_12 rfl (lv_at hl 1 rfl) ?_
    refine lv_aload_n hx hb dX1_shareOfAll_13 rfl (lv_at hl 0 rfl) ?_
    refine lv_iload_n hx hb dX1_shareOfAll_14 rfl (lv_at hl 2 rfl) ?_
    refine ro_i (roV S hE hT hS (c_X1_shareOf h) lkX1_39 rfl ⟨(Nat.le_of_ble_eq_true rfl), (Nat.le_of_ble_eq_true rfl)⟩ (hP.sub [0, 1] rfl) 0 rfl rfl hl.1 rfl (Nat.le_of_ble_eq_true rfl) dX1_shareOfAll_15 ⟨(Nat.zero_le _), (Nat.zero_le _)⟩) (fun r15 h => ?_)
    refine lv_iadd hx hb dX1_shareOfAll_18 ?_
    refine lv_topi (fun x1_19 ex1_19 => ?_)
    have h := h _ ex1_19
    refine lv_istore_n (lv' := [(1, .int x1_19), (0, .ref a_o), (2, .int x2)]) hx hb dX1_shareOfAll_19 rfl hl (by decide) rfl (fun ls hl => ?_)
    obtain ⟨x2_20, ex2_20⟩ : ∃ z : Int32, z = x2 + 1 := ⟨_, rfl⟩
    have h := h _ ex2_20
    refine lv_iinc (v := x2_20) (lv' := [(2, .int x2_20), (1, .int x1_19), (0, .ref a_o)]) hx hb dX1_shareOfAll_20 hl (k := 2) rfl (by rw [ex2_20]; rfl) (by decide) rfl (fun ls hl => ?_)
    refine lv_goto (tgt := 4) hx hb dX1_shareOfAll_23 (by decide) ?_
    exact ih _ _ _ h (lv_sub hl [2, 1, 0] rfl)
set_option maxHeartbeats 4000000 in
set_option maxRecDepth 100000 in
theorem c_X1_shareOfAll {l : Launch} {D : va_G} {cI cJ cS : ClassId} {ad adK : Nat → Nat} {a_o a_shares : Nat} {z_speeds z_bases : Value} {v_carCount : Int32} {f_shares : Nat → Int32} {post : Int32 → Prop} (h : F_X1_shareOfAll v_carCount f_shares post) : Met l yX1_shareOfAll (Cond.code yX1_shareOfAll cX1_shareOfAll 3 (some (.int)) :: GW) (rmd 2 0 0) (PR D cI cJ cS ad adK [.ref a_o] (wX1_shareOfAll cI cJ cS a_o a_shares z_speeds z_bases v_carCount f_shares)) (vp_Si post) 0 0 nof := by
  refine Met.ro (by decide) (Nat.le_of_ble_eq_true rfl) (fun p e s m args below meth c ls (S : CallFix p m c cX1_shareOfAll 3 s args GW "RoadThatSings$Cars") hE hT hP hS hr hlocks hl => ?_)
  have hx := S.1
  have hb := S.2.1
  have hl : lv_has ls 3 [(0, .ref a_o)] := hl
  unfold F_X1_shareOfAll at h
  refine lv_iconst (v := 0) hx hb dX1_shareOfAll_0 (by decide) ?_
  refine lv_istore_n (lv' := [(1, .int 0), (0, .ref a_o)]) hx hb dX1_shareOfAll_1 rfl hl (by decide) rfl (fun ls hl => ?_)
  refine lv_iconst (v := 0) hx hb dX1_shareOfAll_2 (by decide) ?_
  refine lv_istore_n (lv' := [(2, .int 0), (1, .int 0), (0, .ref a_o)]) hx hb dX1_shareOfAll_3 rfl hl (by decide) rfl (fun ls hl => ?_)
  obtain ⟨n, h⟩ := h
  refine w_X1_shareOfAll_4 S hE hT hP hS hr hlocks n _ _ _ h (lv_sub hl [2, 1, 0] rfl)
/-! X1_carAtShare -/
abbrev wX1_carAtShare (cI cJ cS : ClassId) (a_o a_shares : Nat) (z_speeds z_bases : Value) (v_carCount : Int32) (f_shares : Nat → Int32) : va_W := [(a_o, .inr (1, [z_speeds, z_bases, .ref a_shares, .int v_carCount])), (a_shares, .inl (cI, 6, .inl f_shares))]
def L_X1_carAtShare_4 (v_carCount : Int32) (f_shares : Nat → Int32) (x1 : Int32) (post : Int32 → Prop) : Nat → Int32 → Int32 → Prop
  | 0, _, _ => False
  | n4 + 1, x2, x3 => ((v_carCount ≤ x3 → post (-1)) ∧ (¬ v_carCount ≤ x3 → (F_X1_shareOf v_carCount f_shares x3 (fun r15 => (∀ x2_19 : Int32, x2_19 = x2 + r15 → ((x2_19 ≤ x1 → (∀ x3_27 : Int32, x3_27 = x3 + 1 → L_X1_carAtShare_4 v_carCount f_shares x1 post n4 x2_19 x3_27)) ∧ (¬ x2_19 ≤ x1 → post x3)))))))
def F_X1_carAtShare (v_carCount : Int32) (f_shares : Nat → Int32) (x1 : Int32) (post : Int32 → Prop) : Prop := (∃ n4 : Nat, L_X1_carAtShare_4 v_carCount f_shares x1 post n4 0 0)
set_option maxHeartbeats 4000000 in
set_option maxRecDepth 100000 in
theorem w_X1_carAtShare_4 {l : Launch} {D : va_G} {cI cJ cS : ClassId} {ad adK : Nat → Nat} {a_o a_shares : Nat} {z_speeds z_bases : Value} {v_carCount : Int32} {f_shares : Nat → Int32} {x1 : Int32} {post : Int32 → Prop} {p : Program} {e : Env} {s : State} {m : MethodId} {args : Array Value} {below : List Frame} {meth : Method} {c : Code} (S : CallFix p m c cX1_carAtShare 4 s args GW "RoadThatSings$Cars") (hE : EN D cI cJ cS s) (hT : ST ad adK nof s s.heap) (hP : va_P D vwCl (wX1_carAtShare cI cJ cS a_o a_shares z_speeds z_bases v_carCount f_shares) s.heap) (hS : va_S nof s.heap s.heap []) (hr : meth.sig.returnType = (some (.int))) (hlocks : meth.locks = false) : ∀ n : Nat, ∀ (x2 : Int32) (x3 : Int32) (ls : Array Slot), L_X1_carAtShare_4 v_carCount f_shares x1 post n x2 x3 → lv_has ls 4 [(0, .ref a_o), (1, .int x1), (2, .int x2), (3, .int x3)] → W p l e (rmd 2 0 0) s m args below meth c s.heap [] 0 0 (MQ below (vp_Si post) args s 0 0 nof) (F0 m 4 ls []) := by
  intro n
  induction n with
  | zero =>
    intro x2 x3 ls h hl
    exact h.elim
  | succ n ih =>
    intro x2 x3 ls h hl
    rw [L_X1_carAtShare_4] at h
    have hx := S.1
    have hb := S.2.1
    refine lv_iload_n hx hb dX1_carAtShare_4 rfl (lv_at hl 3 rfl) ?_
    refine lv_aload_n hx hb dX1_carAtShare_5 rfl (lv_at hl 0 rfl) ?_
    refine gf S hE hP 0 rfl rfl inX1 (k := 3) (by decide) q64 rfl dX1_carAtShare_6 ?_
    refine lv_icmp_ge (tgt := 33) hx hb dX1_carAtShare_9 (by decide) (fun hc => ?_) (fun hc => ?_)
    · have h := h.1 hc
      refine lv_iconst (v := (-1)) hx hb dX1_carAtShare_33 (by decide) ?_
      exact W.iret hx hb hr (fun t ht _ => ⟨_, rfl, h, ht⟩) (fun _ hq => by cases hq) dX1_carAtShare_34
    have h := h.2 hc
    refine lv_iload_n hx hb dX1_carAtShare_12 rfl (lv_at hl 2 rfl) ?_
    refine lv_aload_n hx hb dX1_carAtShare_13 rfl (lv_at hl 0 rfl) ?_
    refine lv_iload_n hx hb dX1_carAtShare_14 rfl (lv_at hl 3 rfl) ?_
    refine ro_i (roV S hE hT hS (c_X1_shareOf h) lkX1_39 rfl ⟨(Nat.le_of_ble_eq_true rfl), (Nat.le_of_ble_eq_true rfl)⟩ (hP.sub [0, 1] rfl) 0 rfl rfl hl.1 rfl (Nat.le_of_ble_eq_true rfl) dX1_carAtShare_15 ⟨(Nat.zero_le _), (Nat.zero_le _)⟩) (fun r15 h => ?_)
    refine lv_iadd hx hb dX1_carAtShare_18 ?_
    refine lv_topi (fun x2_19 ex2_19 => ?_)
    have h := h _ ex2_19
    refine lv_istore_n (lv' := [(2, .int x2_19), (0, .ref a_o), (1, .int x1), (3, .int x3)]) hx hb dX1_carAtShare_19 rfl hl (by decide) rfl (fun ls hl => ?_)
    refine lv_iload_n hx hb dX1_carAtShare_20 rfl (lv_at hl 2 rfl) ?_
    refine lv_iload_n hx hb dX1_carAtShare_21 rfl (lv_at hl 0 rfl) ?_
    refine lv_icmp_ge (tgt := 27) hx hb dX1_carAtShare_22 (by decide) (fun hc => ?_) (fun hc => ?_)
    · have h := h.1 hc
      obtain ⟨x3_27, ex3_27⟩ : ∃ z : Int32, z = x3 + 1 := ⟨_, rfl⟩
      have h := h _ ex3_27
      refine lv_iinc (v := x3_27) (lv' := [(3, .int x3_27), (2, .int x2_19), (0, .ref a_o), (1, .int x1)]) hx hb dX1_carAtShare_27 hl (k := 3) rfl (by rw [ex3_27]; rfl) (by decide) rfl (fun ls hl => ?_)
      refine lv_goto (tgt := 4) hx hb dX1_carAtShare_30 (by decide) ?_
      exact ih _ _ _ h (lv_sub hl [2, 3, 1, 0] rfl)
    have h := h.2 hc
    refine lv_iload_n hx hb dX1_carAtShare_25 rfl (lv_at hl 3 rfl) ?_
    exact W.iret hx hb hr (fun t ht _ => ⟨_, rfl, h, ht⟩) (fun _ hq => by cases hq) dX1_carAtShare_26
set_option maxHeartbeats 4000000 in
set_option maxRecDepth 100000 in
theorem c_X1_carAtShare {l : Launch} {D : va_G} {cI cJ cS : ClassId} {ad adK : Nat → Nat} {a_o a_shares : Nat} {z_speeds z_bases : Value} {v_carCount : Int32} {f_shares : Nat → Int32} {x1 : Int32} {post : Int32 → Prop} (h : F_X1_carAtShare v_carCount f_shares x1 post) : Met l yX1_carAtShare (Cond.code yX1_carAtShare cX1_carAtShare 4 (some (.int)) :: GW) (rmd 2 0 0) (PR D cI cJ cS ad adK [.ref a_o, .int x1] (wX1_carAtShare cI cJ cS a_o a_shares z_speeds z_bases v_carCount f_shares)) (vp_Si post) 0 0 nof := by
  refine Met.ro (by decide) (Nat.le_of_ble_eq_true rfl) (fun p e s m args below meth c ls (S : CallFix p m c cX1_carAtShare 4 s args GW "RoadThatSings$Cars") hE hT hP hS hr hlocks hl => ?_)
  have hx := S.1
  have hb := S.2.1
  have hl : lv_has ls 4 [(0, .ref a_o), (1, .int x1)] := hl
  unfold F_X1_carAtShare at h
  refine lv_iconst (v := 0) hx hb dX1_carAtShare_0 (by decide) ?_
  refine lv_istore_n (lv' := [(2, .int 0), (0, .ref a_o), (1, .int x1)]) hx hb dX1_carAtShare_1 rfl hl (by decide) rfl (fun ls hl => ?_)
  refine lv_iconst (v := 0) hx hb dX1_carAtShare_2 (by decide) ?_
  refine lv_istore_n (lv' := [(3, .int 0), (2, .int 0), (0, .ref a_o), (1, .int x1)]) hx hb dX1_carAtShare_3 rfl hl (by decide) rfl (fun ls hl => ?_)
  obtain ⟨n, h⟩ := h
  refine w_X1_carAtShare_4 S hE hT hP hS hr hlocks n _ _ _ h (lv_sub hl [2, 3, 1, 0] rfl)
/-! X2_notes -/
abbrev wX2_notes (cI cJ cS : ClassId) (a_o : Nat) (z_spaces z_offs z_times : Value) (v_noteCount : Int32) : va_W := [(a_o, .inr (2, [z_spaces, z_offs, z_times, .int v_noteCount]))]
def F_X2_notes (v_noteCount : Int32) (post : Int32 → Prop) : Prop := post v_noteCount
set_option maxHeartbeats 4000000 in
set_option maxRecDepth 100000 in
theorem c_X2_notes {l : Launch} {D : va_G} {cI cJ cS : ClassId} {ad adK : Nat → Nat} {a_o : Nat} {z_spaces z_offs z_times : Value} {v_noteCount : Int32} {post : Int32 → Prop} (h : F_X2_notes v_noteCount post) : Met l yX2_notes (Cond.code yX2_notes cX2_notes 1 (some (.int)) :: GW) (rmd 0 0 0) (PR D cI cJ cS ad adK [.ref a_o] (wX2_notes cI cJ cS a_o z_spaces z_offs z_times v_noteCount)) (vp_Si post) 0 0 nof := by
  refine Met.ro (by decide) (Nat.le_of_ble_eq_true rfl) (fun p e s m args below meth c ls (S : CallFix p m c cX2_notes 1 s args GW "RoadThatSings$Cutting") hE hT hP hS hr hlocks hl => ?_)
  have hx := S.1
  have hb := S.2.1
  have hl : lv_has ls 1 [(0, .ref a_o)] := hl
  unfold F_X2_notes at h
  refine lv_aload_n hx hb dX2_notes_0 rfl (lv_at hl 0 rfl) ?_
  refine gf S hE hP 0 rfl rfl inX2 (k := 3) (by decide) q127 rfl dX2_notes_1 ?_
  exact W.iret hx hb hr (fun t ht _ => ⟨_, rfl, h, ht⟩) (fun _ hq => by cases hq) dX2_notes_4
/-! X2_has -/
abbrev wX2_has (cI cJ cS : ClassId) (a_o : Nat) (z_spaces z_offs z_times : Value) (v_noteCount : Int32) : va_W := [(a_o, .inr (2, [z_spaces, z_offs, z_times, .int v_noteCount]))]
def F_X2_has (v_noteCount : Int32) (x1 : Int32) (post : Int32 → Prop) : Prop := ((x1 < 0 → post 0) ∧ (¬ x1 < 0 → ((v_noteCount ≤ x1 → post 0) ∧ (¬ v_noteCount ≤ x1 → ((12 ≤ x1 → post 0) ∧ (¬ 12 ≤ x1 → post 1))))))
set_option maxHeartbeats 4000000 in
set_option maxRecDepth 100000 in
theorem c_X2_has {l : Launch} {D : va_G} {cI cJ cS : ClassId} {ad adK : Nat → Nat} {a_o : Nat} {z_spaces z_offs z_times : Value} {v_noteCount : Int32} {x1 : Int32} {post : Int32 → Prop} (h : F_X2_has v_noteCount x1 post) : Met l yX2_has (Cond.code yX2_has cX2_has 2 (some (.boolean)) :: GW) (rmd 0 0 0) (PR D cI cJ cS ad adK [.ref a_o, .int x1] (wX2_has cI cJ cS a_o z_spaces z_offs z_times v_noteCount)) (vp_Si post) 0 0 nof := by
  refine Met.ro (by decide) (Nat.le_of_ble_eq_true rfl) (fun p e s m args below meth c ls (S : CallFix p m c cX2_has 2 s args GW "RoadThatSings$Cutting") hE hT hP hS hr hlocks hl => ?_)
  have hx := S.1
  have hb := S.2.1
  have hl : lv_has ls 2 [(0, .ref a_o), (1, .int x1)] := hl
  unfold F_X2_has at h
  refine lv_iload_n hx hb dX2_has_0 rfl (lv_at hl 1 rfl) ?_
  refine lv_if_lt (tgt := 22) hx hb dX2_has_1 (by decide) (fun hc => ?_) (fun hc => ?_)
  · have h := h.1 hc
    refine lv_iconst (v := 0) hx hb dX2_has_22 (by decide) ?_
    exact W.zret hx hb hr rfl (fun t ht _ => ⟨_, rfl, h, ht⟩) (fun _ hq => by cases hq) dX2_has_23
  have h := h.2 hc
  refine lv_iload_n hx hb dX2_has_4 rfl (lv_at hl 1 rfl) ?_
  refine lv_aload_n hx hb dX2_has_5 rfl (lv_at hl 0 rfl) ?_
  refine gf S hE hP 0 rfl rfl inX2 (k := 3) (by decide) q127 rfl dX2_has_6 ?_
  refine lv_icmp_ge (tgt := 22) hx hb dX2_has_9 (by decide) (fun hc => ?_) (fun hc => ?_)
  · have h := h.1 hc
    refine lv_iconst (v := 0) hx hb dX2_has_22 (by decide) ?_
    exact W.zret hx hb hr rfl (fun t ht _ => ⟨_, rfl, h, ht⟩) (fun _ hq => by cases hq) dX2_has_23
  have h := h.2 hc
  refine lv_iload_n hx hb dX2_has_12 rfl (lv_at hl 1 rfl) ?_
  refine lv_bipush (v := 12) hx hb dX2_has_13 (by decide) ?_
  refine lv_icmp_ge (tgt := 22) hx hb dX2_has_15 (by decide) (fun hc => ?_) (fun hc => ?_)
  · have h := h.1 hc
    refine lv_iconst (v := 0) hx hb dX2_has_22 (by decide) ?_
    exact W.zret hx hb hr rfl (fun t ht _ => ⟨_, rfl, h, ht⟩) (fun _ hq => by cases hq) dX2_has_23
  have h := h.2 hc
  refine lv_iconst (v := 1) hx hb dX2_has_18 (by decide) ?_
  refine lv_goto (tgt := 23) hx hb dX2_has_19 (by decide) ?_
  exact W.zret hx hb hr rfl (fun t ht _ => ⟨_, rfl, h, ht⟩) (fun _ hq => by cases hq) dX2_has_23
/-! X2_spaceOf -/
abbrev wX2_spaceOf (cI cJ cS : ClassId) (a_o a_spaces : Nat) (z_offs z_times : Value) (v_noteCount : Int32) (f_spaces : Nat → Int32) : va_W := [(a_o, .inr (2, [.ref a_spaces, z_offs, z_times, .int v_noteCount])), (a_spaces, .inl (cI, 12, .inl f_spaces))]
def F_X2_spaceOf (v_noteCount : Int32) (f_spaces : Nat → Int32) (x1 : Int32) (post : Int32 → Prop) : Prop := (F_X2_has v_noteCount x1 (fun r2 => ((r2 = 0 → post 0) ∧ (¬ r2 = 0 → (vp_in x1 12 ∧ post (f_spaces x1.toNatClampNeg))))))
set_option maxHeartbeats 4000000 in
set_option maxRecDepth 100000 in
theorem c_X2_spaceOf {l : Launch} {D : va_G} {cI cJ cS : ClassId} {ad adK : Nat → Nat} {a_o a_spaces : Nat} {z_offs z_times : Value} {v_noteCount : Int32} {f_spaces : Nat → Int32} {x1 : Int32} {post : Int32 → Prop} (h : F_X2_spaceOf v_noteCount f_spaces x1 post) : Met l yX2_spaceOf (Cond.code yX2_spaceOf cX2_spaceOf 2 (some (.int)) :: GW) (rmd 1 0 0) (PR D cI cJ cS ad adK [.ref a_o, .int x1] (wX2_spaceOf cI cJ cS a_o a_spaces z_offs z_times v_noteCount f_spaces)) (vp_Si post) 0 0 nof := by
  refine Met.ro (by decide) (Nat.le_of_ble_eq_true rfl) (fun p e s m args below meth c ls (S : CallFix p m c cX2_spaceOf 2 s args GW "RoadThatSings$Cutting") hE hT hP hS hr hlocks hl => ?_)
  have hx := S.1
  have hb := S.2.1
  have hl : lv_has ls 2 [(0, .ref a_o), (1, .int x1)] := hl
  unfold F_X2_spaceOf at h
  refine lv_aload_n hx hb dX2_spaceOf_0 rfl (lv_at hl 0 rfl) ?_
  refine lv_iload_n hx hb dX2_spaceOf_1 rfl (lv_at hl 1 rfl) ?_
  refine ro_i (roV S hE hT hS (c_X2_has h) lkX2_25 rfl ⟨(Nat.le_of_ble_eq_true rfl), (Nat.le_of_ble_eq_true rfl)⟩ (hP.sub [0] rfl) 0 rfl rfl hl.1 rfl (Nat.le_of_ble_eq_true rfl) dX2_spaceOf_2 ⟨(Nat.zero_le _), (Nat.zero_le _)⟩) (fun r2 h => ?_)
  refine lv_if_eq (tgt := 17) hx hb dX2_spaceOf_5 (by decide) (fun hc => ?_) (fun hc => ?_)
  · have h := h.1 hc
    refine lv_iconst (v := 0) hx hb dX2_spaceOf_17 (by decide) ?_
    exact W.iret hx hb hr (fun t ht _ => ⟨_, rfl, h, ht⟩) (fun _ hq => by cases hq) dX2_spaceOf_18
  have h := h.2 hc
  refine lv_aload_n hx hb dX2_spaceOf_8 rfl (lv_at hl 0 rfl) ?_
  refine gf S hE hP 0 rfl rfl inX2 (k := 0) (by decide) q124 rfl dX2_spaceOf_9 ?_
  refine lv_iload_n hx hb dX2_spaceOf_12 rfl (lv_at hl 1 rfl) ?_
  obtain ⟨hi, h⟩ := h
  refine ial S hE hP 1 rfl hi dX2_spaceOf_13 ?_
  refine lv_goto (tgt := 18) hx hb dX2_spaceOf_14 (by decide) ?_
  exact W.iret hx hb hr (fun t ht _ => ⟨_, rfl, h, ht⟩) (fun _ hq => by cases hq) dX2_spaceOf_18
/-! X2_offOf -/
abbrev wX2_offOf (cI cJ cS : ClassId) (a_o a_offs : Nat) (z_spaces z_times : Value) (v_noteCount : Int32) (f_offs : Nat → Int32) : va_W := [(a_o, .inr (2, [z_spaces, .ref a_offs, z_times, .int v_noteCount])), (a_offs, .inl (cI, 12, .inl f_offs))]
def F_X2_offOf (v_noteCount : Int32) (f_offs : Nat → Int32) (x1 : Int32) (post : Int32 → Prop) : Prop := (F_X2_has v_noteCount x1 (fun r2 => ((r2 = 0 → post 0) ∧ (¬ r2 = 0 → (vp_in x1 12 ∧ post (f_offs x1.toNatClampNeg))))))
set_option maxHeartbeats 4000000 in
set_option maxRecDepth 100000 in
theorem c_X2_offOf {l : Launch} {D : va_G} {cI cJ cS : ClassId} {ad adK : Nat → Nat} {a_o a_offs : Nat} {z_spaces z_times : Value} {v_noteCount : Int32} {f_offs : Nat → Int32} {x1 : Int32} {post : Int32 → Prop} (h : F_X2_offOf v_noteCount f_offs x1 post) : Met l yX2_offOf (Cond.code yX2_offOf cX2_offOf 2 (some (.int)) :: GW) (rmd 1 0 0) (PR D cI cJ cS ad adK [.ref a_o, .int x1] (wX2_offOf cI cJ cS a_o a_offs z_spaces z_times v_noteCount f_offs)) (vp_Si post) 0 0 nof := by
  refine Met.ro (by decide) (Nat.le_of_ble_eq_true rfl) (fun p e s m args below meth c ls (S : CallFix p m c cX2_offOf 2 s args GW "RoadThatSings$Cutting") hE hT hP hS hr hlocks hl => ?_)
  have hx := S.1
  have hb := S.2.1
  have hl : lv_has ls 2 [(0, .ref a_o), (1, .int x1)] := hl
  unfold F_X2_offOf at h
  refine lv_aload_n hx hb dX2_offOf_0 rfl (lv_at hl 0 rfl) ?_
  refine lv_iload_n hx hb dX2_offOf_1 rfl (lv_at hl 1 rfl) ?_
  refine ro_i (roV S hE hT hS (c_X2_has h) lkX2_25 rfl ⟨(Nat.le_of_ble_eq_true rfl), (Nat.le_of_ble_eq_true rfl)⟩ (hP.sub [0] rfl) 0 rfl rfl hl.1 rfl (Nat.le_of_ble_eq_true rfl) dX2_offOf_2 ⟨(Nat.zero_le _), (Nat.zero_le _)⟩) (fun r2 h => ?_)
  refine lv_if_eq (tgt := 17) hx hb dX2_offOf_5 (by decide) (fun hc => ?_) (fun hc => ?_)
  · have h := h.1 hc
    refine lv_iconst (v := 0) hx hb dX2_offOf_17 (by decide) ?_
    exact W.iret hx hb hr (fun t ht _ => ⟨_, rfl, h, ht⟩) (fun _ hq => by cases hq) dX2_offOf_18
  have h := h.2 hc
  refine lv_aload_n hx hb dX2_offOf_8 rfl (lv_at hl 0 rfl) ?_
  refine gf S hE hP 0 rfl rfl inX2 (k := 1) (by decide) q125 rfl dX2_offOf_9 ?_
  refine lv_iload_n hx hb dX2_offOf_12 rfl (lv_at hl 1 rfl) ?_
  obtain ⟨hi, h⟩ := h
  refine ial S hE hP 1 rfl hi dX2_offOf_13 ?_
  refine lv_goto (tgt := 18) hx hb dX2_offOf_14 (by decide) ?_
  exact W.iret hx hb hr (fun t ht _ => ⟨_, rfl, h, ht⟩) (fun _ hq => by cases hq) dX2_offOf_18
/-! X2_timesOf -/
abbrev wX2_timesOf (cI cJ cS : ClassId) (a_o a_times : Nat) (z_spaces z_offs : Value) (v_noteCount : Int32) (f_times : Nat → Int32) : va_W := [(a_o, .inr (2, [z_spaces, z_offs, .ref a_times, .int v_noteCount])), (a_times, .inl (cI, 12, .inl f_times))]
def F_X2_timesOf (v_noteCount : Int32) (f_times : Nat → Int32) (x1 : Int32) (post : Int32 → Prop) : Prop := (F_X2_has v_noteCount x1 (fun r2 => ((r2 = 0 → post 0) ∧ (¬ r2 = 0 → (vp_in x1 12 ∧ post (f_times x1.toNatClampNeg))))))
set_option maxHeartbeats 4000000 in
set_option maxRecDepth 100000 in
theorem c_X2_timesOf {l : Launch} {D : va_G} {cI cJ cS : ClassId} {ad adK : Nat → Nat} {a_o a_times : Nat} {z_spaces z_offs : Value} {v_noteCount : Int32} {f_times : Nat → Int32} {x1 : Int32} {post : Int32 → Prop} (h : F_X2_timesOf v_noteCount f_times x1 post) : Met l yX2_timesOf (Cond.code yX2_timesOf cX2_timesOf 2 (some (.int)) :: GW) (rmd 1 0 0) (PR D cI cJ cS ad adK [.ref a_o, .int x1] (wX2_timesOf cI cJ cS a_o a_times z_spaces z_offs v_noteCount f_times)) (vp_Si post) 0 0 nof := by
  refine Met.ro (by decide) (Nat.le_of_ble_eq_true rfl) (fun p e s m args below meth c ls (S : CallFix p m c cX2_timesOf 2 s args GW "RoadThatSings$Cutting") hE hT hP hS hr hlocks hl => ?_)
  have hx := S.1
  have hb := S.2.1
  have hl : lv_has ls 2 [(0, .ref a_o), (1, .int x1)] := hl
  unfold F_X2_timesOf at h
  refine lv_aload_n hx hb dX2_timesOf_0 rfl (lv_at hl 0 rfl) ?_
  refine lv_iload_n hx hb dX2_timesOf_1 rfl (lv_at hl 1 rfl) ?_
  refine ro_i (roV S hE hT hS (c_X2_has h) lkX2_25 rfl ⟨(Nat.le_of_ble_eq_true rfl), (Nat.le_of_ble_eq_true rfl)⟩ (hP.sub [0] rfl) 0 rfl rfl hl.1 rfl (Nat.le_of_ble_eq_true rfl) dX2_timesOf_2 ⟨(Nat.zero_le _), (Nat.zero_le _)⟩) (fun r2 h => ?_)
  refine lv_if_eq (tgt := 17) hx hb dX2_timesOf_5 (by decide) (fun hc => ?_) (fun hc => ?_)
  · have h := h.1 hc
    refine lv_iconst (v := 0) hx hb dX2_timesOf_17 (by decide) ?_
    exact W.iret hx hb hr (fun t ht _ => ⟨_, rfl, h, ht⟩) (fun _ hq => by cases hq) dX2_timesOf_18
  have h := h.2 hc
  refine lv_aload_n hx hb dX2_timesOf_8 rfl (lv_at hl 0 rfl) ?_
  refine gf S hE hP 0 rfl rfl inX2 (k := 2) (by decide) q126 rfl dX2_timesOf_9 ?_
  refine lv_iload_n hx hb dX2_timesOf_12 rfl (lv_at hl 1 rfl) ?_
  obtain ⟨hi, h⟩ := h
  refine ial S hE hP 1 rfl hi dX2_timesOf_13 ?_
  refine lv_goto (tgt := 18) hx hb dX2_timesOf_14 (by decide) ?_
  exact W.iret hx hb hr (fun t ht _ => ⟨_, rfl, h, ht⟩) (fun _ hq => by cases hq) dX2_timesOf_18
/-! X8_has -/
abbrev wX8_has (cI cJ cS : ClassId) (a_o : Nat) (z_pitches z_beats z_noteCounts : Value) (v_tuneCount : Int32) : va_W := [(a_o, .inr (7, [z_pitches, z_beats, z_noteCounts, .int v_tuneCount]))]
def F_X8_has (v_tuneCount : Int32) (x1 : Int32) (post : Int32 → Prop) : Prop := ((x1 < 0 → post 0) ∧ (¬ x1 < 0 → ((v_tuneCount ≤ x1 → post 0) ∧ (¬ v_tuneCount ≤ x1 → ((6 ≤ x1 → post 0) ∧ (¬ 6 ≤ x1 → post 1))))))
set_option maxHeartbeats 4000000 in
set_option maxRecDepth 100000 in
theorem c_X8_has {l : Launch} {D : va_G} {cI cJ cS : ClassId} {ad adK : Nat → Nat} {a_o : Nat} {z_pitches z_beats z_noteCounts : Value} {v_tuneCount : Int32} {x1 : Int32} {post : Int32 → Prop} (h : F_X8_has v_tuneCount x1 post) : Met l yX8_has (Cond.code yX8_has cX8_has 2 (some (.boolean)) :: GW) (rmd 0 0 0) (PR D cI cJ cS ad adK [.ref a_o, .int x1] (wX8_has cI cJ cS a_o z_pitches z_beats z_noteCounts v_tuneCount)) (vp_Si post) 0 0 nof := by
  refine Met.ro (by decide) (Nat.le_of_ble_eq_true rfl) (fun p e s m args below meth c ls (S : CallFix p m c cX8_has 2 s args GW "RoadThatSings$Tunes") hE hT hP hS hr hlocks hl => ?_)
  have hx := S.1
  have hb := S.2.1
  have hl : lv_has ls 2 [(0, .ref a_o), (1, .int x1)] := hl
  unfold F_X8_has at h
  refine lv_iload_n hx hb dX8_has_0 rfl (lv_at hl 1 rfl) ?_
  refine lv_if_lt (tgt := 22) hx hb dX8_has_1 (by decide) (fun hc => ?_) (fun hc => ?_)
  · have h := h.1 hc
    refine lv_iconst (v := 0) hx hb dX8_has_22 (by decide) ?_
    exact W.zret hx hb hr rfl (fun t ht _ => ⟨_, rfl, h, ht⟩) (fun _ hq => by cases hq) dX8_has_23
  have h := h.2 hc
  refine lv_iload_n hx hb dX8_has_4 rfl (lv_at hl 1 rfl) ?_
  refine lv_aload_n hx hb dX8_has_5 rfl (lv_at hl 0 rfl) ?_
  refine gf S hE hP 0 rfl rfl inX8 (k := 3) (by decide) q83 rfl dX8_has_6 ?_
  refine lv_icmp_ge (tgt := 22) hx hb dX8_has_9 (by decide) (fun hc => ?_) (fun hc => ?_)
  · have h := h.1 hc
    refine lv_iconst (v := 0) hx hb dX8_has_22 (by decide) ?_
    exact W.zret hx hb hr rfl (fun t ht _ => ⟨_, rfl, h, ht⟩) (fun _ hq => by cases hq) dX8_has_23
  have h := h.2 hc
  refine lv_iload_n hx hb dX8_has_12 rfl (lv_at hl 1 rfl) ?_
  refine lv_bipush (v := 6) hx hb dX8_has_13 (by decide) ?_
  refine lv_icmp_ge (tgt := 22) hx hb dX8_has_15 (by decide) (fun hc => ?_) (fun hc => ?_)
  · have h := h.1 hc
    refine lv_iconst (v := 0) hx hb dX8_has_22 (by decide) ?_
    exact W.zret hx hb hr rfl (fun t ht _ => ⟨_, rfl, h, ht⟩) (fun _ hq => by cases hq) dX8_has_23
  have h := h.2 hc
  refine lv_iconst (v := 1) hx hb dX8_has_18 (by decide) ?_
  refine lv_goto (tgt := 23) hx hb dX8_has_19 (by decide) ?_
  exact W.zret hx hb hr rfl (fun t ht _ => ⟨_, rfl, h, ht⟩) (fun _ hq => by cases hq) dX8_has_23
/-! X8_notesOf -/
abbrev wX8_notesOf (cI cJ cS : ClassId) (a_o a_noteCounts : Nat) (z_pitches z_beats : Value) (v_tuneCount : Int32) (f_noteCounts : Nat → Int32) : va_W := [(a_o, .inr (7, [z_pitches, z_beats, .ref a_noteCounts, .int v_tuneCount])), (a_noteCounts, .inl (cI, 6, .inl f_noteCounts))]
def F_X8_notesOf (v_tuneCount : Int32) (f_noteCounts : Nat → Int32) (x1 : Int32) (post : Int32 → Prop) : Prop := (F_X8_has v_tuneCount x1 (fun r2 => ((r2 = 0 → post 0) ∧ (¬ r2 = 0 → (vp_in x1 6 ∧ post (f_noteCounts x1.toNatClampNeg))))))
set_option maxHeartbeats 4000000 in
set_option maxRecDepth 100000 in
theorem c_X8_notesOf {l : Launch} {D : va_G} {cI cJ cS : ClassId} {ad adK : Nat → Nat} {a_o a_noteCounts : Nat} {z_pitches z_beats : Value} {v_tuneCount : Int32} {f_noteCounts : Nat → Int32} {x1 : Int32} {post : Int32 → Prop} (h : F_X8_notesOf v_tuneCount f_noteCounts x1 post) : Met l yX8_notesOf (Cond.code yX8_notesOf cX8_notesOf 2 (some (.int)) :: GW) (rmd 1 0 0) (PR D cI cJ cS ad adK [.ref a_o, .int x1] (wX8_notesOf cI cJ cS a_o a_noteCounts z_pitches z_beats v_tuneCount f_noteCounts)) (vp_Si post) 0 0 nof := by
  refine Met.ro (by decide) (Nat.le_of_ble_eq_true rfl) (fun p e s m args below meth c ls (S : CallFix p m c cX8_notesOf 2 s args GW "RoadThatSings$Tunes") hE hT hP hS hr hlocks hl => ?_)
  have hx := S.1
  have hb := S.2.1
  have hl : lv_has ls 2 [(0, .ref a_o), (1, .int x1)] := hl
  unfold F_X8_notesOf at h
  refine lv_aload_n hx hb dX8_notesOf_0 rfl (lv_at hl 0 rfl) ?_
  refine lv_iload_n hx hb dX8_notesOf_1 rfl (lv_at hl 1 rfl) ?_
  refine ro_i (roV S hE hT hS (c_X8_has h) lkX8_31 rfl ⟨(Nat.le_of_ble_eq_true rfl), (Nat.le_of_ble_eq_true rfl)⟩ (hP.sub [0] rfl) 0 rfl rfl hl.1 rfl (Nat.le_of_ble_eq_true rfl) dX8_notesOf_2 ⟨(Nat.zero_le _), (Nat.zero_le _)⟩) (fun r2 h => ?_)
  refine lv_if_eq (tgt := 17) hx hb dX8_notesOf_5 (by decide) (fun hc => ?_) (fun hc => ?_)
  · have h := h.1 hc
    refine lv_iconst (v := 0) hx hb dX8_notesOf_17 (by decide) ?_
    exact W.iret hx hb hr (fun t ht _ => ⟨_, rfl, h, ht⟩) (fun _ hq => by cases hq) dX8_notesOf_18
  have h := h.2 hc
  refine lv_aload_n hx hb dX8_notesOf_8 rfl (lv_at hl 0 rfl) ?_
  refine gf S hE hP 0 rfl rfl inX8 (k := 2) (by decide) q82 rfl dX8_notesOf_9 ?_
  refine lv_iload_n hx hb dX8_notesOf_12 rfl (lv_at hl 1 rfl) ?_
  obtain ⟨hi, h⟩ := h
  refine ial S hE hP 1 rfl hi dX8_notesOf_13 ?_
  refine lv_goto (tgt := 18) hx hb dX8_notesOf_14 (by decide) ?_
  exact W.iret hx hb hr (fun t ht _ => ⟨_, rfl, h, ht⟩) (fun _ hq => by cases hq) dX8_notesOf_18
/-! X8_hasNote -/
abbrev wX8_hasNote (cI cJ cS : ClassId) (a_o a_noteCounts : Nat) (z_pitches z_beats : Value) (v_tuneCount : Int32) (f_noteCounts : Nat → Int32) : va_W := [(a_o, .inr (7, [z_pitches, z_beats, .ref a_noteCounts, .int v_tuneCount])), (a_noteCounts, .inl (cI, 6, .inl f_noteCounts))]
def F_X8_hasNote (v_tuneCount : Int32) (f_noteCounts : Nat → Int32) (x1 : Int32) (x2 : Int32) (post : Int32 → Prop) : Prop := (F_X8_has v_tuneCount x1 (fun r2 => ((r2 = 0 → post 0) ∧ (¬ r2 = 0 → ((x2 < 0 → post 0) ∧ (¬ x2 < 0 → (vp_in x1 6 ∧ (((f_noteCounts x1.toNatClampNeg) ≤ x2 → post 0) ∧ (¬ (f_noteCounts x1.toNatClampNeg) ≤ x2 → ((12 ≤ x2 → post 0) ∧ (¬ 12 ≤ x2 → post 1)))))))))))
set_option maxHeartbeats 4000000 in
set_option maxRecDepth 100000 in
theorem c_X8_hasNote {l : Launch} {D : va_G} {cI cJ cS : ClassId} {ad adK : Nat → Nat} {a_o a_noteCounts : Nat} {z_pitches z_beats : Value} {v_tuneCount : Int32} {f_noteCounts : Nat → Int32} {x1 : Int32} {x2 : Int32} {post : Int32 → Prop} (h : F_X8_hasNote v_tuneCount f_noteCounts x1 x2 post) : Met l yX8_hasNote (Cond.code yX8_hasNote cX8_hasNote 3 (some (.boolean)) :: GW) (rmd 1 0 0) (PR D cI cJ cS ad adK [.ref a_o, .int x1, .int x2] (wX8_hasNote cI cJ cS a_o a_noteCounts z_pitches z_beats v_tuneCount f_noteCounts)) (vp_Si post) 0 0 nof := by
  refine Met.ro (by decide) (Nat.le_of_ble_eq_true rfl) (fun p e s m args below meth c ls (S : CallFix p m c cX8_hasNote 3 s args GW "RoadThatSings$Tunes") hE hT hP hS hr hlocks hl => ?_)
  have hx := S.1
  have hb := S.2.1
  have hl : lv_has ls 3 [(0, .ref a_o), (1, .int x1), (2, .int x2)] := hl
  unfold F_X8_hasNote at h
  refine lv_aload_n hx hb dX8_hasNote_0 rfl (lv_at hl 0 rfl) ?_
  refine lv_iload_n hx hb dX8_hasNote_1 rfl (lv_at hl 1 rfl) ?_
  refine ro_i (roV S hE hT hS (c_X8_has h) lkX8_31 rfl ⟨(Nat.le_of_ble_eq_true rfl), (Nat.le_of_ble_eq_true rfl)⟩ (hP.sub [0] rfl) 0 rfl rfl hl.1 rfl (Nat.le_of_ble_eq_true rfl) dX8_hasNote_2 ⟨(Nat.zero_le _), (Nat.zero_le _)⟩) (fun r2 h => ?_)
  refine lv_if_eq (tgt := 32) hx hb dX8_hasNote_5 (by decide) (fun hc => ?_) (fun hc => ?_)
  · have h := h.1 hc
    refine lv_iconst (v := 0) hx hb dX8_hasNote_32 (by decide) ?_
    exact W.zret hx hb hr rfl (fun t ht _ => ⟨_, rfl, h, ht⟩) (fun _ hq => by cases hq) dX8_hasNote_33
  have h := h.2 hc
  refine lv_iload_n hx hb dX8_hasNote_8 rfl (lv_at hl 2 rfl) ?_
  refine lv_if_lt (tgt := 32) hx hb dX8_hasNote_9 (by decide) (fun hc => ?_) (fun hc => ?_)
  · have h := h.1 hc
    refine lv_iconst (v := 0) hx hb dX8_hasNote_32 (by decide) ?_
    exact W.zret hx hb hr rfl (fun t ht _ => ⟨_, rfl, h, ht⟩) (fun _ hq => by cases hq) dX8_hasNote_33
  have h := h.2 hc
  refine lv_iload_n hx hb dX8_hasNote_12 rfl (lv_at hl 2 rfl) ?_
  refine lv_aload_n hx hb dX8_hasNote_13 rfl (lv_at hl 0 rfl) ?_
  refine gf S hE hP 0 rfl rfl inX8 (k := 2) (by decide) q82 rfl dX8_hasNote_14 ?_
  refine lv_iload_n hx hb dX8_hasNote_17 rfl (lv_at hl 1 rfl) ?_
  obtain ⟨hi, h⟩ := h
  refine ial S hE hP 1 rfl hi dX8_hasNote_18 ?_
  refine lv_icmp_ge (tgt := 32) hx hb dX8_hasNote_19 (by decide) (fun hc => ?_) (fun hc => ?_)
  · have h := h.1 hc
    refine lv_iconst (v := 0) hx hb dX8_hasNote_32 (by decide) ?_
    exact W.zret hx hb hr rfl (fun t ht _ => ⟨_, rfl, h, ht⟩) (fun _ hq => by cases hq) dX8_hasNote_33
  have h := h.2 hc
  refine lv_iload_n hx hb dX8_hasNote_22 rfl (lv_at hl 2 rfl) ?_
  refine lv_bipush (v := 12) hx hb dX8_hasNote_23 (by decide) ?_
  refine lv_icmp_ge (tgt := 32) hx hb dX8_hasNote_25 (by decide) (fun hc => ?_) (fun hc => ?_)
  · have h := h.1 hc
    refine lv_iconst (v := 0) hx hb dX8_hasNote_32 (by decide) ?_
    exact W.zret hx hb hr rfl (fun t ht _ => ⟨_, rfl, h, ht⟩) (fun _ hq => by cases hq) dX8_hasNote_33
  have h := h.2 hc
  refine lv_iconst (v := 1) hx hb dX8_hasNote_28 (by decide) ?_
  refine lv_goto (tgt := 33) hx hb dX8_hasNote_29 (by decide) ?_
  exact W.zret hx hb hr rfl (fun t ht _ => ⟨_, rfl, h, ht⟩) (fun _ hq => by cases hq) dX8_hasNote_33
/-! X8_pitchOf -/
abbrev wX8_pitchOf (cI cJ cS : ClassId) (a_o a_noteCounts a_pitches : Nat) (z_beats : Value) (v_tuneCount : Int32) (f_noteCounts : Nat → Int32) (f_pitches : Nat → Int32) : va_W := [(a_o, .inr (7, [.ref a_pitches, z_beats, .ref a_noteCounts, .int v_tuneCount])), (a_noteCounts, .inl (cI, 6, .inl f_noteCounts)), (a_pitches, .inl (cI, 72, .inl f_pitches))]
def F_X8_pitchOf (v_tuneCount : Int32) (f_noteCounts : Nat → Int32) (f_pitches : Nat → Int32) (x1 : Int32) (x2 : Int32) (post : Int32 → Prop) : Prop := (F_X8_hasNote v_tuneCount f_noteCounts x1 x2 (fun r3 => ((r3 = 0 → post 0) ∧ (¬ r3 = 0 → (vp_in ((x1 * 12) + x2) 72 ∧ post (f_pitches ((x1 * 12) + x2).toNatClampNeg))))))
set_option maxHeartbeats 4000000 in
set_option maxRecDepth 100000 in
theorem c_X8_pitchOf {l : Launch} {D : va_G} {cI cJ cS : ClassId} {ad adK : Nat → Nat} {a_o a_noteCounts a_pitches : Nat} {z_beats : Value} {v_tuneCount : Int32} {f_noteCounts : Nat → Int32} {f_pitches : Nat → Int32} {x1 : Int32} {x2 : Int32} {post : Int32 → Prop} (h : F_X8_pitchOf v_tuneCount f_noteCounts f_pitches x1 x2 post) : Met l yX8_pitchOf (Cond.code yX8_pitchOf cX8_pitchOf 3 (some (.int)) :: GW) (rmd 2 0 0) (PR D cI cJ cS ad adK [.ref a_o, .int x1, .int x2] (wX8_pitchOf cI cJ cS a_o a_noteCounts a_pitches z_beats v_tuneCount f_noteCounts f_pitches)) (vp_Si post) 0 0 nof := by
  refine Met.ro (by decide) (Nat.le_of_ble_eq_true rfl) (fun p e s m args below meth c ls (S : CallFix p m c cX8_pitchOf 3 s args GW "RoadThatSings$Tunes") hE hT hP hS hr hlocks hl => ?_)
  have hx := S.1
  have hb := S.2.1
  have hl : lv_has ls 3 [(0, .ref a_o), (1, .int x1), (2, .int x2)] := hl
  unfold F_X8_pitchOf at h
  refine lv_aload_n hx hb dX8_pitchOf_0 rfl (lv_at hl 0 rfl) ?_
  refine lv_iload_n hx hb dX8_pitchOf_1 rfl (lv_at hl 1 rfl) ?_
  refine lv_iload_n hx hb dX8_pitchOf_2 rfl (lv_at hl 2 rfl) ?_
  refine ro_i (roV S hE hT hS (c_X8_hasNote h) lkX8_43 rfl ⟨(Nat.le_of_ble_eq_true rfl), (Nat.le_of_ble_eq_true rfl)⟩ (hP.sub [0, 1] rfl) 0 rfl rfl hl.1 rfl (Nat.le_of_ble_eq_true rfl) dX8_pitchOf_3 ⟨(Nat.zero_le _), (Nat.zero_le _)⟩) (fun r3 h => ?_)
  refine lv_if_eq (tgt := 23) hx hb dX8_pitchOf_6 (by decide) (fun hc => ?_) (fun hc => ?_)
  · have h := h.1 hc
    refine lv_iconst (v := 0) hx hb dX8_pitchOf_23 (by decide) ?_
    exact W.iret hx hb hr (fun t ht _ => ⟨_, rfl, h, ht⟩) (fun _ hq => by cases hq) dX8_pitchOf_24
  have h := h.2 hc
  refine lv_aload_n hx hb dX8_pitchOf_9 rfl (lv_at hl 0 rfl) ?_
  refine gf S hE hP 0 rfl rfl inX8 (k := 0) (by decide) q80 rfl dX8_pitchOf_10 ?_
  refine lv_iload_n hx hb dX8_pitchOf_13 rfl (lv_at hl 1 rfl) ?_
  refine lv_bipush (v := 12) hx hb dX8_pitchOf_14 (by decide) ?_
  refine lv_imul hx hb dX8_pitchOf_16 ?_
  refine lv_iload_n hx hb dX8_pitchOf_17 rfl (lv_at hl 2 rfl) ?_
  refine lv_iadd hx hb dX8_pitchOf_18 ?_
  obtain ⟨hi, h⟩ := h
  refine ial S hE hP 2 rfl hi dX8_pitchOf_19 ?_
  refine lv_goto (tgt := 24) hx hb dX8_pitchOf_20 (by decide) ?_
  exact W.iret hx hb hr (fun t ht _ => ⟨_, rfl, h, ht⟩) (fun _ hq => by cases hq) dX8_pitchOf_24
/-! X5_asked -/
abbrev wX5_asked (cI cJ cS : ClassId) (a_o a_demands : Nat) (z_stretches z_cars z_tunes : Value) (v_drawSeed : Int32) (f_demands : Nat → Int32) : va_W := [(a_o, .inr (4, [z_stretches, z_cars, z_tunes, .ref a_demands, .int v_drawSeed])), (a_demands, .inl (cI, 4, .inl f_demands))]
def F_X5_asked (f_demands : Nat → Int32) (x1 : Int32) (post : Int32 → Prop) : Prop := (F_X9_within x1 0 3 (fun r3 => ((r3 = 0 → post 0) ∧ (¬ r3 = 0 → (vp_in x1 4 ∧ post (f_demands x1.toNatClampNeg))))))
set_option maxHeartbeats 4000000 in
set_option maxRecDepth 100000 in
theorem c_X5_asked {l : Launch} {D : va_G} {cI cJ cS : ClassId} {ad adK : Nat → Nat} {a_o a_demands : Nat} {z_stretches z_cars z_tunes : Value} {v_drawSeed : Int32} {f_demands : Nat → Int32} {x1 : Int32} {post : Int32 → Prop} (h : F_X5_asked f_demands x1 post) : Met l yX5_asked (Cond.code yX5_asked cX5_asked 2 (some (.int)) :: GW) (rmd 1 0 0) (PR D cI cJ cS ad adK [.ref a_o, .int x1] (wX5_asked cI cJ cS a_o a_demands z_stretches z_cars z_tunes v_drawSeed f_demands)) (vp_Si post) 0 0 nof := by
  refine Met.ro (by decide) (Nat.le_of_ble_eq_true rfl) (fun p e s m args below meth c ls (S : CallFix p m c cX5_asked 2 s args GW "RoadThatSings$Road") hE hT hP hS hr hlocks hl => ?_)
  have hx := S.1
  have hb := S.2.1
  have hl : lv_has ls 2 [(0, .ref a_o), (1, .int x1)] := hl
  unfold F_X5_asked at h
  refine lv_iload_n hx hb dX5_asked_0 rfl (lv_at hl 1 rfl) ?_
  refine lv_iconst (v := 0) hx hb dX5_asked_1 (by decide) ?_
  refine lv_iconst (v := 3) hx hb dX5_asked_2 (by decide) ?_
  refine ro_i (roSN S hE hT hS (c_X9_within h) lkX5_56 rfl ⟨(Nat.le_of_ble_eq_true rfl), (Nat.le_of_ble_eq_true rfl)⟩ (hP.sub [] rfl) hl.1 rfl (Nat.le_of_ble_eq_true rfl) dX5_asked_3 ⟨(Nat.zero_le _), (Nat.zero_le _)⟩) (fun r3 h => ?_)
  refine lv_if_eq (tgt := 18) hx hb dX5_asked_6 (by decide) (fun hc => ?_) (fun hc => ?_)
  · have h := h.1 hc
    refine lv_iconst (v := 0) hx hb dX5_asked_18 (by decide) ?_
    exact W.iret hx hb hr (fun t ht _ => ⟨_, rfl, h, ht⟩) (fun _ hq => by cases hq) dX5_asked_19
  have h := h.2 hc
  refine lv_aload_n hx hb dX5_asked_9 rfl (lv_at hl 0 rfl) ?_
  refine gf S hE hP 0 rfl rfl inX5 (k := 3) (by decide) q103 rfl dX5_asked_10 ?_
  refine lv_iload_n hx hb dX5_asked_13 rfl (lv_at hl 1 rfl) ?_
  obtain ⟨hi, h⟩ := h
  refine ial S hE hP 1 rfl hi dX5_asked_14 ?_
  refine lv_goto (tgt := 19) hx hb dX5_asked_15 (by decide) ?_
  exact W.iret hx hb hr (fun t ht _ => ⟨_, rfl, h, ht⟩) (fun _ hq => by cases hq) dX5_asked_19
/-! X9_quotient -/
abbrev wX9_quotient (cI cJ cS : ClassId) : va_W := []
def F_X9_quotient (x0 : Int32) (x1 : Int32) (post : Int32 → Prop) : Prop := ((x1 = 0 → post 0) ∧ (¬ x1 = 0 → (¬ x1 = 0 ∧ post (x0 / x1))))
set_option maxHeartbeats 4000000 in
set_option maxRecDepth 100000 in
theorem c_X9_quotient {l : Launch} {D : va_G} {cI cJ cS : ClassId} {ad adK : Nat → Nat}  {x0 : Int32} {x1 : Int32} {post : Int32 → Prop} (h : F_X9_quotient x0 x1 post) : Met l yX9_quotient (Cond.code yX9_quotient cX9_quotient 2 (some (.int)) :: GW) (rmd 0 0 0) (PR D cI cJ cS ad adK [.int x0, .int x1] (wX9_quotient cI cJ cS)) (vp_Si post) 0 0 nof := by
  refine Met.ro (by decide) (Nat.le_of_ble_eq_true rfl) (fun p e s m args below meth c ls (S : CallFix p m c cX9_quotient 2 s args GW "RoadThatSings") hE hT hP hS hr hlocks hl => ?_)
  have hx := S.1
  have hb := S.2.1
  have hl : lv_has ls 2 [(0, .int x0), (1, .int x1)] := hl
  unfold F_X9_quotient at h
  refine lv_iload_n hx hb dX9_quotient_0 rfl (lv_at hl 1 rfl) ?_
  refine lv_if_ne (tgt := 8) hx hb dX9_quotient_1 (by decide) (fun hc => ?_) (fun hc => ?_)
  · have h := h.2 hc
    refine lv_iload_n hx hb dX9_quotient_8 rfl (lv_at hl 0 rfl) ?_
    refine lv_iload_n hx hb dX9_quotient_9 rfl (lv_at hl 1 rfl) ?_
    obtain ⟨hz, h⟩ := h
    refine lv_idiv hx hb dX9_quotient_10 hz ?_
    exact W.iret hx hb hr (fun t ht _ => ⟨_, rfl, h, ht⟩) (fun _ hq => by cases hq) dX9_quotient_11
  have h := h.1 hc
  refine lv_iconst (v := 0) hx hb dX9_quotient_4 (by decide) ?_
  refine lv_goto (tgt := 11) hx hb dX9_quotient_5 (by decide) ?_
  exact W.iret hx hb hr (fun t ht _ => ⟨_, rfl, h, ht⟩) (fun _ hq => by cases hq) dX9_quotient_11
/-! X9_humBy -/
abbrev wX9_humBy (cI cJ cS : ClassId) : va_W := []
def F_X9_humBy (x0 : Int32) (x1 : Int32) (post : Int32 → Prop) : Prop := (F_X9_quotient (704 * x1) x0 (fun r6 => post r6))
set_option maxHeartbeats 4000000 in
set_option maxRecDepth 100000 in
theorem c_X9_humBy {l : Launch} {D : va_G} {cI cJ cS : ClassId} {ad adK : Nat → Nat}  {x0 : Int32} {x1 : Int32} {post : Int32 → Prop} (h : F_X9_humBy x0 x1 post) : Met l yX9_humBy (Cond.code yX9_humBy cX9_humBy 2 (some (.int)) :: GW) (rmd 1 0 0) (PR D cI cJ cS ad adK [.int x0, .int x1] (wX9_humBy cI cJ cS)) (vp_Si post) 0 0 nof := by
  refine Met.ro (by decide) (Nat.le_of_ble_eq_true rfl) (fun p e s m args below meth c ls (S : CallFix p m c cX9_humBy 2 s args GW "RoadThatSings") hE hT hP hS hr hlocks hl => ?_)
  have hx := S.1
  have hb := S.2.1
  have hl : lv_has ls 2 [(0, .int x0), (1, .int x1)] := hl
  unfold F_X9_humBy at h
  refine lv_sipush (v := 704) hx hb dX9_humBy_0 (by decide) ?_
  refine lv_iload_n hx hb dX9_humBy_3 rfl (lv_at hl 1 rfl) ?_
  refine lv_imul hx hb dX9_humBy_4 ?_
  refine lv_iload_n hx hb dX9_humBy_5 rfl (lv_at hl 0 rfl) ?_
  refine ro_i (roS S hE hT hS (c_X9_quotient h) lkX9_354 rfl ⟨(Nat.le_of_ble_eq_true rfl), (Nat.le_of_ble_eq_true rfl)⟩ (hP.sub [] rfl) hl.1 rfl (Nat.le_of_ble_eq_true rfl) dX9_humBy_6 ⟨(Nat.zero_le _), (Nat.zero_le _)⟩) (fun r6 h => ?_)
  exact W.iret hx hb hr (fun t ht _ => ⟨_, rfl, h, ht⟩) (fun _ hq => by cases hq) dX9_humBy_9
/-! X9_offBetween -/
abbrev wX9_offBetween (cI cJ cS : ClassId) : va_W := []
def F_X9_offBetween (x0 : Int32) (x1 : Int32) (post : Int32 → Prop) : Prop := ((x1 = 0 → ((x0 = 0 → post 0) ∧ (¬ x0 = 0 → post 999))) ∧ (¬ x1 = 0 → ((x0 = 0 → post 999) ∧ (¬ x0 = 0 → (F_X9_quotient ((if 0 ≤ (x0 - x1) then (x0 - x1) else 0 - (x0 - x1)) * 1000) x1 (fun r38 => post (if r38 < 999 then r38 else 999)))))))
set_option maxHeartbeats 4000000 in
set_option maxRecDepth 100000 in
theorem c_X9_offBetween {l : Launch} {D : va_G} {cI cJ cS : ClassId} {ad adK : Nat → Nat}  {x0 : Int32} {x1 : Int32} {post : Int32 → Prop} (h : F_X9_offBetween x0 x1 post) : Met l yX9_offBetween (Cond.code yX9_offBetween cX9_offBetween 2 (some (.int)) :: GW) (rmd 1 0 0) (PR D cI cJ cS ad adK [.int x0, .int x1] (wX9_offBetween cI cJ cS)) (vp_Si post) 0 0 nof := by
  refine Met.ro (by decide) (Nat.le_of_ble_eq_true rfl) (fun p e s m args below meth c ls (S : CallFix p m c cX9_offBetween 2 s args GW "RoadThatSings") hE hT hP hS hr hlocks hl => ?_)
  have hx := S.1
  have hb := S.2.1
  have hl : lv_has ls 2 [(0, .int x0), (1, .int x1)] := hl
  unfold F_X9_offBetween at h
  refine lv_iload_n hx hb dX9_offBetween_0 rfl (lv_at hl 1 rfl) ?_
  refine lv_if_ne (tgt := 16) hx hb dX9_offBetween_1 (by decide) (fun hc => ?_) (fun hc => ?_)
  · have h := h.2 hc
    refine lv_iload_n hx hb dX9_offBetween_16 rfl (lv_at hl 0 rfl) ?_
    refine lv_if_ne (tgt := 24) hx hb dX9_offBetween_17 (by decide) (fun hc => ?_) (fun hc => ?_)
    · have h := h.2 hc
      refine lv_sipush (v := 999) hx hb dX9_offBetween_24 (by decide) ?_
      refine lv_iload_n hx hb dX9_offBetween_27 rfl (lv_at hl 0 rfl) ?_
      refine lv_iload_n hx hb dX9_offBetween_28 rfl (lv_at hl 1 rfl) ?_
      refine lv_isub hx hb dX9_offBetween_29 ?_
      refine va_mabs hx hb (S.2.2.1.trans hl.1.symm) S.2.2.2.1 (S.2.2.2.2 _ q755) (S.2.2.2.2 _ q756) (S.2.2.2.2 _ q10) (S.2.2.2.2 _ q757) (Nat.le_of_ble_eq_true rfl) (Nat.le_of_ble_eq_true rfl) (Nat.zero_le _) (Nat.zero_le _) dX9_offBetween_30 ?_
      refine lv_sipush (v := 1000) hx hb dX9_offBetween_33 (by decide) ?_
      refine lv_imul hx hb dX9_offBetween_36 ?_
      refine lv_iload_n hx hb dX9_offBetween_37 rfl (lv_at hl 1 rfl) ?_
      refine ro_i (roS S hE hT hS (c_X9_quotient h) lkX9_354 rfl ⟨(Nat.le_of_ble_eq_true rfl), (Nat.le_of_ble_eq_true rfl)⟩ (hP.sub [] rfl) hl.1 rfl (Nat.le_of_ble_eq_true rfl) dX9_offBetween_38 ⟨(Nat.zero_le _), (Nat.zero_le _)⟩) (fun r38 h => ?_)
      refine va_mmin hx hb (S.2.2.1.trans hl.1.symm) S.2.2.2.1 (S.2.2.2.2 _ q758) (S.2.2.2.2 _ q233) (S.2.2.2.2 _ q10) (S.2.2.2.2 _ q234) (Nat.le_of_ble_eq_true rfl) (Nat.le_of_ble_eq_true rfl) (Nat.zero_le _) (Nat.zero_le _) dX9_offBetween_41 ?_
      exact W.iret hx hb hr (fun t ht _ => ⟨_, rfl, h, ht⟩) (fun _ hq => by cases hq) dX9_offBetween_44
    have h := h.1 hc
    refine lv_sipush (v := 999) hx hb dX9_offBetween_20 (by decide) ?_
    exact W.iret hx hb hr (fun t ht _ => ⟨_, rfl, h, ht⟩) (fun _ hq => by cases hq) dX9_offBetween_23
  have h := h.1 hc
  refine lv_iload_n hx hb dX9_offBetween_4 rfl (lv_at hl 0 rfl) ?_
  refine lv_if_ne (tgt := 12) hx hb dX9_offBetween_5 (by decide) (fun hc => ?_) (fun hc => ?_)
  · have h := h.2 hc
    refine lv_sipush (v := 999) hx hb dX9_offBetween_12 (by decide) ?_
    exact W.iret hx hb hr (fun t ht _ => ⟨_, rfl, h, ht⟩) (fun _ hq => by cases hq) dX9_offBetween_15
  have h := h.1 hc
  refine lv_iconst (v := 0) hx hb dX9_offBetween_8 (by decide) ?_
  refine lv_goto (tgt := 15) hx hb dX9_offBetween_9 (by decide) ?_
  exact W.iret hx hb hr (fun t ht _ => ⟨_, rfl, h, ht⟩) (fun _ hq => by cases hq) dX9_offBetween_15
/-! X2_spaceFor -/
abbrev wX2_spaceFor (cI cJ cS : ClassId) : va_W := []
def F_X2_spaceFor_47 (post : Int32 → Prop) (k10 : Int32 → Int32 → Int32 → Prop) (x0 : Int32) (x2 : Int32) (x3 : Int32) (x4 : Int32) (x5 : Int32) (x6 : Int32) : Prop := ((x0 < x6 → (∀ x5_55 : Int32, x5_55 = x5 + 1 → k10 x3 x4 x5_55)) ∧ (¬ x0 < x6 → post x3))
def L_X2_spaceFor_10 (x0 : Int32) (x2 : Int32) (post : Int32 → Prop) : Nat → Int32 → Int32 → Int32 → Prop
  | 0, _, _, _ => False
  | n10 + 1, x3, x4, x5 => ((60 < x5 → post x3) ∧ (¬ 60 < x5 → (F_X9_humBy x5 x2 (fun r20 => (F_X9_offBetween r20 x0 (fun r28 => ((x4 ≤ r28 → F_X2_spaceFor_47 post (fun x3 x4 x5 => L_X2_spaceFor_10 x0 x2 post n10 x3 x4 x5) x0 x2 x3 x4 x5 r20) ∧ (¬ x4 ≤ r28 → F_X2_spaceFor_47 post (fun x3 x4 x5 => L_X2_spaceFor_10 x0 x2 post n10 x3 x4 x5) x0 x2 x5 r28 x5 r20))))))))
def F_X2_spaceFor (x0 : Int32) (x1 : Int32) (x2 : Int32) (post : Int32 → Prop) : Prop := (∃ n10 : Nat, L_X2_spaceFor_10 x0 x2 post n10 x1 1000 x1)
set_option maxHeartbeats 4000000 in
set_option maxRecDepth 100000 in
theorem w_X2_spaceFor_47 {l : Launch} {D : va_G} {cI cJ cS : ClassId} {ad adK : Nat → Nat}  {x0 : Int32} {x2 : Int32} {x3 : Int32} {x4 : Int32} {x5 : Int32} {x6 : Int32} {post : Int32 → Prop} {k10 : Int32 → Int32 → Int32 → Prop} {p : Program} {e : Env} {s : State} {m : MethodId} {args : Array Value} {below : List Frame} {meth : Method} {c : Code} (S : CallFix p m c cX2_spaceFor 8 s args GW "RoadThatSings$Cutting") (hE : EN D cI cJ cS s) (hT : ST ad adK nof s s.heap) (hP : va_P D vwCl (wX2_spaceFor cI cJ cS) s.heap) (hS : va_S nof s.heap s.heap []) (hr : meth.sig.returnType = (some (.int))) (hlocks : meth.locks = false) (hk10 : ∀ (x3 : Int32) (x4 : Int32) (x5 : Int32) (ls : Array Slot), k10 x3 x4 x5 → lv_has ls 8 [(0, .int x0), (2, .int x2), (3, .int x3), (4, .int x4), (5, .int x5)] → W p l e (rmd 2 0 0) s m args below meth c s.heap [] 0 0 (MQ below (vp_Si post) args s 0 0 nof) (F0 m 10 ls [])) : ∀ (ls : Array Slot), F_X2_spaceFor_47 post k10 x0 x2 x3 x4 x5 x6 → lv_has ls 8 [(0, .int x0), (2, .int x2), (3, .int x3), (4, .int x4), (5, .int x5), (6, .int x6)] → W p l e (rmd 2 0 0) s m args below meth c s.heap [] 0 0 (MQ below (vp_Si post) args s 0 0 nof) (F0 m 47 ls []) := by
  intro  ls h hl
  unfold F_X2_spaceFor_47 at h
  have hx := S.1
  have hb := S.2.1
  refine lv_iload hx hb dX2_spaceFor_47 (lv_at hl 5 rfl) ?_
  refine lv_iload_n hx hb dX2_spaceFor_49 rfl (lv_at hl 0 rfl) ?_
  refine lv_icmp_gt (tgt := 55) hx hb dX2_spaceFor_50 (by decide) (fun hc => ?_) (fun hc => ?_)
  · have h := h.1 hc
    obtain ⟨x5_55, ex5_55⟩ : ∃ z : Int32, z = x5 + 1 := ⟨_, rfl⟩
    have h := h _ ex5_55
    refine lv_iinc (v := x5_55) (lv' := [(5, .int x5_55), (0, .int x0), (2, .int x2), (3, .int x3), (4, .int x4), (6, .int x6)]) hx hb dX2_spaceFor_55 hl (k := 4) rfl (by rw [ex5_55]; rfl) (by decide) rfl (fun ls hl => ?_)
    refine lv_goto (tgt := 10) hx hb dX2_spaceFor_58 (by decide) ?_
    exact hk10 _ _ _ _ h (lv_sub hl [1, 2, 3, 4, 0] rfl)
  have h := h.2 hc
  refine lv_iload_n hx hb dX2_spaceFor_53 rfl (lv_at hl 2 rfl) ?_
  exact W.iret hx hb hr (fun t ht _ => ⟨_, rfl, h, ht⟩) (fun _ hq => by cases hq) dX2_spaceFor_54
set_option maxHeartbeats 4000000 in
set_option maxRecDepth 100000 in
theorem w_X2_spaceFor_10 {l : Launch} {D : va_G} {cI cJ cS : ClassId} {ad adK : Nat → Nat}  {x0 : Int32} {x2 : Int32} {post : Int32 → Prop} {p : Program} {e : Env} {s : State} {m : MethodId} {args : Array Value} {below : List Frame} {meth : Method} {c : Code} (S : CallFix p m c cX2_spaceFor 8 s args GW "RoadThatSings$Cutting") (hE : EN D cI cJ cS s) (hT : ST ad adK nof s s.heap) (hP : va_P D vwCl (wX2_spaceFor cI cJ cS) s.heap) (hS : va_S nof s.heap s.heap []) (hr : meth.sig.returnType = (some (.int))) (hlocks : meth.locks = false) : ∀ n : Nat, ∀ (x3 : Int32) (x4 : Int32) (x5 : Int32) (ls : Array Slot), L_X2_spaceFor_10 x0 x2 post n x3 x4 x5 → lv_has ls 8 [(0, .int x0), (2, .int x2), (3, .int x3), (4, .int x4), (5, .int x5)] → W p l e (rmd 2 0 0) s m args below meth c s.heap [] 0 0 (MQ below (vp_Si post) args s 0 0 nof) (F0 m 10 ls []) := by
  intro n
  induction n with
  | zero =>
    intro x3 x4 x5 ls h hl
    exact h.elim
  | succ n ih =>
    intro x3 x4 x5 ls h hl
    rw [L_X2_spaceFor_10] at h
    have hx := S.1
    have hb := S.2.1
    refine lv_iload hx hb dX2_spaceFor_10 (lv_at hl 4 rfl) ?_
    refine lv_bipush (v := 60) hx hb dX2_spaceFor_12 (by decide) ?_
    refine lv_icmp_gt (tgt := 61) hx hb dX2_spaceFor_14 (by decide) (fun hc => ?_) (fun hc => ?_)
    · have h := h.1 hc
      refine lv_iload_n hx hb dX2_spaceFor_61 rfl (lv_at hl 2 rfl) ?_
      exact W.iret hx hb hr (fun t ht _ => ⟨_, rfl, h, ht⟩) (fun _ hq => by cases hq) dX2_spaceFor_62
    have h := h.2 hc
    refine lv_iload hx hb dX2_spaceFor_17 (lv_at hl 4 rfl) ?_
    refine lv_iload_n hx hb dX2_spaceFor_19 rfl (lv_at hl 1 rfl) ?_
    refine ro_i (roSN S hE hT hS (c_X9_humBy h) lkX2_64 rfl ⟨(Nat.le_of_ble_eq_true rfl), (Nat.le_of_ble_eq_true rfl)⟩ (hP.sub [] rfl) hl.1 rfl (Nat.le_of_ble_eq_true rfl) dX2_spaceFor_20 ⟨(Nat.zero_le _), (Nat.zero_le _)⟩) (fun r20 h => ?_)
    refine lv_istore (lv' := [(6, .int r20), (0, .int x0), (2, .int x2), (3, .int x3), (4, .int x4), (5, .int x5)]) hx hb dX2_spaceFor_23 hl (by decide) rfl (fun ls hl => ?_)
    refine lv_iload hx hb dX2_spaceFor_25 (lv_at hl 0 rfl) ?_
    refine lv_iload_n hx hb dX2_spaceFor_27 rfl (lv_at hl 1 rfl) ?_
    refine ro_i (roSN S hE hT hS (c_X9_offBetween h) lkX2_67 rfl ⟨(Nat.le_of_ble_eq_true rfl), (Nat.le_of_ble_eq_true rfl)⟩ (hP.sub [] rfl) hl.1 rfl (Nat.le_of_ble_eq_true rfl) dX2_spaceFor_28 ⟨(Nat.zero_le _), (Nat.zero_le _)⟩) (fun r28 h => ?_)
    refine lv_istore (lv' := [(7, .int r28), (6, .int r20), (0, .int x0), (2, .int x2), (3, .int x3), (4, .int x4), (5, .int x5)]) hx hb dX2_spaceFor_31 hl (by decide) rfl (fun ls hl => ?_)
    refine lv_iload hx hb dX2_spaceFor_33 (lv_at hl 0 rfl) ?_
    refine lv_iload hx hb dX2_spaceFor_35 (lv_at hl 5 rfl) ?_
    refine lv_icmp_ge (tgt := 47) hx hb dX2_spaceFor_37 (by decide) (fun hc => ?_) (fun hc => ?_)
    · have h := h.1 hc
      refine w_X2_spaceFor_47 S hE hT hP hS hr hlocks ih _ h (lv_sub hl [2, 3, 4, 5, 6, 1] rfl)
    have h := h.2 hc
    refine lv_iload hx hb dX2_spaceFor_40 (lv_at hl 0 rfl) ?_
    refine lv_istore (lv' := [(4, .int r28), (7, .int r28), (6, .int r20), (0, .int x0), (2, .int x2), (3, .int x3), (5, .int x5)]) hx hb dX2_spaceFor_42 hl (by decide) rfl (fun ls hl => ?_)
    refine lv_iload hx hb dX2_spaceFor_44 (lv_at hl 6 rfl) ?_
    refine lv_istore_n (lv' := [(3, .int x5), (4, .int r28), (7, .int r28), (6, .int r20), (0, .int x0), (2, .int x2), (5, .int x5)]) hx hb dX2_spaceFor_46 rfl hl (by decide) rfl (fun ls hl => ?_)
    refine w_X2_spaceFor_47 S hE hT hP hS hr hlocks ih _ h (lv_sub hl [4, 5, 0, 1, 6, 3] rfl)
set_option maxHeartbeats 4000000 in
set_option maxRecDepth 100000 in
theorem c_X2_spaceFor {l : Launch} {D : va_G} {cI cJ cS : ClassId} {ad adK : Nat → Nat}  {x0 : Int32} {x1 : Int32} {x2 : Int32} {post : Int32 → Prop} (h : F_X2_spaceFor x0 x1 x2 post) : Met l yX2_spaceFor (Cond.code yX2_spaceFor cX2_spaceFor 8 (some (.int)) :: GW) (rmd 2 0 0) (PR D cI cJ cS ad adK [.int x0, .int x1, .int x2] (wX2_spaceFor cI cJ cS)) (vp_Si post) 0 0 nof := by
  refine Met.ro (by decide) (Nat.le_of_ble_eq_true rfl) (fun p e s m args below meth c ls (S : CallFix p m c cX2_spaceFor 8 s args GW "RoadThatSings$Cutting") hE hT hP hS hr hlocks hl => ?_)
  have hx := S.1
  have hb := S.2.1
  have hl : lv_has ls 8 [(0, .int x0), (1, .int x1), (2, .int x2)] := hl
  unfold F_X2_spaceFor at h
  refine lv_iload_n hx hb dX2_spaceFor_0 rfl (lv_at hl 1 rfl) ?_
  refine lv_istore_n (lv' := [(3, .int x1), (0, .int x0), (1, .int x1), (2, .int x2)]) hx hb dX2_spaceFor_1 rfl hl (by decide) rfl (fun ls hl => ?_)
  refine lv_sipush (v := 1000) hx hb dX2_spaceFor_2 (by decide) ?_
  refine lv_istore (lv' := [(4, .int 1000), (3, .int x1), (0, .int x0), (1, .int x1), (2, .int x2)]) hx hb dX2_spaceFor_5 hl (by decide) rfl (fun ls hl => ?_)
  refine lv_iload_n hx hb dX2_spaceFor_7 rfl (lv_at hl 3 rfl) ?_
  refine lv_istore (lv' := [(5, .int x1), (4, .int 1000), (3, .int x1), (0, .int x0), (1, .int x1), (2, .int x2)]) hx hb dX2_spaceFor_8 hl (by decide) rfl (fun ls hl => ?_)
  obtain ⟨n, h⟩ := h
  refine w_X2_spaceFor_10 S hE hT hP hS hr hlocks n _ _ _ _ h (lv_sub hl [3, 5, 2, 1, 0] rfl)
/-! X2_chooseSpaces -/
abbrev wX2_chooseSpaces (cI cJ cS : ClassId) (a_o a_offs a_p1 a_p1_demands a_p1_tunes a_p1_tunes_noteCounts a_p1_tunes_pitches a_spaces : Nat) (z_times z_p1_stretches z_p1_cars z_p1_tunes_beats : Value) (v_noteCount : Int32) (f_offs : Nat → Int32) (v_p1_drawSeed : Int32) (f_p1_demands : Nat → Int32) (v_p1_tunes_tuneCount : Int32) (f_p1_tunes_noteCounts : Nat → Int32) (f_p1_tunes_pitches : Nat → Int32) (f_spaces : Nat → Int32) : va_W := [(a_o, .inr (2, [.ref a_spaces, .ref a_offs, z_times, .int v_noteCount])), (a_offs, .inl (cI, 12, .inl f_offs)), (a_p1, .inr (4, [z_p1_stretches, z_p1_cars, .ref a_p1_tunes, .ref a_p1_demands, .int v_p1_drawSeed])), (a_p1_demands, .inl (cI, 4, .inl f_p1_demands)), (a_p1_tunes, .inr (7, [.ref a_p1_tunes_pitches, z_p1_tunes_beats, .ref a_p1_tunes_noteCounts, .int v_p1_tunes_tuneCount])), (a_p1_tunes_noteCounts, .inl (cI, 6, .inl f_p1_tunes_noteCounts)), (a_p1_tunes_pitches, .inl (cI, 72, .inl f_p1_tunes_pitches)), (a_spaces, .inl (cI, 12, .inl f_spaces))]
def F_X2_chooseSpaces_99 (k20 : Int32 → (Nat → Int32) → (Nat → Int32) → Prop) (x2 : Int32) (x3 : Int32) (x4 : Int32) (v_noteCount : Int32) (f_offs : Nat → Int32) (f_spaces : Nat → Int32) (s0 : Int32) (s1 : Int32) : Prop := (vp_in s1 12 ∧ (∀ x4_100 : Int32, x4_100 = x4 + 1 → k20 x4_100 (upd f_offs s1.toNatClampNeg s0) f_spaces))
def F_X2_chooseSpaces_62 (k20 : Int32 → (Nat → Int32) → (Nat → Int32) → Prop) (x2 : Int32) (x3 : Int32) (x4 : Int32) (x5 : Int32) (v_noteCount : Int32) (f_offs : Nat → Int32) (f_spaces : Nat → Int32) (s0 : Int32) : Prop := (vp_in x4 12 ∧ ((x5 = 0 → F_X2_chooseSpaces_99 k20 x2 x3 x4 v_noteCount f_offs (upd f_spaces x4.toNatClampNeg s0) 0 x4) ∧ (¬ x5 = 0 → (F_X9_humBy s0 x3 (fun r91 => (F_X9_offBetween r91 x5 (fun r96 => F_X2_chooseSpaces_99 k20 x2 x3 x4 v_noteCount f_offs (upd f_spaces x4.toNatClampNeg s0) r96 x4)))))))
def L_X2_chooseSpaces_20 (f_p1_demands : Nat → Int32) (v_p1_tunes_tuneCount : Int32) (f_p1_tunes_noteCounts : Nat → Int32) (f_p1_tunes_pitches : Nat → Int32) (x2 : Int32) (x3 : Int32) (v_noteCount : Int32) (post : Int32 → (Nat → Int32) → (Nat → Int32) → Prop) : Nat → Int32 → (Nat → Int32) → (Nat → Int32) → Prop
  | 0, _, _, _ => False
  | n20 + 1, x4, f_offs, f_spaces => ((v_noteCount ≤ x4 → post v_noteCount f_offs f_spaces) ∧ (¬ v_noteCount ≤ x4 → (F_X8_pitchOf v_p1_tunes_tuneCount f_p1_tunes_noteCounts f_p1_tunes_pitches x2 x4 (fun r36 => ((r36 = 0 → F_X2_chooseSpaces_62 (fun x4 f_offs f_spaces => L_X2_chooseSpaces_20 f_p1_demands v_p1_tunes_tuneCount f_p1_tunes_noteCounts f_p1_tunes_pitches x2 x3 v_noteCount post n20 x4 f_offs f_spaces) x2 x3 x4 r36 v_noteCount f_offs f_spaces 10) ∧ (¬ r36 = 0 → (F_X5_asked f_p1_demands 1 (fun r55 => (F_X2_spaceFor r36 r55 x3 (fun r59 => F_X2_chooseSpaces_62 (fun x4 f_offs f_spaces => L_X2_chooseSpaces_20 f_p1_demands v_p1_tunes_tuneCount f_p1_tunes_noteCounts f_p1_tunes_pitches x2 x3 v_noteCount post n20 x4 f_offs f_spaces) x2 x3 x4 r36 v_noteCount f_offs f_spaces r59))))))))))
def F_X2_chooseSpaces (v_noteCount : Int32) (f_offs : Nat → Int32) (f_p1_demands : Nat → Int32) (v_p1_tunes_tuneCount : Int32) (f_p1_tunes_noteCounts : Nat → Int32) (f_p1_tunes_pitches : Nat → Int32) (f_spaces : Nat → Int32) (x2 : Int32) (x3 : Int32) (post : Int32 → (Nat → Int32) → (Nat → Int32) → Prop) : Prop := (F_X8_notesOf v_p1_tunes_tuneCount f_p1_tunes_noteCounts x2 (fun r8 => (∃ n20 : Nat, L_X2_chooseSpaces_20 f_p1_demands v_p1_tunes_tuneCount f_p1_tunes_noteCounts f_p1_tunes_pitches x2 x3 (if r8 < 12 then r8 else 12) post n20 0 f_offs f_spaces)))
set_option maxHeartbeats 4000000 in
set_option maxRecDepth 100000 in
theorem w_X2_chooseSpaces_99 {l : Launch} {D : va_G} {cI cJ cS : ClassId} {ad adK : Nat → Nat} {a_o a_offs a_p1 a_p1_demands a_p1_tunes a_p1_tunes_noteCounts a_p1_tunes_pitches a_spaces : Nat} {z_times z_p1_stretches z_p1_cars z_p1_tunes_beats : Value} {v_noteCount : Int32} {f_offs : Nat → Int32} {v_p1_drawSeed : Int32} {f_p1_demands : Nat → Int32} {v_p1_tunes_tuneCount : Int32} {f_p1_tunes_noteCounts : Nat → Int32} {f_p1_tunes_pitches : Nat → Int32} {f_spaces : Nat → Int32} {x2 : Int32} {x3 : Int32} {x4 : Int32} {s0 : Int32} {s1 : Int32} {post : Int32 → (Nat → Int32) → (Nat → Int32) → Prop} {k20 : Int32 → (Nat → Int32) → (Nat → Int32) → Prop} {p : Program} {e : Env} {s : State} {m : MethodId} {args : Array Value} {below : List Frame} {meth : Method} {c : Code} {A : Nat → Prop} (S : CallFix p m c cX2_chooseSpaces 7 s args GW "RoadThatSings$Cutting") (hE : EN D cI cJ cS s) (hT : ST ad adK A s s.heap) (hA : ∀ q : Nat, s.heap.size ≤ q → A q) (hr : meth.sig.returnType = none) (hlocks : meth.locks = false) (hk20 : ∀ (x4 : Int32) (f_offs : Nat → Int32) (f_spaces : Nat → Int32) (H : Heap) (locs : List Loc) (ls : Array Slot), k20 x4 f_offs f_spaces → va_P D vwCl (wX2_chooseSpaces cI cJ cS a_o a_offs a_p1 a_p1_demands a_p1_tunes a_p1_tunes_noteCounts a_p1_tunes_pitches a_spaces z_times z_p1_stretches z_p1_cars z_p1_tunes_beats v_noteCount f_offs v_p1_drawSeed f_p1_demands v_p1_tunes_tuneCount f_p1_tunes_noteCounts f_p1_tunes_pitches f_spaces) H → va_D A (wX2_chooseSpaces cI cJ cS a_o a_offs a_p1 a_p1_demands a_p1_tunes a_p1_tunes_noteCounts a_p1_tunes_pitches a_spaces z_times z_p1_stretches z_p1_cars z_p1_tunes_beats v_noteCount f_offs v_p1_drawSeed f_p1_demands v_p1_tunes_tuneCount f_p1_tunes_noteCounts f_p1_tunes_pitches f_spaces) → va_S A s.heap H locs → lv_has ls 7 [(0, .ref a_o), (1, .ref a_p1), (2, .int x2), (3, .int x3), (4, .int x4)] → W p l e (rmd 3 0 0) s m args below meth c H locs 0 0 (MQ below (va_Qv (fun u : Int32 × (Nat → Int32) × (Nat → Int32) => post u.1 u.2.1 u.2.2) (fun u t => va_P D vwCl (wX2_chooseSpaces cI cJ cS a_o a_offs a_p1 a_p1_demands a_p1_tunes a_p1_tunes_noteCounts a_p1_tunes_pitches a_spaces z_times z_p1_stretches z_p1_cars z_p1_tunes_beats u.1 u.2.1 v_p1_drawSeed f_p1_demands v_p1_tunes_tuneCount f_p1_tunes_noteCounts f_p1_tunes_pitches u.2.2) t.heap) A) args s 0 0 A) (F0 m 20 ls [])) : ∀ (H : Heap) (locs : List Loc) (ls : Array Slot), F_X2_chooseSpaces_99 k20 x2 x3 x4 v_noteCount f_offs f_spaces s0 s1 → va_P D vwCl (wX2_chooseSpaces cI cJ cS a_o a_offs a_p1 a_p1_demands a_p1_tunes a_p1_tunes_noteCounts a_p1_tunes_pitches a_spaces z_times z_p1_stretches z_p1_cars z_p1_tunes_beats v_noteCount f_offs v_p1_drawSeed f_p1_demands v_p1_tunes_tuneCount f_p1_tunes_noteCounts f_p1_tunes_pitches f_spaces) H → va_D A (wX2_chooseSpaces cI cJ cS a_o a_offs a_p1 a_p1_demands a_p1_tunes a_p1_tunes_noteCounts a_p1_tunes_pitches a_spaces z_times z_p1_stretches z_p1_cars z_p1_tunes_beats v_noteCount f_offs v_p1_drawSeed f_p1_demands v_p1_tunes_tuneCount f_p1_tunes_noteCounts f_p1_tunes_pitches f_spaces) → va_S A s.heap H locs → lv_has ls 7 [(0, .ref a_o), (1, .ref a_p1), (2, .int x2), (3, .int x3), (4, .int x4)] → W p l e (rmd 3 0 0) s m args below meth c H locs 0 0 (MQ below (va_Qv (fun u : Int32 × (Nat → Int32) × (Nat → Int32) => post u.1 u.2.1 u.2.2) (fun u t => va_P D vwCl (wX2_chooseSpaces cI cJ cS a_o a_offs a_p1 a_p1_demands a_p1_tunes a_p1_tunes_noteCounts a_p1_tunes_pitches a_spaces z_times z_p1_stretches z_p1_cars z_p1_tunes_beats u.1 u.2.1 v_p1_drawSeed f_p1_demands v_p1_tunes_tuneCount f_p1_tunes_noteCounts f_p1_tunes_pitches u.2.2) t.heap) A) args s 0 0 A) (F0 m 99 ls [.int s0, .int s1, .ref a_offs]) := by
  intro  H locs ls h hP hD hS hl
  unfold F_X2_chooseSpaces_99 at h
  have hx := S.1
  have hb := S.2.1
  obtain ⟨hi, h⟩ := h
  refine ias S hE hP hD hS 1 rfl hi dX2_chooseSpaces_99 (fun H locs hP hD hS => ?_)
  have hP : va_P D vwCl (wX2_chooseSpaces cI cJ cS a_o a_offs a_p1 a_p1_demands a_p1_tunes a_p1_tunes_noteCounts a_p1_tunes_pitches a_spaces z_times z_p1_stretches z_p1_cars z_p1_tunes_beats v_noteCount (upd f_offs s1.toNatClampNeg s0) v_p1_drawSeed f_p1_demands v_p1_tunes_tuneCount f_p1_tunes_noteCounts f_p1_tunes_pitches f_spaces) H := hP
  have hD : va_D A (wX2_chooseSpaces cI cJ cS a_o a_offs a_p1 a_p1_demands a_p1_tunes a_p1_tunes_noteCounts a_p1_tunes_pitches a_spaces z_times z_p1_stretches z_p1_cars z_p1_tunes_beats v_noteCount (upd f_offs s1.toNatClampNeg s0) v_p1_drawSeed f_p1_demands v_p1_tunes_tuneCount f_p1_tunes_noteCounts f_p1_tunes_pitches f_spaces) := hD
  obtain ⟨x4_100, ex4_100⟩ : ∃ z : Int32, z = x4 + 1 := ⟨_, rfl⟩
  have h := h _ ex4_100
  refine lv_iinc (v := x4_100) (lv' := [(4, .int x4_100), (0, .ref a_o), (1, .ref a_p1), (2, .int x2), (3, .int x3)]) hx hb dX2_chooseSpaces_100 hl (k := 4) rfl (by rw [ex4_100]; rfl) (by decide) rfl (fun ls hl => ?_)
  refine lv_goto (tgt := 20) hx hb dX2_chooseSpaces_103 (by decide) ?_
  exact hk20 _ _ _ _ _ _ h hP hD hS (lv_sub hl [1, 2, 3, 4, 0] rfl)
set_option maxHeartbeats 4000000 in
set_option maxRecDepth 100000 in
theorem w_X2_chooseSpaces_62 {l : Launch} {D : va_G} {cI cJ cS : ClassId} {ad adK : Nat → Nat} {a_o a_offs a_p1 a_p1_demands a_p1_tunes a_p1_tunes_noteCounts a_p1_tunes_pitches a_spaces : Nat} {z_times z_p1_stretches z_p1_cars z_p1_tunes_beats : Value} {v_noteCount : Int32} {f_offs : Nat → Int32} {v_p1_drawSeed : Int32} {f_p1_demands : Nat → Int32} {v_p1_tunes_tuneCount : Int32} {f_p1_tunes_noteCounts : Nat → Int32} {f_p1_tunes_pitches : Nat → Int32} {f_spaces : Nat → Int32} {x2 : Int32} {x3 : Int32} {x4 : Int32} {x5 : Int32} {s0 : Int32} {post : Int32 → (Nat → Int32) → (Nat → Int32) → Prop} {k20 : Int32 → (Nat → Int32) → (Nat → Int32) → Prop} {p : Program} {e : Env} {s : State} {m : MethodId} {args : Array Value} {below : List Frame} {meth : Method} {c : Code} {A : Nat → Prop} (S : CallFix p m c cX2_chooseSpaces 7 s args GW "RoadThatSings$Cutting") (hE : EN D cI cJ cS s) (hT : ST ad adK A s s.heap) (hA : ∀ q : Nat, s.heap.size ≤ q → A q) (hr : meth.sig.returnType = none) (hlocks : meth.locks = false) (hk20 : ∀ (x4 : Int32) (f_offs : Nat → Int32) (f_spaces : Nat → Int32) (H : Heap) (locs : List Loc) (ls : Array Slot), k20 x4 f_offs f_spaces → va_P D vwCl (wX2_chooseSpaces cI cJ cS a_o a_offs a_p1 a_p1_demands a_p1_tunes a_p1_tunes_noteCounts a_p1_tunes_pitches a_spaces z_times z_p1_stretches z_p1_cars z_p1_tunes_beats v_noteCount f_offs v_p1_drawSeed f_p1_demands v_p1_tunes_tuneCount f_p1_tunes_noteCounts f_p1_tunes_pitches f_spaces) H → va_D A (wX2_chooseSpaces cI cJ cS a_o a_offs a_p1 a_p1_demands a_p1_tunes a_p1_tunes_noteCounts a_p1_tunes_pitches a_spaces z_times z_p1_stretches z_p1_cars z_p1_tunes_beats v_noteCount f_offs v_p1_drawSeed f_p1_demands v_p1_tunes_tuneCount f_p1_tunes_noteCounts f_p1_tunes_pitches f_spaces) → va_S A s.heap H locs → lv_has ls 7 [(0, .ref a_o), (1, .ref a_p1), (2, .int x2), (3, .int x3), (4, .int x4)] → W p l e (rmd 3 0 0) s m args below meth c H locs 0 0 (MQ below (va_Qv (fun u : Int32 × (Nat → Int32) × (Nat → Int32) => post u.1 u.2.1 u.2.2) (fun u t => va_P D vwCl (wX2_chooseSpaces cI cJ cS a_o a_offs a_p1 a_p1_demands a_p1_tunes a_p1_tunes_noteCounts a_p1_tunes_pitches a_spaces z_times z_p1_stretches z_p1_cars z_p1_tunes_beats u.1 u.2.1 v_p1_drawSeed f_p1_demands v_p1_tunes_tuneCount f_p1_tunes_noteCounts f_p1_tunes_pitches u.2.2) t.heap) A) args s 0 0 A) (F0 m 20 ls [])) : ∀ (H : Heap) (locs : List Loc) (ls : Array Slot), F_X2_chooseSpaces_62 k20 x2 x3 x4 x5 v_noteCount f_offs f_spaces s0 → va_P D vwCl (wX2_chooseSpaces cI cJ cS a_o a_offs a_p1 a_p1_demands a_p1_tunes a_p1_tunes_noteCounts a_p1_tunes_pitches a_spaces z_times z_p1_stretches z_p1_cars z_p1_tunes_beats v_noteCount f_offs v_p1_drawSeed f_p1_demands v_p1_tunes_tuneCount f_p1_tunes_noteCounts f_p1_tunes_pitches f_spaces) H → va_D A (wX2_chooseSpaces cI cJ cS a_o a_offs a_p1 a_p1_demands a_p1_tunes a_p1_tunes_noteCounts a_p1_tunes_pitches a_spaces z_times z_p1_stretches z_p1_cars z_p1_tunes_beats v_noteCount f_offs v_p1_drawSeed f_p1_demands v_p1_tunes_tuneCount f_p1_tunes_noteCounts f_p1_tunes_pitches f_spaces) → va_S A s.heap H locs → lv_has ls 7 [(0, .ref a_o), (1, .ref a_p1), (2, .int x2), (3, .int x3), (4, .int x4), (5, .int x5)] → W p l e (rmd 3 0 0) s m args below meth c H locs 0 0 (MQ below (va_Qv (fun u : Int32 × (Nat → Int32) × (Nat → Int32) => post u.1 u.2.1 u.2.2) (fun u t => va_P D vwCl (wX2_chooseSpaces cI cJ cS a_o a_offs a_p1 a_p1_demands a_p1_tunes a_p1_tunes_noteCounts a_p1_tunes_pitches a_spaces z_times z_p1_stretches z_p1_cars z_p1_tunes_beats u.1 u.2.1 v_p1_drawSeed f_p1_demands v_p1_tunes_tuneCount f_p1_tunes_noteCounts f_p1_tunes_pitches u.2.2) t.heap) A) args s 0 0 A) (F0 m 62 ls [.int s0]) := by
  intro  H locs ls h hP hD hS hl
  unfold F_X2_chooseSpaces_62 at h
  have hx := S.1
  have hb := S.2.1
  refine lv_istore (lv' := [(6, .int s0), (0, .ref a_o), (1, .ref a_p1), (2, .int x2), (3, .int x3), (4, .int x4), (5, .int x5)]) hx hb dX2_chooseSpaces_62 hl (by decide) rfl (fun ls hl => ?_)
  refine lv_aload_n hx hb dX2_chooseSpaces_64 rfl (lv_at hl 1 rfl) ?_
  refine gf S hE hP 0 rfl rfl inX2 (k := 0) (by decide) q124 rfl dX2_chooseSpaces_65 ?_
  refine lv_iload hx hb dX2_chooseSpaces_68 (lv_at hl 5 rfl) ?_
  refine lv_iload hx hb dX2_chooseSpaces_70 (lv_at hl 0 rfl) ?_
  obtain ⟨hi, h⟩ := h
  refine ias S hE hP hD hS 7 rfl hi dX2_chooseSpaces_72 (fun H locs hP hD hS => ?_)
  have hP : va_P D vwCl (wX2_chooseSpaces cI cJ cS a_o a_offs a_p1 a_p1_demands a_p1_tunes a_p1_tunes_noteCounts a_p1_tunes_pitches a_spaces z_times z_p1_stretches z_p1_cars z_p1_tunes_beats v_noteCount f_offs v_p1_drawSeed f_p1_demands v_p1_tunes_tuneCount f_p1_tunes_noteCounts f_p1_tunes_pitches (upd f_spaces x4.toNatClampNeg s0)) H := hP
  have hD : va_D A (wX2_chooseSpaces cI cJ cS a_o a_offs a_p1 a_p1_demands a_p1_tunes a_p1_tunes_noteCounts a_p1_tunes_pitches a_spaces z_times z_p1_stretches z_p1_cars z_p1_tunes_beats v_noteCount f_offs v_p1_drawSeed f_p1_demands v_p1_tunes_tuneCount f_p1_tunes_noteCounts f_p1_tunes_pitches (upd f_spaces x4.toNatClampNeg s0)) := hD
  refine lv_aload_n hx hb dX2_chooseSpaces_73 rfl (lv_at hl 1 rfl) ?_
  refine gf S hE hP 0 rfl rfl inX2 (k := 1) (by decide) q125 rfl dX2_chooseSpaces_74 ?_
  refine lv_iload hx hb dX2_chooseSpaces_77 (lv_at hl 5 rfl) ?_
  refine lv_iload hx hb dX2_chooseSpaces_79 (lv_at hl 6 rfl) ?_
  refine lv_if_ne (tgt := 88) hx hb dX2_chooseSpaces_81 (by decide) (fun hc => ?_) (fun hc => ?_)
  · have h := h.2 hc
    refine lv_iload hx hb dX2_chooseSpaces_88 (lv_at hl 0 rfl) ?_
    refine lv_iload_n hx hb dX2_chooseSpaces_90 rfl (lv_at hl 4 rfl) ?_
    refine ro_i (roSN S hE hT hS (c_X9_humBy h) lkX2_64 rfl ⟨(Nat.le_of_ble_eq_true rfl), (Nat.le_of_ble_eq_true rfl)⟩ (hP.sub [] rfl) hl.1 rfl (Nat.le_of_ble_eq_true rfl) dX2_chooseSpaces_91 ⟨(Nat.zero_le _), (Nat.zero_le _)⟩) (fun r91 h => ?_)
    refine lv_iload hx hb dX2_chooseSpaces_94 (lv_at hl 6 rfl) ?_
    refine ro_i (roSN S hE hT hS (c_X9_offBetween h) lkX2_67 rfl ⟨(Nat.le_of_ble_eq_true rfl), (Nat.le_of_ble_eq_true rfl)⟩ (hP.sub [] rfl) hl.1 rfl (Nat.le_of_ble_eq_true rfl) dX2_chooseSpaces_96 ⟨(Nat.zero_le _), (Nat.zero_le _)⟩) (fun r96 h => ?_)
    refine w_X2_chooseSpaces_99 S hE hT hA hr hlocks hk20 _ _ _ h hP hD hS (lv_sub hl [1, 2, 3, 4, 5] rfl)
  have h := h.1 hc
  refine lv_iconst (v := 0) hx hb dX2_chooseSpaces_84 (by decide) ?_
  refine lv_goto (tgt := 99) hx hb dX2_chooseSpaces_85 (by decide) ?_
  refine w_X2_chooseSpaces_99 S hE hT hA hr hlocks hk20 _ _ _ h hP hD hS (lv_sub hl [1, 2, 3, 4, 5] rfl)
set_option maxHeartbeats 4000000 in
set_option maxRecDepth 100000 in
theorem w_X2_chooseSpaces_20 {l : Launch} {D : va_G} {cI cJ cS : ClassId} {ad adK : Nat → Nat} {a_o a_offs a_p1 a_p1_demands a_p1_tunes a_p1_tunes_noteCounts a_p1_tunes_pitches a_spaces : Nat} {z_times z_p1_stretches z_p1_cars z_p1_tunes_beats : Value} {v_noteCount : Int32} {v_p1_drawSeed : Int32} {f_p1_demands : Nat → Int32} {v_p1_tunes_tuneCount : Int32} {f_p1_tunes_noteCounts : Nat → Int32} {f_p1_tunes_pitches : Nat → Int32} {x2 : Int32} {x3 : Int32} {post : Int32 → (Nat → Int32) → (Nat → Int32) → Prop} {p : Program} {e : Env} {s : State} {m : MethodId} {args : Array Value} {below : List Frame} {meth : Method} {c : Code} {A : Nat → Prop} (S : CallFix p m c cX2_chooseSpaces 7 s args GW "RoadThatSings$Cutting") (hE : EN D cI cJ cS s) (hT : ST ad adK A s s.heap) (hA : ∀ q : Nat, s.heap.size ≤ q → A q) (hr : meth.sig.returnType = none) (hlocks : meth.locks = false) : ∀ n : Nat, ∀ (x4 : Int32) (f_offs : Nat → Int32) (f_spaces : Nat → Int32) (H : Heap) (locs : List Loc) (ls : Array Slot), L_X2_chooseSpaces_20 f_p1_demands v_p1_tunes_tuneCount f_p1_tunes_noteCounts f_p1_tunes_pitches x2 x3 v_noteCount post n x4 f_offs f_spaces → va_P D vwCl (wX2_chooseSpaces cI cJ cS a_o a_offs a_p1 a_p1_demands a_p1_tunes a_p1_tunes_noteCounts a_p1_tunes_pitches a_spaces z_times z_p1_stretches z_p1_cars z_p1_tunes_beats v_noteCount f_offs v_p1_drawSeed f_p1_demands v_p1_tunes_tuneCount f_p1_tunes_noteCounts f_p1_tunes_pitches f_spaces) H → va_D A (wX2_chooseSpaces cI cJ cS a_o a_offs a_p1 a_p1_demands a_p1_tunes a_p1_tunes_noteCounts a_p1_tunes_pitches a_spaces z_times z_p1_stretches z_p1_cars z_p1_tunes_beats v_noteCount f_offs v_p1_drawSeed f_p1_demands v_p1_tunes_tuneCount f_p1_tunes_noteCounts f_p1_tunes_pitches f_spaces) → va_S A s.heap H locs → lv_has ls 7 [(0, .ref a_o), (1, .ref a_p1), (2, .int x2), (3, .int x3), (4, .int x4)] → W p l e (rmd 3 0 0) s m args below meth c H locs 0 0 (MQ below (va_Qv (fun u : Int32 × (Nat → Int32) × (Nat → Int32) => post u.1 u.2.1 u.2.2) (fun u t => va_P D vwCl (wX2_chooseSpaces cI cJ cS a_o a_offs a_p1 a_p1_demands a_p1_tunes a_p1_tunes_noteCounts a_p1_tunes_pitches a_spaces z_times z_p1_stretches z_p1_cars z_p1_tunes_beats u.1 u.2.1 v_p1_drawSeed f_p1_demands v_p1_tunes_tuneCount f_p1_tunes_noteCounts f_p1_tunes_pitches u.2.2) t.heap) A) args s 0 0 A) (F0 m 20 ls []) := by
  intro n
  induction n with
  | zero =>
    intro x4 f_offs f_spaces H locs ls h hP hD hS hl
    exact h.elim
  | succ n ih =>
    intro x4 f_offs f_spaces H locs ls h hP hD hS hl
    rw [L_X2_chooseSpaces_20] at h
    have hx := S.1
    have hb := S.2.1
    refine lv_iload hx hb dX2_chooseSpaces_20 (lv_at hl 4 rfl) ?_
    refine lv_aload_n hx hb dX2_chooseSpaces_22 rfl (lv_at hl 0 rfl) ?_
    refine gf S hE hP 0 rfl rfl inX2 (k := 3) (by decide) q127 rfl dX2_chooseSpaces_23 ?_
    refine lv_icmp_ge (tgt := 106) hx hb dX2_chooseSpaces_26 (by decide) (fun hc => ?_) (fun hc => ?_)
    · have h := h.1 hc
      exact W.vret hx hb hr (fun t ht _ => ⟨⟨(v_noteCount, f_offs, f_spaces), rfl, h, hPt hP ht⟩, hS.F ht⟩) hS.2.2 dX2_chooseSpaces_106
    have h := h.2 hc
    refine lv_aload_n hx hb dX2_chooseSpaces_29 rfl (lv_at hl 1 rfl) ?_
    refine gfN S hE hP 2 rfl rfl inX5 (k := 2) (by decide) nfX2_36 rfl dX2_chooseSpaces_30 ?_
    refine lv_iload_n hx hb dX2_chooseSpaces_33 rfl (lv_at hl 2 rfl) ?_
    refine lv_iload hx hb dX2_chooseSpaces_34 (lv_at hl 4 rfl) ?_
    refine ro_i (roV S hE hT hS (c_X8_pitchOf h) lkX2_54 rfl ⟨(Nat.le_of_ble_eq_true rfl), (Nat.le_of_ble_eq_true rfl)⟩ (hP.sub [4, 5, 6] rfl) 0 rfl rfl hl.1 rfl (Nat.le_of_ble_eq_true rfl) dX2_chooseSpaces_36 ⟨(Nat.zero_le _), (Nat.zero_le _)⟩) (fun r36 h => ?_)
    refine lv_istore (lv' := [(5, .int r36), (0, .ref a_o), (1, .ref a_p1), (2, .int x2), (3, .int x3), (4, .int x4)]) hx hb dX2_chooseSpaces_39 hl (by decide) rfl (fun ls hl => ?_)
    refine lv_iload hx hb dX2_chooseSpaces_41 (lv_at hl 0 rfl) ?_
    refine lv_if_ne (tgt := 51) hx hb dX2_chooseSpaces_43 (by decide) (fun hc => ?_) (fun hc => ?_)
    · have h := h.2 hc
      refine lv_iload hx hb dX2_chooseSpaces_51 (lv_at hl 0 rfl) ?_
      refine lv_aload_n hx hb dX2_chooseSpaces_53 rfl (lv_at hl 2 rfl) ?_
      refine lv_iconst (v := 1) hx hb dX2_chooseSpaces_54 (by decide) ?_
      refine ro_i (roV S hE hT hS (c_X5_asked h) lkX2_57 rfl ⟨(Nat.le_of_ble_eq_true rfl), (Nat.le_of_ble_eq_true rfl)⟩ (hP.sub [2, 3] rfl) 0 rfl rfl hl.1 rfl (Nat.le_of_ble_eq_true rfl) dX2_chooseSpaces_55 ⟨(Nat.zero_le _), (Nat.zero_le _)⟩) (fun r55 h => ?_)
      refine lv_iload_n hx hb dX2_chooseSpaces_58 rfl (lv_at hl 4 rfl) ?_
      refine ro_i (roS S hE hT hS (c_X2_spaceFor h) lkX2_60 rfl ⟨(Nat.le_of_ble_eq_true rfl), (Nat.le_of_ble_eq_true rfl)⟩ (hP.sub [] rfl) hl.1 rfl (Nat.le_of_ble_eq_true rfl) dX2_chooseSpaces_59 ⟨(Nat.zero_le _), (Nat.zero_le _)⟩) (fun r59 h => ?_)
      refine w_X2_chooseSpaces_62 S hE hT hA hr hlocks ih _ _ _ h hP hD hS (lv_sub hl [1, 2, 3, 4, 5, 0] rfl)
    have h := h.1 hc
    refine lv_bipush (v := 10) hx hb dX2_chooseSpaces_46 (by decide) ?_
    refine lv_goto (tgt := 62) hx hb dX2_chooseSpaces_48 (by decide) ?_
    refine w_X2_chooseSpaces_62 S hE hT hA hr hlocks ih _ _ _ h hP hD hS (lv_sub hl [1, 2, 3, 4, 5, 0] rfl)
set_option maxHeartbeats 4000000 in
set_option maxRecDepth 100000 in
theorem c_X2_chooseSpaces {l : Launch} {D : va_G} {cI cJ cS : ClassId} {ad adK : Nat → Nat} {a_o a_offs a_p1 a_p1_demands a_p1_tunes a_p1_tunes_noteCounts a_p1_tunes_pitches a_spaces : Nat} {z_times z_p1_stretches z_p1_cars z_p1_tunes_beats : Value} {v_noteCount : Int32} {f_offs : Nat → Int32} {v_p1_drawSeed : Int32} {f_p1_demands : Nat → Int32} {v_p1_tunes_tuneCount : Int32} {f_p1_tunes_noteCounts : Nat → Int32} {f_p1_tunes_pitches : Nat → Int32} {f_spaces : Nat → Int32} {x2 : Int32} {x3 : Int32} {post : Int32 → (Nat → Int32) → (Nat → Int32) → Prop} (h : F_X2_chooseSpaces v_noteCount f_offs f_p1_demands v_p1_tunes_tuneCount f_p1_tunes_noteCounts f_p1_tunes_pitches f_spaces x2 x3 post) {sz : Nat} : Met l yX2_chooseSpaces (Cond.code yX2_chooseSpaces cX2_chooseSpaces 7 none :: GW) (rmd 3 0 0) (PW D cI cJ cS ad adK [.ref a_o, .ref a_p1, .int x2, .int x3] (wX2_chooseSpaces cI cJ cS a_o a_offs a_p1 a_p1_demands a_p1_tunes a_p1_tunes_noteCounts a_p1_tunes_pitches a_spaces z_times z_p1_stretches z_p1_cars z_p1_tunes_beats v_noteCount f_offs v_p1_drawSeed f_p1_demands v_p1_tunes_tuneCount f_p1_tunes_noteCounts f_p1_tunes_pitches f_spaces) sz) (va_Qv (fun u : Int32 × (Nat → Int32) × (Nat → Int32) => post u.1 u.2.1 u.2.2) (fun u t => va_P D vwCl (wX2_chooseSpaces cI cJ cS a_o a_offs a_p1 a_p1_demands a_p1_tunes a_p1_tunes_noteCounts a_p1_tunes_pitches a_spaces z_times z_p1_stretches z_p1_cars z_p1_tunes_beats u.1 u.2.1 v_p1_drawSeed f_p1_demands v_p1_tunes_tuneCount f_p1_tunes_noteCounts f_p1_tunes_pitches u.2.2) t.heap) (va_A (wX2_chooseSpaces cI cJ cS a_o a_offs a_p1 a_p1_demands a_p1_tunes a_p1_tunes_noteCounts a_p1_tunes_pitches a_spaces z_times z_p1_stretches z_p1_cars z_p1_tunes_beats v_noteCount f_offs v_p1_drawSeed f_p1_demands v_p1_tunes_tuneCount f_p1_tunes_noteCounts f_p1_tunes_pitches f_spaces) sz)) 0 0 (va_A (wX2_chooseSpaces cI cJ cS a_o a_offs a_p1 a_p1_demands a_p1_tunes a_p1_tunes_noteCounts a_p1_tunes_pitches a_spaces z_times z_p1_stretches z_p1_cars z_p1_tunes_beats v_noteCount f_offs v_p1_drawSeed f_p1_demands v_p1_tunes_tuneCount f_p1_tunes_noteCounts f_p1_tunes_pitches f_spaces) sz) := by
  refine Met.rw (Qc := fun A => (va_Qv (fun u : Int32 × (Nat → Int32) × (Nat → Int32) => post u.1 u.2.1 u.2.2) (fun u t => va_P D vwCl (wX2_chooseSpaces cI cJ cS a_o a_offs a_p1 a_p1_demands a_p1_tunes a_p1_tunes_noteCounts a_p1_tunes_pitches a_spaces z_times z_p1_stretches z_p1_cars z_p1_tunes_beats u.1 u.2.1 v_p1_drawSeed f_p1_demands v_p1_tunes_tuneCount f_p1_tunes_noteCounts f_p1_tunes_pitches u.2.2) t.heap) A)) (by decide) (Nat.le_of_ble_eq_true rfl) (fun p e s m args below meth c ls A (S : CallFix p m c cX2_chooseSpaces 7 s args GW "RoadThatSings$Cutting") hE hT hP hD hA hS hr hlocks hname hl => ?_)
  have hS0 := hS
  have hx := S.1
  have hb := S.2.1
  have hl : lv_has ls 7 [(0, .ref a_o), (1, .ref a_p1), (2, .int x2), (3, .int x3)] := hl
  unfold F_X2_chooseSpaces at h
  refine lv_aload_n hx hb dX2_chooseSpaces_0 rfl (lv_at hl 0 rfl) ?_
  refine lv_bipush (v := 12) hx hb dX2_chooseSpaces_1 (by decide) ?_
  refine lv_aload_n hx hb dX2_chooseSpaces_3 rfl (lv_at hl 1 rfl) ?_
  refine gfN S hE hP 2 rfl rfl inX5 (k := 2) (by decide) nfX2_36 rfl dX2_chooseSpaces_4 ?_
  refine lv_iload_n hx hb dX2_chooseSpaces_7 rfl (lv_at hl 2 rfl) ?_
  refine ro_i (roV S hE hT hS (c_X8_notesOf h) lkX2_42 rfl ⟨(Nat.le_of_ble_eq_true rfl), (Nat.le_of_ble_eq_true rfl)⟩ (hP.sub [4, 5] rfl) 0 rfl rfl hl.1 rfl (Nat.le_of_ble_eq_true rfl) dX2_chooseSpaces_8 ⟨(Nat.zero_le _), (Nat.zero_le _)⟩) (fun r8 h => ?_)
  refine va_mmin hx hb (S.2.2.1.trans hl.1.symm) S.2.2.2.1 (S.2.2.2.2 _ q839) (S.2.2.2.2 _ q233) (S.2.2.2.2 _ q10) (S.2.2.2.2 _ q234) (Nat.le_of_ble_eq_true rfl) (Nat.le_of_ble_eq_true rfl) (Nat.zero_le _) (Nat.zero_le _) dX2_chooseSpaces_11 ?_
  refine pf S hE hP hD hS 0 (k := 3) rfl rfl inX2 tyX2_ok nmX2 (by decide) q127 rfl rfl rfl (Nat.le_of_ble_eq_true rfl) dX2_chooseSpaces_14 (fun H locs hP hD hS => ?_)
  have hP : va_P D vwCl (wX2_chooseSpaces cI cJ cS a_o a_offs a_p1 a_p1_demands a_p1_tunes a_p1_tunes_noteCounts a_p1_tunes_pitches a_spaces z_times z_p1_stretches z_p1_cars z_p1_tunes_beats (if r8 < 12 then r8 else 12) f_offs v_p1_drawSeed f_p1_demands v_p1_tunes_tuneCount f_p1_tunes_noteCounts f_p1_tunes_pitches f_spaces) H := hP
  have hD : va_D A (wX2_chooseSpaces cI cJ cS a_o a_offs a_p1 a_p1_demands a_p1_tunes a_p1_tunes_noteCounts a_p1_tunes_pitches a_spaces z_times z_p1_stretches z_p1_cars z_p1_tunes_beats (if r8 < 12 then r8 else 12) f_offs v_p1_drawSeed f_p1_demands v_p1_tunes_tuneCount f_p1_tunes_noteCounts f_p1_tunes_pitches f_spaces) := hD
  refine lv_iconst (v := 0) hx hb dX2_chooseSpaces_17 (by decide) ?_
  refine lv_istore (lv' := [(4, .int 0), (0, .ref a_o), (1, .ref a_p1), (2, .int x2), (3, .int x3)]) hx hb dX2_chooseSpaces_18 hl (by decide) rfl (fun ls hl => ?_)
  obtain ⟨n, h⟩ := h
  refine w_X2_chooseSpaces_20 S hE hT hA hr hlocks n _ _ _ _ _ _ h hP hD hS (lv_sub hl [1, 2, 3, 4, 0] rfl)
/-! X8_beatsOf -/
abbrev wX8_beatsOf (cI cJ cS : ClassId) (a_o a_beats a_noteCounts : Nat) (z_pitches : Value) (v_tuneCount : Int32) (f_beats : Nat → Int32) (f_noteCounts : Nat → Int32) : va_W := [(a_o, .inr (7, [z_pitches, .ref a_beats, .ref a_noteCounts, .int v_tuneCount])), (a_beats, .inl (cI, 72, .inl f_beats)), (a_noteCounts, .inl (cI, 6, .inl f_noteCounts))]
def F_X8_beatsOf (v_tuneCount : Int32) (f_beats : Nat → Int32) (f_noteCounts : Nat → Int32) (x1 : Int32) (x2 : Int32) (post : Int32 → Prop) : Prop := (F_X8_hasNote v_tuneCount f_noteCounts x1 x2 (fun r3 => ((r3 = 0 → post 0) ∧ (¬ r3 = 0 → (vp_in ((x1 * 12) + x2) 72 ∧ post (f_beats ((x1 * 12) + x2).toNatClampNeg))))))
set_option maxHeartbeats 4000000 in
set_option maxRecDepth 100000 in
theorem c_X8_beatsOf {l : Launch} {D : va_G} {cI cJ cS : ClassId} {ad adK : Nat → Nat} {a_o a_beats a_noteCounts : Nat} {z_pitches : Value} {v_tuneCount : Int32} {f_beats : Nat → Int32} {f_noteCounts : Nat → Int32} {x1 : Int32} {x2 : Int32} {post : Int32 → Prop} (h : F_X8_beatsOf v_tuneCount f_beats f_noteCounts x1 x2 post) : Met l yX8_beatsOf (Cond.code yX8_beatsOf cX8_beatsOf 3 (some (.int)) :: GW) (rmd 2 0 0) (PR D cI cJ cS ad adK [.ref a_o, .int x1, .int x2] (wX8_beatsOf cI cJ cS a_o a_beats a_noteCounts z_pitches v_tuneCount f_beats f_noteCounts)) (vp_Si post) 0 0 nof := by
  refine Met.ro (by decide) (Nat.le_of_ble_eq_true rfl) (fun p e s m args below meth c ls (S : CallFix p m c cX8_beatsOf 3 s args GW "RoadThatSings$Tunes") hE hT hP hS hr hlocks hl => ?_)
  have hx := S.1
  have hb := S.2.1
  have hl : lv_has ls 3 [(0, .ref a_o), (1, .int x1), (2, .int x2)] := hl
  unfold F_X8_beatsOf at h
  refine lv_aload_n hx hb dX8_beatsOf_0 rfl (lv_at hl 0 rfl) ?_
  refine lv_iload_n hx hb dX8_beatsOf_1 rfl (lv_at hl 1 rfl) ?_
  refine lv_iload_n hx hb dX8_beatsOf_2 rfl (lv_at hl 2 rfl) ?_
  refine ro_i (roV S hE hT hS (c_X8_hasNote h) lkX8_43 rfl ⟨(Nat.le_of_ble_eq_true rfl), (Nat.le_of_ble_eq_true rfl)⟩ (hP.sub [0, 2] rfl) 0 rfl rfl hl.1 rfl (Nat.le_of_ble_eq_true rfl) dX8_beatsOf_3 ⟨(Nat.zero_le _), (Nat.zero_le _)⟩) (fun r3 h => ?_)
  refine lv_if_eq (tgt := 23) hx hb dX8_beatsOf_6 (by decide) (fun hc => ?_) (fun hc => ?_)
  · have h := h.1 hc
    refine lv_iconst (v := 0) hx hb dX8_beatsOf_23 (by decide) ?_
    exact W.iret hx hb hr (fun t ht _ => ⟨_, rfl, h, ht⟩) (fun _ hq => by cases hq) dX8_beatsOf_24
  have h := h.2 hc
  refine lv_aload_n hx hb dX8_beatsOf_9 rfl (lv_at hl 0 rfl) ?_
  refine gf S hE hP 0 rfl rfl inX8 (k := 1) (by decide) q81 rfl dX8_beatsOf_10 ?_
  refine lv_iload_n hx hb dX8_beatsOf_13 rfl (lv_at hl 1 rfl) ?_
  refine lv_bipush (v := 12) hx hb dX8_beatsOf_14 (by decide) ?_
  refine lv_imul hx hb dX8_beatsOf_16 ?_
  refine lv_iload_n hx hb dX8_beatsOf_17 rfl (lv_at hl 2 rfl) ?_
  refine lv_iadd hx hb dX8_beatsOf_18 ?_
  obtain ⟨hi, h⟩ := h
  refine ial S hE hP 1 rfl hi dX8_beatsOf_19 ?_
  refine lv_goto (tgt := 24) hx hb dX8_beatsOf_20 (by decide) ?_
  exact W.iret hx hb hr (fun t ht _ => ⟨_, rfl, h, ht⟩) (fun _ hq => by cases hq) dX8_beatsOf_24
/-! X2_nearestTimes -/
abbrev wX2_nearestTimes (cI cJ cS : ClassId) : va_W := []
def F_X2_nearestTimes_30 (post : Int32 → Prop) (s0 : Int32) : Prop := post (if 1 < (if 60 < s0 then 60 else s0) then (if 60 < s0 then 60 else s0) else 1)
def F_X2_nearestTimes (x0 : Int32) (x1 : Int32) (post : Int32 → Prop) : Prop := ((x0 ≤ 0 → post 1) ∧ (¬ x0 ≤ 0 → ((0 < x1 → (¬ x1 = 0 ∧ (∀ x2_13 : Int32, x2_13 = x0 / x1 → (¬ x1 = 0 ∧ (((2 * (x0 - x0 / x1 * x1)) ≤ x1 → F_X2_nearestTimes_30 post x2_13) ∧ (¬ (2 * (x0 - x0 / x1 * x1)) ≤ x1 → F_X2_nearestTimes_30 post (x2_13 + 1))))))) ∧ (¬ 0 < x1 → post 1))))
set_option maxHeartbeats 4000000 in
set_option maxRecDepth 100000 in
theorem w_X2_nearestTimes_30 {l : Launch} {D : va_G} {cI cJ cS : ClassId} {ad adK : Nat → Nat}  {s0 : Int32} {post : Int32 → Prop} {p : Program} {e : Env} {s : State} {m : MethodId} {args : Array Value} {below : List Frame} {meth : Method} {c : Code} (S : CallFix p m c cX2_nearestTimes 4 s args GW "RoadThatSings$Cutting") (hE : EN D cI cJ cS s) (hT : ST ad adK nof s s.heap) (hP : va_P D vwCl (wX2_nearestTimes cI cJ cS) s.heap) (hS : va_S nof s.heap s.heap []) (hr : meth.sig.returnType = (some (.int))) (hlocks : meth.locks = false) : ∀ (ls : Array Slot), F_X2_nearestTimes_30 post s0 → lv_has ls 4 [] → W p l e (rmd 1 0 0) s m args below meth c s.heap [] 0 0 (MQ below (vp_Si post) args s 0 0 nof) (F0 m 30 ls [.int s0]) := by
  intro  ls h hl
  unfold F_X2_nearestTimes_30 at h
  have hx := S.1
  have hb := S.2.1
  refine lv_istore_n (lv' := [(3, .int s0)]) hx hb dX2_nearestTimes_30 rfl hl (by decide) rfl (fun ls hl => ?_)
  refine lv_iconst (v := 1) hx hb dX2_nearestTimes_31 (by decide) ?_
  refine lv_iload_n hx hb dX2_nearestTimes_32 rfl (lv_at hl 0 rfl) ?_
  refine lv_bipush (v := 60) hx hb dX2_nearestTimes_33 (by decide) ?_
  refine va_mmin hx hb (S.2.2.1.trans hl.1.symm) S.2.2.2.1 (S.2.2.2.2 _ q839) (S.2.2.2.2 _ q233) (S.2.2.2.2 _ q10) (S.2.2.2.2 _ q234) (Nat.le_of_ble_eq_true rfl) (Nat.le_of_ble_eq_true rfl) (Nat.zero_le _) (Nat.zero_le _) dX2_nearestTimes_35 ?_
  refine va_mmax hx hb (S.2.2.1.trans hl.1.symm) S.2.2.2.1 (S.2.2.2.2 _ q860) (S.2.2.2.2 _ q236) (S.2.2.2.2 _ q10) (S.2.2.2.2 _ q237) (Nat.le_of_ble_eq_true rfl) (Nat.le_of_ble_eq_true rfl) (Nat.zero_le _) (Nat.zero_le _) dX2_nearestTimes_38 ?_
  exact W.iret hx hb hr (fun t ht _ => ⟨_, rfl, h, ht⟩) (fun _ hq => by cases hq) dX2_nearestTimes_41
set_option maxHeartbeats 4000000 in
set_option maxRecDepth 100000 in
theorem c_X2_nearestTimes {l : Launch} {D : va_G} {cI cJ cS : ClassId} {ad adK : Nat → Nat}  {x0 : Int32} {x1 : Int32} {post : Int32 → Prop} (h : F_X2_nearestTimes x0 x1 post) : Met l yX2_nearestTimes (Cond.code yX2_nearestTimes cX2_nearestTimes 4 (some (.int)) :: GW) (rmd 1 0 0) (PR D cI cJ cS ad adK [.int x0, .int x1] (wX2_nearestTimes cI cJ cS)) (vp_Si post) 0 0 nof := by
  refine Met.ro (by decide) (Nat.le_of_ble_eq_true rfl) (fun p e s m args below meth c ls (S : CallFix p m c cX2_nearestTimes 4 s args GW "RoadThatSings$Cutting") hE hT hP hS hr hlocks hl => ?_)
  have hx := S.1
  have hb := S.2.1
  have hl : lv_has ls 4 [(0, .int x0), (1, .int x1)] := hl
  unfold F_X2_nearestTimes at h
  refine lv_iload_n hx hb dX2_nearestTimes_0 rfl (lv_at hl 0 rfl) ?_
  refine lv_if_le (tgt := 8) hx hb dX2_nearestTimes_1 (by decide) (fun hc => ?_) (fun hc => ?_)
  · have h := h.1 hc
    refine lv_iconst (v := 1) hx hb dX2_nearestTimes_8 (by decide) ?_
    exact W.iret hx hb hr (fun t ht _ => ⟨_, rfl, h, ht⟩) (fun _ hq => by cases hq) dX2_nearestTimes_9
  have h := h.2 hc
  refine lv_iload_n hx hb dX2_nearestTimes_4 rfl (lv_at hl 1 rfl) ?_
  refine lv_if_gt (tgt := 10) hx hb dX2_nearestTimes_5 (by decide) (fun hc => ?_) (fun hc => ?_)
  · have h := h.1 hc
    refine lv_iload_n hx hb dX2_nearestTimes_10 rfl (lv_at hl 0 rfl) ?_
    refine lv_iload_n hx hb dX2_nearestTimes_11 rfl (lv_at hl 1 rfl) ?_
    obtain ⟨hz, h⟩ := h
    refine lv_idiv hx hb dX2_nearestTimes_12 hz ?_
    refine lv_topi (fun x2_13 ex2_13 => ?_)
    have h := h _ ex2_13
    refine lv_istore_n (lv' := [(2, .int x2_13), (0, .int x0), (1, .int x1)]) hx hb dX2_nearestTimes_13 rfl hl (by decide) rfl (fun ls hl => ?_)
    refine lv_iconst (v := 2) hx hb dX2_nearestTimes_14 (by decide) ?_
    refine lv_iload_n hx hb dX2_nearestTimes_15 rfl (lv_at hl 1 rfl) ?_
    refine lv_iload_n hx hb dX2_nearestTimes_16 rfl (lv_at hl 2 rfl) ?_
    obtain ⟨hz, h⟩ := h
    refine lv_irem hx hb dX2_nearestTimes_17 hz ?_
    refine lv_imul hx hb dX2_nearestTimes_18 ?_
    refine lv_iload_n hx hb dX2_nearestTimes_19 rfl (lv_at hl 2 rfl) ?_
    refine lv_icmp_le (tgt := 29) hx hb dX2_nearestTimes_20 (by decide) (fun hc => ?_) (fun hc => ?_)
    · have h := h.1 hc
      refine lv_iload_n hx hb dX2_nearestTimes_29 rfl (lv_at hl 0 rfl) ?_
      refine w_X2_nearestTimes_30 S hE hT hP hS hr hlocks _ h (lv_sub hl [] rfl)
    have h := h.2 hc
    refine lv_iload_n hx hb dX2_nearestTimes_23 rfl (lv_at hl 0 rfl) ?_
    refine lv_iconst (v := 1) hx hb dX2_nearestTimes_24 (by decide) ?_
    refine lv_iadd hx hb dX2_nearestTimes_25 ?_
    refine lv_goto (tgt := 30) hx hb dX2_nearestTimes_26 (by decide) ?_
    refine w_X2_nearestTimes_30 S hE hT hP hS hr hlocks _ h (lv_sub hl [] rfl)
  have h := h.2 hc
  refine lv_iconst (v := 1) hx hb dX2_nearestTimes_8 (by decide) ?_
  exact W.iret hx hb hr (fun t ht _ => ⟨_, rfl, h, ht⟩) (fun _ hq => by cases hq) dX2_nearestTimes_9
/-! X2_lengthOfAll -/
abbrev wX2_lengthOfAll (cI cJ cS : ClassId) (a_o a_spaces a_times : Nat) (z_offs : Value) (v_noteCount : Int32) (f_spaces : Nat → Int32) (f_times : Nat → Int32) : va_W := [(a_o, .inr (2, [.ref a_spaces, z_offs, .ref a_times, .int v_noteCount])), (a_spaces, .inl (cI, 12, .inl f_spaces)), (a_times, .inl (cI, 12, .inl f_times))]
def L_X2_lengthOfAll_4 (v_noteCount : Int32) (f_spaces : Nat → Int32) (f_times : Nat → Int32) (post : Int32 → Prop) : Nat → Int32 → Int32 → Prop
  | 0, _, _ => False
  | n4 + 1, x1, x2 => ((v_noteCount ≤ x2 → post x1) ∧ (¬ v_noteCount ≤ x2 → (F_X2_spaceOf v_noteCount f_spaces x2 (fun r15 => (F_X2_timesOf v_noteCount f_times x2 (fun r20 => (∀ x1_25 : Int32, x1_25 = x1 + (r15 * r20) → (∀ x2_26 : Int32, x2_26 = x2 + 1 → L_X2_lengthOfAll_4 v_noteCount f_spaces f_times post n4 x1_25 x2_26))))))))
def F_X2_lengthOfAll (v_noteCount : Int32) (f_spaces : Nat → Int32) (f_times : Nat → Int32) (post : Int32 → Prop) : Prop := (∃ n4 : Nat, L_X2_lengthOfAll_4 v_noteCount f_spaces f_times post n4 0 0)
set_option maxHeartbeats 4000000 in
set_option maxRecDepth 100000 in
theorem w_X2_lengthOfAll_4 {l : Launch} {D : va_G} {cI cJ cS : ClassId} {ad adK : Nat → Nat} {a_o a_spaces a_times : Nat} {z_offs : Value} {v_noteCount : Int32} {f_spaces : Nat → Int32} {f_times : Nat → Int32} {post : Int32 → Prop} {p : Program} {e : Env} {s : State} {m : MethodId} {args : Array Value} {below : List Frame} {meth : Method} {c : Code} (S : CallFix p m c cX2_lengthOfAll 3 s args GW "RoadThatSings$Cutting") (hE : EN D cI cJ cS s) (hT : ST ad adK nof s s.heap) (hP : va_P D vwCl (wX2_lengthOfAll cI cJ cS a_o a_spaces a_times z_offs v_noteCount f_spaces f_times) s.heap) (hS : va_S nof s.heap s.heap []) (hr : meth.sig.returnType = (some (.int))) (hlocks : meth.locks = false) : ∀ n : Nat, ∀ (x1 : Int32) (x2 : Int32) (ls : Array Slot), L_X2_lengthOfAll_4 v_noteCount f_spaces f_times post n x1 x2 → lv_has ls 3 [(0, .ref a_o), (1, .int x1), (2, .int x2)] → W p l e (rmd 2 0 0) s m args below meth c s.heap [] 0 0 (MQ below (vp_Si post) args s 0 0 nof) (F0 m 4 ls []) := by
  intro n
  induction n with
  | zero =>
    intro x1 x2 ls h hl
    exact h.elim
  | succ n ih =>
    intro x1 x2 ls h hl
    rw [L_X2_lengthOfAll_4] at h
    have hx := S.1
    have hb := S.2.1
    refine lv_iload_n hx hb dX2_lengthOfAll_4 rfl (lv_at hl 2 rfl) ?_
    refine lv_aload_n hx hb dX2_lengthOfAll_5 rfl (lv_at hl 0 rfl) ?_
    refine gf S hE hP 0 rfl rfl inX2 (k := 3) (by decide) q127 rfl dX2_lengthOfAll_6 ?_
    refine lv_icmp_ge (tgt := 32) hx hb dX2_lengthOfAll_9 (by decide) (fun hc => ?_) (fun hc => ?_)
    · have h := h.1 hc
      refine lv_iload_n hx hb dX2_lengthOfAll_32 rfl (lv_at hl 1 rfl) ?_
      exact W.iret hx hb hr (fun t ht _ => ⟨_, rfl, h, ht⟩) (fun _ hq => by cases hq) dX2_lengthOfAll_33
    have h := h.2 hc
    refine lv_iload_n hx hb dX2_lengthOfAll_12 rfl (lv_at hl 1 rfl) ?_
    refine lv_aload_n hx hb dX2_lengthOfAll_13 rfl (lv_at hl 0 rfl) ?_
    refine lv_iload_n hx hb dX2_lengthOfAll_14 rfl (lv_at hl 2 rfl) ?_
    refine ro_i (roV S hE hT hS (c_X2_spaceOf h) lkX2_86 rfl ⟨(Nat.le_of_ble_eq_true rfl), (Nat.le_of_ble_eq_true rfl)⟩ (hP.sub [0, 1] rfl) 0 rfl rfl hl.1 rfl (Nat.le_of_ble_eq_true rfl) dX2_lengthOfAll_15 ⟨(Nat.zero_le _), (Nat.zero_le _)⟩) (fun r15 h => ?_)
    refine lv_aload_n hx hb dX2_lengthOfAll_18 rfl (lv_at hl 0 rfl) ?_
    refine lv_iload_n hx hb dX2_lengthOfAll_19 rfl (lv_at hl 2 rfl) ?_
    refine ro_i (roV S hE hT hS (c_X2_timesOf h) lkX2_89 rfl ⟨(Nat.le_of_ble_eq_true rfl), (Nat.le_of_ble_eq_true rfl)⟩ (hP.sub [0, 2] rfl) 0 rfl rfl hl.1 rfl (Nat.le_of_ble_eq_true rfl) dX2_lengthOfAll_20 ⟨(Nat.zero_le _), (Nat.zero_le _)⟩) (fun r20 h => ?_)
    refine lv_imul hx hb dX2_lengthOfAll_23 ?_
    refine lv_iadd hx hb dX2_lengthOfAll_24 ?_
    refine lv_topi (fun x1_25 ex1_25 => ?_)
    have h := h _ ex1_25
    refine lv_istore_n (lv' := [(1, .int x1_25), (0, .ref a_o), (2, .int x2)]) hx hb dX2_lengthOfAll_25 rfl hl (by decide) rfl (fun ls hl => ?_)
    obtain ⟨x2_26, ex2_26⟩ : ∃ z : Int32, z = x2 + 1 := ⟨_, rfl⟩
    have h := h _ ex2_26
    refine lv_iinc (v := x2_26) (lv' := [(2, .int x2_26), (1, .int x1_25), (0, .ref a_o)]) hx hb dX2_lengthOfAll_26 hl (k := 2) rfl (by rw [ex2_26]; rfl) (by decide) rfl (fun ls hl => ?_)
    refine lv_goto (tgt := 4) hx hb dX2_lengthOfAll_29 (by decide) ?_
    exact ih _ _ _ h (lv_sub hl [2, 1, 0] rfl)
set_option maxHeartbeats 4000000 in
set_option maxRecDepth 100000 in
theorem c_X2_lengthOfAll {l : Launch} {D : va_G} {cI cJ cS : ClassId} {ad adK : Nat → Nat} {a_o a_spaces a_times : Nat} {z_offs : Value} {v_noteCount : Int32} {f_spaces : Nat → Int32} {f_times : Nat → Int32} {post : Int32 → Prop} (h : F_X2_lengthOfAll v_noteCount f_spaces f_times post) : Met l yX2_lengthOfAll (Cond.code yX2_lengthOfAll cX2_lengthOfAll 3 (some (.int)) :: GW) (rmd 2 0 0) (PR D cI cJ cS ad adK [.ref a_o] (wX2_lengthOfAll cI cJ cS a_o a_spaces a_times z_offs v_noteCount f_spaces f_times)) (vp_Si post) 0 0 nof := by
  refine Met.ro (by decide) (Nat.le_of_ble_eq_true rfl) (fun p e s m args below meth c ls (S : CallFix p m c cX2_lengthOfAll 3 s args GW "RoadThatSings$Cutting") hE hT hP hS hr hlocks hl => ?_)
  have hx := S.1
  have hb := S.2.1
  have hl : lv_has ls 3 [(0, .ref a_o)] := hl
  unfold F_X2_lengthOfAll at h
  refine lv_iconst (v := 0) hx hb dX2_lengthOfAll_0 (by decide) ?_
  refine lv_istore_n (lv' := [(1, .int 0), (0, .ref a_o)]) hx hb dX2_lengthOfAll_1 rfl hl (by decide) rfl (fun ls hl => ?_)
  refine lv_iconst (v := 0) hx hb dX2_lengthOfAll_2 (by decide) ?_
  refine lv_istore_n (lv' := [(2, .int 0), (1, .int 0), (0, .ref a_o)]) hx hb dX2_lengthOfAll_3 rfl hl (by decide) rfl (fun ls hl => ?_)
  obtain ⟨n, h⟩ := h
  refine w_X2_lengthOfAll_4 S hE hT hP hS hr hlocks n _ _ _ h (lv_sub hl [2, 1, 0] rfl)
/-! X2_worstOff -/
abbrev wX2_worstOff (cI cJ cS : ClassId) (a_o a_offs : Nat) (z_spaces z_times : Value) (v_noteCount : Int32) (f_offs : Nat → Int32) : va_W := [(a_o, .inr (2, [z_spaces, .ref a_offs, z_times, .int v_noteCount])), (a_offs, .inl (cI, 12, .inl f_offs))]
def L_X2_worstOff_4 (v_noteCount : Int32) (f_offs : Nat → Int32) (post : Int32 → Prop) : Nat → Int32 → Int32 → Prop
  | 0, _, _ => False
  | n4 + 1, x1, x2 => ((v_noteCount ≤ x2 → post x1) ∧ (¬ v_noteCount ≤ x2 → (F_X2_offOf v_noteCount f_offs x2 (fun r15 => (∀ x1_21 : Int32, x1_21 = (if x1 < r15 then r15 else x1) → (∀ x2_22 : Int32, x2_22 = x2 + 1 → L_X2_worstOff_4 v_noteCount f_offs post n4 x1_21 x2_22))))))
def F_X2_worstOff (v_noteCount : Int32) (f_offs : Nat → Int32) (post : Int32 → Prop) : Prop := (∃ n4 : Nat, L_X2_worstOff_4 v_noteCount f_offs post n4 0 0)
set_option maxHeartbeats 4000000 in
set_option maxRecDepth 100000 in
theorem w_X2_worstOff_4 {l : Launch} {D : va_G} {cI cJ cS : ClassId} {ad adK : Nat → Nat} {a_o a_offs : Nat} {z_spaces z_times : Value} {v_noteCount : Int32} {f_offs : Nat → Int32} {post : Int32 → Prop} {p : Program} {e : Env} {s : State} {m : MethodId} {args : Array Value} {below : List Frame} {meth : Method} {c : Code} (S : CallFix p m c cX2_worstOff 3 s args GW "RoadThatSings$Cutting") (hE : EN D cI cJ cS s) (hT : ST ad adK nof s s.heap) (hP : va_P D vwCl (wX2_worstOff cI cJ cS a_o a_offs z_spaces z_times v_noteCount f_offs) s.heap) (hS : va_S nof s.heap s.heap []) (hr : meth.sig.returnType = (some (.int))) (hlocks : meth.locks = false) : ∀ n : Nat, ∀ (x1 : Int32) (x2 : Int32) (ls : Array Slot), L_X2_worstOff_4 v_noteCount f_offs post n x1 x2 → lv_has ls 3 [(0, .ref a_o), (1, .int x1), (2, .int x2)] → W p l e (rmd 2 0 0) s m args below meth c s.heap [] 0 0 (MQ below (vp_Si post) args s 0 0 nof) (F0 m 4 ls []) := by
  intro n
  induction n with
  | zero =>
    intro x1 x2 ls h hl
    exact h.elim
  | succ n ih =>
    intro x1 x2 ls h hl
    rw [L_X2_worstOff_4] at h
    have hx := S.1
    have hb := S.2.1
    refine lv_iload_n hx hb dX2_worstOff_4 rfl (lv_at hl 2 rfl) ?_
    refine lv_aload_n hx hb dX2_worstOff_5 rfl (lv_at hl 0 rfl) ?_
    refine gf S hE hP 0 rfl rfl inX2 (k := 3) (by decide) q127 rfl dX2_worstOff_6 ?_
    refine lv_icmp_ge (tgt := 28) hx hb dX2_worstOff_9 (by decide) (fun hc => ?_) (fun hc => ?_)
    · have h := h.1 hc
      refine lv_iload_n hx hb dX2_worstOff_28 rfl (lv_at hl 1 rfl) ?_
      exact W.iret hx hb hr (fun t ht _ => ⟨_, rfl, h, ht⟩) (fun _ hq => by cases hq) dX2_worstOff_29
    have h := h.2 hc
    refine lv_iload_n hx hb dX2_worstOff_12 rfl (lv_at hl 1 rfl) ?_
    refine lv_aload_n hx hb dX2_worstOff_13 rfl (lv_at hl 0 rfl) ?_
    refine lv_iload_n hx hb dX2_worstOff_14 rfl (lv_at hl 2 rfl) ?_
    refine ro_i (roV S hE hT hS (c_X2_offOf h) lkX2_92 rfl ⟨(Nat.le_of_ble_eq_true rfl), (Nat.le_of_ble_eq_true rfl)⟩ (hP.sub [0, 1] rfl) 0 rfl rfl hl.1 rfl (Nat.le_of_ble_eq_true rfl) dX2_worstOff_15 ⟨(Nat.zero_le _), (Nat.zero_le _)⟩) (fun r15 h => ?_)
    refine va_mmax hx hb (S.2.2.1.trans hl.1.symm) S.2.2.2.1 (S.2.2.2.2 _ q860) (S.2.2.2.2 _ q236) (S.2.2.2.2 _ q10) (S.2.2.2.2 _ q237) (Nat.le_of_ble_eq_true rfl) (Nat.le_of_ble_eq_true rfl) (Nat.zero_le _) (Nat.zero_le _) dX2_worstOff_18 ?_
    refine lv_topi (fun x1_21 ex1_21 => ?_)
    have h := h _ ex1_21
    refine lv_istore_n (lv' := [(1, .int x1_21), (0, .ref a_o), (2, .int x2)]) hx hb dX2_worstOff_21 rfl hl (by decide) rfl (fun ls hl => ?_)
    obtain ⟨x2_22, ex2_22⟩ : ∃ z : Int32, z = x2 + 1 := ⟨_, rfl⟩
    have h := h _ ex2_22
    refine lv_iinc (v := x2_22) (lv' := [(2, .int x2_22), (1, .int x1_21), (0, .ref a_o)]) hx hb dX2_worstOff_22 hl (k := 2) rfl (by rw [ex2_22]; rfl) (by decide) rfl (fun ls hl => ?_)
    refine lv_goto (tgt := 4) hx hb dX2_worstOff_25 (by decide) ?_
    exact ih _ _ _ h (lv_sub hl [2, 1, 0] rfl)
set_option maxHeartbeats 4000000 in
set_option maxRecDepth 100000 in
theorem c_X2_worstOff {l : Launch} {D : va_G} {cI cJ cS : ClassId} {ad adK : Nat → Nat} {a_o a_offs : Nat} {z_spaces z_times : Value} {v_noteCount : Int32} {f_offs : Nat → Int32} {post : Int32 → Prop} (h : F_X2_worstOff v_noteCount f_offs post) : Met l yX2_worstOff (Cond.code yX2_worstOff cX2_worstOff 3 (some (.int)) :: GW) (rmd 2 0 0) (PR D cI cJ cS ad adK [.ref a_o] (wX2_worstOff cI cJ cS a_o a_offs z_spaces z_times v_noteCount f_offs)) (vp_Si post) 0 0 nof := by
  refine Met.ro (by decide) (Nat.le_of_ble_eq_true rfl) (fun p e s m args below meth c ls (S : CallFix p m c cX2_worstOff 3 s args GW "RoadThatSings$Cutting") hE hT hP hS hr hlocks hl => ?_)
  have hx := S.1
  have hb := S.2.1
  have hl : lv_has ls 3 [(0, .ref a_o)] := hl
  unfold F_X2_worstOff at h
  refine lv_iconst (v := 0) hx hb dX2_worstOff_0 (by decide) ?_
  refine lv_istore_n (lv' := [(1, .int 0), (0, .ref a_o)]) hx hb dX2_worstOff_1 rfl hl (by decide) rfl (fun ls hl => ?_)
  refine lv_iconst (v := 0) hx hb dX2_worstOff_2 (by decide) ?_
  refine lv_istore_n (lv' := [(2, .int 0), (1, .int 0), (0, .ref a_o)]) hx hb dX2_worstOff_3 rfl hl (by decide) rfl (fun ls hl => ?_)
  obtain ⟨n, h⟩ := h
  refine w_X2_worstOff_4 S hE hT hP hS hr hlocks n _ _ _ h (lv_sub hl [2, 1, 0] rfl)
/-! X2_isHeardAt -/
abbrev wX2_isHeardAt (cI cJ cS : ClassId) (a_o a_p1 a_p1_demands a_p1_tunes a_p1_tunes_noteCounts a_p1_tunes_pitches a_spaces : Nat) (z_offs z_times z_p1_stretches z_p1_cars z_p1_tunes_beats : Value) (v_noteCount : Int32) (v_p1_drawSeed : Int32) (f_p1_demands : Nat → Int32) (v_p1_tunes_tuneCount : Int32) (f_p1_tunes_noteCounts : Nat → Int32) (f_p1_tunes_pitches : Nat → Int32) (f_spaces : Nat → Int32) : va_W := [(a_o, .inr (2, [.ref a_spaces, z_offs, z_times, .int v_noteCount])), (a_p1, .inr (4, [z_p1_stretches, z_p1_cars, .ref a_p1_tunes, .ref a_p1_demands, .int v_p1_drawSeed])), (a_p1_demands, .inl (cI, 4, .inl f_p1_demands)), (a_p1_tunes, .inr (7, [.ref a_p1_tunes_pitches, z_p1_tunes_beats, .ref a_p1_tunes_noteCounts, .int v_p1_tunes_tuneCount])), (a_p1_tunes_noteCounts, .inl (cI, 6, .inl f_p1_tunes_noteCounts)), (a_p1_tunes_pitches, .inl (cI, 72, .inl f_p1_tunes_pitches)), (a_spaces, .inl (cI, 12, .inl f_spaces))]
def F_X2_isHeardAt_54 (k3 : Int32 → Prop) (x2 : Int32) (x3 : Int32) (x4 : Int32) : Prop := (∀ x4_54 : Int32, x4_54 = x4 + 1 → k3 x4_54)
def L_X2_isHeardAt_3 (v_noteCount : Int32) (f_p1_demands : Nat → Int32) (v_p1_tunes_tuneCount : Int32) (f_p1_tunes_noteCounts : Nat → Int32) (f_p1_tunes_pitches : Nat → Int32) (f_spaces : Nat → Int32) (x2 : Int32) (x3 : Int32) (post : Int32 → Prop) : Nat → Int32 → Prop
  | 0, _ => False
  | n3 + 1, x4 => ((v_noteCount ≤ x4 → post 1) ∧ (¬ v_noteCount ≤ x4 → (F_X8_pitchOf v_p1_tunes_tuneCount f_p1_tunes_noteCounts f_p1_tunes_pitches x2 x4 (fun r19 => ((r19 = 0 → F_X2_isHeardAt_54 (fun x4 => L_X2_isHeardAt_3 v_noteCount f_p1_demands v_p1_tunes_tuneCount f_p1_tunes_noteCounts f_p1_tunes_pitches f_spaces x2 x3 post n3 x4) x2 x3 x4) ∧ (¬ r19 = 0 → (F_X2_spaceOf v_noteCount f_spaces x4 (fun r32 => (F_X9_humBy r32 x3 (fun r36 => (F_X9_offBetween r36 r19 (fun r41 => (F_X5_asked f_p1_demands 2 (fun r46 => ((r41 ≤ r46 → F_X2_isHeardAt_54 (fun x4 => L_X2_isHeardAt_3 v_noteCount f_p1_demands v_p1_tunes_tuneCount f_p1_tunes_noteCounts f_p1_tunes_pitches f_spaces x2 x3 post n3 x4) x2 x3 x4) ∧ (¬ r41 ≤ r46 → post 0))))))))))))))))
def F_X2_isHeardAt (v_noteCount : Int32) (f_p1_demands : Nat → Int32) (v_p1_tunes_tuneCount : Int32) (f_p1_tunes_noteCounts : Nat → Int32) (f_p1_tunes_pitches : Nat → Int32) (f_spaces : Nat → Int32) (x2 : Int32) (x3 : Int32) (post : Int32 → Prop) : Prop := (∃ n3 : Nat, L_X2_isHeardAt_3 v_noteCount f_p1_demands v_p1_tunes_tuneCount f_p1_tunes_noteCounts f_p1_tunes_pitches f_spaces x2 x3 post n3 0)
set_option maxHeartbeats 4000000 in
set_option maxRecDepth 100000 in
theorem w_X2_isHeardAt_54 {l : Launch} {D : va_G} {cI cJ cS : ClassId} {ad adK : Nat → Nat} {a_o a_p1 a_p1_demands a_p1_tunes a_p1_tunes_noteCounts a_p1_tunes_pitches a_spaces : Nat} {z_offs z_times z_p1_stretches z_p1_cars z_p1_tunes_beats : Value} {v_noteCount : Int32} {v_p1_drawSeed : Int32} {f_p1_demands : Nat → Int32} {v_p1_tunes_tuneCount : Int32} {f_p1_tunes_noteCounts : Nat → Int32} {f_p1_tunes_pitches : Nat → Int32} {f_spaces : Nat → Int32} {x2 : Int32} {x3 : Int32} {x4 : Int32} {post : Int32 → Prop} {k3 : Int32 → Prop} {p : Program} {e : Env} {s : State} {m : MethodId} {args : Array Value} {below : List Frame} {meth : Method} {c : Code} (S : CallFix p m c cX2_isHeardAt 6 s args GW "RoadThatSings$Cutting") (hE : EN D cI cJ cS s) (hT : ST ad adK nof s s.heap) (hP : va_P D vwCl (wX2_isHeardAt cI cJ cS a_o a_p1 a_p1_demands a_p1_tunes a_p1_tunes_noteCounts a_p1_tunes_pitches a_spaces z_offs z_times z_p1_stretches z_p1_cars z_p1_tunes_beats v_noteCount v_p1_drawSeed f_p1_demands v_p1_tunes_tuneCount f_p1_tunes_noteCounts f_p1_tunes_pitches f_spaces) s.heap) (hS : va_S nof s.heap s.heap []) (hr : meth.sig.returnType = (some (.boolean))) (hlocks : meth.locks = false) (hk3 : ∀ (x4 : Int32) (ls : Array Slot), k3 x4 → lv_has ls 6 [(0, .ref a_o), (1, .ref a_p1), (2, .int x2), (3, .int x3), (4, .int x4)] → W p l e (rmd 3 0 0) s m args below meth c s.heap [] 0 0 (MQ below (vp_Si post) args s 0 0 nof) (F0 m 3 ls [])) : ∀ (ls : Array Slot), F_X2_isHeardAt_54 k3 x2 x3 x4 → lv_has ls 6 [(0, .ref a_o), (1, .ref a_p1), (2, .int x2), (3, .int x3), (4, .int x4)] → W p l e (rmd 3 0 0) s m args below meth c s.heap [] 0 0 (MQ below (vp_Si post) args s 0 0 nof) (F0 m 54 ls []) := by
  intro  ls h hl
  unfold F_X2_isHeardAt_54 at h
  have hx := S.1
  have hb := S.2.1
  obtain ⟨x4_54, ex4_54⟩ : ∃ z : Int32, z = x4 + 1 := ⟨_, rfl⟩
  have h := h _ ex4_54
  refine lv_iinc (v := x4_54) (lv' := [(4, .int x4_54), (0, .ref a_o), (1, .ref a_p1), (2, .int x2), (3, .int x3)]) hx hb dX2_isHeardAt_54 hl (k := 4) rfl (by rw [ex4_54]; rfl) (by decide) rfl (fun ls hl => ?_)
  refine lv_goto (tgt := 3) hx hb dX2_isHeardAt_57 (by decide) ?_
  exact hk3 _ _ h (lv_sub hl [1, 2, 3, 4, 0] rfl)
set_option maxHeartbeats 4000000 in
set_option maxRecDepth 100000 in
theorem w_X2_isHeardAt_3 {l : Launch} {D : va_G} {cI cJ cS : ClassId} {ad adK : Nat → Nat} {a_o a_p1 a_p1_demands a_p1_tunes a_p1_tunes_noteCounts a_p1_tunes_pitches a_spaces : Nat} {z_offs z_times z_p1_stretches z_p1_cars z_p1_tunes_beats : Value} {v_noteCount : Int32} {v_p1_drawSeed : Int32} {f_p1_demands : Nat → Int32} {v_p1_tunes_tuneCount : Int32} {f_p1_tunes_noteCounts : Nat → Int32} {f_p1_tunes_pitches : Nat → Int32} {f_spaces : Nat → Int32} {x2 : Int32} {x3 : Int32} {post : Int32 → Prop} {p : Program} {e : Env} {s : State} {m : MethodId} {args : Array Value} {below : List Frame} {meth : Method} {c : Code} (S : CallFix p m c cX2_isHeardAt 6 s args GW "RoadThatSings$Cutting") (hE : EN D cI cJ cS s) (hT : ST ad adK nof s s.heap) (hP : va_P D vwCl (wX2_isHeardAt cI cJ cS a_o a_p1 a_p1_demands a_p1_tunes a_p1_tunes_noteCounts a_p1_tunes_pitches a_spaces z_offs z_times z_p1_stretches z_p1_cars z_p1_tunes_beats v_noteCount v_p1_drawSeed f_p1_demands v_p1_tunes_tuneCount f_p1_tunes_noteCounts f_p1_tunes_pitches f_spaces) s.heap) (hS : va_S nof s.heap s.heap []) (hr : meth.sig.returnType = (some (.boolean))) (hlocks : meth.locks = false) : ∀ n : Nat, ∀ (x4 : Int32) (ls : Array Slot), L_X2_isHeardAt_3 v_noteCount f_p1_demands v_p1_tunes_tuneCount f_p1_tunes_noteCounts f_p1_tunes_pitches f_spaces x2 x3 post n x4 → lv_has ls 6 [(0, .ref a_o), (1, .ref a_p1), (2, .int x2), (3, .int x3), (4, .int x4)] → W p l e (rmd 3 0 0) s m args below meth c s.heap [] 0 0 (MQ below (vp_Si post) args s 0 0 nof) (F0 m 3 ls []) := by
  intro n
  induction n with
  | zero =>
    intro x4 ls h hl
    exact h.elim
  | succ n ih =>
    intro x4 ls h hl
    rw [L_X2_isHeardAt_3] at h
    have hx := S.1
    have hb := S.2.1
    refine lv_iload hx hb dX2_isHeardAt_3 (lv_at hl 4 rfl) ?_
    refine lv_aload_n hx hb dX2_isHeardAt_5 rfl (lv_at hl 0 rfl) ?_
    refine gf S hE hP 0 rfl rfl inX2 (k := 3) (by decide) q127 rfl dX2_isHeardAt_6 ?_
    refine lv_icmp_ge (tgt := 60) hx hb dX2_isHeardAt_9 (by decide) (fun hc => ?_) (fun hc => ?_)
    · have h := h.1 hc
      refine lv_iconst (v := 1) hx hb dX2_isHeardAt_60 (by decide) ?_
      exact W.zret hx hb hr rfl (fun t ht _ => ⟨_, rfl, h, ht⟩) (fun _ hq => by cases hq) dX2_isHeardAt_61
    have h := h.2 hc
    refine lv_aload_n hx hb dX2_isHeardAt_12 rfl (lv_at hl 1 rfl) ?_
    refine gfN S hE hP 1 rfl rfl inX5 (k := 2) (by decide) nfX2_36 rfl dX2_isHeardAt_13 ?_
    refine lv_iload_n hx hb dX2_isHeardAt_16 rfl (lv_at hl 2 rfl) ?_
    refine lv_iload hx hb dX2_isHeardAt_17 (lv_at hl 4 rfl) ?_
    refine ro_i (roV S hE hT hS (c_X8_pitchOf h) lkX2_54 rfl ⟨(Nat.le_of_ble_eq_true rfl), (Nat.le_of_ble_eq_true rfl)⟩ (hP.sub [3, 4, 5] rfl) 0 rfl rfl hl.1 rfl (Nat.le_of_ble_eq_true rfl) dX2_isHeardAt_19 ⟨(Nat.zero_le _), (Nat.zero_le _)⟩) (fun r19 h => ?_)
    refine lv_istore (lv' := [(5, .int r19), (0, .ref a_o), (1, .ref a_p1), (2, .int x2), (3, .int x3), (4, .int x4)]) hx hb dX2_isHeardAt_22 hl (by decide) rfl (fun ls hl => ?_)
    refine lv_iload hx hb dX2_isHeardAt_24 (lv_at hl 0 rfl) ?_
    refine lv_if_eq (tgt := 54) hx hb dX2_isHeardAt_26 (by decide) (fun hc => ?_) (fun hc => ?_)
    · have h := h.1 hc
      refine w_X2_isHeardAt_54 S hE hT hP hS hr hlocks ih _ h (lv_sub hl [1, 2, 3, 4, 5] rfl)
    have h := h.2 hc
    refine lv_aload_n hx hb dX2_isHeardAt_29 rfl (lv_at hl 1 rfl) ?_
    refine lv_iload hx hb dX2_isHeardAt_30 (lv_at hl 5 rfl) ?_
    refine ro_i (roV S hE hT hS (c_X2_spaceOf h) lkX2_86 rfl ⟨(Nat.le_of_ble_eq_true rfl), (Nat.le_of_ble_eq_true rfl)⟩ (hP.sub [0, 6] rfl) 0 rfl rfl hl.1 rfl (Nat.le_of_ble_eq_true rfl) dX2_isHeardAt_32 ⟨(Nat.zero_le _), (Nat.zero_le _)⟩) (fun r32 h => ?_)
    refine lv_iload_n hx hb dX2_isHeardAt_35 rfl (lv_at hl 4 rfl) ?_
    refine ro_i (roSN S hE hT hS (c_X9_humBy h) lkX2_64 rfl ⟨(Nat.le_of_ble_eq_true rfl), (Nat.le_of_ble_eq_true rfl)⟩ (hP.sub [] rfl) hl.1 rfl (Nat.le_of_ble_eq_true rfl) dX2_isHeardAt_36 ⟨(Nat.zero_le _), (Nat.zero_le _)⟩) (fun r36 h => ?_)
    refine lv_iload hx hb dX2_isHeardAt_39 (lv_at hl 0 rfl) ?_
    refine ro_i (roSN S hE hT hS (c_X9_offBetween h) lkX2_67 rfl ⟨(Nat.le_of_ble_eq_true rfl), (Nat.le_of_ble_eq_true rfl)⟩ (hP.sub [] rfl) hl.1 rfl (Nat.le_of_ble_eq_true rfl) dX2_isHeardAt_41 ⟨(Nat.zero_le _), (Nat.zero_le _)⟩) (fun r41 h => ?_)
    refine lv_aload_n hx hb dX2_isHeardAt_44 rfl (lv_at hl 2 rfl) ?_
    refine lv_iconst (v := 2) hx hb dX2_isHeardAt_45 (by decide) ?_
    refine ro_i (roV S hE hT hS (c_X5_asked h) lkX2_57 rfl ⟨(Nat.le_of_ble_eq_true rfl), (Nat.le_of_ble_eq_true rfl)⟩ (hP.sub [1, 2] rfl) 0 rfl rfl hl.1 rfl (Nat.le_of_ble_eq_true rfl) dX2_isHeardAt_46 ⟨(Nat.zero_le _), (Nat.zero_le _)⟩) (fun r46 h => ?_)
    refine lv_icmp_le (tgt := 54) hx hb dX2_isHeardAt_49 (by decide) (fun hc => ?_) (fun hc => ?_)
    · have h := h.1 hc
      refine w_X2_isHeardAt_54 S hE hT hP hS hr hlocks ih _ h (lv_sub hl [1, 2, 3, 4, 5] rfl)
    have h := h.2 hc
    refine lv_iconst (v := 0) hx hb dX2_isHeardAt_52 (by decide) ?_
    exact W.zret hx hb hr rfl (fun t ht _ => ⟨_, rfl, h, ht⟩) (fun _ hq => by cases hq) dX2_isHeardAt_53
set_option maxHeartbeats 4000000 in
set_option maxRecDepth 100000 in
theorem c_X2_isHeardAt {l : Launch} {D : va_G} {cI cJ cS : ClassId} {ad adK : Nat → Nat} {a_o a_p1 a_p1_demands a_p1_tunes a_p1_tunes_noteCounts a_p1_tunes_pitches a_spaces : Nat} {z_offs z_times z_p1_stretches z_p1_cars z_p1_tunes_beats : Value} {v_noteCount : Int32} {v_p1_drawSeed : Int32} {f_p1_demands : Nat → Int32} {v_p1_tunes_tuneCount : Int32} {f_p1_tunes_noteCounts : Nat → Int32} {f_p1_tunes_pitches : Nat → Int32} {f_spaces : Nat → Int32} {x2 : Int32} {x3 : Int32} {post : Int32 → Prop} (h : F_X2_isHeardAt v_noteCount f_p1_demands v_p1_tunes_tuneCount f_p1_tunes_noteCounts f_p1_tunes_pitches f_spaces x2 x3 post) : Met l yX2_isHeardAt (Cond.code yX2_isHeardAt cX2_isHeardAt 6 (some (.boolean)) :: GW) (rmd 3 0 0) (PR D cI cJ cS ad adK [.ref a_o, .ref a_p1, .int x2, .int x3] (wX2_isHeardAt cI cJ cS a_o a_p1 a_p1_demands a_p1_tunes a_p1_tunes_noteCounts a_p1_tunes_pitches a_spaces z_offs z_times z_p1_stretches z_p1_cars z_p1_tunes_beats v_noteCount v_p1_drawSeed f_p1_demands v_p1_tunes_tuneCount f_p1_tunes_noteCounts f_p1_tunes_pitches f_spaces)) (vp_Si post) 0 0 nof := by
  refine Met.ro (by decide) (Nat.le_of_ble_eq_true rfl) (fun p e s m args below meth c ls (S : CallFix p m c cX2_isHeardAt 6 s args GW "RoadThatSings$Cutting") hE hT hP hS hr hlocks hl => ?_)
  have hx := S.1
  have hb := S.2.1
  have hl : lv_has ls 6 [(0, .ref a_o), (1, .ref a_p1), (2, .int x2), (3, .int x3)] := hl
  unfold F_X2_isHeardAt at h
  refine lv_iconst (v := 0) hx hb dX2_isHeardAt_0 (by decide) ?_
  refine lv_istore (lv' := [(4, .int 0), (0, .ref a_o), (1, .ref a_p1), (2, .int x2), (3, .int x3)]) hx hb dX2_isHeardAt_1 hl (by decide) rfl (fun ls hl => ?_)
  obtain ⟨n, h⟩ := h
  refine w_X2_isHeardAt_3 S hE hT hP hS hr hlocks n _ _ h (lv_sub hl [1, 2, 3, 4, 0] rfl)
/-! X4_faultFound -/
abbrev wX4_faultFound (cI cJ cS : ClassId) (a_o : Nat) (z_text z_told : Value) (v_at : Int32) (v_faultAt : Int32) : va_W := [(a_o, .inr (3, [z_text, z_told, .int v_at, .int v_faultAt]))]
def F_X4_faultFound (v_faultAt : Int32) (post : Int32 → Prop) : Prop := post v_faultAt
set_option maxHeartbeats 4000000 in
set_option maxRecDepth 100000 in
theorem c_X4_faultFound {l : Launch} {D : va_G} {cI cJ cS : ClassId} {ad adK : Nat → Nat} {a_o : Nat} {z_text z_told : Value} {v_at : Int32} {v_faultAt : Int32} {post : Int32 → Prop} (h : F_X4_faultFound v_faultAt post) : Met l yX4_faultFound (Cond.code yX4_faultFound cX4_faultFound 1 (some (.int)) :: GW) (rmd 0 0 0) (PR D cI cJ cS ad adK [.ref a_o] (wX4_faultFound cI cJ cS a_o z_text z_told v_at v_faultAt)) (vp_Si post) 0 0 nof := by
  refine Met.ro (by decide) (Nat.le_of_ble_eq_true rfl) (fun p e s m args below meth c ls (S : CallFix p m c cX4_faultFound 1 s args GW "RoadThatSings$Reader") hE hT hP hS hr hlocks hl => ?_)
  have hx := S.1
  have hb := S.2.1
  have hl : lv_has ls 1 [(0, .ref a_o)] := hl
  unfold F_X4_faultFound at h
  refine lv_aload_n hx hb dX4_faultFound_0 rfl (lv_at hl 0 rfl) ?_
  refine gf S hE hP 0 rfl rfl inX4 (k := 3) (by decide) q577 rfl dX4_faultFound_1 ?_
  exact W.iret hx hb hr (fun t ht _ => ⟨_, rfl, h, ht⟩) (fun _ hq => by cases hq) dX4_faultFound_4
/-! X6_size -/
abbrev wX6_size (cI cJ cS : ClassId) (a_o : Nat) (z_elements : Value) (v_held : Int32) (v_sort : Int32) (v_elementCount : Int32) (v_stretchNumber : Int32) : va_W := [(a_o, .inr (5, [z_elements, .int v_held, .int v_sort, .int v_elementCount, .int v_stretchNumber]))]
def F_X6_size (v_elementCount : Int32) (post : Int32 → Prop) : Prop := post v_elementCount
set_option maxHeartbeats 4000000 in
set_option maxRecDepth 100000 in
theorem c_X6_size {l : Launch} {D : va_G} {cI cJ cS : ClassId} {ad adK : Nat → Nat} {a_o : Nat} {z_elements : Value} {v_held : Int32} {v_sort : Int32} {v_elementCount : Int32} {v_stretchNumber : Int32} {post : Int32 → Prop} (h : F_X6_size v_elementCount post) : Met l yX6_size (Cond.code yX6_size cX6_size 1 (some (.int)) :: GW) (rmd 0 0 0) (PR D cI cJ cS ad adK [.ref a_o] (wX6_size cI cJ cS a_o z_elements v_held v_sort v_elementCount v_stretchNumber)) (vp_Si post) 0 0 nof := by
  refine Met.ro (by decide) (Nat.le_of_ble_eq_true rfl) (fun p e s m args below meth c ls (S : CallFix p m c cX6_size 1 s args GW "RoadThatSings$Shelf") hE hT hP hS hr hlocks hl => ?_)
  have hx := S.1
  have hb := S.2.1
  have hl : lv_has ls 1 [(0, .ref a_o)] := hl
  unfold F_X6_size at h
  refine lv_aload_n hx hb dX6_size_0 rfl (lv_at hl 0 rfl) ?_
  refine gf S hE hP 0 rfl rfl inX6 (k := 3) (by decide) q167 rfl dX6_size_1 ?_
  exact W.iret hx hb hr (fun t ht _ => ⟨_, rfl, h, ht⟩) (fun _ hq => by cases hq) dX6_size_4
/-! X6_hasElement -/
abbrev wX6_hasElement (cI cJ cS : ClassId) (a_o : Nat) (z_elements : Value) (v_held : Int32) (v_sort : Int32) (v_elementCount : Int32) (v_stretchNumber : Int32) : va_W := [(a_o, .inr (5, [z_elements, .int v_held, .int v_sort, .int v_elementCount, .int v_stretchNumber]))]
def F_X6_hasElement (v_elementCount : Int32) (x1 : Int32) (post : Int32 → Prop) : Prop := ((x1 < 0 → post 0) ∧ (¬ x1 < 0 → ((v_elementCount ≤ x1 → post 0) ∧ (¬ v_elementCount ≤ x1 → ((160 ≤ x1 → post 0) ∧ (¬ 160 ≤ x1 → post 1))))))
set_option maxHeartbeats 4000000 in
set_option maxRecDepth 100000 in
theorem c_X6_hasElement {l : Launch} {D : va_G} {cI cJ cS : ClassId} {ad adK : Nat → Nat} {a_o : Nat} {z_elements : Value} {v_held : Int32} {v_sort : Int32} {v_elementCount : Int32} {v_stretchNumber : Int32} {x1 : Int32} {post : Int32 → Prop} (h : F_X6_hasElement v_elementCount x1 post) : Met l yX6_hasElement (Cond.code yX6_hasElement cX6_hasElement 2 (some (.boolean)) :: GW) (rmd 0 0 0) (PR D cI cJ cS ad adK [.ref a_o, .int x1] (wX6_hasElement cI cJ cS a_o z_elements v_held v_sort v_elementCount v_stretchNumber)) (vp_Si post) 0 0 nof := by
  refine Met.ro (by decide) (Nat.le_of_ble_eq_true rfl) (fun p e s m args below meth c ls (S : CallFix p m c cX6_hasElement 2 s args GW "RoadThatSings$Shelf") hE hT hP hS hr hlocks hl => ?_)
  have hx := S.1
  have hb := S.2.1
  have hl : lv_has ls 2 [(0, .ref a_o), (1, .int x1)] := hl
  unfold F_X6_hasElement at h
  refine lv_iload_n hx hb dX6_hasElement_0 rfl (lv_at hl 1 rfl) ?_
  refine lv_if_lt (tgt := 23) hx hb dX6_hasElement_1 (by decide) (fun hc => ?_) (fun hc => ?_)
  · have h := h.1 hc
    refine lv_iconst (v := 0) hx hb dX6_hasElement_23 (by decide) ?_
    exact W.zret hx hb hr rfl (fun t ht _ => ⟨_, rfl, h, ht⟩) (fun _ hq => by cases hq) dX6_hasElement_24
  have h := h.2 hc
  refine lv_iload_n hx hb dX6_hasElement_4 rfl (lv_at hl 1 rfl) ?_
  refine lv_aload_n hx hb dX6_hasElement_5 rfl (lv_at hl 0 rfl) ?_
  refine gf S hE hP 0 rfl rfl inX6 (k := 3) (by decide) q167 rfl dX6_hasElement_6 ?_
  refine lv_icmp_ge (tgt := 23) hx hb dX6_hasElement_9 (by decide) (fun hc => ?_) (fun hc => ?_)
  · have h := h.1 hc
    refine lv_iconst (v := 0) hx hb dX6_hasElement_23 (by decide) ?_
    exact W.zret hx hb hr rfl (fun t ht _ => ⟨_, rfl, h, ht⟩) (fun _ hq => by cases hq) dX6_hasElement_24
  have h := h.2 hc
  refine lv_iload_n hx hb dX6_hasElement_12 rfl (lv_at hl 1 rfl) ?_
  refine lv_sipush (v := 160) hx hb dX6_hasElement_13 (by decide) ?_
  refine lv_icmp_ge (tgt := 23) hx hb dX6_hasElement_16 (by decide) (fun hc => ?_) (fun hc => ?_)
  · have h := h.1 hc
    refine lv_iconst (v := 0) hx hb dX6_hasElement_23 (by decide) ?_
    exact W.zret hx hb hr rfl (fun t ht _ => ⟨_, rfl, h, ht⟩) (fun _ hq => by cases hq) dX6_hasElement_24
  have h := h.2 hc
  refine lv_iconst (v := 1) hx hb dX6_hasElement_19 (by decide) ?_
  refine lv_goto (tgt := 24) hx hb dX6_hasElement_20 (by decide) ?_
  exact W.zret hx hb hr rfl (fun t ht _ => ⟨_, rfl, h, ht⟩) (fun _ hq => by cases hq) dX6_hasElement_24
/-! X6_intAt -/
abbrev wX6_intAt (cI cJ cS : ClassId) (a_o a_elements : Nat) (v_held : Int32) (v_sort : Int32) (v_elementCount : Int32) (v_stretchNumber : Int32) (g_elements : Nat → Int64) : va_W := [(a_o, .inr (5, [.ref a_elements, .int v_held, .int v_sort, .int v_elementCount, .int v_stretchNumber])), (a_elements, .inl (cJ, 160, .inr (.inl g_elements)))]
def F_X6_intAt (v_elementCount : Int32) (g_elements : Nat → Int64) (x1 : Int32) (post : Int32 → Prop) : Prop := (F_X6_hasElement v_elementCount x1 (fun r2 => ((r2 = 0 → post 0) ∧ (¬ r2 = 0 → (vp_in x1 160 ∧ post ((g_elements x1.toNatClampNeg).toInt32))))))
set_option maxHeartbeats 4000000 in
set_option maxRecDepth 100000 in
theorem c_X6_intAt {l : Launch} {D : va_G} {cI cJ cS : ClassId} {ad adK : Nat → Nat} {a_o a_elements : Nat} {v_held : Int32} {v_sort : Int32} {v_elementCount : Int32} {v_stretchNumber : Int32} {g_elements : Nat → Int64} {x1 : Int32} {post : Int32 → Prop} (h : F_X6_intAt v_elementCount g_elements x1 post) : Met l yX6_intAt (Cond.code yX6_intAt cX6_intAt 2 (some (.int)) :: GW) (rmd 1 0 0) (PR D cI cJ cS ad adK [.ref a_o, .int x1] (wX6_intAt cI cJ cS a_o a_elements v_held v_sort v_elementCount v_stretchNumber g_elements)) (vp_Si post) 0 0 nof := by
  refine Met.ro (by decide) (Nat.le_of_ble_eq_true rfl) (fun p e s m args below meth c ls (S : CallFix p m c cX6_intAt 2 s args GW "RoadThatSings$Shelf") hE hT hP hS hr hlocks hl => ?_)
  have hx := S.1
  have hb := S.2.1
  have hl : lv_has ls 2 [(0, .ref a_o), (1, .int x1)] := hl
  unfold F_X6_intAt at h
  refine lv_aload_n hx hb dX6_intAt_0 rfl (lv_at hl 0 rfl) ?_
  refine lv_iload_n hx hb dX6_intAt_1 rfl (lv_at hl 1 rfl) ?_
  refine ro_i (roV S hE hT hS (c_X6_hasElement h) lkX6_50 rfl ⟨(Nat.le_of_ble_eq_true rfl), (Nat.le_of_ble_eq_true rfl)⟩ (hP.sub [0] rfl) 0 rfl rfl hl.1 rfl (Nat.le_of_ble_eq_true rfl) dX6_intAt_2 ⟨(Nat.zero_le _), (Nat.zero_le _)⟩) (fun r2 h => ?_)
  refine lv_if_eq (tgt := 18) hx hb dX6_intAt_5 (by decide) (fun hc => ?_) (fun hc => ?_)
  · have h := h.1 hc
    refine lv_iconst (v := 0) hx hb dX6_intAt_18 (by decide) ?_
    exact W.iret hx hb hr (fun t ht _ => ⟨_, rfl, h, ht⟩) (fun _ hq => by cases hq) dX6_intAt_19
  have h := h.2 hc
  refine lv_aload_n hx hb dX6_intAt_8 rfl (lv_at hl 0 rfl) ?_
  refine gf S hE hP 0 rfl rfl inX6 (k := 0) (by decide) q164 rfl dX6_intAt_9 ?_
  refine lv_iload_n hx hb dX6_intAt_12 rfl (lv_at hl 1 rfl) ?_
  obtain ⟨hi, h⟩ := h
  refine lal S hE hP 1 rfl hi dX6_intAt_13 ?_
  refine lv_l2i hx hb dX6_intAt_14 rfl ?_
  refine lv_goto (tgt := 19) hx hb dX6_intAt_15 (by decide) ?_
  exact W.iret hx hb hr (fun t ht _ => ⟨_, rfl, h, ht⟩) (fun _ hq => by cases hq) dX6_intAt_19
/-! X7_isFull -/
abbrev wX7_isFull (cI cJ cS : ClassId) (a_o : Nat) (z_kinds z_spaces z_others z_times : Value) (v_stretchCount : Int32) : va_W := [(a_o, .inr (6, [z_kinds, z_spaces, z_others, z_times, .int v_stretchCount]))]
def F_X7_isFull (v_stretchCount : Int32) (post : Int32 → Prop) : Prop := ((v_stretchCount < 16 → post 0) ∧ (¬ v_stretchCount < 16 → post 1))
set_option maxHeartbeats 4000000 in
set_option maxRecDepth 100000 in
theorem c_X7_isFull {l : Launch} {D : va_G} {cI cJ cS : ClassId} {ad adK : Nat → Nat} {a_o : Nat} {z_kinds z_spaces z_others z_times : Value} {v_stretchCount : Int32} {post : Int32 → Prop} (h : F_X7_isFull v_stretchCount post) : Met l yX7_isFull (Cond.code yX7_isFull cX7_isFull 1 (some (.boolean)) :: GW) (rmd 0 0 0) (PR D cI cJ cS ad adK [.ref a_o] (wX7_isFull cI cJ cS a_o z_kinds z_spaces z_others z_times v_stretchCount)) (vp_Si post) 0 0 nof := by
  refine Met.ro (by decide) (Nat.le_of_ble_eq_true rfl) (fun p e s m args below meth c ls (S : CallFix p m c cX7_isFull 1 s args GW "RoadThatSings$Stretches") hE hT hP hS hr hlocks hl => ?_)
  have hx := S.1
  have hb := S.2.1
  have hl : lv_has ls 1 [(0, .ref a_o)] := hl
  unfold F_X7_isFull at h
  refine lv_aload_n hx hb dX7_isFull_0 rfl (lv_at hl 0 rfl) ?_
  refine gf S hE hP 0 rfl rfl inX7 (k := 4) (by decide) q42 rfl dX7_isFull_1 ?_
  refine lv_bipush (v := 16) hx hb dX7_isFull_4 (by decide) ?_
  refine lv_icmp_lt (tgt := 13) hx hb dX7_isFull_6 (by decide) (fun hc => ?_) (fun hc => ?_)
  · have h := h.1 hc
    refine lv_iconst (v := 0) hx hb dX7_isFull_13 (by decide) ?_
    exact W.zret hx hb hr rfl (fun t ht _ => ⟨_, rfl, h, ht⟩) (fun _ hq => by cases hq) dX7_isFull_14
  have h := h.2 hc
  refine lv_iconst (v := 1) hx hb dX7_isFull_9 (by decide) ?_
  refine lv_goto (tgt := 14) hx hb dX7_isFull_10 (by decide) ?_
  exact W.zret hx hb hr rfl (fun t ht _ => ⟨_, rfl, h, ht⟩) (fun _ hq => by cases hq) dX7_isFull_14
/-! X8_isFull -/
abbrev wX8_isFull (cI cJ cS : ClassId) (a_o : Nat) (z_pitches z_beats z_noteCounts : Value) (v_tuneCount : Int32) : va_W := [(a_o, .inr (7, [z_pitches, z_beats, z_noteCounts, .int v_tuneCount]))]
def F_X8_isFull (v_tuneCount : Int32) (post : Int32 → Prop) : Prop := ((v_tuneCount < 6 → post 0) ∧ (¬ v_tuneCount < 6 → post 1))
set_option maxHeartbeats 4000000 in
set_option maxRecDepth 100000 in
theorem c_X8_isFull {l : Launch} {D : va_G} {cI cJ cS : ClassId} {ad adK : Nat → Nat} {a_o : Nat} {z_pitches z_beats z_noteCounts : Value} {v_tuneCount : Int32} {post : Int32 → Prop} (h : F_X8_isFull v_tuneCount post) : Met l yX8_isFull (Cond.code yX8_isFull cX8_isFull 1 (some (.boolean)) :: GW) (rmd 0 0 0) (PR D cI cJ cS ad adK [.ref a_o] (wX8_isFull cI cJ cS a_o z_pitches z_beats z_noteCounts v_tuneCount)) (vp_Si post) 0 0 nof := by
  refine Met.ro (by decide) (Nat.le_of_ble_eq_true rfl) (fun p e s m args below meth c ls (S : CallFix p m c cX8_isFull 1 s args GW "RoadThatSings$Tunes") hE hT hP hS hr hlocks hl => ?_)
  have hx := S.1
  have hb := S.2.1
  have hl : lv_has ls 1 [(0, .ref a_o)] := hl
  unfold F_X8_isFull at h
  refine lv_aload_n hx hb dX8_isFull_0 rfl (lv_at hl 0 rfl) ?_
  refine gf S hE hP 0 rfl rfl inX8 (k := 3) (by decide) q83 rfl dX8_isFull_1 ?_
  refine lv_bipush (v := 6) hx hb dX8_isFull_4 (by decide) ?_
  refine lv_icmp_lt (tgt := 13) hx hb dX8_isFull_6 (by decide) (fun hc => ?_) (fun hc => ?_)
  · have h := h.1 hc
    refine lv_iconst (v := 0) hx hb dX8_isFull_13 (by decide) ?_
    exact W.zret hx hb hr rfl (fun t ht _ => ⟨_, rfl, h, ht⟩) (fun _ hq => by cases hq) dX8_isFull_14
  have h := h.2 hc
  refine lv_iconst (v := 1) hx hb dX8_isFull_9 (by decide) ?_
  refine lv_goto (tgt := 14) hx hb dX8_isFull_10 (by decide) ?_
  exact W.zret hx hb hr rfl (fun t ht _ => ⟨_, rfl, h, ht⟩) (fun _ hq => by cases hq) dX8_isFull_14
/-! X8_mayTakeNote -/
abbrev wX8_mayTakeNote (cI cJ cS : ClassId) (a_o a_noteCounts : Nat) (z_pitches z_beats : Value) (v_tuneCount : Int32) (f_noteCounts : Nat → Int32) : va_W := [(a_o, .inr (7, [z_pitches, z_beats, .ref a_noteCounts, .int v_tuneCount])), (a_noteCounts, .inl (cI, 6, .inl f_noteCounts))]
def F_X8_mayTakeNote (v_tuneCount : Int32) (f_noteCounts : Nat → Int32) (post : Int32 → Prop) : Prop := (F_X8_has v_tuneCount (v_tuneCount - 1) (fun r7 => ((r7 = 0 → post 0) ∧ (¬ r7 = 0 → (F_X8_notesOf v_tuneCount f_noteCounts (v_tuneCount - 1) (fun r20 => ((12 ≤ r20 → post 0) ∧ (¬ 12 ≤ r20 → post 1))))))))
set_option maxHeartbeats 4000000 in
set_option maxRecDepth 100000 in
theorem c_X8_mayTakeNote {l : Launch} {D : va_G} {cI cJ cS : ClassId} {ad adK : Nat → Nat} {a_o a_noteCounts : Nat} {z_pitches z_beats : Value} {v_tuneCount : Int32} {f_noteCounts : Nat → Int32} {post : Int32 → Prop} (h : F_X8_mayTakeNote v_tuneCount f_noteCounts post) : Met l yX8_mayTakeNote (Cond.code yX8_mayTakeNote cX8_mayTakeNote 1 (some (.boolean)) :: GW) (rmd 2 0 0) (PR D cI cJ cS ad adK [.ref a_o] (wX8_mayTakeNote cI cJ cS a_o a_noteCounts z_pitches z_beats v_tuneCount f_noteCounts)) (vp_Si post) 0 0 nof := by
  refine Met.ro (by decide) (Nat.le_of_ble_eq_true rfl) (fun p e s m args below meth c ls (S : CallFix p m c cX8_mayTakeNote 1 s args GW "RoadThatSings$Tunes") hE hT hP hS hr hlocks hl => ?_)
  have hx := S.1
  have hb := S.2.1
  have hl : lv_has ls 1 [(0, .ref a_o)] := hl
  unfold F_X8_mayTakeNote at h
  refine lv_aload_n hx hb dX8_mayTakeNote_0 rfl (lv_at hl 0 rfl) ?_
  refine lv_aload_n hx hb dX8_mayTakeNote_1 rfl (lv_at hl 0 rfl) ?_
  refine gf S hE hP 0 rfl rfl inX8 (k := 3) (by decide) q83 rfl dX8_mayTakeNote_2 ?_
  refine lv_iconst (v := 1) hx hb dX8_mayTakeNote_5 (by decide) ?_
  refine lv_isub hx hb dX8_mayTakeNote_6 ?_
  refine ro_i (roV S hE hT hS (c_X8_has h) lkX8_31 rfl ⟨(Nat.le_of_ble_eq_true rfl), (Nat.le_of_ble_eq_true rfl)⟩ (hP.sub [0] rfl) 0 rfl rfl hl.1 rfl (Nat.le_of_ble_eq_true rfl) dX8_mayTakeNote_7 ⟨(Nat.zero_le _), (Nat.zero_le _)⟩) (fun r7 h => ?_)
  refine lv_if_eq (tgt := 32) hx hb dX8_mayTakeNote_10 (by decide) (fun hc => ?_) (fun hc => ?_)
  · have h := h.1 hc
    refine lv_iconst (v := 0) hx hb dX8_mayTakeNote_32 (by decide) ?_
    exact W.zret hx hb hr rfl (fun t ht _ => ⟨_, rfl, h, ht⟩) (fun _ hq => by cases hq) dX8_mayTakeNote_33
  have h := h.2 hc
  refine lv_aload_n hx hb dX8_mayTakeNote_13 rfl (lv_at hl 0 rfl) ?_
  refine lv_aload_n hx hb dX8_mayTakeNote_14 rfl (lv_at hl 0 rfl) ?_
  refine gf S hE hP 0 rfl rfl inX8 (k := 3) (by decide) q83 rfl dX8_mayTakeNote_15 ?_
  refine lv_iconst (v := 1) hx hb dX8_mayTakeNote_18 (by decide) ?_
  refine lv_isub hx hb dX8_mayTakeNote_19 ?_
  refine ro_i (roV S hE hT hS (c_X8_notesOf h) lkX8_39 rfl ⟨(Nat.le_of_ble_eq_true rfl), (Nat.le_of_ble_eq_true rfl)⟩ (hP.sub [0, 1] rfl) 0 rfl rfl hl.1 rfl (Nat.le_of_ble_eq_true rfl) dX8_mayTakeNote_20 ⟨(Nat.zero_le _), (Nat.zero_le _)⟩) (fun r20 h => ?_)
  refine lv_bipush (v := 12) hx hb dX8_mayTakeNote_23 (by decide) ?_
  refine lv_icmp_ge (tgt := 32) hx hb dX8_mayTakeNote_25 (by decide) (fun hc => ?_) (fun hc => ?_)
  · have h := h.1 hc
    refine lv_iconst (v := 0) hx hb dX8_mayTakeNote_32 (by decide) ?_
    exact W.zret hx hb hr rfl (fun t ht _ => ⟨_, rfl, h, ht⟩) (fun _ hq => by cases hq) dX8_mayTakeNote_33
  have h := h.2 hc
  refine lv_iconst (v := 1) hx hb dX8_mayTakeNote_28 (by decide) ?_
  refine lv_goto (tgt := 33) hx hb dX8_mayTakeNote_29 (by decide) ?_
  exact W.zret hx hb hr rfl (fun t ht _ => ⟨_, rfl, h, ht⟩) (fun _ hq => by cases hq) dX8_mayTakeNote_33
/-! X4_failAt -/
abbrev wX4_failAt (cI cJ cS : ClassId) (a_o : Nat) (z_text z_told : Value) (v_at : Int32) (v_faultAt : Int32) : va_W := [(a_o, .inr (3, [z_text, z_told, .int v_at, .int v_faultAt]))]
def F_X4_failAt (v_faultAt : Int32) (x1 : Int32) (post : Int32 → Int32 → Prop) : Prop := post 0 x1
set_option maxHeartbeats 4000000 in
set_option maxRecDepth 100000 in
theorem c_X4_failAt {l : Launch} {D : va_G} {cI cJ cS : ClassId} {ad adK : Nat → Nat} {a_o : Nat} {z_text z_told : Value} {v_at : Int32} {v_faultAt : Int32} {x1 : Int32} {post : Int32 → Int32 → Prop} (h : F_X4_failAt v_faultAt x1 post) {sz : Nat} : Met l yX4_failAt (Cond.code yX4_failAt cX4_failAt 2 (some (.boolean)) :: GW) (rmd 0 0 0) (PW D cI cJ cS ad adK [.ref a_o, .int x1] (wX4_failAt cI cJ cS a_o z_text z_told v_at v_faultAt) sz) (va_Qi (fun r (u : Int32) => post r u) (fun u t => va_P D vwCl (wX4_failAt cI cJ cS a_o z_text z_told v_at u) t.heap) (va_A (wX4_failAt cI cJ cS a_o z_text z_told v_at v_faultAt) sz)) 0 0 (va_A (wX4_failAt cI cJ cS a_o z_text z_told v_at v_faultAt) sz) := by
  refine Met.rw (Qc := fun A => (va_Qi (fun r (u : Int32) => post r u) (fun u t => va_P D vwCl (wX4_failAt cI cJ cS a_o z_text z_told v_at u) t.heap) A)) (by decide) (Nat.le_of_ble_eq_true rfl) (fun p e s m args below meth c ls A (S : CallFix p m c cX4_failAt 2 s args GW "RoadThatSings$Reader") hE hT hP hD hA hS hr hlocks hname hl => ?_)
  have hS0 := hS
  have hx := S.1
  have hb := S.2.1
  have hl : lv_has ls 2 [(0, .ref a_o), (1, .int x1)] := hl
  unfold F_X4_failAt at h
  refine lv_aload_n hx hb dX4_failAt_0 rfl (lv_at hl 0 rfl) ?_
  refine lv_iload_n hx hb dX4_failAt_1 rfl (lv_at hl 1 rfl) ?_
  refine pf S hE hP hD hS 0 (k := 3) rfl rfl inX4 tyX4_ok nmX4 (by decide) q577 rfl rfl rfl (Nat.le_of_ble_eq_true rfl) dX4_failAt_2 (fun H locs hP hD hS => ?_)
  have hP : va_P D vwCl (wX4_failAt cI cJ cS a_o z_text z_told v_at x1) H := hP
  have hD : va_D A (wX4_failAt cI cJ cS a_o z_text z_told v_at x1) := hD
  refine lv_iconst (v := 0) hx hb dX4_failAt_5 (by decide) ?_
  exact W.zret hx hb hr rfl (fun t ht _ => ⟨⟨_, x1, rfl, h, hPt hP ht⟩, hS.F ht⟩) hS.2.2 dX4_failAt_6
/-! X4_readNumber -/
abbrev wX4_readNumber (cI cJ cS : ClassId) (a_o a_text a_text_elements : Nat) (z_told : Value) (v_at : Int32) (v_faultAt : Int32) (v_text_held : Int32) (v_text_sort : Int32) (v_text_elementCount : Int32) (v_text_stretchNumber : Int32) (g_text_elements : Nat → Int64) : va_W := [(a_o, .inr (3, [.ref a_text, z_told, .int v_at, .int v_faultAt])), (a_text, .inr (5, [.ref a_text_elements, .int v_text_held, .int v_text_sort, .int v_text_elementCount, .int v_text_stretchNumber])), (a_text_elements, .inl (cJ, 160, .inr (.inl g_text_elements)))]
def L_X4_readNumber_44 (v_text_elementCount : Int32) (g_text_elements : Nat → Int64) (x3 : Int32) (k110 : Int32 → Int32 → Prop) : Nat → Int32 → Int32 → Prop
  | 0, _, _ => False
  | n44 + 1, x4, v_at => ((4 ≤ (v_at - x3) → k110 x4 v_at) ∧ (¬ 4 ≤ (v_at - x3) → (F_X6_intAt v_text_elementCount g_text_elements v_at (fun r62 => (F_X9_within r62 48 57 (fun r69 => ((r69 = 0 → k110 x4 v_at) ∧ (¬ r69 = 0 → (F_X6_intAt v_text_elementCount g_text_elements v_at (fun r88 => (∀ x4_95 : Int32, x4_95 = ((10 * x4) + r88) - 48 → L_X4_readNumber_44 v_text_elementCount g_text_elements x3 k110 n44 x4_95 (v_at + 1))))))))))))
def F_X4_readNumber_110 (post : Int32 → Int32 → Int32 → Prop) (x1 : Int32) (x2 : Int32) (x3 : Int32) (x4 : Int32) (v_at : Int32) (v_faultAt : Int32) : Prop := ((v_at = x3 → post (-1) v_at x3) ∧ (¬ v_at = x3 → (F_X9_within x4 x1 x2 (fun r122 => ((r122 = 0 → post (-1) v_at x3) ∧ (¬ r122 = 0 → post x4 v_at v_faultAt))))))
def F_X4_readNumber (v_at : Int32) (v_faultAt : Int32) (v_text_elementCount : Int32) (g_text_elements : Nat → Int64) (x1 : Int32) (x2 : Int32) (post : Int32 → Int32 → Int32 → Prop) : Prop := (F_X6_intAt v_text_elementCount g_text_elements v_at (fun r8 => ((r8 = 32 → (∀ x3_40 : Int32, x3_40 = v_at + 1 → (∃ n44 : Nat, L_X4_readNumber_44 v_text_elementCount g_text_elements x3_40 (fun x4_1 v_at_2 => F_X4_readNumber_110 post x1 x2 x3_40 x4_1 v_at_2 v_faultAt) n44 0 (v_at + 1)))) ∧ (¬ r8 = 32 → post (-1) v_at v_at))))
set_option maxHeartbeats 4000000 in
set_option maxRecDepth 100000 in
theorem w_X4_readNumber_44 {l : Launch} {D : va_G} {cI cJ cS : ClassId} {ad adK : Nat → Nat} {a_o a_text a_text_elements : Nat} {z_told : Value} {v_faultAt : Int32} {v_text_held : Int32} {v_text_sort : Int32} {v_text_elementCount : Int32} {v_text_stretchNumber : Int32} {g_text_elements : Nat → Int64} {x1 : Int32} {x2 : Int32} {x3 : Int32} {post : Int32 → Int32 → Int32 → Prop} {k110 : Int32 → Int32 → Prop} {p : Program} {e : Env} {s : State} {m : MethodId} {args : Array Value} {below : List Frame} {meth : Method} {c : Code} {A : Nat → Prop} (S : CallFix p m c cX4_readNumber 5 s args GW "RoadThatSings$Reader") (hE : EN D cI cJ cS s) (hT : ST ad adK A s s.heap) (hA : ∀ q : Nat, s.heap.size ≤ q → A q) (hr : meth.sig.returnType = (some (.int))) (hlocks : meth.locks = false) (hk110 : ∀ (x4 : Int32) (v_at : Int32) (H : Heap) (locs : List Loc) (ls : Array Slot), k110 x4 v_at → va_P D vwCl (wX4_readNumber cI cJ cS a_o a_text a_text_elements z_told v_at v_faultAt v_text_held v_text_sort v_text_elementCount v_text_stretchNumber g_text_elements) H → va_D A (wX4_readNumber cI cJ cS a_o a_text a_text_elements z_told v_at v_faultAt v_text_held v_text_sort v_text_elementCount v_text_stretchNumber g_text_elements) → va_S A s.heap H locs → lv_has ls 5 [(0, .ref a_o), (1, .int x1), (2, .int x2), (3, .int x3), (4, .int x4)] → W p l e (rmd 2 0 0) s m args below meth c H locs 0 0 (MQ below (va_Qi (fun r (u : Int32 × Int32) => post r u.1 u.2) (fun u t => va_P D vwCl (wX4_readNumber cI cJ cS a_o a_text a_text_elements z_told u.1 u.2 v_text_held v_text_sort v_text_elementCount v_text_stretchNumber g_text_elements) t.heap) A) args s 0 0 A) (F0 m 110 ls [])) : ∀ n : Nat, ∀ (x4 : Int32) (v_at : Int32) (H : Heap) (locs : List Loc) (ls : Array Slot), L_X4_readNumber_44 v_text_elementCount g_text_elements x3 k110 n x4 v_at → va_P D vwCl (wX4_readNumber cI cJ cS a_o a_text a_text_elements z_told v_at v_faultAt v_text_held v_text_sort v_text_elementCount v_text_stretchNumber g_text_elements) H → va_D A (wX4_readNumber cI cJ cS a_o a_text a_text_elements z_told v_at v_faultAt v_text_held v_text_sort v_text_elementCount v_text_stretchNumber g_text_elements) → va_S A s.heap H locs → lv_has ls 5 [(0, .ref a_o), (1, .int x1), (2, .int x2), (3, .int x3), (4, .int x4)] → W p l e (rmd 2 0 0) s m args below meth c H locs 0 0 (MQ below (va_Qi (fun r (u : Int32 × Int32) => post r u.1 u.2) (fun u t => va_P D vwCl (wX4_readNumber cI cJ cS a_o a_text a_text_elements z_told u.1 u.2 v_text_held v_text_sort v_text_elementCount v_text_stretchNumber g_text_elements) t.heap) A) args s 0 0 A) (F0 m 44 ls []) := by
  intro n
  induction n with
  | zero =>
    intro x4 v_at H locs ls h hP hD hS hl
    exact h.elim
  | succ n ih =>
    intro x4 v_at H locs ls h hP hD hS hl
    rw [L_X4_readNumber_44] at h
    have hx := S.1
    have hb := S.2.1
    refine lv_aload_n hx hb dX4_readNumber_44 rfl (lv_at hl 0 rfl) ?_
    refine gf S hE hP 0 rfl rfl inX4 (k := 2) (by decide) q576 rfl dX4_readNumber_45 ?_
    refine lv_iload_n hx hb dX4_readNumber_48 rfl (lv_at hl 3 rfl) ?_
    refine lv_isub hx hb dX4_readNumber_49 ?_
    refine lv_iconst (v := 4) hx hb dX4_readNumber_50 (by decide) ?_
    refine lv_icmp_ge (tgt := 110) hx hb dX4_readNumber_51 (by decide) (fun hc => ?_) (fun hc => ?_)
    · have h := h.1 hc
      exact hk110 _ _ _ _ _ h hP hD hS (lv_sub hl [0, 1, 2, 3, 4] rfl)
    have h := h.2 hc
    refine lv_aload_n hx hb dX4_readNumber_54 rfl (lv_at hl 0 rfl) ?_
    refine gf S hE hP 0 rfl rfl inX4 (k := 0) (by decide) q574 rfl dX4_readNumber_55 ?_
    refine lv_aload_n hx hb dX4_readNumber_58 rfl (lv_at hl 0 rfl) ?_
    refine gf S hE hP 0 rfl rfl inX4 (k := 2) (by decide) q576 rfl dX4_readNumber_59 ?_
    refine ro_i (roV S hE hT hS (c_X6_intAt h) lkX4_30 rfl ⟨(Nat.le_of_ble_eq_true rfl), (Nat.le_of_ble_eq_true rfl)⟩ (hP.sub [1, 2] rfl) 0 rfl rfl hl.1 rfl (Nat.le_of_ble_eq_true rfl) dX4_readNumber_62 ⟨(Nat.zero_le _), (Nat.zero_le _)⟩) (fun r62 h => ?_)
    refine lv_bipush (v := 48) hx hb dX4_readNumber_65 (by decide) ?_
    refine lv_bipush (v := 57) hx hb dX4_readNumber_67 (by decide) ?_
    refine ro_i (roSN S hE hT hS (c_X9_within h) lkX4_145 rfl ⟨(Nat.le_of_ble_eq_true rfl), (Nat.le_of_ble_eq_true rfl)⟩ (hP.sub [] rfl) hl.1 rfl (Nat.le_of_ble_eq_true rfl) dX4_readNumber_69 ⟨(Nat.zero_le _), (Nat.zero_le _)⟩) (fun r69 h => ?_)
    refine lv_if_eq (tgt := 110) hx hb dX4_readNumber_72 (by decide) (fun hc => ?_) (fun hc => ?_)
    · have h := h.1 hc
      exact hk110 _ _ _ _ _ h hP hD hS (lv_sub hl [0, 1, 2, 3, 4] rfl)
    have h := h.2 hc
    refine lv_bipush (v := 10) hx hb dX4_readNumber_75 (by decide) ?_
    refine lv_iload hx hb dX4_readNumber_77 (lv_at hl 4 rfl) ?_
    refine lv_imul hx hb dX4_readNumber_79 ?_
    refine lv_aload_n hx hb dX4_readNumber_80 rfl (lv_at hl 0 rfl) ?_
    refine gf S hE hP 0 rfl rfl inX4 (k := 0) (by decide) q574 rfl dX4_readNumber_81 ?_
    refine lv_aload_n hx hb dX4_readNumber_84 rfl (lv_at hl 0 rfl) ?_
    refine gf S hE hP 0 rfl rfl inX4 (k := 2) (by decide) q576 rfl dX4_readNumber_85 ?_
    refine ro_i (roV S hE hT hS (c_X6_intAt h) lkX4_30 rfl ⟨(Nat.le_of_ble_eq_true rfl), (Nat.le_of_ble_eq_true rfl)⟩ (hP.sub [1, 2] rfl) 0 rfl rfl hl.1 rfl (Nat.le_of_ble_eq_true rfl) dX4_readNumber_88 ⟨(Nat.zero_le _), (Nat.zero_le _)⟩) (fun r88 h => ?_)
    refine lv_iadd hx hb dX4_readNumber_91 ?_
    refine lv_bipush (v := 48) hx hb dX4_readNumber_92 (by decide) ?_
    refine lv_isub hx hb dX4_readNumber_94 ?_
    refine lv_topi (fun x4_95 ex4_95 => ?_)
    have h := h _ ex4_95
    refine lv_istore (lv' := [(4, .int x4_95), (0, .ref a_o), (1, .int x1), (2, .int x2), (3, .int x3)]) hx hb dX4_readNumber_95 hl (by decide) rfl (fun ls hl => ?_)
    refine lv_aload_n hx hb dX4_readNumber_97 rfl (lv_at hl 1 rfl) ?_
    refine lv_dup hx hb dX4_readNumber_98 rfl ?_
    refine gf S hE hP 0 rfl rfl inX4 (k := 2) (by decide) q576 rfl dX4_readNumber_99 ?_
    refine lv_iconst (v := 1) hx hb dX4_readNumber_102 (by decide) ?_
    refine lv_iadd hx hb dX4_readNumber_103 ?_
    refine pf S hE hP hD hS 0 (k := 2) rfl rfl inX4 tyX4_ok nmX4 (by decide) q576 rfl rfl rfl (Nat.le_of_ble_eq_true rfl) dX4_readNumber_104 (fun H locs hP hD hS => ?_)
    have hP : va_P D vwCl (wX4_readNumber cI cJ cS a_o a_text a_text_elements z_told (v_at + 1) v_faultAt v_text_held v_text_sort v_text_elementCount v_text_stretchNumber g_text_elements) H := hP
    have hD : va_D A (wX4_readNumber cI cJ cS a_o a_text a_text_elements z_told (v_at + 1) v_faultAt v_text_held v_text_sort v_text_elementCount v_text_stretchNumber g_text_elements) := hD
    refine lv_goto (tgt := 44) hx hb dX4_readNumber_107 (by decide) ?_
    exact ih _ _ _ _ _ h hP hD hS (lv_sub hl [1, 2, 3, 4, 0] rfl)
set_option maxHeartbeats 4000000 in
set_option maxRecDepth 100000 in
theorem w_X4_readNumber_110 {l : Launch} {D : va_G} {cI cJ cS : ClassId} {ad adK : Nat → Nat} {a_o a_text a_text_elements : Nat} {z_told : Value} {v_at : Int32} {v_faultAt : Int32} {v_text_held : Int32} {v_text_sort : Int32} {v_text_elementCount : Int32} {v_text_stretchNumber : Int32} {g_text_elements : Nat → Int64} {x1 : Int32} {x2 : Int32} {x3 : Int32} {x4 : Int32} {post : Int32 → Int32 → Int32 → Prop} {p : Program} {e : Env} {s : State} {m : MethodId} {args : Array Value} {below : List Frame} {meth : Method} {c : Code} {A : Nat → Prop} (S : CallFix p m c cX4_readNumber 5 s args GW "RoadThatSings$Reader") (hE : EN D cI cJ cS s) (hT : ST ad adK A s s.heap) (hA : ∀ q : Nat, s.heap.size ≤ q → A q) (hr : meth.sig.returnType = (some (.int))) (hlocks : meth.locks = false) : ∀ (H : Heap) (locs : List Loc) (ls : Array Slot), F_X4_readNumber_110 post x1 x2 x3 x4 v_at v_faultAt → va_P D vwCl (wX4_readNumber cI cJ cS a_o a_text a_text_elements z_told v_at v_faultAt v_text_held v_text_sort v_text_elementCount v_text_stretchNumber g_text_elements) H → va_D A (wX4_readNumber cI cJ cS a_o a_text a_text_elements z_told v_at v_faultAt v_text_held v_text_sort v_text_elementCount v_text_stretchNumber g_text_elements) → va_S A s.heap H locs → lv_has ls 5 [(0, .ref a_o), (1, .int x1), (2, .int x2), (3, .int x3), (4, .int x4)] → W p l e (rmd 2 0 0) s m args below meth c H locs 0 0 (MQ below (va_Qi (fun r (u : Int32 × Int32) => post r u.1 u.2) (fun u t => va_P D vwCl (wX4_readNumber cI cJ cS a_o a_text a_text_elements z_told u.1 u.2 v_text_held v_text_sort v_text_elementCount v_text_stretchNumber g_text_elements) t.heap) A) args s 0 0 A) (F0 m 110 ls []) := by
  intro  H locs ls h hP hD hS hl
  unfold F_X4_readNumber_110 at h
  have hx := S.1
  have hb := S.2.1
  refine lv_aload_n hx hb dX4_readNumber_110 rfl (lv_at hl 0 rfl) ?_
  refine gf S hE hP 0 rfl rfl inX4 (k := 2) (by decide) q576 rfl dX4_readNumber_111 ?_
  refine lv_iload_n hx hb dX4_readNumber_114 rfl (lv_at hl 3 rfl) ?_
  refine lv_icmp_eq (tgt := 128) hx hb dX4_readNumber_115 (by decide) (fun hc => ?_) (fun hc => ?_)
  · have h := h.1 hc
    refine lv_aload_n hx hb dX4_readNumber_128 rfl (lv_at hl 0 rfl) ?_
    refine lv_iload_n hx hb dX4_readNumber_129 rfl (lv_at hl 3 rfl) ?_
    refine pf S hE hP hD hS 0 (k := 3) rfl rfl inX4 tyX4_ok nmX4 (by decide) q577 rfl rfl rfl (Nat.le_of_ble_eq_true rfl) dX4_readNumber_130 (fun H locs hP hD hS => ?_)
    have hP : va_P D vwCl (wX4_readNumber cI cJ cS a_o a_text a_text_elements z_told v_at x3 v_text_held v_text_sort v_text_elementCount v_text_stretchNumber g_text_elements) H := hP
    have hD : va_D A (wX4_readNumber cI cJ cS a_o a_text a_text_elements z_told v_at x3 v_text_held v_text_sort v_text_elementCount v_text_stretchNumber g_text_elements) := hD
    refine lv_iconst (v := (-1)) hx hb dX4_readNumber_133 (by decide) ?_
    exact W.iret hx hb hr (fun t ht _ => ⟨⟨_, (v_at, x3), rfl, h, hPt hP ht⟩, hS.F ht⟩) hS.2.2 dX4_readNumber_134
  have h := h.2 hc
  refine lv_iload hx hb dX4_readNumber_118 (lv_at hl 4 rfl) ?_
  refine lv_iload_n hx hb dX4_readNumber_120 rfl (lv_at hl 1 rfl) ?_
  refine lv_iload_n hx hb dX4_readNumber_121 rfl (lv_at hl 2 rfl) ?_
  refine ro_i (roSN S hE hT hS (c_X9_within h) lkX4_145 rfl ⟨(Nat.le_of_ble_eq_true rfl), (Nat.le_of_ble_eq_true rfl)⟩ (hP.sub [] rfl) hl.1 rfl (Nat.le_of_ble_eq_true rfl) dX4_readNumber_122 ⟨(Nat.zero_le _), (Nat.zero_le _)⟩) (fun r122 h => ?_)
  refine lv_if_ne (tgt := 135) hx hb dX4_readNumber_125 (by decide) (fun hc => ?_) (fun hc => ?_)
  · have h := h.2 hc
    refine lv_iload hx hb dX4_readNumber_135 (lv_at hl 4 rfl) ?_
    exact W.iret hx hb hr (fun t ht _ => ⟨⟨_, (v_at, v_faultAt), rfl, h, hPt hP ht⟩, hS.F ht⟩) hS.2.2 dX4_readNumber_137
  have h := h.1 hc
  refine lv_aload_n hx hb dX4_readNumber_128 rfl (lv_at hl 0 rfl) ?_
  refine lv_iload_n hx hb dX4_readNumber_129 rfl (lv_at hl 3 rfl) ?_
  refine pf S hE hP hD hS 0 (k := 3) rfl rfl inX4 tyX4_ok nmX4 (by decide) q577 rfl rfl rfl (Nat.le_of_ble_eq_true rfl) dX4_readNumber_130 (fun H locs hP hD hS => ?_)
  have hP : va_P D vwCl (wX4_readNumber cI cJ cS a_o a_text a_text_elements z_told v_at x3 v_text_held v_text_sort v_text_elementCount v_text_stretchNumber g_text_elements) H := hP
  have hD : va_D A (wX4_readNumber cI cJ cS a_o a_text a_text_elements z_told v_at x3 v_text_held v_text_sort v_text_elementCount v_text_stretchNumber g_text_elements) := hD
  refine lv_iconst (v := (-1)) hx hb dX4_readNumber_133 (by decide) ?_
  exact W.iret hx hb hr (fun t ht _ => ⟨⟨_, (v_at, x3), rfl, h, hPt hP ht⟩, hS.F ht⟩) hS.2.2 dX4_readNumber_134
set_option maxHeartbeats 4000000 in
set_option maxRecDepth 100000 in
theorem c_X4_readNumber {l : Launch} {D : va_G} {cI cJ cS : ClassId} {ad adK : Nat → Nat} {a_o a_text a_text_elements : Nat} {z_told : Value} {v_at : Int32} {v_faultAt : Int32} {v_text_held : Int32} {v_text_sort : Int32} {v_text_elementCount : Int32} {v_text_stretchNumber : Int32} {g_text_elements : Nat → Int64} {x1 : Int32} {x2 : Int32} {post : Int32 → Int32 → Int32 → Prop} (h : F_X4_readNumber v_at v_faultAt v_text_elementCount g_text_elements x1 x2 post) {sz : Nat} : Met l yX4_readNumber (Cond.code yX4_readNumber cX4_readNumber 5 (some (.int)) :: GW) (rmd 2 0 0) (PW D cI cJ cS ad adK [.ref a_o, .int x1, .int x2] (wX4_readNumber cI cJ cS a_o a_text a_text_elements z_told v_at v_faultAt v_text_held v_text_sort v_text_elementCount v_text_stretchNumber g_text_elements) sz) (va_Qi (fun r (u : Int32 × Int32) => post r u.1 u.2) (fun u t => va_P D vwCl (wX4_readNumber cI cJ cS a_o a_text a_text_elements z_told u.1 u.2 v_text_held v_text_sort v_text_elementCount v_text_stretchNumber g_text_elements) t.heap) (va_A (wX4_readNumber cI cJ cS a_o a_text a_text_elements z_told v_at v_faultAt v_text_held v_text_sort v_text_elementCount v_text_stretchNumber g_text_elements) sz)) 0 0 (va_A (wX4_readNumber cI cJ cS a_o a_text a_text_elements z_told v_at v_faultAt v_text_held v_text_sort v_text_elementCount v_text_stretchNumber g_text_elements) sz) := by
  refine Met.rw (Qc := fun A => (va_Qi (fun r (u : Int32 × Int32) => post r u.1 u.2) (fun u t => va_P D vwCl (wX4_readNumber cI cJ cS a_o a_text a_text_elements z_told u.1 u.2 v_text_held v_text_sort v_text_elementCount v_text_stretchNumber g_text_elements) t.heap) A)) (by decide) (Nat.le_of_ble_eq_true rfl) (fun p e s m args below meth c ls A (S : CallFix p m c cX4_readNumber 5 s args GW "RoadThatSings$Reader") hE hT hP hD hA hS hr hlocks hname hl => ?_)
  have hS0 := hS
  have hx := S.1
  have hb := S.2.1
  have hl : lv_has ls 5 [(0, .ref a_o), (1, .int x1), (2, .int x2)] := hl
  unfold F_X4_readNumber at h
  refine lv_aload_n hx hb dX4_readNumber_0 rfl (lv_at hl 0 rfl) ?_
  refine gf S hE hP 0 rfl rfl inX4 (k := 0) (by decide) q574 rfl dX4_readNumber_1 ?_
  refine lv_aload_n hx hb dX4_readNumber_4 rfl (lv_at hl 0 rfl) ?_
  refine gf S hE hP 0 rfl rfl inX4 (k := 2) (by decide) q576 rfl dX4_readNumber_5 ?_
  refine ro_i (roV S hE hT hS (c_X6_intAt h) lkX4_30 rfl ⟨(Nat.le_of_ble_eq_true rfl), (Nat.le_of_ble_eq_true rfl)⟩ (hP.sub [1, 2] rfl) 0 rfl rfl hl.1 rfl (Nat.le_of_ble_eq_true rfl) dX4_readNumber_8 ⟨(Nat.zero_le _), (Nat.zero_le _)⟩) (fun r8 h => ?_)
  refine lv_bipush (v := 32) hx hb dX4_readNumber_11 (by decide) ?_
  refine lv_icmp_eq (tgt := 26) hx hb dX4_readNumber_13 (by decide) (fun hc => ?_) (fun hc => ?_)
  · have h := h.1 hc
    refine lv_aload_n hx hb dX4_readNumber_26 rfl (lv_at hl 0 rfl) ?_
    refine lv_dup hx hb dX4_readNumber_27 rfl ?_
    refine gf S hE hP 0 rfl rfl inX4 (k := 2) (by decide) q576 rfl dX4_readNumber_28 ?_
    refine lv_iconst (v := 1) hx hb dX4_readNumber_31 (by decide) ?_
    refine lv_iadd hx hb dX4_readNumber_32 ?_
    refine pf S hE hP hD hS 0 (k := 2) rfl rfl inX4 tyX4_ok nmX4 (by decide) q576 rfl rfl rfl (Nat.le_of_ble_eq_true rfl) dX4_readNumber_33 (fun H locs hP hD hS => ?_)
    have hP : va_P D vwCl (wX4_readNumber cI cJ cS a_o a_text a_text_elements z_told (v_at + 1) v_faultAt v_text_held v_text_sort v_text_elementCount v_text_stretchNumber g_text_elements) H := hP
    have hD : va_D A (wX4_readNumber cI cJ cS a_o a_text a_text_elements z_told (v_at + 1) v_faultAt v_text_held v_text_sort v_text_elementCount v_text_stretchNumber g_text_elements) := hD
    refine lv_aload_n hx hb dX4_readNumber_36 rfl (lv_at hl 0 rfl) ?_
    refine gf S hE hP 0 rfl rfl inX4 (k := 2) (by decide) q576 rfl dX4_readNumber_37 ?_
    refine lv_topi (fun x3_40 ex3_40 => ?_)
    have h := h _ ex3_40
    refine lv_istore_n (lv' := [(3, .int x3_40), (0, .ref a_o), (1, .int x1), (2, .int x2)]) hx hb dX4_readNumber_40 rfl hl (by decide) rfl (fun ls hl => ?_)
    refine lv_iconst (v := 0) hx hb dX4_readNumber_41 (by decide) ?_
    refine lv_istore (lv' := [(4, .int 0), (3, .int x3_40), (0, .ref a_o), (1, .int x1), (2, .int x2)]) hx hb dX4_readNumber_42 hl (by decide) rfl (fun ls hl => ?_)
    obtain ⟨n, h⟩ := h
    refine w_X4_readNumber_44 S hE hT hA hr hlocks (fun x4_1 v_at_2 H locs ls h hP hD hS hl => ?_) n _ _ _ _ _ h hP hD hS (lv_sub hl [2, 3, 4, 1, 0] rfl)
    refine w_X4_readNumber_110 S hE hT hA hr hlocks _ _ _ h hP hD hS (lv_sub hl [0, 1, 2, 3, 4] rfl)
  have h := h.2 hc
  refine lv_aload_n hx hb dX4_readNumber_16 rfl (lv_at hl 0 rfl) ?_
  refine lv_aload_n hx hb dX4_readNumber_17 rfl (lv_at hl 0 rfl) ?_
  refine gf S hE hP 0 rfl rfl inX4 (k := 2) (by decide) q576 rfl dX4_readNumber_18 ?_
  refine pf S hE hP hD hS 0 (k := 3) rfl rfl inX4 tyX4_ok nmX4 (by decide) q577 rfl rfl rfl (Nat.le_of_ble_eq_true rfl) dX4_readNumber_21 (fun H locs hP hD hS => ?_)
  have hP : va_P D vwCl (wX4_readNumber cI cJ cS a_o a_text a_text_elements z_told v_at v_at v_text_held v_text_sort v_text_elementCount v_text_stretchNumber g_text_elements) H := hP
  have hD : va_D A (wX4_readNumber cI cJ cS a_o a_text a_text_elements z_told v_at v_at v_text_held v_text_sort v_text_elementCount v_text_stretchNumber g_text_elements) := hD
  refine lv_iconst (v := (-1)) hx hb dX4_readNumber_24 (by decide) ?_
  exact W.iret hx hb hr (fun t ht _ => ⟨⟨_, (v_at, v_at), rfl, h, hPt hP ht⟩, hS.F ht⟩) hS.2.2 dX4_readNumber_25
/-! X7_add -/
abbrev wX7_add (cI cJ cS : ClassId) (a_o a_kinds a_others a_spaces a_times : Nat) (v_stretchCount : Int32) (f_kinds : Nat → Int32) (f_others : Nat → Int32) (f_spaces : Nat → Int32) (f_times : Nat → Int32) : va_W := [(a_o, .inr (6, [.ref a_kinds, .ref a_spaces, .ref a_others, .ref a_times, .int v_stretchCount])), (a_kinds, .inl (cI, 16, .inl f_kinds)), (a_others, .inl (cI, 16, .inl f_others)), (a_spaces, .inl (cI, 16, .inl f_spaces)), (a_times, .inl (cI, 16, .inl f_times))]
def F_X7_add (v_stretchCount : Int32) (f_kinds : Nat → Int32) (f_others : Nat → Int32) (f_spaces : Nat → Int32) (f_times : Nat → Int32) (x1 : Int32) (x2 : Int32) (x3 : Int32) (x4 : Int32) (post : Int32 → Int32 → (Nat → Int32) → (Nat → Int32) → (Nat → Int32) → (Nat → Int32) → Prop) : Prop := (F_X7_isFull v_stretchCount (fun r1 => ((r1 = 0 → ((0 ≤ v_stretchCount → (vp_in v_stretchCount 16 ∧ (vp_in v_stretchCount 16 ∧ (vp_in v_stretchCount 16 ∧ (vp_in v_stretchCount 16 ∧ post ((v_stretchCount + 1) - 1) (v_stretchCount + 1) (upd f_kinds v_stretchCount.toNatClampNeg x1) (upd f_others v_stretchCount.toNatClampNeg x3) (upd f_spaces v_stretchCount.toNatClampNeg x2) (upd f_times v_stretchCount.toNatClampNeg x4)))))) ∧ (¬ 0 ≤ v_stretchCount → post (-1) v_stretchCount f_kinds f_others f_spaces f_times))) ∧ (¬ r1 = 0 → post (-1) v_stretchCount f_kinds f_others f_spaces f_times))))
set_option maxHeartbeats 4000000 in
set_option maxRecDepth 100000 in
theorem c_X7_add {l : Launch} {D : va_G} {cI cJ cS : ClassId} {ad adK : Nat → Nat} {a_o a_kinds a_others a_spaces a_times : Nat} {v_stretchCount : Int32} {f_kinds : Nat → Int32} {f_others : Nat → Int32} {f_spaces : Nat → Int32} {f_times : Nat → Int32} {x1 : Int32} {x2 : Int32} {x3 : Int32} {x4 : Int32} {post : Int32 → Int32 → (Nat → Int32) → (Nat → Int32) → (Nat → Int32) → (Nat → Int32) → Prop} (h : F_X7_add v_stretchCount f_kinds f_others f_spaces f_times x1 x2 x3 x4 post) {sz : Nat} : Met l yX7_add (Cond.code yX7_add cX7_add 5 (some (.int)) :: GW) (rmd 1 0 0) (PW D cI cJ cS ad adK [.ref a_o, .int x1, .int x2, .int x3, .int x4] (wX7_add cI cJ cS a_o a_kinds a_others a_spaces a_times v_stretchCount f_kinds f_others f_spaces f_times) sz) (va_Qi (fun r (u : Int32 × (Nat → Int32) × (Nat → Int32) × (Nat → Int32) × (Nat → Int32)) => post r u.1 u.2.1 u.2.2.1 u.2.2.2.1 u.2.2.2.2) (fun u t => va_P D vwCl (wX7_add cI cJ cS a_o a_kinds a_others a_spaces a_times u.1 u.2.1 u.2.2.1 u.2.2.2.1 u.2.2.2.2) t.heap) (va_A (wX7_add cI cJ cS a_o a_kinds a_others a_spaces a_times v_stretchCount f_kinds f_others f_spaces f_times) sz)) 0 0 (va_A (wX7_add cI cJ cS a_o a_kinds a_others a_spaces a_times v_stretchCount f_kinds f_others f_spaces f_times) sz) := by
  refine Met.rw (Qc := fun A => (va_Qi (fun r (u : Int32 × (Nat → Int32) × (Nat → Int32) × (Nat → Int32) × (Nat → Int32)) => post r u.1 u.2.1 u.2.2.1 u.2.2.2.1 u.2.2.2.2) (fun u t => va_P D vwCl (wX7_add cI cJ cS a_o a_kinds a_others a_spaces a_times u.1 u.2.1 u.2.2.1 u.2.2.2.1 u.2.2.2.2) t.heap) A)) (by decide) (Nat.le_of_ble_eq_true rfl) (fun p e s m args below meth c ls A (S : CallFix p m c cX7_add 5 s args GW "RoadThatSings$Stretches") hE hT hP hD hA hS hr hlocks hname hl => ?_)
  have hS0 := hS
  have hx := S.1
  have hb := S.2.1
  have hl : lv_has ls 5 [(0, .ref a_o), (1, .int x1), (2, .int x2), (3, .int x3), (4, .int x4)] := hl
  unfold F_X7_add at h
  refine lv_aload_n hx hb dX7_add_0 rfl (lv_at hl 0 rfl) ?_
  refine ro_i (roV S hE hT hS (c_X7_isFull h) lkX7_34 rfl ⟨(Nat.le_of_ble_eq_true rfl), (Nat.le_of_ble_eq_true rfl)⟩ (hP.sub [0] rfl) 0 rfl rfl hl.1 rfl (Nat.le_of_ble_eq_true rfl) dX7_add_1 ⟨(Nat.zero_le _), (Nat.zero_le _)⟩) (fun r1 h => ?_)
  refine lv_if_ne (tgt := 14) hx hb dX7_add_4 (by decide) (fun hc => ?_) (fun hc => ?_)
  · have h := h.2 hc
    refine lv_iconst (v := (-1)) hx hb dX7_add_14 (by decide) ?_
    exact W.iret hx hb hr (fun t ht _ => ⟨⟨_, (v_stretchCount, f_kinds, f_others, f_spaces, f_times), rfl, h, hPt hP ht⟩, hS.F ht⟩) hS.2.2 dX7_add_15
  have h := h.1 hc
  refine lv_aload_n hx hb dX7_add_7 rfl (lv_at hl 0 rfl) ?_
  refine gf S hE hP 0 rfl rfl inX7 (k := 4) (by decide) q42 rfl dX7_add_8 ?_
  refine lv_if_ge (tgt := 16) hx hb dX7_add_11 (by decide) (fun hc => ?_) (fun hc => ?_)
  · have h := h.1 hc
    refine lv_aload_n hx hb dX7_add_16 rfl (lv_at hl 0 rfl) ?_
    refine gf S hE hP 0 rfl rfl inX7 (k := 0) (by decide) q38 rfl dX7_add_17 ?_
    refine lv_aload_n hx hb dX7_add_20 rfl (lv_at hl 0 rfl) ?_
    refine gf S hE hP 0 rfl rfl inX7 (k := 4) (by decide) q42 rfl dX7_add_21 ?_
    refine lv_iload_n hx hb dX7_add_24 rfl (lv_at hl 1 rfl) ?_
    obtain ⟨hi, h⟩ := h
    refine ias S hE hP hD hS 1 rfl hi dX7_add_25 (fun H locs hP hD hS => ?_)
    have hP : va_P D vwCl (wX7_add cI cJ cS a_o a_kinds a_others a_spaces a_times v_stretchCount (upd f_kinds v_stretchCount.toNatClampNeg x1) f_others f_spaces f_times) H := hP
    have hD : va_D A (wX7_add cI cJ cS a_o a_kinds a_others a_spaces a_times v_stretchCount (upd f_kinds v_stretchCount.toNatClampNeg x1) f_others f_spaces f_times) := hD
    refine lv_aload_n hx hb dX7_add_26 rfl (lv_at hl 0 rfl) ?_
    refine gf S hE hP 0 rfl rfl inX7 (k := 1) (by decide) q39 rfl dX7_add_27 ?_
    refine lv_aload_n hx hb dX7_add_30 rfl (lv_at hl 0 rfl) ?_
    refine gf S hE hP 0 rfl rfl inX7 (k := 4) (by decide) q42 rfl dX7_add_31 ?_
    refine lv_iload_n hx hb dX7_add_34 rfl (lv_at hl 2 rfl) ?_
    obtain ⟨hi, h⟩ := h
    refine ias S hE hP hD hS 3 rfl hi dX7_add_35 (fun H locs hP hD hS => ?_)
    have hP : va_P D vwCl (wX7_add cI cJ cS a_o a_kinds a_others a_spaces a_times v_stretchCount (upd f_kinds v_stretchCount.toNatClampNeg x1) f_others (upd f_spaces v_stretchCount.toNatClampNeg x2) f_times) H := hP
    have hD : va_D A (wX7_add cI cJ cS a_o a_kinds a_others a_spaces a_times v_stretchCount (upd f_kinds v_stretchCount.toNatClampNeg x1) f_others (upd f_spaces v_stretchCount.toNatClampNeg x2) f_times) := hD
    refine lv_aload_n hx hb dX7_add_36 rfl (lv_at hl 0 rfl) ?_
    refine gf S hE hP 0 rfl rfl inX7 (k := 2) (by decide) q40 rfl dX7_add_37 ?_
    refine lv_aload_n hx hb dX7_add_40 rfl (lv_at hl 0 rfl) ?_
    refine gf S hE hP 0 rfl rfl inX7 (k := 4) (by decide) q42 rfl dX7_add_41 ?_
    refine lv_iload_n hx hb dX7_add_44 rfl (lv_at hl 3 rfl) ?_
    obtain ⟨hi, h⟩ := h
    refine ias S hE hP hD hS 2 rfl hi dX7_add_45 (fun H locs hP hD hS => ?_)
    have hP : va_P D vwCl (wX7_add cI cJ cS a_o a_kinds a_others a_spaces a_times v_stretchCount (upd f_kinds v_stretchCount.toNatClampNeg x1) (upd f_others v_stretchCount.toNatClampNeg x3) (upd f_spaces v_stretchCount.toNatClampNeg x2) f_times) H := hP
    have hD : va_D A (wX7_add cI cJ cS a_o a_kinds a_others a_spaces a_times v_stretchCount (upd f_kinds v_stretchCount.toNatClampNeg x1) (upd f_others v_stretchCount.toNatClampNeg x3) (upd f_spaces v_stretchCount.toNatClampNeg x2) f_times) := hD
    refine lv_aload_n hx hb dX7_add_46 rfl (lv_at hl 0 rfl) ?_
    refine gf S hE hP 0 rfl rfl inX7 (k := 3) (by decide) q41 rfl dX7_add_47 ?_
    refine lv_aload_n hx hb dX7_add_50 rfl (lv_at hl 0 rfl) ?_
    refine gf S hE hP 0 rfl rfl inX7 (k := 4) (by decide) q42 rfl dX7_add_51 ?_
    refine lv_iload hx hb dX7_add_54 (lv_at hl 4 rfl) ?_
    obtain ⟨hi, h⟩ := h
    refine ias S hE hP hD hS 4 rfl hi dX7_add_56 (fun H locs hP hD hS => ?_)
    have hP : va_P D vwCl (wX7_add cI cJ cS a_o a_kinds a_others a_spaces a_times v_stretchCount (upd f_kinds v_stretchCount.toNatClampNeg x1) (upd f_others v_stretchCount.toNatClampNeg x3) (upd f_spaces v_stretchCount.toNatClampNeg x2) (upd f_times v_stretchCount.toNatClampNeg x4)) H := hP
    have hD : va_D A (wX7_add cI cJ cS a_o a_kinds a_others a_spaces a_times v_stretchCount (upd f_kinds v_stretchCount.toNatClampNeg x1) (upd f_others v_stretchCount.toNatClampNeg x3) (upd f_spaces v_stretchCount.toNatClampNeg x2) (upd f_times v_stretchCount.toNatClampNeg x4)) := hD
    refine lv_aload_n hx hb dX7_add_57 rfl (lv_at hl 0 rfl) ?_
    refine lv_dup hx hb dX7_add_58 rfl ?_
    refine gf S hE hP 0 rfl rfl inX7 (k := 4) (by decide) q42 rfl dX7_add_59 ?_
    refine lv_iconst (v := 1) hx hb dX7_add_62 (by decide) ?_
    refine lv_iadd hx hb dX7_add_63 ?_
    refine pf S hE hP hD hS 0 (k := 4) rfl rfl inX7 tyX7_ok nmX7 (by decide) q42 rfl rfl rfl (Nat.le_of_ble_eq_true rfl) dX7_add_64 (fun H locs hP hD hS => ?_)
    have hP : va_P D vwCl (wX7_add cI cJ cS a_o a_kinds a_others a_spaces a_times (v_stretchCount + 1) (upd f_kinds v_stretchCount.toNatClampNeg x1) (upd f_others v_stretchCount.toNatClampNeg x3) (upd f_spaces v_stretchCount.toNatClampNeg x2) (upd f_times v_stretchCount.toNatClampNeg x4)) H := hP
    have hD : va_D A (wX7_add cI cJ cS a_o a_kinds a_others a_spaces a_times (v_stretchCount + 1) (upd f_kinds v_stretchCount.toNatClampNeg x1) (upd f_others v_stretchCount.toNatClampNeg x3) (upd f_spaces v_stretchCount.toNatClampNeg x2) (upd f_times v_stretchCount.toNatClampNeg x4)) := hD
    refine lv_aload_n hx hb dX7_add_67 rfl (lv_at hl 0 rfl) ?_
    refine gf S hE hP 0 rfl rfl inX7 (k := 4) (by decide) q42 rfl dX7_add_68 ?_
    refine lv_iconst (v := 1) hx hb dX7_add_71 (by decide) ?_
    refine lv_isub hx hb dX7_add_72 ?_
    exact W.iret hx hb hr (fun t ht _ => ⟨⟨_, ((v_stretchCount + 1), (upd f_kinds v_stretchCount.toNatClampNeg x1), (upd f_others v_stretchCount.toNatClampNeg x3), (upd f_spaces v_stretchCount.toNatClampNeg x2), (upd f_times v_stretchCount.toNatClampNeg x4)), rfl, h, hPt hP ht⟩, hS.F ht⟩) hS.2.2 dX7_add_73
  have h := h.2 hc
  refine lv_iconst (v := (-1)) hx hb dX7_add_14 (by decide) ?_
  exact W.iret hx hb hr (fun t ht _ => ⟨⟨_, (v_stretchCount, f_kinds, f_others, f_spaces, f_times), rfl, h, hPt hP ht⟩, hS.F ht⟩) hS.2.2 dX7_add_15
/-! X4_readCar -/
abbrev wX4_readCar (cI cJ cS : ClassId) (a_o a_text a_text_elements a_told a_told_cars a_told_cars_bases a_told_cars_shares a_told_cars_speeds : Nat) (z_told_stretches z_told_tunes z_told_demands : Value) (v_at : Int32) (v_faultAt : Int32) (v_text_held : Int32) (v_text_sort : Int32) (v_text_elementCount : Int32) (v_text_stretchNumber : Int32) (g_text_elements : Nat → Int64) (v_told_drawSeed : Int32) (v_told_cars_carCount : Int32) (f_told_cars_bases : Nat → Int32) (f_told_cars_shares : Nat → Int32) (f_told_cars_speeds : Nat → Int32) : va_W := [(a_o, .inr (3, [.ref a_text, .ref a_told, .int v_at, .int v_faultAt])), (a_text, .inr (5, [.ref a_text_elements, .int v_text_held, .int v_text_sort, .int v_text_elementCount, .int v_text_stretchNumber])), (a_text_elements, .inl (cJ, 160, .inr (.inl g_text_elements))), (a_told, .inr (4, [z_told_stretches, .ref a_told_cars, z_told_tunes, z_told_demands, .int v_told_drawSeed])), (a_told_cars, .inr (1, [.ref a_told_cars_speeds, .ref a_told_cars_bases, .ref a_told_cars_shares, .int v_told_cars_carCount])), (a_told_cars_bases, .inl (cI, 6, .inl f_told_cars_bases)), (a_told_cars_shares, .inl (cI, 6, .inl f_told_cars_shares)), (a_told_cars_speeds, .inl (cI, 6, .inl f_told_cars_speeds))]
def F_X4_readCar_55 (post : Int32 → Int32 → Int32 → Int32 → (Nat → Int32) → (Nat → Int32) → (Nat → Int32) → Prop) (x1 : Int32) (x2 : Int32) (v_at : Int32) (v_faultAt : Int32) (v_told_cars_carCount : Int32) (f_told_cars_bases : Nat → Int32) (f_told_cars_shares : Nat → Int32) (f_told_cars_speeds : Nat → Int32) (s0 : Int32) : Prop := ((s0 = (-1) → post 0 v_at v_faultAt v_told_cars_carCount f_told_cars_bases f_told_cars_shares f_told_cars_speeds) ∧ (¬ s0 = (-1) → (F_X1_add v_told_cars_carCount f_told_cars_bases f_told_cars_shares f_told_cars_speeds x1 x2 s0 (fun r74 w74_0 w74_1 w74_2 w74_3 => ((r74 = (-1) → post 0 v_at v_faultAt w74_0 w74_1 w74_2 w74_3) ∧ (¬ r74 = (-1) → post 1 v_at v_faultAt w74_0 w74_1 w74_2 w74_3))))))
def F_X4_readCar_25 (v_text_elementCount : Int32) (g_text_elements : Nat → Int64) (post : Int32 → Int32 → Int32 → Int32 → (Nat → Int32) → (Nat → Int32) → (Nat → Int32) → Prop) (x1 : Int32) (v_at : Int32) (v_faultAt : Int32) (v_told_cars_carCount : Int32) (f_told_cars_bases : Nat → Int32) (f_told_cars_shares : Nat → Int32) (f_told_cars_speeds : Nat → Int32) (s0 : Int32) : Prop := (F_X1_shareOfAll v_told_cars_carCount f_told_cars_shares (fun r35 => (∀ x3_39 : Int32, x3_39 = 100 - r35 → ((s0 = (-1) → F_X4_readCar_55 post x1 s0 v_at v_faultAt v_told_cars_carCount f_told_cars_bases f_told_cars_shares f_told_cars_speeds (-1)) ∧ (¬ s0 = (-1) → (F_X4_readNumber v_at v_faultAt v_text_elementCount g_text_elements 0 x3_39 (fun r52 w52_0 w52_1 => F_X4_readCar_55 post x1 s0 w52_0 w52_1 v_told_cars_carCount f_told_cars_bases f_told_cars_shares f_told_cars_speeds r52)))))))
def F_X4_readCar (v_at : Int32) (v_faultAt : Int32) (v_text_elementCount : Int32) (g_text_elements : Nat → Int64) (v_told_cars_carCount : Int32) (f_told_cars_bases : Nat → Int32) (f_told_cars_shares : Nat → Int32) (f_told_cars_speeds : Nat → Int32) (post : Int32 → Int32 → Int32 → Int32 → (Nat → Int32) → (Nat → Int32) → (Nat → Int32) → Prop) : Prop := (F_X4_readNumber v_at v_faultAt v_text_elementCount g_text_elements 1 99 (fun r4 w4_0 w4_1 => ((r4 = (-1) → F_X4_readCar_25 v_text_elementCount g_text_elements post r4 w4_0 w4_1 v_told_cars_carCount f_told_cars_bases f_told_cars_shares f_told_cars_speeds (-1)) ∧ (¬ r4 = (-1) → (F_X4_readNumber w4_0 w4_1 v_text_elementCount g_text_elements 0 999 (fun r22 w22_0 w22_1 => F_X4_readCar_25 v_text_elementCount g_text_elements post r4 w22_0 w22_1 v_told_cars_carCount f_told_cars_bases f_told_cars_shares f_told_cars_speeds r22))))))
set_option maxHeartbeats 4000000 in
set_option maxRecDepth 100000 in
theorem w_X4_readCar_55 {l : Launch} {D : va_G} {cI cJ cS : ClassId} {ad adK : Nat → Nat} {a_o a_text a_text_elements a_told a_told_cars a_told_cars_bases a_told_cars_shares a_told_cars_speeds : Nat} {z_told_stretches z_told_tunes z_told_demands : Value} {v_at : Int32} {v_faultAt : Int32} {v_text_held : Int32} {v_text_sort : Int32} {v_text_elementCount : Int32} {v_text_stretchNumber : Int32} {g_text_elements : Nat → Int64} {v_told_drawSeed : Int32} {v_told_cars_carCount : Int32} {f_told_cars_bases : Nat → Int32} {f_told_cars_shares : Nat → Int32} {f_told_cars_speeds : Nat → Int32} {x1 : Int32} {x2 : Int32} {s0 : Int32} {post : Int32 → Int32 → Int32 → Int32 → (Nat → Int32) → (Nat → Int32) → (Nat → Int32) → Prop} {p : Program} {e : Env} {s : State} {m : MethodId} {args : Array Value} {below : List Frame} {meth : Method} {c : Code} {A : Nat → Prop} (S : CallFix p m c cX4_readCar 5 s args GW "RoadThatSings$Reader") (hE : EN D cI cJ cS s) (hT : ST ad adK A s s.heap) (hA : ∀ q : Nat, s.heap.size ≤ q → A q) (hr : meth.sig.returnType = (some (.boolean))) (hlocks : meth.locks = false) : ∀ (H : Heap) (locs : List Loc) (ls : Array Slot), F_X4_readCar_55 post x1 x2 v_at v_faultAt v_told_cars_carCount f_told_cars_bases f_told_cars_shares f_told_cars_speeds s0 → va_P D vwCl (wX4_readCar cI cJ cS a_o a_text a_text_elements a_told a_told_cars a_told_cars_bases a_told_cars_shares a_told_cars_speeds z_told_stretches z_told_tunes z_told_demands v_at v_faultAt v_text_held v_text_sort v_text_elementCount v_text_stretchNumber g_text_elements v_told_drawSeed v_told_cars_carCount f_told_cars_bases f_told_cars_shares f_told_cars_speeds) H → va_D A (wX4_readCar cI cJ cS a_o a_text a_text_elements a_told a_told_cars a_told_cars_bases a_told_cars_shares a_told_cars_speeds z_told_stretches z_told_tunes z_told_demands v_at v_faultAt v_text_held v_text_sort v_text_elementCount v_text_stretchNumber g_text_elements v_told_drawSeed v_told_cars_carCount f_told_cars_bases f_told_cars_shares f_told_cars_speeds) → va_S A s.heap H locs → lv_has ls 5 [(0, .ref a_o), (1, .int x1), (2, .int x2)] → W p l e (rmd 3 0 0) s m args below meth c H locs 0 0 (MQ below (va_Qi (fun r (u : Int32 × Int32 × Int32 × (Nat → Int32) × (Nat → Int32) × (Nat → Int32)) => post r u.1 u.2.1 u.2.2.1 u.2.2.2.1 u.2.2.2.2.1 u.2.2.2.2.2) (fun u t => va_P D vwCl (wX4_readCar cI cJ cS a_o a_text a_text_elements a_told a_told_cars a_told_cars_bases a_told_cars_shares a_told_cars_speeds z_told_stretches z_told_tunes z_told_demands u.1 u.2.1 v_text_held v_text_sort v_text_elementCount v_text_stretchNumber g_text_elements v_told_drawSeed u.2.2.1 u.2.2.2.1 u.2.2.2.2.1 u.2.2.2.2.2) t.heap) A) args s 0 0 A) (F0 m 55 ls [.int s0]) := by
  intro  H locs ls h hP hD hS hl
  unfold F_X4_readCar_55 at h
  have hx := S.1
  have hb := S.2.1
  refine lv_istore (lv' := [(4, .int s0), (0, .ref a_o), (1, .int x1), (2, .int x2)]) hx hb dX4_readCar_55 hl (by decide) rfl (fun ls hl => ?_)
  refine lv_iload hx hb dX4_readCar_57 (lv_at hl 0 rfl) ?_
  refine lv_iconst (v := (-1)) hx hb dX4_readCar_59 (by decide) ?_
  refine lv_icmp_eq (tgt := 85) hx hb dX4_readCar_60 (by decide) (fun hc => ?_) (fun hc => ?_)
  · have h := h.1 hc
    refine lv_iconst (v := 0) hx hb dX4_readCar_85 (by decide) ?_
    exact W.zret hx hb hr rfl (fun t ht _ => ⟨⟨_, (v_at, v_faultAt, v_told_cars_carCount, f_told_cars_bases, f_told_cars_shares, f_told_cars_speeds), rfl, h, hPt hP ht⟩, hS.F ht⟩) hS.2.2 dX4_readCar_86
  have h := h.2 hc
  refine lv_aload_n hx hb dX4_readCar_63 rfl (lv_at hl 1 rfl) ?_
  refine gf S hE hP 0 rfl rfl inX4 (k := 1) (by decide) q575 rfl dX4_readCar_64 ?_
  refine gfN S hE hP 3 rfl rfl inX5 (k := 1) (by decide) nfX4_113 rfl dX4_readCar_67 ?_
  refine lv_iload_n hx hb dX4_readCar_70 rfl (lv_at hl 2 rfl) ?_
  refine lv_iload_n hx hb dX4_readCar_71 rfl (lv_at hl 3 rfl) ?_
  refine lv_iload hx hb dX4_readCar_72 (lv_at hl 0 rfl) ?_
  refine rw_i (rwV S hE hT hS hP hD hA (c_X1_add h) [4, 5, 6, 7] rfl (by decide) lkX4_138 rfl ⟨(Nat.le_of_ble_eq_true rfl), (Nat.le_of_ble_eq_true rfl)⟩ 4 rfl rfl hl.1 rfl (Nat.le_of_ble_eq_true rfl) dX4_readCar_74 ⟨(Nat.zero_le _), (Nat.zero_le _)⟩) hP hD hS hA [4, 5, 6, 7] rfl (by decide) (fun _ => rfl) (fun r74 u74 H locs h hP hD hS => ?_)
  obtain ⟨w74_0, w74_1, w74_2, w74_3⟩ := u74
  try dsimp only at h
  have hP : va_P D vwCl (wX4_readCar cI cJ cS a_o a_text a_text_elements a_told a_told_cars a_told_cars_bases a_told_cars_shares a_told_cars_speeds z_told_stretches z_told_tunes z_told_demands v_at v_faultAt v_text_held v_text_sort v_text_elementCount v_text_stretchNumber g_text_elements v_told_drawSeed w74_0 w74_1 w74_2 w74_3) H := hP
  have hD : va_D A (wX4_readCar cI cJ cS a_o a_text a_text_elements a_told a_told_cars a_told_cars_bases a_told_cars_shares a_told_cars_speeds z_told_stretches z_told_tunes z_told_demands v_at v_faultAt v_text_held v_text_sort v_text_elementCount v_text_stretchNumber g_text_elements v_told_drawSeed w74_0 w74_1 w74_2 w74_3) := hD
  refine lv_iconst (v := (-1)) hx hb dX4_readCar_77 (by decide) ?_
  refine lv_icmp_eq (tgt := 85) hx hb dX4_readCar_78 (by decide) (fun hc => ?_) (fun hc => ?_)
  · have h := h.1 hc
    refine lv_iconst (v := 0) hx hb dX4_readCar_85 (by decide) ?_
    exact W.zret hx hb hr rfl (fun t ht _ => ⟨⟨_, (v_at, v_faultAt, w74_0, w74_1, w74_2, w74_3), rfl, h, hPt hP ht⟩, hS.F ht⟩) hS.2.2 dX4_readCar_86
  have h := h.2 hc
  refine lv_iconst (v := 1) hx hb dX4_readCar_81 (by decide) ?_
  refine lv_goto (tgt := 86) hx hb dX4_readCar_82 (by decide) ?_
  exact W.zret hx hb hr rfl (fun t ht _ => ⟨⟨_, (v_at, v_faultAt, w74_0, w74_1, w74_2, w74_3), rfl, h, hPt hP ht⟩, hS.F ht⟩) hS.2.2 dX4_readCar_86
set_option maxHeartbeats 4000000 in
set_option maxRecDepth 100000 in
theorem w_X4_readCar_25 {l : Launch} {D : va_G} {cI cJ cS : ClassId} {ad adK : Nat → Nat} {a_o a_text a_text_elements a_told a_told_cars a_told_cars_bases a_told_cars_shares a_told_cars_speeds : Nat} {z_told_stretches z_told_tunes z_told_demands : Value} {v_at : Int32} {v_faultAt : Int32} {v_text_held : Int32} {v_text_sort : Int32} {v_text_elementCount : Int32} {v_text_stretchNumber : Int32} {g_text_elements : Nat → Int64} {v_told_drawSeed : Int32} {v_told_cars_carCount : Int32} {f_told_cars_bases : Nat → Int32} {f_told_cars_shares : Nat → Int32} {f_told_cars_speeds : Nat → Int32} {x1 : Int32} {s0 : Int32} {post : Int32 → Int32 → Int32 → Int32 → (Nat → Int32) → (Nat → Int32) → (Nat → Int32) → Prop} {p : Program} {e : Env} {s : State} {m : MethodId} {args : Array Value} {below : List Frame} {meth : Method} {c : Code} {A : Nat → Prop} (S : CallFix p m c cX4_readCar 5 s args GW "RoadThatSings$Reader") (hE : EN D cI cJ cS s) (hT : ST ad adK A s s.heap) (hA : ∀ q : Nat, s.heap.size ≤ q → A q) (hr : meth.sig.returnType = (some (.boolean))) (hlocks : meth.locks = false) : ∀ (H : Heap) (locs : List Loc) (ls : Array Slot), F_X4_readCar_25 v_text_elementCount g_text_elements post x1 v_at v_faultAt v_told_cars_carCount f_told_cars_bases f_told_cars_shares f_told_cars_speeds s0 → va_P D vwCl (wX4_readCar cI cJ cS a_o a_text a_text_elements a_told a_told_cars a_told_cars_bases a_told_cars_shares a_told_cars_speeds z_told_stretches z_told_tunes z_told_demands v_at v_faultAt v_text_held v_text_sort v_text_elementCount v_text_stretchNumber g_text_elements v_told_drawSeed v_told_cars_carCount f_told_cars_bases f_told_cars_shares f_told_cars_speeds) H → va_D A (wX4_readCar cI cJ cS a_o a_text a_text_elements a_told a_told_cars a_told_cars_bases a_told_cars_shares a_told_cars_speeds z_told_stretches z_told_tunes z_told_demands v_at v_faultAt v_text_held v_text_sort v_text_elementCount v_text_stretchNumber g_text_elements v_told_drawSeed v_told_cars_carCount f_told_cars_bases f_told_cars_shares f_told_cars_speeds) → va_S A s.heap H locs → lv_has ls 5 [(0, .ref a_o), (1, .int x1)] → W p l e (rmd 3 0 0) s m args below meth c H locs 0 0 (MQ below (va_Qi (fun r (u : Int32 × Int32 × Int32 × (Nat → Int32) × (Nat → Int32) × (Nat → Int32)) => post r u.1 u.2.1 u.2.2.1 u.2.2.2.1 u.2.2.2.2.1 u.2.2.2.2.2) (fun u t => va_P D vwCl (wX4_readCar cI cJ cS a_o a_text a_text_elements a_told a_told_cars a_told_cars_bases a_told_cars_shares a_told_cars_speeds z_told_stretches z_told_tunes z_told_demands u.1 u.2.1 v_text_held v_text_sort v_text_elementCount v_text_stretchNumber g_text_elements v_told_drawSeed u.2.2.1 u.2.2.2.1 u.2.2.2.2.1 u.2.2.2.2.2) t.heap) A) args s 0 0 A) (F0 m 25 ls [.int s0]) := by
  intro  H locs ls h hP hD hS hl
  unfold F_X4_readCar_25 at h
  have hx := S.1
  have hb := S.2.1
  refine lv_istore_n (lv' := [(2, .int s0), (0, .ref a_o), (1, .int x1)]) hx hb dX4_readCar_25 rfl hl (by decide) rfl (fun ls hl => ?_)
  refine lv_bipush (v := 100) hx hb dX4_readCar_26 (by decide) ?_
  refine lv_aload_n hx hb dX4_readCar_28 rfl (lv_at hl 1 rfl) ?_
  refine gf S hE hP 0 rfl rfl inX4 (k := 1) (by decide) q575 rfl dX4_readCar_29 ?_
  refine gfN S hE hP 3 rfl rfl inX5 (k := 1) (by decide) nfX4_113 rfl dX4_readCar_32 ?_
  refine ro_i (roV S hE hT hS (c_X1_shareOfAll h) lkX4_135 rfl ⟨(Nat.le_of_ble_eq_true rfl), (Nat.le_of_ble_eq_true rfl)⟩ (hP.sub [4, 6] rfl) 0 rfl rfl hl.1 rfl (Nat.le_of_ble_eq_true rfl) dX4_readCar_35 ⟨(Nat.zero_le _), (Nat.zero_le _)⟩) (fun r35 h => ?_)
  refine lv_isub hx hb dX4_readCar_38 ?_
  refine lv_topi (fun x3_39 ex3_39 => ?_)
  have h := h _ ex3_39
  refine lv_istore_n (lv' := [(3, .int x3_39), (2, .int s0), (0, .ref a_o), (1, .int x1)]) hx hb dX4_readCar_39 rfl hl (by decide) rfl (fun ls hl => ?_)
  refine lv_iload_n hx hb dX4_readCar_40 rfl (lv_at hl 1 rfl) ?_
  refine lv_iconst (v := (-1)) hx hb dX4_readCar_41 (by decide) ?_
  refine lv_icmp_ne (tgt := 49) hx hb dX4_readCar_42 (by decide) (fun hc => ?_) (fun hc => ?_)
  · have h := h.2 hc
    refine lv_aload_n hx hb dX4_readCar_49 rfl (lv_at hl 2 rfl) ?_
    refine lv_iconst (v := 0) hx hb dX4_readCar_50 (by decide) ?_
    refine lv_iload_n hx hb dX4_readCar_51 rfl (lv_at hl 0 rfl) ?_
    refine rw_i (rwV S hE hT hS hP hD hA (c_X4_readNumber h) [0, 1, 2] rfl (by decide) lkX4_124 rfl ⟨(Nat.le_of_ble_eq_true rfl), (Nat.le_of_ble_eq_true rfl)⟩ 0 rfl rfl hl.1 rfl (Nat.le_of_ble_eq_true rfl) dX4_readCar_52 ⟨(Nat.zero_le _), (Nat.zero_le _)⟩) hP hD hS hA [0, 1, 2] rfl (by decide) (fun _ => rfl) (fun r52 u52 H locs h hP hD hS => ?_)
    obtain ⟨w52_0, w52_1⟩ := u52
    try dsimp only at h
    have hP : va_P D vwCl (wX4_readCar cI cJ cS a_o a_text a_text_elements a_told a_told_cars a_told_cars_bases a_told_cars_shares a_told_cars_speeds z_told_stretches z_told_tunes z_told_demands w52_0 w52_1 v_text_held v_text_sort v_text_elementCount v_text_stretchNumber g_text_elements v_told_drawSeed v_told_cars_carCount f_told_cars_bases f_told_cars_shares f_told_cars_speeds) H := hP
    have hD : va_D A (wX4_readCar cI cJ cS a_o a_text a_text_elements a_told a_told_cars a_told_cars_bases a_told_cars_shares a_told_cars_speeds z_told_stretches z_told_tunes z_told_demands w52_0 w52_1 v_text_held v_text_sort v_text_elementCount v_text_stretchNumber g_text_elements v_told_drawSeed v_told_cars_carCount f_told_cars_bases f_told_cars_shares f_told_cars_speeds) := hD
    refine w_X4_readCar_55 S hE hT hA hr hlocks _ _ _ h hP hD hS (lv_sub hl [2, 3, 1] rfl)
  have h := h.1 hc
  refine lv_iconst (v := (-1)) hx hb dX4_readCar_45 (by decide) ?_
  refine lv_goto (tgt := 55) hx hb dX4_readCar_46 (by decide) ?_
  refine w_X4_readCar_55 S hE hT hA hr hlocks _ _ _ h hP hD hS (lv_sub hl [2, 3, 1] rfl)
set_option maxHeartbeats 4000000 in
set_option maxRecDepth 100000 in
theorem c_X4_readCar {l : Launch} {D : va_G} {cI cJ cS : ClassId} {ad adK : Nat → Nat} {a_o a_text a_text_elements a_told a_told_cars a_told_cars_bases a_told_cars_shares a_told_cars_speeds : Nat} {z_told_stretches z_told_tunes z_told_demands : Value} {v_at : Int32} {v_faultAt : Int32} {v_text_held : Int32} {v_text_sort : Int32} {v_text_elementCount : Int32} {v_text_stretchNumber : Int32} {g_text_elements : Nat → Int64} {v_told_drawSeed : Int32} {v_told_cars_carCount : Int32} {f_told_cars_bases : Nat → Int32} {f_told_cars_shares : Nat → Int32} {f_told_cars_speeds : Nat → Int32} {post : Int32 → Int32 → Int32 → Int32 → (Nat → Int32) → (Nat → Int32) → (Nat → Int32) → Prop} (h : F_X4_readCar v_at v_faultAt v_text_elementCount g_text_elements v_told_cars_carCount f_told_cars_bases f_told_cars_shares f_told_cars_speeds post) {sz : Nat} : Met l yX4_readCar (Cond.code yX4_readCar cX4_readCar 5 (some (.boolean)) :: GW) (rmd 3 0 0) (PW D cI cJ cS ad adK [.ref a_o] (wX4_readCar cI cJ cS a_o a_text a_text_elements a_told a_told_cars a_told_cars_bases a_told_cars_shares a_told_cars_speeds z_told_stretches z_told_tunes z_told_demands v_at v_faultAt v_text_held v_text_sort v_text_elementCount v_text_stretchNumber g_text_elements v_told_drawSeed v_told_cars_carCount f_told_cars_bases f_told_cars_shares f_told_cars_speeds) sz) (va_Qi (fun r (u : Int32 × Int32 × Int32 × (Nat → Int32) × (Nat → Int32) × (Nat → Int32)) => post r u.1 u.2.1 u.2.2.1 u.2.2.2.1 u.2.2.2.2.1 u.2.2.2.2.2) (fun u t => va_P D vwCl (wX4_readCar cI cJ cS a_o a_text a_text_elements a_told a_told_cars a_told_cars_bases a_told_cars_shares a_told_cars_speeds z_told_stretches z_told_tunes z_told_demands u.1 u.2.1 v_text_held v_text_sort v_text_elementCount v_text_stretchNumber g_text_elements v_told_drawSeed u.2.2.1 u.2.2.2.1 u.2.2.2.2.1 u.2.2.2.2.2) t.heap) (va_A (wX4_readCar cI cJ cS a_o a_text a_text_elements a_told a_told_cars a_told_cars_bases a_told_cars_shares a_told_cars_speeds z_told_stretches z_told_tunes z_told_demands v_at v_faultAt v_text_held v_text_sort v_text_elementCount v_text_stretchNumber g_text_elements v_told_drawSeed v_told_cars_carCount f_told_cars_bases f_told_cars_shares f_told_cars_speeds) sz)) 0 0 (va_A (wX4_readCar cI cJ cS a_o a_text a_text_elements a_told a_told_cars a_told_cars_bases a_told_cars_shares a_told_cars_speeds z_told_stretches z_told_tunes z_told_demands v_at v_faultAt v_text_held v_text_sort v_text_elementCount v_text_stretchNumber g_text_elements v_told_drawSeed v_told_cars_carCount f_told_cars_bases f_told_cars_shares f_told_cars_speeds) sz) := by
  refine Met.rw (Qc := fun A => (va_Qi (fun r (u : Int32 × Int32 × Int32 × (Nat → Int32) × (Nat → Int32) × (Nat → Int32)) => post r u.1 u.2.1 u.2.2.1 u.2.2.2.1 u.2.2.2.2.1 u.2.2.2.2.2) (fun u t => va_P D vwCl (wX4_readCar cI cJ cS a_o a_text a_text_elements a_told a_told_cars a_told_cars_bases a_told_cars_shares a_told_cars_speeds z_told_stretches z_told_tunes z_told_demands u.1 u.2.1 v_text_held v_text_sort v_text_elementCount v_text_stretchNumber g_text_elements v_told_drawSeed u.2.2.1 u.2.2.2.1 u.2.2.2.2.1 u.2.2.2.2.2) t.heap) A)) (by decide) (Nat.le_of_ble_eq_true rfl) (fun p e s m args below meth c ls A (S : CallFix p m c cX4_readCar 5 s args GW "RoadThatSings$Reader") hE hT hP hD hA hS hr hlocks hname hl => ?_)
  have hS0 := hS
  have hx := S.1
  have hb := S.2.1
  have hl : lv_has ls 5 [(0, .ref a_o)] := hl
  unfold F_X4_readCar at h
  refine lv_aload_n hx hb dX4_readCar_0 rfl (lv_at hl 0 rfl) ?_
  refine lv_iconst (v := 1) hx hb dX4_readCar_1 (by decide) ?_
  refine lv_bipush (v := 99) hx hb dX4_readCar_2 (by decide) ?_
  refine rw_i (rwV S hE hT hS hP hD hA (c_X4_readNumber h) [0, 1, 2] rfl (by decide) lkX4_124 rfl ⟨(Nat.le_of_ble_eq_true rfl), (Nat.le_of_ble_eq_true rfl)⟩ 0 rfl rfl hl.1 rfl (Nat.le_of_ble_eq_true rfl) dX4_readCar_4 ⟨(Nat.zero_le _), (Nat.zero_le _)⟩) hP hD hS hA [0, 1, 2] rfl (by decide) (fun _ => rfl) (fun r4 u4 H locs h hP hD hS => ?_)
  obtain ⟨w4_0, w4_1⟩ := u4
  try dsimp only at h
  have hP : va_P D vwCl (wX4_readCar cI cJ cS a_o a_text a_text_elements a_told a_told_cars a_told_cars_bases a_told_cars_shares a_told_cars_speeds z_told_stretches z_told_tunes z_told_demands w4_0 w4_1 v_text_held v_text_sort v_text_elementCount v_text_stretchNumber g_text_elements v_told_drawSeed v_told_cars_carCount f_told_cars_bases f_told_cars_shares f_told_cars_speeds) H := hP
  have hD : va_D A (wX4_readCar cI cJ cS a_o a_text a_text_elements a_told a_told_cars a_told_cars_bases a_told_cars_shares a_told_cars_speeds z_told_stretches z_told_tunes z_told_demands w4_0 w4_1 v_text_held v_text_sort v_text_elementCount v_text_stretchNumber g_text_elements v_told_drawSeed v_told_cars_carCount f_told_cars_bases f_told_cars_shares f_told_cars_speeds) := hD
  refine lv_istore_n (lv' := [(1, .int r4), (0, .ref a_o)]) hx hb dX4_readCar_7 rfl hl (by decide) rfl (fun ls hl => ?_)
  refine lv_iload_n hx hb dX4_readCar_8 rfl (lv_at hl 0 rfl) ?_
  refine lv_iconst (v := (-1)) hx hb dX4_readCar_9 (by decide) ?_
  refine lv_icmp_ne (tgt := 17) hx hb dX4_readCar_10 (by decide) (fun hc => ?_) (fun hc => ?_)
  · have h := h.2 hc
    refine lv_aload_n hx hb dX4_readCar_17 rfl (lv_at hl 1 rfl) ?_
    refine lv_iconst (v := 0) hx hb dX4_readCar_18 (by decide) ?_
    refine lv_sipush (v := 999) hx hb dX4_readCar_19 (by decide) ?_
    refine rw_i (rwV S hE hT hS hP hD hA (c_X4_readNumber h) [0, 1, 2] rfl (by decide) lkX4_124 rfl ⟨(Nat.le_of_ble_eq_true rfl), (Nat.le_of_ble_eq_true rfl)⟩ 0 rfl rfl hl.1 rfl (Nat.le_of_ble_eq_true rfl) dX4_readCar_22 ⟨(Nat.zero_le _), (Nat.zero_le _)⟩) hP hD hS hA [0, 1, 2] rfl (by decide) (fun _ => rfl) (fun r22 u22 H locs h hP hD hS => ?_)
    obtain ⟨w22_0, w22_1⟩ := u22
    try dsimp only at h
    have hP : va_P D vwCl (wX4_readCar cI cJ cS a_o a_text a_text_elements a_told a_told_cars a_told_cars_bases a_told_cars_shares a_told_cars_speeds z_told_stretches z_told_tunes z_told_demands w22_0 w22_1 v_text_held v_text_sort v_text_elementCount v_text_stretchNumber g_text_elements v_told_drawSeed v_told_cars_carCount f_told_cars_bases f_told_cars_shares f_told_cars_speeds) H := hP
    have hD : va_D A (wX4_readCar cI cJ cS a_o a_text a_text_elements a_told a_told_cars a_told_cars_bases a_told_cars_shares a_told_cars_speeds z_told_stretches z_told_tunes z_told_demands w22_0 w22_1 v_text_held v_text_sort v_text_elementCount v_text_stretchNumber g_text_elements v_told_drawSeed v_told_cars_carCount f_told_cars_bases f_told_cars_shares f_told_cars_speeds) := hD
    refine w_X4_readCar_25 S hE hT hA hr hlocks _ _ _ h hP hD hS (lv_sub hl [1, 0] rfl)
  have h := h.1 hc
  refine lv_iconst (v := (-1)) hx hb dX4_readCar_13 (by decide) ?_
  refine lv_goto (tgt := 25) hx hb dX4_readCar_14 (by decide) ?_
  refine w_X4_readCar_25 S hE hT hA hr hlocks _ _ _ h hP hD hS (lv_sub hl [1, 0] rfl)
/-! X8_begin -/
abbrev wX8_begin (cI cJ cS : ClassId) (a_o a_noteCounts : Nat) (z_pitches z_beats : Value) (v_tuneCount : Int32) (f_noteCounts : Nat → Int32) : va_W := [(a_o, .inr (7, [z_pitches, z_beats, .ref a_noteCounts, .int v_tuneCount])), (a_noteCounts, .inl (cI, 6, .inl f_noteCounts))]
def F_X8_begin (v_tuneCount : Int32) (f_noteCounts : Nat → Int32) (post : Int32 → Int32 → (Nat → Int32) → Prop) : Prop := (F_X8_isFull v_tuneCount (fun r1 => ((r1 = 0 → ((0 ≤ v_tuneCount → (vp_in v_tuneCount 6 ∧ post ((v_tuneCount + 1) - 1) (v_tuneCount + 1) (upd f_noteCounts v_tuneCount.toNatClampNeg 0))) ∧ (¬ 0 ≤ v_tuneCount → post (-1) v_tuneCount f_noteCounts))) ∧ (¬ r1 = 0 → post (-1) v_tuneCount f_noteCounts))))
set_option maxHeartbeats 4000000 in
set_option maxRecDepth 100000 in
theorem c_X8_begin {l : Launch} {D : va_G} {cI cJ cS : ClassId} {ad adK : Nat → Nat} {a_o a_noteCounts : Nat} {z_pitches z_beats : Value} {v_tuneCount : Int32} {f_noteCounts : Nat → Int32} {post : Int32 → Int32 → (Nat → Int32) → Prop} (h : F_X8_begin v_tuneCount f_noteCounts post) {sz : Nat} : Met l yX8_begin (Cond.code yX8_begin cX8_begin 1 (some (.int)) :: GW) (rmd 1 0 0) (PW D cI cJ cS ad adK [.ref a_o] (wX8_begin cI cJ cS a_o a_noteCounts z_pitches z_beats v_tuneCount f_noteCounts) sz) (va_Qi (fun r (u : Int32 × (Nat → Int32)) => post r u.1 u.2) (fun u t => va_P D vwCl (wX8_begin cI cJ cS a_o a_noteCounts z_pitches z_beats u.1 u.2) t.heap) (va_A (wX8_begin cI cJ cS a_o a_noteCounts z_pitches z_beats v_tuneCount f_noteCounts) sz)) 0 0 (va_A (wX8_begin cI cJ cS a_o a_noteCounts z_pitches z_beats v_tuneCount f_noteCounts) sz) := by
  refine Met.rw (Qc := fun A => (va_Qi (fun r (u : Int32 × (Nat → Int32)) => post r u.1 u.2) (fun u t => va_P D vwCl (wX8_begin cI cJ cS a_o a_noteCounts z_pitches z_beats u.1 u.2) t.heap) A)) (by decide) (Nat.le_of_ble_eq_true rfl) (fun p e s m args below meth c ls A (S : CallFix p m c cX8_begin 1 s args GW "RoadThatSings$Tunes") hE hT hP hD hA hS hr hlocks hname hl => ?_)
  have hS0 := hS
  have hx := S.1
  have hb := S.2.1
  have hl : lv_has ls 1 [(0, .ref a_o)] := hl
  unfold F_X8_begin at h
  refine lv_aload_n hx hb dX8_begin_0 rfl (lv_at hl 0 rfl) ?_
  refine ro_i (roV S hE hT hS (c_X8_isFull h) lkX8_35 rfl ⟨(Nat.le_of_ble_eq_true rfl), (Nat.le_of_ble_eq_true rfl)⟩ (hP.sub [0] rfl) 0 rfl rfl hl.1 rfl (Nat.le_of_ble_eq_true rfl) dX8_begin_1 ⟨(Nat.zero_le _), (Nat.zero_le _)⟩) (fun r1 h => ?_)
  refine lv_if_ne (tgt := 14) hx hb dX8_begin_4 (by decide) (fun hc => ?_) (fun hc => ?_)
  · have h := h.2 hc
    refine lv_iconst (v := (-1)) hx hb dX8_begin_14 (by decide) ?_
    exact W.iret hx hb hr (fun t ht _ => ⟨⟨_, (v_tuneCount, f_noteCounts), rfl, h, hPt hP ht⟩, hS.F ht⟩) hS.2.2 dX8_begin_15
  have h := h.1 hc
  refine lv_aload_n hx hb dX8_begin_7 rfl (lv_at hl 0 rfl) ?_
  refine gf S hE hP 0 rfl rfl inX8 (k := 3) (by decide) q83 rfl dX8_begin_8 ?_
  refine lv_if_ge (tgt := 16) hx hb dX8_begin_11 (by decide) (fun hc => ?_) (fun hc => ?_)
  · have h := h.1 hc
    refine lv_aload_n hx hb dX8_begin_16 rfl (lv_at hl 0 rfl) ?_
    refine gf S hE hP 0 rfl rfl inX8 (k := 2) (by decide) q82 rfl dX8_begin_17 ?_
    refine lv_aload_n hx hb dX8_begin_20 rfl (lv_at hl 0 rfl) ?_
    refine gf S hE hP 0 rfl rfl inX8 (k := 3) (by decide) q83 rfl dX8_begin_21 ?_
    refine lv_iconst (v := 0) hx hb dX8_begin_24 (by decide) ?_
    obtain ⟨hi, h⟩ := h
    refine ias S hE hP hD hS 1 rfl hi dX8_begin_25 (fun H locs hP hD hS => ?_)
    have hP : va_P D vwCl (wX8_begin cI cJ cS a_o a_noteCounts z_pitches z_beats v_tuneCount (upd f_noteCounts v_tuneCount.toNatClampNeg 0)) H := hP
    have hD : va_D A (wX8_begin cI cJ cS a_o a_noteCounts z_pitches z_beats v_tuneCount (upd f_noteCounts v_tuneCount.toNatClampNeg 0)) := hD
    refine lv_aload_n hx hb dX8_begin_26 rfl (lv_at hl 0 rfl) ?_
    refine lv_dup hx hb dX8_begin_27 rfl ?_
    refine gf S hE hP 0 rfl rfl inX8 (k := 3) (by decide) q83 rfl dX8_begin_28 ?_
    refine lv_iconst (v := 1) hx hb dX8_begin_31 (by decide) ?_
    refine lv_iadd hx hb dX8_begin_32 ?_
    refine pf S hE hP hD hS 0 (k := 3) rfl rfl inX8 tyX8_ok nmX8 (by decide) q83 rfl rfl rfl (Nat.le_of_ble_eq_true rfl) dX8_begin_33 (fun H locs hP hD hS => ?_)
    have hP : va_P D vwCl (wX8_begin cI cJ cS a_o a_noteCounts z_pitches z_beats (v_tuneCount + 1) (upd f_noteCounts v_tuneCount.toNatClampNeg 0)) H := hP
    have hD : va_D A (wX8_begin cI cJ cS a_o a_noteCounts z_pitches z_beats (v_tuneCount + 1) (upd f_noteCounts v_tuneCount.toNatClampNeg 0)) := hD
    refine lv_aload_n hx hb dX8_begin_36 rfl (lv_at hl 0 rfl) ?_
    refine gf S hE hP 0 rfl rfl inX8 (k := 3) (by decide) q83 rfl dX8_begin_37 ?_
    refine lv_iconst (v := 1) hx hb dX8_begin_40 (by decide) ?_
    refine lv_isub hx hb dX8_begin_41 ?_
    exact W.iret hx hb hr (fun t ht _ => ⟨⟨_, ((v_tuneCount + 1), (upd f_noteCounts v_tuneCount.toNatClampNeg 0)), rfl, h, hPt hP ht⟩, hS.F ht⟩) hS.2.2 dX8_begin_42
  have h := h.2 hc
  refine lv_iconst (v := (-1)) hx hb dX8_begin_14 (by decide) ?_
  exact W.iret hx hb hr (fun t ht _ => ⟨⟨_, (v_tuneCount, f_noteCounts), rfl, h, hPt hP ht⟩, hS.F ht⟩) hS.2.2 dX8_begin_15
/-! X8_addNote -/
abbrev wX8_addNote (cI cJ cS : ClassId) (a_o a_beats a_noteCounts a_pitches : Nat) (v_tuneCount : Int32) (f_beats : Nat → Int32) (f_noteCounts : Nat → Int32) (f_pitches : Nat → Int32) : va_W := [(a_o, .inr (7, [.ref a_pitches, .ref a_beats, .ref a_noteCounts, .int v_tuneCount])), (a_beats, .inl (cI, 72, .inl f_beats)), (a_noteCounts, .inl (cI, 6, .inl f_noteCounts)), (a_pitches, .inl (cI, 72, .inl f_pitches))]
def F_X8_addNote (v_tuneCount : Int32) (f_beats : Nat → Int32) (f_noteCounts : Nat → Int32) (f_pitches : Nat → Int32) (x1 : Int32) (x2 : Int32) (post : (Nat → Int32) → (Nat → Int32) → (Nat → Int32) → Prop) : Prop := (∀ x3_6 : Int32, x3_6 = v_tuneCount - 1 → (F_X8_has v_tuneCount x3_6 (fun r9 => ((r9 = 0 → post f_beats f_noteCounts f_pitches) ∧ (¬ r9 = 0 → (vp_in x3_6 6 ∧ (((f_noteCounts x3_6.toNatClampNeg) < 0 → post f_beats f_noteCounts f_pitches) ∧ (¬ (f_noteCounts x3_6.toNatClampNeg) < 0 → (vp_in x3_6 6 ∧ (((f_noteCounts x3_6.toNatClampNeg) < 12 → (vp_in x3_6 6 ∧ (∀ x4_47 : Int32, x4_47 = (x3_6 * 12) + (f_noteCounts x3_6.toNatClampNeg) → (vp_in x4_47 72 ∧ (vp_in x4_47 72 ∧ (vp_in x3_6 6 ∧ (vp_in x3_6 6 ∧ post (upd f_beats x4_47.toNatClampNeg x2) (upd f_noteCounts x3_6.toNatClampNeg ((f_noteCounts x3_6.toNatClampNeg) + 1)) (upd f_pitches x4_47.toNatClampNeg x1)))))))) ∧ (¬ (f_noteCounts x3_6.toNatClampNeg) < 12 → post f_beats f_noteCounts f_pitches)))))))))))
set_option maxHeartbeats 4000000 in
set_option maxRecDepth 100000 in
theorem c_X8_addNote {l : Launch} {D : va_G} {cI cJ cS : ClassId} {ad adK : Nat → Nat} {a_o a_beats a_noteCounts a_pitches : Nat} {v_tuneCount : Int32} {f_beats : Nat → Int32} {f_noteCounts : Nat → Int32} {f_pitches : Nat → Int32} {x1 : Int32} {x2 : Int32} {post : (Nat → Int32) → (Nat → Int32) → (Nat → Int32) → Prop} (h : F_X8_addNote v_tuneCount f_beats f_noteCounts f_pitches x1 x2 post) {sz : Nat} : Met l yX8_addNote (Cond.code yX8_addNote cX8_addNote 5 none :: GW) (rmd 1 0 0) (PW D cI cJ cS ad adK [.ref a_o, .int x1, .int x2] (wX8_addNote cI cJ cS a_o a_beats a_noteCounts a_pitches v_tuneCount f_beats f_noteCounts f_pitches) sz) (va_Qv (fun u : (Nat → Int32) × (Nat → Int32) × (Nat → Int32) => post u.1 u.2.1 u.2.2) (fun u t => va_P D vwCl (wX8_addNote cI cJ cS a_o a_beats a_noteCounts a_pitches v_tuneCount u.1 u.2.1 u.2.2) t.heap) (va_A (wX8_addNote cI cJ cS a_o a_beats a_noteCounts a_pitches v_tuneCount f_beats f_noteCounts f_pitches) sz)) 0 0 (va_A (wX8_addNote cI cJ cS a_o a_beats a_noteCounts a_pitches v_tuneCount f_beats f_noteCounts f_pitches) sz) := by
  refine Met.rw (Qc := fun A => (va_Qv (fun u : (Nat → Int32) × (Nat → Int32) × (Nat → Int32) => post u.1 u.2.1 u.2.2) (fun u t => va_P D vwCl (wX8_addNote cI cJ cS a_o a_beats a_noteCounts a_pitches v_tuneCount u.1 u.2.1 u.2.2) t.heap) A)) (by decide) (Nat.le_of_ble_eq_true rfl) (fun p e s m args below meth c ls A (S : CallFix p m c cX8_addNote 5 s args GW "RoadThatSings$Tunes") hE hT hP hD hA hS hr hlocks hname hl => ?_)
  have hS0 := hS
  have hx := S.1
  have hb := S.2.1
  have hl : lv_has ls 5 [(0, .ref a_o), (1, .int x1), (2, .int x2)] := hl
  unfold F_X8_addNote at h
  refine lv_aload_n hx hb dX8_addNote_0 rfl (lv_at hl 0 rfl) ?_
  refine gf S hE hP 0 rfl rfl inX8 (k := 3) (by decide) q83 rfl dX8_addNote_1 ?_
  refine lv_iconst (v := 1) hx hb dX8_addNote_4 (by decide) ?_
  refine lv_isub hx hb dX8_addNote_5 ?_
  refine lv_topi (fun x3_6 ex3_6 => ?_)
  have h := h _ ex3_6
  refine lv_istore_n (lv' := [(3, .int x3_6), (0, .ref a_o), (1, .int x1), (2, .int x2)]) hx hb dX8_addNote_6 rfl hl (by decide) rfl (fun ls hl => ?_)
  refine lv_aload_n hx hb dX8_addNote_7 rfl (lv_at hl 1 rfl) ?_
  refine lv_iload_n hx hb dX8_addNote_8 rfl (lv_at hl 0 rfl) ?_
  refine ro_i (roV S hE hT hS (c_X8_has h) lkX8_31 rfl ⟨(Nat.le_of_ble_eq_true rfl), (Nat.le_of_ble_eq_true rfl)⟩ (hP.sub [0] rfl) 0 rfl rfl hl.1 rfl (Nat.le_of_ble_eq_true rfl) dX8_addNote_9 ⟨(Nat.zero_le _), (Nat.zero_le _)⟩) (fun r9 h => ?_)
  refine lv_if_eq (tgt := 35) hx hb dX8_addNote_12 (by decide) (fun hc => ?_) (fun hc => ?_)
  · have h := h.1 hc
    exact W.vret hx hb hr (fun t ht _ => ⟨⟨(f_beats, f_noteCounts, f_pitches), rfl, h, hPt hP ht⟩, hS.F ht⟩) hS.2.2 dX8_addNote_35
  have h := h.2 hc
  refine lv_aload_n hx hb dX8_addNote_15 rfl (lv_at hl 1 rfl) ?_
  refine gf S hE hP 0 rfl rfl inX8 (k := 2) (by decide) q82 rfl dX8_addNote_16 ?_
  refine lv_iload_n hx hb dX8_addNote_19 rfl (lv_at hl 0 rfl) ?_
  obtain ⟨hi, h⟩ := h
  refine ial S hE hP 2 rfl hi dX8_addNote_20 ?_
  refine lv_if_lt (tgt := 35) hx hb dX8_addNote_21 (by decide) (fun hc => ?_) (fun hc => ?_)
  · have h := h.1 hc
    exact W.vret hx hb hr (fun t ht _ => ⟨⟨(f_beats, f_noteCounts, f_pitches), rfl, h, hPt hP ht⟩, hS.F ht⟩) hS.2.2 dX8_addNote_35
  have h := h.2 hc
  refine lv_aload_n hx hb dX8_addNote_24 rfl (lv_at hl 1 rfl) ?_
  refine gf S hE hP 0 rfl rfl inX8 (k := 2) (by decide) q82 rfl dX8_addNote_25 ?_
  refine lv_iload_n hx hb dX8_addNote_28 rfl (lv_at hl 0 rfl) ?_
  obtain ⟨hi, h⟩ := h
  refine ial S hE hP 2 rfl hi dX8_addNote_29 ?_
  refine lv_bipush (v := 12) hx hb dX8_addNote_30 (by decide) ?_
  refine lv_icmp_lt (tgt := 36) hx hb dX8_addNote_32 (by decide) (fun hc => ?_) (fun hc => ?_)
  · have h := h.1 hc
    refine lv_iload_n hx hb dX8_addNote_36 rfl (lv_at hl 0 rfl) ?_
    refine lv_bipush (v := 12) hx hb dX8_addNote_37 (by decide) ?_
    refine lv_imul hx hb dX8_addNote_39 ?_
    refine lv_aload_n hx hb dX8_addNote_40 rfl (lv_at hl 1 rfl) ?_
    refine gf S hE hP 0 rfl rfl inX8 (k := 2) (by decide) q82 rfl dX8_addNote_41 ?_
    refine lv_iload_n hx hb dX8_addNote_44 rfl (lv_at hl 0 rfl) ?_
    obtain ⟨hi, h⟩ := h
    refine ial S hE hP 2 rfl hi dX8_addNote_45 ?_
    refine lv_iadd hx hb dX8_addNote_46 ?_
    refine lv_topi (fun x4_47 ex4_47 => ?_)
    have h := h _ ex4_47
    refine lv_istore (lv' := [(4, .int x4_47), (3, .int x3_6), (0, .ref a_o), (1, .int x1), (2, .int x2)]) hx hb dX8_addNote_47 hl (by decide) rfl (fun ls hl => ?_)
    refine lv_aload_n hx hb dX8_addNote_49 rfl (lv_at hl 2 rfl) ?_
    refine gf S hE hP 0 rfl rfl inX8 (k := 0) (by decide) q80 rfl dX8_addNote_50 ?_
    refine lv_iload hx hb dX8_addNote_53 (lv_at hl 0 rfl) ?_
    refine lv_iload_n hx hb dX8_addNote_55 rfl (lv_at hl 3 rfl) ?_
    obtain ⟨hi, h⟩ := h
    refine ias S hE hP hD hS 3 rfl hi dX8_addNote_56 (fun H locs hP hD hS => ?_)
    have hP : va_P D vwCl (wX8_addNote cI cJ cS a_o a_beats a_noteCounts a_pitches v_tuneCount f_beats f_noteCounts (upd f_pitches x4_47.toNatClampNeg x1)) H := hP
    have hD : va_D A (wX8_addNote cI cJ cS a_o a_beats a_noteCounts a_pitches v_tuneCount f_beats f_noteCounts (upd f_pitches x4_47.toNatClampNeg x1)) := hD
    refine lv_aload_n hx hb dX8_addNote_57 rfl (lv_at hl 2 rfl) ?_
    refine gf S hE hP 0 rfl rfl inX8 (k := 1) (by decide) q81 rfl dX8_addNote_58 ?_
    refine lv_iload hx hb dX8_addNote_61 (lv_at hl 0 rfl) ?_
    refine lv_iload_n hx hb dX8_addNote_63 rfl (lv_at hl 4 rfl) ?_
    obtain ⟨hi, h⟩ := h
    refine ias S hE hP hD hS 1 rfl hi dX8_addNote_64 (fun H locs hP hD hS => ?_)
    have hP : va_P D vwCl (wX8_addNote cI cJ cS a_o a_beats a_noteCounts a_pitches v_tuneCount (upd f_beats x4_47.toNatClampNeg x2) f_noteCounts (upd f_pitches x4_47.toNatClampNeg x1)) H := hP
    have hD : va_D A (wX8_addNote cI cJ cS a_o a_beats a_noteCounts a_pitches v_tuneCount (upd f_beats x4_47.toNatClampNeg x2) f_noteCounts (upd f_pitches x4_47.toNatClampNeg x1)) := hD
    refine lv_aload_n hx hb dX8_addNote_65 rfl (lv_at hl 2 rfl) ?_
    refine gf S hE hP 0 rfl rfl inX8 (k := 2) (by decide) q82 rfl dX8_addNote_66 ?_
    refine lv_iload_n hx hb dX8_addNote_69 rfl (lv_at hl 1 rfl) ?_
    refine lv_dup2_11 hx hb dX8_addNote_70 rfl rfl ?_
    obtain ⟨hi, h⟩ := h
    refine ial S hE hP 2 rfl hi dX8_addNote_71 ?_
    refine lv_iconst (v := 1) hx hb dX8_addNote_72 (by decide) ?_
    refine lv_iadd hx hb dX8_addNote_73 ?_
    obtain ⟨hi, h⟩ := h
    refine ias S hE hP hD hS 2 rfl hi dX8_addNote_74 (fun H locs hP hD hS => ?_)
    have hP : va_P D vwCl (wX8_addNote cI cJ cS a_o a_beats a_noteCounts a_pitches v_tuneCount (upd f_beats x4_47.toNatClampNeg x2) (upd f_noteCounts x3_6.toNatClampNeg ((f_noteCounts x3_6.toNatClampNeg) + 1)) (upd f_pitches x4_47.toNatClampNeg x1)) H := hP
    have hD : va_D A (wX8_addNote cI cJ cS a_o a_beats a_noteCounts a_pitches v_tuneCount (upd f_beats x4_47.toNatClampNeg x2) (upd f_noteCounts x3_6.toNatClampNeg ((f_noteCounts x3_6.toNatClampNeg) + 1)) (upd f_pitches x4_47.toNatClampNeg x1)) := hD
    exact W.vret hx hb hr (fun t ht _ => ⟨⟨((upd f_beats x4_47.toNatClampNeg x2), (upd f_noteCounts x3_6.toNatClampNeg ((f_noteCounts x3_6.toNatClampNeg) + 1)), (upd f_pitches x4_47.toNatClampNeg x1)), rfl, h, hPt hP ht⟩, hS.F ht⟩) hS.2.2 dX8_addNote_75
  have h := h.2 hc
  exact W.vret hx hb hr (fun t ht _ => ⟨⟨(f_beats, f_noteCounts, f_pitches), rfl, h, hPt hP ht⟩, hS.F ht⟩) hS.2.2 dX8_addNote_35
/-! X4_readNote -/
abbrev wX4_readNote (cI cJ cS : ClassId) (a_o a_text a_text_elements a_told a_told_tunes a_told_tunes_beats a_told_tunes_noteCounts a_told_tunes_pitches : Nat) (z_told_stretches z_told_cars z_told_demands : Value) (v_at : Int32) (v_faultAt : Int32) (v_text_held : Int32) (v_text_sort : Int32) (v_text_elementCount : Int32) (v_text_stretchNumber : Int32) (g_text_elements : Nat → Int64) (v_told_drawSeed : Int32) (v_told_tunes_tuneCount : Int32) (f_told_tunes_beats : Nat → Int32) (f_told_tunes_noteCounts : Nat → Int32) (f_told_tunes_pitches : Nat → Int32) : va_W := [(a_o, .inr (3, [.ref a_text, .ref a_told, .int v_at, .int v_faultAt])), (a_text, .inr (5, [.ref a_text_elements, .int v_text_held, .int v_text_sort, .int v_text_elementCount, .int v_text_stretchNumber])), (a_text_elements, .inl (cJ, 160, .inr (.inl g_text_elements))), (a_told, .inr (4, [z_told_stretches, z_told_cars, .ref a_told_tunes, z_told_demands, .int v_told_drawSeed])), (a_told_tunes, .inr (7, [.ref a_told_tunes_pitches, .ref a_told_tunes_beats, .ref a_told_tunes_noteCounts, .int v_told_tunes_tuneCount])), (a_told_tunes_beats, .inl (cI, 72, .inl f_told_tunes_beats)), (a_told_tunes_noteCounts, .inl (cI, 6, .inl f_told_tunes_noteCounts)), (a_told_tunes_pitches, .inl (cI, 72, .inl f_told_tunes_pitches))]
def F_X4_readNote_25 (v_told_tunes_tuneCount : Int32) (post : Int32 → Int32 → Int32 → (Nat → Int32) → (Nat → Int32) → (Nat → Int32) → Prop) (x1 : Int32) (v_at : Int32) (v_faultAt : Int32) (f_told_tunes_beats : Nat → Int32) (f_told_tunes_noteCounts : Nat → Int32) (f_told_tunes_pitches : Nat → Int32) (s0 : Int32) : Prop := ((s0 = (-1) → post 0 v_at v_faultAt f_told_tunes_beats f_told_tunes_noteCounts f_told_tunes_pitches) ∧ (¬ s0 = (-1) → (F_X8_addNote v_told_tunes_tuneCount f_told_tunes_beats f_told_tunes_noteCounts f_told_tunes_pitches x1 s0 (fun w42_0 w42_1 w42_2 => post 1 v_at v_faultAt w42_0 w42_1 w42_2))))
def F_X4_readNote (v_at : Int32) (v_faultAt : Int32) (v_text_elementCount : Int32) (g_text_elements : Nat → Int64) (v_told_tunes_tuneCount : Int32) (f_told_tunes_beats : Nat → Int32) (f_told_tunes_noteCounts : Nat → Int32) (f_told_tunes_pitches : Nat → Int32) (post : Int32 → Int32 → Int32 → (Nat → Int32) → (Nat → Int32) → (Nat → Int32) → Prop) : Prop := (F_X4_readNumber v_at v_faultAt v_text_elementCount g_text_elements 0 9999 (fun r5 w5_0 w5_1 => ((r5 = (-1) → F_X4_readNote_25 v_told_tunes_tuneCount post r5 w5_0 w5_1 f_told_tunes_beats f_told_tunes_noteCounts f_told_tunes_pitches (-1)) ∧ (¬ r5 = (-1) → (F_X4_readNumber w5_0 w5_1 v_text_elementCount g_text_elements 1 16 (fun r22 w22_0 w22_1 => F_X4_readNote_25 v_told_tunes_tuneCount post r5 w22_0 w22_1 f_told_tunes_beats f_told_tunes_noteCounts f_told_tunes_pitches r22))))))
set_option maxHeartbeats 4000000 in
set_option maxRecDepth 100000 in
theorem w_X4_readNote_25 {l : Launch} {D : va_G} {cI cJ cS : ClassId} {ad adK : Nat → Nat} {a_o a_text a_text_elements a_told a_told_tunes a_told_tunes_beats a_told_tunes_noteCounts a_told_tunes_pitches : Nat} {z_told_stretches z_told_cars z_told_demands : Value} {v_at : Int32} {v_faultAt : Int32} {v_text_held : Int32} {v_text_sort : Int32} {v_text_elementCount : Int32} {v_text_stretchNumber : Int32} {g_text_elements : Nat → Int64} {v_told_drawSeed : Int32} {v_told_tunes_tuneCount : Int32} {f_told_tunes_beats : Nat → Int32} {f_told_tunes_noteCounts : Nat → Int32} {f_told_tunes_pitches : Nat → Int32} {x1 : Int32} {s0 : Int32} {post : Int32 → Int32 → Int32 → (Nat → Int32) → (Nat → Int32) → (Nat → Int32) → Prop} {p : Program} {e : Env} {s : State} {m : MethodId} {args : Array Value} {below : List Frame} {meth : Method} {c : Code} {A : Nat → Prop} (S : CallFix p m c cX4_readNote 3 s args GW "RoadThatSings$Reader") (hE : EN D cI cJ cS s) (hT : ST ad adK A s s.heap) (hA : ∀ q : Nat, s.heap.size ≤ q → A q) (hr : meth.sig.returnType = (some (.boolean))) (hlocks : meth.locks = false) : ∀ (H : Heap) (locs : List Loc) (ls : Array Slot), F_X4_readNote_25 v_told_tunes_tuneCount post x1 v_at v_faultAt f_told_tunes_beats f_told_tunes_noteCounts f_told_tunes_pitches s0 → va_P D vwCl (wX4_readNote cI cJ cS a_o a_text a_text_elements a_told a_told_tunes a_told_tunes_beats a_told_tunes_noteCounts a_told_tunes_pitches z_told_stretches z_told_cars z_told_demands v_at v_faultAt v_text_held v_text_sort v_text_elementCount v_text_stretchNumber g_text_elements v_told_drawSeed v_told_tunes_tuneCount f_told_tunes_beats f_told_tunes_noteCounts f_told_tunes_pitches) H → va_D A (wX4_readNote cI cJ cS a_o a_text a_text_elements a_told a_told_tunes a_told_tunes_beats a_told_tunes_noteCounts a_told_tunes_pitches z_told_stretches z_told_cars z_told_demands v_at v_faultAt v_text_held v_text_sort v_text_elementCount v_text_stretchNumber g_text_elements v_told_drawSeed v_told_tunes_tuneCount f_told_tunes_beats f_told_tunes_noteCounts f_told_tunes_pitches) → va_S A s.heap H locs → lv_has ls 3 [(0, .ref a_o), (1, .int x1)] → W p l e (rmd 3 0 0) s m args below meth c H locs 0 0 (MQ below (va_Qi (fun r (u : Int32 × Int32 × (Nat → Int32) × (Nat → Int32) × (Nat → Int32)) => post r u.1 u.2.1 u.2.2.1 u.2.2.2.1 u.2.2.2.2) (fun u t => va_P D vwCl (wX4_readNote cI cJ cS a_o a_text a_text_elements a_told a_told_tunes a_told_tunes_beats a_told_tunes_noteCounts a_told_tunes_pitches z_told_stretches z_told_cars z_told_demands u.1 u.2.1 v_text_held v_text_sort v_text_elementCount v_text_stretchNumber g_text_elements v_told_drawSeed v_told_tunes_tuneCount u.2.2.1 u.2.2.2.1 u.2.2.2.2) t.heap) A) args s 0 0 A) (F0 m 25 ls [.int s0]) := by
  intro  H locs ls h hP hD hS hl
  unfold F_X4_readNote_25 at h
  have hx := S.1
  have hb := S.2.1
  refine lv_istore_n (lv' := [(2, .int s0), (0, .ref a_o), (1, .int x1)]) hx hb dX4_readNote_25 rfl hl (by decide) rfl (fun ls hl => ?_)
  refine lv_iload_n hx hb dX4_readNote_26 rfl (lv_at hl 0 rfl) ?_
  refine lv_iconst (v := (-1)) hx hb dX4_readNote_27 (by decide) ?_
  refine lv_icmp_ne (tgt := 33) hx hb dX4_readNote_28 (by decide) (fun hc => ?_) (fun hc => ?_)
  · have h := h.2 hc
    refine lv_aload_n hx hb dX4_readNote_33 rfl (lv_at hl 1 rfl) ?_
    refine gf S hE hP 0 rfl rfl inX4 (k := 1) (by decide) q575 rfl dX4_readNote_34 ?_
    refine gfN S hE hP 3 rfl rfl inX5 (k := 2) (by decide) nfX4_63 rfl dX4_readNote_37 ?_
    refine lv_iload_n hx hb dX4_readNote_40 rfl (lv_at hl 2 rfl) ?_
    refine lv_iload_n hx hb dX4_readNote_41 rfl (lv_at hl 0 rfl) ?_
    refine rw_v (rwV S hE hT hS hP hD hA (c_X8_addNote h) [4, 5, 6, 7] rfl (by decide) lkX4_141 rfl ⟨(Nat.le_of_ble_eq_true rfl), (Nat.le_of_ble_eq_true rfl)⟩ 4 rfl rfl hl.1 rfl (Nat.le_of_ble_eq_true rfl) dX4_readNote_42 ⟨(Nat.zero_le _), (Nat.zero_le _)⟩) hP hD hS hA [4, 5, 6, 7] rfl (by decide) (fun _ => rfl) (fun u42 H locs h hP hD hS => ?_)
    obtain ⟨w42_0, w42_1, w42_2⟩ := u42
    try dsimp only at h
    have hP : va_P D vwCl (wX4_readNote cI cJ cS a_o a_text a_text_elements a_told a_told_tunes a_told_tunes_beats a_told_tunes_noteCounts a_told_tunes_pitches z_told_stretches z_told_cars z_told_demands v_at v_faultAt v_text_held v_text_sort v_text_elementCount v_text_stretchNumber g_text_elements v_told_drawSeed v_told_tunes_tuneCount w42_0 w42_1 w42_2) H := hP
    have hD : va_D A (wX4_readNote cI cJ cS a_o a_text a_text_elements a_told a_told_tunes a_told_tunes_beats a_told_tunes_noteCounts a_told_tunes_pitches z_told_stretches z_told_cars z_told_demands v_at v_faultAt v_text_held v_text_sort v_text_elementCount v_text_stretchNumber g_text_elements v_told_drawSeed v_told_tunes_tuneCount w42_0 w42_1 w42_2) := hD
    refine lv_iconst (v := 1) hx hb dX4_readNote_45 (by decide) ?_
    exact W.zret hx hb hr rfl (fun t ht _ => ⟨⟨_, (v_at, v_faultAt, w42_0, w42_1, w42_2), rfl, h, hPt hP ht⟩, hS.F ht⟩) hS.2.2 dX4_readNote_46
  have h := h.1 hc
  refine lv_iconst (v := 0) hx hb dX4_readNote_31 (by decide) ?_
  exact W.zret hx hb hr rfl (fun t ht _ => ⟨⟨_, (v_at, v_faultAt, f_told_tunes_beats, f_told_tunes_noteCounts, f_told_tunes_pitches), rfl, h, hPt hP ht⟩, hS.F ht⟩) hS.2.2 dX4_readNote_32
set_option maxHeartbeats 4000000 in
set_option maxRecDepth 100000 in
theorem c_X4_readNote {l : Launch} {D : va_G} {cI cJ cS : ClassId} {ad adK : Nat → Nat} {a_o a_text a_text_elements a_told a_told_tunes a_told_tunes_beats a_told_tunes_noteCounts a_told_tunes_pitches : Nat} {z_told_stretches z_told_cars z_told_demands : Value} {v_at : Int32} {v_faultAt : Int32} {v_text_held : Int32} {v_text_sort : Int32} {v_text_elementCount : Int32} {v_text_stretchNumber : Int32} {g_text_elements : Nat → Int64} {v_told_drawSeed : Int32} {v_told_tunes_tuneCount : Int32} {f_told_tunes_beats : Nat → Int32} {f_told_tunes_noteCounts : Nat → Int32} {f_told_tunes_pitches : Nat → Int32} {post : Int32 → Int32 → Int32 → (Nat → Int32) → (Nat → Int32) → (Nat → Int32) → Prop} (h : F_X4_readNote v_at v_faultAt v_text_elementCount g_text_elements v_told_tunes_tuneCount f_told_tunes_beats f_told_tunes_noteCounts f_told_tunes_pitches post) {sz : Nat} : Met l yX4_readNote (Cond.code yX4_readNote cX4_readNote 3 (some (.boolean)) :: GW) (rmd 3 0 0) (PW D cI cJ cS ad adK [.ref a_o] (wX4_readNote cI cJ cS a_o a_text a_text_elements a_told a_told_tunes a_told_tunes_beats a_told_tunes_noteCounts a_told_tunes_pitches z_told_stretches z_told_cars z_told_demands v_at v_faultAt v_text_held v_text_sort v_text_elementCount v_text_stretchNumber g_text_elements v_told_drawSeed v_told_tunes_tuneCount f_told_tunes_beats f_told_tunes_noteCounts f_told_tunes_pitches) sz) (va_Qi (fun r (u : Int32 × Int32 × (Nat → Int32) × (Nat → Int32) × (Nat → Int32)) => post r u.1 u.2.1 u.2.2.1 u.2.2.2.1 u.2.2.2.2) (fun u t => va_P D vwCl (wX4_readNote cI cJ cS a_o a_text a_text_elements a_told a_told_tunes a_told_tunes_beats a_told_tunes_noteCounts a_told_tunes_pitches z_told_stretches z_told_cars z_told_demands u.1 u.2.1 v_text_held v_text_sort v_text_elementCount v_text_stretchNumber g_text_elements v_told_drawSeed v_told_tunes_tuneCount u.2.2.1 u.2.2.2.1 u.2.2.2.2) t.heap) (va_A (wX4_readNote cI cJ cS a_o a_text a_text_elements a_told a_told_tunes a_told_tunes_beats a_told_tunes_noteCounts a_told_tunes_pitches z_told_stretches z_told_cars z_told_demands v_at v_faultAt v_text_held v_text_sort v_text_elementCount v_text_stretchNumber g_text_elements v_told_drawSeed v_told_tunes_tuneCount f_told_tunes_beats f_told_tunes_noteCounts f_told_tunes_pitches) sz)) 0 0 (va_A (wX4_readNote cI cJ cS a_o a_text a_text_elements a_told a_told_tunes a_told_tunes_beats a_told_tunes_noteCounts a_told_tunes_pitches z_told_stretches z_told_cars z_told_demands v_at v_faultAt v_text_held v_text_sort v_text_elementCount v_text_stretchNumber g_text_elements v_told_drawSeed v_told_tunes_tuneCount f_told_tunes_beats f_told_tunes_noteCounts f_told_tunes_pitches) sz) := by
  refine Met.rw (Qc := fun A => (va_Qi (fun r (u : Int32 × Int32 × (Nat → Int32) × (Nat → Int32) × (Nat → Int32)) => post r u.1 u.2.1 u.2.2.1 u.2.2.2.1 u.2.2.2.2) (fun u t => va_P D vwCl (wX4_readNote cI cJ cS a_o a_text a_text_elements a_told a_told_tunes a_told_tunes_beats a_told_tunes_noteCounts a_told_tunes_pitches z_told_stretches z_told_cars z_told_demands u.1 u.2.1 v_text_held v_text_sort v_text_elementCount v_text_stretchNumber g_text_elements v_told_drawSeed v_told_tunes_tuneCount u.2.2.1 u.2.2.2.1 u.2.2.2.2) t.heap) A)) (by decide) (Nat.le_of_ble_eq_true rfl) (fun p e s m args below meth c ls A (S : CallFix p m c cX4_readNote 3 s args GW "RoadThatSings$Reader") hE hT hP hD hA hS hr hlocks hname hl => ?_)
  have hS0 := hS
  have hx := S.1
  have hb := S.2.1
  have hl : lv_has ls 3 [(0, .ref a_o)] := hl
  unfold F_X4_readNote at h
  refine lv_aload_n hx hb dX4_readNote_0 rfl (lv_at hl 0 rfl) ?_
  refine lv_iconst (v := 0) hx hb dX4_readNote_1 (by decide) ?_
  refine lv_sipush (v := 9999) hx hb dX4_readNote_2 (by decide) ?_
  refine rw_i (rwV S hE hT hS hP hD hA (c_X4_readNumber h) [0, 1, 2] rfl (by decide) lkX4_124 rfl ⟨(Nat.le_of_ble_eq_true rfl), (Nat.le_of_ble_eq_true rfl)⟩ 0 rfl rfl hl.1 rfl (Nat.le_of_ble_eq_true rfl) dX4_readNote_5 ⟨(Nat.zero_le _), (Nat.zero_le _)⟩) hP hD hS hA [0, 1, 2] rfl (by decide) (fun _ => rfl) (fun r5 u5 H locs h hP hD hS => ?_)
  obtain ⟨w5_0, w5_1⟩ := u5
  try dsimp only at h
  have hP : va_P D vwCl (wX4_readNote cI cJ cS a_o a_text a_text_elements a_told a_told_tunes a_told_tunes_beats a_told_tunes_noteCounts a_told_tunes_pitches z_told_stretches z_told_cars z_told_demands w5_0 w5_1 v_text_held v_text_sort v_text_elementCount v_text_stretchNumber g_text_elements v_told_drawSeed v_told_tunes_tuneCount f_told_tunes_beats f_told_tunes_noteCounts f_told_tunes_pitches) H := hP
  have hD : va_D A (wX4_readNote cI cJ cS a_o a_text a_text_elements a_told a_told_tunes a_told_tunes_beats a_told_tunes_noteCounts a_told_tunes_pitches z_told_stretches z_told_cars z_told_demands w5_0 w5_1 v_text_held v_text_sort v_text_elementCount v_text_stretchNumber g_text_elements v_told_drawSeed v_told_tunes_tuneCount f_told_tunes_beats f_told_tunes_noteCounts f_told_tunes_pitches) := hD
  refine lv_istore_n (lv' := [(1, .int r5), (0, .ref a_o)]) hx hb dX4_readNote_8 rfl hl (by decide) rfl (fun ls hl => ?_)
  refine lv_iload_n hx hb dX4_readNote_9 rfl (lv_at hl 0 rfl) ?_
  refine lv_iconst (v := (-1)) hx hb dX4_readNote_10 (by decide) ?_
  refine lv_icmp_ne (tgt := 18) hx hb dX4_readNote_11 (by decide) (fun hc => ?_) (fun hc => ?_)
  · have h := h.2 hc
    refine lv_aload_n hx hb dX4_readNote_18 rfl (lv_at hl 1 rfl) ?_
    refine lv_iconst (v := 1) hx hb dX4_readNote_19 (by decide) ?_
    refine lv_bipush (v := 16) hx hb dX4_readNote_20 (by decide) ?_
    refine rw_i (rwV S hE hT hS hP hD hA (c_X4_readNumber h) [0, 1, 2] rfl (by decide) lkX4_124 rfl ⟨(Nat.le_of_ble_eq_true rfl), (Nat.le_of_ble_eq_true rfl)⟩ 0 rfl rfl hl.1 rfl (Nat.le_of_ble_eq_true rfl) dX4_readNote_22 ⟨(Nat.zero_le _), (Nat.zero_le _)⟩) hP hD hS hA [0, 1, 2] rfl (by decide) (fun _ => rfl) (fun r22 u22 H locs h hP hD hS => ?_)
    obtain ⟨w22_0, w22_1⟩ := u22
    try dsimp only at h
    have hP : va_P D vwCl (wX4_readNote cI cJ cS a_o a_text a_text_elements a_told a_told_tunes a_told_tunes_beats a_told_tunes_noteCounts a_told_tunes_pitches z_told_stretches z_told_cars z_told_demands w22_0 w22_1 v_text_held v_text_sort v_text_elementCount v_text_stretchNumber g_text_elements v_told_drawSeed v_told_tunes_tuneCount f_told_tunes_beats f_told_tunes_noteCounts f_told_tunes_pitches) H := hP
    have hD : va_D A (wX4_readNote cI cJ cS a_o a_text a_text_elements a_told a_told_tunes a_told_tunes_beats a_told_tunes_noteCounts a_told_tunes_pitches z_told_stretches z_told_cars z_told_demands w22_0 w22_1 v_text_held v_text_sort v_text_elementCount v_text_stretchNumber g_text_elements v_told_drawSeed v_told_tunes_tuneCount f_told_tunes_beats f_told_tunes_noteCounts f_told_tunes_pitches) := hD
    refine w_X4_readNote_25 S hE hT hA hr hlocks _ _ _ h hP hD hS (lv_sub hl [1, 0] rfl)
  have h := h.1 hc
  refine lv_iconst (v := (-1)) hx hb dX4_readNote_14 (by decide) ?_
  refine lv_goto (tgt := 25) hx hb dX4_readNote_15 (by decide) ?_
  refine w_X4_readNote_25 S hE hT hA hr hlocks _ _ _ h hP hD hS (lv_sub hl [1, 0] rfl)
/-! X9_mayBeAsked -/
abbrev wX9_mayBeAsked (cI cJ cS : ClassId) : va_W := []
def F_X9_mayBeAsked (x0 : Int32) (x1 : Int32) (post : Int32 → Prop) : Prop := (F_X9_within x0 0 3 (fun r3 => ((r3 = 0 → post 0) ∧ (¬ r3 = 0 → (vp_in x0 4 ∧ (vp_in x0 4 ∧ (F_X9_within x1 (tbLEAST_ASKED.getD x0.toNatClampNeg 0) (tbMOST_ASKED.getD x0.toNatClampNeg 0) (fun r20 => ((r20 = 0 → post 0) ∧ (¬ r20 = 0 → post 1))))))))))
set_option maxHeartbeats 4000000 in
set_option maxRecDepth 100000 in
theorem c_X9_mayBeAsked {l : Launch} {D : va_G} {cI cJ cS : ClassId} {ad adK : Nat → Nat}  {x0 : Int32} {x1 : Int32} {post : Int32 → Prop} (h : F_X9_mayBeAsked x0 x1 post) : Met l yX9_mayBeAsked (Cond.code yX9_mayBeAsked cX9_mayBeAsked 2 (some (.boolean)) :: GW) (rmd 1 0 0) (PR D cI cJ cS ad adK [.int x0, .int x1] (wX9_mayBeAsked cI cJ cS)) (vp_Si post) 0 0 nof := by
  refine Met.ro (by decide) (Nat.le_of_ble_eq_true rfl) (fun p e s m args below meth c ls (S : CallFix p m c cX9_mayBeAsked 2 s args GW "RoadThatSings") hE hT hP hS hr hlocks hl => ?_)
  have hx := S.1
  have hb := S.2.1
  have hl : lv_has ls 2 [(0, .int x0), (1, .int x1)] := hl
  unfold F_X9_mayBeAsked at h
  refine lv_iload_n hx hb dX9_mayBeAsked_0 rfl (lv_at hl 0 rfl) ?_
  refine lv_iconst (v := 0) hx hb dX9_mayBeAsked_1 (by decide) ?_
  refine lv_iconst (v := 3) hx hb dX9_mayBeAsked_2 (by decide) ?_
  refine ro_i (roS S hE hT hS (c_X9_within h) lkX9_63 rfl ⟨(Nat.le_of_ble_eq_true rfl), (Nat.le_of_ble_eq_true rfl)⟩ (hP.sub [] rfl) hl.1 rfl (Nat.le_of_ble_eq_true rfl) dX9_mayBeAsked_3 ⟨(Nat.zero_le _), (Nat.zero_le _)⟩) (fun r3 h => ?_)
  refine lv_if_eq (tgt := 30) hx hb dX9_mayBeAsked_6 (by decide) (fun hc => ?_) (fun hc => ?_)
  · have h := h.1 hc
    refine lv_iconst (v := 0) hx hb dX9_mayBeAsked_30 (by decide) ?_
    exact W.zret hx hb hr rfl (fun t ht _ => ⟨_, rfl, h, ht⟩) (fun _ hq => by cases hq) dX9_mayBeAsked_31
  have h := h.2 hc
  refine lv_iload_n hx hb dX9_mayBeAsked_9 rfl (lv_at hl 1 rfl) ?_
  refine gsA S hT hS stm_LEAST_ASKED q530 dX9_mayBeAsked_10 (fun t10 ht10 => ?_)
  refine lv_iload_n hx hb dX9_mayBeAsked_13 rfl (lv_at hl 0 rfl) ?_
  obtain ⟨hi, h⟩ := h
  refine tal S hS ht10 hi dX9_mayBeAsked_14 ?_
  refine gsA S hT hS stm_MOST_ASKED q532 dX9_mayBeAsked_15 (fun t15 ht15 => ?_)
  refine lv_iload_n hx hb dX9_mayBeAsked_18 rfl (lv_at hl 0 rfl) ?_
  obtain ⟨hi, h⟩ := h
  refine tal S hS ht15 hi dX9_mayBeAsked_19 ?_
  refine ro_i (roS S hE hT hS (c_X9_within h) lkX9_63 rfl ⟨(Nat.le_of_ble_eq_true rfl), (Nat.le_of_ble_eq_true rfl)⟩ (hP.sub [] rfl) hl.1 rfl (Nat.le_of_ble_eq_true rfl) dX9_mayBeAsked_20 ⟨(Nat.zero_le _), (Nat.zero_le _)⟩) (fun r20 h => ?_)
  refine lv_if_eq (tgt := 30) hx hb dX9_mayBeAsked_23 (by decide) (fun hc => ?_) (fun hc => ?_)
  · have h := h.1 hc
    refine lv_iconst (v := 0) hx hb dX9_mayBeAsked_30 (by decide) ?_
    exact W.zret hx hb hr rfl (fun t ht _ => ⟨_, rfl, h, ht⟩) (fun _ hq => by cases hq) dX9_mayBeAsked_31
  have h := h.2 hc
  refine lv_iconst (v := 1) hx hb dX9_mayBeAsked_26 (by decide) ?_
  refine lv_goto (tgt := 31) hx hb dX9_mayBeAsked_27 (by decide) ?_
  exact W.zret hx hb hr rfl (fun t ht _ => ⟨_, rfl, h, ht⟩) (fun _ hq => by cases hq) dX9_mayBeAsked_31
/-! X5_demand -/
abbrev wX5_demand (cI cJ cS : ClassId) (a_o a_demands : Nat) (z_stretches z_cars z_tunes : Value) (v_drawSeed : Int32) (f_demands : Nat → Int32) : va_W := [(a_o, .inr (4, [z_stretches, z_cars, z_tunes, .ref a_demands, .int v_drawSeed])), (a_demands, .inl (cI, 4, .inl f_demands))]
def F_X5_demand (f_demands : Nat → Int32) (x1 : Int32) (x2 : Int32) (post : (Nat → Int32) → Prop) : Prop := (F_X9_mayBeAsked x1 x2 (fun r2 => ((r2 = 0 → post f_demands) ∧ (¬ r2 = 0 → (vp_in x1 4 ∧ post (upd f_demands x1.toNatClampNeg x2))))))
set_option maxHeartbeats 4000000 in
set_option maxRecDepth 100000 in
theorem c_X5_demand {l : Launch} {D : va_G} {cI cJ cS : ClassId} {ad adK : Nat → Nat} {a_o a_demands : Nat} {z_stretches z_cars z_tunes : Value} {v_drawSeed : Int32} {f_demands : Nat → Int32} {x1 : Int32} {x2 : Int32} {post : (Nat → Int32) → Prop} (h : F_X5_demand f_demands x1 x2 post) {sz : Nat} : Met l yX5_demand (Cond.code yX5_demand cX5_demand 3 none :: GW) (rmd 2 0 0) (PW D cI cJ cS ad adK [.ref a_o, .int x1, .int x2] (wX5_demand cI cJ cS a_o a_demands z_stretches z_cars z_tunes v_drawSeed f_demands) sz) (va_Qv (fun u : (Nat → Int32) => post u) (fun u t => va_P D vwCl (wX5_demand cI cJ cS a_o a_demands z_stretches z_cars z_tunes v_drawSeed u) t.heap) (va_A (wX5_demand cI cJ cS a_o a_demands z_stretches z_cars z_tunes v_drawSeed f_demands) sz)) 0 0 (va_A (wX5_demand cI cJ cS a_o a_demands z_stretches z_cars z_tunes v_drawSeed f_demands) sz) := by
  refine Met.rw (Qc := fun A => (va_Qv (fun u : (Nat → Int32) => post u) (fun u t => va_P D vwCl (wX5_demand cI cJ cS a_o a_demands z_stretches z_cars z_tunes v_drawSeed u) t.heap) A)) (by decide) (Nat.le_of_ble_eq_true rfl) (fun p e s m args below meth c ls A (S : CallFix p m c cX5_demand 3 s args GW "RoadThatSings$Road") hE hT hP hD hA hS hr hlocks hname hl => ?_)
  have hS0 := hS
  have hx := S.1
  have hb := S.2.1
  have hl : lv_has ls 3 [(0, .ref a_o), (1, .int x1), (2, .int x2)] := hl
  unfold F_X5_demand at h
  refine lv_iload_n hx hb dX5_demand_0 rfl (lv_at hl 1 rfl) ?_
  refine lv_iload_n hx hb dX5_demand_1 rfl (lv_at hl 2 rfl) ?_
  refine ro_i (roSN S hE hT hS (c_X9_mayBeAsked h) lkX5_60 rfl ⟨(Nat.le_of_ble_eq_true rfl), (Nat.le_of_ble_eq_true rfl)⟩ (hP.sub [] rfl) hl.1 rfl (Nat.le_of_ble_eq_true rfl) dX5_demand_2 ⟨(Nat.zero_le _), (Nat.zero_le _)⟩) (fun r2 h => ?_)
  refine lv_if_eq (tgt := 15) hx hb dX5_demand_5 (by decide) (fun hc => ?_) (fun hc => ?_)
  · have h := h.1 hc
    exact W.vret hx hb hr (fun t ht _ => ⟨⟨f_demands, rfl, h, hPt hP ht⟩, hS.F ht⟩) hS.2.2 dX5_demand_15
  have h := h.2 hc
  refine lv_aload_n hx hb dX5_demand_8 rfl (lv_at hl 0 rfl) ?_
  refine gf S hE hP 0 rfl rfl inX5 (k := 3) (by decide) q103 rfl dX5_demand_9 ?_
  refine lv_iload_n hx hb dX5_demand_12 rfl (lv_at hl 1 rfl) ?_
  refine lv_iload_n hx hb dX5_demand_13 rfl (lv_at hl 2 rfl) ?_
  obtain ⟨hi, h⟩ := h
  refine ias S hE hP hD hS 1 rfl hi dX5_demand_14 (fun H locs hP hD hS => ?_)
  have hP : va_P D vwCl (wX5_demand cI cJ cS a_o a_demands z_stretches z_cars z_tunes v_drawSeed (upd f_demands x1.toNatClampNeg x2)) H := hP
  have hD : va_D A (wX5_demand cI cJ cS a_o a_demands z_stretches z_cars z_tunes v_drawSeed (upd f_demands x1.toNatClampNeg x2)) := hD
  exact W.vret hx hb hr (fun t ht _ => ⟨⟨(upd f_demands x1.toNatClampNeg x2), rfl, h, hPt hP ht⟩, hS.F ht⟩) hS.2.2 dX5_demand_15
/-! X5_seedNow -/
abbrev wX5_seedNow (cI cJ cS : ClassId) (a_o : Nat) (z_stretches z_cars z_tunes z_demands : Value) (v_drawSeed : Int32) : va_W := [(a_o, .inr (4, [z_stretches, z_cars, z_tunes, z_demands, .int v_drawSeed]))]
def F_X5_seedNow (v_drawSeed : Int32) (post : Int32 → Prop) : Prop := post v_drawSeed
set_option maxHeartbeats 4000000 in
set_option maxRecDepth 100000 in
theorem c_X5_seedNow {l : Launch} {D : va_G} {cI cJ cS : ClassId} {ad adK : Nat → Nat} {a_o : Nat} {z_stretches z_cars z_tunes z_demands : Value} {v_drawSeed : Int32} {post : Int32 → Prop} (h : F_X5_seedNow v_drawSeed post) : Met l yX5_seedNow (Cond.code yX5_seedNow cX5_seedNow 1 (some (.int)) :: GW) (rmd 0 0 0) (PR D cI cJ cS ad adK [.ref a_o] (wX5_seedNow cI cJ cS a_o z_stretches z_cars z_tunes z_demands v_drawSeed)) (vp_Si post) 0 0 nof := by
  refine Met.ro (by decide) (Nat.le_of_ble_eq_true rfl) (fun p e s m args below meth c ls (S : CallFix p m c cX5_seedNow 1 s args GW "RoadThatSings$Road") hE hT hP hS hr hlocks hl => ?_)
  have hx := S.1
  have hb := S.2.1
  have hl : lv_has ls 1 [(0, .ref a_o)] := hl
  unfold F_X5_seedNow at h
  refine lv_aload_n hx hb dX5_seedNow_0 rfl (lv_at hl 0 rfl) ?_
  refine gf S hE hP 0 rfl rfl inX5 (k := 4) (by decide) q104 rfl dX5_seedNow_1 ?_
  exact W.iret hx hb hr (fun t ht _ => ⟨_, rfl, h, ht⟩) (fun _ hq => by cases hq) dX5_seedNow_4
/-! X5_seedAnew -/
abbrev wX5_seedAnew (cI cJ cS : ClassId) (a_o : Nat) (z_stretches z_cars z_tunes z_demands : Value) (v_drawSeed : Int32) : va_W := [(a_o, .inr (4, [z_stretches, z_cars, z_tunes, z_demands, .int v_drawSeed]))]
def F_X5_seedAnew (v_drawSeed : Int32) (x1 : Int32) (post : Int32 → Prop) : Prop := post x1
set_option maxHeartbeats 4000000 in
set_option maxRecDepth 100000 in
theorem c_X5_seedAnew {l : Launch} {D : va_G} {cI cJ cS : ClassId} {ad adK : Nat → Nat} {a_o : Nat} {z_stretches z_cars z_tunes z_demands : Value} {v_drawSeed : Int32} {x1 : Int32} {post : Int32 → Prop} (h : F_X5_seedAnew v_drawSeed x1 post) {sz : Nat} : Met l yX5_seedAnew (Cond.code yX5_seedAnew cX5_seedAnew 2 none :: GW) (rmd 0 0 0) (PW D cI cJ cS ad adK [.ref a_o, .int x1] (wX5_seedAnew cI cJ cS a_o z_stretches z_cars z_tunes z_demands v_drawSeed) sz) (va_Qv (fun u : Int32 => post u) (fun u t => va_P D vwCl (wX5_seedAnew cI cJ cS a_o z_stretches z_cars z_tunes z_demands u) t.heap) (va_A (wX5_seedAnew cI cJ cS a_o z_stretches z_cars z_tunes z_demands v_drawSeed) sz)) 0 0 (va_A (wX5_seedAnew cI cJ cS a_o z_stretches z_cars z_tunes z_demands v_drawSeed) sz) := by
  refine Met.rw (Qc := fun A => (va_Qv (fun u : Int32 => post u) (fun u t => va_P D vwCl (wX5_seedAnew cI cJ cS a_o z_stretches z_cars z_tunes z_demands u) t.heap) A)) (by decide) (Nat.le_of_ble_eq_true rfl) (fun p e s m args below meth c ls A (S : CallFix p m c cX5_seedAnew 2 s args GW "RoadThatSings$Road") hE hT hP hD hA hS hr hlocks hname hl => ?_)
  have hS0 := hS
  have hx := S.1
  have hb := S.2.1
  have hl : lv_has ls 2 [(0, .ref a_o), (1, .int x1)] := hl
  unfold F_X5_seedAnew at h
  refine lv_aload_n hx hb dX5_seedAnew_0 rfl (lv_at hl 0 rfl) ?_
  refine lv_iload_n hx hb dX5_seedAnew_1 rfl (lv_at hl 1 rfl) ?_
  refine pf S hE hP hD hS 0 (k := 4) rfl rfl inX5 tyX5_ok nmX5 (by decide) q104 rfl rfl rfl (Nat.le_of_ble_eq_true rfl) dX5_seedAnew_2 (fun H locs hP hD hS => ?_)
  have hP : va_P D vwCl (wX5_seedAnew cI cJ cS a_o z_stretches z_cars z_tunes z_demands x1) H := hP
  have hD : va_D A (wX5_seedAnew cI cJ cS a_o z_stretches z_cars z_tunes z_demands x1) := hD
  exact W.vret hx hb hr (fun t ht _ => ⟨⟨x1, rfl, h, hPt hP ht⟩, hS.F ht⟩) hS.2.2 dX5_seedAnew_5
/-! X5_draw -/
abbrev wX5_draw (cI cJ cS : ClassId) (a_o : Nat) (z_stretches z_cars z_tunes z_demands : Value) (v_drawSeed : Int32) : va_W := [(a_o, .inr (4, [z_stretches, z_cars, z_tunes, z_demands, .int v_drawSeed]))]
def F_X5_draw (v_drawSeed : Int32) (x1 : Int32) (post : Int32 → Int32 → Prop) : Prop := ((0 < x1 → (¬ x1 = 0 ∧ post (((((v_drawSeed * 1103515245) + 12345).toUInt32 >>> ((16 : Int32).toUInt32 &&& Int32.toUInt32 31)).toInt32) - ((((v_drawSeed * 1103515245) + 12345).toUInt32 >>> ((16 : Int32).toUInt32 &&& Int32.toUInt32 31)).toInt32) / x1 * x1) ((v_drawSeed * 1103515245) + 12345))) ∧ (¬ 0 < x1 → post 0 ((v_drawSeed * 1103515245) + 12345)))
set_option maxHeartbeats 4000000 in
set_option maxRecDepth 100000 in
theorem c_X5_draw {l : Launch} {D : va_G} {cI cJ cS : ClassId} {ad adK : Nat → Nat} {a_o : Nat} {z_stretches z_cars z_tunes z_demands : Value} {v_drawSeed : Int32} {x1 : Int32} {post : Int32 → Int32 → Prop} (h : F_X5_draw v_drawSeed x1 post) {sz : Nat} : Met l yX5_draw (Cond.code yX5_draw cX5_draw 2 (some (.int)) :: GW) (rmd 0 0 0) (PW D cI cJ cS ad adK [.ref a_o, .int x1] (wX5_draw cI cJ cS a_o z_stretches z_cars z_tunes z_demands v_drawSeed) sz) (va_Qi (fun r (u : Int32) => post r u) (fun u t => va_P D vwCl (wX5_draw cI cJ cS a_o z_stretches z_cars z_tunes z_demands u) t.heap) (va_A (wX5_draw cI cJ cS a_o z_stretches z_cars z_tunes z_demands v_drawSeed) sz)) 0 0 (va_A (wX5_draw cI cJ cS a_o z_stretches z_cars z_tunes z_demands v_drawSeed) sz) := by
  refine Met.rw (Qc := fun A => (va_Qi (fun r (u : Int32) => post r u) (fun u t => va_P D vwCl (wX5_draw cI cJ cS a_o z_stretches z_cars z_tunes z_demands u) t.heap) A)) (by decide) (Nat.le_of_ble_eq_true rfl) (fun p e s m args below meth c ls A (S : CallFix p m c cX5_draw 2 s args GW "RoadThatSings$Road") hE hT hP hD hA hS hr hlocks hname hl => ?_)
  have hS0 := hS
  have hx := S.1
  have hb := S.2.1
  have hl : lv_has ls 2 [(0, .ref a_o), (1, .int x1)] := hl
  unfold F_X5_draw at h
  refine lv_aload_n hx hb dX5_draw_0 rfl (lv_at hl 0 rfl) ?_
  refine lv_aload_n hx hb dX5_draw_1 rfl (lv_at hl 0 rfl) ?_
  refine gf S hE hP 0 rfl rfl inX5 (k := 4) (by decide) q104 rfl dX5_draw_2 ?_
  refine lv_ldc (v := 1103515245) hx hb S.2.2.2.1 (S.2.2.2.2 _ q1008) dX5_draw_5 ?_
  refine lv_imul hx hb dX5_draw_7 ?_
  refine lv_sipush (v := 12345) hx hb dX5_draw_8 (by decide) ?_
  refine lv_iadd hx hb dX5_draw_11 ?_
  refine pf S hE hP hD hS 0 (k := 4) rfl rfl inX5 tyX5_ok nmX5 (by decide) q104 rfl rfl rfl (Nat.le_of_ble_eq_true rfl) dX5_draw_12 (fun H locs hP hD hS => ?_)
  have hP : va_P D vwCl (wX5_draw cI cJ cS a_o z_stretches z_cars z_tunes z_demands ((v_drawSeed * 1103515245) + 12345)) H := hP
  have hD : va_D A (wX5_draw cI cJ cS a_o z_stretches z_cars z_tunes z_demands ((v_drawSeed * 1103515245) + 12345)) := hD
  refine lv_iload_n hx hb dX5_draw_15 rfl (lv_at hl 1 rfl) ?_
  refine lv_if_gt (tgt := 23) hx hb dX5_draw_16 (by decide) (fun hc => ?_) (fun hc => ?_)
  · have h := h.1 hc
    refine lv_aload_n hx hb dX5_draw_23 rfl (lv_at hl 0 rfl) ?_
    refine gf S hE hP 0 rfl rfl inX5 (k := 4) (by decide) q104 rfl dX5_draw_24 ?_
    refine lv_bipush (v := 16) hx hb dX5_draw_27 (by decide) ?_
    refine lv_iushr hx hb dX5_draw_29 rfl ?_
    refine lv_iload_n hx hb dX5_draw_30 rfl (lv_at hl 1 rfl) ?_
    obtain ⟨hz, h⟩ := h
    refine lv_irem hx hb dX5_draw_31 hz ?_
    exact W.iret hx hb hr (fun t ht _ => ⟨⟨_, ((v_drawSeed * 1103515245) + 12345), rfl, h, hPt hP ht⟩, hS.F ht⟩) hS.2.2 dX5_draw_32
  have h := h.2 hc
  refine lv_iconst (v := 0) hx hb dX5_draw_19 (by decide) ?_
  refine lv_goto (tgt := 32) hx hb dX5_draw_20 (by decide) ?_
  exact W.iret hx hb hr (fun t ht _ => ⟨⟨_, ((v_drawSeed * 1103515245) + 12345), rfl, h, hPt hP ht⟩, hS.F ht⟩) hS.2.2 dX5_draw_32
/-! X7_has -/
abbrev wX7_has (cI cJ cS : ClassId) (a_o : Nat) (z_kinds z_spaces z_others z_times : Value) (v_stretchCount : Int32) : va_W := [(a_o, .inr (6, [z_kinds, z_spaces, z_others, z_times, .int v_stretchCount]))]
def F_X7_has (v_stretchCount : Int32) (x1 : Int32) (post : Int32 → Prop) : Prop := ((x1 < 0 → post 0) ∧ (¬ x1 < 0 → ((v_stretchCount ≤ x1 → post 0) ∧ (¬ v_stretchCount ≤ x1 → ((16 ≤ x1 → post 0) ∧ (¬ 16 ≤ x1 → post 1))))))
set_option maxHeartbeats 4000000 in
set_option maxRecDepth 100000 in
theorem c_X7_has {l : Launch} {D : va_G} {cI cJ cS : ClassId} {ad adK : Nat → Nat} {a_o : Nat} {z_kinds z_spaces z_others z_times : Value} {v_stretchCount : Int32} {x1 : Int32} {post : Int32 → Prop} (h : F_X7_has v_stretchCount x1 post) : Met l yX7_has (Cond.code yX7_has cX7_has 2 (some (.boolean)) :: GW) (rmd 0 0 0) (PR D cI cJ cS ad adK [.ref a_o, .int x1] (wX7_has cI cJ cS a_o z_kinds z_spaces z_others z_times v_stretchCount)) (vp_Si post) 0 0 nof := by
  refine Met.ro (by decide) (Nat.le_of_ble_eq_true rfl) (fun p e s m args below meth c ls (S : CallFix p m c cX7_has 2 s args GW "RoadThatSings$Stretches") hE hT hP hS hr hlocks hl => ?_)
  have hx := S.1
  have hb := S.2.1
  have hl : lv_has ls 2 [(0, .ref a_o), (1, .int x1)] := hl
  unfold F_X7_has at h
  refine lv_iload_n hx hb dX7_has_0 rfl (lv_at hl 1 rfl) ?_
  refine lv_if_lt (tgt := 22) hx hb dX7_has_1 (by decide) (fun hc => ?_) (fun hc => ?_)
  · have h := h.1 hc
    refine lv_iconst (v := 0) hx hb dX7_has_22 (by decide) ?_
    exact W.zret hx hb hr rfl (fun t ht _ => ⟨_, rfl, h, ht⟩) (fun _ hq => by cases hq) dX7_has_23
  have h := h.2 hc
  refine lv_iload_n hx hb dX7_has_4 rfl (lv_at hl 1 rfl) ?_
  refine lv_aload_n hx hb dX7_has_5 rfl (lv_at hl 0 rfl) ?_
  refine gf S hE hP 0 rfl rfl inX7 (k := 4) (by decide) q42 rfl dX7_has_6 ?_
  refine lv_icmp_ge (tgt := 22) hx hb dX7_has_9 (by decide) (fun hc => ?_) (fun hc => ?_)
  · have h := h.1 hc
    refine lv_iconst (v := 0) hx hb dX7_has_22 (by decide) ?_
    exact W.zret hx hb hr rfl (fun t ht _ => ⟨_, rfl, h, ht⟩) (fun _ hq => by cases hq) dX7_has_23
  have h := h.2 hc
  refine lv_iload_n hx hb dX7_has_12 rfl (lv_at hl 1 rfl) ?_
  refine lv_bipush (v := 16) hx hb dX7_has_13 (by decide) ?_
  refine lv_icmp_ge (tgt := 22) hx hb dX7_has_15 (by decide) (fun hc => ?_) (fun hc => ?_)
  · have h := h.1 hc
    refine lv_iconst (v := 0) hx hb dX7_has_22 (by decide) ?_
    exact W.zret hx hb hr rfl (fun t ht _ => ⟨_, rfl, h, ht⟩) (fun _ hq => by cases hq) dX7_has_23
  have h := h.2 hc
  refine lv_iconst (v := 1) hx hb dX7_has_18 (by decide) ?_
  refine lv_goto (tgt := 23) hx hb dX7_has_19 (by decide) ?_
  exact W.zret hx hb hr rfl (fun t ht _ => ⟨_, rfl, h, ht⟩) (fun _ hq => by cases hq) dX7_has_23
/-! X7_kindOf -/
abbrev wX7_kindOf (cI cJ cS : ClassId) (a_o a_kinds : Nat) (z_spaces z_others z_times : Value) (v_stretchCount : Int32) (f_kinds : Nat → Int32) : va_W := [(a_o, .inr (6, [.ref a_kinds, z_spaces, z_others, z_times, .int v_stretchCount])), (a_kinds, .inl (cI, 16, .inl f_kinds))]
def F_X7_kindOf (v_stretchCount : Int32) (f_kinds : Nat → Int32) (x1 : Int32) (post : Int32 → Prop) : Prop := (F_X7_has v_stretchCount x1 (fun r2 => ((r2 = 0 → post (-1)) ∧ (¬ r2 = 0 → (vp_in x1 16 ∧ post (f_kinds x1.toNatClampNeg))))))
set_option maxHeartbeats 4000000 in
set_option maxRecDepth 100000 in
theorem c_X7_kindOf {l : Launch} {D : va_G} {cI cJ cS : ClassId} {ad adK : Nat → Nat} {a_o a_kinds : Nat} {z_spaces z_others z_times : Value} {v_stretchCount : Int32} {f_kinds : Nat → Int32} {x1 : Int32} {post : Int32 → Prop} (h : F_X7_kindOf v_stretchCount f_kinds x1 post) : Met l yX7_kindOf (Cond.code yX7_kindOf cX7_kindOf 2 (some (.int)) :: GW) (rmd 1 0 0) (PR D cI cJ cS ad adK [.ref a_o, .int x1] (wX7_kindOf cI cJ cS a_o a_kinds z_spaces z_others z_times v_stretchCount f_kinds)) (vp_Si post) 0 0 nof := by
  refine Met.ro (by decide) (Nat.le_of_ble_eq_true rfl) (fun p e s m args below meth c ls (S : CallFix p m c cX7_kindOf 2 s args GW "RoadThatSings$Stretches") hE hT hP hS hr hlocks hl => ?_)
  have hx := S.1
  have hb := S.2.1
  have hl : lv_has ls 2 [(0, .ref a_o), (1, .int x1)] := hl
  unfold F_X7_kindOf at h
  refine lv_aload_n hx hb dX7_kindOf_0 rfl (lv_at hl 0 rfl) ?_
  refine lv_iload_n hx hb dX7_kindOf_1 rfl (lv_at hl 1 rfl) ?_
  refine ro_i (roV S hE hT hS (c_X7_has h) lkX7_47 rfl ⟨(Nat.le_of_ble_eq_true rfl), (Nat.le_of_ble_eq_true rfl)⟩ (hP.sub [0] rfl) 0 rfl rfl hl.1 rfl (Nat.le_of_ble_eq_true rfl) dX7_kindOf_2 ⟨(Nat.zero_le _), (Nat.zero_le _)⟩) (fun r2 h => ?_)
  refine lv_if_eq (tgt := 17) hx hb dX7_kindOf_5 (by decide) (fun hc => ?_) (fun hc => ?_)
  · have h := h.1 hc
    refine lv_iconst (v := (-1)) hx hb dX7_kindOf_17 (by decide) ?_
    exact W.iret hx hb hr (fun t ht _ => ⟨_, rfl, h, ht⟩) (fun _ hq => by cases hq) dX7_kindOf_18
  have h := h.2 hc
  refine lv_aload_n hx hb dX7_kindOf_8 rfl (lv_at hl 0 rfl) ?_
  refine gf S hE hP 0 rfl rfl inX7 (k := 0) (by decide) q38 rfl dX7_kindOf_9 ?_
  refine lv_iload_n hx hb dX7_kindOf_12 rfl (lv_at hl 1 rfl) ?_
  obtain ⟨hi, h⟩ := h
  refine ial S hE hP 1 rfl hi dX7_kindOf_13 ?_
  refine lv_goto (tgt := 18) hx hb dX7_kindOf_14 (by decide) ?_
  exact W.iret hx hb hr (fun t ht _ => ⟨_, rfl, h, ht⟩) (fun _ hq => by cases hq) dX7_kindOf_18
/-! X9_isOfTwoSpaces -/
abbrev wX9_isOfTwoSpaces (cI cJ cS : ClassId) : va_W := []
def F_X9_isOfTwoSpaces (x0 : Int32) (post : Int32 → Prop) : Prop := ((x0 = 2 → post 1) ∧ (¬ x0 = 2 → ((x0 = 5 → post 1) ∧ (¬ x0 = 5 → post 0))))
set_option maxHeartbeats 4000000 in
set_option maxRecDepth 100000 in
theorem c_X9_isOfTwoSpaces {l : Launch} {D : va_G} {cI cJ cS : ClassId} {ad adK : Nat → Nat}  {x0 : Int32} {post : Int32 → Prop} (h : F_X9_isOfTwoSpaces x0 post) : Met l yX9_isOfTwoSpaces (Cond.code yX9_isOfTwoSpaces cX9_isOfTwoSpaces 1 (some (.boolean)) :: GW) (rmd 0 0 0) (PR D cI cJ cS ad adK [.int x0] (wX9_isOfTwoSpaces cI cJ cS)) (vp_Si post) 0 0 nof := by
  refine Met.ro (by decide) (Nat.le_of_ble_eq_true rfl) (fun p e s m args below meth c ls (S : CallFix p m c cX9_isOfTwoSpaces 1 s args GW "RoadThatSings") hE hT hP hS hr hlocks hl => ?_)
  have hx := S.1
  have hb := S.2.1
  have hl : lv_has ls 1 [(0, .int x0)] := hl
  unfold F_X9_isOfTwoSpaces at h
  refine lv_iload_n hx hb dX9_isOfTwoSpaces_0 rfl (lv_at hl 0 rfl) ?_
  refine lv_iconst (v := 2) hx hb dX9_isOfTwoSpaces_1 (by decide) ?_
  refine lv_icmp_eq (tgt := 10) hx hb dX9_isOfTwoSpaces_2 (by decide) (fun hc => ?_) (fun hc => ?_)
  · have h := h.1 hc
    refine lv_iconst (v := 1) hx hb dX9_isOfTwoSpaces_10 (by decide) ?_
    refine lv_goto (tgt := 15) hx hb dX9_isOfTwoSpaces_11 (by decide) ?_
    exact W.zret hx hb hr rfl (fun t ht _ => ⟨_, rfl, h, ht⟩) (fun _ hq => by cases hq) dX9_isOfTwoSpaces_15
  have h := h.2 hc
  refine lv_iload_n hx hb dX9_isOfTwoSpaces_5 rfl (lv_at hl 0 rfl) ?_
  refine lv_iconst (v := 5) hx hb dX9_isOfTwoSpaces_6 (by decide) ?_
  refine lv_icmp_ne (tgt := 14) hx hb dX9_isOfTwoSpaces_7 (by decide) (fun hc => ?_) (fun hc => ?_)
  · have h := h.2 hc
    refine lv_iconst (v := 0) hx hb dX9_isOfTwoSpaces_14 (by decide) ?_
    exact W.zret hx hb hr rfl (fun t ht _ => ⟨_, rfl, h, ht⟩) (fun _ hq => by cases hq) dX9_isOfTwoSpaces_15
  have h := h.1 hc
  refine lv_iconst (v := 1) hx hb dX9_isOfTwoSpaces_10 (by decide) ?_
  refine lv_goto (tgt := 15) hx hb dX9_isOfTwoSpaces_11 (by decide) ?_
  exact W.zret hx hb hr rfl (fun t ht _ => ⟨_, rfl, h, ht⟩) (fun _ hq => by cases hq) dX9_isOfTwoSpaces_15
/-! X7_spacesTogether -/
abbrev wX7_spacesTogether (cI cJ cS : ClassId) (a_o a_kinds a_others a_spaces : Nat) (z_times : Value) (v_stretchCount : Int32) (f_kinds : Nat → Int32) (f_others : Nat → Int32) (f_spaces : Nat → Int32) : va_W := [(a_o, .inr (6, [.ref a_kinds, .ref a_spaces, .ref a_others, z_times, .int v_stretchCount])), (a_kinds, .inl (cI, 16, .inl f_kinds)), (a_others, .inl (cI, 16, .inl f_others)), (a_spaces, .inl (cI, 16, .inl f_spaces))]
def F_X7_spacesTogether (v_stretchCount : Int32) (f_kinds : Nat → Int32) (f_others : Nat → Int32) (f_spaces : Nat → Int32) (x1 : Int32) (post : Int32 → Prop) : Prop := (F_X7_has v_stretchCount x1 (fun r2 => ((r2 = 0 → post 0) ∧ (¬ r2 = 0 → (vp_in x1 16 ∧ (F_X9_isOfTwoSpaces (f_kinds x1.toNatClampNeg) (fun r16 => ((r16 = 0 → (vp_in x1 16 ∧ post (f_spaces x1.toNatClampNeg))) ∧ (¬ r16 = 0 → (vp_in x1 16 ∧ (vp_in x1 16 ∧ post ((f_spaces x1.toNatClampNeg) + (f_others x1.toNatClampNeg)))))))))))))
set_option maxHeartbeats 4000000 in
set_option maxRecDepth 100000 in
theorem c_X7_spacesTogether {l : Launch} {D : va_G} {cI cJ cS : ClassId} {ad adK : Nat → Nat} {a_o a_kinds a_others a_spaces : Nat} {z_times : Value} {v_stretchCount : Int32} {f_kinds : Nat → Int32} {f_others : Nat → Int32} {f_spaces : Nat → Int32} {x1 : Int32} {post : Int32 → Prop} (h : F_X7_spacesTogether v_stretchCount f_kinds f_others f_spaces x1 post) : Met l yX7_spacesTogether (Cond.code yX7_spacesTogether cX7_spacesTogether 2 (some (.int)) :: GW) (rmd 1 0 0) (PR D cI cJ cS ad adK [.ref a_o, .int x1] (wX7_spacesTogether cI cJ cS a_o a_kinds a_others a_spaces z_times v_stretchCount f_kinds f_others f_spaces)) (vp_Si post) 0 0 nof := by
  refine Met.ro (by decide) (Nat.le_of_ble_eq_true rfl) (fun p e s m args below meth c ls (S : CallFix p m c cX7_spacesTogether 2 s args GW "RoadThatSings$Stretches") hE hT hP hS hr hlocks hl => ?_)
  have hx := S.1
  have hb := S.2.1
  have hl : lv_has ls 2 [(0, .ref a_o), (1, .int x1)] := hl
  unfold F_X7_spacesTogether at h
  refine lv_aload_n hx hb dX7_spacesTogether_0 rfl (lv_at hl 0 rfl) ?_
  refine lv_iload_n hx hb dX7_spacesTogether_1 rfl (lv_at hl 1 rfl) ?_
  refine ro_i (roV S hE hT hS (c_X7_has h) lkX7_47 rfl ⟨(Nat.le_of_ble_eq_true rfl), (Nat.le_of_ble_eq_true rfl)⟩ (hP.sub [0] rfl) 0 rfl rfl hl.1 rfl (Nat.le_of_ble_eq_true rfl) dX7_spacesTogether_2 ⟨(Nat.zero_le _), (Nat.zero_le _)⟩) (fun r2 h => ?_)
  refine lv_if_ne (tgt := 10) hx hb dX7_spacesTogether_5 (by decide) (fun hc => ?_) (fun hc => ?_)
  · have h := h.2 hc
    refine lv_aload_n hx hb dX7_spacesTogether_10 rfl (lv_at hl 0 rfl) ?_
    refine gf S hE hP 0 rfl rfl inX7 (k := 0) (by decide) q38 rfl dX7_spacesTogether_11 ?_
    refine lv_iload_n hx hb dX7_spacesTogether_14 rfl (lv_at hl 1 rfl) ?_
    obtain ⟨hi, h⟩ := h
    refine ial S hE hP 1 rfl hi dX7_spacesTogether_15 ?_
    refine ro_i (roSN S hE hT hS (c_X9_isOfTwoSpaces h) lkX7_51 rfl ⟨(Nat.le_of_ble_eq_true rfl), (Nat.le_of_ble_eq_true rfl)⟩ (hP.sub [] rfl) hl.1 rfl (Nat.le_of_ble_eq_true rfl) dX7_spacesTogether_16 ⟨(Nat.zero_le _), (Nat.zero_le _)⟩) (fun r16 h => ?_)
    refine lv_if_eq (tgt := 38) hx hb dX7_spacesTogether_19 (by decide) (fun hc => ?_) (fun hc => ?_)
    · have h := h.1 hc
      refine lv_aload_n hx hb dX7_spacesTogether_38 rfl (lv_at hl 0 rfl) ?_
      refine gf S hE hP 0 rfl rfl inX7 (k := 1) (by decide) q39 rfl dX7_spacesTogether_39 ?_
      refine lv_iload_n hx hb dX7_spacesTogether_42 rfl (lv_at hl 1 rfl) ?_
      obtain ⟨hi, h⟩ := h
      refine ial S hE hP 3 rfl hi dX7_spacesTogether_43 ?_
      exact W.iret hx hb hr (fun t ht _ => ⟨_, rfl, h, ht⟩) (fun _ hq => by cases hq) dX7_spacesTogether_44
    have h := h.2 hc
    refine lv_aload_n hx hb dX7_spacesTogether_22 rfl (lv_at hl 0 rfl) ?_
    refine gf S hE hP 0 rfl rfl inX7 (k := 1) (by decide) q39 rfl dX7_spacesTogether_23 ?_
    refine lv_iload_n hx hb dX7_spacesTogether_26 rfl (lv_at hl 1 rfl) ?_
    obtain ⟨hi, h⟩ := h
    refine ial S hE hP 3 rfl hi dX7_spacesTogether_27 ?_
    refine lv_aload_n hx hb dX7_spacesTogether_28 rfl (lv_at hl 0 rfl) ?_
    refine gf S hE hP 0 rfl rfl inX7 (k := 2) (by decide) q40 rfl dX7_spacesTogether_29 ?_
    refine lv_iload_n hx hb dX7_spacesTogether_32 rfl (lv_at hl 1 rfl) ?_
    obtain ⟨hi, h⟩ := h
    refine ial S hE hP 2 rfl hi dX7_spacesTogether_33 ?_
    refine lv_iadd hx hb dX7_spacesTogether_34 ?_
    refine lv_goto (tgt := 44) hx hb dX7_spacesTogether_35 (by decide) ?_
    exact W.iret hx hb hr (fun t ht _ => ⟨_, rfl, h, ht⟩) (fun _ hq => by cases hq) dX7_spacesTogether_44
  have h := h.1 hc
  refine lv_iconst (v := 0) hx hb dX7_spacesTogether_8 (by decide) ?_
  exact W.iret hx hb hr (fun t ht _ => ⟨_, rfl, h, ht⟩) (fun _ hq => by cases hq) dX7_spacesTogether_9
