/-! J7_fill_d0a16 -/
abbrev wJ7_fill_d0a16 (cI cJ cS : ClassId) (a_p0 : Nat) (n_p0 : Nat) (g_p0 : Nat → Int64) : va_W := [(a_p0, .inl (cJ, n_p0, .inr (.inl g_p0)))]
def L_J7_fill_d0a16_6 (n_p0 : Nat) (y1 : Int64) (x4 : Int32) (post : (Nat → Int64) → Prop) : Nat → Int32 → (Nat → Int64) → Prop
  | 0, _, _ => False
  | n6 + 1, x3, g_p0 => ((x4 ≤ x3 → post g_p0) ∧ (¬ x4 ≤ x3 → (vp_in x3 n_p0 ∧ (∀ x3_16 : Int32, x3_16 = x3 + 1 → L_J7_fill_d0a16_6 n_p0 y1 x4 post n6 x3_16 (vp_updL g_p0 x3.toNatClampNeg y1)))))
def F_J7_fill_d0a16 (n_p0 : Nat) (g_p0 : Nat → Int64) (y1 : Int64) (post : (Nat → Int64) → Prop) : Prop := (∀ x4_4 : Int32, x4_4 = nI n_p0 → (∃ n6 : Nat, L_J7_fill_d0a16_6 n_p0 y1 x4_4 post n6 0 g_p0))
set_option maxHeartbeats 4000000 in
set_option maxRecDepth 100000 in
theorem w_J7_fill_d0a16_6 {l : Launch} {D : va_G} {cI cJ cS : ClassId} {ad adK : Nat → Nat} {a_p0 : Nat} {n_p0 : Nat} {y1 : Int64} {x4 : Int32} {post : (Nat → Int64) → Prop} {p : Program} {e : Env} {s : State} {m : MethodId} {args : Array Value} {below : List Frame} {meth : Method} {c : Code} {A : Nat → Prop} (S : CallFix p m c cJ7_fill_d0a16 5 s args GW "java/util/Arrays") (hE : EN D cI cJ cS s) (hT : ST ad adK A s s.heap) (hA : ∀ q : Nat, s.heap.size ≤ q → A q) (hr : meth.sig.returnType = none) (hlocks : meth.locks = false) : ∀ n : Nat, ∀ (x3 : Int32) (g_p0 : Nat → Int64) (H : Heap) (locs : List Loc) (ls : Array Slot), L_J7_fill_d0a16_6 n_p0 y1 x4 post n x3 g_p0 → va_P D vwCl (wJ7_fill_d0a16 cI cJ cS a_p0 n_p0 g_p0) H → va_D A (wJ7_fill_d0a16 cI cJ cS a_p0 n_p0 g_p0) → va_S A s.heap H locs → lv_has ls 5 [(0, .ref a_p0), (1, .long y1), (3, .int x3), (4, .int x4)] → W p l e (rmd 0 0 0) s m args below meth c H locs 0 0 (MQ below (va_Qv (fun u : (Nat → Int64) => post u) (fun u t => va_P D vwCl (wJ7_fill_d0a16 cI cJ cS a_p0 n_p0 u) t.heap) A) args s 0 0 A) (F0 m 6 ls []) := by
  intro n
  induction n with
  | zero =>
    intro x3 g_p0 H locs ls h hP hD hS hl
    exact h.elim
  | succ n ih =>
    intro x3 g_p0 H locs ls h hP hD hS hl
    rw [L_J7_fill_d0a16_6] at h
    have hx := S.1
    have hb := S.2.1
    refine lv_iload_n hx hb dJ7_fill_d0a16_6 rfl (lv_at hl 2 rfl) ?_
    refine lv_iload hx hb dJ7_fill_d0a16_7 (lv_at hl 3 rfl) ?_
    refine lv_icmp_ge (tgt := 22) hx hb dJ7_fill_d0a16_9 (by decide) (fun hc => ?_) (fun hc => ?_)
    · have h := h.1 hc
      exact W.vret hx hb hr (fun t ht _ => ⟨⟨g_p0, rfl, h, hPt hP ht⟩, hS.F ht⟩) hS.2.2 dJ7_fill_d0a16_22
    have h := h.2 hc
    refine lv_aload_n hx hb dJ7_fill_d0a16_12 rfl (lv_at hl 0 rfl) ?_
    refine lv_iload_n hx hb dJ7_fill_d0a16_13 rfl (lv_at hl 2 rfl) ?_
    refine lv_lload_n hx hb dJ7_fill_d0a16_14 rfl (lv_at hl 1 rfl) ?_
    obtain ⟨hi, h⟩ := h
    refine las S hE hP hD hS 0 rfl hi dJ7_fill_d0a16_15 (fun H locs hP hD hS => ?_)
    have hP : va_P D vwCl (wJ7_fill_d0a16 cI cJ cS a_p0 n_p0 (vp_updL g_p0 x3.toNatClampNeg y1)) H := hP
    have hD : va_D A (wJ7_fill_d0a16 cI cJ cS a_p0 n_p0 (vp_updL g_p0 x3.toNatClampNeg y1)) := hD
    obtain ⟨x3_16, ex3_16⟩ : ∃ z : Int32, z = x3 + 1 := ⟨_, rfl⟩
    have h := h _ ex3_16
    refine lv_iinc (v := x3_16) (lv' := [(3, .int x3_16), (0, .ref a_p0), (1, .long y1), (4, .int x4)]) hx hb dJ7_fill_d0a16_16 hl (k := 2) rfl (by rw [ex3_16]; rfl) (by decide) rfl (fun ls hl => ?_)
    refine lv_goto (tgt := 6) hx hb dJ7_fill_d0a16_19 (by decide) ?_
    exact ih _ _ _ _ _ h hP hD hS (lv_sub hl [1, 2, 0, 3] rfl)
set_option maxHeartbeats 4000000 in
set_option maxRecDepth 100000 in
theorem c_J7_fill_d0a16 {l : Launch} {D : va_G} {cI cJ cS : ClassId} {ad adK : Nat → Nat} {a_p0 : Nat} {n_p0 : Nat} {g_p0 : Nat → Int64} {y1 : Int64} {post : (Nat → Int64) → Prop} (h : F_J7_fill_d0a16 n_p0 g_p0 y1 post) {sz : Nat} : Met l yJ7_fill_d0a16 (Cond.code yJ7_fill_d0a16 cJ7_fill_d0a16 5 none :: GW) (rmd 0 0 0) (PW D cI cJ cS ad adK [.ref a_p0, .long y1] (wJ7_fill_d0a16 cI cJ cS a_p0 n_p0 g_p0) sz) (va_Qv (fun u : (Nat → Int64) => post u) (fun u t => va_P D vwCl (wJ7_fill_d0a16 cI cJ cS a_p0 n_p0 u) t.heap) (va_A (wJ7_fill_d0a16 cI cJ cS a_p0 n_p0 g_p0) sz)) 0 0 (va_A (wJ7_fill_d0a16 cI cJ cS a_p0 n_p0 g_p0) sz) := by
  refine Met.rw (Qc := fun A => (va_Qv (fun u : (Nat → Int64) => post u) (fun u t => va_P D vwCl (wJ7_fill_d0a16 cI cJ cS a_p0 n_p0 u) t.heap) A)) (by decide) (Nat.le_of_ble_eq_true rfl) (fun p e s m args below meth c ls A (S : CallFix p m c cJ7_fill_d0a16 5 s args GW "java/util/Arrays") hE hT hP hD hA hS hr hlocks hname hl => ?_)
  have hS0 := hS
  have hx := S.1
  have hb := S.2.1
  have hl : lv_has ls 5 [(0, .ref a_p0), (1, .long y1)] := hl
  unfold F_J7_fill_d0a16 at h
  refine lv_iconst (v := 0) hx hb dJ7_fill_d0a16_0 (by decide) ?_
  refine lv_istore_n (lv' := [(3, .int 0), (0, .ref a_p0), (1, .long y1)]) hx hb dJ7_fill_d0a16_1 rfl hl (by decide) rfl (fun ls hl => ?_)
  refine lv_aload_n hx hb dJ7_fill_d0a16_2 rfl (lv_at hl 1 rfl) ?_
  refine alen S hE hP 0 1 rfl rfl dJ7_fill_d0a16_3 ?_
  refine lv_topi (fun x4_4 ex4_4 => ?_)
  have h := h _ ex4_4
  refine lv_istore (lv' := [(4, .int x4_4), (3, .int 0), (0, .ref a_p0), (1, .long y1)]) hx hb dJ7_fill_d0a16_4 hl (by decide) rfl (fun ls hl => ?_)
  obtain ⟨n, h⟩ := h
  refine w_J7_fill_d0a16_6 S hE hT hA hr hlocks n _ _ _ _ _ h hP hD hS (lv_sub hl [2, 3, 1, 0] rfl)
/-! X0_forget -/
abbrev wX0_forget (cI cJ cS : ClassId) (a_o : Nat) (z_bodies : Value) (v_ran : Int32) (v_kind : Int32) (v_stretchNumber : Int32) (v_space : Int32) : va_W := [(a_o, .inr (0, [z_bodies, .int v_ran, .int v_kind, .int v_stretchNumber, .int v_space]))]
def F_X0_forget (v_ran : Int32) (post : Int32 → Prop) : Prop := post 0
set_option maxHeartbeats 4000000 in
set_option maxRecDepth 100000 in
theorem c_X0_forget {l : Launch} {D : va_G} {cI cJ cS : ClassId} {ad adK : Nat → Nat} {a_o : Nat} {z_bodies : Value} {v_ran : Int32} {v_kind : Int32} {v_stretchNumber : Int32} {v_space : Int32} {post : Int32 → Prop} (h : F_X0_forget v_ran post) {sz : Nat} : Met l yX0_forget (Cond.code yX0_forget cX0_forget 1 none :: GW) (rmd 0 0 0) (PW D cI cJ cS ad adK [.ref a_o] (wX0_forget cI cJ cS a_o z_bodies v_ran v_kind v_stretchNumber v_space) sz) (va_Qv (fun u : Int32 => post u) (fun u t => va_P D vwCl (wX0_forget cI cJ cS a_o z_bodies u v_kind v_stretchNumber v_space) t.heap) (va_A (wX0_forget cI cJ cS a_o z_bodies v_ran v_kind v_stretchNumber v_space) sz)) 0 0 (va_A (wX0_forget cI cJ cS a_o z_bodies v_ran v_kind v_stretchNumber v_space) sz) := by
  refine Met.rw (Qc := fun A => (va_Qv (fun u : Int32 => post u) (fun u t => va_P D vwCl (wX0_forget cI cJ cS a_o z_bodies u v_kind v_stretchNumber v_space) t.heap) A)) (by decide) (Nat.le_of_ble_eq_true rfl) (fun p e s m args below meth c ls A (S : CallFix p m c cX0_forget 1 s args GW "RoadThatSings$Acting") hE hT hP hD hA hS hr hlocks hname hl => ?_)
  have hS0 := hS
  have hx := S.1
  have hb := S.2.1
  have hl : lv_has ls 1 [(0, .ref a_o)] := hl
  unfold F_X0_forget at h
  refine lv_aload_n hx hb dX0_forget_0 rfl (lv_at hl 0 rfl) ?_
  refine lv_iconst (v := 0) hx hb dX0_forget_1 (by decide) ?_
  refine pf S hE hP hD hS 0 (k := 1) rfl rfl inX0 tyX0_ok nmX0 (by decide) q144 rfl rfl rfl (Nat.le_of_ble_eq_true rfl) dX0_forget_2 (fun H locs hP hD hS => ?_)
  have hP : va_P D vwCl (wX0_forget cI cJ cS a_o z_bodies 0 v_kind v_stretchNumber v_space) H := hP
  have hD : va_D A (wX0_forget cI cJ cS a_o z_bodies 0 v_kind v_stretchNumber v_space) := hD
  exact W.vret hx hb hr (fun t ht _ => ⟨⟨0, rfl, h, hPt hP ht⟩, hS.F ht⟩) hS.2.2 dX0_forget_5
/-! X0_begin -/
abbrev wX0_begin (cI cJ cS : ClassId) (a_o : Nat) (z_bodies : Value) (v_ran : Int32) (v_kind : Int32) (v_stretchNumber : Int32) (v_space : Int32) : va_W := [(a_o, .inr (0, [z_bodies, .int v_ran, .int v_kind, .int v_stretchNumber, .int v_space]))]
def F_X0_begin (v_kind : Int32) (v_stretchNumber : Int32) (v_space : Int32) (x1 : Int32) (x2 : Int32) (x3 : Int32) (post : Int32 → Int32 → Int32 → Prop) : Prop := post x1 x2 x3
set_option maxHeartbeats 4000000 in
set_option maxRecDepth 100000 in
theorem c_X0_begin {l : Launch} {D : va_G} {cI cJ cS : ClassId} {ad adK : Nat → Nat} {a_o : Nat} {z_bodies : Value} {v_ran : Int32} {v_kind : Int32} {v_stretchNumber : Int32} {v_space : Int32} {x1 : Int32} {x2 : Int32} {x3 : Int32} {post : Int32 → Int32 → Int32 → Prop} (h : F_X0_begin v_kind v_stretchNumber v_space x1 x2 x3 post) {sz : Nat} : Met l yX0_begin (Cond.code yX0_begin cX0_begin 4 none :: GW) (rmd 0 0 0) (PW D cI cJ cS ad adK [.ref a_o, .int x1, .int x2, .int x3] (wX0_begin cI cJ cS a_o z_bodies v_ran v_kind v_stretchNumber v_space) sz) (va_Qv (fun u : Int32 × Int32 × Int32 => post u.1 u.2.1 u.2.2) (fun u t => va_P D vwCl (wX0_begin cI cJ cS a_o z_bodies v_ran u.1 u.2.1 u.2.2) t.heap) (va_A (wX0_begin cI cJ cS a_o z_bodies v_ran v_kind v_stretchNumber v_space) sz)) 0 0 (va_A (wX0_begin cI cJ cS a_o z_bodies v_ran v_kind v_stretchNumber v_space) sz) := by
  refine Met.rw (Qc := fun A => (va_Qv (fun u : Int32 × Int32 × Int32 => post u.1 u.2.1 u.2.2) (fun u t => va_P D vwCl (wX0_begin cI cJ cS a_o z_bodies v_ran u.1 u.2.1 u.2.2) t.heap) A)) (by decide) (Nat.le_of_ble_eq_true rfl) (fun p e s m args below meth c ls A (S : CallFix p m c cX0_begin 4 s args GW "RoadThatSings$Acting") hE hT hP hD hA hS hr hlocks hname hl => ?_)
  have hS0 := hS
  have hx := S.1
  have hb := S.2.1
  have hl : lv_has ls 4 [(0, .ref a_o), (1, .int x1), (2, .int x2), (3, .int x3)] := hl
  unfold F_X0_begin at h
  refine lv_aload_n hx hb dX0_begin_0 rfl (lv_at hl 0 rfl) ?_
  refine lv_iload_n hx hb dX0_begin_1 rfl (lv_at hl 1 rfl) ?_
  refine pf S hE hP hD hS 0 (k := 2) rfl rfl inX0 tyX0_ok nmX0 (by decide) q145 rfl rfl rfl (Nat.le_of_ble_eq_true rfl) dX0_begin_2 (fun H locs hP hD hS => ?_)
  have hP : va_P D vwCl (wX0_begin cI cJ cS a_o z_bodies v_ran x1 v_stretchNumber v_space) H := hP
  have hD : va_D A (wX0_begin cI cJ cS a_o z_bodies v_ran x1 v_stretchNumber v_space) := hD
  refine lv_aload_n hx hb dX0_begin_5 rfl (lv_at hl 0 rfl) ?_
  refine lv_iload_n hx hb dX0_begin_6 rfl (lv_at hl 2 rfl) ?_
  refine pf S hE hP hD hS 0 (k := 3) rfl rfl inX0 tyX0_ok nmX0 (by decide) q146 rfl rfl rfl (Nat.le_of_ble_eq_true rfl) dX0_begin_7 (fun H locs hP hD hS => ?_)
  have hP : va_P D vwCl (wX0_begin cI cJ cS a_o z_bodies v_ran x1 x2 v_space) H := hP
  have hD : va_D A (wX0_begin cI cJ cS a_o z_bodies v_ran x1 x2 v_space) := hD
  refine lv_aload_n hx hb dX0_begin_10 rfl (lv_at hl 0 rfl) ?_
  refine lv_iload_n hx hb dX0_begin_11 rfl (lv_at hl 3 rfl) ?_
  refine pf S hE hP hD hS 0 (k := 4) rfl rfl inX0 tyX0_ok nmX0 (by decide) q147 rfl rfl rfl (Nat.le_of_ble_eq_true rfl) dX0_begin_12 (fun H locs hP hD hS => ?_)
  have hP : va_P D vwCl (wX0_begin cI cJ cS a_o z_bodies v_ran x1 x2 x3) H := hP
  have hD : va_D A (wX0_begin cI cJ cS a_o z_bodies v_ran x1 x2 x3) := hD
  exact W.vret hx hb hr (fun t ht _ => ⟨⟨(x1, x2, x3), rfl, h, hPt hP ht⟩, hS.F ht⟩) hS.2.2 dX0_begin_15
/-! X0_kindActing -/
abbrev wX0_kindActing (cI cJ cS : ClassId) (a_o : Nat) (z_bodies : Value) (v_ran : Int32) (v_kind : Int32) (v_stretchNumber : Int32) (v_space : Int32) : va_W := [(a_o, .inr (0, [z_bodies, .int v_ran, .int v_kind, .int v_stretchNumber, .int v_space]))]
def F_X0_kindActing (v_kind : Int32) (post : Int32 → Prop) : Prop := post v_kind
set_option maxHeartbeats 4000000 in
set_option maxRecDepth 100000 in
theorem c_X0_kindActing {l : Launch} {D : va_G} {cI cJ cS : ClassId} {ad adK : Nat → Nat} {a_o : Nat} {z_bodies : Value} {v_ran : Int32} {v_kind : Int32} {v_stretchNumber : Int32} {v_space : Int32} {post : Int32 → Prop} (h : F_X0_kindActing v_kind post) : Met l yX0_kindActing (Cond.code yX0_kindActing cX0_kindActing 1 (some (.int)) :: GW) (rmd 0 0 0) (PR D cI cJ cS ad adK [.ref a_o] (wX0_kindActing cI cJ cS a_o z_bodies v_ran v_kind v_stretchNumber v_space)) (vp_Si post) 0 0 nof := by
  refine Met.ro (by decide) (Nat.le_of_ble_eq_true rfl) (fun p e s m args below meth c ls (S : CallFix p m c cX0_kindActing 1 s args GW "RoadThatSings$Acting") hE hT hP hS hr hlocks hl => ?_)
  have hx := S.1
  have hb := S.2.1
  have hl : lv_has ls 1 [(0, .ref a_o)] := hl
  unfold F_X0_kindActing at h
  refine lv_aload_n hx hb dX0_kindActing_0 rfl (lv_at hl 0 rfl) ?_
  refine gf S hE hP 0 rfl rfl inX0 (k := 2) (by decide) q145 rfl dX0_kindActing_1 ?_
  exact W.iret hx hb hr (fun t ht _ => ⟨_, rfl, h, ht⟩) (fun _ hq => by cases hq) dX0_kindActing_4
/-! X0_bodiesRan -/
abbrev wX0_bodiesRan (cI cJ cS : ClassId) (a_o : Nat) (z_bodies : Value) (v_ran : Int32) (v_kind : Int32) (v_stretchNumber : Int32) (v_space : Int32) : va_W := [(a_o, .inr (0, [z_bodies, .int v_ran, .int v_kind, .int v_stretchNumber, .int v_space]))]
def F_X0_bodiesRan (v_ran : Int32) (post : Int32 → Prop) : Prop := post v_ran
set_option maxHeartbeats 4000000 in
set_option maxRecDepth 100000 in
theorem c_X0_bodiesRan {l : Launch} {D : va_G} {cI cJ cS : ClassId} {ad adK : Nat → Nat} {a_o : Nat} {z_bodies : Value} {v_ran : Int32} {v_kind : Int32} {v_stretchNumber : Int32} {v_space : Int32} {post : Int32 → Prop} (h : F_X0_bodiesRan v_ran post) : Met l yX0_bodiesRan (Cond.code yX0_bodiesRan cX0_bodiesRan 1 (some (.int)) :: GW) (rmd 0 0 0) (PR D cI cJ cS ad adK [.ref a_o] (wX0_bodiesRan cI cJ cS a_o z_bodies v_ran v_kind v_stretchNumber v_space)) (vp_Si post) 0 0 nof := by
  refine Met.ro (by decide) (Nat.le_of_ble_eq_true rfl) (fun p e s m args below meth c ls (S : CallFix p m c cX0_bodiesRan 1 s args GW "RoadThatSings$Acting") hE hT hP hS hr hlocks hl => ?_)
  have hx := S.1
  have hb := S.2.1
  have hl : lv_has ls 1 [(0, .ref a_o)] := hl
  unfold F_X0_bodiesRan at h
  refine lv_aload_n hx hb dX0_bodiesRan_0 rfl (lv_at hl 0 rfl) ?_
  refine gf S hE hP 0 rfl rfl inX0 (k := 1) (by decide) q144 rfl dX0_bodiesRan_1 ?_
  exact W.iret hx hb hr (fun t ht _ => ⟨_, rfl, h, ht⟩) (fun _ hq => by cases hq) dX0_bodiesRan_4
/-! X0_bodyAt -/
abbrev wX0_bodyAt (cI cJ cS : ClassId) (a_o a_bodies : Nat) (v_ran : Int32) (v_kind : Int32) (v_stretchNumber : Int32) (v_space : Int32) (f_bodies : Nat → Int32) : va_W := [(a_o, .inr (0, [.ref a_bodies, .int v_ran, .int v_kind, .int v_stretchNumber, .int v_space])), (a_bodies, .inl (cI, 20, .inl f_bodies))]
def F_X0_bodyAt (v_ran : Int32) (f_bodies : Nat → Int32) (x1 : Int32) (post : Int32 → Prop) : Prop := ((x1 < 0 → post (-1)) ∧ (¬ x1 < 0 → ((v_ran ≤ x1 → post (-1)) ∧ (¬ v_ran ≤ x1 → ((20 ≤ x1 → post (-1)) ∧ (¬ 20 ≤ x1 → (vp_in x1 20 ∧ post (f_bodies x1.toNatClampNeg))))))))
set_option maxHeartbeats 4000000 in
set_option maxRecDepth 100000 in
theorem c_X0_bodyAt {l : Launch} {D : va_G} {cI cJ cS : ClassId} {ad adK : Nat → Nat} {a_o a_bodies : Nat} {v_ran : Int32} {v_kind : Int32} {v_stretchNumber : Int32} {v_space : Int32} {f_bodies : Nat → Int32} {x1 : Int32} {post : Int32 → Prop} (h : F_X0_bodyAt v_ran f_bodies x1 post) : Met l yX0_bodyAt (Cond.code yX0_bodyAt cX0_bodyAt 2 (some (.int)) :: GW) (rmd 0 0 0) (PR D cI cJ cS ad adK [.ref a_o, .int x1] (wX0_bodyAt cI cJ cS a_o a_bodies v_ran v_kind v_stretchNumber v_space f_bodies)) (vp_Si post) 0 0 nof := by
  refine Met.ro (by decide) (Nat.le_of_ble_eq_true rfl) (fun p e s m args below meth c ls (S : CallFix p m c cX0_bodyAt 2 s args GW "RoadThatSings$Acting") hE hT hP hS hr hlocks hl => ?_)
  have hx := S.1
  have hb := S.2.1
  have hl : lv_has ls 2 [(0, .ref a_o), (1, .int x1)] := hl
  unfold F_X0_bodyAt at h
  refine lv_iload_n hx hb dX0_bodyAt_0 rfl (lv_at hl 1 rfl) ?_
  refine lv_if_lt (tgt := 27) hx hb dX0_bodyAt_1 (by decide) (fun hc => ?_) (fun hc => ?_)
  · have h := h.1 hc
    refine lv_iconst (v := (-1)) hx hb dX0_bodyAt_27 (by decide) ?_
    exact W.iret hx hb hr (fun t ht _ => ⟨_, rfl, h, ht⟩) (fun _ hq => by cases hq) dX0_bodyAt_28
  have h := h.2 hc
  refine lv_iload_n hx hb dX0_bodyAt_4 rfl (lv_at hl 1 rfl) ?_
  refine lv_aload_n hx hb dX0_bodyAt_5 rfl (lv_at hl 0 rfl) ?_
  refine gf S hE hP 0 rfl rfl inX0 (k := 1) (by decide) q144 rfl dX0_bodyAt_6 ?_
  refine lv_icmp_ge (tgt := 27) hx hb dX0_bodyAt_9 (by decide) (fun hc => ?_) (fun hc => ?_)
  · have h := h.1 hc
    refine lv_iconst (v := (-1)) hx hb dX0_bodyAt_27 (by decide) ?_
    exact W.iret hx hb hr (fun t ht _ => ⟨_, rfl, h, ht⟩) (fun _ hq => by cases hq) dX0_bodyAt_28
  have h := h.2 hc
  refine lv_iload_n hx hb dX0_bodyAt_12 rfl (lv_at hl 1 rfl) ?_
  refine lv_bipush (v := 20) hx hb dX0_bodyAt_13 (by decide) ?_
  refine lv_icmp_ge (tgt := 27) hx hb dX0_bodyAt_15 (by decide) (fun hc => ?_) (fun hc => ?_)
  · have h := h.1 hc
    refine lv_iconst (v := (-1)) hx hb dX0_bodyAt_27 (by decide) ?_
    exact W.iret hx hb hr (fun t ht _ => ⟨_, rfl, h, ht⟩) (fun _ hq => by cases hq) dX0_bodyAt_28
  have h := h.2 hc
  refine lv_aload_n hx hb dX0_bodyAt_18 rfl (lv_at hl 0 rfl) ?_
  refine gf S hE hP 0 rfl rfl inX0 (k := 0) (by decide) q143 rfl dX0_bodyAt_19 ?_
  refine lv_iload_n hx hb dX0_bodyAt_22 rfl (lv_at hl 1 rfl) ?_
  obtain ⟨hi, h⟩ := h
  refine ial S hE hP 1 rfl hi dX0_bodyAt_23 ?_
  refine lv_goto (tgt := 28) hx hb dX0_bodyAt_24 (by decide) ?_
  exact W.iret hx hb hr (fun t ht _ => ⟨_, rfl, h, ht⟩) (fun _ hq => by cases hq) dX0_bodyAt_28
/-! X0_mark -/
abbrev wX0_mark (cI cJ cS : ClassId) (a_o a_bodies : Nat) (v_ran : Int32) (v_kind : Int32) (v_stretchNumber : Int32) (v_space : Int32) (f_bodies : Nat → Int32) : va_W := [(a_o, .inr (0, [.ref a_bodies, .int v_ran, .int v_kind, .int v_stretchNumber, .int v_space])), (a_bodies, .inl (cI, 20, .inl f_bodies))]
def F_X0_mark_26 (post : Int32 → (Nat → Int32) → Prop) (v_ran : Int32) (f_bodies : Nat → Int32) : Prop := post (v_ran + 1) f_bodies
def F_X0_mark (v_ran : Int32) (f_bodies : Nat → Int32) (x1 : Int32) (post : Int32 → (Nat → Int32) → Prop) : Prop := ((v_ran < 0 → F_X0_mark_26 post v_ran f_bodies) ∧ (¬ v_ran < 0 → ((20 ≤ v_ran → F_X0_mark_26 post v_ran f_bodies) ∧ (¬ 20 ≤ v_ran → (vp_in v_ran 20 ∧ F_X0_mark_26 post v_ran (upd f_bodies v_ran.toNatClampNeg x1))))))
set_option maxHeartbeats 4000000 in
set_option maxRecDepth 100000 in
theorem w_X0_mark_26 {l : Launch} {D : va_G} {cI cJ cS : ClassId} {ad adK : Nat → Nat} {a_o a_bodies : Nat} {v_ran : Int32} {v_kind : Int32} {v_stretchNumber : Int32} {v_space : Int32} {f_bodies : Nat → Int32} {post : Int32 → (Nat → Int32) → Prop} {p : Program} {e : Env} {s : State} {m : MethodId} {args : Array Value} {below : List Frame} {meth : Method} {c : Code} {A : Nat → Prop} (S : CallFix p m c cX0_mark 2 s args GW "RoadThatSings$Acting") (hE : EN D cI cJ cS s) (hT : ST ad adK A s s.heap) (hA : ∀ q : Nat, s.heap.size ≤ q → A q) (hr : meth.sig.returnType = none) (hlocks : meth.locks = false) : ∀ (H : Heap) (locs : List Loc) (ls : Array Slot), F_X0_mark_26 post v_ran f_bodies → va_P D vwCl (wX0_mark cI cJ cS a_o a_bodies v_ran v_kind v_stretchNumber v_space f_bodies) H → va_D A (wX0_mark cI cJ cS a_o a_bodies v_ran v_kind v_stretchNumber v_space f_bodies) → va_S A s.heap H locs → lv_has ls 2 [(0, .ref a_o)] → W p l e (rmd 0 0 0) s m args below meth c H locs 0 0 (MQ below (va_Qv (fun u : Int32 × (Nat → Int32) => post u.1 u.2) (fun u t => va_P D vwCl (wX0_mark cI cJ cS a_o a_bodies u.1 v_kind v_stretchNumber v_space u.2) t.heap) A) args s 0 0 A) (F0 m 26 ls []) := by
  intro  H locs ls h hP hD hS hl
  unfold F_X0_mark_26 at h
  have hx := S.1
  have hb := S.2.1
  refine lv_aload_n hx hb dX0_mark_26 rfl (lv_at hl 0 rfl) ?_
  refine lv_dup hx hb dX0_mark_27 rfl ?_
  refine gf S hE hP 0 rfl rfl inX0 (k := 1) (by decide) q144 rfl dX0_mark_28 ?_
  refine lv_iconst (v := 1) hx hb dX0_mark_31 (by decide) ?_
  refine lv_iadd hx hb dX0_mark_32 ?_
  refine pf S hE hP hD hS 0 (k := 1) rfl rfl inX0 tyX0_ok nmX0 (by decide) q144 rfl rfl rfl (Nat.le_of_ble_eq_true rfl) dX0_mark_33 (fun H locs hP hD hS => ?_)
  have hP : va_P D vwCl (wX0_mark cI cJ cS a_o a_bodies (v_ran + 1) v_kind v_stretchNumber v_space f_bodies) H := hP
  have hD : va_D A (wX0_mark cI cJ cS a_o a_bodies (v_ran + 1) v_kind v_stretchNumber v_space f_bodies) := hD
  exact W.vret hx hb hr (fun t ht _ => ⟨⟨((v_ran + 1), f_bodies), rfl, h, hPt hP ht⟩, hS.F ht⟩) hS.2.2 dX0_mark_36
set_option maxHeartbeats 4000000 in
set_option maxRecDepth 100000 in
theorem c_X0_mark {l : Launch} {D : va_G} {cI cJ cS : ClassId} {ad adK : Nat → Nat} {a_o a_bodies : Nat} {v_ran : Int32} {v_kind : Int32} {v_stretchNumber : Int32} {v_space : Int32} {f_bodies : Nat → Int32} {x1 : Int32} {post : Int32 → (Nat → Int32) → Prop} (h : F_X0_mark v_ran f_bodies x1 post) {sz : Nat} : Met l yX0_mark (Cond.code yX0_mark cX0_mark 2 none :: GW) (rmd 0 0 0) (PW D cI cJ cS ad adK [.ref a_o, .int x1] (wX0_mark cI cJ cS a_o a_bodies v_ran v_kind v_stretchNumber v_space f_bodies) sz) (va_Qv (fun u : Int32 × (Nat → Int32) => post u.1 u.2) (fun u t => va_P D vwCl (wX0_mark cI cJ cS a_o a_bodies u.1 v_kind v_stretchNumber v_space u.2) t.heap) (va_A (wX0_mark cI cJ cS a_o a_bodies v_ran v_kind v_stretchNumber v_space f_bodies) sz)) 0 0 (va_A (wX0_mark cI cJ cS a_o a_bodies v_ran v_kind v_stretchNumber v_space f_bodies) sz) := by
  refine Met.rw (Qc := fun A => (va_Qv (fun u : Int32 × (Nat → Int32) => post u.1 u.2) (fun u t => va_P D vwCl (wX0_mark cI cJ cS a_o a_bodies u.1 v_kind v_stretchNumber v_space u.2) t.heap) A)) (by decide) (Nat.le_of_ble_eq_true rfl) (fun p e s m args below meth c ls A (S : CallFix p m c cX0_mark 2 s args GW "RoadThatSings$Acting") hE hT hP hD hA hS hr hlocks hname hl => ?_)
  have hS0 := hS
  have hx := S.1
  have hb := S.2.1
  have hl : lv_has ls 2 [(0, .ref a_o), (1, .int x1)] := hl
  unfold F_X0_mark at h
  refine lv_aload_n hx hb dX0_mark_0 rfl (lv_at hl 0 rfl) ?_
  refine gf S hE hP 0 rfl rfl inX0 (k := 1) (by decide) q144 rfl dX0_mark_1 ?_
  refine lv_if_lt (tgt := 26) hx hb dX0_mark_4 (by decide) (fun hc => ?_) (fun hc => ?_)
  · have h := h.1 hc
    refine w_X0_mark_26 S hE hT hA hr hlocks _ _ _ h hP hD hS (lv_sub hl [0] rfl)
  have h := h.2 hc
  refine lv_aload_n hx hb dX0_mark_7 rfl (lv_at hl 0 rfl) ?_
  refine gf S hE hP 0 rfl rfl inX0 (k := 1) (by decide) q144 rfl dX0_mark_8 ?_
  refine lv_bipush (v := 20) hx hb dX0_mark_11 (by decide) ?_
  refine lv_icmp_ge (tgt := 26) hx hb dX0_mark_13 (by decide) (fun hc => ?_) (fun hc => ?_)
  · have h := h.1 hc
    refine w_X0_mark_26 S hE hT hA hr hlocks _ _ _ h hP hD hS (lv_sub hl [0] rfl)
  have h := h.2 hc
  refine lv_aload_n hx hb dX0_mark_16 rfl (lv_at hl 0 rfl) ?_
  refine gf S hE hP 0 rfl rfl inX0 (k := 0) (by decide) q143 rfl dX0_mark_17 ?_
  refine lv_aload_n hx hb dX0_mark_20 rfl (lv_at hl 0 rfl) ?_
  refine gf S hE hP 0 rfl rfl inX0 (k := 1) (by decide) q144 rfl dX0_mark_21 ?_
  refine lv_iload_n hx hb dX0_mark_24 rfl (lv_at hl 1 rfl) ?_
  obtain ⟨hi, h⟩ := h
  refine ias S hE hP hD hS 1 rfl hi dX0_mark_25 (fun H locs hP hD hS => ?_)
  have hP : va_P D vwCl (wX0_mark cI cJ cS a_o a_bodies v_ran v_kind v_stretchNumber v_space (upd f_bodies v_ran.toNatClampNeg x1)) H := hP
  have hD : va_D A (wX0_mark cI cJ cS a_o a_bodies v_ran v_kind v_stretchNumber v_space (upd f_bodies v_ran.toNatClampNeg x1)) := hD
  refine w_X0_mark_26 S hE hT hA hr hlocks _ _ _ h hP hD hS (lv_sub hl [0] rfl)
/-! X9_within -/
abbrev wX9_within (cI cJ cS : ClassId) : va_W := []
def F_X9_within (x0 : Int32) (x1 : Int32) (x2 : Int32) (post : Int32 → Prop) : Prop := ((x0 < x1 → post 0) ∧ (¬ x0 < x1 → ((x2 < x0 → post 0) ∧ (¬ x2 < x0 → post 1))))
set_option maxHeartbeats 4000000 in
set_option maxRecDepth 100000 in
theorem c_X9_within {l : Launch} {D : va_G} {cI cJ cS : ClassId} {ad adK : Nat → Nat}  {x0 : Int32} {x1 : Int32} {x2 : Int32} {post : Int32 → Prop} (h : F_X9_within x0 x1 x2 post) : Met l yX9_within (Cond.code yX9_within cX9_within 3 (some (.boolean)) :: GW) (rmd 0 0 0) (PR D cI cJ cS ad adK [.int x0, .int x1, .int x2] (wX9_within cI cJ cS)) (vp_Si post) 0 0 nof := by
  refine Met.ro (by decide) (Nat.le_of_ble_eq_true rfl) (fun p e s m args below meth c ls (S : CallFix p m c cX9_within 3 s args GW "RoadThatSings") hE hT hP hS hr hlocks hl => ?_)
  have hx := S.1
  have hb := S.2.1
  have hl : lv_has ls 3 [(0, .int x0), (1, .int x1), (2, .int x2)] := hl
  unfold F_X9_within at h
  refine lv_iload_n hx hb dX9_within_0 rfl (lv_at hl 0 rfl) ?_
  refine lv_iload_n hx hb dX9_within_1 rfl (lv_at hl 1 rfl) ?_
  refine lv_icmp_lt (tgt := 14) hx hb dX9_within_2 (by decide) (fun hc => ?_) (fun hc => ?_)
  · have h := h.1 hc
    refine lv_iconst (v := 0) hx hb dX9_within_14 (by decide) ?_
    exact W.zret hx hb hr rfl (fun t ht _ => ⟨_, rfl, h, ht⟩) (fun _ hq => by cases hq) dX9_within_15
  have h := h.2 hc
  refine lv_iload_n hx hb dX9_within_5 rfl (lv_at hl 0 rfl) ?_
  refine lv_iload_n hx hb dX9_within_6 rfl (lv_at hl 2 rfl) ?_
  refine lv_icmp_gt (tgt := 14) hx hb dX9_within_7 (by decide) (fun hc => ?_) (fun hc => ?_)
  · have h := h.1 hc
    refine lv_iconst (v := 0) hx hb dX9_within_14 (by decide) ?_
    exact W.zret hx hb hr rfl (fun t ht _ => ⟨_, rfl, h, ht⟩) (fun _ hq => by cases hq) dX9_within_15
  have h := h.2 hc
  refine lv_iconst (v := 1) hx hb dX9_within_10 (by decide) ?_
  refine lv_goto (tgt := 15) hx hb dX9_within_11 (by decide) ?_
  exact W.zret hx hb hr rfl (fun t ht _ => ⟨_, rfl, h, ht⟩) (fun _ hq => by cases hq) dX9_within_15
/-! X0_bodyOf -/
abbrev wX0_bodyOf (cI cJ cS : ClassId) : va_W := []
def F_X0_bodyOf (x0 : Int32) (x1 : Int32) (post : Int32 → Prop) : Prop := (F_X9_within x1 0 6 (fun r4 => ((r4 = 0 → post 0) ∧ (¬ r4 = 0 → ((x0 = 0 → (vp_in x1 7 ∧ post (tbHUMS_BODIES.getD x1.toNatClampNeg 0))) ∧ (¬ x0 = 0 → ((x0 = 1 → (vp_in x1 7 ∧ post (tbLASTS_BODIES.getD x1.toNatClampNeg 0))) ∧ (¬ x0 = 1 → (vp_in x1 7 ∧ post (tbWEARS_BODIES.getD x1.toNatClampNeg 0))))))))))
set_option maxHeartbeats 4000000 in
set_option maxRecDepth 100000 in
theorem c_X0_bodyOf {l : Launch} {D : va_G} {cI cJ cS : ClassId} {ad adK : Nat → Nat}  {x0 : Int32} {x1 : Int32} {post : Int32 → Prop} (h : F_X0_bodyOf x0 x1 post) : Met l yX0_bodyOf (Cond.code yX0_bodyOf cX0_bodyOf 2 (some (.int)) :: GW) (rmd 1 0 0) (PR D cI cJ cS ad adK [.int x0, .int x1] (wX0_bodyOf cI cJ cS)) (vp_Si post) 0 0 nof := by
  refine Met.ro (by decide) (Nat.le_of_ble_eq_true rfl) (fun p e s m args below meth c ls (S : CallFix p m c cX0_bodyOf 2 s args GW "RoadThatSings$Acting") hE hT hP hS hr hlocks hl => ?_)
  have hx := S.1
  have hb := S.2.1
  have hl : lv_has ls 2 [(0, .int x0), (1, .int x1)] := hl
  unfold F_X0_bodyOf at h
  refine lv_iload_n hx hb dX0_bodyOf_0 rfl (lv_at hl 1 rfl) ?_
  refine lv_iconst (v := 0) hx hb dX0_bodyOf_1 (by decide) ?_
  refine lv_bipush (v := 6) hx hb dX0_bodyOf_2 (by decide) ?_
  refine ro_i (roSN S hE hT hS (c_X9_within h) lkX0_28 rfl ⟨(Nat.le_of_ble_eq_true rfl), (Nat.le_of_ble_eq_true rfl)⟩ (hP.sub [] rfl) hl.1 rfl (Nat.le_of_ble_eq_true rfl) dX0_bodyOf_4 ⟨(Nat.zero_le _), (Nat.zero_le _)⟩) (fun r4 h => ?_)
  refine lv_if_ne (tgt := 12) hx hb dX0_bodyOf_7 (by decide) (fun hc => ?_) (fun hc => ?_)
  · have h := h.2 hc
    refine lv_iload_n hx hb dX0_bodyOf_12 rfl (lv_at hl 0 rfl) ?_
    refine lv_if_ne (tgt := 22) hx hb dX0_bodyOf_13 (by decide) (fun hc => ?_) (fun hc => ?_)
    · have h := h.2 hc
      refine lv_iload_n hx hb dX0_bodyOf_22 rfl (lv_at hl 0 rfl) ?_
      refine lv_iconst (v := 1) hx hb dX0_bodyOf_23 (by decide) ?_
      refine lv_icmp_ne (tgt := 35) hx hb dX0_bodyOf_24 (by decide) (fun hc => ?_) (fun hc => ?_)
      · have h := h.2 hc
        refine gsAN S hE hT hS stm_WEARS_BODIES nfX0_38 dX0_bodyOf_35 (fun t35 ht35 => ?_)
        refine lv_iload_n hx hb dX0_bodyOf_38 rfl (lv_at hl 1 rfl) ?_
        obtain ⟨hi, h⟩ := h
        refine tal S hS ht35 hi dX0_bodyOf_39 ?_
        exact W.iret hx hb hr (fun t ht _ => ⟨_, rfl, h, ht⟩) (fun _ hq => by cases hq) dX0_bodyOf_40
      have h := h.1 hc
      refine gsAN S hE hT hS stm_LASTS_BODIES nfX0_35 dX0_bodyOf_27 (fun t27 ht27 => ?_)
      refine lv_iload_n hx hb dX0_bodyOf_30 rfl (lv_at hl 1 rfl) ?_
      obtain ⟨hi, h⟩ := h
      refine tal S hS ht27 hi dX0_bodyOf_31 ?_
      refine lv_goto (tgt := 40) hx hb dX0_bodyOf_32 (by decide) ?_
      exact W.iret hx hb hr (fun t ht _ => ⟨_, rfl, h, ht⟩) (fun _ hq => by cases hq) dX0_bodyOf_40
    have h := h.1 hc
    refine gsAN S hE hT hS stm_HUMS_BODIES nfX0_32 dX0_bodyOf_16 (fun t16 ht16 => ?_)
    refine lv_iload_n hx hb dX0_bodyOf_19 rfl (lv_at hl 1 rfl) ?_
    obtain ⟨hi, h⟩ := h
    refine tal S hS ht16 hi dX0_bodyOf_20 ?_
    exact W.iret hx hb hr (fun t ht _ => ⟨_, rfl, h, ht⟩) (fun _ hq => by cases hq) dX0_bodyOf_21
  have h := h.1 hc
  refine lv_iconst (v := 0) hx hb dX0_bodyOf_10 (by decide) ?_
  exact W.iret hx hb hr (fun t ht _ => ⟨_, rfl, h, ht⟩) (fun _ hq => by cases hq) dX0_bodyOf_11
/-! X9_kindAbove -/
abbrev wX9_kindAbove (cI cJ cS : ClassId) : va_W := []
def F_X9_kindAbove (x0 : Int32) (post : Int32 → Prop) : Prop := (F_X9_within x0 0 6 (fun r4 => ((r4 = 0 → post (-1)) ∧ (¬ r4 = 0 → (vp_in x0 7 ∧ post (tbKIND_ABOVE.getD x0.toNatClampNeg 0))))))
set_option maxHeartbeats 4000000 in
set_option maxRecDepth 100000 in
theorem c_X9_kindAbove {l : Launch} {D : va_G} {cI cJ cS : ClassId} {ad adK : Nat → Nat}  {x0 : Int32} {post : Int32 → Prop} (h : F_X9_kindAbove x0 post) : Met l yX9_kindAbove (Cond.code yX9_kindAbove cX9_kindAbove 1 (some (.int)) :: GW) (rmd 1 0 0) (PR D cI cJ cS ad adK [.int x0] (wX9_kindAbove cI cJ cS)) (vp_Si post) 0 0 nof := by
  refine Met.ro (by decide) (Nat.le_of_ble_eq_true rfl) (fun p e s m args below meth c ls (S : CallFix p m c cX9_kindAbove 1 s args GW "RoadThatSings") hE hT hP hS hr hlocks hl => ?_)
  have hx := S.1
  have hb := S.2.1
  have hl : lv_has ls 1 [(0, .int x0)] := hl
  unfold F_X9_kindAbove at h
  refine lv_iload_n hx hb dX9_kindAbove_0 rfl (lv_at hl 0 rfl) ?_
  refine lv_iconst (v := 0) hx hb dX9_kindAbove_1 (by decide) ?_
  refine lv_bipush (v := 6) hx hb dX9_kindAbove_2 (by decide) ?_
  refine ro_i (roS S hE hT hS (c_X9_within h) lkX9_63 rfl ⟨(Nat.le_of_ble_eq_true rfl), (Nat.le_of_ble_eq_true rfl)⟩ (hP.sub [] rfl) hl.1 rfl (Nat.le_of_ble_eq_true rfl) dX9_kindAbove_4 ⟨(Nat.zero_le _), (Nat.zero_le _)⟩) (fun r4 h => ?_)
  refine lv_if_eq (tgt := 18) hx hb dX9_kindAbove_7 (by decide) (fun hc => ?_) (fun hc => ?_)
  · have h := h.1 hc
    refine lv_iconst (v := (-1)) hx hb dX9_kindAbove_18 (by decide) ?_
    exact W.iret hx hb hr (fun t ht _ => ⟨_, rfl, h, ht⟩) (fun _ hq => by cases hq) dX9_kindAbove_19
  have h := h.2 hc
  refine gsA S hT hS stm_KIND_ABOVE q342 dX9_kindAbove_10 (fun t10 ht10 => ?_)
  refine lv_iload_n hx hb dX9_kindAbove_13 rfl (lv_at hl 0 rfl) ?_
  obtain ⟨hi, h⟩ := h
  refine tal S hS ht10 hi dX9_kindAbove_14 ?_
  refine lv_goto (tgt := 19) hx hb dX9_kindAbove_15 (by decide) ?_
  exact W.iret hx hb hr (fun t ht _ => ⟨_, rfl, h, ht⟩) (fun _ hq => by cases hq) dX9_kindAbove_19
/-! X0_kindWithBody -/
abbrev wX0_kindWithBody (cI cJ cS : ClassId) : va_W := []
def L_X0_kindWithBody_4 (x0 : Int32) (post : Int32 → Prop) : Nat → Int32 → Int32 → Prop
  | 0, _, _ => False
  | n4 + 1, x2, x3 => ((7 ≤ x3 → post x2) ∧ (¬ 7 ≤ x3 → ((x2 = (-1) → post x2) ∧ (¬ x2 = (-1) → (F_X0_bodyOf x0 x2 (fun r17 => ((r17 = 0 → (F_X9_kindAbove x2 (fun r24 => (∀ x3_28 : Int32, x3_28 = x3 + 1 → L_X0_kindWithBody_4 x0 post n4 r24 x3_28)))) ∧ (¬ r17 = 0 → post x2))))))))
def F_X0_kindWithBody (x0 : Int32) (x1 : Int32) (post : Int32 → Prop) : Prop := (∃ n4 : Nat, L_X0_kindWithBody_4 x0 post n4 x1 0)
set_option maxHeartbeats 4000000 in
set_option maxRecDepth 100000 in
theorem w_X0_kindWithBody_4 {l : Launch} {D : va_G} {cI cJ cS : ClassId} {ad adK : Nat → Nat}  {x0 : Int32} {post : Int32 → Prop} {p : Program} {e : Env} {s : State} {m : MethodId} {args : Array Value} {below : List Frame} {meth : Method} {c : Code} (S : CallFix p m c cX0_kindWithBody 4 s args GW "RoadThatSings$Acting") (hE : EN D cI cJ cS s) (hT : ST ad adK nof s s.heap) (hP : va_P D vwCl (wX0_kindWithBody cI cJ cS) s.heap) (hS : va_S nof s.heap s.heap []) (hr : meth.sig.returnType = (some (.int))) (hlocks : meth.locks = false) : ∀ n : Nat, ∀ (x2 : Int32) (x3 : Int32) (ls : Array Slot), L_X0_kindWithBody_4 x0 post n x2 x3 → lv_has ls 4 [(0, .int x0), (2, .int x2), (3, .int x3)] → W p l e (rmd 2 0 0) s m args below meth c s.heap [] 0 0 (MQ below (vp_Si post) args s 0 0 nof) (F0 m 4 ls []) := by
  intro n
  induction n with
  | zero =>
    intro x2 x3 ls h hl
    exact h.elim
  | succ n ih =>
    intro x2 x3 ls h hl
    rw [L_X0_kindWithBody_4] at h
    have hx := S.1
    have hb := S.2.1
    refine lv_iload_n hx hb dX0_kindWithBody_4 rfl (lv_at hl 2 rfl) ?_
    refine lv_bipush (v := 7) hx hb dX0_kindWithBody_5 (by decide) ?_
    refine lv_icmp_ge (tgt := 34) hx hb dX0_kindWithBody_7 (by decide) (fun hc => ?_) (fun hc => ?_)
    · have h := h.1 hc
      refine lv_iload_n hx hb dX0_kindWithBody_34 rfl (lv_at hl 1 rfl) ?_
      exact W.iret hx hb hr (fun t ht _ => ⟨_, rfl, h, ht⟩) (fun _ hq => by cases hq) dX0_kindWithBody_35
    have h := h.2 hc
    refine lv_iload_n hx hb dX0_kindWithBody_10 rfl (lv_at hl 1 rfl) ?_
    refine lv_iconst (v := (-1)) hx hb dX0_kindWithBody_11 (by decide) ?_
    refine lv_icmp_eq (tgt := 34) hx hb dX0_kindWithBody_12 (by decide) (fun hc => ?_) (fun hc => ?_)
    · have h := h.1 hc
      refine lv_iload_n hx hb dX0_kindWithBody_34 rfl (lv_at hl 1 rfl) ?_
      exact W.iret hx hb hr (fun t ht _ => ⟨_, rfl, h, ht⟩) (fun _ hq => by cases hq) dX0_kindWithBody_35
    have h := h.2 hc
    refine lv_iload_n hx hb dX0_kindWithBody_15 rfl (lv_at hl 0 rfl) ?_
    refine lv_iload_n hx hb dX0_kindWithBody_16 rfl (lv_at hl 1 rfl) ?_
    refine ro_i (roS S hE hT hS (c_X0_bodyOf h) lkX0_41 rfl ⟨(Nat.le_of_ble_eq_true rfl), (Nat.le_of_ble_eq_true rfl)⟩ (hP.sub [] rfl) hl.1 rfl (Nat.le_of_ble_eq_true rfl) dX0_kindWithBody_17 ⟨(Nat.zero_le _), (Nat.zero_le _)⟩) (fun r17 h => ?_)
    refine lv_if_ne (tgt := 34) hx hb dX0_kindWithBody_20 (by decide) (fun hc => ?_) (fun hc => ?_)
    · have h := h.2 hc
      refine lv_iload_n hx hb dX0_kindWithBody_34 rfl (lv_at hl 1 rfl) ?_
      exact W.iret hx hb hr (fun t ht _ => ⟨_, rfl, h, ht⟩) (fun _ hq => by cases hq) dX0_kindWithBody_35
    have h := h.1 hc
    refine lv_iload_n hx hb dX0_kindWithBody_23 rfl (lv_at hl 1 rfl) ?_
    refine ro_i (roSN S hE hT hS (c_X9_kindAbove h) lkX0_45 rfl ⟨(Nat.le_of_ble_eq_true rfl), (Nat.le_of_ble_eq_true rfl)⟩ (hP.sub [] rfl) hl.1 rfl (Nat.le_of_ble_eq_true rfl) dX0_kindWithBody_24 ⟨(Nat.zero_le _), (Nat.zero_le _)⟩) (fun r24 h => ?_)
    refine lv_istore_n (lv' := [(2, .int r24), (0, .int x0), (3, .int x3)]) hx hb dX0_kindWithBody_27 rfl hl (by decide) rfl (fun ls hl => ?_)
    obtain ⟨x3_28, ex3_28⟩ : ∃ z : Int32, z = x3 + 1 := ⟨_, rfl⟩
    have h := h _ ex3_28
    refine lv_iinc (v := x3_28) (lv' := [(3, .int x3_28), (2, .int r24), (0, .int x0)]) hx hb dX0_kindWithBody_28 hl (k := 2) rfl (by rw [ex3_28]; rfl) (by decide) rfl (fun ls hl => ?_)
    refine lv_goto (tgt := 4) hx hb dX0_kindWithBody_31 (by decide) ?_
    exact ih _ _ _ h (lv_sub hl [2, 1, 0] rfl)
set_option maxHeartbeats 4000000 in
set_option maxRecDepth 100000 in
theorem c_X0_kindWithBody {l : Launch} {D : va_G} {cI cJ cS : ClassId} {ad adK : Nat → Nat}  {x0 : Int32} {x1 : Int32} {post : Int32 → Prop} (h : F_X0_kindWithBody x0 x1 post) : Met l yX0_kindWithBody (Cond.code yX0_kindWithBody cX0_kindWithBody 4 (some (.int)) :: GW) (rmd 2 0 0) (PR D cI cJ cS ad adK [.int x0, .int x1] (wX0_kindWithBody cI cJ cS)) (vp_Si post) 0 0 nof := by
  refine Met.ro (by decide) (Nat.le_of_ble_eq_true rfl) (fun p e s m args below meth c ls (S : CallFix p m c cX0_kindWithBody 4 s args GW "RoadThatSings$Acting") hE hT hP hS hr hlocks hl => ?_)
  have hx := S.1
  have hb := S.2.1
  have hl : lv_has ls 4 [(0, .int x0), (1, .int x1)] := hl
  unfold F_X0_kindWithBody at h
  refine lv_iload_n hx hb dX0_kindWithBody_0 rfl (lv_at hl 1 rfl) ?_
  refine lv_istore_n (lv' := [(2, .int x1), (0, .int x0), (1, .int x1)]) hx hb dX0_kindWithBody_1 rfl hl (by decide) rfl (fun ls hl => ?_)
  refine lv_iconst (v := 0) hx hb dX0_kindWithBody_2 (by decide) ?_
  refine lv_istore_n (lv' := [(3, .int 0), (2, .int x1), (0, .int x0), (1, .int x1)]) hx hb dX0_kindWithBody_3 rfl hl (by decide) rfl (fun ls hl => ?_)
  obtain ⟨n, h⟩ := h
  refine w_X0_kindWithBody_4 S hE hT hP hS hr hlocks n _ _ _ h (lv_sub hl [2, 1, 0] rfl)
/-! X0_play -/
abbrev wX0_play (cI cJ cS : ClassId) (a_p0 a_p0_bodies : Nat) (v_p0_ran : Int32) (v_p0_kind : Int32) (v_p0_stretchNumber : Int32) (v_p0_space : Int32) (f_p0_bodies : Nat → Int32) : va_W := [(a_p0, .inr (0, [.ref a_p0_bodies, .int v_p0_ran, .int v_p0_kind, .int v_p0_stretchNumber, .int v_p0_space])), (a_p0_bodies, .inl (cI, 20, .inl f_p0_bodies))]
def F_X0_play : Nat → Int32 → Int32 → Int32 → Int32 → (Nat → Int32) → Int32 → Int32 → Int32 → Int32 → (Int32 → Int32 → (Nat → Int32) → Prop) → Prop
  | 0, _, _, _, _, _, _, _, _, _, _ => False
  | nn + 1, v_p0_ran, v_p0_kind, v_p0_stretchNumber, v_p0_space, f_p0_bodies, x1, x2, x3, x4, post => (F_X0_kindWithBody x1 x2 (fun r2 => ((r2 = (-1) → post 0 v_p0_ran f_p0_bodies) ∧ (¬ r2 = (-1) → ((x4 ≤ 40 → (F_X0_bodyOf x1 r2 (fun r25 => (F_X9_kindAbove r2 (fun r32 => (∀ x8_41 : Int32, x8_41 = x4 + 1 → (F_X0_mark v_p0_ran f_p0_bodies r25 (fun w52_0 w52_1 => ((r25 = 10 → post (x3 + v_p0_stretchNumber) w52_0 w52_1) ∧ (¬ r25 = 10 → ((r25 = 11 → (F_X0_play nn w52_0 v_p0_kind v_p0_stretchNumber v_p0_space w52_1 0 v_p0_kind x3 x8_41 (fun r172 w172_0 w172_1 => post (r172 * 2) w172_0 w172_1))) ∧ (¬ r25 = 11 → ((r25 = 12 → (F_X0_play nn w52_0 v_p0_kind v_p0_stretchNumber v_p0_space w52_1 1 v_p0_kind x3 x8_41 (fun r187 w187_0 w187_1 => (F_X0_play nn w187_0 v_p0_kind v_p0_stretchNumber v_p0_space w187_1 0 v_p0_kind (x3 - v_p0_space) x8_41 (fun r202 w202_0 w202_1 => post (r187 ^^^ r202) w202_0 w202_1))))) ∧ (¬ r25 = 12 → ((r25 = 20 → (F_X0_play nn w52_0 v_p0_kind v_p0_stretchNumber v_p0_space w52_1 0 r32 x3 x8_41 (fun r214 w214_0 w214_1 => post (r214 + v_p0_space) w214_0 w214_1))) ∧ (¬ r25 = 20 → ((r25 = 30 → (F_X0_play nn w52_0 v_p0_kind v_p0_stretchNumber v_p0_space w52_1 1 r32 x3 x8_41 (fun r228 w228_0 w228_1 => post (r228 * 3) w228_0 w228_1))) ∧ (¬ r25 = 30 → ((r25 = 40 → (F_X0_play nn w52_0 v_p0_kind v_p0_stretchNumber v_p0_space w52_1 1 r32 (x3 + 1) x8_41 (fun r243 w243_0 w243_1 => post r243 w243_0 w243_1))) ∧ (¬ r25 = 40 → ((r25 = 41 → (F_X0_play nn w52_0 v_p0_kind v_p0_stretchNumber v_p0_space w52_1 0 r32 x3 x8_41 (fun r254 w254_0 w254_1 => post (r254 - v_p0_stretchNumber) w254_0 w254_1))) ∧ (¬ r25 = 41 → ((r25 = 50 → (F_X0_play nn w52_0 v_p0_kind v_p0_stretchNumber v_p0_space w52_1 2 r32 x3 x8_41 (fun r270 w270_0 w270_1 => post (-r270) w270_0 w270_1))) ∧ (¬ r25 = 50 → ((r25 = 60 → (F_X0_play nn w52_0 v_p0_kind v_p0_stretchNumber v_p0_space w52_1 2 r32 x3 x8_41 (fun r282 w282_0 w282_1 => post (r282 ^^^ 5) w282_0 w282_1))) ∧ (¬ r25 = 60 → ((r25 = 70 → (F_X0_play nn w52_0 v_p0_kind v_p0_stretchNumber v_p0_space w52_1 0 r32 x3 x8_41 (fun r295 w295_0 w295_1 => post (r295 * 2) w295_0 w295_1))) ∧ (¬ r25 = 70 → ((r25 = 71 → (F_X0_play nn w52_0 v_p0_kind v_p0_stretchNumber v_p0_space w52_1 2 r32 (x3 - v_p0_space) x8_41 (fun r311 w311_0 w311_1 => post r311 w311_0 w311_1))) ∧ (¬ r25 = 71 → post 0 w52_0 w52_1)))))))))))))))))))))))))))))) ∧ (¬ x4 ≤ 40 → post 0 v_p0_ran f_p0_bodies))))))
set_option maxHeartbeats 4000000 in
set_option maxRecDepth 100000 in
theorem c_X0_play : ∀ (nn : Nat) {l : Launch} {D : va_G} {cI cJ cS : ClassId} {ad adK : Nat → Nat} {a_p0 a_p0_bodies : Nat} {v_p0_ran : Int32} {v_p0_kind : Int32} {v_p0_stretchNumber : Int32} {v_p0_space : Int32} {f_p0_bodies : Nat → Int32} {x1 : Int32} {x2 : Int32} {x3 : Int32} {x4 : Int32} {post : Int32 → Int32 → (Nat → Int32) → Prop} {sz : Nat} (h : F_X0_play nn v_p0_ran v_p0_kind v_p0_stretchNumber v_p0_space f_p0_bodies x1 x2 x3 x4 post), Met l yX0_play (Cond.code yX0_play cX0_play 10 (some (.int)) :: GW) (rmd (nn + 3) 0 0) (PW D cI cJ cS ad adK [.ref a_p0, .int x1, .int x2, .int x3, .int x4] (wX0_play cI cJ cS a_p0 a_p0_bodies v_p0_ran v_p0_kind v_p0_stretchNumber v_p0_space f_p0_bodies) sz) (va_Qi (fun r (u : Int32 × (Nat → Int32)) => post r u.1 u.2) (fun u t => va_P D vwCl (wX0_play cI cJ cS a_p0 a_p0_bodies u.1 v_p0_kind v_p0_stretchNumber v_p0_space u.2) t.heap) (va_A (wX0_play cI cJ cS a_p0 a_p0_bodies v_p0_ran v_p0_kind v_p0_stretchNumber v_p0_space f_p0_bodies) sz)) 0 0 (va_A (wX0_play cI cJ cS a_p0 a_p0_bodies v_p0_ran v_p0_kind v_p0_stretchNumber v_p0_space f_p0_bodies) sz) := by
  intro nn
  induction nn with
  | zero => intros; exact absurd (by assumption) (fun h => h)
  | succ nn ih =>
    intro l D cI cJ cS ad adK a_p0 a_p0_bodies v_p0_ran v_p0_kind v_p0_stretchNumber v_p0_space f_p0_bodies x1 x2 x3 x4 post sz h
    rw [F_X0_play] at h
    refine Met.rw (Qc := fun A => (va_Qi (fun r (u : Int32 × (Nat → Int32)) => post r u.1 u.2) (fun u t => va_P D vwCl (wX0_play cI cJ cS a_p0 a_p0_bodies u.1 v_p0_kind v_p0_stretchNumber v_p0_space u.2) t.heap) A)) (by decide) (Nat.le_of_ble_eq_true rfl) (fun p e s m args below meth c ls A (S : CallFix p m c cX0_play 10 s args GW "RoadThatSings$Acting") hE hT hP hD hA hS hr hlocks hname hl => ?_)
    have hx := S.1
    have hb := S.2.1
    have hl : lv_has ls 10 [(0, .ref a_p0), (1, .int x1), (2, .int x2), (3, .int x3), (4, .int x4)] := hl
    refine lv_iload_n hx hb dX0_play_0 rfl (lv_at hl 1 rfl) ?_
    refine lv_iload_n hx hb dX0_play_1 rfl (lv_at hl 2 rfl) ?_
    refine ro_i (roS S hE hT hS (c_X0_kindWithBody h) lkX0_49 rfl (rlR (by omega) (by omega)) (hP.sub [] rfl) hl.1 rfl (Nat.le_of_ble_eq_true rfl) dX0_play_2 ⟨(Nat.zero_le _), (Nat.zero_le _)⟩) (fun r2 h => ?_)
    refine lv_istore (lv' := [(5, .int r2), (0, .ref a_p0), (1, .int x1), (2, .int x2), (3, .int x3), (4, .int x4)]) hx hb dX0_play_5 hl (by decide) rfl (fun ls hl => ?_)
    refine lv_iload hx hb dX0_play_7 (lv_at hl 0 rfl) ?_
    refine lv_iconst (v := (-1)) hx hb dX0_play_9 (by decide) ?_
    refine lv_icmp_eq (tgt := 20) hx hb dX0_play_10 (by decide) (fun hc => ?_) (fun hc => ?_)
    · have h := h.1 hc
      refine lv_iconst (v := 0) hx hb dX0_play_20 (by decide) ?_
      exact W.iret hx hb hr (fun t ht _ => ⟨⟨_, (v_p0_ran, f_p0_bodies), rfl, h, hPt hP ht⟩, hS.F ht⟩) hS.2.2 dX0_play_21
    have h := h.2 hc
    refine lv_iload hx hb dX0_play_13 (lv_at hl 5 rfl) ?_
    refine lv_bipush (v := 40) hx hb dX0_play_15 (by decide) ?_
    refine lv_icmp_le (tgt := 22) hx hb dX0_play_17 (by decide) (fun hc => ?_) (fun hc => ?_)
    · have h := h.1 hc
      refine lv_iload_n hx hb dX0_play_22 rfl (lv_at hl 2 rfl) ?_
      refine lv_iload hx hb dX0_play_23 (lv_at hl 0 rfl) ?_
      refine ro_i (roS S hE hT hS (c_X0_bodyOf h) lkX0_41 rfl (rlR (by omega) (by omega)) (hP.sub [] rfl) hl.1 rfl (Nat.le_of_ble_eq_true rfl) dX0_play_25 ⟨(Nat.zero_le _), (Nat.zero_le _)⟩) (fun r25 h => ?_)
      refine lv_istore (lv' := [(6, .int r25), (5, .int r2), (0, .ref a_p0), (1, .int x1), (2, .int x2), (3, .int x3), (4, .int x4)]) hx hb dX0_play_28 hl (by decide) rfl (fun ls hl => ?_)
      refine lv_iload hx hb dX0_play_30 (lv_at hl 1 rfl) ?_
      refine ro_i (roSN S hE hT hS (c_X9_kindAbove h) lkX0_45 rfl (rlR (by omega) (by omega)) (hP.sub [] rfl) hl.1 rfl (Nat.le_of_ble_eq_true rfl) dX0_play_32 ⟨(Nat.zero_le _), (Nat.zero_le _)⟩) (fun r32 h => ?_)
      refine lv_istore (lv' := [(7, .int r32), (6, .int r25), (5, .int r2), (0, .ref a_p0), (1, .int x1), (2, .int x2), (3, .int x3), (4, .int x4)]) hx hb dX0_play_35 hl (by decide) rfl (fun ls hl => ?_)
      refine lv_iload hx hb dX0_play_37 (lv_at hl 7 rfl) ?_
      refine lv_iconst (v := 1) hx hb dX0_play_39 (by decide) ?_
      refine lv_iadd hx hb dX0_play_40 ?_
      refine lv_topi (fun x8_41 ex8_41 => ?_)
      have h := h _ ex8_41
      refine lv_istore (lv' := [(8, .int x8_41), (7, .int r32), (6, .int r25), (5, .int r2), (0, .ref a_p0), (1, .int x1), (2, .int x2), (3, .int x3), (4, .int x4)]) hx hb dX0_play_41 hl (by decide) rfl (fun ls hl => ?_)
      refine lv_aload_n hx hb dX0_play_43 rfl (lv_at hl 4 rfl) ?_
      refine gf S hE hP 0 rfl rfl inX0 (k := 4) (by decide) q147 rfl dX0_play_44 ?_
      refine lv_istore (lv' := [(9, .int v_p0_space), (8, .int x8_41), (7, .int r32), (6, .int r25), (5, .int r2), (0, .ref a_p0), (1, .int x1), (2, .int x2), (3, .int x3), (4, .int x4)]) hx hb dX0_play_47 hl (by decide) rfl (fun ls hl => ?_)
      refine lv_aload_n hx hb dX0_play_49 rfl (lv_at hl 5 rfl) ?_
      refine lv_iload hx hb dX0_play_50 (lv_at hl 3 rfl) ?_
      refine rw_v (rwV S hE hT hS hP hD hA (c_X0_mark h) [0, 1] rfl (by decide +kernel) lkX0_52 rfl (rlR (by omega) (by omega)) 0 rfl rfl hl.1 rfl (Nat.le_of_ble_eq_true rfl) dX0_play_52 ⟨(Nat.zero_le _), (Nat.zero_le _)⟩) hP hD hS hA [0, 1] rfl (by decide +kernel) (fun _ => rfl) (fun u52 H locs h hP hD hS => ?_)
      obtain ⟨w52_0, w52_1⟩ := u52
      try dsimp only at h
      have hP : va_P D vwCl (wX0_play cI cJ cS a_p0 a_p0_bodies w52_0 v_p0_kind v_p0_stretchNumber v_p0_space w52_1) H := hP
      have hD : va_D A (wX0_play cI cJ cS a_p0 a_p0_bodies w52_0 v_p0_kind v_p0_stretchNumber v_p0_space w52_1) := hD
      refine lv_iload hx hb dX0_play_55 (lv_at hl 3 rfl) ?_
      by_cases hk10 : r25 = 10
      · have h := h.1 hk10
        refine lv_lookup (off := 99) (tgt := 156) hx hb dX0_play_57 (by decide) (by rw [hk10]; decide) (by decide) ?_
        refine lv_iload_n hx hb dX0_play_156 rfl (lv_at hl 8 rfl) ?_
        refine lv_aload_n hx hb dX0_play_157 rfl (lv_at hl 5 rfl) ?_
        refine gf S hE hP 0 rfl rfl inX0 (k := 3) (by decide) q146 rfl dX0_play_158 ?_
        refine lv_iadd hx hb dX0_play_161 ?_
        exact W.iret hx hb hr (fun t ht _ => ⟨⟨_, (w52_0, w52_1), rfl, h, hPt hP ht⟩, hS.F ht⟩) hS.2.2 dX0_play_162
      have h := h.2 hk10
      by_cases hk11 : r25 = 11
      · have h := h.1 hk11
        refine lv_lookup (off := 106) (tgt := 163) hx hb dX0_play_57 (by decide) (by rw [hk11]; decide) (by decide) ?_
        refine lv_aload_n hx hb dX0_play_163 rfl (lv_at hl 5 rfl) ?_
        refine lv_iconst (v := 0) hx hb dX0_play_164 (by decide) ?_
        refine lv_aload_n hx hb dX0_play_165 rfl (lv_at hl 5 rfl) ?_
        refine gf S hE hP 0 rfl rfl inX0 (k := 2) (by decide) q145 rfl dX0_play_166 ?_
        refine lv_iload_n hx hb dX0_play_169 rfl (lv_at hl 8 rfl) ?_
        refine lv_iload hx hb dX0_play_170 (lv_at hl 1 rfl) ?_
        refine rw_i (rwS S hE hT hS hP hD hA (ih h) [0, 1] rfl (by decide +kernel) lkX0_56 rfl (rlR (by omega) (by omega)) hl.1 rfl (Nat.le_of_ble_eq_true rfl) dX0_play_172 ⟨(Nat.zero_le _), (Nat.zero_le _)⟩) hP hD hS hA [0, 1] rfl (by decide +kernel) (fun _ => rfl) (fun r172 u172 H locs h hP hD hS => ?_)
        obtain ⟨w172_0, w172_1⟩ := u172
        try dsimp only at h
        have hP : va_P D vwCl (wX0_play cI cJ cS a_p0 a_p0_bodies w172_0 v_p0_kind v_p0_stretchNumber v_p0_space w172_1) H := hP
        have hD : va_D A (wX0_play cI cJ cS a_p0 a_p0_bodies w172_0 v_p0_kind v_p0_stretchNumber v_p0_space w172_1) := hD
        refine lv_iconst (v := 2) hx hb dX0_play_175 (by decide) ?_
        refine lv_imul hx hb dX0_play_176 ?_
        exact W.iret hx hb hr (fun t ht _ => ⟨⟨_, (w172_0, w172_1), rfl, h, hPt hP ht⟩, hS.F ht⟩) hS.2.2 dX0_play_177
      have h := h.2 hk11
      by_cases hk12 : r25 = 12
      · have h := h.1 hk12
        refine lv_lookup (off := 121) (tgt := 178) hx hb dX0_play_57 (by decide) (by rw [hk12]; decide) (by decide) ?_
        refine lv_aload_n hx hb dX0_play_178 rfl (lv_at hl 5 rfl) ?_
        refine lv_iconst (v := 1) hx hb dX0_play_179 (by decide) ?_
        refine lv_aload_n hx hb dX0_play_180 rfl (lv_at hl 5 rfl) ?_
        refine gf S hE hP 0 rfl rfl inX0 (k := 2) (by decide) q145 rfl dX0_play_181 ?_
        refine lv_iload_n hx hb dX0_play_184 rfl (lv_at hl 8 rfl) ?_
        refine lv_iload hx hb dX0_play_185 (lv_at hl 1 rfl) ?_
        refine rw_i (rwS S hE hT hS hP hD hA (ih h) [0, 1] rfl (by decide +kernel) lkX0_56 rfl (rlR (by omega) (by omega)) hl.1 rfl (Nat.le_of_ble_eq_true rfl) dX0_play_187 ⟨(Nat.zero_le _), (Nat.zero_le _)⟩) hP hD hS hA [0, 1] rfl (by decide +kernel) (fun _ => rfl) (fun r187 u187 H locs h hP hD hS => ?_)
        obtain ⟨w187_0, w187_1⟩ := u187
        try dsimp only at h
        have hP : va_P D vwCl (wX0_play cI cJ cS a_p0 a_p0_bodies w187_0 v_p0_kind v_p0_stretchNumber v_p0_space w187_1) H := hP
        have hD : va_D A (wX0_play cI cJ cS a_p0 a_p0_bodies w187_0 v_p0_kind v_p0_stretchNumber v_p0_space w187_1) := hD
        refine lv_aload_n hx hb dX0_play_190 rfl (lv_at hl 5 rfl) ?_
        refine lv_iconst (v := 0) hx hb dX0_play_191 (by decide) ?_
        refine lv_aload_n hx hb dX0_play_192 rfl (lv_at hl 5 rfl) ?_
        refine gf S hE hP 0 rfl rfl inX0 (k := 2) (by decide) q145 rfl dX0_play_193 ?_
        refine lv_iload_n hx hb dX0_play_196 rfl (lv_at hl 8 rfl) ?_
        refine lv_iload hx hb dX0_play_197 (lv_at hl 0 rfl) ?_
        refine lv_isub hx hb dX0_play_199 ?_
        refine lv_iload hx hb dX0_play_200 (lv_at hl 1 rfl) ?_
        refine rw_i (rwS S hE hT hS hP hD hA (ih h) [0, 1] rfl (by decide +kernel) lkX0_56 rfl (rlR (by omega) (by omega)) hl.1 rfl (Nat.le_of_ble_eq_true rfl) dX0_play_202 ⟨(Nat.zero_le _), (Nat.zero_le _)⟩) hP hD hS hA [0, 1] rfl (by decide +kernel) (fun _ => rfl) (fun r202 u202 H locs h hP hD hS => ?_)
        obtain ⟨w202_0, w202_1⟩ := u202
        try dsimp only at h
        have hP : va_P D vwCl (wX0_play cI cJ cS a_p0 a_p0_bodies w202_0 v_p0_kind v_p0_stretchNumber v_p0_space w202_1) H := hP
        have hD : va_D A (wX0_play cI cJ cS a_p0 a_p0_bodies w202_0 v_p0_kind v_p0_stretchNumber v_p0_space w202_1) := hD
        refine lv_ixor hx hb dX0_play_205 ?_
        exact W.iret hx hb hr (fun t ht _ => ⟨⟨_, (w202_0, w202_1), rfl, h, hPt hP ht⟩, hS.F ht⟩) hS.2.2 dX0_play_206
      have h := h.2 hk12
      by_cases hk20 : r25 = 20
      · have h := h.1 hk20
        refine lv_lookup (off := 150) (tgt := 207) hx hb dX0_play_57 (by decide) (by rw [hk20]; decide) (by decide) ?_
        refine lv_aload_n hx hb dX0_play_207 rfl (lv_at hl 5 rfl) ?_
        refine lv_iconst (v := 0) hx hb dX0_play_208 (by decide) ?_
        refine lv_iload hx hb dX0_play_209 (lv_at hl 2 rfl) ?_
        refine lv_iload_n hx hb dX0_play_211 rfl (lv_at hl 8 rfl) ?_
        refine lv_iload hx hb dX0_play_212 (lv_at hl 1 rfl) ?_
        refine rw_i (rwS S hE hT hS hP hD hA (ih h) [0, 1] rfl (by decide +kernel) lkX0_56 rfl (rlR (by omega) (by omega)) hl.1 rfl (Nat.le_of_ble_eq_true rfl) dX0_play_214 ⟨(Nat.zero_le _), (Nat.zero_le _)⟩) hP hD hS hA [0, 1] rfl (by decide +kernel) (fun _ => rfl) (fun r214 u214 H locs h hP hD hS => ?_)
        obtain ⟨w214_0, w214_1⟩ := u214
        try dsimp only at h
        have hP : va_P D vwCl (wX0_play cI cJ cS a_p0 a_p0_bodies w214_0 v_p0_kind v_p0_stretchNumber v_p0_space w214_1) H := hP
        have hD : va_D A (wX0_play cI cJ cS a_p0 a_p0_bodies w214_0 v_p0_kind v_p0_stretchNumber v_p0_space w214_1) := hD
        refine lv_iload hx hb dX0_play_217 (lv_at hl 0 rfl) ?_
        refine lv_iadd hx hb dX0_play_219 ?_
        exact W.iret hx hb hr (fun t ht _ => ⟨⟨_, (w214_0, w214_1), rfl, h, hPt hP ht⟩, hS.F ht⟩) hS.2.2 dX0_play_220
      have h := h.2 hk20
      by_cases hk30 : r25 = 30
      · have h := h.1 hk30
        refine lv_lookup (off := 164) (tgt := 221) hx hb dX0_play_57 (by decide) (by rw [hk30]; decide) (by decide) ?_
        refine lv_aload_n hx hb dX0_play_221 rfl (lv_at hl 5 rfl) ?_
        refine lv_iconst (v := 1) hx hb dX0_play_222 (by decide) ?_
        refine lv_iload hx hb dX0_play_223 (lv_at hl 2 rfl) ?_
        refine lv_iload_n hx hb dX0_play_225 rfl (lv_at hl 8 rfl) ?_
        refine lv_iload hx hb dX0_play_226 (lv_at hl 1 rfl) ?_
        refine rw_i (rwS S hE hT hS hP hD hA (ih h) [0, 1] rfl (by decide +kernel) lkX0_56 rfl (rlR (by omega) (by omega)) hl.1 rfl (Nat.le_of_ble_eq_true rfl) dX0_play_228 ⟨(Nat.zero_le _), (Nat.zero_le _)⟩) hP hD hS hA [0, 1] rfl (by decide +kernel) (fun _ => rfl) (fun r228 u228 H locs h hP hD hS => ?_)
        obtain ⟨w228_0, w228_1⟩ := u228
        try dsimp only at h
        have hP : va_P D vwCl (wX0_play cI cJ cS a_p0 a_p0_bodies w228_0 v_p0_kind v_p0_stretchNumber v_p0_space w228_1) H := hP
        have hD : va_D A (wX0_play cI cJ cS a_p0 a_p0_bodies w228_0 v_p0_kind v_p0_stretchNumber v_p0_space w228_1) := hD
        refine lv_iconst (v := 3) hx hb dX0_play_231 (by decide) ?_
        refine lv_imul hx hb dX0_play_232 ?_
        exact W.iret hx hb hr (fun t ht _ => ⟨⟨_, (w228_0, w228_1), rfl, h, hPt hP ht⟩, hS.F ht⟩) hS.2.2 dX0_play_233
      have h := h.2 hk30
      by_cases hk40 : r25 = 40
      · have h := h.1 hk40
        refine lv_lookup (off := 177) (tgt := 234) hx hb dX0_play_57 (by decide) (by rw [hk40]; decide) (by decide) ?_
        refine lv_aload_n hx hb dX0_play_234 rfl (lv_at hl 5 rfl) ?_
        refine lv_iconst (v := 1) hx hb dX0_play_235 (by decide) ?_
        refine lv_iload hx hb dX0_play_236 (lv_at hl 2 rfl) ?_
        refine lv_iload_n hx hb dX0_play_238 rfl (lv_at hl 8 rfl) ?_
        refine lv_iconst (v := 1) hx hb dX0_play_239 (by decide) ?_
        refine lv_iadd hx hb dX0_play_240 ?_
        refine lv_iload hx hb dX0_play_241 (lv_at hl 1 rfl) ?_
        refine rw_i (rwS S hE hT hS hP hD hA (ih h) [0, 1] rfl (by decide +kernel) lkX0_56 rfl (rlR (by omega) (by omega)) hl.1 rfl (Nat.le_of_ble_eq_true rfl) dX0_play_243 ⟨(Nat.zero_le _), (Nat.zero_le _)⟩) hP hD hS hA [0, 1] rfl (by decide +kernel) (fun _ => rfl) (fun r243 u243 H locs h hP hD hS => ?_)
        obtain ⟨w243_0, w243_1⟩ := u243
        try dsimp only at h
        have hP : va_P D vwCl (wX0_play cI cJ cS a_p0 a_p0_bodies w243_0 v_p0_kind v_p0_stretchNumber v_p0_space w243_1) H := hP
        have hD : va_D A (wX0_play cI cJ cS a_p0 a_p0_bodies w243_0 v_p0_kind v_p0_stretchNumber v_p0_space w243_1) := hD
        exact W.iret hx hb hr (fun t ht _ => ⟨⟨_, (w243_0, w243_1), rfl, h, hPt hP ht⟩, hS.F ht⟩) hS.2.2 dX0_play_246
      have h := h.2 hk40
      by_cases hk41 : r25 = 41
      · have h := h.1 hk41
        refine lv_lookup (off := 190) (tgt := 247) hx hb dX0_play_57 (by decide) (by rw [hk41]; decide) (by decide) ?_
        refine lv_aload_n hx hb dX0_play_247 rfl (lv_at hl 5 rfl) ?_
        refine lv_iconst (v := 0) hx hb dX0_play_248 (by decide) ?_
        refine lv_iload hx hb dX0_play_249 (lv_at hl 2 rfl) ?_
        refine lv_iload_n hx hb dX0_play_251 rfl (lv_at hl 8 rfl) ?_
        refine lv_iload hx hb dX0_play_252 (lv_at hl 1 rfl) ?_
        refine rw_i (rwS S hE hT hS hP hD hA (ih h) [0, 1] rfl (by decide +kernel) lkX0_56 rfl (rlR (by omega) (by omega)) hl.1 rfl (Nat.le_of_ble_eq_true rfl) dX0_play_254 ⟨(Nat.zero_le _), (Nat.zero_le _)⟩) hP hD hS hA [0, 1] rfl (by decide +kernel) (fun _ => rfl) (fun r254 u254 H locs h hP hD hS => ?_)
        obtain ⟨w254_0, w254_1⟩ := u254
        try dsimp only at h
        have hP : va_P D vwCl (wX0_play cI cJ cS a_p0 a_p0_bodies w254_0 v_p0_kind v_p0_stretchNumber v_p0_space w254_1) H := hP
        have hD : va_D A (wX0_play cI cJ cS a_p0 a_p0_bodies w254_0 v_p0_kind v_p0_stretchNumber v_p0_space w254_1) := hD
        refine lv_aload_n hx hb dX0_play_257 rfl (lv_at hl 5 rfl) ?_
        refine gf S hE hP 0 rfl rfl inX0 (k := 3) (by decide) q146 rfl dX0_play_258 ?_
        refine lv_isub hx hb dX0_play_261 ?_
        exact W.iret hx hb hr (fun t ht _ => ⟨⟨_, (w254_0, w254_1), rfl, h, hPt hP ht⟩, hS.F ht⟩) hS.2.2 dX0_play_262
      have h := h.2 hk41
      by_cases hk50 : r25 = 50
      · have h := h.1 hk50
        refine lv_lookup (off := 206) (tgt := 263) hx hb dX0_play_57 (by decide) (by rw [hk50]; decide) (by decide) ?_
        refine lv_aload_n hx hb dX0_play_263 rfl (lv_at hl 5 rfl) ?_
        refine lv_iconst (v := 2) hx hb dX0_play_264 (by decide) ?_
        refine lv_iload hx hb dX0_play_265 (lv_at hl 2 rfl) ?_
        refine lv_iload_n hx hb dX0_play_267 rfl (lv_at hl 8 rfl) ?_
        refine lv_iload hx hb dX0_play_268 (lv_at hl 1 rfl) ?_
        refine rw_i (rwS S hE hT hS hP hD hA (ih h) [0, 1] rfl (by decide +kernel) lkX0_56 rfl (rlR (by omega) (by omega)) hl.1 rfl (Nat.le_of_ble_eq_true rfl) dX0_play_270 ⟨(Nat.zero_le _), (Nat.zero_le _)⟩) hP hD hS hA [0, 1] rfl (by decide +kernel) (fun _ => rfl) (fun r270 u270 H locs h hP hD hS => ?_)
        obtain ⟨w270_0, w270_1⟩ := u270
        try dsimp only at h
        have hP : va_P D vwCl (wX0_play cI cJ cS a_p0 a_p0_bodies w270_0 v_p0_kind v_p0_stretchNumber v_p0_space w270_1) H := hP
        have hD : va_D A (wX0_play cI cJ cS a_p0 a_p0_bodies w270_0 v_p0_kind v_p0_stretchNumber v_p0_space w270_1) := hD
        refine lv_ineg hx hb dX0_play_273 ?_
        exact W.iret hx hb hr (fun t ht _ => ⟨⟨_, (w270_0, w270_1), rfl, h, hPt hP ht⟩, hS.F ht⟩) hS.2.2 dX0_play_274
      have h := h.2 hk50
      by_cases hk60 : r25 = 60
      · have h := h.1 hk60
        refine lv_lookup (off := 218) (tgt := 275) hx hb dX0_play_57 (by decide) (by rw [hk60]; decide) (by decide) ?_
        refine lv_aload_n hx hb dX0_play_275 rfl (lv_at hl 5 rfl) ?_
        refine lv_iconst (v := 2) hx hb dX0_play_276 (by decide) ?_
        refine lv_iload hx hb dX0_play_277 (lv_at hl 2 rfl) ?_
        refine lv_iload_n hx hb dX0_play_279 rfl (lv_at hl 8 rfl) ?_
        refine lv_iload hx hb dX0_play_280 (lv_at hl 1 rfl) ?_
        refine rw_i (rwS S hE hT hS hP hD hA (ih h) [0, 1] rfl (by decide +kernel) lkX0_56 rfl (rlR (by omega) (by omega)) hl.1 rfl (Nat.le_of_ble_eq_true rfl) dX0_play_282 ⟨(Nat.zero_le _), (Nat.zero_le _)⟩) hP hD hS hA [0, 1] rfl (by decide +kernel) (fun _ => rfl) (fun r282 u282 H locs h hP hD hS => ?_)
        obtain ⟨w282_0, w282_1⟩ := u282
        try dsimp only at h
        have hP : va_P D vwCl (wX0_play cI cJ cS a_p0 a_p0_bodies w282_0 v_p0_kind v_p0_stretchNumber v_p0_space w282_1) H := hP
        have hD : va_D A (wX0_play cI cJ cS a_p0 a_p0_bodies w282_0 v_p0_kind v_p0_stretchNumber v_p0_space w282_1) := hD
        refine lv_iconst (v := 5) hx hb dX0_play_285 (by decide) ?_
        refine lv_ixor hx hb dX0_play_286 ?_
        exact W.iret hx hb hr (fun t ht _ => ⟨⟨_, (w282_0, w282_1), rfl, h, hPt hP ht⟩, hS.F ht⟩) hS.2.2 dX0_play_287
      have h := h.2 hk60
      by_cases hk70 : r25 = 70
      · have h := h.1 hk70
        refine lv_lookup (off := 231) (tgt := 288) hx hb dX0_play_57 (by decide) (by rw [hk70]; decide) (by decide) ?_
        refine lv_aload_n hx hb dX0_play_288 rfl (lv_at hl 5 rfl) ?_
        refine lv_iconst (v := 0) hx hb dX0_play_289 (by decide) ?_
        refine lv_iload hx hb dX0_play_290 (lv_at hl 2 rfl) ?_
        refine lv_iload_n hx hb dX0_play_292 rfl (lv_at hl 8 rfl) ?_
        refine lv_iload hx hb dX0_play_293 (lv_at hl 1 rfl) ?_
        refine rw_i (rwS S hE hT hS hP hD hA (ih h) [0, 1] rfl (by decide +kernel) lkX0_56 rfl (rlR (by omega) (by omega)) hl.1 rfl (Nat.le_of_ble_eq_true rfl) dX0_play_295 ⟨(Nat.zero_le _), (Nat.zero_le _)⟩) hP hD hS hA [0, 1] rfl (by decide +kernel) (fun _ => rfl) (fun r295 u295 H locs h hP hD hS => ?_)
        obtain ⟨w295_0, w295_1⟩ := u295
        try dsimp only at h
        have hP : va_P D vwCl (wX0_play cI cJ cS a_p0 a_p0_bodies w295_0 v_p0_kind v_p0_stretchNumber v_p0_space w295_1) H := hP
        have hD : va_D A (wX0_play cI cJ cS a_p0 a_p0_bodies w295_0 v_p0_kind v_p0_stretchNumber v_p0_space w295_1) := hD
        refine lv_iconst (v := 2) hx hb dX0_play_298 (by decide) ?_
        refine lv_imul hx hb dX0_play_299 ?_
        exact W.iret hx hb hr (fun t ht _ => ⟨⟨_, (w295_0, w295_1), rfl, h, hPt hP ht⟩, hS.F ht⟩) hS.2.2 dX0_play_300
      have h := h.2 hk70
      by_cases hk71 : r25 = 71
      · have h := h.1 hk71
        refine lv_lookup (off := 244) (tgt := 301) hx hb dX0_play_57 (by decide) (by rw [hk71]; decide) (by decide) ?_
        refine lv_aload_n hx hb dX0_play_301 rfl (lv_at hl 5 rfl) ?_
        refine lv_iconst (v := 2) hx hb dX0_play_302 (by decide) ?_
        refine lv_iload hx hb dX0_play_303 (lv_at hl 2 rfl) ?_
        refine lv_iload_n hx hb dX0_play_305 rfl (lv_at hl 8 rfl) ?_
        refine lv_iload hx hb dX0_play_306 (lv_at hl 0 rfl) ?_
        refine lv_isub hx hb dX0_play_308 ?_
        refine lv_iload hx hb dX0_play_309 (lv_at hl 1 rfl) ?_
        refine rw_i (rwS S hE hT hS hP hD hA (ih h) [0, 1] rfl (by decide +kernel) lkX0_56 rfl (rlR (by omega) (by omega)) hl.1 rfl (Nat.le_of_ble_eq_true rfl) dX0_play_311 ⟨(Nat.zero_le _), (Nat.zero_le _)⟩) hP hD hS hA [0, 1] rfl (by decide +kernel) (fun _ => rfl) (fun r311 u311 H locs h hP hD hS => ?_)
        obtain ⟨w311_0, w311_1⟩ := u311
        try dsimp only at h
        have hP : va_P D vwCl (wX0_play cI cJ cS a_p0 a_p0_bodies w311_0 v_p0_kind v_p0_stretchNumber v_p0_space w311_1) H := hP
        have hD : va_D A (wX0_play cI cJ cS a_p0 a_p0_bodies w311_0 v_p0_kind v_p0_stretchNumber v_p0_space w311_1) := hD
        exact W.iret hx hb hr (fun t ht _ => ⟨⟨_, (w311_0, w311_1), rfl, h, hPt hP ht⟩, hS.F ht⟩) hS.2.2 dX0_play_314
      have h := h.2 hk71
      refine lv_lookup (off := 258) (tgt := 315) hx hb dX0_play_57 (by decide) (by
        have n1 : ∀ (k : Int) (z : Int32), z.toInt = k → ¬ r25 = z → ¬ k = r25.toInt := fun k z e n e2 => n (Int32.toInt_inj.mp (e2.symm.trans e.symm))
        simp [Op.lookupswitch.offset, n1 10 10 (by decide) hk10, Ne.symm (n1 10 10 (by decide) hk10), n1 11 11 (by decide) hk11, Ne.symm (n1 11 11 (by decide) hk11), n1 12 12 (by decide) hk12, Ne.symm (n1 12 12 (by decide) hk12), n1 20 20 (by decide) hk20, Ne.symm (n1 20 20 (by decide) hk20), n1 30 30 (by decide) hk30, Ne.symm (n1 30 30 (by decide) hk30), n1 40 40 (by decide) hk40, Ne.symm (n1 40 40 (by decide) hk40), n1 41 41 (by decide) hk41, Ne.symm (n1 41 41 (by decide) hk41), n1 50 50 (by decide) hk50, Ne.symm (n1 50 50 (by decide) hk50), n1 60 60 (by decide) hk60, Ne.symm (n1 60 60 (by decide) hk60), n1 70 70 (by decide) hk70, Ne.symm (n1 70 70 (by decide) hk70), n1 71 71 (by decide) hk71, Ne.symm (n1 71 71 (by decide) hk71)]) (by decide) ?_
      refine lv_iconst (v := 0) hx hb dX0_play_315 (by decide) ?_
      exact W.iret hx hb hr (fun t ht _ => ⟨⟨_, (w52_0, w52_1), rfl, h, hPt hP ht⟩, hS.F ht⟩) hS.2.2 dX0_play_316
    have h := h.2 hc
    refine lv_iconst (v := 0) hx hb dX0_play_20 (by decide) ?_
    exact W.iret hx hb hr (fun t ht _ => ⟨⟨_, (v_p0_ran, f_p0_bodies), rfl, h, hPt hP ht⟩, hS.F ht⟩) hS.2.2 dX0_play_21
