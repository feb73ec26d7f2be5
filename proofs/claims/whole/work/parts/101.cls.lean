/-! X1_become -/
abbrev wX1_become (cI cJ cS : ClassId) (a_o a_bases a_p1 a_p1_bases a_p1_shares a_p1_speeds a_shares a_speeds : Nat) (v_carCount : Int32) (f_bases : Nat → Int32) (v_p1_carCount : Int32) (f_p1_bases : Nat → Int32) (f_p1_shares : Nat → Int32) (f_p1_speeds : Nat → Int32) (f_shares : Nat → Int32) (f_speeds : Nat → Int32) : va_W := [(a_o, .inr (1, [.ref a_speeds, .ref a_bases, .ref a_shares, .int v_carCount])), (a_bases, .inl (cI, 6, .inl f_bases)), (a_p1, .inr (1, [.ref a_p1_speeds, .ref a_p1_bases, .ref a_p1_shares, .int v_p1_carCount])), (a_p1_bases, .inl (cI, 6, .inl f_p1_bases)), (a_p1_shares, .inl (cI, 6, .inl f_p1_shares)), (a_p1_speeds, .inl (cI, 6, .inl f_p1_speeds)), (a_shares, .inl (cI, 6, .inl f_shares)), (a_speeds, .inl (cI, 6, .inl f_speeds))]
def F_X1_become (v_carCount : Int32) (f_bases : Nat → Int32) (v_p1_carCount : Int32) (f_p1_bases : Nat → Int32) (f_p1_shares : Nat → Int32) (f_p1_speeds : Nat → Int32) (f_shares : Nat → Int32) (f_speeds : Nat → Int32) (post : Int32 → (Nat → Int32) → (Nat → Int32) → (Nat → Int32) → Prop) : Prop := post v_p1_carCount (va_cpy f_p1_bases f_bases (0 : Int32).toNatClampNeg (0 : Int32).toNatClampNeg (6 : Int32).toNatClampNeg) (va_cpy f_p1_shares f_shares (0 : Int32).toNatClampNeg (0 : Int32).toNatClampNeg (6 : Int32).toNatClampNeg) (va_cpy f_p1_speeds f_speeds (0 : Int32).toNatClampNeg (0 : Int32).toNatClampNeg (6 : Int32).toNatClampNeg)
set_option maxHeartbeats 4000000 in
set_option maxRecDepth 100000 in
theorem c_X1_become {l : Launch} {D : va_G} {cI cJ cS : ClassId} {ad adK : Nat → Nat} {a_o a_bases a_p1 a_p1_bases a_p1_shares a_p1_speeds a_shares a_speeds : Nat} {v_carCount : Int32} {f_bases : Nat → Int32} {v_p1_carCount : Int32} {f_p1_bases : Nat → Int32} {f_p1_shares : Nat → Int32} {f_p1_speeds : Nat → Int32} {f_shares : Nat → Int32} {f_speeds : Nat → Int32} {post : Int32 → (Nat → Int32) → (Nat → Int32) → (Nat → Int32) → Prop} (h : F_X1_become v_carCount f_bases v_p1_carCount f_p1_bases f_p1_shares f_p1_speeds f_shares f_speeds post) {sz : Nat} : Met l yX1_become (Cond.code yX1_become cX1_become 2 none :: GW) (rmd 1 0 0) (PW D cI cJ cS ad adK [.ref a_o, .ref a_p1] (wX1_become cI cJ cS a_o a_bases a_p1 a_p1_bases a_p1_shares a_p1_speeds a_shares a_speeds v_carCount f_bases v_p1_carCount f_p1_bases f_p1_shares f_p1_speeds f_shares f_speeds) sz) (va_Qv (fun u : Int32 × (Nat → Int32) × (Nat → Int32) × (Nat → Int32) => post u.1 u.2.1 u.2.2.1 u.2.2.2) (fun u t => va_P D vwCl (wX1_become cI cJ cS a_o a_bases a_p1 a_p1_bases a_p1_shares a_p1_speeds a_shares a_speeds u.1 u.2.1 v_p1_carCount f_p1_bases f_p1_shares f_p1_speeds u.2.2.1 u.2.2.2) t.heap) (va_A (wX1_become cI cJ cS a_o a_bases a_p1 a_p1_bases a_p1_shares a_p1_speeds a_shares a_speeds v_carCount f_bases v_p1_carCount f_p1_bases f_p1_shares f_p1_speeds f_shares f_speeds) sz)) 0 0 (va_A (wX1_become cI cJ cS a_o a_bases a_p1 a_p1_bases a_p1_shares a_p1_speeds a_shares a_speeds v_carCount f_bases v_p1_carCount f_p1_bases f_p1_shares f_p1_speeds f_shares f_speeds) sz) := by
  refine Met.rw (Qc := fun A => (va_Qv (fun u : Int32 × (Nat → Int32) × (Nat → Int32) × (Nat → Int32) => post u.1 u.2.1 u.2.2.1 u.2.2.2) (fun u t => va_P D vwCl (wX1_become cI cJ cS a_o a_bases a_p1 a_p1_bases a_p1_shares a_p1_speeds a_shares a_speeds u.1 u.2.1 v_p1_carCount f_p1_bases f_p1_shares f_p1_speeds u.2.2.1 u.2.2.2) t.heap) A)) (by decide) (Nat.le_of_ble_eq_true rfl) (fun p e s m args below meth c ls A (S : CallFix p m c cX1_become 2 s args GW "RoadThatSings$Cars") hE hT hP hD hA hS hr hlocks hname hl => ?_)
  have hS0 := hS
  have hx := S.1
  have hb := S.2.1
  have hl : lv_has ls 2 [(0, .ref a_o), (1, .ref a_p1)] := hl
  unfold F_X1_become at h
  refine lv_aload_n hx hb dX1_become_0 rfl (lv_at hl 1 rfl) ?_
  refine gf S hE hP 2 rfl rfl inX1 (k := 0) (by decide) q61 rfl dX1_become_1 ?_
  refine lv_iconst (v := 0) hx hb dX1_become_4 (by decide) ?_
  refine lv_aload_n hx hb dX1_become_5 rfl (lv_at hl 0 rfl) ?_
  refine gf S hE hP 0 rfl rfl inX1 (k := 0) (by decide) q61 rfl dX1_become_6 ?_
  refine lv_iconst (v := 0) hx hb dX1_become_9 (by decide) ?_
  refine lv_bipush (v := 6) hx hb dX1_become_10 (by decide) ?_
  refine acpi S hE hP hD hS hl.1 5 7 rfl rfl q561 q289 q288 q12 (by decide) (by decide) (by decide) (by decide) (by decide) (Nat.le_of_ble_eq_true rfl) (Nat.le_of_ble_eq_true rfl) dX1_become_12 (fun H locs hP hD hS => ?_)
  have hP : va_P D vwCl (wX1_become cI cJ cS a_o a_bases a_p1 a_p1_bases a_p1_shares a_p1_speeds a_shares a_speeds v_carCount f_bases v_p1_carCount f_p1_bases f_p1_shares f_p1_speeds f_shares (va_cpy f_p1_speeds f_speeds (0 : Int32).toNatClampNeg (0 : Int32).toNatClampNeg (6 : Int32).toNatClampNeg)) H := hP
  have hD : va_D A (wX1_become cI cJ cS a_o a_bases a_p1 a_p1_bases a_p1_shares a_p1_speeds a_shares a_speeds v_carCount f_bases v_p1_carCount f_p1_bases f_p1_shares f_p1_speeds f_shares (va_cpy f_p1_speeds f_speeds (0 : Int32).toNatClampNeg (0 : Int32).toNatClampNeg (6 : Int32).toNatClampNeg)) := hD
  refine lv_aload_n hx hb dX1_become_15 rfl (lv_at hl 1 rfl) ?_
  refine gf S hE hP 2 rfl rfl inX1 (k := 1) (by decide) q62 rfl dX1_become_16 ?_
  refine lv_iconst (v := 0) hx hb dX1_become_19 (by decide) ?_
  refine lv_aload_n hx hb dX1_become_20 rfl (lv_at hl 0 rfl) ?_
  refine gf S hE hP 0 rfl rfl inX1 (k := 1) (by decide) q62 rfl dX1_become_21 ?_
  refine lv_iconst (v := 0) hx hb dX1_become_24 (by decide) ?_
  refine lv_bipush (v := 6) hx hb dX1_become_25 (by decide) ?_
  refine acpi S hE hP hD hS hl.1 3 1 rfl rfl q561 q289 q288 q12 (by decide) (by decide) (by decide) (by decide) (by decide) (Nat.le_of_ble_eq_true rfl) (Nat.le_of_ble_eq_true rfl) dX1_become_27 (fun H locs hP hD hS => ?_)
  have hP : va_P D vwCl (wX1_become cI cJ cS a_o a_bases a_p1 a_p1_bases a_p1_shares a_p1_speeds a_shares a_speeds v_carCount (va_cpy f_p1_bases f_bases (0 : Int32).toNatClampNeg (0 : Int32).toNatClampNeg (6 : Int32).toNatClampNeg) v_p1_carCount f_p1_bases f_p1_shares f_p1_speeds f_shares (va_cpy f_p1_speeds f_speeds (0 : Int32).toNatClampNeg (0 : Int32).toNatClampNeg (6 : Int32).toNatClampNeg)) H := hP
  have hD : va_D A (wX1_become cI cJ cS a_o a_bases a_p1 a_p1_bases a_p1_shares a_p1_speeds a_shares a_speeds v_carCount (va_cpy f_p1_bases f_bases (0 : Int32).toNatClampNeg (0 : Int32).toNatClampNeg (6 : Int32).toNatClampNeg) v_p1_carCount f_p1_bases f_p1_shares f_p1_speeds f_shares (va_cpy f_p1_speeds f_speeds (0 : Int32).toNatClampNeg (0 : Int32).toNatClampNeg (6 : Int32).toNatClampNeg)) := hD
  refine lv_aload_n hx hb dX1_become_30 rfl (lv_at hl 1 rfl) ?_
  refine gf S hE hP 2 rfl rfl inX1 (k := 2) (by decide) q63 rfl dX1_become_31 ?_
  refine lv_iconst (v := 0) hx hb dX1_become_34 (by decide) ?_
  refine lv_aload_n hx hb dX1_become_35 rfl (lv_at hl 0 rfl) ?_
  refine gf S hE hP 0 rfl rfl inX1 (k := 2) (by decide) q63 rfl dX1_become_36 ?_
  refine lv_iconst (v := 0) hx hb dX1_become_39 (by decide) ?_
  refine lv_bipush (v := 6) hx hb dX1_become_40 (by decide) ?_
  refine acpi S hE hP hD hS hl.1 4 6 rfl rfl q561 q289 q288 q12 (by decide) (by decide) (by decide) (by decide) (by decide) (Nat.le_of_ble_eq_true rfl) (Nat.le_of_ble_eq_true rfl) dX1_become_42 (fun H locs hP hD hS => ?_)
  have hP : va_P D vwCl (wX1_become cI cJ cS a_o a_bases a_p1 a_p1_bases a_p1_shares a_p1_speeds a_shares a_speeds v_carCount (va_cpy f_p1_bases f_bases (0 : Int32).toNatClampNeg (0 : Int32).toNatClampNeg (6 : Int32).toNatClampNeg) v_p1_carCount f_p1_bases f_p1_shares f_p1_speeds (va_cpy f_p1_shares f_shares (0 : Int32).toNatClampNeg (0 : Int32).toNatClampNeg (6 : Int32).toNatClampNeg) (va_cpy f_p1_speeds f_speeds (0 : Int32).toNatClampNeg (0 : Int32).toNatClampNeg (6 : Int32).toNatClampNeg)) H := hP
  have hD : va_D A (wX1_become cI cJ cS a_o a_bases a_p1 a_p1_bases a_p1_shares a_p1_speeds a_shares a_speeds v_carCount (va_cpy f_p1_bases f_bases (0 : Int32).toNatClampNeg (0 : Int32).toNatClampNeg (6 : Int32).toNatClampNeg) v_p1_carCount f_p1_bases f_p1_shares f_p1_speeds (va_cpy f_p1_shares f_shares (0 : Int32).toNatClampNeg (0 : Int32).toNatClampNeg (6 : Int32).toNatClampNeg) (va_cpy f_p1_speeds f_speeds (0 : Int32).toNatClampNeg (0 : Int32).toNatClampNeg (6 : Int32).toNatClampNeg)) := hD
  refine lv_aload_n hx hb dX1_become_45 rfl (lv_at hl 0 rfl) ?_
  refine lv_aload_n hx hb dX1_become_46 rfl (lv_at hl 1 rfl) ?_
  refine gf S hE hP 2 rfl rfl inX1 (k := 3) (by decide) q64 rfl dX1_become_47 ?_
  refine pf S hE hP hD hS 0 (k := 3) rfl rfl inX1 tyX1_ok nmX1 (by decide) q64 rfl rfl rfl (Nat.le_of_ble_eq_true rfl) dX1_become_50 (fun H locs hP hD hS => ?_)
  have hP : va_P D vwCl (wX1_become cI cJ cS a_o a_bases a_p1 a_p1_bases a_p1_shares a_p1_speeds a_shares a_speeds v_p1_carCount (va_cpy f_p1_bases f_bases (0 : Int32).toNatClampNeg (0 : Int32).toNatClampNeg (6 : Int32).toNatClampNeg) v_p1_carCount f_p1_bases f_p1_shares f_p1_speeds (va_cpy f_p1_shares f_shares (0 : Int32).toNatClampNeg (0 : Int32).toNatClampNeg (6 : Int32).toNatClampNeg) (va_cpy f_p1_speeds f_speeds (0 : Int32).toNatClampNeg (0 : Int32).toNatClampNeg (6 : Int32).toNatClampNeg)) H := hP
  have hD : va_D A (wX1_become cI cJ cS a_o a_bases a_p1 a_p1_bases a_p1_shares a_p1_speeds a_shares a_speeds v_p1_carCount (va_cpy f_p1_bases f_bases (0 : Int32).toNatClampNeg (0 : Int32).toNatClampNeg (6 : Int32).toNatClampNeg) v_p1_carCount f_p1_bases f_p1_shares f_p1_speeds (va_cpy f_p1_shares f_shares (0 : Int32).toNatClampNeg (0 : Int32).toNatClampNeg (6 : Int32).toNatClampNeg) (va_cpy f_p1_speeds f_speeds (0 : Int32).toNatClampNeg (0 : Int32).toNatClampNeg (6 : Int32).toNatClampNeg)) := hD
  exact W.vret hx hb hr (fun t ht _ => ⟨⟨(v_p1_carCount, (va_cpy f_p1_bases f_bases (0 : Int32).toNatClampNeg (0 : Int32).toNatClampNeg (6 : Int32).toNatClampNeg), (va_cpy f_p1_shares f_shares (0 : Int32).toNatClampNeg (0 : Int32).toNatClampNeg (6 : Int32).toNatClampNeg), (va_cpy f_p1_speeds f_speeds (0 : Int32).toNatClampNeg (0 : Int32).toNatClampNeg (6 : Int32).toNatClampNeg)), rfl, h, hPt hP ht⟩, hS.F ht⟩) hS.2.2 dX1_become_53
/-! X1_count -/
abbrev wX1_count (cI cJ cS : ClassId) (a_o : Nat) (z_speeds z_bases z_shares : Value) (v_carCount : Int32) : va_W := [(a_o, .inr (1, [z_speeds, z_bases, z_shares, .int v_carCount]))]
def F_X1_count (v_carCount : Int32) (post : Int32 → Prop) : Prop := post v_carCount
set_option maxHeartbeats 4000000 in
set_option maxRecDepth 100000 in
theorem c_X1_count {l : Launch} {D : va_G} {cI cJ cS : ClassId} {ad adK : Nat → Nat} {a_o : Nat} {z_speeds z_bases z_shares : Value} {v_carCount : Int32} {post : Int32 → Prop} (h : F_X1_count v_carCount post) : Met l yX1_count (Cond.code yX1_count cX1_count 1 (some (.int)) :: GW) (rmd 0 0 0) (PR D cI cJ cS ad adK [.ref a_o] (wX1_count cI cJ cS a_o z_speeds z_bases z_shares v_carCount)) (vp_Si post) 0 0 nof := by
  refine Met.ro (by decide) (Nat.le_of_ble_eq_true rfl) (fun p e s m args below meth c ls (S : CallFix p m c cX1_count 1 s args GW "RoadThatSings$Cars") hE hT hP hS hr hlocks hl => ?_)
  have hx := S.1
  have hb := S.2.1
  have hl : lv_has ls 1 [(0, .ref a_o)] := hl
  unfold F_X1_count at h
  refine lv_aload_n hx hb dX1_count_0 rfl (lv_at hl 0 rfl) ?_
  refine gf S hE hP 0 rfl rfl inX1 (k := 3) (by decide) q64 rfl dX1_count_1 ?_
  exact W.iret hx hb hr (fun t ht _ => ⟨_, rfl, h, ht⟩) (fun _ hq => by cases hq) dX1_count_4
/-! X1_has -/
abbrev wX1_has (cI cJ cS : ClassId) (a_o : Nat) (z_speeds z_bases z_shares : Value) (v_carCount : Int32) : va_W := [(a_o, .inr (1, [z_speeds, z_bases, z_shares, .int v_carCount]))]
def F_X1_has (v_carCount : Int32) (x1 : Int32) (post : Int32 → Prop) : Prop := ((x1 < 0 → post 0) ∧ (¬ x1 < 0 → ((v_carCount ≤ x1 → post 0) ∧ (¬ v_carCount ≤ x1 → ((6 ≤ x1 → post 0) ∧ (¬ 6 ≤ x1 → post 1))))))
set_option maxHeartbeats 4000000 in
set_option maxRecDepth 100000 in
theorem c_X1_has {l : Launch} {D : va_G} {cI cJ cS : ClassId} {ad adK : Nat → Nat} {a_o : Nat} {z_speeds z_bases z_shares : Value} {v_carCount : Int32} {x1 : Int32} {post : Int32 → Prop} (h : F_X1_has v_carCount x1 post) : Met l yX1_has (Cond.code yX1_has cX1_has 2 (some (.boolean)) :: GW) (rmd 0 0 0) (PR D cI cJ cS ad adK [.ref a_o, .int x1] (wX1_has cI cJ cS a_o z_speeds z_bases z_shares v_carCount)) (vp_Si post) 0 0 nof := by
  refine Met.ro (by decide) (Nat.le_of_ble_eq_true rfl) (fun p e s m args below meth c ls (S : CallFix p m c cX1_has 2 s args GW "RoadThatSings$Cars") hE hT hP hS hr hlocks hl => ?_)
  have hx := S.1
  have hb := S.2.1
  have hl : lv_has ls 2 [(0, .ref a_o), (1, .int x1)] := hl
  unfold F_X1_has at h
  refine lv_iload_n hx hb dX1_has_0 rfl (lv_at hl 1 rfl) ?_
  refine lv_if_lt (tgt := 22) hx hb dX1_has_1 (by decide) (fun hc => ?_) (fun hc => ?_)
  · have h := h.1 hc
    refine lv_iconst (v := 0) hx hb dX1_has_22 (by decide) ?_
    exact W.zret hx hb hr rfl (fun t ht _ => ⟨_, rfl, h, ht⟩) (fun _ hq => by cases hq) dX1_has_23
  have h := h.2 hc
  refine lv_iload_n hx hb dX1_has_4 rfl (lv_at hl 1 rfl) ?_
  refine lv_aload_n hx hb dX1_has_5 rfl (lv_at hl 0 rfl) ?_
  refine gf S hE hP 0 rfl rfl inX1 (k := 3) (by decide) q64 rfl dX1_has_6 ?_
  refine lv_icmp_ge (tgt := 22) hx hb dX1_has_9 (by decide) (fun hc => ?_) (fun hc => ?_)
  · have h := h.1 hc
    refine lv_iconst (v := 0) hx hb dX1_has_22 (by decide) ?_
    exact W.zret hx hb hr rfl (fun t ht _ => ⟨_, rfl, h, ht⟩) (fun _ hq => by cases hq) dX1_has_23
  have h := h.2 hc
  refine lv_iload_n hx hb dX1_has_12 rfl (lv_at hl 1 rfl) ?_
  refine lv_bipush (v := 6) hx hb dX1_has_13 (by decide) ?_
  refine lv_icmp_ge (tgt := 22) hx hb dX1_has_15 (by decide) (fun hc => ?_) (fun hc => ?_)
  · have h := h.1 hc
    refine lv_iconst (v := 0) hx hb dX1_has_22 (by decide) ?_
    exact W.zret hx hb hr rfl (fun t ht _ => ⟨_, rfl, h, ht⟩) (fun _ hq => by cases hq) dX1_has_23
  have h := h.2 hc
  refine lv_iconst (v := 1) hx hb dX1_has_18 (by decide) ?_
  refine lv_goto (tgt := 23) hx hb dX1_has_19 (by decide) ?_
  exact W.zret hx hb hr rfl (fun t ht _ => ⟨_, rfl, h, ht⟩) (fun _ hq => by cases hq) dX1_has_23
/-! X1_isFull -/
abbrev wX1_isFull (cI cJ cS : ClassId) (a_o : Nat) (z_speeds z_bases z_shares : Value) (v_carCount : Int32) : va_W := [(a_o, .inr (1, [z_speeds, z_bases, z_shares, .int v_carCount]))]
def F_X1_isFull (v_carCount : Int32) (post : Int32 → Prop) : Prop := ((v_carCount < 6 → post 0) ∧ (¬ v_carCount < 6 → post 1))
set_option maxHeartbeats 4000000 in
set_option maxRecDepth 100000 in
theorem c_X1_isFull {l : Launch} {D : va_G} {cI cJ cS : ClassId} {ad adK : Nat → Nat} {a_o : Nat} {z_speeds z_bases z_shares : Value} {v_carCount : Int32} {post : Int32 → Prop} (h : F_X1_isFull v_carCount post) : Met l yX1_isFull (Cond.code yX1_isFull cX1_isFull 1 (some (.boolean)) :: GW) (rmd 0 0 0) (PR D cI cJ cS ad adK [.ref a_o] (wX1_isFull cI cJ cS a_o z_speeds z_bases z_shares v_carCount)) (vp_Si post) 0 0 nof := by
  refine Met.ro (by decide) (Nat.le_of_ble_eq_true rfl) (fun p e s m args below meth c ls (S : CallFix p m c cX1_isFull 1 s args GW "RoadThatSings$Cars") hE hT hP hS hr hlocks hl => ?_)
  have hx := S.1
  have hb := S.2.1
  have hl : lv_has ls 1 [(0, .ref a_o)] := hl
  unfold F_X1_isFull at h
  refine lv_aload_n hx hb dX1_isFull_0 rfl (lv_at hl 0 rfl) ?_
  refine gf S hE hP 0 rfl rfl inX1 (k := 3) (by decide) q64 rfl dX1_isFull_1 ?_
  refine lv_bipush (v := 6) hx hb dX1_isFull_4 (by decide) ?_
  refine lv_icmp_lt (tgt := 13) hx hb dX1_isFull_6 (by decide) (fun hc => ?_) (fun hc => ?_)
  · have h := h.1 hc
    refine lv_iconst (v := 0) hx hb dX1_isFull_13 (by decide) ?_
    exact W.zret hx hb hr rfl (fun t ht _ => ⟨_, rfl, h, ht⟩) (fun _ hq => by cases hq) dX1_isFull_14
  have h := h.2 hc
  refine lv_iconst (v := 1) hx hb dX1_isFull_9 (by decide) ?_
  refine lv_goto (tgt := 14) hx hb dX1_isFull_10 (by decide) ?_
  exact W.zret hx hb hr rfl (fun t ht _ => ⟨_, rfl, h, ht⟩) (fun _ hq => by cases hq) dX1_isFull_14
/-! X1_add -/
abbrev wX1_add (cI cJ cS : ClassId) (a_o a_bases a_shares a_speeds : Nat) (v_carCount : Int32) (f_bases : Nat → Int32) (f_shares : Nat → Int32) (f_speeds : Nat → Int32) : va_W := [(a_o, .inr (1, [.ref a_speeds, .ref a_bases, .ref a_shares, .int v_carCount])), (a_bases, .inl (cI, 6, .inl f_bases)), (a_shares, .inl (cI, 6, .inl f_shares)), (a_speeds, .inl (cI, 6, .inl f_speeds))]
def F_X1_add (v_carCount : Int32) (f_bases : Nat → Int32) (f_shares : Nat → Int32) (f_speeds : Nat → Int32) (x1 : Int32) (x2 : Int32) (x3 : Int32) (post : Int32 → Int32 → (Nat → Int32) → (Nat → Int32) → (Nat → Int32) → Prop) : Prop := (F_X1_isFull v_carCount (fun r1 => ((r1 = 0 → ((0 ≤ v_carCount → (vp_in v_carCount 6 ∧ (vp_in v_carCount 6 ∧ (vp_in v_carCount 6 ∧ post ((v_carCount + 1) - 1) (v_carCount + 1) (upd f_bases v_carCount.toNatClampNeg x2) (upd f_shares v_carCount.toNatClampNeg x3) (upd f_speeds v_carCount.toNatClampNeg x1))))) ∧ (¬ 0 ≤ v_carCount → post (-1) v_carCount f_bases f_shares f_speeds))) ∧ (¬ r1 = 0 → post (-1) v_carCount f_bases f_shares f_speeds))))
set_option maxHeartbeats 4000000 in
set_option maxRecDepth 100000 in
theorem c_X1_add {l : Launch} {D : va_G} {cI cJ cS : ClassId} {ad adK : Nat → Nat} {a_o a_bases a_shares a_speeds : Nat} {v_carCount : Int32} {f_bases : Nat → Int32} {f_shares : Nat → Int32} {f_speeds : Nat → Int32} {x1 : Int32} {x2 : Int32} {x3 : Int32} {post : Int32 → Int32 → (Nat → Int32) → (Nat → Int32) → (Nat → Int32) → Prop} (h : F_X1_add v_carCount f_bases f_shares f_speeds x1 x2 x3 post) {sz : Nat} : Met l yX1_add (Cond.code yX1_add cX1_add 4 (some (.int)) :: GW) (rmd 1 0 0) (PW D cI cJ cS ad adK [.ref a_o, .int x1, .int x2, .int x3] (wX1_add cI cJ cS a_o a_bases a_shares a_speeds v_carCount f_bases f_shares f_speeds) sz) (va_Qi (fun r (u : Int32 × (Nat → Int32) × (Nat → Int32) × (Nat → Int32)) => post r u.1 u.2.1 u.2.2.1 u.2.2.2) (fun u t => va_P D vwCl (wX1_add cI cJ cS a_o a_bases a_shares a_speeds u.1 u.2.1 u.2.2.1 u.2.2.2) t.heap) (va_A (wX1_add cI cJ cS a_o a_bases a_shares a_speeds v_carCount f_bases f_shares f_speeds) sz)) 0 0 (va_A (wX1_add cI cJ cS a_o a_bases a_shares a_speeds v_carCount f_bases f_shares f_speeds) sz) := by
  refine Met.rw (Qc := fun A => (va_Qi (fun r (u : Int32 × (Nat → Int32) × (Nat → Int32) × (Nat → Int32)) => post r u.1 u.2.1 u.2.2.1 u.2.2.2) (fun u t => va_P D vwCl (wX1_add cI cJ cS a_o a_bases a_shares a_speeds u.1 u.2.1 u.2.2.1 u.2.2.2) t.heap) A)) (by decide) (Nat.le_of_ble_eq_true rfl) (fun p e s m args below meth c ls A (S : CallFix p m c cX1_add 4 s args GW "RoadThatSings$Cars") hE hT hP hD hA hS hr hlocks hname hl => ?_)
  have hS0 := hS
  have hx := S.1
  have hb := S.2.1
  have hl : lv_has ls 4 [(0, .ref a_o), (1, .int x1), (2, .int x2), (3, .int x3)] := hl
  unfold F_X1_add at h
  refine lv_aload_n hx hb dX1_add_0 rfl (lv_at hl 0 rfl) ?_
  refine ro_i (roV S hE hT hS (c_X1_isFull h) lkX1_31 rfl ⟨(Nat.le_of_ble_eq_true rfl), (Nat.le_of_ble_eq_true rfl)⟩ (hP.sub [0] rfl) 0 rfl rfl hl.1 rfl (Nat.le_of_ble_eq_true rfl) dX1_add_1 ⟨(Nat.zero_le _), (Nat.zero_le _)⟩) (fun r1 h => ?_)
  refine lv_if_ne (tgt := 14) hx hb dX1_add_4 (by decide) (fun hc => ?_) (fun hc => ?_)
  · have h := h.2 hc
    refine lv_iconst (v := (-1)) hx hb dX1_add_14 (by decide) ?_
    exact W.iret hx hb hr (fun t ht _ => ⟨⟨_, (v_carCount, f_bases, f_shares, f_speeds), rfl, h, hPt hP ht⟩, hS.F ht⟩) hS.2.2 dX1_add_15
  have h := h.1 hc
  refine lv_aload_n hx hb dX1_add_7 rfl (lv_at hl 0 rfl) ?_
  refine gf S hE hP 0 rfl rfl inX1 (k := 3) (by decide) q64 rfl dX1_add_8 ?_
  refine lv_if_ge (tgt := 16) hx hb dX1_add_11 (by decide) (fun hc => ?_) (fun hc => ?_)
  · have h := h.1 hc
    refine lv_aload_n hx hb dX1_add_16 rfl (lv_at hl 0 rfl) ?_
    refine gf S hE hP 0 rfl rfl inX1 (k := 0) (by decide) q61 rfl dX1_add_17 ?_
    refine lv_aload_n hx hb dX1_add_20 rfl (lv_at hl 0 rfl) ?_
    refine gf S hE hP 0 rfl rfl inX1 (k := 3) (by decide) q64 rfl dX1_add_21 ?_
    refine lv_iload_n hx hb dX1_add_24 rfl (lv_at hl 1 rfl) ?_
    obtain ⟨hi, h⟩ := h
    refine ias S hE hP hD hS 3 rfl hi dX1_add_25 (fun H locs hP hD hS => ?_)
    have hP : va_P D vwCl (wX1_add cI cJ cS a_o a_bases a_shares a_speeds v_carCount f_bases f_shares (upd f_speeds v_carCount.toNatClampNeg x1)) H := hP
    have hD : va_D A (wX1_add cI cJ cS a_o a_bases a_shares a_speeds v_carCount f_bases f_shares (upd f_speeds v_carCount.toNatClampNeg x1)) := hD
    refine lv_aload_n hx hb dX1_add_26 rfl (lv_at hl 0 rfl) ?_
    refine gf S hE hP 0 rfl rfl inX1 (k := 1) (by decide) q62 rfl dX1_add_27 ?_
    refine lv_aload_n hx hb dX1_add_30 rfl (lv_at hl 0 rfl) ?_
    refine gf S hE hP 0 rfl rfl inX1 (k := 3) (by decide) q64 rfl dX1_add_31 ?_
    refine lv_iload_n hx hb dX1_add_34 rfl (lv_at hl 2 rfl) ?_
    obtain ⟨hi, h⟩ := h
    refine ias S hE hP hD hS 1 rfl hi dX1_add_35 (fun H locs hP hD hS => ?_)
    have hP : va_P D vwCl (wX1_add cI cJ cS a_o a_bases a_shares a_speeds v_carCount (upd f_bases v_carCount.toNatClampNeg x2) f_shares (upd f_speeds v_carCount.toNatClampNeg x1)) H := hP
    have hD : va_D A (wX1_add cI cJ cS a_o a_bases a_shares a_speeds v_carCount (upd f_bases v_carCount.toNatClampNeg x2) f_shares (upd f_speeds v_carCount.toNatClampNeg x1)) := hD
    refine lv_aload_n hx hb dX1_add_36 rfl (lv_at hl 0 rfl) ?_
    refine gf S hE hP 0 rfl rfl inX1 (k := 2) (by decide) q63 rfl dX1_add_37 ?_
    refine lv_aload_n hx hb dX1_add_40 rfl (lv_at hl 0 rfl) ?_
    refine gf S hE hP 0 rfl rfl inX1 (k := 3) (by decide) q64 rfl dX1_add_41 ?_
    refine lv_iload_n hx hb dX1_add_44 rfl (lv_at hl 3 rfl) ?_
    obtain ⟨hi, h⟩ := h
    refine ias S hE hP hD hS 2 rfl hi dX1_add_45 (fun H locs hP hD hS => ?_)
    have hP : va_P D vwCl (wX1_add cI cJ cS a_o a_bases a_shares a_speeds v_carCount (upd f_bases v_carCount.toNatClampNeg x2) (upd f_shares v_carCount.toNatClampNeg x3) (upd f_speeds v_carCount.toNatClampNeg x1)) H := hP
    have hD : va_D A (wX1_add cI cJ cS a_o a_bases a_shares a_speeds v_carCount (upd f_bases v_carCount.toNatClampNeg x2) (upd f_shares v_carCount.toNatClampNeg x3) (upd f_speeds v_carCount.toNatClampNeg x1)) := hD
    refine lv_aload_n hx hb dX1_add_46 rfl (lv_at hl 0 rfl) ?_
    refine lv_dup hx hb dX1_add_47 rfl ?_
    refine gf S hE hP 0 rfl rfl inX1 (k := 3) (by decide) q64 rfl dX1_add_48 ?_
    refine lv_iconst (v := 1) hx hb dX1_add_51 (by decide) ?_
    refine lv_iadd hx hb dX1_add_52 ?_
    refine pf S hE hP hD hS 0 (k := 3) rfl rfl inX1 tyX1_ok nmX1 (by decide) q64 rfl rfl rfl (Nat.le_of_ble_eq_true rfl) dX1_add_53 (fun H locs hP hD hS => ?_)
    have hP : va_P D vwCl (wX1_add cI cJ cS a_o a_bases a_shares a_speeds (v_carCount + 1) (upd f_bases v_carCount.toNatClampNeg x2) (upd f_shares v_carCount.toNatClampNeg x3) (upd f_speeds v_carCount.toNatClampNeg x1)) H := hP
    have hD : va_D A (wX1_add cI cJ cS a_o a_bases a_shares a_speeds (v_carCount + 1) (upd f_bases v_carCount.toNatClampNeg x2) (upd f_shares v_carCount.toNatClampNeg x3) (upd f_speeds v_carCount.toNatClampNeg x1)) := hD
    refine lv_aload_n hx hb dX1_add_56 rfl (lv_at hl 0 rfl) ?_
    refine gf S hE hP 0 rfl rfl inX1 (k := 3) (by decide) q64 rfl dX1_add_57 ?_
    refine lv_iconst (v := 1) hx hb dX1_add_60 (by decide) ?_
    refine lv_isub hx hb dX1_add_61 ?_
    exact W.iret hx hb hr (fun t ht _ => ⟨⟨_, ((v_carCount + 1), (upd f_bases v_carCount.toNatClampNeg x2), (upd f_shares v_carCount.toNatClampNeg x3), (upd f_speeds v_carCount.toNatClampNeg x1)), rfl, h, hPt hP ht⟩, hS.F ht⟩) hS.2.2 dX1_add_62
  have h := h.2 hc
  refine lv_iconst (v := (-1)) hx hb dX1_add_14 (by decide) ?_
  exact W.iret hx hb hr (fun t ht _ => ⟨⟨_, (v_carCount, f_bases, f_shares, f_speeds), rfl, h, hPt hP ht⟩, hS.F ht⟩) hS.2.2 dX1_add_15
/-! X1_speedOf -/
abbrev wX1_speedOf (cI cJ cS : ClassId) (a_o a_speeds : Nat) (z_bases z_shares : Value) (v_carCount : Int32) (f_speeds : Nat → Int32) : va_W := [(a_o, .inr (1, [.ref a_speeds, z_bases, z_shares, .int v_carCount])), (a_speeds, .inl (cI, 6, .inl f_speeds))]
def F_X1_speedOf (v_carCount : Int32) (f_speeds : Nat → Int32) (x1 : Int32) (post : Int32 → Prop) : Prop := (F_X1_has v_carCount x1 (fun r2 => ((r2 = 0 → post 0) ∧ (¬ r2 = 0 → (vp_in x1 6 ∧ post (f_speeds x1.toNatClampNeg))))))
set_option maxHeartbeats 4000000 in
set_option maxRecDepth 100000 in
theorem c_X1_speedOf {l : Launch} {D : va_G} {cI cJ cS : ClassId} {ad adK : Nat → Nat} {a_o a_speeds : Nat} {z_bases z_shares : Value} {v_carCount : Int32} {f_speeds : Nat → Int32} {x1 : Int32} {post : Int32 → Prop} (h : F_X1_speedOf v_carCount f_speeds x1 post) : Met l yX1_speedOf (Cond.code yX1_speedOf cX1_speedOf 2 (some (.int)) :: GW) (rmd 1 0 0) (PR D cI cJ cS ad adK [.ref a_o, .int x1] (wX1_speedOf cI cJ cS a_o a_speeds z_bases z_shares v_carCount f_speeds)) (vp_Si post) 0 0 nof := by
  refine Met.ro (by decide) (Nat.le_of_ble_eq_true rfl) (fun p e s m args below meth c ls (S : CallFix p m c cX1_speedOf 2 s args GW "RoadThatSings$Cars") hE hT hP hS hr hlocks hl => ?_)
  have hx := S.1
  have hb := S.2.1
  have hl : lv_has ls 2 [(0, .ref a_o), (1, .int x1)] := hl
  unfold F_X1_speedOf at h
  refine lv_aload_n hx hb dX1_speedOf_0 rfl (lv_at hl 0 rfl) ?_
  refine lv_iload_n hx hb dX1_speedOf_1 rfl (lv_at hl 1 rfl) ?_
  refine ro_i (roV S hE hT hS (c_X1_has h) lkX1_35 rfl ⟨(Nat.le_of_ble_eq_true rfl), (Nat.le_of_ble_eq_true rfl)⟩ (hP.sub [0] rfl) 0 rfl rfl hl.1 rfl (Nat.le_of_ble_eq_true rfl) dX1_speedOf_2 ⟨(Nat.zero_le _), (Nat.zero_le _)⟩) (fun r2 h => ?_)
  refine lv_if_eq (tgt := 17) hx hb dX1_speedOf_5 (by decide) (fun hc => ?_) (fun hc => ?_)
  · have h := h.1 hc
    refine lv_iconst (v := 0) hx hb dX1_speedOf_17 (by decide) ?_
    exact W.iret hx hb hr (fun t ht _ => ⟨_, rfl, h, ht⟩) (fun _ hq => by cases hq) dX1_speedOf_18
  have h := h.2 hc
  refine lv_aload_n hx hb dX1_speedOf_8 rfl (lv_at hl 0 rfl) ?_
  refine gf S hE hP 0 rfl rfl inX1 (k := 0) (by decide) q61 rfl dX1_speedOf_9 ?_
  refine lv_iload_n hx hb dX1_speedOf_12 rfl (lv_at hl 1 rfl) ?_
  obtain ⟨hi, h⟩ := h
  refine ial S hE hP 1 rfl hi dX1_speedOf_13 ?_
  refine lv_goto (tgt := 18) hx hb dX1_speedOf_14 (by decide) ?_
  exact W.iret hx hb hr (fun t ht _ => ⟨_, rfl, h, ht⟩) (fun _ hq => by cases hq) dX1_speedOf_18
/-! X1_baseOf -/
abbrev wX1_baseOf (cI cJ cS : ClassId) (a_o a_bases : Nat) (z_speeds z_shares : Value) (v_carCount : Int32) (f_bases : Nat → Int32) : va_W := [(a_o, .inr (1, [z_speeds, .ref a_bases, z_shares, .int v_carCount])), (a_bases, .inl (cI, 6, .inl f_bases))]
def F_X1_baseOf (v_carCount : Int32) (f_bases : Nat → Int32) (x1 : Int32) (post : Int32 → Prop) : Prop := (F_X1_has v_carCount x1 (fun r2 => ((r2 = 0 → post 0) ∧ (¬ r2 = 0 → (vp_in x1 6 ∧ post (f_bases x1.toNatClampNeg))))))
set_option maxHeartbeats 4000000 in
set_option maxRecDepth 100000 in
theorem c_X1_baseOf {l : Launch} {D : va_G} {cI cJ cS : ClassId} {ad adK : Nat → Nat} {a_o a_bases : Nat} {z_speeds z_shares : Value} {v_carCount : Int32} {f_bases : Nat → Int32} {x1 : Int32} {post : Int32 → Prop} (h : F_X1_baseOf v_carCount f_bases x1 post) : Met l yX1_baseOf (Cond.code yX1_baseOf cX1_baseOf 2 (some (.int)) :: GW) (rmd 1 0 0) (PR D cI cJ cS ad adK [.ref a_o, .int x1] (wX1_baseOf cI cJ cS a_o a_bases z_speeds z_shares v_carCount f_bases)) (vp_Si post) 0 0 nof := by
  refine Met.ro (by decide) (Nat.le_of_ble_eq_true rfl) (fun p e s m args below meth c ls (S : CallFix p m c cX1_baseOf 2 s args GW "RoadThatSings$Cars") hE hT hP hS hr hlocks hl => ?_)
  have hx := S.1
  have hb := S.2.1
  have hl : lv_has ls 2 [(0, .ref a_o), (1, .int x1)] := hl
  unfold F_X1_baseOf at h
  refine lv_aload_n hx hb dX1_baseOf_0 rfl (lv_at hl 0 rfl) ?_
  refine lv_iload_n hx hb dX1_baseOf_1 rfl (lv_at hl 1 rfl) ?_
  refine ro_i (roV S hE hT hS (c_X1_has h) lkX1_35 rfl ⟨(Nat.le_of_ble_eq_true rfl), (Nat.le_of_ble_eq_true rfl)⟩ (hP.sub [0] rfl) 0 rfl rfl hl.1 rfl (Nat.le_of_ble_eq_true rfl) dX1_baseOf_2 ⟨(Nat.zero_le _), (Nat.zero_le _)⟩) (fun r2 h => ?_)
  refine lv_if_eq (tgt := 17) hx hb dX1_baseOf_5 (by decide) (fun hc => ?_) (fun hc => ?_)
  · have h := h.1 hc
    refine lv_iconst (v := 0) hx hb dX1_baseOf_17 (by decide) ?_
    exact W.iret hx hb hr (fun t ht _ => ⟨_, rfl, h, ht⟩) (fun _ hq => by cases hq) dX1_baseOf_18
  have h := h.2 hc
  refine lv_aload_n hx hb dX1_baseOf_8 rfl (lv_at hl 0 rfl) ?_
  refine gf S hE hP 0 rfl rfl inX1 (k := 1) (by decide) q62 rfl dX1_baseOf_9 ?_
  refine lv_iload_n hx hb dX1_baseOf_12 rfl (lv_at hl 1 rfl) ?_
  obtain ⟨hi, h⟩ := h
  refine ial S hE hP 1 rfl hi dX1_baseOf_13 ?_
  refine lv_goto (tgt := 18) hx hb dX1_baseOf_14 (by decide) ?_
  exact W.iret hx hb hr (fun t ht _ => ⟨_, rfl, h, ht⟩) (fun _ hq => by cases hq) dX1_baseOf_18
/-! X1_shareOf -/
abbrev wX1_shareOf (cI cJ cS : ClassId) (a_o a_shares : Nat) (z_speeds z_bases : Value) (v_carCount : Int32) (f_shares : Nat → Int32) : va_W := [(a_o, .inr (1, [z_speeds, z_bases, .ref a_shares, .int v_carCount])), (a_shares, .inl (cI, 6, .inl f_shares))]
def F_X1_shareOf (v_carCount : Int32) (f_shares : Nat → Int32) (x1 : Int32) (post : Int32 → Prop) : Prop := (F_X1_has v_carCount x1 (fun r2 => ((r2 = 0 → post 0) ∧ (¬ r2 = 0 → (vp_in x1 6 ∧ post (f_shares x1.toNatClampNeg))))))
set_option maxHeartbeats 4000000 in
set_option maxRecDepth 100000 in
theorem c_X1_shareOf {l : Launch} {D : va_G} {cI cJ cS : ClassId} {ad adK : Nat → Nat} {a_o a_shares : Nat} {z_speeds z_bases : Value} {v_carCount : Int32} {f_shares : Nat → Int32} {x1 : Int32} {post : Int32 → Prop} (h : F_X1_shareOf v_carCount f_shares x1 post) : Met l yX1_shareOf (Cond.code yX1_shareOf cX1_shareOf 2 (some (.int)) :: GW) (rmd 1 0 0) (PR D cI cJ cS ad adK [.ref a_o, .int x1] (wX1_shareOf cI cJ cS a_o a_shares z_speeds z_bases v_carCount f_shares)) (vp_Si post) 0 0 nof := by
  refine Met.ro (by decide) (Nat.le_of_ble_eq_true rfl) (fun p e s m args below meth c ls (S : CallFix p m c cX1_shareOf 2 s args GW "RoadThatSings$Cars") hE hT hP hS hr hlocks hl => ?_)
  have hx := S.1
  have hb := S.2.1
  have hl : lv_has ls 2 [(0, .ref a_o), (1, .int x1)] := hl
  unfold F_X1_shareOf at h
  refine lv_aload_n hx hb dX1_shareOf_0 rfl (lv_at hl 0 rfl) ?_
  refine lv_iload_n hx hb dX1_shareOf_1 rfl (lv_at hl 1 rfl) ?_
  refine ro_i (roV S hE hT hS (c_X1_has h) lkX1_35 rfl ⟨(Nat.le_of_ble_eq_true rfl), (Nat.le_of_ble_eq_true rfl)⟩ (hP.sub [0] rfl) 0 rfl rfl hl.1 rfl (Nat.le_of_ble_eq_true rfl) dX1_shareOf_2 ⟨(Nat.zero_le _), (Nat.zero_le _)⟩) (fun r2 h => ?_)
  refine lv_if_eq (tgt := 17) hx hb dX1_shareOf_5 (by decide) (fun hc => ?_) (fun hc => ?_)
  · have h := h.1 hc
    refine lv_iconst (v := 0) hx hb dX1_shareOf_17 (by decide) ?_
    exact W.iret hx hb hr (fun t ht _ => ⟨_, rfl, h, ht⟩) (fun _ hq => by cases hq) dX1_shareOf_18
  have h := h.2 hc
  refine lv_aload_n hx hb dX1_shareOf_8 rfl (lv_at hl 0 rfl) ?_
  refine gf S hE hP 0 rfl rfl inX1 (k := 2) (by decide) q63 rfl dX1_shareOf_9 ?_
  refine lv_iload_n hx hb dX1_shareOf_12 rfl (lv_at hl 1 rfl) ?_
  obtain ⟨hi, h⟩ := h
  refine ial S hE hP 1 rfl hi dX1_shareOf_13 ?_
  refine lv_goto (tgt := 18) hx hb dX1_shareOf_14 (by decide) ?_
  exact W.iret hx hb hr (fun t ht _ => ⟨_, rfl, h, ht⟩) (fun _ hq => by cases hq) dX1_shareOf_18
/-! X1_shareOfAll -/
abbrev wX1_shareOfAll (cI cJ cS : ClassId) (a_o a_shares : Nat) (z_speeds z_bases : Value) (v_carCount : Int32) (f_shares : Nat → Int32) : va_W := [(a_o, .inr (1, [z_speeds, z_bases, .ref a_shares, .int v_carCount])), (a_shares, .inl (cI, 6, .inl f_shares))]
def L_X1_shareOfAll_4 (v_carCount : Int32) (f_shares : Nat → Int32) (post : Int32 → Prop) : Nat → Int32 → Int32 → Prop
  | 0, _, _ => False
  | n4 + 1, x1, x2 => ((v_carCount ≤ x2 → post x1) ∧ (¬ v_carCount ≤ x2 → (F_X1_shareOf v_carCount f_shares x2 (fun r15 => (∀ x1_19 : Int32, x1_19 = x1 + r15 → (∀ x2_20 : Int32, x2_20 = x2 + 1 → L_X1_shareOfAll_4 v_carCount f_shares post n4 x1_19 x2_20))))))
def F_X1_shareOfAll (v_carCount : Int32) (f_shares : Nat → Int32) (post : Int32 → Prop) : Prop := (∃ n4 : Nat, L_X1_shareOfAll_4 v_carCount f_shares post n4 0 0)
set_option maxHeartbeats 4000000 in
set_option maxRecDepth 100000 in
theorem w_X1_shareOfAll_4 {l : Launch} {D : va_G} {cI cJ cS : ClassId} {ad adK : Nat → Nat} {a_o a_shares : Nat} {z_speeds z_bases : Value} {v_carCount : Int32} {f_shares : Nat → Int32} {post : Int32 → Prop} {p : Program} {e : Env} {s : State} {m : MethodId} {args : Array Value} {below : List Frame} {meth : Method} {c : Code} (S : CallFix p m c cX1_shareOfAll 3 s args GW "RoadThatSings$Cars") (hE : EN D cI cJ cS s) (hT : ST ad adK nof s s.heap) (hP : va_P D vwCl (wX1_shareOfAll cI cJ cS a_o a_shares z_speeds z_bases v_carCount f_shares) s.heap) (hS : va_S nof s.heap s.heap []) (hr : meth.sig.returnType = (some (.int))) (hlocks : meth.locks = false) : ∀ n : Nat, ∀ (x1 : Int32) (x2 : Int32) (ls : Array Slot), L_X1_shareOfAll_4 v_carCount f_shares post n x1 x2 → lv_has ls 3 [(0, .ref a_o), (1, .int x1), (2, .int x2)] → W p l e (rmd 2 0 0) s m args below meth c s.heap [] 0 0 (MQ below (vp_Si post) args s 0 0 nof) (F0 m 4 ls []) := by
  intro n
  induction n with
  | zero =>
    intro x1 x2 ls h hl
    exact h.elim
  | succ n ih =>
    intro x1 x2 ls h hl
    rw [L_X1_shareOfAll_4] at h
    have hx := S.1
    have hb := S.2.1
    refine lv_iload_n hx hb dX1_shareOfAll_4 rfl (lv_at hl 2 rfl) ?_
    refine lv_aload_n hx hb dX1_shareOfAll_5 rfl (lv_at hl 0 rfl) ?_
    refine gf S hE hP 0 rfl rfl inX1 (k := 3) (by decide) q64 rfl dX1_shareOfAll_6 ?_
    refine lv_icmp_ge (tgt := 26) hx hb dX1_shareOfAll_9 (by decide) (fun hc => ?_) (fun hc => ?_)
    · have h := h.1 hc
      refine lv_iload_n hx hb dX1_shareOfAll_26 rfl (lv_at hl 1 rfl) ?_
      exact W.iret hx hb hr (fun t ht _ => ⟨_, rfl, h, ht⟩) (fun _ hq => by cases hq) dX1_shareOfAll_27
    have h := h.2 hc
    refine lv_iload_n hx hb dX1_shareOfAll_12 rfl (lv_at hl 1 rfl) ?_
    refine lv_aload_n hx hb dX1_shareOfAll_13 rfl (lv_at hl 0 rfl) ?_
    refine lv_iload_n hx hb dX1_shareOfAll_14 rfl (lv_at hl 2 rfl) ?_
    refine ro_i (roV S hE hT hS (c_X1_shareOf h) lkX1_39 rfl ⟨(Nat.le_of_ble_eq_true rfl), (Nat.le_of_ble_eq_true rfl)⟩ (hP.sub [0, 1] rfl) 0 rfl rfl hl.1 rfl (Nat.le_of_ble_eq_true rfl) dX1_shareOfAll_15 ⟨(Nat.zero_le _), (Nat.zero_le _)⟩) (fun r15 h => ?_)
    refine lv_iadd hx hb dX1_shareOfAll_18 ?_
    refine lv_topi (fun x1_19 ex1_19 => ?_)
    have h := h _ ex1_19
    refine lv_istore_n (lv' := [(1, .int x1_19), (0, .ref a_o), (2, .int x2)]) hx hb dX1_shareOfAll_19 rfl hl (by decide) rfl (fun ls hl => ?_)
    obtain ⟨x2_20, ex2_20⟩ : ∃ z : Int32, z = x2 + 1 := ⟨_, rfl⟩
    have h := h _ ex2_20
    refine lv_iinc (v := x2_20) (lv' := [(2, .int x2_20), (1, .int x1_19), (0, .ref a_o)]) hx hb dX1_shareOfAll_20 hl (k := 2) rfl (by rw [ex2_20]; rfl) (by decide) rfl (fun ls hl => ?_)
    refine lv_goto (tgt := 4) hx hb dX1_shareOfAll_23 (by decide) ?_
    exact ih _ _ _ h (lv_sub hl [2, 1, 0] rfl)
set_option maxHeartbeats 4000000 in
set_option maxRecDepth 100000 in
theorem c_X1_shareOfAll {l : Launch} {D : va_G} {cI cJ cS : ClassId} {ad adK : Nat → Nat} {a_o a_shares : Nat} {z_speeds z_bases : Value} {v_carCount : Int32} {f_shares : Nat → Int32} {post : Int32 → Prop} (h : F_X1_shareOfAll v_carCount f_shares post) : Met l yX1_shareOfAll (Cond.code yX1_shareOfAll cX1_shareOfAll 3 (some (.int)) :: GW) (rmd 2 0 0) (PR D cI cJ cS ad adK [.ref a_o] (wX1_shareOfAll cI cJ cS a_o a_shares z_speeds z_bases v_carCount f_shares)) (vp_Si post) 0 0 nof := by
  refine Met.ro (by decide) (Nat.le_of_ble_eq_true rfl) (fun p e s m args below meth c ls (S : CallFix p m c cX1_shareOfAll 3 s args GW "RoadThatSings$Cars") hE hT hP hS hr hlocks hl => ?_)
  have hx := S.1
  have hb := S.2.1
  have hl : lv_has ls 3 [(0, .ref a_o)] := hl
  unfold F_X1_shareOfAll at h
  refine lv_iconst (v := 0) hx hb dX1_shareOfAll_0 (by decide) ?_
  refine lv_istore_n (lv' := [(1, .int 0), (0, .ref a_o)]) hx hb dX1_shareOfAll_1 rfl hl (by decide) rfl (fun ls hl => ?_)
  refine lv_iconst (v := 0) hx hb dX1_shareOfAll_2 (by decide) ?_
  refine lv_istore_n (lv' := [(2, .int 0), (1, .int 0), (0, .ref a_o)]) hx hb dX1_shareOfAll_3 rfl hl (by decide) rfl (fun ls hl => ?_)
  obtain ⟨n, h⟩ := h
  refine w_X1_shareOfAll_4 S hE hT hP hS hr hlocks n _ _ _ h (lv_sub hl [2, 1, 0] rfl)
/-! X1_carAtShare -/
abbrev wX1_carAtShare (cI cJ cS : ClassId) (a_o a_shares : Nat) (z_speeds z_bases : Value) (v_carCount : Int32) (f_shares : Nat → Int32) : va_W := [(a_o, .inr (1, [z_speeds, z_bases, .ref a_shares, .int v_carCount])), (a_shares, .inl (cI, 6, .inl f_shares))]
def L_X1_carAtShare_4 (v_carCount : Int32) (f_shares : Nat → Int32) (x1 : Int32) (post : Int32 → Prop) : Nat → Int32 → Int32 → Prop
  | 0, _, _ => False
  | n4 + 1, x2, x3 => ((v_carCount ≤ x3 → post (-1)) ∧ (¬ v_carCount ≤ x3 → (F_X1_shareOf v_carCount f_shares x3 (fun r15 => (∀ x2_19 : Int32, x2_19 = x2 + r15 → ((x2_19 ≤ x1 → (∀ x3_27 : Int32, x3_27 = x3 + 1 → L_X1_carAtShare_4 v_carCount f_shares x1 post n4 x2_19 x3_27)) ∧ (¬ x2_19 ≤ x1 → post x3)))))))
def F_X1_carAtShare (v_carCount : Int32) (f_shares : Nat → Int32) (x1 : Int32) (post : Int32 → Prop) : Prop := (∃ n4 : Nat, L_X1_carAtShare_4 v_carCount f_shares x1 post n4 0 0)
set_option maxHeartbeats 4000000 in
set_option maxRecDepth 100000 in
theorem w_X1_carAtShare_4 {l : Launch} {D : va_G} {cI cJ cS : ClassId} {ad adK : Nat → Nat} {a_o a_shares : Nat} {z_speeds z_bases : Value} {v_carCount : Int32} {f_shares : Nat → Int32} {x1 : Int32} {post : Int32 → Prop} {p : Program} {e : Env} {s : State} {m : MethodId} {args : Array Value} {below : List Frame} {meth : Method} {c : Code} (S : CallFix p m c cX1_carAtShare 4 s args GW "RoadThatSings$Cars") (hE : EN D cI cJ cS s) (hT : ST ad adK nof s s.heap) (hP : va_P D vwCl (wX1_carAtShare cI cJ cS a_o a_shares z_speeds z_bases v_carCount f_shares) s.heap) (hS : va_S nof s.heap s.heap []) (hr : meth.sig.returnType = (some (.int))) (hlocks : meth.locks = false) : ∀ n : Nat, ∀ (x2 : Int32) (x3 : Int32) (ls : Array Slot), L_X1_carAtShare_4 v_carCount f_shares x1 post n x2 x3 → lv_has ls 4 [(0, .ref a_o), (1, .int x1), (2, .int x2), (3, .int x3)] → W p l e (rmd 2 0 0) s m args below meth c s.heap [] 0 0 (MQ below (vp_Si post) args s 0 0 nof) (F0 m 4 ls []) := by
  intro n
  induction n with
  | zero =>
    intro x2 x3 ls h hl
    exact h.elim
  | succ n ih =>
    intro x2 x3 ls h hl
    rw [L_X1_carAtShare_4] at h
    have hx := S.1
    have hb := S.2.1
    refine lv_iload_n hx hb dX1_carAtShare_4 rfl (lv_at hl 3 rfl) ?_
    refine lv_aload_n hx hb dX1_carAtShare_5 rfl (lv_at hl 0 rfl) ?_
    refine gf S hE hP 0 rfl rfl inX1 (k := 3) (by decide) q64 rfl dX1_carAtShare_6 ?_
    refine lv_icmp_ge (tgt := 33) hx hb dX1_carAtShare_9 (by decide) (fun hc => ?_) (fun hc => ?_)
    · have h := h.1 hc
      refine lv_iconst (v := (-1)) hx hb dX1_carAtShare_33 (by decide) ?_
      exact W.iret hx hb hr (fun t ht _ => ⟨_, rfl, h, ht⟩) (fun _ hq => by cases hq) dX1_carAtShare_34
    have h := h.2 hc
    refine lv_iload_n hx hb dX1_carAtShare_12 rfl (lv_at hl 2 rfl) ?_
    refine lv_aload_n hx hb dX1_carAtShare_13 rfl (lv_at hl 0 rfl) ?_
    refine lv_iload_n hx hb dX1_carAtShare_14 rfl (lv_at hl 3 rfl) ?_
    refine ro_i (roV S hE hT hS (c_X1_shareOf h) lkX1_39 rfl ⟨(Nat.le_of_ble_eq_true rfl), (Nat.le_of_ble_eq_true rfl)⟩ (hP.sub [0, 1] rfl) 0 rfl rfl hl.1 rfl (Nat.le_of_ble_eq_true rfl) dX1_carAtShare_15 ⟨(Nat.zero_le _), (Nat.zero_le _)⟩) (fun r15 h => ?_)
    refine lv_iadd hx hb dX1_carAtShare_18 ?_
    refine lv_topi (fun x2_19 ex2_19 => ?_)
    have h := h _ ex2_19
    refine lv_istore_n (lv' := [(2, .int x2_19), (0, .ref a_o), (1, .int x1), (3, .int x3)]) hx hb dX1_carAtShare_19 rfl hl (by decide) rfl (fun ls hl => ?_)
    refine lv_iload_n hx hb dX1_carAtShare_20 rfl (lv_at hl 2 rfl) ?_
    refine lv_iload_n hx hb dX1_carAtShare_21 rfl (lv_at hl 0 rfl) ?_
    refine lv_icmp_ge (tgt := 27) hx hb dX1_carAtShare_22 (by decide) (fun hc => ?_) (fun hc => ?_)
    · have h := h.1 hc
      obtain ⟨x3_27, ex3_27⟩ : ∃ z : Int32, z = x3 + 1 := ⟨_, rfl⟩
      have h := h _ ex3_27
      refine lv_iinc (v := x3_27) (lv' := [(3, .int x3_27), (2, .int x2_19), (0, .ref a_o), (1, .int x1)]) hx hb dX1_carAtShare_27 hl (k := 3) rfl (by rw [ex3_27]; rfl) (by decide) rfl (fun ls hl => ?_)
      refine lv_goto (tgt := 4) hx hb dX1_carAtShare_30 (by decide) ?_
      exact ih _ _ _ h (lv_sub hl [2, 3, 1, 0] rfl)
    have h := h.2 hc
    refine lv_iload_n hx hb dX1_carAtShare_25 rfl (lv_at hl 3 rfl) ?_
    exact W.iret hx hb hr (fun t ht _ => ⟨_, rfl, h, ht⟩) (fun _ hq => by cases hq) dX1_carAtShare_26
set_option maxHeartbeats 4000000 in
set_option maxRecDepth 100000 in
theorem c_X1_carAtShare {l : Launch} {D : va_G} {cI cJ cS : ClassId} {ad adK : Nat → Nat} {a_o a_shares : Nat} {z_speeds z_bases : Value} {v_carCount : Int32} {f_shares : Nat → Int32} {x1 : Int32} {post : Int32 → Prop} (h : F_X1_carAtShare v_carCount f_shares x1 post) : Met l yX1_carAtShare (Cond.code yX1_carAtShare cX1_carAtShare 4 (some (.int)) :: GW) (rmd 2 0 0) (PR D cI cJ cS ad adK [.ref a_o, .int x1] (wX1_carAtShare cI cJ cS a_o a_shares z_speeds z_bases v_carCount f_shares)) (vp_Si post) 0 0 nof := by
  refine Met.ro (by decide) (Nat.le_of_ble_eq_true rfl) (fun p e s m args below meth c ls (S : CallFix p m c cX1_carAtShare 4 s args GW "RoadThatSings$Cars") hE hT hP hS hr hlocks hl => ?_)
  have hx := S.1
  have hb := S.2.1
  have hl : lv_has ls 4 [(0, .ref a_o), (1, .int x1)] := hl
  unfold F_X1_carAtShare at h
  refine lv_iconst (v := 0) hx hb dX1_carAtShare_0 (by decide) ?_
  refine lv_istore_n (lv' := [(2, .int 0), (0, .ref a_o), (1, .int x1)]) hx hb dX1_carAtShare_1 rfl hl (by decide) rfl (fun ls hl => ?_)
  refine lv_iconst (v := 0) hx hb dX1_carAtShare_2 (by decide) ?_
  refine lv_istore_n (lv' := [(3, .int 0), (2, .int 0), (0, .ref a_o), (1, .int x1)]) hx hb dX1_carAtShare_3 rfl hl (by decide) rfl (fun ls hl => ?_)
  obtain ⟨n, h⟩ := h
  refine w_X1_carAtShare_4 S hE hT hP hS hr hlocks n _ _ _ h (lv_sub hl [2, 3, 1, 0] rfl)
/-! X2_notes -/
abbrev wX2_notes (cI cJ cS : ClassId) (a_o : Nat) (z_spaces z_offs z_times : Value) (v_noteCount : Int32) : va_W := [(a_o, .inr (2, [z_spaces, z_offs, z_times, .int v_noteCount]))]
def F_X2_notes (v_noteCount : Int32) (post : Int32 → Prop) : Prop := post v_noteCount
set_option maxHeartbeats 4000000 in
set_option maxRecDepth 100000 in
theorem c_X2_notes {l : Launch} {D : va_G} {cI cJ cS : ClassId} {ad adK : Nat → Nat} {a_o : Nat} {z_spaces z_offs z_times : Value} {v_noteCount : Int32} {post : Int32 → Prop} (h : F_X2_notes v_noteCount post) : Met l yX2_notes (Cond.code yX2_notes cX2_notes 1 (some (.int)) :: GW) (rmd 0 0 0) (PR D cI cJ cS ad adK [.ref a_o] (wX2_notes cI cJ cS a_o z_spaces z_offs z_times v_noteCount)) (vp_Si post) 0 0 nof := by
  refine Met.ro (by decide) (Nat.le_of_ble_eq_true rfl) (fun p e s m args below meth c ls (S : CallFix p m c cX2_notes 1 s args GW "RoadThatSings$Cutting") hE hT hP hS hr hlocks hl => ?_)
  have hx := S.1
  have hb := S.2.1
  have hl : lv_has ls 1 [(0, .ref a_o)] := hl
  unfold F_X2_notes at h
  refine lv_aload_n hx hb dX2_notes_0 rfl (lv_at hl 0 rfl) ?_
  refine gf S hE hP 0 rfl rfl inX2 (k := 3) (by decide) q127 rfl dX2_notes_1 ?_
  exact W.iret hx hb hr (fun t ht _ => ⟨_, rfl, h, ht⟩) (fun _ hq => by cases hq) dX2_notes_4
/-! X2_has -/
abbrev wX2_has (cI cJ cS : ClassId) (a_o : Nat) (z_spaces z_offs z_times : Value) (v_noteCount : Int32) : va_W := [(a_o, .inr (2, [z_spaces, z_offs, z_times, .int v_noteCount]))]
def F_X2_has (v_noteCount : Int32) (x1 : Int32) (post : Int32 → Prop) : Prop := ((x1 < 0 → post 0) ∧ (¬ x1 < 0 → ((v_noteCount ≤ x1 → post 0) ∧ (¬ v_noteCount ≤ x1 → ((12 ≤ x1 → post 0) ∧ (¬ 12 ≤ x1 → post 1))))))
set_option maxHeartbeats 4000000 in
set_option maxRecDepth 100000 in
theorem c_X2_has {l : Launch} {D : va_G} {cI cJ cS : ClassId} {ad adK : Nat → Nat} {a_o : Nat} {z_spaces z_offs z_times : Value} {v_noteCount : Int32} {x1 : Int32} {post : Int32 → Prop} (h : F_X2_has v_noteCount x1 post) : Met l yX2_has (Cond.code yX2_has cX2_has 2 (some (.boolean)) :: GW) (rmd 0 0 0) (PR D cI cJ cS ad adK [.ref a_o, .int x1] (wX2_has cI cJ cS a_o z_spaces z_offs z_times v_noteCount)) (vp_Si post) 0 0 nof := by
  refine Met.ro (by decide) (Nat.le_of_ble_eq_true rfl) (fun p e s m args below meth c ls (S : CallFix p m c cX2_has 2 s args GW "RoadThatSings$Cutting") hE hT hP hS hr hlocks hl => ?_)
  have hx := S.1
  have hb := S.2.1
  have hl : lv_has ls 2 [(0, .ref a_o), (1, .int x1)] := hl
  unfold F_X2_has at h
  refine lv_iload_n hx hb dX2_has_0 rfl (lv_at hl 1 rfl) ?_
  refine lv_if_lt (tgt := 22) hx hb dX2_has_1 (by decide) (fun hc => ?_) (fun hc => ?_)
  · have h := h.1 hc
    refine lv_iconst (v := 0) hx hb dX2_has_22 (by decide) ?_
    exact W.zret hx hb hr rfl (fun t ht _ => ⟨_, rfl, h, ht⟩) (fun _ hq => by cases hq) dX2_has_23
  have h := h.2 hc
  refine lv_iload_n hx hb dX2_has_4 rfl (lv_at hl 1 rfl) ?_
  refine lv_aload_n hx hb dX2_has_5 rfl (lv_at hl 0 rfl) ?_
  refine gf S hE hP 0 rfl rfl inX2 (k := 3) (by decide) q127 rfl dX2_has_6 ?_
  refine lv_icmp_ge (tgt := 22) hx hb dX2_has_9 (by decide) (fun hc => ?_) (fun hc => ?_)
  · have h := h.1 hc
    refine lv_iconst (v := 0) hx hb dX2_has_22 (by decide) ?_
    exact W.zret hx hb hr rfl (fun t ht _ => ⟨_, rfl, h, ht⟩) (fun _ hq => by cases hq) dX2_has_23
  have h := h.2 hc
  refine lv_iload_n hx hb dX2_has_12 rfl (lv_at hl 1 rfl) ?_
  refine lv_bipush (v := 12) hx hb dX2_has_13 (by decide) ?_
  refine lv_icmp_ge (tgt := 22) hx hb dX2_has_15 (by decide) (fun hc => ?_) (fun hc => ?_)
  · have h := h.1 hc
    refine lv_iconst (v := 0) hx hb dX2_has_22 (by decide) ?_
    exact W.zret hx hb hr rfl (fun t ht _ => ⟨_, rfl, h, ht⟩) (fun _ hq => by cases hq) dX2_has_23
  have h := h.2 hc
  refine lv_iconst (v := 1) hx hb dX2_has_18 (by decide) ?_
  refine lv_goto (tgt := 23) hx hb dX2_has_19 (by decide) ?_
  exact W.zret hx hb hr rfl (fun t ht _ => ⟨_, rfl, h, ht⟩) (fun _ hq => by cases hq) dX2_has_23
