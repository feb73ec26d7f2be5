/-! X7_isFull -/
abbrev wX7_isFull (cI cJ cS : ClassId) (a_o : Nat) (z_kinds z_spaces z_others z_times : Value) (v_stretchCount : Int32) : va_W := [(a_o, .inr (6, [z_kinds, z_spaces, z_others, z_times, .int v_stretchCount]))]
def F_X7_isFull (v_stretchCount : Int32) (post : Int32 → Prop) : Prop := ((v_stretchCount < 16 → post 0) ∧ (¬ v_stretchCount < 16 → post 1))
set_option maxHeartbeats 4000000 in
set_option maxRecDepth 100000 in
theorem c_X7_isFull {l : Launch} {D : va_G} {cI cJ cS : ClassId} {ad adK : Nat → Nat} {a_o : Nat} {z_kinds z_spaces z_others z_times : Value} {v_stretchCount : Int32} {post : Int32 → Prop} (h : F_X7_isFull v_stretchCount post) : Met l yX7_isFull (Cond.code yX7_isFull cX7_isFull 1 (some (.boolean)) :: GW) (rmd 0 0 0) (PR D cI cJ cS ad adK [.ref a_o] (wX7_isFull cI cJ cS a_o z_kinds z_spaces z_others z_times v_stretchCount)) (vp_Si post) 0 0 nof := by
  refine Met.ro (by decide) (Nat.le_of_ble_eq_true rfl) (fun p e s m args below meth c ls (S : CallFix p m c cX7_isFull 1 s args GW "RoadThatSings$Stretches") hE hT hP hS hr hlocks hl => ?_)
  have hx := S.1
  have hb := S.2.1
  have hl : lv_has ls 1 [(0, .ref a_o)] := hl
  unfold F_X7_isFull at h
  refine lv_aload_n hx hb dX7_isFull_0 rfl (lv_at hl 0 rfl) ?_
  refine gf S hE hP 0 rfl rfl inX7 (k := 4) (by decide) q42 rfl dX7_isFull_1 ?_
  refine lv_bipush (v := 16) hx hb dX7_isFull_4 (by decide) ?_
  refine lv_icmp_lt (tgt := 13) hx hb dX7_isFull_6 (by decide) (fun hc => ?_) (fun hc => ?_)
  · have h := h.1 hc
    refine lv_iconst (v := 0) hx hb dX7_isFull_13 (by decide) ?_
    exact W.zret hx hb hr rfl (fun t ht _ => ⟨_, rfl, h, ht⟩) (fun _ hq => by cases hq) dX7_isFull_14
  have h := h.2 hc
  refine lv_iconst (v := 1) hx hb dX7_isFull_9 (by decide) ?_
  refine lv_goto (tgt := 14) hx hb dX7_isFull_10 (by decide) ?_
  exact W.zret hx hb hr rfl (fun t ht _ => ⟨_, rfl, h, ht⟩) (fun _ hq => by cases hq) dX7_isFull_14
/-! X8_isFull -/
abbrev wX8_isFull (cI cJ cS : ClassId) (a_o : Nat) (z_pitches z_beats z_noteCounts : Value) (v_tuneCount : Int32) : va_W := [(a_o, .inr (7, [z_pitches, z_beats, z_noteCounts, .int v_tuneCount]))]
def F_X8_isFull (v_tuneCount : Int32) (post : Int32 → Prop) : Prop := ((v_tuneCount < 6 → post 0) ∧ (¬ v_tuneCount < 6 → post 1))
set_option maxHeartbeats 4000000 in
set_option maxRecDepth 100000 in
theorem c_X8_isFull {l : Launch} {D : va_G} {cI cJ cS : ClassId} {ad adK : Nat → Nat} {a_o : Nat} {z_pitches z_beats z_noteCounts : Value} {v_tuneCount : Int32} {post : Int32 → Prop} (h : F_X8_isFull v_tuneCount post) : Met l yX8_isFull (Cond.code yX8_isFull cX8_isFull 1 (some (.boolean)) :: GW) (rmd 0 0 0) (PR D cI cJ cS ad adK [.ref a_o] (wX8_isFull cI cJ cS a_o z_pitches z_beats z_noteCounts v_tuneCount)) (vp_Si post) 0 0 nof := by
  refine Met.ro (by decide) (Nat.le_of_ble_eq_true rfl) (fun p e s m args below meth c ls (S : CallFix p m c cX8_isFull 1 s args GW "RoadThatSings$Tunes") hE hT hP hS hr hlocks hl => ?_)
  have hx := S.1
  have hb := S.2.1
  have hl : lv_has ls 1 [(0, .ref a_o)] := hl
  unfold F_X8_isFull at h
  refine lv_aload_n hx hb dX8_isFull_0 rfl (lv_at hl 0 rfl) ?_
  refine gf S hE hP 0 rfl rfl inX8 (k := 3) (by decide) q83 rfl dX8_isFull_1 ?_
  refine lv_bipush (v := 6) hx hb dX8_isFull_4 (by decide) ?_
  refine lv_icmp_lt (tgt := 13) hx hb dX8_isFull_6 (by decide) (fun hc => ?_) (fun hc => ?_)
  · have h := h.1 hc
    refine lv_iconst (v := 0) hx hb dX8_isFull_13 (by decide) ?_
    exact W.zret hx hb hr rfl (fun t ht _ => ⟨_, rfl, h, ht⟩) (fun _ hq => by cases hq) dX8_isFull_14
  have h := h.2 hc
  refine lv_iconst (v := 1) hx hb dX8_isFull_9 (by decide) ?_
  refine lv_goto (tgt := 14) hx hb dX8_isFull_10 (by decide) ?_
  exact W.zret hx hb hr rfl (fun t ht _ => ⟨_, rfl, h, ht⟩) (fun _ hq => by cases hq) dX8_isFull_14
/-! X8_mayTakeNote -/
abbrev wX8_mayTakeNote (cI cJ cS : ClassId) (a_o a_noteCounts : Nat) (z_pitches z_beats : Value) (v_tuneCount : Int32) (f_noteCounts : Nat → Int32) : va_W := [(a_o, .inr (7, [z_pitches, z_beats, .ref a_noteCounts, .int v_tuneCount])), (a_noteCounts, .inl (cI, 6, .inl f_noteCounts))]
def F_X8_mayTakeNote (v_tuneCount : Int32) (f_noteCounts : Nat → Int32) (post : Int32 → Prop) : Prop := (F_X8_has v_tuneCount (v_tuneCount - 1) (fun r7 => ((r7 = 0 → post 0) ∧ (¬ r7 = 0 → (F_X8_notesOf v_tuneCount f_noteCounts (v_tuneCount - 1) (fun r20 => ((12 ≤ r20 → post 0) ∧ (¬ 12 ≤ r20 → post 1))))))))
set_option maxHeartbeats 4000000 in
set_option maxRecDepth 100000 in
theorem c_X8_mayTakeNote {l : Launch} {D : va_G} {cI cJ cS : ClassId} {ad adK : Nat → Nat} {a_o a_noteCounts : Nat} {z_pitches z_beats : Value} {v_tuneCount : Int32} {f_noteCounts : Nat → Int32} {post : Int32 → Prop} (h : F_X8_mayTakeNote v_tuneCount f_noteCounts post) : Met l yX8_mayTakeNote (Cond.code yX8_mayTakeNote cX8_mayTakeNote 1 (some (.boolean)) :: GW) (rmd 2 0 0) (PR D cI cJ cS ad adK [.ref a_o] (wX8_mayTakeNote cI cJ cS a_o a_noteCounts z_pitches z_beats v_tuneCount f_noteCounts)) (vp_Si post) 0 0 nof := by
  refine Met.ro (by decide) (Nat.le_of_ble_eq_true rfl) (fun p e s m args below meth c ls (S : CallFix p m c cX8_mayTakeNote 1 s args GW "RoadThatSings$Tunes") hE hT hP hS hr hlocks hl => ?_)
  have hx := S.1
  have hb := S.2.1
  have hl : lv_has ls 1 [(0, .ref a_o)] := hl
  unfold F_X8_mayTakeNote at h
  refine lv_aload_n hx hb dX8_mayTakeNote_0 rfl (lv_at hl 0 rfl) ?_
  refine lv_aload_n hx hb dX8_mayTakeNote_1 rfl (lv_at hl 0 rfl) ?_
  refine gf S hE hP 0 rfl rfl inX8 (k := 3) (by decide) q83 rfl dX8_mayTakeNote_2 ?_
  refine lv_iconst (v := 1) hx hb dX8_mayTakeNote_5 (by decide) ?_
  refine lv_isub hx hb dX8_mayTakeNote_6 ?_
  refine ro_i (roV S hE hT hS (c_X8_has h) lkX8_31 rfl ⟨(Nat.le_of_ble_eq_true rfl), (Nat.le_of_ble_eq_true rfl)⟩ (hP.sub [0] rfl) 0 rfl rfl hl.1 rfl (Nat.le_of_ble_eq_true rfl) dX8_mayTakeNote_7 ⟨(Nat.zero_le _), (Nat.zero_le _)⟩) (fun r7 h => ?_)
  refine lv_if_eq (tgt := 32) hx hb dX8_mayTakeNote_10 (by decide) (fun hc => ?_) (fun hc => ?_)
  · have h := h.1 hc
    refine lv_iconst (v := 0) hx hb dX8_mayTakeNote_32 (by decide) ?_
    exact W.zret hx hb hr rfl (fun t ht _ => ⟨_, rfl, h, ht⟩) (fun _ hq => by cases hq) dX8_mayTakeNote_33
  have h := h.2 hc
  refine lv_aload_n hx hb dX8_mayTakeNote_13 rfl (lv_at hl 0 rfl) ?_
  refine lv_aload_n hx hb dX8_mayTakeNote_14 rfl (lv_at hl 0 rfl) ?_
  refine gf S hE hP 0 rfl rfl inX8 (k := 3) (by decide) q83 rfl dX8_mayTakeNote_15 ?_
  refine lv_iconst (v := 1) hx hb dX8_mayTakeNote_18 (by decide) ?_
  refine lv_isub hx hb dX8_mayTakeNote_19 ?_
  refine ro_i (roV S hE hT hS (c_X8_notesOf h) lkX8_39 rfl ⟨(Nat.le_of_ble_eq_true rfl), (Nat.le_of_ble_eq_true rfl)⟩ (hP.sub [0, 1] rfl) 0 rfl rfl hl.1 rfl (Nat.le_of_ble_eq_true rfl) dX8_mayTakeNote_20 ⟨(Nat.zero_le _), (Nat.zero_le _)⟩) (fun r20 h => ?_)
  refine lv_bipush (v := 12) hx hb dX8_mayTakeNote_23 (by decide) ?_
  refine lv_icmp_ge (tgt := 32) hx hb dX8_mayTakeNote_25 (by decide) (fun hc => ?_) (fun hc => ?_)
  · have h := h.1 hc
    refine lv_iconst (v := 0) hx hb dX8_mayTakeNote_32 (by decide) ?_
    exact W.zret hx hb hr rfl (fun t ht _ => ⟨_, rfl, h, ht⟩) (fun _ hq => by cases hq) dX8_mayTakeNote_33
  have h := h.2 hc
  refine lv_iconst (v := 1) hx hb dX8_mayTakeNote_28 (by decide) ?_
  refine lv_goto (tgt := 33) hx hb dX8_mayTakeNote_29 (by decide) ?_
  exact W.zret hx hb hr rfl (fun t ht _ => ⟨_, rfl, h, ht⟩) (fun _ hq => by cases hq) dX8_mayTakeNote_33
/-! X4_mayStand -/
abbrev wX4_mayStand (cI cJ cS : ClassId) (a_o a_told a_told_cars a_told_stretches a_told_tunes a_told_tunes_noteCounts : Nat) (z_text z_told_demands z_told_cars_speeds z_told_cars_bases z_told_cars_shares z_told_stretches_kinds z_told_stretches_spaces z_told_stretches_others z_told_stretches_times z_told_tunes_pitches z_told_tunes_beats : Value) (v_at : Int32) (v_faultAt : Int32) (v_told_drawSeed : Int32) (v_told_cars_carCount : Int32) (v_told_stretches_stretchCount : Int32) (v_told_tunes_tuneCount : Int32) (f_told_tunes_noteCounts : Nat → Int32) : va_W := [(a_o, .inr (3, [z_text, .ref a_told, .int v_at, .int v_faultAt])), (a_told, .inr (4, [.ref a_told_stretches, .ref a_told_cars, .ref a_told_tunes, z_told_demands, .int v_told_drawSeed])), (a_told_cars, .inr (1, [z_told_cars_speeds, z_told_cars_bases, z_told_cars_shares, .int v_told_cars_carCount])), (a_told_stretches, .inr (6, [z_told_stretches_kinds, z_told_stretches_spaces, z_told_stretches_others, z_told_stretches_times, .int v_told_stretches_stretchCount])), (a_told_tunes, .inr (7, [z_told_tunes_pitches, z_told_tunes_beats, .ref a_told_tunes_noteCounts, .int v_told_tunes_tuneCount])), (a_told_tunes_noteCounts, .inl (cI, 6, .inl f_told_tunes_noteCounts))]
def F_X4_mayStand (v_told_cars_carCount : Int32) (v_told_stretches_stretchCount : Int32) (v_told_tunes_tuneCount : Int32) (f_told_tunes_noteCounts : Nat → Int32) (t1 : Nat) (post : Int32 → Prop) : Prop := (t1 < 13 ∧ (((tbForm.getD t1 0) = 0 → (F_X7_isFull v_told_stretches_stretchCount (fun r43 => ((r43 = 0 → post 1) ∧ (¬ r43 = 0 → post 0))))) ∧ (¬ (tbForm.getD t1 0) = 0 → (((tbForm.getD t1 0) = 1 → (F_X1_isFull v_told_cars_carCount (fun r62 => ((r62 = 0 → post 1) ∧ (¬ r62 = 0 → post 0))))) ∧ (¬ (tbForm.getD t1 0) = 1 → (((tbForm.getD t1 0) = 2 → (F_X8_isFull v_told_tunes_tuneCount (fun r81 => ((r81 = 0 → post 1) ∧ (¬ r81 = 0 → post 0))))) ∧ (¬ (tbForm.getD t1 0) = 2 → (((tbForm.getD t1 0) = 3 → (F_X8_mayTakeNote v_told_tunes_tuneCount f_told_tunes_noteCounts (fun r100 => (vb r100 ∧ post r100)))) ∧ (¬ (tbForm.getD t1 0) = 3 → post 1)))))))))
set_option maxHeartbeats 4000000 in
set_option maxRecDepth 100000 in
theorem c_X4_mayStand {l : Launch} {D : va_G} {cI cJ cS : ClassId} {ad adK : Nat → Nat} {a_o a_told a_told_cars a_told_stretches a_told_tunes a_told_tunes_noteCounts : Nat} {z_text z_told_demands z_told_cars_speeds z_told_cars_bases z_told_cars_shares z_told_stretches_kinds z_told_stretches_spaces z_told_stretches_others z_told_stretches_times z_told_tunes_pitches z_told_tunes_beats : Value} {v_at : Int32} {v_faultAt : Int32} {v_told_drawSeed : Int32} {v_told_cars_carCount : Int32} {v_told_stretches_stretchCount : Int32} {v_told_tunes_tuneCount : Int32} {f_told_tunes_noteCounts : Nat → Int32} {t1 : Nat} {post : Int32 → Prop} (h : F_X4_mayStand v_told_cars_carCount v_told_stretches_stretchCount v_told_tunes_tuneCount f_told_tunes_noteCounts t1 post) : Met l yX4_mayStand (Cond.code yX4_mayStand cX4_mayStand 2 (some (.boolean)) :: GW) (rmd 3 0 0) (PR D cI cJ cS ad adK [.ref a_o, .ref (ad t1)] (wX4_mayStand cI cJ cS a_o a_told a_told_cars a_told_stretches a_told_tunes a_told_tunes_noteCounts z_text z_told_demands z_told_cars_speeds z_told_cars_bases z_told_cars_shares z_told_stretches_kinds z_told_stretches_spaces z_told_stretches_others z_told_stretches_times z_told_tunes_pitches z_told_tunes_beats v_at v_faultAt v_told_drawSeed v_told_cars_carCount v_told_stretches_stretchCount v_told_tunes_tuneCount f_told_tunes_noteCounts)) (vp_Si post) 0 0 nof := by
  refine Met.ro (by decide) (Nat.le_of_ble_eq_true rfl) (fun p e s m args below meth c ls (S : CallFix p m c cX4_mayStand 2 s args GW "RoadThatSings$Reader") hE hT hP hS hr hlocks hl => ?_)
  have hx := S.1
  have hb := S.2.1
  have hl : lv_has ls 2 [(0, .ref a_o), (1, .ref (ad t1))] := hl
  unfold F_X4_mayStand at h
  refine lv_aload_n hx hb dX4_mayStand_0 rfl (lv_at hl 1 rfl) ?_
  obtain ⟨hi, h⟩ := h
  refine itfN S hE (hT.form hi) hS nfX4_52 dX4_mayStand_1 ?_
  by_cases hk0 : (tbForm.getD t1 0) = 0
  · have h := h.1 hk0
    refine lv_tableIn (off := 32) (tgt := 36) hx hb dX4_mayStand_4 (by rw [hk0]; decide) (by rw [hk0]; decide) (by rw [hk0]; rfl) (by decide) ?_
    refine lv_aload_n hx hb dX4_mayStand_36 rfl (lv_at hl 0 rfl) ?_
    refine gf S hE hP 0 rfl rfl inX4 (k := 1) (by decide) q575 rfl dX4_mayStand_37 ?_
    refine gfN S hE hP 1 rfl rfl inX5 (k := 0) (by decide) nfX4_104 rfl dX4_mayStand_40 ?_
    refine ro_i (roV S hE hT hS (c_X7_isFull h) lkX4_108 rfl ⟨(Nat.le_of_ble_eq_true rfl), (Nat.le_of_ble_eq_true rfl)⟩ (hP.sub [3] rfl) 0 rfl rfl hl.1 rfl (Nat.le_of_ble_eq_true rfl) dX4_mayStand_43 ⟨(Nat.zero_le _), (Nat.zero_le _)⟩) (fun r43 h => ?_)
    refine lv_if_ne (tgt := 53) hx hb dX4_mayStand_46 (by decide) (fun hc => ?_) (fun hc => ?_)
    · have h := h.2 hc
      refine lv_iconst (v := 0) hx hb dX4_mayStand_53 (by decide) ?_
      exact W.zret hx hb hr rfl (fun t ht _ => ⟨_, rfl, h, ht⟩) (fun _ hq => by cases hq) dX4_mayStand_54
    have h := h.1 hc
    refine lv_iconst (v := 1) hx hb dX4_mayStand_49 (by decide) ?_
    refine lv_goto (tgt := 54) hx hb dX4_mayStand_50 (by decide) ?_
    exact W.zret hx hb hr rfl (fun t ht _ => ⟨_, rfl, h, ht⟩) (fun _ hq => by cases hq) dX4_mayStand_54
  have h := h.2 hk0
  by_cases hk1 : (tbForm.getD t1 0) = 1
  · have h := h.1 hk1
    refine lv_tableIn (off := 51) (tgt := 55) hx hb dX4_mayStand_4 (by rw [hk1]; decide) (by rw [hk1]; decide) (by rw [hk1]; rfl) (by decide) ?_
    refine lv_aload_n hx hb dX4_mayStand_55 rfl (lv_at hl 0 rfl) ?_
    refine gf S hE hP 0 rfl rfl inX4 (k := 1) (by decide) q575 rfl dX4_mayStand_56 ?_
    refine gfN S hE hP 1 rfl rfl inX5 (k := 1) (by decide) nfX4_113 rfl dX4_mayStand_59 ?_
    refine ro_i (roV S hE hT hS (c_X1_isFull h) lkX4_117 rfl ⟨(Nat.le_of_ble_eq_true rfl), (Nat.le_of_ble_eq_true rfl)⟩ (hP.sub [2] rfl) 0 rfl rfl hl.1 rfl (Nat.le_of_ble_eq_true rfl) dX4_mayStand_62 ⟨(Nat.zero_le _), (Nat.zero_le _)⟩) (fun r62 h => ?_)
    refine lv_if_ne (tgt := 72) hx hb dX4_mayStand_65 (by decide) (fun hc => ?_) (fun hc => ?_)
    · have h := h.2 hc
      refine lv_iconst (v := 0) hx hb dX4_mayStand_72 (by decide) ?_
      exact W.zret hx hb hr rfl (fun t ht _ => ⟨_, rfl, h, ht⟩) (fun _ hq => by cases hq) dX4_mayStand_73
    have h := h.1 hc
    refine lv_iconst (v := 1) hx hb dX4_mayStand_68 (by decide) ?_
    refine lv_goto (tgt := 73) hx hb dX4_mayStand_69 (by decide) ?_
    exact W.zret hx hb hr rfl (fun t ht _ => ⟨_, rfl, h, ht⟩) (fun _ hq => by cases hq) dX4_mayStand_73
  have h := h.2 hk1
  by_cases hk2 : (tbForm.getD t1 0) = 2
  · have h := h.1 hk2
    refine lv_tableIn (off := 70) (tgt := 74) hx hb dX4_mayStand_4 (by rw [hk2]; decide) (by rw [hk2]; decide) (by rw [hk2]; rfl) (by decide) ?_
    refine lv_aload_n hx hb dX4_mayStand_74 rfl (lv_at hl 0 rfl) ?_
    refine gf S hE hP 0 rfl rfl inX4 (k := 1) (by decide) q575 rfl dX4_mayStand_75 ?_
    refine gfN S hE hP 1 rfl rfl inX5 (k := 2) (by decide) nfX4_63 rfl dX4_mayStand_78 ?_
    refine ro_i (roV S hE hT hS (c_X8_isFull h) lkX4_120 rfl ⟨(Nat.le_of_ble_eq_true rfl), (Nat.le_of_ble_eq_true rfl)⟩ (hP.sub [4] rfl) 0 rfl rfl hl.1 rfl (Nat.le_of_ble_eq_true rfl) dX4_mayStand_81 ⟨(Nat.zero_le _), (Nat.zero_le _)⟩) (fun r81 h => ?_)
    refine lv_if_ne (tgt := 91) hx hb dX4_mayStand_84 (by decide) (fun hc => ?_) (fun hc => ?_)
    · have h := h.2 hc
      refine lv_iconst (v := 0) hx hb dX4_mayStand_91 (by decide) ?_
      exact W.zret hx hb hr rfl (fun t ht _ => ⟨_, rfl, h, ht⟩) (fun _ hq => by cases hq) dX4_mayStand_92
    have h := h.1 hc
    refine lv_iconst (v := 1) hx hb dX4_mayStand_87 (by decide) ?_
    refine lv_goto (tgt := 92) hx hb dX4_mayStand_88 (by decide) ?_
    exact W.zret hx hb hr rfl (fun t ht _ => ⟨_, rfl, h, ht⟩) (fun _ hq => by cases hq) dX4_mayStand_92
  have h := h.2 hk2
  by_cases hk3 : (tbForm.getD t1 0) = 3
  · have h := h.1 hk3
    refine lv_tableIn (off := 89) (tgt := 93) hx hb dX4_mayStand_4 (by rw [hk3]; decide) (by rw [hk3]; decide) (by rw [hk3]; rfl) (by decide) ?_
    refine lv_aload_n hx hb dX4_mayStand_93 rfl (lv_at hl 0 rfl) ?_
    refine gf S hE hP 0 rfl rfl inX4 (k := 1) (by decide) q575 rfl dX4_mayStand_94 ?_
    refine gfN S hE hP 1 rfl rfl inX5 (k := 2) (by decide) nfX4_63 rfl dX4_mayStand_97 ?_
    refine ro_i (roV S hE hT hS (c_X8_mayTakeNote h) lkX4_121 rfl ⟨(Nat.le_of_ble_eq_true rfl), (Nat.le_of_ble_eq_true rfl)⟩ (hP.sub [4, 5] rfl) 0 rfl rfl hl.1 rfl (Nat.le_of_ble_eq_true rfl) dX4_mayStand_100 ⟨(Nat.zero_le _), (Nat.zero_le _)⟩) (fun r100 h => ?_)
    exact W.zret hx hb hr h.1 (fun t ht _ => ⟨_, rfl, h.2, ht⟩) (fun _ hq => by cases hq) dX4_mayStand_103
  have h := h.2 hk3
  refine lv_tableOut (tgt := 104) hx hb dX4_mayStand_4 (sw_out (fun k h1 h2 => by
    rcases (show k = 0 ∨ k = 1 ∨ k = 2 ∨ k = 3 by omega) with rfl | rfl | rfl | rfl
    · exact hk0
    · exact hk1
    · exact hk2
    · exact hk3)) (by decide) ?_
  refine lv_iconst (v := 1) hx hb dX4_mayStand_104 (by decide) ?_
  exact W.zret hx hb hr rfl (fun t ht _ => ⟨_, rfl, h, ht⟩) (fun _ hq => by cases hq) dX4_mayStand_105
/-! X4_failAt -/
abbrev wX4_failAt (cI cJ cS : ClassId) (a_o : Nat) (z_text z_told : Value) (v_at : Int32) (v_faultAt : Int32) : va_W := [(a_o, .inr (3, [z_text, z_told, .int v_at, .int v_faultAt]))]
def F_X4_failAt (v_faultAt : Int32) (x1 : Int32) (post : Int32 → Int32 → Prop) : Prop := post 0 x1
set_option maxHeartbeats 4000000 in
set_option maxRecDepth 100000 in
theorem c_X4_failAt {l : Launch} {D : va_G} {cI cJ cS : ClassId} {ad adK : Nat → Nat} {a_o : Nat} {z_text z_told : Value} {v_at : Int32} {v_faultAt : Int32} {x1 : Int32} {post : Int32 → Int32 → Prop} (h : F_X4_failAt v_faultAt x1 post) {sz : Nat} : Met l yX4_failAt (Cond.code yX4_failAt cX4_failAt 2 (some (.boolean)) :: GW) (rmd 0 0 0) (PW D cI cJ cS ad adK [.ref a_o, .int x1] (wX4_failAt cI cJ cS a_o z_text z_told v_at v_faultAt) sz) (va_Qi (fun r (u : Int32) => post r u) (fun u t => va_P D vwCl (wX4_failAt cI cJ cS a_o z_text z_told v_at u) t.heap) (va_A (wX4_failAt cI cJ cS a_o z_text z_told v_at v_faultAt) sz)) 0 0 (va_A (wX4_failAt cI cJ cS a_o z_text z_told v_at v_faultAt) sz) := by
  refine Met.rw (Qc := fun A => (va_Qi (fun r (u : Int32) => post r u) (fun u t => va_P D vwCl (wX4_failAt cI cJ cS a_o z_text z_told v_at u) t.heap) A)) (by decide) (Nat.le_of_ble_eq_true rfl) (fun p e s m args below meth c ls A (S : CallFix p m c cX4_failAt 2 s args GW "RoadThatSings$Reader") hE hT hP hD hA hS hr hlocks hname hl => ?_)
  have hS0 := hS
  have hx := S.1
  have hb := S.2.1
  have hl : lv_has ls 2 [(0, .ref a_o), (1, .int x1)] := hl
  unfold F_X4_failAt at h
  refine lv_aload_n hx hb dX4_failAt_0 rfl (lv_at hl 0 rfl) ?_
  refine lv_iload_n hx hb dX4_failAt_1 rfl (lv_at hl 1 rfl) ?_
  refine pf S hE hP hD hS 0 (k := 3) rfl rfl inX4 tyX4_ok nmX4 (by decide) q577 rfl rfl rfl (Nat.le_of_ble_eq_true rfl) dX4_failAt_2 (fun H locs hP hD hS => ?_)
  have hP : va_P D vwCl (wX4_failAt cI cJ cS a_o z_text z_told v_at x1) H := hP
  have hD : va_D A (wX4_failAt cI cJ cS a_o z_text z_told v_at x1) := hD
  refine lv_iconst (v := 0) hx hb dX4_failAt_5 (by decide) ?_
  exact W.zret hx hb hr rfl (fun t ht _ => ⟨⟨_, x1, rfl, h, hPt hP ht⟩, hS.F ht⟩) hS.2.2 dX4_failAt_6
/-! X4_readNumber -/
abbrev wX4_readNumber (cI cJ cS : ClassId) (a_o a_text a_text_elements : Nat) (z_told : Value) (v_at : Int32) (v_faultAt : Int32) (v_text_held : Int32) (v_text_sort : Int32) (v_text_elementCount : Int32) (v_text_stretchNumber : Int32) (g_text_elements : Nat → Int64) : va_W := [(a_o, .inr (3, [.ref a_text, z_told, .int v_at, .int v_faultAt])), (a_text, .inr (5, [.ref a_text_elements, .int v_text_held, .int v_text_sort, .int v_text_elementCount, .int v_text_stretchNumber])), (a_text_elements, .inl (cJ, 160, .inr (.inl g_text_elements)))]
def L_X4_readNumber_44 (v_text_elementCount : Int32) (g_text_elements : Nat → Int64) (x3 : Int32) (k110 : Int32 → Int32 → Prop) : Nat → Int32 → Int32 → Prop
  | 0, _, _ => False
  | n44 + 1, x4, v_at => ((4 ≤ (v_at - x3) → k110 x4 v_at) ∧ (¬ 4 ≤ (v_at - x3) → (F_X6_intAt v_text_elementCount g_text_elements v_at (fun r62 => (F_X9_within r62 48 57 (fun r69 => ((r69 = 0 → k110 x4 v_at) ∧ (¬ r69 = 0 → (F_X6_intAt v_text_elementCount g_text_elements v_at (fun r88 => (∀ x4_95 : Int32, x4_95 = ((10 * x4) + r88) - 48 → L_X4_readNumber_44 v_text_elementCount g_text_elements x3 k110 n44 x4_95 (v_at + 1))))))))))))
def F_X4_readNumber_110 (post : Int32 → Int32 → Int32 → Prop) (x1 : Int32) (x2 : Int32) (x3 : Int32) (x4 : Int32) (v_at : Int32) (v_faultAt : Int32) : Prop := ((v_at = x3 → post (-1) v_at x3) ∧ (¬ v_at = x3 → (F_X9_within x4 x1 x2 (fun r122 => ((r122 = 0 → post (-1) v_at x3) ∧ (¬ r122 = 0 → post x4 v_at v_faultAt))))))
def F_X4_readNumber (v_at : Int32) (v_faultAt : Int32) (v_text_elementCount : Int32) (g_text_elements : Nat → Int64) (x1 : Int32) (x2 : Int32) (post : Int32 → Int32 → Int32 → Prop) : Prop := (F_X6_intAt v_text_elementCount g_text_elements v_at (fun r8 => ((r8 = 32 → (∀ x3_40 : Int32, x3_40 = v_at + 1 → (∃ n44 : Nat, L_X4_readNumber_44 v_text_elementCount g_text_elements x3_40 (fun x4_1 v_at_2 => F_X4_readNumber_110 post x1 x2 x3_40 x4_1 v_at_2 v_faultAt) n44 0 (v_at + 1)))) ∧ (¬ r8 = 32 → post (-1) v_at v_at))))
set_option maxHeartbeats 4000000 in
set_option maxRecDepth 100000 in
theorem w_X4_readNumber_44 {l : Launch} {D : va_G} {cI cJ cS : ClassId} {ad adK : Nat → Nat} {a_o a_text a_text_elements : Nat} {z_told : Value} {v_faultAt : Int32} {v_text_held : Int32} {v_text_sort : Int32} {v_text_elementCount : Int32} {v_text_stretchNumber : Int32} {g_text_elements : Nat → Int64} {x1 : Int32} {x2 : Int32} {x3 : Int32} {post : Int32 → Int32 → Int32 → Prop} {k110 : Int32 → Int32 → Prop} {p : Program} {e : Env} {s : State} {m : MethodId} {args : Array Value} {below : List Frame} {meth : Method} {c : Code} {A : Nat → Prop} (S : CallFix p m c cX4_readNumber 5 s args GW "RoadThatSings$Reader") (hE : EN D cI cJ cS s) (hT : ST ad adK A s s.heap) (hA : ∀ q : Nat, s.heap.size ≤ q → A q) (hr : meth.sig.returnType = (some (.int))) (hlocks : meth.locks = false) (hk110 : ∀ (x4 : Int32) (v_at : Int32) (H : Heap) (locs : List Loc) (ls : Array Slot), k110 x4 v_at → va_P D vwCl (wX4_readNumber cI cJ cS a_o a_text a_text_elements z_told v_at v_faultAt v_text_held v_text_sort v_text_elementCount v_text_stretchNumber g_text_elements) H → va_D A (wX4_readNumber cI cJ cS a_o a_text a_text_elements z_told v_at v_faultAt v_text_held v_text_sort v_text_elementCount v_text_stretchNumber g_text_elements) → va_S A s.heap H locs → lv_has ls 5 [(0, .ref a_o), (1, .int x1), (2, .int x2), (3, .int x3), (4, .int x4)] → W p l e (rmd 2 0 0) s m args below meth c H locs 0 0 (MQ below (va_Qi (fun r (u : Int32 × Int32) => post r u.1 u.2) (fun u t => va_P D vwCl (wX4_readNumber cI cJ cS a_o a_text a_text_elements z_told u.1 u.2 v_text_held v_text_sort v_text_elementCount v_text_stretchNumber g_text_elements) t.heap) A) args s 0 0 A) (F0 m 110 ls [])) : ∀ n : Nat, ∀ (x4 : Int32) (v_at : Int32) (H : Heap) (locs : List Loc) (ls : Array Slot), L_X4_readNumber_44 v_text_elementCount g_text_elements x3 k110 n x4 v_at → va_P D vwCl (wX4_readNumber cI cJ cS a_o a_text a_text_elements z_told v_at v_faultAt v_text_held v_text_sort v_text_elementCount v_text_stretchNumber g_text_elements) H → va_D A (wX4_readNumber cI cJ cS a_o a_text a_text_elements z_told v_at v_faultAt v_text_held v_text_sort v_text_elementCount v_text_stretchNumber g_text_elements) → va_S A s.heap H locs → lv_has ls 5 [(0, .ref a_o), (1, .int x1), (2, .int x2), (3, .int x3), (4, .int x4)] → W p l e (rmd 2 0 0) s m args below meth c H locs 0 0 (MQ below (va_Qi (fun r (u : Int32 × Int32) => post r u.1 u.2) (fun u t => va_P D vwCl (wX4_readNumber cI cJ cS a_o a_text a_text_elements z_told u.1 u.2 v_text_held v_text_sort v_text_elementCount v_text_stretchNumber g_text_elements) t.heap) A) args s 0 0 A) (F0 m 44 ls []) := by
  intro n
  induction n with
  | zero =>
    intro x4 v_at H locs ls h hP hD hS hl
    exact h.elim
  | succ n ih =>
    intro x4 v_at H locs ls h hP hD hS hl
    rw [L_X4_readNumber_44] at h
    have hx := S.1
    have hb := S.2.1
    refine lv_aload_n hx hb dX4_readNumber_44 rfl (lv_at hl 0 rfl) ?_
    refine gf S hE hP 0 rfl rfl inX4 (k := 2) (by decide) q576 rfl dX4_readNumber_45 ?_
    refine lv_iload_n hx hb dX4_readNumber_48 rfl (lv_at hl 3 rfl) ?_
    refine lv_isub hx hb dX4_readNumber_49 ?_
    refine lv_iconst (v := 4) hx hb dX4_readNumber_50 (by decide) ?_
    refine lv_icmp_ge (tgt := 110) hx hb dX4_readNumber_51 (by decide) (fun hc => ?_) (fun hc => ?_)
    · have h := h.1 hc
      exact hk110 _ _ _ _ _ h hP hD hS (lv_sub hl [0, 1, 2, 3, 4] rfl)
    have h := h.2 hc
    refine lv_aload_n hx hb dX4_readNumber_54 rfl (lv_at hl 0 rfl) ?_
    refine gf S hE hP 0 rfl rfl inX4 (k := 0) (by decide) q574 rfl dX4_readNumber_55 ?_
    refine lv_aload_n hx hb dX4_readNumber_58 rfl (lv_at hl 0 rfl) ?_
    refine gf S hE hP 0 rfl rfl inX4 (k := 2) (by decide) q576 rfl dX4_readNumber_59 ?_
    refine ro_i (roV S hE hT hS (c_X6_intAt h) lkX4_30 rfl ⟨(Nat.le_of_ble_eq_true rfl), (Nat.le_of_ble_eq_true rfl)⟩ (hP.sub [1, 2] rfl) 0 rfl rfl hl.1 rfl (Nat.le_of_ble_eq_true rfl) dX4_readNumber_62 ⟨(Nat.zero_le _), (Nat.zero_le _)⟩) (fun r62 h => ?_)
    refine lv_bipush (v := 48) hx hb dX4_readNumber_65 (by decide) ?_
    refine lv_bipush (v := 57) hx hb dX4_readNumber_67 (by decide) ?_
    refine ro_i (roSN S hE hT hS (c_X9_within h) lkX4_145 rfl ⟨(Nat.le_of_ble_eq_true rfl), (Nat.le_of_ble_eq_true rfl)⟩ (hP.sub [] rfl) hl.1 rfl (Nat.le_of_ble_eq_true rfl) dX4_readNumber_69 ⟨(Nat.zero_le _), (Nat.zero_le _)⟩) (fun r69 h => ?_)
    refine lv_if_eq (tgt := 110) hx hb dX4_readNumber_72 (by decide) (fun hc => ?_) (fun hc => ?_)
    · have h := h.1 hc
      exact hk110 _ _ _ _ _ h hP hD hS (lv_sub hl [0, 1, 2, 3, 4] rfl)
    have h := h.2 hc
    refine lv_bipush (v := 10) hx hb dX4_readNumber_75 (by decide) ?_
    refine lv_iload hx hb dX4_readNumber_77 (lv_at hl 4 rfl) ?_
    refine lv_imul hx hb dX4_readNumber_79 ?_
    refine lv_aload_n hx hb dX4_readNumber_80 rfl (lv_at hl 0 rfl) ?_
    refine gf S hE hP 0 rfl rfl inX4 (k := 0) (by decide) q574 rfl dX4_readNumber_81 ?_
    refine lv_aload_n hx hb dX4_readNumber_84 rfl (lv_at hl 0 rfl) ?_
    refine gf S hE hP 0 rfl rfl inX4 (k := 2) (by decide) q576 rfl dX4_readNumber_85 ?_
    refine ro_i (roV S hE hT hS (c_X6_intAt h) lkX4_30 rfl ⟨(Nat.le_of_ble_eq_true rfl), (Nat.le_of_ble_eq_true rfl)⟩ (hP.sub [1, 2] rfl) 0 rfl rfl hl.1 rfl (Nat.le_of_ble_eq_true rfl) dX4_readNumber_88 ⟨(Nat.zero_le _), (Nat.zero_le _)⟩) (fun r88 h => ?_)
    refine lv_iadd hx hb dX4_readNumber_91 ?_
    refine lv_bipush (v := 48) hx hb dX4_readNumber_92 (by decide) ?_
    refine lv_isub hx hb dX4_readNumber_94 ?_
    refine lv_topi (fun x4_95 ex4_95 => ?_)
    have h := h _ ex4_95
    refine lv_istore (lv' := [(4, .int x4_95), (0, .ref a_o), (1, .int x1), (2, .int x2), (3, .int x3)]) hx hb dX4_readNumber_95 hl (by decide) rfl (fun ls hl => ?_)
    refine lv_aload_n hx hb dX4_readNumber_97 rfl (lv_at hl 1 rfl) ?_
    refine lv_dup hx hb dX4_readNumber_98 rfl ?_
    refine gf S hE hP 0 rfl rfl inX4 (k := 2) (by decide) q576 rfl dX4_readNumber_99 ?_
    refine lv_iconst (v := 1) hx hb dX4_readNumber_102 (by decide) ?_
    refine lv_iadd hx hb dX4_readNumber_103 ?_
    refine pf S hE hP hD hS 0 (k := 2) rfl rfl inX4 tyX4_ok nmX4 (by decide) q576 rfl rfl rfl (Nat.le_of_ble_eq_true rfl) dX4_readNumber_104 (fun H locs hP hD hS => ?_)
    have hP : va_P D vwCl (wX4_readNumber cI cJ cS a_o a_text a_text_elements z_told (v_at + 1) v_faultAt v_text_held v_text_sort v_text_elementCount v_text_stretchNumber g_text_elements) H := hP
    have hD : va_D A (wX4_readNumber cI cJ cS a_o a_text a_text_elements z_told (v_at + 1) v_faultAt v_text_held v_text_sort v_text_elementCount v_text_stretchNumber g_text_elements) := hD
    refine lv_goto (tgt := 44) hx hb dX4_readNumber_107 (by decide) ?_
    exact ih _ _ _ _ _ h hP hD hS (lv_sub hl [1, 2, 3, 4, 0] rfl)
set_option maxHeartbeats 4000000 in
set_option maxRecDepth 100000 in
theorem w_X4_readNumber_110 {l : Launch} {D : va_G} {cI cJ cS : ClassId} {ad adK : Nat → Nat} {a_o a_text a_text_elements : Nat} {z_told : Value} {v_at : Int32} {v_faultAt : Int32} {v_text_held : Int32} {v_text_sort : Int32} {v_text_elementCount : Int32} {v_text_stretchNumber : Int32} {g_text_elements : Nat → Int64} {x1 : Int32} {x2 : Int32} {x3 : Int32} {x4 : Int32} {post : Int32 → Int32 → Int32 → Prop} {p : Program} {e : Env} {s : State} {m : MethodId} {args : Array Value} {below : List Frame} {meth : Method} {c : Code} {A : Nat → Prop} (S : CallFix p m c cX4_readNumber 5 s args GW "RoadThatSings$Reader") (hE : EN D cI cJ cS s) (hT : ST ad adK A s s.heap) (hA : ∀ q : Nat, s.heap.size ≤ q → A q) (hr : meth.sig.returnType = (some (.int))) (hlocks : meth.locks = false) : ∀ (H : Heap) (locs : List Loc) (ls : Array Slot), F_X4_readNumber_110 post x1 x2 x3 x4 v_at v_faultAt → va_P D vwCl (wX4_readNumber cI cJ cS a_o a_text a_text_elements z_told v_at v_faultAt v_text_held v_text_sort v_text_elementCount v_text_stretchNumber g_text_elements) H → va_D A (wX4_readNumber cI cJ cS a_o a_text a_text_elements z_told v_at v_faultAt v_text_held v_text_sort v_text_elementCount v_text_stretchNumber g_text_elements) → va_S A s.heap H locs → lv_has ls 5 [(0, .ref a_o), (1, .int x1), (2, .int x2), (3, .int x3), (4, .int x4)] → W p l e (rmd 2 0 0) s m args below meth c H locs 0 0 (MQ below (va_Qi (fun r (u : Int32 × Int32) => post r u.1 u.2) (fun u t => va_P D vwCl (wX4_readNumber cI cJ cS a_o a_text a_text_elements z_told u.1 u.2 v_text_held v_text_sort v_text_elementCount v_text_stretchNumber g_text_elements) t.heap) A) args s 0 0 A) (F0 m 110 ls []) := by
  intro  H locs ls h hP hD hS hl
  unfold F_X4_readNumber_110 at h
  have hx := S.1
  have hb := S.2.1
  refine lv_aload_n hx hb dX4_readNumber_110 rfl (lv_at hl 0 rfl) ?_
  refine gf S hE hP 0 rfl rfl inX4 (k := 2) (by decide) q576 rfl dX4_readNumber_111 ?_
  refine lv_iload_n hx hb dX4_readNumber_114 rfl (lv_at hl 3 rfl) ?_
  refine lv_icmp_eq (tgt := 128) hx hb dX4_readNumber_115 (by decide) (fun hc => ?_) (fun hc => ?_)
  · have h := h.1 hc
    refine lv_aload_n hx hb dX4_readNumber_128 rfl (lv_at hl 0 rfl) ?_
    refine lv_iload_n hx hb dX4_readNumber_129 rfl (lv_at hl 3 rfl) ?_
    refine pf S hE hP hD hS 0 (k := 3) rfl rfl inX4 tyX4_ok nmX4 (by decide) q577 rfl rfl rfl (Nat.le_of_ble_eq_true rfl) dX4_readNumber_130 (fun H locs hP hD hS => ?_)
    have hP : va_P D vwCl (wX4_readNumber cI cJ cS a_o a_text a_text_elements z_told v_at x3 v_text_held v_text_sort v_text_elementCount v_text_stretchNumber g_text_elements) H := hP
    have hD : va_D A (wX4_readNumber cI cJ cS a_o a_text a_text_elements z_told v_at x3 v_text_held v_text_sort v_text_elementCount v_text_stretchNumber g_text_elements) := hD
    refine lv_iconst (v := (-1)) hx hb dX4_readNumber_133 (by decide) ?_
    exact W.iret hx hb hr (fun t ht _ => ⟨⟨_, (v_at, x3), rfl, h, hPt hP ht⟩, hS.F ht⟩) hS.2.2 dX4_readNumber_134
  have h := h.2 hc
  refine lv_iload hx hb dX4_readNumber_118 (lv_at hl 4 rfl) ?_
  refine lv_iload_n hx hb dX4_readNumber_120 rfl (lv_at hl 1 rfl) ?_
  refine lv_iload_n hx hb dX4_readNumber_121 rfl (lv_at hl 2 rfl) ?_
  refine ro_i (roSN S hE hT hS (c_X9_within h) lkX4_145 rfl ⟨(Nat.le_of_ble_eq_true rfl), (Nat.le_of_ble_eq_true rfl)⟩ (hP.sub [] rfl) hl.1 rfl (Nat.le_of_ble_eq_true rfl) dX4_readNumber_122 ⟨(Nat.zero_le _), (Nat.zero_le _)⟩) (fun r122 h => ?_)
  refine lv_if_ne (tgt := 135) hx hb dX4_readNumber_125 (by decide) (fun hc => ?_) (fun hc => ?_)
  · have h := h.2 hc
    refine lv_iload hx hb dX4_readNumber_135 (lv_at hl 4 rfl) ?_
    exact W.iret hx hb hr (fun t ht _ => ⟨⟨_, (v_at, v_faultAt), rfl, h, hPt hP ht⟩, hS.F ht⟩) hS.2.2 dX4_readNumber_137
  have h := h.1 hc
  refine lv_aload_n hx hb dX4_readNumber_128 rfl (lv_at hl 0 rfl) ?_
  refine lv_iload_n hx hb dX4_readNumber_129 rfl (lv_at hl 3 rfl) ?_
  refine pf S hE hP hD hS 0 (k := 3) rfl rfl inX4 tyX4_ok nmX4 (by decide) q577 rfl rfl rfl (Nat.le_of_ble_eq_true rfl) dX4_readNumber_130 (fun H locs hP hD hS => ?_)
  have hP : va_P D vwCl (wX4_readNumber cI cJ cS a_o a_text a_text_elements z_told v_at x3 v_text_held v_text_sort v_text_elementCount v_text_stretchNumber g_text_elements) H := hP
  have hD : va_D A (wX4_readNumber cI cJ cS a_o a_text a_text_elements z_told v_at x3 v_text_held v_text_sort v_text_elementCount v_text_stretchNumber g_text_elements) := hD
  refine lv_iconst (v := (-1)) hx hb dX4_readNumber_133 (by decide) ?_
  exact W.iret hx hb hr (fun t ht _ => ⟨⟨_, (v_at, x3), rfl, h, hPt hP ht⟩, hS.F ht⟩) hS.2.2 dX4_readNumber_134
set_option maxHeartbeats 4000000 in
set_option maxRecDepth 100000 in
theorem c_X4_readNumber {l : Launch} {D : va_G} {cI cJ cS : ClassId} {ad adK : Nat → Nat} {a_o a_text a_text_elements : Nat} {z_told : Value} {v_at : Int32} {v_faultAt : Int32} {v_text_held : Int32} {v_text_sort : Int32} {v_text_elementCount : Int32} {v_text_stretchNumber : Int32} {g_text_elements : Nat → Int64} {x1 : Int32} {x2 : Int32} {post : Int32 → Int32 → Int32 → Prop} (h : F_X4_readNumber v_at v_faultAt v_text_elementCount g_text_elements x1 x2 post) {sz : Nat} : Met l yX4_readNumber (Cond.code yX4_readNumber cX4_readNumber 5 (some (.int)) :: GW) (rmd 2 0 0) (PW D cI cJ cS ad adK [.ref a_o, .int x1, .int x2] (wX4_readNumber cI cJ cS a_o a_text a_text_elements z_told v_at v_faultAt v_text_held v_text_sort v_text_elementCount v_text_stretchNumber g_text_elements) sz) (va_Qi (fun r (u : Int32 × Int32) => post r u.1 u.2) (fun u t => va_P D vwCl (wX4_readNumber cI cJ cS a_o a_text a_text_elements z_told u.1 u.2 v_text_held v_text_sort v_text_elementCount v_text_stretchNumber g_text_elements) t.heap) (va_A (wX4_readNumber cI cJ cS a_o a_text a_text_elements z_told v_at v_faultAt v_text_held v_text_sort v_text_elementCount v_text_stretchNumber g_text_elements) sz)) 0 0 (va_A (wX4_readNumber cI cJ cS a_o a_text a_text_elements z_told v_at v_faultAt v_text_held v_text_sort v_text_elementCount v_text_stretchNumber g_text_elements) sz) := by
  refine Met.rw (Qc := fun A => (va_Qi (fun r (u : Int32 × Int32) => post r u.1 u.2) (fun u t => va_P D vwCl (wX4_readNumber cI cJ cS a_o a_text a_text_elements z_told u.1 u.2 v_text_held v_text_sort v_text_elementCount v_text_stretchNumber g_text_elements) t.heap) A)) (by decide) (Nat.le_of_ble_eq_true rfl) (fun p e s m args below meth c ls A (S : CallFix p m c cX4_readNumber 5 s args GW "RoadThatSings$Reader") hE hT hP hD hA hS hr hlocks hname hl => ?_)
  have hS0 := hS
  have hx := S.1
  have hb := S.2.1
  have hl : lv_has ls 5 [(0, .ref a_o), (1, .int x1), (2, .int x2)] := hl
  unfold F_X4_readNumber at h
  refine lv_aload_n hx hb dX4_readNumber_0 rfl (lv_at hl 0 rfl) ?_
  refine gf S hE hP 0 rfl rfl inX4 (k := 0) (by decide) q574 rfl dX4_readNumber_1 ?_
  refine lv_aload_n hx hb dX4_readNumber_4 rfl (lv_at hl 0 rfl) ?_
  refine gf S hE hP 0 rfl rfl inX4 (k := 2) (by decide) q576 rfl dX4_readNumber_5 ?_
  refine ro_i (roV S hE hT hS (c_X6_intAt h) lkX4_30 rfl ⟨(Nat.le_of_ble_eq_true rfl), (Nat.le_of_ble_eq_true rfl)⟩ (hP.sub [1, 2] rfl) 0 rfl rfl hl.1 rfl (Nat.le_of_ble_eq_true rfl) dX4_readNumber_8 ⟨(Nat.zero_le _), (Nat.zero_le _)⟩) (fun r8 h => ?_)
  refine lv_bipush (v := 32) hx hb dX4_readNumber_11 (by decide) ?_
  refine lv_icmp_eq (tgt := 26) hx hb dX4_readNumber_13 (by decide) (fun hc => ?_) (fun hc => ?_)
  · have h := h.1 hc
    refine lv_aload_n hx hb dX4_readNumber_26 rfl (lv_at hl 0 rfl) ?_
    refine lv_dup hx hb dX4_readNumber_27 rfl ?_
    refine gf S hE hP 0 rfl rfl inX4 (k := 2) (by decide) q576 rfl dX4_readNumber_28 ?_
    refine lv_iconst (v := 1) hx hb dX4_readNumber_31 (by decide) ?_
    refine lv_iadd hx hb dX4_readNumber_32 ?_
    refine pf S hE hP hD hS 0 (k := 2) rfl rfl inX4 tyX4_ok nmX4 (by decide) q576 rfl rfl rfl (Nat.le_of_ble_eq_true rfl) dX4_readNumber_33 (fun H locs hP hD hS => ?_)
    have hP : va_P D vwCl (wX4_readNumber cI cJ cS a_o a_text a_text_elements z_told (v_at + 1) v_faultAt v_text_held v_text_sort v_text_elementCount v_text_stretchNumber g_text_elements) H := hP
    have hD : va_D A (wX4_readNumber cI cJ cS a_o a_text a_text_elements z_told (v_at + 1) v_faultAt v_text_held v_text_sort v_text_elementCount v_text_stretchNumber g_text_elements) := hD
    refine lv_aload_n hx hb dX4_readNumber_36 rfl (lv_at hl 0 rfl) ?_
    refine gf S hE hP 0 rfl rfl inX4 (k := 2) (by decide) q576 rfl dX4_readNumber_37 ?_
    refine lv_topi (fun x3_40 ex3_40 => ?_)
    have h := h _ ex3_40
    refine lv_istore_n (lv' := [(3, .int x3_40), (0, .ref a_o), (1, .int x1), (2, .int x2)]) hx hb dX4_readNumber_40 rfl hl (by decide) rfl (fun ls hl => ?_)
    refine lv_iconst (v := 0) hx hb dX4_readNumber_41 (by decide) ?_
    refine lv_istore (lv' := [(4, .int 0), (3, .int x3_40), (0, .ref a_o), (1, .int x1), (2, .int x2)]) hx hb dX4_readNumber_42 hl (by decide) rfl (fun ls hl => ?_)
    obtain ⟨n, h⟩ := h
    refine w_X4_readNumber_44 S hE hT hA hr hlocks (fun x4_1 v_at_2 H locs ls h hP hD hS hl => ?_) n _ _ _ _ _ h hP hD hS (lv_sub hl [2, 3, 4, 1, 0] rfl)
    refine w_X4_readNumber_110 S hE hT hA hr hlocks _ _ _ h hP hD hS (lv_sub hl [0, 1, 2, 3, 4] rfl)
  have h := h.2 hc
  refine lv_aload_n hx hb dX4_readNumber_16 rfl (lv_at hl 0 rfl) ?_
  refine lv_aload_n hx hb dX4_readNumber_17 rfl (lv_at hl 0 rfl) ?_
  refine gf S hE hP 0 rfl rfl inX4 (k := 2) (by decide) q576 rfl dX4_readNumber_18 ?_
  refine pf S hE hP hD hS 0 (k := 3) rfl rfl inX4 tyX4_ok nmX4 (by decide) q577 rfl rfl rfl (Nat.le_of_ble_eq_true rfl) dX4_readNumber_21 (fun H locs hP hD hS => ?_)
  have hP : va_P D vwCl (wX4_readNumber cI cJ cS a_o a_text a_text_elements z_told v_at v_at v_text_held v_text_sort v_text_elementCount v_text_stretchNumber g_text_elements) H := hP
  have hD : va_D A (wX4_readNumber cI cJ cS a_o a_text a_text_elements z_told v_at v_at v_text_held v_text_sort v_text_elementCount v_text_stretchNumber g_text_elements) := hD
  refine lv_iconst (v := (-1)) hx hb dX4_readNumber_24 (by decide) ?_
  exact W.iret hx hb hr (fun t ht _ => ⟨⟨_, (v_at, v_at), rfl, h, hPt hP ht⟩, hS.F ht⟩) hS.2.2 dX4_readNumber_25
/-! X7_add -/
abbrev wX7_add (cI cJ cS : ClassId) (a_o a_kinds a_others a_spaces a_times : Nat) (v_stretchCount : Int32) (f_kinds : Nat → Int32) (f_others : Nat → Int32) (f_spaces : Nat → Int32) (f_times : Nat → Int32) : va_W := [(a_o, .inr (6, [.ref a_kinds, .ref a_spaces, .ref a_others, .ref a_times, .int v_stretchCount])), (a_kinds, .inl (cI, 16, .inl f_kinds)), (a_others, .inl (cI, 16, .inl f_others)), (a_spaces, .inl (cI, 16, .inl f_spaces)), (a_times, .inl (cI, 16, .inl f_times))]
def F_X7_add (v_stretchCount : Int32) (f_kinds : Nat → Int32) (f_others : Nat → Int32) (f_spaces : Nat → Int32) (f_times : Nat → Int32) (x1 : Int32) (x2 : Int32) (x3 : Int32) (x4 : Int32) (post : Int32 → Int32 → (Nat → Int32) → (Nat → Int32) → (Nat → Int32) → (Nat → Int32) → Prop) : Prop := (F_X7_isFull v_stretchCount (fun r1 => ((r1 = 0 → ((0 ≤ v_stretchCount → (vp_in v_stretchCount 16 ∧ (vp_in v_stretchCount 16 ∧ (vp_in v_stretchCount 16 ∧ (vp_in v_stretchCount 16 ∧ post ((v_stretchCount + 1) - 1) (v_stretchCount + 1) (upd f_kinds v_stretchCount.toNatClampNeg x1) (upd f_others v_stretchCount.toNatClampNeg x3) (upd f_spaces v_stretchCount.toNatClampNeg x2) (upd f_times v_stretchCount.toNatClampNeg x4)))))) ∧ (¬ 0 ≤ v_stretchCount → post (-1) v_stretchCount f_kinds f_others f_spaces f_times))) ∧ (¬ r1 = 0 → post (-1) v_stretchCount f_kinds f_others f_spaces f_times))))
set_option maxHeartbeats 4000000 in
set_option maxRecDepth 100000 in
theorem c_X7_add {l : Launch} {D : va_G} {cI cJ cS : ClassId} {ad adK : Nat → Nat} {a_o a_kinds a_others a_spaces a_times : Nat} {v_stretchCount : Int32} {f_kinds : Nat → Int32} {f_others : Nat → Int32} {f_spaces : Nat → Int32} {f_times : Nat → Int32} {x1 : Int32} {x2 : Int32} {x3 : Int32} {x4 : Int32} {post : Int32 → Int32 → (Nat → Int32) → (Nat → Int32) → (Nat → Int32) → (Nat → Int32) → Prop} (h : F_X7_add v_stretchCount f_kinds f_others f_spaces f_times x1 x2 x3 x4 post) {sz : Nat} : Met l yX7_add (Cond.code yX7_add cX7_add 5 (some (.int)) :: GW) (rmd 1 0 0) (PW D cI cJ cS ad adK [.ref a_o, .int x1, .int x2, .int x3, .int x4] (wX7_add cI cJ cS a_o a_kinds a_others a_spaces a_times v_stretchCount f_kinds f_others f_spaces f_times) sz) (va_Qi (fun r (u : Int32 × (Nat → Int32) × (Nat → Int32) × (Nat → Int32) × (Nat → Int32)) => post r u.1 u.2.1 u.2.2.1 u.2.2.2.1 u.2.2.2.2) (fun u t => va_P D vwCl (wX7_add cI cJ cS a_o a_kinds a_others a_spaces a_times u.1 u.2.1 u.2.2.1 u.2.2.2.1 u.2.2.2.2) t.heap) (va_A (wX7_add cI cJ cS a_o a_kinds a_others a_spaces a_times v_stretchCount f_kinds f_others f_spaces f_times) sz)) 0 0 (va_A (wX7_add cI cJ cS a_o a_kinds a_others a_spaces a_times v_stretchCount f_kinds f_others f_spaces f_times) sz) := by
  refine Met.rw (Qc := fun A => (va_Qi (fun r (u : Int32 × (Nat → Int32) × (Nat → Int32) × (Nat → Int32) × (Nat → Int32)) => post r u.1 u.2.1 u.2.2.1 u.2.2.2.1 u.2.2.2.2) (fun u t => va_P D vwCl (wX7_add cI cJ cS a_o a_kinds a_others a_spaces a_times u.1 u.2.1 u.2.2.1 u.2.2.2.1 u.2.2.2.2) t.heap) A)) (by decide) (Nat.le_of_ble_eq_true rfl) (fun p e s m args below meth c ls A (S : CallFix p m c cX7_add 5 s args GW "RoadThatSings$Stretches") hE hT hP hD hA hS hr hlocks hname hl => ?_)
  have hS0 := hS
  have hx := S.1
  have hb := S.2.1
  have hl : lv_has ls 5 [(0, .ref a_o), (1, .int x1), (2, .int x2), (3, .int x3), (4, .int x4)] := hl
  unfold F_X7_add at h
  refine lv_aload_n hx hb dX7_add_0 rfl (lv_at hl 0 rfl) ?_
  refine ro_i (roV S hE hT hS (c_X7_isFull h) lkX7_34 rfl ⟨(Nat.le_of_ble_eq_true rfl), (Nat.le_of_ble_eq_true rfl)⟩ (hP.sub [0] rfl) 0 rfl rfl hl.1 rfl (Nat.le_of_ble_eq_true rfl) dX7_add_1 ⟨(Nat.zero_le _), (Nat.zero_le _)⟩) (fun r1 h => ?_)
  refine lv_if_ne (tgt := 14) hx hb dX7_add_4 (by decide) (fun hc => ?_) (fun hc => ?_)
  · have h := h.2 hc
    refine lv_iconst (v := (-1)) hx hb dX7_add_14 (by decide) ?_
    exact W.iret hx hb hr (fun t ht _ => ⟨⟨_, (v_stretchCount, f_kinds, f_others, f_spaces, f_times), rfl, h, hPt hP ht⟩, hS.F ht⟩) hS.2.2 dX7_add_15
  have h := h.1 hc
  refine lv_aload_n hx hb dX7_add_7 rfl (lv_at hl 0 rfl) ?_
  refine gf S hE hP 0 rfl rfl inX7 (k := 4) (by decide) q42 rfl dX7_add_8 ?_
  refine lv_if_ge (tgt := 16) hx hb dX7_add_11 (by decide) (fun hc => ?_) (fun hc => ?_)
  · have h := h.1 hc
    refine lv_aload_n hx hb dX7_add_16 rfl (lv_at hl 0 rfl) ?_
    refine gf S hE hP 0 rfl rfl inX7 (k := 0) (by decide) q38 rfl dX7_add_17 ?_
    refine lv_aload_n hx hb dX7_add_20 rfl (lv_at hl 0 rfl) ?_
    refine gf S hE hP 0 rfl rfl inX7 (k := 4) (by decide) q42 rfl dX7_add_21 ?_
    refine lv_iload_n hx hb dX7_add_24 rfl (lv_at hl 1 rfl) ?_
    obtain ⟨hi, h⟩ := h
    refine ias S hE hP hD hS 1 rfl hi dX7_add_25 (fun H locs hP hD hS => ?_)
    have hP : va_P D vwCl (wX7_add cI cJ cS a_o a_kinds a_others a_spaces a_times v_stretchCount (upd f_kinds v_stretchCount.toNatClampNeg x1) f_others f_spaces f_times) H := hP
    have hD : va_D A (wX7_add cI cJ cS a_o a_kinds a_others a_spaces a_times v_stretchCount (upd f_kinds v_stretchCount.toNatClampNeg x1) f_others f_spaces f_times) := hD
    refine lv_aload_n hx hb dX7_add_26 rfl (lv_at hl 0 rfl) ?_
    refine gf S hE hP 0 rfl rfl inX7 (k := 1) (by decide) q39 rfl dX7_add_27 ?_
    refine lv_aload_n hx hb dX7_add_30 rfl (lv_at hl 0 rfl) ?_
    refine gf S hE hP 0 rfl rfl inX7 (k := 4) (by decide) q42 rfl dX7_add_31 ?_
    refine lv_iload_n hx hb dX7_add_34 rfl (lv_at hl 2 rfl) ?_
    obtain ⟨hi, h⟩ := h
    refine ias S hE hP hD hS 3 rfl hi dX7_add_35 (fun H locs hP hD hS => ?_)
    have hP : va_P D vwCl (wX7_add cI cJ cS a_o a_kinds a_others a_spaces a_times v_stretchCount (upd f_kinds v_stretchCount.toNatClampNeg x1) f_others (upd f_spaces v_stretchCount.toNatClampNeg x2) f_times) H := hP
    have hD : va_D A (wX7_add cI cJ cS a_o a_kinds a_others a_spaces a_times v_stretchCount (upd f_kinds v_stretchCount.toNatClampNeg x1) f_others (upd f_spaces v_stretchCount.toNatClampNeg x2) f_times) := hD
    refine lv_aload_n hx hb dX7_add_36 rfl (lv_at hl 0 rfl) ?_
    refine gf S hE hP 0 rfl rfl inX7 (k := 2) (by decide) q40 rfl dX7_add_37 ?_
    refine lv_aload_n hx hb dX7_add_40 rfl (lv_at hl 0 rfl) ?_
    refine gf S hE hP 0 rfl rfl inX7 (k := 4) (by decide) q42 rfl dX7_add_41 ?_
    refine lv_iload_n hx hb dX7_add_44 rfl (lv_at hl 3 rfl) ?_
    obtain ⟨hi, h⟩ := h
    refine ias S hE hP hD hS 2 rfl hi dX7_add_45 (fun H locs hP hD hS => ?_)
    have hP : va_P D vwCl (wX7_add cI cJ cS a_o a_kinds a_others a_spaces a_times v_stretchCount (upd f_kinds v_stretchCount.toNatClampNeg x1) (upd f_others v_stretchCount.toNatClampNeg x3) (upd f_spaces v_stretchCount.toNatClampNeg x2) f_times) H := hP
    have hD : va_D A (wX7_add cI cJ cS a_o a_kinds a_others a_spaces a_times v_stretchCount (upd f_kinds v_stretchCount.toNatClampNeg x1) (upd f_others v_stretchCount.toNatClampNeg x3) (upd f_spaces v_stretchCount.toNatClampNeg x2) f_times) := hD
    refine lv_aload_n hx hb dX7_add_46 rfl (lv_at hl 0 rfl) ?_
    refine gf S hE hP 0 rfl rfl inX7 (k := 3) (by decide) q41 rfl dX7_add_47 ?_
    refine lv_aload_n hx hb dX7_add_50 rfl (lv_at hl 0 rfl) ?_
    refine gf S hE hP 0 rfl rfl inX7 (k := 4) (by decide) q42 rfl dX7_add_51 ?_
    refine lv_iload hx hb dX7_add_54 (lv_at hl 4 rfl) ?_
    obtain ⟨hi, h⟩ := h
    refine ias S hE hP hD hS 4 rfl hi dX7_add_56 (fun H locs hP hD hS => ?_)
    have hP : va_P D vwCl (wX7_add cI cJ cS a_o a_kinds a_others a_spaces a_times v_stretchCount (upd f_kinds v_stretchCount.toNatClampNeg x1) (upd f_others v_stretchCount.toNatClampNeg x3) (upd f_spaces v_stretchCount.toNatClampNeg x2) (upd f_times v_stretchCount.toNatClampNeg x4)) H := hP
    have hD : va_D A (wX7_add cI cJ cS a_o a_kinds a_others a_spaces a_times v_stretchCount (upd f_kinds v_stretchCount.toNatClampNeg x1) (upd f_others v_stretchCount.toNatClampNeg x3) (upd f_spaces v_stretchCount.toNatClampNeg x2) (upd f_times v_stretchCount.toNatClampNeg x4)) := hD
    refine lv_aload_n hx hb dX7_add_57 rfl (lv_at hl 0 rfl) ?_
    refine lv_dup hx hb dX7_add_58 rfl ?_
    refine gf S hE hP 0 rfl rfl inX7 (k := 4) (by decide) q42 rfl dX7_add_59 ?_
    refine lv_iconst (v := 1) hx hb dX7_add_62 (by decide) ?_
    refine lv_iadd hx hb dX7_add_63 ?_
    refine pf S hE hP hD hS 0 (k := 4) rfl rfl inX7 tyX7_ok nmX7 (by decide) q42 rfl rfl rfl (Nat.le_of_ble_eq_true rfl) dX7_add_64 (fun H locs hP hD hS => ?_)
    have hP : va_P D vwCl (wX7_add cI cJ cS a_o a_kinds a_others a_spaces a_times (v_stretchCount + 1) (upd f_kinds v_stretchCount.toNatClampNeg x1) (upd f_others v_stretchCount.toNatClampNeg x3) (upd f_spaces v_stretchCount.toNatClampNeg x2) (upd f_times v_stretchCount.toNatClampNeg x4)) H := hP
    have hD : va_D A (wX7_add cI cJ cS a_o a_kinds a_others a_spaces a_times (v_stretchCount + 1) (upd f_kinds v_stretchCount.toNatClampNeg x1) (upd f_others v_stretchCount.toNatClampNeg x3) (upd f_spaces v_stretchCount.toNatClampNeg x2) (upd f_times v_stretchCount.toNatClampNeg x4)) := hD
    refine lv_aload_n hx hb dX7_add_67 rfl (lv_at hl 0 rfl) ?_
    refine gf S hE hP 0 rfl rfl inX7 (k := 4) (by decide) q42 rfl dX7_add_68 ?_
    refine lv_iconst (v := 1) hx hb dX7_add_71 (by decide) ?_
    refine lv_isub hx hb dX7_add_72 ?_
    exact W.iret hx hb hr (fun t ht _ => ⟨⟨_, ((v_stretchCount + 1), (upd f_kinds v_stretchCount.toNatClampNeg x1), (upd f_others v_stretchCount.toNatClampNeg x3), (upd f_spaces v_stretchCount.toNatClampNeg x2), (upd f_times v_stretchCount.toNatClampNeg x4)), rfl, h, hPt hP ht⟩, hS.F ht⟩) hS.2.2 dX7_add_73
  have h := h.2 hc
  refine lv_iconst (v := (-1)) hx hb dX7_add_14 (by decide) ?_
  exact W.iret hx hb hr (fun t ht _ => ⟨⟨_, (v_stretchCount, f_kinds, f_others, f_spaces, f_times), rfl, h, hPt hP ht⟩, hS.F ht⟩) hS.2.2 dX7_add_15
/-! X4_readStretch -/
abbrev wX4_readStretch (cI cJ cS : ClassId) (a_o a_text a_text_elements a_told a_told_stretches a_told_stretches_kinds a_told_stretches_others a_told_stretches_spaces a_told_stretches_times : Nat) (z_told_cars z_told_tunes z_told_demands : Value) (v_at : Int32) (v_faultAt : Int32) (v_text_held : Int32) (v_text_sort : Int32) (v_text_elementCount : Int32) (v_text_stretchNumber : Int32) (g_text_elements : Nat → Int64) (v_told_drawSeed : Int32) (v_told_stretches_stretchCount : Int32) (f_told_stretches_kinds : Nat → Int32) (f_told_stretches_others : Nat → Int32) (f_told_stretches_spaces : Nat → Int32) (f_told_stretches_times : Nat → Int32) : va_W := [(a_o, .inr (3, [.ref a_text, .ref a_told, .int v_at, .int v_faultAt])), (a_text, .inr (5, [.ref a_text_elements, .int v_text_held, .int v_text_sort, .int v_text_elementCount, .int v_text_stretchNumber])), (a_text_elements, .inl (cJ, 160, .inr (.inl g_text_elements))), (a_told, .inr (4, [.ref a_told_stretches, z_told_cars, z_told_tunes, z_told_demands, .int v_told_drawSeed])), (a_told_stretches, .inr (6, [.ref a_told_stretches_kinds, .ref a_told_stretches_spaces, .ref a_told_stretches_others, .ref a_told_stretches_times, .int v_told_stretches_stretchCount])), (a_told_stretches_kinds, .inl (cI, 16, .inl f_told_stretches_kinds)), (a_told_stretches_others, .inl (cI, 16, .inl f_told_stretches_others)), (a_told_stretches_spaces, .inl (cI, 16, .inl f_told_stretches_spaces)), (a_told_stretches_times, .inl (cI, 16, .inl f_told_stretches_times))]
def F_X4_readStretch_31 (v_text_elementCount : Int32) (g_text_elements : Nat → Int64) (post : Int32 → Int32 → Int32 → Int32 → (Nat → Int32) → (Nat → Int32) → (Nat → Int32) → (Nat → Int32) → Prop) (t1 : Nat) (x2 : Int32) (v_at : Int32) (v_faultAt : Int32) (v_told_stretches_stretchCount : Int32) (f_told_stretches_kinds : Nat → Int32) (f_told_stretches_others : Nat → Int32) (f_told_stretches_spaces : Nat → Int32) (f_told_stretches_times : Nat → Int32) (s0 : Int32) : Prop := ((x2 = (-1) → post 0 v_at v_faultAt v_told_stretches_stretchCount f_told_stretches_kinds f_told_stretches_others f_told_stretches_spaces f_told_stretches_times) ∧ (¬ x2 = (-1) → ((s0 = (-1) → post 0 v_at v_faultAt v_told_stretches_stretchCount f_told_stretches_kinds f_told_stretches_others f_told_stretches_spaces f_told_stretches_times) ∧ (¬ s0 = (-1) → (F_X4_readNumber v_at v_faultAt v_text_elementCount g_text_elements 1 60 (fun r48 w48_0 w48_1 => ((r48 = (-1) → post 0 w48_0 w48_1 v_told_stretches_stretchCount f_told_stretches_kinds f_told_stretches_others f_told_stretches_spaces f_told_stretches_times) ∧ (¬ r48 = (-1) → (t1 < 13 ∧ (F_X7_add v_told_stretches_stretchCount f_told_stretches_kinds f_told_stretches_others f_told_stretches_spaces f_told_stretches_times (tbNumber.getD t1 0) x2 s0 r48 (fun r74 w74_0 w74_1 w74_2 w74_3 w74_4 => ((r74 = (-1) → post 0 w48_0 w48_1 w74_0 w74_1 w74_2 w74_3 w74_4) ∧ (¬ r74 = (-1) → post 1 w48_0 w48_1 w74_0 w74_1 w74_2 w74_3 w74_4)))))))))))))
def F_X4_readStretch_30 (v_text_elementCount : Int32) (g_text_elements : Nat → Int64) (post : Int32 → Int32 → Int32 → Int32 → (Nat → Int32) → (Nat → Int32) → (Nat → Int32) → (Nat → Int32) → Prop) (t1 : Nat) (x2 : Int32) (v_at : Int32) (v_faultAt : Int32) (v_told_stretches_stretchCount : Int32) (f_told_stretches_kinds : Nat → Int32) (f_told_stretches_others : Nat → Int32) (f_told_stretches_spaces : Nat → Int32) (f_told_stretches_times : Nat → Int32) : Prop := F_X4_readStretch_31 v_text_elementCount g_text_elements post t1 x2 v_at v_faultAt v_told_stretches_stretchCount f_told_stretches_kinds f_told_stretches_others f_told_stretches_spaces f_told_stretches_times 0
def F_X4_readStretch (v_at : Int32) (v_faultAt : Int32) (v_text_elementCount : Int32) (g_text_elements : Nat → Int64) (v_told_stretches_stretchCount : Int32) (f_told_stretches_kinds : Nat → Int32) (f_told_stretches_others : Nat → Int32) (f_told_stretches_spaces : Nat → Int32) (f_told_stretches_times : Nat → Int32) (t1 : Nat) (post : Int32 → Int32 → Int32 → Int32 → (Nat → Int32) → (Nat → Int32) → (Nat → Int32) → (Nat → Int32) → Prop) : Prop := (F_X4_readNumber v_at v_faultAt v_text_elementCount g_text_elements 1 60 (fun r4 w4_0 w4_1 => (t1 < 13 ∧ (F_X3_hasOther t1 (fun r9 => ((r9 = 0 → F_X4_readStretch_30 v_text_elementCount g_text_elements post t1 r4 w4_0 w4_1 v_told_stretches_stretchCount f_told_stretches_kinds f_told_stretches_others f_told_stretches_spaces f_told_stretches_times) ∧ (¬ r9 = 0 → ((r4 = (-1) → F_X4_readStretch_30 v_text_elementCount g_text_elements post t1 r4 w4_0 w4_1 v_told_stretches_stretchCount f_told_stretches_kinds f_told_stretches_others f_told_stretches_spaces f_told_stretches_times) ∧ (¬ r4 = (-1) → (F_X4_readNumber w4_0 w4_1 v_text_elementCount g_text_elements 0 60 (fun r24 w24_0 w24_1 => F_X4_readStretch_31 v_text_elementCount g_text_elements post t1 r4 w24_0 w24_1 v_told_stretches_stretchCount f_told_stretches_kinds f_told_stretches_others f_told_stretches_spaces f_told_stretches_times r24)))))))))))
set_option maxHeartbeats 4000000 in
set_option maxRecDepth 100000 in
theorem w_X4_readStretch_31 {l : Launch} {D : va_G} {cI cJ cS : ClassId} {ad adK : Nat → Nat} {a_o a_text a_text_elements a_told a_told_stretches a_told_stretches_kinds a_told_stretches_others a_told_stretches_spaces a_told_stretches_times : Nat} {z_told_cars z_told_tunes z_told_demands : Value} {v_at : Int32} {v_faultAt : Int32} {v_text_held : Int32} {v_text_sort : Int32} {v_text_elementCount : Int32} {v_text_stretchNumber : Int32} {g_text_elements : Nat → Int64} {v_told_drawSeed : Int32} {v_told_stretches_stretchCount : Int32} {f_told_stretches_kinds : Nat → Int32} {f_told_stretches_others : Nat → Int32} {f_told_stretches_spaces : Nat → Int32} {f_told_stretches_times : Nat → Int32} {t1 : Nat} {x2 : Int32} {s0 : Int32} {post : Int32 → Int32 → Int32 → Int32 → (Nat → Int32) → (Nat → Int32) → (Nat → Int32) → (Nat → Int32) → Prop} {p : Program} {e : Env} {s : State} {m : MethodId} {args : Array Value} {below : List Frame} {meth : Method} {c : Code} {A : Nat → Prop} (S : CallFix p m c cX4_readStretch 5 s args GW "RoadThatSings$Reader") (hE : EN D cI cJ cS s) (hT : ST ad adK A s s.heap) (hA : ∀ q : Nat, s.heap.size ≤ q → A q) (hr : meth.sig.returnType = (some (.boolean))) (hlocks : meth.locks = false) : ∀ (H : Heap) (locs : List Loc) (ls : Array Slot), F_X4_readStretch_31 v_text_elementCount g_text_elements post t1 x2 v_at v_faultAt v_told_stretches_stretchCount f_told_stretches_kinds f_told_stretches_others f_told_stretches_spaces f_told_stretches_times s0 → va_P D vwCl (wX4_readStretch cI cJ cS a_o a_text a_text_elements a_told a_told_stretches a_told_stretches_kinds a_told_stretches_others a_told_stretches_spaces a_told_stretches_times z_told_cars z_told_tunes z_told_demands v_at v_faultAt v_text_held v_text_sort v_text_elementCount v_text_stretchNumber g_text_elements v_told_drawSeed v_told_stretches_stretchCount f_told_stretches_kinds f_told_stretches_others f_told_stretches_spaces f_told_stretches_times) H → va_D A (wX4_readStretch cI cJ cS a_o a_text a_text_elements a_told a_told_stretches a_told_stretches_kinds a_told_stretches_others a_told_stretches_spaces a_told_stretches_times z_told_cars z_told_tunes z_told_demands v_at v_faultAt v_text_held v_text_sort v_text_elementCount v_text_stretchNumber g_text_elements v_told_drawSeed v_told_stretches_stretchCount f_told_stretches_kinds f_told_stretches_others f_told_stretches_spaces f_told_stretches_times) → va_S A s.heap H locs → lv_has ls 5 [(0, .ref a_o), (1, .ref (ad t1)), (2, .int x2)] → W p l e (rmd 3 0 0) s m args below meth c H locs 0 0 (MQ below (va_Qi (fun r (u : Int32 × Int32 × Int32 × (Nat → Int32) × (Nat → Int32) × (Nat → Int32) × (Nat → Int32)) => post r u.1 u.2.1 u.2.2.1 u.2.2.2.1 u.2.2.2.2.1 u.2.2.2.2.2.1 u.2.2.2.2.2.2) (fun u t => va_P D vwCl (wX4_readStretch cI cJ cS a_o a_text a_text_elements a_told a_told_stretches a_told_stretches_kinds a_told_stretches_others a_told_stretches_spaces a_told_stretches_times z_told_cars z_told_tunes z_told_demands u.1 u.2.1 v_text_held v_text_sort v_text_elementCount v_text_stretchNumber g_text_elements v_told_drawSeed u.2.2.1 u.2.2.2.1 u.2.2.2.2.1 u.2.2.2.2.2.1 u.2.2.2.2.2.2) t.heap) A) args s 0 0 A) (F0 m 31 ls [.int s0]) := by
  intro  H locs ls h hP hD hS hl
  unfold F_X4_readStretch_31 at h
  have hx := S.1
  have hb := S.2.1
  refine lv_istore_n (lv' := [(3, .int s0), (0, .ref a_o), (1, .ref (ad t1)), (2, .int x2)]) hx hb dX4_readStretch_31 rfl hl (by decide) rfl (fun ls hl => ?_)
  refine lv_iload_n hx hb dX4_readStretch_32 rfl (lv_at hl 3 rfl) ?_
  refine lv_iconst (v := (-1)) hx hb dX4_readStretch_33 (by decide) ?_
  refine lv_icmp_eq (tgt := 42) hx hb dX4_readStretch_34 (by decide) (fun hc => ?_) (fun hc => ?_)
  · have h := h.1 hc
    refine lv_iconst (v := 0) hx hb dX4_readStretch_42 (by decide) ?_
    exact W.zret hx hb hr rfl (fun t ht _ => ⟨⟨_, (v_at, v_faultAt, v_told_stretches_stretchCount, f_told_stretches_kinds, f_told_stretches_others, f_told_stretches_spaces, f_told_stretches_times), rfl, h, hPt hP ht⟩, hS.F ht⟩) hS.2.2 dX4_readStretch_43
  have h := h.2 hc
  refine lv_iload_n hx hb dX4_readStretch_37 rfl (lv_at hl 0 rfl) ?_
  refine lv_iconst (v := (-1)) hx hb dX4_readStretch_38 (by decide) ?_
  refine lv_icmp_ne (tgt := 44) hx hb dX4_readStretch_39 (by decide) (fun hc => ?_) (fun hc => ?_)
  · have h := h.2 hc
    refine lv_aload_n hx hb dX4_readStretch_44 rfl (lv_at hl 1 rfl) ?_
    refine lv_iconst (v := 1) hx hb dX4_readStretch_45 (by decide) ?_
    refine lv_bipush (v := 60) hx hb dX4_readStretch_46 (by decide) ?_
    refine rw_i (rwV S hE hT hS hP hD hA (c_X4_readNumber h) [0, 1, 2] rfl (by decide +kernel) lkX4_124 rfl ⟨(Nat.le_of_ble_eq_true rfl), (Nat.le_of_ble_eq_true rfl)⟩ 0 rfl rfl hl.1 rfl (Nat.le_of_ble_eq_true rfl) dX4_readStretch_48 ⟨(Nat.zero_le _), (Nat.zero_le _)⟩) hP hD hS hA [0, 1, 2] rfl (by decide +kernel) (fun _ => rfl) (fun r48 u48 H locs h hP hD hS => ?_)
    obtain ⟨w48_0, w48_1⟩ := u48
    try dsimp only at h
    have hP : va_P D vwCl (wX4_readStretch cI cJ cS a_o a_text a_text_elements a_told a_told_stretches a_told_stretches_kinds a_told_stretches_others a_told_stretches_spaces a_told_stretches_times z_told_cars z_told_tunes z_told_demands w48_0 w48_1 v_text_held v_text_sort v_text_elementCount v_text_stretchNumber g_text_elements v_told_drawSeed v_told_stretches_stretchCount f_told_stretches_kinds f_told_stretches_others f_told_stretches_spaces f_told_stretches_times) H := hP
    have hD : va_D A (wX4_readStretch cI cJ cS a_o a_text a_text_elements a_told a_told_stretches a_told_stretches_kinds a_told_stretches_others a_told_stretches_spaces a_told_stretches_times z_told_cars z_told_tunes z_told_demands w48_0 w48_1 v_text_held v_text_sort v_text_elementCount v_text_stretchNumber g_text_elements v_told_drawSeed v_told_stretches_stretchCount f_told_stretches_kinds f_told_stretches_others f_told_stretches_spaces f_told_stretches_times) := hD
    refine lv_istore (lv' := [(4, .int r48), (3, .int s0), (0, .ref a_o), (1, .ref (ad t1)), (2, .int x2)]) hx hb dX4_readStretch_51 hl (by decide) rfl (fun ls hl => ?_)
    refine lv_iload hx hb dX4_readStretch_53 (lv_at hl 0 rfl) ?_
    refine lv_iconst (v := (-1)) hx hb dX4_readStretch_55 (by decide) ?_
    refine lv_icmp_eq (tgt := 85) hx hb dX4_readStretch_56 (by decide) (fun hc => ?_) (fun hc => ?_)
    · have h := h.1 hc
      refine lv_iconst (v := 0) hx hb dX4_readStretch_85 (by decide) ?_
      exact W.zret hx hb hr rfl (fun t ht _ => ⟨⟨_, (w48_0, w48_1, v_told_stretches_stretchCount, f_told_stretches_kinds, f_told_stretches_others, f_told_stretches_spaces, f_told_stretches_times), rfl, h, hPt hP ht⟩, hS.F ht⟩) hS.2.2 dX4_readStretch_86
    have h := h.2 hc
    refine lv_aload_n hx hb dX4_readStretch_59 rfl (lv_at hl 2 rfl) ?_
    refine gf S hE hP 0 rfl rfl inX4 (k := 1) (by decide) q575 rfl dX4_readStretch_60 ?_
    refine gfN S hE hP 3 rfl rfl inX5 (k := 0) (by decide) nfX4_104 rfl dX4_readStretch_63 ?_
    refine lv_aload_n hx hb dX4_readStretch_66 rfl (lv_at hl 3 rfl) ?_
    obtain ⟨hi, h⟩ := h
    refine itfN S hE (hT.number hi) hS nfX4_77 dX4_readStretch_67 ?_
    refine lv_iload_n hx hb dX4_readStretch_70 rfl (lv_at hl 4 rfl) ?_
    refine lv_iload_n hx hb dX4_readStretch_71 rfl (lv_at hl 1 rfl) ?_
    refine lv_iload hx hb dX4_readStretch_72 (lv_at hl 0 rfl) ?_
    refine rw_i (rwV S hE hT hS hP hD hA (c_X7_add h) [4, 5, 6, 7, 8] rfl (by decide +kernel) lkX4_131 rfl ⟨(Nat.le_of_ble_eq_true rfl), (Nat.le_of_ble_eq_true rfl)⟩ 4 rfl rfl hl.1 rfl (Nat.le_of_ble_eq_true rfl) dX4_readStretch_74 ⟨(Nat.zero_le _), (Nat.zero_le _)⟩) hP hD hS hA [4, 5, 6, 7, 8] rfl (by decide +kernel) (fun _ => rfl) (fun r74 u74 H locs h hP hD hS => ?_)
    obtain ⟨w74_0, w74_1, w74_2, w74_3, w74_4⟩ := u74
    try dsimp only at h
    have hP : va_P D vwCl (wX4_readStretch cI cJ cS a_o a_text a_text_elements a_told a_told_stretches a_told_stretches_kinds a_told_stretches_others a_told_stretches_spaces a_told_stretches_times z_told_cars z_told_tunes z_told_demands w48_0 w48_1 v_text_held v_text_sort v_text_elementCount v_text_stretchNumber g_text_elements v_told_drawSeed w74_0 w74_1 w74_2 w74_3 w74_4) H := wsetP 9 [0, 1, 2, 3] hP rfl ⟨rfl, rfl, rfl, rfl, trivial⟩ rfl rfl (by decide +kernel) (by decide +kernel) (by decide +kernel)
    have hD : va_D A (wX4_readStretch cI cJ cS a_o a_text a_text_elements a_told a_told_stretches a_told_stretches_kinds a_told_stretches_others a_told_stretches_spaces a_told_stretches_times z_told_cars z_told_tunes z_told_demands w48_0 w48_1 v_text_held v_text_sort v_text_elementCount v_text_stretchNumber g_text_elements v_told_drawSeed w74_0 w74_1 w74_2 w74_3 w74_4) := wsetD 9 [0, 1, 2, 3] hD rfl ⟨rfl, rfl, rfl, rfl, trivial⟩ rfl rfl (by decide +kernel) (by decide +kernel) (by decide +kernel)
    refine lv_iconst (v := (-1)) hx hb dX4_readStretch_77 (by decide) ?_
    refine lv_icmp_eq (tgt := 85) hx hb dX4_readStretch_78 (by decide) (fun hc => ?_) (fun hc => ?_)
    · have h := h.1 hc
      refine lv_iconst (v := 0) hx hb dX4_readStretch_85 (by decide) ?_
      exact W.zret hx hb hr rfl (fun t ht _ => ⟨⟨_, (w48_0, w48_1, w74_0, w74_1, w74_2, w74_3, w74_4), rfl, h, hPt hP ht⟩, hS.F ht⟩) hS.2.2 dX4_readStretch_86
    have h := h.2 hc
    refine lv_iconst (v := 1) hx hb dX4_readStretch_81 (by decide) ?_
    refine lv_goto (tgt := 86) hx hb dX4_readStretch_82 (by decide) ?_
    exact W.zret hx hb hr rfl (fun t ht _ => ⟨⟨_, (w48_0, w48_1, w74_0, w74_1, w74_2, w74_3, w74_4), rfl, h, hPt hP ht⟩, hS.F ht⟩) hS.2.2 dX4_readStretch_86
  have h := h.1 hc
  refine lv_iconst (v := 0) hx hb dX4_readStretch_42 (by decide) ?_
  exact W.zret hx hb hr rfl (fun t ht _ => ⟨⟨_, (v_at, v_faultAt, v_told_stretches_stretchCount, f_told_stretches_kinds, f_told_stretches_others, f_told_stretches_spaces, f_told_stretches_times), rfl, h, hPt hP ht⟩, hS.F ht⟩) hS.2.2 dX4_readStretch_43
set_option maxHeartbeats 4000000 in
set_option maxRecDepth 100000 in
theorem w_X4_readStretch_30 {l : Launch} {D : va_G} {cI cJ cS : ClassId} {ad adK : Nat → Nat} {a_o a_text a_text_elements a_told a_told_stretches a_told_stretches_kinds a_told_stretches_others a_told_stretches_spaces a_told_stretches_times : Nat} {z_told_cars z_told_tunes z_told_demands : Value} {v_at : Int32} {v_faultAt : Int32} {v_text_held : Int32} {v_text_sort : Int32} {v_text_elementCount : Int32} {v_text_stretchNumber : Int32} {g_text_elements : Nat → Int64} {v_told_drawSeed : Int32} {v_told_stretches_stretchCount : Int32} {f_told_stretches_kinds : Nat → Int32} {f_told_stretches_others : Nat → Int32} {f_told_stretches_spaces : Nat → Int32} {f_told_stretches_times : Nat → Int32} {t1 : Nat} {x2 : Int32} {post : Int32 → Int32 → Int32 → Int32 → (Nat → Int32) → (Nat → Int32) → (Nat → Int32) → (Nat → Int32) → Prop} {p : Program} {e : Env} {s : State} {m : MethodId} {args : Array Value} {below : List Frame} {meth : Method} {c : Code} {A : Nat → Prop} (S : CallFix p m c cX4_readStretch 5 s args GW "RoadThatSings$Reader") (hE : EN D cI cJ cS s) (hT : ST ad adK A s s.heap) (hA : ∀ q : Nat, s.heap.size ≤ q → A q) (hr : meth.sig.returnType = (some (.boolean))) (hlocks : meth.locks = false) : ∀ (H : Heap) (locs : List Loc) (ls : Array Slot), F_X4_readStretch_30 v_text_elementCount g_text_elements post t1 x2 v_at v_faultAt v_told_stretches_stretchCount f_told_stretches_kinds f_told_stretches_others f_told_stretches_spaces f_told_stretches_times → va_P D vwCl (wX4_readStretch cI cJ cS a_o a_text a_text_elements a_told a_told_stretches a_told_stretches_kinds a_told_stretches_others a_told_stretches_spaces a_told_stretches_times z_told_cars z_told_tunes z_told_demands v_at v_faultAt v_text_held v_text_sort v_text_elementCount v_text_stretchNumber g_text_elements v_told_drawSeed v_told_stretches_stretchCount f_told_stretches_kinds f_told_stretches_others f_told_stretches_spaces f_told_stretches_times) H → va_D A (wX4_readStretch cI cJ cS a_o a_text a_text_elements a_told a_told_stretches a_told_stretches_kinds a_told_stretches_others a_told_stretches_spaces a_told_stretches_times z_told_cars z_told_tunes z_told_demands v_at v_faultAt v_text_held v_text_sort v_text_elementCount v_text_stretchNumber g_text_elements v_told_drawSeed v_told_stretches_stretchCount f_told_stretches_kinds f_told_stretches_others f_told_stretches_spaces f_told_stretches_times) → va_S A s.heap H locs → lv_has ls 5 [(0, .ref a_o), (1, .ref (ad t1)), (2, .int x2)] → W p l e (rmd 3 0 0) s m args below meth c H locs 0 0 (MQ below (va_Qi (fun r (u : Int32 × Int32 × Int32 × (Nat → Int32) × (Nat → Int32) × (Nat → Int32) × (Nat → Int32)) => post r u.1 u.2.1 u.2.2.1 u.2.2.2.1 u.2.2.2.2.1 u.2.2.2.2.2.1 u.2.2.2.2.2.2) (fun u t => va_P D vwCl (wX4_readStretch cI cJ cS a_o a_text a_text_elements a_told a_told_stretches a_told_stretches_kinds a_told_stretches_others a_told_stretches_spaces a_told_stretches_times z_told_cars z_told_tunes z_told_demands u.1 u.2.1 v_text_held v_text_sort v_text_elementCount v_text_stretchNumber g_text_elements v_told_drawSeed u.2.2.1 u.2.2.2.1 u.2.2.2.2.1 u.2.2.2.2.2.1 u.2.2.2.2.2.2) t.heap) A) args s 0 0 A) (F0 m 30 ls []) := by
  intro  H locs ls h hP hD hS hl
  unfold F_X4_readStretch_30 at h
  have hx := S.1
  have hb := S.2.1
  refine lv_iconst (v := 0) hx hb dX4_readStretch_30 (by decide) ?_
  refine w_X4_readStretch_31 S hE hT hA hr hlocks _ _ _ h hP hD hS (lv_sub hl [0, 1, 2] rfl)
set_option maxHeartbeats 4000000 in
set_option maxRecDepth 100000 in
theorem c_X4_readStretch {l : Launch} {D : va_G} {cI cJ cS : ClassId} {ad adK : Nat → Nat} {a_o a_text a_text_elements a_told a_told_stretches a_told_stretches_kinds a_told_stretches_others a_told_stretches_spaces a_told_stretches_times : Nat} {z_told_cars z_told_tunes z_told_demands : Value} {v_at : Int32} {v_faultAt : Int32} {v_text_held : Int32} {v_text_sort : Int32} {v_text_elementCount : Int32} {v_text_stretchNumber : Int32} {g_text_elements : Nat → Int64} {v_told_drawSeed : Int32} {v_told_stretches_stretchCount : Int32} {f_told_stretches_kinds : Nat → Int32} {f_told_stretches_others : Nat → Int32} {f_told_stretches_spaces : Nat → Int32} {f_told_stretches_times : Nat → Int32} {t1 : Nat} {post : Int32 → Int32 → Int32 → Int32 → (Nat → Int32) → (Nat → Int32) → (Nat → Int32) → (Nat → Int32) → Prop} (h : F_X4_readStretch v_at v_faultAt v_text_elementCount g_text_elements v_told_stretches_stretchCount f_told_stretches_kinds f_told_stretches_others f_told_stretches_spaces f_told_stretches_times t1 post) {sz : Nat} : Met l yX4_readStretch (Cond.code yX4_readStretch cX4_readStretch 5 (some (.boolean)) :: GW) (rmd 3 0 0) (PW D cI cJ cS ad adK [.ref a_o, .ref (ad t1)] (wX4_readStretch cI cJ cS a_o a_text a_text_elements a_told a_told_stretches a_told_stretches_kinds a_told_stretches_others a_told_stretches_spaces a_told_stretches_times z_told_cars z_told_tunes z_told_demands v_at v_faultAt v_text_held v_text_sort v_text_elementCount v_text_stretchNumber g_text_elements v_told_drawSeed v_told_stretches_stretchCount f_told_stretches_kinds f_told_stretches_others f_told_stretches_spaces f_told_stretches_times) sz) (va_Qi (fun r (u : Int32 × Int32 × Int32 × (Nat → Int32) × (Nat → Int32) × (Nat → Int32) × (Nat → Int32)) => post r u.1 u.2.1 u.2.2.1 u.2.2.2.1 u.2.2.2.2.1 u.2.2.2.2.2.1 u.2.2.2.2.2.2) (fun u t => va_P D vwCl (wX4_readStretch cI cJ cS a_o a_text a_text_elements a_told a_told_stretches a_told_stretches_kinds a_told_stretches_others a_told_stretches_spaces a_told_stretches_times z_told_cars z_told_tunes z_told_demands u.1 u.2.1 v_text_held v_text_sort v_text_elementCount v_text_stretchNumber g_text_elements v_told_drawSeed u.2.2.1 u.2.2.2.1 u.2.2.2.2.1 u.2.2.2.2.2.1 u.2.2.2.2.2.2) t.heap) (va_A (wX4_readStretch cI cJ cS a_o a_text a_text_elements a_told a_told_stretches a_told_stretches_kinds a_told_stretches_others a_told_stretches_spaces a_told_stretches_times z_told_cars z_told_tunes z_told_demands v_at v_faultAt v_text_held v_text_sort v_text_elementCount v_text_stretchNumber g_text_elements v_told_drawSeed v_told_stretches_stretchCount f_told_stretches_kinds f_told_stretches_others f_told_stretches_spaces f_told_stretches_times) sz)) 0 0 (va_A (wX4_readStretch cI cJ cS a_o a_text a_text_elements a_told a_told_stretches a_told_stretches_kinds a_told_stretches_others a_told_stretches_spaces a_told_stretches_times z_told_cars z_told_tunes z_told_demands v_at v_faultAt v_text_held v_text_sort v_text_elementCount v_text_stretchNumber g_text_elements v_told_drawSeed v_told_stretches_stretchCount f_told_stretches_kinds f_told_stretches_others f_told_stretches_spaces f_told_stretches_times) sz) := by
  refine Met.rw (Qc := fun A => (va_Qi (fun r (u : Int32 × Int32 × Int32 × (Nat → Int32) × (Nat → Int32) × (Nat → Int32) × (Nat → Int32)) => post r u.1 u.2.1 u.2.2.1 u.2.2.2.1 u.2.2.2.2.1 u.2.2.2.2.2.1 u.2.2.2.2.2.2) (fun u t => va_P D vwCl (wX4_readStretch cI cJ cS a_o a_text a_text_elements a_told a_told_stretches a_told_stretches_kinds a_told_stretches_others a_told_stretches_spaces a_told_stretches_times z_told_cars z_told_tunes z_told_demands u.1 u.2.1 v_text_held v_text_sort v_text_elementCount v_text_stretchNumber g_text_elements v_told_drawSeed u.2.2.1 u.2.2.2.1 u.2.2.2.2.1 u.2.2.2.2.2.1 u.2.2.2.2.2.2) t.heap) A)) (by decide) (Nat.le_of_ble_eq_true rfl) (fun p e s m args below meth c ls A (S : CallFix p m c cX4_readStretch 5 s args GW "RoadThatSings$Reader") hE hT hP hD hA hS hr hlocks hname hl => ?_)
  have hS0 := hS
  have hx := S.1
  have hb := S.2.1
  have hl : lv_has ls 5 [(0, .ref a_o), (1, .ref (ad t1))] := hl
  unfold F_X4_readStretch at h
  refine lv_aload_n hx hb dX4_readStretch_0 rfl (lv_at hl 0 rfl) ?_
  refine lv_iconst (v := 1) hx hb dX4_readStretch_1 (by decide) ?_
  refine lv_bipush (v := 60) hx hb dX4_readStretch_2 (by decide) ?_
  refine rw_i (rwV S hE hT hS hP hD hA (c_X4_readNumber h) [0, 1, 2] rfl (by decide +kernel) lkX4_124 rfl ⟨(Nat.le_of_ble_eq_true rfl), (Nat.le_of_ble_eq_true rfl)⟩ 0 rfl rfl hl.1 rfl (Nat.le_of_ble_eq_true rfl) dX4_readStretch_4 ⟨(Nat.zero_le _), (Nat.zero_le _)⟩) hP hD hS hA [0, 1, 2] rfl (by decide +kernel) (fun _ => rfl) (fun r4 u4 H locs h hP hD hS => ?_)
  obtain ⟨w4_0, w4_1⟩ := u4
  try dsimp only at h
  have hP : va_P D vwCl (wX4_readStretch cI cJ cS a_o a_text a_text_elements a_told a_told_stretches a_told_stretches_kinds a_told_stretches_others a_told_stretches_spaces a_told_stretches_times z_told_cars z_told_tunes z_told_demands w4_0 w4_1 v_text_held v_text_sort v_text_elementCount v_text_stretchNumber g_text_elements v_told_drawSeed v_told_stretches_stretchCount f_told_stretches_kinds f_told_stretches_others f_told_stretches_spaces f_told_stretches_times) H := hP
  have hD : va_D A (wX4_readStretch cI cJ cS a_o a_text a_text_elements a_told a_told_stretches a_told_stretches_kinds a_told_stretches_others a_told_stretches_spaces a_told_stretches_times z_told_cars z_told_tunes z_told_demands w4_0 w4_1 v_text_held v_text_sort v_text_elementCount v_text_stretchNumber g_text_elements v_told_drawSeed v_told_stretches_stretchCount f_told_stretches_kinds f_told_stretches_others f_told_stretches_spaces f_told_stretches_times) := hD
  refine lv_istore_n (lv' := [(2, .int r4), (0, .ref a_o), (1, .ref (ad t1))]) hx hb dX4_readStretch_7 rfl hl (by decide) rfl (fun ls hl => ?_)
  refine lv_aload_n hx hb dX4_readStretch_8 rfl (lv_at hl 2 rfl) ?_
  obtain ⟨hi, h⟩ := h
  refine ro_i (roVU S hE hT hS (c_X3_hasOther h) (by decide) (Nat.le_of_ble_eq_true rfl) q680 q681 q682 q683 (by decide +kernel) (by decide +kernel) rfl ⟨(Nat.le_of_ble_eq_true rfl), (Nat.le_of_ble_eq_true rfl)⟩ (hP.sub [] rfl) (hT.irecv hS hi) hl.1 rfl (Nat.le_of_ble_eq_true rfl) dX4_readStretch_9 ⟨(Nat.zero_le _), (Nat.zero_le _)⟩) (fun r9 h => ?_)
  refine lv_if_eq (tgt := 30) hx hb dX4_readStretch_12 (by decide) (fun hc => ?_) (fun hc => ?_)
  · have h := h.1 hc
    refine w_X4_readStretch_30 S hE hT hA hr hlocks _ _ _ h hP hD hS (lv_sub hl [1, 2, 0] rfl)
  have h := h.2 hc
  refine lv_iload_n hx hb dX4_readStretch_15 rfl (lv_at hl 0 rfl) ?_
  refine lv_iconst (v := (-1)) hx hb dX4_readStretch_16 (by decide) ?_
  refine lv_icmp_eq (tgt := 30) hx hb dX4_readStretch_17 (by decide) (fun hc => ?_) (fun hc => ?_)
  · have h := h.1 hc
    refine w_X4_readStretch_30 S hE hT hA hr hlocks _ _ _ h hP hD hS (lv_sub hl [1, 2, 0] rfl)
  have h := h.2 hc
  refine lv_aload_n hx hb dX4_readStretch_20 rfl (lv_at hl 1 rfl) ?_
  refine lv_iconst (v := 0) hx hb dX4_readStretch_21 (by decide) ?_
  refine lv_bipush (v := 60) hx hb dX4_readStretch_22 (by decide) ?_
  refine rw_i (rwV S hE hT hS hP hD hA (c_X4_readNumber h) [0, 1, 2] rfl (by decide +kernel) lkX4_124 rfl ⟨(Nat.le_of_ble_eq_true rfl), (Nat.le_of_ble_eq_true rfl)⟩ 0 rfl rfl hl.1 rfl (Nat.le_of_ble_eq_true rfl) dX4_readStretch_24 ⟨(Nat.zero_le _), (Nat.zero_le _)⟩) hP hD hS hA [0, 1, 2] rfl (by decide +kernel) (fun _ => rfl) (fun r24 u24 H locs h hP hD hS => ?_)
  obtain ⟨w24_0, w24_1⟩ := u24
  try dsimp only at h
  have hP : va_P D vwCl (wX4_readStretch cI cJ cS a_o a_text a_text_elements a_told a_told_stretches a_told_stretches_kinds a_told_stretches_others a_told_stretches_spaces a_told_stretches_times z_told_cars z_told_tunes z_told_demands w24_0 w24_1 v_text_held v_text_sort v_text_elementCount v_text_stretchNumber g_text_elements v_told_drawSeed v_told_stretches_stretchCount f_told_stretches_kinds f_told_stretches_others f_told_stretches_spaces f_told_stretches_times) H := hP
  have hD : va_D A (wX4_readStretch cI cJ cS a_o a_text a_text_elements a_told a_told_stretches a_told_stretches_kinds a_told_stretches_others a_told_stretches_spaces a_told_stretches_times z_told_cars z_told_tunes z_told_demands w24_0 w24_1 v_text_held v_text_sort v_text_elementCount v_text_stretchNumber g_text_elements v_told_drawSeed v_told_stretches_stretchCount f_told_stretches_kinds f_told_stretches_others f_told_stretches_spaces f_told_stretches_times) := hD
  refine lv_goto (tgt := 31) hx hb dX4_readStretch_27 (by decide) ?_
  refine w_X4_readStretch_31 S hE hT hA hr hlocks _ _ _ h hP hD hS (lv_sub hl [1, 2, 0] rfl)
/-! X4_readCar -/
abbrev wX4_readCar (cI cJ cS : ClassId) (a_o a_text a_text_elements a_told a_told_cars a_told_cars_bases a_told_cars_shares a_told_cars_speeds : Nat) (z_told_stretches z_told_tunes z_told_demands : Value) (v_at : Int32) (v_faultAt : Int32) (v_text_held : Int32) (v_text_sort : Int32) (v_text_elementCount : Int32) (v_text_stretchNumber : Int32) (g_text_elements : Nat → Int64) (v_told_drawSeed : Int32) (v_told_cars_carCount : Int32) (f_told_cars_bases : Nat → Int32) (f_told_cars_shares : Nat → Int32) (f_told_cars_speeds : Nat → Int32) : va_W := [(a_o, .inr (3, [.ref a_text, .ref a_told, .int v_at, .int v_faultAt])), (a_text, .inr (5, [.ref a_text_elements, .int v_text_held, .int v_text_sort, .int v_text_elementCount, .int v_text_stretchNumber])), (a_text_elements, .inl (cJ, 160, .inr (.inl g_text_elements))), (a_told, .inr (4, [z_told_stretches, .ref a_told_cars, z_told_tunes, z_told_demands, .int v_told_drawSeed])), (a_told_cars, .inr (1, [.ref a_told_cars_speeds, .ref a_told_cars_bases, .ref a_told_cars_shares, .int v_told_cars_carCount])), (a_told_cars_bases, .inl (cI, 6, .inl f_told_cars_bases)), (a_told_cars_shares, .inl (cI, 6, .inl f_told_cars_shares)), (a_told_cars_speeds, .inl (cI, 6, .inl f_told_cars_speeds))]
def F_X4_readCar_55 (post : Int32 → Int32 → Int32 → Int32 → (Nat → Int32) → (Nat → Int32) → (Nat → Int32) → Prop) (x1 : Int32) (x2 : Int32) (v_at : Int32) (v_faultAt : Int32) (v_told_cars_carCount : Int32) (f_told_cars_bases : Nat → Int32) (f_told_cars_shares : Nat → Int32) (f_told_cars_speeds : Nat → Int32) (s0 : Int32) : Prop := ((s0 = (-1) → post 0 v_at v_faultAt v_told_cars_carCount f_told_cars_bases f_told_cars_shares f_told_cars_speeds) ∧ (¬ s0 = (-1) → (F_X1_add v_told_cars_carCount f_told_cars_bases f_told_cars_shares f_told_cars_speeds x1 x2 s0 (fun r74 w74_0 w74_1 w74_2 w74_3 => ((r74 = (-1) → post 0 v_at v_faultAt w74_0 w74_1 w74_2 w74_3) ∧ (¬ r74 = (-1) → post 1 v_at v_faultAt w74_0 w74_1 w74_2 w74_3))))))
def F_X4_readCar_25 (v_text_elementCount : Int32) (g_text_elements : Nat → Int64) (post : Int32 → Int32 → Int32 → Int32 → (Nat → Int32) → (Nat → Int32) → (Nat → Int32) → Prop) (x1 : Int32) (v_at : Int32) (v_faultAt : Int32) (v_told_cars_carCount : Int32) (f_told_cars_bases : Nat → Int32) (f_told_cars_shares : Nat → Int32) (f_told_cars_speeds : Nat → Int32) (s0 : Int32) : Prop := (F_X1_shareOfAll v_told_cars_carCount f_told_cars_shares (fun r35 => (∀ x3_39 : Int32, x3_39 = 100 - r35 → ((s0 = (-1) → F_X4_readCar_55 post x1 s0 v_at v_faultAt v_told_cars_carCount f_told_cars_bases f_told_cars_shares f_told_cars_speeds (-1)) ∧ (¬ s0 = (-1) → (F_X4_readNumber v_at v_faultAt v_text_elementCount g_text_elements 0 x3_39 (fun r52 w52_0 w52_1 => F_X4_readCar_55 post x1 s0 w52_0 w52_1 v_told_cars_carCount f_told_cars_bases f_told_cars_shares f_told_cars_speeds r52)))))))
def F_X4_readCar (v_at : Int32) (v_faultAt : Int32) (v_text_elementCount : Int32) (g_text_elements : Nat → Int64) (v_told_cars_carCount : Int32) (f_told_cars_bases : Nat → Int32) (f_told_cars_shares : Nat → Int32) (f_told_cars_speeds : Nat → Int32) (post : Int32 → Int32 → Int32 → Int32 → (Nat → Int32) → (Nat → Int32) → (Nat → Int32) → Prop) : Prop := (F_X4_readNumber v_at v_faultAt v_text_elementCount g_text_elements 1 99 (fun r4 w4_0 w4_1 => ((r4 = (-1) → F_X4_readCar_25 v_text_elementCount g_text_elements post r4 w4_0 w4_1 v_told_cars_carCount f_told_cars_bases f_told_cars_shares f_told_cars_speeds (-1)) ∧ (¬ r4 = (-1) → (F_X4_readNumber w4_0 w4_1 v_text_elementCount g_text_elements 0 999 (fun r22 w22_0 w22_1 => F_X4_readCar_25 v_text_elementCount g_text_elements post r4 w22_0 w22_1 v_told_cars_carCount f_told_cars_bases f_told_cars_shares f_told_cars_speeds r22))))))
set_option maxHeartbeats 4000000 in
set_option maxRecDepth 100000 in
theorem w_X4_readCar_55 {l : Launch} {D : va_G} {cI cJ cS : ClassId} {ad adK : Nat → Nat} {a_o a_text a_text_elements a_told a_told_cars a_told_cars_bases a_told_cars_shares a_told_cars_speeds : Nat} {z_told_stretches z_told_tunes z_told_demands : Value} {v_at : Int32} {v_faultAt : Int32} {v_text_held : Int32} {v_text_sort : Int32} {v_text_elementCount : Int32} {v_text_stretchNumber : Int32} {g_text_elements : Nat → Int64} {v_told_drawSeed : Int32} {v_told_cars_carCount : Int32} {f_told_cars_bases : Nat → Int32} {f_told_cars_shares : Nat → Int32} {f_told_cars_speeds : Nat → Int32} {x1 : Int32} {x2 : Int32} {s0 : Int32} {post : Int32 → Int32 → Int32 → Int32 → (Nat → Int32) → (Nat → Int32) → (Nat → Int32) → Prop} {p : Program} {e : Env} {s : State} {m : MethodId} {args : Array Value} {below : List Frame} {meth : Method} {c : Code} {A : Nat → Prop} (S : CallFix p m c cX4_readCar 5 s args GW "RoadThatSings$Reader") (hE : EN D cI cJ cS s) (hT : ST ad adK A s s.heap) (hA : ∀ q : Nat, s.heap.size ≤ q → A q) (hr : meth.sig.returnType = (some (.boolean))) (hlocks : meth.locks = false) : ∀ (H : Heap) (locs : List Loc) (ls : Array Slot), F_X4_readCar_55 post x1 x2 v_at v_faultAt v_told_cars_carCount f_told_cars_bases f_told_cars_shares f_told_cars_speeds s0 → va_P D vwCl (wX4_readCar cI cJ cS a_o a_text a_text_elements a_told a_told_cars a_told_cars_bases a_told_cars_shares a_told_cars_speeds z_told_stretches z_told_tunes z_told_demands v_at v_faultAt v_text_held v_text_sort v_text_elementCount v_text_stretchNumber g_text_elements v_told_drawSeed v_told_cars_carCount f_told_cars_bases f_told_cars_shares f_told_cars_speeds) H → va_D A (wX4_readCar cI cJ cS a_o a_text a_text_elements a_told a_told_cars a_told_cars_bases a_told_cars_shares a_told_cars_speeds z_told_stretches z_told_tunes z_told_demands v_at v_faultAt v_text_held v_text_sort v_text_elementCount v_text_stretchNumber g_text_elements v_told_drawSeed v_told_cars_carCount f_told_cars_bases f_told_cars_shares f_told_cars_speeds) → va_S A s.heap H locs → lv_has ls 5 [(0, .ref a_o), (1, .int x1), (2, .int x2)] → W p l e (rmd 3 0 0) s m args below meth c H locs 0 0 (MQ below (va_Qi (fun r (u : Int32 × Int32 × Int32 × (Nat → Int32) × (Nat → Int32) × (Nat → Int32)) => post r u.1 u.2.1 u.2.2.1 u.2.2.2.1 u.2.2.2.2.1 u.2.2.2.2.2) (fun u t => va_P D vwCl (wX4_readCar cI cJ cS a_o a_text a_text_elements a_told a_told_cars a_told_cars_bases a_told_cars_shares a_told_cars_speeds z_told_stretches z_told_tunes z_told_demands u.1 u.2.1 v_text_held v_text_sort v_text_elementCount v_text_stretchNumber g_text_elements v_told_drawSeed u.2.2.1 u.2.2.2.1 u.2.2.2.2.1 u.2.2.2.2.2) t.heap) A) args s 0 0 A) (F0 m 55 ls [.int s0]) := by
  intro  H locs ls h hP hD hS hl
  unfold F_X4_readCar_55 at h
  have hx := S.1
  have hb := S.2.1
  refine lv_istore (lv' := [(4, .int s0), (0, .ref a_o), (1, .int x1), (2, .int x2)]) hx hb dX4_readCar_55 hl (by decide) rfl (fun ls hl => ?_)
  refine lv_iload hx hb dX4_readCar_57 (lv_at hl 0 rfl) ?_
  refine lv_iconst (v := (-1)) hx hb dX4_readCar_59 (by decide) ?_
  refine lv_icmp_eq (tgt := 85) hx hb dX4_readCar_60 (by decide) (fun hc => ?_) (fun hc => ?_)
  · have h := h.1 hc
    refine lv_iconst (v := 0) hx hb dX4_readCar_85 (by decide) ?_
    exact W.zret hx hb hr rfl (fun t ht _ => ⟨⟨_, (v_at, v_faultAt, v_told_cars_carCount, f_told_cars_bases, f_told_cars_shares, f_told_cars_speeds), rfl, h, hPt hP ht⟩, hS.F ht⟩) hS.2.2 dX4_readCar_86
  have h := h.2 hc
  refine lv_aload_n hx hb dX4_readCar_63 rfl (lv_at hl 1 rfl) ?_
  refine gf S hE hP 0 rfl rfl inX4 (k := 1) (by decide) q575 rfl dX4_readCar_64 ?_
  refine gfN S hE hP 3 rfl rfl inX5 (k := 1) (by decide) nfX4_113 rfl dX4_readCar_67 ?_
  refine lv_iload_n hx hb dX4_readCar_70 rfl (lv_at hl 2 rfl) ?_
  refine lv_iload_n hx hb dX4_readCar_71 rfl (lv_at hl 3 rfl) ?_
  refine lv_iload hx hb dX4_readCar_72 (lv_at hl 0 rfl) ?_
  refine rw_i (rwV S hE hT hS hP hD hA (c_X1_add h) [4, 5, 6, 7] rfl (by decide +kernel) lkX4_138 rfl ⟨(Nat.le_of_ble_eq_true rfl), (Nat.le_of_ble_eq_true rfl)⟩ 4 rfl rfl hl.1 rfl (Nat.le_of_ble_eq_true rfl) dX4_readCar_74 ⟨(Nat.zero_le _), (Nat.zero_le _)⟩) hP hD hS hA [4, 5, 6, 7] rfl (by decide +kernel) (fun _ => rfl) (fun r74 u74 H locs h hP hD hS => ?_)
  obtain ⟨w74_0, w74_1, w74_2, w74_3⟩ := u74
  try dsimp only at h
  have hP : va_P D vwCl (wX4_readCar cI cJ cS a_o a_text a_text_elements a_told a_told_cars a_told_cars_bases a_told_cars_shares a_told_cars_speeds z_told_stretches z_told_tunes z_told_demands v_at v_faultAt v_text_held v_text_sort v_text_elementCount v_text_stretchNumber g_text_elements v_told_drawSeed w74_0 w74_1 w74_2 w74_3) H := hP
  have hD : va_D A (wX4_readCar cI cJ cS a_o a_text a_text_elements a_told a_told_cars a_told_cars_bases a_told_cars_shares a_told_cars_speeds z_told_stretches z_told_tunes z_told_demands v_at v_faultAt v_text_held v_text_sort v_text_elementCount v_text_stretchNumber g_text_elements v_told_drawSeed w74_0 w74_1 w74_2 w74_3) := hD
  refine lv_iconst (v := (-1)) hx hb dX4_readCar_77 (by decide) ?_
  refine lv_icmp_eq (tgt := 85) hx hb dX4_readCar_78 (by decide) (fun hc => ?_) (fun hc => ?_)
  · have h := h.1 hc
    refine lv_iconst (v := 0) hx hb dX4_readCar_85 (by decide) ?_
    exact W.zret hx hb hr rfl (fun t ht _ => ⟨⟨_, (v_at, v_faultAt, w74_0, w74_1, w74_2, w74_3), rfl, h, hPt hP ht⟩, hS.F ht⟩) hS.2.2 dX4_readCar_86
  have h := h.2 hc
  refine lv_iconst (v := 1) hx hb dX4_readCar_81 (by decide) ?_
  refine lv_goto (tgt := 86) hx hb dX4_readCar_82 (by decide) ?_
  exact W.zret hx hb hr rfl (fun t ht _ => ⟨⟨_, (v_at, v_faultAt, w74_0, w74_1, w74_2, w74_3), rfl, h, hPt hP ht⟩, hS.F ht⟩) hS.2.2 dX4_readCar_86
set_option maxHeartbeats 4000000 in
set_option maxRecDepth 100000 in
theorem w_X4_readCar_25 {l : Launch} {D : va_G} {cI cJ cS : ClassId} {ad adK : Nat → Nat} {a_o a_text a_text_elements a_told a_told_cars a_told_cars_bases a_told_cars_shares a_told_cars_speeds : Nat} {z_told_stretches z_told_tunes z_told_demands : Value} {v_at : Int32} {v_faultAt : Int32} {v_text_held : Int32} {v_text_sort : Int32} {v_text_elementCount : Int32} {v_text_stretchNumber : Int32} {g_text_elements : Nat → Int64} {v_told_drawSeed : Int32} {v_told_cars_carCount : Int32} {f_told_cars_bases : Nat → Int32} {f_told_cars_shares : Nat → Int32} {f_told_cars_speeds : Nat → Int32} {x1 : Int32} {s0 : Int32} {post : Int32 → Int32 → Int32 → Int32 → (Nat → Int32) → (Nat → Int32) → (Nat → Int32) → Prop} {p : Program} {e : Env} {s : State} {m : MethodId} {args : Array Value} {below : List Frame} {meth : Method} {c : Code} {A : Nat → Prop} (S : CallFix p m c cX4_readCar 5 s args GW "RoadThatSings$Reader") (hE : EN D cI cJ cS s) (hT : ST ad adK A s s.heap) (hA : ∀ q : Nat, s.heap.size ≤ q → A q) (hr : meth.sig.returnType = (some (.boolean))) (hlocks : meth.locks = false) : ∀ (H : Heap) (locs : List Loc) (ls : Array Slot), F_X4_readCar_25 v_text_elementCount g_text_elements post x1 v_at v_faultAt v_told_cars_carCount f_told_cars_bases f_told_cars_shares f_told_cars_speeds s0 → va_P D vwCl (wX4_readCar cI cJ cS a_o a_text a_text_elements a_told a_told_cars a_told_cars_bases a_told_cars_shares a_told_cars_speeds z_told_stretches z_told_tunes z_told_demands v_at v_faultAt v_text_held v_text_sort v_text_elementCount v_text_stretchNumber g_text_elements v_told_drawSeed v_told_cars_carCount f_told_cars_bases f_told_cars_shares f_told_cars_speeds) H → va_D A (wX4_readCar cI cJ cS a_o a_text a_text_elements a_told a_told_cars a_told_cars_bases a_told_cars_shares a_told_cars_speeds z_told_stretches z_told_tunes z_told_demands v_at v_faultAt v_text_held v_text_sort v_text_elementCount v_text_stretchNumber g_text_elements v_told_drawSeed v_told_cars_carCount f_told_cars_bases f_told_cars_shares f_told_cars_speeds) → va_S A s.heap H locs → lv_has ls 5 [(0, .ref a_o), (1, .int x1)] → W p l e (rmd 3 0 0) s m args below meth c H locs 0 0 (MQ below (va_Qi (fun r (u : Int32 × Int32 × Int32 × (Nat → Int32) × (Nat → Int32) × (Nat → Int32)) => post r u.1 u.2.1 u.2.2.1 u.2.2.2.1 u.2.2.2.2.1 u.2.2.2.2.2) (fun u t => va_P D vwCl (wX4_readCar cI cJ cS a_o a_text a_text_elements a_told a_told_cars a_told_cars_bases a_told_cars_shares a_told_cars_speeds z_told_stretches z_told_tunes z_told_demands u.1 u.2.1 v_text_held v_text_sort v_text_elementCount v_text_stretchNumber g_text_elements v_told_drawSeed u.2.2.1 u.2.2.2.1 u.2.2.2.2.1 u.2.2.2.2.2) t.heap) A) args s 0 0 A) (F0 m 25 ls [.int s0]) := by
  intro  H locs ls h hP hD hS hl
  unfold F_X4_readCar_25 at h
  have hx := S.1
  have hb := S.2.1
  refine lv_istore_n (lv' := [(2, .int s0), (0, .ref a_o), (1, .int x1)]) hx hb dX4_readCar_25 rfl hl (by decide) rfl (fun ls hl => ?_)
  refine lv_bipush (v := 100) hx hb dX4_readCar_26 (by decide) ?_
  refine lv_aload_n hx hb dX4_readCar_28 rfl (lv_at hl 1 rfl) ?_
  refine gf S hE hP 0 rfl rfl inX4 (k := 1) (by decide) q575 rfl dX4_readCar_29 ?_
  refine gfN S hE hP 3 rfl rfl inX5 (k := 1) (by decide) nfX4_113 rfl dX4_readCar_32 ?_
  refine ro_i (roV S hE hT hS (c_X1_shareOfAll h) lkX4_135 rfl ⟨(Nat.le_of_ble_eq_true rfl), (Nat.le_of_ble_eq_true rfl)⟩ (hP.sub [4, 6] rfl) 0 rfl rfl hl.1 rfl (Nat.le_of_ble_eq_true rfl) dX4_readCar_35 ⟨(Nat.zero_le _), (Nat.zero_le _)⟩) (fun r35 h => ?_)
  refine lv_isub hx hb dX4_readCar_38 ?_
  refine lv_topi (fun x3_39 ex3_39 => ?_)
  have h := h _ ex3_39
  refine lv_istore_n (lv' := [(3, .int x3_39), (2, .int s0), (0, .ref a_o), (1, .int x1)]) hx hb dX4_readCar_39 rfl hl (by decide) rfl (fun ls hl => ?_)
  refine lv_iload_n hx hb dX4_readCar_40 rfl (lv_at hl 1 rfl) ?_
  refine lv_iconst (v := (-1)) hx hb dX4_readCar_41 (by decide) ?_
  refine lv_icmp_ne (tgt := 49) hx hb dX4_readCar_42 (by decide) (fun hc => ?_) (fun hc => ?_)
  · have h := h.2 hc
    refine lv_aload_n hx hb dX4_readCar_49 rfl (lv_at hl 2 rfl) ?_
    refine lv_iconst (v := 0) hx hb dX4_readCar_50 (by decide) ?_
    refine lv_iload_n hx hb dX4_readCar_51 rfl (lv_at hl 0 rfl) ?_
    refine rw_i (rwV S hE hT hS hP hD hA (c_X4_readNumber h) [0, 1, 2] rfl (by decide +kernel) lkX4_124 rfl ⟨(Nat.le_of_ble_eq_true rfl), (Nat.le_of_ble_eq_true rfl)⟩ 0 rfl rfl hl.1 rfl (Nat.le_of_ble_eq_true rfl) dX4_readCar_52 ⟨(Nat.zero_le _), (Nat.zero_le _)⟩) hP hD hS hA [0, 1, 2] rfl (by decide +kernel) (fun _ => rfl) (fun r52 u52 H locs h hP hD hS => ?_)
    obtain ⟨w52_0, w52_1⟩ := u52
    try dsimp only at h
    have hP : va_P D vwCl (wX4_readCar cI cJ cS a_o a_text a_text_elements a_told a_told_cars a_told_cars_bases a_told_cars_shares a_told_cars_speeds z_told_stretches z_told_tunes z_told_demands w52_0 w52_1 v_text_held v_text_sort v_text_elementCount v_text_stretchNumber g_text_elements v_told_drawSeed v_told_cars_carCount f_told_cars_bases f_told_cars_shares f_told_cars_speeds) H := hP
    have hD : va_D A (wX4_readCar cI cJ cS a_o a_text a_text_elements a_told a_told_cars a_told_cars_bases a_told_cars_shares a_told_cars_speeds z_told_stretches z_told_tunes z_told_demands w52_0 w52_1 v_text_held v_text_sort v_text_elementCount v_text_stretchNumber g_text_elements v_told_drawSeed v_told_cars_carCount f_told_cars_bases f_told_cars_shares f_told_cars_speeds) := hD
    refine w_X4_readCar_55 S hE hT hA hr hlocks _ _ _ h hP hD hS (lv_sub hl [2, 3, 1] rfl)
  have h := h.1 hc
  refine lv_iconst (v := (-1)) hx hb dX4_readCar_45 (by decide) ?_
  refine lv_goto (tgt := 55) hx hb dX4_readCar_46 (by decide) ?_
  refine w_X4_readCar_55 S hE hT hA hr hlocks _ _ _ h hP hD hS (lv_sub hl [2, 3, 1] rfl)
set_option maxHeartbeats 4000000 in
set_option maxRecDepth 100000 in
theorem c_X4_readCar {l : Launch} {D : va_G} {cI cJ cS : ClassId} {ad adK : Nat → Nat} {a_o a_text a_text_elements a_told a_told_cars a_told_cars_bases a_told_cars_shares a_told_cars_speeds : Nat} {z_told_stretches z_told_tunes z_told_demands : Value} {v_at : Int32} {v_faultAt : Int32} {v_text_held : Int32} {v_text_sort : Int32} {v_text_elementCount : Int32} {v_text_stretchNumber : Int32} {g_text_elements : Nat → Int64} {v_told_drawSeed : Int32} {v_told_cars_carCount : Int32} {f_told_cars_bases : Nat → Int32} {f_told_cars_shares : Nat → Int32} {f_told_cars_speeds : Nat → Int32} {post : Int32 → Int32 → Int32 → Int32 → (Nat → Int32) → (Nat → Int32) → (Nat → Int32) → Prop} (h : F_X4_readCar v_at v_faultAt v_text_elementCount g_text_elements v_told_cars_carCount f_told_cars_bases f_told_cars_shares f_told_cars_speeds post) {sz : Nat} : Met l yX4_readCar (Cond.code yX4_readCar cX4_readCar 5 (some (.boolean)) :: GW) (rmd 3 0 0) (PW D cI cJ cS ad adK [.ref a_o] (wX4_readCar cI cJ cS a_o a_text a_text_elements a_told a_told_cars a_told_cars_bases a_told_cars_shares a_told_cars_speeds z_told_stretches z_told_tunes z_told_demands v_at v_faultAt v_text_held v_text_sort v_text_elementCount v_text_stretchNumber g_text_elements v_told_drawSeed v_told_cars_carCount f_told_cars_bases f_told_cars_shares f_told_cars_speeds) sz) (va_Qi (fun r (u : Int32 × Int32 × Int32 × (Nat → Int32) × (Nat → Int32) × (Nat → Int32)) => post r u.1 u.2.1 u.2.2.1 u.2.2.2.1 u.2.2.2.2.1 u.2.2.2.2.2) (fun u t => va_P D vwCl (wX4_readCar cI cJ cS a_o a_text a_text_elements a_told a_told_cars a_told_cars_bases a_told_cars_shares a_told_cars_speeds z_told_stretches z_told_tunes z_told_demands u.1 u.2.1 v_text_held v_text_sort v_text_elementCount v_text_stretchNumber g_text_elements v_told_drawSeed u.2.2.1 u.2.2.2.1 u.2.2.2.2.1 u.2.2.2.2.2) t.heap) (va_A (wX4_readCar cI cJ cS a_o a_text a_text_elements a_told a_told_cars a_told_cars_bases a_told_cars_shares a_told_cars_speeds z_told_stretches z_told_tunes z_told_demands v_at v_faultAt v_text_held v_text_sort v_text_elementCount v_text_stretchNumber g_text_elements v_told_drawSeed v_told_cars_carCount f_told_cars_bases f_told_cars_shares f_told_cars_speeds) sz)) 0 0 (va_A (wX4_readCar cI cJ cS a_o a_text a_text_elements a_told a_told_cars a_told_cars_bases a_told_cars_shares a_told_cars_speeds z_told_stretches z_told_tunes z_told_demands v_at v_faultAt v_text_held v_text_sort v_text_elementCount v_text_stretchNumber g_text_elements v_told_drawSeed v_told_cars_carCount f_told_cars_bases f_told_cars_shares f_told_cars_speeds) sz) := by
  refine Met.rw (Qc := fun A => (va_Qi (fun r (u : Int32 × Int32 × Int32 × (Nat → Int32) × (Nat → Int32) × (Nat → Int32)) => post r u.1 u.2.1 u.2.2.1 u.2.2.2.1 u.2.2.2.2.1 u.2.2.2.2.2) (fun u t => va_P D vwCl (wX4_readCar cI cJ cS a_o a_text a_text_elements a_told a_told_cars a_told_cars_bases a_told_cars_shares a_told_cars_speeds z_told_stretches z_told_tunes z_told_demands u.1 u.2.1 v_text_held v_text_sort v_text_elementCount v_text_stretchNumber g_text_elements v_told_drawSeed u.2.2.1 u.2.2.2.1 u.2.2.2.2.1 u.2.2.2.2.2) t.heap) A)) (by decide) (Nat.le_of_ble_eq_true rfl) (fun p e s m args below meth c ls A (S : CallFix p m c cX4_readCar 5 s args GW "RoadThatSings$Reader") hE hT hP hD hA hS hr hlocks hname hl => ?_)
  have hS0 := hS
  have hx := S.1
  have hb := S.2.1
  have hl : lv_has ls 5 [(0, .ref a_o)] := hl
  unfold F_X4_readCar at h
  refine lv_aload_n hx hb dX4_readCar_0 rfl (lv_at hl 0 rfl) ?_
  refine lv_iconst (v := 1) hx hb dX4_readCar_1 (by decide) ?_
  refine lv_bipush (v := 99) hx hb dX4_readCar_2 (by decide) ?_
  refine rw_i (rwV S hE hT hS hP hD hA (c_X4_readNumber h) [0, 1, 2] rfl (by decide +kernel) lkX4_124 rfl ⟨(Nat.le_of_ble_eq_true rfl), (Nat.le_of_ble_eq_true rfl)⟩ 0 rfl rfl hl.1 rfl (Nat.le_of_ble_eq_true rfl) dX4_readCar_4 ⟨(Nat.zero_le _), (Nat.zero_le _)⟩) hP hD hS hA [0, 1, 2] rfl (by decide +kernel) (fun _ => rfl) (fun r4 u4 H locs h hP hD hS => ?_)
  obtain ⟨w4_0, w4_1⟩ := u4
  try dsimp only at h
  have hP : va_P D vwCl (wX4_readCar cI cJ cS a_o a_text a_text_elements a_told a_told_cars a_told_cars_bases a_told_cars_shares a_told_cars_speeds z_told_stretches z_told_tunes z_told_demands w4_0 w4_1 v_text_held v_text_sort v_text_elementCount v_text_stretchNumber g_text_elements v_told_drawSeed v_told_cars_carCount f_told_cars_bases f_told_cars_shares f_told_cars_speeds) H := hP
  have hD : va_D A (wX4_readCar cI cJ cS a_o a_text a_text_elements a_told a_told_cars a_told_cars_bases a_told_cars_shares a_told_cars_speeds z_told_stretches z_told_tunes z_told_demands w4_0 w4_1 v_text_held v_text_sort v_text_elementCount v_text_stretchNumber g_text_elements v_told_drawSeed v_told_cars_carCount f_told_cars_bases f_told_cars_shares f_told_cars_speeds) := hD
  refine lv_istore_n (lv' := [(1, .int r4), (0, .ref a_o)]) hx hb dX4_readCar_7 rfl hl (by decide) rfl (fun ls hl => ?_)
  refine lv_iload_n hx hb dX4_readCar_8 rfl (lv_at hl 0 rfl) ?_
  refine lv_iconst (v := (-1)) hx hb dX4_readCar_9 (by decide) ?_
  refine lv_icmp_ne (tgt := 17) hx hb dX4_readCar_10 (by decide) (fun hc => ?_) (fun hc => ?_)
  · have h := h.2 hc
    refine lv_aload_n hx hb dX4_readCar_17 rfl (lv_at hl 1 rfl) ?_
    refine lv_iconst (v := 0) hx hb dX4_readCar_18 (by decide) ?_
    refine lv_sipush (v := 999) hx hb dX4_readCar_19 (by decide) ?_
    refine rw_i (rwV S hE hT hS hP hD hA (c_X4_readNumber h) [0, 1, 2] rfl (by decide +kernel) lkX4_124 rfl ⟨(Nat.le_of_ble_eq_true rfl), (Nat.le_of_ble_eq_true rfl)⟩ 0 rfl rfl hl.1 rfl (Nat.le_of_ble_eq_true rfl) dX4_readCar_22 ⟨(Nat.zero_le _), (Nat.zero_le _)⟩) hP hD hS hA [0, 1, 2] rfl (by decide +kernel) (fun _ => rfl) (fun r22 u22 H locs h hP hD hS => ?_)
    obtain ⟨w22_0, w22_1⟩ := u22
    try dsimp only at h
    have hP : va_P D vwCl (wX4_readCar cI cJ cS a_o a_text a_text_elements a_told a_told_cars a_told_cars_bases a_told_cars_shares a_told_cars_speeds z_told_stretches z_told_tunes z_told_demands w22_0 w22_1 v_text_held v_text_sort v_text_elementCount v_text_stretchNumber g_text_elements v_told_drawSeed v_told_cars_carCount f_told_cars_bases f_told_cars_shares f_told_cars_speeds) H := hP
    have hD : va_D A (wX4_readCar cI cJ cS a_o a_text a_text_elements a_told a_told_cars a_told_cars_bases a_told_cars_shares a_told_cars_speeds z_told_stretches z_told_tunes z_told_demands w22_0 w22_1 v_text_held v_text_sort v_text_elementCount v_text_stretchNumber g_text_elements v_told_drawSeed v_told_cars_carCount f_told_cars_bases f_told_cars_shares f_told_cars_speeds) := hD
    refine w_X4_readCar_25 S hE hT hA hr hlocks _ _ _ h hP hD hS (lv_sub hl [1, 0] rfl)
  have h := h.1 hc
  refine lv_iconst (v := (-1)) hx hb dX4_readCar_13 (by decide) ?_
  refine lv_goto (tgt := 25) hx hb dX4_readCar_14 (by decide) ?_
  refine w_X4_readCar_25 S hE hT hA hr hlocks _ _ _ h hP hD hS (lv_sub hl [1, 0] rfl)
/-! X8_begin -/
abbrev wX8_begin (cI cJ cS : ClassId) (a_o a_noteCounts : Nat) (z_pitches z_beats : Value) (v_tuneCount : Int32) (f_noteCounts : Nat → Int32) : va_W := [(a_o, .inr (7, [z_pitches, z_beats, .ref a_noteCounts, .int v_tuneCount])), (a_noteCounts, .inl (cI, 6, .inl f_noteCounts))]
def F_X8_begin (v_tuneCount : Int32) (f_noteCounts : Nat → Int32) (post : Int32 → Int32 → (Nat → Int32) → Prop) : Prop := (F_X8_isFull v_tuneCount (fun r1 => ((r1 = 0 → ((0 ≤ v_tuneCount → (vp_in v_tuneCount 6 ∧ post ((v_tuneCount + 1) - 1) (v_tuneCount + 1) (upd f_noteCounts v_tuneCount.toNatClampNeg 0))) ∧ (¬ 0 ≤ v_tuneCount → post (-1) v_tuneCount f_noteCounts))) ∧ (¬ r1 = 0 → post (-1) v_tuneCount f_noteCounts))))
set_option maxHeartbeats 4000000 in
set_option maxRecDepth 100000 in
theorem c_X8_begin {l : Launch} {D : va_G} {cI cJ cS : ClassId} {ad adK : Nat → Nat} {a_o a_noteCounts : Nat} {z_pitches z_beats : Value} {v_tuneCount : Int32} {f_noteCounts : Nat → Int32} {post : Int32 → Int32 → (Nat → Int32) → Prop} (h : F_X8_begin v_tuneCount f_noteCounts post) {sz : Nat} : Met l yX8_begin (Cond.code yX8_begin cX8_begin 1 (some (.int)) :: GW) (rmd 1 0 0) (PW D cI cJ cS ad adK [.ref a_o] (wX8_begin cI cJ cS a_o a_noteCounts z_pitches z_beats v_tuneCount f_noteCounts) sz) (va_Qi (fun r (u : Int32 × (Nat → Int32)) => post r u.1 u.2) (fun u t => va_P D vwCl (wX8_begin cI cJ cS a_o a_noteCounts z_pitches z_beats u.1 u.2) t.heap) (va_A (wX8_begin cI cJ cS a_o a_noteCounts z_pitches z_beats v_tuneCount f_noteCounts) sz)) 0 0 (va_A (wX8_begin cI cJ cS a_o a_noteCounts z_pitches z_beats v_tuneCount f_noteCounts) sz) := by
  refine Met.rw (Qc := fun A => (va_Qi (fun r (u : Int32 × (Nat → Int32)) => post r u.1 u.2) (fun u t => va_P D vwCl (wX8_begin cI cJ cS a_o a_noteCounts z_pitches z_beats u.1 u.2) t.heap) A)) (by decide) (Nat.le_of_ble_eq_true rfl) (fun p e s m args below meth c ls A (S : CallFix p m c cX8_begin 1 s args GW "RoadThatSings$Tunes") hE hT hP hD hA hS hr hlocks hname hl => ?_)
  have hS0 := hS
  have hx := S.1
  have hb := S.2.1
  have hl : lv_has ls 1 [(0, .ref a_o)] := hl
  unfold F_X8_begin at h
  refine lv_aload_n hx hb dX8_begin_0 rfl (lv_at hl 0 rfl) ?_
  refine ro_i (roV S hE hT hS (c_X8_isFull h) lkX8_35 rfl ⟨(Nat.le_of_ble_eq_true rfl), (Nat.le_of_ble_eq_true rfl)⟩ (hP.sub [0] rfl) 0 rfl rfl hl.1 rfl (Nat.le_of_ble_eq_true rfl) dX8_begin_1 ⟨(Nat.zero_le _), (Nat.zero_le _)⟩) (fun r1 h => ?_)
  refine lv_if_ne (tgt := 14) hx hb dX8_begin_4 (by decide) (fun hc => ?_) (fun hc => ?_)
  · have h := h.2 hc
    refine lv_iconst (v := (-1)) hx hb dX8_begin_14 (by decide) ?_
    exact W.iret hx hb hr (fun t ht _ => ⟨⟨_, (v_tuneCount, f_noteCounts), rfl, h, hPt hP ht⟩, hS.F ht⟩) hS.2.2 dX8_begin_15
  have h := h.1 hc
  refine lv_aload_n hx hb dX8_begin_7 rfl (lv_at hl 0 rfl) ?_
  refine gf S hE hP 0 rfl rfl inX8 (k := 3) (by decide) q83 rfl dX8_begin_8 ?_
  refine lv_if_ge (tgt := 16) hx hb dX8_begin_11 (by decide) (fun hc => ?_) (fun hc => ?_)
  · have h := h.1 hc
    refine lv_aload_n hx hb dX8_begin_16 rfl (lv_at hl 0 rfl) ?_
    refine gf S hE hP 0 rfl rfl inX8 (k := 2) (by decide) q82 rfl dX8_begin_17 ?_
    refine lv_aload_n hx hb dX8_begin_20 rfl (lv_at hl 0 rfl) ?_
    refine gf S hE hP 0 rfl rfl inX8 (k := 3) (by decide) q83 rfl dX8_begin_21 ?_
    refine lv_iconst (v := 0) hx hb dX8_begin_24 (by decide) ?_
    obtain ⟨hi, h⟩ := h
    refine ias S hE hP hD hS 1 rfl hi dX8_begin_25 (fun H locs hP hD hS => ?_)
    have hP : va_P D vwCl (wX8_begin cI cJ cS a_o a_noteCounts z_pitches z_beats v_tuneCount (upd f_noteCounts v_tuneCount.toNatClampNeg 0)) H := hP
    have hD : va_D A (wX8_begin cI cJ cS a_o a_noteCounts z_pitches z_beats v_tuneCount (upd f_noteCounts v_tuneCount.toNatClampNeg 0)) := hD
    refine lv_aload_n hx hb dX8_begin_26 rfl (lv_at hl 0 rfl) ?_
    refine lv_dup hx hb dX8_begin_27 rfl ?_
    refine gf S hE hP 0 rfl rfl inX8 (k := 3) (by decide) q83 rfl dX8_begin_28 ?_
    refine lv_iconst (v := 1) hx hb dX8_begin_31 (by decide) ?_
    refine lv_iadd hx hb dX8_begin_32 ?_
    refine pf S hE hP hD hS 0 (k := 3) rfl rfl inX8 tyX8_ok nmX8 (by decide) q83 rfl rfl rfl (Nat.le_of_ble_eq_true rfl) dX8_begin_33 (fun H locs hP hD hS => ?_)
    have hP : va_P D vwCl (wX8_begin cI cJ cS a_o a_noteCounts z_pitches z_beats (v_tuneCount + 1) (upd f_noteCounts v_tuneCount.toNatClampNeg 0)) H := hP
    have hD : va_D A (wX8_begin cI cJ cS a_o a_noteCounts z_pitches z_beats (v_tuneCount + 1) (upd f_noteCounts v_tuneCount.toNatClampNeg 0)) := hD
    refine lv_aload_n hx hb dX8_begin_36 rfl (lv_at hl 0 rfl) ?_
    refine gf S hE hP 0 rfl rfl inX8 (k := 3) (by decide) q83 rfl dX8_begin_37 ?_
    refine lv_iconst (v := 1) hx hb dX8_begin_40 (by decide) ?_
    refine lv_isub hx hb dX8_begin_41 ?_
    exact W.iret hx hb hr (fun t ht _ => ⟨⟨_, ((v_tuneCount + 1), (upd f_noteCounts v_tuneCount.toNatClampNeg 0)), rfl, h, hPt hP ht⟩, hS.F ht⟩) hS.2.2 dX8_begin_42
  have h := h.2 hc
  refine lv_iconst (v := (-1)) hx hb dX8_begin_14 (by decide) ?_
  exact W.iret hx hb hr (fun t ht _ => ⟨⟨_, (v_tuneCount, f_noteCounts), rfl, h, hPt hP ht⟩, hS.F ht⟩) hS.2.2 dX8_begin_15
/-! X8_addNote -/
abbrev wX8_addNote (cI cJ cS : ClassId) (a_o a_beats a_noteCounts a_pitches : Nat) (v_tuneCount : Int32) (f_beats : Nat → Int32) (f_noteCounts : Nat → Int32) (f_pitches : Nat → Int32) : va_W := [(a_o, .inr (7, [.ref a_pitches, .ref a_beats, .ref a_noteCounts, .int v_tuneCount])), (a_beats, .inl (cI, 72, .inl f_beats)), (a_noteCounts, .inl (cI, 6, .inl f_noteCounts)), (a_pitches, .inl (cI, 72, .inl f_pitches))]
def F_X8_addNote (v_tuneCount : Int32) (f_beats : Nat → Int32) (f_noteCounts : Nat → Int32) (f_pitches : Nat → Int32) (x1 : Int32) (x2 : Int32) (post : (Nat → Int32) → (Nat → Int32) → (Nat → Int32) → Prop) : Prop := (∀ x3_6 : Int32, x3_6 = v_tuneCount - 1 → (F_X8_has v_tuneCount x3_6 (fun r9 => ((r9 = 0 → post f_beats f_noteCounts f_pitches) ∧ (¬ r9 = 0 → (vp_in x3_6 6 ∧ (((f_noteCounts x3_6.toNatClampNeg) < 0 → post f_beats f_noteCounts f_pitches) ∧ (¬ (f_noteCounts x3_6.toNatClampNeg) < 0 → (vp_in x3_6 6 ∧ (((f_noteCounts x3_6.toNatClampNeg) < 12 → (vp_in x3_6 6 ∧ (∀ x4_47 : Int32, x4_47 = (x3_6 * 12) + (f_noteCounts x3_6.toNatClampNeg) → (vp_in x4_47 72 ∧ (vp_in x4_47 72 ∧ (vp_in x3_6 6 ∧ (vp_in x3_6 6 ∧ post (upd f_beats x4_47.toNatClampNeg x2) (upd f_noteCounts x3_6.toNatClampNeg ((f_noteCounts x3_6.toNatClampNeg) + 1)) (upd f_pitches x4_47.toNatClampNeg x1)))))))) ∧ (¬ (f_noteCounts x3_6.toNatClampNeg) < 12 → post f_beats f_noteCounts f_pitches)))))))))))
set_option maxHeartbeats 4000000 in
set_option maxRecDepth 100000 in
theorem c_X8_addNote {l : Launch} {D : va_G} {cI cJ cS : ClassId} {ad adK : Nat → Nat} {a_o a_beats a_noteCounts a_pitches : Nat} {v_tuneCount : Int32} {f_beats : Nat → Int32} {f_noteCounts : Nat → Int32} {f_pitches : Nat → Int32} {x1 : Int32} {x2 : Int32} {post : (Nat → Int32) → (Nat → Int32) → (Nat → Int32) → Prop} (h : F_X8_addNote v_tuneCount f_beats f_noteCounts f_pitches x1 x2 post) {sz : Nat} : Met l yX8_addNote (Cond.code yX8_addNote cX8_addNote 5 none :: GW) (rmd 1 0 0) (PW D cI cJ cS ad adK [.ref a_o, .int x1, .int x2] (wX8_addNote cI cJ cS a_o a_beats a_noteCounts a_pitches v_tuneCount f_beats f_noteCounts f_pitches) sz) (va_Qv (fun u : (Nat → Int32) × (Nat → Int32) × (Nat → Int32) => post u.1 u.2.1 u.2.2) (fun u t => va_P D vwCl (wX8_addNote cI cJ cS a_o a_beats a_noteCounts a_pitches v_tuneCount u.1 u.2.1 u.2.2) t.heap) (va_A (wX8_addNote cI cJ cS a_o a_beats a_noteCounts a_pitches v_tuneCount f_beats f_noteCounts f_pitches) sz)) 0 0 (va_A (wX8_addNote cI cJ cS a_o a_beats a_noteCounts a_pitches v_tuneCount f_beats f_noteCounts f_pitches) sz) := by
  refine Met.rw (Qc := fun A => (va_Qv (fun u : (Nat → Int32) × (Nat → Int32) × (Nat → Int32) => post u.1 u.2.1 u.2.2) (fun u t => va_P D vwCl (wX8_addNote cI cJ cS a_o a_beats a_noteCounts a_pitches v_tuneCount u.1 u.2.1 u.2.2) t.heap) A)) (by decide) (Nat.le_of_ble_eq_true rfl) (fun p e s m args below meth c ls A (S : CallFix p m c cX8_addNote 5 s args GW "RoadThatSings$Tunes") hE hT hP hD hA hS hr hlocks hname hl => ?_)
  have hS0 := hS
  have hx := S.1
  have hb := S.2.1
  have hl : lv_has ls 5 [(0, .ref a_o), (1, .int x1), (2, .int x2)] := hl
  unfold F_X8_addNote at h
  refine lv_aload_n hx hb dX8_addNote_0 rfl (lv_at hl 0 rfl) ?_
  refine gf S hE hP 0 rfl rfl inX8 (k := 3) (by decide) q83 rfl dX8_addNote_1 ?_
  refine lv_iconst (v := 1) hx hb dX8_addNote_4 (by decide) ?_
  refine lv_isub hx hb dX8_addNote_5 ?_
  refine lv_topi (fun x3_6 ex3_6 => ?_)
  have h := h _ ex3_6
  refine lv_istore_n (lv' := [(3, .int x3_6), (0, .ref a_o), (1, .int x1), (2, .int x2)]) hx hb dX8_addNote_6 rfl hl (by decide) rfl (fun ls hl => ?_)
  refine lv_aload_n hx hb dX8_addNote_7 rfl (lv_at hl 1 rfl) ?_
  refine lv_iload_n hx hb dX8_addNote_8 rfl (lv_at hl 0 rfl) ?_
  refine ro_i (roV S hE hT hS (c_X8_has h) lkX8_31 rfl ⟨(Nat.le_of_ble_eq_true rfl), (Nat.le_of_ble_eq_true rfl)⟩ (hP.sub [0] rfl) 0 rfl rfl hl.1 rfl (Nat.le_of_ble_eq_true rfl) dX8_addNote_9 ⟨(Nat.zero_le _), (Nat.zero_le _)⟩) (fun r9 h => ?_)
  refine lv_if_eq (tgt := 35) hx hb dX8_addNote_12 (by decide) (fun hc => ?_) (fun hc => ?_)
  · have h := h.1 hc
    exact W.vret hx hb hr (fun t ht _ => ⟨⟨(f_beats, f_noteCounts, f_pitches), rfl, h, hPt hP ht⟩, hS.F ht⟩) hS.2.2 dX8_addNote_35
  have h := h.2 hc
  refine lv_aload_n hx hb dX8_addNote_15 rfl (lv_at hl 1 rfl) ?_
  refine gf S hE hP 0 rfl rfl inX8 (k := 2) (by decide) q82 rfl dX8_addNote_16 ?_
  refine lv_iload_n hx hb dX8_addNote_19 rfl (lv_at hl 0 rfl) ?_
  obtain ⟨hi, h⟩ := h
  refine ial S hE hP 2 rfl hi dX8_addNote_20 ?_
  refine lv_if_lt (tgt := 35) hx hb dX8_addNote_21 (by decide) (fun hc => ?_) (fun hc => ?_)
  · have h := h.1 hc
    exact W.vret hx hb hr (fun t ht _ => ⟨⟨(f_beats, f_noteCounts, f_pitches), rfl, h, hPt hP ht⟩, hS.F ht⟩) hS.2.2 dX8_addNote_35
  have h := h.2 hc
  refine lv_aload_n hx hb dX8_addNote_24 rfl (lv_at hl 1 rfl) ?_
  refine gf S hE hP 0 rfl rfl inX8 (k := 2) (by decide) q82 rfl dX8_addNote_25 ?_
  refine lv_iload_n hx hb dX8_addNote_28 rfl (lv_at hl 0 rfl) ?_
  obtain ⟨hi, h⟩ := h
  refine ial S hE hP 2 rfl hi dX8_addNote_29 ?_
  refine lv_bipush (v := 12) hx hb dX8_addNote_30 (by decide) ?_
  refine lv_icmp_lt (tgt := 36) hx hb dX8_addNote_32 (by decide) (fun hc => ?_) (fun hc => ?_)
  · have h := h.1 hc
    refine lv_iload_n hx hb dX8_addNote_36 rfl (lv_at hl 0 rfl) ?_
    refine lv_bipush (v := 12) hx hb dX8_addNote_37 (by decide) ?_
    refine lv_imul hx hb dX8_addNote_39 ?_
    refine lv_aload_n hx hb dX8_addNote_40 rfl (lv_at hl 1 rfl) ?_
    refine gf S hE hP 0 rfl rfl inX8 (k := 2) (by decide) q82 rfl dX8_addNote_41 ?_
    refine lv_iload_n hx hb dX8_addNote_44 rfl (lv_at hl 0 rfl) ?_
    obtain ⟨hi, h⟩ := h
    refine ial S hE hP 2 rfl hi dX8_addNote_45 ?_
    refine lv_iadd hx hb dX8_addNote_46 ?_
    refine lv_topi (fun x4_47 ex4_47 => ?_)
    have h := h _ ex4_47
    refine lv_istore (lv' := [(4, .int x4_47), (3, .int x3_6), (0, .ref a_o), (1, .int x1), (2, .int x2)]) hx hb dX8_addNote_47 hl (by decide) rfl (fun ls hl => ?_)
    refine lv_aload_n hx hb dX8_addNote_49 rfl (lv_at hl 2 rfl) ?_
    refine gf S hE hP 0 rfl rfl inX8 (k := 0) (by decide) q80 rfl dX8_addNote_50 ?_
    refine lv_iload hx hb dX8_addNote_53 (lv_at hl 0 rfl) ?_
    refine lv_iload_n hx hb dX8_addNote_55 rfl (lv_at hl 3 rfl) ?_
    obtain ⟨hi, h⟩ := h
    refine ias S hE hP hD hS 3 rfl hi dX8_addNote_56 (fun H locs hP hD hS => ?_)
    have hP : va_P D vwCl (wX8_addNote cI cJ cS a_o a_beats a_noteCounts a_pitches v_tuneCount f_beats f_noteCounts (upd f_pitches x4_47.toNatClampNeg x1)) H := hP
    have hD : va_D A (wX8_addNote cI cJ cS a_o a_beats a_noteCounts a_pitches v_tuneCount f_beats f_noteCounts (upd f_pitches x4_47.toNatClampNeg x1)) := hD
    refine lv_aload_n hx hb dX8_addNote_57 rfl (lv_at hl 2 rfl) ?_
    refine gf S hE hP 0 rfl rfl inX8 (k := 1) (by decide) q81 rfl dX8_addNote_58 ?_
    refine lv_iload hx hb dX8_addNote_61 (lv_at hl 0 rfl) ?_
    refine lv_iload_n hx hb dX8_addNote_63 rfl (lv_at hl 4 rfl) ?_
    obtain ⟨hi, h⟩ := h
    refine ias S hE hP hD hS 1 rfl hi dX8_addNote_64 (fun H locs hP hD hS => ?_)
    have hP : va_P D vwCl (wX8_addNote cI cJ cS a_o a_beats a_noteCounts a_pitches v_tuneCount (upd f_beats x4_47.toNatClampNeg x2) f_noteCounts (upd f_pitches x4_47.toNatClampNeg x1)) H := hP
    have hD : va_D A (wX8_addNote cI cJ cS a_o a_beats a_noteCounts a_pitches v_tuneCount (upd f_beats x4_47.toNatClampNeg x2) f_noteCounts (upd f_pitches x4_47.toNatClampNeg x1)) := hD
    refine lv_aload_n hx hb dX8_addNote_65 rfl (lv_at hl 2 rfl) ?_
    refine gf S hE hP 0 rfl rfl inX8 (k := 2) (by decide) q82 rfl dX8_addNote_66 ?_
    refine lv_iload_n hx hb dX8_addNote_69 rfl (lv_at hl 1 rfl) ?_
    refine lv_dup2_11 hx hb dX8_addNote_70 rfl rfl ?_
    obtain ⟨hi, h⟩ := h
    refine ial S hE hP 2 rfl hi dX8_addNote_71 ?_
    refine lv_iconst (v := 1) hx hb dX8_addNote_72 (by decide) ?_
    refine lv_iadd hx hb dX8_addNote_73 ?_
    obtain ⟨hi, h⟩ := h
    refine ias S hE hP hD hS 2 rfl hi dX8_addNote_74 (fun H locs hP hD hS => ?_)
    have hP : va_P D vwCl (wX8_addNote cI cJ cS a_o a_beats a_noteCounts a_pitches v_tuneCount (upd f_beats x4_47.toNatClampNeg x2) (upd f_noteCounts x3_6.toNatClampNeg ((f_noteCounts x3_6.toNatClampNeg) + 1)) (upd f_pitches x4_47.toNatClampNeg x1)) H := hP
    have hD : va_D A (wX8_addNote cI cJ cS a_o a_beats a_noteCounts a_pitches v_tuneCount (upd f_beats x4_47.toNatClampNeg x2) (upd f_noteCounts x3_6.toNatClampNeg ((f_noteCounts x3_6.toNatClampNeg) + 1)) (upd f_pitches x4_47.toNatClampNeg x1)) := hD
    exact W.vret hx hb hr (fun t ht _ => ⟨⟨((upd f_beats x4_47.toNatClampNeg x2), (upd f_noteCounts x3_6.toNatClampNeg ((f_noteCounts x3_6.toNatClampNeg) + 1)), (upd f_pitches x4_47.toNatClampNeg x1)), rfl, h, hPt hP ht⟩, hS.F ht⟩) hS.2.2 dX8_addNote_75
  have h := h.2 hc
  exact W.vret hx hb hr (fun t ht _ => ⟨⟨(f_beats, f_noteCounts, f_pitches), rfl, h, hPt hP ht⟩, hS.F ht⟩) hS.2.2 dX8_addNote_35
/-! X4_readNote -/
abbrev wX4_readNote (cI cJ cS : ClassId) (a_o a_text a_text_elements a_told a_told_tunes a_told_tunes_beats a_told_tunes_noteCounts a_told_tunes_pitches : Nat) (z_told_stretches z_told_cars z_told_demands : Value) (v_at : Int32) (v_faultAt : Int32) (v_text_held : Int32) (v_text_sort : Int32) (v_text_elementCount : Int32) (v_text_stretchNumber : Int32) (g_text_elements : Nat → Int64) (v_told_drawSeed : Int32) (v_told_tunes_tuneCount : Int32) (f_told_tunes_beats : Nat → Int32) (f_told_tunes_noteCounts : Nat → Int32) (f_told_tunes_pitches : Nat → Int32) : va_W := [(a_o, .inr (3, [.ref a_text, .ref a_told, .int v_at, .int v_faultAt])), (a_text, .inr (5, [.ref a_text_elements, .int v_text_held, .int v_text_sort, .int v_text_elementCount, .int v_text_stretchNumber])), (a_text_elements, .inl (cJ, 160, .inr (.inl g_text_elements))), (a_told, .inr (4, [z_told_stretches, z_told_cars, .ref a_told_tunes, z_told_demands, .int v_told_drawSeed])), (a_told_tunes, .inr (7, [.ref a_told_tunes_pitches, .ref a_told_tunes_beats, .ref a_told_tunes_noteCounts, .int v_told_tunes_tuneCount])), (a_told_tunes_beats, .inl (cI, 72, .inl f_told_tunes_beats)), (a_told_tunes_noteCounts, .inl (cI, 6, .inl f_told_tunes_noteCounts)), (a_told_tunes_pitches, .inl (cI, 72, .inl f_told_tunes_pitches))]
def F_X4_readNote_25 (v_told_tunes_tuneCount : Int32) (post : Int32 → Int32 → Int32 → (Nat → Int32) → (Nat → Int32) → (Nat → Int32) → Prop) (x1 : Int32) (v_at : Int32) (v_faultAt : Int32) (f_told_tunes_beats : Nat → Int32) (f_told_tunes_noteCounts : Nat → Int32) (f_told_tunes_pitches : Nat → Int32) (s0 : Int32) : Prop := ((s0 = (-1) → post 0 v_at v_faultAt f_told_tunes_beats f_told_tunes_noteCounts f_told_tunes_pitches) ∧ (¬ s0 = (-1) → (F_X8_addNote v_told_tunes_tuneCount f_told_tunes_beats f_told_tunes_noteCounts f_told_tunes_pitches x1 s0 (fun w42_0 w42_1 w42_2 => post 1 v_at v_faultAt w42_0 w42_1 w42_2))))
def F_X4_readNote (v_at : Int32) (v_faultAt : Int32) (v_text_elementCount : Int32) (g_text_elements : Nat → Int64) (v_told_tunes_tuneCount : Int32) (f_told_tunes_beats : Nat → Int32) (f_told_tunes_noteCounts : Nat → Int32) (f_told_tunes_pitches : Nat → Int32) (post : Int32 → Int32 → Int32 → (Nat → Int32) → (Nat → Int32) → (Nat → Int32) → Prop) : Prop := (F_X4_readNumber v_at v_faultAt v_text_elementCount g_text_elements 0 9999 (fun r5 w5_0 w5_1 => ((r5 = (-1) → F_X4_readNote_25 v_told_tunes_tuneCount post r5 w5_0 w5_1 f_told_tunes_beats f_told_tunes_noteCounts f_told_tunes_pitches (-1)) ∧ (¬ r5 = (-1) → (F_X4_readNumber w5_0 w5_1 v_text_elementCount g_text_elements 1 16 (fun r22 w22_0 w22_1 => F_X4_readNote_25 v_told_tunes_tuneCount post r5 w22_0 w22_1 f_told_tunes_beats f_told_tunes_noteCounts f_told_tunes_pitches r22))))))
set_option maxHeartbeats 4000000 in
set_option maxRecDepth 100000 in
theorem w_X4_readNote_25 {l : Launch} {D : va_G} {cI cJ cS : ClassId} {ad adK : Nat → Nat} {a_o a_text a_text_elements a_told a_told_tunes a_told_tunes_beats a_told_tunes_noteCounts a_told_tunes_pitches : Nat} {z_told_stretches z_told_cars z_told_demands : Value} {v_at : Int32} {v_faultAt : Int32} {v_text_held : Int32} {v_text_sort : Int32} {v_text_elementCount : Int32} {v_text_stretchNumber : Int32} {g_text_elements : Nat → Int64} {v_told_drawSeed : Int32} {v_told_tunes_tuneCount : Int32} {f_told_tunes_beats : Nat → Int32} {f_told_tunes_noteCounts : Nat → Int32} {f_told_tunes_pitches : Nat → Int32} {x1 : Int32} {s0 : Int32} {post : Int32 → Int32 → Int32 → (Nat → Int32) → (Nat → Int32) → (Nat → Int32) → Prop} {p : Program} {e : Env} {s : State} {m : MethodId} {args : Array Value} {below : List Frame} {meth : Method} {c : Code} {A : Nat → Prop} (S : CallFix p m c cX4_readNote 3 s args GW "RoadThatSings$Reader") (hE : EN D cI cJ cS s) (hT : ST ad adK A s s.heap) (hA : ∀ q : Nat, s.heap.size ≤ q → A q) (hr : meth.sig.returnType = (some (.boolean))) (hlocks : meth.locks = false) : ∀ (H : Heap) (locs : List Loc) (ls : Array Slot), F_X4_readNote_25 v_told_tunes_tuneCount post x1 v_at v_faultAt f_told_tunes_beats f_told_tunes_noteCounts f_told_tunes_pitches s0 → va_P D vwCl (wX4_readNote cI cJ cS a_o a_text a_text_elements a_told a_told_tunes a_told_tunes_beats a_told_tunes_noteCounts a_told_tunes_pitches z_told_stretches z_told_cars z_told_demands v_at v_faultAt v_text_held v_text_sort v_text_elementCount v_text_stretchNumber g_text_elements v_told_drawSeed v_told_tunes_tuneCount f_told_tunes_beats f_told_tunes_noteCounts f_told_tunes_pitches) H → va_D A (wX4_readNote cI cJ cS a_o a_text a_text_elements a_told a_told_tunes a_told_tunes_beats a_told_tunes_noteCounts a_told_tunes_pitches z_told_stretches z_told_cars z_told_demands v_at v_faultAt v_text_held v_text_sort v_text_elementCount v_text_stretchNumber g_text_elements v_told_drawSeed v_told_tunes_tuneCount f_told_tunes_beats f_told_tunes_noteCounts f_told_tunes_pitches) → va_S A s.heap H locs → lv_has ls 3 [(0, .ref a_o), (1, .int x1)] → W p l e (rmd 3 0 0) s m args below meth c H locs 0 0 (MQ below (va_Qi (fun r (u : Int32 × Int32 × (Nat → Int32) × (Nat → Int32) × (Nat → Int32)) => post r u.1 u.2.1 u.2.2.1 u.2.2.2.1 u.2.2.2.2) (fun u t => va_P D vwCl (wX4_readNote cI cJ cS a_o a_text a_text_elements a_told a_told_tunes a_told_tunes_beats a_told_tunes_noteCounts a_told_tunes_pitches z_told_stretches z_told_cars z_told_demands u.1 u.2.1 v_text_held v_text_sort v_text_elementCount v_text_stretchNumber g_text_elements v_told_drawSeed v_told_tunes_tuneCount u.2.2.1 u.2.2.2.1 u.2.2.2.2) t.heap) A) args s 0 0 A) (F0 m 25 ls [.int s0]) := by
  intro  H locs ls h hP hD hS hl
  unfold F_X4_readNote_25 at h
  have hx := S.1
  have hb := S.2.1
  refine lv_istore_n (lv' := [(2, .int s0), (0, .ref a_o), (1, .int x1)]) hx hb dX4_readNote_25 rfl hl (by decide) rfl (fun ls hl => ?_)
  refine lv_iload_n hx hb dX4_readNote_26 rfl (lv_at hl 0 rfl) ?_
  refine lv_iconst (v := (-1)) hx hb dX4_readNote_27 (by decide) ?_
  refine lv_icmp_ne (tgt := 33) hx hb dX4_readNote_28 (by decide) (fun hc => ?_) (fun hc => ?_)
  · have h := h.2 hc
    refine lv_aload_n hx hb dX4_readNote_33 rfl (lv_at hl 1 rfl) ?_
    refine gf S hE hP 0 rfl rfl inX4 (k := 1) (by decide) q575 rfl dX4_readNote_34 ?_
    refine gfN S hE hP 3 rfl rfl inX5 (k := 2) (by decide) nfX4_63 rfl dX4_readNote_37 ?_
    refine lv_iload_n hx hb dX4_readNote_40 rfl (lv_at hl 2 rfl) ?_
    refine lv_iload_n hx hb dX4_readNote_41 rfl (lv_at hl 0 rfl) ?_
    refine rw_v (rwV S hE hT hS hP hD hA (c_X8_addNote h) [4, 5, 6, 7] rfl (by decide +kernel) lkX4_141 rfl ⟨(Nat.le_of_ble_eq_true rfl), (Nat.le_of_ble_eq_true rfl)⟩ 4 rfl rfl hl.1 rfl (Nat.le_of_ble_eq_true rfl) dX4_readNote_42 ⟨(Nat.zero_le _), (Nat.zero_le _)⟩) hP hD hS hA [4, 5, 6, 7] rfl (by decide +kernel) (fun _ => rfl) (fun u42 H locs h hP hD hS => ?_)
    obtain ⟨w42_0, w42_1, w42_2⟩ := u42
    try dsimp only at h
    have hP : va_P D vwCl (wX4_readNote cI cJ cS a_o a_text a_text_elements a_told a_told_tunes a_told_tunes_beats a_told_tunes_noteCounts a_told_tunes_pitches z_told_stretches z_told_cars z_told_demands v_at v_faultAt v_text_held v_text_sort v_text_elementCount v_text_stretchNumber g_text_elements v_told_drawSeed v_told_tunes_tuneCount w42_0 w42_1 w42_2) H := hP
    have hD : va_D A (wX4_readNote cI cJ cS a_o a_text a_text_elements a_told a_told_tunes a_told_tunes_beats a_told_tunes_noteCounts a_told_tunes_pitches z_told_stretches z_told_cars z_told_demands v_at v_faultAt v_text_held v_text_sort v_text_elementCount v_text_stretchNumber g_text_elements v_told_drawSeed v_told_tunes_tuneCount w42_0 w42_1 w42_2) := hD
    refine lv_iconst (v := 1) hx hb dX4_readNote_45 (by decide) ?_
    exact W.zret hx hb hr rfl (fun t ht _ => ⟨⟨_, (v_at, v_faultAt, w42_0, w42_1, w42_2), rfl, h, hPt hP ht⟩, hS.F ht⟩) hS.2.2 dX4_readNote_46
  have h := h.1 hc
  refine lv_iconst (v := 0) hx hb dX4_readNote_31 (by decide) ?_
  exact W.zret hx hb hr rfl (fun t ht _ => ⟨⟨_, (v_at, v_faultAt, f_told_tunes_beats, f_told_tunes_noteCounts, f_told_tunes_pitches), rfl, h, hPt hP ht⟩, hS.F ht⟩) hS.2.2 dX4_readNote_32
set_option maxHeartbeats 4000000 in
set_option maxRecDepth 100000 in
theorem c_X4_readNote {l : Launch} {D : va_G} {cI cJ cS : ClassId} {ad adK : Nat → Nat} {a_o a_text a_text_elements a_told a_told_tunes a_told_tunes_beats a_told_tunes_noteCounts a_told_tunes_pitches : Nat} {z_told_stretches z_told_cars z_told_demands : Value} {v_at : Int32} {v_faultAt : Int32} {v_text_held : Int32} {v_text_sort : Int32} {v_text_elementCount : Int32} {v_text_stretchNumber : Int32} {g_text_elements : Nat → Int64} {v_told_drawSeed : Int32} {v_told_tunes_tuneCount : Int32} {f_told_tunes_beats : Nat → Int32} {f_told_tunes_noteCounts : Nat → Int32} {f_told_tunes_pitches : Nat → Int32} {post : Int32 → Int32 → Int32 → (Nat → Int32) → (Nat → Int32) → (Nat → Int32) → Prop} (h : F_X4_readNote v_at v_faultAt v_text_elementCount g_text_elements v_told_tunes_tuneCount f_told_tunes_beats f_told_tunes_noteCounts f_told_tunes_pitches post) {sz : Nat} : Met l yX4_readNote (Cond.code yX4_readNote cX4_readNote 3 (some (.boolean)) :: GW) (rmd 3 0 0) (PW D cI cJ cS ad adK [.ref a_o] (wX4_readNote cI cJ cS a_o a_text a_text_elements a_told a_told_tunes a_told_tunes_beats a_told_tunes_noteCounts a_told_tunes_pitches z_told_stretches z_told_cars z_told_demands v_at v_faultAt v_text_held v_text_sort v_text_elementCount v_text_stretchNumber g_text_elements v_told_drawSeed v_told_tunes_tuneCount f_told_tunes_beats f_told_tunes_noteCounts f_told_tunes_pitches) sz) (va_Qi (fun r (u : Int32 × Int32 × (Nat → Int32) × (Nat → Int32) × (Nat → Int32)) => post r u.1 u.2.1 u.2.2.1 u.2.2.2.1 u.2.2.2.2) (fun u t => va_P D vwCl (wX4_readNote cI cJ cS a_o a_text a_text_elements a_told a_told_tunes a_told_tunes_beats a_told_tunes_noteCounts a_told_tunes_pitches z_told_stretches z_told_cars z_told_demands u.1 u.2.1 v_text_held v_text_sort v_text_elementCount v_text_stretchNumber g_text_elements v_told_drawSeed v_told_tunes_tuneCount u.2.2.1 u.2.2.2.1 u.2.2.2.2) t.heap) (va_A (wX4_readNote cI cJ cS a_o a_text a_text_elements a_told a_told_tunes a_told_tunes_beats a_told_tunes_noteCounts a_told_tunes_pitches z_told_stretches z_told_cars z_told_demands v_at v_faultAt v_text_held v_text_sort v_text_elementCount v_text_stretchNumber g_text_elements v_told_drawSeed v_told_tunes_tuneCount f_told_tunes_beats f_told_tunes_noteCounts f_told_tunes_pitches) sz)) 0 0 (va_A (wX4_readNote cI cJ cS a_o a_text a_text_elements a_told a_told_tunes a_told_tunes_beats a_told_tunes_noteCounts a_told_tunes_pitches z_told_stretches z_told_cars z_told_demands v_at v_faultAt v_text_held v_text_sort v_text_elementCount v_text_stretchNumber g_text_elements v_told_drawSeed v_told_tunes_tuneCount f_told_tunes_beats f_told_tunes_noteCounts f_told_tunes_pitches) sz) := by
  refine Met.rw (Qc := fun A => (va_Qi (fun r (u : Int32 × Int32 × (Nat → Int32) × (Nat → Int32) × (Nat → Int32)) => post r u.1 u.2.1 u.2.2.1 u.2.2.2.1 u.2.2.2.2) (fun u t => va_P D vwCl (wX4_readNote cI cJ cS a_o a_text a_text_elements a_told a_told_tunes a_told_tunes_beats a_told_tunes_noteCounts a_told_tunes_pitches z_told_stretches z_told_cars z_told_demands u.1 u.2.1 v_text_held v_text_sort v_text_elementCount v_text_stretchNumber g_text_elements v_told_drawSeed v_told_tunes_tuneCount u.2.2.1 u.2.2.2.1 u.2.2.2.2) t.heap) A)) (by decide) (Nat.le_of_ble_eq_true rfl) (fun p e s m args below meth c ls A (S : CallFix p m c cX4_readNote 3 s args GW "RoadThatSings$Reader") hE hT hP hD hA hS hr hlocks hname hl => ?_)
  have hS0 := hS
  have hx := S.1
  have hb := S.2.1
  have hl : lv_has ls 3 [(0, .ref a_o)] := hl
  unfold F_X4_readNote at h
  refine lv_aload_n hx hb dX4_readNote_0 rfl (lv_at hl 0 rfl) ?_
  refine lv_iconst (v := 0) hx hb dX4_readNote_1 (by decide) ?_
  refine lv_sipush (v := 9999) hx hb dX4_readNote_2 (by decide) ?_
  refine rw_i (rwV S hE hT hS hP hD hA (c_X4_readNumber h) [0, 1, 2] rfl (by decide +kernel) lkX4_124 rfl ⟨(Nat.le_of_ble_eq_true rfl), (Nat.le_of_ble_eq_true rfl)⟩ 0 rfl rfl hl.1 rfl (Nat.le_of_ble_eq_true rfl) dX4_readNote_5 ⟨(Nat.zero_le _), (Nat.zero_le _)⟩) hP hD hS hA [0, 1, 2] rfl (by decide +kernel) (fun _ => rfl) (fun r5 u5 H locs h hP hD hS => ?_)
  obtain ⟨w5_0, w5_1⟩ := u5
  try dsimp only at h
  have hP : va_P D vwCl (wX4_readNote cI cJ cS a_o a_text a_text_elements a_told a_told_tunes a_told_tunes_beats a_told_tunes_noteCounts a_told_tunes_pitches z_told_stretches z_told_cars z_told_demands w5_0 w5_1 v_text_held v_text_sort v_text_elementCount v_text_stretchNumber g_text_elements v_told_drawSeed v_told_tunes_tuneCount f_told_tunes_beats f_told_tunes_noteCounts f_told_tunes_pitches) H := hP
  have hD : va_D A (wX4_readNote cI cJ cS a_o a_text a_text_elements a_told a_told_tunes a_told_tunes_beats a_told_tunes_noteCounts a_told_tunes_pitches z_told_stretches z_told_cars z_told_demands w5_0 w5_1 v_text_held v_text_sort v_text_elementCount v_text_stretchNumber g_text_elements v_told_drawSeed v_told_tunes_tuneCount f_told_tunes_beats f_told_tunes_noteCounts f_told_tunes_pitches) := hD
  refine lv_istore_n (lv' := [(1, .int r5), (0, .ref a_o)]) hx hb dX4_readNote_8 rfl hl (by decide) rfl (fun ls hl => ?_)
  refine lv_iload_n hx hb dX4_readNote_9 rfl (lv_at hl 0 rfl) ?_
  refine lv_iconst (v := (-1)) hx hb dX4_readNote_10 (by decide) ?_
  refine lv_icmp_ne (tgt := 18) hx hb dX4_readNote_11 (by decide) (fun hc => ?_) (fun hc => ?_)
  · have h := h.2 hc
    refine lv_aload_n hx hb dX4_readNote_18 rfl (lv_at hl 1 rfl) ?_
    refine lv_iconst (v := 1) hx hb dX4_readNote_19 (by decide) ?_
    refine lv_bipush (v := 16) hx hb dX4_readNote_20 (by decide) ?_
    refine rw_i (rwV S hE hT hS hP hD hA (c_X4_readNumber h) [0, 1, 2] rfl (by decide +kernel) lkX4_124 rfl ⟨(Nat.le_of_ble_eq_true rfl), (Nat.le_of_ble_eq_true rfl)⟩ 0 rfl rfl hl.1 rfl (Nat.le_of_ble_eq_true rfl) dX4_readNote_22 ⟨(Nat.zero_le _), (Nat.zero_le _)⟩) hP hD hS hA [0, 1, 2] rfl (by decide +kernel) (fun _ => rfl) (fun r22 u22 H locs h hP hD hS => ?_)
    obtain ⟨w22_0, w22_1⟩ := u22
    try dsimp only at h
    have hP : va_P D vwCl (wX4_readNote cI cJ cS a_o a_text a_text_elements a_told a_told_tunes a_told_tunes_beats a_told_tunes_noteCounts a_told_tunes_pitches z_told_stretches z_told_cars z_told_demands w22_0 w22_1 v_text_held v_text_sort v_text_elementCount v_text_stretchNumber g_text_elements v_told_drawSeed v_told_tunes_tuneCount f_told_tunes_beats f_told_tunes_noteCounts f_told_tunes_pitches) H := hP
    have hD : va_D A (wX4_readNote cI cJ cS a_o a_text a_text_elements a_told a_told_tunes a_told_tunes_beats a_told_tunes_noteCounts a_told_tunes_pitches z_told_stretches z_told_cars z_told_demands w22_0 w22_1 v_text_held v_text_sort v_text_elementCount v_text_stretchNumber g_text_elements v_told_drawSeed v_told_tunes_tuneCount f_told_tunes_beats f_told_tunes_noteCounts f_told_tunes_pitches) := hD
    refine w_X4_readNote_25 S hE hT hA hr hlocks _ _ _ h hP hD hS (lv_sub hl [1, 0] rfl)
  have h := h.1 hc
  refine lv_iconst (v := (-1)) hx hb dX4_readNote_14 (by decide) ?_
  refine lv_goto (tgt := 25) hx hb dX4_readNote_15 (by decide) ?_
  refine w_X4_readNote_25 S hE hT hA hr hlocks _ _ _ h hP hD hS (lv_sub hl [1, 0] rfl)
