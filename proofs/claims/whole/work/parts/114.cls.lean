/-! X9_shareServed -/
abbrev wX9_shareServed (cI cJ cS : ClassId) (a_o a_cutting a_cutting_offs a_cutting_spaces a_road a_road_cars a_road_cars_shares a_road_cars_speeds a_road_demands a_road_tunes a_road_tunes_noteCounts a_road_tunes_pitches : Nat) (z_kept z_ahead z_shelves z_acting z_refused z_cutting_times z_road_stretches z_road_cars_bases z_road_tunes_beats : Value) (v_imaged : Int32) (v_lastFault : Int32) (v_cutting_noteCount : Int32) (f_cutting_offs : Nat → Int32) (f_cutting_spaces : Nat → Int32) (v_road_drawSeed : Int32) (v_road_cars_carCount : Int32) (f_road_cars_shares : Nat → Int32) (f_road_cars_speeds : Nat → Int32) (f_road_demands : Nat → Int32) (v_road_tunes_tuneCount : Int32) (f_road_tunes_noteCounts : Nat → Int32) (f_road_tunes_pitches : Nat → Int32) : va_W := [(a_o, .inr (8, [.ref a_road, z_kept, z_ahead, z_shelves, .ref a_cutting, z_acting, z_refused, .int v_imaged, .int v_lastFault])), (a_cutting, .inr (2, [.ref a_cutting_spaces, .ref a_cutting_offs, z_cutting_times, .int v_cutting_noteCount])), (a_cutting_offs, .inl (cI, 12, .inl f_cutting_offs)), (a_cutting_spaces, .inl (cI, 12, .inl f_cutting_spaces)), (a_road, .inr (4, [z_road_stretches, .ref a_road_cars, .ref a_road_tunes, .ref a_road_demands, .int v_road_drawSeed])), (a_road_cars, .inr (1, [.ref a_road_cars_speeds, z_road_cars_bases, .ref a_road_cars_shares, .int v_road_cars_carCount])), (a_road_cars_shares, .inl (cI, 6, .inl f_road_cars_shares)), (a_road_cars_speeds, .inl (cI, 6, .inl f_road_cars_speeds)), (a_road_demands, .inl (cI, 4, .inl f_road_demands)), (a_road_tunes, .inr (7, [.ref a_road_tunes_pitches, z_road_tunes_beats, .ref a_road_tunes_noteCounts, .int v_road_tunes_tuneCount])), (a_road_tunes_noteCounts, .inl (cI, 6, .inl f_road_tunes_noteCounts)), (a_road_tunes_pitches, .inl (cI, 72, .inl f_road_tunes_pitches))]
def F_X9_shareServed_75 (k18 : Int32 → Int32 → Prop) (x1 : Int32) (x3 : Int32) (x4 : Int32) (v_cutting_noteCount : Int32) (f_cutting_offs : Nat → Int32) (f_cutting_spaces : Nat → Int32) : Prop := (∀ x4_75 : Int32, x4_75 = x4 + 1 → k18 x3 x4_75)
def L_X9_shareServed_18 (v_road_cars_carCount : Int32) (f_road_cars_shares : Nat → Int32) (f_road_cars_speeds : Nat → Int32) (f_road_demands : Nat → Int32) (v_road_tunes_tuneCount : Int32) (f_road_tunes_noteCounts : Nat → Int32) (f_road_tunes_pitches : Nat → Int32) (x1 : Int32) (v_cutting_noteCount : Int32) (f_cutting_offs : Nat → Int32) (f_cutting_spaces : Nat → Int32) (post : Int32 → Int32 → (Nat → Int32) → (Nat → Int32) → Prop) : Nat → Int32 → Int32 → Prop
  | 0, _, _ => False
  | n18 + 1, x3, x4 => (F_X1_count v_road_cars_carCount (fun r27 => ((r27 ≤ x4 → post x3 v_cutting_noteCount f_cutting_offs f_cutting_spaces) ∧ (¬ r27 ≤ x4 → (F_X1_speedOf v_road_cars_carCount f_road_cars_speeds x4 (fun r51 => (F_X2_isHeardAt v_cutting_noteCount f_road_demands v_road_tunes_tuneCount f_road_tunes_noteCounts f_road_tunes_pitches f_cutting_spaces x1 r51 (fun r54 => ((r54 = 0 → F_X9_shareServed_75 (fun x3 x4 => L_X9_shareServed_18 v_road_cars_carCount f_road_cars_shares f_road_cars_speeds f_road_demands v_road_tunes_tuneCount f_road_tunes_noteCounts f_road_tunes_pitches x1 v_cutting_noteCount f_cutting_offs f_cutting_spaces post n18 x3 x4) x1 x3 x4 v_cutting_noteCount f_cutting_offs f_cutting_spaces) ∧ (¬ r54 = 0 → (F_X1_shareOf v_road_cars_carCount f_road_cars_shares x4 (fun r70 => (∀ x3_74 : Int32, x3_74 = x3 + r70 → F_X9_shareServed_75 (fun x3 x4 => L_X9_shareServed_18 v_road_cars_carCount f_road_cars_shares f_road_cars_speeds f_road_demands v_road_tunes_tuneCount f_road_tunes_noteCounts f_road_tunes_pitches x1 v_cutting_noteCount f_cutting_offs f_cutting_spaces post n18 x3 x4) x1 x3_74 x4 v_cutting_noteCount f_cutting_offs f_cutting_spaces)))))))))))))
def F_X9_shareServed (v_cutting_noteCount : Int32) (f_cutting_offs : Nat → Int32) (f_cutting_spaces : Nat → Int32) (v_road_cars_carCount : Int32) (f_road_cars_shares : Nat → Int32) (f_road_cars_speeds : Nat → Int32) (f_road_demands : Nat → Int32) (v_road_tunes_tuneCount : Int32) (f_road_tunes_noteCounts : Nat → Int32) (f_road_tunes_pitches : Nat → Int32) (x1 : Int32) (x2 : Int32) (post : Int32 → Int32 → (Nat → Int32) → (Nat → Int32) → Prop) : Prop := (F_X2_chooseSpaces v_cutting_noteCount f_cutting_offs f_road_demands v_road_tunes_tuneCount f_road_tunes_noteCounts f_road_tunes_pitches f_cutting_spaces x1 x2 (fun w10_0 w10_1 w10_2 => (∃ n18 : Nat, L_X9_shareServed_18 v_road_cars_carCount f_road_cars_shares f_road_cars_speeds f_road_demands v_road_tunes_tuneCount f_road_tunes_noteCounts f_road_tunes_pitches x1 w10_0 w10_1 w10_2 post n18 0 0)))
set_option maxHeartbeats 4000000 in
set_option maxRecDepth 100000 in
theorem w_X9_shareServed_75 {l : Launch} {D : va_G} {cI cJ cS : ClassId} {ad adK : Nat → Nat} {a_o a_cutting a_cutting_offs a_cutting_spaces a_road a_road_cars a_road_cars_shares a_road_cars_speeds a_road_demands a_road_tunes a_road_tunes_noteCounts a_road_tunes_pitches : Nat} {z_kept z_ahead z_shelves z_acting z_refused z_cutting_times z_road_stretches z_road_cars_bases z_road_tunes_beats : Value} {v_imaged : Int32} {v_lastFault : Int32} {v_cutting_noteCount : Int32} {f_cutting_offs : Nat → Int32} {f_cutting_spaces : Nat → Int32} {v_road_drawSeed : Int32} {v_road_cars_carCount : Int32} {f_road_cars_shares : Nat → Int32} {f_road_cars_speeds : Nat → Int32} {f_road_demands : Nat → Int32} {v_road_tunes_tuneCount : Int32} {f_road_tunes_noteCounts : Nat → Int32} {f_road_tunes_pitches : Nat → Int32} {x1 : Int32} {x3 : Int32} {x4 : Int32} {post : Int32 → Int32 → (Nat → Int32) → (Nat → Int32) → Prop} {k18 : Int32 → Int32 → Prop} {p : Program} {e : Env} {s : State} {m : MethodId} {args : Array Value} {below : List Frame} {meth : Method} {c : Code} {A : Nat → Prop} (S : CallFix p m c cX9_shareServed 5 s args GW "RoadThatSings") (hE : EN D cI cJ cS s) (hT : ST ad adK A s s.heap) (hA : ∀ q : Nat, s.heap.size ≤ q → A q) (hr : meth.sig.returnType = (some (.int))) (hlocks : meth.locks = false) (hk18 : ∀ (x3 : Int32) (x4 : Int32) (H : Heap) (locs : List Loc) (ls : Array Slot), k18 x3 x4 → va_P D vwCl (wX9_shareServed cI cJ cS a_o a_cutting a_cutting_offs a_cutting_spaces a_road a_road_cars a_road_cars_shares a_road_cars_speeds a_road_demands a_road_tunes a_road_tunes_noteCounts a_road_tunes_pitches z_kept z_ahead z_shelves z_acting z_refused z_cutting_times z_road_stretches z_road_cars_bases z_road_tunes_beats v_imaged v_lastFault v_cutting_noteCount f_cutting_offs f_cutting_spaces v_road_drawSeed v_road_cars_carCount f_road_cars_shares f_road_cars_speeds f_road_demands v_road_tunes_tuneCount f_road_tunes_noteCounts f_road_tunes_pitches) H → va_D A (wX9_shareServed cI cJ cS a_o a_cutting a_cutting_offs a_cutting_spaces a_road a_road_cars a_road_cars_shares a_road_cars_speeds a_road_demands a_road_tunes a_road_tunes_noteCounts a_road_tunes_pitches z_kept z_ahead z_shelves z_acting z_refused z_cutting_times z_road_stretches z_road_cars_bases z_road_tunes_beats v_imaged v_lastFault v_cutting_noteCount f_cutting_offs f_cutting_spaces v_road_drawSeed v_road_cars_carCount f_road_cars_shares f_road_cars_speeds f_road_demands v_road_tunes_tuneCount f_road_tunes_noteCounts f_road_tunes_pitches) → va_S A s.heap H locs → lv_has ls 5 [(0, .ref a_o), (1, .int x1), (3, .int x3), (4, .int x4)] → W p l e (rmd 4 0 0) s m args below meth c H locs 0 0 (MQ below (va_Qi (fun r (u : Int32 × (Nat → Int32) × (Nat → Int32)) => post r u.1 u.2.1 u.2.2) (fun u t => va_P D vwCl (wX9_shareServed cI cJ cS a_o a_cutting a_cutting_offs a_cutting_spaces a_road a_road_cars a_road_cars_shares a_road_cars_speeds a_road_demands a_road_tunes a_road_tunes_noteCounts a_road_tunes_pitches z_kept z_ahead z_shelves z_acting z_refused z_cutting_times z_road_stretches z_road_cars_bases z_road_tunes_beats v_imaged v_lastFault u.1 u.2.1 u.2.2 v_road_drawSeed v_road_cars_carCount f_road_cars_shares f_road_cars_speeds f_road_demands v_road_tunes_tuneCount f_road_tunes_noteCounts f_road_tunes_pitches) t.heap) A) args s 0 0 A) (F0 m 18 ls [])) : ∀ (H : Heap) (locs : List Loc) (ls : Array Slot), F_X9_shareServed_75 k18 x1 x3 x4 v_cutting_noteCount f_cutting_offs f_cutting_spaces → va_P D vwCl (wX9_shareServed cI cJ cS a_o a_cutting a_cutting_offs a_cutting_spaces a_road a_road_cars a_road_cars_shares a_road_cars_speeds a_road_demands a_road_tunes a_road_tunes_noteCounts a_road_tunes_pitches z_kept z_ahead z_shelves z_acting z_refused z_cutting_times z_road_stretches z_road_cars_bases z_road_tunes_beats v_imaged v_lastFault v_cutting_noteCount f_cutting_offs f_cutting_spaces v_road_drawSeed v_road_cars_carCount f_road_cars_shares f_road_cars_speeds f_road_demands v_road_tunes_tuneCount f_road_tunes_noteCounts f_road_tunes_pitches) H → va_D A (wX9_shareServed cI cJ cS a_o a_cutting a_cutting_offs a_cutting_spaces a_road a_road_cars a_road_cars_shares a_road_cars_speeds a_road_demands a_road_tunes a_road_tunes_noteCounts a_road_tunes_pitches z_kept z_ahead z_shelves z_acting z_refused z_cutting_times z_road_stretches z_road_cars_bases z_road_tunes_beats v_imaged v_lastFault v_cutting_noteCount f_cutting_offs f_cutting_spaces v_road_drawSeed v_road_cars_carCount f_road_cars_shares f_road_cars_speeds f_road_demands v_road_tunes_tuneCount f_road_tunes_noteCounts f_road_tunes_pitches) → va_S A s.heap H locs → lv_has ls 5 [(0, .ref a_o), (1, .int x1), (3, .int x3), (4, .int x4)] → W p l e (rmd 4 0 0) s m args below meth c H locs 0 0 (MQ below (va_Qi (fun r (u : Int32 × (Nat → Int32) × (Nat → Int32)) => post r u.1 u.2.1 u.2.2) (fun u t => va_P D vwCl (wX9_shareServed cI cJ cS a_o a_cutting a_cutting_offs a_cutting_spaces a_road a_road_cars a_road_cars_shares a_road_cars_speeds a_road_demands a_road_tunes a_road_tunes_noteCounts a_road_tunes_pitches z_kept z_ahead z_shelves z_acting z_refused z_cutting_times z_road_stretches z_road_cars_bases z_road_tunes_beats v_imaged v_lastFault u.1 u.2.1 u.2.2 v_road_drawSeed v_road_cars_carCount f_road_cars_shares f_road_cars_speeds f_road_demands v_road_tunes_tuneCount f_road_tunes_noteCounts f_road_tunes_pitches) t.heap) A) args s 0 0 A) (F0 m 75 ls []) := by
  intro  H locs ls h hP hD hS hl
  unfold F_X9_shareServed_75 at h
  have hx := S.1
  have hb := S.2.1
  obtain ⟨x4_75, ex4_75⟩ : ∃ z : Int32, z = x4 + 1 := ⟨_, rfl⟩
  have h := h _ ex4_75
  refine lv_iinc (v := x4_75) (lv' := [(4, .int x4_75), (0, .ref a_o), (1, .int x1), (3, .int x3)]) hx hb dX9_shareServed_75 hl (k := 3) rfl (by rw [ex4_75]; rfl) (by decide) rfl (fun ls hl => ?_)
  refine lv_goto (tgt := 18) hx hb dX9_shareServed_78 (by decide) ?_
  exact hk18 _ _ _ _ _ h hP hD hS (lv_sub hl [1, 2, 3, 0] rfl)
set_option maxHeartbeats 4000000 in
set_option maxRecDepth 100000 in
theorem w_X9_shareServed_18 {l : Launch} {D : va_G} {cI cJ cS : ClassId} {ad adK : Nat → Nat} {a_o a_cutting a_cutting_offs a_cutting_spaces a_road a_road_cars a_road_cars_shares a_road_cars_speeds a_road_demands a_road_tunes a_road_tunes_noteCounts a_road_tunes_pitches : Nat} {z_kept z_ahead z_shelves z_acting z_refused z_cutting_times z_road_stretches z_road_cars_bases z_road_tunes_beats : Value} {v_imaged : Int32} {v_lastFault : Int32} {v_cutting_noteCount : Int32} {f_cutting_offs : Nat → Int32} {f_cutting_spaces : Nat → Int32} {v_road_drawSeed : Int32} {v_road_cars_carCount : Int32} {f_road_cars_shares : Nat → Int32} {f_road_cars_speeds : Nat → Int32} {f_road_demands : Nat → Int32} {v_road_tunes_tuneCount : Int32} {f_road_tunes_noteCounts : Nat → Int32} {f_road_tunes_pitches : Nat → Int32} {x1 : Int32} {post : Int32 → Int32 → (Nat → Int32) → (Nat → Int32) → Prop} {p : Program} {e : Env} {s : State} {m : MethodId} {args : Array Value} {below : List Frame} {meth : Method} {c : Code} {A : Nat → Prop} (S : CallFix p m c cX9_shareServed 5 s args GW "RoadThatSings") (hE : EN D cI cJ cS s) (hT : ST ad adK A s s.heap) (hA : ∀ q : Nat, s.heap.size ≤ q → A q) (hr : meth.sig.returnType = (some (.int))) (hlocks : meth.locks = false) : ∀ n : Nat, ∀ (x3 : Int32) (x4 : Int32) (H : Heap) (locs : List Loc) (ls : Array Slot), L_X9_shareServed_18 v_road_cars_carCount f_road_cars_shares f_road_cars_speeds f_road_demands v_road_tunes_tuneCount f_road_tunes_noteCounts f_road_tunes_pitches x1 v_cutting_noteCount f_cutting_offs f_cutting_spaces post n x3 x4 → va_P D vwCl (wX9_shareServed cI cJ cS a_o a_cutting a_cutting_offs a_cutting_spaces a_road a_road_cars a_road_cars_shares a_road_cars_speeds a_road_demands a_road_tunes a_road_tunes_noteCounts a_road_tunes_pitches z_kept z_ahead z_shelves z_acting z_refused z_cutting_times z_road_stretches z_road_cars_bases z_road_tunes_beats v_imaged v_lastFault v_cutting_noteCount f_cutting_offs f_cutting_spaces v_road_drawSeed v_road_cars_carCount f_road_cars_shares f_road_cars_speeds f_road_demands v_road_tunes_tuneCount f_road_tunes_noteCounts f_road_tunes_pitches) H → va_D A (wX9_shareServed cI cJ cS a_o a_cutting a_cutting_offs a_cutting_spaces a_road a_road_cars a_road_cars_shares a_road_cars_speeds a_road_demands a_road_tunes a_road_tunes_noteCounts a_road_tunes_pitches z_kept z_ahead z_shelves z_acting z_refused z_cutting_times z_road_stretches z_road_cars_bases z_road_tunes_beats v_imaged v_lastFault v_cutting_noteCount f_cutting_offs f_cutting_spaces v_road_drawSeed v_road_cars_carCount f_road_cars_shares f_road_cars_speeds f_road_demands v_road_tunes_tuneCount f_road_tunes_noteCounts f_road_tunes_pitches) → va_S A s.heap H locs → lv_has ls 5 [(0, .ref a_o), (1, .int x1), (3, .int x3), (4, .int x4)] → W p l e (rmd 4 0 0) s m args below meth c H locs 0 0 (MQ below (va_Qi (fun r (u : Int32 × (Nat → Int32) × (Nat → Int32)) => post r u.1 u.2.1 u.2.2) (fun u t => va_P D vwCl (wX9_shareServed cI cJ cS a_o a_cutting a_cutting_offs a_cutting_spaces a_road a_road_cars a_road_cars_shares a_road_cars_speeds a_road_demands a_road_tunes a_road_tunes_noteCounts a_road_tunes_pitches z_kept z_ahead z_shelves z_acting z_refused z_cutting_times z_road_stretches z_road_cars_bases z_road_tunes_beats v_imaged v_lastFault u.1 u.2.1 u.2.2 v_road_drawSeed v_road_cars_carCount f_road_cars_shares f_road_cars_speeds f_road_demands v_road_tunes_tuneCount f_road_tunes_noteCounts f_road_tunes_pitches) t.heap) A) args s 0 0 A) (F0 m 18 ls []) := by
  intro n
  induction n with
  | zero =>
    intro x3 x4 H locs ls h hP hD hS hl
    exact h.elim
  | succ n ih =>
    intro x3 x4 H locs ls h hP hD hS hl
    rw [L_X9_shareServed_18] at h
    have hx := S.1
    have hb := S.2.1
    refine lv_iload hx hb dX9_shareServed_18 (lv_at hl 3 rfl) ?_
    refine lv_aload_n hx hb dX9_shareServed_20 rfl (lv_at hl 0 rfl) ?_
    refine gf S hE hP 0 rfl rfl inX9 (k := 0) (by decide) q181 rfl dX9_shareServed_21 ?_
    refine gfN S hE hP 4 rfl rfl inX5 (k := 1) (by decide) nfX9_180 rfl dX9_shareServed_24 ?_
    refine ro_i (roV S hE hT hS (c_X1_count h) lkX9_328 rfl ⟨(Nat.le_of_ble_eq_true rfl), (Nat.le_of_ble_eq_true rfl)⟩ (hP.sub [5] rfl) 0 rfl rfl hl.1 rfl (Nat.le_of_ble_eq_true rfl) dX9_shareServed_27 ⟨(Nat.zero_le _), (Nat.zero_le _)⟩) (fun r27 h => ?_)
    refine lv_icmp_ge (tgt := 81) hx hb dX9_shareServed_30 (by decide) (fun hc => ?_) (fun hc => ?_)
    · have h := h.1 hc
      refine lv_iload_n hx hb dX9_shareServed_81 rfl (lv_at hl 2 rfl) ?_
      exact W.iret hx hb hr (fun t ht _ => ⟨⟨_, (v_cutting_noteCount, f_cutting_offs, f_cutting_spaces), rfl, h, hPt hP ht⟩, hS.F ht⟩) hS.2.2 dX9_shareServed_82
    have h := h.2 hc
    refine lv_aload_n hx hb dX9_shareServed_33 rfl (lv_at hl 0 rfl) ?_
    refine gf S hE hP 0 rfl rfl inX9 (k := 4) (by decide) q185 rfl dX9_shareServed_34 ?_
    refine lv_aload_n hx hb dX9_shareServed_37 rfl (lv_at hl 0 rfl) ?_
    refine gf S hE hP 0 rfl rfl inX9 (k := 0) (by decide) q181 rfl dX9_shareServed_38 ?_
    refine lv_iload_n hx hb dX9_shareServed_41 rfl (lv_at hl 1 rfl) ?_
    refine lv_aload_n hx hb dX9_shareServed_42 rfl (lv_at hl 0 rfl) ?_
    refine gf S hE hP 0 rfl rfl inX9 (k := 0) (by decide) q181 rfl dX9_shareServed_43 ?_
    refine gfN S hE hP 4 rfl rfl inX5 (k := 1) (by decide) nfX9_180 rfl dX9_shareServed_46 ?_
    refine lv_iload hx hb dX9_shareServed_49 (lv_at hl 3 rfl) ?_
    refine ro_i (roV S hE hT hS (c_X1_speedOf h) lkX9_194 rfl ⟨(Nat.le_of_ble_eq_true rfl), (Nat.le_of_ble_eq_true rfl)⟩ (hP.sub [5, 7] rfl) 0 rfl rfl hl.1 rfl (Nat.le_of_ble_eq_true rfl) dX9_shareServed_51 ⟨(Nat.zero_le _), (Nat.zero_le _)⟩) (fun r51 h => ?_)
    refine ro_i (roV S hE hT hS (c_X2_isHeardAt h) lkX9_329 rfl ⟨(Nat.le_of_ble_eq_true rfl), (Nat.le_of_ble_eq_true rfl)⟩ (hP.sub [1, 4, 8, 9, 10, 11, 3] rfl) 0 rfl rfl hl.1 rfl (Nat.le_of_ble_eq_true rfl) dX9_shareServed_54 ⟨(Nat.zero_le _), (Nat.zero_le _)⟩) (fun r54 h => ?_)
    refine lv_if_eq (tgt := 75) hx hb dX9_shareServed_57 (by decide) (fun hc => ?_) (fun hc => ?_)
    · have h := h.1 hc
      refine w_X9_shareServed_75 S hE hT hA hr hlocks ih _ _ _ h hP hD hS (lv_sub hl [0, 1, 2, 3] rfl)
    have h := h.2 hc
    refine lv_iload_n hx hb dX9_shareServed_60 rfl (lv_at hl 2 rfl) ?_
    refine lv_aload_n hx hb dX9_shareServed_61 rfl (lv_at hl 0 rfl) ?_
    refine gf S hE hP 0 rfl rfl inX9 (k := 0) (by decide) q181 rfl dX9_shareServed_62 ?_
    refine gfN S hE hP 4 rfl rfl inX5 (k := 1) (by decide) nfX9_180 rfl dX9_shareServed_65 ?_
    refine lv_iload hx hb dX9_shareServed_68 (lv_at hl 3 rfl) ?_
    refine ro_i (roV S hE hT hS (c_X1_shareOf h) lkX9_200 rfl ⟨(Nat.le_of_ble_eq_true rfl), (Nat.le_of_ble_eq_true rfl)⟩ (hP.sub [5, 6] rfl) 0 rfl rfl hl.1 rfl (Nat.le_of_ble_eq_true rfl) dX9_shareServed_70 ⟨(Nat.zero_le _), (Nat.zero_le _)⟩) (fun r70 h => ?_)
    refine lv_iadd hx hb dX9_shareServed_73 ?_
    refine lv_topi (fun x3_74 ex3_74 => ?_)
    have h := h _ ex3_74
    refine lv_istore_n (lv' := [(3, .int x3_74), (0, .ref a_o), (1, .int x1), (4, .int x4)]) hx hb dX9_shareServed_74 rfl hl (by decide) rfl (fun ls hl => ?_)
    refine w_X9_shareServed_75 S hE hT hA hr hlocks ih _ _ _ h hP hD hS (lv_sub hl [1, 2, 0, 3] rfl)
set_option maxHeartbeats 4000000 in
set_option maxRecDepth 100000 in
theorem c_X9_shareServed {l : Launch} {D : va_G} {cI cJ cS : ClassId} {ad adK : Nat → Nat} {a_o a_cutting a_cutting_offs a_cutting_spaces a_road a_road_cars a_road_cars_shares a_road_cars_speeds a_road_demands a_road_tunes a_road_tunes_noteCounts a_road_tunes_pitches : Nat} {z_kept z_ahead z_shelves z_acting z_refused z_cutting_times z_road_stretches z_road_cars_bases z_road_tunes_beats : Value} {v_imaged : Int32} {v_lastFault : Int32} {v_cutting_noteCount : Int32} {f_cutting_offs : Nat → Int32} {f_cutting_spaces : Nat → Int32} {v_road_drawSeed : Int32} {v_road_cars_carCount : Int32} {f_road_cars_shares : Nat → Int32} {f_road_cars_speeds : Nat → Int32} {f_road_demands : Nat → Int32} {v_road_tunes_tuneCount : Int32} {f_road_tunes_noteCounts : Nat → Int32} {f_road_tunes_pitches : Nat → Int32} {x1 : Int32} {x2 : Int32} {post : Int32 → Int32 → (Nat → Int32) → (Nat → Int32) → Prop} (h : F_X9_shareServed v_cutting_noteCount f_cutting_offs f_cutting_spaces v_road_cars_carCount f_road_cars_shares f_road_cars_speeds f_road_demands v_road_tunes_tuneCount f_road_tunes_noteCounts f_road_tunes_pitches x1 x2 post) {sz : Nat} : Met l yX9_shareServed (Cond.code yX9_shareServed cX9_shareServed 5 (some (.int)) :: GW) (rmd 4 0 0) (PW D cI cJ cS ad adK [.ref a_o, .int x1, .int x2] (wX9_shareServed cI cJ cS a_o a_cutting a_cutting_offs a_cutting_spaces a_road a_road_cars a_road_cars_shares a_road_cars_speeds a_road_demands a_road_tunes a_road_tunes_noteCounts a_road_tunes_pitches z_kept z_ahead z_shelves z_acting z_refused z_cutting_times z_road_stretches z_road_cars_bases z_road_tunes_beats v_imaged v_lastFault v_cutting_noteCount f_cutting_offs f_cutting_spaces v_road_drawSeed v_road_cars_carCount f_road_cars_shares f_road_cars_speeds f_road_demands v_road_tunes_tuneCount f_road_tunes_noteCounts f_road_tunes_pitches) sz) (va_Qi (fun r (u : Int32 × (Nat → Int32) × (Nat → Int32)) => post r u.1 u.2.1 u.2.2) (fun u t => va_P D vwCl (wX9_shareServed cI cJ cS a_o a_cutting a_cutting_offs a_cutting_spaces a_road a_road_cars a_road_cars_shares a_road_cars_speeds a_road_demands a_road_tunes a_road_tunes_noteCounts a_road_tunes_pitches z_kept z_ahead z_shelves z_acting z_refused z_cutting_times z_road_stretches z_road_cars_bases z_road_tunes_beats v_imaged v_lastFault u.1 u.2.1 u.2.2 v_road_drawSeed v_road_cars_carCount f_road_cars_shares f_road_cars_speeds f_road_demands v_road_tunes_tuneCount f_road_tunes_noteCounts f_road_tunes_pitches) t.heap) (va_A (wX9_shareServed cI cJ cS a_o a_cutting a_cutting_offs a_cutting_spaces a_road a_road_cars a_road_cars_shares a_road_cars_speeds a_road_demands a_road_tunes a_road_tunes_noteCounts a_road_tunes_pitches z_kept z_ahead z_shelves z_acting z_refused z_cutting_times z_road_stretches z_road_cars_bases z_road_tunes_beats v_imaged v_lastFault v_cutting_noteCount f_cutting_offs f_cutting_spaces v_road_drawSeed v_road_cars_carCount f_road_cars_shares f_road_cars_speeds f_road_demands v_road_tunes_tuneCount f_road_tunes_noteCounts f_road_tunes_pitches) sz)) 0 0 (va_A (wX9_shareServed cI cJ cS a_o a_cutting a_cutting_offs a_cutting_spaces a_road a_road_cars a_road_cars_shares a_road_cars_speeds a_road_demands a_road_tunes a_road_tunes_noteCounts a_road_tunes_pitches z_kept z_ahead z_shelves z_acting z_refused z_cutting_times z_road_stretches z_road_cars_bases z_road_tunes_beats v_imaged v_lastFault v_cutting_noteCount f_cutting_offs f_cutting_spaces v_road_drawSeed v_road_cars_carCount f_road_cars_shares f_road_cars_speeds f_road_demands v_road_tunes_tuneCount f_road_tunes_noteCounts f_road_tunes_pitches) sz) := by
  refine Met.rw (Qc := fun A => (va_Qi (fun r (u : Int32 × (Nat → Int32) × (Nat → Int32)) => post r u.1 u.2.1 u.2.2) (fun u t => va_P D vwCl (wX9_shareServed cI cJ cS a_o a_cutting a_cutting_offs a_cutting_spaces a_road a_road_cars a_road_cars_shares a_road_cars_speeds a_road_demands a_road_tunes a_road_tunes_noteCounts a_road_tunes_pitches z_kept z_ahead z_shelves z_acting z_refused z_cutting_times z_road_stretches z_road_cars_bases z_road_tunes_beats v_imaged v_lastFault u.1 u.2.1 u.2.2 v_road_drawSeed v_road_cars_carCount f_road_cars_shares f_road_cars_speeds f_road_demands v_road_tunes_tuneCount f_road_tunes_noteCounts f_road_tunes_pitches) t.heap) A)) (by decide) (Nat.le_of_ble_eq_true rfl) (fun p e s m args below meth c ls A (S : CallFix p m c cX9_shareServed 5 s args GW "RoadThatSings") hE hT hP hD hA hS hr hlocks hname hl => ?_)
  have hS0 := hS
  have hx := S.1
  have hb := S.2.1
  have hl : lv_has ls 5 [(0, .ref a_o), (1, .int x1), (2, .int x2)] := hl
  unfold F_X9_shareServed at h
  refine lv_aload_n hx hb dX9_shareServed_0 rfl (lv_at hl 0 rfl) ?_
  refine gf S hE hP 0 rfl rfl inX9 (k := 4) (by decide) q185 rfl dX9_shareServed_1 ?_
  refine lv_aload_n hx hb dX9_shareServed_4 rfl (lv_at hl 0 rfl) ?_
  refine gf S hE hP 0 rfl rfl inX9 (k := 0) (by decide) q181 rfl dX9_shareServed_5 ?_
  refine lv_iload_n hx hb dX9_shareServed_8 rfl (lv_at hl 1 rfl) ?_
  refine lv_iload_n hx hb dX9_shareServed_9 rfl (lv_at hl 2 rfl) ?_
  refine rw_v (rwV S hE hT hS hP hD hA (c_X2_chooseSpaces h) [1, 2, 4, 8, 9, 10, 11, 3] rfl (by decide +kernel) lkX9_325 rfl ⟨(Nat.le_of_ble_eq_true rfl), (Nat.le_of_ble_eq_true rfl)⟩ 1 rfl rfl hl.1 rfl (Nat.le_of_ble_eq_true rfl) dX9_shareServed_10 ⟨(Nat.zero_le _), (Nat.zero_le _)⟩) hP hD hS hA [1, 2, 4, 8, 9, 10, 11, 3] rfl (by decide +kernel) (fun _ => rfl) (fun u10 H locs h hP hD hS => ?_)
  obtain ⟨w10_0, w10_1, w10_2⟩ := u10
  try dsimp only at h
  have hP : va_P D vwCl (wX9_shareServed cI cJ cS a_o a_cutting a_cutting_offs a_cutting_spaces a_road a_road_cars a_road_cars_shares a_road_cars_speeds a_road_demands a_road_tunes a_road_tunes_noteCounts a_road_tunes_pitches z_kept z_ahead z_shelves z_acting z_refused z_cutting_times z_road_stretches z_road_cars_bases z_road_tunes_beats v_imaged v_lastFault w10_0 w10_1 w10_2 v_road_drawSeed v_road_cars_carCount f_road_cars_shares f_road_cars_speeds f_road_demands v_road_tunes_tuneCount f_road_tunes_noteCounts f_road_tunes_pitches) H := wsetP 12 [0, 5, 6, 7] hP rfl ⟨rfl, rfl, rfl, rfl, trivial⟩ rfl rfl (by decide +kernel) (by decide +kernel) (by decide +kernel)
  have hD : va_D A (wX9_shareServed cI cJ cS a_o a_cutting a_cutting_offs a_cutting_spaces a_road a_road_cars a_road_cars_shares a_road_cars_speeds a_road_demands a_road_tunes a_road_tunes_noteCounts a_road_tunes_pitches z_kept z_ahead z_shelves z_acting z_refused z_cutting_times z_road_stretches z_road_cars_bases z_road_tunes_beats v_imaged v_lastFault w10_0 w10_1 w10_2 v_road_drawSeed v_road_cars_carCount f_road_cars_shares f_road_cars_speeds f_road_demands v_road_tunes_tuneCount f_road_tunes_noteCounts f_road_tunes_pitches) := wsetD 12 [0, 5, 6, 7] hD rfl ⟨rfl, rfl, rfl, rfl, trivial⟩ rfl rfl (by decide +kernel) (by decide +kernel) (by decide +kernel)
  refine lv_iconst (v := 0) hx hb dX9_shareServed_13 (by decide) ?_
  refine lv_istore_n (lv' := [(3, .int 0), (0, .ref a_o), (1, .int x1), (2, .int x2)]) hx hb dX9_shareServed_14 rfl hl (by decide) rfl (fun ls hl => ?_)
  refine lv_iconst (v := 0) hx hb dX9_shareServed_15 (by decide) ?_
  refine lv_istore (lv' := [(4, .int 0), (3, .int 0), (0, .ref a_o), (1, .int x1), (2, .int x2)]) hx hb dX9_shareServed_16 hl (by decide) rfl (fun ls hl => ?_)
  obtain ⟨n, h⟩ := h
  refine w_X9_shareServed_18 S hE hT hA hr hlocks n _ _ _ _ _ h hP hD hS (lv_sub hl [2, 3, 1, 0] rfl)
/-! X9_served -/
abbrev wX9_served (cI cJ cS : ClassId) (a_o a_cutting a_cutting_offs a_cutting_spaces a_refused a_road a_road_cars a_road_cars_shares a_road_cars_speeds a_road_demands a_road_tunes a_road_tunes_noteCounts a_road_tunes_pitches : Nat) (z_kept z_ahead z_shelves z_acting z_cutting_times z_road_stretches z_road_cars_bases z_road_tunes_beats : Value) (v_imaged : Int32) (v_lastFault : Int32) (v_cutting_noteCount : Int32) (f_cutting_offs : Nat → Int32) (f_cutting_spaces : Nat → Int32) (f_refused : Nat → Int32) (v_road_drawSeed : Int32) (v_road_cars_carCount : Int32) (f_road_cars_shares : Nat → Int32) (f_road_cars_speeds : Nat → Int32) (f_road_demands : Nat → Int32) (v_road_tunes_tuneCount : Int32) (f_road_tunes_noteCounts : Nat → Int32) (f_road_tunes_pitches : Nat → Int32) : va_W := [(a_o, .inr (8, [.ref a_road, z_kept, z_ahead, z_shelves, .ref a_cutting, z_acting, .ref a_refused, .int v_imaged, .int v_lastFault])), (a_cutting, .inr (2, [.ref a_cutting_spaces, .ref a_cutting_offs, z_cutting_times, .int v_cutting_noteCount])), (a_cutting_offs, .inl (cI, 12, .inl f_cutting_offs)), (a_cutting_spaces, .inl (cI, 12, .inl f_cutting_spaces)), (a_refused, .inl (cI, 8, .inl f_refused)), (a_road, .inr (4, [z_road_stretches, .ref a_road_cars, .ref a_road_tunes, .ref a_road_demands, .int v_road_drawSeed])), (a_road_cars, .inr (1, [.ref a_road_cars_speeds, z_road_cars_bases, .ref a_road_cars_shares, .int v_road_cars_carCount])), (a_road_cars_shares, .inl (cI, 6, .inl f_road_cars_shares)), (a_road_cars_speeds, .inl (cI, 6, .inl f_road_cars_speeds)), (a_road_demands, .inl (cI, 4, .inl f_road_demands)), (a_road_tunes, .inr (7, [.ref a_road_tunes_pitches, z_road_tunes_beats, .ref a_road_tunes_noteCounts, .int v_road_tunes_tuneCount])), (a_road_tunes_noteCounts, .inl (cI, 6, .inl f_road_tunes_noteCounts)), (a_road_tunes_pitches, .inl (cI, 72, .inl f_road_tunes_pitches))]
def F_X9_served (v_cutting_noteCount : Int32) (f_cutting_offs : Nat → Int32) (f_cutting_spaces : Nat → Int32) (f_refused : Nat → Int32) (v_road_cars_carCount : Int32) (f_road_cars_shares : Nat → Int32) (f_road_cars_speeds : Nat → Int32) (f_road_demands : Nat → Int32) (v_road_tunes_tuneCount : Int32) (f_road_tunes_noteCounts : Nat → Int32) (f_road_tunes_pitches : Nat → Int32) (x1 : Int32) (x2 : Int32) (post : Int32 → Int32 → (Nat → Int32) → (Nat → Int32) → (Nat → Int32) → Prop) : Prop := (F_X9_refusalOfTuneAt v_road_tunes_tuneCount x1 x2 (fun r3 => ((r3 = 0 → (F_X9_shareServed v_cutting_noteCount f_cutting_offs f_cutting_spaces v_road_cars_carCount f_road_cars_shares f_road_cars_speeds f_road_demands v_road_tunes_tuneCount f_road_tunes_noteCounts f_road_tunes_pitches x1 x2 (fun r22 w22_0 w22_1 w22_2 => post r22 w22_0 w22_1 w22_2 f_refused))) ∧ (¬ r3 = 0 → (F_X9_refuse f_refused r3 (fun r13 w13_0 => post r13 v_cutting_noteCount f_cutting_offs f_cutting_spaces w13_0))))))
set_option maxHeartbeats 4000000 in
set_option maxRecDepth 100000 in
theorem c_X9_served {l : Launch} {D : va_G} {cI cJ cS : ClassId} {ad adK : Nat → Nat} {a_o a_cutting a_cutting_offs a_cutting_spaces a_refused a_road a_road_cars a_road_cars_shares a_road_cars_speeds a_road_demands a_road_tunes a_road_tunes_noteCounts a_road_tunes_pitches : Nat} {z_kept z_ahead z_shelves z_acting z_cutting_times z_road_stretches z_road_cars_bases z_road_tunes_beats : Value} {v_imaged : Int32} {v_lastFault : Int32} {v_cutting_noteCount : Int32} {f_cutting_offs : Nat → Int32} {f_cutting_spaces : Nat → Int32} {f_refused : Nat → Int32} {v_road_drawSeed : Int32} {v_road_cars_carCount : Int32} {f_road_cars_shares : Nat → Int32} {f_road_cars_speeds : Nat → Int32} {f_road_demands : Nat → Int32} {v_road_tunes_tuneCount : Int32} {f_road_tunes_noteCounts : Nat → Int32} {f_road_tunes_pitches : Nat → Int32} {x1 : Int32} {x2 : Int32} {post : Int32 → Int32 → (Nat → Int32) → (Nat → Int32) → (Nat → Int32) → Prop} (h : F_X9_served v_cutting_noteCount f_cutting_offs f_cutting_spaces f_refused v_road_cars_carCount f_road_cars_shares f_road_cars_speeds f_road_demands v_road_tunes_tuneCount f_road_tunes_noteCounts f_road_tunes_pitches x1 x2 post) {sz : Nat} : Met l yX9_served (Cond.code yX9_served cX9_served 4 (some (.int)) :: GW) (rmd 5 0 0) (PW D cI cJ cS ad adK [.ref a_o, .int x1, .int x2] (wX9_served cI cJ cS a_o a_cutting a_cutting_offs a_cutting_spaces a_refused a_road a_road_cars a_road_cars_shares a_road_cars_speeds a_road_demands a_road_tunes a_road_tunes_noteCounts a_road_tunes_pitches z_kept z_ahead z_shelves z_acting z_cutting_times z_road_stretches z_road_cars_bases z_road_tunes_beats v_imaged v_lastFault v_cutting_noteCount f_cutting_offs f_cutting_spaces f_refused v_road_drawSeed v_road_cars_carCount f_road_cars_shares f_road_cars_speeds f_road_demands v_road_tunes_tuneCount f_road_tunes_noteCounts f_road_tunes_pitches) sz) (va_Qi (fun r (u : Int32 × (Nat → Int32) × (Nat → Int32) × (Nat → Int32)) => post r u.1 u.2.1 u.2.2.1 u.2.2.2) (fun u t => va_P D vwCl (wX9_served cI cJ cS a_o a_cutting a_cutting_offs a_cutting_spaces a_refused a_road a_road_cars a_road_cars_shares a_road_cars_speeds a_road_demands a_road_tunes a_road_tunes_noteCounts a_road_tunes_pitches z_kept z_ahead z_shelves z_acting z_cutting_times z_road_stretches z_road_cars_bases z_road_tunes_beats v_imaged v_lastFault u.1 u.2.1 u.2.2.1 u.2.2.2 v_road_drawSeed v_road_cars_carCount f_road_cars_shares f_road_cars_speeds f_road_demands v_road_tunes_tuneCount f_road_tunes_noteCounts f_road_tunes_pitches) t.heap) (va_A (wX9_served cI cJ cS a_o a_cutting a_cutting_offs a_cutting_spaces a_refused a_road a_road_cars a_road_cars_shares a_road_cars_speeds a_road_demands a_road_tunes a_road_tunes_noteCounts a_road_tunes_pitches z_kept z_ahead z_shelves z_acting z_cutting_times z_road_stretches z_road_cars_bases z_road_tunes_beats v_imaged v_lastFault v_cutting_noteCount f_cutting_offs f_cutting_spaces f_refused v_road_drawSeed v_road_cars_carCount f_road_cars_shares f_road_cars_speeds f_road_demands v_road_tunes_tuneCount f_road_tunes_noteCounts f_road_tunes_pitches) sz)) 0 0 (va_A (wX9_served cI cJ cS a_o a_cutting a_cutting_offs a_cutting_spaces a_refused a_road a_road_cars a_road_cars_shares a_road_cars_speeds a_road_demands a_road_tunes a_road_tunes_noteCounts a_road_tunes_pitches z_kept z_ahead z_shelves z_acting z_cutting_times z_road_stretches z_road_cars_bases z_road_tunes_beats v_imaged v_lastFault v_cutting_noteCount f_cutting_offs f_cutting_spaces f_refused v_road_drawSeed v_road_cars_carCount f_road_cars_shares f_road_cars_speeds f_road_demands v_road_tunes_tuneCount f_road_tunes_noteCounts f_road_tunes_pitches) sz) := by
  refine Met.rw (Qc := fun A => (va_Qi (fun r (u : Int32 × (Nat → Int32) × (Nat → Int32) × (Nat → Int32)) => post r u.1 u.2.1 u.2.2.1 u.2.2.2) (fun u t => va_P D vwCl (wX9_served cI cJ cS a_o a_cutting a_cutting_offs a_cutting_spaces a_refused a_road a_road_cars a_road_cars_shares a_road_cars_speeds a_road_demands a_road_tunes a_road_tunes_noteCounts a_road_tunes_pitches z_kept z_ahead z_shelves z_acting z_cutting_times z_road_stretches z_road_cars_bases z_road_tunes_beats v_imaged v_lastFault u.1 u.2.1 u.2.2.1 u.2.2.2 v_road_drawSeed v_road_cars_carCount f_road_cars_shares f_road_cars_speeds f_road_demands v_road_tunes_tuneCount f_road_tunes_noteCounts f_road_tunes_pitches) t.heap) A)) (by decide) (Nat.le_of_ble_eq_true rfl) (fun p e s m args below meth c ls A (S : CallFix p m c cX9_served 4 s args GW "RoadThatSings") hE hT hP hD hA hS hr hlocks hname hl => ?_)
  have hS0 := hS
  have hx := S.1
  have hb := S.2.1
  have hl : lv_has ls 4 [(0, .ref a_o), (1, .int x1), (2, .int x2)] := hl
  unfold F_X9_served at h
  refine lv_aload_n hx hb dX9_served_0 rfl (lv_at hl 0 rfl) ?_
  refine lv_iload_n hx hb dX9_served_1 rfl (lv_at hl 1 rfl) ?_
  refine lv_iload_n hx hb dX9_served_2 rfl (lv_at hl 2 rfl) ?_
  refine ro_i (roV S hE hT hS (c_X9_refusalOfTuneAt h) lkX9_305 rfl ⟨(Nat.le_of_ble_eq_true rfl), (Nat.le_of_ble_eq_true rfl)⟩ (hP.sub [0, 5, 10] rfl) 0 rfl rfl hl.1 rfl (Nat.le_of_ble_eq_true rfl) dX9_served_3 ⟨(Nat.zero_le _), (Nat.zero_le _)⟩) (fun r3 h => ?_)
  refine lv_istore_n (lv' := [(3, .int r3), (0, .ref a_o), (1, .int x1), (2, .int x2)]) hx hb dX9_served_6 rfl hl (by decide) rfl (fun ls hl => ?_)
  refine lv_iload_n hx hb dX9_served_7 rfl (lv_at hl 0 rfl) ?_
  refine lv_if_eq (tgt := 19) hx hb dX9_served_8 (by decide) (fun hc => ?_) (fun hc => ?_)
  · have h := h.1 hc
    refine lv_aload_n hx hb dX9_served_19 rfl (lv_at hl 1 rfl) ?_
    refine lv_iload_n hx hb dX9_served_20 rfl (lv_at hl 2 rfl) ?_
    refine lv_iload_n hx hb dX9_served_21 rfl (lv_at hl 3 rfl) ?_
    refine rw_i (rwV S hE hT hS hP hD hA (c_X9_shareServed h) [0, 1, 2, 3, 5, 6, 7, 8, 9, 10, 11, 12] rfl (by decide +kernel) lkX9_322 rfl ⟨(Nat.le_of_ble_eq_true rfl), (Nat.le_of_ble_eq_true rfl)⟩ 0 rfl rfl hl.1 rfl (Nat.le_of_ble_eq_true rfl) dX9_served_22 ⟨(Nat.zero_le _), (Nat.zero_le _)⟩) hP hD hS hA [0, 1, 2, 3, 5, 6, 7, 8, 9, 10, 11, 12] rfl (by decide +kernel) (fun _ => rfl) (fun r22 u22 H locs h hP hD hS => ?_)
    obtain ⟨w22_0, w22_1, w22_2⟩ := u22
    try dsimp only at h
    have hP : va_P D vwCl (wX9_served cI cJ cS a_o a_cutting a_cutting_offs a_cutting_spaces a_refused a_road a_road_cars a_road_cars_shares a_road_cars_speeds a_road_demands a_road_tunes a_road_tunes_noteCounts a_road_tunes_pitches z_kept z_ahead z_shelves z_acting z_cutting_times z_road_stretches z_road_cars_bases z_road_tunes_beats v_imaged v_lastFault w22_0 w22_1 w22_2 f_refused v_road_drawSeed v_road_cars_carCount f_road_cars_shares f_road_cars_speeds f_road_demands v_road_tunes_tuneCount f_road_tunes_noteCounts f_road_tunes_pitches) H := wsetP 13 [4] hP rfl ⟨rfl, trivial⟩ rfl rfl (by decide +kernel) (by decide +kernel) (by decide +kernel)
    have hD : va_D A (wX9_served cI cJ cS a_o a_cutting a_cutting_offs a_cutting_spaces a_refused a_road a_road_cars a_road_cars_shares a_road_cars_speeds a_road_demands a_road_tunes a_road_tunes_noteCounts a_road_tunes_pitches z_kept z_ahead z_shelves z_acting z_cutting_times z_road_stretches z_road_cars_bases z_road_tunes_beats v_imaged v_lastFault w22_0 w22_1 w22_2 f_refused v_road_drawSeed v_road_cars_carCount f_road_cars_shares f_road_cars_speeds f_road_demands v_road_tunes_tuneCount f_road_tunes_noteCounts f_road_tunes_pitches) := wsetD 13 [4] hD rfl ⟨rfl, trivial⟩ rfl rfl (by decide +kernel) (by decide +kernel) (by decide +kernel)
    exact W.iret hx hb hr (fun t ht _ => ⟨⟨_, (w22_0, w22_1, w22_2, f_refused), rfl, h, hPt hP ht⟩, hS.F ht⟩) hS.2.2 dX9_served_25
  have h := h.2 hc
  refine lv_aload_n hx hb dX9_served_11 rfl (lv_at hl 1 rfl) ?_
  refine lv_iload_n hx hb dX9_served_12 rfl (lv_at hl 0 rfl) ?_
  refine rw_i (rwV S hE hT hS hP hD hA (c_X9_refuse h) [0, 4] rfl (by decide +kernel) lkX9_59 rfl ⟨(Nat.le_of_ble_eq_true rfl), (Nat.le_of_ble_eq_true rfl)⟩ 0 rfl rfl hl.1 rfl (Nat.le_of_ble_eq_true rfl) dX9_served_13 ⟨(Nat.zero_le _), (Nat.zero_le _)⟩) hP hD hS hA [0, 4] rfl (by decide +kernel) (fun _ => rfl) (fun r13 w13_0 H locs h hP hD hS => ?_)
  try dsimp only at h
  have hP : va_P D vwCl (wX9_served cI cJ cS a_o a_cutting a_cutting_offs a_cutting_spaces a_refused a_road a_road_cars a_road_cars_shares a_road_cars_speeds a_road_demands a_road_tunes a_road_tunes_noteCounts a_road_tunes_pitches z_kept z_ahead z_shelves z_acting z_cutting_times z_road_stretches z_road_cars_bases z_road_tunes_beats v_imaged v_lastFault v_cutting_noteCount f_cutting_offs f_cutting_spaces w13_0 v_road_drawSeed v_road_cars_carCount f_road_cars_shares f_road_cars_speeds f_road_demands v_road_tunes_tuneCount f_road_tunes_noteCounts f_road_tunes_pitches) H := hP
  have hD : va_D A (wX9_served cI cJ cS a_o a_cutting a_cutting_offs a_cutting_spaces a_refused a_road a_road_cars a_road_cars_shares a_road_cars_speeds a_road_demands a_road_tunes a_road_tunes_noteCounts a_road_tunes_pitches z_kept z_ahead z_shelves z_acting z_cutting_times z_road_stretches z_road_cars_bases z_road_tunes_beats v_imaged v_lastFault v_cutting_noteCount f_cutting_offs f_cutting_spaces w13_0 v_road_drawSeed v_road_cars_carCount f_road_cars_shares f_road_cars_speeds f_road_demands v_road_tunes_tuneCount f_road_tunes_noteCounts f_road_tunes_pitches) := hD
  refine lv_goto (tgt := 25) hx hb dX9_served_16 (by decide) ?_
  exact W.iret hx hb hr (fun t ht _ => ⟨⟨_, (v_cutting_noteCount, f_cutting_offs, f_cutting_spaces, w13_0), rfl, h, hPt hP ht⟩, hS.F ht⟩) hS.2.2 dX9_served_25
/-! X9_best -/
abbrev wX9_best (cI cJ cS : ClassId) (a_o a_cutting a_cutting_offs a_cutting_spaces a_refused a_road a_road_cars a_road_cars_shares a_road_cars_speeds a_road_demands a_road_tunes a_road_tunes_noteCounts a_road_tunes_pitches : Nat) (z_kept z_ahead z_shelves z_acting z_cutting_times z_road_stretches z_road_cars_bases z_road_tunes_beats : Value) (v_imaged : Int32) (v_lastFault : Int32) (v_cutting_noteCount : Int32) (f_cutting_offs : Nat → Int32) (f_cutting_spaces : Nat → Int32) (f_refused : Nat → Int32) (v_road_drawSeed : Int32) (v_road_cars_carCount : Int32) (f_road_cars_shares : Nat → Int32) (f_road_cars_speeds : Nat → Int32) (f_road_demands : Nat → Int32) (v_road_tunes_tuneCount : Int32) (f_road_tunes_noteCounts : Nat → Int32) (f_road_tunes_pitches : Nat → Int32) : va_W := [(a_o, .inr (8, [.ref a_road, z_kept, z_ahead, z_shelves, .ref a_cutting, z_acting, .ref a_refused, .int v_imaged, .int v_lastFault])), (a_cutting, .inr (2, [.ref a_cutting_spaces, .ref a_cutting_offs, z_cutting_times, .int v_cutting_noteCount])), (a_cutting_offs, .inl (cI, 12, .inl f_cutting_offs)), (a_cutting_spaces, .inl (cI, 12, .inl f_cutting_spaces)), (a_refused, .inl (cI, 8, .inl f_refused)), (a_road, .inr (4, [z_road_stretches, .ref a_road_cars, .ref a_road_tunes, .ref a_road_demands, .int v_road_drawSeed])), (a_road_cars, .inr (1, [.ref a_road_cars_speeds, z_road_cars_bases, .ref a_road_cars_shares, .int v_road_cars_carCount])), (a_road_cars_shares, .inl (cI, 6, .inl f_road_cars_shares)), (a_road_cars_speeds, .inl (cI, 6, .inl f_road_cars_speeds)), (a_road_demands, .inl (cI, 4, .inl f_road_demands)), (a_road_tunes, .inr (7, [.ref a_road_tunes_pitches, z_road_tunes_beats, .ref a_road_tunes_noteCounts, .int v_road_tunes_tuneCount])), (a_road_tunes_noteCounts, .inl (cI, 6, .inl f_road_tunes_noteCounts)), (a_road_tunes_pitches, .inl (cI, 72, .inl f_road_tunes_pitches))]
def F_X9_best_55 (k27 : Int32 → Int32 → Int32 → Int32 → (Nat → Int32) → (Nat → Int32) → Prop) (x1 : Int32) (x2 : Int32) (x3 : Int32) (x4 : Int32) (v_cutting_noteCount : Int32) (f_cutting_offs : Nat → Int32) (f_cutting_spaces : Nat → Int32) (f_refused : Nat → Int32) : Prop := (∀ x4_55 : Int32, x4_55 = x4 + 1 → k27 x2 x3 x4_55 v_cutting_noteCount f_cutting_offs f_cutting_spaces)
def L_X9_best_27 (v_road_cars_carCount : Int32) (f_road_cars_shares : Nat → Int32) (f_road_cars_speeds : Nat → Int32) (f_road_demands : Nat → Int32) (v_road_tunes_tuneCount : Int32) (f_road_tunes_noteCounts : Nat → Int32) (f_road_tunes_pitches : Nat → Int32) (x1 : Int32) (f_refused : Nat → Int32) (post : Int32 → Int32 → (Nat → Int32) → (Nat → Int32) → (Nat → Int32) → Prop) : Nat → Int32 → Int32 → Int32 → Int32 → (Nat → Int32) → (Nat → Int32) → Prop
  | 0, _, _, _, _, _, _ => False
  | n27 + 1, x2, x3, x4, v_cutting_noteCount, f_cutting_offs, f_cutting_spaces => ((99 < x4 → post x2 v_cutting_noteCount f_cutting_offs f_cutting_spaces f_refused) ∧ (¬ 99 < x4 → (F_X9_shareServed v_cutting_noteCount f_cutting_offs f_cutting_spaces v_road_cars_carCount f_road_cars_shares f_road_cars_speeds f_road_demands v_road_tunes_tuneCount f_road_tunes_noteCounts f_road_tunes_pitches x1 x4 (fun r38 w38_0 w38_1 w38_2 => ((r38 ≤ x3 → F_X9_best_55 (fun x2 x3 x4 v_cutting_noteCount f_cutting_offs f_cutting_spaces => L_X9_best_27 v_road_cars_carCount f_road_cars_shares f_road_cars_speeds f_road_demands v_road_tunes_tuneCount f_road_tunes_noteCounts f_road_tunes_pitches x1 f_refused post n27 x2 x3 x4 v_cutting_noteCount f_cutting_offs f_cutting_spaces) x1 x2 x3 x4 w38_0 w38_1 w38_2 f_refused) ∧ (¬ r38 ≤ x3 → F_X9_best_55 (fun x2 x3 x4 v_cutting_noteCount f_cutting_offs f_cutting_spaces => L_X9_best_27 v_road_cars_carCount f_road_cars_shares f_road_cars_speeds f_road_demands v_road_tunes_tuneCount f_road_tunes_noteCounts f_road_tunes_pitches x1 f_refused post n27 x2 x3 x4 v_cutting_noteCount f_cutting_offs f_cutting_spaces) x1 x4 r38 x4 w38_0 w38_1 w38_2 f_refused))))))
def F_X9_best (v_cutting_noteCount : Int32) (f_cutting_offs : Nat → Int32) (f_cutting_spaces : Nat → Int32) (f_refused : Nat → Int32) (v_road_cars_carCount : Int32) (f_road_cars_shares : Nat → Int32) (f_road_cars_speeds : Nat → Int32) (f_road_demands : Nat → Int32) (v_road_tunes_tuneCount : Int32) (f_road_tunes_noteCounts : Nat → Int32) (f_road_tunes_pitches : Nat → Int32) (x1 : Int32) (post : Int32 → Int32 → (Nat → Int32) → (Nat → Int32) → (Nat → Int32) → Prop) : Prop := (F_X8_has v_road_tunes_tuneCount x1 (fun r8 => ((r8 = 0 → (F_X9_refuse f_refused (-1) (fun r16 w16_0 => post r16 v_cutting_noteCount f_cutting_offs f_cutting_spaces w16_0))) ∧ (¬ r8 = 0 → (∃ n27 : Nat, L_X9_best_27 v_road_cars_carCount f_road_cars_shares f_road_cars_speeds f_road_demands v_road_tunes_tuneCount f_road_tunes_noteCounts f_road_tunes_pitches x1 f_refused post n27 1 (-1) 1 v_cutting_noteCount f_cutting_offs f_cutting_spaces)))))
set_option maxHeartbeats 4000000 in
set_option maxRecDepth 100000 in
theorem w_X9_best_55 {l : Launch} {D : va_G} {cI cJ cS : ClassId} {ad adK : Nat → Nat} {a_o a_cutting a_cutting_offs a_cutting_spaces a_refused a_road a_road_cars a_road_cars_shares a_road_cars_speeds a_road_demands a_road_tunes a_road_tunes_noteCounts a_road_tunes_pitches : Nat} {z_kept z_ahead z_shelves z_acting z_cutting_times z_road_stretches z_road_cars_bases z_road_tunes_beats : Value} {v_imaged : Int32} {v_lastFault : Int32} {v_cutting_noteCount : Int32} {f_cutting_offs : Nat → Int32} {f_cutting_spaces : Nat → Int32} {f_refused : Nat → Int32} {v_road_drawSeed : Int32} {v_road_cars_carCount : Int32} {f_road_cars_shares : Nat → Int32} {f_road_cars_speeds : Nat → Int32} {f_road_demands : Nat → Int32} {v_road_tunes_tuneCount : Int32} {f_road_tunes_noteCounts : Nat → Int32} {f_road_tunes_pitches : Nat → Int32} {x1 : Int32} {x2 : Int32} {x3 : Int32} {x4 : Int32} {post : Int32 → Int32 → (Nat → Int32) → (Nat → Int32) → (Nat → Int32) → Prop} {k27 : Int32 → Int32 → Int32 → Int32 → (Nat → Int32) → (Nat → Int32) → Prop} {p : Program} {e : Env} {s : State} {m : MethodId} {args : Array Value} {below : List Frame} {meth : Method} {c : Code} {A : Nat → Prop} (S : CallFix p m c cX9_best 6 s args GW "RoadThatSings") (hE : EN D cI cJ cS s) (hT : ST ad adK A s s.heap) (hA : ∀ q : Nat, s.heap.size ≤ q → A q) (hr : meth.sig.returnType = (some (.int))) (hlocks : meth.locks = false) (hk27 : ∀ (x2 : Int32) (x3 : Int32) (x4 : Int32) (v_cutting_noteCount : Int32) (f_cutting_offs : Nat → Int32) (f_cutting_spaces : Nat → Int32) (H : Heap) (locs : List Loc) (ls : Array Slot), k27 x2 x3 x4 v_cutting_noteCount f_cutting_offs f_cutting_spaces → va_P D vwCl (wX9_best cI cJ cS a_o a_cutting a_cutting_offs a_cutting_spaces a_refused a_road a_road_cars a_road_cars_shares a_road_cars_speeds a_road_demands a_road_tunes a_road_tunes_noteCounts a_road_tunes_pitches z_kept z_ahead z_shelves z_acting z_cutting_times z_road_stretches z_road_cars_bases z_road_tunes_beats v_imaged v_lastFault v_cutting_noteCount f_cutting_offs f_cutting_spaces f_refused v_road_drawSeed v_road_cars_carCount f_road_cars_shares f_road_cars_speeds f_road_demands v_road_tunes_tuneCount f_road_tunes_noteCounts f_road_tunes_pitches) H → va_D A (wX9_best cI cJ cS a_o a_cutting a_cutting_offs a_cutting_spaces a_refused a_road a_road_cars a_road_cars_shares a_road_cars_speeds a_road_demands a_road_tunes a_road_tunes_noteCounts a_road_tunes_pitches z_kept z_ahead z_shelves z_acting z_cutting_times z_road_stretches z_road_cars_bases z_road_tunes_beats v_imaged v_lastFault v_cutting_noteCount f_cutting_offs f_cutting_spaces f_refused v_road_drawSeed v_road_cars_carCount f_road_cars_shares f_road_cars_speeds f_road_demands v_road_tunes_tuneCount f_road_tunes_noteCounts f_road_tunes_pitches) → va_S A s.heap H locs → lv_has ls 6 [(0, .ref a_o), (1, .int x1), (2, .int x2), (3, .int x3), (4, .int x4)] → W p l e (rmd 5 0 0) s m args below meth c H locs 0 0 (MQ below (va_Qi (fun r (u : Int32 × (Nat → Int32) × (Nat → Int32) × (Nat → Int32)) => post r u.1 u.2.1 u.2.2.1 u.2.2.2) (fun u t => va_P D vwCl (wX9_best cI cJ cS a_o a_cutting a_cutting_offs a_cutting_spaces a_refused a_road a_road_cars a_road_cars_shares a_road_cars_speeds a_road_demands a_road_tunes a_road_tunes_noteCounts a_road_tunes_pitches z_kept z_ahead z_shelves z_acting z_cutting_times z_road_stretches z_road_cars_bases z_road_tunes_beats v_imaged v_lastFault u.1 u.2.1 u.2.2.1 u.2.2.2 v_road_drawSeed v_road_cars_carCount f_road_cars_shares f_road_cars_speeds f_road_demands v_road_tunes_tuneCount f_road_tunes_noteCounts f_road_tunes_pitches) t.heap) A) args s 0 0 A) (F0 m 27 ls [])) : ∀ (H : Heap) (locs : List Loc) (ls : Array Slot), F_X9_best_55 k27 x1 x2 x3 x4 v_cutting_noteCount f_cutting_offs f_cutting_spaces f_refused → va_P D vwCl (wX9_best cI cJ cS a_o a_cutting a_cutting_offs a_cutting_spaces a_refused a_road a_road_cars a_road_cars_shares a_road_cars_speeds a_road_demands a_road_tunes a_road_tunes_noteCounts a_road_tunes_pitches z_kept z_ahead z_shelves z_acting z_cutting_times z_road_stretches z_road_cars_bases z_road_tunes_beats v_imaged v_lastFault v_cutting_noteCount f_cutting_offs f_cutting_spaces f_refused v_road_drawSeed v_road_cars_carCount f_road_cars_shares f_road_cars_speeds f_road_demands v_road_tunes_tuneCount f_road_tunes_noteCounts f_road_tunes_pitches) H → va_D A (wX9_best cI cJ cS a_o a_cutting a_cutting_offs a_cutting_spaces a_refused a_road a_road_cars a_road_cars_shares a_road_cars_speeds a_road_demands a_road_tunes a_road_tunes_noteCounts a_road_tunes_pitches z_kept z_ahead z_shelves z_acting z_cutting_times z_road_stretches z_road_cars_bases z_road_tunes_beats v_imaged v_lastFault v_cutting_noteCount f_cutting_offs f_cutting_spaces f_refused v_road_drawSeed v_road_cars_carCount f_road_cars_shares f_road_cars_speeds f_road_demands v_road_tunes_tuneCount f_road_tunes_noteCounts f_road_tunes_pitches) → va_S A s.heap H locs → lv_has ls 6 [(0, .ref a_o), (1, .int x1), (2, .int x2), (3, .int x3), (4, .int x4)] → W p l e (rmd 5 0 0) s m args below meth c H locs 0 0 (MQ below (va_Qi (fun r (u : Int32 × (Nat → Int32) × (Nat → Int32) × (Nat → Int32)) => post r u.1 u.2.1 u.2.2.1 u.2.2.2) (fun u t => va_P D vwCl (wX9_best cI cJ cS a_o a_cutting a_cutting_offs a_cutting_spaces a_refused a_road a_road_cars a_road_cars_shares a_road_cars_speeds a_road_demands a_road_tunes a_road_tunes_noteCounts a_road_tunes_pitches z_kept z_ahead z_shelves z_acting z_cutting_times z_road_stretches z_road_cars_bases z_road_tunes_beats v_imaged v_lastFault u.1 u.2.1 u.2.2.1 u.2.2.2 v_road_drawSeed v_road_cars_carCount f_road_cars_shares f_road_cars_speeds f_road_demands v_road_tunes_tuneCount f_road_tunes_noteCounts f_road_tunes_pitches) t.heap) A) args s 0 0 A) (F0 m 55 ls []) := by
  intro  H locs ls h hP hD hS hl
  unfold F_X9_best_55 at h
  have hx := S.1
  have hb := S.2.1
  obtain ⟨x4_55, ex4_55⟩ : ∃ z : Int32, z = x4 + 1 := ⟨_, rfl⟩
  have h := h _ ex4_55
  refine lv_iinc (v := x4_55) (lv' := [(4, .int x4_55), (0, .ref a_o), (1, .int x1), (2, .int x2), (3, .int x3)]) hx hb dX9_best_55 hl (k := 4) rfl (by rw [ex4_55]; rfl) (by decide) rfl (fun ls hl => ?_)
  refine lv_goto (tgt := 27) hx hb dX9_best_58 (by decide) ?_
  exact hk27 _ _ _ _ _ _ _ _ _ h hP hD hS (lv_sub hl [1, 2, 3, 4, 0] rfl)
set_option maxHeartbeats 4000000 in
set_option maxRecDepth 100000 in
theorem w_X9_best_27 {l : Launch} {D : va_G} {cI cJ cS : ClassId} {ad adK : Nat → Nat} {a_o a_cutting a_cutting_offs a_cutting_spaces a_refused a_road a_road_cars a_road_cars_shares a_road_cars_speeds a_road_demands a_road_tunes a_road_tunes_noteCounts a_road_tunes_pitches : Nat} {z_kept z_ahead z_shelves z_acting z_cutting_times z_road_stretches z_road_cars_bases z_road_tunes_beats : Value} {v_imaged : Int32} {v_lastFault : Int32} {f_refused : Nat → Int32} {v_road_drawSeed : Int32} {v_road_cars_carCount : Int32} {f_road_cars_shares : Nat → Int32} {f_road_cars_speeds : Nat → Int32} {f_road_demands : Nat → Int32} {v_road_tunes_tuneCount : Int32} {f_road_tunes_noteCounts : Nat → Int32} {f_road_tunes_pitches : Nat → Int32} {x1 : Int32} {post : Int32 → Int32 → (Nat → Int32) → (Nat → Int32) → (Nat → Int32) → Prop} {p : Program} {e : Env} {s : State} {m : MethodId} {args : Array Value} {below : List Frame} {meth : Method} {c : Code} {A : Nat → Prop} (S : CallFix p m c cX9_best 6 s args GW "RoadThatSings") (hE : EN D cI cJ cS s) (hT : ST ad adK A s s.heap) (hA : ∀ q : Nat, s.heap.size ≤ q → A q) (hr : meth.sig.returnType = (some (.int))) (hlocks : meth.locks = false) : ∀ n : Nat, ∀ (x2 : Int32) (x3 : Int32) (x4 : Int32) (v_cutting_noteCount : Int32) (f_cutting_offs : Nat → Int32) (f_cutting_spaces : Nat → Int32) (H : Heap) (locs : List Loc) (ls : Array Slot), L_X9_best_27 v_road_cars_carCount f_road_cars_shares f_road_cars_speeds f_road_demands v_road_tunes_tuneCount f_road_tunes_noteCounts f_road_tunes_pitches x1 f_refused post n x2 x3 x4 v_cutting_noteCount f_cutting_offs f_cutting_spaces → va_P D vwCl (wX9_best cI cJ cS a_o a_cutting a_cutting_offs a_cutting_spaces a_refused a_road a_road_cars a_road_cars_shares a_road_cars_speeds a_road_demands a_road_tunes a_road_tunes_noteCounts a_road_tunes_pitches z_kept z_ahead z_shelves z_acting z_cutting_times z_road_stretches z_road_cars_bases z_road_tunes_beats v_imaged v_lastFault v_cutting_noteCount f_cutting_offs f_cutting_spaces f_refused v_road_drawSeed v_road_cars_carCount f_road_cars_shares f_road_cars_speeds f_road_demands v_road_tunes_tuneCount f_road_tunes_noteCounts f_road_tunes_pitches) H → va_D A (wX9_best cI cJ cS a_o a_cutting a_cutting_offs a_cutting_spaces a_refused a_road a_road_cars a_road_cars_shares a_road_cars_speeds a_road_demands a_road_tunes a_road_tunes_noteCounts a_road_tunes_pitches z_kept z_ahead z_shelves z_acting z_cutting_times z_road_stretches z_road_cars_bases z_road_tunes_beats v_imaged v_lastFault v_cutting_noteCount f_cutting_offs f_cutting_spaces f_refused v_road_drawSeed v_road_cars_carCount f_road_cars_shares f_road_cars_speeds f_road_demands v_road_tunes_tuneCount f_road_tunes_noteCounts f_road_tunes_pitches) → va_S A s.heap H locs → lv_has ls 6 [(0, .ref a_o), (1, .int x1), (2, .int x2), (3, .int x3), (4, .int x4)] → W p l e (rmd 5 0 0) s m args below meth c H locs 0 0 (MQ below (va_Qi (fun r (u : Int32 × (Nat → Int32) × (Nat → Int32) × (Nat → Int32)) => post r u.1 u.2.1 u.2.2.1 u.2.2.2) (fun u t => va_P D vwCl (wX9_best cI cJ cS a_o a_cutting a_cutting_offs a_cutting_spaces a_refused a_road a_road_cars a_road_cars_shares a_road_cars_speeds a_road_demands a_road_tunes a_road_tunes_noteCounts a_road_tunes_pitches z_kept z_ahead z_shelves z_acting z_cutting_times z_road_stretches z_road_cars_bases z_road_tunes_beats v_imaged v_lastFault u.1 u.2.1 u.2.2.1 u.2.2.2 v_road_drawSeed v_road_cars_carCount f_road_cars_shares f_road_cars_speeds f_road_demands v_road_tunes_tuneCount f_road_tunes_noteCounts f_road_tunes_pitches) t.heap) A) args s 0 0 A) (F0 m 27 ls []) := by
  intro n
  induction n with
  | zero =>
    intro x2 x3 x4 v_cutting_noteCount f_cutting_offs f_cutting_spaces H locs ls h hP hD hS hl
    exact h.elim
  | succ n ih =>
    intro x2 x3 x4 v_cutting_noteCount f_cutting_offs f_cutting_spaces H locs ls h hP hD hS hl
    rw [L_X9_best_27] at h
    have hx := S.1
    have hb := S.2.1
    refine lv_iload hx hb dX9_best_27 (lv_at hl 4 rfl) ?_
    refine lv_bipush (v := 99) hx hb dX9_best_29 (by decide) ?_
    refine lv_icmp_gt (tgt := 61) hx hb dX9_best_31 (by decide) (fun hc => ?_) (fun hc => ?_)
    · have h := h.1 hc
      refine lv_iload_n hx hb dX9_best_61 rfl (lv_at hl 2 rfl) ?_
      exact W.iret hx hb hr (fun t ht _ => ⟨⟨_, (v_cutting_noteCount, f_cutting_offs, f_cutting_spaces, f_refused), rfl, h, hPt hP ht⟩, hS.F ht⟩) hS.2.2 dX9_best_62
    have h := h.2 hc
    refine lv_aload_n hx hb dX9_best_34 rfl (lv_at hl 0 rfl) ?_
    refine lv_iload_n hx hb dX9_best_35 rfl (lv_at hl 1 rfl) ?_
    refine lv_iload hx hb dX9_best_36 (lv_at hl 4 rfl) ?_
    refine rw_i (rwV S hE hT hS hP hD hA (c_X9_shareServed h) [0, 1, 2, 3, 5, 6, 7, 8, 9, 10, 11, 12] rfl (by decide +kernel) lkX9_322 rfl ⟨(Nat.le_of_ble_eq_true rfl), (Nat.le_of_ble_eq_true rfl)⟩ 0 rfl rfl hl.1 rfl (Nat.le_of_ble_eq_true rfl) dX9_best_38 ⟨(Nat.zero_le _), (Nat.zero_le _)⟩) hP hD hS hA [0, 1, 2, 3, 5, 6, 7, 8, 9, 10, 11, 12] rfl (by decide +kernel) (fun _ => rfl) (fun r38 u38 H locs h hP hD hS => ?_)
    obtain ⟨w38_0, w38_1, w38_2⟩ := u38
    try dsimp only at h
    have hP : va_P D vwCl (wX9_best cI cJ cS a_o a_cutting a_cutting_offs a_cutting_spaces a_refused a_road a_road_cars a_road_cars_shares a_road_cars_speeds a_road_demands a_road_tunes a_road_tunes_noteCounts a_road_tunes_pitches z_kept z_ahead z_shelves z_acting z_cutting_times z_road_stretches z_road_cars_bases z_road_tunes_beats v_imaged v_lastFault w38_0 w38_1 w38_2 f_refused v_road_drawSeed v_road_cars_carCount f_road_cars_shares f_road_cars_speeds f_road_demands v_road_tunes_tuneCount f_road_tunes_noteCounts f_road_tunes_pitches) H := wsetP 13 [4] hP rfl ⟨rfl, trivial⟩ rfl rfl (by decide +kernel) (by decide +kernel) (by decide +kernel)
    have hD : va_D A (wX9_best cI cJ cS a_o a_cutting a_cutting_offs a_cutting_spaces a_refused a_road a_road_cars a_road_cars_shares a_road_cars_speeds a_road_demands a_road_tunes a_road_tunes_noteCounts a_road_tunes_pitches z_kept z_ahead z_shelves z_acting z_cutting_times z_road_stretches z_road_cars_bases z_road_tunes_beats v_imaged v_lastFault w38_0 w38_1 w38_2 f_refused v_road_drawSeed v_road_cars_carCount f_road_cars_shares f_road_cars_speeds f_road_demands v_road_tunes_tuneCount f_road_tunes_noteCounts f_road_tunes_pitches) := wsetD 13 [4] hD rfl ⟨rfl, trivial⟩ rfl rfl (by decide +kernel) (by decide +kernel) (by decide +kernel)
    refine lv_istore (lv' := [(5, .int r38), (0, .ref a_o), (1, .int x1), (2, .int x2), (3, .int x3), (4, .int x4)]) hx hb dX9_best_41 hl (by decide) rfl (fun ls hl => ?_)
    refine lv_iload hx hb dX9_best_43 (lv_at hl 0 rfl) ?_
    refine lv_iload_n hx hb dX9_best_45 rfl (lv_at hl 4 rfl) ?_
    refine lv_icmp_le (tgt := 55) hx hb dX9_best_46 (by decide) (fun hc => ?_) (fun hc => ?_)
    · have h := h.1 hc
      refine w_X9_best_55 S hE hT hA hr hlocks ih _ _ _ h hP hD hS (lv_sub hl [1, 2, 3, 4, 5] rfl)
    have h := h.2 hc
    refine lv_iload hx hb dX9_best_49 (lv_at hl 0 rfl) ?_
    refine lv_istore_n (lv' := [(3, .int r38), (5, .int r38), (0, .ref a_o), (1, .int x1), (2, .int x2), (4, .int x4)]) hx hb dX9_best_51 rfl hl (by decide) rfl (fun ls hl => ?_)
    refine lv_iload hx hb dX9_best_52 (lv_at hl 5 rfl) ?_
    refine lv_istore_n (lv' := [(2, .int x4), (3, .int r38), (5, .int r38), (0, .ref a_o), (1, .int x1), (4, .int x4)]) hx hb dX9_best_54 rfl hl (by decide) rfl (fun ls hl => ?_)
    refine w_X9_best_55 S hE hT hA hr hlocks ih _ _ _ h hP hD hS (lv_sub hl [3, 4, 0, 1, 5] rfl)
set_option maxHeartbeats 4000000 in
set_option maxRecDepth 100000 in
theorem c_X9_best {l : Launch} {D : va_G} {cI cJ cS : ClassId} {ad adK : Nat → Nat} {a_o a_cutting a_cutting_offs a_cutting_spaces a_refused a_road a_road_cars a_road_cars_shares a_road_cars_speeds a_road_demands a_road_tunes a_road_tunes_noteCounts a_road_tunes_pitches : Nat} {z_kept z_ahead z_shelves z_acting z_cutting_times z_road_stretches z_road_cars_bases z_road_tunes_beats : Value} {v_imaged : Int32} {v_lastFault : Int32} {v_cutting_noteCount : Int32} {f_cutting_offs : Nat → Int32} {f_cutting_spaces : Nat → Int32} {f_refused : Nat → Int32} {v_road_drawSeed : Int32} {v_road_cars_carCount : Int32} {f_road_cars_shares : Nat → Int32} {f_road_cars_speeds : Nat → Int32} {f_road_demands : Nat → Int32} {v_road_tunes_tuneCount : Int32} {f_road_tunes_noteCounts : Nat → Int32} {f_road_tunes_pitches : Nat → Int32} {x1 : Int32} {post : Int32 → Int32 → (Nat → Int32) → (Nat → Int32) → (Nat → Int32) → Prop} (h : F_X9_best v_cutting_noteCount f_cutting_offs f_cutting_spaces f_refused v_road_cars_carCount f_road_cars_shares f_road_cars_speeds f_road_demands v_road_tunes_tuneCount f_road_tunes_noteCounts f_road_tunes_pitches x1 post) {sz : Nat} : Met l yX9_best (Cond.code yX9_best cX9_best 6 (some (.int)) :: GW) (rmd 5 0 0) (PW D cI cJ cS ad adK [.ref a_o, .int x1] (wX9_best cI cJ cS a_o a_cutting a_cutting_offs a_cutting_spaces a_refused a_road a_road_cars a_road_cars_shares a_road_cars_speeds a_road_demands a_road_tunes a_road_tunes_noteCounts a_road_tunes_pitches z_kept z_ahead z_shelves z_acting z_cutting_times z_road_stretches z_road_cars_bases z_road_tunes_beats v_imaged v_lastFault v_cutting_noteCount f_cutting_offs f_cutting_spaces f_refused v_road_drawSeed v_road_cars_carCount f_road_cars_shares f_road_cars_speeds f_road_demands v_road_tunes_tuneCount f_road_tunes_noteCounts f_road_tunes_pitches) sz) (va_Qi (fun r (u : Int32 × (Nat → Int32) × (Nat → Int32) × (Nat → Int32)) => post r u.1 u.2.1 u.2.2.1 u.2.2.2) (fun u t => va_P D vwCl (wX9_best cI cJ cS a_o a_cutting a_cutting_offs a_cutting_spaces a_refused a_road a_road_cars a_road_cars_shares a_road_cars_speeds a_road_demands a_road_tunes a_road_tunes_noteCounts a_road_tunes_pitches z_kept z_ahead z_shelves z_acting z_cutting_times z_road_stretches z_road_cars_bases z_road_tunes_beats v_imaged v_lastFault u.1 u.2.1 u.2.2.1 u.2.2.2 v_road_drawSeed v_road_cars_carCount f_road_cars_shares f_road_cars_speeds f_road_demands v_road_tunes_tuneCount f_road_tunes_noteCounts f_road_tunes_pitches) t.heap) (va_A (wX9_best cI cJ cS a_o a_cutting a_cutting_offs a_cutting_spaces a_refused a_road a_road_cars a_road_cars_shares a_road_cars_speeds a_road_demands a_road_tunes a_road_tunes_noteCounts a_road_tunes_pitches z_kept z_ahead z_shelves z_acting z_cutting_times z_road_stretches z_road_cars_bases z_road_tunes_beats v_imaged v_lastFault v_cutting_noteCount f_cutting_offs f_cutting_spaces f_refused v_road_drawSeed v_road_cars_carCount f_road_cars_shares f_road_cars_speeds f_road_demands v_road_tunes_tuneCount f_road_tunes_noteCounts f_road_tunes_pitches) sz)) 0 0 (va_A (wX9_best cI cJ cS a_o a_cutting a_cutting_offs a_cutting_spaces a_refused a_road a_road_cars a_road_cars_shares a_road_cars_speeds a_road_demands a_road_tunes a_road_tunes_noteCounts a_road_tunes_pitches z_kept z_ahead z_shelves z_acting z_cutting_times z_road_stretches z_road_cars_bases z_road_tunes_beats v_imaged v_lastFault v_cutting_noteCount f_cutting_offs f_cutting_spaces f_refused v_road_drawSeed v_road_cars_carCount f_road_cars_shares f_road_cars_speeds f_road_demands v_road_tunes_tuneCount f_road_tunes_noteCounts f_road_tunes_pitches) sz) := by
  refine Met.rw (Qc := fun A => (va_Qi (fun r (u : Int32 × (Nat → Int32) × (Nat → Int32) × (Nat → Int32)) => post r u.1 u.2.1 u.2.2.1 u.2.2.2) (fun u t => va_P D vwCl (wX9_best cI cJ cS a_o a_cutting a_cutting_offs a_cutting_spaces a_refused a_road a_road_cars a_road_cars_shares a_road_cars_speeds a_road_demands a_road_tunes a_road_tunes_noteCounts a_road_tunes_pitches z_kept z_ahead z_shelves z_acting z_cutting_times z_road_stretches z_road_cars_bases z_road_tunes_beats v_imaged v_lastFault u.1 u.2.1 u.2.2.1 u.2.2.2 v_road_drawSeed v_road_cars_carCount f_road_cars_shares f_road_cars_speeds f_road_demands v_road_tunes_tuneCount f_road_tunes_noteCounts f_road_tunes_pitches) t.heap) A)) (by decide) (Nat.le_of_ble_eq_true rfl) (fun p e s m args below meth c ls A (S : CallFix p m c cX9_best 6 s args GW "RoadThatSings") hE hT hP hD hA hS hr hlocks hname hl => ?_)
  have hS0 := hS
  have hx := S.1
  have hb := S.2.1
  have hl : lv_has ls 6 [(0, .ref a_o), (1, .int x1)] := hl
  unfold F_X9_best at h
  refine lv_aload_n hx hb dX9_best_0 rfl (lv_at hl 0 rfl) ?_
  refine gf S hE hP 0 rfl rfl inX9 (k := 0) (by decide) q181 rfl dX9_best_1 ?_
  refine gfN S hE hP 5 rfl rfl inX5 (k := 2) (by decide) nfX9_209 rfl dX9_best_4 ?_
  refine lv_iload_n hx hb dX9_best_7 rfl (lv_at hl 1 rfl) ?_
  refine ro_i (roV S hE hT hS (c_X8_has h) lkX9_222 rfl ⟨(Nat.le_of_ble_eq_true rfl), (Nat.le_of_ble_eq_true rfl)⟩ (hP.sub [10] rfl) 0 rfl rfl hl.1 rfl (Nat.le_of_ble_eq_true rfl) dX9_best_8 ⟨(Nat.zero_le _), (Nat.zero_le _)⟩) (fun r8 h => ?_)
  refine lv_if_ne (tgt := 20) hx hb dX9_best_11 (by decide) (fun hc => ?_) (fun hc => ?_)
  · have h := h.2 hc
    refine lv_iconst (v := 1) hx hb dX9_best_20 (by decide) ?_
    refine lv_istore_n (lv' := [(2, .int 1), (0, .ref a_o), (1, .int x1)]) hx hb dX9_best_21 rfl hl (by decide) rfl (fun ls hl => ?_)
    refine lv_iconst (v := (-1)) hx hb dX9_best_22 (by decide) ?_
    refine lv_istore_n (lv' := [(3, .int (-1)), (2, .int 1), (0, .ref a_o), (1, .int x1)]) hx hb dX9_best_23 rfl hl (by decide) rfl (fun ls hl => ?_)
    refine lv_iconst (v := 1) hx hb dX9_best_24 (by decide) ?_
    refine lv_istore (lv' := [(4, .int 1), (3, .int (-1)), (2, .int 1), (0, .ref a_o), (1, .int x1)]) hx hb dX9_best_25 hl (by decide) rfl (fun ls hl => ?_)
    obtain ⟨n, h⟩ := h
    refine w_X9_best_27 S hE hT hA hr hlocks n _ _ _ _ _ _ _ _ _ h hP hD hS (lv_sub hl [3, 4, 2, 1, 0] rfl)
  have h := h.1 hc
  refine lv_aload_n hx hb dX9_best_14 rfl (lv_at hl 0 rfl) ?_
  refine lv_iconst (v := (-1)) hx hb dX9_best_15 (by decide) ?_
  refine rw_i (rwV S hE hT hS hP hD hA (c_X9_refuse h) [0, 4] rfl (by decide +kernel) lkX9_59 rfl ⟨(Nat.le_of_ble_eq_true rfl), (Nat.le_of_ble_eq_true rfl)⟩ 0 rfl rfl hl.1 rfl (Nat.le_of_ble_eq_true rfl) dX9_best_16 ⟨(Nat.zero_le _), (Nat.zero_le _)⟩) hP hD hS hA [0, 4] rfl (by decide +kernel) (fun _ => rfl) (fun r16 w16_0 H locs h hP hD hS => ?_)
  try dsimp only at h
  have hP : va_P D vwCl (wX9_best cI cJ cS a_o a_cutting a_cutting_offs a_cutting_spaces a_refused a_road a_road_cars a_road_cars_shares a_road_cars_speeds a_road_demands a_road_tunes a_road_tunes_noteCounts a_road_tunes_pitches z_kept z_ahead z_shelves z_acting z_cutting_times z_road_stretches z_road_cars_bases z_road_tunes_beats v_imaged v_lastFault v_cutting_noteCount f_cutting_offs f_cutting_spaces w16_0 v_road_drawSeed v_road_cars_carCount f_road_cars_shares f_road_cars_speeds f_road_demands v_road_tunes_tuneCount f_road_tunes_noteCounts f_road_tunes_pitches) H := hP
  have hD : va_D A (wX9_best cI cJ cS a_o a_cutting a_cutting_offs a_cutting_spaces a_refused a_road a_road_cars a_road_cars_shares a_road_cars_speeds a_road_demands a_road_tunes a_road_tunes_noteCounts a_road_tunes_pitches z_kept z_ahead z_shelves z_acting z_cutting_times z_road_stretches z_road_cars_bases z_road_tunes_beats v_imaged v_lastFault v_cutting_noteCount f_cutting_offs f_cutting_spaces w16_0 v_road_drawSeed v_road_cars_carCount f_road_cars_shares f_road_cars_speeds f_road_demands v_road_tunes_tuneCount f_road_tunes_noteCounts f_road_tunes_pitches) := hD
  exact W.iret hx hb hr (fun t ht _ => ⟨⟨_, (v_cutting_noteCount, f_cutting_offs, f_cutting_spaces, w16_0), rfl, h, hPt hP ht⟩, hS.F ht⟩) hS.2.2 dX9_best_19
/-! X9_haveOneSpace -/
abbrev wX9_haveOneSpace (cI cJ cS : ClassId) (a_o a_road a_road_demands : Nat) (z_kept z_ahead z_shelves z_cutting z_acting z_refused z_road_stretches z_road_cars z_road_tunes : Value) (v_imaged : Int32) (v_lastFault : Int32) (v_road_drawSeed : Int32) (f_road_demands : Nat → Int32) : va_W := [(a_o, .inr (8, [.ref a_road, z_kept, z_ahead, z_shelves, z_cutting, z_acting, z_refused, .int v_imaged, .int v_lastFault])), (a_road, .inr (4, [z_road_stretches, z_road_cars, z_road_tunes, .ref a_road_demands, .int v_road_drawSeed])), (a_road_demands, .inl (cI, 4, .inl f_road_demands))]
def F_X9_haveOneSpace_70 (k30 : Int32 → Prop) (x1 : Int32) (x2 : Int32) (x3 : Int32) (x4 : Int32) (x5 : Int32) (x6 : Int32) : Prop := (∀ x6_70 : Int32, x6_70 = x6 + 1 → k30 x6_70)
def L_X9_haveOneSpace_30 (x1 : Int32) (x2 : Int32) (x3 : Int32) (x4 : Int32) (x5 : Int32) (post : Int32 → Prop) : Nat → Int32 → Prop
  | 0, _ => False
  | n30 + 1, x6 => ((60 < x6 → post 0) ∧ (¬ 60 < x6 → (F_X9_humBy x6 x2 (fun r40 => (F_X9_offBetween r40 x1 (fun r44 => ((x5 < r44 → F_X9_haveOneSpace_70 (fun x6 => L_X9_haveOneSpace_30 x1 x2 x3 x4 x5 post n30 x6) x1 x2 x3 x4 x5 x6) ∧ (¬ x5 < r44 → (F_X9_humBy x6 x4 (fun r56 => (F_X9_offBetween r56 x3 (fun r60 => ((x5 < r60 → F_X9_haveOneSpace_70 (fun x6 => L_X9_haveOneSpace_30 x1 x2 x3 x4 x5 post n30 x6) x1 x2 x3 x4 x5 x6) ∧ (¬ x5 < r60 → post 1))))))))))))))
def F_X9_haveOneSpace_10 (f_road_demands : Nat → Int32) (post : Int32 → Prop) (x1 : Int32) (x2 : Int32) (x3 : Int32) (x4 : Int32) : Prop := (F_X5_asked f_road_demands 2 (fun r15 => (F_X5_asked f_road_demands 1 (fun r25 => (∃ n30 : Nat, L_X9_haveOneSpace_30 x1 x2 x3 x4 r15 post n30 r25)))))
def F_X9_haveOneSpace (f_road_demands : Nat → Int32) (x1 : Int32) (x2 : Int32) (x3 : Int32) (x4 : Int32) (post : Int32 → Prop) : Prop := ((x1 = 0 → ((x3 = 0 → post 1) ∧ (¬ x3 = 0 → F_X9_haveOneSpace_10 f_road_demands post x1 x2 x3 x4))) ∧ (¬ x1 = 0 → F_X9_haveOneSpace_10 f_road_demands post x1 x2 x3 x4))
set_option maxHeartbeats 4000000 in
set_option maxRecDepth 100000 in
theorem w_X9_haveOneSpace_70 {l : Launch} {D : va_G} {cI cJ cS : ClassId} {ad adK : Nat → Nat} {a_o a_road a_road_demands : Nat} {z_kept z_ahead z_shelves z_cutting z_acting z_refused z_road_stretches z_road_cars z_road_tunes : Value} {v_imaged : Int32} {v_lastFault : Int32} {v_road_drawSeed : Int32} {f_road_demands : Nat → Int32} {x1 : Int32} {x2 : Int32} {x3 : Int32} {x4 : Int32} {x5 : Int32} {x6 : Int32} {post : Int32 → Prop} {k30 : Int32 → Prop} {p : Program} {e : Env} {s : State} {m : MethodId} {args : Array Value} {below : List Frame} {meth : Method} {c : Code} (S : CallFix p m c cX9_haveOneSpace 7 s args GW "RoadThatSings") (hE : EN D cI cJ cS s) (hT : ST ad adK nof s s.heap) (hP : va_P D vwCl (wX9_haveOneSpace cI cJ cS a_o a_road a_road_demands z_kept z_ahead z_shelves z_cutting z_acting z_refused z_road_stretches z_road_cars z_road_tunes v_imaged v_lastFault v_road_drawSeed f_road_demands) s.heap) (hS : va_S nof s.heap s.heap []) (hr : meth.sig.returnType = (some (.boolean))) (hlocks : meth.locks = false) (hk30 : ∀ (x6 : Int32) (ls : Array Slot), k30 x6 → lv_has ls 7 [(1, .int x1), (2, .int x2), (3, .int x3), (4, .int x4), (5, .int x5), (6, .int x6)] → W p l e (rmd 2 0 0) s m args below meth c s.heap [] 0 0 (MQ below (vp_Si post) args s 0 0 nof) (F0 m 30 ls [])) : ∀ (ls : Array Slot), F_X9_haveOneSpace_70 k30 x1 x2 x3 x4 x5 x6 → lv_has ls 7 [(1, .int x1), (2, .int x2), (3, .int x3), (4, .int x4), (5, .int x5), (6, .int x6)] → W p l e (rmd 2 0 0) s m args below meth c s.heap [] 0 0 (MQ below (vp_Si post) args s 0 0 nof) (F0 m 70 ls []) := by
  intro  ls h hl
  unfold F_X9_haveOneSpace_70 at h
  have hx := S.1
  have hb := S.2.1
  obtain ⟨x6_70, ex6_70⟩ : ∃ z : Int32, z = x6 + 1 := ⟨_, rfl⟩
  have h := h _ ex6_70
  refine lv_iinc (v := x6_70) (lv' := [(6, .int x6_70), (1, .int x1), (2, .int x2), (3, .int x3), (4, .int x4), (5, .int x5)]) hx hb dX9_haveOneSpace_70 hl (k := 5) rfl (by rw [ex6_70]; rfl) (by decide) rfl (fun ls hl => ?_)
  refine lv_goto (tgt := 30) hx hb dX9_haveOneSpace_73 (by decide) ?_
  exact hk30 _ _ h (lv_sub hl [1, 2, 3, 4, 5, 0] rfl)
set_option maxHeartbeats 4000000 in
set_option maxRecDepth 100000 in
theorem w_X9_haveOneSpace_30 {l : Launch} {D : va_G} {cI cJ cS : ClassId} {ad adK : Nat → Nat} {a_o a_road a_road_demands : Nat} {z_kept z_ahead z_shelves z_cutting z_acting z_refused z_road_stretches z_road_cars z_road_tunes : Value} {v_imaged : Int32} {v_lastFault : Int32} {v_road_drawSeed : Int32} {f_road_demands : Nat → Int32} {x1 : Int32} {x2 : Int32} {x3 : Int32} {x4 : Int32} {x5 : Int32} {post : Int32 → Prop} {p : Program} {e : Env} {s : State} {m : MethodId} {args : Array Value} {below : List Frame} {meth : Method} {c : Code} (S : CallFix p m c cX9_haveOneSpace 7 s args GW "RoadThatSings") (hE : EN D cI cJ cS s) (hT : ST ad adK nof s s.heap) (hP : va_P D vwCl (wX9_haveOneSpace cI cJ cS a_o a_road a_road_demands z_kept z_ahead z_shelves z_cutting z_acting z_refused z_road_stretches z_road_cars z_road_tunes v_imaged v_lastFault v_road_drawSeed f_road_demands) s.heap) (hS : va_S nof s.heap s.heap []) (hr : meth.sig.returnType = (some (.boolean))) (hlocks : meth.locks = false) : ∀ n : Nat, ∀ (x6 : Int32) (ls : Array Slot), L_X9_haveOneSpace_30 x1 x2 x3 x4 x5 post n x6 → lv_has ls 7 [(1, .int x1), (2, .int x2), (3, .int x3), (4, .int x4), (5, .int x5), (6, .int x6)] → W p l e (rmd 2 0 0) s m args below meth c s.heap [] 0 0 (MQ below (vp_Si post) args s 0 0 nof) (F0 m 30 ls []) := by
  intro n
  induction n with
  | zero =>
    intro x6 ls h hl
    exact h.elim
  | succ n ih =>
    intro x6 ls h hl
    rw [L_X9_haveOneSpace_30] at h
    have hx := S.1
    have hb := S.2.1
    refine lv_iload hx hb dX9_haveOneSpace_30 (lv_at hl 5 rfl) ?_
    refine lv_bipush (v := 60) hx hb dX9_haveOneSpace_32 (by decide) ?_
    refine lv_icmp_gt (tgt := 76) hx hb dX9_haveOneSpace_34 (by decide) (fun hc => ?_) (fun hc => ?_)
    · have h := h.1 hc
      refine lv_iconst (v := 0) hx hb dX9_haveOneSpace_76 (by decide) ?_
      exact W.zret hx hb hr rfl (fun t ht _ => ⟨_, rfl, h, ht⟩) (fun _ hq => by cases hq) dX9_haveOneSpace_77
    have h := h.2 hc
    refine lv_iload hx hb dX9_haveOneSpace_37 (lv_at hl 5 rfl) ?_
    refine lv_iload_n hx hb dX9_haveOneSpace_39 rfl (lv_at hl 1 rfl) ?_
    refine ro_i (roS S hE hT hS (c_X9_humBy h) lkX9_337 rfl ⟨(Nat.le_of_ble_eq_true rfl), (Nat.le_of_ble_eq_true rfl)⟩ (hP.sub [] rfl) hl.1 rfl (Nat.le_of_ble_eq_true rfl) dX9_haveOneSpace_40 ⟨(Nat.zero_le _), (Nat.zero_le _)⟩) (fun r40 h => ?_)
    refine lv_iload_n hx hb dX9_haveOneSpace_43 rfl (lv_at hl 0 rfl) ?_
    refine ro_i (roS S hE hT hS (c_X9_offBetween h) lkX9_272 rfl ⟨(Nat.le_of_ble_eq_true rfl), (Nat.le_of_ble_eq_true rfl)⟩ (hP.sub [] rfl) hl.1 rfl (Nat.le_of_ble_eq_true rfl) dX9_haveOneSpace_44 ⟨(Nat.zero_le _), (Nat.zero_le _)⟩) (fun r44 h => ?_)
    refine lv_iload hx hb dX9_haveOneSpace_47 (lv_at hl 4 rfl) ?_
    refine lv_icmp_gt (tgt := 70) hx hb dX9_haveOneSpace_49 (by decide) (fun hc => ?_) (fun hc => ?_)
    · have h := h.1 hc
      refine w_X9_haveOneSpace_70 S hE hT hP hS hr hlocks ih _ h (lv_sub hl [0, 1, 2, 3, 4, 5] rfl)
    have h := h.2 hc
    refine lv_iload hx hb dX9_haveOneSpace_52 (lv_at hl 5 rfl) ?_
    refine lv_iload hx hb dX9_haveOneSpace_54 (lv_at hl 3 rfl) ?_
    refine ro_i (roS S hE hT hS (c_X9_humBy h) lkX9_337 rfl ⟨(Nat.le_of_ble_eq_true rfl), (Nat.le_of_ble_eq_true rfl)⟩ (hP.sub [] rfl) hl.1 rfl (Nat.le_of_ble_eq_true rfl) dX9_haveOneSpace_56 ⟨(Nat.zero_le _), (Nat.zero_le _)⟩) (fun r56 h => ?_)
    refine lv_iload_n hx hb dX9_haveOneSpace_59 rfl (lv_at hl 2 rfl) ?_
    refine ro_i (roS S hE hT hS (c_X9_offBetween h) lkX9_272 rfl ⟨(Nat.le_of_ble_eq_true rfl), (Nat.le_of_ble_eq_true rfl)⟩ (hP.sub [] rfl) hl.1 rfl (Nat.le_of_ble_eq_true rfl) dX9_haveOneSpace_60 ⟨(Nat.zero_le _), (Nat.zero_le _)⟩) (fun r60 h => ?_)
    refine lv_iload hx hb dX9_haveOneSpace_63 (lv_at hl 4 rfl) ?_
    refine lv_icmp_gt (tgt := 70) hx hb dX9_haveOneSpace_65 (by decide) (fun hc => ?_) (fun hc => ?_)
    · have h := h.1 hc
      refine w_X9_haveOneSpace_70 S hE hT hP hS hr hlocks ih _ h (lv_sub hl [0, 1, 2, 3, 4, 5] rfl)
    have h := h.2 hc
    refine lv_iconst (v := 1) hx hb dX9_haveOneSpace_68 (by decide) ?_
    exact W.zret hx hb hr rfl (fun t ht _ => ⟨_, rfl, h, ht⟩) (fun _ hq => by cases hq) dX9_haveOneSpace_69
set_option maxHeartbeats 4000000 in
set_option maxRecDepth 100000 in
theorem w_X9_haveOneSpace_10 {l : Launch} {D : va_G} {cI cJ cS : ClassId} {ad adK : Nat → Nat} {a_o a_road a_road_demands : Nat} {z_kept z_ahead z_shelves z_cutting z_acting z_refused z_road_stretches z_road_cars z_road_tunes : Value} {v_imaged : Int32} {v_lastFault : Int32} {v_road_drawSeed : Int32} {f_road_demands : Nat → Int32} {x1 : Int32} {x2 : Int32} {x3 : Int32} {x4 : Int32} {post : Int32 → Prop} {p : Program} {e : Env} {s : State} {m : MethodId} {args : Array Value} {below : List Frame} {meth : Method} {c : Code} (S : CallFix p m c cX9_haveOneSpace 7 s args GW "RoadThatSings") (hE : EN D cI cJ cS s) (hT : ST ad adK nof s s.heap) (hP : va_P D vwCl (wX9_haveOneSpace cI cJ cS a_o a_road a_road_demands z_kept z_ahead z_shelves z_cutting z_acting z_refused z_road_stretches z_road_cars z_road_tunes v_imaged v_lastFault v_road_drawSeed f_road_demands) s.heap) (hS : va_S nof s.heap s.heap []) (hr : meth.sig.returnType = (some (.boolean))) (hlocks : meth.locks = false) : ∀ (ls : Array Slot), F_X9_haveOneSpace_10 f_road_demands post x1 x2 x3 x4 → lv_has ls 7 [(0, .ref a_o), (1, .int x1), (2, .int x2), (3, .int x3), (4, .int x4)] → W p l e (rmd 2 0 0) s m args below meth c s.heap [] 0 0 (MQ below (vp_Si post) args s 0 0 nof) (F0 m 10 ls []) := by
  intro  ls h hl
  unfold F_X9_haveOneSpace_10 at h
  have hx := S.1
  have hb := S.2.1
  refine lv_aload_n hx hb dX9_haveOneSpace_10 rfl (lv_at hl 0 rfl) ?_
  refine gf S hE hP 0 rfl rfl inX9 (k := 0) (by decide) q181 rfl dX9_haveOneSpace_11 ?_
  refine lv_iconst (v := 2) hx hb dX9_haveOneSpace_14 (by decide) ?_
  refine ro_i (roV S hE hT hS (c_X5_asked h) lkX9_241 rfl ⟨(Nat.le_of_ble_eq_true rfl), (Nat.le_of_ble_eq_true rfl)⟩ (hP.sub [1, 2] rfl) 0 rfl rfl hl.1 rfl (Nat.le_of_ble_eq_true rfl) dX9_haveOneSpace_15 ⟨(Nat.zero_le _), (Nat.zero_le _)⟩) (fun r15 h => ?_)
  refine lv_istore (lv' := [(5, .int r15), (0, .ref a_o), (1, .int x1), (2, .int x2), (3, .int x3), (4, .int x4)]) hx hb dX9_haveOneSpace_18 hl (by decide) rfl (fun ls hl => ?_)
  refine lv_aload_n hx hb dX9_haveOneSpace_20 rfl (lv_at hl 1 rfl) ?_
  refine gf S hE hP 0 rfl rfl inX9 (k := 0) (by decide) q181 rfl dX9_haveOneSpace_21 ?_
  refine lv_iconst (v := 1) hx hb dX9_haveOneSpace_24 (by decide) ?_
  refine ro_i (roV S hE hT hS (c_X5_asked h) lkX9_241 rfl ⟨(Nat.le_of_ble_eq_true rfl), (Nat.le_of_ble_eq_true rfl)⟩ (hP.sub [1, 2] rfl) 0 rfl rfl hl.1 rfl (Nat.le_of_ble_eq_true rfl) dX9_haveOneSpace_25 ⟨(Nat.zero_le _), (Nat.zero_le _)⟩) (fun r25 h => ?_)
  refine lv_istore (lv' := [(6, .int r25), (5, .int r15), (0, .ref a_o), (1, .int x1), (2, .int x2), (3, .int x3), (4, .int x4)]) hx hb dX9_haveOneSpace_28 hl (by decide) rfl (fun ls hl => ?_)
  obtain ⟨n, h⟩ := h
  refine w_X9_haveOneSpace_30 S hE hT hP hS hr hlocks n _ _ h (lv_sub hl [3, 4, 5, 6, 1, 0] rfl)
set_option maxHeartbeats 4000000 in
set_option maxRecDepth 100000 in
theorem c_X9_haveOneSpace {l : Launch} {D : va_G} {cI cJ cS : ClassId} {ad adK : Nat → Nat} {a_o a_road a_road_demands : Nat} {z_kept z_ahead z_shelves z_cutting z_acting z_refused z_road_stretches z_road_cars z_road_tunes : Value} {v_imaged : Int32} {v_lastFault : Int32} {v_road_drawSeed : Int32} {f_road_demands : Nat → Int32} {x1 : Int32} {x2 : Int32} {x3 : Int32} {x4 : Int32} {post : Int32 → Prop} (h : F_X9_haveOneSpace f_road_demands x1 x2 x3 x4 post) : Met l yX9_haveOneSpace (Cond.code yX9_haveOneSpace cX9_haveOneSpace 7 (some (.boolean)) :: GW) (rmd 2 0 0) (PR D cI cJ cS ad adK [.ref a_o, .int x1, .int x2, .int x3, .int x4] (wX9_haveOneSpace cI cJ cS a_o a_road a_road_demands z_kept z_ahead z_shelves z_cutting z_acting z_refused z_road_stretches z_road_cars z_road_tunes v_imaged v_lastFault v_road_drawSeed f_road_demands)) (vp_Si post) 0 0 nof := by
  refine Met.ro (by decide) (Nat.le_of_ble_eq_true rfl) (fun p e s m args below meth c ls (S : CallFix p m c cX9_haveOneSpace 7 s args GW "RoadThatSings") hE hT hP hS hr hlocks hl => ?_)
  have hx := S.1
  have hb := S.2.1
  have hl : lv_has ls 7 [(0, .ref a_o), (1, .int x1), (2, .int x2), (3, .int x3), (4, .int x4)] := hl
  unfold F_X9_haveOneSpace at h
  refine lv_iload_n hx hb dX9_haveOneSpace_0 rfl (lv_at hl 1 rfl) ?_
  refine lv_if_ne (tgt := 10) hx hb dX9_haveOneSpace_1 (by decide) (fun hc => ?_) (fun hc => ?_)
  · have h := h.2 hc
    refine w_X9_haveOneSpace_10 S hE hT hP hS hr hlocks _ h (lv_sub hl [0, 1, 2, 3, 4] rfl)
  have h := h.1 hc
  refine lv_iload_n hx hb dX9_haveOneSpace_4 rfl (lv_at hl 3 rfl) ?_
  refine lv_if_ne (tgt := 10) hx hb dX9_haveOneSpace_5 (by decide) (fun hc => ?_) (fun hc => ?_)
  · have h := h.2 hc
    refine w_X9_haveOneSpace_10 S hE hT hP hS hr hlocks _ h (lv_sub hl [0, 1, 2, 3, 4] rfl)
  have h := h.1 hc
  refine lv_iconst (v := 1) hx hb dX9_haveOneSpace_8 (by decide) ?_
  exact W.zret hx hb hr rfl (fun t ht _ => ⟨_, rfl, h, ht⟩) (fun _ hq => by cases hq) dX9_haveOneSpace_9
/-! X9_two -/
abbrev wX9_two (cI cJ cS : ClassId) (a_o a_refused a_road a_road_demands a_road_tunes a_road_tunes_noteCounts a_road_tunes_pitches : Nat) (z_kept z_ahead z_shelves z_cutting z_acting z_road_stretches z_road_cars z_road_tunes_beats : Value) (v_imaged : Int32) (v_lastFault : Int32) (f_refused : Nat → Int32) (v_road_drawSeed : Int32) (f_road_demands : Nat → Int32) (v_road_tunes_tuneCount : Int32) (f_road_tunes_noteCounts : Nat → Int32) (f_road_tunes_pitches : Nat → Int32) : va_W := [(a_o, .inr (8, [.ref a_road, z_kept, z_ahead, z_shelves, z_cutting, z_acting, .ref a_refused, .int v_imaged, .int v_lastFault])), (a_refused, .inl (cI, 8, .inl f_refused)), (a_road, .inr (4, [z_road_stretches, z_road_cars, .ref a_road_tunes, .ref a_road_demands, .int v_road_drawSeed])), (a_road_demands, .inl (cI, 4, .inl f_road_demands)), (a_road_tunes, .inr (7, [.ref a_road_tunes_pitches, z_road_tunes_beats, .ref a_road_tunes_noteCounts, .int v_road_tunes_tuneCount])), (a_road_tunes_noteCounts, .inl (cI, 6, .inl f_road_tunes_noteCounts)), (a_road_tunes_pitches, .inl (cI, 72, .inl f_road_tunes_pitches))]
def F_X9_two_116 (k76 : Int32 → Int32 → Prop) (x1 : Int32) (x2 : Int32) (x3 : Int32) (x4 : Int32) (x6 : Int32) (x7 : Int32) (f_refused : Nat → Int32) : Prop := (∀ x7_116 : Int32, x7_116 = x7 + 1 → k76 x6 x7_116)
def L_X9_two_76 (f_road_demands : Nat → Int32) (v_road_tunes_tuneCount : Int32) (f_road_tunes_noteCounts : Nat → Int32) (f_road_tunes_pitches : Nat → Int32) (x1 : Int32) (x2 : Int32) (x3 : Int32) (x4 : Int32) (f_refused : Nat → Int32) (post : Int32 → (Nat → Int32) → Prop) : Nat → Int32 → Int32 → Prop
  | 0, _, _ => False
  | n76 + 1, x6, x7 => (F_X8_notesOf v_road_tunes_tuneCount f_road_tunes_noteCounts x1 (fun r81 => ((r81 ≤ x7 → post x6 f_refused) ∧ (¬ r81 ≤ x7 → (F_X8_pitchOf v_road_tunes_tuneCount f_road_tunes_noteCounts f_road_tunes_pitches x1 x7 (fun r93 => (F_X8_pitchOf v_road_tunes_tuneCount f_road_tunes_noteCounts f_road_tunes_pitches x3 x7 (fun r102 => (F_X9_haveOneSpace f_road_demands r93 x2 r102 x4 (fun r107 => ((r107 = 0 → F_X9_two_116 (fun x6 x7 => L_X9_two_76 f_road_demands v_road_tunes_tuneCount f_road_tunes_noteCounts f_road_tunes_pitches x1 x2 x3 x4 f_refused post n76 x6 x7) x1 x2 x3 x4 x6 x7 f_refused) ∧ (¬ r107 = 0 → (∀ x6_113 : Int32, x6_113 = x6 + 1 → F_X9_two_116 (fun x6 x7 => L_X9_two_76 f_road_demands v_road_tunes_tuneCount f_road_tunes_noteCounts f_road_tunes_pitches x1 x2 x3 x4 f_refused post n76 x6 x7) x1 x2 x3 x4 x6_113 x7 f_refused)))))))))))))
def F_X9_two (f_refused : Nat → Int32) (f_road_demands : Nat → Int32) (v_road_tunes_tuneCount : Int32) (f_road_tunes_noteCounts : Nat → Int32) (f_road_tunes_pitches : Nat → Int32) (x1 : Int32) (x2 : Int32) (x3 : Int32) (x4 : Int32) (post : Int32 → (Nat → Int32) → Prop) : Prop := (F_X8_has v_road_tunes_tuneCount x1 (fun r12 => ((r12 = 0 → (F_X9_refuse f_refused (-1) (fun r29 w29_0 => post r29 w29_0))) ∧ (¬ r12 = 0 → (F_X8_has v_road_tunes_tuneCount x3 (fun r21 => ((r21 = 0 → (F_X9_refuse f_refused (-1) (fun r29 w29_0 => post r29 w29_0))) ∧ (¬ r21 = 0 → (F_X9_isSpeed x2 (fun r34 => ((r34 = 0 → (F_X9_refuse f_refused (-6) (fun r66 w66_0 => post r66 w66_0))) ∧ (¬ r34 = 0 → (F_X9_isSpeed x4 (fun r42 => ((r42 = 0 → (F_X9_refuse f_refused (-6) (fun r66 w66_0 => post r66 w66_0))) ∧ (¬ r42 = 0 → (F_X8_notesOf v_road_tunes_tuneCount f_road_tunes_noteCounts x1 (fun r51 => (F_X8_notesOf v_road_tunes_tuneCount f_road_tunes_noteCounts x3 (fun r57 => ((r51 = r57 → (∃ n76 : Nat, L_X9_two_76 f_road_demands v_road_tunes_tuneCount f_road_tunes_noteCounts f_road_tunes_pitches x1 x2 x3 x4 f_refused post n76 0 0)) ∧ (¬ r51 = r57 → (F_X9_refuse f_refused (-6) (fun r66 w66_0 => post r66 w66_0))))))))))))))))))))))))
set_option maxHeartbeats 4000000 in
set_option maxRecDepth 100000 in
theorem w_X9_two_116 {l : Launch} {D : va_G} {cI cJ cS : ClassId} {ad adK : Nat → Nat} {a_o a_refused a_road a_road_demands a_road_tunes a_road_tunes_noteCounts a_road_tunes_pitches : Nat} {z_kept z_ahead z_shelves z_cutting z_acting z_road_stretches z_road_cars z_road_tunes_beats : Value} {v_imaged : Int32} {v_lastFault : Int32} {f_refused : Nat → Int32} {v_road_drawSeed : Int32} {f_road_demands : Nat → Int32} {v_road_tunes_tuneCount : Int32} {f_road_tunes_noteCounts : Nat → Int32} {f_road_tunes_pitches : Nat → Int32} {x1 : Int32} {x2 : Int32} {x3 : Int32} {x4 : Int32} {x6 : Int32} {x7 : Int32} {post : Int32 → (Nat → Int32) → Prop} {k76 : Int32 → Int32 → Prop} {p : Program} {e : Env} {s : State} {m : MethodId} {args : Array Value} {below : List Frame} {meth : Method} {c : Code} {A : Nat → Prop} (S : CallFix p m c cX9_two 8 s args GW "RoadThatSings") (hE : EN D cI cJ cS s) (hT : ST ad adK A s s.heap) (hA : ∀ q : Nat, s.heap.size ≤ q → A q) (hr : meth.sig.returnType = (some (.int))) (hlocks : meth.locks = false) (hk76 : ∀ (x6 : Int32) (x7 : Int32) (H : Heap) (locs : List Loc) (ls : Array Slot), k76 x6 x7 → va_P D vwCl (wX9_two cI cJ cS a_o a_refused a_road a_road_demands a_road_tunes a_road_tunes_noteCounts a_road_tunes_pitches z_kept z_ahead z_shelves z_cutting z_acting z_road_stretches z_road_cars z_road_tunes_beats v_imaged v_lastFault f_refused v_road_drawSeed f_road_demands v_road_tunes_tuneCount f_road_tunes_noteCounts f_road_tunes_pitches) H → va_D A (wX9_two cI cJ cS a_o a_refused a_road a_road_demands a_road_tunes a_road_tunes_noteCounts a_road_tunes_pitches z_kept z_ahead z_shelves z_cutting z_acting z_road_stretches z_road_cars z_road_tunes_beats v_imaged v_lastFault f_refused v_road_drawSeed f_road_demands v_road_tunes_tuneCount f_road_tunes_noteCounts f_road_tunes_pitches) → va_S A s.heap H locs → lv_has ls 8 [(0, .ref a_o), (1, .int x1), (2, .int x2), (3, .int x3), (4, .int x4), (5, .ref a_road_tunes), (6, .int x6), (7, .int x7)] → W p l e (rmd 3 0 0) s m args below meth c H locs 0 0 (MQ below (va_Qi (fun r (u : (Nat → Int32)) => post r u) (fun u t => va_P D vwCl (wX9_two cI cJ cS a_o a_refused a_road a_road_demands a_road_tunes a_road_tunes_noteCounts a_road_tunes_pitches z_kept z_ahead z_shelves z_cutting z_acting z_road_stretches z_road_cars z_road_tunes_beats v_imaged v_lastFault u v_road_drawSeed f_road_demands v_road_tunes_tuneCount f_road_tunes_noteCounts f_road_tunes_pitches) t.heap) A) args s 0 0 A) (F0 m 76 ls [])) : ∀ (H : Heap) (locs : List Loc) (ls : Array Slot), F_X9_two_116 k76 x1 x2 x3 x4 x6 x7 f_refused → va_P D vwCl (wX9_two cI cJ cS a_o a_refused a_road a_road_demands a_road_tunes a_road_tunes_noteCounts a_road_tunes_pitches z_kept z_ahead z_shelves z_cutting z_acting z_road_stretches z_road_cars z_road_tunes_beats v_imaged v_lastFault f_refused v_road_drawSeed f_road_demands v_road_tunes_tuneCount f_road_tunes_noteCounts f_road_tunes_pitches) H → va_D A (wX9_two cI cJ cS a_o a_refused a_road a_road_demands a_road_tunes a_road_tunes_noteCounts a_road_tunes_pitches z_kept z_ahead z_shelves z_cutting z_acting z_road_stretches z_road_cars z_road_tunes_beats v_imaged v_lastFault f_refused v_road_drawSeed f_road_demands v_road_tunes_tuneCount f_road_tunes_noteCounts f_road_tunes_pitches) → va_S A s.heap H locs → lv_has ls 8 [(0, .ref a_o), (1, .int x1), (2, .int x2), (3, .int x3), (4, .int x4), (5, .ref a_road_tunes), (6, .int x6), (7, .int x7)] → W p l e (rmd 3 0 0) s m args below meth c H locs 0 0 (MQ below (va_Qi (fun r (u : (Nat → Int32)) => post r u) (fun u t => va_P D vwCl (wX9_two cI cJ cS a_o a_refused a_road a_road_demands a_road_tunes a_road_tunes_noteCounts a_road_tunes_pitches z_kept z_ahead z_shelves z_cutting z_acting z_road_stretches z_road_cars z_road_tunes_beats v_imaged v_lastFault u v_road_drawSeed f_road_demands v_road_tunes_tuneCount f_road_tunes_noteCounts f_road_tunes_pitches) t.heap) A) args s 0 0 A) (F0 m 116 ls []) := by
  intro  H locs ls h hP hD hS hl
  unfold F_X9_two_116 at h
  have hx := S.1
  have hb := S.2.1
  obtain ⟨x7_116, ex7_116⟩ : ∃ z : Int32, z = x7 + 1 := ⟨_, rfl⟩
  have h := h _ ex7_116
  refine lv_iinc (v := x7_116) (lv' := [(7, .int x7_116), (0, .ref a_o), (1, .int x1), (2, .int x2), (3, .int x3), (4, .int x4), (5, .ref a_road_tunes), (6, .int x6)]) hx hb dX9_two_116 hl (k := 7) rfl (by rw [ex7_116]; rfl) (by decide) rfl (fun ls hl => ?_)
  refine lv_goto (tgt := 76) hx hb dX9_two_119 (by decide) ?_
  exact hk76 _ _ _ _ _ h hP hD hS (lv_sub hl [1, 2, 3, 4, 5, 6, 7, 0] rfl)
set_option maxHeartbeats 4000000 in
set_option maxRecDepth 100000 in
theorem w_X9_two_76 {l : Launch} {D : va_G} {cI cJ cS : ClassId} {ad adK : Nat → Nat} {a_o a_refused a_road a_road_demands a_road_tunes a_road_tunes_noteCounts a_road_tunes_pitches : Nat} {z_kept z_ahead z_shelves z_cutting z_acting z_road_stretches z_road_cars z_road_tunes_beats : Value} {v_imaged : Int32} {v_lastFault : Int32} {f_refused : Nat → Int32} {v_road_drawSeed : Int32} {f_road_demands : Nat → Int32} {v_road_tunes_tuneCount : Int32} {f_road_tunes_noteCounts : Nat → Int32} {f_road_tunes_pitches : Nat → Int32} {x1 : Int32} {x2 : Int32} {x3 : Int32} {x4 : Int32} {post : Int32 → (Nat → Int32) → Prop} {p : Program} {e : Env} {s : State} {m : MethodId} {args : Array Value} {below : List Frame} {meth : Method} {c : Code} {A : Nat → Prop} (S : CallFix p m c cX9_two 8 s args GW "RoadThatSings") (hE : EN D cI cJ cS s) (hT : ST ad adK A s s.heap) (hA : ∀ q : Nat, s.heap.size ≤ q → A q) (hr : meth.sig.returnType = (some (.int))) (hlocks : meth.locks = false) : ∀ n : Nat, ∀ (x6 : Int32) (x7 : Int32) (H : Heap) (locs : List Loc) (ls : Array Slot), L_X9_two_76 f_road_demands v_road_tunes_tuneCount f_road_tunes_noteCounts f_road_tunes_pitches x1 x2 x3 x4 f_refused post n x6 x7 → va_P D vwCl (wX9_two cI cJ cS a_o a_refused a_road a_road_demands a_road_tunes a_road_tunes_noteCounts a_road_tunes_pitches z_kept z_ahead z_shelves z_cutting z_acting z_road_stretches z_road_cars z_road_tunes_beats v_imaged v_lastFault f_refused v_road_drawSeed f_road_demands v_road_tunes_tuneCount f_road_tunes_noteCounts f_road_tunes_pitches) H → va_D A (wX9_two cI cJ cS a_o a_refused a_road a_road_demands a_road_tunes a_road_tunes_noteCounts a_road_tunes_pitches z_kept z_ahead z_shelves z_cutting z_acting z_road_stretches z_road_cars z_road_tunes_beats v_imaged v_lastFault f_refused v_road_drawSeed f_road_demands v_road_tunes_tuneCount f_road_tunes_noteCounts f_road_tunes_pitches) → va_S A s.heap H locs → lv_has ls 8 [(0, .ref a_o), (1, .int x1), (2, .int x2), (3, .int x3), (4, .int x4), (5, .ref a_road_tunes), (6, .int x6), (7, .int x7)] → W p l e (rmd 3 0 0) s m args below meth c H locs 0 0 (MQ below (va_Qi (fun r (u : (Nat → Int32)) => post r u) (fun u t => va_P D vwCl (wX9_two cI cJ cS a_o a_refused a_road a_road_demands a_road_tunes a_road_tunes_noteCounts a_road_tunes_pitches z_kept z_ahead z_shelves z_cutting z_acting z_road_stretches z_road_cars z_road_tunes_beats v_imaged v_lastFault u v_road_drawSeed f_road_demands v_road_tunes_tuneCount f_road_tunes_noteCounts f_road_tunes_pitches) t.heap) A) args s 0 0 A) (F0 m 76 ls []) := by
  intro n
  induction n with
  | zero =>
    intro x6 x7 H locs ls h hP hD hS hl
    exact h.elim
  | succ n ih =>
    intro x6 x7 H locs ls h hP hD hS hl
    rw [L_X9_two_76] at h
    have hx := S.1
    have hb := S.2.1
    refine lv_iload hx hb dX9_two_76 (lv_at hl 7 rfl) ?_
    refine lv_aload hx hb dX9_two_78 (lv_at hl 5 rfl) ?_
    refine lv_iload_n hx hb dX9_two_80 rfl (lv_at hl 1 rfl) ?_
    refine ro_i (roV S hE hT hS (c_X8_notesOf h) lkX9_226 rfl ⟨(Nat.le_of_ble_eq_true rfl), (Nat.le_of_ble_eq_true rfl)⟩ (hP.sub [4, 5] rfl) 0 rfl rfl hl.1 rfl (Nat.le_of_ble_eq_true rfl) dX9_two_81 ⟨(Nat.zero_le _), (Nat.zero_le _)⟩) (fun r81 h => ?_)
    refine lv_icmp_ge (tgt := 122) hx hb dX9_two_84 (by decide) (fun hc => ?_) (fun hc => ?_)
    · have h := h.1 hc
      refine lv_iload hx hb dX9_two_122 (lv_at hl 6 rfl) ?_
      exact W.iret hx hb hr (fun t ht _ => ⟨⟨_, f_refused, rfl, h, hPt hP ht⟩, hS.F ht⟩) hS.2.2 dX9_two_124
    have h := h.2 hc
    refine lv_aload_n hx hb dX9_two_87 rfl (lv_at hl 0 rfl) ?_
    refine lv_aload hx hb dX9_two_88 (lv_at hl 5 rfl) ?_
    refine lv_iload_n hx hb dX9_two_90 rfl (lv_at hl 1 rfl) ?_
    refine lv_iload hx hb dX9_two_91 (lv_at hl 7 rfl) ?_
    refine ro_i (roV S hE hT hS (c_X8_pitchOf h) lkX9_232 rfl ⟨(Nat.le_of_ble_eq_true rfl), (Nat.le_of_ble_eq_true rfl)⟩ (hP.sub [4, 5, 6] rfl) 0 rfl rfl hl.1 rfl (Nat.le_of_ble_eq_true rfl) dX9_two_93 ⟨(Nat.zero_le _), (Nat.zero_le _)⟩) (fun r93 h => ?_)
    refine lv_iload_n hx hb dX9_two_96 rfl (lv_at hl 2 rfl) ?_
    refine lv_aload hx hb dX9_two_97 (lv_at hl 5 rfl) ?_
    refine lv_iload_n hx hb dX9_two_99 rfl (lv_at hl 3 rfl) ?_
    refine lv_iload hx hb dX9_two_100 (lv_at hl 7 rfl) ?_
    refine ro_i (roV S hE hT hS (c_X8_pitchOf h) lkX9_232 rfl ⟨(Nat.le_of_ble_eq_true rfl), (Nat.le_of_ble_eq_true rfl)⟩ (hP.sub [4, 5, 6] rfl) 0 rfl rfl hl.1 rfl (Nat.le_of_ble_eq_true rfl) dX9_two_102 ⟨(Nat.zero_le _), (Nat.zero_le _)⟩) (fun r102 h => ?_)
    refine lv_iload hx hb dX9_two_105 (lv_at hl 4 rfl) ?_
    refine ro_i (roV S hE hT hS (c_X9_haveOneSpace h) lkX9_333 rfl ⟨(Nat.le_of_ble_eq_true rfl), (Nat.le_of_ble_eq_true rfl)⟩ (hP.sub [0, 2, 3] rfl) 0 rfl rfl hl.1 rfl (Nat.le_of_ble_eq_true rfl) dX9_two_107 ⟨(Nat.zero_le _), (Nat.zero_le _)⟩) (fun r107 h => ?_)
    refine lv_if_eq (tgt := 116) hx hb dX9_two_110 (by decide) (fun hc => ?_) (fun hc => ?_)
    · have h := h.1 hc
      refine w_X9_two_116 S hE hT hA hr hlocks ih _ _ _ h hP hD hS (lv_sub hl [0, 1, 2, 3, 4, 5, 6, 7] rfl)
    have h := h.2 hc
    obtain ⟨x6_113, ex6_113⟩ : ∃ z : Int32, z = x6 + 1 := ⟨_, rfl⟩
    have h := h _ ex6_113
    refine lv_iinc (v := x6_113) (lv' := [(6, .int x6_113), (0, .ref a_o), (1, .int x1), (2, .int x2), (3, .int x3), (4, .int x4), (5, .ref a_road_tunes), (7, .int x7)]) hx hb dX9_two_113 hl (k := 6) rfl (by rw [ex6_113]; rfl) (by decide) rfl (fun ls hl => ?_)
    refine w_X9_two_116 S hE hT hA hr hlocks ih _ _ _ h hP hD hS (lv_sub hl [1, 2, 3, 4, 5, 6, 0, 7] rfl)
set_option maxHeartbeats 4000000 in
set_option maxRecDepth 100000 in
theorem c_X9_two {l : Launch} {D : va_G} {cI cJ cS : ClassId} {ad adK : Nat → Nat} {a_o a_refused a_road a_road_demands a_road_tunes a_road_tunes_noteCounts a_road_tunes_pitches : Nat} {z_kept z_ahead z_shelves z_cutting z_acting z_road_stretches z_road_cars z_road_tunes_beats : Value} {v_imaged : Int32} {v_lastFault : Int32} {f_refused : Nat → Int32} {v_road_drawSeed : Int32} {f_road_demands : Nat → Int32} {v_road_tunes_tuneCount : Int32} {f_road_tunes_noteCounts : Nat → Int32} {f_road_tunes_pitches : Nat → Int32} {x1 : Int32} {x2 : Int32} {x3 : Int32} {x4 : Int32} {post : Int32 → (Nat → Int32) → Prop} (h : F_X9_two f_refused f_road_demands v_road_tunes_tuneCount f_road_tunes_noteCounts f_road_tunes_pitches x1 x2 x3 x4 post) {sz : Nat} : Met l yX9_two (Cond.code yX9_two cX9_two 8 (some (.int)) :: GW) (rmd 3 0 0) (PW D cI cJ cS ad adK [.ref a_o, .int x1, .int x2, .int x3, .int x4] (wX9_two cI cJ cS a_o a_refused a_road a_road_demands a_road_tunes a_road_tunes_noteCounts a_road_tunes_pitches z_kept z_ahead z_shelves z_cutting z_acting z_road_stretches z_road_cars z_road_tunes_beats v_imaged v_lastFault f_refused v_road_drawSeed f_road_demands v_road_tunes_tuneCount f_road_tunes_noteCounts f_road_tunes_pitches) sz) (va_Qi (fun r (u : (Nat → Int32)) => post r u) (fun u t => va_P D vwCl (wX9_two cI cJ cS a_o a_refused a_road a_road_demands a_road_tunes a_road_tunes_noteCounts a_road_tunes_pitches z_kept z_ahead z_shelves z_cutting z_acting z_road_stretches z_road_cars z_road_tunes_beats v_imaged v_lastFault u v_road_drawSeed f_road_demands v_road_tunes_tuneCount f_road_tunes_noteCounts f_road_tunes_pitches) t.heap) (va_A (wX9_two cI cJ cS a_o a_refused a_road a_road_demands a_road_tunes a_road_tunes_noteCounts a_road_tunes_pitches z_kept z_ahead z_shelves z_cutting z_acting z_road_stretches z_road_cars z_road_tunes_beats v_imaged v_lastFault f_refused v_road_drawSeed f_road_demands v_road_tunes_tuneCount f_road_tunes_noteCounts f_road_tunes_pitches) sz)) 0 0 (va_A (wX9_two cI cJ cS a_o a_refused a_road a_road_demands a_road_tunes a_road_tunes_noteCounts a_road_tunes_pitches z_kept z_ahead z_shelves z_cutting z_acting z_road_stretches z_road_cars z_road_tunes_beats v_imaged v_lastFault f_refused v_road_drawSeed f_road_demands v_road_tunes_tuneCount f_road_tunes_noteCounts f_road_tunes_pitches) sz) := by
  refine Met.rw (Qc := fun A => (va_Qi (fun r (u : (Nat → Int32)) => post r u) (fun u t => va_P D vwCl (wX9_two cI cJ cS a_o a_refused a_road a_road_demands a_road_tunes a_road_tunes_noteCounts a_road_tunes_pitches z_kept z_ahead z_shelves z_cutting z_acting z_road_stretches z_road_cars z_road_tunes_beats v_imaged v_lastFault u v_road_drawSeed f_road_demands v_road_tunes_tuneCount f_road_tunes_noteCounts f_road_tunes_pitches) t.heap) A)) (by decide) (Nat.le_of_ble_eq_true rfl) (fun p e s m args below meth c ls A (S : CallFix p m c cX9_two 8 s args GW "RoadThatSings") hE hT hP hD hA hS hr hlocks hname hl => ?_)
  have hS0 := hS
  have hx := S.1
  have hb := S.2.1
  have hl : lv_has ls 8 [(0, .ref a_o), (1, .int x1), (2, .int x2), (3, .int x3), (4, .int x4)] := hl
  unfold F_X9_two at h
  refine lv_aload_n hx hb dX9_two_0 rfl (lv_at hl 0 rfl) ?_
  refine gf S hE hP 0 rfl rfl inX9 (k := 0) (by decide) q181 rfl dX9_two_1 ?_
  refine gfN S hE hP 2 rfl rfl inX5 (k := 2) (by decide) nfX9_209 rfl dX9_two_4 ?_
  refine lv_astore (lv' := [(5, .ref a_road_tunes), (0, .ref a_o), (1, .int x1), (2, .int x2), (3, .int x3), (4, .int x4)]) hx hb dX9_two_7 hl (by decide) rfl (fun ls hl => ?_)
  refine lv_aload hx hb dX9_two_9 (lv_at hl 0 rfl) ?_
  refine lv_iload_n hx hb dX9_two_11 rfl (lv_at hl 2 rfl) ?_
  refine ro_i (roV S hE hT hS (c_X8_has h) lkX9_222 rfl ⟨(Nat.le_of_ble_eq_true rfl), (Nat.le_of_ble_eq_true rfl)⟩ (hP.sub [4] rfl) 0 rfl rfl hl.1 rfl (Nat.le_of_ble_eq_true rfl) dX9_two_12 ⟨(Nat.zero_le _), (Nat.zero_le _)⟩) (fun r12 h => ?_)
  refine lv_if_eq (tgt := 27) hx hb dX9_two_15 (by decide) (fun hc => ?_) (fun hc => ?_)
  · have h := h.1 hc
    refine lv_aload_n hx hb dX9_two_27 rfl (lv_at hl 1 rfl) ?_
    refine lv_iconst (v := (-1)) hx hb dX9_two_28 (by decide) ?_
    refine rw_i (rwV S hE hT hS hP hD hA (c_X9_refuse h) [0, 1] rfl (by decide +kernel) lkX9_59 rfl ⟨(Nat.le_of_ble_eq_true rfl), (Nat.le_of_ble_eq_true rfl)⟩ 0 rfl rfl hl.1 rfl (Nat.le_of_ble_eq_true rfl) dX9_two_29 ⟨(Nat.zero_le _), (Nat.zero_le _)⟩) hP hD hS hA [0, 1] rfl (by decide +kernel) (fun _ => rfl) (fun r29 w29_0 H locs h hP hD hS => ?_)
    try dsimp only at h
    have hP : va_P D vwCl (wX9_two cI cJ cS a_o a_refused a_road a_road_demands a_road_tunes a_road_tunes_noteCounts a_road_tunes_pitches z_kept z_ahead z_shelves z_cutting z_acting z_road_stretches z_road_cars z_road_tunes_beats v_imaged v_lastFault w29_0 v_road_drawSeed f_road_demands v_road_tunes_tuneCount f_road_tunes_noteCounts f_road_tunes_pitches) H := hP
    have hD : va_D A (wX9_two cI cJ cS a_o a_refused a_road a_road_demands a_road_tunes a_road_tunes_noteCounts a_road_tunes_pitches z_kept z_ahead z_shelves z_cutting z_acting z_road_stretches z_road_cars z_road_tunes_beats v_imaged v_lastFault w29_0 v_road_drawSeed f_road_demands v_road_tunes_tuneCount f_road_tunes_noteCounts f_road_tunes_pitches) := hD
    exact W.iret hx hb hr (fun t ht _ => ⟨⟨_, w29_0, rfl, h, hPt hP ht⟩, hS.F ht⟩) hS.2.2 dX9_two_32
  have h := h.2 hc
  refine lv_aload hx hb dX9_two_18 (lv_at hl 0 rfl) ?_
  refine lv_iload_n hx hb dX9_two_20 rfl (lv_at hl 4 rfl) ?_
  refine ro_i (roV S hE hT hS (c_X8_has h) lkX9_222 rfl ⟨(Nat.le_of_ble_eq_true rfl), (Nat.le_of_ble_eq_true rfl)⟩ (hP.sub [4] rfl) 0 rfl rfl hl.1 rfl (Nat.le_of_ble_eq_true rfl) dX9_two_21 ⟨(Nat.zero_le _), (Nat.zero_le _)⟩) (fun r21 h => ?_)
  refine lv_if_ne (tgt := 33) hx hb dX9_two_24 (by decide) (fun hc => ?_) (fun hc => ?_)
  · have h := h.2 hc
    refine lv_iload_n hx hb dX9_two_33 rfl (lv_at hl 3 rfl) ?_
    refine ro_i (roS S hE hT hS (c_X9_isSpeed h) lkX9_177 rfl ⟨(Nat.le_of_ble_eq_true rfl), (Nat.le_of_ble_eq_true rfl)⟩ (hP.sub [] rfl) hl.1 rfl (Nat.le_of_ble_eq_true rfl) dX9_two_34 ⟨(Nat.zero_le _), (Nat.zero_le _)⟩) (fun r34 h => ?_)
    refine lv_if_eq (tgt := 63) hx hb dX9_two_37 (by decide) (fun hc => ?_) (fun hc => ?_)
    · have h := h.1 hc
      refine lv_aload_n hx hb dX9_two_63 rfl (lv_at hl 1 rfl) ?_
      refine lv_bipush (v := (-6)) hx hb dX9_two_64 (by decide) ?_
      refine rw_i (rwV S hE hT hS hP hD hA (c_X9_refuse h) [0, 1] rfl (by decide +kernel) lkX9_59 rfl ⟨(Nat.le_of_ble_eq_true rfl), (Nat.le_of_ble_eq_true rfl)⟩ 0 rfl rfl hl.1 rfl (Nat.le_of_ble_eq_true rfl) dX9_two_66 ⟨(Nat.zero_le _), (Nat.zero_le _)⟩) hP hD hS hA [0, 1] rfl (by decide +kernel) (fun _ => rfl) (fun r66 w66_0 H locs h hP hD hS => ?_)
      try dsimp only at h
      have hP : va_P D vwCl (wX9_two cI cJ cS a_o a_refused a_road a_road_demands a_road_tunes a_road_tunes_noteCounts a_road_tunes_pitches z_kept z_ahead z_shelves z_cutting z_acting z_road_stretches z_road_cars z_road_tunes_beats v_imaged v_lastFault w66_0 v_road_drawSeed f_road_demands v_road_tunes_tuneCount f_road_tunes_noteCounts f_road_tunes_pitches) H := hP
      have hD : va_D A (wX9_two cI cJ cS a_o a_refused a_road a_road_demands a_road_tunes a_road_tunes_noteCounts a_road_tunes_pitches z_kept z_ahead z_shelves z_cutting z_acting z_road_stretches z_road_cars z_road_tunes_beats v_imaged v_lastFault w66_0 v_road_drawSeed f_road_demands v_road_tunes_tuneCount f_road_tunes_noteCounts f_road_tunes_pitches) := hD
      exact W.iret hx hb hr (fun t ht _ => ⟨⟨_, w66_0, rfl, h, hPt hP ht⟩, hS.F ht⟩) hS.2.2 dX9_two_69
    have h := h.2 hc
    refine lv_iload hx hb dX9_two_40 (lv_at hl 5 rfl) ?_
    refine ro_i (roS S hE hT hS (c_X9_isSpeed h) lkX9_177 rfl ⟨(Nat.le_of_ble_eq_true rfl), (Nat.le_of_ble_eq_true rfl)⟩ (hP.sub [] rfl) hl.1 rfl (Nat.le_of_ble_eq_true rfl) dX9_two_42 ⟨(Nat.zero_le _), (Nat.zero_le _)⟩) (fun r42 h => ?_)
    refine lv_if_eq (tgt := 63) hx hb dX9_two_45 (by decide) (fun hc => ?_) (fun hc => ?_)
    · have h := h.1 hc
      refine lv_aload_n hx hb dX9_two_63 rfl (lv_at hl 1 rfl) ?_
      refine lv_bipush (v := (-6)) hx hb dX9_two_64 (by decide) ?_
      refine rw_i (rwV S hE hT hS hP hD hA (c_X9_refuse h) [0, 1] rfl (by decide +kernel) lkX9_59 rfl ⟨(Nat.le_of_ble_eq_true rfl), (Nat.le_of_ble_eq_true rfl)⟩ 0 rfl rfl hl.1 rfl (Nat.le_of_ble_eq_true rfl) dX9_two_66 ⟨(Nat.zero_le _), (Nat.zero_le _)⟩) hP hD hS hA [0, 1] rfl (by decide +kernel) (fun _ => rfl) (fun r66 w66_0 H locs h hP hD hS => ?_)
      try dsimp only at h
      have hP : va_P D vwCl (wX9_two cI cJ cS a_o a_refused a_road a_road_demands a_road_tunes a_road_tunes_noteCounts a_road_tunes_pitches z_kept z_ahead z_shelves z_cutting z_acting z_road_stretches z_road_cars z_road_tunes_beats v_imaged v_lastFault w66_0 v_road_drawSeed f_road_demands v_road_tunes_tuneCount f_road_tunes_noteCounts f_road_tunes_pitches) H := hP
      have hD : va_D A (wX9_two cI cJ cS a_o a_refused a_road a_road_demands a_road_tunes a_road_tunes_noteCounts a_road_tunes_pitches z_kept z_ahead z_shelves z_cutting z_acting z_road_stretches z_road_cars z_road_tunes_beats v_imaged v_lastFault w66_0 v_road_drawSeed f_road_demands v_road_tunes_tuneCount f_road_tunes_noteCounts f_road_tunes_pitches) := hD
      exact W.iret hx hb hr (fun t ht _ => ⟨⟨_, w66_0, rfl, h, hPt hP ht⟩, hS.F ht⟩) hS.2.2 dX9_two_69
    have h := h.2 hc
    refine lv_aload hx hb dX9_two_48 (lv_at hl 0 rfl) ?_
    refine lv_iload_n hx hb dX9_two_50 rfl (lv_at hl 2 rfl) ?_
    refine ro_i (roV S hE hT hS (c_X8_notesOf h) lkX9_226 rfl ⟨(Nat.le_of_ble_eq_true rfl), (Nat.le_of_ble_eq_true rfl)⟩ (hP.sub [4, 5] rfl) 0 rfl rfl hl.1 rfl (Nat.le_of_ble_eq_true rfl) dX9_two_51 ⟨(Nat.zero_le _), (Nat.zero_le _)⟩) (fun r51 h => ?_)
    refine lv_aload hx hb dX9_two_54 (lv_at hl 0 rfl) ?_
    refine lv_iload_n hx hb dX9_two_56 rfl (lv_at hl 4 rfl) ?_
    refine ro_i (roV S hE hT hS (c_X8_notesOf h) lkX9_226 rfl ⟨(Nat.le_of_ble_eq_true rfl), (Nat.le_of_ble_eq_true rfl)⟩ (hP.sub [4, 5] rfl) 0 rfl rfl hl.1 rfl (Nat.le_of_ble_eq_true rfl) dX9_two_57 ⟨(Nat.zero_le _), (Nat.zero_le _)⟩) (fun r57 h => ?_)
    refine lv_icmp_eq (tgt := 70) hx hb dX9_two_60 (by decide) (fun hc => ?_) (fun hc => ?_)
    · have h := h.1 hc
      refine lv_iconst (v := 0) hx hb dX9_two_70 (by decide) ?_
      refine lv_istore (lv' := [(6, .int 0), (5, .ref a_road_tunes), (0, .ref a_o), (1, .int x1), (2, .int x2), (3, .int x3), (4, .int x4)]) hx hb dX9_two_71 hl (by decide) rfl (fun ls hl => ?_)
      refine lv_iconst (v := 0) hx hb dX9_two_73 (by decide) ?_
      refine lv_istore (lv' := [(7, .int 0), (6, .int 0), (5, .ref a_road_tunes), (0, .ref a_o), (1, .int x1), (2, .int x2), (3, .int x3), (4, .int x4)]) hx hb dX9_two_74 hl (by decide) rfl (fun ls hl => ?_)
      obtain ⟨n, h⟩ := h
      refine w_X9_two_76 S hE hT hA hr hlocks n _ _ _ _ _ h hP hD hS (lv_sub hl [3, 4, 5, 6, 7, 2, 1, 0] rfl)
    have h := h.2 hc
    refine lv_aload_n hx hb dX9_two_63 rfl (lv_at hl 1 rfl) ?_
    refine lv_bipush (v := (-6)) hx hb dX9_two_64 (by decide) ?_
    refine rw_i (rwV S hE hT hS hP hD hA (c_X9_refuse h) [0, 1] rfl (by decide +kernel) lkX9_59 rfl ⟨(Nat.le_of_ble_eq_true rfl), (Nat.le_of_ble_eq_true rfl)⟩ 0 rfl rfl hl.1 rfl (Nat.le_of_ble_eq_true rfl) dX9_two_66 ⟨(Nat.zero_le _), (Nat.zero_le _)⟩) hP hD hS hA [0, 1] rfl (by decide +kernel) (fun _ => rfl) (fun r66 w66_0 H locs h hP hD hS => ?_)
    try dsimp only at h
    have hP : va_P D vwCl (wX9_two cI cJ cS a_o a_refused a_road a_road_demands a_road_tunes a_road_tunes_noteCounts a_road_tunes_pitches z_kept z_ahead z_shelves z_cutting z_acting z_road_stretches z_road_cars z_road_tunes_beats v_imaged v_lastFault w66_0 v_road_drawSeed f_road_demands v_road_tunes_tuneCount f_road_tunes_noteCounts f_road_tunes_pitches) H := hP
    have hD : va_D A (wX9_two cI cJ cS a_o a_refused a_road a_road_demands a_road_tunes a_road_tunes_noteCounts a_road_tunes_pitches z_kept z_ahead z_shelves z_cutting z_acting z_road_stretches z_road_cars z_road_tunes_beats v_imaged v_lastFault w66_0 v_road_drawSeed f_road_demands v_road_tunes_tuneCount f_road_tunes_noteCounts f_road_tunes_pitches) := hD
    exact W.iret hx hb hr (fun t ht _ => ⟨⟨_, w66_0, rfl, h, hPt hP ht⟩, hS.F ht⟩) hS.2.2 dX9_two_69
  have h := h.1 hc
  refine lv_aload_n hx hb dX9_two_27 rfl (lv_at hl 1 rfl) ?_
  refine lv_iconst (v := (-1)) hx hb dX9_two_28 (by decide) ?_
  refine rw_i (rwV S hE hT hS hP hD hA (c_X9_refuse h) [0, 1] rfl (by decide +kernel) lkX9_59 rfl ⟨(Nat.le_of_ble_eq_true rfl), (Nat.le_of_ble_eq_true rfl)⟩ 0 rfl rfl hl.1 rfl (Nat.le_of_ble_eq_true rfl) dX9_two_29 ⟨(Nat.zero_le _), (Nat.zero_le _)⟩) hP hD hS hA [0, 1] rfl (by decide +kernel) (fun _ => rfl) (fun r29 w29_0 H locs h hP hD hS => ?_)
  try dsimp only at h
  have hP : va_P D vwCl (wX9_two cI cJ cS a_o a_refused a_road a_road_demands a_road_tunes a_road_tunes_noteCounts a_road_tunes_pitches z_kept z_ahead z_shelves z_cutting z_acting z_road_stretches z_road_cars z_road_tunes_beats v_imaged v_lastFault w29_0 v_road_drawSeed f_road_demands v_road_tunes_tuneCount f_road_tunes_noteCounts f_road_tunes_pitches) H := hP
  have hD : va_D A (wX9_two cI cJ cS a_o a_refused a_road a_road_demands a_road_tunes a_road_tunes_noteCounts a_road_tunes_pitches z_kept z_ahead z_shelves z_cutting z_acting z_road_stretches z_road_cars z_road_tunes_beats v_imaged v_lastFault w29_0 v_road_drawSeed f_road_demands v_road_tunes_tuneCount f_road_tunes_noteCounts f_road_tunes_pitches) := hD
  exact W.iret hx hb hr (fun t ht _ => ⟨⟨_, w29_0, rfl, h, hPt hP ht⟩, hS.F ht⟩) hS.2.2 dX9_two_32
/-! X9_quotient_ -/
abbrev wX9_quotient_ (cI cJ cS : ClassId) : va_W := []
def F_X9_quotient_ (y0 : Int64) (y2 : Int64) (post : Int64 → Prop) : Prop := (((lg_cmp y2 0) = 0 → post 0) ∧ (¬ (lg_cmp y2 0) = 0 → (¬ y2 = 0 ∧ post (y0 / y2))))
set_option maxHeartbeats 4000000 in
set_option maxRecDepth 100000 in
theorem c_X9_quotient_ {l : Launch} {D : va_G} {cI cJ cS : ClassId} {ad adK : Nat → Nat}  {y0 : Int64} {y2 : Int64} {post : Int64 → Prop} (h : F_X9_quotient_ y0 y2 post) : Met l yX9_quotient_ (Cond.code yX9_quotient_ cX9_quotient_ 4 (some (.long)) :: GW) (rmd 0 0 0) (PR D cI cJ cS ad adK [.long y0, .long y2] (wX9_quotient_ cI cJ cS)) (vp_Sl post) 0 0 nof := by
  refine Met.ro (by decide) (Nat.le_of_ble_eq_true rfl) (fun p e s m args below meth c ls (S : CallFix p m c cX9_quotient_ 4 s args GW "RoadThatSings") hE hT hP hS hr hlocks hl => ?_)
  have hx := S.1
  have hb := S.2.1
  have hl : lv_has ls 4 [(0, .long y0), (2, .long y2)] := hl
  unfold F_X9_quotient_ at h
  refine lv_lload_n hx hb dX9_quotient__0 rfl (lv_at hl 1 rfl) ?_
  refine lv_lconst (v := 0) hx hb dX9_quotient__1 (by decide) ?_
  refine W.lcmp hx hb dX9_quotient__2 ?_
  refine lv_if_ne (tgt := 10) hx hb dX9_quotient__3 (by decide) (fun hc => ?_) (fun hc => ?_)
  · have h := h.2 hc
    refine lv_lload_n hx hb dX9_quotient__10 rfl (lv_at hl 0 rfl) ?_
    refine lv_lload_n hx hb dX9_quotient__11 rfl (lv_at hl 1 rfl) ?_
    obtain ⟨hz, h⟩ := h
    refine lv_ldiv hx hb dX9_quotient__12 hz ?_
    exact W.lret hx hb hr (fun t ht _ => ⟨_, rfl, h, ht⟩) (fun _ hq => by cases hq) dX9_quotient__13
  have h := h.1 hc
  refine lv_lconst (v := 0) hx hb dX9_quotient__6 (by decide) ?_
  refine lv_goto (tgt := 13) hx hb dX9_quotient__7 (by decide) ?_
  exact W.lret hx hb hr (fun t ht _ => ⟨_, rfl, h, ht⟩) (fun _ hq => by cases hq) dX9_quotient__13
/-! X9_briefLength -/
abbrev wX9_briefLength (cI cJ cS : ClassId) : va_W := []
def F_X9_briefLength (x0 : Int32) (x1 : Int32) (x2 : Int32) (post : Int32 → Prop) : Prop := (∀ y3_13 : Int64, y3_13 = ((((x1 + 1) / 2).toInt64) * 704) * x2.toInt64 → (∀ y5_20 : Int64, y5_20 = x0.toInt64 * 10000 → (F_X9_quotient_ ((y3_13 + y5_20) - 1) y5_20 (fun r30 => ((0 ≤ (lg_cmp r30 1) → post ((r30 * x0.toInt64).toInt32)) ∧ (¬ 0 ≤ (lg_cmp r30 1) → post x0.toInt64.toInt32))))))
set_option maxHeartbeats 4000000 in
set_option maxRecDepth 100000 in
theorem c_X9_briefLength {l : Launch} {D : va_G} {cI cJ cS : ClassId} {ad adK : Nat → Nat}  {x0 : Int32} {x1 : Int32} {x2 : Int32} {post : Int32 → Prop} (h : F_X9_briefLength x0 x1 x2 post) : Met l yX9_briefLength (Cond.code yX9_briefLength cX9_briefLength 9 (some (.int)) :: GW) (rmd 1 0 0) (PR D cI cJ cS ad adK [.int x0, .int x1, .int x2] (wX9_briefLength cI cJ cS)) (vp_Si post) 0 0 nof := by
  refine Met.ro (by decide) (Nat.le_of_ble_eq_true rfl) (fun p e s m args below meth c ls (S : CallFix p m c cX9_briefLength 9 s args GW "RoadThatSings") hE hT hP hS hr hlocks hl => ?_)
  have hx := S.1
  have hb := S.2.1
  have hl : lv_has ls 9 [(0, .int x0), (1, .int x1), (2, .int x2)] := hl
  unfold F_X9_briefLength at h
  refine lv_iload_n hx hb dX9_briefLength_0 rfl (lv_at hl 1 rfl) ?_
  refine lv_iconst (v := 1) hx hb dX9_briefLength_1 (by decide) ?_
  refine lv_iadd hx hb dX9_briefLength_2 ?_
  refine lv_iconst (v := 2) hx hb dX9_briefLength_3 (by decide) ?_
  refine lv_idiv hx hb dX9_briefLength_4 (by decide) ?_
  refine lv_i2l hx hb dX9_briefLength_5 rfl ?_
  refine lv_ldc2 (v := 704) hx hb S.2.2.2.1 (S.2.2.2.2 _ q957) dX9_briefLength_6 ?_
  refine lv_lmul hx hb dX9_briefLength_9 ?_
  refine lv_iload_n hx hb dX9_briefLength_10 rfl (lv_at hl 2 rfl) ?_
  refine lv_i2l hx hb dX9_briefLength_11 rfl ?_
  refine lv_lmul hx hb dX9_briefLength_12 ?_
  refine lv_topl (fun y3_13 ey3_13 => ?_)
  have h := h _ ey3_13
  refine lv_lstore_n (lv' := [(3, .long y3_13), (0, .int x0), (1, .int x1), (2, .int x2)]) hx hb dX9_briefLength_13 rfl hl (by decide) rfl (fun ls hl => ?_)
  refine lv_iload_n hx hb dX9_briefLength_14 rfl (lv_at hl 1 rfl) ?_
  refine lv_i2l hx hb dX9_briefLength_15 rfl ?_
  refine lv_ldc2 (v := 10000) hx hb S.2.2.2.1 (S.2.2.2.2 _ q958) dX9_briefLength_16 ?_
  refine lv_lmul hx hb dX9_briefLength_19 ?_
  refine lv_topl (fun y5_20 ey5_20 => ?_)
  have h := h _ ey5_20
  refine lv_lstore (lv' := [(5, .long y5_20), (3, .long y3_13), (0, .int x0), (1, .int x1), (2, .int x2)]) hx hb dX9_briefLength_20 hl (by decide) rfl (fun ls hl => ?_)
  refine lv_lload_n hx hb dX9_briefLength_22 rfl (lv_at hl 1 rfl) ?_
  refine lv_lload hx hb dX9_briefLength_23 (lv_at hl 0 rfl) ?_
  refine lv_ladd hx hb dX9_briefLength_25 ?_
  refine lv_lconst (v := 1) hx hb dX9_briefLength_26 (by decide) ?_
  refine lv_lsub hx hb dX9_briefLength_27 ?_
  refine lv_lload hx hb dX9_briefLength_28 (lv_at hl 0 rfl) ?_
  refine ro_l (roS S hE hT hS (c_X9_quotient_ h) lkX9_347 rfl ⟨(Nat.le_of_ble_eq_true rfl), (Nat.le_of_ble_eq_true rfl)⟩ (hP.sub [] rfl) hl.1 rfl (Nat.le_of_ble_eq_true rfl) dX9_briefLength_30 ⟨(Nat.zero_le _), (Nat.zero_le _)⟩) (fun r30 h => ?_)
  refine lv_lstore (lv' := [(7, .long r30), (5, .long y5_20), (3, .long y3_13), (0, .int x0), (1, .int x1), (2, .int x2)]) hx hb dX9_briefLength_33 hl (by decide) rfl (fun ls hl => ?_)
  refine lv_lload hx hb dX9_briefLength_35 (lv_at hl 0 rfl) ?_
  refine lv_lconst (v := 1) hx hb dX9_briefLength_37 (by decide) ?_
  refine W.lcmp hx hb dX9_briefLength_38 ?_
  refine lv_if_ge (tgt := 47) hx hb dX9_briefLength_39 (by decide) (fun hc => ?_) (fun hc => ?_)
  · have h := h.1 hc
    refine lv_lload hx hb dX9_briefLength_47 (lv_at hl 0 rfl) ?_
    refine lv_iload_n hx hb dX9_briefLength_49 rfl (lv_at hl 3 rfl) ?_
    refine lv_i2l hx hb dX9_briefLength_50 rfl ?_
    refine lv_lmul hx hb dX9_briefLength_51 ?_
    refine lv_l2i hx hb dX9_briefLength_52 rfl ?_
    exact W.iret hx hb hr (fun t ht _ => ⟨_, rfl, h, ht⟩) (fun _ hq => by cases hq) dX9_briefLength_53
  have h := h.2 hc
  refine lv_iload_n hx hb dX9_briefLength_42 rfl (lv_at hl 3 rfl) ?_
  refine lv_i2l hx hb dX9_briefLength_43 rfl ?_
  refine lv_goto (tgt := 52) hx hb dX9_briefLength_44 (by decide) ?_
  refine lv_l2i hx hb dX9_briefLength_52 rfl ?_
  exact W.iret hx hb hr (fun t ht _ => ⟨_, rfl, h, ht⟩) (fun _ hq => by cases hq) dX9_briefLength_53
/-! X9_brief -/
abbrev wX9_brief (cI cJ cS : ClassId) (a_o a_cutting a_cutting_offs a_cutting_spaces a_refused a_road a_road_demands a_road_tunes a_road_tunes_beats a_road_tunes_noteCounts a_road_tunes_pitches : Nat) (z_kept z_ahead z_shelves z_acting z_cutting_times z_road_stretches z_road_cars : Value) (v_imaged : Int32) (v_lastFault : Int32) (v_cutting_noteCount : Int32) (f_cutting_offs : Nat → Int32) (f_cutting_spaces : Nat → Int32) (f_refused : Nat → Int32) (v_road_drawSeed : Int32) (f_road_demands : Nat → Int32) (v_road_tunes_tuneCount : Int32) (f_road_tunes_beats : Nat → Int32) (f_road_tunes_noteCounts : Nat → Int32) (f_road_tunes_pitches : Nat → Int32) : va_W := [(a_o, .inr (8, [.ref a_road, z_kept, z_ahead, z_shelves, .ref a_cutting, z_acting, .ref a_refused, .int v_imaged, .int v_lastFault])), (a_cutting, .inr (2, [.ref a_cutting_spaces, .ref a_cutting_offs, z_cutting_times, .int v_cutting_noteCount])), (a_cutting_offs, .inl (cI, 12, .inl f_cutting_offs)), (a_cutting_spaces, .inl (cI, 12, .inl f_cutting_spaces)), (a_refused, .inl (cI, 8, .inl f_refused)), (a_road, .inr (4, [z_road_stretches, z_road_cars, .ref a_road_tunes, .ref a_road_demands, .int v_road_drawSeed])), (a_road_demands, .inl (cI, 4, .inl f_road_demands)), (a_road_tunes, .inr (7, [.ref a_road_tunes_pitches, .ref a_road_tunes_beats, .ref a_road_tunes_noteCounts, .int v_road_tunes_tuneCount])), (a_road_tunes_beats, .inl (cI, 72, .inl f_road_tunes_beats)), (a_road_tunes_noteCounts, .inl (cI, 6, .inl f_road_tunes_noteCounts)), (a_road_tunes_pitches, .inl (cI, 72, .inl f_road_tunes_pitches))]
def L_X9_brief_36 (f_road_demands : Nat → Int32) (v_road_tunes_tuneCount : Int32) (f_road_tunes_beats : Nat → Int32) (f_road_tunes_noteCounts : Nat → Int32) (x1 : Int32) (x2 : Int32) (v_cutting_noteCount : Int32) (f_cutting_offs : Nat → Int32) (f_cutting_spaces : Nat → Int32) (f_refused : Nat → Int32) (post : Int32 → Int32 → (Nat → Int32) → (Nat → Int32) → (Nat → Int32) → Prop) : Nat → Int32 → Int32 → Prop
  | 0, _, _ => False
  | n36 + 1, x4, x5 => (F_X2_notes v_cutting_noteCount (fun r42 => ((r42 ≤ x5 → post x4 v_cutting_noteCount f_cutting_offs f_cutting_spaces f_refused) ∧ (¬ r42 ≤ x5 → (F_X8_beatsOf v_road_tunes_tuneCount f_road_tunes_beats f_road_tunes_noteCounts x1 x5 (fun r58 => (F_X5_asked f_road_demands 3 (fun r66 => (∀ x6_70 : Int32, x6_70 = r58 * r66 → (F_X2_spaceOf v_cutting_noteCount f_cutting_spaces x5 (fun r80 => (F_X9_briefLength r80 x6_70 x2 (fun r86 => (∀ x4_90 : Int32, x4_90 = x4 + r86 → (∀ x5_92 : Int32, x5_92 = x5 + 1 → L_X9_brief_36 f_road_demands v_road_tunes_tuneCount f_road_tunes_beats f_road_tunes_noteCounts x1 x2 v_cutting_noteCount f_cutting_offs f_cutting_spaces f_refused post n36 x4_90 x5_92)))))))))))))))
def F_X9_brief (v_cutting_noteCount : Int32) (f_cutting_offs : Nat → Int32) (f_cutting_spaces : Nat → Int32) (f_refused : Nat → Int32) (f_road_demands : Nat → Int32) (v_road_tunes_tuneCount : Int32) (f_road_tunes_beats : Nat → Int32) (f_road_tunes_noteCounts : Nat → Int32) (f_road_tunes_pitches : Nat → Int32) (x1 : Int32) (x2 : Int32) (post : Int32 → Int32 → (Nat → Int32) → (Nat → Int32) → (Nat → Int32) → Prop) : Prop := (F_X9_refusalOfTuneAt v_road_tunes_tuneCount x1 x2 (fun r3 => ((r3 = 0 → (F_X2_chooseSpaces v_cutting_noteCount f_cutting_offs f_road_demands v_road_tunes_tuneCount f_road_tunes_noteCounts f_road_tunes_pitches f_cutting_spaces x1 x2 (fun w27_0 w27_1 w27_2 => (∃ n36 : Nat, L_X9_brief_36 f_road_demands v_road_tunes_tuneCount f_road_tunes_beats f_road_tunes_noteCounts x1 x2 w27_0 w27_1 w27_2 f_refused post n36 0 0)))) ∧ (¬ r3 = 0 → (F_X9_refuse f_refused r3 (fun r13 w13_0 => post r13 v_cutting_noteCount f_cutting_offs f_cutting_spaces w13_0))))))
set_option maxHeartbeats 4000000 in
set_option maxRecDepth 100000 in
theorem w_X9_brief_36 {l : Launch} {D : va_G} {cI cJ cS : ClassId} {ad adK : Nat → Nat} {a_o a_cutting a_cutting_offs a_cutting_spaces a_refused a_road a_road_demands a_road_tunes a_road_tunes_beats a_road_tunes_noteCounts a_road_tunes_pitches : Nat} {z_kept z_ahead z_shelves z_acting z_cutting_times z_road_stretches z_road_cars : Value} {v_imaged : Int32} {v_lastFault : Int32} {v_cutting_noteCount : Int32} {f_cutting_offs : Nat → Int32} {f_cutting_spaces : Nat → Int32} {f_refused : Nat → Int32} {v_road_drawSeed : Int32} {f_road_demands : Nat → Int32} {v_road_tunes_tuneCount : Int32} {f_road_tunes_beats : Nat → Int32} {f_road_tunes_noteCounts : Nat → Int32} {f_road_tunes_pitches : Nat → Int32} {x1 : Int32} {x2 : Int32} {post : Int32 → Int32 → (Nat → Int32) → (Nat → Int32) → (Nat → Int32) → Prop} {p : Program} {e : Env} {s : State} {m : MethodId} {args : Array Value} {below : List Frame} {meth : Method} {c : Code} {A : Nat → Prop} (S : CallFix p m c cX9_brief 7 s args GW "RoadThatSings") (hE : EN D cI cJ cS s) (hT : ST ad adK A s s.heap) (hA : ∀ q : Nat, s.heap.size ≤ q → A q) (hr : meth.sig.returnType = (some (.int))) (hlocks : meth.locks = false) : ∀ n : Nat, ∀ (x4 : Int32) (x5 : Int32) (H : Heap) (locs : List Loc) (ls : Array Slot), L_X9_brief_36 f_road_demands v_road_tunes_tuneCount f_road_tunes_beats f_road_tunes_noteCounts x1 x2 v_cutting_noteCount f_cutting_offs f_cutting_spaces f_refused post n x4 x5 → va_P D vwCl (wX9_brief cI cJ cS a_o a_cutting a_cutting_offs a_cutting_spaces a_refused a_road a_road_demands a_road_tunes a_road_tunes_beats a_road_tunes_noteCounts a_road_tunes_pitches z_kept z_ahead z_shelves z_acting z_cutting_times z_road_stretches z_road_cars v_imaged v_lastFault v_cutting_noteCount f_cutting_offs f_cutting_spaces f_refused v_road_drawSeed f_road_demands v_road_tunes_tuneCount f_road_tunes_beats f_road_tunes_noteCounts f_road_tunes_pitches) H → va_D A (wX9_brief cI cJ cS a_o a_cutting a_cutting_offs a_cutting_spaces a_refused a_road a_road_demands a_road_tunes a_road_tunes_beats a_road_tunes_noteCounts a_road_tunes_pitches z_kept z_ahead z_shelves z_acting z_cutting_times z_road_stretches z_road_cars v_imaged v_lastFault v_cutting_noteCount f_cutting_offs f_cutting_spaces f_refused v_road_drawSeed f_road_demands v_road_tunes_tuneCount f_road_tunes_beats f_road_tunes_noteCounts f_road_tunes_pitches) → va_S A s.heap H locs → lv_has ls 7 [(0, .ref a_o), (1, .int x1), (2, .int x2), (4, .int x4), (5, .int x5)] → W p l e (rmd 4 0 0) s m args below meth c H locs 0 0 (MQ below (va_Qi (fun r (u : Int32 × (Nat → Int32) × (Nat → Int32) × (Nat → Int32)) => post r u.1 u.2.1 u.2.2.1 u.2.2.2) (fun u t => va_P D vwCl (wX9_brief cI cJ cS a_o a_cutting a_cutting_offs a_cutting_spaces a_refused a_road a_road_demands a_road_tunes a_road_tunes_beats a_road_tunes_noteCounts a_road_tunes_pitches z_kept z_ahead z_shelves z_acting z_cutting_times z_road_stretches z_road_cars v_imaged v_lastFault u.1 u.2.1 u.2.2.1 u.2.2.2 v_road_drawSeed f_road_demands v_road_tunes_tuneCount f_road_tunes_beats f_road_tunes_noteCounts f_road_tunes_pitches) t.heap) A) args s 0 0 A) (F0 m 36 ls []) := by
  intro n
  induction n with
  | zero =>
    intro x4 x5 H locs ls h hP hD hS hl
    exact h.elim
  | succ n ih =>
    intro x4 x5 H locs ls h hP hD hS hl
    rw [L_X9_brief_36] at h
    have hx := S.1
    have hb := S.2.1
    refine lv_iload hx hb dX9_brief_36 (lv_at hl 4 rfl) ?_
    refine lv_aload_n hx hb dX9_brief_38 rfl (lv_at hl 0 rfl) ?_
    refine gf S hE hP 0 rfl rfl inX9 (k := 4) (by decide) q185 rfl dX9_brief_39 ?_
    refine ro_i (roV S hE hT hS (c_X2_notes h) lkX9_308 rfl ⟨(Nat.le_of_ble_eq_true rfl), (Nat.le_of_ble_eq_true rfl)⟩ (hP.sub [1] rfl) 0 rfl rfl hl.1 rfl (Nat.le_of_ble_eq_true rfl) dX9_brief_42 ⟨(Nat.zero_le _), (Nat.zero_le _)⟩) (fun r42 h => ?_)
    refine lv_icmp_ge (tgt := 98) hx hb dX9_brief_45 (by decide) (fun hc => ?_) (fun hc => ?_)
    · have h := h.1 hc
      refine lv_iload hx hb dX9_brief_98 (lv_at hl 3 rfl) ?_
      exact W.iret hx hb hr (fun t ht _ => ⟨⟨_, (v_cutting_noteCount, f_cutting_offs, f_cutting_spaces, f_refused), rfl, h, hPt hP ht⟩, hS.F ht⟩) hS.2.2 dX9_brief_100
    have h := h.2 hc
    refine lv_aload_n hx hb dX9_brief_48 rfl (lv_at hl 0 rfl) ?_
    refine gf S hE hP 0 rfl rfl inX9 (k := 0) (by decide) q181 rfl dX9_brief_49 ?_
    refine gfN S hE hP 5 rfl rfl inX5 (k := 2) (by decide) nfX9_209 rfl dX9_brief_52 ?_
    refine lv_iload_n hx hb dX9_brief_55 rfl (lv_at hl 1 rfl) ?_
    refine lv_iload hx hb dX9_brief_56 (lv_at hl 4 rfl) ?_
    refine ro_i (roV S hE hT hS (c_X8_beatsOf h) lkX9_235 rfl ⟨(Nat.le_of_ble_eq_true rfl), (Nat.le_of_ble_eq_true rfl)⟩ (hP.sub [7, 8, 9] rfl) 0 rfl rfl hl.1 rfl (Nat.le_of_ble_eq_true rfl) dX9_brief_58 ⟨(Nat.zero_le _), (Nat.zero_le _)⟩) (fun r58 h => ?_)
    refine lv_aload_n hx hb dX9_brief_61 rfl (lv_at hl 0 rfl) ?_
    refine gf S hE hP 0 rfl rfl inX9 (k := 0) (by decide) q181 rfl dX9_brief_62 ?_
    refine lv_iconst (v := 3) hx hb dX9_brief_65 (by decide) ?_
    refine ro_i (roV S hE hT hS (c_X5_asked h) lkX9_241 rfl ⟨(Nat.le_of_ble_eq_true rfl), (Nat.le_of_ble_eq_true rfl)⟩ (hP.sub [5, 6] rfl) 0 rfl rfl hl.1 rfl (Nat.le_of_ble_eq_true rfl) dX9_brief_66 ⟨(Nat.zero_le _), (Nat.zero_le _)⟩) (fun r66 h => ?_)
    refine lv_imul hx hb dX9_brief_69 ?_
    refine lv_topi (fun x6_70 ex6_70 => ?_)
    have h := h _ ex6_70
    refine lv_istore (lv' := [(6, .int x6_70), (0, .ref a_o), (1, .int x1), (2, .int x2), (4, .int x4), (5, .int x5)]) hx hb dX9_brief_70 hl (by decide) rfl (fun ls hl => ?_)
    refine lv_iload hx hb dX9_brief_72 (lv_at hl 4 rfl) ?_
    refine lv_aload_n hx hb dX9_brief_74 rfl (lv_at hl 1 rfl) ?_
    refine gf S hE hP 0 rfl rfl inX9 (k := 4) (by decide) q185 rfl dX9_brief_75 ?_
    refine lv_iload hx hb dX9_brief_78 (lv_at hl 5 rfl) ?_
    refine ro_i (roV S hE hT hS (c_X2_spaceOf h) lkX9_300 rfl ⟨(Nat.le_of_ble_eq_true rfl), (Nat.le_of_ble_eq_true rfl)⟩ (hP.sub [1, 3] rfl) 0 rfl rfl hl.1 rfl (Nat.le_of_ble_eq_true rfl) dX9_brief_80 ⟨(Nat.zero_le _), (Nat.zero_le _)⟩) (fun r80 h => ?_)
    refine lv_iload hx hb dX9_brief_83 (lv_at hl 0 rfl) ?_
    refine lv_iload_n hx hb dX9_brief_85 rfl (lv_at hl 3 rfl) ?_
    refine ro_i (roS S hE hT hS (c_X9_briefLength h) lkX9_340 rfl ⟨(Nat.le_of_ble_eq_true rfl), (Nat.le_of_ble_eq_true rfl)⟩ (hP.sub [] rfl) hl.1 rfl (Nat.le_of_ble_eq_true rfl) dX9_brief_86 ⟨(Nat.zero_le _), (Nat.zero_le _)⟩) (fun r86 h => ?_)
    refine lv_iadd hx hb dX9_brief_89 ?_
    refine lv_topi (fun x4_90 ex4_90 => ?_)
    have h := h _ ex4_90
    refine lv_istore (lv' := [(4, .int x4_90), (6, .int x6_70), (0, .ref a_o), (1, .int x1), (2, .int x2), (5, .int x5)]) hx hb dX9_brief_90 hl (by decide) rfl (fun ls hl => ?_)
    obtain ⟨x5_92, ex5_92⟩ : ∃ z : Int32, z = x5 + 1 := ⟨_, rfl⟩
    have h := h _ ex5_92
    refine lv_iinc (v := x5_92) (lv' := [(5, .int x5_92), (4, .int x4_90), (6, .int x6_70), (0, .ref a_o), (1, .int x1), (2, .int x2)]) hx hb dX9_brief_92 hl (k := 5) rfl (by rw [ex5_92]; rfl) (by decide) rfl (fun ls hl => ?_)
    refine lv_goto (tgt := 36) hx hb dX9_brief_95 (by decide) ?_
    exact ih _ _ _ _ _ h hP hD hS (lv_sub hl [3, 4, 5, 1, 0] rfl)
set_option maxHeartbeats 4000000 in
set_option maxRecDepth 100000 in
theorem c_X9_brief {l : Launch} {D : va_G} {cI cJ cS : ClassId} {ad adK : Nat → Nat} {a_o a_cutting a_cutting_offs a_cutting_spaces a_refused a_road a_road_demands a_road_tunes a_road_tunes_beats a_road_tunes_noteCounts a_road_tunes_pitches : Nat} {z_kept z_ahead z_shelves z_acting z_cutting_times z_road_stretches z_road_cars : Value} {v_imaged : Int32} {v_lastFault : Int32} {v_cutting_noteCount : Int32} {f_cutting_offs : Nat → Int32} {f_cutting_spaces : Nat → Int32} {f_refused : Nat → Int32} {v_road_drawSeed : Int32} {f_road_demands : Nat → Int32} {v_road_tunes_tuneCount : Int32} {f_road_tunes_beats : Nat → Int32} {f_road_tunes_noteCounts : Nat → Int32} {f_road_tunes_pitches : Nat → Int32} {x1 : Int32} {x2 : Int32} {post : Int32 → Int32 → (Nat → Int32) → (Nat → Int32) → (Nat → Int32) → Prop} (h : F_X9_brief v_cutting_noteCount f_cutting_offs f_cutting_spaces f_refused f_road_demands v_road_tunes_tuneCount f_road_tunes_beats f_road_tunes_noteCounts f_road_tunes_pitches x1 x2 post) {sz : Nat} : Met l yX9_brief (Cond.code yX9_brief cX9_brief 7 (some (.int)) :: GW) (rmd 4 0 0) (PW D cI cJ cS ad adK [.ref a_o, .int x1, .int x2] (wX9_brief cI cJ cS a_o a_cutting a_cutting_offs a_cutting_spaces a_refused a_road a_road_demands a_road_tunes a_road_tunes_beats a_road_tunes_noteCounts a_road_tunes_pitches z_kept z_ahead z_shelves z_acting z_cutting_times z_road_stretches z_road_cars v_imaged v_lastFault v_cutting_noteCount f_cutting_offs f_cutting_spaces f_refused v_road_drawSeed f_road_demands v_road_tunes_tuneCount f_road_tunes_beats f_road_tunes_noteCounts f_road_tunes_pitches) sz) (va_Qi (fun r (u : Int32 × (Nat → Int32) × (Nat → Int32) × (Nat → Int32)) => post r u.1 u.2.1 u.2.2.1 u.2.2.2) (fun u t => va_P D vwCl (wX9_brief cI cJ cS a_o a_cutting a_cutting_offs a_cutting_spaces a_refused a_road a_road_demands a_road_tunes a_road_tunes_beats a_road_tunes_noteCounts a_road_tunes_pitches z_kept z_ahead z_shelves z_acting z_cutting_times z_road_stretches z_road_cars v_imaged v_lastFault u.1 u.2.1 u.2.2.1 u.2.2.2 v_road_drawSeed f_road_demands v_road_tunes_tuneCount f_road_tunes_beats f_road_tunes_noteCounts f_road_tunes_pitches) t.heap) (va_A (wX9_brief cI cJ cS a_o a_cutting a_cutting_offs a_cutting_spaces a_refused a_road a_road_demands a_road_tunes a_road_tunes_beats a_road_tunes_noteCounts a_road_tunes_pitches z_kept z_ahead z_shelves z_acting z_cutting_times z_road_stretches z_road_cars v_imaged v_lastFault v_cutting_noteCount f_cutting_offs f_cutting_spaces f_refused v_road_drawSeed f_road_demands v_road_tunes_tuneCount f_road_tunes_beats f_road_tunes_noteCounts f_road_tunes_pitches) sz)) 0 0 (va_A (wX9_brief cI cJ cS a_o a_cutting a_cutting_offs a_cutting_spaces a_refused a_road a_road_demands a_road_tunes a_road_tunes_beats a_road_tunes_noteCounts a_road_tunes_pitches z_kept z_ahead z_shelves z_acting z_cutting_times z_road_stretches z_road_cars v_imaged v_lastFault v_cutting_noteCount f_cutting_offs f_cutting_spaces f_refused v_road_drawSeed f_road_demands v_road_tunes_tuneCount f_road_tunes_beats f_road_tunes_noteCounts f_road_tunes_pitches) sz) := by
  refine Met.rw (Qc := fun A => (va_Qi (fun r (u : Int32 × (Nat → Int32) × (Nat → Int32) × (Nat → Int32)) => post r u.1 u.2.1 u.2.2.1 u.2.2.2) (fun u t => va_P D vwCl (wX9_brief cI cJ cS a_o a_cutting a_cutting_offs a_cutting_spaces a_refused a_road a_road_demands a_road_tunes a_road_tunes_beats a_road_tunes_noteCounts a_road_tunes_pitches z_kept z_ahead z_shelves z_acting z_cutting_times z_road_stretches z_road_cars v_imaged v_lastFault u.1 u.2.1 u.2.2.1 u.2.2.2 v_road_drawSeed f_road_demands v_road_tunes_tuneCount f_road_tunes_beats f_road_tunes_noteCounts f_road_tunes_pitches) t.heap) A)) (by decide) (Nat.le_of_ble_eq_true rfl) (fun p e s m args below meth c ls A (S : CallFix p m c cX9_brief 7 s args GW "RoadThatSings") hE hT hP hD hA hS hr hlocks hname hl => ?_)
  have hS0 := hS
  have hx := S.1
  have hb := S.2.1
  have hl : lv_has ls 7 [(0, .ref a_o), (1, .int x1), (2, .int x2)] := hl
  unfold F_X9_brief at h
  refine lv_aload_n hx hb dX9_brief_0 rfl (lv_at hl 0 rfl) ?_
  refine lv_iload_n hx hb dX9_brief_1 rfl (lv_at hl 1 rfl) ?_
  refine lv_iload_n hx hb dX9_brief_2 rfl (lv_at hl 2 rfl) ?_
  refine ro_i (roV S hE hT hS (c_X9_refusalOfTuneAt h) lkX9_305 rfl ⟨(Nat.le_of_ble_eq_true rfl), (Nat.le_of_ble_eq_true rfl)⟩ (hP.sub [0, 5, 7] rfl) 0 rfl rfl hl.1 rfl (Nat.le_of_ble_eq_true rfl) dX9_brief_3 ⟨(Nat.zero_le _), (Nat.zero_le _)⟩) (fun r3 h => ?_)
  refine lv_istore_n (lv' := [(3, .int r3), (0, .ref a_o), (1, .int x1), (2, .int x2)]) hx hb dX9_brief_6 rfl hl (by decide) rfl (fun ls hl => ?_)
  refine lv_iload_n hx hb dX9_brief_7 rfl (lv_at hl 0 rfl) ?_
  refine lv_if_eq (tgt := 17) hx hb dX9_brief_8 (by decide) (fun hc => ?_) (fun hc => ?_)
  · have h := h.1 hc
    refine lv_aload_n hx hb dX9_brief_17 rfl (lv_at hl 1 rfl) ?_
    refine gf S hE hP 0 rfl rfl inX9 (k := 4) (by decide) q185 rfl dX9_brief_18 ?_
    refine lv_aload_n hx hb dX9_brief_21 rfl (lv_at hl 1 rfl) ?_
    refine gf S hE hP 0 rfl rfl inX9 (k := 0) (by decide) q181 rfl dX9_brief_22 ?_
    refine lv_iload_n hx hb dX9_brief_25 rfl (lv_at hl 2 rfl) ?_
    refine lv_iload_n hx hb dX9_brief_26 rfl (lv_at hl 3 rfl) ?_
    refine rw_v (rwV S hE hT hS hP hD hA (c_X2_chooseSpaces h) [1, 2, 5, 6, 7, 9, 10, 3] rfl (by decide +kernel) lkX9_325 rfl ⟨(Nat.le_of_ble_eq_true rfl), (Nat.le_of_ble_eq_true rfl)⟩ 1 rfl rfl hl.1 rfl (Nat.le_of_ble_eq_true rfl) dX9_brief_27 ⟨(Nat.zero_le _), (Nat.zero_le _)⟩) hP hD hS hA [1, 2, 5, 6, 7, 9, 10, 3] rfl (by decide +kernel) (fun _ => rfl) (fun u27 H locs h hP hD hS => ?_)
    obtain ⟨w27_0, w27_1, w27_2⟩ := u27
    try dsimp only at h
    have hP : va_P D vwCl (wX9_brief cI cJ cS a_o a_cutting a_cutting_offs a_cutting_spaces a_refused a_road a_road_demands a_road_tunes a_road_tunes_beats a_road_tunes_noteCounts a_road_tunes_pitches z_kept z_ahead z_shelves z_acting z_cutting_times z_road_stretches z_road_cars v_imaged v_lastFault w27_0 w27_1 w27_2 f_refused v_road_drawSeed f_road_demands v_road_tunes_tuneCount f_road_tunes_beats f_road_tunes_noteCounts f_road_tunes_pitches) H := wsetP 11 [0, 4, 8] hP rfl ⟨rfl, rfl, rfl, trivial⟩ rfl rfl (by decide +kernel) (by decide +kernel) (by decide +kernel)
    have hD : va_D A (wX9_brief cI cJ cS a_o a_cutting a_cutting_offs a_cutting_spaces a_refused a_road a_road_demands a_road_tunes a_road_tunes_beats a_road_tunes_noteCounts a_road_tunes_pitches z_kept z_ahead z_shelves z_acting z_cutting_times z_road_stretches z_road_cars v_imaged v_lastFault w27_0 w27_1 w27_2 f_refused v_road_drawSeed f_road_demands v_road_tunes_tuneCount f_road_tunes_beats f_road_tunes_noteCounts f_road_tunes_pitches) := wsetD 11 [0, 4, 8] hD rfl ⟨rfl, rfl, rfl, trivial⟩ rfl rfl (by decide +kernel) (by decide +kernel) (by decide +kernel)
    refine lv_iconst (v := 0) hx hb dX9_brief_30 (by decide) ?_
    refine lv_istore (lv' := [(4, .int 0), (3, .int r3), (0, .ref a_o), (1, .int x1), (2, .int x2)]) hx hb dX9_brief_31 hl (by decide) rfl (fun ls hl => ?_)
    refine lv_iconst (v := 0) hx hb dX9_brief_33 (by decide) ?_
    refine lv_istore (lv' := [(5, .int 0), (4, .int 0), (3, .int r3), (0, .ref a_o), (1, .int x1), (2, .int x2)]) hx hb dX9_brief_34 hl (by decide) rfl (fun ls hl => ?_)
    obtain ⟨n, h⟩ := h
    refine w_X9_brief_36 S hE hT hA hr hlocks n _ _ _ _ _ h hP hD hS (lv_sub hl [3, 4, 5, 1, 0] rfl)
  have h := h.2 hc
  refine lv_aload_n hx hb dX9_brief_11 rfl (lv_at hl 1 rfl) ?_
  refine lv_iload_n hx hb dX9_brief_12 rfl (lv_at hl 0 rfl) ?_
  refine rw_i (rwV S hE hT hS hP hD hA (c_X9_refuse h) [0, 4] rfl (by decide +kernel) lkX9_59 rfl ⟨(Nat.le_of_ble_eq_true rfl), (Nat.le_of_ble_eq_true rfl)⟩ 0 rfl rfl hl.1 rfl (Nat.le_of_ble_eq_true rfl) dX9_brief_13 ⟨(Nat.zero_le _), (Nat.zero_le _)⟩) hP hD hS hA [0, 4] rfl (by decide +kernel) (fun _ => rfl) (fun r13 w13_0 H locs h hP hD hS => ?_)
  try dsimp only at h
  have hP : va_P D vwCl (wX9_brief cI cJ cS a_o a_cutting a_cutting_offs a_cutting_spaces a_refused a_road a_road_demands a_road_tunes a_road_tunes_beats a_road_tunes_noteCounts a_road_tunes_pitches z_kept z_ahead z_shelves z_acting z_cutting_times z_road_stretches z_road_cars v_imaged v_lastFault v_cutting_noteCount f_cutting_offs f_cutting_spaces w13_0 v_road_drawSeed f_road_demands v_road_tunes_tuneCount f_road_tunes_beats f_road_tunes_noteCounts f_road_tunes_pitches) H := hP
  have hD : va_D A (wX9_brief cI cJ cS a_o a_cutting a_cutting_offs a_cutting_spaces a_refused a_road a_road_demands a_road_tunes a_road_tunes_beats a_road_tunes_noteCounts a_road_tunes_pitches z_kept z_ahead z_shelves z_acting z_cutting_times z_road_stretches z_road_cars v_imaged v_lastFault v_cutting_noteCount f_cutting_offs f_cutting_spaces w13_0 v_road_drawSeed f_road_demands v_road_tunes_tuneCount f_road_tunes_beats f_road_tunes_noteCounts f_road_tunes_pitches) := hD
  exact W.iret hx hb hr (fun t ht _ => ⟨⟨_, (v_cutting_noteCount, f_cutting_offs, f_cutting_spaces, w13_0), rfl, h, hPt hP ht⟩, hS.F ht⟩) hS.2.2 dX9_brief_16
/-! X9_withinOctave -/
abbrev wX9_withinOctave (cI cJ cS : ClassId) : va_W := []
def L_X9_withinOctave_4 (k27 : Int32 → Prop) : Nat → Int32 → Int32 → Prop
  | 0, _, _ => False
  | n4 + 1, x1, x2 => ((32 ≤ x2 → k27 x1) ∧ (¬ 32 ≤ x2 → ((x1 ≤ 1999 → k27 x1) ∧ (¬ x1 ≤ 1999 → (∀ x1_20 : Int32, x1_20 = x1 / 2 → (∀ x2_21 : Int32, x2_21 = x2 + 1 → L_X9_withinOctave_4 k27 n4 x1_20 x2_21))))))
def L_X9_withinOctave_29 (post : Int32 → Prop) : Nat → Int32 → Int32 → Prop
  | 0, _, _ => False
  | n29 + 1, x1, x2 => ((32 ≤ x2 → post x1) ∧ (¬ 32 ≤ x2 → ((1000 ≤ x1 → post x1) ∧ (¬ 1000 ≤ x1 → (∀ x1_45 : Int32, x1_45 = x1 * 2 → (∀ x2_46 : Int32, x2_46 = x2 + 1 → L_X9_withinOctave_29 post n29 x1_45 x2_46))))))
def F_X9_withinOctave_27 (post : Int32 → Prop) (x1 : Int32) : Prop := (∃ n29 : Nat, L_X9_withinOctave_29 post n29 x1 0)
def F_X9_withinOctave (x0 : Int32) (post : Int32 → Prop) : Prop := (∃ n4 : Nat, L_X9_withinOctave_4 (fun x1_1 => F_X9_withinOctave_27 post x1_1) n4 x0 0)
set_option maxHeartbeats 4000000 in
set_option maxRecDepth 100000 in
theorem w_X9_withinOctave_4 {l : Launch} {D : va_G} {cI cJ cS : ClassId} {ad adK : Nat → Nat}  {post : Int32 → Prop} {k27 : Int32 → Prop} {p : Program} {e : Env} {s : State} {m : MethodId} {args : Array Value} {below : List Frame} {meth : Method} {c : Code} (S : CallFix p m c cX9_withinOctave 3 s args GW "RoadThatSings") (hE : EN D cI cJ cS s) (hT : ST ad adK nof s s.heap) (hP : va_P D vwCl (wX9_withinOctave cI cJ cS) s.heap) (hS : va_S nof s.heap s.heap []) (hr : meth.sig.returnType = (some (.int))) (hlocks : meth.locks = false) (hk27 : ∀ (x1 : Int32) (ls : Array Slot), k27 x1 → lv_has ls 3 [(1, .int x1)] → W p l e (rmd 0 0 0) s m args below meth c s.heap [] 0 0 (MQ below (vp_Si post) args s 0 0 nof) (F0 m 27 ls [])) : ∀ n : Nat, ∀ (x1 : Int32) (x2 : Int32) (ls : Array Slot), L_X9_withinOctave_4 k27 n x1 x2 → lv_has ls 3 [(1, .int x1), (2, .int x2)] → W p l e (rmd 0 0 0) s m args below meth c s.heap [] 0 0 (MQ below (vp_Si post) args s 0 0 nof) (F0 m 4 ls []) := by
  intro n
  induction n with
  | zero =>
    intro x1 x2 ls h hl
    exact h.elim
  | succ n ih =>
    intro x1 x2 ls h hl
    rw [L_X9_withinOctave_4] at h
    have hx := S.1
    have hb := S.2.1
    refine lv_iload_n hx hb dX9_withinOctave_4 rfl (lv_at hl 1 rfl) ?_
    refine lv_bipush (v := 32) hx hb dX9_withinOctave_5 (by decide) ?_
    refine lv_icmp_ge (tgt := 27) hx hb dX9_withinOctave_7 (by decide) (fun hc => ?_) (fun hc => ?_)
    · have h := h.1 hc
      exact hk27 _ _ h (lv_sub hl [0] rfl)
    have h := h.2 hc
    refine lv_iload_n hx hb dX9_withinOctave_10 rfl (lv_at hl 0 rfl) ?_
    refine lv_sipush (v := 1999) hx hb dX9_withinOctave_11 (by decide) ?_
    refine lv_icmp_le (tgt := 27) hx hb dX9_withinOctave_14 (by decide) (fun hc => ?_) (fun hc => ?_)
    · have h := h.1 hc
      exact hk27 _ _ h (lv_sub hl [0] rfl)
    have h := h.2 hc
    refine lv_iload_n hx hb dX9_withinOctave_17 rfl (lv_at hl 0 rfl) ?_
    refine lv_iconst (v := 2) hx hb dX9_withinOctave_18 (by decide) ?_
    refine lv_idiv hx hb dX9_withinOctave_19 (by decide) ?_
    refine lv_topi (fun x1_20 ex1_20 => ?_)
    have h := h _ ex1_20
    refine lv_istore_n (lv' := [(1, .int x1_20), (2, .int x2)]) hx hb dX9_withinOctave_20 rfl hl (by decide) rfl (fun ls hl => ?_)
    obtain ⟨x2_21, ex2_21⟩ : ∃ z : Int32, z = x2 + 1 := ⟨_, rfl⟩
    have h := h _ ex2_21
    refine lv_iinc (v := x2_21) (lv' := [(2, .int x2_21), (1, .int x1_20)]) hx hb dX9_withinOctave_21 hl (k := 1) rfl (by rw [ex2_21]; rfl) (by decide) rfl (fun ls hl => ?_)
    refine lv_goto (tgt := 4) hx hb dX9_withinOctave_24 (by decide) ?_
    exact ih _ _ _ h (lv_sub hl [1, 0] rfl)
set_option maxHeartbeats 4000000 in
set_option maxRecDepth 100000 in
theorem w_X9_withinOctave_29 {l : Launch} {D : va_G} {cI cJ cS : ClassId} {ad adK : Nat → Nat}  {post : Int32 → Prop} {p : Program} {e : Env} {s : State} {m : MethodId} {args : Array Value} {below : List Frame} {meth : Method} {c : Code} (S : CallFix p m c cX9_withinOctave 3 s args GW "RoadThatSings") (hE : EN D cI cJ cS s) (hT : ST ad adK nof s s.heap) (hP : va_P D vwCl (wX9_withinOctave cI cJ cS) s.heap) (hS : va_S nof s.heap s.heap []) (hr : meth.sig.returnType = (some (.int))) (hlocks : meth.locks = false) : ∀ n : Nat, ∀ (x1 : Int32) (x2 : Int32) (ls : Array Slot), L_X9_withinOctave_29 post n x1 x2 → lv_has ls 3 [(1, .int x1), (2, .int x2)] → W p l e (rmd 0 0 0) s m args below meth c s.heap [] 0 0 (MQ below (vp_Si post) args s 0 0 nof) (F0 m 29 ls []) := by
  intro n
  induction n with
  | zero =>
    intro x1 x2 ls h hl
    exact h.elim
  | succ n ih =>
    intro x1 x2 ls h hl
    rw [L_X9_withinOctave_29] at h
    have hx := S.1
    have hb := S.2.1
    refine lv_iload_n hx hb dX9_withinOctave_29 rfl (lv_at hl 1 rfl) ?_
    refine lv_bipush (v := 32) hx hb dX9_withinOctave_30 (by decide) ?_
    refine lv_icmp_ge (tgt := 52) hx hb dX9_withinOctave_32 (by decide) (fun hc => ?_) (fun hc => ?_)
    · have h := h.1 hc
      refine lv_iload_n hx hb dX9_withinOctave_52 rfl (lv_at hl 0 rfl) ?_
      exact W.iret hx hb hr (fun t ht _ => ⟨_, rfl, h, ht⟩) (fun _ hq => by cases hq) dX9_withinOctave_53
    have h := h.2 hc
    refine lv_iload_n hx hb dX9_withinOctave_35 rfl (lv_at hl 0 rfl) ?_
    refine lv_sipush (v := 1000) hx hb dX9_withinOctave_36 (by decide) ?_
    refine lv_icmp_ge (tgt := 52) hx hb dX9_withinOctave_39 (by decide) (fun hc => ?_) (fun hc => ?_)
    · have h := h.1 hc
      refine lv_iload_n hx hb dX9_withinOctave_52 rfl (lv_at hl 0 rfl) ?_
      exact W.iret hx hb hr (fun t ht _ => ⟨_, rfl, h, ht⟩) (fun _ hq => by cases hq) dX9_withinOctave_53
    have h := h.2 hc
    refine lv_iload_n hx hb dX9_withinOctave_42 rfl (lv_at hl 0 rfl) ?_
    refine lv_iconst (v := 2) hx hb dX9_withinOctave_43 (by decide) ?_
    refine lv_imul hx hb dX9_withinOctave_44 ?_
    refine lv_topi (fun x1_45 ex1_45 => ?_)
    have h := h _ ex1_45
    refine lv_istore_n (lv' := [(1, .int x1_45), (2, .int x2)]) hx hb dX9_withinOctave_45 rfl hl (by decide) rfl (fun ls hl => ?_)
    obtain ⟨x2_46, ex2_46⟩ : ∃ z : Int32, z = x2 + 1 := ⟨_, rfl⟩
    have h := h _ ex2_46
    refine lv_iinc (v := x2_46) (lv' := [(2, .int x2_46), (1, .int x1_45)]) hx hb dX9_withinOctave_46 hl (k := 1) rfl (by rw [ex2_46]; rfl) (by decide) rfl (fun ls hl => ?_)
    refine lv_goto (tgt := 29) hx hb dX9_withinOctave_49 (by decide) ?_
    exact ih _ _ _ h (lv_sub hl [1, 0] rfl)
set_option maxHeartbeats 4000000 in
set_option maxRecDepth 100000 in
theorem w_X9_withinOctave_27 {l : Launch} {D : va_G} {cI cJ cS : ClassId} {ad adK : Nat → Nat}  {x1 : Int32} {post : Int32 → Prop} {p : Program} {e : Env} {s : State} {m : MethodId} {args : Array Value} {below : List Frame} {meth : Method} {c : Code} (S : CallFix p m c cX9_withinOctave 3 s args GW "RoadThatSings") (hE : EN D cI cJ cS s) (hT : ST ad adK nof s s.heap) (hP : va_P D vwCl (wX9_withinOctave cI cJ cS) s.heap) (hS : va_S nof s.heap s.heap []) (hr : meth.sig.returnType = (some (.int))) (hlocks : meth.locks = false) : ∀ (ls : Array Slot), F_X9_withinOctave_27 post x1 → lv_has ls 3 [(1, .int x1)] → W p l e (rmd 0 0 0) s m args below meth c s.heap [] 0 0 (MQ below (vp_Si post) args s 0 0 nof) (F0 m 27 ls []) := by
  intro  ls h hl
  unfold F_X9_withinOctave_27 at h
  have hx := S.1
  have hb := S.2.1
  refine lv_iconst (v := 0) hx hb dX9_withinOctave_27 (by decide) ?_
  refine lv_istore_n (lv' := [(2, .int 0), (1, .int x1)]) hx hb dX9_withinOctave_28 rfl hl (by decide) rfl (fun ls hl => ?_)
  obtain ⟨n, h⟩ := h
  refine w_X9_withinOctave_29 S hE hT hP hS hr hlocks n _ _ _ h (lv_sub hl [1, 0] rfl)
set_option maxHeartbeats 4000000 in
set_option maxRecDepth 100000 in
theorem c_X9_withinOctave {l : Launch} {D : va_G} {cI cJ cS : ClassId} {ad adK : Nat → Nat}  {x0 : Int32} {post : Int32 → Prop} (h : F_X9_withinOctave x0 post) : Met l yX9_withinOctave (Cond.code yX9_withinOctave cX9_withinOctave 3 (some (.int)) :: GW) (rmd 0 0 0) (PR D cI cJ cS ad adK [.int x0] (wX9_withinOctave cI cJ cS)) (vp_Si post) 0 0 nof := by
  refine Met.ro (by decide) (Nat.le_of_ble_eq_true rfl) (fun p e s m args below meth c ls (S : CallFix p m c cX9_withinOctave 3 s args GW "RoadThatSings") hE hT hP hS hr hlocks hl => ?_)
  have hx := S.1
  have hb := S.2.1
  have hl : lv_has ls 3 [(0, .int x0)] := hl
  unfold F_X9_withinOctave at h
  refine lv_iload_n hx hb dX9_withinOctave_0 rfl (lv_at hl 0 rfl) ?_
  refine lv_istore_n (lv' := [(1, .int x0), (0, .int x0)]) hx hb dX9_withinOctave_1 rfl hl (by decide) rfl (fun ls hl => ?_)
  refine lv_iconst (v := 0) hx hb dX9_withinOctave_2 (by decide) ?_
  refine lv_istore_n (lv' := [(2, .int 0), (1, .int x0), (0, .int x0)]) hx hb dX9_withinOctave_3 rfl hl (by decide) rfl (fun ls hl => ?_)
  obtain ⟨n, h⟩ := h
  refine w_X9_withinOctave_4 S hE hT hP hS hr hlocks (fun x1_1 ls h hl => ?_) n _ _ _ h (lv_sub hl [1, 0] rfl)
  refine w_X9_withinOctave_27 S hE hT hP hS hr hlocks _ h (lv_sub hl [0] rfl)
/-! X9_nearestStep -/
abbrev wX9_nearestStep (cI cJ cS : ClassId) : va_W := []
def F_X9_nearestStep_37 (k4 : Int32 → Int32 → Prop) (x0 : Int32) (x1 : Int32) (x2 : Int32) : Prop := (∀ x2_37 : Int32, x2_37 = x2 + 1 → k4 x1 x2_37)
def L_X9_nearestStep_4 (x0 : Int32) (post : Int32 → Prop) : Nat → Int32 → Int32 → Prop
  | 0, _, _ => False
  | n4 + 1, x1, x2 => (((nI 12) ≤ x2 → post x1) ∧ (¬ (nI 12) ≤ x2 → (vp_in x2 12 ∧ (vp_in x1 12 ∧ (((if 0 ≤ (x0 - (tbSTEPS.getD x1.toNatClampNeg 0)) then (x0 - (tbSTEPS.getD x1.toNatClampNeg 0)) else 0 - (x0 - (tbSTEPS.getD x1.toNatClampNeg 0))) ≤ (if 0 ≤ (x0 - (tbSTEPS.getD x2.toNatClampNeg 0)) then (x0 - (tbSTEPS.getD x2.toNatClampNeg 0)) else 0 - (x0 - (tbSTEPS.getD x2.toNatClampNeg 0))) → F_X9_nearestStep_37 (fun x1 x2 => L_X9_nearestStep_4 x0 post n4 x1 x2) x0 x1 x2) ∧ (¬ (if 0 ≤ (x0 - (tbSTEPS.getD x1.toNatClampNeg 0)) then (x0 - (tbSTEPS.getD x1.toNatClampNeg 0)) else 0 - (x0 - (tbSTEPS.getD x1.toNatClampNeg 0))) ≤ (if 0 ≤ (x0 - (tbSTEPS.getD x2.toNatClampNeg 0)) then (x0 - (tbSTEPS.getD x2.toNatClampNeg 0)) else 0 - (x0 - (tbSTEPS.getD x2.toNatClampNeg 0))) → F_X9_nearestStep_37 (fun x1 x2 => L_X9_nearestStep_4 x0 post n4 x1 x2) x0 x2 x2))))))
def F_X9_nearestStep (x0 : Int32) (post : Int32 → Prop) : Prop := (∃ n4 : Nat, L_X9_nearestStep_4 x0 post n4 0 1)
set_option maxHeartbeats 4000000 in
set_option maxRecDepth 100000 in
theorem w_X9_nearestStep_37 {l : Launch} {D : va_G} {cI cJ cS : ClassId} {ad adK : Nat → Nat}  {x0 : Int32} {x1 : Int32} {x2 : Int32} {post : Int32 → Prop} {k4 : Int32 → Int32 → Prop} {p : Program} {e : Env} {s : State} {m : MethodId} {args : Array Value} {below : List Frame} {meth : Method} {c : Code} (S : CallFix p m c cX9_nearestStep 3 s args GW "RoadThatSings") (hE : EN D cI cJ cS s) (hT : ST ad adK nof s s.heap) (hP : va_P D vwCl (wX9_nearestStep cI cJ cS) s.heap) (hS : va_S nof s.heap s.heap []) (hr : meth.sig.returnType = (some (.int))) (hlocks : meth.locks = false) (hk4 : ∀ (x1 : Int32) (x2 : Int32) (ls : Array Slot), k4 x1 x2 → lv_has ls 3 [(0, .int x0), (1, .int x1), (2, .int x2)] → W p l e (rmd 1 0 0) s m args below meth c s.heap [] 0 0 (MQ below (vp_Si post) args s 0 0 nof) (F0 m 4 ls [])) : ∀ (ls : Array Slot), F_X9_nearestStep_37 k4 x0 x1 x2 → lv_has ls 3 [(0, .int x0), (1, .int x1), (2, .int x2)] → W p l e (rmd 1 0 0) s m args below meth c s.heap [] 0 0 (MQ below (vp_Si post) args s 0 0 nof) (F0 m 37 ls []) := by
  intro  ls h hl
  unfold F_X9_nearestStep_37 at h
  have hx := S.1
  have hb := S.2.1
  obtain ⟨x2_37, ex2_37⟩ : ∃ z : Int32, z = x2 + 1 := ⟨_, rfl⟩
  have h := h _ ex2_37
  refine lv_iinc (v := x2_37) (lv' := [(2, .int x2_37), (0, .int x0), (1, .int x1)]) hx hb dX9_nearestStep_37 hl (k := 2) rfl (by rw [ex2_37]; rfl) (by decide) rfl (fun ls hl => ?_)
  refine lv_goto (tgt := 4) hx hb dX9_nearestStep_40 (by decide) ?_
  exact hk4 _ _ _ h (lv_sub hl [1, 2, 0] rfl)
set_option maxHeartbeats 4000000 in
set_option maxRecDepth 100000 in
theorem w_X9_nearestStep_4 {l : Launch} {D : va_G} {cI cJ cS : ClassId} {ad adK : Nat → Nat}  {x0 : Int32} {post : Int32 → Prop} {p : Program} {e : Env} {s : State} {m : MethodId} {args : Array Value} {below : List Frame} {meth : Method} {c : Code} (S : CallFix p m c cX9_nearestStep 3 s args GW "RoadThatSings") (hE : EN D cI cJ cS s) (hT : ST ad adK nof s s.heap) (hP : va_P D vwCl (wX9_nearestStep cI cJ cS) s.heap) (hS : va_S nof s.heap s.heap []) (hr : meth.sig.returnType = (some (.int))) (hlocks : meth.locks = false) : ∀ n : Nat, ∀ (x1 : Int32) (x2 : Int32) (ls : Array Slot), L_X9_nearestStep_4 x0 post n x1 x2 → lv_has ls 3 [(0, .int x0), (1, .int x1), (2, .int x2)] → W p l e (rmd 1 0 0) s m args below meth c s.heap [] 0 0 (MQ below (vp_Si post) args s 0 0 nof) (F0 m 4 ls []) := by
  intro n
  induction n with
  | zero =>
    intro x1 x2 ls h hl
    exact h.elim
  | succ n ih =>
    intro x1 x2 ls h hl
    rw [L_X9_nearestStep_4] at h
    have hx := S.1
    have hb := S.2.1
    refine lv_iload_n hx hb dX9_nearestStep_4 rfl (lv_at hl 2 rfl) ?_
    refine gsA S hT hS stm_STEPS q972 dX9_nearestStep_5 (fun t5 ht5 => ?_)
    refine tlen S hS ht5 dX9_nearestStep_8 ?_
    refine lv_icmp_ge (tgt := 43) hx hb dX9_nearestStep_9 (by decide) (fun hc => ?_) (fun hc => ?_)
    · have h := h.1 hc
      refine lv_iload_n hx hb dX9_nearestStep_43 rfl (lv_at hl 1 rfl) ?_
      exact W.iret hx hb hr (fun t ht _ => ⟨_, rfl, h, ht⟩) (fun _ hq => by cases hq) dX9_nearestStep_44
    have h := h.2 hc
    refine lv_iload_n hx hb dX9_nearestStep_12 rfl (lv_at hl 0 rfl) ?_
    refine gsA S hT hS stm_STEPS q972 dX9_nearestStep_13 (fun t13 ht13 => ?_)
    refine lv_iload_n hx hb dX9_nearestStep_16 rfl (lv_at hl 2 rfl) ?_
    obtain ⟨hi, h⟩ := h
    refine tal S hS ht13 hi dX9_nearestStep_17 ?_
    refine lv_isub hx hb dX9_nearestStep_18 ?_
    refine va_mabs hx hb (S.2.2.1.trans hl.1.symm) S.2.2.2.1 (S.2.2.2.2 _ q755) (S.2.2.2.2 _ q756) (S.2.2.2.2 _ q10) (S.2.2.2.2 _ q757) (Nat.le_of_ble_eq_true rfl) (Nat.le_of_ble_eq_true rfl) (Nat.zero_le _) (Nat.zero_le _) dX9_nearestStep_19 ?_
    refine lv_iload_n hx hb dX9_nearestStep_22 rfl (lv_at hl 0 rfl) ?_
    refine gsA S hT hS stm_STEPS q972 dX9_nearestStep_23 (fun t23 ht23 => ?_)
    refine lv_iload_n hx hb dX9_nearestStep_26 rfl (lv_at hl 1 rfl) ?_
    obtain ⟨hi, h⟩ := h
    refine tal S hS ht23 hi dX9_nearestStep_27 ?_
    refine lv_isub hx hb dX9_nearestStep_28 ?_
    refine va_mabs hx hb (S.2.2.1.trans hl.1.symm) S.2.2.2.1 (S.2.2.2.2 _ q755) (S.2.2.2.2 _ q756) (S.2.2.2.2 _ q10) (S.2.2.2.2 _ q757) (Nat.le_of_ble_eq_true rfl) (Nat.le_of_ble_eq_true rfl) (Nat.zero_le _) (Nat.zero_le _) dX9_nearestStep_29 ?_
    refine lv_icmp_ge (tgt := 37) hx hb dX9_nearestStep_32 (by decide) (fun hc => ?_) (fun hc => ?_)
    · have h := h.1 hc
      refine w_X9_nearestStep_37 S hE hT hP hS hr hlocks ih _ h (lv_sub hl [0, 1, 2] rfl)
    have h := h.2 hc
    refine lv_iload_n hx hb dX9_nearestStep_35 rfl (lv_at hl 2 rfl) ?_
    refine lv_istore_n (lv' := [(1, .int x2), (0, .int x0), (2, .int x2)]) hx hb dX9_nearestStep_36 rfl hl (by decide) rfl (fun ls hl => ?_)
    refine w_X9_nearestStep_37 S hE hT hP hS hr hlocks ih _ h (lv_sub hl [1, 0, 2] rfl)
set_option maxHeartbeats 4000000 in
set_option maxRecDepth 100000 in
theorem c_X9_nearestStep {l : Launch} {D : va_G} {cI cJ cS : ClassId} {ad adK : Nat → Nat}  {x0 : Int32} {post : Int32 → Prop} (h : F_X9_nearestStep x0 post) : Met l yX9_nearestStep (Cond.code yX9_nearestStep cX9_nearestStep 3 (some (.int)) :: GW) (rmd 1 0 0) (PR D cI cJ cS ad adK [.int x0] (wX9_nearestStep cI cJ cS)) (vp_Si post) 0 0 nof := by
  refine Met.ro (by decide) (Nat.le_of_ble_eq_true rfl) (fun p e s m args below meth c ls (S : CallFix p m c cX9_nearestStep 3 s args GW "RoadThatSings") hE hT hP hS hr hlocks hl => ?_)
  have hx := S.1
  have hb := S.2.1
  have hl : lv_has ls 3 [(0, .int x0)] := hl
  unfold F_X9_nearestStep at h
  refine lv_iconst (v := 0) hx hb dX9_nearestStep_0 (by decide) ?_
  refine lv_istore_n (lv' := [(1, .int 0), (0, .int x0)]) hx hb dX9_nearestStep_1 rfl hl (by decide) rfl (fun ls hl => ?_)
  refine lv_iconst (v := 1) hx hb dX9_nearestStep_2 (by decide) ?_
  refine lv_istore_n (lv' := [(2, .int 1), (1, .int 0), (0, .int x0)]) hx hb dX9_nearestStep_3 rfl hl (by decide) rfl (fun ls hl => ?_)
  obtain ⟨n, h⟩ := h
  refine w_X9_nearestStep_4 S hE hT hP hS hr hlocks n _ _ _ h (lv_sub hl [2, 1, 0] rfl)
/-! X9_scale -/
abbrev wX9_scale (cI cJ cS : ClassId) (a_o a_refused a_road a_road_stretches a_road_stretches_kinds a_road_stretches_others a_road_stretches_spaces : Nat) (z_kept z_ahead z_shelves z_cutting z_acting z_road_cars z_road_tunes z_road_demands z_road_stretches_times : Value) (v_imaged : Int32) (v_lastFault : Int32) (f_refused : Nat → Int32) (v_road_drawSeed : Int32) (v_road_stretches_stretchCount : Int32) (f_road_stretches_kinds : Nat → Int32) (f_road_stretches_others : Nat → Int32) (f_road_stretches_spaces : Nat → Int32) : va_W := [(a_o, .inr (8, [.ref a_road, z_kept, z_ahead, z_shelves, z_cutting, z_acting, .ref a_refused, .int v_imaged, .int v_lastFault])), (a_refused, .inl (cI, 8, .inl f_refused)), (a_road, .inr (4, [.ref a_road_stretches, z_road_cars, z_road_tunes, z_road_demands, .int v_road_drawSeed])), (a_road_stretches, .inr (6, [.ref a_road_stretches_kinds, .ref a_road_stretches_spaces, .ref a_road_stretches_others, z_road_stretches_times, .int v_road_stretches_stretchCount])), (a_road_stretches_kinds, .inl (cI, 16, .inl f_road_stretches_kinds)), (a_road_stretches_others, .inl (cI, 16, .inl f_road_stretches_others)), (a_road_stretches_spaces, .inl (cI, 16, .inl f_road_stretches_spaces))]
def F_X9_scale (f_refused : Nat → Int32) (v_road_stretches_stretchCount : Int32) (f_road_stretches_kinds : Nat → Int32) (f_road_stretches_others : Nat → Int32) (f_road_stretches_spaces : Nat → Int32) (x1 : Int32) (x2 : Int32) (x3 : Int32) (post : Int32 → (Nat → Int32) → Prop) : Prop := (F_X7_has v_road_stretches_stretchCount x1 (fun r8 => ((r8 = 0 → (F_X9_refuseAs f_refused (-1) (-11) (fun r18 w18_0 => post r18 w18_0))) ∧ (¬ r8 = 0 → (F_X9_isSpeed x2 (fun r23 => ((r23 = 0 → (F_X9_refuseAs f_refused (-6) (-16) (fun r45 w45_0 => post r45 w45_0))) ∧ (¬ r23 = 0 → (F_X9_within x3 1 9999 (fun r34 => ((r34 = 0 → (F_X9_refuseAs f_refused (-6) (-16) (fun r45 w45_0 => post r45 w45_0))) ∧ (¬ r34 = 0 → (F_X7_humOf v_road_stretches_stretchCount f_road_stretches_kinds f_road_stretches_others f_road_stretches_spaces x1 x2 (fun r58 => (F_X9_quotient (r58 * 1000) x3 (fun r66 => ((r66 = 0 → post (-1) f_refused) ∧ (¬ r66 = 0 → (F_X9_withinOctave r66 (fun r82 => (F_X9_nearestStep r82 (fun r85 => post r85 f_refused))))))))))))))))))))))
set_option maxHeartbeats 4000000 in
set_option maxRecDepth 100000 in
theorem c_X9_scale {l : Launch} {D : va_G} {cI cJ cS : ClassId} {ad adK : Nat → Nat} {a_o a_refused a_road a_road_stretches a_road_stretches_kinds a_road_stretches_others a_road_stretches_spaces : Nat} {z_kept z_ahead z_shelves z_cutting z_acting z_road_cars z_road_tunes z_road_demands z_road_stretches_times : Value} {v_imaged : Int32} {v_lastFault : Int32} {f_refused : Nat → Int32} {v_road_drawSeed : Int32} {v_road_stretches_stretchCount : Int32} {f_road_stretches_kinds : Nat → Int32} {f_road_stretches_others : Nat → Int32} {f_road_stretches_spaces : Nat → Int32} {x1 : Int32} {x2 : Int32} {x3 : Int32} {post : Int32 → (Nat → Int32) → Prop} (h : F_X9_scale f_refused v_road_stretches_stretchCount f_road_stretches_kinds f_road_stretches_others f_road_stretches_spaces x1 x2 x3 post) {sz : Nat} : Met l yX9_scale (Cond.code yX9_scale cX9_scale 5 (some (.int)) :: GW) (rmd 3 0 0) (PW D cI cJ cS ad adK [.ref a_o, .int x1, .int x2, .int x3] (wX9_scale cI cJ cS a_o a_refused a_road a_road_stretches a_road_stretches_kinds a_road_stretches_others a_road_stretches_spaces z_kept z_ahead z_shelves z_cutting z_acting z_road_cars z_road_tunes z_road_demands z_road_stretches_times v_imaged v_lastFault f_refused v_road_drawSeed v_road_stretches_stretchCount f_road_stretches_kinds f_road_stretches_others f_road_stretches_spaces) sz) (va_Qi (fun r (u : (Nat → Int32)) => post r u) (fun u t => va_P D vwCl (wX9_scale cI cJ cS a_o a_refused a_road a_road_stretches a_road_stretches_kinds a_road_stretches_others a_road_stretches_spaces z_kept z_ahead z_shelves z_cutting z_acting z_road_cars z_road_tunes z_road_demands z_road_stretches_times v_imaged v_lastFault u v_road_drawSeed v_road_stretches_stretchCount f_road_stretches_kinds f_road_stretches_others f_road_stretches_spaces) t.heap) (va_A (wX9_scale cI cJ cS a_o a_refused a_road a_road_stretches a_road_stretches_kinds a_road_stretches_others a_road_stretches_spaces z_kept z_ahead z_shelves z_cutting z_acting z_road_cars z_road_tunes z_road_demands z_road_stretches_times v_imaged v_lastFault f_refused v_road_drawSeed v_road_stretches_stretchCount f_road_stretches_kinds f_road_stretches_others f_road_stretches_spaces) sz)) 0 0 (va_A (wX9_scale cI cJ cS a_o a_refused a_road a_road_stretches a_road_stretches_kinds a_road_stretches_others a_road_stretches_spaces z_kept z_ahead z_shelves z_cutting z_acting z_road_cars z_road_tunes z_road_demands z_road_stretches_times v_imaged v_lastFault f_refused v_road_drawSeed v_road_stretches_stretchCount f_road_stretches_kinds f_road_stretches_others f_road_stretches_spaces) sz) := by
  refine Met.rw (Qc := fun A => (va_Qi (fun r (u : (Nat → Int32)) => post r u) (fun u t => va_P D vwCl (wX9_scale cI cJ cS a_o a_refused a_road a_road_stretches a_road_stretches_kinds a_road_stretches_others a_road_stretches_spaces z_kept z_ahead z_shelves z_cutting z_acting z_road_cars z_road_tunes z_road_demands z_road_stretches_times v_imaged v_lastFault u v_road_drawSeed v_road_stretches_stretchCount f_road_stretches_kinds f_road_stretches_others f_road_stretches_spaces) t.heap) A)) (by decide) (Nat.le_of_ble_eq_true rfl) (fun p e s m args below meth c ls A (S : CallFix p m c cX9_scale 5 s args GW "RoadThatSings") hE hT hP hD hA hS hr hlocks hname hl => ?_)
  have hS0 := hS
  have hx := S.1
  have hb := S.2.1
  have hl : lv_has ls 5 [(0, .ref a_o), (1, .int x1), (2, .int x2), (3, .int x3)] := hl
  unfold F_X9_scale at h
  refine lv_aload_n hx hb dX9_scale_0 rfl (lv_at hl 0 rfl) ?_
  refine gf S hE hP 0 rfl rfl inX9 (k := 0) (by decide) q181 rfl dX9_scale_1 ?_
  refine gfN S hE hP 2 rfl rfl inX5 (k := 0) (by decide) nfX9_106 rfl dX9_scale_4 ?_
  refine lv_iload_n hx hb dX9_scale_7 rfl (lv_at hl 1 rfl) ?_
  refine ro_i (roV S hE hT hS (c_X7_has h) lkX9_110 rfl ⟨(Nat.le_of_ble_eq_true rfl), (Nat.le_of_ble_eq_true rfl)⟩ (hP.sub [3] rfl) 0 rfl rfl hl.1 rfl (Nat.le_of_ble_eq_true rfl) dX9_scale_8 ⟨(Nat.zero_le _), (Nat.zero_le _)⟩) (fun r8 h => ?_)
  refine lv_if_ne (tgt := 22) hx hb dX9_scale_11 (by decide) (fun hc => ?_) (fun hc => ?_)
  · have h := h.2 hc
    refine lv_iload_n hx hb dX9_scale_22 rfl (lv_at hl 2 rfl) ?_
    refine ro_i (roS S hE hT hS (c_X9_isSpeed h) lkX9_177 rfl ⟨(Nat.le_of_ble_eq_true rfl), (Nat.le_of_ble_eq_true rfl)⟩ (hP.sub [] rfl) hl.1 rfl (Nat.le_of_ble_eq_true rfl) dX9_scale_23 ⟨(Nat.zero_le _), (Nat.zero_le _)⟩) (fun r23 h => ?_)
    refine lv_if_eq (tgt := 40) hx hb dX9_scale_26 (by decide) (fun hc => ?_) (fun hc => ?_)
    · have h := h.1 hc
      refine lv_aload_n hx hb dX9_scale_40 rfl (lv_at hl 0 rfl) ?_
      refine lv_bipush (v := (-6)) hx hb dX9_scale_41 (by decide) ?_
      refine lv_bipush (v := (-16)) hx hb dX9_scale_43 (by decide) ?_
      refine rw_i (rwV S hE hT hS hP hD hA (c_X9_refuseAs h) [0, 1] rfl (by decide +kernel) lkX9_351 rfl ⟨(Nat.le_of_ble_eq_true rfl), (Nat.le_of_ble_eq_true rfl)⟩ 0 rfl rfl hl.1 rfl (Nat.le_of_ble_eq_true rfl) dX9_scale_45 ⟨(Nat.zero_le _), (Nat.zero_le _)⟩) hP hD hS hA [0, 1] rfl (by decide +kernel) (fun _ => rfl) (fun r45 w45_0 H locs h hP hD hS => ?_)
      try dsimp only at h
      have hP : va_P D vwCl (wX9_scale cI cJ cS a_o a_refused a_road a_road_stretches a_road_stretches_kinds a_road_stretches_others a_road_stretches_spaces z_kept z_ahead z_shelves z_cutting z_acting z_road_cars z_road_tunes z_road_demands z_road_stretches_times v_imaged v_lastFault w45_0 v_road_drawSeed v_road_stretches_stretchCount f_road_stretches_kinds f_road_stretches_others f_road_stretches_spaces) H := hP
      have hD : va_D A (wX9_scale cI cJ cS a_o a_refused a_road a_road_stretches a_road_stretches_kinds a_road_stretches_others a_road_stretches_spaces z_kept z_ahead z_shelves z_cutting z_acting z_road_cars z_road_tunes z_road_demands z_road_stretches_times v_imaged v_lastFault w45_0 v_road_drawSeed v_road_stretches_stretchCount f_road_stretches_kinds f_road_stretches_others f_road_stretches_spaces) := hD
      exact W.iret hx hb hr (fun t ht _ => ⟨⟨_, w45_0, rfl, h, hPt hP ht⟩, hS.F ht⟩) hS.2.2 dX9_scale_48
    have h := h.2 hc
    refine lv_iload_n hx hb dX9_scale_29 rfl (lv_at hl 3 rfl) ?_
    refine lv_iconst (v := 1) hx hb dX9_scale_30 (by decide) ?_
    refine lv_sipush (v := 9999) hx hb dX9_scale_31 (by decide) ?_
    refine ro_i (roS S hE hT hS (c_X9_within h) lkX9_63 rfl ⟨(Nat.le_of_ble_eq_true rfl), (Nat.le_of_ble_eq_true rfl)⟩ (hP.sub [] rfl) hl.1 rfl (Nat.le_of_ble_eq_true rfl) dX9_scale_34 ⟨(Nat.zero_le _), (Nat.zero_le _)⟩) (fun r34 h => ?_)
    refine lv_if_ne (tgt := 49) hx hb dX9_scale_37 (by decide) (fun hc => ?_) (fun hc => ?_)
    · have h := h.2 hc
      refine lv_aload_n hx hb dX9_scale_49 rfl (lv_at hl 0 rfl) ?_
      refine gf S hE hP 0 rfl rfl inX9 (k := 0) (by decide) q181 rfl dX9_scale_50 ?_
      refine gfN S hE hP 2 rfl rfl inX5 (k := 0) (by decide) nfX9_106 rfl dX9_scale_53 ?_
      refine lv_iload_n hx hb dX9_scale_56 rfl (lv_at hl 1 rfl) ?_
      refine lv_iload_n hx hb dX9_scale_57 rfl (lv_at hl 2 rfl) ?_
      refine ro_i (roV S hE hT hS (c_X7_humOf h) lkX9_262 rfl ⟨(Nat.le_of_ble_eq_true rfl), (Nat.le_of_ble_eq_true rfl)⟩ (hP.sub [3, 4, 5, 6] rfl) 0 rfl rfl hl.1 rfl (Nat.le_of_ble_eq_true rfl) dX9_scale_58 ⟨(Nat.zero_le _), (Nat.zero_le _)⟩) (fun r58 h => ?_)
      refine lv_sipush (v := 1000) hx hb dX9_scale_61 (by decide) ?_
      refine lv_imul hx hb dX9_scale_64 ?_
      refine lv_iload_n hx hb dX9_scale_65 rfl (lv_at hl 3 rfl) ?_
      refine ro_i (roS S hE hT hS (c_X9_quotient h) lkX9_354 rfl ⟨(Nat.le_of_ble_eq_true rfl), (Nat.le_of_ble_eq_true rfl)⟩ (hP.sub [] rfl) hl.1 rfl (Nat.le_of_ble_eq_true rfl) dX9_scale_66 ⟨(Nat.zero_le _), (Nat.zero_le _)⟩) (fun r66 h => ?_)
      refine lv_istore (lv' := [(4, .int r66), (0, .ref a_o), (1, .int x1), (2, .int x2), (3, .int x3)]) hx hb dX9_scale_69 hl (by decide) rfl (fun ls hl => ?_)
      refine lv_iload hx hb dX9_scale_71 (lv_at hl 0 rfl) ?_
      refine lv_if_ne (tgt := 80) hx hb dX9_scale_73 (by decide) (fun hc => ?_) (fun hc => ?_)
      · have h := h.2 hc
        refine lv_iload hx hb dX9_scale_80 (lv_at hl 0 rfl) ?_
        refine ro_i (roS S hE hT hS (c_X9_withinOctave h) lkX9_356 rfl ⟨(Nat.le_of_ble_eq_true rfl), (Nat.le_of_ble_eq_true rfl)⟩ (hP.sub [] rfl) hl.1 rfl (Nat.le_of_ble_eq_true rfl) dX9_scale_82 ⟨(Nat.zero_le _), (Nat.zero_le _)⟩) (fun r82 h => ?_)
        refine ro_i (roS S hE hT hS (c_X9_nearestStep h) lkX9_359 rfl ⟨(Nat.le_of_ble_eq_true rfl), (Nat.le_of_ble_eq_true rfl)⟩ (hP.sub [] rfl) hl.1 rfl (Nat.le_of_ble_eq_true rfl) dX9_scale_85 ⟨(Nat.zero_le _), (Nat.zero_le _)⟩) (fun r85 h => ?_)
        exact W.iret hx hb hr (fun t ht _ => ⟨⟨_, f_refused, rfl, h, hPt hP ht⟩, hS.F ht⟩) hS.2.2 dX9_scale_88
      have h := h.1 hc
      refine lv_iconst (v := (-1)) hx hb dX9_scale_76 (by decide) ?_
      refine lv_goto (tgt := 88) hx hb dX9_scale_77 (by decide) ?_
      exact W.iret hx hb hr (fun t ht _ => ⟨⟨_, f_refused, rfl, h, hPt hP ht⟩, hS.F ht⟩) hS.2.2 dX9_scale_88
    have h := h.1 hc
    refine lv_aload_n hx hb dX9_scale_40 rfl (lv_at hl 0 rfl) ?_
    refine lv_bipush (v := (-6)) hx hb dX9_scale_41 (by decide) ?_
    refine lv_bipush (v := (-16)) hx hb dX9_scale_43 (by decide) ?_
    refine rw_i (rwV S hE hT hS hP hD hA (c_X9_refuseAs h) [0, 1] rfl (by decide +kernel) lkX9_351 rfl ⟨(Nat.le_of_ble_eq_true rfl), (Nat.le_of_ble_eq_true rfl)⟩ 0 rfl rfl hl.1 rfl (Nat.le_of_ble_eq_true rfl) dX9_scale_45 ⟨(Nat.zero_le _), (Nat.zero_le _)⟩) hP hD hS hA [0, 1] rfl (by decide +kernel) (fun _ => rfl) (fun r45 w45_0 H locs h hP hD hS => ?_)
    try dsimp only at h
    have hP : va_P D vwCl (wX9_scale cI cJ cS a_o a_refused a_road a_road_stretches a_road_stretches_kinds a_road_stretches_others a_road_stretches_spaces z_kept z_ahead z_shelves z_cutting z_acting z_road_cars z_road_tunes z_road_demands z_road_stretches_times v_imaged v_lastFault w45_0 v_road_drawSeed v_road_stretches_stretchCount f_road_stretches_kinds f_road_stretches_others f_road_stretches_spaces) H := hP
    have hD : va_D A (wX9_scale cI cJ cS a_o a_refused a_road a_road_stretches a_road_stretches_kinds a_road_stretches_others a_road_stretches_spaces z_kept z_ahead z_shelves z_cutting z_acting z_road_cars z_road_tunes z_road_demands z_road_stretches_times v_imaged v_lastFault w45_0 v_road_drawSeed v_road_stretches_stretchCount f_road_stretches_kinds f_road_stretches_others f_road_stretches_spaces) := hD
    exact W.iret hx hb hr (fun t ht _ => ⟨⟨_, w45_0, rfl, h, hPt hP ht⟩, hS.F ht⟩) hS.2.2 dX9_scale_48
  have h := h.1 hc
  refine lv_aload_n hx hb dX9_scale_14 rfl (lv_at hl 0 rfl) ?_
  refine lv_iconst (v := (-1)) hx hb dX9_scale_15 (by decide) ?_
  refine lv_bipush (v := (-11)) hx hb dX9_scale_16 (by decide) ?_
  refine rw_i (rwV S hE hT hS hP hD hA (c_X9_refuseAs h) [0, 1] rfl (by decide +kernel) lkX9_351 rfl ⟨(Nat.le_of_ble_eq_true rfl), (Nat.le_of_ble_eq_true rfl)⟩ 0 rfl rfl hl.1 rfl (Nat.le_of_ble_eq_true rfl) dX9_scale_18 ⟨(Nat.zero_le _), (Nat.zero_le _)⟩) hP hD hS hA [0, 1] rfl (by decide +kernel) (fun _ => rfl) (fun r18 w18_0 H locs h hP hD hS => ?_)
  try dsimp only at h
  have hP : va_P D vwCl (wX9_scale cI cJ cS a_o a_refused a_road a_road_stretches a_road_stretches_kinds a_road_stretches_others a_road_stretches_spaces z_kept z_ahead z_shelves z_cutting z_acting z_road_cars z_road_tunes z_road_demands z_road_stretches_times v_imaged v_lastFault w18_0 v_road_drawSeed v_road_stretches_stretchCount f_road_stretches_kinds f_road_stretches_others f_road_stretches_spaces) H := hP
  have hD : va_D A (wX9_scale cI cJ cS a_o a_refused a_road a_road_stretches a_road_stretches_kinds a_road_stretches_others a_road_stretches_spaces z_kept z_ahead z_shelves z_cutting z_acting z_road_cars z_road_tunes z_road_demands z_road_stretches_times v_imaged v_lastFault w18_0 v_road_drawSeed v_road_stretches_stretchCount f_road_stretches_kinds f_road_stretches_others f_road_stretches_spaces) := hD
  exact W.iret hx hb hr (fun t ht _ => ⟨⟨_, w18_0, rfl, h, hPt hP ht⟩, hS.F ht⟩) hS.2.2 dX9_scale_21
/-! X9_read -/
abbrev wX9_read (cI cJ cS : ClassId) (a_o a_refused a_road a_road_cars a_road_cars_speeds a_road_stretches a_road_stretches_kinds a_road_stretches_others a_road_stretches_spaces a_road_tunes a_road_tunes_noteCounts a_road_tunes_pitches : Nat) (z_kept z_ahead z_shelves z_cutting z_acting z_road_demands z_road_cars_bases z_road_cars_shares z_road_stretches_times z_road_tunes_beats : Value) (v_imaged : Int32) (v_lastFault : Int32) (f_refused : Nat → Int32) (v_road_drawSeed : Int32) (v_road_cars_carCount : Int32) (f_road_cars_speeds : Nat → Int32) (v_road_stretches_stretchCount : Int32) (f_road_stretches_kinds : Nat → Int32) (f_road_stretches_others : Nat → Int32) (f_road_stretches_spaces : Nat → Int32) (v_road_tunes_tuneCount : Int32) (f_road_tunes_noteCounts : Nat → Int32) (f_road_tunes_pitches : Nat → Int32) : va_W := [(a_o, .inr (8, [.ref a_road, z_kept, z_ahead, z_shelves, z_cutting, z_acting, .ref a_refused, .int v_imaged, .int v_lastFault])), (a_refused, .inl (cI, 8, .inl f_refused)), (a_road, .inr (4, [.ref a_road_stretches, .ref a_road_cars, .ref a_road_tunes, z_road_demands, .int v_road_drawSeed])), (a_road_cars, .inr (1, [.ref a_road_cars_speeds, z_road_cars_bases, z_road_cars_shares, .int v_road_cars_carCount])), (a_road_cars_speeds, .inl (cI, 6, .inl f_road_cars_speeds)), (a_road_stretches, .inr (6, [.ref a_road_stretches_kinds, .ref a_road_stretches_spaces, .ref a_road_stretches_others, z_road_stretches_times, .int v_road_stretches_stretchCount])), (a_road_stretches_kinds, .inl (cI, 16, .inl f_road_stretches_kinds)), (a_road_stretches_others, .inl (cI, 16, .inl f_road_stretches_others)), (a_road_stretches_spaces, .inl (cI, 16, .inl f_road_stretches_spaces)), (a_road_tunes, .inr (7, [.ref a_road_tunes_pitches, z_road_tunes_beats, .ref a_road_tunes_noteCounts, .int v_road_tunes_tuneCount])), (a_road_tunes_noteCounts, .inl (cI, 6, .inl f_road_tunes_noteCounts)), (a_road_tunes_pitches, .inl (cI, 72, .inl f_road_tunes_pitches))]
def F_X9_read_94 (k55 : Int32 → Int32 → Int32 → Prop) (x1 : Int32) (x2 : Int32) (x3 : Int32) (x4 : Int32) (f_refused : Nat → Int32) : Prop := (∀ x4_94 : Int32, x4_94 = x4 + 1 → k55 x2 x3 x4_94)
def L_X9_read_55 (v_road_cars_carCount : Int32) (f_road_cars_speeds : Nat → Int32) (v_road_stretches_stretchCount : Int32) (f_road_stretches_kinds : Nat → Int32) (f_road_stretches_others : Nat → Int32) (f_road_stretches_spaces : Nat → Int32) (v_road_tunes_tuneCount : Int32) (f_road_tunes_noteCounts : Nat → Int32) (f_road_tunes_pitches : Nat → Int32) (x1 : Int32) (f_refused : Nat → Int32) (post : Int32 → (Nat → Int32) → Prop) : Nat → Int32 → Int32 → Int32 → Prop
  | 0, _, _, _ => False
  | n55 + 1, x2, x3, x4 => (F_X8_count v_road_tunes_tuneCount (fun r64 => ((r64 ≤ x4 → post x2 f_refused) ∧ (¬ r64 ≤ x4 → (F_X5_worstOf v_road_cars_carCount f_road_cars_speeds v_road_stretches_stretchCount f_road_stretches_kinds f_road_stretches_others f_road_stretches_spaces v_road_tunes_tuneCount f_road_tunes_noteCounts f_road_tunes_pitches x1 x4 (fun r77 => ((x3 ≤ r77 → F_X9_read_94 (fun x2 x3 x4 => L_X9_read_55 v_road_cars_carCount f_road_cars_speeds v_road_stretches_stretchCount f_road_stretches_kinds f_road_stretches_others f_road_stretches_spaces v_road_tunes_tuneCount f_road_tunes_noteCounts f_road_tunes_pitches x1 f_refused post n55 x2 x3 x4) x1 x2 x3 x4 f_refused) ∧ (¬ x3 ≤ r77 → F_X9_read_94 (fun x2 x3 x4 => L_X9_read_55 v_road_cars_carCount f_road_cars_speeds v_road_stretches_stretchCount f_road_stretches_kinds f_road_stretches_others f_road_stretches_spaces v_road_tunes_tuneCount f_road_tunes_noteCounts f_road_tunes_pitches x1 f_refused post n55 x2 x3 x4) x1 x4 r77 x4 f_refused))))))))
def F_X9_read (f_refused : Nat → Int32) (v_road_cars_carCount : Int32) (f_road_cars_speeds : Nat → Int32) (v_road_stretches_stretchCount : Int32) (f_road_stretches_kinds : Nat → Int32) (f_road_stretches_others : Nat → Int32) (f_road_stretches_spaces : Nat → Int32) (v_road_tunes_tuneCount : Int32) (f_road_tunes_noteCounts : Nat → Int32) (f_road_tunes_pitches : Nat → Int32) (x1 : Int32) (post : Int32 → (Nat → Int32) → Prop) : Prop := (F_X1_has v_road_cars_carCount x1 (fun r8 => ((r8 = 0 → (F_X9_refuse f_refused (-1) (fun r16 w16_0 => post r16 w16_0))) ∧ (¬ r8 = 0 → (F_X8_count v_road_tunes_tuneCount (fun r27 => ((r27 = 0 → (F_X9_refuse f_refused (-5) (fun r36 w36_0 => post r36 w36_0))) ∧ (¬ r27 = 0 → (F_X5_worstOf v_road_cars_carCount f_road_cars_speeds v_road_stretches_stretchCount f_road_stretches_kinds f_road_stretches_others f_road_stretches_spaces v_road_tunes_tuneCount f_road_tunes_noteCounts f_road_tunes_pitches x1 0 (fun r48 => (∃ n55 : Nat, L_X9_read_55 v_road_cars_carCount f_road_cars_speeds v_road_stretches_stretchCount f_road_stretches_kinds f_road_stretches_others f_road_stretches_spaces v_road_tunes_tuneCount f_road_tunes_noteCounts f_road_tunes_pitches x1 f_refused post n55 0 r48 1)))))))))))
set_option maxHeartbeats 4000000 in
set_option maxRecDepth 100000 in
theorem w_X9_read_94 {l : Launch} {D : va_G} {cI cJ cS : ClassId} {ad adK : Nat → Nat} {a_o a_refused a_road a_road_cars a_road_cars_speeds a_road_stretches a_road_stretches_kinds a_road_stretches_others a_road_stretches_spaces a_road_tunes a_road_tunes_noteCounts a_road_tunes_pitches : Nat} {z_kept z_ahead z_shelves z_cutting z_acting z_road_demands z_road_cars_bases z_road_cars_shares z_road_stretches_times z_road_tunes_beats : Value} {v_imaged : Int32} {v_lastFault : Int32} {f_refused : Nat → Int32} {v_road_drawSeed : Int32} {v_road_cars_carCount : Int32} {f_road_cars_speeds : Nat → Int32} {v_road_stretches_stretchCount : Int32} {f_road_stretches_kinds : Nat → Int32} {f_road_stretches_others : Nat → Int32} {f_road_stretches_spaces : Nat → Int32} {v_road_tunes_tuneCount : Int32} {f_road_tunes_noteCounts : Nat → Int32} {f_road_tunes_pitches : Nat → Int32} {x1 : Int32} {x2 : Int32} {x3 : Int32} {x4 : Int32} {post : Int32 → (Nat → Int32) → Prop} {k55 : Int32 → Int32 → Int32 → Prop} {p : Program} {e : Env} {s : State} {m : MethodId} {args : Array Value} {below : List Frame} {meth : Method} {c : Code} {A : Nat → Prop} (S : CallFix p m c cX9_read 6 s args GW "RoadThatSings") (hE : EN D cI cJ cS s) (hT : ST ad adK A s s.heap) (hA : ∀ q : Nat, s.heap.size ≤ q → A q) (hr : meth.sig.returnType = (some (.int))) (hlocks : meth.locks = false) (hk55 : ∀ (x2 : Int32) (x3 : Int32) (x4 : Int32) (H : Heap) (locs : List Loc) (ls : Array Slot), k55 x2 x3 x4 → va_P D vwCl (wX9_read cI cJ cS a_o a_refused a_road a_road_cars a_road_cars_speeds a_road_stretches a_road_stretches_kinds a_road_stretches_others a_road_stretches_spaces a_road_tunes a_road_tunes_noteCounts a_road_tunes_pitches z_kept z_ahead z_shelves z_cutting z_acting z_road_demands z_road_cars_bases z_road_cars_shares z_road_stretches_times z_road_tunes_beats v_imaged v_lastFault f_refused v_road_drawSeed v_road_cars_carCount f_road_cars_speeds v_road_stretches_stretchCount f_road_stretches_kinds f_road_stretches_others f_road_stretches_spaces v_road_tunes_tuneCount f_road_tunes_noteCounts f_road_tunes_pitches) H → va_D A (wX9_read cI cJ cS a_o a_refused a_road a_road_cars a_road_cars_speeds a_road_stretches a_road_stretches_kinds a_road_stretches_others a_road_stretches_spaces a_road_tunes a_road_tunes_noteCounts a_road_tunes_pitches z_kept z_ahead z_shelves z_cutting z_acting z_road_demands z_road_cars_bases z_road_cars_shares z_road_stretches_times z_road_tunes_beats v_imaged v_lastFault f_refused v_road_drawSeed v_road_cars_carCount f_road_cars_speeds v_road_stretches_stretchCount f_road_stretches_kinds f_road_stretches_others f_road_stretches_spaces v_road_tunes_tuneCount f_road_tunes_noteCounts f_road_tunes_pitches) → va_S A s.heap H locs → lv_has ls 6 [(0, .ref a_o), (1, .int x1), (2, .int x2), (3, .int x3), (4, .int x4)] → W p l e (rmd 5 0 0) s m args below meth c H locs 0 0 (MQ below (va_Qi (fun r (u : (Nat → Int32)) => post r u) (fun u t => va_P D vwCl (wX9_read cI cJ cS a_o a_refused a_road a_road_cars a_road_cars_speeds a_road_stretches a_road_stretches_kinds a_road_stretches_others a_road_stretches_spaces a_road_tunes a_road_tunes_noteCounts a_road_tunes_pitches z_kept z_ahead z_shelves z_cutting z_acting z_road_demands z_road_cars_bases z_road_cars_shares z_road_stretches_times z_road_tunes_beats v_imaged v_lastFault u v_road_drawSeed v_road_cars_carCount f_road_cars_speeds v_road_stretches_stretchCount f_road_stretches_kinds f_road_stretches_others f_road_stretches_spaces v_road_tunes_tuneCount f_road_tunes_noteCounts f_road_tunes_pitches) t.heap) A) args s 0 0 A) (F0 m 55 ls [])) : ∀ (H : Heap) (locs : List Loc) (ls : Array Slot), F_X9_read_94 k55 x1 x2 x3 x4 f_refused → va_P D vwCl (wX9_read cI cJ cS a_o a_refused a_road a_road_cars a_road_cars_speeds a_road_stretches a_road_stretches_kinds a_road_stretches_others a_road_stretches_spaces a_road_tunes a_road_tunes_noteCounts a_road_tunes_pitches z_kept z_ahead z_shelves z_cutting z_acting z_road_demands z_road_cars_bases z_road_cars_shares z_road_stretches_times z_road_tunes_beats v_imaged v_lastFault f_refused v_road_drawSeed v_road_cars_carCount f_road_cars_speeds v_road_stretches_stretchCount f_road_stretches_kinds f_road_stretches_others f_road_stretches_spaces v_road_tunes_tuneCount f_road_tunes_noteCounts f_road_tunes_pitches) H → va_D A (wX9_read cI cJ cS a_o a_refused a_road a_road_cars a_road_cars_speeds a_road_stretches a_road_stretches_kinds a_road_stretches_others a_road_stretches_spaces a_road_tunes a_road_tunes_noteCounts a_road_tunes_pitches z_kept z_ahead z_shelves z_cutting z_acting z_road_demands z_road_cars_bases z_road_cars_shares z_road_stretches_times z_road_tunes_beats v_imaged v_lastFault f_refused v_road_drawSeed v_road_cars_carCount f_road_cars_speeds v_road_stretches_stretchCount f_road_stretches_kinds f_road_stretches_others f_road_stretches_spaces v_road_tunes_tuneCount f_road_tunes_noteCounts f_road_tunes_pitches) → va_S A s.heap H locs → lv_has ls 6 [(0, .ref a_o), (1, .int x1), (2, .int x2), (3, .int x3), (4, .int x4)] → W p l e (rmd 5 0 0) s m args below meth c H locs 0 0 (MQ below (va_Qi (fun r (u : (Nat → Int32)) => post r u) (fun u t => va_P D vwCl (wX9_read cI cJ cS a_o a_refused a_road a_road_cars a_road_cars_speeds a_road_stretches a_road_stretches_kinds a_road_stretches_others a_road_stretches_spaces a_road_tunes a_road_tunes_noteCounts a_road_tunes_pitches z_kept z_ahead z_shelves z_cutting z_acting z_road_demands z_road_cars_bases z_road_cars_shares z_road_stretches_times z_road_tunes_beats v_imaged v_lastFault u v_road_drawSeed v_road_cars_carCount f_road_cars_speeds v_road_stretches_stretchCount f_road_stretches_kinds f_road_stretches_others f_road_stretches_spaces v_road_tunes_tuneCount f_road_tunes_noteCounts f_road_tunes_pitches) t.heap) A) args s 0 0 A) (F0 m 94 ls []) := by
  intro  H locs ls h hP hD hS hl
  unfold F_X9_read_94 at h
  have hx := S.1
  have hb := S.2.1
  obtain ⟨x4_94, ex4_94⟩ : ∃ z : Int32, z = x4 + 1 := ⟨_, rfl⟩
  have h := h _ ex4_94
  refine lv_iinc (v := x4_94) (lv' := [(4, .int x4_94), (0, .ref a_o), (1, .int x1), (2, .int x2), (3, .int x3)]) hx hb dX9_read_94 hl (k := 4) rfl (by rw [ex4_94]; rfl) (by decide) rfl (fun ls hl => ?_)
  refine lv_goto (tgt := 55) hx hb dX9_read_97 (by decide) ?_
  exact hk55 _ _ _ _ _ _ h hP hD hS (lv_sub hl [1, 2, 3, 4, 0] rfl)
set_option maxHeartbeats 4000000 in
set_option maxRecDepth 100000 in
theorem w_X9_read_55 {l : Launch} {D : va_G} {cI cJ cS : ClassId} {ad adK : Nat → Nat} {a_o a_refused a_road a_road_cars a_road_cars_speeds a_road_stretches a_road_stretches_kinds a_road_stretches_others a_road_stretches_spaces a_road_tunes a_road_tunes_noteCounts a_road_tunes_pitches : Nat} {z_kept z_ahead z_shelves z_cutting z_acting z_road_demands z_road_cars_bases z_road_cars_shares z_road_stretches_times z_road_tunes_beats : Value} {v_imaged : Int32} {v_lastFault : Int32} {f_refused : Nat → Int32} {v_road_drawSeed : Int32} {v_road_cars_carCount : Int32} {f_road_cars_speeds : Nat → Int32} {v_road_stretches_stretchCount : Int32} {f_road_stretches_kinds : Nat → Int32} {f_road_stretches_others : Nat → Int32} {f_road_stretches_spaces : Nat → Int32} {v_road_tunes_tuneCount : Int32} {f_road_tunes_noteCounts : Nat → Int32} {f_road_tunes_pitches : Nat → Int32} {x1 : Int32} {post : Int32 → (Nat → Int32) → Prop} {p : Program} {e : Env} {s : State} {m : MethodId} {args : Array Value} {below : List Frame} {meth : Method} {c : Code} {A : Nat → Prop} (S : CallFix p m c cX9_read 6 s args GW "RoadThatSings") (hE : EN D cI cJ cS s) (hT : ST ad adK A s s.heap) (hA : ∀ q : Nat, s.heap.size ≤ q → A q) (hr : meth.sig.returnType = (some (.int))) (hlocks : meth.locks = false) : ∀ n : Nat, ∀ (x2 : Int32) (x3 : Int32) (x4 : Int32) (H : Heap) (locs : List Loc) (ls : Array Slot), L_X9_read_55 v_road_cars_carCount f_road_cars_speeds v_road_stretches_stretchCount f_road_stretches_kinds f_road_stretches_others f_road_stretches_spaces v_road_tunes_tuneCount f_road_tunes_noteCounts f_road_tunes_pitches x1 f_refused post n x2 x3 x4 → va_P D vwCl (wX9_read cI cJ cS a_o a_refused a_road a_road_cars a_road_cars_speeds a_road_stretches a_road_stretches_kinds a_road_stretches_others a_road_stretches_spaces a_road_tunes a_road_tunes_noteCounts a_road_tunes_pitches z_kept z_ahead z_shelves z_cutting z_acting z_road_demands z_road_cars_bases z_road_cars_shares z_road_stretches_times z_road_tunes_beats v_imaged v_lastFault f_refused v_road_drawSeed v_road_cars_carCount f_road_cars_speeds v_road_stretches_stretchCount f_road_stretches_kinds f_road_stretches_others f_road_stretches_spaces v_road_tunes_tuneCount f_road_tunes_noteCounts f_road_tunes_pitches) H → va_D A (wX9_read cI cJ cS a_o a_refused a_road a_road_cars a_road_cars_speeds a_road_stretches a_road_stretches_kinds a_road_stretches_others a_road_stretches_spaces a_road_tunes a_road_tunes_noteCounts a_road_tunes_pitches z_kept z_ahead z_shelves z_cutting z_acting z_road_demands z_road_cars_bases z_road_cars_shares z_road_stretches_times z_road_tunes_beats v_imaged v_lastFault f_refused v_road_drawSeed v_road_cars_carCount f_road_cars_speeds v_road_stretches_stretchCount f_road_stretches_kinds f_road_stretches_others f_road_stretches_spaces v_road_tunes_tuneCount f_road_tunes_noteCounts f_road_tunes_pitches) → va_S A s.heap H locs → lv_has ls 6 [(0, .ref a_o), (1, .int x1), (2, .int x2), (3, .int x3), (4, .int x4)] → W p l e (rmd 5 0 0) s m args below meth c H locs 0 0 (MQ below (va_Qi (fun r (u : (Nat → Int32)) => post r u) (fun u t => va_P D vwCl (wX9_read cI cJ cS a_o a_refused a_road a_road_cars a_road_cars_speeds a_road_stretches a_road_stretches_kinds a_road_stretches_others a_road_stretches_spaces a_road_tunes a_road_tunes_noteCounts a_road_tunes_pitches z_kept z_ahead z_shelves z_cutting z_acting z_road_demands z_road_cars_bases z_road_cars_shares z_road_stretches_times z_road_tunes_beats v_imaged v_lastFault u v_road_drawSeed v_road_cars_carCount f_road_cars_speeds v_road_stretches_stretchCount f_road_stretches_kinds f_road_stretches_others f_road_stretches_spaces v_road_tunes_tuneCount f_road_tunes_noteCounts f_road_tunes_pitches) t.heap) A) args s 0 0 A) (F0 m 55 ls []) := by
  intro n
  induction n with
  | zero =>
    intro x2 x3 x4 H locs ls h hP hD hS hl
    exact h.elim
  | succ n ih =>
    intro x2 x3 x4 H locs ls h hP hD hS hl
    rw [L_X9_read_55] at h
    have hx := S.1
    have hb := S.2.1
    refine lv_iload hx hb dX9_read_55 (lv_at hl 4 rfl) ?_
    refine lv_aload_n hx hb dX9_read_57 rfl (lv_at hl 0 rfl) ?_
    refine gf S hE hP 0 rfl rfl inX9 (k := 0) (by decide) q181 rfl dX9_read_58 ?_
    refine gfN S hE hP 2 rfl rfl inX5 (k := 2) (by decide) nfX9_209 rfl dX9_read_61 ?_
    refine ro_i (roV S hE hT hS (c_X8_count h) lkX9_317 rfl ⟨(Nat.le_of_ble_eq_true rfl), (Nat.le_of_ble_eq_true rfl)⟩ (hP.sub [9] rfl) 0 rfl rfl hl.1 rfl (Nat.le_of_ble_eq_true rfl) dX9_read_64 ⟨(Nat.zero_le _), (Nat.zero_le _)⟩) (fun r64 h => ?_)
    refine lv_icmp_ge (tgt := 100) hx hb dX9_read_67 (by decide) (fun hc => ?_) (fun hc => ?_)
    · have h := h.1 hc
      refine lv_iload_n hx hb dX9_read_100 rfl (lv_at hl 2 rfl) ?_
      exact W.iret hx hb hr (fun t ht _ => ⟨⟨_, f_refused, rfl, h, hPt hP ht⟩, hS.F ht⟩) hS.2.2 dX9_read_101
    have h := h.2 hc
    refine lv_aload_n hx hb dX9_read_70 rfl (lv_at hl 0 rfl) ?_
    refine gf S hE hP 0 rfl rfl inX9 (k := 0) (by decide) q181 rfl dX9_read_71 ?_
    refine lv_iload_n hx hb dX9_read_74 rfl (lv_at hl 1 rfl) ?_
    refine lv_iload hx hb dX9_read_75 (lv_at hl 4 rfl) ?_
    refine ro_i (roV S hE hT hS (c_X5_worstOf h) lkX9_278 rfl ⟨(Nat.le_of_ble_eq_true rfl), (Nat.le_of_ble_eq_true rfl)⟩ (hP.sub [2, 3, 4, 5, 6, 7, 8, 9, 10, 11] rfl) 0 rfl rfl hl.1 rfl (Nat.le_of_ble_eq_true rfl) dX9_read_77 ⟨(Nat.zero_le _), (Nat.zero_le _)⟩) (fun r77 h => ?_)
    refine lv_istore (lv' := [(5, .int r77), (0, .ref a_o), (1, .int x1), (2, .int x2), (3, .int x3), (4, .int x4)]) hx hb dX9_read_80 hl (by decide) rfl (fun ls hl => ?_)
    refine lv_iload hx hb dX9_read_82 (lv_at hl 0 rfl) ?_
    refine lv_iload_n hx hb dX9_read_84 rfl (lv_at hl 4 rfl) ?_
    refine lv_icmp_ge (tgt := 94) hx hb dX9_read_85 (by decide) (fun hc => ?_) (fun hc => ?_)
    · have h := h.1 hc
      refine w_X9_read_94 S hE hT hA hr hlocks ih _ _ _ h hP hD hS (lv_sub hl [1, 2, 3, 4, 5] rfl)
    have h := h.2 hc
    refine lv_iload hx hb dX9_read_88 (lv_at hl 0 rfl) ?_
    refine lv_istore_n (lv' := [(3, .int r77), (5, .int r77), (0, .ref a_o), (1, .int x1), (2, .int x2), (4, .int x4)]) hx hb dX9_read_90 rfl hl (by decide) rfl (fun ls hl => ?_)
    refine lv_iload hx hb dX9_read_91 (lv_at hl 5 rfl) ?_
    refine lv_istore_n (lv' := [(2, .int x4), (3, .int r77), (5, .int r77), (0, .ref a_o), (1, .int x1), (4, .int x4)]) hx hb dX9_read_93 rfl hl (by decide) rfl (fun ls hl => ?_)
    refine w_X9_read_94 S hE hT hA hr hlocks ih _ _ _ h hP hD hS (lv_sub hl [3, 4, 0, 1, 5] rfl)
set_option maxHeartbeats 4000000 in
set_option maxRecDepth 100000 in
theorem c_X9_read {l : Launch} {D : va_G} {cI cJ cS : ClassId} {ad adK : Nat → Nat} {a_o a_refused a_road a_road_cars a_road_cars_speeds a_road_stretches a_road_stretches_kinds a_road_stretches_others a_road_stretches_spaces a_road_tunes a_road_tunes_noteCounts a_road_tunes_pitches : Nat} {z_kept z_ahead z_shelves z_cutting z_acting z_road_demands z_road_cars_bases z_road_cars_shares z_road_stretches_times z_road_tunes_beats : Value} {v_imaged : Int32} {v_lastFault : Int32} {f_refused : Nat → Int32} {v_road_drawSeed : Int32} {v_road_cars_carCount : Int32} {f_road_cars_speeds : Nat → Int32} {v_road_stretches_stretchCount : Int32} {f_road_stretches_kinds : Nat → Int32} {f_road_stretches_others : Nat → Int32} {f_road_stretches_spaces : Nat → Int32} {v_road_tunes_tuneCount : Int32} {f_road_tunes_noteCounts : Nat → Int32} {f_road_tunes_pitches : Nat → Int32} {x1 : Int32} {post : Int32 → (Nat → Int32) → Prop} (h : F_X9_read f_refused v_road_cars_carCount f_road_cars_speeds v_road_stretches_stretchCount f_road_stretches_kinds f_road_stretches_others f_road_stretches_spaces v_road_tunes_tuneCount f_road_tunes_noteCounts f_road_tunes_pitches x1 post) {sz : Nat} : Met l yX9_read (Cond.code yX9_read cX9_read 6 (some (.int)) :: GW) (rmd 5 0 0) (PW D cI cJ cS ad adK [.ref a_o, .int x1] (wX9_read cI cJ cS a_o a_refused a_road a_road_cars a_road_cars_speeds a_road_stretches a_road_stretches_kinds a_road_stretches_others a_road_stretches_spaces a_road_tunes a_road_tunes_noteCounts a_road_tunes_pitches z_kept z_ahead z_shelves z_cutting z_acting z_road_demands z_road_cars_bases z_road_cars_shares z_road_stretches_times z_road_tunes_beats v_imaged v_lastFault f_refused v_road_drawSeed v_road_cars_carCount f_road_cars_speeds v_road_stretches_stretchCount f_road_stretches_kinds f_road_stretches_others f_road_stretches_spaces v_road_tunes_tuneCount f_road_tunes_noteCounts f_road_tunes_pitches) sz) (va_Qi (fun r (u : (Nat → Int32)) => post r u) (fun u t => va_P D vwCl (wX9_read cI cJ cS a_o a_refused a_road a_road_cars a_road_cars_speeds a_road_stretches a_road_stretches_kinds a_road_stretches_others a_road_stretches_spaces a_road_tunes a_road_tunes_noteCounts a_road_tunes_pitches z_kept z_ahead z_shelves z_cutting z_acting z_road_demands z_road_cars_bases z_road_cars_shares z_road_stretches_times z_road_tunes_beats v_imaged v_lastFault u v_road_drawSeed v_road_cars_carCount f_road_cars_speeds v_road_stretches_stretchCount f_road_stretches_kinds f_road_stretches_others f_road_stretches_spaces v_road_tunes_tuneCount f_road_tunes_noteCounts f_road_tunes_pitches) t.heap) (va_A (wX9_read cI cJ cS a_o a_refused a_road a_road_cars a_road_cars_speeds a_road_stretches a_road_stretches_kinds a_road_stretches_others a_road_stretches_spaces a_road_tunes a_road_tunes_noteCounts a_road_tunes_pitches z_kept z_ahead z_shelves z_cutting z_acting z_road_demands z_road_cars_bases z_road_cars_shares z_road_stretches_times z_road_tunes_beats v_imaged v_lastFault f_refused v_road_drawSeed v_road_cars_carCount f_road_cars_speeds v_road_stretches_stretchCount f_road_stretches_kinds f_road_stretches_others f_road_stretches_spaces v_road_tunes_tuneCount f_road_tunes_noteCounts f_road_tunes_pitches) sz)) 0 0 (va_A (wX9_read cI cJ cS a_o a_refused a_road a_road_cars a_road_cars_speeds a_road_stretches a_road_stretches_kinds a_road_stretches_others a_road_stretches_spaces a_road_tunes a_road_tunes_noteCounts a_road_tunes_pitches z_kept z_ahead z_shelves z_cutting z_acting z_road_demands z_road_cars_bases z_road_cars_shares z_road_stretches_times z_road_tunes_beats v_imaged v_lastFault f_refused v_road_drawSeed v_road_cars_carCount f_road_cars_speeds v_road_stretches_stretchCount f_road_stretches_kinds f_road_stretches_others f_road_stretches_spaces v_road_tunes_tuneCount f_road_tunes_noteCounts f_road_tunes_pitches) sz) := by
  refine Met.rw (Qc := fun A => (va_Qi (fun r (u : (Nat → Int32)) => post r u) (fun u t => va_P D vwCl (wX9_read cI cJ cS a_o a_refused a_road a_road_cars a_road_cars_speeds a_road_stretches a_road_stretches_kinds a_road_stretches_others a_road_stretches_spaces a_road_tunes a_road_tunes_noteCounts a_road_tunes_pitches z_kept z_ahead z_shelves z_cutting z_acting z_road_demands z_road_cars_bases z_road_cars_shares z_road_stretches_times z_road_tunes_beats v_imaged v_lastFault u v_road_drawSeed v_road_cars_carCount f_road_cars_speeds v_road_stretches_stretchCount f_road_stretches_kinds f_road_stretches_others f_road_stretches_spaces v_road_tunes_tuneCount f_road_tunes_noteCounts f_road_tunes_pitches) t.heap) A)) (by decide) (Nat.le_of_ble_eq_true rfl) (fun p e s m args below meth c ls A (S : CallFix p m c cX9_read 6 s args GW "RoadThatSings") hE hT hP hD hA hS hr hlocks hname hl => ?_)
  have hS0 := hS
  have hx := S.1
  have hb := S.2.1
  have hl : lv_has ls 6 [(0, .ref a_o), (1, .int x1)] := hl
  unfold F_X9_read at h
  refine lv_aload_n hx hb dX9_read_0 rfl (lv_at hl 0 rfl) ?_
  refine gf S hE hP 0 rfl rfl inX9 (k := 0) (by decide) q181 rfl dX9_read_1 ?_
  refine gfN S hE hP 2 rfl rfl inX5 (k := 1) (by decide) nfX9_180 rfl dX9_read_4 ?_
  refine lv_iload_n hx hb dX9_read_7 rfl (lv_at hl 1 rfl) ?_
  refine ro_i (roV S hE hT hS (c_X1_has h) lkX9_193 rfl ⟨(Nat.le_of_ble_eq_true rfl), (Nat.le_of_ble_eq_true rfl)⟩ (hP.sub [3] rfl) 0 rfl rfl hl.1 rfl (Nat.le_of_ble_eq_true rfl) dX9_read_8 ⟨(Nat.zero_le _), (Nat.zero_le _)⟩) (fun r8 h => ?_)
  refine lv_if_ne (tgt := 20) hx hb dX9_read_11 (by decide) (fun hc => ?_) (fun hc => ?_)
  · have h := h.2 hc
    refine lv_aload_n hx hb dX9_read_20 rfl (lv_at hl 0 rfl) ?_
    refine gf S hE hP 0 rfl rfl inX9 (k := 0) (by decide) q181 rfl dX9_read_21 ?_
    refine gfN S hE hP 2 rfl rfl inX5 (k := 2) (by decide) nfX9_209 rfl dX9_read_24 ?_
    refine ro_i (roV S hE hT hS (c_X8_count h) lkX9_317 rfl ⟨(Nat.le_of_ble_eq_true rfl), (Nat.le_of_ble_eq_true rfl)⟩ (hP.sub [9] rfl) 0 rfl rfl hl.1 rfl (Nat.le_of_ble_eq_true rfl) dX9_read_27 ⟨(Nat.zero_le _), (Nat.zero_le _)⟩) (fun r27 h => ?_)
    refine lv_if_ne (tgt := 40) hx hb dX9_read_30 (by decide) (fun hc => ?_) (fun hc => ?_)
    · have h := h.2 hc
      refine lv_iconst (v := 0) hx hb dX9_read_40 (by decide) ?_
      refine lv_istore_n (lv' := [(2, .int 0), (0, .ref a_o), (1, .int x1)]) hx hb dX9_read_41 rfl hl (by decide) rfl (fun ls hl => ?_)
      refine lv_aload_n hx hb dX9_read_42 rfl (lv_at hl 1 rfl) ?_
      refine gf S hE hP 0 rfl rfl inX9 (k := 0) (by decide) q181 rfl dX9_read_43 ?_
      refine lv_iload_n hx hb dX9_read_46 rfl (lv_at hl 2 rfl) ?_
      refine lv_iconst (v := 0) hx hb dX9_read_47 (by decide) ?_
      refine ro_i (roV S hE hT hS (c_X5_worstOf h) lkX9_278 rfl ⟨(Nat.le_of_ble_eq_true rfl), (Nat.le_of_ble_eq_true rfl)⟩ (hP.sub [2, 3, 4, 5, 6, 7, 8, 9, 10, 11] rfl) 0 rfl rfl hl.1 rfl (Nat.le_of_ble_eq_true rfl) dX9_read_48 ⟨(Nat.zero_le _), (Nat.zero_le _)⟩) (fun r48 h => ?_)
      refine lv_istore_n (lv' := [(3, .int r48), (2, .int 0), (0, .ref a_o), (1, .int x1)]) hx hb dX9_read_51 rfl hl (by decide) rfl (fun ls hl => ?_)
      refine lv_iconst (v := 1) hx hb dX9_read_52 (by decide) ?_
      refine lv_istore (lv' := [(4, .int 1), (3, .int r48), (2, .int 0), (0, .ref a_o), (1, .int x1)]) hx hb dX9_read_53 hl (by decide) rfl (fun ls hl => ?_)
      obtain ⟨n, h⟩ := h
      refine w_X9_read_55 S hE hT hA hr hlocks n _ _ _ _ _ _ h hP hD hS (lv_sub hl [3, 4, 2, 1, 0] rfl)
    have h := h.1 hc
    refine lv_aload_n hx hb dX9_read_33 rfl (lv_at hl 0 rfl) ?_
    refine lv_bipush (v := (-5)) hx hb dX9_read_34 (by decide) ?_
    refine rw_i (rwV S hE hT hS hP hD hA (c_X9_refuse h) [0, 1] rfl (by decide +kernel) lkX9_59 rfl ⟨(Nat.le_of_ble_eq_true rfl), (Nat.le_of_ble_eq_true rfl)⟩ 0 rfl rfl hl.1 rfl (Nat.le_of_ble_eq_true rfl) dX9_read_36 ⟨(Nat.zero_le _), (Nat.zero_le _)⟩) hP hD hS hA [0, 1] rfl (by decide +kernel) (fun _ => rfl) (fun r36 w36_0 H locs h hP hD hS => ?_)
    try dsimp only at h
    have hP : va_P D vwCl (wX9_read cI cJ cS a_o a_refused a_road a_road_cars a_road_cars_speeds a_road_stretches a_road_stretches_kinds a_road_stretches_others a_road_stretches_spaces a_road_tunes a_road_tunes_noteCounts a_road_tunes_pitches z_kept z_ahead z_shelves z_cutting z_acting z_road_demands z_road_cars_bases z_road_cars_shares z_road_stretches_times z_road_tunes_beats v_imaged v_lastFault w36_0 v_road_drawSeed v_road_cars_carCount f_road_cars_speeds v_road_stretches_stretchCount f_road_stretches_kinds f_road_stretches_others f_road_stretches_spaces v_road_tunes_tuneCount f_road_tunes_noteCounts f_road_tunes_pitches) H := hP
    have hD : va_D A (wX9_read cI cJ cS a_o a_refused a_road a_road_cars a_road_cars_speeds a_road_stretches a_road_stretches_kinds a_road_stretches_others a_road_stretches_spaces a_road_tunes a_road_tunes_noteCounts a_road_tunes_pitches z_kept z_ahead z_shelves z_cutting z_acting z_road_demands z_road_cars_bases z_road_cars_shares z_road_stretches_times z_road_tunes_beats v_imaged v_lastFault w36_0 v_road_drawSeed v_road_cars_carCount f_road_cars_speeds v_road_stretches_stretchCount f_road_stretches_kinds f_road_stretches_others f_road_stretches_spaces v_road_tunes_tuneCount f_road_tunes_noteCounts f_road_tunes_pitches) := hD
    exact W.iret hx hb hr (fun t ht _ => ⟨⟨_, w36_0, rfl, h, hPt hP ht⟩, hS.F ht⟩) hS.2.2 dX9_read_39
  have h := h.1 hc
  refine lv_aload_n hx hb dX9_read_14 rfl (lv_at hl 0 rfl) ?_
  refine lv_iconst (v := (-1)) hx hb dX9_read_15 (by decide) ?_
  refine rw_i (rwV S hE hT hS hP hD hA (c_X9_refuse h) [0, 1] rfl (by decide +kernel) lkX9_59 rfl ⟨(Nat.le_of_ble_eq_true rfl), (Nat.le_of_ble_eq_true rfl)⟩ 0 rfl rfl hl.1 rfl (Nat.le_of_ble_eq_true rfl) dX9_read_16 ⟨(Nat.zero_le _), (Nat.zero_le _)⟩) hP hD hS hA [0, 1] rfl (by decide +kernel) (fun _ => rfl) (fun r16 w16_0 H locs h hP hD hS => ?_)
  try dsimp only at h
  have hP : va_P D vwCl (wX9_read cI cJ cS a_o a_refused a_road a_road_cars a_road_cars_speeds a_road_stretches a_road_stretches_kinds a_road_stretches_others a_road_stretches_spaces a_road_tunes a_road_tunes_noteCounts a_road_tunes_pitches z_kept z_ahead z_shelves z_cutting z_acting z_road_demands z_road_cars_bases z_road_cars_shares z_road_stretches_times z_road_tunes_beats v_imaged v_lastFault w16_0 v_road_drawSeed v_road_cars_carCount f_road_cars_speeds v_road_stretches_stretchCount f_road_stretches_kinds f_road_stretches_others f_road_stretches_spaces v_road_tunes_tuneCount f_road_tunes_noteCounts f_road_tunes_pitches) H := hP
  have hD : va_D A (wX9_read cI cJ cS a_o a_refused a_road a_road_cars a_road_cars_speeds a_road_stretches a_road_stretches_kinds a_road_stretches_others a_road_stretches_spaces a_road_tunes a_road_tunes_noteCounts a_road_tunes_pitches z_kept z_ahead z_shelves z_cutting z_acting z_road_demands z_road_cars_bases z_road_cars_shares z_road_stretches_times z_road_tunes_beats v_imaged v_lastFault w16_0 v_road_drawSeed v_road_cars_carCount f_road_cars_speeds v_road_stretches_stretchCount f_road_stretches_kinds f_road_stretches_others f_road_stretches_spaces v_road_tunes_tuneCount f_road_tunes_noteCounts f_road_tunes_pitches) := hD
  exact W.iret hx hb hr (fun t ht _ => ⟨⟨_, w16_0, rfl, h, hPt hP ht⟩, hS.F ht⟩) hS.2.2 dX9_read_19
