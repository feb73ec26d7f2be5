/-! X2_chooseSpaces -/
abbrev wX2_chooseSpaces (cI cJ cS : ClassId) (a_o a_offs a_p1 a_p1_demands a_p1_tunes a_p1_tunes_noteCounts a_p1_tunes_pitches a_spaces : Nat) (z_times z_p1_stretches z_p1_cars z_p1_tunes_beats : Value) (v_noteCount : Int32) (f_offs : Nat → Int32) (v_p1_drawSeed : Int32) (f_p1_demands : Nat → Int32) (v_p1_tunes_tuneCount : Int32) (f_p1_tunes_noteCounts : Nat → Int32) (f_p1_tunes_pitches : Nat → Int32) (f_spaces : Nat → Int32) : va_W := [(a_o, .inr (2, [.ref a_spaces, .ref a_offs, z_times, .int v_noteCount])), (a_offs, .inl (cI, 12, .inl f_offs)), (a_p1, .inr (4, [z_p1_stretches, z_p1_cars, .ref a_p1_tunes, .ref a_p1_demands, .int v_p1_drawSeed])), (a_p1_demands, .inl (cI, 4, .inl f_p1_demands)), (a_p1_tunes, .inr (7, [.ref a_p1_tunes_pitches, z_p1_tunes_beats, .ref a_p1_tunes_noteCounts, .int v_p1_tunes_tuneCount])), (a_p1_tunes_noteCounts, .inl (cI, 6, .inl f_p1_tunes_noteCounts)), (a_p1_tunes_pitches, .inl (cI, 72, .inl f_p1_tunes_pitches)), (a_spaces, .inl (cI, 12, .inl f_spaces))]
def F_X2_chooseSpaces_99 (k20 : Int32 → (Nat → Int32) → (Nat → Int32) → Prop) (x2 : Int32) (x3 : Int32) (x4 : Int32) (v_noteCount : Int32) (f_offs : Nat → Int32) (f_spaces : Nat → Int32) (s0 : Int32) (s1 : Int32) : Prop := (vp_in s1 12 ∧ (∀ x4_100 : Int32, x4_100 = x4 + 1 → k20 x4_100 (upd f_offs s1.toNatClampNeg s0) f_spaces))
def F_X2_chooseSpaces_62 (k20 : Int32 → (Nat → Int32) → (Nat → Int32) → Prop) (x2 : Int32) (x3 : Int32) (x4 : Int32) (x5 : Int32) (v_noteCount : Int32) (f_offs : Nat → Int32) (f_spaces : Nat → Int32) (s0 : Int32) : Prop := (vp_in x4 12 ∧ ((x5 = 0 → F_X2_chooseSpaces_99 k20 x2 x3 x4 v_noteCount f_offs (upd f_spaces x4.toNatClampNeg s0) 0 x4) ∧ (¬ x5 = 0 → (F_X9_humBy s0 x3 (fun r91 => (F_X9_offBetween r91 x5 (fun r96 => F_X2_chooseSpaces_99 k20 x2 x3 x4 v_noteCount f_offs (upd f_spaces x4.toNatClampNeg s0) r96 x4)))))))
def L_X2_chooseSpaces_20 (f_p1_demands : Nat → Int32) (v_p1_tunes_tuneCount : Int32) (f_p1_tunes_noteCounts : Nat → Int32) (f_p1_tunes_pitches : Nat → Int32) (x2 : Int32) (x3 : Int32) (v_noteCount : Int32) (post : Int32 → (Nat → Int32) → (Nat → Int32) → Prop) : Nat → Int32 → (Nat → Int32) → (Nat → Int32) → Prop
  | 0, _, _, _ => False
  | n20 + 1, x4, f_offs, f_spaces => ((v_noteCount ≤ x4 → post v_noteCount f_offs f_spaces) ∧ (¬ v_noteCount ≤ x4 → (F_X8_pitchOf v_p1_tunes_tuneCount f_p1_tunes_noteCounts f_p1_tunes_pitches x2 x4 (fun r36 => ((r36 = 0 → F_X2_chooseSpaces_62 (fun x4 f_offs f_spaces => L_X2_chooseSpaces_20 f_p1_demands v_p1_tunes_tuneCount f_p1_tunes_noteCounts f_p1_tunes_pitches x2 x3 v_noteCount post n20 x4 f_offs f_spaces) x2 x3 x4 r36 v_noteCount f_offs f_spaces 10) ∧ (¬ r36 = 0 → (F_X5_asked f_p1_demands 1 (fun r55 => (F_X2_spaceFor r36 r55 x3 (fun r59 => F_X2_chooseSpaces_62 (fun x4 f_offs f_spaces => L_X2_chooseSpaces_20 f_p1_demands v_p1_tunes_tuneCount f_p1_tunes_noteCounts f_p1_tunes_pitches x2 x3 v_noteCount post n20 x4 f_offs f_spaces) x2 x3 x4 r36 v_noteCount f_offs f_spaces r59))))))))))
def F_X2_chooseSpaces (v_noteCount : Int32) (f_offs : Nat → Int32) (f_p1_demands : Nat → Int32) (v_p1_tunes_tuneCount : Int32) (f_p1_tunes_noteCounts : Nat → Int32) (f_p1_tunes_pitches : Nat → Int32) (f_spaces : Nat → Int32) (x2 : Int32) (x3 : Int32) (post : Int32 → (Nat → Int32) → (Nat → Int32) → Prop) : Prop := (F_X8_notesOf v_p1_tunes_tuneCount f_p1_tunes_noteCounts x2 (fun r8 => (∃ n20 : Nat, L_X2_chooseSpaces_20 f_p1_demands v_p1_tunes_tuneCount f_p1_tunes_noteCounts f_p1_tunes_pitches x2 x3 (if r8 < 12 then r8 else 12) post n20 0 f_offs f_spaces)))
set_option maxHeartbeats 4000000 in
set_option maxRecDepth 100000 in
theorem w_X2_chooseSpaces_99 {l : Launch} {D : va_G} {cI cJ cS : ClassId} {ad adK : Nat → Nat} {a_o a_offs a_p1 a_p1_demands a_p1_tunes a_p1_tunes_noteCounts a_p1_tunes_pitches a_spaces : Nat} {z_times z_p1_stretches z_p1_cars z_p1_tunes_beats : Value} {v_noteCount : Int32} {f_offs : Nat → Int32} {v_p1_drawSeed : Int32} {f_p1_demands : Nat → Int32} {v_p1_tunes_tuneCount : Int32} {f_p1_tunes_noteCounts : Nat → Int32} {f_p1_tunes_pitches : Nat → Int32} {f_spaces : Nat → Int32} {x2 : Int32} {x3 : Int32} {x4 : Int32} {s0 : Int32} {s1 : Int32} {post : Int32 → (Nat → Int32) → (Nat → Int32) → Prop} {k20 : Int32 → (Nat → Int32) → (Nat → Int32) → Prop} {p : Program} {e : Env} {s : State} {m : MethodId} {args : Array Value} {below : List Frame} {meth : Method} {c : Code} {A : Nat → Prop} (S : CallFix p m c cX2_chooseSpaces 7 s args GW "RoadThatSings$Cutting") (hE : EN D cI cJ cS s) (hT : ST ad adK A s s.heap) (hA : ∀ q : Nat, s.heap.size ≤ q → A q) (hr : meth.sig.returnType = none) (hlocks : meth.locks = false) (hk20 : ∀ (x4 : Int32) (f_offs : Nat → Int32) (f_spaces : Nat → Int32) (H : Heap) (locs : List Loc) (ls : Array Slot), k20 x4 f_offs f_spaces → va_P D vwCl (wX2_chooseSpaces cI cJ cS a_o a_offs a_p1 a_p1_demands a_p1_tunes a_p1_tunes_noteCounts a_p1_tunes_pitches a_spaces z_times z_p1_stretches z_p1_cars z_p1_tunes_beats v_noteCount f_offs v_p1_drawSeed f_p1_demands v_p1_tunes_tuneCount f_p1_tunes_noteCounts f_p1_tunes_pitches f_spaces) H → va_D A (wX2_chooseSpaces cI cJ cS a_o a_offs a_p1 a_p1_demands a_p1_tunes a_p1_tunes_noteCounts a_p1_tunes_pitches a_spaces z_times z_p1_stretches z_p1_cars z_p1_tunes_beats v_noteCount f_offs v_p1_drawSeed f_p1_demands v_p1_tunes_tuneCount f_p1_tunes_noteCounts f_p1_tunes_pitches f_spaces) → va_S A s.heap H locs → lv_has ls 7 [(0, .ref a_o), (1, .ref a_p1), (2, .int x2), (3, .int x3), (4, .int x4)] → W p l e (rmd 3 0 0) s m args below meth c H locs 0 0 (MQ below (va_Qv (fun u : Int32 × (Nat → Int32) × (Nat → Int32) => post u.1 u.2.1 u.2.2) (fun u t => va_P D vwCl (wX2_chooseSpaces cI cJ cS a_o a_offs a_p1 a_p1_demands a_p1_tunes a_p1_tunes_noteCounts a_p1_tunes_pitches a_spaces z_times z_p1_stretches z_p1_cars z_p1_tunes_beats u.1 u.2.1 v_p1_drawSeed f_p1_demands v_p1_tunes_tuneCount f_p1_tunes_noteCounts f_p1_tunes_pitches u.2.2) t.heap) A) args s 0 0 A) (F0 m 20 ls [])) : ∀ (H : Heap) (locs : List Loc) (ls : Array Slot), F_X2_chooseSpaces_99 k20 x2 x3 x4 v_noteCount f_offs f_spaces s0 s1 → va_P D vwCl (wX2_chooseSpaces cI cJ cS a_o a_offs a_p1 a_p1_demands a_p1_tunes a_p1_tunes_noteCounts a_p1_tunes_pitches a_spaces z_times z_p1_stretches z_p1_cars z_p1_tunes_beats v_noteCount f_offs v_p1_drawSeed f_p1_demands v_p1_tunes_tuneCount f_p1_tunes_noteCounts f_p1_tunes_pitches f_spaces) H → va_D A (wX2_chooseSpaces cI cJ cS a_o a_offs a_p1 a_p1_demands a_p1_tunes a_p1_tunes_noteCounts a_p1_tunes_pitches a_spaces z_times z_p1_stretches z_p1_cars z_p1_tunes_beats v_noteCount f_offs v_p1_drawSeed f_p1_demands v_p1_tunes_tuneCount f_p1_tunes_noteCounts f_p1_tunes_pitches f_spaces) → va_S A s.heap H locs → lv_has ls 7 [(0, .ref a_o), (1, .ref a_p1), (2, .int x2), (3, .int x3), (4, .int x4)] → W p l e (rmd 3 0 0) s m args below meth c H locs 0 0 (MQ below (va_Qv (fun u : Int32 × (Nat → Int32) × (Nat → Int32) => post u.1 u.2.1 u.2.2) (fun u t => va_P D vwCl (wX2_chooseSpaces cI cJ cS a_o a_offs a_p1 a_p1_demands a_p1_tunes a_p1_tunes_noteCounts a_p1_tunes_pitches a_spaces z_times z_p1_stretches z_p1_cars z_p1_tunes_beats u.1 u.2.1 v_p1_drawSeed f_p1_demands v_p1_tunes_tuneCount f_p1_tunes_noteCounts f_p1_tunes_pitches u.2.2) t.heap) A) args s 0 0 A) (F0 m 99 ls [.int s0, .int s1, .ref a_offs]) := by
  intro  H locs ls h hP hD hS hl
  unfold F_X2_chooseSpaces_99 at h
  have hx := S.1
  have hb := S.2.1
  obtain ⟨hi, h⟩ := h
  refine ias S hE hP hD hS 1 rfl hi dX2_chooseSpaces_99 (fun H locs hP hD hS => ?_)
  have hP : va_P D vwCl (wX2_chooseSpaces cI cJ cS a_o a_offs a_p1 a_p1_demands a_p1_tunes a_p1_tunes_noteCounts a_p1_tunes_pitches a_spaces z_times z_p1_stretches z_p1_cars z_p1_tunes_beats v_noteCount (upd f_offs s1.toNatClampNeg s0) v_p1_drawSeed f_p1_demands v_p1_tunes_tuneCount f_p1_tunes_noteCounts f_p1_tunes_pitches f_spaces) H := hP
  have hD : va_D A (wX2_chooseSpaces cI cJ cS a_o a_offs a_p1 a_p1_demands a_p1_tunes a_p1_tunes_noteCounts a_p1_tunes_pitches a_spaces z_times z_p1_stretches z_p1_cars z_p1_tunes_beats v_noteCount (upd f_offs s1.toNatClampNeg s0) v_p1_drawSeed f_p1_demands v_p1_tunes_tuneCount f_p1_tunes_noteCounts f_p1_tunes_pitches f_spaces) := hD
  obtain ⟨x4_100, ex4_100⟩ : ∃ z : Int32, z = x4 + 1 := ⟨_, rfl⟩
  have h := h _ ex4_100
  refine lv_iinc (v := x4_100) (lv' := [(4, .int x4_100), (0, .ref a_o), (1, .ref a_p1), (2, .int x2), (3, .int x3)]) hx hb dX2_chooseSpaces_100 hl (k := 4) rfl (by rw [ex4_100]; rfl) (by decide) rfl (fun ls hl => ?_)
  refine lv_goto (tgt := 20) hx hb dX2_chooseSpaces_103 (by decide) ?_
  exact hk20 _ _ _ _ _ _ h hP hD hS (lv_sub hl [1, 2, 3, 4, 0] rfl)
set_option maxHeartbeats 4000000 in
set_option maxRecDepth 100000 in
theorem w_X2_chooseSpaces_62 {l : Launch} {D : va_G} {cI cJ cS : ClassId} {ad adK : Nat → Nat} {a_o a_offs a_p1 a_p1_demands a_p1_tunes a_p1_tunes_noteCounts a_p1_tunes_pitches a_spaces : Nat} {z_times z_p1_stretches z_p1_cars z_p1_tunes_beats : Value} {v_noteCount : Int32} {f_offs : Nat → Int32} {v_p1_drawSeed : Int32} {f_p1_demands : Nat → Int32} {v_p1_tunes_tuneCount : Int32} {f_p1_tunes_noteCounts : Nat → Int32} {f_p1_tunes_pitches : Nat → Int32} {f_spaces : Nat → Int32} {x2 : Int32} {x3 : Int32} {x4 : Int32} {x5 : Int32} {s0 : Int32} {post : Int32 → (Nat → Int32) → (Nat → Int32) → Prop} {k20 : Int32 → (Nat → Int32) → (Nat → Int32) → Prop} {p : Program} {e : Env} {s : State} {m : MethodId} {args : Array Value} {below : List Frame} {meth : Method} {c : Code} {A : Nat → Prop} (S : CallFix p m c cX2_chooseSpaces 7 s args GW "RoadThatSings$Cutting") (hE : EN D cI cJ cS s) (hT : ST ad adK A s s.heap) (hA : ∀ q : Nat, s.heap.size ≤ q → A q) (hr : meth.sig.returnType = none) (hlocks : meth.locks = false) (hk20 : ∀ (x4 : Int32) (f_offs : Nat → Int32) (f_spaces : Nat → Int32) (H : Heap) (locs : List Loc) (ls : Array Slot), k20 x4 f_offs f_spaces → va_P D vwCl (wX2_chooseSpaces cI cJ cS a_o a_offs a_p1 a_p1_demands a_p1_tunes a_p1_tunes_noteCounts a_p1_tunes_pitches a_spaces z_times z_p1_stretches z_p1_cars z_p1_tunes_beats v_noteCount f_offs v_p1_drawSeed f_p1_demands v_p1_tunes_tuneCount f_p1_tunes_noteCounts f_p1_tunes_pitches f_spaces) H → va_D A (wX2_chooseSpaces cI cJ cS a_o a_offs a_p1 a_p1_demands a_p1_tunes a_p1_tunes_noteCounts a_p1_tunes_pitches a_spaces z_times z_p1_stretches z_p1_cars z_p1_tunes_beats v_noteCount f_offs v_p1_drawSeed f_p1_demands v_p1_tunes_tuneCount f_p1_tunes_noteCounts f_p1_tunes_pitches f_spaces) → va_S A s.heap H locs → lv_has ls 7 [(0, .ref a_o), (1, .ref a_p1), (2, .int x2), (3, .int x3), (4, .int x4)] → W p l e (rmd 3 0 0) s m args below meth c H locs 0 0 (MQ below (va_Qv (fun u : Int32 × (Nat → Int32) × (Nat → Int32) => post u.1 u.2.1 u.2.2) (fun u t => va_P D vwCl (wX2_chooseSpaces cI cJ cS a_o a_offs a_p1 a_p1_demands a_p1_tunes a_p1_tunes_noteCounts a_p1_tunes_pitches a_spaces z_times z_p1_stretches z_p1_cars z_p1_tunes_beats u.1 u.2.1 v_p1_drawSeed f_p1_demands v_p1_tunes_tuneCount f_p1_tunes_noteCounts f_p1_tunes_pitches u.2.2) t.heap) A) args s 0 0 A) (F0 m 20 ls [])) : ∀ (H : Heap) (locs : List Loc) (ls : Array Slot), F_X2_chooseSpaces_62 k20 x2 x3 x4 x5 v_noteCount f_offs f_spaces s0 → va_P D vwCl (wX2_chooseSpaces cI cJ cS a_o a_offs a_p1 a_p1_demands a_p1_tunes a_p1_tunes_noteCounts a_p1_tunes_pitches a_spaces z_times z_p1_stretches z_p1_cars z_p1_tunes_beats v_noteCount f_offs v_p1_drawSeed f_p1_demands v_p1_tunes_tuneCount f_p1_tunes_noteCounts f_p1_tunes_pitches f_spaces) H → va_D A (wX2_chooseSpaces cI cJ cS a_o a_offs a_p1 a_p1_demands a_p1_tunes a_p1_tunes_noteCounts a_p1_tunes_pitches a_spaces z_times z_p1_stretches z_p1_cars z_p1_tunes_beats v_noteCount f_offs v_p1_drawSeed f_p1_demands v_p1_tunes_tuneCount f_p1_tunes_noteCounts f_p1_tunes_pitches f_spaces) → va_S A s.heap H locs → lv_has ls 7 [(0, .ref a_o), (1, .ref a_p1), (2, .int x2), (3, .int x3), (4, .int x4), (5, .int x5)] → W p l e (rmd 3 0 0) s m args below meth c H locs 0 0 (MQ below (va_Qv (fun u : Int32 × (Nat → Int32) × (Nat → Int32) => post u.1 u.2.1 u.2.2) (fun u t => va_P D vwCl (wX2_chooseSpaces cI cJ cS a_o a_offs a_p1 a_p1_demands a_p1_tunes a_p1_tunes_noteCounts a_p1_tunes_pitches a_spaces z_times z_p1_stretches z_p1_cars z_p1_tunes_beats u.1 u.2.1 v_p1_drawSeed f_p1_demands v_p1_tunes_tuneCount f_p1_tunes_noteCounts f_p1_tunes_pitches u.2.2) t.heap) A) args s 0 0 A) (F0 m 62 ls [.int s0]) := by
  intro  H locs ls h hP hD hS hl
  unfold F_X2_chooseSpaces_62 at h
  have hx := S.1
  have hb := S.2.1
  refine lv_istore (lv' := [(6, .int s0), (0, .ref a_o), (1, .ref a_p1), (2, .int x2), (3, .int x3), (4, .int x4), (5, .int x5)]) hx hb dX2_chooseSpaces_62 hl (by decide) rfl (fun ls hl => ?_)
  refine lv_aload_n hx hb dX2_chooseSpaces_64 rfl (lv_at hl 1 rfl) ?_
  refine gf S hE hP 0 rfl rfl inX2 (k := 0) (by decide) q124 rfl dX2_chooseSpaces_65 ?_
  refine lv_iload hx hb dX2_chooseSpaces_68 (lv_at hl 5 rfl) ?_
  refine lv_iload hx hb dX2_chooseSpaces_70 (lv_at hl 0 rfl) ?_
  obtain ⟨hi, h⟩ := h
  refine ias S hE hP hD hS 7 rfl hi dX2_chooseSpaces_72 (fun H locs hP hD hS => ?_)
  have hP : va_P D vwCl (wX2_chooseSpaces cI cJ cS a_o a_offs a_p1 a_p1_demands a_p1_tunes a_p1_tunes_noteCounts a_p1_tunes_pitches a_spaces z_times z_p1_stretches z_p1_cars z_p1_tunes_beats v_noteCount f_offs v_p1_drawSeed f_p1_demands v_p1_tunes_tuneCount f_p1_tunes_noteCounts f_p1_tunes_pitches (upd f_spaces x4.toNatClampNeg s0)) H := hP
  have hD : va_D A (wX2_chooseSpaces cI cJ cS a_o a_offs a_p1 a_p1_demands a_p1_tunes a_p1_tunes_noteCounts a_p1_tunes_pitches a_spaces z_times z_p1_stretches z_p1_cars z_p1_tunes_beats v_noteCount f_offs v_p1_drawSeed f_p1_demands v_p1_tunes_tuneCount f_p1_tunes_noteCounts f_p1_tunes_pitches (upd f_spaces x4.toNatClampNeg s0)) := hD
  refine lv_aload_n hx hb dX2_chooseSpaces_73 rfl (lv_at hl 1 rfl) ?_
  refine gf S hE hP 0 rfl rfl inX2 (k := 1) (by decide) q125 rfl dX2_chooseSpaces_74 ?_
  refine lv_iload hx hb dX2_chooseSpaces_77 (lv_at hl 5 rfl) ?_
  refine lv_iload hx hb dX2_chooseSpaces_79 (lv_at hl 6 rfl) ?_
  refine lv_if_ne (tgt := 88) hx hb dX2_chooseSpaces_81 (by decide) (fun hc => ?_) (fun hc => ?_)
  · have h := h.2 hc
    refine lv_iload hx hb dX2_chooseSpaces_88 (lv_at hl 0 rfl) ?_
    refine lv_iload_n hx hb dX2_chooseSpaces_90 rfl (lv_at hl 4 rfl) ?_
    refine ro_i (roSN S hE hT hS (c_X9_humBy h) lkX2_64 rfl ⟨(Nat.le_of_ble_eq_true rfl), (Nat.le_of_ble_eq_true rfl)⟩ (hP.sub [] rfl) hl.1 rfl (Nat.le_of_ble_eq_true rfl) dX2_chooseSpaces_91 ⟨(Nat.zero_le _), (Nat.zero_le _)⟩) (fun r91 h => ?_)
    refine lv_iload hx hb dX2_chooseSpaces_94 (lv_at hl 6 rfl) ?_
    refine ro_i (roSN S hE hT hS (c_X9_offBetween h) lkX2_67 rfl ⟨(Nat.le_of_ble_eq_true rfl), (Nat.le_of_ble_eq_true rfl)⟩ (hP.sub [] rfl) hl.1 rfl (Nat.le_of_ble_eq_true rfl) dX2_chooseSpaces_96 ⟨(Nat.zero_le _), (Nat.zero_le _)⟩) (fun r96 h => ?_)
    refine w_X2_chooseSpaces_99 S hE hT hA hr hlocks hk20 _ _ _ h hP hD hS (lv_sub hl [1, 2, 3, 4, 5] rfl)
  have h := h.1 hc
  refine lv_iconst (v := 0) hx hb dX2_chooseSpaces_84 (by decide) ?_
  refine lv_goto (tgt := 99) hx hb dX2_chooseSpaces_85 (by decide) ?_
  refine w_X2_chooseSpaces_99 S hE hT hA hr hlocks hk20 _ _ _ h hP hD hS (lv_sub hl [1, 2, 3, 4, 5] rfl)
set_option maxHeartbeats 4000000 in
set_option maxRecDepth 100000 in
theorem w_X2_chooseSpaces_20 {l : Launch} {D : va_G} {cI cJ cS : ClassId} {ad adK : Nat → Nat} {a_o a_offs a_p1 a_p1_demands a_p1_tunes a_p1_tunes_noteCounts a_p1_tunes_pitches a_spaces : Nat} {z_times z_p1_stretches z_p1_cars z_p1_tunes_beats : Value} {v_noteCount : Int32} {v_p1_drawSeed : Int32} {f_p1_demands : Nat → Int32} {v_p1_tunes_tuneCount : Int32} {f_p1_tunes_noteCounts : Nat → Int32} {f_p1_tunes_pitches : Nat → Int32} {x2 : Int32} {x3 : Int32} {post : Int32 → (Nat → Int32) → (Nat → Int32) → Prop} {p : Program} {e : Env} {s : State} {m : MethodId} {args : Array Value} {below : List Frame} {meth : Method} {c : Code} {A : Nat → Prop} (S : CallFix p m c cX2_chooseSpaces 7 s args GW "RoadThatSings$Cutting") (hE : EN D cI cJ cS s) (hT : ST ad adK A s s.heap) (hA : ∀ q : Nat, s.heap.size ≤ q → A q) (hr : meth.sig.returnType = none) (hlocks : meth.locks = false) : ∀ n : Nat, ∀ (x4 : Int32) (f_offs : Nat → Int32) (f_spaces : Nat → Int32) (H : Heap) (locs : List Loc) (ls : Array Slot), L_X2_chooseSpaces_20 f_p1_demands v_p1_tunes_tuneCount f_p1_tunes_noteCounts f_p1_tunes_pitches x2 x3 v_noteCount post n x4 f_offs f_spaces → va_P D vwCl (wX2_chooseSpaces cI cJ cS a_o a_offs a_p1 a_p1_demands a_p1_tunes a_p1_tunes_noteCounts a_p1_tunes_pitches a_spaces z_times z_p1_stretches z_p1_cars z_p1_tunes_beats v_noteCount f_offs v_p1_drawSeed f_p1_demands v_p1_tunes_tuneCount f_p1_tunes_noteCounts f_p1_tunes_pitches f_spaces) H → va_D A (wX2_chooseSpaces cI cJ cS a_o a_offs a_p1 a_p1_demands a_p1_tunes a_p1_tunes_noteCounts a_p1_tunes_pitches a_spaces z_times z_p1_stretches z_p1_cars z_p1_tunes_beats v_noteCount f_offs v_p1_drawSeed f_p1_demands v_p1_tunes_tuneCount f_p1_tunes_noteCounts f_p1_tunes_pitches f_spaces) → va_S A s.heap H locs → lv_has ls 7 [(0, .ref a_o), (1, .ref a_p1), (2, .int x2), (3, .int x3), (4, .int x4)] → W p l e (rmd 3 0 0) s m args below meth c H locs 0 0 (MQ below (va_Qv (fun u : Int32 × (Nat → Int32) × (Nat → Int32) => post u.1 u.2.1 u.2.2) (fun u t => va_P D vwCl (wX2_chooseSpaces cI cJ cS a_o a_offs a_p1 a_p1_demands a_p1_tunes a_p1_tunes_noteCounts a_p1_tunes_pitches a_spaces z_times z_p1_stretches z_p1_cars z_p1_tunes_beats u.1 u.2.1 v_p1_drawSeed f_p1_demands v_p1_tunes_tuneCount f_p1_tunes_noteCounts f_p1_tunes_pitches u.2.2) t.heap) A) args s 0 0 A) (F0 m 20 ls []) := by
  intro n
  induction n with
  | zero =>
    intro x4 f_offs f_spaces H locs ls h hP hD hS hl
    exact h.elim
  | succ n ih =>
    intro x4 f_offs f_spaces H locs ls h hP hD hS hl
    rw [L_X2_chooseSpaces_20] at h
    have hx := S.1
    have hb := S.2.1
    refine lv_iload hx hb dX2_chooseSpaces_20 (lv_at hl 4 rfl) ?_
    refine lv_aload_n hx hb dX2_chooseSpaces_22 rfl (lv_at hl 0 rfl) ?_
    refine gf S hE hP 0 rfl rfl inX2 (k := 3) (by decide) q127 rfl dX2_chooseSpaces_23 ?_
    refine lv_icmp_ge (tgt := 106) hx hb dX2_chooseSpaces_26 (by decide) (fun hc => ?_) (fun hc => ?_)
    · have h := h.1 hc
      exact W.vret hx hb hr (fun t ht _ => ⟨⟨(v_noteCount, f_offs, f_spaces), rfl, h, hPt hP ht⟩, hS.F ht⟩) hS.2.2 dX2_chooseSpaces_106
    have h := h.2 hc
    refine lv_aload_n hx hb dX2_chooseSpaces_29 rfl (lv_at hl 1 rfl) ?_
    refine gfN S hE hP 2 rfl rfl inX5 (k := 2) (by decide) nfX2_36 rfl dX2_chooseSpaces_30 ?_
    refine lv_iload_n hx hb dX2_chooseSpaces_33 rfl (lv_at hl 2 rfl) ?_
    refine lv_iload hx hb dX2_chooseSpaces_34 (lv_at hl 4 rfl) ?_
    refine ro_i (roV S hE hT hS (c_X8_pitchOf h) lkX2_54 rfl ⟨(Nat.le_of_ble_eq_true rfl), (Nat.le_of_ble_eq_true rfl)⟩ (hP.sub [4, 5, 6] rfl) 0 rfl rfl hl.1 rfl (Nat.le_of_ble_eq_true rfl) dX2_chooseSpaces_36 ⟨(Nat.zero_le _), (Nat.zero_le _)⟩) (fun r36 h => ?_)
    refine lv_istore (lv' := [(5, .int r36), (0, .ref a_o), (1, .ref a_p1), (2, .int x2), (3, .int x3), (4, .int x4)]) hx hb dX2_chooseSpaces_39 hl (by decide) rfl (fun ls hl => ?_)
    refine lv_iload hx hb dX2_chooseSpaces_41 (lv_at hl 0 rfl) ?_
    refine lv_if_ne (tgt := 51) hx hb dX2_chooseSpaces_43 (by decide) (fun hc => ?_) (fun hc => ?_)
    · have h := h.2 hc
      refine lv_iload hx hb dX2_chooseSpaces_51 (lv_at hl 0 rfl) ?_
      refine lv_aload_n hx hb dX2_chooseSpaces_53 rfl (lv_at hl 2 rfl) ?_
      refine lv_iconst (v := 1) hx hb dX2_chooseSpaces_54 (by decide) ?_
      refine ro_i (roV S hE hT hS (c_X5_asked h) lkX2_57 rfl ⟨(Nat.le_of_ble_eq_true rfl), (Nat.le_of_ble_eq_true rfl)⟩ (hP.sub [2, 3] rfl) 0 rfl rfl hl.1 rfl (Nat.le_of_ble_eq_true rfl) dX2_chooseSpaces_55 ⟨(Nat.zero_le _), (Nat.zero_le _)⟩) (fun r55 h => ?_)
      refine lv_iload_n hx hb dX2_chooseSpaces_58 rfl (lv_at hl 4 rfl) ?_
      refine ro_i (roS S hE hT hS (c_X2_spaceFor h) lkX2_60 rfl ⟨(Nat.le_of_ble_eq_true rfl), (Nat.le_of_ble_eq_true rfl)⟩ (hP.sub [] rfl) hl.1 rfl (Nat.le_of_ble_eq_true rfl) dX2_chooseSpaces_59 ⟨(Nat.zero_le _), (Nat.zero_le _)⟩) (fun r59 h => ?_)
      refine w_X2_chooseSpaces_62 S hE hT hA hr hlocks ih _ _ _ h hP hD hS (lv_sub hl [1, 2, 3, 4, 5, 0] rfl)
    have h := h.1 hc
    refine lv_bipush (v := 10) hx hb dX2_chooseSpaces_46 (by decide) ?_
    refine lv_goto (tgt := 62) hx hb dX2_chooseSpaces_48 (by decide) ?_
    refine w_X2_chooseSpaces_62 S hE hT hA hr hlocks ih _ _ _ h hP hD hS (lv_sub hl [1, 2, 3, 4, 5, 0] rfl)
set_option maxHeartbeats 4000000 in
set_option maxRecDepth 100000 in
theorem c_X2_chooseSpaces {l : Launch} {D : va_G} {cI cJ cS : ClassId} {ad adK : Nat → Nat} {a_o a_offs a_p1 a_p1_demands a_p1_tunes a_p1_tunes_noteCounts a_p1_tunes_pitches a_spaces : Nat} {z_times z_p1_stretches z_p1_cars z_p1_tunes_beats : Value} {v_noteCount : Int32} {f_offs : Nat → Int32} {v_p1_drawSeed : Int32} {f_p1_demands : Nat → Int32} {v_p1_tunes_tuneCount : Int32} {f_p1_tunes_noteCounts : Nat → Int32} {f_p1_tunes_pitches : Nat → Int32} {f_spaces : Nat → Int32} {x2 : Int32} {x3 : Int32} {post : Int32 → (Nat → Int32) → (Nat → Int32) → Prop} (h : F_X2_chooseSpaces v_noteCount f_offs f_p1_demands v_p1_tunes_tuneCount f_p1_tunes_noteCounts f_p1_tunes_pitches f_spaces x2 x3 post) {sz : Nat} : Met l yX2_chooseSpaces (Cond.code yX2_chooseSpaces cX2_chooseSpaces 7 none :: GW) (rmd 3 0 0) (PW D cI cJ cS ad adK [.ref a_o, .ref a_p1, .int x2, .int x3] (wX2_chooseSpaces cI cJ cS a_o a_offs a_p1 a_p1_demands a_p1_tunes a_p1_tunes_noteCounts a_p1_tunes_pitches a_spaces z_times z_p1_stretches z_p1_cars z_p1_tunes_beats v_noteCount f_offs v_p1_drawSeed f_p1_demands v_p1_tunes_tuneCount f_p1_tunes_noteCounts f_p1_tunes_pitches f_spaces) sz) (va_Qv (fun u : Int32 × (Nat → Int32) × (Nat → Int32) => post u.1 u.2.1 u.2.2) (fun u t => va_P D vwCl (wX2_chooseSpaces cI cJ cS a_o a_offs a_p1 a_p1_demands a_p1_tunes a_p1_tunes_noteCounts a_p1_tunes_pitches a_spaces z_times z_p1_stretches z_p1_cars z_p1_tunes_beats u.1 u.2.1 v_p1_drawSeed f_p1_demands v_p1_tunes_tuneCount f_p1_tunes_noteCounts f_p1_tunes_pitches u.2.2) t.heap) (va_A (wX2_chooseSpaces cI cJ cS a_o a_offs a_p1 a_p1_demands a_p1_tunes a_p1_tunes_noteCounts a_p1_tunes_pitches a_spaces z_times z_p1_stretches z_p1_cars z_p1_tunes_beats v_noteCount f_offs v_p1_drawSeed f_p1_demands v_p1_tunes_tuneCount f_p1_tunes_noteCounts f_p1_tunes_pitches f_spaces) sz)) 0 0 (va_A (wX2_chooseSpaces cI cJ cS a_o a_offs a_p1 a_p1_demands a_p1_tunes a_p1_tunes_noteCounts a_p1_tunes_pitches a_spaces z_times z_p1_stretches z_p1_cars z_p1_tunes_beats v_noteCount f_offs v_p1_drawSeed f_p1_demands v_p1_tunes_tuneCount f_p1_tunes_noteCounts f_p1_tunes_pitches f_spaces) sz) := by
  refine Met.rw (Qc := fun A => (va_Qv (fun u : Int32 × (Nat → Int32) × (Nat → Int32) => post u.1 u.2.1 u.2.2) (fun u t => va_P D vwCl (wX2_chooseSpaces cI cJ cS a_o a_offs a_p1 a_p1_demands a_p1_tunes a_p1_tunes_noteCounts a_p1_tunes_pitches a_spaces z_times z_p1_stretches z_p1_cars z_p1_tunes_beats u.1 u.2.1 v_p1_drawSeed f_p1_demands v_p1_tunes_tuneCount f_p1_tunes_noteCounts f_p1_tunes_pitches u.2.2) t.heap) A)) (by decide) (Nat.le_of_ble_eq_true rfl) (fun p e s m args below meth c ls A (S : CallFix p m c cX2_chooseSpaces 7 s args GW "RoadThatSings$Cutting") hE hT hP hD hA hS hr hlocks hname hl => ?_)
  have hS0 := hS
  have hx := S.1
  have hb := S.2.1
  have hl : lv_has ls 7 [(0, .ref a_o), (1, .ref a_p1), (2, .int x2), (3, .int x3)] := hl
  unfold F_X2_chooseSpaces at h
  refine lv_aload_n hx hb dX2_chooseSpaces_0 rfl (lv_at hl 0 rfl) ?_
  refine lv_bipush (v := 12) hx hb dX2_chooseSpaces_1 (by decide) ?_
  refine lv_aload_n hx hb dX2_chooseSpaces_3 rfl (lv_at hl 1 rfl) ?_
  refine gfN S hE hP 2 rfl rfl inX5 (k := 2) (by decide) nfX2_36 rfl dX2_chooseSpaces_4 ?_
  refine lv_iload_n hx hb dX2_chooseSpaces_7 rfl (lv_at hl 2 rfl) ?_
  refine ro_i (roV S hE hT hS (c_X8_notesOf h) lkX2_42 rfl ⟨(Nat.le_of_ble_eq_true rfl), (Nat.le_of_ble_eq_true rfl)⟩ (hP.sub [4, 5] rfl) 0 rfl rfl hl.1 rfl (Nat.le_of_ble_eq_true rfl) dX2_chooseSpaces_8 ⟨(Nat.zero_le _), (Nat.zero_le _)⟩) (fun r8 h => ?_)
  refine va_mmin hx hb (S.2.2.1.trans hl.1.symm) S.2.2.2.1 (S.2.2.2.2 _ q839) (S.2.2.2.2 _ q233) (S.2.2.2.2 _ q10) (S.2.2.2.2 _ q234) (Nat.le_of_ble_eq_true rfl) (Nat.le_of_ble_eq_true rfl) (Nat.zero_le _) (Nat.zero_le _) dX2_chooseSpaces_11 ?_
  refine pf S hE hP hD hS 0 (k := 3) rfl rfl inX2 tyX2_ok nmX2 (by decide) q127 rfl rfl rfl (Nat.le_of_ble_eq_true rfl) dX2_chooseSpaces_14 (fun H locs hP hD hS => ?_)
  have hP : va_P D vwCl (wX2_chooseSpaces cI cJ cS a_o a_offs a_p1 a_p1_demands a_p1_tunes a_p1_tunes_noteCounts a_p1_tunes_pitches a_spaces z_times z_p1_stretches z_p1_cars z_p1_tunes_beats (if r8 < 12 then r8 else 12) f_offs v_p1_drawSeed f_p1_demands v_p1_tunes_tuneCount f_p1_tunes_noteCounts f_p1_tunes_pitches f_spaces) H := hP
  have hD : va_D A (wX2_chooseSpaces cI cJ cS a_o a_offs a_p1 a_p1_demands a_p1_tunes a_p1_tunes_noteCounts a_p1_tunes_pitches a_spaces z_times z_p1_stretches z_p1_cars z_p1_tunes_beats (if r8 < 12 then r8 else 12) f_offs v_p1_drawSeed f_p1_demands v_p1_tunes_tuneCount f_p1_tunes_noteCounts f_p1_tunes_pitches f_spaces) := hD
  refine lv_iconst (v := 0) hx hb dX2_chooseSpaces_17 (by decide) ?_
  refine lv_istore (lv' := [(4, .int 0), (0, .ref a_o), (1, .ref a_p1), (2, .int x2), (3, .int x3)]) hx hb dX2_chooseSpaces_18 hl (by decide) rfl (fun ls hl => ?_)
  obtain ⟨n, h⟩ := h
  refine w_X2_chooseSpaces_20 S hE hT hA hr hlocks n _ _ _ _ _ _ h hP hD hS (lv_sub hl [1, 2, 3, 4, 0] rfl)
/-! X8_beatsOf -/
abbrev wX8_beatsOf (cI cJ cS : ClassId) (a_o a_beats a_noteCounts : Nat) (z_pitches : Value) (v_tuneCount : Int32) (f_beats : Nat → Int32) (f_noteCounts : Nat → Int32) : va_W := [(a_o, .inr (7, [z_pitches, .ref a_beats, .ref a_noteCounts, .int v_tuneCount])), (a_beats, .inl (cI, 72, .inl f_beats)), (a_noteCounts, .inl (cI, 6, .inl f_noteCounts))]
def F_X8_beatsOf (v_tuneCount : Int32) (f_beats : Nat → Int32) (f_noteCounts : Nat → Int32) (x1 : Int32) (x2 : Int32) (post : Int32 → Prop) : Prop := (F_X8_hasNote v_tuneCount f_noteCounts x1 x2 (fun r3 => ((r3 = 0 → post 0) ∧ (¬ r3 = 0 → (vp_in ((x1 * 12) + x2) 72 ∧ post (f_beats ((x1 * 12) + x2).toNatClampNeg))))))
set_option maxHeartbeats 4000000 in
set_option maxRecDepth 100000 in
theorem c_X8_beatsOf {l : Launch} {D : va_G} {cI cJ cS : ClassId} {ad adK : Nat → Nat} {a_o a_beats a_noteCounts : Nat} {z_pitches : Value} {v_tuneCount : Int32} {f_beats : Nat → Int32} {f_noteCounts : Nat → Int32} {x1 : Int32} {x2 : Int32} {post : Int32 → Prop} (h : F_X8_beatsOf v_tuneCount f_beats f_noteCounts x1 x2 post) : Met l yX8_beatsOf (Cond.code yX8_beatsOf cX8_beatsOf 3 (some (.int)) :: GW) (rmd 2 0 0) (PR D cI cJ cS ad adK [.ref a_o, .int x1, .int x2] (wX8_beatsOf cI cJ cS a_o a_beats a_noteCounts z_pitches v_tuneCount f_beats f_noteCounts)) (vp_Si post) 0 0 nof := by
  refine Met.ro (by decide) (Nat.le_of_ble_eq_true rfl) (fun p e s m args below meth c ls (S : CallFix p m c cX8_beatsOf 3 s args GW "RoadThatSings$Tunes") hE hT hP hS hr hlocks hl => ?_)
  have hx := S.1
  have hb := S.2.1
  have hl : lv_has ls 3 [(0, .ref a_o), (1, .int x1), (2, .int x2)] := hl
  unfold F_X8_beatsOf at h
  refine lv_aload_n hx hb dX8_beatsOf_0 rfl (lv_at hl 0 rfl) ?_
  refine lv_iload_n hx hb dX8_beatsOf_1 rfl (lv_at hl 1 rfl) ?_
  refine lv_iload_n hx hb dX8_beatsOf_2 rfl (lv_at hl 2 rfl) ?_
  refine ro_i (roV S hE hT hS (c_X8_hasNote h) lkX8_43 rfl ⟨(Nat.le_of_ble_eq_true rfl), (Nat.le_of_ble_eq_true rfl)⟩ (hP.sub [0, 2] rfl) 0 rfl rfl hl.1 rfl (Nat.le_of_ble_eq_true rfl) dX8_beatsOf_3 ⟨(Nat.zero_le _), (Nat.zero_le _)⟩) (fun r3 h => ?_)
  refine lv_if_eq (tgt := 23) hx hb dX8_beatsOf_6 (by decide) (fun hc => ?_) (fun hc => ?_)
  · have h := h.1 hc
    refine lv_iconst (v := 0) hx hb dX8_beatsOf_23 (by decide) ?_
    exact W.iret hx hb hr (fun t ht _ => ⟨_, rfl, h, ht⟩) (fun _ hq => by cases hq) dX8_beatsOf_24
  have h := h.2 hc
  refine lv_aload_n hx hb dX8_beatsOf_9 rfl (lv_at hl 0 rfl) ?_
  refine gf S hE hP 0 rfl rfl inX8 (k := 1) (by decide) q81 rfl dX8_beatsOf_10 ?_
  refine lv_iload_n hx hb dX8_beatsOf_13 rfl (lv_at hl 1 rfl) ?_
  refine lv_bipush (v := 12) hx hb dX8_beatsOf_14 (by decide) ?_
  refine lv_imul hx hb dX8_beatsOf_16 ?_
  refine lv_iload_n hx hb dX8_beatsOf_17 rfl (lv_at hl 2 rfl) ?_
  refine lv_iadd hx hb dX8_beatsOf_18 ?_
  obtain ⟨hi, h⟩ := h
  refine ial S hE hP 1 rfl hi dX8_beatsOf_19 ?_
  refine lv_goto (tgt := 24) hx hb dX8_beatsOf_20 (by decide) ?_
  exact W.iret hx hb hr (fun t ht _ => ⟨_, rfl, h, ht⟩) (fun _ hq => by cases hq) dX8_beatsOf_24
/-! X2_placeOf -/
abbrev wX2_placeOf (cI cJ cS : ClassId) : va_W := []
def F_X2_placeOf (x0 : Int32) (x1 : Int32) (x2 : Int32) (post : Int32 → Prop) : Prop := post (((((x0.toInt64 * x1.toInt64) * 704) * x2.toInt64) / 10000).toInt32)
set_option maxHeartbeats 4000000 in
set_option maxRecDepth 100000 in
theorem c_X2_placeOf {l : Launch} {D : va_G} {cI cJ cS : ClassId} {ad adK : Nat → Nat}  {x0 : Int32} {x1 : Int32} {x2 : Int32} {post : Int32 → Prop} (h : F_X2_placeOf x0 x1 x2 post) : Met l yX2_placeOf (Cond.code yX2_placeOf cX2_placeOf 3 (some (.int)) :: GW) (rmd 0 0 0) (PR D cI cJ cS ad adK [.int x0, .int x1, .int x2] (wX2_placeOf cI cJ cS)) (vp_Si post) 0 0 nof := by
  refine Met.ro (by decide) (Nat.le_of_ble_eq_true rfl) (fun p e s m args below meth c ls (S : CallFix p m c cX2_placeOf 3 s args GW "RoadThatSings$Cutting") hE hT hP hS hr hlocks hl => ?_)
  have hx := S.1
  have hb := S.2.1
  have hl : lv_has ls 3 [(0, .int x0), (1, .int x1), (2, .int x2)] := hl
  unfold F_X2_placeOf at h
  refine lv_iload_n hx hb dX2_placeOf_0 rfl (lv_at hl 0 rfl) ?_
  refine lv_i2l hx hb dX2_placeOf_1 rfl ?_
  refine lv_iload_n hx hb dX2_placeOf_2 rfl (lv_at hl 1 rfl) ?_
  refine lv_i2l hx hb dX2_placeOf_3 rfl ?_
  refine lv_lmul hx hb dX2_placeOf_4 ?_
  refine lv_ldc2 (v := 704) hx hb S.2.2.2.1 (S.2.2.2.2 _ q855) dX2_placeOf_5 ?_
  refine lv_lmul hx hb dX2_placeOf_8 ?_
  refine lv_iload_n hx hb dX2_placeOf_9 rfl (lv_at hl 2 rfl) ?_
  refine lv_i2l hx hb dX2_placeOf_10 rfl ?_
  refine lv_lmul hx hb dX2_placeOf_11 ?_
  refine lv_ldc2 (v := 10000) hx hb S.2.2.2.1 (S.2.2.2.2 _ q856) dX2_placeOf_12 ?_
  refine lv_ldiv hx hb dX2_placeOf_15 (by decide) ?_
  refine lv_l2i hx hb dX2_placeOf_16 rfl ?_
  exact W.iret hx hb hr (fun t ht _ => ⟨_, rfl, h, ht⟩) (fun _ hq => by cases hq) dX2_placeOf_17
/-! X2_nearestTimes -/
abbrev wX2_nearestTimes (cI cJ cS : ClassId) : va_W := []
def F_X2_nearestTimes_30 (post : Int32 → Prop) (s0 : Int32) : Prop := post (if 1 < (if 60 < s0 then 60 else s0) then (if 60 < s0 then 60 else s0) else 1)
def F_X2_nearestTimes (x0 : Int32) (x1 : Int32) (post : Int32 → Prop) : Prop := ((x0 ≤ 0 → post 1) ∧ (¬ x0 ≤ 0 → ((0 < x1 → (¬ x1 = 0 ∧ (∀ x2_13 : Int32, x2_13 = x0 / x1 → (¬ x1 = 0 ∧ (((2 * (x0 - x0 / x1 * x1)) ≤ x1 → F_X2_nearestTimes_30 post x2_13) ∧ (¬ (2 * (x0 - x0 / x1 * x1)) ≤ x1 → F_X2_nearestTimes_30 post (x2_13 + 1))))))) ∧ (¬ 0 < x1 → post 1))))
set_option maxHeartbeats 4000000 in
set_option maxRecDepth 100000 in
theorem w_X2_nearestTimes_30 {l : Launch} {D : va_G} {cI cJ cS : ClassId} {ad adK : Nat → Nat}  {s0 : Int32} {post : Int32 → Prop} {p : Program} {e : Env} {s : State} {m : MethodId} {args : Array Value} {below : List Frame} {meth : Method} {c : Code} (S : CallFix p m c cX2_nearestTimes 4 s args GW "RoadThatSings$Cutting") (hE : EN D cI cJ cS s) (hT : ST ad adK nof s s.heap) (hP : va_P D vwCl (wX2_nearestTimes cI cJ cS) s.heap) (hS : va_S nof s.heap s.heap []) (hr : meth.sig.returnType = (some (.int))) (hlocks : meth.locks = false) : ∀ (ls : Array Slot), F_X2_nearestTimes_30 post s0 → lv_has ls 4 [] → W p l e (rmd 1 0 0) s m args below meth c s.heap [] 0 0 (MQ below (vp_Si post) args s 0 0 nof) (F0 m 30 ls [.int s0]) := by
  intro  ls h hl
  unfold F_X2_nearestTimes_30 at h
  have hx := S.1
  have hb := S.2.1
  refine lv_istore_n (lv' := [(3, .int s0)]) hx hb dX2_nearestTimes_30 rfl hl (by decide) rfl (fun ls hl => ?_)
  refine lv_iconst (v := 1) hx hb dX2_nearestTimes_31 (by decide) ?_
  refine lv_iload_n hx hb dX2_nearestTimes_32 rfl (lv_at hl 0 rfl) ?_
  refine lv_bipush (v := 60) hx hb dX2_nearestTimes_33 (by decide) ?_
  refine va_mmin hx hb (S.2.2.1.trans hl.1.symm) S.2.2.2.1 (S.2.2.2.2 _ q839) (S.2.2.2.2 _ q233) (S.2.2.2.2 _ q10) (S.2.2.2.2 _ q234) (Nat.le_of_ble_eq_true rfl) (Nat.le_of_ble_eq_true rfl) (Nat.zero_le _) (Nat.zero_le _) dX2_nearestTimes_35 ?_
  refine va_mmax hx hb (S.2.2.1.trans hl.1.symm) S.2.2.2.1 (S.2.2.2.2 _ q860) (S.2.2.2.2 _ q236) (S.2.2.2.2 _ q10) (S.2.2.2.2 _ q237) (Nat.le_of_ble_eq_true rfl) (Nat.le_of_ble_eq_true rfl) (Nat.zero_le _) (Nat.zero_le _) dX2_nearestTimes_38 ?_
  exact W.iret hx hb hr (fun t ht _ => ⟨_, rfl, h, ht⟩) (fun _ hq => by cases hq) dX2_nearestTimes_41
set_option maxHeartbeats 4000000 in
set_option maxRecDepth 100000 in
theorem c_X2_nearestTimes {l : Launch} {D : va_G} {cI cJ cS : ClassId} {ad adK : Nat → Nat}  {x0 : Int32} {x1 : Int32} {post : Int32 → Prop} (h : F_X2_nearestTimes x0 x1 post) : Met l yX2_nearestTimes (Cond.code yX2_nearestTimes cX2_nearestTimes 4 (some (.int)) :: GW) (rmd 1 0 0) (PR D cI cJ cS ad adK [.int x0, .int x1] (wX2_nearestTimes cI cJ cS)) (vp_Si post) 0 0 nof := by
  refine Met.ro (by decide) (Nat.le_of_ble_eq_true rfl) (fun p e s m args below meth c ls (S : CallFix p m c cX2_nearestTimes 4 s args GW "RoadThatSings$Cutting") hE hT hP hS hr hlocks hl => ?_)
  have hx := S.1
  have hb := S.2.1
  have hl : lv_has ls 4 [(0, .int x0), (1, .int x1)] := hl
  unfold F_X2_nearestTimes at h
  refine lv_iload_n hx hb dX2_nearestTimes_0 rfl (lv_at hl 0 rfl) ?_
  refine lv_if_le (tgt := 8) hx hb dX2_nearestTimes_1 (by decide) (fun hc => ?_) (fun hc => ?_)
  · have h := h.1 hc
    refine lv_iconst (v := 1) hx hb dX2_nearestTimes_8 (by decide) ?_
    exact W.iret hx hb hr (fun t ht _ => ⟨_, rfl, h, ht⟩) (fun _ hq => by cases hq) dX2_nearestTimes_9
  have h := h.2 hc
  refine lv_iload_n hx hb dX2_nearestTimes_4 rfl (lv_at hl 1 rfl) ?_
  refine lv_if_gt (tgt := 10) hx hb dX2_nearestTimes_5 (by decide) (fun hc => ?_) (fun hc => ?_)
  · have h := h.1 hc
    refine lv_iload_n hx hb dX2_nearestTimes_10 rfl (lv_at hl 0 rfl) ?_
    refine lv_iload_n hx hb dX2_nearestTimes_11 rfl (lv_at hl 1 rfl) ?_
    obtain ⟨hz, h⟩ := h
    refine lv_idiv hx hb dX2_nearestTimes_12 hz ?_
    refine lv_topi (fun x2_13 ex2_13 => ?_)
    have h := h _ ex2_13
    refine lv_istore_n (lv' := [(2, .int x2_13), (0, .int x0), (1, .int x1)]) hx hb dX2_nearestTimes_13 rfl hl (by decide) rfl (fun ls hl => ?_)
    refine lv_iconst (v := 2) hx hb dX2_nearestTimes_14 (by decide) ?_
    refine lv_iload_n hx hb dX2_nearestTimes_15 rfl (lv_at hl 1 rfl) ?_
    refine lv_iload_n hx hb dX2_nearestTimes_16 rfl (lv_at hl 2 rfl) ?_
    obtain ⟨hz, h⟩ := h
    refine lv_irem hx hb dX2_nearestTimes_17 hz ?_
    refine lv_imul hx hb dX2_nearestTimes_18 ?_
    refine lv_iload_n hx hb dX2_nearestTimes_19 rfl (lv_at hl 2 rfl) ?_
    refine lv_icmp_le (tgt := 29) hx hb dX2_nearestTimes_20 (by decide) (fun hc => ?_) (fun hc => ?_)
    · have h := h.1 hc
      refine lv_iload_n hx hb dX2_nearestTimes_29 rfl (lv_at hl 0 rfl) ?_
      refine w_X2_nearestTimes_30 S hE hT hP hS hr hlocks _ h (lv_sub hl [] rfl)
    have h := h.2 hc
    refine lv_iload_n hx hb dX2_nearestTimes_23 rfl (lv_at hl 0 rfl) ?_
    refine lv_iconst (v := 1) hx hb dX2_nearestTimes_24 (by decide) ?_
    refine lv_iadd hx hb dX2_nearestTimes_25 ?_
    refine lv_goto (tgt := 30) hx hb dX2_nearestTimes_26 (by decide) ?_
    refine w_X2_nearestTimes_30 S hE hT hP hS hr hlocks _ h (lv_sub hl [] rfl)
  have h := h.2 hc
  refine lv_iconst (v := 1) hx hb dX2_nearestTimes_8 (by decide) ?_
  exact W.iret hx hb hr (fun t ht _ => ⟨_, rfl, h, ht⟩) (fun _ hq => by cases hq) dX2_nearestTimes_9
/-! X2_chooseTimes -/
abbrev wX2_chooseTimes (cI cJ cS : ClassId) (a_o a_p1 a_p1_demands a_p1_tunes a_p1_tunes_beats a_p1_tunes_noteCounts a_spaces a_times : Nat) (z_offs z_p1_stretches z_p1_cars z_p1_tunes_pitches : Value) (v_noteCount : Int32) (v_p1_drawSeed : Int32) (f_p1_demands : Nat → Int32) (v_p1_tunes_tuneCount : Int32) (f_p1_tunes_beats : Nat → Int32) (f_p1_tunes_noteCounts : Nat → Int32) (f_spaces : Nat → Int32) (f_times : Nat → Int32) : va_W := [(a_o, .inr (2, [.ref a_spaces, z_offs, .ref a_times, .int v_noteCount])), (a_p1, .inr (4, [z_p1_stretches, z_p1_cars, .ref a_p1_tunes, .ref a_p1_demands, .int v_p1_drawSeed])), (a_p1_demands, .inl (cI, 4, .inl f_p1_demands)), (a_p1_tunes, .inr (7, [z_p1_tunes_pitches, .ref a_p1_tunes_beats, .ref a_p1_tunes_noteCounts, .int v_p1_tunes_tuneCount])), (a_p1_tunes_beats, .inl (cI, 72, .inl f_p1_tunes_beats)), (a_p1_tunes_noteCounts, .inl (cI, 6, .inl f_p1_tunes_noteCounts)), (a_spaces, .inl (cI, 12, .inl f_spaces)), (a_times, .inl (cI, 12, .inl f_times))]
def L_X2_chooseTimes_9 (v_noteCount : Int32) (f_p1_demands : Nat → Int32) (v_p1_tunes_tuneCount : Int32) (f_p1_tunes_beats : Nat → Int32) (f_p1_tunes_noteCounts : Nat → Int32) (f_spaces : Nat → Int32) (x2 : Int32) (x3 : Int32) (post : (Nat → Int32) → Prop) : Nat → Int32 → Int32 → Int32 → (Nat → Int32) → Prop
  | 0, _, _, _, _ => False
  | n9 + 1, x4, x5, x6, f_times => ((v_noteCount ≤ x6 → post f_times) ∧ (¬ v_noteCount ≤ x6 → ((12 ≤ x6 → post f_times) ∧ (¬ 12 ≤ x6 → (F_X8_beatsOf v_p1_tunes_tuneCount f_p1_tunes_beats f_p1_tunes_noteCounts x2 x6 (fun r34 => (∀ x5_38 : Int32, x5_38 = x5 + r34 → (F_X5_asked f_p1_demands 3 (fun r44 => (F_X2_placeOf x5_38 r44 x3 (fun r48 => (vp_in x6 12 ∧ (F_X2_nearestTimes (r48 - x4) (f_spaces x6.toNatClampNeg) (fun r71 => (vp_in x6 12 ∧ (vp_in x6 12 ∧ (vp_in x6 12 ∧ (∀ x4_93 : Int32, x4_93 = x4 + (((upd f_times x6.toNatClampNeg r71) x6.toNatClampNeg) * (f_spaces x6.toNatClampNeg)) → (∀ x6_95 : Int32, x6_95 = x6 + 1 → L_X2_chooseTimes_9 v_noteCount f_p1_demands v_p1_tunes_tuneCount f_p1_tunes_beats f_p1_tunes_noteCounts f_spaces x2 x3 post n9 x4_93 x5_38 x6_95 (upd f_times x6.toNatClampNeg r71))))))))))))))))))))
def F_X2_chooseTimes (v_noteCount : Int32) (f_p1_demands : Nat → Int32) (v_p1_tunes_tuneCount : Int32) (f_p1_tunes_beats : Nat → Int32) (f_p1_tunes_noteCounts : Nat → Int32) (f_spaces : Nat → Int32) (f_times : Nat → Int32) (x2 : Int32) (x3 : Int32) (post : (Nat → Int32) → Prop) : Prop := (∃ n9 : Nat, L_X2_chooseTimes_9 v_noteCount f_p1_demands v_p1_tunes_tuneCount f_p1_tunes_beats f_p1_tunes_noteCounts f_spaces x2 x3 post n9 0 0 0 f_times)
set_option maxHeartbeats 4000000 in
set_option maxRecDepth 100000 in
theorem w_X2_chooseTimes_9 {l : Launch} {D : va_G} {cI cJ cS : ClassId} {ad adK : Nat → Nat} {a_o a_p1 a_p1_demands a_p1_tunes a_p1_tunes_beats a_p1_tunes_noteCounts a_spaces a_times : Nat} {z_offs z_p1_stretches z_p1_cars z_p1_tunes_pitches : Value} {v_noteCount : Int32} {v_p1_drawSeed : Int32} {f_p1_demands : Nat → Int32} {v_p1_tunes_tuneCount : Int32} {f_p1_tunes_beats : Nat → Int32} {f_p1_tunes_noteCounts : Nat → Int32} {f_spaces : Nat → Int32} {x2 : Int32} {x3 : Int32} {post : (Nat → Int32) → Prop} {p : Program} {e : Env} {s : State} {m : MethodId} {args : Array Value} {below : List Frame} {meth : Method} {c : Code} {A : Nat → Prop} (S : CallFix p m c cX2_chooseTimes 8 s args GW "RoadThatSings$Cutting") (hE : EN D cI cJ cS s) (hT : ST ad adK A s s.heap) (hA : ∀ q : Nat, s.heap.size ≤ q → A q) (hr : meth.sig.returnType = none) (hlocks : meth.locks = false) : ∀ n : Nat, ∀ (x4 : Int32) (x5 : Int32) (x6 : Int32) (f_times : Nat → Int32) (H : Heap) (locs : List Loc) (ls : Array Slot), L_X2_chooseTimes_9 v_noteCount f_p1_demands v_p1_tunes_tuneCount f_p1_tunes_beats f_p1_tunes_noteCounts f_spaces x2 x3 post n x4 x5 x6 f_times → va_P D vwCl (wX2_chooseTimes cI cJ cS a_o a_p1 a_p1_demands a_p1_tunes a_p1_tunes_beats a_p1_tunes_noteCounts a_spaces a_times z_offs z_p1_stretches z_p1_cars z_p1_tunes_pitches v_noteCount v_p1_drawSeed f_p1_demands v_p1_tunes_tuneCount f_p1_tunes_beats f_p1_tunes_noteCounts f_spaces f_times) H → va_D A (wX2_chooseTimes cI cJ cS a_o a_p1 a_p1_demands a_p1_tunes a_p1_tunes_beats a_p1_tunes_noteCounts a_spaces a_times z_offs z_p1_stretches z_p1_cars z_p1_tunes_pitches v_noteCount v_p1_drawSeed f_p1_demands v_p1_tunes_tuneCount f_p1_tunes_beats f_p1_tunes_noteCounts f_spaces f_times) → va_S A s.heap H locs → lv_has ls 8 [(0, .ref a_o), (1, .ref a_p1), (2, .int x2), (3, .int x3), (4, .int x4), (5, .int x5), (6, .int x6)] → W p l e (rmd 3 0 0) s m args below meth c H locs 0 0 (MQ below (va_Qv (fun u : (Nat → Int32) => post u) (fun u t => va_P D vwCl (wX2_chooseTimes cI cJ cS a_o a_p1 a_p1_demands a_p1_tunes a_p1_tunes_beats a_p1_tunes_noteCounts a_spaces a_times z_offs z_p1_stretches z_p1_cars z_p1_tunes_pitches v_noteCount v_p1_drawSeed f_p1_demands v_p1_tunes_tuneCount f_p1_tunes_beats f_p1_tunes_noteCounts f_spaces u) t.heap) A) args s 0 0 A) (F0 m 9 ls []) := by
  intro n
  induction n with
  | zero =>
    intro x4 x5 x6 f_times H locs ls h hP hD hS hl
    exact h.elim
  | succ n ih =>
    intro x4 x5 x6 f_times H locs ls h hP hD hS hl
    rw [L_X2_chooseTimes_9] at h
    have hx := S.1
    have hb := S.2.1
    refine lv_iload hx hb dX2_chooseTimes_9 (lv_at hl 6 rfl) ?_
    refine lv_aload_n hx hb dX2_chooseTimes_11 rfl (lv_at hl 0 rfl) ?_
    refine gf S hE hP 0 rfl rfl inX2 (k := 3) (by decide) q127 rfl dX2_chooseTimes_12 ?_
    refine lv_icmp_ge (tgt := 101) hx hb dX2_chooseTimes_15 (by decide) (fun hc => ?_) (fun hc => ?_)
    · have h := h.1 hc
      exact W.vret hx hb hr (fun t ht _ => ⟨⟨f_times, rfl, h, hPt hP ht⟩, hS.F ht⟩) hS.2.2 dX2_chooseTimes_101
    have h := h.2 hc
    refine lv_iload hx hb dX2_chooseTimes_18 (lv_at hl 6 rfl) ?_
    refine lv_bipush (v := 12) hx hb dX2_chooseTimes_20 (by decide) ?_
    refine lv_icmp_ge (tgt := 101) hx hb dX2_chooseTimes_22 (by decide) (fun hc => ?_) (fun hc => ?_)
    · have h := h.1 hc
      exact W.vret hx hb hr (fun t ht _ => ⟨⟨f_times, rfl, h, hPt hP ht⟩, hS.F ht⟩) hS.2.2 dX2_chooseTimes_101
    have h := h.2 hc
    refine lv_iload hx hb dX2_chooseTimes_25 (lv_at hl 5 rfl) ?_
    refine lv_aload_n hx hb dX2_chooseTimes_27 rfl (lv_at hl 1 rfl) ?_
    refine gfN S hE hP 1 rfl rfl inX5 (k := 2) (by decide) nfX2_36 rfl dX2_chooseTimes_28 ?_
    refine lv_iload_n hx hb dX2_chooseTimes_31 rfl (lv_at hl 2 rfl) ?_
    refine lv_iload hx hb dX2_chooseTimes_32 (lv_at hl 6 rfl) ?_
    refine ro_i (roV S hE hT hS (c_X8_beatsOf h) lkX2_70 rfl ⟨(Nat.le_of_ble_eq_true rfl), (Nat.le_of_ble_eq_true rfl)⟩ (hP.sub [3, 4, 5] rfl) 0 rfl rfl hl.1 rfl (Nat.le_of_ble_eq_true rfl) dX2_chooseTimes_34 ⟨(Nat.zero_le _), (Nat.zero_le _)⟩) (fun r34 h => ?_)
    refine lv_iadd hx hb dX2_chooseTimes_37 ?_
    refine lv_topi (fun x5_38 ex5_38 => ?_)
    have h := h _ ex5_38
    refine lv_istore (lv' := [(5, .int x5_38), (0, .ref a_o), (1, .ref a_p1), (2, .int x2), (3, .int x3), (4, .int x4), (6, .int x6)]) hx hb dX2_chooseTimes_38 hl (by decide) rfl (fun ls hl => ?_)
    refine lv_iload hx hb dX2_chooseTimes_40 (lv_at hl 0 rfl) ?_
    refine lv_aload_n hx hb dX2_chooseTimes_42 rfl (lv_at hl 2 rfl) ?_
    refine lv_iconst (v := 3) hx hb dX2_chooseTimes_43 (by decide) ?_
    refine ro_i (roV S hE hT hS (c_X5_asked h) lkX2_57 rfl ⟨(Nat.le_of_ble_eq_true rfl), (Nat.le_of_ble_eq_true rfl)⟩ (hP.sub [1, 2] rfl) 0 rfl rfl hl.1 rfl (Nat.le_of_ble_eq_true rfl) dX2_chooseTimes_44 ⟨(Nat.zero_le _), (Nat.zero_le _)⟩) (fun r44 h => ?_)
    refine lv_iload_n hx hb dX2_chooseTimes_47 rfl (lv_at hl 4 rfl) ?_
    refine ro_i (roS S hE hT hS (c_X2_placeOf h) lkX2_73 rfl ⟨(Nat.le_of_ble_eq_true rfl), (Nat.le_of_ble_eq_true rfl)⟩ (hP.sub [] rfl) hl.1 rfl (Nat.le_of_ble_eq_true rfl) dX2_chooseTimes_48 ⟨(Nat.zero_le _), (Nat.zero_le _)⟩) (fun r48 h => ?_)
    refine lv_istore (lv' := [(7, .int r48), (5, .int x5_38), (0, .ref a_o), (1, .ref a_p1), (2, .int x2), (3, .int x3), (4, .int x4), (6, .int x6)]) hx hb dX2_chooseTimes_51 hl (by decide) rfl (fun ls hl => ?_)
    refine lv_aload_n hx hb dX2_chooseTimes_53 rfl (lv_at hl 2 rfl) ?_
    refine gf S hE hP 0 rfl rfl inX2 (k := 2) (by decide) q126 rfl dX2_chooseTimes_54 ?_
    refine lv_iload hx hb dX2_chooseTimes_57 (lv_at hl 7 rfl) ?_
    refine lv_iload hx hb dX2_chooseTimes_59 (lv_at hl 0 rfl) ?_
    refine lv_iload hx hb dX2_chooseTimes_61 (lv_at hl 6 rfl) ?_
    refine lv_isub hx hb dX2_chooseTimes_63 ?_
    refine lv_aload_n hx hb dX2_chooseTimes_64 rfl (lv_at hl 2 rfl) ?_
    refine gf S hE hP 0 rfl rfl inX2 (k := 0) (by decide) q124 rfl dX2_chooseTimes_65 ?_
    refine lv_iload hx hb dX2_chooseTimes_68 (lv_at hl 7 rfl) ?_
    obtain ⟨hi, h⟩ := h
    refine ial S hE hP 6 rfl hi dX2_chooseTimes_70 ?_
    refine ro_i (roS S hE hT hS (c_X2_nearestTimes h) lkX2_76 rfl ⟨(Nat.le_of_ble_eq_true rfl), (Nat.le_of_ble_eq_true rfl)⟩ (hP.sub [] rfl) hl.1 rfl (Nat.le_of_ble_eq_true rfl) dX2_chooseTimes_71 ⟨(Nat.zero_le _), (Nat.zero_le _)⟩) (fun r71 h => ?_)
    obtain ⟨hi, h⟩ := h
    refine ias S hE hP hD hS 7 rfl hi dX2_chooseTimes_74 (fun H locs hP hD hS => ?_)
    have hP : va_P D vwCl (wX2_chooseTimes cI cJ cS a_o a_p1 a_p1_demands a_p1_tunes a_p1_tunes_beats a_p1_tunes_noteCounts a_spaces a_times z_offs z_p1_stretches z_p1_cars z_p1_tunes_pitches v_noteCount v_p1_drawSeed f_p1_demands v_p1_tunes_tuneCount f_p1_tunes_beats f_p1_tunes_noteCounts f_spaces (upd f_times x6.toNatClampNeg r71)) H := hP
    have hD : va_D A (wX2_chooseTimes cI cJ cS a_o a_p1 a_p1_demands a_p1_tunes a_p1_tunes_beats a_p1_tunes_noteCounts a_spaces a_times z_offs z_p1_stretches z_p1_cars z_p1_tunes_pitches v_noteCount v_p1_drawSeed f_p1_demands v_p1_tunes_tuneCount f_p1_tunes_beats f_p1_tunes_noteCounts f_spaces (upd f_times x6.toNatClampNeg r71)) := hD
    refine lv_iload hx hb dX2_chooseTimes_75 (lv_at hl 6 rfl) ?_
    refine lv_aload_n hx hb dX2_chooseTimes_77 rfl (lv_at hl 2 rfl) ?_
    refine gf S hE hP 0 rfl rfl inX2 (k := 2) (by decide) q126 rfl dX2_chooseTimes_78 ?_
    refine lv_iload hx hb dX2_chooseTimes_81 (lv_at hl 7 rfl) ?_
    obtain ⟨hi, h⟩ := h
    refine ial S hE hP 7 rfl hi dX2_chooseTimes_83 ?_
    refine lv_aload_n hx hb dX2_chooseTimes_84 rfl (lv_at hl 2 rfl) ?_
    refine gf S hE hP 0 rfl rfl inX2 (k := 0) (by decide) q124 rfl dX2_chooseTimes_85 ?_
    refine lv_iload hx hb dX2_chooseTimes_88 (lv_at hl 7 rfl) ?_
    obtain ⟨hi, h⟩ := h
    refine ial S hE hP 6 rfl hi dX2_chooseTimes_90 ?_
    refine lv_imul hx hb dX2_chooseTimes_91 ?_
    refine lv_iadd hx hb dX2_chooseTimes_92 ?_
    refine lv_topi (fun x4_93 ex4_93 => ?_)
    have h := h _ ex4_93
    refine lv_istore (lv' := [(4, .int x4_93), (7, .int r48), (5, .int x5_38), (0, .ref a_o), (1, .ref a_p1), (2, .int x2), (3, .int x3), (6, .int x6)]) hx hb dX2_chooseTimes_93 hl (by decide) rfl (fun ls hl => ?_)
    obtain ⟨x6_95, ex6_95⟩ : ∃ z : Int32, z = x6 + 1 := ⟨_, rfl⟩
    have h := h _ ex6_95
    refine lv_iinc (v := x6_95) (lv' := [(6, .int x6_95), (4, .int x4_93), (7, .int r48), (5, .int x5_38), (0, .ref a_o), (1, .ref a_p1), (2, .int x2), (3, .int x3)]) hx hb dX2_chooseTimes_95 hl (k := 7) rfl (by rw [ex6_95]; rfl) (by decide) rfl (fun ls hl => ?_)
    refine lv_goto (tgt := 9) hx hb dX2_chooseTimes_98 (by decide) ?_
    exact ih _ _ _ _ _ _ _ h hP hD hS (lv_sub hl [4, 5, 6, 7, 1, 3, 0] rfl)
set_option maxHeartbeats 4000000 in
set_option maxRecDepth 100000 in
theorem c_X2_chooseTimes {l : Launch} {D : va_G} {cI cJ cS : ClassId} {ad adK : Nat → Nat} {a_o a_p1 a_p1_demands a_p1_tunes a_p1_tunes_beats a_p1_tunes_noteCounts a_spaces a_times : Nat} {z_offs z_p1_stretches z_p1_cars z_p1_tunes_pitches : Value} {v_noteCount : Int32} {v_p1_drawSeed : Int32} {f_p1_demands : Nat → Int32} {v_p1_tunes_tuneCount : Int32} {f_p1_tunes_beats : Nat → Int32} {f_p1_tunes_noteCounts : Nat → Int32} {f_spaces : Nat → Int32} {f_times : Nat → Int32} {x2 : Int32} {x3 : Int32} {post : (Nat → Int32) → Prop} (h : F_X2_chooseTimes v_noteCount f_p1_demands v_p1_tunes_tuneCount f_p1_tunes_beats f_p1_tunes_noteCounts f_spaces f_times x2 x3 post) {sz : Nat} : Met l yX2_chooseTimes (Cond.code yX2_chooseTimes cX2_chooseTimes 8 none :: GW) (rmd 3 0 0) (PW D cI cJ cS ad adK [.ref a_o, .ref a_p1, .int x2, .int x3] (wX2_chooseTimes cI cJ cS a_o a_p1 a_p1_demands a_p1_tunes a_p1_tunes_beats a_p1_tunes_noteCounts a_spaces a_times z_offs z_p1_stretches z_p1_cars z_p1_tunes_pitches v_noteCount v_p1_drawSeed f_p1_demands v_p1_tunes_tuneCount f_p1_tunes_beats f_p1_tunes_noteCounts f_spaces f_times) sz) (va_Qv (fun u : (Nat → Int32) => post u) (fun u t => va_P D vwCl (wX2_chooseTimes cI cJ cS a_o a_p1 a_p1_demands a_p1_tunes a_p1_tunes_beats a_p1_tunes_noteCounts a_spaces a_times z_offs z_p1_stretches z_p1_cars z_p1_tunes_pitches v_noteCount v_p1_drawSeed f_p1_demands v_p1_tunes_tuneCount f_p1_tunes_beats f_p1_tunes_noteCounts f_spaces u) t.heap) (va_A (wX2_chooseTimes cI cJ cS a_o a_p1 a_p1_demands a_p1_tunes a_p1_tunes_beats a_p1_tunes_noteCounts a_spaces a_times z_offs z_p1_stretches z_p1_cars z_p1_tunes_pitches v_noteCount v_p1_drawSeed f_p1_demands v_p1_tunes_tuneCount f_p1_tunes_beats f_p1_tunes_noteCounts f_spaces f_times) sz)) 0 0 (va_A (wX2_chooseTimes cI cJ cS a_o a_p1 a_p1_demands a_p1_tunes a_p1_tunes_beats a_p1_tunes_noteCounts a_spaces a_times z_offs z_p1_stretches z_p1_cars z_p1_tunes_pitches v_noteCount v_p1_drawSeed f_p1_demands v_p1_tunes_tuneCount f_p1_tunes_beats f_p1_tunes_noteCounts f_spaces f_times) sz) := by
  refine Met.rw (Qc := fun A => (va_Qv (fun u : (Nat → Int32) => post u) (fun u t => va_P D vwCl (wX2_chooseTimes cI cJ cS a_o a_p1 a_p1_demands a_p1_tunes a_p1_tunes_beats a_p1_tunes_noteCounts a_spaces a_times z_offs z_p1_stretches z_p1_cars z_p1_tunes_pitches v_noteCount v_p1_drawSeed f_p1_demands v_p1_tunes_tuneCount f_p1_tunes_beats f_p1_tunes_noteCounts f_spaces u) t.heap) A)) (by decide) (Nat.le_of_ble_eq_true rfl) (fun p e s m args below meth c ls A (S : CallFix p m c cX2_chooseTimes 8 s args GW "RoadThatSings$Cutting") hE hT hP hD hA hS hr hlocks hname hl => ?_)
  have hS0 := hS
  have hx := S.1
  have hb := S.2.1
  have hl : lv_has ls 8 [(0, .ref a_o), (1, .ref a_p1), (2, .int x2), (3, .int x3)] := hl
  unfold F_X2_chooseTimes at h
  refine lv_iconst (v := 0) hx hb dX2_chooseTimes_0 (by decide) ?_
  refine lv_istore (lv' := [(4, .int 0), (0, .ref a_o), (1, .ref a_p1), (2, .int x2), (3, .int x3)]) hx hb dX2_chooseTimes_1 hl (by decide) rfl (fun ls hl => ?_)
  refine lv_iconst (v := 0) hx hb dX2_chooseTimes_3 (by decide) ?_
  refine lv_istore (lv' := [(5, .int 0), (4, .int 0), (0, .ref a_o), (1, .ref a_p1), (2, .int x2), (3, .int x3)]) hx hb dX2_chooseTimes_4 hl (by decide) rfl (fun ls hl => ?_)
  refine lv_iconst (v := 0) hx hb dX2_chooseTimes_6 (by decide) ?_
  refine lv_istore (lv' := [(6, .int 0), (5, .int 0), (4, .int 0), (0, .ref a_o), (1, .ref a_p1), (2, .int x2), (3, .int x3)]) hx hb dX2_chooseTimes_7 hl (by decide) rfl (fun ls hl => ?_)
  obtain ⟨n, h⟩ := h
  refine w_X2_chooseTimes_9 S hE hT hA hr hlocks n _ _ _ _ _ _ _ h hP hD hS (lv_sub hl [3, 4, 5, 6, 2, 1, 0] rfl)
/-! X2_cutFor -/
abbrev wX2_cutFor (cI cJ cS : ClassId) (a_o a_offs a_p1 a_p1_demands a_p1_tunes a_p1_tunes_beats a_p1_tunes_noteCounts a_p1_tunes_pitches a_spaces a_times : Nat) (z_p1_stretches z_p1_cars : Value) (v_noteCount : Int32) (f_offs : Nat → Int32) (v_p1_drawSeed : Int32) (f_p1_demands : Nat → Int32) (v_p1_tunes_tuneCount : Int32) (f_p1_tunes_beats : Nat → Int32) (f_p1_tunes_noteCounts : Nat → Int32) (f_p1_tunes_pitches : Nat → Int32) (f_spaces : Nat → Int32) (f_times : Nat → Int32) : va_W := [(a_o, .inr (2, [.ref a_spaces, .ref a_offs, .ref a_times, .int v_noteCount])), (a_offs, .inl (cI, 12, .inl f_offs)), (a_p1, .inr (4, [z_p1_stretches, z_p1_cars, .ref a_p1_tunes, .ref a_p1_demands, .int v_p1_drawSeed])), (a_p1_demands, .inl (cI, 4, .inl f_p1_demands)), (a_p1_tunes, .inr (7, [.ref a_p1_tunes_pitches, .ref a_p1_tunes_beats, .ref a_p1_tunes_noteCounts, .int v_p1_tunes_tuneCount])), (a_p1_tunes_beats, .inl (cI, 72, .inl f_p1_tunes_beats)), (a_p1_tunes_noteCounts, .inl (cI, 6, .inl f_p1_tunes_noteCounts)), (a_p1_tunes_pitches, .inl (cI, 72, .inl f_p1_tunes_pitches)), (a_spaces, .inl (cI, 12, .inl f_spaces)), (a_times, .inl (cI, 12, .inl f_times))]
def F_X2_cutFor (v_noteCount : Int32) (f_offs : Nat → Int32) (f_p1_demands : Nat → Int32) (v_p1_tunes_tuneCount : Int32) (f_p1_tunes_beats : Nat → Int32) (f_p1_tunes_noteCounts : Nat → Int32) (f_p1_tunes_pitches : Nat → Int32) (f_spaces : Nat → Int32) (f_times : Nat → Int32) (x2 : Int32) (x3 : Int32) (post : Int32 → (Nat → Int32) → (Nat → Int32) → (Nat → Int32) → Prop) : Prop := (F_X2_chooseSpaces v_noteCount f_offs f_p1_demands v_p1_tunes_tuneCount f_p1_tunes_noteCounts f_p1_tunes_pitches f_spaces x2 x3 (fun w4_0 w4_1 w4_2 => (F_X2_chooseTimes w4_0 f_p1_demands v_p1_tunes_tuneCount f_p1_tunes_beats f_p1_tunes_noteCounts w4_2 f_times x2 x3 (fun w11_0 => post w4_0 w4_1 w4_2 w11_0))))
set_option maxHeartbeats 4000000 in
set_option maxRecDepth 100000 in
theorem c_X2_cutFor {l : Launch} {D : va_G} {cI cJ cS : ClassId} {ad adK : Nat → Nat} {a_o a_offs a_p1 a_p1_demands a_p1_tunes a_p1_tunes_beats a_p1_tunes_noteCounts a_p1_tunes_pitches a_spaces a_times : Nat} {z_p1_stretches z_p1_cars : Value} {v_noteCount : Int32} {f_offs : Nat → Int32} {v_p1_drawSeed : Int32} {f_p1_demands : Nat → Int32} {v_p1_tunes_tuneCount : Int32} {f_p1_tunes_beats : Nat → Int32} {f_p1_tunes_noteCounts : Nat → Int32} {f_p1_tunes_pitches : Nat → Int32} {f_spaces : Nat → Int32} {f_times : Nat → Int32} {x2 : Int32} {x3 : Int32} {post : Int32 → (Nat → Int32) → (Nat → Int32) → (Nat → Int32) → Prop} (h : F_X2_cutFor v_noteCount f_offs f_p1_demands v_p1_tunes_tuneCount f_p1_tunes_beats f_p1_tunes_noteCounts f_p1_tunes_pitches f_spaces f_times x2 x3 post) {sz : Nat} : Met l yX2_cutFor (Cond.code yX2_cutFor cX2_cutFor 4 none :: GW) (rmd 4 0 0) (PW D cI cJ cS ad adK [.ref a_o, .ref a_p1, .int x2, .int x3] (wX2_cutFor cI cJ cS a_o a_offs a_p1 a_p1_demands a_p1_tunes a_p1_tunes_beats a_p1_tunes_noteCounts a_p1_tunes_pitches a_spaces a_times z_p1_stretches z_p1_cars v_noteCount f_offs v_p1_drawSeed f_p1_demands v_p1_tunes_tuneCount f_p1_tunes_beats f_p1_tunes_noteCounts f_p1_tunes_pitches f_spaces f_times) sz) (va_Qv (fun u : Int32 × (Nat → Int32) × (Nat → Int32) × (Nat → Int32) => post u.1 u.2.1 u.2.2.1 u.2.2.2) (fun u t => va_P D vwCl (wX2_cutFor cI cJ cS a_o a_offs a_p1 a_p1_demands a_p1_tunes a_p1_tunes_beats a_p1_tunes_noteCounts a_p1_tunes_pitches a_spaces a_times z_p1_stretches z_p1_cars u.1 u.2.1 v_p1_drawSeed f_p1_demands v_p1_tunes_tuneCount f_p1_tunes_beats f_p1_tunes_noteCounts f_p1_tunes_pitches u.2.2.1 u.2.2.2) t.heap) (va_A (wX2_cutFor cI cJ cS a_o a_offs a_p1 a_p1_demands a_p1_tunes a_p1_tunes_beats a_p1_tunes_noteCounts a_p1_tunes_pitches a_spaces a_times z_p1_stretches z_p1_cars v_noteCount f_offs v_p1_drawSeed f_p1_demands v_p1_tunes_tuneCount f_p1_tunes_beats f_p1_tunes_noteCounts f_p1_tunes_pitches f_spaces f_times) sz)) 0 0 (va_A (wX2_cutFor cI cJ cS a_o a_offs a_p1 a_p1_demands a_p1_tunes a_p1_tunes_beats a_p1_tunes_noteCounts a_p1_tunes_pitches a_spaces a_times z_p1_stretches z_p1_cars v_noteCount f_offs v_p1_drawSeed f_p1_demands v_p1_tunes_tuneCount f_p1_tunes_beats f_p1_tunes_noteCounts f_p1_tunes_pitches f_spaces f_times) sz) := by
  refine Met.rw (Qc := fun A => (va_Qv (fun u : Int32 × (Nat → Int32) × (Nat → Int32) × (Nat → Int32) => post u.1 u.2.1 u.2.2.1 u.2.2.2) (fun u t => va_P D vwCl (wX2_cutFor cI cJ cS a_o a_offs a_p1 a_p1_demands a_p1_tunes a_p1_tunes_beats a_p1_tunes_noteCounts a_p1_tunes_pitches a_spaces a_times z_p1_stretches z_p1_cars u.1 u.2.1 v_p1_drawSeed f_p1_demands v_p1_tunes_tuneCount f_p1_tunes_beats f_p1_tunes_noteCounts f_p1_tunes_pitches u.2.2.1 u.2.2.2) t.heap) A)) (by decide) (Nat.le_of_ble_eq_true rfl) (fun p e s m args below meth c ls A (S : CallFix p m c cX2_cutFor 4 s args GW "RoadThatSings$Cutting") hE hT hP hD hA hS hr hlocks hname hl => ?_)
  have hS0 := hS
  have hx := S.1
  have hb := S.2.1
  have hl : lv_has ls 4 [(0, .ref a_o), (1, .ref a_p1), (2, .int x2), (3, .int x3)] := hl
  unfold F_X2_cutFor at h
  refine lv_aload_n hx hb dX2_cutFor_0 rfl (lv_at hl 0 rfl) ?_
  refine lv_aload_n hx hb dX2_cutFor_1 rfl (lv_at hl 1 rfl) ?_
  refine lv_iload_n hx hb dX2_cutFor_2 rfl (lv_at hl 2 rfl) ?_
  refine lv_iload_n hx hb dX2_cutFor_3 rfl (lv_at hl 3 rfl) ?_
  refine rw_v (rwV S hE hT hS hP hD hA (c_X2_chooseSpaces h) [0, 1, 2, 3, 4, 6, 7, 8] rfl (by decide +kernel) lkX2_29 rfl ⟨(Nat.le_of_ble_eq_true rfl), (Nat.le_of_ble_eq_true rfl)⟩ 0 rfl rfl hl.1 rfl (Nat.le_of_ble_eq_true rfl) dX2_cutFor_4 ⟨(Nat.zero_le _), (Nat.zero_le _)⟩) hP hD hS hA [0, 1, 2, 3, 4, 6, 7, 8] rfl (by decide +kernel) (fun _ => rfl) (fun u4 H locs h hP hD hS => ?_)
  obtain ⟨w4_0, w4_1, w4_2⟩ := u4
  try dsimp only at h
  have hP : va_P D vwCl (wX2_cutFor cI cJ cS a_o a_offs a_p1 a_p1_demands a_p1_tunes a_p1_tunes_beats a_p1_tunes_noteCounts a_p1_tunes_pitches a_spaces a_times z_p1_stretches z_p1_cars w4_0 w4_1 v_p1_drawSeed f_p1_demands v_p1_tunes_tuneCount f_p1_tunes_beats f_p1_tunes_noteCounts f_p1_tunes_pitches w4_2 f_times) H := wsetP 10 [5, 9] hP rfl ⟨rfl, rfl, trivial⟩ rfl rfl (by decide +kernel) (by decide +kernel) (by decide +kernel)
  have hD : va_D A (wX2_cutFor cI cJ cS a_o a_offs a_p1 a_p1_demands a_p1_tunes a_p1_tunes_beats a_p1_tunes_noteCounts a_p1_tunes_pitches a_spaces a_times z_p1_stretches z_p1_cars w4_0 w4_1 v_p1_drawSeed f_p1_demands v_p1_tunes_tuneCount f_p1_tunes_beats f_p1_tunes_noteCounts f_p1_tunes_pitches w4_2 f_times) := wsetD 10 [5, 9] hD rfl ⟨rfl, rfl, trivial⟩ rfl rfl (by decide +kernel) (by decide +kernel) (by decide +kernel)
  refine lv_aload_n hx hb dX2_cutFor_7 rfl (lv_at hl 0 rfl) ?_
  refine lv_aload_n hx hb dX2_cutFor_8 rfl (lv_at hl 1 rfl) ?_
  refine lv_iload_n hx hb dX2_cutFor_9 rfl (lv_at hl 2 rfl) ?_
  refine lv_iload_n hx hb dX2_cutFor_10 rfl (lv_at hl 3 rfl) ?_
  refine rw_v (rwV S hE hT hS hP hD hA (c_X2_chooseTimes h) [0, 2, 3, 4, 5, 6, 8, 9] rfl (by decide +kernel) lkX2_33 rfl ⟨(Nat.le_of_ble_eq_true rfl), (Nat.le_of_ble_eq_true rfl)⟩ 0 rfl rfl hl.1 rfl (Nat.le_of_ble_eq_true rfl) dX2_cutFor_11 ⟨(Nat.zero_le _), (Nat.zero_le _)⟩) hP hD hS hA [0, 2, 3, 4, 5, 6, 8, 9] rfl (by decide +kernel) (fun _ => rfl) (fun w11_0 H locs h hP hD hS => ?_)
  try dsimp only at h
  have hP : va_P D vwCl (wX2_cutFor cI cJ cS a_o a_offs a_p1 a_p1_demands a_p1_tunes a_p1_tunes_beats a_p1_tunes_noteCounts a_p1_tunes_pitches a_spaces a_times z_p1_stretches z_p1_cars w4_0 w4_1 v_p1_drawSeed f_p1_demands v_p1_tunes_tuneCount f_p1_tunes_beats f_p1_tunes_noteCounts f_p1_tunes_pitches w4_2 w11_0) H := wsetP 10 [1, 7] hP rfl ⟨rfl, rfl, trivial⟩ rfl rfl (by decide +kernel) (by decide +kernel) (by decide +kernel)
  have hD : va_D A (wX2_cutFor cI cJ cS a_o a_offs a_p1 a_p1_demands a_p1_tunes a_p1_tunes_beats a_p1_tunes_noteCounts a_p1_tunes_pitches a_spaces a_times z_p1_stretches z_p1_cars w4_0 w4_1 v_p1_drawSeed f_p1_demands v_p1_tunes_tuneCount f_p1_tunes_beats f_p1_tunes_noteCounts f_p1_tunes_pitches w4_2 w11_0) := wsetD 10 [1, 7] hD rfl ⟨rfl, rfl, trivial⟩ rfl rfl (by decide +kernel) (by decide +kernel) (by decide +kernel)
  exact W.vret hx hb hr (fun t ht _ => ⟨⟨(w4_0, w4_1, w4_2, w11_0), rfl, h, hPt hP ht⟩, hS.F ht⟩) hS.2.2 dX2_cutFor_14
/-! X2_lengthOfAll -/
abbrev wX2_lengthOfAll (cI cJ cS : ClassId) (a_o a_spaces a_times : Nat) (z_offs : Value) (v_noteCount : Int32) (f_spaces : Nat → Int32) (f_times : Nat → Int32) : va_W := [(a_o, .inr (2, [.ref a_spaces, z_offs, .ref a_times, .int v_noteCount])), (a_spaces, .inl (cI, 12, .inl f_spaces)), (a_times, .inl (cI, 12, .inl f_times))]
def L_X2_lengthOfAll_4 (v_noteCount : Int32) (f_spaces : Nat → Int32) (f_times : Nat → Int32) (post : Int32 → Prop) : Nat → Int32 → Int32 → Prop
  | 0, _, _ => False
  | n4 + 1, x1, x2 => ((v_noteCount ≤ x2 → post x1) ∧ (¬ v_noteCount ≤ x2 → (F_X2_spaceOf v_noteCount f_spaces x2 (fun r15 => (F_X2_timesOf v_noteCount f_times x2 (fun r20 => (∀ x1_25 : Int32, x1_25 = x1 + (r15 * r20) → (∀ x2_26 : Int32, x2_26 = x2 + 1 → L_X2_lengthOfAll_4 v_noteCount f_spaces f_times post n4 x1_25 x2_26))))))))
def F_X2_lengthOfAll (v_noteCount : Int32) (f_spaces : Nat → Int32) (f_times : Nat → Int32) (post : Int32 → Prop) : Prop := (∃ n4 : Nat, L_X2_lengthOfAll_4 v_noteCount f_spaces f_times post n4 0 0)
set_option maxHeartbeats 4000000 in
set_option maxRecDepth 100000 in
theorem w_X2_lengthOfAll_4 {l : Launch} {D : va_G} {cI cJ cS : ClassId} {ad adK : Nat → Nat} {a_o a_spaces a_times : Nat} {z_offs : Value} {v_noteCount : Int32} {f_spaces : Nat → Int32} {f_times : Nat → Int32} {post : Int32 → Prop} {p : Program} {e : Env} {s : State} {m : MethodId} {args : Array Value} {below : List Frame} {meth : Method} {c : Code} (S : CallFix p m c cX2_lengthOfAll 3 s args GW "RoadThatSings$Cutting") (hE : EN D cI cJ cS s) (hT : ST ad adK nof s s.heap) (hP : va_P D vwCl (wX2_lengthOfAll cI cJ cS a_o a_spaces a_times z_offs v_noteCount f_spaces f_times) s.heap) (hS : va_S nof s.heap s.heap []) (hr : meth.sig.returnType = (some (.int))) (hlocks : meth.locks = false) : ∀ n : Nat, ∀ (x1 : Int32) (x2 : Int32) (ls : Array Slot), L_X2_lengthOfAll_4 v_noteCount f_spaces f_times post n x1 x2 → lv_has ls 3 [(0, .ref a_o), (1, .int x1), (2, .int x2)] → W p l e (rmd 2 0 0) s m args below meth c s.heap [] 0 0 (MQ below (vp_Si post) args s 0 0 nof) (F0 m 4 ls []) := by
  intro n
  induction n with
  | zero =>
    intro x1 x2 ls h hl
    exact h.elim
  | succ n ih =>
    intro x1 x2 ls h hl
    rw [L_X2_lengthOfAll_4] at h
    have hx := S.1
    have hb := S.2.1
    refine lv_iload_n hx hb dX2_lengthOfAll_4 rfl (lv_at hl 2 rfl) ?_
    refine lv_aload_n hx hb dX2_lengthOfAll_5 rfl (lv_at hl 0 rfl) ?_
    refine gf S hE hP 0 rfl rfl inX2 (k := 3) (by decide) q127 rfl dX2_lengthOfAll_6 ?_
    refine lv_icmp_ge (tgt := 32) hx hb dX2_lengthOfAll_9 (by decide) (fun hc => ?_) (fun hc => ?_)
    · have h := h.1 hc
      refine lv_iload_n hx hb dX2_lengthOfAll_32 rfl (lv_at hl 1 rfl) ?_
      exact W.iret hx hb hr (fun t ht _ => ⟨_, rfl, h, ht⟩) (fun _ hq => by cases hq) dX2_lengthOfAll_33
    have h := h.2 hc
    refine lv_iload_n hx hb dX2_lengthOfAll_12 rfl (lv_at hl 1 rfl) ?_
    refine lv_aload_n hx hb dX2_lengthOfAll_13 rfl (lv_at hl 0 rfl) ?_
    refine lv_iload_n hx hb dX2_lengthOfAll_14 rfl (lv_at hl 2 rfl) ?_
    refine ro_i (roV S hE hT hS (c_X2_spaceOf h) lkX2_86 rfl ⟨(Nat.le_of_ble_eq_true rfl), (Nat.le_of_ble_eq_true rfl)⟩ (hP.sub [0, 1] rfl) 0 rfl rfl hl.1 rfl (Nat.le_of_ble_eq_true rfl) dX2_lengthOfAll_15 ⟨(Nat.zero_le _), (Nat.zero_le _)⟩) (fun r15 h => ?_)
    refine lv_aload_n hx hb dX2_lengthOfAll_18 rfl (lv_at hl 0 rfl) ?_
    refine lv_iload_n hx hb dX2_lengthOfAll_19 rfl (lv_at hl 2 rfl) ?_
    refine ro_i (roV S hE hT hS (c_X2_timesOf h) lkX2_89 rfl ⟨(Nat.le_of_ble_eq_true rfl), (Nat.le_of_ble_eq_true rfl)⟩ (hP.sub [0, 2] rfl) 0 rfl rfl hl.1 rfl (Nat.le_of_ble_eq_true rfl) dX2_lengthOfAll_20 ⟨(Nat.zero_le _), (Nat.zero_le _)⟩) (fun r20 h => ?_)
    refine lv_imul hx hb dX2_lengthOfAll_23 ?_
    refine lv_iadd hx hb dX2_lengthOfAll_24 ?_
    refine lv_topi (fun x1_25 ex1_25 => ?_)
    have h := h _ ex1_25
    refine lv_istore_n (lv' := [(1, .int x1_25), (0, .ref a_o), (2, .int x2)]) hx hb dX2_lengthOfAll_25 rfl hl (by decide) rfl (fun ls hl => ?_)
    obtain ⟨x2_26, ex2_26⟩ : ∃ z : Int32, z = x2 + 1 := ⟨_, rfl⟩
    have h := h _ ex2_26
    refine lv_iinc (v := x2_26) (lv' := [(2, .int x2_26), (1, .int x1_25), (0, .ref a_o)]) hx hb dX2_lengthOfAll_26 hl (k := 2) rfl (by rw [ex2_26]; rfl) (by decide) rfl (fun ls hl => ?_)
    refine lv_goto (tgt := 4) hx hb dX2_lengthOfAll_29 (by decide) ?_
    exact ih _ _ _ h (lv_sub hl [2, 1, 0] rfl)
set_option maxHeartbeats 4000000 in
set_option maxRecDepth 100000 in
theorem c_X2_lengthOfAll {l : Launch} {D : va_G} {cI cJ cS : ClassId} {ad adK : Nat → Nat} {a_o a_spaces a_times : Nat} {z_offs : Value} {v_noteCount : Int32} {f_spaces : Nat → Int32} {f_times : Nat → Int32} {post : Int32 → Prop} (h : F_X2_lengthOfAll v_noteCount f_spaces f_times post) : Met l yX2_lengthOfAll (Cond.code yX2_lengthOfAll cX2_lengthOfAll 3 (some (.int)) :: GW) (rmd 2 0 0) (PR D cI cJ cS ad adK [.ref a_o] (wX2_lengthOfAll cI cJ cS a_o a_spaces a_times z_offs v_noteCount f_spaces f_times)) (vp_Si post) 0 0 nof := by
  refine Met.ro (by decide) (Nat.le_of_ble_eq_true rfl) (fun p e s m args below meth c ls (S : CallFix p m c cX2_lengthOfAll 3 s args GW "RoadThatSings$Cutting") hE hT hP hS hr hlocks hl => ?_)
  have hx := S.1
  have hb := S.2.1
  have hl : lv_has ls 3 [(0, .ref a_o)] := hl
  unfold F_X2_lengthOfAll at h
  refine lv_iconst (v := 0) hx hb dX2_lengthOfAll_0 (by decide) ?_
  refine lv_istore_n (lv' := [(1, .int 0), (0, .ref a_o)]) hx hb dX2_lengthOfAll_1 rfl hl (by decide) rfl (fun ls hl => ?_)
  refine lv_iconst (v := 0) hx hb dX2_lengthOfAll_2 (by decide) ?_
  refine lv_istore_n (lv' := [(2, .int 0), (1, .int 0), (0, .ref a_o)]) hx hb dX2_lengthOfAll_3 rfl hl (by decide) rfl (fun ls hl => ?_)
  obtain ⟨n, h⟩ := h
  refine w_X2_lengthOfAll_4 S hE hT hP hS hr hlocks n _ _ _ h (lv_sub hl [2, 1, 0] rfl)
/-! X2_worstOff -/
abbrev wX2_worstOff (cI cJ cS : ClassId) (a_o a_offs : Nat) (z_spaces z_times : Value) (v_noteCount : Int32) (f_offs : Nat → Int32) : va_W := [(a_o, .inr (2, [z_spaces, .ref a_offs, z_times, .int v_noteCount])), (a_offs, .inl (cI, 12, .inl f_offs))]
def L_X2_worstOff_4 (v_noteCount : Int32) (f_offs : Nat → Int32) (post : Int32 → Prop) : Nat → Int32 → Int32 → Prop
  | 0, _, _ => False
  | n4 + 1, x1, x2 => ((v_noteCount ≤ x2 → post x1) ∧ (¬ v_noteCount ≤ x2 → (F_X2_offOf v_noteCount f_offs x2 (fun r15 => (∀ x1_21 : Int32, x1_21 = (if x1 < r15 then r15 else x1) → (∀ x2_22 : Int32, x2_22 = x2 + 1 → L_X2_worstOff_4 v_noteCount f_offs post n4 x1_21 x2_22))))))
def F_X2_worstOff (v_noteCount : Int32) (f_offs : Nat → Int32) (post : Int32 → Prop) : Prop := (∃ n4 : Nat, L_X2_worstOff_4 v_noteCount f_offs post n4 0 0)
set_option maxHeartbeats 4000000 in
set_option maxRecDepth 100000 in
theorem w_X2_worstOff_4 {l : Launch} {D : va_G} {cI cJ cS : ClassId} {ad adK : Nat → Nat} {a_o a_offs : Nat} {z_spaces z_times : Value} {v_noteCount : Int32} {f_offs : Nat → Int32} {post : Int32 → Prop} {p : Program} {e : Env} {s : State} {m : MethodId} {args : Array Value} {below : List Frame} {meth : Method} {c : Code} (S : CallFix p m c cX2_worstOff 3 s args GW "RoadThatSings$Cutting") (hE : EN D cI cJ cS s) (hT : ST ad adK nof s s.heap) (hP : va_P D vwCl (wX2_worstOff cI cJ cS a_o a_offs z_spaces z_times v_noteCount f_offs) s.heap) (hS : va_S nof s.heap s.heap []) (hr : meth.sig.returnType = (some (.int))) (hlocks : meth.locks = false) : ∀ n : Nat, ∀ (x1 : Int32) (x2 : Int32) (ls : Array Slot), L_X2_worstOff_4 v_noteCount f_offs post n x1 x2 → lv_has ls 3 [(0, .ref a_o), (1, .int x1), (2, .int x2)] → W p l e (rmd 2 0 0) s m args below meth c s.heap [] 0 0 (MQ below (vp_Si post) args s 0 0 nof) (F0 m 4 ls []) := by
  intro n
  induction n with
  | zero =>
    intro x1 x2 ls h hl
    exact h.elim
  | succ n ih =>
    intro x1 x2 ls h hl
    rw [L_X2_worstOff_4] at h
    have hx := S.1
    have hb := S.2.1
    refine lv_iload_n hx hb dX2_worstOff_4 rfl (lv_at hl 2 rfl) ?_
    refine lv_aload_n hx hb dX2_worstOff_5 rfl (lv_at hl 0 rfl) ?_
    refine gf S hE hP 0 rfl rfl inX2 (k := 3) (by decide) q127 rfl dX2_worstOff_6 ?_
    refine lv_icmp_ge (tgt := 28) hx hb dX2_worstOff_9 (by decide) (fun hc => ?_) (fun hc => ?_)
    · have h := h.1 hc
      refine lv_iload_n hx hb dX2_worstOff_28 rfl (lv_at hl 1 rfl) ?_
      exact W.iret hx hb hr (fun t ht _ => ⟨_, rfl, h, ht⟩) (fun _ hq => by cases hq) dX2_worstOff_29
    have h := h.2 hc
    refine lv_iload_n hx hb dX2_worstOff_12 rfl (lv_at hl 1 rfl) ?_
    refine lv_aload_n hx hb dX2_worstOff_13 rfl (lv_at hl 0 rfl) ?_
    refine lv_iload_n hx hb dX2_worstOff_14 rfl (lv_at hl 2 rfl) ?_
    refine ro_i (roV S hE hT hS (c_X2_offOf h) lkX2_92 rfl ⟨(Nat.le_of_ble_eq_true rfl), (Nat.le_of_ble_eq_true rfl)⟩ (hP.sub [0, 1] rfl) 0 rfl rfl hl.1 rfl (Nat.le_of_ble_eq_true rfl) dX2_worstOff_15 ⟨(Nat.zero_le _), (Nat.zero_le _)⟩) (fun r15 h => ?_)
    refine va_mmax hx hb (S.2.2.1.trans hl.1.symm) S.2.2.2.1 (S.2.2.2.2 _ q860) (S.2.2.2.2 _ q236) (S.2.2.2.2 _ q10) (S.2.2.2.2 _ q237) (Nat.le_of_ble_eq_true rfl) (Nat.le_of_ble_eq_true rfl) (Nat.zero_le _) (Nat.zero_le _) dX2_worstOff_18 ?_
    refine lv_topi (fun x1_21 ex1_21 => ?_)
    have h := h _ ex1_21
    refine lv_istore_n (lv' := [(1, .int x1_21), (0, .ref a_o), (2, .int x2)]) hx hb dX2_worstOff_21 rfl hl (by decide) rfl (fun ls hl => ?_)
    obtain ⟨x2_22, ex2_22⟩ : ∃ z : Int32, z = x2 + 1 := ⟨_, rfl⟩
    have h := h _ ex2_22
    refine lv_iinc (v := x2_22) (lv' := [(2, .int x2_22), (1, .int x1_21), (0, .ref a_o)]) hx hb dX2_worstOff_22 hl (k := 2) rfl (by rw [ex2_22]; rfl) (by decide) rfl (fun ls hl => ?_)
    refine lv_goto (tgt := 4) hx hb dX2_worstOff_25 (by decide) ?_
    exact ih _ _ _ h (lv_sub hl [2, 1, 0] rfl)
set_option maxHeartbeats 4000000 in
set_option maxRecDepth 100000 in
theorem c_X2_worstOff {l : Launch} {D : va_G} {cI cJ cS : ClassId} {ad adK : Nat → Nat} {a_o a_offs : Nat} {z_spaces z_times : Value} {v_noteCount : Int32} {f_offs : Nat → Int32} {post : Int32 → Prop} (h : F_X2_worstOff v_noteCount f_offs post) : Met l yX2_worstOff (Cond.code yX2_worstOff cX2_worstOff 3 (some (.int)) :: GW) (rmd 2 0 0) (PR D cI cJ cS ad adK [.ref a_o] (wX2_worstOff cI cJ cS a_o a_offs z_spaces z_times v_noteCount f_offs)) (vp_Si post) 0 0 nof := by
  refine Met.ro (by decide) (Nat.le_of_ble_eq_true rfl) (fun p e s m args below meth c ls (S : CallFix p m c cX2_worstOff 3 s args GW "RoadThatSings$Cutting") hE hT hP hS hr hlocks hl => ?_)
  have hx := S.1
  have hb := S.2.1
  have hl : lv_has ls 3 [(0, .ref a_o)] := hl
  unfold F_X2_worstOff at h
  refine lv_iconst (v := 0) hx hb dX2_worstOff_0 (by decide) ?_
  refine lv_istore_n (lv' := [(1, .int 0), (0, .ref a_o)]) hx hb dX2_worstOff_1 rfl hl (by decide) rfl (fun ls hl => ?_)
  refine lv_iconst (v := 0) hx hb dX2_worstOff_2 (by decide) ?_
  refine lv_istore_n (lv' := [(2, .int 0), (1, .int 0), (0, .ref a_o)]) hx hb dX2_worstOff_3 rfl hl (by decide) rfl (fun ls hl => ?_)
  obtain ⟨n, h⟩ := h
  refine w_X2_worstOff_4 S hE hT hP hS hr hlocks n _ _ _ h (lv_sub hl [2, 1, 0] rfl)
/-! X2_isHeardAt -/
abbrev wX2_isHeardAt (cI cJ cS : ClassId) (a_o a_p1 a_p1_demands a_p1_tunes a_p1_tunes_noteCounts a_p1_tunes_pitches a_spaces : Nat) (z_offs z_times z_p1_stretches z_p1_cars z_p1_tunes_beats : Value) (v_noteCount : Int32) (v_p1_drawSeed : Int32) (f_p1_demands : Nat → Int32) (v_p1_tunes_tuneCount : Int32) (f_p1_tunes_noteCounts : Nat → Int32) (f_p1_tunes_pitches : Nat → Int32) (f_spaces : Nat → Int32) : va_W := [(a_o, .inr (2, [.ref a_spaces, z_offs, z_times, .int v_noteCount])), (a_p1, .inr (4, [z_p1_stretches, z_p1_cars, .ref a_p1_tunes, .ref a_p1_demands, .int v_p1_drawSeed])), (a_p1_demands, .inl (cI, 4, .inl f_p1_demands)), (a_p1_tunes, .inr (7, [.ref a_p1_tunes_pitches, z_p1_tunes_beats, .ref a_p1_tunes_noteCounts, .int v_p1_tunes_tuneCount])), (a_p1_tunes_noteCounts, .inl (cI, 6, .inl f_p1_tunes_noteCounts)), (a_p1_tunes_pitches, .inl (cI, 72, .inl f_p1_tunes_pitches)), (a_spaces, .inl (cI, 12, .inl f_spaces))]
def F_X2_isHeardAt_54 (k3 : Int32 → Prop) (x2 : Int32) (x3 : Int32) (x4 : Int32) : Prop := (∀ x4_54 : Int32, x4_54 = x4 + 1 → k3 x4_54)
def L_X2_isHeardAt_3 (v_noteCount : Int32) (f_p1_demands : Nat → Int32) (v_p1_tunes_tuneCount : Int32) (f_p1_tunes_noteCounts : Nat → Int32) (f_p1_tunes_pitches : Nat → Int32) (f_spaces : Nat → Int32) (x2 : Int32) (x3 : Int32) (post : Int32 → Prop) : Nat → Int32 → Prop
  | 0, _ => False
  | n3 + 1, x4 => ((v_noteCount ≤ x4 → post 1) ∧ (¬ v_noteCount ≤ x4 → (F_X8_pitchOf v_p1_tunes_tuneCount f_p1_tunes_noteCounts f_p1_tunes_pitches x2 x4 (fun r19 => ((r19 = 0 → F_X2_isHeardAt_54 (fun x4 => L_X2_isHeardAt_3 v_noteCount f_p1_demands v_p1_tunes_tuneCount f_p1_tunes_noteCounts f_p1_tunes_pitches f_spaces x2 x3 post n3 x4) x2 x3 x4) ∧ (¬ r19 = 0 → (F_X2_spaceOf v_noteCount f_spaces x4 (fun r32 => (F_X9_humBy r32 x3 (fun r36 => (F_X9_offBetween r36 r19 (fun r41 => (F_X5_asked f_p1_demands 2 (fun r46 => ((r41 ≤ r46 → F_X2_isHeardAt_54 (fun x4 => L_X2_isHeardAt_3 v_noteCount f_p1_demands v_p1_tunes_tuneCount f_p1_tunes_noteCounts f_p1_tunes_pitches f_spaces x2 x3 post n3 x4) x2 x3 x4) ∧ (¬ r41 ≤ r46 → post 0))))))))))))))))
def F_X2_isHeardAt (v_noteCount : Int32) (f_p1_demands : Nat → Int32) (v_p1_tunes_tuneCount : Int32) (f_p1_tunes_noteCounts : Nat → Int32) (f_p1_tunes_pitches : Nat → Int32) (f_spaces : Nat → Int32) (x2 : Int32) (x3 : Int32) (post : Int32 → Prop) : Prop := (∃ n3 : Nat, L_X2_isHeardAt_3 v_noteCount f_p1_demands v_p1_tunes_tuneCount f_p1_tunes_noteCounts f_p1_tunes_pitches f_spaces x2 x3 post n3 0)
set_option maxHeartbeats 4000000 in
set_option maxRecDepth 100000 in
theorem w_X2_isHeardAt_54 {l : Launch} {D : va_G} {cI cJ cS : ClassId} {ad adK : Nat → Nat} {a_o a_p1 a_p1_demands a_p1_tunes a_p1_tunes_noteCounts a_p1_tunes_pitches a_spaces : Nat} {z_offs z_times z_p1_stretches z_p1_cars z_p1_tunes_beats : Value} {v_noteCount : Int32} {v_p1_drawSeed : Int32} {f_p1_demands : Nat → Int32} {v_p1_tunes_tuneCount : Int32} {f_p1_tunes_noteCounts : Nat → Int32} {f_p1_tunes_pitches : Nat → Int32} {f_spaces : Nat → Int32} {x2 : Int32} {x3 : Int32} {x4 : Int32} {post : Int32 → Prop} {k3 : Int32 → Prop} {p : Program} {e : Env} {s : State} {m : MethodId} {args : Array Value} {below : List Frame} {meth : Method} {c : Code} (S : CallFix p m c cX2_isHeardAt 6 s args GW "RoadThatSings$Cutting") (hE : EN D cI cJ cS s) (hT : ST ad adK nof s s.heap) (hP : va_P D vwCl (wX2_isHeardAt cI cJ cS a_o a_p1 a_p1_demands a_p1_tunes a_p1_tunes_noteCounts a_p1_tunes_pitches a_spaces z_offs z_times z_p1_stretches z_p1_cars z_p1_tunes_beats v_noteCount v_p1_drawSeed f_p1_demands v_p1_tunes_tuneCount f_p1_tunes_noteCounts f_p1_tunes_pitches f_spaces) s.heap) (hS : va_S nof s.heap s.heap []) (hr : meth.sig.returnType = (some (.boolean))) (hlocks : meth.locks = false) (hk3 : ∀ (x4 : Int32) (ls : Array Slot), k3 x4 → lv_has ls 6 [(0, .ref a_o), (1, .ref a_p1), (2, .int x2), (3, .int x3), (4, .int x4)] → W p l e (rmd 3 0 0) s m args below meth c s.heap [] 0 0 (MQ below (vp_Si post) args s 0 0 nof) (F0 m 3 ls [])) : ∀ (ls : Array Slot), F_X2_isHeardAt_54 k3 x2 x3 x4 → lv_has ls 6 [(0, .ref a_o), (1, .ref a_p1), (2, .int x2), (3, .int x3), (4, .int x4)] → W p l e (rmd 3 0 0) s m args below meth c s.heap [] 0 0 (MQ below (vp_Si post) args s 0 0 nof) (F0 m 54 ls []) := by
  intro  ls h hl
  unfold F_X2_isHeardAt_54 at h
  have hx := S.1
  have hb := S.2.1
  obtain ⟨x4_54, ex4_54⟩ : ∃ z : Int32, z = x4 + 1 := ⟨_, rfl⟩
  have h := h _ ex4_54
  refine lv_iinc (v := x4_54) (lv' := [(4, .int x4_54), (0, .ref a_o), (1, .ref a_p1), (2, .int x2), (3, .int x3)]) hx hb dX2_isHeardAt_54 hl (k := 4) rfl (by rw [ex4_54]; rfl) (by decide) rfl (fun ls hl => ?_)
  refine lv_goto (tgt := 3) hx hb dX2_isHeardAt_57 (by decide) ?_
  exact hk3 _ _ h (lv_sub hl [1, 2, 3, 4, 0] rfl)
set_option maxHeartbeats 4000000 in
set_option maxRecDepth 100000 in
theorem w_X2_isHeardAt_3 {l : Launch} {D : va_G} {cI cJ cS : ClassId} {ad adK : Nat → Nat} {a_o a_p1 a_p1_demands a_p1_tunes a_p1_tunes_noteCounts a_p1_tunes_pitches a_spaces : Nat} {z_offs z_times z_p1_stretches z_p1_cars z_p1_tunes_beats : Value} {v_noteCount : Int32} {v_p1_drawSeed : Int32} {f_p1_demands : Nat → Int32} {v_p1_tunes_tuneCount : Int32} {f_p1_tunes_noteCounts : Nat → Int32} {f_p1_tunes_pitches : Nat → Int32} {f_spaces : Nat → Int32} {x2 : Int32} {x3 : Int32} {post : Int32 → Prop} {p : Program} {e : Env} {s : State} {m : MethodId} {args : Array Value} {below : List Frame} {meth : Method} {c : Code} (S : CallFix p m c cX2_isHeardAt 6 s args GW "RoadThatSings$Cutting") (hE : EN D cI cJ cS s) (hT : ST ad adK nof s s.heap) (hP : va_P D vwCl (wX2_isHeardAt cI cJ cS a_o a_p1 a_p1_demands a_p1_tunes a_p1_tunes_noteCounts a_p1_tunes_pitches a_spaces z_offs z_times z_p1_stretches z_p1_cars z_p1_tunes_beats v_noteCount v_p1_drawSeed f_p1_demands v_p1_tunes_tuneCount f_p1_tunes_noteCounts f_p1_tunes_pitches f_spaces) s.heap) (hS : va_S nof s.heap s.heap []) (hr : meth.sig.returnType = (some (.boolean))) (hlocks : meth.locks = false) : ∀ n : Nat, ∀ (x4 : Int32) (ls : Array Slot), L_X2_isHeardAt_3 v_noteCount f_p1_demands v_p1_tunes_tuneCount f_p1_tunes_noteCounts f_p1_tunes_pitches f_spaces x2 x3 post n x4 → lv_has ls 6 [(0, .ref a_o), (1, .ref a_p1), (2, .int x2), (3, .int x3), (4, .int x4)] → W p l e (rmd 3 0 0) s m args below meth c s.heap [] 0 0 (MQ below (vp_Si post) args s 0 0 nof) (F0 m 3 ls []) := by
  intro n
  induction n with
  | zero =>
    intro x4 ls h hl
    exact h.elim
  | succ n ih =>
    intro x4 ls h hl
    rw [L_X2_isHeardAt_3] at h
    have hx := S.1
    have hb := S.2.1
    refine lv_iload hx hb dX2_isHeardAt_3 (lv_at hl 4 rfl) ?_
    refine lv_aload_n hx hb dX2_isHeardAt_5 rfl (lv_at hl 0 rfl) ?_
    refine gf S hE hP 0 rfl rfl inX2 (k := 3) (by decide) q127 rfl dX2_isHeardAt_6 ?_
    refine lv_icmp_ge (tgt := 60) hx hb dX2_isHeardAt_9 (by decide) (fun hc => ?_) (fun hc => ?_)
    · have h := h.1 hc
      refine lv_iconst (v := 1) hx hb dX2_isHeardAt_60 (by decide) ?_
      exact W.zret hx hb hr rfl (fun t ht _ => ⟨_, rfl, h, ht⟩) (fun _ hq => by cases hq) dX2_isHeardAt_61
    have h := h.2 hc
    refine lv_aload_n hx hb dX2_isHeardAt_12 rfl (lv_at hl 1 rfl) ?_
    refine gfN S hE hP 1 rfl rfl inX5 (k := 2) (by decide) nfX2_36 rfl dX2_isHeardAt_13 ?_
    refine lv_iload_n hx hb dX2_isHeardAt_16 rfl (lv_at hl 2 rfl) ?_
    refine lv_iload hx hb dX2_isHeardAt_17 (lv_at hl 4 rfl) ?_
    refine ro_i (roV S hE hT hS (c_X8_pitchOf h) lkX2_54 rfl ⟨(Nat.le_of_ble_eq_true rfl), (Nat.le_of_ble_eq_true rfl)⟩ (hP.sub [3, 4, 5] rfl) 0 rfl rfl hl.1 rfl (Nat.le_of_ble_eq_true rfl) dX2_isHeardAt_19 ⟨(Nat.zero_le _), (Nat.zero_le _)⟩) (fun r19 h => ?_)
    refine lv_istore (lv' := [(5, .int r19), (0, .ref a_o), (1, .ref a_p1), (2, .int x2), (3, .int x3), (4, .int x4)]) hx hb dX2_isHeardAt_22 hl (by decide) rfl (fun ls hl => ?_)
    refine lv_iload hx hb dX2_isHeardAt_24 (lv_at hl 0 rfl) ?_
    refine lv_if_eq (tgt := 54) hx hb dX2_isHeardAt_26 (by decide) (fun hc => ?_) (fun hc => ?_)
    · have h := h.1 hc
      refine w_X2_isHeardAt_54 S hE hT hP hS hr hlocks ih _ h (lv_sub hl [1, 2, 3, 4, 5] rfl)
    have h := h.2 hc
    refine lv_aload_n hx hb dX2_isHeardAt_29 rfl (lv_at hl 1 rfl) ?_
    refine lv_iload hx hb dX2_isHeardAt_30 (lv_at hl 5 rfl) ?_
    refine ro_i (roV S hE hT hS (c_X2_spaceOf h) lkX2_86 rfl ⟨(Nat.le_of_ble_eq_true rfl), (Nat.le_of_ble_eq_true rfl)⟩ (hP.sub [0, 6] rfl) 0 rfl rfl hl.1 rfl (Nat.le_of_ble_eq_true rfl) dX2_isHeardAt_32 ⟨(Nat.zero_le _), (Nat.zero_le _)⟩) (fun r32 h => ?_)
    refine lv_iload_n hx hb dX2_isHeardAt_35 rfl (lv_at hl 4 rfl) ?_
    refine ro_i (roSN S hE hT hS (c_X9_humBy h) lkX2_64 rfl ⟨(Nat.le_of_ble_eq_true rfl), (Nat.le_of_ble_eq_true rfl)⟩ (hP.sub [] rfl) hl.1 rfl (Nat.le_of_ble_eq_true rfl) dX2_isHeardAt_36 ⟨(Nat.zero_le _), (Nat.zero_le _)⟩) (fun r36 h => ?_)
    refine lv_iload hx hb dX2_isHeardAt_39 (lv_at hl 0 rfl) ?_
    refine ro_i (roSN S hE hT hS (c_X9_offBetween h) lkX2_67 rfl ⟨(Nat.le_of_ble_eq_true rfl), (Nat.le_of_ble_eq_true rfl)⟩ (hP.sub [] rfl) hl.1 rfl (Nat.le_of_ble_eq_true rfl) dX2_isHeardAt_41 ⟨(Nat.zero_le _), (Nat.zero_le _)⟩) (fun r41 h => ?_)
    refine lv_aload_n hx hb dX2_isHeardAt_44 rfl (lv_at hl 2 rfl) ?_
    refine lv_iconst (v := 2) hx hb dX2_isHeardAt_45 (by decide) ?_
    refine ro_i (roV S hE hT hS (c_X5_asked h) lkX2_57 rfl ⟨(Nat.le_of_ble_eq_true rfl), (Nat.le_of_ble_eq_true rfl)⟩ (hP.sub [1, 2] rfl) 0 rfl rfl hl.1 rfl (Nat.le_of_ble_eq_true rfl) dX2_isHeardAt_46 ⟨(Nat.zero_le _), (Nat.zero_le _)⟩) (fun r46 h => ?_)
    refine lv_icmp_le (tgt := 54) hx hb dX2_isHeardAt_49 (by decide) (fun hc => ?_) (fun hc => ?_)
    · have h := h.1 hc
      refine w_X2_isHeardAt_54 S hE hT hP hS hr hlocks ih _ h (lv_sub hl [1, 2, 3, 4, 5] rfl)
    have h := h.2 hc
    refine lv_iconst (v := 0) hx hb dX2_isHeardAt_52 (by decide) ?_
    exact W.zret hx hb hr rfl (fun t ht _ => ⟨_, rfl, h, ht⟩) (fun _ hq => by cases hq) dX2_isHeardAt_53
set_option maxHeartbeats 4000000 in
set_option maxRecDepth 100000 in
theorem c_X2_isHeardAt {l : Launch} {D : va_G} {cI cJ cS : ClassId} {ad adK : Nat → Nat} {a_o a_p1 a_p1_demands a_p1_tunes a_p1_tunes_noteCounts a_p1_tunes_pitches a_spaces : Nat} {z_offs z_times z_p1_stretches z_p1_cars z_p1_tunes_beats : Value} {v_noteCount : Int32} {v_p1_drawSeed : Int32} {f_p1_demands : Nat → Int32} {v_p1_tunes_tuneCount : Int32} {f_p1_tunes_noteCounts : Nat → Int32} {f_p1_tunes_pitches : Nat → Int32} {f_spaces : Nat → Int32} {x2 : Int32} {x3 : Int32} {post : Int32 → Prop} (h : F_X2_isHeardAt v_noteCount f_p1_demands v_p1_tunes_tuneCount f_p1_tunes_noteCounts f_p1_tunes_pitches f_spaces x2 x3 post) : Met l yX2_isHeardAt (Cond.code yX2_isHeardAt cX2_isHeardAt 6 (some (.boolean)) :: GW) (rmd 3 0 0) (PR D cI cJ cS ad adK [.ref a_o, .ref a_p1, .int x2, .int x3] (wX2_isHeardAt cI cJ cS a_o a_p1 a_p1_demands a_p1_tunes a_p1_tunes_noteCounts a_p1_tunes_pitches a_spaces z_offs z_times z_p1_stretches z_p1_cars z_p1_tunes_beats v_noteCount v_p1_drawSeed f_p1_demands v_p1_tunes_tuneCount f_p1_tunes_noteCounts f_p1_tunes_pitches f_spaces)) (vp_Si post) 0 0 nof := by
  refine Met.ro (by decide) (Nat.le_of_ble_eq_true rfl) (fun p e s m args below meth c ls (S : CallFix p m c cX2_isHeardAt 6 s args GW "RoadThatSings$Cutting") hE hT hP hS hr hlocks hl => ?_)
  have hx := S.1
  have hb := S.2.1
  have hl : lv_has ls 6 [(0, .ref a_o), (1, .ref a_p1), (2, .int x2), (3, .int x3)] := hl
  unfold F_X2_isHeardAt at h
  refine lv_iconst (v := 0) hx hb dX2_isHeardAt_0 (by decide) ?_
  refine lv_istore (lv' := [(4, .int 0), (0, .ref a_o), (1, .ref a_p1), (2, .int x2), (3, .int x3)]) hx hb dX2_isHeardAt_1 hl (by decide) rfl (fun ls hl => ?_)
  obtain ⟨n, h⟩ := h
  refine w_X2_isHeardAt_3 S hE hT hP hS hr hlocks n _ _ h (lv_sub hl [1, 2, 3, 4, 0] rfl)
/-! X3_hasOther -/
abbrev wX3_hasOther (cI cJ cS : ClassId) : va_W := []
def F_X3_hasOther (t0 : Nat) (post : Int32 → Prop) : Prop := (t0 < 13 ∧ (((tbForm.getD t0 0) = 0 → (t0 < 13 ∧ (((tbNumber.getD t0 0) = 2 → post 1) ∧ (¬ (tbNumber.getD t0 0) = 2 → (t0 < 13 ∧ (((tbNumber.getD t0 0) = 5 → post 1) ∧ (¬ (tbNumber.getD t0 0) = 5 → (t0 < 13 ∧ (((tbNumber.getD t0 0) = 6 → post 1) ∧ (¬ (tbNumber.getD t0 0) = 6 → post 0)))))))))) ∧ (¬ (tbForm.getD t0 0) = 0 → post 0)))
set_option maxHeartbeats 4000000 in
set_option maxRecDepth 100000 in
theorem c_X3_hasOther {l : Launch} {D : va_G} {cI cJ cS : ClassId} {ad adK : Nat → Nat}  {t0 : Nat} {post : Int32 → Prop} (h : F_X3_hasOther t0 post) : ∀ (p : Program) (e : Env) (s : State) (m : MethodId) (args : Array Value) (below : List Frame) (meth : Method) (c : Code) (ls : Array Slot), CallFix p m c cX3_hasOther 1 s args GW yX3_hasOther.cls → EN D cI cJ cS s → ST ad adK nof s s.heap → va_P D vwCl (wX3_hasOther cI cJ cS) s.heap → va_S nof s.heap s.heap [] → meth.sig.returnType = (some (.boolean)) → meth.locks = false → lv_has ls 1 (lv_args 0 [.ref (ad t0)]) → W p l e (rmd 0 0 0) s m args below meth c s.heap [] 0 0 (MQ below (vp_Si post) args s 0 0 nof) (F0 m 0 ls []) := by
  intro p e s m args below meth c ls S hE hT hP hS hr hlocks hl
  have S : CallFix p m c cX3_hasOther 1 s args GW "RoadThatSings$Item" := S
  have hx := S.1
  have hb := S.2.1
  have hl : lv_has ls 1 [(0, .ref (ad t0))] := hl
  unfold F_X3_hasOther at h
  refine lv_aload_n hx hb dX3_hasOther_0 rfl (lv_at hl 0 rfl) ?_
  obtain ⟨hi, h⟩ := h
  refine itf S (hT.form hi) hS q1608 dX3_hasOther_1 ?_
  refine lv_if_ne (tgt := 36) hx hb dX3_hasOther_4 (by decide) (fun hc => ?_) (fun hc => ?_)
  · have h := h.2 hc
    refine lv_iconst (v := 0) hx hb dX3_hasOther_36 (by decide) ?_
    exact W.zret hx hb hr rfl (fun t ht _ => ⟨_, rfl, h, ht⟩) (fun _ hq => by cases hq) dX3_hasOther_37
  have h := h.1 hc
  refine lv_aload_n hx hb dX3_hasOther_7 rfl (lv_at hl 0 rfl) ?_
  obtain ⟨hi, h⟩ := h
  refine itf S (hT.number hi) hS q1609 dX3_hasOther_8 ?_
  refine lv_iconst (v := 2) hx hb dX3_hasOther_11 (by decide) ?_
  refine lv_icmp_eq (tgt := 32) hx hb dX3_hasOther_12 (by decide) (fun hc => ?_) (fun hc => ?_)
  · have h := h.1 hc
    refine lv_iconst (v := 1) hx hb dX3_hasOther_32 (by decide) ?_
    refine lv_goto (tgt := 37) hx hb dX3_hasOther_33 (by decide) ?_
    exact W.zret hx hb hr rfl (fun t ht _ => ⟨_, rfl, h, ht⟩) (fun _ hq => by cases hq) dX3_hasOther_37
  have h := h.2 hc
  refine lv_aload_n hx hb dX3_hasOther_15 rfl (lv_at hl 0 rfl) ?_
  obtain ⟨hi, h⟩ := h
  refine itf S (hT.number hi) hS q1609 dX3_hasOther_16 ?_
  refine lv_iconst (v := 5) hx hb dX3_hasOther_19 (by decide) ?_
  refine lv_icmp_eq (tgt := 32) hx hb dX3_hasOther_20 (by decide) (fun hc => ?_) (fun hc => ?_)
  · have h := h.1 hc
    refine lv_iconst (v := 1) hx hb dX3_hasOther_32 (by decide) ?_
    refine lv_goto (tgt := 37) hx hb dX3_hasOther_33 (by decide) ?_
    exact W.zret hx hb hr rfl (fun t ht _ => ⟨_, rfl, h, ht⟩) (fun _ hq => by cases hq) dX3_hasOther_37
  have h := h.2 hc
  refine lv_aload_n hx hb dX3_hasOther_23 rfl (lv_at hl 0 rfl) ?_
  obtain ⟨hi, h⟩ := h
  refine itf S (hT.number hi) hS q1609 dX3_hasOther_24 ?_
  refine lv_bipush (v := 6) hx hb dX3_hasOther_27 (by decide) ?_
  refine lv_icmp_ne (tgt := 36) hx hb dX3_hasOther_29 (by decide) (fun hc => ?_) (fun hc => ?_)
  · have h := h.2 hc
    refine lv_iconst (v := 0) hx hb dX3_hasOther_36 (by decide) ?_
    exact W.zret hx hb hr rfl (fun t ht _ => ⟨_, rfl, h, ht⟩) (fun _ hq => by cases hq) dX3_hasOther_37
  have h := h.1 hc
  refine lv_iconst (v := 1) hx hb dX3_hasOther_32 (by decide) ?_
  refine lv_goto (tgt := 37) hx hb dX3_hasOther_33 (by decide) ?_
  exact W.zret hx hb hr rfl (fun t ht _ => ⟨_, rfl, h, ht⟩) (fun _ hq => by cases hq) dX3_hasOther_37
/-! X4_faultFound -/
abbrev wX4_faultFound (cI cJ cS : ClassId) (a_o : Nat) (z_text z_told : Value) (v_at : Int32) (v_faultAt : Int32) : va_W := [(a_o, .inr (3, [z_text, z_told, .int v_at, .int v_faultAt]))]
def F_X4_faultFound (v_faultAt : Int32) (post : Int32 → Prop) : Prop := post v_faultAt
set_option maxHeartbeats 4000000 in
set_option maxRecDepth 100000 in
theorem c_X4_faultFound {l : Launch} {D : va_G} {cI cJ cS : ClassId} {ad adK : Nat → Nat} {a_o : Nat} {z_text z_told : Value} {v_at : Int32} {v_faultAt : Int32} {post : Int32 → Prop} (h : F_X4_faultFound v_faultAt post) : Met l yX4_faultFound (Cond.code yX4_faultFound cX4_faultFound 1 (some (.int)) :: GW) (rmd 0 0 0) (PR D cI cJ cS ad adK [.ref a_o] (wX4_faultFound cI cJ cS a_o z_text z_told v_at v_faultAt)) (vp_Si post) 0 0 nof := by
  refine Met.ro (by decide) (Nat.le_of_ble_eq_true rfl) (fun p e s m args below meth c ls (S : CallFix p m c cX4_faultFound 1 s args GW "RoadThatSings$Reader") hE hT hP hS hr hlocks hl => ?_)
  have hx := S.1
  have hb := S.2.1
  have hl : lv_has ls 1 [(0, .ref a_o)] := hl
  unfold F_X4_faultFound at h
  refine lv_aload_n hx hb dX4_faultFound_0 rfl (lv_at hl 0 rfl) ?_
  refine gf S hE hP 0 rfl rfl inX4 (k := 3) (by decide) q577 rfl dX4_faultFound_1 ?_
  exact W.iret hx hb hr (fun t ht _ => ⟨_, rfl, h, ht⟩) (fun _ hq => by cases hq) dX4_faultFound_4
/-! J0_coder_7d493 -/
abbrev wJ0_coder_7d493 (cI cJ cS : ClassId) : va_W := []
def F_J0_coder_7d493 (t0 : Nat) (post : Int32 → Prop) : Prop := (((1 : Int32) = 0 → post 1) ∧ (¬ (1 : Int32) = 0 → (t0 < 13 ∧ post 0)))
set_option maxHeartbeats 4000000 in
set_option maxRecDepth 100000 in
theorem c_J0_coder_7d493 {l : Launch} {D : va_G} {cI cJ cS : ClassId} {ad adK : Nat → Nat}  {t0 : Nat} {post : Int32 → Prop} (h : F_J0_coder_7d493 t0 post) : Met l yJ0_coder_7d493 (Cond.code yJ0_coder_7d493 cJ0_coder_7d493 1 (some (.byte)) :: GW) (rmd 0 0 0) (PR D cI cJ cS ad adK [.ref (adK (2 * t0))] (wJ0_coder_7d493 cI cJ cS)) (vp_Si post) 0 0 nof := by
  refine Met.ro (by decide) (Nat.le_of_ble_eq_true rfl) (fun p e s m args below meth c ls (S : CallFix p m c cJ0_coder_7d493 1 s args GW "java/lang/String") hE hT hP hS hr hlocks hl => ?_)
  have hx := S.1
  have hb := S.2.1
  have hl : lv_has ls 1 [(0, .ref (adK (2 * t0)))] := hl
  unfold F_J0_coder_7d493 at h
  refine gsC S hT hS q613 dJ0_coder_7d493_0 ?_
  refine lv_if_eq (tgt := 13) hx hb dJ0_coder_7d493_3 (by decide) (fun hc => ?_) (fun hc => ?_)
  · have h := h.1 hc
    refine lv_iconst (v := 1) hx hb dJ0_coder_7d493_13 (by decide) ?_
    exact W.zret hx hb hr rfl (fun t ht _ => ⟨_, rfl, h, ht⟩) (fun _ hq => by cases hq) dJ0_coder_7d493_14
  have h := h.2 hc
  refine lv_aload_n hx hb dJ0_coder_7d493_6 rfl (lv_at hl 0 rfl) ?_
  obtain ⟨hi, h⟩ := h
  refine itf S (hT.coder hi) hS q1606 dJ0_coder_7d493_7 ?_
  refine lv_goto (tgt := 14) hx hb dJ0_coder_7d493_10 (by decide) ?_
  exact W.zret hx hb hr rfl (fun t ht _ => ⟨_, rfl, h, ht⟩) (fun _ hq => by cases hq) dJ0_coder_7d493_14
