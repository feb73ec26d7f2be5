/-! the start: what the statement gives of the machine, as the parts before want it -/
theorem lt1 {w : Cond} (h : w ∈ tables_1_1) : w ∈ lw_tbl := List.mem_append_right _ (List.mem_append_left _ h)
theorem lt2 {w : Cond} (h : w ∈ tables_1_2) : w ∈ lw_tbl := List.mem_append_right _ (List.mem_append_right _ (List.mem_append_left _ h))
theorem lt3 {w : Cond} (h : w ∈ tables_1_3) : w ∈ lw_tbl := List.mem_append_right _ (List.mem_append_right _ (List.mem_append_right _ (List.mem_append_left _ h)))
theorem lt4 {w : Cond} (h : w ∈ tables_1_4) : w ∈ lw_tbl := List.mem_append_right _ (List.mem_append_right _ (List.mem_append_right _ (List.mem_append_right _ (List.mem_append_left _ h))))
theorem lt5 {w : Cond} (h : w ∈ tables_1_5) : w ∈ lw_tbl := List.mem_append_right _ (List.mem_append_right _ (List.mem_append_right _ (List.mem_append_right _ (List.mem_append_right _ (List.mem_append_left _ h)))))
theorem lt6 {w : Cond} (h : w ∈ tables_1_6) : w ∈ lw_tbl := List.mem_append_right _ (List.mem_append_right _ (List.mem_append_right _ (List.mem_append_right _ (List.mem_append_right _ (List.mem_append_right _ (List.mem_append_left _ h))))))
theorem lt7 {w : Cond} (h : w ∈ tables_1_7) : w ∈ lw_tbl := List.mem_append_right _ (List.mem_append_right _ (List.mem_append_right _ (List.mem_append_right _ (List.mem_append_right _ (List.mem_append_right _ (List.mem_append_right _ (h)))))))
theorem nwF_in : ∀ q ∈ NWF, (Cond.fieldLinkNest q.1 q.2.1 q.2.2.1 q.2.2.2.1 q.2.2.2.2.1 q.2.2.2.2.2) ∈ lw_tbl := List.forall_mem_cons.mpr ⟨lt1 (List.mem_of_getElem? (i := 94) rfl), List.forall_mem_cons.mpr ⟨lt1 (List.mem_of_getElem? (i := 95) rfl), List.forall_mem_cons.mpr ⟨lt1 (List.mem_of_getElem? (i := 97) rfl), List.forall_mem_cons.mpr ⟨lt1 (List.mem_of_getElem? (i := 98) rfl), List.forall_mem_cons.mpr ⟨lt1 (List.mem_of_getElem? (i := 100) rfl), List.forall_mem_cons.mpr ⟨lt1 (List.mem_of_getElem? (i := 101) rfl), List.forall_mem_cons.mpr ⟨lt1 (List.mem_of_getElem? (i := 102) rfl), List.forall_mem_cons.mpr ⟨lt3 (List.mem_of_getElem? (i := 119) rfl), List.forall_mem_cons.mpr ⟨lt3 (List.mem_of_getElem? (i := 221) rfl), List.forall_mem_cons.mpr ⟨lt3 (List.mem_of_getElem? (i := 222) rfl), List.forall_mem_cons.mpr ⟨lt5 (List.mem_of_getElem? (i := 91) rfl), List.forall_mem_cons.mpr ⟨lt5 (List.mem_of_getElem? (i := 93) rfl), List.forall_mem_cons.mpr ⟨lt5 (List.mem_of_getElem? (i := 95) rfl), List.forall_mem_cons.mpr ⟨lt7 (List.mem_of_getElem? (i := 164) rfl), List.forall_mem_cons.mpr ⟨lt7 (List.mem_of_getElem? (i := 167) rfl), List.forall_mem_cons.mpr ⟨lt7 (List.mem_of_getElem? (i := 170) rfl), fun _ h => absurd h List.not_mem_nil⟩⟩⟩⟩⟩⟩⟩⟩⟩⟩⟩⟩⟩⟩⟩⟩
theorem nwM_in : ∀ q ∈ NWM, (Cond.methodLinkNest q.1 q.2.1 q.2.2.1 q.2.2.2) ∈ lw_tbl := List.forall_mem_cons.mpr ⟨lt1 (List.mem_of_getElem? (i := 28) rfl), List.forall_mem_cons.mpr ⟨lt1 (List.mem_of_getElem? (i := 34) rfl), List.forall_mem_cons.mpr ⟨lt1 (List.mem_of_getElem? (i := 57) rfl), List.forall_mem_cons.mpr ⟨lt1 (List.mem_of_getElem? (i := 76) rfl), List.forall_mem_cons.mpr ⟨lt1 (List.mem_of_getElem? (i := 120) rfl), List.forall_mem_cons.mpr ⟨lt1 (List.mem_of_getElem? (i := 139) rfl), List.forall_mem_cons.mpr ⟨lt1 (List.mem_of_getElem? (i := 160) rfl), List.forall_mem_cons.mpr ⟨lt2 (List.mem_of_getElem? (i := 121) rfl), List.forall_mem_cons.mpr ⟨lt3 (List.mem_of_getElem? (i := 58) rfl), List.forall_mem_cons.mpr ⟨lt3 (List.mem_of_getElem? (i := 63) rfl), List.forall_mem_cons.mpr ⟨lt3 (List.mem_of_getElem? (i := 199) rfl), List.forall_mem_cons.mpr ⟨lt4 (List.mem_of_getElem? (i := 0) rfl), List.forall_mem_cons.mpr ⟨lt4 (List.mem_of_getElem? (i := 14) rfl), List.forall_mem_cons.mpr ⟨lt4 (List.mem_of_getElem? (i := 51) rfl), List.forall_mem_cons.mpr ⟨lt4 (List.mem_of_getElem? (i := 125) rfl), List.forall_mem_cons.mpr ⟨lt4 (List.mem_of_getElem? (i := 126) rfl), List.forall_mem_cons.mpr ⟨lt5 (List.mem_of_getElem? (i := 81) rfl), List.forall_mem_cons.mpr ⟨lt5 (List.mem_of_getElem? (i := 90) rfl), List.forall_mem_cons.mpr ⟨lt5 (List.mem_of_getElem? (i := 97) rfl), fun _ h => absurd h List.not_mem_nil⟩⟩⟩⟩⟩⟩⟩⟩⟩⟩⟩⟩⟩⟩⟩⟩⟩⟩⟩
theorem nw_of {args : Array Value} {s : State} (hts : ∀ w ∈ lw_tbl, w.before args s = true) : NW s := ⟨fun q hq => va_Nw.of rfl (hts _ (nwF_in q hq)), fun q hq => va_Nw.of rfl (hts _ (nwM_in q hq))⟩
theorem kn_of {args : Array Value} {s : State} (hts : ∀ w ∈ GW, w.before args s = true) : ∃ D : va_G, ∀ (c : Nat) (q : vw_C), vwCl[c]? = some q → u_Kn s q.1 q.2.1 q.2.2 (D.1 c) (D.2 c) := by
  have h : ∀ c : Nat, ∃ x : ClassId × (Nat → Nat), ∀ q : vw_C, vwCl[c]? = some q → u_Kn s q.1 q.2.1 q.2.2 x.1 x.2 := by
    intro c
    by_cases hc : c < 10
    · have hc10 : c = 0 ∨ c = 1 ∨ c = 2 ∨ c = 3 ∨ c = 4 ∨ c = 5 ∨ c = 6 ∨ c = 7 ∨ c = 8 ∨ c = 9 := by omega
      rcases hc10 with rfl | rfl | rfl | rfl | rfl | rfl | rfl | rfl | rfl | rfl
      · obtain ⟨a, f, h⟩ := u_known (T := TX0) hts inX0 (hts _ q138)
        exact ⟨(a, f), fun q hq => by cases hq; exact h⟩
      · obtain ⟨a, f, h⟩ := u_known (T := TX1) hts inX1 (hts _ q56)
        exact ⟨(a, f), fun q hq => by cases hq; exact h⟩
      · obtain ⟨a, f, h⟩ := u_known (T := TX2) hts inX2 (hts _ q119)
        exact ⟨(a, f), fun q hq => by cases hq; exact h⟩
      · obtain ⟨a, f, h⟩ := u_known (T := TX4) hts inX4 (hts _ q569)
        exact ⟨(a, f), fun q hq => by cases hq; exact h⟩
      · obtain ⟨a, f, h⟩ := u_known (T := TX5) hts inX5 (hts _ q27)
        exact ⟨(a, f), fun q hq => by cases hq; exact h⟩
      · obtain ⟨a, f, h⟩ := u_known (T := TX6) hts inX6 (hts _ q159)
        exact ⟨(a, f), fun q hq => by cases hq; exact h⟩
      · obtain ⟨a, f, h⟩ := u_known (T := TX7) hts inX7 (hts _ q33)
        exact ⟨(a, f), fun q hq => by cases hq; exact h⟩
      · obtain ⟨a, f, h⟩ := u_known (T := TX8) hts inX8 (hts _ q75)
        exact ⟨(a, f), fun q hq => by cases hq; exact h⟩
      · obtain ⟨a, f, h⟩ := u_known (T := TX9) hts inX9 (hts _ q19)
        exact ⟨(a, f), fun q hq => by cases hq; exact h⟩
      · obtain ⟨a, f, h⟩ := u_known (T := TX10) hts inX10 (hts _ q1088)
        exact ⟨(a, f), fun q hq => by cases hq; exact h⟩
    · exact ⟨(0, fun _ => 0), fun q hq => absurd (List.getElem?_eq_some_iff.mp hq).1 hc⟩
  obtain ⟨f, hf⟩ := Classical.axiomOfChoice h
  exact ⟨(fun c => (f c).1, fun c => (f c).2), fun c q hq => hf c q hq⟩
theorem ar_of {args : Array Value} {s : State} (hI : (Cond.arrayClass .int).before args s = true) (hJ : (Cond.arrayClass .long).before args s = true) (hO : (Cond.arrayOver (.object "RoadThatSings$Shelf")).before args s = true) : ∃ cI cJ cS : ClassId, ∀ (k : Nat) (q : ClassId × FieldType), (tyl cI cJ cS)[k]? = some q → ArrOfT s q.1 q.2 ∧ va_RA s q.1 q.2 := by
  obtain ⟨c1, k1, p1, a1, b1, d1⟩ := Cond.arrayClass_spec hI
  obtain ⟨c2, k2, p2, a2, b2, d2⟩ := Cond.arrayClass_spec hJ
  obtain ⟨p3, c3, k3, a3, i3, b3, d3, n3⟩ := Cond.arrayOver_spec hO
  refine ⟨c1, c2, c3, fun k q hq => ?_⟩
  have hk : k < 3 := (List.getElem?_eq_some_iff.mp hq).1
  have hk3 : k = 0 ∨ k = 1 ∨ k = 2 := by omega
  rcases hk3 with rfl | rfl | rfl
  · cases hq
    exact ⟨fun N z => ⟨fun k h => (by cases h), k1, b1, p1, d1⟩, a1⟩
  · cases hq
    exact ⟨fun N z => ⟨fun k h => (by cases h), k2, b2, p2, d2⟩, a2⟩
  · cases hq
    exact ⟨fun N z => ⟨fun k h => (by cases h), k3, b3, p3, d3⟩, k3, p3, b3, d3, a3, n3⟩
theorem en_of {args : Array Value} {s : State} (hts : ∀ w ∈ lw_tbl, w.before args s = true) : ∃ (D : va_G) (cI cJ cS : ClassId), EN D cI cJ cS s ∧ va_AO "RoadThatSings$Shelf" s := by
  have hg : ∀ w ∈ GW, w.before args s = true := fun w h => hts w (gw_sub w h)
  obtain ⟨D, hD⟩ := kn_of hg
  have hO : (Cond.arrayOver (.object "RoadThatSings$Shelf")).before args s = true := hts _ (lt1 (List.mem_of_getElem? (i := 117) rfl))
  obtain ⟨cI, cJ, cS, h⟩ := ar_of (hg _ q54) (hg _ q180) hO
  exact ⟨D, cI, cJ, cS, ⟨⟨hD, h⟩, nw_of hts⟩, va_AO.of hO⟩
def FL : List Cond := flatC (Cond.and given_1 narrow_1)
theorem fl_at {args : Array Value} {s : State} (hg : (Cond.and given_1 narrow_1).before args s = true) {i : Nat} {c : Cond} (h : FL[i]? = some c) : c.before args s = true := flat_of_before _ hg _ (List.mem_of_getElem? h)
def STX : List (String × List Int32 × Nat) := [("KIND_ABOVE", tbKIND_ABOVE, 5), ("LEAST_ASKED", tbLEAST_ASKED, 15), ("MOST_ASKED", tbMOST_ASKED, 22), ("HUMS_BODIES", tbHUMS_BODIES, 67), ("LASTS_BODIES", tbLASTS_BODIES, 77), ("WEARS_BODIES", tbWEARS_BODIES, 87), ("STEPS", tbSTEPS, 52)]
theorem stx_eq : STL = STX.map (fun q => (q.1, q.2.1)) := rfl
theorem stx_lay : ∀ q ∈ STX, (Cond.laysStatic "RoadThatSings" q.1 "[I") ∈ lw_tbl := List.forall_mem_cons.mpr ⟨lt2 (List.mem_of_getElem? (i := 103) rfl), List.forall_mem_cons.mpr ⟨lt3 (List.mem_of_getElem? (i := 51) rfl), List.forall_mem_cons.mpr ⟨lt3 (List.mem_of_getElem? (i := 53) rfl), List.forall_mem_cons.mpr ⟨lt5 (List.mem_of_getElem? (i := 92) rfl), List.forall_mem_cons.mpr ⟨lt5 (List.mem_of_getElem? (i := 94) rfl), List.forall_mem_cons.mpr ⟨lt5 (List.mem_of_getElem? (i := 96) rfl), List.forall_mem_cons.mpr ⟨lt5 (List.mem_of_getElem? (i := 13) rfl), fun _ h => absurd h List.not_mem_nil⟩⟩⟩⟩⟩⟩⟩
set_option maxRecDepth 100000 in
theorem stx_fl : ∀ q ∈ STX, FL[q.2.2]? = some (.arrayOf (.static "RoadThatSings" q.1 "[I") .int) ∧ FL[q.2.2 + 1]? = some (.eq (.length (.static "RoadThatSings" q.1 "[I")) (.int (Int32.ofNat q.2.1.length))) ∧ (∀ j, j < q.2.1.length → FL[q.2.2 + 2 + j]? = some (.eq (.elem (.static "RoadThatSings" q.1 "[I") (.int (Int32.ofNat j))) (.int (q.2.1.getD j 0)))) ∧ q.2.1.length < 100 := by decide +kernel
theorem sa_of {args : Array Value} {s : State} (hts : ∀ w ∈ lw_tbl, w.before args s = true) (hg : (Cond.and given_1 narrow_1).before args s = true) : ∀ q ∈ STL, SA q.1 q.2 (fun a => s.heap.size ≤ a) s s.heap := by
  intro q hq
  rw [stx_eq] at hq
  obtain ⟨x, hx, rfl⟩ := List.mem_map.mp hq
  obtain ⟨h1, h2, h3, h4⟩ := stx_fl x hx
  obtain ⟨t, ht, hT⟩ := va_Tof (A := fun a => s.heap.size ≤ a) (f := fun k => .int (x.2.1.getD k 0)) (by omega) (fl_at hg h1) (va_eqt (fl_at hg h2)) (fun j hj => va_eqt (fl_at hg (h3 j hj))) (fun a h => Nat.not_le.mpr h)
  exact ⟨t, va_Zref (hts _ (stx_lay x hx)) (hts _ (gw_sub _ q1)) ht (fun a h => Nat.not_le.mpr h), hT⟩
abbrev itN : List String := ["EVEN_ITEM", "PAIR_ITEM", "REST_ITEM", "DEEP_ITEM", "SLANT_ITEM", "TOLD_ITEM", "CAR_ITEM", "TUNE_ITEM", "NOTE_ITEM", "LONG_ITEM", "NEAR_ITEM", "BORNE_ITEM", "TEMPO_ITEM"]
abbrev itT (i : Nat) : Term := .static "RoadThatSings$Item" (itN.getD i "") "LRoadThatSings$Item;"
abbrev itS : List Nat := [76, 82, 85, 88, 91, 94, 97, 100, 103, 106, 109, 112, 115]
abbrev itW (i : Nat) : Term := .string "RoadThatSings$Item" (itS.getD i 0)
abbrev itA : Term := .static "RoadThatSings" "ITEMS" "[LRoadThatSings$Item;"
abbrev ixX : List Nat := [96, 101, 107, 114, 122, 131, 141, 152, 164, 177, 191, 206, 222]
abbrev ixSX : List Nat := [239, 247, 256, 266, 277, 290, 303, 316, 331, 347, 364, 382, 402]
set_option maxRecDepth 100000 in
theorem it_x : ∀ i, i < 13 → FL[ixX.getD i 0]? = some (.exactly (itT i) "RoadThatSings$Item") ∧ FL[ixX.getD i 0 + 2]? = some (.eq (.field (itT i) "RoadThatSings$Item" "word" "Ljava/lang/String;") (itW i)) ∧ FL[ixX.getD i 0 + 3]? = some (.eq (.field (itT i) "RoadThatSings$Item" "form" "I") (.int (tbForm.getD i 0))) ∧ FL[ixX.getD i 0 + 4]? = some (.eq (.field (itT i) "RoadThatSings$Item" "number" "I") (.int (tbNumber.getD i 0))) ∧ FL[33 + i]? = some (.eq (.elem itA (.int (Int32.ofNat i))) (itT i)) := by decide +kernel
set_option maxRecDepth 100000 in
theorem it_s : ∀ i, i < 13 → FL[ixSX.getD i 0]? = some (.exactly (itW i) "java/lang/String") ∧ FL[ixSX.getD i 0 + 1]? = some (.eq (.field (itW i) "java/lang/String" "coder" "B") (.int 0)) ∧ FL[ixSX.getD i 0 + 2]? = some (.arrayOf (.field (itW i) "java/lang/String" "value" "[B") .byte) ∧ FL[ixSX.getD i 0 + 3]? = some (.eq (.length (.field (itW i) "java/lang/String" "value" "[B")) (.int (Int32.ofNat (tbLen.getD i 0)))) ∧ (∀ j, j < tbLen.getD i 0 → FL[ixSX.getD i 0 + 4 + j]? = some (.eq (.elem (.field (itW i) "java/lang/String" "value" "[B") (.int (Int32.ofNat j))) (.int ((tbByt.getD i []).getD j 0)))) ∧ tbLen.getD i 0 < 100 := by decide +kernel
set_option maxRecDepth 100000 in
theorem it_n : ∀ j, j < 13 → ∀ i, i < j → FL[ixSX.getD j 0 + 4 + tbLen.getD j 0 + i]? = some (.not (.eq (itW i) (itW j))) := by decide +kernel
set_option maxRecDepth 100000 in
theorem it_o : FL[30]? = some (.arrayOf itA (.object "RoadThatSings$Item")) ∧ FL[31]? = some (.eq (.length itA) (.int (Int32.ofNat 13))) ∧ FL[46]? = some (.eq (.static "java/lang/String" "COMPACT_STRINGS" "Z") (.int 1)) ∧ FL[47]? = some (.isRef (.static "jdk/internal/util/Preconditions" "SIOOBE_FORMATTER" "Ljava/util/function/BiFunction;")) := by decide +kernel
theorem it_of {args : Array Value} {s : State} (hts : ∀ w ∈ lw_tbl, w.before args s = true) (hg : (Cond.and given_1 narrow_1).before args s = true) : ∃ ad adK : Nat → Nat, ITM ad adK (fun a => s.heap.size ≤ a) s s.heap := by
  have hA : ∀ a : Nat, a < s.heap.size → ¬ (fun a => s.heap.size ≤ a) a := fun a h => Nat.not_le.mpr h
  have h0 : ∀ i : Nat, ∃ t : Nat, i < 13 → (itT i).eval args s none [] s = some (.ref t) ∧ va_O "RoadThatSings$Item" t (fun a => s.heap.size ≤ a) s s.heap := by
    intro i
    by_cases hi : i < 13
    · have hx := fl_at hg (it_x i hi).1
      obtain ⟨a, c, cell, k, q1, q2, q3, q4, q5, q6, -⟩ := Cond.exactly_spec hx
      exact ⟨a, fun _ => ⟨q1, va_Oof hx q1 hA⟩⟩
    · exact ⟨0, fun h => absurd h hi⟩
  obtain ⟨ad, had⟩ := Classical.axiomOfChoice h0
  obtain ⟨aS, aV, hS, hev⟩ := vk_Sof (args := args) (s := s) (N := 13) (tm := itW) (len := tbLen) (byt := tbByt) (A := fun a => s.heap.size ≤ a) (fun i hi => Nat.lt_trans (it_s i hi).2.2.2.2.2 (by decide)) (fun i hi => fl_at hg (it_s i hi).1) (fun i hi => fl_at hg (it_s i hi).2.1) (fun i hi => fl_at hg (it_s i hi).2.2.1) (fun i hi => fl_at hg (it_s i hi).2.2.2.1) (fun i hi j hj => fl_at hg ((it_s i hi).2.2.2.2.1 j hj)) (fun i j hi hj hij => by
    rcases Nat.lt_or_gt_of_ne hij with h | h
    · exact Or.inl (fl_at hg (it_n j hj i h))
    · exact Or.inr (fl_at hg (it_n i hi j h))) hA
  obtain ⟨tI, htI, hTI⟩ := va_Tof (args := args) (s := s) (tm := itA) (ty := .object "RoadThatSings$Item") (N := 13) (A := fun a => s.heap.size ≤ a) (f := fun k => .ref (ad k)) (by decide) (fl_at hg it_o.1) (va_eqt (fl_at hg it_o.2.1)) (fun j hj => va_eqv (fl_at hg (it_x j hj).2.2.2.2) (had j hj).1) hA
  have e0 : ∀ i, (fun k => if k % 2 = 0 then aS (k / 2) else aV (k / 2)) (2 * i) = aS i := fun i => by
    show (if 2 * i % 2 = 0 then aS (2 * i / 2) else aV (2 * i / 2)) = aS i
    rw [if_pos (by omega), show 2 * i / 2 = i by omega]
  have e1 : ∀ i, (fun k => if k % 2 = 0 then aS (k / 2) else aV (k / 2)) (2 * i + 1) = aV i := fun i => by
    show (if (2 * i + 1) % 2 = 0 then aS ((2 * i + 1) / 2) else aV ((2 * i + 1) / 2)) = aV i
    rw [if_neg (by omega), show (2 * i + 1) / 2 = i by omega]
  refine ⟨ad, fun k => if k % 2 = 0 then aS (k / 2) else aV (k / 2), tI, va_Zref (hts _ (lt3 (List.mem_of_getElem? (i := 120) rfl))) (hts _ (gw_sub _ q1)) htI hA, hTI, fun i hi => (had i hi).2, ?_, ?_, ?_, ?_, va_Zof (hts _ (lt3 (List.mem_of_getElem? (i := 134) rfl))) (hts _ (gw_sub _ q14)) (va_eqi (fl_at hg it_o.2.2.1)) hA, va_Zqof (hts _ (lt3 (List.mem_of_getElem? (i := 152) rfl))) (hts _ (gw_sub _ q16)) (fl_at hg it_o.2.2.2) hA⟩
  · exact va_Efof (nm := itN) (d0 := "LRoadThatSings$Item;") (tm := fun i => .int (tbForm.getD i 0)) (fun i hi => (had i hi).1) (fun i hi => fl_at hg (it_x i hi).2.2.1) (fun i hi => rfl) hA
  · exact va_Efof (nm := itN) (d0 := "LRoadThatSings$Item;") (tm := fun i => .int (tbNumber.getD i 0)) (fun i hi => (had i hi).1) (fun i hi => fl_at hg (it_x i hi).2.2.2.1) (fun i hi => rfl) hA
  · rw [show (fun i => Value.ref ((fun k => if k % 2 = 0 then aS (k / 2) else aV (k / 2)) (2 * i))) = fun i => Value.ref (aS i) from funext fun i => congrArg Value.ref (e0 i)]
    exact va_Efof (nm := itN) (d0 := "LRoadThatSings$Item;") (tm := itW) (fun i hi => (had i hi).1) (fun i hi => fl_at hg (it_x i hi).2.1) (fun i hi => hev i hi) hA
  · rw [show (fun i => (fun k => if k % 2 = 0 then aS (k / 2) else aV (k / 2)) (2 * i)) = aS from funext e0, show (fun i => (fun k => if k % 2 = 0 then aS (k / 2) else aV (k / 2)) (2 * i + 1)) = aV from funext e1]
    exact hS
theorem st_of {args : Array Value} {s : State} (hts : ∀ w ∈ lw_tbl, w.before args s = true) (hg : (Cond.and given_1 narrow_1).before args s = true) : ∃ ad adK : Nat → Nat, ST ad adK (fun a => s.heap.size ≤ a) s s.heap := by
  obtain ⟨ad, adK, h⟩ := it_of hts hg
  exact ⟨ad, adK, sa_of hts hg, h⟩
