/-! the shelves: eight objects and their rows, at the end of a world -/
def shW (sa ea : Nat → Nat) (cJ : ClassId) (hd so ec sn : Nat → Int32) (el : Nat → Nat → Int64) : va_W := (List.range 8).flatMap (fun j => [(sa j, .inr (5, [.ref (ea j), .int (hd j), .int (so j), .int (ec j), .int (sn j)])), (ea j, .inl (cJ, 160, .inr (.inl (el j))))])
theorem lt8 {j : Nat} (h : j < 8) : j = 0 ∨ j = 1 ∨ j = 2 ∨ j = 3 ∨ j = 4 ∨ j = 5 ∨ j = 6 ∨ j = 7 := by omega
theorem shS {pre : va_W} {k j : Nat} {sa ea : Nat → Nat} {cJ : ClassId} {hd so ec sn : Nat → Int32} {el : Nat → Nat → Int64} (hk : pre.length = k) (hj : j < 8) : (pre ++ shW sa ea cJ hd so ec sn el)[k + 2 * j]? = some (sa j, .inr (5, [.ref (ea j), .int (hd j), .int (so j), .int (ec j), .int (sn j)])) := by
  subst hk
  rw [List.getElem?_append_right (Nat.le_add_right _ _), Nat.add_sub_cancel_left]
  rcases lt8 hj with rfl | rfl | rfl | rfl | rfl | rfl | rfl | rfl <;> rfl
theorem shE {pre : va_W} {k j : Nat} {sa ea : Nat → Nat} {cJ : ClassId} {hd so ec sn : Nat → Int32} {el : Nat → Nat → Int64} (hk : pre.length = k) (hj : j < 8) : (pre ++ shW sa ea cJ hd so ec sn el)[k + 2 * j + 1]? = some (ea j, .inl (cJ, 160, .inr (.inl (el j)))) := by
  subst hk
  rw [List.getElem?_append_right (by omega), show pre.length + 2 * j + 1 - pre.length = 2 * j + 1 by omega]
  rcases lt8 hj with rfl | rfl | rfl | rfl | rfl | rfl | rfl | rfl <;> rfl
theorem vPn {D : va_G} {cl : List vw_C} {H : Heap} : va_P D cl [] H := fun k q h => by simp at h
theorem vPc {D : va_G} {cl : List vw_C} {ws wc : va_W} {H : Heap} (hP : va_P D cl ws H) {k : Nat} {q : Nat × va_E} (h : ws[k]? = some q) (t : va_P D cl wc H) : va_P D cl (q :: wc) H := fun i x hi => by
  cases i with
  | zero => cases hi; exact hP k q h
  | succ i => exact t i x hi
theorem mCn {ws : va_W} : ([] : List Nat).map (fun i => ws[i]?) = ([] : va_W).map some := rfl
theorem mCc {ws wc : va_W} {is : List Nat} {k : Nat} {q : Nat × va_E} (h : ws[k]? = some q) (t : is.map (fun i => ws[i]?) = wc.map some) : (k :: is).map (fun i => ws[i]?) = (q :: wc).map some := by
  rw [List.map_cons, List.map_cons, h, t]
section SHR
variable {p : Program} {l : Launch} {e : Env} {R : Room} {s : State} {m : MethodId} {args : Array Value} {below : List Frame} {meth : Method} {c : Code} {H : Heap} {locs : List Loc} {cells slots : Nat} {Q : State → Prop}
variable {pc : Nat} {ls : Array Slot} {rest st : List Value} {A : Nat → Prop} {D : va_G} {cI cJ cS : ClassId} {ad adK : Nat → Nat} {ws wc : va_W} {cc : ByteArray} {nL index : Nat} {own host : String}
theorem gsAN (S : CallFix p m c cc nL s args GW own) (hE : EN D cI cJ cS s) (hT : ST ad adK A s s.heap) (hS : va_S A s.heap H locs) {nm : String} {tb : List Int32} (hm : (nm, tb) ∈ STL) (hlink : (own, index, "RoadThatSings", nm, "[I", host) ∈ NWF) (hdg : decode cc pc = .ok (.getstatic index, 3)) (kk : ∀ t : Nat, va_T .int t tb.length (fun k => .int (tb.getD k 0)) A s s.heap → W p l e R s m args below meth c H locs cells slots Q (F0 m (pc + 3) ls (.ref t :: rest))) : W p l e R s m args below meth c H locs cells slots Q (F0 m pc ls rest) := by
  obtain ⟨t, h1, h2⟩ := hT.1 _ hm
  exact va_getsN S.1 S.2.1 h1 hS S.2.2.2.1 (va_Nw.use rfl (hE.2.1 _ hlink)) (fun _ h => h) hdg (kk t h2)
theorem acpi (S : CallFix p m c cc nL s args GW own) (hE : EN D cI cJ cS s) (hP : va_P D vwCl ws H) (hD : va_D A ws) (hS : va_S A s.heap H locs) (hml : ls.size = nL) (q0 q1 : Nat) {a a0 n0 n1 : Nat} {f g : Nat → Int32} (ha0 : ws[q0]? = some (a0, .inl (cI, n0, .inl f))) (ha1 : ws[q1]? = some (a, .inl (cI, n1, .inl g))) (hl : Cond.methodLink own index arraycopyName ∈ GW) (hn : Cond.native arraycopyName ∈ GW) (ht : Cond.static arraycopyName ∈ GW) (hi : Cond.initialized "java/lang/System" ∈ GW) {sp dp n : Int32} (h1 : ¬ sp < 0) (h2 : ¬ dp < 0) (h3 : ¬ n < 0) (h4 : sp.toNatClampNeg + n.toNatClampNeg ≤ n0) (h5 : dp.toNatClampNeg + n.toNatClampNeg ≤ n1) (hf : 1 ≤ R.frames) (hlo : (rest.map fun v => v.category).sum + (nativeFrameWords "java/lang/System" "arraycopy" 5 + 11) ≤ R.locals) (hdg : decode cc pc = .ok (.invokestatic index, 3)) (kk : ∀ (H1 : Heap) (locs1 : List Loc), va_P D vwCl (ws.set q1 (a, .inl (cI, n1, .inl (va_cpy f g sp.toNatClampNeg dp.toNatClampNeg n.toNatClampNeg)))) H1 → va_D A (ws.set q1 (a, .inl (cI, n1, .inl (va_cpy f g sp.toNatClampNeg dp.toNatClampNeg n.toNatClampNeg)))) → va_S A s.heap H1 locs1 → W p l e R s m args below meth c H1 locs1 cells slots Q (F0 m (pc + 3) ls rest)) : W p l e R s m args below meth c H locs cells slots Q (F0 m pc ls (.int n :: .int dp :: .ref a :: .int sp :: .ref a0 :: rest)) :=
  va_copyi S.1 S.2.1 (S.2.2.1.trans hml.symm) S.2.2.2.1 (S.2.2.2.2 _ hl) (S.2.2.2.2 _ hn) (S.2.2.2.2 _ ht) (S.2.2.2.2 _ hi) hE.1 hP hD hS q0 q1 0 0 ha0 ha1 rfl rfl rfl h1 h2 h3 h4 h5 (fun _ _ => rfl) hf hlo hdg kk
theorem acpl (S : CallFix p m c cc nL s args GW own) (hE : EN D cI cJ cS s) (hP : va_P D vwCl ws H) (hD : va_D A ws) (hS : va_S A s.heap H locs) (hml : ls.size = nL) (q0 q1 : Nat) {a a0 n0 n1 : Nat} {f g : Nat → Int64} (ha0 : ws[q0]? = some (a0, .inl (cJ, n0, .inr (.inl f)))) (ha1 : ws[q1]? = some (a, .inl (cJ, n1, .inr (.inl g)))) (hl : Cond.methodLink own index arraycopyName ∈ GW) (hn : Cond.native arraycopyName ∈ GW) (ht : Cond.static arraycopyName ∈ GW) (hi : Cond.initialized "java/lang/System" ∈ GW) {sp dp n : Int32} (h1 : ¬ sp < 0) (h2 : ¬ dp < 0) (h3 : ¬ n < 0) (h4 : sp.toNatClampNeg + n.toNatClampNeg ≤ n0) (h5 : dp.toNatClampNeg + n.toNatClampNeg ≤ n1) (hf : 1 ≤ R.frames) (hlo : (rest.map fun v => v.category).sum + (nativeFrameWords "java/lang/System" "arraycopy" 5 + 11) ≤ R.locals) (hdg : decode cc pc = .ok (.invokestatic index, 3)) (kk : ∀ (H1 : Heap) (locs1 : List Loc), va_P D vwCl (ws.set q1 (a, .inl (cJ, n1, .inr (.inl (va_cpy f g sp.toNatClampNeg dp.toNatClampNeg n.toNatClampNeg))))) H1 → va_D A (ws.set q1 (a, .inl (cJ, n1, .inr (.inl (va_cpy f g sp.toNatClampNeg dp.toNatClampNeg n.toNatClampNeg))))) → va_S A s.heap H1 locs1 → W p l e R s m args below meth c H1 locs1 cells slots Q (F0 m (pc + 3) ls rest)) : W p l e R s m args below meth c H locs cells slots Q (F0 m pc ls (.int n :: .int dp :: .ref a :: .int sp :: .ref a0 :: rest)) :=
  va_copyl S.1 S.2.1 (S.2.2.1.trans hml.symm) S.2.2.2.1 (S.2.2.2.2 _ hl) (S.2.2.2.2 _ hn) (S.2.2.2.2 _ ht) (S.2.2.2.2 _ hi) hE.1 hP hD hS q0 q1 1 1 ha0 ha1 rfl rfl rfl h1 h2 h3 h4 h5 (fun _ _ => rfl) hf hlo hdg kk
theorem aalS (S : CallFix p m c cc nL s args GW own) (hE : EN D cI cJ cS s) (hP : va_P D vwCl ws H) (q0 : Nat) {a n : Nat} {sa : Nat → Nat} (ha : ws[q0]? = some (a, .inl (cS, n, .inr (.inr (.inr (.inr (fun k => some (sa k)))))))) {i : Int32} (hin : vp_in i n) (hdg : decode cc pc = .ok (.aaload, 1)) (kk : W p l e R s m args below meth c H locs cells slots Q (F0 m (pc + 1) ls (.ref (sa i.toNatClampNeg) :: rest))) : W p l e R s m args below meth c H locs cells slots Q (F0 m pc ls (.int i :: .ref a :: rest)) :=
  va_aldq S.1 S.2.1 hE.1 hP q0 2 ha rfl hin hdg kk
end SHR
theorem wset_app : ∀ (is : List Nat) (w1 ws : va_W) (is2 : List Nat) (w2 : va_W), is.length = w1.length → wset ws (is ++ is2) (w1 ++ w2) = wset (wset ws is w1) is2 w2
  | [], [], ws, is2, w2, _ => rfl
  | [], q :: w1, ws, is2, w2, h => by cases h
  | i :: is, [], ws, is2, w2, h => by cases h
  | i :: is, q :: w1, ws, is2, w2, h => wset_app is w1 (ws.set i q) is2 w2 (Nat.succ.inj h)
theorem wset_pre : ∀ (is : List Nat) (w1 pre t : va_W), (∀ i ∈ is, i < pre.length) → wset (pre ++ t) is w1 = wset pre is w1 ++ t
  | [], w1, pre, t, _ => by cases w1 <;> rfl
  | i :: is, [], pre, t, _ => rfl
  | i :: is, q :: w1, pre, t, h => by
    show wset ((pre ++ t).set i q) is w1 = wset (pre.set i q) is w1 ++ t
    rw [List.set_append_left _ _ (h i List.mem_cons_self)]
    exact wset_pre is w1 (pre.set i q) t (fun j hj => by rw [List.length_set]; exact h j (List.mem_cons_of_mem _ hj))
theorem wset_tail : ∀ (t2 t pre : va_W), t.length = t2.length → wset (pre ++ t) (List.range' pre.length t2.length) t2 = pre ++ t2
  | [], [], pre, _ => rfl
  | [], x :: t, pre, h => by cases h
  | y :: t2, [], pre, h => by cases h
  | y :: t2, x :: t, pre, h => by
    show wset ((pre ++ x :: t).set pre.length y) (List.range' (pre.length + 1) t2.length) t2 = pre ++ y :: t2
    have e : (pre ++ x :: t).set pre.length y = (pre ++ [y]) ++ t := by
      rw [List.set_append_right _ _ (Nat.le_refl _), Nat.sub_self]
      simp
    rw [e]
    have h2 := wset_tail t2 t (pre ++ [y]) (Nat.succ.inj h)
    rw [List.length_append] at h2
    rw [show (pre.length + 1) = pre.length + [y].length from rfl, h2]
    simp
section SHALL
variable {D : va_G} {cl : List vw_C} {H : Heap} {A : Nat → Prop} {pre prc pre' : va_W} {is : List Nat} {k : Nat} {sa ea : Nat → Nat} {cJ : ClassId} {hd so ec sn hd' so' ec' sn' : Nat → Int32} {el el' : Nat → Nat → Int64}
theorem shall (hk : pre.length = k) (hb : ∀ i ∈ is, i < k) (hl : is.length = prc.length) (hp : wset pre is prc = pre') : wset (pre ++ shW sa ea cJ hd so ec sn el) (is ++ List.range' k 16) (prc ++ shW sa ea cJ hd' so' ec' sn' el') = pre' ++ shW sa ea cJ hd' so' ec' sn' el' := by
  subst hk
  rw [wset_app _ _ _ _ _ hl, wset_pre _ _ _ _ hb, hp]
  have hlen : pre.length = pre'.length := by
    rw [← hp]
    clear hp hl hb
    induction is generalizing pre prc with
    | nil => cases prc <;> rfl
    | cons i is ih =>
      cases prc with
      | nil => rfl
      | cons q prc =>
        show pre.length = (wset (pre.set i q) is prc).length
        rw [← ih, List.length_set]
  rw [hlen]
  exact wset_tail (shW sa ea cJ hd' so' ec' sn' el') (shW sa ea cJ hd so ec sn el) pre' rfl
theorem shallP (hk : pre.length = k) (hb : ∀ i ∈ is, i < k) (hl : is.length = prc.length) (hp : wset pre is prc = pre') (h : va_P D cl (wset (pre ++ shW sa ea cJ hd so ec sn el) (is ++ List.range' k 16) (prc ++ shW sa ea cJ hd' so' ec' sn' el')) H) : va_P D cl (pre' ++ shW sa ea cJ hd' so' ec' sn' el') H := by
  rw [shall hk hb hl hp] at h
  exact h
theorem shallD (hk : pre.length = k) (hb : ∀ i ∈ is, i < k) (hl : is.length = prc.length) (hp : wset pre is prc = pre') (h : va_D A (wset (pre ++ shW sa ea cJ hd so ec sn el) (is ++ List.range' k 16) (prc ++ shW sa ea cJ hd' so' ec' sn' el'))) : va_D A (pre' ++ shW sa ea cJ hd' so' ec' sn' el') := by
  rw [shall hk hb hl hp] at h
  exact h
theorem mCsh (hk : pre.length = k) (h : is.map (fun i => (pre ++ shW sa ea cJ hd so ec sn el)[i]?) = prc.map some) : (is ++ List.range' k 16).map (fun i => (pre ++ shW sa ea cJ hd so ec sn el)[i]?) = (prc ++ shW sa ea cJ hd so ec sn el).map some := by
  subst hk
  rw [List.map_append, List.map_append, h]
  congr 1
  have key : ∀ (t pre : va_W), (List.range' pre.length t.length).map (fun i => (pre ++ t)[i]?) = t.map some := by
    intro t
    induction t with
    | nil => intro pre; rfl
    | cons x t ih =>
      intro pre
      rw [List.length_cons, List.range'_succ, List.map_cons, List.map_cons, List.getElem?_append_right (Nat.le_refl _), Nat.sub_self]
      have h2 := ih (pre ++ [x])
      rw [List.length_append] at h2
      simp only [List.append_assoc, List.singleton_append, List.length_cons, List.length_nil, Nat.zero_add] at h2
      rw [h2]
      rfl
  exact key (shW sa ea cJ hd so ec sn el) pre
end SHALL
theorem wset_len : ∀ (is : List Nat) (w1 ws : va_W), (wset ws is w1).length = ws.length
  | [], w1, ws => by cases w1 <;> rfl
  | i :: is, [], ws => rfl
  | i :: is, q :: w1, ws => by
    show (wset (ws.set i q) is w1).length = ws.length
    rw [wset_len is w1 (ws.set i q), List.length_set]
def eqAt (wn ws : va_W) : List Nat → Prop
  | [] => True
  | k :: l => wn[k]? = ws[k]? ∧ eqAt wn ws l
theorem eqAt.mem {wn ws : va_W} : ∀ {l : List Nat}, eqAt wn ws l → ∀ k ∈ l, wn[k]? = ws[k]?
  | [], _, k, hk => by cases hk
  | j :: l, h, k, hk => by
    rcases List.mem_cons.mp hk with rfl | hk
    · exact h.1
    · exact eqAt.mem h.2 k hk
theorem wset_is {ws w1 wn : va_W} {is : List Nat} {N : Nat} (isR : List Nat) (hA : is.map (fun i => wn[i]?) = w1.map some) (hB : eqAt wn ws isR) (hN : ws.length = N) (hl : wn.length = N) (hnd : va_nd is = true) (hb : ∀ i ∈ is, i < N) (hc : ∀ k, k < N → k ∈ is ∨ k ∈ isR) : wset ws is w1 = wn := by
  have hlen : is.length = w1.length := by simpa using congrArg List.length hA
  apply List.ext_getElem?
  intro k
  rcases Nat.lt_or_ge k N with hk | hk
  · have h1 : k < (wset ws is w1).length := by rw [wset_len, hN]; exact hk
    rcases wset_get is w1 ws k _ hnd hlen (fun i hi => by rw [hN]; exact hb i hi) (List.getElem?_eq_getElem h1) with ⟨j, h2, h3⟩ | ⟨h2, h3⟩
    · rw [List.getElem?_eq_getElem h1, ← h3]
      have h4 : (is.map (fun i => wn[i]?))[j]? = some wn[k]? := by rw [List.getElem?_map, h2]; rfl
      rw [hA, List.getElem?_map, h3] at h4
      rw [h3]
      exact Option.some.inj h4
    · rw [List.getElem?_eq_getElem h1, ← h3]
      rcases hc k hk with h4 | h4
      · exact absurd h4 h2
      · exact (hB.mem k h4).symm
  · rw [List.getElem?_eq_none (by rw [wset_len, hN]; exact hk), List.getElem?_eq_none (by rw [hl]; exact hk)]
theorem wsetP {D : va_G} {cl : List vw_C} {H : Heap} {ws w1 wn : va_W} {is : List Nat} (N : Nat) (isR : List Nat) (h : va_P D cl (wset ws is w1) H) (hA : is.map (fun i => wn[i]?) = w1.map some) (hB : eqAt wn ws isR) (hN : ws.length = N) (hl : wn.length = N) (hnd : va_nd is = true) (hb : ∀ i ∈ is, i < N) (hc : ∀ k, k < N → k ∈ is ∨ k ∈ isR) : va_P D cl wn H := by
  rw [wset_is isR hA hB hN hl hnd hb hc] at h
  exact h
theorem wsetD {A : Nat → Prop} {ws w1 wn : va_W} {is : List Nat} (N : Nat) (isR : List Nat) (h : va_D A (wset ws is w1)) (hA : is.map (fun i => wn[i]?) = w1.map some) (hB : eqAt wn ws isR) (hN : ws.length = N) (hl : wn.length = N) (hnd : va_nd is = true) (hb : ∀ i ∈ is, i < N) (hc : ∀ k, k < N → k ∈ is ∨ k ∈ isR) : va_D A wn := by
  rw [wset_is isR hA hB hN hl hnd hb hc] at h
  exact h
/-- the same, where shelves stand behind -/
theorem wsetPs {D : va_G} {cl : List vw_C} {H : Heap} {ws w1 wn t : va_W} {is : List Nat} (N : Nat) (isR : List Nat) (h : va_P D cl (wset (ws ++ t) is w1) H) (hA : is.map (fun i => wn[i]?) = w1.map some) (hB : eqAt wn ws isR) (hN : ws.length = N) (hl : wn.length = N) (hnd : va_nd is = true) (hb : ∀ i ∈ is, i < N) (hc : ∀ k, k < N → k ∈ is ∨ k ∈ isR) : va_P D cl (wn ++ t) H := by
  rw [wset_pre _ _ _ _ (fun i hi => by rw [hN]; exact hb i hi), wset_is isR hA hB hN hl hnd hb hc] at h
  exact h
theorem wsetDs {A : Nat → Prop} {ws w1 wn t : va_W} {is : List Nat} (N : Nat) (isR : List Nat) (h : va_D A (wset (ws ++ t) is w1)) (hA : is.map (fun i => wn[i]?) = w1.map some) (hB : eqAt wn ws isR) (hN : ws.length = N) (hl : wn.length = N) (hnd : va_nd is = true) (hb : ∀ i ∈ is, i < N) (hc : ∀ k, k < N → k ∈ is ∨ k ∈ isR) : va_D A (wn ++ t) := by
  rw [wset_pre _ _ _ _ (fun i hi => by rw [hN]; exact hb i hi), wset_is isR hA hB hN hl hnd hb hc] at h
  exact h
