/-! shelves -/
def z_SH (N : Nat) (hd size shown ec sn : Nat → Int32) (cells : Nat → Int64) (el : Nat → Nat → Int64) : Prop :=
  ∀ s, s < 8 → (hd s = 0 ∨ hd s = 1 ∨ hd s = 2) ∧ (hd s = 1 → ∃ n, n ≤ 160 ∧ size s = nI n ∧ ec s = nI n) ∧ (¬ hd s = 1 → ec s = 0) ∧ (hd s = 2 → ∃ j, j < N ∧ shown s = nI j ∧ sn s = nI j) ∧ ∀ i, i < 160 → el s i = cells (160 * s + i)
theorem z_ix160 (s i : Nat) : (160 : Int32) * nI s + nI i = nI (160 * s + i) := by rw [show (160 : Int32) = nI 160 from rfl, pk_mul, nI_add]
theorem z_uu {α : Type} (f : Nat → α) (k : Nat) (x : α) : va_up f k x k = x := va_up_self f k x
theorem z_un {α : Type} {f : Nat → α} {k j : Nat} {x : α} (h : j ≠ k) : va_up f k x j = f j := va_up_ne f x h
theorem zc_fill {g : Nat → Int64} {post : (Nat → Int64) → Prop} (h : ∀ g', (∀ i, i < 160 → g' i = 0) → post g') : F_J7_fill_d0a16 160 g 0 post := by
  have key : ∀ (k i : Nat) (g : Nat → Int64), i + k = 160 → (∀ j, j < i → g j = 0) → L_J7_fill_d0a16_6 160 0 (nI 160) post (k + 1) (nI i) g := by
    intro k
    induction k with
    | zero =>
      intro i g hi hg
      rw [L_J7_fill_d0a16_6]
      exact pk_le 160 i (fun _ => h g (fun j hj => hg j (by omega))) (fun e => by omega)
    | succ k ih =>
      intro i g hi hg
      rw [L_J7_fill_d0a16_6, nI_clamp (by omega)]
      refine pk_le 160 i (fun e => by omega) (fun _ => ⟨vp_in_nI (by omega) (by decide), nm_r (nI_1 i) (ih (i + 1) _ (by omega) (fun j hj => ?_))⟩)
      by_cases e : j = i
      · subst e; exact pk_uLs
      · rw [pk_uLn e]; exact hg j (by omega)
  exact nm_e ⟨161, key 160 0 g (by omega) (fun j hj => by omega)⟩
theorem zm_row79 {s : Nat} (hs : s < 8) {hd ref size so : Nat → Int32} {cells : Nat → Int64} {post : Int32 → (Nat → Int64) → (Nat → Int32) → (Nat → Int32) → (Nat → Int32) → (Nat → Int32) → Prop} (h : ∀ c', (∀ j, c' j = if 160 * s ≤ j ∧ j < 160 * s + 160 then 0 else cells j) → post 1 c' hd ref size so) : ∃ n, L_X10_row_79 (nI s) hd ref size so post n 0 cells := by
  have key : ∀ (k i : Nat) (c : Nat → Int64), i + k = 160 → (∀ j, c j = if 160 * s ≤ j ∧ j < 160 * s + i then 0 else cells j) → L_X10_row_79 (nI s) hd ref size so post (k + 1) (nI i) c := by
    intro k
    induction k with
    | zero =>
      intro i c hi hg
      rw [L_X10_row_79]
      exact pk_le 160 i (fun _ => h c (fun j => by rw [hg j, show i = 160 by omega])) (fun e => by omega)
    | succ k ih =>
      intro i c hi hg
      rw [L_X10_row_79, z_ix160, nI_clamp (by omega)]
      refine pk_le 160 i (fun e => by omega) (fun _ => ⟨vp_in_nI (by omega) (by decide), nm_r (nI_1 i) (ih (i + 1) _ (by omega) (fun j => ?_))⟩)
      by_cases e : j = 160 * s + i
      · rw [e, pk_uLs, if_pos (by omega)]
      · rw [pk_uLn e, hg j]
        by_cases e2 : 160 * s ≤ j ∧ j < 160 * s + i
        · rw [if_pos e2, if_pos (by omega)]
        · rw [if_neg e2, if_neg (by omega)]
  exact ⟨161, key 160 0 cells (by omega) (fun j => by rw [if_neg (by omega)])⟩
theorem zo_ror {x : Int32} (hv : x = 0 ∨ x = 1 ∨ x = 2) {post : Int32 → Prop} (h2 : x = 2 → post (-2)) (h1 : x = 1 → post 0) (h0 : x = 0 → post (-3)) : F_X9_refusalOfRow x post := by
  unfold F_X9_refusalOfRow F_X6_holdsStretch F_X6_holdsRow
  rcases hv with e | e | e
  · subst e; exact br_f (by decide) (z_b0 (br_f (by decide) (z_b0 (h0 rfl))))
  · subst e; exact br_f (by decide) (z_b0 (br_t rfl (z_b1 (h1 rfl))))
  · subst e; exact br_t rfl (z_b1 (h2 rfl))
theorem zm_wants_no {hd : Nat → Int32} {x : Int32} (c : ¬ z_Bl 8 x) {post : Int32 → Prop} (h : post (-1)) : F_X10_wants hd x post := zf_mShelf c (z_b0 h)
theorem zm_wants {hd : Nat → Int32} {s : Nat} (hs : s < 8) (hv : hd s = 0 ∨ hd s = 1 ∨ hd s = 2) {post : Int32 → Prop} (h2 : hd s = 2 → post (-2)) (h1 : hd s = 1 → post 0) (h0 : hd s = 0 → post (-3)) : F_X10_wants hd (nI s) post := by
  unfold F_X10_wants
  rw [nI_clamp (by omega)]
  refine zt_mShelf hs (z_b1 ⟨vp_in_nI (by omega) (by decide), ?_⟩)
  rcases hv with e | e | e
  · rw [e]; exact br_f (by decide) ⟨vp_in_nI (by omega) (by decide), br_t rfl (h0 e)⟩
  · rw [e]; exact br_f (by decide) ⟨vp_in_nI (by omega) (by decide), br_f (by decide) (h1 e)⟩
  · rw [e]; exact br_t rfl (h2 e)
section SHELVES
variable {N : Nat} {hd size shown ec sn so ref : Nat → Int32} {cells : Nat → Int64} {el : Nat → Nat → Int64} {s1 s2 s3 s4 s5 : Int32}
theorem p_0 (hH : z_SH N hd size shown ec sn cells el) {post : (Nat → Int64) → (Nat → Int32) → (Nat → Int32) → (Nat → Int32) → (Nat → Int32) → (Nat → Int32) → (Nat → Int32) → (Nat → Int32) → (Nat → Int32) → (Nat → Nat → Int64) → Prop} (h : ∀ R cells' hd' size' so' ec' el', z_SH N hd' size' shown ec' sn cells' el' → post cells' hd' R size' so' R hd' so' ec' el') : O_0 cells hd ref size so ref hd so ec sn el s1 s2 s3 s4 s5 post := by
  unfold O_0 F_X9_row
  refine zo_shelfAt (fun c => z_r1 ?_) (fun s hs e => ?_)
  · unfold F_X10_row
    exact zf_mShelf c (z_b0 (z_n1 (z_eq (h _ _ _ _ _ _ _ hH))))
  · subst e
    refine ⟨fun c3 => zo_within (fun c => z_b0 (z_r6 ?_)) (fun c1 c2 => z_b1 ⟨fun d3 => ?_, fun d3 => z_r7 ?_⟩), fun c3 => z_r4 ?_⟩
    · unfold F_X10_row
      exact zt_mShelf hs (z_b1 (br_t c3 (z_out2 c (z_n6 (z_eq (h _ _ _ _ _ _ _ hH))))))
    · obtain ⟨n, -, hn, rfl⟩ := z_rng 0 160 c3 d3 (by decide) (by decide)
      unfold F_X6_holdRow
      refine zc_fill (fun g' hg => ?_)
      have e1 : (if (160 : Int32) < nI n then (160 : Int32) else nI n) = nI n := if_neg (show ¬ (160 : Int32) < nI n from nI_nlt (a := 160) (by omega) (by decide))
      have e2 : (if (0 : Int32) < nI n then nI n else 0) = nI n := by
        by_cases e : n = 0
        · subst e; rfl
        · exact if_pos (nI_lt (a := 0) (by omega) (by omega))
      rw [e1, e2]
      unfold F_X10_row
      rw [nI_clamp (by omega)]
      refine zt_mShelf hs (z_b1 (br_t c3 (z_inn2 c1 c2 (br_t d3 ⟨vp_in_nI (by omega) (by decide), vp_in_nI (by omega) (by decide), vp_in_nI (by omega) (by decide), zm_row79 hs (fun c' hc => z_eq (h _ _ _ _ _ _ _ ?_))⟩))))
      intro t ht
      by_cases e : t = s
      · subst e
        refine ⟨Or.inr (Or.inl (z_uu _ _ _)), fun _ => ⟨n, hn, z_uu _ _ _, z_uu _ _ _⟩, fun f => absurd (z_uu _ _ _) f, fun f => absurd ((z_uu hd t (1 : Int32)).symm.trans f) (by decide), fun i hi => ?_⟩
        rw [z_uu, hc, if_pos (by omega)]
        exact hg i hi
      · obtain ⟨a1, a2, a3, a4, a5⟩ := hH t ht
        have u1 : upd hd s 1 t = hd t := pk_un e
        have u2 : upd size s (nI n) t = size t := pk_un e
        have u3 : va_up ec s (nI n) t = ec t := z_un e
        have u4 : va_up el s g' t = el t := z_un e
        rw [u1, u2, u3, u4]
        refine ⟨a1, a2, a3, a4, fun i hi => ?_⟩
        rw [hc, if_neg (by omega)]
        exact a5 i hi
    · unfold F_X10_row
      exact zt_mShelf hs (z_b1 (br_t c3 (z_inn2 c1 c2 (br_f d3 (z_n7 (z_eq (h _ _ _ _ _ _ _ hH)))))))
    · unfold F_X10_row
      exact zt_mShelf hs (z_b1 (br_f c3 (z_n4 (z_eq (h _ _ _ _ _ _ _ hH)))))
def z_lb (so : Int32) (y : Int64) : Int64 := if so = 0 then y.toInt32.toInt8.toInt32.toInt64 else if so = 1 then y.toInt32.toInt16.toInt32.toInt64 else if so = 2 then y.toInt32.toInt64 else y
theorem z_SH.put (hH : z_SH N hd size shown ec sn cells el) {s i : Nat} (hs : s < 8) (hi : i < 160) (b : Int64) : z_SH N hd size shown ec sn (vp_updL cells (160 * s + i) b) (va_up el s (vp_updL (el s) i b)) := by
  intro t ht
  obtain ⟨a1, a2, a3, a4, a5⟩ := hH t ht
  refine ⟨a1, a2, a3, a4, fun j hj => ?_⟩
  by_cases e : t = s
  · subst e
    rw [z_uu]
    by_cases e2 : j = i
    · subst e2; rw [pk_uLs, pk_uLs]
    · rw [pk_uLn e2, pk_uLn (by omega)]; exact a5 j hj
  · rw [z_un e, pk_uLn (by omega)]; exact a5 j hj
theorem p_1 (hH : z_SH N hd size shown ec sn cells el) {post : (Nat → Int64) → (Nat → Int32) → (Nat → Int32) → (Nat → Nat → Int64) → Prop} (h : ∀ R cells' el', z_SH N hd size shown ec sn cells' el' → post cells' R R el') : O_1 cells hd ref size so ref hd so ec sn el s1 s2 s3 s4 s5 post := by
  unfold O_1
  generalize (s3.toInt64 <<< ((32 : Int32).toInt64 &&& 63)) ||| (s4.toInt64 &&& 4294967295) = y
  unfold F_X9_set F_X9_refusalOfRow_null0
  refine zo_shelfAt (fun c => br_f (by decide) (z_r1 ?_)) (fun s hs e => ?_)
  · unfold F_X10_set
    exact zf_mShelf c (z_b0 (z_n1 (z_eq (h _ _ _ hH))))
  · subst e
    obtain ⟨a1, a2, a3, a4, a5⟩ := hH s hs
    have hc : (nI s).toNatClampNeg = s := nI_clamp (by omega)
    refine zo_ror a1 (fun e => br_f (by decide) (z_r2 ?_)) (fun e => z_b0 ?_) (fun e => br_f (by decide) (z_r3 ?_))
    · unfold F_X10_set
      rw [hc, e]
      exact zt_mShelf hs (z_b1 ⟨vp_in_nI (by omega) (by decide), br_t rfl (z_n2 (z_eq (h _ _ _ hH)))⟩)
    · obtain ⟨n, hn, e1, e2⟩ := a2 e
      rw [e2]
      refine zo_X6has hn (fun c => z_b0 (z_r5 ?_)) (fun i hi e3 => z_b1 ?_)
      · unfold F_X10_set
        rw [hc, e, e1]
        refine zt_mShelf hs (z_b1 ⟨vp_in_nI (by omega) (by decide), br_f (by decide) ⟨vp_in_nI (by omega) (by decide), br_f (by decide) ⟨fun _ => z_n5 (z_eq (h _ _ _ hH)), fun d => ⟨vp_in_nI (by omega) (by decide), fun f => ?_, fun _ => z_n5 (z_eq (h _ _ _ hH))⟩⟩⟩⟩)
        exact absurd (z_Bl.of (N := n) (by omega) d (z_ltn f)) c
      · subst e3
        unfold F_X6_put
        refine zt_X6has hn hi (z_b1 ?_)
        have lb : ∀ {post : Int64 → Prop}, post (z_lb (so s) y) → F_X6_lowestBits (so s) y post := by
          intro post hp
          unfold F_X6_lowestBits
          unfold z_lb at hp
          refine ⟨fun f => ?_, fun f => ⟨fun f2 => ?_, fun f2 => ⟨fun f3 => ?_, fun f3 => ?_⟩⟩⟩
          · rw [if_pos f] at hp; exact hp
          · rw [if_neg f, if_pos f2] at hp; exact hp
          · rw [if_neg f, if_neg f2, if_pos f3] at hp; exact hp
          · rw [if_neg f, if_neg f2, if_neg f3] at hp; exact hp
        refine lb ⟨vp_in_nI (by omega) (by decide), ?_⟩
        have hi2 : (nI i).toNatClampNeg = i := nI_clamp (by omega)
        have hp := h ref _ _ (hH.put hs (i := i) (by omega) (z_lb (so s) y))
        unfold F_X10_set
        rw [hc, e, e1, z_ix160, nI_clamp (by omega), hi2]
        refine zt_mShelf hs (z_b1 ⟨vp_in_nI (by omega) (by decide), br_f (by decide) ⟨vp_in_nI (by omega) (by decide), br_f (by decide) (br_f (nI_pos (by omega)) ⟨vp_in_nI (by omega) (by decide), br_t (nI_lt hi (by omega)) ⟨vp_in_nI (by omega) (by decide), ?_⟩⟩)⟩⟩)
        unfold z_lb at hp ⊢
        refine ⟨fun f => ⟨vp_in_nI (by omega) (by decide), z_eq ?_⟩, fun f => ⟨vp_in_nI (by omega) (by decide), fun f2 => ⟨vp_in_nI (by omega) (by decide), z_eq ?_⟩, fun f2 => ⟨vp_in_nI (by omega) (by decide), fun f3 => ⟨vp_in_nI (by omega) (by decide), z_eq ?_⟩, fun f3 => ⟨vp_in_nI (by omega) (by decide), z_eq ?_⟩⟩⟩⟩
        · rw [if_pos f] at hp ⊢; exact hp
        · rw [if_neg f, if_pos f2] at hp ⊢; exact hp
        · rw [if_neg f, if_neg f2, if_pos f3] at hp ⊢; exact hp
        · rw [if_neg f, if_neg f2, if_neg f3] at hp ⊢; exact hp
    · unfold F_X10_set
      rw [hc, e]
      exact zt_mShelf hs (z_b1 ⟨vp_in_nI (by omega) (by decide), br_f (by decide) ⟨vp_in_nI (by omega) (by decide), br_t rfl (z_n3 (z_eq (h _ _ _ hH)))⟩⟩)
theorem p_3 (hH : z_SH N hd size shown ec sn cells el) {post : Prop} (h : post) : O_3 cells hd size hd so ec sn el s1 s2 s3 s4 s5 post := by
  have leq : ∀ v : Int64, ((lg_cmp v v = 0 → post) ∧ (¬ lg_cmp v v = 0 → False)) := fun v => ⟨fun _ => h, fun f => f ((lg_cmp_eq v v).mpr rfl)⟩
  unfold O_3 F_X9_element
  refine zo_shelfAt (fun c => ?_) (fun s hs e => ?_)
  · unfold F_X10_element
    exact zf_mShelf c (z_b0 (leq _))
  · subst e
    obtain ⟨a1, a2, a3, a4, a5⟩ := hH s hs
    have hc : (nI s).toNatClampNeg = s := nI_clamp (by omega)
    unfold F_X6_elementAt
    by_cases e : hd s = 1
    · obtain ⟨n, hn, e1, e2⟩ := a2 e
      rw [e2]
      refine zo_X6has hn (fun c => z_b0 ?_) (fun i hi e3 => z_b1 ⟨?_, ?_⟩)
      · unfold F_X10_element
        rw [hc, e, e1]
        refine zt_mShelf hs (z_b1 ⟨vp_in_nI (by omega) (by decide), br_t rfl ⟨fun _ => leq _, fun d => ⟨vp_in_nI (by omega) (by decide), fun _ => leq _, fun f => ?_⟩⟩⟩)
        exact absurd (z_Bl.of (N := n) (by omega) d f) c
      · subst e3; exact vp_in_nI (by omega) (by decide)
      · subst e3
        unfold F_X10_element
        rw [hc, e, e1, z_ix160, nI_clamp (by omega), nI_clamp (by omega), a5 i (by omega)]
        exact zt_mShelf hs (z_b1 ⟨vp_in_nI (by omega) (by decide), br_t rfl (br_f (nI_pos (by omega)) ⟨vp_in_nI (by omega) (by decide), br_f (nI_ge hi (by omega)) ⟨vp_in_nI (by omega) (by decide), leq _⟩⟩)⟩)
    · rw [a3 e]
      refine zo_X6has (N := 0) (by omega) (fun c => z_b0 ?_) (fun i hi e3 => by omega)
      unfold F_X10_element
      rw [hc]
      exact zt_mShelf hs (z_b1 ⟨vp_in_nI (by omega) (by decide), br_f e (leq _)⟩)
theorem p_4 (hN : N ≤ 16) (hH : z_SH N hd size shown ec sn cells el) {post : (Nat → Int32) → (Nat → Int32) → (Nat → Int32) → (Nat → Int32) → (Nat → Int32) → (Nat → Int32) → (Nat → Int32) → Prop} (h : ∀ R hd' shown' ec' sn', z_SH N hd' size shown' ec' sn' cells el → post hd' R shown' R hd' ec' sn') : O_4 (nI N) hd ref shown ref (nI N) hd so ec sn el s1 s2 s3 s4 s5 post := by
  unfold O_4 F_X9_show
  refine zo_shelfAt (fun c => z_r1 ?_) (fun s hs e => ⟨fun f => ?_, fun f => zo_X7has hN (fun c => z_b0 (z_r1 ?_)) (fun i hi e2 => z_b1 ?_)⟩)
  · unfold F_X10_show
    exact zf_mShelf c (z_b0 (z_n1 (z_eq (h _ _ _ _ _ hH))))
  · subst e f
    unfold F_X9_show_35 F_X6_holdNothing F_X6_holdStretch
    refine br_t rfl ?_
    unfold F_X10_show F_X10_show_27 F_X10_show_42
    rw [nI_clamp (by omega)]
    refine zt_mShelf hs (z_b1 (br_t rfl (br_t rfl ⟨vp_in_nI (by omega) (by decide), vp_in_nI (by omega) (by decide), br_t rfl (z_eq (h _ _ _ _ _ ?_))⟩)))
    intro t ht
    obtain ⟨a1, a2, a3, a4, a5⟩ := hH t ht
    by_cases e : t = s
    · subst e
      have u1 : upd hd t 0 t = 0 := pk_us
      refine ⟨Or.inl u1, fun g => absurd (u1.symm.trans g) (by decide), fun _ => z_uu _ _ _, fun g => absurd (u1.symm.trans g) (by decide), a5⟩
    · have u1 : upd hd s 0 t = hd t := pk_un e
      have u2 : upd shown s (-1) t = shown t := pk_un e
      have u3 : va_up ec s 0 t = ec t := z_un e
      rw [u1, u2, u3]
      exact ⟨a1, a2, a3, a4, a5⟩
  · subst e
    unfold F_X10_show
    exact zt_mShelf hs (z_b1 (br_f f (zf_mStretch hN c (z_b0 (z_n1 (z_eq (h _ _ _ _ _ hH)))))))
  · subst e e2
    unfold F_X9_show_35 F_X6_holdNothing F_X6_holdStretch
    refine br_f f ?_
    unfold F_X10_show F_X10_show_27 F_X10_show_42
    rw [show (nI s).toNatClampNeg = s from nI_clamp (by omega)]
    refine zt_mShelf hs (z_b1 (br_f f (zt_mStretch hN hi (z_b1 (br_f f ⟨vp_in_nI (by omega) (by decide), vp_in_nI (by omega) (by decide), br_f f (z_eq (h _ _ _ _ _ ?_))⟩)))))
    intro t ht
    obtain ⟨a1, a2, a3, a4, a5⟩ := hH t ht
    by_cases e : t = s
    · subst e
      have u1 : upd hd t 2 t = 2 := pk_us
      refine ⟨Or.inr (Or.inr u1), fun g => absurd (u1.symm.trans g) (by decide), fun _ => z_uu _ _ _, fun _ => ⟨i, hi, pk_us, z_uu _ _ _⟩, a5⟩
    · have u1 : upd hd s 2 t = hd t := pk_un e
      have u2 : upd shown s (nI i) t = shown t := pk_un e
      have u3 : va_up ec s 0 t = ec t := z_un e
      have u4 : va_up sn s (nI i) t = sn t := z_un e
      rw [u1, u2, u3, u4]
      exact ⟨a1, a2, a3, a4, a5⟩
theorem p_5 (hH : z_SH N hd size shown ec sn cells el) {post : Prop} (h : post) : O_5 hd shown so hd so ec sn el s1 s2 s3 s4 s5 post := by
  unfold O_5 F_X9_holds
  refine zo_shelfAt (fun c => ?_) (fun s hs e => ?_)
  · unfold F_X10_holds
    exact zf_mShelf c (z_b0 (z_eq h))
  · subst e
    obtain ⟨a1, a2, a3, a4, a5⟩ := hH s hs
    unfold F_X6_whatIsHeld F_X6_holdsRow F_X6_holdsStretch
    have mod : ∀ {post : Int32 → Prop}, (hd s = 0 → post (-1)) → (hd s = 1 → post (100 + so s)) → (hd s = 2 → post (shown s)) → F_X10_holds hd shown so (nI s) post := by
      intro post g0 g1 g2
      unfold F_X10_holds
      rw [nI_clamp (by omega)]
      refine zt_mShelf hs (z_b1 ⟨vp_in_nI (by omega) (by decide), g0, fun f => ⟨vp_in_nI (by omega) (by decide), fun f2 => ⟨vp_in_nI (by omega) (by decide), g1 f2⟩, fun f2 => ⟨vp_in_nI (by omega) (by decide), g2 ?_⟩⟩⟩)
      rcases a1 with e | e | e
      · exact absurd e f
      · exact absurd e f2
      · exact e
    rcases a1 with e | e | e
    · rw [e]
      exact br_f (by decide) (z_b0 (br_f (by decide) (z_b0 (mod (fun _ => z_eq h) (fun f => absurd (e.symm.trans f) (by decide)) (fun f => absurd (e.symm.trans f) (by decide))))))
    · rw [e]
      exact br_t rfl (z_b1 (mod (fun f => absurd (e.symm.trans f) (by decide)) (fun _ => z_eq h) (fun f => absurd (e.symm.trans f) (by decide))))
    · obtain ⟨j, hj, e1, e2⟩ := a4 e
      rw [e, e2]
      refine br_f (by decide) (z_b0 (br_t rfl (z_b1 (mod (fun f => absurd (e.symm.trans f) (by decide)) (fun f => absurd (e.symm.trans f) (by decide)) (fun _ => ?_)))))
      rw [e1]
      exact z_eq h
end SHELVES
