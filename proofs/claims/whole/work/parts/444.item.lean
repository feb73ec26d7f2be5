/-! books: an item of the reference -/
section ITEM
variable {s n a : Nat} {v : Nat → Int32} {σ : Nat → Nat} {α : Nat → Nat → Int32} {cells : Nat → Int64} {wds : Nat → Int32}
theorem zm_fin {W : Nat} (hW : W < 13) (hf : z_ful W σ α = false) (hV : z_VA σ α) (V : Nat → Nat) {tl : Nat → Int32} (ht : ∀ i, i < z_mn W → tl i = nI (V i)) {F E q t f : Int32} {k : Nat} {post : Int32 → Int32 → Int32 → Int32 → Int32 → Int32 → Int32 → Int32 → Int32 → Int32 → Int32 → (Nat → Int32) → (Nat → Int32) → (Nat → Int32) → (Nat → Int32) → (Nat → Int32) → (Nat → Int32) → (Nat → Int32) → (Nat → Int32) → (Nat → Int32) → (Nat → Int32) → (Nat → Int32) → Prop} (h : post 1 (nI (z_eσ W V σ 0)) (nI (z_eσ W V σ 1)) (nI (z_eσ W V σ 2)) (nI (z_eσ W V σ 3)) (nI (z_eσ W V σ 4)) (nI (z_eσ W V σ 5)) (nI (z_eσ W V σ 6)) q t f (z_eα W V σ α 4) (z_eα W V σ α 7) (z_eα W V σ α 0) (z_eα W V σ α 8) (z_eα W V σ α 1) (z_eα W V σ α 9) (z_eα W V σ α 5) (z_eα W V σ α 2) (z_eα W V σ α 6) tl (z_eα W V σ α 3)) : L_X10_item_145 F E cells (nI W) (nI (z_mn W)) post (k + 1) (nI (z_mn W)) (nI (σ 0)) (nI (σ 1)) (nI (σ 2)) (nI (σ 3)) (nI (σ 4)) (nI (σ 5)) (nI (σ 6)) q t f (α 4) (α 7) (α 0) (α 8) (α 1) (α 9) (α 5) (α 2) (α 6) tl (α 3) := by
  have hm : ∀ w, w < 13 → z_mn w ≤ 3 := by decide +kernel
  have hm3 := hm W hW
  have hf' := z_ful_f hf
  obtain ⟨hS, hC, hT, hD, hdm⟩ := hV
  have hN := hS.1
  have hC6 := hC.1
  have hT6 := hT.1
  rw [L_X10_item_145]
  refine pk_le (z_mn W) (z_mn W) (fun _ => ?_) (fun e => by omega)
  have t0 : (0 : Int32).toNatClampNeg = 0 := rfl
  have t1 : (1 : Int32).toNatClampNeg = 1 := rfl
  have t2 : (2 : Int32).toNatClampNeg = 2 := rfl
  have h13 : W = 0 ∨ W = 1 ∨ W = 2 ∨ W = 3 ∨ W = 4 ∨ W = 5 ∨ W = 6 ∨ W = 7 ∨ W = 8 ∨ W = 9 ∨ W = 10 ∨ W = 11 ∨ W = 12 := by omega
  rcases h13 with rfl | rfl | rfl | rfl | rfl | rfl | rfl | rfl | rfl | rfl | rfl | rfl | rfl <;> (repeat (first | refine br_t (by decide) ?_ | refine br_f (by decide) ?_))
  · unfold F_X10_item_327; rw [t0, t1, ht 0 (by decide), ht 1 (by decide)]; exact zm_comes (by omega) h
  · unfold F_X10_item_367; rw [t0, t1, t2, ht 0 (by decide), ht 1 (by decide), ht 2 (by decide)]; exact zm_comes (by omega) h
  · unfold F_X10_item_327; rw [t0, t1, ht 0 (by decide), ht 1 (by decide)]; exact zm_comes (by omega) h
  · unfold F_X10_item_327; rw [t0, t1, ht 0 (by decide), ht 1 (by decide)]; exact zm_comes (by omega) h
  · unfold F_X10_item_367; rw [t0, t1, t2, ht 0 (by decide), ht 1 (by decide), ht 2 (by decide)]; exact zm_comes (by omega) h
  · unfold F_X10_item_367; rw [t0, t1, t2, ht 0 (by decide), ht 1 (by decide), ht 2 (by decide)]; exact zm_comes (by omega) h
  · rw [t0, t1, t2, ht 0 (by decide), ht 1 (by decide), ht 2 (by decide)]; exact zm_cars (by omega) h
  · rw [nI_1, nI_clamp (by omega)]
    exact ⟨vp_in_nI (by omega) (by decide), h⟩
  · obtain ⟨T, eT⟩ : ∃ T, σ 2 = T + 1 := ⟨σ 2 - 1, by omega⟩
    have hnt := (hT.2 T (by omega)).1
    have ev : nI (σ 2) - 1 = nI T := by rw [eT, nI_pred]
    simp only [z_eσ, z_eα, if_neg (show ¬ 8 < 6 by decide), if_neg (show ¬ 8 = 6 by decide), if_neg (show ¬ 8 = 7 by decide), if_neg (show ¬ 9 ≤ 8 by decide), if_neg (show ¬ 8 = 9 by decide), if_neg (show ¬ 8 = 10 by decide), if_neg (show ¬ 8 = 11 by decide), if_neg (show ¬ 8 = 12 by decide), if_true] at h
    rw [show σ 2 - 1 = T by omega] at h hf'
    rw [t0, t1, ht 0 (by decide), ht 1 (by decide)]
    refine nm_r ev ⟨vp_in_nI (by omega) (by decide), ?_⟩
    rw [nI_clamp (by omega), hnt.1]
    refine nm_r (e' := nI (12 * T + z_nt (α 8) T)) (by rw [show (12 : Int32) = nI 12 from rfl, pk_mul, nI_add]) ⟨vp_in_nI (by omega) (by decide), vp_in_nI (by omega) (by decide), vp_in_nI (by omega) (by decide), vp_in_nI (by omega) (by decide), ?_⟩
    rw [nI_clamp (by omega), nI_1]
    exact h
  · rw [t0, ht 0 (by decide)]; exact h
  · rw [t0, ht 0 (by decide)]; exact h
  · rw [t0, ht 0 (by decide)]; exact h
  · rw [t0, ht 0 (by decide)]; exact h
theorem zm_206 (hs : s < 8) (hn : n ≤ 160) (hv : ∀ i, i < 160 → v i = (cells (160 * s + i)).toInt32) (hV : z_VA σ α) {W p0 i : Nat} (hW : W < 13) (hi : i < z_mn W) (hb : z_px v n p0 i < n ∧ v (z_px v n p0 i) = 32) {t f x3 : Int32} {tl : Nat → Int32} {post : Int32 → Int32 → Int32 → Int32 → Int32 → Int32 → Int32 → Int32 → Int32 → Int32 → Int32 → (Nat → Int32) → (Nat → Int32) → (Nat → Int32) → (Nat → Int32) → (Nat → Int32) → (Nat → Int32) → (Nat → Int32) → (Nat → Int32) → (Nat → Int32) → (Nat → Int32) → (Nat → Int32) → Prop} {k145 : Int32 → Int32 → Int32 → Int32 → Int32 → Int32 → Int32 → Int32 → Int32 → Int32 → Int32 → (Nat → Int32) → (Nat → Int32) → (Nat → Int32) → (Nat → Int32) → (Nat → Int32) → (Nat → Int32) → (Nat → Int32) → (Nat → Int32) → (Nat → Int32) → (Nat → Int32) → (Nat → Int32) → Prop} (h1 : z_iok v n p0 W (z_sm σ α) i = true → k145 (nI (i + 1)) (nI (σ 0)) (nI (σ 1)) (nI (σ 2)) (nI (σ 3)) (nI (σ 4)) (nI (σ 5)) (nI (σ 6)) (nI (z_px v n p0 (i + 1))) (nI (z_val v n p0 i)) f (α 4) (α 7) (α 0) (α 8) (α 1) (α 9) (α 5) (α 2) (α 6) (upd tl i (nI (z_val v n p0 i))) (α 3)) (h0 : z_iok v n p0 W (z_sm σ α) i = false → ∀ q t, post 0 (nI (σ 0)) (nI (σ 1)) (nI (σ 2)) (nI (σ 3)) (nI (σ 4)) (nI (σ 5)) (nI (σ 6)) q t (nI (z_nf v n (z_px v n p0 i))) (α 4) (α 7) (α 0) (α 8) (α 1) (α 9) (α 5) (α 2) (α 6) tl (α 3)) : F_X10_item_206 (nI (160 * s)) (nI n) cells post k145 (nI W) x3 (nI i) (nI (σ 0)) (nI (σ 1)) (nI (σ 2)) (nI (σ 3)) (nI (σ 4)) (nI (σ 5)) (nI (σ 6)) (nI (z_px v n p0 i + 1)) t f (α 4) (α 7) (α 0) (α 8) (α 1) (α 9) (α 5) (α 2) (α 6) tl (α 3) := by
  have hm : ∀ w, w < 13 → z_mn w ≤ 3 := by decide +kernel
  have hm3 := hm W hW
  have hS100 : (z_sm σ α) ≤ 100 := hV.2.1.2.2
  have lo9 : z_lo W i ≤ 9999 := by
    unfold z_lo
    repeat (first | split | omega)
  have hi9 : z_hi W i (z_sm σ α) ≤ 9999 := by
    unfold z_hi
    repeat (first | split | omega)
  have ef : z_nf v n (z_px v n p0 i) = z_px v n p0 i + 1 := if_pos hb
  rw [ef] at h0
  unfold F_X10_item_206
  refine zm_low hW hi (zm_high hW hi hV.2.1 rfl (zm_nm hs hn hv lo9 hi9 hb (fun e => z_b1 ⟨vp_in_nI (by omega) (by decide), nm_r (nI_1 i) ?_⟩) (fun e q t => z_b0 (h0 e q t))))
  rw [nI_clamp (by omega)]
  exact h1 e
theorem zm_145 (hs : s < 8) (hn : n ≤ 160) (hv : ∀ i, i < 160 → v i = (cells (160 * s + i)).toInt32) (hV : z_VA σ α) {W p0 : Nat} (hW : W < 13) (hf : z_ful W σ α = false) (hp : p0 ≤ n) {f : Int32} {post : Int32 → Int32 → Int32 → Int32 → Int32 → Int32 → Int32 → Int32 → Int32 → Int32 → Int32 → (Nat → Int32) → (Nat → Int32) → (Nat → Int32) → (Nat → Int32) → (Nat → Int32) → (Nat → Int32) → (Nat → Int32) → (Nat → Int32) → (Nat → Int32) → (Nat → Int32) → (Nat → Int32) → Prop} (h1 : (∀ j, j < z_mn W → z_iok v n p0 W (z_sm σ α) j = true) → ∀ t tl, post 1 (nI (z_eσ W (z_val v n p0) σ 0)) (nI (z_eσ W (z_val v n p0) σ 1)) (nI (z_eσ W (z_val v n p0) σ 2)) (nI (z_eσ W (z_val v n p0) σ 3)) (nI (z_eσ W (z_val v n p0) σ 4)) (nI (z_eσ W (z_val v n p0) σ 5)) (nI (z_eσ W (z_val v n p0) σ 6)) (nI (z_px v n p0 (z_mn W))) t f (z_eα W (z_val v n p0) σ α 4) (z_eα W (z_val v n p0) σ α 7) (z_eα W (z_val v n p0) σ α 0) (z_eα W (z_val v n p0) σ α 8) (z_eα W (z_val v n p0) σ α 1) (z_eα W (z_val v n p0) σ α 9) (z_eα W (z_val v n p0) σ α 5) (z_eα W (z_val v n p0) σ α 2) (z_eα W (z_val v n p0) σ α 6) tl (z_eα W (z_val v n p0) σ α 3)) (h0 : ∀ i, i < z_mn W → (∀ j, j < i → z_iok v n p0 W (z_sm σ α) j = true) → z_iok v n p0 W (z_sm σ α) i = false → ∀ q t tl, post 0 (nI (σ 0)) (nI (σ 1)) (nI (σ 2)) (nI (σ 3)) (nI (σ 4)) (nI (σ 5)) (nI (σ 6)) q t (nI (z_nf v n (z_px v n p0 i))) (α 4) (α 7) (α 0) (α 8) (α 1) (α 9) (α 5) (α 2) (α 6) tl (α 3)) : ∀ k i : Nat, i + k = z_mn W → 0 < i → (∀ j, j < i → z_iok v n p0 W (z_sm σ α) j = true) → ∀ (t : Int32) (tl : Nat → Int32), (∀ j, j < i → tl j = nI (z_val v n p0 j)) → L_X10_item_145 (nI (160 * s)) (nI n) cells (nI W) (nI (z_mn W)) post (k + 1) (nI i) (nI (σ 0)) (nI (σ 1)) (nI (σ 2)) (nI (σ 3)) (nI (σ 4)) (nI (σ 5)) (nI (σ 6)) (nI (z_px v n p0 i)) t f (α 4) (α 7) (α 0) (α 8) (α 1) (α 9) (α 5) (α 2) (α 6) tl (α 3) := by
  have hm : ∀ w, w < 13 → z_mn w ≤ 3 := by decide +kernel
  have hm3 := hm W hW
  intro k
  induction k with
  | zero =>
    intro i hi h0i ho t tl ht
    have ei : i = z_mn W := by omega
    subst ei
    exact zm_fin hW hf hV (z_val v n p0) ht (h1 ho t tl)
  | succ k ih =>
    intro i hi h0i ho t tl ht
    have pi : z_px v n p0 i ≤ n := by
      have := (z_nx_n (ho (i - 1) (by omega))).2
      rw [show i = i - 1 + 1 by omega]
      exact this
    rw [L_X10_item_145, nI_add (160 * s), show (nI (160 * s + z_px v n p0 i)).toNatClampNeg = 160 * s + z_px v n p0 i from nI_clamp (by omega)]
    have bad : ¬ (z_px v n p0 i < n ∧ v (z_px v n p0 i) = 32) → post 0 (nI (σ 0)) (nI (σ 1)) (nI (σ 2)) (nI (σ 3)) (nI (σ 4)) (nI (σ 5)) (nI (σ 6)) (nI (z_px v n p0 i)) t (nI (z_px v n p0 i)) (α 4) (α 7) (α 0) (α 8) (α 1) (α 9) (α 5) (α 2) (α 6) tl (α 3) := fun e => by
      have := h0 i (by omega) ho (decide_eq_false (fun g => e g.1)) (nI (z_px v n p0 i)) t tl
      rw [show z_nf v n (z_px v n p0 i) = z_px v n p0 i from if_neg e] at this
      exact this
    refine pk_le (z_mn W) i (fun e => by omega) (fun _ => pk_le i 0 (fun e => by omega) (fun _ => pk_le n (z_px v n p0 i) (fun e => ⟨z_vb0, bad (fun g => by omega)⟩) (fun e => ?_)))
    rw [← hv (z_px v n p0 i) (by omega), nI_1]
    refine ⟨vp_in_nI (by omega) (by decide), fun e2 => zm_206 hs hn hv hV hW (by omega) ⟨e, e2⟩ (fun e3 => ?_) (fun e3 q t => h0 i (by omega) ho e3 q t tl), fun e2 => ⟨z_vb0, bad (fun g => e2 g.2)⟩⟩
    refine ih (i + 1) (by omega) (by omega) (fun j hj => ?_) _ _ (fun j hj => ?_)
    · by_cases ej : j = i
      · subst ej; exact e3
      · exact ho j (by omega)
    · by_cases ej : j = i
      · subst ej; exact pk_us
      · rw [pk_un ej]; exact ht j (by omega)
theorem zm_item (hs : s < 8) (hn : n ≤ 160) (hW : ∀ k, k < 79 → wds k = nI (z_WD k)) (hv : ∀ i, i < 160 → v i = (cells (160 * s + i)).toInt32) (ha : a ≤ n) (hV : z_VA σ α) {t f : Int32} {tl : Nat → Int32} {post : Int32 → Int32 → Int32 → Int32 → Int32 → Int32 → Int32 → Int32 → Int32 → Int32 → Int32 → (Nat → Int32) → (Nat → Int32) → (Nat → Int32) → (Nat → Int32) → (Nat → Int32) → (Nat → Int32) → (Nat → Int32) → (Nat → Int32) → (Nat → Int32) → (Nat → Int32) → (Nat → Int32) → Prop} (h0 : ∀ u, z_flt v n σ α a = some u → ∀ q t tl, post 0 (nI (σ 0)) (nI (σ 1)) (nI (σ 2)) (nI (σ 3)) (nI (σ 4)) (nI (σ 5)) (nI (σ 6)) q t (nI u) (α 4) (α 7) (α 0) (α 8) (α 1) (α 9) (α 5) (α 2) (α 6) tl (α 3)) (h1 : z_flt v n σ α a = none → ∀ t tl, post 1 (nI (z_eσ (z_wd v n a) (z_val v n (a + z_LN (z_wd v n a))) σ 0)) (nI (z_eσ (z_wd v n a) (z_val v n (a + z_LN (z_wd v n a))) σ 1)) (nI (z_eσ (z_wd v n a) (z_val v n (a + z_LN (z_wd v n a))) σ 2)) (nI (z_eσ (z_wd v n a) (z_val v n (a + z_LN (z_wd v n a))) σ 3)) (nI (z_eσ (z_wd v n a) (z_val v n (a + z_LN (z_wd v n a))) σ 4)) (nI (z_eσ (z_wd v n a) (z_val v n (a + z_LN (z_wd v n a))) σ 5)) (nI (z_eσ (z_wd v n a) (z_val v n (a + z_LN (z_wd v n a))) σ 6)) (nI (z_nxt v n a)) t f (z_eα (z_wd v n a) (z_val v n (a + z_LN (z_wd v n a))) σ α 4) (z_eα (z_wd v n a) (z_val v n (a + z_LN (z_wd v n a))) σ α 7) (z_eα (z_wd v n a) (z_val v n (a + z_LN (z_wd v n a))) σ α 0) (z_eα (z_wd v n a) (z_val v n (a + z_LN (z_wd v n a))) σ α 8) (z_eα (z_wd v n a) (z_val v n (a + z_LN (z_wd v n a))) σ α 1) (z_eα (z_wd v n a) (z_val v n (a + z_LN (z_wd v n a))) σ α 9) (z_eα (z_wd v n a) (z_val v n (a + z_LN (z_wd v n a))) σ α 5) (z_eα (z_wd v n a) (z_val v n (a + z_LN (z_wd v n a))) σ α 2) (z_eα (z_wd v n a) (z_val v n (a + z_LN (z_wd v n a))) σ α 6) tl (z_eα (z_wd v n a) (z_val v n (a + z_LN (z_wd v n a))) σ α 3)) : F_X10_item (nI (σ 0)) (nI (σ 1)) (nI (σ 2)) (nI (σ 3)) (nI (σ 4)) (nI (σ 5)) (nI (σ 6)) (nI (160 * s)) (nI a) (nI n) t f (α 4) (α 7) cells (α 0) (α 8) (α 1) (α 9) (α 5) (α 2) (α 6) tl (α 3) wds post := by
  have h13 := z_wd_le v n a
  have key : ∀ k i : Nat, i + k = 13 → (z_wd v n a < i → z_ful (z_wd v n a) σ α = false) → L_X10_item_2 (nI (160 * s)) (nI n) cells wds post (k + 1) (nI i) (nI (σ 0)) (nI (σ 1)) (nI (σ 2)) (nI (σ 3)) (nI (σ 4)) (nI (σ 5)) (nI (σ 6)) (nI a) t f (α 4) (α 7) (α 0) (α 8) (α 1) (α 9) (α 5) (α 2) (α 6) tl (α 3) := by
    intro k
    induction k with
    | succ k ih =>
      intro i hi hinv
      rw [L_X10_item_2]
      unfold F_X10_item_33
      refine pk_le 13 i (fun e => by omega) (fun _ => zm_isWordAt hs hn hW hv ha (by omega) (fun e => z_b1 ?_) (fun e => z_b0 (nm_r (nI_1 i) (ih (i + 1) (by omega) (fun c => hinv ?_)))))
      · have ew : z_wd v n a = i := Classical.byContradiction (fun hne => by
          by_cases c : z_wd v n a < 13
          · have := (z_wd_un c (w := i) (by omega) (fun e => hne e.symm)).1
            omega
          · have := z_wd_no (v := v) (n := n) (a := a) (by omega) i (by omega)
            omega)
        refine zm_isFull hV (by omega) (fun e2 => z_b1 ⟨z_vb0, h0 a (z_flt_f (by omega) (by rw [ew]; exact e2)) _ _ _⟩) (fun e2 => z_b0 (nm_r (nI_1 i) (ih (i + 1) (by omega) (fun _ => by rw [ew]; exact e2))))
      · by_cases ew : z_wd v n a = i
        · have := z_wd_yes (v := v) (n := n) (a := a) (by omega)
          rw [ew] at this
          omega
        · omega
    | zero =>
      intro i hi hinv
      have ei : i = 13 := by omega
      subst ei
      have hp0 := z_ft_n (v := v) (w := z_wd v n a) ha
      rw [L_X10_item_2]
      refine pk_le 13 13 (fun _ => zm_word hs hn hW hv ha (fun c hbl => br_f (z_nIm (by omega)) ?_) (fun c => br_t rfl (h0 _ ?_ _ _ _))) (fun e => by omega)
      · have hf := hinv c
        have hf' := z_ful_f hf
        rw [z_wd_yes c] at hp0
        have F1 := fun i hi ho hb => h0 _ (z_flt_b (σ := σ) (α := α) c hf (i := i) hi ho hb)
        have F2 := fun ho => h1 (z_flt_n (σ := σ) (α := α) c hf ho)
        unfold z_nxt at F2
        clear h0 h1 hinv
        generalize z_wd v n a = W at *
        have rest : F_X10_item_71 (nI (160 * s)) (nI n) cells post (nI a) (nI W) (nI (σ 0)) (nI (σ 1)) (nI (σ 2)) (nI (σ 3)) (nI (σ 4)) (nI (σ 5)) (nI (σ 6)) (nI (a + z_pl W)) t f (α 4) (α 7) (α 0) (α 8) (α 1) (α 9) (α 5) (α 2) (α 6) tl (α 3) := by
          refine zm_71 hV c hf ?_
          unfold F_X10_item_136
          refine zm_many c ?_
          by_cases c7 : W = 7
          · subst c7
            exact ⟨1, zm_fin c hf hV (z_val v n (a + z_LN 7)) (fun j hj => absurd hj (Nat.not_lt_zero _)) (F2 (fun j hj => absurd hj (Nat.not_lt_zero _)) t tl)⟩
          · have hm0 : ∀ w, w < 13 → w ≠ 7 → 0 < z_mn w := by decide +kernel
            have hmw := hm0 W c c7
            have hbl' : z_bl v n (a + z_LN W) := hbl.resolve_left c7
            have epl : a + z_pl W = z_px v n (a + z_LN W) 0 + 1 := by
              unfold z_pl
              rw [if_neg c7]
              rfl
            have go : L_X10_item_145 (nI (160 * s)) (nI n) cells (nI W) (nI (z_mn W)) post (z_mn W + 1) 0 (nI (σ 0)) (nI (σ 1)) (nI (σ 2)) (nI (σ 3)) (nI (σ 4)) (nI (σ 5)) (nI (σ 6)) (nI (a + z_pl W)) t f (α 4) (α 7) (α 0) (α 8) (α 1) (α 9) (α 5) (α 2) (α 6) tl (α 3) := by
              rw [L_X10_item_145, epl]
              have hm3 : ∀ w, w < 13 → z_mn w ≤ 3 := by decide +kernel
              have hm4 := hm3 W c
              refine pk_le (z_mn W) 0 (fun e => by omega) (fun _ => br_t (by decide) (zm_206 hs hn hv hV (i := 0) c hmw hbl' (fun e3 => ?_) (fun e3 q t => F1 0 hmw (fun j hj => by omega) e3 q t tl)))
              obtain ⟨m, em⟩ : ∃ m, z_mn W = m + 1 := ⟨z_mn W - 1, by omega⟩
              have kk := zm_145 hs hn hv hV c hf hp0 F2 F1 m 1 (by omega) (by omega) (fun j hj => by rw [show j = 0 by omega]; exact e3) (nI (z_val v n (a + z_LN W) 0)) (upd tl 0 (nI (z_val v n (a + z_LN W) 0))) (fun j hj => by rw [show j = 0 by omega]; exact pk_us)
              rw [show m + 1 = z_mn W from em.symm] at kk
              exact kk
            exact ⟨z_mn W + 1, go⟩
        have hN16 := hV.1.1
        exact pk_le 6 W (fun _ => rest) (fun e => pk_eq (σ 0) 16 (fun e2 => by omega) (fun _ => rest))
      · by_cases c13 : z_wd v n a = 13
        · exact z_flt_w c13
        · have c' : z_wd v n a < 13 := by omega
          have hm0 : ∀ w, w < 13 → w ≠ 7 → 0 < z_mn w := by decide +kernel
          have c7 : z_wd v n a ≠ 7 := fun e => c ⟨c', Or.inl e⟩
          have hb : ¬ (a + z_LN (z_wd v n a) < n ∧ v (a + z_LN (z_wd v n a)) = 32) := fun e => c ⟨c', Or.inr e⟩
          have hz := z_flt_b (σ := σ) (α := α) c' (hinv c') (i := 0) (hm0 _ c' c7) (fun j hj => by omega) (decide_eq_false (fun g => hb g.1))
          rw [hz, show z_px v n (a + z_LN (z_wd v n a)) 0 = a + z_LN (z_wd v n a) from rfl, show z_nf v n (a + z_LN (z_wd v n a)) = a + z_LN (z_wd v n a) from if_neg hb, z_mx_w c']
  exact ⟨14, key 13 0 (by omega) (fun e => by omega)⟩
end ITEM
