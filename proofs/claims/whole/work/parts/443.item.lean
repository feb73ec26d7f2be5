/-! books: an item, whole -/
section ITEM
variable {n a : Nat} {v : Nat → Int32} {σ : Nat → Nat} {α : Nat → Nat → Int32}
theorem z_ful_f {w : Nat} (hf : z_ful w σ α = false) : ¬ ((w < 6 ∧ σ 0 = 16) ∨ (w = 6 ∧ σ 1 = 6) ∨ (w = 7 ∧ σ 2 = 6) ∨ (w = 8 ∧ (σ 2 = 0 ∨ z_nt (α 8) (σ 2 - 1) = 12))) := of_decide_eq_false hf
theorem zc_item (hn : n ≤ 160) (ha : a ≤ n) {g : Nat → Int64} (hv : v = fun i => (g i).toInt32) (hV : z_VA σ α) {f0 : Int32} {post : Int32 → Int32 → Int32 → Int32 → (Nat → Int32) → (Nat → Int32) → (Nat → Int32) → (Nat → Int32) → Int32 → (Nat → Int32) → (Nat → Int32) → (Nat → Int32) → (Nat → Int32) → Int32 → (Nat → Int32) → (Nat → Int32) → (Nat → Int32) → Prop} (h0 : ∀ f, z_flt v n σ α a = some f → ∀ q, post 0 q (nI f) (nI (σ 1)) (α 4) (α 5) (α 6) (α 10) (nI (σ 0)) (α 0) (α 1) (α 2) (α 3) (nI (σ 2)) (α 7) (α 8) (α 9)) (h1 : z_flt v n σ α a = none → post 1 (nI (z_nxt v n a)) f0 (nI (z_eσ (z_wd v n a) (z_val v n (a + z_LN (z_wd v n a))) σ 1)) (z_eα (z_wd v n a) (z_val v n (a + z_LN (z_wd v n a))) σ α 4) (z_eα (z_wd v n a) (z_val v n (a + z_LN (z_wd v n a))) σ α 5) (z_eα (z_wd v n a) (z_val v n (a + z_LN (z_wd v n a))) σ α 6) (z_eα (z_wd v n a) (z_val v n (a + z_LN (z_wd v n a))) σ α 10) (nI (z_eσ (z_wd v n a) (z_val v n (a + z_LN (z_wd v n a))) σ 0)) (z_eα (z_wd v n a) (z_val v n (a + z_LN (z_wd v n a))) σ α 0) (z_eα (z_wd v n a) (z_val v n (a + z_LN (z_wd v n a))) σ α 1) (z_eα (z_wd v n a) (z_val v n (a + z_LN (z_wd v n a))) σ α 2) (z_eα (z_wd v n a) (z_val v n (a + z_LN (z_wd v n a))) σ α 3) (nI (z_eσ (z_wd v n a) (z_val v n (a + z_LN (z_wd v n a))) σ 2)) (z_eα (z_wd v n a) (z_val v n (a + z_LN (z_wd v n a))) σ α 7) (z_eα (z_wd v n a) (z_val v n (a + z_LN (z_wd v n a))) σ α 8) (z_eα (z_wd v n a) (z_val v n (a + z_LN (z_wd v n a))) σ α 9)) : F_X4_readItem (nI a) f0 (nI n) g (nI (σ 1)) (α 4) (α 5) (α 6) (α 10) (nI (σ 0)) (α 0) (α 1) (α 2) (α 3) (nI (σ 2)) (α 7) (α 8) (α 9) post := by
  have hv' : ∀ i, v i = (g i).toInt32 := fun i => by rw [hv]
  have rd : ∀ {P : Option Nat → Int32 → Int32 → Prop}, (∀ t, z_wd v n a = t → t < 13 → P (some t) (nI (a + z_LN t)) f0) → (z_wd v n a = 13 → P none (nI (a + z_mx (z_ft v n a) 13)) (nI (a + z_mx (z_ft v n a) 13))) → F_X4_readWord (nI a) f0 (nI n) g P := by
    intro P g1 g0
    subst hv
    exact zc_readWord hn ha g1 g0
  unfold F_X4_readItem
  refine rd (fun t et ht => ⟨fun e => (by cases e), fun t6 e6 => ?_⟩) (fun e13 => ⟨fun _ => h0 _ (z_flt_w e13) _, fun t6 e6 => (by cases e6)⟩)
  cases e6
  subst et
  have hp0 := z_ft_n (v := v) (w := z_wd v n a) ha
  rw [z_wd_yes ht] at hp0
  have F0 := fun hf q => h0 _ (z_flt_f (σ := σ) (α := α) ht hf) q
  have F1 := fun hf i hi ho hb => h0 _ (z_flt_b (σ := σ) (α := α) ht hf (i := i) hi ho hb)
  have F2 := fun hf ho => h1 (z_flt_n (σ := σ) (α := α) ht hf ho)
  unfold z_nxt at F2
  clear h0 h1
  generalize z_wd v n a = W at *
  refine zc_mayStand hV ht (fun hf => z_b0 ⟨z_vb0, F0 hf _⟩) (fun hf => z_b1 ⟨ht, ?_⟩)
  have G0 := F1 hf
  have G1 := F2 hf
  clear F0 F1 F2
  have hf' := z_ful_f hf
  obtain ⟨hS, hC, hT, hD, hdm⟩ := hV
  have hN16 := hS.1
  have hC6 := hC.1
  have hT6 := hT.1
  by_cases c : W < 6
  · have c6 : ¬ W = 6 := by omega
    have c7 : ¬ W = 7 := by omega
    have c8 : ¬ W = 8 := by omega
    have c9 : ¬ 9 ≤ W := by omega
    refine br_t (zi_f0 W c).1 (zc_readStretch hn hp0 hv' c (S := z_sm σ α) (by omega) (fun i hi ho hb q => ⟨z_vb0, G0 i hi ho hb q⟩) (fun ho => ⟨z_vb1, ?_⟩))
    have g1 := G1 ho
    simp only [z_eσ, z_eα, if_pos c, if_neg c6, if_neg c7, if_neg c8, if_neg c9] at g1
    exact g1
  by_cases c6 : W = 6
  · subst c6
    exact br_f (by decide) (br_t rfl (zc_readCar hn hp0 hv' rfl hC (S := z_sm σ α) rfl (by omega) (fun i hi ho hb q => ⟨z_vb0, G0 i hi ho hb q⟩) (fun ho => ⟨z_vb1, G1 ho⟩)))
  by_cases c7 : W = 7
  · subst c7
    exact br_f (by decide) (br_f (by decide) (br_t rfl (zc_begin (by omega) (br_f (z_nIm (by omega)) (G1 (fun j hj => absurd hj (Nat.not_lt_zero _)))))))
  by_cases c8 : W = 8
  · subst c8
    obtain ⟨T, eT⟩ : ∃ T, σ 2 = T + 1 := ⟨σ 2 - 1, by omega⟩
    have hnt := (hT.2 T (by omega)).1
    simp only [z_eσ, z_eα, if_neg (show ¬ 8 < 6 by decide), if_neg (show ¬ 8 = 6 by decide), if_neg (show ¬ 8 = 7 by decide), if_neg (show ¬ 9 ≤ 8 by decide), if_true] at G1
    rw [eT, show T + 1 - 1 = T by omega] at G1 hf'
    rw [eT] at G0 ⊢
    exact br_f (by decide) (br_f (by decide) (br_f (by decide) (br_t rfl (zc_readNote hn hp0 hv' rfl (S := z_sm σ α) (by omega) (i := z_nt (α 8) T) (by omega) hnt.1 (fun i hi ho hb q => ⟨z_vb0, G0 i hi ho hb q⟩) (fun ho => ⟨z_vb1, G1 ho⟩)))))
  obtain ⟨k, rfl⟩ : ∃ k, W = k + 9 := ⟨W - 9, by omega⟩
  obtain ⟨ef, en, -, -⟩ := zi_f9 k (by omega)
  rw [ef, en]
  refine br_f (by decide) (br_f (by decide) (br_f (by decide) (br_f (by decide) ⟨ht, zc_readDemand hn hp0 hv' (k := k) (by omega) rfl (S := z_sm σ α) (fun i hi ho hb q => ⟨z_vb0, G0 i hi ho hb q⟩) (fun ho => ⟨z_vb1, ?_⟩)⟩)))
  have g1 := G1 ho
  simp only [z_eσ, z_eα, if_neg c, if_neg c6, if_neg c7, if_neg c8, if_pos (show 9 ≤ k + 9 by omega), Nat.add_sub_cancel] at g1
  exact g1
/-! the reference -/
theorem zm_isFull {w : Nat} (hV : z_VA σ α) (hw : w < 13) {post : Int32 → Prop} (h1 : z_ful w σ α = true → post 1) (h0 : z_ful w σ α = false → post 0) : F_X10_isFull (nI (σ 0)) (nI (σ 1)) (nI (σ 2)) (α 8) (nI w) post := by
  obtain ⟨hS, hC, hT, hD, hdm⟩ := hV
  have hN := hS.1
  have hC6 := hC.1
  have hT6 := hT.1
  unfold z_ful at h0 h1
  unfold F_X10_isFull F_X10_isFull_15 F_X10_isFull_30 F_X10_isFull_45
  by_cases c : w < 6
  · exact pk_le 6 w (fun e => by omega) (fun _ => pk_eq (σ 0) 16 (fun e => h1 (decide_eq_true (Or.inl ⟨c, e⟩))) (fun e => pk_eq w 6 (fun e => by omega) (fun _ => pk_eq w 7 (fun e => by omega) (fun _ => pk_eq w 8 (fun e => by omega) (fun _ => h0 (decide_eq_false (fun f => by omega)))))))
  refine pk_le 6 w (fun _ => ?_) (fun e => by omega)
  refine pk_eq w 6 (fun e6 => pk_eq (σ 1) 6 (fun e => h1 (decide_eq_true (Or.inr (Or.inl ⟨e6, e⟩)))) (fun e => pk_eq w 7 (fun e => by omega) (fun _ => pk_eq w 8 (fun e => by omega) (fun _ => h0 (decide_eq_false (fun f => by omega)))))) (fun e6 => ?_)
  refine pk_eq w 7 (fun e7 => pk_eq (σ 2) 6 (fun e => h1 (decide_eq_true (Or.inr (Or.inr (Or.inl ⟨e7, e⟩))))) (fun e => pk_eq w 8 (fun e => by omega) (fun _ => h0 (decide_eq_false (fun f => by omega))))) (fun e7 => ?_)
  refine pk_eq w 8 (fun e8 => pk_eq (σ 2) 0 (fun e => h1 (decide_eq_true (Or.inr (Or.inr (Or.inr ⟨e8, Or.inl e⟩))))) (fun e => ?_)) (fun e8 => h0 (decide_eq_false (fun f => by omega)))
  obtain ⟨T, eT⟩ : ∃ T, σ 2 = T + 1 := ⟨σ 2 - 1, by omega⟩
  have hnt := (hT.2 T (by omega)).1
  rw [eT, nI_pred]
  rw [eT, show T + 1 - 1 = T by omega] at h0 h1
  refine ⟨vp_in_nI (by omega) (by decide), ?_⟩
  rw [nI_clamp (by omega), hnt.1]
  exact pk_eq (z_nt (α 8) T) 12 (fun e => h1 (decide_eq_true (Or.inr (Or.inr (Or.inr ⟨e8, Or.inr e⟩))))) (fun e => h0 (decide_eq_false (fun f => by omega)))
theorem zm_71 {w : Nat} (hV : z_VA σ α) (hw : w < 13) (hf : z_ful w σ α = false) {F E : Int32} {cells : Nat → Int64} {x1 q t f : Int32} {tl : Nat → Int32} {post : Int32 → Int32 → Int32 → Int32 → Int32 → Int32 → Int32 → Int32 → Int32 → Int32 → Int32 → (Nat → Int32) → (Nat → Int32) → (Nat → Int32) → (Nat → Int32) → (Nat → Int32) → (Nat → Int32) → (Nat → Int32) → (Nat → Int32) → (Nat → Int32) → (Nat → Int32) → (Nat → Int32) → Prop} (h : F_X10_item_136 F E cells post (nI w) (nI (σ 0)) (nI (σ 1)) (nI (σ 2)) (nI (σ 3)) (nI (σ 4)) (nI (σ 5)) (nI (σ 6)) q t f (α 4) (α 7) (α 0) (α 8) (α 1) (α 9) (α 5) (α 2) (α 6) tl (α 3)) : F_X10_item_71 F E cells post x1 (nI w) (nI (σ 0)) (nI (σ 1)) (nI (σ 2)) (nI (σ 3)) (nI (σ 4)) (nI (σ 5)) (nI (σ 6)) q t f (α 4) (α 7) (α 0) (α 8) (α 1) (α 9) (α 5) (α 2) (α 6) tl (α 3) := by
  obtain ⟨hS, hC, hT, hD, hdm⟩ := hV
  have hN := hS.1
  have hC6 := hC.1
  have hT6 := hT.1
  have hf' := z_ful_f hf
  unfold F_X10_item_71 F_X10_item_86 F_X10_item_101
  refine pk_eq w 6 (fun e6 => pk_eq (σ 1) 6 (fun e => by omega) (fun e => pk_eq w 7 (fun e => by omega) (fun _ => pk_eq w 8 (fun e => by omega) (fun _ => h)))) (fun e6 => ?_)
  refine pk_eq w 7 (fun e7 => pk_eq (σ 2) 6 (fun e => by omega) (fun e => pk_eq w 8 (fun e => by omega) (fun _ => h))) (fun e7 => ?_)
  refine pk_eq w 8 (fun e8 => pk_eq (σ 2) 0 (fun e => by omega) (fun e => ?_)) (fun e8 => h)
  obtain ⟨T, eT⟩ : ∃ T, σ 2 = T + 1 := ⟨σ 2 - 1, by omega⟩
  have hnt := (hT.2 T (by omega)).1
  have ev : nI (σ 2) - 1 = nI T := by rw [eT, nI_pred]
  rw [ev]
  rw [eT, show T + 1 - 1 = T by omega] at hf'
  refine ⟨vp_in_nI (by omega) (by decide), ?_⟩
  rw [nI_clamp (by omega), hnt.1]
  exact pk_eq (z_nt (α 8) T) 12 (fun e => by omega) (fun e => h)
end ITEM
theorem zm_many {w : Nat} (hw : w < 13) {post : Int32 → Prop} (h : post (nI (z_mn w))) : F_X10_many (nI w) post := by
  unfold F_X10_many
  have h13 : w = 0 ∨ w = 1 ∨ w = 2 ∨ w = 3 ∨ w = 4 ∨ w = 5 ∨ w = 6 ∨ w = 7 ∨ w = 8 ∨ w = 9 ∨ w = 10 ∨ w = 11 ∨ w = 12 := by omega
  rcases h13 with rfl | rfl | rfl | rfl | rfl | rfl | rfl | rfl | rfl | rfl | rfl | rfl | rfl <;> repeat (first | exact h | refine br_t (by decide) ?_ | refine br_f (by decide) ?_)
theorem zm_low {w i : Nat} (hw : w < 13) (hi : i < z_mn w) {post : Int32 → Prop} (h : post (nI (z_lo w i))) : F_X10_low (nI w) (nI i) post := by
  have h13 : w = 0 ∨ w = 1 ∨ w = 2 ∨ w = 3 ∨ w = 4 ∨ w = 5 ∨ w = 6 ∨ w = 7 ∨ w = 8 ∨ w = 9 ∨ w = 10 ∨ w = 11 ∨ w = 12 := by omega
  have hm : ∀ w, w < 13 → z_mn w ≤ 3 := by decide +kernel
  have h3 : i = 0 ∨ i = 1 ∨ i = 2 := by have := hm w hw; omega
  by_cases c : w < 6
  · unfold F_X10_low
    refine pk_le 6 w (fun e => by omega) (fun _ => zm_many hw ?_)
    rcases zi_mn w c with em | em
    · obtain ⟨l0, l1, l2⟩ := zi_lo w c
      rw [em] at hi ⊢
      rw [em, if_neg (by decide)] at l1
      refine br_f (by decide) ?_
      have h2 : i = 0 ∨ i = 1 := by omega
      rcases h2 with rfl | rfl
      · rw [l0] at h; exact h
      · rw [l1] at h; exact h
    · obtain ⟨l0, l1, l2⟩ := zi_lo w c
      rw [em] at hi ⊢
      rw [em, if_pos rfl] at l1
      refine br_t (by decide) ?_
      rcases h3 with rfl | rfl | rfl
      · rw [l0] at h; exact br_f (by decide) h
      · rw [l1] at h; exact br_t (by decide) h
      · rw [l2] at h; exact br_f (by decide) h
  unfold F_X10_low
  have h7 : w = 6 ∨ w = 7 ∨ w = 8 ∨ w = 9 ∨ w = 10 ∨ w = 11 ∨ w = 12 := by omega
  rcases h7 with rfl | rfl | rfl | rfl | rfl | rfl | rfl <;> rcases h3 with rfl | rfl | rfl <;> first | (exact absurd hi (by decide)) | (repeat (first | exact h | refine br_t (by decide) ?_ | refine br_f (by decide) ?_))
theorem zm_high {w i S C : Nat} (hw : w < 13) (hi : i < z_mn w) {bs sh spd : Nat → Int32} (hC : z_VC C bs sh spd) (hS : S = z_sum (fun i => z_tn (sh i)) C) {post : Int32 → Prop} (h : post (nI (z_hi w i S))) : F_X10_high (nI C) sh (nI w) (nI i) post := by
  have hS100 := hC.2.2
  rw [← hS] at hS100
  have hm : ∀ w, w < 13 → z_mn w ≤ 3 := by decide +kernel
  have h3 : i = 0 ∨ i = 1 ∨ i = 2 := by have := hm w hw; omega
  unfold F_X10_high
  by_cases c : w < 6
  · rw [zi_hi c] at h
    exact pk_le 6 w (fun e => by omega) (fun _ => h)
  have h7 : w = 6 ∨ w = 7 ∨ w = 8 ∨ w = 9 ∨ w = 10 ∨ w = 11 ∨ w = 12 := by omega
  rcases h7 with rfl | rfl | rfl | rfl | rfl | rfl | rfl
  · rcases h3 with rfl | rfl | rfl
    · exact br_t (by decide) (br_t (by decide) (br_t (by decide) h))
    · exact br_t (by decide) (br_t (by decide) (br_f (by decide) (br_t (by decide) h)))
    · refine br_t (by decide) (br_t (by decide) (br_f (by decide) (br_f (by decide) (zm_shares hC ?_))))
      rw [← hS, show (100 : Int32) - nI S = nI (100 - S) from pk_sub (a := 100) hS100]
      exact h
  all_goals (rcases h3 with rfl | rfl | rfl <;> first | (exact absurd hi (by decide)) | (repeat (first | exact h | refine br_t (by decide) ?_ | refine br_f (by decide) ?_)))
