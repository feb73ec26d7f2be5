/-! stretches -/
def z_VS (N : Nat) (kd ot sp tm : Nat → Int32) : Prop := N ≤ 16 ∧ ∀ i, i < N → ∃ k o s t : Nat, kd i = nI k ∧ ot i = nI o ∧ sp i = nI s ∧ tm i = nI t ∧ k ≤ 6 ∧ o ≤ 60 ∧ 1 ≤ s ∧ s ≤ 60 ∧ 1 ≤ t ∧ t ≤ 60
def z_sp (kd ot sp : Nat → Int32) (i : Nat) : Nat := if z_tn (kd i) = 2 ∨ z_tn (kd i) = 5 then z_tn (sp i) + z_tn (ot i) else z_tn (sp i)
def z_hum (kd ot sp : Nat → Int32) (i v : Nat) : Nat := if z_tn (kd i) = 3 then 0 else if z_tn (kd i) = 2 then 2 * (704 * v / z_sp kd ot sp i) else 704 * v / z_sp kd ot sp i
def z_len (kd ot sp tm : Nat → Int32) (i : Nat) : Nat := z_tn (tm i) * (if z_tn (kd i) = 6 then z_tn (ot i) else z_sp kd ot sp i)
theorem l0 : (0 : Int32) = nI 0 := rfl
theorem l2 : (2 : Int32) = nI 2 := rfl
theorem l704 : (704 : Int32) = nI 704 := rfl
theorem l10000 : (10000 : Int32) = nI 10000 := rfl
theorem l1000 : (1000 : Int32) = nI 1000 := rfl
theorem z_sp_b {N i : Nat} {kd ot sp tm : Nat → Int32} (hV : z_VS N kd ot sp tm) (hi : i < N) : 1 ≤ z_sp kd ot sp i ∧ z_sp kd ot sp i ≤ 120 := by
  obtain ⟨k, o, s, t, ek, eo, es, et, hk, ho, hs1, hs, ht1, ht⟩ := hV.2 i hi
  have hN := hV.1
  have hc : (nI i).toNatClampNeg = i := nI_clamp (by omega)
  simp (disch := omega) only [z_sp, ek, es, eo, z_tn_nI]
  split <;> omega
theorem z_div_le (a b : Nat) : a / b ≤ a := Nat.div_le_self a b
theorem z_hum_b {N i : Nat} {kd ot sp tm : Nat → Int32} (hV : z_VS N kd ot sp tm) (hi : i < N) {v : Nat} (hv : v ≤ 99) : z_hum kd ot sp i v ≤ 139392 := by
  have h1 := z_div_le (704 * v) (z_sp kd ot sp i)
  unfold z_hum
  split
  · omega
  · split <;> omega
theorem z_len_b {N i : Nat} {kd ot sp tm : Nat → Int32} (hV : z_VS N kd ot sp tm) (hi : i < N) : z_len kd ot sp tm i ≤ 7200 := by
  have h1 := z_sp_b hV hi
  obtain ⟨k, o, s, t, ek, eo, es, et, hk, ho, hs1, hs, ht1, ht⟩ := hV.2 i hi
  have hN := hV.1
  have hc : (nI i).toNatClampNeg = i := nI_clamp (by omega)
  simp (disch := omega) only [z_len, ek, et, eo, z_tn_nI]
  have h2 : (if k = 6 then o else z_sp kd ot sp i) ≤ 120 := by split <;> omega
  exact Nat.le_trans (Nat.mul_le_mul ht h2) (by decide)
theorem zc_kindOf {N i : Nat} (hN : N ≤ 16) (hi : i < N) {f : Nat → Int32} {post : Int32 → Prop} (h : post (f i)) : F_X7_kindOf (nI N) f (nI i) post := by
  unfold F_X7_kindOf
  refine zt_X7has hN hi (z_b1 ⟨vp_in_nI (by omega) (by decide), ?_⟩)
  rw [nI_clamp (by omega)]
  exact h
theorem zf_kindOf {N : Nat} (hN : N ≤ 16) {x : Int32} (hi : ¬ z_Bl N x) {f : Nat → Int32} {post : Int32 → Prop} (h : post (-1)) : F_X7_kindOf (nI N) f x post := by
  unfold F_X7_kindOf
  exact zf_X7has hN hi (z_b0 h)
theorem zc_spaceOf {N i : Nat} (hN : N ≤ 16) (hi : i < N) {f : Nat → Int32} {post : Int32 → Prop} (h : post (f i)) : F_X7_spaceOf (nI N) f (nI i) post := by
  unfold F_X7_spaceOf
  refine zt_X7has hN hi (z_b1 ⟨vp_in_nI (by omega) (by decide), ?_⟩)
  rw [nI_clamp (by omega)]
  exact h
theorem zf_spaceOf {N : Nat} (hN : N ≤ 16) {x : Int32} (hi : ¬ z_Bl N x) {f : Nat → Int32} {post : Int32 → Prop} (h : post 0) : F_X7_spaceOf (nI N) f x post := by
  unfold F_X7_spaceOf
  exact zf_X7has hN hi (z_b0 h)
theorem zc_otherOf {N i : Nat} (hN : N ≤ 16) (hi : i < N) {f : Nat → Int32} {post : Int32 → Prop} (h : post (f i)) : F_X7_otherOf (nI N) f (nI i) post := by
  unfold F_X7_otherOf
  refine zt_X7has hN hi (z_b1 ⟨vp_in_nI (by omega) (by decide), ?_⟩)
  rw [nI_clamp (by omega)]
  exact h
theorem zf_otherOf {N : Nat} (hN : N ≤ 16) {x : Int32} (hi : ¬ z_Bl N x) {f : Nat → Int32} {post : Int32 → Prop} (h : post 0) : F_X7_otherOf (nI N) f x post := by
  unfold F_X7_otherOf
  exact zf_X7has hN hi (z_b0 h)
theorem zc_timesOf {N i : Nat} (hN : N ≤ 16) (hi : i < N) {f : Nat → Int32} {post : Int32 → Prop} (h : post (f i)) : F_X7_timesOf (nI N) f (nI i) post := by
  unfold F_X7_timesOf
  refine zt_X7has hN hi (z_b1 ⟨vp_in_nI (by omega) (by decide), ?_⟩)
  rw [nI_clamp (by omega)]
  exact h
theorem zf_timesOf {N : Nat} (hN : N ≤ 16) {x : Int32} (hi : ¬ z_Bl N x) {f : Nat → Int32} {post : Int32 → Prop} (h : post 0) : F_X7_timesOf (nI N) f x post := by
  unfold F_X7_timesOf
  exact zf_X7has hN hi (z_b0 h)
theorem zc_two {k : Nat} (hk : k < 2 ^ 31) {post : Int32 → Prop} (h1 : k = 2 ∨ k = 5 → post 1) (h0 : ¬ (k = 2 ∨ k = 5) → post 0) : F_X9_isOfTwoSpaces (nI k) post :=
  pk_eq k 2 (fun e => h1 (Or.inl e)) (fun e => pk_eq k 5 (fun e => h1 (Or.inr e)) (fun e2 => h0 (by omega)))
theorem zm_two {k : Nat} (hk : k < 2 ^ 31) {post : Int32 → Prop} (h1 : k = 2 ∨ k = 5 → post 1) (h0 : ¬ (k = 2 ∨ k = 5) → post 0) : F_X10_isTwo (nI k) post :=
  pk_eq k 2 (fun e => h1 (Or.inl e)) (fun e => pk_eq k 5 (fun e => h1 (Or.inr e)) (fun e2 => h0 (by omega)))
theorem zc_together {N i : Nat} {kd ot sp tm : Nat → Int32} (hV : z_VS N kd ot sp tm) (hi : i < N) {post : Int32 → Prop} (h : post (nI (z_sp kd ot sp i))) : F_X7_spacesTogether (nI N) kd ot sp (nI i) post := by
  obtain ⟨k, o, s, t, ek, eo, es, et, hk, ho, hs1, hs, ht1, ht⟩ := hV.2 i hi
  have hN := hV.1
  have hc : (nI i).toNatClampNeg = i := nI_clamp (by omega)
  have hz : z_sp kd ot sp i = if k = 2 ∨ k = 5 then s + o else s := by simp (disch := omega) only [z_sp, ek, es, eo, z_tn_nI]
  unfold F_X7_spacesTogether
  refine zt_X7has hN hi (z_b1 ⟨vp_in_nI (by omega) (by decide), ?_⟩)
  rw [hc, ek, es, eo, nI_add]
  refine zc_two (by omega) (fun e => z_b1 ⟨vp_in_nI (by omega) (by decide), vp_in_nI (by omega) (by decide), ?_⟩) (fun e => z_b0 ⟨vp_in_nI (by omega) (by decide), ?_⟩)
  · rw [hz, if_pos e] at h; exact h
  · rw [hz, if_neg e] at h; exact h
theorem zf_together {N : Nat} (hN : N ≤ 16) {x : Int32} (hi : ¬ z_Bl N x) {kd ot sp : Nat → Int32} {post : Int32 → Prop} (h : post 0) : F_X7_spacesTogether (nI N) kd ot sp x post := by
  unfold F_X7_spacesTogether
  exact zf_X7has hN hi (z_b0 h)
theorem zc_humBy {s v : Nat} (hs : 1 ≤ s) (hs2 : s ≤ 1000) (hv : v ≤ 99) {post : Int32 → Prop} (h : post (nI (704 * v / s))) : F_X9_humBy (nI s) (nI v) post := by
  unfold F_X9_humBy F_X9_quotient
  rw [l704, pk_mul]
  refine pk_eq s 0 (fun e => by omega) (fun e => ⟨nI_ne0 (by omega) (by omega), ?_⟩)
  rw [pk_div (by omega) (by omega) (by omega)]
  exact h
theorem zm_humBy {s v : Nat} (hs : 1 ≤ s) (hs2 : s ≤ 1000) (hv : v ≤ 99) {post : Int32 → Prop} (h : post (nI (704 * v / s))) : F_X10_humBy (nI s) (nI v) post := by
  unfold F_X10_humBy
  rw [l704, pk_mul]
  refine ⟨nI_ne0 (by omega) (by omega), ?_⟩
  rw [pk_div (by omega) (by omega) (by omega)]
  exact h
theorem zc_humOf {N i : Nat} {kd ot sp tm : Nat → Int32} (hV : z_VS N kd ot sp tm) (hi : i < N) {v : Nat} (hv : v ≤ 99) {post : Int32 → Prop} (h : post (nI (z_hum kd ot sp i v))) : F_X7_humOf (nI N) kd ot sp (nI i) (nI v) post := by
  have hb := z_sp_b hV hi
  obtain ⟨k, o, s, t, ek, eo, es, et, hk, ho, hs1, hs, ht1, ht⟩ := hV.2 i hi
  have hN := hV.1
  have hc : (nI i).toNatClampNeg = i := nI_clamp (by omega)
  have hz : z_hum kd ot sp i v = if k = 3 then 0 else if k = 2 then 2 * (704 * v / z_sp kd ot sp i) else 704 * v / z_sp kd ot sp i := by unfold z_hum; rw [ek, z_tn_nI (by omega)]
  rw [hz] at h
  unfold F_X7_humOf
  refine zt_X7has hN hi (z_b1 (zc_kindOf hN hi ?_))
  rw [ek]
  refine pk_eq k 3 (fun e => ?_) (fun e => ?_)
  · rw [if_pos e] at h; exact h
  · rw [if_neg e] at h
    refine zc_together hV hi (zc_humBy hb.1 (by omega) hv (zc_kindOf hN hi ?_))
    rw [ek]
    refine pk_eq k 2 (fun e2 => ?_) (fun e2 => ?_)
    · rw [if_pos e2] at h; rw [l2, pk_mul]; exact h
    · rw [if_neg e2] at h; exact h
theorem zf_humOf {N : Nat} (hN : N ≤ 16) {x v : Int32} (hi : ¬ z_Bl N x) {kd ot sp : Nat → Int32} {post : Int32 → Prop} (h : post 0) : F_X7_humOf (nI N) kd ot sp x v post := by
  unfold F_X7_humOf
  exact zf_X7has hN hi (z_b0 h)
theorem zm_humOf {N i : Nat} {kd ot sp tm : Nat → Int32} (hV : z_VS N kd ot sp tm) (hi : i < N) {v : Nat} (hv : v ≤ 99) {post : Int32 → Prop} (h : post (nI (z_hum kd ot sp i v))) : F_X10_humOf kd ot sp (nI i) (nI v) post := by
  have hb := z_sp_b hV hi
  obtain ⟨k, o, s, t, ek, eo, es, et, hk, ho, hs1, hs, ht1, ht⟩ := hV.2 i hi
  have hN := hV.1
  have hc : (nI i).toNatClampNeg = i := nI_clamp (by omega)
  have hz : z_hum kd ot sp i v = if k = 3 then 0 else if k = 2 then 2 * (704 * v / z_sp kd ot sp i) else 704 * v / z_sp kd ot sp i := by unfold z_hum; rw [ek, z_tn_nI (by omega)]
  have hp : z_sp kd ot sp i = if k = 2 ∨ k = 5 then s + o else s := by simp (disch := omega) only [z_sp, ek, es, eo, z_tn_nI]
  rw [hz] at h
  unfold F_X10_humOf
  rw [hc, ek, es, eo, nI_add]
  refine ⟨vp_in_nI (by omega) (by decide), nm_e (pk_eq k 3 (fun e => ?_) (fun e => zm_two (by omega) (fun e2 => z_b1 ⟨vp_in_nI (by omega) (by decide), vp_in_nI (by omega) (by decide), zm_humBy (by omega) (by omega) hv (nm_r (by rw [l2, pk_mul]) ?_)⟩) (fun e2 => z_b0 ⟨vp_in_nI (by omega) (by decide), zm_humBy hs1 (by omega) hv ?_⟩)))⟩
  · rw [if_pos e] at h; exact h
  · rw [if_neg e] at h
    rw [if_pos e2] at hp
    rw [hp] at h
    refine pk_eq k 5 (fun e3 => ?_) (fun e3 => ?_)
    · rw [if_neg (by omega)] at h
      have h9 := z_div_le (704 * v) (s + o)
      rw [l2, pk_div (by omega) (by omega) (by omega), Nat.mul_div_cancel_left _ (by decide)]
      exact h
    · rw [if_pos (by omega)] at h; exact h
  · rw [if_neg e, if_neg (by omega)] at h
    rw [if_neg e2] at hp
    rw [hp] at h
    exact h
theorem zc_lengthOf {N i : Nat} {kd ot sp tm : Nat → Int32} (hV : z_VS N kd ot sp tm) (hi : i < N) {post : Int32 → Prop} (h : post (nI (z_len kd ot sp tm i))) : F_X7_lengthOf (nI N) kd ot sp tm (nI i) post := by
  have hb := z_sp_b hV hi
  obtain ⟨k, o, s, t, ek, eo, es, et, hk, ho, hs1, hs, ht1, ht⟩ := hV.2 i hi
  have hN := hV.1
  have hc : (nI i).toNatClampNeg = i := nI_clamp (by omega)
  have hz : z_len kd ot sp tm i = t * (if k = 6 then o else z_sp kd ot sp i) := by simp (disch := omega) only [z_len, ek, et, eo, z_tn_nI]
  rw [hz] at h
  unfold F_X7_lengthOf F_X7_lengthOf_23
  refine zc_kindOf hN hi ?_
  rw [ek]
  refine pk_eq k 6 (fun e => zc_otherOf hN hi (zc_timesOf hN hi ?_)) (fun e => zc_together hV hi (zc_timesOf hN hi ?_))
  · rw [if_pos e] at h; rw [et, eo, pk_mul]; exact h
  · rw [if_neg e] at h; rw [et, pk_mul]; exact h
theorem zf_lengthOf {N : Nat} (hN : N ≤ 16) {x : Int32} (hi : ¬ z_Bl N x) {kd ot sp tm : Nat → Int32} {post : Int32 → Prop} (h : post 0) : F_X7_lengthOf (nI N) kd ot sp tm x post := by
  unfold F_X7_lengthOf F_X7_lengthOf_23
  refine zf_kindOf hN hi (br_f (by decide) (zf_together hN hi (zf_timesOf hN hi h)))
theorem zm_lengthOf {N i : Nat} {kd ot sp tm : Nat → Int32} (hV : z_VS N kd ot sp tm) (hi : i < N) {post : Int32 → Prop} (h : post (nI (z_len kd ot sp tm i))) : F_X10_lengthOf kd ot sp tm (nI i) post := by
  obtain ⟨k, o, s, t, ek, eo, es, et, hk, ho, hs1, hs, ht1, ht⟩ := hV.2 i hi
  have hN := hV.1
  have hc : (nI i).toNatClampNeg = i := nI_clamp (by omega)
  have hz : z_len kd ot sp tm i = t * (if k = 6 then o else if k = 2 ∨ k = 5 then s + o else s) := by simp (disch := omega) only [z_len, z_sp, ek, et, eo, es, z_tn_nI]
  rw [hz] at h
  unfold F_X10_lengthOf F_X10_lengthOf_55
  rw [hc, ek, es, eo, et, nI_add, pk_mul, pk_mul, pk_mul]
  refine ⟨vp_in_nI (by omega) (by decide), zm_two (by omega) (fun e => z_b1 ⟨vp_in_nI (by omega) (by decide), vp_in_nI (by omega) (by decide), vp_in_nI (by omega) (by decide), ?_⟩) (fun e => z_b0 ⟨vp_in_nI (by omega) (by decide), pk_eq k 6 (fun e2 => ⟨vp_in_nI (by omega) (by decide), vp_in_nI (by omega) (by decide), ?_⟩) (fun e2 => ⟨vp_in_nI (by omega) (by decide), vp_in_nI (by omega) (by decide), ?_⟩)⟩)⟩
  · rw [if_neg (by omega), if_pos e] at h; exact h
  · rw [if_pos e2] at h; exact h
  · rw [if_neg e2, if_neg e] at h; exact h
theorem zc_lastingOf {N i : Nat} {kd ot sp tm : Nat → Int32} (hV : z_VS N kd ot sp tm) (hi : i < N) {v : Nat} (hv1 : 1 ≤ v) (hv : v ≤ 99) {post : Int32 → Prop} (h : post (nI (z_len kd ot sp tm i * 10000 / (704 * v)))) : F_X7_lastingOf (nI N) kd ot sp tm (nI i) (nI v) post := by
  have hb := z_len_b hV hi
  unfold F_X7_lastingOf F_X9_quotient
  refine zc_lengthOf hV hi ?_
  rw [l704, l10000, pk_mul, pk_mul]
  refine pk_eq (704 * v) 0 (fun e => by omega) (fun e => ⟨nI_ne0 (by omega) (by omega), ?_⟩)
  rw [pk_div (by omega) (by omega) (by omega)]
  exact h
theorem zf_lastingOf {N v : Nat} (hN : N ≤ 16) {x : Int32} (hi : ¬ z_Bl N x) (hv1 : 1 ≤ v) (hv : v ≤ 99) {kd ot sp tm : Nat → Int32} {post : Int32 → Prop} (h : post 0) : F_X7_lastingOf (nI N) kd ot sp tm x (nI v) post := by
  unfold F_X7_lastingOf F_X9_quotient
  refine zf_lengthOf hN hi ?_
  rw [l704, l10000, l0, pk_mul, pk_mul]
  refine pk_eq (704 * v) 0 (fun e => by omega) (fun e => ⟨nI_ne0 (by omega) (by omega), ?_⟩)
  rw [pk_div (by omega) (by omega) (by omega), Nat.zero_mul, Nat.zero_div]
  exact h
theorem zm_lastsBy {l v : Nat} (hl : l ≤ 7200) (hv1 : 1 ≤ v) (hv : v ≤ 99) {post : Int32 → Prop} (h : post (nI (l * 10000 / (704 * v)))) : F_X10_lastsBy (nI l) (nI v) post := by
  unfold F_X10_lastsBy
  rw [l704, l10000, pk_mul, pk_mul]
  refine ⟨nI_ne0 (by omega) (by omega), ?_⟩
  rw [pk_div (by omega) (by omega) (by omega)]
  exact h
/-! loud -/
def z_loud (kd : Nat → Int32) (i y : Nat) : Nat := (if z_tn (kd i) = 3 then 0 else if z_tn (kd i) = 4 then 15 else if z_tn (kd i) = 5 then 8 else 10) - y / 5
theorem z_max0 {a b : Nat} (ha : a ≤ 1000) (hb : b ≤ 1000) : (if 0 < nI a - nI b then nI a - nI b else 0) = nI (a - b) := by
  by_cases h : b ≤ a
  · rw [pk_sub h]
    by_cases h2 : a - b = 0
    · rw [h2]; decide
    · rw [if_pos (show (0 : Int32) < nI (a - b) from nI_lt (a := 0) (by omega) (by omega))]
  · rw [if_neg (z_lnt (Int32.le_of_lt (pk_sneg (by omega) (by omega)))), show a - b = 0 by omega]; rfl
theorem zc_loudnessOf {N i : Nat} {kd ot sp tm : Nat → Int32} (hV : z_VS N kd ot sp tm) (hi : i < N) {y : Nat} (hy : y ≤ 50) {post : Int32 → Prop} (h : post (nI (z_loud kd i y))) : F_X7_loudnessOf (nI N) kd (nI i) (nI y) post := by
  obtain ⟨k, o, s, t, ek, eo, es, et, hk, ho, hs1, hs, ht1, ht⟩ := hV.2 i hi
  have hN := hV.1
  have hc : (nI i).toNatClampNeg = i := nI_clamp (by omega)
  have hz : z_loud kd i y = (if k = 3 then 0 else if k = 4 then 15 else if k = 5 then 8 else 10) - y / 5 := by unfold z_loud; rw [ek, z_tn_nI (by omega)]
  rw [hz] at h
  have h5 : nI y / 5 = nI (y / 5) := pk_div (by omega) (by decide) (by decide)
  unfold F_X7_loudnessOf F_X7_newLoudnessOf
  refine zc_kindOf hN hi ?_
  rw [ek, h5]
  refine pk_eq k 3 (fun e => ?_) (fun e => pk_eq k 4 (fun e2 => ?_) (fun e2 => pk_eq k 5 (fun e3 => ?_) (fun e3 => ?_)))
  · rw [if_pos e] at h; rw [show (if 0 < 0 - nI (y / 5) then 0 - nI (y / 5) else 0) = nI (0 - y / 5) from z_max0 (a := 0) (by omega) (by omega)]; exact h
  · rw [if_neg e, if_pos e2] at h; rw [show (if 0 < 15 - nI (y / 5) then 15 - nI (y / 5) else 0) = nI (15 - y / 5) from z_max0 (a := 15) (by omega) (by omega)]; exact h
  · rw [if_neg e, if_neg e2, if_pos e3] at h; rw [show (if 0 < 8 - nI (y / 5) then 8 - nI (y / 5) else 0) = nI (8 - y / 5) from z_max0 (a := 8) (by omega) (by omega)]; exact h
  · rw [if_neg e, if_neg e2, if_neg e3] at h; rw [show (if 0 < 10 - nI (y / 5) then 10 - nI (y / 5) else 0) = nI (10 - y / 5) from z_max0 (a := 10) (by omega) (by omega)]; exact h
theorem zm_loud46 {a y : Nat} (ha : a ≤ 15) (hy : y ≤ 50) {post : Int32 → Prop} (h : post (nI (a - y / 5))) : F_X10_loudOf_46 post (nI y) (nI a) := by
  have h5 : nI y / 5 = nI (y / 5) := pk_div (by omega) (by decide) (by decide)
  unfold F_X10_loudOf_46
  rw [h5]
  refine nm_e ?_
  by_cases hh : y / 5 ≤ a
  · rw [pk_sub hh]; exact br_t (nI_pos' (by omega)) h
  · refine br_f (z_ltn (pk_sneg (by omega) (by omega))) ?_
    rw [show a - y / 5 = 0 by omega] at h
    exact h
theorem zm_loudOf {N i : Nat} {kd ot sp tm : Nat → Int32} (hV : z_VS N kd ot sp tm) (hi : i < N) {y : Nat} (hy : y ≤ 50) {post : Int32 → Prop} (h : post (nI (z_loud kd i y))) : F_X10_loudOf kd (nI i) (nI y) post := by
  obtain ⟨k, o, s, t, ek, eo, es, et, hk, ho, hs1, hs, ht1, ht⟩ := hV.2 i hi
  have hN := hV.1
  have hc : (nI i).toNatClampNeg = i := nI_clamp (by omega)
  have hz : z_loud kd i y = (if k = 3 then 0 else if k = 4 then 15 else if k = 5 then 8 else 10) - y / 5 := by unfold z_loud; rw [ek, z_tn_nI (by omega)]
  rw [hz] at h
  unfold F_X10_loudOf
  rw [hc, ek]
  refine ⟨vp_in_nI (by omega) (by decide), pk_eq k 3 (fun e => zm_loud46 (a := 0) (by omega) hy ?_) (fun e => ⟨vp_in_nI (by omega) (by decide), pk_eq k 4 (fun e2 => zm_loud46 (a := 15) (by omega) hy ?_) (fun e2 => ⟨vp_in_nI (by omega) (by decide), pk_eq k 5 (fun e3 => zm_loud46 (a := 8) (by omega) hy ?_) (fun e3 => zm_loud46 (a := 10) (by omega) hy ?_)⟩)⟩)⟩
  · rw [if_pos e] at h; exact h
  · rw [if_neg e, if_pos e2] at h; exact h
  · rw [if_neg e, if_neg e2, if_pos e3] at h; exact h
  · rw [if_neg e, if_neg e2, if_neg e3] at h; exact h
/-! off -/
def z_off (h w : Nat) : Nat := if w = 0 then (if h = 0 then 0 else 999) else min 999 ((if h ≤ w then w - h else h - w) * 1000 / w)
theorem z_off_b (h w : Nat) : z_off h w ≤ 999 := by
  unfold z_off
  split
  · split <;> omega
  · exact Nat.min_le_left _ _
theorem z_abs {a b : Nat} (ha : a < 2 ^ 30) (hb : b < 2 ^ 30) : (if 0 ≤ nI a - nI b then nI a - nI b else 0 - (nI a - nI b)) = nI (if a ≤ b then b - a else a - b) := by
  by_cases h : b ≤ a
  · rw [pk_sub h, if_pos (nI_pos' (by omega))]
    by_cases h2 : a ≤ b
    · rw [if_pos h2, show a - b = b - a by omega]
    · rw [if_neg h2]
  · rw [if_neg (z_ltn (pk_sneg (by omega) (by omega))), if_pos (by omega)]
    rw [Int32.zero_sub, Int32.neg_sub, pk_sub (by omega)]
theorem z_min {q : Nat} (hq : q < 2 ^ 31) : (if nI q < 999 then nI q else 999) = nI (min 999 q) := by
  by_cases e : q < 999
  · rw [if_pos (show nI q < 999 from nI_lt (b := 999) e (by decide)), Nat.min_eq_right (by omega)]
  · rw [if_neg (show ¬ nI q < 999 from nI_nlt (b := 999) (by omega) hq), Nat.min_eq_left (by omega)]; rfl
theorem zc_off {hh w : Nat} (h1 : hh ≤ 200000) (h2 : w ≤ 99999) {post : Int32 → Prop} (h : post (nI (z_off hh w))) : F_X9_offBetween (nI hh) (nI w) post := by
  unfold F_X9_offBetween F_X9_quotient
  rw [z_abs (by omega) (by omega), l1000, pk_mul]
  unfold z_off at h
  refine pk_eq w 0 (fun e => pk_eq hh 0 (fun e2 => ?_) (fun e2 => ?_)) (fun e => pk_eq hh 0 (fun e2 => ?_) (fun e2 => br_f (nI_ne0 (by omega) (by omega)) ⟨nI_ne0 (by omega) (by omega), ?_⟩))
  · rw [if_pos e, if_pos e2] at h; exact h
  · rw [if_pos e, if_neg e2] at h; exact h
  · rw [if_neg e, e2, if_pos (Nat.zero_le _), Nat.sub_zero, Nat.mul_div_cancel_left _ (by omega)] at h; exact h
  · rw [if_neg e] at h
    have h9 : (if hh ≤ w then w - hh else hh - w) ≤ 200000 := by split <;> omega
    rw [pk_div (by omega) (by omega) (by omega)]
    have h8 : (if hh ≤ w then w - hh else hh - w) * 1000 / w ≤ 200000000 := Nat.le_trans (Nat.div_le_self _ _) (by omega)
    generalize (if hh ≤ w then w - hh else hh - w) * 1000 / w = q at h h8 ⊢
    rw [z_min (by omega)]
    exact h
theorem zm_off30 {a w : Nat} (ha : a ≤ 200000) (h0 : w ≠ 0) (h2 : w ≤ 99999) {post : Int32 → Prop} (h : post (nI (min 999 (a * 1000 / w)))) : F_X10_offOf_30 post (nI w) (nI a) := by
  unfold F_X10_offOf_30
  have h8 : a * 1000 / w ≤ 200000000 := Nat.le_trans (Nat.div_le_self _ _) (by omega)
  refine ⟨nI_ne0 (by omega) (by omega), ?_⟩
  rw [l1000, pk_mul, pk_div (by omega) (by omega) (by omega)]
  refine nm_e (pk_le _ 999 (fun e => ?_) (fun e => ?_))
  · rw [Nat.min_eq_right e] at h; exact h
  · rw [Nat.min_eq_left (by omega)] at h; exact h
theorem zm_off {hh w : Nat} (h1 : hh ≤ 200000) (h2 : w ≤ 99999) {post : Int32 → Prop} (h : post (nI (z_off hh w))) : F_X10_offOf (nI hh) (nI w) post := by
  unfold F_X10_offOf
  unfold z_off at h
  refine pk_eq w 0 (fun e => pk_eq hh 0 (fun e2 => ?_) (fun e2 => ?_)) (fun e => pk_le hh w (fun e2 => ?_) (fun e2 => ?_))
  · rw [if_pos e, if_pos e2] at h; exact h
  · rw [if_pos e, if_neg e2] at h; exact h
  · rw [if_neg e, if_pos e2] at h; rw [pk_sub e2]; exact zm_off30 (by omega) e h2 h
  · rw [if_neg e, if_neg (by omega)] at h; rw [pk_sub (by omega)]; exact zm_off30 (by omega) e h2 h

