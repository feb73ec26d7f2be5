/-! the road as a whole -/
def z_near (kd ot sp : Nat → Int32) (ne i : Nat) : Bool := decide (z_tn (kd i) ≠ 6 ∧ z_tn (kd i) ≠ 3 ∧ (z_tn (sp i) < ne ∨ ((z_tn (kd i) = 2 ∨ z_tn (kd i) = 5) ∧ z_tn (ot i) ≠ 0 ∧ z_tn (ot i) < ne)))
theorem zc_isNear {N i : Nat} {kd ot sp tm : Nat → Int32} (hV : z_VS N kd ot sp tm) (hi : i < N) {ne : Nat} (hne : ne ≤ 30) {post : Int32 → Prop} (h1 : z_near kd ot sp ne i = true → post 1) (h0 : z_near kd ot sp ne i = false → post 0) : F_X7_isNearerThan (nI N) kd ot sp (nI i) (nI ne) post := by
  obtain ⟨k, o, s, t, ek, eo, es, et, hk, ho, hs1, hs, ht1, ht⟩ := hV.2 i hi
  have hN := hV.1
  have hc : (nI i).toNatClampNeg = i := nI_clamp (by omega)
  have hz : z_near kd ot sp ne i = decide (k ≠ 6 ∧ k ≠ 3 ∧ (s < ne ∨ ((k = 2 ∨ k = 5) ∧ o ≠ 0 ∧ o < ne))) := by simp (disch := omega) only [z_near, ek, es, eo, z_tn_nI]
  rw [hz] at h1 h0
  have g0 : ¬ (k ≠ 6 ∧ k ≠ 3 ∧ (s < ne ∨ ((k = 2 ∨ k = 5) ∧ o ≠ 0 ∧ o < ne))) → post 0 := fun e => h0 (decide_eq_false e)
  have g1 : (k ≠ 6 ∧ k ≠ 3 ∧ (s < ne ∨ ((k = 2 ∨ k = 5) ∧ o ≠ 0 ∧ o < ne))) → post 1 := fun e => h1 (decide_eq_true e)
  clear h0 h1 hz
  unfold F_X7_isNearerThan F_X7_isNearerThan_47 F_X7_isNearerThan_48
  refine zc_kindOf hN hi ?_
  rw [ek]
  refine pk_eq k 6 (fun e => g0 (by omega)) (fun e => pk_eq k 3 (fun e2 => g0 (by omega)) (fun e2 => zc_two (by omega) (fun e3 => z_b1 (zc_otherOf hN hi ?_)) (fun e3 => z_b0 (zc_spaceOf hN hi ?_))))
  · rw [eo]
    refine pk_eq o 0 (fun e4 => zc_spaceOf hN hi ?_) (fun e4 => zc_otherOf hN hi ?_)
    · rw [es]; exact pk_lt s ne (fun e5 => g1 (by omega)) (fun e5 => z_b0 (g0 (by omega)))
    · rw [eo]
      refine pk_le ne o (fun e5 => zc_spaceOf hN hi ?_) (fun e5 => zc_spaceOf hN hi ?_)
      · rw [es]; exact pk_lt s ne (fun e6 => g1 (by omega)) (fun e6 => z_b0 (g0 (by omega)))
      · rw [es]; exact pk_lt s ne (fun e6 => g1 (by omega)) (fun e6 => z_b1 (g1 (by omega)))
  · rw [es]; exact pk_lt s ne (fun e5 => g1 (by omega)) (fun e5 => z_b0 (g0 (by omega)))
section ROAD
variable {N : Nat} {kd ot sp tm dm : Nat → Int32} {al ne bo te : Nat}
def z_far (kd ot sp tm : Nat → Int32) (al i : Nat) : Bool := decide (al < z_sum (z_len kd ot sp tm) (i + 1))
theorem z_lsum_b (hS : z_VS N kd ot sp tm) {i : Nat} (hi : i ≤ N) : z_sum (z_len kd ot sp tm) i ≤ 115200 := by
  have h1 := z_sum_le (f := z_len kd ot sp tm) (b := 7200) i (fun j hj => z_len_b hS (by omega))
  have h2 := hS.1
  omega
theorem zc_tooNear (hS : z_VS N kd ot sp tm) (hD : z_VD al ne bo te) (hdm : z_dm dm al ne bo te) {post : Int32 → Prop} (h : post (if z_ff (z_near kd ot sp ne) N 0 < N then nI (z_ff (z_near kd ot sp ne) N 0) else -1)) : F_X5_firstTooNear dm (nI N) kd ot sp post := by
  have hN := hS.1
  have key : ∀ k i : Nat, i + k = N → post (if z_ff (z_near kd ot sp ne) k i < N then nI (z_ff (z_near kd ot sp ne) k i) else -1) → L_X5_firstTooNear_2 dm (nI N) kd ot sp post (k + 1) (nI i) := by
    intro k
    induction k with
    | zero =>
      intro i hi h
      rw [L_X5_firstTooNear_2]
      refine pk_le N i (fun _ => ?_) (fun e => by omega)
      rw [z_ff, if_neg (by omega)] at h; exact h
    | succ k ih =>
      intro i hi h
      rw [L_X5_firstTooNear_2]
      refine pk_le N i (fun e => by omega) (fun _ => zc_asked (k := 1) (by omega) ?_)
      rw [hdm.2.1]
      refine zc_isNear hS (by omega) hD.2.1.2 (fun e => z_b1 ?_) (fun e => z_b0 (nm_r (nI_1 i) (ih (i + 1) (by omega) ?_)))
      · rw [z_ff_t e, if_pos (by omega)] at h; exact h
      · rw [z_ff_f e] at h; exact h
  exact ⟨N + 1, key N 0 (by omega) h⟩
theorem zc_tooFar (hS : z_VS N kd ot sp tm) (hD : z_VD al ne bo te) (hdm : z_dm dm al ne bo te) {post : Int32 → Prop} (h : post (if z_ff (z_far kd ot sp tm al) N 0 < N then nI (z_ff (z_far kd ot sp tm al) N 0) else -1)) : F_X5_firstTooFar dm (nI N) kd ot sp tm post := by
  have hN := hS.1
  have key : ∀ k i : Nat, i + k = N → post (if z_ff (z_far kd ot sp tm al) k i < N then nI (z_ff (z_far kd ot sp tm al) k i) else -1) → L_X5_firstTooFar_4 dm (nI N) kd ot sp tm post (k + 1) (nI (z_sum (z_len kd ot sp tm) i)) (nI i) := by
    intro k
    induction k with
    | zero =>
      intro i hi h
      rw [L_X5_firstTooFar_4]
      refine pk_le N i (fun _ => ?_) (fun e => by omega)
      rw [z_ff, if_neg (by omega)] at h; exact h
    | succ k ih =>
      intro i hi h
      have hb := z_lsum_b hS (i := i + 1) (by omega)
      rw [L_X5_firstTooFar_4]
      refine pk_le N i (fun e => by omega) (fun _ => zc_lengthOf hS (by omega) (nm_r (nI_add _ _) (zc_asked (k := 0) (by omega) ?_)))
      rw [hdm.1]
      have hal := hD.1.2
      refine pk_le (z_sum (z_len kd ot sp tm) (i + 1)) al (fun e => nm_r (nI_1 i) (ih (i + 1) (by omega) ?_)) (fun e => ?_)
      · rw [z_ff_f (show z_far kd ot sp tm al i = false from decide_eq_false (by omega))] at h; exact h
      · rw [z_ff_t (show z_far kd ot sp tm al i = true from decide_eq_true (by omega)), if_pos (by omega)] at h; exact h
  exact ⟨N + 1, key N 0 (by omega) h⟩
theorem zc_wrong (hS : z_VS N kd ot sp tm) (hD : z_VD al ne bo te) (hdm : z_dm dm al ne bo te) {post : Int32 → Prop} (h : post (if z_ff (z_near kd ot sp ne) N 0 < N then 1 else if z_ff (z_far kd ot sp tm al) N 0 < N then 2 else 0)) : F_X9_wrong dm (nI N) kd ot sp tm post := by
  have hN := hS.1
  unfold F_X9_wrong
  refine zc_tooNear hS hD hdm ?_
  by_cases e : z_ff (z_near kd ot sp ne) N 0 < N
  · rw [if_pos e] at h ⊢
    refine br_f (fun e2 => ?_) h
    have := congrArg Int32.toInt e2
    rw [nI_toInt (by omega)] at this
    have h9 : (-1 : Int32).toInt = -1 := by decide
    omega
  · rw [if_neg e] at h ⊢
    refine br_t rfl (zc_tooFar hS hD hdm ?_)
    by_cases e2 : z_ff (z_far kd ot sp tm al) N 0 < N
    · rw [if_pos e2] at h ⊢
      refine br_f (fun e2 => ?_) h
      have := congrArg Int32.toInt e2
      rw [nI_toInt (by omega)] at this
      have h9 : (-1 : Int32).toInt = -1 := by decide
      omega
    · rw [if_neg e2] at h ⊢
      exact br_t rfl h
theorem zc_judge (hS : z_VS N kd ot sp tm) (hD : z_VD al ne bo te) (hdm : z_dm dm al ne bo te) {post : Int32 → Prop} (h : post (if z_ff (z_near kd ot sp ne) N 0 < N then nI (z_ff (z_near kd ot sp ne) N 0) else if z_ff (z_far kd ot sp tm al) N 0 < N then nI (z_ff (z_far kd ot sp tm al) N 0) else -1)) : F_X9_judge dm (nI N) kd ot sp tm post := by
  have hN := hS.1
  unfold F_X9_judge
  refine zc_tooNear hS hD hdm ?_
  by_cases e : z_ff (z_near kd ot sp ne) N 0 < N
  · rw [if_pos e] at h ⊢
    refine br_f (fun e2 => ?_) h
    have := congrArg Int32.toInt e2
    rw [nI_toInt (by omega)] at this
    have h9 : (-1 : Int32).toInt = -1 := by decide
    omega
  · rw [if_neg e] at h ⊢
    exact br_t rfl (zc_tooFar hS hD hdm h)
theorem zm_wrongOf (hS : z_VS N kd ot sp tm) (hD : z_VD al ne bo te) {cu : Int32} {post : Int32 → Int32 → Prop} (h : post (if z_ff (z_near kd ot sp ne) N 0 < N then 1 else if z_ff (z_far kd ot sp tm al) N 0 < N then 2 else 0) (if z_ff (z_near kd ot sp ne) N 0 < N then nI (z_ff (z_near kd ot sp ne) N 0) else if z_ff (z_far kd ot sp tm al) N 0 < N then nI (z_ff (z_far kd ot sp tm al) N 0) else -1)) : F_X10_wrongOf (nI N) (nI al) (nI ne) cu kd ot sp tm post := by
  have hN := hS.1
  have hal := hD.1.2
  have far : ∀ k i : Nat, i + k = N → post (if z_ff (z_far kd ot sp tm al) k i < N then 2 else 0) (if z_ff (z_far kd ot sp tm al) k i < N then nI (z_ff (z_far kd ot sp tm al) k i) else -1) → L_X10_wrongOf_114 (nI N) (nI al) kd ot sp tm post (k + 1) (nI (z_sum (z_len kd ot sp tm) i)) (nI i) := by
    intro k
    induction k with
    | zero =>
      intro i hi h
      rw [L_X10_wrongOf_114]
      refine pk_le N i (fun _ => ?_) (fun e => by omega)
      rw [z_ff, if_neg (by omega), if_neg (by omega)] at h; exact h
    | succ k ih =>
      intro i hi h
      have hb := z_lsum_b hS (i := i + 1) (by omega)
      rw [L_X10_wrongOf_114]
      refine pk_le N i (fun e => by omega) (fun _ => zm_lengthOf hS (by omega) (nm_r (nI_add _ _) ?_))
      refine pk_le (z_sum (z_len kd ot sp tm) (i + 1)) al (fun e => ?_) (fun e => ?_)
      · rw [nI_1]
        refine ih (i + 1) (by omega) ?_
        rw [z_ff_f (show z_far kd ot sp tm al i = false from decide_eq_false (by omega))] at h; exact h
      · rw [z_ff_t (show z_far kd ot sp tm al i = true from decide_eq_true (by omega)), if_pos (by omega), if_pos (by omega)] at h; exact h
  have near : ∀ k i : Nat, i + k = N → post (if z_ff (z_near kd ot sp ne) k i < N then 1 else if z_ff (z_far kd ot sp tm al) N 0 < N then 2 else 0) (if z_ff (z_near kd ot sp ne) k i < N then nI (z_ff (z_near kd ot sp ne) k i) else if z_ff (z_far kd ot sp tm al) N 0 < N then nI (z_ff (z_far kd ot sp tm al) N 0) else -1) → L_X10_wrongOf_5 (nI N) (nI al) (nI ne) kd ot sp tm post (k + 1) (nI i) := by
    intro k
    induction k with
    | zero =>
      intro i hi h
      rw [L_X10_wrongOf_5]
      refine pk_le N i (fun _ => ?_) (fun e => by omega)
      have hn : ¬ i < N := by omega
      rw [z_ff, if_neg hn, if_neg hn] at h
      exact ⟨N + 1, far N 0 (by omega) h⟩
    | succ k ih =>
      intro i hi h
      have hne := hD.2.1.2
      obtain ⟨kk, o, s, t, ek, eo, es, et, hk, ho, hs1, hs, ht1, ht⟩ := hS.2 i (by omega)
      have hz : z_near kd ot sp ne i = decide (kk ≠ 6 ∧ kk ≠ 3 ∧ (s < ne ∨ ((kk = 2 ∨ kk = 5) ∧ o ≠ 0 ∧ o < ne))) := by simp (disch := omega) only [z_near, ek, es, eo, z_tn_nI]
      have yes : (kk ≠ 6 ∧ kk ≠ 3 ∧ (s < ne ∨ ((kk = 2 ∨ kk = 5) ∧ o ≠ 0 ∧ o < ne))) → post 1 (nI i) := fun e => by
        rw [z_ff_t (by rw [hz]; exact decide_eq_true e), if_pos (by omega), if_pos (by omega)] at h; exact h
      have no : ¬ (kk ≠ 6 ∧ kk ≠ 3 ∧ (s < ne ∨ ((kk = 2 ∨ kk = 5) ∧ o ≠ 0 ∧ o < ne))) → F_X10_wrongOf_94 (fun v_culprit => L_X10_wrongOf_5 (nI N) (nI al) (nI ne) kd ot sp tm post (k + 1) v_culprit) (nI i) := fun e => by
        unfold F_X10_wrongOf_94
        rw [nI_1]
        refine ih (i + 1) (by omega) ?_
        rw [z_ff_f (by rw [hz]; exact decide_eq_false e)] at h; exact h
      rw [L_X10_wrongOf_5, nI_clamp (by omega), ek, es, eo]
      refine pk_le N i (fun e => by omega) (fun _ => ⟨vp_in_nI (by omega) (by decide), nm_e (pk_eq kk 3 (fun e => no (by omega)) (fun e => pk_eq kk 6 (fun e2 => no (by omega)) (fun e2 => ⟨vp_in_nI (by omega) (by decide), pk_lt s ne (fun e3 => yes (by omega)) (fun e3 => zm_two (by omega) (fun e4 => z_b1 ⟨vp_in_nI (by omega) (by decide), pk_le o 0 (fun e5 => no (by omega)) (fun e5 => ⟨vp_in_nI (by omega) (by decide), pk_le ne o (fun e6 => no (by omega)) (fun e6 => yes (by omega))⟩)⟩) (fun e4 => z_b0 (no (by omega))))⟩)))⟩)
  exact ⟨N + 1, near N 0 (by omega) h⟩
/-! lengths together -/
theorem zc_lengthOfAll (hS : z_VS N kd ot sp tm) {post : Int32 → Prop} (h : post (nI (z_sum (z_len kd ot sp tm) N))) : F_X7_lengthOfAll (nI N) kd ot sp tm post := by
  have hN := hS.1
  have key : ∀ k i : Nat, i + k = N → L_X7_lengthOfAll_4 (nI N) kd ot sp tm post (k + 1) (nI (z_sum (z_len kd ot sp tm) i)) (nI i) := by
    intro k
    induction k with
    | zero =>
      intro i hi
      rw [L_X7_lengthOfAll_4]
      refine pk_le N i (fun _ => ?_) (fun e => by omega)
      rw [show i = N by omega]; exact h
    | succ k ih =>
      intro i hi
      rw [L_X7_lengthOfAll_4]
      exact pk_le N i (fun e => by omega) (fun _ => zc_lengthOf hS (by omega) (nm_r (nI_add _ _) (nm_r (nI_1 i) (ih (i + 1) (by omega)))))
  exact ⟨N + 1, key N 0 (by omega)⟩
theorem zm_status85 (hS : z_VS N kd ot sp tm) {post : Int32 → Prop} (h : post (nI (z_sum (z_len kd ot sp tm) N))) : ∃ n, L_X10_status_85 (nI N) kd ot sp tm post n 0 0 := by
  have hN := hS.1
  have key : ∀ k i : Nat, i + k = N → L_X10_status_85 (nI N) kd ot sp tm post (k + 1) (nI (z_sum (z_len kd ot sp tm) i)) (nI i) := by
    intro k
    induction k with
    | zero =>
      intro i hi
      rw [L_X10_status_85]
      refine pk_le N i (fun _ => ?_) (fun e => by omega)
      rw [show i = N by omega]; exact h
    | succ k ih =>
      intro i hi
      rw [L_X10_status_85]
      exact pk_le N i (fun e => by omega) (fun _ => zm_lengthOf hS (by omega) (nm_r (nI_add _ _) (nm_r (nI_1 i) (ih (i + 1) (by omega)))))
  exact ⟨N + 1, key N 0 (by omega)⟩
/-! bits -/
def z_bits (p : Nat → Bool) : Nat → Int32
  | 0 => 0
  | n + 1 => if p n = true then z_bits p n ||| (1 <<< (nI n &&& 31)) else z_bits p n
theorem z_bits_t {p : Nat → Bool} {n : Nat} (h : p n = true) : z_bits p (n + 1) = z_bits p n ||| (1 <<< (nI n &&& 31)) := by rw [z_bits, if_pos h]
theorem z_bits_f {p : Nat → Bool} {n : Nat} (h : p n = false) : z_bits p (n + 1) = z_bits p n := by rw [z_bits, if_neg (by rw [h]; decide)]
def z_met (kd ot sp : Nat → Int32) (b i : Nat) : Bool := decide (z_tn (kd i) ≠ 3 ∧ b % z_sp kd ot sp i = 0)
theorem zc_isMet {N i : Nat} {kd ot sp tm : Nat → Int32} (hV : z_VS N kd ot sp tm) (hi : i < N) {b : Nat} (hb : b ≤ 999) {post : Int32 → Prop} (h1 : z_met kd ot sp b i = true → post 1) (h0 : z_met kd ot sp b i = false → post 0) : F_X7_isMetBy (nI N) kd ot sp (nI i) (nI b) post := by
  have hp := z_sp_b hV hi
  obtain ⟨k, o, s, t, ek, eo, es, et, hk, ho, hs1, hs, ht1, ht⟩ := hV.2 i hi
  have hN := hV.1
  have hc : (nI i).toNatClampNeg = i := nI_clamp (by omega)
  have hz : z_met kd ot sp b i = decide (k ≠ 3 ∧ b % z_sp kd ot sp i = 0) := by simp (disch := omega) only [z_met, ek, z_tn_nI]
  rw [hz] at h1 h0
  unfold F_X7_isMetBy
  refine zc_together hV hi (zc_kindOf hN hi ?_)
  rw [ek]
  refine pk_eq k 3 (fun e => h0 (decide_eq_false (by omega))) (fun e => br_f (nI_nle (by omega) (by omega)) ⟨nI_ne0 (by omega) (by omega), ?_⟩)
  rw [pk_rem (by omega) (by omega) (by omega)]
  have hm : b % z_sp kd ot sp i ≤ 999 := Nat.le_trans (Nat.mod_le _ _) hb
  exact pk_eq _ 0 (fun e2 => h1 (decide_eq_true ⟨e, e2⟩)) (fun e2 => h0 (decide_eq_false (fun e3 => e2 e3.2))) rfl rfl (by omega) (by omega)
theorem zc_meet (hS : z_VS N kd ot sp tm) {b : Nat} (hb : b ≤ 999) {ref : Nat → Int32} {post : Int32 → (Nat → Int32) → Prop} (h : post (z_bits (z_met kd ot sp b) N) ref) : ∃ n, L_X9_meet_22 (nI N) kd ot sp (nI b) ref post n 0 0 := by
  have hN := hS.1
  have key : ∀ k i : Nat, i + k = N → L_X9_meet_22 (nI N) kd ot sp (nI b) ref post (k + 1) (z_bits (z_met kd ot sp b) i) (nI i) := by
    intro k
    induction k with
    | zero =>
      intro i hi
      rw [L_X9_meet_22]
      refine pk_le N i (fun _ => ?_) (fun e => by omega)
      rw [show i = N by omega]; exact h
    | succ k ih =>
      intro i hi
      rw [L_X9_meet_22]
      unfold F_X9_meet_57
      have ih1 := ih (i + 1) (by omega)
      refine pk_le N i (fun e => by omega) (fun _ => zc_isMet hS (by omega) hb (fun e => z_b1 (nm_e (nm_r (nI_1 i) ?_))) (fun e => z_b0 (nm_r (nI_1 i) ?_)))
      · rw [z_bits_t e] at ih1; exact ih1
      · rw [z_bits_f e] at ih1; exact ih1
  exact ⟨N + 1, key N 0 (by omega)⟩
theorem zm_meet (hS : z_VS N kd ot sp tm) {b : Nat} (hb : b ≤ 999) {ref : Nat → Int32} {post : Int32 → (Nat → Int32) → Prop} (h : post (z_bits (z_met kd ot sp b) N) ref) : ∃ n, L_X10_meet_22 (nI N) kd ot sp (nI b) ref post n 0 0 := by
  have hN := hS.1
  have key : ∀ k i : Nat, i + k = N → L_X10_meet_22 (nI N) kd ot sp (nI b) ref post (k + 1) (z_bits (z_met kd ot sp b) i) (nI i) := by
    intro k
    induction k with
    | zero =>
      intro i hi
      rw [L_X10_meet_22]
      refine pk_le N i (fun _ => ?_) (fun e => by omega)
      rw [show i = N by omega]; exact h
    | succ k ih =>
      intro i hi
      have ih1 := ih (i + 1) (by omega)
      have hp := z_sp_b hS (i := i) (by omega)
      obtain ⟨kk, o, s, t, ek, eo, es, et, hk, ho, hs1, hs, ht1, ht⟩ := hS.2 i (by omega)
      have hz : z_met kd ot sp b i = decide (kk ≠ 3 ∧ b % z_sp kd ot sp i = 0) := by simp (disch := omega) only [z_met, ek, z_tn_nI]
      have hsp : z_sp kd ot sp i = if kk = 2 ∨ kk = 5 then s + o else s := by simp (disch := omega) only [z_sp, ek, es, eo, z_tn_nI]
      have m65 : F_X10_meet_65 kd (fun x2 x3 => L_X10_meet_22 (nI N) kd ot sp (nI b) ref post (k + 1) x2 x3) (nI b) (z_bits (z_met kd ot sp b) i) (nI i) ref (nI (z_sp kd ot sp i)) := by
        unfold F_X10_meet_65 F_X10_meet_90
        rw [nI_clamp (by omega), ek]
        refine ⟨vp_in_nI (by omega) (by decide), pk_eq kk 3 (fun e => nm_r (nI_1 i) ?_) (fun e => ⟨nI_ne0 (by omega) (by omega), ?_⟩)⟩
        · rw [z_bits_f (by rw [hz]; exact decide_eq_false (by omega))] at ih1; exact ih1
        · rw [pk_rem (by omega) (by omega) (by omega)]
          have hm : b % z_sp kd ot sp i ≤ 999 := Nat.le_trans (Nat.mod_le _ _) hb
          refine pk_eq (b % z_sp kd ot sp i) 0 (fun e2 => nm_e (nm_r (nI_1 i) ?_)) (fun e2 => nm_r (nI_1 i) ?_) rfl rfl (by omega) (by omega)
          · rw [z_bits_t (by rw [hz]; exact decide_eq_true ⟨e, e2⟩)] at ih1; exact ih1
          · rw [z_bits_f (by rw [hz]; exact decide_eq_false (fun e3 => e2 e3.2))] at ih1; exact ih1
      rw [L_X10_meet_22, nI_clamp (by omega), ek, es, eo, nI_add]
      refine pk_le N i (fun e => by omega) (fun _ => ⟨vp_in_nI (by omega) (by decide), zm_two (by omega) (fun e => z_b1 ⟨vp_in_nI (by omega) (by decide), vp_in_nI (by omega) (by decide), ?_⟩) (fun e => z_b0 ⟨vp_in_nI (by omega) (by decide), ?_⟩)⟩)
      · rw [hsp, if_pos e] at m65; exact m65
      · rw [hsp, if_neg e] at m65; exact m65
  exact ⟨N + 1, key N 0 (by omega)⟩
end ROAD
