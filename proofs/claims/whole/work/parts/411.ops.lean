/-! more operations: mirror, warns, worn, read, scale, day, status -/
def z_any (p : Nat → Bool) : Nat → Bool
  | 0 => false
  | n + 1 => z_any p n || p n
theorem z_any_of {p : Nat → Bool} {i : Nat} (h : p i = true) : ∀ {n : Nat}, i < n → z_any p n = true
  | 0, hi => by omega
  | n + 1, hi => by
    show (z_any p n || p n) = true
    by_cases e : i = n
    · subst e; rw [h, Bool.or_true]
    · rw [z_any_of h (by omega : i < n), Bool.true_or]
theorem z_any_s {p : Nat → Bool} {n : Nat} (h : z_any p n = false) (h2 : p n = false) : z_any p (n + 1) = false := by
  show (z_any p n || p n) = false
  rw [h, h2]; rfl
def z_cnt (p : Nat → Bool) : Nat → Nat
  | 0 => 0
  | n + 1 => if p n = true then z_cnt p n + 1 else z_cnt p n
theorem z_cnt_t {p : Nat → Bool} {n : Nat} (h : p n = true) : z_cnt p (n + 1) = z_cnt p n + 1 := by rw [z_cnt, if_pos h]
theorem z_cnt_f {p : Nat → Bool} {n : Nat} (h : p n = false) : z_cnt p (n + 1) = z_cnt p n := by rw [z_cnt, if_neg (by rw [h]; decide)]
section ROAD
variable {N C T : Nat} {kd ot sp tm bs sh spd bt nts pt dm ref : Nat → Int32} {al ne bo te : Nat} {s1 s2 s3 s4 s5 : Int32}
def z_mir (N : Nat) (kd ot sp : Nat → Int32) (i : Nat) : Bool := decide (z_hum kd ot sp i 10 ≠ z_hum kd ot sp (N - 1 - i) 10)
theorem zc_mirror (hS : z_VS N kd ot sp tm) {post : Int32 → Prop} (h : post (nI (z_cnt (z_mir N kd ot sp) (N / 2)))) : F_X9_mirror (nI N) kd ot sp post := by
  have hN := hS.1
  have e2 : nI N / 2 = nI (N / 2) := pk_div (by omega) (by decide) (by decide)
  have key : ∀ k i : Nat, i + k = N / 2 → L_X9_mirror_12 (nI N) kd ot sp post (k + 1) (nI (z_cnt (z_mir N kd ot sp) i)) (nI i) := by
    intro k
    induction k with
    | zero =>
      intro i hi
      rw [L_X9_mirror_12]
      unfold F_X7_count
      dsimp only
      rw [e2]
      refine pk_le (N / 2) i (fun _ => ?_) (fun e => by omega)
      rw [show i = N / 2 by omega]; exact h
    | succ k ih =>
      intro i hi
      have ih1 := ih (i + 1) (by omega)
      have b1 := z_hum_b hS (i := i) (by omega) (v := 10) (by omega)
      have b2 := z_hum_b hS (i := N - 1 - i) (by omega) (v := 10) (by omega)
      rw [L_X9_mirror_12]
      unfold F_X7_count F_X9_mirror_53
      dsimp only
      rw [e2]
      refine pk_le (N / 2) i (fun e => by omega) (fun _ => nm_r (e' := nI (N - 1 - i)) (by rw [show nI N - 1 = nI (N - 1) from pk_sub (a := N) (b := 1) (by omega), pk_sub (by omega)]) (zc_humOf (v := 10) hS (by omega) (by omega) (zc_humOf (v := 10) hS (by omega) (by omega) ?_)))
      refine pk_eq (z_hum kd ot sp i 10) (z_hum kd ot sp (N - 1 - i) 10) (fun e => nm_r (nI_1 i) ?_) (fun e => nm_r (nI_1 _) (nm_r (nI_1 i) ?_)) rfl rfl (by omega) (by omega)
      · rw [z_cnt_f (decide_eq_false (fun e3 => e3 e))] at ih1; exact ih1
      · rw [z_cnt_t (decide_eq_true e)] at ih1; exact ih1
  exact ⟨N / 2 + 1, key _ 0 (by omega)⟩
theorem zm_mirror (hS : z_VS N kd ot sp tm) {post : Int32 → Prop} (h : post (nI (z_cnt (z_mir N kd ot sp) (N / 2)))) : F_X10_mirror (nI N) kd ot sp post := by
  have hN := hS.1
  have e2 : nI N / 2 = nI (N / 2) := pk_div (by omega) (by decide) (by decide)
  have key : ∀ k i : Nat, i + k = N / 2 → L_X10_mirror_4 (nI N) kd ot sp post (k + 1) (nI (z_cnt (z_mir N kd ot sp) i)) (nI i) := by
    intro k
    induction k with
    | zero =>
      intro i hi
      rw [L_X10_mirror_4]
      rw [e2]
      refine pk_le (N / 2) i (fun _ => ?_) (fun e => by omega)
      rw [show i = N / 2 by omega]; exact h
    | succ k ih =>
      intro i hi
      have ih1 := ih (i + 1) (by omega)
      have b1 := z_hum_b hS (i := i) (by omega) (v := 10) (by omega)
      have b2 := z_hum_b hS (i := N - 1 - i) (by omega) (v := 10) (by omega)
      rw [L_X10_mirror_4]
      unfold F_X10_mirror_41
      rw [e2]
      refine pk_le (N / 2) i (fun e => by omega) (fun _ => zm_humOf (v := 10) hS (by omega) (by omega) ?_)
      rw [show nI N - 1 - nI i = nI (N - 1 - i) by rw [show nI N - 1 = nI (N - 1) from pk_sub (a := N) (b := 1) (by omega), pk_sub (by omega)]]
      refine zm_humOf (v := 10) hS (by omega) (by omega) ?_
      refine pk_eq (z_hum kd ot sp i 10) (z_hum kd ot sp (N - 1 - i) 10) (fun e => nm_r (nI_1 i) ?_) (fun e => nm_r (nI_1 _) (nm_r (nI_1 i) ?_)) rfl rfl (by omega) (by omega)
      · rw [z_cnt_f (decide_eq_false (fun e3 => e3 e))] at ih1; exact ih1
      · rw [z_cnt_t (decide_eq_true e)] at ih1; exact ih1
  exact ⟨N / 2 + 1, key _ 0 (by omega)⟩
theorem p_37 (hS : z_VS N kd ot sp tm) {post : Prop} (h : post) : O_37 (nI N) kd ot sp (nI N) kd ot sp s1 s2 s3 s4 s5 post := zc_mirror hS (zm_mirror hS (z_eq h))
/-! warns -/
def z_hw (N : Nat) (kd ot sp : Nat → Int32) (w v : Nat) : Bool := z_any (fun i => decide (w ≤ z_hum kd ot sp i v)) N
theorem zc_warns (hS : z_VS N kd ot sp tm) {w : Nat} (hw : w ≤ 99999) {post : Int32 → (Nat → Int32) → Prop} (h : post (if z_ff (z_hw N kd ot sp w) 99 1 < 100 then nI (z_ff (z_hw N kd ot sp w) 99 1) else -1) ref) : ∃ n, L_X9_warns_22 (nI N) kd ot sp (nI w) ref post n 1 := by
  have hN := hS.1
  have inner : ∀ (v : Nat) (k22 : Int32 → Prop), v ≤ 99 → (z_hw N kd ot sp w v = true → post (nI v) ref) → (z_hw N kd ot sp w v = false → k22 (nI (v + 1))) → ∀ k i : Nat, i + k = N → z_any (fun i => decide (w ≤ z_hum kd ot sp i v)) i = false → L_X9_warns_30 (nI N) kd ot sp (nI w) (nI v) ref post k22 (k + 1) (nI i) := by
    intro v k22 hv h1 h0 k
    induction k with
    | zero =>
      intro i hi hf
      rw [L_X9_warns_30]
      unfold F_X7_count
      refine pk_le N i (fun _ => nm_r (nI_1 v) (h0 ?_)) (fun e => by omega)
      rw [show i = N by omega] at hf; exact hf
    | succ k ih =>
      intro i hi hf
      have b1 := z_hum_b hS (i := i) (by omega) (v := v) (by omega)
      rw [L_X9_warns_30]
      unfold F_X7_count
      refine pk_le N i (fun e => by omega) (fun _ => zc_humOf hS (by omega) hv ?_)
      exact pk_lt (z_hum kd ot sp i v) w (fun e => nm_r (nI_1 i) (ih (i + 1) (by omega) (z_any_s hf (decide_eq_false (by omega))))) (fun e => h1 (z_any_of (i := i) (decide_eq_true e) (by omega))) rfl rfl (by omega) (by omega)
  have outer : ∀ k v : Nat, v + k = 100 → post (if z_ff (z_hw N kd ot sp w) k v < 100 then nI (z_ff (z_hw N kd ot sp w) k v) else -1) ref → L_X9_warns_22 (nI N) kd ot sp (nI w) ref post (k + 1) (nI v) := by
    intro k
    induction k with
    | zero =>
      intro v hv h
      rw [L_X9_warns_22]
      refine pk_lt 99 v (fun _ => ?_) (fun e => by omega)
      rw [z_ff, if_neg (by omega)] at h; exact h
    | succ k ih =>
      intro v hv h
      rw [L_X9_warns_22]
      refine pk_lt 99 v (fun e => by omega) (fun _ => ⟨N + 1, inner v _ (by omega) (fun e => ?_) (fun e => ih (v + 1) (by omega) ?_) N 0 (by omega) rfl⟩)
      · rw [z_ff_t e, if_pos (by omega)] at h; exact h
      · rw [z_ff_f e] at h; exact h
  exact ⟨100, outer 99 1 (by omega) h⟩
theorem zm_warns (hS : z_VS N kd ot sp tm) {w : Nat} (hw : w ≤ 99999) {post : Int32 → (Nat → Int32) → Prop} (h : post (if z_ff (z_hw N kd ot sp w) 99 1 < 100 then nI (z_ff (z_hw N kd ot sp w) 99 1) else -1) ref) : ∃ n, L_X10_warns_19 (nI N) kd ot sp (nI w) ref post n 1 := by
  have hN := hS.1
  have inner : ∀ (v : Nat) (k22 : Int32 → Prop), v ≤ 99 → (z_hw N kd ot sp w v = true → post (nI v) ref) → (z_hw N kd ot sp w v = false → k22 (nI (v + 1))) → ∀ k i : Nat, i + k = N → z_any (fun i => decide (w ≤ z_hum kd ot sp i v)) i = false → L_X10_warns_27 (nI N) kd ot sp (nI w) (nI v) ref post k22 (k + 1) (nI i) := by
    intro v k22 hv h1 h0 k
    induction k with
    | zero =>
      intro i hi hf
      rw [L_X10_warns_27]
      refine pk_le N i (fun _ => nm_r (nI_1 v) (h0 ?_)) (fun e => by omega)
      rw [show i = N by omega] at hf; exact hf
    | succ k ih =>
      intro i hi hf
      have b1 := z_hum_b hS (i := i) (by omega) (v := v) (by omega)
      rw [L_X10_warns_27]
      refine pk_le N i (fun e => by omega) (fun _ => zm_humOf hS (by omega) hv ?_)
      exact pk_lt (z_hum kd ot sp i v) w (fun e => nm_r (nI_1 i) (ih (i + 1) (by omega) (z_any_s hf (decide_eq_false (by omega))))) (fun e => h1 (z_any_of (i := i) (decide_eq_true e) (by omega))) rfl rfl (by omega) (by omega)
  have outer : ∀ k v : Nat, v + k = 100 → post (if z_ff (z_hw N kd ot sp w) k v < 100 then nI (z_ff (z_hw N kd ot sp w) k v) else -1) ref → L_X10_warns_19 (nI N) kd ot sp (nI w) ref post (k + 1) (nI v) := by
    intro k
    induction k with
    | zero =>
      intro v hv h
      rw [L_X10_warns_19]
      refine pk_le 100 v (fun _ => ?_) (fun e => by omega)
      rw [z_ff, if_neg (by omega)] at h; exact h
    | succ k ih =>
      intro v hv h
      rw [L_X10_warns_19]
      refine pk_le 100 v (fun e => by omega) (fun _ => ⟨N + 1, inner v _ (by omega) (fun e => ?_) (fun e => ih (v + 1) (by omega) ?_) N 0 (by omega) rfl⟩)
      · rw [z_ff_t e, if_pos (by omega)] at h; exact h
      · rw [z_ff_f e] at h; exact h
  exact ⟨100, outer 99 1 (by omega) h⟩
theorem p_38 (hS : z_VS N kd ot sp tm) {post : (Nat → Int32) → (Nat → Int32) → Prop} (h : ∀ R, post R R) : O_38 (nI N) kd ot ref sp ref (nI N) kd ot sp s1 s2 s3 s4 s5 post := by
  unfold O_38 F_X9_warns
  refine zo_within (fun c => z_b0 (z_ra6 ?_)) (fun c1 c2 => z_b1 ?_)
  · unfold F_X10_warns
    exact z_out2 c (z_nt6 (z_eq (h _)))
  · obtain ⟨b, -, hb, rfl⟩ := z_rng 0 99999 c1 c2 (by decide) (by decide)
    refine zc_warns hS hb ?_
    unfold F_X10_warns
    exact z_inn2 c1 c2 (zm_warns hS hb (z_eq (h _)))
/-! worn -/
def z_ol (N : Nat) (kd : Nat → Int32) (y : Nat) : Bool := z_any (fun i => decide (0 < z_loud kd i y)) N
theorem z_loud_b (kd : Nat → Int32) (i y : Nat) : z_loud kd i y ≤ 15 := by
  unfold z_loud
  refine Nat.le_trans (Nat.sub_le _ _) ?_
  split
  · omega
  · split
    · omega
    · split <;> omega
theorem zc_oneLoud (hS : z_VS N kd ot sp tm) {y : Nat} (hy : y ≤ 50) {post : Int32 → Prop} (h1 : z_ol N kd y = true → post 1) (h0 : z_ol N kd y = false → post 0) : F_X7_isOneLoud (nI N) kd (nI y) post := by
  have hN := hS.1
  have inner : ∀ k i : Nat, i + k = N → z_any (fun i => decide (0 < z_loud kd i y)) i = false → L_X7_isOneLoud_2 (nI N) kd (nI y) post (k + 1) (nI i) := by
    intro k
    induction k with
    | zero =>
      intro i hi hf
      rw [L_X7_isOneLoud_2]
      refine pk_le N i (fun _ => h0 ?_) (fun e => by omega)
      rw [show i = N by omega] at hf; exact hf
    | succ k ih =>
      intro i hi hf
      have b1 := z_loud_b kd i y
      rw [L_X7_isOneLoud_2]
      refine pk_le N i (fun e => by omega) (fun _ => zc_loudnessOf hS (by omega) hy ?_)
      exact pk_le (z_loud kd i y) 0 (fun e => nm_r (nI_1 i) (ih (i + 1) (by omega) (z_any_s hf (decide_eq_false (by omega))))) (fun e => h1 (z_any_of (i := i) (decide_eq_true e) (by omega))) rfl rfl (by omega) (by omega)
  exact ⟨N + 1, inner N 0 (by omega) rfl⟩
theorem zc_worn (hS : z_VS N kd ot sp tm) {post : Int32 → Prop} (h : post (if z_ff (fun y => !z_ol N kd y) 51 0 < 51 then nI (z_ff (fun y => !z_ol N kd y) 51 0) else -1)) : F_X9_worn (nI N) kd post := by
  have outer : ∀ k v : Nat, v + k = 51 → post (if z_ff (fun y => !z_ol N kd y) k v < 51 then nI (z_ff (fun y => !z_ol N kd y) k v) else -1) → L_X9_worn_2 (nI N) kd post (k + 1) (nI v) := by
    intro k
    induction k with
    | zero =>
      intro v hv h
      rw [L_X9_worn_2]
      refine pk_lt 50 v (fun _ => ?_) (fun e => by omega)
      rw [z_ff, if_neg (by omega)] at h; exact h
    | succ k ih =>
      intro v hv h
      rw [L_X9_worn_2]
      refine pk_lt 50 v (fun e => by omega) (fun _ => zc_oneLoud hS (by omega) (fun e => z_b1 (nm_r (nI_1 v) (ih (v + 1) (by omega) ?_))) (fun e => z_b0 ?_))
      · rw [z_ff_f (show (!z_ol N kd v) = false by rw [e]; rfl)] at h; exact h
      · rw [z_ff_t (show (!z_ol N kd v) = true by rw [e]; rfl), if_pos (by omega)] at h; exact h
  exact ⟨52, outer 51 0 (by omega) h⟩
theorem zm_worn (hS : z_VS N kd ot sp tm) {post : Int32 → Prop} (h : post (if z_ff (fun y => !z_ol N kd y) 51 0 < 51 then nI (z_ff (fun y => !z_ol N kd y) 51 0) else -1)) : F_X10_worn (nI N) kd post := by
  have hN := hS.1
  have inner : ∀ (y : Nat) (k2 : Int32 → Prop), y ≤ 50 → (z_ol N kd y = true → k2 (nI (y + 1))) → (z_ol N kd y = false → post (nI y)) → ∀ k i : Nat, i + k = N → L_X10_worn_12 (nI N) kd (nI y) post k2 (k + 1) (if z_any (fun i => decide (0 < z_loud kd i y)) i = true then 1 else 0) (nI i) := by
    intro y k2 hy h1 h0 k
    induction k with
    | zero =>
      intro i hi
      rw [L_X10_worn_12]
      refine pk_le N i (fun _ => ?_) (fun e => by omega)
      rw [show i = N by omega]
      by_cases e : z_ol N kd y = true
      · rw [show (if z_any (fun i => decide (0 < z_loud kd i y)) N = true then (1 : Int32) else 0) = 1 from if_pos e]
        exact z_b1 (nm_r (nI_1 y) (h1 e))
      · rw [show (if z_any (fun i => decide (0 < z_loud kd i y)) N = true then (1 : Int32) else 0) = 0 from if_neg e]
        exact z_b0 (h0 (by simpa using e))
    | succ k ih =>
      intro i hi
      have ih1 := ih (i + 1) (by omega)
      have b1 := z_loud_b kd i y
      rw [L_X10_worn_12]
      unfold F_X10_worn_33 F_X10_worn_38
      have es : z_any (fun i => decide (0 < z_loud kd i y)) (i + 1) = (z_any (fun i => decide (0 < z_loud kd i y)) i || decide (0 < z_loud kd i y)) := rfl
      refine pk_le N i (fun e => by omega) (fun _ => ?_)
      cases e : z_any (fun i => decide (0 < z_loud kd i y)) i with
      | true =>
        rw [es, e, Bool.true_or] at ih1
        exact z_b1 (nm_r (nI_1 i) ih1)
      | false =>
        rw [es, e, Bool.false_or] at ih1
        refine z_b0 (zm_loudOf hS (by omega) hy (pk_le (z_loud kd i y) 0 (fun e2 => nm_r (nI_1 i) ?_) (fun e2 => nm_r (nI_1 i) ?_) rfl rfl (by omega) (by omega)))
        · rw [show decide (0 < z_loud kd i y) = false from decide_eq_false (by omega)] at ih1; exact ih1
        · rw [show decide (0 < z_loud kd i y) = true from decide_eq_true e2] at ih1; exact ih1
  have outer : ∀ k v : Nat, v + k = 51 → post (if z_ff (fun y => !z_ol N kd y) k v < 51 then nI (z_ff (fun y => !z_ol N kd y) k v) else -1) → L_X10_worn_2 (nI N) kd post (k + 1) (nI v) := by
    intro k
    induction k with
    | zero =>
      intro v hv h
      rw [L_X10_worn_2]
      refine pk_lt 50 v (fun _ => ?_) (fun e => by omega)
      rw [z_ff, if_neg (by omega)] at h; exact h
    | succ k ih =>
      intro v hv h
      rw [L_X10_worn_2]
      refine pk_lt 50 v (fun e => by omega) (fun _ => ⟨N + 1, inner v _ (by omega) (fun e => ih (v + 1) (by omega) ?_) (fun e => ?_) N 0 (by omega)⟩)
      · rw [z_ff_f (show (!z_ol N kd v) = false by rw [e]; rfl)] at h; exact h
      · rw [z_ff_t (show (!z_ol N kd v) = true by rw [e]; rfl), if_pos (by omega)] at h; exact h
  exact ⟨52, outer 51 0 (by omega) h⟩
theorem p_39 (hS : z_VS N kd ot sp tm) {post : Prop} (h : post) : O_39 (nI N) kd (nI N) kd s1 s2 s3 s4 s5 post := zc_worn hS (zm_worn hS (z_eq h))
/-! read -/
def z_rd (f : Nat → Nat) (t : Nat) (s : Nat × Nat) : Nat × Nat := if f t < s.2 then (t, f t) else s
theorem z_rd_t {f : Nat → Nat} {t : Nat} {s : Nat × Nat} (h : f t < s.2) : z_rd f t s = (t, f t) := if_pos h
theorem z_rd_f {f : Nat → Nat} {t : Nat} {s : Nat × Nat} (h : s.2 ≤ f t) : z_rd f t s = s := if_neg (by omega)
theorem zc_read (hS : z_VS N kd ot sp tm) (hC : z_VC C bs sh spd) (hT : z_VT T bt nts pt) {c : Nat} (hc : c < C) {post : Int32 → (Nat → Int32) → Prop} : ∀ (k t : Nat) (s : Nat × Nat), t + k = T → s.1 ≤ T → s.2 ≤ 999 → post (nI (z_it (z_rd (z_worst N kd ot sp nts pt (z_tn (spd c)))) k t s).1) ref → L_X9_read_55 (nI C) spd (nI N) kd ot sp (nI T) nts pt (nI c) ref post (k + 1) (nI s.1) (nI s.2) (nI t) := by
  have hT1 := hT.1
  intro k
  induction k with
  | zero =>
    intro t s ht h1 h2 h
    rw [L_X9_read_55]
    unfold F_X8_count
    exact pk_le T t (fun _ => h) (fun e => by omega)
  | succ k ih =>
    intro t s ht h1 h2 h
    have hw := z_worst_b N kd ot sp nts pt (z_tn (spd c)) t
    rw [L_X9_read_55]
    unfold F_X8_count F_X9_read_94
    rw [z_it] at h
    refine pk_le T t (fun e => by omega) (fun _ => zc_worstOf hS hC hT hc (by omega) (pk_le s.2 _ (fun e => nm_r (nI_1 t) ?_) (fun e => nm_r (nI_1 t) ?_) rfl rfl (by omega) (by omega)))
    · rw [z_rd_f e] at h
      exact ih (t + 1) s (by omega) h1 h2 h
    · rw [z_rd_t e] at h
      exact ih (t + 1) (t, z_worst N kd ot sp nts pt (z_tn (spd c)) t) (by omega) (show t ≤ T by omega) hw h
theorem zm_read (hS : z_VS N kd ot sp tm) (hC : z_VC C bs sh spd) (hT : z_VT T bt nts pt) {c : Nat} (hc : c < C) {post : Int32 → (Nat → Int32) → Prop} : ∀ (k t : Nat) (s : Nat × Nat), t + k = T → s.1 ≤ T → s.2 ≤ 999 → post (nI (z_it (z_rd (z_worst N kd ot sp nts pt (z_tn (spd c)))) k t s).1) ref → L_X10_read_40 (nI N) (nI T) kd nts ot pt sp spd (nI c) ref post (k + 1) (nI s.1) (nI s.2) (nI t) := by
  have hT1 := hT.1
  intro k
  induction k with
  | zero =>
    intro t s ht h1 h2 h
    rw [L_X10_read_40]
    exact pk_le T t (fun _ => h) (fun e => by omega)
  | succ k ih =>
    intro t s ht h1 h2 h
    have hw := z_worst_b N kd ot sp nts pt (z_tn (spd c)) t
    rw [L_X10_read_40]
    unfold F_X10_read_73
    rw [z_it] at h
    refine pk_le T t (fun e => by omega) (fun _ => zm_worstOf hS hC hT hc (by omega) (pk_lt _ s.2 (fun e => nm_r (nI_1 t) ?_) (fun e => nm_r (nI_1 t) ?_) rfl rfl (by omega) (by omega)))
    · rw [z_rd_t e] at h
      exact ih (t + 1) (t, z_worst N kd ot sp nts pt (z_tn (spd c)) t) (by omega) (show t ≤ T by omega) hw h
    · rw [z_rd_f e] at h
      exact ih (t + 1) s (by omega) h1 h2 h
theorem p_36 (hS : z_VS N kd ot sp tm) (hC : z_VC C bs sh spd) (hT : z_VT T bt nts pt) {post : (Nat → Int32) → (Nat → Int32) → Prop} (h : ∀ R, post R R) : O_36 (nI N) (nI C) (nI T) kd nts ot pt ref sp spd ref (nI C) spd (nI N) kd ot sp (nI T) nts pt s1 s2 s3 s4 s5 post := by
  have hT1 := hT.1
  unfold O_36 F_X9_read
  refine zo_X1has hC.1 (fun c => z_b0 (z_r1 ?_)) (fun i hi e => z_b1 ?_)
  · unfold F_X10_read
    exact zf_mCar hC.1 c (z_b0 (z_n1 (z_eq (h _))))
  · subst e
    unfold F_X8_count
    refine pk_eq T 0 (fun e => z_r5 ?_) (fun e => zc_worstOf (t := 0) hS hC hT hi (by omega) ⟨T, ?_⟩)
    · unfold F_X10_read
      exact zt_mCar hC.1 hi (z_b1 (br_t (by rw [e]; rfl) (z_n5 (z_eq (h _)))))
    · have hw := z_worst_b N kd ot sp nts pt (z_tn (spd i)) 0
      obtain ⟨T', rfl⟩ : ∃ T', T = T' + 1 := ⟨T - 1, by omega⟩
      refine zc_read hS hC hT hi T' 1 (0, z_worst N kd ot sp nts pt (z_tn (spd i)) 0) (by omega) (Nat.zero_le _) hw ?_
      unfold F_X10_read
      exact zt_mCar hC.1 hi (z_b1 (br_f (nI_ne0 (by omega) (by omega)) (zm_worstOf (t := 0) hS hC hT hi (by omega) ⟨T' + 1, zm_read hS hC hT hi T' 1 (0, z_worst N kd ot sp nts pt (z_tn (spd i)) 0) (by omega) (Nat.zero_le _) hw (z_eq (h _))⟩)))
end ROAD
