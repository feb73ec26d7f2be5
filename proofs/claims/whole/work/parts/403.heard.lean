/-! what is heard -/
def z_VD (al ne bo te : Nat) : Prop := (1 ≤ al ∧ al ≤ 9999) ∧ (2 ≤ ne ∧ ne ≤ 30) ∧ bo ≤ 500 ∧ (50 ≤ te ∧ te ≤ 2000)
def z_dm (dm : Nat → Int32) (al ne bo te : Nat) : Prop := dm 0 = nI al ∧ dm 1 = nI ne ∧ dm 2 = nI bo ∧ dm 3 = nI te
theorem zc_asked {dm : Nat → Int32} {k : Nat} (hk : k < 4) {post : Int32 → Prop} (h : post (dm k)) : F_X5_asked dm (nI k) post := by
  unfold F_X5_asked
  refine zt_within (nI_pos' (by omega)) (nI_le (b := 3) (by omega) (by decide)) (z_b1 ⟨vp_in_nI (by omega) (by decide), ?_⟩)
  rw [nI_clamp (by omega)]
  exact h
theorem z_VC.spd {N c : Nat} {bs sh spd : Nat → Int32} (hV : z_VC N bs sh spd) (hc : c < N) : spd c = nI (z_tn (spd c)) ∧ 1 ≤ z_tn (spd c) ∧ z_tn (spd c) ≤ 99 := by
  obtain ⟨b, h, v, -, -, ev, -, -, h1, h2⟩ := hV.2.1 c hc
  rw [ev, z_tn_nI (by omega)]
  exact ⟨rfl, h1, h2⟩
theorem z_VC.shr {N c : Nat} {bs sh spd : Nat → Int32} (hV : z_VC N bs sh spd) (hc : c < N) : sh c = nI (z_tn (sh c)) ∧ z_tn (sh c) ≤ 100 := by
  obtain ⟨b, h, v, -, eh, -, -, h1, -, -⟩ := hV.2.1 c hc
  rw [eh, z_tn_nI (by omega)]
  exact ⟨rfl, h1⟩
/-- how far off note i of tune t is at speed v -/
def z_note (N : Nat) (kd ot sp pt : Nat → Int32) (v t i : Nat) : Nat := if i < N then z_off (z_hum kd ot sp i v) (z_pt pt t i) else 999
theorem z_note_b (N : Nat) (kd ot sp pt : Nat → Int32) (v t i : Nat) : z_note N kd ot sp pt v t i ≤ 999 := by
  unfold z_note
  split
  · exact z_off_b _ _
  · omega
def z_mx (f : Nat → Nat) : Nat → Nat
  | 0 => 0
  | n + 1 => max (z_mx f n) (f n)
theorem z_mx_b {f : Nat → Nat} {b : Nat} (h : ∀ i, f i ≤ b) : ∀ n, z_mx f n ≤ b
  | 0 => Nat.zero_le _
  | n + 1 => Nat.max_le.mpr ⟨z_mx_b h n, h n⟩
theorem z_maxI {a b : Nat} (ha : a < 2 ^ 31) (hb : b < 2 ^ 31) : (if nI a < nI b then nI b else nI a) = nI (max a b) := by
  by_cases e : a < b
  · rw [if_pos (nI_lt e hb), Nat.max_eq_right (by omega)]
  · rw [if_neg (nI_nlt (by omega) ha), Nat.max_eq_left (by omega)]
section ROAD
variable {N C T : Nat} {kd ot sp tm bs sh spd bt nts pt : Nat → Int32} (hS : z_VS N kd ot sp tm) (hC : z_VC C bs sh spd) (hT : z_VT T bt nts pt)
theorem zc_offOfNote (hS : z_VS N kd ot sp tm) (hC : z_VC C bs sh spd) (hT : z_VT T bt nts pt) {c t i : Nat} (hc : c < C) (ht : t < T) (hi : i < z_nt nts t) {post : Int32 → Prop} (h : post (nI (z_note N kd ot sp pt (z_tn (spd c)) t i))) : F_X5_offOfNote (nI C) spd (nI N) kd ot sp (nI T) nts pt (nI c) (nI t) (nI i) post := by
  obtain ⟨ev, hv1, hv2⟩ := hC.spd hc
  obtain ⟨⟨ep, hp⟩, -⟩ := (hT.2 t ht).2 i hi
  have h12 := (hT.2 t ht).1.2
  unfold F_X5_offOfNote
  unfold z_note at h
  by_cases hi2 : i < N
  · rw [if_pos hi2] at h
    refine zt_X7has hS.1 hi2 (z_b1 (zc_speedOf hC.1 hc ?_))
    rw [ev]
    exact zc_humOf hS hi2 hv2 (zc_pitchOf hT ht hi (zc_off (Nat.le_trans (z_hum_b hS hi2 hv2) (by decide)) (by omega) h))
  · rw [if_neg hi2] at h
    refine zf_X7has hS.1 (fun ⟨j, hj, e⟩ => ?_) (z_b0 h)
    have := hS.1
    have e2 := (nI_eq (by omega) (by omega)).mp e
    omega
theorem zm_noteBy (hS : z_VS N kd ot sp tm) (hC : z_VC C bs sh spd) (hT : z_VT T bt nts pt) {c t i : Nat} (hc : c < C) (ht : t < T) (hi : i < z_nt nts t) {post : Int32 → Prop} (h : post (nI (z_note N kd ot sp pt (z_tn (spd c)) t i))) : F_X10_noteBy (nI N) kd ot pt sp spd (nI c) (nI t) (nI i) post := by
  obtain ⟨ev, hv1, hv2⟩ := hC.spd hc
  obtain ⟨⟨ep, hp⟩, -⟩ := (hT.2 t ht).2 i hi
  have h12 := (hT.2 t ht).1.2
  have hT1 := hT.1
  have hC1 := hC.1
  have hN := hS.1
  unfold F_X10_noteBy
  unfold z_note at h
  rw [z_ix12, nI_clamp (by omega), nI_clamp (by omega), ep, ev]
  refine pk_le N i (fun e => ?_) (fun e => ⟨vp_in_nI (by omega) (by decide), zm_humOf hS e hv2 ⟨vp_in_nI (by omega) (by decide), zm_off (Nat.le_trans (z_hum_b hS e hv2) (by decide)) (by omega) ?_⟩⟩)
  · rw [if_neg (by omega)] at h; exact h
  · rw [if_pos e] at h; exact h
def z_worst (N : Nat) (kd ot sp nts pt : Nat → Int32) (v t : Nat) : Nat := z_mx (z_note N kd ot sp pt v t) (z_nt nts t)
theorem z_worst_b (N : Nat) (kd ot sp nts pt : Nat → Int32) (v t : Nat) : z_worst N kd ot sp nts pt v t ≤ 999 := z_mx_b (z_note_b N kd ot sp pt v t) _
theorem zc_worstOf (hS : z_VS N kd ot sp tm) (hC : z_VC C bs sh spd) (hT : z_VT T bt nts pt) {c t : Nat} (hc : c < C) (ht : t < T) {post : Int32 → Prop} (h : post (nI (z_worst N kd ot sp nts pt (z_tn (spd c)) t))) : F_X5_worstOf (nI C) spd (nI N) kd ot sp (nI T) nts pt (nI c) (nI t) post := by
  have h12 := (hT.2 t ht).1.2
  have key : ∀ k i : Nat, i + k = z_nt nts t → L_X5_worstOf_5 (nI C) spd (nI N) kd ot sp (nI T) nts pt (nI c) (nI t) post (k + 1) (nI (z_mx (z_note N kd ot sp pt (z_tn (spd c)) t) i)) (nI i) := by
    intro k
    induction k with
    | zero =>
      intro i hi
      rw [L_X5_worstOf_5]
      refine zc_notesOf hT ht (pk_le (z_nt nts t) i (fun _ => ?_) (fun e => by omega))
      rw [show i = z_nt nts t by omega]; exact h
    | succ k ih =>
      intro i hi
      rw [L_X5_worstOf_5]
      have b1 := z_mx_b (z_note_b N kd ot sp pt (z_tn (spd c)) t) i
      have b2 := z_note_b N kd ot sp pt (z_tn (spd c)) t i
      refine zc_notesOf hT ht (pk_le (z_nt nts t) i (fun e => by omega) (fun _ => zc_offOfNote hS hC hT hc ht (by omega) ?_))
      exact nm_r (z_maxI (by omega) (by omega)) (nm_r (nI_1 i) (ih (i + 1) (by omega)))
  exact ⟨z_nt nts t + 1, key _ 0 (by omega)⟩
theorem zm_worstOf (hS : z_VS N kd ot sp tm) (hC : z_VC C bs sh spd) (hT : z_VT T bt nts pt) {c t : Nat} (hc : c < C) (ht : t < T) {post : Int32 → Prop} (h : post (nI (z_worst N kd ot sp nts pt (z_tn (spd c)) t))) : F_X10_worstOf (nI N) kd nts ot pt sp spd (nI c) (nI t) post := by
  have h12 := (hT.2 t ht).1.2
  have hT1 := hT.1
  have key : ∀ k i : Nat, i + k = z_nt nts t → L_X10_worstOf_5 (nI N) kd nts ot pt sp spd (nI c) (nI t) post (k + 1) (nI (z_mx (z_note N kd ot sp pt (z_tn (spd c)) t) i)) (nI i) := by
    intro k
    induction k with
    | zero =>
      intro i hi
      rw [L_X10_worstOf_5, nI_clamp (by omega), (hT.2 t ht).1.1]
      refine ⟨vp_in_nI (by omega) (by decide), pk_le (z_nt nts t) i (fun _ => ?_) (fun e => by omega)⟩
      rw [show i = z_nt nts t by omega]; exact h
    | succ k ih =>
      intro i hi
      rw [L_X10_worstOf_5, nI_clamp (by omega), (hT.2 t ht).1.1]
      have b1 := z_mx_b (z_note_b N kd ot sp pt (z_tn (spd c)) t) i
      have b2 := z_note_b N kd ot sp pt (z_tn (spd c)) t i
      have ih1 := ih (i + 1) (by omega)
      refine ⟨vp_in_nI (by omega) (by decide), pk_le (z_nt nts t) i (fun e => by omega) (fun _ => zm_noteBy hS hC hT hc ht (by omega) ?_)⟩
      refine pk_le _ _ (fun e => nm_r (nI_1 i) ?_) (fun e => nm_r (nI_1 i) ?_) rfl rfl (by omega) (by omega)
      · rw [show z_mx (z_note N kd ot sp pt (z_tn (spd c)) t) (i + 1) = z_mx (z_note N kd ot sp pt (z_tn (spd c)) t) i from Nat.max_eq_left e] at ih1
        exact ih1
      · rw [show z_mx (z_note N kd ot sp pt (z_tn (spd c)) t) (i + 1) = z_note N kd ot sp pt (z_tn (spd c)) t i from Nat.max_eq_right (Nat.le_of_lt e)] at ih1
        exact ih1
  exact ⟨z_nt nts t + 1, key _ 0 (by omega)⟩
/-! late -/
def z_last (N : Nat) (kd ot sp tm : Nat → Int32) (v i : Nat) : Nat := if i < N then z_len kd ot sp tm i * 10000 / (704 * v) else 0
def z_lt (N : Nat) (kd ot sp tm bt : Nat → Int32) (te v t i : Nat) : Nat := if z_sum (z_last N kd ot sp tm v) i ≤ z_sum (fun i => z_pt bt t i) i * te then z_sum (fun i => z_pt bt t i) i * te - z_sum (z_last N kd ot sp tm v) i else z_sum (z_last N kd ot sp tm v) i - z_sum (fun i => z_pt bt t i) i * te
def z_late (N : Nat) (kd ot sp tm bt nts : Nat → Int32) (te v t : Nat) : Nat := z_mx (z_lt N kd ot sp tm bt te v t) (z_nt nts t)
theorem z_last_b (hS : z_VS N kd ot sp tm) (v i : Nat) : z_last N kd ot sp tm v i ≤ 72000000 := by
  unfold z_last
  split
  · rename_i h
    exact Nat.le_trans (Nat.div_le_self _ _) (Nat.le_trans (Nat.mul_le_mul_right _ (z_len_b hS h)) (by decide))
  · omega
theorem z_lt_b (hS : z_VS N kd ot sp tm) (hT : z_VT T bt nts pt) {te v t i : Nat} (ht : t < T) (hi : i ≤ z_nt nts t) (hte : te ≤ 2000) : z_sum (z_last N kd ot sp tm v) i ≤ 864000000 ∧ z_sum (fun i => z_pt bt t i) i * te ≤ 384000 := by
  have h12 := (hT.2 t ht).1.2
  have h1 := z_sum_le (f := z_last N kd ot sp tm v) (b := 72000000) i (fun j _ => z_last_b hS v j)
  have h2 := z_bsum_b hT ht hi
  exact ⟨by omega, Nat.le_trans (Nat.mul_le_mul h2 hte) (by decide)⟩
theorem z_mx_b2 {f : Nat → Nat} {b : Nat} : ∀ n, (∀ i, i < n → f i ≤ b) → z_mx f n ≤ b
  | 0, _ => Nat.zero_le _
  | n + 1, h => Nat.max_le.mpr ⟨z_mx_b2 n (fun i hi => h i (by omega)), h n (by omega)⟩
theorem zc_lasting (hS : z_VS N kd ot sp tm) {v i : Nat} (hi : i < 2 ^ 31) (hv1 : 1 ≤ v) (hv2 : v ≤ 99) {post : Int32 → Prop} (h : post (nI (z_last N kd ot sp tm v i))) : F_X7_lastingOf (nI N) kd ot sp tm (nI i) (nI v) post := by
  unfold z_last at h
  by_cases hi2 : i < N
  · rw [if_pos hi2] at h; exact zc_lastingOf hS hi2 hv1 hv2 h
  · rw [if_neg hi2] at h
    refine zf_lastingOf hS.1 (fun ⟨j, hj, e⟩ => ?_) hv1 hv2 h
    have := hS.1
    have e2 := (nI_eq (by omega) (by omega)).mp e
    omega
theorem zc_latenessOf (hS : z_VS N kd ot sp tm) (hC : z_VC C bs sh spd) (hT : z_VT T bt nts pt) {dm : Nat → Int32} {al ne bo te : Nat} (hD : z_VD al ne bo te) (hdm : z_dm dm al ne bo te) {c t : Nat} (hc : c < C) (ht : t < T) {post : Int32 → Prop} (h : post (nI (z_late N kd ot sp tm bt nts te (z_tn (spd c)) t))) : F_X5_latenessOf (nI C) spd dm (nI N) kd ot sp tm (nI T) bt nts (nI c) (nI t) post := by
  have h12 := (hT.2 t ht).1.2
  obtain ⟨ev, hv1, hv2⟩ := hC.spd hc
  generalize z_tn (spd c) = v at ev hv1 hv2 h
  have key : ∀ k i : Nat, i + k = z_nt nts t → L_X5_latenessOf_11 (nI C) spd dm (nI N) kd ot sp tm (nI T) bt nts (nI c) (nI t) post (k + 1) (nI (z_mx (z_lt N kd ot sp tm bt te (v) t) i)) (nI (z_sum (z_last N kd ot sp tm (v)) i)) (nI (z_sum (fun i => z_pt bt t i) i * te)) (nI i) := by
    intro k
    induction k with
    | zero =>
      intro i hi
      rw [L_X5_latenessOf_11]
      refine zc_notesOf hT ht (pk_le (z_nt nts t) i (fun _ => ?_) (fun e => by omega))
      rw [show i = z_nt nts t by omega]; exact h
    | succ k ih =>
      intro i hi
      have bb : ∀ j, j < i + 1 → z_lt N kd ot sp tm bt te (v) t j ≤ 864000000 := fun j hj => by
        have := z_lt_b hS hT (v := v) ht (i := j) (by omega) hD.2.2.2.2
        unfold z_lt
        split <;> omega
      have b0 := z_lt_b hS hT (v := v) ht (i := i) (by omega) hD.2.2.2.2
      have b1 := z_mx_b2 i (fun j hj => bb j (by omega))
      have b2 := bb i (by omega)
      rw [L_X5_latenessOf_11]
      refine zc_notesOf hT ht (pk_le (z_nt nts t) i (fun e => by omega) (fun _ => ?_))
      rw [z_abs (by omega) (by omega)]
      refine nm_r (z_maxI (b := z_lt N kd ot sp tm bt te (v) t i) (by omega) (by omega)) (zc_speedOf hC.1 hc ?_)
      rw [ev]
      refine zc_lasting hS (by omega) hv1 hv2 (nm_r (nI_add _ _) (zc_beatsOf hT ht (by omega) (zc_asked (k := 3) (by omega) ?_)))
      rw [hdm.2.2.2]
      refine nm_r (by rw [pk_mul, nI_add, ← Nat.add_mul]; rfl) (nm_r (nI_1 i) (ih (i + 1) (by omega)))
  have h0 := key _ 0 (Nat.zero_add _)
  rw [show z_sum (fun i => z_pt bt t i) 0 * te = 0 from Nat.zero_mul _] at h0
  exact ⟨z_nt nts t + 1, h0⟩
theorem zm_abs {a b : Nat} (ha : a < 2 ^ 30) (hb : b < 2 ^ 30) {P : Int32 → Prop} (h : P (nI (if a ≤ b then b - a else a - b))) : (0 ≤ nI a - nI b → P (nI a - nI b)) ∧ (¬ 0 ≤ nI a - nI b → P (-(nI a - nI b))) := by
  by_cases e : b ≤ a
  · rw [pk_sub e]
    refine br_t (nI_pos' (by omega)) ?_
    by_cases h2 : a ≤ b
    · rw [if_pos h2] at h; rw [show a - b = b - a by omega]; exact h
    · rw [if_neg h2] at h; exact h
  · refine br_f (z_ltn (pk_sneg (by omega) (by omega))) ?_
    rw [if_pos (by omega)] at h
    rw [Int32.neg_sub, pk_sub (by omega)]
    exact h
theorem zm_lateOf (hS : z_VS N kd ot sp tm) (hC : z_VC C bs sh spd) (hT : z_VT T bt nts pt) {al ne bo te : Nat} (hD : z_VD al ne bo te) {c t : Nat} (hc : c < C) (ht : t < T) {post : Int32 → Prop} (h : post (nI (z_late N kd ot sp tm bt nts te (z_tn (spd c)) t))) : F_X10_lateOf (nI N) (nI te) bt kd nts ot sp spd tm (nI c) (nI t) post := by
  have h12 := (hT.2 t ht).1.2
  have hT1 := hT.1
  have hC1 := hC.1
  have hN := hS.1
  obtain ⟨ev, hv1, hv2⟩ := hC.spd hc
  generalize z_tn (spd c) = v at ev hv1 hv2 h
  have key : ∀ k i : Nat, i + k = z_nt nts t → L_X10_lateOf_8 (nI N) (nI te) bt kd nts ot sp spd tm (nI c) (nI t) post (k + 1) (nI (z_mx (z_lt N kd ot sp tm bt te (v) t) i)) (nI (z_sum (z_last N kd ot sp tm (v)) i)) (nI i) := by
    intro k
    induction k with
    | zero =>
      intro i hi
      rw [L_X10_lateOf_8, nI_clamp (by omega), (hT.2 t ht).1.1]
      refine ⟨vp_in_nI (by omega) (by decide), pk_le (z_nt nts t) i (fun _ => ?_) (fun e => by omega)⟩
      rw [show i = z_nt nts t by omega]; exact h
    | succ k ih =>
      intro i hi
      have ih1 := ih (i + 1) (by omega)
      have bb : ∀ j, j < i + 1 → z_lt N kd ot sp tm bt te (v) t j ≤ 864000000 := fun j hj => by
        have := z_lt_b hS hT (v := v) ht (i := j) (by omega) hD.2.2.2.2
        unfold z_lt
        split <;> omega
      have b0 := z_lt_b hS hT (v := v) ht (i := i) (by omega) hD.2.2.2.2
      have b1 := z_mx_b2 i (fun j hj => bb j (by omega))
      have b2 := bb i (by omega)
      have step63 : F_X10_lateOf_63 (nI N) kd ot sp spd tm (fun x3 x4 x5 => L_X10_lateOf_8 (nI N) (nI te) bt kd nts ot sp spd tm (nI c) (nI t) post (k + 1) x3 x4 x5) (nI c) (nI t) (nI (z_sum (z_last N kd ot sp tm (v)) i)) (nI i) (nI (z_mx (z_lt N kd ot sp tm bt te (v) t) (i + 1))) := by
        unfold F_X10_lateOf_63
        rw [nI_clamp (by omega), ev]
        refine pk_le N i (fun e => nm_r (nI_1 i) ?_) (fun e => zm_lengthOf hS e ⟨vp_in_nI (by omega) (by decide), zm_lastsBy (z_len_b hS e) hv1 hv2 (nm_r (nI_add _ _) (nm_r (nI_1 i) ?_))⟩)
        · rw [show z_sum (z_last N kd ot sp tm (v)) (i + 1) = z_sum (z_last N kd ot sp tm (v)) i from by show _ + z_last N kd ot sp tm (v) i = _; unfold z_last; rw [if_neg (by omega)]; rfl] at ih1
          exact ih1
        · rw [show z_sum (z_last N kd ot sp tm (v)) (i + 1) = z_sum (z_last N kd ot sp tm (v)) i + z_len kd ot sp tm i * 10000 / (704 * v) from by show _ + z_last N kd ot sp tm (v) i = _; unfold z_last; rw [if_pos (by omega)]] at ih1
          exact ih1
      rw [L_X10_lateOf_8, nI_clamp (by omega), (hT.2 t ht).1.1]
      refine ⟨vp_in_nI (by omega) (by decide), pk_le (z_nt nts t) i (fun e => by omega) (fun _ => zm_beatsTo hT ht (by omega) ?_)⟩
      rw [pk_mul]
      refine nm_e (zm_abs (P := fun z => F_X10_lateOf_49 (nI N) kd ot sp spd tm (fun x3 x4 x5 => L_X10_lateOf_8 (nI N) (nI te) bt kd nts ot sp spd tm (nI c) (nI t) post (k + 1) x3 x4 x5) (nI c) (nI t) (nI (z_mx (z_lt N kd ot sp tm bt te (v) t) i)) (nI (z_sum (z_last N kd ot sp tm (v)) i)) (nI i) z) (by omega) (by omega) ?_)
      unfold F_X10_lateOf_49
      refine pk_le (z_lt N kd ot sp tm bt te (v) t i) _ (fun e => ?_) (fun e => ?_) rfl rfl (by omega) (by omega)
      · rw [show z_mx (z_lt N kd ot sp tm bt te (v) t) (i + 1) = z_mx (z_lt N kd ot sp tm bt te (v) t) i from Nat.max_eq_left e] at step63
        exact step63
      · rw [show z_mx (z_lt N kd ot sp tm bt te (v) t) (i + 1) = z_lt N kd ot sp tm bt te (v) t i from Nat.max_eq_right (Nat.le_of_lt e)] at step63
        exact step63
  exact ⟨z_nt nts t + 1, key _ 0 (by omega)⟩
end ROAD
