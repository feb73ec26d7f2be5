/-! operations over cuts -/
theorem z_any_congr {p q : Nat → Bool} : ∀ n, (∀ i, i < n → p i = q i) → z_any p n = z_any q n
  | 0, _ => rfl
  | n + 1, h => by
    show (z_any p n || p n) = (z_any q n || q n)
    rw [z_any_congr n (fun i hi => h i (by omega)), h n (by omega)]
section CUT
variable {N C T : Nat} {kd ot sp tm bs sh spd bt nts pt dm ref : Nat → Int32} {al ne bo te : Nat} {s1 s2 s3 s4 s5 : Int32}
theorem zc_spOf {n i : Nat} (hn : n ≤ 12) (hi : i < n) {f : Nat → Int32} {post : Int32 → Prop} (h : post (f i)) : F_X2_spaceOf (nI n) f (nI i) post := by
  unfold F_X2_spaceOf
  refine zt_X2has hn hi (z_b1 ⟨vp_in_nI (by omega) (by decide), ?_⟩)
  rw [nI_clamp (by omega)]
  exact h
theorem zc_tmOf {n i : Nat} (hn : n ≤ 12) (hi : i < n) {f : Nat → Int32} {post : Int32 → Prop} (h : post (f i)) : F_X2_timesOf (nI n) f (nI i) post := by
  unfold F_X2_timesOf
  refine zt_X2has hn hi (z_b1 ⟨vp_in_nI (by omega) (by decide), ?_⟩)
  rw [nI_clamp (by omega)]
  exact h
theorem zc_ofOf {n i : Nat} (hn : n ≤ 12) (hi : i < n) {f : Nat → Int32} {post : Int32 → Prop} (h : post (f i)) : F_X2_offOf (nI n) f (nI i) post := by
  unfold F_X2_offOf
  refine zt_X2has hn hi (z_b1 ⟨vp_in_nI (by omega) (by decide), ?_⟩)
  rw [nI_clamp (by omega)]
  exact h
theorem p_27 (hT : z_VT T bt nts pt) (hD : z_VD al ne bo te) (hdm : z_dm dm al ne bo te) {a b c : Nat → Int32} {xn : Int32} {xa xb xc : Nat → Int32} {post : (Nat → Int32) → (Nat → Int32) → (Nat → Int32) → (Nat → Int32) → Int32 → (Nat → Int32) → (Nat → Int32) → (Nat → Int32) → (Nat → Int32) → Prop} (h : ∀ a b c R n d e f, post a b c R n d e f R) : O_27 (nI T) (nI ne) (nI te) bt a b c nts pt ref xn xa xb xc ref dm (nI T) bt nts pt s1 s2 s3 s4 s5 post := by
  have hT1 := hT.1
  unfold O_27 F_X9_cut
  refine zo_hasNote hT (fun c => z_b0 (z_r1 ?_)) (fun t i ht hi e1 e2 => z_b1 (zo_within (fun c => z_b0 (z_r5 ?_)) (fun c1 c2 => z_b1 (zo_isSpeed (fun c => z_b0 (z_r6 ?_)) (fun d1 d2 => z_b1 ?_)))))
  · unfold F_X10_cut
    refine zo_mTune hT1 (fun _ => z_b0 (z_n1 (z_eq (h _ _ _ _ _ _ _ _)))) (fun t ht e => z_b1 ⟨fun _ => z_n1 (z_eq (h _ _ _ _ _ _ _ _)), fun d => ?_⟩)
    subst e
    have h12 := (hT.2 t ht).1.2
    rw [nI_clamp (by omega), (hT.2 t ht).1.1]
    refine ⟨vp_in_nI (by omega) (by decide), fun f => ?_, fun _ => z_n1 (z_eq (h _ _ _ _ _ _ _ _))⟩
    obtain ⟨j, hj, rfl⟩ := z_Bl.of (N := z_nt nts t) (by omega) d (z_ltn f)
    exact absurd ⟨t, j, ht, hj, rfl, rfl⟩ c
  all_goals subst e1 e2
  all_goals have h12 := (hT.2 t ht).1.2
  · unfold F_X10_cut
    refine zt_mTune hT1 ht (z_b1 (br_f (nI_pos (by omega)) ?_))
    rw [show (nI t).toNatClampNeg = t from nI_clamp (by omega), (hT.2 t ht).1.1]
    exact ⟨vp_in_nI (by omega) (by decide), br_t (nI_lt hi (by omega)) (z_out2 c (z_n5 (z_eq (h _ _ _ _ _ _ _ _))))⟩
  · unfold F_X10_cut
    refine zt_mTune hT1 ht (z_b1 (br_f (nI_pos (by omega)) ?_))
    rw [show (nI t).toNatClampNeg = t from nI_clamp (by omega), (hT.2 t ht).1.1]
    exact ⟨vp_in_nI (by omega) (by decide), br_t (nI_lt hi (by omega)) (z_inn2 c1 c2 (zmf_isSpeed c (z_b0 (z_n6 (z_eq (h _ _ _ _ _ _ _ _))))))⟩
  · obtain ⟨v, hv1, hv2, rfl⟩ := z_rng 1 99 d1 d2 (by decide) (by decide)
    refine zc_cutFor hT hD hdm ht hv2 (fun o s m hosm => ?_)
    have hci : (nI i).toNatClampNeg = i := nI_clamp (by omega)
    have mod : ∀ {post : Int32 → (Nat → Int32) → (Nat → Int32) → (Nat → Int32) → (Nat → Int32) → Prop}, (∀ o s m : Nat → Int32, (o i = nI (z_cO ne v pt t i) ∧ s i = nI (z_cS ne v pt t i) ∧ m i = nI (z_cT ne te v pt bt t i)) → (s4 = 0 → post (s i) o s m ref) ∧ (¬ s4 = 0 → ((s4 = 1 → post (m i) o s m ref) ∧ (¬ s4 = 1 → post (o i) o s m ref)))) → F_X10_cut (nI T) (nI ne) (nI te) bt a b c nts pt ref (nI t) (nI i) (nI v) s4 post := by
      intro post hp
      unfold F_X10_cut
      refine zt_mTune hT1 ht (z_b1 (br_f (nI_pos (by omega)) ?_))
      rw [show (nI t).toNatClampNeg = t from nI_clamp (by omega), (hT.2 t ht).1.1, hci]
      refine ⟨vp_in_nI (by omega) (by decide), br_t (nI_lt hi (by omega)) (z_inn2 c1 c2 (zmt_isSpeed d1 d2 (z_b1 (zm_cuts hT hD ht hv2 (fun o s m hm => ?_)))))⟩
      have hp2 := hp o s m (hm i hi)
      exact ⟨fun f => ⟨vp_in_nI (by omega) (by decide), hp2.1 f⟩, fun f => ⟨fun f2 => ⟨vp_in_nI (by omega) (by decide), (hp2.2 f).1 f2⟩, fun f2 => ⟨vp_in_nI (by omega) (by decide), (hp2.2 f).2 f2⟩⟩⟩
    have ho := hosm i hi
    refine ⟨fun f => zc_spOf h12 hi (mod (fun o s m hm => br_t f ?_)), fun f => ⟨fun f2 => zc_tmOf h12 hi (mod (fun o s m hm => br_f f (br_t f2 ?_))), fun f2 => zc_ofOf h12 hi (mod (fun o s m hm => br_f f (br_f f2 ?_)))⟩⟩
    · rw [ho.2.1, hm.2.1]; exact z_eq (h _ _ _ _ _ _ _ _)
    · rw [ho.2.2, hm.2.2]; exact z_eq (h _ _ _ _ _ _ _ _)
    · rw [ho.1, hm.1]; exact z_eq (h _ _ _ _ _ _ _ _)
/-! refusals of a tune at a speed -/
theorem zo_rta (hT1 : T ≤ 6) {post : Int32 → Prop} (h1 : ¬ z_Bl T s1 → post (-1)) (h6 : ∀ t, t < T → s1 = nI t → ¬ (1 ≤ s2 ∧ s2 ≤ 99) → post (-6)) (h0 : ∀ t v, t < T → s1 = nI t → 1 ≤ v → v ≤ 99 → s2 = nI v → post 0) : F_X9_refusalOfTuneAt (nI T) s1 s2 post := by
  unfold F_X9_refusalOfTuneAt
  refine zo_X8has hT1 (fun c => z_b0 (h1 c)) (fun t ht e => z_b1 (zo_isSpeed (fun c => z_b0 (h6 t ht e c)) (fun c1 c2 => z_b1 ?_)))
  obtain ⟨v, hv1, hv2, rfl⟩ := z_rng 1 99 c1 c2 (by decide) (by decide)
  exact h0 t v ht e hv1 hv2 rfl
theorem z_spd1 {v : Nat} (h : 1 ≤ v) (h2 : v ≤ 99) : (1 : Int32) ≤ nI v := nI_le (a := 1) h (by omega)
theorem z_spd2 {v : Nat} (h2 : v ≤ 99) : nI v ≤ 99 := nI_le (b := 99) h2 (by decide)
/-! fits -/
def z_cL (ne te v : Nat) (pt bt : Nat → Int32) (t i : Nat) : Nat := z_cS ne v pt t i * z_cT ne te v pt bt t i
def z_fit (al ne bo te v : Nat) (nts pt bt : Nat → Int32) (t : Nat) : Bool := decide (z_sum (z_cL ne te v pt bt t) (z_nt nts t) ≤ al ∧ z_mx (z_cO ne v pt t) (z_nt nts t) ≤ bo)
theorem z_cL_b {ne te v : Nat} (hne1 : 2 ≤ ne) (hne2 : ne ≤ 30) (pt bt : Nat → Int32) (t i : Nat) : z_cL ne te v pt bt t i ≤ 3600 := by
  have h1 := z_cS_b (v := v) hne1 hne2 pt t i
  have h2 := z_tmn_b (z_cP te v bt t i) (z_cE ne te v pt bt t i) (z_cS ne v pt t i)
  exact Nat.le_trans (Nat.mul_le_mul h1.2 h2.2) (by decide)
theorem zc_cutFits (hT : z_VT T bt nts pt) (hD : z_VD al ne bo te) (hdm : z_dm dm al ne bo te) {t v : Nat} (ht : t < T) (hv : v ≤ 99) {nc : Int32} {offs spaces times : Nat → Int32} {post : Int32 → Int32 → (Nat → Int32) → (Nat → Int32) → (Nat → Int32) → Prop} (h1 : z_fit al ne bo te v nts pt bt t = true → ∀ n a b c, post 1 n a b c) (h0 : z_fit al ne bo te v nts pt bt t = false → ∀ n a b c, post 0 n a b c) : F_X9_cutFits nc offs spaces times dm (nI T) bt nts pt (nI t) (nI v) post := by
  have hD' := hD
  obtain ⟨⟨hal1, hal2⟩, ⟨hne1, hne2⟩, hbo, hte1, hte2⟩ := hD'
  have h12 := (hT.2 t ht).1.2
  unfold F_X9_cutFits
  refine zc_cutFor hT hD hdm ht hv (fun o s m hosm => ?_)
  have lenK : ∀ {post : Int32 → Prop}, post (nI (z_sum (z_cL ne te v pt bt t) (z_nt nts t))) → F_X2_lengthOfAll (nI (z_nt nts t)) s m post := by
    intro post hp
    have key : ∀ k i : Nat, i + k = z_nt nts t → L_X2_lengthOfAll_4 (nI (z_nt nts t)) s m post (k + 1) (nI (z_sum (z_cL ne te v pt bt t) i)) (nI i) := by
      intro k
      induction k with
      | zero =>
        intro i hi
        rw [L_X2_lengthOfAll_4]
        refine pk_le (z_nt nts t) i (fun _ => ?_) (fun e => by omega)
        rw [show i = z_nt nts t by omega]; exact hp
      | succ k ih =>
        intro i hi
        rw [L_X2_lengthOfAll_4]
        refine pk_le (z_nt nts t) i (fun e => by omega) (fun _ => zc_spOf h12 (by omega) (zc_tmOf h12 (by omega) ?_))
        rw [(hosm i (by omega)).2.1, (hosm i (by omega)).2.2, pk_mul]
        exact nm_r (nI_add _ _) (nm_r (nI_1 i) (ih (i + 1) (by omega)))
    exact ⟨_, key (z_nt nts t) 0 (by omega)⟩
  have offK : ∀ {post : Int32 → Prop}, post (nI (z_mx (z_cO ne v pt t) (z_nt nts t))) → F_X2_worstOff (nI (z_nt nts t)) o post := by
    intro post hp
    have key : ∀ k i : Nat, i + k = z_nt nts t → L_X2_worstOff_4 (nI (z_nt nts t)) o post (k + 1) (nI (z_mx (z_cO ne v pt t) i)) (nI i) := by
      intro k
      induction k with
      | zero =>
        intro i hi
        rw [L_X2_worstOff_4]
        refine pk_le (z_nt nts t) i (fun _ => ?_) (fun e => by omega)
        rw [show i = z_nt nts t by omega]; exact hp
      | succ k ih =>
        intro i hi
        have b1 := z_mx_b (z_cO_b ne v pt t) i
        have b2 := z_cO_b ne v pt t i
        rw [L_X2_worstOff_4]
        refine pk_le (z_nt nts t) i (fun e => by omega) (fun _ => zc_ofOf h12 (by omega) ?_)
        rw [(hosm i (by omega)).1]
        exact nm_r (z_maxI (by omega) (by omega)) (nm_r (nI_1 i) (ih (i + 1) (by omega)))
    exact ⟨_, key (z_nt nts t) 0 (by omega)⟩
  have b1 := z_sum_le (f := z_cL ne te v pt bt t) (b := 3600) (z_nt nts t) (fun i _ => z_cL_b hne1 hne2 pt bt t i)
  have b2 := z_mx_b (z_cO_b ne v pt t) (z_nt nts t)
  refine lenK (zc_asked (k := 0) (by decide) ?_)
  rw [hdm.1]
  refine pk_lt al _ (fun e => h0 (decide_eq_false (fun f => by omega)) _ _ _ _) (fun e => offK (zc_asked (k := 2) (by decide) ?_)) rfl rfl (by omega) (by omega)
  rw [hdm.2.2.1]
  exact pk_lt bo _ (fun e2 => h0 (decide_eq_false (fun f => by omega)) _ _ _ _) (fun e2 => h1 (decide_eq_true ⟨e, e2⟩) _ _ _ _) rfl rfl (by omega) (by omega)
theorem z_mx_ge {f : Nat → Nat} {i : Nat} : ∀ {n : Nat}, i < n → f i ≤ z_mx f n
  | 0, h => by omega
  | n + 1, h => by
    by_cases e : i = n
    · subst e; exact Nat.le_max_right _ _
    · exact Nat.le_trans (z_mx_ge (by omega)) (Nat.le_max_left _ _)
theorem zm_isFit (hT : z_VT T bt nts pt) (hD : z_VD al ne bo te) {t v : Nat} (ht : t < T) (hv : v ≤ 99) {a b c : Nat → Int32} {post : Int32 → (Nat → Int32) → (Nat → Int32) → (Nat → Int32) → Prop} (h1 : z_fit al ne bo te v nts pt bt t = true → ∀ a b c, post 1 a b c) (h0 : z_fit al ne bo te v nts pt bt t = false → ∀ a b c, post 0 a b c) : F_X10_isFit (nI al) (nI ne) (nI bo) (nI te) bt a b c nts pt (nI t) (nI v) post := by
  have hD' := hD
  obtain ⟨⟨hal1, hal2⟩, ⟨hne1, hne2⟩, hbo, hte1, hte2⟩ := hD'
  have h12 := (hT.2 t ht).1.2
  have hT1 := hT.1
  unfold F_X10_isFit
  refine zm_cuts hT hD ht hv (fun o s m hosm => ?_)
  have b1 := fun i => z_sum_le (f := z_cL ne te v pt bt t) (b := 3600) i (fun i _ => z_cL_b hne1 hne2 pt bt t i)
  have key : ∀ k i : Nat, i + k = z_nt nts t → z_mx (z_cO ne v pt t) i ≤ bo → L_X10_isFit_11 (nI al) (nI bo) nts (nI t) o s m post (k + 1) (nI (z_sum (z_cL ne te v pt bt t) i)) (nI i) := by
    intro k
    induction k with
    | zero =>
      intro i hi hm
      have b2 := b1 i
      rw [L_X10_isFit_11, show (nI t).toNatClampNeg = t from nI_clamp (by omega), (hT.2 t ht).1.1]
      have ei : i = z_nt nts t := by omega
      refine ⟨vp_in_nI (by omega) (by decide), pk_le (z_nt nts t) i (fun _ => pk_lt al _ (fun e => h0 (decide_eq_false (fun f => ?_)) _ _ _) (fun e => h1 (decide_eq_true ⟨?_, ?_⟩) _ _ _) rfl rfl (by omega) (by omega)) (fun e => by omega)⟩
      · rw [← ei] at f; omega
      · rw [← ei]; exact e
      · rw [← ei]; exact hm
    | succ k ih =>
      intro i hi hm
      have b2 := b1 i
      have b3 := z_cO_b ne v pt t i
      rw [L_X10_isFit_11, show (nI t).toNatClampNeg = t from nI_clamp (by omega), (hT.2 t ht).1.1, show (nI i).toNatClampNeg = i from nI_clamp (by omega), (hosm i (by omega)).1, (hosm i (by omega)).2.1, (hosm i (by omega)).2.2, pk_mul]
      refine ⟨vp_in_nI (by omega) (by decide), pk_le (z_nt nts t) i (fun e => by omega) (fun _ => ⟨vp_in_nI (by omega) (by decide), pk_le (z_cO ne v pt t i) bo (fun e => ⟨vp_in_nI (by omega) (by decide), vp_in_nI (by omega) (by decide), nm_r (nI_add _ _) (nm_r (nI_1 i) (ih (i + 1) (by omega) (Nat.max_le.mpr ⟨hm, e⟩)))⟩) (fun e => h0 (decide_eq_false (fun f => ?_)) _ _ _)⟩)⟩
      have := z_mx_ge (f := z_cO ne v pt t) (i := i) (n := z_nt nts t) (by omega)
      omega
  exact ⟨_, key (z_nt nts t) 0 (by omega) (Nat.zero_le _)⟩
theorem p_29 (hT : z_VT T bt nts pt) (hD : z_VD al ne bo te) (hdm : z_dm dm al ne bo te) {a b c : Nat → Int32} {xn : Int32} {xa xb xc : Nat → Int32} {post : (Nat → Int32) → (Nat → Int32) → (Nat → Int32) → (Nat → Int32) → Int32 → (Nat → Int32) → (Nat → Int32) → (Nat → Int32) → (Nat → Int32) → Prop} (h : ∀ a b c R n d e f, post a b c R n d e f R) : O_29 (nI T) (nI al) (nI ne) (nI bo) (nI te) bt a b c nts pt ref xn xa xb xc ref dm (nI T) bt nts pt s1 s2 s3 s4 s5 post := by
  have hT1 := hT.1
  unfold O_29 F_X9_fits
  refine zo_rta hT1 (fun c => br_f (by decide) (z_r1 ?_)) (fun t ht e c => br_f (by decide) (z_r6 ?_)) (fun t v ht e hv1 hv2 e2 => z_b0 ?_)
  · unfold F_X10_fits
    exact zf_mTune hT1 c (z_b0 (z_n1 (z_eq (h _ _ _ _ _ _ _ _))))
  · subst e
    unfold F_X10_fits
    exact zt_mTune hT1 ht (z_b1 (zmf_isSpeed c (z_b0 (z_n6 (z_eq (h _ _ _ _ _ _ _ _))))))
  · subst e e2
    refine zc_cutFits hT hD hdm ht hv2 (fun f n d1 d2 d3 => z_b1 ?_) (fun f n d1 d2 d3 => z_b0 ?_)
    · unfold F_X10_fits
      exact zt_mTune hT1 ht (z_b1 (zmt_isSpeed (z_spd1 hv1 hv2) (z_spd2 hv2) (z_b1 (zm_isFit hT hD ht hv2 (fun _ _ _ _ => z_b1 (z_eq (h _ _ _ _ _ _ _ _))) (fun g => absurd (f.symm.trans g) (by decide))))))
    · unfold F_X10_fits
      exact zt_mTune hT1 ht (z_b1 (zmt_isSpeed (z_spd1 hv1 hv2) (z_spd2 hv2) (z_b1 (zm_isFit hT hD ht hv2 (fun g => absurd (g.symm.trans f) (by decide)) (fun _ _ _ _ => z_b0 (z_eq (h _ _ _ _ _ _ _ _)))))))
theorem p_30 (hT : z_VT T bt nts pt) (hD : z_VD al ne bo te) (hdm : z_dm dm al ne bo te) {a b c : Nat → Int32} {xn : Int32} {xa xb xc : Nat → Int32} {post : (Nat → Int32) → (Nat → Int32) → (Nat → Int32) → (Nat → Int32) → Int32 → (Nat → Int32) → (Nat → Int32) → (Nat → Int32) → (Nat → Int32) → Prop} (h : ∀ a b c R n d e f, post a b c R n d e f R) : O_30 (nI T) (nI al) (nI ne) (nI bo) (nI te) bt a b c nts pt ref xn xa xb xc ref dm (nI T) bt nts pt s1 s2 s3 s4 s5 post := by
  have hT1 := hT.1
  unfold O_30 F_X9_can
  refine zo_isSpeed (fun c => z_b0 (z_r6 ?_)) (fun c1 c2 => z_b1 ?_)
  · unfold F_X10_can
    exact zmf_isSpeed c (z_b0 (z_n6 (z_eq (h _ _ _ _ _ _ _ _))))
  · obtain ⟨v, hv1, hv2, rfl⟩ := z_rng 1 99 c1 c2 (by decide) (by decide)
    have cls : ∀ {post : Int32 → Int32 → (Nat → Int32) → (Nat → Int32) → (Nat → Int32) → (Nat → Int32) → Prop}, (∀ n d e f, post (z_bits (z_fit al ne bo te v nts pt bt) T) n d e f ref) → ∀ (k i : Nat) (n : Int32) (d e f : Nat → Int32), i + k = T → L_X9_can_18 dm (nI T) bt nts pt (nI v) ref post (k + 1) (z_bits (z_fit al ne bo te v nts pt bt) i) (nI i) n d e f := by
      intro post hp k
      induction k with
      | zero =>
        intro i n d e f hi
        rw [L_X9_can_18]
        unfold F_X8_count
        refine pk_le T i (fun _ => ?_) (fun e => by omega)
        rw [show i = T by omega]; exact hp _ _ _ _
      | succ k ih =>
        intro i n d e f hi
        rw [L_X9_can_18]
        unfold F_X8_count F_X9_can_47
        refine pk_le T i (fun e => by omega) (fun _ => zc_cutFits hT hD hdm (by omega) hv2 (fun g n d e f => z_b1 (nm_e (nm_r (nI_1 i) ?_))) (fun g n d e f => z_b0 (nm_r (nI_1 i) ?_)))
        · have := ih (i + 1) n d e f (by omega)
          rw [z_bits_t g] at this; exact this
        · have := ih (i + 1) n d e f (by omega)
          rw [z_bits_f g] at this; exact this
    have mod : ∀ {post : Int32 → (Nat → Int32) → (Nat → Int32) → (Nat → Int32) → (Nat → Int32) → Prop}, (∀ d e f, post (z_bits (z_fit al ne bo te v nts pt bt) T) d e f ref) → ∀ (k i : Nat) (d e f : Nat → Int32), i + k = T → L_X10_can_19 (nI T) (nI al) (nI ne) (nI bo) (nI te) bt nts pt (nI v) ref post (k + 1) (z_bits (z_fit al ne bo te v nts pt bt) i) (nI i) d e f := by
      intro post hp k
      induction k with
      | zero =>
        intro i d e f hi
        rw [L_X10_can_19]
        refine pk_le T i (fun _ => ?_) (fun e => by omega)
        rw [show i = T by omega]; exact hp _ _ _
      | succ k ih =>
        intro i d e f hi
        rw [L_X10_can_19]
        unfold F_X10_can_42
        refine pk_le T i (fun e => by omega) (fun _ => zm_isFit hT hD (by omega) hv2 (fun g d e f => z_b1 (nm_e (nm_r (nI_1 i) ?_))) (fun g d e f => z_b0 (nm_r (nI_1 i) ?_)))
        · have := ih (i + 1) d e f (by omega)
          rw [z_bits_t g] at this; exact this
        · have := ih (i + 1) d e f (by omega)
          rw [z_bits_f g] at this; exact this
    refine ⟨T + 1, cls (fun n d e f => ?_) T 0 _ _ _ _ (by omega)⟩
    unfold F_X10_can
    exact zmt_isSpeed c1 c2 (z_b1 ⟨T + 1, mod (fun d e f => z_eq (h _ _ _ _ _ _ _ _)) T 0 _ _ _ (by omega)⟩)
/-! served -/
def z_miss (bo vc : Nat) (S P : Nat → Nat) (i : Nat) : Bool := decide (P i ≠ 0 ∧ bo < z_off (704 * vc / S i) (P i))
def z_srv (ne bo v : Nat) (nts pt sh spd : Nat → Int32) (t c : Nat) : Nat := if z_any (z_miss bo (z_tn (spd c)) (z_cS ne v pt t) (z_pt pt t)) (z_nt nts t) = true then 0 else z_tn (sh c)
theorem z_srv_b (hC : z_VC C bs sh spd) {v t : Nat} : ∀ c, c ≤ C → z_sum (z_srv ne bo v nts pt sh spd t) c ≤ z_sum (fun i => z_tn (sh i)) c
  | 0, _ => Nat.le_refl _
  | c + 1, hc => by
    have h1 := z_srv_b hC (v := v) (t := t) c (by omega)
    have h2 : z_srv ne bo v nts pt sh spd t c ≤ z_tn (sh c) := by
      unfold z_srv
      split <;> omega
    show z_sum (z_srv ne bo v nts pt sh spd t) c + z_srv ne bo v nts pt sh spd t c ≤ z_sum (fun i => z_tn (sh i)) c + z_tn (sh c)
    omega
theorem z_srv_100 (hC : z_VC C bs sh spd) {v t c : Nat} (hc : c ≤ C) : z_sum (z_srv ne bo v nts pt sh spd t) c ≤ 100 := Nat.le_trans (z_srv_b hC c hc) (z_ssum_b hC hc)
theorem zc_heardAt (hT : z_VT T bt nts pt) (hD : z_VD al ne bo te) (hdm : z_dm dm al ne bo te) {t v vc : Nat} (ht : t < T) (hvc : vc ≤ 99) {s : Nat → Int32} (hs : ∀ i, i < z_nt nts t → s i = nI (z_cS ne v pt t i)) {post : Int32 → Prop} (h1 : z_any (z_miss bo vc (z_cS ne v pt t) (z_pt pt t)) (z_nt nts t) = false → post 1) (h0 : z_any (z_miss bo vc (z_cS ne v pt t) (z_pt pt t)) (z_nt nts t) = true → post 0) : F_X2_isHeardAt (nI (z_nt nts t)) dm (nI T) nts pt s (nI t) (nI vc) post := by
  obtain ⟨⟨hal1, hal2⟩, ⟨hne1, hne2⟩, hbo, hte1, hte2⟩ := hD
  have h12 := (hT.2 t ht).1.2
  have key : ∀ k i : Nat, i + k = z_nt nts t → z_any (z_miss bo vc (z_cS ne v pt t) (z_pt pt t)) i = false → L_X2_isHeardAt_3 (nI (z_nt nts t)) dm (nI T) nts pt s (nI t) (nI vc) post (k + 1) (nI i) := by
    intro k
    induction k with
    | zero =>
      intro i hi hf
      rw [L_X2_isHeardAt_3]
      refine pk_le (z_nt nts t) i (fun _ => h1 ?_) (fun e => by omega)
      rw [show z_nt nts t = i by omega]; exact hf
    | succ k ih =>
      intro i hi hf
      have hp := ((hT.2 t ht).2 i (by omega)).1
      have hb := z_cS_b (v := v) hne1 hne2 pt t i
      have hq := z_div_le (704 * vc) (z_cS ne v pt t i)
      have ho := z_off_b (704 * vc / z_cS ne v pt t i) (z_pt pt t i)
      rw [L_X2_isHeardAt_3]
      unfold F_X2_isHeardAt_54
      refine pk_le (z_nt nts t) i (fun e => by omega) (fun _ => zc_pitchOf hT ht (by omega) (pk_eq (z_pt pt t i) 0 (fun e => nm_r (nI_1 i) (ih (i + 1) (by omega) (z_any_s hf (decide_eq_false (fun f => f.1 e))))) (fun e => zc_spOf h12 (by omega) ?_)))
      rw [hs i (by omega)]
      refine zc_humBy (by omega) (by omega) hvc (zc_off (by omega) (by omega) (zc_asked (k := 2) (by decide) ?_))
      rw [hdm.2.2.1]
      exact pk_le _ bo (fun e2 => nm_r (nI_1 i) (ih (i + 1) (by omega) (z_any_s hf (decide_eq_false (fun f => by omega))))) (fun e2 => h0 (z_any_of (i := i) (decide_eq_true ⟨e, e2⟩) (by omega))) rfl rfl (by omega) (by omega)
  exact ⟨_, key (z_nt nts t) 0 (by omega) rfl⟩
theorem zc_shareServed (hC : z_VC C bs sh spd) (hT : z_VT T bt nts pt) (hD : z_VD al ne bo te) (hdm : z_dm dm al ne bo te) {t v : Nat} (ht : t < T) (hv : v ≤ 99) {nc : Int32} {offs spaces : Nat → Int32} {post : Int32 → Int32 → (Nat → Int32) → (Nat → Int32) → Prop} (h : ∀ n a b, post (nI (z_sum (z_srv ne bo v nts pt sh spd t) C)) n a b) : F_X9_shareServed nc offs spaces (nI C) sh spd dm (nI T) nts pt (nI t) (nI v) post := by
  have hC1 := hC.1
  unfold F_X9_shareServed
  refine zc_chooseSpaces hT hD hdm ht hv (fun o s hos => ?_)
  have key : ∀ k i : Nat, i + k = C → L_X9_shareServed_18 (nI C) sh spd dm (nI T) nts pt (nI t) (nI (z_nt nts t)) o s post (k + 1) (nI (z_sum (z_srv ne bo v nts pt sh spd t) i)) (nI i) := by
    intro k
    induction k with
    | zero =>
      intro i hi
      rw [L_X9_shareServed_18]
      unfold F_X1_count
      refine pk_le C i (fun _ => ?_) (fun e => by omega)
      rw [show i = C by omega]; exact h _ _ _
    | succ k ih =>
      intro i hi
      obtain ⟨ev, hv1, hv2⟩ := hC.spd (c := i) (by omega)
      obtain ⟨es, hsh⟩ := hC.shr (c := i) (by omega)
      have ih1 := ih (i + 1) (by omega)
      have eadd : z_any (z_miss bo (z_tn (spd i)) (z_cS ne v pt t) (z_pt pt t)) (z_nt nts t) = false → nI (z_sum (z_srv ne bo v nts pt sh spd t) i) + sh i = nI (z_sum (z_srv ne bo v nts pt sh spd t) (i + 1)) := fun f => by
        rw [es, nI_add]
        show _ = nI (z_sum (z_srv ne bo v nts pt sh spd t) i + z_srv ne bo v nts pt sh spd t i)
        rw [show z_srv ne bo v nts pt sh spd t i = z_tn (sh i) by unfold z_srv; rw [if_neg (by rw [f]; decide)]]
      rw [L_X9_shareServed_18]
      unfold F_X1_count F_X9_shareServed_75
      refine pk_le C i (fun e => by omega) (fun _ => zc_speedOf hC1 (by omega) ?_)
      rw [ev]
      refine zc_heardAt hT hD hdm ht hv2 (fun j hj => (hos j hj).2) (fun f => z_b1 (zc_shareOf hC1 (by omega) (nm_r (eadd f) (nm_r (nI_1 i) ih1)))) (fun f => z_b0 (nm_r (nI_1 i) ?_))
      · have e2 : z_sum (z_srv ne bo v nts pt sh spd t) (i + 1) = z_sum (z_srv ne bo v nts pt sh spd t) i := by
          show _ + z_srv ne bo v nts pt sh spd t i = _
          rw [show z_srv ne bo v nts pt sh spd t i = 0 from if_pos f]
          rfl
        rw [e2] at ih1
        exact ih1
  exact ⟨_, key C 0 (by omega)⟩
theorem zm_servedBy (hC : z_VC C bs sh spd) (hT : z_VT T bt nts pt) (hD : z_VD al ne bo te) {t v : Nat} (ht : t < T) (hv : v ≤ 99) {a b c : Nat → Int32} {post : Int32 → (Nat → Int32) → (Nat → Int32) → (Nat → Int32) → Prop} (h : ∀ a b c, post (nI (z_sum (z_srv ne bo v nts pt sh spd t) C)) a b c) : F_X10_servedBy (nI C) (nI ne) (nI bo) (nI te) bt a b c nts pt sh spd (nI t) (nI v) post := by
  have hC1 := hC.1
  have hT1 := hT.1
  have hD' := hD
  obtain ⟨⟨hal1, hal2⟩, ⟨hne1, hne2⟩, hbo, hte1, hte2⟩ := hD'
  have h12 := (hT.2 t ht).1.2
  unfold F_X10_servedBy
  refine zm_cuts hT hD ht hv (fun o s m hosm => ?_)
  have inner : ∀ (ci : Nat) (x3 : Int32) (k109 : Int32 → Prop), ci < C → (z_any (z_miss bo (z_tn (spd ci)) (z_cS ne v pt t) (z_pt pt t)) (z_nt nts t) = false → k109 1) → (z_any (z_miss bo (z_tn (spd ci)) (z_cS ne v pt t) (z_pt pt t)) (z_nt nts t) = true → k109 0) → ∀ k i : Nat, i + k = z_nt nts t → z_any (z_miss bo (z_tn (spd ci)) (z_cS ne v pt t) (z_pt pt t)) i = false → L_X10_servedBy_26 (nI bo) nts pt spd (nI t) x3 (nI ci) o s m k109 (k + 2) 1 (nI i) := by
    intro ci x3 k109 hci g1 g0 k
    obtain ⟨ev, hv1, hv2⟩ := hC.spd hci
    generalize z_tn (spd ci) = vc at ev hv1 hv2 g1 g0
    induction k with
    | zero =>
      intro i hi hf
      rw [L_X10_servedBy_26, show (nI t).toNatClampNeg = t from nI_clamp (by omega), (hT.2 t ht).1.1]
      refine ⟨vp_in_nI (by omega) (by decide), pk_le (z_nt nts t) i (fun _ => g1 ?_) (fun e => by omega)⟩
      rw [show z_nt nts t = i by omega]; exact hf
    | succ k ih =>
      intro i hi hf
      have hp := ((hT.2 t ht).2 i (by omega)).1
      have hb := z_cS_b (v := v) hne1 hne2 pt t i
      have hq := z_div_le (704 * vc) (z_cS ne v pt t i)
      have ho := z_off_b (704 * vc / z_cS ne v pt t i) (z_pt pt t i)
      have bad : (z_pt pt t i ≠ 0 ∧ bo < z_off (704 * vc / z_cS ne v pt t i) (z_pt pt t i)) → L_X10_servedBy_26 (nI bo) nts pt spd (nI t) x3 (nI ci) o s m k109 (k + 2) 0 (nI (i + 1)) := fun f => by
        have g := g0 (z_any_of (i := i) (decide_eq_true f) (by omega))
        rw [L_X10_servedBy_26, show (nI t).toNatClampNeg = t from nI_clamp (by omega)]
        exact ⟨vp_in_nI (by omega) (by decide), fun _ => g, fun _ => br_t rfl g⟩
      have good : ¬ (z_pt pt t i ≠ 0 ∧ bo < z_off (704 * vc / z_cS ne v pt t i) (z_pt pt t i)) → L_X10_servedBy_26 (nI bo) nts pt spd (nI t) x3 (nI ci) o s m k109 (k + 2) 1 (nI (i + 1)) := fun f => ih (i + 1) (by omega) (z_any_s hf (decide_eq_false f))
      rw [L_X10_servedBy_26, show (nI t).toNatClampNeg = t from nI_clamp (by omega), (hT.2 t ht).1.1, z_ix12, nI_clamp (by omega), hp.1, show (nI i).toNatClampNeg = i from nI_clamp (by omega), (hosm i (by omega)).2.1, show (nI ci).toNatClampNeg = ci from nI_clamp (by omega), ev]
      unfold F_X10_servedBy_84 F_X10_servedBy_101
      refine ⟨vp_in_nI (by omega) (by decide), pk_le (z_nt nts t) i (fun e => by omega) (fun _ => br_f (by decide) ⟨vp_in_nI (by omega) (by decide), nm_e (pk_eq (z_pt pt t i) 0 (fun e => zm_off (hh := 0) (by omega) (by omega) ?_) (fun e => ⟨vp_in_nI (by omega) (by decide), vp_in_nI (by omega) (by decide), zm_humBy (by omega) (by omega) hv2 (zm_off (by omega) (by omega) ?_)⟩))⟩)⟩
      · rw [e, show z_off 0 0 = 0 from rfl]
        exact br_f (nI_nlt (b := 0) (Nat.zero_le _) (by omega)) (nm_r (nI_1 i) (good (fun f => f.1 e)))
      · exact pk_lt bo _ (fun e2 => nm_r (nI_1 i) (bad ⟨e, e2⟩)) (fun e2 => nm_r (nI_1 i) (good (fun f => by omega))) rfl rfl (by omega) (by omega)
  have key : ∀ k i : Nat, i + k = C → L_X10_servedBy_11 (nI C) (nI bo) nts pt sh spd (nI t) o s m post (k + 1) (nI (z_sum (z_srv ne bo v nts pt sh spd t) i)) (nI i) := by
    intro k
    induction k with
    | zero =>
      intro i hi
      rw [L_X10_servedBy_11]
      refine pk_le C i (fun _ => ?_) (fun e => by omega)
      rw [show i = C by omega]; exact h _ _ _
    | succ k ih =>
      intro i hi
      obtain ⟨es, hsh⟩ := hC.shr (c := i) (by omega)
      have ih1 := ih (i + 1) (by omega)
      have eadd : z_any (z_miss bo (z_tn (spd i)) (z_cS ne v pt t) (z_pt pt t)) (z_nt nts t) = false → nI (z_sum (z_srv ne bo v nts pt sh spd t) i) + sh i = nI (z_sum (z_srv ne bo v nts pt sh spd t) (i + 1)) := fun f => by
        rw [es, nI_add]
        show _ = nI (z_sum (z_srv ne bo v nts pt sh spd t) i + z_srv ne bo v nts pt sh spd t i)
        rw [show z_srv ne bo v nts pt sh spd t i = z_tn (sh i) by unfold z_srv; rw [if_neg (by rw [f]; decide)]]
      rw [L_X10_servedBy_11]
      unfold F_X10_servedBy_109 F_X10_servedBy_124
      rw [show (nI i).toNatClampNeg = i from nI_clamp (by omega)]
      refine pk_le C i (fun e => by omega) (fun _ => ⟨z_nt nts t + 2, inner i _ _ (by omega) (fun f => z_b1 ⟨vp_in_nI (by omega) (by decide), nm_r (eadd f) (nm_r (nI_1 i) ih1)⟩) (fun f => z_b0 (nm_r (nI_1 i) ?_)) (z_nt nts t) 0 (by omega) rfl⟩)
      · have e2 : z_sum (z_srv ne bo v nts pt sh spd t) (i + 1) = z_sum (z_srv ne bo v nts pt sh spd t) i := by
          show _ + z_srv ne bo v nts pt sh spd t i = _
          rw [show z_srv ne bo v nts pt sh spd t i = 0 from if_pos f]
          rfl
        rw [e2] at ih1
        exact ih1
  exact ⟨_, key C 0 (by omega)⟩
theorem p_31 (hC : z_VC C bs sh spd) (hT : z_VT T bt nts pt) (hD : z_VD al ne bo te) (hdm : z_dm dm al ne bo te) {a b c : Nat → Int32} {xn : Int32} {xa xb : Nat → Int32} {post : (Nat → Int32) → (Nat → Int32) → (Nat → Int32) → (Nat → Int32) → Int32 → (Nat → Int32) → (Nat → Int32) → (Nat → Int32) → Prop} (h : ∀ a b c R n d e, post a b c R n d e R) : O_31 (nI C) (nI T) (nI ne) (nI bo) (nI te) bt a b c nts pt ref sh spd xn xa xb ref (nI C) sh spd dm (nI T) nts pt s1 s2 s3 s4 s5 post := by
  have hT1 := hT.1
  unfold O_31 F_X9_served
  refine zo_rta hT1 (fun c => br_f (by decide) (z_r1 ?_)) (fun t ht e c => br_f (by decide) (z_r6 ?_)) (fun t v ht e hv1 hv2 e2 => z_b0 ?_)
  · unfold F_X10_served
    exact zf_mTune hT1 c (z_b0 (z_n1 (z_eq (h _ _ _ _ _ _ _))))
  · subst e
    unfold F_X10_served
    exact zt_mTune hT1 ht (z_b1 (zmf_isSpeed c (z_b0 (z_n6 (z_eq (h _ _ _ _ _ _ _))))))
  · subst e e2
    refine zc_shareServed hC hT hD hdm ht hv2 (fun n d1 d2 => ?_)
    unfold F_X10_served
    exact zt_mTune hT1 ht (z_b1 (zmt_isSpeed (z_spd1 hv1 hv2) (z_spd2 hv2) (z_b1 (zm_servedBy hC hT hD ht hv2 (fun _ _ _ => z_eq (h _ _ _ _ _ _ _))))))
/-! best -/
def z_bt1 (f : Nat → Nat) (v : Nat) (st : Nat × Nat) : Nat × Nat := if st.2 < f v then (v, f v) else st
theorem p_32 (hC : z_VC C bs sh spd) (hT : z_VT T bt nts pt) (hD : z_VD al ne bo te) (hdm : z_dm dm al ne bo te) {a b c : Nat → Int32} {xn : Int32} {xa xb : Nat → Int32} {post : (Nat → Int32) → (Nat → Int32) → (Nat → Int32) → (Nat → Int32) → Int32 → (Nat → Int32) → (Nat → Int32) → (Nat → Int32) → Prop} (h : ∀ a b c R n d e, post a b c R n d e R) : O_32 (nI C) (nI T) (nI ne) (nI bo) (nI te) bt a b c nts pt ref sh spd xn xa xb ref (nI C) sh spd dm (nI T) nts pt s1 s2 s3 s4 s5 post := by
  have hT1 := hT.1
  unfold O_32 F_X9_best
  refine zo_X8has hT1 (fun c => z_b0 (z_r1 ?_)) (fun t ht e => z_b1 ?_)
  · unfold F_X10_best
    exact zf_mTune hT1 c (z_b0 (z_n1 (z_eq (h _ _ _ _ _ _ _))))
  · subst e
    have cls : ∀ {post : Int32 → Int32 → (Nat → Int32) → (Nat → Int32) → (Nat → Int32) → Prop} (k v : Nat) (st : Nat × Nat) (n : Int32) (d e : Nat → Int32), v + k = 100 → 1 ≤ v → st.1 ≤ 100 → st.2 ≤ 100 → (∀ n d e, post (nI (z_it (z_bt1 (fun v => z_sum (z_srv ne bo v nts pt sh spd t) C)) k v st).1) n d e ref) → L_X9_best_27 (nI C) sh spd dm (nI T) nts pt (nI t) ref post (k + 1) (nI st.1) (nI st.2) (nI v) n d e := by
      intro post k
      induction k with
      | zero =>
        intro v st n d e hv h1 h2 h3 hp
        rw [L_X9_best_27]
        exact pk_lt 99 v (fun _ => hp _ _ _) (fun e => by omega)
      | succ k ih =>
        intro v st n d e hv h1 h2 h3 hp
        have hb := z_srv_100 (ne := ne) (bo := bo) (nts := nts) (pt := pt) hC (v := v) (t := t) (Nat.le_refl C)
        rw [z_it] at hp
        rw [L_X9_best_27]
        unfold F_X9_best_55
        refine pk_lt 99 v (fun e => by omega) (fun _ => zc_shareServed hC hT hD hdm ht (by omega) (fun n d e => pk_le _ st.2 (fun f => nm_r (nI_1 v) (ih (v + 1) st n d e (by omega) (by omega) h2 h3 ?_)) (fun f => nm_r (nI_1 v) (ih (v + 1) (v, z_sum (z_srv ne bo v nts pt sh spd t) C) n d e (by omega) (by omega) (show v ≤ 100 by omega) hb ?_)) rfl rfl (by omega) (by omega)))
        · rw [show z_bt1 (fun v => z_sum (z_srv ne bo v nts pt sh spd t) C) v st = st from if_neg (by show ¬ st.2 < z_sum (z_srv ne bo v nts pt sh spd t) C; omega)] at hp
          exact hp
        · rw [show z_bt1 (fun v => z_sum (z_srv ne bo v nts pt sh spd t) C) v st = (v, z_sum (z_srv ne bo v nts pt sh spd t) C) from if_pos f] at hp
          exact hp
    have mod : ∀ {post : Int32 → (Nat → Int32) → (Nat → Int32) → (Nat → Int32) → (Nat → Int32) → Prop} (k v : Nat) (st : Nat × Nat) (d e f : Nat → Int32), v + k = 100 → 1 ≤ v → st.1 ≤ 100 → st.2 ≤ 100 → (∀ d e f, post (nI (z_it (z_bt1 (fun v => z_sum (z_srv ne bo v nts pt sh spd t) C)) k v st).1) d e f ref) → L_X10_best_26 (nI C) (nI ne) (nI bo) (nI te) bt nts pt sh spd (nI t) ref post (k + 1) (nI st.1) (nI st.2) (nI v) d e f := by
      intro post k
      induction k with
      | zero =>
        intro v st n d e hv h1 h2 h3 hp
        rw [L_X10_best_26]
        exact pk_le 100 v (fun _ => hp _ _ _) (fun e => by omega)
      | succ k ih =>
        intro v st n d e hv h1 h2 h3 hp
        have hb := z_srv_100 (ne := ne) (bo := bo) (nts := nts) (pt := pt) hC (v := v) (t := t) (Nat.le_refl C)
        rw [z_it] at hp
        rw [L_X10_best_26]
        unfold F_X10_best_57
        refine pk_le 100 v (fun e => by omega) (fun _ => zm_servedBy hC hT hD ht (by omega) (fun n d e => pk_lt st.2 _ (fun f => nm_r (nI_1 v) (ih (v + 1) (v, z_sum (z_srv ne bo v nts pt sh spd t) C) n d e (by omega) (by omega) (show v ≤ 100 by omega) hb ?_)) (fun f => nm_r (nI_1 v) (ih (v + 1) st n d e (by omega) (by omega) h2 h3 ?_)) rfl rfl (by omega) (by omega)))
        · rw [show z_bt1 (fun v => z_sum (z_srv ne bo v nts pt sh spd t) C) v st = (v, z_sum (z_srv ne bo v nts pt sh spd t) C) from if_pos f] at hp
          exact hp
        · rw [show z_bt1 (fun v => z_sum (z_srv ne bo v nts pt sh spd t) C) v st = st from if_neg (by show ¬ st.2 < z_sum (z_srv ne bo v nts pt sh spd t) C; omega)] at hp
          exact hp
    have hb := z_srv_100 (ne := ne) (bo := bo) (nts := nts) (pt := pt) hC (v := 1) (t := t) (Nat.le_refl C)
    refine ⟨100, ?_⟩
    rw [L_X9_best_27]
    unfold F_X9_best_55
    refine br_f (by decide) (zc_shareServed (v := 1) hC hT hD hdm ht (by decide) (fun n d e => br_f (fun f => ?_) (nm_r (e' := nI 2) (by decide) (cls 98 2 (1, z_sum (z_srv ne bo 1 nts pt sh spd t) C) n d e (by omega) (by omega) (show 1 ≤ 100 by omega) hb (fun n d e => ?_)))))
    · rw [Int32.le_iff_toInt_le, nI_toInt (by omega)] at f
      have h9 : (-1 : Int32).toInt = -1 := by decide
      omega
    · unfold F_X10_best
      exact zt_mTune hT1 ht (z_b1 (zm_servedBy (v := 1) hC hT hD ht (by decide) (fun d e f => ⟨99, mod 98 2 (1, z_sum (z_srv ne bo 1 nts pt sh spd t) C) d e f (by omega) (by omega) (show 1 ≤ 100 by omega) hb (fun _ _ _ => z_eq (h _ _ _ _ _ _ _))⟩)))
/-! two -/
def z_both (bo v w p q s : Nat) : Bool := decide (z_off (704 * v / s) p ≤ bo ∧ z_off (704 * w / s) q ≤ bo)
def z_one (ne bo v w p q : Nat) : Bool := if p = 0 ∧ q = 0 then true else if p = 0 ∨ q = 0 then false else decide (z_ff (z_both bo v w p q) (61 - ne) ne < 61)
theorem z_off0 {v s : Nat} (hv : 1 ≤ v) (hs1 : 1 ≤ s) (hs : s ≤ 60) : z_off (704 * v / s) 0 = 999 := by
  have h1 : 1 ≤ 704 * v / s := (Nat.le_div_iff_mul_le (by omega)).mpr (by omega)
  unfold z_off
  rw [if_pos rfl, if_neg (by omega)]
theorem zc_haveOne {p q v w : Nat} (hD : z_VD al ne bo te) (hdm : z_dm dm al ne bo te) (hp : p ≤ 9999) (hq : q ≤ 9999) (hv1 : 1 ≤ v) (hv2 : v ≤ 99) (hw1 : 1 ≤ w) (hw2 : w ≤ 99) {post : Int32 → Prop} (h1 : z_one ne bo v w p q = true → post 1) (h0 : z_one ne bo v w p q = false → post 0) : F_X9_haveOneSpace dm (nI p) (nI v) (nI q) (nI w) post := by
  obtain ⟨⟨hal1, hal2⟩, ⟨hne1, hne2⟩, hbo, hte1, hte2⟩ := hD
  have loop : ∀ k s : Nat, s + k = 61 → 1 ≤ s → (z_ff (z_both bo v w p q) k s < 61 → post 1) → (¬ z_ff (z_both bo v w p q) k s < 61 → post 0) → L_X9_haveOneSpace_30 (nI p) (nI v) (nI q) (nI w) (nI bo) post (k + 1) (nI s) := by
    intro k
    induction k with
    | zero =>
      intro s hs h2 g1 g0
      rw [L_X9_haveOneSpace_30]
      exact pk_lt 60 s (fun _ => g0 (by rw [z_ff]; omega)) (fun e => by omega)
    | succ k ih =>
      intro s hs h2 g1 g0
      have a1 := z_div_le (704 * v) s
      have a2 := z_div_le (704 * w) s
      have a3 := z_off_b (704 * v / s) p
      have a4 := z_off_b (704 * w / s) q
      rw [L_X9_haveOneSpace_30]
      unfold F_X9_haveOneSpace_70
      have no : ¬ (z_off (704 * v / s) p ≤ bo ∧ z_off (704 * w / s) q ≤ bo) → L_X9_haveOneSpace_30 (nI p) (nI v) (nI q) (nI w) (nI bo) post (k + 1) (nI (s + 1)) := fun f => by
        rw [z_ff_f (show z_both bo v w p q s = false from decide_eq_false f)] at g1 g0
        exact ih (s + 1) (by omega) (by omega) g1 g0
      refine pk_lt 60 s (fun e => by omega) (fun _ => zc_humBy (by omega) (by omega) hv2 (zc_off (by omega) (by omega) (pk_lt bo _ (fun e => nm_r (nI_1 s) (no (fun f => by omega))) (fun e => zc_humBy (by omega) (by omega) hw2 (zc_off (by omega) (by omega) (pk_lt bo _ (fun e2 => nm_r (nI_1 s) (no (fun f => by omega))) (fun e2 => g1 ?_) rfl rfl (by omega) (by omega)))) rfl rfl (by omega) (by omega))))
      rw [z_ff_t (show z_both bo v w p q s = true from decide_eq_true ⟨e, e2⟩)]
      omega
  have run : ¬ (p = 0 ∧ q = 0) → F_X9_haveOneSpace_10 dm post (nI p) (nI v) (nI q) (nI w) := by
    intro c
    unfold F_X9_haveOneSpace_10
    refine zc_asked (k := 2) (by decide) ?_
    rw [hdm.2.2.1]
    refine zc_asked (k := 1) (by decide) ?_
    rw [hdm.2.1]
    have e0 : z_one ne bo v w p q = if p = 0 ∨ q = 0 then false else decide (z_ff (z_both bo v w p q) (61 - ne) ne < 61) := if_neg c
    rw [e0] at h1 h0
    refine ⟨61 - ne + 1, loop (61 - ne) ne (by omega) (by omega) (fun f => ?_) (fun f => ?_)⟩
    · by_cases z : p = 0 ∨ q = 0
      · exfalso
        have y := z_ff_yes (p := z_both bo v w p q) (61 - ne) ne (by omega)
        have l := z_ff_le (z_both bo v w p q) (61 - ne) ne
        generalize z_ff (z_both bo v w p q) (61 - ne) ne = s at *
        have y := of_decide_eq_true y
        rcases z with z | z
        · rw [z, z_off0 hv1 (by omega) (by omega)] at y; omega
        · rw [z, z_off0 hw1 (by omega) (by omega)] at y; omega
      · rw [if_neg z] at h1
        exact h1 (decide_eq_true f)
    · by_cases z : p = 0 ∨ q = 0
      · rw [if_pos z] at h0
        exact h0 rfl
      · rw [if_neg z] at h0
        exact h0 (decide_eq_false f)
  unfold F_X9_haveOneSpace
  refine pk_eq p 0 (fun e => pk_eq q 0 (fun e2 => h1 (if_pos ⟨e, e2⟩)) (fun e2 => run (fun f => e2 f.2))) (fun e => run (fun f => e f.1))
def z_two (ne bo v w : Nat) (pt : Nat → Int32) (t u i : Nat) : Bool := z_one ne bo v w (z_pt pt t i) (z_pt pt u i)
theorem z_cnt_b {p : Nat → Bool} : ∀ n, z_cnt p n ≤ n
  | 0 => Nat.le_refl _
  | n + 1 => by
    have := z_cnt_b (p := p) n
    unfold z_cnt
    split <;> omega
theorem p_33 (hT : z_VT T bt nts pt) (hD : z_VD al ne bo te) (hdm : z_dm dm al ne bo te) {post : (Nat → Int32) → (Nat → Int32) → Prop} (h : ∀ R, post R R) : O_33 (nI T) (nI ne) (nI bo) nts pt ref ref dm (nI T) nts pt s1 s2 s3 s4 s5 post := by
  have hT1 := hT.1
  have hD' := hD
  obtain ⟨⟨hal1, hal2⟩, ⟨hne1, hne2⟩, hbo, hte1, hte2⟩ := hD'
  unfold O_33 F_X9_two
  refine zo_X8has hT1 (fun c => z_b0 (z_r1 ?_)) (fun t ht e => z_b1 (zo_X8has hT1 (fun c => z_b0 (z_r1 ?_)) (fun u hu e2 => z_b1 (zo_isSpeed (fun c => z_b0 (z_r6 ?_)) (fun c1 c2 => z_b1 (zo_isSpeed (fun c => z_b0 (z_r6 ?_)) (fun d1 d2 => z_b1 ?_)))))))
  · unfold F_X10_two
    exact zf_mTune hT1 c (z_b0 (z_n1 (z_eq (h _))))
  · subst e
    unfold F_X10_two
    exact zt_mTune hT1 ht (z_b1 (zf_mTune hT1 c (z_b0 (z_n1 (z_eq (h _))))))
  · subst e e2
    unfold F_X10_two
    exact zt_mTune hT1 ht (z_b1 (zt_mTune hT1 hu (z_b1 (zmf_isSpeed c (z_b0 (z_n6 (z_eq (h _))))))))
  · subst e e2
    unfold F_X10_two
    exact zt_mTune hT1 ht (z_b1 (zt_mTune hT1 hu (z_b1 (zmt_isSpeed c1 c2 (z_b1 (zmf_isSpeed c (z_b0 (z_n6 (z_eq (h _))))))))))
  · subst e e2
    obtain ⟨v, hv1, hv2, rfl⟩ := z_rng 1 99 c1 c2 (by decide) (by decide)
    obtain ⟨w, hw1, hw2, rfl⟩ := z_rng 1 99 d1 d2 (by decide) (by decide)
    have h12 := (hT.2 t ht).1.2
    have g12 := (hT.2 u hu).1.2
    have mod : ∀ {post : Int32 → (Nat → Int32) → Prop}, ((nI (z_nt nts t) = nI (z_nt nts u) → (∃ n67 : Nat, L_X10_two_67 (nI ne) (nI bo) nts pt (nI t) (nI v) (nI u) (nI w) ref post n67 0 0)) ∧ (¬ nI (z_nt nts t) = nI (z_nt nts u) → (F_X10_no ref (-6) (fun r57 w57_0 => post r57 w57_0)))) → F_X10_two (nI T) (nI ne) (nI bo) nts pt ref (nI t) (nI v) (nI u) (nI w) post := by
      intro post hp
      unfold F_X10_two
      refine zt_mTune hT1 ht (z_b1 (zt_mTune hT1 hu (z_b1 (zmt_isSpeed c1 c2 (z_b1 (zmt_isSpeed d1 d2 (z_b1 ?_)))))))
      rw [show (nI t).toNatClampNeg = t from nI_clamp (by omega), show (nI u).toNatClampNeg = u from nI_clamp (by omega), (hT.2 t ht).1.1, (hT.2 u hu).1.1]
      exact ⟨vp_in_nI (by omega) (by decide), vp_in_nI (by omega) (by decide), hp⟩
    refine zc_notesOf hT ht (zc_notesOf hT hu (pk_eq (z_nt nts t) (z_nt nts u) (fun e => ?_) (fun e => z_r6 ?_)))
    · have cls : ∀ {post : Int32 → (Nat → Int32) → Prop}, post (nI (z_cnt (z_two ne bo v w pt t u) (z_nt nts t))) ref → ∀ k i : Nat, i + k = z_nt nts t → L_X9_two_76 dm (nI T) nts pt (nI t) (nI v) (nI u) (nI w) ref post (k + 1) (nI (z_cnt (z_two ne bo v w pt t u) i)) (nI i) := by
        intro post hp k
        induction k with
        | zero =>
          intro i hi
          rw [L_X9_two_76]
          refine zc_notesOf hT ht (pk_le (z_nt nts t) i (fun _ => ?_) (fun e => by omega))
          rw [show i = z_nt nts t by omega]; exact hp
        | succ k ih =>
          intro i hi
          have ih1 := ih (i + 1) (by omega)
          have p1 := ((hT.2 t ht).2 i (by omega)).1.2
          have p2 := ((hT.2 u hu).2 i (by omega)).1.2
          rw [L_X9_two_76]
          unfold F_X9_two_116
          refine zc_notesOf hT ht (pk_le (z_nt nts t) i (fun e => by omega) (fun _ => zc_pitchOf hT ht (by omega) (zc_pitchOf hT hu (by omega) (zc_haveOne hD hdm p1 p2 hv1 hv2 hw1 hw2 (fun f => z_b1 (nm_r (nI_1 _) (nm_r (nI_1 i) ?_))) (fun f => z_b0 (nm_r (nI_1 i) ?_))))))
          · rw [z_cnt_t (p := z_two ne bo v w pt t u) f] at ih1; exact ih1
          · rw [z_cnt_f (p := z_two ne bo v w pt t u) f] at ih1; exact ih1
      have inner : ∀ (i : Nat) (x5 : Int32) (p q : Nat) (k205 : Int32 → Prop), p ≤ 9999 → q ≤ 9999 → p ≠ 0 → q ≠ 0 → (∀ b : Bool, b = decide (z_ff (z_both bo v w p q) (61 - ne) ne < 61) → k205 (if b = true then 1 else 0)) → ∀ k s : Nat, s + k = 61 → 1 ≤ s → z_ff (z_both bo v w p q) (61 - ne) ne = z_ff (z_both bo v w p q) k s → L_X10_two_129 (nI bo) (nI t) (nI v) (nI u) (nI w) x5 (nI i) (nI p) (nI q) ref k205 (k + 2) 0 (nI s) := by
        intro i x5 p q k205 hp hq hp0 hq0 hk k
        induction k with
        | zero =>
          intro s hs h2 hf
          rw [L_X10_two_129]
          refine pk_lt 60 s (fun _ => ?_) (fun e => by omega)
          have := hk false (by rw [hf, z_ff, decide_eq_false (by omega)])
          exact this
        | succ k ih =>
          intro s hs h2 hf
          have a1 := z_div_le (704 * v) s
          have a2 := z_div_le (704 * w) s
          have a3 := z_off_b (704 * v / s) p
          have a4 := z_off_b (704 * w / s) q
          have no : ¬ (z_off (704 * v / s) p ≤ bo ∧ z_off (704 * w / s) q ≤ bo) → L_X10_two_129 (nI bo) (nI t) (nI v) (nI u) (nI w) x5 (nI i) (nI p) (nI q) ref k205 (k + 2) 0 (nI (s + 1)) := fun f => by
            rw [z_ff_f (show z_both bo v w p q s = false from decide_eq_false f)] at hf
            exact ih (s + 1) (by omega) (by omega) hf
          have yes : (z_off (704 * v / s) p ≤ bo ∧ z_off (704 * w / s) q ≤ bo) → L_X10_two_129 (nI bo) (nI t) (nI v) (nI u) (nI w) x5 (nI i) (nI p) (nI q) ref k205 (k + 2) 1 (nI (s + 1)) := fun f => by
            rw [z_ff_t (show z_both bo v w p q s = true from decide_eq_true f)] at hf
            have := hk true (by rw [hf, decide_eq_true (by omega)])
            rw [L_X10_two_129]
            exact ⟨fun _ => this, fun _ => br_f (by decide) this⟩
          rw [L_X10_two_129]
          unfold F_X10_two_196 F_X10_two_197
          refine pk_lt 60 s (fun e => by omega) (fun _ => br_t rfl (br_f (nI_nle (by omega) (by omega)) (br_f (nI_nle (by omega) (by omega)) (zm_humBy (by omega) (by omega) hv2 (zm_off (by omega) (by omega) (pk_lt bo _ (fun e => nm_r (nI_1 s) (no (fun f => by omega))) (fun e => zm_humBy (by omega) (by omega) hw2 (zm_off (by omega) (by omega) (pk_lt bo _ (fun e2 => nm_r (nI_1 s) (no (fun f => by omega))) (fun e2 => nm_r (nI_1 s) (yes ⟨e, e2⟩)) rfl rfl (by omega) (by omega)))) rfl rfl (by omega) (by omega)))))))
      have mm : ∀ {post : Int32 → (Nat → Int32) → Prop}, post (nI (z_cnt (z_two ne bo v w pt t u) (z_nt nts t))) ref → ∀ k i : Nat, i + k = z_nt nts t → L_X10_two_67 (nI ne) (nI bo) nts pt (nI t) (nI v) (nI u) (nI w) ref post (k + 1) (nI (z_cnt (z_two ne bo v w pt t u) i)) (nI i) := by
        intro post hp k
        induction k with
        | zero =>
          intro i hi
          rw [L_X10_two_67, show (nI t).toNatClampNeg = t from nI_clamp (by omega), (hT.2 t ht).1.1]
          refine ⟨vp_in_nI (by omega) (by decide), pk_le (z_nt nts t) i (fun _ => ?_) (fun e => by omega)⟩
          rw [show i = z_nt nts t by omega]; exact hp
        | succ k ih =>
          intro i hi
          have ih1 := ih (i + 1) (by omega)
          have p1 := ((hT.2 t ht).2 i (by omega)).1
          have p2 := ((hT.2 u hu).2 i (by omega)).1
          have cont : ∀ b : Bool, b = z_two ne bo v w pt t u i → F_X10_two_205 (fun x5 x6 => L_X10_two_67 (nI ne) (nI bo) nts pt (nI t) (nI v) (nI u) (nI w) ref post (k + 1) x5 x6) (nI t) (nI v) (nI u) (nI w) (nI (z_cnt (z_two ne bo v w pt t u) i)) (nI i) (if b = true then 1 else 0) ref := by
            intro b hb
            unfold F_X10_two_205 F_X10_two_213
            cases b with
            | true =>
              rw [z_cnt_t hb.symm] at ih1
              exact z_b1 (nm_r (nI_1 _) (nm_r (nI_1 i) ih1))
            | false =>
              rw [z_cnt_f hb.symm] at ih1
              exact z_b0 (nm_r (nI_1 i) ih1)
          rw [L_X10_two_67, show (nI t).toNatClampNeg = t from nI_clamp (by omega), (hT.2 t ht).1.1, z_ix12, z_ix12, show (nI (12 * t + i)).toNatClampNeg = 12 * t + i from nI_clamp (by omega), show (nI (12 * u + i)).toNatClampNeg = 12 * u + i from nI_clamp (by omega), p1.1, p2.1]
          unfold F_X10_two_120 F_X10_two_121
          have skip : ∀ (x9 : Int32) (k205 : Int32 → Prop) (x5 : Int32), (x9 = 0 → z_pt pt t i = 0 ∨ z_pt pt u i = 0) → k205 x9 → ∃ n, L_X10_two_129 (nI bo) (nI t) (nI v) (nI u) (nI w) x5 (nI i) (nI (z_pt pt t i)) (nI (z_pt pt u i)) ref k205 n x9 (nI ne) := by
            intro x9 k205 x5 hz hk
            refine ⟨1, ?_⟩
            rw [L_X10_two_129]
            refine ⟨fun _ => hk, fun _ => ⟨fun e0 => ?_, fun _ => hk⟩⟩
            refine pk_le (z_pt pt t i) 0 (fun _ => hk) (fun g1 => pk_le (z_pt pt u i) 0 (fun _ => hk) (fun g2 => ?_))
            have := hz e0
            omega
          refine ⟨vp_in_nI (by omega) (by decide), pk_le (z_nt nts t) i (fun e => by omega) (fun _ => ⟨vp_in_nI (by omega) (by decide), nm_e ⟨vp_in_nI (by omega) (by decide), nm_e (pk_eq (z_pt pt t i) 0 (fun e1 => pk_eq (z_pt pt u i) 0 (fun e2 => ?_) (fun e2 => ?_)) (fun e1 => ?_))⟩⟩)⟩
          · refine skip 1 _ _ (fun f => absurd f (by decide)) (cont true ?_)
            unfold z_two z_one; rw [if_pos ⟨e1, e2⟩]
          · refine skip 0 _ _ (fun _ => Or.inl e1) (cont false ?_)
            unfold z_two z_one; rw [if_neg (fun f => e2 f.2), if_pos (Or.inl e1)]
          · by_cases e2 : z_pt pt u i = 0
            · refine skip 0 _ _ (fun _ => Or.inr e2) (cont false ?_)
              unfold z_two z_one; rw [if_neg (fun f => e1 f.1), if_pos (Or.inr e2)]
            · refine ⟨61 - ne + 2, inner i _ _ _ _ p1.2 p2.2 e1 e2 (fun b hb => cont b ?_) (61 - ne) ne (by omega) (by omega) rfl⟩
              unfold z_two z_one; rw [if_neg (fun f => e1 f.1), if_neg (fun f => by omega)]; exact hb
      exact ⟨_, cls (mod (br_t (by rw [e]) ⟨_, mm (z_eq (h _)) (z_nt nts t) 0 (by omega)⟩)) (z_nt nts t) 0 (by omega)⟩
    · refine mod (br_f (fun f => e ((nI_eq (by omega) (by omega)).mp f)) (z_n6 (z_eq (h _))))
/-! brief -/
def z_br (ne te v : Nat) (pt bt : Nat → Int32) (t i : Nat) : Nat := ((z_pt bt t i * te + 1) / 2 * 704 * v + 10000 * z_cS ne v pt t i - 1) / (10000 * z_cS ne v pt t i) * z_cS ne v pt t i
theorem z_br_b {way s : Nat} (hs1 : 1 ≤ s) (hs : s ≤ 60) (hw1 : 1 ≤ way) (hw : way ≤ 1115136000) : 1 ≤ (way + 10000 * s - 1) / (10000 * s) ∧ (way + 10000 * s - 1) / (10000 * s) ≤ 1115736000 ∧ (way + 10000 * s - 1) / (10000 * s) * s ≤ 120000 := by
  have h1 := Nat.div_add_mod (way + 10000 * s - 1) (10000 * s)
  have h2 := Nat.mod_lt (way + 10000 * s - 1) (show 10000 * s > 0 by omega)
  have h3 : (way + 10000 * s - 1) / (10000 * s) ≤ way + 10000 * s - 1 := Nat.div_le_self _ _
  have h4 : 1 ≤ (way + 10000 * s - 1) / (10000 * s) := (Nat.le_div_iff_mul_le (by omega)).mpr (by omega)
  refine ⟨h4, by omega, ?_⟩
  generalize (way + 10000 * s - 1) / (10000 * s) = q at *
  rw [Nat.mul_assoc, Nat.mul_comm s q] at h1
  omega
theorem p_34 (hT : z_VT T bt nts pt) (hD : z_VD al ne bo te) (hdm : z_dm dm al ne bo te) {a b c : Nat → Int32} {xn : Int32} {xa xb : Nat → Int32} {post : (Nat → Int32) → (Nat → Int32) → (Nat → Int32) → (Nat → Int32) → Int32 → (Nat → Int32) → (Nat → Int32) → (Nat → Int32) → Prop} (h : ∀ a b c R n d e, post a b c R n d e R) : O_34 (nI T) (nI ne) (nI te) bt a b c nts pt ref xn xa xb ref dm (nI T) bt nts pt s1 s2 s3 s4 s5 post := by
  have hT1 := hT.1
  have hD' := hD
  obtain ⟨⟨hal1, hal2⟩, ⟨hne1, hne2⟩, hbo, hte1, hte2⟩ := hD'
  unfold O_34 F_X9_brief
  refine zo_rta hT1 (fun c => br_f (by decide) (z_r1 ?_)) (fun t ht e c => br_f (by decide) (z_r6 ?_)) (fun t v ht e hv1 hv2 e2 => z_b0 ?_)
  · unfold F_X10_brief
    exact zf_mTune hT1 c (z_b0 (z_n1 (z_eq (h _ _ _ _ _ _ _))))
  · subst e
    unfold F_X10_brief
    exact zt_mTune hT1 ht (z_b1 (zmf_isSpeed c (z_b0 (z_n6 (z_eq (h _ _ _ _ _ _ _))))))
  · subst e e2
    have h12 := (hT.2 t ht).1.2
    have way : ∀ i, i < z_nt nts t → (1 ≤ (z_pt bt t i * te + 1) / 2 * 704 * v ∧ (z_pt bt t i * te + 1) / 2 * 704 * v ≤ 1115136000) ∧ z_pt bt t i * te ≤ 32000 := by
      intro i hi
      obtain ⟨-, -, b1, b2⟩ := (hT.2 t ht).2 i hi
      have m1 := Nat.mul_le_mul b1 hte1
      have m2 := Nat.mul_le_mul b2 hte2
      generalize z_pt bt t i * te = d at *
      have m3 : 1 * 704 * 1 ≤ (d + 1) / 2 * 704 * v := Nat.mul_le_mul (Nat.mul_le_mul (by omega) (Nat.le_refl _)) hv1
      have m4 : (d + 1) / 2 * 704 * v ≤ 16000 * 704 * 99 := Nat.mul_le_mul (Nat.mul_le_mul (by omega) (Nat.le_refl _)) hv2
      omega
    have sumb : ∀ i, i ≤ z_nt nts t → z_sum (z_br ne te v pt bt t) i ≤ 120000 * i := fun i hi => z_sum_le (f := z_br ne te v pt bt t) (b := 120000) i (fun j hj => by
      have hb := z_cS_b (v := v) hne1 hne2 pt t j
      have hw := (way j (by omega)).1
      exact (z_br_b (by omega) hb.2 hw.1 hw.2).2.2)
    refine zc_chooseSpaces hT hD hdm ht hv2 (fun o s hos => ?_)
    have cls : ∀ {post : Int32 → Int32 → (Nat → Int32) → (Nat → Int32) → (Nat → Int32) → Prop}, post (nI (z_sum (z_br ne te v pt bt t) (z_nt nts t))) (nI (z_nt nts t)) o s ref → ∀ k i : Nat, i + k = z_nt nts t → L_X9_brief_36 dm (nI T) bt nts (nI t) (nI v) (nI (z_nt nts t)) o s ref post (k + 1) (nI (z_sum (z_br ne te v pt bt t) i)) (nI i) := by
      intro post hp k
      induction k with
      | zero =>
        intro i hi
        rw [L_X9_brief_36]
        unfold F_X2_notes
        refine pk_le (z_nt nts t) i (fun _ => ?_) (fun e => by omega)
        rw [show i = z_nt nts t by omega]; exact hp
      | succ k ih =>
        intro i hi
        have hb := z_cS_b (v := v) hne1 hne2 pt t i
        have hw := way i (by omega)
        have hr := z_br_b (by omega) hb.2 hw.1.1 hw.1.2
        have ih1 := ih (i + 1) (by omega)
        rw [L_X9_brief_36]
        unfold F_X2_notes
        refine pk_le (z_nt nts t) i (fun e => by omega) (fun _ => zc_beatsOf hT ht (by omega) (zc_asked (k := 3) (by decide) ?_))
        rw [hdm.2.2.2, pk_mul]
        refine nm_e (zc_spOf h12 (by omega) ?_)
        rw [(hos i (by omega)).2]
        unfold F_X9_briefLength F_X9_quotient_
        rw [nI_1, show nI (z_pt bt t i * te + 1) / 2 = nI ((z_pt bt t i * te + 1) / 2) from pk_div (by omega) (by decide) (by decide), nI_l (by omega), nI_l (by omega), nI_l (by omega), show (704 : Int64) = lN 704 from rfl, lN_mul, lN_mul, show (10000 : Int64) = lN 10000 from rfl, lN_mul]
        refine nm_e (nm_r (e' := lN (10000 * z_cS ne v pt t i)) (by rw [Nat.mul_comm]) ?_)
        rw [lN_add, show lN ((z_pt bt t i * te + 1) / 2 * 704 * v + 10000 * z_cS ne v pt t i) - 1 = lN ((z_pt bt t i * te + 1) / 2 * 704 * v + 10000 * z_cS ne v pt t i - 1) from lN_sub (b := 1) (by omega), pk_lDiv (by omega) (by omega) (by omega)]
        dsimp only
        rw [lN_mul, lN_i, lN_i]
        have nz : ¬ lN (10000 * z_cS ne v pt t i) = 0 := fun f => by
          have := (lN_eq (b := 0) (by omega) (by decide)).mp f
          omega
        refine br_f (fun f => nz ((lg_cmp_eq _ _).mp f)) ⟨nz, br_t ?_ (nm_r (nI_add _ _) (nm_r (nI_1 i) ih1))⟩
        rw [lg_cmp_ge]
        exact (lN_le (a := 1) (by decide) (by omega)).mpr hr.1
    have mod : ∀ (o s m : Nat → Int32), (∀ i, i < z_nt nts t → s i = nI (z_cS ne v pt t i)) → ∀ {post : Int32 → (Nat → Int32) → (Nat → Int32) → (Nat → Int32) → (Nat → Int32) → Prop}, post (nI (z_sum (z_br ne te v pt bt t) (z_nt nts t))) o s m ref → ∀ k i : Nat, i + k = z_nt nts t → L_X10_brief_40 (nI te) bt nts (nI t) (nI v) o s m ref post (k + 1) (lN (z_sum (z_br ne te v pt bt t) i)) (nI i) := by
      intro o s m hs post hp k
      induction k with
      | zero =>
        intro i hi
        rw [L_X10_brief_40, show (nI t).toNatClampNeg = t from nI_clamp (by omega), (hT.2 t ht).1.1, lN_i]
        refine ⟨vp_in_nI (by omega) (by decide), pk_le (z_nt nts t) i (fun _ => ?_) (fun e => by omega)⟩
        rw [show i = z_nt nts t by omega]; exact hp
      | succ k ih =>
        intro i hi
        have hb := z_cS_b (v := v) hne1 hne2 pt t i
        have hw := way i (by omega)
        have hr := z_br_b (by omega) hb.2 hw.1.1 hw.1.2
        have ih1 := ih (i + 1) (by omega)
        obtain ⟨-, eb, -, -⟩ := (hT.2 t ht).2 i (by omega)
        rw [L_X10_brief_40, show (nI t).toNatClampNeg = t from nI_clamp (by omega), (hT.2 t ht).1.1, z_ix12, show (nI (12 * t + i)).toNatClampNeg = 12 * t + i from nI_clamp (by omega), eb, show (nI i).toNatClampNeg = i from nI_clamp (by omega), hs i (by omega), pk_mul, nI_1 (z_pt bt t i * te), show nI (z_pt bt t i * te + 1) / 2 = nI ((z_pt bt t i * te + 1) / 2) from pk_div (by omega) (by decide) (by decide)]
        have nz : ¬ lN (10000 * z_cS ne v pt t i) = 0 := fun f => by
          have := (lN_eq (b := 0) (by omega) (by decide)).mp f
          omega
        refine ⟨vp_in_nI (by omega) (by decide), pk_le (z_nt nts t) i (fun e => by omega) (fun _ => ⟨vp_in_nI (by omega) (by decide), nm_e ⟨vp_in_nI (by omega) (by decide), nm_r (e' := lN (10000 * z_cS ne v pt t i)) (by rw [nI_l (by omega), show (10000 : Int64) = lN 10000 from rfl, lN_mul]) ⟨nz, nm_r (e' := lN (((z_pt bt t i * te + 1) / 2 * 704 * v + 10000 * z_cS ne v pt t i - 1) / (10000 * z_cS ne v pt t i))) ?_ ⟨vp_in_nI (by omega) (by decide), nm_r (e' := lN (z_sum (z_br ne te v pt bt t) (i + 1))) ?_ (nm_r (nI_1 i) ih1)⟩⟩⟩⟩)⟩
        · rw [nI_l (by omega), nI_l (by omega), show (704 : Int64) = lN 704 from rfl, lN_mul, lN_mul, lN_add, show lN ((z_pt bt t i * te + 1) / 2 * 704 * v + 10000 * z_cS ne v pt t i) - 1 = lN ((z_pt bt t i * te + 1) / 2 * 704 * v + 10000 * z_cS ne v pt t i - 1) from lN_sub (b := 1) (by omega), pk_lDiv (by omega) (by omega) (by omega)]
        · rw [nI_l (by omega), lN_mul, lN_add]; rfl
    refine ⟨_, cls ?_ (z_nt nts t) 0 (by omega)⟩
    unfold F_X10_brief
    exact zt_mTune hT1 ht (z_b1 (zmt_isSpeed (z_spd1 hv1 hv2) (z_spd2 hv2) (z_b1 (zm_cuts hT hD ht hv2 (fun o s m hosm => ⟨_, mod o s m (fun i hi => (hosm i hi).2.1) (z_eq (h _ _ _ _ _ _ _)) (z_nt nts t) 0 (by omega)⟩)))))
end CUT
