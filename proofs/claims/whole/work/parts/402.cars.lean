/-! cars -/
def z_sum (f : Nat → Nat) : Nat → Nat
  | 0 => 0
  | n + 1 => z_sum f n + f n
theorem z_sum_le {f : Nat → Nat} {b : Nat} : ∀ n, (∀ i, i < n → f i ≤ b) → z_sum f n ≤ b * n
  | 0, _ => Nat.zero_le _
  | n + 1, h => by
    have h1 := z_sum_le n (fun i hi => h i (by omega))
    have h2 := h n (by omega)
    rw [Nat.mul_succ]
    show z_sum f n + f n ≤ b * n + b
    omega
theorem z_sum_mono {f : Nat → Nat} : ∀ {n m : Nat}, n ≤ m → z_sum f n ≤ z_sum f m := by
  intro n m h
  induction h with
  | refl => exact Nat.le_refl _
  | step h ih => exact Nat.le_trans ih (Nat.le_add_right _ _)
def z_VC (N : Nat) (bs sh spd : Nat → Int32) : Prop := N ≤ 6 ∧ (∀ i, i < N → ∃ b h v : Nat, bs i = nI b ∧ sh i = nI h ∧ spd i = nI v ∧ b ≤ 999 ∧ h ≤ 100 ∧ 1 ≤ v ∧ v ≤ 99) ∧ z_sum (fun i => z_tn (sh i)) N ≤ 100
theorem zc_speedOf {N i : Nat} (hN : N ≤ 6) (hi : i < N) {f : Nat → Int32} {post : Int32 → Prop} (h : post (f i)) : F_X1_speedOf (nI N) f (nI i) post := by
  unfold F_X1_speedOf
  refine zt_X1has hN hi (z_b1 ⟨vp_in_nI (by omega) (by decide), ?_⟩)
  rw [nI_clamp (by omega)]
  exact h
theorem zc_baseOf {N i : Nat} (hN : N ≤ 6) (hi : i < N) {f : Nat → Int32} {post : Int32 → Prop} (h : post (f i)) : F_X1_baseOf (nI N) f (nI i) post := by
  unfold F_X1_baseOf
  refine zt_X1has hN hi (z_b1 ⟨vp_in_nI (by omega) (by decide), ?_⟩)
  rw [nI_clamp (by omega)]
  exact h
theorem zc_shareOf {N i : Nat} (hN : N ≤ 6) (hi : i < N) {f : Nat → Int32} {post : Int32 → Prop} (h : post (f i)) : F_X1_shareOf (nI N) f (nI i) post := by
  unfold F_X1_shareOf
  refine zt_X1has hN hi (z_b1 ⟨vp_in_nI (by omega) (by decide), ?_⟩)
  rw [nI_clamp (by omega)]
  exact h
theorem z_sumStep {sh : Nat → Int32} {i h : Nat} (e : sh i = nI h) (hh : h ≤ 2000000) : nI (z_sum (fun i => z_tn (sh i)) i) + sh i = nI (z_sum (fun i => z_tn (sh i)) (i + 1)) := by
  rw [e, nI_add]
  show nI _ = nI (z_sum (fun i => z_tn (sh i)) i + z_tn (sh i))
  rw [e, z_tn_nI (by omega)]
theorem zc_shareOfAll {N : Nat} {bs sh spd : Nat → Int32} (hV : z_VC N bs sh spd) {post : Int32 → Prop} (h : post (nI (z_sum (fun i => z_tn (sh i)) N))) : F_X1_shareOfAll (nI N) sh post := by
  have key : ∀ k i : Nat, i + k = N → L_X1_shareOfAll_4 (nI N) sh post (k + 1) (nI (z_sum (fun i => z_tn (sh i)) i)) (nI i) := by
    have hN := hV.1
    intro k
    induction k with
    | zero =>
      intro i hi
      rw [L_X1_shareOfAll_4]
      refine pk_le N i (fun _ => ?_) (fun e => by omega)
      rw [show i = N by omega]; exact h
    | succ k ih =>
      intro i hi
      obtain ⟨b, s, v, -, es, -, -, hs, -, -⟩ := hV.2.1 i (by omega)
      rw [L_X1_shareOfAll_4]
      refine pk_le N i (fun e => by omega) (fun _ => zc_shareOf hN (by omega) ?_)
      exact nm_r (z_sumStep es (by omega)) (nm_r (nI_1 i) (ih (i + 1) (by omega)))
  exact ⟨N + 1, key N 0 (by omega)⟩
theorem zm_shares {N : Nat} {bs sh spd : Nat → Int32} (hV : z_VC N bs sh spd) {post : Int32 → Prop} (h : post (nI (z_sum (fun i => z_tn (sh i)) N))) : F_X10_shares (nI N) sh post := by
  have key : ∀ k i : Nat, i + k = N → L_X10_shares_4 (nI N) sh post (k + 1) (nI (z_sum (fun i => z_tn (sh i)) i)) (nI i) := by
    have hN := hV.1
    intro k
    induction k with
    | zero =>
      intro i hi
      rw [L_X10_shares_4]
      refine pk_le N i (fun _ => ?_) (fun e => by omega)
      rw [show i = N by omega]; exact h
    | succ k ih =>
      intro i hi
      obtain ⟨b, s, v, -, es, -, -, hs, -, -⟩ := hV.2.1 i (by omega)
      rw [L_X10_shares_4]
      refine pk_le N i (fun e => by omega) (fun _ => ⟨vp_in_nI (by omega) (by decide), ?_⟩)
      rw [nI_clamp (by omega)]
      exact nm_r (z_sumStep es (by omega)) (nm_r (nI_1 i) (ih (i + 1) (by omega)))
  exact ⟨N + 1, key N 0 (by omega)⟩
/-! tunes -/
def z_nt (nts : Nat → Int32) (t : Nat) : Nat := z_tn (nts t)
def z_pt (pt : Nat → Int32) (t i : Nat) : Nat := z_tn (pt (12 * t + i))
def z_VT (N : Nat) (bt nts pt : Nat → Int32) : Prop := N ≤ 6 ∧ ∀ t, t < N → (nts t = nI (z_nt nts t) ∧ z_nt nts t ≤ 12) ∧ ∀ i, i < z_nt nts t → (pt (12 * t + i) = nI (z_pt pt t i) ∧ z_pt pt t i ≤ 9999) ∧ (bt (12 * t + i) = nI (z_pt bt t i) ∧ 1 ≤ z_pt bt t i ∧ z_pt bt t i ≤ 16)
theorem zo_hasNote {N : Nat} {bt nts pt : Nat → Int32} (hV : z_VT N bt nts pt) {x1 x2 : Int32} {post : Int32 → Prop} (h0 : ¬ (∃ t i, t < N ∧ i < z_nt nts t ∧ x1 = nI t ∧ x2 = nI i) → post 0) (h1 : ∀ t i, t < N → i < z_nt nts t → x1 = nI t → x2 = nI i → post 1) : F_X8_hasNote (nI N) nts x1 x2 post := by
  unfold F_X8_hasNote
  refine zo_X8has hV.1 (fun c => z_b0 (h0 (fun ⟨t, i, h2, h3, h4, h5⟩ => c ⟨t, h2, h4⟩))) (fun t ht e => z_b1 ?_)
  subst e
  obtain ⟨⟨e1, e2⟩, -⟩ := hV.2 t ht
  have hN := hV.1
  have up : ∀ {j : Nat}, nI t = nI j → j < N → j = t := fun {j} e3 e4 => ((nI_eq (by omega) (by omega)).mp e3).symm
  rw [nI_clamp (by omega), e1]
  refine ⟨fun c => h0 (fun ⟨t2, i, h2, h3, h4, h5⟩ => nI_pos (n := i) ?_ (h5 ▸ c)), fun c => ⟨vp_in_nI (by omega) (by decide), fun d => h0 (fun ⟨t2, i, h2, h3, h4, h5⟩ => ?_), fun d => ?_⟩⟩
  · rw [up h4 h2] at h3; omega
  · rw [up h4 h2] at h3
    exact nI_ge (a := i) (b := z_nt nts t) h3 (by omega) (h5 ▸ d)
  · obtain ⟨i, hi, e⟩ := z_Bl.of (by omega) c d
    exact ⟨fun f => absurd (e ▸ f : nI 12 ≤ nI i) (nI_ge (by omega) (by decide)), fun _ => h1 t i ht hi rfl e⟩
theorem zt_hasNote {N t i : Nat} {bt nts pt : Nat → Int32} (hV : z_VT N bt nts pt) (ht : t < N) (hi : i < z_nt nts t) {post : Int32 → Prop} (h : post 1) : F_X8_hasNote (nI N) nts (nI t) (nI i) post :=
  zo_hasNote hV (fun c => absurd ⟨t, i, ht, hi, rfl, rfl⟩ c) (fun _ _ _ _ _ _ => h)
theorem zc_notesOf {N t : Nat} {bt nts pt : Nat → Int32} (hV : z_VT N bt nts pt) (ht : t < N) {post : Int32 → Prop} (h : post (nI (z_nt nts t))) : F_X8_notesOf (nI N) nts (nI t) post := by
  have hN := hV.1
  unfold F_X8_notesOf
  refine zt_X8has hN ht (z_b1 ⟨vp_in_nI (by omega) (by decide), ?_⟩)
  rw [nI_clamp (by omega), (hV.2 t ht).1.1]
  exact h
theorem zc_pitchOf {N t i : Nat} {bt nts pt : Nat → Int32} (hV : z_VT N bt nts pt) (ht : t < N) (hi : i < z_nt nts t) {post : Int32 → Prop} (h : post (nI (z_pt pt t i))) : F_X8_pitchOf (nI N) nts pt (nI t) (nI i) post := by
  have hN := hV.1
  have h12 := (hV.2 t ht).1.2
  unfold F_X8_pitchOf
  have e : nI t * 12 + nI i = nI (12 * t + i) := by rw [show (12 : Int32) = nI 12 from rfl, pk_mul, nI_add, Nat.mul_comm]
  refine zt_hasNote hV ht hi (z_b1 ?_)
  rw [e, nI_clamp (by omega), ((hV.2 t ht).2 i hi).1.1]
  exact ⟨vp_in_nI (by omega) (by decide), h⟩
theorem zc_beatsOf {N t i : Nat} {bt nts pt : Nat → Int32} (hV : z_VT N bt nts pt) (ht : t < N) (hi : i < z_nt nts t) {post : Int32 → Prop} (h : post (nI (z_pt bt t i))) : F_X8_beatsOf (nI N) bt nts (nI t) (nI i) post := by
  have hN := hV.1
  have h12 := (hV.2 t ht).1.2
  unfold F_X8_beatsOf
  have e : nI t * 12 + nI i = nI (12 * t + i) := by rw [show (12 : Int32) = nI 12 from rfl, pk_mul, nI_add, Nat.mul_comm]
  refine zt_hasNote hV ht hi (z_b1 ?_)
  rw [e, nI_clamp (by omega), ((hV.2 t ht).2 i hi).2.1]
  exact ⟨vp_in_nI (by omega) (by decide), h⟩
theorem z_ix12 (t i : Nat) : (12 : Int32) * nI t + nI i = nI (12 * t + i) := by rw [show (12 : Int32) = nI 12 from rfl, pk_mul, nI_add]
theorem z_bsum_b {N t n : Nat} {bt nts pt : Nat → Int32} (hV : z_VT N bt nts pt) (ht : t < N) (hn : n ≤ z_nt nts t) : z_sum (fun i => z_pt bt t i) n ≤ 192 := by
  have h12 := (hV.2 t ht).1.2
  exact Nat.le_trans (z_sum_le (b := 16) n (fun i hi => ((hV.2 t ht).2 i (by omega)).2.2.2)) (by omega)
theorem zc_beatsAhead {N t n : Nat} {bt nts pt : Nat → Int32} (hV : z_VT N bt nts pt) (ht : t < N) (hn : n ≤ z_nt nts t) {post : Int32 → Prop} (h : post (nI (z_sum (fun i => z_pt bt t i) n))) : F_X8_beatsAhead (nI N) bt nts (nI t) (nI n) post := by
  have h12 := (hV.2 t ht).1.2
  have key : ∀ k i : Nat, i + k = n → L_X8_beatsAhead_5 (nI N) bt nts (nI t) (nI n) post (k + 1) (nI (z_sum (fun i => z_pt bt t i) i)) (nI i) := by
    intro k
    induction k with
    | zero =>
      intro i hi
      rw [L_X8_beatsAhead_5]
      refine pk_le n i (fun _ => ?_) (fun e => by omega)
      rw [show i = n by omega]; exact h
    | succ k ih =>
      intro i hi
      rw [L_X8_beatsAhead_5]
      refine pk_le n i (fun e => by omega) (fun _ => pk_le 12 i (fun e => by omega) (fun _ => zc_beatsOf hV ht (by omega) ?_))
      exact nm_r (nI_add _ _) (nm_r (nI_1 i) (ih (i + 1) (by omega)))
  exact ⟨n + 1, key n 0 (by omega)⟩
theorem zm_beatsTo {N t n : Nat} {bt nts pt : Nat → Int32} (hV : z_VT N bt nts pt) (ht : t < N) (hn : n ≤ z_nt nts t) {post : Int32 → Prop} (h : post (nI (z_sum (fun i => z_pt bt t i) n))) : F_X10_beatsTo bt (nI t) (nI n) post := by
  have h12 := (hV.2 t ht).1.2
  have hN := hV.1
  have key : ∀ k i : Nat, i + k = n → L_X10_beatsTo_5 bt (nI t) (nI n) post (k + 1) (nI (z_sum (fun i => z_pt bt t i) i)) (nI i) := by
    intro k
    induction k with
    | zero =>
      intro i hi
      rw [L_X10_beatsTo_5]
      refine pk_le n i (fun _ => ?_) (fun e => by omega)
      rw [show i = n by omega]; exact h
    | succ k ih =>
      intro i hi
      rw [L_X10_beatsTo_5]
      rw [z_ix12, nI_clamp (by omega), ((hV.2 t ht).2 i (by omega)).2.1]
      refine pk_le n i (fun e => by omega) (fun _ => ⟨vp_in_nI (by omega) (by decide), ?_⟩)
      exact nm_r (nI_add _ _) (nm_r (nI_1 i) (ih (i + 1) (by omega)))
  exact ⟨n + 1, key n 0 (by omega)⟩

