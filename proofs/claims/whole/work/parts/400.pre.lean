/-! the pure part: tools -/
theorem z_eq {A : Prop} {x : Int32} (h : A) : (x = x → A) ∧ (¬ x = x → False) := ⟨fun _ => h, fun e => e rfl⟩
theorem z_eqL {A : Prop} {x : Int64} (h : A) : (x = x → A) ∧ (¬ x = x → False) := ⟨fun _ => h, fun e => e rfl⟩
theorem z_b1 {A B : Prop} (a : A) : ((1 : Int32) = 0 → B) ∧ (¬ (1 : Int32) = 0 → A) := ⟨fun h => absurd h (by decide), fun _ => a⟩
theorem z_b0 {A B : Prop} (b : B) : ((0 : Int32) = 0 → B) ∧ (¬ (0 : Int32) = 0 → A) := ⟨fun _ => b, fun h => absurd rfl h⟩
theorem z_vb0 : vb 0 := rfl
theorem z_vb1 : vb 1 := rfl
def z_tn (x : Int32) : Nat := x.toNatClampNeg
theorem z_tn_nI {n : Nat} (h : n < 2 ^ 31) : z_tn (nI n) = n := nI_clamp h
theorem z_nlt {a b : Int32} (h : ¬ a < b) : b ≤ a := Int32.not_lt.mp h
theorem z_nle {a b : Int32} (h : ¬ a ≤ b) : b < a := Int32.not_le.mp h
theorem z_lnt {a b : Int32} (h : b ≤ a) : ¬ a < b := Int32.not_lt.mpr h
theorem z_ltn {a b : Int32} (h : b < a) : ¬ a ≤ b := Int32.not_le.mpr h
theorem z_rng {x : Int32} (a b : Nat) (h1 : nI a ≤ x) (h2 : x ≤ nI b) (ha : a < 2 ^ 31) (hb : b < 2 ^ 31) : ∃ n : Nat, a ≤ n ∧ n ≤ b ∧ x = nI n := by
  rw [Int32.le_iff_toInt_le] at h1 h2
  rw [nI_toInt hb] at h2
  rw [nI_toInt ha] at h1
  have h0 : ¬ x < 0 := by
    rw [Int32.lt_iff_toInt_lt]
    show ¬ x.toInt < 0
    omega
  obtain ⟨j, hj, rfl⟩ := nI_of h0
  rw [nI_toInt hj] at h1 h2
  exact ⟨j, by omega, by omega, rfl⟩
theorem z_litle {x : Int32} {n : Nat} (hn : n < 2 ^ 31) : nI n ≤ x ↔ (n : Int) ≤ x.toInt := by rw [Int32.le_iff_toInt_le, nI_toInt hn]
/-! iteration -/
def z_it {σ : Type} (f : Nat → σ → σ) : Nat → Nat → σ → σ
  | 0, _, s => s
  | k + 1, i, s => z_it f k (i + 1) (f i s)
theorem z_it_congr {σ : Type} {f g : Nat → σ → σ} : ∀ (k i : Nat) (s : σ), (∀ j, i ≤ j → j < i + k → ∀ s, f j s = g j s) → z_it f k i s = z_it g k i s
  | 0, _, _, _ => rfl
  | k + 1, i, s, h => by
    show z_it f k (i + 1) (f i s) = z_it g k (i + 1) (g i s)
    rw [h i (Nat.le_refl _) (by omega) s]
    exact z_it_congr k (i + 1) _ (fun j h1 h2 s => h j (by omega) (by omega) s)
theorem z_it_inv {σ : Type} {f : Nat → σ → σ} (P : Nat → σ → Prop) : ∀ (k i : Nat) (s : σ), P i s → (∀ j s, i ≤ j → j < i + k → P j s → P (j + 1) (f j s)) → P (i + k) (z_it f k i s)
  | 0, _, _, h, _ => h
  | k + 1, i, s, h, hs => by
    have h1 := z_it_inv P k (i + 1) (f i s) (hs i s (Nat.le_refl _) (by omega) h) (fun j s h1 h2 h3 => hs j s (by omega) (by omega) h3)
    have e : i + (k + 1) = i + 1 + k := by omega
    rw [e]
    exact h1
/-- the first place from i on, of k, with p; else i + k -/
def z_ff (p : Nat → Bool) : Nat → Nat → Nat
  | 0, i => i
  | k + 1, i => if p i = true then i else z_ff p k (i + 1)
theorem z_ff_t {p : Nat → Bool} {k i : Nat} (h : p i = true) : z_ff p (k + 1) i = i := by rw [z_ff, if_pos h]
theorem z_ff_f {p : Nat → Bool} {k i : Nat} (h : p i = false) : z_ff p (k + 1) i = z_ff p k (i + 1) := by rw [z_ff, if_neg (by rw [h]; decide)]
theorem z_ff_le (p : Nat → Bool) : ∀ k i, i ≤ z_ff p k i ∧ z_ff p k i ≤ i + k
  | 0, i => ⟨Nat.le_refl _, Nat.le_refl _⟩
  | k + 1, i => by
    have h := z_ff_le p k (i + 1)
    unfold z_ff
    split <;> omega
theorem z_ff_congr {p q : Nat → Bool} : ∀ k i, (∀ j, i ≤ j → j < i + k → p j = q j) → z_ff p k i = z_ff q k i
  | 0, _, _ => rfl
  | k + 1, i, h => by
    unfold z_ff
    rw [h i (Nat.le_refl _) (by omega), z_ff_congr k (i + 1) (fun j h1 h2 => h j (by omega) (by omega))]
theorem z_ff_no {p : Nat → Bool} : ∀ k i j, i ≤ j → j < z_ff p k i → p j = false
  | 0, i, j, h1, h2 => by unfold z_ff at h2; omega
  | k + 1, i, j, h1, h2 => by
    unfold z_ff at h2
    split at h2
    · omega
    · rename_i hc
      by_cases e : j = i
      · subst e; simpa using hc
      · exact z_ff_no k (i + 1) j (by omega) h2
theorem z_ff_yes {p : Nat → Bool} : ∀ k i, z_ff p k i < i + k → p (z_ff p k i) = true
  | 0, i, h => by unfold z_ff at h; omega
  | k + 1, i, h => by
    unfold z_ff at h ⊢
    split
    · assumption
    · rename_i hc
      rw [if_neg hc] at h
      exact z_ff_yes k (i + 1) (by omega)
/-! refusals -/
def z_rf (f : Nat → Int32) (k : Nat) : Nat → Int32 := upd f k (f k + 1)

theorem z_r1 {f : Nat → Int32} {post : Int32 → (Nat → Int32) → Prop} (h : post (-1) (z_rf f 1)) : F_X9_refuse f (-1) post :=
  ⟨fun c => absurd c (by decide), fun _ => ⟨fun c => absurd c (by decide), fun _ => br_f (by decide) ⟨by unfold vp_in; decide, by unfold vp_in; decide, h⟩⟩⟩
theorem z_n1 {f : Nat → Int32} {post : Int32 → (Nat → Int32) → Prop} (h : post (-1) (z_rf f 1)) : F_X10_no f (-1) post :=
  ⟨by unfold vp_in; decide, by unfold vp_in; decide, h⟩
theorem z_r2 {f : Nat → Int32} {post : Int32 → (Nat → Int32) → Prop} (h : post (-2) (z_rf f 2)) : F_X9_refuse f (-2) post :=
  ⟨fun c => absurd c (by decide), fun _ => ⟨fun c => absurd c (by decide), fun _ => br_f (by decide) ⟨by unfold vp_in; decide, by unfold vp_in; decide, h⟩⟩⟩
theorem z_n2 {f : Nat → Int32} {post : Int32 → (Nat → Int32) → Prop} (h : post (-2) (z_rf f 2)) : F_X10_no f (-2) post :=
  ⟨by unfold vp_in; decide, by unfold vp_in; decide, h⟩
theorem z_r3 {f : Nat → Int32} {post : Int32 → (Nat → Int32) → Prop} (h : post (-3) (z_rf f 3)) : F_X9_refuse f (-3) post :=
  ⟨fun c => absurd c (by decide), fun _ => ⟨fun c => absurd c (by decide), fun _ => br_f (by decide) ⟨by unfold vp_in; decide, by unfold vp_in; decide, h⟩⟩⟩
theorem z_n3 {f : Nat → Int32} {post : Int32 → (Nat → Int32) → Prop} (h : post (-3) (z_rf f 3)) : F_X10_no f (-3) post :=
  ⟨by unfold vp_in; decide, by unfold vp_in; decide, h⟩
theorem z_r4 {f : Nat → Int32} {post : Int32 → (Nat → Int32) → Prop} (h : post (-4) (z_rf f 4)) : F_X9_refuse f (-4) post :=
  ⟨fun c => absurd c (by decide), fun _ => ⟨fun c => absurd c (by decide), fun _ => br_f (by decide) ⟨by unfold vp_in; decide, by unfold vp_in; decide, h⟩⟩⟩
theorem z_n4 {f : Nat → Int32} {post : Int32 → (Nat → Int32) → Prop} (h : post (-4) (z_rf f 4)) : F_X10_no f (-4) post :=
  ⟨by unfold vp_in; decide, by unfold vp_in; decide, h⟩
theorem z_r5 {f : Nat → Int32} {post : Int32 → (Nat → Int32) → Prop} (h : post (-5) (z_rf f 5)) : F_X9_refuse f (-5) post :=
  ⟨fun c => absurd c (by decide), fun _ => ⟨fun c => absurd c (by decide), fun _ => br_f (by decide) ⟨by unfold vp_in; decide, by unfold vp_in; decide, h⟩⟩⟩
theorem z_n5 {f : Nat → Int32} {post : Int32 → (Nat → Int32) → Prop} (h : post (-5) (z_rf f 5)) : F_X10_no f (-5) post :=
  ⟨by unfold vp_in; decide, by unfold vp_in; decide, h⟩
theorem z_r6 {f : Nat → Int32} {post : Int32 → (Nat → Int32) → Prop} (h : post (-6) (z_rf f 6)) : F_X9_refuse f (-6) post :=
  ⟨fun c => absurd c (by decide), fun _ => ⟨fun c => absurd c (by decide), fun _ => br_f (by decide) ⟨by unfold vp_in; decide, by unfold vp_in; decide, h⟩⟩⟩
theorem z_n6 {f : Nat → Int32} {post : Int32 → (Nat → Int32) → Prop} (h : post (-6) (z_rf f 6)) : F_X10_no f (-6) post :=
  ⟨by unfold vp_in; decide, by unfold vp_in; decide, h⟩
theorem z_r7 {f : Nat → Int32} {post : Int32 → (Nat → Int32) → Prop} (h : post (-7) (z_rf f 7)) : F_X9_refuse f (-7) post :=
  ⟨fun c => absurd c (by decide), fun _ => ⟨fun c => absurd c (by decide), fun _ => br_f (by decide) ⟨by unfold vp_in; decide, by unfold vp_in; decide, h⟩⟩⟩
theorem z_n7 {f : Nat → Int32} {post : Int32 → (Nat → Int32) → Prop} (h : post (-7) (z_rf f 7)) : F_X10_no f (-7) post :=
  ⟨by unfold vp_in; decide, by unfold vp_in; decide, h⟩
theorem z_ra1 {f : Nat → Int32} {post : Int32 → (Nat → Int32) → Prop} (h : post (-11) (z_rf f 1)) : F_X9_refuseAs f (-1) (-11) post :=
  ⟨fun c => absurd c (by decide), fun _ => ⟨fun c => absurd c (by decide), fun _ => br_f (by decide) ⟨by unfold vp_in; decide, by unfold vp_in; decide, h⟩⟩⟩
theorem z_nt1 {f : Nat → Int32} {post : Int32 → (Nat → Int32) → Prop} (h : post (-11) (z_rf f 1)) : F_X10_noTen f (-1) post :=
  ⟨by unfold vp_in; decide, by unfold vp_in; decide, h⟩
theorem z_ra6 {f : Nat → Int32} {post : Int32 → (Nat → Int32) → Prop} (h : post (-16) (z_rf f 6)) : F_X9_refuseAs f (-6) (-16) post :=
  ⟨fun c => absurd c (by decide), fun _ => ⟨fun c => absurd c (by decide), fun _ => br_f (by decide) ⟨by unfold vp_in; decide, by unfold vp_in; decide, h⟩⟩⟩
theorem z_nt6 {f : Nat → Int32} {post : Int32 → (Nat → Int32) → Prop} (h : post (-16) (z_rf f 6)) : F_X10_noTen f (-6) post :=
  ⟨by unfold vp_in; decide, by unfold vp_in; decide, h⟩
/-! tests -/
theorem zo_within {x a b : Int32} {post : Int32 → Prop} (h0 : ¬ (a ≤ x ∧ x ≤ b) → post 0) (h1 : a ≤ x → x ≤ b → post 1) : F_X9_within x a b post :=
  ⟨fun c => h0 (fun h => z_lnt h.1 c), fun c => ⟨fun d => h0 (fun h => z_lnt h.2 d), fun d => h1 (z_nlt c) (z_nlt d)⟩⟩
theorem zt_within {x a b : Int32} {post : Int32 → Prop} (c : a ≤ x) (d : x ≤ b) (h : post 1) : F_X9_within x a b post := zo_within (fun e => absurd ⟨c, d⟩ e) (fun _ _ => h)
theorem zf_within {x a b : Int32} {post : Int32 → Prop} (c : ¬ (a ≤ x ∧ x ≤ b)) (h : post 0) : F_X9_within x a b post := zo_within (fun _ => h) (fun d e => absurd ⟨d, e⟩ c)
theorem zo_isSpeed {x : Int32} {post : Int32 → Prop} (h0 : ¬ (1 ≤ x ∧ x ≤ 99) → post 0) (h1 : 1 ≤ x → x ≤ 99 → post 1) : F_X9_isSpeed x post :=
  zo_within (fun c => ⟨z_vb0, h0 c⟩) (fun c d => ⟨z_vb1, h1 c d⟩)
theorem zm_isSpeed {x : Int32} {post : Int32 → Prop} (h0 : ¬ (1 ≤ x ∧ x ≤ 99) → post 0) (h1 : 1 ≤ x → x ≤ 99 → post 1) : F_X10_isSpeed x post :=
  ⟨fun c => h0 (fun h => z_lnt h.1 c), fun c => ⟨fun d => h0 (fun h => z_lnt h.2 d), fun d => h1 (z_nlt c) (z_nlt d)⟩⟩
theorem zmt_isSpeed {x : Int32} {post : Int32 → Prop} (c : 1 ≤ x) (d : x ≤ 99) (h : post 1) : F_X10_isSpeed x post := zm_isSpeed (fun e => absurd ⟨c, d⟩ e) (fun _ _ => h)
theorem zmf_isSpeed {x : Int32} {post : Int32 → Prop} (c : ¬ (1 ≤ x ∧ x ≤ 99)) (h : post 0) : F_X10_isSpeed x post := zm_isSpeed (fun _ => h) (fun d e => absurd ⟨d, e⟩ c)
/-- x is a number below N -/
def z_Bl (N : Nat) (x : Int32) : Prop := ∃ i, i < N ∧ x = nI i
theorem z_Bl.of {N : Nat} {x : Int32} (hN : N < 2 ^ 31) (c : ¬ x < 0) (d : ¬ nI N ≤ x) : z_Bl N x := by
  rcases pk_ix x hN with e | e | e
  · exact absurd e c
  · exact absurd e d
  · exact e
theorem z_Bl.no {N : Nat} {x : Int32} (hN : N < 2 ^ 31) (h : ¬ z_Bl N x) : x < 0 ∨ (¬ x < 0 ∧ nI N ≤ x) := by
  rcases pk_ix x hN with e | e | e
  · exact Or.inl e
  · by_cases c : x < 0
    · exact Or.inl c
    · exact Or.inr ⟨c, e⟩
  · exact absurd e h

theorem zo_X7has {N : Nat} {x : Int32} {post : Int32 → Prop} (hN : N ≤ 16) (h0 : ¬ z_Bl N x → post 0) (h1 : ∀ i, i < N → x = nI i → post 1) : F_X7_has (nI N) x post :=
  ⟨fun c => h0 (fun ⟨i, hi, e⟩ => nI_pos (n := i) (by omega) (e ▸ c)), fun c => ⟨fun d => h0 (fun ⟨i, hi, e⟩ => nI_ge (a := i) (b := N) hi (by omega) (e ▸ d)), fun d => by
    obtain ⟨i, hi, e⟩ := z_Bl.of (by omega) c d
    exact ⟨fun f => absurd (e ▸ f : nI 16 ≤ nI i) (nI_ge (by omega) (by decide)), fun _ => h1 i hi e⟩⟩⟩
theorem zt_X7has {N i : Nat} {post : Int32 → Prop} (hN : N ≤ 16) (hi : i < N) (h : post 1) : F_X7_has (nI N) (nI i) post := zo_X7has hN (fun c => absurd ⟨i, hi, rfl⟩ c) (fun _ _ _ => h)
theorem zf_X7has {N : Nat} {x : Int32} {post : Int32 → Prop} (hN : N ≤ 16) (c : ¬ z_Bl N x) (h : post 0) : F_X7_has (nI N) x post := zo_X7has hN (fun _ => h) (fun i hi e => absurd ⟨i, hi, e⟩ c)
theorem zo_X1has {N : Nat} {x : Int32} {post : Int32 → Prop} (hN : N ≤ 6) (h0 : ¬ z_Bl N x → post 0) (h1 : ∀ i, i < N → x = nI i → post 1) : F_X1_has (nI N) x post :=
  ⟨fun c => h0 (fun ⟨i, hi, e⟩ => nI_pos (n := i) (by omega) (e ▸ c)), fun c => ⟨fun d => h0 (fun ⟨i, hi, e⟩ => nI_ge (a := i) (b := N) hi (by omega) (e ▸ d)), fun d => by
    obtain ⟨i, hi, e⟩ := z_Bl.of (by omega) c d
    exact ⟨fun f => absurd (e ▸ f : nI 6 ≤ nI i) (nI_ge (by omega) (by decide)), fun _ => h1 i hi e⟩⟩⟩
theorem zt_X1has {N i : Nat} {post : Int32 → Prop} (hN : N ≤ 6) (hi : i < N) (h : post 1) : F_X1_has (nI N) (nI i) post := zo_X1has hN (fun c => absurd ⟨i, hi, rfl⟩ c) (fun _ _ _ => h)
theorem zf_X1has {N : Nat} {x : Int32} {post : Int32 → Prop} (hN : N ≤ 6) (c : ¬ z_Bl N x) (h : post 0) : F_X1_has (nI N) x post := zo_X1has hN (fun _ => h) (fun i hi e => absurd ⟨i, hi, e⟩ c)
theorem zo_X8has {N : Nat} {x : Int32} {post : Int32 → Prop} (hN : N ≤ 6) (h0 : ¬ z_Bl N x → post 0) (h1 : ∀ i, i < N → x = nI i → post 1) : F_X8_has (nI N) x post :=
  ⟨fun c => h0 (fun ⟨i, hi, e⟩ => nI_pos (n := i) (by omega) (e ▸ c)), fun c => ⟨fun d => h0 (fun ⟨i, hi, e⟩ => nI_ge (a := i) (b := N) hi (by omega) (e ▸ d)), fun d => by
    obtain ⟨i, hi, e⟩ := z_Bl.of (by omega) c d
    exact ⟨fun f => absurd (e ▸ f : nI 6 ≤ nI i) (nI_ge (by omega) (by decide)), fun _ => h1 i hi e⟩⟩⟩
theorem zt_X8has {N i : Nat} {post : Int32 → Prop} (hN : N ≤ 6) (hi : i < N) (h : post 1) : F_X8_has (nI N) (nI i) post := zo_X8has hN (fun c => absurd ⟨i, hi, rfl⟩ c) (fun _ _ _ => h)
theorem zf_X8has {N : Nat} {x : Int32} {post : Int32 → Prop} (hN : N ≤ 6) (c : ¬ z_Bl N x) (h : post 0) : F_X8_has (nI N) x post := zo_X8has hN (fun _ => h) (fun i hi e => absurd ⟨i, hi, e⟩ c)
theorem zo_X2has {N : Nat} {x : Int32} {post : Int32 → Prop} (hN : N ≤ 12) (h0 : ¬ z_Bl N x → post 0) (h1 : ∀ i, i < N → x = nI i → post 1) : F_X2_has (nI N) x post :=
  ⟨fun c => h0 (fun ⟨i, hi, e⟩ => nI_pos (n := i) (by omega) (e ▸ c)), fun c => ⟨fun d => h0 (fun ⟨i, hi, e⟩ => nI_ge (a := i) (b := N) hi (by omega) (e ▸ d)), fun d => by
    obtain ⟨i, hi, e⟩ := z_Bl.of (by omega) c d
    exact ⟨fun f => absurd (e ▸ f : nI 12 ≤ nI i) (nI_ge (by omega) (by decide)), fun _ => h1 i hi e⟩⟩⟩
theorem zt_X2has {N i : Nat} {post : Int32 → Prop} (hN : N ≤ 12) (hi : i < N) (h : post 1) : F_X2_has (nI N) (nI i) post := zo_X2has hN (fun c => absurd ⟨i, hi, rfl⟩ c) (fun _ _ _ => h)
theorem zf_X2has {N : Nat} {x : Int32} {post : Int32 → Prop} (hN : N ≤ 12) (c : ¬ z_Bl N x) (h : post 0) : F_X2_has (nI N) x post := zo_X2has hN (fun _ => h) (fun i hi e => absurd ⟨i, hi, e⟩ c)
theorem zo_X6has {N : Nat} {x : Int32} {post : Int32 → Prop} (hN : N ≤ 160) (h0 : ¬ z_Bl N x → post 0) (h1 : ∀ i, i < N → x = nI i → post 1) : F_X6_hasElement (nI N) x post :=
  ⟨fun c => h0 (fun ⟨i, hi, e⟩ => nI_pos (n := i) (by omega) (e ▸ c)), fun c => ⟨fun d => h0 (fun ⟨i, hi, e⟩ => nI_ge (a := i) (b := N) hi (by omega) (e ▸ d)), fun d => by
    obtain ⟨i, hi, e⟩ := z_Bl.of (by omega) c d
    exact ⟨fun f => absurd (e ▸ f : nI 160 ≤ nI i) (nI_ge (by omega) (by decide)), fun _ => h1 i hi e⟩⟩⟩
theorem zt_X6has {N i : Nat} {post : Int32 → Prop} (hN : N ≤ 160) (hi : i < N) (h : post 1) : F_X6_hasElement (nI N) (nI i) post := zo_X6has hN (fun c => absurd ⟨i, hi, rfl⟩ c) (fun _ _ _ => h)
theorem zf_X6has {N : Nat} {x : Int32} {post : Int32 → Prop} (hN : N ≤ 160) (c : ¬ z_Bl N x) (h : post 0) : F_X6_hasElement (nI N) x post := zo_X6has hN (fun _ => h) (fun i hi e => absurd ⟨i, hi, e⟩ c)
theorem zo_mStretch {N : Nat} {x : Int32} {post : Int32 → Prop} (hN : N ≤ 16) (h0 : ¬ z_Bl N x → post 0) (h1 : ∀ i, i < N → x = nI i → post 1) : F_X10_isStretch (nI N) x post :=
  ⟨fun c => h0 (fun ⟨i, hi, e⟩ => nI_pos (n := i) (by omega) (e ▸ c)), fun c => ⟨fun d => h0 (fun ⟨i, hi, e⟩ => nI_ge (a := i) (b := N) hi (by omega) (e ▸ d)), fun d => by
    obtain ⟨i, hi, e⟩ := z_Bl.of (by omega) c d
    exact h1 i hi e⟩⟩
theorem zt_mStretch {N i : Nat} {post : Int32 → Prop} (hN : N ≤ 16) (hi : i < N) (h : post 1) : F_X10_isStretch (nI N) (nI i) post := zo_mStretch hN (fun c => absurd ⟨i, hi, rfl⟩ c) (fun _ _ _ => h)
theorem zf_mStretch {N : Nat} {x : Int32} {post : Int32 → Prop} (hN : N ≤ 16) (c : ¬ z_Bl N x) (h : post 0) : F_X10_isStretch (nI N) x post := zo_mStretch hN (fun _ => h) (fun i hi e => absurd ⟨i, hi, e⟩ c)
theorem zo_mCar {N : Nat} {x : Int32} {post : Int32 → Prop} (hN : N ≤ 6) (h0 : ¬ z_Bl N x → post 0) (h1 : ∀ i, i < N → x = nI i → post 1) : F_X10_isCar (nI N) x post :=
  ⟨fun c => h0 (fun ⟨i, hi, e⟩ => nI_pos (n := i) (by omega) (e ▸ c)), fun c => ⟨fun d => h0 (fun ⟨i, hi, e⟩ => nI_ge (a := i) (b := N) hi (by omega) (e ▸ d)), fun d => by
    obtain ⟨i, hi, e⟩ := z_Bl.of (by omega) c d
    exact h1 i hi e⟩⟩
theorem zt_mCar {N i : Nat} {post : Int32 → Prop} (hN : N ≤ 6) (hi : i < N) (h : post 1) : F_X10_isCar (nI N) (nI i) post := zo_mCar hN (fun c => absurd ⟨i, hi, rfl⟩ c) (fun _ _ _ => h)
theorem zf_mCar {N : Nat} {x : Int32} {post : Int32 → Prop} (hN : N ≤ 6) (c : ¬ z_Bl N x) (h : post 0) : F_X10_isCar (nI N) x post := zo_mCar hN (fun _ => h) (fun i hi e => absurd ⟨i, hi, e⟩ c)
theorem zo_mTune {N : Nat} {x : Int32} {post : Int32 → Prop} (hN : N ≤ 6) (h0 : ¬ z_Bl N x → post 0) (h1 : ∀ i, i < N → x = nI i → post 1) : F_X10_isTune (nI N) x post :=
  ⟨fun c => h0 (fun ⟨i, hi, e⟩ => nI_pos (n := i) (by omega) (e ▸ c)), fun c => ⟨fun d => h0 (fun ⟨i, hi, e⟩ => nI_ge (a := i) (b := N) hi (by omega) (e ▸ d)), fun d => by
    obtain ⟨i, hi, e⟩ := z_Bl.of (by omega) c d
    exact h1 i hi e⟩⟩
theorem zt_mTune {N i : Nat} {post : Int32 → Prop} (hN : N ≤ 6) (hi : i < N) (h : post 1) : F_X10_isTune (nI N) (nI i) post := zo_mTune hN (fun c => absurd ⟨i, hi, rfl⟩ c) (fun _ _ _ => h)
theorem zf_mTune {N : Nat} {x : Int32} {post : Int32 → Prop} (hN : N ≤ 6) (c : ¬ z_Bl N x) (h : post 0) : F_X10_isTune (nI N) x post := zo_mTune hN (fun _ => h) (fun i hi e => absurd ⟨i, hi, e⟩ c)
theorem zo_shelfAt {x : Int32} {k0 : Prop} {k1 : Nat → Prop} (h0 : ¬ z_Bl 8 x → k0) (h1 : ∀ i, i < 8 → x = nI i → k1 i) : F_X9_shelfAt x k0 k1 := by
  refine zo_within (fun c => z_b0 (h0 (fun ⟨i, hi, e⟩ => c ⟨?_, ?_⟩))) (fun c d => ?_)
  · rw [e]; exact nI_pos' (by omega)
  · rw [e]; exact nI_le (b := 7) (by omega) (by decide)
  · obtain ⟨i, -, hi, rfl⟩ := z_rng (x := x) 0 7 c d (by decide) (by decide)
    refine z_b1 ⟨vp_in_nI (by omega) (by decide), ?_⟩
    rw [nI_clamp (by omega)]
    exact h1 i (by omega) rfl
theorem zt_shelfAt {i : Nat} {k0 : Prop} {k1 : Nat → Prop} (hi : i < 8) (h : k1 i) : F_X9_shelfAt (nI i) k0 k1 := zo_shelfAt (fun c => absurd ⟨i, hi, rfl⟩ c) (fun j hj e => by
  have e2 := (nI_eq (by omega) (by omega)).mp e
  exact e2 ▸ h)
theorem zf_shelfAt {x : Int32} {k0 : Prop} {k1 : Nat → Prop} (c : ¬ z_Bl 8 x) (h : k0) : F_X9_shelfAt x k0 k1 := zo_shelfAt (fun _ => h) (fun i hi e => absurd ⟨i, hi, e⟩ c)
theorem zo_mShelf {x : Int32} {post : Int32 → Prop} (h0 : ¬ z_Bl 8 x → post 0) (h1 : ∀ i, i < 8 → x = nI i → post 1) : F_X10_isShelf x post :=
  ⟨fun c => h0 (fun ⟨i, hi, e⟩ => nI_pos (n := i) (by omega) (e ▸ c)), fun c => ⟨fun d => h0 (fun ⟨i, hi, e⟩ => nI_ge (a := i) (b := 8) hi (by omega) (e ▸ d)), fun d => by
    obtain ⟨i, hi, e⟩ := z_Bl.of (N := 8) (by omega) c d
    exact h1 i hi e⟩⟩
theorem zt_mShelf {i : Nat} {post : Int32 → Prop} (hi : i < 8) (h : post 1) : F_X10_isShelf (nI i) post := zo_mShelf (fun c => absurd ⟨i, hi, rfl⟩ c) (fun _ _ _ => h)
theorem zf_mShelf {x : Int32} {post : Int32 → Prop} (c : ¬ z_Bl 8 x) (h : post 0) : F_X10_isShelf x post := zo_mShelf (fun _ => h) (fun i hi e => absurd ⟨i, hi, e⟩ c)

