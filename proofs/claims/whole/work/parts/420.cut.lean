/-! cutting: the pure part -/
def z_bst (v p s : Nat) (st : Nat × Nat) : Nat × Nat := if z_off (704 * v / s) p < st.2 then (s, z_off (704 * v / s) p) else st
def z_bsp (ne v p : Nat) : Nat × Nat := z_it (z_bst v p) (61 - ne) ne (ne, 1000)
theorem z_bst_t {v p s : Nat} {st : Nat × Nat} (h : z_off (704 * v / s) p < st.2) : z_bst v p s st = (s, z_off (704 * v / s) p) := if_pos h
theorem z_bst_f {v p s : Nat} {st : Nat × Nat} (h : st.2 ≤ z_off (704 * v / s) p) : z_bst v p s st = st := if_neg (by omega)
theorem z_bsp_inv {ne v p : Nat} (hne : ne ≤ 60) : (ne ≤ (z_bsp ne v p).1 ∧ (z_bsp ne v p).1 ≤ 60) ∧ (z_bsp ne v p).2 = z_off (704 * v / (z_bsp ne v p).1) p := by
  obtain ⟨k, hk⟩ : ∃ k, 61 - ne = k + 1 := ⟨60 - ne, by omega⟩
  have e : z_bsp ne v p = z_it (z_bst v p) k (ne + 1) (ne, z_off (704 * v / ne) p) := by
    unfold z_bsp
    rw [hk, z_it, z_bst_t (show z_off (704 * v / ne) p < (ne, 1000).2 from by have := z_off_b (704 * v / ne) p; show _ < 1000; omega)]
  rw [e]
  have h := z_it_inv (f := z_bst v p) (fun _ st => (ne ≤ st.1 ∧ st.1 ≤ 60) ∧ st.2 = z_off (704 * v / st.1) p) k (ne + 1) (ne, z_off (704 * v / ne) p) ⟨⟨Nat.le_refl _, hne⟩, rfl⟩ (fun j st h1 h2 h3 => by
    unfold z_bst
    split
    · exact ⟨⟨by show ne ≤ j; omega, by show j ≤ 60; omega⟩, rfl⟩
    · exact h3)
  exact h
/-- behind the first hum that isn't above the pitch no space is better -/
theorem z_bst_rest {v p : Nat} (st : Nat × Nat) : ∀ (k s : Nat), (∀ j, s ≤ j → j < s + k → st.2 ≤ z_off (704 * v / j) p) → z_it (z_bst v p) k s st = st
  | 0, _, _ => rfl
  | k + 1, s, h => by
    rw [z_it, z_bst_f (h s (Nat.le_refl _) (by omega))]
    exact z_bst_rest st k (s + 1) (fun j h1 h2 => h j (by omega) (by omega))
theorem z_off_mono {a b p : Nat} (hp : p ≠ 0) (h1 : b ≤ a) (h2 : a ≤ p) : z_off a p ≤ z_off b p := by
  unfold z_off
  rw [if_neg hp, if_neg hp, if_pos h2, if_pos (by omega)]
  have : (p - a) * 1000 / p ≤ (p - b) * 1000 / p := Nat.div_le_div_right (Nat.mul_le_mul_right _ (by omega))
  omega
/-- how many times -/
def z_tmn (pl en sp : Nat) : Nat := if pl ≤ en then 1 else max 1 (min 60 (if 2 * ((pl - en) % sp) ≤ sp then (pl - en) / sp else (pl - en) / sp + 1))
theorem z_tmn_b (pl en sp : Nat) : 1 ≤ z_tmn pl en sp ∧ z_tmn pl en sp ≤ 60 := by
  unfold z_tmn
  split
  · omega
  · split <;> omega
def z_tst (pl en sp k : Nat) (st : Nat × Nat) : Nat × Nat := if st.1 = 0 ∨ z_dist (en + k * sp) pl < st.2 then (k, z_dist (en + k * sp) pl) else st
theorem z_tmn_best {pl en sp : Nat} (hsp : 1 ≤ sp) (k : Nat) (hk1 : 1 ≤ k) (hk : k ≤ 60) : (k < z_tmn pl en sp → z_dist (en + z_tmn pl en sp * sp) pl < z_dist (en + k * sp) pl) ∧ (z_tmn pl en sp ≤ k → z_dist (en + z_tmn pl en sp * sp) pl ≤ z_dist (en + k * sp) pl) := by
  have up : ∀ a b : Nat, a < b → a * sp + sp ≤ b * sp := fun a b h => by
    have := Nat.mul_le_mul_right sp (show a + 1 ≤ b by omega)
    rw [Nat.add_mul, Nat.one_mul] at this
    exact this
  have le : ∀ a b : Nat, a ≤ b → a * sp ≤ b * sp := fun a b h => Nat.mul_le_mul_right sp h
  by_cases c : pl ≤ en
  · have e : z_tmn pl en sp = 1 := if_pos c
    rw [e, Nat.one_mul]
    refine ⟨fun h => by omega, fun h => ?_⟩
    have h1 := le 1 k h
    rw [Nat.one_mul] at h1
    unfold z_dist
    split <;> split <;> omega
  · generalize ew : pl - en = ww
    have hd := Nat.div_add_mod ww sp
    have hm := Nat.mod_lt ww (show sp > 0 by omega)
    rw [Nat.mul_comm] at hd
    have e : z_tmn pl en sp = max 1 (min 60 (if 2 * (ww % sp) ≤ sp then ww / sp else ww / sp + 1)) := by rw [← ew]; exact if_neg c
    rw [e]
    generalize ww / sp = q at *
    generalize ww % sp = r at *
    have k1 := fun T h => up k T h
    have k2 := fun T h => up T k h
    have key : ∀ T : Nat, (T = q ∧ 2 * r ≤ sp) ∨ (T = q + 1 ∧ sp < 2 * r) ∨ (T = 1 ∧ q = 0 ∧ 2 * r ≤ sp) ∨ (T = 60 ∧ 60 ≤ q) → (k < T → z_dist (en + T * sp) pl < z_dist (en + k * sp) pl) ∧ (T ≤ k → z_dist (en + T * sp) pl ≤ z_dist (en + k * sp) pl) := by
      intro T hT
      have hq : (T = q → T * sp = q * sp) := fun h => by rw [h]
      have hq1 : (T = q + 1 → T * sp = q * sp + sp) := fun h => by rw [h, Nat.add_mul, Nat.one_mul]
      have hq0 : (q = 0 → q * sp = 0) := fun h => by rw [h, Nat.zero_mul]
      have hT1 : (T = 1 → T * sp = sp) := fun h => by rw [h, Nat.one_mul]
      have hT6 : (T ≤ q → T * sp ≤ q * sp) := fun h => le T q h
      refine ⟨fun h => ?_, fun h => ?_⟩
      · have h1 := up k T h
        unfold z_dist
        rcases hT with ⟨a, b⟩ | ⟨a, b⟩ | ⟨a, b, b2⟩ | ⟨a, b⟩
        · have := hq a; split <;> split <;> omega
        · have := hq1 a; split <;> split <;> omega
        · omega
        · have := hT6 (by omega); split <;> split <;> omega
      · have h0 := le T k h
        have h1 : T < k → T * sp + sp ≤ k * sp := fun h => up T k h
        have h2 : T = k → T * sp = k * sp := fun h => by rw [h]
        have h3 : T < k ∨ T = k := by omega
        unfold z_dist
        rcases h3 with h3 | h3
        · have h4 := h1 h3
          rcases hT with ⟨a, b⟩ | ⟨a, b⟩ | ⟨a, b, b2⟩ | ⟨a, b⟩
          · have := hq a; split <;> split <;> omega
          · have := hq1 a; split <;> split <;> omega
          · have := hq0 b; have := hT1 a; split <;> split <;> omega
          · omega
        · have h4 := h2 h3
          split <;> split <;> omega
    apply key
    by_cases c2 : 2 * r ≤ sp
    · rw [if_pos c2]; omega
    · rw [if_neg c2]; omega
theorem z_tst_res {pl en sp : Nat} (hsp : 1 ≤ sp) : (z_it (z_tst pl en sp) 60 1 (0, 0)).1 = z_tmn pl en sp := by
  have h := z_it_inv (f := z_tst pl en sp) (fun j st => (j = 1 ∧ st = (0, 0)) ∨ ((1 ≤ st.1 ∧ st.1 < j) ∧ st.2 = z_dist (en + st.1 * sp) pl ∧ ∀ k, 1 ≤ k → k < j → (k < st.1 → st.2 < z_dist (en + k * sp) pl) ∧ st.2 ≤ z_dist (en + k * sp) pl)) 60 1 (0, 0) (Or.inl ⟨rfl, rfl⟩) (fun j st h1 h2 h3 => by
    refine Or.inr ?_
    unfold z_tst
    rcases h3 with ⟨e1, e2⟩ | ⟨a, b, c⟩
    · subst e2
      rw [if_pos (Or.inl rfl)]
      refine ⟨⟨h1, by show j < j + 1; omega⟩, rfl, fun k g1 g2 => ⟨fun g3 => ?_, ?_⟩⟩
      · have g4 : k < j := g3
        omega
      · rw [show k = j by omega]; exact Nat.le_refl _
    · by_cases d : st.1 = 0 ∨ z_dist (en + j * sp) pl < st.2
      · rw [if_pos d]
        have d2 : z_dist (en + j * sp) pl < st.2 := by
          rcases d with d | d
          · omega
          · exact d
        refine ⟨⟨h1, by show j < j + 1; omega⟩, rfl, fun k g1 g2 => ⟨fun g3 => ?_, ?_⟩⟩
        · have g4 : k < j := g3
          have := (c k g1 g4).2
          show z_dist (en + j * sp) pl < _
          omega
        · show z_dist (en + j * sp) pl ≤ _
          by_cases g4 : k = j
          · rw [g4]; exact Nat.le_refl _
          · have := (c k g1 (by omega)).2
            omega
      · rw [if_neg d]
        refine ⟨⟨a.1, by omega⟩, b, fun k g1 g2 => ?_⟩
        by_cases g4 : k = j
        · subst g4
          exact ⟨fun g5 => by omega, by omega⟩
        · exact c k g1 (by omega))
  rcases h with ⟨e, -⟩ | ⟨a, b, c⟩
  · exact absurd e (by decide)
  · generalize z_it (z_tst pl en sp) 60 1 (0, 0) = st at a b c
    have hb := z_tmn_b pl en sp
    have t := z_tmn_best (pl := pl) (en := en) hsp st.1 a.1 (by omega)
    have c2 := c (z_tmn pl en sp) hb.1 (by omega)
    rw [b] at c2
    by_cases g : st.1 < z_tmn pl en sp
    · have := t.1 g; omega
    · by_cases g2 : z_tmn pl en sp < st.1
      · have := c2.1 g2
        have := t.2 (by omega)
        omega
      · omega
/-! the cut of a tune -/
def z_cS (ne v : Nat) (pt : Nat → Int32) (t i : Nat) : Nat := if z_pt pt t i = 0 then 10 else (z_bsp ne v (z_pt pt t i)).1
def z_cO (ne v : Nat) (pt : Nat → Int32) (t i : Nat) : Nat := if z_pt pt t i = 0 then 0 else z_off (704 * v / z_cS ne v pt t i) (z_pt pt t i)
def z_cP (te v : Nat) (bt : Nat → Int32) (t i : Nat) : Nat := z_sum (fun i => z_pt bt t i) (i + 1) * te * 704 * v / 10000
def z_cE (ne te v : Nat) (pt bt : Nat → Int32) (t : Nat) : Nat → Nat
  | 0 => 0
  | i + 1 => z_cE ne te v pt bt t i + z_tmn (z_cP te v bt t i) (z_cE ne te v pt bt t i) (z_cS ne v pt t i) * z_cS ne v pt t i
def z_cT (ne te v : Nat) (pt bt : Nat → Int32) (t i : Nat) : Nat := z_tmn (z_cP te v bt t i) (z_cE ne te v pt bt t i) (z_cS ne v pt t i)
theorem z_cS_b {ne v : Nat} (hne1 : 2 ≤ ne) (hne2 : ne ≤ 30) (pt : Nat → Int32) (t i : Nat) : 2 ≤ z_cS ne v pt t i ∧ z_cS ne v pt t i ≤ 60 := by
  unfold z_cS
  split
  · omega
  · have := (z_bsp_inv (ne := ne) (v := v) (p := z_pt pt t i) (by omega)).1
    omega
theorem z_cO_b (ne v : Nat) (pt : Nat → Int32) (t i : Nat) : z_cO ne v pt t i ≤ 999 := by
  unfold z_cO
  split
  · omega
  · exact z_off_b _ _
theorem z_cE_b {ne te v : Nat} (hne1 : 2 ≤ ne) (hne2 : ne ≤ 30) (pt bt : Nat → Int32) (t : Nat) : ∀ i, z_cE ne te v pt bt t i ≤ 3600 * i
  | 0 => Nat.le_refl _
  | i + 1 => by
    have h1 := z_cE_b (te := te) (v := v) hne1 hne2 pt bt t i
    have h2 := z_cS_b (v := v) hne1 hne2 pt t i
    have h3 := z_tmn_b (z_cP te v bt t i) (z_cE ne te v pt bt t i) (z_cS ne v pt t i)
    have h4 := Nat.mul_le_mul h3.2 h2.2
    show z_cE ne te v pt bt t i + _ ≤ _
    omega
theorem z_cP_b {T t i te v : Nat} {bt nts pt : Nat → Int32} (hT : z_VT T bt nts pt) (ht : t < T) (hi : i < z_nt nts t) (hte : te ≤ 2000) (hv : v ≤ 99) : z_cP te v bt t i ≤ 2676326 ∧ z_sum (fun i => z_pt bt t i) (i + 1) * te * 704 * v ≤ 26763264000 := by
  have h1 := z_bsum_b hT ht (n := i + 1) (by omega)
  have h2 : z_sum (fun i => z_pt bt t i) (i + 1) * te * 704 * v ≤ 192 * 2000 * 704 * 99 := Nat.mul_le_mul (Nat.mul_le_mul (Nat.mul_le_mul h1 hte) (Nat.le_refl _)) hv
  refine ⟨?_, h2⟩
  unfold z_cP
  omega
section CUT
variable {N C T : Nat} {bs sh spd bt nts pt dm : Nat → Int32} {al ne bo te : Nat}
theorem zc_spaceFor {p v ne : Nat} (hp0 : p ≠ 0) (hp : p ≤ 9999) (hv : v ≤ 99) (hne1 : 2 ≤ ne) (hne : ne ≤ 30) {post : Int32 → Prop} (h : post (nI (z_bsp ne v p).1)) : F_X2_spaceFor (nI p) (nI ne) (nI v) post := by
  have key : ∀ (k s : Nat) (st : Nat × Nat), s + k = 61 → 2 ≤ s → st.1 ≤ 60 → st.2 ≤ 1000 → post (nI (z_it (z_bst v p) k s st).1) → L_X2_spaceFor_10 (nI p) (nI v) post (k + 1) (nI st.1) (nI st.2) (nI s) := by
    intro k
    induction k with
    | zero =>
      intro s st hs h2 h3 h4 h
      rw [L_X2_spaceFor_10]
      exact pk_lt 60 s (fun _ => h) (fun e => by omega)
    | succ k ih =>
      intro s st hs h2 h3 h4 h
      have hq := z_div_le (704 * v) s
      have ho := z_off_b (704 * v / s) p
      rw [L_X2_spaceFor_10]
      unfold F_X2_spaceFor_47
      rw [z_it] at h
      refine pk_lt 60 s (fun e => by omega) (fun _ => zc_humBy (by omega) (by omega) hv (zc_off (by omega) (by omega) ?_))
      have rest : ∀ st : Nat × Nat, 704 * v / s ≤ p → st.2 ≤ z_off (704 * v / s) p → z_it (z_bst v p) k (s + 1) st = st := fun st g1 g2 => z_bst_rest st k (s + 1) (fun j h1 h2 => Nat.le_trans g2 (z_off_mono hp0 (Nat.div_le_div_left (by omega) (by omega)) g1))
      refine pk_le st.2 (z_off (704 * v / s) p) (fun e => pk_lt p (704 * v / s) (fun e2 => nm_r (nI_1 s) ?_) (fun e2 => ?_) rfl rfl (by omega) (by omega)) (fun e => pk_lt p (704 * v / s) (fun e2 => nm_r (nI_1 s) ?_) (fun e2 => ?_) rfl rfl (by omega) (by omega)) rfl rfl (by omega) (by omega)
      · rw [z_bst_f e] at h
        exact ih (s + 1) st (by omega) (by omega) h3 h4 h
      · rw [z_bst_f e, rest st e2 e] at h
        exact h
      · rw [z_bst_t e] at h
        exact ih (s + 1) (s, z_off (704 * v / s) p) (by omega) (by omega) (show s ≤ 60 by omega) (show z_off (704 * v / s) p ≤ 1000 by omega) h
      · rw [z_bst_t e, rest (s, z_off (704 * v / s) p) e2 (Nat.le_refl _)] at h
        exact h
  exact ⟨61 - ne + 1, key (61 - ne) ne (ne, 1000) (by omega) hne1 (show ne ≤ 60 by omega) (Nat.le_refl _) h⟩
theorem z_min12 {n : Nat} (h : n ≤ 12) : (if nI n < 12 then nI n else 12) = nI n := by
  by_cases e : n < 12
  · exact if_pos (show nI n < 12 from nI_lt (b := 12) e (by decide))
  · rw [show n = 12 by omega]; rfl
theorem zc_chooseSpaces (hT : z_VT T bt nts pt) (hD : z_VD al ne bo te) (hdm : z_dm dm al ne bo te) {t v : Nat} (ht : t < T) (hv : v ≤ 99) {nc : Int32} {offs spaces : Nat → Int32} {post : Int32 → (Nat → Int32) → (Nat → Int32) → Prop} (h : ∀ o s, (∀ i, i < z_nt nts t → o i = nI (z_cO ne v pt t i) ∧ s i = nI (z_cS ne v pt t i)) → post (nI (z_nt nts t)) o s) : F_X2_chooseSpaces nc offs dm (nI T) nts pt spaces (nI t) (nI v) post := by
  obtain ⟨-, ⟨hne1, hne2⟩, hbo, hte1, hte2⟩ := hD
  have h12 := (hT.2 t ht).1.2
  unfold F_X2_chooseSpaces
  refine zc_notesOf hT ht ?_
  rw [z_min12 h12]
  have key : ∀ (k i : Nat) (o s : Nat → Int32), i + k = z_nt nts t → (∀ j, j < i → o j = nI (z_cO ne v pt t j) ∧ s j = nI (z_cS ne v pt t j)) → L_X2_chooseSpaces_20 dm (nI T) nts pt (nI t) (nI v) (nI (z_nt nts t)) post (k + 1) (nI i) o s := by
    intro k
    induction k with
    | zero =>
      intro i o s hi hos
      rw [L_X2_chooseSpaces_20]
      exact pk_le (z_nt nts t) i (fun _ => h o s (fun j hj => hos j (by omega))) (fun e => by omega)
    | succ k ih =>
      intro i o s hi hos
      have hp := ((hT.2 t ht).2 i (by omega)).1.2
      have hb := z_cS_b (v := v) hne1 hne2 pt t i
      have hq := z_div_le (704 * v) (z_cS ne v pt t i)
      have go : ∀ o' s', o' = upd o i (nI (z_cO ne v pt t i)) → s' = upd s i (nI (z_cS ne v pt t i)) → L_X2_chooseSpaces_20 dm (nI T) nts pt (nI t) (nI v) (nI (z_nt nts t)) post (k + 1) (nI (i + 1)) o' s' := by
        intro o' s' e1 e2
        subst e1 e2
        refine ih (i + 1) _ _ (by omega) (fun j hj => ?_)
        by_cases e : j = i
        · subst e; exact ⟨pk_us, pk_us⟩
        · rw [pk_un e, pk_un e]; exact hos j (by omega)
      rw [L_X2_chooseSpaces_20]
      unfold F_X2_chooseSpaces_62 F_X2_chooseSpaces_99
      rw [show (nI i).toNatClampNeg = i from nI_clamp (by omega)]
      refine pk_le (z_nt nts t) i (fun e => by omega) (fun _ => zc_pitchOf hT ht (by omega) (pk_eq (z_pt pt t i) 0 (fun e => ⟨vp_in_nI (by omega) (by decide), br_t (by rw [e]; rfl) ⟨vp_in_nI (by omega) (by decide), nm_r (nI_1 i) (go _ _ ?_ ?_)⟩⟩) (fun e => zc_asked (k := 1) (by decide) ?_)))
      · unfold z_cO; rw [if_pos e]; rfl
      · unfold z_cS; rw [if_pos e]; rfl
      · rw [hdm.2.1]
        have es : (z_bsp ne v (z_pt pt t i)).1 = z_cS ne v pt t i := by unfold z_cS; rw [if_neg e]
        refine zc_spaceFor e hp hv hne1 hne2 ?_
        rw [es]
        refine ⟨vp_in_nI (by omega) (by decide), br_f (nI_ne0 (by omega) (by omega)) (zc_humBy (by omega) (by omega) hv (zc_off (by omega) (by omega) ⟨vp_in_nI (by omega) (by decide), nm_r (nI_1 i) (go _ _ ?_ rfl)⟩))⟩
        unfold z_cO; rw [if_neg e]
  exact ⟨z_nt nts t + 1, key _ 0 offs spaces (by omega) (fun j hj => by omega)⟩
theorem z_place {b te v : Nat} (hb : b < 2 ^ 31) (hte : te < 2 ^ 31) (hv : v < 2 ^ 31) (hm : b * te * 704 * v < 2 ^ 63) : ((((nI b).toInt64 * (nI te).toInt64) * 704) * (nI v).toInt64) / 10000 = lN (b * te * 704 * v / 10000) := by
  rw [nI_l hb, nI_l hte, nI_l hv, lN_mul, show (704 : Int64) = lN 704 from rfl, lN_mul, lN_mul, show (10000 : Int64) = lN 10000 from rfl, pk_lDiv hm (by decide) (by decide)]
theorem zc_nearestTimes {pl en sp : Nat} (hpl : pl ≤ 2676326) (hen : en ≤ 50000) (hsp1 : 1 ≤ sp) (hsp : sp ≤ 60) {post : Int32 → Prop} (h : post (nI (z_tmn pl en sp))) : F_X2_nearestTimes (nI pl - nI en) (nI sp) post := by
  unfold F_X2_nearestTimes F_X2_nearestTimes_30
  unfold z_tmn at h
  by_cases c : pl ≤ en
  · rw [if_pos c] at h
    refine br_t ?_ h
    rw [Int32.le_iff_toInt_le, pk_sub_toInt (by omega) (by omega)]
    show (pl : Int) - en ≤ 0
    omega
  · rw [if_neg c] at h
    have clamp : ∀ n : Nat, n < 2 ^ 31 → (if 1 < (if 60 < nI n then (60 : Int32) else nI n) then (if 60 < nI n then (60 : Int32) else nI n) else 1) = nI (max 1 (min 60 n)) := by
      intro n hn
      by_cases e : 60 < n
      · rw [if_pos (show (60 : Int32) < nI n from nI_lt (a := 60) e hn), Nat.min_eq_left (by omega)]
        rfl
      · rw [if_neg (show ¬ (60 : Int32) < nI n from nI_nlt (a := 60) (by omega) (by decide)), Nat.min_eq_right (by omega)]
        by_cases e2 : 1 < n
        · rw [if_pos (show (1 : Int32) < nI n from nI_lt (a := 1) e2 hn), Nat.max_eq_right (by omega)]
        · rw [if_neg (show ¬ (1 : Int32) < nI n from nI_nlt (a := 1) (by omega) (by decide)), Nat.max_eq_left (by omega)]
          rfl
    rw [pk_sub (by omega)]
    have hw := z_div_le (pl - en) sp
    have hr := Nat.mod_lt (pl - en) (show sp > 0 by omega)
    refine br_f (nI_nle (by omega) (by omega)) (br_t (nI_lt (a := 0) (by omega) (by omega)) ⟨nI_ne0 (by omega) (by omega), ?_⟩)
    rw [pk_rem (by omega) (by omega) (by omega), pk_div (by omega) (by omega) (by omega), l2, pk_mul]
    refine nm_e ⟨nI_ne0 (by omega) (by omega), pk_le _ _ (fun e => ?_) (fun e => ?_) rfl rfl (by omega) (by omega)⟩
    · rw [if_pos e] at h
      rw [clamp _ (by omega)]
      exact h
    · rw [if_neg (by omega)] at h
      rw [nI_1, clamp _ (by omega)]
      exact h
theorem zc_chooseTimes (hT : z_VT T bt nts pt) (hD : z_VD al ne bo te) (hdm : z_dm dm al ne bo te) {t v : Nat} (ht : t < T) (hv : v ≤ 99) {spaces times : Nat → Int32} (hs : ∀ i, i < z_nt nts t → spaces i = nI (z_cS ne v pt t i)) {post : (Nat → Int32) → Prop} (h : ∀ m, (∀ i, i < z_nt nts t → m i = nI (z_cT ne te v pt bt t i)) → post m) : F_X2_chooseTimes (nI (z_nt nts t)) dm (nI T) bt nts spaces times (nI t) (nI v) post := by
  obtain ⟨-, ⟨hne1, hne2⟩, hbo, hte1, hte2⟩ := hD
  have h12 := (hT.2 t ht).1.2
  have key : ∀ (k i : Nat) (m : Nat → Int32), i + k = z_nt nts t → (∀ j, j < i → m j = nI (z_cT ne te v pt bt t j)) → L_X2_chooseTimes_9 (nI (z_nt nts t)) dm (nI T) bt nts spaces (nI t) (nI v) post (k + 1) (nI (z_cE ne te v pt bt t i)) (nI (z_sum (fun i => z_pt bt t i) i)) (nI i) m := by
    intro k
    induction k with
    | zero =>
      intro i m hi hm
      rw [L_X2_chooseTimes_9]
      exact pk_le (z_nt nts t) i (fun _ => h m (fun j hj => hm j (by omega))) (fun e => by omega)
    | succ k ih =>
      intro i m hi hm
      have hb := z_cS_b (v := v) hne1 hne2 pt t i
      have hE := z_cE_b (te := te) (v := v) hne1 hne2 pt bt t i
      have hP := z_cP_b hT ht (i := i) (by omega) hte2 hv
      have hB := z_bsum_b hT ht (n := i + 1) (by omega)
      have hTb := z_tmn_b (z_cP te v bt t i) (z_cE ne te v pt bt t i) (z_cS ne v pt t i)
      rw [L_X2_chooseTimes_9]
      unfold F_X2_placeOf
      rw [show (nI i).toNatClampNeg = i from nI_clamp (by omega), hs i (by omega)]
      refine pk_le (z_nt nts t) i (fun e => by omega) (fun _ => pk_le 12 i (fun e => by omega) (fun _ => zc_beatsOf hT ht (by omega) (nm_r (nI_add _ _) (zc_asked (k := 3) (by decide) ?_))))
      rw [hdm.2.2.2, z_place (b := z_sum (fun i => z_pt bt t i) i + z_pt bt t i) (by show z_sum (fun i => z_pt bt t i) (i + 1) < _; omega) (by omega) (by omega) (by show z_sum (fun i => z_pt bt t i) (i + 1) * te * 704 * v < _; omega), lN_i]
      refine ⟨vp_in_nI (by omega) (by decide), zc_nearestTimes (pl := z_cP te v bt t i) hP.1 (by omega) (by omega) hb.2 ⟨vp_in_nI (by omega) (by decide), vp_in_nI (by omega) (by decide), vp_in_nI (by omega) (by decide), ?_⟩⟩
      rw [pk_us, pk_mul]
      refine nm_r (nI_add _ _) (nm_r (nI_1 i) (ih (i + 1) _ (by omega) (fun j hj => ?_)))
      by_cases e : j = i
      · subst e; exact pk_us
      · rw [pk_un e]; exact hm j (by omega)
  exact ⟨z_nt nts t + 1, key _ 0 times (by omega) (fun j hj => by omega)⟩
theorem zc_cutFor (hT : z_VT T bt nts pt) (hD : z_VD al ne bo te) (hdm : z_dm dm al ne bo te) {t v : Nat} (ht : t < T) (hv : v ≤ 99) {nc : Int32} {offs spaces times : Nat → Int32} {post : Int32 → (Nat → Int32) → (Nat → Int32) → (Nat → Int32) → Prop} (h : ∀ o s m, (∀ i, i < z_nt nts t → o i = nI (z_cO ne v pt t i) ∧ s i = nI (z_cS ne v pt t i) ∧ m i = nI (z_cT ne te v pt bt t i)) → post (nI (z_nt nts t)) o s m) : F_X2_cutFor nc offs dm (nI T) bt nts pt spaces times (nI t) (nI v) post := by
  unfold F_X2_cutFor
  exact zc_chooseSpaces hT hD hdm ht hv (fun o s hos => zc_chooseTimes hT hD hdm ht hv (fun i hi => (hos i hi).2) (fun m hm => h o s m (fun i hi => ⟨(hos i hi).1, (hos i hi).2, hm i hi⟩)))
/-! the reference -/
theorem zl_sub_neg {a b : Nat} (ha : a < 2 ^ 30) (hb : b < 2 ^ 30) (h : a < b) : ¬ (0 ≤ lg_cmp (lN a - lN b) 0) := by
  rw [lg_cmp_ge]
  rw [Int64.le_iff_toInt_le, Int64.toInt_sub, lN_toInt (by omega), lN_toInt (by omega), Int.bmod_eq_of_le (by omega) (by omega)]
  show ¬ (0 : Int) ≤ _
  omega
theorem zl_abs {a b : Nat} (ha : a < 2 ^ 30) (hb : b < 2 ^ 30) {P : Int64 → Prop} (h : P (lN (z_dist a b))) : (0 ≤ lg_cmp (lN a - lN b) 0 → P (lN a - lN b)) ∧ (¬ 0 ≤ lg_cmp (lN a - lN b) 0 → P (-(lN a - lN b))) := by
  unfold z_dist at h
  by_cases e : b ≤ a
  · have hz : 0 ≤ lg_cmp (lN a - lN b) 0 := by
      rw [lg_cmp_ge, lN_sub e]
      exact (lN_le (a := 0) (by decide) (by omega)).mpr (Nat.zero_le _)
    refine br_t hz ?_
    rw [lN_sub e]
    by_cases e2 : a ≤ b
    · rw [if_pos e2] at h; rw [show a - b = b - a by omega]; exact h
    · rw [if_neg e2] at h; exact h
  · refine br_f (zl_sub_neg ha hb (by omega)) ?_
    rw [if_pos (by omega)] at h
    rw [Int64.neg_sub, lN_sub (by omega)]
    exact h
theorem zm_cuts51 {p v ne : Nat} (hp : p ≤ 9999) (hv : v ≤ 99) (hne1 : 2 ≤ ne) (hne : ne ≤ 30) {x1 x5 : Int32} {y3 : Int64} {a b c : Nat → Int32} {k103 : Int32 → Int32 → Prop} (h : k103 (nI (z_bsp ne v p).1) (nI (z_bsp ne v p).2)) : ∃ n, L_X10_cuts_51 x1 (nI v) y3 x5 (nI p) a b c k103 n (-1) 0 (nI ne) := by
  have key : ∀ (k s : Nat) (st : Nat × Nat), s + k = 61 → 2 ≤ s → st.1 ≤ 60 → st.2 ≤ 1000 → k103 (nI (z_it (z_bst v p) k s st).1) (nI (z_it (z_bst v p) k s st).2) → L_X10_cuts_51 x1 (nI v) y3 x5 (nI p) a b c k103 (k + 1) (nI st.1) (nI st.2) (nI s) := by
    intro k
    induction k with
    | zero =>
      intro s st hs h2 h3 h4 h
      rw [L_X10_cuts_51]
      exact pk_lt 60 s (fun _ => h) (fun e => by omega)
    | succ k ih =>
      intro s st hs h2 h3 h4 h
      have hq := z_div_le (704 * v) s
      have ho := z_off_b (704 * v / s) p
      rw [L_X10_cuts_51]
      unfold F_X10_cuts_89 F_X10_cuts_97
      rw [z_it] at h
      refine pk_lt 60 s (fun e => by omega) (fun _ => zm_humBy (by omega) (by omega) hv (zm_off (by omega) (by omega) (br_f (z_nIm (by omega)) ?_)))
      refine pk_lt (z_off (704 * v / s) p) st.2 (fun e => nm_r (nI_1 s) ?_) (fun e => nm_r (nI_1 s) ?_) rfl rfl (by omega) (by omega)
      · rw [z_bst_t e] at h
        exact ih (s + 1) (s, z_off (704 * v / s) p) (by omega) (by omega) (show s ≤ 60 by omega) (show z_off (704 * v / s) p ≤ 1000 by omega) h
      · rw [z_bst_f e] at h
        exact ih (s + 1) st (by omega) (by omega) h3 h4 h
  obtain ⟨k, hk⟩ : ∃ k, 61 - ne = k + 1 := ⟨60 - ne, by omega⟩
  have ho := z_off_b (704 * v / ne) p
  have hq := z_div_le (704 * v) ne
  have e : z_bsp ne v p = z_it (z_bst v p) k (ne + 1) (ne, z_off (704 * v / ne) p) := by
    unfold z_bsp
    rw [hk, z_it, z_bst_t (show z_off (704 * v / ne) p < (ne, 1000).2 from by show _ < 1000; omega)]
  rw [e] at h
  refine ⟨k + 2, ?_⟩
  rw [L_X10_cuts_51]
  unfold F_X10_cuts_89 F_X10_cuts_97
  refine pk_lt 60 ne (fun e => by omega) (fun _ => zm_humBy (by omega) (by omega) hv (zm_off (by omega) (by omega) (br_t rfl (nm_r (nI_1 ne) ?_))))
  exact key k (ne + 1) (ne, z_off (704 * v / ne) p) (by omega) (by omega) (show ne ≤ 60 by omega) (show z_off (704 * v / ne) p ≤ 1000 by omega) h
theorem zm_cuts141 {pl en sp i : Nat} (hpl : pl ≤ 2676326) (hen : en ≤ 50000) (hsp1 : 1 ≤ sp) (hsp : sp ≤ 60) (hi : i < 12) {x1 x2 x8 : Int32} {a b c : Nat → Int32} {k5 : Int64 → Int32 → (Nat → Int32) → (Nat → Int32) → (Nat → Int32) → Prop} (h : k5 (lN (en + z_tmn pl en sp * sp)) (nI (i + 1)) (upd a i x8) (upd b i (nI sp)) (upd c i (nI (z_tmn pl en sp)))) : ∃ n, L_X10_cuts_141 x1 x2 (lN en) (nI i) (nI sp) x8 (lN pl) k5 n 0 0 1 a b c := by
  have key : ∀ (k j : Nat) (st : Nat × Nat), j + k = 61 → st.1 ≤ 60 → st.2 ≤ 5000000 → (z_it (z_tst pl en sp) k j st).1 = z_tmn pl en sp → L_X10_cuts_141 x1 x2 (lN en) (nI i) (nI sp) x8 (lN pl) k5 (k + 1) (lN st.2) (nI st.1) (nI j) a b c := by
    intro k
    induction k with
    | zero =>
      intro j st hj h1 h2 hst
      have hst : st.1 = z_tmn pl en sp := hst
      have hb := z_tmn_b pl en sp
      have hm := Nat.mul_le_mul hb.2 hsp
      rw [L_X10_cuts_141, pk_mul, nI_l (by rw [hst]; omega), lN_add, show (nI i).toNatClampNeg = i from nI_clamp (by omega)]
      refine pk_lt 60 j (fun _ => ⟨vp_in_nI (by omega) (by decide), vp_in_nI (by omega) (by decide), vp_in_nI (by omega) (by decide), nm_e (nm_r (nI_1 i) ?_)⟩) (fun e => by omega)
      rw [hst]
      exact h
    | succ k ih =>
      intro j st hj h1 h2 hst
      rw [z_it] at hst
      have hm := Nat.mul_le_mul (show j ≤ 60 by omega) hsp
      have hd : z_dist (en + j * sp) pl ≤ 5000000 := z_dist_b (by omega) (by omega)
      rw [L_X10_cuts_141]
      unfold F_X10_cuts_176 F_X10_cuts_194 F_X10_cuts_202
      refine pk_lt 60 j (fun e => by omega) (fun _ => ?_)
      rw [pk_mul, nI_l (by omega), lN_add]
      refine nm_e ?_
      have yes : (st.1 = 0 ∨ z_dist (en + j * sp) pl < st.2) → L_X10_cuts_141 x1 x2 (lN en) (nI i) (nI sp) x8 (lN pl) k5 (k + 1) (lN (z_dist (en + j * sp) pl)) (nI j) (nI (j + 1)) a b c := fun f => by
        rw [show z_tst pl en sp j st = (j, z_dist (en + j * sp) pl) from if_pos f] at hst
        exact ih (j + 1) (j, z_dist (en + j * sp) pl) (by omega) (show j ≤ 60 by omega) hd hst
      have no : ¬ (st.1 = 0 ∨ z_dist (en + j * sp) pl < st.2) → L_X10_cuts_141 x1 x2 (lN en) (nI i) (nI sp) x8 (lN pl) k5 (k + 1) (lN st.2) (nI st.1) (nI (j + 1)) a b c := fun f => by
        rw [show z_tst pl en sp j st = st from if_neg f] at hst
        exact ih (j + 1) st (by omega) h1 h2 hst
      refine zl_abs (P := fun z => (nI st.1 ≤ 0 → (∀ x14_202 : Int32, x14_202 = nI j + 1 → L_X10_cuts_141 x1 x2 (lN en) (nI i) (nI sp) x8 (lN pl) k5 (k + 1) z (nI j) x14_202 a b c)) ∧ (¬ nI st.1 ≤ 0 → ((lg_cmp z (lN st.2) < 0 → (∀ x14_202 : Int32, x14_202 = nI j + 1 → L_X10_cuts_141 x1 x2 (lN en) (nI i) (nI sp) x8 (lN pl) k5 (k + 1) z (nI j) x14_202 a b c)) ∧ (¬ lg_cmp z (lN st.2) < 0 → (∀ x14_202 : Int32, x14_202 = nI j + 1 → L_X10_cuts_141 x1 x2 (lN en) (nI i) (nI sp) x8 (lN pl) k5 (k + 1) (lN st.2) (nI st.1) x14_202 a b c))))) (by omega) (by omega) ?_
      refine pk_le st.1 0 (fun e => nm_r (nI_1 j) (yes (Or.inl (by omega)))) (fun e => ⟨fun f => nm_r (nI_1 j) (yes (Or.inr ?_)), fun f => nm_r (nI_1 j) (no (fun g => ?_))⟩) rfl rfl (by omega) (by omega)
      · rw [lg_cmp_lt] at f
        exact (lN_lt (by omega) (by omega)).mp f
      · rcases g with g | g
        · omega
        · exact f ((lg_cmp_lt _ _).mpr ((lN_lt (by omega) (by omega)).mpr g))
  exact ⟨61, key 60 1 (0, 0) (by omega) (Nat.zero_le _) (Nat.zero_le _) (z_tst_res hsp1)⟩
theorem zm_cuts (hT : z_VT T bt nts pt) (hD : z_VD al ne bo te) {t v : Nat} (ht : t < T) (hv : v ≤ 99) {a b c : Nat → Int32} {post : (Nat → Int32) → (Nat → Int32) → (Nat → Int32) → Prop} (h : ∀ o s m, (∀ i, i < z_nt nts t → o i = nI (z_cO ne v pt t i) ∧ s i = nI (z_cS ne v pt t i) ∧ m i = nI (z_cT ne te v pt bt t i)) → post o s m) : F_X10_cuts (nI ne) (nI te) bt a b c nts pt (nI t) (nI v) post := by
  obtain ⟨-, ⟨hne1, hne2⟩, hbo, hte1, hte2⟩ := hD
  have h12 := (hT.2 t ht).1.2
  have hT1 := hT.1
  have key : ∀ (k i : Nat) (o s m : Nat → Int32), i + k = z_nt nts t → (∀ j, j < i → o j = nI (z_cO ne v pt t j) ∧ s j = nI (z_cS ne v pt t j) ∧ m j = nI (z_cT ne te v pt bt t j)) → L_X10_cuts_5 (nI ne) (nI te) bt nts pt (nI t) (nI v) post (k + 1) (lN (z_cE ne te v pt bt t i)) (nI i) o s m := by
    intro k
    induction k with
    | zero =>
      intro i o s m hi hm
      rw [L_X10_cuts_5, show (nI t).toNatClampNeg = t from nI_clamp (by omega), (hT.2 t ht).1.1]
      exact ⟨vp_in_nI (by omega) (by decide), pk_le (z_nt nts t) i (fun _ => h o s m (fun j hj => hm j (by omega))) (fun e => by omega)⟩
    | succ k ih =>
      intro i o s m hi hm
      have hp := ((hT.2 t ht).2 i (by omega)).1
      have hb := z_cS_b (v := v) hne1 hne2 pt t i
      have hE := z_cE_b (te := te) (v := v) hne1 hne2 pt bt t i
      have hP := z_cP_b hT ht (i := i) (by omega) hte2 hv
      have hB := z_bsum_b hT ht (n := i + 1) (by omega)
      have go : F_X10_cuts_103 (nI te) bt (fun y3 x5 f_cutOff f_cutSpace f_cutTimes => L_X10_cuts_5 (nI ne) (nI te) bt nts pt (nI t) (nI v) post (k + 1) y3 x5 f_cutOff f_cutSpace f_cutTimes) (nI t) (nI v) (lN (z_cE ne te v pt bt t i)) (nI i) (nI (z_cS ne v pt t i)) (nI (z_cO ne v pt t i)) o s m := by
        unfold F_X10_cuts_103
        rw [nI_1]
        refine zm_beatsTo hT ht (by omega) ?_
        rw [z_place (by omega) (by omega) (by omega) (by omega)]
        refine nm_e (zm_cuts141 (pl := z_cP te v bt t i) hP.1 (by omega) (by omega) hb.2 (by omega) (ih (i + 1) _ _ _ (by omega) (fun j hj => ?_)))
        by_cases e : j = i
        · subst e; exact ⟨pk_us, pk_us, pk_us⟩
        · rw [pk_un e, pk_un e, pk_un e]; exact hm j (by omega)
      rw [L_X10_cuts_5, show (nI t).toNatClampNeg = t from nI_clamp (by omega), (hT.2 t ht).1.1, z_ix12, nI_clamp (by omega), hp.1]
      refine ⟨vp_in_nI (by omega) (by decide), pk_le (z_nt nts t) i (fun e => by omega) (fun _ => ⟨vp_in_nI (by omega) (by decide), nm_e (pk_le (z_pt pt t i) 0 (fun e => ?_) (fun e => zm_cuts51 hp.2 hv hne1 hne2 ?_))⟩)⟩
      · rw [show z_cS ne v pt t i = 10 from if_pos (by omega), show z_cO ne v pt t i = 0 from if_pos (by omega)] at go
        exact go
      · have hinv := z_bsp_inv (ne := ne) (v := v) (p := z_pt pt t i) (by omega)
        have e1 : z_cS ne v pt t i = (z_bsp ne v (z_pt pt t i)).1 := if_neg (by omega)
        have e2 : z_cO ne v pt t i = (z_bsp ne v (z_pt pt t i)).2 := by
          rw [hinv.2, ← e1]
          exact if_neg (by omega)
        rw [e1, e2] at go
        exact go
  exact ⟨z_nt nts t + 1, key _ 0 a b c (by omega) (fun j hj => by omega)⟩
end CUT
