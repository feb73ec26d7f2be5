/-! books: words -/
def z_Ls : List (List Nat) := [[101, 118, 101, 110], [112, 97, 105, 114], [114, 101, 115, 116], [100, 101, 101, 112], [115, 108, 97, 110, 116], [116, 111, 108, 100], [99, 97, 114], [116, 117, 110, 101], [110, 111, 116, 101], [108, 111, 110, 103], [110, 101, 97, 114], [98, 111, 114, 110, 101], [116, 101, 109, 112, 111]]
def z_L (w j : Nat) : Nat := (z_Ls.getD w []).getD j 0
def z_LN (w : Nat) : Nat := (z_Ls.getD w []).length
def z_WD (c : Nat) : Nat := ([101, 118, 101, 110, 32, 0, 112, 97, 105, 114, 32, 0, 114, 101, 115, 116, 32, 0, 100, 101, 101, 112, 32, 0, 115, 108, 97, 110, 116, 32, 0, 116, 111, 108, 100, 32, 0, 99, 97, 114, 32, 0, 116, 117, 110, 101, 0, 110, 111, 116, 101, 32, 0, 108, 111, 110, 103, 32, 0, 110, 101, 97, 114, 32, 0, 98, 111, 114, 110, 101, 32, 0, 116, 101, 109, 112, 111, 32, 0] : List Nat).getD c 0
def z_P (w : Nat) : Nat := ([0, 6, 12, 18, 24, 31, 37, 42, 47, 53, 59, 65, 72, 79] : List Nat).getD w 0
def z_Z : Nat → Nat
  | 0 => 0
  | c + 1 => z_Z c + (if z_WD c = 0 then 1 else 0)
theorem zw_len : ∀ w, w < 13 → 3 ≤ z_LN w ∧ z_LN w ≤ 5 := by decide +kernel
theorem zw_let : ∀ w, w < 13 → ∀ j, j < z_LN w → 97 ≤ z_L w j ∧ z_L w j ≤ 122 := by decide +kernel
theorem zw_tl : ∀ w, w < 13 → tbLen.getD w 0 = z_LN w ∧ nI (z_LN w) >>> ((0 : Int32) &&& 31) = nI (z_LN w) := by decide +kernel
theorem zw_tb : ∀ w, w < 13 → ∀ j, j < z_LN w → ((((tbByt.getD w []).getD (nI j).toNatClampNeg 0) &&& 255).toUInt32 % 65536).toInt32 = nI (z_L w j) := by decide +kernel
theorem zw_pf : ∀ w, w < 13 → ∀ u, u < 13 → u ≠ w → z_LN w ≤ z_LN u → ∃ j, j < z_LN w ∧ z_L u j ≠ z_L w j := by decide +kernel
theorem zw_p : ∀ w, w < 13 → z_P (w + 1) = z_P w + z_LN w + (if w = 7 then 1 else 2) ∧ z_P (w + 1) ≤ 79 := by decide +kernel
theorem zw_wl : ∀ w, w < 13 → ∀ j, j < z_LN w → z_WD (z_P w + j) = z_L w j := by decide +kernel
theorem zw_wb : ∀ w, w < 13 → z_WD (z_P w + z_LN w) = (if w = 7 then 0 else 32) ∧ (w ≠ 7 → z_WD (z_P w + z_LN w + 1) = 0) := by decide +kernel
theorem zw_z : ∀ w, w < 13 → z_Z (z_P w) = w ∧ ∀ c, c < z_P w → z_Z c < w := by decide +kernel
/-- how many letters of word w stand at a -/
def z_fp (v : Nat → Int32) (n a w j : Nat) : Bool := !decide (a + j < n ∧ v (a + j) = nI (z_L w j))
def z_ft (v : Nat → Int32) (n a w : Nat) : Nat := z_ff (z_fp v n a w) (z_LN w) 0
theorem z_ft_le (v : Nat → Int32) (n a w : Nat) : z_ft v n a w ≤ z_LN w := by
  have := (z_ff_le (z_fp v n a w) (z_LN w) 0).2
  unfold z_ft
  omega
theorem z_ft_at {v : Nat → Int32} {n a w j : Nat} (h : j < z_ft v n a w) : a + j < n ∧ v (a + j) = nI (z_L w j) := by
  have h1 := z_ff_no (p := z_fp v n a w) (z_LN w) 0 j (Nat.zero_le _) h
  have h2 : decide (a + j < n ∧ v (a + j) = nI (z_L w j)) = true := by
    unfold z_fp at h1
    simpa using h1
  exact of_decide_eq_true h2
theorem z_ft_not {v : Nat → Int32} {n a w : Nat} (h : z_ft v n a w < z_LN w) : ¬ (a + z_ft v n a w < n ∧ v (a + z_ft v n a w) = nI (z_L w (z_ft v n a w))) := by
  have h1 := z_ff_yes (p := z_fp v n a w) (z_LN w) 0 (by unfold z_ft at h; omega)
  intro h2
  have h3 : z_fp v n a w (z_ft v n a w) = false := by
    unfold z_fp
    rw [decide_eq_true h2]
    rfl
  exact absurd (h3.symm.trans h1) (by decide)
theorem z_ft_n {v : Nat → Int32} {n a w : Nat} (ha : a ≤ n) : a + z_ft v n a w ≤ n := by
  by_cases e : z_ft v n a w = 0
  · omega
  · have := (z_ft_at (v := v) (n := n) (a := a) (w := w) (j := z_ft v n a w - 1) (by omega)).1
    omega
/-- no word begins another -/
theorem z_ft_pf {v : Nat → Int32} {n a w u : Nat} (hw : w < 13) (hu : u < 13) (hne : u ≠ w) (hf : z_ft v n a w = z_LN w) : z_ft v n a u < z_LN w := by
  refine Classical.byContradiction (fun h => ?_)
  have hl := z_ft_le v n a u
  obtain ⟨j, hj, hd⟩ := zw_pf w hw u hu hne (by omega)
  have e1 := (z_ft_at (v := v) (n := n) (a := a) (w := w) (j := j) (by omega)).2
  have e2 := (z_ft_at (v := v) (n := n) (a := a) (w := u) (j := j) (by omega)).2
  have hl5 := (zw_len w hw).2
  have hl6 := (zw_len u hu).2
  have b1 := (zw_let w hw j hj).2
  have b2 := (zw_let u hu j (by omega)).2
  exact hd ((nI_eq (by omega) (by omega)).mp (e2.symm.trans e1))
def z_full (v : Nat → Int32) (n a w : Nat) : Bool := decide (z_ft v n a w = z_LN w)
/-- the word that stands at a; 13: none -/
def z_wd (v : Nat → Int32) (n a : Nat) : Nat := z_ff (z_full v n a) 13 0
theorem z_wd_le (v : Nat → Int32) (n a : Nat) : z_wd v n a ≤ 13 := by
  have := (z_ff_le (z_full v n a) 13 0).2
  unfold z_wd
  omega
theorem z_wd_yes {v : Nat → Int32} {n a : Nat} (h : z_wd v n a < 13) : z_ft v n a (z_wd v n a) = z_LN (z_wd v n a) := of_decide_eq_true (z_ff_yes (p := z_full v n a) 13 0 (by unfold z_wd at h; omega))
theorem z_wd_no {v : Nat → Int32} {n a : Nat} (h : z_wd v n a = 13) (w : Nat) (hw : w < 13) : z_ft v n a w < z_LN w := by
  have h1 := z_ff_no (p := z_full v n a) 13 0 w (Nat.zero_le _) (by unfold z_wd at h; omega)
  have h2 := z_ft_le v n a w
  have h3 := of_decide_eq_false h1
  omega
theorem z_wd_un {v : Nat → Int32} {n a w : Nat} (h : z_wd v n a < 13) (hw : w < 13) (hne : w ≠ z_wd v n a) : z_ft v n a w < z_LN w ∧ z_ft v n a w < z_LN (z_wd v n a) := by
  have h1 := z_wd_yes h
  have h2 := z_ft_pf h hw hne h1
  refine ⟨?_, h2⟩
  have h3 := z_ft_le v n a w
  refine Classical.byContradiction (fun h4 => ?_)
  have h5 := z_ft_pf hw h (fun e => hne e.symm) (show z_ft v n a w = z_LN w by omega)
  omega
/-! the class -/
theorem zc_len {t : Nat} (ht : t < 13) {post : Int32 → Prop} (h : post (nI (z_LN t))) : F_J0_length_8abf5 t post := by
  unfold F_J0_length_8abf5 F_J0_coder_7d493
  obtain ⟨e1, e2⟩ := zw_tl t ht
  refine ⟨ht, ht, ht, br_f (by decide) ⟨ht, ?_⟩⟩
  rw [e1]
  show post (nI (z_LN t) >>> ((0 : Int32) &&& 31))
  rw [e2]
  exact h
theorem zc_char {t j : Nat} (ht : t < 13) (hj : j < z_LN t) {post : Int32 → Prop} (h : post (nI (z_L t j))) : F_J0_charAt_5068e t (nI j) post := by
  have hl := zw_len t ht
  have hc := zw_let t ht j hj
  have e1 := (zw_tl t ht).1
  have vc : vbC (nI (z_L t j)) := (pk_charN (by omega)).1
  unfold F_J0_charAt_5068e F_J0_isLatin1_aae02 F_J1_charAt_3b067 F_J0_checkIndex_df160 F_J3_checkIndex_8e157_null2 F_J3_checkIndex_8e157
  rw [e1, zw_tb t ht j hj]
  have fin : t < 13 ∧ (vp_in (nI j) (z_LN t) ∧ (vbC (nI (z_L t j)) ∧ (vbC (nI (z_L t j)) ∧ post (nI (z_L t j))))) := ⟨ht, vp_in_nI hj (by omega), vc, vc, h⟩
  exact ⟨ht, br_f (by decide) ⟨ht, br_t rfl (z_b1 ⟨ht, ht, br_f (nI_pos (by omega)) (br_t (nI_lt hj (by omega)) fin), br_f (nI_pos (by omega)) (br_t (nI_lt hj (by omega)) fin)⟩)⟩⟩
theorem zc_fits {n a t : Nat} (hn : n ≤ 160) (ha : a ≤ 160) (ht : t < 13) {g : Nat → Int64} {post : Int32 → Prop} (h : post (nI (z_ft (fun i => (g i).toInt32) n a t))) : F_X4_lettersFitting (nI a) (nI n) g t post := by
  have hl := zw_len t ht
  have key : ∀ k j : Nat, j + k = z_LN t → post (nI (z_ff (z_fp (fun i => (g i).toInt32) n a t) k j)) → L_X4_lettersFitting_2 (nI a) (nI n) g t post (k + 1) (nI j) := by
    intro k
    induction k with
    | zero =>
      intro j hj h
      rw [L_X4_lettersFitting_2]
      exact ⟨ht, zc_len ht (pk_le (z_LN t) j (fun _ => h) (fun e => by omega))⟩
    | succ k ih =>
      intro j hj h
      have hc := zw_let t ht j (by omega)
      rw [L_X4_lettersFitting_2]
      unfold F_X6_size
      rw [nI_add]
      refine ⟨ht, zc_len ht (pk_le (z_LN t) j (fun e => by omega) (fun _ => pk_le n (a + j) (fun e => ?_) (fun e => zc_intAt hn e ⟨ht, zc_char ht (by omega) ⟨fun e2 => nm_r (nI_1 j) (ih (j + 1) (by omega) ?_), fun e2 => ?_⟩⟩)))⟩
      · rw [z_ff_t (show z_fp (fun i => (g i).toInt32) n a t j = true by unfold z_fp; rw [decide_eq_false (fun f => by omega)]; rfl)] at h; exact h
      · rw [z_ff_f (show z_fp (fun i => (g i).toInt32) n a t j = false by unfold z_fp; rw [decide_eq_true ⟨e, e2⟩]; rfl)] at h; exact h
      · rw [z_ff_t (show z_fp (fun i => (g i).toInt32) n a t j = true by unfold z_fp; rw [decide_eq_false (fun f => e2 f.2)]; rfl)] at h; exact h
  exact ⟨z_LN t + 1, key (z_LN t) 0 (by omega) h⟩
def z_rw (v : Nat → Int32) (n a w : Nat) (s : Option Nat × Nat) : Option Nat × Nat := if s.2 < z_ft v n a w then (some w, z_ft v n a w) else s
theorem z_rw_res (v : Nat → Int32) (n a : Nat) : (z_it (z_rw v n a) 13 0 (none, 0)).2 = z_mx (z_ft v n a) 13 ∧ (∀ t, (z_it (z_rw v n a) 13 0 (none, 0)).1 = some t → t < 13 ∧ z_ft v n a t = z_mx (z_ft v n a) 13) ∧ ((z_it (z_rw v n a) 13 0 (none, 0)).1 = none → z_mx (z_ft v n a) 13 = 0) := by
  have h := z_it_inv (f := z_rw v n a) (fun j s => s.2 = z_mx (z_ft v n a) j ∧ (∀ t, s.1 = some t → t < j ∧ z_ft v n a t = s.2) ∧ (s.1 = none → s.2 = 0)) 13 0 (none, 0) ⟨rfl, fun t e => (by cases e), fun _ => rfl⟩ (fun j s _ _ h => by
    obtain ⟨h1, h2, h3⟩ := h
    unfold z_rw
    show _ = max (z_mx (z_ft v n a) j) (z_ft v n a j) ∧ _
    by_cases c : s.2 < z_ft v n a j
    · rw [if_pos c]
      refine ⟨by show z_ft v n a j = _; rw [Nat.max_eq_right (by omega)], fun t e => ?_, fun e => by cases e⟩
      cases e
      exact ⟨by omega, rfl⟩
    · rw [if_neg c]
      refine ⟨by rw [Nat.max_eq_left (by omega)]; exact h1, fun t e => ⟨by have := (h2 t e).1; omega, (h2 t e).2⟩, h3⟩)
  obtain ⟨h1, h2, h3⟩ := h
  have e : (0 : Nat) + 13 = 13 := rfl
  rw [e] at h1
  refine ⟨h1, fun t et => ?_, fun en => ?_⟩
  · have := h2 t et
    rw [h1] at this
    exact ⟨by omega, this.2⟩
  · rw [← h1]; exact h3 en
theorem z_mx_w {v : Nat → Int32} {n a : Nat} (h : z_wd v n a < 13) : z_mx (z_ft v n a) 13 = z_LN (z_wd v n a) := by
  have h1 := z_mx_ge (f := z_ft v n a) h
  rw [z_wd_yes h] at h1
  have h2 := z_mx_b2 (f := z_ft v n a) (b := z_LN (z_wd v n a)) 13 (fun i hi => by
    by_cases e : i = z_wd v n a
    · rw [e, z_wd_yes h]; exact Nat.le_refl _
    · exact Nat.le_of_lt (z_wd_un h hi e).2)
  omega
theorem zc_readWord {n a : Nat} (hn : n ≤ 160) (ha : a ≤ n) {f0 : Int32} {g : Nat → Int64} {post : Option Nat → Int32 → Int32 → Prop} (h1 : ∀ t, z_wd (fun i => (g i).toInt32) n a = t → t < 13 → post (some t) (nI (a + z_LN t)) f0) (h0 : z_wd (fun i => (g i).toInt32) n a = 13 → post none (nI (a + z_mx (z_ft (fun i => (g i).toInt32) n a) 13)) (nI (a + z_mx (z_ft (fun i => (g i).toInt32) n a) 13))) : F_X4_readWord (nI a) f0 (nI n) g post := by
  generalize hv : (fun i => (g i).toInt32) = v at h1 h0
  have key : ∀ (k w : Nat) (s : Option Nat × Nat), w + k = 13 → s.2 ≤ 5 → (∀ t, s.1 = some t → t < 13) → (∀ r, r = z_it (z_rw v n a) k w s → (r.1 = none → post none (nI (a + r.2)) (nI (a + r.2))) ∧ (∀ t, r.1 = some t → (z_LN t ≤ r.2 → post (some t) (nI (a + r.2)) f0) ∧ (r.2 < z_LN t → post none (nI (a + r.2)) (nI (a + r.2))))) → L_X4_readWord_6 (nI n) g post (k + 1) s.1 (nI s.2) (nI w) (nI a) f0 := by
    intro k
    induction k with
    | zero =>
      intro w s hw hs ht hr
      have hr := hr s rfl
      rw [L_X4_readWord_6]
      unfold F_X4_readWord_75
      rw [nI_add]
      refine ⟨fun e => pk_le 13 w (fun _ => hr.1 e) (fun e => by omega), fun t e => pk_le 13 w (fun _ => ?_) (fun e => by omega)⟩
      have tl := ht t e
      have hl := zw_len t tl
      have h2 := hr.2 t e
      exact ⟨tl, tl, zc_len tl (pk_le (z_LN t) s.2 (fun e2 => h2.1 e2) (fun e2 => h2.2 e2))⟩
    | succ k ih =>
      intro w s hw hs ht hr
      have hl := zw_len w (by omega)
      have hf := z_ft_le v n a w
      rw [z_it] at hr
      have go : ∀ o : Option Nat, o = s.1 → (nI (z_ft v n a w) ≤ nI s.2 → L_X4_readWord_6 (nI n) g post (k + 1) o (nI s.2) (nI (w + 1)) (nI a) f0) ∧ (¬ nI (z_ft v n a w) ≤ nI s.2 → L_X4_readWord_6 (nI n) g post (k + 1) (some w) (nI (z_ft v n a w)) (nI (w + 1)) (nI a) f0) := by
        intro o eo
        subst eo
        refine pk_le _ _ (fun e => ?_) (fun e => ?_) rfl rfl (by omega) (by omega)
        · rw [show z_rw v n a w s = s from if_neg (by omega)] at hr
          exact ih (w + 1) s (by omega) hs ht hr
        · rw [show z_rw v n a w s = (some w, z_ft v n a w) from if_pos e] at hr
          exact ih (w + 1) (some w, z_ft v n a w) (by omega) (show z_ft v n a w ≤ 5 by omega) (fun t e => by cases e; omega) hr
      rw [L_X4_readWord_6]
      unfold F_X4_readWord_44
      rw [nI_clamp (by omega)]
      have step : ∀ o : Option Nat, o = s.1 → F_X4_lettersFitting (nI a) (nI n) g w (fun r27 => ((r27 ≤ nI s.2 → ((o = none → (∀ x3_44 : Int32, x3_44 = nI w + 1 → L_X4_readWord_6 (nI n) g post (k + 1) none (nI s.2) x3_44 (nI a) f0)) ∧ (∀ t1_2 : Nat, o = some t1_2 → (∀ x3_44 : Int32, x3_44 = nI w + 1 → L_X4_readWord_6 (nI n) g post (k + 1) (some t1_2) (nI s.2) x3_44 (nI a) f0)))) ∧ (¬ r27 ≤ nI s.2 → (((some w : Option Nat) = none → (∀ x3_44 : Int32, x3_44 = nI w + 1 → L_X4_readWord_6 (nI n) g post (k + 1) none r27 x3_44 (nI a) f0)) ∧ (∀ t1_2 : Nat, (some w : Option Nat) = some t1_2 → (∀ x3_44 : Int32, x3_44 = nI w + 1 → L_X4_readWord_6 (nI n) g post (k + 1) (some t1_2) r27 x3_44 (nI a) f0)))))) := by
        intro o eo
        refine zc_fits hn (by omega) (by omega) ?_
        rw [hv]
        have gg := go o eo
        refine ⟨fun e => ⟨fun eo2 => nm_r (nI_1 w) ?_, fun t eo2 => nm_r (nI_1 w) ?_⟩, fun e => ⟨fun e2 => (by cases e2), fun t e2 => nm_r (nI_1 w) ?_⟩⟩
        · rw [← eo2]; exact gg.1 e
        · rw [← eo2]; exact gg.1 e
        · cases e2; exact gg.2 e
      refine ⟨fun eo => pk_le 13 w (fun e => by omega) (fun _ => ⟨vp_in_nI (by omega) (by decide), by omega, step none eo.symm⟩), fun t eo => pk_le 13 w (fun e => by omega) (fun _ => ⟨vp_in_nI (by omega) (by decide), by omega, step (some t) eo.symm⟩)⟩
  refine ⟨14, key 13 0 (none, 0) (by omega) (Nat.zero_le _) (fun t e => by cases e) (fun r er => ?_)⟩
  have hres := z_rw_res v n a
  rw [← er] at hres
  obtain ⟨r1, r2, r3⟩ := hres
  rw [r1]
  by_cases c : z_wd v n a < 13
  · have hm := z_mx_w c
    have hl := zw_len _ c
    refine ⟨fun e => by have := r3 e; omega, fun t e => ?_⟩
    obtain ⟨t1, t2⟩ := r2 t e
    have et : t = z_wd v n a := Classical.byContradiction (fun hne => by have := (z_wd_un c t1 hne).2; omega)
    rw [hm, et]
    exact ⟨fun _ => h1 _ rfl c, fun f => by omega⟩
  · have c2 : z_wd v n a = 13 := by have := z_wd_le v n a; omega
    refine ⟨fun _ => h0 c2, fun t e => ⟨fun f => ?_, fun _ => h0 c2⟩⟩
    obtain ⟨t1, t2⟩ := r2 t e
    have := z_wd_no c2 t t1
    omega
/-! the reference -/
section MODEL
variable {s n : Nat} {cells : Nat → Int64} {wds : Nat → Int32} {v : Nat → Int32}
theorem zm_isWordAt (hs : s < 8) (hn : n ≤ 160) (hW : ∀ k, k < 79 → wds k = nI (z_WD k)) (hv : ∀ i, i < 160 → v i = (cells (160 * s + i)).toInt32) {a w : Nat} (ha : a ≤ n) (hw : w < 13) {post : Int32 → Prop} (h1 : z_ft v n a w = z_LN w → post 1) (h0 : z_ft v n a w < z_LN w → post 0) : F_X10_isWordAt (nI (160 * s)) (nI a) (nI n) cells wds (nI w) post := by
  have hl := zw_len w hw
  have hp := zw_p w hw
  have hz := zw_z w hw
  have hb := (zw_wb w hw).1
  have h79 : z_P w + z_LN w < 79 := by
    have := hp.1
    split at this <;> omega
  have inner : ∀ k j : Nat, j + k = z_LN w → z_ft v n a w = z_ff (z_fp v n a w) k j → L_X10_isWordAt_37 (nI (160 * s)) (nI n) cells wds (fun x2_1 => F_X10_isWordAt_86 wds post x2_1) (k + 1) (nI (z_P w + j)) (nI (a + j)) := by
    intro k
    induction k with
    | zero =>
      intro j hj hf
      have ej : j = z_LN w := by omega
      subst ej
      rw [L_X10_isWordAt_37]
      unfold F_X10_isWordAt_86
      rw [nI_clamp (by omega), hW _ (by omega), hb]
      have e7 : (if w = 7 then 0 else 32) ≤ 32 := by split <;> omega
      generalize (if w = 7 then 0 else 32) = c at e7
      exact ⟨vp_in_nI (by omega) (by decide), pk_le c 32 (fun _ => ⟨vp_in_nI (by omega) (by decide), pk_lt 32 c (fun e => by omega) (fun _ => h1 (by rw [hf]; rfl))⟩) (fun e => by omega)⟩
    | succ k ih =>
      intro j hj hf
      have hc := zw_let w hw j (by omega)
      have hwl := zw_wl w hw j (by omega)
      have bad : z_fp v n a w j = true → F_X10_isWordAt_86 wds post (nI (z_P w + j)) := fun e => by
        rw [z_ff_t e] at hf
        unfold F_X10_isWordAt_86
        rw [nI_clamp (by omega), hW _ (by omega), hwl]
        exact ⟨vp_in_nI (by omega) (by decide), pk_lt 32 (z_L w j) (fun _ => h0 (by omega)) (fun e => by omega)⟩
      rw [L_X10_isWordAt_37, nI_add, nI_clamp (by omega), hW _ (by omega), hwl]
      refine ⟨vp_in_nI (by omega) (by decide), pk_le (z_L w j) 32 (fun e => by omega) (fun _ => pk_le n (a + j) (fun e => bad (by unfold z_fp; rw [decide_eq_false (fun f => by omega)]; rfl)) (fun e => ⟨vp_in_nI (by omega) (by decide), vp_in_nI (by omega) (by decide), ?_⟩))⟩
      rw [nI_clamp (by omega), ← hv (a + j) (by omega)]
      refine ⟨fun e2 => nm_r (nI_1 _) (nm_r (nI_1 _) ?_), fun e2 => bad (by unfold z_fp; rw [decide_eq_false (fun f => e2 f.2)]; rfl)⟩
      rw [z_ff_f (show z_fp v n a w j = false by unfold z_fp; rw [decide_eq_true ⟨e, e2⟩]; rfl)] at hf
      exact ih (j + 1) (by omega) hf
  have outer : ∀ k c : Nat, c + k = z_P w → L_X10_isWordAt_4 (nI (160 * s)) (nI a) (nI n) cells wds (nI w) post (k + 1) (nI c) (nI (z_Z c)) := by
    intro k
    induction k with
    | zero =>
      intro c hc
      rw [L_X10_isWordAt_4, show c = z_P w by omega, hz.1]
      exact pk_le w w (fun _ => ⟨z_LN w + 1, inner (z_LN w) 0 (by omega) rfl⟩) (fun e => by omega)
    | succ k ih =>
      intro c hc
      have h2 := hz.2 c (by omega)
      have ih1 := ih (c + 1) (by omega)
      have hzl : z_WD c < 2 ^ 31 := by
        have : ∀ k, k < 79 → z_WD k < 2 ^ 31 := by decide +kernel
        exact this c (by omega)
      rw [L_X10_isWordAt_4]
      unfold F_X10_isWordAt_24
      rw [nI_clamp (by omega), hW _ (by omega)]
      refine pk_le w (z_Z c) (fun e => by omega) (fun _ => ⟨vp_in_nI (by omega) (by decide), pk_eq (z_WD c) 0 (fun e => nm_r (nI_1 _) (nm_r (nI_1 c) ?_)) (fun e => nm_r (e' := nI (z_Z c)) (Int32.add_zero _) (nm_r (nI_1 c) ?_)) rfl rfl hzl (by decide)⟩)
      · rw [z_Z, if_pos e] at ih1; exact ih1
      · rw [z_Z, if_neg e, Nat.add_zero] at ih1; exact ih1
  have k0 := outer (z_P w) 0 (by omega)
  exact ⟨_, k0⟩
/-- the word that is complete at a, with its blank -/
def z_bl (v : Nat → Int32) (n p : Nat) : Prop := p < n ∧ v p = 32
def z_pl (w : Nat) : Nat := if w = 7 then z_LN w else z_LN w + 1
theorem zm_word (hs : s < 8) (hn : n ≤ 160) (hW : ∀ k, k < 79 → wds k = nI (z_WD k)) (hv : ∀ i, i < 160 → v i = (cells (160 * s + i)).toInt32) {a : Nat} (ha : a ≤ n) {wa : Int32} {post : Int32 → Int32 → Int32 → Prop} (h1 : z_wd v n a < 13 → (z_wd v n a = 7 ∨ z_bl v n (a + z_LN (z_wd v n a))) → post (nI (z_wd v n a)) (nI (a + z_pl (z_wd v n a))) wa) (h0 : ¬ (z_wd v n a < 13 ∧ (z_wd v n a = 7 ∨ z_bl v n (a + z_LN (z_wd v n a)))) → post (-1) (nI a) (nI (a + z_mx (z_ft v n a) 13))) : F_X10_word (nI (160 * s)) (nI a) (nI n) wa cells wds post := by
  have wdb : ∀ k, k < 79 → z_WD k ≤ 122 := by decide +kernel
  -- the walk over one word
  have inner : ∀ (w : Nat) (k75 : Int32 → Int32 → Prop), w < 13 → (z_ft v n a w < z_LN w → k75 (nI (a + z_ft v n a w)) (nI (z_P w + z_ft v n a w))) → (z_ft v n a w = z_LN w → w = 7 → k75 (nI (a + z_LN w)) (nI (z_P w + z_LN w))) → (z_ft v n a w = z_LN w → w ≠ 7 → z_bl v n (a + z_LN w) → k75 (nI (a + z_LN w + 1)) (nI (z_P w + z_LN w + 1))) → (z_ft v n a w = z_LN w → w ≠ 7 → ¬ z_bl v n (a + z_LN w) → k75 (nI (a + z_LN w)) (nI (z_P w + z_LN w))) → ∃ m, L_X10_word_24 (nI (160 * s)) (nI n) cells wds k75 m (nI a) (nI (z_P w)) := by
    intro w k75 hw g0 g7 gb gn
    have hl := zw_len w hw
    have hp := zw_p w hw
    have hb := zw_wb w hw
    have key : ∀ k j : Nat, j + k = z_LN w → z_ft v n a w = z_ff (z_fp v n a w) k j → L_X10_word_24 (nI (160 * s)) (nI n) cells wds k75 (k + 2) (nI (a + j)) (nI (z_P w + j)) := by
      intro k
      induction k with
      | zero =>
        intro j hj hf
        have ej : j = z_LN w := by omega
        subst ej
        have hfull : z_ft v n a w = z_LN w := hf
        have han := z_ft_n (v := v) (w := w) ha
        by_cases e7 : w = 7
        · have h79 : z_P w + z_LN w < 79 := by have := hp.1; rw [if_pos e7] at this; omega
          have hb0 : z_WD (z_P w + z_LN w) = 0 := by rw [hb.1, if_pos e7]
          rw [L_X10_word_24, nI_clamp (by omega), hW _ h79, hb0]
          exact ⟨vp_in_nI h79 (by decide), br_t rfl (g7 hfull e7)⟩
        · have h79 : z_P w + z_LN w + 1 < 79 := by have := hp.1; rw [if_neg e7] at this; omega
          have hb0 : z_WD (z_P w + z_LN w) = 32 := by rw [hb.1, if_neg e7]
          have hb1 : z_WD (z_P w + z_LN w + 1) = 0 := hb.2 e7
          have ge : L_X10_word_24 (nI (160 * s)) (nI n) cells wds k75 2 (nI (a + z_LN w)) (nI (z_P w + z_LN w)) := by
            rw [L_X10_word_24, show (nI (z_P w + z_LN w)).toNatClampNeg = z_P w + z_LN w from nI_clamp (by omega), hW _ (by omega), hb0, nI_add]
            refine ⟨vp_in_nI (by omega) (by decide), br_f (by decide) (pk_le n (a + z_LN w) (fun e => gn hfull e7 (fun f => by have := f.1; omega)) (fun e => ⟨vp_in_nI (by omega) (by decide), vp_in_nI (by omega) (by decide), ?_⟩))⟩
            rw [nI_clamp (by omega), ← hv (a + z_LN w) (by omega)]
            refine ⟨fun e2 => nm_r (nI_1 _) (nm_r (nI_1 _) ?_), fun e2 => gn hfull e7 (fun f => e2 f.2)⟩
            rw [L_X10_word_24, show (nI (z_P w + z_LN w + 1)).toNatClampNeg = z_P w + z_LN w + 1 from nI_clamp (by omega), hW _ h79, hb1]
            exact ⟨vp_in_nI h79 (by decide), br_t rfl (gb hfull e7 ⟨e, e2⟩)⟩
          exact ge
      | succ k ih =>
        intro j hj hf
        have hc := zw_let w hw j (by omega)
        have hwl := zw_wl w hw j (by omega)
        have h79 : z_P w + z_LN w < 79 := by have := hp.1; split at this <;> omega
        have bad : z_fp v n a w j = true → k75 (nI (a + j)) (nI (z_P w + j)) := fun e => by
          rw [z_ff_t e] at hf
          rw [hf] at g0
          exact g0 (by omega)
        rw [L_X10_word_24, show (nI (z_P w + j)).toNatClampNeg = z_P w + j from nI_clamp (by omega), hW _ (by omega), hwl, nI_add]
        refine ⟨vp_in_nI (by omega) (by decide), br_f (nI_ne0 (by omega) (by omega)) (pk_le n (a + j) (fun e => bad (by unfold z_fp; rw [decide_eq_false (fun f => by omega)]; rfl)) (fun e => ⟨vp_in_nI (by omega) (by decide), vp_in_nI (by omega) (by decide), ?_⟩))⟩
        rw [nI_clamp (by omega), ← hv (a + j) (by omega)]
        refine ⟨fun e2 => nm_r (nI_1 _) (nm_r (nI_1 _) ?_), fun e2 => bad (by unfold z_fp; rw [decide_eq_false (fun f => e2 f.2)]; rfl)⟩
        rw [z_ff_f (show z_fp v n a w j = false by unfold z_fp; rw [decide_eq_true ⟨e, e2⟩]; rfl)] at hf
        exact ih (j + 1) (by omega) hf
    exact ⟨_, key (z_LN w) 0 (by omega) rfl⟩
  have adv : ∀ (w : Nat) (x2 x3 va wa : Int32) (k9 : Int32 → Int32 → Int32 → Int32 → Int32 → Prop), w < 13 → k9 (nI (z_P (w + 1))) x2 (x3 + 1) va wa → ∃ m, L_X10_word_106 wds x2 x3 va wa k9 m (nI (z_P w)) := by
    intro w x2 x3 va wa k9 hw hk
    have hp := zw_p w hw
    have hpl : z_P (w + 1) ≥ z_P w + 1 := by have := hp.1; split at this <;> omega
    have nz : ∀ w, w < 13 → ∀ j, j < z_P (w + 1) - 1 - z_P w → z_WD (z_P w + j) ≠ 0 := by decide +kernel
    have zz : ∀ w, w < 13 → z_WD (z_P (w + 1) - 1) = 0 := by decide +kernel
    have key : ∀ k j : Nat, j + k = z_P (w + 1) - 1 - z_P w → L_X10_word_106 wds x2 x3 va wa k9 (k + 1) (nI (z_P w + j)) := by
      intro k
      induction k with
      | zero =>
        intro j hj
        have ej : z_P w + j = z_P (w + 1) - 1 := by omega
        rw [L_X10_word_106, ej, nI_clamp (by omega), hW _ (by omega), zz w hw]
        refine ⟨vp_in_nI (by omega) (by decide), br_t rfl (nm_r (e' := nI (z_P (w + 1))) (by rw [nI_1, show z_P (w + 1) - 1 + 1 = z_P (w + 1) by omega]) (nm_e hk))⟩
      | succ k ih =>
        intro j hj
        have h1 := nz w hw j (by omega)
        have h2 := wdb (z_P w + j) (by omega)
        rw [L_X10_word_106, nI_clamp (by omega), hW _ (by omega)]
        exact ⟨vp_in_nI (by omega) (by decide), br_f (nI_ne0 (by omega) (by omega)) (nm_r (nI_1 _) (ih (j + 1) (by omega)))⟩
    exact ⟨_, key _ 0 (Nat.zero_add _)⟩
  have key : ∀ k w : Nat, w + k = 13 → (z_wd v n a < 13 → (z_wd v n a = 7 ∨ z_bl v n (a + z_LN (z_wd v n a))) → w ≤ z_wd v n a) → L_X10_word_9 (nI (160 * s)) (nI n) cells wds post (k + 1) (nI (z_P w)) (nI (a + z_mx (z_ft v n a) w)) (nI w) (nI a) wa := by
    intro k
    induction k with
    | zero =>
      intro w hw hwd
      rw [L_X10_word_9]
      refine pk_le 13 w (fun _ => ?_) (fun e => by omega)
      rw [show w = 13 by omega]
      exact h0 (fun f => by have := hwd f.1 f.2; omega)
    | succ k ih =>
      intro w hw hwd
      have hl := zw_len w (by omega)
      have hf := z_ft_le v n a w
      have hmb := z_mx_b2 (f := z_ft v n a) (b := 5) w (fun i hi => Nat.le_trans (z_ft_le v n a i) (zw_len i (by omega)).2)
      rw [L_X10_word_9]
      unfold F_X10_word_75 F_X10_word_105
      -- not complete: on to the next word
      have on : ∀ q : Nat, q = z_ft v n a w → (z_wd v n a < 13 → (z_wd v n a = 7 ∨ z_bl v n (a + z_LN (z_wd v n a))) → w ≠ z_wd v n a) → (nI (a + q) ≤ nI (a + z_mx (z_ft v n a) w) → (∃ m, L_X10_word_106 wds (nI (a + z_mx (z_ft v n a) w)) (nI w) (nI a) wa (fun x1 x2 x3 v_at v_wrongAt => L_X10_word_9 (nI (160 * s)) (nI n) cells wds post (k + 1) x1 x2 x3 v_at v_wrongAt) m (nI (z_P w)))) ∧ (¬ nI (a + q) ≤ nI (a + z_mx (z_ft v n a) w) → (∃ m, L_X10_word_106 wds (nI (a + q)) (nI w) (nI a) wa (fun x1 x2 x3 v_at v_wrongAt => L_X10_word_9 (nI (160 * s)) (nI n) cells wds post (k + 1) x1 x2 x3 v_at v_wrongAt) m (nI (z_P w)))) := by
        intro q eq hne
        subst eq
        have ih1 := ih (w + 1) (by omega) (fun c1 c2 => by have := hwd c1 c2; have := hne c1 c2; omega)
        rw [← nI_1] at ih1
        refine pk_le _ _ (fun e => adv w _ _ _ _ _ (by omega) ?_) (fun e => adv w _ _ _ _ _ (by omega) ?_) rfl rfl (by omega) (by omega)
        · rw [show z_mx (z_ft v n a) (w + 1) = z_mx (z_ft v n a) w from Nat.max_eq_left (by omega)] at ih1
          exact ih1
        · rw [show z_mx (z_ft v n a) (w + 1) = z_ft v n a w from Nat.max_eq_right (by omega)] at ih1
          exact ih1
      have hp := zw_p w (by omega)
      have hb := zw_wb w (by omega)
      have iswd : z_ft v n a w = z_LN w → w = z_wd v n a := fun e => by
        by_cases c : z_wd v n a < 13
        · refine Classical.byContradiction (fun hne => ?_)
          have := (z_wd_un c (by omega) hne).1
          omega
        · have := z_wd_no (v := v) (n := n) (a := a) (by have := z_wd_le v n a; omega) w (by omega)
          omega
      refine pk_le 13 w (fun e => by omega) (fun _ => inner w _ (by omega) (fun e => ?_) (fun e e7 => ?_) (fun e e7 eb => ?_) (fun e e7 eb => ?_))
      · have hwl := zw_wl w (by omega) (z_ft v n a w) e
        have hc := zw_let w (by omega) (z_ft v n a w) e
        have h79 : z_P w + z_LN w < 79 := by have := hp.1; split at this <;> omega
        rw [show (nI (z_P w + z_ft v n a w)).toNatClampNeg = z_P w + z_ft v n a w from nI_clamp (by omega), hW _ (by omega), hwl]
        exact ⟨vp_in_nI (by omega) (by decide), br_f (nI_ne0 (by omega) (by omega)) (on _ rfl (fun c1 c2 f => by have := z_wd_yes c1; rw [← f] at this; omega))⟩
      · have h79 : z_P w + z_LN w < 79 := by have := hp.1; rw [if_pos e7] at this; omega
        have hb0 : z_WD (z_P w + z_LN w) = 0 := by rw [hb.1, if_pos e7]
        rw [show (nI (z_P w + z_LN w)).toNatClampNeg = z_P w + z_LN w from nI_clamp (by omega), hW _ h79, hb0]
        refine ⟨vp_in_nI h79 (by decide), br_t rfl ?_⟩
        have ew := iswd e
        rw [← ew] at h1
        have := h1 (by omega) (Or.inl e7)
        unfold z_pl at this
        rw [if_pos e7] at this
        exact this
      · have h79 : z_P w + z_LN w + 1 < 79 := by have := hp.1; rw [if_neg e7] at this; omega
        have hb1 : z_WD (z_P w + z_LN w + 1) = 0 := hb.2 e7
        rw [show (nI (z_P w + z_LN w + 1)).toNatClampNeg = z_P w + z_LN w + 1 from nI_clamp (by omega), hW _ h79, hb1]
        refine ⟨vp_in_nI h79 (by decide), br_t rfl ?_⟩
        have ew := iswd e
        rw [← ew] at h1
        have := h1 (by omega) (Or.inr eb)
        unfold z_pl at this
        rw [if_neg e7] at this
        exact this
      · have h79 : z_P w + z_LN w + 1 < 79 := by have := hp.1; rw [if_neg e7] at this; omega
        have hb0 : z_WD (z_P w + z_LN w) = 32 := by rw [hb.1, if_neg e7]
        rw [show (nI (z_P w + z_LN w)).toNatClampNeg = z_P w + z_LN w from nI_clamp (by omega), hW _ (by omega), hb0]
        have ew := iswd e
        refine ⟨vp_in_nI (by omega) (by decide), br_f (by decide) (on _ e.symm (fun c1 c2 f => ?_))⟩
        rw [← ew] at c2
        rcases c2 with c2 | c2
        · exact e7 c2
        · exact eb c2
  have k0 := key 13 0 (by omega) (fun _ _ => Nat.zero_le _)
  exact ⟨14, k0⟩
end MODEL
