/-! books: all items -/
theorem z_VT.note {T i p b : Nat} {bt nts pt : Nat → Int32} (hT : z_VT (T + 1) bt nts pt) (hi : i = z_nt nts T) (h12 : i < 12) (hp : p ≤ 9999) (hb1 : 1 ≤ b) (hb2 : b ≤ 16) : z_VT (T + 1) (upd bt (12 * T + i) (nI b)) (upd nts T (nI (i + 1))) (upd pt (12 * T + i) (nI p)) := by
  refine ⟨hT.1, fun t ht => ?_⟩
  obtain ⟨⟨b1, b2⟩, b3⟩ := hT.2 t ht
  by_cases e : t = T
  · subst e
    have e1 : z_nt (upd nts t (nI (i + 1))) t = i + 1 := by unfold z_nt; rw [pk_us, z_tn_nI (by omega)]
    rw [e1]
    refine ⟨⟨pk_us, by omega⟩, fun j hj => ?_⟩
    unfold z_pt
    by_cases ej : j = i
    · subst ej
      rw [pk_us, pk_us, z_tn_nI (by omega), z_tn_nI (by omega)]
      exact ⟨⟨rfl, hp⟩, rfl, hb1, hb2⟩
    · rw [pk_un (by omega), pk_un (by omega)]
      exact b3 j (by omega)
  · have e1 : z_nt (upd nts T (nI (i + 1))) t = z_nt nts t := by unfold z_nt; rw [pk_un e]
    rw [e1, pk_un e]
    refine ⟨⟨b1, b2⟩, fun j hj => ?_⟩
    unfold z_pt
    rw [pk_un (by omega), pk_un (by omega)]
    exact b3 j hj
section LOOP
variable {n a : Nat} {v : Nat → Int32} {σ : Nat → Nat} {α : Nat → Nat → Int32}
theorem z_val_b {p0 W S i : Nat} (h : z_iok v n p0 W S i = true) : z_lo W i ≤ z_val v n p0 i ∧ z_val v n p0 i ≤ z_hi W i S := (z_nok_t h).2.2
theorem z_VA.item (hV : z_VA σ α) (h : z_flt v n σ α a = none) : z_VA (z_eσ (z_wd v n a) (z_val v n (a + z_LN (z_wd v n a))) σ) (z_eα (z_wd v n a) (z_val v n (a + z_LN (z_wd v n a))) σ α) := by
  obtain ⟨hw, hf, ho⟩ := z_flt_i h
  have hf' := z_ful_f hf
  obtain ⟨hS, hC, hT, hD, hdm⟩ := hV
  have hN16 := hS.1
  have hC6 := hC.1
  have hT6 := hT.1
  have hb := fun j hj => z_val_b (ho j hj)
  clear ho h hf
  generalize z_val v n (a + z_LN (z_wd v n a)) = V at *
  generalize z_wd v n a = W at *
  by_cases c : W < 6
  · have c6 : ¬ W = 6 := by omega
    have c7 : ¬ W = 7 := by omega
    have c8 : ¬ W = 8 := by omega
    have c9 : ¬ 9 ≤ W := by omega
    unfold z_VA
    simp only [z_eσ, z_eα, if_pos c, if_neg c6, if_neg c7, if_neg c8, if_neg c9, if_neg (show ¬ W = 9 by omega), if_neg (show ¬ W = 10 by omega), if_neg (show ¬ W = 11 by omega), if_neg (show ¬ W = 12 by omega)]
    refine ⟨hS.add (by omega) ⟨nI_pos' (by omega), nI_le (b := 6) (by omega) (by decide)⟩ ?_, hC, hT, hD, hdm⟩
    obtain ⟨l0, l1, l2⟩ := zi_lo W c
    have mm := zi_mn W c
    have b0 := hb 0 (by omega)
    have b1 := hb 1 (by omega)
    have bl := hb (z_mn W - 1) (by omega)
    rw [zi_hi c] at b0 b1 bl
    have ll : z_lo W (z_mn W - 1) = 1 := by
      rcases mm with e | e
      · rw [e]; rw [e] at l1; exact l1
      · rw [e]; exact l2
    have g : ∀ x : Nat, x ≤ 60 → nI x ≤ 60 := fun x hx => nI_le (b := 60) hx (by decide)
    have g1 : ∀ x : Nat, 1 ≤ x → x ≤ 60 → (1 : Int32) ≤ nI x := fun x h1 h2 => nI_le (a := 1) h1 (by omega)
    refine ⟨⟨g1 _ (by omega) b0.2, g _ b0.2⟩, ⟨nI_pos' ?_, g _ ?_⟩, ⟨g1 _ (by omega) bl.2, g _ bl.2⟩⟩
    · split <;> omega
    · split <;> omega
  by_cases c6 : W = 6
  · subst c6
    have b0 : 1 ≤ V 0 ∧ V 0 ≤ 99 := hb 0 (by decide)
    have b1 : 0 ≤ V 1 ∧ V 1 ≤ 999 := hb 1 (by decide)
    have b2 : 0 ≤ V 2 ∧ V 2 ≤ 100 - z_sm σ α := hb 2 (by decide)
    have s1 : z_sm σ α ≤ 100 := hC.2.2
    refine ⟨hS, hC.add (by omega) b0.1 b0.2 b1.2 ?_, hT, hD, hdm⟩
    show V 2 + z_sm σ α ≤ 100
    omega
  by_cases c7 : W = 7
  · subst c7
    have g := hT.add (by omega) (m := 0) (by decide) (v := fun _ => 0) rfl
    rw [z_wr_0, z_wr_0] at g
    exact ⟨hS, hC, g, hD, hdm⟩
  by_cases c8 : W = 8
  · subst c8
    obtain ⟨T, eT⟩ : ∃ T, σ 2 = T + 1 := ⟨σ 2 - 1, by omega⟩
    have b0 : 0 ≤ V 0 ∧ V 0 ≤ 9999 := hb 0 (by decide)
    have b1 : 1 ≤ V 1 ∧ V 1 ≤ 16 := hb 1 (by decide)
    unfold z_VA
    simp only [z_eσ, z_eα, if_neg (show ¬ 8 < 6 by decide), if_neg (show ¬ 8 = 6 by decide), if_neg (show ¬ 8 = 7 by decide), if_neg (show ¬ 9 ≤ 8 by decide), if_neg (show ¬ 8 = 9 by decide), if_neg (show ¬ 8 = 10 by decide), if_neg (show ¬ 8 = 11 by decide), if_neg (show ¬ 8 = 12 by decide), if_true]
    have hnt := (hT.2 T (by omega)).1
    rw [eT] at hT
    rw [eT, show T + 1 - 1 = T by omega] at hf'
    rw [eT, show T + 1 - 1 = T by omega]
    exact ⟨hS, hC, hT.note rfl (by omega) b0.2 b1.1 b1.2, hD, hdm⟩
  obtain ⟨d0, d1, d2, d3⟩ := hdm
  obtain ⟨v0, v1, v2, v3⟩ := hD
  have h4 : W = 9 ∨ W = 10 ∨ W = 11 ∨ W = 12 := by omega
  rcases h4 with rfl | rfl | rfl | rfl
  · have b0 : 1 ≤ V 0 ∧ V 0 ≤ 9999 := hb 0 (by decide)
    exact ⟨hS, hC, hT, ⟨b0, v1, v2, v3⟩, (⟨pk_us, (pk_un (by decide)).trans d1, (pk_un (by decide)).trans d2, (pk_un (by decide)).trans d3⟩ : z_dm (upd (α 10) 0 (nI (V 0))) (V 0) (σ 4) (σ 5) (σ 6))⟩
  · have b0 : 2 ≤ V 0 ∧ V 0 ≤ 30 := hb 0 (by decide)
    exact ⟨hS, hC, hT, ⟨v0, b0, v2, v3⟩, (⟨(pk_un (by decide)).trans d0, pk_us, (pk_un (by decide)).trans d2, (pk_un (by decide)).trans d3⟩ : z_dm (upd (α 10) 1 (nI (V 0))) (σ 3) (V 0) (σ 5) (σ 6))⟩
  · have b0 : 0 ≤ V 0 ∧ V 0 ≤ 500 := hb 0 (by decide)
    exact ⟨hS, hC, hT, ⟨v0, v1, b0.2, v3⟩, (⟨(pk_un (by decide)).trans d0, (pk_un (by decide)).trans d1, pk_us, (pk_un (by decide)).trans d3⟩ : z_dm (upd (α 10) 2 (nI (V 0))) (σ 3) (σ 4) (V 0) (σ 6))⟩
  · have b0 : 50 ≤ V 0 ∧ V 0 ≤ 2000 := hb 0 (by decide)
    exact ⟨hS, hC, hT, ⟨v0, v1, v2, b0⟩, (⟨(pk_un (by decide)).trans d0, (pk_un (by decide)).trans d1, (pk_un (by decide)).trans d2, pk_us⟩ : z_dm (upd (α 10) 3 (nI (V 0))) (σ 3) (σ 4) (σ 5) (V 0))⟩
theorem z_nxt_n (ha : a ≤ n) (h : z_flt v n σ α a = none) : a < z_nxt v n a ∧ z_nxt v n a ≤ n := by
  obtain ⟨hw, hf, ho⟩ := z_flt_i h
  have hp0 := z_ft_n (v := v) (w := z_wd v n a) ha
  rw [z_wd_yes hw] at hp0
  have hl := zw_len _ hw
  have key : ∀ i, i ≤ z_mn (z_wd v n a) → a + z_LN (z_wd v n a) ≤ z_px v n (a + z_LN (z_wd v n a)) i ∧ z_px v n (a + z_LN (z_wd v n a)) i ≤ n := by
    intro i
    induction i with
    | zero => exact fun _ => ⟨Nat.le_refl _, hp0⟩
    | succ i ih =>
      intro hi
      have h1 := ih (by omega)
      have h2 := z_nx_n (ho i (by omega))
      exact ⟨Nat.le_trans h1.1 (Nat.le_of_lt h2.1), h2.2⟩
  have hk := key _ (Nat.le_refl _)
  unfold z_nxt
  omega
theorem z_flt_le (ha : a ≤ n) {u : Nat} (h : z_flt v n σ α a = some u) : u ≤ n := by
  have h13 := z_wd_le v n a
  by_cases c : z_wd v n a = 13
  · rw [z_flt_w c] at h
    rw [← Option.some.inj h]
    have := z_mx_b2 (f := z_ft v n a) (b := n - a) 13 (fun i hi => by have := z_ft_n (v := v) (w := i) ha; omega)
    omega
  have c' : z_wd v n a < 13 := by omega
  by_cases d : z_ful (z_wd v n a) σ α = true
  · rw [z_flt_f c' d] at h
    rw [← Option.some.inj h]
    exact ha
  have hp0 := z_ft_n (v := v) (w := z_wd v n a) ha
  rw [z_wd_yes c'] at hp0
  unfold z_flt at h
  rw [if_neg c, if_neg d] at h
  by_cases e : z_fi v n (a + z_LN (z_wd v n a)) (z_wd v n a) (z_sm σ α) < z_mn (z_wd v n a)
  · rw [if_pos e] at h
    rw [← Option.some.inj h]
    refine z_nf_le ?_
    by_cases e0 : z_fi v n (a + z_LN (z_wd v n a)) (z_wd v n a) (z_sm σ α) = 0
    · rw [e0]; exact hp0
    · have h4 := z_ff_no (p := fun i => !z_iok v n (a + z_LN (z_wd v n a)) (z_wd v n a) (z_sm σ α) i) (z_mn (z_wd v n a)) 0 (z_fi v n (a + z_LN (z_wd v n a)) (z_wd v n a) (z_sm σ α) - 1) (Nat.zero_le _) (by show _ < z_fi v n (a + z_LN (z_wd v n a)) (z_wd v n a) (z_sm σ α); omega)
      have h5 : z_iok v n (a + z_LN (z_wd v n a)) (z_wd v n a) (z_sm σ α) (z_fi v n (a + z_LN (z_wd v n a)) (z_wd v n a) (z_sm σ α) - 1) = true := by simpa using h4
      have h6 := (z_nx_n h5).2
      rw [show z_fi v n (a + z_LN (z_wd v n a)) (z_wd v n a) (z_sm σ α) = z_fi v n (a + z_LN (z_wd v n a)) (z_wd v n a) (z_sm σ α) - 1 + 1 by omega]
      exact h6
  · rw [if_neg e] at h
    cases h
end LOOP
/-- all items: the fault, how many, and what they left -/
def z_lp (v : Nat → Int32) (n : Nat) : Nat → Nat → Nat → (Nat → Nat) → (Nat → Nat → Int32) → Option Nat × Nat × (Nat → Nat) × (Nat → Nat → Int32)
  | 0, _, c, σ, α => (none, c, σ, α)
  | k + 1, a, c, σ, α => if z_flt v n σ α a = none then (if n ≤ z_nxt v n a then (none, c + 1, (z_eσ (z_wd v n a) (z_val v n (a + z_LN (z_wd v n a))) σ), (z_eα (z_wd v n a) (z_val v n (a + z_LN (z_wd v n a))) σ α)) else if v (z_nxt v n a) = 59 then z_lp v n k (z_nxt v n a + 1) (c + 1) (z_eσ (z_wd v n a) (z_val v n (a + z_LN (z_wd v n a))) σ) (z_eα (z_wd v n a) (z_val v n (a + z_LN (z_wd v n a))) σ α) else (some (z_nxt v n a), c + 1, (z_eσ (z_wd v n a) (z_val v n (a + z_LN (z_wd v n a))) σ), (z_eα (z_wd v n a) (z_val v n (a + z_LN (z_wd v n a))) σ α))) else (z_flt v n σ α a, c, σ, α)
section LOOP
variable {n a c k : Nat} {v : Nat → Int32} {σ : Nat → Nat} {α : Nat → Nat → Int32}
theorem z_lp_s {u : Nat} (h : z_flt v n σ α a = some u) : z_lp v n (k + 1) a c σ α = (some u, c, σ, α) := by
  rw [z_lp, if_neg (by rw [h]; exact fun e => (by cases e)), h]
theorem z_lp_e (h : z_flt v n σ α a = none) (h2 : n ≤ z_nxt v n a) : z_lp v n (k + 1) a c σ α = (none, c + 1, (z_eσ (z_wd v n a) (z_val v n (a + z_LN (z_wd v n a))) σ), (z_eα (z_wd v n a) (z_val v n (a + z_LN (z_wd v n a))) σ α)) := by
  rw [z_lp, if_pos h, if_pos h2]
theorem z_lp_n (h : z_flt v n σ α a = none) (h2 : ¬ n ≤ z_nxt v n a) (h3 : v (z_nxt v n a) = 59) : z_lp v n (k + 1) a c σ α = z_lp v n k (z_nxt v n a + 1) (c + 1) (z_eσ (z_wd v n a) (z_val v n (a + z_LN (z_wd v n a))) σ) (z_eα (z_wd v n a) (z_val v n (a + z_LN (z_wd v n a))) σ α) := by
  rw [z_lp, if_pos h, if_neg h2, if_pos h3]
theorem z_lp_x (h : z_flt v n σ α a = none) (h2 : ¬ n ≤ z_nxt v n a) (h3 : ¬ v (z_nxt v n a) = 59) : z_lp v n (k + 1) a c σ α = (some (z_nxt v n a), c + 1, (z_eσ (z_wd v n a) (z_val v n (a + z_LN (z_wd v n a))) σ), (z_eα (z_wd v n a) (z_val v n (a + z_LN (z_wd v n a))) σ α)) := by
  rw [z_lp, if_pos h, if_neg h2, if_neg h3]
end LOOP
theorem z_lp_VA {n : Nat} {v : Nat → Int32} : ∀ (k a c : Nat) (σ : Nat → Nat) (α : Nat → Nat → Int32), a ≤ n → z_VA σ α → z_VA (z_lp v n k a c σ α).2.2.1 (z_lp v n k a c σ α).2.2.2 ∧ σ 0 ≤ (z_lp v n k a c σ α).2.2.1 0 ∧ ∀ u, (z_lp v n k a c σ α).1 = some u → u ≤ n := by
  intro k
  induction k with
  | zero => exact fun a c σ α ha hV => ⟨hV, Nat.le_refl _, fun u e => (by cases e)⟩
  | succ k ih =>
    intro a c σ α ha hV
    have e0 : ∀ W V, σ 0 ≤ z_eσ W V σ 0 := fun W V => by
      show σ 0 ≤ if W < 6 then σ 0 + 1 else σ 0
      split <;> omega
    by_cases h : z_flt v n σ α a = none
    · have hx := z_nxt_n ha h
      by_cases h2 : n ≤ z_nxt v n a
      · rw [z_lp_e h h2]
        exact ⟨hV.item h, e0 (z_wd v n a) (z_val v n (a + z_LN (z_wd v n a))), fun u e => (by cases e)⟩
      · by_cases h3 : v (z_nxt v n a) = 59
        · rw [z_lp_n h h2 h3]
          have g := ih (z_nxt v n a + 1) (c + 1) (z_eσ (z_wd v n a) (z_val v n (a + z_LN (z_wd v n a))) σ) (z_eα (z_wd v n a) (z_val v n (a + z_LN (z_wd v n a))) σ α) (by omega) (hV.item h)
          exact ⟨g.1, Nat.le_trans (e0 (z_wd v n a) (z_val v n (a + z_LN (z_wd v n a)))) g.2.1, g.2.2⟩
        · rw [z_lp_x h h2 h3]
          exact ⟨hV.item h, e0 (z_wd v n a) (z_val v n (a + z_LN (z_wd v n a))), fun u e => (by have e' := Option.some.inj e; omega)⟩
    · obtain ⟨u, hu⟩ : ∃ u, z_flt v n σ α a = some u := by
        cases hz : z_flt v n σ α a with
        | none => exact absurd hz h
        | some u => exact ⟨u, rfl⟩
      rw [z_lp_s hu]
      exact ⟨hV, Nat.le_refl _, fun u' e => (by have e' := Option.some.inj e; have := z_flt_le ha hu; omega)⟩
theorem zc_lp {n : Nat} (hn : n ≤ 160) {v : Nat → Int32} {g : Nat → Int64} (hv : v = fun i => (g i).toInt32) {f0 : Int32} {post : Int32 → Int32 → Int32 → Int32 → (Nat → Int32) → (Nat → Int32) → (Nat → Int32) → (Nat → Int32) → Int32 → (Nat → Int32) → (Nat → Int32) → (Nat → Int32) → (Nat → Int32) → Int32 → (Nat → Int32) → (Nat → Int32) → (Nat → Int32) → Prop} : ∀ (k a c : Nat) (σ : Nat → Nat) (α : Nat → Nat → Int32), a ≤ n → n - a < k → c ≤ a → z_VA σ α → (∀ u, (z_lp v n k a c σ α).1 = some u → ∀ r q, post r q (nI u) (nI ((z_lp v n k a c σ α).2.2.1 1)) ((z_lp v n k a c σ α).2.2.2 4) ((z_lp v n k a c σ α).2.2.2 5) ((z_lp v n k a c σ α).2.2.2 6) ((z_lp v n k a c σ α).2.2.2 10) (nI ((z_lp v n k a c σ α).2.2.1 0)) ((z_lp v n k a c σ α).2.2.2 0) ((z_lp v n k a c σ α).2.2.2 1) ((z_lp v n k a c σ α).2.2.2 2) ((z_lp v n k a c σ α).2.2.2 3) (nI ((z_lp v n k a c σ α).2.2.1 2)) ((z_lp v n k a c σ α).2.2.2 7) ((z_lp v n k a c σ α).2.2.2 8) ((z_lp v n k a c σ α).2.2.2 9)) → ((z_lp v n k a c σ α).1 = none → ∀ q, post (nI (z_lp v n k a c σ α).2.1) q f0 (nI ((z_lp v n k a c σ α).2.2.1 1)) ((z_lp v n k a c σ α).2.2.2 4) ((z_lp v n k a c σ α).2.2.2 5) ((z_lp v n k a c σ α).2.2.2 6) ((z_lp v n k a c σ α).2.2.2 10) (nI ((z_lp v n k a c σ α).2.2.1 0)) ((z_lp v n k a c σ α).2.2.2 0) ((z_lp v n k a c σ α).2.2.2 1) ((z_lp v n k a c σ α).2.2.2 2) ((z_lp v n k a c σ α).2.2.2 3) (nI ((z_lp v n k a c σ α).2.2.1 2)) ((z_lp v n k a c σ α).2.2.2 7) ((z_lp v n k a c σ α).2.2.2 8) ((z_lp v n k a c σ α).2.2.2 9)) → L_X4_readItems_4 (nI n) g post (F_X4_readItems_66 (nI n) post) (k + 1) (nI c) 1 (nI a) f0 (nI (σ 1)) (α 4) (α 5) (α 6) (α 10) (nI (σ 0)) (α 0) (α 1) (α 2) (α 3) (nI (σ 2)) (α 7) (α 8) (α 9) := by
  intro k
  induction k with
  | zero => exact fun a c σ α ha hk => absurd hk (Nat.not_lt_zero _)
  | succ k ih =>
    intro a c σ α ha hk hc hV h0 h1
    rw [L_X4_readItems_4]
    refine br_f (by decide) (pk_lt 160 c (fun e => by omega) (fun _ => zc_item hn ha hv hV (fun u eu q => br_t rfl ?_) (fun eu => br_f (by decide) (nm_r (nI_1 c) ?_))))
    · rw [z_lp_s eu] at h0
      exact h0 u rfl _ _
    · have hx := z_nxt_n ha eu
      unfold F_X4_readItems_48
      by_cases hb : z_nxt v n a < n
      · have e59 : (g (z_nxt v n a)).toInt32 = v (z_nxt v n a) := by rw [hv]
        refine zc_intAt hn hb ?_
        rw [e59]
        refine ⟨fun e => br_f (by decide) ?_, fun e => br_t rfl ?_⟩
        · rw [nI_1]
          rw [z_lp_n eu (by omega) e] at h0 h1
          exact ih (z_nxt v n a + 1) (c + 1) _ _ (by omega) (by omega) (by omega) (hV.item eu) h0 h1
        · rw [z_lp_x eu (by omega) e] at h0
          rw [L_X4_readItems_4]
          refine br_t rfl ?_
          unfold F_X4_readItems_66
          exact pk_le n (z_nxt v n a) (fun e => by omega) (fun _ => h0 _ rfl _ _)
      · refine zf_intAt hn (by omega) (by omega) (br_f (by decide) (br_t rfl ?_))
        rw [z_lp_e eu (by omega)] at h1
        rw [L_X4_readItems_4]
        refine br_t rfl ?_
        unfold F_X4_readItems_66
        exact pk_le n (z_nxt v n a) (fun _ => h1 rfl _) (fun e => by omega)
theorem zm_lp {s n : Nat} (hs : s < 8) (hn : n ≤ 160) {v : Nat → Int32} {cells : Nat → Int64} {wds : Nat → Int32} (hW : ∀ k, k < 79 → wds k = nI (z_WD k)) (hv : ∀ i, i < 160 → v i = (cells (160 * s + i)).toInt32) {f : Int32} {K : Int32 → Int32 → Int32 → Int32 → Int32 → Int32 → Int32 → Int32 → Int32 → Int32 → Int32 → Int32 → (Nat → Int32) → (Nat → Int32) → (Nat → Int32) → (Nat → Int32) → (Nat → Int32) → (Nat → Int32) → (Nat → Int32) → (Nat → Int32) → (Nat → Int32) → (Nat → Int32) → (Nat → Int32) → Prop} : ∀ (k a c : Nat) (σ : Nat → Nat) (α : Nat → Nat → Int32), a ≤ n → n - a < k → z_VA σ α → (∀ u, (z_lp v n k a c σ α).1 = some u → ∀ x q t tl, K x 0 (nI ((z_lp v n k a c σ α).2.2.1 0)) (nI ((z_lp v n k a c σ α).2.2.1 1)) (nI ((z_lp v n k a c σ α).2.2.1 2)) (nI ((z_lp v n k a c σ α).2.2.1 3)) (nI ((z_lp v n k a c σ α).2.2.1 4)) (nI ((z_lp v n k a c σ α).2.2.1 5)) (nI ((z_lp v n k a c σ α).2.2.1 6)) q t (nI u) ((z_lp v n k a c σ α).2.2.2 4) ((z_lp v n k a c σ α).2.2.2 7) ((z_lp v n k a c σ α).2.2.2 0) ((z_lp v n k a c σ α).2.2.2 8) ((z_lp v n k a c σ α).2.2.2 1) ((z_lp v n k a c σ α).2.2.2 9) ((z_lp v n k a c σ α).2.2.2 5) ((z_lp v n k a c σ α).2.2.2 2) ((z_lp v n k a c σ α).2.2.2 6) tl ((z_lp v n k a c σ α).2.2.2 3)) → ((z_lp v n k a c σ α).1 = none → ∀ q t tl, K (nI (z_lp v n k a c σ α).2.1) 1 (nI ((z_lp v n k a c σ α).2.2.1 0)) (nI ((z_lp v n k a c σ α).2.2.1 1)) (nI ((z_lp v n k a c σ α).2.2.1 2)) (nI ((z_lp v n k a c σ α).2.2.1 3)) (nI ((z_lp v n k a c σ α).2.2.1 4)) (nI ((z_lp v n k a c σ α).2.2.1 5)) (nI ((z_lp v n k a c σ α).2.2.1 6)) q t f ((z_lp v n k a c σ α).2.2.2 4) ((z_lp v n k a c σ α).2.2.2 7) ((z_lp v n k a c σ α).2.2.2 0) ((z_lp v n k a c σ α).2.2.2 8) ((z_lp v n k a c σ α).2.2.2 1) ((z_lp v n k a c σ α).2.2.2 9) ((z_lp v n k a c σ α).2.2.2 5) ((z_lp v n k a c σ α).2.2.2 2) ((z_lp v n k a c σ α).2.2.2 6) tl ((z_lp v n k a c σ α).2.2.2 3)) → ∀ (t : Int32) (tl : Nat → Int32) (Q : Int32 → Int32 → Int32 → Int32 → Int32 → Int32 → Int32 → Int32 → Int32 → Int32 → Int32 → (Nat → Int32) → (Nat → Int32) → (Nat → Int32) → (Nat → Int32) → (Nat → Int32) → (Nat → Int32) → (Nat → Int32) → (Nat → Int32) → (Nat → Int32) → (Nat → Int32) → (Nat → Int32) → Prop), (∀ r i0 i1 i2 i3 i4 i5 i6 i7 i8 i9 f0 f1 f2 f3 f4 f5 f6 f7 f8 f9 f10, L_X10_book_62 cells wds (nI (160 * s)) (nI n) K (k + 1) (nI (c + 1)) r i0 i1 i2 i3 i4 i5 i6 i7 i8 i9 f0 f1 f2 f3 f4 f5 f6 f7 f8 f9 f10 → Q r i0 i1 i2 i3 i4 i5 i6 i7 i8 i9 f0 f1 f2 f3 f4 f5 f6 f7 f8 f9 f10) → F_X10_item (nI (σ 0)) (nI (σ 1)) (nI (σ 2)) (nI (σ 3)) (nI (σ 4)) (nI (σ 5)) (nI (σ 6)) (nI (160 * s)) (nI a) (nI n) t f (α 4) (α 7) cells (α 0) (α 8) (α 1) (α 9) (α 5) (α 2) (α 6) tl (α 3) wds Q := by
  intro k
  induction k with
  | zero => exact fun a c σ α ha hk => absurd hk (Nat.not_lt_zero _)
  | succ k ih =>
    intro a c σ α ha hk hV h0 h1 t tl Q hQ
    refine zm_item hs hn hW hv ha hV (fun u eu q t tl => hQ _ _ _ _ _ _ _ _ _ _ _ _ _ _ _ _ _ _ _ _ _ _ ?_) (fun eu t tl => hQ _ _ _ _ _ _ _ _ _ _ _ _ _ _ _ _ _ _ _ _ _ _ ?_)
    · rw [z_lp_s eu] at h0
      rw [L_X10_book_62]
      exact br_t rfl (h0 u rfl _ _ _ _)
    · have hx := z_nxt_n ha eu
      rw [L_X10_book_62, nI_add (160 * s), show (nI (160 * s + z_nxt v n a)).toNatClampNeg = 160 * s + z_nxt v n a from nI_clamp (by omega)]
      refine br_f (by decide) (pk_le n (z_nxt v n a) (fun e => ?_) (fun e => ?_))
      · rw [z_lp_e eu e] at h1
        exact h1 rfl _ _ _
      · rw [← hv (z_nxt v n a) (by omega), nI_1 (z_nxt v n a)]
        refine ⟨vp_in_nI (by omega) (by decide), fun e59 => nm_r (nI_1 (c + 1)) ?_, fun e59 => ?_⟩
        · rw [z_lp_n eu (by omega) e59] at h0 h1
          exact ih (z_nxt v n a + 1) (c + 1) _ _ (by omega) (by omega) (hV.item eu) h0 h1 t tl _ (fun _ _ _ _ _ _ _ _ _ _ _ _ _ _ _ _ _ _ _ _ _ _ h => h)
        · rw [z_lp_x eu (by omega) e59] at h0
          unfold F_X10_wrong
          dsimp only
          rw [L_X10_book_62]
          exact br_t rfl (h0 _ rfl _ _ _ _)
