/-! books: numbers -/
def z_dg (v : Nat → Int32) (n j : Nat) : Bool := !decide (j < n ∧ 48 ≤ v j ∧ v j ≤ 57)
theorem z_dg_f {v : Nat → Int32} {n j : Nat} (h : z_dg v n j = false) : j < n ∧ 48 ≤ v j ∧ v j ≤ 57 := by
  unfold z_dg at h
  exact of_decide_eq_true (by simpa using h)
theorem z_dg_t {v : Nat → Int32} {n j : Nat} (h : ¬ (j < n ∧ 48 ≤ v j ∧ v j ≤ 57)) : z_dg v n j = true := by
  unfold z_dg
  rw [decide_eq_false h]
  rfl
theorem z_dg_no {v : Nat → Int32} {n j : Nat} (h : j < n ∧ 48 ≤ v j ∧ v j ≤ 57) : z_dg v n j = false := by
  unfold z_dg
  rw [decide_eq_true h]
  rfl
def z_dn (v : Nat → Int32) (n p : Nat) : Nat := z_ff (fun k => z_dg v n (p + k)) 4 0
def z_dv (v : Nat → Int32) (p : Nat) : Nat → Nat
  | 0 => 0
  | k + 1 => 10 * z_dv v p k + (z_tn (v (p + k)) - 48)
theorem z_dn_le (v : Nat → Int32) (n p : Nat) : z_dn v n p ≤ 4 := (z_ff_le (fun k => z_dg v n (p + k)) 4 0).2
theorem z_dv_le (v : Nat → Int32) (n p : Nat) : ∀ k, k ≤ z_dn v n p → z_dv v p k < 10 ^ k
  | 0, _ => Nat.one_pos
  | k + 1, h => by
    have ih := z_dv_le v n p k (by omega)
    have hd := z_dg_f (z_ff_no (p := fun k => z_dg v n (p + k)) 4 0 k (Nat.zero_le _) (by show k < z_dn v n p; omega))
    obtain ⟨d, h1, h2, h3⟩ := z_rng 48 57 hd.2.1 hd.2.2 (by decide) (by decide)
    rw [z_dv, h3, z_tn_nI (by omega), Nat.pow_succ]
    omega
theorem z_dv_4 (v : Nat → Int32) (n p : Nat) : z_dv v p (z_dn v n p) ≤ 9999 := by
  have h := z_dv_le v n p _ (Nat.le_refl _)
  have h2 := Nat.pow_le_pow_right (n := 10) (by decide) (z_dn_le v n p)
  omega
theorem z_dn_n {v : Nat → Int32} {n p : Nat} (h : p ≤ n) : p + z_dn v n p ≤ n := by
  by_cases e : z_dn v n p = 0
  · omega
  · have hd := z_dg_f (z_ff_no (p := fun k => z_dg v n (p + k)) 4 0 (z_dn v n p - 1) (Nat.zero_le _) (by show z_dn v n p - 1 < z_dn v n p; omega))
    omega
theorem z_dstep {V d : Nat} (h : 48 ≤ d) : 10 * nI V + nI d - 48 = nI (10 * V + (d - 48)) := by
  show nI 10 * nI V + nI d - nI 48 = _
  rw [pk_mul, nI_add, pk_sub (by omega), show 10 * V + d - 48 = 10 * V + (d - 48) by omega]
def z_nok (v : Nat → Int32) (n p lo hi : Nat) : Bool := decide ((p < n ∧ v p = 32) ∧ 0 < z_dn v n (p + 1) ∧ lo ≤ z_dv v (p + 1) (z_dn v n (p + 1)) ∧ z_dv v (p + 1) (z_dn v n (p + 1)) ≤ hi)
def z_nx (v : Nat → Int32) (n p : Nat) : Nat := p + 1 + z_dn v n (p + 1)
def z_nv (v : Nat → Int32) (n p : Nat) : Nat := z_dv v (p + 1) (z_dn v n (p + 1))
def z_nf (v : Nat → Int32) (n p : Nat) : Nat := if p < n ∧ v p = 32 then p + 1 else p
theorem z_nok_t {v : Nat → Int32} {n p lo hi : Nat} (h : z_nok v n p lo hi = true) : (p < n ∧ v p = 32) ∧ 0 < z_dn v n (p + 1) ∧ lo ≤ z_nv v n p ∧ z_nv v n p ≤ hi := of_decide_eq_true h
theorem z_nx_n {v : Nat → Int32} {n p lo hi : Nat} (h : z_nok v n p lo hi = true) : p < z_nx v n p ∧ z_nx v n p ≤ n := by
  have h1 := z_nok_t h
  have h2 := z_dn_n (v := v) (n := n) (p := p + 1) (by omega)
  unfold z_nx
  omega
theorem z_nf_le {v : Nat → Int32} {n p : Nat} (h : p ≤ n) : z_nf v n p ≤ n := by
  unfold z_nf
  split <;> omega
theorem zc_rn {n p : Nat} (lo hi : Nat) (hn : n ≤ 160) (hp : p ≤ n) (hlo : lo ≤ 9999) (hhi : hi ≤ 9999) {f0 : Int32} {g : Nat → Int64} {v : Nat → Int32} (hv : ∀ i, v i = (g i).toInt32) {post : Int32 → Int32 → Int32 → Prop} (h1 : z_nok v n p lo hi = true → post (nI (z_nv v n p)) (nI (z_nx v n p)) f0) (h0 : z_nok v n p lo hi = false → ∀ q, post (-1) q (nI (z_nf v n p))) : F_X4_readNumber (nI p) f0 (nI n) g (nI lo) (nI hi) post := by
  unfold F_X4_readNumber
  by_cases hb : p < n ∧ v p = 32
  · have ef : z_nf v n p = p + 1 := if_pos hb
    rw [ef] at h0
    have h4 := z_dv_4 v n (p + 1)
    have hc := z_dn_le v n (p + 1)
    have hK : F_X4_readNumber_110 post (nI lo) (nI hi) (nI (p + 1)) (nI (z_nv v n p)) (nI (z_nx v n p)) f0 := by
      unfold F_X4_readNumber_110
      unfold z_nok at h0 h1
      have h5 : z_nv v n p ≤ 9999 := h4
      have hx : z_nx v n p = p + 1 + z_dn v n (p + 1) := rfl
      refine pk_eq (z_nx v n p) (p + 1) (fun e => h0 (decide_eq_false (fun f => by omega)) _) (fun e => zo_within (fun c => z_b0 (h0 (decide_eq_false (fun f => c ⟨nI_le f.2.2.1 (by omega), nI_le f.2.2.2 (by omega)⟩)) _)) (fun c d => z_b1 (h1 (decide_eq_true ⟨hb, by omega, (nI_leI (by omega) (by omega)).mp c, (nI_leI (by omega) (by omega)).mp d⟩))))
    have key : ∀ k j : Nat, j + k = 4 → z_dn v n (p + 1) = z_ff (fun k => z_dg v n (p + 1 + k)) k j → L_X4_readNumber_44 (nI n) g (nI (p + 1)) (fun x4_1 v_at_2 => F_X4_readNumber_110 post (nI lo) (nI hi) (nI (p + 1)) x4_1 v_at_2 f0) (k + 1) (nI (z_dv v (p + 1) j)) (nI (p + 1 + j)) := by
      intro k
      induction k with
      | zero =>
        intro j hj hf
        rw [L_X4_readNumber_44, pk_sub (by omega), show p + 1 + j - (p + 1) = j by omega]
        refine pk_le 4 j (fun _ => ?_) (fun e => by omega)
        rw [show j = z_dn v n (p + 1) from hf.symm]
        exact hK
      | succ k ih =>
        intro j hj hf
        have stop : z_dg v n (p + 1 + j) = true → F_X4_readNumber_110 post (nI lo) (nI hi) (nI (p + 1)) (nI (z_dv v (p + 1) j)) (nI (p + 1 + j)) f0 := fun e => by
          rw [z_ff_t (p := fun k => z_dg v n (p + 1 + k)) e] at hf
          rw [← hf]
          exact hK
        rw [L_X4_readNumber_44, pk_sub (by omega), show p + 1 + j - (p + 1) = j by omega]
        refine pk_le 4 j (fun e => by omega) (fun _ => ?_)
        by_cases hr : p + 1 + j < n
        · refine zc_intAt hn hr (zo_within (fun c => z_b0 (stop (z_dg_t (fun f => c ?_)))) (fun c d => z_b1 (zc_intAt hn hr (nm_r (e' := nI (z_dv v (p + 1) (j + 1))) ?_ ?_))))
          · rw [← hv]; exact f.2
          · rw [← hv] at c d ⊢
            obtain ⟨D, d1, d2, d3⟩ := z_rng 48 57 c d (by decide) (by decide)
            rw [z_dv, d3, z_tn_nI (by omega)]
            exact z_dstep d1
          · rw [nI_1]
            rw [← hv] at c d
            refine ih (j + 1) (by omega) ?_
            rw [hf, z_ff_f (p := fun k => z_dg v n (p + 1 + k)) (z_dg_no ⟨hr, c, d⟩)]
        · exact zf_intAt hn (by omega) (by omega) (zf_within (fun f => absurd f.1 (by decide)) (z_b0 (stop (z_dg_t (fun f => hr f.1)))))
    refine zc_intAt hn hb.1 (br_t (by rw [← hv]; exact hb.2) (nm_r (nI_1 p) ⟨5, ?_⟩))
    rw [nI_1]
    exact key 4 0 (by omega) rfl
  · have ef : z_nf v n p = p := if_neg hb
    rw [ef] at h0
    have hz := h0 (decide_eq_false (fun f => hb f.1)) (nI p)
    by_cases hr : p < n
    · exact zc_intAt hn hr (br_f (by rw [← hv]; exact fun e => hb ⟨hr, e⟩) hz)
    · exact zf_intAt hn (by omega) (by omega) (br_f (by decide) hz)
/-! the reference -/
section MODEL
variable {s n : Nat} {cells : Nat → Int64} {v : Nat → Int32}
theorem zm_dig (hs : s < 8) (hn : n ≤ 160) (hv : ∀ i, i < 160 → v i = (cells (160 * s + i)).toInt32) {j : Nat} (hj : j ≤ n) {post : Int32 → Prop} (h0 : z_dg v n j = true → post 0) (h1 : z_dg v n j = false → post 1) : F_X10_isDigit (nI (160 * s)) (nI j) (nI n) cells post := by
  unfold F_X10_isDigit
  rw [nI_add, nI_clamp (by omega)]
  refine pk_le n j (fun e => h0 (z_dg_t (fun f => by omega))) (fun e => ?_)
  rw [← hv j (by omega)]
  exact ⟨vp_in_nI (by omega) (by decide), fun c => h0 (z_dg_t (fun f => z_lnt f.2.1 c)), fun c => ⟨vp_in_nI (by omega) (by decide), fun d => h0 (z_dg_t (fun f => z_lnt f.2.2 d)), fun d => h1 (z_dg_no ⟨e, z_nlt c, z_nlt d⟩)⟩⟩
theorem zm_nm (hs : s < 8) (hn : n ≤ 160) (hv : ∀ i, i < 160 → v i = (cells (160 * s + i)).toInt32) {p lo hi : Nat} (hlo : lo ≤ 9999) (hhi : hi ≤ 9999) (hb : p < n ∧ v p = 32) {told wa : Int32} {post : Int32 → Int32 → Int32 → Int32 → Prop} (h1 : z_nok v n p lo hi = true → post 1 (nI (z_nx v n p)) (nI (z_nv v n p)) wa) (h0 : z_nok v n p lo hi = false → ∀ q t, post 0 q t (nI (p + 1))) : F_X10_number (nI (160 * s)) (nI (p + 1)) (nI n) told wa cells (nI lo) (nI hi) post := by
  unfold F_X10_number
  have h4 : z_nv v n p ≤ 9999 := z_dv_4 v n (p + 1)
  have hc := z_dn_le v n (p + 1)
  unfold z_nok at h0 h1
  refine zm_dig hs hn hv (by omega) (fun e => z_b0 ⟨z_vb0, h0 (decide_eq_false (fun f => ?_)) _ _⟩) (fun e => z_b1 ⟨5, ?_⟩)
  · have : z_dn v n (p + 1) = 0 := z_ff_t (p := fun k => z_dg v n (p + 1 + k)) e
    omega
  · have hd0 : 0 < z_dn v n (p + 1) := by
      have e1 : z_dn v n (p + 1) = z_ff (fun k => z_dg v n (p + 1 + k)) 3 1 := z_ff_f (p := fun k => z_dg v n (p + 1 + k)) e
      have := (z_ff_le (fun k => z_dg v n (p + 1 + k)) 3 1).1
      omega
    have hK : F_X10_number_88 post (nI lo) (nI hi) (nI (p + 1)) (nI (z_nx v n p)) (nI (z_nv v n p)) wa := by
      unfold F_X10_number_88 F_X10_number_104
      exact pk_lt (z_nv v n p) lo (fun c => z_b0 (h0 (decide_eq_false (fun f => by have : lo ≤ z_nv v n p := f.2.2.1; omega)) _ _)) (fun c => pk_le (z_nv v n p) hi (fun d => h1 (decide_eq_true ⟨hb, hd0, c, d⟩)) (fun d => z_b0 (h0 (decide_eq_false (fun f => by have : z_nv v n p ≤ hi := f.2.2.2; omega)) _ _)))
    have key : ∀ k j : Nat, j + k = 4 → z_dn v n (p + 1) = z_ff (fun k => z_dg v n (p + 1 + k)) k j → L_X10_number_29 (nI (160 * s)) (nI n) cells (fun v_at_1 v_told_2 => F_X10_number_88 post (nI lo) (nI hi) (nI (p + 1)) v_at_1 v_told_2 wa) (k + 1) (nI j) (nI (p + 1 + j)) (nI (z_dv v (p + 1) j)) := by
      intro k
      induction k with
      | zero =>
        intro j hj hf
        rw [L_X10_number_29]
        refine pk_le 4 j (fun _ => ?_) (fun e => by omega)
        rw [show j = z_dn v n (p + 1) from hf.symm]
        exact hK
      | succ k ih =>
        intro j hj hf
        have hjn : p + 1 + j ≤ n := by
          have h6 := z_dn_n (v := v) (n := n) (p := p + 1) (by omega)
          have h7 := (z_ff_le (fun k => z_dg v n (p + 1 + k)) (k + 1) j).1
          omega
        rw [L_X10_number_29]
        refine pk_le 4 j (fun e => by omega) (fun _ => zm_dig hs hn hv hjn (fun e => z_b0 ?_) (fun e => z_b1 ?_))
        · rw [z_ff_t (p := fun k => z_dg v n (p + 1 + k)) e] at hf
          rw [← hf]
          exact hK
        · have hd := z_dg_f e
          rw [nI_add (160 * s)]
          refine ⟨vp_in_nI (by omega) (by decide), nm_r (nI_1 j) ?_⟩
          rw [nI_clamp (by omega), ← hv _ (by omega), nI_1]
          obtain ⟨D, d1, d2, d3⟩ := z_rng 48 57 hd.2.1 hd.2.2 (by decide) (by decide)
          have ih1 := ih (j + 1) (by omega) (by rw [hf, z_ff_f (p := fun k => z_dg v n (p + 1 + k)) e])
          rw [z_dv, d3, z_tn_nI (by omega), ← z_dstep d1] at ih1
          rw [d3]
          exact ih1
    exact key 4 0 (by omega) rfl
end MODEL
