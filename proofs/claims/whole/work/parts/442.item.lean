/-! books: an item -/
def z_mn (w : Nat) : Nat := ([2, 3, 2, 2, 3, 3, 3, 0, 2, 1, 1, 1, 1] : List Nat).getD w 0
def z_lo (w i : Nat) : Nat := if w < 6 then (if z_mn w = 3 ∧ i = 1 then 0 else 1) else if w = 6 then (if i = 0 then 1 else 0) else if w = 8 then i else if w = 9 then 1 else if w = 10 then 2 else if w = 12 then 50 else 0
def z_hi (w i S : Nat) : Nat := if w < 6 then 60 else if w = 6 then (if i = 0 then 99 else if i = 1 then 999 else 100 - S) else if w = 8 then (if i = 0 then 9999 else 16) else if w = 9 then 9999 else if w = 10 then 30 else if w = 11 then 500 else 2000
def z_px (v : Nat → Int32) (n p0 : Nat) : Nat → Nat
  | 0 => p0
  | i + 1 => z_nx v n (z_px v n p0 i)
def z_iok (v : Nat → Int32) (n p0 w S i : Nat) : Bool := z_nok v n (z_px v n p0 i) (z_lo w i) (z_hi w i S)
def z_val (v : Nat → Int32) (n p0 i : Nat) : Nat := z_nv v n (z_px v n p0 i)
def z_ful (w : Nat) (σ : Nat → Nat) (α : Nat → Nat → Int32) : Bool := decide ((w < 6 ∧ σ 0 = 16) ∨ (w = 6 ∧ σ 1 = 6) ∨ (w = 7 ∧ σ 2 = 6) ∨ (w = 8 ∧ (σ 2 = 0 ∨ z_nt (α 8) (σ 2 - 1) = 12)))
def z_sm (σ : Nat → Nat) (α : Nat → Nat → Int32) : Nat := z_sum (fun i => z_tn (α 5 i)) (σ 1)
def z_fi (v : Nat → Int32) (n p0 w S : Nat) : Nat := z_ff (fun i => !z_iok v n p0 w S i) (z_mn w) 0
def z_flt (v : Nat → Int32) (n : Nat) (σ : Nat → Nat) (α : Nat → Nat → Int32) (a : Nat) : Option Nat := if z_wd v n a = 13 then some (a + z_mx (z_ft v n a) 13) else if z_ful (z_wd v n a) σ α = true then some a else if z_fi v n (a + z_LN (z_wd v n a)) (z_wd v n a) (z_sm σ α) < z_mn (z_wd v n a) then some (z_nf v n (z_px v n (a + z_LN (z_wd v n a)) (z_fi v n (a + z_LN (z_wd v n a)) (z_wd v n a) (z_sm σ α)))) else none
def z_nxt (v : Nat → Int32) (n a : Nat) : Nat := z_px v n (a + z_LN (z_wd v n a)) (z_mn (z_wd v n a))
/-- what an item does -/
def z_eσ (w : Nat) (V : Nat → Nat) (σ : Nat → Nat) : Nat → Nat
  | 0 => if w < 6 then σ 0 + 1 else σ 0
  | 1 => if w = 6 then σ 1 + 1 else σ 1
  | 2 => if w = 7 then σ 2 + 1 else σ 2
  | 3 => if w = 9 then V 0 else σ 3
  | 4 => if w = 10 then V 0 else σ 4
  | 5 => if w = 11 then V 0 else σ 5
  | 6 => if w = 12 then V 0 else σ 6
  | _ => 0
def z_eα (w : Nat) (V : Nat → Nat) (σ : Nat → Nat) (α : Nat → Nat → Int32) : Nat → Nat → Int32
  | 0 => if w < 6 then upd (α 0) (σ 0) (nI (w + 1)) else α 0
  | 1 => if w < 6 then upd (α 1) (σ 0) (nI (if z_mn w = 3 then V 1 else 0)) else α 1
  | 2 => if w < 6 then upd (α 2) (σ 0) (nI (V 0)) else α 2
  | 3 => if w < 6 then upd (α 3) (σ 0) (nI (V (z_mn w - 1))) else α 3
  | 4 => if w = 6 then upd (α 4) (σ 1) (nI (V 1)) else α 4
  | 5 => if w = 6 then upd (α 5) (σ 1) (nI (V 2)) else α 5
  | 6 => if w = 6 then upd (α 6) (σ 1) (nI (V 0)) else α 6
  | 7 => if w = 8 then upd (α 7) (12 * (σ 2 - 1) + z_nt (α 8) (σ 2 - 1)) (nI (V 1)) else α 7
  | 8 => if w = 7 then upd (α 8) (σ 2) 0 else if w = 8 then upd (α 8) (σ 2 - 1) (nI (z_nt (α 8) (σ 2 - 1) + 1)) else α 8
  | 9 => if w = 8 then upd (α 9) (12 * (σ 2 - 1) + z_nt (α 8) (σ 2 - 1)) (nI (V 0)) else α 9
  | 10 => if 9 ≤ w then upd (α 10) (w - 9) (nI (V 0)) else α 10
  | _ => α 0
def z_VA (σ : Nat → Nat) (α : Nat → Nat → Int32) : Prop := z_VS (σ 0) (α 0) (α 1) (α 2) (α 3) ∧ z_VC (σ 1) (α 4) (α 5) (α 6) ∧ z_VT (σ 2) (α 7) (α 8) (α 9) ∧ z_VD (σ 3) (σ 4) (σ 5) (σ 6) ∧ z_dm (α 10) (σ 3) (σ 4) (σ 5) (σ 6)
theorem z_ff_first {p : Nat → Bool} {m i : Nat} (hi : i < m) (hb : ∀ j, j < i → p j = false) (ht : p i = true) : z_ff p m 0 = i := by
  have h1 := (z_ff_le p m 0).2
  by_cases c : z_ff p m 0 < i
  · have h2 := z_ff_yes (p := p) m 0 (by omega)
    rw [hb _ c] at h2
    exact absurd h2 (by decide)
  · by_cases d : i < z_ff p m 0
    · have h3 := z_ff_no (p := p) m 0 i (Nat.zero_le _) d
      rw [ht] at h3
      exact absurd h3 (by decide)
    · omega
theorem z_ff_all {p : Nat → Bool} {m : Nat} (hb : ∀ j, j < m → p j = false) : z_ff p m 0 = m := by
  have h1 := (z_ff_le p m 0).2
  by_cases c : z_ff p m 0 < m
  · have h2 := z_ff_yes (p := p) m 0 (by omega)
    rw [hb _ c] at h2
    exact absurd h2 (by decide)
  · omega
section FLT
variable {v : Nat → Int32} {n a : Nat} {σ : Nat → Nat} {α : Nat → Nat → Int32}
theorem z_flt_w (h : z_wd v n a = 13) : z_flt v n σ α a = some (a + z_mx (z_ft v n a) 13) := if_pos h
theorem z_flt_f (h : z_wd v n a < 13) (hf : z_ful (z_wd v n a) σ α = true) : z_flt v n σ α a = some a := by
  unfold z_flt
  rw [if_neg (by omega), if_pos hf]
theorem z_flt_b (h : z_wd v n a < 13) (hf : z_ful (z_wd v n a) σ α = false) {i : Nat} (hi : i < z_mn (z_wd v n a)) (ho : ∀ j, j < i → z_iok v n (a + z_LN (z_wd v n a)) (z_wd v n a) (z_sm σ α) j = true) (hb : z_iok v n (a + z_LN (z_wd v n a)) (z_wd v n a) (z_sm σ α) i = false) : z_flt v n σ α a = some (z_nf v n (z_px v n (a + z_LN (z_wd v n a)) i)) := by
  have e : z_fi v n (a + z_LN (z_wd v n a)) (z_wd v n a) (z_sm σ α) = i := z_ff_first hi (fun j hj => by show (!z_iok v n _ _ _ j) = false; rw [ho j hj]; rfl) (by show (!z_iok v n _ _ _ i) = true; rw [hb]; rfl)
  unfold z_flt
  rw [if_neg (by omega), if_neg (by rw [hf]; decide), e, if_pos hi]
theorem z_flt_n (h : z_wd v n a < 13) (hf : z_ful (z_wd v n a) σ α = false) (ho : ∀ j, j < z_mn (z_wd v n a) → z_iok v n (a + z_LN (z_wd v n a)) (z_wd v n a) (z_sm σ α) j = true) : z_flt v n σ α a = none := by
  have e : z_fi v n (a + z_LN (z_wd v n a)) (z_wd v n a) (z_sm σ α) = z_mn (z_wd v n a) := z_ff_all (fun j hj => by show (!z_iok v n _ _ _ j) = false; rw [ho j hj]; rfl)
  unfold z_flt
  rw [if_neg (by omega), if_neg (by rw [hf]; decide), e, if_neg (Nat.lt_irrefl _)]
/-- what an item that stands is made of -/
theorem z_flt_i (h : z_flt v n σ α a = none) : z_wd v n a < 13 ∧ z_ful (z_wd v n a) σ α = false ∧ ∀ j, j < z_mn (z_wd v n a) → z_iok v n (a + z_LN (z_wd v n a)) (z_wd v n a) (z_sm σ α) j = true := by
  have h13 := z_wd_le v n a
  unfold z_flt at h
  by_cases c : z_wd v n a = 13
  · rw [if_pos c] at h; cases h
  · rw [if_neg c] at h
    by_cases d : z_ful (z_wd v n a) σ α = true
    · rw [if_pos d] at h; cases h
    · rw [if_neg d] at h
      by_cases e : z_fi v n (a + z_LN (z_wd v n a)) (z_wd v n a) (z_sm σ α) < z_mn (z_wd v n a)
      · rw [if_pos e] at h; cases h
      · refine ⟨by omega, by simpa using d, fun j hj => ?_⟩
        have h4 := z_ff_no (p := fun i => !z_iok v n (a + z_LN (z_wd v n a)) (z_wd v n a) (z_sm σ α) i) (z_mn (z_wd v n a)) 0 j (Nat.zero_le _) (by unfold z_fi at e; omega)
        simpa using h4
end FLT
theorem z_nv_4 (v : Nat → Int32) (n p : Nat) : z_nv v n p ≤ 9999 := z_dv_4 v n (p + 1)
theorem zi_f0 : ∀ w, w < 6 → tbForm.getD w 0 = 0 ∧ tbNumber.getD w 0 = nI (w + 1) := by decide +kernel
theorem zi_f9 : ∀ k, k < 4 → tbForm.getD (k + 9) 0 = 4 ∧ tbNumber.getD (k + 9) 0 = nI k ∧ tbLEAST_ASKED.getD k 0 = nI (z_lo (k + 9) 0) ∧ tbMOST_ASKED.getD k 0 = nI (z_hi (k + 9) 0 0) := by decide +kernel
theorem zi_lo : ∀ w, w < 6 → z_lo w 0 = 1 ∧ z_lo w 1 = (if z_mn w = 3 then 0 else 1) ∧ z_lo w 2 = 1 := by decide +kernel
theorem zi_hi {w i S : Nat} (h : w < 6) : z_hi w i S = 60 := if_pos h
theorem zi_mn : ∀ w, w < 6 → z_mn w = 2 ∨ z_mn w = 3 := by decide +kernel
theorem zc_hasOther {w : Nat} (hw : w < 6) {post : Int32 → Prop} (h : post (if z_mn w = 3 then 1 else 0)) : F_X3_hasOther w post := by
  unfold F_X3_hasOther
  have h6 : w = 0 ∨ w = 1 ∨ w = 2 ∨ w = 3 ∨ w = 4 ∨ w = 5 := by omega
  rcases h6 with rfl | rfl | rfl | rfl | rfl | rfl <;> repeat (first | exact h | refine br_t (by decide) ?_ | refine br_f (by decide) ?_ | refine ⟨by decide, ?_⟩)
section CLS
variable {n p0 w S : Nat} {v : Nat → Int32} {g : Nat → Int64} {f0 : Int32}
theorem zc_readStretch (hn : n ≤ 160) (hp : p0 ≤ n) (hv : ∀ i, v i = (g i).toInt32) (hw : w < 6) {N : Nat} (hN : N < 16) {kd ot sp tm : Nat → Int32} {post : Int32 → Int32 → Int32 → Int32 → (Nat → Int32) → (Nat → Int32) → (Nat → Int32) → (Nat → Int32) → Prop} (h0 : ∀ i, i < z_mn w → (∀ j, j < i → z_iok v n p0 w S j = true) → z_iok v n p0 w S i = false → ∀ q, post 0 q (nI (z_nf v n (z_px v n p0 i))) (nI N) kd ot sp tm) (h1 : (∀ j, j < z_mn w → z_iok v n p0 w S j = true) → post 1 (nI (z_px v n p0 (z_mn w))) f0 (nI (N + 1)) (upd kd N (nI (w + 1))) (upd ot N (nI (if z_mn w = 3 then z_val v n p0 1 else 0))) (upd sp N (nI (z_val v n p0 0))) (upd tm N (nI (z_val v n p0 (z_mn w - 1))))) : F_X4_readStretch (nI p0) f0 (nI n) g (nI N) kd ot sp tm w post := by
  unfold F_X4_readStretch F_X4_readStretch_30
  obtain ⟨l0, l1, l2⟩ := zi_lo w hw
  have k0 : z_iok v n p0 w S 0 = z_nok v n p0 1 60 := by
    show z_nok v n p0 (z_lo w 0) (z_hi w 0 S) = _
    rw [l0, zi_hi hw]
  have k2 : z_iok v n p0 w S 2 = z_nok v n (z_px v n p0 2) 1 60 := by
    show z_nok v n (z_px v n p0 2) (z_lo w 2) (z_hi w 2 S) = _
    rw [l2, zi_hi hw]
  have v0 := z_nIm (n := z_val v n p0 0) (by have := z_nv_4 v n (z_px v n p0 0); unfold z_val; omega)
  have v1 := z_nIm (n := z_val v n p0 1) (by have := z_nv_4 v n (z_px v n p0 1); unfold z_val; omega)
  have v2 := z_nIm (n := z_val v n p0 2) (by have := z_nv_4 v n (z_px v n p0 2); unfold z_val; omega)
  have hm0 : 0 < z_mn w := by rcases zi_mn w hw with e | e <;> omega
  have last : ∀ (x2 s0 : Int32) (i : Nat), z_mn w = i + 1 → z_iok v n p0 w S i = z_nok v n (z_px v n p0 i) 1 60 → (∀ j, j < i → z_iok v n p0 w S j = true) → x2 = nI (z_val v n p0 0) → s0 = nI (if z_mn w = 3 then z_val v n p0 1 else 0) → F_X4_readStretch_31 (nI n) g post w x2 (nI (z_px v n p0 i)) f0 (nI N) kd ot sp tm s0 := by
    intro x2 s0 i hm hk ho e2 e0
    subst e2 e0
    have pi : z_px v n p0 i ≤ n := by
      by_cases e : i = 0
      · subst e; exact hp
      · have := (z_nx_n (ho (i - 1) (by omega))).2
        rw [show i = i - 1 + 1 by omega]
        exact this
    have vi := z_nIm (n := z_val v n p0 i) (by have := z_nv_4 v n (z_px v n p0 i); unfold z_val; omega)
    have v3 : ¬ nI (if z_mn w = 3 then z_val v n p0 1 else 0) = -1 := by
      split
      · exact v1
      · decide
    unfold F_X4_readStretch_31
    refine br_f v0 (br_f v3 (zc_rn 1 60 hn pi (by decide) (by decide) hv (fun e => br_f vi ⟨by omega, ?_⟩) (fun e q => br_t rfl (h0 i (by omega) ho (hk.trans e) q))))
    rw [(zi_f0 w hw).2]
    refine zc_add hN (br_f (z_nIm (by omega)) ?_)
    have g1 := h1 (fun j hj => by
      by_cases ej : j = i
      · subst ej; exact hk.trans e
      · exact ho j (by omega))
    rw [hm] at g1
    rw [hm]
    exact g1
  refine zc_rn 1 60 hn hp (by decide) (by decide) hv (fun e => ⟨by omega, zc_hasOther hw ?_⟩) (fun e q => ?_)
  · have o0 : z_iok v n p0 w S 0 = true := k0.trans e
    have p1 : z_px v n p0 1 ≤ n := (z_nx_n e).2
    rcases zi_mn w hw with em | em
    · rw [if_neg (by omega)]
      refine z_b0 (last _ 0 1 em ?_ (fun j hj => by rw [show j = 0 by omega]; exact o0) rfl ?_)
      · show z_nok v n (z_px v n p0 1) (z_lo w 1) (z_hi w 1 S) = _
        rw [l1, zi_hi hw, if_neg (by omega)]
      · rw [if_neg (by omega)]; rfl
    · rw [if_pos em]
      have k1 : z_iok v n p0 w S 1 = z_nok v n (z_px v n p0 1) 0 60 := by
        show z_nok v n (z_px v n p0 1) (z_lo w 1) (z_hi w 1 S) = _
        rw [l1, zi_hi hw, if_pos em]
      refine z_b1 (br_f v0 (zc_rn 0 60 hn p1 (by decide) (by decide) hv (fun e1 => ?_) (fun e1 q => ?_)))
      · refine last _ _ 2 em k2 (fun j hj => ?_) rfl (by rw [if_pos em]; rfl)
        have h2 : j = 0 ∨ j = 1 := by omega
        rcases h2 with rfl | rfl
        · exact o0
        · exact k1.trans e1
      · unfold F_X4_readStretch_31
        exact br_f v0 (br_t rfl (h0 1 (by omega) (fun j hj => by rw [show j = 0 by omega]; exact o0) (k1.trans e1) q))
  · have B : F_X4_readStretch_31 (nI n) g post w (-1) q (nI (z_nf v n p0)) (nI N) kd ot sp tm 0 := by
      unfold F_X4_readStretch_31
      exact br_t rfl (h0 0 hm0 (fun j hj => by omega) (k0.trans e) q)
    refine ⟨by omega, zc_hasOther hw ⟨fun _ => B, fun _ => br_t rfl B⟩⟩
theorem zc_readCar (hn : n ≤ 160) (hp : p0 ≤ n) (hv : ∀ i, v i = (g i).toInt32) (hw : w = 6) {C : Nat} {bs sh spd : Nat → Int32} (hC : z_VC C bs sh spd) (hS : S = z_sum (fun i => z_tn (sh i)) C) (hC6 : C < 6) {post : Int32 → Int32 → Int32 → Int32 → (Nat → Int32) → (Nat → Int32) → (Nat → Int32) → Prop} (h0 : ∀ i, i < z_mn w → (∀ j, j < i → z_iok v n p0 w S j = true) → z_iok v n p0 w S i = false → ∀ q, post 0 q (nI (z_nf v n (z_px v n p0 i))) (nI C) bs sh spd) (h1 : (∀ j, j < z_mn w → z_iok v n p0 w S j = true) → post 1 (nI (z_px v n p0 (z_mn w))) f0 (nI (C + 1)) (upd bs C (nI (z_val v n p0 1))) (upd sh C (nI (z_val v n p0 2))) (upd spd C (nI (z_val v n p0 0)))) : F_X4_readCar (nI p0) f0 (nI n) g (nI C) bs sh spd post := by
  subst hw
  have hS100 := hC.2.2
  rw [← hS] at hS100
  unfold F_X4_readCar F_X4_readCar_25
  have v0 := z_nIm (n := z_val v n p0 0) (by have := z_nv_4 v n (z_px v n p0 0); unfold z_val; omega)
  have v1 := z_nIm (n := z_val v n p0 1) (by have := z_nv_4 v n (z_px v n p0 1); unfold z_val; omega)
  have v2 := z_nIm (n := z_val v n p0 2) (by have := z_nv_4 v n (z_px v n p0 2); unfold z_val; omega)
  have sub : (100 : Int32) - nI S = nI (100 - S) := pk_sub (a := 100) hS100
  refine zc_rn 1 99 hn hp (by decide) (by decide) hv (fun e => br_f v0 ?_) (fun e q => br_t rfl (zc_shareOfAll hC (nm_e (br_t rfl ?_))))
  · have p1 : z_px v n p0 1 ≤ n := (z_nx_n e).2
    refine zc_rn 0 999 hn p1 (by decide) (by decide) hv (fun e1 => zc_shareOfAll hC ?_) (fun e1 q => zc_shareOfAll hC (nm_e (br_t rfl ?_)))
    · have p2 : z_px v n p0 2 ≤ n := (z_nx_n e1).2
      rw [← hS, sub]
      refine nm_e (br_f v1 (zc_rn 0 (100 - S) hn p2 (by decide) (by omega) hv (fun e2 => ?_) (fun e2 q => ?_)))
      · unfold F_X4_readCar_55
        refine br_f v2 (zc_addCar hC6 (br_f (z_nIm (by omega)) (h1 (fun j hj => ?_))))
        have h3 : j = 0 ∨ j = 1 ∨ j = 2 := by have : j < 3 := hj; omega
        rcases h3 with rfl | rfl | rfl
        · exact e
        · exact e1
        · exact e2
      · unfold F_X4_readCar_55
        refine br_t rfl (h0 2 (by decide) (fun j hj => ?_) e2 q)
        have h3 : j = 0 ∨ j = 1 := by omega
        rcases h3 with rfl | rfl
        · exact e
        · exact e1
    · unfold F_X4_readCar_55
      refine br_t rfl (h0 1 (by decide) (fun j hj => ?_) e1 q)
      rw [show j = 0 by omega]
      exact e
  · unfold F_X4_readCar_55
    exact br_t rfl (h0 0 (by decide) (fun j hj => by omega) e q)
theorem zc_readNote (hn : n ≤ 160) (hp : p0 ≤ n) (hv : ∀ i, v i = (g i).toInt32) (hw : w = 8) {T i : Nat} (hT6 : T < 6) (hi : i < 12) {bt nts pt : Nat → Int32} (hnt : nts T = nI i) {post : Int32 → Int32 → Int32 → (Nat → Int32) → (Nat → Int32) → (Nat → Int32) → Prop} (h0 : ∀ i, i < z_mn w → (∀ j, j < i → z_iok v n p0 w S j = true) → z_iok v n p0 w S i = false → ∀ q, post 0 q (nI (z_nf v n (z_px v n p0 i))) bt nts pt) (h1 : (∀ j, j < z_mn w → z_iok v n p0 w S j = true) → post 1 (nI (z_px v n p0 (z_mn w))) f0 (upd bt (12 * T + i) (nI (z_val v n p0 1))) (upd nts T (nI (i + 1))) (upd pt (12 * T + i) (nI (z_val v n p0 0)))) : F_X4_readNote (nI p0) f0 (nI n) g (nI (T + 1)) bt nts pt post := by
  subst hw
  unfold F_X4_readNote F_X4_readNote_25
  have v0 := z_nIm (n := z_val v n p0 0) (by have := z_nv_4 v n (z_px v n p0 0); unfold z_val; omega)
  have v1 := z_nIm (n := z_val v n p0 1) (by have := z_nv_4 v n (z_px v n p0 1); unfold z_val; omega)
  refine zc_rn 0 9999 hn hp (by decide) (by decide) hv (fun e => br_f v0 ?_) (fun e q => br_t rfl (br_t rfl (h0 0 (by decide) (fun j hj => by omega) e q)))
  have p1 : z_px v n p0 1 ≤ n := (z_nx_n e).2
  refine zc_rn 1 16 hn p1 (by decide) (by decide) hv (fun e1 => br_f v1 (zc_addNote hT6 hi hnt (h1 (fun j hj => ?_)))) (fun e1 q => br_t rfl (h0 1 (by decide) (fun j hj => by rw [show j = 0 by omega]; exact e) e1 q))
  have h3 : j = 0 ∨ j = 1 := by have : j < 2 := hj; omega
  rcases h3 with rfl | rfl
  · exact e
  · exact e1
theorem zi_hi9 {k i S : Nat} : z_hi (k + 9) i S = z_hi (k + 9) 0 0 := by
  unfold z_hi
  simp only [if_neg (show ¬ k + 9 < 6 by omega), if_neg (show ¬ k + 9 = 6 by omega), if_neg (show ¬ k + 9 = 8 by omega)]
theorem zi_d9 : ∀ k, k < 4 → z_lo (k + 9) 0 ≤ 9999 ∧ z_hi (k + 9) 0 0 ≤ 9999 ∧ z_mn (k + 9) = 1 := by decide +kernel
theorem zc_readDemand (hn : n ≤ 160) (hp : p0 ≤ n) (hv : ∀ i, v i = (g i).toInt32) {k : Nat} (hk : k < 4) (hw : w = k + 9) {dm : Nat → Int32} {post : Int32 → Int32 → Int32 → (Nat → Int32) → Prop} (h0 : ∀ i, i < z_mn w → (∀ j, j < i → z_iok v n p0 w S j = true) → z_iok v n p0 w S i = false → ∀ q, post 0 q (nI (z_nf v n (z_px v n p0 i))) dm) (h1 : (∀ j, j < z_mn w → z_iok v n p0 w S j = true) → post 1 (nI (z_px v n p0 (z_mn w))) f0 (upd dm k (nI (z_val v n p0 0)))) : F_X4_readDemand (nI p0) f0 (nI n) g dm (nI k) post := by
  subst hw
  unfold F_X4_readDemand
  obtain ⟨-, -, t1, t2⟩ := zi_f9 k hk
  obtain ⟨b1, b2, hm⟩ := zi_d9 k hk
  have v0 := z_nIm (n := z_val v n p0 0) (by have := z_nv_4 v n (z_px v n p0 0); unfold z_val; omega)
  have k0 : z_iok v n p0 (k + 9) S 0 = z_nok v n p0 (z_lo (k + 9) 0) (z_hi (k + 9) 0 0) := by
    show z_nok v n p0 (z_lo (k + 9) 0) (z_hi (k + 9) 0 S) = _
    rw [zi_hi9]
  have w03 : ∀ {P : Int32 → Prop}, P 1 → F_X9_within (nI k) 0 3 P := fun h => zt_within (nI_pos' (by omega)) (nI_le (b := 3) (by omega) (by decide)) h
  rw [nI_clamp (by omega), t1, t2]
  refine w03 (z_b1 ⟨vp_in_nI (by omega) (by decide), vp_in_nI (by omega) (by decide), zc_rn _ _ hn hp b1 b2 hv (fun e => br_f v0 ?_) (fun e q => br_t rfl (h0 0 (by omega) (fun j hj => by omega) (k0.trans e) q))⟩)
  have hb := z_nok_t e
  have g1 := h1 (fun j hj => by rw [show j = 0 by omega]; exact k0.trans e)
  rw [hm] at g1
  unfold F_X5_demand F_X9_mayBeAsked
  rw [nI_clamp (by omega), t1, t2]
  exact w03 (z_b1 ⟨vp_in_nI (by omega) (by decide), vp_in_nI (by omega) (by decide), zt_within (nI_le hb.2.2.1 (by omega)) (nI_le hb.2.2.2 (by omega)) (z_b1 (z_b1 ⟨vp_in_nI (by omega) (by decide), g1⟩))⟩)
theorem zc_mayStand {σ : Nat → Nat} {α : Nat → Nat → Int32} (hV : z_VA σ α) (hw : w < 13) {post : Int32 → Prop} (h0 : z_ful w σ α = true → post 0) (h1 : z_ful w σ α = false → post 1) : F_X4_mayStand (nI (σ 1)) (nI (σ 0)) (nI (σ 2)) (α 8) w post := by
  obtain ⟨hS, hC, hT, hD, hdm⟩ := hV
  have hN := hS.1
  have hC6 := hC.1
  have hT6 := hT.1
  unfold z_ful at h0 h1
  unfold F_X4_mayStand
  by_cases c : w < 6
  · refine ⟨hw, br_t (zi_f0 w c).1 (pk_lt (σ 0) 16 (fun e => z_b0 (h1 (decide_eq_false (fun f => by omega)))) (fun e => z_b1 (h0 (decide_eq_true (Or.inl ⟨c, by omega⟩)))))⟩
  by_cases c6 : w = 6
  · subst c6
    exact ⟨hw, br_f (by decide) (br_t rfl (pk_lt (σ 1) 6 (fun e => z_b0 (h1 (decide_eq_false (fun f => by omega)))) (fun e => z_b1 (h0 (decide_eq_true (Or.inr (Or.inl ⟨rfl, by omega⟩)))))))⟩
  by_cases c7 : w = 7
  · subst c7
    exact ⟨hw, br_f (by decide) (br_f (by decide) (br_t rfl (pk_lt (σ 2) 6 (fun e => z_b0 (h1 (decide_eq_false (fun f => by omega)))) (fun e => z_b1 (h0 (decide_eq_true (Or.inr (Or.inr (Or.inl ⟨rfl, by omega⟩)))))))))⟩
  by_cases c8 : w = 8
  · subst c8
    refine ⟨hw, br_f (by decide) (br_f (by decide) (br_f (by decide) (br_t rfl ?_)))⟩
    unfold F_X8_mayTakeNote F_X8_notesOf
    by_cases cT : σ 2 = 0
    · rw [cT]
      exact zf_X8has (N := 0) (by decide) (fun ⟨i, hi, _⟩ => by omega) (z_b0 ⟨z_vb0, h0 (decide_eq_true (Or.inr (Or.inr (Or.inr ⟨rfl, Or.inl cT⟩))))⟩)
    · obtain ⟨T, eT⟩ : ∃ T, σ 2 = T + 1 := ⟨σ 2 - 1, by omega⟩
      have hnt := (hT.2 T (by omega)).1
      rw [eT, nI_pred]
      rw [eT, show T + 1 - 1 = T by omega] at h0 h1
      rw [eT] at hT6
      refine zt_X8has (by omega) (by omega) (z_b1 (zt_X8has (by omega) (by omega) (z_b1 ⟨vp_in_nI (by omega) (by decide), ?_⟩)))
      rw [nI_clamp (by omega), hnt.1]
      exact pk_le 12 (z_nt (α 8) T) (fun e => ⟨z_vb0, h0 (decide_eq_true (Or.inr (Or.inr (Or.inr ⟨rfl, Or.inr (by omega)⟩))))⟩) (fun e => ⟨z_vb1, h1 (decide_eq_false (fun f => by omega))⟩)
  obtain ⟨k, rfl⟩ : ∃ k, w = k + 9 := ⟨w - 9, by omega⟩
  have ef := (zi_f9 k (by omega)).1
  rw [ef]
  exact ⟨hw, br_f (by decide) (br_f (by decide) (br_f (by decide) (br_f (by decide) (h1 (decide_eq_false (fun f => by omega))))))⟩
end CLS
