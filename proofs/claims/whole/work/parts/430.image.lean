/-! images -/
def z_cp {α : Type} (f g : Nat → α) (n : Nat) : Nat → α := fun k => if k < n then f k else g k
theorem z_cp_in {α : Type} {f g : Nat → α} {n k : Nat} (h : k < n) : z_cp f g n k = f k := if_pos h
theorem z_cp_congr {α : Type} {f f' g : Nat → α} {n : Nat} (h : ∀ k, k < n → f k = f' k) : z_cp f g n = z_cp f' g n := by
  funext k
  unfold z_cp
  by_cases e : k < n
  · rw [if_pos e, if_pos e, h k e]
  · rw [if_neg e, if_neg e]
theorem z_cpy {α : Type} (f g : Nat → α) (n : Nat) : va_cpy f g 0 0 n = z_cp f g n := by
  funext k
  unfold va_cpy z_cp
  by_cases e : k < n
  · rw [if_pos (by omega), if_pos e, show 0 + (k - 0) = k by omega]
  · rw [if_neg (by omega), if_neg e]
theorem zc_become {sd vC vN vT sd' vC' vN' vT' : Int32} {bs sh spd dm kd ot sp tm bt nts pt bs' sh' spd' dm' kd' ot' sp' tm' bt' nts' pt' : Nat → Int32} {post : Int32 → Int32 → (Nat → Int32) → (Nat → Int32) → (Nat → Int32) → (Nat → Int32) → Int32 → (Nat → Int32) → (Nat → Int32) → (Nat → Int32) → (Nat → Int32) → Int32 → (Nat → Int32) → (Nat → Int32) → (Nat → Int32) → Prop} (h : post sd' vC' (z_cp bs' bs 6) (z_cp sh' sh 6) (z_cp spd' spd 6) (z_cp dm' dm 4) vN' (z_cp kd' kd 16) (z_cp ot' ot 16) (z_cp sp' sp 16) (z_cp tm' tm 16) vT' (z_cp bt' bt 72) (z_cp nts' nts 6) (z_cp pt' pt 72)) : F_X5_become sd vC bs sh spd dm sd' vC' bs' sh' spd' dm' vN' kd' ot' sp' tm' vT' bt' nts' pt' vN kd ot sp tm vT bt nts pt post := by
  unfold F_X5_become F_X7_become F_X1_become F_X8_become
  rw [show (0 : Int32).toNatClampNeg = 0 from rfl, show (16 : Int32).toNatClampNeg = 16 from rfl, show (6 : Int32).toNatClampNeg = 6 from rfl, show (72 : Int32).toNatClampNeg = 72 from rfl, show (4 : Int32).toNatClampNeg = 4 from rfl]
  simp only [z_cpy]
  exact h
theorem z_wr_cp (f : Nat → Int32) (v : Nat → Int32) (n : Nat) : z_wr f 0 v n = z_cp v f n := by
  funext k
  unfold z_wr z_cp
  by_cases e : k < n
  · rw [if_pos (by omega), if_pos e, Nat.sub_zero]
  · rw [if_neg (by omega), if_neg e]
theorem z_wr0_s (f : Nat → Int32) (v : Nat → Int32) (n : Nat) : upd (z_wr f 0 v n) n (v n) = z_wr f 0 v (n + 1) := by
  have := z_wr_s f 0 v n
  rw [Nat.zero_add] at this
  exact this
theorem zm_keeps0 {n1 n3 n f : Nat} (h1 : n ≤ n1) (h3 : f + n ≤ n3) (hb1 : n1 ≤ 1000) (hb3 : n3 ≤ 1000) {g k : Nat → Int32} {post : Int32 → (Nat → Int32) → (Nat → Int32) → Prop} (h : post (nI (f + n)) g (z_wr k f g n)) : F_X10_keeps n1 n3 g k (nI n) (nI f) 0 post := by
  have key : ∀ c i : Nat, i + c = n → L_X10_keeps_3 n1 n3 (nI n) (nI f) 0 post (c + 1) (nI i) g (z_wr k f g i) := by
    intro c
    induction c with
    | zero =>
      intro i hi
      rw [L_X10_keeps_3, nI_add]
      refine pk_le n i (fun _ => ?_) (fun e => by omega)
      rw [show i = n by omega]; exact h
    | succ c ih =>
      intro i hi
      rw [L_X10_keeps_3, nI_add f i, nI_clamp (by omega), nI_clamp (by omega)]
      unfold F_X10_keeps_39
      refine pk_le n i (fun e => by omega) (fun _ => br_t rfl ⟨vp_in_nI (by omega) (by omega), vp_in_nI (by omega) (by omega), nm_r (nI_1 i) ?_⟩)
      rw [z_wr_s]
      exact ih (i + 1) (by omega)
  have k0 := key n 0 (by omega)
  rw [z_wr_0] at k0
  exact ⟨n + 1, k0⟩
theorem zm_keeps1 {n1 n3 n f : Nat} (h1 : n ≤ n1) (h3 : f + n ≤ n3) (hb1 : n1 ≤ 1000) (hb3 : n3 ≤ 1000) {g k : Nat → Int32} {post : Int32 → (Nat → Int32) → (Nat → Int32) → Prop} (h : post (nI (f + n)) (z_cp (fun i => k (f + i)) g n) k) : F_X10_keeps n1 n3 g k (nI n) (nI f) 1 post := by
  have key : ∀ c i : Nat, i + c = n → L_X10_keeps_3 n1 n3 (nI n) (nI f) 1 post (c + 1) (nI i) (z_wr g 0 (fun i => k (f + i)) i) k := by
    intro c
    induction c with
    | zero =>
      intro i hi
      rw [L_X10_keeps_3, nI_add]
      refine pk_le n i (fun _ => ?_) (fun e => by omega)
      rw [show i = n by omega, z_wr_cp]; exact h
    | succ c ih =>
      intro i hi
      rw [L_X10_keeps_3, nI_add f i, nI_clamp (by omega), nI_clamp (by omega)]
      unfold F_X10_keeps_39
      refine pk_le n i (fun e => by omega) (fun _ => br_f (by decide) ⟨vp_in_nI (by omega) (by omega), vp_in_nI (by omega) (by omega), nm_r (nI_1 i) ?_⟩)
      have e := z_wr0_s g (fun i => k (f + i)) i
      rw [e]
      exact ih (i + 1) (by omega)
  have k0 := key n 0 (by omega)
  rw [z_wr_0] at k0
  exact ⟨n + 1, k0⟩
def z_KK (kk a b c d e f g h p q : Nat → Int32) : Prop := (∀ i, i < 16 → kk i = a i) ∧ (∀ i, i < 16 → kk (16 + i) = b i) ∧ (∀ i, i < 16 → kk (32 + i) = c i) ∧ (∀ i, i < 16 → kk (48 + i) = d i) ∧ (∀ i, i < 6 → kk (64 + i) = e i) ∧ (∀ i, i < 6 → kk (70 + i) = f i) ∧ (∀ i, i < 6 → kk (76 + i) = g i) ∧ (∀ i, i < 6 → kk (82 + i) = h i) ∧ (∀ i, i < 72 → kk (88 + i) = p i) ∧ (∀ i, i < 72 → kk (160 + i) = q i)
def z_K8 (kk : Nat → Int32) (a b c d e f g h : Int32) : Prop := kk 232 = a ∧ kk 233 = b ∧ kk 234 = c ∧ kk 235 = d ∧ kk 236 = e ∧ kk 237 = f ∧ kk 238 = g ∧ kk 239 = h
theorem z_wr_in {f : Nat → Int32} {b : Nat} {v : Nat → Int32} {n k : Nat} (h1 : b ≤ k) (h2 : k < b + n) : z_wr f b v n k = v (k - b) := if_pos ⟨h1, h2⟩
theorem z_wr_out {f : Nat → Int32} {b : Nat} {v : Nat → Int32} {n k : Nat} (h : k < b ∨ b + n ≤ k) : z_wr f b v n k = f k := if_neg (by omega)
theorem zm_all0 {vN vC vT val vne vbo vte vsd : Int32} {bs bt kd nts ot kk pt sh sp spd tm : Nat → Int32} {post : Int32 → Int32 → Int32 → Int32 → Int32 → Int32 → Int32 → Int32 → (Nat → Int32) → (Nat → Int32) → (Nat → Int32) → (Nat → Int32) → (Nat → Int32) → (Nat → Int32) → (Nat → Int32) → (Nat → Int32) → (Nat → Int32) → (Nat → Int32) → (Nat → Int32) → Prop} (h : ∀ kk', z_KK kk' kd sp ot tm spd bs sh nts pt bt → z_K8 kk' vN vC vT val vne vbo vte vsd → post vN vC vT val vne vbo vte vsd bs bt kd nts ot kk' pt sh sp spd tm) : F_X10_all 240 vN vC vT val vne vbo vte vsd bs bt kd nts ot kk pt sh sp spd tm 0 post := by
  unfold F_X10_all
  refine zm_keeps0 (n := 16) (f := 0) (by decide) (by decide) (by decide) (by decide) (zm_keeps0 (n := 16) (f := 16) (by decide) (by decide) (by decide) (by decide) (zm_keeps0 (n := 16) (f := 32) (by decide) (by decide) (by decide) (by decide) (zm_keeps0 (n := 16) (f := 48) (by decide) (by decide) (by decide) (by decide) (zm_keeps0 (n := 6) (f := 64) (by decide) (by decide) (by decide) (by decide) (zm_keeps0 (n := 6) (f := 70) (by decide) (by decide) (by decide) (by decide) (zm_keeps0 (n := 6) (f := 76) (by decide) (by decide) (by decide) (by decide) (zm_keeps0 (n := 6) (f := 82) (by decide) (by decide) (by decide) (by decide) (zm_keeps0 (n := 72) (f := 88) (by decide) (by decide) (by decide) (by decide) (zm_keeps0 (n := 72) (f := 160) (by decide) (by decide) (by decide) (by decide) ?_)))))))))
  refine br_t rfl ⟨vp_in_nI (n := 232) (by decide) (by decide), vp_in_nI (n := 233) (by decide) (by decide), vp_in_nI (n := 234) (by decide) (by decide), vp_in_nI (n := 235) (by decide) (by decide), vp_in_nI (n := 236) (by decide) (by decide), vp_in_nI (n := 237) (by decide) (by decide), vp_in_nI (n := 238) (by decide) (by decide), vp_in_nI (n := 239) (by decide) (by decide), ?_⟩
  rw [show nI (160 + 72) + 1 = nI 233 from rfl, show nI (160 + 72) + 2 = nI 234 from rfl, show nI (160 + 72) + 3 = nI 235 from rfl, show nI (160 + 72) + 4 = nI 236 from rfl, show nI (160 + 72) + 5 = nI 237 from rfl, show nI (160 + 72) + 6 = nI 238 from rfl, show nI (160 + 72) + 7 = nI 239 from rfl]
  rw [show (nI (160 + 72)).toNatClampNeg = 232 from rfl, show (nI 233).toNatClampNeg = 233 from rfl, show (nI 234).toNatClampNeg = 234 from rfl, show (nI 235).toNatClampNeg = 235 from rfl, show (nI 236).toNatClampNeg = 236 from rfl, show (nI 237).toNatClampNeg = 237 from rfl, show (nI 238).toNatClampNeg = 238 from rfl, show (nI 239).toNatClampNeg = 239 from rfl]
  refine h _ ⟨?_, ?_, ?_, ?_, ?_, ?_, ?_, ?_, ?_, ?_⟩ ⟨?_, ?_, ?_, ?_, ?_, ?_, ?_, ?_⟩
  · intro i hi; rw [pk_un (by omega), pk_un (by omega), pk_un (by omega), pk_un (by omega), pk_un (by omega), pk_un (by omega), pk_un (by omega), pk_un (by omega), z_wr_out (by omega), z_wr_out (by omega), z_wr_out (by omega), z_wr_out (by omega), z_wr_out (by omega), z_wr_out (by omega), z_wr_out (by omega), z_wr_out (by omega), z_wr_out (by omega), z_wr_in (by omega) (by omega), Nat.sub_zero]
  · intro i hi; rw [pk_un (by omega), pk_un (by omega), pk_un (by omega), pk_un (by omega), pk_un (by omega), pk_un (by omega), pk_un (by omega), pk_un (by omega), z_wr_out (by omega), z_wr_out (by omega), z_wr_out (by omega), z_wr_out (by omega), z_wr_out (by omega), z_wr_out (by omega), z_wr_out (by omega), z_wr_out (by omega), z_wr_in (by omega) (by omega), Nat.add_sub_cancel_left]
  · intro i hi; rw [pk_un (by omega), pk_un (by omega), pk_un (by omega), pk_un (by omega), pk_un (by omega), pk_un (by omega), pk_un (by omega), pk_un (by omega), z_wr_out (by omega), z_wr_out (by omega), z_wr_out (by omega), z_wr_out (by omega), z_wr_out (by omega), z_wr_out (by omega), z_wr_out (by omega), z_wr_in (by omega) (by omega), Nat.add_sub_cancel_left]
  · intro i hi; rw [pk_un (by omega), pk_un (by omega), pk_un (by omega), pk_un (by omega), pk_un (by omega), pk_un (by omega), pk_un (by omega), pk_un (by omega), z_wr_out (by omega), z_wr_out (by omega), z_wr_out (by omega), z_wr_out (by omega), z_wr_out (by omega), z_wr_out (by omega), z_wr_in (by omega) (by omega), Nat.add_sub_cancel_left]
  · intro i hi; rw [pk_un (by omega), pk_un (by omega), pk_un (by omega), pk_un (by omega), pk_un (by omega), pk_un (by omega), pk_un (by omega), pk_un (by omega), z_wr_out (by omega), z_wr_out (by omega), z_wr_out (by omega), z_wr_out (by omega), z_wr_out (by omega), z_wr_in (by omega) (by omega), Nat.add_sub_cancel_left]
  · intro i hi; rw [pk_un (by omega), pk_un (by omega), pk_un (by omega), pk_un (by omega), pk_un (by omega), pk_un (by omega), pk_un (by omega), pk_un (by omega), z_wr_out (by omega), z_wr_out (by omega), z_wr_out (by omega), z_wr_out (by omega), z_wr_in (by omega) (by omega), Nat.add_sub_cancel_left]
  · intro i hi; rw [pk_un (by omega), pk_un (by omega), pk_un (by omega), pk_un (by omega), pk_un (by omega), pk_un (by omega), pk_un (by omega), pk_un (by omega), z_wr_out (by omega), z_wr_out (by omega), z_wr_out (by omega), z_wr_in (by omega) (by omega), Nat.add_sub_cancel_left]
  · intro i hi; rw [pk_un (by omega), pk_un (by omega), pk_un (by omega), pk_un (by omega), pk_un (by omega), pk_un (by omega), pk_un (by omega), pk_un (by omega), z_wr_out (by omega), z_wr_out (by omega), z_wr_in (by omega) (by omega), Nat.add_sub_cancel_left]
  · intro i hi; rw [pk_un (by omega), pk_un (by omega), pk_un (by omega), pk_un (by omega), pk_un (by omega), pk_un (by omega), pk_un (by omega), pk_un (by omega), z_wr_out (by omega), z_wr_in (by omega) (by omega), Nat.add_sub_cancel_left]
  · intro i hi; rw [pk_un (by omega), pk_un (by omega), pk_un (by omega), pk_un (by omega), pk_un (by omega), pk_un (by omega), pk_un (by omega), pk_un (by omega), z_wr_in (by omega) (by omega), Nat.add_sub_cancel_left]
  · rw [pk_un (by decide), pk_un (by decide), pk_un (by decide), pk_un (by decide), pk_un (by decide), pk_un (by decide), pk_un (by decide), pk_us]
  · rw [pk_un (by decide), pk_un (by decide), pk_un (by decide), pk_un (by decide), pk_un (by decide), pk_un (by decide), pk_us]
  · rw [pk_un (by decide), pk_un (by decide), pk_un (by decide), pk_un (by decide), pk_un (by decide), pk_us]
  · rw [pk_un (by decide), pk_un (by decide), pk_un (by decide), pk_un (by decide), pk_us]
  · rw [pk_un (by decide), pk_un (by decide), pk_un (by decide), pk_us]
  · rw [pk_un (by decide), pk_un (by decide), pk_us]
  · rw [pk_un (by decide), pk_us]
  · rw [pk_us]
theorem zm_all1 {vN vC vT val vne vbo vte vsd : Int32} {bs bt kd nts ot kk pt sh sp spd tm : Nat → Int32} {post : Int32 → Int32 → Int32 → Int32 → Int32 → Int32 → Int32 → Int32 → (Nat → Int32) → (Nat → Int32) → (Nat → Int32) → (Nat → Int32) → (Nat → Int32) → (Nat → Int32) → (Nat → Int32) → (Nat → Int32) → (Nat → Int32) → (Nat → Int32) → (Nat → Int32) → Prop} (h : post (kk 232) (kk 233) (kk 234) (kk 235) (kk 236) (kk 237) (kk 238) (kk 239) (z_cp (fun i => kk (70 + i)) bs 6) (z_cp (fun i => kk (160 + i)) bt 72) (z_cp (fun i => kk (0 + i)) kd 16) (z_cp (fun i => kk (82 + i)) nts 6) (z_cp (fun i => kk (32 + i)) ot 16) kk (z_cp (fun i => kk (88 + i)) pt 72) (z_cp (fun i => kk (76 + i)) sh 6) (z_cp (fun i => kk (16 + i)) sp 16) (z_cp (fun i => kk (64 + i)) spd 6) (z_cp (fun i => kk (48 + i)) tm 16)) : F_X10_all 240 vN vC vT val vne vbo vte vsd bs bt kd nts ot kk pt sh sp spd tm 1 post := by
  unfold F_X10_all
  refine zm_keeps1 (n := 16) (f := 0) (by decide) (by decide) (by decide) (by decide) (zm_keeps1 (n := 16) (f := 16) (by decide) (by decide) (by decide) (by decide) (zm_keeps1 (n := 16) (f := 32) (by decide) (by decide) (by decide) (by decide) (zm_keeps1 (n := 16) (f := 48) (by decide) (by decide) (by decide) (by decide) (zm_keeps1 (n := 6) (f := 64) (by decide) (by decide) (by decide) (by decide) (zm_keeps1 (n := 6) (f := 70) (by decide) (by decide) (by decide) (by decide) (zm_keeps1 (n := 6) (f := 76) (by decide) (by decide) (by decide) (by decide) (zm_keeps1 (n := 6) (f := 82) (by decide) (by decide) (by decide) (by decide) (zm_keeps1 (n := 72) (f := 88) (by decide) (by decide) (by decide) (by decide) (zm_keeps1 (n := 72) (f := 160) (by decide) (by decide) (by decide) (by decide) ?_)))))))))
  refine br_f (by decide) ⟨vp_in_nI (n := 232) (by decide) (by decide), vp_in_nI (n := 233) (by decide) (by decide), vp_in_nI (n := 234) (by decide) (by decide), vp_in_nI (n := 235) (by decide) (by decide), vp_in_nI (n := 236) (by decide) (by decide), vp_in_nI (n := 237) (by decide) (by decide), vp_in_nI (n := 238) (by decide) (by decide), vp_in_nI (n := 239) (by decide) (by decide), ?_⟩
  exact h
theorem z_VS.congr {N : Nat} {kd ot sp tm kd' ot' sp' tm' : Nat → Int32} (hS : z_VS N kd ot sp tm) (h : ∀ i, i < 16 → kd' i = kd i ∧ ot' i = ot i ∧ sp' i = sp i ∧ tm' i = tm i) : z_VS N kd' ot' sp' tm' := ⟨hS.1, fun i hi => by
  have := hS.1
  obtain ⟨e1, e2, e3, e4⟩ := h i (by omega)
  rw [e1, e2, e3, e4]
  exact hS.2 i hi⟩
theorem z_VC.congr {C : Nat} {bs sh spd bs' sh' spd' : Nat → Int32} (hC : z_VC C bs sh spd) (h : ∀ i, i < 6 → bs' i = bs i ∧ sh' i = sh i ∧ spd' i = spd i) : z_VC C bs' sh' spd' := ⟨hC.1, fun i hi => by
  have := hC.1
  obtain ⟨e1, e2, e3⟩ := h i (by omega)
  rw [e1, e2, e3]
  exact hC.2.1 i hi, by
  have := hC.1
  rw [z_sum_congr (g := fun i => z_tn (sh i)) C (fun i hi => by show z_tn (sh' i) = _; rw [(h i (by omega)).2.1])]
  exact hC.2.2⟩
theorem z_VT.congr {T : Nat} {bt nts pt bt' nts' pt' : Nat → Int32} (hT : z_VT T bt nts pt) (h : ∀ i, i < 6 → nts' i = nts i) (h2 : ∀ i, i < 72 → pt' i = pt i ∧ bt' i = bt i) : z_VT T bt' nts' pt' := ⟨hT.1, fun t ht => by
  have := hT.1
  obtain ⟨⟨b1, b2⟩, b3⟩ := hT.2 t ht
  have e1 : z_nt nts' t = z_nt nts t := by unfold z_nt; rw [h t (by omega)]
  rw [e1, h t (by omega)]
  refine ⟨⟨b1, b2⟩, fun i hi => ?_⟩
  have b4 := b3 i hi
  obtain ⟨g1, g2⟩ := h2 (12 * t + i) (by omega)
  unfold z_pt at b4 ⊢
  rw [g1, g2]
  exact b4⟩
def z_KP (kk : Nat → Int32) (ksd kC : Int32) (kbs ksh kspd kdm : Nat → Int32) (kN : Int32) (kkd kot ksp ktm : Nat → Int32) (kT : Int32) (kbt knts kpt : Nat → Int32) : Prop := ∃ N C T al ne bo te : Nat, (kN = nI N ∧ kC = nI C ∧ kT = nI T) ∧ z_VS N kkd kot ksp ktm ∧ z_VC C kbs ksh kspd ∧ z_VT T kbt knts kpt ∧ z_VD al ne bo te ∧ z_dm kdm al ne bo te ∧ z_KK kk kkd ksp kot ktm kspd kbs ksh knts kpt kbt ∧ z_K8 kk (nI N) (nI C) (nI T) (nI al) (nI ne) (nI bo) (nI te) ksd
section IMAGE
variable {N C T : Nat} {kd ot sp tm bs sh spd bt nts pt dm ref kk : Nat → Int32} {al ne bo te : Nat} {s1 s2 s3 s4 s5 : Int32}
theorem z_dm.cp {dm dm' : Nat → Int32} (h : z_dm dm al ne bo te) : z_dm (z_cp dm dm' 4) al ne bo te := h
theorem p_44 (hS : z_VS N kd ot sp tm) (hC : z_VC C bs sh spd) (hT : z_VT T bt nts pt) (hD : z_VD al ne bo te) (hdm : z_dm dm al ne bo te) {sd ik im ksd kC kN kT : Int32} {kbs ksh kspd kdm kkd kot ksp ktm kbt knts kpt : Nat → Int32} {post : Int32 → Int32 → Int32 → Int32 → Int32 → Int32 → Int32 → Int32 → Int32 → (Nat → Int32) → (Nat → Int32) → (Nat → Int32) → (Nat → Int32) → (Nat → Int32) → (Nat → Int32) → (Nat → Int32) → (Nat → Int32) → (Nat → Int32) → (Nat → Int32) → (Nat → Int32) → Int32 → Int32 → Int32 → (Nat → Int32) → (Nat → Int32) → (Nat → Int32) → (Nat → Int32) → Int32 → (Nat → Int32) → (Nat → Int32) → (Nat → Int32) → (Nat → Int32) → Int32 → (Nat → Int32) → (Nat → Int32) → (Nat → Int32) → Prop} (h : ∀ kk' kbs' ksh' kspd' kdm' kkd' kot' ksp' ktm' kbt' knts' kpt', z_KP kk' sd (nI C) kbs' ksh' kspd' kdm' (nI N) kkd' kot' ksp' ktm' (nI T) kbt' knts' kpt' → post (nI N) (nI C) (nI T) (nI al) (nI ne) (nI bo) (nI te) sd 1 bs bt kk' kd nts ot pt sh sp spd tm 1 sd (nI C) kbs' ksh' kspd' kdm' (nI N) kkd' kot' ksp' ktm' (nI T) kbt' knts' kpt') : O_44 (nI N) (nI C) (nI T) (nI al) (nI ne) (nI bo) (nI te) sd ik bs bt kk kd nts ot pt sh sp spd tm im ksd kC kbs ksh kspd kdm kN kkd kot ksp ktm kT kbt knts kpt sd (nI C) bs sh spd dm (nI N) kd ot sp tm (nI T) bt nts pt s1 s2 s3 s4 s5 post := by
  unfold O_44 F_X9_image F_X7_count
  refine zc_become ?_
  unfold F_X10_image
  refine zm_all0 (fun kk' h1 h2 => z_eq (h _ _ _ _ _ _ _ _ _ _ _ _ ⟨N, C, T, al, ne, bo, te, ⟨rfl, rfl, rfl⟩, hS.congr (fun i hi => ⟨z_cp_in hi, z_cp_in hi, z_cp_in hi, z_cp_in hi⟩), hC.congr (fun i hi => ⟨z_cp_in hi, z_cp_in hi, z_cp_in hi⟩), hT.congr (fun i hi => z_cp_in hi) (fun i hi => ⟨z_cp_in hi, z_cp_in hi⟩), hD, hdm.cp, ?_, h2⟩))
  obtain ⟨a0, a1, a2, a3, a4, a5, a6, a7, a8, a9⟩ := h1
  exact ⟨fun i hi => (a0 i hi).trans (z_cp_in hi).symm, fun i hi => (a1 i hi).trans (z_cp_in hi).symm, fun i hi => (a2 i hi).trans (z_cp_in hi).symm, fun i hi => (a3 i hi).trans (z_cp_in hi).symm, fun i hi => (a4 i hi).trans (z_cp_in hi).symm, fun i hi => (a5 i hi).trans (z_cp_in hi).symm, fun i hi => (a6 i hi).trans (z_cp_in hi).symm, fun i hi => (a7 i hi).trans (z_cp_in hi).symm, fun i hi => (a8 i hi).trans (z_cp_in hi).symm, fun i hi => (a9 i hi).trans (z_cp_in hi).symm⟩
theorem p_45 (hS : z_VS N kd ot sp tm) (hC : z_VC C bs sh spd) (hT : z_VT T bt nts pt) (hD : z_VD al ne bo te) (hdm : z_dm dm al ne bo te) {hd size shown ec sn so : Nat → Int32} {cells : Nat → Int64} {el : Nat → Nat → Int64} (hH : z_SH N hd size shown ec sn cells el) {sd ik ksd kC kN kT : Int32} {kbs ksh kspd kdm kkd kot ksp ktm kbt knts kpt : Nat → Int32} (hK : ik = 0 ∨ (ik = 1 ∧ z_KP kk ksd kC kbs ksh kspd kdm kN kkd kot ksp ktm kT kbt knts kpt)) {post : Int32 → Int32 → Int32 → Int32 → Int32 → Int32 → Int32 → Int32 → (Nat → Int32) → (Nat → Int32) → (Nat → Int32) → (Nat → Int32) → (Nat → Int32) → (Nat → Int32) → (Nat → Int32) → (Nat → Int32) → (Nat → Int32) → (Nat → Int32) → (Nat → Int32) → (Nat → Int32) → (Nat → Int32) → (Nat → Int32) → Int32 → Int32 → (Nat → Int32) → (Nat → Int32) → (Nat → Int32) → (Nat → Int32) → Int32 → (Nat → Int32) → (Nat → Int32) → (Nat → Int32) → (Nat → Int32) → Int32 → (Nat → Int32) → (Nat → Int32) → (Nat → Int32) → (Nat → Int32) → (Nat → Int32) → Prop} (h : ∀ R N' C' T' al' ne' bo' te' sd' bs' sh' spd' dm' kd' ot' sp' tm' bt' nts' pt' hd' ec', z_VS N' kd' ot' sp' tm' → z_VC C' bs' sh' spd' → z_VT T' bt' nts' pt' → z_VD al' ne' bo' te' → z_dm dm' al' ne' bo' te' → z_SH N' hd' size shown ec' sn cells el → post (nI N') (nI C') (nI T') (nI al') (nI ne') (nI bo') (nI te') sd' bs' bt' hd' kk kd' nts' ot' pt' R sh' sp' spd' tm' R sd' (nI C') bs' sh' spd' dm' (nI N') kd' ot' sp' tm' (nI T') bt' nts' pt' hd' ec') : O_45 (nI N) (nI C) (nI T) (nI al) (nI ne) (nI bo) (nI te) sd ik bs bt hd kk kd nts ot pt ref sh shown sp spd tm ik ksd kC kbs ksh kspd kdm kN kkd kot ksp ktm kT kbt knts kpt ref sd (nI C) bs sh spd dm (nI N) kd ot sp tm (nI T) bt nts pt hd so ec sn el s1 s2 s3 s4 s5 post := by
  unfold O_45 F_X9_restore
  rcases hK with e | ⟨e, N', C', T', al', ne', bo', te', ⟨eN, eC, eT⟩, kS, kVC, kVT, kD, kdm', kKK, kK8⟩
  · subst e
    refine br_t rfl (z_r6 ?_)
    unfold F_X10_restore
    exact br_t rfl (z_n6 (z_eq (h _ _ _ _ _ _ _ _ _ _ _ _ _ _ _ _ _ _ _ _ _ _ hS hC hT hD hdm hH)))
  · subst e eN eC eT
    have hN' := kS.1
    refine br_f (by decide) (zc_become (zc_clear hH hS.1 hN' ?_))
    unfold F_X7_count F_X10_restore
    refine br_f (by decide) (zm_all1 ?_)
    obtain ⟨a0, a1, a2, a3, a4, a5, a6, a7, a8, a9⟩ := kKK
    obtain ⟨c0, c1, c2, c3, c4, c5, c6, c7⟩ := kK8
    rw [c0, c1, c2, c3, c4, c5, c6, c7]
    rw [z_cp_congr (f := fun i => kk (70 + i)) (f' := kbs) (fun i hi => a5 i hi), z_cp_congr (f := fun i => kk (160 + i)) (f' := kbt) (fun i hi => a9 i hi), z_cp_congr (f := fun i => kk (0 + i)) (f' := kkd) (fun i hi => by show kk (0 + i) = _; rw [Nat.zero_add]; exact a0 i hi), z_cp_congr (f := fun i => kk (82 + i)) (f' := knts) (fun i hi => a7 i hi), z_cp_congr (f := fun i => kk (32 + i)) (f' := kot) (fun i hi => a2 i hi), z_cp_congr (f := fun i => kk (88 + i)) (f' := kpt) (fun i hi => a8 i hi), z_cp_congr (f := fun i => kk (76 + i)) (f' := ksh) (fun i hi => a6 i hi), z_cp_congr (f := fun i => kk (16 + i)) (f' := ksp) (fun i hi => a1 i hi), z_cp_congr (f := fun i => kk (64 + i)) (f' := kspd) (fun i hi => a4 i hi), z_cp_congr (f := fun i => kk (48 + i)) (f' := ktm) (fun i hi => a3 i hi)]
    refine zm_shows hH hS.1 hN' (z_eq (h _ _ _ _ _ _ _ _ _ _ _ _ _ _ _ _ _ _ _ _ _ _ (kS.congr (fun i hi => ⟨z_cp_in hi, z_cp_in hi, z_cp_in hi, z_cp_in hi⟩)) (kVC.congr (fun i hi => ⟨z_cp_in hi, z_cp_in hi, z_cp_in hi⟩)) (kVT.congr (fun i hi => z_cp_in hi) (fun i hi => ⟨z_cp_in hi, z_cp_in hi⟩)) kD kdm'.cp (hH.clr hS.1 _)))
/-! lay -/
def z_lK (pt : Nat → Int32) (t i : Nat) : Int32 := if z_pt pt t i = 0 then 3 else 1
theorem z_lay_VS (hD : z_VD al ne bo te) {t v : Nat} (M : Nat) {i : Nat} (hi : i ≤ M) (hM : M ≤ 12) : z_VS i (z_wr kd 0 (z_lK pt t) M) (z_wr ot 0 (fun _ => 0) M) (z_wr sp 0 (fun j => nI (z_cS ne v pt t j)) M) (z_wr tm 0 (fun j => nI (z_cT ne te v pt bt t j)) M) := by
  refine ⟨by omega, fun j hj => ?_⟩
  have hb := z_cS_b (v := v) hD.2.1.1 hD.2.1.2 pt t j
  have ht := z_tmn_b (z_cP te v bt t j) (z_cE ne te v pt bt t j) (z_cS ne v pt t j)
  rw [z_wr_in (Nat.zero_le _) (by omega), z_wr_in (Nat.zero_le _) (by omega), z_wr_in (Nat.zero_le _) (by omega), z_wr_in (Nat.zero_le _) (by omega), Nat.sub_zero]
  refine ⟨if z_pt pt t j = 0 then 3 else 1, 0, z_cS ne v pt t j, z_cT ne te v pt bt t j, ?_, rfl, rfl, rfl, ?_, by omega, by omega, hb.2, ht.1, ht.2⟩
  · unfold z_lK
    split <;> rfl
  · split <;> omega
theorem z_len_congr {kd ot sp tm kd' ot' sp' tm' : Nat → Int32} {i : Nat} (h1 : kd i = kd' i) (h2 : ot i = ot' i) (h3 : sp i = sp' i) (h4 : tm i = tm' i) : z_len kd ot sp tm i = z_len kd' ot' sp' tm' i := by
  unfold z_len z_sp
  rw [h1, h2, h3, h4]
theorem z_wr_more {f : Nat → Int32} {v : Nat → Int32} {i a b : Nat} (h1 : i < a) (h2 : i < b) : z_wr f 0 v a i = z_wr f 0 v b i := by
  rw [z_wr_in (Nat.zero_le _) (by omega), z_wr_in (Nat.zero_le _) (by omega)]
theorem p_28 (hS : z_VS N kd ot sp tm) (hT : z_VT T bt nts pt) (hD : z_VD al ne bo te) (hdm : z_dm dm al ne bo te) {hd size shown ec sn so : Nat → Int32} {cells : Nat → Int64} {el : Nat → Nat → Int64} (hH : z_SH N hd size shown ec sn cells el) {a b c : Nat → Int32} {xn : Int32} {xa xb xc : Nat → Int32} {post : Int32 → (Nat → Int32) → (Nat → Int32) → (Nat → Int32) → (Nat → Int32) → (Nat → Int32) → (Nat → Int32) → (Nat → Int32) → (Nat → Int32) → (Nat → Int32) → Int32 → (Nat → Int32) → (Nat → Int32) → (Nat → Int32) → (Nat → Int32) → Int32 → (Nat → Int32) → (Nat → Int32) → (Nat → Int32) → (Nat → Int32) → (Nat → Int32) → (Nat → Int32) → Prop} (h : ∀ N' a b c hd' kd' ot' R sp' tm' n d e f ec', z_VS N' kd' ot' sp' tm' → z_SH N' hd' size shown ec' sn cells el → post (nI N') a b c hd' kd' ot' R sp' tm' n d e f R (nI N') kd' ot' sp' tm' hd' ec') : O_28 (nI N) (nI T) (nI ne) (nI te) bt a b c hd kd nts ot pt ref shown sp tm xn xa xb xc ref dm (nI N) kd ot sp tm (nI T) bt nts pt hd so ec sn el s1 s2 s3 s4 s5 post := by
  have hT1 := hT.1
  have hN := hS.1
  unfold O_28 F_X9_lay
  refine zo_rta hT1 (fun c => br_f (by decide) (z_r1 ?_)) (fun t ht e c => br_f (by decide) (z_r6 ?_)) (fun t v ht e hv1 hv2 e2 => z_b0 ?_)
  · unfold F_X10_lay
    exact zf_mTune hT1 c (z_b0 (z_n1 (z_eq (h _ _ _ _ _ _ _ _ _ _ _ _ _ _ _ hS hH))))
  · subst e
    unfold F_X10_lay
    exact zt_mTune hT1 ht (z_b1 (zmf_isSpeed c (z_b0 (z_n6 (z_eq (h _ _ _ _ _ _ _ _ _ _ _ _ _ _ _ hS hH))))))
  · subst e e2
    have h12 := (hT.2 t ht).1.2
    refine zc_cutFor hT hD hdm ht hv2 (fun o s m hosm => ?_)
    unfold F_X7_leave
    have e0 : (if nI N < 0 then nI N else 0) = (0 : Int32) := if_neg (nI_pos (by omega))
    rw [e0, show (if (0 : Int32) < 0 then (0 : Int32) else 0) = 0 from rfl]
    have VSn := z_lay_VS (kd := kd) (ot := ot) (sp := sp) (tm := tm) (pt := pt) (bt := bt) hD (t := t) (v := v) (z_nt nts t) (i := z_nt nts t) (Nat.le_refl _) h12
    have cls : ∀ {post : Int32 → Int32 → (Nat → Int32) → (Nat → Int32) → (Nat → Int32) → (Nat → Int32) → Int32 → (Nat → Int32) → (Nat → Int32) → (Nat → Int32) → (Nat → Int32) → (Nat → Int32) → (Nat → Int32) → Prop}, post (nI (z_sum (z_len (z_wr kd 0 (z_lK pt t) (z_nt nts t)) (z_wr ot 0 (fun _ => 0) (z_nt nts t)) (z_wr sp 0 (fun j => nI (z_cS ne v pt t j)) (z_nt nts t)) (z_wr tm 0 (fun j => nI (z_cT ne te v pt bt t j)) (z_nt nts t))) (z_nt nts t))) (nI (z_nt nts t)) o s m ref (nI (z_nt nts t)) (z_wr kd 0 (z_lK pt t) (z_nt nts t)) (z_wr ot 0 (fun _ => 0) (z_nt nts t)) (z_wr sp 0 (fun j => nI (z_cS ne v pt t j)) (z_nt nts t)) (z_wr tm 0 (fun j => nI (z_cT ne te v pt bt t j)) (z_nt nts t)) (z_clr (z_nt nts t) hd shown 8) ec → ∀ k i : Nat, i + k = z_nt nts t → L_X9_lay_44 (nI T) nts pt sn (nI t) (nI (z_nt nts t)) o s m ref post (k + 1) (nI i) (nI i) (z_wr kd 0 (z_lK pt t) i) (z_wr ot 0 (fun _ => 0) i) (z_wr sp 0 (fun j => nI (z_cS ne v pt t j)) i) (z_wr tm 0 (fun j => nI (z_cT ne te v pt bt t j)) i) hd ec := by
      intro post hp k
      induction k with
      | zero =>
        intro i hi
        have ei : i = z_nt nts t := by omega
        subst ei
        rw [L_X9_lay_44]
        unfold F_X2_notes
        exact pk_le (z_nt nts t) (z_nt nts t) (fun _ => zc_clear hH hN (by omega) (zc_lengthOfAll VSn hp)) (fun e => by omega)
      | succ k ih =>
        intro i hi
        have ih1 := ih (i + 1) (by omega)
        have hp := ((hT.2 t ht).2 i (by omega)).1
        rw [← z_wr0_s, ← z_wr0_s, ← z_wr0_s, ← z_wr0_s] at ih1
        rw [L_X9_lay_44]
        unfold F_X2_notes F_X9_lay_77
        refine pk_le (z_nt nts t) i (fun e => by omega) (fun _ => zc_pitchOf hT ht (by omega) (pk_eq (z_pt pt t i) 0 (fun e => zc_spOf h12 (by omega) (zc_tmOf h12 (by omega) ?_)) (fun e => zc_spOf h12 (by omega) (zc_tmOf h12 (by omega) ?_))))
        · rw [(hosm i (by omega)).2.1, (hosm i (by omega)).2.2]
          refine zc_add (by omega) (nm_r (nI_1 i) ?_)
          rw [show z_lK pt t i = 3 from if_pos e] at ih1
          exact ih1
        · rw [(hosm i (by omega)).2.1, (hosm i (by omega)).2.2]
          refine zc_add (by omega) (nm_r (nI_1 i) ?_)
          rw [show z_lK pt t i = 1 from if_neg e] at ih1
          exact ih1
    have mod : ∀ (o s m : Nat → Int32), (∀ i, i < z_nt nts t → o i = nI (z_cO ne v pt t i) ∧ s i = nI (z_cS ne v pt t i) ∧ m i = nI (z_cT ne te v pt bt t i)) → ∀ {post : Int32 → Int32 → (Nat → Int32) → (Nat → Int32) → (Nat → Int32) → (Nat → Int32) → (Nat → Int32) → (Nat → Int32) → (Nat → Int32) → (Nat → Int32) → (Nat → Int32) → Prop}, post (nI (z_sum (z_len (z_wr kd 0 (z_lK pt t) (z_nt nts t)) (z_wr ot 0 (fun _ => 0) (z_nt nts t)) (z_wr sp 0 (fun j => nI (z_cS ne v pt t j)) (z_nt nts t)) (z_wr tm 0 (fun j => nI (z_cT ne te v pt bt t j)) (z_nt nts t))) (z_nt nts t))) (nI (z_nt nts t)) o s m (z_clr (z_nt nts t) hd shown 8) (z_wr kd 0 (z_lK pt t) (z_nt nts t)) (z_wr ot 0 (fun _ => 0) (z_nt nts t)) ref (z_wr sp 0 (fun j => nI (z_cS ne v pt t j)) (z_nt nts t)) (z_wr tm 0 (fun j => nI (z_cT ne te v pt bt t j)) (z_nt nts t)) → ∀ k i : Nat, i + k = z_nt nts t → L_X10_lay_45 nts pt shown (nI t) o s m ref post (k + 1) (nI (z_sum (z_len (z_wr kd 0 (z_lK pt t) (z_nt nts t)) (z_wr ot 0 (fun _ => 0) (z_nt nts t)) (z_wr sp 0 (fun j => nI (z_cS ne v pt t j)) (z_nt nts t)) (z_wr tm 0 (fun j => nI (z_cT ne te v pt bt t j)) (z_nt nts t))) i)) (nI i) (nI i) hd (z_wr kd 0 (z_lK pt t) i) (z_wr ot 0 (fun _ => 0) i) (z_wr sp 0 (fun j => nI (z_cS ne v pt t j)) i) (z_wr tm 0 (fun j => nI (z_cT ne te v pt bt t j)) i) := by
      intro o s m hosm post hp k
      induction k with
      | zero =>
        intro i hi
        have ei : i = z_nt nts t := by omega
        subst ei
        rw [L_X10_lay_45, show (nI t).toNatClampNeg = t from nI_clamp (by omega), (hT.2 t ht).1.1]
        exact ⟨vp_in_nI (by omega) (by decide), pk_le (z_nt nts t) (z_nt nts t) (fun _ => zm_shows hH hN (by omega) hp) (fun e => by omega)⟩
      | succ k ih =>
        intro i hi
        have hp := ((hT.2 t ht).2 i (by omega)).1
        have ih1 := ih (i + 1) (by omega)
        have VSi := z_lay_VS (kd := kd) (ot := ot) (sp := sp) (tm := tm) (pt := pt) (bt := bt) hD (t := t) (v := v) (i + 1) (i := i + 1) (Nat.le_refl _) (by omega)
        have el : z_len (z_wr kd 0 (z_lK pt t) (i + 1)) (z_wr ot 0 (fun _ => 0) (i + 1)) (z_wr sp 0 (fun j => nI (z_cS ne v pt t j)) (i + 1)) (z_wr tm 0 (fun j => nI (z_cT ne te v pt bt t j)) (i + 1)) i = z_len (z_wr kd 0 (z_lK pt t) (z_nt nts t)) (z_wr ot 0 (fun _ => 0) (z_nt nts t)) (z_wr sp 0 (fun j => nI (z_cS ne v pt t j)) (z_nt nts t)) (z_wr tm 0 (fun j => nI (z_cT ne te v pt bt t j)) (z_nt nts t)) i := z_len_congr (z_wr_more (by omega) (by omega)) (z_wr_more (by omega) (by omega)) (z_wr_more (by omega) (by omega)) (z_wr_more (by omega) (by omega))
        have go : ∀ K : Int32, K = z_lK pt t i → F_X10_lay_77 (fun x3 x4 v_stretches f_held f_kind f_other f_space f_times => L_X10_lay_45 nts pt shown (nI t) o s m ref post (k + 1) x3 x4 v_stretches f_held f_kind f_other f_space f_times) (nI t) (nI (z_sum (z_len (z_wr kd 0 (z_lK pt t) (z_nt nts t)) (z_wr ot 0 (fun _ => 0) (z_nt nts t)) (z_wr sp 0 (fun j => nI (z_cS ne v pt t j)) (z_nt nts t)) (z_wr tm 0 (fun j => nI (z_cT ne te v pt bt t j)) (z_nt nts t))) i)) (nI i) (nI i) o s m hd (z_wr kd 0 (z_lK pt t) i) (z_wr ot 0 (fun _ => 0) i) ref (z_wr sp 0 (fun j => nI (z_cS ne v pt t j)) i) (z_wr tm 0 (fun j => nI (z_cT ne te v pt bt t j)) i) K := by
          intro K hK
          subst hK
          unfold F_X10_lay_77
          rw [show (nI i).toNatClampNeg = i from nI_clamp (by omega), (hosm i (by omega)).2.1, (hosm i (by omega)).2.2]
          refine ⟨vp_in_nI (by omega) (by decide), vp_in_nI (by omega) (by decide), zm_comes (by omega) ?_⟩
          have w1 := z_wr0_s kd (z_lK pt t) i
          have w2 := z_wr0_s ot (fun _ => 0) i
          have w3 := z_wr0_s sp (fun j => nI (z_cS ne v pt t j)) i
          have w4 := z_wr0_s tm (fun j => nI (z_cT ne te v pt bt t j)) i
          rw [w1, w2, w3, w4]
          refine zm_lengthOf VSi (by omega) ?_
          rw [el]
          exact nm_r (nI_add _ _) (nm_r (nI_1 i) ih1)
        rw [L_X10_lay_45, show (nI t).toNatClampNeg = t from nI_clamp (by omega), (hT.2 t ht).1.1, z_ix12, show (nI (12 * t + i)).toNatClampNeg = 12 * t + i from nI_clamp (by omega), hp.1]
        exact ⟨vp_in_nI (by omega) (by decide), pk_le (z_nt nts t) i (fun e => by omega) (fun _ => ⟨vp_in_nI (by omega) (by decide), pk_eq (z_pt pt t i) 0 (fun e => go 3 (if_pos e).symm) (fun e => go 1 (if_neg e).symm)⟩)⟩
    have c0 := cls (post := fun r1242 w1242_0 w1242_1 w1242_2 w1242_3 w1242_4 w1242_5 w1242_6 w1242_7 w1242_8 w1242_9 w1242_10 w1242_11 => F_X10_lay (nI N) (nI T) (nI ne) (nI te) bt a b c hd kd nts ot pt ref shown sp tm (nI t) (nI v) (fun r1256 w1256_0 w1256_1 w1256_2 w1256_3 w1256_4 w1256_5 w1256_6 w1256_7 w1256_8 w1256_9 => ((r1242 = r1256 → post w1256_0 w1256_1 w1256_2 w1256_3 w1256_4 w1256_5 w1256_6 w1256_7 w1256_8 w1256_9 w1242_0 w1242_1 w1242_2 w1242_3 w1242_4 w1242_5 w1242_6 w1242_7 w1242_8 w1242_9 w1242_10 w1242_11) ∧ (¬ r1242 = r1256 → False)))) ?_ (z_nt nts t) 0 (by omega)
    · rw [z_wr_0, z_wr_0, z_wr_0, z_wr_0] at c0
      exact ⟨_, c0⟩
    · unfold F_X10_lay
      refine zt_mTune hT1 ht (z_b1 (zmt_isSpeed (z_spd1 hv1 hv2) (z_spd2 hv2) (z_b1 (zm_cuts hT hD ht hv2 (fun o2 s2 m2 hosm2 => ?_)))))
      have m0 := mod o2 s2 m2 hosm2 (post := fun r q0 q1 q2 q3 q4 q5 q6 q7 q8 q9 => ((nI (z_sum (z_len (z_wr kd 0 (z_lK pt t) (z_nt nts t)) (z_wr ot 0 (fun _ => 0) (z_nt nts t)) (z_wr sp 0 (fun j => nI (z_cS ne v pt t j)) (z_nt nts t)) (z_wr tm 0 (fun j => nI (z_cT ne te v pt bt t j)) (z_nt nts t))) (z_nt nts t)) = r → post q0 q1 q2 q3 q4 q5 q6 q7 q8 q9 (nI (z_nt nts t)) o s m ref (nI (z_nt nts t)) (z_wr kd 0 (z_lK pt t) (z_nt nts t)) (z_wr ot 0 (fun _ => 0) (z_nt nts t)) (z_wr sp 0 (fun j => nI (z_cS ne v pt t j)) (z_nt nts t)) (z_wr tm 0 (fun j => nI (z_cT ne te v pt bt t j)) (z_nt nts t)) (z_clr (z_nt nts t) hd shown 8) ec) ∧ (¬ nI (z_sum (z_len (z_wr kd 0 (z_lK pt t) (z_nt nts t)) (z_wr ot 0 (fun _ => 0) (z_nt nts t)) (z_wr sp 0 (fun j => nI (z_cS ne v pt t j)) (z_nt nts t)) (z_wr tm 0 (fun j => nI (z_cT ne te v pt bt t j)) (z_nt nts t))) (z_nt nts t)) = r → False))) (z_eq (h (z_nt nts t) o2 s2 m2 _ _ _ ref _ _ (nI (z_nt nts t)) o s m ec VSn (hH.clr hN _))) (z_nt nts t) 0 (by omega)
      rw [z_wr_0, z_wr_0, z_wr_0, z_wr_0] at m0
      exact ⟨_, m0⟩
end IMAGE
