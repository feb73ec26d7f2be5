/-! operations: stretches, tune -/
theorem z_SH.mono {N N' : Nat} {hd size shown ec sn : Nat → Int32} {cells : Nat → Int64} {el : Nat → Nat → Int64} (hH : z_SH N hd size shown ec sn cells el) (h : N ≤ N') : z_SH N' hd size shown ec sn cells el := by
  intro s hs
  obtain ⟨a1, a2, a3, a4, a5⟩ := hH s hs
  exact ⟨a1, a2, a3, fun f => by obtain ⟨j, hj, e⟩ := a4 f; exact ⟨j, by omega, e⟩, a5⟩
abbrev z_ok (n : Nat) (k s o t : Int32) : Prop := n < 16 ∧ (0 ≤ k ∧ k ≤ 6) ∧ z_ms s o t
def z_sts (v : Nat → Int32) : Nat → Nat → Nat × Nat × (Nat → Int32) × (Nat → Int32) × (Nat → Int32) × (Nat → Int32) → Nat × Nat × (Nat → Int32) × (Nat → Int32) × (Nat → Int32) × (Nat → Int32)
  | 0, _, s => s
  | k + 1, i, s => if z_ok s.2.1 (v i) (v (i + 1)) (v (i + 2)) (v (i + 3)) then z_sts v k (i + 4) (s.1 + 1, s.2.1 + 1, upd s.2.2.1 s.2.1 (v i), upd s.2.2.2.1 s.2.1 (v (i + 2)), upd s.2.2.2.2.1 s.2.1 (v (i + 1)), upd s.2.2.2.2.2 s.2.1 (v (i + 3))) else s
theorem z_sts_VS (v : Nat → Int32) : ∀ (k i c N : Nat) (kd ot sp tm : Nat → Int32), z_VS N kd ot sp tm → z_VS (z_sts v k i (c, N, kd, ot, sp, tm)).2.1 (z_sts v k i (c, N, kd, ot, sp, tm)).2.2.1 (z_sts v k i (c, N, kd, ot, sp, tm)).2.2.2.1 (z_sts v k i (c, N, kd, ot, sp, tm)).2.2.2.2.1 (z_sts v k i (c, N, kd, ot, sp, tm)).2.2.2.2.2 ∧ N ≤ (z_sts v k i (c, N, kd, ot, sp, tm)).2.1
  | 0, i, c, N, kd, ot, sp, tm, h => ⟨h, Nat.le_refl _⟩
  | k + 1, i, c, N, kd, ot, sp, tm, h => by
    rw [z_sts]
    dsimp only
    by_cases e : z_ok N (v i) (v (i + 1)) (v (i + 2)) (v (i + 3))
    · rw [if_pos e]
      have h2 := z_sts_VS v k (i + 4) (c + 1) (N + 1) _ _ _ _ (h.add e.1 e.2.1 e.2.2)
      exact ⟨h2.1, by omega⟩
    · rw [if_neg e]
      exact ⟨h, Nat.le_refl _⟩
theorem zc_intAt {n i : Nat} (hn : n ≤ 160) (hi : i < n) {g : Nat → Int64} {post : Int32 → Prop} (h : post (g i).toInt32) : F_X6_intAt (nI n) g (nI i) post := by
  unfold F_X6_intAt
  refine zt_X6has hn hi (z_b1 ⟨vp_in_nI (by omega) (by decide), ?_⟩)
  rw [nI_clamp (by omega)]
  exact h
theorem zf_intAt {n i : Nat} (hn : n ≤ 160) (hi : n ≤ i) (hi2 : i < 2 ^ 31) {g : Nat → Int64} {post : Int32 → Prop} (h : post 0) : F_X6_intAt (nI n) g (nI i) post := by
  unfold F_X6_intAt
  refine zf_X6has hn (fun ⟨j, hj, e⟩ => ?_) (z_b0 h)
  have := (nI_eq (by omega) (by omega)).mp e
  omega
section STS
variable {N : Nat} {kd ot sp tm ref : Nat → Int32}
theorem zf_add (hN : N = 16) {x1 x2 x3 x4 : Int32} {post : Int32 → Int32 → (Nat → Int32) → (Nat → Int32) → (Nat → Int32) → (Nat → Int32) → Prop} (h : post (-1) (nI N) kd ot sp tm) : F_X7_add (nI N) kd ot sp tm x1 x2 x3 x4 post := by
  unfold F_X7_add F_X7_isFull
  subst hN
  exact br_f (by decide) (z_b1 h)
theorem z_nIm {n : Nat} (h : n < 2 ^ 31) : ¬ nI n = -1 := fun e => by
  have := congrArg Int32.toInt e
  rw [nI_toInt h] at this
  have h9 : (-1 : Int32).toInt = -1 := by decide
  omega
theorem zc_addFrom {n p : Nat} (hn : n ≤ 160) (hp : p + 4 ≤ n) (hN : N ≤ 16) {g : Nat → Int64} {post : Int32 → Int32 → (Nat → Int32) → (Nat → Int32) → (Nat → Int32) → (Nat → Int32) → Prop} (h1 : z_ok N (g p).toInt32 (g (p + 1)).toInt32 (g (p + 2)).toInt32 (g (p + 3)).toInt32 → post 1 (nI (N + 1)) (upd kd N (g p).toInt32) (upd ot N (g (p + 2)).toInt32) (upd sp N (g (p + 1)).toInt32) (upd tm N (g (p + 3)).toInt32)) (h0 : ¬ z_ok N (g p).toInt32 (g (p + 1)).toInt32 (g (p + 2)).toInt32 (g (p + 3)).toInt32 → post 0 (nI N) kd ot sp tm) : F_X9_addStretchFrom (nI n) g (nI N) kd ot sp tm (nI p) post := by
  unfold F_X9_addStretchFrom
  rw [nI_1, show nI p + 2 = nI (p + 2) from nI_add p 2, show nI p + 3 = nI (p + 3) from nI_add p 3]
  refine zc_intAt hn (by omega) (zc_intAt hn (by omega) (zc_intAt hn (by omega) (zc_intAt hn (by omega) (zo_within (fun c => z_b0 (h0 (fun f => c f.2.1))) (fun c1 c2 => z_b1 (zo_meas (fun c => z_b0 (h0 (fun f => c f.2.2))) (fun d => z_b1 ?_)))))))
  by_cases e : N < 16
  · exact zc_add e (br_f (z_nIm (by omega)) (h1 ⟨e, ⟨c1, c2⟩, d⟩))
  · exact zf_add (by omega) (br_t rfl (h0 (fun f => e f.1)))
theorem z_nI4 {m : Nat} (hm : m < 2 ^ 31) : nI m / 4 = nI (m / 4) := pk_div hm (by decide) (by decide)
theorem zc_sts {s n i0 m4 m : Nat} {cnt : Nat → Int32} {el : Nat → Nat → Int64} (hcnt : cnt s = nI n) (hn : n ≤ 160) (hm : m = 4 * m4) (hi : i0 + m ≤ n) {post : Int32 → (Nat → Int32) → Int32 → (Nat → Int32) → (Nat → Int32) → (Nat → Int32) → (Nat → Int32) → Prop} : ∀ (k c N : Nat) (kd ot sp tm : Nat → Int32), c + k = m4 → N ≤ 16 → (∀ r, r = z_sts (fun i => (el s i).toInt32) k (i0 + 4 * c) (c, N, kd, ot, sp, tm) → post (nI r.1) ref (nI r.2.1) r.2.2.1 r.2.2.2.1 r.2.2.2.2.1 r.2.2.2.2.2) → L_X9_stretches_75 cnt el (nI i0) (nI m) s ref post (k + 1) (nI c) (nI N) kd ot sp tm := by
  intro k
  induction k with
  | zero =>
    intro c N kd ot sp tm hc hN h
    rw [L_X9_stretches_75, z_nI4 (by omega)]
    exact pk_le (m / 4) c (fun _ => h _ rfl) (fun e => by omega)
  | succ k ih =>
    intro c N kd ot sp tm hc hN h
    rw [L_X9_stretches_75, z_nI4 (by omega), show (4 : Int32) * nI c = nI (4 * c) from pk_mul 4 c, nI_add, hcnt]
    rw [z_sts] at h
    dsimp only at h
    refine pk_le (m / 4) c (fun e => by omega) (fun _ => zc_addFrom hn (by omega) hN (fun ok => z_b1 (nm_r (nI_1 c) (ih (c + 1) (N + 1) _ _ _ _ (by omega) (by have := ok.1; omega) ?_))) (fun no => z_b0 ?_))
    · rw [if_pos ok] at h
      rw [show i0 + 4 * (c + 1) = i0 + 4 * c + 4 by omega]
      exact h
    · rw [if_neg no] at h
      exact h _ rfl
theorem zm_intAt {s i : Nat} (hs : s < 8) (hi : i < 160) {cells : Nat → Int64} {post : Int32 → Prop} (h : post (cells (160 * s + i)).toInt32) : F_X10_intAt cells (nI s) (nI i) post := by
  unfold F_X10_intAt
  rw [z_ix160, nI_clamp (by omega)]
  exact ⟨vp_in_nI (by omega) (by decide), h⟩
theorem zm_sts {s i0 m4 m : Nat} (hs : s < 8) {cells : Nat → Int64} {v : Nat → Int32} (hv : ∀ i, i < 160 → v i = (cells (160 * s + i)).toInt32) (hm : m = 4 * m4) (hi : i0 + m ≤ 160) {post : Int32 → Int32 → (Nat → Int32) → (Nat → Int32) → (Nat → Int32) → (Nat → Int32) → (Nat → Int32) → Prop} : ∀ (k c N : Nat) (kd ot sp tm : Nat → Int32), c + k = m4 → N ≤ 16 → (∀ r, r = z_sts v k (i0 + 4 * c) (c, N, kd, ot, sp, tm) → post (nI r.1) (nI r.2.1) r.2.2.1 r.2.2.2.1 ref r.2.2.2.2.1 r.2.2.2.2.2) → L_X10_stretches_72 cells (nI s) (nI i0) (nI m) ref post (k + 1) (nI c) (nI (i0 + 4 * c)) (nI N) kd ot sp tm := by
  intro k
  induction k with
  | zero =>
    intro c N kd ot sp tm hc hN h
    rw [L_X10_stretches_72, nI_add]
    exact pk_le (i0 + m) (i0 + 4 * c) (fun _ => h _ rfl) (fun e => by omega)
  | succ k ih =>
    intro c N kd ot sp tm hc hN h
    rw [z_sts] at h
    dsimp only at h
    rw [hv _ (by omega), hv _ (by omega), hv _ (by omega), hv _ (by omega)] at h
    rw [L_X10_stretches_72, nI_add, nI_1, show nI (i0 + 4 * c) + 2 = nI (i0 + 4 * c + 2) from nI_add _ 2, show nI (i0 + 4 * c) + 3 = nI (i0 + 4 * c + 3) from nI_add _ 3]
    have no : ¬ z_ok N (cells (160 * s + (i0 + 4 * c))).toInt32 (cells (160 * s + (i0 + 4 * c + 1))).toInt32 (cells (160 * s + (i0 + 4 * c + 2))).toInt32 (cells (160 * s + (i0 + 4 * c + 3))).toInt32 → post (nI c) (nI N) kd ot ref sp tm := fun f => by
      rw [if_neg f] at h
      exact h _ rfl
    refine pk_le (i0 + m) (i0 + 4 * c) (fun e => by omega) (fun _ => zm_intAt hs (by omega) (pk_eq N 16 (fun e => no (fun f => by have := f.1; omega)) (fun e => ⟨fun f => no (fun g => z_lnt g.2.1.1 f), fun f1 => ⟨fun f => no (fun g => z_lnt g.2.1.2 f), fun f2 => zm_intAt hs (by omega) (zm_intAt hs (by omega) (zm_intAt hs (by omega) (zm_so (fun f => z_b0 (no (fun g => f g.2.2))) (fun d => z_b1 (zm_intAt hs (by omega) (zm_intAt hs (by omega) (zm_intAt hs (by omega) (zm_comes (by omega) (nm_r (nI_1 c) (nm_r (e' := nI (i0 + 4 * (c + 1))) (by rw [show nI (i0 + 4 * c) + 4 = nI (i0 + 4 * c + 4) from nI_add _ 4]; rfl) (ih (c + 1) (N + 1) _ _ _ _ (by omega) (by omega) ?_)))))))))))⟩⟩)))
    rw [if_pos ⟨by omega, ⟨z_nlt f1, z_nlt f2⟩, d⟩] at h
    exact h
end STS
section STRS
variable {N : Nat} {kd ot sp tm hd size shown ec sn so ref : Nat → Int32} {cells : Nat → Int64} {el : Nat → Nat → Int64} {s1 s2 s3 s4 s5 : Int32}
theorem p_8 (hS : z_VS N kd ot sp tm) (hH : z_SH N hd size shown ec sn cells el) {post : Int32 → (Nat → Int32) → (Nat → Int32) → (Nat → Int32) → (Nat → Int32) → (Nat → Int32) → (Nat → Int32) → Int32 → (Nat → Int32) → (Nat → Int32) → (Nat → Int32) → (Nat → Int32) → Prop} (h : ∀ R N' kd' ot' sp' tm', N ≤ N' → z_VS N' kd' ot' sp' tm' → post (nI N') kd' ot' R sp' tm' R (nI N') kd' ot' sp' tm') : O_8 (nI N) cells hd kd ot ref size sp tm ref (nI N) kd ot sp tm hd so ec sn el s1 s2 s3 s4 s5 post := by
  have hN := hS.1
  unfold O_8 F_X9_stretches F_X9_refusalOfRow_null0
  refine zo_shelfAt (fun c => br_f (by decide) (z_r1 ?_)) (fun s hs e => ?_)
  · unfold F_X10_stretches
    exact zm_wants_no c (br_f (by decide) (z_n1 (z_eq (h _ _ _ _ _ _ (Nat.le_refl _) hS))))
  · subst e
    obtain ⟨a1, a2, a3, a4, a5⟩ := hH s hs
    have hc : (nI s).toNatClampNeg = s := nI_clamp (by omega)
    refine zo_ror a1 (fun e => br_f (by decide) (z_r2 ?_)) (fun e => z_b0 ?_) (fun e => br_f (by decide) (z_r3 ?_))
    · unfold F_X10_stretches
      exact zm_wants hs a1 (fun _ => br_f (by decide) (z_n2 (z_eq (h _ _ _ _ _ _ (Nat.le_refl _) hS)))) (fun f => absurd (e.symm.trans f) (by decide)) (fun f => absurd (e.symm.trans f) (by decide))
    · obtain ⟨n, hn, en1, en2⟩ := a2 e
      have w0 : ∀ {post : Int32 → Prop}, post 0 → F_X10_wants hd (nI s) post := fun hp => zm_wants hs a1 (fun f => absurd (e.symm.trans f) (by decide)) (fun _ => hp) (fun f => absurd (e.symm.trans f) (by decide))
      rw [en2]
      refine ⟨fun c3 => ?_, fun c3 => z_r4 ?_⟩
      · obtain ⟨m, hm, rfl⟩ := nI_of (z_lnt c3)
        have eq5 : (¬ ∃ i, s2 = nI i ∧ i + m ≤ n) → ∀ {post : Int32 → Int32 → (Nat → Int32) → (Nat → Int32) → (Nat → Int32) → (Nat → Int32) → (Nat → Int32) → Prop}, post (-5) (nI N) kd ot (z_rf ref 5) sp tm → F_X10_stretches (nI N) cells hd kd ot ref size sp tm (nI s) s2 (nI m) post := by
          intro c post hp
          unfold F_X10_stretches
          rw [hc, en1]
          refine w0 (z_b0 (br_t c3 ⟨fun _ => z_n5 hp, fun f => ⟨vp_in_nI (by omega) (by decide), fun f2 => ?_, fun _ => z_n5 hp⟩⟩))
          obtain ⟨i, hi, rfl⟩ := nI_of f
          exfalso
          refine c ⟨i, rfl, ?_⟩
          rw [Int32.le_iff_toInt_le, nI_toInt hi] at f2
          by_cases z : m ≤ n
          · rw [pk_sub z, nI_toInt (by omega)] at f2; omega
          · exfalso
            rw [Int32.toInt_sub, nI_toInt (by omega), nI_toInt (by omega), Int.bmod_eq_of_le (by omega) (by omega)] at f2
            omega
        refine zc_hasEls (i := 0) hn hm (fun c => z_b0 (z_r5 (eq5 c (z_eq (h _ _ _ _ _ _ (Nat.le_refl _) hS))))) (fun i e4 h4 => z_b1 ?_)
        subst e4
        have e4 : nI m - nI m / 4 * 4 = nI (m % 4) := pk_rem (d := 4) hm (by decide) (by decide)
        have mod : ∀ {post : Int32 → Int32 → (Nat → Int32) → (Nat → Int32) → (Nat → Int32) → (Nat → Int32) → (Nat → Int32) → Prop}, ((nI (m % 4) = 0 → (∃ n72 : Nat, L_X10_stretches_72 cells (nI s) (nI i) (nI m) ref post n72 0 (nI i) (nI N) kd ot sp tm)) ∧ (¬ nI (m % 4) = 0 → (F_X10_no ref (-6) (fun r62 w62_0 => post r62 (nI N) kd ot w62_0 sp tm)))) → F_X10_stretches (nI N) cells hd kd ot ref size sp tm (nI s) (nI i) (nI m) post := by
          intro post hp
          unfold F_X10_stretches
          rw [hc, en1, pk_sub (by omega), e4]
          exact w0 (z_b0 (br_t c3 (br_f (nI_pos (by omega)) ⟨vp_in_nI (by omega) (by decide), br_t (nI_le (by omega) (by omega)) hp⟩)))
        rw [e4]
        refine pk_eq (m % 4) 0 (fun e5 => ?_) (fun e5 => z_r6 ?_) rfl rfl (by omega) (by omega)
        · have em : m = 4 * (m / 4) := by omega
          have hv := z_sts_VS (fun i => (el s i).toInt32) (m / 4) (i + 4 * 0) 0 N kd ot sp tm hS
          refine ⟨m / 4 + 1, zc_sts (s := s) (n := n) (i0 := i) en2 hn em (by omega) (m / 4) 0 N kd ot sp tm (by omega) hN (fun r er => ?_)⟩
          refine mod (br_t (by rw [e5]; rfl) ⟨m / 4 + 1, zm_sts (v := fun i => (el s i).toInt32) hs (fun x hx => by show (el s x).toInt32 = _; rw [a5 x hx]) em (by omega) (m / 4) 0 N kd ot sp tm (by omega) hN (fun r2 er2 => ?_)⟩)
          rw [er2, ← er]
          rw [← er] at hv
          exact z_eq (h _ _ _ _ _ _ hv.2 hv.1)
        · refine mod (br_f (nI_ne0 (by omega) (by omega)) (z_n6 (z_eq (h _ _ _ _ _ _ (Nat.le_refl _) hS))))
      · unfold F_X10_stretches
        exact w0 (z_b0 (br_f c3 (z_n4 (z_eq (h _ _ _ _ _ _ (Nat.le_refl _) hS)))))
    · unfold F_X10_stretches
      exact zm_wants hs a1 (fun f => absurd (e.symm.trans f) (by decide)) (fun f => absurd (e.symm.trans f) (by decide)) (fun _ => br_f (by decide) (z_n3 (z_eq (h _ _ _ _ _ _ (Nat.le_refl _) hS))))
end STRS
/-! tune -/
def z_wr (f : Nat → Int32) (b : Nat) (v : Nat → Int32) (n : Nat) : Nat → Int32 := fun x => if b ≤ x ∧ x < b + n then v (x - b) else f x
theorem z_wr_0 (f : Nat → Int32) (b : Nat) (v : Nat → Int32) : z_wr f b v 0 = f := funext fun x => if_neg (by omega)
theorem z_wr_s (f : Nat → Int32) (b : Nat) (v : Nat → Int32) (n : Nat) : upd (z_wr f b v n) (b + n) (v n) = z_wr f b v (n + 1) := by
  funext x
  unfold z_wr upd
  by_cases e : x = b + n
  · rw [if_pos e, if_pos (by omega), show x - b = n by omega]
  · rw [if_neg e]
    dsimp only
    by_cases c : b ≤ x ∧ x < b + n
    · rw [if_pos c, if_pos (by omega)]
    · rw [if_neg c, if_neg (by omega)]
theorem z_upd2 (f : Nat → Int32) (i : Nat) (x y : Int32) : upd (upd f i x) i y = upd f i y := by
  funext j
  unfold upd
  by_cases e : j = i
  · rw [if_pos e, if_pos e]
  · rw [if_neg e, if_neg e]
    rw [if_neg e]
abbrev z_no (p b : Int32) : Prop := (0 ≤ p ∧ p ≤ 9999) ∧ (1 ≤ b ∧ b ≤ 16)
def z_nb (v : Nat → Int32) (i : Nat) : Bool := decide (¬ z_no (v (2 * i)) (v (2 * i + 1)))
theorem zc_areNotes {n m : Nat} (hn : n ≤ 160) (hm : 2 * m ≤ n) {g : Nat → Int64} {post : Int32 → Prop} (h1 : z_any (z_nb (fun i => (g i).toInt32)) m = false → post 1) (h0 : z_any (z_nb (fun i => (g i).toInt32)) m = true → post 0) : F_X9_areNotes (nI n) g (nI m) post := by
  have key : ∀ k i : Nat, i + k = m → z_any (z_nb (fun i => (g i).toInt32)) i = false → L_X9_areNotes_2 (nI n) g (nI m) post (k + 1) (nI i) := by
    intro k
    induction k with
    | zero =>
      intro i hi hf
      rw [L_X9_areNotes_2]
      refine pk_le m i (fun _ => h1 ?_) (fun e => by omega)
      rw [show m = i by omega]; exact hf
    | succ k ih =>
      intro i hi hf
      rw [L_X9_areNotes_2, show (2 : Int32) * nI i = nI (2 * i) from pk_mul 2 i, nI_1]
      have bad : ¬ z_no (g (2 * i)).toInt32 (g (2 * i + 1)).toInt32 → post 0 := fun f => h0 (z_any_of (i := i) (decide_eq_true f) (by omega))
      refine pk_le m i (fun e => by omega) (fun _ => zc_intAt hn (by omega) (zo_within (fun c => z_b0 (bad (fun f => c f.1))) (fun c1 c2 => z_b1 (zc_intAt hn (by omega) (zo_within (fun c => z_b0 (bad (fun f => c f.2))) (fun d1 d2 => z_b1 (nm_r (nI_1 i) (ih (i + 1) (by omega) (z_any_s hf (decide_eq_false (fun f => f ⟨⟨c1, c2⟩, ⟨d1, d2⟩⟩)))))))))))
  exact ⟨m + 1, key m 0 (by omega) rfl⟩
section TUNE
variable {N T : Nat} {bt nts pt kd ot sp tm hd size shown ec sn so ref : Nat → Int32} {cells : Nat → Int64} {el : Nat → Nat → Int64} {s1 s2 s3 s4 s5 : Int32}
theorem zm_may {s m : Nat} (hs : s < 8) (hm : 2 * m ≤ 160) {v : Nat → Int32} (hv : ∀ i, i < 160 → v i = (cells (160 * s + i)).toInt32) {tv : Int32} {k136 : Int32 → Prop} (h1 : z_any (z_nb v) m = false → k136 1) (h0 : z_any (z_nb v) m = true → k136 0) : ∃ n, L_X10_tune_62 cells (nI s) (nI m) tv bt nts pt ref k136 n 1 0 := by
  have key : ∀ k i : Nat, i + k = m → z_any (z_nb v) i = false → L_X10_tune_62 cells (nI s) (nI m) tv bt nts pt ref k136 (k + 2) 1 (nI i) := by
    intro k
    induction k with
    | zero =>
      intro i hi hf
      rw [L_X10_tune_62]
      refine pk_le m i (fun _ => h1 ?_) (fun e => by omega)
      rw [show m = i by omega]; exact hf
    | succ k ih =>
      intro i hi hf
      have bad : ¬ z_no (v (2 * i)) (v (2 * i + 1)) → L_X10_tune_62 cells (nI s) (nI m) tv bt nts pt ref k136 (k + 2) 0 (nI (i + 1)) := fun f => by
        have g := h0 (z_any_of (i := i) (decide_eq_true f) (by omega))
        rw [L_X10_tune_62]
        exact ⟨fun _ => g, fun _ => br_t rfl g⟩
      rw [L_X10_tune_62]
      unfold F_X10_tune_127 F_X10_tune_128
      rw [show (2 : Int32) * nI i = nI (2 * i) from pk_mul 2 i, nI_1 (2 * i)]
      refine pk_le m i (fun e => by omega) (fun _ => br_f (by decide) (zm_intAt hs (by omega) (zm_intAt hs (by omega) ?_)))
      rw [← hv _ (by omega), ← hv _ (by omega)]
      refine ⟨fun f => nm_r (nI_1 i) (bad (fun g => z_lnt g.1.1 f)), fun f1 => ⟨fun f => nm_r (nI_1 i) (bad (fun g => z_lnt g.1.2 f)), fun f2 => ⟨fun f => nm_r (nI_1 i) (bad (fun g => z_lnt g.2.1 f)), fun f3 => ⟨fun f => nm_r (nI_1 i) (bad (fun g => z_lnt g.2.2 f)), fun f4 => nm_r (nI_1 i) (ih (i + 1) (by omega) (z_any_s hf (decide_eq_false (fun f => f ⟨⟨z_nlt f1, z_nlt f2⟩, ⟨z_nlt f3, z_nlt f4⟩⟩))))⟩⟩⟩⟩
  exact ⟨m + 2, key m 0 (by omega) rfl⟩
theorem z_VT.add (hT : z_VT T bt nts pt) (hT6 : T < 6) {m : Nat} (hm : m ≤ 12) {v : Nat → Int32} (hv : z_any (z_nb v) m = false) : z_VT (T + 1) (z_wr bt (12 * T) (fun i => v (2 * i + 1)) m) (upd nts T (nI m)) (z_wr pt (12 * T) (fun i => v (2 * i)) m) := by
  refine ⟨by omega, fun t ht => ?_⟩
  by_cases e : t = T
  · subst e
    have e1 : z_nt (upd nts t (nI m)) t = m := by unfold z_nt; rw [pk_us, z_tn_nI (by omega)]
    rw [e1]
    refine ⟨⟨pk_us, hm⟩, fun i hi => ?_⟩
    have ok : z_no (v (2 * i)) (v (2 * i + 1)) := by
      refine Classical.byContradiction (fun f => ?_)
      have := z_any_of (p := z_nb v) (i := i) (decide_eq_true f) hi
      rw [hv] at this
      exact absurd this (by decide)
    obtain ⟨p, -, hp2, ep⟩ := z_rng 0 9999 ok.1.1 ok.1.2 (by decide) (by decide)
    obtain ⟨b, hb1, hb2, eb⟩ := z_rng 1 16 ok.2.1 ok.2.2 (by decide) (by decide)
    have e2 : z_wr pt (12 * t) (fun i => v (2 * i)) m (12 * t + i) = nI p := by
      unfold z_wr
      rw [if_pos (by omega), show 12 * t + i - 12 * t = i by omega]
      exact ep
    have e3 : z_wr bt (12 * t) (fun i => v (2 * i + 1)) m (12 * t + i) = nI b := by
      unfold z_wr
      rw [if_pos (by omega), show 12 * t + i - 12 * t = i by omega]
      exact eb
    unfold z_pt
    rw [e2, e3, z_tn_nI (by omega), z_tn_nI (by omega)]
    exact ⟨⟨rfl, hp2⟩, rfl, hb1, hb2⟩
  · obtain ⟨⟨b1, b2⟩, b3⟩ := hT.2 t (by omega)
    have e1 : z_nt (upd nts T (nI m)) t = z_nt nts t := by unfold z_nt; rw [pk_un e]
    rw [e1, pk_un e]
    refine ⟨⟨b1, b2⟩, fun i hi => ?_⟩
    have e2 : z_wr pt (12 * T) (fun i => v (2 * i)) m (12 * t + i) = pt (12 * t + i) := if_neg (by omega)
    have e3 : z_wr bt (12 * T) (fun i => v (2 * i + 1)) m (12 * t + i) = bt (12 * t + i) := if_neg (by omega)
    have b4 := b3 i hi
    unfold z_pt at b4 ⊢
    rw [e2, e3]
    exact b4
theorem zc_addNote (hT6 : T < 6) {i : Nat} (hi : i < 12) {p b : Int32} {bt nts pt : Nat → Int32} (hn : nts T = nI i) {post : (Nat → Int32) → (Nat → Int32) → (Nat → Int32) → Prop} (h : post (upd bt (12 * T + i) b) (upd nts T (nI (i + 1))) (upd pt (12 * T + i) p)) : F_X8_addNote (nI (T + 1)) bt nts pt p b post := by
  unfold F_X8_addNote
  refine nm_r (nI_pred T) (zt_X8has (by omega) (by omega) (z_b1 ?_))
  rw [nI_clamp (by omega), hn, nI_1, show nI T * 12 + nI i = nI (12 * T + i) by rw [show (12 : Int32) = nI 12 from rfl, pk_mul, nI_add, Nat.mul_comm]]
  refine ⟨vp_in_nI (by omega) (by decide), br_f (nI_pos (by omega)) ⟨vp_in_nI (by omega) (by decide), br_t (nI_lt (b := 12) (by omega) (by decide)) ⟨vp_in_nI (by omega) (by decide), nm_e ⟨vp_in_nI (by omega) (by decide), vp_in_nI (by omega) (by decide), vp_in_nI (by omega) (by decide), vp_in_nI (by omega) (by decide), ?_⟩⟩⟩⟩
  rw [nI_clamp (by omega)]
  exact h
theorem zc_tune112 (hT6 : T < 6) {s n m : Nat} (hcnt : ec s = nI n) (hn : n ≤ 160) (hm : 2 * m ≤ n) (hm2 : m ≤ 12) {post : Int32 → (Nat → Int32) → Int32 → (Nat → Int32) → (Nat → Int32) → (Nat → Int32) → Prop} (h : post (nI T) ref (nI (T + 1)) (z_wr bt (12 * T) (fun i => (el s (2 * i + 1)).toInt32) m) (upd nts T (nI m)) (z_wr pt (12 * T) (fun i => (el s (2 * i)).toInt32) m)) : ∃ x, L_X9_tune_112 ec el (nI m) s (nI T) ref (nI (T + 1)) post x 0 bt (upd nts T 0) pt := by
  have key : ∀ k i : Nat, i + k = m → L_X9_tune_112 ec el (nI m) s (nI T) ref (nI (T + 1)) post (k + 1) (nI i) (z_wr bt (12 * T) (fun i => (el s (2 * i + 1)).toInt32) i) (upd nts T (nI i)) (z_wr pt (12 * T) (fun i => (el s (2 * i)).toInt32) i) := by
    intro k
    induction k with
    | zero =>
      intro i hi
      rw [L_X9_tune_112]
      refine pk_le m i (fun _ => ?_) (fun e => by omega)
      rw [show i = m by omega]; exact h
    | succ k ih =>
      intro i hi
      rw [L_X9_tune_112, show (2 : Int32) * nI i = nI (2 * i) from pk_mul 2 i, nI_1 (2 * i), hcnt]
      refine pk_le m i (fun e => by omega) (fun _ => zc_intAt hn (by omega) (zc_intAt hn (by omega) (zc_addNote hT6 (i := i) (by omega) pk_us (nm_r (nI_1 i) ?_))))
      have e1 := z_wr_s bt (12 * T) (fun i => (el s (2 * i + 1)).toInt32) i
      have e2 := z_wr_s pt (12 * T) (fun i => (el s (2 * i)).toInt32) i
      rw [e1, e2, z_upd2]
      exact ih (i + 1) (by omega)
  have k0 := key m 0 (by omega)
  rw [z_wr_0, z_wr_0] at k0
  exact ⟨m + 1, k0⟩
theorem zm_tune177 (hT6 : T < 6) {s m : Nat} (hs : s < 8) (hm : 2 * m ≤ 160) (hm2 : m ≤ 12) {v : Nat → Int32} (hv : ∀ i, i < 160 → v i = (cells (160 * s + i)).toInt32) {post : Int32 → Int32 → (Nat → Int32) → (Nat → Int32) → (Nat → Int32) → (Nat → Int32) → Prop} (h : post (nI T) (nI (T + 1)) (z_wr bt (12 * T) (fun i => v (2 * i + 1)) m) nts (z_wr pt (12 * T) (fun i => v (2 * i)) m) ref) : ∃ x, L_X10_tune_177 cells (nI s) (nI m) nts ref post x 0 (nI T) bt pt := by
  have key : ∀ k i : Nat, i + k = m → L_X10_tune_177 cells (nI s) (nI m) nts ref post (k + 1) (nI i) (nI T) (z_wr bt (12 * T) (fun i => v (2 * i + 1)) i) (z_wr pt (12 * T) (fun i => v (2 * i)) i) := by
    intro k
    induction k with
    | zero =>
      intro i hi
      rw [L_X10_tune_177, nI_1 T]
      refine pk_le m i (fun _ => ?_) (fun e => by omega)
      rw [show i = m by omega]; exact h
    | succ k ih =>
      intro i hi
      rw [L_X10_tune_177, show (2 : Int32) * nI i = nI (2 * i) from pk_mul 2 i, nI_1 (2 * i), z_ix12, nI_clamp (by omega)]
      refine pk_le m i (fun e => by omega) (fun _ => zm_intAt hs (by omega) ⟨vp_in_nI (by omega) (by decide), zm_intAt hs (by omega) ⟨vp_in_nI (by omega) (by decide), nm_r (nI_1 i) ?_⟩⟩)
      rw [← hv _ (by omega), ← hv _ (by omega)]
      have e1 := z_wr_s bt (12 * T) (fun i => v (2 * i + 1)) i
      have e2 := z_wr_s pt (12 * T) (fun i => v (2 * i)) i
      rw [e1, e2]
      exact ih (i + 1) (by omega)
  have k0 := key m 0 (by omega)
  rw [z_wr_0, z_wr_0] at k0
  exact ⟨m + 1, k0⟩
theorem zc_begin (hT6 : T < 6) {post : Int32 → Int32 → (Nat → Int32) → Prop} (h : post (nI T) (nI (T + 1)) (upd nts T 0)) : F_X8_begin (nI T) nts post := by
  unfold F_X8_begin F_X8_isFull
  rw [nI_clamp (by omega), nI_1, nI_pred]
  exact br_t (nI_lt (b := 6) hT6 (by decide)) (z_b0 (br_t (nI_pos' (by omega)) ⟨vp_in_nI (by omega) (by decide), h⟩))
theorem p_13 (hT : z_VT T bt nts pt) (hH : z_SH N hd size shown ec sn cells el) {post : Int32 → (Nat → Int32) → (Nat → Int32) → (Nat → Int32) → (Nat → Int32) → (Nat → Int32) → Int32 → (Nat → Int32) → (Nat → Int32) → (Nat → Int32) → Prop} (h : ∀ R T' bt' nts' pt', z_VT T' bt' nts' pt' → post (nI T') bt' nts' pt' R R (nI T') bt' nts' pt') : O_13 (nI T) bt cells hd nts pt ref size ref (nI T) bt nts pt hd so ec sn el s1 s2 s3 s4 s5 post := by
  have hT1 := hT.1
  unfold O_13 F_X9_tune F_X9_refusalOfRow_null0
  refine zo_shelfAt (fun c => br_f (by decide) (z_r1 ?_)) (fun s hs e => ?_)
  · unfold F_X10_tune
    exact zm_wants_no c (br_f (by decide) (z_n1 (z_eq (h _ _ _ _ _ hT))))
  · subst e
    obtain ⟨a1, a2, a3, a4, a5⟩ := hH s hs
    have hc : (nI s).toNatClampNeg = s := nI_clamp (by omega)
    refine zo_ror a1 (fun e => br_f (by decide) (z_r2 ?_)) (fun e => z_b0 ?_) (fun e => br_f (by decide) (z_r3 ?_))
    · unfold F_X10_tune
      exact zm_wants hs a1 (fun _ => br_f (by decide) (z_n2 (z_eq (h _ _ _ _ _ hT)))) (fun f => absurd (e.symm.trans f) (by decide)) (fun f => absurd (e.symm.trans f) (by decide))
    · obtain ⟨n, hn, en1, en2⟩ := a2 e
      have w0 : ∀ {post : Int32 → Prop}, post 0 → F_X10_wants hd (nI s) post := fun hp => zm_wants hs a1 (fun f => absurd (e.symm.trans f) (by decide)) (fun _ => hp) (fun f => absurd (e.symm.trans f) (by decide))
      have eh : nI n / 2 = nI (n / 2) := pk_div (by omega) (by decide) (by decide)
      unfold F_X6_size
      dsimp only
      rw [en2, eh]
      refine ⟨fun c2 => ?_, fun c2 => z_r4 ?_⟩
      · obtain ⟨m, hm, rfl⟩ := nI_of (z_lnt c2)
        have mod : ∀ {post : Int32 → Int32 → (Nat → Int32) → (Nat → Int32) → (Nat → Int32) → (Nat → Int32) → Prop}, ((nI m ≤ nI (n / 2) → ((12 < nI m → F_X10_tune_57 cells post (nI s) (nI m) (nI T) bt nts pt ref 0) ∧ (¬ 12 < nI m → F_X10_tune_57 cells post (nI s) (nI m) (nI T) bt nts pt ref 1))) ∧ (¬ nI m ≤ nI (n / 2) → (F_X10_no ref (-5) (fun r42 w42_0 => post r42 (nI T) bt nts pt w42_0)))) → F_X10_tune (nI T) bt cells hd nts pt ref size (nI s) (nI m) post := by
          intro post hp
          unfold F_X10_tune
          rw [hc, en1, eh]
          exact w0 (z_b0 (br_t c2 ⟨vp_in_nI (by omega) (by decide), hp⟩))
        have m6 : ∀ {post : Int32 → Int32 → (Nat → Int32) → (Nat → Int32) → (Nat → Int32) → (Nat → Int32) → Prop}, post (-6) (nI T) bt nts pt (z_rf ref 6) → F_X10_tune_136 cells post (nI s) (nI m) 0 (nI T) bt nts pt ref := fun hp => br_t rfl (z_n6 hp)
        refine pk_le m (n / 2) (fun h2 => pk_lt 12 m (fun h3 => z_r6 ?_) (fun h3 => zc_areNotes hn (by omega) (fun ok => z_b1 ?_) (fun bad => z_b0 (z_r6 ?_)))) (fun h2 => z_r5 ?_)
        · refine mod (br_t (nI_le h2 (by omega)) (br_t (nI_lt (a := 12) h3 (by omega)) ?_))
          unfold F_X10_tune_57
          refine ⟨1, ?_⟩
          rw [L_X10_tune_62]
          exact ⟨fun _ => m6 (z_eq (h _ _ _ _ _ hT)), fun _ => br_t rfl (m6 (z_eq (h _ _ _ _ _ hT)))⟩
        · have m57 : ∀ {post : Int32 → Int32 → (Nat → Int32) → (Nat → Int32) → (Nat → Int32) → (Nat → Int32) → Prop}, F_X10_tune_136 cells post (nI s) (nI m) 1 (nI T) bt nts pt ref → F_X10_tune (nI T) bt cells hd nts pt ref size (nI s) (nI m) post := by
            intro post hp
            refine mod (br_t (nI_le h2 (by omega)) (br_f (nI_nlt (a := 12) h3 (by decide)) ?_))
            unfold F_X10_tune_57
            exact zm_may (v := fun i => (el s i).toInt32) hs (by omega) (fun x hx => by show (el s x).toInt32 = _; rw [a5 x hx]) (fun _ => hp) (fun f => absurd (ok.symm.trans f) (by decide))
          unfold F_X8_isFull
          refine pk_lt T 6 (fun e6 => z_b0 (zc_begin e6 (zc_tune112 e6 en2 hn (by omega) (by omega) ?_))) (fun e6 => z_b1 (z_r7 ?_))
          · refine m57 ?_
            unfold F_X10_tune_136
            rw [show (nI T).toNatClampNeg = T from nI_clamp (by omega)]
            refine br_f (by decide) (br_f (fun f => ?_) ⟨vp_in_nI (by omega) (by decide), zm_tune177 (v := fun i => (el s i).toInt32) e6 hs (by omega) (by omega) (fun x hx => by show (el s x).toInt32 = _; rw [a5 x hx]) (z_eq (h _ _ _ _ _ (hT.add e6 (by omega) ok)))⟩)
            have := (nI_eq (b := 6) (by omega) (by decide)).mp f
            omega
          · have e7 : T = 6 := by omega
            refine m57 ?_
            unfold F_X10_tune_136
            exact br_f (by decide) (br_t (by rw [e7]; rfl) (z_n7 (z_eq (h _ _ _ _ _ hT))))
        · refine mod (br_t (nI_le h2 (by omega)) (br_f (nI_nlt (a := 12) h3 (by decide)) ?_))
          unfold F_X10_tune_57
          exact zm_may (v := fun i => (el s i).toInt32) hs (by omega) (fun x hx => by show (el s x).toInt32 = _; rw [a5 x hx]) (fun f => absurd (f.symm.trans bad) (by decide)) (fun _ => m6 (z_eq (h _ _ _ _ _ hT)))
        · exact mod (br_f (nI_ge h2 (by omega)) (z_n5 (z_eq (h _ _ _ _ _ hT))))
      · unfold F_X10_tune
        exact w0 (z_b0 (br_f c2 (z_n4 (z_eq (h _ _ _ _ _ hT)))))
    · unfold F_X10_tune
      exact zm_wants hs a1 (fun f => absurd (e.symm.trans f) (by decide)) (fun f => absurd (e.symm.trans f) (by decide)) (fun _ => br_f (by decide) (z_n3 (z_eq (h _ _ _ _ _ hT))))
end TUNE
