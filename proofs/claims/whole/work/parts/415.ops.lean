/-! operations: copy, says, stretch, till, ask, car -/
theorem zc_hasEls {n i m : Nat} (hn : n ≤ 160) (hm : m < 2 ^ 31) {x : Int32} {post : Int32 → Prop} (h0 : ¬ (∃ i, x = nI i ∧ i + m ≤ n) → post 0) (h1 : ∀ i, x = nI i → i + m ≤ n → post 1) : F_X6_hasElements (nI n) x (nI m) post := by
  unfold F_X6_hasElements
  refine ⟨fun c => h0 (fun ⟨i, e, h⟩ => nI_pos (n := i) (by omega) (e ▸ c)), fun c => br_f (nI_pos hm) ?_⟩
  obtain ⟨i, hi, rfl⟩ := nI_of c
  refine pk_lt n i (fun e => h0 (fun ⟨j, e2, h⟩ => ?_)) (fun e => ?_)
  · have := (nI_eq (by omega) (by omega)).mp e2
    omega
  · rw [pk_sub e]
    refine pk_lt (n - i) m (fun e3 => h0 (fun ⟨j, e2, h⟩ => ?_)) (fun e3 => h1 i rfl (by omega))
    have := (nI_eq (by omega) (by omega)).mp e2
    omega
section COPY
variable {N : Nat} {hd size shown ec sn so ref : Nat → Int32} {cells carried : Nat → Int64} {el : Nat → Nat → Int64} {s1 s2 s3 s4 s5 : Int32}
theorem zm_copy {p q i j n : Nat} (hp : p < 8) (hq : q < 8) (hi : i + n ≤ 160) (hj : j + n ≤ 160) {post : Int32 → (Nat → Int64) → (Nat → Int64) → (Nat → Int32) → Prop} (h : ∀ a c', (∀ x, c' x = if 160 * q + j ≤ x ∧ x < 160 * q + j + n then cells (160 * p + i + (x - (160 * q + j))) else cells x) → post 1 a c' ref) : ∃ m, L_X10_copy_167 (nI p) (nI q) (nI i) (nI j) (nI n) ref post m 0 carried cells := by
  have back : ∀ (a : Nat → Int64), (∀ x, x < n → a x = cells (160 * p + i + x)) → ∀ (k x : Nat) (c : Nat → Int64), x + k = n → (∀ y, c y = if 160 * q + j ≤ y ∧ y < 160 * q + j + x then cells (160 * p + i + (y - (160 * q + j))) else cells y) → L_X10_copy_205 (nI q) (nI j) (nI n) a ref post (k + 1) (nI x) c := by
    intro a ha k
    induction k with
    | zero =>
      intro x c hx hc
      rw [L_X10_copy_205]
      refine pk_le n x (fun _ => h a c (fun y => ?_)) (fun e => by omega)
      rw [hc y, show x = n by omega]
    | succ k ih =>
      intro x c hx hc
      rw [L_X10_copy_205, z_ix160, nI_add, nI_clamp (by omega), nI_clamp (by omega)]
      refine pk_le n x (fun e => by omega) (fun _ => ⟨vp_in_nI (by omega) (by decide), vp_in_nI (by omega) (by decide), nm_r (nI_1 x) (ih (x + 1) _ (by omega) (fun y => ?_))⟩)
      by_cases e : y = 160 * q + j + x
      · rw [e, pk_uLs, if_pos (by omega), ha x (by omega), show 160 * q + j + x - (160 * q + j) = x by omega]
      · rw [pk_uLn e, hc y]
        by_cases e2 : 160 * q + j ≤ y ∧ y < 160 * q + j + x
        · rw [if_pos e2, if_pos (by omega)]
        · rw [if_neg e2, if_neg (by omega)]
  have forth : ∀ (k x : Nat) (a : Nat → Int64), x + k = n → (∀ y, y < x → a y = cells (160 * p + i + y)) → L_X10_copy_167 (nI p) (nI q) (nI i) (nI j) (nI n) ref post (k + 1) (nI x) a cells := by
    intro k
    induction k with
    | zero =>
      intro x a hx ha
      rw [L_X10_copy_167]
      refine pk_le n x (fun _ => ⟨n + 1, back a (fun y hy => ha y (by omega)) n 0 cells (by omega) (fun y => ?_)⟩) (fun e => by omega)
      rw [if_neg (by omega)]
    | succ k ih =>
      intro x a hx ha
      rw [L_X10_copy_167, z_ix160, nI_add, nI_clamp (by omega), nI_clamp (by omega)]
      refine pk_le n x (fun e => by omega) (fun _ => ⟨vp_in_nI (by omega) (by decide), vp_in_nI (by omega) (by decide), nm_r (nI_1 x) (ih (x + 1) _ (by omega) (fun y hy => ?_))⟩)
      by_cases e : y = x
      · subst e; rw [pk_uLs]
      · rw [pk_uLn e]; exact ha y (by omega)
  exact ⟨n + 1, forth n 0 carried (by omega) (fun y hy => by omega)⟩
theorem z_SH.cpy (hH : z_SH N hd size shown ec sn cells el) {p q i j n : Nat} (hp : p < 8) (hq : q < 8) (hi : i + n ≤ 160) (hj : j + n ≤ 160) {c' : Nat → Int64} (hc : ∀ x, c' x = if 160 * q + j ≤ x ∧ x < 160 * q + j + n then cells (160 * p + i + (x - (160 * q + j))) else cells x) : z_SH N hd size shown ec sn c' (va_up el q (va_cpy (el p) (el q) i j n)) := by
  intro t ht
  obtain ⟨a1, a2, a3, a4, a5⟩ := hH t ht
  refine ⟨a1, a2, a3, a4, fun x hx => ?_⟩
  by_cases e : t = q
  · subst e
    rw [z_uu, hc]
    by_cases e2 : j ≤ x ∧ x < j + n
    · rw [pk_cpy_in e2.1 e2.2, if_pos (by omega), (hH p hp).2.2.2.2 _ (by omega), show 160 * p + i + (160 * t + x - (160 * t + j)) = 160 * p + (i + (x - j)) by omega]
    · rw [pk_cpy_out (by omega), if_neg (by omega)]
      exact a5 x hx
  · rw [z_un e, hc, if_neg (by omega)]
    exact a5 x hx
theorem p_2 (hH : z_SH N hd size shown ec sn cells el) {post : (Nat → Int64) → (Nat → Int64) → (Nat → Int32) → (Nat → Int32) → (Nat → Nat → Int64) → Prop} (h : ∀ a R cells' el', z_SH N hd size shown ec sn cells' el' → post a cells' R R el') : O_2 carried cells hd ref size so ref hd so ec sn el s1 s2 s3 s4 s5 post := by
  unfold O_2 F_X9_copy
  refine zo_shelfAt (fun c => zo_shelfAt (fun c2 => z_r1 ?_) (fun q hq e2 => z_r1 ?_)) (fun p hp e => zo_shelfAt (fun c2 => z_r1 ?_) (fun q hq e2 => ?_))
  · unfold F_X10_copy
    exact zf_mShelf c (z_b0 (z_n1 (z_eq (h _ _ _ _ hH))))
  · unfold F_X10_copy
    exact zf_mShelf c (z_b0 (z_n1 (z_eq (h _ _ _ _ hH))))
  · subst e
    unfold F_X10_copy
    exact zt_mShelf hp (z_b1 (zf_mShelf c2 (z_b0 (z_n1 (z_eq (h _ _ _ _ hH))))))
  · subst e e2
    obtain ⟨a1, a2, a3, a4, a5⟩ := hH p hp
    obtain ⟨b1, b2, b3, b4, b5⟩ := hH q hq
    have hcp : (nI p).toNatClampNeg = p := nI_clamp (by omega)
    have hcq : (nI q).toNatClampNeg = q := nI_clamp (by omega)
    have m2 : ∀ {post : Int32 → (Nat → Int64) → (Nat → Int64) → (Nat → Int32) → Prop}, (hd p = 2 ∨ hd q = 2 ∨ (hd p = 1 ∧ hd q = 1 ∧ ¬ so p = so q)) → post (-2) carried cells (z_rf ref 2) → F_X10_copy carried cells hd ref size so (nI p) (nI q) s3 s4 s5 post := by
      intro post hc hpo
      unfold F_X10_copy
      rw [hcp, hcq]
      refine zt_mShelf hp (z_b1 (zt_mShelf hq (z_b1 ⟨vp_in_nI (by omega) (by decide), fun _ => z_n2 hpo, fun f1 => ⟨vp_in_nI (by omega) (by decide), fun _ => z_n2 hpo, fun f2 => ?_⟩⟩)))
      rcases hc with e | e | ⟨e1, e2, e3⟩
      · exact absurd e f1
      · exact absurd e f2
      · exact ⟨vp_in_nI (by omega) (by decide), br_t e1 ⟨vp_in_nI (by omega) (by decide), br_t e2 ⟨vp_in_nI (by omega) (by decide), vp_in_nI (by omega) (by decide), br_f e3 (z_n2 hpo)⟩⟩⟩
    have m84 : ∀ {post : Int32 → (Nat → Int64) → (Nat → Int64) → (Nat → Int32) → Prop}, ¬ hd p = 2 → ¬ hd q = 2 → ¬ (hd p = 1 ∧ hd q = 1 ∧ ¬ so p = so q) → F_X10_copy_84 hd size post (nI p) (nI q) s3 s4 s5 carried cells ref → F_X10_copy carried cells hd ref size so (nI p) (nI q) s3 s4 s5 post := by
      intro post f1 f2 f3 hpo
      unfold F_X10_copy
      rw [hcp, hcq]
      refine zt_mShelf hp (z_b1 (zt_mShelf hq (z_b1 ⟨vp_in_nI (by omega) (by decide), br_f f1 ⟨vp_in_nI (by omega) (by decide), br_f f2 ⟨vp_in_nI (by omega) (by decide), fun e1 => ⟨vp_in_nI (by omega) (by decide), fun e2 => ⟨vp_in_nI (by omega) (by decide), vp_in_nI (by omega) (by decide), fun _ => hpo, fun e3 => absurd ⟨e1, e2, e3⟩ f3⟩, fun _ => hpo⟩, fun _ => hpo⟩⟩⟩)))
    have m3 : ∀ {post : Int32 → (Nat → Int64) → (Nat → Int64) → (Nat → Int32) → Prop}, (hd p = 0 ∨ hd q = 0) → post (-3) carried cells (z_rf ref 3) → F_X10_copy_84 hd size post (nI p) (nI q) s3 s4 s5 carried cells ref := by
      intro post hc hpo
      unfold F_X10_copy_84
      rw [hcp, hcq]
      refine ⟨vp_in_nI (by omega) (by decide), fun _ => z_n3 hpo, fun f1 => ⟨vp_in_nI (by omega) (by decide), fun _ => z_n3 hpo, fun f2 => ?_⟩⟩
      rcases hc with e | e
      · exact absurd e f1
      · exact absurd e f2
    unfold F_X6_holdsStretch F_X6_isRowUnlike F_X6_holdsRow
    rcases a1 with e | e | e
    · rw [e]
      refine br_f (by decide) (z_b0 ?_)
      rcases b1 with g | g | g
      · rw [g]
        refine br_f (by decide) (z_b0 (br_f (by decide) (z_b0 (z_b0 (br_f (by decide) (z_b0 (z_r3 ?_)))))))
        exact m84 (by rw [e]; decide) (by rw [g]; decide) (fun f => absurd (e.symm.trans f.1) (by decide)) (m3 (Or.inl e) (z_eq (h _ _ _ _ hH)))
      · rw [g]
        refine br_f (by decide) (z_b0 (br_f (by decide) (z_b0 (z_b0 (br_f (by decide) (z_b0 (z_r3 ?_)))))))
        exact m84 (by rw [e]; decide) (by rw [g]; decide) (fun f => absurd (e.symm.trans f.1) (by decide)) (m3 (Or.inl e) (z_eq (h _ _ _ _ hH)))
      · rw [g]
        refine br_t rfl (z_b1 (z_r2 ?_))
        exact m2 (Or.inr (Or.inl g)) (z_eq (h _ _ _ _ hH))
    · rw [e]
      refine br_f (by decide) (z_b0 ?_)
      rcases b1 with g | g | g
      · rw [g]
        refine br_f (by decide) (z_b0 (br_t rfl (z_b1 (br_f (by decide) (z_b0 (z_b0 (br_t rfl (z_b1 (br_f (by decide) (z_b0 (z_r3 ?_)))))))))))
        exact m84 (by rw [e]; decide) (by rw [g]; decide) (fun f => absurd (g.symm.trans f.2.1) (by decide)) (m3 (Or.inr g) (z_eq (h _ _ _ _ hH)))
      · rw [g]
        refine br_f (by decide) (z_b0 (br_t rfl (z_b1 (br_t rfl (z_b1 ⟨fun e3 => z_b0 (br_t rfl (z_b1 (br_t rfl (z_b1 ?_)))), fun e3 => z_b1 (z_r2 ?_)⟩)))))
        · obtain ⟨n, hn, en1, en2⟩ := a2 e
          obtain ⟨m, hm, em1, em2⟩ := b2 g
          have m5 : ∀ {post : Int32 → (Nat → Int64) → (Nat → Int64) → (Nat → Int32) → Prop} {k : Nat}, k < 2 ^ 31 → ¬ ((∃ i, s3 = nI i ∧ i + k ≤ n) ∧ (∃ i, s4 = nI i ∧ i + k ≤ m)) → post (-5) carried cells (z_rf ref 5) → F_X10_copy_84 hd size post (nI p) (nI q) s3 s4 (nI k) carried cells ref := by
            intro post k hk hc hpo
            unfold F_X10_copy_84
            rw [hcp, hcq, e, g, en1, em1]
            refine ⟨vp_in_nI (by omega) (by decide), br_f (by decide) ⟨vp_in_nI (by omega) (by decide), br_f (by decide) (br_t (nI_pos' hk) ⟨fun _ => z_n5 hpo, fun f1 => ⟨fun _ => z_n5 hpo, fun f2 => ⟨vp_in_nI (by omega) (by decide), fun _ => z_n5 hpo, fun f3 => ⟨vp_in_nI (by omega) (by decide), fun f4 => ?_, fun _ => z_n5 hpo⟩⟩⟩⟩)⟩⟩
            obtain ⟨i, hi, rfl⟩ := nI_of f1
            obtain ⟨j, hj, rfl⟩ := nI_of f2
            exfalso
            refine hc ⟨⟨i, rfl, ?_⟩, ⟨j, rfl, ?_⟩⟩
            · rw [Int32.lt_iff_toInt_lt, nI_toInt hi] at f3
              by_cases z : k ≤ n
              · rw [pk_sub z, nI_toInt (by omega)] at f3; omega
              · exfalso
                apply f3
                rw [Int32.toInt_sub, nI_toInt (by omega), nI_toInt (by omega), Int.bmod_eq_of_le (by omega) (by omega)]
                omega
            · rw [Int32.le_iff_toInt_le, nI_toInt hj] at f4
              by_cases z : k ≤ m
              · rw [pk_sub z, nI_toInt (by omega)] at f4; omega
              · exfalso
                rw [Int32.toInt_sub, nI_toInt (by omega), nI_toInt (by omega), Int.bmod_eq_of_le (by omega) (by omega)] at f4
                omega
          refine ⟨fun c5 => ?_, fun c5 => z_r4 ?_⟩
          · obtain ⟨k, hk, rfl⟩ := nI_of (z_lnt c5)
            rw [en2, em2]
            refine zc_hasEls (i := 0) hn hk (fun c => z_b0 (z_r5 ?_)) (fun i e4 h4 => z_b1 (zc_hasEls (i := 0) hm hk (fun c => z_b0 (z_r5 ?_)) (fun j e5 h5 => z_b1 ?_)))
            · exact m84 (by rw [e]; decide) (by rw [g]; decide) (fun f => f.2.2 e3) (m5 hk (fun f => c f.1) (z_eq (h _ _ _ _ hH)))
            · exact m84 (by rw [e]; decide) (by rw [g]; decide) (fun f => f.2.2 e3) (m5 hk (fun f => c f.2) (z_eq (h _ _ _ _ hH)))
            · subst e4 e5
              have fin : ∀ c', (∀ x, c' x = if 160 * q + j ≤ x ∧ x < 160 * q + j + k then cells (160 * p + i + (x - (160 * q + j))) else cells x) → ∀ a, post a c' ref ref (va_up el q (va_cpy (el p) (el q) i j k)) := fun c' hc a => h _ _ _ _ (hH.cpy hp hq (by omega) (by omega) hc)
              have mod : ∀ {post : Int32 → (Nat → Int64) → (Nat → Int64) → (Nat → Int32) → Prop}, (∀ a c', (∀ x, c' x = if 160 * q + j ≤ x ∧ x < 160 * q + j + k then cells (160 * p + i + (x - (160 * q + j))) else cells x) → post 1 a c' ref) → F_X10_copy carried cells hd ref size so (nI p) (nI q) (nI i) (nI j) (nI k) post := by
                intro post hpo
                refine m84 (by rw [e]; decide) (by rw [g]; decide) (fun f => f.2.2 e3) ?_
                unfold F_X10_copy_84
                rw [hcp, hcq, e, g, en1, em1, pk_sub (by omega), pk_sub (by omega)]
                exact ⟨vp_in_nI (by omega) (by decide), br_f (by decide) ⟨vp_in_nI (by omega) (by decide), br_f (by decide) (br_t c5 (br_f (nI_pos (by omega)) (br_f (nI_pos (by omega)) ⟨vp_in_nI (by omega) (by decide), br_f (nI_nlt (by omega) (by omega)) ⟨vp_in_nI (by omega) (by decide), br_t (nI_le (by omega) (by omega)) (zm_copy hp hq (by omega) (by omega) hpo)⟩⟩)))⟩⟩
              have ci : (nI i).toNatClampNeg = i := nI_clamp (by omega)
              have cj : (nI j).toNatClampNeg = j := nI_clamp (by omega)
              have ck : (nI k).toNatClampNeg = k := nI_clamp (by omega)
              refine ⟨fun e6 => ?_, fun e6 => ?_⟩
              · subst e6
                unfold F_X6_takeFrom_same
                rw [ci, cj, ck]
                have enm : n = m := by
                  have := en1.symm.trans em1
                  exact (nI_eq (by omega) (by omega)).mp this
                refine zc_hasEls (i := 0) hn hk (fun c => absurd ⟨i, rfl, h4⟩ c) (fun _ _ _ => z_b1 (zc_hasEls (i := 0) hn hk (fun c => absurd ⟨j, rfl, by omega⟩ c) (fun _ _ _ => z_b1 ⟨nI_pos (by omega), nI_pos (by omega), nI_pos (by omega), by omega, by omega, ?_⟩)))
                exact mod (fun a c' hc => z_eq (fin c' hc a))
              · unfold F_X6_takeFrom
                rw [ci, cj, ck]
                refine zc_hasEls (i := 0) hn hk (fun c => absurd ⟨i, rfl, h4⟩ c) (fun _ _ _ => z_b1 (zc_hasEls (i := 0) hm hk (fun c => absurd ⟨j, rfl, h5⟩ c) (fun _ _ _ => z_b1 ⟨nI_pos (by omega), nI_pos (by omega), nI_pos (by omega), by omega, by omega, ?_⟩)))
                exact mod (fun a c' hc => z_eq (fin c' hc a))
          · refine m84 (by rw [e]; decide) (by rw [g]; decide) (fun f => f.2.2 e3) ?_
            unfold F_X10_copy_84
            rw [hcp, hcq, e, g]
            exact ⟨vp_in_nI (by omega) (by decide), br_f (by decide) ⟨vp_in_nI (by omega) (by decide), br_f (by decide) (br_f c5 (z_n4 (z_eq (h _ _ _ _ hH))))⟩⟩
        · exact m2 (Or.inr (Or.inr ⟨e, g, e3⟩)) (z_eq (h _ _ _ _ hH))
      · rw [g]
        refine br_t rfl (z_b1 (z_r2 ?_))
        exact m2 (Or.inr (Or.inl g)) (z_eq (h _ _ _ _ hH))
    · rw [e]
      refine br_t rfl (z_b1 (z_r2 ?_))
      exact m2 (Or.inl e) (z_eq (h _ _ _ _ hH))
end COPY
/-! ask -/
theorem p_15 {al ne bo te : Nat} (hD : z_VD al ne bo te) {dm ref : Nat → Int32} (hdm : z_dm dm al ne bo te) {s1 s2 s3 s4 s5 : Int32} {post : Int32 → Int32 → Int32 → Int32 → (Nat → Int32) → (Nat → Int32) → (Nat → Int32) → Prop} (h : ∀ R al' ne' bo' te' dm', z_VD al' ne' bo' te' → z_dm dm' al' ne' bo' te' → post (nI al') (nI ne') (nI bo') (nI te') R R dm') : O_15 (nI al) (nI ne) (nI bo) (nI te) ref ref dm s1 s2 s3 s4 s5 post := by
  unfold O_15 F_X9_ask F_X9_mayBeAsked
  obtain ⟨d0, d1, d2, d3⟩ := hdm
  obtain ⟨v0, v1, v2, v3⟩ := hD
  have bad : ∀ {post : Int32 → Int32 → Int32 → Int32 → Int32 → (Nat → Int32) → Prop}, (s1 = 0 → ¬ (1 ≤ s2 ∧ s2 ≤ 9999)) → (s1 = 1 → ¬ (2 ≤ s2 ∧ s2 ≤ 30)) → (s1 = 2 → ¬ (0 ≤ s2 ∧ s2 ≤ 500)) → (s1 = 3 → ¬ (50 ≤ s2 ∧ s2 ≤ 2000)) → post (-6) (nI al) (nI ne) (nI bo) (nI te) (z_rf ref 6) → F_X10_ask (nI al) (nI ne) (nI bo) (nI te) ref s1 s2 post := by
    intro post g0 g1 g2 g3 hp
    have a87 : F_X10_ask_87 post s1 s2 (nI al) (nI ne) (nI bo) (nI te) ref := ⟨fun e => z_out (g3 e) (z_n6 hp), fun _ => z_n6 hp⟩
    have a58 : F_X10_ask_58 post s1 s2 (nI al) (nI ne) (nI bo) (nI te) ref := ⟨fun e => z_out (g2 e) a87, fun _ => a87⟩
    have a29 : F_X10_ask_29 post s1 s2 (nI al) (nI ne) (nI bo) (nI te) ref := ⟨fun e => z_out (g1 e) a58, fun _ => a58⟩
    exact ⟨fun e => z_out (g0 e) a29, fun _ => a29⟩
  refine zo_within (fun c => z_b0 (z_b0 (z_r6 (bad (fun e => absurd ⟨by rw [e]; decide, by rw [e]; decide⟩ c) (fun e => absurd ⟨by rw [e]; decide, by rw [e]; decide⟩ c) (fun e => absurd ⟨by rw [e]; decide, by rw [e]; decide⟩ c) (fun e => absurd ⟨by rw [e]; decide, by rw [e]; decide⟩ c) (z_eq (h _ _ _ _ _ _ ⟨v0, v1, v2, v3⟩ ⟨d0, d1, d2, d3⟩)))))) (fun c1 c2 => z_b1 ?_)
  obtain ⟨n, -, hn, rfl⟩ := z_rng 0 3 c1 c2 (by decide) (by decide)
  have hc : (nI n).toNatClampNeg = n := nI_clamp (by omega)
  refine ⟨vp_in_nI (by omega) (by decide), vp_in_nI (by omega) (by decide), ?_⟩
  have h4 : n = 0 ∨ n = 1 ∨ n = 2 ∨ n = 3 := by omega
  have maybe : ∀ {P : Int32 → Prop}, P 1 → (∀ a b : Int32, a ≤ s2 → s2 ≤ b → a = tbLEAST_ASKED.getD n 0 → b = tbMOST_ASKED.getD n 0 → F_X9_within s2 (tbLEAST_ASKED.getD (nI n).toNatClampNeg 0) (tbMOST_ASKED.getD (nI n).toNatClampNeg 0) P) := by
    intro P hP a b h1 h2 e1 e2
    rw [hc, ← e1, ← e2]
    exact zt_within h1 h2 hP
  rw [hc]
  rcases h4 with rfl | rfl | rfl | rfl
  · refine zo_within (a := 1) (b := 9999) (fun c => z_b0 (z_b0 (z_r6 (bad (fun _ => c) (fun e => absurd e (by decide)) (fun e => absurd e (by decide)) (fun e => absurd e (by decide)) (z_eq (h _ _ _ _ _ _ ⟨v0, v1, v2, v3⟩ ⟨d0, d1, d2, d3⟩)))))) (fun d1' d2' => z_b1 (z_b1 (zc_asked (k := 0) (by decide) ?_)))
    rw [d0]
    obtain ⟨v, hv1, hv2, rfl⟩ := z_rng 1 9999 d1' d2' (by decide) (by decide)
    have G := h ref v ne bo te (upd dm 0 (nI v)) ⟨⟨hv1, hv2⟩, v1, v2, v3⟩ ⟨pk_us, (pk_un (by decide)).trans d1, (pk_un (by decide)).trans d2, (pk_un (by decide)).trans d3⟩
    unfold F_X5_demand F_X9_mayBeAsked
    refine zt_within (by decide) (by decide) (z_b1 ⟨vp_in_nI (n := 0) (by decide) (by decide), vp_in_nI (n := 0) (by decide) (by decide), zt_within (a := 1) (b := 9999) d1' d2' (z_b1 (z_b1 ⟨vp_in_nI (n := 0) (by decide) (by decide), ?_⟩))⟩)
    unfold F_X10_ask F_X10_ask_29 F_X10_ask_58 F_X10_ask_87
    exact br_t rfl (z_inn d1' d2' (z_eq G))
  · refine zo_within (a := 2) (b := 30) (fun c => z_b0 (z_b0 (z_r6 (bad (fun e => absurd e (by decide)) (fun _ => c) (fun e => absurd e (by decide)) (fun e => absurd e (by decide)) (z_eq (h _ _ _ _ _ _ ⟨v0, v1, v2, v3⟩ ⟨d0, d1, d2, d3⟩)))))) (fun d1' d2' => z_b1 (z_b1 (zc_asked (k := 1) (by decide) ?_)))
    rw [d1]
    obtain ⟨v, hv1, hv2, rfl⟩ := z_rng 2 30 d1' d2' (by decide) (by decide)
    have G := h ref al v bo te (upd dm 1 (nI v)) ⟨v0, ⟨hv1, hv2⟩, v2, v3⟩ ⟨(pk_un (by decide)).trans d0, pk_us, (pk_un (by decide)).trans d2, (pk_un (by decide)).trans d3⟩
    unfold F_X5_demand F_X9_mayBeAsked
    refine zt_within (by decide) (by decide) (z_b1 ⟨vp_in_nI (n := 1) (by decide) (by decide), vp_in_nI (n := 1) (by decide) (by decide), zt_within (a := 2) (b := 30) d1' d2' (z_b1 (z_b1 ⟨vp_in_nI (n := 1) (by decide) (by decide), ?_⟩))⟩)
    unfold F_X10_ask F_X10_ask_29 F_X10_ask_58 F_X10_ask_87
    exact br_f (by decide) (br_t rfl (z_inn d1' d2' (z_eq G)))
  · refine zo_within (a := 0) (b := 500) (fun c => z_b0 (z_b0 (z_r6 (bad (fun e => absurd e (by decide)) (fun e => absurd e (by decide)) (fun _ => c) (fun e => absurd e (by decide)) (z_eq (h _ _ _ _ _ _ ⟨v0, v1, v2, v3⟩ ⟨d0, d1, d2, d3⟩)))))) (fun d1' d2' => z_b1 (z_b1 (zc_asked (k := 2) (by decide) ?_)))
    rw [d2]
    obtain ⟨v, hv1, hv2, rfl⟩ := z_rng 0 500 d1' d2' (by decide) (by decide)
    have G := h ref al ne v te (upd dm 2 (nI v)) ⟨v0, v1, hv2, v3⟩ ⟨(pk_un (by decide)).trans d0, (pk_un (by decide)).trans d1, pk_us, (pk_un (by decide)).trans d3⟩
    unfold F_X5_demand F_X9_mayBeAsked
    refine zt_within (by decide) (by decide) (z_b1 ⟨vp_in_nI (n := 2) (by decide) (by decide), vp_in_nI (n := 2) (by decide) (by decide), zt_within (a := 0) (b := 500) d1' d2' (z_b1 (z_b1 ⟨vp_in_nI (n := 2) (by decide) (by decide), ?_⟩))⟩)
    unfold F_X10_ask F_X10_ask_29 F_X10_ask_58 F_X10_ask_87
    exact br_f (by decide) (br_f (by decide) (br_t rfl (z_inn d1' d2' (z_eq G))))
  · refine zo_within (a := 50) (b := 2000) (fun c => z_b0 (z_b0 (z_r6 (bad (fun e => absurd e (by decide)) (fun e => absurd e (by decide)) (fun e => absurd e (by decide)) (fun _ => c) (z_eq (h _ _ _ _ _ _ ⟨v0, v1, v2, v3⟩ ⟨d0, d1, d2, d3⟩)))))) (fun d1' d2' => z_b1 (z_b1 (zc_asked (k := 3) (by decide) ?_)))
    rw [d3]
    obtain ⟨v, hv1, hv2, rfl⟩ := z_rng 50 2000 d1' d2' (by decide) (by decide)
    have G := h ref al ne bo v (upd dm 3 (nI v)) ⟨v0, v1, v2, ⟨hv1, hv2⟩⟩ ⟨(pk_un (by decide)).trans d0, (pk_un (by decide)).trans d1, (pk_un (by decide)).trans d2, pk_us⟩
    unfold F_X5_demand F_X9_mayBeAsked
    refine zt_within (by decide) (by decide) (z_b1 ⟨vp_in_nI (n := 3) (by decide) (by decide), vp_in_nI (n := 3) (by decide) (by decide), zt_within (a := 50) (b := 2000) d1' d2' (z_b1 (z_b1 ⟨vp_in_nI (n := 3) (by decide) (by decide), ?_⟩))⟩)
    unfold F_X10_ask F_X10_ask_29 F_X10_ask_58 F_X10_ask_87
    exact br_f (by decide) (br_f (by decide) (br_f (by decide) (br_t rfl (z_inn d1' d2' (z_eq G)))))
/-! stretch, till, car -/
abbrev z_ms (s o t : Int32) : Prop := (1 ≤ s ∧ s ≤ 60) ∧ (0 ≤ o ∧ o ≤ 60) ∧ (1 ≤ t ∧ t ≤ 60)
theorem zo_meas {s o t : Int32} {post : Int32 → Prop} (h0 : ¬ z_ms s o t → post 0) (h1 : z_ms s o t → post 1) : F_X9_areMeasures s o t post :=
  zo_within (fun c => z_b0 (h0 (fun f => c f.1))) (fun c1 c2 => z_b1 (zo_within (fun c => z_b0 (h0 (fun f => c f.2.1))) (fun d1 d2 => z_b1 (zo_within (fun c => z_b0 (h0 (fun f => c f.2.2))) (fun e1 e2 => z_b1 (h1 ⟨⟨c1, c2⟩, ⟨d1, d2⟩, ⟨e1, e2⟩⟩))))))
theorem zm_so {s o t : Int32} {post : Int32 → Prop} (h0 : ¬ z_ms s o t → post 0) (h1 : z_ms s o t → post 1) : F_X10_isSo s o t post :=
  ⟨fun f => h0 (fun g => z_lnt g.1.1 f), fun f1 => ⟨fun f => h0 (fun g => z_lnt g.1.2 f), fun f2 => ⟨fun f => h0 (fun g => z_lnt g.2.1.1 f), fun f3 => ⟨fun f => h0 (fun g => z_lnt g.2.1.2 f), fun f4 => ⟨fun f => h0 (fun g => z_lnt g.2.2.1 f), fun f5 => ⟨fun f => h0 (fun g => z_lnt g.2.2.2 f), fun f6 => h1 ⟨⟨z_nlt f1, z_nlt f2⟩, ⟨z_nlt f3, z_nlt f4⟩, ⟨z_nlt f5, z_nlt f6⟩⟩⟩⟩⟩⟩⟩⟩
section STR
variable {N : Nat} {kd ot sp tm ref : Nat → Int32} {s1 s2 s3 s4 s5 : Int32}
theorem z_VS.add (hS : z_VS N kd ot sp tm) (hN : N < 16) {k s o t : Int32} (hk : 0 ≤ k ∧ k ≤ 6) (hm : z_ms s o t) : z_VS (N + 1) (upd kd N k) (upd ot N o) (upd sp N s) (upd tm N t) := by
  refine ⟨by omega, fun i hi => ?_⟩
  by_cases e : i = N
  · subst e
    obtain ⟨k', -, hk2, rfl⟩ := z_rng 0 6 hk.1 hk.2 (by decide) (by decide)
    obtain ⟨s', hs1, hs2, rfl⟩ := z_rng 1 60 hm.1.1 hm.1.2 (by decide) (by decide)
    obtain ⟨o', -, ho2, rfl⟩ := z_rng 0 60 hm.2.1.1 hm.2.1.2 (by decide) (by decide)
    obtain ⟨t', ht1, ht2, rfl⟩ := z_rng 1 60 hm.2.2.1 hm.2.2.2 (by decide) (by decide)
    exact ⟨k', o', s', t', pk_us, pk_us, pk_us, pk_us, hk2, ho2, hs1, hs2, ht1, ht2⟩
  · rw [pk_un e, pk_un e, pk_un e, pk_un e]
    exact hS.2 i (by omega)
theorem zc_add (hN : N < 16) {x1 x2 x3 x4 : Int32} {post : Int32 → Int32 → (Nat → Int32) → (Nat → Int32) → (Nat → Int32) → (Nat → Int32) → Prop} (h : post (nI N) (nI (N + 1)) (upd kd N x1) (upd ot N x3) (upd sp N x2) (upd tm N x4)) : F_X7_add (nI N) kd ot sp tm x1 x2 x3 x4 post := by
  unfold F_X7_add F_X7_isFull
  rw [nI_clamp (by omega), nI_1, nI_pred]
  exact br_t (nI_lt (b := 16) hN (by decide)) (z_b0 (br_t (nI_pos' (by omega)) ⟨vp_in_nI (by omega) (by decide), vp_in_nI (by omega) (by decide), vp_in_nI (by omega) (by decide), vp_in_nI (by omega) (by decide), h⟩))
theorem zm_comes (hN : N < 16) {x1 x2 x3 x4 : Int32} {post : Int32 → (Nat → Int32) → (Nat → Int32) → (Nat → Int32) → (Nat → Int32) → Prop} (h : post (nI (N + 1)) (upd kd N x1) (upd ot N x3) (upd sp N x2) (upd tm N x4)) : F_X10_comes (nI N) kd ot sp tm x1 x2 x3 x4 post := by
  unfold F_X10_comes
  rw [nI_clamp (by omega), nI_1]
  exact ⟨vp_in_nI (by omega) (by decide), vp_in_nI (by omega) (by decide), vp_in_nI (by omega) (by decide), vp_in_nI (by omega) (by decide), h⟩
theorem p_7 (hS : z_VS N kd ot sp tm) {post : Int32 → (Nat → Int32) → (Nat → Int32) → (Nat → Int32) → (Nat → Int32) → (Nat → Int32) → (Nat → Int32) → Int32 → (Nat → Int32) → (Nat → Int32) → (Nat → Int32) → (Nat → Int32) → Prop} (h : ∀ R N' kd' ot' sp' tm', N ≤ N' → z_VS N' kd' ot' sp' tm' → post (nI N') kd' ot' R sp' tm' R (nI N') kd' ot' sp' tm') : O_7 (nI N) kd ot ref sp tm ref (nI N) kd ot sp tm s1 s2 s3 s4 s5 post := by
  have hN := hS.1
  unfold O_7 F_X9_stretch
  refine zo_within (fun c => z_b0 (z_r1 ?_)) (fun c1 c2 => z_b1 (zo_meas (fun c => z_b0 (z_r6 ?_)) (fun d => z_b1 ?_)))
  · unfold F_X10_stretch
    exact z_out2 c (z_n1 (z_eq (h _ _ _ _ _ _ (Nat.le_refl _) hS)))
  · unfold F_X10_stretch
    exact z_inn2 c1 c2 (zm_so (fun _ => z_b0 (z_n6 (z_eq (h _ _ _ _ _ _ (Nat.le_refl _) hS)))) (fun d => absurd d c))
  · unfold F_X7_isFull
    refine pk_lt N 16 (fun e => z_b0 (zc_add e ?_)) (fun e => z_b1 (z_r7 ?_))
    · unfold F_X10_stretch
      refine z_inn2 c1 c2 (zm_so (fun f => absurd d f) (fun _ => z_b1 (br_f (fun f => ?_) (zm_comes e ?_))))
      · have := (nI_eq (b := 16) (by omega) (by decide)).mp f
        omega
      · rw [nI_pred]
        exact z_eq (h _ _ _ _ _ _ (Nat.le_succ _) (hS.add e ⟨c1, c2⟩ d))
    · unfold F_X10_stretch
      have e16 : N = 16 := by omega
      refine z_inn2 c1 c2 (zm_so (fun f => absurd d f) (fun _ => z_b1 (br_t (by rw [e16]; rfl) (z_n7 (z_eq (h _ _ _ _ _ _ (Nat.le_refl _) hS))))))
end STR
section TILL
variable {N : Nat} {hd size shown ec sn so ref : Nat → Int32} {cells : Nat → Int64} {el : Nat → Nat → Int64} {s1 s2 s3 s4 s5 : Int32}
def z_clr (M : Nat) (hd shown : Nat → Int32) (i : Nat) : Nat → Int32 := fun s => if s < i ∧ hd s = 2 ∧ M ≤ z_tn (shown s) then 0 else hd s
theorem z_clr_0 (M : Nat) (hd shown : Nat → Int32) : z_clr M hd shown 0 = hd := funext fun s => if_neg (fun f => absurd f.1 (Nat.not_lt_zero _))
theorem z_clr_at (M : Nat) (hd shown : Nat → Int32) (i : Nat) : z_clr M hd shown i i = hd i := if_neg (fun f => absurd f.1 (Nat.lt_irrefl _))
theorem z_clr_s {M : Nat} {hd shown : Nat → Int32} {i : Nat} (h : ¬ (hd i = 2 ∧ M ≤ z_tn (shown i))) : z_clr M hd shown (i + 1) = z_clr M hd shown i := by
  funext s
  unfold z_clr
  by_cases e : s = i
  · subst e; rw [if_neg (fun f => h f.2), if_neg (fun f => h f.2)]
  · by_cases c : s < i ∧ hd s = 2 ∧ M ≤ z_tn (shown s)
    · rw [if_pos c, if_pos ⟨by omega, c.2⟩]
    · rw [if_neg c, if_neg (fun f => c ⟨by omega, f.2⟩)]
theorem z_clr_u {M : Nat} {hd shown : Nat → Int32} {i : Nat} (h : hd i = 2 ∧ M ≤ z_tn (shown i)) : z_clr M hd shown (i + 1) = upd (z_clr M hd shown i) i 0 := by
  funext s
  unfold z_clr upd
  by_cases e : s = i
  · subst e; rw [if_pos ⟨by omega, h⟩, if_pos rfl]
  · rw [if_neg e]
    dsimp only
    by_cases c : s < i ∧ hd s = 2 ∧ M ≤ z_tn (shown s)
    · rw [if_pos c, if_pos ⟨by omega, c.2⟩]
    · rw [if_neg c, if_neg (fun f => c ⟨by omega, f.2⟩)]
theorem zc_clear (hH : z_SH N hd size shown ec sn cells el) (hN : N ≤ 16) {M : Nat} (hM : M ≤ 16) {post : (Nat → Int32) → (Nat → Int32) → Prop} (h : post (z_clr M hd shown 8) ec) : F_X9_clearShelvesOfGoneStretches (nI M) hd ec sn post := by
  have key : ∀ k i : Nat, i + k = 8 → L_X9_clearShelvesOfGoneStretches_2 (nI M) sn post (k + 1) (nI i) (z_clr M hd shown i) ec := by
    intro k
    induction k with
    | zero =>
      intro i hi
      rw [L_X9_clearShelvesOfGoneStretches_2]
      refine pk_le 8 i (fun _ => ?_) (fun e => by omega)
      rw [show i = 8 by omega]; exact h
    | succ k ih =>
      intro i hi
      have ih1 := ih (i + 1) (by omega)
      obtain ⟨a1, a2, a3, a4, a5⟩ := hH i (by omega)
      rw [L_X9_clearShelvesOfGoneStretches_2]
      unfold F_X6_holdsStretch F_X6_stretchHeld F_X6_holdsStretch F_X9_clearShelvesOfGoneStretches_46 F_X6_holdNothing
      refine pk_le 8 i (fun e => by omega) (fun _ => zt_shelfAt (by omega) ?_)
      rw [z_clr_at]
      by_cases e : hd i = 2
      · obtain ⟨j, hj, e1, e2⟩ := a4 e
        refine br_t e (z_b1 (br_t e (z_b1 ?_)))
        rw [e2]
        by_cases hj2 : j < M
        · refine zt_X7has hM hj2 (z_b1 (nm_r (nI_1 i) ?_))
          rw [z_clr_s (fun f => by have := f.2; rw [e1, z_tn_nI (by omega)] at this; omega)] at ih1
          exact ih1
        · refine zf_X7has hM (fun ⟨j2, h2, e3⟩ => ?_) (z_b0 (nm_r (nI_1 i) ?_))
          · have := (nI_eq (by omega) (by omega)).mp e3
            omega
          · rw [z_clr_u ⟨e, by rw [e1, z_tn_nI (by omega)]; omega⟩] at ih1
            have ee : va_up ec i 0 = ec := funext fun s => by
              by_cases es : s = i
              · subst es; rw [z_uu, a3 (by rw [e]; decide)]
              · rw [z_un es]
            rw [ee]
            exact ih1
      · refine br_f e (z_b0 (nm_r (nI_1 i) ?_))
        rw [z_clr_s (fun f => e f.1)] at ih1
        exact ih1
  have k0 := key 8 0 rfl
  rw [z_clr_0] at k0
  exact ⟨9, k0⟩
theorem zm_shows (hH : z_SH N hd size shown ec sn cells el) (hN : N ≤ 16) {M : Nat} (hM : M ≤ 16) {post : (Nat → Int32) → Prop} (h : post (z_clr M hd shown 8)) : F_X10_shows (nI M) hd shown post := by
  have key : ∀ k i : Nat, i + k = 8 → L_X10_shows_2 (nI M) shown post (k + 1) (nI i) (z_clr M hd shown i) := by
    intro k
    induction k with
    | zero =>
      intro i hi
      rw [L_X10_shows_2]
      refine pk_le 8 i (fun _ => ?_) (fun e => by omega)
      rw [show i = 8 by omega]; exact h
    | succ k ih =>
      intro i hi
      have ih1 := ih (i + 1) (by omega)
      obtain ⟨a1, a2, a3, a4, a5⟩ := hH i (by omega)
      rw [L_X10_shows_2]
      unfold F_X10_shows_38
      rw [nI_clamp (by omega), z_clr_at]
      refine pk_le 8 i (fun e => by omega) (fun _ => ⟨vp_in_nI (by omega) (by decide), fun e => ?_, fun e => nm_r (nI_1 i) ?_⟩)
      · obtain ⟨j, hj, e1, e2⟩ := a4 e
        rw [e1]
        refine ⟨vp_in_nI (by omega) (by decide), pk_lt j M (fun e3 => nm_r (nI_1 i) ?_) (fun e3 => ⟨vp_in_nI (by omega) (by decide), nm_r (nI_1 i) ?_⟩)⟩
        · rw [z_clr_s (fun f => by have := f.2; rw [e1, z_tn_nI (by omega)] at this; omega)] at ih1
          exact ih1
        · rw [z_clr_u ⟨e, by rw [e1, z_tn_nI (by omega)]; omega⟩] at ih1
          exact ih1
      · rw [z_clr_s (fun f => e f.1)] at ih1
        exact ih1
  have k0 := key 8 0 rfl
  rw [z_clr_0] at k0
  exact ⟨9, k0⟩
theorem z_SH.clr (hH : z_SH N hd size shown ec sn cells el) (hN : N ≤ 16) (M : Nat) : z_SH M (z_clr M hd shown 8) size shown ec sn cells el := by
  intro t ht
  obtain ⟨a1, a2, a3, a4, a5⟩ := hH t ht
  by_cases c : hd t = 2 ∧ M ≤ z_tn (shown t)
  · have e : z_clr M hd shown 8 t = 0 := if_pos ⟨ht, c⟩
    rw [e]
    exact ⟨Or.inl rfl, fun f => absurd f (by decide), fun _ => a3 (by rw [c.1]; decide), fun f => absurd f (by decide), a5⟩
  · have e : z_clr M hd shown 8 t = hd t := if_neg (fun f => c f.2)
    rw [e]
    refine ⟨a1, a2, a3, fun f => ?_, a5⟩
    obtain ⟨j, hj, e1, e2⟩ := a4 f
    refine ⟨j, ?_, e1, e2⟩
    have : ¬ M ≤ z_tn (shown t) := fun g => c ⟨f, g⟩
    rw [e1, z_tn_nI (by omega)] at this
    omega
theorem z_VS.less {M : Nat} {kd ot sp tm : Nat → Int32} (hS : z_VS N kd ot sp tm) (h : M ≤ N) : z_VS M kd ot sp tm := ⟨Nat.le_trans h hS.1, fun i hi => hS.2 i (by omega)⟩
theorem p_9 (hN : N ≤ 16) (hH : z_SH N hd size shown ec sn cells el) {post : Int32 → (Nat → Int32) → (Nat → Int32) → (Nat → Int32) → Int32 → (Nat → Int32) → (Nat → Int32) → Prop} (h : ∀ R N' hd' ec', N' ≤ N → z_SH N' hd' size shown ec' sn cells el → post (nI N') hd' R R (nI N') hd' ec') : O_9 (nI N) hd ref shown ref (nI N) hd so ec sn el s1 s2 s3 s4 s5 post := by
  unfold O_9 F_X9_till F_X7_count
  refine zo_within (fun c => z_b0 (z_r6 ?_)) (fun c1 c2 => z_b1 ?_)
  · unfold F_X10_till
    exact z_out2 c (z_n6 (z_eq (h _ _ _ _ (Nat.le_refl _) hH)))
  · obtain ⟨n, -, hn, rfl⟩ := z_rng 0 N c1 c2 (by decide) (by omega)
    unfold F_X7_leave
    have e1 : (if nI N < nI n then nI N else nI n) = nI n := if_neg (nI_nlt (by omega) (by omega))
    have e2 : (if (0 : Int32) < nI n then nI n else 0) = nI n := by
      by_cases e : n = 0
      · subst e; rfl
      · exact if_pos (show (0 : Int32) < nI n from nI_lt (a := 0) (by omega) (by omega))
    rw [e1, e2]
    refine zc_clear hH hN (by omega) ?_
    unfold F_X10_till
    exact z_inn2 c1 c2 (zm_shows hH hN (by omega) (z_eq (h _ _ _ _ hn (hH.clr hN n))))
end TILL
section CAR
variable {C : Nat} {bs sh spd ref : Nat → Int32} {s1 s2 s3 s4 s5 : Int32}
theorem z_sum_congr {f g : Nat → Nat} : ∀ n, (∀ i, i < n → f i = g i) → z_sum f n = z_sum g n
  | 0, _ => rfl
  | n + 1, h => by
    show z_sum f n + f n = z_sum g n + g n
    rw [z_sum_congr n (fun i hi => h i (by omega)), h n (by omega)]
theorem z_VC.add (hC : z_VC C bs sh spd) (hN : C < 6) {v b h : Nat} (hv1 : 1 ≤ v) (hv2 : v ≤ 99) (hb : b ≤ 999) (hh : h + z_sum (fun i => z_tn (sh i)) C ≤ 100) : z_VC (C + 1) (upd bs C (nI b)) (upd sh C (nI h)) (upd spd C (nI v)) := by
  refine ⟨by omega, fun i hi => ?_, ?_⟩
  · by_cases e : i = C
    · subst e
      exact ⟨b, h, v, pk_us, pk_us, pk_us, hb, by omega, hv1, hv2⟩
    · rw [pk_un e, pk_un e, pk_un e]
      exact hC.2.1 i (by omega)
  · show z_sum _ C + z_tn (upd sh C (nI h) C) ≤ 100
    rw [pk_us, z_tn_nI (by omega), z_sum_congr (g := fun i => z_tn (sh i)) C (fun i hi => by show z_tn (upd sh C (nI h) i) = _; rw [pk_un (by omega)])]
    omega
theorem zc_addCar (hN : C < 6) {x1 x2 x3 : Int32} {post : Int32 → Int32 → (Nat → Int32) → (Nat → Int32) → (Nat → Int32) → Prop} (h : post (nI C) (nI (C + 1)) (upd bs C x2) (upd sh C x3) (upd spd C x1)) : F_X1_add (nI C) bs sh spd x1 x2 x3 post := by
  unfold F_X1_add F_X1_isFull
  rw [nI_clamp (by omega), nI_1, nI_pred]
  exact br_t (nI_lt (b := 6) hN (by decide)) (z_b0 (br_t (nI_pos' (by omega)) ⟨vp_in_nI (by omega) (by decide), vp_in_nI (by omega) (by decide), vp_in_nI (by omega) (by decide), h⟩))
theorem zm_cars (hN : C < 6) {x1 x2 x3 : Int32} {post : Int32 → Int32 → (Nat → Int32) → (Nat → Int32) → (Nat → Int32) → Prop} (h : post (nI C) (nI (C + 1)) (upd bs C x2) (upd sh C x3) (upd spd C x1)) : F_X10_cars (nI C) bs sh spd x1 x2 x3 post := by
  unfold F_X10_cars
  rw [nI_clamp (by omega), nI_1]
  exact ⟨vp_in_nI (by omega) (by decide), vp_in_nI (by omega) (by decide), vp_in_nI (by omega) (by decide), h⟩
theorem p_11 (hC : z_VC C bs sh spd) {post : Int32 → (Nat → Int32) → (Nat → Int32) → (Nat → Int32) → (Nat → Int32) → (Nat → Int32) → Int32 → (Nat → Int32) → (Nat → Int32) → (Nat → Int32) → Prop} (h : ∀ R C' bs' sh' spd', z_VC C' bs' sh' spd' → post (nI C') bs' R sh' spd' R (nI C') bs' sh' spd') : O_11 (nI C) bs ref sh spd ref (nI C) bs sh spd s1 s2 s3 s4 s5 post := by
  have hC1 := hC.1
  have hsum := hC.2.2
  have e100 : (100 : Int32) - nI (z_sum (fun i => z_tn (sh i)) C) = nI (100 - z_sum (fun i => z_tn (sh i)) C) := pk_sub (a := 100) hsum
  unfold O_11 F_X9_car
  refine zo_isSpeed (fun c => z_b0 (z_r6 ?_)) (fun c1 c2 => z_b1 (zo_within (fun c => z_b0 (z_r6 ?_)) (fun d1 d2 => z_b1 (zc_shareOfAll hC ?_))))
  · unfold F_X10_car
    exact zmf_isSpeed c (z_b0 (z_n6 (z_eq (h _ _ _ _ _ hC))))
  · unfold F_X10_car
    exact zmt_isSpeed c1 c2 (z_b1 (z_out c (z_n6 (z_eq (h _ _ _ _ _ hC)))))
  · rw [e100]
    refine zo_within (fun c => z_b0 (z_r6 ?_)) (fun f1 f2 => z_b1 ?_)
    · unfold F_X10_car
      refine zmt_isSpeed c1 c2 (z_b1 (z_inn d1 d2 ⟨fun _ => z_n6 (z_eq (h _ _ _ _ _ hC)), fun g => zm_shares hC ?_⟩))
      rw [e100]
      exact ⟨fun g2 => absurd ⟨z_nlt g, g2⟩ c, fun _ => z_n6 (z_eq (h _ _ _ _ _ hC))⟩
    · have mod : ∀ {post : Int32 → Int32 → (Nat → Int32) → (Nat → Int32) → (Nat → Int32) → (Nat → Int32) → Prop}, (nI C = 6 → F_X10_no ref (-7) (fun r53 w53_0 => post r53 (nI C) bs w53_0 sh spd)) → (¬ nI C = 6 → F_X10_cars (nI C) bs sh spd s1 s2 s3 (fun r63 w63_0 w63_1 w63_2 w63_3 => post r63 w63_0 w63_1 ref w63_2 w63_3)) → F_X10_car (nI C) bs ref sh spd s1 s2 s3 post := by
        intro post g1 g2
        unfold F_X10_car
        refine zmt_isSpeed c1 c2 (z_b1 (z_inn d1 d2 (br_f (z_lnt f1) (zm_shares hC ?_))))
        rw [e100]
        exact br_t f2 ⟨g1, g2⟩
      unfold F_X1_isFull
      refine pk_lt C 6 (fun e => z_b0 (zc_addCar e ?_)) (fun e => z_b1 (z_r7 ?_))
      · obtain ⟨v, hv1, hv2, rfl⟩ := z_rng 1 99 c1 c2 (by decide) (by decide)
        obtain ⟨b, -, hb, rfl⟩ := z_rng 0 999 d1 d2 (by decide) (by decide)
        obtain ⟨s, -, hs, rfl⟩ := z_rng 0 _ f1 f2 (by decide) (by omega)
        refine mod (fun f => ?_) (fun _ => zm_cars e (z_eq (h _ _ _ _ _ (hC.add e hv1 hv2 hb (by omega)))))
        have := (nI_eq (b := 6) (by omega) (by decide)).mp f
        omega
      · have e6 : C = 6 := by omega
        exact mod (fun _ => z_n7 (z_eq (h _ _ _ _ _ hC))) (fun f => absurd (by rw [e6]; rfl) f)
end CAR
/-! says -/
theorem zku_0_0 {post : Int32 → Prop} (h : post 1) : F_X9_isKindUnder 0 0 post := by
  refine ⟨2, ?_⟩
  rw [L_X9_isKindUnder_4]
  exact br_f (by decide) (br_f (by decide) (br_t rfl h))
theorem zku_0_1 {post : Int32 → Prop} (h : post 0) : F_X9_isKindUnder 0 1 post := by
  refine ⟨2, ?_⟩
  rw [L_X9_isKindUnder_4]
  refine br_f (by decide) (br_f (by decide) (br_f (by decide) (zab_0 (nm_r (e' := 1) (by decide) ?_))))
  rw [L_X9_isKindUnder_4]
  exact br_f (by decide) (br_t rfl h)
theorem zku_0_2 {post : Int32 → Prop} (h : post 0) : F_X9_isKindUnder 0 2 post := by
  refine ⟨2, ?_⟩
  rw [L_X9_isKindUnder_4]
  refine br_f (by decide) (br_f (by decide) (br_f (by decide) (zab_0 (nm_r (e' := 1) (by decide) ?_))))
  rw [L_X9_isKindUnder_4]
  exact br_f (by decide) (br_t rfl h)
theorem zku_0_3 {post : Int32 → Prop} (h : post 0) : F_X9_isKindUnder 0 3 post := by
  refine ⟨2, ?_⟩
  rw [L_X9_isKindUnder_4]
  refine br_f (by decide) (br_f (by decide) (br_f (by decide) (zab_0 (nm_r (e' := 1) (by decide) ?_))))
  rw [L_X9_isKindUnder_4]
  exact br_f (by decide) (br_t rfl h)
theorem zku_0_4 {post : Int32 → Prop} (h : post 0) : F_X9_isKindUnder 0 4 post := by
  refine ⟨2, ?_⟩
  rw [L_X9_isKindUnder_4]
  refine br_f (by decide) (br_f (by decide) (br_f (by decide) (zab_0 (nm_r (e' := 1) (by decide) ?_))))
  rw [L_X9_isKindUnder_4]
  exact br_f (by decide) (br_t rfl h)
theorem zku_0_5 {post : Int32 → Prop} (h : post 0) : F_X9_isKindUnder 0 5 post := by
  refine ⟨2, ?_⟩
  rw [L_X9_isKindUnder_4]
  refine br_f (by decide) (br_f (by decide) (br_f (by decide) (zab_0 (nm_r (e' := 1) (by decide) ?_))))
  rw [L_X9_isKindUnder_4]
  exact br_f (by decide) (br_t rfl h)
theorem zku_0_6 {post : Int32 → Prop} (h : post 0) : F_X9_isKindUnder 0 6 post := by
  refine ⟨2, ?_⟩
  rw [L_X9_isKindUnder_4]
  refine br_f (by decide) (br_f (by decide) (br_f (by decide) (zab_0 (nm_r (e' := 1) (by decide) ?_))))
  rw [L_X9_isKindUnder_4]
  exact br_f (by decide) (br_t rfl h)
theorem zku_1_0 {post : Int32 → Prop} (h : post 1) : F_X9_isKindUnder 1 0 post := by
  refine ⟨3, ?_⟩
  rw [L_X9_isKindUnder_4]
  refine br_f (by decide) (br_f (by decide) (br_f (by decide) (zab_1 (nm_r (e' := 1) (by decide) ?_))))
  rw [L_X9_isKindUnder_4]
  exact br_f (by decide) (br_f (by decide) (br_t rfl h))
theorem zku_1_1 {post : Int32 → Prop} (h : post 1) : F_X9_isKindUnder 1 1 post := by
  refine ⟨3, ?_⟩
  rw [L_X9_isKindUnder_4]
  exact br_f (by decide) (br_f (by decide) (br_t rfl h))
theorem zku_1_2 {post : Int32 → Prop} (h : post 0) : F_X9_isKindUnder 1 2 post := by
  refine ⟨3, ?_⟩
  rw [L_X9_isKindUnder_4]
  refine br_f (by decide) (br_f (by decide) (br_f (by decide) (zab_1 (nm_r (e' := 1) (by decide) ?_))))
  rw [L_X9_isKindUnder_4]
  refine br_f (by decide) (br_f (by decide) (br_f (by decide) (zab_0 (nm_r (e' := 2) (by decide) ?_))))
  rw [L_X9_isKindUnder_4]
  exact br_f (by decide) (br_t rfl h)
theorem zku_1_3 {post : Int32 → Prop} (h : post 0) : F_X9_isKindUnder 1 3 post := by
  refine ⟨3, ?_⟩
  rw [L_X9_isKindUnder_4]
  refine br_f (by decide) (br_f (by decide) (br_f (by decide) (zab_1 (nm_r (e' := 1) (by decide) ?_))))
  rw [L_X9_isKindUnder_4]
  refine br_f (by decide) (br_f (by decide) (br_f (by decide) (zab_0 (nm_r (e' := 2) (by decide) ?_))))
  rw [L_X9_isKindUnder_4]
  exact br_f (by decide) (br_t rfl h)
theorem zku_1_4 {post : Int32 → Prop} (h : post 0) : F_X9_isKindUnder 1 4 post := by
  refine ⟨3, ?_⟩
  rw [L_X9_isKindUnder_4]
  refine br_f (by decide) (br_f (by decide) (br_f (by decide) (zab_1 (nm_r (e' := 1) (by decide) ?_))))
  rw [L_X9_isKindUnder_4]
  refine br_f (by decide) (br_f (by decide) (br_f (by decide) (zab_0 (nm_r (e' := 2) (by decide) ?_))))
  rw [L_X9_isKindUnder_4]
  exact br_f (by decide) (br_t rfl h)
theorem zku_1_5 {post : Int32 → Prop} (h : post 0) : F_X9_isKindUnder 1 5 post := by
  refine ⟨3, ?_⟩
  rw [L_X9_isKindUnder_4]
  refine br_f (by decide) (br_f (by decide) (br_f (by decide) (zab_1 (nm_r (e' := 1) (by decide) ?_))))
  rw [L_X9_isKindUnder_4]
  refine br_f (by decide) (br_f (by decide) (br_f (by decide) (zab_0 (nm_r (e' := 2) (by decide) ?_))))
  rw [L_X9_isKindUnder_4]
  exact br_f (by decide) (br_t rfl h)
theorem zku_1_6 {post : Int32 → Prop} (h : post 0) : F_X9_isKindUnder 1 6 post := by
  refine ⟨3, ?_⟩
  rw [L_X9_isKindUnder_4]
  refine br_f (by decide) (br_f (by decide) (br_f (by decide) (zab_1 (nm_r (e' := 1) (by decide) ?_))))
  rw [L_X9_isKindUnder_4]
  refine br_f (by decide) (br_f (by decide) (br_f (by decide) (zab_0 (nm_r (e' := 2) (by decide) ?_))))
  rw [L_X9_isKindUnder_4]
  exact br_f (by decide) (br_t rfl h)
theorem zku_2_0 {post : Int32 → Prop} (h : post 1) : F_X9_isKindUnder 2 0 post := by
  refine ⟨4, ?_⟩
  rw [L_X9_isKindUnder_4]
  refine br_f (by decide) (br_f (by decide) (br_f (by decide) (zab_2 (nm_r (e' := 1) (by decide) ?_))))
  rw [L_X9_isKindUnder_4]
  refine br_f (by decide) (br_f (by decide) (br_f (by decide) (zab_1 (nm_r (e' := 2) (by decide) ?_))))
  rw [L_X9_isKindUnder_4]
  exact br_f (by decide) (br_f (by decide) (br_t rfl h))
theorem zku_2_1 {post : Int32 → Prop} (h : post 1) : F_X9_isKindUnder 2 1 post := by
  refine ⟨4, ?_⟩
  rw [L_X9_isKindUnder_4]
  refine br_f (by decide) (br_f (by decide) (br_f (by decide) (zab_2 (nm_r (e' := 1) (by decide) ?_))))
  rw [L_X9_isKindUnder_4]
  exact br_f (by decide) (br_f (by decide) (br_t rfl h))
theorem zku_2_2 {post : Int32 → Prop} (h : post 1) : F_X9_isKindUnder 2 2 post := by
  refine ⟨4, ?_⟩
  rw [L_X9_isKindUnder_4]
  exact br_f (by decide) (br_f (by decide) (br_t rfl h))
theorem zku_2_3 {post : Int32 → Prop} (h : post 0) : F_X9_isKindUnder 2 3 post := by
  refine ⟨4, ?_⟩
  rw [L_X9_isKindUnder_4]
  refine br_f (by decide) (br_f (by decide) (br_f (by decide) (zab_2 (nm_r (e' := 1) (by decide) ?_))))
  rw [L_X9_isKindUnder_4]
  refine br_f (by decide) (br_f (by decide) (br_f (by decide) (zab_1 (nm_r (e' := 2) (by decide) ?_))))
  rw [L_X9_isKindUnder_4]
  refine br_f (by decide) (br_f (by decide) (br_f (by decide) (zab_0 (nm_r (e' := 3) (by decide) ?_))))
  rw [L_X9_isKindUnder_4]
  exact br_f (by decide) (br_t rfl h)
theorem zku_2_4 {post : Int32 → Prop} (h : post 0) : F_X9_isKindUnder 2 4 post := by
  refine ⟨4, ?_⟩
  rw [L_X9_isKindUnder_4]
  refine br_f (by decide) (br_f (by decide) (br_f (by decide) (zab_2 (nm_r (e' := 1) (by decide) ?_))))
  rw [L_X9_isKindUnder_4]
  refine br_f (by decide) (br_f (by decide) (br_f (by decide) (zab_1 (nm_r (e' := 2) (by decide) ?_))))
  rw [L_X9_isKindUnder_4]
  refine br_f (by decide) (br_f (by decide) (br_f (by decide) (zab_0 (nm_r (e' := 3) (by decide) ?_))))
  rw [L_X9_isKindUnder_4]
  exact br_f (by decide) (br_t rfl h)
theorem zku_2_5 {post : Int32 → Prop} (h : post 0) : F_X9_isKindUnder 2 5 post := by
  refine ⟨4, ?_⟩
  rw [L_X9_isKindUnder_4]
  refine br_f (by decide) (br_f (by decide) (br_f (by decide) (zab_2 (nm_r (e' := 1) (by decide) ?_))))
  rw [L_X9_isKindUnder_4]
  refine br_f (by decide) (br_f (by decide) (br_f (by decide) (zab_1 (nm_r (e' := 2) (by decide) ?_))))
  rw [L_X9_isKindUnder_4]
  refine br_f (by decide) (br_f (by decide) (br_f (by decide) (zab_0 (nm_r (e' := 3) (by decide) ?_))))
  rw [L_X9_isKindUnder_4]
  exact br_f (by decide) (br_t rfl h)
theorem zku_2_6 {post : Int32 → Prop} (h : post 0) : F_X9_isKindUnder 2 6 post := by
  refine ⟨4, ?_⟩
  rw [L_X9_isKindUnder_4]
  refine br_f (by decide) (br_f (by decide) (br_f (by decide) (zab_2 (nm_r (e' := 1) (by decide) ?_))))
  rw [L_X9_isKindUnder_4]
  refine br_f (by decide) (br_f (by decide) (br_f (by decide) (zab_1 (nm_r (e' := 2) (by decide) ?_))))
  rw [L_X9_isKindUnder_4]
  refine br_f (by decide) (br_f (by decide) (br_f (by decide) (zab_0 (nm_r (e' := 3) (by decide) ?_))))
  rw [L_X9_isKindUnder_4]
  exact br_f (by decide) (br_t rfl h)
theorem zku_3_0 {post : Int32 → Prop} (h : post 1) : F_X9_isKindUnder 3 0 post := by
  refine ⟨3, ?_⟩
  rw [L_X9_isKindUnder_4]
  refine br_f (by decide) (br_f (by decide) (br_f (by decide) (zab_3 (nm_r (e' := 1) (by decide) ?_))))
  rw [L_X9_isKindUnder_4]
  exact br_f (by decide) (br_f (by decide) (br_t rfl h))
theorem zku_3_1 {post : Int32 → Prop} (h : post 0) : F_X9_isKindUnder 3 1 post := by
  refine ⟨3, ?_⟩
  rw [L_X9_isKindUnder_4]
  refine br_f (by decide) (br_f (by decide) (br_f (by decide) (zab_3 (nm_r (e' := 1) (by decide) ?_))))
  rw [L_X9_isKindUnder_4]
  refine br_f (by decide) (br_f (by decide) (br_f (by decide) (zab_0 (nm_r (e' := 2) (by decide) ?_))))
  rw [L_X9_isKindUnder_4]
  exact br_f (by decide) (br_t rfl h)
theorem zku_3_2 {post : Int32 → Prop} (h : post 0) : F_X9_isKindUnder 3 2 post := by
  refine ⟨3, ?_⟩
  rw [L_X9_isKindUnder_4]
  refine br_f (by decide) (br_f (by decide) (br_f (by decide) (zab_3 (nm_r (e' := 1) (by decide) ?_))))
  rw [L_X9_isKindUnder_4]
  refine br_f (by decide) (br_f (by decide) (br_f (by decide) (zab_0 (nm_r (e' := 2) (by decide) ?_))))
  rw [L_X9_isKindUnder_4]
  exact br_f (by decide) (br_t rfl h)
theorem zku_3_3 {post : Int32 → Prop} (h : post 1) : F_X9_isKindUnder 3 3 post := by
  refine ⟨3, ?_⟩
  rw [L_X9_isKindUnder_4]
  exact br_f (by decide) (br_f (by decide) (br_t rfl h))
theorem zku_3_4 {post : Int32 → Prop} (h : post 0) : F_X9_isKindUnder 3 4 post := by
  refine ⟨3, ?_⟩
  rw [L_X9_isKindUnder_4]
  refine br_f (by decide) (br_f (by decide) (br_f (by decide) (zab_3 (nm_r (e' := 1) (by decide) ?_))))
  rw [L_X9_isKindUnder_4]
  refine br_f (by decide) (br_f (by decide) (br_f (by decide) (zab_0 (nm_r (e' := 2) (by decide) ?_))))
  rw [L_X9_isKindUnder_4]
  exact br_f (by decide) (br_t rfl h)
theorem zku_3_5 {post : Int32 → Prop} (h : post 0) : F_X9_isKindUnder 3 5 post := by
  refine ⟨3, ?_⟩
  rw [L_X9_isKindUnder_4]
  refine br_f (by decide) (br_f (by decide) (br_f (by decide) (zab_3 (nm_r (e' := 1) (by decide) ?_))))
  rw [L_X9_isKindUnder_4]
  refine br_f (by decide) (br_f (by decide) (br_f (by decide) (zab_0 (nm_r (e' := 2) (by decide) ?_))))
  rw [L_X9_isKindUnder_4]
  exact br_f (by decide) (br_t rfl h)
theorem zku_3_6 {post : Int32 → Prop} (h : post 0) : F_X9_isKindUnder 3 6 post := by
  refine ⟨3, ?_⟩
  rw [L_X9_isKindUnder_4]
  refine br_f (by decide) (br_f (by decide) (br_f (by decide) (zab_3 (nm_r (e' := 1) (by decide) ?_))))
  rw [L_X9_isKindUnder_4]
  refine br_f (by decide) (br_f (by decide) (br_f (by decide) (zab_0 (nm_r (e' := 2) (by decide) ?_))))
  rw [L_X9_isKindUnder_4]
  exact br_f (by decide) (br_t rfl h)
theorem zku_4_0 {post : Int32 → Prop} (h : post 1) : F_X9_isKindUnder 4 0 post := by
  refine ⟨4, ?_⟩
  rw [L_X9_isKindUnder_4]
  refine br_f (by decide) (br_f (by decide) (br_f (by decide) (zab_4 (nm_r (e' := 1) (by decide) ?_))))
  rw [L_X9_isKindUnder_4]
  refine br_f (by decide) (br_f (by decide) (br_f (by decide) (zab_1 (nm_r (e' := 2) (by decide) ?_))))
  rw [L_X9_isKindUnder_4]
  exact br_f (by decide) (br_f (by decide) (br_t rfl h))
theorem zku_4_1 {post : Int32 → Prop} (h : post 1) : F_X9_isKindUnder 4 1 post := by
  refine ⟨4, ?_⟩
  rw [L_X9_isKindUnder_4]
  refine br_f (by decide) (br_f (by decide) (br_f (by decide) (zab_4 (nm_r (e' := 1) (by decide) ?_))))
  rw [L_X9_isKindUnder_4]
  exact br_f (by decide) (br_f (by decide) (br_t rfl h))
theorem zku_4_2 {post : Int32 → Prop} (h : post 0) : F_X9_isKindUnder 4 2 post := by
  refine ⟨4, ?_⟩
  rw [L_X9_isKindUnder_4]
  refine br_f (by decide) (br_f (by decide) (br_f (by decide) (zab_4 (nm_r (e' := 1) (by decide) ?_))))
  rw [L_X9_isKindUnder_4]
  refine br_f (by decide) (br_f (by decide) (br_f (by decide) (zab_1 (nm_r (e' := 2) (by decide) ?_))))
  rw [L_X9_isKindUnder_4]
  refine br_f (by decide) (br_f (by decide) (br_f (by decide) (zab_0 (nm_r (e' := 3) (by decide) ?_))))
  rw [L_X9_isKindUnder_4]
  exact br_f (by decide) (br_t rfl h)
theorem zku_4_3 {post : Int32 → Prop} (h : post 0) : F_X9_isKindUnder 4 3 post := by
  refine ⟨4, ?_⟩
  rw [L_X9_isKindUnder_4]
  refine br_f (by decide) (br_f (by decide) (br_f (by decide) (zab_4 (nm_r (e' := 1) (by decide) ?_))))
  rw [L_X9_isKindUnder_4]
  refine br_f (by decide) (br_f (by decide) (br_f (by decide) (zab_1 (nm_r (e' := 2) (by decide) ?_))))
  rw [L_X9_isKindUnder_4]
  refine br_f (by decide) (br_f (by decide) (br_f (by decide) (zab_0 (nm_r (e' := 3) (by decide) ?_))))
  rw [L_X9_isKindUnder_4]
  exact br_f (by decide) (br_t rfl h)
theorem zku_4_4 {post : Int32 → Prop} (h : post 1) : F_X9_isKindUnder 4 4 post := by
  refine ⟨4, ?_⟩
  rw [L_X9_isKindUnder_4]
  exact br_f (by decide) (br_f (by decide) (br_t rfl h))
theorem zku_4_5 {post : Int32 → Prop} (h : post 0) : F_X9_isKindUnder 4 5 post := by
  refine ⟨4, ?_⟩
  rw [L_X9_isKindUnder_4]
  refine br_f (by decide) (br_f (by decide) (br_f (by decide) (zab_4 (nm_r (e' := 1) (by decide) ?_))))
  rw [L_X9_isKindUnder_4]
  refine br_f (by decide) (br_f (by decide) (br_f (by decide) (zab_1 (nm_r (e' := 2) (by decide) ?_))))
  rw [L_X9_isKindUnder_4]
  refine br_f (by decide) (br_f (by decide) (br_f (by decide) (zab_0 (nm_r (e' := 3) (by decide) ?_))))
  rw [L_X9_isKindUnder_4]
  exact br_f (by decide) (br_t rfl h)
theorem zku_4_6 {post : Int32 → Prop} (h : post 0) : F_X9_isKindUnder 4 6 post := by
  refine ⟨4, ?_⟩
  rw [L_X9_isKindUnder_4]
  refine br_f (by decide) (br_f (by decide) (br_f (by decide) (zab_4 (nm_r (e' := 1) (by decide) ?_))))
  rw [L_X9_isKindUnder_4]
  refine br_f (by decide) (br_f (by decide) (br_f (by decide) (zab_1 (nm_r (e' := 2) (by decide) ?_))))
  rw [L_X9_isKindUnder_4]
  refine br_f (by decide) (br_f (by decide) (br_f (by decide) (zab_0 (nm_r (e' := 3) (by decide) ?_))))
  rw [L_X9_isKindUnder_4]
  exact br_f (by decide) (br_t rfl h)
theorem zku_5_0 {post : Int32 → Prop} (h : post 1) : F_X9_isKindUnder 5 0 post := by
  refine ⟨5, ?_⟩
  rw [L_X9_isKindUnder_4]
  refine br_f (by decide) (br_f (by decide) (br_f (by decide) (zab_5 (nm_r (e' := 1) (by decide) ?_))))
  rw [L_X9_isKindUnder_4]
  refine br_f (by decide) (br_f (by decide) (br_f (by decide) (zab_2 (nm_r (e' := 2) (by decide) ?_))))
  rw [L_X9_isKindUnder_4]
  refine br_f (by decide) (br_f (by decide) (br_f (by decide) (zab_1 (nm_r (e' := 3) (by decide) ?_))))
  rw [L_X9_isKindUnder_4]
  exact br_f (by decide) (br_f (by decide) (br_t rfl h))
theorem zku_5_1 {post : Int32 → Prop} (h : post 1) : F_X9_isKindUnder 5 1 post := by
  refine ⟨5, ?_⟩
  rw [L_X9_isKindUnder_4]
  refine br_f (by decide) (br_f (by decide) (br_f (by decide) (zab_5 (nm_r (e' := 1) (by decide) ?_))))
  rw [L_X9_isKindUnder_4]
  refine br_f (by decide) (br_f (by decide) (br_f (by decide) (zab_2 (nm_r (e' := 2) (by decide) ?_))))
  rw [L_X9_isKindUnder_4]
  exact br_f (by decide) (br_f (by decide) (br_t rfl h))
theorem zku_5_2 {post : Int32 → Prop} (h : post 1) : F_X9_isKindUnder 5 2 post := by
  refine ⟨5, ?_⟩
  rw [L_X9_isKindUnder_4]
  refine br_f (by decide) (br_f (by decide) (br_f (by decide) (zab_5 (nm_r (e' := 1) (by decide) ?_))))
  rw [L_X9_isKindUnder_4]
  exact br_f (by decide) (br_f (by decide) (br_t rfl h))
theorem zku_5_3 {post : Int32 → Prop} (h : post 0) : F_X9_isKindUnder 5 3 post := by
  refine ⟨5, ?_⟩
  rw [L_X9_isKindUnder_4]
  refine br_f (by decide) (br_f (by decide) (br_f (by decide) (zab_5 (nm_r (e' := 1) (by decide) ?_))))
  rw [L_X9_isKindUnder_4]
  refine br_f (by decide) (br_f (by decide) (br_f (by decide) (zab_2 (nm_r (e' := 2) (by decide) ?_))))
  rw [L_X9_isKindUnder_4]
  refine br_f (by decide) (br_f (by decide) (br_f (by decide) (zab_1 (nm_r (e' := 3) (by decide) ?_))))
  rw [L_X9_isKindUnder_4]
  refine br_f (by decide) (br_f (by decide) (br_f (by decide) (zab_0 (nm_r (e' := 4) (by decide) ?_))))
  rw [L_X9_isKindUnder_4]
  exact br_f (by decide) (br_t rfl h)
theorem zku_5_4 {post : Int32 → Prop} (h : post 0) : F_X9_isKindUnder 5 4 post := by
  refine ⟨5, ?_⟩
  rw [L_X9_isKindUnder_4]
  refine br_f (by decide) (br_f (by decide) (br_f (by decide) (zab_5 (nm_r (e' := 1) (by decide) ?_))))
  rw [L_X9_isKindUnder_4]
  refine br_f (by decide) (br_f (by decide) (br_f (by decide) (zab_2 (nm_r (e' := 2) (by decide) ?_))))
  rw [L_X9_isKindUnder_4]
  refine br_f (by decide) (br_f (by decide) (br_f (by decide) (zab_1 (nm_r (e' := 3) (by decide) ?_))))
  rw [L_X9_isKindUnder_4]
  refine br_f (by decide) (br_f (by decide) (br_f (by decide) (zab_0 (nm_r (e' := 4) (by decide) ?_))))
  rw [L_X9_isKindUnder_4]
  exact br_f (by decide) (br_t rfl h)
theorem zku_5_5 {post : Int32 → Prop} (h : post 1) : F_X9_isKindUnder 5 5 post := by
  refine ⟨5, ?_⟩
  rw [L_X9_isKindUnder_4]
  exact br_f (by decide) (br_f (by decide) (br_t rfl h))
theorem zku_5_6 {post : Int32 → Prop} (h : post 0) : F_X9_isKindUnder 5 6 post := by
  refine ⟨5, ?_⟩
  rw [L_X9_isKindUnder_4]
  refine br_f (by decide) (br_f (by decide) (br_f (by decide) (zab_5 (nm_r (e' := 1) (by decide) ?_))))
  rw [L_X9_isKindUnder_4]
  refine br_f (by decide) (br_f (by decide) (br_f (by decide) (zab_2 (nm_r (e' := 2) (by decide) ?_))))
  rw [L_X9_isKindUnder_4]
  refine br_f (by decide) (br_f (by decide) (br_f (by decide) (zab_1 (nm_r (e' := 3) (by decide) ?_))))
  rw [L_X9_isKindUnder_4]
  refine br_f (by decide) (br_f (by decide) (br_f (by decide) (zab_0 (nm_r (e' := 4) (by decide) ?_))))
  rw [L_X9_isKindUnder_4]
  exact br_f (by decide) (br_t rfl h)
theorem zku_6_0 {post : Int32 → Prop} (h : post 1) : F_X9_isKindUnder 6 0 post := by
  refine ⟨3, ?_⟩
  rw [L_X9_isKindUnder_4]
  refine br_f (by decide) (br_f (by decide) (br_f (by decide) (zab_6 (nm_r (e' := 1) (by decide) ?_))))
  rw [L_X9_isKindUnder_4]
  exact br_f (by decide) (br_f (by decide) (br_t rfl h))
theorem zku_6_1 {post : Int32 → Prop} (h : post 0) : F_X9_isKindUnder 6 1 post := by
  refine ⟨3, ?_⟩
  rw [L_X9_isKindUnder_4]
  refine br_f (by decide) (br_f (by decide) (br_f (by decide) (zab_6 (nm_r (e' := 1) (by decide) ?_))))
  rw [L_X9_isKindUnder_4]
  refine br_f (by decide) (br_f (by decide) (br_f (by decide) (zab_0 (nm_r (e' := 2) (by decide) ?_))))
  rw [L_X9_isKindUnder_4]
  exact br_f (by decide) (br_t rfl h)
theorem zku_6_2 {post : Int32 → Prop} (h : post 0) : F_X9_isKindUnder 6 2 post := by
  refine ⟨3, ?_⟩
  rw [L_X9_isKindUnder_4]
  refine br_f (by decide) (br_f (by decide) (br_f (by decide) (zab_6 (nm_r (e' := 1) (by decide) ?_))))
  rw [L_X9_isKindUnder_4]
  refine br_f (by decide) (br_f (by decide) (br_f (by decide) (zab_0 (nm_r (e' := 2) (by decide) ?_))))
  rw [L_X9_isKindUnder_4]
  exact br_f (by decide) (br_t rfl h)
theorem zku_6_3 {post : Int32 → Prop} (h : post 0) : F_X9_isKindUnder 6 3 post := by
  refine ⟨3, ?_⟩
  rw [L_X9_isKindUnder_4]
  refine br_f (by decide) (br_f (by decide) (br_f (by decide) (zab_6 (nm_r (e' := 1) (by decide) ?_))))
  rw [L_X9_isKindUnder_4]
  refine br_f (by decide) (br_f (by decide) (br_f (by decide) (zab_0 (nm_r (e' := 2) (by decide) ?_))))
  rw [L_X9_isKindUnder_4]
  exact br_f (by decide) (br_t rfl h)
theorem zku_6_4 {post : Int32 → Prop} (h : post 0) : F_X9_isKindUnder 6 4 post := by
  refine ⟨3, ?_⟩
  rw [L_X9_isKindUnder_4]
  refine br_f (by decide) (br_f (by decide) (br_f (by decide) (zab_6 (nm_r (e' := 1) (by decide) ?_))))
  rw [L_X9_isKindUnder_4]
  refine br_f (by decide) (br_f (by decide) (br_f (by decide) (zab_0 (nm_r (e' := 2) (by decide) ?_))))
  rw [L_X9_isKindUnder_4]
  exact br_f (by decide) (br_t rfl h)
theorem zku_6_5 {post : Int32 → Prop} (h : post 0) : F_X9_isKindUnder 6 5 post := by
  refine ⟨3, ?_⟩
  rw [L_X9_isKindUnder_4]
  refine br_f (by decide) (br_f (by decide) (br_f (by decide) (zab_6 (nm_r (e' := 1) (by decide) ?_))))
  rw [L_X9_isKindUnder_4]
  refine br_f (by decide) (br_f (by decide) (br_f (by decide) (zab_0 (nm_r (e' := 2) (by decide) ?_))))
  rw [L_X9_isKindUnder_4]
  exact br_f (by decide) (br_t rfl h)
theorem zku_6_6 {post : Int32 → Prop} (h : post 1) : F_X9_isKindUnder 6 6 post := by
  refine ⟨3, ?_⟩
  rw [L_X9_isKindUnder_4]
  exact br_f (by decide) (br_f (by decide) (br_t rfl h))
section SAYS
variable {N : Nat} {kd ot sp tm hd size shown ec sn so ref : Nat → Int32} {cells : Nat → Int64} {el : Nat → Nat → Int64} {s1 s2 s3 s4 s5 : Int32}
theorem p_6 (hS : z_VS N kd ot sp tm) (hH : z_SH N hd size shown ec sn cells el) {post : (Nat → Int32) → (Nat → Int32) → Prop} (h : ∀ R, post R R) : O_6 hd kd ot ref shown sp tm ref (nI N) kd ot sp tm hd so ec sn el s1 s2 s3 s4 s5 post := by
  have hN := hS.1
  unfold O_6 F_X9_says
  refine zo_shelfAt (fun c => z_r1 ?_) (fun s hs e => zo_within (fun c => z_b0 (z_r1 ?_)) (fun c1 c2 => z_b1 ?_))
  · unfold F_X10_says
    exact zf_mShelf c (z_b0 (z_n1 (z_eq (h _))))
  · subst e
    unfold F_X10_says
    exact zt_mShelf hs (z_b1 (z_out2 c (z_n1 (z_eq (h _)))))
  · subst e
    obtain ⟨a1, a2, a3, a4, a5⟩ := hH s hs
    have hc : (nI s).toNatClampNeg = s := nI_clamp (by omega)
    unfold F_X6_holdsRow F_X6_holdsStretch
    rcases a1 with e | e | e
    · rw [e]
      refine br_f (by decide) (z_b0 (br_f (by decide) (z_b0 (z_r3 ?_))))
      unfold F_X10_says
      rw [hc, e]
      exact zt_mShelf hs (z_b1 (z_inn2 c1 c2 ⟨vp_in_nI (by omega) (by decide), br_f (by decide) ⟨vp_in_nI (by omega) (by decide), br_t rfl (z_n3 (z_eq (h _)))⟩⟩))
    · rw [e]
      refine br_t rfl (z_b1 (z_r2 ?_))
      unfold F_X10_says
      rw [hc, e]
      exact zt_mShelf hs (z_b1 (z_inn2 c1 c2 ⟨vp_in_nI (by omega) (by decide), br_t rfl (z_n2 (z_eq (h _)))⟩))
    · obtain ⟨j, hj, e1, e2⟩ := a4 e
      rw [e]
      refine br_f (by decide) (z_b0 (br_t rfl (z_b1 ?_)))
      unfold F_X6_stretchHeld F_X6_holdsStretch
      refine br_t rfl (z_b1 ?_)
      rw [e2]
      refine zc_kindOf hN hj ?_
      obtain ⟨k, o, sv, t, ek, eo, es, et, hk, -⟩ := hS.2 j hj
      obtain ⟨a, -, ha, rfl⟩ := z_rng 0 6 c1 c2 (by decide) (by decide)
      have hcj : (nI j).toNatClampNeg = j := nI_clamp (by omega)
      have mod : ∀ {post : Int32 → (Nat → Int32) → Prop}, ((nI a = 0 → F_X10_says_114 kd ot sp tm post (nI a) (nI j) ref) ∧ (¬ nI a = 0 → ((nI a = nI k → F_X10_says_114 kd ot sp tm post (nI a) (nI j) ref) ∧ (¬ nI a = nI k → ((nI a = 1 → (F_X10_isEven (nI k) (fun r90 => ((r90 = 0 → F_X10_says_96 kd ot sp tm post (nI a) (nI j) (nI k) ref) ∧ (¬ r90 = 0 → F_X10_says_114 kd ot sp tm post (nI a) (nI j) ref))))) ∧ (¬ nI a = 1 → F_X10_says_96 kd ot sp tm post (nI a) (nI j) (nI k) ref)))))) → F_X10_says hd kd ot ref shown sp tm (nI s) (nI a) post := by
        intro post hp
        unfold F_X10_says
        rw [hc, e]
        exact zt_mShelf hs (z_b1 (z_inn2 c1 c2 ⟨vp_in_nI (by omega) (by decide), br_f (by decide) ⟨vp_in_nI (by omega) (by decide), br_f (by decide) ⟨vp_in_nI (by omega) (by decide), nm_r e1 ⟨vp_in_nI (by omega) (by decide), nm_r (by rw [hcj, ek]) hp⟩⟩⟩⟩))
      rw [ek]
      have h7 : k = 0 ∨ k = 1 ∨ k = 2 ∨ k = 3 ∨ k = 4 ∨ k = 5 ∨ k = 6 := by omega
      have g7 : a = 0 ∨ a = 1 ∨ a = 2 ∨ a = 3 ∨ a = 4 ∨ a = 5 ∨ a = 6 := by omega
      rcases h7 with rfl | rfl | rfl | rfl | rfl | rfl | rfl
      · rcases g7 with rfl | rfl | rfl | rfl | rfl | rfl | rfl
        · refine zku_0_0 (z_b1 (br_t rfl (zc_lengthOf hS hj ?_)))
          refine mod ?_
          unfold F_X10_says_114
          refine br_t rfl (br_t rfl (zm_lengthOf hS hj ?_))
          exact z_eq (h _)
        · refine zku_0_1 (z_b0 (z_r2 ?_))
          refine mod ?_
          unfold F_X10_says_96
          refine br_f (by decide) (br_f (by decide) (br_t rfl (br_f (by decide) (br_f (by decide) (br_f (by decide) (br_f (by decide) (z_b0 (br_f (by decide) (z_n2 ?_)))))))))
          exact z_eq (h _)
        · refine zku_0_2 (z_b0 (z_r2 ?_))
          refine mod ?_
          unfold F_X10_says_96
          refine br_f (by decide) (br_f (by decide) (br_f (by decide) (br_t rfl (br_f (by decide) (z_n2 ?_)))))
          exact z_eq (h _)
        · refine zku_0_3 (z_b0 (z_r2 ?_))
          refine mod ?_
          unfold F_X10_says_96
          refine br_f (by decide) (br_f (by decide) (br_f (by decide) (br_f (by decide) (z_n2 ?_))))
          exact z_eq (h _)
        · refine zku_0_4 (z_b0 (z_r2 ?_))
          refine mod ?_
          unfold F_X10_says_96
          refine br_f (by decide) (br_f (by decide) (br_f (by decide) (br_f (by decide) (z_n2 ?_))))
          exact z_eq (h _)
        · refine zku_0_5 (z_b0 (z_r2 ?_))
          refine mod ?_
          unfold F_X10_says_96
          refine br_f (by decide) (br_f (by decide) (br_f (by decide) (br_f (by decide) (z_n2 ?_))))
          exact z_eq (h _)
        · refine zku_0_6 (z_b0 (z_r2 ?_))
          refine mod ?_
          unfold F_X10_says_96
          refine br_f (by decide) (br_f (by decide) (br_f (by decide) (br_f (by decide) (z_n2 ?_))))
          exact z_eq (h _)
      · rcases g7 with rfl | rfl | rfl | rfl | rfl | rfl | rfl
        · refine zku_1_0 (z_b1 (br_t rfl (zc_lengthOf hS hj ?_)))
          refine mod ?_
          unfold F_X10_says_114
          refine br_t rfl (br_t rfl (zm_lengthOf hS hj ?_))
          exact z_eq (h _)
        · refine zku_1_1 (z_b1 (br_f (by decide) (br_t rfl (zc_spaceOf hN hj ?_))))
          refine mod ?_
          unfold F_X10_says_114
          refine br_f (by decide) (br_t rfl (br_f (by decide) (br_t rfl (⟨vp_in_nI (by omega) (by decide), ?_⟩))))
          rw [hcj]
          exact z_eq (h _)
        · refine zku_1_2 (z_b0 (z_r2 ?_))
          refine mod ?_
          unfold F_X10_says_96
          refine br_f (by decide) (br_f (by decide) (br_f (by decide) (br_t rfl (br_f (by decide) (z_n2 ?_)))))
          exact z_eq (h _)
        · refine zku_1_3 (z_b0 (z_r2 ?_))
          refine mod ?_
          unfold F_X10_says_96
          refine br_f (by decide) (br_f (by decide) (br_f (by decide) (br_f (by decide) (z_n2 ?_))))
          exact z_eq (h _)
        · refine zku_1_4 (z_b0 (z_r2 ?_))
          refine mod ?_
          unfold F_X10_says_96
          refine br_f (by decide) (br_f (by decide) (br_f (by decide) (br_f (by decide) (z_n2 ?_))))
          exact z_eq (h _)
        · refine zku_1_5 (z_b0 (z_r2 ?_))
          refine mod ?_
          unfold F_X10_says_96
          refine br_f (by decide) (br_f (by decide) (br_f (by decide) (br_f (by decide) (z_n2 ?_))))
          exact z_eq (h _)
        · refine zku_1_6 (z_b0 (z_r2 ?_))
          refine mod ?_
          unfold F_X10_says_96
          refine br_f (by decide) (br_f (by decide) (br_f (by decide) (br_f (by decide) (z_n2 ?_))))
          exact z_eq (h _)
      · rcases g7 with rfl | rfl | rfl | rfl | rfl | rfl | rfl
        · refine zku_2_0 (z_b1 (br_t rfl (zc_lengthOf hS hj ?_)))
          refine mod ?_
          unfold F_X10_says_114
          refine br_t rfl (br_t rfl (zm_lengthOf hS hj ?_))
          exact z_eq (h _)
        · refine zku_2_1 (z_b1 (br_f (by decide) (br_t rfl (zc_spaceOf hN hj ?_))))
          refine mod ?_
          unfold F_X10_says_96 F_X10_says_114
          refine br_f (by decide) (br_f (by decide) (br_t rfl (br_f (by decide) (br_t rfl (z_b1 (br_f (by decide) (br_t rfl (⟨vp_in_nI (by omega) (by decide), ?_⟩))))))))
          rw [hcj]
          exact z_eq (h _)
        · refine zku_2_2 (z_b1 (br_f (by decide) (br_f (by decide) (br_t rfl (zc_spaceOf hN hj (zc_otherOf hN hj ?_))))))
          refine mod ?_
          unfold F_X10_says_114
          refine br_f (by decide) (br_t rfl (br_f (by decide) (br_f (by decide) (br_t rfl (⟨vp_in_nI (by omega) (by decide), vp_in_nI (by omega) (by decide), ?_⟩)))))
          rw [hcj]
          exact z_eq (h _)
        · refine zku_2_3 (z_b0 (z_r2 ?_))
          refine mod ?_
          unfold F_X10_says_96
          refine br_f (by decide) (br_f (by decide) (br_f (by decide) (br_f (by decide) (z_n2 ?_))))
          exact z_eq (h _)
        · refine zku_2_4 (z_b0 (z_r2 ?_))
          refine mod ?_
          unfold F_X10_says_96
          refine br_f (by decide) (br_f (by decide) (br_f (by decide) (br_f (by decide) (z_n2 ?_))))
          exact z_eq (h _)
        · refine zku_2_5 (z_b0 (z_r2 ?_))
          refine mod ?_
          unfold F_X10_says_96
          refine br_f (by decide) (br_f (by decide) (br_f (by decide) (br_f (by decide) (z_n2 ?_))))
          exact z_eq (h _)
        · refine zku_2_6 (z_b0 (z_r2 ?_))
          refine mod ?_
          unfold F_X10_says_96
          refine br_f (by decide) (br_f (by decide) (br_f (by decide) (br_f (by decide) (z_n2 ?_))))
          exact z_eq (h _)
      · rcases g7 with rfl | rfl | rfl | rfl | rfl | rfl | rfl
        · refine zku_3_0 (z_b1 (br_t rfl (zc_lengthOf hS hj ?_)))
          refine mod ?_
          unfold F_X10_says_114
          refine br_t rfl (br_t rfl (zm_lengthOf hS hj ?_))
          exact z_eq (h _)
        · refine zku_3_1 (z_b0 (z_r2 ?_))
          refine mod ?_
          unfold F_X10_says_96
          refine br_f (by decide) (br_f (by decide) (br_t rfl (br_f (by decide) (br_f (by decide) (br_f (by decide) (br_f (by decide) (z_b0 (br_f (by decide) (z_n2 ?_)))))))))
          exact z_eq (h _)
        · refine zku_3_2 (z_b0 (z_r2 ?_))
          refine mod ?_
          unfold F_X10_says_96
          refine br_f (by decide) (br_f (by decide) (br_f (by decide) (br_t rfl (br_f (by decide) (z_n2 ?_)))))
          exact z_eq (h _)
        · refine zku_3_3 (z_b1 (br_f (by decide) (br_f (by decide) (br_f (by decide) (br_t rfl (zc_timesOf hN hj ?_))))))
          refine mod ?_
          unfold F_X10_says_114
          refine br_f (by decide) (br_t rfl (br_f (by decide) (br_f (by decide) (br_f (by decide) (br_t rfl (⟨vp_in_nI (by omega) (by decide), ?_⟩))))))
          rw [hcj]
          exact z_eq (h _)
        · refine zku_3_4 (z_b0 (z_r2 ?_))
          refine mod ?_
          unfold F_X10_says_96
          refine br_f (by decide) (br_f (by decide) (br_f (by decide) (br_f (by decide) (z_n2 ?_))))
          exact z_eq (h _)
        · refine zku_3_5 (z_b0 (z_r2 ?_))
          refine mod ?_
          unfold F_X10_says_96
          refine br_f (by decide) (br_f (by decide) (br_f (by decide) (br_f (by decide) (z_n2 ?_))))
          exact z_eq (h _)
        · refine zku_3_6 (z_b0 (z_r2 ?_))
          refine mod ?_
          unfold F_X10_says_96
          refine br_f (by decide) (br_f (by decide) (br_f (by decide) (br_f (by decide) (z_n2 ?_))))
          exact z_eq (h _)
      · rcases g7 with rfl | rfl | rfl | rfl | rfl | rfl | rfl
        · refine zku_4_0 (z_b1 (br_t rfl (zc_lengthOf hS hj ?_)))
          refine mod ?_
          unfold F_X10_says_114
          refine br_t rfl (br_t rfl (zm_lengthOf hS hj ?_))
          exact z_eq (h _)
        · refine zku_4_1 (z_b1 (br_f (by decide) (br_t rfl (zc_spaceOf hN hj ?_))))
          refine mod ?_
          unfold F_X10_says_96 F_X10_says_114
          refine br_f (by decide) (br_f (by decide) (br_t rfl (br_f (by decide) (br_f (by decide) (br_t rfl (z_b1 (br_f (by decide) (br_t rfl (⟨vp_in_nI (by omega) (by decide), ?_⟩)))))))))
          rw [hcj]
          exact z_eq (h _)
        · refine zku_4_2 (z_b0 (z_r2 ?_))
          refine mod ?_
          unfold F_X10_says_96
          refine br_f (by decide) (br_f (by decide) (br_f (by decide) (br_t rfl (br_f (by decide) (z_n2 ?_)))))
          exact z_eq (h _)
        · refine zku_4_3 (z_b0 (z_r2 ?_))
          refine mod ?_
          unfold F_X10_says_96
          refine br_f (by decide) (br_f (by decide) (br_f (by decide) (br_f (by decide) (z_n2 ?_))))
          exact z_eq (h _)
        · refine zku_4_4 (z_b1 (br_f (by decide) (br_f (by decide) (br_f (by decide) (br_f (by decide) (br_t rfl (zc_spaceOf hN hj ?_)))))))
          refine mod ?_
          unfold F_X10_says_114
          refine br_f (by decide) (br_t rfl (br_f (by decide) (br_f (by decide) (br_f (by decide) (br_f (by decide) (br_t rfl (⟨vp_in_nI (by omega) (by decide), ?_⟩)))))))
          rw [hcj]
          exact z_eq (h _)
        · refine zku_4_5 (z_b0 (z_r2 ?_))
          refine mod ?_
          unfold F_X10_says_96
          refine br_f (by decide) (br_f (by decide) (br_f (by decide) (br_f (by decide) (z_n2 ?_))))
          exact z_eq (h _)
        · refine zku_4_6 (z_b0 (z_r2 ?_))
          refine mod ?_
          unfold F_X10_says_96
          refine br_f (by decide) (br_f (by decide) (br_f (by decide) (br_f (by decide) (z_n2 ?_))))
          exact z_eq (h _)
      · rcases g7 with rfl | rfl | rfl | rfl | rfl | rfl | rfl
        · refine zku_5_0 (z_b1 (br_t rfl (zc_lengthOf hS hj ?_)))
          refine mod ?_
          unfold F_X10_says_114
          refine br_t rfl (br_t rfl (zm_lengthOf hS hj ?_))
          exact z_eq (h _)
        · refine zku_5_1 (z_b1 (br_f (by decide) (br_t rfl (zc_spaceOf hN hj ?_))))
          refine mod ?_
          unfold F_X10_says_96 F_X10_says_114
          refine br_f (by decide) (br_f (by decide) (br_t rfl (br_f (by decide) (br_f (by decide) (br_f (by decide) (br_t rfl (z_b1 (br_f (by decide) (br_t rfl (⟨vp_in_nI (by omega) (by decide), ?_⟩))))))))))
          rw [hcj]
          exact z_eq (h _)
        · refine zku_5_2 (z_b1 (br_f (by decide) (br_f (by decide) (br_t rfl (zc_spaceOf hN hj (zc_otherOf hN hj ?_))))))
          refine mod ?_
          unfold F_X10_says_96 F_X10_says_114
          refine br_f (by decide) (br_f (by decide) (br_f (by decide) (br_t rfl (br_t rfl (br_f (by decide) (br_f (by decide) (br_t rfl (⟨vp_in_nI (by omega) (by decide), vp_in_nI (by omega) (by decide), ?_⟩))))))))
          rw [hcj]
          exact z_eq (h _)
        · refine zku_5_3 (z_b0 (z_r2 ?_))
          refine mod ?_
          unfold F_X10_says_96
          refine br_f (by decide) (br_f (by decide) (br_f (by decide) (br_f (by decide) (z_n2 ?_))))
          exact z_eq (h _)
        · refine zku_5_4 (z_b0 (z_r2 ?_))
          refine mod ?_
          unfold F_X10_says_96
          refine br_f (by decide) (br_f (by decide) (br_f (by decide) (br_f (by decide) (z_n2 ?_))))
          exact z_eq (h _)
        · refine zku_5_5 (z_b1 (br_f (by decide) (br_f (by decide) (br_f (by decide) (br_f (by decide) (br_f (by decide) (br_t rfl (zc_spaceOf hN hj (zc_otherOf hN hj ?_)))))))))
          refine mod ?_
          unfold F_X10_says_114
          refine br_f (by decide) (br_t rfl (br_f (by decide) (br_f (by decide) (br_f (by decide) (br_f (by decide) (br_f (by decide) (br_t rfl (⟨vp_in_nI (by omega) (by decide), vp_in_nI (by omega) (by decide), ?_⟩))))))))
          rw [hcj]
          exact z_eq (h _)
        · refine zku_5_6 (z_b0 (z_r2 ?_))
          refine mod ?_
          unfold F_X10_says_96
          refine br_f (by decide) (br_f (by decide) (br_f (by decide) (br_f (by decide) (z_n2 ?_))))
          exact z_eq (h _)
      · rcases g7 with rfl | rfl | rfl | rfl | rfl | rfl | rfl
        · refine zku_6_0 (z_b1 (br_t rfl (zc_lengthOf hS hj ?_)))
          refine mod ?_
          unfold F_X10_says_114
          refine br_t rfl (br_t rfl (zm_lengthOf hS hj ?_))
          exact z_eq (h _)
        · refine zku_6_1 (z_b0 (z_r2 ?_))
          refine mod ?_
          unfold F_X10_says_96
          refine br_f (by decide) (br_f (by decide) (br_t rfl (br_f (by decide) (br_f (by decide) (br_f (by decide) (br_f (by decide) (z_b0 (br_f (by decide) (z_n2 ?_)))))))))
          exact z_eq (h _)
        · refine zku_6_2 (z_b0 (z_r2 ?_))
          refine mod ?_
          unfold F_X10_says_96
          refine br_f (by decide) (br_f (by decide) (br_f (by decide) (br_t rfl (br_f (by decide) (z_n2 ?_)))))
          exact z_eq (h _)
        · refine zku_6_3 (z_b0 (z_r2 ?_))
          refine mod ?_
          unfold F_X10_says_96
          refine br_f (by decide) (br_f (by decide) (br_f (by decide) (br_f (by decide) (z_n2 ?_))))
          exact z_eq (h _)
        · refine zku_6_4 (z_b0 (z_r2 ?_))
          refine mod ?_
          unfold F_X10_says_96
          refine br_f (by decide) (br_f (by decide) (br_f (by decide) (br_f (by decide) (z_n2 ?_))))
          exact z_eq (h _)
        · refine zku_6_5 (z_b0 (z_r2 ?_))
          refine mod ?_
          unfold F_X10_says_96
          refine br_f (by decide) (br_f (by decide) (br_f (by decide) (br_f (by decide) (z_n2 ?_))))
          exact z_eq (h _)
        · refine zku_6_6 (z_b1 (br_f (by decide) (br_f (by decide) (br_f (by decide) (br_f (by decide) (br_f (by decide) (br_f (by decide) (br_t rfl (zc_otherOf hN hj ?_)))))))))
          refine mod ?_
          unfold F_X10_says_114
          refine br_f (by decide) (br_t rfl (br_f (by decide) (br_f (by decide) (br_f (by decide) (br_f (by decide) (br_f (by decide) (br_f (by decide) (⟨vp_in_nI (by omega) (by decide), ?_⟩))))))))
          rw [hcj]
          exact z_eq (h _)
end SAYS
