/-! book -/
def z_mkσ (N C T al ne bo te : Nat) : Nat → Nat
  | 0 => N
  | 1 => C
  | 2 => T
  | 3 => al
  | 4 => ne
  | 5 => bo
  | 6 => te
  | _ => 0
def z_mkα (kd ot sp tm bs sh spd bt nts pt dm : Nat → Int32) : Nat → Nat → Int32
  | 0 => kd
  | 1 => ot
  | 2 => sp
  | 3 => tm
  | 4 => bs
  | 5 => sh
  | 6 => spd
  | 7 => bt
  | 8 => nts
  | 9 => pt
  | 10 => dm
  | _ => kd
section BOOK
variable {N C T : Nat} {kd ot sp tm bs sh spd bt nts pt dm ref : Nat → Int32} {al ne bo te : Nat} {s1 s2 s3 s4 s5 : Int32}
theorem p_16 (hS : z_VS N kd ot sp tm) (hC : z_VC C bs sh spd) (hT : z_VT T bt nts pt) (hD : z_VD al ne bo te) (hdm : z_dm dm al ne bo te) {hd size shown ec sn so : Nat → Int32} {cells : Nat → Int64} {el : Nat → Nat → Int64} (hH : z_SH N hd size shown ec sn cells el) {wds : Nat → Int32} (hW : ∀ k, k < 79 → wds k = nI (z_WD k)) {sd lf fr at' en to wa asd aC aN aT : Int32} {tl was abs ash aspd adm akd aot asp atm abt ants apt : Nat → Int32} {post : Int32 → Int32 → Int32 → Int32 → Int32 → Int32 → Int32 → Int32 → Int32 → Int32 → Int32 → Int32 → Int32 → Int32 → (Nat → Int32) → (Nat → Int32) → (Nat → Int32) → (Nat → Int32) → (Nat → Int32) → (Nat → Int32) → (Nat → Int32) → (Nat → Int32) → (Nat → Int32) → (Nat → Int32) → (Nat → Int32) → (Nat → Int32) → (Nat → Int32) → Int32 → Int32 → Int32 → (Nat → Int32) → (Nat → Int32) → (Nat → Int32) → (Nat → Int32) → Int32 → (Nat → Int32) → (Nat → Int32) → (Nat → Int32) → (Nat → Int32) → Int32 → (Nat → Int32) → (Nat → Int32) → (Nat → Int32) → (Nat → Int32) → Int32 → Int32 → (Nat → Int32) → (Nat → Int32) → (Nat → Int32) → (Nat → Int32) → Int32 → (Nat → Int32) → (Nat → Int32) → (Nat → Int32) → (Nat → Int32) → Int32 → (Nat → Int32) → (Nat → Int32) → (Nat → Int32) → Prop} (h : ∀ N' C' T' al' ne' bo' te' lf' fr' a' en' to' wa' bs' bt' kd' nts' ot' pt' R sh' sp' spd' tl' tm' was' dm' asd' aC' abs' ash' aspd' adm' aN' akd' aot' asp' atm' aT' abt' ants' apt', N ≤ N' → z_VS N' kd' ot' sp' tm' → z_VC C' bs' sh' spd' → z_VT T' bt' nts' pt' → z_VD al' ne' bo' te' → z_dm dm' al' ne' bo' te' → post (nI N') (nI C') (nI T') (nI al') (nI ne') (nI bo') (nI te') sd lf' fr' a' en' to' wa' bs' bt' kd' nts' ot' pt' R sh' sp' spd' tl' tm' was' lf' asd' aC' abs' ash' aspd' adm' aN' akd' aot' asp' atm' aT' abt' ants' apt' R sd (nI C') bs' sh' spd' dm' (nI N') kd' ot' sp' tm' (nI T') bt' nts' pt') : O_16 (nI N) (nI C) (nI T) (nI al) (nI ne) (nI bo) (nI te) sd lf fr at' en to wa bs bt cells hd kd nts ot pt ref sh size sp spd tl tm was wds lf asd aC abs ash aspd adm aN akd aot asp atm aT abt ants apt ref sd (nI C) bs sh spd dm (nI N) kd ot sp tm (nI T) bt nts pt hd so ec sn el s1 s2 s3 s4 s5 post := by
  unfold O_16 F_X9_book F_X9_refusalOfRow_null0
  have same := h N C T al ne bo te
  refine zo_shelfAt (fun c => br_f (by decide) (z_r1 ?_)) (fun s hs e => ?_)
  · unfold F_X10_book
    exact zm_wants_no c (br_f (by decide) (z_n1 (z_eq (h _ _ _ _ _ _ _ _ _ _ _ _ _ _ _ _ _ _ _ _ _ _ _ _ _ _ _ _ _ _ _ _ _ _ _ _ _ _ _ _ _ _ (Nat.le_refl _) hS hC hT hD hdm))))
  subst e
  obtain ⟨a1, a2, a3, a4, a5⟩ := hH s hs
  have hc : (nI s).toNatClampNeg = s := nI_clamp (by omega)
  refine zo_ror a1 (fun e => br_f (by decide) (z_r2 ?_)) (fun e => z_b0 ?_) (fun e => br_f (by decide) (z_r3 ?_))
  · unfold F_X10_book
    exact zm_wants hs a1 (fun _ => br_f (by decide) (z_n2 (z_eq (h _ _ _ _ _ _ _ _ _ _ _ _ _ _ _ _ _ _ _ _ _ _ _ _ _ _ _ _ _ _ _ _ _ _ _ _ _ _ _ _ _ _ (Nat.le_refl _) hS hC hT hD hdm)))) (fun f => absurd (e.symm.trans f) (by decide)) (fun f => absurd (e.symm.trans f) (by decide))
  · obtain ⟨n, hn, en1, en2⟩ := a2 e
    have hVA : z_VA (z_mkσ N C T al ne bo te) (z_mkα kd ot sp tm bs sh spd bt nts pt dm) := ⟨hS, hC, hT, hD, hdm⟩
    have hv : ∀ i, i < 160 → (fun i => (el s i).toInt32) i = (cells (160 * s + i)).toInt32 := fun x hx => by show (el s x).toInt32 = _; rw [a5 x hx]
    obtain ⟨hVA', hN', hu'⟩ := z_lp_VA (n := n) (v := fun i => (el s i).toInt32) (n + 1) 0 0 _ _ (Nat.zero_le _) hVA
    obtain ⟨rS, rC, rT, rD, rdm⟩ := hVA'
    rw [en2]
    refine zc_become ⟨n + 2, zc_lp hn rfl (n + 1) 0 0 (z_mkσ N C T al ne bo te) (z_mkα kd ot sp tm bs sh spd bt nts pt dm) (Nat.zero_le _) (by omega) (Nat.le_refl _) hVA (fun u eu r q => ?_) (fun eu q => ?_)⟩
    all_goals unfold F_X4_faultFound
    · refine br_f (z_nIm (by have := hu' u eu; omega)) (zc_become (z_r6 ?_))
      unfold F_X10_book
      refine zm_wants hs a1 (fun f => absurd (e.symm.trans f) (by decide)) (fun _ => z_b0 (zm_all0 (fun kk hKK hK8 => ⟨vp_in_nI hs (by decide), ?_⟩))) (fun f => absurd (e.symm.trans f) (by decide))
      rw [hc, en1, show (160 : Int32) * nI s = nI (160 * s) from pk_mul 160 s]
      refine zm_lp hs hn hW hv (n + 1) 0 0 (z_mkσ N C T al ne bo te) (z_mkα kd ot sp tm bs sh spd bt nts pt dm) (Nat.zero_le _) (by omega) hVA (fun u2 eu2 x q t tl => ?_) (fun eu2 => absurd (eu.symm.trans eu2) (fun e => (by cases e))) to tl _ (fun _ _ _ _ _ _ _ _ _ _ _ _ _ _ _ _ _ _ _ _ _ _ hx => ⟨_, hx⟩)
      have e12 := Option.some.inj (eu.symm.trans eu2)
      subst e12
      unfold F_X10_book_133
      refine br_t rfl (zm_all1 (z_n6 ?_))
      obtain ⟨b0, b1, b2, b3, b4, b5, b6, b7, b8, b9⟩ := hKK
      obtain ⟨c0, c1, c2, c3, c4, c5, c6, c7⟩ := hK8
      rw [c0, c1, c2, c3, c4, c5, c6, c7]
      have cp : ∀ (f g0 g : Nat → Int32) (m : Nat), z_cp (z_cp f g0 m) g m = z_cp f g m := fun f g0 g m => z_cp_congr (fun k hk => z_cp_in hk)
      rw [z_cp_congr (f := fun i => kk (70 + i)) (f' := bs) (fun i hi => b5 i hi), z_cp_congr (f := fun i => kk (160 + i)) (f' := bt) (fun i hi => b9 i hi), z_cp_congr (f := fun i => kk (0 + i)) (f' := kd) (fun i hi => by show kk (0 + i) = _; rw [Nat.zero_add]; exact b0 i hi), z_cp_congr (f := fun i => kk (82 + i)) (f' := nts) (fun i hi => b7 i hi), z_cp_congr (f := fun i => kk (32 + i)) (f' := ot) (fun i hi => b2 i hi), z_cp_congr (f := fun i => kk (88 + i)) (f' := pt) (fun i hi => b8 i hi), z_cp_congr (f := fun i => kk (76 + i)) (f' := sh) (fun i hi => b6 i hi), z_cp_congr (f := fun i => kk (16 + i)) (f' := sp) (fun i hi => b1 i hi), z_cp_congr (f := fun i => kk (64 + i)) (f' := spd) (fun i hi => b4 i hi), z_cp_congr (f := fun i => kk (48 + i)) (f' := tm) (fun i hi => b3 i hi)]
      simp only [cp]
      refine ⟨fun _ => h _ _ _ _ _ _ _ _ _ _ _ _ _ _ _ _ _ _ _ _ _ _ _ _ _ _ _ _ _ _ _ _ _ _ _ _ _ _ _ _ _ _ (Nat.le_refl _) ?_ ?_ ?_ hD ?_, fun e => absurd trivial e⟩
      · exact hS.congr (fun i hi => ⟨z_cp_in hi, z_cp_in hi, z_cp_in hi, z_cp_in hi⟩)
      · exact hC.congr (fun i hi => ⟨z_cp_in hi, z_cp_in hi, z_cp_in hi⟩)
      · exact hT.congr (fun i hi => z_cp_in hi) (fun i hi => ⟨z_cp_in hi, z_cp_in hi⟩)
      · exact hdm.cp
    · refine br_t rfl ?_
      unfold F_X10_book
      refine zm_wants hs a1 (fun f => absurd (e.symm.trans f) (by decide)) (fun _ => z_b0 (zm_all0 (fun kk hKK hK8 => ⟨vp_in_nI hs (by decide), ?_⟩))) (fun f => absurd (e.symm.trans f) (by decide))
      rw [hc, en1, show (160 : Int32) * nI s = nI (160 * s) from pk_mul 160 s]
      refine zm_lp hs hn hW hv (n + 1) 0 0 (z_mkσ N C T al ne bo te) (z_mkα kd ot sp tm bs sh spd bt nts pt dm) (Nat.zero_le _) (by omega) hVA (fun u2 eu2 => absurd (eu2.symm.trans eu) (fun e => (by cases e))) (fun eu2 q t tl => ?_) to tl _ (fun _ _ _ _ _ _ _ _ _ _ _ _ _ _ _ _ _ _ _ _ _ _ hx => ⟨_, hx⟩)
      unfold F_X10_book_133
      exact br_f (by decide) (z_eq (h _ _ _ _ _ _ _ _ _ _ _ _ _ _ _ _ _ _ _ _ _ _ _ _ _ _ _ _ _ _ _ _ _ _ _ _ _ _ _ _ _ _ hN' rS rC rT rD rdm))
  · unfold F_X10_book
    exact zm_wants hs a1 (fun f => absurd (e.symm.trans f) (by decide)) (fun f => absurd (e.symm.trans f) (by decide)) (fun _ => br_f (by decide) (z_n3 (z_eq (h _ _ _ _ _ _ _ _ _ _ _ _ _ _ _ _ _ _ _ _ _ _ _ _ _ _ _ _ _ _ _ _ _ _ _ _ _ _ _ _ _ _ (Nat.le_refl _) hS hC hT hD hdm))))
end BOOK
