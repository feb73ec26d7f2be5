/-! operations: act -/
def z_mk (f : Nat → Int32) (r : Nat) (b : Int32) : Nat → Int32 := if r < 20 then upd f r b else f
theorem zc_mark {f : Nat → Int32} {r : Nat} (hr : r < 100) {b : Int32} {post : Int32 → (Nat → Int32) → Prop} (h : post (nI (r + 1)) (z_mk f r b)) : F_X0_mark (nI r) f b post := by
  unfold F_X0_mark F_X0_mark_26
  unfold z_mk at h
  refine br_f (nI_pos (by omega)) (pk_le 20 r (fun e => ?_) (fun e => ⟨vp_in_nI (by omega) (by decide), ?_⟩))
  · rw [nI_1]; rw [if_neg (by omega)] at h; exact h
  · rw [nI_1, nI_clamp (by omega)]; rw [if_pos e] at h; exact h
theorem zm_body {f : Nat → Int32} {r : Nat} (hr : r < 100) {b : Int32} {post : Int32 → (Nat → Int32) → Prop} (h : post (nI (r + 1)) (z_mk f r b)) : F_X10_body (nI r) f b post := by
  unfold F_X10_body F_X10_body_19
  unfold z_mk at h
  refine pk_le 20 r (fun e => ?_) (fun e => ⟨vp_in_nI (by omega) (by decide), ?_⟩)
  · rw [nI_1]; rw [if_neg (by omega)] at h; exact h
  · rw [nI_1, nI_clamp (by omega)]; rw [if_pos e] at h; exact h
theorem zab_0 {post : Int32 → Prop} (h : post (-1)) : F_X9_kindAbove 0 post := zt_within (by decide) (by decide) (z_b1 ⟨by unfold vp_in; decide, h⟩)
theorem zab_1 {post : Int32 → Prop} (h : post 0) : F_X9_kindAbove 1 post := zt_within (by decide) (by decide) (z_b1 ⟨by unfold vp_in; decide, h⟩)
theorem zab_2 {post : Int32 → Prop} (h : post 1) : F_X9_kindAbove 2 post := zt_within (by decide) (by decide) (z_b1 ⟨by unfold vp_in; decide, h⟩)
theorem zab_3 {post : Int32 → Prop} (h : post 0) : F_X9_kindAbove 3 post := zt_within (by decide) (by decide) (z_b1 ⟨by unfold vp_in; decide, h⟩)
theorem zab_4 {post : Int32 → Prop} (h : post 1) : F_X9_kindAbove 4 post := zt_within (by decide) (by decide) (z_b1 ⟨by unfold vp_in; decide, h⟩)
theorem zab_5 {post : Int32 → Prop} (h : post 2) : F_X9_kindAbove 5 post := zt_within (by decide) (by decide) (z_b1 ⟨by unfold vp_in; decide, h⟩)
theorem zab_6 {post : Int32 → Prop} (h : post 0) : F_X9_kindAbove 6 post := zt_within (by decide) (by decide) (z_b1 ⟨by unfold vp_in; decide, h⟩)
theorem zbo_0_0 {post : Int32 → Prop} (h : post 10) : F_X0_bodyOf 0 0 post := zt_within (by decide) (by decide) (z_b1 (br_t rfl ⟨by unfold vp_in; decide, h⟩))
theorem zbo_0_1 {post : Int32 → Prop} (h : post 20) : F_X0_bodyOf 0 1 post := zt_within (by decide) (by decide) (z_b1 (br_t rfl ⟨by unfold vp_in; decide, h⟩))
theorem zbo_0_2 {post : Int32 → Prop} (h : post 0) : F_X0_bodyOf 0 2 post := zt_within (by decide) (by decide) (z_b1 (br_t rfl ⟨by unfold vp_in; decide, h⟩))
theorem zbo_0_3 {post : Int32 → Prop} (h : post 0) : F_X0_bodyOf 0 3 post := zt_within (by decide) (by decide) (z_b1 (br_t rfl ⟨by unfold vp_in; decide, h⟩))
theorem zbo_0_4 {post : Int32 → Prop} (h : post 0) : F_X0_bodyOf 0 4 post := zt_within (by decide) (by decide) (z_b1 (br_t rfl ⟨by unfold vp_in; decide, h⟩))
theorem zbo_0_5 {post : Int32 → Prop} (h : post 41) : F_X0_bodyOf 0 5 post := zt_within (by decide) (by decide) (z_b1 (br_t rfl ⟨by unfold vp_in; decide, h⟩))
theorem zbo_0_6 {post : Int32 → Prop} (h : post 70) : F_X0_bodyOf 0 6 post := zt_within (by decide) (by decide) (z_b1 (br_t rfl ⟨by unfold vp_in; decide, h⟩))
theorem zbo_1_0 {post : Int32 → Prop} (h : post 11) : F_X0_bodyOf 1 0 post := zt_within (by decide) (by decide) (z_b1 (br_f (by decide) (br_t rfl ⟨by unfold vp_in; decide, h⟩)))
theorem zbo_1_1 {post : Int32 → Prop} (h : post 0) : F_X0_bodyOf 1 1 post := zt_within (by decide) (by decide) (z_b1 (br_f (by decide) (br_t rfl ⟨by unfold vp_in; decide, h⟩)))
theorem zbo_1_2 {post : Int32 → Prop} (h : post 30) : F_X0_bodyOf 1 2 post := zt_within (by decide) (by decide) (z_b1 (br_f (by decide) (br_t rfl ⟨by unfold vp_in; decide, h⟩)))
theorem zbo_1_3 {post : Int32 → Prop} (h : post 0) : F_X0_bodyOf 1 3 post := zt_within (by decide) (by decide) (z_b1 (br_f (by decide) (br_t rfl ⟨by unfold vp_in; decide, h⟩)))
theorem zbo_1_4 {post : Int32 → Prop} (h : post 0) : F_X0_bodyOf 1 4 post := zt_within (by decide) (by decide) (z_b1 (br_f (by decide) (br_t rfl ⟨by unfold vp_in; decide, h⟩)))
theorem zbo_1_5 {post : Int32 → Prop} (h : post 40) : F_X0_bodyOf 1 5 post := zt_within (by decide) (by decide) (z_b1 (br_f (by decide) (br_t rfl ⟨by unfold vp_in; decide, h⟩)))
theorem zbo_1_6 {post : Int32 → Prop} (h : post 0) : F_X0_bodyOf 1 6 post := zt_within (by decide) (by decide) (z_b1 (br_f (by decide) (br_t rfl ⟨by unfold vp_in; decide, h⟩)))
theorem zbo_2_0 {post : Int32 → Prop} (h : post 12) : F_X0_bodyOf 2 0 post := zt_within (by decide) (by decide) (z_b1 (br_f (by decide) (br_f (by decide) ⟨by unfold vp_in; decide, h⟩)))
theorem zbo_2_1 {post : Int32 → Prop} (h : post 0) : F_X0_bodyOf 2 1 post := zt_within (by decide) (by decide) (z_b1 (br_f (by decide) (br_f (by decide) ⟨by unfold vp_in; decide, h⟩)))
theorem zbo_2_2 {post : Int32 → Prop} (h : post 0) : F_X0_bodyOf 2 2 post := zt_within (by decide) (by decide) (z_b1 (br_f (by decide) (br_f (by decide) ⟨by unfold vp_in; decide, h⟩)))
theorem zbo_2_3 {post : Int32 → Prop} (h : post 60) : F_X0_bodyOf 2 3 post := zt_within (by decide) (by decide) (z_b1 (br_f (by decide) (br_f (by decide) ⟨by unfold vp_in; decide, h⟩)))
theorem zbo_2_4 {post : Int32 → Prop} (h : post 50) : F_X0_bodyOf 2 4 post := zt_within (by decide) (by decide) (z_b1 (br_f (by decide) (br_f (by decide) ⟨by unfold vp_in; decide, h⟩)))
theorem zbo_2_5 {post : Int32 → Prop} (h : post 0) : F_X0_bodyOf 2 5 post := zt_within (by decide) (by decide) (z_b1 (br_f (by decide) (br_f (by decide) ⟨by unfold vp_in; decide, h⟩)))
theorem zbo_2_6 {post : Int32 → Prop} (h : post 71) : F_X0_bodyOf 2 6 post := zt_within (by decide) (by decide) (z_b1 (br_f (by decide) (br_f (by decide) ⟨by unfold vp_in; decide, h⟩)))
theorem zkb_0_0 {post : Int32 → Prop} (h : post 0) : F_X0_kindWithBody 0 0 post := by
  refine ⟨1, ?_⟩
  rw [L_X0_kindWithBody_4]
  exact br_f (by decide) (br_f (by decide) (zbo_0_0 (br_f (by decide) h)))
theorem zkb_0_1 {post : Int32 → Prop} (h : post 1) : F_X0_kindWithBody 0 1 post := by
  refine ⟨1, ?_⟩
  rw [L_X0_kindWithBody_4]
  exact br_f (by decide) (br_f (by decide) (zbo_0_1 (br_f (by decide) h)))
theorem zkb_0_2 {post : Int32 → Prop} (h : post 1) : F_X0_kindWithBody 0 2 post := by
  refine ⟨2, ?_⟩
  rw [L_X0_kindWithBody_4]
  refine br_f (by decide) (br_f (by decide) (zbo_0_2 (br_t rfl (zab_2 (nm_r (e' := 1) (by decide) ?_)))))
  rw [L_X0_kindWithBody_4]
  exact br_f (by decide) (br_f (by decide) (zbo_0_1 (br_f (by decide) h)))
theorem zkb_0_3 {post : Int32 → Prop} (h : post 0) : F_X0_kindWithBody 0 3 post := by
  refine ⟨2, ?_⟩
  rw [L_X0_kindWithBody_4]
  refine br_f (by decide) (br_f (by decide) (zbo_0_3 (br_t rfl (zab_3 (nm_r (e' := 1) (by decide) ?_)))))
  rw [L_X0_kindWithBody_4]
  exact br_f (by decide) (br_f (by decide) (zbo_0_0 (br_f (by decide) h)))
theorem zkb_0_4 {post : Int32 → Prop} (h : post 1) : F_X0_kindWithBody 0 4 post := by
  refine ⟨2, ?_⟩
  rw [L_X0_kindWithBody_4]
  refine br_f (by decide) (br_f (by decide) (zbo_0_4 (br_t rfl (zab_4 (nm_r (e' := 1) (by decide) ?_)))))
  rw [L_X0_kindWithBody_4]
  exact br_f (by decide) (br_f (by decide) (zbo_0_1 (br_f (by decide) h)))
theorem zkb_0_5 {post : Int32 → Prop} (h : post 5) : F_X0_kindWithBody 0 5 post := by
  refine ⟨1, ?_⟩
  rw [L_X0_kindWithBody_4]
  exact br_f (by decide) (br_f (by decide) (zbo_0_5 (br_f (by decide) h)))
theorem zkb_0_6 {post : Int32 → Prop} (h : post 6) : F_X0_kindWithBody 0 6 post := by
  refine ⟨1, ?_⟩
  rw [L_X0_kindWithBody_4]
  exact br_f (by decide) (br_f (by decide) (zbo_0_6 (br_f (by decide) h)))
theorem zkb_1_0 {post : Int32 → Prop} (h : post 0) : F_X0_kindWithBody 1 0 post := by
  refine ⟨1, ?_⟩
  rw [L_X0_kindWithBody_4]
  exact br_f (by decide) (br_f (by decide) (zbo_1_0 (br_f (by decide) h)))
theorem zkb_1_1 {post : Int32 → Prop} (h : post 0) : F_X0_kindWithBody 1 1 post := by
  refine ⟨2, ?_⟩
  rw [L_X0_kindWithBody_4]
  refine br_f (by decide) (br_f (by decide) (zbo_1_1 (br_t rfl (zab_1 (nm_r (e' := 1) (by decide) ?_)))))
  rw [L_X0_kindWithBody_4]
  exact br_f (by decide) (br_f (by decide) (zbo_1_0 (br_f (by decide) h)))
theorem zkb_1_2 {post : Int32 → Prop} (h : post 2) : F_X0_kindWithBody 1 2 post := by
  refine ⟨1, ?_⟩
  rw [L_X0_kindWithBody_4]
  exact br_f (by decide) (br_f (by decide) (zbo_1_2 (br_f (by decide) h)))
theorem zkb_1_3 {post : Int32 → Prop} (h : post 0) : F_X0_kindWithBody 1 3 post := by
  refine ⟨2, ?_⟩
  rw [L_X0_kindWithBody_4]
  refine br_f (by decide) (br_f (by decide) (zbo_1_3 (br_t rfl (zab_3 (nm_r (e' := 1) (by decide) ?_)))))
  rw [L_X0_kindWithBody_4]
  exact br_f (by decide) (br_f (by decide) (zbo_1_0 (br_f (by decide) h)))
theorem zkb_1_4 {post : Int32 → Prop} (h : post 0) : F_X0_kindWithBody 1 4 post := by
  refine ⟨3, ?_⟩
  rw [L_X0_kindWithBody_4]
  refine br_f (by decide) (br_f (by decide) (zbo_1_4 (br_t rfl (zab_4 (nm_r (e' := 1) (by decide) ?_)))))
  rw [L_X0_kindWithBody_4]
  refine br_f (by decide) (br_f (by decide) (zbo_1_1 (br_t rfl (zab_1 (nm_r (e' := 2) (by decide) ?_)))))
  rw [L_X0_kindWithBody_4]
  exact br_f (by decide) (br_f (by decide) (zbo_1_0 (br_f (by decide) h)))
theorem zkb_1_5 {post : Int32 → Prop} (h : post 5) : F_X0_kindWithBody 1 5 post := by
  refine ⟨1, ?_⟩
  rw [L_X0_kindWithBody_4]
  exact br_f (by decide) (br_f (by decide) (zbo_1_5 (br_f (by decide) h)))
theorem zkb_1_6 {post : Int32 → Prop} (h : post 0) : F_X0_kindWithBody 1 6 post := by
  refine ⟨2, ?_⟩
  rw [L_X0_kindWithBody_4]
  refine br_f (by decide) (br_f (by decide) (zbo_1_6 (br_t rfl (zab_6 (nm_r (e' := 1) (by decide) ?_)))))
  rw [L_X0_kindWithBody_4]
  exact br_f (by decide) (br_f (by decide) (zbo_1_0 (br_f (by decide) h)))
theorem zkb_2_0 {post : Int32 → Prop} (h : post 0) : F_X0_kindWithBody 2 0 post := by
  refine ⟨1, ?_⟩
  rw [L_X0_kindWithBody_4]
  exact br_f (by decide) (br_f (by decide) (zbo_2_0 (br_f (by decide) h)))
theorem zkb_2_1 {post : Int32 → Prop} (h : post 0) : F_X0_kindWithBody 2 1 post := by
  refine ⟨2, ?_⟩
  rw [L_X0_kindWithBody_4]
  refine br_f (by decide) (br_f (by decide) (zbo_2_1 (br_t rfl (zab_1 (nm_r (e' := 1) (by decide) ?_)))))
  rw [L_X0_kindWithBody_4]
  exact br_f (by decide) (br_f (by decide) (zbo_2_0 (br_f (by decide) h)))
theorem zkb_2_2 {post : Int32 → Prop} (h : post 0) : F_X0_kindWithBody 2 2 post := by
  refine ⟨3, ?_⟩
  rw [L_X0_kindWithBody_4]
  refine br_f (by decide) (br_f (by decide) (zbo_2_2 (br_t rfl (zab_2 (nm_r (e' := 1) (by decide) ?_)))))
  rw [L_X0_kindWithBody_4]
  refine br_f (by decide) (br_f (by decide) (zbo_2_1 (br_t rfl (zab_1 (nm_r (e' := 2) (by decide) ?_)))))
  rw [L_X0_kindWithBody_4]
  exact br_f (by decide) (br_f (by decide) (zbo_2_0 (br_f (by decide) h)))
theorem zkb_2_3 {post : Int32 → Prop} (h : post 3) : F_X0_kindWithBody 2 3 post := by
  refine ⟨1, ?_⟩
  rw [L_X0_kindWithBody_4]
  exact br_f (by decide) (br_f (by decide) (zbo_2_3 (br_f (by decide) h)))
theorem zkb_2_4 {post : Int32 → Prop} (h : post 4) : F_X0_kindWithBody 2 4 post := by
  refine ⟨1, ?_⟩
  rw [L_X0_kindWithBody_4]
  exact br_f (by decide) (br_f (by decide) (zbo_2_4 (br_f (by decide) h)))
theorem zkb_2_5 {post : Int32 → Prop} (h : post 0) : F_X0_kindWithBody 2 5 post := by
  refine ⟨4, ?_⟩
  rw [L_X0_kindWithBody_4]
  refine br_f (by decide) (br_f (by decide) (zbo_2_5 (br_t rfl (zab_5 (nm_r (e' := 1) (by decide) ?_)))))
  rw [L_X0_kindWithBody_4]
  refine br_f (by decide) (br_f (by decide) (zbo_2_2 (br_t rfl (zab_2 (nm_r (e' := 2) (by decide) ?_)))))
  rw [L_X0_kindWithBody_4]
  refine br_f (by decide) (br_f (by decide) (zbo_2_1 (br_t rfl (zab_1 (nm_r (e' := 3) (by decide) ?_)))))
  rw [L_X0_kindWithBody_4]
  exact br_f (by decide) (br_f (by decide) (zbo_2_0 (br_f (by decide) h)))
theorem zkb_2_6 {post : Int32 → Prop} (h : post 6) : F_X0_kindWithBody 2 6 post := by
  refine ⟨1, ?_⟩
  rw [L_X0_kindWithBody_4]
  exact br_f (by decide) (br_f (by decide) (zbo_2_6 (br_f (by decide) h)))
theorem zpl_0_0 {n r d : Nat} (hr : r < 100) (hd : d ≤ 30) {vk vm vs x : Int32} {f : Nat → Int32} {post : Int32 → Int32 → (Nat → Int32) → Prop} (h : post (x + vm) (nI (r + 1)) (z_mk f r 10)) : F_X0_play (n + 1) (nI r) vk vm vs f 0 0 x (nI d) post := by
  rw [F_X0_play]
  exact zkb_0_0 (br_f (by decide) (br_t (nI_le (b := 40) (by omega) (by decide)) (zbo_0_0 (zab_0 (nm_r (nI_1 d) (zc_mark hr (br_t rfl h)))))))
theorem zpl_0_1 {n r d : Nat} (hr : r < 100) (hd : d ≤ 30) {vk vm vs x : Int32} {f : Nat → Int32} {post : Int32 → Int32 → (Nat → Int32) → Prop} (h : F_X0_play n (nI (r + 1)) vk vm vs (z_mk f r 20) 0 0 x (nI (d + 1)) (fun q w0 w1 => post (q + vs) w0 w1)) : F_X0_play (n + 1) (nI r) vk vm vs f 0 1 x (nI d) post := by
  rw [F_X0_play]
  exact zkb_0_1 (br_f (by decide) (br_t (nI_le (b := 40) (by omega) (by decide)) (zbo_0_1 (zab_1 (nm_r (nI_1 d) (zc_mark hr (br_f (by decide) (br_f (by decide) (br_f (by decide) (br_t rfl h))))))))))
theorem zpl_0_2 {n r d : Nat} (hr : r < 100) (hd : d ≤ 30) {vk vm vs x : Int32} {f : Nat → Int32} {post : Int32 → Int32 → (Nat → Int32) → Prop} (h : F_X0_play n (nI (r + 1)) vk vm vs (z_mk f r 20) 0 0 x (nI (d + 1)) (fun q w0 w1 => post (q + vs) w0 w1)) : F_X0_play (n + 1) (nI r) vk vm vs f 0 2 x (nI d) post := by
  rw [F_X0_play]
  exact zkb_0_2 (br_f (by decide) (br_t (nI_le (b := 40) (by omega) (by decide)) (zbo_0_1 (zab_1 (nm_r (nI_1 d) (zc_mark hr (br_f (by decide) (br_f (by decide) (br_f (by decide) (br_t rfl h))))))))))
theorem zpl_0_3 {n r d : Nat} (hr : r < 100) (hd : d ≤ 30) {vk vm vs x : Int32} {f : Nat → Int32} {post : Int32 → Int32 → (Nat → Int32) → Prop} (h : post (x + vm) (nI (r + 1)) (z_mk f r 10)) : F_X0_play (n + 1) (nI r) vk vm vs f 0 3 x (nI d) post := by
  rw [F_X0_play]
  exact zkb_0_3 (br_f (by decide) (br_t (nI_le (b := 40) (by omega) (by decide)) (zbo_0_0 (zab_0 (nm_r (nI_1 d) (zc_mark hr (br_t rfl h)))))))
theorem zpl_0_4 {n r d : Nat} (hr : r < 100) (hd : d ≤ 30) {vk vm vs x : Int32} {f : Nat → Int32} {post : Int32 → Int32 → (Nat → Int32) → Prop} (h : F_X0_play n (nI (r + 1)) vk vm vs (z_mk f r 20) 0 0 x (nI (d + 1)) (fun q w0 w1 => post (q + vs) w0 w1)) : F_X0_play (n + 1) (nI r) vk vm vs f 0 4 x (nI d) post := by
  rw [F_X0_play]
  exact zkb_0_4 (br_f (by decide) (br_t (nI_le (b := 40) (by omega) (by decide)) (zbo_0_1 (zab_1 (nm_r (nI_1 d) (zc_mark hr (br_f (by decide) (br_f (by decide) (br_f (by decide) (br_t rfl h))))))))))
theorem zpl_0_5 {n r d : Nat} (hr : r < 100) (hd : d ≤ 30) {vk vm vs x : Int32} {f : Nat → Int32} {post : Int32 → Int32 → (Nat → Int32) → Prop} (h : F_X0_play n (nI (r + 1)) vk vm vs (z_mk f r 41) 0 2 x (nI (d + 1)) (fun q w0 w1 => post (q - vm) w0 w1)) : F_X0_play (n + 1) (nI r) vk vm vs f 0 5 x (nI d) post := by
  rw [F_X0_play]
  exact zkb_0_5 (br_f (by decide) (br_t (nI_le (b := 40) (by omega) (by decide)) (zbo_0_5 (zab_5 (nm_r (nI_1 d) (zc_mark hr (br_f (by decide) (br_f (by decide) (br_f (by decide) (br_f (by decide) (br_f (by decide) (br_f (by decide) (br_t rfl h)))))))))))))
theorem zpl_0_6 {n r d : Nat} (hr : r < 100) (hd : d ≤ 30) {vk vm vs x : Int32} {f : Nat → Int32} {post : Int32 → Int32 → (Nat → Int32) → Prop} (h : F_X0_play n (nI (r + 1)) vk vm vs (z_mk f r 70) 0 0 x (nI (d + 1)) (fun q w0 w1 => post (q * 2) w0 w1)) : F_X0_play (n + 1) (nI r) vk vm vs f 0 6 x (nI d) post := by
  rw [F_X0_play]
  exact zkb_0_6 (br_f (by decide) (br_t (nI_le (b := 40) (by omega) (by decide)) (zbo_0_6 (zab_6 (nm_r (nI_1 d) (zc_mark hr (br_f (by decide) (br_f (by decide) (br_f (by decide) (br_f (by decide) (br_f (by decide) (br_f (by decide) (br_f (by decide) (br_f (by decide) (br_f (by decide) (br_t rfl h))))))))))))))))
theorem zpl_1_0 {n r d : Nat} (hr : r < 100) (hd : d ≤ 30) {vk vm vs x : Int32} {f : Nat → Int32} {post : Int32 → Int32 → (Nat → Int32) → Prop} (h : F_X0_play n (nI (r + 1)) vk vm vs (z_mk f r 11) 0 vk x (nI (d + 1)) (fun q w0 w1 => post (q * 2) w0 w1)) : F_X0_play (n + 1) (nI r) vk vm vs f 1 0 x (nI d) post := by
  rw [F_X0_play]
  exact zkb_1_0 (br_f (by decide) (br_t (nI_le (b := 40) (by omega) (by decide)) (zbo_1_0 (zab_0 (nm_r (nI_1 d) (zc_mark hr (br_f (by decide) (br_t rfl h))))))))
theorem zpl_1_1 {n r d : Nat} (hr : r < 100) (hd : d ≤ 30) {vk vm vs x : Int32} {f : Nat → Int32} {post : Int32 → Int32 → (Nat → Int32) → Prop} (h : F_X0_play n (nI (r + 1)) vk vm vs (z_mk f r 11) 0 vk x (nI (d + 1)) (fun q w0 w1 => post (q * 2) w0 w1)) : F_X0_play (n + 1) (nI r) vk vm vs f 1 1 x (nI d) post := by
  rw [F_X0_play]
  exact zkb_1_1 (br_f (by decide) (br_t (nI_le (b := 40) (by omega) (by decide)) (zbo_1_0 (zab_0 (nm_r (nI_1 d) (zc_mark hr (br_f (by decide) (br_t rfl h))))))))
theorem zpl_1_2 {n r d : Nat} (hr : r < 100) (hd : d ≤ 30) {vk vm vs x : Int32} {f : Nat → Int32} {post : Int32 → Int32 → (Nat → Int32) → Prop} (h : F_X0_play n (nI (r + 1)) vk vm vs (z_mk f r 30) 1 1 x (nI (d + 1)) (fun q w0 w1 => post (q * 3) w0 w1)) : F_X0_play (n + 1) (nI r) vk vm vs f 1 2 x (nI d) post := by
  rw [F_X0_play]
  exact zkb_1_2 (br_f (by decide) (br_t (nI_le (b := 40) (by omega) (by decide)) (zbo_1_2 (zab_2 (nm_r (nI_1 d) (zc_mark hr (br_f (by decide) (br_f (by decide) (br_f (by decide) (br_f (by decide) (br_t rfl h)))))))))))
theorem zpl_1_3 {n r d : Nat} (hr : r < 100) (hd : d ≤ 30) {vk vm vs x : Int32} {f : Nat → Int32} {post : Int32 → Int32 → (Nat → Int32) → Prop} (h : F_X0_play n (nI (r + 1)) vk vm vs (z_mk f r 11) 0 vk x (nI (d + 1)) (fun q w0 w1 => post (q * 2) w0 w1)) : F_X0_play (n + 1) (nI r) vk vm vs f 1 3 x (nI d) post := by
  rw [F_X0_play]
  exact zkb_1_3 (br_f (by decide) (br_t (nI_le (b := 40) (by omega) (by decide)) (zbo_1_0 (zab_0 (nm_r (nI_1 d) (zc_mark hr (br_f (by decide) (br_t rfl h))))))))
theorem zpl_1_4 {n r d : Nat} (hr : r < 100) (hd : d ≤ 30) {vk vm vs x : Int32} {f : Nat → Int32} {post : Int32 → Int32 → (Nat → Int32) → Prop} (h : F_X0_play n (nI (r + 1)) vk vm vs (z_mk f r 11) 0 vk x (nI (d + 1)) (fun q w0 w1 => post (q * 2) w0 w1)) : F_X0_play (n + 1) (nI r) vk vm vs f 1 4 x (nI d) post := by
  rw [F_X0_play]
  exact zkb_1_4 (br_f (by decide) (br_t (nI_le (b := 40) (by omega) (by decide)) (zbo_1_0 (zab_0 (nm_r (nI_1 d) (zc_mark hr (br_f (by decide) (br_t rfl h))))))))
theorem zpl_1_5 {n r d : Nat} (hr : r < 100) (hd : d ≤ 30) {vk vm vs x : Int32} {f : Nat → Int32} {post : Int32 → Int32 → (Nat → Int32) → Prop} (h : F_X0_play n (nI (r + 1)) vk vm vs (z_mk f r 40) 1 2 (x + 1) (nI (d + 1)) (fun q w0 w1 => post q w0 w1)) : F_X0_play (n + 1) (nI r) vk vm vs f 1 5 x (nI d) post := by
  rw [F_X0_play]
  exact zkb_1_5 (br_f (by decide) (br_t (nI_le (b := 40) (by omega) (by decide)) (zbo_1_5 (zab_5 (nm_r (nI_1 d) (zc_mark hr (br_f (by decide) (br_f (by decide) (br_f (by decide) (br_f (by decide) (br_f (by decide) (br_t rfl h))))))))))))
theorem zpl_1_6 {n r d : Nat} (hr : r < 100) (hd : d ≤ 30) {vk vm vs x : Int32} {f : Nat → Int32} {post : Int32 → Int32 → (Nat → Int32) → Prop} (h : F_X0_play n (nI (r + 1)) vk vm vs (z_mk f r 11) 0 vk x (nI (d + 1)) (fun q w0 w1 => post (q * 2) w0 w1)) : F_X0_play (n + 1) (nI r) vk vm vs f 1 6 x (nI d) post := by
  rw [F_X0_play]
  exact zkb_1_6 (br_f (by decide) (br_t (nI_le (b := 40) (by omega) (by decide)) (zbo_1_0 (zab_0 (nm_r (nI_1 d) (zc_mark hr (br_f (by decide) (br_t rfl h))))))))
theorem zpl_2_0 {n r d : Nat} (hr : r < 100) (hd : d ≤ 30) {vk vm vs x : Int32} {f : Nat → Int32} {post : Int32 → Int32 → (Nat → Int32) → Prop} (h : F_X0_play n (nI (r + 1)) vk vm vs (z_mk f r 12) 1 vk x (nI (d + 1)) (fun q w0 w1 => F_X0_play n w0 vk vm vs w1 0 vk (x - vs) (nI (d + 1)) (fun q2 w2 w3 => post (q ^^^ q2) w2 w3))) : F_X0_play (n + 1) (nI r) vk vm vs f 2 0 x (nI d) post := by
  rw [F_X0_play]
  exact zkb_2_0 (br_f (by decide) (br_t (nI_le (b := 40) (by omega) (by decide)) (zbo_2_0 (zab_0 (nm_r (nI_1 d) (zc_mark hr (br_f (by decide) (br_f (by decide) (br_t rfl h)))))))))
theorem zpl_2_1 {n r d : Nat} (hr : r < 100) (hd : d ≤ 30) {vk vm vs x : Int32} {f : Nat → Int32} {post : Int32 → Int32 → (Nat → Int32) → Prop} (h : F_X0_play n (nI (r + 1)) vk vm vs (z_mk f r 12) 1 vk x (nI (d + 1)) (fun q w0 w1 => F_X0_play n w0 vk vm vs w1 0 vk (x - vs) (nI (d + 1)) (fun q2 w2 w3 => post (q ^^^ q2) w2 w3))) : F_X0_play (n + 1) (nI r) vk vm vs f 2 1 x (nI d) post := by
  rw [F_X0_play]
  exact zkb_2_1 (br_f (by decide) (br_t (nI_le (b := 40) (by omega) (by decide)) (zbo_2_0 (zab_0 (nm_r (nI_1 d) (zc_mark hr (br_f (by decide) (br_f (by decide) (br_t rfl h)))))))))
theorem zpl_2_2 {n r d : Nat} (hr : r < 100) (hd : d ≤ 30) {vk vm vs x : Int32} {f : Nat → Int32} {post : Int32 → Int32 → (Nat → Int32) → Prop} (h : F_X0_play n (nI (r + 1)) vk vm vs (z_mk f r 12) 1 vk x (nI (d + 1)) (fun q w0 w1 => F_X0_play n w0 vk vm vs w1 0 vk (x - vs) (nI (d + 1)) (fun q2 w2 w3 => post (q ^^^ q2) w2 w3))) : F_X0_play (n + 1) (nI r) vk vm vs f 2 2 x (nI d) post := by
  rw [F_X0_play]
  exact zkb_2_2 (br_f (by decide) (br_t (nI_le (b := 40) (by omega) (by decide)) (zbo_2_0 (zab_0 (nm_r (nI_1 d) (zc_mark hr (br_f (by decide) (br_f (by decide) (br_t rfl h)))))))))
theorem zpl_2_3 {n r d : Nat} (hr : r < 100) (hd : d ≤ 30) {vk vm vs x : Int32} {f : Nat → Int32} {post : Int32 → Int32 → (Nat → Int32) → Prop} (h : F_X0_play n (nI (r + 1)) vk vm vs (z_mk f r 60) 2 0 x (nI (d + 1)) (fun q w0 w1 => post (q ^^^ 5) w0 w1)) : F_X0_play (n + 1) (nI r) vk vm vs f 2 3 x (nI d) post := by
  rw [F_X0_play]
  exact zkb_2_3 (br_f (by decide) (br_t (nI_le (b := 40) (by omega) (by decide)) (zbo_2_3 (zab_3 (nm_r (nI_1 d) (zc_mark hr (br_f (by decide) (br_f (by decide) (br_f (by decide) (br_f (by decide) (br_f (by decide) (br_f (by decide) (br_f (by decide) (br_f (by decide) (br_t rfl h)))))))))))))))
theorem zpl_2_4 {n r d : Nat} (hr : r < 100) (hd : d ≤ 30) {vk vm vs x : Int32} {f : Nat → Int32} {post : Int32 → Int32 → (Nat → Int32) → Prop} (h : F_X0_play n (nI (r + 1)) vk vm vs (z_mk f r 50) 2 1 x (nI (d + 1)) (fun q w0 w1 => post (-q) w0 w1)) : F_X0_play (n + 1) (nI r) vk vm vs f 2 4 x (nI d) post := by
  rw [F_X0_play]
  exact zkb_2_4 (br_f (by decide) (br_t (nI_le (b := 40) (by omega) (by decide)) (zbo_2_4 (zab_4 (nm_r (nI_1 d) (zc_mark hr (br_f (by decide) (br_f (by decide) (br_f (by decide) (br_f (by decide) (br_f (by decide) (br_f (by decide) (br_f (by decide) (br_t rfl h))))))))))))))
theorem zpl_2_5 {n r d : Nat} (hr : r < 100) (hd : d ≤ 30) {vk vm vs x : Int32} {f : Nat → Int32} {post : Int32 → Int32 → (Nat → Int32) → Prop} (h : F_X0_play n (nI (r + 1)) vk vm vs (z_mk f r 12) 1 vk x (nI (d + 1)) (fun q w0 w1 => F_X0_play n w0 vk vm vs w1 0 vk (x - vs) (nI (d + 1)) (fun q2 w2 w3 => post (q ^^^ q2) w2 w3))) : F_X0_play (n + 1) (nI r) vk vm vs f 2 5 x (nI d) post := by
  rw [F_X0_play]
  exact zkb_2_5 (br_f (by decide) (br_t (nI_le (b := 40) (by omega) (by decide)) (zbo_2_0 (zab_0 (nm_r (nI_1 d) (zc_mark hr (br_f (by decide) (br_f (by decide) (br_t rfl h)))))))))
theorem zpl_2_6 {n r d : Nat} (hr : r < 100) (hd : d ≤ 30) {vk vm vs x : Int32} {f : Nat → Int32} {post : Int32 → Int32 → (Nat → Int32) → Prop} (h : F_X0_play n (nI (r + 1)) vk vm vs (z_mk f r 71) 2 0 (x - vs) (nI (d + 1)) (fun q w0 w1 => post q w0 w1)) : F_X0_play (n + 1) (nI r) vk vm vs f 2 6 x (nI d) post := by
  rw [F_X0_play]
  exact zkb_2_6 (br_f (by decide) (br_t (nI_le (b := 40) (by omega) (by decide)) (zbo_2_6 (zab_6 (nm_r (nI_1 d) (zc_mark hr (br_f (by decide) (br_f (by decide) (br_f (by decide) (br_f (by decide) (br_f (by decide) (br_f (by decide) (br_f (by decide) (br_f (by decide) (br_f (by decide) (br_f (by decide) (br_t rfl h)))))))))))))))))
theorem zhm_0 {n r d : Nat} (hr : r < 50) (hd : d ≤ 20) {vk vm vs x : Int32} {f : Nat → Int32} {post : Int32 → Int32 → (Nat → Int32) → Prop} (h : post (x + vm) (nI (r + 1)) (z_mk f r 10)) : F_X0_play (n + 1) (nI r) vk vm vs f 0 0 x (nI d) post := zpl_0_0 (by omega) (by omega) (h)
theorem zhm_1 {n r d : Nat} (hr : r < 50) (hd : d ≤ 20) {vk vm vs x : Int32} {f : Nat → Int32} {post : Int32 → Int32 → (Nat → Int32) → Prop} (h : post (x + vm + vs) (nI (r + 2)) (z_mk (z_mk f r 20) (r + 1) 10)) : F_X0_play (n + 2) (nI r) vk vm vs f 0 1 x (nI d) post := zpl_0_1 (by omega) (by omega) (zpl_0_0 (by omega) (by omega) (h))
theorem zhm_2 {n r d : Nat} (hr : r < 50) (hd : d ≤ 20) {vk vm vs x : Int32} {f : Nat → Int32} {post : Int32 → Int32 → (Nat → Int32) → Prop} (h : post (x + vm + vs) (nI (r + 2)) (z_mk (z_mk f r 20) (r + 1) 10)) : F_X0_play (n + 2) (nI r) vk vm vs f 0 2 x (nI d) post := zpl_0_2 (by omega) (by omega) (zpl_0_0 (by omega) (by omega) (h))
theorem zhm_3 {n r d : Nat} (hr : r < 50) (hd : d ≤ 20) {vk vm vs x : Int32} {f : Nat → Int32} {post : Int32 → Int32 → (Nat → Int32) → Prop} (h : post (x + vm) (nI (r + 1)) (z_mk f r 10)) : F_X0_play (n + 1) (nI r) vk vm vs f 0 3 x (nI d) post := zpl_0_3 (by omega) (by omega) (h)
theorem zhm_4 {n r d : Nat} (hr : r < 50) (hd : d ≤ 20) {vk vm vs x : Int32} {f : Nat → Int32} {post : Int32 → Int32 → (Nat → Int32) → Prop} (h : post (x + vm + vs) (nI (r + 2)) (z_mk (z_mk f r 20) (r + 1) 10)) : F_X0_play (n + 2) (nI r) vk vm vs f 0 4 x (nI d) post := zpl_0_4 (by omega) (by omega) (zpl_0_0 (by omega) (by omega) (h))
theorem zhm_5 {n r d : Nat} (hr : r < 50) (hd : d ≤ 20) {vk vm vs x : Int32} {f : Nat → Int32} {post : Int32 → Int32 → (Nat → Int32) → Prop} (h : post (x + vm + vs - vm) (nI (r + 3)) (z_mk (z_mk (z_mk f r 41) (r + 1) 20) (r + 2) 10)) : F_X0_play (n + 3) (nI r) vk vm vs f 0 5 x (nI d) post := zpl_0_5 (by omega) (by omega) (zpl_0_2 (by omega) (by omega) (zpl_0_0 (by omega) (by omega) (h)))
theorem zhm_6 {n r d : Nat} (hr : r < 50) (hd : d ≤ 20) {vk vm vs x : Int32} {f : Nat → Int32} {post : Int32 → Int32 → (Nat → Int32) → Prop} (h : post ((x + vm) * 2) (nI (r + 2)) (z_mk (z_mk f r 70) (r + 1) 10)) : F_X0_play (n + 2) (nI r) vk vm vs f 0 6 x (nI d) post := zpl_0_6 (by omega) (by omega) (zpl_0_0 (by omega) (by omega) (h))
theorem zls_0 {n r d : Nat} (hr : r < 30) (hd : d ≤ 10) {vm vs x : Int32} {f : Nat → Int32} {post : Int32 → Int32 → (Nat → Int32) → Prop} (h : post ((x + vm) * 2) (nI (r + 2)) (z_mk (z_mk f r 11) (r + 1) 10)) : F_X0_play (n + 2) (nI r) 0 vm vs f 1 0 x (nI d) post := zpl_1_0 (by omega) (by omega) (zhm_0 (by omega) (by omega) h)
theorem zls_1 {n r d : Nat} (hr : r < 30) (hd : d ≤ 10) {vm vs x : Int32} {f : Nat → Int32} {post : Int32 → Int32 → (Nat → Int32) → Prop} (h : post ((x + vm + vs) * 2) (nI (r + 3)) (z_mk (z_mk (z_mk f r 11) (r + 1) 20) (r + 2) 10)) : F_X0_play (n + 3) (nI r) 1 vm vs f 1 1 x (nI d) post := zpl_1_1 (by omega) (by omega) (zhm_1 (by omega) (by omega) h)
theorem zls_2 {n r d : Nat} (hr : r < 30) (hd : d ≤ 10) {vm vs x : Int32} {f : Nat → Int32} {post : Int32 → Int32 → (Nat → Int32) → Prop} (h : post (((x + vm + vs) * 2) * 3) (nI (r + 4)) (z_mk (z_mk (z_mk (z_mk f r 30) (r + 1) 11) (r + 2) 20) (r + 3) 10)) : F_X0_play (n + 4) (nI r) 2 vm vs f 1 2 x (nI d) post := zpl_1_2 (by omega) (by omega) (zpl_1_1 (by omega) (by omega) (zhm_2 (by omega) (by omega) h))
theorem zls_3 {n r d : Nat} (hr : r < 30) (hd : d ≤ 10) {vm vs x : Int32} {f : Nat → Int32} {post : Int32 → Int32 → (Nat → Int32) → Prop} (h : post ((x + vm) * 2) (nI (r + 2)) (z_mk (z_mk f r 11) (r + 1) 10)) : F_X0_play (n + 2) (nI r) 3 vm vs f 1 3 x (nI d) post := zpl_1_3 (by omega) (by omega) (zhm_3 (by omega) (by omega) h)
theorem zls_4 {n r d : Nat} (hr : r < 30) (hd : d ≤ 10) {vm vs x : Int32} {f : Nat → Int32} {post : Int32 → Int32 → (Nat → Int32) → Prop} (h : post ((x + vm + vs) * 2) (nI (r + 3)) (z_mk (z_mk (z_mk f r 11) (r + 1) 20) (r + 2) 10)) : F_X0_play (n + 3) (nI r) 4 vm vs f 1 4 x (nI d) post := zpl_1_4 (by omega) (by omega) (zhm_4 (by omega) (by omega) h)
theorem zls_5 {n r d : Nat} (hr : r < 30) (hd : d ≤ 10) {vm vs x : Int32} {f : Nat → Int32} {post : Int32 → Int32 → (Nat → Int32) → Prop} (h : post ((((x + 1) + vm + vs - vm) * 2) * 3) (nI (r + 6)) (z_mk (z_mk (z_mk (z_mk (z_mk (z_mk f r 40) (r + 1) 30) (r + 2) 11) (r + 3) 41) (r + 4) 20) (r + 5) 10)) : F_X0_play (n + 6) (nI r) 5 vm vs f 1 5 x (nI d) post := zpl_1_5 (by omega) (by omega) (zpl_1_2 (by omega) (by omega) (zpl_1_1 (by omega) (by omega) (zhm_5 (by omega) (by omega) h)))
theorem zls_6 {n r d : Nat} (hr : r < 30) (hd : d ≤ 10) {vm vs x : Int32} {f : Nat → Int32} {post : Int32 → Int32 → (Nat → Int32) → Prop} (h : post (((x + vm) * 2) * 2) (nI (r + 3)) (z_mk (z_mk (z_mk f r 11) (r + 1) 70) (r + 2) 10)) : F_X0_play (n + 3) (nI r) 6 vm vs f 1 6 x (nI d) post := zpl_1_6 (by omega) (by omega) (zhm_6 (by omega) (by omega) h)
theorem zwr_0 {n r d : Nat} (hr : r < 20) (hd : d ≤ 5) {vm vs x : Int32} {f : Nat → Int32} {post : Int32 → Int32 → (Nat → Int32) → Prop} (h : post (((x + vm) * 2) ^^^ ((x - vs) + vm)) (nI (r + 4)) (z_mk (z_mk (z_mk (z_mk f r 12) (r + 1) 11) (r + 2) 10) (r + 3) 10)) : F_X0_play (n + 3) (nI r) 0 vm vs f 2 0 x (nI d) post := zpl_2_0 (by omega) (by omega) (zls_0 (n := n) (by omega) (by omega) (zhm_0 (n := n + 1) (by omega) (by omega) h))
theorem zwr_1 {n r d : Nat} (hr : r < 20) (hd : d ≤ 5) {vm vs x : Int32} {f : Nat → Int32} {post : Int32 → Int32 → (Nat → Int32) → Prop} (h : post (((x + vm + vs) * 2) ^^^ ((x - vs) + vm + vs)) (nI (r + 6)) (z_mk (z_mk (z_mk (z_mk (z_mk (z_mk f r 12) (r + 1) 11) (r + 2) 20) (r + 3) 10) (r + 4) 20) (r + 5) 10)) : F_X0_play (n + 4) (nI r) 1 vm vs f 2 1 x (nI d) post := zpl_2_1 (by omega) (by omega) (zls_1 (n := n) (by omega) (by omega) (zhm_1 (n := n + 1) (by omega) (by omega) h))
theorem zwr_2 {n r d : Nat} (hr : r < 20) (hd : d ≤ 5) {vm vs x : Int32} {f : Nat → Int32} {post : Int32 → Int32 → (Nat → Int32) → Prop} (h : post ((((x + vm + vs) * 2) * 3) ^^^ ((x - vs) + vm + vs)) (nI (r + 7)) (z_mk (z_mk (z_mk (z_mk (z_mk (z_mk (z_mk f r 12) (r + 1) 30) (r + 2) 11) (r + 3) 20) (r + 4) 10) (r + 5) 20) (r + 6) 10)) : F_X0_play (n + 5) (nI r) 2 vm vs f 2 2 x (nI d) post := zpl_2_2 (by omega) (by omega) (zls_2 (n := n) (by omega) (by omega) (zhm_2 (n := n + 2) (by omega) (by omega) h))
theorem zwr_3 {n r d : Nat} (hr : r < 20) (hd : d ≤ 5) {vm vs x : Int32} {f : Nat → Int32} {post : Int32 → Int32 → (Nat → Int32) → Prop} (h : post ((((x + vm) * 2) ^^^ ((x - vs) + vm)) ^^^ 5) (nI (r + 5)) (z_mk (z_mk (z_mk (z_mk (z_mk f r 60) (r + 1) 12) (r + 2) 11) (r + 3) 10) (r + 4) 10)) : F_X0_play (n + 4) (nI r) 3 vm vs f 2 3 x (nI d) post := zpl_2_3 (by omega) (by omega) (zpl_2_0 (by omega) (by omega) (zls_3 (n := n) (by omega) (by omega) (zhm_3 (n := n + 1) (by omega) (by omega) h)))
theorem zwr_4 {n r d : Nat} (hr : r < 20) (hd : d ≤ 5) {vm vs x : Int32} {f : Nat → Int32} {post : Int32 → Int32 → (Nat → Int32) → Prop} (h : post (-(((x + vm + vs) * 2) ^^^ ((x - vs) + vm + vs))) (nI (r + 7)) (z_mk (z_mk (z_mk (z_mk (z_mk (z_mk (z_mk f r 50) (r + 1) 12) (r + 2) 11) (r + 3) 20) (r + 4) 10) (r + 5) 20) (r + 6) 10)) : F_X0_play (n + 5) (nI r) 4 vm vs f 2 4 x (nI d) post := zpl_2_4 (by omega) (by omega) (zpl_2_1 (by omega) (by omega) (zls_4 (n := n) (by omega) (by omega) (zhm_4 (n := n + 1) (by omega) (by omega) h)))
theorem zwr_5 {n r d : Nat} (hr : r < 20) (hd : d ≤ 5) {vm vs x : Int32} {f : Nat → Int32} {post : Int32 → Int32 → (Nat → Int32) → Prop} (h : post (((((x + 1) + vm + vs - vm) * 2) * 3) ^^^ ((x - vs) + vm + vs - vm)) (nI (r + 10)) (z_mk (z_mk (z_mk (z_mk (z_mk (z_mk (z_mk (z_mk (z_mk (z_mk f r 12) (r + 1) 40) (r + 2) 30) (r + 3) 11) (r + 4) 41) (r + 5) 20) (r + 6) 10) (r + 7) 41) (r + 8) 20) (r + 9) 10)) : F_X0_play (n + 7) (nI r) 5 vm vs f 2 5 x (nI d) post := zpl_2_5 (by omega) (by omega) (zls_5 (n := n) (by omega) (by omega) (zhm_5 (n := n + 3) (by omega) (by omega) h))
theorem zwr_6 {n r d : Nat} (hr : r < 20) (hd : d ≤ 5) {vm vs x : Int32} {f : Nat → Int32} {post : Int32 → Int32 → (Nat → Int32) → Prop} (h : post (((((x - vs) + vm) * 2) * 2) ^^^ ((((x - vs) - vs) + vm) * 2)) (nI (r + 7)) (z_mk (z_mk (z_mk (z_mk (z_mk (z_mk (z_mk f r 71) (r + 1) 12) (r + 2) 11) (r + 3) 70) (r + 4) 10) (r + 5) 70) (r + 6) 10)) : F_X0_play (n + 5) (nI r) 6 vm vs f 2 6 x (nI d) post := zpl_2_6 (by omega) (by omega) (zpl_2_0 (by omega) (by omega) (zls_6 (n := n) (by omega) (by omega) (zhm_6 (n := n + 1) (by omega) (by omega) h)))
theorem zmh_0 {i r : Nat} (hi : i < 16) (hr : r < 50) {x : Int32} {kd sp f : Nat → Int32} (hk : kd i = 0) {post : Int32 → Int32 → (Nat → Int32) → Prop} (h : post (x + nI i) (nI (r + 1)) (z_mk f r 10)) : F_X10_humming (nI r) kd sp f (nI i) x post := by
  unfold F_X10_humming F_X10_humming_18 F_X10_humming_32 F_X10_humming_44 F_X10_humming_74
  rw [nI_clamp (by omega), hk]
  exact ⟨vp_in_nI (by omega) (by decide), nm_e (br_f (by decide) (br_f (by decide) (br_f (by decide) (br_f (by decide) (br_f (by decide) (z_b0 (br_f (by decide) (zm_body (by omega) (nm_e (br_f (by decide) (br_f (by decide) (br_f (by decide) (br_f (by decide) (z_b0 (br_f (by decide) (br_f (by decide) (h)))))))))))))))))⟩
theorem zmh_1 {i r : Nat} (hi : i < 16) (hr : r < 50) {x : Int32} {kd sp f : Nat → Int32} (hk : kd i = 1) {post : Int32 → Int32 → (Nat → Int32) → Prop} (h : post (x + nI i + sp i) (nI (r + 2)) (z_mk (z_mk f r 20) (r + 1) 10)) : F_X10_humming (nI r) kd sp f (nI i) x post := by
  unfold F_X10_humming F_X10_humming_18 F_X10_humming_32 F_X10_humming_44 F_X10_humming_74
  rw [nI_clamp (by omega), hk]
  exact ⟨vp_in_nI (by omega) (by decide), nm_e (br_f (by decide) (br_t rfl (z_b1 (zm_body (by omega) (br_f (by decide) (zm_body (by omega) (nm_e (br_t rfl (z_b1 (⟨vp_in_nI (by omega) (by decide), nm_e (br_f (by decide) (br_f (by decide) (h)))⟩))))))))))⟩
theorem zmh_2 {i r : Nat} (hi : i < 16) (hr : r < 50) {x : Int32} {kd sp f : Nat → Int32} (hk : kd i = 2) {post : Int32 → Int32 → (Nat → Int32) → Prop} (h : post (x + nI i + sp i) (nI (r + 2)) (z_mk (z_mk f r 20) (r + 1) 10)) : F_X10_humming (nI r) kd sp f (nI i) x post := by
  unfold F_X10_humming F_X10_humming_18 F_X10_humming_32 F_X10_humming_44 F_X10_humming_74
  rw [nI_clamp (by omega), hk]
  exact ⟨vp_in_nI (by omega) (by decide), nm_e (br_f (by decide) (br_f (by decide) (br_t rfl (z_b1 (zm_body (by omega) (br_f (by decide) (zm_body (by omega) (nm_e (br_f (by decide) (br_t rfl (z_b1 (⟨vp_in_nI (by omega) (by decide), nm_e (br_f (by decide) (br_f (by decide) (h)))⟩))))))))))))⟩
theorem zmh_3 {i r : Nat} (hi : i < 16) (hr : r < 50) {x : Int32} {kd sp f : Nat → Int32} (hk : kd i = 3) {post : Int32 → Int32 → (Nat → Int32) → Prop} (h : post (x + nI i) (nI (r + 1)) (z_mk f r 10)) : F_X10_humming (nI r) kd sp f (nI i) x post := by
  unfold F_X10_humming F_X10_humming_18 F_X10_humming_32 F_X10_humming_44 F_X10_humming_74
  rw [nI_clamp (by omega), hk]
  exact ⟨vp_in_nI (by omega) (by decide), nm_e (br_f (by decide) (br_f (by decide) (br_f (by decide) (br_f (by decide) (br_f (by decide) (z_b0 (br_f (by decide) (zm_body (by omega) (nm_e (br_f (by decide) (br_f (by decide) (br_f (by decide) (br_f (by decide) (z_b0 (br_f (by decide) (br_f (by decide) (h)))))))))))))))))⟩
theorem zmh_4 {i r : Nat} (hi : i < 16) (hr : r < 50) {x : Int32} {kd sp f : Nat → Int32} (hk : kd i = 4) {post : Int32 → Int32 → (Nat → Int32) → Prop} (h : post (x + nI i + sp i) (nI (r + 2)) (z_mk (z_mk f r 20) (r + 1) 10)) : F_X10_humming (nI r) kd sp f (nI i) x post := by
  unfold F_X10_humming F_X10_humming_18 F_X10_humming_32 F_X10_humming_44 F_X10_humming_74
  rw [nI_clamp (by omega), hk]
  exact ⟨vp_in_nI (by omega) (by decide), nm_e (br_f (by decide) (br_f (by decide) (br_f (by decide) (br_t rfl (z_b1 (zm_body (by omega) (br_f (by decide) (zm_body (by omega) (nm_e (br_f (by decide) (br_f (by decide) (br_t rfl (z_b1 (⟨vp_in_nI (by omega) (by decide), nm_e (br_f (by decide) (br_f (by decide) (h)))⟩))))))))))))))⟩
theorem zmh_5 {i r : Nat} (hi : i < 16) (hr : r < 50) {x : Int32} {kd sp f : Nat → Int32} (hk : kd i = 5) {post : Int32 → Int32 → (Nat → Int32) → Prop} (h : post (x + nI i + sp i - nI i) (nI (r + 3)) (z_mk (z_mk (z_mk f r 41) (r + 1) 20) (r + 2) 10)) : F_X10_humming (nI r) kd sp f (nI i) x post := by
  unfold F_X10_humming F_X10_humming_18 F_X10_humming_32 F_X10_humming_44 F_X10_humming_74
  rw [nI_clamp (by omega), hk]
  exact ⟨vp_in_nI (by omega) (by decide), nm_e (br_t rfl (zm_body (by omega) (br_f (by decide) (br_f (by decide) (br_f (by decide) (br_t rfl (z_b1 (zm_body (by omega) (br_f (by decide) (zm_body (by omega) (nm_e (br_f (by decide) (br_f (by decide) (br_f (by decide) (br_t rfl (z_b1 (⟨vp_in_nI (by omega) (by decide), nm_e (br_t rfl (h))⟩)))))))))))))))))⟩
theorem zmh_6 {i r : Nat} (hi : i < 16) (hr : r < 50) {x : Int32} {kd sp f : Nat → Int32} (hk : kd i = 6) {post : Int32 → Int32 → (Nat → Int32) → Prop} (h : post ((x + nI i) * 2) (nI (r + 2)) (z_mk (z_mk f r 70) (r + 1) 10)) : F_X10_humming (nI r) kd sp f (nI i) x post := by
  unfold F_X10_humming F_X10_humming_18 F_X10_humming_32 F_X10_humming_44 F_X10_humming_74
  rw [nI_clamp (by omega), hk]
  exact ⟨vp_in_nI (by omega) (by decide), nm_e (br_f (by decide) (br_f (by decide) (br_f (by decide) (br_f (by decide) (br_f (by decide) (z_b0 (br_t rfl (zm_body (by omega) (zm_body (by omega) (nm_e (br_f (by decide) (br_f (by decide) (br_f (by decide) (br_f (by decide) (z_b0 (br_f (by decide) (br_t rfl (h))))))))))))))))))⟩
theorem zml_0 {i r : Nat} (hi : i < 16) (hr : r < 30) {x : Int32} {kd sp f : Nat → Int32} (hk : kd i = 0) {post : Int32 → Int32 → (Nat → Int32) → Prop} (h : post ((x + nI i) * 2) (nI (r + 2)) (z_mk (z_mk f r 11) (r + 1) 10)) : F_X10_lasting (nI r) kd sp f (nI i) x post := by
  unfold F_X10_lasting F_X10_lasting_26 F_X10_lasting_40
  rw [nI_clamp (by omega), hk]
  exact ⟨vp_in_nI (by omega) (by decide), nm_e (br_f (by decide) (br_f (by decide) (br_f (by decide) (z_b0 (zm_body (by omega) (zmh_0 hi (by omega) hk (nm_e (br_f (by decide) (br_f (by decide) (z_b0 (h)))))))))))⟩
theorem zml_1 {i r : Nat} (hi : i < 16) (hr : r < 30) {x : Int32} {kd sp f : Nat → Int32} (hk : kd i = 1) {post : Int32 → Int32 → (Nat → Int32) → Prop} (h : post ((x + nI i + sp i) * 2) (nI (r + 3)) (z_mk (z_mk (z_mk f r 11) (r + 1) 20) (r + 2) 10)) : F_X10_lasting (nI r) kd sp f (nI i) x post := by
  unfold F_X10_lasting F_X10_lasting_26 F_X10_lasting_40
  rw [nI_clamp (by omega), hk]
  exact ⟨vp_in_nI (by omega) (by decide), nm_e (br_f (by decide) (br_f (by decide) (br_f (by decide) (z_b0 (zm_body (by omega) (zmh_1 hi (by omega) hk (nm_e (br_f (by decide) (br_f (by decide) (z_b0 (h)))))))))))⟩
theorem zml_2 {i r : Nat} (hi : i < 16) (hr : r < 30) {x : Int32} {kd sp f : Nat → Int32} (hk : kd i = 2) {post : Int32 → Int32 → (Nat → Int32) → Prop} (h : post (((x + nI i + sp i) * 2) * 3) (nI (r + 4)) (z_mk (z_mk (z_mk (z_mk f r 30) (r + 1) 11) (r + 2) 20) (r + 3) 10)) : F_X10_lasting (nI r) kd sp f (nI i) x post := by
  unfold F_X10_lasting F_X10_lasting_26 F_X10_lasting_40
  rw [nI_clamp (by omega), hk]
  exact ⟨vp_in_nI (by omega) (by decide), nm_e (br_f (by decide) (br_t rfl (z_b1 (zm_body (by omega) (zm_body (by omega) (zmh_2 hi (by omega) hk (nm_e (br_t rfl (z_b1 (h))))))))))⟩
theorem zml_3 {i r : Nat} (hi : i < 16) (hr : r < 30) {x : Int32} {kd sp f : Nat → Int32} (hk : kd i = 3) {post : Int32 → Int32 → (Nat → Int32) → Prop} (h : post ((x + nI i) * 2) (nI (r + 2)) (z_mk (z_mk f r 11) (r + 1) 10)) : F_X10_lasting (nI r) kd sp f (nI i) x post := by
  unfold F_X10_lasting F_X10_lasting_26 F_X10_lasting_40
  rw [nI_clamp (by omega), hk]
  exact ⟨vp_in_nI (by omega) (by decide), nm_e (br_f (by decide) (br_f (by decide) (br_f (by decide) (z_b0 (zm_body (by omega) (zmh_3 hi (by omega) hk (nm_e (br_f (by decide) (br_f (by decide) (z_b0 (h)))))))))))⟩
theorem zml_4 {i r : Nat} (hi : i < 16) (hr : r < 30) {x : Int32} {kd sp f : Nat → Int32} (hk : kd i = 4) {post : Int32 → Int32 → (Nat → Int32) → Prop} (h : post ((x + nI i + sp i) * 2) (nI (r + 3)) (z_mk (z_mk (z_mk f r 11) (r + 1) 20) (r + 2) 10)) : F_X10_lasting (nI r) kd sp f (nI i) x post := by
  unfold F_X10_lasting F_X10_lasting_26 F_X10_lasting_40
  rw [nI_clamp (by omega), hk]
  exact ⟨vp_in_nI (by omega) (by decide), nm_e (br_f (by decide) (br_f (by decide) (br_f (by decide) (z_b0 (zm_body (by omega) (zmh_4 hi (by omega) hk (nm_e (br_f (by decide) (br_f (by decide) (z_b0 (h)))))))))))⟩
theorem zml_5 {i r : Nat} (hi : i < 16) (hr : r < 30) {x : Int32} {kd sp f : Nat → Int32} (hk : kd i = 5) {post : Int32 → Int32 → (Nat → Int32) → Prop} (h : post ((((x + 1) + nI i + sp i - nI i) * 2) * 3) (nI (r + 6)) (z_mk (z_mk (z_mk (z_mk (z_mk (z_mk f r 40) (r + 1) 30) (r + 2) 11) (r + 3) 41) (r + 4) 20) (r + 5) 10)) : F_X10_lasting (nI r) kd sp f (nI i) x post := by
  unfold F_X10_lasting F_X10_lasting_26 F_X10_lasting_40
  rw [nI_clamp (by omega), hk]
  exact ⟨vp_in_nI (by omega) (by decide), nm_e (br_t rfl (zm_body (by omega) (nm_e (br_f (by decide) (br_t rfl (z_b1 (zm_body (by omega) (zm_body (by omega) (zmh_5 hi (by omega) hk (nm_e (br_f (by decide) (br_t rfl (z_b1 (h))))))))))))))⟩
theorem zml_6 {i r : Nat} (hi : i < 16) (hr : r < 30) {x : Int32} {kd sp f : Nat → Int32} (hk : kd i = 6) {post : Int32 → Int32 → (Nat → Int32) → Prop} (h : post (((x + nI i) * 2) * 2) (nI (r + 3)) (z_mk (z_mk (z_mk f r 11) (r + 1) 70) (r + 2) 10)) : F_X10_lasting (nI r) kd sp f (nI i) x post := by
  unfold F_X10_lasting F_X10_lasting_26 F_X10_lasting_40
  rw [nI_clamp (by omega), hk]
  exact ⟨vp_in_nI (by omega) (by decide), nm_e (br_f (by decide) (br_f (by decide) (br_f (by decide) (z_b0 (zm_body (by omega) (zmh_6 hi (by omega) hk (nm_e (br_f (by decide) (br_f (by decide) (z_b0 (h)))))))))))⟩
theorem zmw_0 {i r : Nat} (hi : i < 16) (hr : r < 20) {x : Int32} {kd sp f : Nat → Int32} (hk : kd i = 0) {post : Int32 → Int32 → (Nat → Int32) → Prop} (h : post (((x + nI i) * 2) ^^^ ((x - sp i) + nI i)) (nI (r + 4)) (z_mk (z_mk (z_mk (z_mk f r 12) (r + 1) 11) (r + 2) 10) (r + 3) 10)) : F_X10_wearing (nI r) kd sp f (nI i) x post := by
  unfold F_X10_wearing F_X10_wearing_21 F_X10_wearing_32 F_X10_wearing_54
  rw [nI_clamp (by omega), hk]
  exact ⟨vp_in_nI (by omega) (by decide), nm_e (br_f (by decide) (br_f (by decide) (br_f (by decide) (zm_body (by omega) (zml_0 hi (by omega) hk (⟨vp_in_nI (by omega) (by decide), zmh_0 hi (by omega) hk (nm_e (br_f (by decide) (br_f (by decide) (h))))⟩))))))⟩
theorem zmw_1 {i r : Nat} (hi : i < 16) (hr : r < 20) {x : Int32} {kd sp f : Nat → Int32} (hk : kd i = 1) {post : Int32 → Int32 → (Nat → Int32) → Prop} (h : post (((x + nI i + sp i) * 2) ^^^ ((x - sp i) + nI i + sp i)) (nI (r + 6)) (z_mk (z_mk (z_mk (z_mk (z_mk (z_mk f r 12) (r + 1) 11) (r + 2) 20) (r + 3) 10) (r + 4) 20) (r + 5) 10)) : F_X10_wearing (nI r) kd sp f (nI i) x post := by
  unfold F_X10_wearing F_X10_wearing_21 F_X10_wearing_32 F_X10_wearing_54
  rw [nI_clamp (by omega), hk]
  exact ⟨vp_in_nI (by omega) (by decide), nm_e (br_f (by decide) (br_f (by decide) (br_f (by decide) (zm_body (by omega) (zml_1 hi (by omega) hk (⟨vp_in_nI (by omega) (by decide), zmh_1 hi (by omega) hk (nm_e (br_f (by decide) (br_f (by decide) (h))))⟩))))))⟩
theorem zmw_2 {i r : Nat} (hi : i < 16) (hr : r < 20) {x : Int32} {kd sp f : Nat → Int32} (hk : kd i = 2) {post : Int32 → Int32 → (Nat → Int32) → Prop} (h : post ((((x + nI i + sp i) * 2) * 3) ^^^ ((x - sp i) + nI i + sp i)) (nI (r + 7)) (z_mk (z_mk (z_mk (z_mk (z_mk (z_mk (z_mk f r 12) (r + 1) 30) (r + 2) 11) (r + 3) 20) (r + 4) 10) (r + 5) 20) (r + 6) 10)) : F_X10_wearing (nI r) kd sp f (nI i) x post := by
  unfold F_X10_wearing F_X10_wearing_21 F_X10_wearing_32 F_X10_wearing_54
  rw [nI_clamp (by omega), hk]
  exact ⟨vp_in_nI (by omega) (by decide), nm_e (br_f (by decide) (br_f (by decide) (br_f (by decide) (zm_body (by omega) (zml_2 hi (by omega) hk (⟨vp_in_nI (by omega) (by decide), zmh_2 hi (by omega) hk (nm_e (br_f (by decide) (br_f (by decide) (h))))⟩))))))⟩
theorem zmw_3 {i r : Nat} (hi : i < 16) (hr : r < 20) {x : Int32} {kd sp f : Nat → Int32} (hk : kd i = 3) {post : Int32 → Int32 → (Nat → Int32) → Prop} (h : post ((((x + nI i) * 2) ^^^ ((x - sp i) + nI i)) ^^^ 5) (nI (r + 5)) (z_mk (z_mk (z_mk (z_mk (z_mk f r 60) (r + 1) 12) (r + 2) 11) (r + 3) 10) (r + 4) 10)) : F_X10_wearing (nI r) kd sp f (nI i) x post := by
  unfold F_X10_wearing F_X10_wearing_21 F_X10_wearing_32 F_X10_wearing_54
  rw [nI_clamp (by omega), hk]
  exact ⟨vp_in_nI (by omega) (by decide), nm_e (br_f (by decide) (br_t rfl (zm_body (by omega) (br_f (by decide) (zm_body (by omega) (zml_3 hi (by omega) hk (⟨vp_in_nI (by omega) (by decide), zmh_3 hi (by omega) hk (nm_e (br_f (by decide) (br_t rfl (h))))⟩)))))))⟩
theorem zmw_4 {i r : Nat} (hi : i < 16) (hr : r < 20) {x : Int32} {kd sp f : Nat → Int32} (hk : kd i = 4) {post : Int32 → Int32 → (Nat → Int32) → Prop} (h : post (-(((x + nI i + sp i) * 2) ^^^ ((x - sp i) + nI i + sp i))) (nI (r + 7)) (z_mk (z_mk (z_mk (z_mk (z_mk (z_mk (z_mk f r 50) (r + 1) 12) (r + 2) 11) (r + 3) 20) (r + 4) 10) (r + 5) 20) (r + 6) 10)) : F_X10_wearing (nI r) kd sp f (nI i) x post := by
  unfold F_X10_wearing F_X10_wearing_21 F_X10_wearing_32 F_X10_wearing_54
  rw [nI_clamp (by omega), hk]
  exact ⟨vp_in_nI (by omega) (by decide), nm_e (br_t rfl (zm_body (by omega) (br_f (by decide) (br_f (by decide) (zm_body (by omega) (zml_4 hi (by omega) hk (⟨vp_in_nI (by omega) (by decide), zmh_4 hi (by omega) hk (nm_e (br_t rfl (h)))⟩)))))))⟩
theorem zmw_5 {i r : Nat} (hi : i < 16) (hr : r < 20) {x : Int32} {kd sp f : Nat → Int32} (hk : kd i = 5) {post : Int32 → Int32 → (Nat → Int32) → Prop} (h : post (((((x + 1) + nI i + sp i - nI i) * 2) * 3) ^^^ ((x - sp i) + nI i + sp i - nI i)) (nI (r + 10)) (z_mk (z_mk (z_mk (z_mk (z_mk (z_mk (z_mk (z_mk (z_mk (z_mk f r 12) (r + 1) 40) (r + 2) 30) (r + 3) 11) (r + 4) 41) (r + 5) 20) (r + 6) 10) (r + 7) 41) (r + 8) 20) (r + 9) 10)) : F_X10_wearing (nI r) kd sp f (nI i) x post := by
  unfold F_X10_wearing F_X10_wearing_21 F_X10_wearing_32 F_X10_wearing_54
  rw [nI_clamp (by omega), hk]
  exact ⟨vp_in_nI (by omega) (by decide), nm_e (br_f (by decide) (br_f (by decide) (br_f (by decide) (zm_body (by omega) (zml_5 hi (by omega) hk (⟨vp_in_nI (by omega) (by decide), zmh_5 hi (by omega) hk (nm_e (br_f (by decide) (br_f (by decide) (h))))⟩))))))⟩
theorem zmw_6 {i r : Nat} (hi : i < 16) (hr : r < 20) {x : Int32} {kd sp f : Nat → Int32} (hk : kd i = 6) {post : Int32 → Int32 → (Nat → Int32) → Prop} (h : post (((((x - sp i) + nI i) * 2) * 2) ^^^ ((((x - sp i) - sp i) + nI i) * 2)) (nI (r + 7)) (z_mk (z_mk (z_mk (z_mk (z_mk (z_mk (z_mk f r 71) (r + 1) 12) (r + 2) 11) (r + 3) 70) (r + 4) 10) (r + 5) 70) (r + 6) 10)) : F_X10_wearing (nI r) kd sp f (nI i) x post := by
  unfold F_X10_wearing F_X10_wearing_21 F_X10_wearing_32 F_X10_wearing_54
  rw [nI_clamp (by omega), hk]
  exact ⟨vp_in_nI (by omega) (by decide), nm_e (br_f (by decide) (br_f (by decide) (br_t rfl (zm_body (by omega) (⟨vp_in_nI (by omega) (by decide), nm_e (zm_body (by omega) (zml_6 hi (by omega) hk (⟨vp_in_nI (by omega) (by decide), zmh_6 hi (by omega) hk (nm_e (br_f (by decide) (br_f (by decide) (h))))⟩)))⟩)))))⟩
theorem p_42 {N : Nat} {kd ot sp tm : Nat → Int32} (hS : z_VS N kd ot sp tm) {tr : Nat → Int32} {ran rx a b c : Int32} {s1 s2 s3 s4 s5 : Int32} {post : Int32 → (Nat → Int32) → Int32 → Int32 → Int32 → Int32 → (Nat → Int32) → Prop} (h : ∀ r f a b c, post r f r a b c f) : O_42 (nI N) ran kd sp tr rx a b c tr (nI N) kd sp s1 s2 s3 s4 s5 post := by
  have hN := hS.1
  unfold O_42 F_X9_act F_X0_forget
  refine zo_X7has hN (fun c => z_b0 ?_) (fun i hi e => z_b1 ?_)
  · unfold F_X10_act
    exact zf_mStretch hN c (z_b0 (z_eq (h _ _ _ _ _)))
  · subst e
    refine zo_within (fun c => z_b0 ?_) (fun c1 c2 => z_b1 ?_)
    · unfold F_X10_act
      exact zt_mStretch hN hi (z_b1 (z_out2 c (z_eq (h _ _ _ _ _))))
    · refine zc_kindOf hN hi (zc_spaceOf hN hi ?_)
      unfold F_X0_begin F_X0_kindActing
      obtain ⟨k, -, -, -, ek, -, -, -, hk, -⟩ := hS.2 i hi
      obtain ⟨n, -, hn, rfl⟩ := z_rng 0 2 c1 c2 (by decide) (by decide)
      have h3 : n = 0 ∨ n = 1 ∨ n = 2 := by omega
      have h7 : k = 0 ∨ k = 1 ∨ k = 2 ∨ k = 3 ∨ k = 4 ∨ k = 5 ∨ k = 6 := by omega
      rcases h3 with rfl | rfl | rfl
      · rcases h7 with rfl | rfl | rfl | rfl | rfl | rfl | rfl
        · rw [ek]
          refine zhm_0 (n := 49) (r := 0) (d := 0) (by decide) (by decide) ?_
          unfold F_X10_act
          exact zt_mStretch hN hi (z_b1 (z_inn2 (a := 0) (b := 2) (by decide) (by decide) (br_t rfl (zmh_0 (r := 0) (by omega) (by decide) ek (z_eq (h _ _ _ _ _))))))
        · rw [ek]
          refine zhm_1 (n := 48) (r := 0) (d := 0) (by decide) (by decide) ?_
          unfold F_X10_act
          exact zt_mStretch hN hi (z_b1 (z_inn2 (a := 0) (b := 2) (by decide) (by decide) (br_t rfl (zmh_1 (r := 0) (by omega) (by decide) ek (z_eq (h _ _ _ _ _))))))
        · rw [ek]
          refine zhm_2 (n := 48) (r := 0) (d := 0) (by decide) (by decide) ?_
          unfold F_X10_act
          exact zt_mStretch hN hi (z_b1 (z_inn2 (a := 0) (b := 2) (by decide) (by decide) (br_t rfl (zmh_2 (r := 0) (by omega) (by decide) ek (z_eq (h _ _ _ _ _))))))
        · rw [ek]
          refine zhm_3 (n := 49) (r := 0) (d := 0) (by decide) (by decide) ?_
          unfold F_X10_act
          exact zt_mStretch hN hi (z_b1 (z_inn2 (a := 0) (b := 2) (by decide) (by decide) (br_t rfl (zmh_3 (r := 0) (by omega) (by decide) ek (z_eq (h _ _ _ _ _))))))
        · rw [ek]
          refine zhm_4 (n := 48) (r := 0) (d := 0) (by decide) (by decide) ?_
          unfold F_X10_act
          exact zt_mStretch hN hi (z_b1 (z_inn2 (a := 0) (b := 2) (by decide) (by decide) (br_t rfl (zmh_4 (r := 0) (by omega) (by decide) ek (z_eq (h _ _ _ _ _))))))
        · rw [ek]
          refine zhm_5 (n := 47) (r := 0) (d := 0) (by decide) (by decide) ?_
          unfold F_X10_act
          exact zt_mStretch hN hi (z_b1 (z_inn2 (a := 0) (b := 2) (by decide) (by decide) (br_t rfl (zmh_5 (r := 0) (by omega) (by decide) ek (z_eq (h _ _ _ _ _))))))
        · rw [ek]
          refine zhm_6 (n := 48) (r := 0) (d := 0) (by decide) (by decide) ?_
          unfold F_X10_act
          exact zt_mStretch hN hi (z_b1 (z_inn2 (a := 0) (b := 2) (by decide) (by decide) (br_t rfl (zmh_6 (r := 0) (by omega) (by decide) ek (z_eq (h _ _ _ _ _))))))
      · rcases h7 with rfl | rfl | rfl | rfl | rfl | rfl | rfl
        · rw [ek]
          refine zls_0 (n := 48) (r := 0) (d := 0) (by decide) (by decide) ?_
          unfold F_X10_act
          exact zt_mStretch hN hi (z_b1 (z_inn2 (a := 0) (b := 2) (by decide) (by decide) (br_f (by decide) (br_t rfl (zml_0 (r := 0) (by omega) (by decide) ek (z_eq (h _ _ _ _ _)))))))
        · rw [ek]
          refine zls_1 (n := 47) (r := 0) (d := 0) (by decide) (by decide) ?_
          unfold F_X10_act
          exact zt_mStretch hN hi (z_b1 (z_inn2 (a := 0) (b := 2) (by decide) (by decide) (br_f (by decide) (br_t rfl (zml_1 (r := 0) (by omega) (by decide) ek (z_eq (h _ _ _ _ _)))))))
        · rw [ek]
          refine zls_2 (n := 46) (r := 0) (d := 0) (by decide) (by decide) ?_
          unfold F_X10_act
          exact zt_mStretch hN hi (z_b1 (z_inn2 (a := 0) (b := 2) (by decide) (by decide) (br_f (by decide) (br_t rfl (zml_2 (r := 0) (by omega) (by decide) ek (z_eq (h _ _ _ _ _)))))))
        · rw [ek]
          refine zls_3 (n := 48) (r := 0) (d := 0) (by decide) (by decide) ?_
          unfold F_X10_act
          exact zt_mStretch hN hi (z_b1 (z_inn2 (a := 0) (b := 2) (by decide) (by decide) (br_f (by decide) (br_t rfl (zml_3 (r := 0) (by omega) (by decide) ek (z_eq (h _ _ _ _ _)))))))
        · rw [ek]
          refine zls_4 (n := 47) (r := 0) (d := 0) (by decide) (by decide) ?_
          unfold F_X10_act
          exact zt_mStretch hN hi (z_b1 (z_inn2 (a := 0) (b := 2) (by decide) (by decide) (br_f (by decide) (br_t rfl (zml_4 (r := 0) (by omega) (by decide) ek (z_eq (h _ _ _ _ _)))))))
        · rw [ek]
          refine zls_5 (n := 44) (r := 0) (d := 0) (by decide) (by decide) ?_
          unfold F_X10_act
          exact zt_mStretch hN hi (z_b1 (z_inn2 (a := 0) (b := 2) (by decide) (by decide) (br_f (by decide) (br_t rfl (zml_5 (r := 0) (by omega) (by decide) ek (z_eq (h _ _ _ _ _)))))))
        · rw [ek]
          refine zls_6 (n := 47) (r := 0) (d := 0) (by decide) (by decide) ?_
          unfold F_X10_act
          exact zt_mStretch hN hi (z_b1 (z_inn2 (a := 0) (b := 2) (by decide) (by decide) (br_f (by decide) (br_t rfl (zml_6 (r := 0) (by omega) (by decide) ek (z_eq (h _ _ _ _ _)))))))
      · rcases h7 with rfl | rfl | rfl | rfl | rfl | rfl | rfl
        · rw [ek]
          refine zwr_0 (n := 47) (r := 0) (d := 0) (by decide) (by decide) ?_
          unfold F_X10_act
          exact zt_mStretch hN hi (z_b1 (z_inn2 (a := 0) (b := 2) (by decide) (by decide) (br_f (by decide) (br_f (by decide) (zmw_0 (r := 0) (by omega) (by decide) ek (z_eq (h _ _ _ _ _)))))))
        · rw [ek]
          refine zwr_1 (n := 46) (r := 0) (d := 0) (by decide) (by decide) ?_
          unfold F_X10_act
          exact zt_mStretch hN hi (z_b1 (z_inn2 (a := 0) (b := 2) (by decide) (by decide) (br_f (by decide) (br_f (by decide) (zmw_1 (r := 0) (by omega) (by decide) ek (z_eq (h _ _ _ _ _)))))))
        · rw [ek]
          refine zwr_2 (n := 45) (r := 0) (d := 0) (by decide) (by decide) ?_
          unfold F_X10_act
          exact zt_mStretch hN hi (z_b1 (z_inn2 (a := 0) (b := 2) (by decide) (by decide) (br_f (by decide) (br_f (by decide) (zmw_2 (r := 0) (by omega) (by decide) ek (z_eq (h _ _ _ _ _)))))))
        · rw [ek]
          refine zwr_3 (n := 46) (r := 0) (d := 0) (by decide) (by decide) ?_
          unfold F_X10_act
          exact zt_mStretch hN hi (z_b1 (z_inn2 (a := 0) (b := 2) (by decide) (by decide) (br_f (by decide) (br_f (by decide) (zmw_3 (r := 0) (by omega) (by decide) ek (z_eq (h _ _ _ _ _)))))))
        · rw [ek]
          refine zwr_4 (n := 45) (r := 0) (d := 0) (by decide) (by decide) ?_
          unfold F_X10_act
          exact zt_mStretch hN hi (z_b1 (z_inn2 (a := 0) (b := 2) (by decide) (by decide) (br_f (by decide) (br_f (by decide) (zmw_4 (r := 0) (by omega) (by decide) ek (z_eq (h _ _ _ _ _)))))))
        · rw [ek]
          refine zwr_5 (n := 43) (r := 0) (d := 0) (by decide) (by decide) ?_
          unfold F_X10_act
          exact zt_mStretch hN hi (z_b1 (z_inn2 (a := 0) (b := 2) (by decide) (by decide) (br_f (by decide) (br_f (by decide) (zmw_5 (r := 0) (by omega) (by decide) ek (z_eq (h _ _ _ _ _)))))))
        · rw [ek]
          refine zwr_6 (n := 45) (r := 0) (d := 0) (by decide) (by decide) ?_
          unfold F_X10_act
          exact zt_mStretch hN hi (z_b1 (z_inn2 (a := 0) (b := 2) (by decide) (by decide) (br_f (by decide) (br_f (by decide) (zmw_6 (r := 0) (by omega) (by decide) ek (z_eq (h _ _ _ _ _)))))))
