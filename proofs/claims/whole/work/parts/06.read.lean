/-! the methods that only read -/
theorem i_vc_count {k : Nat} {u : SX} {v : SY} (I : i_Rel k u v) (hk : k + 4 ≤ 2048) : wpX_count (fun r => wpY_count (fun r' => r' = r ∧ i_Rel (k + 4) u v) v) u := by
  have I' := i_up I
  obtain ⟨n, d, A, w, g, z, dl, hn, rfl, rfl, hC, hD⟩ := I
  exact mx_count (mx_sat hn) (my_count (my_mts hn hC) ⟨rfl, I'⟩)
theorem i_vc_countWith {k : Nat} {u : SX} {v : SY} (I : i_Rel k u v) (hk : k + 4 ≤ 2048) (v1 : Int32) (v2 : Int32) : wpX_countWith (fun r => wpY_countWith (fun r' => r' = r ∧ i_Rel (k + 4) u v) v v1 v2) u v1 v2 := by
  have I' := i_up I
  obtain ⟨n, d, A, w, g, z, dl, hn, rfl, rfl, hC, hD⟩ := I
  unfold wpX_countWith
  try dsimp only
  by_cases a0 : v1 < 0
  · exact mx_iaN a0 (br_t rfl (br_t a0 ⟨rfl, I'⟩))
  obtain ⟨x, hx, rfl⟩ := nI_of a0
  by_cases a8 : x < 256
  · refine mx_iaO a8 (br_f (by decide) ?_)
    have y8 : ¬ (255 : Int32) < nI x := nI_nlt (a := 255) (by omega) (by omega)
    by_cases b0 : v2 < 0
    · exact mx_iaN b0 (br_t rfl (br_f a0 (br_f y8 (br_t b0 ⟨rfl, I'⟩))))
    obtain ⟨y, hy, rfl⟩ := nI_of b0
    by_cases b8 : y < 256
    · refine mx_iaO b8 (br_f (by decide) ?_)
      refine mx_mms (p := fun j => decide (nI j &&& nI x = nI y &&& nI x) && mc_S A n j) (q := fun j => decide (nI j &&& nI x = nI y &&& nI x)) (fun j hj => (mc_agr _ _ _).trans decide_eq_true_iff.symm) (fun j => rfl) (mx_sat hn) ?_
      exact br_f a0 (br_f y8 (br_f b0 (br_t (nI_le (b := 255) (by omega) (by omega)) ⟨257, my_cw (p := fun j => decide (nI j &&& nI x = nI y &&& nI x) && mc_S A n j) (q := fun j => decide (nI j &&& nI x = nI y &&& nI x)) (fun j hj => decide_eq_true_iff.symm) (fun j => rfl) (my_mts hn hC) ⟨rfl, I'⟩ 256 0 rfl⟩)))
    · exact mx_iaB hy (by omega) (br_t rfl (br_f a0 (br_f y8 (br_f b0 (br_f (nI_ge (a := 255) (by omega) hy) ⟨rfl, I'⟩)))))
  · exact mx_iaB hx (by omega) (br_t rfl (br_f a0 (br_t (nI_lt (a := 255) (by omega) hx) ⟨rfl, I'⟩)))
theorem i_vc_countSize {k : Nat} {u : SX} {v : SY} (I : i_Rel k u v) (hk : k + 4 ≤ 2048) (v1 : Int32) : wpX_countSize (fun r => wpY_countSize (fun r' => r' = r ∧ i_Rel (k + 4) u v) v v1) u v1 := by
  have I' := i_up I
  obtain ⟨n, d, A, w, g, z, dl, hn, rfl, rfl, hC, hD⟩ := I
  exact mx_css (p := fun j => decide (mc_tv j = v1) && mc_S A n j) (q := fun j => decide (mc_tv j = v1)) (fun j hj => decide_eq_true_iff.symm) (fun j => rfl) (mx_sat hn) (my_css (p := fun j => decide (mc_tv j = v1) && mc_S A n j) (q := fun j => decide (mc_tv j = v1)) (fun j hj => decide_eq_true_iff.symm) (fun j => rfl) (my_mts hn hC) ⟨rfl, I'⟩)
theorem i_vc_weighted {k : Nat} {u : SX} {v : SY} (I : i_Rel k u v) (hk : k + 4 ≤ 2048) : wpX_weighted (fun r => wpY_weighted (fun r' => r' = r ∧ i_Rel (k + 4) u v) v) u := by
  have I' := i_up I
  obtain ⟨n, d, A, w, g, z, dl, hn, rfl, rfl, hC, hD⟩ := I
  have E := mc_split (mc_S A n) (fun j => decide (mc_tr j 0 = nI 0)) (fun j => decide (mc_tr j 0 = nI 1)) (mc_wt w) 256 (fun j hj => by
    rcases mc_tr01 (j := j) (v := 0) hj (by omega) with e | e
    · show decide (mc_tr j 0 = nI 1) = !decide (mc_tr j 0 = nI 0)
      rw [e]
      decide
    · show decide (mc_tr j 0 = nI 1) = !decide (mc_tr j 0 = nI 0)
      rw [e]
      decide)
  unfold wpX_weighted
  try dsimp only
  refine mx_wms (p := mc_S A n) (q := fun _ => true) (fun j hj => ⟨fun _ => rfl, fun _ => mc_agr0 _⟩) (fun j => rfl) (mx_sat hn) ?_
  unfold wpY_weighted
  try dsimp only
  refine my_shs (v := 0) (b := 0) (p := fun j => decide (mc_tr j 0 = nI 0) && mc_S A n j) (q := fun j => decide (mc_tr j 0 = nI 0)) (by omega) (by omega) (fun j hj => decide_eq_true_iff.symm) (fun j => rfl) (my_mts hn hC) ?_
  refine my_shs (v := 0) (b := 1) (p := fun j => decide (mc_tr j 0 = nI 1) && mc_S A n j) (q := fun j => decide (mc_tr j 0 = nI 1)) (by omega) (by omega) (fun j hj => decide_eq_true_iff.symm) (fun j => rfl) (my_mts hn hC) ?_
  exact ⟨E.symm, I'⟩
theorem i_vc_share {k : Nat} {u : SX} {v : SY} (I : i_Rel k u v) (hk : k + 4 ≤ 2048) (v1 : Int32) (v2 : Int32) : wpX_share (fun r => wpY_share (fun r' => r' = r ∧ i_Rel (k + 4) u v) v v1 v2) u v1 v2 := by
  have I' := i_up I
  obtain ⟨n, d, A, w, g, z, dl, hn, rfl, rfl, hC, hD⟩ := I
  unfold wpX_share
  try dsimp only
  by_cases a0 : v1 < 0
  · exact mx_ivN a0 (br_t rfl (br_t a0 ⟨rfl, I'⟩))
  obtain ⟨x, hx, rfl⟩ := nI_of a0
  by_cases a8 : x < 8
  · refine mx_ivO a8 (br_f (by decide) ?_)
    have y8 : ¬ (7 : Int32) < nI x := nI_nlt (a := 7) (by omega) (by omega)
    by_cases b0 : v2 < 0
    · exact mx_itN b0 (br_t rfl (br_f a0 (br_f y8 (br_t b0 ⟨rfl, I'⟩))))
    obtain ⟨y, hy, rfl⟩ := nI_of b0
    by_cases b2 : y < 2
    · refine mx_itO b2 (br_f (by decide) ?_)
      refine mx_wms (p := fun j => decide (mc_tr j x = nI y) && mc_S A n j) (q := fun j => decide (mc_tr j x = nI y)) (fun j hj => (mc_shr j hj x a8 y b2).trans decide_eq_true_iff.symm) (fun j => rfl) (mx_sat hn) ?_
      exact my_shs (p := fun j => decide (mc_tr j x = nI y) && mc_S A n j) (q := fun j => decide (mc_tr j x = nI y)) a8 b2 (fun j hj => decide_eq_true_iff.symm) (fun j => rfl) (my_mts hn hC) ⟨rfl, I'⟩
    · exact mx_itB hy (by omega) (br_t rfl (br_f a0 (br_f y8 (br_f b0 (br_f (nI_ge (a := 1) (by omega) hy) ⟨rfl, I'⟩)))))
  · exact mx_ivB hx (by omega) (br_t rfl (br_f a0 (br_t (nI_lt (a := 7) (by omega) hx) ⟨rfl, I'⟩)))
theorem i_vc_model {k : Nat} {u : SX} {v : SY} (I : i_Rel k u v) (hk : k + 4 ≤ 2048) (v1 : Int32) : wpX_model (fun r => wpY_model (fun r' => r' = r ∧ i_Rel (k + 4) u v) v v1) u v1 := by
  have I' := i_up I
  obtain ⟨n, d, A, w, g, z, dl, hn, rfl, rfl, hC, hD⟩ := I
  have Y : ∀ post : Int32 → Prop, post (mc_md (mc_S A n) v1 256 0) → wpY_model post (nI n, g, z, w) v1 := fun post hp =>
    show ∃ n4 : Nat, wY_model_4 post v1 (nI n) g z w n4 0 0 from ⟨257, my_md (my_mts hn hC) 256 0 rfl hp⟩
  by_cases h0 : 0 ≤ v1
  · exact br_t h0 ⟨257, mx_md (mx_sat hn) 256 0 rfl (Y _ ⟨rfl, I'⟩)⟩
  · exact br_f h0 (Y _ ⟨mc_md_neg h0 256 0 rfl, I'⟩)
theorem i_vc_rank {k : Nat} {u : SX} {v : SY} (I : i_Rel k u v) (hk : k + 4 ≤ 2048) (v1 : Int32) : wpX_rank (fun r => wpY_rank (fun r' => r' = r ∧ i_Rel (k + 4) u v) v v1) u v1 := by
  have I' := i_up I
  obtain ⟨n, d, A, w, g, z, dl, hn, rfl, rfl, hC, hD⟩ := I
  by_cases a0 : v1 < 0
  · exact br_t a0 (br_t a0 ⟨rfl, I'⟩)
  obtain ⟨x, hx, rfl⟩ := nI_of a0
  by_cases a8 : x ≤ 256
  · refine br_f a0 (br_t (nI_le (b := 256) a8 (by omega)) ?_)
    exact mx_mbs a8 (mx_sat hn) (my_rks a8 (my_mts hn hC) ⟨rfl, I'⟩)
  · have h : ¬ nI x ≤ (256 : Int32) := nI_ge (a := 256) (by omega) hx
    exact br_f a0 (br_f h (br_f a0 (br_f h ⟨rfl, I'⟩)))
theorem i_vc_isModel {k : Nat} {u : SX} {v : SY} (I : i_Rel k u v) (hk : k + 4 ≤ 2048) (v1 : Int32) : wpX_isModel (fun r => wpY_isModel (fun r' => r' = r ∧ i_Rel (k + 4) u v) v v1) u v1 := by
  have I' := i_up I
  obtain ⟨n, d, A, w, g, z, dl, hn, rfl, rfl, hC, hD⟩ := I
  unfold wpX_isModel
  try dsimp only
  by_cases a0 : v1 < 0
  · exact mx_iaN a0 (br_t rfl (br_t a0 ⟨rfl, I'⟩))
  obtain ⟨x, hx, rfl⟩ := nI_of a0
  by_cases a8 : x < 256
  · refine mx_iaO a8 (br_f (by decide) ?_)
    have y8 : ¬ (255 : Int32) < nI x := nI_nlt (a := 255) (by omega) (by omega)
    have Y : ∀ post : Int32 → Prop, post (mc_b (mc_S A n x)) → wpY_makesTrue post (nI n, g, z, w) (nI x) := my_mts hn hC x a8
    refine mx_sat hn x a8 _ (mc_br (fun e => br_f a0 (br_f y8 (Y _ ?_))) (fun e => br_f a0 (br_f y8 (Y _ ?_))))
    · rw [e]
      exact br_t rfl ⟨rfl, I'⟩
    · rw [e]
      exact br_f (by decide) ⟨rfl, I'⟩
  · exact mx_iaB hx (by omega) (br_t rfl (br_f a0 (br_t (nI_lt (a := 255) (by omega) hx) ⟨rfl, I'⟩)))
theorem i_vc_alwaysTrue {k : Nat} {u : SX} {v : SY} (I : i_Rel k u v) (hk : k + 4 ≤ 2048) : wpX_alwaysTrue (fun r => wpY_alwaysTrue (fun r' => r' = r ∧ i_Rel (k + 4) u v) v) u := by
  have I' := i_up I
  obtain ⟨n, d, A, w, g, z, dl, hn, rfl, rfl, hC, hD⟩ := I
  have Y : ∀ post : Int32 → Prop, (mc_any (mc_S A n) 256 = false → post (-4)) → (mc_any (mc_S A n) 256 = true → post (mc_at (mc_S A n) 256)) → wpY_alwaysTrue post (nI n, g, z, w) := fun post h0 h1 =>
    show ∃ n8 : Nat, wY_alwaysTrue_8 post (nI n) g z w n8 255 0 0 from ⟨257, my_at (my_mts hn hC) h0 h1 256 0 rfl⟩
  have X : ∀ post : Int32 → Prop, (mc_any (mc_S A n) 256 = false → post (-4)) → (mc_any (mc_S A n) 256 = true → post (mc_at (mc_S A n) 256)) → wpX_alwaysTrue post (nI n, dl, nI d, A, w) := fun post h0 h1 =>
    show ∃ n8 : Nat, wX_alwaysTrue_8 post (nI n) dl (nI d) A w n8 0 255 0 from ⟨257, mx_at (mx_sat hn) h0 h1 256 0 rfl⟩
  exact X _ (fun e => Y _ (fun _ => ⟨rfl, I'⟩) (fun e2 => absurd (e.symm.trans e2) (by decide))) (fun e => Y _ (fun e2 => absurd (e2.symm.trans e) (by decide)) (fun _ => ⟨rfl, I'⟩))
theorem i_vc_alwaysFalse {k : Nat} {u : SX} {v : SY} (I : i_Rel k u v) (hk : k + 4 ≤ 2048) : wpX_alwaysFalse (fun r => wpY_alwaysFalse (fun r' => r' = r ∧ i_Rel (k + 4) u v) v) u := by
  have I' := i_up I
  obtain ⟨n, d, A, w, g, z, dl, hn, rfl, rfl, hC, hD⟩ := I
  have Y : ∀ post : Int32 → Prop, (mc_any (mc_S A n) 256 = false → post (-4)) → (mc_any (mc_S A n) 256 = true → post (255 - nI (mc_os (mc_S A n) 256))) → wpY_alwaysFalse post (nI n, g, z, w) := fun post h0 h1 =>
    show ∃ n6 : Nat, wY_alwaysFalse_6 post (nI n) g z w n6 0 0 0 from ⟨257, my_af (my_mts hn hC) h0 h1 256 0 rfl⟩
  have X : ∀ post : Int32 → Prop, (mc_any (mc_S A n) 256 = false → post (-4)) → (mc_any (mc_S A n) 256 = true → post (255 - nI (mc_os (mc_S A n) 256))) → wpX_alwaysFalse post (nI n, dl, nI d, A, w) := fun post h0 h1 => by
    show ∃ n8 : Nat, wX_alwaysFalse_8 post (nI n) dl (nI d) A w n8 0 255 0
    have e := mx_af (mx_sat (dl := dl) (ds := nI d) (w := w) hn) h0 h1 256 0 rfl
    have e0 : (255 : Int32) - nI (mc_os (mc_S A n) 0) = 255 := Int32.sub_zero 255
    rw [e0] at e
    exact ⟨257, e⟩
  exact X _ (fun e => Y _ (fun _ => ⟨rfl, I'⟩) (fun e2 => absurd (e.symm.trans e2) (by decide))) (fun e => Y _ (fun e2 => absurd (e2.symm.trans e) (by decide)) (fun _ => ⟨rfl, I'⟩))
theorem i_vc_idle {k : Nat} {u : SX} {v : SY} (I : i_Rel k u v) (hk : k + 4 ≤ 2048) : wpX_idle (fun r => wpY_idle (fun r' => r' = r ∧ i_Rel (k + 4) u v) v) u := by
  have I' := i_up I
  obtain ⟨n, d, A, w, g, z, dl, hn, rfl, rfl, hC, hD⟩ := I
  have Y : ∀ post : Int32 → Prop, post (mc_ids (mc_S A n) 8) → wpY_idle post (nI n, g, z, w) := fun post hp =>
    show ∃ n4 : Nat, wY_idle_4 post (nI n) g z w n4 0 0 from ⟨9, my_id (my_mts hn hC) hp 8 0 rfl⟩
  have X : ∀ post : Int32 → Prop, post (mc_ids (mc_S A n) 8) → wpX_idle post (nI n, dl, nI d, A, w) := fun post hp =>
    show ∃ n4 : Nat, wX_idle_4 post (nI n) dl (nI d) A w n4 0 0 from ⟨9, mx_id (mx_sat hn) hp 8 0 rfl⟩
  exact X _ (Y _ ⟨rfl, I'⟩)
theorem i_vc_leastTrue {k : Nat} {u : SX} {v : SY} (I : i_Rel k u v) (hk : k + 4 ≤ 2048) : wpX_leastTrue (fun r => wpY_leastTrue (fun r' => r' = r ∧ i_Rel (k + 4) u v) v) u := by
  have I' := i_up I
  obtain ⟨n, d, A, w, g, z, dl, hn, rfl, rfl, hC, hD⟩ := I
  have Y : ∀ (x : Int32) (post : Int32 → Prop), mc_L (mc_S A n) 256 x → post x → wpY_leastTrue post (nI n, g, z, w) := fun x post hx hp =>
    show ∃ n2 : Nat, wY_leastTrue_2 post (nI n) g z w n2 0 from ⟨10, my_lt (my_mts hn hC) hx hp 9 0 rfl (fun j _ _ => Nat.zero_le _)⟩
  have X : ∀ post : Int32 → Prop, (∀ x, mc_L (mc_S A n) 256 x → post x) → wpX_leastTrue post (nI n, dl, nI d, A, w) := fun post hp =>
    show ∃ n5 : Nat, wX_leastTrue_5 post (nI n) dl (nI d) A w n5 (-4) 0 from ⟨257, mx_lt (mx_sat hn) hp 256 0 (-4) rfl (mc_L0 _)⟩
  exact X _ (fun x hx => Y x _ hx ⟨rfl, I'⟩)
