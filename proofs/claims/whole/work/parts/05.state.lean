/-! the relation, the constructors, and the methods that change the state -/
def i_Rel (_ : Nat) (u : SX) (v : SY) : Prop := ∃ (n d : Nat) (A w g z : Nat → Int32) (dl : Int32), n ≤ 14 ∧ u = (nI n, dl, nI d, A, w) ∧ v = (nI n, g, z, w) ∧ (∀ c, c < n → ∃ s, mc_Cl g z c s (A c)) ∧ mc_Cl g z 14 d dl
theorem i_up {k : Nat} {u : SX} {v : SY} (h : i_Rel k u v) : i_Rel (k + 4) u v := h
/-- the weights after i of them are set -/
def mc_w1 (f : Nat → Int32) : Nat → Nat → Int32 := mc_it (fun i a => upd a i 1) f
theorem mx_in {cc dl ds : Int32} {A f : Nat → Int32} {post : SX → Prop} (hp : post (cc, dl, ds, A, mc_w1 f 16)) : ∀ d i, i + d = 16 → wX_init_37 post cc dl ds (d + 1) (nI i) A (mc_w1 f i)
  | 0, i, h => by
    have h' : i = 16 := by omega
    rw [h']
    exact br_t (nI_le (a := 16) (b := 16) (by omega) (by omega)) hp
  | d + 1, i, h => by
    have ih := mx_in hp d (i + 1) (by omega)
    refine br_f (nI_ge (b := 16) (by omega) (by omega)) ⟨vp_in_nI (by omega) (by omega), ?_⟩
    rw [nI_clamp (by omega)]
    exact nm_e (nm_r (nI_1 i) ih)
theorem my_in {cl : Int32} {g z f : Nat → Int32} {post : SY → Prop} (hp : post (cl, g, z, mc_w1 f 16)) : ∀ d i, i + d = 16 → wY_init_30 post cl (d + 1) (nI i) g z (mc_w1 f i)
  | 0, i, h => by
    have h' : i = 16 := by omega
    rw [h']
    exact br_t (nI_le (a := 16) (b := 16) (by omega) (by omega)) hp
  | d + 1, i, h => by
    have ih := my_in hp d (i + 1) (by omega)
    refine br_f (nI_ge (b := 16) (by omega) (by omega)) ⟨vp_in_nI (by omega) (by omega), ?_⟩
    rw [nI_clamp (by omega)]
    exact nm_e (nm_r (nI_1 i) ih)
theorem i_vc0 : wpX_init (fun u => wpY_init (fun v => i_Rel 0 u v)) := by
  have R : i_Rel 0 (nI 0, 0, nI 0, fun _ => 0, mc_w1 (fun _ => 0) 16) (nI 0, fun _ => 0, fun _ => 0, mc_w1 (fun _ => 0) 16) :=
    ⟨0, 0, fun _ => 0, mc_w1 (fun _ => 0) 16, fun _ => 0, fun _ => 0, 0, by omega, rfl, rfl, fun c h => absurd h (Nat.not_lt_zero c), ⟨by omega, rfl, fun i h => absurd h (Nat.not_lt_zero i), rfl⟩⟩
  have Y : wpY_init (fun v => i_Rel 0 (nI 0, 0, nI 0, fun _ => 0, mc_w1 (fun _ => 0) 16) v) := by
    show ∃ n30 : Nat, wY_init_30 (fun v => i_Rel 0 (nI 0, 0, nI 0, fun _ => 0, mc_w1 (fun _ => 0) 16) v) 0 n30 0 (fun _ => 0) (fun _ => 0) (fun _ => 0)
    exact ⟨17, my_in (f := fun _ => 0) R 16 0 rfl⟩
  show ∃ n37 : Nat, wX_init_37 (fun u => wpY_init (fun v => i_Rel 0 u v)) 0 0 0 n37 0 (fun _ => 0) (fun _ => 0)
  exact ⟨17, mx_in (f := fun _ => 0) (post := fun u => wpY_init (fun v => i_Rel 0 u v)) Y 16 0 rfl⟩
theorem i_vc_literal {k : Nat} {u : SX} {v : SY} (I : i_Rel k u v) (hk : k + 4 ≤ 2048) (v1 : Int32) : wpX_literal (fun r u' => wpY_literal (fun r' v' => r' = r ∧ i_Rel (k + 4) u' v') v v1) u v1 := by
  have I' := i_up I
  obtain ⟨n, d, A, w, g, z, dl, hn, rfl, rfl, hC, hD⟩ := I
  have hD' := hD
  obtain ⟨h3, hz, hl, hm⟩ := hD
  by_cases h0 : v1 < 0
  · exact br_t h0 (br_t h0 ⟨rfl, I'⟩)
  · obtain ⟨l, hl2, rfl⟩ := nI_of h0
    by_cases h16 : l < 16
    · by_cases hd : d < 3
      · refine br_f h0 (br_t (nI_lt (b := 16) h16 (by omega)) (br_t (nI_lt (b := 3) hd (by omega)) (nm_e (nm_r (nI_1 d) ?_))))
        refine br_f h0 (br_t (nI_le (b := 15) (by omega) (by omega)) ?_)
        have e42 : (42 : Int32) + nI d = nI (42 + d) := nI_add 42 d
        rw [hz, e42, nI_clamp (by omega), nI_1]
        refine br_f (fun e => absurd ((nI_eq (b := 3) (by omega) (by omega)).mp e) (by omega)) ⟨vp_in_nI (by omega) (by omega), nm_e (nm_e ⟨pk_us, ?_⟩)⟩
        refine ⟨n, d + 1, A, w, upd g (42 + d) (nI l), upd z 14 (nI (d + 1)), dl ||| ((1 : Int32) <<< (nI l &&& 31)), hn, rfl, rfl, fun c hc => ?_, ⟨by omega, pk_us, fun i hi => ?_, ?_⟩⟩
        · obtain ⟨s, C⟩ := hC c hc
          exact ⟨s, mc_Cl_c C (pk_un (by omega)) (fun i hi => pk_un (by omega))⟩
        · rcases Nat.lt_or_ge i d with h | h
          · obtain ⟨l', h1, h2⟩ := hl i h
            exact ⟨l', h1, (pk_un (by omega)).trans h2⟩
          · have h' : i = d := by omega
            rw [h']
            exact ⟨l, h16, pk_us⟩
        · show _ = mc_mask (upd g (42 + d) (nI l)) (3 * 14) d ||| ((1 : Int32) <<< (upd g (42 + d) (nI l) (3 * 14 + d) &&& 31))
          rw [mc_mask_c (g := g) (b := 3 * 14) (fun i hi => pk_un (by omega)), ← hm, show upd g (42 + d) (nI l) (3 * 14 + d) = nI l from pk_us]
      · have hd3 : d = 3 := by omega
        refine br_f h0 (br_t (nI_lt (b := 16) h16 (by omega)) (br_f (nI_nlt (b := 3) (by omega) (by omega)) ?_))
        refine br_f h0 (br_t (nI_le (b := 15) (by omega) (by omega)) (br_t ?_ ⟨rfl, I'⟩))
        rw [hz, hd3]
        rfl
    · refine br_f h0 (br_f (nI_nlt (b := 16) (by omega) hl2) ?_)
      exact br_f h0 (br_f (nI_ge (a := 15) (by omega) hl2) ⟨rfl, I'⟩)
theorem i_vc_scrap {k : Nat} {u : SX} {v : SY} (I : i_Rel k u v) (hk : k + 4 ≤ 2048) : wpX_scrap (fun u' => wpY_scrap (fun v' => i_Rel (k + 4) u' v') v) u := by
  obtain ⟨n, d, A, w, g, z, dl, hn, rfl, rfl, hC, hD⟩ := I
  have R : i_Rel (k + 4) (nI n, 0, 0, A, w) (nI n, g, upd z 14 0, w) := by
    refine ⟨n, 0, A, w, g, upd z 14 0, 0, hn, rfl, rfl, fun c hc => ?_, ⟨by omega, pk_us, fun i h => absurd h (Nat.not_lt_zero i), rfl⟩⟩
    obtain ⟨s, C⟩ := hC c hc
    exact ⟨s, mc_Cl_c C (pk_un (by omega)) (fun i hi => rfl)⟩
  show ∀ a_sizes_2 : Nat → Int32, a_sizes_2 = upd z 14 0 → i_Rel (k + 4) (nI n, 0, 0, A, w) (nI n, g, a_sizes_2, w)
  exact nm_e R
theorem my_cl {n d : Nat} {g z w : Nat → Int32} {post : Int32 → SY → Prop} (hn : n < 14) (hd : d ≤ 3) (hz : z 14 = nI d) (K : ∀ G : Nat → Int32, (∀ i, i < d → G (3 * n + i) = g (42 + i)) → (∀ q, q < 3 * n ∨ 3 * n + 3 ≤ q → G q = g q) → post (nI n) (nI (n + 1), G, upd (upd z n (nI d)) 14 0, w)) : ∀ e i G, i + e = d → (∀ i', i' < i → G (3 * n + i') = g (42 + i')) → (∀ q, q < 3 * n ∨ 3 * n + 3 ≤ q → G q = g q) → wY_clause_14 post (nI n) (e + 1) (nI i) G z w
  | 0, i, G, h, h1, h2 => by
    refine br_t (by rw [hz]; exact nI_le (by omega) (by omega)) ⟨vp_in_nI (by omega) (by omega), ?_⟩
    rw [nI_clamp (by omega), hz]
    refine nm_e (nm_e (nm_r (nI_1 n) ?_))
    rw [nI_pred]
    have h' : i = d := by omega
    rw [h'] at h1
    exact K G h1 h2
  | e + 1, i, G, h, h1, h2 => by
    have e42 : (42 : Int32) + nI i = nI (42 + i) := nI_add 42 i
    have e3 : (3 : Int32) * nI n + nI i = nI (3 * n + i) := (congrArg (fun q => q + nI i) (pk_mul 3 n)).trans (nI_add _ _)
    refine br_f (by rw [hz]; exact nI_ge (by omega) (by omega)) ?_
    rw [e42, e3, nI_clamp (n := 42 + i) (by omega), nI_clamp (n := 3 * n + i) (by omega)]
    refine ⟨vp_in_nI (by omega) (by omega), vp_in_nI (by omega) (by omega), nm_e (nm_r (nI_1 i) (my_cl hn hd hz K e (i + 1) _ (by omega) (lt_s (fun i' hi' => (pk_un (by omega)).trans (h1 i' hi')) (pk_us.trans (h2 (42 + i) (by omega)))) (fun q hq => (pk_un (by omega)).trans (h2 q hq))))⟩
theorem i_vc_clause {k : Nat} {u : SX} {v : SY} (I : i_Rel k u v) (hk : k + 4 ≤ 2048) : wpX_clause (fun r u' => wpY_clause (fun r' v' => r' = r ∧ i_Rel (k + 4) u' v') v) u := by
  have I' := i_up I
  obtain ⟨n, d, A, w, g, z, dl, hn, rfl, rfl, hC, hD⟩ := I
  obtain ⟨h3, hz, hl, hm⟩ := hD
  by_cases h : n < 14
  · refine br_t (nI_lt (b := 14) h (by omega)) ⟨vp_in_nI h (by omega), ?_⟩
    rw [nI_clamp (by omega)]
    refine nm_e (nm_r (nI_1 n) ?_)
    have Y : wpY_clause (fun r' v' => r' = nI n ∧ i_Rel (k + 4) (nI (n + 1), 0, 0, upd A n dl, w) v') (nI n, g, z, w) := by
      refine br_f (fun e => absurd ((nI_eq (b := 14) (by omega) (by omega)).mp e) (by omega)) ⟨d + 1, my_cl h h3 hz (fun G h1 h2 => ⟨rfl, ?_⟩) d 0 g (by omega) (fun i h => absurd h (Nat.not_lt_zero i)) (fun q _ => rfl)⟩
      refine ⟨n + 1, 0, upd A n dl, w, G, upd (upd z n (nI d)) 14 0, 0, by omega, rfl, rfl, fun c hc => ?_, ⟨by omega, pk_us, fun i h => absurd h (Nat.not_lt_zero i), rfl⟩⟩
      rcases Nat.lt_or_ge c n with h4 | h4
      · obtain ⟨s, C⟩ := hC c h4
        refine ⟨s, ?_⟩
        rw [pk_un (by omega)]
        exact mc_Cl_c C ((pk_un (by omega)).trans (pk_un (by omega))) (fun i hi => h2 _ (by omega))
      · have h5 : c = n := by omega
        rw [h5]
        refine ⟨d, h3, (pk_un (by omega)).trans pk_us, fun i hi => ?_, ?_⟩
        · obtain ⟨l, h6, h7⟩ := hl i hi
          exact ⟨l, h6, (h1 i hi).trans h7⟩
        · rw [pk_us, hm]
          exact (mc_mask_c (fun i hi => h1 i hi)).symm
    unfold wpX_scrap
    exact Y
  · have h14 : n = 14 := by omega
    exact br_f (nI_nlt (b := 14) (by omega) (by omega)) (br_t (congrArg nI h14) ⟨rfl, I'⟩)
theorem i_vc_unclause {k : Nat} {u : SX} {v : SY} (I : i_Rel k u v) (hk : k + 4 ≤ 2048) : wpX_unclause (fun r u' => wpY_unclause (fun r' v' => r' = r ∧ i_Rel (k + 4) u' v') v) u := by
  have I' := i_up I
  obtain ⟨n, d, A, w, g, z, dl, hn, rfl, rfl, hC, hD⟩ := I
  cases n with
  | zero => exact br_f (by decide) (br_t rfl ⟨rfl, I'⟩)
  | succ m =>
    refine br_t (nI_lt (a := 0) (by omega) (by omega)) (nm_r (nI_pred m) ?_)
    refine br_f (nI_ne0 (by omega) (by omega)) (nm_r (nI_pred m) ⟨rfl, ?_⟩)
    exact ⟨m, d, A, w, g, z, dl, by omega, rfl, rfl, fun c hc => hC c (by omega), hD⟩
theorem i_vc_clauses {k : Nat} {u : SX} {v : SY} (I : i_Rel k u v) (hk : k + 4 ≤ 2048) : wpX_clauses (fun r => wpY_clauses (fun r' => r' = r ∧ i_Rel (k + 4) u v) v) u := by
  have I' := i_up I
  obtain ⟨n, d, A, w, g, z, dl, hn, rfl, rfl, hC, hD⟩ := I
  exact And.intro rfl I'
theorem i_vc_weight {k : Nat} {u : SX} {v : SY} (I : i_Rel k u v) (hk : k + 4 ≤ 2048) (v1 : Int32) (v2 : Int32) (v3 : Int32) : wpX_weight (fun r u' => wpY_weight (fun r' v' => r' = r ∧ i_Rel (k + 4) u' v') v v1 v2 v3) u v1 v2 v3 := by
  have I' := i_up I
  obtain ⟨n, d, A, w, g, z, dl, hn, rfl, rfl, hC, hD⟩ := I
  unfold wpX_weight
  try dsimp only
  by_cases a0 : v1 < 0
  · exact mx_ivN a0 (br_t rfl (br_t a0 ⟨rfl, I'⟩))
  obtain ⟨x, hx, rfl⟩ := nI_of a0
  by_cases a8 : x < 8
  · refine mx_ivO a8 (br_f (by decide) ?_)
    have y8 : ¬ (7 : Int32) < nI x := nI_nlt (a := 7) (by omega) (by omega)
    by_cases b0 : v2 < 0
    · exact mx_itN b0 (br_t rfl (br_f a0 (br_f y8 (br_t b0 ⟨rfl, I'⟩))))
    obtain ⟨y, hy, rfl⟩ := nI_of b0
    by_cases b2 : y < 2
    · refine mx_itO b2 (br_f (by decide) ?_)
      have y2 : ¬ (1 : Int32) < nI y := nI_nlt (a := 1) (by omega) (by omega)
      by_cases c0 : v3 < 0
      · exact br_t c0 (br_f a0 (br_f y8 (br_f b0 (br_f y2 (br_t c0 ⟨rfl, I'⟩)))))
      by_cases c9 : v3 ≤ 9
      · have e : (2 : Int32) * nI x + nI y = nI (2 * x + y) := (congrArg (fun q => q + nI y) (pk_mul 2 x)).trans (nI_add _ _)
        have hi : vp_in ((2 : Int32) * nI x + nI y) 16 := by
          rw [e]
          exact vp_in_nI (by omega) (by omega)
        refine br_f c0 (br_t c9 ⟨hi, nm_e ⟨hi, nm_e ?_⟩⟩)
        refine br_f a0 (br_f y8 (br_f b0 (br_f y2 (br_f c0 (br_t c9 ⟨hi, nm_e ⟨hi, nm_e ⟨rfl, ?_⟩⟩⟩)))))
        exact ⟨n, d, A, _, g, z, dl, hn, rfl, rfl, hC, hD⟩
      · exact br_f c0 (br_f c9 (br_f a0 (br_f y8 (br_f b0 (br_f y2 (br_f c0 (br_f c9 ⟨rfl, I'⟩)))))))
    · exact mx_itB hy (by omega) (br_t rfl (br_f a0 (br_f y8 (br_f b0 (br_t (nI_lt (a := 1) (by omega) hy) ⟨rfl, I'⟩)))))
  · exact mx_ivB hx (by omega) (br_t rfl (br_f a0 (br_t (nI_lt (a := 7) (by omega) hx) ⟨rfl, I'⟩)))
