/-! the reference's walks against the pure picture -/
section
variable {cl : Int32} {g z w : Nat → Int32} {S : Nat → Bool}
abbrev mc_YS (v : SY) (S : Nat → Bool) : Prop := ∀ j, j < 256 → ∀ post : Int32 → Prop, post (mc_b (S j)) → wpY_makesTrue post v (nI j)
theorem my_tr {a b : Int32} {post : Int32 → Prop} (hp : post ((a >>> (b &&& 31)) &&& 1)) : wpY_truth post (cl, g, z, w) a b := hp
theorem my_it {c s j : Nat} {m : Int32} (hc : c < 14) (C : mc_Cl g z c s m) (hj : j < 256) {post : Int32 → Prop} {b : Bool} (hb : b = decide (¬ m &&& mc_li j = 0)) (hp : post (mc_b b)) : ∀ d i, i + d = s → (∀ i', i' < i → ((1 : Int32) <<< (g (3 * c + i') &&& 31)) &&& mc_li j = 0) → wY_isTrue_4 post (nI c) (nI j) cl g z w (d + 1) (nI (3 * c + i))
  | 0, i, h, hi => by
    obtain ⟨h3, hz, hl, hm⟩ := C
    have e : b = false := by
      rw [hb]
      apply decide_eq_false
      intro f
      apply f
      rw [hm, mc_mask0]
      intro i' hi'
      exact hi i' (by omega)
    rw [e] at hp
    have e3 : (3 : Int32) * nI c + nI s = nI (3 * c + s) := (congrArg (fun q => q + nI s) (pk_mul 3 c)).trans (nI_add _ _)
    refine And.intro (vp_in_nI (by omega) (by omega)) ?_
    rw [nI_clamp (by omega), hz, e3]
    exact br_t (nI_le (by omega) (by omega)) hp
  | d + 1, i, h, hi => by
    have C' := C
    obtain ⟨h3, hz, hl, hm⟩ := C'
    obtain ⟨l, hl16, el⟩ := hl i (by omega)
    have e3 : (3 : Int32) * nI c + nI s = nI (3 * c + s) := (congrArg (fun q => q + nI s) (pk_mul 3 c)).trans (nI_add _ _)
    have ed : nI l / 2 = nI (l / 2) := pk_div (a := l) (d := 2) (by omega) (by omega) (by omega)
    have er : nI l - nI (l / 2) * 2 = nI (l % 2) := by
      have q := pk_rem (a := l) (d := 2) (by omega) (by omega) (by omega)
      have q2 : nI l - nI l / 2 * 2 = nI (l % 2) := q
      rw [ed] at q2
      exact q2
    have hb2 := mc_lit j hj l hl16
    refine And.intro (vp_in_nI (by omega) (by omega)) ?_
    rw [nI_clamp (n := c) (by omega), hz, e3, nI_clamp (n := 3 * c + i) (by omega), el, ed, er]
    refine br_f (nI_ge (by omega) (by omega)) ⟨vp_in_nI (by omega) (by omega), by decide, my_tr ⟨vp_in_nI (by omega) (by omega), by decide, br_c (fun y => nm_r (nI_1 (3 * c + i)) ?_) (fun y => ?_)⟩⟩
    · refine my_it hc C hj hb hp d (i + 1) (by omega) (lt_s hi ?_)
      rw [el]
      exact hb2.mpr y
    · have e : b = true := by
        rw [hb]
        apply decide_eq_true
        intro f
        rw [hm, mc_mask0] at f
        have f2 := f i (by omega)
        rw [el] at f2
        exact y (hb2.mp f2)
      rw [e] at hp
      exact hp
theorem my_its {c s j : Nat} {m : Int32} (hc : c < 14) (C : mc_Cl g z c s m) (hj : j < 256) {post : Int32 → Prop} (hp : post (mc_b (decide (¬ m &&& mc_li j = 0)))) : wpY_isTrue post (cl, g, z, w) (nI c) (nI j) := by
  show ∀ x3_1 : Int32, x3_1 = 3 * nI c → ∃ n4 : Nat, wY_isTrue_4 post (nI c) (nI j) cl g z w n4 x3_1
  exact nm_r (pk_mul 3 c) ⟨s + 1, my_it hc C hj rfl hp s 0 (by omega) (fun i h => absurd h (Nat.not_lt_zero i))⟩
theorem my_mt {A : Nat → Int32} {n j : Nat} (hn : n ≤ 14) (hC : ∀ c, c < n → ∃ s, mc_Cl g z c s (A c)) (hj : j < 256) {post : Int32 → Prop} (hp : post (mc_b (mc_S A n j))) : ∀ d c, c + d = n → (∀ c', c' < c → ¬ A c' &&& mc_li j = 0) → wY_makesTrue_2 post (nI j) (nI n) g z w (d + 1) (nI c)
  | 0, c, h, hc => by
    have h' : c = n := by omega
    have e : mc_S A n j = true := by
      rw [← h']
      exact decide_eq_true hc
    rw [e] at hp
    exact br_t (nI_le (by omega) (by omega)) hp
  | d + 1, c, h, hc => by
    obtain ⟨s, C⟩ := hC c (by omega)
    refine br_f (nI_ge (by omega) (by omega)) (my_its (by omega) C hj (mc_br (fun e => ?_) (fun e => nm_r (nI_1 c) (my_mt hn hC hj hp d (c + 1) (by omega) (lt_s hc (of_decide_eq_true e))))))
    have e2 : mc_S A n j = false := decide_eq_false (fun f => absurd (decide_eq_true (f c (by omega))) (by rw [e]; decide))
    rw [e2] at hp
    exact hp
theorem my_mts {A : Nat → Int32} {n : Nat} (hn : n ≤ 14) (hC : ∀ c, c < n → ∃ s, mc_Cl g z c s (A c)) : mc_YS (nI n, g, z, w) (mc_S A n) := by
  intro j hj post hp
  show ∃ n2 : Nat, wY_makesTrue_2 post (nI j) (nI n) g z w n2 0
  exact ⟨n + 1, my_mt hn hC hj hp n 0 (by omega) (fun c h => absurd h (Nat.not_lt_zero c))⟩
theorem my_rk {b : Nat} (hb : b ≤ 256) (hS : mc_YS (cl, g, z, w) S) {post : Int32 → Prop} (hp : post (nI (mc_cnt S b))) : ∀ d i, i + d = b → wY_rank_17 post (nI b) cl g z w (d + 1) (nI (mc_cnt S i)) (nI i)
  | 0, i, h => by
    have h' : i = b := by omega
    rw [h']
    exact br_t (nI_le (by omega) (by omega)) hp
  | d + 1, i, h => by
    have ih := my_rk hb hS hp d (i + 1) (by omega)
    refine br_f (nI_ge (by omega) (by omega)) (hS i (by omega) _ (mc_br (fun e => nm_r (nI_1 i) ?_) (fun e => nm_r (mc_cnt_t e) (nm_r (nI_1 i) ih))))
    rw [mc_cnt_f e]
    exact ih
theorem my_rks {b : Nat} (hb : b ≤ 256) (hS : mc_YS (cl, g, z, w) S) {post : Int32 → Prop} (hp : post (nI (mc_cnt S b))) : wpY_rank post (cl, g, z, w) (nI b) :=
  br_f (nI_pos (by omega)) (br_t (nI_le (b := 256) hb (by omega)) ⟨b + 1, my_rk hb hS hp b 0 (by omega)⟩)
theorem my_count (hS : mc_YS (cl, g, z, w) S) {post : Int32 → Prop} (hp : post (nI (mc_cnt S 256))) : wpY_count post (cl, g, z, w) := by
  unfold wpY_count
  try dsimp only
  exact my_rks (b := 256) (by omega) hS hp
theorem my_cw {s t : Int32} {p q : Nat → Bool} (hq : ∀ j, j < 256 → (nI j &&& s = t &&& s ↔ q j = true)) (hpq : ∀ j, p j = (q j && S j)) (hS : mc_YS (cl, g, z, w) S) {post : Int32 → Prop} (hp : post (nI (mc_cnt p 256))) : ∀ d i, i + d = 256 → wY_countWith_29 post s t cl g z w (d + 1) (nI (mc_cnt p i)) (nI i)
  | 0, i, h => by
    have h' : i = 256 := by omega
    rw [h']
    exact br_t (nI_le (a := 256) (b := 256) (by omega) (by omega)) hp
  | d + 1, i, h => by
    have ih := my_cw hq hpq hS hp d (i + 1) (by omega)
    have F : p i = false → wY_countWith_29 post s t cl g z w (d + 1) (nI (mc_cnt p i)) (nI (i + 1)) := fun e => by
      rw [mc_cnt_f e]
      exact ih
    refine br_f (nI_ge (b := 256) (by omega) (by omega)) ?_
    cases e : q i
    · exact br_f (fun y => absurd (((hq i (by omega)).mp y).symm.trans e) (by decide)) (nm_r (nI_1 i) (F (by rw [hpq, e]; rfl)))
    · exact br_t ((hq i (by omega)).mpr e) (hS i (by omega) _ (mc_br (fun e2 => nm_r (nI_1 i) (F (by rw [hpq, e, e2]; rfl))) (fun e2 => nm_r (mc_cnt_t (p := p) (by rw [hpq, e, e2]; rfl)) (nm_r (nI_1 i) ih))))
theorem my_so (j : Nat) {post : Int32 → Prop} (hp : post (mc_tv j)) : ∀ d v, v + d = 8 → wY_sizeOf_4 post (nI j) cl g z w (d + 1) (mc_it (fun v s => s + mc_tr j v) 0 v) (nI v)
  | 0, v, h => by
    obtain rfl : v = 8 := by omega
    exact br_t (nI_le (a := 8) (b := 8) (by omega) (by omega)) hp
  | d + 1, v, h => br_f (nI_ge (b := 8) (by omega) (by omega)) (my_tr (nm_e (nm_r (nI_1 v) (my_so j hp d (v + 1) (by omega)))))
theorem my_sos (j : Nat) {post : Int32 → Prop} (hp : post (mc_tv j)) : wpY_sizeOf post (cl, g, z, w) (nI j) :=
  show ∃ n4 : Nat, wY_sizeOf_4 post (nI j) cl g z w n4 0 0 from ⟨9, my_so j hp 8 0 rfl⟩
theorem my_cs {k : Int32} {p q : Nat → Bool} (hq : ∀ j, j < 256 → (mc_tv j = k ↔ q j = true)) (hpq : ∀ j, p j = (q j && S j)) (hS : mc_YS (cl, g, z, w) S) {post : Int32 → Prop} (hp : post (nI (mc_cnt p 256))) : ∀ d i, i + d = 256 → wY_countSize_4 post k cl g z w (d + 1) (nI (mc_cnt p i)) (nI i)
  | 0, i, h => by
    have h' : i = 256 := by omega
    rw [h']
    exact br_t (nI_le (a := 256) (b := 256) (by omega) (by omega)) hp
  | d + 1, i, h => by
    have ih := my_cs hq hpq hS hp d (i + 1) (by omega)
    have F : p i = false → wY_countSize_4 post k cl g z w (d + 1) (nI (mc_cnt p i)) (nI (i + 1)) := fun e => by
      rw [mc_cnt_f e]
      exact ih
    refine br_f (nI_ge (b := 256) (by omega) (by omega)) (my_sos i ?_)
    cases e : q i
    · exact br_f (fun y => absurd (((hq i (by omega)).mp y).symm.trans e) (by decide)) (nm_r (nI_1 i) (F (by rw [hpq, e]; rfl)))
    · exact br_t ((hq i (by omega)).mpr e) (hS i (by omega) _ (mc_br (fun e2 => nm_r (nI_1 i) (F (by rw [hpq, e, e2]; rfl))) (fun e2 => nm_r (mc_cnt_t (p := p) (by rw [hpq, e, e2]; rfl)) (nm_r (nI_1 i) ih))))
theorem my_css {k : Int32} {p q : Nat → Bool} (hq : ∀ j, j < 256 → (mc_tv j = k ↔ q j = true)) (hpq : ∀ j, p j = (q j && S j)) (hS : mc_YS (cl, g, z, w) S) {post : Int32 → Prop} (hp : post (nI (mc_cnt p 256))) : wpY_countSize post (cl, g, z, w) k :=
  show ∃ n4 : Nat, wY_countSize_4 post k cl g z w n4 0 0 from ⟨257, my_cs hq hpq hS hp 256 0 rfl⟩
theorem my_wo {j : Nat} (hj : j < 256) {post : Int32 → Prop} (hp : post (mc_wt w j)) : ∀ d v, v + d = 8 → wY_weightOf_4 post (nI j) cl g z w (d + 1) (mc_pr w j v) (nI v)
  | 0, v, h => by
    obtain rfl : v = 8 := by omega
    exact br_t (nI_le (a := 8) (b := 8) (by omega) (by omega)) hp
  | d + 1, v, h => by
    have ih := my_wo hj hp d (v + 1) (by omega)
    have hm : j / 2 ^ v % 2 < 2 := Nat.mod_lt _ (by decide)
    refine br_f (nI_ge (b := 8) (by omega) (by omega)) (my_tr ?_)
    rw [mc_ix hj (by omega), nI_clamp (by omega)]
    exact ⟨vp_in_nI (by omega) (by omega), nm_e (nm_r (nI_1 v) ih)⟩
theorem my_wos {j : Nat} (hj : j < 256) {post : Int32 → Prop} (hp : post (mc_wt w j)) : wpY_weightOf post (cl, g, z, w) (nI j) :=
  show ∃ n4 : Nat, wY_weightOf_4 post (nI j) cl g z w n4 1 0 from ⟨9, my_wo hj hp 8 0 rfl⟩
theorem my_sh {v b : Nat} {p q : Nat → Bool} (hq : ∀ j, j < 256 → (mc_tr j v = nI b ↔ q j = true)) (hpq : ∀ j, p j = (q j && S j)) (hS : mc_YS (cl, g, z, w) S) {post : Int32 → Prop} (hp : post (mc_sum p (mc_wt w) 256)) : ∀ d i, i + d = 256 → wY_share_26 post (nI v) (nI b) cl g z w (d + 1) (mc_sum p (mc_wt w) i) (nI i)
  | 0, i, h => by
    have h' : i = 256 := by omega
    rw [h']
    exact br_t (nI_le (a := 256) (b := 256) (by omega) (by omega)) hp
  | d + 1, i, h => by
    have ih := my_sh hq hpq hS hp d (i + 1) (by omega)
    have F : p i = false → wY_share_26 post (nI v) (nI b) cl g z w (d + 1) (mc_sum p (mc_wt w) i) (nI (i + 1)) := fun e => by
      rw [mc_sum_f e]
      exact ih
    refine br_f (nI_ge (b := 256) (by omega) (by omega)) (my_tr ?_)
    cases e : q i
    · exact br_f (fun y => absurd (((hq i (by omega)).mp y).symm.trans e) (by decide)) (nm_r (nI_1 i) (F (by rw [hpq, e]; rfl)))
    · exact br_t ((hq i (by omega)).mpr e) (hS i (by omega) _ (mc_br (fun e2 => nm_r (nI_1 i) (F (by rw [hpq, e, e2]; rfl))) (fun e2 => my_wos (by omega) (nm_r (mc_sum_t (p := p) (by rw [hpq, e, e2]; rfl)) (nm_r (nI_1 i) ih)))))
theorem my_shs {v b : Nat} (hv : v < 8) (hb : b < 2) {p q : Nat → Bool} (hq : ∀ j, j < 256 → (mc_tr j v = nI b ↔ q j = true)) (hpq : ∀ j, p j = (q j && S j)) (hS : mc_YS (cl, g, z, w) S) {post : Int32 → Prop} (hp : post (mc_sum p (mc_wt w) 256)) : wpY_share post (cl, g, z, w) (nI v) (nI b) :=
  br_f (nI_pos (by omega)) (br_f (nI_nlt (a := 7) (by omega) (by omega)) (br_f (nI_pos (by omega)) (br_t (nI_le (b := 1) (by omega) (by omega)) ⟨257, my_sh hq hpq hS hp 256 0 rfl⟩)))
theorem my_md {k : Int32} (hS : mc_YS (cl, g, z, w) S) {post : Int32 → Prop} : ∀ d i, i + d = 256 → post (mc_md S k d i) → wY_model_4 post k cl g z w (d + 1) (nI (mc_cnt S i)) (nI i)
  | 0, i, h, hp => by
    have h' : i = 256 := by omega
    rw [h']
    exact br_t (nI_le (a := 256) (b := 256) (by omega) (by omega)) hp
  | d + 1, i, h, hp => by
    refine br_f (nI_ge (b := 256) (by omega) (by omega)) (hS i (by omega) _ (mc_br (fun e => nm_r (nI_1 i) ?_) (fun e => br_c (fun y => ?_) (fun y => nm_r (mc_cnt_t e) (nm_r (nI_1 i) ?_)))))
    · rw [mc_md_f e] at hp
      rw [mc_cnt_f e]
      exact my_md hS d (i + 1) (by omega) hp
    · rw [mc_md_t e y] at hp
      exact hp
    · rw [mc_md_n e y] at hp
      exact my_md hS d (i + 1) (by omega) hp
theorem my_at (hS : mc_YS (cl, g, z, w) S) {post : Int32 → Prop} (h0 : mc_any S 256 = false → post (-4)) (h1 : mc_any S 256 = true → post (mc_at S 256)) : ∀ d i, i + d = 256 → wY_alwaysTrue_8 post cl g z w (d + 1) (mc_at S i) (mc_b (mc_any S i)) (nI i)
  | 0, i, h => by
    have h' : i = 256 := by omega
    rw [h']
    exact br_t (nI_le (a := 256) (b := 256) (by omega) (by omega)) (mc_br h0 h1)
  | d + 1, i, h => by
    have ih := my_at hS h0 h1 d (i + 1) (by omega)
    refine br_f (nI_ge (b := 256) (by omega) (by omega)) (hS i (by omega) _ (mc_br (fun e => nm_r (nI_1 i) ?_) (fun e => nm_e (nm_r (nI_1 i) ?_))))
    · rw [mc_any_f e, mc_at_f e] at ih
      exact ih
    · rw [mc_any_t e, mc_at_t e] at ih
      exact ih
theorem my_af (hS : mc_YS (cl, g, z, w) S) {post : Int32 → Prop} (h0 : mc_any S 256 = false → post (-4)) (h1 : mc_any S 256 = true → post (255 - nI (mc_os S 256))) : ∀ d i, i + d = 256 → wY_alwaysFalse_6 post cl g z w (d + 1) (nI (mc_os S i)) (mc_b (mc_any S i)) (nI i)
  | 0, i, h => by
    have h' : i = 256 := by omega
    rw [h']
    exact br_t (nI_le (a := 256) (b := 256) (by omega) (by omega)) (mc_br h0 h1)
  | d + 1, i, h => by
    have ih := my_af hS h0 h1 d (i + 1) (by omega)
    refine br_f (nI_ge (b := 256) (by omega) (by omega)) (hS i (by omega) _ (mc_br (fun e => nm_r (nI_1 i) ?_) (fun e => nm_r (mc_or _ _) (nm_r (nI_1 i) ?_))))
    · rw [mc_any_f e, mc_os_f e] at ih
      exact ih
    · rw [mc_any_t e, mc_os_t e] at ih
      exact ih
theorem my_ii {v : Nat} (hv : v < 8) (hS : mc_YS (cl, g, z, w) S) {post : Int32 → Prop} (hp : post (mc_b (mc_id S v))) : ∀ d i, i + d = 256 → (∀ j, j < i → ¬ mc_bad S v j = true) → wY_isIdle_2 post (nI v) cl g z w (d + 1) (nI i)
  | 0, i, h, hc => by
    have h' : i = 256 := by omega
    rw [h'] at hc ⊢
    have e : mc_id S v = true := decide_eq_true hc
    rw [e] at hp
    exact br_t (nI_le (a := 256) (b := 256) (by omega) (by omega)) hp
  | d + 1, i, h, hc => by
    refine br_f (nI_ge (b := 256) (by omega) (by omega)) (hS i (by omega) _ (mc_br (fun e => nm_r (nI_1 i) (my_ii hv hS hp d (i + 1) (by omega) (lt_s hc (mc_bad1 e)))) (fun e => ?_)))
    obtain ⟨ef, hf⟩ := mc_flip (j := i) (v := v) (by omega) hv
    rw [ef]
    refine hS _ hf _ (mc_br (fun e2 => ?_) (fun e2 => nm_r (nI_1 i) (my_ii hv hS hp d (i + 1) (by omega) (lt_s hc (mc_bad2 e2)))))
    have e3 : mc_id S v = false := decide_eq_false (fun f => f i (by omega) (mc_bad3 e e2))
    rw [e3] at hp
    exact hp
theorem my_iis {v : Nat} (hv : v < 8) (hS : mc_YS (cl, g, z, w) S) {post : Int32 → Prop} (hp : post (mc_b (mc_id S v))) : wpY_isIdle post (cl, g, z, w) (nI v) :=
  show ∃ n2 : Nat, wY_isIdle_2 post (nI v) cl g z w n2 0 from ⟨257, my_ii hv hS hp 256 0 rfl (fun j h => absurd h (Nat.not_lt_zero j))⟩
theorem my_id (hS : mc_YS (cl, g, z, w) S) {post : Int32 → Prop} (hp : post (mc_ids S 8)) : ∀ d v, v + d = 8 → wY_idle_4 post cl g z w (d + 1) (mc_ids S v) (nI v)
  | 0, v, h => by
    have h' : v = 8 := by omega
    rw [h']
    exact br_t (nI_le (a := 8) (b := 8) (by omega) (by omega)) hp
  | d + 1, v, h => by
    have ih := my_id hS hp d (v + 1) (by omega)
    refine br_f (nI_ge (b := 8) (by omega) (by omega)) (my_iis (by omega) hS (mc_br (fun e => nm_r (nI_1 v) ?_) (fun e => nm_r (mc_ids_t e) (nm_r (nI_1 v) ih))))
    rw [mc_ids_f e]
    exact ih
theorem my_lt (hS : mc_YS (cl, g, z, w) S) {post : Int32 → Prop} {x : Int32} (hx : mc_L S 256 x) (hp : post x) : ∀ d k, k + d = 9 → (∀ j, j < 256 → S j = true → k ≤ mc_tn j) → wY_leastTrue_2 post cl g z w (d + 1) (nI k)
  | 0, k, h, hk => by
    have h' : k = 9 := by omega
    rw [h'] at hk ⊢
    have e : x = -4 := by
      rcases hx with ⟨h1, _⟩ | ⟨m, h1, h2, ⟨j, h3, h4, h5⟩, h6⟩
      · exact h1
      · have := hk j h3 h4
        omega
    rw [e] at hp
    exact br_t (nI_le (a := 9) (b := 9) (by omega) (by omega)) hp
  | d + 1, k, h, hk => by
    refine br_f (nI_ge (b := 9) (by omega) (by omega)) (my_css (p := fun j => decide (mc_tv j = nI k) && S j) (q := fun j => decide (mc_tv j = nI k)) (fun j hj => (decide_eq_true_iff).symm) (fun j => rfl) hS ?_)
    have hle := mc_cnt_le (fun j => decide (mc_tv j = nI k) && S j) 256
    have hpos := mc_cnt_pos (fun j => decide (mc_tv j = nI k) && S j) 256
    generalize mc_cnt (fun j => decide (mc_tv j = nI k) && S j) 256 = c at hle hpos ⊢
    by_cases hc : c = 0
    · rw [hc]
      refine br_t (by decide) (nm_r (nI_1 k) (my_lt hS hx hp d (k + 1) (by omega) (fun j hj e => ?_)))
      have h1 := hk j hj e
      rcases Nat.lt_or_ge k (mc_tn j) with h2 | h2
      · exact h2
      · exfalso
        have h3 : mc_tn j = k := by omega
        have h4 : 0 < c := hpos.mpr ⟨j, hj, by rw [mc_tvn j hj, h3, e, decide_eq_true rfl]; rfl⟩
        omega
    · refine br_f (nI_nle (by omega) (by omega)) ?_
      obtain ⟨j, hj, hjp⟩ := hpos.mp (by omega)
      rw [Bool.and_eq_true] at hjp
      obtain ⟨h1, h2⟩ := hjp
      have h3 := of_decide_eq_true h1
      rw [mc_tvn j hj, nI_eq (by have := mc_tn8 j hj; omega) (by omega)] at h3
      rcases hx with ⟨_, h4⟩ | ⟨m, h4, h5, ⟨j', h6, h7, h8⟩, h9⟩
      · exact absurd ((h4 j hj).symm.trans h2) (by decide)
      · have h10 := h9 j hj h2
        have h11 := hk j' h6 h7
        have h12 : m = k := by omega
        rw [h5, h12] at hp
        exact hp
end
