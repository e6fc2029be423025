/-! the component's walks against the pure picture -/
section
variable {cc dl ds : Int32} {A w : Nat → Int32} {S : Nat → Bool}
abbrev mc_XS (u : SX) (S : Nat → Bool) : Prop := ∀ j, j < 256 → ∀ post : Int32 → Prop, post (mc_b (S j)) → wpX_satisfies post u (nI j)
theorem mx_tl (j : Nat) {post : Int32 → Prop} (hp : post (mc_li j)) : ∀ d v, v + d = 8 → wX_trueLiterals_4 post (nI j) (d + 1) (mc_it (fun v s => s ||| ((1 : Int32) <<< ((2 * nI v + 1 - mc_tr j v) &&& 31))) 0 v) (nI v)
  | 0, v, h => by
    obtain rfl : v = 8 := by omega
    exact br_t (nI_le (a := 8) (b := 8) (by omega) (by omega)) hp
  | d + 1, v, h => br_f (nI_ge (b := 8) (by omega) (by omega)) (nm_e (nm_e (nm_r (nI_1 v) (mx_tl j hp d (v + 1) (by omega)))))
theorem mx_tv (j : Nat) {post : Int32 → Prop} (hp : post (mc_tv j)) : ∀ d v, v + d = 8 → wX_trueVariables_4 post (nI j) (d + 1) (mc_it (fun v s => s + mc_tr j v) 0 v) (nI v)
  | 0, v, h => by
    obtain rfl : v = 8 := by omega
    exact br_t (nI_le (a := 8) (b := 8) (by omega) (by omega)) hp
  | d + 1, v, h => br_f (nI_ge (b := 8) (by omega) (by omega)) (nm_e (nm_r (nI_1 v) (mx_tv j hp d (v + 1) (by omega))))
theorem mx_tvs (j : Nat) {post : Int32 → Prop} (hp : post (mc_tv j)) : wpX_trueVariables post (nI j) :=
  show ∃ n4 : Nat, wX_trueVariables_4 post (nI j) n4 0 0 from ⟨9, mx_tv j hp 8 0 rfl⟩
theorem mx_sl {L : Int32} {n : Nat} (hn : n ≤ 14) {post : Int32 → Prop} {s : Bool} (hs : s = decide (∀ c, c < n → ¬ A c &&& L = 0)) (hp : post (mc_b s)) : ∀ d c, c + d = n → (∀ c', c' < c → ¬ A c' &&& L = 0) → wX_satisfies_7 post L (nI n) dl ds A w (d + 1) (nI c)
  | 0, c, h, hc => by
    have h' : c = n := by omega
    have e : s = true := by
      rw [hs, ← h']
      exact decide_eq_true hc
    rw [e] at hp
    exact br_c (fun _ => hp) (fun _ => br_t (nI_le (by omega) (by omega)) hp)
  | d + 1, c, h, hc => by
    refine br_f (nI_ge (b := 14) (by omega) (by omega)) (br_f (nI_ge (by omega) (by omega)) ⟨vp_in_nI (by omega) (by omega), ?_⟩)
    rw [nI_clamp (by omega)]
    by_cases z : A c &&& L = 0
    · have e : s = false := by
        rw [hs]
        exact decide_eq_false (fun f => f c (by omega) z)
      rw [e] at hp
      exact br_t z hp
    · exact br_f z (nm_r (nI_1 c) (mx_sl hn hs hp d (c + 1) (by omega) (lt_s hc z)))
theorem mx_sat {n : Nat} (hn : n ≤ 14) : mc_XS (nI n, dl, ds, A, w) (mc_S A n) := by
  intro j hj post hp
  show ∃ n4 : Nat, wX_trueLiterals_4 (fun r_1 => ∃ n7 : Nat, wX_satisfies_7 post r_1 (nI n) dl ds A w n7 0) (nI j) n4 0 0
  exact ⟨9, mx_tl j ⟨n + 1, mx_sl hn rfl hp n 0 (by omega) (fun c h => absurd h (Nat.not_lt_zero c))⟩ 8 0 rfl⟩
theorem mx_mb {b : Nat} (hb : b ≤ 256) (hS : mc_XS (cc, dl, ds, A, w) S) {post : Int32 → Prop} (hp : post (nI (mc_cnt S b))) : ∀ d i, i + d = b → wX_modelsBelow_4 post (nI b) cc dl ds A w (d + 1) (nI (mc_cnt S i)) (nI i)
  | 0, i, h => by
    have h' : i = b := by omega
    rw [h']
    exact br_t (nI_le (by omega) (by omega)) hp
  | d + 1, i, h => by
    have ih := mx_mb hb hS hp d (i + 1) (by omega)
    refine br_f (nI_ge (by omega) (by omega)) (hS i (by omega) _ (mc_br (fun e => nm_r (nI_1 i) ?_) (fun e => nm_r (mc_cnt_t e) (nm_r (nI_1 i) ih))))
    rw [mc_cnt_f e]
    exact ih
theorem mx_mbs {b : Nat} (hb : b ≤ 256) (hS : mc_XS (cc, dl, ds, A, w) S) {post : Int32 → Prop} (hp : post (nI (mc_cnt S b))) : wpX_modelsBelow post (cc, dl, ds, A, w) (nI b) :=
  show ∃ n4 : Nat, wX_modelsBelow_4 post (nI b) cc dl ds A w n4 0 0 from ⟨b + 1, mx_mb hb hS hp b 0 (by omega)⟩
theorem mx_count (hS : mc_XS (cc, dl, ds, A, w) S) {post : Int32 → Prop} (hp : post (nI (mc_cnt S 256))) : wpX_count post (cc, dl, ds, A, w) := by
  unfold wpX_count
  try dsimp only
  exact mx_mbs (b := 256) (by omega) hS hp
theorem mx_ag {a s t : Int32} {q : Bool} {post : Int32 → Prop} (hq : (a ^^^ t) &&& s = 0 ↔ q = true) (hp : post (mc_b q)) : wpX_agrees post a s t := by
  cases q
  · exact br_f (fun z => absurd (hq.mp z) (by decide)) hp
  · exact br_t (hq.mpr rfl) hp
theorem mx_mm {s t : Int32} {p q : Nat → Bool} (hq : ∀ j, j < 256 → ((nI j ^^^ t) &&& s = 0 ↔ q j = true)) (hpq : ∀ j, p j = (q j && S j)) (hS : mc_XS (cc, dl, ds, A, w) S) {post : Int32 → Prop} (hp : post (nI (mc_cnt p 256))) : ∀ d i, i + d = 256 → wX_modelsMatching_5 post s t cc dl ds A w (d + 1) (nI (mc_cnt p i)) (nI i)
  | 0, i, h => by
    have h' : i = 256 := by omega
    rw [h']
    exact br_t (nI_le (a := 256) (b := 256) (by omega) (by omega)) hp
  | d + 1, i, h => by
    have ih := mx_mm hq hpq hS hp d (i + 1) (by omega)
    have F : p i = false → wX_modelsMatching_5 post s t cc dl ds A w (d + 1) (nI (mc_cnt p i)) (nI (i + 1)) := fun e => by
      rw [mc_cnt_f e]
      exact ih
    exact br_f (nI_ge (b := 256) (by omega) (by omega)) (mx_ag (hq i (by omega)) (mc_br (fun e => nm_r (nI_1 i) (F (by rw [hpq, e]; rfl))) (fun e => hS i (by omega) _ (mc_br (fun e2 => nm_r (nI_1 i) (F (by rw [hpq, e, e2]; rfl))) (fun e2 => nm_r (mc_cnt_t (p := p) (by rw [hpq, e, e2]; rfl)) (nm_r (nI_1 i) ih))))))
theorem mx_mms {s t : Int32} {p q : Nat → Bool} (hq : ∀ j, j < 256 → ((nI j ^^^ t) &&& s = 0 ↔ q j = true)) (hpq : ∀ j, p j = (q j && S j)) (hS : mc_XS (cc, dl, ds, A, w) S) {post : Int32 → Prop} (hp : post (nI (mc_cnt p 256))) : wpX_modelsMatching post (cc, dl, ds, A, w) s t :=
  show ∃ n5 : Nat, wX_modelsMatching_5 post s t cc dl ds A w n5 0 0 from ⟨257, mx_mm hq hpq hS hp 256 0 rfl⟩
theorem mx_cs {k : Int32} {p q : Nat → Bool} (hq : ∀ j, j < 256 → (mc_tv j = k ↔ q j = true)) (hpq : ∀ j, p j = (q j && S j)) (hS : mc_XS (cc, dl, ds, A, w) S) {post : Int32 → Prop} (hp : post (nI (mc_cnt p 256))) : ∀ d i, i + d = 256 → wX_countSize_4 post k cc dl ds A w (d + 1) (nI (mc_cnt p i)) (nI i)
  | 0, i, h => by
    have h' : i = 256 := by omega
    rw [h']
    exact br_t (nI_le (a := 256) (b := 256) (by omega) (by omega)) hp
  | d + 1, i, h => by
    have ih := mx_cs hq hpq hS hp d (i + 1) (by omega)
    have F : p i = false → wX_countSize_4 post k cc dl ds A w (d + 1) (nI (mc_cnt p i)) (nI (i + 1)) := fun e => by
      rw [mc_cnt_f e]
      exact ih
    refine br_f (nI_ge (b := 256) (by omega) (by omega)) (mx_tvs i ?_)
    cases e : q i
    · exact br_f (fun z => absurd (((hq i (by omega)).mp z).symm.trans e) (by decide)) (nm_r (nI_1 i) (F (by rw [hpq, e]; rfl)))
    · exact br_t ((hq i (by omega)).mpr e) (hS i (by omega) _ (mc_br (fun e2 => nm_r (nI_1 i) (F (by rw [hpq, e, e2]; rfl))) (fun e2 => nm_r (mc_cnt_t (p := p) (by rw [hpq, e, e2]; rfl)) (nm_r (nI_1 i) ih))))
theorem mx_css {k : Int32} {p q : Nat → Bool} (hq : ∀ j, j < 256 → (mc_tv j = k ↔ q j = true)) (hpq : ∀ j, p j = (q j && S j)) (hS : mc_XS (cc, dl, ds, A, w) S) {post : Int32 → Prop} (hp : post (nI (mc_cnt p 256))) : wpX_countSize post (cc, dl, ds, A, w) k :=
  show ∃ n4 : Nat, wX_countSize_4 post k cc dl ds A w n4 0 0 from ⟨257, mx_cs hq hpq hS hp 256 0 rfl⟩
theorem mx_wo {j : Nat} (hj : j < 256) {post : Int32 → Prop} (hp : post (mc_wt w j)) : ∀ d v, v + d = 8 → wX_weightOf_4 post (nI j) cc dl ds A w (d + 1) (mc_pr w j v) (nI v)
  | 0, v, h => by
    obtain rfl : v = 8 := by omega
    exact br_t (nI_le (a := 8) (b := 8) (by omega) (by omega)) hp
  | d + 1, v, h => by
    have ih := mx_wo hj hp d (v + 1) (by omega)
    have hm : j / 2 ^ v % 2 < 2 := Nat.mod_lt _ (by decide)
    refine br_f (nI_ge (b := 8) (by omega) (by omega)) ?_
    rw [mc_ix hj (by omega), nI_clamp (by omega)]
    exact ⟨vp_in_nI (by omega) (by omega), nm_e (nm_r (nI_1 v) ih)⟩
theorem mx_wos {j : Nat} (hj : j < 256) {post : Int32 → Prop} (hp : post (mc_wt w j)) : wpX_weightOf post (cc, dl, ds, A, w) (nI j) :=
  show ∃ n4 : Nat, wX_weightOf_4 post (nI j) cc dl ds A w n4 1 0 from ⟨9, mx_wo hj hp 8 0 rfl⟩
theorem mx_wm {s t : Int32} {p q : Nat → Bool} (hq : ∀ j, j < 256 → ((nI j ^^^ t) &&& s = 0 ↔ q j = true)) (hpq : ∀ j, p j = (q j && S j)) (hS : mc_XS (cc, dl, ds, A, w) S) {post : Int32 → Prop} (hp : post (mc_sum p (mc_wt w) 256)) : ∀ d i, i + d = 256 → wX_weightMatching_5 post s t cc dl ds A w (d + 1) (mc_sum p (mc_wt w) i) (nI i)
  | 0, i, h => by
    have h' : i = 256 := by omega
    rw [h']
    exact br_t (nI_le (a := 256) (b := 256) (by omega) (by omega)) hp
  | d + 1, i, h => by
    have ih := mx_wm hq hpq hS hp d (i + 1) (by omega)
    have F : p i = false → wX_weightMatching_5 post s t cc dl ds A w (d + 1) (mc_sum p (mc_wt w) i) (nI (i + 1)) := fun e => by
      rw [mc_sum_f e]
      exact ih
    exact br_f (nI_ge (b := 256) (by omega) (by omega)) (mx_ag (hq i (by omega)) (mc_br (fun e => nm_r (nI_1 i) (F (by rw [hpq, e]; rfl))) (fun e => hS i (by omega) _ (mc_br (fun e2 => nm_r (nI_1 i) (F (by rw [hpq, e, e2]; rfl))) (fun e2 => mx_wos (by omega) (nm_r (mc_sum_t (p := p) (by rw [hpq, e, e2]; rfl)) (nm_r (nI_1 i) ih)))))))
theorem mx_wms {s t : Int32} {p q : Nat → Bool} (hq : ∀ j, j < 256 → ((nI j ^^^ t) &&& s = 0 ↔ q j = true)) (hpq : ∀ j, p j = (q j && S j)) (hS : mc_XS (cc, dl, ds, A, w) S) {post : Int32 → Prop} (hp : post (mc_sum p (mc_wt w) 256)) : wpX_weightMatching post (cc, dl, ds, A, w) s t :=
  show ∃ n5 : Nat, wX_weightMatching_5 post s t cc dl ds A w n5 0 0 from ⟨257, mx_wm hq hpq hS hp 256 0 rfl⟩
theorem mx_md {k : Int32} (hS : mc_XS (cc, dl, ds, A, w) S) {post : Int32 → Prop} : ∀ d i, i + d = 256 → post (mc_md S k d i) → wX_model_11 post k cc dl ds A w (d + 1) (nI (mc_cnt S i)) (nI i)
  | 0, i, h, hp => by
    have h' : i = 256 := by omega
    rw [h']
    exact br_t (nI_le (a := 256) (b := 256) (by omega) (by omega)) hp
  | d + 1, i, h, hp => by
    refine br_f (nI_ge (b := 256) (by omega) (by omega)) (hS i (by omega) _ (mc_br (fun e => nm_r (nI_1 i) ?_) (fun e => br_c (fun z => ?_) (fun z => nm_r (mc_cnt_t e) (nm_r (nI_1 i) ?_)))))
    · rw [mc_md_f e] at hp
      rw [mc_cnt_f e]
      exact mx_md hS d (i + 1) (by omega) hp
    · rw [mc_md_t e z] at hp
      exact hp
    · rw [mc_md_n e z] at hp
      exact mx_md hS d (i + 1) (by omega) hp
theorem mx_at (hS : mc_XS (cc, dl, ds, A, w) S) {post : Int32 → Prop} (h0 : mc_any S 256 = false → post (-4)) (h1 : mc_any S 256 = true → post (mc_at S 256)) : ∀ d i, i + d = 256 → wX_alwaysTrue_8 post cc dl ds A w (d + 1) (mc_b (mc_any S i)) (mc_at S i) (nI i)
  | 0, i, h => by
    have h' : i = 256 := by omega
    rw [h']
    exact br_t (nI_le (a := 256) (b := 256) (by omega) (by omega)) (mc_br h0 h1)
  | d + 1, i, h => by
    have ih := mx_at hS h0 h1 d (i + 1) (by omega)
    refine br_f (nI_ge (b := 256) (by omega) (by omega)) (hS i (by omega) _ (mc_br (fun e => nm_r (nI_1 i) ?_) (fun e => nm_e (nm_r (nI_1 i) ?_))))
    · rw [mc_any_f e, mc_at_f e] at ih
      exact ih
    · rw [mc_any_t e, mc_at_t e] at ih
      exact ih
theorem mx_af (hS : mc_XS (cc, dl, ds, A, w) S) {post : Int32 → Prop} (h0 : mc_any S 256 = false → post (-4)) (h1 : mc_any S 256 = true → post (255 - nI (mc_os S 256))) : ∀ d i, i + d = 256 → wX_alwaysFalse_8 post cc dl ds A w (d + 1) (mc_b (mc_any S i)) (255 - nI (mc_os S i)) (nI i)
  | 0, i, h => by
    have h' : i = 256 := by omega
    rw [h']
    exact br_t (nI_le (a := 256) (b := 256) (by omega) (by omega)) (mc_br h0 h1)
  | d + 1, i, h => by
    have ih := mx_af hS h0 h1 d (i + 1) (by omega)
    refine br_f (nI_ge (b := 256) (by omega) (by omega)) (hS i (by omega) _ (mc_br (fun e => nm_r (nI_1 i) ?_) (fun e => nm_r (mc_not (mc_os_lt S i (by omega)) (by omega)).1 (nm_r (nI_1 i) ?_))))
    · rw [mc_any_f e, mc_os_f e] at ih
      exact ih
    · rw [mc_any_t e, mc_os_t e] at ih
      exact ih
theorem mx_ii {v : Nat} (hv : v < 8) (hS : mc_XS (cc, dl, ds, A, w) S) {post : Int32 → Prop} (hp : post (mc_b (mc_id S v))) : ∀ d i, i + d = 256 → (∀ j, j < i → ¬ mc_bad S v j = true) → wX_isIdle_2 post (nI v) cc dl ds A w (d + 1) (nI i)
  | 0, i, h, hc => by
    have h' : i = 256 := by omega
    rw [h'] at hc ⊢
    have e : mc_id S v = true := decide_eq_true hc
    rw [e] at hp
    exact br_t (nI_le (a := 256) (b := 256) (by omega) (by omega)) hp
  | d + 1, i, h, hc => by
    refine br_f (nI_ge (b := 256) (by omega) (by omega)) (hS i (by omega) _ (mc_br (fun e => nm_r (nI_1 i) (mx_ii hv hS hp d (i + 1) (by omega) (lt_s hc (mc_bad1 e)))) (fun e => ?_)))
    obtain ⟨ef, hf⟩ := mc_flip (j := i) (v := v) (by omega) hv
    rw [ef]
    refine hS _ hf _ (mc_br (fun e2 => ?_) (fun e2 => nm_r (nI_1 i) (mx_ii hv hS hp d (i + 1) (by omega) (lt_s hc (mc_bad2 e2)))))
    have e3 : mc_id S v = false := decide_eq_false (fun f => f i (by omega) (mc_bad3 e e2))
    rw [e3] at hp
    exact hp
theorem mx_iis {v : Nat} (hv : v < 8) (hS : mc_XS (cc, dl, ds, A, w) S) {post : Int32 → Prop} (hp : post (mc_b (mc_id S v))) : wpX_isIdle post (cc, dl, ds, A, w) (nI v) :=
  show ∃ n2 : Nat, wX_isIdle_2 post (nI v) cc dl ds A w n2 0 from ⟨257, mx_ii hv hS hp 256 0 rfl (fun j h => absurd h (Nat.not_lt_zero j))⟩
theorem mx_id (hS : mc_XS (cc, dl, ds, A, w) S) {post : Int32 → Prop} (hp : post (mc_ids S 8)) : ∀ d v, v + d = 8 → wX_idle_4 post cc dl ds A w (d + 1) (mc_ids S v) (nI v)
  | 0, v, h => by
    have h' : v = 8 := by omega
    rw [h']
    exact br_t (nI_le (a := 8) (b := 8) (by omega) (by omega)) hp
  | d + 1, v, h => by
    have ih := mx_id hS hp d (v + 1) (by omega)
    refine br_f (nI_ge (b := 8) (by omega) (by omega)) (mx_iis (by omega) hS (mc_br (fun e => nm_r (nI_1 v) ?_) (fun e => nm_r (mc_ids_t e) (nm_r (nI_1 v) ih))))
    rw [mc_ids_f e]
    exact ih
theorem mx_lt (hS : mc_XS (cc, dl, ds, A, w) S) {post : Int32 → Prop} (hp : ∀ x, mc_L S 256 x → post x) : ∀ d i x, i + d = 256 → mc_L S i x → wX_leastTrue_5 post cc dl ds A w (d + 1) x (nI i)
  | 0, i, x, h, hx => by
    have h' : i = 256 := by omega
    rw [h'] at hx ⊢
    exact br_t (nI_le (a := 256) (b := 256) (by omega) (by omega)) (hp x hx)
  | d + 1, i, x, h, hx => by
    refine br_f (nI_ge (b := 256) (by omega) (by omega)) (hS i (by omega) _ (mc_br (fun e => nm_r (nI_1 i) (mx_lt hS hp d (i + 1) x (by omega) (mc_L_f hx e))) (fun e => mx_tvs i ?_)))
    rw [mc_tvn i (by omega)]
    refine br_c (fun z => nm_r (nI_1 i) ?_) (fun z => br_c (fun y => nm_r (nI_1 i) ?_) (fun y => nm_r (nI_1 i) ?_))
    · rw [z] at hx
      exact mx_lt hS hp d (i + 1) _ (by omega) (mc_L_new (by omega) hx e)
    · exact mx_lt hS hp d (i + 1) _ (by omega) ((mc_L_old (by omega) hx e z).1 y)
    · exact mx_lt hS hp d (i + 1) _ (by omega) ((mc_L_old (by omega) hx e z).2 y)
end
theorem mx_ivN {x : Int32} {post : Int32 → Prop} (h : x < 0) (hp : post 0) : wpX_isVariable post x := br_t h hp
theorem mx_ivB {j : Nat} {post : Int32 → Prop} (hj : j < 2 ^ 31) (h : 8 ≤ j) (hp : post 0) : wpX_isVariable post (nI j) := br_f (nI_pos hj) (br_t (nI_le (a := 8) h hj) hp)
theorem mx_ivO {j : Nat} {post : Int32 → Prop} (h : j < 8) (hp : post 1) : wpX_isVariable post (nI j) := br_f (nI_pos (by omega)) (br_f (nI_ge (b := 8) h (by omega)) hp)
theorem mx_iaN {x : Int32} {post : Int32 → Prop} (h : x < 0) (hp : post 0) : wpX_isAssignment post x := br_t h hp
theorem mx_iaB {j : Nat} {post : Int32 → Prop} (hj : j < 2 ^ 31) (h : 256 ≤ j) (hp : post 0) : wpX_isAssignment post (nI j) := br_f (nI_pos hj) (br_t (nI_le (a := 256) h hj) hp)
theorem mx_iaO {j : Nat} {post : Int32 → Prop} (h : j < 256) (hp : post 1) : wpX_isAssignment post (nI j) := br_f (nI_pos (by omega)) (br_f (nI_ge (b := 256) h (by omega)) hp)
theorem mx_itN {x : Int32} {post : Int32 → Prop} (h : x < 0) (hp : post 0) : wpX_isTruth post x :=
  br_f (fun e => absurd (e ▸ h) (by decide)) (br_f (fun e => absurd (e ▸ h) (by decide)) hp)
theorem mx_itB {j : Nat} {post : Int32 → Prop} (hj : j < 2 ^ 31) (h : 2 ≤ j) (hp : post 0) : wpX_isTruth post (nI j) :=
  br_f (nI_ne0 (by omega) hj) (br_f (fun e => absurd ((nI_eq (b := 1) hj (by omega)).mp e) (by omega)) hp)
theorem mx_itO {j : Nat} {post : Int32 → Prop} (h : j < 2) (hp : post 1) : wpX_isTruth post (nI j) := by
  rcases (by omega : j = 0 ∨ j = 1) with e | e
  · rw [e]
    exact br_t rfl hp
  · rw [e]
    exact br_f (by decide) (br_t rfl hp)
