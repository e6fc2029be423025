/-! the pure picture: truths, literals, masks, counts, sums -/
def mc_it {α : Type} (g : Nat → α → α) (s : α) : Nat → α
  | 0 => s
  | n + 1 => g n (mc_it g s n)
/-- the truth of variable v under assignment j -/
def mc_tr (j v : Nat) : Int32 := (nI j >>> (nI v &&& 31)) &&& 1
theorem mc_trN {j v : Nat} (hj : j < 2 ^ 31) (hv : v < 32) : mc_tr j v = nI (j / 2 ^ v % 2) := by
  have e := pk_andN (n := j / 2 ^ v) (m := 1) (Nat.lt_of_le_of_lt (Nat.div_le_self _ _) (by omega)) 1 (by decide)
  unfold mc_tr
  rw [pk_shrN hj _ v (s_l v hv)]
  exact e
theorem mc_tr01 {j v : Nat} (hj : j < 256) (hv : v < 8) : mc_tr j v = nI 0 ∨ mc_tr j v = nI 1 := by
  rw [mc_trN (by omega) (by omega)]
  rcases Nat.mod_two_eq_zero_or_one (j / 2 ^ v) with e | e
  · exact Or.inl (congrArg nI e)
  · exact Or.inr (congrArg nI e)
/-- the set of true literals of j -/
def mc_li (j : Nat) : Int32 := mc_it (fun v s => s ||| ((1 : Int32) <<< ((2 * nI v + 1 - mc_tr j v) &&& 31))) 0 8
/-- how many variables are true under j -/
def mc_tv (j : Nat) : Int32 := mc_it (fun v s => s + mc_tr j v) 0 8
def mc_tn (j : Nat) : Nat := mc_it (fun v s => s + j / 2 ^ v % 2) 0 8
theorem mc_tvn : ∀ j, j < 256 → mc_tv j = nI (mc_tn j) := by decide +kernel
theorem mc_tn8 : ∀ j, j < 256 → mc_tn j ≤ 8 := by decide +kernel
theorem mc_lit : ∀ j, j < 256 → ∀ l, l < 16 → (((1 : Int32) <<< (nI l &&& 31)) &&& mc_li j = 0 ↔ mc_tr j (l / 2) = nI (l % 2)) := by decide +kernel
theorem mc_shr : ∀ j, j < 256 → ∀ v, v < 8 → ∀ b, b < 2 → ((nI j ^^^ (nI b <<< (nI v &&& 31))) &&& ((1 : Int32) <<< (nI v &&& 31)) = 0 ↔ mc_tr j v = nI b) := by decide +kernel
theorem mc_1v : ∀ v, v < 8 → (1 : Int32) <<< (nI v &&& 31) = nI (2 ^ v) ∧ 2 ^ v < 256 := by decide +kernel
theorem mc_flip {j v : Nat} (hj : j < 256) (hv : v < 8) : nI j ^^^ ((1 : Int32) <<< (nI v &&& 31)) = nI (j ^^^ 2 ^ v) ∧ j ^^^ 2 ^ v < 256 := by
  obtain ⟨e, h⟩ := mc_1v v hv
  rw [e, nx_xor]
  exact ⟨rfl, Nat.xor_lt_two_pow (n := 8) hj h⟩
theorem mc_agr (a t s : Int32) : (a ^^^ t) &&& s = 0 ↔ a &&& s = t &&& s := by
  have e : (a ^^^ t) &&& s = (a &&& s) ^^^ (t &&& s) := by
    apply b_ext
    intro i _
    rw [b_and, b_xor, b_xor, b_and, b_and]
    cases bt a i <;> cases bt t i <;> cases bt s i <;> rfl
  rw [e, Int32.xor_eq_zero_iff]
theorem mc_and0 (x : Int32) : x &&& 0 = 0 := by
  apply b_ext
  intro i _
  rw [b_and, b_0]
  exact Bool.and_false _
theorem mc_agr0 (a : Int32) : (a ^^^ 0) &&& 0 = 0 := mc_and0 _
/-- a clause as the set of its s literals, which stand in g from b on -/
def mc_mask (g : Nat → Int32) (b : Nat) : Nat → Int32
  | 0 => 0
  | s + 1 => mc_mask g b s ||| ((1 : Int32) <<< (g (b + s) &&& 31))
theorem mc_mask_c {g g' : Nat → Int32} {b b' : Nat} : ∀ {s : Nat}, (∀ i, i < s → g' (b' + i) = g (b + i)) → mc_mask g' b' s = mc_mask g b s
  | 0, _ => rfl
  | s + 1, h => by
    show mc_mask g' b' s ||| _ = mc_mask g b s ||| _
    rw [mc_mask_c (s := s) (fun i hi => h i (by omega)), h s (by omega)]
theorem mc_ord (x y z : Int32) : (x ||| y) &&& z = 0 ↔ x &&& z = 0 ∧ y &&& z = 0 := by
  have e : (x ||| y) &&& z = (x &&& z) ||| (y &&& z) := by
    apply b_ext
    intro i _
    rw [b_and, b_or, b_or, b_and, b_and]
    cases bt x i <;> cases bt y i <;> cases bt z i <;> rfl
  rw [e, Int32.or_eq_zero_iff]
theorem mc_mask0 (g : Nat → Int32) (b : Nat) (L : Int32) : ∀ s : Nat, mc_mask g b s &&& L = 0 ↔ ∀ i, i < s → ((1 : Int32) <<< (g (b + i) &&& 31)) &&& L = 0
  | 0 => ⟨fun _ i hi => absurd hi (Nat.not_lt_zero i), fun _ => by
      show (0 : Int32) &&& L = 0
      apply b_ext
      intro i _
      rw [b_and, b_0]
      rfl⟩
  | s + 1 => by
    show (mc_mask g b s ||| _) &&& L = 0 ↔ _
    rw [mc_ord, mc_mask0 g b L s]
    constructor
    · rintro ⟨h1, h2⟩ i hi
      rcases Nat.lt_or_ge i s with h | h
      · exact h1 i h
      · obtain rfl : i = s := by omega
        exact h2
    · intro h
      exact ⟨fun i hi => h i (by omega), h s (by omega)⟩
/-- clause c of the reference is the set m of literals -/
def mc_Cl (g z : Nat → Int32) (c : Nat) (s : Nat) (m : Int32) : Prop :=
  s ≤ 3 ∧ z c = nI s ∧ (∀ i, i < s → ∃ l, l < 16 ∧ g (3 * c + i) = nI l) ∧ m = mc_mask g (3 * c) s
theorem mc_Cl_c {g z g' z' : Nat → Int32} {c s : Nat} {m : Int32} (h : mc_Cl g z c s m) (hz : z' c = z c) (hg : ∀ i, i < 3 → g' (3 * c + i) = g (3 * c + i)) : mc_Cl g' z' c s m := by
  obtain ⟨h1, h2, h3, h4⟩ := h
  refine ⟨h1, hz.trans h2, fun i hi => ?_, h4.trans (mc_mask_c (fun i hi => hg i (by omega))).symm⟩
  rw [hg i (by omega)]
  exact h3 i hi
/-- does j make the first n clauses true -/
def mc_S (A : Nat → Int32) (n j : Nat) : Bool := decide (∀ c, c < n → ¬ A c &&& mc_li j = 0)
/-- a boolean as the int that the machine has -/
def mc_b : Bool → Int32
  | true => 1
  | false => 0
theorem mc_b0 {b : Bool} : mc_b b = 0 ↔ b = false := by cases b <;> decide
theorem mc_bn (b : Bool) : narrow .boolean (.int (mc_b b)) = .int (mc_b b) := by cases b <;> rfl
/-- how many numbers below n have p -/
def mc_cnt (p : Nat → Bool) : Nat → Nat
  | 0 => 0
  | n + 1 => if p n = true then mc_cnt p n + 1 else mc_cnt p n
theorem mc_cnt_le (p : Nat → Bool) : ∀ n, mc_cnt p n ≤ n
  | 0 => Nat.le_refl 0
  | n + 1 => by
    have := mc_cnt_le p n
    unfold mc_cnt
    split <;> omega
theorem mc_cnt_t {p : Nat → Bool} {n : Nat} (h : p n = true) : nI (mc_cnt p n) + 1 = nI (mc_cnt p (n + 1)) := by
  rw [nI_1]
  exact congrArg nI (if_pos h).symm
theorem mc_cnt_f {p : Nat → Bool} {n : Nat} (h : p n = false) : nI (mc_cnt p n) = nI (mc_cnt p (n + 1)) :=
  congrArg nI (if_neg (by rw [h]; decide)).symm
theorem mc_cnt_pos (p : Nat → Bool) : ∀ n, 0 < mc_cnt p n ↔ ∃ j, j < n ∧ p j = true
  | 0 => ⟨fun h => absurd h (Nat.lt_irrefl 0), fun ⟨j, h, _⟩ => absurd h (Nat.not_lt_zero j)⟩
  | n + 1 => by
    have ih := mc_cnt_pos p n
    unfold mc_cnt
    split
    · rename_i h
      exact ⟨fun _ => ⟨n, by omega, h⟩, fun _ => by omega⟩
    · rename_i h
      rw [ih]
      constructor
      · rintro ⟨j, h1, h2⟩
        exact ⟨j, by omega, h2⟩
      · rintro ⟨j, h1, h2⟩
        refine ⟨j, ?_, h2⟩
        rcases Nat.lt_or_ge j n with h3 | h3
        · exact h3
        · obtain rfl : j = n := by omega
          exact absurd h2 h
/-- the sum of f over those numbers below n that have p -/
def mc_sum (p : Nat → Bool) (f : Nat → Int32) : Nat → Int32
  | 0 => 0
  | n + 1 => if p n = true then mc_sum p f n + f n else mc_sum p f n
theorem mc_sum_t {p : Nat → Bool} {f : Nat → Int32} {n : Nat} (h : p n = true) : mc_sum p f n + f n = mc_sum p f (n + 1) := (if_pos h).symm
theorem mc_sum_f {p : Nat → Bool} {f : Nat → Int32} {n : Nat} (h : p n = false) : mc_sum p f n = mc_sum p f (n + 1) := (if_neg (by rw [h]; decide)).symm
theorem mc_sum_c {p q : Nat → Bool} {f : Nat → Int32} : ∀ {n : Nat}, (∀ j, j < n → p j = q j) → mc_sum p f n = mc_sum q f n
  | 0, _ => rfl
  | n + 1, h => by
    unfold mc_sum
    rw [h n (by omega), mc_sum_c (n := n) (fun j hj => h j (by omega))]
theorem mc_cnt_c {p q : Nat → Bool} : ∀ {n : Nat}, (∀ j, j < n → p j = q j) → mc_cnt p n = mc_cnt q n
  | 0, _ => rfl
  | n + 1, h => by
    unfold mc_cnt
    rw [h n (by omega), mc_cnt_c (n := n) (fun j hj => h j (by omega))]
theorem mc_ac1 (x y w : Int32) : x + y + w = (x + w) + y := by
  rw [Int32.add_assoc, Int32.add_comm y w, ← Int32.add_assoc]
theorem mc_ac2 (x y w : Int32) : x + y + w = x + (y + w) := Int32.add_assoc x y w
/-- the sum over all is the sum over those that have q and the sum over the rest -/
theorem mc_split (p q0 q1 : Nat → Bool) (f : Nat → Int32) : ∀ n, (∀ j, j < n → q1 j = !q0 j) → mc_sum p f n = mc_sum (fun j => q0 j && p j) f n + mc_sum (fun j => q1 j && p j) f n
  | 0, _ => rfl
  | n + 1, h => by
    have ih := mc_split p q0 q1 f n (fun j hj => h j (by omega))
    have hn := h n (by omega)
    cases hp : p n
    · rw [← mc_sum_f hp, ← mc_sum_f (p := fun j => q0 j && p j) (by simp only [hp, Bool.and_false]), ← mc_sum_f (p := fun j => q1 j && p j) (by simp only [hp, Bool.and_false])]
      exact ih
    · cases hq : q0 n
      · rw [← mc_sum_t hp, ← mc_sum_f (p := fun j => q0 j && p j) (by simp only [hq, Bool.false_and]), ← mc_sum_t (p := fun j => q1 j && p j) (by simp only [hn, hq, hp, Bool.not_false, Bool.and_true]), ih]
        exact mc_ac2 _ _ _
      · rw [← mc_sum_t hp, ← mc_sum_t (p := fun j => q0 j && p j) (by simp only [hq, hp, Bool.and_true]), ← mc_sum_f (p := fun j => q1 j && p j) (by simp only [hn, hq, Bool.not_true, Bool.false_and]), ih]
        exact mc_ac1 _ _ _
/-- 255 less a set of variables is the set of the others -/
theorem mc_or (a b : Nat) : nI a ||| nI b = nI (a ||| b) := by
  apply Int32.toBitVec_inj.1
  show BitVec.ofNat 32 a ||| BitVec.ofNat 32 b = BitVec.ofNat 32 (a ||| b)
  apply BitVec.eq_of_getLsbD_eq
  intro i hi
  simp [hi]
theorem mc_255 : ∀ s, s < 256 → (255 : Int32) - nI s = 255 ^^^ nI s ∧ nI s &&& 255 = nI s := by decide +kernel
theorem mc_not {s a : Nat} (hs : s < 256) (ha : a < 256) : ((255 : Int32) - nI s) &&& (nI a ^^^ (-1)) = 255 - nI (s ||| a) ∧ s ||| a < 256 := by
  have h : s ||| a < 256 := Nat.or_lt_two_pow (n := 8) hs ha
  refine ⟨?_, h⟩
  rw [(mc_255 s hs).1, (mc_255 _ h).1, ← mc_or]
  have es := (mc_255 s hs).2
  have ea := (mc_255 a ha).2
  apply b_ext
  intro i hi
  have fs : (bt (nI s) i && bt 255 i) = bt (nI s) i := by rw [← b_and, es]
  have fa : (bt (nI a) i && bt 255 i) = bt (nI a) i := by rw [← b_and, ea]
  rw [b_and, b_xor, b_xor, b_xor, b_or, b_m1 i hi]
  revert fs fa
  cases bt (nI s) i <;> cases bt (nI a) i <;> cases bt 255 i <;> simp
/-- the product of the weights of j's literals -/
def mc_pr (w : Nat → Int32) (j : Nat) : Nat → Int32 := mc_it (fun v s => s * w (2 * v + j / 2 ^ v % 2)) 1
def mc_wt (w : Nat → Int32) (j : Nat) : Int32 := mc_pr w j 8
theorem mc_ix {j v : Nat} (hj : j < 256) (hv : v < 8) : 2 * nI v + ((nI j >>> (nI v &&& 31)) &&& 1) = nI (2 * v + j / 2 ^ v % 2) := by
  have e := mc_trN (j := j) (v := v) (by omega) (by omega)
  unfold mc_tr at e
  rw [e]
  exact (congrArg (fun q => q + nI (j / 2 ^ v % 2)) (pk_mul 2 v)).trans (nI_add _ _)
theorem mc_br {s : Bool} {P Q : Prop} (ha : s = false → P) (hb : s = true → Q) : (mc_b s = 0 → P) ∧ (¬ mc_b s = 0 → Q) := by
  cases s
  · exact ⟨fun _ => ha rfl, fun h => absurd rfl h⟩
  · exact ⟨fun h => absurd h (by decide), fun _ => hb rfl⟩
/-- model(k): from assignment i on, d of them left -/
def mc_md (S : Nat → Bool) (k : Int32) : Nat → Nat → Int32
  | 0, _ => -4
  | d + 1, i => if S i = true then (if nI (mc_cnt S i) = k then nI i else mc_md S k d (i + 1)) else mc_md S k d (i + 1)
theorem mc_md_f {S : Nat → Bool} {k : Int32} {d i : Nat} (h : S i = false) : mc_md S k (d + 1) i = mc_md S k d (i + 1) := if_neg (by rw [h]; decide)
theorem mc_md_t {S : Nat → Bool} {k : Int32} {d i : Nat} (h : S i = true) (hk : nI (mc_cnt S i) = k) : mc_md S k (d + 1) i = nI i := (if_pos h).trans (if_pos hk)
theorem mc_md_n {S : Nat → Bool} {k : Int32} {d i : Nat} (h : S i = true) (hk : ¬ nI (mc_cnt S i) = k) : mc_md S k (d + 1) i = mc_md S k d (i + 1) := (if_pos h).trans (if_neg hk)
theorem mc_md_neg {S : Nat → Bool} {k : Int32} (hk : ¬ 0 ≤ k) : ∀ d i, i + d = 256 → mc_md S k d i = -4
  | 0, _, _ => rfl
  | d + 1, i, h => by
    have ih := mc_md_neg (S := S) hk d (i + 1) (by omega)
    cases e : S i
    · rw [mc_md_f e]
      exact ih
    · rw [mc_md_n e]
      · exact ih
      · intro z
        apply hk
        rw [← z]
        have := mc_cnt_le S i
        exact nI_pos' (by omega)
def mc_any (S : Nat → Bool) : Nat → Bool
  | 0 => false
  | n + 1 => S n || mc_any S n
theorem mc_any_t {S : Nat → Bool} {n : Nat} (h : S n = true) : mc_b (mc_any S (n + 1)) = 1 := by
  show mc_b (S n || mc_any S n) = 1
  rw [h]
  rfl
theorem mc_any_f {S : Nat → Bool} {n : Nat} (h : S n = false) : mc_b (mc_any S (n + 1)) = mc_b (mc_any S n) := by
  show mc_b (S n || mc_any S n) = _
  rw [h]
  rfl
def mc_at (S : Nat → Bool) : Nat → Int32
  | 0 => 255
  | n + 1 => if S n = true then mc_at S n &&& nI n else mc_at S n
theorem mc_at_t {S : Nat → Bool} {n : Nat} (h : S n = true) : mc_at S (n + 1) = mc_at S n &&& nI n := if_pos h
theorem mc_at_f {S : Nat → Bool} {n : Nat} (h : S n = false) : mc_at S (n + 1) = mc_at S n := if_neg (by rw [h]; decide)
def mc_os (S : Nat → Bool) : Nat → Nat
  | 0 => 0
  | n + 1 => if S n = true then mc_os S n ||| n else mc_os S n
theorem mc_os_t {S : Nat → Bool} {n : Nat} (h : S n = true) : mc_os S (n + 1) = mc_os S n ||| n := if_pos h
theorem mc_os_f {S : Nat → Bool} {n : Nat} (h : S n = false) : mc_os S (n + 1) = mc_os S n := if_neg (by rw [h]; decide)
theorem mc_os_lt (S : Nat → Bool) : ∀ n, n ≤ 256 → mc_os S n < 256
  | 0, _ => Nat.zero_lt_succ 255
  | n + 1, h => by
    have ih := mc_os_lt S n (by omega)
    cases e : S n
    · rw [mc_os_f e]
      exact ih
    · rw [mc_os_t e]
      exact Nat.or_lt_two_pow (n := 8) ih (by omega)
/-- j speaks against v being idle -/
def mc_bad (S : Nat → Bool) (v j : Nat) : Bool := S j && !S (j ^^^ 2 ^ v)
theorem mc_bad1 {S : Nat → Bool} {v j : Nat} (h : S j = false) : ¬ mc_bad S v j = true := by
  unfold mc_bad
  rw [h]
  exact Bool.false_ne_true
theorem mc_bad2 {S : Nat → Bool} {v j : Nat} (h : S (j ^^^ 2 ^ v) = true) : ¬ mc_bad S v j = true := by
  unfold mc_bad
  rw [h]
  cases S j <;> decide
theorem mc_bad3 {S : Nat → Bool} {v j : Nat} (h : S j = true) (h2 : S (j ^^^ 2 ^ v) = false) : mc_bad S v j = true := by
  unfold mc_bad
  rw [h, h2]
  rfl
/-- does nothing below n speak against v being idle -/
def mc_idn (S : Nat → Bool) (v n : Nat) : Bool := decide (∀ j, j < n → ¬ mc_bad S v j = true)
def mc_id (S : Nat → Bool) (v : Nat) : Bool := mc_idn S v 256
def mc_ids (S : Nat → Bool) : Nat → Int32
  | 0 => 0
  | v + 1 => if mc_id S v = true then mc_ids S v ||| ((1 : Int32) <<< (nI v &&& 31)) else mc_ids S v
theorem mc_ids_t {S : Nat → Bool} {v : Nat} (h : mc_id S v = true) : mc_ids S v ||| ((1 : Int32) <<< (nI v &&& 31)) = mc_ids S (v + 1) := (if_pos h).symm
theorem mc_ids_f {S : Nat → Bool} {v : Nat} (h : mc_id S v = false) : mc_ids S v = mc_ids S (v + 1) := (if_neg (by rw [h]; decide)).symm
/-- x is the least number of true variables among the models below i, or -4 -/
def mc_L (S : Nat → Bool) (i : Nat) (x : Int32) : Prop :=
  (x = -4 ∧ ∀ j, j < i → S j = false) ∨ (∃ m, m ≤ 8 ∧ x = nI m ∧ (∃ j, j < i ∧ S j = true ∧ mc_tn j = m) ∧ ∀ j, j < i → S j = true → m ≤ mc_tn j)
theorem mc_L0 (S : Nat → Bool) : mc_L S 0 (-4) := Or.inl ⟨rfl, fun j h => absurd h (Nat.not_lt_zero j)⟩
theorem mc_L_f {S : Nat → Bool} {i : Nat} {x : Int32} (h : mc_L S i x) (e : S i = false) : mc_L S (i + 1) x := by
  rcases h with ⟨h1, h2⟩ | ⟨m, h1, h2, ⟨j, h3, h4⟩, h5⟩
  · exact Or.inl ⟨h1, lt_s h2 e⟩
  · refine Or.inr ⟨m, h1, h2, ⟨j, by omega, h4⟩, lt_s h5 (fun z => ?_)⟩
    rw [e] at z
    exact absurd z (by decide)
theorem mc_L_new {S : Nat → Bool} {i : Nat} (hi : i < 256) (h : mc_L S i (-4)) (e : S i = true) : mc_L S (i + 1) (nI (mc_tn i)) := by
  rcases h with ⟨h1, h2⟩ | ⟨m, h1, h2, ⟨j, h3, h4⟩, h5⟩
  · refine Or.inr ⟨mc_tn i, mc_tn8 i hi, rfl, ⟨i, by omega, e, rfl⟩, lt_s (fun j hj z => ?_) (fun _ => Nat.le_refl _)⟩
    rw [h2 j hj] at z
    exact absurd z (by decide)
  · have z := nI_pos (n := m) (by omega)
    rw [← h2] at z
    exact absurd (by decide) z
theorem mc_L_old {S : Nat → Bool} {i : Nat} {x : Int32} (hi : i < 256) (h : mc_L S i x) (e : S i = true) (hx : ¬ x = -4) : (x ≤ nI (mc_tn i) → mc_L S (i + 1) x) ∧ (¬ x ≤ nI (mc_tn i) → mc_L S (i + 1) (nI (mc_tn i))) := by
  have h8 := mc_tn8 i hi
  rcases h with ⟨h1, h2⟩ | ⟨m, h1, h2, ⟨j, h3, h4⟩, h5⟩
  · exact absurd h1 hx
  · rw [h2, nI_leI (by omega) (by omega)]
    refine ⟨fun hm => ?_, fun hm => ?_⟩
    · exact Or.inr ⟨m, h1, rfl, ⟨j, by omega, h4⟩, lt_s h5 (fun _ => hm)⟩
    · exact Or.inr ⟨mc_tn i, h8, rfl, ⟨i, by omega, e, rfl⟩, lt_s (fun j hj z => Nat.le_trans (by omega) (h5 j hj z)) (fun _ => Nat.le_refl _)⟩
