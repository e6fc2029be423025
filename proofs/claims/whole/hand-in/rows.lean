section
/-! rows pasted from the kit's rows: stores, nI, branches by naturals, shifts, bits -/
theorem pk_us {f : Nat → Int32} {k : Nat} {x : Int32} : upd f k x k = x := if_pos rfl
theorem pk_un {f : Nat → Int32} {k j : Nat} {x : Int32} (h : j ≠ k) : upd f k x j = f j := if_neg h
theorem pk_sub {a b : Nat} (h : b ≤ a) : nI a - nI b = nI (a - b) := by
  obtain ⟨c, rfl⟩ : ∃ c, a = c + b := ⟨a - b, by omega⟩
  rw [← nI_add, Int32.add_sub_cancel, Nat.add_sub_cancel]
theorem pk_m1 (n : Nat) : nI (n + 1) + (-1) = nI n := by
  rw [← nI_1, Int32.add_assoc, show (1 : Int32) + (-1) = 0 from rfl, Int32.add_zero]
theorem pk_mul (a b : Nat) : nI a * nI b = nI (a * b) := (Int32.ofNat_mul a b).symm
theorem pk_div {a d : Nat} (ha : a < 2 ^ 31) (h0 : 0 < d) (hd : d < 2 ^ 31) : nI a / nI d = nI (a / d) := by
  apply Int32.toInt_inj.mp
  rw [lg_idiv_nonneg (by rw [nI_toInt ha]; omega) (by rw [nI_toInt hd]; omega), nI_toInt ha, nI_toInt hd, nI_toInt (Nat.lt_of_le_of_lt (Nat.div_le_self a d) ha)]
  first | rfl | exact (Int.natCast_ediv _ _).symm
theorem pk_rem {a d : Nat} (ha : a < 2 ^ 31) (h0 : 0 < d) (hd : d < 2 ^ 31) : nI a - nI a / nI d * nI d = nI (a % d) := by
  rw [pk_div ha h0 hd, pk_mul, pk_sub (Nat.div_mul_le_self a d)]
  exact congrArg nI (by have := Nat.div_add_mod' a d; omega)
theorem pk_le {x y : Int32} {A B : Prop} (a b : Nat) (f : a ≤ b → A) (g : b < a → B) (hx : x = nI a := by rfl) (hy : y = nI b := by rfl) (ha : a < 2 ^ 31 := by omega) (hb : b < 2 ^ 31 := by omega) : (x ≤ y → A) ∧ (¬ x ≤ y → B) := by
  subst hx hy
  rw [nI_leI ha hb]
  exact ⟨f, fun z => g (by omega)⟩
theorem pk_lt {x y : Int32} {A B : Prop} (a b : Nat) (f : a < b → A) (g : b ≤ a → B) (hx : x = nI a := by rfl) (hy : y = nI b := by rfl) (ha : a < 2 ^ 31 := by omega) (hb : b < 2 ^ 31 := by omega) : (x < y → A) ∧ (¬ x < y → B) := by
  subst hx hy
  rw [nI_ltI ha hb]
  exact ⟨f, fun z => g (by omega)⟩
theorem pk_eq {x y : Int32} {A B : Prop} (a b : Nat) (f : a = b → A) (g : a ≠ b → B) (hx : x = nI a := by rfl) (hy : y = nI b := by rfl) (ha : a < 2 ^ 31 := by omega) (hb : b < 2 ^ 31 := by omega) : (x = y → A) ∧ (¬ x = y → B) := by
  subst hx hy
  rw [nI_eq ha hb]
  exact ⟨f, g⟩
theorem pk_in {x : Int32} (n N : Nat) (h : n < N) (hx : x = nI n := by rfl) (hN : N < 2 ^ 31 := by omega) : vp_in x N := by
  subst hx
  exact vp_in_nI h hN
theorem pk_cl {x : Int32} (n : Nat) (hx : x = nI n := by rfl) (h : n < 2 ^ 31 := by omega) : x.toNatClampNeg = n := by
  subst hx
  exact nI_clamp h
theorem pk_tn {n : Nat} (h : n < 2 ^ 32) : (nI n).toBitVec.toNat = n := Nat.mod_eq_of_lt h
theorem pk_and (x : Int32) {m : Int32} (k : Nat) (hm : m.toBitVec.toNat = 2 ^ k - 1) : x &&& m = nI (x.toBitVec.toNat % 2 ^ k) := by
  apply Int32.toBitVec_inj.mp
  apply BitVec.eq_of_toNat_eq
  rw [Int32.toBitVec_and, BitVec.toNat_and, hm, Nat.and_two_pow_sub_one_eq_mod]
  show _ = (BitVec.ofNat 32 _).toNat
  rw [BitVec.toNat_ofNat]
  exact (Nat.mod_eq_of_lt (Nat.lt_of_le_of_lt (Nat.mod_le _ _) x.toBitVec.isLt)).symm
theorem pk_andN {n : Nat} (h : n < 2 ^ 32) {m : Int32} (k : Nat) (hm : m.toBitVec.toNat = 2 ^ k - 1) : nI n &&& m = nI (n % 2 ^ k) := by
  rw [pk_and _ k hm, pk_tn h]
theorem pk_shl (a s : Int32) (k : Nat) (hs : (s.toBitVec.smod 32).toNat = k) : (a <<< s).toBitVec.toNat = a.toBitVec.toNat * 2 ^ k % 2 ^ 32 := by
  show (a.toBitVec <<< (s.toBitVec.smod 32).toNat).toNat = _
  rw [hs, BitVec.toNat_shiftLeft, Nat.shiftLeft_eq]
theorem pk_shlN {n : Nat} (s : Int32) (k : Nat) (hs : (s.toBitVec.smod 32).toNat = k) (h : n * 2 ^ k < 2 ^ 32) : nI n <<< s = nI (n * 2 ^ k) := by
  apply Int32.toBitVec_inj.mp
  apply BitVec.eq_of_toNat_eq
  have hn : n < 2 ^ 32 := Nat.lt_of_le_of_lt (Nat.le_mul_of_pos_right n (Nat.two_pow_pos k)) h
  rw [pk_shl _ _ k hs, pk_tn hn, pk_tn h, Nat.mod_eq_of_lt h]
theorem pk_shr (a s : Int32) (k : Nat) (hs : (s.toBitVec.smod 32).toNat = k) : (a >>> s).toInt = a.toInt >>> k := by
  show (a.toBitVec.sshiftRight (s.toBitVec.smod 32).toNat).toInt = _
  rw [hs, BitVec.toInt_sshiftRight]
  rfl
theorem pk_shrN {n : Nat} (h : n < 2 ^ 31) (s : Int32) (k : Nat) (hs : (s.toBitVec.smod 32).toNat = k) : nI n >>> s = nI (n / 2 ^ k) := by
  apply Int32.toInt_inj.mp
  have h2 : n / 2 ^ k ≤ n := Nat.div_le_self _ _
  rw [pk_shr _ _ k hs, nI_toInt h, nI_toInt (by omega), Int.shiftRight_eq_div_pow]
  rfl
def bt (x : Int32) (i : Nat) : Bool := x.toBitVec.getLsbD i
theorem b_ext {x y : Int32} (h : ∀ i, i < 32 → bt x i = bt y i) : x = y := Int32.toBitVec_inj.mp (BitVec.eq_of_getLsbD_eq (fun i hi => h i hi))
theorem b_or (x y : Int32) (i : Nat) : bt (x ||| y) i = (bt x i || bt y i) := by unfold bt; rw [Int32.toBitVec_or, BitVec.getLsbD_or]
theorem b_and (x y : Int32) (i : Nat) : bt (x &&& y) i = (bt x i && bt y i) := by unfold bt; rw [Int32.toBitVec_and, BitVec.getLsbD_and]
theorem b_xor (x y : Int32) (i : Nat) : bt (x ^^^ y) i = (bt x i ^^ bt y i) := by unfold bt; rw [Int32.toBitVec_xor, BitVec.getLsbD_xor]
theorem b_big {x : Int32} {i : Nat} (h : 32 ≤ i) : bt x i = false := BitVec.getLsbD_of_ge _ _ h
theorem b_255 (i : Nat) : bt 255 i = decide (i < 8) := by
  rcases Nat.lt_or_ge i 32 with h | h
  · exact (by decide +kernel : ∀ i, i < 32 → bt 255 i = decide (i < 8)) i h
  · rw [b_big h, decide_eq_false (by omega)]
theorem b_m1 : ∀ i, i < 32 → bt (-1) i = true := by decide +kernel
theorem b_0 (i : Nat) : bt 0 i = false := BitVec.getLsbD_zero
theorem s_l : ∀ n, n < 32 → ((nI n &&& 31).toBitVec.smod 32).toNat = n := by decide +kernel
theorem nx_and (a b : Nat) : nI a &&& nI b = nI (a &&& b) := by
  apply Int32.toBitVec_inj.1
  show BitVec.ofNat 32 a &&& BitVec.ofNat 32 b = BitVec.ofNat 32 (a &&& b)
  apply BitVec.eq_of_getLsbD_eq
  intro i hi
  simp [hi]
theorem nx_xor (a b : Nat) : nI a ^^^ nI b = nI (a ^^^ b) := by
  apply Int32.toBitVec_inj.1
  show BitVec.ofNat 32 a ^^^ BitVec.ofNat 32 b = BitVec.ofNat 32 (a ^^^ b)
  apply BitVec.eq_of_getLsbD_eq
  intro i hi
  simp [hi]
end
section
/-! the pure picture: truths, literals, masks, counts, sums -/
def mc_it {α : Type} (g : Nat → α → α) (s : α) : Nat → α
  | 0 => s
  | n + 1 => g n (mc_it g s n)
/-- the truth of variable v under assignment j -/
def mc_tr (j v : Nat) : Int32 := (nI j >>> (nI v &&& 31)) &&& 1
theorem mc_trN {j v : Nat} (hj : j < 2 ^ 31) (hv : v < 32) : mc_tr j v = nI (j / 2 ^ v % 2) := by
  have e := pk_andN (n := j / 2 ^ v) (m := 1) (Nat.lt_of_le_of_lt (Nat.div_le_self _ _) (by omega)) 1 (by decide)
  unfold mc_tr
  rw [pk_shrN hj _ v (s_l v hv)]
  exact e
theorem mc_tr01 {j v : Nat} (hj : j < 256) (hv : v < 8) : mc_tr j v = nI 0 ∨ mc_tr j v = nI 1 := by
  rw [mc_trN (by omega) (by omega)]
  rcases Nat.mod_two_eq_zero_or_one (j / 2 ^ v) with e | e
  · exact Or.inl (congrArg nI e)
  · exact Or.inr (congrArg nI e)
/-- the set of true literals of j -/
def mc_li (j : Nat) : Int32 := mc_it (fun v s => s ||| ((1 : Int32) <<< ((2 * nI v + 1 - mc_tr j v) &&& 31))) 0 8
/-- how many variables are true under j -/
def mc_tv (j : Nat) : Int32 := mc_it (fun v s => s + mc_tr j v) 0 8
def mc_tn (j : Nat) : Nat := mc_it (fun v s => s + j / 2 ^ v % 2) 0 8
theorem mc_tvn : ∀ j, j < 256 → mc_tv j = nI (mc_tn j) := by decide +kernel
theorem mc_tn8 : ∀ j, j < 256 → mc_tn j ≤ 8 := by decide +kernel
theorem mc_lit : ∀ j, j < 256 → ∀ l, l < 16 → (((1 : Int32) <<< (nI l &&& 31)) &&& mc_li j = 0 ↔ mc_tr j (l / 2) = nI (l % 2)) := by decide +kernel
theorem mc_shr : ∀ j, j < 256 → ∀ v, v < 8 → ∀ b, b < 2 → ((nI j ^^^ (nI b <<< (nI v &&& 31))) &&& ((1 : Int32) <<< (nI v &&& 31)) = 0 ↔ mc_tr j v = nI b) := by decide +kernel
theorem mc_1v : ∀ v, v < 8 → (1 : Int32) <<< (nI v &&& 31) = nI (2 ^ v) ∧ 2 ^ v < 256 := by decide +kernel
theorem mc_flip {j v : Nat} (hj : j < 256) (hv : v < 8) : nI j ^^^ ((1 : Int32) <<< (nI v &&& 31)) = nI (j ^^^ 2 ^ v) ∧ j ^^^ 2 ^ v < 256 := by
  obtain ⟨e, h⟩ := mc_1v v hv
  rw [e, nx_xor]
  exact ⟨rfl, Nat.xor_lt_two_pow (n := 8) hj h⟩
theorem mc_agr (a t s : Int32) : (a ^^^ t) &&& s = 0 ↔ a &&& s = t &&& s := by
  have e : (a ^^^ t) &&& s = (a &&& s) ^^^ (t &&& s) := by
    apply b_ext
    intro i _
    rw [b_and, b_xor, b_xor, b_and, b_and]
    cases bt a i <;> cases bt t i <;> cases bt s i <;> rfl
  rw [e, Int32.xor_eq_zero_iff]
theorem mc_and0 (x : Int32) : x &&& 0 = 0 := by
  apply b_ext
  intro i _
  rw [b_and, b_0]
  exact Bool.and_false _
theorem mc_agr0 (a : Int32) : (a ^^^ 0) &&& 0 = 0 := mc_and0 _
/-- a clause as the set of its s literals, which stand in g from b on -/
def mc_mask (g : Nat → Int32) (b : Nat) : Nat → Int32
  | 0 => 0
  | s + 1 => mc_mask g b s ||| ((1 : Int32) <<< (g (b + s) &&& 31))
theorem mc_mask_c {g g' : Nat → Int32} {b b' : Nat} : ∀ {s : Nat}, (∀ i, i < s → g' (b' + i) = g (b + i)) → mc_mask g' b' s = mc_mask g b s
  | 0, _ => rfl
  | s + 1, h => by
    show mc_mask g' b' s ||| _ = mc_mask g b s ||| _
    rw [mc_mask_c (s := s) (fun i hi => h i (by omega)), h s (by omega)]
theorem mc_ord (x y z : Int32) : (x ||| y) &&& z = 0 ↔ x &&& z = 0 ∧ y &&& z = 0 := by
  have e : (x ||| y) &&& z = (x &&& z) ||| (y &&& z) := by
    apply b_ext
    intro i _
    rw [b_and, b_or, b_or, b_and, b_and]
    cases bt x i <;> cases bt y i <;> cases bt z i <;> rfl
  rw [e, Int32.or_eq_zero_iff]
theorem mc_mask0 (g : Nat → Int32) (b : Nat) (L : Int32) : ∀ s : Nat, mc_mask g b s &&& L = 0 ↔ ∀ i, i < s → ((1 : Int32) <<< (g (b + i) &&& 31)) &&& L = 0
  | 0 => ⟨fun _ i hi => absurd hi (Nat.not_lt_zero i), fun _ => by
      show (0 : Int32) &&& L = 0
      apply b_ext
      intro i _
      rw [b_and, b_0]
      rfl⟩
  | s + 1 => by
    show (mc_mask g b s ||| _) &&& L = 0 ↔ _
    rw [mc_ord, mc_mask0 g b L s]
    constructor
    · rintro ⟨h1, h2⟩ i hi
      rcases Nat.lt_or_ge i s with h | h
      · exact h1 i h
      · obtain rfl : i = s := by omega
        exact h2
    · intro h
      exact ⟨fun i hi => h i (by omega), h s (by omega)⟩
/-- clause c of the reference is the set m of literals -/
def mc_Cl (g z : Nat → Int32) (c : Nat) (s : Nat) (m : Int32) : Prop :=
  s ≤ 3 ∧ z c = nI s ∧ (∀ i, i < s → ∃ l, l < 16 ∧ g (3 * c + i) = nI l) ∧ m = mc_mask g (3 * c) s
theorem mc_Cl_c {g z g' z' : Nat → Int32} {c s : Nat} {m : Int32} (h : mc_Cl g z c s m) (hz : z' c = z c) (hg : ∀ i, i < 3 → g' (3 * c + i) = g (3 * c + i)) : mc_Cl g' z' c s m := by
  obtain ⟨h1, h2, h3, h4⟩ := h
  refine ⟨h1, hz.trans h2, fun i hi => ?_, h4.trans (mc_mask_c (fun i hi => hg i (by omega))).symm⟩
  rw [hg i (by omega)]
  exact h3 i hi
/-- does j make the first n clauses true -/
def mc_S (A : Nat → Int32) (n j : Nat) : Bool := decide (∀ c, c < n → ¬ A c &&& mc_li j = 0)
/-- a boolean as the int that the machine has -/
def mc_b : Bool → Int32
  | true => 1
  | false => 0
theorem mc_b0 {b : Bool} : mc_b b = 0 ↔ b = false := by cases b <;> decide
theorem mc_bn (b : Bool) : narrow .boolean (.int (mc_b b)) = .int (mc_b b) := by cases b <;> rfl
/-- how many numbers below n have p -/
def mc_cnt (p : Nat → Bool) : Nat → Nat
  | 0 => 0
  | n + 1 => if p n = true then mc_cnt p n + 1 else mc_cnt p n
theorem mc_cnt_le (p : Nat → Bool) : ∀ n, mc_cnt p n ≤ n
  | 0 => Nat.le_refl 0
  | n + 1 => by
    have := mc_cnt_le p n
    unfold mc_cnt
    split <;> omega
theorem mc_cnt_t {p : Nat → Bool} {n : Nat} (h : p n = true) : nI (mc_cnt p n) + 1 = nI (mc_cnt p (n + 1)) := by
  rw [nI_1]
  exact congrArg nI (if_pos h).symm
theorem mc_cnt_f {p : Nat → Bool} {n : Nat} (h : p n = false) : nI (mc_cnt p n) = nI (mc_cnt p (n + 1)) :=
  congrArg nI (if_neg (by rw [h]; decide)).symm
theorem mc_cnt_pos (p : Nat → Bool) : ∀ n, 0 < mc_cnt p n ↔ ∃ j, j < n ∧ p j = true
  | 0 => ⟨fun h => absurd h (Nat.lt_irrefl 0), fun ⟨j, h, _⟩ => absurd h (Nat.not_lt_zero j)⟩
  | n + 1 => by
    have ih := mc_cnt_pos p n
    unfold mc_cnt
    split
    · rename_i h
      exact ⟨fun _ => ⟨n, by omega, h⟩, fun _ => by omega⟩
    · rename_i h
      rw [ih]
      constructor
      · rintro ⟨j, h1, h2⟩
        exact ⟨j, by omega, h2⟩
      · rintro ⟨j, h1, h2⟩
        refine ⟨j, ?_, h2⟩
        rcases Nat.lt_or_ge j n with h3 | h3
        · exact h3
        · obtain rfl : j = n := by omega
          exact absurd h2 h
/-- the sum of f over those numbers below n that have p -/
def mc_sum (p : Nat → Bool) (f : Nat → Int32) : Nat → Int32
  | 0 => 0
  | n + 1 => if p n = true then mc_sum p f n + f n else mc_sum p f n
theorem mc_sum_t {p : Nat → Bool} {f : Nat → Int32} {n : Nat} (h : p n = true) : mc_sum p f n + f n = mc_sum p f (n + 1) := (if_pos h).symm
theorem mc_sum_f {p : Nat → Bool} {f : Nat → Int32} {n : Nat} (h : p n = false) : mc_sum p f n = mc_sum p f (n + 1) := (if_neg (by rw [h]; decide)).symm
theorem mc_sum_c {p q : Nat → Bool} {f : Nat → Int32} : ∀ {n : Nat}, (∀ j, j < n → p j = q j) → mc_sum p f n = mc_sum q f n
  | 0, _ => rfl
  | n + 1, h => by
    unfold mc_sum
    rw [h n (by omega), mc_sum_c (n := n) (fun j hj => h j (by omega))]
theorem mc_cnt_c {p q : Nat → Bool} : ∀ {n : Nat}, (∀ j, j < n → p j = q j) → mc_cnt p n = mc_cnt q n
  | 0, _ => rfl
  | n + 1, h => by
    unfold mc_cnt
    rw [h n (by omega), mc_cnt_c (n := n) (fun j hj => h j (by omega))]
theorem mc_ac1 (x y w : Int32) : x + y + w = (x + w) + y := by
  rw [Int32.add_assoc, Int32.add_comm y w, ← Int32.add_assoc]
theorem mc_ac2 (x y w : Int32) : x + y + w = x + (y + w) := Int32.add_assoc x y w
/-- the sum over all is the sum over those that have q and the sum over the rest -/
theorem mc_split (p q0 q1 : Nat → Bool) (f : Nat → Int32) : ∀ n, (∀ j, j < n → q1 j = !q0 j) → mc_sum p f n = mc_sum (fun j => q0 j && p j) f n + mc_sum (fun j => q1 j && p j) f n
  | 0, _ => rfl
  | n + 1, h => by
    have ih := mc_split p q0 q1 f n (fun j hj => h j (by omega))
    have hn := h n (by omega)
    cases hp : p n
    · rw [← mc_sum_f hp, ← mc_sum_f (p := fun j => q0 j && p j) (by simp only [hp, Bool.and_false]), ← mc_sum_f (p := fun j => q1 j && p j) (by simp only [hp, Bool.and_false])]
      exact ih
    · cases hq : q0 n
      · rw [← mc_sum_t hp, ← mc_sum_f (p := fun j => q0 j && p j) (by simp only [hq, Bool.false_and]), ← mc_sum_t (p := fun j => q1 j && p j) (by simp only [hn, hq, hp, Bool.not_false, Bool.and_true]), ih]
        exact mc_ac2 _ _ _
      · rw [← mc_sum_t hp, ← mc_sum_t (p := fun j => q0 j && p j) (by simp only [hq, hp, Bool.and_true]), ← mc_sum_f (p := fun j => q1 j && p j) (by simp only [hn, hq, Bool.not_true, Bool.false_and]), ih]
        exact mc_ac1 _ _ _
/-- 255 less a set of variables is the set of the others -/
theorem mc_or (a b : Nat) : nI a ||| nI b = nI (a ||| b) := by
  apply Int32.toBitVec_inj.1
  show BitVec.ofNat 32 a ||| BitVec.ofNat 32 b = BitVec.ofNat 32 (a ||| b)
  apply BitVec.eq_of_getLsbD_eq
  intro i hi
  simp [hi]
theorem mc_255 : ∀ s, s < 256 → (255 : Int32) - nI s = 255 ^^^ nI s ∧ nI s &&& 255 = nI s := by decide +kernel
theorem mc_not {s a : Nat} (hs : s < 256) (ha : a < 256) : ((255 : Int32) - nI s) &&& (nI a ^^^ (-1)) = 255 - nI (s ||| a) ∧ s ||| a < 256 := by
  have h : s ||| a < 256 := Nat.or_lt_two_pow (n := 8) hs ha
  refine ⟨?_, h⟩
  rw [(mc_255 s hs).1, (mc_255 _ h).1, ← mc_or]
  have es := (mc_255 s hs).2
  have ea := (mc_255 a ha).2
  apply b_ext
  intro i hi
  have fs : (bt (nI s) i && bt 255 i) = bt (nI s) i := by rw [← b_and, es]
  have fa : (bt (nI a) i && bt 255 i) = bt (nI a) i := by rw [← b_and, ea]
  rw [b_and, b_xor, b_xor, b_xor, b_or, b_m1 i hi]
  revert fs fa
  cases bt (nI s) i <;> cases bt (nI a) i <;> cases bt 255 i <;> simp
/-- the product of the weights of j's literals -/
def mc_pr (w : Nat → Int32) (j : Nat) : Nat → Int32 := mc_it (fun v s => s * w (2 * v + j / 2 ^ v % 2)) 1
def mc_wt (w : Nat → Int32) (j : Nat) : Int32 := mc_pr w j 8
theorem mc_ix {j v : Nat} (hj : j < 256) (hv : v < 8) : 2 * nI v + ((nI j >>> (nI v &&& 31)) &&& 1) = nI (2 * v + j / 2 ^ v % 2) := by
  have e := mc_trN (j := j) (v := v) (by omega) (by omega)
  unfold mc_tr at e
  rw [e]
  exact (congrArg (fun q => q + nI (j / 2 ^ v % 2)) (pk_mul 2 v)).trans (nI_add _ _)
theorem mc_br {s : Bool} {P Q : Prop} (ha : s = false → P) (hb : s = true → Q) : (mc_b s = 0 → P) ∧ (¬ mc_b s = 0 → Q) := by
  cases s
  · exact ⟨fun _ => ha rfl, fun h => absurd rfl h⟩
  · exact ⟨fun h => absurd h (by decide), fun _ => hb rfl⟩
/-- model(k): from assignment i on, d of them left -/
def mc_md (S : Nat → Bool) (k : Int32) : Nat → Nat → Int32
  | 0, _ => -4
  | d + 1, i => if S i = true then (if nI (mc_cnt S i) = k then nI i else mc_md S k d (i + 1)) else mc_md S k d (i + 1)
theorem mc_md_f {S : Nat → Bool} {k : Int32} {d i : Nat} (h : S i = false) : mc_md S k (d + 1) i = mc_md S k d (i + 1) := if_neg (by rw [h]; decide)
theorem mc_md_t {S : Nat → Bool} {k : Int32} {d i : Nat} (h : S i = true) (hk : nI (mc_cnt S i) = k) : mc_md S k (d + 1) i = nI i := (if_pos h).trans (if_pos hk)
theorem mc_md_n {S : Nat → Bool} {k : Int32} {d i : Nat} (h : S i = true) (hk : ¬ nI (mc_cnt S i) = k) : mc_md S k (d + 1) i = mc_md S k d (i + 1) := (if_pos h).trans (if_neg hk)
theorem mc_md_neg {S : Nat → Bool} {k : Int32} (hk : ¬ 0 ≤ k) : ∀ d i, i + d = 256 → mc_md S k d i = -4
  | 0, _, _ => rfl
  | d + 1, i, h => by
    have ih := mc_md_neg (S := S) hk d (i + 1) (by omega)
    cases e : S i
    · rw [mc_md_f e]
      exact ih
    · rw [mc_md_n e]
      · exact ih
      · intro z
        apply hk
        rw [← z]
        have := mc_cnt_le S i
        exact nI_pos' (by omega)
def mc_any (S : Nat → Bool) : Nat → Bool
  | 0 => false
  | n + 1 => S n || mc_any S n
theorem mc_any_t {S : Nat → Bool} {n : Nat} (h : S n = true) : mc_b (mc_any S (n + 1)) = 1 := by
  show mc_b (S n || mc_any S n) = 1
  rw [h]
  rfl
theorem mc_any_f {S : Nat → Bool} {n : Nat} (h : S n = false) : mc_b (mc_any S (n + 1)) = mc_b (mc_any S n) := by
  show mc_b (S n || mc_any S n) = _
  rw [h]
  rfl
def mc_at (S : Nat → Bool) : Nat → Int32
  | 0 => 255
  | n + 1 => if S n = true then mc_at S n &&& nI n else mc_at S n
theorem mc_at_t {S : Nat → Bool} {n : Nat} (h : S n = true) : mc_at S (n + 1) = mc_at S n &&& nI n := if_pos h
theorem mc_at_f {S : Nat → Bool} {n : Nat} (h : S n = false) : mc_at S (n + 1) = mc_at S n := if_neg (by rw [h]; decide)
def mc_os (S : Nat → Bool) : Nat → Nat
  | 0 => 0
  | n + 1 => if S n = true then mc_os S n ||| n else mc_os S n
theorem mc_os_t {S : Nat → Bool} {n : Nat} (h : S n = true) : mc_os S (n + 1) = mc_os S n ||| n := if_pos h
theorem mc_os_f {S : Nat → Bool} {n : Nat} (h : S n = false) : mc_os S (n + 1) = mc_os S n := if_neg (by rw [h]; decide)
theorem mc_os_lt (S : Nat → Bool) : ∀ n, n ≤ 256 → mc_os S n < 256
  | 0, _ => Nat.zero_lt_succ 255
  | n + 1, h => by
    have ih := mc_os_lt S n (by omega)
    cases e : S n
    · rw [mc_os_f e]
      exact ih
    · rw [mc_os_t e]
      exact Nat.or_lt_two_pow (n := 8) ih (by omega)
/-- j speaks against v being idle -/
def mc_bad (S : Nat → Bool) (v j : Nat) : Bool := S j && !S (j ^^^ 2 ^ v)
theorem mc_bad1 {S : Nat → Bool} {v j : Nat} (h : S j = false) : ¬ mc_bad S v j = true := by
  unfold mc_bad
  rw [h]
  exact Bool.false_ne_true
theorem mc_bad2 {S : Nat → Bool} {v j : Nat} (h : S (j ^^^ 2 ^ v) = true) : ¬ mc_bad S v j = true := by
  unfold mc_bad
  rw [h]
  cases S j <;> decide
theorem mc_bad3 {S : Nat → Bool} {v j : Nat} (h : S j = true) (h2 : S (j ^^^ 2 ^ v) = false) : mc_bad S v j = true := by
  unfold mc_bad
  rw [h, h2]
  rfl
/-- does nothing below n speak against v being idle -/
def mc_idn (S : Nat → Bool) (v n : Nat) : Bool := decide (∀ j, j < n → ¬ mc_bad S v j = true)
def mc_id (S : Nat → Bool) (v : Nat) : Bool := mc_idn S v 256
def mc_ids (S : Nat → Bool) : Nat → Int32
  | 0 => 0
  | v + 1 => if mc_id S v = true then mc_ids S v ||| ((1 : Int32) <<< (nI v &&& 31)) else mc_ids S v
theorem mc_ids_t {S : Nat → Bool} {v : Nat} (h : mc_id S v = true) : mc_ids S v ||| ((1 : Int32) <<< (nI v &&& 31)) = mc_ids S (v + 1) := (if_pos h).symm
theorem mc_ids_f {S : Nat → Bool} {v : Nat} (h : mc_id S v = false) : mc_ids S v = mc_ids S (v + 1) := (if_neg (by rw [h]; decide)).symm
/-- x is the least number of true variables among the models below i, or -4 -/
def mc_L (S : Nat → Bool) (i : Nat) (x : Int32) : Prop :=
  (x = -4 ∧ ∀ j, j < i → S j = false) ∨ (∃ m, m ≤ 8 ∧ x = nI m ∧ (∃ j, j < i ∧ S j = true ∧ mc_tn j = m) ∧ ∀ j, j < i → S j = true → m ≤ mc_tn j)
theorem mc_L0 (S : Nat → Bool) : mc_L S 0 (-4) := Or.inl ⟨rfl, fun j h => absurd h (Nat.not_lt_zero j)⟩
theorem mc_L_f {S : Nat → Bool} {i : Nat} {x : Int32} (h : mc_L S i x) (e : S i = false) : mc_L S (i + 1) x := by
  rcases h with ⟨h1, h2⟩ | ⟨m, h1, h2, ⟨j, h3, h4⟩, h5⟩
  · exact Or.inl ⟨h1, lt_s h2 e⟩
  · refine Or.inr ⟨m, h1, h2, ⟨j, by omega, h4⟩, lt_s h5 (fun z => ?_)⟩
    rw [e] at z
    exact absurd z (by decide)
theorem mc_L_new {S : Nat → Bool} {i : Nat} (hi : i < 256) (h : mc_L S i (-4)) (e : S i = true) : mc_L S (i + 1) (nI (mc_tn i)) := by
  rcases h with ⟨h1, h2⟩ | ⟨m, h1, h2, ⟨j, h3, h4⟩, h5⟩
  · refine Or.inr ⟨mc_tn i, mc_tn8 i hi, rfl, ⟨i, by omega, e, rfl⟩, lt_s (fun j hj z => ?_) (fun _ => Nat.le_refl _)⟩
    rw [h2 j hj] at z
    exact absurd z (by decide)
  · have z := nI_pos (n := m) (by omega)
    rw [← h2] at z
    exact absurd (by decide) z
theorem mc_L_old {S : Nat → Bool} {i : Nat} {x : Int32} (hi : i < 256) (h : mc_L S i x) (e : S i = true) (hx : ¬ x = -4) : (x ≤ nI (mc_tn i) → mc_L S (i + 1) x) ∧ (¬ x ≤ nI (mc_tn i) → mc_L S (i + 1) (nI (mc_tn i))) := by
  have h8 := mc_tn8 i hi
  rcases h with ⟨h1, h2⟩ | ⟨m, h1, h2, ⟨j, h3, h4⟩, h5⟩
  · exact absurd h1 hx
  · rw [h2, nI_leI (by omega) (by omega)]
    refine ⟨fun hm => ?_, fun hm => ?_⟩
    · exact Or.inr ⟨m, h1, rfl, ⟨j, by omega, h4⟩, lt_s h5 (fun _ => hm)⟩
    · exact Or.inr ⟨mc_tn i, h8, rfl, ⟨i, by omega, e, rfl⟩, lt_s (fun j hj z => Nat.le_trans (by omega) (h5 j hj z)) (fun _ => Nat.le_refl _)⟩
end
section
/-! the component's walks against the pure picture -/
section
variable {cc dl ds : Int32} {A w : Nat → Int32} {S : Nat → Bool}
abbrev mc_XS (u : SX) (S : Nat → Bool) : Prop := ∀ j, j < 256 → ∀ post : Int32 → Prop, post (mc_b (S j)) → wpX_satisfies post u (nI j)
theorem mx_tl (j : Nat) {post : Int32 → Prop} (hp : post (mc_li j)) : ∀ d v, v + d = 8 → wX_trueLiterals_4 post (nI j) (d + 1) (mc_it (fun v s => s ||| ((1 : Int32) <<< ((2 * nI v + 1 - mc_tr j v) &&& 31))) 0 v) (nI v)
  | 0, v, h => by
    obtain rfl : v = 8 := by omega
    exact br_t (nI_le (a := 8) (b := 8) (by omega) (by omega)) hp
  | d + 1, v, h => br_f (nI_ge (b := 8) (by omega) (by omega)) (nm_e (nm_e (nm_r (nI_1 v) (mx_tl j hp d (v + 1) (by omega)))))
theorem mx_tv (j : Nat) {post : Int32 → Prop} (hp : post (mc_tv j)) : ∀ d v, v + d = 8 → wX_trueVariables_4 post (nI j) (d + 1) (mc_it (fun v s => s + mc_tr j v) 0 v) (nI v)
  | 0, v, h => by
    obtain rfl : v = 8 := by omega
    exact br_t (nI_le (a := 8) (b := 8) (by omega) (by omega)) hp
  | d + 1, v, h => br_f (nI_ge (b := 8) (by omega) (by omega)) (nm_e (nm_r (nI_1 v) (mx_tv j hp d (v + 1) (by omega))))
theorem mx_tvs (j : Nat) {post : Int32 → Prop} (hp : post (mc_tv j)) : wpX_trueVariables post (nI j) :=
  show ∃ n4 : Nat, wX_trueVariables_4 post (nI j) n4 0 0 from ⟨9, mx_tv j hp 8 0 rfl⟩
theorem mx_sl {L : Int32} {n : Nat} (hn : n ≤ 14) {post : Int32 → Prop} {s : Bool} (hs : s = decide (∀ c, c < n → ¬ A c &&& L = 0)) (hp : post (mc_b s)) : ∀ d c, c + d = n → (∀ c', c' < c → ¬ A c' &&& L = 0) → wX_satisfies_7 post L (nI n) dl ds A w (d + 1) (nI c)
  | 0, c, h, hc => by
    have h' : c = n := by omega
    have e : s = true := by
      rw [hs, ← h']
      exact decide_eq_true hc
    rw [e] at hp
    exact br_c (fun _ => hp) (fun _ => br_t (nI_le (by omega) (by omega)) hp)
  | d + 1, c, h, hc => by
    refine br_f (nI_ge (b := 14) (by omega) (by omega)) (br_f (nI_ge (by omega) (by omega)) ⟨vp_in_nI (by omega) (by omega), ?_⟩)
    rw [nI_clamp (by omega)]
    by_cases z : A c &&& L = 0
    · have e : s = false := by
        rw [hs]
        exact decide_eq_false (fun f => f c (by omega) z)
      rw [e] at hp
      exact br_t z hp
    · exact br_f z (nm_r (nI_1 c) (mx_sl hn hs hp d (c + 1) (by omega) (lt_s hc z)))
theorem mx_sat {n : Nat} (hn : n ≤ 14) : mc_XS (nI n, dl, ds, A, w) (mc_S A n) := by
  intro j hj post hp
  show ∃ n4 : Nat, wX_trueLiterals_4 (fun r_1 => ∃ n7 : Nat, wX_satisfies_7 post r_1 (nI n) dl ds A w n7 0) (nI j) n4 0 0
  exact ⟨9, mx_tl j ⟨n + 1, mx_sl hn rfl hp n 0 (by omega) (fun c h => absurd h (Nat.not_lt_zero c))⟩ 8 0 rfl⟩
theorem mx_mb {b : Nat} (hb : b ≤ 256) (hS : mc_XS (cc, dl, ds, A, w) S) {post : Int32 → Prop} (hp : post (nI (mc_cnt S b))) : ∀ d i, i + d = b → wX_modelsBelow_4 post (nI b) cc dl ds A w (d + 1) (nI (mc_cnt S i)) (nI i)
  | 0, i, h => by
    have h' : i = b := by omega
    rw [h']
    exact br_t (nI_le (by omega) (by omega)) hp
  | d + 1, i, h => by
    have ih := mx_mb hb hS hp d (i + 1) (by omega)
    refine br_f (nI_ge (by omega) (by omega)) (hS i (by omega) _ (mc_br (fun e => nm_r (nI_1 i) ?_) (fun e => nm_r (mc_cnt_t e) (nm_r (nI_1 i) ih))))
    rw [mc_cnt_f e]
    exact ih
theorem mx_mbs {b : Nat} (hb : b ≤ 256) (hS : mc_XS (cc, dl, ds, A, w) S) {post : Int32 → Prop} (hp : post (nI (mc_cnt S b))) : wpX_modelsBelow post (cc, dl, ds, A, w) (nI b) :=
  show ∃ n4 : Nat, wX_modelsBelow_4 post (nI b) cc dl ds A w n4 0 0 from ⟨b + 1, mx_mb hb hS hp b 0 (by omega)⟩
theorem mx_count (hS : mc_XS (cc, dl, ds, A, w) S) {post : Int32 → Prop} (hp : post (nI (mc_cnt S 256))) : wpX_count post (cc, dl, ds, A, w) := by
  unfold wpX_count
  try dsimp only
  exact mx_mbs (b := 256) (by omega) hS hp
theorem mx_ag {a s t : Int32} {q : Bool} {post : Int32 → Prop} (hq : (a ^^^ t) &&& s = 0 ↔ q = true) (hp : post (mc_b q)) : wpX_agrees post a s t := by
  cases q
  · exact br_f (fun z => absurd (hq.mp z) (by decide)) hp
  · exact br_t (hq.mpr rfl) hp
theorem mx_mm {s t : Int32} {p q : Nat → Bool} (hq : ∀ j, j < 256 → ((nI j ^^^ t) &&& s = 0 ↔ q j = true)) (hpq : ∀ j, p j = (q j && S j)) (hS : mc_XS (cc, dl, ds, A, w) S) {post : Int32 → Prop} (hp : post (nI (mc_cnt p 256))) : ∀ d i, i + d = 256 → wX_modelsMatching_5 post s t cc dl ds A w (d + 1) (nI (mc_cnt p i)) (nI i)
  | 0, i, h => by
    have h' : i = 256 := by omega
    rw [h']
    exact br_t (nI_le (a := 256) (b := 256) (by omega) (by omega)) hp
  | d + 1, i, h => by
    have ih := mx_mm hq hpq hS hp d (i + 1) (by omega)
    have F : p i = false → wX_modelsMatching_5 post s t cc dl ds A w (d + 1) (nI (mc_cnt p i)) (nI (i + 1)) := fun e => by
      rw [mc_cnt_f e]
      exact ih
    exact br_f (nI_ge (b := 256) (by omega) (by omega)) (mx_ag (hq i (by omega)) (mc_br (fun e => nm_r (nI_1 i) (F (by rw [hpq, e]; rfl))) (fun e => hS i (by omega) _ (mc_br (fun e2 => nm_r (nI_1 i) (F (by rw [hpq, e, e2]; rfl))) (fun e2 => nm_r (mc_cnt_t (p := p) (by rw [hpq, e, e2]; rfl)) (nm_r (nI_1 i) ih))))))
theorem mx_mms {s t : Int32} {p q : Nat → Bool} (hq : ∀ j, j < 256 → ((nI j ^^^ t) &&& s = 0 ↔ q j = true)) (hpq : ∀ j, p j = (q j && S j)) (hS : mc_XS (cc, dl, ds, A, w) S) {post : Int32 → Prop} (hp : post (nI (mc_cnt p 256))) : wpX_modelsMatching post (cc, dl, ds, A, w) s t :=
  show ∃ n5 : Nat, wX_modelsMatching_5 post s t cc dl ds A w n5 0 0 from ⟨257, mx_mm hq hpq hS hp 256 0 rfl⟩
theorem mx_cs {k : Int32} {p q : Nat → Bool} (hq : ∀ j, j < 256 → (mc_tv j = k ↔ q j = true)) (hpq : ∀ j, p j = (q j && S j)) (hS : mc_XS (cc, dl, ds, A, w) S) {post : Int32 → Prop} (hp : post (nI (mc_cnt p 256))) : ∀ d i, i + d = 256 → wX_countSize_4 post k cc dl ds A w (d + 1) (nI (mc_cnt p i)) (nI i)
  | 0, i, h => by
    have h' : i = 256 := by omega
    rw [h']
    exact br_t (nI_le (a := 256) (b := 256) (by omega) (by omega)) hp
  | d + 1, i, h => by
    have ih := mx_cs hq hpq hS hp d (i + 1) (by omega)
    have F : p i = false → wX_countSize_4 post k cc dl ds A w (d + 1) (nI (mc_cnt p i)) (nI (i + 1)) := fun e => by
      rw [mc_cnt_f e]
      exact ih
    refine br_f (nI_ge (b := 256) (by omega) (by omega)) (mx_tvs i ?_)
    cases e : q i
    · exact br_f (fun z => absurd (((hq i (by omega)).mp z).symm.trans e) (by decide)) (nm_r (nI_1 i) (F (by rw [hpq, e]; rfl)))
    · exact br_t ((hq i (by omega)).mpr e) (hS i (by omega) _ (mc_br (fun e2 => nm_r (nI_1 i) (F (by rw [hpq, e, e2]; rfl))) (fun e2 => nm_r (mc_cnt_t (p := p) (by rw [hpq, e, e2]; rfl)) (nm_r (nI_1 i) ih))))
theorem mx_css {k : Int32} {p q : Nat → Bool} (hq : ∀ j, j < 256 → (mc_tv j = k ↔ q j = true)) (hpq : ∀ j, p j = (q j && S j)) (hS : mc_XS (cc, dl, ds, A, w) S) {post : Int32 → Prop} (hp : post (nI (mc_cnt p 256))) : wpX_countSize post (cc, dl, ds, A, w) k :=
  show ∃ n4 : Nat, wX_countSize_4 post k cc dl ds A w n4 0 0 from ⟨257, mx_cs hq hpq hS hp 256 0 rfl⟩
theorem mx_wo {j : Nat} (hj : j < 256) {post : Int32 → Prop} (hp : post (mc_wt w j)) : ∀ d v, v + d = 8 → wX_weightOf_4 post (nI j) cc dl ds A w (d + 1) (mc_pr w j v) (nI v)
  | 0, v, h => by
    obtain rfl : v = 8 := by omega
    exact br_t (nI_le (a := 8) (b := 8) (by omega) (by omega)) hp
  | d + 1, v, h => by
    have ih := mx_wo hj hp d (v + 1) (by omega)
    have hm : j / 2 ^ v % 2 < 2 := Nat.mod_lt _ (by decide)
    refine br_f (nI_ge (b := 8) (by omega) (by omega)) ?_
    rw [mc_ix hj (by omega), nI_clamp (by omega)]
    exact ⟨vp_in_nI (by omega) (by omega), nm_e (nm_r (nI_1 v) ih)⟩
theorem mx_wos {j : Nat} (hj : j < 256) {post : Int32 → Prop} (hp : post (mc_wt w j)) : wpX_weightOf post (cc, dl, ds, A, w) (nI j) :=
  show ∃ n4 : Nat, wX_weightOf_4 post (nI j) cc dl ds A w n4 1 0 from ⟨9, mx_wo hj hp 8 0 rfl⟩
theorem mx_wm {s t : Int32} {p q : Nat → Bool} (hq : ∀ j, j < 256 → ((nI j ^^^ t) &&& s = 0 ↔ q j = true)) (hpq : ∀ j, p j = (q j && S j)) (hS : mc_XS (cc, dl, ds, A, w) S) {post : Int32 → Prop} (hp : post (mc_sum p (mc_wt w) 256)) : ∀ d i, i + d = 256 → wX_weightMatching_5 post s t cc dl ds A w (d + 1) (mc_sum p (mc_wt w) i) (nI i)
  | 0, i, h => by
    have h' : i = 256 := by omega
    rw [h']
    exact br_t (nI_le (a := 256) (b := 256) (by omega) (by omega)) hp
  | d + 1, i, h => by
    have ih := mx_wm hq hpq hS hp d (i + 1) (by omega)
    have F : p i = false → wX_weightMatching_5 post s t cc dl ds A w (d + 1) (mc_sum p (mc_wt w) i) (nI (i + 1)) := fun e => by
      rw [mc_sum_f e]
      exact ih
    exact br_f (nI_ge (b := 256) (by omega) (by omega)) (mx_ag (hq i (by omega)) (mc_br (fun e => nm_r (nI_1 i) (F (by rw [hpq, e]; rfl))) (fun e => hS i (by omega) _ (mc_br (fun e2 => nm_r (nI_1 i) (F (by rw [hpq, e, e2]; rfl))) (fun e2 => mx_wos (by omega) (nm_r (mc_sum_t (p := p) (by rw [hpq, e, e2]; rfl)) (nm_r (nI_1 i) ih)))))))
theorem mx_wms {s t : Int32} {p q : Nat → Bool} (hq : ∀ j, j < 256 → ((nI j ^^^ t) &&& s = 0 ↔ q j = true)) (hpq : ∀ j, p j = (q j && S j)) (hS : mc_XS (cc, dl, ds, A, w) S) {post : Int32 → Prop} (hp : post (mc_sum p (mc_wt w) 256)) : wpX_weightMatching post (cc, dl, ds, A, w) s t :=
  show ∃ n5 : Nat, wX_weightMatching_5 post s t cc dl ds A w n5 0 0 from ⟨257, mx_wm hq hpq hS hp 256 0 rfl⟩
theorem mx_md {k : Int32} (hS : mc_XS (cc, dl, ds, A, w) S) {post : Int32 → Prop} : ∀ d i, i + d = 256 → post (mc_md S k d i) → wX_model_11 post k cc dl ds A w (d + 1) (nI (mc_cnt S i)) (nI i)
  | 0, i, h, hp => by
    have h' : i = 256 := by omega
    rw [h']
    exact br_t (nI_le (a := 256) (b := 256) (by omega) (by omega)) hp
  | d + 1, i, h, hp => by
    refine br_f (nI_ge (b := 256) (by omega) (by omega)) (hS i (by omega) _ (mc_br (fun e => nm_r (nI_1 i) ?_) (fun e => br_c (fun z => ?_) (fun z => nm_r (mc_cnt_t e) (nm_r (nI_1 i) ?_)))))
    · rw [mc_md_f e] at hp
      rw [mc_cnt_f e]
      exact mx_md hS d (i + 1) (by omega) hp
    · rw [mc_md_t e z] at hp
      exact hp
    · rw [mc_md_n e z] at hp
      exact mx_md hS d (i + 1) (by omega) hp
theorem mx_at (hS : mc_XS (cc, dl, ds, A, w) S) {post : Int32 → Prop} (h0 : mc_any S 256 = false → post (-4)) (h1 : mc_any S 256 = true → post (mc_at S 256)) : ∀ d i, i + d = 256 → wX_alwaysTrue_8 post cc dl ds A w (d + 1) (mc_b (mc_any S i)) (mc_at S i) (nI i)
  | 0, i, h => by
    have h' : i = 256 := by omega
    rw [h']
    exact br_t (nI_le (a := 256) (b := 256) (by omega) (by omega)) (mc_br h0 h1)
  | d + 1, i, h => by
    have ih := mx_at hS h0 h1 d (i + 1) (by omega)
    refine br_f (nI_ge (b := 256) (by omega) (by omega)) (hS i (by omega) _ (mc_br (fun e => nm_r (nI_1 i) ?_) (fun e => nm_e (nm_r (nI_1 i) ?_))))
    · rw [mc_any_f e, mc_at_f e] at ih
      exact ih
    · rw [mc_any_t e, mc_at_t e] at ih
      exact ih
theorem mx_af (hS : mc_XS (cc, dl, ds, A, w) S) {post : Int32 → Prop} (h0 : mc_any S 256 = false → post (-4)) (h1 : mc_any S 256 = true → post (255 - nI (mc_os S 256))) : ∀ d i, i + d = 256 → wX_alwaysFalse_8 post cc dl ds A w (d + 1) (mc_b (mc_any S i)) (255 - nI (mc_os S i)) (nI i)
  | 0, i, h => by
    have h' : i = 256 := by omega
    rw [h']
    exact br_t (nI_le (a := 256) (b := 256) (by omega) (by omega)) (mc_br h0 h1)
  | d + 1, i, h => by
    have ih := mx_af hS h0 h1 d (i + 1) (by omega)
    refine br_f (nI_ge (b := 256) (by omega) (by omega)) (hS i (by omega) _ (mc_br (fun e => nm_r (nI_1 i) ?_) (fun e => nm_r (mc_not (mc_os_lt S i (by omega)) (by omega)).1 (nm_r (nI_1 i) ?_))))
    · rw [mc_any_f e, mc_os_f e] at ih
      exact ih
    · rw [mc_any_t e, mc_os_t e] at ih
      exact ih
theorem mx_ii {v : Nat} (hv : v < 8) (hS : mc_XS (cc, dl, ds, A, w) S) {post : Int32 → Prop} (hp : post (mc_b (mc_id S v))) : ∀ d i, i + d = 256 → (∀ j, j < i → ¬ mc_bad S v j = true) → wX_isIdle_2 post (nI v) cc dl ds A w (d + 1) (nI i)
  | 0, i, h, hc => by
    have h' : i = 256 := by omega
    rw [h'] at hc ⊢
    have e : mc_id S v = true := decide_eq_true hc
    rw [e] at hp
    exact br_t (nI_le (a := 256) (b := 256) (by omega) (by omega)) hp
  | d + 1, i, h, hc => by
    refine br_f (nI_ge (b := 256) (by omega) (by omega)) (hS i (by omega) _ (mc_br (fun e => nm_r (nI_1 i) (mx_ii hv hS hp d (i + 1) (by omega) (lt_s hc (mc_bad1 e)))) (fun e => ?_)))
    obtain ⟨ef, hf⟩ := mc_flip (j := i) (v := v) (by omega) hv
    rw [ef]
    refine hS _ hf _ (mc_br (fun e2 => ?_) (fun e2 => nm_r (nI_1 i) (mx_ii hv hS hp d (i + 1) (by omega) (lt_s hc (mc_bad2 e2)))))
    have e3 : mc_id S v = false := decide_eq_false (fun f => f i (by omega) (mc_bad3 e e2))
    rw [e3] at hp
    exact hp
theorem mx_iis {v : Nat} (hv : v < 8) (hS : mc_XS (cc, dl, ds, A, w) S) {post : Int32 → Prop} (hp : post (mc_b (mc_id S v))) : wpX_isIdle post (cc, dl, ds, A, w) (nI v) :=
  show ∃ n2 : Nat, wX_isIdle_2 post (nI v) cc dl ds A w n2 0 from ⟨257, mx_ii hv hS hp 256 0 rfl (fun j h => absurd h (Nat.not_lt_zero j))⟩
theorem mx_id (hS : mc_XS (cc, dl, ds, A, w) S) {post : Int32 → Prop} (hp : post (mc_ids S 8)) : ∀ d v, v + d = 8 → wX_idle_4 post cc dl ds A w (d + 1) (mc_ids S v) (nI v)
  | 0, v, h => by
    have h' : v = 8 := by omega
    rw [h']
    exact br_t (nI_le (a := 8) (b := 8) (by omega) (by omega)) hp
  | d + 1, v, h => by
    have ih := mx_id hS hp d (v + 1) (by omega)
    refine br_f (nI_ge (b := 8) (by omega) (by omega)) (mx_iis (by omega) hS (mc_br (fun e => nm_r (nI_1 v) ?_) (fun e => nm_r (mc_ids_t e) (nm_r (nI_1 v) ih))))
    rw [mc_ids_f e]
    exact ih
theorem mx_lt (hS : mc_XS (cc, dl, ds, A, w) S) {post : Int32 → Prop} (hp : ∀ x, mc_L S 256 x → post x) : ∀ d i x, i + d = 256 → mc_L S i x → wX_leastTrue_5 post cc dl ds A w (d + 1) x (nI i)
  | 0, i, x, h, hx => by
    have h' : i = 256 := by omega
    rw [h'] at hx ⊢
    exact br_t (nI_le (a := 256) (b := 256) (by omega) (by omega)) (hp x hx)
  | d + 1, i, x, h, hx => by
    refine br_f (nI_ge (b := 256) (by omega) (by omega)) (hS i (by omega) _ (mc_br (fun e => nm_r (nI_1 i) (mx_lt hS hp d (i + 1) x (by omega) (mc_L_f hx e))) (fun e => mx_tvs i ?_)))
    rw [mc_tvn i (by omega)]
    refine br_c (fun z => nm_r (nI_1 i) ?_) (fun z => br_c (fun y => nm_r (nI_1 i) ?_) (fun y => nm_r (nI_1 i) ?_))
    · rw [z] at hx
      exact mx_lt hS hp d (i + 1) _ (by omega) (mc_L_new (by omega) hx e)
    · exact mx_lt hS hp d (i + 1) _ (by omega) ((mc_L_old (by omega) hx e z).1 y)
    · exact mx_lt hS hp d (i + 1) _ (by omega) ((mc_L_old (by omega) hx e z).2 y)
end
theorem mx_ivN {x : Int32} {post : Int32 → Prop} (h : x < 0) (hp : post 0) : wpX_isVariable post x := br_t h hp
theorem mx_ivB {j : Nat} {post : Int32 → Prop} (hj : j < 2 ^ 31) (h : 8 ≤ j) (hp : post 0) : wpX_isVariable post (nI j) := br_f (nI_pos hj) (br_t (nI_le (a := 8) h hj) hp)
theorem mx_ivO {j : Nat} {post : Int32 → Prop} (h : j < 8) (hp : post 1) : wpX_isVariable post (nI j) := br_f (nI_pos (by omega)) (br_f (nI_ge (b := 8) h (by omega)) hp)
theorem mx_iaN {x : Int32} {post : Int32 → Prop} (h : x < 0) (hp : post 0) : wpX_isAssignment post x := br_t h hp
theorem mx_iaB {j : Nat} {post : Int32 → Prop} (hj : j < 2 ^ 31) (h : 256 ≤ j) (hp : post 0) : wpX_isAssignment post (nI j) := br_f (nI_pos hj) (br_t (nI_le (a := 256) h hj) hp)
theorem mx_iaO {j : Nat} {post : Int32 → Prop} (h : j < 256) (hp : post 1) : wpX_isAssignment post (nI j) := br_f (nI_pos (by omega)) (br_f (nI_ge (b := 256) h (by omega)) hp)
theorem mx_itN {x : Int32} {post : Int32 → Prop} (h : x < 0) (hp : post 0) : wpX_isTruth post x :=
  br_f (fun e => absurd (e ▸ h) (by decide)) (br_f (fun e => absurd (e ▸ h) (by decide)) hp)
theorem mx_itB {j : Nat} {post : Int32 → Prop} (hj : j < 2 ^ 31) (h : 2 ≤ j) (hp : post 0) : wpX_isTruth post (nI j) :=
  br_f (nI_ne0 (by omega) hj) (br_f (fun e => absurd ((nI_eq (b := 1) hj (by omega)).mp e) (by omega)) hp)
theorem mx_itO {j : Nat} {post : Int32 → Prop} (h : j < 2) (hp : post 1) : wpX_isTruth post (nI j) := by
  rcases (by omega : j = 0 ∨ j = 1) with e | e
  · rw [e]
    exact br_t rfl hp
  · rw [e]
    exact br_f (by decide) (br_t rfl hp)
end
section
/-! the reference's walks against the pure picture -/
section
variable {cl : Int32} {g z w : Nat → Int32} {S : Nat → Bool}
abbrev mc_YS (v : SY) (S : Nat → Bool) : Prop := ∀ j, j < 256 → ∀ post : Int32 → Prop, post (mc_b (S j)) → wpY_makesTrue post v (nI j)
theorem my_tr {a b : Int32} {post : Int32 → Prop} (hp : post ((a >>> (b &&& 31)) &&& 1)) : wpY_truth post (cl, g, z, w) a b := hp
theorem my_it {c s j : Nat} {m : Int32} (hc : c < 14) (C : mc_Cl g z c s m) (hj : j < 256) {post : Int32 → Prop} {b : Bool} (hb : b = decide (¬ m &&& mc_li j = 0)) (hp : post (mc_b b)) : ∀ d i, i + d = s → (∀ i', i' < i → ((1 : Int32) <<< (g (3 * c + i') &&& 31)) &&& mc_li j = 0) → wY_isTrue_4 post (nI c) (nI j) cl g z w (d + 1) (nI (3 * c + i))
  | 0, i, h, hi => by
    obtain ⟨h3, hz, hl, hm⟩ := C
    have e : b = false := by
      rw [hb]
      apply decide_eq_false
      intro f
      apply f
      rw [hm, mc_mask0]
      intro i' hi'
      exact hi i' (by omega)
    rw [e] at hp
    have e3 : (3 : Int32) * nI c + nI s = nI (3 * c + s) := (congrArg (fun q => q + nI s) (pk_mul 3 c)).trans (nI_add _ _)
    refine And.intro (vp_in_nI (by omega) (by omega)) ?_
    rw [nI_clamp (by omega), hz, e3]
    exact br_t (nI_le (by omega) (by omega)) hp
  | d + 1, i, h, hi => by
    have C' := C
    obtain ⟨h3, hz, hl, hm⟩ := C'
    obtain ⟨l, hl16, el⟩ := hl i (by omega)
    have e3 : (3 : Int32) * nI c + nI s = nI (3 * c + s) := (congrArg (fun q => q + nI s) (pk_mul 3 c)).trans (nI_add _ _)
    have ed : nI l / 2 = nI (l / 2) := pk_div (a := l) (d := 2) (by omega) (by omega) (by omega)
    have er : nI l - nI (l / 2) * 2 = nI (l % 2) := by
      have q := pk_rem (a := l) (d := 2) (by omega) (by omega) (by omega)
      have q2 : nI l - nI l / 2 * 2 = nI (l % 2) := q
      rw [ed] at q2
      exact q2
    have hb2 := mc_lit j hj l hl16
    refine And.intro (vp_in_nI (by omega) (by omega)) ?_
    rw [nI_clamp (n := c) (by omega), hz, e3, nI_clamp (n := 3 * c + i) (by omega), el, ed, er]
    refine br_f (nI_ge (by omega) (by omega)) ⟨vp_in_nI (by omega) (by omega), by decide, my_tr ⟨vp_in_nI (by omega) (by omega), by decide, br_c (fun y => nm_r (nI_1 (3 * c + i)) ?_) (fun y => ?_)⟩⟩
    · refine my_it hc C hj hb hp d (i + 1) (by omega) (lt_s hi ?_)
      rw [el]
      exact hb2.mpr y
    · have e : b = true := by
        rw [hb]
        apply decide_eq_true
        intro f
        rw [hm, mc_mask0] at f
        have f2 := f i (by omega)
        rw [el] at f2
        exact y (hb2.mp f2)
      rw [e] at hp
      exact hp
theorem my_its {c s j : Nat} {m : Int32} (hc : c < 14) (C : mc_Cl g z c s m) (hj : j < 256) {post : Int32 → Prop} (hp : post (mc_b (decide (¬ m &&& mc_li j = 0)))) : wpY_isTrue post (cl, g, z, w) (nI c) (nI j) := by
  show ∀ x3_1 : Int32, x3_1 = 3 * nI c → ∃ n4 : Nat, wY_isTrue_4 post (nI c) (nI j) cl g z w n4 x3_1
  exact nm_r (pk_mul 3 c) ⟨s + 1, my_it hc C hj rfl hp s 0 (by omega) (fun i h => absurd h (Nat.not_lt_zero i))⟩
theorem my_mt {A : Nat → Int32} {n j : Nat} (hn : n ≤ 14) (hC : ∀ c, c < n → ∃ s, mc_Cl g z c s (A c)) (hj : j < 256) {post : Int32 → Prop} (hp : post (mc_b (mc_S A n j))) : ∀ d c, c + d = n → (∀ c', c' < c → ¬ A c' &&& mc_li j = 0) → wY_makesTrue_2 post (nI j) (nI n) g z w (d + 1) (nI c)
  | 0, c, h, hc => by
    have h' : c = n := by omega
    have e : mc_S A n j = true := by
      rw [← h']
      exact decide_eq_true hc
    rw [e] at hp
    exact br_t (nI_le (by omega) (by omega)) hp
  | d + 1, c, h, hc => by
    obtain ⟨s, C⟩ := hC c (by omega)
    refine br_f (nI_ge (by omega) (by omega)) (my_its (by omega) C hj (mc_br (fun e => ?_) (fun e => nm_r (nI_1 c) (my_mt hn hC hj hp d (c + 1) (by omega) (lt_s hc (of_decide_eq_true e))))))
    have e2 : mc_S A n j = false := decide_eq_false (fun f => absurd (decide_eq_true (f c (by omega))) (by rw [e]; decide))
    rw [e2] at hp
    exact hp
theorem my_mts {A : Nat → Int32} {n : Nat} (hn : n ≤ 14) (hC : ∀ c, c < n → ∃ s, mc_Cl g z c s (A c)) : mc_YS (nI n, g, z, w) (mc_S A n) := by
  intro j hj post hp
  show ∃ n2 : Nat, wY_makesTrue_2 post (nI j) (nI n) g z w n2 0
  exact ⟨n + 1, my_mt hn hC hj hp n 0 (by omega) (fun c h => absurd h (Nat.not_lt_zero c))⟩
theorem my_rk {b : Nat} (hb : b ≤ 256) (hS : mc_YS (cl, g, z, w) S) {post : Int32 → Prop} (hp : post (nI (mc_cnt S b))) : ∀ d i, i + d = b → wY_rank_17 post (nI b) cl g z w (d + 1) (nI (mc_cnt S i)) (nI i)
  | 0, i, h => by
    have h' : i = b := by omega
    rw [h']
    exact br_t (nI_le (by omega) (by omega)) hp
  | d + 1, i, h => by
    have ih := my_rk hb hS hp d (i + 1) (by omega)
    refine br_f (nI_ge (by omega) (by omega)) (hS i (by omega) _ (mc_br (fun e => nm_r (nI_1 i) ?_) (fun e => nm_r (mc_cnt_t e) (nm_r (nI_1 i) ih))))
    rw [mc_cnt_f e]
    exact ih
theorem my_rks {b : Nat} (hb : b ≤ 256) (hS : mc_YS (cl, g, z, w) S) {post : Int32 → Prop} (hp : post (nI (mc_cnt S b))) : wpY_rank post (cl, g, z, w) (nI b) :=
  br_f (nI_pos (by omega)) (br_t (nI_le (b := 256) hb (by omega)) ⟨b + 1, my_rk hb hS hp b 0 (by omega)⟩)
theorem my_count (hS : mc_YS (cl, g, z, w) S) {post : Int32 → Prop} (hp : post (nI (mc_cnt S 256))) : wpY_count post (cl, g, z, w) := by
  unfold wpY_count
  try dsimp only
  exact my_rks (b := 256) (by omega) hS hp
theorem my_cw {s t : Int32} {p q : Nat → Bool} (hq : ∀ j, j < 256 → (nI j &&& s = t &&& s ↔ q j = true)) (hpq : ∀ j, p j = (q j && S j)) (hS : mc_YS (cl, g, z, w) S) {post : Int32 → Prop} (hp : post (nI (mc_cnt p 256))) : ∀ d i, i + d = 256 → wY_countWith_29 post s t cl g z w (d + 1) (nI (mc_cnt p i)) (nI i)
  | 0, i, h => by
    have h' : i = 256 := by omega
    rw [h']
    exact br_t (nI_le (a := 256) (b := 256) (by omega) (by omega)) hp
  | d + 1, i, h => by
    have ih := my_cw hq hpq hS hp d (i + 1) (by omega)
    have F : p i = false → wY_countWith_29 post s t cl g z w (d + 1) (nI (mc_cnt p i)) (nI (i + 1)) := fun e => by
      rw [mc_cnt_f e]
      exact ih
    refine br_f (nI_ge (b := 256) (by omega) (by omega)) ?_
    cases e : q i
    · exact br_f (fun y => absurd (((hq i (by omega)).mp y).symm.trans e) (by decide)) (nm_r (nI_1 i) (F (by rw [hpq, e]; rfl)))
    · exact br_t ((hq i (by omega)).mpr e) (hS i (by omega) _ (mc_br (fun e2 => nm_r (nI_1 i) (F (by rw [hpq, e, e2]; rfl))) (fun e2 => nm_r (mc_cnt_t (p := p) (by rw [hpq, e, e2]; rfl)) (nm_r (nI_1 i) ih))))
theorem my_so (j : Nat) {post : Int32 → Prop} (hp : post (mc_tv j)) : ∀ d v, v + d = 8 → wY_sizeOf_4 post (nI j) cl g z w (d + 1) (mc_it (fun v s => s + mc_tr j v) 0 v) (nI v)
  | 0, v, h => by
    obtain rfl : v = 8 := by omega
    exact br_t (nI_le (a := 8) (b := 8) (by omega) (by omega)) hp
  | d + 1, v, h => br_f (nI_ge (b := 8) (by omega) (by omega)) (my_tr (nm_e (nm_r (nI_1 v) (my_so j hp d (v + 1) (by omega)))))
theorem my_sos (j : Nat) {post : Int32 → Prop} (hp : post (mc_tv j)) : wpY_sizeOf post (cl, g, z, w) (nI j) :=
  show ∃ n4 : Nat, wY_sizeOf_4 post (nI j) cl g z w n4 0 0 from ⟨9, my_so j hp 8 0 rfl⟩
theorem my_cs {k : Int32} {p q : Nat → Bool} (hq : ∀ j, j < 256 → (mc_tv j = k ↔ q j = true)) (hpq : ∀ j, p j = (q j && S j)) (hS : mc_YS (cl, g, z, w) S) {post : Int32 → Prop} (hp : post (nI (mc_cnt p 256))) : ∀ d i, i + d = 256 → wY_countSize_4 post k cl g z w (d + 1) (nI (mc_cnt p i)) (nI i)
  | 0, i, h => by
    have h' : i = 256 := by omega
    rw [h']
    exact br_t (nI_le (a := 256) (b := 256) (by omega) (by omega)) hp
  | d + 1, i, h => by
    have ih := my_cs hq hpq hS hp d (i + 1) (by omega)
    have F : p i = false → wY_countSize_4 post k cl g z w (d + 1) (nI (mc_cnt p i)) (nI (i + 1)) := fun e => by
      rw [mc_cnt_f e]
      exact ih
    refine br_f (nI_ge (b := 256) (by omega) (by omega)) (my_sos i ?_)
    cases e : q i
    · exact br_f (fun y => absurd (((hq i (by omega)).mp y).symm.trans e) (by decide)) (nm_r (nI_1 i) (F (by rw [hpq, e]; rfl)))
    · exact br_t ((hq i (by omega)).mpr e) (hS i (by omega) _ (mc_br (fun e2 => nm_r (nI_1 i) (F (by rw [hpq, e, e2]; rfl))) (fun e2 => nm_r (mc_cnt_t (p := p) (by rw [hpq, e, e2]; rfl)) (nm_r (nI_1 i) ih))))
theorem my_css {k : Int32} {p q : Nat → Bool} (hq : ∀ j, j < 256 → (mc_tv j = k ↔ q j = true)) (hpq : ∀ j, p j = (q j && S j)) (hS : mc_YS (cl, g, z, w) S) {post : Int32 → Prop} (hp : post (nI (mc_cnt p 256))) : wpY_countSize post (cl, g, z, w) k :=
  show ∃ n4 : Nat, wY_countSize_4 post k cl g z w n4 0 0 from ⟨257, my_cs hq hpq hS hp 256 0 rfl⟩
theorem my_wo {j : Nat} (hj : j < 256) {post : Int32 → Prop} (hp : post (mc_wt w j)) : ∀ d v, v + d = 8 → wY_weightOf_4 post (nI j) cl g z w (d + 1) (mc_pr w j v) (nI v)
  | 0, v, h => by
    obtain rfl : v = 8 := by omega
    exact br_t (nI_le (a := 8) (b := 8) (by omega) (by omega)) hp
  | d + 1, v, h => by
    have ih := my_wo hj hp d (v + 1) (by omega)
    have hm : j / 2 ^ v % 2 < 2 := Nat.mod_lt _ (by decide)
    refine br_f (nI_ge (b := 8) (by omega) (by omega)) (my_tr ?_)
    rw [mc_ix hj (by omega), nI_clamp (by omega)]
    exact ⟨vp_in_nI (by omega) (by omega), nm_e (nm_r (nI_1 v) ih)⟩
theorem my_wos {j : Nat} (hj : j < 256) {post : Int32 → Prop} (hp : post (mc_wt w j)) : wpY_weightOf post (cl, g, z, w) (nI j) :=
  show ∃ n4 : Nat, wY_weightOf_4 post (nI j) cl g z w n4 1 0 from ⟨9, my_wo hj hp 8 0 rfl⟩
theorem my_sh {v b : Nat} {p q : Nat → Bool} (hq : ∀ j, j < 256 → (mc_tr j v = nI b ↔ q j = true)) (hpq : ∀ j, p j = (q j && S j)) (hS : mc_YS (cl, g, z, w) S) {post : Int32 → Prop} (hp : post (mc_sum p (mc_wt w) 256)) : ∀ d i, i + d = 256 → wY_share_26 post (nI v) (nI b) cl g z w (d + 1) (mc_sum p (mc_wt w) i) (nI i)
  | 0, i, h => by
    have h' : i = 256 := by omega
    rw [h']
    exact br_t (nI_le (a := 256) (b := 256) (by omega) (by omega)) hp
  | d + 1, i, h => by
    have ih := my_sh hq hpq hS hp d (i + 1) (by omega)
    have F : p i = false → wY_share_26 post (nI v) (nI b) cl g z w (d + 1) (mc_sum p (mc_wt w) i) (nI (i + 1)) := fun e => by
      rw [mc_sum_f e]
      exact ih
    refine br_f (nI_ge (b := 256) (by omega) (by omega)) (my_tr ?_)
    cases e : q i
    · exact br_f (fun y => absurd (((hq i (by omega)).mp y).symm.trans e) (by decide)) (nm_r (nI_1 i) (F (by rw [hpq, e]; rfl)))
    · exact br_t ((hq i (by omega)).mpr e) (hS i (by omega) _ (mc_br (fun e2 => nm_r (nI_1 i) (F (by rw [hpq, e, e2]; rfl))) (fun e2 => my_wos (by omega) (nm_r (mc_sum_t (p := p) (by rw [hpq, e, e2]; rfl)) (nm_r (nI_1 i) ih)))))
theorem my_shs {v b : Nat} (hv : v < 8) (hb : b < 2) {p q : Nat → Bool} (hq : ∀ j, j < 256 → (mc_tr j v = nI b ↔ q j = true)) (hpq : ∀ j, p j = (q j && S j)) (hS : mc_YS (cl, g, z, w) S) {post : Int32 → Prop} (hp : post (mc_sum p (mc_wt w) 256)) : wpY_share post (cl, g, z, w) (nI v) (nI b) :=
  br_f (nI_pos (by omega)) (br_f (nI_nlt (a := 7) (by omega) (by omega)) (br_f (nI_pos (by omega)) (br_t (nI_le (b := 1) (by omega) (by omega)) ⟨257, my_sh hq hpq hS hp 256 0 rfl⟩)))
theorem my_md {k : Int32} (hS : mc_YS (cl, g, z, w) S) {post : Int32 → Prop} : ∀ d i, i + d = 256 → post (mc_md S k d i) → wY_model_4 post k cl g z w (d + 1) (nI (mc_cnt S i)) (nI i)
  | 0, i, h, hp => by
    have h' : i = 256 := by omega
    rw [h']
    exact br_t (nI_le (a := 256) (b := 256) (by omega) (by omega)) hp
  | d + 1, i, h, hp => by
    refine br_f (nI_ge (b := 256) (by omega) (by omega)) (hS i (by omega) _ (mc_br (fun e => nm_r (nI_1 i) ?_) (fun e => br_c (fun y => ?_) (fun y => nm_r (mc_cnt_t e) (nm_r (nI_1 i) ?_)))))
    · rw [mc_md_f e] at hp
      rw [mc_cnt_f e]
      exact my_md hS d (i + 1) (by omega) hp
    · rw [mc_md_t e y] at hp
      exact hp
    · rw [mc_md_n e y] at hp
      exact my_md hS d (i + 1) (by omega) hp
theorem my_at (hS : mc_YS (cl, g, z, w) S) {post : Int32 → Prop} (h0 : mc_any S 256 = false → post (-4)) (h1 : mc_any S 256 = true → post (mc_at S 256)) : ∀ d i, i + d = 256 → wY_alwaysTrue_8 post cl g z w (d + 1) (mc_at S i) (mc_b (mc_any S i)) (nI i)
  | 0, i, h => by
    have h' : i = 256 := by omega
    rw [h']
    exact br_t (nI_le (a := 256) (b := 256) (by omega) (by omega)) (mc_br h0 h1)
  | d + 1, i, h => by
    have ih := my_at hS h0 h1 d (i + 1) (by omega)
    refine br_f (nI_ge (b := 256) (by omega) (by omega)) (hS i (by omega) _ (mc_br (fun e => nm_r (nI_1 i) ?_) (fun e => nm_e (nm_r (nI_1 i) ?_))))
    · rw [mc_any_f e, mc_at_f e] at ih
      exact ih
    · rw [mc_any_t e, mc_at_t e] at ih
      exact ih
theorem my_af (hS : mc_YS (cl, g, z, w) S) {post : Int32 → Prop} (h0 : mc_any S 256 = false → post (-4)) (h1 : mc_any S 256 = true → post (255 - nI (mc_os S 256))) : ∀ d i, i + d = 256 → wY_alwaysFalse_6 post cl g z w (d + 1) (nI (mc_os S i)) (mc_b (mc_any S i)) (nI i)
  | 0, i, h => by
    have h' : i = 256 := by omega
    rw [h']
    exact br_t (nI_le (a := 256) (b := 256) (by omega) (by omega)) (mc_br h0 h1)
  | d + 1, i, h => by
    have ih := my_af hS h0 h1 d (i + 1) (by omega)
    refine br_f (nI_ge (b := 256) (by omega) (by omega)) (hS i (by omega) _ (mc_br (fun e => nm_r (nI_1 i) ?_) (fun e => nm_r (mc_or _ _) (nm_r (nI_1 i) ?_))))
    · rw [mc_any_f e, mc_os_f e] at ih
      exact ih
    · rw [mc_any_t e, mc_os_t e] at ih
      exact ih
theorem my_ii {v : Nat} (hv : v < 8) (hS : mc_YS (cl, g, z, w) S) {post : Int32 → Prop} (hp : post (mc_b (mc_id S v))) : ∀ d i, i + d = 256 → (∀ j, j < i → ¬ mc_bad S v j = true) → wY_isIdle_2 post (nI v) cl g z w (d + 1) (nI i)
  | 0, i, h, hc => by
    have h' : i = 256 := by omega
    rw [h'] at hc ⊢
    have e : mc_id S v = true := decide_eq_true hc
    rw [e] at hp
    exact br_t (nI_le (a := 256) (b := 256) (by omega) (by omega)) hp
  | d + 1, i, h, hc => by
    refine br_f (nI_ge (b := 256) (by omega) (by omega)) (hS i (by omega) _ (mc_br (fun e => nm_r (nI_1 i) (my_ii hv hS hp d (i + 1) (by omega) (lt_s hc (mc_bad1 e)))) (fun e => ?_)))
    obtain ⟨ef, hf⟩ := mc_flip (j := i) (v := v) (by omega) hv
    rw [ef]
    refine hS _ hf _ (mc_br (fun e2 => ?_) (fun e2 => nm_r (nI_1 i) (my_ii hv hS hp d (i + 1) (by omega) (lt_s hc (mc_bad2 e2)))))
    have e3 : mc_id S v = false := decide_eq_false (fun f => f i (by omega) (mc_bad3 e e2))
    rw [e3] at hp
    exact hp
theorem my_iis {v : Nat} (hv : v < 8) (hS : mc_YS (cl, g, z, w) S) {post : Int32 → Prop} (hp : post (mc_b (mc_id S v))) : wpY_isIdle post (cl, g, z, w) (nI v) :=
  show ∃ n2 : Nat, wY_isIdle_2 post (nI v) cl g z w n2 0 from ⟨257, my_ii hv hS hp 256 0 rfl (fun j h => absurd h (Nat.not_lt_zero j))⟩
theorem my_id (hS : mc_YS (cl, g, z, w) S) {post : Int32 → Prop} (hp : post (mc_ids S 8)) : ∀ d v, v + d = 8 → wY_idle_4 post cl g z w (d + 1) (mc_ids S v) (nI v)
  | 0, v, h => by
    have h' : v = 8 := by omega
    rw [h']
    exact br_t (nI_le (a := 8) (b := 8) (by omega) (by omega)) hp
  | d + 1, v, h => by
    have ih := my_id hS hp d (v + 1) (by omega)
    refine br_f (nI_ge (b := 8) (by omega) (by omega)) (my_iis (by omega) hS (mc_br (fun e => nm_r (nI_1 v) ?_) (fun e => nm_r (mc_ids_t e) (nm_r (nI_1 v) ih))))
    rw [mc_ids_f e]
    exact ih
theorem my_lt (hS : mc_YS (cl, g, z, w) S) {post : Int32 → Prop} {x : Int32} (hx : mc_L S 256 x) (hp : post x) : ∀ d k, k + d = 9 → (∀ j, j < 256 → S j = true → k ≤ mc_tn j) → wY_leastTrue_2 post cl g z w (d + 1) (nI k)
  | 0, k, h, hk => by
    have h' : k = 9 := by omega
    rw [h'] at hk ⊢
    have e : x = -4 := by
      rcases hx with ⟨h1, _⟩ | ⟨m, h1, h2, ⟨j, h3, h4, h5⟩, h6⟩
      · exact h1
      · have := hk j h3 h4
        omega
    rw [e] at hp
    exact br_t (nI_le (a := 9) (b := 9) (by omega) (by omega)) hp
  | d + 1, k, h, hk => by
    refine br_f (nI_ge (b := 9) (by omega) (by omega)) (my_css (p := fun j => decide (mc_tv j = nI k) && S j) (q := fun j => decide (mc_tv j = nI k)) (fun j hj => (decide_eq_true_iff).symm) (fun j => rfl) hS ?_)
    have hle := mc_cnt_le (fun j => decide (mc_tv j = nI k) && S j) 256
    have hpos := mc_cnt_pos (fun j => decide (mc_tv j = nI k) && S j) 256
    generalize mc_cnt (fun j => decide (mc_tv j = nI k) && S j) 256 = c at hle hpos ⊢
    by_cases hc : c = 0
    · rw [hc]
      refine br_t (by decide) (nm_r (nI_1 k) (my_lt hS hx hp d (k + 1) (by omega) (fun j hj e => ?_)))
      have h1 := hk j hj e
      rcases Nat.lt_or_ge k (mc_tn j) with h2 | h2
      · exact h2
      · exfalso
        have h3 : mc_tn j = k := by omega
        have h4 : 0 < c := hpos.mpr ⟨j, hj, by rw [mc_tvn j hj, h3, e, decide_eq_true rfl]; rfl⟩
        omega
    · refine br_f (nI_nle (by omega) (by omega)) ?_
      obtain ⟨j, hj, hjp⟩ := hpos.mp (by omega)
      rw [Bool.and_eq_true] at hjp
      obtain ⟨h1, h2⟩ := hjp
      have h3 := of_decide_eq_true h1
      rw [mc_tvn j hj, nI_eq (by have := mc_tn8 j hj; omega) (by omega)] at h3
      rcases hx with ⟨_, h4⟩ | ⟨m, h4, h5, ⟨j', h6, h7, h8⟩, h9⟩
      · exact absurd ((h4 j hj).symm.trans h2) (by decide)
      · have h10 := h9 j hj h2
        have h11 := hk j' h6 h7
        have h12 : m = k := by omega
        rw [h5, h12] at hp
        exact hp
end
end
section
/-! the relation, the constructors, and the methods that change the state -/
def i_Rel (_ : Nat) (u : SX) (v : SY) : Prop := ∃ (n d : Nat) (A w g z : Nat → Int32) (dl : Int32), n ≤ 14 ∧ u = (nI n, dl, nI d, A, w) ∧ v = (nI n, g, z, w) ∧ (∀ c, c < n → ∃ s, mc_Cl g z c s (A c)) ∧ mc_Cl g z 14 d dl
theorem i_up {k : Nat} {u : SX} {v : SY} (h : i_Rel k u v) : i_Rel (k + 4) u v := h
/-- the weights after i of them are set -/
def mc_w1 (f : Nat → Int32) : Nat → Nat → Int32 := mc_it (fun i a => upd a i 1) f
theorem mx_in {cc dl ds : Int32} {A f : Nat → Int32} {post : SX → Prop} (hp : post (cc, dl, ds, A, mc_w1 f 16)) : ∀ d i, i + d = 16 → wX_init_37 post cc dl ds (d + 1) (nI i) A (mc_w1 f i)
  | 0, i, h => by
    have h' : i = 16 := by omega
    rw [h']
    exact br_t (nI_le (a := 16) (b := 16) (by omega) (by omega)) hp
  | d + 1, i, h => by
    have ih := mx_in hp d (i + 1) (by omega)
    refine br_f (nI_ge (b := 16) (by omega) (by omega)) ⟨vp_in_nI (by omega) (by omega), ?_⟩
    rw [nI_clamp (by omega)]
    exact nm_e (nm_r (nI_1 i) ih)
theorem my_in {cl : Int32} {g z f : Nat → Int32} {post : SY → Prop} (hp : post (cl, g, z, mc_w1 f 16)) : ∀ d i, i + d = 16 → wY_init_30 post cl (d + 1) (nI i) g z (mc_w1 f i)
  | 0, i, h => by
    have h' : i = 16 := by omega
    rw [h']
    exact br_t (nI_le (a := 16) (b := 16) (by omega) (by omega)) hp
  | d + 1, i, h => by
    have ih := my_in hp d (i + 1) (by omega)
    refine br_f (nI_ge (b := 16) (by omega) (by omega)) ⟨vp_in_nI (by omega) (by omega), ?_⟩
    rw [nI_clamp (by omega)]
    exact nm_e (nm_r (nI_1 i) ih)
theorem i_vc0 : wpX_init (fun u => wpY_init (fun v => i_Rel 0 u v)) := by
  have R : i_Rel 0 (nI 0, 0, nI 0, fun _ => 0, mc_w1 (fun _ => 0) 16) (nI 0, fun _ => 0, fun _ => 0, mc_w1 (fun _ => 0) 16) :=
    ⟨0, 0, fun _ => 0, mc_w1 (fun _ => 0) 16, fun _ => 0, fun _ => 0, 0, by omega, rfl, rfl, fun c h => absurd h (Nat.not_lt_zero c), ⟨by omega, rfl, fun i h => absurd h (Nat.not_lt_zero i), rfl⟩⟩
  have Y : wpY_init (fun v => i_Rel 0 (nI 0, 0, nI 0, fun _ => 0, mc_w1 (fun _ => 0) 16) v) := by
    show ∃ n30 : Nat, wY_init_30 (fun v => i_Rel 0 (nI 0, 0, nI 0, fun _ => 0, mc_w1 (fun _ => 0) 16) v) 0 n30 0 (fun _ => 0) (fun _ => 0) (fun _ => 0)
    exact ⟨17, my_in (f := fun _ => 0) R 16 0 rfl⟩
  show ∃ n37 : Nat, wX_init_37 (fun u => wpY_init (fun v => i_Rel 0 u v)) 0 0 0 n37 0 (fun _ => 0) (fun _ => 0)
  exact ⟨17, mx_in (f := fun _ => 0) (post := fun u => wpY_init (fun v => i_Rel 0 u v)) Y 16 0 rfl⟩
theorem i_vc_literal {k : Nat} {u : SX} {v : SY} (I : i_Rel k u v) (hk : k + 4 ≤ 2048) (v1 : Int32) : wpX_literal (fun r u' => wpY_literal (fun r' v' => r' = r ∧ i_Rel (k + 4) u' v') v v1) u v1 := by
  have I' := i_up I
  obtain ⟨n, d, A, w, g, z, dl, hn, rfl, rfl, hC, hD⟩ := I
  have hD' := hD
  obtain ⟨h3, hz, hl, hm⟩ := hD
  by_cases h0 : v1 < 0
  · exact br_t h0 (br_t h0 ⟨rfl, I'⟩)
  · obtain ⟨l, hl2, rfl⟩ := nI_of h0
    by_cases h16 : l < 16
    · by_cases hd : d < 3
      · refine br_f h0 (br_t (nI_lt (b := 16) h16 (by omega)) (br_t (nI_lt (b := 3) hd (by omega)) (nm_e (nm_r (nI_1 d) ?_))))
        refine br_f h0 (br_t (nI_le (b := 15) (by omega) (by omega)) ?_)
        have e42 : (42 : Int32) + nI d = nI (42 + d) := nI_add 42 d
        rw [hz, e42, nI_clamp (by omega), nI_1]
        refine br_f (fun e => absurd ((nI_eq (b := 3) (by omega) (by omega)).mp e) (by omega)) ⟨vp_in_nI (by omega) (by omega), nm_e (nm_e ⟨pk_us, ?_⟩)⟩
        refine ⟨n, d + 1, A, w, upd g (42 + d) (nI l), upd z 14 (nI (d + 1)), dl ||| ((1 : Int32) <<< (nI l &&& 31)), hn, rfl, rfl, fun c hc => ?_, ⟨by omega, pk_us, fun i hi => ?_, ?_⟩⟩
        · obtain ⟨s, C⟩ := hC c hc
          exact ⟨s, mc_Cl_c C (pk_un (by omega)) (fun i hi => pk_un (by omega))⟩
        · rcases Nat.lt_or_ge i d with h | h
          · obtain ⟨l', h1, h2⟩ := hl i h
            exact ⟨l', h1, (pk_un (by omega)).trans h2⟩
          · have h' : i = d := by omega
            rw [h']
            exact ⟨l, h16, pk_us⟩
        · show _ = mc_mask (upd g (42 + d) (nI l)) (3 * 14) d ||| ((1 : Int32) <<< (upd g (42 + d) (nI l) (3 * 14 + d) &&& 31))
          rw [mc_mask_c (g := g) (b := 3 * 14) (fun i hi => pk_un (by omega)), ← hm, show upd g (42 + d) (nI l) (3 * 14 + d) = nI l from pk_us]
      · have hd3 : d = 3 := by omega
        refine br_f h0 (br_t (nI_lt (b := 16) h16 (by omega)) (br_f (nI_nlt (b := 3) (by omega) (by omega)) ?_))
        refine br_f h0 (br_t (nI_le (b := 15) (by omega) (by omega)) (br_t ?_ ⟨rfl, I'⟩))
        rw [hz, hd3]
        rfl
    · refine br_f h0 (br_f (nI_nlt (b := 16) (by omega) hl2) ?_)
      exact br_f h0 (br_f (nI_ge (a := 15) (by omega) hl2) ⟨rfl, I'⟩)
theorem i_vc_scrap {k : Nat} {u : SX} {v : SY} (I : i_Rel k u v) (hk : k + 4 ≤ 2048) : wpX_scrap (fun u' => wpY_scrap (fun v' => i_Rel (k + 4) u' v') v) u := by
  obtain ⟨n, d, A, w, g, z, dl, hn, rfl, rfl, hC, hD⟩ := I
  have R : i_Rel (k + 4) (nI n, 0, 0, A, w) (nI n, g, upd z 14 0, w) := by
    refine ⟨n, 0, A, w, g, upd z 14 0, 0, hn, rfl, rfl, fun c hc => ?_, ⟨by omega, pk_us, fun i h => absurd h (Nat.not_lt_zero i), rfl⟩⟩
    obtain ⟨s, C⟩ := hC c hc
    exact ⟨s, mc_Cl_c C (pk_un (by omega)) (fun i hi => rfl)⟩
  show ∀ a_sizes_2 : Nat → Int32, a_sizes_2 = upd z 14 0 → i_Rel (k + 4) (nI n, 0, 0, A, w) (nI n, g, a_sizes_2, w)
  exact nm_e R
theorem my_cl {n d : Nat} {g z w : Nat → Int32} {post : Int32 → SY → Prop} (hn : n < 14) (hd : d ≤ 3) (hz : z 14 = nI d) (K : ∀ G : Nat → Int32, (∀ i, i < d → G (3 * n + i) = g (42 + i)) → (∀ q, q < 3 * n ∨ 3 * n + 3 ≤ q → G q = g q) → post (nI n) (nI (n + 1), G, upd (upd z n (nI d)) 14 0, w)) : ∀ e i G, i + e = d → (∀ i', i' < i → G (3 * n + i') = g (42 + i')) → (∀ q, q < 3 * n ∨ 3 * n + 3 ≤ q → G q = g q) → wY_clause_14 post (nI n) (e + 1) (nI i) G z w
  | 0, i, G, h, h1, h2 => by
    refine br_t (by rw [hz]; exact nI_le (by omega) (by omega)) ⟨vp_in_nI (by omega) (by omega), ?_⟩
    rw [nI_clamp (by omega), hz]
    refine nm_e (nm_e (nm_r (nI_1 n) ?_))
    rw [nI_pred]
    have h' : i = d := by omega
    rw [h'] at h1
    exact K G h1 h2
  | e + 1, i, G, h, h1, h2 => by
    have e42 : (42 : Int32) + nI i = nI (42 + i) := nI_add 42 i
    have e3 : (3 : Int32) * nI n + nI i = nI (3 * n + i) := (congrArg (fun q => q + nI i) (pk_mul 3 n)).trans (nI_add _ _)
    refine br_f (by rw [hz]; exact nI_ge (by omega) (by omega)) ?_
    rw [e42, e3, nI_clamp (n := 42 + i) (by omega), nI_clamp (n := 3 * n + i) (by omega)]
    refine ⟨vp_in_nI (by omega) (by omega), vp_in_nI (by omega) (by omega), nm_e (nm_r (nI_1 i) (my_cl hn hd hz K e (i + 1) _ (by omega) (lt_s (fun i' hi' => (pk_un (by omega)).trans (h1 i' hi')) (pk_us.trans (h2 (42 + i) (by omega)))) (fun q hq => (pk_un (by omega)).trans (h2 q hq))))⟩
theorem i_vc_clause {k : Nat} {u : SX} {v : SY} (I : i_Rel k u v) (hk : k + 4 ≤ 2048) : wpX_clause (fun r u' => wpY_clause (fun r' v' => r' = r ∧ i_Rel (k + 4) u' v') v) u := by
  have I' := i_up I
  obtain ⟨n, d, A, w, g, z, dl, hn, rfl, rfl, hC, hD⟩ := I
  obtain ⟨h3, hz, hl, hm⟩ := hD
  by_cases h : n < 14
  · refine br_t (nI_lt (b := 14) h (by omega)) ⟨vp_in_nI h (by omega), ?_⟩
    rw [nI_clamp (by omega)]
    refine nm_e (nm_r (nI_1 n) ?_)
    have Y : wpY_clause (fun r' v' => r' = nI n ∧ i_Rel (k + 4) (nI (n + 1), 0, 0, upd A n dl, w) v') (nI n, g, z, w) := by
      refine br_f (fun e => absurd ((nI_eq (b := 14) (by omega) (by omega)).mp e) (by omega)) ⟨d + 1, my_cl h h3 hz (fun G h1 h2 => ⟨rfl, ?_⟩) d 0 g (by omega) (fun i h => absurd h (Nat.not_lt_zero i)) (fun q _ => rfl)⟩
      refine ⟨n + 1, 0, upd A n dl, w, G, upd (upd z n (nI d)) 14 0, 0, by omega, rfl, rfl, fun c hc => ?_, ⟨by omega, pk_us, fun i h => absurd h (Nat.not_lt_zero i), rfl⟩⟩
      rcases Nat.lt_or_ge c n with h4 | h4
      · obtain ⟨s, C⟩ := hC c h4
        refine ⟨s, ?_⟩
        rw [pk_un (by omega)]
        exact mc_Cl_c C ((pk_un (by omega)).trans (pk_un (by omega))) (fun i hi => h2 _ (by omega))
      · have h5 : c = n := by omega
        rw [h5]
        refine ⟨d, h3, (pk_un (by omega)).trans pk_us, fun i hi => ?_, ?_⟩
        · obtain ⟨l, h6, h7⟩ := hl i hi
          exact ⟨l, h6, (h1 i hi).trans h7⟩
        · rw [pk_us, hm]
          exact (mc_mask_c (fun i hi => h1 i hi)).symm
    unfold wpX_scrap
    exact Y
  · have h14 : n = 14 := by omega
    exact br_f (nI_nlt (b := 14) (by omega) (by omega)) (br_t (congrArg nI h14) ⟨rfl, I'⟩)
theorem i_vc_unclause {k : Nat} {u : SX} {v : SY} (I : i_Rel k u v) (hk : k + 4 ≤ 2048) : wpX_unclause (fun r u' => wpY_unclause (fun r' v' => r' = r ∧ i_Rel (k + 4) u' v') v) u := by
  have I' := i_up I
  obtain ⟨n, d, A, w, g, z, dl, hn, rfl, rfl, hC, hD⟩ := I
  cases n with
  | zero => exact br_f (by decide) (br_t rfl ⟨rfl, I'⟩)
  | succ m =>
    refine br_t (nI_lt (a := 0) (by omega) (by omega)) (nm_r (nI_pred m) ?_)
    refine br_f (nI_ne0 (by omega) (by omega)) (nm_r (nI_pred m) ⟨rfl, ?_⟩)
    exact ⟨m, d, A, w, g, z, dl, by omega, rfl, rfl, fun c hc => hC c (by omega), hD⟩
theorem i_vc_clauses {k : Nat} {u : SX} {v : SY} (I : i_Rel k u v) (hk : k + 4 ≤ 2048) : wpX_clauses (fun r => wpY_clauses (fun r' => r' = r ∧ i_Rel (k + 4) u v) v) u := by
  have I' := i_up I
  obtain ⟨n, d, A, w, g, z, dl, hn, rfl, rfl, hC, hD⟩ := I
  exact And.intro rfl I'
theorem i_vc_weight {k : Nat} {u : SX} {v : SY} (I : i_Rel k u v) (hk : k + 4 ≤ 2048) (v1 : Int32) (v2 : Int32) (v3 : Int32) : wpX_weight (fun r u' => wpY_weight (fun r' v' => r' = r ∧ i_Rel (k + 4) u' v') v v1 v2 v3) u v1 v2 v3 := by
  have I' := i_up I
  obtain ⟨n, d, A, w, g, z, dl, hn, rfl, rfl, hC, hD⟩ := I
  unfold wpX_weight
  try dsimp only
  by_cases a0 : v1 < 0
  · exact mx_ivN a0 (br_t rfl (br_t a0 ⟨rfl, I'⟩))
  obtain ⟨x, hx, rfl⟩ := nI_of a0
  by_cases a8 : x < 8
  · refine mx_ivO a8 (br_f (by decide) ?_)
    have y8 : ¬ (7 : Int32) < nI x := nI_nlt (a := 7) (by omega) (by omega)
    by_cases b0 : v2 < 0
    · exact mx_itN b0 (br_t rfl (br_f a0 (br_f y8 (br_t b0 ⟨rfl, I'⟩))))
    obtain ⟨y, hy, rfl⟩ := nI_of b0
    by_cases b2 : y < 2
    · refine mx_itO b2 (br_f (by decide) ?_)
      have y2 : ¬ (1 : Int32) < nI y := nI_nlt (a := 1) (by omega) (by omega)
      by_cases c0 : v3 < 0
      · exact br_t c0 (br_f a0 (br_f y8 (br_f b0 (br_f y2 (br_t c0 ⟨rfl, I'⟩)))))
      by_cases c9 : v3 ≤ 9
      · have e : (2 : Int32) * nI x + nI y = nI (2 * x + y) := (congrArg (fun q => q + nI y) (pk_mul 2 x)).trans (nI_add _ _)
        have hi : vp_in ((2 : Int32) * nI x + nI y) 16 := by
          rw [e]
          exact vp_in_nI (by omega) (by omega)
        refine br_f c0 (br_t c9 ⟨hi, nm_e ⟨hi, nm_e ?_⟩⟩)
        refine br_f a0 (br_f y8 (br_f b0 (br_f y2 (br_f c0 (br_t c9 ⟨hi, nm_e ⟨hi, nm_e ⟨rfl, ?_⟩⟩⟩)))))
        exact ⟨n, d, A, _, g, z, dl, hn, rfl, rfl, hC, hD⟩
      · exact br_f c0 (br_f c9 (br_f a0 (br_f y8 (br_f b0 (br_f y2 (br_f c0 (br_f c9 ⟨rfl, I'⟩)))))))
    · exact mx_itB hy (by omega) (br_t rfl (br_f a0 (br_f y8 (br_f b0 (br_t (nI_lt (a := 1) (by omega) hy) ⟨rfl, I'⟩)))))
  · exact mx_ivB hx (by omega) (br_t rfl (br_f a0 (br_t (nI_lt (a := 7) (by omega) hx) ⟨rfl, I'⟩)))
end
section
/-! the methods that only read -/
theorem i_vc_count {k : Nat} {u : SX} {v : SY} (I : i_Rel k u v) (hk : k + 4 ≤ 2048) : wpX_count (fun r => wpY_count (fun r' => r' = r ∧ i_Rel (k + 4) u v) v) u := by
  have I' := i_up I
  obtain ⟨n, d, A, w, g, z, dl, hn, rfl, rfl, hC, hD⟩ := I
  exact mx_count (mx_sat hn) (my_count (my_mts hn hC) ⟨rfl, I'⟩)
theorem i_vc_countWith {k : Nat} {u : SX} {v : SY} (I : i_Rel k u v) (hk : k + 4 ≤ 2048) (v1 : Int32) (v2 : Int32) : wpX_countWith (fun r => wpY_countWith (fun r' => r' = r ∧ i_Rel (k + 4) u v) v v1 v2) u v1 v2 := by
  have I' := i_up I
  obtain ⟨n, d, A, w, g, z, dl, hn, rfl, rfl, hC, hD⟩ := I
  unfold wpX_countWith
  try dsimp only
  by_cases a0 : v1 < 0
  · exact mx_iaN a0 (br_t rfl (br_t a0 ⟨rfl, I'⟩))
  obtain ⟨x, hx, rfl⟩ := nI_of a0
  by_cases a8 : x < 256
  · refine mx_iaO a8 (br_f (by decide) ?_)
    have y8 : ¬ (255 : Int32) < nI x := nI_nlt (a := 255) (by omega) (by omega)
    by_cases b0 : v2 < 0
    · exact mx_iaN b0 (br_t rfl (br_f a0 (br_f y8 (br_t b0 ⟨rfl, I'⟩))))
    obtain ⟨y, hy, rfl⟩ := nI_of b0
    by_cases b8 : y < 256
    · refine mx_iaO b8 (br_f (by decide) ?_)
      refine mx_mms (p := fun j => decide (nI j &&& nI x = nI y &&& nI x) && mc_S A n j) (q := fun j => decide (nI j &&& nI x = nI y &&& nI x)) (fun j hj => (mc_agr _ _ _).trans decide_eq_true_iff.symm) (fun j => rfl) (mx_sat hn) ?_
      exact br_f a0 (br_f y8 (br_f b0 (br_t (nI_le (b := 255) (by omega) (by omega)) ⟨257, my_cw (p := fun j => decide (nI j &&& nI x = nI y &&& nI x) && mc_S A n j) (q := fun j => decide (nI j &&& nI x = nI y &&& nI x)) (fun j hj => decide_eq_true_iff.symm) (fun j => rfl) (my_mts hn hC) ⟨rfl, I'⟩ 256 0 rfl⟩)))
    · exact mx_iaB hy (by omega) (br_t rfl (br_f a0 (br_f y8 (br_f b0 (br_f (nI_ge (a := 255) (by omega) hy) ⟨rfl, I'⟩)))))
  · exact mx_iaB hx (by omega) (br_t rfl (br_f a0 (br_t (nI_lt (a := 255) (by omega) hx) ⟨rfl, I'⟩)))
theorem i_vc_countSize {k : Nat} {u : SX} {v : SY} (I : i_Rel k u v) (hk : k + 4 ≤ 2048) (v1 : Int32) : wpX_countSize (fun r => wpY_countSize (fun r' => r' = r ∧ i_Rel (k + 4) u v) v v1) u v1 := by
  have I' := i_up I
  obtain ⟨n, d, A, w, g, z, dl, hn, rfl, rfl, hC, hD⟩ := I
  exact mx_css (p := fun j => decide (mc_tv j = v1) && mc_S A n j) (q := fun j => decide (mc_tv j = v1)) (fun j hj => decide_eq_true_iff.symm) (fun j => rfl) (mx_sat hn) (my_css (p := fun j => decide (mc_tv j = v1) && mc_S A n j) (q := fun j => decide (mc_tv j = v1)) (fun j hj => decide_eq_true_iff.symm) (fun j => rfl) (my_mts hn hC) ⟨rfl, I'⟩)
theorem i_vc_weighted {k : Nat} {u : SX} {v : SY} (I : i_Rel k u v) (hk : k + 4 ≤ 2048) : wpX_weighted (fun r => wpY_weighted (fun r' => r' = r ∧ i_Rel (k + 4) u v) v) u := by
  have I' := i_up I
  obtain ⟨n, d, A, w, g, z, dl, hn, rfl, rfl, hC, hD⟩ := I
  have E := mc_split (mc_S A n) (fun j => decide (mc_tr j 0 = nI 0)) (fun j => decide (mc_tr j 0 = nI 1)) (mc_wt w) 256 (fun j hj => by
    rcases mc_tr01 (j := j) (v := 0) hj (by omega) with e | e
    · show decide (mc_tr j 0 = nI 1) = !decide (mc_tr j 0 = nI 0)
      rw [e]
      decide
    · show decide (mc_tr j 0 = nI 1) = !decide (mc_tr j 0 = nI 0)
      rw [e]
      decide)
  unfold wpX_weighted
  try dsimp only
  refine mx_wms (p := mc_S A n) (q := fun _ => true) (fun j hj => ⟨fun _ => rfl, fun _ => mc_agr0 _⟩) (fun j => rfl) (mx_sat hn) ?_
  unfold wpY_weighted
  try dsimp only
  refine my_shs (v := 0) (b := 0) (p := fun j => decide (mc_tr j 0 = nI 0) && mc_S A n j) (q := fun j => decide (mc_tr j 0 = nI 0)) (by omega) (by omega) (fun j hj => decide_eq_true_iff.symm) (fun j => rfl) (my_mts hn hC) ?_
  refine my_shs (v := 0) (b := 1) (p := fun j => decide (mc_tr j 0 = nI 1) && mc_S A n j) (q := fun j => decide (mc_tr j 0 = nI 1)) (by omega) (by omega) (fun j hj => decide_eq_true_iff.symm) (fun j => rfl) (my_mts hn hC) ?_
  exact ⟨E.symm, I'⟩
theorem i_vc_share {k : Nat} {u : SX} {v : SY} (I : i_Rel k u v) (hk : k + 4 ≤ 2048) (v1 : Int32) (v2 : Int32) : wpX_share (fun r => wpY_share (fun r' => r' = r ∧ i_Rel (k + 4) u v) v v1 v2) u v1 v2 := by
  have I' := i_up I
  obtain ⟨n, d, A, w, g, z, dl, hn, rfl, rfl, hC, hD⟩ := I
  unfold wpX_share
  try dsimp only
  by_cases a0 : v1 < 0
  · exact mx_ivN a0 (br_t rfl (br_t a0 ⟨rfl, I'⟩))
  obtain ⟨x, hx, rfl⟩ := nI_of a0
  by_cases a8 : x < 8
  · refine mx_ivO a8 (br_f (by decide) ?_)
    have y8 : ¬ (7 : Int32) < nI x := nI_nlt (a := 7) (by omega) (by omega)
    by_cases b0 : v2 < 0
    · exact mx_itN b0 (br_t rfl (br_f a0 (br_f y8 (br_t b0 ⟨rfl, I'⟩))))
    obtain ⟨y, hy, rfl⟩ := nI_of b0
    by_cases b2 : y < 2
    · refine mx_itO b2 (br_f (by decide) ?_)
      refine mx_wms (p := fun j => decide (mc_tr j x = nI y) && mc_S A n j) (q := fun j => decide (mc_tr j x = nI y)) (fun j hj => (mc_shr j hj x a8 y b2).trans decide_eq_true_iff.symm) (fun j => rfl) (mx_sat hn) ?_
      exact my_shs (p := fun j => decide (mc_tr j x = nI y) && mc_S A n j) (q := fun j => decide (mc_tr j x = nI y)) a8 b2 (fun j hj => decide_eq_true_iff.symm) (fun j => rfl) (my_mts hn hC) ⟨rfl, I'⟩
    · exact mx_itB hy (by omega) (br_t rfl (br_f a0 (br_f y8 (br_f b0 (br_f (nI_ge (a := 1) (by omega) hy) ⟨rfl, I'⟩)))))
  · exact mx_ivB hx (by omega) (br_t rfl (br_f a0 (br_t (nI_lt (a := 7) (by omega) hx) ⟨rfl, I'⟩)))
theorem i_vc_model {k : Nat} {u : SX} {v : SY} (I : i_Rel k u v) (hk : k + 4 ≤ 2048) (v1 : Int32) : wpX_model (fun r => wpY_model (fun r' => r' = r ∧ i_Rel (k + 4) u v) v v1) u v1 := by
  have I' := i_up I
  obtain ⟨n, d, A, w, g, z, dl, hn, rfl, rfl, hC, hD⟩ := I
  have Y : ∀ post : Int32 → Prop, post (mc_md (mc_S A n) v1 256 0) → wpY_model post (nI n, g, z, w) v1 := fun post hp =>
    show ∃ n4 : Nat, wY_model_4 post v1 (nI n) g z w n4 0 0 from ⟨257, my_md (my_mts hn hC) 256 0 rfl hp⟩
  by_cases h0 : 0 ≤ v1
  · exact br_t h0 ⟨257, mx_md (mx_sat hn) 256 0 rfl (Y _ ⟨rfl, I'⟩)⟩
  · exact br_f h0 (Y _ ⟨mc_md_neg h0 256 0 rfl, I'⟩)
theorem i_vc_rank {k : Nat} {u : SX} {v : SY} (I : i_Rel k u v) (hk : k + 4 ≤ 2048) (v1 : Int32) : wpX_rank (fun r => wpY_rank (fun r' => r' = r ∧ i_Rel (k + 4) u v) v v1) u v1 := by
  have I' := i_up I
  obtain ⟨n, d, A, w, g, z, dl, hn, rfl, rfl, hC, hD⟩ := I
  by_cases a0 : v1 < 0
  · exact br_t a0 (br_t a0 ⟨rfl, I'⟩)
  obtain ⟨x, hx, rfl⟩ := nI_of a0
  by_cases a8 : x ≤ 256
  · refine br_f a0 (br_t (nI_le (b := 256) a8 (by omega)) ?_)
    exact mx_mbs a8 (mx_sat hn) (my_rks a8 (my_mts hn hC) ⟨rfl, I'⟩)
  · have h : ¬ nI x ≤ (256 : Int32) := nI_ge (a := 256) (by omega) hx
    exact br_f a0 (br_f h (br_f a0 (br_f h ⟨rfl, I'⟩)))
theorem i_vc_isModel {k : Nat} {u : SX} {v : SY} (I : i_Rel k u v) (hk : k + 4 ≤ 2048) (v1 : Int32) : wpX_isModel (fun r => wpY_isModel (fun r' => r' = r ∧ i_Rel (k + 4) u v) v v1) u v1 := by
  have I' := i_up I
  obtain ⟨n, d, A, w, g, z, dl, hn, rfl, rfl, hC, hD⟩ := I
  unfold wpX_isModel
  try dsimp only
  by_cases a0 : v1 < 0
  · exact mx_iaN a0 (br_t rfl (br_t a0 ⟨rfl, I'⟩))
  obtain ⟨x, hx, rfl⟩ := nI_of a0
  by_cases a8 : x < 256
  · refine mx_iaO a8 (br_f (by decide) ?_)
    have y8 : ¬ (255 : Int32) < nI x := nI_nlt (a := 255) (by omega) (by omega)
    have Y : ∀ post : Int32 → Prop, post (mc_b (mc_S A n x)) → wpY_makesTrue post (nI n, g, z, w) (nI x) := my_mts hn hC x a8
    refine mx_sat hn x a8 _ (mc_br (fun e => br_f a0 (br_f y8 (Y _ ?_))) (fun e => br_f a0 (br_f y8 (Y _ ?_))))
    · rw [e]
      exact br_t rfl ⟨rfl, I'⟩
    · rw [e]
      exact br_f (by decide) ⟨rfl, I'⟩
  · exact mx_iaB hx (by omega) (br_t rfl (br_f a0 (br_t (nI_lt (a := 255) (by omega) hx) ⟨rfl, I'⟩)))
theorem i_vc_alwaysTrue {k : Nat} {u : SX} {v : SY} (I : i_Rel k u v) (hk : k + 4 ≤ 2048) : wpX_alwaysTrue (fun r => wpY_alwaysTrue (fun r' => r' = r ∧ i_Rel (k + 4) u v) v) u := by
  have I' := i_up I
  obtain ⟨n, d, A, w, g, z, dl, hn, rfl, rfl, hC, hD⟩ := I
  have Y : ∀ post : Int32 → Prop, (mc_any (mc_S A n) 256 = false → post (-4)) → (mc_any (mc_S A n) 256 = true → post (mc_at (mc_S A n) 256)) → wpY_alwaysTrue post (nI n, g, z, w) := fun post h0 h1 =>
    show ∃ n8 : Nat, wY_alwaysTrue_8 post (nI n) g z w n8 255 0 0 from ⟨257, my_at (my_mts hn hC) h0 h1 256 0 rfl⟩
  have X : ∀ post : Int32 → Prop, (mc_any (mc_S A n) 256 = false → post (-4)) → (mc_any (mc_S A n) 256 = true → post (mc_at (mc_S A n) 256)) → wpX_alwaysTrue post (nI n, dl, nI d, A, w) := fun post h0 h1 =>
    show ∃ n8 : Nat, wX_alwaysTrue_8 post (nI n) dl (nI d) A w n8 0 255 0 from ⟨257, mx_at (mx_sat hn) h0 h1 256 0 rfl⟩
  exact X _ (fun e => Y _ (fun _ => ⟨rfl, I'⟩) (fun e2 => absurd (e.symm.trans e2) (by decide))) (fun e => Y _ (fun e2 => absurd (e2.symm.trans e) (by decide)) (fun _ => ⟨rfl, I'⟩))
theorem i_vc_alwaysFalse {k : Nat} {u : SX} {v : SY} (I : i_Rel k u v) (hk : k + 4 ≤ 2048) : wpX_alwaysFalse (fun r => wpY_alwaysFalse (fun r' => r' = r ∧ i_Rel (k + 4) u v) v) u := by
  have I' := i_up I
  obtain ⟨n, d, A, w, g, z, dl, hn, rfl, rfl, hC, hD⟩ := I
  have Y : ∀ post : Int32 → Prop, (mc_any (mc_S A n) 256 = false → post (-4)) → (mc_any (mc_S A n) 256 = true → post (255 - nI (mc_os (mc_S A n) 256))) → wpY_alwaysFalse post (nI n, g, z, w) := fun post h0 h1 =>
    show ∃ n6 : Nat, wY_alwaysFalse_6 post (nI n) g z w n6 0 0 0 from ⟨257, my_af (my_mts hn hC) h0 h1 256 0 rfl⟩
  have X : ∀ post : Int32 → Prop, (mc_any (mc_S A n) 256 = false → post (-4)) → (mc_any (mc_S A n) 256 = true → post (255 - nI (mc_os (mc_S A n) 256))) → wpX_alwaysFalse post (nI n, dl, nI d, A, w) := fun post h0 h1 => by
    show ∃ n8 : Nat, wX_alwaysFalse_8 post (nI n) dl (nI d) A w n8 0 255 0
    have e := mx_af (mx_sat (dl := dl) (ds := nI d) (w := w) hn) h0 h1 256 0 rfl
    have e0 : (255 : Int32) - nI (mc_os (mc_S A n) 0) = 255 := Int32.sub_zero 255
    rw [e0] at e
    exact ⟨257, e⟩
  exact X _ (fun e => Y _ (fun _ => ⟨rfl, I'⟩) (fun e2 => absurd (e.symm.trans e2) (by decide))) (fun e => Y _ (fun e2 => absurd (e2.symm.trans e) (by decide)) (fun _ => ⟨rfl, I'⟩))
theorem i_vc_idle {k : Nat} {u : SX} {v : SY} (I : i_Rel k u v) (hk : k + 4 ≤ 2048) : wpX_idle (fun r => wpY_idle (fun r' => r' = r ∧ i_Rel (k + 4) u v) v) u := by
  have I' := i_up I
  obtain ⟨n, d, A, w, g, z, dl, hn, rfl, rfl, hC, hD⟩ := I
  have Y : ∀ post : Int32 → Prop, post (mc_ids (mc_S A n) 8) → wpY_idle post (nI n, g, z, w) := fun post hp =>
    show ∃ n4 : Nat, wY_idle_4 post (nI n) g z w n4 0 0 from ⟨9, my_id (my_mts hn hC) hp 8 0 rfl⟩
  have X : ∀ post : Int32 → Prop, post (mc_ids (mc_S A n) 8) → wpX_idle post (nI n, dl, nI d, A, w) := fun post hp =>
    show ∃ n4 : Nat, wX_idle_4 post (nI n) dl (nI d) A w n4 0 0 from ⟨9, mx_id (mx_sat hn) hp 8 0 rfl⟩
  exact X _ (Y _ ⟨rfl, I'⟩)
theorem i_vc_leastTrue {k : Nat} {u : SX} {v : SY} (I : i_Rel k u v) (hk : k + 4 ≤ 2048) : wpX_leastTrue (fun r => wpY_leastTrue (fun r' => r' = r ∧ i_Rel (k + 4) u v) v) u := by
  have I' := i_up I
  obtain ⟨n, d, A, w, g, z, dl, hn, rfl, rfl, hC, hD⟩ := I
  have Y : ∀ (x : Int32) (post : Int32 → Prop), mc_L (mc_S A n) 256 x → post x → wpY_leastTrue post (nI n, g, z, w) := fun x post hx hp =>
    show ∃ n2 : Nat, wY_leastTrue_2 post (nI n) g z w n2 0 from ⟨10, my_lt (my_mts hn hC) hx hp 9 0 rfl (fun j _ _ => Nat.zero_le _)⟩
  have X : ∀ post : Int32 → Prop, (∀ x, mc_L (mc_S A n) 256 x → post x) → wpX_leastTrue post (nI n, dl, nI d, A, w) := fun post hp =>
    show ∃ n5 : Nat, wX_leastTrue_5 post (nI n) dl (nI d) A w n5 (-4) 0 from ⟨257, mx_lt (mx_sat hn) hp 256 0 (-4) rfl (mc_L0 _)⟩
  exact X _ (fun x hx => Y x _ hx ⟨rfl, I'⟩)
end
