section
theorem pk_us {f : Nat → Int32} {k : Nat} {x : Int32} : upd f k x k = x := if_pos rfl
theorem pk_un {f : Nat → Int32} {k j : Nat} {x : Int32} (h : j ≠ k) : upd f k x j = f j := if_neg h
theorem pk_sub {a b : Nat} (h : b ≤ a) : nI a - nI b = nI (a - b) := by
  obtain ⟨c, rfl⟩ : ∃ c, a = c + b := ⟨a - b, by omega⟩
  rw [← nI_add, Int32.add_sub_cancel, Nat.add_sub_cancel]
theorem pk_m1 (n : Nat) : nI (n + 1) + (-1) = nI n := by
  rw [← nI_1, Int32.add_assoc, show (1 : Int32) + (-1) = 0 from rfl, Int32.add_zero]
theorem pk_mul (a b : Nat) : nI a * nI b = nI (a * b) := (Int32.ofNat_mul a b).symm
theorem pk_ix (x : Int32) {n : Nat} (hn : n < 2 ^ 31) : x < 0 ∨ nI n ≤ x ∨ ∃ j : Nat, j < n ∧ x = nI j := by
  by_cases h : x < 0
  · exact Or.inl h
  · obtain ⟨j, hj, rfl⟩ := nI_of h
    by_cases h2 : j < n
    · exact Or.inr (Or.inr ⟨j, h2, rfl⟩)
    · exact Or.inr (Or.inl (nI_le (by omega) hj))
theorem pk_le {x y : Int32} {A B : Prop} (a b : Nat) (f : a ≤ b → A) (g : b < a → B) (hx : x = nI a := by rfl) (hy : y = nI b := by rfl) (ha : a < 2 ^ 31 := by omega) (hb : b < 2 ^ 31 := by omega) : (x ≤ y → A) ∧ (¬ x ≤ y → B) := by
  subst hx hy
  rw [nI_leI ha hb]
  exact ⟨f, fun z => g (by omega)⟩
theorem pk_lt {x y : Int32} {A B : Prop} (a b : Nat) (f : a < b → A) (g : b ≤ a → B) (hx : x = nI a := by rfl) (hy : y = nI b := by rfl) (ha : a < 2 ^ 31 := by omega) (hb : b < 2 ^ 31 := by omega) : (x < y → A) ∧ (¬ x < y → B) := by
  subst hx hy
  rw [nI_ltI ha hb]
  exact ⟨f, fun z => g (by omega)⟩
theorem pk_eq {x y : Int32} {A B : Prop} (a b : Nat) (f : a = b → A) (g : a ≠ b → B) (hx : x = nI a := by rfl) (hy : y = nI b := by rfl) (ha : a < 2 ^ 31 := by omega) (hb : b < 2 ^ 31 := by omega) : (x = y → A) ∧ (¬ x = y → B) := by
  subst hx hy
  rw [nI_eq ha hb]
  exact ⟨f, g⟩
theorem pk_in {x : Int32} (n N : Nat) (h : n < N) (hx : x = nI n := by rfl) (hN : N < 2 ^ 31 := by omega) : vp_in x N := by
  subst hx
  exact vp_in_nI h hN
theorem pk_cl {x : Int32} (n : Nat) (hx : x = nI n := by rfl) (h : n < 2 ^ 31 := by omega) : x.toNatClampNeg = n := by
  subst hx
  exact nI_clamp h
def bt (x : Int32) (i : Nat) : Bool := x.toBitVec.getLsbD i
theorem b_ext {x y : Int32} (h : ∀ i, i < 32 → bt x i = bt y i) : x = y := Int32.toBitVec_inj.mp (BitVec.eq_of_getLsbD_eq (fun i hi => h i hi))
theorem b_or (x y : Int32) (i : Nat) : bt (x ||| y) i = (bt x i || bt y i) := by unfold bt; rw [Int32.toBitVec_or, BitVec.getLsbD_or]
theorem b_and (x y : Int32) (i : Nat) : bt (x &&& y) i = (bt x i && bt y i) := by unfold bt; rw [Int32.toBitVec_and, BitVec.getLsbD_and]
theorem b_xor (x y : Int32) (i : Nat) : bt (x ^^^ y) i = (bt x i ^^ bt y i) := by unfold bt; rw [Int32.toBitVec_xor, BitVec.getLsbD_xor]
theorem b_big {x : Int32} {i : Nat} (h : 32 ≤ i) : bt x i = false := BitVec.getLsbD_of_ge _ _ h
theorem b_m1 : ∀ i, i < 32 → bt (-1) i = true := by decide +kernel
theorem b_0 (i : Nat) : bt 0 i = false := BitVec.getLsbD_zero
theorem s_l : ∀ n, n < 32 → ((nI n &&& 31).toBitVec.smod 32).toNat = n := by decide +kernel
theorem b_shl (n : Nat) (hn : n < 32) (x : Int32) {i : Nat} (hi : i < 32) : bt (x <<< (nI n &&& 31)) i = (decide (n ≤ i) && bt x (i - n)) := by
  unfold bt
  rw [Int32.toBitVec_shiftLeft]
  show (x.toBitVec <<< ((nI n &&& 31).toBitVec.smod 32).toNat).getLsbD i = _
  rw [s_l n hn, BitVec.getLsbD_shiftLeft]
  rcases Nat.lt_or_ge i n with h | h
  · simp [h, Nat.not_le.mpr h]
  · simp [hi, h, Nat.not_lt.mpr h]
theorem b_sshr (n : Nat) (hn : n < 32) (x : Int32) {i : Nat} (hi : i < 32) : bt (x >>> (nI n &&& 31)) i = if n + i < 32 then bt x (n + i) else bt x 31 := by
  unfold bt
  rw [Int32.toBitVec_shiftRight]
  show (x.toBitVec.sshiftRight ((nI n &&& 31).toBitVec.smod 32).toNat).getLsbD i = _
  rw [s_l n hn, BitVec.getLsbD_sshiftRight, BitVec.msb_eq_getLsbD_last]
  simp [hi]
end
section
/-! numbers, bits, frames of eight cells, counts -/
theorem vh_8 (g i : Nat) : nI g * 8 + nI i = nI (8 * g + i) := by
  show nI g * nI 8 + nI i = _
  rw [pk_mul, nI_add]
  exact congrArg nI (by omega)
theorem vh_c8 {g i : Nat} (h : 8 * g + i < 2 ^ 31) : (nI g * 8 + nI i).toNatClampNeg = 8 * g + i := by
  rw [vh_8, nI_clamp h]
theorem vh_40 (t i : Nat) : nI t * 40 + nI i = nI (8 * (5 * t) + i) := by
  show nI t * nI 40 + nI i = _
  rw [pk_mul, nI_add]
  exact congrArg nI (by omega)
theorem vh_c40 {t i : Nat} (h : 8 * (5 * t) + i < 2 ^ 31) : (nI t * 40 + nI i).toNatClampNeg = 8 * (5 * t) + i := by
  rw [vh_40, nI_clamp h]
theorem vh_58 (t j i : Nat) : (nI t * 5 + nI j) * 8 + nI i = nI (8 * (5 * t + j) + i) := by
  show (nI t * nI 5 + nI j) * nI 8 + nI i = _
  rw [pk_mul, nI_add, pk_mul, nI_add]
  exact congrArg nI (by omega)
theorem vh_c58 {t j i : Nat} (h : 8 * (5 * t + j) + i < 2 ^ 31) : ((nI t * 5 + nI j) * 8 + nI i).toNatClampNeg = 8 * (5 * t + j) + i := by
  rw [vh_58, nI_clamp h]
theorem vh_5 (t j : Nat) : nI t * 5 + nI j = nI (5 * t + j) := by
  show nI t * nI 5 + nI j = _
  rw [pk_mul, nI_add]
  exact congrArg nI (by omega)
theorem vh_50 (t : Nat) : nI t * 5 = nI (5 * t) := by
  show nI t * nI 5 = _
  rw [pk_mul]
  exact congrArg nI (by omega)
theorem vh_200 (i : Nat) : 200 + nI i = nI (200 + i) := by
  show nI 200 + nI i = _
  rw [nI_add]
theorem vh_nb {x : Int32} (h : x = 0 ∨ x = 1) : vp_nar .boolean x = x := by
  rcases h with rfl | rfl <;> rfl
theorem vh_n0 : vp_nar .boolean 0 = 0 := rfl
theorem vh_n1 : vp_nar .boolean 1 = 1 := rfl
def vh_n (a : Nat → Int32) : Prop := ∀ j, a j = 0 ∨ a j = 1
theorem vh_nu {a : Nat → Int32} {k : Nat} {x : Int32} (h : vh_n a) (hx : x = 0 ∨ x = 1) : vh_n (upd a k x) := by
  intro j
  by_cases e : j = k
  · subst e; rw [pk_us]; exact hx
  · rw [pk_un e]; exact h j
/-- a Bool as the int that stands for it -/
def vh_b : Bool → Int32
  | true => 1
  | false => 0
theorem vh_b01 (b : Bool) : vh_b b = 0 ∨ vh_b b = 1 := by cases b; exact Or.inl rfl; exact Or.inr rfl
theorem vh_bn {b : Bool} (h : vh_b b = 0) : b = false := by
  cases b
  · rfl
  · exact absurd h (by decide)
theorem vh_bt {b : Bool} (h : ¬ vh_b b = 0) : b = true := by
  cases b
  · exact absurd rfl h
  · rfl
theorem vh_1 : ∀ i, i < 32 → bt 1 i = decide (i = 0) := by decide +kernel
theorem vh_bb (b : Bool) {i : Nat} (hi : i < 32) : bt (vh_b b) i = (b && decide (i = 0)) := by
  cases b
  · show bt 0 i = _
    rw [b_0]; rfl
  · show bt 1 i = _
    rw [vh_1 i hi]; rfl
theorem vh_hk (x : Int32) {k : Nat} (hk : k < 8) : (x >>> (nI k &&& 31)) &&& 1 = vh_b (bt x k) := by
  apply b_ext
  intro i hi
  rw [b_and, b_sshr k (by omega) x hi, vh_bb _ hi, vh_1 i hi]
  by_cases e : i = 0
  · subst e
    rw [if_pos (by omega)]
    rfl
  · rw [decide_eq_false e, Bool.and_false, Bool.and_false]
theorem vh_sh {k i : Nat} (hk : k < 32) (hi : i < 32) : bt ((1 : Int32) <<< (nI k &&& 31)) i = decide (i = k) := by
  rw [b_shl k hk 1 hi, vh_1 (i - k) (by omega), ← Bool.decide_and]
  exact decide_eq_decide.mpr (by omega)
theorem vh_or (x : Int32) {k i : Nat} (hk : k < 32) (hi : i < 32) : bt (x ||| ((1 : Int32) <<< (nI k &&& 31))) i = (bt x i || decide (i = k)) := by
  rw [b_or, vh_sh hk hi]
def vh_set (x : Int32) (k : Nat) (b : Bool) : Int32 := match b with
  | true => x ||| ((1 : Int32) <<< (nI k &&& 31))
  | false => x &&& (((1 : Int32) <<< (nI k &&& 31)) ^^^ (-1))
theorem vh_setb (x : Int32) {k i : Nat} (b : Bool) (hk : k < 32) (hi : i < 32) : bt (vh_set x k b) i = if i = k then b else bt x i := by
  cases b
  · show bt (x &&& (((1 : Int32) <<< (nI k &&& 31)) ^^^ (-1))) i = _
    rw [b_and, b_xor, vh_sh hk hi, b_m1 i hi]
    by_cases e : i = k
    · rw [if_pos e, decide_eq_true e]; simp
    · rw [if_neg e, decide_eq_false e]; simp
  · show bt (x ||| ((1 : Int32) <<< (nI k &&& 31))) i = _
    rw [vh_or x hk hi]
    by_cases e : i = k
    · rw [if_pos e, decide_eq_true e]; simp
    · rw [if_neg e, decide_eq_false e]; simp
/-- the cells i to 7 of frame g of a hold b's -/
def vh_f (a : Nat → Int32) (g : Nat) (b : Nat → Int32) (i : Nat) : Nat → Int32 := fun j => if 8 * g + i ≤ j ∧ j < 8 * g + 8 then b (j - 8 * g) else a j
theorem vh_f8 {a b : Nat → Int32} {g : Nat} : vh_f a g b 8 = a := funext fun j => if_neg (by omega)
theorem vh_fs {a b : Nat → Int32} {g i : Nat} (hi : i < 8) : vh_f (upd a (8 * g + i) (b i)) g b (i + 1) = vh_f a g b i := by
  funext j
  unfold vh_f
  by_cases e : j = 8 * g + i
  · subst e
    rw [if_neg (by omega), if_pos (by omega), pk_us]
    exact congrArg b (by omega)
  · rw [pk_un e]
    by_cases h : 8 * g + i ≤ j ∧ j < 8 * g + 8
    · rw [if_pos h, if_pos (by omega)]
    · rw [if_neg h, if_neg (by omega)]
theorem vh_fi {a b : Nat → Int32} {g k : Nat} (hk : k < 8) : vh_f a g b 0 (8 * g + k) = b k := by
  unfold vh_f
  rw [if_pos (by omega)]
  exact congrArg b (by omega)
theorem vh_fo {a b : Nat → Int32} {g f k : Nat} (hk : k < 8) (h : f ≠ g) : vh_f a g b 0 (8 * f + k) = a (8 * f + k) := if_neg (by omega)
theorem vh_fn {a b : Nat → Int32} {g i : Nat} (ha : vh_n a) (hb : ∀ k, k < 8 → b k = 0 ∨ b k = 1) : vh_n (vh_f a g b i) := by
  intro j
  unfold vh_f
  by_cases h : 8 * g + i ≤ j ∧ j < 8 * g + 8
  · rw [if_pos h]; exact hb _ (by omega)
  · rw [if_neg h]; exact ha j
/-- the cells i to 4 of a take the mask m too -/
def vh_l (a : Nat → Int32) (m : Int32) (i : Nat) : Nat → Int32 := fun j => if i ≤ j ∧ j < 5 then a j ||| m else a j
theorem vh_l5 {a : Nat → Int32} {m : Int32} : vh_l a m 5 = a := funext fun j => if_neg (by omega)
theorem vh_ls {a : Nat → Int32} {m : Int32} {i : Nat} (hi : i < 5) : vh_l (upd a i (a i ||| m)) m (i + 1) = vh_l a m i := by
  funext j
  unfold vh_l
  by_cases e : j = i
  · subst e
    rw [if_neg (by omega), if_pos (by omega), pk_us]
  · rw [pk_un e]
    by_cases h : i ≤ j ∧ j < 5
    · rw [if_pos h, if_pos (by omega)]
    · rw [if_neg h, if_neg (by omega)]
/-- how many of the first n satisfy p -/
def vh_c (p : Nat → Bool) : Nat → Nat
  | 0 => 0
  | n + 1 => vh_c p n + (if p n = true then 1 else 0)
theorem vh_cle (p : Nat → Bool) : ∀ n, vh_c p n ≤ n
  | 0 => Nat.le_refl 0
  | n + 1 => by
    have := vh_cle p n
    show vh_c p n + (if p n = true then 1 else 0) ≤ n + 1
    split <;> omega
theorem vh_cb (p : Nat → Bool) (n : Nat) : nI (vh_c p n) + vh_b (p n) = nI (vh_c p (n + 1)) := by
  show _ = nI (vh_c p n + (if p n = true then 1 else 0))
  cases p n
  · show nI (vh_c p n) + nI 0 = _
    rw [nI_add]; rfl
  · show nI (vh_c p n) + nI 1 = _
    rw [nI_add]; rfl
theorem vh_c0 (p : Nat → Bool) : ∀ n, vh_c p n = 0 → ∀ k, k < n → p k = false
  | 0, _, k, hk => absurd hk (by omega)
  | n + 1, h, k, hk => by
    have h' : vh_c p n + (if p n = true then 1 else 0) = 0 := h
    by_cases e : p n = true
    · rw [if_pos e] at h'; omega
    · by_cases ek : k = n
      · subst ek; exact Bool.eq_false_iff.mpr e
      · exact vh_c0 p n (by omega) k (by omega)
theorem vh_cz (p : Nat → Bool) : ∀ n, (∀ k, k < n → p k = false) → vh_c p n = 0
  | 0, _ => rfl
  | n + 1, h => by
    show vh_c p n + (if p n = true then 1 else 0) = 0
    rw [vh_cz p n (fun k hk => h k (by omega)), h n (by omega)]; rfl
/-- a mask of eight bits is zero when all its bits are -/
theorem vh_m0 {x : Int32} (hx : ∀ i, 8 ≤ i → bt x i = false) : x = 0 ↔ ∀ k, k < 8 → bt x k = false := by
  constructor
  · intro h k _
    rw [h, b_0]
  · intro h
    apply b_ext
    intro i _
    rw [b_0]
    by_cases e : i < 8
    · exact h i e
    · exact hx i (by omega)
end
