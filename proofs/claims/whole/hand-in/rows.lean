section
theorem pk_us {f : Nat → Int32} {k : Nat} {x : Int32} : upd f k x k = x := if_pos rfl
theorem pk_un {f : Nat → Int32} {k j : Nat} {x : Int32} (h : j ≠ k) : upd f k x j = f j := if_neg h
theorem pk_sub {a b : Nat} (h : b ≤ a) : nI a - nI b = nI (a - b) := by
  obtain ⟨c, rfl⟩ : ∃ c, a = c + b := ⟨a - b, by omega⟩
  rw [← nI_add, Int32.add_sub_cancel, Nat.add_sub_cancel]
theorem pk_m1 (n : Nat) : nI (n + 1) + (-1) = nI n := by
  rw [← nI_1, Int32.add_assoc, show (1 : Int32) + (-1) = 0 from rfl, Int32.add_zero]
theorem pk_mul (a b : Nat) : nI a * nI b = nI (a * b) := (Int32.ofNat_mul a b).symm
theorem pk_ix (x : Int32) {n : Nat} (hn : n < 2 ^ 31) : x < 0 ∨ nI n ≤ x ∨ ∃ j : Nat, j < n ∧ x = nI j := by
  by_cases h : x < 0
  · exact Or.inl h
  · obtain ⟨j, hj, rfl⟩ := nI_of h
    by_cases h2 : j < n
    · exact Or.inr (Or.inr ⟨j, h2, rfl⟩)
    · exact Or.inr (Or.inl (nI_le (by omega) hj))
theorem pk_le {x y : Int32} {A B : Prop} (a b : Nat) (f : a ≤ b → A) (g : b < a → B) (hx : x = nI a := by rfl) (hy : y = nI b := by rfl) (ha : a < 2 ^ 31 := by omega) (hb : b < 2 ^ 31 := by omega) : (x ≤ y → A) ∧ (¬ x ≤ y → B) := by
  subst hx hy
  rw [nI_leI ha hb]
  exact ⟨f, fun z => g (by omega)⟩
theorem pk_lt {x y : Int32} {A B : Prop} (a b : Nat) (f : a < b → A) (g : b ≤ a → B) (hx : x = nI a := by rfl) (hy : y = nI b := by rfl) (ha : a < 2 ^ 31 := by omega) (hb : b < 2 ^ 31 := by omega) : (x < y → A) ∧ (¬ x < y → B) := by
  subst hx hy
  rw [nI_ltI ha hb]
  exact ⟨f, fun z => g (by omega)⟩
theorem pk_eq {x y : Int32} {A B : Prop} (a b : Nat) (f : a = b → A) (g : a ≠ b → B) (hx : x = nI a := by rfl) (hy : y = nI b := by rfl) (ha : a < 2 ^ 31 := by omega) (hb : b < 2 ^ 31 := by omega) : (x = y → A) ∧ (¬ x = y → B) := by
  subst hx hy
  rw [nI_eq ha hb]
  exact ⟨f, g⟩
theorem pk_in {x : Int32} (n N : Nat) (h : n < N) (hx : x = nI n := by rfl) (hN : N < 2 ^ 31 := by omega) : vp_in x N := by
  subst hx
  exact vp_in_nI h hN
theorem pk_cl {x : Int32} (n : Nat) (hx : x = nI n := by rfl) (h : n < 2 ^ 31 := by omega) : x.toNatClampNeg = n := by
  subst hx
  exact nI_clamp h
def bt (x : Int32) (i : Nat) : Bool := x.toBitVec.getLsbD i
theorem b_ext {x y : Int32} (h : ∀ i, i < 32 → bt x i = bt y i) : x = y := Int32.toBitVec_inj.mp (BitVec.eq_of_getLsbD_eq (fun i hi => h i hi))
theorem b_or (x y : Int32) (i : Nat) : bt (x ||| y) i = (bt x i || bt y i) := by unfold bt; rw [Int32.toBitVec_or, BitVec.getLsbD_or]
theorem b_and (x y : Int32) (i : Nat) : bt (x &&& y) i = (bt x i && bt y i) := by unfold bt; rw [Int32.toBitVec_and, BitVec.getLsbD_and]
theorem b_xor (x y : Int32) (i : Nat) : bt (x ^^^ y) i = (bt x i ^^ bt y i) := by unfold bt; rw [Int32.toBitVec_xor, BitVec.getLsbD_xor]
theorem b_big {x : Int32} {i : Nat} (h : 32 ≤ i) : bt x i = false := BitVec.getLsbD_of_ge _ _ h
theorem b_m1 : ∀ i, i < 32 → bt (-1) i = true := by decide +kernel
theorem b_0 (i : Nat) : bt 0 i = false := BitVec.getLsbD_zero
theorem s_l : ∀ n, n < 32 → ((nI n &&& 31).toBitVec.smod 32).toNat = n := by decide +kernel
theorem b_shl (n : Nat) (hn : n < 32) (x : Int32) {i : Nat} (hi : i < 32) : bt (x <<< (nI n &&& 31)) i = (decide (n ≤ i) && bt x (i - n)) := by
  unfold bt
  rw [Int32.toBitVec_shiftLeft]
  show (x.toBitVec <<< ((nI n &&& 31).toBitVec.smod 32).toNat).getLsbD i = _
  rw [s_l n hn, BitVec.getLsbD_shiftLeft]
  rcases Nat.lt_or_ge i n with h | h
  · simp [h, Nat.not_le.mpr h]
  · simp [hi, h, Nat.not_lt.mpr h]
theorem b_sshr (n : Nat) (hn : n < 32) (x : Int32) {i : Nat} (hi : i < 32) : bt (x >>> (nI n &&& 31)) i = if n + i < 32 then bt x (n + i) else bt x 31 := by
  unfold bt
  rw [Int32.toBitVec_shiftRight]
  show (x.toBitVec.sshiftRight ((nI n &&& 31).toBitVec.smod 32).toNat).getLsbD i = _
  rw [s_l n hn, BitVec.getLsbD_sshiftRight, BitVec.msb_eq_getLsbD_last]
  simp [hi]
end
section
/-! numbers, bits, frames of eight cells, counts -/
theorem vh_8 (g i : Nat) : nI g * 8 + nI i = nI (8 * g + i) := by
  show nI g * nI 8 + nI i = _
  rw [pk_mul, nI_add]
  exact congrArg nI (by omega)
theorem vh_c8 {g i : Nat} (h : 8 * g + i < 2 ^ 31) : (nI g * 8 + nI i).toNatClampNeg = 8 * g + i := by
  rw [vh_8, nI_clamp h]
theorem vh_40 (t i : Nat) : nI t * 40 + nI i = nI (8 * (5 * t) + i) := by
  show nI t * nI 40 + nI i = _
  rw [pk_mul, nI_add]
  exact congrArg nI (by omega)
theorem vh_c40 {t i : Nat} (h : 8 * (5 * t) + i < 2 ^ 31) : (nI t * 40 + nI i).toNatClampNeg = 8 * (5 * t) + i := by
  rw [vh_40, nI_clamp h]
theorem vh_58 (t j i : Nat) : (nI t * 5 + nI j) * 8 + nI i = nI (8 * (5 * t + j) + i) := by
  show (nI t * nI 5 + nI j) * nI 8 + nI i = _
  rw [pk_mul, nI_add, pk_mul, nI_add]
  exact congrArg nI (by omega)
theorem vh_c58 {t j i : Nat} (h : 8 * (5 * t + j) + i < 2 ^ 31) : ((nI t * 5 + nI j) * 8 + nI i).toNatClampNeg = 8 * (5 * t + j) + i := by
  rw [vh_58, nI_clamp h]
theorem vh_5 (t j : Nat) : nI t * 5 + nI j = nI (5 * t + j) := by
  show nI t * nI 5 + nI j = _
  rw [pk_mul, nI_add]
  exact congrArg nI (by omega)
theorem vh_50 (t : Nat) : nI t * 5 = nI (5 * t) := by
  show nI t * nI 5 = _
  rw [pk_mul]
  exact congrArg nI (by omega)
theorem vh_200 (i : Nat) : 200 + nI i = nI (200 + i) := by
  show nI 200 + nI i = _
  rw [nI_add]
theorem vh_nb {x : Int32} (h : x = 0 ∨ x = 1) : vp_nar .boolean x = x := by
  rcases h with rfl | rfl <;> rfl
theorem vh_n0 : vp_nar .boolean 0 = 0 := rfl
theorem vh_n1 : vp_nar .boolean 1 = 1 := rfl
def vh_n (a : Nat → Int32) : Prop := ∀ j, a j = 0 ∨ a j = 1
theorem vh_nu {a : Nat → Int32} {k : Nat} {x : Int32} (h : vh_n a) (hx : x = 0 ∨ x = 1) : vh_n (upd a k x) := by
  intro j
  by_cases e : j = k
  · subst e; rw [pk_us]; exact hx
  · rw [pk_un e]; exact h j
/-- a Bool as the int that stands for it -/
def vh_b : Bool → Int32
  | true => 1
  | false => 0
theorem vh_b01 (b : Bool) : vh_b b = 0 ∨ vh_b b = 1 := by cases b; exact Or.inl rfl; exact Or.inr rfl
theorem vh_bn {b : Bool} (h : vh_b b = 0) : b = false := by
  cases b
  · rfl
  · exact absurd h (by decide)
theorem vh_bt {b : Bool} (h : ¬ vh_b b = 0) : b = true := by
  cases b
  · exact absurd rfl h
  · rfl
theorem vh_1 : ∀ i, i < 32 → bt 1 i = decide (i = 0) := by decide +kernel
theorem vh_bb (b : Bool) {i : Nat} (hi : i < 32) : bt (vh_b b) i = (b && decide (i = 0)) := by
  cases b
  · show bt 0 i = _
    rw [b_0]; rfl
  · show bt 1 i = _
    rw [vh_1 i hi]; rfl
theorem vh_hk (x : Int32) {k : Nat} (hk : k < 8) : (x >>> (nI k &&& 31)) &&& 1 = vh_b (bt x k) := by
  apply b_ext
  intro i hi
  rw [b_and, b_sshr k (by omega) x hi, vh_bb _ hi, vh_1 i hi]
  by_cases e : i = 0
  · subst e
    rw [if_pos (by omega)]
    rfl
  · rw [decide_eq_false e, Bool.and_false, Bool.and_false]
theorem vh_sh {k i : Nat} (hk : k < 32) (hi : i < 32) : bt ((1 : Int32) <<< (nI k &&& 31)) i = decide (i = k) := by
  rw [b_shl k hk 1 hi, vh_1 (i - k) (by omega), ← Bool.decide_and]
  exact decide_eq_decide.mpr (by omega)
theorem vh_or (x : Int32) {k i : Nat} (hk : k < 32) (hi : i < 32) : bt (x ||| ((1 : Int32) <<< (nI k &&& 31))) i = (bt x i || decide (i = k)) := by
  rw [b_or, vh_sh hk hi]
def vh_set (x : Int32) (k : Nat) (b : Bool) : Int32 := match b with
  | true => x ||| ((1 : Int32) <<< (nI k &&& 31))
  | false => x &&& (((1 : Int32) <<< (nI k &&& 31)) ^^^ (-1))
theorem vh_setb (x : Int32) {k i : Nat} (b : Bool) (hk : k < 32) (hi : i < 32) : bt (vh_set x k b) i = if i = k then b else bt x i := by
  cases b
  · show bt (x &&& (((1 : Int32) <<< (nI k &&& 31)) ^^^ (-1))) i = _
    rw [b_and, b_xor, vh_sh hk hi, b_m1 i hi]
    by_cases e : i = k
    · rw [if_pos e, decide_eq_true e]; simp
    · rw [if_neg e, decide_eq_false e]; simp
  · show bt (x ||| ((1 : Int32) <<< (nI k &&& 31))) i = _
    rw [vh_or x hk hi]
    by_cases e : i = k
    · rw [if_pos e, decide_eq_true e]; simp
    · rw [if_neg e, decide_eq_false e]; simp
/-- the cells i to 7 of frame g of a hold b's -/
def vh_f (a : Nat → Int32) (g : Nat) (b : Nat → Int32) (i : Nat) : Nat → Int32 := fun j => if 8 * g + i ≤ j ∧ j < 8 * g + 8 then b (j - 8 * g) else a j
theorem vh_f8 {a b : Nat → Int32} {g : Nat} : vh_f a g b 8 = a := funext fun j => if_neg (by omega)
theorem vh_fs {a b : Nat → Int32} {g i : Nat} (hi : i < 8) : vh_f (upd a (8 * g + i) (b i)) g b (i + 1) = vh_f a g b i := by
  funext j
  unfold vh_f
  by_cases e : j = 8 * g + i
  · subst e
    rw [if_neg (by omega), if_pos (by omega), pk_us]
    exact congrArg b (by omega)
  · rw [pk_un e]
    by_cases h : 8 * g + i ≤ j ∧ j < 8 * g + 8
    · rw [if_pos h, if_pos (by omega)]
    · rw [if_neg h, if_neg (by omega)]
theorem vh_fi {a b : Nat → Int32} {g k : Nat} (hk : k < 8) : vh_f a g b 0 (8 * g + k) = b k := by
  unfold vh_f
  rw [if_pos (by omega)]
  exact congrArg b (by omega)
theorem vh_fo {a b : Nat → Int32} {g f k : Nat} (hk : k < 8) (h : f ≠ g) : vh_f a g b 0 (8 * f + k) = a (8 * f + k) := if_neg (by omega)
theorem vh_fn {a b : Nat → Int32} {g i : Nat} (ha : vh_n a) (hb : ∀ k, k < 8 → b k = 0 ∨ b k = 1) : vh_n (vh_f a g b i) := by
  intro j
  unfold vh_f
  by_cases h : 8 * g + i ≤ j ∧ j < 8 * g + 8
  · rw [if_pos h]; exact hb _ (by omega)
  · rw [if_neg h]; exact ha j
/-- the cells i to 4 of a take the mask m too -/
def vh_l (a : Nat → Int32) (m : Int32) (i : Nat) : Nat → Int32 := fun j => if i ≤ j ∧ j < 5 then a j ||| m else a j
theorem vh_l5 {a : Nat → Int32} {m : Int32} : vh_l a m 5 = a := funext fun j => if_neg (by omega)
theorem vh_ls {a : Nat → Int32} {m : Int32} {i : Nat} (hi : i < 5) : vh_l (upd a i (a i ||| m)) m (i + 1) = vh_l a m i := by
  funext j
  unfold vh_l
  by_cases e : j = i
  · subst e
    rw [if_neg (by omega), if_pos (by omega), pk_us]
  · rw [pk_un e]
    by_cases h : i ≤ j ∧ j < 5
    · rw [if_pos h, if_pos (by omega)]
    · rw [if_neg h, if_neg (by omega)]
/-- how many of the first n satisfy p -/
def vh_c (p : Nat → Bool) : Nat → Nat
  | 0 => 0
  | n + 1 => vh_c p n + (if p n = true then 1 else 0)
theorem vh_cle (p : Nat → Bool) : ∀ n, vh_c p n ≤ n
  | 0 => Nat.le_refl 0
  | n + 1 => by
    have := vh_cle p n
    show vh_c p n + (if p n = true then 1 else 0) ≤ n + 1
    split <;> omega
theorem vh_cb (p : Nat → Bool) (n : Nat) : nI (vh_c p n) + vh_b (p n) = nI (vh_c p (n + 1)) := by
  show _ = nI (vh_c p n + (if p n = true then 1 else 0))
  cases p n
  · show nI (vh_c p n) + nI 0 = _
    rw [nI_add]; rfl
  · show nI (vh_c p n) + nI 1 = _
    rw [nI_add]; rfl
theorem vh_c0 (p : Nat → Bool) : ∀ n, vh_c p n = 0 → ∀ k, k < n → p k = false
  | 0, _, k, hk => absurd hk (by omega)
  | n + 1, h, k, hk => by
    have h' : vh_c p n + (if p n = true then 1 else 0) = 0 := h
    by_cases e : p n = true
    · rw [if_pos e] at h'; omega
    · by_cases ek : k = n
      · subst ek; exact Bool.eq_false_iff.mpr e
      · exact vh_c0 p n (by omega) k (by omega)
theorem vh_cz (p : Nat → Bool) : ∀ n, (∀ k, k < n → p k = false) → vh_c p n = 0
  | 0, _ => rfl
  | n + 1, h => by
    show vh_c p n + (if p n = true then 1 else 0) = 0
    rw [vh_cz p n (fun k hk => h k (by omega)), h n (by omega)]; rfl
/-- a mask of eight bits is zero when all its bits are -/
theorem vh_m0 {x : Int32} (hx : ∀ i, 8 ≤ i → bt x i = false) : x = 0 ↔ ∀ k, k < 8 → bt x k = false := by
  constructor
  · intro h k _
    rw [h, b_0]
  · intro h
    apply b_ext
    intro i _
    rw [b_0]
    by_cases e : i < 8
    · exact h i e
    · exact hx i (by omega)
end
section
/-! the component's walks, each against a general post -/
section
variable {pk hk va ac st sv rk lk : Nat → Int32}
theorem xa_nl5 {x : Int32} (h : nI 5 ≤ x) : ¬ x < 0 := Int32.not_lt.mpr (Int32.le_trans (by decide) h)
theorem xa_nl8 {x : Int32} (h : nI 8 ≤ x) : ¬ x < 0 := Int32.not_lt.mpr (Int32.le_trans (by decide) h)
theorem xa_bT {post : Int32 → Prop} {x : Int32} (hx : x < 0 ∨ nI 5 ≤ x) (h : post 1) : wpX_isBadTx post x := by
  rcases hx with hx | hx
  · exact br_t hx h
  · exact br_f (xa_nl5 hx) (br_f (Int32.not_lt.mpr hx) h)
theorem xa_oT {post : Int32 → Prop} {t : Nat} (ht : t < 5) (h : post 0) : wpX_isBadTx post (nI t) :=
  br_f (nI_pos (by omega)) (br_t (nI_lt (b := 5) ht (by decide)) h)
theorem xa_bK {post : Int32 → Prop} {x : Int32} (hx : x < 0 ∨ nI 8 ≤ x) (h : post 1) : wpX_isBadKey post x := by
  rcases hx with hx | hx
  · exact br_t hx h
  · exact br_f (xa_nl8 hx) (br_f (Int32.not_lt.mpr hx) h)
theorem xa_oK {post : Int32 → Prop} {k : Nat} (hk : k < 8) (h : post 0) : wpX_isBadKey post (nI k) :=
  br_f (nI_pos (by omega)) (br_t (nI_lt (b := 8) hk (by decide)) h)
theorem xa_rb {post : Int32 → Prop} {x : Int32} (hx : x < 0 ∨ nI 5 ≤ x) (h : post (-1)) : wpX_refusalOfTx post (pk, hk, va, ac, st, sv, rk, lk) x := by
  unfold wpX_refusalOfTx
  dsimp only
  exact xa_bT hx (br_f (by decide) h)
theorem xa_ri {post : Int32 → Prop} {t : Nat} (ht : t < 5) (ha : ac t = 0) (h : post (-3)) : wpX_refusalOfTx post (pk, hk, va, ac, st, sv, rk, lk) (nI t) := by
  unfold wpX_refusalOfTx
  dsimp only
  refine xa_oT ht (br_t rfl ⟨vp_in_nI ht (by decide), br_t ?_ h⟩)
  rw [nI_clamp (by omega)]
  exact ha
theorem xa_ro {post : Int32 → Prop} {t : Nat} (ht : t < 5) (ha : ¬ ac t = 0) (h : post 0) : wpX_refusalOfTx post (pk, hk, va, ac, st, sv, rk, lk) (nI t) := by
  unfold wpX_refusalOfTx
  dsimp only
  refine xa_oT ht (br_t rfl ⟨vp_in_nI ht (by decide), br_f ?_ h⟩)
  rw [nI_clamp (by omega)]
  exact ha
theorem xa_kb {post : Int32 → Prop} {x y : Int32} (hx : x < 0 ∨ nI 5 ≤ x) (h : post (-1)) : wpX_refusalOfKey post (pk, hk, va, ac, st, sv, rk, lk) x y := by
  unfold wpX_refusalOfKey
  dsimp only
  exact xa_rb hx (br_f (by decide) h)
theorem xa_ki {post : Int32 → Prop} {t : Nat} {y : Int32} (ht : t < 5) (ha : ac t = 0) (h : post (-3)) : wpX_refusalOfKey post (pk, hk, va, ac, st, sv, rk, lk) (nI t) y := by
  unfold wpX_refusalOfKey
  dsimp only
  exact xa_ri ht ha (br_f (by decide) h)
theorem xa_kk {post : Int32 → Prop} {t : Nat} {y : Int32} (ht : t < 5) (ha : ¬ ac t = 0) (hy : y < 0 ∨ nI 8 ≤ y) (h : post (-2)) : wpX_refusalOfKey post (pk, hk, va, ac, st, sv, rk, lk) (nI t) y := by
  unfold wpX_refusalOfKey
  dsimp only
  exact xa_ro ht ha (br_t rfl (xa_bK hy (br_f (by decide) h)))
theorem xa_ko {post : Int32 → Prop} {t k : Nat} (ht : t < 5) (ha : ¬ ac t = 0) (hk8 : k < 8) (h : post 0) : wpX_refusalOfKey post (pk, hk, va, ac, st, sv, rk, lk) (nI t) (nI k) := by
  unfold wpX_refusalOfKey
  dsimp only
  exact xa_ro ht ha (br_t rfl (xa_oK hk8 (br_t rfl h)))
theorem xa_vw {post : Int32 → Prop} {t : Nat} (h : post (nI (5 * t + 4))) : wpX_viewOf post (nI t) := by
  unfold wpX_viewOf
  have e : nI t * 5 + 4 = nI (5 * t + 4) := vh_5 t 4
  rw [e]
  exact h
theorem xa_has {post : Int32 → Prop} {k : Nat} (hk8 : k < 8) (x : Int32) (h : post (vh_b (bt x k))) : wpX_hasKey post x (nI k) := by
  have e := vh_hk x hk8
  unfold wpX_hasKey
  rw [e]
  cases hb : bt x k
  · rw [hb] at h; exact br_t rfl h
  · rw [hb] at h; exact br_f (by decide) h
theorem xa_cpL {post : SX → Prop} {f g : Nat} {b : Nat → Int32} (hf : f < 26) (hg : g < 26) : ∀ (d i : Nat) (va : Nat → Int32), i + d = 8 → (∀ k, i ≤ k → k < 8 → va (8 * f + k) = b k) → post (pk, hk, vh_f va g b i, ac, st, sv, rk, lk) → wX_copyFrame_26 post (nI f) (nI g) (d + 1) (nI i) pk hk va ac st sv rk lk := by
  intro d
  induction d with
  | zero =>
    intro i va hi hb h
    obtain rfl : i = 8 := by omega
    rw [vh_f8] at h
    exact br_t (by decide) h
  | succ d ih =>
    intro i va hi hb h
    refine br_f (nI_ge (b := 8) (by omega) (by decide)) ⟨pk_in (8 * f + i) 208 (by omega) (vh_8 f i), pk_in (8 * g + i) 208 (by omega) (vh_8 g i), nm_r (e' := upd va (8 * g + i) (b i)) ?_ (nm_r (nI_1 i) ?_)⟩
    · rw [vh_c8 (by omega), vh_c8 (by omega), hb i (by omega) (by omega)]
    · refine ih (i + 1) _ (by omega) (fun k h1 h2 => ?_) ?_
      · rw [pk_un (by omega)]; exact hb k (by omega) h2
      · rw [vh_fs (by omega)]; exact h
theorem xa_cp {post : SX → Prop} {f g : Nat} (hf : f < 26) (hg : g < 26) (h : post (upd pk g (pk f), upd hk g (hk f), vh_f va g (fun k => va (8 * f + k)) 0, ac, st, sv, rk, lk)) : wpX_copyFrame post (pk, hk, va, ac, st, sv, rk, lk) (nI f) (nI g) := by
  refine ⟨vp_in_nI hf (by decide), vp_in_nI hg (by decide), nm_r (e' := upd pk g (pk f)) ?_ ⟨vp_in_nI hf (by decide), vp_in_nI hg (by decide), nm_r (e' := upd hk g (hk f)) ?_ ⟨9, ?_⟩⟩⟩
  · rw [nI_clamp (by omega), nI_clamp (by omega)]
  · rw [nI_clamp (by omega), nI_clamp (by omega)]
  · exact xa_cpL hf hg 8 0 va rfl (fun k _ _ => rfl) h
theorem xa_set {post : SX → Prop} {f k : Nat} (hf : f < 26) (hk8 : k < 8) (b : Bool) (val : Int32) (h : post (upd pk f (vh_set (pk f) k b), hk, upd va (8 * f + k) val, ac, st, sv, rk, lk)) : wpX_setCell post (pk, hk, va, ac, st, sv, rk, lk) (nI f) (nI k) (vh_b b) val := by
  cases b
  · refine br_t rfl ⟨vp_in_nI hf (by decide), vp_in_nI hf (by decide), nm_r (e' := upd pk f (vh_set (pk f) k false)) ?_ ⟨pk_in (8 * f + k) 208 (by omega) (vh_8 f k), nm_r (e' := upd va (8 * f + k) val) ?_ h⟩⟩
    · rw [nI_clamp (by omega)]; rfl
    · rw [vh_c8 (by omega)]
  · refine br_f (by decide) ⟨vp_in_nI hf (by decide), vp_in_nI hf (by decide), nm_r (e' := upd pk f (vh_set (pk f) k true)) ?_ ⟨pk_in (8 * f + k) 208 (by omega) (vh_8 f k), nm_r (e' := upd va (8 * f + k) val) ?_ h⟩⟩
    · rw [nI_clamp (by omega)]; rfl
    · rw [vh_c8 (by omega)]
/-- an active transaction other than t holds key k -/
def vh_E (ac hk : Nat → Int32) (t k : Nat) : Prop := ∃ o, o < 5 ∧ o ≠ t ∧ ¬ ac o = 0 ∧ bt (hk (5 * o + 4)) k = true
theorem xa_hoL {post : Int32 → Prop} {t k : Nat} (ht : t < 5) (hk8 : k < 8) (h1 : vh_E ac hk t k → post 1) (h0 : ¬ vh_E ac hk t k → post 0) : ∀ (d i : Nat), i + d = 5 → (∀ o, o < i → ¬ (o ≠ t ∧ ¬ ac o = 0 ∧ bt (hk (5 * o + 4)) k = true)) → wX_isHeldByAnother_2 post (nI t) (nI k) pk hk va ac st sv rk lk (d + 1) (nI i) := by
  intro d
  induction d with
  | zero =>
    intro i hi hn
    obtain rfl : i = 5 := by omega
    exact br_t (by decide) (h0 (fun ⟨o, ho, r⟩ => hn o ho r))
  | succ d ih =>
    intro i hi hn
    have next : ¬ (i ≠ t ∧ ¬ ac i = 0 ∧ bt (hk (5 * i + 4)) k = true) → wX_isHeldByAnother_2 post (nI t) (nI k) pk hk va ac st sv rk lk (d + 1) (nI (i + 1)) := fun z => ih (i + 1) (by omega) (fun o ho => by
      by_cases e : o = i
      · subst e; exact z
      · exact hn o (by omega))
    refine br_f (nI_ge (b := 5) (by omega) (by decide)) (xa_vw (pk_eq i t (fun e => nm_r (nI_1 i) (next (fun z => z.1 e))) (fun e => ⟨vp_in_nI (by omega) (by decide), br_c (fun z => nm_r (nI_1 i) (next (fun y => y.2.1 ?_))) (fun z => ⟨vp_in_nI (by omega) (by decide), xa_has hk8 _ ?_⟩)⟩)))
    · rw [nI_clamp (by omega)] at z; exact z
    · rw [nI_clamp (by omega)] at z
      rw [nI_clamp (by omega)]
      cases hb : bt (hk (5 * i + 4)) k
      · exact br_t rfl (nm_r (nI_1 i) (next (fun y => absurd (hb.symm.trans y.2.2) (by decide))))
      · exact br_f (by decide) (h1 ⟨i, by omega, e, z, hb⟩)
theorem xa_chg {post : Int32 → Prop} {t k : Nat} (ht : t < 5) (hk8 : k < 8) (h5 : vh_E ac hk t k → post (-5)) (h6 : ¬ vh_E ac hk t k → bt (lk t) k = true → post (-6)) (h0 : ¬ vh_E ac hk t k → bt (lk t) k = false → post 0) : wpX_refusalOfChange post (pk, hk, va, ac, st, sv, rk, lk) (nI t) (nI k) := by
  unfold wpX_refusalOfChange wpX_isHeldByAnother
  dsimp only
  refine ⟨6, xa_hoL ht hk8 (fun e => br_f (by decide) (h5 e)) (fun e => br_t rfl ⟨vp_in_nI ht (by decide), xa_has hk8 _ ?_⟩) 5 0 rfl (fun o ho => absurd ho (by omega))⟩
  rw [nI_clamp (by omega)]
  cases hb : bt (lk t) k
  · exact br_t rfl (h0 e hb)
  · exact br_f (by decide) (h6 e hb)
theorem xa_cnL {post : Int32 → Prop} {x : Int32} (h : post (nI (vh_c (bt x) 8))) : ∀ (d i : Nat), i + d = 8 → wX_countKeys_4 post x (d + 1) (nI (vh_c (bt x) i)) (nI i) := by
  intro d
  induction d with
  | zero =>
    intro i hi
    obtain rfl : i = 8 := by omega
    exact br_t (by decide) h
  | succ d ih =>
    intro i hi
    refine br_f (nI_ge (b := 8) (by omega) (by decide)) (nm_r (e' := nI (vh_c (bt x) (i + 1))) ?_ (nm_r (nI_1 i) (ih (i + 1) (by omega))))
    rw [vh_hk x (by omega), vh_cb]
theorem xa_cn {post : Int32 → Prop} {x : Int32} (h : post (nI (vh_c (bt x) 8))) : wpX_countKeys post x := ⟨9, xa_cnL h 8 0 rfl⟩
theorem xa_plL {post : SX → Prop} {m : Int32} : ∀ (d i : Nat) (lk : Nat → Int32), i + d = 5 → post (pk, hk, va, ac, st, sv, rk, vh_l lk m i) → wX_publish_63 post m (d + 1) (nI i) pk hk va ac st sv rk lk := by
  intro d
  induction d with
  | zero =>
    intro i lk hi h
    obtain rfl : i = 5 := by omega
    rw [vh_l5] at h
    exact br_t (by decide) h
  | succ d ih =>
    intro i lk hi h
    refine br_f (nI_ge (b := 5) (by omega) (by decide)) ⟨vp_in_nI (by omega) (by decide), vp_in_nI (by omega) (by decide), nm_r (e' := upd lk i (lk i ||| m)) ?_ (nm_r (nI_1 i) (ih (i + 1) _ (by omega) ?_))⟩
    · rw [nI_clamp (by omega)]
    · rw [vh_ls (by omega)]; exact h
theorem xa_pbL {post : SX → Prop} {f : Nat} {m : Int32} (hf : f < 25) : ∀ (d i : Nat) (pk va : Nat → Int32), i + d = 8 → (∀ pk' va' : Nat → Int32, (∀ g, g ≠ 25 → pk' g = pk g) → (∀ k, k < 8 → bt (pk' 25) k = if i ≤ k ∧ bt m k = true then bt (pk f) k else bt (pk 25) k) → (∀ j, j < 200 → va' j = va j) → (∀ k, k < 8 → va' (200 + k) = if i ≤ k ∧ bt m k = true then va (8 * f + k) else va (200 + k)) → post (pk', hk, va', ac, st, sv, rk, vh_l lk m 0)) → wX_publish_9 post (nI f) m (d + 1) (nI i) pk hk va ac st sv rk lk := by
  intro d
  induction d with
  | zero =>
    intro i pk va hi K
    obtain rfl : i = 8 := by omega
    refine br_t (by decide) ⟨6, xa_plL 5 0 lk rfl (K pk va (fun _ _ => rfl) (fun k h8 => ?_) (fun _ _ => rfl) (fun k h8 => ?_))⟩
    · rw [if_neg (by omega)]
    · rw [if_neg (by omega)]
  | succ d ih =>
    intro i pk va hi K
    refine br_f (nI_ge (b := 8) (by omega) (by decide)) (xa_has (by omega) m ?_)
    cases hb : bt m i
    · refine br_t rfl (nm_r (nI_1 i) (ih (i + 1) pk va (by omega) (fun pk' va' a b c e => K pk' va' a (fun k h8 => ?_) c (fun k h8 => ?_))))
      · rw [b k h8]
        by_cases q : k = i
        · subst q; rw [if_neg (by omega), if_neg (by rw [hb]; simp)]
        · by_cases q2 : i ≤ k ∧ bt m k = true
          · rw [if_pos q2, if_pos ⟨by omega, q2.2⟩]
          · rw [if_neg q2, if_neg (fun z => q2 ⟨by omega, z.2⟩)]
      · rw [e k h8]
        by_cases q : k = i
        · subst q; rw [if_neg (by omega), if_neg (by rw [hb]; simp)]
        · by_cases q2 : i ≤ k ∧ bt m k = true
          · rw [if_pos q2, if_pos ⟨by omega, q2.2⟩]
          · rw [if_neg q2, if_neg (fun z => q2 ⟨by omega, z.2⟩)]
    · refine br_f (by decide) ⟨vp_in_nI (by omega) (by decide), xa_has (by omega) _ ⟨pk_in (8 * f + i) 208 (by omega) (vh_8 f i), ?_⟩⟩
      rw [nI_clamp (by omega), vh_c8 (by omega)]
      refine xa_set (f := 25) (by omega) (by omega) (bt (pk f) i) (va (8 * f + i)) (nm_r (nI_1 i) (ih (i + 1) _ _ (by omega) (fun pk' va' a b c e => K pk' va' (fun g hg => ?_) (fun k h8 => ?_) (fun j hj => ?_) (fun k h8 => ?_))))
      · rw [a g hg, pk_un hg]
      · rw [b k h8, pk_us, pk_un (show f ≠ 25 by omega), vh_setb _ _ (by omega) (by omega)]
        by_cases q : k = i
        · subst q; rw [if_neg (by omega), if_pos rfl, if_pos ⟨by omega, hb⟩]
        · rw [if_neg q]
          by_cases q2 : i ≤ k ∧ bt m k = true
          · rw [if_pos q2, if_pos ⟨by omega, q2.2⟩]
          · rw [if_neg q2, if_neg (fun z => q2 ⟨by omega, z.2⟩)]
      · rw [c j hj, pk_un (by omega)]
      · rw [e k h8]
        by_cases q : k = i
        · subst q; rw [if_neg (by omega), if_pos ⟨by omega, hb⟩, pk_us]
        · rw [pk_un (show 8 * f + k ≠ 8 * 25 + i by omega), pk_un (show 200 + k ≠ 8 * 25 + i by omega)]
          by_cases q2 : i ≤ k ∧ bt m k = true
          · rw [if_pos q2, if_pos ⟨by omega, q2.2⟩]
          · rw [if_neg q2, if_neg (fun z => q2 ⟨by omega, z.2⟩)]
/-- what publish leaves: frame f's held keys m laid over the committed table -/
def vh_P (pk va pk' va' : Nat → Int32) (f : Nat) (m : Int32) : Prop := (∀ g, g ≠ 25 → pk' g = pk g) ∧ (∀ k, k < 8 → bt (pk' 25) k = if bt m k = true then bt (pk f) k else bt (pk 25) k) ∧ (∀ j, j < 200 → va' j = va j) ∧ (∀ k, k < 8 → va' (200 + k) = if bt m k = true then va (8 * f + k) else va (200 + k))
theorem xa_pb {post : SX → Prop} {f : Nat} (hf : f < 25) (K : ∀ pk' va' : Nat → Int32, vh_P pk va pk' va' f (hk f) → post (pk', hk, va', ac, st, sv, rk, vh_l lk (hk f) 0)) : wpX_publish post (pk, hk, va, ac, st, sv, rk, lk) (nI f) := by
  refine ⟨vp_in_nI (by omega) (by decide), nm_r (e' := hk f) ?_ ⟨9, xa_pbL hf 8 0 pk va rfl (fun pk' va' a b c e => K pk' va' ⟨a, fun k h8 => ?_, c, fun k h8 => ?_⟩)⟩⟩
  · rw [nI_clamp (by omega)]
  · rw [b k h8]
    simp only [Nat.zero_le, true_and]
  · rw [e k h8]
    simp only [Nat.zero_le, true_and]
theorem xa_c73 {post : Int32 → SX → Prop} {f : Nat} (hf : f < 25) (K : ∀ pk' va' : Nat → Int32, vh_P pk va pk' va' f (hk f) → post (nI (vh_c (bt (hk f)) 8)) (pk', hk, va', ac, st, sv, rk, vh_l lk (hk f) 0)) : wX_commit_73 post (nI f) pk hk va ac st sv rk lk := by
  unfold wX_commit_73
  refine xa_pb hf (fun pk' va' h => ⟨vp_in_nI (by omega) (by decide), xa_cn ?_⟩)
  rw [nI_clamp (by omega)]
  exact K pk' va' h
theorem xa_c45 {post : Int32 → SX → Prop} {t : Nat} {z : Bool} (ht : t < 5) (hU : ¬ st t = 0 → ¬ hk (5 * t + 4) = 0 → z = true → post (-9) (pk, hk, va, ac, st, sv, rk, lk)) (K : ¬ (¬ st t = 0 ∧ ¬ hk (5 * t + 4) = 0 ∧ z = true) → ∀ pk' va' : Nat → Int32, vh_P pk va pk' va' (5 * t + 4) (hk (5 * t + 4)) → post (nI (vh_c (bt (hk (5 * t + 4))) 8)) (pk', hk, va', ac, st, sv, rk, vh_l lk (hk (5 * t + 4)) 0)) : wX_commit_45 post (nI t) (nI (5 * t + 4)) (vh_b z) pk hk va ac st sv rk lk := by
  refine ⟨vp_in_nI ht (by decide), br_c (fun a => xa_c73 (by omega) (K ?_)) (fun a => ⟨vp_in_nI (by omega) (by decide), br_c (fun b => xa_c73 (by omega) (K ?_)) (fun b => ?_)⟩)⟩
  · rw [nI_clamp (by omega)] at a; exact fun y => y.1 a
  · rw [nI_clamp (by omega)] at b; exact fun y => y.2.1 b
  · rw [nI_clamp (by omega)] at a b
    cases z
    · exact br_t rfl (xa_c73 (by omega) (K (fun y => absurd y.2.2 (by decide))))
    · exact br_f (by decide) (hU a b rfl)
theorem xa_cm {post : Int32 → SX → Prop} {t : Nat} (ht : t < 5) (ha : ¬ ac t = 0) (hU : ¬ st t = 0 → ¬ hk (5 * t + 4) = 0 → ¬ (rk t &&& lk t) = 0 → post (-9) (pk, hk, va, upd ac t 0, st, sv, rk, lk)) (K : ¬ (¬ st t = 0 ∧ ¬ hk (5 * t + 4) = 0 ∧ ¬ (rk t &&& lk t) = 0) → ∀ pk' va' : Nat → Int32, vh_P pk va pk' va' (5 * t + 4) (hk (5 * t + 4)) → post (nI (vh_c (bt (hk (5 * t + 4))) 8)) (pk', hk, va', upd ac t 0, st, sv, rk, vh_l lk (hk (5 * t + 4)) 0)) : wpX_commit post (pk, hk, va, ac, st, sv, rk, lk) (nI t) := by
  unfold wpX_commit
  dsimp only
  refine xa_ro ht ha (br_t rfl ⟨vp_in_nI ht (by decide), nm_r (e' := upd ac t 0) ?_ (xa_vw ⟨vp_in_nI ht (by decide), vp_in_nI ht (by decide), br_c (fun e => ?_) (fun e => ?_)⟩)⟩)
  · rw [nI_clamp (by omega)]; rfl
  · rw [nI_clamp (by omega)] at e
    exact xa_c45 (z := false) ht (fun _ _ q => absurd q (by decide)) (fun _ => K (fun y => y.2.2 e))
  · rw [nI_clamp (by omega)] at e
    exact xa_c45 (z := true) ht (fun a b _ => hU a b e) (fun q => K (fun y => q ⟨y.1, y.2.1, rfl⟩))
end
end
section
/-! the reference's walks, each against a general post -/
section
variable {cm : Int32} {th vy lc bg ac st hr sv ct cv ch : Nat → Int32}
theorem ya_rb {post : Int32 → Prop} {x y : Int32} (hx : x < 0 ∨ nI 5 ≤ x) (h : post (-1)) : wpY_refusal post (cm, th, vy, lc, bg, ac, st, hr, sv, ct, cv, ch) x y := by
  rcases hx with hx | hx
  · exact br_t hx h
  · exact br_f (xa_nl5 hx) (br_f (fun z => absurd (Int32.le_trans hx z) (by decide)) h)
theorem ya_ri {post : Int32 → Prop} {t : Nat} {y : Int32} (ht : t < 5) (ha : ac t = 0) (h : post (-3)) : wpY_refusal post (cm, th, vy, lc, bg, ac, st, hr, sv, ct, cv, ch) (nI t) y := by
  refine br_f (nI_pos (by omega)) (br_t (nI_le (b := 4) (by omega) (by decide)) ⟨vp_in_nI ht (by decide), br_t ?_ h⟩)
  rw [nI_clamp (by omega)]
  exact ha
theorem ya_rk {post : Int32 → Prop} {t : Nat} {y : Int32} (ht : t < 5) (ha : ¬ ac t = 0) (hy : y < 0 ∨ nI 8 ≤ y) (h : post (-2)) : wpY_refusal post (cm, th, vy, lc, bg, ac, st, hr, sv, ct, cv, ch) (nI t) y := by
  refine br_f (nI_pos (by omega)) (br_t (nI_le (b := 4) (by omega) (by decide)) ⟨vp_in_nI ht (by decide), br_f ?_ ?_⟩)
  · rw [nI_clamp (by omega)]
    exact ha
  · rcases hy with hy | hy
    · exact br_t hy h
    · exact br_f (xa_nl8 hy) (br_f (fun z => absurd (Int32.le_trans hy z) (by decide)) h)
theorem ya_ro {post : Int32 → Prop} {t k : Nat} (ht : t < 5) (ha : ¬ ac t = 0) (hk8 : k < 8) (h : post 0) : wpY_refusal post (cm, th, vy, lc, bg, ac, st, hr, sv, ct, cv, ch) (nI t) (nI k) := by
  refine br_f (nI_pos (by omega)) (br_t (nI_le (b := 4) (by omega) (by decide)) ⟨vp_in_nI ht (by decide), br_f ?_ (br_f (nI_pos (by omega)) (br_t (nI_le (b := 7) (by omega) (by decide)) h))⟩)
  rw [nI_clamp (by omega)]
  exact ha
theorem ya_cpL {post : SY → Prop} {t f g : Nat} {b1 b2 b3 : Nat → Int32} (ht : t < 5) (hf : f < 5) (hg : g < 5) : ∀ (d i : Nat) (ct cv ch : Nat → Int32), i + d = 8 → vh_n ct → vh_n ch → (∀ k, i ≤ k → k < 8 → ct (8 * (5 * t + f) + k) = b1 k ∧ cv (8 * (5 * t + f) + k) = b2 k ∧ ch (8 * (5 * t + f) + k) = b3 k) → post (cm, th, vy, lc, bg, ac, st, hr, sv, vh_f ct (5 * t + g) b1 i, vh_f cv (5 * t + g) b2 i, vh_f ch (5 * t + g) b3 i) → wY_copy_3 post (nI t) (nI f) (nI g) cm (d + 1) (nI i) th vy lc bg ac st hr sv ct cv ch := by
  intro d
  induction d with
  | zero =>
    intro i ct cv ch hi n1 n3 hb h
    obtain rfl : i = 8 := by omega
    rw [vh_f8, vh_f8, vh_f8] at h
    exact br_t (by decide) h
  | succ d ih =>
    intro i ct cv ch hi n1 n3 hb h
    have e1 := (hb i (by omega) (by omega)).1
    have e2 := (hb i (by omega) (by omega)).2.1
    have e3 := (hb i (by omega) (by omega)).2.2
    have i1 := pk_in (8 * (5 * t + f) + i) 200 (by omega) (vh_58 t f i)
    have i2 := pk_in (8 * (5 * t + g) + i) 200 (by omega) (vh_58 t g i)
    have m1 : b1 i = 0 ∨ b1 i = 1 := e1 ▸ n1 _
    have m3 : b3 i = 0 ∨ b3 i = 1 := e3 ▸ n3 _
    refine br_f (nI_ge (b := 8) (by omega) (by decide)) ⟨i1, i2, nm_r (e' := upd ct (8 * (5 * t + g) + i) (b1 i)) ?_ ⟨i1, i2, nm_r (e' := upd cv (8 * (5 * t + g) + i) (b2 i)) ?_ ⟨i1, i2, nm_r (e' := upd ch (8 * (5 * t + g) + i) (b3 i)) ?_ (nm_r (nI_1 i) ?_)⟩⟩⟩
    · rw [vh_c58 (by omega), vh_c58 (by omega), e1, vh_nb m1]
    · rw [vh_c58 (by omega), vh_c58 (by omega), e2]
    · rw [vh_c58 (by omega), vh_c58 (by omega), e3, vh_nb m3]
    · refine ih (i + 1) _ _ _ (by omega) (vh_nu n1 m1) (vh_nu n3 m3) (fun k h1 h2 => ?_) ?_
      · rw [pk_un (by omega), pk_un (by omega), pk_un (by omega)]; exact hb k (by omega) h2
      · rw [vh_fs (by omega), vh_fs (by omega), vh_fs (by omega)]; exact h
theorem ya_cp {post : SY → Prop} {t f g : Nat} {b1 b2 b3 : Nat → Int32} (ht : t < 5) (hf : f < 5) (hg : g < 5) (n1 : vh_n ct) (n3 : vh_n ch) (hb : ∀ k, k < 8 → ct (8 * (5 * t + f) + k) = b1 k ∧ cv (8 * (5 * t + f) + k) = b2 k ∧ ch (8 * (5 * t + f) + k) = b3 k) (h : post (cm, th, vy, lc, bg, ac, st, hr, sv, vh_f ct (5 * t + g) b1 0, vh_f cv (5 * t + g) b2 0, vh_f ch (5 * t + g) b3 0)) : wpY_copy post (cm, th, vy, lc, bg, ac, st, hr, sv, ct, cv, ch) (nI t) (nI f) (nI g) :=
  ⟨9, ya_cpL ht hf hg 8 0 ct cv ch rfl n1 n3 (fun k _ h8 => hb k h8) h⟩
theorem ya_bgL {post : Int32 → SY → Prop} {t : Nat} (ht : t < 5) (n0 : vh_n th) : ∀ (d i : Nat) (hr ct cv ch : Nat → Int32), i + d = 8 → vh_n ct → vh_n ch → wpY_copy (fun u => post 0 u) (cm, th, vy, lc, bg, ac, st, vh_f hr t (fun _ => 0) i, sv, vh_f ct (5 * t) th i, vh_f cv (5 * t) vy i, vh_f ch (5 * t) (fun _ => 0) i) (nI t) 0 4 → wY_begin_56 post (nI t) cm (d + 1) (nI i) th vy lc bg ac st hr sv ct cv ch := by
  intro d
  induction d with
  | zero =>
    intro i hr ct cv ch hi n1 n3 h
    obtain rfl : i = 8 := by omega
    rw [vh_f8, vh_f8, vh_f8, vh_f8] at h
    exact br_t (by decide) h
  | succ d ih =>
    intro i hr ct cv ch hi n1 n3 h
    have i0 := vp_in_nI (n := i) (N := 8) (by omega) (by decide)
    have i1 := pk_in (8 * (5 * t) + i) 200 (by omega) (vh_40 t i)
    have i2 := pk_in (8 * t + i) 40 (by omega) (vh_8 t i)
    refine br_f (nI_ge (b := 8) (by omega) (by decide)) ⟨i0, i1, nm_r (e' := upd ct (8 * (5 * t) + i) (th i)) ?_ ⟨i0, i1, nm_r (e' := upd cv (8 * (5 * t) + i) (vy i)) ?_ ⟨i1, nm_r (e' := upd ch (8 * (5 * t) + i) 0) ?_ ⟨i2, nm_r (e' := upd hr (8 * t + i) 0) ?_ (nm_r (nI_1 i) ?_)⟩⟩⟩⟩
    · rw [vh_c40 (by omega), nI_clamp (by omega), vh_nb (n0 i)]
    · rw [vh_c40 (by omega), nI_clamp (by omega)]
    · rw [vh_c40 (by omega)]; rfl
    · rw [vh_c8 (by omega)]; rfl
    · refine ih (i + 1) _ _ _ _ (by omega) (vh_nu n1 (n0 i)) (vh_nu n3 (Or.inl rfl)) ?_
      rw [vh_fs (b := th) (by omega), vh_fs (b := vy) (by omega)]
      rw [vh_fs (a := ch) (b := fun _ => 0) (by omega), vh_fs (a := hr) (b := fun _ => 0) (by omega)]
      exact h
theorem ya_bg {post : Int32 → SY → Prop} {t : Nat} {p : Int32} (ht : t < 5) (ha : ac t = 0) (n0 : vh_n th) (n1 : vh_n ct) (n3 : vh_n ch) (hp : p = 0 ∨ p = 1) (h : post 0 (cm, th, vy, lc, upd bg t cm, upd ac t 1, upd st t p, vh_f hr t (fun _ => 0) 0, upd sv t 0, vh_f (vh_f ct (5 * t) th 0) (5 * t + 4) th 0, vh_f (vh_f cv (5 * t) vy 0) (5 * t + 4) vy 0, vh_f (vh_f ch (5 * t) (fun _ => 0) 0) (5 * t + 4) (fun _ => 0) 0)) : wpY_begin post (cm, th, vy, lc, bg, ac, st, hr, sv, ct, cv, ch) (nI t) p := by
  refine br_f (nI_pos (by omega)) (br_t (nI_le (b := 4) (by omega) (by decide)) ⟨vp_in_nI ht (by decide), br_t ?_ ⟨vp_in_nI ht (by decide), nm_r (e' := upd ac t 1) ?_ ⟨vp_in_nI ht (by decide), nm_r (e' := upd st t p) ?_ ⟨vp_in_nI ht (by decide), nm_r (e' := upd bg t cm) ?_ ⟨vp_in_nI ht (by decide), nm_r (e' := upd sv t 0) ?_ ⟨9, ?_⟩⟩⟩⟩⟩⟩)
  · rw [nI_clamp (by omega)]; exact ha
  · rw [nI_clamp (by omega)]; rfl
  · rw [nI_clamp (by omega), vh_nb hp]
  · rw [nI_clamp (by omega)]
  · rw [nI_clamp (by omega)]
  · refine ya_bgL ht n0 8 0 hr ct cv ch rfl n1 n3 (ya_cp (f := 0) (g := 4) (b1 := th) (b2 := vy) (b3 := fun _ => 0) ht (by omega) (by omega) (vh_fn n1 (fun k _ => n0 k)) (vh_fn n3 (fun _ _ => Or.inl rfl)) (fun k h8 => ⟨vh_fi h8, vh_fi h8, vh_fi (b := fun _ => 0) h8⟩) h)
theorem ya_ho {post : Int32 → Prop} {t k : Nat} {p : Bool} (ht : t < 5) (hk8 : k < 8) (ha : ¬ ac t = 0) (hp : ch (8 * (5 * t) + k) = vh_b p) (h : post (vh_b p)) : wpY_holds post (cm, th, vy, lc, bg, ac, st, hr, sv, ct, cv, ch) (nI t) (nI k) := by
  refine ⟨vp_in_nI ht (by decide), br_f ?_ ⟨pk_in (8 * (5 * t) + k) 200 (by omega) (vh_40 t k), ?_⟩⟩
  · rw [nI_clamp (by omega)]; exact ha
  · rw [vh_c40 (by omega), hp]
    cases p
    · exact br_t rfl h
    · exact br_f (by decide) h
theorem ya_hn {post : Int32 → Prop} {t : Nat} {y : Int32} (ht : t < 5) (ha : ac t = 0) (h : post 0) : wpY_holds post (cm, th, vy, lc, bg, ac, st, hr, sv, ct, cv, ch) (nI t) y := by
  refine ⟨vp_in_nI ht (by decide), br_t ?_ h⟩
  rw [nI_clamp (by omega)]; exact ha
theorem ya_lt {post : Int32 → Prop} {t k L B : Nat} (ht : t < 5) (hk8 : k < 8) (hL : lc k = nI L) (hB : bg t = nI B) (bL : L < 2 ^ 31) (bB : B < 2 ^ 31) (h : post (vh_b (decide (B < L)))) : wpY_late post (cm, th, vy, lc, bg, ac, st, hr, sv, ct, cv, ch) (nI t) (nI k) := by
  refine ⟨vp_in_nI hk8 (by decide), vp_in_nI ht (by decide), ?_⟩
  rw [nI_clamp (by omega), nI_clamp (by omega), hL, hB]
  by_cases e : B < L
  · rw [decide_eq_true e] at h
    exact br_f (nI_ge e bL) h
  · rw [decide_eq_false e] at h
    exact br_t (nI_le (by omega) bB) h
theorem ya_baL {post : Int32 → Prop} {hk : Nat → Int32} {t k L B : Nat} (ht : t < 5) (hk8 : k < 8) (hC : ∀ o, o < 5 → ch (8 * (5 * o) + k) = vh_b (bt (hk (5 * o + 4)) k)) (hL : lc k = nI L) (hB : bg t = nI B) (bL : L < 2 ^ 31) (bB : B < 2 ^ 31) (h5 : vh_E ac hk t k → post (-5)) (h6 : ¬ vh_E ac hk t k → decide (B < L) = true → post (-6)) (h0 : ¬ vh_E ac hk t k → decide (B < L) = false → post 0) : ∀ (d i : Nat), i + d = 5 → (∀ o, o < i → ¬ (o ≠ t ∧ ¬ ac o = 0 ∧ bt (hk (5 * o + 4)) k = true)) → wY_barred_2 post (nI t) (nI k) cm th vy lc bg ac st hr sv ct cv ch (d + 1) (nI i) := by
  intro d
  induction d with
  | zero =>
    intro i hi hn
    obtain rfl : i = 5 := by omega
    have ne : ¬ vh_E ac hk t k := fun ⟨o, ho, r⟩ => hn o ho r
    refine br_t (by decide) (ya_lt ht hk8 hL hB bL bB ?_)
    cases e : decide (B < L)
    · exact br_t rfl (h0 ne e)
    · exact br_f (by decide) (h6 ne e)
  | succ d ih =>
    intro i hi hn
    have next : ¬ (i ≠ t ∧ ¬ ac i = 0 ∧ bt (hk (5 * i + 4)) k = true) → wY_barred_2 post (nI t) (nI k) cm th vy lc bg ac st hr sv ct cv ch (d + 1) (nI (i + 1)) := fun z => ih (i + 1) (by omega) (fun o ho => by
      by_cases e : o = i
      · subst e; exact z
      · exact hn o (by omega))
    refine br_f (nI_ge (b := 5) (by omega) (by decide)) (pk_eq i t (fun e => nm_r (nI_1 i) (next (fun z => z.1 e))) (fun e => ?_))
    by_cases z : ac i = 0
    · exact ya_hn (by omega) z (br_t rfl (nm_r (nI_1 i) (next (fun y => y.2.1 z))))
    · refine ya_ho (by omega) hk8 z (hC i (by omega)) ?_
      cases hb : bt (hk (5 * i + 4)) k
      · exact br_t rfl (nm_r (nI_1 i) (next (fun y => absurd (hb.symm.trans y.2.2) (by decide))))
      · exact br_f (by decide) (h5 ⟨i, by omega, e, z, hb⟩)
theorem ya_35 {post : Int32 → SY → Prop} {t k : Nat} {z val : Int32} {b : Bool} (ht : t < 5) (hk8 : k < 8) (h : post z (cm, th, vy, lc, bg, ac, st, hr, sv, upd ct (8 * (5 * t) + k) (vh_b b), upd cv (8 * (5 * t) + k) val, upd ch (8 * (5 * t) + k) 1)) : wY_change_35 post (nI t) (nI k) (vh_b b) val z cm th vy lc bg ac st hr sv ct cv ch := by
  have i1 := pk_in (8 * (5 * t) + k) 200 (by omega) (vh_40 t k)
  refine ⟨i1, nm_r (e' := upd ct (8 * (5 * t) + k) (vh_b b)) ?_ ⟨i1, nm_r (e' := upd cv (8 * (5 * t) + k) val) ?_ ⟨i1, nm_r (e' := upd ch (8 * (5 * t) + k) 1) ?_ h⟩⟩⟩
  · rw [vh_c40 (by omega), vh_nb (vh_b01 b)]
  · rw [vh_c40 (by omega)]
  · rw [vh_c40 (by omega)]; rfl
theorem ya_chg {post : Int32 → SY → Prop} {hk : Nat → Int32} {t k L B : Nat} {val : Int32} {b p : Bool} (ht : t < 5) (hk8 : k < 8) (hC : ∀ o, o < 5 → ch (8 * (5 * o) + k) = vh_b (bt (hk (5 * o + 4)) k)) (hp : ct (8 * (5 * t) + k) = vh_b p) (hL : lc k = nI L) (hB : bg t = nI B) (bL : L < 2 ^ 31) (bB : B < 2 ^ 31) (h5 : vh_E ac hk t k → post (-5) (cm, th, vy, lc, bg, ac, st, hr, sv, ct, cv, ch)) (h6 : ¬ vh_E ac hk t k → decide (B < L) = true → post (-6) (cm, th, vy, lc, bg, ac, st, hr, sv, ct, cv, ch)) (h0 : ¬ vh_E ac hk t k → decide (B < L) = false → post (vh_b p) (cm, th, vy, lc, bg, ac, st, hr, sv, upd ct (8 * (5 * t) + k) (vh_b b), upd cv (8 * (5 * t) + k) val, upd ch (8 * (5 * t) + k) 1)) : wpY_change post (cm, th, vy, lc, bg, ac, st, hr, sv, ct, cv, ch) (nI t) (nI k) (vh_b b) val := by
  unfold wpY_change wpY_barred
  dsimp only
  refine ⟨6, ya_baL ht hk8 hC hL hB bL bB (fun e => br_f (by decide) (h5 e)) (fun e f => br_f (by decide) (h6 e f)) (fun e f => br_t (by decide) ⟨pk_in (8 * (5 * t) + k) 200 (by omega) (vh_40 t k), ?_⟩) 5 0 rfl (fun o ho => absurd ho (by omega))⟩
  rw [vh_c40 (by omega), hp]
  have h := h0 e f
  cases p
  · exact br_t rfl (ya_35 ht hk8 h)
  · exact br_f (by decide) (ya_35 ht hk8 h)
theorem ya_hkL {post : Int32 → Prop} {t : Nat} {p : Nat → Bool} (ht : t < 5) (ha : ¬ ac t = 0) (hp : ∀ k, k < 8 → ch (8 * (5 * t) + k) = vh_b (p k)) (h : post (nI (vh_c p 8))) : ∀ (d i : Nat), i + d = 8 → wY_heldKeys_4 post (nI t) cm th vy lc bg ac st hr sv ct cv ch (d + 1) (nI (vh_c p i)) (nI i) := by
  intro d
  induction d with
  | zero =>
    intro i hi
    obtain rfl : i = 8 := by omega
    exact br_t (by decide) h
  | succ d ih =>
    intro i hi
    refine br_f (nI_ge (b := 8) (by omega) (by decide)) (ya_ho ht (by omega) ha (hp i (by omega)) ?_)
    have e := vh_cb p i
    have n := ih (i + 1) (by omega)
    cases hb : p i
    · rw [hb] at e
      have e' : nI (vh_c p i) = nI (vh_c p (i + 1)) := by rw [← e]; exact (Int32.add_zero _).symm
      rw [e']
      exact br_t rfl (nm_r (nI_1 i) n)
    · rw [hb] at e
      exact br_f (by decide) (nm_r e (nm_r (nI_1 i) n))
theorem ya_hk {post : Int32 → Prop} {t : Nat} {p : Nat → Bool} (ht : t < 5) (ha : ¬ ac t = 0) (hp : ∀ k, k < 8 → ch (8 * (5 * t) + k) = vh_b (p k)) (h : post (nI (vh_c p 8))) : wpY_heldKeys post (cm, th, vy, lc, bg, ac, st, hr, sv, ct, cv, ch) (nI t) := ⟨9, ya_hkL ht ha hp h 8 0 rfl⟩
theorem ya_szL {post : Int32 → Prop} {t : Nat} {p : Nat → Bool} (ht : t < 5) (hp : ∀ k, k < 8 → ct (8 * (5 * t) + k) = vh_b (p k)) (h : post (nI (vh_c p 8))) : ∀ (d i : Nat), i + d = 8 → wY_size_18 post (nI t) cm th vy lc bg ac st hr sv ct cv ch (d + 1) (nI (vh_c p i)) (nI i) := by
  intro d
  induction d with
  | zero =>
    intro i hi
    obtain rfl : i = 8 := by omega
    exact br_t (by decide) h
  | succ d ih =>
    intro i hi
    refine br_f (nI_ge (b := 8) (by omega) (by decide)) ⟨pk_in (8 * (5 * t) + i) 200 (by omega) (vh_40 t i), ?_⟩
    rw [vh_c40 (by omega), hp i (by omega)]
    have e := vh_cb p i
    have n := ih (i + 1) (by omega)
    cases hb : p i
    · rw [hb] at e
      have e' : nI (vh_c p i) = nI (vh_c p (i + 1)) := by rw [← e]; exact (Int32.add_zero _).symm
      rw [e']
      exact br_t rfl (nm_r (nI_1 i) n)
    · rw [hb] at e
      exact br_f (by decide) (nm_r e (nm_r (nI_1 i) n))
theorem ya_csL {post : Int32 → Prop} {p : Nat → Bool} (hp : ∀ k, k < 8 → th k = vh_b (p k)) (h : post (nI (vh_c p 8))) : ∀ (d i : Nat), i + d = 8 → wY_committedSize_4 post cm th vy lc bg ac st hr sv ct cv ch (d + 1) (nI (vh_c p i)) (nI i) := by
  intro d
  induction d with
  | zero =>
    intro i hi
    obtain rfl : i = 8 := by omega
    exact br_t (by decide) h
  | succ d ih =>
    intro i hi
    refine br_f (nI_ge (b := 8) (by omega) (by decide)) ⟨vp_in_nI (by omega) (by decide), ?_⟩
    rw [nI_clamp (by omega), hp i (by omega)]
    have e := vh_cb p i
    have n := ih (i + 1) (by omega)
    cases hb : p i
    · rw [hb] at e
      have e' : nI (vh_c p i) = nI (vh_c p (i + 1)) := by rw [← e]; exact (Int32.add_zero _).symm
      rw [e']
      exact br_t rfl (nm_r (nI_1 i) n)
    · rw [hb] at e
      exact br_f (by decide) (nm_r e (nm_r (nI_1 i) n))
theorem ya_rlL {post : Int32 → Prop} {t B : Nat} {L : Nat → Nat} {p : Nat → Bool} (ht : t < 5) (hp : ∀ k, k < 8 → hr (8 * t + k) = vh_b (p k)) (hL : ∀ k, k < 8 → lc k = nI (L k)) (hB : bg t = nI B) (bL : ∀ k, k < 8 → L k < 2 ^ 31) (bB : B < 2 ^ 31) (h1 : (∃ k, k < 8 ∧ p k = true ∧ decide (B < L k) = true) → post 1) (h0 : (∀ k, k < 8 → ¬ (p k = true ∧ decide (B < L k) = true)) → post 0) : ∀ (d i : Nat), i + d = 8 → (∀ k, k < i → ¬ (p k = true ∧ decide (B < L k) = true)) → wY_readLate_2 post (nI t) cm th vy lc bg ac st hr sv ct cv ch (d + 1) (nI i) := by
  intro d
  induction d with
  | zero =>
    intro i hi hn
    obtain rfl : i = 8 := by omega
    exact br_t (by decide) (h0 hn)
  | succ d ih =>
    intro i hi hn
    have next : ¬ (p i = true ∧ decide (B < L i) = true) → wY_readLate_2 post (nI t) cm th vy lc bg ac st hr sv ct cv ch (d + 1) (nI (i + 1)) := fun z => ih (i + 1) (by omega) (fun o ho => by
      by_cases e : o = i
      · subst e; exact z
      · exact hn o (by omega))
    refine br_f (nI_ge (b := 8) (by omega) (by decide)) ⟨pk_in (8 * t + i) 40 (by omega) (vh_8 t i), ?_⟩
    rw [vh_c8 (by omega), hp i (by omega)]
    cases hb : p i
    · exact br_t rfl (nm_r (nI_1 i) (next (fun y => absurd (hb.symm.trans y.1) (by decide))))
    · refine br_f (by decide) (ya_lt ht (by omega) (hL i (by omega)) hB (bL i (by omega)) bB ?_)
      cases e : decide (B < L i)
      · exact br_t rfl (nm_r (nI_1 i) (next (fun y => absurd (e.symm.trans y.2) (by decide))))
      · exact br_f (by decide) (h1 ⟨i, by omega, hb, e⟩)
end
end
section
/-! the reference's commit and crash, the component's crash, both finds -/
section
variable {cm : Int32} {th vy lc bg ac st hr sv ct cv ch : Nat → Int32}
/-- what the reference's commit leaves of its committed table, from key i on -/
def vh_Q (th vy lc th' vy' lc' ct cv : Nat → Int32) (cm : Int32) (t : Nat) (p : Nat → Bool) (i : Nat) : Prop := ∀ k, k < 8 → (th' k = if i ≤ k ∧ p k = true then ct (8 * (5 * t) + k) else th k) ∧ (vy' k = if i ≤ k ∧ p k = true then cv (8 * (5 * t) + k) else vy k) ∧ (lc' k = if i ≤ k ∧ p k = true then cm else lc k)
theorem ya_cmL {post : Int32 → SY → Prop} {x3 : Int32} {t : Nat} {p : Nat → Bool} (ht : t < 5) (ha : ¬ ac t = 0) (n1 : vh_n ct) (hp : ∀ k, k < 8 → ch (8 * (5 * t) + k) = vh_b (p k)) : ∀ (d i : Nat) (th vy lc : Nat → Int32), i + d = 8 → vh_n th → (∀ th' vy' lc' : Nat → Int32, vh_n th' → vh_Q th vy lc th' vy' lc' ct cv cm t p i → post x3 (cm, th', vy', lc', bg, upd ac t 0, st, hr, sv, ct, cv, ch)) → wY_commit_63 post (nI t) x3 cm (d + 1) (nI i) th vy lc bg ac st hr sv ct cv ch := by
  intro d
  induction d with
  | zero =>
    intro i th vy lc hi n0 K
    obtain rfl : i = 8 := by omega
    refine br_t (by decide) ⟨vp_in_nI ht (by decide), nm_r (e' := upd ac t 0) ?_ (K th vy lc n0 (fun k h8 => ?_))⟩
    · rw [nI_clamp (by omega)]; rfl
    · rw [if_neg (by omega), if_neg (by omega), if_neg (by omega)]
      exact ⟨rfl, rfl, rfl⟩
  | succ d ih =>
    intro i th vy lc hi n0 K
    refine br_f (nI_ge (b := 8) (by omega) (by decide)) (ya_ho ht (by omega) ha (hp i (by omega)) ?_)
    cases hb : p i
    · refine br_t rfl (nm_r (nI_1 i) (ih (i + 1) th vy lc (by omega) n0 (fun th' vy' lc' n' q => K th' vy' lc' n' (fun k h8 => ?_))))
      have q := q k h8
      by_cases e : i ≤ k ∧ p k = true
      · have : i ≠ k := fun z => by subst z; exact absurd (hb.symm.trans e.2) (by decide)
        rw [if_pos ⟨by omega, e.2⟩, if_pos ⟨by omega, e.2⟩, if_pos ⟨by omega, e.2⟩] at q
        rw [if_pos e, if_pos e, if_pos e]
        exact q
      · have e' : ¬ (i + 1 ≤ k ∧ p k = true) := fun z => e ⟨by omega, z.2⟩
        rw [if_neg e', if_neg e', if_neg e'] at q
        rw [if_neg e, if_neg e, if_neg e]
        exact q
    · have i1 := pk_in (8 * (5 * t) + i) 200 (by omega) (vh_40 t i)
      have i8 := vp_in_nI (n := i) (N := 8) (by omega) (by decide)
      refine br_f (by decide) ⟨i1, i8, nm_r (e' := upd th i (ct (8 * (5 * t) + i))) ?_ ⟨i1, i8, nm_r (e' := upd vy i (cv (8 * (5 * t) + i))) ?_ ⟨i8, nm_r (e' := upd lc i cm) ?_ (nm_r (nI_1 i) (ih (i + 1) _ _ _ (by omega) (vh_nu n0 (n1 _)) (fun th' vy' lc' n' q => K th' vy' lc' n' (fun k h8 => ?_))))⟩⟩⟩
      · rw [vh_c40 (by omega), nI_clamp (by omega), vh_nb (n1 _)]
      · rw [vh_c40 (by omega), nI_clamp (by omega)]
      · rw [nI_clamp (by omega)]
      · have q := q k h8
        by_cases e : k = i
        · subst e
          have e' : ¬ (k + 1 ≤ k ∧ p k = true) := fun z => absurd z.1 (by omega)
          rw [if_neg e', if_neg e', if_neg e', pk_us, pk_us, pk_us] at q
          rw [if_pos ⟨Nat.le_refl k, hb⟩, if_pos ⟨Nat.le_refl k, hb⟩, if_pos ⟨Nat.le_refl k, hb⟩]
          exact q
        · rw [pk_un e, pk_un e, pk_un e] at q
          by_cases e2 : i ≤ k ∧ p k = true
          · have e' : i + 1 ≤ k ∧ p k = true := ⟨by omega, e2.2⟩
            rw [if_pos e', if_pos e', if_pos e'] at q
            rw [if_pos e2, if_pos e2, if_pos e2]
            exact q
          · have e' : ¬ (i + 1 ≤ k ∧ p k = true) := fun z => e2 ⟨by omega, z.2⟩
            rw [if_neg e', if_neg e', if_neg e'] at q
            rw [if_neg e2, if_neg e2, if_neg e2]
            exact q
theorem ya_50 {post : Int32 → SY → Prop} {x3 : Int32} {t : Nat} {p : Nat → Bool} (ht : t < 5) (ha : ¬ ac t = 0) (n0 : vh_n th) (n1 : vh_n ct) (hp : ∀ k, k < 8 → ch (8 * (5 * t) + k) = vh_b (p k)) (K : ∀ th' vy' lc' : Nat → Int32, vh_n th' → vh_Q th vy lc th' vy' lc' ct cv (cm + 1) t p 0 → post x3 (cm + 1, th', vy', lc', bg, upd ac t 0, st, hr, sv, ct, cv, ch)) : wY_commit_50 post (nI t) x3 cm th vy lc bg ac st hr sv ct cv ch :=
  nm_e ⟨9, ya_cmL ht ha n1 hp 8 0 th vy lc rfl n0 K⟩
theorem ya_cm {post : Int32 → SY → Prop} {t B : Nat} {L : Nat → Nat} {p pr : Nat → Bool} (ht : t < 5) (ha : ¬ ac t = 0) (n0 : vh_n th) (n1 : vh_n ct) (hp : ∀ k, k < 8 → ch (8 * (5 * t) + k) = vh_b (p k)) (hr8 : ∀ k, k < 8 → hr (8 * t + k) = vh_b (pr k)) (hL : ∀ k, k < 8 → lc k = nI (L k)) (hB : bg t = nI B) (bL : ∀ k, k < 8 → L k < 2 ^ 31) (bB : B < 2 ^ 31) (hU : ¬ st t = 0 → ¬ vh_c p 8 = 0 → (∃ k, k < 8 ∧ pr k = true ∧ decide (B < L k) = true) → post (-9) (cm, th, vy, lc, bg, upd ac t 0, st, hr, sv, ct, cv, ch)) (K : ¬ (¬ st t = 0 ∧ ¬ vh_c p 8 = 0 ∧ (∃ k, k < 8 ∧ pr k = true ∧ decide (B < L k) = true)) → ∀ th' vy' lc' : Nat → Int32, vh_n th' → vh_Q th vy lc th' vy' lc' ct cv (cm + 1) t p 0 → post (nI (vh_c p 8)) (cm + 1, th', vy', lc', bg, upd ac t 0, st, hr, sv, ct, cv, ch)) : wpY_commit post (cm, th, vy, lc, bg, ac, st, hr, sv, ct, cv, ch) (nI t) := by
  unfold wpY_commit
  dsimp only
  have b8 := vh_cle p 8
  refine ya_ro (k := 0) ht ha (by omega) (br_t (by decide) (ya_hk ht ha hp ⟨vp_in_nI ht (by decide), br_c (fun e => ya_50 ht ha n0 n1 hp (K ?_)) (fun e => ?_)⟩))
  · rw [nI_clamp (by omega)] at e; exact fun z => z.1 e
  · rw [nI_clamp (by omega)] at e
    refine pk_le (vh_c p 8) 0 (fun c => ya_50 ht ha n0 n1 hp (K (fun z => z.2.1 (by omega)))) (fun c => ?_)
    unfold wpY_readLate
    dsimp only
    refine ⟨9, ya_rlL ht hr8 hL hB bL bB (fun x => br_f (by decide) ⟨vp_in_nI ht (by decide), nm_r (e' := upd ac t 0) ?_ (hU e (by omega) x)⟩) (fun x => br_t rfl (ya_50 ht ha n0 n1 hp (K (fun z => ?_)))) 8 0 rfl (fun o ho => absurd ho (by omega))⟩
    · obtain ⟨k, h8, y⟩ := z.2.2
      exact x k h8 y
    · rw [nI_clamp (by omega)]; rfl
end
/-- the cells i to 4 of a cleared -/
def vh_z (a : Nat → Int32) (i : Nat) : Nat → Int32 := fun j => if i ≤ j ∧ j < 5 then 0 else a j
theorem vh_z5 {a : Nat → Int32} : vh_z a 5 = a := funext fun j => if_neg (by omega)
theorem vh_zs {a : Nat → Int32} {i : Nat} (hi : i < 5) : vh_z (upd a i 0) (i + 1) = vh_z a i := by
  funext j
  unfold vh_z
  by_cases e : j = i
  · subst e
    rw [if_neg (by omega), if_pos (by omega), pk_us]
  · rw [pk_un e]
    by_cases h : i ≤ j ∧ j < 5
    · rw [if_pos h, if_pos (by omega)]
    · rw [if_neg h, if_neg (by omega)]
theorem vh_uz {a : Nat → Int32} {i : Nat} (h : a i = 0) : upd a i 0 = a := by
  funext j
  by_cases e : j = i
  · subst e; rw [pk_us, h]
  · rw [pk_un e]
theorem vh_za {a : Nat → Int32} {j : Nat} (hj : j < 5) : vh_z a 0 j = 0 := if_pos (by omega)
/-- which are active -/
def vh_a (a : Nat → Int32) : Nat → Bool := fun j => decide (¬ a j = 0)
theorem xa_crL {pk hk va st sv rk lk a0 : Nat → Int32} {post : Int32 → SX → Prop} : ∀ (d i : Nat) (ac : Nat → Int32), i + d = 5 → (∀ j, i ≤ j → ac j = a0 j) → post (nI (vh_c (vh_a a0) 5)) (pk, hk, va, vh_z ac i, st, sv, rk, lk) → wX_crash_4 post (d + 1) (nI (vh_c (vh_a a0) i)) (nI i) pk hk va ac st sv rk lk := by
  intro d
  induction d with
  | zero =>
    intro i ac hi he h
    obtain rfl : i = 5 := by omega
    rw [vh_z5] at h
    exact br_t (by decide) h
  | succ d ih =>
    intro i ac hi he h
    have e := vh_cb (vh_a a0) i
    refine br_f (nI_ge (b := 5) (by omega) (by decide)) ⟨vp_in_nI (by omega) (by decide), ?_⟩
    rw [nI_clamp (by omega)]
    by_cases z : ac i = 0
    · have hb : vh_a a0 i = false := decide_eq_false (by rw [← he i (by omega), z]; simp)
      rw [hb] at e
      have e' : nI (vh_c (vh_a a0) i) = nI (vh_c (vh_a a0) (i + 1)) := by rw [← e]; exact (Int32.add_zero _).symm
      rw [e']
      refine br_t z (nm_r (nI_1 i) (ih (i + 1) ac (by omega) (fun j hj => he j (by omega)) ?_))
      rw [← vh_zs (by omega), vh_uz z] at h
      exact h
    · have hb : vh_a a0 i = true := decide_eq_true (by rw [← he i (by omega)]; exact z)
      rw [hb] at e
      refine br_f z ⟨vp_in_nI (by omega) (by decide), nm_r (e' := upd ac i 0) rfl (nm_r e (nm_r (nI_1 i) (ih (i + 1) _ (by omega) (fun j hj => ?_) ?_)))⟩
      · rw [pk_un (by omega)]; exact he j (by omega)
      · rw [vh_zs (by omega)]; exact h
theorem ya_crL {cm : Int32} {th vy lc bg st hr sv ct cv ch a0 : Nat → Int32} {post : Int32 → SY → Prop} : ∀ (d i : Nat) (ac : Nat → Int32), i + d = 5 → (∀ j, i ≤ j → ac j = a0 j) → post (nI (vh_c (vh_a a0) 5)) (cm, th, vy, lc, bg, vh_z ac i, st, hr, sv, ct, cv, ch) → wY_crash_4 post cm (d + 1) (nI (vh_c (vh_a a0) i)) (nI i) th vy lc bg ac st hr sv ct cv ch := by
  intro d
  induction d with
  | zero =>
    intro i ac hi he h
    obtain rfl : i = 5 := by omega
    rw [vh_z5] at h
    exact br_t (by decide) h
  | succ d ih =>
    intro i ac hi he h
    have e := vh_cb (vh_a a0) i
    refine br_f (nI_ge (b := 5) (by omega) (by decide)) ⟨vp_in_nI (by omega) (by decide), ?_⟩
    rw [nI_clamp (by omega)]
    by_cases z : ac i = 0
    · have hb : vh_a a0 i = false := decide_eq_false (by rw [← he i (by omega), z]; simp)
      rw [hb] at e
      have e' : nI (vh_c (vh_a a0) i) = nI (vh_c (vh_a a0) (i + 1)) := by rw [← e]; exact (Int32.add_zero _).symm
      rw [e']
      refine br_t z ⟨vp_in_nI (by omega) (by decide), nm_r (e' := upd ac i 0) rfl (nm_r (nI_1 i) (ih (i + 1) _ (by omega) (fun j hj => ?_) ?_))⟩
      · rw [pk_un (by omega)]; exact he j (by omega)
      · rw [vh_zs (by omega)]; exact h
    · have hb : vh_a a0 i = true := decide_eq_true (by rw [← he i (by omega)]; exact z)
      rw [hb] at e
      refine br_f z (nm_r e ⟨vp_in_nI (by omega) (by decide), nm_r (e' := upd ac i 0) rfl (nm_r (nI_1 i) (ih (i + 1) _ (by omega) (fun j hj => ?_) ?_))⟩)
      · rw [pk_un (by omega)]; exact he j (by omega)
      · rw [vh_zs (by omega)]; exact h
theorem vh_fd {pk hk va ac st sv rk lk : Nat → Int32} {cm : Int32} {th vy lc bg ay sy hr ss ct cv ch : Nat → Int32} {t : Nat} {val : Int32} (ht : t < 5) (hF : ∀ k, k < 8 → ct (8 * (5 * t) + k) = vh_b (bt (pk (5 * t + 4)) k) ∧ cv (8 * (5 * t) + k) = va (8 * (5 * t + 4) + k)) : ∀ (d i : Nat), i + d = 8 → ∃ r : Int32, (∀ post : Int32 → Prop, post r → wX_find_21 post val (nI (5 * t + 4)) pk hk va ac st sv rk lk (d + 1) (nI i)) ∧ (∀ post : Int32 → Prop, post r → wY_find_16 post (nI t) val cm th vy lc bg ay sy hr ss ct cv ch (d + 1) (nI i)) := by
  intro d
  induction d with
  | zero =>
    intro i hi
    obtain rfl : i = 8 := by omega
    exact ⟨-7, fun _ h => br_t (by decide) h, fun _ h => br_t (by decide) h⟩
  | succ d ih =>
    intro i hi
    obtain ⟨r, hX, hY⟩ := ih (i + 1) (by omega)
    obtain ⟨e1, e2⟩ := hF i (by omega)
    have n8 : ¬ (8 : Int32) ≤ nI i := nI_ge (b := 8) (by omega) (by decide)
    have i1 := pk_in (8 * (5 * t + 4) + i) 208 (by omega) (vh_8 (5 * t + 4) i)
    have i2 := pk_in (8 * (5 * t) + i) 200 (by omega) (vh_40 t i)
    have i3 := vp_in_nI (n := 5 * t + 4) (N := 26) (by omega) (by decide)
    have c1 := nI_clamp (n := 5 * t + 4) (by omega)
    have c2 := vh_c8 (g := 5 * t + 4) (i := i) (by omega)
    have c3 := vh_c40 (t := t) (i := i) (by omega)
    cases hb : bt (pk (5 * t + 4)) i
    · refine ⟨r, fun post h => br_f n8 ⟨i3, xa_has (by omega) _ ?_⟩, fun post h => br_f n8 ⟨i2, br_t ?_ (nm_r (nI_1 i) (hY post h))⟩⟩
      · rw [c1, hb]
        exact br_t rfl (nm_r (nI_1 i) (hX post h))
      · rw [c3, e1, hb]; rfl
    · by_cases q : va (8 * (5 * t + 4) + i) = val
      · refine ⟨nI i, fun post h => br_f n8 ⟨i3, xa_has (by omega) _ ?_⟩, fun post h => br_f n8 ⟨i2, br_f ?_ ⟨i2, br_t ?_ h⟩⟩⟩
        · rw [c1, hb]
          exact br_f (by decide) ⟨i1, br_t (by rw [c2]; exact q) h⟩
        · rw [c3, e1, hb]; decide
        · rw [c3, e2]; exact q
      · refine ⟨r, fun post h => br_f n8 ⟨i3, xa_has (by omega) _ ?_⟩, fun post h => br_f n8 ⟨i2, br_f ?_ ⟨i2, br_f ?_ (nm_r (nI_1 i) (hY post h))⟩⟩⟩
        · rw [c1, hb]
          exact br_f (by decide) ⟨i1, br_f (by rw [c2]; exact q) (nm_r (nI_1 i) (hX post h))⟩
        · rw [c3, e1, hb]; decide
        · rw [c3, e2]; exact q
end
section
/-! the relation, and what keeps it -/
/-- where the reference keeps a transaction's frame j: view and snapshot are swapped -/
def vh_s (j : Nat) : Nat := if j = 0 then 4 else if j = 4 then 0 else j
theorem vh_s5 {j : Nat} (h : j < 5) : vh_s j < 5 := by
  unfold vh_s
  split
  · omega
  · split <;> omega
theorem vh_sn {t t' j j' : Nat} (h : j < 5) (h' : j' < 5) (hn : ¬ (t' = t ∧ j' = j)) : 5 * t' + vh_s j' ≠ 5 * t + vh_s j := by
  unfold vh_s
  by_cases a : j = 0
  · by_cases b : j' = 0
    · rw [if_pos a, if_pos b]; omega
    · rw [if_pos a, if_neg b]
      split <;> omega
  · by_cases b : j' = 0
    · rw [if_neg a, if_pos b]
      split <;> omega
    · rw [if_neg a, if_neg b]
      split <;> split <;> omega
/-- every frame of every transaction -/
def vh_F (pk hk va ct cv ch : Nat → Int32) : Prop := ∀ t, t < 5 → ∀ j, j < 5 → ∀ k, k < 8 → ct (8 * (5 * t + vh_s j) + k) = vh_b (bt (pk (5 * t + j)) k) ∧ ch (8 * (5 * t + vh_s j) + k) = vh_b (bt (hk (5 * t + j)) k) ∧ cv (8 * (5 * t + vh_s j) + k) = va (8 * (5 * t + j) + k)
/-- the committed table -/
def vh_C (pk va th vy : Nat → Int32) : Prop := ∀ k, k < 8 → th k = vh_b (bt (pk 25) k) ∧ vy k = va (200 + k)
/-- held keys are below 8, and the committed table holds none -/
def vh_H (hk : Nat → Int32) : Prop := hk 25 = 0 ∧ ∀ f i, 8 ≤ i → bt (hk f) i = false
/-- the keys read -/
def vh_D (rk hr : Nat → Int32) : Prop := (∀ t, t < 5 → ∀ k, k < 8 → hr (8 * t + k) = vh_b (bt (rk t) k)) ∧ ∀ t i, 8 ≤ i → bt (rk t) i = false
def vh_S (sv : Nat → Int32) : Prop := ∀ t, ∃ s, s ≤ 3 ∧ sv t = nI s
/-- the keys late for an active transaction: committed after it began -/
def vh_T (n : Nat) (cm : Int32) (lc bg ac lk : Nat → Int32) : Prop := ∃ (c : Nat) (L B : Nat → Nat), cm = nI c ∧ 4 * c ≤ n ∧ (∀ k, k < 8 → lc k = nI (L k) ∧ L k ≤ c) ∧ (∀ t, t < 5 → bg t = nI (B t) ∧ B t ≤ c) ∧ ∀ t, t < 5 → ¬ ac t = 0 → ∀ k, k < 8 → bt (lk t) k = decide (B t < L k)
def vh_R (n : Nat) (pk hk va ac st sv rk lk : Nat → Int32) (cm : Int32) (th vy lc bg ay sy hr ss ct cv ch : Nat → Int32) : Prop := (ay = ac ∧ sy = st ∧ ss = sv) ∧ (vh_n th ∧ vh_n ct ∧ vh_n ch) ∧ vh_F pk hk va ct cv ch ∧ vh_C pk va th vy ∧ vh_H hk ∧ vh_D rk hr ∧ vh_S sv ∧ vh_T n cm lc bg ac lk
/-- the relation at the head of a turn whose first cell is k -/
def i_Rel (k : Nat) (u : SX) (v : SY) : Prop := match u, v with
  | (pk, hk, va, ac, st, sv, rk, lk), (cm, th, vy, lc, bg, ay, sy, hr, ss, ct, cv, ch) => vh_R k pk hk va ac st sv rk lk cm th vy lc bg ay sy hr ss ct cv ch
theorem vh_Tup {n m : Nat} {cm : Int32} {lc bg ac lk : Nat → Int32} (h : vh_T n cm lc bg ac lk) (hm : n ≤ m) : vh_T m cm lc bg ac lk := by
  obtain ⟨c, L, B, h1, h2, h3⟩ := h
  exact ⟨c, L, B, h1, by omega, h3⟩
theorem vh_up {n m : Nat} {pk hk va ac st sv rk lk : Nat → Int32} {cm : Int32} {th vy lc bg ay sy hr ss ct cv ch : Nat → Int32} (h : vh_R n pk hk va ac st sv rk lk cm th vy lc bg ay sy hr ss ct cv ch) (hm : n ≤ m) : vh_R m pk hk va ac st sv rk lk cm th vy lc bg ay sy hr ss ct cv ch :=
  ⟨h.1, h.2.1, h.2.2.1, h.2.2.2.1, h.2.2.2.2.1, h.2.2.2.2.2.1, h.2.2.2.2.2.2.1, vh_Tup h.2.2.2.2.2.2.2 hm⟩
theorem i_up {k : Nat} {u : SX} {v : SY} (h : i_Rel k u v) : i_Rel (k + 4) u v := by
  obtain ⟨pk, hk, va, ac, st, sv, rk, lk⟩ := u
  obtain ⟨cm, th, vy, lc, bg, ay, sy, hr, ss, ct, cv, ch⟩ := v
  exact vh_up h (by omega)
theorem i_vc0 : wpX_init (fun u => wpY_init (fun v => i_Rel 0 u v)) := by
  refine ⟨⟨rfl, rfl, rfl⟩, ⟨fun _ => Or.inl rfl, fun _ => Or.inl rfl, fun _ => Or.inl rfl⟩, fun t _ j _ k _ => ⟨?_, ?_, rfl⟩, fun k _ => ⟨?_, rfl⟩, ⟨rfl, fun f i _ => b_0 i⟩, ⟨fun t _ k _ => ?_, fun t i _ => b_0 i⟩, fun t => ⟨0, by omega, rfl⟩, ⟨0, fun _ => 0, fun _ => 0, rfl, by omega, fun _ _ => ⟨rfl, Nat.le_refl 0⟩, fun _ _ => ⟨rfl, Nat.le_refl 0⟩, fun t _ ha => absurd rfl ha⟩⟩
  · show 0 = vh_b (bt 0 k); rw [b_0]; rfl
  · show 0 = vh_b (bt 0 k); rw [b_0]; rfl
  · show 0 = vh_b (bt 0 k); rw [b_0]; rfl
  · show 0 = vh_b (bt 0 k); rw [b_0]; rfl
section
variable {pk hk va ct cv ch pk' hk' va' ct' cv' ch' : Nat → Int32}
theorem vh_Fs (F : vh_F pk hk va ct cv ch) {t j : Nat} (hj : j < 5) (hX : ∀ f, f < 25 → f ≠ 5 * t + j → pk' f = pk f ∧ hk' f = hk f ∧ ∀ k, k < 8 → va' (8 * f + k) = va (8 * f + k)) (hY : ∀ g, g ≠ 5 * t + vh_s j → ∀ k, k < 8 → ct' (8 * g + k) = ct (8 * g + k) ∧ cv' (8 * g + k) = cv (8 * g + k) ∧ ch' (8 * g + k) = ch (8 * g + k)) (hN : ∀ k, k < 8 → ct' (8 * (5 * t + vh_s j) + k) = vh_b (bt (pk' (5 * t + j)) k) ∧ ch' (8 * (5 * t + vh_s j) + k) = vh_b (bt (hk' (5 * t + j)) k) ∧ cv' (8 * (5 * t + vh_s j) + k) = va' (8 * (5 * t + j) + k)) : vh_F pk' hk' va' ct' cv' ch' := by
  intro t' ht' j' hj' k h8
  by_cases e : t' = t ∧ j' = j
  · obtain ⟨rfl, rfl⟩ := e
    exact hN k h8
  · obtain ⟨a1, a2, a3⟩ := hX (5 * t' + j') (by omega) (by omega)
    obtain ⟨b1, b2, b3⟩ := hY (5 * t' + vh_s j') (vh_sn hj hj' e) k h8
    obtain ⟨c1, c2, c3⟩ := F t' ht' j' hj' k h8
    exact ⟨by rw [b1, a1, c1], by rw [b3, a2, c2], by rw [b2, a3 k h8, c3]⟩
/-- the view -/
theorem vh_Fv (F : vh_F pk hk va ct cv ch) {t k : Nat} (ht : t < 5) (h8 : k < 8) : ct (8 * (5 * t) + k) = vh_b (bt (pk (5 * t + 4)) k) ∧ ch (8 * (5 * t) + k) = vh_b (bt (hk (5 * t + 4)) k) ∧ cv (8 * (5 * t) + k) = va (8 * (5 * t + 4) + k) := F t ht 4 (by omega) k h8
/-- a copy of frame i over frame j of the same transaction -/
theorem vh_Fc (F : vh_F pk hk va ct cv ch) {t i j : Nat} (ht : t < 5) (hi : i < 5) (hj : j < 5) : vh_F (upd pk (5 * t + j) (pk (5 * t + i))) (upd hk (5 * t + j) (hk (5 * t + i))) (vh_f va (5 * t + j) (fun k => va (8 * (5 * t + i) + k)) 0) (vh_f ct (5 * t + vh_s j) (fun k => ct (8 * (5 * t + vh_s i) + k)) 0) (vh_f cv (5 * t + vh_s j) (fun k => cv (8 * (5 * t + vh_s i) + k)) 0) (vh_f ch (5 * t + vh_s j) (fun k => ch (8 * (5 * t + vh_s i) + k)) 0) := by
  refine vh_Fs F (t := t) (j := j) hj (fun f _ hf => ⟨pk_un hf, pk_un hf, fun k h8 => vh_fo h8 hf⟩) (fun g hg k h8 => ⟨vh_fo h8 hg, vh_fo h8 hg, vh_fo h8 hg⟩) (fun k h8 => ?_)
  rw [vh_fi h8, vh_fi h8, vh_fi h8, vh_fi h8, pk_us, pk_us]
  exact F t ht i hi k h8
/-- a change of key x in the view -/
theorem vh_Fp (F : vh_F pk hk va ct cv ch) {t x : Nat} {b : Bool} {val : Int32} (hx : x < 8) (ht : t < 5) : vh_F (upd pk (5 * t + 4) (vh_set (pk (5 * t + 4)) x b)) (upd hk (5 * t + 4) (hk (5 * t + 4) ||| ((1 : Int32) <<< (nI x &&& 31)))) (upd va (8 * (5 * t + 4) + x) val) (upd ct (8 * (5 * t) + x) (vh_b b)) (upd cv (8 * (5 * t) + x) val) (upd ch (8 * (5 * t) + x) 1) := by
  refine vh_Fs F (t := t) (j := 4) (by omega) (fun f _ hf => ⟨pk_un hf, pk_un hf, fun k h8 => pk_un (by omega)⟩) (fun g hg k h8 => ?_) (fun k h8 => ?_)
  · have hg' : g ≠ 5 * t := hg
    exact ⟨pk_un (by omega), pk_un (by omega), pk_un (by omega)⟩
  · show upd ct (8 * (5 * t) + x) (vh_b b) (8 * (5 * t) + k) = _ ∧ upd ch (8 * (5 * t) + x) 1 (8 * (5 * t) + k) = _ ∧ upd cv (8 * (5 * t) + x) val (8 * (5 * t) + k) = _
    rw [pk_us, pk_us, vh_setb _ _ (by omega) (by omega), vh_or _ (by omega) (by omega)]
    by_cases e : k = x
    · subst e
      rw [pk_us, pk_us, pk_us, pk_us, if_pos rfl, decide_eq_true rfl, Bool.or_true]
      exact ⟨rfl, rfl, rfl⟩
    · rw [pk_un (by omega), pk_un (by omega), pk_un (by omega), pk_un (by omega), if_neg e, decide_eq_false e, Bool.or_false]
      exact vh_Fv F ht h8
theorem vh_Hu (H : vh_H hk) {f : Nat} {x : Int32} (hf : f ≠ 25) (hx : ∀ i, 8 ≤ i → bt x i = false) : vh_H (upd hk f x) := by
  refine ⟨by rw [pk_un (Ne.symm hf)]; exact H.1, fun g i hi => ?_⟩
  by_cases e : g = f
  · subst e; rw [pk_us]; exact hx i hi
  · rw [pk_un e]; exact H.2 g i hi
theorem vh_or8 {x : Int32} {k : Nat} (hx : ∀ i, 8 ≤ i → bt x i = false) (hk8 : k < 8) : ∀ i, 8 ≤ i → bt (x ||| ((1 : Int32) <<< (nI k &&& 31))) i = false := by
  intro i hi
  by_cases e : i < 32
  · rw [vh_or x (by omega) e, hx i hi, decide_eq_false (by omega)]; rfl
  · exact b_big (by omega)
end
end
section
/-! what begin, get and commit keep -/
section
variable {pk hk va ct cv ch th vy lc bg ac lk rk hr sv : Nat → Int32} {cm : Int32}
theorem vh_ff {a b b' : Nat → Int32} {g g' : Nat} (h : g ≠ g') : vh_f (vh_f a g b 0) g' b' 0 = vh_f (vh_f a g' b' 0) g b 0 := by
  funext j
  unfold vh_f
  by_cases x : 8 * g' + 0 ≤ j ∧ j < 8 * g' + 8
  · rw [if_pos x, if_neg (by omega), if_pos x]
  · rw [if_neg x, if_neg x]
theorem vh_Fb (F : vh_F pk hk va ct cv ch) (C : vh_C pk va th vy) (H : vh_H hk) {t : Nat} (ht : t < 5) : vh_F (upd (upd pk (5 * t) (pk 25)) (5 * t + 4) (upd pk (5 * t) (pk 25) 25)) (upd (upd hk (5 * t) (hk 25)) (5 * t + 4) (upd hk (5 * t) (hk 25) 25)) (vh_f (vh_f va (5 * t) (fun k => va (8 * 25 + k)) 0) (5 * t + 4) (fun k => vh_f va (5 * t) (fun k => va (8 * 25 + k)) 0 (8 * 25 + k)) 0) (vh_f (vh_f ct (5 * t) th 0) (5 * t + 4) th 0) (vh_f (vh_f cv (5 * t) vy 0) (5 * t + 4) vy 0) (vh_f (vh_f ch (5 * t) (fun _ => 0) 0) (5 * t + 4) (fun _ => 0) 0) := by
  have F1 : vh_F (upd pk (5 * t) (pk 25)) (upd hk (5 * t) (hk 25)) (vh_f va (5 * t) (fun k => va (8 * 25 + k)) 0) (vh_f ct (5 * t + 4) th 0) (vh_f cv (5 * t + 4) vy 0) (vh_f ch (5 * t + 4) (fun _ => 0) 0) := by
    refine vh_Fs F (t := t) (j := 0) (by omega) (fun f _ hf => ⟨pk_un hf, pk_un hf, fun k h8 => vh_fo h8 hf⟩) (fun g hg k h8 => ⟨vh_fo h8 hg, vh_fo h8 hg, vh_fo h8 hg⟩) (fun k h8 => ?_)
    show vh_f ct (5 * t + 4) th 0 (8 * (5 * t + 4) + k) = vh_b (bt (upd pk (5 * t) (pk 25) (5 * t)) k) ∧ vh_f ch (5 * t + 4) (fun _ => 0) 0 (8 * (5 * t + 4) + k) = vh_b (bt (upd hk (5 * t) (hk 25) (5 * t)) k) ∧ vh_f cv (5 * t + 4) vy 0 (8 * (5 * t + 4) + k) = vh_f va (5 * t) (fun k => va (8 * 25 + k)) 0 (8 * (5 * t) + k)
    rw [vh_fi h8, vh_fi h8, vh_fi h8, vh_fi h8, pk_us, pk_us, H.1, b_0]
    exact ⟨(C k h8).1, rfl, (C k h8).2⟩
  rw [vh_ff (a := ct) (by omega), vh_ff (a := cv) (by omega), vh_ff (a := ch) (by omega)]
  refine vh_Fs F1 (t := t) (j := 4) (by omega) (fun f _ hf => ⟨pk_un hf, pk_un hf, fun k h8 => vh_fo h8 hf⟩) (fun g hg k h8 => ⟨vh_fo h8 hg, vh_fo h8 hg, vh_fo h8 hg⟩) (fun k h8 => ?_)
  show vh_f (vh_f ct (5 * t + 4) th 0) (5 * t) th 0 (8 * (5 * t) + k) = _ ∧ vh_f (vh_f ch (5 * t + 4) (fun _ => 0) 0) (5 * t) (fun _ => 0) 0 (8 * (5 * t) + k) = _ ∧ vh_f (vh_f cv (5 * t + 4) vy 0) (5 * t) vy 0 (8 * (5 * t) + k) = _
  rw [vh_fi h8, vh_fi h8, vh_fi h8, vh_fi h8, pk_us, pk_us, pk_un (show 25 ≠ 5 * t by omega), pk_un (show 25 ≠ 5 * t by omega), H.1, b_0]
  refine ⟨(C k h8).1, rfl, ?_⟩
  show vy k = vh_f va (5 * t) (fun k => va (8 * 25 + k)) 0 (8 * 25 + k)
  rw [vh_fo h8 (by omega)]
  exact (C k h8).2
theorem vh_Cb (C : vh_C pk va th vy) {t : Nat} (ht : t < 5) : vh_C (upd (upd pk (5 * t) (pk 25)) (5 * t + 4) (upd pk (5 * t) (pk 25) 25)) (vh_f (vh_f va (5 * t) (fun k => va (8 * 25 + k)) 0) (5 * t + 4) (fun k => vh_f va (5 * t) (fun k => va (8 * 25 + k)) 0 (8 * 25 + k)) 0) th vy := by
  intro k h8
  rw [pk_un (show 25 ≠ 5 * t + 4 by omega), pk_un (show 25 ≠ 5 * t by omega)]
  refine ⟨(C k h8).1, ?_⟩
  show vy k = vh_f (vh_f va (5 * t) (fun k => va (8 * 25 + k)) 0) (5 * t + 4) (fun k => vh_f va (5 * t) (fun k => va (8 * 25 + k)) 0 (8 * 25 + k)) 0 (8 * 25 + k)
  rw [vh_fo h8 (by omega), vh_fo h8 (by omega)]
  exact (C k h8).2
/-- a copy within a transaction leaves the committed table -/
theorem vh_Cc (C : vh_C pk va th vy) {g : Nat} {x : Int32} {b : Nat → Int32} (hg : g ≠ 25) : vh_C (upd pk g x) (vh_f va g b 0) th vy := by
  intro k h8
  rw [pk_un (Ne.symm hg)]
  refine ⟨(C k h8).1, ?_⟩
  show vy k = vh_f va g b 0 (8 * 25 + k)
  rw [vh_fo h8 (Ne.symm hg)]
  exact (C k h8).2
theorem vh_Cu (C : vh_C pk va th vy) {g i : Nat} {x y : Int32} (hg : g ≠ 25) (hi : i < 200) : vh_C (upd pk g x) (upd va i y) th vy := by
  intro k h8
  rw [pk_un (Ne.symm hg), pk_un (by omega)]
  exact C k h8
theorem vh_z8 : ∀ i, 8 ≤ i → bt 0 i = false := fun i _ => b_0 i
theorem vh_Hb (H : vh_H hk) {t : Nat} (ht : t < 5) : vh_H (upd (upd hk (5 * t) (hk 25)) (5 * t + 4) (upd hk (5 * t) (hk 25) 25)) := by
  rw [pk_un (show 25 ≠ 5 * t by omega), H.1]
  exact vh_Hu (vh_Hu H (by omega) vh_z8) (by omega) vh_z8
theorem vh_Db (D : vh_D rk hr) {t : Nat} (ht : t < 5) : vh_D (upd rk t 0) (vh_f hr t (fun _ => 0) 0) := by
  constructor
  · intro s hs k h8
    by_cases e : s = t
    · subst e
      rw [vh_fi h8, pk_us, b_0]; rfl
    · rw [vh_fo h8 e, pk_un e]
      exact D.1 s hs k h8
  · intro s i hi
    by_cases e : s = t
    · subst e; rw [pk_us, b_0]
    · rw [pk_un e]; exact D.2 s i hi
theorem vh_Dg (D : vh_D rk hr) {t x : Nat} (hx : x < 8) : vh_D (upd rk t (rk t ||| ((1 : Int32) <<< (nI x &&& 31)))) (upd hr (8 * t + x) 1) := by
  constructor
  · intro s hs k h8
    by_cases e : s = t
    · subst e
      rw [pk_us, vh_or _ (by omega) (by omega)]
      by_cases e2 : k = x
      · subst e2
        rw [pk_us, decide_eq_true rfl, Bool.or_true]; rfl
      · rw [pk_un (by omega), decide_eq_false e2, Bool.or_false]
        exact D.1 s hs k h8
    · rw [pk_un (by omega), pk_un e]
      exact D.1 s hs k h8
  · intro s i hi
    by_cases e : s = t
    · subst e; rw [pk_us]; exact vh_or8 (D.2 s) hx i hi
    · rw [pk_un e]; exact D.2 s i hi
theorem vh_Su (S : vh_S sv) {t s : Nat} (hs : s ≤ 3) : vh_S (upd sv t (nI s)) := by
  intro j
  by_cases e : j = t
  · subst e; rw [pk_us]; exact ⟨s, hs, rfl⟩
  · rw [pk_un e]; exact S j
theorem vh_Tb {n : Nat} (T : vh_T n cm lc bg ac lk) {t : Nat} (ht : t < 5) : vh_T n cm lc (upd bg t cm) (upd ac t 1) (upd lk t 0) := by
  obtain ⟨c, L, B, h1, h2, h3, h4, h5⟩ := T
  refine ⟨c, L, fun s => if s = t then c else B s, h1, h2, h3, fun s hs => ?_, fun s hs ha k h8 => ?_⟩
  · dsimp only
    by_cases e : s = t
    · rw [if_pos e, e, pk_us]; exact ⟨h1, Nat.le_refl c⟩
    · rw [if_neg e, pk_un e]; exact h4 s hs
  · dsimp only
    by_cases e : s = t
    · simp only [if_pos e]
      rw [e, pk_us, b_0]
      have := (h3 k h8).2
      exact (decide_eq_false (by omega)).symm
    · simp only [if_neg e]
      rw [pk_un e]
      rw [pk_un e] at ha
      exact h5 s hs ha k h8
theorem vh_Ti {n : Nat} {ac' : Nat → Int32} (T : vh_T n cm lc bg ac lk) (h : ∀ s, s < 5 → ¬ ac' s = 0 → ¬ ac s = 0) : vh_T n cm lc bg ac' lk := by
  obtain ⟨c, L, B, h1, h2, h3, h4, h5⟩ := T
  exact ⟨c, L, B, h1, h2, h3, h4, fun s hs ha => h5 s hs (h s hs ha)⟩
theorem vh_off {t : Nat} : ∀ s, s < 5 → ¬ upd ac t 0 s = 0 → ¬ ac s = 0 := by
  intro s _ h
  by_cases e : s = t
  · subst e; exact absurd pk_us h
  · rw [pk_un e] at h; exact h
theorem vh_Tc {n t : Nat} {th' vy' lc' : Nat → Int32} {m : Int32} (T : vh_T n cm lc bg ac lk) (q : vh_Q th vy lc th' vy' lc' ct cv (cm + 1) t (bt m) 0) : vh_T (n + 4) (cm + 1) lc' bg (upd ac t 0) (vh_l lk m 0) := by
  obtain ⟨c, L, B, h1, h2, h3, h4, h5⟩ := T
  have hc : cm + 1 = nI (c + 1) := by rw [h1, nI_1]
  refine ⟨c + 1, fun k => if bt m k = true then c + 1 else L k, B, hc, by omega, fun k h8 => ?_, fun s hs => ⟨(h4 s hs).1, Nat.le_succ_of_le (h4 s hs).2⟩, fun s hs ha k h8 => ?_⟩
  · dsimp only
    have q3 := (q k h8).2.2
    have l := h3 k h8
    by_cases e : bt m k = true
    · rw [if_pos ⟨Nat.zero_le k, e⟩, hc] at q3
      rw [if_pos e]
      exact ⟨q3, Nat.le_refl _⟩
    · rw [if_neg (fun z => e z.2)] at q3
      rw [if_neg e]
      exact ⟨q3.trans l.1, by omega⟩
  · dsimp only
    have a := h5 s hs (vh_off s hs ha) k h8
    have e0 : vh_l lk m 0 s = lk s ||| m := if_pos (by omega)
    rw [e0, b_or, a]
    have b := (h4 s hs).2
    by_cases e : bt m k = true
    · simp only [if_pos e]
      rw [e, Bool.or_true]
      exact (decide_eq_true (by omega)).symm
    · simp only [if_neg e]
      rw [Bool.eq_false_iff.mpr e, Bool.or_false]
theorem vh_Fk {pk' va' : Nat → Int32} {f : Nat} {m : Int32} (F : vh_F pk hk va ct cv ch) (P : vh_P pk va pk' va' f m) : vh_F pk' hk va' ct cv ch := by
  obtain ⟨p1, _, p3, _⟩ := P
  intro t ht j hj k h8
  rw [p1 _ (by omega), p3 _ (by omega)]
  exact F t ht j hj k h8
theorem vh_Ck {pk' va' th' vy' lc' : Nat → Int32} {t : Nat} {x : Int32} (ht : t < 5) (F : vh_F pk hk va ct cv ch) (C : vh_C pk va th vy) (P : vh_P pk va pk' va' (5 * t + 4) (hk (5 * t + 4))) (q : vh_Q th vy lc th' vy' lc' ct cv x t (bt (hk (5 * t + 4))) 0) : vh_C pk' va' th' vy' := by
  obtain ⟨_, p2, _, p4⟩ := P
  intro k h8
  obtain ⟨f1, _, f3⟩ := vh_Fv F ht h8
  obtain ⟨q1, q2, _⟩ := q k h8
  have c := C k h8
  rw [p2 k h8, p4 k h8, q1, q2]
  by_cases e : bt (hk (5 * t + 4)) k = true
  · rw [if_pos e, if_pos e, if_pos ⟨Nat.zero_le k, e⟩, if_pos ⟨Nat.zero_le k, e⟩]
    exact ⟨f1, f3⟩
  · rw [if_neg e, if_neg e, if_neg (fun z => e z.2), if_neg (fun z => e z.2)]
    exact c
end
end
section
/-! the methods, side by side: transactions' own -/
section
variable {n : Nat} {pk hk va ac st sv rk lk : Nat → Int32} {cm : Int32} {th vy lc bg hr ct cv ch : Nat → Int32}
/-- the relation without the arrays that are the same function on both sides -/
def vh_G (n : Nat) (pk hk va ac st sv rk lk : Nat → Int32) (cm : Int32) (th vy lc bg hr ct cv ch : Nat → Int32) : Prop := (vh_n th ∧ vh_n ct ∧ vh_n ch) ∧ vh_F pk hk va ct cv ch ∧ vh_C pk va th vy ∧ vh_H hk ∧ vh_D rk hr ∧ vh_S sv ∧ vh_T n cm lc bg ac lk
theorem vh_mk {r : Int32} (G : vh_G n pk hk va ac st sv rk lk cm th vy lc bg hr ct cv ch) : r = r ∧ i_Rel n (pk, hk, va, ac, st, sv, rk, lk) (cm, th, vy, lc, bg, ac, st, hr, sv, ct, cv, ch) := ⟨rfl, ⟨rfl, rfl, rfl⟩, G⟩
theorem vh_Gu (G : vh_G n pk hk va ac st sv rk lk cm th vy lc bg hr ct cv ch) : vh_G (n + 4) pk hk va ac st sv rk lk cm th vy lc bg hr ct cv ch := ⟨G.1, G.2.1, G.2.2.1, G.2.2.2.1, G.2.2.2.2.1, G.2.2.2.2.2.1, vh_Tup G.2.2.2.2.2.2 (by omega)⟩
theorem vh_sm {r : Int32} (G : vh_G n pk hk va ac st sv rk lk cm th vy lc bg hr ct cv ch) : r = r ∧ i_Rel (n + 4) (pk, hk, va, ac, st, sv, rk, lk) (cm, th, vy, lc, bg, ac, st, hr, sv, ct, cv, ch) := vh_mk (vh_Gu G)
theorem vh_5le {x : Int32} (h : nI 5 ≤ x) : ¬ x ≤ 4 := fun z => absurd (Int32.le_trans h z) (by decide)
theorem vc_begin (G : vh_G n pk hk va ac st sv rk lk cm th vy lc bg hr ct cv ch) (v1 v2 : Int32) : wpX_begin (fun r u' => wpY_begin (fun r' v' => r' = r ∧ i_Rel (n + 4) u' v') (cm, th, vy, lc, bg, ac, st, hr, sv, ct, cv, ch) v1 (lw_bz v2)) (pk, hk, va, ac, st, sv, rk, lk) v1 (lw_bz v2) := by
  have G0 := G
  obtain ⟨⟨n0, n1, n3⟩, F, C, H, D, S, T⟩ := G
  unfold wpX_begin
  dsimp only
  rcases pk_ix v1 (n := 5) (by decide) with hx | hx | ⟨t, ht, rfl⟩
  · exact xa_bT (Or.inl hx) (br_f (by decide) (br_t hx (vh_sm G0)))
  · exact xa_bT (Or.inr hx) (br_f (by decide) (br_f (xa_nl5 hx) (br_f (vh_5le hx) (vh_sm G0))))
  · have e4 : nI t * 5 + 4 = nI (5 * t + 4) := vh_5 t 4
    have it := vp_in_nI (n := t) (N := 5) ht (by decide)
    rw [e4, vh_50, nI_clamp (by omega)]
    by_cases ha : ac t = 0
    · refine xa_oT ht (br_t rfl ⟨it, br_t ha (xa_cp (f := 25) (g := 5 * t) (by omega) (by omega) (xa_cp (f := 25) (g := 5 * t + 4) (by omega) (by omega) ⟨it, nm_r (e' := upd ac t 1) rfl ⟨it, nm_r (e' := upd st t (lw_bz v2)) ?_ ⟨it, nm_e ⟨it, nm_e ⟨it, nm_e ?_⟩⟩⟩⟩⟩))⟩)
      · rw [vh_nb (lw_bz_01 v2)]
      · exact ya_bg ht ha n0 n1 n3 (lw_bz_01 v2) (vh_mk ⟨⟨n0, vh_fn (vh_fn n1 (fun k _ => n0 k)) (fun k _ => n0 k), vh_fn (vh_fn n3 (fun _ _ => Or.inl rfl)) (fun _ _ => Or.inl rfl)⟩, vh_Fb F C H ht, vh_Cb C ht, vh_Hb H ht, vh_Db D ht, vh_Su (s := 0) S (by omega), vh_Tup (vh_Tb T ht) (by omega)⟩)
    · refine xa_oT ht (br_t rfl ⟨it, br_f ha (br_f (nI_pos (by omega)) (br_t (nI_le (b := 4) (by omega) (by decide)) ⟨it, br_f ?_ (vh_sm G0)⟩))⟩)
      rw [nI_clamp (by omega)]; exact ha
/-- a change of key x in the view, with the relation kept -/
theorem vh_Gp (G : vh_G n pk hk va ac st sv rk lk cm th vy lc bg hr ct cv ch) {t x : Nat} (ht : t < 5) (hx : x < 8) (b : Bool) (val : Int32) : vh_G (n + 4) (upd pk (5 * t + 4) (vh_set (pk (5 * t + 4)) x b)) (upd hk (5 * t + 4) (hk (5 * t + 4) ||| ((1 : Int32) <<< (nI x &&& 31)))) (upd va (8 * (5 * t + 4) + x) val) ac st sv rk lk cm th vy lc bg hr (upd ct (8 * (5 * t) + x) (vh_b b)) (upd cv (8 * (5 * t) + x) val) (upd ch (8 * (5 * t) + x) 1) := by
  obtain ⟨⟨n0, n1, n3⟩, F, C, H, D, S, T⟩ := G
  exact ⟨⟨n0, vh_nu n1 (vh_b01 b), vh_nu n3 (Or.inr rfl)⟩, vh_Fp F hx ht, vh_Cu C (by omega) (by omega), vh_Hu H (by omega) (vh_or8 (H.2 _) hx), D, S, vh_Tup T (by omega)⟩
theorem xa_54 {post : Int32 → SX → Prop} {t k : Nat} {z val : Int32} (ht : t < 5) (h8 : k < 8) (h : post z (upd pk (5 * t + 4) (vh_set (pk (5 * t + 4)) k true), upd hk (5 * t + 4) (hk (5 * t + 4) ||| ((1 : Int32) <<< (nI k &&& 31))), upd va (8 * (5 * t + 4) + k) val, ac, st, sv, rk, lk)) : wX_put_54 post (nI k) val (nI (5 * t + 4)) z pk hk va ac st sv rk lk := by
  have iv := vp_in_nI (n := 5 * t + 4) (N := 26) (by omega) (by decide)
  refine ⟨iv, iv, nm_r (e' := upd hk (5 * t + 4) (hk (5 * t + 4) ||| ((1 : Int32) <<< (nI k &&& 31)))) ?_ (xa_set (by omega) h8 true val h)⟩
  rw [nI_clamp (by omega)]
theorem vc_put (G : vh_G n pk hk va ac st sv rk lk cm th vy lc bg hr ct cv ch) (hn : n + 4 ≤ 2048) (v1 v2 v3 : Int32) : wpX_put (fun r u' => wpY_put (fun r' v' => r' = r ∧ i_Rel (n + 4) u' v') (cm, th, vy, lc, bg, ac, st, hr, sv, ct, cv, ch) v1 v2 v3) (pk, hk, va, ac, st, sv, rk, lk) v1 v2 v3 := by
  have G0 := G
  obtain ⟨⟨n0, n1, n3⟩, F, C, H, D, S, T⟩ := G
  unfold wpX_put wpY_put
  dsimp only
  rcases pk_ix v1 (n := 5) (by decide) with hx | hx | ⟨t, ht, rfl⟩
  · exact xa_kb (Or.inl hx) (br_f (by decide) (br_f (by decide) (ya_rb (Or.inl hx) (br_f (by decide) (vh_sm G0)))))
  · exact xa_kb (Or.inr hx) (br_f (by decide) (br_f (by decide) (ya_rb (Or.inr hx) (br_f (by decide) (vh_sm G0)))))
  by_cases ha : ac t = 0
  · exact xa_ki ht ha (br_f (by decide) (br_f (by decide) (ya_ri ht ha (br_f (by decide) (vh_sm G0)))))
  rcases pk_ix v2 (n := 8) (by decide) with hx | hx | ⟨k, h8, rfl⟩
  · exact xa_kk ht ha (Or.inl hx) (br_f (by decide) (br_f (by decide) (ya_rk ht ha (Or.inl hx) (br_f (by decide) (vh_sm G0)))))
  · exact xa_kk ht ha (Or.inr hx) (br_f (by decide) (br_f (by decide) (ya_rk ht ha (Or.inr hx) (br_f (by decide) (vh_sm G0)))))
  obtain ⟨c, L, B, t1, t2, t3, t4, t5⟩ := T
  have hC : ∀ o, o < 5 → ch (8 * (5 * o) + k) = vh_b (bt (hk (5 * o + 4)) k) := fun o ho => (vh_Fv F ho h8).2.1
  have hl := t5 t ht ha k h8
  have q3 := t3 k h8
  have q4 := t4 t ht
  have hv := (vh_Fv F ht h8).1
  refine xa_ko ht ha h8 (br_t rfl (xa_chg ht h8 (fun e => br_f (by decide) ?_) (fun e l => br_f (by decide) ?_) (fun e l => br_t rfl (xa_vw ⟨vp_in_nI (by omega) (by decide), xa_has h8 _ ?_⟩))))
  · exact ya_ro ht ha h8 (br_t (by decide) (ya_chg (b := true) ht h8 hC hv q3.1 q4.1 (by omega) (by omega) (fun _ => vh_sm G0) (fun z _ => absurd e z) (fun z _ => absurd e z)))
  · exact ya_ro ht ha h8 (br_t (by decide) (ya_chg (b := true) ht h8 hC hv q3.1 q4.1 (by omega) (by omega) (fun z => absurd z e) (fun _ _ => vh_sm G0) (fun _ z => absurd (l.symm.trans (hl.trans z)) (by decide))))
  · rw [nI_clamp (by omega)]
    cases hb : bt (pk (5 * t + 4)) k
    · rw [hb] at hv
      exact br_t rfl (xa_54 ht h8 (ya_ro ht ha h8 (br_t (by decide) (ya_chg (b := true) (p := false) ht h8 hC hv q3.1 q4.1 (by omega) (by omega) (fun z => absurd z e) (fun _ z => absurd (l.symm.trans (hl.trans z)) (by decide)) (fun _ _ => vh_mk (vh_Gp G0 ht h8 true v3))))))
    · rw [hb] at hv
      exact br_f (by decide) (xa_54 ht h8 (ya_ro ht ha h8 (br_t (by decide) (ya_chg (b := true) (p := true) ht h8 hC hv q3.1 q4.1 (by omega) (by omega) (fun z => absurd z e) (fun _ z => absurd (l.symm.trans (hl.trans z)) (by decide)) (fun _ _ => vh_mk (vh_Gp G0 ht h8 true v3))))))
theorem vc_remove (G : vh_G n pk hk va ac st sv rk lk cm th vy lc bg hr ct cv ch) (hn : n + 4 ≤ 2048) (v1 v2 : Int32) : wpX_remove (fun r u' => wpY_remove (fun r' v' => r' = r ∧ i_Rel (n + 4) u' v') (cm, th, vy, lc, bg, ac, st, hr, sv, ct, cv, ch) v1 v2) (pk, hk, va, ac, st, sv, rk, lk) v1 v2 := by
  have G0 := G
  obtain ⟨⟨n0, n1, n3⟩, F, C, H, D, S, T⟩ := G
  unfold wpX_remove wpY_remove
  dsimp only
  rcases pk_ix v1 (n := 5) (by decide) with hx | hx | ⟨t, ht, rfl⟩
  · exact xa_kb (Or.inl hx) (br_f (by decide) (ya_rb (Or.inl hx) (br_f (by decide) (vh_sm G0))))
  · exact xa_kb (Or.inr hx) (br_f (by decide) (ya_rb (Or.inr hx) (br_f (by decide) (vh_sm G0))))
  by_cases ha : ac t = 0
  · exact xa_ki ht ha (br_f (by decide) (ya_ri ht ha (br_f (by decide) (vh_sm G0))))
  rcases pk_ix v2 (n := 8) (by decide) with hx | hx | ⟨k, h8, rfl⟩
  · exact xa_kk ht ha (Or.inl hx) (br_f (by decide) (ya_rk ht ha (Or.inl hx) (br_f (by decide) (vh_sm G0))))
  · exact xa_kk ht ha (Or.inr hx) (br_f (by decide) (ya_rk ht ha (Or.inr hx) (br_f (by decide) (vh_sm G0))))
  obtain ⟨c, L, B, t1, t2, t3, t4, t5⟩ := T
  have hC : ∀ o, o < 5 → ch (8 * (5 * o) + k) = vh_b (bt (hk (5 * o + 4)) k) := fun o ho => (vh_Fv F ho h8).2.1
  have hl := t5 t ht ha k h8
  have q3 := t3 k h8
  have q4 := t4 t ht
  have hv := (vh_Fv F ht h8).1
  have iv := vp_in_nI (n := 5 * t + 4) (N := 26) (by omega) (by decide)
  have i1 := pk_in (8 * (5 * t) + k) 200 (by omega) (vh_40 t k)
  have c1 := vh_c40 (t := t) (i := k) (by omega)
  refine xa_ko ht ha h8 (br_t rfl (xa_vw ⟨iv, xa_has h8 _ ?_⟩))
  rw [nI_clamp (by omega)]
  cases hb : bt (pk (5 * t + 4)) k
  · rw [hb] at hv
    refine br_t rfl (ya_ro ht ha h8 (br_t (by decide) ⟨i1, br_t ?_ (vh_sm G0)⟩))
    rw [c1, hv]; rfl
  · rw [hb] at hv
    have hc : ¬ ct (nI t * 40 + nI k).toNatClampNeg = 0 := by rw [c1, hv]; decide
    refine br_f (by decide) (xa_chg ht h8 (fun e => br_f (by decide) ?_) (fun e l => br_f (by decide) ?_) (fun e l => br_t rfl ⟨iv, iv, nm_r (e' := upd hk (5 * t + 4) (hk (5 * t + 4) ||| ((1 : Int32) <<< (nI k &&& 31)))) rfl (xa_set (by omega) h8 false 0 ?_)⟩))
    · exact ya_ro ht ha h8 (br_t (by decide) ⟨i1, br_f hc (ya_chg (b := false) ht h8 hC hv q3.1 q4.1 (by omega) (by omega) (fun _ => br_f (by decide) (vh_sm G0)) (fun z _ => absurd e z) (fun z _ => absurd e z))⟩)
    · exact ya_ro ht ha h8 (br_t (by decide) ⟨i1, br_f hc (ya_chg (b := false) ht h8 hC hv q3.1 q4.1 (by omega) (by omega) (fun z => absurd z e) (fun _ _ => br_f (by decide) (vh_sm G0)) (fun _ z => absurd (l.symm.trans (hl.trans z)) (by decide)))⟩)
    · exact ya_ro ht ha h8 (br_t (by decide) ⟨i1, br_f hc (ya_chg (b := false) ht h8 hC hv q3.1 q4.1 (by omega) (by omega) (fun z => absurd z e) (fun _ z => absurd (l.symm.trans (hl.trans z)) (by decide)) (fun _ _ => br_t (by decide) (vh_mk (vh_Gp G0 ht h8 false 0))))⟩)
theorem vc_get (G : vh_G n pk hk va ac st sv rk lk cm th vy lc bg hr ct cv ch) (v1 v2 : Int32) : wpX_get (fun r u' => wpY_get (fun r' v' => r' = r ∧ i_Rel (n + 4) u' v') (cm, th, vy, lc, bg, ac, st, hr, sv, ct, cv, ch) v1 v2) (pk, hk, va, ac, st, sv, rk, lk) v1 v2 := by
  have G0 := G
  obtain ⟨⟨n0, n1, n3⟩, F, C, H, D, S, T⟩ := G
  unfold wpX_get wpY_get
  dsimp only
  rcases pk_ix v1 (n := 5) (by decide) with hx | hx | ⟨t, ht, rfl⟩
  · exact xa_kb (Or.inl hx) (br_f (by decide) (ya_rb (Or.inl hx) (br_f (by decide) (vh_sm G0))))
  · exact xa_kb (Or.inr hx) (br_f (by decide) (ya_rb (Or.inr hx) (br_f (by decide) (vh_sm G0))))
  by_cases ha : ac t = 0
  · exact xa_ki ht ha (br_f (by decide) (ya_ri ht ha (br_f (by decide) (vh_sm G0))))
  rcases pk_ix v2 (n := 8) (by decide) with hx | hx | ⟨k, h8, rfl⟩
  · exact xa_kk ht ha (Or.inl hx) (br_f (by decide) (ya_rk ht ha (Or.inl hx) (br_f (by decide) (vh_sm G0))))
  · exact xa_kk ht ha (Or.inr hx) (br_f (by decide) (ya_rk ht ha (Or.inr hx) (br_f (by decide) (vh_sm G0))))
  obtain ⟨hv, _, hw⟩ := vh_Fv F ht h8
  have iv := vp_in_nI (n := 5 * t + 4) (N := 26) (by omega) (by decide)
  have it := vp_in_nI (n := t) (N := 5) ht (by decide)
  have i1 := pk_in (8 * (5 * t) + k) 200 (by omega) (vh_40 t k)
  have i2 := pk_in (8 * t + k) 40 (by omega) (vh_8 t k)
  have i3 := pk_in (8 * (5 * t + 4) + k) 208 (by omega) (vh_8 (5 * t + 4) k)
  have G1 : vh_G (n + 4) pk hk va ac st sv (upd rk t (rk t ||| ((1 : Int32) <<< (nI k &&& 31)))) lk cm th vy lc bg (upd hr (8 * t + k) 1) ct cv ch := ⟨⟨n0, n1, n3⟩, F, C, H, vh_Dg D h8, S, vh_Tup T (by omega)⟩
  refine xa_ko ht ha h8 (br_t rfl ⟨it, it, nm_r (e' := upd rk t (rk t ||| ((1 : Int32) <<< (nI k &&& 31)))) ?_ (xa_vw ⟨iv, xa_has h8 _ ?_⟩)⟩)
  · rw [nI_clamp (by omega)]
  · rw [nI_clamp (by omega)]
    cases hb : bt (pk (5 * t + 4)) k
    · rw [hb] at hv
      refine br_t rfl (ya_ro ht ha h8 (br_t (by decide) ⟨i2, nm_r (e' := upd hr (8 * t + k) 1) ?_ ⟨i1, br_t ?_ (vh_mk G1)⟩⟩))
      · rw [vh_c8 (by omega)]; rfl
      · rw [vh_c40 (by omega), hv]; rfl
    · rw [hb] at hv
      refine br_f (by decide) ⟨i3, ?_⟩
      rw [vh_c8 (g := 5 * t + 4) (i := k) (by omega)]
      refine ya_ro ht ha h8 (br_t (by decide) ⟨i2, nm_r (e' := upd hr (8 * t + k) 1) ?_ ⟨i1, br_f ?_ ⟨i1, ?_⟩⟩⟩)
      · rw [vh_c8 (by omega)]; rfl
      · rw [vh_c40 (by omega), hv]; decide
      · rw [vh_c40 (by omega), hw]; exact vh_mk G1
end
end
section
/-! the methods, side by side: savepoints, ends, questions -/
section
variable {n : Nat} {pk hk va ac st sv rk lk : Nat → Int32} {cm : Int32} {th vy lc bg hr ct cv ch : Nat → Int32}
theorem vh_s13 {s : Nat} (h0 : 0 < s) (h3 : s ≤ 3) : vh_s s = s := by
  unfold vh_s
  rw [if_neg (by omega), if_neg (by omega)]
/-- a copy of frame i over frame j of one transaction, with the relation kept -/
theorem vh_Gc (G : vh_G n pk hk va ac st sv rk lk cm th vy lc bg hr ct cv ch) {sv' : Nat → Int32} {t i j : Nat} (ht : t < 5) (hi : i < 5) (hj : j < 5) (S' : vh_S sv') : vh_G (n + 4) (upd pk (5 * t + j) (pk (5 * t + i))) (upd hk (5 * t + j) (hk (5 * t + i))) (vh_f va (5 * t + j) (fun k => va (8 * (5 * t + i) + k)) 0) ac st sv' rk lk cm th vy lc bg hr (vh_f ct (5 * t + vh_s j) (fun k => ct (8 * (5 * t + vh_s i) + k)) 0) (vh_f cv (5 * t + vh_s j) (fun k => cv (8 * (5 * t + vh_s i) + k)) 0) (vh_f ch (5 * t + vh_s j) (fun k => ch (8 * (5 * t + vh_s i) + k)) 0) := by
  obtain ⟨⟨n0, n1, n3⟩, F, C, H, D, S, T⟩ := G
  exact ⟨⟨n0, vh_fn n1 (fun k _ => n1 _), vh_fn n3 (fun k _ => n3 _)⟩, vh_Fc F ht hi hj, vh_Cc C (by omega), vh_Hu H (by omega) (H.2 _), D, S', vh_Tup T (by omega)⟩
theorem vc_save (G : vh_G n pk hk va ac st sv rk lk cm th vy lc bg hr ct cv ch) (v1 : Int32) : wpX_save (fun r u' => wpY_save (fun r' v' => r' = r ∧ i_Rel (n + 4) u' v') (cm, th, vy, lc, bg, ac, st, hr, sv, ct, cv, ch) v1) (pk, hk, va, ac, st, sv, rk, lk) v1 := by
  have G0 := G
  obtain ⟨⟨n0, n1, n3⟩, F, C, H, D, S, T⟩ := G
  unfold wpX_save wpY_save
  dsimp only
  rcases pk_ix v1 (n := 5) (by decide) with hx | hx | ⟨t, ht, rfl⟩
  · exact xa_rb (Or.inl hx) (br_f (by decide) (ya_rb (Or.inl hx) (br_f (by decide) (vh_sm G0))))
  · exact xa_rb (Or.inr hx) (br_f (by decide) (ya_rb (Or.inr hx) (br_f (by decide) (vh_sm G0))))
  by_cases ha : ac t = 0
  · exact xa_ri ht ha (br_f (by decide) (ya_ri ht ha (br_f (by decide) (vh_sm G0))))
  obtain ⟨s, hs, es⟩ := S t
  have it := vp_in_nI (n := t) (N := 5) ht (by decide)
  rw [nI_clamp (by omega), es]
  by_cases e3 : s = 3
  · subst e3
    exact xa_ro ht ha (br_t rfl ⟨it, br_f (by decide) (ya_ro (k := 0) ht ha (by omega) (br_t (by decide) ⟨it, br_t rfl (vh_sm G0)⟩))⟩)
  · refine xa_ro ht ha (br_t rfl ⟨it, br_t (nI_lt (b := 3) (by omega) (by decide)) ⟨it, it, nm_r (e' := upd sv t (nI (s + 1))) ?_ (xa_vw ⟨it, ?_⟩)⟩⟩)
    · rw [nI_1]
    · rw [pk_us, vh_5]
      refine xa_cp (by omega) (by omega) ⟨it, ?_⟩
      dsimp only
      rw [pk_us]
      refine ya_ro (k := 0) ht ha (by omega) (br_t (by decide) ⟨it, br_f ?_ ⟨it, it, nm_r (e' := upd sv t (nI (s + 1))) ?_ ⟨it, ?_⟩⟩⟩)
      · exact fun z => e3 ((nI_eq (b := 3) (by omega) (by decide)).mp z)
      · rw [nI_1]
      · rw [pk_us]
        refine ya_cp (f := 0) (g := s + 1) ht (by omega) (by omega) n1 n3 (fun k _ => ⟨rfl, rfl, rfl⟩) ⟨it, ?_⟩
        dsimp only
        rw [pk_us]
        have G1 := vh_Gc G0 (i := 4) (j := s + 1) ht (by omega) (by omega) (vh_Su (t := t) (s := s + 1) S (by omega))
        rw [vh_s13 (by omega) (by omega)] at G1
        exact vh_mk G1
theorem vc_undo (G : vh_G n pk hk va ac st sv rk lk cm th vy lc bg hr ct cv ch) (v1 : Int32) : wpX_undo (fun r u' => wpY_undo (fun r' v' => r' = r ∧ i_Rel (n + 4) u' v') (cm, th, vy, lc, bg, ac, st, hr, sv, ct, cv, ch) v1) (pk, hk, va, ac, st, sv, rk, lk) v1 := by
  have G0 := G
  obtain ⟨⟨n0, n1, n3⟩, F, C, H, D, S, T⟩ := G
  unfold wpX_undo wpY_undo
  dsimp only
  rcases pk_ix v1 (n := 5) (by decide) with hx | hx | ⟨t, ht, rfl⟩
  · exact xa_rb (Or.inl hx) (br_f (by decide) (ya_rb (Or.inl hx) (br_f (by decide) (vh_sm G0))))
  · exact xa_rb (Or.inr hx) (br_f (by decide) (ya_rb (Or.inr hx) (br_f (by decide) (vh_sm G0))))
  by_cases ha : ac t = 0
  · exact xa_ri ht ha (br_f (by decide) (ya_ri ht ha (br_f (by decide) (vh_sm G0))))
  obtain ⟨s, hs, es⟩ := S t
  have it := vp_in_nI (n := t) (N := 5) ht (by decide)
  rw [nI_clamp (by omega), es, vh_5]
  by_cases e0 : s = 0
  · subst e0
    refine xa_ro ht ha (br_t rfl (xa_vw ⟨it, xa_cp (by omega) (by omega) ⟨it, ?_⟩⟩))
    dsimp only
    rw [es]
    exact br_t (by decide) ⟨it, ya_ro (k := 0) ht ha (by omega) (br_t (by decide) ⟨it, br_t rfl (ya_cp (f := 4) (g := 0) ht (by omega) (by omega) n1 n3 (fun k _ => ⟨rfl, rfl, rfl⟩) (vh_mk (vh_Gc G0 (i := 0) (j := 4) ht (by omega) (by omega) S)))⟩)⟩
  · refine xa_ro ht ha (br_t rfl (xa_vw ⟨it, xa_cp (by omega) (by omega) ⟨it, ?_⟩⟩))
    obtain ⟨m, rfl⟩ : ∃ m, s = m + 1 := ⟨s - 1, by omega⟩
    dsimp only
    rw [es]
    refine br_f (nI_nle (by omega) (by omega)) ⟨it, it, nm_r (e' := upd sv t (nI m)) ?_ ⟨it, ?_⟩⟩
    · rw [nI_pred]
    · rw [pk_us]
      refine ya_ro (k := 0) ht ha (by omega) (br_t (by decide) ⟨it, br_f (nI_ne0 (by omega) (by omega)) ⟨it, ya_cp (f := m + 1) (g := 0) ht (by omega) (by omega) n1 n3 (fun k _ => ⟨rfl, rfl, rfl⟩) ⟨it, it, nm_r (e' := upd sv t (nI m)) ?_ ⟨it, ?_⟩⟩⟩⟩)
      · dsimp only
        rw [es, nI_pred]
      · dsimp only
        rw [pk_us]
        have G1 := vh_Gc G0 (i := m + 1) (j := 4) ht (by omega) (by omega) (vh_Su (t := t) (s := m) S (by omega))
        rw [vh_s13 (s := m + 1) (by omega) (by omega)] at G1
        exact vh_mk G1
theorem vc_abort (G : vh_G n pk hk va ac st sv rk lk cm th vy lc bg hr ct cv ch) (v1 : Int32) : wpX_abort (fun r u' => wpY_abort (fun r' v' => r' = r ∧ i_Rel (n + 4) u' v') (cm, th, vy, lc, bg, ac, st, hr, sv, ct, cv, ch) v1) (pk, hk, va, ac, st, sv, rk, lk) v1 := by
  have G0 := G
  obtain ⟨⟨n0, n1, n3⟩, F, C, H, D, S, T⟩ := G
  unfold wpX_abort wpY_abort
  dsimp only
  rcases pk_ix v1 (n := 5) (by decide) with hx | hx | ⟨t, ht, rfl⟩
  · exact xa_rb (Or.inl hx) (br_f (by decide) (ya_rb (Or.inl hx) (br_f (by decide) (vh_sm G0))))
  · exact xa_rb (Or.inr hx) (br_f (by decide) (ya_rb (Or.inr hx) (br_f (by decide) (vh_sm G0))))
  by_cases ha : ac t = 0
  · exact xa_ri ht ha (br_f (by decide) (ya_ri ht ha (br_f (by decide) (vh_sm G0))))
  have it := vp_in_nI (n := t) (N := 5) ht (by decide)
  have hp : ∀ k, k < 8 → ch (8 * (5 * t) + k) = vh_b (bt (hk (5 * t + 4)) k) := fun k h8 => (vh_Fv F ht h8).2.1
  have GU : vh_G (n + 4) pk hk va (upd ac t 0) st sv rk lk cm th vy lc bg hr ct cv ch := ⟨⟨n0, n1, n3⟩, F, C, H, D, S, vh_Tup (vh_Ti T vh_off) (by omega)⟩
  refine xa_ro ht ha (br_t rfl ⟨it, nm_r (e' := upd ac t 0) ?_ (xa_vw ⟨vp_in_nI (by omega) (by decide), xa_cn ?_⟩)⟩)
  · rw [nI_clamp (by omega)]; rfl
  · rw [nI_clamp (n := 5 * t + 4) (by omega)]
    refine ya_ro (k := 0) ht ha (by omega) (br_t (by decide) (ya_hk ht ha hp ⟨it, nm_r (e' := upd ac t 0) ?_ (vh_mk GU)⟩))
    rw [nI_clamp (by omega)]; rfl
theorem vc_commit (G : vh_G n pk hk va ac st sv rk lk cm th vy lc bg hr ct cv ch) (hn : n + 4 ≤ 2048) (v1 : Int32) : wpX_commit (fun r u' => wpY_commit (fun r' v' => r' = r ∧ i_Rel (n + 4) u' v') (cm, th, vy, lc, bg, ac, st, hr, sv, ct, cv, ch) v1) (pk, hk, va, ac, st, sv, rk, lk) v1 := by
  have G0 := G
  obtain ⟨⟨n0, n1, n3⟩, F, C, H, D, S, T⟩ := G
  have early : v1 < 0 ∨ nI 5 ≤ v1 → wpX_commit (fun r u' => wpY_commit (fun r' v' => r' = r ∧ i_Rel (n + 4) u' v') (cm, th, vy, lc, bg, ac, st, hr, sv, ct, cv, ch) v1) (pk, hk, va, ac, st, sv, rk, lk) v1 := by
    intro hx
    unfold wpX_commit wpY_commit
    dsimp only
    exact xa_rb hx (br_f (by decide) (ya_rb hx (br_f (by decide) (vh_sm G0))))
  rcases pk_ix v1 (n := 5) (by decide) with hx | hx | ⟨t, ht, rfl⟩
  · exact early (Or.inl hx)
  · exact early (Or.inr hx)
  by_cases ha : ac t = 0
  · unfold wpX_commit wpY_commit
    dsimp only
    exact xa_ri ht ha (br_f (by decide) (ya_ri ht ha (br_f (by decide) (vh_sm G0))))
  have T0 := T
  obtain ⟨c, L, B, t1, t2, t3, t4, t5⟩ := T0
  have hp : ∀ k, k < 8 → ch (8 * (5 * t) + k) = vh_b (bt (hk (5 * t + 4)) k) := fun k h8 => (vh_Fv F ht h8).2.1
  have hl := t5 t ht ha
  have q4 := t4 t ht
  have eh : hk (5 * t + 4) = 0 ↔ vh_c (bt (hk (5 * t + 4))) 8 = 0 := (vh_m0 (H.2 _)).trans ⟨vh_cz _ 8, vh_c0 _ 8⟩
  have er : rk t &&& lk t = 0 ↔ ¬ ∃ k, k < 8 ∧ bt (rk t) k = true ∧ decide (B t < L k) = true := by
    refine (vh_m0 (fun i hi => by rw [b_and, D.2 t i hi, Bool.false_and])).trans ⟨fun h => ?_, fun h k h8 => ?_⟩
    · intro ⟨k, h8, y1, y2⟩
      have := h k h8
      rw [b_and, hl k h8, y1, y2] at this
      exact absurd this (by decide)
    · rw [b_and, hl k h8]
      cases y1 : bt (rk t) k
      · rfl
      · cases y2 : decide (B t < L k)
        · rfl
        · exact absurd ⟨k, h8, y1, y2⟩ h
  have GU : vh_G (n + 4) pk hk va (upd ac t 0) st sv rk lk cm th vy lc bg hr ct cv ch := ⟨⟨n0, n1, n3⟩, F, C, H, D, S, vh_Tup (vh_Ti T vh_off) (by omega)⟩
  refine xa_cm ht ha (fun a b r => ?_) (fun o pk' va' P => ?_)
  · refine ya_cm ht ha n0 n1 hp (D.1 t ht) (fun k h8 => (t3 k h8).1) q4.1 (fun k h8 => by have := (t3 k h8).2; omega) (by omega) (fun _ _ _ => vh_mk GU) (fun z => absurd ⟨a, fun y => b (eh.mpr y), ?_⟩ z)
    exact Classical.byContradiction (fun y => r (er.mpr y))
  · exact ya_cm ht ha n0 n1 hp (D.1 t ht) (fun k h8 => (t3 k h8).1) q4.1 (fun k h8 => by have := (t3 k h8).2; omega) (by omega) (fun a b x => absurd ⟨a, fun y => b (eh.mp y), fun y => er.mp y x⟩ o) (fun _ th' vy' lc' n' q => vh_mk ⟨⟨n', n1, n3⟩, vh_Fk F P, vh_Ck ht F C P q, H, D, S, vh_Tc T q⟩)
theorem vc_crash (G : vh_G n pk hk va ac st sv rk lk cm th vy lc bg hr ct cv ch) : wpX_crash (fun r u' => wpY_crash (fun r' v' => r' = r ∧ i_Rel (n + 4) u' v') (cm, th, vy, lc, bg, ac, st, hr, sv, ct, cv, ch)) (pk, hk, va, ac, st, sv, rk, lk) := by
  obtain ⟨⟨n0, n1, n3⟩, F, C, H, D, S, T⟩ := G
  exact ⟨6, xa_crL (a0 := ac) 5 0 ac rfl (fun _ _ => rfl) ⟨6, ya_crL (a0 := ac) 5 0 ac rfl (fun _ _ => rfl) (vh_mk ⟨⟨n0, n1, n3⟩, F, C, H, D, S, vh_Tup (vh_Ti T (fun s hs z => absurd (vh_za hs) z)) (by omega)⟩)⟩⟩
theorem vc_size (G : vh_G n pk hk va ac st sv rk lk cm th vy lc bg hr ct cv ch) (v1 : Int32) : wpX_size (fun r => wpY_size (fun r' => r' = r ∧ i_Rel (n + 4) (pk, hk, va, ac, st, sv, rk, lk) (cm, th, vy, lc, bg, ac, st, hr, sv, ct, cv, ch)) (cm, th, vy, lc, bg, ac, st, hr, sv, ct, cv, ch) v1) (pk, hk, va, ac, st, sv, rk, lk) v1 := by
  have G0 := G
  obtain ⟨⟨n0, n1, n3⟩, F, C, H, D, S, T⟩ := G
  unfold wpX_size wpY_size
  dsimp only
  rcases pk_ix v1 (n := 5) (by decide) with hx | hx | ⟨t, ht, rfl⟩
  · exact xa_rb (Or.inl hx) (br_f (by decide) (ya_rb (Or.inl hx) (br_f (by decide) (vh_sm G0))))
  · exact xa_rb (Or.inr hx) (br_f (by decide) (ya_rb (Or.inr hx) (br_f (by decide) (vh_sm G0))))
  by_cases ha : ac t = 0
  · exact xa_ri ht ha (br_f (by decide) (ya_ri ht ha (br_f (by decide) (vh_sm G0))))
  have hp : ∀ k, k < 8 → ct (8 * (5 * t) + k) = vh_b (bt (pk (5 * t + 4)) k) := fun k h8 => (vh_Fv F ht h8).1
  refine xa_ro ht ha (br_t rfl (xa_vw ⟨vp_in_nI (by omega) (by decide), xa_cn ?_⟩))
  rw [nI_clamp (by omega)]
  exact ya_ro (k := 0) ht ha (by omega) (br_t (by decide) ⟨9, ya_szL ht hp (vh_sm G0) 8 0 rfl⟩)
theorem vc_find (G : vh_G n pk hk va ac st sv rk lk cm th vy lc bg hr ct cv ch) (v1 v2 : Int32) : wpX_find (fun r => wpY_find (fun r' => r' = r ∧ i_Rel (n + 4) (pk, hk, va, ac, st, sv, rk, lk) (cm, th, vy, lc, bg, ac, st, hr, sv, ct, cv, ch)) (cm, th, vy, lc, bg, ac, st, hr, sv, ct, cv, ch) v1 v2) (pk, hk, va, ac, st, sv, rk, lk) v1 v2 := by
  have G0 := G
  obtain ⟨⟨n0, n1, n3⟩, F, C, H, D, S, T⟩ := G
  unfold wpX_find wpY_find
  dsimp only
  rcases pk_ix v1 (n := 5) (by decide) with hx | hx | ⟨t, ht, rfl⟩
  · exact xa_rb (Or.inl hx) (br_f (by decide) (ya_rb (Or.inl hx) (br_f (by decide) (vh_sm G0))))
  · exact xa_rb (Or.inr hx) (br_f (by decide) (ya_rb (Or.inr hx) (br_f (by decide) (vh_sm G0))))
  by_cases ha : ac t = 0
  · exact xa_ri ht ha (br_f (by decide) (ya_ri ht ha (br_f (by decide) (vh_sm G0))))
  obtain ⟨r, hX, hY⟩ := vh_fd (pk := pk) (hk := hk) (va := va) (ac := ac) (st := st) (sv := sv) (rk := rk) (lk := lk) (cm := cm) (th := th) (vy := vy) (lc := lc) (bg := bg) (ay := ac) (sy := st) (hr := hr) (ss := sv) (ct := ct) (cv := cv) (ch := ch) (val := v2) ht (fun k h8 => ⟨(vh_Fv F ht h8).1, (vh_Fv F ht h8).2.2⟩) 8 0 rfl
  exact xa_ro ht ha (br_t rfl (xa_vw ⟨9, hX _ (ya_ro (k := 0) ht ha (by omega) (br_t (by decide) ⟨9, hY _ (vh_sm G0)⟩))⟩))
theorem vc_committed (G : vh_G n pk hk va ac st sv rk lk cm th vy lc bg hr ct cv ch) (v1 : Int32) : wpX_committed (fun r => wpY_committed (fun r' => r' = r ∧ i_Rel (n + 4) (pk, hk, va, ac, st, sv, rk, lk) (cm, th, vy, lc, bg, ac, st, hr, sv, ct, cv, ch)) (cm, th, vy, lc, bg, ac, st, hr, sv, ct, cv, ch) v1) (pk, hk, va, ac, st, sv, rk, lk) v1 := by
  have G0 := G
  obtain ⟨⟨n0, n1, n3⟩, F, C, H, D, S, T⟩ := G
  unfold wpX_committed
  dsimp only
  rcases pk_ix v1 (n := 8) (by decide) with hx | hx | ⟨k, h8, rfl⟩
  · exact xa_bK (Or.inl hx) (br_f (by decide) (br_t hx (vh_sm G0)))
  · exact xa_bK (Or.inr hx) (br_f (by decide) (br_f (xa_nl8 hx) (br_t hx (vh_sm G0))))
  obtain ⟨c1, c2⟩ := C k h8
  have n8 : ¬ (8 : Int32) ≤ nI k := nI_ge (b := 8) h8 (by decide)
  have i8 := vp_in_nI (n := k) (N := 8) h8 (by decide)
  refine xa_oK h8 (br_t rfl (xa_has h8 _ ?_))
  cases hb : bt (pk 25) k
  · rw [hb] at c1
    refine br_t rfl (br_f (nI_pos (by omega)) (br_f n8 ⟨i8, br_t ?_ (vh_sm G0)⟩))
    rw [nI_clamp (by omega), c1]; rfl
  · rw [hb] at c1
    refine br_f (by decide) ⟨pk_in (200 + k) 208 (by omega) (vh_200 k), br_f (nI_pos (by omega)) (br_f n8 ⟨i8, br_f ?_ ⟨i8, ?_⟩⟩)⟩
    · rw [nI_clamp (by omega), c1]; decide
    · rw [vh_200, nI_clamp (by omega), nI_clamp (by omega), c2]
      exact vh_sm G0
theorem vc_committedSize (G : vh_G n pk hk va ac st sv rk lk cm th vy lc bg hr ct cv ch) : wpX_committedSize (fun r => wpY_committedSize (fun r' => r' = r ∧ i_Rel (n + 4) (pk, hk, va, ac, st, sv, rk, lk) (cm, th, vy, lc, bg, ac, st, hr, sv, ct, cv, ch)) (cm, th, vy, lc, bg, ac, st, hr, sv, ct, cv, ch)) (pk, hk, va, ac, st, sv, rk, lk) := by
  have G0 := G
  obtain ⟨⟨n0, n1, n3⟩, F, C, H, D, S, T⟩ := G
  unfold wpX_committedSize
  dsimp only
  exact xa_cn ⟨9, ya_csL (fun k h8 => (C k h8).1) (vh_sm G0) 8 0 rfl⟩
end
end
section
/-! what is owed -/
theorem i_vc_begin {k : Nat} {u : SX} {v : SY} (I : i_Rel k u v) (hk : k + 4 ≤ 2048) (v1 : Int32) (v2 : Int32) : wpX_begin (fun r u' => wpY_begin (fun r' v' => r' = r ∧ i_Rel (k + 4) u' v') v v1 (lw_bz v2)) u v1 (lw_bz v2) := by
  obtain ⟨pk, hd, va, ac, st, sv, rk, lk⟩ := u
  obtain ⟨cm, th, vy, lc, bg, ay, sy, hr, ss, ct, cv, ch⟩ := v
  obtain ⟨⟨e1, e2, e3⟩, G⟩ := I
  subst e1 e2 e3
  exact vc_begin G v1 v2
theorem i_vc_put {k : Nat} {u : SX} {v : SY} (I : i_Rel k u v) (hk : k + 4 ≤ 2048) (v1 : Int32) (v2 : Int32) (v3 : Int32) : wpX_put (fun r u' => wpY_put (fun r' v' => r' = r ∧ i_Rel (k + 4) u' v') v v1 v2 v3) u v1 v2 v3 := by
  obtain ⟨pk, hd, va, ac, st, sv, rk, lk⟩ := u
  obtain ⟨cm, th, vy, lc, bg, ay, sy, hr, ss, ct, cv, ch⟩ := v
  obtain ⟨⟨e1, e2, e3⟩, G⟩ := I
  subst e1 e2 e3
  exact vc_put G hk v1 v2 v3
theorem i_vc_remove {k : Nat} {u : SX} {v : SY} (I : i_Rel k u v) (hk : k + 4 ≤ 2048) (v1 : Int32) (v2 : Int32) : wpX_remove (fun r u' => wpY_remove (fun r' v' => r' = r ∧ i_Rel (k + 4) u' v') v v1 v2) u v1 v2 := by
  obtain ⟨pk, hd, va, ac, st, sv, rk, lk⟩ := u
  obtain ⟨cm, th, vy, lc, bg, ay, sy, hr, ss, ct, cv, ch⟩ := v
  obtain ⟨⟨e1, e2, e3⟩, G⟩ := I
  subst e1 e2 e3
  exact vc_remove G hk v1 v2
theorem i_vc_get {k : Nat} {u : SX} {v : SY} (I : i_Rel k u v) (hk : k + 4 ≤ 2048) (v1 : Int32) (v2 : Int32) : wpX_get (fun r u' => wpY_get (fun r' v' => r' = r ∧ i_Rel (k + 4) u' v') v v1 v2) u v1 v2 := by
  obtain ⟨pk, hd, va, ac, st, sv, rk, lk⟩ := u
  obtain ⟨cm, th, vy, lc, bg, ay, sy, hr, ss, ct, cv, ch⟩ := v
  obtain ⟨⟨e1, e2, e3⟩, G⟩ := I
  subst e1 e2 e3
  exact vc_get G v1 v2
theorem i_vc_save {k : Nat} {u : SX} {v : SY} (I : i_Rel k u v) (hk : k + 4 ≤ 2048) (v1 : Int32) : wpX_save (fun r u' => wpY_save (fun r' v' => r' = r ∧ i_Rel (k + 4) u' v') v v1) u v1 := by
  obtain ⟨pk, hd, va, ac, st, sv, rk, lk⟩ := u
  obtain ⟨cm, th, vy, lc, bg, ay, sy, hr, ss, ct, cv, ch⟩ := v
  obtain ⟨⟨e1, e2, e3⟩, G⟩ := I
  subst e1 e2 e3
  exact vc_save G v1
theorem i_vc_undo {k : Nat} {u : SX} {v : SY} (I : i_Rel k u v) (hk : k + 4 ≤ 2048) (v1 : Int32) : wpX_undo (fun r u' => wpY_undo (fun r' v' => r' = r ∧ i_Rel (k + 4) u' v') v v1) u v1 := by
  obtain ⟨pk, hd, va, ac, st, sv, rk, lk⟩ := u
  obtain ⟨cm, th, vy, lc, bg, ay, sy, hr, ss, ct, cv, ch⟩ := v
  obtain ⟨⟨e1, e2, e3⟩, G⟩ := I
  subst e1 e2 e3
  exact vc_undo G v1
theorem i_vc_commit {k : Nat} {u : SX} {v : SY} (I : i_Rel k u v) (hk : k + 4 ≤ 2048) (v1 : Int32) : wpX_commit (fun r u' => wpY_commit (fun r' v' => r' = r ∧ i_Rel (k + 4) u' v') v v1) u v1 := by
  obtain ⟨pk, hd, va, ac, st, sv, rk, lk⟩ := u
  obtain ⟨cm, th, vy, lc, bg, ay, sy, hr, ss, ct, cv, ch⟩ := v
  obtain ⟨⟨e1, e2, e3⟩, G⟩ := I
  subst e1 e2 e3
  exact vc_commit G hk v1
theorem i_vc_abort {k : Nat} {u : SX} {v : SY} (I : i_Rel k u v) (hk : k + 4 ≤ 2048) (v1 : Int32) : wpX_abort (fun r u' => wpY_abort (fun r' v' => r' = r ∧ i_Rel (k + 4) u' v') v v1) u v1 := by
  obtain ⟨pk, hd, va, ac, st, sv, rk, lk⟩ := u
  obtain ⟨cm, th, vy, lc, bg, ay, sy, hr, ss, ct, cv, ch⟩ := v
  obtain ⟨⟨e1, e2, e3⟩, G⟩ := I
  subst e1 e2 e3
  exact vc_abort G v1
theorem i_vc_crash {k : Nat} {u : SX} {v : SY} (I : i_Rel k u v) (hk : k + 4 ≤ 2048) : wpX_crash (fun r u' => wpY_crash (fun r' v' => r' = r ∧ i_Rel (k + 4) u' v') v) u := by
  obtain ⟨pk, hd, va, ac, st, sv, rk, lk⟩ := u
  obtain ⟨cm, th, vy, lc, bg, ay, sy, hr, ss, ct, cv, ch⟩ := v
  obtain ⟨⟨e1, e2, e3⟩, G⟩ := I
  subst e1 e2 e3
  exact vc_crash G
theorem i_vc_vacuum {k : Nat} {u : SX} {v : SY} (I : i_Rel k u v) (hk : k + 4 ≤ 2048) : wpX_vacuum (fun u' => wpY_vacuum (fun v' => i_Rel (k + 4) u' v') v) u := by
  obtain ⟨pk, hd, va, ac, st, sv, rk, lk⟩ := u
  obtain ⟨cm, th, vy, lc, bg, ay, sy, hr, ss, ct, cv, ch⟩ := v
  obtain ⟨⟨e1, e2, e3⟩, G⟩ := I
  subst e1 e2 e3
  exact (vh_sm (r := 0) G).2
theorem i_vc_size {k : Nat} {u : SX} {v : SY} (I : i_Rel k u v) (hk : k + 4 ≤ 2048) (v1 : Int32) : wpX_size (fun r => wpY_size (fun r' => r' = r ∧ i_Rel (k + 4) u v) v v1) u v1 := by
  obtain ⟨pk, hd, va, ac, st, sv, rk, lk⟩ := u
  obtain ⟨cm, th, vy, lc, bg, ay, sy, hr, ss, ct, cv, ch⟩ := v
  obtain ⟨⟨e1, e2, e3⟩, G⟩ := I
  subst e1 e2 e3
  exact vc_size G v1
theorem i_vc_find {k : Nat} {u : SX} {v : SY} (I : i_Rel k u v) (hk : k + 4 ≤ 2048) (v1 : Int32) (v2 : Int32) : wpX_find (fun r => wpY_find (fun r' => r' = r ∧ i_Rel (k + 4) u v) v v1 v2) u v1 v2 := by
  obtain ⟨pk, hd, va, ac, st, sv, rk, lk⟩ := u
  obtain ⟨cm, th, vy, lc, bg, ay, sy, hr, ss, ct, cv, ch⟩ := v
  obtain ⟨⟨e1, e2, e3⟩, G⟩ := I
  subst e1 e2 e3
  exact vc_find G v1 v2
theorem i_vc_committed {k : Nat} {u : SX} {v : SY} (I : i_Rel k u v) (hk : k + 4 ≤ 2048) (v1 : Int32) : wpX_committed (fun r => wpY_committed (fun r' => r' = r ∧ i_Rel (k + 4) u v) v v1) u v1 := by
  obtain ⟨pk, hd, va, ac, st, sv, rk, lk⟩ := u
  obtain ⟨cm, th, vy, lc, bg, ay, sy, hr, ss, ct, cv, ch⟩ := v
  obtain ⟨⟨e1, e2, e3⟩, G⟩ := I
  subst e1 e2 e3
  exact vc_committed G v1
theorem i_vc_committedSize {k : Nat} {u : SX} {v : SY} (I : i_Rel k u v) (hk : k + 4 ≤ 2048) : wpX_committedSize (fun r => wpY_committedSize (fun r' => r' = r ∧ i_Rel (k + 4) u v) v) u := by
  obtain ⟨pk, hd, va, ac, st, sv, rk, lk⟩ := u
  obtain ⟨cm, th, vy, lc, bg, ay, sy, hr, ss, ct, cv, ch⟩ := v
  obtain ⟨⟨e1, e2, e3⟩, G⟩ := I
  subst e1 e2 e3
  exact vc_committedSize G
end
