/-! the relation, and what keeps it -/
/-- where the reference keeps a transaction's frame j: view and snapshot are swapped -/
def vh_s (j : Nat) : Nat := if j = 0 then 4 else if j = 4 then 0 else j
theorem vh_s5 {j : Nat} (h : j < 5) : vh_s j < 5 := by
  unfold vh_s
  split
  · omega
  · split <;> omega
theorem vh_sn {t t' j j' : Nat} (h : j < 5) (h' : j' < 5) (hn : ¬ (t' = t ∧ j' = j)) : 5 * t' + vh_s j' ≠ 5 * t + vh_s j := by
  unfold vh_s
  by_cases a : j = 0
  · by_cases b : j' = 0
    · rw [if_pos a, if_pos b]; omega
    · rw [if_pos a, if_neg b]
      split <;> omega
  · by_cases b : j' = 0
    · rw [if_neg a, if_pos b]
      split <;> omega
    · rw [if_neg a, if_neg b]
      split <;> split <;> omega
/-- every frame of every transaction -/
def vh_F (pk hk va ct cv ch : Nat → Int32) : Prop := ∀ t, t < 5 → ∀ j, j < 5 → ∀ k, k < 8 → ct (8 * (5 * t + vh_s j) + k) = vh_b (bt (pk (5 * t + j)) k) ∧ ch (8 * (5 * t + vh_s j) + k) = vh_b (bt (hk (5 * t + j)) k) ∧ cv (8 * (5 * t + vh_s j) + k) = va (8 * (5 * t + j) + k)
/-- the committed table -/
def vh_C (pk va th vy : Nat → Int32) : Prop := ∀ k, k < 8 → th k = vh_b (bt (pk 25) k) ∧ vy k = va (200 + k)
/-- held keys are below 8, and the committed table holds none -/
def vh_H (hk : Nat → Int32) : Prop := hk 25 = 0 ∧ ∀ f i, 8 ≤ i → bt (hk f) i = false
/-- the keys read -/
def vh_D (rk hr : Nat → Int32) : Prop := (∀ t, t < 5 → ∀ k, k < 8 → hr (8 * t + k) = vh_b (bt (rk t) k)) ∧ ∀ t i, 8 ≤ i → bt (rk t) i = false
def vh_S (sv : Nat → Int32) : Prop := ∀ t, ∃ s, s ≤ 3 ∧ sv t = nI s
/-- the keys late for an active transaction: committed after it began -/
def vh_T (n : Nat) (cm : Int32) (lc bg ac lk : Nat → Int32) : Prop := ∃ (c : Nat) (L B : Nat → Nat), cm = nI c ∧ 4 * c ≤ n ∧ (∀ k, k < 8 → lc k = nI (L k) ∧ L k ≤ c) ∧ (∀ t, t < 5 → bg t = nI (B t) ∧ B t ≤ c) ∧ ∀ t, t < 5 → ¬ ac t = 0 → ∀ k, k < 8 → bt (lk t) k = decide (B t < L k)
def vh_R (n : Nat) (pk hk va ac st sv rk lk : Nat → Int32) (cm : Int32) (th vy lc bg ay sy hr ss ct cv ch : Nat → Int32) : Prop := (ay = ac ∧ sy = st ∧ ss = sv) ∧ (vh_n th ∧ vh_n ct ∧ vh_n ch) ∧ vh_F pk hk va ct cv ch ∧ vh_C pk va th vy ∧ vh_H hk ∧ vh_D rk hr ∧ vh_S sv ∧ vh_T n cm lc bg ac lk
/-- the relation at the head of a turn whose first cell is k -/
def i_Rel (k : Nat) (u : SX) (v : SY) : Prop := match u, v with
  | (pk, hk, va, ac, st, sv, rk, lk), (cm, th, vy, lc, bg, ay, sy, hr, ss, ct, cv, ch) => vh_R k pk hk va ac st sv rk lk cm th vy lc bg ay sy hr ss ct cv ch
theorem vh_Tup {n m : Nat} {cm : Int32} {lc bg ac lk : Nat → Int32} (h : vh_T n cm lc bg ac lk) (hm : n ≤ m) : vh_T m cm lc bg ac lk := by
  obtain ⟨c, L, B, h1, h2, h3⟩ := h
  exact ⟨c, L, B, h1, by omega, h3⟩
theorem vh_up {n m : Nat} {pk hk va ac st sv rk lk : Nat → Int32} {cm : Int32} {th vy lc bg ay sy hr ss ct cv ch : Nat → Int32} (h : vh_R n pk hk va ac st sv rk lk cm th vy lc bg ay sy hr ss ct cv ch) (hm : n ≤ m) : vh_R m pk hk va ac st sv rk lk cm th vy lc bg ay sy hr ss ct cv ch :=
  ⟨h.1, h.2.1, h.2.2.1, h.2.2.2.1, h.2.2.2.2.1, h.2.2.2.2.2.1, h.2.2.2.2.2.2.1, vh_Tup h.2.2.2.2.2.2.2 hm⟩
theorem i_up {k : Nat} {u : SX} {v : SY} (h : i_Rel k u v) : i_Rel (k + 4) u v := by
  obtain ⟨pk, hk, va, ac, st, sv, rk, lk⟩ := u
  obtain ⟨cm, th, vy, lc, bg, ay, sy, hr, ss, ct, cv, ch⟩ := v
  exact vh_up h (by omega)
theorem i_vc0 : wpX_init (fun u => wpY_init (fun v => i_Rel 0 u v)) := by
  refine ⟨⟨rfl, rfl, rfl⟩, ⟨fun _ => Or.inl rfl, fun _ => Or.inl rfl, fun _ => Or.inl rfl⟩, fun t _ j _ k _ => ⟨?_, ?_, rfl⟩, fun k _ => ⟨?_, rfl⟩, ⟨rfl, fun f i _ => b_0 i⟩, ⟨fun t _ k _ => ?_, fun t i _ => b_0 i⟩, fun t => ⟨0, by omega, rfl⟩, ⟨0, fun _ => 0, fun _ => 0, rfl, by omega, fun _ _ => ⟨rfl, Nat.le_refl 0⟩, fun _ _ => ⟨rfl, Nat.le_refl 0⟩, fun t _ ha => absurd rfl ha⟩⟩
  · show 0 = vh_b (bt 0 k); rw [b_0]; rfl
  · show 0 = vh_b (bt 0 k); rw [b_0]; rfl
  · show 0 = vh_b (bt 0 k); rw [b_0]; rfl
  · show 0 = vh_b (bt 0 k); rw [b_0]; rfl
section
variable {pk hk va ct cv ch pk' hk' va' ct' cv' ch' : Nat → Int32}
theorem vh_Fs (F : vh_F pk hk va ct cv ch) {t j : Nat} (hj : j < 5) (hX : ∀ f, f < 25 → f ≠ 5 * t + j → pk' f = pk f ∧ hk' f = hk f ∧ ∀ k, k < 8 → va' (8 * f + k) = va (8 * f + k)) (hY : ∀ g, g ≠ 5 * t + vh_s j → ∀ k, k < 8 → ct' (8 * g + k) = ct (8 * g + k) ∧ cv' (8 * g + k) = cv (8 * g + k) ∧ ch' (8 * g + k) = ch (8 * g + k)) (hN : ∀ k, k < 8 → ct' (8 * (5 * t + vh_s j) + k) = vh_b (bt (pk' (5 * t + j)) k) ∧ ch' (8 * (5 * t + vh_s j) + k) = vh_b (bt (hk' (5 * t + j)) k) ∧ cv' (8 * (5 * t + vh_s j) + k) = va' (8 * (5 * t + j) + k)) : vh_F pk' hk' va' ct' cv' ch' := by
  intro t' ht' j' hj' k h8
  by_cases e : t' = t ∧ j' = j
  · obtain ⟨rfl, rfl⟩ := e
    exact hN k h8
  · obtain ⟨a1, a2, a3⟩ := hX (5 * t' + j') (by omega) (by omega)
    obtain ⟨b1, b2, b3⟩ := hY (5 * t' + vh_s j') (vh_sn hj hj' e) k h8
    obtain ⟨c1, c2, c3⟩ := F t' ht' j' hj' k h8
    exact ⟨by rw [b1, a1, c1], by rw [b3, a2, c2], by rw [b2, a3 k h8, c3]⟩
/-- the view -/
theorem vh_Fv (F : vh_F pk hk va ct cv ch) {t k : Nat} (ht : t < 5) (h8 : k < 8) : ct (8 * (5 * t) + k) = vh_b (bt (pk (5 * t + 4)) k) ∧ ch (8 * (5 * t) + k) = vh_b (bt (hk (5 * t + 4)) k) ∧ cv (8 * (5 * t) + k) = va (8 * (5 * t + 4) + k) := F t ht 4 (by omega) k h8
/-- a copy of frame i over frame j of the same transaction -/
theorem vh_Fc (F : vh_F pk hk va ct cv ch) {t i j : Nat} (ht : t < 5) (hi : i < 5) (hj : j < 5) : vh_F (upd pk (5 * t + j) (pk (5 * t + i))) (upd hk (5 * t + j) (hk (5 * t + i))) (vh_f va (5 * t + j) (fun k => va (8 * (5 * t + i) + k)) 0) (vh_f ct (5 * t + vh_s j) (fun k => ct (8 * (5 * t + vh_s i) + k)) 0) (vh_f cv (5 * t + vh_s j) (fun k => cv (8 * (5 * t + vh_s i) + k)) 0) (vh_f ch (5 * t + vh_s j) (fun k => ch (8 * (5 * t + vh_s i) + k)) 0) := by
  refine vh_Fs F (t := t) (j := j) hj (fun f _ hf => ⟨pk_un hf, pk_un hf, fun k h8 => vh_fo h8 hf⟩) (fun g hg k h8 => ⟨vh_fo h8 hg, vh_fo h8 hg, vh_fo h8 hg⟩) (fun k h8 => ?_)
  rw [vh_fi h8, vh_fi h8, vh_fi h8, vh_fi h8, pk_us, pk_us]
  exact F t ht i hi k h8
/-- a change of key x in the view -/
theorem vh_Fp (F : vh_F pk hk va ct cv ch) {t x : Nat} {b : Bool} {val : Int32} (hx : x < 8) (ht : t < 5) : vh_F (upd pk (5 * t + 4) (vh_set (pk (5 * t + 4)) x b)) (upd hk (5 * t + 4) (hk (5 * t + 4) ||| ((1 : Int32) <<< (nI x &&& 31)))) (upd va (8 * (5 * t + 4) + x) val) (upd ct (8 * (5 * t) + x) (vh_b b)) (upd cv (8 * (5 * t) + x) val) (upd ch (8 * (5 * t) + x) 1) := by
  refine vh_Fs F (t := t) (j := 4) (by omega) (fun f _ hf => ⟨pk_un hf, pk_un hf, fun k h8 => pk_un (by omega)⟩) (fun g hg k h8 => ?_) (fun k h8 => ?_)
  · have hg' : g ≠ 5 * t := hg
    exact ⟨pk_un (by omega), pk_un (by omega), pk_un (by omega)⟩
  · show upd ct (8 * (5 * t) + x) (vh_b b) (8 * (5 * t) + k) = _ ∧ upd ch (8 * (5 * t) + x) 1 (8 * (5 * t) + k) = _ ∧ upd cv (8 * (5 * t) + x) val (8 * (5 * t) + k) = _
    rw [pk_us, pk_us, vh_setb _ _ (by omega) (by omega), vh_or _ (by omega) (by omega)]
    by_cases e : k = x
    · subst e
      rw [pk_us, pk_us, pk_us, pk_us, if_pos rfl, decide_eq_true rfl, Bool.or_true]
      exact ⟨rfl, rfl, rfl⟩
    · rw [pk_un (by omega), pk_un (by omega), pk_un (by omega), pk_un (by omega), if_neg e, decide_eq_false e, Bool.or_false]
      exact vh_Fv F ht h8
theorem vh_Hu (H : vh_H hk) {f : Nat} {x : Int32} (hf : f ≠ 25) (hx : ∀ i, 8 ≤ i → bt x i = false) : vh_H (upd hk f x) := by
  refine ⟨by rw [pk_un (Ne.symm hf)]; exact H.1, fun g i hi => ?_⟩
  by_cases e : g = f
  · subst e; rw [pk_us]; exact hx i hi
  · rw [pk_un e]; exact H.2 g i hi
theorem vh_or8 {x : Int32} {k : Nat} (hx : ∀ i, 8 ≤ i → bt x i = false) (hk8 : k < 8) : ∀ i, 8 ≤ i → bt (x ||| ((1 : Int32) <<< (nI k &&& 31))) i = false := by
  intro i hi
  by_cases e : i < 32
  · rw [vh_or x (by omega) e, hx i hi, decide_eq_false (by omega)]; rfl
  · exact b_big (by omega)
end
