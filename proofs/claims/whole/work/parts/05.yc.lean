/-! the reference's commit and crash, the component's crash, both finds -/
section
variable {cm : Int32} {th vy lc bg ac st hr sv ct cv ch : Nat → Int32}
/-- what the reference's commit leaves of its committed table, from key i on -/
def vh_Q (th vy lc th' vy' lc' ct cv : Nat → Int32) (cm : Int32) (t : Nat) (p : Nat → Bool) (i : Nat) : Prop := ∀ k, k < 8 → (th' k = if i ≤ k ∧ p k = true then ct (8 * (5 * t) + k) else th k) ∧ (vy' k = if i ≤ k ∧ p k = true then cv (8 * (5 * t) + k) else vy k) ∧ (lc' k = if i ≤ k ∧ p k = true then cm else lc k)
theorem ya_cmL {post : Int32 → SY → Prop} {x3 : Int32} {t : Nat} {p : Nat → Bool} (ht : t < 5) (ha : ¬ ac t = 0) (n1 : vh_n ct) (hp : ∀ k, k < 8 → ch (8 * (5 * t) + k) = vh_b (p k)) : ∀ (d i : Nat) (th vy lc : Nat → Int32), i + d = 8 → vh_n th → (∀ th' vy' lc' : Nat → Int32, vh_n th' → vh_Q th vy lc th' vy' lc' ct cv cm t p i → post x3 (cm, th', vy', lc', bg, upd ac t 0, st, hr, sv, ct, cv, ch)) → wY_commit_63 post (nI t) x3 cm (d + 1) (nI i) th vy lc bg ac st hr sv ct cv ch := by
  intro d
  induction d with
  | zero =>
    intro i th vy lc hi n0 K
    obtain rfl : i = 8 := by omega
    refine br_t (by decide) ⟨vp_in_nI ht (by decide), nm_r (e' := upd ac t 0) ?_ (K th vy lc n0 (fun k h8 => ?_))⟩
    · rw [nI_clamp (by omega)]; rfl
    · rw [if_neg (by omega), if_neg (by omega), if_neg (by omega)]
      exact ⟨rfl, rfl, rfl⟩
  | succ d ih =>
    intro i th vy lc hi n0 K
    refine br_f (nI_ge (b := 8) (by omega) (by decide)) (ya_ho ht (by omega) ha (hp i (by omega)) ?_)
    cases hb : p i
    · refine br_t rfl (nm_r (nI_1 i) (ih (i + 1) th vy lc (by omega) n0 (fun th' vy' lc' n' q => K th' vy' lc' n' (fun k h8 => ?_))))
      have q := q k h8
      by_cases e : i ≤ k ∧ p k = true
      · have : i ≠ k := fun z => by subst z; exact absurd (hb.symm.trans e.2) (by decide)
        rw [if_pos ⟨by omega, e.2⟩, if_pos ⟨by omega, e.2⟩, if_pos ⟨by omega, e.2⟩] at q
        rw [if_pos e, if_pos e, if_pos e]
        exact q
      · have e' : ¬ (i + 1 ≤ k ∧ p k = true) := fun z => e ⟨by omega, z.2⟩
        rw [if_neg e', if_neg e', if_neg e'] at q
        rw [if_neg e, if_neg e, if_neg e]
        exact q
    · have i1 := pk_in (8 * (5 * t) + i) 200 (by omega) (vh_40 t i)
      have i8 := vp_in_nI (n := i) (N := 8) (by omega) (by decide)
      refine br_f (by decide) ⟨i1, i8, nm_r (e' := upd th i (ct (8 * (5 * t) + i))) ?_ ⟨i1, i8, nm_r (e' := upd vy i (cv (8 * (5 * t) + i))) ?_ ⟨i8, nm_r (e' := upd lc i cm) ?_ (nm_r (nI_1 i) (ih (i + 1) _ _ _ (by omega) (vh_nu n0 (n1 _)) (fun th' vy' lc' n' q => K th' vy' lc' n' (fun k h8 => ?_))))⟩⟩⟩
      · rw [vh_c40 (by omega), nI_clamp (by omega), vh_nb (n1 _)]
      · rw [vh_c40 (by omega), nI_clamp (by omega)]
      · rw [nI_clamp (by omega)]
      · have q := q k h8
        by_cases e : k = i
        · subst e
          have e' : ¬ (k + 1 ≤ k ∧ p k = true) := fun z => absurd z.1 (by omega)
          rw [if_neg e', if_neg e', if_neg e', pk_us, pk_us, pk_us] at q
          rw [if_pos ⟨Nat.le_refl k, hb⟩, if_pos ⟨Nat.le_refl k, hb⟩, if_pos ⟨Nat.le_refl k, hb⟩]
          exact q
        · rw [pk_un e, pk_un e, pk_un e] at q
          by_cases e2 : i ≤ k ∧ p k = true
          · have e' : i + 1 ≤ k ∧ p k = true := ⟨by omega, e2.2⟩
            rw [if_pos e', if_pos e', if_pos e'] at q
            rw [if_pos e2, if_pos e2, if_pos e2]
            exact q
          · have e' : ¬ (i + 1 ≤ k ∧ p k = true) := fun z => e2 ⟨by omega, z.2⟩
            rw [if_neg e', if_neg e', if_neg e'] at q
            rw [if_neg e2, if_neg e2, if_neg e2]
            exact q
theorem ya_50 {post : Int32 → SY → Prop} {x3 : Int32} {t : Nat} {p : Nat → Bool} (ht : t < 5) (ha : ¬ ac t = 0) (n0 : vh_n th) (n1 : vh_n ct) (hp : ∀ k, k < 8 → ch (8 * (5 * t) + k) = vh_b (p k)) (K : ∀ th' vy' lc' : Nat → Int32, vh_n th' → vh_Q th vy lc th' vy' lc' ct cv (cm + 1) t p 0 → post x3 (cm + 1, th', vy', lc', bg, upd ac t 0, st, hr, sv, ct, cv, ch)) : wY_commit_50 post (nI t) x3 cm th vy lc bg ac st hr sv ct cv ch :=
  nm_e ⟨9, ya_cmL ht ha n1 hp 8 0 th vy lc rfl n0 K⟩
theorem ya_cm {post : Int32 → SY → Prop} {t B : Nat} {L : Nat → Nat} {p pr : Nat → Bool} (ht : t < 5) (ha : ¬ ac t = 0) (n0 : vh_n th) (n1 : vh_n ct) (hp : ∀ k, k < 8 → ch (8 * (5 * t) + k) = vh_b (p k)) (hr8 : ∀ k, k < 8 → hr (8 * t + k) = vh_b (pr k)) (hL : ∀ k, k < 8 → lc k = nI (L k)) (hB : bg t = nI B) (bL : ∀ k, k < 8 → L k < 2 ^ 31) (bB : B < 2 ^ 31) (hU : ¬ st t = 0 → ¬ vh_c p 8 = 0 → (∃ k, k < 8 ∧ pr k = true ∧ decide (B < L k) = true) → post (-9) (cm, th, vy, lc, bg, upd ac t 0, st, hr, sv, ct, cv, ch)) (K : ¬ (¬ st t = 0 ∧ ¬ vh_c p 8 = 0 ∧ (∃ k, k < 8 ∧ pr k = true ∧ decide (B < L k) = true)) → ∀ th' vy' lc' : Nat → Int32, vh_n th' → vh_Q th vy lc th' vy' lc' ct cv (cm + 1) t p 0 → post (nI (vh_c p 8)) (cm + 1, th', vy', lc', bg, upd ac t 0, st, hr, sv, ct, cv, ch)) : wpY_commit post (cm, th, vy, lc, bg, ac, st, hr, sv, ct, cv, ch) (nI t) := by
  unfold wpY_commit
  dsimp only
  have b8 := vh_cle p 8
  refine ya_ro (k := 0) ht ha (by omega) (br_t (by decide) (ya_hk ht ha hp ⟨vp_in_nI ht (by decide), br_c (fun e => ya_50 ht ha n0 n1 hp (K ?_)) (fun e => ?_)⟩))
  · rw [nI_clamp (by omega)] at e; exact fun z => z.1 e
  · rw [nI_clamp (by omega)] at e
    refine pk_le (vh_c p 8) 0 (fun c => ya_50 ht ha n0 n1 hp (K (fun z => z.2.1 (by omega)))) (fun c => ?_)
    unfold wpY_readLate
    dsimp only
    refine ⟨9, ya_rlL ht hr8 hL hB bL bB (fun x => br_f (by decide) ⟨vp_in_nI ht (by decide), nm_r (e' := upd ac t 0) ?_ (hU e (by omega) x)⟩) (fun x => br_t rfl (ya_50 ht ha n0 n1 hp (K (fun z => ?_)))) 8 0 rfl (fun o ho => absurd ho (by omega))⟩
    · obtain ⟨k, h8, y⟩ := z.2.2
      exact x k h8 y
    · rw [nI_clamp (by omega)]; rfl
end
/-- the cells i to 4 of a cleared -/
def vh_z (a : Nat → Int32) (i : Nat) : Nat → Int32 := fun j => if i ≤ j ∧ j < 5 then 0 else a j
theorem vh_z5 {a : Nat → Int32} : vh_z a 5 = a := funext fun j => if_neg (by omega)
theorem vh_zs {a : Nat → Int32} {i : Nat} (hi : i < 5) : vh_z (upd a i 0) (i + 1) = vh_z a i := by
  funext j
  unfold vh_z
  by_cases e : j = i
  · subst e
    rw [if_neg (by omega), if_pos (by omega), pk_us]
  · rw [pk_un e]
    by_cases h : i ≤ j ∧ j < 5
    · rw [if_pos h, if_pos (by omega)]
    · rw [if_neg h, if_neg (by omega)]
theorem vh_uz {a : Nat → Int32} {i : Nat} (h : a i = 0) : upd a i 0 = a := by
  funext j
  by_cases e : j = i
  · subst e; rw [pk_us, h]
  · rw [pk_un e]
theorem vh_za {a : Nat → Int32} {j : Nat} (hj : j < 5) : vh_z a 0 j = 0 := if_pos (by omega)
/-- which are active -/
def vh_a (a : Nat → Int32) : Nat → Bool := fun j => decide (¬ a j = 0)
theorem xa_crL {pk hk va st sv rk lk a0 : Nat → Int32} {post : Int32 → SX → Prop} : ∀ (d i : Nat) (ac : Nat → Int32), i + d = 5 → (∀ j, i ≤ j → ac j = a0 j) → post (nI (vh_c (vh_a a0) 5)) (pk, hk, va, vh_z ac i, st, sv, rk, lk) → wX_crash_4 post (d + 1) (nI (vh_c (vh_a a0) i)) (nI i) pk hk va ac st sv rk lk := by
  intro d
  induction d with
  | zero =>
    intro i ac hi he h
    obtain rfl : i = 5 := by omega
    rw [vh_z5] at h
    exact br_t (by decide) h
  | succ d ih =>
    intro i ac hi he h
    have e := vh_cb (vh_a a0) i
    refine br_f (nI_ge (b := 5) (by omega) (by decide)) ⟨vp_in_nI (by omega) (by decide), ?_⟩
    rw [nI_clamp (by omega)]
    by_cases z : ac i = 0
    · have hb : vh_a a0 i = false := decide_eq_false (by rw [← he i (by omega), z]; simp)
      rw [hb] at e
      have e' : nI (vh_c (vh_a a0) i) = nI (vh_c (vh_a a0) (i + 1)) := by rw [← e]; exact (Int32.add_zero _).symm
      rw [e']
      refine br_t z (nm_r (nI_1 i) (ih (i + 1) ac (by omega) (fun j hj => he j (by omega)) ?_))
      rw [← vh_zs (by omega), vh_uz z] at h
      exact h
    · have hb : vh_a a0 i = true := decide_eq_true (by rw [← he i (by omega)]; exact z)
      rw [hb] at e
      refine br_f z ⟨vp_in_nI (by omega) (by decide), nm_r (e' := upd ac i 0) rfl (nm_r e (nm_r (nI_1 i) (ih (i + 1) _ (by omega) (fun j hj => ?_) ?_)))⟩
      · rw [pk_un (by omega)]; exact he j (by omega)
      · rw [vh_zs (by omega)]; exact h
theorem ya_crL {cm : Int32} {th vy lc bg st hr sv ct cv ch a0 : Nat → Int32} {post : Int32 → SY → Prop} : ∀ (d i : Nat) (ac : Nat → Int32), i + d = 5 → (∀ j, i ≤ j → ac j = a0 j) → post (nI (vh_c (vh_a a0) 5)) (cm, th, vy, lc, bg, vh_z ac i, st, hr, sv, ct, cv, ch) → wY_crash_4 post cm (d + 1) (nI (vh_c (vh_a a0) i)) (nI i) th vy lc bg ac st hr sv ct cv ch := by
  intro d
  induction d with
  | zero =>
    intro i ac hi he h
    obtain rfl : i = 5 := by omega
    rw [vh_z5] at h
    exact br_t (by decide) h
  | succ d ih =>
    intro i ac hi he h
    have e := vh_cb (vh_a a0) i
    refine br_f (nI_ge (b := 5) (by omega) (by decide)) ⟨vp_in_nI (by omega) (by decide), ?_⟩
    rw [nI_clamp (by omega)]
    by_cases z : ac i = 0
    · have hb : vh_a a0 i = false := decide_eq_false (by rw [← he i (by omega), z]; simp)
      rw [hb] at e
      have e' : nI (vh_c (vh_a a0) i) = nI (vh_c (vh_a a0) (i + 1)) := by rw [← e]; exact (Int32.add_zero _).symm
      rw [e']
      refine br_t z ⟨vp_in_nI (by omega) (by decide), nm_r (e' := upd ac i 0) rfl (nm_r (nI_1 i) (ih (i + 1) _ (by omega) (fun j hj => ?_) ?_))⟩
      · rw [pk_un (by omega)]; exact he j (by omega)
      · rw [vh_zs (by omega)]; exact h
    · have hb : vh_a a0 i = true := decide_eq_true (by rw [← he i (by omega)]; exact z)
      rw [hb] at e
      refine br_f z (nm_r e ⟨vp_in_nI (by omega) (by decide), nm_r (e' := upd ac i 0) rfl (nm_r (nI_1 i) (ih (i + 1) _ (by omega) (fun j hj => ?_) ?_))⟩)
      · rw [pk_un (by omega)]; exact he j (by omega)
      · rw [vh_zs (by omega)]; exact h
theorem vh_fd {pk hk va ac st sv rk lk : Nat → Int32} {cm : Int32} {th vy lc bg ay sy hr ss ct cv ch : Nat → Int32} {t : Nat} {val : Int32} (ht : t < 5) (hF : ∀ k, k < 8 → ct (8 * (5 * t) + k) = vh_b (bt (pk (5 * t + 4)) k) ∧ cv (8 * (5 * t) + k) = va (8 * (5 * t + 4) + k)) : ∀ (d i : Nat), i + d = 8 → ∃ r : Int32, (∀ post : Int32 → Prop, post r → wX_find_21 post val (nI (5 * t + 4)) pk hk va ac st sv rk lk (d + 1) (nI i)) ∧ (∀ post : Int32 → Prop, post r → wY_find_16 post (nI t) val cm th vy lc bg ay sy hr ss ct cv ch (d + 1) (nI i)) := by
  intro d
  induction d with
  | zero =>
    intro i hi
    obtain rfl : i = 8 := by omega
    exact ⟨-7, fun _ h => br_t (by decide) h, fun _ h => br_t (by decide) h⟩
  | succ d ih =>
    intro i hi
    obtain ⟨r, hX, hY⟩ := ih (i + 1) (by omega)
    obtain ⟨e1, e2⟩ := hF i (by omega)
    have n8 : ¬ (8 : Int32) ≤ nI i := nI_ge (b := 8) (by omega) (by decide)
    have i1 := pk_in (8 * (5 * t + 4) + i) 208 (by omega) (vh_8 (5 * t + 4) i)
    have i2 := pk_in (8 * (5 * t) + i) 200 (by omega) (vh_40 t i)
    have i3 := vp_in_nI (n := 5 * t + 4) (N := 26) (by omega) (by decide)
    have c1 := nI_clamp (n := 5 * t + 4) (by omega)
    have c2 := vh_c8 (g := 5 * t + 4) (i := i) (by omega)
    have c3 := vh_c40 (t := t) (i := i) (by omega)
    cases hb : bt (pk (5 * t + 4)) i
    · refine ⟨r, fun post h => br_f n8 ⟨i3, xa_has (by omega) _ ?_⟩, fun post h => br_f n8 ⟨i2, br_t ?_ (nm_r (nI_1 i) (hY post h))⟩⟩
      · rw [c1, hb]
        exact br_t rfl (nm_r (nI_1 i) (hX post h))
      · rw [c3, e1, hb]; rfl
    · by_cases q : va (8 * (5 * t + 4) + i) = val
      · refine ⟨nI i, fun post h => br_f n8 ⟨i3, xa_has (by omega) _ ?_⟩, fun post h => br_f n8 ⟨i2, br_f ?_ ⟨i2, br_t ?_ h⟩⟩⟩
        · rw [c1, hb]
          exact br_f (by decide) ⟨i1, br_t (by rw [c2]; exact q) h⟩
        · rw [c3, e1, hb]; decide
        · rw [c3, e2]; exact q
      · refine ⟨r, fun post h => br_f n8 ⟨i3, xa_has (by omega) _ ?_⟩, fun post h => br_f n8 ⟨i2, br_f ?_ ⟨i2, br_f ?_ (nm_r (nI_1 i) (hY post h))⟩⟩⟩
        · rw [c1, hb]
          exact br_f (by decide) ⟨i1, br_f (by rw [c2]; exact q) (nm_r (nI_1 i) (hX post h))⟩
        · rw [c3, e1, hb]; decide
        · rw [c3, e2]; exact q
