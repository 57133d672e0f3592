/-! the reference's walks, each against a general post -/
section
variable {cm : Int32} {th vy lc bg ac st hr sv ct cv ch : Nat → Int32}
theorem ya_rb {post : Int32 → Prop} {x y : Int32} (hx : x < 0 ∨ nI 5 ≤ x) (h : post (-1)) : wpY_refusal post (cm, th, vy, lc, bg, ac, st, hr, sv, ct, cv, ch) x y := by
  rcases hx with hx | hx
  · exact br_t hx h
  · exact br_f (xa_nl5 hx) (br_f (fun z => absurd (Int32.le_trans hx z) (by decide)) h)
theorem ya_ri {post : Int32 → Prop} {t : Nat} {y : Int32} (ht : t < 5) (ha : ac t = 0) (h : post (-3)) : wpY_refusal post (cm, th, vy, lc, bg, ac, st, hr, sv, ct, cv, ch) (nI t) y := by
  refine br_f (nI_pos (by omega)) (br_t (nI_le (b := 4) (by omega) (by decide)) ⟨vp_in_nI ht (by decide), br_t ?_ h⟩)
  rw [nI_clamp (by omega)]
  exact ha
theorem ya_rk {post : Int32 → Prop} {t : Nat} {y : Int32} (ht : t < 5) (ha : ¬ ac t = 0) (hy : y < 0 ∨ nI 8 ≤ y) (h : post (-2)) : wpY_refusal post (cm, th, vy, lc, bg, ac, st, hr, sv, ct, cv, ch) (nI t) y := by
  refine br_f (nI_pos (by omega)) (br_t (nI_le (b := 4) (by omega) (by decide)) ⟨vp_in_nI ht (by decide), br_f ?_ ?_⟩)
  · rw [nI_clamp (by omega)]
    exact ha
  · rcases hy with hy | hy
    · exact br_t hy h
    · exact br_f (xa_nl8 hy) (br_f (fun z => absurd (Int32.le_trans hy z) (by decide)) h)
theorem ya_ro {post : Int32 → Prop} {t k : Nat} (ht : t < 5) (ha : ¬ ac t = 0) (hk8 : k < 8) (h : post 0) : wpY_refusal post (cm, th, vy, lc, bg, ac, st, hr, sv, ct, cv, ch) (nI t) (nI k) := by
  refine br_f (nI_pos (by omega)) (br_t (nI_le (b := 4) (by omega) (by decide)) ⟨vp_in_nI ht (by decide), br_f ?_ (br_f (nI_pos (by omega)) (br_t (nI_le (b := 7) (by omega) (by decide)) h))⟩)
  rw [nI_clamp (by omega)]
  exact ha
theorem ya_cpL {post : SY → Prop} {t f g : Nat} {b1 b2 b3 : Nat → Int32} (ht : t < 5) (hf : f < 5) (hg : g < 5) : ∀ (d i : Nat) (ct cv ch : Nat → Int32), i + d = 8 → vh_n ct → vh_n ch → (∀ k, i ≤ k → k < 8 → ct (8 * (5 * t + f) + k) = b1 k ∧ cv (8 * (5 * t + f) + k) = b2 k ∧ ch (8 * (5 * t + f) + k) = b3 k) → post (cm, th, vy, lc, bg, ac, st, hr, sv, vh_f ct (5 * t + g) b1 i, vh_f cv (5 * t + g) b2 i, vh_f ch (5 * t + g) b3 i) → wY_copy_3 post (nI t) (nI f) (nI g) cm (d + 1) (nI i) th vy lc bg ac st hr sv ct cv ch := by
  intro d
  induction d with
  | zero =>
    intro i ct cv ch hi n1 n3 hb h
    obtain rfl : i = 8 := by omega
    rw [vh_f8, vh_f8, vh_f8] at h
    exact br_t (by decide) h
  | succ d ih =>
    intro i ct cv ch hi n1 n3 hb h
    have e1 := (hb i (by omega) (by omega)).1
    have e2 := (hb i (by omega) (by omega)).2.1
    have e3 := (hb i (by omega) (by omega)).2.2
    have i1 := pk_in (8 * (5 * t + f) + i) 200 (by omega) (vh_58 t f i)
    have i2 := pk_in (8 * (5 * t + g) + i) 200 (by omega) (vh_58 t g i)
    have m1 : b1 i = 0 ∨ b1 i = 1 := e1 ▸ n1 _
    have m3 : b3 i = 0 ∨ b3 i = 1 := e3 ▸ n3 _
    refine br_f (nI_ge (b := 8) (by omega) (by decide)) ⟨i1, i2, nm_r (e' := upd ct (8 * (5 * t + g) + i) (b1 i)) ?_ ⟨i1, i2, nm_r (e' := upd cv (8 * (5 * t + g) + i) (b2 i)) ?_ ⟨i1, i2, nm_r (e' := upd ch (8 * (5 * t + g) + i) (b3 i)) ?_ (nm_r (nI_1 i) ?_)⟩⟩⟩
    · rw [vh_c58 (by omega), vh_c58 (by omega), e1, vh_nb m1]
    · rw [vh_c58 (by omega), vh_c58 (by omega), e2]
    · rw [vh_c58 (by omega), vh_c58 (by omega), e3, vh_nb m3]
    · refine ih (i + 1) _ _ _ (by omega) (vh_nu n1 m1) (vh_nu n3 m3) (fun k h1 h2 => ?_) ?_
      · rw [pk_un (by omega), pk_un (by omega), pk_un (by omega)]; exact hb k (by omega) h2
      · rw [vh_fs (by omega), vh_fs (by omega), vh_fs (by omega)]; exact h
theorem ya_cp {post : SY → Prop} {t f g : Nat} {b1 b2 b3 : Nat → Int32} (ht : t < 5) (hf : f < 5) (hg : g < 5) (n1 : vh_n ct) (n3 : vh_n ch) (hb : ∀ k, k < 8 → ct (8 * (5 * t + f) + k) = b1 k ∧ cv (8 * (5 * t + f) + k) = b2 k ∧ ch (8 * (5 * t + f) + k) = b3 k) (h : post (cm, th, vy, lc, bg, ac, st, hr, sv, vh_f ct (5 * t + g) b1 0, vh_f cv (5 * t + g) b2 0, vh_f ch (5 * t + g) b3 0)) : wpY_copy post (cm, th, vy, lc, bg, ac, st, hr, sv, ct, cv, ch) (nI t) (nI f) (nI g) :=
  ⟨9, ya_cpL ht hf hg 8 0 ct cv ch rfl n1 n3 (fun k _ h8 => hb k h8) h⟩
theorem ya_bgL {post : Int32 → SY → Prop} {t : Nat} (ht : t < 5) (n0 : vh_n th) : ∀ (d i : Nat) (hr ct cv ch : Nat → Int32), i + d = 8 → vh_n ct → vh_n ch → wpY_copy (fun u => post 0 u) (cm, th, vy, lc, bg, ac, st, vh_f hr t (fun _ => 0) i, sv, vh_f ct (5 * t) th i, vh_f cv (5 * t) vy i, vh_f ch (5 * t) (fun _ => 0) i) (nI t) 0 4 → wY_begin_56 post (nI t) cm (d + 1) (nI i) th vy lc bg ac st hr sv ct cv ch := by
  intro d
  induction d with
  | zero =>
    intro i hr ct cv ch hi n1 n3 h
    obtain rfl : i = 8 := by omega
    rw [vh_f8, vh_f8, vh_f8, vh_f8] at h
    exact br_t (by decide) h
  | succ d ih =>
    intro i hr ct cv ch hi n1 n3 h
    have i0 := vp_in_nI (n := i) (N := 8) (by omega) (by decide)
    have i1 := pk_in (8 * (5 * t) + i) 200 (by omega) (vh_40 t i)
    have i2 := pk_in (8 * t + i) 40 (by omega) (vh_8 t i)
    refine br_f (nI_ge (b := 8) (by omega) (by decide)) ⟨i0, i1, nm_r (e' := upd ct (8 * (5 * t) + i) (th i)) ?_ ⟨i0, i1, nm_r (e' := upd cv (8 * (5 * t) + i) (vy i)) ?_ ⟨i1, nm_r (e' := upd ch (8 * (5 * t) + i) 0) ?_ ⟨i2, nm_r (e' := upd hr (8 * t + i) 0) ?_ (nm_r (nI_1 i) ?_)⟩⟩⟩⟩
    · rw [vh_c40 (by omega), nI_clamp (by omega), vh_nb (n0 i)]
    · rw [vh_c40 (by omega), nI_clamp (by omega)]
    · rw [vh_c40 (by omega)]; rfl
    · rw [vh_c8 (by omega)]; rfl
    · refine ih (i + 1) _ _ _ _ (by omega) (vh_nu n1 (n0 i)) (vh_nu n3 (Or.inl rfl)) ?_
      rw [vh_fs (b := th) (by omega), vh_fs (b := vy) (by omega)]
      rw [vh_fs (a := ch) (b := fun _ => 0) (by omega), vh_fs (a := hr) (b := fun _ => 0) (by omega)]
      exact h
theorem ya_bg {post : Int32 → SY → Prop} {t : Nat} {p : Int32} (ht : t < 5) (ha : ac t = 0) (n0 : vh_n th) (n1 : vh_n ct) (n3 : vh_n ch) (hp : p = 0 ∨ p = 1) (h : post 0 (cm, th, vy, lc, upd bg t cm, upd ac t 1, upd st t p, vh_f hr t (fun _ => 0) 0, upd sv t 0, vh_f (vh_f ct (5 * t) th 0) (5 * t + 4) th 0, vh_f (vh_f cv (5 * t) vy 0) (5 * t + 4) vy 0, vh_f (vh_f ch (5 * t) (fun _ => 0) 0) (5 * t + 4) (fun _ => 0) 0)) : wpY_begin post (cm, th, vy, lc, bg, ac, st, hr, sv, ct, cv, ch) (nI t) p := by
  refine br_f (nI_pos (by omega)) (br_t (nI_le (b := 4) (by omega) (by decide)) ⟨vp_in_nI ht (by decide), br_t ?_ ⟨vp_in_nI ht (by decide), nm_r (e' := upd ac t 1) ?_ ⟨vp_in_nI ht (by decide), nm_r (e' := upd st t p) ?_ ⟨vp_in_nI ht (by decide), nm_r (e' := upd bg t cm) ?_ ⟨vp_in_nI ht (by decide), nm_r (e' := upd sv t 0) ?_ ⟨9, ?_⟩⟩⟩⟩⟩⟩)
  · rw [nI_clamp (by omega)]; exact ha
  · rw [nI_clamp (by omega)]; rfl
  · rw [nI_clamp (by omega), vh_nb hp]
  · rw [nI_clamp (by omega)]
  · rw [nI_clamp (by omega)]
  · refine ya_bgL ht n0 8 0 hr ct cv ch rfl n1 n3 (ya_cp (f := 0) (g := 4) (b1 := th) (b2 := vy) (b3 := fun _ => 0) ht (by omega) (by omega) (vh_fn n1 (fun k _ => n0 k)) (vh_fn n3 (fun _ _ => Or.inl rfl)) (fun k h8 => ⟨vh_fi h8, vh_fi h8, vh_fi (b := fun _ => 0) h8⟩) h)
theorem ya_ho {post : Int32 → Prop} {t k : Nat} {p : Bool} (ht : t < 5) (hk8 : k < 8) (ha : ¬ ac t = 0) (hp : ch (8 * (5 * t) + k) = vh_b p) (h : post (vh_b p)) : wpY_holds post (cm, th, vy, lc, bg, ac, st, hr, sv, ct, cv, ch) (nI t) (nI k) := by
  refine ⟨vp_in_nI ht (by decide), br_f ?_ ⟨pk_in (8 * (5 * t) + k) 200 (by omega) (vh_40 t k), ?_⟩⟩
  · rw [nI_clamp (by omega)]; exact ha
  · rw [vh_c40 (by omega), hp]
    cases p
    · exact br_t rfl h
    · exact br_f (by decide) h
theorem ya_hn {post : Int32 → Prop} {t : Nat} {y : Int32} (ht : t < 5) (ha : ac t = 0) (h : post 0) : wpY_holds post (cm, th, vy, lc, bg, ac, st, hr, sv, ct, cv, ch) (nI t) y := by
  refine ⟨vp_in_nI ht (by decide), br_t ?_ h⟩
  rw [nI_clamp (by omega)]; exact ha
theorem ya_lt {post : Int32 → Prop} {t k L B : Nat} (ht : t < 5) (hk8 : k < 8) (hL : lc k = nI L) (hB : bg t = nI B) (bL : L < 2 ^ 31) (bB : B < 2 ^ 31) (h : post (vh_b (decide (B < L)))) : wpY_late post (cm, th, vy, lc, bg, ac, st, hr, sv, ct, cv, ch) (nI t) (nI k) := by
  refine ⟨vp_in_nI hk8 (by decide), vp_in_nI ht (by decide), ?_⟩
  rw [nI_clamp (by omega), nI_clamp (by omega), hL, hB]
  by_cases e : B < L
  · rw [decide_eq_true e] at h
    exact br_f (nI_ge e bL) h
  · rw [decide_eq_false e] at h
    exact br_t (nI_le (by omega) bB) h
theorem ya_baL {post : Int32 → Prop} {hk : Nat → Int32} {t k L B : Nat} (ht : t < 5) (hk8 : k < 8) (hC : ∀ o, o < 5 → ch (8 * (5 * o) + k) = vh_b (bt (hk (5 * o + 4)) k)) (hL : lc k = nI L) (hB : bg t = nI B) (bL : L < 2 ^ 31) (bB : B < 2 ^ 31) (h5 : vh_E ac hk t k → post (-5)) (h6 : ¬ vh_E ac hk t k → decide (B < L) = true → post (-6)) (h0 : ¬ vh_E ac hk t k → decide (B < L) = false → post 0) : ∀ (d i : Nat), i + d = 5 → (∀ o, o < i → ¬ (o ≠ t ∧ ¬ ac o = 0 ∧ bt (hk (5 * o + 4)) k = true)) → wY_barred_2 post (nI t) (nI k) cm th vy lc bg ac st hr sv ct cv ch (d + 1) (nI i) := by
  intro d
  induction d with
  | zero =>
    intro i hi hn
    obtain rfl : i = 5 := by omega
    have ne : ¬ vh_E ac hk t k := fun ⟨o, ho, r⟩ => hn o ho r
    refine br_t (by decide) (ya_lt ht hk8 hL hB bL bB ?_)
    cases e : decide (B < L)
    · exact br_t rfl (h0 ne e)
    · exact br_f (by decide) (h6 ne e)
  | succ d ih =>
    intro i hi hn
    have next : ¬ (i ≠ t ∧ ¬ ac i = 0 ∧ bt (hk (5 * i + 4)) k = true) → wY_barred_2 post (nI t) (nI k) cm th vy lc bg ac st hr sv ct cv ch (d + 1) (nI (i + 1)) := fun z => ih (i + 1) (by omega) (fun o ho => by
      by_cases e : o = i
      · subst e; exact z
      · exact hn o (by omega))
    refine br_f (nI_ge (b := 5) (by omega) (by decide)) (pk_eq i t (fun e => nm_r (nI_1 i) (next (fun z => z.1 e))) (fun e => ?_))
    by_cases z : ac i = 0
    · exact ya_hn (by omega) z (br_t rfl (nm_r (nI_1 i) (next (fun y => y.2.1 z))))
    · refine ya_ho (by omega) hk8 z (hC i (by omega)) ?_
      cases hb : bt (hk (5 * i + 4)) k
      · exact br_t rfl (nm_r (nI_1 i) (next (fun y => absurd (hb.symm.trans y.2.2) (by decide))))
      · exact br_f (by decide) (h5 ⟨i, by omega, e, z, hb⟩)
theorem ya_35 {post : Int32 → SY → Prop} {t k : Nat} {z val : Int32} {b : Bool} (ht : t < 5) (hk8 : k < 8) (h : post z (cm, th, vy, lc, bg, ac, st, hr, sv, upd ct (8 * (5 * t) + k) (vh_b b), upd cv (8 * (5 * t) + k) val, upd ch (8 * (5 * t) + k) 1)) : wY_change_35 post (nI t) (nI k) (vh_b b) val z cm th vy lc bg ac st hr sv ct cv ch := by
  have i1 := pk_in (8 * (5 * t) + k) 200 (by omega) (vh_40 t k)
  refine ⟨i1, nm_r (e' := upd ct (8 * (5 * t) + k) (vh_b b)) ?_ ⟨i1, nm_r (e' := upd cv (8 * (5 * t) + k) val) ?_ ⟨i1, nm_r (e' := upd ch (8 * (5 * t) + k) 1) ?_ h⟩⟩⟩
  · rw [vh_c40 (by omega), vh_nb (vh_b01 b)]
  · rw [vh_c40 (by omega)]
  · rw [vh_c40 (by omega)]; rfl
theorem ya_chg {post : Int32 → SY → Prop} {hk : Nat → Int32} {t k L B : Nat} {val : Int32} {b p : Bool} (ht : t < 5) (hk8 : k < 8) (hC : ∀ o, o < 5 → ch (8 * (5 * o) + k) = vh_b (bt (hk (5 * o + 4)) k)) (hp : ct (8 * (5 * t) + k) = vh_b p) (hL : lc k = nI L) (hB : bg t = nI B) (bL : L < 2 ^ 31) (bB : B < 2 ^ 31) (h5 : vh_E ac hk t k → post (-5) (cm, th, vy, lc, bg, ac, st, hr, sv, ct, cv, ch)) (h6 : ¬ vh_E ac hk t k → decide (B < L) = true → post (-6) (cm, th, vy, lc, bg, ac, st, hr, sv, ct, cv, ch)) (h0 : ¬ vh_E ac hk t k → decide (B < L) = false → post (vh_b p) (cm, th, vy, lc, bg, ac, st, hr, sv, upd ct (8 * (5 * t) + k) (vh_b b), upd cv (8 * (5 * t) + k) val, upd ch (8 * (5 * t) + k) 1)) : wpY_change post (cm, th, vy, lc, bg, ac, st, hr, sv, ct, cv, ch) (nI t) (nI k) (vh_b b) val := by
  unfold wpY_change wpY_barred
  dsimp only
  refine ⟨6, ya_baL ht hk8 hC hL hB bL bB (fun e => br_f (by decide) (h5 e)) (fun e f => br_f (by decide) (h6 e f)) (fun e f => br_t (by decide) ⟨pk_in (8 * (5 * t) + k) 200 (by omega) (vh_40 t k), ?_⟩) 5 0 rfl (fun o ho => absurd ho (by omega))⟩
  rw [vh_c40 (by omega), hp]
  have h := h0 e f
  cases p
  · exact br_t rfl (ya_35 ht hk8 h)
  · exact br_f (by decide) (ya_35 ht hk8 h)
theorem ya_hkL {post : Int32 → Prop} {t : Nat} {p : Nat → Bool} (ht : t < 5) (ha : ¬ ac t = 0) (hp : ∀ k, k < 8 → ch (8 * (5 * t) + k) = vh_b (p k)) (h : post (nI (vh_c p 8))) : ∀ (d i : Nat), i + d = 8 → wY_heldKeys_4 post (nI t) cm th vy lc bg ac st hr sv ct cv ch (d + 1) (nI (vh_c p i)) (nI i) := by
  intro d
  induction d with
  | zero =>
    intro i hi
    obtain rfl : i = 8 := by omega
    exact br_t (by decide) h
  | succ d ih =>
    intro i hi
    refine br_f (nI_ge (b := 8) (by omega) (by decide)) (ya_ho ht (by omega) ha (hp i (by omega)) ?_)
    have e := vh_cb p i
    have n := ih (i + 1) (by omega)
    cases hb : p i
    · rw [hb] at e
      have e' : nI (vh_c p i) = nI (vh_c p (i + 1)) := by rw [← e]; exact (Int32.add_zero _).symm
      rw [e']
      exact br_t rfl (nm_r (nI_1 i) n)
    · rw [hb] at e
      exact br_f (by decide) (nm_r e (nm_r (nI_1 i) n))
theorem ya_hk {post : Int32 → Prop} {t : Nat} {p : Nat → Bool} (ht : t < 5) (ha : ¬ ac t = 0) (hp : ∀ k, k < 8 → ch (8 * (5 * t) + k) = vh_b (p k)) (h : post (nI (vh_c p 8))) : wpY_heldKeys post (cm, th, vy, lc, bg, ac, st, hr, sv, ct, cv, ch) (nI t) := ⟨9, ya_hkL ht ha hp h 8 0 rfl⟩
theorem ya_szL {post : Int32 → Prop} {t : Nat} {p : Nat → Bool} (ht : t < 5) (hp : ∀ k, k < 8 → ct (8 * (5 * t) + k) = vh_b (p k)) (h : post (nI (vh_c p 8))) : ∀ (d i : Nat), i + d = 8 → wY_size_18 post (nI t) cm th vy lc bg ac st hr sv ct cv ch (d + 1) (nI (vh_c p i)) (nI i) := by
  intro d
  induction d with
  | zero =>
    intro i hi
    obtain rfl : i = 8 := by omega
    exact br_t (by decide) h
  | succ d ih =>
    intro i hi
    refine br_f (nI_ge (b := 8) (by omega) (by decide)) ⟨pk_in (8 * (5 * t) + i) 200 (by omega) (vh_40 t i), ?_⟩
    rw [vh_c40 (by omega), hp i (by omega)]
    have e := vh_cb p i
    have n := ih (i + 1) (by omega)
    cases hb : p i
    · rw [hb] at e
      have e' : nI (vh_c p i) = nI (vh_c p (i + 1)) := by rw [← e]; exact (Int32.add_zero _).symm
      rw [e']
      exact br_t rfl (nm_r (nI_1 i) n)
    · rw [hb] at e
      exact br_f (by decide) (nm_r e (nm_r (nI_1 i) n))
theorem ya_csL {post : Int32 → Prop} {p : Nat → Bool} (hp : ∀ k, k < 8 → th k = vh_b (p k)) (h : post (nI (vh_c p 8))) : ∀ (d i : Nat), i + d = 8 → wY_committedSize_4 post cm th vy lc bg ac st hr sv ct cv ch (d + 1) (nI (vh_c p i)) (nI i) := by
  intro d
  induction d with
  | zero =>
    intro i hi
    obtain rfl : i = 8 := by omega
    exact br_t (by decide) h
  | succ d ih =>
    intro i hi
    refine br_f (nI_ge (b := 8) (by omega) (by decide)) ⟨vp_in_nI (by omega) (by decide), ?_⟩
    rw [nI_clamp (by omega), hp i (by omega)]
    have e := vh_cb p i
    have n := ih (i + 1) (by omega)
    cases hb : p i
    · rw [hb] at e
      have e' : nI (vh_c p i) = nI (vh_c p (i + 1)) := by rw [← e]; exact (Int32.add_zero _).symm
      rw [e']
      exact br_t rfl (nm_r (nI_1 i) n)
    · rw [hb] at e
      exact br_f (by decide) (nm_r e (nm_r (nI_1 i) n))
theorem ya_rlL {post : Int32 → Prop} {t B : Nat} {L : Nat → Nat} {p : Nat → Bool} (ht : t < 5) (hp : ∀ k, k < 8 → hr (8 * t + k) = vh_b (p k)) (hL : ∀ k, k < 8 → lc k = nI (L k)) (hB : bg t = nI B) (bL : ∀ k, k < 8 → L k < 2 ^ 31) (bB : B < 2 ^ 31) (h1 : (∃ k, k < 8 ∧ p k = true ∧ decide (B < L k) = true) → post 1) (h0 : (∀ k, k < 8 → ¬ (p k = true ∧ decide (B < L k) = true)) → post 0) : ∀ (d i : Nat), i + d = 8 → (∀ k, k < i → ¬ (p k = true ∧ decide (B < L k) = true)) → wY_readLate_2 post (nI t) cm th vy lc bg ac st hr sv ct cv ch (d + 1) (nI i) := by
  intro d
  induction d with
  | zero =>
    intro i hi hn
    obtain rfl : i = 8 := by omega
    exact br_t (by decide) (h0 hn)
  | succ d ih =>
    intro i hi hn
    have next : ¬ (p i = true ∧ decide (B < L i) = true) → wY_readLate_2 post (nI t) cm th vy lc bg ac st hr sv ct cv ch (d + 1) (nI (i + 1)) := fun z => ih (i + 1) (by omega) (fun o ho => by
      by_cases e : o = i
      · subst e; exact z
      · exact hn o (by omega))
    refine br_f (nI_ge (b := 8) (by omega) (by decide)) ⟨pk_in (8 * t + i) 40 (by omega) (vh_8 t i), ?_⟩
    rw [vh_c8 (by omega), hp i (by omega)]
    cases hb : p i
    · exact br_t rfl (nm_r (nI_1 i) (next (fun y => absurd (hb.symm.trans y.1) (by decide))))
    · refine br_f (by decide) (ya_lt ht (by omega) (hL i (by omega)) hB (bL i (by omega)) bB ?_)
      cases e : decide (B < L i)
      · exact br_t rfl (nm_r (nI_1 i) (next (fun y => absurd (e.symm.trans y.2) (by decide))))
      · exact br_f (by decide) (h1 ⟨i, by omega, hb, e⟩)
end
