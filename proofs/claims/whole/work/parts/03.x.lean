/-! the component's walks, each against a general post -/
section
variable {pk hk va ac st sv rk lk : Nat → Int32}
theorem xa_nl5 {x : Int32} (h : nI 5 ≤ x) : ¬ x < 0 := Int32.not_lt.mpr (Int32.le_trans (by decide) h)
theorem xa_nl8 {x : Int32} (h : nI 8 ≤ x) : ¬ x < 0 := Int32.not_lt.mpr (Int32.le_trans (by decide) h)
theorem xa_bT {post : Int32 → Prop} {x : Int32} (hx : x < 0 ∨ nI 5 ≤ x) (h : post 1) : wpX_isBadTx post x := by
  rcases hx with hx | hx
  · exact br_t hx h
  · exact br_f (xa_nl5 hx) (br_f (Int32.not_lt.mpr hx) h)
theorem xa_oT {post : Int32 → Prop} {t : Nat} (ht : t < 5) (h : post 0) : wpX_isBadTx post (nI t) :=
  br_f (nI_pos (by omega)) (br_t (nI_lt (b := 5) ht (by decide)) h)
theorem xa_bK {post : Int32 → Prop} {x : Int32} (hx : x < 0 ∨ nI 8 ≤ x) (h : post 1) : wpX_isBadKey post x := by
  rcases hx with hx | hx
  · exact br_t hx h
  · exact br_f (xa_nl8 hx) (br_f (Int32.not_lt.mpr hx) h)
theorem xa_oK {post : Int32 → Prop} {k : Nat} (hk : k < 8) (h : post 0) : wpX_isBadKey post (nI k) :=
  br_f (nI_pos (by omega)) (br_t (nI_lt (b := 8) hk (by decide)) h)
theorem xa_rb {post : Int32 → Prop} {x : Int32} (hx : x < 0 ∨ nI 5 ≤ x) (h : post (-1)) : wpX_refusalOfTx post (pk, hk, va, ac, st, sv, rk, lk) x := by
  unfold wpX_refusalOfTx
  dsimp only
  exact xa_bT hx (br_f (by decide) h)
theorem xa_ri {post : Int32 → Prop} {t : Nat} (ht : t < 5) (ha : ac t = 0) (h : post (-3)) : wpX_refusalOfTx post (pk, hk, va, ac, st, sv, rk, lk) (nI t) := by
  unfold wpX_refusalOfTx
  dsimp only
  refine xa_oT ht (br_t rfl ⟨vp_in_nI ht (by decide), br_t ?_ h⟩)
  rw [nI_clamp (by omega)]
  exact ha
theorem xa_ro {post : Int32 → Prop} {t : Nat} (ht : t < 5) (ha : ¬ ac t = 0) (h : post 0) : wpX_refusalOfTx post (pk, hk, va, ac, st, sv, rk, lk) (nI t) := by
  unfold wpX_refusalOfTx
  dsimp only
  refine xa_oT ht (br_t rfl ⟨vp_in_nI ht (by decide), br_f ?_ h⟩)
  rw [nI_clamp (by omega)]
  exact ha
theorem xa_kb {post : Int32 → Prop} {x y : Int32} (hx : x < 0 ∨ nI 5 ≤ x) (h : post (-1)) : wpX_refusalOfKey post (pk, hk, va, ac, st, sv, rk, lk) x y := by
  unfold wpX_refusalOfKey
  dsimp only
  exact xa_rb hx (br_f (by decide) h)
theorem xa_ki {post : Int32 → Prop} {t : Nat} {y : Int32} (ht : t < 5) (ha : ac t = 0) (h : post (-3)) : wpX_refusalOfKey post (pk, hk, va, ac, st, sv, rk, lk) (nI t) y := by
  unfold wpX_refusalOfKey
  dsimp only
  exact xa_ri ht ha (br_f (by decide) h)
theorem xa_kk {post : Int32 → Prop} {t : Nat} {y : Int32} (ht : t < 5) (ha : ¬ ac t = 0) (hy : y < 0 ∨ nI 8 ≤ y) (h : post (-2)) : wpX_refusalOfKey post (pk, hk, va, ac, st, sv, rk, lk) (nI t) y := by
  unfold wpX_refusalOfKey
  dsimp only
  exact xa_ro ht ha (br_t rfl (xa_bK hy (br_f (by decide) h)))
theorem xa_ko {post : Int32 → Prop} {t k : Nat} (ht : t < 5) (ha : ¬ ac t = 0) (hk8 : k < 8) (h : post 0) : wpX_refusalOfKey post (pk, hk, va, ac, st, sv, rk, lk) (nI t) (nI k) := by
  unfold wpX_refusalOfKey
  dsimp only
  exact xa_ro ht ha (br_t rfl (xa_oK hk8 (br_t rfl h)))
theorem xa_vw {post : Int32 → Prop} {t : Nat} (h : post (nI (5 * t + 4))) : wpX_viewOf post (nI t) := by
  unfold wpX_viewOf
  have e : nI t * 5 + 4 = nI (5 * t + 4) := vh_5 t 4
  rw [e]
  exact h
theorem xa_has {post : Int32 → Prop} {k : Nat} (hk8 : k < 8) (x : Int32) (h : post (vh_b (bt x k))) : wpX_hasKey post x (nI k) := by
  have e := vh_hk x hk8
  unfold wpX_hasKey
  rw [e]
  cases hb : bt x k
  · rw [hb] at h; exact br_t rfl h
  · rw [hb] at h; exact br_f (by decide) h
theorem xa_cpL {post : SX → Prop} {f g : Nat} {b : Nat → Int32} (hf : f < 26) (hg : g < 26) : ∀ (d i : Nat) (va : Nat → Int32), i + d = 8 → (∀ k, i ≤ k → k < 8 → va (8 * f + k) = b k) → post (pk, hk, vh_f va g b i, ac, st, sv, rk, lk) → wX_copyFrame_26 post (nI f) (nI g) (d + 1) (nI i) pk hk va ac st sv rk lk := by
  intro d
  induction d with
  | zero =>
    intro i va hi hb h
    obtain rfl : i = 8 := by omega
    rw [vh_f8] at h
    exact br_t (by decide) h
  | succ d ih =>
    intro i va hi hb h
    refine br_f (nI_ge (b := 8) (by omega) (by decide)) ⟨pk_in (8 * f + i) 208 (by omega) (vh_8 f i), pk_in (8 * g + i) 208 (by omega) (vh_8 g i), nm_r (e' := upd va (8 * g + i) (b i)) ?_ (nm_r (nI_1 i) ?_)⟩
    · rw [vh_c8 (by omega), vh_c8 (by omega), hb i (by omega) (by omega)]
    · refine ih (i + 1) _ (by omega) (fun k h1 h2 => ?_) ?_
      · rw [pk_un (by omega)]; exact hb k (by omega) h2
      · rw [vh_fs (by omega)]; exact h
theorem xa_cp {post : SX → Prop} {f g : Nat} (hf : f < 26) (hg : g < 26) (h : post (upd pk g (pk f), upd hk g (hk f), vh_f va g (fun k => va (8 * f + k)) 0, ac, st, sv, rk, lk)) : wpX_copyFrame post (pk, hk, va, ac, st, sv, rk, lk) (nI f) (nI g) := by
  refine ⟨vp_in_nI hf (by decide), vp_in_nI hg (by decide), nm_r (e' := upd pk g (pk f)) ?_ ⟨vp_in_nI hf (by decide), vp_in_nI hg (by decide), nm_r (e' := upd hk g (hk f)) ?_ ⟨9, ?_⟩⟩⟩
  · rw [nI_clamp (by omega), nI_clamp (by omega)]
  · rw [nI_clamp (by omega), nI_clamp (by omega)]
  · exact xa_cpL hf hg 8 0 va rfl (fun k _ _ => rfl) h
theorem xa_set {post : SX → Prop} {f k : Nat} (hf : f < 26) (hk8 : k < 8) (b : Bool) (val : Int32) (h : post (upd pk f (vh_set (pk f) k b), hk, upd va (8 * f + k) val, ac, st, sv, rk, lk)) : wpX_setCell post (pk, hk, va, ac, st, sv, rk, lk) (nI f) (nI k) (vh_b b) val := by
  cases b
  · refine br_t rfl ⟨vp_in_nI hf (by decide), vp_in_nI hf (by decide), nm_r (e' := upd pk f (vh_set (pk f) k false)) ?_ ⟨pk_in (8 * f + k) 208 (by omega) (vh_8 f k), nm_r (e' := upd va (8 * f + k) val) ?_ h⟩⟩
    · rw [nI_clamp (by omega)]; rfl
    · rw [vh_c8 (by omega)]
  · refine br_f (by decide) ⟨vp_in_nI hf (by decide), vp_in_nI hf (by decide), nm_r (e' := upd pk f (vh_set (pk f) k true)) ?_ ⟨pk_in (8 * f + k) 208 (by omega) (vh_8 f k), nm_r (e' := upd va (8 * f + k) val) ?_ h⟩⟩
    · rw [nI_clamp (by omega)]; rfl
    · rw [vh_c8 (by omega)]
/-- an active transaction other than t holds key k -/
def vh_E (ac hk : Nat → Int32) (t k : Nat) : Prop := ∃ o, o < 5 ∧ o ≠ t ∧ ¬ ac o = 0 ∧ bt (hk (5 * o + 4)) k = true
theorem xa_hoL {post : Int32 → Prop} {t k : Nat} (ht : t < 5) (hk8 : k < 8) (h1 : vh_E ac hk t k → post 1) (h0 : ¬ vh_E ac hk t k → post 0) : ∀ (d i : Nat), i + d = 5 → (∀ o, o < i → ¬ (o ≠ t ∧ ¬ ac o = 0 ∧ bt (hk (5 * o + 4)) k = true)) → wX_isHeldByAnother_2 post (nI t) (nI k) pk hk va ac st sv rk lk (d + 1) (nI i) := by
  intro d
  induction d with
  | zero =>
    intro i hi hn
    obtain rfl : i = 5 := by omega
    exact br_t (by decide) (h0 (fun ⟨o, ho, r⟩ => hn o ho r))
  | succ d ih =>
    intro i hi hn
    have next : ¬ (i ≠ t ∧ ¬ ac i = 0 ∧ bt (hk (5 * i + 4)) k = true) → wX_isHeldByAnother_2 post (nI t) (nI k) pk hk va ac st sv rk lk (d + 1) (nI (i + 1)) := fun z => ih (i + 1) (by omega) (fun o ho => by
      by_cases e : o = i
      · subst e; exact z
      · exact hn o (by omega))
    refine br_f (nI_ge (b := 5) (by omega) (by decide)) (xa_vw (pk_eq i t (fun e => nm_r (nI_1 i) (next (fun z => z.1 e))) (fun e => ⟨vp_in_nI (by omega) (by decide), br_c (fun z => nm_r (nI_1 i) (next (fun y => y.2.1 ?_))) (fun z => ⟨vp_in_nI (by omega) (by decide), xa_has hk8 _ ?_⟩)⟩)))
    · rw [nI_clamp (by omega)] at z; exact z
    · rw [nI_clamp (by omega)] at z
      rw [nI_clamp (by omega)]
      cases hb : bt (hk (5 * i + 4)) k
      · exact br_t rfl (nm_r (nI_1 i) (next (fun y => absurd (hb.symm.trans y.2.2) (by decide))))
      · exact br_f (by decide) (h1 ⟨i, by omega, e, z, hb⟩)
theorem xa_chg {post : Int32 → Prop} {t k : Nat} (ht : t < 5) (hk8 : k < 8) (h5 : vh_E ac hk t k → post (-5)) (h6 : ¬ vh_E ac hk t k → bt (lk t) k = true → post (-6)) (h0 : ¬ vh_E ac hk t k → bt (lk t) k = false → post 0) : wpX_refusalOfChange post (pk, hk, va, ac, st, sv, rk, lk) (nI t) (nI k) := by
  unfold wpX_refusalOfChange wpX_isHeldByAnother
  dsimp only
  refine ⟨6, xa_hoL ht hk8 (fun e => br_f (by decide) (h5 e)) (fun e => br_t rfl ⟨vp_in_nI ht (by decide), xa_has hk8 _ ?_⟩) 5 0 rfl (fun o ho => absurd ho (by omega))⟩
  rw [nI_clamp (by omega)]
  cases hb : bt (lk t) k
  · exact br_t rfl (h0 e hb)
  · exact br_f (by decide) (h6 e hb)
theorem xa_cnL {post : Int32 → Prop} {x : Int32} (h : post (nI (vh_c (bt x) 8))) : ∀ (d i : Nat), i + d = 8 → wX_countKeys_4 post x (d + 1) (nI (vh_c (bt x) i)) (nI i) := by
  intro d
  induction d with
  | zero =>
    intro i hi
    obtain rfl : i = 8 := by omega
    exact br_t (by decide) h
  | succ d ih =>
    intro i hi
    refine br_f (nI_ge (b := 8) (by omega) (by decide)) (nm_r (e' := nI (vh_c (bt x) (i + 1))) ?_ (nm_r (nI_1 i) (ih (i + 1) (by omega))))
    rw [vh_hk x (by omega), vh_cb]
theorem xa_cn {post : Int32 → Prop} {x : Int32} (h : post (nI (vh_c (bt x) 8))) : wpX_countKeys post x := ⟨9, xa_cnL h 8 0 rfl⟩
theorem xa_plL {post : SX → Prop} {m : Int32} : ∀ (d i : Nat) (lk : Nat → Int32), i + d = 5 → post (pk, hk, va, ac, st, sv, rk, vh_l lk m i) → wX_publish_63 post m (d + 1) (nI i) pk hk va ac st sv rk lk := by
  intro d
  induction d with
  | zero =>
    intro i lk hi h
    obtain rfl : i = 5 := by omega
    rw [vh_l5] at h
    exact br_t (by decide) h
  | succ d ih =>
    intro i lk hi h
    refine br_f (nI_ge (b := 5) (by omega) (by decide)) ⟨vp_in_nI (by omega) (by decide), vp_in_nI (by omega) (by decide), nm_r (e' := upd lk i (lk i ||| m)) ?_ (nm_r (nI_1 i) (ih (i + 1) _ (by omega) ?_))⟩
    · rw [nI_clamp (by omega)]
    · rw [vh_ls (by omega)]; exact h
theorem xa_pbL {post : SX → Prop} {f : Nat} {m : Int32} (hf : f < 25) : ∀ (d i : Nat) (pk va : Nat → Int32), i + d = 8 → (∀ pk' va' : Nat → Int32, (∀ g, g ≠ 25 → pk' g = pk g) → (∀ k, k < 8 → bt (pk' 25) k = if i ≤ k ∧ bt m k = true then bt (pk f) k else bt (pk 25) k) → (∀ j, j < 200 → va' j = va j) → (∀ k, k < 8 → va' (200 + k) = if i ≤ k ∧ bt m k = true then va (8 * f + k) else va (200 + k)) → post (pk', hk, va', ac, st, sv, rk, vh_l lk m 0)) → wX_publish_9 post (nI f) m (d + 1) (nI i) pk hk va ac st sv rk lk := by
  intro d
  induction d with
  | zero =>
    intro i pk va hi K
    obtain rfl : i = 8 := by omega
    refine br_t (by decide) ⟨6, xa_plL 5 0 lk rfl (K pk va (fun _ _ => rfl) (fun k h8 => ?_) (fun _ _ => rfl) (fun k h8 => ?_))⟩
    · rw [if_neg (by omega)]
    · rw [if_neg (by omega)]
  | succ d ih =>
    intro i pk va hi K
    refine br_f (nI_ge (b := 8) (by omega) (by decide)) (xa_has (by omega) m ?_)
    cases hb : bt m i
    · refine br_t rfl (nm_r (nI_1 i) (ih (i + 1) pk va (by omega) (fun pk' va' a b c e => K pk' va' a (fun k h8 => ?_) c (fun k h8 => ?_))))
      · rw [b k h8]
        by_cases q : k = i
        · subst q; rw [if_neg (by omega), if_neg (by rw [hb]; simp)]
        · by_cases q2 : i ≤ k ∧ bt m k = true
          · rw [if_pos q2, if_pos ⟨by omega, q2.2⟩]
          · rw [if_neg q2, if_neg (fun z => q2 ⟨by omega, z.2⟩)]
      · rw [e k h8]
        by_cases q : k = i
        · subst q; rw [if_neg (by omega), if_neg (by rw [hb]; simp)]
        · by_cases q2 : i ≤ k ∧ bt m k = true
          · rw [if_pos q2, if_pos ⟨by omega, q2.2⟩]
          · rw [if_neg q2, if_neg (fun z => q2 ⟨by omega, z.2⟩)]
    · refine br_f (by decide) ⟨vp_in_nI (by omega) (by decide), xa_has (by omega) _ ⟨pk_in (8 * f + i) 208 (by omega) (vh_8 f i), ?_⟩⟩
      rw [nI_clamp (by omega), vh_c8 (by omega)]
      refine xa_set (f := 25) (by omega) (by omega) (bt (pk f) i) (va (8 * f + i)) (nm_r (nI_1 i) (ih (i + 1) _ _ (by omega) (fun pk' va' a b c e => K pk' va' (fun g hg => ?_) (fun k h8 => ?_) (fun j hj => ?_) (fun k h8 => ?_))))
      · rw [a g hg, pk_un hg]
      · rw [b k h8, pk_us, pk_un (show f ≠ 25 by omega), vh_setb _ _ (by omega) (by omega)]
        by_cases q : k = i
        · subst q; rw [if_neg (by omega), if_pos rfl, if_pos ⟨by omega, hb⟩]
        · rw [if_neg q]
          by_cases q2 : i ≤ k ∧ bt m k = true
          · rw [if_pos q2, if_pos ⟨by omega, q2.2⟩]
          · rw [if_neg q2, if_neg (fun z => q2 ⟨by omega, z.2⟩)]
      · rw [c j hj, pk_un (by omega)]
      · rw [e k h8]
        by_cases q : k = i
        · subst q; rw [if_neg (by omega), if_pos ⟨by omega, hb⟩, pk_us]
        · rw [pk_un (show 8 * f + k ≠ 8 * 25 + i by omega), pk_un (show 200 + k ≠ 8 * 25 + i by omega)]
          by_cases q2 : i ≤ k ∧ bt m k = true
          · rw [if_pos q2, if_pos ⟨by omega, q2.2⟩]
          · rw [if_neg q2, if_neg (fun z => q2 ⟨by omega, z.2⟩)]
/-- what publish leaves: frame f's held keys m laid over the committed table -/
def vh_P (pk va pk' va' : Nat → Int32) (f : Nat) (m : Int32) : Prop := (∀ g, g ≠ 25 → pk' g = pk g) ∧ (∀ k, k < 8 → bt (pk' 25) k = if bt m k = true then bt (pk f) k else bt (pk 25) k) ∧ (∀ j, j < 200 → va' j = va j) ∧ (∀ k, k < 8 → va' (200 + k) = if bt m k = true then va (8 * f + k) else va (200 + k))
theorem xa_pb {post : SX → Prop} {f : Nat} (hf : f < 25) (K : ∀ pk' va' : Nat → Int32, vh_P pk va pk' va' f (hk f) → post (pk', hk, va', ac, st, sv, rk, vh_l lk (hk f) 0)) : wpX_publish post (pk, hk, va, ac, st, sv, rk, lk) (nI f) := by
  refine ⟨vp_in_nI (by omega) (by decide), nm_r (e' := hk f) ?_ ⟨9, xa_pbL hf 8 0 pk va rfl (fun pk' va' a b c e => K pk' va' ⟨a, fun k h8 => ?_, c, fun k h8 => ?_⟩)⟩⟩
  · rw [nI_clamp (by omega)]
  · rw [b k h8]
    simp only [Nat.zero_le, true_and]
  · rw [e k h8]
    simp only [Nat.zero_le, true_and]
theorem xa_c73 {post : Int32 → SX → Prop} {f : Nat} (hf : f < 25) (K : ∀ pk' va' : Nat → Int32, vh_P pk va pk' va' f (hk f) → post (nI (vh_c (bt (hk f)) 8)) (pk', hk, va', ac, st, sv, rk, vh_l lk (hk f) 0)) : wX_commit_73 post (nI f) pk hk va ac st sv rk lk := by
  unfold wX_commit_73
  refine xa_pb hf (fun pk' va' h => ⟨vp_in_nI (by omega) (by decide), xa_cn ?_⟩)
  rw [nI_clamp (by omega)]
  exact K pk' va' h
theorem xa_c45 {post : Int32 → SX → Prop} {t : Nat} {z : Bool} (ht : t < 5) (hU : ¬ st t = 0 → ¬ hk (5 * t + 4) = 0 → z = true → post (-9) (pk, hk, va, ac, st, sv, rk, lk)) (K : ¬ (¬ st t = 0 ∧ ¬ hk (5 * t + 4) = 0 ∧ z = true) → ∀ pk' va' : Nat → Int32, vh_P pk va pk' va' (5 * t + 4) (hk (5 * t + 4)) → post (nI (vh_c (bt (hk (5 * t + 4))) 8)) (pk', hk, va', ac, st, sv, rk, vh_l lk (hk (5 * t + 4)) 0)) : wX_commit_45 post (nI t) (nI (5 * t + 4)) (vh_b z) pk hk va ac st sv rk lk := by
  refine ⟨vp_in_nI ht (by decide), br_c (fun a => xa_c73 (by omega) (K ?_)) (fun a => ⟨vp_in_nI (by omega) (by decide), br_c (fun b => xa_c73 (by omega) (K ?_)) (fun b => ?_)⟩)⟩
  · rw [nI_clamp (by omega)] at a; exact fun y => y.1 a
  · rw [nI_clamp (by omega)] at b; exact fun y => y.2.1 b
  · rw [nI_clamp (by omega)] at a b
    cases z
    · exact br_t rfl (xa_c73 (by omega) (K (fun y => absurd y.2.2 (by decide))))
    · exact br_f (by decide) (hU a b rfl)
theorem xa_cm {post : Int32 → SX → Prop} {t : Nat} (ht : t < 5) (ha : ¬ ac t = 0) (hU : ¬ st t = 0 → ¬ hk (5 * t + 4) = 0 → ¬ (rk t &&& lk t) = 0 → post (-9) (pk, hk, va, upd ac t 0, st, sv, rk, lk)) (K : ¬ (¬ st t = 0 ∧ ¬ hk (5 * t + 4) = 0 ∧ ¬ (rk t &&& lk t) = 0) → ∀ pk' va' : Nat → Int32, vh_P pk va pk' va' (5 * t + 4) (hk (5 * t + 4)) → post (nI (vh_c (bt (hk (5 * t + 4))) 8)) (pk', hk, va', upd ac t 0, st, sv, rk, vh_l lk (hk (5 * t + 4)) 0)) : wpX_commit post (pk, hk, va, ac, st, sv, rk, lk) (nI t) := by
  unfold wpX_commit
  dsimp only
  refine xa_ro ht ha (br_t rfl ⟨vp_in_nI ht (by decide), nm_r (e' := upd ac t 0) ?_ (xa_vw ⟨vp_in_nI ht (by decide), vp_in_nI ht (by decide), br_c (fun e => ?_) (fun e => ?_)⟩)⟩)
  · rw [nI_clamp (by omega)]; rfl
  · rw [nI_clamp (by omega)] at e
    exact xa_c45 (z := false) ht (fun _ _ q => absurd q (by decide)) (fun _ => K (fun y => y.2.2 e))
  · rw [nI_clamp (by omega)] at e
    exact xa_c45 (z := true) ht (fun a b _ => hU a b e) (fun q => K (fun y => q ⟨y.1, y.2.1, rfl⟩))
end
