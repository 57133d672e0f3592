/-! the methods, side by side: savepoints, ends, questions -/
section
variable {n : Nat} {pk hk va ac st sv rk lk : Nat → Int32} {cm : Int32} {th vy lc bg hr ct cv ch : Nat → Int32}
theorem vh_s13 {s : Nat} (h0 : 0 < s) (h3 : s ≤ 3) : vh_s s = s := by
  unfold vh_s
  rw [if_neg (by omega), if_neg (by omega)]
/-- a copy of frame i over frame j of one transaction, with the relation kept -/
theorem vh_Gc (G : vh_G n pk hk va ac st sv rk lk cm th vy lc bg hr ct cv ch) {sv' : Nat → Int32} {t i j : Nat} (ht : t < 5) (hi : i < 5) (hj : j < 5) (S' : vh_S sv') : vh_G (n + 4) (upd pk (5 * t + j) (pk (5 * t + i))) (upd hk (5 * t + j) (hk (5 * t + i))) (vh_f va (5 * t + j) (fun k => va (8 * (5 * t + i) + k)) 0) ac st sv' rk lk cm th vy lc bg hr (vh_f ct (5 * t + vh_s j) (fun k => ct (8 * (5 * t + vh_s i) + k)) 0) (vh_f cv (5 * t + vh_s j) (fun k => cv (8 * (5 * t + vh_s i) + k)) 0) (vh_f ch (5 * t + vh_s j) (fun k => ch (8 * (5 * t + vh_s i) + k)) 0) := by
  obtain ⟨⟨n0, n1, n3⟩, F, C, H, D, S, T⟩ := G
  exact ⟨⟨n0, vh_fn n1 (fun k _ => n1 _), vh_fn n3 (fun k _ => n3 _)⟩, vh_Fc F ht hi hj, vh_Cc C (by omega), vh_Hu H (by omega) (H.2 _), D, S', vh_Tup T (by omega)⟩
theorem vc_save (G : vh_G n pk hk va ac st sv rk lk cm th vy lc bg hr ct cv ch) (v1 : Int32) : wpX_save (fun r u' => wpY_save (fun r' v' => r' = r ∧ i_Rel (n + 4) u' v') (cm, th, vy, lc, bg, ac, st, hr, sv, ct, cv, ch) v1) (pk, hk, va, ac, st, sv, rk, lk) v1 := by
  have G0 := G
  obtain ⟨⟨n0, n1, n3⟩, F, C, H, D, S, T⟩ := G
  unfold wpX_save wpY_save
  dsimp only
  rcases pk_ix v1 (n := 5) (by decide) with hx | hx | ⟨t, ht, rfl⟩
  · exact xa_rb (Or.inl hx) (br_f (by decide) (ya_rb (Or.inl hx) (br_f (by decide) (vh_sm G0))))
  · exact xa_rb (Or.inr hx) (br_f (by decide) (ya_rb (Or.inr hx) (br_f (by decide) (vh_sm G0))))
  by_cases ha : ac t = 0
  · exact xa_ri ht ha (br_f (by decide) (ya_ri ht ha (br_f (by decide) (vh_sm G0))))
  obtain ⟨s, hs, es⟩ := S t
  have it := vp_in_nI (n := t) (N := 5) ht (by decide)
  rw [nI_clamp (by omega), es]
  by_cases e3 : s = 3
  · subst e3
    exact xa_ro ht ha (br_t rfl ⟨it, br_f (by decide) (ya_ro (k := 0) ht ha (by omega) (br_t (by decide) ⟨it, br_t rfl (vh_sm G0)⟩))⟩)
  · refine xa_ro ht ha (br_t rfl ⟨it, br_t (nI_lt (b := 3) (by omega) (by decide)) ⟨it, it, nm_r (e' := upd sv t (nI (s + 1))) ?_ (xa_vw ⟨it, ?_⟩)⟩⟩)
    · rw [nI_1]
    · rw [pk_us, vh_5]
      refine xa_cp (by omega) (by omega) ⟨it, ?_⟩
      dsimp only
      rw [pk_us]
      refine ya_ro (k := 0) ht ha (by omega) (br_t (by decide) ⟨it, br_f ?_ ⟨it, it, nm_r (e' := upd sv t (nI (s + 1))) ?_ ⟨it, ?_⟩⟩⟩)
      · exact fun z => e3 ((nI_eq (b := 3) (by omega) (by decide)).mp z)
      · rw [nI_1]
      · rw [pk_us]
        refine ya_cp (f := 0) (g := s + 1) ht (by omega) (by omega) n1 n3 (fun k _ => ⟨rfl, rfl, rfl⟩) ⟨it, ?_⟩
        dsimp only
        rw [pk_us]
        have G1 := vh_Gc G0 (i := 4) (j := s + 1) ht (by omega) (by omega) (vh_Su (t := t) (s := s + 1) S (by omega))
        rw [vh_s13 (by omega) (by omega)] at G1
        exact vh_mk G1
theorem vc_undo (G : vh_G n pk hk va ac st sv rk lk cm th vy lc bg hr ct cv ch) (v1 : Int32) : wpX_undo (fun r u' => wpY_undo (fun r' v' => r' = r ∧ i_Rel (n + 4) u' v') (cm, th, vy, lc, bg, ac, st, hr, sv, ct, cv, ch) v1) (pk, hk, va, ac, st, sv, rk, lk) v1 := by
  have G0 := G
  obtain ⟨⟨n0, n1, n3⟩, F, C, H, D, S, T⟩ := G
  unfold wpX_undo wpY_undo
  dsimp only
  rcases pk_ix v1 (n := 5) (by decide) with hx | hx | ⟨t, ht, rfl⟩
  · exact xa_rb (Or.inl hx) (br_f (by decide) (ya_rb (Or.inl hx) (br_f (by decide) (vh_sm G0))))
  · exact xa_rb (Or.inr hx) (br_f (by decide) (ya_rb (Or.inr hx) (br_f (by decide) (vh_sm G0))))
  by_cases ha : ac t = 0
  · exact xa_ri ht ha (br_f (by decide) (ya_ri ht ha (br_f (by decide) (vh_sm G0))))
  obtain ⟨s, hs, es⟩ := S t
  have it := vp_in_nI (n := t) (N := 5) ht (by decide)
  rw [nI_clamp (by omega), es, vh_5]
  by_cases e0 : s = 0
  · subst e0
    refine xa_ro ht ha (br_t rfl (xa_vw ⟨it, xa_cp (by omega) (by omega) ⟨it, ?_⟩⟩))
    dsimp only
    rw [es]
    exact br_t (by decide) ⟨it, ya_ro (k := 0) ht ha (by omega) (br_t (by decide) ⟨it, br_t rfl (ya_cp (f := 4) (g := 0) ht (by omega) (by omega) n1 n3 (fun k _ => ⟨rfl, rfl, rfl⟩) (vh_mk (vh_Gc G0 (i := 0) (j := 4) ht (by omega) (by omega) S)))⟩)⟩
  · refine xa_ro ht ha (br_t rfl (xa_vw ⟨it, xa_cp (by omega) (by omega) ⟨it, ?_⟩⟩))
    obtain ⟨m, rfl⟩ : ∃ m, s = m + 1 := ⟨s - 1, by omega⟩
    dsimp only
    rw [es]
    refine br_f (nI_nle (by omega) (by omega)) ⟨it, it, nm_r (e' := upd sv t (nI m)) ?_ ⟨it, ?_⟩⟩
    · rw [nI_pred]
    · rw [pk_us]
      refine ya_ro (k := 0) ht ha (by omega) (br_t (by decide) ⟨it, br_f (nI_ne0 (by omega) (by omega)) ⟨it, ya_cp (f := m + 1) (g := 0) ht (by omega) (by omega) n1 n3 (fun k _ => ⟨rfl, rfl, rfl⟩) ⟨it, it, nm_r (e' := upd sv t (nI m)) ?_ ⟨it, ?_⟩⟩⟩⟩)
      · dsimp only
        rw [es, nI_pred]
      · dsimp only
        rw [pk_us]
        have G1 := vh_Gc G0 (i := m + 1) (j := 4) ht (by omega) (by omega) (vh_Su (t := t) (s := m) S (by omega))
        rw [vh_s13 (s := m + 1) (by omega) (by omega)] at G1
        exact vh_mk G1
theorem vc_abort (G : vh_G n pk hk va ac st sv rk lk cm th vy lc bg hr ct cv ch) (v1 : Int32) : wpX_abort (fun r u' => wpY_abort (fun r' v' => r' = r ∧ i_Rel (n + 4) u' v') (cm, th, vy, lc, bg, ac, st, hr, sv, ct, cv, ch) v1) (pk, hk, va, ac, st, sv, rk, lk) v1 := by
  have G0 := G
  obtain ⟨⟨n0, n1, n3⟩, F, C, H, D, S, T⟩ := G
  unfold wpX_abort wpY_abort
  dsimp only
  rcases pk_ix v1 (n := 5) (by decide) with hx | hx | ⟨t, ht, rfl⟩
  · exact xa_rb (Or.inl hx) (br_f (by decide) (ya_rb (Or.inl hx) (br_f (by decide) (vh_sm G0))))
  · exact xa_rb (Or.inr hx) (br_f (by decide) (ya_rb (Or.inr hx) (br_f (by decide) (vh_sm G0))))
  by_cases ha : ac t = 0
  · exact xa_ri ht ha (br_f (by decide) (ya_ri ht ha (br_f (by decide) (vh_sm G0))))
  have it := vp_in_nI (n := t) (N := 5) ht (by decide)
  have hp : ∀ k, k < 8 → ch (8 * (5 * t) + k) = vh_b (bt (hk (5 * t + 4)) k) := fun k h8 => (vh_Fv F ht h8).2.1
  have GU : vh_G (n + 4) pk hk va (upd ac t 0) st sv rk lk cm th vy lc bg hr ct cv ch := ⟨⟨n0, n1, n3⟩, F, C, H, D, S, vh_Tup (vh_Ti T vh_off) (by omega)⟩
  refine xa_ro ht ha (br_t rfl ⟨it, nm_r (e' := upd ac t 0) ?_ (xa_vw ⟨vp_in_nI (by omega) (by decide), xa_cn ?_⟩)⟩)
  · rw [nI_clamp (by omega)]; rfl
  · rw [nI_clamp (n := 5 * t + 4) (by omega)]
    refine ya_ro (k := 0) ht ha (by omega) (br_t (by decide) (ya_hk ht ha hp ⟨it, nm_r (e' := upd ac t 0) ?_ (vh_mk GU)⟩))
    rw [nI_clamp (by omega)]; rfl
theorem vc_commit (G : vh_G n pk hk va ac st sv rk lk cm th vy lc bg hr ct cv ch) (hn : n + 4 ≤ 2048) (v1 : Int32) : wpX_commit (fun r u' => wpY_commit (fun r' v' => r' = r ∧ i_Rel (n + 4) u' v') (cm, th, vy, lc, bg, ac, st, hr, sv, ct, cv, ch) v1) (pk, hk, va, ac, st, sv, rk, lk) v1 := by
  have G0 := G
  obtain ⟨⟨n0, n1, n3⟩, F, C, H, D, S, T⟩ := G
  have early : v1 < 0 ∨ nI 5 ≤ v1 → wpX_commit (fun r u' => wpY_commit (fun r' v' => r' = r ∧ i_Rel (n + 4) u' v') (cm, th, vy, lc, bg, ac, st, hr, sv, ct, cv, ch) v1) (pk, hk, va, ac, st, sv, rk, lk) v1 := by
    intro hx
    unfold wpX_commit wpY_commit
    dsimp only
    exact xa_rb hx (br_f (by decide) (ya_rb hx (br_f (by decide) (vh_sm G0))))
  rcases pk_ix v1 (n := 5) (by decide) with hx | hx | ⟨t, ht, rfl⟩
  · exact early (Or.inl hx)
  · exact early (Or.inr hx)
  by_cases ha : ac t = 0
  · unfold wpX_commit wpY_commit
    dsimp only
    exact xa_ri ht ha (br_f (by decide) (ya_ri ht ha (br_f (by decide) (vh_sm G0))))
  have T0 := T
  obtain ⟨c, L, B, t1, t2, t3, t4, t5⟩ := T0
  have hp : ∀ k, k < 8 → ch (8 * (5 * t) + k) = vh_b (bt (hk (5 * t + 4)) k) := fun k h8 => (vh_Fv F ht h8).2.1
  have hl := t5 t ht ha
  have q4 := t4 t ht
  have eh : hk (5 * t + 4) = 0 ↔ vh_c (bt (hk (5 * t + 4))) 8 = 0 := (vh_m0 (H.2 _)).trans ⟨vh_cz _ 8, vh_c0 _ 8⟩
  have er : rk t &&& lk t = 0 ↔ ¬ ∃ k, k < 8 ∧ bt (rk t) k = true ∧ decide (B t < L k) = true := by
    refine (vh_m0 (fun i hi => by rw [b_and, D.2 t i hi, Bool.false_and])).trans ⟨fun h => ?_, fun h k h8 => ?_⟩
    · intro ⟨k, h8, y1, y2⟩
      have := h k h8
      rw [b_and, hl k h8, y1, y2] at this
      exact absurd this (by decide)
    · rw [b_and, hl k h8]
      cases y1 : bt (rk t) k
      · rfl
      · cases y2 : decide (B t < L k)
        · rfl
        · exact absurd ⟨k, h8, y1, y2⟩ h
  have GU : vh_G (n + 4) pk hk va (upd ac t 0) st sv rk lk cm th vy lc bg hr ct cv ch := ⟨⟨n0, n1, n3⟩, F, C, H, D, S, vh_Tup (vh_Ti T vh_off) (by omega)⟩
  refine xa_cm ht ha (fun a b r => ?_) (fun o pk' va' P => ?_)
  · refine ya_cm ht ha n0 n1 hp (D.1 t ht) (fun k h8 => (t3 k h8).1) q4.1 (fun k h8 => by have := (t3 k h8).2; omega) (by omega) (fun _ _ _ => vh_mk GU) (fun z => absurd ⟨a, fun y => b (eh.mpr y), ?_⟩ z)
    exact Classical.byContradiction (fun y => r (er.mpr y))
  · exact ya_cm ht ha n0 n1 hp (D.1 t ht) (fun k h8 => (t3 k h8).1) q4.1 (fun k h8 => by have := (t3 k h8).2; omega) (by omega) (fun a b x => absurd ⟨a, fun y => b (eh.mp y), fun y => er.mp y x⟩ o) (fun _ th' vy' lc' n' q => vh_mk ⟨⟨n', n1, n3⟩, vh_Fk F P, vh_Ck ht F C P q, H, D, S, vh_Tc T q⟩)
theorem vc_crash (G : vh_G n pk hk va ac st sv rk lk cm th vy lc bg hr ct cv ch) : wpX_crash (fun r u' => wpY_crash (fun r' v' => r' = r ∧ i_Rel (n + 4) u' v') (cm, th, vy, lc, bg, ac, st, hr, sv, ct, cv, ch)) (pk, hk, va, ac, st, sv, rk, lk) := by
  obtain ⟨⟨n0, n1, n3⟩, F, C, H, D, S, T⟩ := G
  exact ⟨6, xa_crL (a0 := ac) 5 0 ac rfl (fun _ _ => rfl) ⟨6, ya_crL (a0 := ac) 5 0 ac rfl (fun _ _ => rfl) (vh_mk ⟨⟨n0, n1, n3⟩, F, C, H, D, S, vh_Tup (vh_Ti T (fun s hs z => absurd (vh_za hs) z)) (by omega)⟩)⟩⟩
theorem vc_size (G : vh_G n pk hk va ac st sv rk lk cm th vy lc bg hr ct cv ch) (v1 : Int32) : wpX_size (fun r => wpY_size (fun r' => r' = r ∧ i_Rel (n + 4) (pk, hk, va, ac, st, sv, rk, lk) (cm, th, vy, lc, bg, ac, st, hr, sv, ct, cv, ch)) (cm, th, vy, lc, bg, ac, st, hr, sv, ct, cv, ch) v1) (pk, hk, va, ac, st, sv, rk, lk) v1 := by
  have G0 := G
  obtain ⟨⟨n0, n1, n3⟩, F, C, H, D, S, T⟩ := G
  unfold wpX_size wpY_size
  dsimp only
  rcases pk_ix v1 (n := 5) (by decide) with hx | hx | ⟨t, ht, rfl⟩
  · exact xa_rb (Or.inl hx) (br_f (by decide) (ya_rb (Or.inl hx) (br_f (by decide) (vh_sm G0))))
  · exact xa_rb (Or.inr hx) (br_f (by decide) (ya_rb (Or.inr hx) (br_f (by decide) (vh_sm G0))))
  by_cases ha : ac t = 0
  · exact xa_ri ht ha (br_f (by decide) (ya_ri ht ha (br_f (by decide) (vh_sm G0))))
  have hp : ∀ k, k < 8 → ct (8 * (5 * t) + k) = vh_b (bt (pk (5 * t + 4)) k) := fun k h8 => (vh_Fv F ht h8).1
  refine xa_ro ht ha (br_t rfl (xa_vw ⟨vp_in_nI (by omega) (by decide), xa_cn ?_⟩))
  rw [nI_clamp (by omega)]
  exact ya_ro (k := 0) ht ha (by omega) (br_t (by decide) ⟨9, ya_szL ht hp (vh_sm G0) 8 0 rfl⟩)
theorem vc_find (G : vh_G n pk hk va ac st sv rk lk cm th vy lc bg hr ct cv ch) (v1 v2 : Int32) : wpX_find (fun r => wpY_find (fun r' => r' = r ∧ i_Rel (n + 4) (pk, hk, va, ac, st, sv, rk, lk) (cm, th, vy, lc, bg, ac, st, hr, sv, ct, cv, ch)) (cm, th, vy, lc, bg, ac, st, hr, sv, ct, cv, ch) v1 v2) (pk, hk, va, ac, st, sv, rk, lk) v1 v2 := by
  have G0 := G
  obtain ⟨⟨n0, n1, n3⟩, F, C, H, D, S, T⟩ := G
  unfold wpX_find wpY_find
  dsimp only
  rcases pk_ix v1 (n := 5) (by decide) with hx | hx | ⟨t, ht, rfl⟩
  · exact xa_rb (Or.inl hx) (br_f (by decide) (ya_rb (Or.inl hx) (br_f (by decide) (vh_sm G0))))
  · exact xa_rb (Or.inr hx) (br_f (by decide) (ya_rb (Or.inr hx) (br_f (by decide) (vh_sm G0))))
  by_cases ha : ac t = 0
  · exact xa_ri ht ha (br_f (by decide) (ya_ri ht ha (br_f (by decide) (vh_sm G0))))
  obtain ⟨r, hX, hY⟩ := vh_fd (pk := pk) (hk := hk) (va := va) (ac := ac) (st := st) (sv := sv) (rk := rk) (lk := lk) (cm := cm) (th := th) (vy := vy) (lc := lc) (bg := bg) (ay := ac) (sy := st) (hr := hr) (ss := sv) (ct := ct) (cv := cv) (ch := ch) (val := v2) ht (fun k h8 => ⟨(vh_Fv F ht h8).1, (vh_Fv F ht h8).2.2⟩) 8 0 rfl
  exact xa_ro ht ha (br_t rfl (xa_vw ⟨9, hX _ (ya_ro (k := 0) ht ha (by omega) (br_t (by decide) ⟨9, hY _ (vh_sm G0)⟩))⟩))
theorem vc_committed (G : vh_G n pk hk va ac st sv rk lk cm th vy lc bg hr ct cv ch) (v1 : Int32) : wpX_committed (fun r => wpY_committed (fun r' => r' = r ∧ i_Rel (n + 4) (pk, hk, va, ac, st, sv, rk, lk) (cm, th, vy, lc, bg, ac, st, hr, sv, ct, cv, ch)) (cm, th, vy, lc, bg, ac, st, hr, sv, ct, cv, ch) v1) (pk, hk, va, ac, st, sv, rk, lk) v1 := by
  have G0 := G
  obtain ⟨⟨n0, n1, n3⟩, F, C, H, D, S, T⟩ := G
  unfold wpX_committed
  dsimp only
  rcases pk_ix v1 (n := 8) (by decide) with hx | hx | ⟨k, h8, rfl⟩
  · exact xa_bK (Or.inl hx) (br_f (by decide) (br_t hx (vh_sm G0)))
  · exact xa_bK (Or.inr hx) (br_f (by decide) (br_f (xa_nl8 hx) (br_t hx (vh_sm G0))))
  obtain ⟨c1, c2⟩ := C k h8
  have n8 : ¬ (8 : Int32) ≤ nI k := nI_ge (b := 8) h8 (by decide)
  have i8 := vp_in_nI (n := k) (N := 8) h8 (by decide)
  refine xa_oK h8 (br_t rfl (xa_has h8 _ ?_))
  cases hb : bt (pk 25) k
  · rw [hb] at c1
    refine br_t rfl (br_f (nI_pos (by omega)) (br_f n8 ⟨i8, br_t ?_ (vh_sm G0)⟩))
    rw [nI_clamp (by omega), c1]; rfl
  · rw [hb] at c1
    refine br_f (by decide) ⟨pk_in (200 + k) 208 (by omega) (vh_200 k), br_f (nI_pos (by omega)) (br_f n8 ⟨i8, br_f ?_ ⟨i8, ?_⟩⟩)⟩
    · rw [nI_clamp (by omega), c1]; decide
    · rw [vh_200, nI_clamp (by omega), nI_clamp (by omega), c2]
      exact vh_sm G0
theorem vc_committedSize (G : vh_G n pk hk va ac st sv rk lk cm th vy lc bg hr ct cv ch) : wpX_committedSize (fun r => wpY_committedSize (fun r' => r' = r ∧ i_Rel (n + 4) (pk, hk, va, ac, st, sv, rk, lk) (cm, th, vy, lc, bg, ac, st, hr, sv, ct, cv, ch)) (cm, th, vy, lc, bg, ac, st, hr, sv, ct, cv, ch)) (pk, hk, va, ac, st, sv, rk, lk) := by
  have G0 := G
  obtain ⟨⟨n0, n1, n3⟩, F, C, H, D, S, T⟩ := G
  unfold wpX_committedSize
  dsimp only
  exact xa_cn ⟨9, ya_csL (fun k h8 => (C k h8).1) (vh_sm G0) 8 0 rfl⟩
end
