/-! the methods, side by side: transactions' own -/
section
variable {n : Nat} {pk hk va ac st sv rk lk : Nat → Int32} {cm : Int32} {th vy lc bg hr ct cv ch : Nat → Int32}
/-- the relation without the arrays that are the same function on both sides -/
def vh_G (n : Nat) (pk hk va ac st sv rk lk : Nat → Int32) (cm : Int32) (th vy lc bg hr ct cv ch : Nat → Int32) : Prop := (vh_n th ∧ vh_n ct ∧ vh_n ch) ∧ vh_F pk hk va ct cv ch ∧ vh_C pk va th vy ∧ vh_H hk ∧ vh_D rk hr ∧ vh_S sv ∧ vh_T n cm lc bg ac lk
theorem vh_mk {r : Int32} (G : vh_G n pk hk va ac st sv rk lk cm th vy lc bg hr ct cv ch) : r = r ∧ i_Rel n (pk, hk, va, ac, st, sv, rk, lk) (cm, th, vy, lc, bg, ac, st, hr, sv, ct, cv, ch) := ⟨rfl, ⟨rfl, rfl, rfl⟩, G⟩
theorem vh_Gu (G : vh_G n pk hk va ac st sv rk lk cm th vy lc bg hr ct cv ch) : vh_G (n + 4) pk hk va ac st sv rk lk cm th vy lc bg hr ct cv ch := ⟨G.1, G.2.1, G.2.2.1, G.2.2.2.1, G.2.2.2.2.1, G.2.2.2.2.2.1, vh_Tup G.2.2.2.2.2.2 (by omega)⟩
theorem vh_sm {r : Int32} (G : vh_G n pk hk va ac st sv rk lk cm th vy lc bg hr ct cv ch) : r = r ∧ i_Rel (n + 4) (pk, hk, va, ac, st, sv, rk, lk) (cm, th, vy, lc, bg, ac, st, hr, sv, ct, cv, ch) := vh_mk (vh_Gu G)
theorem vh_5le {x : Int32} (h : nI 5 ≤ x) : ¬ x ≤ 4 := fun z => absurd (Int32.le_trans h z) (by decide)
theorem vc_begin (G : vh_G n pk hk va ac st sv rk lk cm th vy lc bg hr ct cv ch) (v1 v2 : Int32) : wpX_begin (fun r u' => wpY_begin (fun r' v' => r' = r ∧ i_Rel (n + 4) u' v') (cm, th, vy, lc, bg, ac, st, hr, sv, ct, cv, ch) v1 (lw_bz v2)) (pk, hk, va, ac, st, sv, rk, lk) v1 (lw_bz v2) := by
  have G0 := G
  obtain ⟨⟨n0, n1, n3⟩, F, C, H, D, S, T⟩ := G
  unfold wpX_begin
  dsimp only
  rcases pk_ix v1 (n := 5) (by decide) with hx | hx | ⟨t, ht, rfl⟩
  · exact xa_bT (Or.inl hx) (br_f (by decide) (br_t hx (vh_sm G0)))
  · exact xa_bT (Or.inr hx) (br_f (by decide) (br_f (xa_nl5 hx) (br_f (vh_5le hx) (vh_sm G0))))
  · have e4 : nI t * 5 + 4 = nI (5 * t + 4) := vh_5 t 4
    have it := vp_in_nI (n := t) (N := 5) ht (by decide)
    rw [e4, vh_50, nI_clamp (by omega)]
    by_cases ha : ac t = 0
    · refine xa_oT ht (br_t rfl ⟨it, br_t ha (xa_cp (f := 25) (g := 5 * t) (by omega) (by omega) (xa_cp (f := 25) (g := 5 * t + 4) (by omega) (by omega) ⟨it, nm_r (e' := upd ac t 1) rfl ⟨it, nm_r (e' := upd st t (lw_bz v2)) ?_ ⟨it, nm_e ⟨it, nm_e ⟨it, nm_e ?_⟩⟩⟩⟩⟩))⟩)
      · rw [vh_nb (lw_bz_01 v2)]
      · exact ya_bg ht ha n0 n1 n3 (lw_bz_01 v2) (vh_mk ⟨⟨n0, vh_fn (vh_fn n1 (fun k _ => n0 k)) (fun k _ => n0 k), vh_fn (vh_fn n3 (fun _ _ => Or.inl rfl)) (fun _ _ => Or.inl rfl)⟩, vh_Fb F C H ht, vh_Cb C ht, vh_Hb H ht, vh_Db D ht, vh_Su (s := 0) S (by omega), vh_Tup (vh_Tb T ht) (by omega)⟩)
    · refine xa_oT ht (br_t rfl ⟨it, br_f ha (br_f (nI_pos (by omega)) (br_t (nI_le (b := 4) (by omega) (by decide)) ⟨it, br_f ?_ (vh_sm G0)⟩))⟩)
      rw [nI_clamp (by omega)]; exact ha
theorem vc_put (G : vh_G n pk hk va ac st sv rk lk cm th vy lc bg hr ct cv ch) (hn : n + 4 ≤ 2048) (v1 v2 v3 : Int32) : wpX_put (fun r u' => wpY_put (fun r' v' => r' = r ∧ i_Rel (n + 4) u' v') (cm, th, vy, lc, bg, ac, st, hr, sv, ct, cv, ch) v1 v2 v3) (pk, hk, va, ac, st, sv, rk, lk) v1 v2 v3 := by
  have G0 := G
  obtain ⟨⟨n0, n1, n3⟩, F, C, H, D, S, T⟩ := G
  unfold wpX_put wpY_put
  dsimp only
  rcases pk_ix v1 (n := 5) (by decide) with hx | hx | ⟨t, ht, rfl⟩
  · exact xa_kb (Or.inl hx) (br_f (by decide) (br_f (by decide) (ya_rb (Or.inl hx) (br_f (by decide) (vh_sm G0)))))
  · exact xa_kb (Or.inr hx) (br_f (by decide) (br_f (by decide) (ya_rb (Or.inr hx) (br_f (by decide) (vh_sm G0)))))
  by_cases ha : ac t = 0
  · exact xa_ki ht ha (br_f (by decide) (br_f (by decide) (ya_ri ht ha (br_f (by decide) (vh_sm G0)))))
  rcases pk_ix v2 (n := 8) (by decide) with hx | hx | ⟨k, h8, rfl⟩
  · exact xa_kk ht ha (Or.inl hx) (br_f (by decide) (br_f (by decide) (ya_rk ht ha (Or.inl hx) (br_f (by decide) (vh_sm G0)))))
  · exact xa_kk ht ha (Or.inr hx) (br_f (by decide) (br_f (by decide) (ya_rk ht ha (Or.inr hx) (br_f (by decide) (vh_sm G0)))))
  sorry
end
