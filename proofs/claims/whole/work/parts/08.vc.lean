/-! the methods, side by side: transactions' own -/
section
variable {n : Nat} {pk hk va ac st sv rk lk : Nat → Int32} {cm : Int32} {th vy lc bg hr ct cv ch : Nat → Int32}
/-- the relation without the arrays that are the same function on both sides -/
def vh_G (n : Nat) (pk hk va ac st sv rk lk : Nat → Int32) (cm : Int32) (th vy lc bg hr ct cv ch : Nat → Int32) : Prop := (vh_n th ∧ vh_n ct ∧ vh_n ch) ∧ vh_F pk hk va ct cv ch ∧ vh_C pk va th vy ∧ vh_H hk ∧ vh_D rk hr ∧ vh_S sv ∧ vh_T n cm lc bg ac lk
theorem vh_mk {r : Int32} (G : vh_G n pk hk va ac st sv rk lk cm th vy lc bg hr ct cv ch) : r = r ∧ i_Rel n (pk, hk, va, ac, st, sv, rk, lk) (cm, th, vy, lc, bg, ac, st, hr, sv, ct, cv, ch) := ⟨rfl, ⟨rfl, rfl, rfl⟩, G⟩
theorem vh_Gu (G : vh_G n pk hk va ac st sv rk lk cm th vy lc bg hr ct cv ch) : vh_G (n + 4) pk hk va ac st sv rk lk cm th vy lc bg hr ct cv ch := ⟨G.1, G.2.1, G.2.2.1, G.2.2.2.1, G.2.2.2.2.1, G.2.2.2.2.2.1, vh_Tup G.2.2.2.2.2.2 (by omega)⟩
theorem vh_sm {r : Int32} (G : vh_G n pk hk va ac st sv rk lk cm th vy lc bg hr ct cv ch) : r = r ∧ i_Rel (n + 4) (pk, hk, va, ac, st, sv, rk, lk) (cm, th, vy, lc, bg, ac, st, hr, sv, ct, cv, ch) := vh_mk (vh_Gu G)
theorem vh_5le {x : Int32} (h : nI 5 ≤ x) : ¬ x ≤ 4 := fun z => absurd (Int32.le_trans h z) (by decide)
theorem vc_begin (G : vh_G n pk hk va ac st sv rk lk cm th vy lc bg hr ct cv ch) (v1 v2 : Int32) : wpX_begin (fun r u' => wpY_begin (fun r' v' => r' = r ∧ i_Rel (n + 4) u' v') (cm, th, vy, lc, bg, ac, st, hr, sv, ct, cv, ch) v1 (lw_bz v2)) (pk, hk, va, ac, st, sv, rk, lk) v1 (lw_bz v2) := by
  have G0 := G
  obtain ⟨⟨n0, n1, n3⟩, F, C, H, D, S, T⟩ := G
  unfold wpX_begin
  dsimp only
  rcases pk_ix v1 (n := 5) (by decide) with hx | hx | ⟨t, ht, rfl⟩
  · exact xa_bT (Or.inl hx) (br_f (by decide) (br_t hx (vh_sm G0)))
  · exact xa_bT (Or.inr hx) (br_f (by decide) (br_f (xa_nl5 hx) (br_f (vh_5le hx) (vh_sm G0))))
  · have e4 : nI t * 5 + 4 = nI (5 * t + 4) := vh_5 t 4
    have it := vp_in_nI (n := t) (N := 5) ht (by decide)
    rw [e4, vh_50, nI_clamp (by omega)]
    by_cases ha : ac t = 0
    · refine xa_oT ht (br_t rfl ⟨it, br_t ha (xa_cp (f := 25) (g := 5 * t) (by omega) (by omega) (xa_cp (f := 25) (g := 5 * t + 4) (by omega) (by omega) ⟨it, nm_r (e' := upd ac t 1) rfl ⟨it, nm_r (e' := upd st t (lw_bz v2)) ?_ ⟨it, nm_e ⟨it, nm_e ⟨it, nm_e ?_⟩⟩⟩⟩⟩))⟩)
      · rw [vh_nb (lw_bz_01 v2)]
      · exact ya_bg ht ha n0 n1 n3 (lw_bz_01 v2) (vh_mk ⟨⟨n0, vh_fn (vh_fn n1 (fun k _ => n0 k)) (fun k _ => n0 k), vh_fn (vh_fn n3 (fun _ _ => Or.inl rfl)) (fun _ _ => Or.inl rfl)⟩, vh_Fb F C H ht, vh_Cb C ht, vh_Hb H ht, vh_Db D ht, vh_Su (s := 0) S (by omega), vh_Tup (vh_Tb T ht) (by omega)⟩)
    · refine xa_oT ht (br_t rfl ⟨it, br_f ha (br_f (nI_pos (by omega)) (br_t (nI_le (b := 4) (by omega) (by decide)) ⟨it, br_f ?_ (vh_sm G0)⟩))⟩)
      rw [nI_clamp (by omega)]; exact ha
/-- a change of key x in the view, with the relation kept -/
theorem vh_Gp (G : vh_G n pk hk va ac st sv rk lk cm th vy lc bg hr ct cv ch) {t x : Nat} (ht : t < 5) (hx : x < 8) (b : Bool) (val : Int32) : vh_G (n + 4) (upd pk (5 * t + 4) (vh_set (pk (5 * t + 4)) x b)) (upd hk (5 * t + 4) (hk (5 * t + 4) ||| ((1 : Int32) <<< (nI x &&& 31)))) (upd va (8 * (5 * t + 4) + x) val) ac st sv rk lk cm th vy lc bg hr (upd ct (8 * (5 * t) + x) (vh_b b)) (upd cv (8 * (5 * t) + x) val) (upd ch (8 * (5 * t) + x) 1) := by
  obtain ⟨⟨n0, n1, n3⟩, F, C, H, D, S, T⟩ := G
  exact ⟨⟨n0, vh_nu n1 (vh_b01 b), vh_nu n3 (Or.inr rfl)⟩, vh_Fp F hx ht, vh_Cu C (by omega) (by omega), vh_Hu H (by omega) (vh_or8 (H.2 _) hx), D, S, vh_Tup T (by omega)⟩
theorem xa_54 {post : Int32 → SX → Prop} {t k : Nat} {z val : Int32} (ht : t < 5) (h8 : k < 8) (h : post z (upd pk (5 * t + 4) (vh_set (pk (5 * t + 4)) k true), upd hk (5 * t + 4) (hk (5 * t + 4) ||| ((1 : Int32) <<< (nI k &&& 31))), upd va (8 * (5 * t + 4) + k) val, ac, st, sv, rk, lk)) : wX_put_54 post (nI k) val (nI (5 * t + 4)) z pk hk va ac st sv rk lk := by
  have iv := vp_in_nI (n := 5 * t + 4) (N := 26) (by omega) (by decide)
  refine ⟨iv, iv, nm_r (e' := upd hk (5 * t + 4) (hk (5 * t + 4) ||| ((1 : Int32) <<< (nI k &&& 31)))) ?_ (xa_set (by omega) h8 true val h)⟩
  rw [nI_clamp (by omega)]
theorem vc_put (G : vh_G n pk hk va ac st sv rk lk cm th vy lc bg hr ct cv ch) (hn : n + 4 ≤ 2048) (v1 v2 v3 : Int32) : wpX_put (fun r u' => wpY_put (fun r' v' => r' = r ∧ i_Rel (n + 4) u' v') (cm, th, vy, lc, bg, ac, st, hr, sv, ct, cv, ch) v1 v2 v3) (pk, hk, va, ac, st, sv, rk, lk) v1 v2 v3 := by
  have G0 := G
  obtain ⟨⟨n0, n1, n3⟩, F, C, H, D, S, T⟩ := G
  unfold wpX_put wpY_put
  dsimp only
  rcases pk_ix v1 (n := 5) (by decide) with hx | hx | ⟨t, ht, rfl⟩
  · exact xa_kb (Or.inl hx) (br_f (by decide) (br_f (by decide) (ya_rb (Or.inl hx) (br_f (by decide) (vh_sm G0)))))
  · exact xa_kb (Or.inr hx) (br_f (by decide) (br_f (by decide) (ya_rb (Or.inr hx) (br_f (by decide) (vh_sm G0)))))
  by_cases ha : ac t = 0
  · exact xa_ki ht ha (br_f (by decide) (br_f (by decide) (ya_ri ht ha (br_f (by decide) (vh_sm G0)))))
  rcases pk_ix v2 (n := 8) (by decide) with hx | hx | ⟨k, h8, rfl⟩
  · exact xa_kk ht ha (Or.inl hx) (br_f (by decide) (br_f (by decide) (ya_rk ht ha (Or.inl hx) (br_f (by decide) (vh_sm G0)))))
  · exact xa_kk ht ha (Or.inr hx) (br_f (by decide) (br_f (by decide) (ya_rk ht ha (Or.inr hx) (br_f (by decide) (vh_sm G0)))))
  obtain ⟨c, L, B, t1, t2, t3, t4, t5⟩ := T
  have hC : ∀ o, o < 5 → ch (8 * (5 * o) + k) = vh_b (bt (hk (5 * o + 4)) k) := fun o ho => (vh_Fv F ho h8).2.1
  have hl := t5 t ht ha k h8
  have q3 := t3 k h8
  have q4 := t4 t ht
  have hv := (vh_Fv F ht h8).1
  refine xa_ko ht ha h8 (br_t rfl (xa_chg ht h8 (fun e => br_f (by decide) ?_) (fun e l => br_f (by decide) ?_) (fun e l => br_t rfl (xa_vw ⟨vp_in_nI (by omega) (by decide), xa_has h8 _ ?_⟩))))
  · exact ya_ro ht ha h8 (br_t (by decide) (ya_chg (b := true) ht h8 hC hv q3.1 q4.1 (by omega) (by omega) (fun _ => vh_sm G0) (fun z _ => absurd e z) (fun z _ => absurd e z)))
  · exact ya_ro ht ha h8 (br_t (by decide) (ya_chg (b := true) ht h8 hC hv q3.1 q4.1 (by omega) (by omega) (fun z => absurd z e) (fun _ _ => vh_sm G0) (fun _ z => absurd (l.symm.trans (hl.trans z)) (by decide))))
  · rw [nI_clamp (by omega)]
    cases hb : bt (pk (5 * t + 4)) k
    · rw [hb] at hv
      exact br_t rfl (xa_54 ht h8 (ya_ro ht ha h8 (br_t (by decide) (ya_chg (b := true) (p := false) ht h8 hC hv q3.1 q4.1 (by omega) (by omega) (fun z => absurd z e) (fun _ z => absurd (l.symm.trans (hl.trans z)) (by decide)) (fun _ _ => vh_mk (vh_Gp G0 ht h8 true v3))))))
    · rw [hb] at hv
      exact br_f (by decide) (xa_54 ht h8 (ya_ro ht ha h8 (br_t (by decide) (ya_chg (b := true) (p := true) ht h8 hC hv q3.1 q4.1 (by omega) (by omega) (fun z => absurd z e) (fun _ z => absurd (l.symm.trans (hl.trans z)) (by decide)) (fun _ _ => vh_mk (vh_Gp G0 ht h8 true v3))))))
theorem vc_remove (G : vh_G n pk hk va ac st sv rk lk cm th vy lc bg hr ct cv ch) (hn : n + 4 ≤ 2048) (v1 v2 : Int32) : wpX_remove (fun r u' => wpY_remove (fun r' v' => r' = r ∧ i_Rel (n + 4) u' v') (cm, th, vy, lc, bg, ac, st, hr, sv, ct, cv, ch) v1 v2) (pk, hk, va, ac, st, sv, rk, lk) v1 v2 := by
  have G0 := G
  obtain ⟨⟨n0, n1, n3⟩, F, C, H, D, S, T⟩ := G
  unfold wpX_remove wpY_remove
  dsimp only
  rcases pk_ix v1 (n := 5) (by decide) with hx | hx | ⟨t, ht, rfl⟩
  · exact xa_kb (Or.inl hx) (br_f (by decide) (ya_rb (Or.inl hx) (br_f (by decide) (vh_sm G0))))
  · exact xa_kb (Or.inr hx) (br_f (by decide) (ya_rb (Or.inr hx) (br_f (by decide) (vh_sm G0))))
  by_cases ha : ac t = 0
  · exact xa_ki ht ha (br_f (by decide) (ya_ri ht ha (br_f (by decide) (vh_sm G0))))
  rcases pk_ix v2 (n := 8) (by decide) with hx | hx | ⟨k, h8, rfl⟩
  · exact xa_kk ht ha (Or.inl hx) (br_f (by decide) (ya_rk ht ha (Or.inl hx) (br_f (by decide) (vh_sm G0))))
  · exact xa_kk ht ha (Or.inr hx) (br_f (by decide) (ya_rk ht ha (Or.inr hx) (br_f (by decide) (vh_sm G0))))
  obtain ⟨c, L, B, t1, t2, t3, t4, t5⟩ := T
  have hC : ∀ o, o < 5 → ch (8 * (5 * o) + k) = vh_b (bt (hk (5 * o + 4)) k) := fun o ho => (vh_Fv F ho h8).2.1
  have hl := t5 t ht ha k h8
  have q3 := t3 k h8
  have q4 := t4 t ht
  have hv := (vh_Fv F ht h8).1
  have iv := vp_in_nI (n := 5 * t + 4) (N := 26) (by omega) (by decide)
  have i1 := pk_in (8 * (5 * t) + k) 200 (by omega) (vh_40 t k)
  have c1 := vh_c40 (t := t) (i := k) (by omega)
  refine xa_ko ht ha h8 (br_t rfl (xa_vw ⟨iv, xa_has h8 _ ?_⟩))
  rw [nI_clamp (by omega)]
  cases hb : bt (pk (5 * t + 4)) k
  · rw [hb] at hv
    refine br_t rfl (ya_ro ht ha h8 (br_t (by decide) ⟨i1, br_t ?_ (vh_sm G0)⟩))
    rw [c1, hv]; rfl
  · rw [hb] at hv
    have hc : ¬ ct (nI t * 40 + nI k).toNatClampNeg = 0 := by rw [c1, hv]; decide
    refine br_f (by decide) (xa_chg ht h8 (fun e => br_f (by decide) ?_) (fun e l => br_f (by decide) ?_) (fun e l => br_t rfl ⟨iv, iv, nm_r (e' := upd hk (5 * t + 4) (hk (5 * t + 4) ||| ((1 : Int32) <<< (nI k &&& 31)))) rfl (xa_set (by omega) h8 false 0 ?_)⟩))
    · exact ya_ro ht ha h8 (br_t (by decide) ⟨i1, br_f hc (ya_chg (b := false) ht h8 hC hv q3.1 q4.1 (by omega) (by omega) (fun _ => br_f (by decide) (vh_sm G0)) (fun z _ => absurd e z) (fun z _ => absurd e z))⟩)
    · exact ya_ro ht ha h8 (br_t (by decide) ⟨i1, br_f hc (ya_chg (b := false) ht h8 hC hv q3.1 q4.1 (by omega) (by omega) (fun z => absurd z e) (fun _ _ => br_f (by decide) (vh_sm G0)) (fun _ z => absurd (l.symm.trans (hl.trans z)) (by decide)))⟩)
    · exact ya_ro ht ha h8 (br_t (by decide) ⟨i1, br_f hc (ya_chg (b := false) ht h8 hC hv q3.1 q4.1 (by omega) (by omega) (fun z => absurd z e) (fun _ z => absurd (l.symm.trans (hl.trans z)) (by decide)) (fun _ _ => br_t (by decide) (vh_mk (vh_Gp G0 ht h8 false 0))))⟩)
theorem vc_get (G : vh_G n pk hk va ac st sv rk lk cm th vy lc bg hr ct cv ch) (v1 v2 : Int32) : wpX_get (fun r u' => wpY_get (fun r' v' => r' = r ∧ i_Rel (n + 4) u' v') (cm, th, vy, lc, bg, ac, st, hr, sv, ct, cv, ch) v1 v2) (pk, hk, va, ac, st, sv, rk, lk) v1 v2 := by
  have G0 := G
  obtain ⟨⟨n0, n1, n3⟩, F, C, H, D, S, T⟩ := G
  unfold wpX_get wpY_get
  dsimp only
  rcases pk_ix v1 (n := 5) (by decide) with hx | hx | ⟨t, ht, rfl⟩
  · exact xa_kb (Or.inl hx) (br_f (by decide) (ya_rb (Or.inl hx) (br_f (by decide) (vh_sm G0))))
  · exact xa_kb (Or.inr hx) (br_f (by decide) (ya_rb (Or.inr hx) (br_f (by decide) (vh_sm G0))))
  by_cases ha : ac t = 0
  · exact xa_ki ht ha (br_f (by decide) (ya_ri ht ha (br_f (by decide) (vh_sm G0))))
  rcases pk_ix v2 (n := 8) (by decide) with hx | hx | ⟨k, h8, rfl⟩
  · exact xa_kk ht ha (Or.inl hx) (br_f (by decide) (ya_rk ht ha (Or.inl hx) (br_f (by decide) (vh_sm G0))))
  · exact xa_kk ht ha (Or.inr hx) (br_f (by decide) (ya_rk ht ha (Or.inr hx) (br_f (by decide) (vh_sm G0))))
  obtain ⟨hv, _, hw⟩ := vh_Fv F ht h8
  have iv := vp_in_nI (n := 5 * t + 4) (N := 26) (by omega) (by decide)
  have it := vp_in_nI (n := t) (N := 5) ht (by decide)
  have i1 := pk_in (8 * (5 * t) + k) 200 (by omega) (vh_40 t k)
  have i2 := pk_in (8 * t + k) 40 (by omega) (vh_8 t k)
  have i3 := pk_in (8 * (5 * t + 4) + k) 208 (by omega) (vh_8 (5 * t + 4) k)
  have G1 : vh_G (n + 4) pk hk va ac st sv (upd rk t (rk t ||| ((1 : Int32) <<< (nI k &&& 31)))) lk cm th vy lc bg (upd hr (8 * t + k) 1) ct cv ch := ⟨⟨n0, n1, n3⟩, F, C, H, vh_Dg D h8, S, vh_Tup T (by omega)⟩
  refine xa_ko ht ha h8 (br_t rfl ⟨it, it, nm_r (e' := upd rk t (rk t ||| ((1 : Int32) <<< (nI k &&& 31)))) ?_ (xa_vw ⟨iv, xa_has h8 _ ?_⟩)⟩)
  · rw [nI_clamp (by omega)]
  · rw [nI_clamp (by omega)]
    cases hb : bt (pk (5 * t + 4)) k
    · rw [hb] at hv
      refine br_t rfl (ya_ro ht ha h8 (br_t (by decide) ⟨i2, nm_r (e' := upd hr (8 * t + k) 1) ?_ ⟨i1, br_t ?_ (vh_mk G1)⟩⟩))
      · rw [vh_c8 (by omega)]; rfl
      · rw [vh_c40 (by omega), hv]; rfl
    · rw [hb] at hv
      refine br_f (by decide) ⟨i3, ?_⟩
      rw [vh_c8 (g := 5 * t + 4) (i := k) (by omega)]
      refine ya_ro ht ha h8 (br_t (by decide) ⟨i2, nm_r (e' := upd hr (8 * t + k) 1) ?_ ⟨i1, br_f ?_ ⟨i1, ?_⟩⟩⟩)
      · rw [vh_c8 (by omega)]; rfl
      · rw [vh_c40 (by omega), hv]; decide
      · rw [vh_c40 (by omega), hw]; exact vh_mk G1
end
