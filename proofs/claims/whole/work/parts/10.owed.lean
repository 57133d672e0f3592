/-! what is owed -/
theorem i_vc_begin {k : Nat} {u : SX} {v : SY} (I : i_Rel k u v) (hk : k + 4 ≤ 2048) (v1 : Int32) (v2 : Int32) : wpX_begin (fun r u' => wpY_begin (fun r' v' => r' = r ∧ i_Rel (k + 4) u' v') v v1 (lw_bz v2)) u v1 (lw_bz v2) := by
  obtain ⟨pk, hd, va, ac, st, sv, rk, lk⟩ := u
  obtain ⟨cm, th, vy, lc, bg, ay, sy, hr, ss, ct, cv, ch⟩ := v
  obtain ⟨⟨e1, e2, e3⟩, G⟩ := I
  subst e1 e2 e3
  exact vc_begin G v1 v2
theorem i_vc_put {k : Nat} {u : SX} {v : SY} (I : i_Rel k u v) (hk : k + 4 ≤ 2048) (v1 : Int32) (v2 : Int32) (v3 : Int32) : wpX_put (fun r u' => wpY_put (fun r' v' => r' = r ∧ i_Rel (k + 4) u' v') v v1 v2 v3) u v1 v2 v3 := by
  obtain ⟨pk, hd, va, ac, st, sv, rk, lk⟩ := u
  obtain ⟨cm, th, vy, lc, bg, ay, sy, hr, ss, ct, cv, ch⟩ := v
  obtain ⟨⟨e1, e2, e3⟩, G⟩ := I
  subst e1 e2 e3
  exact vc_put G hk v1 v2 v3
theorem i_vc_remove {k : Nat} {u : SX} {v : SY} (I : i_Rel k u v) (hk : k + 4 ≤ 2048) (v1 : Int32) (v2 : Int32) : wpX_remove (fun r u' => wpY_remove (fun r' v' => r' = r ∧ i_Rel (k + 4) u' v') v v1 v2) u v1 v2 := by
  obtain ⟨pk, hd, va, ac, st, sv, rk, lk⟩ := u
  obtain ⟨cm, th, vy, lc, bg, ay, sy, hr, ss, ct, cv, ch⟩ := v
  obtain ⟨⟨e1, e2, e3⟩, G⟩ := I
  subst e1 e2 e3
  exact vc_remove G hk v1 v2
theorem i_vc_get {k : Nat} {u : SX} {v : SY} (I : i_Rel k u v) (hk : k + 4 ≤ 2048) (v1 : Int32) (v2 : Int32) : wpX_get (fun r u' => wpY_get (fun r' v' => r' = r ∧ i_Rel (k + 4) u' v') v v1 v2) u v1 v2 := by
  obtain ⟨pk, hd, va, ac, st, sv, rk, lk⟩ := u
  obtain ⟨cm, th, vy, lc, bg, ay, sy, hr, ss, ct, cv, ch⟩ := v
  obtain ⟨⟨e1, e2, e3⟩, G⟩ := I
  subst e1 e2 e3
  exact vc_get G v1 v2
theorem i_vc_save {k : Nat} {u : SX} {v : SY} (I : i_Rel k u v) (hk : k + 4 ≤ 2048) (v1 : Int32) : wpX_save (fun r u' => wpY_save (fun r' v' => r' = r ∧ i_Rel (k + 4) u' v') v v1) u v1 := by
  obtain ⟨pk, hd, va, ac, st, sv, rk, lk⟩ := u
  obtain ⟨cm, th, vy, lc, bg, ay, sy, hr, ss, ct, cv, ch⟩ := v
  obtain ⟨⟨e1, e2, e3⟩, G⟩ := I
  subst e1 e2 e3
  exact vc_save G v1
theorem i_vc_undo {k : Nat} {u : SX} {v : SY} (I : i_Rel k u v) (hk : k + 4 ≤ 2048) (v1 : Int32) : wpX_undo (fun r u' => wpY_undo (fun r' v' => r' = r ∧ i_Rel (k + 4) u' v') v v1) u v1 := by
  obtain ⟨pk, hd, va, ac, st, sv, rk, lk⟩ := u
  obtain ⟨cm, th, vy, lc, bg, ay, sy, hr, ss, ct, cv, ch⟩ := v
  obtain ⟨⟨e1, e2, e3⟩, G⟩ := I
  subst e1 e2 e3
  exact vc_undo G v1
theorem i_vc_commit {k : Nat} {u : SX} {v : SY} (I : i_Rel k u v) (hk : k + 4 ≤ 2048) (v1 : Int32) : wpX_commit (fun r u' => wpY_commit (fun r' v' => r' = r ∧ i_Rel (k + 4) u' v') v v1) u v1 := by
  obtain ⟨pk, hd, va, ac, st, sv, rk, lk⟩ := u
  obtain ⟨cm, th, vy, lc, bg, ay, sy, hr, ss, ct, cv, ch⟩ := v
  obtain ⟨⟨e1, e2, e3⟩, G⟩ := I
  subst e1 e2 e3
  exact vc_commit G hk v1
theorem i_vc_abort {k : Nat} {u : SX} {v : SY} (I : i_Rel k u v) (hk : k + 4 ≤ 2048) (v1 : Int32) : wpX_abort (fun r u' => wpY_abort (fun r' v' => r' = r ∧ i_Rel (k + 4) u' v') v v1) u v1 := by
  obtain ⟨pk, hd, va, ac, st, sv, rk, lk⟩ := u
  obtain ⟨cm, th, vy, lc, bg, ay, sy, hr, ss, ct, cv, ch⟩ := v
  obtain ⟨⟨e1, e2, e3⟩, G⟩ := I
  subst e1 e2 e3
  exact vc_abort G v1
theorem i_vc_crash {k : Nat} {u : SX} {v : SY} (I : i_Rel k u v) (hk : k + 4 ≤ 2048) : wpX_crash (fun r u' => wpY_crash (fun r' v' => r' = r ∧ i_Rel (k + 4) u' v') v) u := by
  obtain ⟨pk, hd, va, ac, st, sv, rk, lk⟩ := u
  obtain ⟨cm, th, vy, lc, bg, ay, sy, hr, ss, ct, cv, ch⟩ := v
  obtain ⟨⟨e1, e2, e3⟩, G⟩ := I
  subst e1 e2 e3
  exact vc_crash G
theorem i_vc_vacuum {k : Nat} {u : SX} {v : SY} (I : i_Rel k u v) (hk : k + 4 ≤ 2048) : wpX_vacuum (fun u' => wpY_vacuum (fun v' => i_Rel (k + 4) u' v') v) u := by
  obtain ⟨pk, hd, va, ac, st, sv, rk, lk⟩ := u
  obtain ⟨cm, th, vy, lc, bg, ay, sy, hr, ss, ct, cv, ch⟩ := v
  obtain ⟨⟨e1, e2, e3⟩, G⟩ := I
  subst e1 e2 e3
  exact (vh_sm (r := 0) G).2
theorem i_vc_size {k : Nat} {u : SX} {v : SY} (I : i_Rel k u v) (hk : k + 4 ≤ 2048) (v1 : Int32) : wpX_size (fun r => wpY_size (fun r' => r' = r ∧ i_Rel (k + 4) u v) v v1) u v1 := by
  obtain ⟨pk, hd, va, ac, st, sv, rk, lk⟩ := u
  obtain ⟨cm, th, vy, lc, bg, ay, sy, hr, ss, ct, cv, ch⟩ := v
  obtain ⟨⟨e1, e2, e3⟩, G⟩ := I
  subst e1 e2 e3
  exact vc_size G v1
theorem i_vc_find {k : Nat} {u : SX} {v : SY} (I : i_Rel k u v) (hk : k + 4 ≤ 2048) (v1 : Int32) (v2 : Int32) : wpX_find (fun r => wpY_find (fun r' => r' = r ∧ i_Rel (k + 4) u v) v v1 v2) u v1 v2 := by
  obtain ⟨pk, hd, va, ac, st, sv, rk, lk⟩ := u
  obtain ⟨cm, th, vy, lc, bg, ay, sy, hr, ss, ct, cv, ch⟩ := v
  obtain ⟨⟨e1, e2, e3⟩, G⟩ := I
  subst e1 e2 e3
  exact vc_find G v1 v2
theorem i_vc_committed {k : Nat} {u : SX} {v : SY} (I : i_Rel k u v) (hk : k + 4 ≤ 2048) (v1 : Int32) : wpX_committed (fun r => wpY_committed (fun r' => r' = r ∧ i_Rel (k + 4) u v) v v1) u v1 := by
  obtain ⟨pk, hd, va, ac, st, sv, rk, lk⟩ := u
  obtain ⟨cm, th, vy, lc, bg, ay, sy, hr, ss, ct, cv, ch⟩ := v
  obtain ⟨⟨e1, e2, e3⟩, G⟩ := I
  subst e1 e2 e3
  exact vc_committed G v1
theorem i_vc_committedSize {k : Nat} {u : SX} {v : SY} (I : i_Rel k u v) (hk : k + 4 ≤ 2048) : wpX_committedSize (fun r => wpY_committedSize (fun r' => r' = r ∧ i_Rel (k + 4) u v) v) u := by
  obtain ⟨pk, hd, va, ac, st, sv, rk, lk⟩ := u
  obtain ⟨cm, th, vy, lc, bg, ay, sy, hr, ss, ct, cv, ch⟩ := v
  obtain ⟨⟨e1, e2, e3⟩, G⟩ := I
  subst e1 e2 e3
  exact vc_committedSize G
