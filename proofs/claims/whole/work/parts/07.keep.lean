/-! what begin, get and commit keep -/
section
variable {pk hk va ct cv ch th vy lc bg ac lk rk hr sv : Nat → Int32} {cm : Int32}
theorem vh_ff {a b b' : Nat → Int32} {g g' : Nat} (h : g ≠ g') : vh_f (vh_f a g b 0) g' b' 0 = vh_f (vh_f a g' b' 0) g b 0 := by
  funext j
  unfold vh_f
  by_cases x : 8 * g' + 0 ≤ j ∧ j < 8 * g' + 8
  · rw [if_pos x, if_neg (by omega), if_pos x]
  · rw [if_neg x, if_neg x]
theorem vh_Fb (F : vh_F pk hk va ct cv ch) (C : vh_C pk va th vy) (H : vh_H hk) {t : Nat} (ht : t < 5) : vh_F (upd (upd pk (5 * t) (pk 25)) (5 * t + 4) (upd pk (5 * t) (pk 25) 25)) (upd (upd hk (5 * t) (hk 25)) (5 * t + 4) (upd hk (5 * t) (hk 25) 25)) (vh_f (vh_f va (5 * t) (fun k => va (8 * 25 + k)) 0) (5 * t + 4) (fun k => vh_f va (5 * t) (fun k => va (8 * 25 + k)) 0 (8 * 25 + k)) 0) (vh_f (vh_f ct (5 * t) th 0) (5 * t + 4) th 0) (vh_f (vh_f cv (5 * t) vy 0) (5 * t + 4) vy 0) (vh_f (vh_f ch (5 * t) (fun _ => 0) 0) (5 * t + 4) (fun _ => 0) 0) := by
  have F1 : vh_F (upd pk (5 * t) (pk 25)) (upd hk (5 * t) (hk 25)) (vh_f va (5 * t) (fun k => va (8 * 25 + k)) 0) (vh_f ct (5 * t + 4) th 0) (vh_f cv (5 * t + 4) vy 0) (vh_f ch (5 * t + 4) (fun _ => 0) 0) := by
    refine vh_Fs F (t := t) (j := 0) (by omega) (fun f _ hf => ⟨pk_un hf, pk_un hf, fun k h8 => vh_fo h8 hf⟩) (fun g hg k h8 => ⟨vh_fo h8 hg, vh_fo h8 hg, vh_fo h8 hg⟩) (fun k h8 => ?_)
    show vh_f ct (5 * t + 4) th 0 (8 * (5 * t + 4) + k) = vh_b (bt (upd pk (5 * t) (pk 25) (5 * t)) k) ∧ vh_f ch (5 * t + 4) (fun _ => 0) 0 (8 * (5 * t + 4) + k) = vh_b (bt (upd hk (5 * t) (hk 25) (5 * t)) k) ∧ vh_f cv (5 * t + 4) vy 0 (8 * (5 * t + 4) + k) = vh_f va (5 * t) (fun k => va (8 * 25 + k)) 0 (8 * (5 * t) + k)
    rw [vh_fi h8, vh_fi h8, vh_fi h8, vh_fi h8, pk_us, pk_us, H.1, b_0]
    exact ⟨(C k h8).1, rfl, (C k h8).2⟩
  rw [vh_ff (a := ct) (by omega), vh_ff (a := cv) (by omega), vh_ff (a := ch) (by omega)]
  refine vh_Fs F1 (t := t) (j := 4) (by omega) (fun f _ hf => ⟨pk_un hf, pk_un hf, fun k h8 => vh_fo h8 hf⟩) (fun g hg k h8 => ⟨vh_fo h8 hg, vh_fo h8 hg, vh_fo h8 hg⟩) (fun k h8 => ?_)
  show vh_f (vh_f ct (5 * t + 4) th 0) (5 * t) th 0 (8 * (5 * t) + k) = _ ∧ vh_f (vh_f ch (5 * t + 4) (fun _ => 0) 0) (5 * t) (fun _ => 0) 0 (8 * (5 * t) + k) = _ ∧ vh_f (vh_f cv (5 * t + 4) vy 0) (5 * t) vy 0 (8 * (5 * t) + k) = _
  rw [vh_fi h8, vh_fi h8, vh_fi h8, vh_fi h8, pk_us, pk_us, pk_un (show 25 ≠ 5 * t by omega), pk_un (show 25 ≠ 5 * t by omega), H.1, b_0]
  refine ⟨(C k h8).1, rfl, ?_⟩
  show vy k = vh_f va (5 * t) (fun k => va (8 * 25 + k)) 0 (8 * 25 + k)
  rw [vh_fo h8 (by omega)]
  exact (C k h8).2
theorem vh_Cb (C : vh_C pk va th vy) {t : Nat} (ht : t < 5) : vh_C (upd (upd pk (5 * t) (pk 25)) (5 * t + 4) (upd pk (5 * t) (pk 25) 25)) (vh_f (vh_f va (5 * t) (fun k => va (8 * 25 + k)) 0) (5 * t + 4) (fun k => vh_f va (5 * t) (fun k => va (8 * 25 + k)) 0 (8 * 25 + k)) 0) th vy := by
  intro k h8
  rw [pk_un (show 25 ≠ 5 * t + 4 by omega), pk_un (show 25 ≠ 5 * t by omega)]
  refine ⟨(C k h8).1, ?_⟩
  show vy k = vh_f (vh_f va (5 * t) (fun k => va (8 * 25 + k)) 0) (5 * t + 4) (fun k => vh_f va (5 * t) (fun k => va (8 * 25 + k)) 0 (8 * 25 + k)) 0 (8 * 25 + k)
  rw [vh_fo h8 (by omega), vh_fo h8 (by omega)]
  exact (C k h8).2
/-- a copy within a transaction leaves the committed table -/
theorem vh_Cc (C : vh_C pk va th vy) {g : Nat} {x : Int32} {b : Nat → Int32} (hg : g ≠ 25) : vh_C (upd pk g x) (vh_f va g b 0) th vy := by
  intro k h8
  rw [pk_un (Ne.symm hg)]
  refine ⟨(C k h8).1, ?_⟩
  show vy k = vh_f va g b 0 (8 * 25 + k)
  rw [vh_fo h8 (Ne.symm hg)]
  exact (C k h8).2
theorem vh_Cu (C : vh_C pk va th vy) {g i : Nat} {x y : Int32} (hg : g ≠ 25) (hi : i < 200) : vh_C (upd pk g x) (upd va i y) th vy := by
  intro k h8
  rw [pk_un (Ne.symm hg), pk_un (by omega)]
  exact C k h8
theorem vh_z8 : ∀ i, 8 ≤ i → bt 0 i = false := fun i _ => b_0 i
theorem vh_Hb (H : vh_H hk) {t : Nat} (ht : t < 5) : vh_H (upd (upd hk (5 * t) (hk 25)) (5 * t + 4) (upd hk (5 * t) (hk 25) 25)) := by
  rw [pk_un (show 25 ≠ 5 * t by omega), H.1]
  exact vh_Hu (vh_Hu H (by omega) vh_z8) (by omega) vh_z8
theorem vh_Db (D : vh_D rk hr) {t : Nat} (ht : t < 5) : vh_D (upd rk t 0) (vh_f hr t (fun _ => 0) 0) := by
  constructor
  · intro s hs k h8
    by_cases e : s = t
    · subst e
      rw [vh_fi h8, pk_us, b_0]; rfl
    · rw [vh_fo h8 e, pk_un e]
      exact D.1 s hs k h8
  · intro s i hi
    by_cases e : s = t
    · subst e; rw [pk_us, b_0]
    · rw [pk_un e]; exact D.2 s i hi
theorem vh_Dg (D : vh_D rk hr) {t x : Nat} (hx : x < 8) : vh_D (upd rk t (rk t ||| ((1 : Int32) <<< (nI x &&& 31)))) (upd hr (8 * t + x) 1) := by
  constructor
  · intro s hs k h8
    by_cases e : s = t
    · subst e
      rw [pk_us, vh_or _ (by omega) (by omega)]
      by_cases e2 : k = x
      · subst e2
        rw [pk_us, decide_eq_true rfl, Bool.or_true]; rfl
      · rw [pk_un (by omega), decide_eq_false e2, Bool.or_false]
        exact D.1 s hs k h8
    · rw [pk_un (by omega), pk_un e]
      exact D.1 s hs k h8
  · intro s i hi
    by_cases e : s = t
    · subst e; rw [pk_us]; exact vh_or8 (D.2 s) hx i hi
    · rw [pk_un e]; exact D.2 s i hi
theorem vh_Su (S : vh_S sv) {t s : Nat} (hs : s ≤ 3) : vh_S (upd sv t (nI s)) := by
  intro j
  by_cases e : j = t
  · subst e; rw [pk_us]; exact ⟨s, hs, rfl⟩
  · rw [pk_un e]; exact S j
theorem vh_Tb {n : Nat} (T : vh_T n cm lc bg ac lk) {t : Nat} (ht : t < 5) : vh_T n cm lc (upd bg t cm) (upd ac t 1) (upd lk t 0) := by
  obtain ⟨c, L, B, h1, h2, h3, h4, h5⟩ := T
  refine ⟨c, L, fun s => if s = t then c else B s, h1, h2, h3, fun s hs => ?_, fun s hs ha k h8 => ?_⟩
  · dsimp only
    by_cases e : s = t
    · rw [if_pos e, e, pk_us]; exact ⟨h1, Nat.le_refl c⟩
    · rw [if_neg e, pk_un e]; exact h4 s hs
  · dsimp only
    by_cases e : s = t
    · simp only [if_pos e]
      rw [e, pk_us, b_0]
      have := (h3 k h8).2
      exact (decide_eq_false (by omega)).symm
    · simp only [if_neg e]
      rw [pk_un e]
      rw [pk_un e] at ha
      exact h5 s hs ha k h8
theorem vh_Ti {n : Nat} {ac' : Nat → Int32} (T : vh_T n cm lc bg ac lk) (h : ∀ s, s < 5 → ¬ ac' s = 0 → ¬ ac s = 0) : vh_T n cm lc bg ac' lk := by
  obtain ⟨c, L, B, h1, h2, h3, h4, h5⟩ := T
  exact ⟨c, L, B, h1, h2, h3, h4, fun s hs ha => h5 s hs (h s hs ha)⟩
theorem vh_off {t : Nat} : ∀ s, s < 5 → ¬ upd ac t 0 s = 0 → ¬ ac s = 0 := by
  intro s _ h
  by_cases e : s = t
  · subst e; exact absurd pk_us h
  · rw [pk_un e] at h; exact h
theorem vh_Tc {n t : Nat} {th' vy' lc' : Nat → Int32} {m : Int32} (T : vh_T n cm lc bg ac lk) (q : vh_Q th vy lc th' vy' lc' ct cv (cm + 1) t (bt m) 0) : vh_T (n + 4) (cm + 1) lc' bg (upd ac t 0) (vh_l lk m 0) := by
  obtain ⟨c, L, B, h1, h2, h3, h4, h5⟩ := T
  have hc : cm + 1 = nI (c + 1) := by rw [h1, nI_1]
  refine ⟨c + 1, fun k => if bt m k = true then c + 1 else L k, B, hc, by omega, fun k h8 => ?_, fun s hs => ⟨(h4 s hs).1, Nat.le_succ_of_le (h4 s hs).2⟩, fun s hs ha k h8 => ?_⟩
  · dsimp only
    have q3 := (q k h8).2.2
    have l := h3 k h8
    by_cases e : bt m k = true
    · rw [if_pos ⟨Nat.zero_le k, e⟩, hc] at q3
      rw [if_pos e]
      exact ⟨q3, Nat.le_refl _⟩
    · rw [if_neg (fun z => e z.2)] at q3
      rw [if_neg e]
      exact ⟨q3.trans l.1, by omega⟩
  · dsimp only
    have a := h5 s hs (vh_off s hs ha) k h8
    have e0 : vh_l lk m 0 s = lk s ||| m := if_pos (by omega)
    rw [e0, b_or, a]
    have b := (h4 s hs).2
    by_cases e : bt m k = true
    · simp only [if_pos e]
      rw [e, Bool.or_true]
      exact (decide_eq_true (by omega)).symm
    · simp only [if_neg e]
      rw [Bool.eq_false_iff.mpr e, Bool.or_false]
theorem vh_Fk {pk' va' : Nat → Int32} {f : Nat} {m : Int32} (F : vh_F pk hk va ct cv ch) (P : vh_P pk va pk' va' f m) : vh_F pk' hk va' ct cv ch := by
  obtain ⟨p1, _, p3, _⟩ := P
  intro t ht j hj k h8
  rw [p1 _ (by omega), p3 _ (by omega)]
  exact F t ht j hj k h8
theorem vh_Ck {pk' va' th' vy' lc' : Nat → Int32} {t : Nat} {x : Int32} (ht : t < 5) (F : vh_F pk hk va ct cv ch) (C : vh_C pk va th vy) (P : vh_P pk va pk' va' (5 * t + 4) (hk (5 * t + 4))) (q : vh_Q th vy lc th' vy' lc' ct cv x t (bt (hk (5 * t + 4))) 0) : vh_C pk' va' th' vy' := by
  obtain ⟨_, p2, _, p4⟩ := P
  intro k h8
  obtain ⟨f1, _, f3⟩ := vh_Fv F ht h8
  obtain ⟨q1, q2, _⟩ := q k h8
  have c := C k h8
  rw [p2 k h8, p4 k h8, q1, q2]
  by_cases e : bt (hk (5 * t + 4)) k = true
  · rw [if_pos e, if_pos e, if_pos ⟨Nat.zero_le k, e⟩, if_pos ⟨Nat.zero_le k, e⟩]
    exact ⟨f1, f3⟩
  · rw [if_neg e, if_neg e, if_neg (fun z => e z.2), if_neg (fun z => e z.2)]
    exact c
end
