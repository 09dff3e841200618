/-! WHAT IS KNOWN OF A STATE is kept by every call -/
theorem okA_push {m : Nat} {e : Nat → Nat} {U : sw_U} {F : sw_F} (h1 : U.1 ≤ 20) (h2 : ∀ j, j < U.1 → okF m e (U.2 j)) (hF : okF m e F) : (sw_push U F).1 ≤ 20 ∧ ∀ j, j < (sw_push U F).1 → okF m e ((sw_push U F).2 j) := by
  unfold sw_push
  by_cases hc : U.1 < 20
  · rw [if_pos hc]
    refine ⟨hc, fun j hj => ?_⟩
    have hj : j < U.1 + 1 := hj
    show okF m e (va_up U.2 U.1 F j)
    by_cases ej : j = U.1
    · subst ej; rw [up_vs]; exact hF
    · rw [up_vn _ _ _ _ ej]; exact h2 j (by omega)
  · rw [if_neg hc]
    refine ⟨Nat.le_refl _, fun j hj => ?_⟩
    have hj : j < 20 := hj
    show okF m e (va_up (fun j => U.2 (j + 1)) 19 F j)
    by_cases ej : j = 19
    · subst ej; rw [up_vs]; exact hF
    · rw [up_vn _ _ _ _ ej]; exact h2 (j + 1) (by omega)
theorem okA_flock {T : sw_T} {D : sw_D} {F F' : sw_F} {sd sd' : Nat} {U : sw_U} {I : sw_I} {E1 E2 E3 : sw_E} (hA : okA (T, D, F, sd, U, I, E1, E2, E3)) (hF : okF D.2.2.2.1 D.2.2.2.2.2.1 F') (hs : sd' < 2147483648) : okA (T, D, F', sd', sw_push U F, I, E1, E2, E3) := by
  obtain ⟨tl, tx, fp⟩ := T
  obtain ⟨cn, st, mn, m, c, e, k, R, rn⟩ := D
  obtain ⟨a1, a2, a3, a4, a5, a6, a7, a8, a9, a10, a11⟩ := hA
  obtain ⟨p1, p2⟩ := okA_push a6 a7 a4
  exact ⟨a1, a2, a3, hF, hs, p1, p2, a8, a9, a10, a11⟩
theorem okA_feed {A : sw_A} {x : Int32} (hA : okA A) : okA (st_feed A x).2 := by
  obtain ⟨⟨tl, tx, fp⟩, ⟨cn, st, mn, m, c, e, k, R, rn⟩, F, sd, U, I, E1, E2, E3⟩ := A
  cases hx : sw_ix x 0 256 with
  | none => simp only [st_feed, hx]; exact hA
  | some j =>
    obtain ⟨-, hj, -⟩ := sw_ix_some hx
    simp only [st_feed, hx]
    by_cases ht : tl = 240
    · rw [if_pos ht]; exact hA
    · rw [if_neg ht]
      obtain ⟨a1, a2, a3⟩ := hA
      refine ⟨by omega, fun i hi => ?_, a3⟩
      show va_up tx tl j i ≤ 255
      by_cases ei : i = tl
      · subst ei; rw [up_vs]; omega
      · rw [up_vn _ _ _ _ ei]; exact a2 i (by omega)
theorem okA_year {A : sw_A} {x : Int32} (hA : okA A) : okA (st_year A x).2 := by
  obtain ⟨T, ⟨cn, st, mn, m, c, e, k, R, rn⟩, F, sd, U, I, E1, E2, E3⟩ := A
  obtain ⟨tl, tx, fp⟩ := T
  obtain ⟨-, -, ⟨hcn, hm, -, -, -, -, hB, hR0, hR8, hrn⟩, ⟨hFk, hy⟩, hsd, -⟩ := id hA
  cases hx : sw_ix x 1 100 with
  | none => simp only [st_year, hx]; exact hA
  | some n =>
    obtain ⟨-, hn, -⟩ := sw_ix_some hx
    simp only [st_year, hx]
    by_cases h0 : cn = 0
    · rw [if_pos h0]; exact hA
    · rw [if_neg h0]
      by_cases h9 : 9000 < F.2.2.2.2.2
      · rw [if_pos h9]; exact hA
      · rw [if_neg h9]
        obtain ⟨f1, f2⟩ := sw_yrs_facts (cn := cn) (st := st) (mn := mn) (c := c) (k := k) hR0 hrn (fun b hb => (hB b hb).2.1) hFk n
        exact okA_flock hA ⟨f1, by omega⟩ hsd
theorem okA_drift {A : sw_A} {x : Int32} (hA : okA A) : okA (st_drift A x).2 := by
  obtain ⟨⟨tl, tx, fp⟩, ⟨cn, st, mn, m, c, e, k, R, rn⟩, F, sd, U, I, E1, E2, E3⟩ := A
  obtain ⟨-, -, ⟨hcn, hm, -, -, -, -, hB, hR0, hR8, hrn⟩, ⟨hFk, hy⟩, hsd, -⟩ := id hA
  cases hx : sw_ix x 1 100 with
  | none => simp only [st_drift, hx]; exact hA
  | some n =>
    obtain ⟨-, hn, -⟩ := sw_ix_some hx
    simp only [st_drift, hx]
    by_cases h0 : cn = 0
    · rw [if_pos h0]; exact hA
    · rw [if_neg h0]
      by_cases h9 : 9000 < F.2.2.2.2.2
      · rw [if_pos h9]; exact hA
      · rw [if_neg h9]
        obtain ⟨z1, z2, z3⟩ := sw_drs_facts (cn := cn) (st := st) (mn := mn) (c := c) (k := k) (R := R) (rn := rn) (fun b hb => (hB b hb).2.1) hsd hFk n
        exact okA_flock hA ⟨z1, by omega⟩ (by omega)
theorem okA_open {A : sw_A} {x : Int32} {is : Bool} (hA : okA A) : okA (st_open A x is).2 := by
  obtain ⟨⟨tl, tx, fp⟩, ⟨cn, st, mn, m, c, e, k, R, rn⟩, F, sd, U, I, E1, E2, E3⟩ := A
  obtain ⟨-, -, -, hF, hsd, -⟩ := id hA
  cases hx : sw_ix x 0 m with
  | none => simp only [st_open, hx]; exact hA
  | some j =>
    simp only [st_open, hx]
    exact okA_flock hA hF hsd
theorem okA_move {A : sw_A} {x y z : Int32} (hA : okA A) : okA (st_move A x y z).2 := by
  obtain ⟨⟨tl, tx, fp⟩, ⟨cn, st, mn, m, c, e, k, R, rn⟩, F, sd, U, I, E1, E2, E3⟩ := A
  obtain ⟨-, -, -, ⟨hFk, hy⟩, hsd, -⟩ := id hA
  cases hx : sw_ix x 0 m with
  | none => simp only [st_move, hx]; exact hA
  | some i =>
    cases hyx : sw_ix y 0 m with
    | none => simp only [st_move, hx, hyx]; exact hA
    | some j =>
      simp only [st_move, hx, hyx]
      by_cases hij : i = j
      · rw [if_pos hij]; exact hA
      · rw [if_neg hij]
        cases hz : sw_ix z 1 41 with
        | none => exact hA
        | some n =>
          dsimp only
          by_cases hc : n ≤ F.1 i ∧ F.1 j + n ≤ e j
          · rw [if_pos hc]
            exact okA_flock hA ⟨sw_mv_ok hFk hij hc.1 hc.2, hy⟩ hsd
          · rw [if_neg hc]; exact hA
theorem okA_mud {A : sw_A} {x y : Int32} (hA : okA A) : okA (st_mud A x y).2 := by
  obtain ⟨⟨tl, tx, fp⟩, ⟨cn, st, mn, m, c, e, k, R, rn⟩, F, sd, U, I, E1, E2, E3⟩ := A
  obtain ⟨-, -, -, ⟨hFk, hy⟩, hsd, -⟩ := id hA
  cases hx : sw_ix x 0 m with
  | none => simp only [st_mud, hx]; exact hA
  | some j =>
    cases hyx : sw_ix y 1 10 with
    | none => simp only [st_mud, hx, hyx]; exact hA
    | some n =>
      simp only [st_mud, hx, hyx]
      refine okA_flock hA ⟨fun b hb => ⟨(hFk b hb).1, (hFk b hb).2.1, ?_⟩, hy⟩ hsd
      show va_up F.2.2.1 j (F.2.2.1 j - n) b ≤ 9
      by_cases ej : b = j
      · subst ej; rw [up_vs]; have := (hFk b hb).2.2; omega
      · rw [up_vn _ _ _ _ ej]; exact (hFk b hb).2.2
theorem okA_ring {A : sw_A} {x y : Int32} (hA : okA A) : okA (st_ring A x y).2 := by
  obtain ⟨⟨tl, tx, fp⟩, ⟨cn, st, mn, m, c, e, k, R, rn⟩, F, sd, U, I, E1, E2, E3⟩ := A
  obtain ⟨-, -, -, ⟨hFk, hy⟩, hsd, -⟩ := id hA
  cases hx : sw_ix x 0 m with
  | none => simp only [st_ring, hx]; exact hA
  | some j =>
    cases hyx : sw_ix y 1 41 with
    | none => simp only [st_ring, hx, hyx]; exact hA
    | some n =>
      simp only [st_ring, hx, hyx]
      by_cases hc : F.1 j < F.2.1 j + n
      · rw [if_pos hc]; exact hA
      · rw [if_neg hc]
        refine okA_flock hA ⟨fun b hb => ⟨(hFk b hb).1, ?_, (hFk b hb).2.2⟩, hy⟩ hsd
        show va_up F.2.1 j (F.2.1 j + n) b ≤ F.1 b
        by_cases ej : b = j
        · subst ej; rw [up_vs]; omega
        · rw [up_vn _ _ _ _ ej]; exact (hFk b hb).2.1
theorem okA_undo {A : sw_A} (hA : okA A) : okA (st_undo A).2 := by
  obtain ⟨⟨tl, tx, fp⟩, ⟨cn, st, mn, m, c, e, k, R, rn⟩, F, sd, ⟨un, U⟩, I, E1, E2, E3⟩ := A
  obtain ⟨a1, a2, a3, a4, a5, a6, a7, a8⟩ := id hA
  dsimp only at a6 a7
  show okA (if un = 0 then (-1000000003, _) else (nI (un - 1), (tl, tx, fp), (cn, st, mn, m, c, e, k, R, rn), U (un - 1), sd, (un - 1, U), I, E1, E2, E3)).2
  by_cases h0 : un = 0
  · rw [if_pos h0]; exact hA
  · rw [if_neg h0]
    exact ⟨a1, a2, a3, a7 (un - 1) (by omega), a5, by show un - 1 ≤ 20; omega, fun j hj => a7 j (by have hj : j < un - 1 := hj; omega), a8⟩
theorem okE_app {E : sw_E} {N a b j v : Nat} (h : okE E N a b) (hN : ¬ E.1 = N) (hj : j < a) (hv : v ≤ b) : okE (sw_app E j v) N a b := by
  obtain ⟨h1, h2⟩ := h
  refine ⟨by show E.1 + 1 ≤ N; omega, fun i hi => ?_⟩
  have hi : i < E.1 + 1 := hi
  show va_up E.2.1 E.1 j i < a ∧ va_up E.2.2 E.1 v i ≤ b
  by_cases ei : i = E.1
  · subst ei; rw [up_vs, up_vs]; exact ⟨hj, hv⟩
  · rw [up_vn _ _ _ _ ei, up_vn _ _ _ _ ei]; exact h2 i (by omega)
theorem okA_see {A : sw_A} {x y : Int32} (hA : okA A) : okA (st_see A x y).2 := by
  obtain ⟨⟨tl, tx, fp⟩, ⟨cn, st, mn, m, c, e, k, R, rn⟩, F, sd, U, I, E1, E2, E3⟩ := A
  obtain ⟨a1, a2, a3, a4, a5, a6, a7, a8, a9, a10, a11⟩ := id hA
  cases hx : sw_ix x 0 m with
  | none => simp only [st_see, hx]; exact hA
  | some j =>
    obtain ⟨-, hj, -⟩ := sw_ix_some hx
    cases hyx : sw_ix y 0 41 with
    | none => simp only [st_see, hx, hyx]; exact hA
    | some v =>
      obtain ⟨-, hv, -⟩ := sw_ix_some hyx
      simp only [st_see, hx, hyx]
      by_cases h8 : E1.1 = 8
      · rw [if_pos h8]; exact hA
      · rw [if_neg h8]
        exact ⟨a1, a2, a3, a4, a5, a6, a7, a8, okE_app a9 h8 hj (by omega), a10, a11⟩
theorem okA_rough {A : sw_A} {x y : Int32} (hA : okA A) : okA (st_rough A x y).2 := by
  obtain ⟨⟨tl, tx, fp⟩, ⟨cn, st, mn, m, c, e, k, R, rn⟩, F, sd, U, I, E1, E2, E3⟩ := A
  obtain ⟨a1, a2, a3, a4, a5, a6, a7, a8, a9, a10, a11⟩ := id hA
  cases hx : sw_ix x 0 (2 ^ m) with
  | none => simp only [st_rough, hx]; exact hA
  | some j =>
    obtain ⟨-, hj, -⟩ := sw_ix_some hx
    cases hyx : sw_ix y 0 321 with
    | none => simp only [st_rough, hx, hyx]; exact hA
    | some v =>
      obtain ⟨-, hv, -⟩ := sw_ix_some hyx
      simp only [st_rough, hx, hyx]
      by_cases h8 : E2.1 = 8
      · rw [if_pos h8]; exact hA
      · rw [if_neg h8]
        exact ⟨a1, a2, a3, a4, a5, a6, a7, a8, a9, okE_app a10 h8 hj (by omega), a11⟩
theorem okA_write {A : sw_A} {x y : Int32} (hA : okA A) : okA (st_write A x y).2 := by
  obtain ⟨⟨tl, tx, fp⟩, ⟨cn, st, mn, m, c, e, k, R, rn⟩, F, sd, U, I, E1, E2, E3⟩ := A
  obtain ⟨a1, a2, a3, a4, a5, a6, a7, a8, a9, a10, a11⟩ := id hA
  cases hx : sw_ix x 0 cn with
  | none => simp only [st_write, hx]; exact hA
  | some j =>
    obtain ⟨-, hj, -⟩ := sw_ix_some hx
    cases hyx : sw_ix y 0 321 with
    | none => simp only [st_write, hx, hyx]; exact hA
    | some v =>
      obtain ⟨-, hv, -⟩ := sw_ix_some hyx
      simp only [st_write, hx, hyx]
      by_cases h8 : E3.1 = 15
      · rw [if_pos h8]; exact hA
      · rw [if_neg h8]
        exact ⟨a1, a2, a3, a4, a5, a6, a7, a8, a9, a10, okE_app a11 h8 hj (by omega)⟩
theorem okE_0 {E : sw_E} {N a b : Nat} : okE (0, E.2) N a b := ⟨Nat.zero_le _, fun j hj => absurd hj (Nat.not_lt_zero j)⟩
theorem okA_tear {A : sw_A} (hA : okA A) : okA (st_tear A).2 := by
  obtain ⟨⟨tl, tx, fp⟩, ⟨cn, st, mn, m, c, e, k, R, rn⟩, F, sd, U, I, E1, E2, E3⟩ := A
  obtain ⟨a1, a2, a3, a4, a5, a6, a7, a8, a9, a10, a11⟩ := id hA
  exact ⟨a1, a2, a3, a4, a5, a6, a7, a8, okE_0, okE_0, okE_0⟩
theorem okA_seed {A : sw_A} {x : Int32} (hA : okA A) : okA (st_seed A x).2 := by
  obtain ⟨⟨tl, tx, fp⟩, ⟨cn, st, mn, m, c, e, k, R, rn⟩, F, sd, U, I, E1, E2, E3⟩ := A
  obtain ⟨a1, a2, a3, a4, a5, a6⟩ := id hA
  cases hx : sw_ix x 0 2147483648 with
  | none => simp only [st_seed, hx]; exact hA
  | some v =>
    obtain ⟨-, hv, -⟩ := sw_ix_some hx
    simp only [st_seed, hx]
    exact ⟨a1, a2, a3, a4, hv, a6⟩
theorem okA_keep {A : sw_A} {x : Int32} (hA : okA A) : okA (st_keep A x).2 := by
  obtain ⟨⟨tl, tx, fp⟩, ⟨cn, st, mn, m, c, e, k, R, rn⟩, F, sd, U, I, E1, E2, E3⟩ := A
  obtain ⟨a1, a2, a3, a4, a5, a6, a7, a8, a9⟩ := id hA
  cases hx : sw_ix x 0 2 with
  | none => simp only [st_keep, hx]; exact hA
  | some i =>
    simp only [st_keep, hx]
    refine ⟨a1, a2, a3, a4, a5, Nat.zero_le _, fun j hj => absurd hj (Nat.not_lt_zero j), fun j F' sd' hj => ?_, a9⟩
    by_cases ej : j = i
    · subst ej; rw [up_vs] at hj; cases hj; exact ⟨a4, a5⟩
    · rw [up_vn _ _ _ _ ej] at hj; exact a8 j F' sd' hj
theorem okA_goBack {A : sw_A} {x : Int32} (hA : okA A) : okA (st_goBack A x).2 := by
  obtain ⟨⟨tl, tx, fp⟩, ⟨cn, st, mn, m, c, e, k, R, rn⟩, F, sd, U, I, E1, E2, E3⟩ := A
  obtain ⟨a1, a2, a3, a4, a5, a6, a7, a8, a9⟩ := id hA
  cases hx : sw_ix x 0 2 with
  | none => simp only [st_goBack, hx]; exact hA
  | some i =>
    cases hI : I i with
    | none => simp only [st_goBack, hx, hI]; exact hA
    | some p =>
      obtain ⟨F', sd'⟩ := p
      simp only [st_goBack, hx, hI]
      obtain ⟨b1, b2⟩ := a8 i F' sd' hI
      exact ⟨a1, a2, a3, b1, b2, Nat.zero_le _, fun j hj => absurd hj (Nat.not_lt_zero j), a8, a9⟩
theorem okA_land {A : sw_A} (hA : okA A) : okA (st_land A).2 := by
  obtain ⟨⟨tl, tx, fp⟩, ⟨cn, st, mn, m, c, e, k, R, rn⟩, F, sd, U, I, E1, E2, E3⟩ := A
  obtain ⟨a1, a2, a3, a4, a5, a6, a7, a8, a9, a10, a11⟩ := id hA
  have hG := ps_all_ok (tl := tl) (tx := tx) 240 ps_0 0 okG_0
  cases hx : ps_all tl tx 240 ps_0 0 with
  | error x =>
    simp only [st_land, hx]
    exact ⟨Nat.zero_le _, fun j hj => absurd hj (Nat.not_lt_zero j), a3, a4, a5, a6, a7, a8, a9, a10, a11⟩
  | ok G =>
    rw [hx] at hG
    simp only [st_land, hx]
    obtain ⟨gcn, gst, gmn, gm, gc, ge, gn, gf, gk, gR, grn⟩ := G
    obtain ⟨g1, g2, g3, g4, g5, g6, g7, g8, g9⟩ := hG
    refine ⟨Nat.zero_le _, fun j hj => absurd hj (Nat.not_lt_zero j), ⟨g1, g2, g3, g4, g5, g6, fun b hb => ⟨(g7 b hb).1, (g7 b hb).2.1, (g7 b hb).2.2.1⟩, ?_, ?_, fun t ht => ?_⟩, ⟨fun b hb => ⟨(g7 b hb).2.2.2.1, Nat.zero_le _, (g7 b hb).2.2.2.2⟩, Nat.zero_le _⟩, a5, Nat.zero_le _, fun j hj => absurd hj (Nat.not_lt_zero j), (fun i F' sd' h => by cases h), okE_0, okE_0, okE_0⟩
    · split <;> omega
    · split <;> omega
    · by_cases h0 : gR = 0
      · rw [if_pos h0]; decide
      · rw [if_neg h0] at ht ⊢; exact g9 t ht
/-! calls that change nothing -/
theorem st_told_2 (A : sw_A) (x : Int32) : (st_told A x).2 = A := by
  obtain ⟨⟨tl, tx, fp⟩, ⟨cn, st, mn, m, c, e, k, R, rn⟩, F, sd, U, I, E1, E2, E3⟩ := A
  unfold st_told; dsimp only; split <;> rfl
theorem st_barn_2 (A : sw_A) (x y : Int32) : (st_barn A x y).2 = A := by
  obtain ⟨⟨tl, tx, fp⟩, ⟨cn, st, mn, m, c, e, k, R, rn⟩, F, sd, U, I, E1, E2, E3⟩ := A
  unfold st_barn; dsimp only; split
  · rfl
  · split <;> rfl
theorem st_count_2 (A : sw_A) (x y z : Int32) : (st_count A x y z).2 = A := by
  obtain ⟨⟨tl, tx, fp⟩, ⟨cn, st, mn, m, c, e, k, R, rn⟩, F, sd, U, I, E1, E2, E3⟩ := A
  unfold st_count; dsimp only; split
  · rfl
  · split <;> rfl
theorem st_leave_2 (A : sw_A) (x y z : Int32) : (st_leave A x y z).2 = A := by
  obtain ⟨⟨tl, tx, fp⟩, ⟨cn, st, mn, m, c, e, k, R, rn⟩, F, sd, U, I, E1, E2, E3⟩ := A
  unfold st_leave; dsimp only; split
  · rfl
  · split <;> rfl
theorem st_counters_2 (A : sw_A) (x : Int32) : (st_counters A x).2 = A := by
  obtain ⟨⟨tl, tx, fp⟩, ⟨cn, st, mn, m, c, e, k, R, rn⟩, F, sd, U, I, E1, E2, E3⟩ := A
  unfold st_counters; dsimp only; split <;> rfl
theorem st_game_2 (A : sw_A) (x y z : Int32) : (st_game A x y z).2 = A := by
  obtain ⟨⟨tl, tx, fp⟩, ⟨cn, st, mn, m, c, e, k, R, rn⟩, F, sd, U, I, E1, E2, E3⟩ := A
  unfold st_game; dsimp only; split
  · split <;> rfl
  · rfl
theorem st_leastMud_2 (A : sw_A) (x y : Int32) : (st_leastMud A x y).2 = A := by
  obtain ⟨⟨tl, tx, fp⟩, ⟨cn, st, mn, m, c, e, k, R, rn⟩, F, sd, U, I, E1, E2, E3⟩ := A
  unfold st_leastMud; dsimp only; split
  · rfl
  · split
    · split <;> rfl
    · split
      · rfl
      · split
        · split <;> rfl
        · rfl
theorem st_votes_2 (A : sw_A) (x : Int32) : (st_votes A x).2 = A := by
  obtain ⟨⟨tl, tx, fp⟩, ⟨cn, st, mn, m, c, e, k, R, rn⟩, F, sd, U, I, E1, E2, E3⟩ := A
  unfold st_votes; dsimp only; split <;> rfl
theorem st_elected_2 (A : sw_A) : (st_elected A).2 = A := by
  obtain ⟨⟨tl, tx, fp⟩, ⟨cn, st, mn, m, c, e, k, R, rn⟩, F, sd, U, I, E1, E2, E3⟩ := A
  unfold st_elected; dsimp only; split <;> rfl
theorem st_spring_2 (A : sw_A) (x y : Int32) : (st_spring A x y).2 = A := by
  unfold st_spring; split <;> rfl
theorem st_span_2 (A : sw_A) (x y : Int32) : (st_span A x y).2 = A := by
  obtain ⟨⟨tl, tx, fp⟩, ⟨cn, st, mn, m, c, e, k, R, rn⟩, F, sd, U, I, E1, E2, E3⟩ := A
  unfold st_span; dsimp only; split
  · rfl
  · split <;> rfl
theorem st_judge_2 (A : sw_A) : (st_judge A).2 = A := by
  obtain ⟨⟨tl, tx, fp⟩, ⟨cn, st, mn, m, c, e, k, R, rn⟩, F, sd, U, I, E1, E2, E3⟩ := A
  unfold st_judge; dsimp only; split <;> rfl
