/-! THE CLASS: game (2) -/
theorem fb_bmod {z : Int} (h1 : -2147483648 ≤ z) (h2 : z < 2147483648) : z.bmod (2 ^ 32) = z := by
  rw [Int.bmod_eq_of_le (by omega) (by omega)]
theorem sw_c32_i (w : Nat) : (sw_c32 w).toInt = sw_co w := by unfold sw_c32 sw_co; split <;> decide
theorem sw_co_b (w : Nat) : 0 ≤ sw_co w ∧ sw_co w ≤ 1 := by unfold sw_co; split <;> decide
theorem sw_gi {a b w : Nat} (ha : a < 1000) (hb : b < 1000) : (nI a - nI b - sw_c32 w).toInt = (a : Int) - b - sw_co w := by
  have := sw_co_b w
  rw [Int32.toInt_sub, pk_sub_toInt (by omega) (by omega), sw_c32_i, fb_bmod (by omega) (by omega)]
theorem sw_gn {a b w : Nat} (ha : a < 1000) (hb : b < 1000) : (-(nI a - nI b) - sw_c32 w).toInt = -((a : Int) - b) - sw_co w := by
  have := sw_co_b w
  have h1 : (-(nI a - nI b)).toInt = -((a : Int) - b) := by rw [Int32.toInt_neg, pk_sub_toInt (by omega) (by omega), fb_bmod (by omega) (by omega)]
  rw [Int32.toInt_sub, h1, sw_c32_i, fb_bmod (by omega) (by omega)]
def tr_nobody : am_T := fun as L σ post => ∃ (a b : Nat) (S T : Nat → Nat), as = [.ref 0, .int (nI a), .int (nI b)] ∧ L = LC ∧ a < 3 ∧ b < 3 ∧ (∀ j, j < 9 → σ 43 j = nI (S j) - nI (T j) ∧ S j < 1000 ∧ T j < 1000) ∧ post (some (.int (sw_b2 (sw_sty S T (3 * a + b))))) L σ
theorem ct_nobody (l : Launch) : am_Ct l 1 yX6_nobodyWouldLeave cX6_nobodyWouldLeave 6 (some .boolean) tr_nobody := by
  refine am_ct tbX6_nobodyWouldLeave (am_G [tr_gainFirst, tr_gainOther]) (by decide +kernel) (by simp) rfl dtX6_nobodyWouldLeave rfl ckX6_nobodyWouldLeave lkX6_nobodyWouldLeave (am_cokF [(10, some (.invokevirtual 290), 0, 3, 6, 0), (16, some (.invokevirtual 290), 0, 3, 6, 0), (32, some (.invokevirtual 293), 1, 3, 6, 0), (38, some (.invokevirtual 293), 1, 3, 6, 0)] rfl (List.forall_mem_cons.mpr ⟨⟨0, _, _, _, _, by decide, (ct_gainFirst l), lnX6_290⟩, List.forall_mem_cons.mpr ⟨⟨0, _, _, _, _, by decide, (ct_gainFirst l), lnX6_290⟩, List.forall_mem_cons.mpr ⟨⟨0, _, _, _, _, by decide, (ct_gainOther l), lnX6_293⟩, List.forall_mem_cons.mpr ⟨⟨0, _, _, _, _, by decide, (ct_gainOther l), lnX6_293⟩, fun _ h => absurd h List.not_mem_nil⟩⟩⟩⟩)) ?_
  intro as L σ post h
  obtain ⟨a, b, S, T, rfl, rfl, ha, hb, hl, h⟩ := h
  refine ⟨by simp [am_lv0], fun WW hw => ?_⟩
  obtain ⟨g1, g2, g3⟩ := hl (a * 3 + b) (by omega)
  have loop : ∀ (kk i : Nat) (z : Int32), i + kk = 3 → z = nI i → (∀ x, x < i → sw_stx S T (3 * a + b) x = true) → WW 3 [some (.ref 0), some (.int (nI a)), some (.int (nI b)), some (.int z)] [] LC σ := by
    intro kk
    induction kk with
    | zero =>
      intro i z hi hz hx
      have ei : i = 3 := by omega
      subst ei; subst hz
      refine hw 60 _ _ _ _ _ ?_
      conv => whnf
      refine ⟨fun _ => ?_, fun c => absurd (Int32.le_refl _) c⟩
      conv => whnf
      rw [sw_sty, hx 0 (by decide), hx 1 (by decide), hx 2 (by decide)] at h
      exact ⟨Or.inr rfl, h⟩
    | succ kk ih =>
      intro i z hi hz hx
      subst hz
      obtain ⟨p1, p2, p3⟩ := hl (i * 3 + b) (by omega)
      obtain ⟨q1, q2, q3⟩ := hl (a * 3 + i) (by omega)
      have hfalse : sw_stx S T (3 * a + b) i = false → post (some (.int 0)) LC σ := by
        intro hf
        have : sw_sty S T (3 * a + b) = false := by
          unfold sw_sty
          have : i = 0 ∨ i = 1 ∨ i = 2 := by omega
          rcases this with rfl | rfl | rfl <;> simp [hf]
        rw [this] at h; exact h
      have e1 : sw_stx S T (3 * a + b) i = (decide (((S (i * 3 + b) : Int) - T (i * 3 + b)) - sw_co i ≤ (S (a * 3 + b) : Int) - T (a * 3 + b) - sw_co a) && decide (-((S (a * 3 + i) : Int) - T (a * 3 + i)) - sw_co i ≤ -((S (a * 3 + b) : Int) - T (a * 3 + b)) - sw_co b)) := by
        unfold sw_stx
        rw [show 3 * i + (3 * a + b) % 3 = i * 3 + b by omega, show (3 * a + b) / 3 = a by omega, show (3 * a + b) % 3 = b by omega, show 3 * a + b = a * 3 + b by omega]
      have f1 : σ 43 (i * 3 + b) - sw_c32 i ≤ σ 43 (a * 3 + b) - sw_c32 a ↔ ((S (i * 3 + b) : Int) - T (i * 3 + b)) - sw_co i ≤ (S (a * 3 + b) : Int) - T (a * 3 + b) - sw_co a := by
        rw [Int32.le_iff_toInt_le, p1, g1, sw_gi p2 p3, sw_gi g2 g3]
      have f2 : -(σ 43 (a * 3 + i)) - sw_c32 i ≤ -(σ 43 (a * 3 + b)) - sw_c32 b ↔ -((S (a * 3 + i) : Int) - T (a * 3 + i)) - sw_co i ≤ -((S (a * 3 + b) : Int) - T (a * 3 + b)) - sw_co b := by
        rw [Int32.le_iff_toInt_le, q1, g1, sw_gn q2 q3, sw_gn g2 g3]
      refine hw 60 _ _ _ _ _ ?_
      conv => whnf
      refine ⟨fun c => absurd c (nI_ge (b := 3) (by omega) (by omega)), fun _ => ?_⟩
      conv => whnf
      refine ⟨i, b, rfl, rfl, by omega, hb, ?_⟩
      conv => whnf
      refine ⟨a, b, rfl, rfl, ha, hb, ?_⟩
      conv => whnf
      rw [f1]
      refine ⟨fun c1 => ?_, fun c1 => ?_⟩
      · conv => whnf
        refine ⟨a, i, rfl, rfl, ha, by omega, ?_⟩
        conv => whnf
        refine ⟨a, b, rfl, rfl, ha, hb, ?_⟩
        conv => whnf
        rw [f2]
        refine ⟨fun c2 => ?_, fun c2 => ?_⟩
        · conv => whnf
          refine ⟨fun c => absurd rfl c, fun _ => ?_⟩
          conv => whnf
          refine ⟨fun _ => ?_, fun c => absurd rfl c⟩
          conv => whnf
          refine ih (i + 1) _ (by omega) (nI_1 i) (fun x hxi => ?_)
          by_cases hxe : x = i
          · subst hxe; rw [e1, decide_eq_true c1, decide_eq_true c2]; rfl
          · exact hx x (by omega)
        · conv => whnf
          refine ⟨fun c => absurd rfl c, fun _ => ?_⟩
          conv => whnf
          refine ⟨fun c => absurd c (by decide), fun _ => ?_⟩
          conv => whnf
          exact ⟨Or.inl rfl, hfalse (by rw [e1, decide_eq_false c2, Bool.and_false])⟩
      · conv => whnf
        refine ⟨a, i, rfl, rfl, ha, by omega, ?_⟩
        conv => whnf
        refine ⟨a, b, rfl, rfl, ha, hb, ?_⟩
        conv => whnf
        have hfin := hfalse (by rw [e1, decide_eq_false c1, Bool.false_and])
        refine ⟨fun c2 => ?_, fun c2 => ?_⟩
        · conv => whnf
          refine ⟨fun _ => ?_, fun c => absurd c (by decide)⟩
          conv => whnf
          exact ⟨Or.inl rfl, hfin⟩
        · conv => whnf
          refine ⟨fun _ => ?_, fun c => absurd c (by decide)⟩
          conv => whnf
          exact ⟨Or.inl rfl, hfin⟩
  refine hw 60 _ _ _ _ _ ?_
  conv => whnf
  exact loop 3 0 0 rfl rfl (fun x hx => absurd hx (Nat.not_lt_zero x))
theorem sw_gg_neg {P : Nat → Bool} {i : Int32} (h : i.toInt < -1) : ∀ f k n, n + f < 1000 → sw_gg P i f k n = -1
  | 0, k, n, _ => by
    rw [sw_gg, if_neg (fun e => by rw [e] at h; exact absurd h (by decide))]
  | f + 1, k, n, hn => by
    rw [sw_gg]
    split
    · rw [if_neg (fun e => by rw [← e, nI_toInt (by omega)] at h; omega)]
      exact sw_gg_neg h f (k + 1) (n + 1) (by omega)
    · exact sw_gg_neg h f (k + 1) n (by omega)
set_option maxHeartbeats 2000000 in
theorem ct_cgame (l : Launch) (A : sw_A) (hA : okA A) (x y z : Int32) : am_Ct l 4 yX6_game cX6_game 7 (some .int) (trC [.ref 0, .int x, .int y, .int z] A (st_game A x y z)) := by
  refine am_ct tbX6_game (am_G [tr_hasCounty, tr_playAll, tr_nobody]) (by decide +kernel) (by simp) rfl dtX6_game rfl ckX6_game lkX6_game (am_cokF [(5, some (.invokevirtual 201), 0, 2, 3, 0), (16, some (.invokevirtual 201), 0, 2, 3, 0), (40, some (.invokevirtual 232), 1, 3, 6, 0), (69, some (.invokevirtual 235), 2, 3, 6, 0)] rfl (List.forall_mem_cons.mpr ⟨⟨0, _, _, _, _, by decide, (ct_hasCounty l), lnX6_201⟩, List.forall_mem_cons.mpr ⟨⟨0, _, _, _, _, by decide, (ct_hasCounty l), lnX6_201⟩, List.forall_mem_cons.mpr ⟨⟨3, _, _, _, _, by decide, (ct_playAll l), lnX6_232⟩, List.forall_mem_cons.mpr ⟨⟨1, _, _, _, _, by decide, (ct_nobody l), lnX6_235⟩, fun _ h => absurd h List.not_mem_nil⟩⟩⟩⟩)) ?_
  intro as L σ post h
  obtain ⟨rfl, rfl, hR, h⟩ := h
  refine ⟨by simp [am_lv0], fun WW hw => ?_⟩
  obtain ⟨T, ⟨cn, st, mn, m, c, e, k, R, rn⟩, F, sd, U, I, E1, E2, E3⟩ := A
  obtain ⟨hT, hD, hF, -⟩ := id hR
  obtain ⟨-, -, hokD, hokF, -⟩ := hA
  have hL := hD.1
  have hcn : cn ≤ 4 := hokD.1
  cases hx : sw_ix x 0 cn with
  | none =>
    refine hw 60 _ _ _ _ _ ?_
    conv => whnf
    refine ⟨x, cn, rfl, rfl, by omega, hL.2.1, ?_⟩
    simp only [st_game, hx] at h
    rw [hx]
    conv => whnf
    exact ⟨fun _ => h σ hR, fun c => absurd rfl c⟩
  | some p =>
    obtain ⟨-, hp, rfl⟩ := sw_ix_some hx
    cases hyx : sw_ix y 0 cn with
    | none =>
      simp only [st_game, hx, hyx] at h
      refine hw 60 _ _ _ _ _ ?_
      conv => whnf
      refine ⟨nI p, cn, rfl, rfl, by omega, hL.2.1, ?_⟩
      rw [hx]
      conv => whnf
      refine ⟨fun c => absurd c sw_t0, fun _ => ?_⟩
      conv => whnf
      refine ⟨y, cn, rfl, rfl, by omega, hL.2.1, ?_⟩
      rw [hyx]
      conv => whnf
      exact ⟨fun _ => h σ hR, fun c => absurd rfl c⟩
    | some q =>
      obtain ⟨-, hq, rfl⟩ := sw_ix_some hyx
      simp only [st_game, hx, hyx] at h
      have hpq : nI p = nI q ↔ p = q := nI_eq' (by omega) (by omega)
      have hzr := fb_rng' z
      have cz : (-1 : Int32) ≤ z ↔ -1 ≤ z.toInt := by rw [Int32.le_iff_toInt_le]; exact Iff.rfl
      generalize hS : sw_gs (cn, st, mn, m, c, e, k, R, rn) F p q p = S at h
      generalize hT2 : sw_gs (cn, st, mn, m, c, e, k, R, rn) F p q q = T2 at h
      have hSb : ∀ j, S j < 1000 := fun j => by rw [← hS]; have := sw_gs_le (D := (cn, st, mn, m, c, e, k, R, rn)) (F := F) (p := p) (q := q) (x := p) (k := j) hokD hokF; omega
      have hTb : ∀ j, T2 j < 1000 := fun j => by rw [← hT2]; have := sw_gs_le (D := (cn, st, mn, m, c, e, k, R, rn)) (F := F) (p := p) (q := q) (x := q) (k := j) hokD hokF; omega
      have main : ¬ p = q → -1 ≤ z.toInt → ∀ (σ1 : am_M), am_fr [22, 23, 24, 25, 26, 43] σ σ1 → (∀ j, j < 9 → σ1 43 j = nI (S j) - nI (T2 j)) → ∀ (kk i n : Nat) (u v : Int32), i + kk = 3 → u = nI i → v = nI n → n ≤ 3 * i → sw_gg (sw_sty S T2) z (9 - 3 * i) (3 * i) n = sw_gg (sw_sty S T2) z 9 0 0 → WW 29 [some (.ref 0), some (.int (nI p)), some (.int (nI q)), some (.int z), some (.int v), some (.int u)] [] LC σ1 := by
        intro hne hz σ1 hf hl kk
        rw [if_neg hne] at h
        have h := h σ1 (RC_junk (am_fr_tr (am_fr_rf _ _) hf (by decide)) hR)
        have inner : ∀ (i : Nat), i < 3 → (∀ (n : Nat) (u v : Int32), u = nI (i + 1) → v = nI n → n ≤ 3 * (i + 1) → sw_gg (sw_sty S T2) z (9 - 3 * (i + 1)) (3 * (i + 1)) n = sw_gg (sw_sty S T2) z 9 0 0 → WW 29 [some (.ref 0), some (.int (nI p)), some (.int (nI q)), some (.int z), some (.int v), some (.int u)] [] LC σ1) →
            ∀ (kk j n : Nat) (w v : Int32), j + kk = 3 → w = nI j → v = nI n → n ≤ 3 * i + j → sw_gg (sw_sty S T2) z (9 - (3 * i + j)) (3 * i + j) n = sw_gg (sw_sty S T2) z 9 0 0 → WW 35 [some (.ref 0), some (.int (nI p)), some (.int (nI q)), some (.int z), some (.int v), some (.int (nI i)), some (.int w)] [] LC σ1 := by
          intro i hi hnext kk
          induction kk with
          | zero =>
            intro j n w v hj hw2 hv hn ht
            have ej : j = 3 := by omega
            subst ej; subst hw2; subst hv
            refine hw 60 _ _ _ _ _ ?_
            conv => whnf
            refine ⟨fun _ => ?_, fun c => absurd (Int32.le_refl _) c⟩
            conv => whnf
            exact hnext n _ _ (nI_1 i) rfl (by omega) ht
          | succ kk ih =>
            intro j n w v hj hw2 hv hn ht
            subst hw2; subst hv
            rw [show 9 - (3 * i + j) = (9 - (3 * i + (j + 1))) + 1 by omega, sw_gg] at ht
            refine hw 60 _ _ _ _ _ ?_
            conv => whnf
            refine ⟨fun c => absurd c (nI_ge (b := 3) (by omega) (by omega)), fun _ => ?_⟩
            conv => whnf
            refine ⟨i, j, S, T2, rfl, rfl, hi, by omega, fun t ht => ⟨hl t ht, hSb t, hTb t⟩, ?_⟩
            cases hst : sw_sty S T2 (3 * i + j) with
            | false =>
              rw [hst, if_neg (by decide)] at ht
              conv => whnf
              refine ⟨fun _ => ?_, fun c => absurd rfl c⟩
              conv => whnf
              exact ih (j + 1) n _ _ (by omega) (nI_1 j) rfl (by omega) ht
            | true =>
              rw [hst, if_pos rfl] at ht
              conv => whnf
              refine ⟨fun c => absurd c (by decide), fun _ => ?_⟩
              conv => whnf
              refine ⟨fun cc => ?_, fun cc => ?_⟩
              · rw [if_neg cc] at ht
                conv => whnf
                exact ih (j + 1) (n + 1) _ _ (by omega) (nI_1 j) (nI_1 n) (by omega) ht
              · rw [if_pos cc] at ht
                conv => whnf
                rw [← ht, show (3 * i + j) / 3 = i by omega, show (3 * i + j) % 3 = j by omega] at h
                rw [show (10 : Int32) * nI i = nI (10 * i) from pk_mul 10 i, nI_add]
                exact h
        induction kk with
        | zero =>
          intro i n u v hi hu hv hn ht
          have ei : i = 3 := by omega
          subst ei; subst hu; subst hv
          rw [sw_gg] at ht
          refine hw 60 _ _ _ _ _ ?_
          conv => whnf
          refine ⟨fun _ => ?_, fun c => absurd (Int32.le_refl _) c⟩
          conv => whnf
          refine ⟨fun cc => ?_, fun cc => ?_⟩
          · rw [if_neg cc] at ht
            conv => whnf
            rw [← ht] at h; exact h
          · rw [if_pos cc] at ht
            conv => whnf
            rw [← ht] at h; exact h
        | succ kk ih =>
          intro i n u v hi hu hv hn ht
          subst hu; subst hv
          refine hw 60 _ _ _ _ _ ?_
          conv => whnf
          refine ⟨fun c => absurd c (nI_ge (b := 3) (by omega) (by omega)), fun _ => ?_⟩
          conv => whnf
          exact inner i (by omega) (fun n u v hu hv hn ht => ih (i + 1) n u v (by omega) hu hv hn ht) 3 0 n 0 _ rfl rfl rfl (by omega) ht
      refine hw 60 _ _ _ _ _ ?_
      conv => whnf
      refine ⟨nI p, cn, rfl, rfl, by omega, hL.2.1, ?_⟩
      rw [hx]
      conv => whnf
      refine ⟨fun c => absurd c sw_t0, fun _ => ?_⟩
      conv => whnf
      refine ⟨nI q, cn, rfl, rfl, by omega, hL.2.1, ?_⟩
      rw [hyx]
      conv => whnf
      refine ⟨fun c => absurd c sw_t0, fun _ => ?_⟩
      conv => whnf
      rw [hpq]
      refine ⟨fun cpq => ?_, fun cpq => ?_⟩
      · conv => whnf
        rw [cz]
        refine ⟨fun cc => ?_, fun cc => ?_⟩
        · conv => whnf
          refine ⟨cn, st, mn, m, c, e, k, R, rn, F, p, q, rfl, rfl, hD, hokD, hF, hokF, hp, hq, fun σ1 hf hl => ?_⟩
          conv => whnf
          exact main cpq cc σ1 hf (fun j hj => by rw [← hS, ← hT2]; exact hl j hj) 3 0 0 0 0 rfl rfl rfl (Nat.le_refl _) rfl
        · rw [if_neg cpq, sw_gg_neg (by omega) 9 0 0 (by decide)] at h
          exact h σ hR
      · rw [if_pos cpq] at h
        exact h σ hR
