/-! THE CLASS: seed, images; spring; counters; souls -/
theorem ct_cseed (l : Launch) (A : sw_A) (hA : okA A) (x : Int32) : am_Ct l 0 yX6_seed cX6_seed 3 (some .int) (trC [.ref 0, .int x] A (st_seed A x)) := by
  refine am_ct tbX6_seed (am_G []) (by decide +kernel) (by simp) rfl dtX6_seed rfl ckX6_seed lkX6_seed (am_nocalls rfl) ?_
  intro as L σ post h
  obtain ⟨rfl, rfl, hR, h⟩ := h
  refine ⟨by simp [am_lv0], fun WW hw => hw 60 _ _ _ _ _ ?_⟩
  obtain ⟨T, ⟨cn, st, mn, m, c, e, k, R, rn⟩, F, sd, U, I, E1, E2, E3⟩ := A
  obtain ⟨hT, hD, hF, hS, hU, hI, h1, h2, h3⟩ := id hR
  have c1 : 0 ≤ x ↔ 0 ≤ x.toInt := sw_lex 0 (by decide)
  have hx2 := fb_rng' x
  conv => whnf
  rw [c1]
  cases hx : sw_ix x 0 2147483648 with
  | none =>
    have hn := sw_ix_none hx
    simp only [st_seed, hx] at h
    exact ⟨fun c => by omega, fun _ => h σ hR⟩
  | some v =>
    obtain ⟨-, hv, rfl⟩ := sw_ix_some hx
    simp only [st_seed, hx] at h
    rw [nI_toInt (by omega)]
    refine ⟨fun _ => ?_, fun c => by omega⟩
    conv => whnf
    rw [hS]
    have hf : am_fr [0] σ (am_w σ 0 14 (nI v)) := aw_fr (am_fr_rf _ _) (by decide)
    exact h _ (RC_flock2 (am_fr_tr (am_fr_rf _ _) hf (by decide)) (aw_k _ _ _ _ _ (by decide)) (aw_s _ _ _ _) hR (sw_FC_fr (am_frd hf 17 rfl) (am_frd hf 18 rfl) (am_frd hf 19 rfl) (am_frd hf 20 rfl) hF) (sw_UC_fr (am_frd hf 27 rfl) (am_frd hf 28 rfl) (am_frd hf 29 rfl) hU))
theorem sw_UC_0 {σ : am_M} {m : Nat} {U : sw_U} (h : sw_UC σ m U) {σ' : am_M} (h1 : σ' 28 0 = σ 28 0) (h2 : σ' 27 1 = 0) (h3 : σ' 27 2 = σ 27 2) : sw_UC σ' m (0, U.2) := by
  obtain ⟨a, b, c, nx, d, e, f⟩ := h
  exact ⟨Nat.zero_le _, by rw [h1]; exact b, h2, nx, d, by rw [h3]; exact e, fun j hj => absurd hj (Nat.not_lt_zero j)⟩
theorem sw_kbit : ∀ K, K < 4 → ∀ i, i < 2 → nI K ||| (1 <<< (nI i &&& 31)) = nI (K ||| 2 ^ i) ∧ K ||| 2 ^ i < 4 ∧ (K ||| 2 ^ i).testBit i = true ∧ ∀ j, j < 2 → ¬ j = i → (K ||| 2 ^ i).testBit j = K.testBit j := by decide +kernel
theorem ct_ckeep (l : Launch) (A : sw_A) (hA : okA A) (x : Int32) : am_Ct l 1 yX6_keep cX6_keep 2 (some .int) (trC [.ref 0, .int x] A (st_keep A x)) := by
  refine am_ct tbX6_keep (am_G [tr_put, tr_hclear]) (by decide +kernel) (by simp) rfl dtX6_keep rfl ckX6_keep lkX6_keep (am_cokF [(21, some (.invokevirtual 271), 0, 3, 4, 0), (50, some (.invokevirtual 96), 1, 1, 2, 0)] rfl (List.forall_mem_cons.mpr ⟨⟨0, _, _, _, _, by decide, (ct_put l), lnX6_271⟩, List.forall_mem_cons.mpr ⟨⟨0, _, _, _, _, by decide, (ct_hclear l), lnX6_96⟩, fun _ h => absurd h List.not_mem_nil⟩⟩)) ?_
  intro as L σ post h
  obtain ⟨rfl, rfl, hR, h⟩ := h
  refine ⟨by simp [am_lv0], fun WW hw => hw 60 _ _ _ _ _ ?_⟩
  obtain ⟨T, ⟨cn, st, mn, m, c, e, k, R, rn⟩, F, sd, U, I, E1, E2, E3⟩ := A
  obtain ⟨hT, hD, hF, hS, hU, ⟨i1, K, hK, i2, i3⟩, h1, h2, h3⟩ := id hR
  obtain ⟨-, -, ⟨hcn, hm, -⟩, -⟩ := hA
  have c1 : x < 0 ↔ x.toInt < 0 := sw_xlt 0 (by decide)
  have c2 : x < 2 ↔ x.toInt < 2 := sw_xlt 2 (by decide)
  cases hx : sw_ix x 0 2 with
  | none =>
    have hn := sw_ix_none hx
    simp only [st_keep, hx] at h
    conv => whnf
    rw [c1]
    refine ⟨fun _ => h σ hR, fun c => ?_⟩
    conv => whnf
    rw [c2]
    exact ⟨fun c => by omega, fun _ => h σ hR⟩
  | some i =>
    obtain ⟨-, hi, rfl⟩ := sw_ix_some hx
    simp only [st_keep, hx] at h
    rw [nI_toInt (by omega)] at c1 c2
    have v1 : vp_in (nI i) 2 := vp_j hi (by decide)
    have k1 : (nI i).toNatClampNeg = i := nI_cl (by omega)
    obtain ⟨b1, b2, b3, b4⟩ := sw_kbit K hK i hi
    conv => whnf
    rw [c1]
    refine ⟨fun c => by omega, fun c => ?_⟩
    conv => whnf
    rw [c2]
    refine ⟨fun c => ?_, fun c => by omega⟩
    conv => whnf
    refine ⟨30, 31, 2, 54, i, m, F, rfl, rfl, Or.inr ⟨rfl, rfl, rfl, rfl⟩, hi, hm, i1, hF, fun σ1 hf hcell hoth => ?_⟩
    repeat ((conv => whnf); refine And.intro ?_ ?_; first | with_reducible assumption | decide)
    conv => whnf
    have g0 := am_frd hf 0 rfl
    simp only [k1, am_un, Nat.reduceEqDiff, not_false_eq_true, g0, i2, hS, cond_false, b1]
    generalize hs2 : am_w (am_up (am_up σ1 32 (upd (σ1 32) i (nI sd))) 0 (upd (σ 0) 8 (nI (K ||| 2 ^ i)))) 27 1 0 = σ2
    have hf2 : am_fr [0, 27, 31, 32] σ σ2 := by
      rw [← hs2]
      exact aw_fr (am_fr_up _ (am_fr_up _ (am_fr_tr (am_fr_rf _ _) hf (by decide)) (by decide)) (by decide)) (by decide)
    refine h σ2 ⟨rcT_fr (am_frd hf2 1 rfl) (am_frd hf2 2 rfl) hT, rcD_fr (am_frd hf2 3 rfl) (am_frd hf2 4 rfl) (am_frd hf2 5 rfl) (am_frd hf2 8 rfl) (am_frd hf2 9 rfl) hD, sw_FC_fr (am_frd hf2 17 rfl) (am_frd hf2 18 rfl) (am_frd hf2 19 rfl) (am_frd hf2 20 rfl) hF, ?_, sw_UC_0 hU ?_ ?_ ?_, ⟨?_, K ||| 2 ^ i, b2, ?_, fun j hj => ?_⟩, sw_EC_fr (am_frd hf2 33 rfl) (am_frd hf2 34 rfl) (am_frd hf2 35 rfl) h1, sw_EC_fr (am_frd hf2 36 rfl) (am_frd hf2 37 rfl) (am_frd hf2 38 rfl) h2, sw_EC_fr (am_frd hf2 39 rfl) (am_frd hf2 40 rfl) (am_frd hf2 41 rfl) h3⟩
    · rw [← hs2, aw_n _ _ _ _ _ (by decide), am_us, up_n _ _ _ _ (by decide)]; exact hS
    · rw [am_frd hf2 28 rfl]
    · rw [← hs2, aw_s]
    · rw [← hs2, aw_k _ _ _ _ _ (by decide), am_un _ _ _ _ (by decide), am_un _ _ _ _ (by decide), am_frd hf 27 rfl]
    · rw [am_frd hf2 30 rfl]; exact i1
    · rw [← hs2, aw_n _ _ _ _ _ (by decide), am_us, up_s]
    · have e31 : σ2 31 = σ1 31 := by rw [← hs2, aw_n _ _ _ _ _ (by decide), am_un _ _ _ _ (by decide), am_un _ _ _ _ (by decide)]
      have e32 : ∀ q, σ2 32 q = upd (σ 32) i (nI sd) q := fun q => by rw [← hs2, aw_n _ _ _ _ _ (by decide), am_un _ _ _ _ (by decide), am_us, am_frd hf 32 rfl]
      by_cases hji : j = i
      · subst hji
        rw [up_vs]
        exact ⟨b3, by rw [e31]; exact hcell, by rw [e32, up_s]⟩
      · rw [up_vn _ _ _ _ hji, b4 j hj hji, e31, e32, up_n _ _ _ _ hji]
        have := i3 j hj
        cases hIj : I j with
        | none => rw [hIj] at this; exact this
        | some p =>
          rw [hIj] at this
          exact ⟨this.1, sw_cell_eq hm (fun q h1 h2 => hoth q (by omega)) this.2.1, this.2.2⟩
theorem ct_cgoBack (l : Launch) (A : sw_A) (hA : okA A) (x : Int32) : am_Ct l 1 yX6_goBack cX6_goBack 2 (some .int) (trC [.ref 0, .int x] A (st_goBack A x)) := by
  refine am_ct tbX6_goBack (am_G [tr_take, tr_hclear]) (by decide +kernel) (by simp) rfl dtX6_goBack rfl ckX6_goBack lkX6_goBack (am_cokF [(35, some (.invokevirtual 275), 0, 3, 4, 0), (52, some (.invokevirtual 96), 1, 1, 2, 0)] rfl (List.forall_mem_cons.mpr ⟨⟨0, _, _, _, _, by decide, (ct_take l), lnX6_275⟩, List.forall_mem_cons.mpr ⟨⟨0, _, _, _, _, by decide, (ct_hclear l), lnX6_96⟩, fun _ h => absurd h List.not_mem_nil⟩⟩)) ?_
  intro as L σ post h
  obtain ⟨rfl, rfl, hR, h⟩ := h
  refine ⟨by simp [am_lv0], fun WW hw => hw 60 _ _ _ _ _ ?_⟩
  obtain ⟨T, ⟨cn, st, mn, m, c, e, k, R, rn⟩, F, sd, U, I, E1, E2, E3⟩ := A
  obtain ⟨hT, hD, hF, hS, hU, hIall, h1, h2, h3⟩ := id hR
  obtain ⟨i1, K, hK, i2, i3⟩ := id hIall
  obtain ⟨-, -, ⟨hcn, hm, -⟩, -⟩ := hA
  have c1 : x < 0 ↔ x.toInt < 0 := sw_xlt 0 (by decide)
  have c2 : x < 2 ↔ x.toInt < 2 := sw_xlt 2 (by decide)
  cases hx : sw_ix x 0 2 with
  | none =>
    have hn := sw_ix_none hx
    simp only [st_goBack, hx] at h
    conv => whnf
    rw [c1]
    refine ⟨fun _ => h σ hR, fun c => ?_⟩
    conv => whnf
    rw [c2]
    exact ⟨fun c => by omega, fun _ => h σ hR⟩
  | some i =>
    obtain ⟨-, hi, rfl⟩ := sw_ix_some hx
    simp only [st_goBack, hx] at h
    rw [nI_toInt (by omega)] at c1 c2
    have v1 : vp_in (nI i) 2 := vp_j hi (by decide)
    have k1 : (nI i).toNatClampNeg = i := nI_cl (by omega)
    have hbit := sw_bit_nat K (by omega) i (by omega)
    have hi3 := i3 i hi
    conv => whnf
    rw [c1]
    refine ⟨fun c => by omega, fun c => ?_⟩
    conv => whnf
    rw [c2]
    refine ⟨fun c => ?_, fun c => by omega⟩
    conv => whnf
    rw [i2]
    cases hIi : I i with
    | none =>
      rw [hIi] at hi3
      simp only [hIi] at h
      refine ⟨fun cc => ?_, fun cc => h σ hR⟩
      have := sw_bit_t cc
      rw [hbit, hi3] at this; cases this
    | some p =>
      obtain ⟨F', sd'⟩ := p
      rw [hIi] at hi3
      simp only [hIi] at h
      refine ⟨fun cc => ?_, fun cc => ?_⟩
      · conv => whnf
        refine ⟨30, 31, 2, 54, i, m, F', rfl, rfl, Or.inr ⟨rfl, rfl, rfl, rfl⟩, hi, hm, i1, hi3.2.1, fun σ1 hf hF1 => ?_⟩
        repeat ((conv => whnf); refine And.intro ?_ ?_; first | with_reducible assumption | decide)
        conv => whnf
        have g32 := am_frd hf 32 rfl
        have g0 := am_frd hf 0 rfl
        rw [k1, g32, hi3.2.2]
        generalize hs2 : am_w (am_up σ1 0 (upd (σ1 0) 14 (nI sd'))) 27 1 0 = σ2
        have hf2 : am_fr [0, 17, 18, 19, 20, 27] σ σ2 := by
          rw [← hs2]
          exact aw_fr (am_fr_up _ (am_fr_tr (am_fr_rf _ _) hf (by decide)) (by decide)) (by decide)
        have hf3 : am_fr [0, 27] σ1 σ2 := by
          rw [← hs2]
          exact aw_fr (am_fr_up _ (am_fr_rf _ _) (by decide)) (by decide)
        refine h σ2 (RC_flock2 (am_fr_tr (am_fr_rf _ _) hf2 (by decide)) ?_ ?_ hR (sw_FC_fr (am_frd hf3 17 rfl) (am_frd hf3 18 rfl) (am_frd hf3 19 rfl) (am_frd hf3 20 rfl) hF1) (sw_UC_0 hU ?_ ?_ ?_))
        · rw [← hs2, aw_n _ _ _ _ _ (by decide), am_us, up_n _ _ _ _ (by decide), g0]
        · rw [← hs2, aw_n _ _ _ _ _ (by decide), am_us, up_s]
        · rw [am_frd hf2 28 rfl]
        · rw [← hs2, aw_s]
        · rw [← hs2, aw_k _ _ _ _ _ (by decide), am_un _ _ _ _ (by decide), am_frd hf 27 rfl]
      · have := sw_bit_f cc
        rw [hbit, hi3.1] at this; cases this
theorem sw_od_le {q : Nat} (hq : q ≤ 100) : ∀ n, sw_od q n ≤ 1000000000
  | 0 => Nat.le_refl _
  | n + 1 => by
    have h1 := sw_od_le hq n
    have h2 : sw_od q n * (100 - q) ≤ 1000000000 * 100 := Nat.mul_le_mul h1 (by omega)
    rw [sw_od]; omega
theorem ct_cspring (l : Launch) (A : sw_A) (x y : Int32) : am_Ct l 0 yX6_spring cX6_spring 6 (some .int) (trC [.ref 0, .int x, .int y] A (st_spring A x y)) := by
  refine am_ct tbX6_spring (am_G []) (by decide +kernel) (by simp) rfl dtX6_spring rfl ckX6_spring lkX6_spring (am_nocalls rfl) ?_
  intro as L σ post h
  obtain ⟨rfl, rfl, hR, h⟩ := h
  refine ⟨by simp [am_lv0], fun WW hw => ?_⟩
  have h := h σ
  have c0 : x < 0 ↔ x.toInt < 0 := sw_xlt 0 (by decide)
  have c30 : 30 < x ↔ 30 < x.toInt := sw_ltx 30 (by decide)
  have d0 : y < 0 ↔ y.toInt < 0 := sw_xlt 0 (by decide)
  have d100 : y ≤ 100 ↔ y.toInt ≤ 100 := sw_xle 100 (by decide)
  cases hx : sw_ix x 0 31 with
  | none =>
    have hn := sw_ix_none hx
    simp only [st_spring, hx] at h
    refine hw 60 _ _ _ _ _ ?_
    conv => whnf
    rw [c0]
    refine ⟨fun _ => h hR, fun c => ?_⟩
    conv => whnf
    rw [c30]
    exact ⟨fun _ => h hR, fun c => by omega⟩
  | some n =>
    obtain ⟨-, hn, rfl⟩ := sw_ix_some hx
    rw [nI_toInt (by omega)] at c0 c30
    cases hy : sw_ix y 0 101 with
    | none =>
      have hn2 := sw_ix_none hy
      simp only [st_spring, hx, hy] at h
      refine hw 60 _ _ _ _ _ ?_
      conv => whnf
      rw [c0]
      refine ⟨fun c => by omega, fun c => ?_⟩
      conv => whnf
      rw [c30]
      refine ⟨fun c => by omega, fun c => ?_⟩
      conv => whnf
      rw [d0]
      refine ⟨fun _ => h hR, fun c => ?_⟩
      conv => whnf
      rw [d100]
      exact ⟨fun c => by omega, fun _ => h hR⟩
    | some q =>
      obtain ⟨-, hq, rfl⟩ := sw_ix_some hy
      rw [nI_toInt (by omega)] at d0 d100
      simp only [st_spring, hx, hy] at h
      have loop : ∀ (kk i : Nat) (z : Int32) (w : Int64), i + kk = n → z = nI i → w = lN (sw_od q i) → WW 17 [some (.ref 0), some (.int (nI n)), some (.int (nI q)), some (.long w), none, some (.int z)] [] LC σ := by
        intro kk
        induction kk with
        | zero =>
          intro i z w hi hz hw2
          have ei : i = n := by omega
          subst ei; subst hz; subst hw2
          refine hw 60 _ _ _ _ _ ?_
          conv => whnf
          refine ⟨fun _ => ?_, fun c => absurd (Int32.le_refl _) c⟩
          conv => whnf
          rw [lN_i]
          exact h hR
        | succ kk ih =>
          intro i z w hi hz hw2
          subst hz; subst hw2
          have hb := sw_od_le (q := q) (by omega) i
          have hmul : sw_od q i * (100 - q) ≤ 1000000000 * 100 := Nat.mul_le_mul hb (by omega)
          refine hw 60 _ _ _ _ _ ?_
          conv => whnf
          refine ⟨fun c => absurd c (nI_ge (by omega) (by omega)), fun _ => ?_⟩
          conv => whnf
          refine ⟨by decide, ?_⟩
          conv => whnf
          refine ih (i + 1) _ _ (by omega) (nI_1 i) ?_
          rw [show (100 : Int32) - nI q = nI (100 - q) from pk_sub (a := 100) (by omega), nI_l (by omega), lN_mul, pk_lDiv (by omega) (by decide) (by decide)]
          rfl
      refine hw 60 _ _ _ _ _ ?_
      conv => whnf
      rw [c0]
      refine ⟨fun c => by omega, fun c => ?_⟩
      conv => whnf
      rw [c30]
      refine ⟨fun c => by omega, fun c => ?_⟩
      conv => whnf
      rw [d0]
      refine ⟨fun c => by omega, fun c => ?_⟩
      conv => whnf
      rw [d100]
      refine ⟨fun c => ?_, fun c => by omega⟩
      conv => whnf
      exact loop n 0 0 _ (Nat.zero_add _) rfl rfl
