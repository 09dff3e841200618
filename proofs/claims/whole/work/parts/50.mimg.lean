/-! THE REFERENCE: images -/
theorem rmU_0 {σ : am_M} {m : Nat} {U : sw_U} {σ' : am_M} (h : σ' 0 27 = 0) : rmU σ' m (0, U.2) := ⟨Nat.zero_le _, h, fun j hj => absurd hj (Nat.not_lt_zero j)⟩
theorem nI_28 (i : Nat) : 28 * nI i = nI (28 * i) := pk_mul 28 i
theorem ct_mkeep (l : Launch) (A : sw_A) (hA : okA A) (x : Int32) : am_Ct l 1 yX7_keep cX7_keep 3 (some .int) (trM [.ref 0, .int x] A (st_keep A x)) := by
  refine am_ct tbX7_keep (am_G [tr_min]) (by decide +kernel) (by simp) rfl dtX7_keep rfl ckX7_keep lkX7_keep (am_cokF [(4, some (.invokestatic 99), 0, 3, 0, 0)] rfl (List.forall_mem_cons.mpr ⟨Or.inr (Or.inr (Or.inr ⟨0, _, _, _, _, by decide, (ct_min l), lnX7_99⟩)), fun _ h => absurd h List.not_mem_nil⟩)) ?_
  intro as L σ post h
  obtain ⟨rfl, rfl, hR, h⟩ := h
  refine ⟨by simp [am_lv0], fun WW hw => ?_⟩
  obtain ⟨T, ⟨cn, st, mn, m, c, e, k, R, rn⟩, F, sd, U, I, E1, E2, E3⟩ := A
  obtain ⟨hT, hD, hF, hS, hU, hI, h1, h2, h3⟩ := id hR
  obtain ⟨-, -, ⟨hcn, hm, -⟩, -⟩ := hA
  cases hx : sw_ix x 0 2 with
  | none =>
    simp only [st_keep, hx] at h
    refine hw 60 _ _ _ _ _ ?_
    conv => whnf
    refine ⟨_, _, _, x.toInt, ((0 : Nat) : Int), 1, rfl, Int32.toInt_toInt64 x, rfl, rfl, ?_⟩
    rw [sw_isIx x 0 2 (hi := 1) rfl, hx]
    conv => whnf
    exact ⟨fun c => absurd rfl c, fun _ => h σ hR⟩
  | some i =>
    obtain ⟨-, hi, rfl⟩ := sw_ix_some hx
    simp only [st_keep, hx] at h
    have loop : ∀ d z, d + z = 27 → ∀ σ2, am_fr [25] σ σ2 → (∀ q, q < z → σ2 25 (28 * i + q) = σ 5 q) → (∀ q, (q < 28 * i ∨ 28 * i + 27 ≤ q) → σ2 25 q = σ 25 q) → WW 11 [some (.ref 0), some (.int (nI i)), some (.int (nI z))] [] LM σ2 := by
      intro d
      induction d with
      | zero =>
        intro z hz σ2 hf hb ho
        have c := nI_le' (a := 27) (b := z) (by omega) (by omega)
        have hz : z = 27 := by omega
        subst hz
        have v1 : vp_in (28 * nI i + 27) 56 := by rw [nI_28, show nI (28 * i) + 27 = nI (28 * i + 27) from nI_add _ 27]; exact vp_j (by omega) (by decide)
        have k1 : (28 * nI i + 27).toNatClampNeg = 28 * i + 27 := by rw [nI_28, show nI (28 * i) + 27 = nI (28 * i + 27) from nI_add _ 27]; exact nI_cl (by omega)
        have v2 : vp_in (nI i) 2 := vp_j hi (by decide)
        have k2 : (nI i).toNatClampNeg = i := nI_cl (by omega)
        refine hw 60 _ _ _ _ _ ?_
        conv => whnf
        refine ⟨fun _ => ?_, fun q => absurd (c.2 (by omega)) q⟩
        repeat ((conv => whnf); refine And.intro ?_ ?_; first | with_reducible assumption | decide)
        conv => whnf
        have hn1 : (bif true then vp_nar .boolean (1 : Int32) else 1) = 1 := by decide
        have e10 : σ2 0 10 = nI sd := by rw [am_frd hf 0 rfl]; exact hS
        simp only [k1, k2, e10, am_un, Nat.reduceEqDiff, not_false_eq_true, hn1, cond_false]
        generalize hs3 : am_up (am_up (am_up σ2 25 (upd (σ2 25) (28 * i + 27) (nI sd))) 26 (upd (σ2 26) i 1)) 0 (upd (σ2 0) 27 0) = σ3
        have g : ∀ q, ¬ q = 0 → ¬ q = 25 → ¬ q = 26 → σ3 q = σ q := fun q q0 q1 q2 => by rw [← hs3, am_un _ _ _ _ q0, am_un _ _ _ _ q2, am_un _ _ _ _ q1]; exact hf q (by simpa using q1)
        have g0 : ∀ q, ¬ q = 27 → σ3 0 q = σ 0 q := fun q q0 => by rw [← hs3, am_us, up_n _ _ _ _ q0, am_frd hf 0 rfl]
        have g27 : σ3 0 27 = 0 := by rw [← hs3, am_us, up_s]
        have g25 : ∀ q, σ3 25 q = upd (σ2 25) (28 * i + 27) (nI sd) q := fun q => by rw [← hs3, am_un _ _ _ _ (by decide), am_un _ _ _ _ (by decide), am_us]
        have g26 : ∀ q, σ3 26 q = upd (σ 26) i 1 q := fun q => by rw [← hs3, am_un _ _ _ _ (by decide), am_us, am_frd hf 26 rfl]
        refine h σ3 ⟨rmT_fr (g0 12 (by decide)) (g0 13 (by decide)) (g 6 (by decide) (by decide) (by decide)) hT, rmD_fr (g0 0 (by decide)) (g0 1 (by decide)) (g0 2 (by decide)) (g0 3 (by decide)) (g0 7 (by decide)) (g 1 (by decide) (by decide) (by decide)) (g 2 (by decide) (by decide) (by decide)) (g 3 (by decide) (by decide) (by decide)) (g 4 (by decide) (by decide) (by decide)) hD, sw_FM_fr (g 5 (by decide) (by decide) (by decide)) hF, (g0 10 (by decide)).trans hS, rmU_0 (σ := σ) g27, fun j hj => ?_, rmE_fr (g0 33 (by decide)) (g 19 (by decide) (by decide) (by decide)) (g 20 (by decide) (by decide) (by decide)) h1, rmE_fr (g0 36 (by decide)) (g 21 (by decide) (by decide) (by decide)) (g 22 (by decide) (by decide) (by decide)) h2, rmE_fr (g0 41 (by decide)) (g 23 (by decide) (by decide) (by decide)) (g 24 (by decide) (by decide) (by decide)) h3⟩
        by_cases hji : j = i
        · subst hji
          rw [up_vs]
          refine ⟨by rw [g26, up_s], ?_, by rw [g25, up_s]⟩
          have hcell : ∀ q, q < 27 → σ3 25 (28 * j + q) = σ 5 q := fun q hq => by rw [g25, up_n _ _ _ _ (by omega)]; exact hb q hq
          obtain ⟨a1, a2, a3, a4, a5, a6⟩ := hF
          refine ⟨fun q hq => ?_, fun q hq => ?_, fun q hq => ?_, ?_, ?_, ?_⟩
          · rw [hcell q (by omega)]; exact a1 q hq
          · rw [Nat.add_assoc, hcell (8 + q) (by omega)]; exact a2 q hq
          · rw [Nat.add_assoc, hcell (16 + q) (by omega)]; exact a3 q hq
          · rw [hcell 24 (by omega)]; exact a4
          · rw [hcell 25 (by omega)]; exact a5
          · rw [hcell 26 (by omega)]; exact a6
        · rw [up_vn _ _ _ _ hji, g26, up_n _ _ _ _ hji]
          have hIj := hI j hj
          have ge : ∀ q, 28 * j ≤ q → q < 28 * j + 28 → σ3 25 q = σ 25 q := fun q q1 q2 => by rw [g25, up_n _ _ _ _ (by omega)]; exact ho q (by omega)
          cases hIj2 : I j with
          | none => rw [hIj2] at hIj; exact hIj
          | some p =>
            rw [hIj2] at hIj
            exact ⟨hIj.1, sw_cell_eq hm (fun q q1 q2 => ge q q1 (by omega)) hIj.2.1, by rw [ge _ (by omega) (by omega)]; exact hIj.2.2⟩
      | succ d ih =>
        intro z hz σ2 hf hb ho
        have c := nI_le' (a := 27) (b := z) (by omega) (by omega)
        have v1 : vp_in (28 * nI i + nI z) 56 := by rw [nI_28, nI_add]; exact vp_j (by omega) (by decide)
        have k1 : (28 * nI i + nI z).toNatClampNeg = 28 * i + z := by rw [nI_28, nI_add]; exact nI_cl (by omega)
        have v2 : vp_in (nI z) 27 := vp_j (by omega) (by decide)
        have k2 : (nI z).toNatClampNeg = z := nI_cl (by omega)
        refine hw 60 _ _ _ _ _ ?_
        conv => whnf
        refine ⟨fun q => absurd (c.1 q) (by omega), fun _ => ?_⟩
        repeat ((conv => whnf); refine And.intro ?_ ?_; first | with_reducible assumption | decide)
        conv => whnf
        rw [nI_1, k1, k2]
        refine ih (z + 1) (by omega) (am_w σ2 25 (28 * i + z) (σ2 5 z)) (aw_fr hf (by decide)) (fun q hq => ?_) (fun q hq => ?_)
        · by_cases e : q = z
          · subst e; rw [aw_s, am_frd hf 5 rfl]
          · rw [aw_k _ _ _ _ _ (by omega)]; exact hb q (by omega)
        · rw [aw_k _ _ _ _ _ (by omega)]; exact ho q hq
    refine hw 60 _ _ _ _ _ ?_
    conv => whnf
    refine ⟨_, _, _, (nI i).toInt, ((0 : Nat) : Int), 1, rfl, Int32.toInt_toInt64 _, rfl, rfl, ?_⟩
    rw [sw_isIx (nI i) 0 2 (hi := 1) rfl, hx]
    conv => whnf
    refine ⟨fun _ => ?_, fun c => absurd c sw_t0⟩
    conv => whnf
    exact loop 27 0 (by omega) σ (am_fr_rf _ _) (fun q hq => absurd hq (by omega)) (fun q hq => rfl)
theorem ct_mgoBack (l : Launch) (A : sw_A) (hA : okA A) (x : Int32) : am_Ct l 1 yX7_goBack cX7_goBack 3 (some .int) (trM [.ref 0, .int x] A (st_goBack A x)) := by
  refine am_ct tbX7_goBack (am_G [tr_min]) (by decide +kernel) (by simp) rfl dtX7_goBack rfl ckX7_goBack lkX7_goBack (am_cokF [(4, some (.invokestatic 99), 0, 3, 0, 0)] rfl (List.forall_mem_cons.mpr ⟨Or.inr (Or.inr (Or.inr ⟨0, _, _, _, _, by decide, (ct_min l), lnX7_99⟩)), fun _ h => absurd h List.not_mem_nil⟩)) ?_
  intro as L σ post h
  obtain ⟨rfl, rfl, hR, h⟩ := h
  refine ⟨by simp [am_lv0], fun WW hw => ?_⟩
  obtain ⟨T, ⟨cn, st, mn, m, c, e, k, R, rn⟩, F, sd, U, I, E1, E2, E3⟩ := A
  obtain ⟨hT, hD, hF, hS, hU, hI, h1, h2, h3⟩ := id hR
  obtain ⟨-, -, ⟨hcn, hm, -⟩, -⟩ := hA
  cases hx : sw_ix x 0 2 with
  | none =>
    simp only [st_goBack, hx] at h
    refine hw 60 _ _ _ _ _ ?_
    conv => whnf
    refine ⟨_, _, _, x.toInt, ((0 : Nat) : Int), 1, rfl, Int32.toInt_toInt64 x, rfl, rfl, ?_⟩
    rw [sw_isIx x 0 2 (hi := 1) rfl, hx]
    conv => whnf
    exact ⟨fun c => absurd rfl c, fun _ => h σ hR⟩
  | some i =>
    obtain ⟨-, hi, rfl⟩ := sw_ix_some hx
    have v2 : vp_in (nI i) 2 := vp_j hi (by decide)
    have k2 : (nI i).toNatClampNeg = i := nI_cl (by omega)
    simp only [st_goBack, hx] at h
    have hIi := hI i hi
    cases hI2 : I i with
    | none =>
      rw [hI2] at hIi
      simp only [hI2] at h
      refine hw 60 _ _ _ _ _ ?_
      conv => whnf
      refine ⟨_, _, _, (nI i).toInt, ((0 : Nat) : Int), 1, rfl, Int32.toInt_toInt64 _, rfl, rfl, ?_⟩
      rw [sw_isIx (nI i) 0 2 (hi := 1) rfl, hx]
      conv => whnf
      refine ⟨fun _ => ?_, fun c => absurd c sw_t0⟩
      repeat ((conv => whnf); refine And.intro ?_ ?_; first | with_reducible assumption | decide)
      conv => whnf
      rw [k2, hIi]
      exact ⟨fun c => absurd rfl c, fun _ => h σ hR⟩
    | some p =>
      obtain ⟨F', sd'⟩ := p
      rw [hI2] at hIi
      obtain ⟨i1, i2, i3⟩ := hIi
      simp only [hI2] at h
      have loop : ∀ d z, d + z = 27 → ∀ σ2, am_fr [5] σ σ2 → (∀ q, q < z → σ2 5 q = σ 25 (28 * i + q)) → WW 18 [some (.ref 0), some (.int (nI i)), some (.int (nI z))] [] LM σ2 := by
        intro d
        induction d with
        | zero =>
          intro z hz σ2 hf hb
          have c := nI_le' (a := 27) (b := z) (by omega) (by omega)
          have hz : z = 27 := by omega
          subst hz
          have v1 : vp_in (28 * nI i + 27) 56 := by rw [nI_28, show nI (28 * i) + 27 = nI (28 * i + 27) from nI_add _ 27]; exact vp_j (by omega) (by decide)
          have k1 : (28 * nI i + 27).toNatClampNeg = 28 * i + 27 := by rw [nI_28, show nI (28 * i) + 27 = nI (28 * i + 27) from nI_add _ 27]; exact nI_cl (by omega)
          refine hw 60 _ _ _ _ _ ?_
          conv => whnf
          refine ⟨fun _ => ?_, fun q => absurd (c.2 (by omega)) q⟩
          repeat ((conv => whnf); refine And.intro ?_ ?_; first | with_reducible assumption | decide)
          conv => whnf
          rw [k1, am_frd hf 25 rfl, i3]
          have hf3 : fm [5, 14, 15, 16, 17, 18] [10, 27, 31, 39, 40] σ (am_w (am_w σ2 0 10 (nI sd')) 0 27 0) := fm_w0 (fm_w0 (fm_fr (fm_rf _ _ _) hf (by decide) rfl) (by decide)) (by decide)
          refine h (am_w (am_w σ2 0 10 (nI sd')) 0 27 0) (RM_flock2 hf3 hR ?_ (sw_FM_cell hm (fun q hq => ?_) i2) (rmU_0 (σ := σ) (aw_s _ _ _ _)))
          · rw [aw_k _ _ _ _ _ (by decide), aw_s]
          · rw [aw_n _ _ _ _ _ (by decide), aw_n _ _ _ _ _ (by decide)]; exact hb q hq
        | succ d ih =>
          intro z hz σ2 hf hb
          have c := nI_le' (a := 27) (b := z) (by omega) (by omega)
          have v1 : vp_in (28 * nI i + nI z) 56 := by rw [nI_28, nI_add]; exact vp_j (by omega) (by decide)
          have k1 : (28 * nI i + nI z).toNatClampNeg = 28 * i + z := by rw [nI_28, nI_add]; exact nI_cl (by omega)
          have v2 : vp_in (nI z) 27 := vp_j (by omega) (by decide)
          have k2 : (nI z).toNatClampNeg = z := nI_cl (by omega)
          refine hw 60 _ _ _ _ _ ?_
          conv => whnf
          refine ⟨fun q => absurd (c.1 q) (by omega), fun _ => ?_⟩
          repeat ((conv => whnf); refine And.intro ?_ ?_; first | with_reducible assumption | decide)
          conv => whnf
          rw [nI_1, k1, k2]
          refine ih (z + 1) (by omega) (am_w σ2 5 z (σ2 25 (28 * i + z))) (aw_fr hf (by decide)) (fun q hq => ?_)
          by_cases e : q = z
          · subst e; rw [aw_s, am_frd hf 25 rfl]
          · rw [aw_k _ _ _ _ _ (by omega)]; exact hb q (by omega)
      refine hw 60 _ _ _ _ _ ?_
      conv => whnf
      refine ⟨_, _, _, (nI i).toInt, ((0 : Nat) : Int), 1, rfl, Int32.toInt_toInt64 _, rfl, rfl, ?_⟩
      rw [sw_isIx (nI i) 0 2 (hi := 1) rfl, hx]
      conv => whnf
      refine ⟨fun _ => ?_, fun c => absurd c sw_t0⟩
      repeat ((conv => whnf); refine And.intro ?_ ?_; first | with_reducible assumption | decide)
      conv => whnf
      rw [k2, i1]
      refine ⟨fun _ => ?_, fun c => absurd c (by decide)⟩
      conv => whnf
      exact loop 27 0 (by omega) σ (am_fr_rf _ _) (fun q hq => absurd hq (by omega))
