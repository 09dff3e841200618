/-! THE REFERENCE: years, and the gates -/
def tr_mrefused : am_T := fun as L σ post => ∃ x cn y, as = [.ref 0, .int x] ∧ L = LM ∧ cn < 1000 ∧ y < 100000 ∧ σ 0 0 = nI cn ∧ σ 5 26 = nI y ∧ post (some (.int (sw_rf cn y x))) L σ
theorem ct_mrefused (l : Launch) : am_Ct l 1 yX7_yearsRefused cX7_yearsRefused 2 (some .int) tr_mrefused := by
  refine am_ct tbX7_yearsRefused (am_G [tr_min]) (by decide +kernel) (by simp) rfl dtX7_yearsRefused rfl ckX7_yearsRefused lkX7_yearsRefused (am_cokF [(6, some (.invokestatic 99), 0, 3, 0, 0)] rfl (List.forall_mem_cons.mpr ⟨Or.inr (Or.inr (Or.inr ⟨0, _, _, _, _, by decide, (ct_min l), lnX7_99⟩)), fun _ h => absurd h List.not_mem_nil⟩)) ?_
  intro as L σ post h
  obtain ⟨x, cn, y, rfl, rfl, hcn, hy, e1, e2, h⟩ := h
  refine ⟨by simp [am_lv0], fun WW hw => hw 60 _ _ _ _ _ ?_⟩
  have hz : nI cn = 0 ↔ cn = 0 := nI_eq' (b := 0) (by omega) (by decide)
  have h9 : nI y ≤ 9000 ↔ y ≤ 9000 := nI_le' (b := 9000) (by omega) (by decide)
  have v26 : vp_in 26 27 := vp_j (j := 26) (by decide) (by decide)
  have c26 : (26 : Int32).toNatClampNeg = 26 := by decide
  unfold sw_rf at h
  conv => whnf
  refine ⟨_, _, _, x.toInt, ((1 : Nat) : Int), 99, rfl, Int32.toInt_toInt64 x, rfl, rfl, ?_⟩
  rw [sw_isIx x 1 100 (hi := 99) rfl]
  cases hx : sw_ix x 1 100 with
  | none =>
    rw [hx] at h
    conv => whnf
    exact ⟨fun c => absurd rfl c, fun _ => h⟩
  | some j =>
    rw [hx] at h
    dsimp only at h
    conv => whnf
    refine ⟨fun _ => ?_, fun c => absurd c sw_t0⟩
    conv => whnf
    rw [e1, hz]
    refine ⟨fun c => ?_, fun c => ?_⟩
    · rw [if_neg c] at h
      conv => whnf
      refine ⟨v26, ?_⟩
      conv => whnf
      rw [c26, e2, h9]
      refine ⟨fun c => ?_, fun c => ?_⟩
      · rw [if_neg (by omega)] at h; exact h
      · rw [if_pos (by omega)] at h; exact h
    · rw [if_pos c] at h
      exact h
set_option maxHeartbeats 2000000 in
theorem ct_myear (l : Launch) (A : sw_A) (hA : okA A) (x : Int32) : am_Ct l 4 yX7_year cX7_year 4 (some .int) (trM [.ref 0, .int x] A (st_year A x)) := by
  refine am_ct tbX7_year (am_G [tr_mrefused, tr_mremember, tr_mpass, tr_msumOf]) (by decide +kernel) (by simp) rfl dtX7_year rfl ckX7_year lkX7_year (am_cokF [(2, some (.invokevirtual 216), 0, 2, 7, 0), (13, some (.invokevirtual 219), 1, 1, 7, 0), (24, some (.invokevirtual 222), 2, 1, 7, 0), (35, some (.invokevirtual 180), 3, 2, 7, 0)] rfl (List.forall_mem_cons.mpr ⟨⟨1, _, _, _, _, by decide, (ct_mrefused l), lnX7_216⟩, List.forall_mem_cons.mpr ⟨⟨0, _, _, _, _, by decide, (ct_mremember l), lnX7_219⟩, List.forall_mem_cons.mpr ⟨⟨3, _, _, _, _, by decide, (ct_mpass l), lnX7_222⟩, List.forall_mem_cons.mpr ⟨⟨0, _, _, _, _, by decide, (ct_msumOf l), lnX7_180⟩, fun _ h => absurd h List.not_mem_nil⟩⟩⟩⟩)) ?_
  intro as L σ post h
  obtain ⟨rfl, rfl, hR, h⟩ := h
  refine ⟨by simp [am_lv0], fun WW hw => ?_⟩
  obtain ⟨T, ⟨cn, st, mn, m, c, e, k, R, rn⟩, F, sd, U, I, E1, E2, E3⟩ := A
  obtain ⟨hT, ⟨hL, d6, d7, d8, d9⟩, hF, hS, hU, hI, h1, h2, h3⟩ := id hR
  obtain ⟨-, -, ⟨hcn, hm, -, -, -, -, hB, hR0, hR8, hrn⟩, ⟨hFk, hy⟩, -⟩ := hA
  have d2 := hL.2.1
  have y1 := hF.2.2.2.2.2
  have he : ∀ b, b < m → e b ≤ 40 := fun b hb => (hB b hb).2.1
  cases hx : sw_ix x 1 100 with
  | none =>
    simp only [st_year, hx] at h
    refine hw 60 _ _ _ _ _ ?_
    conv => whnf
    refine ⟨x, cn, _, rfl, rfl, by omega, by omega, d2, y1, ?_⟩
    rw [show sw_rf cn F.2.2.2.2.2 x = -1000000002 by unfold sw_rf; rw [hx]]
    conv => whnf
    exact ⟨fun c => absurd c (by decide), fun _ => h σ hR⟩
  | some q =>
    obtain ⟨hq1, hq, rfl⟩ := sw_ix_some hx
    simp only [st_year, hx] at h
    have hrf : sw_rf cn F.2.2.2.2.2 (nI q) = if cn = 0 then -1000000003 else if 9000 < F.2.2.2.2.2 then -1000000004 else 0 := by unfold sw_rf; rw [hx]
    by_cases hc0 : cn = 0
    · rw [if_pos hc0] at h hrf
      refine hw 60 _ _ _ _ _ ?_
      conv => whnf
      refine ⟨nI q, cn, _, rfl, rfl, by omega, by omega, d2, y1, ?_⟩
      rw [hrf]
      conv => whnf
      exact ⟨fun c => absurd c (by decide), fun _ => h σ hR⟩
    · rw [if_neg hc0] at h hrf
      by_cases hy9 : 9000 < F.2.2.2.2.2
      · rw [if_pos hy9] at h hrf
        refine hw 60 _ _ _ _ _ ?_
        conv => whnf
        refine ⟨nI q, cn, _, rfl, rfl, by omega, by omega, d2, y1, ?_⟩
        rw [hrf]
        conv => whnf
        exact ⟨fun c => absurd c (by decide), fun _ => h σ hR⟩
      · rw [if_neg hy9] at h hrf
        have loop : ∀ (kk i : Nat) (z : Int32) (σ1 : am_M), i + kk = q → z = nI i → fm [5, 14, 15, 16, 17, 18] [27, 31, 39, 40] σ σ1 → sw_FM σ1 m (sw_yrs (cn, st, mn, m, c, e, k, R, rn) i F) → rmU σ1 m (sw_push U F) → WW 13 [some (.ref 0), some (.int (nI q)), some (.int 0), some (.int z)] [] LM σ1 := by
          intro kk
          induction kk with
          | zero =>
            intro i z σ1 hi hz hf hF1 hU1
            have ei : i = q := by omega
            subst ei; subst hz
            refine hw 60 _ _ _ _ _ ?_
            conv => whnf
            refine ⟨fun _ => ?_, fun c => absurd (Int32.le_refl _) c⟩
            conv => whnf
            refine ⟨m, 0, _, rfl, rfl, hm, by omega, (fm_k hf 3 rfl).trans hL.1, fun j hj => by rw [Nat.zero_add]; exact hF1.1 j hj, ?_⟩
            conv => whnf
            exact h σ1 (RM_flock hf hR hF1 hU1)
          | succ kk ih =>
            intro i z σ1 hi hz hf hF1 hU1
            subst hz
            obtain ⟨z1, z2⟩ := sw_yrs_facts (cn := cn) (st := st) (mn := mn) (c := c) (k := k) hR0 hrn he hFk i
            refine hw 60 _ _ _ _ _ ?_
            conv => whnf
            refine ⟨fun c => absurd c (nI_ge (by omega) (by omega)), fun _ => ?_⟩
            conv => whnf
            refine ⟨m, cn, c, e, k, sw_yrs (cn, st, mn, m, c, e, k, R, rn) i F, R, rn, rfl, rfl, (rmD_fr (D := (cn, st, mn, m, c, e, k, R, rn)) (fm_k hf 0 rfl) (fm_k hf 1 rfl) (fm_k hf 2 rfl) (fm_k hf 3 rfl) (fm_k hf 7 rfl) (fm_d hf 1 rfl (by decide)) (fm_d hf 2 rfl (by decide)) (fm_d hf 3 rfl (by decide)) (fm_d hf 4 rfl (by decide)) ⟨hL, d6, d7, d8, d9⟩).1, ⟨hm, hcn, hB⟩, hF1, okF_FB (F := sw_yrs (cn, st, mn, m, c, e, k, R, rn) i F) he ⟨z1, by omega⟩, hR0, hR8, (fm_k hf 7 rfl).trans d8, fun t ht => ⟨by rw [fm_d hf 4 rfl (by decide)]; exact d9 t ht, hrn t ht⟩, by omega, fun σ2 hf2 hF2 => ?_⟩
            conv => whnf
            exact ih (i + 1) _ σ2 (by omega) (nI_1 i) (fm_fr hf hf2 (by decide) rfl) hF2 (rmU_fr (by rw [am_frd hf2 0 rfl]) (am_frd hf2 15 rfl) hU1)
        refine hw 60 _ _ _ _ _ ?_
        conv => whnf
        refine ⟨nI q, cn, _, rfl, rfl, by omega, by omega, d2, y1, ?_⟩
        rw [hrf]
        conv => whnf
        refine ⟨fun _ => ?_, fun c => absurd rfl c⟩
        conv => whnf
        refine ⟨m, F, U, rfl, rfl, hm, hF, hU, fun σ1 hf hU1 => ?_⟩
        conv => whnf
        exact loop q 0 0 σ1 (Nat.zero_add _) rfl (fm_tr (fm_rf _ _ _) hf (by decide) (by decide)) (sw_FM_fr (fm_d hf 5 rfl (by decide)) hF) hU1
theorem ct_mundo (l : Launch) (A : sw_A) (hA : okA A) : am_Ct l 0 yX7_undo cX7_undo 2 (some .int) (trM [.ref 0] A (st_undo A)) := by
  refine am_ct tbX7_undo (am_G []) (by decide +kernel) (by simp) rfl dtX7_undo rfl ckX7_undo lkX7_undo (am_nocalls rfl) ?_
  intro as L σ post h
  obtain ⟨rfl, rfl, hR, h⟩ := h
  refine ⟨by simp [am_lv0], fun WW hw => ?_⟩
  obtain ⟨T, ⟨cn, st, mn, m, c, e, k, R, rn⟩, F, sd, ⟨un, U⟩, I, E1, E2, E3⟩ := A
  obtain ⟨hT, ⟨hL, d6, d7, d8, d9⟩, hF, hS, ⟨u1, u2, u3⟩, hI, h1, h2, h3⟩ := id hR
  obtain ⟨-, -, ⟨hcn, hm, -⟩, -⟩ := hA
  dsimp only at u1 u2 u3
  have c0 : nI un = 0 ↔ un = 0 := nI_eq' (b := 0) (by omega) (by decide)
  cases un with
  | zero =>
    refine hw 60 _ _ _ _ _ ?_
    conv => whnf
    rw [u2]
    refine ⟨fun c => absurd rfl c, fun _ => h σ hR⟩
  | succ v =>
    have h : ∀ σ', RM (T, (cn, st, mn, m, c, e, k, R, rn), U v, sd, (v, U), I, E1, E2, E3) σ' → post (some (.int (nI v))) LM σ' := h
    have loop : ∀ d i, d + i = 27 → ∀ σ2, fm [5] [27] σ σ2 → σ2 0 27 = nI v → (∀ q, q < i → σ2 5 q = σ 15 (27 * v + q)) → WW 14 [some (.ref 0), some (.int (nI i))] [] LM σ2 := by
      intro d
      induction d with
      | zero =>
        intro i hi σ2 hf h27 hb
        have c := nI_le' (a := 27) (b := i) (by omega) (by omega)
        refine hw 60 _ _ _ _ _ ?_
        conv => whnf
        refine ⟨fun _ => ?_, fun q => absurd (c.2 (by omega)) q⟩
        conv => whnf
        have hi : i = 27 := by omega
        subst hi
        rw [h27]
        refine h σ2 (RM_flock (fm_tr (fm_rf _ _ _) hf (by decide) (by decide)) hR (sw_FM_cell hm hb (u3 v (by omega))) ⟨?_, h27, fun j hj => ?_⟩)
        · show v ≤ 20
          omega
        · have hj : j < v := hj
          rw [fm_d hf 15 rfl (by decide)]
          exact u3 j (by omega)
      | succ d ih =>
        intro i hi σ2 hf h27 hb
        have c := nI_le' (a := 27) (b := i) (by omega) (by omega)
        refine hw 60 _ _ _ _ _ ?_
        conv => whnf
        refine ⟨fun q => absurd (c.1 q) (by omega), fun _ => ?_⟩
        conv => whnf
        rw [h27, nI_27, nI_add]
        refine ⟨vp_j (by omega) (by decide), ?_⟩
        conv => whnf
        refine ⟨vp_j (by omega) (by decide), ?_⟩
        conv => whnf
        rw [nI_1, nI_cl (j := i) (by omega), nI_cl (by omega)]
        refine ih (i + 1) (by omega) (am_w σ2 5 i (σ2 15 (27 * v + i))) (fm_up _ hf (by decide) (by decide)) ?_ (fun q hq => ?_)
        · rw [aw_n _ _ _ _ _ (by decide)]; exact h27
        · by_cases e : q = i
          · subst e; rw [aw_s, fm_d hf 15 rfl (by decide)]
          · rw [aw_k _ _ _ _ _ e]; exact hb q (by omega)
    refine hw 60 _ _ _ _ _ ?_
    conv => whnf
    rw [u2]
    refine ⟨fun _ => ?_, fun c => absurd (c0.1 c) (by omega)⟩
    conv => whnf
    rw [u2, nI_pr]
    exact loop 27 0 (by omega) _ (fm_w0 (fm_rf _ _ _) (by decide)) (by rw [am_us, up_s]) (fun q hq => absurd hq (by omega))
