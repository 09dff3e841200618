/-! THE REFERENCE: draws, souls, count -/
theorem rmD_junk {D : sw_D} {σ σ' : am_M} (hf : fm [5, 14, 15, 16, 17, 18] [10, 27, 31, 39, 40] σ σ') (h : rmD D σ) : rmD D σ' := rmD_fr (fm_k hf 0 rfl) (fm_k hf 1 rfl) (fm_k hf 2 rfl) (fm_k hf 3 rfl) (fm_k hf 7 rfl) (fm_d hf 1 rfl (by decide)) (fm_d hf 2 rfl (by decide)) (fm_d hf 3 rfl (by decide)) (fm_d hf 4 rfl (by decide)) h
def tr_mdraw : am_T := fun as L σ post => ∃ sd, as = [.ref 0, .int 10] ∧ L = LM ∧ sd < 2147483648 ∧ σ 0 10 = nI sd ∧ post (some (.int (nI (sw_sdn sd / 65536 % 10)))) L (am_w σ 0 10 (nI (sw_sdn sd)))
theorem ct_mdraw (l : Launch) : am_Ct l 0 yX7_draw cX7_draw 2 (some .int) tr_mdraw := by
  refine am_ct tbX7_draw (am_G []) (by decide +kernel) (by simp) rfl dtX7_draw rfl ckX7_draw lkX7_draw (am_nocalls rfl) ?_
  intro as L σ post h
  obtain ⟨sd, rfl, rfl, hsd, e1, h⟩ := h
  refine ⟨by simp [am_lv0], fun WW hw => hw 60 _ _ _ _ _ ?_⟩
  have hs : ((nI sd).toInt64 * lN 1103515245 + lN 12345 - ((nI sd).toInt64 * lN 1103515245 + lN 12345) / lN 2147483648 * lN 2147483648).toInt32 = nI (sw_sdn sd) := by
    rw [nI_l (by omega), lN_mul, lN_add, pk_lRem (by omega) (by decide) (by decide), lN_i]; rfl
  have hlt : sw_sdn sd < 2147483648 := Nat.mod_lt _ (by decide)
  have hd : nI (sw_sdn sd) / 65536 = nI (sw_sdn sd / 65536) := pk_div (d := 65536) (by omega) (by decide) (by decide)
  have hrem : nI (sw_sdn sd / 65536) - nI (sw_sdn sd / 65536) / 10 * 10 = nI (sw_sdn sd / 65536 % 10) := pk_rem (d := 10) (by omega) (by decide) (by decide)
  have hL2 : ¬ lN 2147483648 = 0 := by decide
  repeat ((conv => whnf); refine And.intro ?_ ?_; first | with_reducible assumption | decide)
  conv => whnf
  rw [e1, hs, am_us, up_s, hd, hrem]
  exact h
set_option maxHeartbeats 2000000 in
theorem ct_mdrift (l : Launch) (A : sw_A) (hA : okA A) (x : Int32) : am_Ct l 4 yX7_drift cX7_drift 4 (some .int) (trM [.ref 0, .int x] A (st_drift A x)) := by
  refine am_ct tbX7_drift (am_G [tr_mrefused, tr_mremember, tr_mdraw, tr_mpassBy, tr_msumOf]) (by decide +kernel) (by simp) rfl dtX7_drift rfl ckX7_drift lkX7_drift (am_cokF [(2, some (.invokevirtual 216), 0, 2, 7, 0), (13, some (.invokevirtual 219), 1, 1, 7, 0), (27, some (.invokevirtual 247), 2, 2, 7, 0), (30, some (.invokevirtual 210), 3, 2, 7, 0), (41, some (.invokevirtual 180), 4, 2, 7, 0)] rfl (List.forall_mem_cons.mpr ⟨⟨1, _, _, _, _, by decide, (ct_mrefused l), lnX7_216⟩, List.forall_mem_cons.mpr ⟨⟨0, _, _, _, _, by decide, (ct_mremember l), lnX7_219⟩, List.forall_mem_cons.mpr ⟨⟨0, _, _, _, _, by decide, (ct_mdraw l), lnX7_247⟩, List.forall_mem_cons.mpr ⟨⟨2, _, _, _, _, by decide, (ct_mpassBy l), lnX7_210⟩, List.forall_mem_cons.mpr ⟨⟨0, _, _, _, _, by decide, (ct_msumOf l), lnX7_180⟩, fun _ h => absurd h List.not_mem_nil⟩⟩⟩⟩⟩)) ?_
  intro as L σ post h
  obtain ⟨rfl, rfl, hR, h⟩ := h
  refine ⟨by simp [am_lv0], fun WW hw => ?_⟩
  obtain ⟨T, ⟨cn, st, mn, m, c, e, k, R, rn⟩, F, sd, U, I, E1, E2, E3⟩ := A
  obtain ⟨hT, hD, hF, hS, hU, hI, h1, h2, h3⟩ := id hR
  have hL := hD.1
  obtain ⟨-, -, ⟨hcn, hm, -, -, -, -, hB, hR0, hR8, hrn⟩, ⟨hFk, hy⟩, hsd, -⟩ := hA
  have d2 := hL.2.1
  have y1 := hF.2.2.2.2.2
  have he : ∀ b, b < m → e b ≤ 40 := fun b hb => (hB b hb).2.1
  cases hx : sw_ix x 1 100 with
  | none =>
    simp only [st_drift, hx] at h
    refine hw 60 _ _ _ _ _ ?_
    conv => whnf
    refine ⟨x, cn, _, rfl, rfl, by omega, by omega, d2, y1, ?_⟩
    rw [show sw_rf cn F.2.2.2.2.2 x = -1000000002 by unfold sw_rf; rw [hx]]
    conv => whnf
    exact ⟨fun c => absurd c (by decide), fun _ => h σ hR⟩
  | some q =>
    obtain ⟨hq1, hq, rfl⟩ := sw_ix_some hx
    simp only [st_drift, hx] at h
    have hrf : sw_rf cn F.2.2.2.2.2 (nI q) = if cn = 0 then -1000000003 else if 9000 < F.2.2.2.2.2 then -1000000004 else 0 := by unfold sw_rf; rw [hx]
    by_cases hc0 : cn = 0
    · rw [if_pos hc0] at h hrf
      refine hw 60 _ _ _ _ _ ?_
      conv => whnf
      refine ⟨nI q, cn, _, rfl, rfl, by omega, by omega, d2, y1, ?_⟩
      rw [hrf]
      conv => whnf
      exact ⟨fun c => absurd c (by decide), fun _ => h σ hR⟩
    · rw [if_neg hc0] at h hrf
      by_cases hy9 : 9000 < F.2.2.2.2.2
      · rw [if_pos hy9] at h hrf
        refine hw 60 _ _ _ _ _ ?_
        conv => whnf
        refine ⟨nI q, cn, _, rfl, rfl, by omega, by omega, d2, y1, ?_⟩
        rw [hrf]
        conv => whnf
        exact ⟨fun c => absurd c (by decide), fun _ => h σ hR⟩
      · rw [if_neg hy9] at h hrf
        have loop : ∀ (kk i : Nat) (z : Int32) (σ1 : am_M), i + kk = q → z = nI i → fm [5, 14, 15, 16, 17, 18] [10, 27, 31, 39, 40] σ σ1 → σ1 0 10 = nI (sw_drs (cn, st, mn, m, c, e, k, R, rn) i (F, sd)).2 → sw_FM σ1 m (sw_drs (cn, st, mn, m, c, e, k, R, rn) i (F, sd)).1 → rmU σ1 m (sw_push U F) → WW 13 [some (.ref 0), some (.int (nI q)), some (.int 0), some (.int z)] [] LM σ1 := by
          intro kk
          induction kk with
          | zero =>
            intro i z σ1 hi hz hf k10 hF1 hU1
            have ei : i = q := by omega
            subst ei; subst hz
            refine hw 60 _ _ _ _ _ ?_
            conv => whnf
            refine ⟨fun _ => ?_, fun c => absurd (Int32.le_refl _) c⟩
            conv => whnf
            refine ⟨m, 0, _, rfl, rfl, hm, by omega, (fm_k hf 3 rfl).trans hL.1, fun j hj => by rw [Nat.zero_add]; exact hF1.1 j hj, ?_⟩
            conv => whnf
            exact h σ1 (RM_flock2 hf hR k10 hF1 hU1)
          | succ kk ih =>
            intro i z σ1 hi hz hf k10 hF1 hU1
            subst hz
            obtain ⟨z1, z2, z3⟩ := sw_drs_facts (cn := cn) (st := st) (mn := mn) (c := c) (k := k) (R := R) (rn := rn) he hsd hFk i
            refine hw 60 _ _ _ _ _ ?_
            conv => whnf
            refine ⟨fun c => absurd c (nI_ge (by omega) (by omega)), fun _ => ?_⟩
            conv => whnf
            refine ⟨_, rfl, rfl, ?_, k10, ?_⟩
            · omega
            generalize hs2 : am_w σ1 0 10 (nI (sw_sdn (sw_drs (cn, st, mn, m, c, e, k, R, rn) i (F, sd)).2)) = σ2
            have hf2 : fm [] [10] σ1 σ2 := by rw [← hs2]; exact fm_w0 (fm_rf _ _ _) (by decide)
            have j10 : σ2 0 10 = nI (sw_sdn (sw_drs (cn, st, mn, m, c, e, k, R, rn) i (F, sd)).2) := by rw [← hs2]; exact aw_s _ _ _ _
            have hfa := fm_tr hf hf2 (by decide) (by decide)
            conv => whnf
            refine ⟨m, cn, c, e, k, (sw_drs (cn, st, mn, m, c, e, k, R, rn) i (F, sd)).1, _, rfl, rfl, (rmD_junk hfa hD).1, ⟨hm, hcn, hB⟩, by omega, sw_FM_fr (fm_d hf2 5 rfl (by decide)) hF1, okF_FB he ⟨z1, by omega⟩, fun σ3 hf3 hF3 => ?_⟩
            conv => whnf
            exact ih (i + 1) _ σ3 (by omega) (nI_1 i) (fm_fr hfa hf3 (by decide) rfl) (by rw [am_frd hf3 0 rfl]; exact j10) hF3 (rmU_fr (by rw [am_frd hf3 0 rfl]; exact fm_k hf2 27 rfl) (by rw [am_frd hf3 15 rfl]; exact fm_d hf2 15 rfl (by decide)) hU1)
        refine hw 60 _ _ _ _ _ ?_
        conv => whnf
        refine ⟨nI q, cn, _, rfl, rfl, by omega, by omega, d2, y1, ?_⟩
        rw [hrf]
        conv => whnf
        refine ⟨fun _ => ?_, fun c => absurd rfl c⟩
        conv => whnf
        refine ⟨m, F, U, rfl, rfl, hm, hF, hU, fun σ1 hf hU1 => ?_⟩
        conv => whnf
        exact loop q 0 0 σ1 (Nat.zero_add _) rfl (fm_tr (fm_rf _ _ _) hf (by decide) (by decide)) ((fm_k hf 10 rfl).trans hS) (sw_FM_fr (fm_d hf 5 rfl (by decide)) hF) hU1
def tr_msouls : am_T := fun as L σ post => ∃ (q m : Nat) (c n : Nat → Nat), as = [.ref 0, .int (nI q)] ∧ L = LM ∧ q < 1000 ∧ m ≤ 8 ∧ σ 0 3 = nI m ∧ (∀ b, b < m → σ 1 b = nI (c b) ∧ c b < 1000) ∧ (∀ b, b < m → σ 5 b = nI (n b)) ∧ post (some (.int (nI (sw_cs n c q m)))) L σ
theorem ct_msouls (l : Launch) : am_Ct l 0 yX7_souls cX7_souls 4 (some .int) tr_msouls := by
  refine am_ct tbX7_souls (am_G []) (by decide +kernel) (by simp) rfl dtX7_souls rfl ckX7_souls lkX7_souls (am_nocalls rfl) ?_
  intro as L σ post h
  obtain ⟨q, m, c, n, rfl, rfl, hq, hm, e1, e2, e3, h⟩ := h
  refine ⟨by simp [am_lv0], fun WW hw => ?_⟩
  have loop : ∀ d i, d + i = m → WW 5 [some (.ref 0), some (.int (nI q)), some (.int (nI (sw_cs n c q i))), some (.int (nI i))] [] LM σ := by
    intro d
    induction d with
    | zero =>
      intro i hi
      refine hw 60 _ _ _ _ _ ?_
      conv => whnf
      rw [e1]
      have c := nI_le' (a := m) (b := i) (by omega) (by omega)
      refine ⟨fun _ => ?_, fun q => absurd (c.2 (by omega)) q⟩
      conv => whnf
      have hi : i = m := by omega
      subst hi; exact h
    | succ d ih =>
      intro i hi
      have him : i < m := by omega
      have v1 : vp_in (nI i) 8 := vp_j (by omega) (by decide)
      have v2 : vp_in (nI i) 27 := vp_j (by omega) (by decide)
      have hcl : (nI i).toNatClampNeg = i := nI_cl (by omega)
      obtain ⟨a1, a2⟩ := e2 i him
      have ih' := ih (i + 1) (by omega)
      rw [sw_cs] at ih'
      refine hw 60 _ _ _ _ _ ?_
      conv => whnf
      rw [e1]
      have cm := nI_le' (a := m) (b := i) (by omega) (by omega)
      refine ⟨fun q => absurd (cm.1 q) (by omega), fun _ => ?_⟩
      repeat ((conv => whnf); refine And.intro ?_ ?_; first | with_reducible assumption | decide)
      conv => whnf
      rw [hcl, a1, nI_eq' (by omega) (by omega)]
      refine ⟨fun cc => ?_, fun cc => ?_⟩
      · rw [if_neg cc] at ih'
        conv => whnf
        rw [show nI (sw_cs n c q i) + 0 = nI (sw_cs n c q i + 0) from nI_add _ 0, nI_1]
        exact ih'
      · rw [if_pos cc] at ih'
        repeat ((conv => whnf); refine And.intro ?_ ?_; first | with_reducible assumption | decide)
        conv => whnf
        rw [hcl, e3 i him, nI_add, nI_1]
        exact ih'
  refine hw 60 _ _ _ _ _ ?_
  conv => whnf
  exact loop m 0 (by omega)
def tr_mofCounty : am_T := fun as L σ post => ∃ (q m : Nat) (c : Nat → Nat), as = [.ref 0, .int (nI q)] ∧ L = LM ∧ q < 1000 ∧ m ≤ 8 ∧ σ 0 3 = nI m ∧ (∀ b, b < m → σ 1 b = nI (c b) ∧ c b < 1000) ∧ post (some (.int (nI (sw_own m c q)))) L σ
theorem ct_mofCounty (l : Launch) : am_Ct l 0 yX7_ofCounty cX7_ofCounty 4 (some .int) tr_mofCounty := by
  refine am_ct tbX7_ofCounty (am_G []) (by decide +kernel) (by simp) rfl dtX7_ofCounty rfl ckX7_ofCounty lkX7_ofCounty (am_nocalls rfl) ?_
  intro as L σ post h
  obtain ⟨q, m, c, rfl, rfl, hq, hm, e1, e2, h⟩ := h
  refine ⟨by simp [am_lv0], fun WW hw => ?_⟩
  have loop : ∀ d i, d + i = m → WW 5 [some (.ref 0), some (.int (nI q)), some (.int (nI (sw_set (fun b => c b == q) i))), some (.int (nI i))] [] LM σ := by
    intro d
    induction d with
    | zero =>
      intro i hi
      refine hw 60 _ _ _ _ _ ?_
      conv => whnf
      rw [e1]
      have c := nI_le' (a := m) (b := i) (by omega) (by omega)
      refine ⟨fun _ => ?_, fun q => absurd (c.2 (by omega)) q⟩
      conv => whnf
      have hi : i = m := by omega
      subst hi; exact h
    | succ d ih =>
      intro i hi
      have him : i < m := by omega
      have v1 : vp_in (nI i) 8 := vp_j (by omega) (by decide)
      have hcl : (nI i).toNatClampNeg = i := nI_cl (by omega)
      obtain ⟨a1, a2⟩ := e2 i him
      have ih' := ih (i + 1) (by omega)
      rw [sw_set] at ih'
      refine hw 60 _ _ _ _ _ ?_
      conv => whnf
      rw [e1]
      have cm := nI_le' (a := m) (b := i) (by omega) (by omega)
      refine ⟨fun q => absurd (cm.1 q) (by omega), fun _ => ?_⟩
      repeat ((conv => whnf); refine And.intro ?_ ?_; first | with_reducible assumption | decide)
      conv => whnf
      rw [hcl, a1, nI_eq' (by omega) (by omega)]
      refine ⟨fun cc => ?_, fun cc => ?_⟩
      · rw [if_neg (by simpa using cc), Nat.add_zero] at ih'
        conv => whnf
        rw [Int32.or_zero, nI_1]
        exact ih'
      · rw [if_pos (by simpa using cc)] at ih'
        conv => whnf
        rw [sw_or_bit i (by omega) _ (sw_set_lt _ i), nI_1]
        exact ih'
  refine hw 60 _ _ _ _ _ ?_
  conv => whnf
  exact loop m 0 (by omega)
