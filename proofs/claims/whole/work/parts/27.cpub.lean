/-! THE CLASS: what is done (2) -/
theorem RC_flock2 {T : sw_T} {cn st mn m : Nat} {c e k : Nat → Nat} {R : Nat} {rn : Nat → Nat} {F F' : sw_F} {sd sd' : Nat} {U U' : sw_U} {I : sw_I} {E1 E2 E3 : sw_E} {σ σ' : am_M} (hf : am_fr [0, 17, 18, 19, 20, 21, 22, 23, 24, 25, 26, 27, 29, 42, 43] σ σ') (h8 : σ' 0 8 = σ 0 8) (h14 : σ' 0 14 = nI sd') (h : RC (T, (cn, st, mn, m, c, e, k, R, rn), F, sd, U, I, E1, E2, E3) σ) (hF : sw_FC σ' 17 18 19 20 m F') (hU : sw_UC σ' m U') : RC (T, (cn, st, mn, m, c, e, k, R, rn), F', sd', U', I, E1, E2, E3) σ' := by
  obtain ⟨hT, hD, -, hS, -, hI, h1, h2, h3⟩ := h
  exact ⟨rcT_fr (am_frd hf 1 rfl) (am_frd hf 2 rfl) hT, rcD_fr (am_frd hf 3 rfl) (am_frd hf 4 rfl) (am_frd hf 5 rfl) (am_frd hf 8 rfl) (am_frd hf 9 rfl) hD, hF, h14, hU, rcI_fr h8 (am_frd hf 30 rfl) (am_frd hf 31 rfl) (am_frd hf 32 rfl) hI, sw_EC_fr (am_frd hf 33 rfl) (am_frd hf 34 rfl) (am_frd hf 35 rfl) h1, sw_EC_fr (am_frd hf 36 rfl) (am_frd hf 37 rfl) (am_frd hf 38 rfl) h2, sw_EC_fr (am_frd hf 39 rfl) (am_frd hf 40 rfl) (am_frd hf 41 rfl) h3⟩
theorem nI_mask31 (n : Nat) : nI n &&& 2147483647 = nI (n % 2147483648) := by
  rw [pk_and (nI n) (m := 2147483647) 31 (by decide)]
  congr 1
  show (BitVec.ofNat 32 n).toNat % 2 ^ 31 = _
  rw [BitVec.toNat_ofNat]
  omega
def tr_drawRain : am_T := fun as L σ post => ∃ sd, as = [.ref 0] ∧ L = LC ∧ σ 0 14 = nI sd ∧ post (some (.int (nI (sw_sdn sd / 65536 % 10)))) L (am_w σ 0 14 (nI (sw_sdn sd)))
theorem ct_drawRain (l : Launch) : am_Ct l 0 yX6_drawRain cX6_drawRain 1 (some .int) tr_drawRain := by
  refine am_ct tbX6_drawRain (am_G []) (by decide +kernel) (by simp) rfl dtX6_drawRain rfl ckX6_drawRain lkX6_drawRain (am_nocalls rfl) ?_
  intro as L σ post h
  obtain ⟨sd, rfl, rfl, e1, h⟩ := h
  refine ⟨by simp [am_lv0], fun WW hw => hw 60 _ _ _ _ _ ?_⟩
  have hs : nI sd * 1103515245 + 12345 &&& 2147483647 = nI (sw_sdn sd) := by
    rw [show nI sd * 1103515245 = nI (sd * 1103515245) from pk_mul sd 1103515245, show nI (sd * 1103515245) + 12345 = nI (sd * 1103515245 + 12345) from nI_add _ 12345, nI_mask31]; rfl
  have hlt : sw_sdn sd < 2147483648 := Nat.mod_lt _ (by decide)
  have hd : nI (sw_sdn sd) / 65536 = nI (sw_sdn sd / 65536) := pk_div (d := 65536) (by omega) (by decide) (by decide)
  have hrem : nI (sw_sdn sd / 65536) - nI (sw_sdn sd / 65536) / 10 * 10 = nI (sw_sdn sd / 65536 % 10) := pk_rem (d := 10) (by omega) (by decide) (by decide)
  repeat ((conv => whnf); refine And.intro ?_ ?_; first | with_reducible assumption | decide)
  conv => whnf
  rw [e1, hs, am_us, up_s, hd, hrem]
  exact h
set_option maxHeartbeats 2000000 in
theorem ct_cdrift (l : Launch) (A : sw_A) (hA : okA A) (x : Int32) : am_Ct l 2 yX6_drift cX6_drift 4 (some .int) (trC [.ref 0, .int x] A (st_drift A x)) := by
  refine am_ct tbX6_drift (am_G [tr_refusal, tr_remember, tr_drawRain, tr_passYear, tr_allBarns, tr_sumOver]) (by decide +kernel) (by simp) rfl dtX6_drift rfl ckX6_drift lkX6_drift (am_cokF [(2, some (.invokevirtual 170), 0, 2, 6, 0), (20, some (.invokevirtual 173), 1, 2, 2, 0), (39, some (.invokevirtual 194), 2, 1, 6, 0), (42, some (.invokevirtual 177), 3, 3, 1, 0), (62, some (.invokevirtual 133), 4, 1, 3, 0), (65, some (.invokestatic 137), 5, 2, 0, 0)] rfl (List.forall_mem_cons.mpr ⟨⟨0, _, _, _, _, by decide, (ct_refusal l), lnX6_170⟩, List.forall_mem_cons.mpr ⟨⟨1, _, _, _, _, by decide, (ct_remember l), lnX6_173⟩, List.forall_mem_cons.mpr ⟨⟨0, _, _, _, _, by decide, (ct_drawRain l), lnX6_194⟩, List.forall_mem_cons.mpr ⟨⟨1, _, _, _, _, by decide, (ct_passYear l), lnX6_177⟩, List.forall_mem_cons.mpr ⟨⟨0, _, _, _, _, by decide, (ct_allBarns l), lnX6_133⟩, List.forall_mem_cons.mpr ⟨Or.inr (Or.inr (Or.inr ⟨0, _, _, _, _, by decide, (ct_sumOver l), lnX6_137⟩)), fun _ h => absurd h List.not_mem_nil⟩⟩⟩⟩⟩⟩)) ?_
  intro as L σ post h
  obtain ⟨rfl, rfl, hR, h⟩ := h
  refine ⟨by simp [am_lv0], fun WW hw => ?_⟩
  obtain ⟨T, ⟨cn, st, mn, m, c, e, k, R, rn⟩, F, sd, U, I, E1, E2, E3⟩ := A
  obtain ⟨hT, ⟨hL, d6, d7, d8⟩, hF, hS, hU, hI, h1, h2, h3⟩ := id hR
  obtain ⟨-, -, ⟨hcn, hm, -, -, -, -, hB, hR0, hR8, hrn⟩, ⟨hFk, hy⟩, hsd, -⟩ := hA
  have d2 := hL.2.1
  have y1 := hF.2.2.2.2.2
  have he : ∀ b, b < m → e b ≤ 40 := fun b hb => (hB b hb).2.1
  have hp2 : 0 < 2 ^ m := Nat.pow_pos (by decide)
  cases hx : sw_ix x 1 100 with
  | none =>
    simp only [st_drift, hx] at h
    refine hw 60 _ _ _ _ _ ?_
    conv => whnf
    refine ⟨x, cn, _, rfl, rfl, by omega, by omega, d2, y1, ?_⟩
    rw [show sw_rf cn F.2.2.2.2.2 x = -1000000002 by unfold sw_rf; rw [hx]]
    conv => whnf
    exact ⟨fun c => absurd c (by decide), fun _ => h σ hR⟩
  | some q =>
    obtain ⟨hq1, hq, rfl⟩ := sw_ix_some hx
    simp only [st_drift, hx] at h
    have hrf : sw_rf cn F.2.2.2.2.2 (nI q) = if cn = 0 then -1000000003 else if 9000 < F.2.2.2.2.2 then -1000000004 else 0 := by unfold sw_rf; rw [hx]
    by_cases hc0 : cn = 0
    · rw [if_pos hc0] at h hrf
      refine hw 60 _ _ _ _ _ ?_
      conv => whnf
      refine ⟨nI q, cn, _, rfl, rfl, by omega, by omega, d2, y1, ?_⟩
      rw [hrf]
      conv => whnf
      exact ⟨fun c => absurd c (by decide), fun _ => h σ hR⟩
    · rw [if_neg hc0] at h hrf
      by_cases hy9 : 9000 < F.2.2.2.2.2
      · rw [if_pos hy9] at h hrf
        refine hw 60 _ _ _ _ _ ?_
        conv => whnf
        refine ⟨nI q, cn, _, rfl, rfl, by omega, by omega, d2, y1, ?_⟩
        rw [hrf]
        conv => whnf
        exact ⟨fun c => absurd c (by decide), fun _ => h σ hR⟩
      · rw [if_neg hy9] at h hrf
        have loop : ∀ (kk i : Nat) (z : Int32) (σ1 : am_M), i + kk = q → z = nI i → am_fr [0, 17, 18, 19, 21, 27, 29] σ σ1 → σ1 0 8 = σ 0 8 → σ1 0 14 = nI (sw_drs (cn, st, mn, m, c, e, k, R, rn) i (F, sd)).2 → sw_FC σ1 17 18 19 20 m (sw_drs (cn, st, mn, m, c, e, k, R, rn) i (F, sd)).1 → sw_UC σ1 m (sw_push U F) → WW 16 [some (.ref 0), some (.int (nI q)), some (.int 0), some (.int z)] [] LC σ1 := by
          intro kk
          induction kk with
          | zero =>
            intro i z σ1 hi hz hf k8 k14 hF1 hU1
            have ei : i = q := by omega
            subst ei; subst hz
            refine hw 60 _ _ _ _ _ ?_
            have g3 := am_frd hf 3 rfl
            conv => whnf
            refine ⟨fun _ => ?_, fun c => absurd (Int32.le_refl _) c⟩
            conv => whnf
            refine ⟨m, rfl, rfl, hm, by rw [g3]; exact hL.1, ?_⟩
            conv => whnf
            refine ⟨18, 2 ^ m - 1, m, _, rfl, rfl, by decide, hm, by omega, hF1.1, ?_⟩
            conv => whnf
            rw [sw_sm_all m (Nat.le_refl m)]
            exact h σ1 (RC_flock2 (am_fr_tr (am_fr_rf _ _) hf (by decide)) k8 k14 hR hF1 hU1)
          | succ kk ih =>
            intro i z σ1 hi hz hf k8 k14 hF1 hU1
            subst hz
            obtain ⟨z1, z2, z3⟩ := sw_drs_facts (cn := cn) (st := st) (mn := mn) (c := c) (k := k) (R := R) (rn := rn) he hsd hFk i
            have g3 := am_frd hf 3 rfl
            have g4 := am_frd hf 4 rfl
            have g5 := am_frd hf 5 rfl
            have g8 := am_frd hf 8 rfl
            refine hw 60 _ _ _ _ _ ?_
            conv => whnf
            refine ⟨fun c => absurd c (nI_ge (by omega) (by omega)), fun _ => ?_⟩
            conv => whnf
            refine ⟨_, rfl, rfl, k14, ?_⟩
            generalize hs2 : am_w σ1 0 14 (nI (sw_sdn (sw_drs (cn, st, mn, m, c, e, k, R, rn) i (F, sd)).2)) = σ2
            have hf2 : am_fr [0] σ1 σ2 := by rw [← hs2]; exact aw_fr (am_fr_rf _ _) (by decide)
            have j8 : σ2 0 8 = σ 0 8 := by rw [← hs2, aw_k _ _ _ _ _ (by decide)]; exact k8
            have j14 : σ2 0 14 = nI (sw_sdn (sw_drs (cn, st, mn, m, c, e, k, R, rn) i (F, sd)).2) := by rw [← hs2]; exact aw_s _ _ _ _
            conv => whnf
            refine ⟨17, 18, 19, 20, 21, m, cn, c, e, k, (sw_drs (cn, st, mn, m, c, e, k, R, rn) i (F, sd)).1, _, rfl, rfl, Or.inl ⟨rfl, rfl, rfl, rfl, rfl⟩, ?_, ⟨hm, hcn, hB⟩, by omega, sw_FC_fr (am_frd hf2 17 rfl) (am_frd hf2 18 rfl) (am_frd hf2 19 rfl) (am_frd hf2 20 rfl) hF1, okF_FB he ⟨z1, by omega⟩, fun σ3 hf3 hF3 => ?_⟩
            · unfold sw_LC at hL ⊢; rw [am_frd hf2 3 rfl, am_frd hf2 4 rfl, am_frd hf2 5 rfl, am_frd hf2 8 rfl, g3, g4, g5, g8]; exact hL
            · conv => whnf
              have q0 := am_frd hf3 0 rfl
              refine ih (i + 1) _ σ3 (by omega) (nI_1 i) (am_fr_tr (am_fr_tr hf hf2 (by decide)) hf3 (by decide)) (by rw [q0]; exact j8) (by rw [q0]; exact j14) hF3 (sw_UC_fr ?_ ?_ ?_ hU1)
              · rw [am_frd hf3 27 rfl, am_frd hf2 27 rfl]
              · rw [am_frd hf3 28 rfl, am_frd hf2 28 rfl]
              · rw [am_frd hf3 29 rfl, am_frd hf2 29 rfl]
        refine hw 60 _ _ _ _ _ ?_
        conv => whnf
        refine ⟨nI q, cn, _, rfl, rfl, by omega, by omega, d2, y1, ?_⟩
        rw [hrf]
        conv => whnf
        refine ⟨fun _ => ?_, fun c => absurd rfl c⟩
        conv => whnf
        refine ⟨m, F, U, rfl, rfl, hm, hF, hU, fun σ1 hf hU1 => ?_⟩
        conv => whnf
        have q0 := am_frd hf 0 rfl
        exact loop q 0 0 σ1 (Nat.zero_add _) rfl (am_fr_tr (am_fr_rf _ _) hf (by decide)) (by rw [q0]) (by rw [q0]; exact hS) (sw_FC_fr (am_frd hf 17 rfl) (am_frd hf 18 rfl) (am_frd hf 19 rfl) (am_frd hf 20 rfl) hF) hU1
theorem ct_copen (l : Launch) (A : sw_A) (hA : okA A) (b : Int32) (is : Bool) : am_Ct l 2 yX6_open cX6_open 4 (some .int) (trC [.ref 0, .int b, .int (sw_b2 is)] A (st_open A b is)) := by
  refine am_ct tbX6_open (am_G [tr_hasBarn, tr_remember, tr_isShut]) (by decide +kernel) (by simp) rfl dtX6_open rfl ckX6_open lkX6_open (am_cokF [(5, some (.invokevirtual 151), 0, 2, 3, 0), (22, some (.invokevirtual 173), 1, 2, 2, 0), (30, some (.invokevirtual 167), 2, 2, 1, 0)] rfl (List.forall_mem_cons.mpr ⟨⟨0, _, _, _, _, by decide, (ct_hasBarn l), lnX6_151⟩, List.forall_mem_cons.mpr ⟨⟨1, _, _, _, _, by decide, (ct_remember l), lnX6_173⟩, List.forall_mem_cons.mpr ⟨⟨0, _, _, _, _, by decide, (ct_isShut l), lnX6_167⟩, fun _ h => absurd h List.not_mem_nil⟩⟩⟩)) ?_
  intro as L σ post h
  obtain ⟨rfl, rfl, hR, h⟩ := h
  refine ⟨by simp [am_lv0], fun WW hw => hw 60 _ _ _ _ _ ?_⟩
  obtain ⟨T, ⟨cn, st, mn, m, c, e, k, R, rn⟩, F, sd, U, I, E1, E2, E3⟩ := A
  obtain ⟨hT, ⟨hL, d6, d7, d8⟩, hF, hS, hU, hI, h1, h2, h3⟩ := id hR
  obtain ⟨-, -, ⟨hcn, hm, -⟩, -⟩ := hA
  conv => whnf
  refine ⟨b, m, rfl, rfl, hm, hL.1, ?_⟩
  cases hb : sw_ix b 0 m with
  | none =>
    simp only [st_open, hb] at h
    conv => whnf
    exact ⟨fun c => absurd rfl c, fun _ => h σ hR⟩
  | some j =>
    obtain ⟨-, hj, rfl⟩ := sw_ix_some hb
    simp only [st_open, hb] at h
    conv => whnf
    refine ⟨fun _ => ?_, fun c => absurd c sw_t0⟩
    conv => whnf
    refine ⟨m, F, U, rfl, rfl, hm, hF, hU, fun σ1 hf hU1 => ?_⟩
    have hF1 := sw_FC_fr (am_frd hf 17 rfl) (am_frd hf 18 rfl) (am_frd hf 19 rfl) (am_frd hf 20 rfl) hF
    have key : ∀ v, v = (if is then F.2.2.2.1 &&& ((1 <<< (nI j &&& 31)) ^^^ -1) else F.2.2.2.1 ||| (1 <<< (nI j &&& 31))) → RC (T, (cn, st, mn, m, c, e, k, R, rn), sw_opn F j is, sd, sw_push U F, I, E1, E2, E3) (am_w σ1 17 4 v) := by
      intro v hv
      refine RC_flock (aw_fr (am_fr_tr (am_fr_rf _ _) hf (by decide)) (by decide)) hR ?_ (sw_UC_fr (aw_n _ _ _ _ _ (by decide)) (aw_n _ _ _ _ _ (by decide)) (aw_n _ _ _ _ _ (by decide)) hU1)
      obtain ⟨g1, g2, g3, g4, g5, g6⟩ := hF1
      refine ⟨fun q hq => ?_, fun q hq => ?_, fun q hq => ?_, ?_, ?_, ?_⟩
      · rw [aw_n _ _ _ _ _ (by decide)]; exact g1 q hq
      · rw [aw_n _ _ _ _ _ (by decide)]; exact g2 q hq
      · rw [aw_n _ _ _ _ _ (by decide)]; exact g3 q hq
      · rw [aw_s, hv]; rfl
      · rw [aw_k _ _ _ _ _ (by decide)]; exact g5
      · rw [aw_k _ _ _ _ _ (by decide)]; exact g6
    conv => whnf
    refine ⟨17, j, rfl, rfl, by decide, ?_⟩
    rw [hF1.2.2.2.1]
    cases hbit : sw_bit F.2.2.2.1 j with
    | true =>
      rw [hbit, if_pos rfl] at h
      conv => whnf
      refine ⟨fun c => absurd c (by decide), fun _ => ?_⟩
      cases is with
      | true =>
        conv => whnf
        refine ⟨fun c => absurd c (by decide), fun _ => ?_⟩
        conv => whnf
        refine h _ (key _ ?_)
        rw [hF1.2.2.2.1]; rfl
      | false =>
        conv => whnf
        refine ⟨fun _ => ?_, fun c => absurd rfl c⟩
        conv => whnf
        refine h _ (key _ ?_)
        rw [hF1.2.2.2.1]; rfl
    | false =>
      rw [hbit, if_neg (by decide)] at h
      conv => whnf
      refine ⟨fun _ => ?_, fun c => absurd rfl c⟩
      cases is with
      | true =>
        conv => whnf
        refine ⟨fun c => absurd c (by decide), fun _ => ?_⟩
        conv => whnf
        refine h _ (key _ ?_)
        rw [hF1.2.2.2.1]; rfl
      | false =>
        conv => whnf
        refine ⟨fun _ => ?_, fun c => absurd rfl c⟩
        conv => whnf
        refine h _ (key _ ?_)
        rw [hF1.2.2.2.1]; rfl
def tr_canCarry : am_T := fun as L σ post => ∃ i j x n n2 e, as = [.ref 0, .int (nI i), .int (nI j), .int (nI x)] ∧ L = LC ∧ i < 8 ∧ j < 8 ∧ x < 1000 ∧ n < 1000 ∧ n2 < 1000 ∧ e < 1000 ∧ σ 18 i = nI n ∧ σ 18 j = nI n2 ∧ σ 5 j = nI e ∧ (x ≤ n ∧ n2 + x ≤ e → post (some (.int 1)) L σ) ∧ (¬ (x ≤ n ∧ n2 + x ≤ e) → post (some (.int 0)) L σ)
theorem ct_canCarry (l : Launch) : am_Ct l 0 yX6_canCarry cX6_canCarry 4 (some .boolean) tr_canCarry := by
  refine am_ct tbX6_canCarry (am_G []) (by decide +kernel) (by simp) rfl dtX6_canCarry rfl ckX6_canCarry lkX6_canCarry (am_nocalls rfl) ?_
  intro as L σ post h
  obtain ⟨i, j, x, n, n2, e, rfl, rfl, hi, hj, hx, hn, hn2, he, e1, e2, e3, h1, h2⟩ := h
  refine ⟨by simp [am_lv0], fun WW hw => hw 60 _ _ _ _ _ ?_⟩
  have v1 : vp_in (nI i) 8 := vp_j hi (by decide)
  have v2 : vp_in (nI j) 8 := vp_j hj (by decide)
  have c1 : (nI i).toNatClampNeg = i := nI_cl (by omega)
  have c2 : (nI j).toNatClampNeg = j := nI_cl (by omega)
  repeat ((conv => whnf); refine And.intro ?_ ?_; first | with_reducible assumption | decide)
  conv => whnf
  rw [c1, e1, nI_lt' (by omega) (by omega)]
  refine ⟨fun c => ?_, fun c => ?_⟩
  · conv => whnf
    exact ⟨Or.inl rfl, h2 (by omega)⟩
  · repeat ((conv => whnf); refine And.intro ?_ ?_; first | with_reducible assumption | decide)
    conv => whnf
    rw [c2, e2, e3, nI_add, nI_lt' (by omega) (by omega)]
    refine ⟨fun c => ?_, fun c => ?_⟩
    · conv => whnf
      exact ⟨Or.inl rfl, h2 (by omega)⟩
    · conv => whnf
      exact ⟨Or.inr rfl, h1 (by omega)⟩
set_option maxHeartbeats 2000000 in
theorem ct_cmove (l : Launch) (A : sw_A) (hA : okA A) (a b x : Int32) : am_Ct l 2 yX6_move cX6_move 4 (some .int) (trC [.ref 0, .int a, .int b, .int x] A (st_move A a b x)) := by
  refine am_ct tbX6_move (am_G [tr_hasBarn, tr_canCarry, tr_remember, tr_carry]) (by decide +kernel) (by simp) rfl dtX6_move rfl ckX6_move lkX6_move (am_cokF [(5, some (.invokevirtual 151), 0, 2, 3, 0), (16, some (.invokevirtual 151), 0, 2, 3, 0), (48, some (.invokevirtual 181), 1, 4, 6, 0), (65, some (.invokevirtual 173), 2, 2, 2, 0), (75, some (.invokevirtual 186), 3, 4, 1, 0)] rfl (List.forall_mem_cons.mpr ⟨⟨0, _, _, _, _, by decide, (ct_hasBarn l), lnX6_151⟩, List.forall_mem_cons.mpr ⟨⟨0, _, _, _, _, by decide, (ct_hasBarn l), lnX6_151⟩, List.forall_mem_cons.mpr ⟨⟨0, _, _, _, _, by decide, (ct_canCarry l), lnX6_181⟩, List.forall_mem_cons.mpr ⟨⟨1, _, _, _, _, by decide, (ct_remember l), lnX6_173⟩, List.forall_mem_cons.mpr ⟨⟨0, _, _, _, _, by decide, (ct_carry l), lnX6_186⟩, fun _ h => absurd h List.not_mem_nil⟩⟩⟩⟩⟩)) ?_
  intro as L σ post h
  obtain ⟨rfl, rfl, hR, h⟩ := h
  refine ⟨by simp [am_lv0], fun WW hw => hw 60 _ _ _ _ _ ?_⟩
  obtain ⟨T, ⟨cn, st, mn, m, c, e, k, R, rn⟩, F, sd, U, I, E1, E2, E3⟩ := A
  obtain ⟨hT, ⟨hL, d6, d7, d8⟩, hF, hS, hU, hI, h1, h2, h3⟩ := id hR
  obtain ⟨-, -, ⟨hcn, hm, -, -, -, -, hB, -⟩, ⟨hFk, hy⟩, -⟩ := hA
  have c1 : x < 1 ↔ x.toInt < 1 := sw_xlt 1 (by decide)
  have c40 : x ≤ 40 ↔ x.toInt ≤ 40 := sw_xle 40 (by decide)
  conv => whnf
  refine ⟨a, m, rfl, rfl, hm, hL.1, ?_⟩
  cases ha : sw_ix a 0 m with
  | none =>
    simp only [st_move, ha] at h
    conv => whnf
    exact ⟨fun _ => h σ hR, fun c => absurd rfl c⟩
  | some i =>
    obtain ⟨-, hi, rfl⟩ := sw_ix_some ha
    conv => whnf
    refine ⟨fun c => absurd c sw_t0, fun _ => ?_⟩
    conv => whnf
    refine ⟨b, m, rfl, rfl, hm, hL.1, ?_⟩
    cases hb : sw_ix b 0 m with
    | none =>
      simp only [st_move, ha, hb] at h
      conv => whnf
      exact ⟨fun _ => h σ hR, fun c => absurd rfl c⟩
    | some j =>
      obtain ⟨-, hj, rfl⟩ := sw_ix_some hb
      simp only [st_move, ha, hb] at h
      have hij : nI i = nI j ↔ i = j := nI_eq' (by omega) (by omega)
      have v2 : vp_in (nI j) 8 := vp_j (by omega) (by decide)
      have k2 : (nI j).toNatClampNeg = j := nI_cl (by omega)
      obtain ⟨q1, q2, q3⟩ := hFk i hi
      obtain ⟨p1, p2, p3⟩ := hFk j hj
      have ei := (hB i hi).2.1
      have ej := (hB j hj).2.1
      conv => whnf
      refine ⟨fun c => absurd c sw_t0, fun _ => ?_⟩
      conv => whnf
      rw [hij]
      refine ⟨fun cij => ?_, fun cij => ?_⟩
      · rw [if_neg cij] at h
        cases hx : sw_ix x 1 41 with
        | none =>
          have hn := sw_ix_none hx
          simp only [hx] at h
          conv => whnf
          rw [c1]
          refine ⟨fun c => h σ hR, fun c => ?_⟩
          conv => whnf
          rw [c40]
          exact ⟨fun c => by omega, fun c => h σ hR⟩
        | some n =>
          obtain ⟨hn1, hn2, rfl⟩ := sw_ix_some hx
          simp only [hx] at h
          rw [nI_toInt (by omega)] at c1 c40
          conv => whnf
          rw [c1]
          refine ⟨fun c => by omega, fun c => ?_⟩
          conv => whnf
          rw [c40]
          refine ⟨fun c => ?_, fun c => by omega⟩
          conv => whnf
          refine ⟨i, j, n, F.1 i, F.1 j, e j, rfl, rfl, by omega, by omega, by omega, by omega, by omega, by omega, hF.1 i hi, hF.1 j hj, hL.2.2.2.1 j hj, fun hc => ?_, fun hc => ?_⟩
          · rw [if_pos hc] at h
            conv => whnf
            refine ⟨fun _ => ?_, fun c => absurd c (by decide)⟩
            conv => whnf
            refine ⟨m, F, U, rfl, rfl, hm, hF, hU, fun σ1 hf hU1 => ?_⟩
            have hF1 := sw_FC_fr (am_frd hf 17 rfl) (am_frd hf 18 rfl) (am_frd hf 19 rfl) (am_frd hf 20 rfl) hF
            conv => whnf
            refine ⟨17, 18, 19, 20, 21, m, F, i, j, n, rfl, rfl, Or.inl ⟨rfl, rfl, rfl, rfl, rfl⟩, hm, hi, hj, cij, hF1, hc.1, by omega, by omega, by omega, fun σ2 hf2 hF2 => ?_⟩
            repeat ((conv => whnf); refine And.intro ?_ ?_; first | with_reducible assumption | decide)
            conv => whnf
            rw [k2, hF2.1 j hj, show (sw_mv F i j n).1 j = F.1 j + n from up_vs _ _ _]
            exact h σ2 (RC_flock (am_fr_tr (am_fr_tr (am_fr_rf _ _) hf (by decide)) hf2 (by decide)) hR hF2 (sw_UC_fr (am_frd hf2 27 rfl) (am_frd hf2 28 rfl) (am_frd hf2 29 rfl) hU1))
          · rw [if_neg hc] at h
            conv => whnf
            exact ⟨fun c => absurd rfl c, fun _ => h σ hR⟩
      · rw [if_pos cij] at h
        exact h σ hR
