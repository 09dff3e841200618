/-! THE CLASS: barn, years, what is done -/
theorem sw_t0 : ¬ sw_b2 true = 0 := by decide
set_option maxHeartbeats 2000000 in
theorem ct_cbarn (l : Launch) (A : sw_A) (hA : okA A) (b x : Int32) : am_Ct l 1 yX6_barn cX6_barn 3 (some .int) (trC [.ref 0, .int b, .int x] A (st_barn A b x)) := by
  refine am_ct tbX6_barn (am_G [tr_hasBarn, tr_isShut]) (by decide +kernel) (by simp) rfl dtX6_barn rfl ckX6_barn lkX6_barn (am_cokF [(5, some (.invokevirtual 151), 0, 2, 3, 0), (121, some (.invokevirtual 167), 1, 2, 1, 0)] rfl (List.forall_mem_cons.mpr ⟨⟨0, _, _, _, _, by decide, (ct_hasBarn l), lnX6_151⟩, List.forall_mem_cons.mpr ⟨⟨0, _, _, _, _, by decide, (ct_isShut l), lnX6_167⟩, fun _ h => absurd h List.not_mem_nil⟩⟩)) ?_
  intro as L σ post h
  obtain ⟨rfl, rfl, hR, h⟩ := h
  refine ⟨by simp [am_lv0], fun WW hw => hw 60 _ _ _ _ _ ?_⟩
  obtain ⟨T, ⟨cn, st, mn, m, c, e, k, R, rn⟩, ⟨n, g, f, s, lo, y⟩, sd, U, I, E1, E2, E3⟩ := A
  obtain ⟨hT, ⟨⟨d1, d2, d3, d4, d5⟩, d6, d7, d8⟩, ⟨f1, f2, f3, f4, f5, f6⟩, -⟩ := id hR
  obtain ⟨-, -, ⟨hcn, hm, -⟩, -⟩ := hA
  dsimp only at f1 f2 f3 f4 f5 f6
  conv => whnf
  refine ⟨b, m, rfl, rfl, hm, d1, ?_⟩
  cases hb : sw_ix b 0 m with
  | none =>
    simp only [st_barn, hb] at h
    conv => whnf
    refine ⟨fun c => absurd rfl c, fun _ => ?_⟩
    exact h σ hR
  | some j =>
    obtain ⟨-, hj, rfl⟩ := sw_ix_some hb
    conv => whnf
    refine ⟨fun _ => ?_, fun c => absurd c sw_t0⟩
    have hin : vp_in (nI j) 8 := vp_j (by omega) (by decide)
    have hcl : (nI j).toNatClampNeg = j := nI_cl (by omega)
    cases hx : sw_ix x 0 7 with
    | none =>
      have hn := sw_ix_none hx
      simp only [st_barn, hb, hx] at h
      conv => whnf
      refine ⟨fun _ => h σ hR, ?_⟩
      repeat (refine And.intro (fun q => ?_) ?_; · omega)
      trivial
    | some w =>
      obtain ⟨-, hw7, rfl⟩ := sw_ix_some hx
      simp only [st_barn, hb, hx] at h
      have h := h σ hR
      conv => whnf
      rw [nI_toInt (by omega)]
      refine ⟨fun q => by omega, fun q => ?_, fun q => ?_, fun q => ?_, fun q => ?_, fun q => ?_, fun q => ?_, fun q => ?_, trivial⟩
      all_goals
        have hwq : w = _ := Int.ofNat.inj q
        subst hwq
        repeat ((conv => whnf); refine And.intro ?_ ?_; first | with_reducible assumption | decide)
        conv => whnf
      · rw [hcl, d3 j hj]; exact h
      · rw [hcl, d4 j hj]; exact h
      · rw [hcl, f1 j hj]; exact h
      · rw [hcl, f3 j hj]; exact h
      · rw [hcl, d5 j hj]; exact h
      · rw [hcl, f2 j hj]; exact h
      · refine ⟨17, j, rfl, rfl, by decide, ?_⟩
        rw [f4]
        cases hbit : sw_bit s j with
        | true =>
          rw [hbit] at h
          conv => whnf
          exact ⟨fun c => absurd c (by decide), fun _ => h⟩
        | false =>
          rw [hbit] at h
          conv => whnf
          exact ⟨fun _ => h, fun c => absurd rfl c⟩
def sw_rf (cn y : Nat) (x : Int32) : Int32 := match sw_ix x 1 100 with
  | none => -1000000002
  | some _ => if cn = 0 then -1000000003 else if 9000 < y then -1000000004 else 0
def tr_refusal : am_T := fun as L σ post => ∃ x cn y, as = [.ref 0, .int x] ∧ L = LC ∧ cn < 1000 ∧ y < 100000 ∧ σ 3 0 = nI cn ∧ σ 17 6 = nI y ∧ post (some (.int (sw_rf cn y x))) L σ
theorem ct_refusal (l : Launch) : am_Ct l 0 yX6_refusalOfYears cX6_refusalOfYears 2 (some .int) tr_refusal := by
  refine am_ct tbX6_refusalOfYears (am_G []) (by decide +kernel) (by simp) rfl dtX6_refusalOfYears rfl ckX6_refusalOfYears lkX6_refusalOfYears (am_nocalls rfl) ?_
  intro as L σ post h
  obtain ⟨x, cn, y, rfl, rfl, hcn, hy, e1, e2, h⟩ := h
  refine ⟨by simp [am_lv0], fun WW hw => hw 60 _ _ _ _ _ ?_⟩
  have c1 : x < 1 ↔ x.toInt < 1 := sw_xlt 1 (by decide)
  have c99 : x ≤ 99 ↔ x.toInt ≤ 99 := sw_xle 99 (by decide)
  have hz : nI cn = 0 ↔ cn = 0 := nI_eq' (b := 0) (by omega) (by decide)
  have h9 : nI y ≤ 9000 ↔ y ≤ 9000 := nI_le' (b := 9000) (by omega) (by decide)
  unfold sw_rf at h
  cases hx : sw_ix x 1 100 with
  | none =>
    have hn := sw_ix_none hx
    rw [hx] at h
    conv => whnf
    rw [c1]
    refine ⟨fun c => h, fun c => ?_⟩
    conv => whnf
    rw [c99]
    exact ⟨fun c => by omega, fun c => h⟩
  | some j =>
    obtain ⟨hj1, hj, rfl⟩ := sw_ix_some hx
    rw [hx] at h
    dsimp only at h
    rw [nI_toInt (by omega)] at c1 c99
    conv => whnf
    rw [c1]
    refine ⟨fun c => by omega, fun c => ?_⟩
    conv => whnf
    rw [c99]
    refine ⟨fun c => ?_, fun c => by omega⟩
    conv => whnf
    rw [e1, hz]
    refine ⟨fun c => ?_, fun c => ?_⟩
    · rw [if_neg c] at h
      conv => whnf
      rw [e2, h9]
      refine ⟨fun c => ?_, fun c => ?_⟩
      · rw [if_neg (by omega)] at h; exact h
      · rw [if_pos (by omega)] at h; exact h
    · rw [if_pos c] at h
      exact h
theorem okF_yr {m cn : Nat} {c e k : Nat → Nat} {r Y : Nat} {F : sw_F} (hr : r ≤ 9) (he : ∀ b, b < m → e b ≤ 40) (h : ∀ b, b < m → F.1 b ≤ e b ∧ F.2.1 b ≤ F.1 b ∧ F.2.2.1 b ≤ 9) : ∀ b, b < m → (sw_yr m cn c e k r F).1 b ≤ e b ∧ (sw_yr m cn c e k r F).2.1 b ≤ (sw_yr m cn c e k r F).1 b ∧ (sw_yr m cn c e k r F).2.2.1 b ≤ 9 := sw_yr_ok hr he h
theorem sw_yrs_facts {cn st mn m : Nat} {c e k : Nat → Nat} {R : Nat} {rn : Nat → Nat} {F : sw_F} (hR : 0 < R) (hrn : ∀ t, t < R → rn t ≤ 9) (he : ∀ b, b < m → e b ≤ 40) (h : ∀ b, b < m → F.1 b ≤ e b ∧ F.2.1 b ≤ F.1 b ∧ F.2.2.1 b ≤ 9) : ∀ n, (∀ b, b < m → (sw_yrs (cn, st, mn, m, c, e, k, R, rn) n F).1 b ≤ e b ∧ (sw_yrs (cn, st, mn, m, c, e, k, R, rn) n F).2.1 b ≤ (sw_yrs (cn, st, mn, m, c, e, k, R, rn) n F).1 b ∧ (sw_yrs (cn, st, mn, m, c, e, k, R, rn) n F).2.2.1 b ≤ 9) ∧ (sw_yrs (cn, st, mn, m, c, e, k, R, rn) n F).2.2.2.2.2 = F.2.2.2.2.2 + n
  | 0 => ⟨h, rfl⟩
  | n + 1 => by
    obtain ⟨h1, h2⟩ := sw_yrs_facts (cn := cn) (st := st) (mn := mn) (c := c) (k := k) hR hrn he h n
    refine ⟨sw_yr_ok (hrn _ (Nat.mod_lt _ hR)) he h1, ?_⟩
    show (sw_yrs (cn, st, mn, m, c, e, k, R, rn) n F).2.2.2.2.2 + 1 = _
    rw [h2]; omega
theorem sw_drs_facts {cn st mn m : Nat} {c e k : Nat → Nat} {R : Nat} {rn : Nat → Nat} {F : sw_F} {sd : Nat} (he : ∀ b, b < m → e b ≤ 40) (hsd : sd < 2147483648) (h : ∀ b, b < m → F.1 b ≤ e b ∧ F.2.1 b ≤ F.1 b ∧ F.2.2.1 b ≤ 9) : ∀ n, (∀ b, b < m → (sw_drs (cn, st, mn, m, c, e, k, R, rn) n (F, sd)).1.1 b ≤ e b ∧ (sw_drs (cn, st, mn, m, c, e, k, R, rn) n (F, sd)).1.2.1 b ≤ (sw_drs (cn, st, mn, m, c, e, k, R, rn) n (F, sd)).1.1 b ∧ (sw_drs (cn, st, mn, m, c, e, k, R, rn) n (F, sd)).1.2.2.1 b ≤ 9) ∧ (sw_drs (cn, st, mn, m, c, e, k, R, rn) n (F, sd)).1.2.2.2.2.2 = F.2.2.2.2.2 + n ∧ (sw_drs (cn, st, mn, m, c, e, k, R, rn) n (F, sd)).2 < 2147483648
  | 0 => ⟨h, rfl, hsd⟩
  | n + 1 => by
    obtain ⟨h1, h2, h3⟩ := sw_drs_facts (cn := cn) (st := st) (mn := mn) (c := c) (k := k) (R := R) (rn := rn) he hsd h n
    refine ⟨sw_yr_ok (by omega) he h1, ?_, Nat.mod_lt _ (by decide)⟩
    show (sw_drs (cn, st, mn, m, c, e, k, R, rn) n (F, sd)).1.2.2.2.2.2 + 1 = _
    rw [h2]; omega
set_option maxHeartbeats 2000000 in
theorem ct_cyear (l : Launch) (A : sw_A) (hA : okA A) (x : Int32) : am_Ct l 2 yX6_year cX6_year 4 (some .int) (trC [.ref 0, .int x] A (st_year A x)) := by
  refine am_ct tbX6_year (am_G [tr_refusal, tr_remember, tr_rainOf, tr_passYear, tr_allBarns, tr_sumOver]) (by decide +kernel) (by simp) rfl dtX6_year rfl ckX6_year lkX6_year (am_cokF [(2, some (.invokevirtual 170), 0, 2, 6, 0), (20, some (.invokevirtual 173), 1, 2, 2, 0), (49, some (.invokevirtual 123), 2, 2, 3, 0), (52, some (.invokevirtual 177), 3, 3, 1, 0), (72, some (.invokevirtual 133), 4, 1, 3, 0), (75, some (.invokestatic 137), 5, 2, 0, 0)] rfl (List.forall_mem_cons.mpr ⟨⟨0, _, _, _, _, by decide, (ct_refusal l), lnX6_170⟩, List.forall_mem_cons.mpr ⟨⟨1, _, _, _, _, by decide, (ct_remember l), lnX6_173⟩, List.forall_mem_cons.mpr ⟨⟨0, _, _, _, _, by decide, (ct_rainOf l), lnX6_123⟩, List.forall_mem_cons.mpr ⟨⟨1, _, _, _, _, by decide, (ct_passYear l), lnX6_177⟩, List.forall_mem_cons.mpr ⟨⟨0, _, _, _, _, by decide, (ct_allBarns l), lnX6_133⟩, List.forall_mem_cons.mpr ⟨Or.inr (Or.inr (Or.inr ⟨0, _, _, _, _, by decide, (ct_sumOver l), lnX6_137⟩)), fun _ h => absurd h List.not_mem_nil⟩⟩⟩⟩⟩⟩)) ?_
  intro as L σ post h
  obtain ⟨rfl, rfl, hR, h⟩ := h
  refine ⟨by simp [am_lv0], fun WW hw => ?_⟩
  obtain ⟨T, ⟨cn, st, mn, m, c, e, k, R, rn⟩, F, sd, U, I, E1, E2, E3⟩ := A
  obtain ⟨hT, ⟨hL, d6, d7, d8⟩, hF, hS, hU, hI, h1, h2, h3⟩ := id hR
  obtain ⟨-, -, ⟨hcn, hm, -, -, -, -, hB, hR0, hR8, hrn⟩, ⟨hFk, hy⟩, -⟩ := hA
  have d2 := hL.2.1
  have y1 := hF.2.2.2.2.2
  have he : ∀ b, b < m → e b ≤ 40 := fun b hb => (hB b hb).2.1
  have hp2 : 0 < 2 ^ m := Nat.pow_pos (by decide)
  cases hx : sw_ix x 1 100 with
  | none =>
    simp only [st_year, hx] at h
    refine hw 60 _ _ _ _ _ ?_
    conv => whnf
    refine ⟨x, cn, _, rfl, rfl, by omega, by omega, d2, y1, ?_⟩
    rw [show sw_rf cn F.2.2.2.2.2 x = -1000000002 by unfold sw_rf; rw [hx]]
    conv => whnf
    exact ⟨fun c => absurd c (by decide), fun _ => h σ hR⟩
  | some q =>
    obtain ⟨hq1, hq, rfl⟩ := sw_ix_some hx
    simp only [st_year, hx] at h
    have hrf : sw_rf cn F.2.2.2.2.2 (nI q) = if cn = 0 then -1000000003 else if 9000 < F.2.2.2.2.2 then -1000000004 else 0 := by unfold sw_rf; rw [hx]
    by_cases hc0 : cn = 0
    · rw [if_pos hc0] at h hrf
      refine hw 60 _ _ _ _ _ ?_
      conv => whnf
      refine ⟨nI q, cn, _, rfl, rfl, by omega, by omega, d2, y1, ?_⟩
      rw [hrf]
      conv => whnf
      exact ⟨fun c => absurd c (by decide), fun _ => h σ hR⟩
    · rw [if_neg hc0] at h hrf
      by_cases hy9 : 9000 < F.2.2.2.2.2
      · rw [if_pos hy9] at h hrf
        refine hw 60 _ _ _ _ _ ?_
        conv => whnf
        refine ⟨nI q, cn, _, rfl, rfl, by omega, by omega, d2, y1, ?_⟩
        rw [hrf]
        conv => whnf
        exact ⟨fun c => absurd c (by decide), fun _ => h σ hR⟩
      · rw [if_neg hy9] at h hrf
        have loop : ∀ (kk i : Nat) (z : Int32) (σ1 : am_M), i + kk = q → z = nI i → am_fr [17, 18, 19, 21, 27, 29] σ σ1 → sw_FC σ1 17 18 19 20 m (sw_yrs (cn, st, mn, m, c, e, k, R, rn) i F) → sw_UC σ1 m (sw_push U F) → WW 16 [some (.ref 0), some (.int (nI q)), some (.int 0), some (.int z)] [] LC σ1 := by
          intro kk
          induction kk with
          | zero =>
            intro i z σ1 hi hz hf hF1 hU1
            have ei : i = q := by omega
            subst ei; subst hz
            refine hw 60 _ _ _ _ _ ?_
            have g3 := am_frd hf 3 rfl
            conv => whnf
            refine ⟨fun _ => ?_, fun c => absurd (Int32.le_refl _) c⟩
            conv => whnf
            refine ⟨m, rfl, rfl, hm, by rw [g3]; exact hL.1, ?_⟩
            conv => whnf
            refine ⟨18, 2 ^ m - 1, m, _, rfl, rfl, by decide, hm, by omega, hF1.1, ?_⟩
            conv => whnf
            rw [sw_sm_all m (Nat.le_refl m)]
            exact h σ1 (RC_flock (am_fr_tr (am_fr_rf _ _) hf (by decide)) hR hF1 hU1)
          | succ kk ih =>
            intro i z σ1 hi hz hf hF1 hU1
            subst hz
            obtain ⟨z1, z2⟩ := sw_yrs_facts (cn := cn) (st := st) (mn := mn) (c := c) (k := k) hR0 hrn he hFk i
            have g3 := am_frd hf 3 rfl
            have g4 := am_frd hf 4 rfl
            have g5 := am_frd hf 5 rfl
            have g8 := am_frd hf 8 rfl
            have g9 := am_frd hf 9 rfl
            have hmod := Nat.mod_lt ((sw_yrs (cn, st, mn, m, c, e, k, R, rn) i F).2.2.2.2.2) hR0
            refine hw 60 _ _ _ _ _ ?_
            conv => whnf
            refine ⟨fun c => absurd c (nI_ge (by omega) (by omega)), fun _ => ?_⟩
            conv => whnf
            rw [hF1.2.2.2.2.2]
            refine ⟨_, R, rn, rfl, rfl, by omega, hR0, hR8, by unfold rcR at d8; rw [g3, g9]; exact d8, ?_⟩
            conv => whnf
            refine ⟨17, 18, 19, 20, 21, m, cn, c, e, k, sw_yrs (cn, st, mn, m, c, e, k, R, rn) i F, _, rfl, rfl, Or.inl ⟨rfl, rfl, rfl, rfl, rfl⟩, by unfold sw_LC at hL ⊢; rw [g3, g4, g5, g8]; exact hL, ⟨hm, hcn, hB⟩, hrn _ hmod, hF1, okF_FB (F := sw_yrs (cn, st, mn, m, c, e, k, R, rn) i F) he ⟨z1, by omega⟩, fun σ2 hf2 hF2 => ?_⟩
            conv => whnf
            exact ih (i + 1) _ σ2 (by omega) (nI_1 i) (am_fr_tr hf hf2 (by decide)) hF2 (sw_UC_fr (am_frd hf2 27 rfl) (am_frd hf2 28 rfl) (am_frd hf2 29 rfl) hU1)
        refine hw 60 _ _ _ _ _ ?_
        conv => whnf
        refine ⟨nI q, cn, _, rfl, rfl, by omega, by omega, d2, y1, ?_⟩
        rw [hrf]
        conv => whnf
        refine ⟨fun _ => ?_, fun c => absurd rfl c⟩
        conv => whnf
        refine ⟨m, F, U, rfl, rfl, hm, hF, hU, fun σ1 hf hU1 => ?_⟩
        conv => whnf
        exact loop q 0 0 σ1 (Nat.zero_add _) rfl (am_fr_tr (am_fr_rf _ _) hf (by decide)) (sw_FC_fr (am_frd hf 17 rfl) (am_frd hf 18 rfl) (am_frd hf 19 rfl) (am_frd hf 20 rfl) hF) hU1
