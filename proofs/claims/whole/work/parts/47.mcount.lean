/-! THE REFERENCE: count, counters, votes, elected, spring -/
set_option maxHeartbeats 2000000 in
theorem ct_mcount (l : Launch) (A : sw_A) (hA : okA A) (x y z : Int32) : am_Ct l 4 yX7_count cX7_count 5 (some .int) (trM [.ref 0, .int x, .int y, .int z] A (st_count A x y z)) := by
  refine am_ct tbX7_count (am_G [tr_misCounty, tr_min, tr_msave, tr_mpass, tr_msouls, tr_mputBack]) (by decide +kernel) (by simp) rfl dtX7_count rfl ckX7_count lkX7_count (am_cokF [(2, some (.invokevirtual 250), 0, 2, 7, 0), (17, some (.invokestatic 99), 1, 3, 0, 0), (29, some (.invokestatic 99), 1, 3, 0, 0), (39, some (.invokevirtual 257), 2, 1, 7, 0), (52, some (.invokevirtual 222), 3, 1, 7, 0), (63, some (.invokevirtual 260), 4, 2, 7, 0), (69, some (.invokevirtual 263), 5, 1, 7, 0)] rfl (List.forall_mem_cons.mpr ⟨⟨1, _, _, _, _, by decide, (ct_misCounty l), lnX7_250⟩, List.forall_mem_cons.mpr ⟨Or.inr (Or.inr (Or.inr ⟨0, _, _, _, _, by decide, (ct_min l), lnX7_99⟩)), List.forall_mem_cons.mpr ⟨Or.inr (Or.inr (Or.inr ⟨0, _, _, _, _, by decide, (ct_min l), lnX7_99⟩)), List.forall_mem_cons.mpr ⟨⟨0, _, _, _, _, by decide, (ct_msave l), lnX7_257⟩, List.forall_mem_cons.mpr ⟨⟨3, _, _, _, _, by decide, (ct_mpass l), lnX7_222⟩, List.forall_mem_cons.mpr ⟨⟨0, _, _, _, _, by decide, (ct_msouls l), lnX7_260⟩, List.forall_mem_cons.mpr ⟨⟨0, _, _, _, _, by decide, (ct_mputBack l), lnX7_263⟩, fun _ h => absurd h List.not_mem_nil⟩⟩⟩⟩⟩⟩⟩)) ?_
  intro as L σ post h
  obtain ⟨rfl, rfl, hR, h⟩ := h
  refine ⟨by simp [am_lv0], fun WW hw => ?_⟩
  obtain ⟨T, ⟨cn, st, mn, m, c, e, k, R, rn⟩, F, sd, U, I, E1, E2, E3⟩ := A
  obtain ⟨hT, hD, hF, -⟩ := id hR
  have hL := hD.1
  obtain ⟨-, -, ⟨hcn, hm, -, hpos, hst, hmn, hB, hR0, hR8, hrn⟩, ⟨hFk, hy⟩, -⟩ := hA
  have he : ∀ b, b < m → e b ≤ 40 := fun b hb => (hB b hb).2.1
  cases hx : sw_ix x 0 cn with
  | none =>
    refine hw 60 _ _ _ _ _ ?_
    conv => whnf
    refine ⟨cn, x, rfl, rfl, by omega, hL.2.1, ?_⟩
    simp only [st_count, hx] at h
    rw [hx]
    conv => whnf
    exact ⟨fun c => absurd rfl c, fun _ => h σ hR⟩
  | some q =>
    obtain ⟨-, hq, rfl⟩ := sw_ix_some hx
    cases hyx : sw_ix y 0 61 with
    | none =>
      simp only [st_count, hx, hyx] at h
      refine hw 60 _ _ _ _ _ ?_
      conv => whnf
      refine ⟨cn, nI q, rfl, rfl, by omega, hL.2.1, ?_⟩
      rw [hx]
      conv => whnf
      refine ⟨fun _ => ?_, fun c => absurd c sw_t0⟩
      conv => whnf
      refine ⟨_, _, _, y.toInt, ((0 : Nat) : Int), 60, rfl, Int32.toInt_toInt64 y, rfl, rfl, ?_⟩
      rw [sw_isIx y 0 61 (hi := 60) rfl, hyx]
      conv => whnf
      exact ⟨fun _ => h σ hR, fun c => absurd rfl c⟩
    | some n =>
      obtain ⟨-, hn, rfl⟩ := sw_ix_some hyx
      cases hzx : sw_ix z 0 3 with
      | none =>
        simp only [st_count, hx, hyx, hzx] at h
        refine hw 60 _ _ _ _ _ ?_
        conv => whnf
        refine ⟨cn, nI q, rfl, rfl, by omega, hL.2.1, ?_⟩
        rw [hx]
        conv => whnf
        refine ⟨fun _ => ?_, fun c => absurd c sw_t0⟩
        conv => whnf
        refine ⟨_, _, _, (nI n).toInt, ((0 : Nat) : Int), 60, rfl, Int32.toInt_toInt64 _, rfl, rfl, ?_⟩
        rw [sw_isIx (nI n) 0 61 (hi := 60) rfl, hyx]
        conv => whnf
        refine ⟨fun c => absurd c sw_t0, fun _ => ?_⟩
        conv => whnf
        refine ⟨_, _, _, z.toInt, ((0 : Nat) : Int), 2, rfl, Int32.toInt_toInt64 _, rfl, rfl, ?_⟩
        rw [sw_isIx z 0 3 (hi := 2) rfl, hzx]
        conv => whnf
        exact ⟨fun c => absurd rfl c, fun _ => h σ hR⟩
      | some w =>
        obtain ⟨-, hw3, rfl⟩ := sw_ix_some hzx
        simp only [st_count, hx, hyx, hzx] at h
        have hp := hpos (by omega)
        have hw0 : nI w = 0 ↔ w = 0 := nI_eq' (b := 0) (by omega) (by decide)
        have hw1 : nI w = 1 ↔ w = 1 := nI_eq' (b := 1) (by omega) (by decide)
        have loop : ∀ (kk i : Nat) (u : Int32) (σ1 : am_M), i + kk = n → u = nI i → fm [5, 14, 16] [] σ σ1 → (∀ p, p < 27 → σ1 16 p = σ 5 p) → sw_FM σ1 m (sw_yrs (cn, st, mn, m, c, e, k, R, rn) i F) → WW 25 [some (.ref 0), some (.int (nI q)), some (.int (nI n)), some (.int (nI w)), some (.int u)] [] LM σ1 := by
          intro kk
          induction kk with
          | zero =>
            intro i u σ1 hi hu hf hs16 hF1
            have ei : i = n := by omega
            subst ei; subst hu
            obtain ⟨f1, -⟩ := sw_yrs_facts (cn := cn) (st := st) (mn := mn) (c := c) (k := k) hR0 hrn he hFk i
            have hs : sw_cs (sw_yrs (cn, st, mn, m, c, e, k, R, rn) i F).1 c q m ≤ m * 40 := sw_cs_le m (fun b hb => by have := (f1 b hb).1; have := he b hb; omega)
            refine hw 60 _ _ _ _ _ ?_
            conv => whnf
            refine ⟨fun _ => ?_, fun c => absurd (Int32.le_refl _) c⟩
            conv => whnf
            refine ⟨q, m, c, _, rfl, rfl, by omega, hm, (fm_k hf 3 rfl).trans hL.1, fun b hb => ⟨by rw [fm_d hf 1 rfl (by decide)]; exact hL.2.2.1 b hb, by have := (hB b hb).1; omega⟩, hF1.1, ?_⟩
            conv => whnf
            refine ⟨rfl, rfl, fun σ2 hf2 h52 => ?_⟩
            have hfa := fm_fr hf hf2 (by decide) rfl
            have h := h σ2 (RM_junk hm (fm_tr (fm_rf _ _ _) hfa (by decide) (by decide)) (fun p hp => by rw [h52 p hp, hs16 p hp]) hR)
            have k1 : σ2 0 1 = nI st := (fm_k hfa 1 rfl).trans hD.2.1
            have k2 : σ2 0 2 = nI mn := (fm_k hfa 2 rfl).trans hD.2.2.1
            conv => whnf
            rw [hw0]
            refine ⟨fun q0 => ?_, fun q0 => ?_⟩
            · conv => whnf
              rw [hw1]
              refine ⟨fun q1 => ?_, fun q1 => ?_⟩
              · rw [if_neg q0, if_neg q1] at h
                conv => whnf
                rw [k2, nI_d (by omega) hp.2 (by omega)]
                exact ⟨nI_ne0 hp.2 (by omega), h⟩
              · rw [if_neg q0, if_pos q1] at h
                conv => whnf
                rw [k1, nI_d (by omega) hp.1 (by omega)]
                exact ⟨nI_ne0 hp.1 (by omega), h⟩
            · rw [if_pos q0] at h
              exact h
          | succ kk ih =>
            intro i u σ1 hi hu hf hs16 hF1
            subst hu
            obtain ⟨f1, f2⟩ := sw_yrs_facts (cn := cn) (st := st) (mn := mn) (c := c) (k := k) hR0 hrn he hFk i
            have hD1 := rmD_junk (fm_tr (fm_rf _ _ _) hf (by decide) (by decide)) hD
            refine hw 60 _ _ _ _ _ ?_
            conv => whnf
            refine ⟨fun c => absurd c (nI_ge (by omega) (by omega)), fun _ => ?_⟩
            conv => whnf
            refine ⟨m, cn, c, e, k, sw_yrs (cn, st, mn, m, c, e, k, R, rn) i F, R, rn, rfl, rfl, hD1.1, ⟨hm, hcn, hB⟩, hF1, fun b hb => ⟨(f1 b hb).1, by have := f1 b hb; have := he b hb; omega, by have := (f1 b hb).2.2; omega⟩, hR0, hR8, hD1.2.2.2.1, fun t ht => ⟨hD1.2.2.2.2 t ht, hrn t ht⟩, by omega, fun σ2 hf2 hF2 => ?_⟩
            conv => whnf
            exact ih (i + 1) _ σ2 (by omega) (nI_1 i) (fm_fr hf hf2 (by decide) rfl) (fun p hp => by rw [am_frd hf2 16 rfl]; exact hs16 p hp) hF2
        refine hw 60 _ _ _ _ _ ?_
        conv => whnf
        refine ⟨cn, nI q, rfl, rfl, by omega, hL.2.1, ?_⟩
        rw [hx]
        conv => whnf
        refine ⟨fun _ => ?_, fun c => absurd c sw_t0⟩
        conv => whnf
        refine ⟨_, _, _, (nI n).toInt, ((0 : Nat) : Int), 60, rfl, Int32.toInt_toInt64 _, rfl, rfl, ?_⟩
        rw [sw_isIx (nI n) 0 61 (hi := 60) rfl, hyx]
        conv => whnf
        refine ⟨fun c => absurd c sw_t0, fun _ => ?_⟩
        conv => whnf
        refine ⟨_, _, _, (nI w).toInt, ((0 : Nat) : Int), 2, rfl, Int32.toInt_toInt64 _, rfl, rfl, ?_⟩
        rw [sw_isIx (nI w) 0 3 (hi := 2) rfl, hzx]
        conv => whnf
        refine ⟨fun _ => ?_, fun c => absurd c sw_t0⟩
        conv => whnf
        refine ⟨rfl, rfl, fun σ1 hf1 h16 => ?_⟩
        conv => whnf
        exact loop n 0 0 σ1 (Nat.zero_add _) rfl (fm_fr (fm_rf _ _ _) hf1 (by decide) rfl) h16 (sw_FM_fr (am_frd hf1 5 rfl) hF)
theorem ct_mvotes (l : Launch) (A : sw_A) (hA : okA A) (x : Int32) : am_Ct l 2 yX7_votes cX7_votes 4 (some .int) (trM [.ref 0, .int x] A (st_votes A x)) := by
  refine am_ct tbX7_votes (am_G [tr_misCounty]) (by decide +kernel) (by simp) rfl dtX7_votes rfl ckX7_votes lkX7_votes (am_cokF [(2, some (.invokevirtual 250), 0, 2, 7, 0)] rfl (List.forall_mem_cons.mpr ⟨⟨1, _, _, _, _, by decide, (ct_misCounty l), lnX7_250⟩, fun _ h => absurd h List.not_mem_nil⟩)) ?_
  intro as L σ post h
  obtain ⟨rfl, rfl, hR, h⟩ := h
  refine ⟨by simp [am_lv0], fun WW hw => ?_⟩
  obtain ⟨T, ⟨cn, st, mn, m, c, e, k, R, rn⟩, F, sd, U, I, E1, E2, E3⟩ := A
  obtain ⟨hT, hD, hF, -⟩ := id hR
  have hL := hD.1
  obtain ⟨-, -, ⟨hcn, hm, -, hpos, hst, hmn, hB, -⟩, -⟩ := hA
  have e1 := hL.1
  cases hx : sw_ix x 0 cn with
  | none =>
    refine hw 60 _ _ _ _ _ ?_
    conv => whnf
    refine ⟨cn, x, rfl, rfl, by omega, hL.2.1, ?_⟩
    simp only [st_votes, hx] at h
    rw [hx]
    conv => whnf
    exact ⟨fun c => absurd rfl c, fun _ => h σ hR⟩
  | some q =>
    obtain ⟨-, hq, rfl⟩ := sw_ix_some hx
    simp only [st_votes, hx] at h
    have loop : ∀ d i, d + i = m → WW 11 [some (.ref 0), some (.int (nI q)), some (.int (nI (sw_cs F.2.1 c q i))), some (.int (nI i))] [] LM σ := by
      intro d
      induction d with
      | zero =>
        intro i hi
        refine hw 60 _ _ _ _ _ ?_
        conv => whnf
        rw [e1]
        have c := nI_le' (a := m) (b := i) (by omega) (by omega)
        refine ⟨fun _ => ?_, fun q => absurd (c.2 (by omega)) q⟩
        conv => whnf
        have hi : i = m := by omega
        subst hi; exact h σ hR
      | succ d ih =>
        intro i hi
        have him : i < m := by omega
        have v1 : vp_in (nI i) 8 := vp_j (by omega) (by decide)
        have v2 : vp_in (8 + nI i) 27 := by rw [nI_8]; exact vp_j (by omega) (by decide)
        have hcl : (nI i).toNatClampNeg = i := nI_cl (by omega)
        have hc8 : (8 + nI i).toNatClampNeg = 8 + i := by rw [nI_8]; exact nI_cl (by omega)
        have a2 := (hB i him).1
        have ih' := ih (i + 1) (by omega)
        rw [sw_cs] at ih'
        refine hw 60 _ _ _ _ _ ?_
        conv => whnf
        rw [e1]
        have cm := nI_le' (a := m) (b := i) (by omega) (by omega)
        refine ⟨fun q => absurd (cm.1 q) (by omega), fun _ => ?_⟩
        repeat ((conv => whnf); refine And.intro ?_ ?_; first | with_reducible assumption | decide)
        conv => whnf
        rw [hcl, hL.2.2.1 i him, nI_eq' (by omega) (by omega)]
        refine ⟨fun cc => ?_, fun cc => ?_⟩
        · rw [if_neg cc] at ih'
          conv => whnf
          rw [show nI (sw_cs F.2.1 c q i) + 0 = nI (sw_cs F.2.1 c q i + 0) from nI_add _ 0, nI_1]
          exact ih'
        · rw [if_pos cc] at ih'
          repeat ((conv => whnf); refine And.intro ?_ ?_; first | with_reducible assumption | decide)
          conv => whnf
          rw [hc8, hF.2.1 i him, nI_add, nI_1]
          exact ih'
    refine hw 60 _ _ _ _ _ ?_
    conv => whnf
    refine ⟨cn, nI q, rfl, rfl, by omega, hL.2.1, ?_⟩
    rw [hx]
    conv => whnf
    refine ⟨fun _ => ?_, fun c => absurd c sw_t0⟩
    conv => whnf
    exact loop m 0 (by omega)
theorem ct_mcounters (l : Launch) (A : sw_A) (hA : okA A) (x : Int32) : am_Ct l 2 yX7_counters cX7_counters 6 (some .int) (trM [.ref 0, .int x] A (st_counters A x)) := by
  refine am_ct tbX7_counters (am_G [tr_misCounty]) (by decide +kernel) (by simp) rfl dtX7_counters rfl ckX7_counters lkX7_counters (am_cokF [(2, some (.invokevirtual 250), 0, 2, 7, 0)] rfl (List.forall_mem_cons.mpr ⟨⟨1, _, _, _, _, by decide, (ct_misCounty l), lnX7_250⟩, fun _ h => absurd h List.not_mem_nil⟩)) ?_
  intro as L σ post h
  obtain ⟨rfl, rfl, hR, h⟩ := h
  refine ⟨by simp [am_lv0], fun WW hw => ?_⟩
  obtain ⟨T, ⟨cn, st, mn, m, c, e, k, R, rn⟩, F, sd, U, I, E1, E2, E3⟩ := A
  obtain ⟨hT, hD, hF, -⟩ := id hR
  have hL := hD.1
  obtain ⟨-, -, ⟨hcn, hm, -, hpos, hst, hmn, hB, -⟩, ⟨hFk, -⟩, -⟩ := hA
  have e1 := hL.1
  cases hx : sw_ix x 0 cn with
  | none =>
    refine hw 60 _ _ _ _ _ ?_
    conv => whnf
    refine ⟨cn, x, rfl, rfl, by omega, hL.2.1, ?_⟩
    simp only [st_counters, hx] at h
    rw [hx]
    conv => whnf
    exact ⟨fun c => absurd rfl c, fun _ => h σ hR⟩
  | some q =>
    obtain ⟨-, hq, rfl⟩ := sw_ix_some hx
    simp only [st_counters, hx] at h
    have loop : ∀ d i, d + i = m → WW 11 [some (.ref 0), some (.int (nI q)), some (.int (nI (sw_cs (fun b => sw_cd (F.1 b)) c q i))), some (.int (nI i))] [] LM σ := by
      intro d
      induction d with
      | zero =>
        intro i hi
        refine hw 60 _ _ _ _ _ ?_
        conv => whnf
        rw [e1]
        have c := nI_le' (a := m) (b := i) (by omega) (by omega)
        refine ⟨fun _ => ?_, fun q => absurd (c.2 (by omega)) q⟩
        conv => whnf
        have hi : i = m := by omega
        subst hi; exact h σ hR
      | succ d ih =>
        intro i hi
        have him : i < m := by omega
        have v1 : vp_in (nI i) 8 := vp_j (by omega) (by decide)
        have v2 : vp_in (nI i) 27 := vp_j (by omega) (by decide)
        have hcl : (nI i).toNatClampNeg = i := nI_cl (by omega)
        have a2 := (hB i him).1
        have a3 := (hB i him).2.1
        have a4 := (hFk i him).1
        have g1 := hF.1 i him
        have ih' := ih (i + 1) (by omega)
        rw [sw_cs] at ih'
        have fin : ∀ (s : Nat) (v : Int32), v = nI (if c i = q then sw_cd (F.1 i) else 0) → WW 11 [some (.ref 0), some (.int (nI q)), some (.int (nI (sw_cs (fun b => sw_cd (F.1 b)) c q i) + v)), some (.int (nI i + 1))] [] LM σ := by
          intro s v hv
          rw [hv, nI_add, nI_1]; exact ih'
        have n1 : nI (F.1 i) ≤ 1 ↔ F.1 i ≤ 1 := nI_le' (b := 1) (by omega) (by decide)
        have n0 : nI (F.1 i) ≤ 0 ↔ F.1 i ≤ 0 := nI_le' (b := 0) (by omega) (by decide)
        refine hw 60 _ _ _ _ _ ?_
        conv => whnf
        rw [e1]
        have cm := nI_le' (a := m) (b := i) (by omega) (by omega)
        refine ⟨fun q => absurd (cm.1 q) (by omega), fun _ => ?_⟩
        repeat ((conv => whnf); refine And.intro ?_ ?_; first | with_reducible assumption | decide)
        conv => whnf
        rw [hcl, g1, n1]
        refine ⟨fun c1 => ?_, fun c1 => ?_⟩
        · repeat ((conv => whnf); refine And.intro ?_ ?_; first | with_reducible assumption | decide)
          conv => whnf
          rw [hcl, g1, n0]
          refine ⟨fun c0 => ?_, fun c0 => ?_⟩
          · repeat ((conv => whnf); refine And.intro ?_ ?_; first | with_reducible assumption | decide)
            conv => whnf
            rw [hcl, hL.2.2.1 i him, nI_eq' (by omega) (by omega)]
            have hz : sw_cd (F.1 i) = 0 := if_pos (by omega)
            refine ⟨fun cc => ?_, fun cc => ?_⟩
            · conv => whnf
              exact fin 0 _ (by rw [if_neg cc]; rfl)
            · conv => whnf
              exact fin 0 _ (by rw [if_pos cc, hz]; rfl)
          · repeat ((conv => whnf); refine And.intro ?_ ?_; first | with_reducible assumption | decide)
            conv => whnf
            rw [hcl, hL.2.2.1 i him, nI_eq' (by omega) (by omega)]
            have hz : sw_cd (F.1 i) = 2 := (if_neg (by omega)).trans (if_pos (by omega))
            refine ⟨fun cc => ?_, fun cc => ?_⟩
            · conv => whnf
              exact fin 0 _ (by rw [if_neg cc]; rfl)
            · conv => whnf
              exact fin 0 _ (by rw [if_pos cc, hz, g1, show F.1 i = 1 by omega]; rfl)
        · repeat ((conv => whnf); refine And.intro ?_ ?_; first | with_reducible assumption | decide)
          conv => whnf
          rw [hcl, g1, n0]
          refine ⟨fun c0 => by omega, fun c0 => ?_⟩
          · repeat ((conv => whnf); refine And.intro ?_ ?_; first | with_reducible assumption | decide)
            conv => whnf
            rw [hcl, hL.2.2.1 i him, nI_eq' (by omega) (by omega)]
            have hz : sw_cd (F.1 i) = 1 := (if_neg (by omega)).trans (if_neg (by omega))
            refine ⟨fun cc => ?_, fun cc => ?_⟩
            · conv => whnf
              exact fin 0 _ (by rw [if_neg cc]; rfl)
            · conv => whnf
              exact fin 0 _ (by rw [if_pos cc, hz, g1, nI_1, pk_sub (by omega), show F.1 i + 1 - F.1 i = 1 by omega])
    refine hw 60 _ _ _ _ _ ?_
    conv => whnf
    refine ⟨cn, nI q, rfl, rfl, by omega, hL.2.1, ?_⟩
    rw [hx]
    conv => whnf
    refine ⟨fun _ => ?_, fun c => absurd c sw_t0⟩
    conv => whnf
    exact loop m 0 (by omega)
