/-! THE CLASS: counters, souls, judge, count -/
theorem ct_ccounters (l : Launch) (A : sw_A) (hA : okA A) (x : Int32) : am_Ct l 1 yX6_counters cX6_counters 6 (some .int) (trC [.ref 0, .int x] A (st_counters A x)) := by
  refine am_ct tbX6_counters (am_G [tr_hasCounty]) (by decide +kernel) (by simp) rfl dtX6_counters rfl ckX6_counters lkX6_counters (am_cokF [(5, some (.invokevirtual 201), 0, 2, 3, 0)] rfl (List.forall_mem_cons.mpr ⟨⟨0, _, _, _, _, by decide, (ct_hasCounty l), lnX6_201⟩, fun _ h => absurd h List.not_mem_nil⟩)) ?_
  intro as L σ post h
  obtain ⟨rfl, rfl, hR, h⟩ := h
  refine ⟨by simp [am_lv0], fun WW hw => ?_⟩
  obtain ⟨T, ⟨cn, st, mn, m, c, e, k, R, rn⟩, F, sd, U, I, E1, E2, E3⟩ := A
  obtain ⟨hT, ⟨hL, d6, d7, d8⟩, hF, -⟩ := id hR
  obtain ⟨-, -, ⟨hcn, hm, -, -, -, -, hB, -⟩, ⟨hFk, -⟩, -⟩ := hA
  cases hx : sw_ix x 0 cn with
  | none =>
    refine hw 60 _ _ _ _ _ ?_
    conv => whnf
    refine ⟨x, cn, rfl, rfl, by omega, hL.2.1, ?_⟩
    simp only [st_counters, hx] at h
    rw [hx]
    conv => whnf
    exact ⟨fun c => absurd rfl c, fun _ => h σ hR⟩
  | some q =>
    obtain ⟨-, hq, rfl⟩ := sw_ix_some hx
    simp only [st_counters, hx] at h
    have loop : ∀ (kk i a : Nat) (z u v : Int32), i + kk = m → z = nI i → u = nI a → v = nI (a + sw_cs (fun b => sw_cd (F.1 b)) c q i) → WW 14 [some (.ref 0), some (.int (nI q)), some (.int u), some (.int v), some (.int z)] [] LC σ := by
      intro kk
      induction kk with
      | zero =>
        intro i a z u v hi hz hu hv
        have ei : i = m := by omega
        subst ei; subst hz; subst hu; subst hv
        refine hw 60 _ _ _ _ _ ?_
        conv => whnf
        rw [hL.1]
        refine ⟨fun _ => ?_, fun c => absurd (Int32.le_refl _) c⟩
        conv => whnf
        rw [pk_sub (Nat.le_add_right _ _), Nat.add_sub_cancel_left]
        exact h σ hR
      | succ kk ih =>
        intro i a z u v hi hz hu hv
        subst hz; subst hu; subst hv
        have him : i < m := by omega
        have hin : vp_in (nI i) 8 := vp_j (by omega) (by decide)
        have hcl : (nI i).toNatClampNeg = i := nI_cl (by omega)
        have e1 := hF.1 i him
        have e2 := hL.2.2.1 i him
        obtain ⟨bc, be, -⟩ := hB i him
        have bn := (hFk i him).1
        have ih' := fun a u v => ih (i + 1) a (nI i + 1) u v (by omega) (nI_1 i)
        rw [sw_cs] at ih'
        refine hw 60 _ _ _ _ _ ?_
        conv => whnf
        rw [hL.1]
        refine ⟨fun c => absurd c (nI_ge him (by omega)), fun _ => ?_⟩
        repeat ((conv => whnf); refine And.intro ?_ ?_; first | with_reducible assumption | decide)
        conv => whnf
        rw [hcl, e1, e2, nI_eq' (by omega) (by omega)]
        refine ⟨fun cc => ?_, fun cc => ?_⟩
        · rw [if_neg cc] at ih'
          exact ih' _ _ _ rfl rfl
        · rw [if_pos cc] at ih'
          conv => whnf
          have h0 : nI (F.1 i) ≤ 0 ↔ F.1 i ≤ 0 := nI_le' (b := 0) (by omega) (by decide)
          rw [h0]
          refine ⟨fun c0 => ?_, fun c0 => ?_⟩
          · refine ih' _ _ _ rfl ?_
            rw [show sw_cd (F.1 i) = 0 from if_pos (by omega), Nat.add_zero]
          · conv => whnf
            have h2 : nI (F.1 i) < 2 ↔ F.1 i < 2 := nI_lt' (b := 2) (by omega) (by decide)
            rw [h2]
            refine ⟨fun c2 => ?_, fun c2 => ?_⟩
            · conv => whnf
              refine ih' a _ _ (Int32.add_zero _) ?_
              rw [nI_1, nI_add, show sw_cd (F.1 i) = 2 by unfold sw_cd; rw [if_neg (by omega), if_pos (by omega)]]
              congr 1; omega
            · conv => whnf
              refine ih' (a + F.1 i) _ _ (nI_add _ _) ?_
              rw [nI_1, nI_add, show sw_cd (F.1 i) = 1 by unfold sw_cd; rw [if_neg (by omega), if_neg (by omega)]]
              congr 1; omega
    refine hw 60 _ _ _ _ _ ?_
    conv => whnf
    refine ⟨nI q, cn, rfl, rfl, by omega, hL.2.1, ?_⟩
    rw [hx]
    conv => whnf
    refine ⟨fun _ => ?_, fun c => absurd c sw_t0⟩
    conv => whnf
    exact loop m 0 0 0 0 0 (Nat.zero_add _) rfl rfl rfl
def tr_soulsOf : am_T := fun as L σ post => ∃ (p a q m : Nat) (c n : Nat → Nat), as = [.ref 0, .ref p, .int (nI q)] ∧ L = LC ∧ ((p = 17 ∧ a = 18) ∨ (p = 22 ∧ a = 23)) ∧ q < 1000 ∧ m ≤ 8 ∧ σ 3 3 = nI m ∧ (∀ b, b < m → σ 4 b = nI (c b) ∧ c b < 1000) ∧ (∀ b, b < m → σ a b = nI (n b)) ∧ post (some (.int (nI (sw_cs n c q m)))) L σ
theorem ct_soulsOf (l : Launch) : am_Ct l 1 yX6_soulsOf cX6_soulsOf 3 (some .int) tr_soulsOf := by
  refine am_ct tbX6_soulsOf (am_G [tr_barnsOf, tr_sumOver]) (by decide +kernel) (by simp) rfl dtX6_soulsOf rfl ckX6_soulsOf lkX6_soulsOf (am_cokF [(9, some (.invokevirtual 220), 0, 2, 3, 0), (12, some (.invokestatic 137), 1, 2, 0, 0)] rfl (List.forall_mem_cons.mpr ⟨⟨0, _, _, _, _, by decide, (ct_barnsOf l), lnX6_220⟩, List.forall_mem_cons.mpr ⟨Or.inr (Or.inr (Or.inr ⟨0, _, _, _, _, by decide, (ct_sumOver l), lnX6_137⟩)), fun _ h => absurd h List.not_mem_nil⟩⟩)) ?_
  intro as L σ post h
  obtain ⟨p, a, q, m, c, n, rfl, rfl, hp, hq, hm, e1, e2, e3, h⟩ := h
  refine ⟨by simp [am_lv0], fun WW hw => hw 60 _ _ _ _ _ ?_⟩
  rcases hp with ⟨rfl, rfl⟩ | ⟨rfl, rfl⟩
  all_goals
    conv => whnf
    refine ⟨q, m, c, rfl, rfl, hm, hq, e1, e2, ?_⟩
    conv => whnf
    refine ⟨_, sw_own m c q, m, n, rfl, rfl, by decide, hm, sw_set_lt _ _, e3, ?_⟩
    conv => whnf
    rw [sw_sm_own m (Nat.le_refl m)]
    exact h
theorem ct_cjudge (l : Launch) (A : sw_A) (hA : okA A) : am_Ct l 2 yX6_judge cX6_judge 2 (some .int) (trC [.ref 0] A (st_judge A)) := by
  refine am_ct tbX6_judge (am_G [tr_soulsOf]) (by decide +kernel) (by simp) rfl dtX6_judge rfl ckX6_judge lkX6_judge (am_cokF [(27, some (.invokevirtual 210), 0, 3, 6, 0)] rfl (List.forall_mem_cons.mpr ⟨⟨1, _, _, _, _, by decide, (ct_soulsOf l), lnX6_210⟩, fun _ h => absurd h List.not_mem_nil⟩)) ?_
  intro as L σ post h
  obtain ⟨rfl, rfl, hR, h⟩ := h
  refine ⟨by simp [am_lv0], fun WW hw => ?_⟩
  obtain ⟨T, ⟨cn, st, mn, m, c, e, k, R, rn⟩, F, sd, U, I, E1, E2, ⟨ln, w, v⟩⟩ := A
  obtain ⟨hT, ⟨hL, d6, d7, d8⟩, hF, -, -, -, -, -, h3⟩ := id hR
  obtain ⟨-, -, ⟨hcn, hm, -, -, -, -, hB, -⟩, ⟨hFk, -⟩, -, -, -, -, -, -, ⟨hl15, hE⟩⟩ := hA
  obtain ⟨g0, g1, g2, g3⟩ := h3
  dsimp only at hl15 hE g1 g2 g3
  have hcc : ∀ b, b < m → σ 4 b = nI (c b) ∧ c b < 1000 := fun b hb => ⟨hL.2.2.1 b hb, by have := (hB b hb).1; omega⟩
  have hsb : ∀ q, sw_cs F.1 c q m ≤ m * 40 := fun q => sw_cs_le m (fun b hb => by have := hFk b hb; have := (hB b hb).2.1; omega)
  have loop : ∀ (kk i : Nat) (z : Int32), i + kk = ln → z = nI i → sw_jd (cn, st, mn, m, c, e, k, R, rn) F (ln, w, v) kk i = sw_jd (cn, st, mn, m, c, e, k, R, rn) F (ln, w, v) ln 0 → WW 3 [some (.ref 0), some (.int z)] [] LC σ := by
    intro kk
    induction kk with
    | zero =>
      intro i z hi hz ht
      have ei : i = ln := by omega
      subst ei; subst hz
      refine hw 60 _ _ _ _ _ ?_
      conv => whnf
      rw [g1]
      refine ⟨fun _ => ?_, fun c => absurd (Int32.le_refl _) c⟩
      simp only [st_judge, ← ht, sw_jd] at h
      exact h σ hR
    | succ kk ih =>
      intro i z hi hz ht
      subst hz
      have hil : i < ln := by omega
      obtain ⟨j1, j2⟩ := g3 i hil
      obtain ⟨j3, j4⟩ := hE i hil
      have hin : vp_in (nI i) 15 := vp_j (by omega) (by decide)
      have hcl : (nI i).toNatClampNeg = i := nI_cl (by omega)
      have hs := hsb (w i)
      rw [sw_jd] at ht
      dsimp only at ht
      refine hw 60 _ _ _ _ _ ?_
      conv => whnf
      rw [g1]
      refine ⟨fun c => absurd c (nI_ge hil (by omega)), fun _ => ?_⟩
      repeat ((conv => whnf); refine And.intro ?_ ?_; first | with_reducible assumption | decide)
      conv => whnf
      rw [hcl, j1]
      refine ⟨17, 18, w i, m, c, F.1, rfl, rfl, by decide, by omega, hm, hL.1, hcc, hF.1, ?_⟩
      repeat ((conv => whnf); refine And.intro ?_ ?_; first | with_reducible assumption | decide)
      conv => whnf
      rw [hcl, j2, nI_eq' (by omega) (by omega)]
      refine ⟨fun cc => ?_, fun cc => ?_⟩
      · rw [if_pos cc] at ht
        exact ih (i + 1) _ (by omega) (nI_1 i) ht
      · rw [if_neg cc] at ht
        simp only [st_judge, ← ht] at h
        exact h σ hR
  refine hw 60 _ _ _ _ _ ?_
  conv => whnf
  exact loop ln 0 0 (Nat.zero_add _) rfl rfl
def tr_passTrial : am_T := fun as L σ post => ∃ (m cn : Nat) (co e k : Nat → Nat) (R : Nat) (rn : Nat → Nat) (F : sw_F), as = [.ref 0] ∧ L = LC ∧ sw_LC σ m cn co e k ∧ sw_LB m cn co e k ∧ rcR R rn σ ∧ 0 < R ∧ R ≤ 8 ∧ (∀ t, t < R → rn t ≤ 9) ∧ sw_FC σ 22 23 24 25 m F ∧ sw_FB m e F ∧ F.2.2.2.2.2 < 100000 ∧ ∀ σ', am_fr [22, 23, 24, 26] σ σ' → sw_FC σ' 22 23 24 25 m (sw_yr m cn co e k (rn (F.2.2.2.2.2 % R)) F) → post none L σ'
theorem ct_passTrial (l : Launch) : am_Ct l 2 yX6_passTrialYear cX6_passTrialYear 1 none tr_passTrial := by
  refine am_ct tbX6_passTrialYear (am_G [tr_rainOf, tr_passYear]) (by decide +kernel) (by simp) rfl dtX6_passTrialYear rfl ckX6_passTrialYear lkX6_passTrialYear (am_cokF [(19, some (.invokevirtual 123), 0, 2, 3, 0), (22, some (.invokevirtual 177), 1, 3, 1, 0)] rfl (List.forall_mem_cons.mpr ⟨⟨0, _, _, _, _, by decide, (ct_rainOf l), lnX6_123⟩, List.forall_mem_cons.mpr ⟨⟨1, _, _, _, _, by decide, (ct_passYear l), lnX6_177⟩, fun _ h => absurd h List.not_mem_nil⟩⟩)) ?_
  intro as L σ post h
  obtain ⟨m, cn, co, e, k, R, rn, F, rfl, rfl, hL, hB, hRR, hR0, hR8, hrn, hF, hFB, hy, h⟩ := h
  refine ⟨by simp [am_lv0], fun WW hw => hw 60 _ _ _ _ _ ?_⟩
  conv => whnf
  rw [hF.2.2.2.2.2]
  refine ⟨_, R, rn, rfl, rfl, hy, hR0, hR8, hRR, ?_⟩
  conv => whnf
  refine ⟨22, 23, 24, 25, 26, m, cn, co, e, k, F, _, rfl, rfl, Or.inr ⟨rfl, rfl, rfl, rfl, rfl⟩, hL, hB, hrn _ (Nat.mod_lt _ hR0), hF, hFB, fun σ' h1 h2 => ?_⟩
  conv => whnf
  exact h σ' h1 h2
def tr_trialSeats : am_T := fun as L σ post => ∃ (q m st : Nat) (c n : Nat → Nat), as = [.ref 0, .int (nI q)] ∧ L = LC ∧ q < 1000 ∧ m ≤ 8 ∧ 0 < st ∧ st < 1000 ∧ σ 3 3 = nI m ∧ σ 3 1 = nI st ∧ (∀ b, b < m → σ 4 b = nI (c b) ∧ c b < 1000) ∧ (∀ b, b < m → σ 23 b = nI (n b) ∧ n b ≤ 40) ∧ post (some (.int (nI (sw_cs n c q m / st)))) L σ
theorem ct_trialSeats (l : Launch) : am_Ct l 2 yX6_trialSeats cX6_trialSeats 2 (some .int) tr_trialSeats := by
  refine am_ct tbX6_trialSeats (am_G [tr_soulsOf, tr_seatsFor]) (by decide +kernel) (by simp) rfl dtX6_trialSeats rfl ckX6_trialSeats lkX6_trialSeats (am_cokF [(10, some (.invokevirtual 210), 0, 3, 6, 0), (13, some (.invokevirtual 214), 1, 2, 3, 0)] rfl (List.forall_mem_cons.mpr ⟨⟨1, _, _, _, _, by decide, (ct_soulsOf l), lnX6_210⟩, List.forall_mem_cons.mpr ⟨⟨0, _, _, _, _, by decide, (ct_seatsFor l), lnX6_214⟩, fun _ h => absurd h List.not_mem_nil⟩⟩)) ?_
  intro as L σ post h
  obtain ⟨q, m, st, c, n, rfl, rfl, hq, hm, hst, hst2, e1, e2, e3, e4, h⟩ := h
  refine ⟨by simp [am_lv0], fun WW hw => hw 60 _ _ _ _ _ ?_⟩
  have hs : sw_cs n c q m ≤ m * 40 := sw_cs_le m (fun b hb => (e4 b hb).2)
  conv => whnf
  refine ⟨22, 23, q, m, c, n, rfl, rfl, by decide, hq, hm, e1, e3, fun b hb => (e4 b hb).1, ?_⟩
  conv => whnf
  refine ⟨_, st, rfl, rfl, by omega, hst, hst2, e2, ?_⟩
  conv => whnf
  exact h
set_option maxHeartbeats 2000000 in
theorem ct_ccount (l : Launch) (A : sw_A) (hA : okA A) (x y z : Int32) : am_Ct l 3 yX6_count cX6_count 5 (some .int) (trC [.ref 0, .int x, .int y, .int z] A (st_count A x y z)) := by
  refine am_ct tbX6_count (am_G [tr_hasCounty, tr_copyFrom, tr_passTrial, tr_soulsOf, tr_seatsFor, tr_menFor]) (by decide +kernel) (by simp) rfl dtX6_count rfl ckX6_count lkX6_count (am_cokF [(5, some (.invokevirtual 201), 0, 2, 3, 0), (44, some (.invokevirtual 204), 1, 2, 1, 0), (57, some (.invokevirtual 207), 2, 1, 6, 0), (72, some (.invokevirtual 210), 3, 3, 6, 0), (113, some (.invokevirtual 214), 4, 2, 3, 0), (123, some (.invokevirtual 217), 5, 2, 3, 0)] rfl (List.forall_mem_cons.mpr ⟨⟨0, _, _, _, _, by decide, (ct_hasCounty l), lnX6_201⟩, List.forall_mem_cons.mpr ⟨⟨0, _, _, _, _, by decide, (ct_copyFrom l), lnX6_204⟩, List.forall_mem_cons.mpr ⟨⟨2, _, _, _, _, by decide, (ct_passTrial l), lnX6_207⟩, List.forall_mem_cons.mpr ⟨⟨1, _, _, _, _, by decide, (ct_soulsOf l), lnX6_210⟩, List.forall_mem_cons.mpr ⟨⟨0, _, _, _, _, by decide, (ct_seatsFor l), lnX6_214⟩, List.forall_mem_cons.mpr ⟨⟨0, _, _, _, _, by decide, (ct_menFor l), lnX6_217⟩, fun _ h => absurd h List.not_mem_nil⟩⟩⟩⟩⟩⟩)) ?_
  intro as L σ post h
  obtain ⟨rfl, rfl, hR, h⟩ := h
  refine ⟨by simp [am_lv0], fun WW hw => ?_⟩
  obtain ⟨T, ⟨cn, st, mn, m, c, e, k, R, rn⟩, F, sd, U, I, E1, E2, E3⟩ := A
  obtain ⟨hT, ⟨hL, d6, d7, d8⟩, hF, -⟩ := id hR
  obtain ⟨-, -, ⟨hcn, hm, -, hpos, hst, hmn, hB, hR0, hR8, hrn⟩, ⟨hFk, hy⟩, -⟩ := hA
  have he : ∀ b, b < m → e b ≤ 40 := fun b hb => (hB b hb).2.1
  have hcc : ∀ b, b < m → σ 4 b = nI (c b) ∧ c b < 1000 := fun b hb => ⟨hL.2.2.1 b hb, by have := (hB b hb).1; omega⟩
  have c0 : y < 0 ↔ y.toInt < 0 := sw_xlt 0 (by decide)
  have c60 : 60 < y ↔ 60 < y.toInt := sw_ltx 60 (by decide)
  have z0 : z < 0 ↔ z.toInt < 0 := sw_xlt 0 (by decide)
  have z2 : z ≤ 2 ↔ z.toInt ≤ 2 := sw_xle 2 (by decide)
  cases hx : sw_ix x 0 cn with
  | none =>
    refine hw 60 _ _ _ _ _ ?_
    conv => whnf
    refine ⟨x, cn, rfl, rfl, by omega, hL.2.1, ?_⟩
    simp only [st_count, hx] at h
    rw [hx]
    conv => whnf
    exact ⟨fun c => absurd rfl c, fun _ => h σ hR⟩
  | some q =>
    obtain ⟨-, hq, rfl⟩ := sw_ix_some hx
    cases hyx : sw_ix y 0 61 with
    | none =>
      have hn := sw_ix_none hyx
      simp only [st_count, hx, hyx] at h
      refine hw 60 _ _ _ _ _ ?_
      conv => whnf
      refine ⟨nI q, cn, rfl, rfl, by omega, hL.2.1, ?_⟩
      rw [hx]
      conv => whnf
      refine ⟨fun _ => ?_, fun c => absurd c sw_t0⟩
      conv => whnf
      rw [c0]
      refine ⟨fun _ => h σ hR, fun c => ?_⟩
      conv => whnf
      rw [c60]
      exact ⟨fun _ => h σ hR, fun c => by omega⟩
    | some n =>
      obtain ⟨-, hn, rfl⟩ := sw_ix_some hyx
      rw [nI_toInt (by omega)] at c0 c60
      cases hzx : sw_ix z 0 3 with
      | none =>
        have hz := sw_ix_none hzx
        simp only [st_count, hx, hyx, hzx] at h
        refine hw 60 _ _ _ _ _ ?_
        conv => whnf
        refine ⟨nI q, cn, rfl, rfl, by omega, hL.2.1, ?_⟩
        rw [hx]
        conv => whnf
        refine ⟨fun _ => ?_, fun c => absurd c sw_t0⟩
        conv => whnf
        rw [c0]
        refine ⟨fun c => by omega, fun c => ?_⟩
        conv => whnf
        rw [c60]
        refine ⟨fun c => by omega, fun c => ?_⟩
        conv => whnf
        rw [z0]
        refine ⟨fun _ => h σ hR, fun c => ?_⟩
        conv => whnf
        rw [z2]
        exact ⟨fun c => by omega, fun _ => h σ hR⟩
      | some w =>
        obtain ⟨-, hw3, rfl⟩ := sw_ix_some hzx
        rw [nI_toInt (by omega)] at z0 z2
        simp only [st_count, hx, hyx, hzx] at h
        have loop : ∀ (kk i : Nat) (u : Int32) (σ1 : am_M), i + kk = n → u = nI i → am_fr [22, 23, 24, 25, 26] σ σ1 → sw_FC σ1 22 23 24 25 m (sw_yrs (cn, st, mn, m, c, e, k, R, rn) i F) → WW 27 [some (.ref 0), some (.int (nI q)), some (.int (nI n)), some (.int (nI w)), some (.int u)] [] LC σ1 := by
          intro kk
          induction kk with
          | zero =>
            intro i u σ1 hi hu hf hF1
            have ei : i = n := by omega
            subst ei; subst hu
            have g3 := am_frd hf 3 rfl
            have g4 := am_frd hf 4 rfl
            have hR1 := RC_junk (am_fr_tr (am_fr_rf _ _) hf (by decide)) hR
            have h := h σ1 hR1
            obtain ⟨f1, -⟩ := sw_yrs_facts (cn := cn) (st := st) (mn := mn) (c := c) (k := k) hR0 hrn he hFk i
            have hs : sw_cs (sw_yrs (cn, st, mn, m, c, e, k, R, rn) i F).1 c q m ≤ m * 40 := sw_cs_le m (fun b hb => by have := (f1 b hb).1; have := he b hb; omega)
            refine hw 60 _ _ _ _ _ ?_
            conv => whnf
            refine ⟨fun _ => ?_, fun c => absurd (Int32.le_refl _) c⟩
            conv => whnf
            refine ⟨22, 23, q, m, c, _, rfl, rfl, by decide, by omega, hm, by rw [g3]; exact hL.1, by rw [g4]; exact hcc, hF1.1, ?_⟩
            conv => whnf
            rw [nI_toInt (by omega)]
            refine ⟨fun q0 => ?_, fun q0 => ⟨fun q1 => ?_, fun q1 => ?_⟩⟩
            · rw [if_pos (by omega)] at h
              exact h
            · rw [if_neg (by omega), if_pos (by omega)] at h
              conv => whnf
              refine ⟨_, st, rfl, rfl, by omega, (hpos (by omega)).1, by omega, by rw [g3]; exact d6, ?_⟩
              conv => whnf
              exact h
            · rw [if_neg (by omega), if_neg (by omega)] at h
              conv => whnf
              refine ⟨_, mn, rfl, rfl, by omega, (hpos (by omega)).2, by omega, by rw [g3]; exact d7, ?_⟩
              conv => whnf
              exact h
          | succ kk ih =>
            intro i u σ1 hi hu hf hF1
            subst hu
            obtain ⟨f1, f2⟩ := sw_yrs_facts (cn := cn) (st := st) (mn := mn) (c := c) (k := k) hR0 hrn he hFk i
            refine hw 60 _ _ _ _ _ ?_
            conv => whnf
            refine ⟨fun c => absurd c (nI_ge (by omega) (by omega)), fun _ => ?_⟩
            conv => whnf
            refine ⟨m, cn, c, e, k, R, rn, sw_yrs (cn, st, mn, m, c, e, k, R, rn) i F, rfl, rfl, ?_, ⟨hm, hcn, hB⟩, ?_, hR0, hR8, hrn, hF1, ?_, by omega, fun σ2 hf2 hF2 => ?_⟩
            · unfold sw_LC at hL ⊢; rw [am_frd hf 3 rfl, am_frd hf 4 rfl, am_frd hf 5 rfl, am_frd hf 8 rfl]; exact hL
            · unfold rcR at d8 ⊢; rw [am_frd hf 3 rfl, am_frd hf 9 rfl]; exact d8
            · exact fun b hb => ⟨(f1 b hb).1, by have := f1 b hb; have := he b hb; omega, by have := (f1 b hb).2.2; omega⟩
            · conv => whnf
              exact ih (i + 1) _ σ2 (by omega) (nI_1 i) (am_fr_tr hf hf2 (by decide)) hF2
        refine hw 60 _ _ _ _ _ ?_
        conv => whnf
        refine ⟨nI q, cn, rfl, rfl, by omega, hL.2.1, ?_⟩
        rw [hx]
        conv => whnf
        refine ⟨fun _ => ?_, fun c => absurd c sw_t0⟩
        conv => whnf
        rw [c0]
        refine ⟨fun c => by omega, fun c => ?_⟩
        conv => whnf
        rw [c60]
        refine ⟨fun c => by omega, fun c => ?_⟩
        conv => whnf
        rw [z0]
        refine ⟨fun c => by omega, fun c => ?_⟩
        conv => whnf
        rw [z2]
        refine ⟨fun c => ?_, fun c => by omega⟩
        conv => whnf
        refine ⟨m, F, rfl, rfl, hm, hF, fun σ1 hf hF1 => ?_⟩
        conv => whnf
        exact loop n 0 0 σ1 (Nat.zero_add _) rfl (am_fr_tr (am_fr_rf _ _) hf (by decide)) hF1
