/-! THE REFERENCE: leave -/
theorem sw_lvM {σ : am_M} {m : Nat} {F : sw_F} {O i : Nat} (hF : sw_FM σ m F) (hm : m ≤ 8) : am_fr [5] σ (am_up σ 5 (upd (σ 5) 24 (F.2.2.2.1 &&& (nI O ^^^ -1) ||| nI O &&& (nI i ^^^ -1)))) ∧ sw_FM (am_up σ 5 (upd (σ 5) 24 (F.2.2.2.1 &&& (nI O ^^^ -1) ||| nI O &&& (nI i ^^^ -1)))) m (sw_lvF F O i) := by
  obtain ⟨g1, g2, g3, g4, g5, g6⟩ := hF
  refine ⟨am_fr_up _ (am_fr_rf _ _) (by decide), fun j hj => ?_, fun j hj => ?_, fun j hj => ?_, ?_, ?_, ?_⟩
  all_goals rw [am_us]
  · rw [up_n _ _ _ _ (by omega)]; exact g1 j hj
  · rw [up_n _ _ _ _ (by omega)]; exact g2 j hj
  · rw [up_n _ _ _ _ (by omega)]; exact g3 j hj
  · rw [up_s]; rfl
  · rw [up_n _ _ _ _ (by omega)]; exact g5
  · rw [up_n _ _ _ _ (by omega)]; exact g6
set_option maxHeartbeats 4000000 in
theorem ct_mleave (l : Launch) (A : sw_A) (hA : okA A) (x y z : Int32) : am_Ct l 4 yX7_leave cX7_leave 8 (some .int) (trM [.ref 0, .int x, .int y, .int z] A (st_leave A x y z)) := by
  refine am_ct tbX7_leave (am_G [tr_misCounty, tr_min, tr_msave, tr_mofCounty, tr_mbits, tr_mpass, tr_msouls, tr_mputBack]) (by decide +kernel) (by simp) rfl dtX7_leave rfl ckX7_leave lkX7_leave (am_cokF [(2, some (.invokevirtual 250), 0, 2, 7, 0), (17, some (.invokestatic 99), 1, 3, 0, 0), (29, some (.invokestatic 99), 1, 3, 0, 0), (39, some (.invokevirtual 257), 2, 1, 7, 0), (44, some (.invokevirtual 266), 3, 2, 7, 0), (79, some (.invokestatic 269), 4, 1, 0, 0), (84, some (.invokestatic 269), 4, 1, 0, 0), (118, some (.invokevirtual 222), 5, 1, 7, 0), (123, some (.invokevirtual 260), 6, 2, 7, 0), (129, some (.invokevirtual 263), 7, 1, 7, 0)] rfl (List.forall_mem_cons.mpr ⟨⟨1, _, _, _, _, by decide, (ct_misCounty l), lnX7_250⟩, List.forall_mem_cons.mpr ⟨Or.inr (Or.inr (Or.inr ⟨0, _, _, _, _, by decide, (ct_min l), lnX7_99⟩)), List.forall_mem_cons.mpr ⟨Or.inr (Or.inr (Or.inr ⟨0, _, _, _, _, by decide, (ct_min l), lnX7_99⟩)), List.forall_mem_cons.mpr ⟨⟨0, _, _, _, _, by decide, (ct_msave l), lnX7_257⟩, List.forall_mem_cons.mpr ⟨⟨0, _, _, _, _, by decide, (ct_mofCounty l), lnX7_266⟩, List.forall_mem_cons.mpr ⟨Or.inr (Or.inr (Or.inr ⟨0, _, _, _, _, by decide, (ct_mbits l), lnX7_269⟩)), List.forall_mem_cons.mpr ⟨Or.inr (Or.inr (Or.inr ⟨0, _, _, _, _, by decide, (ct_mbits l), lnX7_269⟩)), List.forall_mem_cons.mpr ⟨⟨3, _, _, _, _, by decide, (ct_mpass l), lnX7_222⟩, List.forall_mem_cons.mpr ⟨⟨0, _, _, _, _, by decide, (ct_msouls l), lnX7_260⟩, List.forall_mem_cons.mpr ⟨⟨0, _, _, _, _, by decide, (ct_mputBack l), lnX7_263⟩, fun _ h => absurd h List.not_mem_nil⟩⟩⟩⟩⟩⟩⟩⟩⟩⟩)) ?_
  intro as L σ post h
  obtain ⟨rfl, rfl, hR, h⟩ := h
  refine ⟨by simp [am_lv0], fun WW hw => ?_⟩
  obtain ⟨T, ⟨cn, st, mn, m, c, e, k, R, rn⟩, F, sd, U, I, E1, E2, E3⟩ := A
  obtain ⟨hT, hD, hF, -⟩ := id hR
  have hL := hD.1
  obtain ⟨-, -, ⟨hcn, hm, -, hpos, hst, hmn, hB, hR0, hR8, hrn⟩, ⟨hFk, hy⟩, -⟩ := hA
  have he : ∀ b, b < m → e b ≤ 40 := fun b hb => (hB b hb).2.1
  have v24 : vp_in 24 27 := vp_j (j := 24) (by decide) (by decide)
  have c24 : (24 : Int32).toNatClampNeg = 24 := by decide
  cases hx : sw_ix x 0 cn with
  | none =>
    refine hw 60 _ _ _ _ _ ?_
    conv => whnf
    refine ⟨cn, x, rfl, rfl, by omega, hL.2.1, ?_⟩
    simp only [st_leave, hx] at h
    rw [hx]
    conv => whnf
    exact ⟨fun c => absurd rfl c, fun _ => h σ hR⟩
  | some q =>
    obtain ⟨-, hq, rfl⟩ := sw_ix_some hx
    cases hyx : sw_ix y 0 100 with
    | none =>
      simp only [st_leave, hx, hyx] at h
      refine hw 60 _ _ _ _ _ ?_
      conv => whnf
      refine ⟨cn, nI q, rfl, rfl, by omega, hL.2.1, ?_⟩
      rw [hx]
      conv => whnf
      refine ⟨fun _ => ?_, fun c => absurd c sw_t0⟩
      conv => whnf
      refine ⟨_, _, _, y.toInt, ((0 : Nat) : Int), 99, rfl, Int32.toInt_toInt64 y, rfl, rfl, ?_⟩
      rw [sw_isIx y 0 100 (hi := 99) rfl, hyx]
      conv => whnf
      exact ⟨fun _ => h σ hR, fun c => absurd rfl c⟩
    | some s =>
      obtain ⟨-, hs, rfl⟩ := sw_ix_some hyx
      cases hzx : sw_ix z 0 100 with
      | none =>
        simp only [st_leave, hx, hyx, hzx] at h
        refine hw 60 _ _ _ _ _ ?_
        conv => whnf
        refine ⟨cn, nI q, rfl, rfl, by omega, hL.2.1, ?_⟩
        rw [hx]
        conv => whnf
        refine ⟨fun _ => ?_, fun c => absurd c sw_t0⟩
        conv => whnf
        refine ⟨_, _, _, (nI s).toInt, ((0 : Nat) : Int), 99, rfl, Int32.toInt_toInt64 _, rfl, rfl, ?_⟩
        rw [sw_isIx (nI s) 0 100 (hi := 99) rfl, hyx]
        conv => whnf
        refine ⟨fun c => absurd c sw_t0, fun _ => ?_⟩
        conv => whnf
        refine ⟨_, _, _, z.toInt, ((0 : Nat) : Int), 99, rfl, Int32.toInt_toInt64 _, rfl, rfl, ?_⟩
        rw [sw_isIx z 0 100 (hi := 99) rfl, hzx]
        conv => whnf
        exact ⟨fun c => absurd rfl c, fun _ => h σ hR⟩
      | some hh =>
        obtain ⟨-, hw3, rfl⟩ := sw_ix_some hzx
        simp only [st_leave, hx, hyx, hzx] at h
        have hp := hpos (by omega)
        have hown : sw_own m c q < 256 := Nat.lt_of_lt_of_le (sw_set_lt _ _) (Nat.pow_le_pow_right (n := 2) (by decide) hm)
        generalize hO : sw_own m c q = O at hown h
        have loop : ∀ (kk i : Nat) (u v : Int32) (σ1 : am_M), i + kk = O + 1 → u = nI i → v = sw_on (sw_lv (cn, st, mn, m, c, e, k, R, rn) F q s hh i) → fm [5, 14, 16] [] σ σ1 → (∀ p, p < 27 → σ1 16 p = σ 5 p) → (∀ p, p < 27 → σ1 5 p = σ 5 p) → WW 31 [some (.ref 0), some (.int (nI q)), some (.int (nI s)), some (.int (nI hh)), some (.int (nI O)), some (.int v), some (.int u)] [] LM σ1 := by
          intro kk
          induction kk with
          | zero =>
            intro i u v σ1 hi hu hv hf h16 h5
            have ei : i = O + 1 := by omega
            subst ei; subst hu; subst hv
            refine hw 60 _ _ _ _ _ ?_
            conv => whnf
            exact ⟨fun _ => h σ1 (RM_junk hm (fm_tr (fm_rf _ _ _) hf (by decide) (by decide)) h5 hR), fun c => absurd (nI_lt (by omega) (by omega)) c⟩
          | succ kk ih =>
            intro i u v σ1 hi hu hv hf h16 h5
            subst hu; subst hv
            have ih' := fun v σ2 => ih (i + 1) (nI i + 1) v σ2 (by omega) (nI_1 i)
            rw [sw_lv] at ih'
            dsimp only at ih'
            rw [hO] at ih'
            have hlv : ∀ b, sw_lv (cn, st, mn, m, c, e, k, R, rn) F q s hh i = some b → b < i := fun b hb => sw_lv_lt i b hb
            generalize sw_lv (cn, st, mn, m, c, e, k, R, rn) F q s hh i = o at ih' hlv
            have pci := sw_pc_le i (by omega)
            have hF1 := sw_FM_eq hm h5 hF
            have hs24 : σ1 16 24 = F.2.2.2.1 := by rw [h16 24 (by decide)]; exact hF.2.2.2.1
            refine hw 100 _ _ _ _ _ ?_
            conv => whnf
            refine ⟨fun c => absurd c (nI_nlt (by omega) (by omega)), fun _ => ?_⟩
            conv => whnf
            refine ⟨fun cc => ?_, fun cc => ?_⟩
            · rw [show sw_sub i O = false by unfold sw_sub; exact beq_eq_false_iff_ne.mpr cc, Bool.false_and, Bool.false_and, if_neg (by decide)] at ih'
              conv => whnf
              exact ih' _ σ1 rfl hf h16 h5
            · rw [show sw_sub i O = true by unfold sw_sub; rw [cc]; rfl, Bool.true_and] at ih'
              cases o with
              | none =>
                rw [show sw_more none i = true from rfl, Bool.true_and] at ih'
                conv => whnf
                refine ⟨fun _ => ?_, fun c => absurd (by decide : (-1 : Int32) < 0) c⟩
                repeat ((conv => whnf); refine And.intro ?_ ?_; first | with_reducible assumption | decide)
                conv => whnf
                rw [c24, hs24, cond_false]
                have hX := sw_lvM (σ := σ1) (m := m) (F := F) (O := O) (i := i) hF1 hm
                generalize am_up σ1 5 (upd (σ1 5) 24 (F.2.2.2.1 &&& (nI O ^^^ -1) ||| nI O &&& (nI i ^^^ -1))) = σ2 at hX ⊢
                obtain ⟨hX1, hX2⟩ := hX
                have hf2 : fm [5, 14, 16] [] σ σ2 := fm_fr hf hX1 (by decide) rfl
                have hD2 := rmD_junk (fm_tr (fm_rf _ _ _) hf2 (by decide) (by decide)) hD
                refine ⟨m, cn, c, e, k, sw_lvF F O i, R, rn, rfl, rfl, hD2.1, ⟨hm, hcn, hB⟩, hX2, fun b hb => ⟨(hFk b hb).1, by have := hFk b hb; have := he b hb; show F.2.1 b ≤ 40; omega, by have := (hFk b hb).2.2; show F.2.2.1 b < 100; omega⟩, hR0, hR8, hD2.2.2.2.1, fun t ht => ⟨hD2.2.2.2.2 t ht, hrn t ht⟩, by show F.2.2.2.2.2 < 100000; omega, fun σ3 hf3 hF3 => ?_⟩
                have hf3' : fm [5, 14, 16] [] σ σ3 := fm_fr hf2 hf3 (by decide) rfl
                have hok := sw_yr_ok (cn := cn) (c := c) (k := k) (F := sw_lvF F O i) (hrn _ (Nat.mod_lt (F.2.2.2.2.2) hR0)) he (fun b hb => hFk b hb)
                have hsr : sw_srv (cn, st, mn, m, c, e, k, R, rn) F q i s hh = (decide (s ≤ sw_cs (sw_yr m cn c e k (rn (F.2.2.2.2.2 % R)) (sw_lvF F O i)).1 c q m / st) && decide (sw_cs (sw_yr m cn c e k (rn (F.2.2.2.2.2 % R)) (sw_lvF F O i)).1 c q m / mn ≤ hh)) := by rw [← hO]; rfl
                have hF3' : sw_FM σ3 m (sw_yr m cn c e k (rn (F.2.2.2.2.2 % R)) (sw_lvF F O i)) := hF3
                generalize sw_yr m cn c e k (rn (F.2.2.2.2.2 % R)) (sw_lvF F O i) = G at hok hsr hF3'
                have hV : sw_cs G.1 c q m ≤ m * 40 := sw_cs_le m (fun b hb => by have := (hok b hb).1; have := he b hb; omega)
                have hd1 : sw_cs G.1 c q m / st ≤ sw_cs G.1 c q m := Nat.div_le_self _ _
                have hd2 : sw_cs G.1 c q m / mn ≤ sw_cs G.1 c q m := Nat.div_le_self _ _
                have hD3 := rmD_junk (fm_tr (fm_rf _ _ _) hf3' (by decide) (by decide)) hD
                conv => whnf
                refine ⟨q, m, c, G.1, rfl, rfl, by omega, hm, hD3.1.1, fun b hb => ⟨hD3.1.2.2.1 b hb, by have := (hB b hb).1; omega⟩, hF3'.1, ?_⟩
                conv => whnf
                refine ⟨rfl, rfl, fun σ4 hf4 h54 => ?_⟩
                have hf4' : fm [5, 14, 16] [] σ σ4 := fm_fr hf3' hf4 (by decide) rfl
                have e16 : ∀ p, p < 27 → σ4 16 p = σ 5 p := fun p hp => by rw [am_frd hf4 16 rfl, am_frd hf3 16 rfl, am_frd hX1 16 rfl]; exact h16 p hp
                have e5 : ∀ p, p < 27 → σ4 5 p = σ 5 p := fun p hp => by rw [h54 p hp, am_frd hf3 16 rfl, am_frd hX1 16 rfl]; exact h16 p hp
                have k1 : σ4 0 1 = nI st := (fm_k hf4' 1 rfl).trans hD.2.1
                have k2 : σ4 0 2 = nI mn := (fm_k hf4' 2 rfl).trans hD.2.2.1
                conv => whnf
                rw [k1, nI_d (by omega) hp.1 (by omega)]
                refine ⟨nI_ne0 hp.1 (by omega), ?_⟩
                conv => whnf
                rw [nI_lt' (by omega) (by omega)]
                refine ⟨fun c1 => ?_, fun c1 => ?_⟩
                · rw [hsr, show decide (s ≤ sw_cs G.1 c q m / st) = false by simp; omega, Bool.false_and, if_neg (by decide)] at ih'
                  conv => whnf
                  exact ih' _ σ4 rfl hf4' e16 e5
                · rw [hsr, show decide (s ≤ sw_cs G.1 c q m / st) = true by simp; omega, Bool.true_and] at ih'
                  conv => whnf
                  rw [k2, nI_d (by omega) hp.2 (by omega)]
                  refine ⟨nI_ne0 hp.2 (by omega), ?_⟩
                  conv => whnf
                  rw [nI_lt' (by omega) (by omega)]
                  refine ⟨fun c2 => ?_, fun c2 => ?_⟩
                  · rw [show decide (sw_cs G.1 c q m / mn ≤ hh) = false by simp; omega, if_neg (by decide)] at ih'
                    conv => whnf
                    exact ih' _ σ4 rfl hf4' e16 e5
                  · rw [show decide (sw_cs G.1 c q m / mn ≤ hh) = true by simp; omega, if_pos rfl] at ih'
                    conv => whnf
                    exact ih' _ σ4 rfl hf4' e16 e5
              | some b =>
                have hb := hlv b rfl
                have pcb := sw_pc_le b (by omega)
                conv => whnf
                refine ⟨fun c => absurd c (nI_pos (by omega)), fun _ => ?_⟩
                conv => whnf
                refine ⟨i, rfl, by omega, ?_⟩
                conv => whnf
                refine ⟨b, rfl, by omega, ?_⟩
                conv => whnf
                rw [nI_le' (by omega) (by omega)]
                refine ⟨fun c3 => ?_, fun c3 => ?_⟩
                · rw [show sw_more (some b) i = false by show decide _ = false; simp; omega, Bool.false_and, if_neg (by decide)] at ih'
                  conv => whnf
                  exact ih' _ σ1 rfl hf h16 h5
                · rw [show sw_more (some b) i = true by show decide _ = true; simp; omega, Bool.true_and] at ih'
                  repeat ((conv => whnf); refine And.intro ?_ ?_; first | with_reducible assumption | decide)
                  conv => whnf
                  rw [c24, hs24, cond_false]
                  have hX := sw_lvM (σ := σ1) (m := m) (F := F) (O := O) (i := i) hF1 hm
                  generalize am_up σ1 5 (upd (σ1 5) 24 (F.2.2.2.1 &&& (nI O ^^^ -1) ||| nI O &&& (nI i ^^^ -1))) = σ2 at hX ⊢
                  obtain ⟨hX1, hX2⟩ := hX
                  have hf2 : fm [5, 14, 16] [] σ σ2 := fm_fr hf hX1 (by decide) rfl
                  have hD2 := rmD_junk (fm_tr (fm_rf _ _ _) hf2 (by decide) (by decide)) hD
                  refine ⟨m, cn, c, e, k, sw_lvF F O i, R, rn, rfl, rfl, hD2.1, ⟨hm, hcn, hB⟩, hX2, fun b hb => ⟨(hFk b hb).1, by have := hFk b hb; have := he b hb; show F.2.1 b ≤ 40; omega, by have := (hFk b hb).2.2; show F.2.2.1 b < 100; omega⟩, hR0, hR8, hD2.2.2.2.1, fun t ht => ⟨hD2.2.2.2.2 t ht, hrn t ht⟩, by show F.2.2.2.2.2 < 100000; omega, fun σ3 hf3 hF3 => ?_⟩
                  have hf3' : fm [5, 14, 16] [] σ σ3 := fm_fr hf2 hf3 (by decide) rfl
                  have hok := sw_yr_ok (cn := cn) (c := c) (k := k) (F := sw_lvF F O i) (hrn _ (Nat.mod_lt (F.2.2.2.2.2) hR0)) he (fun b hb => hFk b hb)
                  have hsr : sw_srv (cn, st, mn, m, c, e, k, R, rn) F q i s hh = (decide (s ≤ sw_cs (sw_yr m cn c e k (rn (F.2.2.2.2.2 % R)) (sw_lvF F O i)).1 c q m / st) && decide (sw_cs (sw_yr m cn c e k (rn (F.2.2.2.2.2 % R)) (sw_lvF F O i)).1 c q m / mn ≤ hh)) := by rw [← hO]; rfl
                  have hF3' : sw_FM σ3 m (sw_yr m cn c e k (rn (F.2.2.2.2.2 % R)) (sw_lvF F O i)) := hF3
                  generalize sw_yr m cn c e k (rn (F.2.2.2.2.2 % R)) (sw_lvF F O i) = G at hok hsr hF3'
                  have hV : sw_cs G.1 c q m ≤ m * 40 := sw_cs_le m (fun b hb => by have := (hok b hb).1; have := he b hb; omega)
                  have hd1 : sw_cs G.1 c q m / st ≤ sw_cs G.1 c q m := Nat.div_le_self _ _
                  have hd2 : sw_cs G.1 c q m / mn ≤ sw_cs G.1 c q m := Nat.div_le_self _ _
                  have hD3 := rmD_junk (fm_tr (fm_rf _ _ _) hf3' (by decide) (by decide)) hD
                  conv => whnf
                  refine ⟨q, m, c, G.1, rfl, rfl, by omega, hm, hD3.1.1, fun b hb => ⟨hD3.1.2.2.1 b hb, by have := (hB b hb).1; omega⟩, hF3'.1, ?_⟩
                  conv => whnf
                  refine ⟨rfl, rfl, fun σ4 hf4 h54 => ?_⟩
                  have hf4' : fm [5, 14, 16] [] σ σ4 := fm_fr hf3' hf4 (by decide) rfl
                  have e16 : ∀ p, p < 27 → σ4 16 p = σ 5 p := fun p hp => by rw [am_frd hf4 16 rfl, am_frd hf3 16 rfl, am_frd hX1 16 rfl]; exact h16 p hp
                  have e5 : ∀ p, p < 27 → σ4 5 p = σ 5 p := fun p hp => by rw [h54 p hp, am_frd hf3 16 rfl, am_frd hX1 16 rfl]; exact h16 p hp
                  have k1 : σ4 0 1 = nI st := (fm_k hf4' 1 rfl).trans hD.2.1
                  have k2 : σ4 0 2 = nI mn := (fm_k hf4' 2 rfl).trans hD.2.2.1
                  conv => whnf
                  rw [k1, nI_d (by omega) hp.1 (by omega)]
                  refine ⟨nI_ne0 hp.1 (by omega), ?_⟩
                  conv => whnf
                  rw [nI_lt' (by omega) (by omega)]
                  refine ⟨fun c1 => ?_, fun c1 => ?_⟩
                  · rw [hsr, show decide (s ≤ sw_cs G.1 c q m / st) = false by simp; omega, Bool.false_and, if_neg (by decide)] at ih'
                    conv => whnf
                    exact ih' _ σ4 rfl hf4' e16 e5
                  · rw [hsr, show decide (s ≤ sw_cs G.1 c q m / st) = true by simp; omega, Bool.true_and] at ih'
                    conv => whnf
                    rw [k2, nI_d (by omega) hp.2 (by omega)]
                    refine ⟨nI_ne0 hp.2 (by omega), ?_⟩
                    conv => whnf
                    rw [nI_lt' (by omega) (by omega)]
                    refine ⟨fun c2 => ?_, fun c2 => ?_⟩
                    · rw [show decide (sw_cs G.1 c q m / mn ≤ hh) = false by simp; omega, if_neg (by decide)] at ih'
                      conv => whnf
                      exact ih' _ σ4 rfl hf4' e16 e5
                    · rw [show decide (sw_cs G.1 c q m / mn ≤ hh) = true by simp; omega, if_pos rfl] at ih'
                      conv => whnf
                      exact ih' _ σ4 rfl hf4' e16 e5
        refine hw 60 _ _ _ _ _ ?_
        conv => whnf
        refine ⟨cn, nI q, rfl, rfl, by omega, hL.2.1, ?_⟩
        rw [hx]
        conv => whnf
        refine ⟨fun _ => ?_, fun c => absurd c sw_t0⟩
        conv => whnf
        refine ⟨_, _, _, (nI s).toInt, ((0 : Nat) : Int), 99, rfl, Int32.toInt_toInt64 _, rfl, rfl, ?_⟩
        rw [sw_isIx (nI s) 0 100 (hi := 99) rfl, hyx]
        conv => whnf
        refine ⟨fun c => absurd c sw_t0, fun _ => ?_⟩
        conv => whnf
        refine ⟨_, _, _, (nI hh).toInt, ((0 : Nat) : Int), 99, rfl, Int32.toInt_toInt64 _, rfl, rfl, ?_⟩
        rw [sw_isIx (nI hh) 0 100 (hi := 99) rfl, hzx]
        conv => whnf
        refine ⟨fun _ => ?_, fun c => absurd c sw_t0⟩
        conv => whnf
        refine ⟨rfl, rfl, fun σ1 hf1 h16 => ?_⟩
        conv => whnf
        refine ⟨q, m, c, rfl, rfl, by omega, hm, by rw [am_frd hf1 0 rfl]; exact hL.1, fun b hb => ⟨by rw [am_frd hf1 1 rfl]; exact hL.2.2.1 b hb, by have := (hB b hb).1; omega⟩, ?_⟩
        rw [hO]
        conv => whnf
        exact loop (O + 1) 0 0 (-1) σ1 (Nat.zero_add _) rfl rfl (fm_fr (fm_rf _ _ _) hf1 (by decide) rfl) h16 (fun p hp => by rw [am_frd hf1 5 rfl])
