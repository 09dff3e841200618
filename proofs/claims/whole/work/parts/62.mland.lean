/-! THE REFERENCE: a clause, land -/
theorem pM_m {G : ps_G} {σ : am_M} (h : pM G σ) : σ 0 18 = nI (ps_nB G) := by
  obtain ⟨cn, st, mn, m, c, e, n, f, k, R, rn⟩ := G
  exact h.2.2.2.1
theorem pM_c {G : ps_G} {σ : am_M} (h : pM G σ) : σ 7 0 = nI G.1 := by
  obtain ⟨cn, st, mn, m, c, e, n, f, k, R, rn⟩ := G
  exact h.1
def tr_mtakeClause : am_T := fun as L σ post => ∃ (tl : Nat) (tx : Nat → Nat) (G : ps_G) (p : Nat), as = [.ref 0] ∧ L = LM ∧ okT tl tx ∧ mT tl tx σ ∧ pM G σ ∧ okG G ∧ p ≤ tl ∧ ps_sk tl tx p < tl ∧ σ 0 14 = nI p ∧ rsM (ps_cl tl tx G p) σ post
set_option maxHeartbeats 2000000 in
theorem ct_mtakeClause (l : Launch) : am_Ct l 4 yX7_takeClause cX7_takeClause 5 (some .int) tr_mtakeClause := by
  refine am_ct tbX7_takeClause (am_G [tr_mhere, tr_mfails, tr_mtakeTreaty, tr_mtakeBarn, tr_mtakeRains]) (by decide +kernel) (by simp) rfl dtX7_takeClause rfl ckX7_takeClause lkX7_takeClause (am_cokF [(1, some (.invokevirtual 116), 0, 1, 7, 0), (60, some (.invokevirtual 124), 1, 3, 7, 0), (130, some (.invokevirtual 124), 1, 3, 7, 0), (149, some (.invokevirtual 147), 2, 1, 7, 0), (161, some (.invokevirtual 150), 3, 1, 7, 0), (168, some (.invokevirtual 153), 4, 1, 7, 0), (179, some (.invokevirtual 116), 0, 1, 7, 0), (193, some (.invokevirtual 124), 1, 3, 7, 0)] rfl (List.forall_mem_cons.mpr ⟨⟨0, _, _, _, _, by decide, (ct_mhere l), lnX7_116⟩, List.forall_mem_cons.mpr ⟨⟨0, _, _, _, _, by decide, (ct_mfails l), lnX7_124⟩, List.forall_mem_cons.mpr ⟨⟨0, _, _, _, _, by decide, (ct_mfails l), lnX7_124⟩, List.forall_mem_cons.mpr ⟨⟨3, _, _, _, _, by decide, (ct_mtakeTreaty l), lnX7_147⟩, List.forall_mem_cons.mpr ⟨⟨3, _, _, _, _, by decide, (ct_mtakeBarn l), lnX7_150⟩, List.forall_mem_cons.mpr ⟨⟨3, _, _, _, _, by decide, (ct_mtakeRains l), lnX7_153⟩, List.forall_mem_cons.mpr ⟨⟨0, _, _, _, _, by decide, (ct_mhere l), lnX7_116⟩, List.forall_mem_cons.mpr ⟨⟨0, _, _, _, _, by decide, (ct_mfails l), lnX7_124⟩, fun _ h => absurd h List.not_mem_nil⟩⟩⟩⟩⟩⟩⟩⟩)) ?_
  intro as L σ post h
  obtain ⟨tl, tx, G, p, rfl, rfl, hT, hc, hG, hok, hp, hlt, e1, h⟩ := h
  refine ⟨by simp [am_lv0], fun WW hw => hw 60 _ _ _ _ _ ?_⟩
  have hT1 := hT.1
  have hT2 := hT.2 _ hlt
  have hcn4 : G.1 ≤ 4 := by obtain ⟨cn, st, mn, m, c, e, n, f, k, R, rn⟩ := G; exact hok.1
  have hm8 : ps_nB G ≤ 8 := by obtain ⟨cn, st, mn, m, c, e, n, f, k, R, rn⟩ := G; exact hok.2.1
  have hR8 : ps_nR G ≤ 8 := by obtain ⟨cn, st, mn, m, c, e, n, f, k, R, rn⟩ := G; exact hok.2.2.2.2.2.2.2.1
  unfold ps_cl at h
  conv => whnf
  refine ⟨tl, tx, p, rfl, rfl, hT, hc, hp, e1, fun σ1 hf1 e2 => ?_⟩
  rw [show ps_let tl tx (ps_sk tl tx p) = nI (tx (ps_sk tl tx p)) from if_pos hlt]
  generalize ps_sk tl tx p = q at *
  generalize hw2 : tx q = w at *
  have hG1 := pM_fr (fm_tr (fm_rf _ _ _) hf1 (by decide) (by decide)) hG
  have k0 := pM_c hG1
  have k3 := pM_m hG1
  have k4 := pM_R hG1
  have n0 : nI G.1 = 0 ↔ G.1 = 0 := nI_eq' (b := 0) (by omega) (by decide)
  have l0 : nI G.1 ≤ 0 ↔ G.1 ≤ 0 := nI_le' (b := 0) (by omega) (by decide)
  have lR : nI (ps_nR G) ≤ 0 ↔ ps_nR G ≤ 0 := nI_le' (b := 0) (by omega) (by decide)
  have n8 : nI (ps_nB G) = 8 ↔ ps_nB G = 8 := nI_eq' (b := 8) (by omega) (by decide)
  have v0 : vp_in (0 : Int32) 3 := vp_j (j := 0) (by decide) (by decide)
  have c0' : (0 : Int32).toNatClampNeg = 0 := by decide
  have hf1' : fm [7, 8, 9, 10, 11, 12, 13] [14, 15, 16, 18, 24] σ σ1 := fm_tr (fm_rf _ _ _) hf1 (by decide) (by decide)
  have err : ∀ (nn : Nat), rsM (.error (nn, q)) σ post → ∀ σ2, fm [] [13] σ1 σ2 → σ2 0 13 = nI q → post (some (.int (nI nn))) LM σ2 := fun nn h σ2 hf2 h3 => h σ2 (fm_tr (fm_tr (fm_rf _ _ _) hf1 (by decide) (by decide)) hf2 (by decide) (by decide)) h3
  -- behind the clause's own words
  have M95 : ∀ (c i z : Int32) (X : ps_X ps_G) (σ2 : am_M), rsM (ps_fin tl tx X) σ post → okX tl 0 X → fm [7, 8, 9, 10, 11, 12, 13] [14, 15, 16, 18, 24] σ σ2 → rsM X σ2 (fun v L' σ' => ∃ y, v = some (.int y) ∧ L' = LM ∧ WW 95 [some (.ref 0), some (.int c), some (.int i), some (.int z)] [.int y] LM σ') := by
    intro c i z X σ2 h hX hf2
    have M109 : ∀ (y : Int32) (σ3 : am_M), post (some (.int y)) LM (am_w σ3 0 14 (σ3 0 14 + 1)) → WW 109 [some (.ref 0), some (.int c), some (.int i), some (.int z), some (.int y)] [] LM σ3 := by
      intro y σ3 h3
      refine hw 60 _ _ _ _ _ ?_
      conv => whnf
      exact h3
    cases X with
    | error x =>
      intro σ3 hf3 h3
      refine ⟨_, rfl, rfl, ?_⟩
      refine hw 60 _ _ _ _ _ ?_
      conv => whnf
      have hx1 : 0 < x.1 := hX.1
      have hx4 : x.1 ≤ 4 := hX.2.1
      refine ⟨fun _ => ?_, fun cc => absurd cc (nI_ne0 hx1 (by omega))⟩
      conv => whnf
      refine M109 _ σ3 (h _ (fm_w0 (fm_tr (fm_tr (fm_rf _ _ _) hf2 (by decide) (by decide)) hf3 (by decide) (by decide)) (by decide)) ?_)
      rw [aw_k _ _ _ _ _ (by decide)]; exact h3
    | ok g =>
      intro σ3 hf3 hp3 h3
      refine ⟨_, rfl, rfl, ?_⟩
      have hg : g.2 ≤ tl := hX.2.2
      have hf3' := fm_tr hf2 hf3 (by decide) (by decide)
      rw [ps_fin_o] at h
      refine hw 60 _ _ _ _ _ ?_
      conv => whnf
      refine ⟨fun cc => absurd rfl cc, fun _ => ?_⟩
      conv => whnf
      refine ⟨tl, tx, g.2, rfl, rfl, hT, mT_fr (fm_k hf3' 12 rfl) (fm_d hf3' 6 rfl (by decide)) hc, hg, h3, fun σ4 hf4 h4 => ?_⟩
      have hf4' := fm_tr hf3' hf4 (by decide) (by decide)
      have hp4 := pM_fr (fm_tr (fm_rf _ _ _) hf4 (by decide) (by decide)) hp3
      have h59i : ps_let tl tx (ps_sk tl tx g.2) = 59 ↔ (ps_sk tl tx g.2 < tl ∧ tx (ps_sk tl tx g.2) = 59) := by
        unfold ps_let
        by_cases hlt : ps_sk tl tx g.2 < tl
        · rw [if_pos hlt]
          have := hT.2 _ hlt
          have h2 : nI (tx (ps_sk tl tx g.2)) = 59 ↔ tx (ps_sk tl tx g.2) = 59 := nI_eq' (b := 59) (by omega) (by decide)
          rw [h2]
          exact ⟨fun q => ⟨hlt, q⟩, fun q => q.2⟩
        · rw [if_neg hlt]
          exact ⟨fun q => absurd q (by decide), fun q => absurd q.1 hlt⟩
      conv => whnf
      rw [h59i]
      refine ⟨fun h59 => ?_, fun h59 => ?_⟩
      · rw [if_pos h59] at h
        conv => whnf
        refine M109 _ σ4 ?_
        rw [h4, nI_1]
        exact h _ (fm_w0 hf4' (by decide)) (pM_fr (fm_w0 (fm_rf _ _ _) (by decide)) hp4) (aw_s _ _ _ _)
      · rw [if_neg h59] at h
        conv => whnf
        rw [h4]
        refine ⟨_, _, rfl, rfl, fun σ5 hf5 h5 => ?_⟩
        conv => whnf
        exact h σ5 (fm_tr (fm_tr (fm_rf _ _ _) hf4' (by decide) (by decide)) hf5 (by decide) (by decide)) h5
  have step : ∀ z : Int32, fm [] [14] σ1 (am_up σ1 0 (upd (σ1 0) 14 z)) := fun z => fm_w0 (fm_rf _ _ _) (by decide)
  by_cases w116 : w = 116
  · subst w116
    rw [if_neg (fun hh => hh.2 rfl), if_pos rfl] at h
    conv => whnf
    refine ⟨fun c => absurd rfl c, fun _ => ?_⟩
    conv => whnf
    refine hw 60 _ _ _ _ _ ?_
    conv => whnf
    refine ⟨fun c => absurd c (by decide), fun _ => ?_⟩
    conv => whnf
    refine ⟨fun _ => ?_, fun c => absurd (Int32.le_refl _) c⟩
    conv => whnf
    refine hw 60 _ _ _ _ _ ?_
    conv => whnf
    refine ⟨fun c => absurd rfl c, fun _ => ?_⟩
    repeat ((conv => whnf); refine And.intro ?_ ?_; first | with_reducible assumption | decide)
    conv => whnf
    rw [c0', k0, l0]
    refine ⟨fun cc => ?_, fun cc => ?_⟩
    · rw [if_pos (by omega)] at h
      conv => whnf
      refine hw 60 _ _ _ _ _ ?_
      conv => whnf
      refine ⟨fun _ => ?_, fun c => absurd rfl c⟩
      conv => whnf
      refine ⟨fun c => absurd rfl c, fun _ => ?_⟩
      conv => whnf
      rw [e2, nI_1]
      have hfs := step (nI (q + 1))
      generalize hs : am_up σ1 0 (upd (σ1 0) 14 (nI (q + 1))) = σ2 at hfs ⊢
      have hf2 : fm [7, 8, 9, 10, 11, 12, 13] [14, 15, 16, 18, 24] σ σ2 := fm_tr hf1' hfs (by decide) (by decide)
      have k14 : σ2 0 14 = nI (q + 1) := by rw [← hs, am_us, up_s]
      refine ⟨tl, tx, G, q + 1, rfl, rfl, hT, mT_fr (fm_k hf2 12 rfl) (fm_d hf2 6 rfl (by decide)) hc, pM_fr (fm_tr (fm_rf _ _ _) hfs (by decide) (by decide)) hG1, by omega, k14, ?_⟩
      have hX := M95 (nI 116) 0 0 _ σ2 h (okX_le (Nat.zero_le _) (ps_tr_ok (p := q + 1) (by omega) hok (by omega))) hf2
      generalize ps_tr tl tx G (q + 1) = X at hX ⊢
      cases X with
      | error x =>
        intro σ3 hf3 h3
        obtain ⟨y, hy1, -, hy⟩ := hX σ3 hf3 h3
        cases hy1
        conv => whnf
        exact hy
      | ok g =>
        intro σ3 hf3 h3 h4
        obtain ⟨y, hy1, -, hy⟩ := hX σ3 hf3 h3 h4
        cases hy1
        conv => whnf
        exact hy
    · rw [if_neg (by omega)] at h
      conv => whnf
      refine hw 60 _ _ _ _ _ ?_
      conv => whnf
      refine ⟨fun c => absurd c (by decide), fun _ => ?_⟩
      conv => whnf
      rw [e2]
      refine ⟨_, _, rfl, rfl, fun σ2 hf2 h3 => ?_⟩
      conv => whnf
      exact err 3 h σ2 hf2 h3
  · have c116 : ¬ nI w = 116 := fun hh => w116 ((nI_eq' (b := 116) (by omega) (by decide)).1 hh)
    conv => whnf
    refine ⟨fun _ => ?_, fun c => absurd c c116⟩
    by_cases w98 : w = 98
    · subst w98
      conv => whnf
      refine ⟨fun c => absurd rfl c, fun _ => ?_⟩
      conv => whnf
      refine hw 60 _ _ _ _ _ ?_
      conv => whnf
      refine ⟨fun c => absurd c (by decide), fun _ => ?_⟩
      conv => whnf
      refine ⟨fun c => absurd c (by decide), fun _ => ?_⟩
      repeat ((conv => whnf); refine And.intro ?_ ?_; first | with_reducible assumption | decide)
      conv => whnf
      rw [c0', k0, n0]
      refine ⟨fun cc => ?_, fun cc => ?_⟩
      · rw [if_neg (fun hh => cc hh.1), if_neg (by omega), if_pos rfl] at h
        conv => whnf
        refine hw 60 _ _ _ _ _ ?_
        conv => whnf
        refine ⟨fun _ => ?_, fun c => absurd c (by decide)⟩
        conv => whnf
        refine ⟨fun c => absurd rfl c, fun _ => ?_⟩
        conv => whnf
        rw [k3, n8]
        refine ⟨fun c8 => ?_, fun c8 => ?_⟩
        · rw [if_pos (by omega)] at h
          conv => whnf
          refine hw 60 _ _ _ _ _ ?_
          conv => whnf
          refine ⟨fun _ => ?_, fun c => absurd rfl c⟩
          conv => whnf
          refine ⟨fun _ => ?_, fun c => absurd c (by decide)⟩
          conv => whnf
          refine ⟨fun c => absurd rfl c, fun _ => ?_⟩
          conv => whnf
          rw [e2, nI_1]
          have hfs := step (nI (q + 1))
          generalize hs : am_up σ1 0 (upd (σ1 0) 14 (nI (q + 1))) = σ2 at hfs ⊢
          have hf2 : fm [7, 8, 9, 10, 11, 12, 13] [14, 15, 16, 18, 24] σ σ2 := fm_tr hf1' hfs (by decide) (by decide)
          have k14 : σ2 0 14 = nI (q + 1) := by rw [← hs, am_us, up_s]
          refine ⟨tl, tx, G, q + 1, rfl, rfl, hT, mT_fr (fm_k hf2 12 rfl) (fm_d hf2 6 rfl (by decide)) hc, pM_fr (fm_tr (fm_rf _ _ _) hfs (by decide) (by decide)) hG1, by omega, by omega, hcn4, by omega, k14, ?_⟩
          have hX := M95 (nI 98) 1 0 _ σ2 h (okX_le (Nat.zero_le _) (ps_bn_ok (p := q + 1) (by omega) hok cc (by omega))) hf2
          generalize ps_bn tl tx G (q + 1) = X at hX ⊢
          cases X with
          | error x =>
            intro σ3 hf3 h3
            obtain ⟨y, hy1, -, hy⟩ := hX σ3 hf3 h3
            cases hy1
            conv => whnf
            exact hy
          | ok g =>
            intro σ3 hf3 h3 h4
            obtain ⟨y, hy1, -, hy⟩ := hX σ3 hf3 h3 h4
            cases hy1
            conv => whnf
            exact hy
        · rw [if_neg (by omega)] at h
          conv => whnf
          refine hw 60 _ _ _ _ _ ?_
          conv => whnf
          refine ⟨fun c => absurd c (by decide), fun _ => ?_⟩
          conv => whnf
          rw [e2]
          refine ⟨_, _, rfl, rfl, fun σ2 hf2 h3 => ?_⟩
          conv => whnf
          exact err 3 h σ2 hf2 h3
      · rw [if_pos ⟨cc, by omega⟩] at h
        conv => whnf
        rw [e2]
        refine ⟨_, _, rfl, rfl, fun σ2 hf2 h3 => ?_⟩
        conv => whnf
        exact err 1 h σ2 hf2 h3
    · have c98 : ¬ nI w = 98 := fun hh => w98 ((nI_eq' (b := 98) (by omega) (by decide)).1 hh)
      conv => whnf
      refine ⟨fun _ => ?_, fun c => absurd c c98⟩
      by_cases w119 : w = 119
      · subst w119
        conv => whnf
        refine ⟨fun c => absurd rfl c, fun _ => ?_⟩
        conv => whnf
        refine hw 60 _ _ _ _ _ ?_
        conv => whnf
        refine ⟨fun c => absurd c (by decide), fun _ => ?_⟩
        conv => whnf
        refine ⟨fun c => absurd c (by decide), fun _ => ?_⟩
        repeat ((conv => whnf); refine And.intro ?_ ?_; first | with_reducible assumption | decide)
        conv => whnf
        rw [c0', k0, n0]
        refine ⟨fun cc => ?_, fun cc => ?_⟩
        · rw [if_neg (fun hh => cc hh.1), if_neg (by omega), if_neg (by omega), if_pos rfl] at h
          conv => whnf
          refine hw 60 _ _ _ _ _ ?_
          conv => whnf
          refine ⟨fun _ => ?_, fun c => absurd c (by decide)⟩
          conv => whnf
          refine ⟨fun _ => ?_, fun c => absurd c (by decide)⟩
          conv => whnf
          rw [k4, lR]
          refine ⟨fun c8 => ?_, fun c8 => ?_⟩
          · rw [if_pos (by omega)] at h
            conv => whnf
            refine hw 60 _ _ _ _ _ ?_
            conv => whnf
            refine ⟨fun _ => ?_, fun c => absurd rfl c⟩
            conv => whnf
            refine ⟨fun _ => ?_, fun c => absurd c (by decide)⟩
            conv => whnf
            refine ⟨fun _ => ?_, fun c => absurd c (by decide)⟩
            conv => whnf
            rw [e2, nI_1]
            have hfs := step (nI (q + 1))
            generalize hs : am_up σ1 0 (upd (σ1 0) 14 (nI (q + 1))) = σ2 at hfs ⊢
            have hf2 : fm [7, 8, 9, 10, 11, 12, 13] [14, 15, 16, 18, 24] σ σ2 := fm_tr hf1' hfs (by decide) (by decide)
            have k14 : σ2 0 14 = nI (q + 1) := by rw [← hs, am_us, up_s]
            refine ⟨tl, tx, G, q + 1, rfl, rfl, hT, mT_fr (fm_k hf2 12 rfl) (fm_d hf2 6 rfl (by decide)) hc, pM_fr (fm_tr (fm_rf _ _ _) hfs (by decide) (by decide)) hG1, by omega, by omega, k14, ?_⟩
            have hX := M95 (nI 119) 2 0 _ σ2 h (okX_le (Nat.zero_le _) (ps_rn_ok 7 G (q + 1) (by omega) hok (by omega))) hf2
            generalize ps_rn tl tx 8 G (q + 1) = X at hX ⊢
            cases X with
            | error x =>
              intro σ3 hf3 h3
              obtain ⟨y, hy1, -, hy⟩ := hX σ3 hf3 h3
              cases hy1
              conv => whnf
              exact hy
            | ok g =>
              intro σ3 hf3 h3 h4
              obtain ⟨y, hy1, -, hy⟩ := hX σ3 hf3 h3 h4
              cases hy1
              conv => whnf
              exact hy
          · rw [if_neg (by omega)] at h
            conv => whnf
            refine hw 60 _ _ _ _ _ ?_
            conv => whnf
            refine ⟨fun c => absurd c (by decide), fun _ => ?_⟩
            conv => whnf
            rw [e2]
            refine ⟨_, _, rfl, rfl, fun σ2 hf2 h3 => ?_⟩
            conv => whnf
            exact err 3 h σ2 hf2 h3
        · rw [if_pos ⟨cc, by omega⟩] at h
          conv => whnf
          rw [e2]
          refine ⟨_, _, rfl, rfl, fun σ2 hf2 h3 => ?_⟩
          conv => whnf
          exact err 1 h σ2 hf2 h3
      · have c119 : ¬ nI w = 119 := fun hh => w119 ((nI_eq' (b := 119) (by omega) (by decide)).1 hh)
        have h' : rsM (.error (1, q)) σ post := by
          by_cases hh : G.1 = 0 ∧ ¬ w = 116
          · rw [if_pos hh] at h; exact h
          · rw [if_neg hh, if_neg w116, if_neg w98, if_neg w119] at h; exact h
        conv => whnf
        refine ⟨fun _ => ?_, fun c => absurd c c119⟩
        conv => whnf
        refine hw 60 _ _ _ _ _ ?_
        conv => whnf
        refine ⟨fun _ => ?_, fun c => absurd (by decide : (-1 : Int32) < 0) c⟩
        conv => whnf
        rw [e2]
        refine ⟨_, _, rfl, rfl, fun σ2 hf2 h3 => ?_⟩
        conv => whnf
        exact err 1 h' σ2 hf2 h3
