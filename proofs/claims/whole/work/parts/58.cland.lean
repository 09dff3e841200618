/-! THE CLASS: rain, clauses, land -/
theorem pC_addR {G : ps_G} {σ : am_M} {v : Nat} (h : pC G σ) : pC (ps_addR G v) (am_w (am_w σ 16 (ps_nR G) (nI v)) 10 4 (nI (ps_nR G + 1))) := by
  obtain ⟨cn, st, mn, m, c, e, n, f, k, R, rn⟩ := G
  obtain ⟨g1, g2, g3, g4, g5, g6, g7⟩ := h
  show pC (cn, st, mn, m, c, e, n, f, k, R + 1, va_up rn R v) (am_w (am_w σ 16 R (nI v)) 10 4 (nI (R + 1)))
  refine ⟨?_, ?_, ?_, ?_, ?_, fun q hq => ?_, fun t ht => ?_⟩
  · rw [aw_k _ _ _ _ _ (by decide), aw_n _ _ _ _ _ (by decide)]; exact g1
  · rw [aw_k _ _ _ _ _ (by decide), aw_n _ _ _ _ _ (by decide)]; exact g2
  · rw [aw_k _ _ _ _ _ (by decide), aw_n _ _ _ _ _ (by decide)]; exact g3
  · rw [aw_k _ _ _ _ _ (by decide), aw_n _ _ _ _ _ (by decide)]; exact g4
  · rw [aw_s]
  · simp only [aw_n _ _ _ _ _ (show ¬ 11 = 10 by decide), aw_n _ _ _ _ _ (show ¬ 12 = 10 by decide), aw_n _ _ _ _ _ (show ¬ 13 = 10 by decide), aw_n _ _ _ _ _ (show ¬ 14 = 10 by decide), aw_n _ _ _ _ _ (show ¬ 15 = 10 by decide), aw_n _ _ _ _ _ (show ¬ 11 = 16 by decide), aw_n _ _ _ _ _ (show ¬ 12 = 16 by decide), aw_n _ _ _ _ _ (show ¬ 13 = 16 by decide), aw_n _ _ _ _ _ (show ¬ 14 = 16 by decide), aw_n _ _ _ _ _ (show ¬ 15 = 16 by decide)]
    exact g6 q hq
  · rw [aw_n _ _ _ _ _ (by decide)]
    by_cases e : t = R
    · subst e; rw [aw_s, up_vs]
    · rw [aw_k _ _ _ _ _ e, up_vn _ _ _ _ e]; exact g7 t (by omega)
theorem pC_R {G : ps_G} {σ : am_M} (h : pC G σ) : σ 10 4 = nI (ps_nR G) := by
  obtain ⟨cn, st, mn, m, c, e, n, f, k, R, rn⟩ := G
  exact h.2.2.2.2.1
theorem pC_m {G : ps_G} {σ : am_M} (h : pC G σ) : σ 10 3 = nI (ps_nB G) := by
  obtain ⟨cn, st, mn, m, c, e, n, f, k, R, rn⟩ := G
  exact h.2.2.2.1
theorem pC_c {G : ps_G} {σ : am_M} (h : pC G σ) : σ 10 0 = nI G.1 := by
  obtain ⟨cn, st, mn, m, c, e, n, f, k, R, rn⟩ := G
  exact h.1
def tr_readRains : am_T := fun as L σ post => ∃ (tl : Nat) (tx : Nat → Nat) (G : ps_G) (p : Nat), as = [.ref 1, .ref 10] ∧ L = LC ∧ okT tl tx ∧ cT tl tx σ ∧ pC G σ ∧ p < tl ∧ ps_nR G = 0 ∧ σ 1 2 = nI p ∧ rsC (ps_fin tl tx (ps_rn tl tx 8 G (p + 1))) σ post
set_option maxHeartbeats 1000000 in
theorem ct_readRains (l : Launch) : am_Ct l 2 yX5_readRains cX5_readRains 3 (some .boolean) tr_readRains := by
  refine am_ct tbX5_readRains (am_G [tr_readNumber, tr_nextLetter, tr_readEnd]) (by decide +kernel) (by simp) rfl dtX5_readRains rfl ckX5_readRains lkX5_readRains (am_cokF [(14, some (.invokevirtual 63), 0, 3, 5, 0), (64, some (.invokevirtual 33), 1, 1, 5, 0), (73, some (.invokevirtual 73), 2, 1, 5, 0)] rfl (List.forall_mem_cons.mpr ⟨⟨1, _, _, _, _, by decide, (ct_readNumber l), lnX5_63⟩, List.forall_mem_cons.mpr ⟨⟨0, _, _, _, _, by decide, (ct_nextLetter l), lnX5_33⟩, List.forall_mem_cons.mpr ⟨⟨1, _, _, _, _, by decide, (ct_readEnd l), lnX5_73⟩, fun _ h => absurd h List.not_mem_nil⟩⟩⟩)) ?_
  intro as L σ post h
  obtain ⟨tl, tx, G, p, rfl, rfl, hT, hc, hG, hp, hR0, e1, h⟩ := h
  refine ⟨by simp [am_lv0], fun WW hw => ?_⟩
  have hT1 := hT.1
  have hT2 := hT.2
  have loop : ∀ (f : Nat) (G1 : ps_G) (p1 : Nat) (σ1 : am_M), f + 1 + ps_nR G1 = 8 → p1 < tl → fo 1 [10, 11, 12, 13, 14, 15, 16] [2] σ σ1 → pC G1 σ1 → σ1 1 2 = nI p1 → rsC (ps_fin tl tx (ps_rn tl tx (f + 1) G1 (p1 + 1))) σ post → WW 1 [some (.ref 1), some (.ref 10)] [] LC σ1 := by
    intro f
    induction f with
    | zero =>
      intro G1 p1 σ1 hR hp1 hf hG1 e2 h
      have hRR := pC_R hG1
      have hR8 : ps_nR G1 = 7 := by omega
      rw [ps_rn] at h
      refine hw 60 _ _ _ _ _ ?_
      conv => whnf
      rw [e2, nI_1]
      have hf2 : fo 1 [] [2] σ1 (am_w σ1 1 2 (nI (p1 + 1))) := fo_w (fo_rf _ _ _ _) (by decide)
      refine ⟨tl, tx, 0, 9, p1 + 1, rfl, rfl, hT, cT_fr ((fo_k hf2 1 rfl).trans (fo_k hf 1 rfl)) ((fo_d hf2 2 rfl (by decide)).trans (fo_d hf 2 rfl (by decide))) hc, hp1, aw_s _ _ _ _, by decide, by decide, ?_⟩
      cases hx : ps_num tl tx 0 9 (p1 + 1) with
      | error x =>
        simp only [hx, ps_fin_e] at h
        intro σ3 hf3 h3 h4
        conv => whnf
        refine ⟨fun _ => ?_, fun c => absurd rfl c⟩
        conv => whnf
        exact ⟨Or.inl rfl, h σ3 (fo_tr (fo_tr (fo_tr (fo_rf _ _ _ _) hf (by decide) (by decide)) hf2 (by decide) (by decide)) hf3 (by decide) (by decide)) h3 h4⟩
      | ok a =>
        obtain ⟨a1, a2, a3, a4⟩ := ps_num_ok hx (by omega)
        simp only [hx] at h
        intro σ3 hf3 h3
        have hf13 := fo_tr hf2 hf3 (by decide) (by decide)
        have hG3 := pC_fr hf13 hG1
        have k4 : σ3 10 4 = 7 := by rw [pC_R hG3, hR8]; rfl
        have hf3' : fo 1 [10, 11, 12, 13, 14, 15, 16] [2] σ σ3 := fo_tr hf hf13 (by decide) (by decide)
        conv => whnf
        refine ⟨fun c => absurd c (nI_nm1 (by omega)), fun _ => ?_⟩
        conv => whnf
        rw [k4]
        refine ⟨fun _ => ?_, fun c => absurd (by decide : (7 : Int32) < 8) c⟩
        have v7 : vp_in (7 : Int32) 8 := vp_j (j := 7) (by decide) (by decide)
        conv => whnf
        rw [k4]
        refine ⟨v7, ?_⟩
        conv => whnf
        rw [am_us, up_s, am_un _ _ _ _ (by decide), k4]
        refine ⟨fun _ => ?_, fun c => absurd (by decide : (8 : Int32) ≤ 7 + 1) c⟩
        have hX := pC_addR (v := a.1) hG3
        rw [hR8] at hX
        have x1 : fo 1 [10, 11, 12, 13, 14, 15, 16] [2] σ (am_w (am_w σ3 16 7 (nI a.1)) 10 4 (nI (7 + 1))) := fo_up _ (fo_up _ hf3' (by decide) (by decide)) (by decide) (by decide)
        have x2 : am_w (am_w σ3 16 7 (nI a.1)) 10 4 (nI (7 + 1)) 1 = σ3 1 := by rw [aw_n _ _ _ _ _ (by decide), aw_n _ _ _ _ _ (by decide)]
        have x3 : am_w (am_w σ3 16 7 (nI a.1)) 10 4 (nI (7 + 1)) 2 = σ3 2 := by rw [aw_n _ _ _ _ _ (by decide), aw_n _ _ _ _ _ (by decide)]
        conv => whnf
        refine ⟨tl, tx, a.2, rfl, rfl, hT, ?_, a4, ?_, ?_⟩
        · exact cT_fr ((congrFun x2 1).trans (fo_k hf3' 1 rfl)) (x3.trans (fo_d hf3' 2 rfl (by decide))) hc
        · exact (congrFun x2 2).trans h3
        · by_cases hend : ps_sk tl tx a.2 < tl ∧ tx (ps_sk tl tx a.2) = 59
          · rw [if_neg (fun hh => by have := hh.2; omega), ps_fin_o] at h
            dsimp only at h
            rw [ps_sk_i, if_pos hend] at h
            rw [if_pos hend]
            intro σ6 hf6 h6
            conv => whnf
            exact ⟨Or.inr rfl, h σ6 (fo_tr x1 hf6 (by decide) (by decide)) (pC_fr hf6 hX) h6⟩
          · have h' : rsC (.error (1, ps_sk tl tx a.2)) σ post := by
              by_cases h44 : ps_sk tl tx a.2 < tl ∧ tx (ps_sk tl tx a.2) = 44
              · rw [if_pos h44, if_pos trivial, ps_fin_e] at h; exact h
              · rw [if_neg h44, ps_fin_o] at h
                dsimp only at h
                rw [ps_sk_i, if_neg hend] at h; exact h
            rw [if_neg hend]
            intro σ6 hf6 h6 h7
            conv => whnf
            exact ⟨Or.inl rfl, h' σ6 (fo_tr (fo_tr (fo_rf _ _ _ _) x1 (by decide) (by decide)) hf6 (by decide) (by decide)) h6 h7⟩
    | succ f ih =>
      intro G1 p1 σ1 hR hp1 hf hG1 e2 h
      have hRR := pC_R hG1
      rw [ps_rn] at h
      refine hw 60 _ _ _ _ _ ?_
      conv => whnf
      rw [e2, nI_1]
      have hf2 : fo 1 [] [2] σ1 (am_w σ1 1 2 (nI (p1 + 1))) := fo_w (fo_rf _ _ _ _) (by decide)
      refine ⟨tl, tx, 0, 9, p1 + 1, rfl, rfl, hT, cT_fr ((fo_k hf2 1 rfl).trans (fo_k hf 1 rfl)) ((fo_d hf2 2 rfl (by decide)).trans (fo_d hf 2 rfl (by decide))) hc, hp1, aw_s _ _ _ _, by decide, by decide, ?_⟩
      cases hx : ps_num tl tx 0 9 (p1 + 1) with
      | error x =>
        simp only [hx, ps_fin_e] at h
        intro σ3 hf3 h3 h4
        conv => whnf
        refine ⟨fun _ => ?_, fun c => absurd rfl c⟩
        conv => whnf
        exact ⟨Or.inl rfl, h σ3 (fo_tr (fo_tr (fo_tr (fo_rf _ _ _ _) hf (by decide) (by decide)) hf2 (by decide) (by decide)) hf3 (by decide) (by decide)) h3 h4⟩
      | ok a =>
        obtain ⟨a1, a2, a3, a4⟩ := ps_num_ok hx (by omega)
        simp only [hx] at h
        intro σ3 hf3 h3
        have hf13 := fo_tr hf2 hf3 (by decide) (by decide)
        have hG3 := pC_fr hf13 hG1
        have k4 := pC_R hG3
        have hf3' : fo 1 [10, 11, 12, 13, 14, 15, 16] [2] σ σ3 := fo_tr hf hf13 (by decide) (by decide)
        have n8 : nI (ps_nR G1) < 8 := (nI_lt' (b := 8) (by omega) (by decide)).2 (by omega)
        have v7 : vp_in (nI (ps_nR G1)) 8 := vp_j (by omega) (by decide)
        have c7 : (nI (ps_nR G1)).toNatClampNeg = ps_nR G1 := nI_cl (by omega)
        have n9 : ¬ (8 : Int32) ≤ nI (ps_nR G1 + 1) := fun q => by have := (nI_le' (a := 8) (b := ps_nR G1 + 1) (by decide) (by omega)).1 q; omega
        conv => whnf
        refine ⟨fun c => absurd c (nI_nm1 (by omega)), fun _ => ?_⟩
        conv => whnf
        rw [k4]
        refine ⟨fun _ => ?_, fun c => absurd n8 c⟩
        conv => whnf
        rw [k4]
        refine ⟨v7, ?_⟩
        conv => whnf
        rw [am_us, up_s, am_un _ _ _ _ (by decide), k4, nI_1, c7]
        refine ⟨fun c => absurd c n9, fun _ => ?_⟩
        have hX := pC_addR (v := a.1) hG3
        have x1 : fo 1 [10, 11, 12, 13, 14, 15, 16] [2] σ (am_w (am_w σ3 16 (ps_nR G1) (nI a.1)) 10 4 (nI (ps_nR G1 + 1))) := fo_up _ (fo_up _ hf3' (by decide) (by decide)) (by decide) (by decide)
        have x2 : am_w (am_w σ3 16 (ps_nR G1) (nI a.1)) 10 4 (nI (ps_nR G1 + 1)) 1 = σ3 1 := by rw [aw_n _ _ _ _ _ (by decide), aw_n _ _ _ _ _ (by decide)]
        have x3 : am_w (am_w σ3 16 (ps_nR G1) (nI a.1)) 10 4 (nI (ps_nR G1 + 1)) 2 = σ3 2 := by rw [aw_n _ _ _ _ _ (by decide), aw_n _ _ _ _ _ (by decide)]
        have s2 := (ps_sk_f (tl := tl) (tx := tx) (p := a.2)).2 a4
        conv => whnf
        refine ⟨tl, tx, a.2, rfl, rfl, hT, ?_, a4, ?_, fun σ5 hf5 h5 => ?_⟩
        · exact cT_fr ((congrFun x2 1).trans (fo_k hf3' 1 rfl)) (x3.trans (fo_d hf3' 2 rfl (by decide))) hc
        · exact (congrFun x2 2).trans h3
        · have x5 : fo 1 [10, 11, 12, 13, 14, 15, 16] [2] σ σ5 := fo_tr x1 hf5 (by decide) (by decide)
          have hX5 := pC_fr hf5 hX
          have h44i : ps_let tl tx (ps_sk tl tx a.2) = 44 ↔ (ps_sk tl tx a.2 < tl ∧ tx (ps_sk tl tx a.2) = 44) := by
            unfold ps_let
            by_cases hlt : ps_sk tl tx a.2 < tl
            · rw [if_pos hlt]
              have := hT2 _ hlt
              have h2 : nI (tx (ps_sk tl tx a.2)) = 44 ↔ tx (ps_sk tl tx a.2) = 44 := nI_eq' (b := 44) (by omega) (by decide)
              rw [h2]
              exact ⟨fun q => ⟨hlt, q⟩, fun q => q.2⟩
            · rw [if_neg hlt]
              exact ⟨fun q => absurd q (by decide), fun q => absurd q.1 hlt⟩
          conv => whnf
          rw [h44i]
          refine ⟨fun h44 => ?_, fun h44 => ?_⟩
          · rw [if_pos h44, if_neg (by omega)] at h
            conv => whnf
            exact ih (ps_addR G1 a.1) (ps_sk tl tx a.2) σ5 (by rw [ps_nR_add]; omega) h44.1 x5 hX5 h5 h
          · rw [if_neg h44, ps_fin_o] at h
            dsimp only at h
            rw [ps_sk_i] at h
            conv => whnf
            refine ⟨tl, tx, ps_sk tl tx a.2, rfl, rfl, hT, cT_fr (fo_k x5 1 rfl) (fo_d x5 2 rfl (by decide)) hc, s2, h5, ?_⟩
            rw [ps_sk_i]
            by_cases hend : ps_sk tl tx a.2 < tl ∧ tx (ps_sk tl tx a.2) = 59
            · rw [if_pos hend] at h ⊢
              intro σ6 hf6 h6
              conv => whnf
              exact ⟨Or.inr rfl, h σ6 (fo_tr x5 hf6 (by decide) (by decide)) (pC_fr hf6 hX5) h6⟩
            · rw [if_neg hend] at h ⊢
              intro σ6 hf6 h6 h7
              conv => whnf
              exact ⟨Or.inl rfl, h σ6 (fo_tr (fo_tr (fo_rf _ _ _ _) x5 (by decide) (by decide)) hf6 (by decide) (by decide)) h6 h7⟩
  refine hw 60 _ _ _ _ _ ?_
  conv => whnf
  exact loop 7 G p σ (by omega) hp (fo_rf _ _ _ _) hG e1 h
def tr_readClause : am_T := fun as L σ post => ∃ (tl : Nat) (tx : Nat → Nat) (G : ps_G) (p : Nat), as = [.ref 1, .ref 10] ∧ L = LC ∧ okT tl tx ∧ cT tl tx σ ∧ pC G σ ∧ okG G ∧ p ≤ tl ∧ ps_sk tl tx p < tl ∧ σ 1 2 = nI p ∧ rsC (ps_cl tl tx G p) σ post
set_option maxHeartbeats 1000000 in
theorem ct_readClause (l : Launch) : am_Ct l 4 yX5_readClause cX5_readClause 3 (some .boolean) tr_readClause := by
  refine am_ct tbX5_readClause (am_G [tr_nextLetter, tr_faulty, tr_readTreaty, tr_readBarn, tr_readRains]) (by decide +kernel) (by simp) rfl dtX5_readClause rfl ckX5_readClause lkX5_readClause (am_cokF [(1, some (.invokevirtual 33), 0, 1, 5, 0), (24, some (.invokevirtual 44), 1, 3, 5, 0), (73, some (.invokevirtual 48), 2, 2, 5, 0), (85, some (.invokevirtual 44), 1, 3, 5, 0), (100, some (.invokevirtual 54), 3, 2, 5, 0), (112, some (.invokevirtual 44), 1, 3, 5, 0), (125, some (.invokevirtual 60), 4, 2, 5, 0), (137, some (.invokevirtual 44), 1, 3, 5, 0), (147, some (.invokevirtual 44), 1, 3, 5, 0)] rfl (List.forall_mem_cons.mpr ⟨⟨0, _, _, _, _, by decide, (ct_nextLetter l), lnX5_33⟩, List.forall_mem_cons.mpr ⟨⟨0, _, _, _, _, by decide, (ct_faulty l), lnX5_44⟩, List.forall_mem_cons.mpr ⟨⟨2, _, _, _, _, by decide, (ct_readTreaty l), lnX5_48⟩, List.forall_mem_cons.mpr ⟨⟨0, _, _, _, _, by decide, (ct_faulty l), lnX5_44⟩, List.forall_mem_cons.mpr ⟨⟨3, _, _, _, _, by decide, (ct_readBarn l), lnX5_54⟩, List.forall_mem_cons.mpr ⟨⟨0, _, _, _, _, by decide, (ct_faulty l), lnX5_44⟩, List.forall_mem_cons.mpr ⟨⟨2, _, _, _, _, by decide, (ct_readRains l), lnX5_60⟩, List.forall_mem_cons.mpr ⟨⟨0, _, _, _, _, by decide, (ct_faulty l), lnX5_44⟩, List.forall_mem_cons.mpr ⟨⟨0, _, _, _, _, by decide, (ct_faulty l), lnX5_44⟩, fun _ h => absurd h List.not_mem_nil⟩⟩⟩⟩⟩⟩⟩⟩⟩)) ?_
  intro as L σ post h
  obtain ⟨tl, tx, G, p, rfl, rfl, hT, hc, hG, hok, hp, hlt, e1, h⟩ := h
  refine ⟨by simp [am_lv0], fun WW hw => hw 60 _ _ _ _ _ ?_⟩
  have hT1 := hT.1
  have hT2 := hT.2 _ hlt
  have hcn4 : G.1 ≤ 4 := by obtain ⟨cn, st, mn, m, c, e, n, f, k, R, rn⟩ := G; exact hok.1
  have hm8 : ps_nB G ≤ 8 := by obtain ⟨cn, st, mn, m, c, e, n, f, k, R, rn⟩ := G; exact hok.2.1
  have hR8 : ps_nR G ≤ 8 := by obtain ⟨cn, st, mn, m, c, e, n, f, k, R, rn⟩ := G; exact hok.2.2.2.2.2.2.2.1
  unfold ps_cl at h
  conv => whnf
  refine ⟨tl, tx, p, rfl, rfl, hT, hc, hp, e1, fun σ1 hf1 e2 => ?_⟩
  rw [show ps_let tl tx (ps_sk tl tx p) = nI (tx (ps_sk tl tx p)) from if_pos hlt]
  generalize ps_sk tl tx p = q at *
  generalize hw2 : tx q = w at *
  have hG1 := pC_fr hf1 hG
  have k0 := pC_c hG1
  have k3 := pC_m hG1
  have k4 := pC_R hG1
  have c0 : nI G.1 = 0 ↔ G.1 = 0 := nI_eq' (b := 0) (by omega) (by decide)
  have cR : nI (ps_nR G) = 0 ↔ ps_nR G = 0 := nI_eq' (b := 0) (by omega) (by decide)
  have c8 : 8 ≤ nI (ps_nB G) ↔ 8 ≤ ps_nB G := nI_le' (a := 8) (by decide) (by omega)
  have c116 : nI w = 116 ↔ w = 116 := nI_eq' (b := 116) (by omega) (by decide)
  have hf1' : fo 1 [10, 11, 12, 13, 14, 15, 16] [2] σ σ1 := fo_tr (fo_rf _ _ _ _) hf1 (by decide) (by decide)
  have hc1 : cT tl tx σ1 := cT_fr (fo_k hf1 1 rfl) (fo_d hf1 2 rfl (by decide)) hc
  have err : ∀ (nn : Nat), rsC (.error (nn, q)) σ post → ∀ σ2, fo 1 [] [3, 4] σ1 σ2 → σ2 1 3 = nI q → σ2 1 4 = nI nn → post (some (.int 0)) LC σ2 := fun nn h σ2 hf2 h3 h4 => h σ2 (fo_tr (fo_tr (fo_rf _ _ _ _) hf1 (by decide) (by decide)) hf2 (by decide) (by decide)) h3 h4
  have lift : ∀ x, rsC x σ post → rsC x σ1 (fun v L' σ' => (v = some (.int 0) ∨ v = some (.int 1)) ∧ post v L' σ') := by
    intro x hx
    cases x with
    | error x => exact fun σ' hf' h3 h4 => ⟨Or.inl rfl, hx σ' (fo_tr (fo_tr (fo_rf _ _ _ _) hf1 (by decide) (by decide)) hf' (by decide) (by decide)) h3 h4⟩
    | ok g => exact fun σ' hf' h3 h4 => ⟨Or.inr rfl, hx σ' (fo_tr hf1' hf' (by decide) (by decide)) h3 h4⟩
  have M16 : ¬ (G.1 = 0 ∧ ¬ w = 116) → WW 16 [some (.ref 1), some (.ref 10), some (.int (nI w))] [] LC σ1 := by
    intro hn
    rw [if_neg hn] at h
    refine hw 60 _ _ _ _ _ ?_
    conv => whnf
    rw [nI_toInt (by omega)]
    refine ⟨fun q98 => ?_, fun q98 => ⟨fun q116 => ?_, fun q116 => ⟨fun q119 => ?_, fun q119 => ?_⟩⟩⟩
    · have w98 : w = 98 := by omega
      rw [if_neg (by omega), if_pos w98] at h
      conv => whnf
      rw [k3, c8]
      refine ⟨fun cc => ?_, fun cc => ?_⟩
      · rw [if_neg (by omega)] at h
        conv => whnf
        rw [e2]
        refine ⟨_, _, rfl, rfl, fun σ2 hf2 h3 h4 => ?_⟩
        conv => whnf
        exact ⟨Or.inl rfl, err 3 h σ2 hf2 h3 h4⟩
      · rw [if_pos (by omega)] at h
        have h0 : ¬ G.1 = 0 := fun z => hn ⟨z, by omega⟩
        conv => whnf
        refine ⟨tl, tx, G, q, rfl, rfl, hT, hc1, hG1, hlt, by omega, hcn4, by omega, e2, ?_⟩
        have h := lift _ h
        generalize ps_fin tl tx (ps_bn tl tx G (q + 1)) = X at h ⊢
        cases X with
        | error x =>
          intro σ2 hf2 h3 h4
          conv => whnf
          exact ⟨Or.inl rfl, (h σ2 hf2 h3 h4).2⟩
        | ok g =>
          intro σ2 hf2 h3 h4
          conv => whnf
          exact ⟨Or.inr rfl, (h σ2 hf2 h3 h4).2⟩
    · have w116 : w = 116 := by omega
      rw [if_pos w116] at h
      conv => whnf
      rw [k0, c0]
      refine ⟨fun cc => ?_, fun cc => ?_⟩
      · rw [if_neg cc] at h
        conv => whnf
        rw [e2]
        refine ⟨_, _, rfl, rfl, fun σ2 hf2 h3 h4 => ?_⟩
        conv => whnf
        exact ⟨Or.inl rfl, err 3 h σ2 hf2 h3 h4⟩
      · rw [if_pos cc] at h
        conv => whnf
        refine ⟨tl, tx, G, q, rfl, rfl, hT, hc1, hG1, hlt, e2, ?_⟩
        have h := lift _ h
        generalize ps_fin tl tx (ps_tr tl tx G (q + 1)) = X at h ⊢
        cases X with
        | error x =>
          intro σ2 hf2 h3 h4
          conv => whnf
          exact ⟨Or.inl rfl, (h σ2 hf2 h3 h4).2⟩
        | ok g =>
          intro σ2 hf2 h3 h4
          conv => whnf
          exact ⟨Or.inr rfl, (h σ2 hf2 h3 h4).2⟩
    · have w119 : w = 119 := by omega
      rw [if_neg (by omega), if_neg (by omega), if_pos w119] at h
      conv => whnf
      rw [k4, cR]
      refine ⟨fun cc => ?_, fun cc => ?_⟩
      · rw [if_neg cc] at h
        conv => whnf
        rw [e2]
        refine ⟨_, _, rfl, rfl, fun σ2 hf2 h3 h4 => ?_⟩
        conv => whnf
        exact ⟨Or.inl rfl, err 3 h σ2 hf2 h3 h4⟩
      · rw [if_pos cc] at h
        conv => whnf
        refine ⟨tl, tx, G, q, rfl, rfl, hT, hc1, hG1, hlt, cc, e2, ?_⟩
        have h := lift _ h
        generalize ps_fin tl tx (ps_rn tl tx 8 G (q + 1)) = X at h ⊢
        cases X with
        | error x =>
          intro σ2 hf2 h3 h4
          conv => whnf
          exact ⟨Or.inl rfl, (h σ2 hf2 h3 h4).2⟩
        | ok g =>
          intro σ2 hf2 h3 h4
          conv => whnf
          exact ⟨Or.inr rfl, (h σ2 hf2 h3 h4).2⟩
    · rw [if_neg (by omega), if_neg (by omega), if_neg (by omega)] at h
      conv => whnf
      rw [e2]
      refine ⟨_, _, rfl, rfl, fun σ2 hf2 h3 h4 => ?_⟩
      conv => whnf
      exact ⟨Or.inl rfl, err 1 h σ2 hf2 h3 h4⟩
  conv => whnf
  rw [k0, c0]
  refine ⟨fun cc => ?_, fun cc => ?_⟩
  · conv => whnf
    exact M16 (fun hh => cc hh.1)
  · conv => whnf
    rw [c116]
    refine ⟨fun cw => ?_, fun cw => ?_⟩
    · conv => whnf
      exact M16 (fun hh => hh.2 cw)
    · rw [if_pos ⟨cc, cw⟩] at h
      conv => whnf
      rw [e2]
      refine ⟨_, _, rfl, rfl, fun σ2 hf2 h3 h4 => ?_⟩
      conv => whnf
      exact ⟨Or.inl rfl, err 1 h σ2 hf2 h3 h4⟩
