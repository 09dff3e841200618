/-! THE CLASS reads a text: clauses -/
def pC (G : ps_G) (σ : am_M) : Prop := match G with
  | (cn, st, mn, m, c, e, n, f, k, R, rn) => σ 10 0 = nI cn ∧ σ 10 1 = nI st ∧ σ 10 2 = nI mn ∧ σ 10 3 = nI m ∧ σ 10 4 = nI R ∧ (∀ b, b < m → σ 11 b = nI (c b) ∧ σ 12 b = nI (e b) ∧ σ 13 b = nI (n b) ∧ σ 14 b = nI (f b) ∧ σ 15 b = nI (k b)) ∧ ∀ t, t < R → σ 16 t = nI (rn t)
theorem pC_fr {G : ps_G} {ks : List Nat} {σ σ' : am_M} (hf : fo 1 [] ks σ σ') (h : pC G σ) : pC G σ' := by
  obtain ⟨cn, st, mn, m, c, e, n, f, k, R, rn⟩ := G
  unfold pC at *
  rw [fo_d hf 10 rfl (by decide), fo_d hf 11 rfl (by decide), fo_d hf 12 rfl (by decide), fo_d hf 13 rfl (by decide), fo_d hf 14 rfl (by decide), fo_d hf 15 rfl (by decide), fo_d hf 16 rfl (by decide)]
  exact h
def rsC (x : ps_X ps_G) (σ : am_M) (post : am_P) : Prop := match x with
  | .error x => ∀ σ', fo 1 [10, 11, 12, 13, 14, 15, 16] [2, 3, 4] σ σ' → σ' 1 3 = nI x.2 → σ' 1 4 = nI x.1 → post (some (.int 0)) LC σ'
  | .ok g => ∀ σ', fo 1 [10, 11, 12, 13, 14, 15, 16] [2] σ σ' → pC g.1 σ' → σ' 1 2 = nI g.2 → post (some (.int 1)) LC σ'
theorem ps_fin_e (tl : Nat) (tx : Nat → Nat) (x : Nat × Nat) : ps_fin tl tx (.error x) = .error x := rfl
theorem ps_fin_o (tl : Nat) (tx : Nat → Nat) (g : ps_G × Nat) : ps_fin tl tx (.ok g) = if ps_sk tl tx g.2 < tl ∧ tx (ps_sk tl tx g.2) = 59 then .ok (g.1, ps_sk tl tx g.2 + 1) else .error (1, ps_sk tl tx g.2) := rfl
def tr_readTreaty : am_T := fun as L σ post => ∃ (tl : Nat) (tx : Nat → Nat) (G : ps_G) (p : Nat), as = [.ref 1, .ref 10] ∧ L = LC ∧ okT tl tx ∧ cT tl tx σ ∧ pC G σ ∧ p < tl ∧ σ 1 2 = nI p ∧ rsC (ps_fin tl tx (ps_tr tl tx G (p + 1))) σ post
set_option maxHeartbeats 1000000 in
theorem ct_readTreaty (l : Launch) : am_Ct l 2 yX5_readTreaty cX5_readTreaty 5 (some .boolean) tr_readTreaty := by
  refine am_ct tbX5_readTreaty (am_G [tr_readNumber, tr_readEnd]) (by decide +kernel) (by simp) rfl dtX5_readTreaty rfl ckX5_readTreaty lkX5_readTreaty (am_cokF [(13, some (.invokevirtual 63), 0, 3, 5, 0), (30, some (.invokevirtual 63), 0, 3, 5, 0), (47, some (.invokevirtual 63), 0, 3, 5, 0), (77, some (.invokevirtual 73), 1, 1, 5, 0)] rfl (List.forall_mem_cons.mpr ⟨⟨1, _, _, _, _, by decide, (ct_readNumber l), lnX5_63⟩, List.forall_mem_cons.mpr ⟨⟨1, _, _, _, _, by decide, (ct_readNumber l), lnX5_63⟩, List.forall_mem_cons.mpr ⟨⟨1, _, _, _, _, by decide, (ct_readNumber l), lnX5_63⟩, List.forall_mem_cons.mpr ⟨⟨1, _, _, _, _, by decide, (ct_readEnd l), lnX5_73⟩, fun _ h => absurd h List.not_mem_nil⟩⟩⟩⟩)) ?_
  intro as L σ post h
  obtain ⟨tl, tx, G, p, rfl, rfl, hT, hc, hG, hp, e1, h⟩ := h
  refine ⟨by simp [am_lv0], fun WW hw => ?_⟩
  have E2 : ∀ (a b : Int32) (σ1 : am_M), post (some (.int 0)) LC σ1 → WW 32 [some (.ref 1), some (.ref 10), some (.int a), some (.int b)] [.int (-1)] LC σ1 := by
    intro a b σ1 h
    refine hw 60 _ _ _ _ _ ?_
    conv => whnf
    refine ⟨fun c => absurd rfl c, fun _ => ?_⟩
    conv => whnf
    exact ⟨Or.inl rfl, h⟩
  have E1 : ∀ (a : Int32) (σ1 : am_M), post (some (.int 0)) LC σ1 → WW 21 [some (.ref 1), some (.ref 10), some (.int a)] [.int (-1)] LC σ1 := by
    intro a σ1 h
    refine hw 60 _ _ _ _ _ ?_
    conv => whnf
    refine ⟨fun c => absurd rfl c, fun _ => ?_⟩
    conv => whnf
    exact E2 _ _ σ1 h
  have hT1 := hT.1
  refine hw 60 _ _ _ _ _ ?_
  conv => whnf
  rw [e1, nI_1]
  have hf1 : fo 1 [] [2] σ (am_up σ 1 (upd (σ 1) 2 (nI (p + 1)))) := fo_w (fo_rf _ _ _ _) (by decide)
  generalize hs1 : am_up σ 1 (upd (σ 1) 2 (nI (p + 1))) = σ1 at hf1 ⊢
  have e2 : σ1 1 2 = nI (p + 1) := by rw [← hs1, am_us, up_s]
  refine ⟨tl, tx, 1, 4, p + 1, rfl, rfl, hT, cT_fr (fo_k hf1 1 rfl) (fo_d hf1 2 rfl (by decide)) hc, hp, e2, by decide, by decide, ?_⟩
  cases hx1 : ps_num tl tx 1 4 (p + 1) with
  | error x =>
    simp only [ps_tr, hx1, ps_fin_e] at h
    intro σ2 hf2 h3 h4
    conv => whnf
    refine ⟨fun c => absurd rfl c, fun _ => ?_⟩
    conv => whnf
    exact E1 _ σ2 (h σ2 (fo_tr (fo_tr (fo_rf _ _ _ _) hf1 (by decide) (by decide)) hf2 (by decide) (by decide)) h3 h4)
  | ok a =>
    obtain ⟨a1, a2, a3, a4⟩ := ps_num_ok hx1 (by omega)
    intro σ2 hf2 h2
    have hf2' := fo_tr hf1 hf2 (by decide) (by decide)
    conv => whnf
    refine ⟨fun _ => ?_, fun c => absurd c (nI_nm1 (by omega))⟩
    conv => whnf
    refine ⟨tl, tx, 1, 30, a.2, rfl, rfl, hT, cT_fr (fo_k hf2' 1 rfl) (fo_d hf2' 2 rfl (by decide)) hc, a4, h2, by decide, by decide, ?_⟩
    cases hx2 : ps_num tl tx 1 30 a.2 with
    | error x =>
      simp only [ps_tr, hx1, hx2, ps_fin_e] at h
      intro σ3 hf3 h3 h4
      conv => whnf
      exact E1 _ σ3 (h σ3 (fo_tr (fo_tr (fo_rf _ _ _ _) hf2' (by decide) (by decide)) hf3 (by decide) (by decide)) h3 h4)
    | ok b =>
      obtain ⟨b1, b2, b3, b4⟩ := ps_num_ok hx2 a4
      intro σ3 hf3 h3
      have hf3' := fo_tr hf2' hf3 (by decide) (by decide)
      conv => whnf
      refine hw 60 _ _ _ _ _ ?_
      conv => whnf
      refine ⟨fun _ => ?_, fun c => absurd c (nI_nm1 (by omega))⟩
      conv => whnf
      refine ⟨tl, tx, 1, 30, b.2, rfl, rfl, hT, cT_fr (fo_k hf3' 1 rfl) (fo_d hf3' 2 rfl (by decide)) hc, b4, h3, by decide, by decide, ?_⟩
      cases hx3 : ps_num tl tx 1 30 b.2 with
      | error x =>
        simp only [ps_tr, hx1, hx2, hx3, ps_fin_e] at h
        intro σ4 hf4 h3 h4
        conv => whnf
        exact E2 _ _ σ4 (h σ4 (fo_tr (fo_tr (fo_rf _ _ _ _) hf3' (by decide) (by decide)) hf4 (by decide) (by decide)) h3 h4)
      | ok d =>
        obtain ⟨d1, d2, d3, d4⟩ := ps_num_ok hx3 b4
        simp only [ps_tr, hx1, hx2, hx3, ps_fin_o] at h
        intro σ4 hf4 h4
        have hf4' := fo_tr hf3' hf4 (by decide) (by decide)
        conv => whnf
        refine hw 60 _ _ _ _ _ ?_
        conv => whnf
        refine ⟨fun _ => ?_, fun c => absurd c (nI_nm1 (by omega))⟩
        conv => whnf
        have hX : ∀ σ5, σ5 = am_w (am_w (am_w σ4 10 0 (nI a.1)) 10 1 (nI b.1)) 10 2 (nI d.1) → fo 1 [10, 11, 12, 13, 14, 15, 16] [2] σ σ5 ∧ σ5 1 = σ4 1 ∧ σ5 2 = σ4 2 ∧ pC (a.1, b.1, d.1, G.2.2.2) σ5 := by
          intro σ5 hs5
          subst hs5
          refine ⟨fo_up _ (fo_up _ (fo_up _ (fo_tr (fo_rf _ _ _ _) hf4' (by decide) (by decide)) (by decide) (by decide)) (by decide) (by decide)) (by decide) (by decide), ?_, ?_, ?_⟩
          · rw [aw_n _ _ _ _ _ (by decide), aw_n _ _ _ _ _ (by decide), aw_n _ _ _ _ _ (by decide)]
          · rw [aw_n _ _ _ _ _ (by decide), aw_n _ _ _ _ _ (by decide), aw_n _ _ _ _ _ (by decide)]
          · have hG4 := pC_fr hf4' hG
            obtain ⟨cn, st, mn, m, c, e, n, f, k, R, rn⟩ := G
            obtain ⟨g1, g2, g3, g4, g5, g6, g7⟩ := hG4
            refine ⟨?_, ?_, ?_, ?_, ?_, fun q hq => ?_, fun t ht => ?_⟩
            · rw [aw_k _ _ _ _ _ (by decide), aw_k _ _ _ _ _ (by decide), aw_s]
            · rw [aw_k _ _ _ _ _ (by decide), aw_s]
            · rw [aw_s]
            · rw [aw_k _ _ _ _ _ (by decide), aw_k _ _ _ _ _ (by decide), aw_k _ _ _ _ _ (by decide)]; exact g4
            · rw [aw_k _ _ _ _ _ (by decide), aw_k _ _ _ _ _ (by decide), aw_k _ _ _ _ _ (by decide)]; exact g5
            · simp only [aw_n _ _ _ _ _ (show ¬ 11 = 10 by decide), aw_n _ _ _ _ _ (show ¬ 12 = 10 by decide), aw_n _ _ _ _ _ (show ¬ 13 = 10 by decide), aw_n _ _ _ _ _ (show ¬ 14 = 10 by decide), aw_n _ _ _ _ _ (show ¬ 15 = 10 by decide)]
              exact g6 q hq
            · simp only [aw_n _ _ _ _ _ (show ¬ 16 = 10 by decide)]
              exact g7 t ht
        obtain ⟨x1, x2, x3, x4⟩ := hX _ rfl
        refine ⟨tl, tx, d.2, rfl, rfl, hT, ?_, d4, ?_, ?_⟩
        · exact cT_fr ((congrFun x2 1).trans (fo_k hf4' 1 rfl)) (x3.trans (fo_d hf4' 2 rfl (by decide))) hc
        · exact (congrFun x2 2).trans h4
        · by_cases hend : ps_sk tl tx d.2 < tl ∧ tx (ps_sk tl tx d.2) = 59
          · rw [if_pos hend] at h ⊢
            intro σ6 hf6 h6
            conv => whnf
            exact ⟨Or.inr rfl, h σ6 (fo_tr x1 hf6 (by decide) (by decide)) (pC_fr hf6 x4) h6⟩
          · rw [if_neg hend] at h ⊢
            intro σ6 hf6 h6 h7
            conv => whnf
            exact ⟨Or.inl rfl, h σ6 (fo_tr (fo_tr (fo_rf _ _ _ _) x1 (by decide) (by decide)) hf6 (by decide) (by decide)) h6 h7⟩
def tr_readBarn : am_T := fun as L σ post => ∃ (tl : Nat) (tx : Nat → Nat) (G : ps_G) (p : Nat), as = [.ref 1, .ref 10] ∧ L = LC ∧ okT tl tx ∧ cT tl tx σ ∧ pC G σ ∧ p < tl ∧ 0 < G.1 ∧ G.1 ≤ 4 ∧ ps_nB G < 8 ∧ σ 1 2 = nI p ∧ rsC (ps_fin tl tx (ps_bn tl tx G (p + 1))) σ post
set_option maxHeartbeats 2000000 in
theorem ct_readBarn (l : Launch) : am_Ct l 3 yX5_readBarn cX5_readBarn 8 (some .boolean) tr_readBarn := by
  refine am_ct tbX5_readBarn (am_G [tr_readNumber, tr_readNests, tr_readEnd]) (by decide +kernel) (by simp) rfl dtX5_readBarn rfl ckX5_readBarn lkX5_readBarn (am_cokF [(18, some (.invokevirtual 63), 0, 3, 5, 0), (35, some (.invokevirtual 63), 0, 3, 5, 0), (50, some (.invokevirtual 77), 1, 2, 5, 0), (69, some (.invokevirtual 63), 0, 3, 5, 0), (87, some (.invokevirtual 63), 0, 3, 5, 0), (169, some (.invokevirtual 73), 2, 1, 5, 0)] rfl (List.forall_mem_cons.mpr ⟨⟨1, _, _, _, _, by decide, (ct_readNumber l), lnX5_63⟩, List.forall_mem_cons.mpr ⟨⟨1, _, _, _, _, by decide, (ct_readNumber l), lnX5_63⟩, List.forall_mem_cons.mpr ⟨⟨2, _, _, _, _, by decide, (ct_readNests l), lnX5_77⟩, List.forall_mem_cons.mpr ⟨⟨1, _, _, _, _, by decide, (ct_readNumber l), lnX5_63⟩, List.forall_mem_cons.mpr ⟨⟨1, _, _, _, _, by decide, (ct_readNumber l), lnX5_63⟩, List.forall_mem_cons.mpr ⟨⟨1, _, _, _, _, by decide, (ct_readEnd l), lnX5_73⟩, fun _ h => absurd h List.not_mem_nil⟩⟩⟩⟩⟩⟩)) ?_
  intro as L σ post h
  obtain ⟨tl, tx, ⟨cn, st, mn, m, c, e, n, f, k, R, rn⟩, p, rfl, rfl, hT, hc, hG, hp, hcn, hcn4, hm8, e1, h⟩ := h
  refine ⟨by simp [am_lv0], fun WW hw => ?_⟩
  have hcn : 0 < cn := hcn
  have hcn4 : cn ≤ 4 := hcn4
  have hm8 : m < 8 := hm8
  have hT1 := hT.1
  have E5 : ∀ (a b d g : Int32) (σ1 : am_M), post (some (.int 0)) LC σ1 → WW 56 [some (.ref 1), some (.ref 10), some (.int a), some (.int b), some (.int d), some (.int g)] [.int (-1)] LC σ1 := by
    intro a b d g σ1 h
    refine hw 60 _ _ _ _ _ ?_
    conv => whnf
    refine ⟨fun _ => ?_, fun c => absurd rfl c⟩
    conv => whnf
    exact ⟨Or.inl rfl, h⟩
  have E4 : ∀ (a b d : Int32) (σ1 : am_M), post (some (.int 0)) LC σ1 → WW 45 [some (.ref 1), some (.ref 10), some (.int a), some (.int b), some (.int d)] [.int (-1)] LC σ1 := by
    intro a b d σ1 h
    refine hw 60 _ _ _ _ _ ?_
    conv => whnf
    refine ⟨fun c => absurd rfl c, fun _ => ?_⟩
    conv => whnf
    exact E5 _ _ _ _ σ1 h
  have E3 : ∀ (a b : Int32) (σ1 : am_M), post (some (.int 0)) LC σ1 → WW 34 [some (.ref 1), some (.ref 10), some (.int a), some (.int b)] [.int (-1)] LC σ1 := by
    intro a b σ1 h
    refine hw 60 _ _ _ _ _ ?_
    conv => whnf
    refine ⟨fun c => absurd rfl c, fun _ => ?_⟩
    conv => whnf
    exact E4 _ _ _ σ1 h
  have E2 : ∀ (a : Int32) (σ1 : am_M), post (some (.int 0)) LC σ1 → WW 24 [some (.ref 1), some (.ref 10), some (.int a)] [.int (-1)] LC σ1 := by
    intro a σ1 h
    refine hw 60 _ _ _ _ _ ?_
    conv => whnf
    refine ⟨fun c => absurd rfl c, fun _ => ?_⟩
    conv => whnf
    exact E3 _ _ σ1 h
  refine hw 60 _ _ _ _ _ ?_
  conv => whnf
  have hf1 : fo 1 [] [2] σ (am_up σ 1 (upd (σ 1) 2 (nI (p + 1)))) := fo_w (fo_rf _ _ _ _) (by decide)
  rw [e1, nI_1, am_un _ _ _ _ (by decide), hG.1, show nI cn - 1 = nI (cn - 1) from pk_sub hcn]
  generalize hs1 : am_up σ 1 (upd (σ 1) 2 (nI (p + 1))) = σ1 at hf1 ⊢
  have e2 : σ1 1 2 = nI (p + 1) := by rw [← hs1, am_us, up_s]
  refine ⟨tl, tx, 0, cn - 1, p + 1, rfl, rfl, hT, cT_fr (fo_k hf1 1 rfl) (fo_d hf1 2 rfl (by decide)) hc, hp, e2, by decide, by omega, ?_⟩
  cases hx1 : ps_num tl tx 0 (cn - 1) (p + 1) with
  | error x =>
    simp only [ps_bn, hx1, ps_fin_e] at h
    intro σ2 hf2 h3 h4
    conv => whnf
    refine ⟨fun c => absurd rfl c, fun _ => ?_⟩
    conv => whnf
    exact E2 _ σ2 (h σ2 (fo_tr (fo_tr (fo_rf _ _ _ _) hf1 (by decide) (by decide)) hf2 (by decide) (by decide)) h3 h4)
  | ok a =>
    obtain ⟨a1, a2, a3, a4⟩ := ps_num_ok hx1 (by omega)
    intro σ2 hf2 h2
    have hf2' := fo_tr hf1 hf2 (by decide) (by decide)
    conv => whnf
    refine ⟨fun _ => ?_, fun c => absurd c (nI_nm1 (by omega))⟩
    conv => whnf
    refine ⟨tl, tx, 0, 40, a.2, rfl, rfl, hT, cT_fr (fo_k hf2' 1 rfl) (fo_d hf2' 2 rfl (by decide)) hc, a4, h2, by decide, by decide, ?_⟩
    cases hx2 : ps_num tl tx 0 40 a.2 with
    | error x =>
      simp only [ps_bn, hx1, hx2, ps_fin_e] at h
      intro σ3 hf3 h3 h4
      conv => whnf
      exact E2 _ σ3 (h σ3 (fo_tr (fo_tr (fo_rf _ _ _ _) hf2' (by decide) (by decide)) hf3 (by decide) (by decide)) h3 h4)
    | ok b =>
      obtain ⟨b1, b2, b3, b4⟩ := ps_num_ok hx2 a4
      intro σ3 hf3 h3
      have hf3' := fo_tr hf2' hf3 (by decide) (by decide)
      conv => whnf
      refine hw 60 _ _ _ _ _ ?_
      conv => whnf
      refine ⟨fun _ => ?_, fun c => absurd c (nI_nm1 (by omega))⟩
      conv => whnf
      refine ⟨tl, tx, b.1, b.2, rfl, rfl, hT, cT_fr (fo_k hf3' 1 rfl) (fo_d hf3' 2 rfl (by decide)) hc, b4, h3, b2, ?_⟩
      cases hx3 : ps_num tl tx 0 40 b.2 with
      | error x =>
        simp only [ps_bn, hx1, hx2, hx3, ps_fin_e] at h
        intro σ4 hf4 h3 h4
        conv => whnf
        exact E3 _ _ σ4 (h σ4 (fo_tr (fo_tr (fo_rf _ _ _ _) hf3' (by decide) (by decide)) hf4 (by decide) (by decide)) h3 h4)
      | ok d =>
        obtain ⟨d1, d2, d3, d4⟩ := ps_num_ok hx3 b4
        dsimp only
        by_cases hbd : b.1 < d.1
        · rw [if_pos hbd]
          simp only [ps_bn, hx1, hx2, hx3, if_pos hbd, ps_fin_e] at h
          intro σ4 hf4 h3 h4
          conv => whnf
          exact E3 _ _ σ4 (h σ4 (fo_tr (fo_tr (fo_rf _ _ _ _) hf3' (by decide) (by decide)) hf4 (by decide) (by decide)) h3 h4)
        · rw [if_neg hbd]
          intro σ4 hf4 h4
          have hf4' := fo_tr hf3' hf4 (by decide) (by decide)
          conv => whnf
          refine hw 60 _ _ _ _ _ ?_
          conv => whnf
          refine ⟨fun _ => ?_, fun c => absurd c (nI_nm1 (by omega))⟩
          conv => whnf
          refine ⟨tl, tx, 0, 9, d.2, rfl, rfl, hT, cT_fr (fo_k hf4' 1 rfl) (fo_d hf4' 2 rfl (by decide)) hc, d4, h4, by decide, by decide, ?_⟩
          cases hx4 : ps_num tl tx 0 9 d.2 with
          | error x =>
            simp only [ps_bn, hx1, hx2, hx3, if_neg hbd, hx4, ps_fin_e] at h
            intro σ5 hf5 h3 h4
            conv => whnf
            exact E4 _ _ _ σ5 (h σ5 (fo_tr (fo_tr (fo_rf _ _ _ _) hf4' (by decide) (by decide)) hf5 (by decide) (by decide)) h3 h4)
          | ok g =>
            obtain ⟨i1, i2, i3, i4⟩ := ps_num_ok hx4 d4
            intro σ5 hf5 h5
            have hf5' := fo_tr hf4' hf5 (by decide) (by decide)
            conv => whnf
            refine hw 60 _ _ _ _ _ ?_
            conv => whnf
            refine ⟨fun _ => ?_, fun c => absurd c (nI_nm1 (by omega))⟩
            conv => whnf
            refine ⟨tl, tx, 0, 3, g.2, rfl, rfl, hT, cT_fr (fo_k hf5' 1 rfl) (fo_d hf5' 2 rfl (by decide)) hc, i4, h5, by decide, by decide, ?_⟩
            cases hx5 : ps_num tl tx 0 3 g.2 with
            | error x =>
              simp only [ps_bn, hx1, hx2, hx3, if_neg hbd, hx4, hx5, ps_fin_e] at h
              intro σ6 hf6 h3 h4
              conv => whnf
              exact E5 _ _ _ _ σ6 (h σ6 (fo_tr (fo_tr (fo_rf _ _ _ _) hf5' (by decide) (by decide)) hf6 (by decide) (by decide)) h3 h4)
            | ok hh =>
              obtain ⟨j1, j2, j3, j4⟩ := ps_num_ok hx5 i4
              simp only [ps_bn, hx1, hx2, hx3, if_neg hbd, hx4, hx5, ps_fin_o] at h
              intro σ6 hf6 h6
              have hf6' := fo_tr hf5' hf6 (by decide) (by decide)
              have hG6 := pC_fr hf6' hG
              obtain ⟨g1, g2, g3, g4, g5, g6, g7⟩ := hG6
              have n8 : nI m < 8 := (nI_lt' (a := m) (b := 8) (by omega) (by decide)).2 hm8
              conv => whnf
              refine hw 60 _ _ _ _ _ ?_
              conv => whnf
              refine ⟨fun c => absurd c (nI_nm1 (by omega)), fun _ => ?_⟩
              conv => whnf
              rw [g4]
              refine ⟨fun _ => ?_, fun c => absurd n8 c⟩
              conv => whnf
              refine hw 60 _ _ _ _ _ ?_
              conv => whnf
              rw [g4]
              have vm : vp_in (nI m) 8 := vp_j hm8 (by decide)
              have cm : (nI m).toNatClampNeg = m := nI_cl (by omega)
              repeat ((conv => whnf); refine And.intro ?_ ?_; first | with_reducible assumption | decide)
              conv => whnf
              rw [cm]
              simp only [am_un _ _ _ _ (show ¬ 10 = 15 by decide), am_un _ _ _ _ (show ¬ 10 = 14 by decide), am_un _ _ _ _ (show ¬ 10 = 13 by decide), am_un _ _ _ _ (show ¬ 10 = 12 by decide), am_un _ _ _ _ (show ¬ 10 = 11 by decide), am_un _ _ _ _ (show ¬ 15 = 14 by decide), am_un _ _ _ _ (show ¬ 15 = 13 by decide), am_un _ _ _ _ (show ¬ 15 = 12 by decide), am_un _ _ _ _ (show ¬ 15 = 11 by decide), am_un _ _ _ _ (show ¬ 14 = 13 by decide), am_un _ _ _ _ (show ¬ 14 = 12 by decide), am_un _ _ _ _ (show ¬ 14 = 11 by decide), am_un _ _ _ _ (show ¬ 13 = 12 by decide), am_un _ _ _ _ (show ¬ 13 = 11 by decide), am_un _ _ _ _ (show ¬ 12 = 11 by decide), g4, nI_1, cond_false]
              have hX : ∀ σ7, σ7 = am_up (am_up (am_up (am_up (am_up (am_up σ6 11 (upd (σ6 11) m (nI a.1))) 12 (upd (σ6 12) m (nI b.1))) 13 (upd (σ6 13) m (nI d.1))) 14 (upd (σ6 14) m (nI g.1))) 15 (upd (σ6 15) m (nI hh.1))) 10 (upd (σ6 10) 3 (nI (m + 1))) → fo 1 [10, 11, 12, 13, 14, 15, 16] [2] σ σ7 ∧ σ7 1 = σ6 1 ∧ σ7 2 = σ6 2 ∧ pC (cn, st, mn, m + 1, va_up c m a.1, va_up e m b.1, va_up n m d.1, va_up f m g.1, va_up k m hh.1, R, rn) σ7 := by
                intro σ7 hs7
                subst hs7
                refine ⟨fo_up _ (fo_up _ (fo_up _ (fo_up _ (fo_up _ (fo_up _ (fo_tr (fo_rf _ _ _ _) hf6' (by decide) (by decide)) (by decide) (by decide)) (by decide) (by decide)) (by decide) (by decide)) (by decide) (by decide)) (by decide) (by decide)) (by decide) (by decide), ?_, ?_, ?_⟩
                · repeat rw [am_un _ _ _ _ (by decide)]
                · repeat rw [am_un _ _ _ _ (by decide)]
                · refine ⟨?_, ?_, ?_, ?_, ?_, fun q hq => ?_, fun t ht => ?_⟩
                  · rw [am_us, up_n _ _ _ _ (by decide)]; exact g1
                  · rw [am_us, up_n _ _ _ _ (by decide)]; exact g2
                  · rw [am_us, up_n _ _ _ _ (by decide)]; exact g3
                  · rw [am_us, up_s]
                  · rw [am_us, up_n _ _ _ _ (by decide)]; exact g5
                  · simp only [am_us, am_un _ _ _ _ (show ¬ 11 = 10 by decide), am_un _ _ _ _ (show ¬ 11 = 15 by decide), am_un _ _ _ _ (show ¬ 11 = 14 by decide), am_un _ _ _ _ (show ¬ 11 = 13 by decide), am_un _ _ _ _ (show ¬ 11 = 12 by decide), am_un _ _ _ _ (show ¬ 12 = 10 by decide), am_un _ _ _ _ (show ¬ 12 = 15 by decide), am_un _ _ _ _ (show ¬ 12 = 14 by decide), am_un _ _ _ _ (show ¬ 12 = 13 by decide), am_un _ _ _ _ (show ¬ 13 = 10 by decide), am_un _ _ _ _ (show ¬ 13 = 15 by decide), am_un _ _ _ _ (show ¬ 13 = 14 by decide), am_un _ _ _ _ (show ¬ 14 = 10 by decide), am_un _ _ _ _ (show ¬ 14 = 15 by decide), am_un _ _ _ _ (show ¬ 15 = 10 by decide)]
                    by_cases eq : q = m
                    · subst eq
                      rw [up_s, up_s, up_s, up_s, up_s, up_vs, up_vs, up_vs, up_vs, up_vs]
                      exact ⟨rfl, rfl, rfl, rfl, rfl⟩
                    · rw [up_n _ _ _ _ eq, up_n _ _ _ _ eq, up_n _ _ _ _ eq, up_n _ _ _ _ eq, up_n _ _ _ _ eq, up_vn _ _ _ _ eq, up_vn _ _ _ _ eq, up_vn _ _ _ _ eq, up_vn _ _ _ _ eq, up_vn _ _ _ _ eq]
                      exact g6 q (by omega)
                  · simp only [am_un _ _ _ _ (show ¬ 16 = 10 by decide), am_un _ _ _ _ (show ¬ 16 = 15 by decide), am_un _ _ _ _ (show ¬ 16 = 14 by decide), am_un _ _ _ _ (show ¬ 16 = 13 by decide), am_un _ _ _ _ (show ¬ 16 = 12 by decide), am_un _ _ _ _ (show ¬ 16 = 11 by decide)]
                    exact g7 t ht
              obtain ⟨x1, x2, x3, x4⟩ := hX _ rfl
              refine ⟨tl, tx, hh.2, trivial, trivial, hT, ?_, j4, ?_, ?_⟩
              · exact cT_fr ((congrFun x2 1).trans (fo_k hf6' 1 rfl)) (x3.trans (fo_d hf6' 2 rfl (by decide))) hc
              · exact (congrFun x2 2).trans h6
              · by_cases hend : ps_sk tl tx hh.2 < tl ∧ tx (ps_sk tl tx hh.2) = 59
                · rw [if_pos hend] at h ⊢
                  intro σ8 hf8 h8
                  conv => whnf
                  exact ⟨Or.inr rfl, h σ8 (fo_tr x1 hf8 (by decide) (by decide)) (pC_fr hf8 x4) h8⟩
                · rw [if_neg hend] at h ⊢
                  intro σ8 hf8 h8 h9
                  conv => whnf
                  exact ⟨Or.inl rfl, h σ8 (fo_tr (fo_tr (fo_rf _ _ _ _) x1 (by decide) (by decide)) hf8 (by decide) (by decide)) h8 h9⟩
