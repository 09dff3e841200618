/-! THE REFERENCE reads a text: clauses -/
def pM (G : ps_G) (σ : am_M) : Prop := match G with
  | (cn, st, mn, m, c, e, n, f, k, R, rn) => σ 7 0 = nI cn ∧ σ 7 1 = nI st ∧ σ 7 2 = nI mn ∧ σ 0 18 = nI m ∧ σ 0 24 = nI R ∧ (∀ b, b < m → σ 8 b = nI (c b) ∧ σ 9 b = nI (e b) ∧ σ 10 b = nI (n b) ∧ σ 11 b = nI (f b) ∧ σ 12 b = nI (k b)) ∧ ∀ t, t < R → σ 13 t = nI (rn t)
theorem pM_fr {G : ps_G} {σ σ' : am_M} (hf : fm [] [13, 14, 15, 16] σ σ') (h : pM G σ) : pM G σ' := by
  obtain ⟨cn, st, mn, m, c, e, n, f, k, R, rn⟩ := G
  unfold pM at *
  rw [fm_k hf 18 rfl, fm_k hf 24 rfl, fm_d hf 7 rfl (by decide), fm_d hf 8 rfl (by decide), fm_d hf 9 rfl (by decide), fm_d hf 10 rfl (by decide), fm_d hf 11 rfl (by decide), fm_d hf 12 rfl (by decide), fm_d hf 13 rfl (by decide)]
  exact h
def rsM (x : ps_X ps_G) (σ : am_M) (post : am_P) : Prop := match x with
  | .error x => ∀ σ', fm [7, 8, 9, 10, 11, 12, 13] [13, 14, 15, 16, 18, 24] σ σ' → σ' 0 13 = nI x.2 → post (some (.int (nI x.1))) LM σ'
  | .ok g => ∀ σ', fm [7, 8, 9, 10, 11, 12, 13] [14, 15, 16, 18, 24] σ σ' → pM g.1 σ' → σ' 0 14 = nI g.2 → post (some (.int 0)) LM σ'
theorem nI_npos {n : Nat} (h0 : 0 < n) (h : n < 1000) : ¬ nI n ≤ 0 := fun q => by have := (nI_le' (b := 0) (by omega) (by decide)).1 q; omega
def tr_mtakeTreaty : am_T := fun as L σ post => ∃ (tl : Nat) (tx : Nat → Nat) (G : ps_G) (p : Nat), as = [.ref 0] ∧ L = LM ∧ okT tl tx ∧ mT tl tx σ ∧ pM G σ ∧ p ≤ tl ∧ σ 0 14 = nI p ∧ rsM (ps_tr tl tx G p) σ post
set_option maxHeartbeats 1000000 in
theorem ct_mtakeTreaty (l : Launch) : am_Ct l 3 yX7_takeTreaty cX7_takeTreaty 2 (some .int) tr_mtakeTreaty := by
  refine am_ct tbX7_takeTreaty (am_G [tr_minto]) (by decide +kernel) (by simp) rfl dtX7_takeTreaty rfl ckX7_takeTreaty lkX7_takeTreaty (am_cokF [(8, some (.invokevirtual 137), 0, 5, 7, 0), (29, some (.invokevirtual 137), 0, 5, 7, 0), (50, some (.invokevirtual 137), 0, 5, 7, 0)] rfl (List.forall_mem_cons.mpr ⟨⟨2, _, _, _, _, by decide, (ct_minto l), lnX7_137⟩, List.forall_mem_cons.mpr ⟨⟨2, _, _, _, _, by decide, (ct_minto l), lnX7_137⟩, List.forall_mem_cons.mpr ⟨⟨2, _, _, _, _, by decide, (ct_minto l), lnX7_137⟩, fun _ h => absurd h List.not_mem_nil⟩⟩⟩)) ?_
  intro as L σ post h
  obtain ⟨tl, tx, G, p, rfl, rfl, hT, hc, hG, hp, e1, h⟩ := h
  refine ⟨by simp [am_lv0], fun WW hw => ?_⟩
  have hT1 := hT.1
  have E33 : ∀ (o v : Int32) (σ1 : am_M), post (some (.int v)) LM σ1 → WW 33 [some (.ref 0), some (.int o)] [.int v] LM σ1 := by
    intro o v σ1 h
    refine hw 60 _ _ _ _ _ ?_
    conv => whnf
    exact h
  have E20 : ∀ (o v : Int32) (σ1 : am_M), ¬ v ≤ 0 → post (some (.int v)) LM σ1 → WW 20 [some (.ref 0), some (.int o)] [.int v] LM σ1 := by
    intro o v σ1 hv h
    refine hw 60 _ _ _ _ _ ?_
    conv => whnf
    refine ⟨fun c => absurd c hv, fun _ => ?_⟩
    conv => whnf
    exact E33 _ _ σ1 h
  refine hw 60 _ _ _ _ _ ?_
  conv => whnf
  refine ⟨tl, tx, 7, 3, 0, 1, 4, p, rfl, rfl, Or.inl ⟨rfl, rfl⟩, by decide, hT, hc, hp, e1, by decide, by decide, ?_⟩
  cases hx1 : ps_num tl tx 1 4 p with
  | error x =>
    simp only [ps_tr, hx1] at h
    have hx0 := (ps_num_er hx1 hp).1
    intro σ2 hf2 h3
    have hn : ¬ nI x.1 ≤ 0 := nI_npos (by omega) (by omega)
    conv => whnf
    refine ⟨fun c => absurd c hn, fun _ => ?_⟩
    conv => whnf
    exact E20 _ _ σ2 hn (h σ2 (fm_tr (fm_rf _ _ _) hf2 (by decide) (by decide)) h3)
  | ok a =>
    obtain ⟨a1, a2, a3, a4⟩ := ps_num_ok hx1 hp
    intro σ2 hf2 w2 h2 q2
    have hf2' : fm [7] [14, 15, 16] σ σ2 := hf2
    conv => whnf
    refine ⟨fun _ => ?_, fun c => absurd (Int32.le_refl _) c⟩
    conv => whnf
    refine ⟨tl, tx, 7, 3, 1, 1, 30, a.2, rfl, rfl, Or.inl ⟨rfl, rfl⟩, by decide, hT, mT_fr (fm_k hf2' 12 rfl) (fm_d hf2' 6 rfl (by decide)) hc, a4, h2, by decide, by decide, ?_⟩
    cases hx2 : ps_num tl tx 1 30 a.2 with
    | error x =>
      simp only [ps_tr, hx1, hx2] at h
      have hx0 := (ps_num_er hx2 a4).1
      intro σ3 hf3 h3
      conv => whnf
      exact E20 _ _ σ3 (nI_npos (by omega) (by omega)) (h σ3 (fm_tr (fm_tr (fm_rf _ _ _) hf2' (by decide) (by decide)) hf3 (by decide) (by decide)) h3)
    | ok b =>
      obtain ⟨b1, b2, b3, b4⟩ := ps_num_ok hx2 a4
      intro σ3 hf3 w3 h3 q3
      have hf3' : fm [7] [14, 15, 16] σ σ3 := fm_tr hf2' hf3 (by decide) (by decide)
      conv => whnf
      refine hw 60 _ _ _ _ _ ?_
      conv => whnf
      refine ⟨fun _ => ?_, fun c => absurd (Int32.le_refl _) c⟩
      conv => whnf
      refine ⟨tl, tx, 7, 3, 2, 1, 30, b.2, rfl, rfl, Or.inl ⟨rfl, rfl⟩, by decide, hT, mT_fr (fm_k hf3' 12 rfl) (fm_d hf3' 6 rfl (by decide)) hc, b4, h3, by decide, by decide, ?_⟩
      cases hx3 : ps_num tl tx 1 30 b.2 with
      | error x =>
        simp only [ps_tr, hx1, hx2, hx3] at h
        intro σ4 hf4 h4
        conv => whnf
        exact E33 _ _ σ4 (h σ4 (fm_tr (fm_tr (fm_rf _ _ _) hf3' (by decide) (by decide)) hf4 (by decide) (by decide)) h4)
      | ok d =>
        simp only [ps_tr, hx1, hx2, hx3] at h
        intro σ4 hf4 w4 h4 q4
        have hf4' : fm [7] [14, 15, 16] σ σ4 := fm_tr hf3' hf4 (by decide) (by decide)
        conv => whnf
        refine E33 _ _ σ4 (h σ4 (fm_tr (fm_rf _ _ _) hf4' (by decide) (by decide)) ?_ h4)
        obtain ⟨cn, st, mn, m, c, e, n, f, k, R, rn⟩ := G
        obtain ⟨g1, g2, g3, g4, g5, g6, g7⟩ := hG
        refine ⟨?_, ?_, ?_, ?_, ?_, fun q hq => ?_, fun t ht => ?_⟩
        · rw [w4, up_n _ _ _ _ (by decide), w3, up_n _ _ _ _ (by decide), w2, up_s]
        · rw [w4, up_n _ _ _ _ (by decide), w3, up_s]
        · rw [w4, up_s]
        · rw [fm_k hf4' 18 rfl]; exact g4
        · rw [fm_k hf4' 24 rfl]; exact g5
        · rw [fm_d hf4' 8 rfl (by decide), fm_d hf4' 9 rfl (by decide), fm_d hf4' 10 rfl (by decide), fm_d hf4' 11 rfl (by decide), fm_d hf4' 12 rfl (by decide)]; exact g6 q hq
        · rw [fm_d hf4' 13 rfl (by decide)]; exact g7 t ht
def tr_mtakeBarn : am_T := fun as L σ post => ∃ (tl : Nat) (tx : Nat → Nat) (G : ps_G) (p : Nat), as = [.ref 0] ∧ L = LM ∧ okT tl tx ∧ mT tl tx σ ∧ pM G σ ∧ p ≤ tl ∧ 0 < G.1 ∧ G.1 ≤ 4 ∧ ps_nB G < 8 ∧ σ 0 14 = nI p ∧ rsM (ps_bn tl tx G p) σ post
set_option maxHeartbeats 2000000 in
theorem ct_mtakeBarn (l : Launch) : am_Ct l 3 yX7_takeBarn cX7_takeBarn 3 (some .int) tr_mtakeBarn := by
  refine am_ct tbX7_takeBarn (am_G [tr_minto, tr_mfails]) (by decide +kernel) (by simp) rfl dtX7_takeBarn rfl ckX7_takeBarn lkX7_takeBarn (am_cokF [(30, some (.invokevirtual 137), 0, 5, 7, 0), (51, some (.invokevirtual 137), 0, 5, 7, 0), (72, some (.invokevirtual 137), 0, 5, 7, 0), (101, some (.invokevirtual 124), 1, 3, 7, 0), (122, some (.invokevirtual 137), 0, 5, 7, 0), (142, some (.invokevirtual 137), 0, 5, 7, 0)] rfl (List.forall_mem_cons.mpr ⟨⟨2, _, _, _, _, by decide, (ct_minto l), lnX7_137⟩, List.forall_mem_cons.mpr ⟨⟨2, _, _, _, _, by decide, (ct_minto l), lnX7_137⟩, List.forall_mem_cons.mpr ⟨⟨2, _, _, _, _, by decide, (ct_minto l), lnX7_137⟩, List.forall_mem_cons.mpr ⟨⟨0, _, _, _, _, by decide, (ct_mfails l), lnX7_124⟩, List.forall_mem_cons.mpr ⟨⟨2, _, _, _, _, by decide, (ct_minto l), lnX7_137⟩, List.forall_mem_cons.mpr ⟨⟨2, _, _, _, _, by decide, (ct_minto l), lnX7_137⟩, fun _ h => absurd h List.not_mem_nil⟩⟩⟩⟩⟩⟩)) ?_
  intro as L σ post h
  obtain ⟨tl, tx, ⟨cn, st, mn, m, c, e, n, f, k, R, rn⟩, p, rfl, rfl, hT, hc, hG, hp, hcn, hcn4, hm8, e1, h⟩ := h
  refine ⟨by simp [am_lv0], fun WW hw => ?_⟩
  have hcn : 0 < cn := hcn
  have hcn4 : cn ≤ 4 := hcn4
  have hm8 : m < 8 := hm8
  have hT1 := hT.1
  obtain ⟨g1, g2, g3, g4, g5, g6, g7⟩ := hG
  have E91 : ∀ (b o v : Int32) (σ1 : am_M), post (some (.int v)) LM σ1 → WW 91 [some (.ref 0), some (.int b), some (.int o)] [.int v] LM σ1 := by
    intro b o v σ1 h
    refine hw 60 _ _ _ _ _ ?_
    conv => whnf
    exact h
  have E78 : ∀ (b o v : Int32) (σ1 : am_M), ¬ v ≤ 0 → post (some (.int v)) LM σ1 → WW 78 [some (.ref 0), some (.int b), some (.int o)] [.int v] LM σ1 := by
    intro b o v σ1 hv h
    refine hw 60 _ _ _ _ _ ?_
    conv => whnf
    refine ⟨fun c => absurd c hv, fun _ => ?_⟩
    conv => whnf
    exact E91 _ _ _ σ1 h
  have E66 : ∀ (b v : Int32) (σ1 : am_M), ¬ v ≤ 0 → post (some (.int v)) LM σ1 → WW 66 [some (.ref 0), some (.int b), some (.int v)] [] LM σ1 := by
    intro b v σ1 hv h
    refine hw 60 _ _ _ _ _ ?_
    conv => whnf
    refine ⟨fun c => absurd c hv, fun _ => ?_⟩
    conv => whnf
    exact E78 _ _ _ σ1 hv h
  have E47 : ∀ (b o v : Int32) (σ1 : am_M), ¬ v ≤ 0 → post (some (.int v)) LM σ1 → WW 47 [some (.ref 0), some (.int b), some (.int o)] [.int v] LM σ1 := by
    intro b o v σ1 hv h
    refine hw 60 _ _ _ _ _ ?_
    conv => whnf
    refine ⟨fun _ => ?_, fun c => absurd (by rw [c]; exact Int32.le_refl _) hv⟩
    conv => whnf
    exact E66 _ _ σ1 hv h
  have E34 : ∀ (b o v : Int32) (σ1 : am_M), ¬ v ≤ 0 → post (some (.int v)) LM σ1 → WW 34 [some (.ref 0), some (.int b), some (.int o)] [.int v] LM σ1 := by
    intro b o v σ1 hv h
    refine hw 60 _ _ _ _ _ ?_
    conv => whnf
    refine ⟨fun c => absurd c hv, fun _ => ?_⟩
    conv => whnf
    exact E47 _ _ _ σ1 hv h
  have vm : vp_in (nI m) 8 := vp_j hm8 (by decide)
  have cm : (nI m).toNatClampNeg = m := nI_cl (by omega)
  have v0 : vp_in (0 : Int32) 3 := vp_j (j := 0) (by decide) (by decide)
  have c0' : (0 : Int32).toNatClampNeg = 0 := by decide
  refine hw 60 _ _ _ _ _ ?_
  repeat ((conv => whnf); refine And.intro ?_ ?_; first | with_reducible assumption | decide)
  conv => whnf
  rw [c0', am_un _ _ _ _ (by decide), g4, g1, nI_1, show nI cn - 1 = nI (cn - 1) from pk_sub hcn]
  have hf1 : fm [] [18] σ (am_up σ 0 (upd (σ 0) 18 (nI (m + 1)))) := fm_w0 (fm_rf _ _ _) (by decide)
  generalize hs1 : am_up σ 0 (upd (σ 0) 18 (nI (m + 1))) = σ1 at hf1 ⊢
  have k18 : σ1 0 18 = nI (m + 1) := by rw [← hs1, am_us, up_s]
  refine ⟨tl, tx, 8, 8, m, 0, cn - 1, p, rfl, rfl, Or.inr (Or.inl ⟨rfl, rfl⟩), hm8, hT, mT_fr (fm_k hf1 12 rfl) (fm_d hf1 6 rfl (by decide)) hc, hp, (fm_k hf1 14 rfl).trans e1, by decide, by omega, ?_⟩
  cases hx1 : ps_num tl tx 0 (cn - 1) p with
  | error x =>
    simp only [ps_bn, hx1] at h
    have hx0 := (ps_num_er hx1 hp).1
    intro σ2 hf2 h3
    have hn : ¬ nI x.1 ≤ 0 := nI_npos (by omega) (by omega)
    conv => whnf
    refine ⟨fun c => absurd c hn, fun _ => ?_⟩
    conv => whnf
    exact E34 _ _ _ σ2 hn (h σ2 (fm_tr (fm_tr (fm_rf _ _ _) hf1 (by decide) (by decide)) hf2 (by decide) (by decide)) h3)
  | ok a =>
    obtain ⟨a1, a2, a3, a4⟩ := ps_num_ok hx1 hp
    intro σ2 hf2 w2 h2 q2
    have hf2' : fm [8, 9, 10, 11, 12] [14, 15, 16, 18] σ σ2 := fm_tr (fm_tr (fm_rf _ _ _) hf1 (by decide) (by decide)) hf2 (by decide) (by decide)
    conv => whnf
    refine ⟨fun _ => ?_, fun c => absurd (Int32.le_refl _) c⟩
    conv => whnf
    refine ⟨tl, tx, 9, 8, m, 0, 40, a.2, rfl, rfl, Or.inr (Or.inr (Or.inl ⟨rfl, rfl⟩)), hm8, hT, mT_fr (fm_k hf2' 12 rfl) (fm_d hf2' 6 rfl (by decide)) hc, a4, h2, by decide, by decide, ?_⟩
    cases hx2 : ps_num tl tx 0 40 a.2 with
    | error x =>
      simp only [ps_bn, hx1, hx2] at h
      have hx0 := (ps_num_er hx2 a4).1
      intro σ3 hf3 h3
      conv => whnf
      exact E34 _ _ _ σ3 (nI_npos (by omega) (by omega)) (h σ3 (fm_tr (fm_tr (fm_rf _ _ _) hf2' (by decide) (by decide)) hf3 (by decide) (by decide)) h3)
    | ok b =>
      obtain ⟨b1, b2, b3, b4⟩ := ps_num_ok hx2 a4
      intro σ3 hf3 w3 h3 q3
      have hf3' : fm [8, 9, 10, 11, 12] [14, 15, 16, 18] σ σ3 := fm_tr hf2' hf3 (by decide) (by decide)
      conv => whnf
      refine hw 60 _ _ _ _ _ ?_
      conv => whnf
      refine ⟨fun _ => ?_, fun c => absurd (Int32.le_refl _) c⟩
      conv => whnf
      refine ⟨tl, tx, 10, 8, m, 0, 40, b.2, rfl, rfl, Or.inr (Or.inr (Or.inr (Or.inl ⟨rfl, rfl⟩))), hm8, hT, mT_fr (fm_k hf3' 12 rfl) (fm_d hf3' 6 rfl (by decide)) hc, b4, h3, by decide, by decide, ?_⟩
      cases hx3 : ps_num tl tx 0 40 b.2 with
      | error x =>
        simp only [ps_bn, hx1, hx2, hx3] at h
        have hx0 := (ps_num_er hx3 b4).1
        intro σ4 hf4 h4
        conv => whnf
        exact E47 _ _ _ σ4 (nI_npos (by omega) (by omega)) (h σ4 (fm_tr (fm_tr (fm_rf _ _ _) hf3' (by decide) (by decide)) hf4 (by decide) (by decide)) h4)
      | ok d =>
        obtain ⟨d1, d2, d3, d4⟩ := ps_num_ok hx3 b4
        intro σ4 hf4 w4 h4 q4
        have hf4' : fm [8, 9, 10, 11, 12] [14, 15, 16, 18] σ σ4 := fm_tr hf3' hf4 (by decide) (by decide)
        have r10 : σ4 10 m = nI d.1 := by rw [w4, up_s]
        have r9 : σ4 9 m = nI b.1 := by rw [fm_d hf4 9 rfl (by decide), w3, up_s]
        conv => whnf
        refine hw 60 _ _ _ _ _ ?_
        conv => whnf
        refine ⟨fun c => absurd rfl c, fun _ => ?_⟩
        repeat ((conv => whnf); refine And.intro ?_ ?_; first | with_reducible assumption | decide)
        conv => whnf
        rw [cm, r10, r9, nI_le' (by omega) (by omega)]
        refine ⟨fun cc => ?_, fun cc => ?_⟩
        · have hbd : ¬ b.1 < d.1 := by omega
          conv => whnf
          refine hw 60 _ _ _ _ _ ?_
          conv => whnf
          refine ⟨fun _ => ?_, fun c => absurd (Int32.le_refl _) c⟩
          conv => whnf
          refine ⟨tl, tx, 11, 8, m, 0, 9, d.2, rfl, rfl, Or.inr (Or.inr (Or.inr (Or.inr (Or.inl ⟨rfl, rfl⟩)))), hm8, hT, mT_fr (fm_k hf4' 12 rfl) (fm_d hf4' 6 rfl (by decide)) hc, d4, h4, by decide, by decide, ?_⟩
          cases hx4 : ps_num tl tx 0 9 d.2 with
          | error x =>
            simp only [ps_bn, hx1, hx2, hx3, if_neg hbd, hx4] at h
            have hx0 := (ps_num_er hx4 d4).1
            intro σ5 hf5 h5
            conv => whnf
            exact E78 _ _ _ σ5 (nI_npos (by omega) (by omega)) (h σ5 (fm_tr (fm_tr (fm_rf _ _ _) hf4' (by decide) (by decide)) hf5 (by decide) (by decide)) h5)
          | ok g =>
            obtain ⟨i1, i2, i3, i4⟩ := ps_num_ok hx4 d4
            intro σ5 hf5 w5 h5 q5
            have hf5' : fm [8, 9, 10, 11, 12] [14, 15, 16, 18] σ σ5 := fm_tr hf4' hf5 (by decide) (by decide)
            conv => whnf
            refine hw 60 _ _ _ _ _ ?_
            conv => whnf
            refine ⟨fun _ => ?_, fun c => absurd (Int32.le_refl _) c⟩
            conv => whnf
            refine ⟨tl, tx, 12, 8, m, 0, 3, g.2, rfl, rfl, Or.inr (Or.inr (Or.inr (Or.inr (Or.inr (Or.inl ⟨rfl, rfl⟩))))), hm8, hT, mT_fr (fm_k hf5' 12 rfl) (fm_d hf5' 6 rfl (by decide)) hc, i4, h5, by decide, by decide, ?_⟩
            cases hx5 : ps_num tl tx 0 3 g.2 with
            | error x =>
              simp only [ps_bn, hx1, hx2, hx3, if_neg hbd, hx4, hx5] at h
              intro σ6 hf6 h6
              conv => whnf
              exact E91 _ _ _ σ6 (h σ6 (fm_tr (fm_tr (fm_rf _ _ _) hf5' (by decide) (by decide)) hf6 (by decide) (by decide)) h6)
            | ok hh =>
              simp only [ps_bn, hx1, hx2, hx3, if_neg hbd, hx4, hx5] at h
              intro σ6 hf6 w6 h6 q6
              have hf6' : fm [8, 9, 10, 11, 12] [14, 15, 16, 18] σ σ6 := fm_tr hf5' hf6 (by decide) (by decide)
              have y8 : σ6 8 = upd (σ 8) m (nI a.1) := by rw [fm_d hf6 8 rfl (by decide), fm_d hf5 8 rfl (by decide), fm_d hf4 8 rfl (by decide), fm_d hf3 8 rfl (by decide), w2, fm_d hf1 8 rfl (by decide)]
              have y9 : σ6 9 = upd (σ 9) m (nI b.1) := by rw [fm_d hf6 9 rfl (by decide), fm_d hf5 9 rfl (by decide), fm_d hf4 9 rfl (by decide), w3, fm_d hf2 9 rfl (by decide), fm_d hf1 9 rfl (by decide)]
              have y10 : σ6 10 = upd (σ 10) m (nI d.1) := by rw [fm_d hf6 10 rfl (by decide), fm_d hf5 10 rfl (by decide), w4, fm_d hf3 10 rfl (by decide), fm_d hf2 10 rfl (by decide), fm_d hf1 10 rfl (by decide)]
              have y11 : σ6 11 = upd (σ 11) m (nI g.1) := by rw [fm_d hf6 11 rfl (by decide), w5, fm_d hf4 11 rfl (by decide), fm_d hf3 11 rfl (by decide), fm_d hf2 11 rfl (by decide), fm_d hf1 11 rfl (by decide)]
              have y12 : σ6 12 = upd (σ 12) m (nI hh.1) := by rw [w6, fm_d hf5 12 rfl (by decide), fm_d hf4 12 rfl (by decide), fm_d hf3 12 rfl (by decide), fm_d hf2 12 rfl (by decide), fm_d hf1 12 rfl (by decide)]
              have y18 : σ6 0 18 = nI (m + 1) := by rw [fm_k hf6 18 rfl, fm_k hf5 18 rfl, fm_k hf4 18 rfl, fm_k hf3 18 rfl, fm_k hf2 18 rfl]; exact k18
              conv => whnf
              refine E91 _ _ _ σ6 (h σ6 (fm_tr (fm_rf _ _ _) hf6' (by decide) (by decide)) ⟨?_, ?_, ?_, y18, ?_, fun q hq => ?_, fun t ht => ?_⟩ h6)
              · rw [fm_d hf6' 7 rfl (by decide)]; exact g1
              · rw [fm_d hf6' 7 rfl (by decide)]; exact g2
              · rw [fm_d hf6' 7 rfl (by decide)]; exact g3
              · rw [fm_k hf6' 24 rfl]; exact g5
              · rw [y8, y9, y10, y11, y12]
                by_cases eq : q = m
                · subst eq
                  rw [up_s, up_s, up_s, up_s, up_s, up_vs, up_vs, up_vs, up_vs, up_vs]
                  exact ⟨rfl, rfl, rfl, rfl, rfl⟩
                · rw [up_n _ _ _ _ eq, up_n _ _ _ _ eq, up_n _ _ _ _ eq, up_n _ _ _ _ eq, up_n _ _ _ _ eq, up_vn _ _ _ _ eq, up_vn _ _ _ _ eq, up_vn _ _ _ _ eq, up_vn _ _ _ _ eq, up_vn _ _ _ _ eq]
                  exact g6 q (by omega)
              · rw [fm_d hf6' 13 rfl (by decide)]; exact g7 t ht
        · have hbd : b.1 < d.1 := by omega
          simp only [ps_bn, hx1, hx2, hx3, if_pos hbd] at h
          conv => whnf
          rw [q4]
          refine ⟨_, _, rfl, rfl, fun σ5 hf5 h5 => ?_⟩
          conv => whnf
          exact h σ5 (fm_tr (fm_tr (fm_rf _ _ _) hf4' (by decide) (by decide)) hf5 (by decide) (by decide)) h5
/-- behind a number of rain -/
def ps_rc (tl : Nat) (tx : Nat → Nat) (f : Nat) (G : ps_G) (r : Nat) : ps_X ps_G := if ps_sk tl tx r < tl ∧ tx (ps_sk tl tx r) = 44 then (if f = 0 then .error (1, ps_sk tl tx r) else ps_rn tl tx f G (ps_sk tl tx r + 1)) else .ok (G, ps_sk tl tx r)
theorem ps_rn_c {tl : Nat} {tx : Nat → Nat} {f : Nat} {G : ps_G} {p : Nat} : ps_rn tl tx (f + 1) G p = match ps_num tl tx 0 9 p with
    | .error x => .error x
    | .ok a => ps_rc tl tx f (ps_addR G a.1) a.2 := rfl
theorem pM_R {G : ps_G} {σ : am_M} (h : pM G σ) : σ 0 24 = nI (ps_nR G) := by
  obtain ⟨cn, st, mn, m, c, e, n, f, k, R, rn⟩ := G
  exact h.2.2.2.2.1
theorem pM_addR {G : ps_G} {σ σ' : am_M} {v : Nat} (h : pM G σ) (hf : fm [13] [14, 15, 16, 24] σ σ') (h13 : σ' 13 = upd (σ 13) (ps_nR G) (nI v)) (h24 : σ' 0 24 = nI (ps_nR G + 1)) : pM (ps_addR G v) σ' := by
  obtain ⟨cn, st, mn, m, c, e, n, f, k, R, rn⟩ := G
  obtain ⟨g1, g2, g3, g4, g5, g6, g7⟩ := h
  have h13 : σ' 13 = upd (σ 13) R (nI v) := h13
  show pM (cn, st, mn, m, c, e, n, f, k, R + 1, va_up rn R v) σ'
  refine ⟨by rw [fm_d hf 7 rfl (by decide)]; exact g1, by rw [fm_d hf 7 rfl (by decide)]; exact g2, by rw [fm_d hf 7 rfl (by decide)]; exact g3, by rw [fm_k hf 18 rfl]; exact g4, h24, fun q hq => ?_, fun t ht => ?_⟩
  · rw [fm_d hf 8 rfl (by decide), fm_d hf 9 rfl (by decide), fm_d hf 10 rfl (by decide), fm_d hf 11 rfl (by decide), fm_d hf 12 rfl (by decide)]; exact g6 q hq
  · rw [h13]
    by_cases eq : t = R
    · subst eq; rw [up_s, up_vs]
    · rw [up_n _ _ _ _ eq, up_vn _ _ _ _ eq]; exact g7 t (by omega)
def tr_mtakeRains : am_T := fun as L σ post => ∃ (tl : Nat) (tx : Nat → Nat) (G : ps_G) (p : Nat), as = [.ref 0] ∧ L = LM ∧ okT tl tx ∧ mT tl tx σ ∧ pM G σ ∧ p ≤ tl ∧ ps_nR G = 0 ∧ σ 0 14 = nI p ∧ rsM (ps_rn tl tx 8 G p) σ post
set_option maxHeartbeats 1000000 in
theorem ct_mtakeRains (l : Launch) : am_Ct l 3 yX7_takeRains cX7_takeRains 2 (some .int) tr_mtakeRains := by
  refine am_ct tbX7_takeRains (am_G [tr_minto, tr_mhere, tr_mfails]) (by decide +kernel) (by simp) rfl dtX7_takeRains rfl ckX7_takeRains lkX7_takeRains (am_cokF [(9, some (.invokevirtual 137), 0, 5, 7, 0), (23, some (.invokevirtual 116), 1, 1, 7, 0), (46, some (.invokevirtual 124), 2, 3, 7, 0), (72, some (.invokevirtual 137), 0, 5, 7, 0)] rfl (List.forall_mem_cons.mpr ⟨⟨2, _, _, _, _, by decide, (ct_minto l), lnX7_137⟩, List.forall_mem_cons.mpr ⟨⟨0, _, _, _, _, by decide, (ct_mhere l), lnX7_116⟩, List.forall_mem_cons.mpr ⟨⟨0, _, _, _, _, by decide, (ct_mfails l), lnX7_124⟩, List.forall_mem_cons.mpr ⟨⟨2, _, _, _, _, by decide, (ct_minto l), lnX7_137⟩, fun _ h => absurd h List.not_mem_nil⟩⟩⟩⟩)) ?_
  intro as L σ post h
  obtain ⟨tl, tx, G, p, rfl, rfl, hT, hc, hG, hp, hR0, e1, h⟩ := h
  refine ⟨by simp [am_lv0], fun WW hw => ?_⟩
  have hT1 := hT.1
  have hT2 := hT.2
  have E12 : ∀ (v : Int32) (σ1 : am_M), ¬ v = 0 → post (some (.int v)) LM σ1 → WW 12 [some (.ref 0), some (.int v)] [] LM σ1 := by
    intro v σ1 hv h
    refine hw 60 _ _ _ _ _ ?_
    conv => whnf
    refine ⟨fun _ => ?_, fun c => absurd c hv⟩
    conv => whnf
    exact h
  have loop : ∀ (f : Nat) (G1 : ps_G) (r : Nat) (σ1 : am_M), f + ps_nR G1 = 8 → 0 < ps_nR G1 → r ≤ tl → fm [7, 8, 9, 10, 11, 12, 13] [14, 15, 16, 18, 24] σ σ1 → pM G1 σ1 → σ1 0 14 = nI r → rsM (ps_rc tl tx f G1 r) σ post → WW 12 [some (.ref 0), some (.int 0)] [] LM σ1 := by
    intro f
    induction f with
    | zero =>
      intro G1 r σ1 hR hR1 hr hf hG1 e2 h
      have k24 := pM_R hG1
      have s2 := (ps_sk_f (tl := tl) (tx := tx) (p := r)).2 hr
      unfold ps_rc at h
      refine hw 60 _ _ _ _ _ ?_
      conv => whnf
      refine ⟨fun c => absurd rfl c, fun _ => ?_⟩
      conv => whnf
      refine ⟨tl, tx, r, rfl, rfl, hT, mT_fr (fm_k hf 12 rfl) (fm_d hf 6 rfl (by decide)) hc, hr, e2, fun σ2 hf2 h2 => ?_⟩
      have hf2' : fm [7, 8, 9, 10, 11, 12, 13] [14, 15, 16, 18, 24] σ σ2 := fm_tr hf hf2 (by decide) (by decide)
      have hG2 := pM_fr (fm_tr (fm_rf _ _ _) hf2 (by decide) (by decide)) hG1
      have h44i : ps_let tl tx (ps_sk tl tx r) = 44 ↔ (ps_sk tl tx r < tl ∧ tx (ps_sk tl tx r) = 44) := by
        unfold ps_let
        by_cases hlt : ps_sk tl tx r < tl
        · rw [if_pos hlt]
          have := hT2 _ hlt
          have h2 : nI (tx (ps_sk tl tx r)) = 44 ↔ tx (ps_sk tl tx r) = 44 := nI_eq' (b := 44) (by omega) (by decide)
          rw [h2]
          exact ⟨fun q => ⟨hlt, q⟩, fun q => q.2⟩
        · rw [if_neg hlt]
          exact ⟨fun q => absurd q (by decide), fun q => absurd q.1 hlt⟩
      conv => whnf
      rw [h44i]
      refine ⟨fun h44 => ?_, fun h44 => ?_⟩
      · rw [if_neg h44] at h
        conv => whnf
        exact h σ2 hf2' hG2 h2
      · rw [if_pos h44, if_pos rfl] at h
        conv => whnf
        rw [pM_R hG2, show ps_nR G1 = 8 by omega]
        refine ⟨fun c => absurd rfl c, fun _ => ?_⟩
        conv => whnf
        rw [h2]
        refine ⟨_, _, rfl, rfl, fun σ3 hf3 h3 => ?_⟩
        conv => whnf
        exact h σ3 (fm_tr (fm_tr (fm_rf _ _ _) hf2' (by decide) (by decide)) hf3 (by decide) (by decide)) h3
    | succ f ih =>
      intro G1 r σ1 hR hR1 hr hf hG1 e2 h
      have k24 := pM_R hG1
      have s2 := (ps_sk_f (tl := tl) (tx := tx) (p := r)).2 hr
      unfold ps_rc at h
      refine hw 60 _ _ _ _ _ ?_
      conv => whnf
      refine ⟨fun c => absurd rfl c, fun _ => ?_⟩
      conv => whnf
      refine ⟨tl, tx, r, rfl, rfl, hT, mT_fr (fm_k hf 12 rfl) (fm_d hf 6 rfl (by decide)) hc, hr, e2, fun σ2 hf2 h2 => ?_⟩
      have hf2' : fm [7, 8, 9, 10, 11, 12, 13] [14, 15, 16, 18, 24] σ σ2 := fm_tr hf hf2 (by decide) (by decide)
      have hG2 := pM_fr (fm_tr (fm_rf _ _ _) hf2 (by decide) (by decide)) hG1
      have h44i : ps_let tl tx (ps_sk tl tx r) = 44 ↔ (ps_sk tl tx r < tl ∧ tx (ps_sk tl tx r) = 44) := by
        unfold ps_let
        by_cases hlt : ps_sk tl tx r < tl
        · rw [if_pos hlt]
          have := hT2 _ hlt
          have h2 : nI (tx (ps_sk tl tx r)) = 44 ↔ tx (ps_sk tl tx r) = 44 := nI_eq' (b := 44) (by omega) (by decide)
          rw [h2]
          exact ⟨fun q => ⟨hlt, q⟩, fun q => q.2⟩
        · rw [if_neg hlt]
          exact ⟨fun q => absurd q (by decide), fun q => absurd q.1 hlt⟩
      conv => whnf
      rw [h44i]
      refine ⟨fun h44 => ?_, fun h44 => ?_⟩
      · rw [if_neg h44] at h
        conv => whnf
        exact h σ2 hf2' hG2 h2
      · rw [if_pos h44, if_neg (by omega), ps_rn_c] at h
        have c8 : nI (ps_nR G1) = 8 ↔ ps_nR G1 = 8 := nI_eq' (b := 8) (by omega) (by decide)
        conv => whnf
        rw [pM_R hG2, c8]
        refine ⟨fun _ => ?_, fun c => by omega⟩
        conv => whnf
        rw [h2, nI_1, am_us, up_n _ _ _ _ (by decide), pM_R hG2]
        have hf3 : fm [] [14] σ2 (am_up σ2 0 (upd (σ2 0) 14 (nI (ps_sk tl tx r + 1)))) := fm_w0 (fm_rf _ _ _) (by decide)
        generalize hs3 : am_up σ2 0 (upd (σ2 0) 14 (nI (ps_sk tl tx r + 1))) = σ3 at hf3 ⊢
        have k14 : σ3 0 14 = nI (ps_sk tl tx r + 1) := by rw [← hs3, am_us, up_s]
        have hf3' : fm [7, 8, 9, 10, 11, 12, 13] [14, 15, 16, 18, 24] σ σ3 := fm_tr hf2' hf3 (by decide) (by decide)
        have hG3 := pM_fr (fm_tr (fm_rf _ _ _) hf3 (by decide) (by decide)) hG2
        refine ⟨tl, tx, 13, 8, ps_nR G1, 0, 9, ps_sk tl tx r + 1, rfl, rfl, Or.inr (Or.inr (Or.inr (Or.inr (Or.inr (Or.inr ⟨rfl, rfl⟩))))), by omega, hT, mT_fr (fm_k hf3' 12 rfl) (fm_d hf3' 6 rfl (by decide)) hc, h44.1, up_s _ _ _, by decide, by decide, ?_⟩
        cases hx : ps_num tl tx 0 9 (ps_sk tl tx r + 1) with
        | error x =>
          rw [hx] at h
          have hx0 := (ps_num_er hx h44.1).1
          intro σ4 hf4 h4
          conv => whnf
          refine E12 _ _ (nI_ne0 (by omega) (by omega)) (h (am_w σ4 0 24 _) (fm_w0 (fm_tr (fm_tr (fm_rf _ _ _) hf3' (by decide) (by decide)) hf4 (by decide) (by decide)) (by decide)) ?_)
          rw [aw_k _ _ _ _ _ (by decide)]; exact h4
        | ok a =>
          rw [hx] at h
          obtain ⟨a1, a2, a3, a4⟩ := ps_num_ok hx h44.1
          intro σ4 hf4 w4 h4 q4
          conv => whnf
          rw [fm_k hf4 24 rfl, pM_R hG3, nI_1]
          have hf5 : fm [13] [14, 15, 16, 24] σ3 (am_w σ4 0 24 (nI (ps_nR G1 + 1))) := fm_w0 (fm_tr (fm_rf _ _ _) hf4 (by decide) (by decide)) (by decide)
          refine ih (ps_addR G1 a.1) a.2 (am_w σ4 0 24 (nI (ps_nR G1 + 1))) (by rw [ps_nR_add]; omega) (by rw [ps_nR_add]; omega) a4 (fm_tr hf3' hf5 (by decide) (by decide)) (pM_addR hG3 hf5 ?_ (aw_s _ _ _ _)) ?_ h
          · rw [aw_n _ _ _ _ _ (by decide)]; exact w4
          · rw [aw_k _ _ _ _ _ (by decide)]; exact h4
  rw [show (8 : Nat) = 7 + 1 from rfl, ps_rn_c] at h
  refine hw 60 _ _ _ _ _ ?_
  conv => whnf
  refine ⟨tl, tx, 13, 8, 0, 0, 9, p, rfl, rfl, Or.inr (Or.inr (Or.inr (Or.inr (Or.inr (Or.inr ⟨rfl, rfl⟩))))), by decide, hT, hc, hp, e1, by decide, by decide, ?_⟩
  cases hx : ps_num tl tx 0 9 p with
  | error x =>
    rw [hx] at h
    have hx0 := (ps_num_er hx hp).1
    intro σ4 hf4 h4
    conv => whnf
    refine E12 _ _ (nI_ne0 (by omega) (by omega)) (h (am_w σ4 0 24 _) (fm_w0 (fm_tr (fm_rf _ _ _) hf4 (by decide) (by decide)) (by decide)) ?_)
    rw [aw_k _ _ _ _ _ (by decide)]; exact h4
  | ok a =>
    rw [hx] at h
    obtain ⟨a1, a2, a3, a4⟩ := ps_num_ok hx hp
    intro σ4 hf4 w4 h4 q4
    conv => whnf
    have hf5 : fm [13] [14, 15, 16, 24] σ (am_w σ4 0 24 1) := fm_w0 (fm_tr (fm_rf _ _ _) hf4 (by decide) (by decide)) (by decide)
    refine loop 7 (ps_addR G a.1) a.2 (am_w σ4 0 24 1) (by rw [ps_nR_add]; omega) (by rw [ps_nR_add]; omega) a4 (fm_tr (fm_rf _ _ _) hf5 (by decide) (by decide)) (pM_addR hG hf5 ?_ ?_) ?_ h
    · rw [aw_n _ _ _ _ _ (by decide), hR0]; exact w4
    · rw [aw_s, hR0]; rfl
    · rw [aw_k _ _ _ _ _ (by decide)]; exact h4
