/-! THE CLASS: land -/
def tr_lclear : am_T := fun as L σ post => as = [.ref 10] ∧ L = LC ∧ ∀ σ', fo 1 [10] [] σ σ' → pC ps_0 σ' → post none L σ'
theorem ct_lclear (l : Launch) : am_Ct l 0 yX3_clear cX3_clear 1 none tr_lclear := by
  refine am_ct tbX3_clear (am_G []) (by decide +kernel) (by simp) rfl dtX3_clear rfl ckX3_clear lkX3_clear (am_nocalls rfl) ?_
  intro as L σ post h
  obtain ⟨rfl, rfl, h⟩ := h
  refine ⟨by simp [am_lv0], fun WW hw => hw 60 _ _ _ _ _ ?_⟩
  conv => whnf
  refine h (am_w (am_w (am_w (am_w (am_w σ 10 0 0) 10 1 0) 10 2 0) 10 3 0) 10 4 0) (fo_up _ (fo_up _ (fo_up _ (fo_up _ (fo_up _ (fo_rf _ _ _ _) (by decide) (by decide)) (by decide) (by decide)) (by decide) (by decide)) (by decide) (by decide)) (by decide) (by decide)) ⟨?_, ?_, ?_, ?_, ?_, fun b hb => absurd hb (Nat.not_lt_zero b), fun b hb => absurd hb (Nat.not_lt_zero b)⟩
  · rw [aw_k _ _ _ _ _ (by decide), aw_k _ _ _ _ _ (by decide), aw_k _ _ _ _ _ (by decide), aw_k _ _ _ _ _ (by decide), aw_s]; rfl
  · rw [aw_k _ _ _ _ _ (by decide), aw_k _ _ _ _ _ (by decide), aw_k _ _ _ _ _ (by decide), aw_s]; rfl
  · rw [aw_k _ _ _ _ _ (by decide), aw_k _ _ _ _ _ (by decide), aw_s]; rfl
  · rw [aw_k _ _ _ _ _ (by decide), aw_s]; rfl
  · rw [aw_s]; rfl
def rlC (x : Except (Nat × Nat) ps_G) (σ : am_M) (post : am_P) : Prop := match x with
  | .error x => ∀ σ', fo 1 [10, 11, 12, 13, 14, 15, 16] [2, 3, 4] σ σ' → σ' 1 3 = nI x.2 → σ' 1 4 = nI x.1 → post (some (.int 0)) LC σ'
  | .ok G => ∀ σ', fo 1 [10, 11, 12, 13, 14, 15, 16] [2, 3, 4] σ σ' → σ' 1 3 = -1 → pC G σ' → post (some (.int 1)) LC σ'
def tr_readInto : am_T := fun as L σ post => ∃ (tl : Nat) (tx : Nat → Nat), as = [.ref 1, .ref 10] ∧ L = LC ∧ okT tl tx ∧ cT tl tx σ ∧ rlC (ps_all tl tx 240 ps_0 0) σ post
theorem ct_readInto (l : Launch) : am_Ct l 5 yX5_readInto cX5_readInto 3 (some .boolean) tr_readInto := by
  refine am_ct tbX5_readInto (am_G [tr_lclear, tr_nextLetter, tr_readClause]) (by decide +kernel) (by simp) rfl dtX5_readInto rfl ckX5_readInto lkX5_readInto (am_cokF [(1, some (.invokevirtual 22), 0, 1, 3, 0), (29, some (.invokevirtual 33), 1, 1, 5, 0), (38, some (.invokevirtual 37), 2, 2, 5, 0)] rfl (List.forall_mem_cons.mpr ⟨⟨0, _, _, _, _, by decide, (ct_lclear l), lnX5_22⟩, List.forall_mem_cons.mpr ⟨⟨0, _, _, _, _, by decide, (ct_nextLetter l), lnX5_33⟩, List.forall_mem_cons.mpr ⟨⟨4, _, _, _, _, by decide, (ct_readClause l), lnX5_37⟩, fun _ h => absurd h List.not_mem_nil⟩⟩⟩)) ?_
  intro as L σ post h
  obtain ⟨tl, tx, rfl, rfl, hT, hc, h⟩ := h
  refine ⟨by simp [am_lv0], fun WW hw => ?_⟩
  have hT1 := hT.1
  have loop : ∀ (f i : Nat) (z : Int32) (G : ps_G) (p : Nat) (σ1 : am_M), i + f = 240 → z = nI i → fo 1 [10, 11, 12, 13, 14, 15, 16] [2, 3, 4] σ σ1 → σ1 1 3 = -1 → pC G σ1 → okG G → p ≤ tl → σ1 1 2 = nI p → ps_all tl tx f G p = ps_all tl tx 240 ps_0 0 → WW 14 [some (.ref 1), some (.ref 10), some (.int z)] [] LC σ1 := by
    intro f
    induction f with
    | zero =>
      intro i z G p σ1 hi hz hf k3 hG hok hp e2 ha
      have ei : i = 240 := by omega
      subst ei; subst hz
      rw [← ha] at h
      refine hw 60 _ _ _ _ _ ?_
      conv => whnf
      refine ⟨fun _ => ?_, fun c => absurd (Int32.le_refl _) c⟩
      conv => whnf
      exact ⟨Or.inr rfl, h σ1 hf k3 hG⟩
    | succ f ih =>
      intro i z G p σ1 hi hz hf k3 hG hok hp e2 ha
      subst hz
      have s2 := (ps_sk_f (tl := tl) (tx := tx) (p := p)).2 hp
      have hc1 : cT tl tx σ1 := cT_fr (fo_k hf 1 rfl) (fo_d hf 2 rfl (by decide)) hc
      rw [ps_all] at ha
      refine hw 60 _ _ _ _ _ ?_
      conv => whnf
      refine ⟨fun c => absurd c (nI_ge (b := 240) (by omega) (by decide)), fun _ => ?_⟩
      conv => whnf
      refine ⟨tl, tx, p, rfl, rfl, hT, hc1, hp, e2, fun σ2 hf2 h2 => ?_⟩
      have hf2' : fo 1 [10, 11, 12, 13, 14, 15, 16] [2, 3, 4] σ σ2 := fo_tr hf hf2 (by decide) (by decide)
      have hG2 := pC_fr hf2 hG
      have k32 : σ2 1 3 = -1 := (fo_k hf2 3 rfl).trans k3
      by_cases hlt : ps_sk tl tx p < tl
      · rw [if_pos hlt] at ha
        have hb := hT.2 _ hlt
        rw [show ps_let tl tx (ps_sk tl tx p) = nI (tx (ps_sk tl tx p)) from if_pos hlt]
        conv => whnf
        refine ⟨fun c => absurd c (nI_nm1 (by omega)), fun _ => ?_⟩
        conv => whnf
        refine ⟨tl, tx, G, ps_sk tl tx p, rfl, rfl, hT, cT_fr (fo_k hf2' 1 rfl) (fo_d hf2' 2 rfl (by decide)) hc, hG2, hok, s2, by rw [ps_sk_i]; exact hlt, h2, ?_⟩
        have hcl := ps_cl_ok hlt hok
        rw [show ps_cl tl tx G (ps_sk tl tx p) = ps_cl tl tx G p by unfold ps_cl; rw [ps_sk_i]]
        cases hx : ps_cl tl tx G p with
        | error x =>
          rw [hx] at ha
          rw [← ha] at h
          intro σ3 hf3 h3 h4
          conv => whnf
          refine ⟨fun c => absurd rfl c, fun _ => ?_⟩
          conv => whnf
          exact ⟨Or.inl rfl, h σ3 (fo_tr hf2' hf3 (by decide) (by decide)) h3 h4⟩
        | ok g =>
          rw [hx] at ha hcl
          intro σ3 hf3 h3 h4
          conv => whnf
          refine ⟨fun _ => ?_, fun c => absurd c (by decide)⟩
          conv => whnf
          exact ih (i + 1) _ g.1 g.2 σ3 (by omega) (nI_1 i) (fo_tr hf2' hf3 (by decide) (by decide)) ((fo_k hf3 3 rfl).trans k32) h3 hcl.1 hcl.2.2 h4 ha
      · rw [if_neg hlt] at ha
        rw [← ha] at h
        rw [show ps_let tl tx (ps_sk tl tx p) = -1 from if_neg hlt]
        conv => whnf
        refine ⟨fun _ => ?_, fun c => absurd rfl c⟩
        conv => whnf
        exact ⟨Or.inr rfl, h σ2 hf2' k32 hG2⟩
  refine hw 60 _ _ _ _ _ ?_
  conv => whnf
  refine ⟨rfl, rfl, fun σ1 hf1 hG1 => ?_⟩
  conv => whnf
  have hf2 : fo 1 [] [2, 3, 4] σ1 (am_w (am_w (am_w σ1 1 2 0) 1 3 (-1)) 1 4 0) := fo_w (fo_w (fo_w (fo_rf _ _ _ _) (by decide)) (by decide)) (by decide)
  refine loop 240 0 0 ps_0 0 (am_w (am_w (am_w σ1 1 2 0) 1 3 (-1)) 1 4 0) rfl rfl (fo_tr (fo_tr (fo_rf _ _ _ _) hf1 (by decide) (by decide)) hf2 (by decide) (by decide)) ?_ (pC_fr hf2 hG1) okG_0 (Nat.zero_le _) ?_ rfl
  · rw [aw_k _ _ _ _ _ (by decide), aw_s]
  · rw [aw_k _ _ _ _ _ (by decide), aw_k _ _ _ _ _ (by decide), aw_s]; rfl
/-- the two lands change places -/
def sw_pi (q : Nat) : Nat := if 3 ≤ q ∧ q ≤ 9 then q + 7 else if 10 ≤ q ∧ q ≤ 16 then q - 7 else q
def am_pm (σ : am_M) : am_M := fun q => σ (sw_pi q)
def trL (as0 : List Value) (A : sw_A) (q : Int32 × sw_A) : am_T := fun as L σ post => as = as0 ∧ L = LC ∧ RC A σ ∧ ∀ L' σ', (L' = LC ∧ RC q.2 σ') ∨ (L' = lc_at 10 3 ∧ RC q.2 (am_pm σ')) → post (some (.int q.1)) L' σ'
set_option maxHeartbeats 1000000 in
theorem ct_cland (l : Launch) (A : sw_A) (hA : okA A) : am_Ct l 6 yX6_land cX6_land 3 (some .int) (trL [.ref 0] A (st_land A)) := by
  refine am_ct tbX6_land (am_G [tr_readInto, tr_settle, tr_hclear, tr_forget]) (by decide +kernel) (by simp) rfl dtX6_land rfl ckX6_land lkX6_land (am_cokF [(8, some (.invokevirtual 85), 0, 2, 5, 0), (61, some (.invokevirtual 92), 1, 2, 1, 0), (68, some (.invokevirtual 96), 2, 1, 2, 0), (77, some (.invokevirtual 102), 3, 1, 6, 0)] rfl (List.forall_mem_cons.mpr ⟨⟨5, _, _, _, _, by decide, (ct_readInto l), lnX6_85⟩, List.forall_mem_cons.mpr ⟨⟨1, _, _, _, _, by decide, (ct_settle l), lnX6_92⟩, List.forall_mem_cons.mpr ⟨⟨0, _, _, _, _, by decide, (ct_hclear l), lnX6_96⟩, List.forall_mem_cons.mpr ⟨⟨0, _, _, _, _, by decide, (ct_forget l), lnX6_102⟩, fun _ h => absurd h List.not_mem_nil⟩⟩⟩⟩)) ?_
  intro as L σ post h
  obtain ⟨rfl, rfl, hR, h⟩ := h
  refine ⟨by simp [am_lv0], fun WW hw => hw 60 _ _ _ _ _ ?_⟩
  obtain ⟨⟨tl, tx, fp⟩, ⟨cn, st, mn, m, c, e, k, R, rn⟩, F, sd, U, I, E1, E2, E3⟩ := A
  obtain ⟨⟨t1, t2, t3⟩, hD, hF, hS, hU, hI, h1, h2, h3⟩ := id hR
  dsimp only at t1 t2 t3
  have hT : okT tl tx := ⟨hA.1, hA.2.1⟩
  have hG := ps_all_ok (tl := tl) (tx := tx) 240 ps_0 0 okG_0
  conv => whnf
  refine ⟨tl, tx, rfl, rfl, hT, ⟨t1, t2⟩, ?_⟩
  cases hx : ps_all tl tx 240 ps_0 0 with
  | error x =>
    simp only [st_land, hx] at h
    intro σ1 hf1 k3 k4
    conv => whnf
    refine ⟨fun c => absurd rfl c, fun _ => ?_⟩
    conv => whnf
    rw [am_us, up_n _ _ _ _ (by decide), k4]
    have hf2 : fo 1 [10, 11, 12, 13, 14, 15, 16] [1, 2, 3, 4] σ (am_w σ1 1 1 0) := fo_w (fo_tr (fo_rf _ _ _ _) hf1 (by decide) (by decide)) (by decide)
    refine h LC (am_w σ1 1 1 0) (Or.inl ⟨rfl, ⟨aw_s _ _ _ _, fun j hj => absurd hj (Nat.not_lt_zero j), ?_⟩, ?_⟩)
    · rw [aw_k _ _ _ _ _ (by decide)]; exact k3
    · have g := fun q a b => fo_d hf2 q a b
      exact ⟨rcD_fr (g 3 rfl (by decide)) (g 4 rfl (by decide)) (g 5 rfl (by decide)) (g 8 rfl (by decide)) (g 9 rfl (by decide)) hD, sw_FC_fr (g 17 rfl (by decide)) (g 18 rfl (by decide)) (g 19 rfl (by decide)) (g 20 rfl (by decide)) hF, by rw [g 0 rfl (by decide)]; exact hS, sw_UC_fr (g 27 rfl (by decide)) (g 28 rfl (by decide)) (g 29 rfl (by decide)) hU, rcI_fr (by rw [g 0 rfl (by decide)]) (g 30 rfl (by decide)) (g 31 rfl (by decide)) (g 32 rfl (by decide)) hI, sw_EC_fr (g 33 rfl (by decide)) (g 34 rfl (by decide)) (g 35 rfl (by decide)) h1, sw_EC_fr (g 36 rfl (by decide)) (g 37 rfl (by decide)) (g 38 rfl (by decide)) h2, sw_EC_fr (g 39 rfl (by decide)) (g 40 rfl (by decide)) (g 41 rfl (by decide)) h3⟩
  | ok G =>
    rw [hx] at hG
    obtain ⟨gcn, gst, gmn, gm, gc, ge, gn, gf, gk, gR, grn⟩ := G
    simp only [st_land, hx] at h
    intro σ1 hf1 k3 hp1
    obtain ⟨p0, p1, p2, p3, p4, p5, p6⟩ := id hp1
    have gm8 : gm ≤ 8 := hG.2.1
    have hf2 : fo 1 [10, 11, 12, 13, 14, 15, 16] [1, 2, 3, 4] σ (am_w σ1 1 1 0) := fo_w (fo_tr (fo_rf _ _ _ _) hf1 (by decide) (by decide)) (by decide)
    have hs2 : fo 1 [] [1] σ1 (am_w σ1 1 1 0) := fo_w (fo_rf _ _ _ _) (by decide)
    conv => whnf
    refine ⟨fun _ => ?_, fun c => absurd c (by decide)⟩
    conv => whnf
    generalize hσ2 : am_up σ1 1 (upd (σ1 1) 1 0) = σ2
    have hσ2' : am_w σ1 1 1 0 = σ2 := hσ2
    rw [hσ2'] at hf2 hs2
    have k11 : σ2 1 1 = 0 := by rw [← hσ2', aw_s]
    have k13 : σ2 1 3 = -1 := (fo_k hs2 3 rfl).trans k3
    have e10 : σ2 10 = σ1 10 := fo_d hs2 10 rfl (by decide)
    refine ⟨gm, gn, gf, rfl, rfl, gm8, fun b hb => by rw [fo_d hs2 13 rfl (by decide)]; exact (p5 b hb).2.2.1, fun b hb => by rw [fo_d hs2 14 rfl (by decide)]; exact (p5 b hb).2.2.2.1, fun σ3 hf3 hF3 => ?_⟩
    conv => whnf
    refine ⟨rfl, Or.inr rfl, ?_⟩
    conv => whnf
    refine ⟨rfl, Or.inr rfl, ?_⟩
    conv => whnf
    generalize hσ6 : am_w (am_w (am_w (am_up (am_w σ3 27 1 0) 0 (upd (am_w σ3 27 1 0 0) 8 0)) 33 3 0) 36 3 0) 39 3 0 = σ6
    have hσ6' : am_w (am_w (am_w (am_w (am_w σ3 27 1 0) 0 8 0) 33 3 0) 36 3 0) 39 3 0 = σ6 := hσ6
    have hf6 : am_fr [0, 27, 33, 36, 39] σ3 σ6 := by rw [← hσ6']; exact aw_fr (aw_fr (aw_fr (aw_fr (aw_fr (am_fr_rf _ _) (by decide)) (by decide)) (by decide)) (by decide)) (by decide)
    have e6 : σ6 10 3 = nI gm := by rw [am_frd hf6 10 rfl, am_frd hf3 10 rfl, e10]; exact p3
    rw [e6]
    have q1 : ∀ q, [0, 27, 33, 36, 39].elem q = false → [17, 18, 19, 20].elem q = false → σ6 q = σ2 q := fun q a b => by rw [am_frd hf6 q a, am_frd hf3 q b]
    have q2 : ∀ q, [0, 27, 33, 36, 39].elem q = false → [17, 18, 19, 20].elem q = false → [10, 11, 12, 13, 14, 15, 16].elem q = false → ¬ q = 1 → σ6 q = σ q := fun q a b c d => by rw [q1 q a b]; exact fo_d hf2 q c d
    have q3 : ∀ q, [0, 27, 33, 36, 39].elem q = false → [17, 18, 19, 20].elem q = false → ¬ q = 1 → σ6 q = σ1 q := fun q a b d => by rw [q1 q a b]; exact fo_d hs2 q rfl d
    have q0 : ∀ j, ¬ j = 8 → σ6 0 j = σ 0 j := fun j hj => by
      rw [← hσ6', aw_n _ _ _ _ _ (by decide), aw_n _ _ _ _ _ (by decide), aw_n _ _ _ _ _ (by decide), aw_k _ _ _ _ _ hj, aw_n _ _ _ _ _ (by decide), am_frd hf3 0 rfl]
      exact congrFun (fo_d hf2 0 rfl (by decide)) j
    have z0 : σ6 0 8 = 0 := by rw [← hσ6', aw_n _ _ _ _ _ (by decide), aw_n _ _ _ _ _ (by decide), aw_n _ _ _ _ _ (by decide), aw_s]
    have z27 : σ6 27 1 = 0 := by rw [← hσ6', aw_n _ _ _ _ _ (by decide), aw_n _ _ _ _ _ (by decide), aw_n _ _ _ _ _ (by decide), aw_n _ _ _ _ _ (by decide), aw_s]
    have y27 : σ6 27 2 = σ 27 2 := by
      rw [← hσ6', aw_n _ _ _ _ _ (by decide), aw_n _ _ _ _ _ (by decide), aw_n _ _ _ _ _ (by decide), aw_n _ _ _ _ _ (by decide), aw_k _ _ _ _ _ (by decide), am_frd hf3 27 rfl]
      exact congrFun (fo_d hf2 27 rfl (by decide)) 2
    have z33 : σ6 33 3 = 0 := by rw [← hσ6', aw_n _ _ _ _ _ (by decide), aw_n _ _ _ _ _ (by decide), aw_s]
    have y33 : σ6 33 0 = σ 33 0 := by
      rw [← hσ6', aw_n _ _ _ _ _ (by decide), aw_n _ _ _ _ _ (by decide), aw_k _ _ _ _ _ (by decide), aw_n _ _ _ _ _ (by decide), aw_n _ _ _ _ _ (by decide), am_frd hf3 33 rfl]
      exact congrFun (fo_d hf2 33 rfl (by decide)) 0
    have z36 : σ6 36 3 = 0 := by rw [← hσ6', aw_n _ _ _ _ _ (by decide), aw_s]
    have y36 : σ6 36 0 = σ 36 0 := by
      rw [← hσ6', aw_n _ _ _ _ _ (by decide), aw_k _ _ _ _ _ (by decide), aw_n _ _ _ _ _ (by decide), aw_n _ _ _ _ _ (by decide), aw_n _ _ _ _ _ (by decide), am_frd hf3 36 rfl]
      exact congrFun (fo_d hf2 36 rfl (by decide)) 0
    have z39 : σ6 39 3 = 0 := by rw [← hσ6', aw_s]
    have y39 : σ6 39 0 = σ 39 0 := by
      rw [← hσ6', aw_k _ _ _ _ _ (by decide), aw_n _ _ _ _ _ (by decide), aw_n _ _ _ _ _ (by decide), aw_n _ _ _ _ _ (by decide), aw_n _ _ _ _ _ (by decide), am_frd hf3 39 rfl]
      exact congrFun (fo_d hf2 39 rfl (by decide)) 0
    refine h (lc_at 10 3) σ6 (Or.inr ⟨rfl, ⟨?_, fun j hj => absurd hj (Nat.not_lt_zero j), ?_⟩, ⟨⟨?_, ?_, fun b hb => ?_, fun b hb => ?_, fun b hb => ?_⟩, ?_, ?_, ?_⟩, ?_, ?_, ?_, ?_, ?_, ?_, ?_⟩)
    · show σ6 1 1 = nI 0
      rw [q1 1 rfl rfl]; exact k11
    · show σ6 1 3 = -1
      rw [q1 1 rfl rfl]; exact k13
    · show σ6 10 3 = nI gm
      exact e6
    · show σ6 10 0 = nI gcn
      rw [q3 10 rfl rfl (by decide)]; exact p0
    · show σ6 11 b = nI (gc b)
      rw [q3 11 rfl rfl (by decide)]; exact (p5 b hb).1
    · show σ6 12 b = nI (ge b)
      rw [q3 12 rfl rfl (by decide)]; exact (p5 b hb).2.1
    · show σ6 15 b = nI (gk b)
      rw [q3 15 rfl rfl (by decide)]; exact (p5 b hb).2.2.2.2
    · show σ6 10 1 = nI gst
      rw [q3 10 rfl rfl (by decide)]; exact p1
    · show σ6 10 2 = nI gmn
      rw [q3 10 rfl rfl (by decide)]; exact p2
    · show (σ6 10 4 = nI (if gR = 0 then 1 else gR) ∧ ∀ t, t < (if gR = 0 then 1 else gR) → σ6 16 t = nI ((if gR = 0 then fun _ => 5 else grn) t)) ∨ (σ6 10 4 = 0 ∧ (if gR = 0 then 1 else gR) = 1 ∧ (if gR = 0 then fun _ => 5 else grn) 0 = 5)
      rw [q3 10 rfl rfl (by decide), q3 16 rfl rfl (by decide), p4]
      by_cases hz : gR = 0
      · rw [if_pos hz, if_pos hz]
        exact Or.inr ⟨by rw [hz]; rfl, rfl, rfl⟩
      · rw [if_neg hz, if_neg hz]
        exact Or.inl ⟨rfl, p6⟩
    · show sw_FC (am_pm σ6) 17 18 19 20 gm (gn, fun _ => 0, gf, 0, 0, 0)
      exact sw_FC_fr (show σ6 17 = σ3 17 from am_frd hf6 17 rfl) (show σ6 18 = σ3 18 from am_frd hf6 18 rfl) (show σ6 19 = σ3 19 from am_frd hf6 19 rfl) (show σ6 20 = σ3 20 from am_frd hf6 20 rfl) hF3
    · show σ6 0 14 = nI sd
      rw [q0 14 (by decide)]; exact hS
    · obtain ⟨u1, u2, u3, nx, u4, u5, u6⟩ := hU
      exact ⟨Nat.zero_le _, (show σ6 28 0 = nI 20 by rw [q2 28 rfl rfl rfl (by decide)]; exact u2), (show σ6 27 1 = nI 0 from z27), nx, u4, (show σ6 27 2 = nI nx by rw [y27]; exact u5), fun j hj => absurd hj (Nat.not_lt_zero j)⟩
    · exact ⟨by show σ6 30 0 = nI 2; rw [q2 30 rfl rfl rfl (by decide)]; exact hI.1, 0, by decide, z0, fun i hi => by show Nat.testBit 0 i = false; exact Nat.zero_testBit i⟩
    · exact sw_EC_0 h1 (show σ6 33 0 = σ 33 0 from y33) (show σ6 33 3 = 0 from z33)
    · exact sw_EC_0 h2 (show σ6 36 0 = σ 36 0 from y36) (show σ6 36 3 = 0 from z36)
    · exact sw_EC_0 h3 (show σ6 39 0 = σ 39 0 from y39) (show σ6 39 3 = 0 from z39)
