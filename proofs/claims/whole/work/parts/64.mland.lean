/-! THE REFERENCE: land -/
set_option maxHeartbeats 1000000 in
theorem ct_mland (l : Launch) (A : sw_A) (hA : okA A) : am_Ct l 5 yX7_land cX7_land 2 (some .int) (trM [.ref 0] A (st_land A)) := by
  refine am_ct tbX7_land (am_G [tr_mhere, tr_mtakeClause, tr_mtakeRead]) (by decide +kernel) (by simp) rfl dtX7_land rfl ckX7_land lkX7_land (am_cokF [(47, some (.invokevirtual 116), 0, 1, 7, 0), (54, some (.invokevirtual 162), 1, 1, 7, 0), (76, some (.invokevirtual 165), 2, 1, 7, 0)] rfl (List.forall_mem_cons.mpr ⟨⟨0, _, _, _, _, by decide, (ct_mhere l), lnX7_116⟩, List.forall_mem_cons.mpr ⟨⟨4, _, _, _, _, by decide, (ct_mtakeClause l), lnX7_162⟩, List.forall_mem_cons.mpr ⟨⟨0, _, _, _, _, by decide, (ct_mtakeRead l), lnX7_165⟩, fun _ h => absurd h List.not_mem_nil⟩⟩⟩)) ?_
  intro as L σ post h
  obtain ⟨rfl, rfl, hR, h⟩ := h
  refine ⟨by simp [am_lv0], fun WW hw => ?_⟩
  obtain ⟨⟨tl, tx, fp⟩, ⟨cn, st, mn, m, c, e, k, R, rn⟩, F, sd, U, I, E1, E2, E3⟩ := A
  obtain ⟨⟨t1, t2, t3⟩, hD, hF, hS, hU, hI, h1, h2, h3⟩ := id hR
  dsimp only at t1 t2 t3
  have hT : okT tl tx := ⟨hA.1, hA.2.1⟩
  have hT1 := hT.1
  have hc : mT tl tx σ := ⟨t1, t2⟩
  have v0 : vp_in (0 : Int32) 2 := vp_j (j := 0) (by decide) (by decide)
  have v1 : vp_in (1 : Int32) 2 := vp_j (j := 1) (by decide) (by decide)
  have c0' : (0 : Int32).toNatClampNeg = 0 := by decide
  have c1' : (1 : Int32).toNatClampNeg = 1 := by decide
  have hn0 : (bif true then vp_nar .boolean (0 : Int32) else 0) = 0 := by decide
  have E37 : ∀ (x : Nat × Nat) (σ1 : am_M), ps_all tl tx 240 ps_0 0 = .error x → 0 < x.1 → x.1 ≤ 4 → fm [7, 8, 9, 10, 11, 12, 13] [13, 14, 15, 16, 18, 24] σ σ1 → σ1 0 13 = nI x.2 → WW 28 [some (.ref 0), some (.int (nI x.1))] [] LM σ1 := by
    intro x σ1 hx x0 x4 hf h13
    simp only [st_land, hx] at h
    refine hw 60 _ _ _ _ _ ?_
    conv => whnf
    refine ⟨fun _ => ?_, fun c => absurd c (nI_ne0 x0 (by omega))⟩
    conv => whnf
    refine ⟨fun c => absurd c (nI_npos x0 (by omega)), fun _ => ?_⟩
    conv => whnf
    have hf2 : fm [7, 8, 9, 10, 11, 12, 13] [12, 13, 14, 15, 16, 18, 24] σ (am_w σ1 0 12 0) := fm_w0 (fm_tr (fm_rf _ _ _) hf (by decide) (by decide)) (by decide)
    refine h (am_w σ1 0 12 0) ⟨⟨aw_s _ _ _ _, fun j hj => absurd hj (Nat.not_lt_zero j), ?_⟩, ?_⟩
    · rw [aw_k _ _ _ _ _ (by decide)]; exact h13
    · exact ⟨rmD_fr (fm_k hf2 0 rfl) (fm_k hf2 1 rfl) (fm_k hf2 2 rfl) (fm_k hf2 3 rfl) (fm_k hf2 7 rfl) (fm_d hf2 1 rfl (by decide)) (fm_d hf2 2 rfl (by decide)) (fm_d hf2 3 rfl (by decide)) (fm_d hf2 4 rfl (by decide)) hD, sw_FM_fr (fm_d hf2 5 rfl (by decide)) hF, (fm_k hf2 10 rfl).trans hS, rmU_fr (fm_k hf2 27 rfl) (fm_d hf2 15 rfl (by decide)) hU, rmI_fr (fm_d hf2 25 rfl (by decide)) (fm_d hf2 26 rfl (by decide)) hI, rmE_fr (fm_k hf2 33 rfl) (fm_d hf2 19 rfl (by decide)) (fm_d hf2 20 rfl (by decide)) h1, rmE_fr (fm_k hf2 36 rfl) (fm_d hf2 21 rfl (by decide)) (fm_d hf2 22 rfl (by decide)) h2, rmE_fr (fm_k hf2 41 rfl) (fm_d hf2 23 rfl (by decide)) (fm_d hf2 24 rfl (by decide)) h3⟩
  -- the end of the text
  have fin : ∀ (G : ps_G) (p : Nat) (σ1 : am_M), ps_all tl tx 240 ps_0 0 = .ok G → okG G → p ≤ tl → ¬ ps_sk tl tx p < tl → fm [7, 8, 9, 10, 11, 12, 13] [13, 14, 15, 16, 18, 24] σ σ1 → σ1 0 13 = -1 → pM G σ1 → σ1 0 14 = nI p → WW 28 [some (.ref 0), some (.int 0)] [] LM σ1 := by
    intro G p σ1 hx hok hp hlt hf h13 hG e2
    simp only [st_land, hx] at h
    refine hw 80 _ _ _ _ _ ?_
    conv => whnf
    refine ⟨fun c => absurd rfl c, fun _ => ?_⟩
    conv => whnf
    refine ⟨tl, tx, p, rfl, rfl, hT, mT_fr (fm_k hf 12 rfl) (fm_d hf 6 rfl (by decide)) hc, hp, e2, fun σ2 hf2 h14 => ?_⟩
    rw [show ps_let tl tx (ps_sk tl tx p) = -1 from if_neg hlt]
    conv => whnf
    refine ⟨fun _ => ?_, fun c => absurd (by decide : (-1 : Int32) < 0) c⟩
    conv => whnf
    refine ⟨fun _ => ?_, fun c => absurd (Int32.le_refl _) c⟩
    conv => whnf
    have hf3 : fm [] [12, 14] σ1 (am_up σ2 0 (upd (σ2 0) 12 0)) := fm_w0 (fm_tr (fm_rf _ _ _) hf2 (by decide) (by decide)) (by decide)
    generalize hs3 : am_up σ2 0 (upd (σ2 0) 12 0) = σ3 at hf3 ⊢
    have k12 : σ3 0 12 = 0 := by rw [← hs3, am_us, up_s]
    have k13 : σ3 0 13 = -1 := (fm_k hf3 13 rfl).trans h13
    have hG3 : pM G σ3 := by
      obtain ⟨cn, st, mn, m, c, e, n, f, k, R, rn⟩ := G
      unfold pM at *
      rw [fm_k hf3 18 rfl, fm_k hf3 24 rfl, fm_d hf3 7 rfl (by decide), fm_d hf3 8 rfl (by decide), fm_d hf3 9 rfl (by decide), fm_d hf3 10 rfl (by decide), fm_d hf3 11 rfl (by decide), fm_d hf3 12 rfl (by decide), fm_d hf3 13 rfl (by decide)]
      exact hG
    have hf3' : fm [7, 8, 9, 10, 11, 12, 13] [12, 13, 14, 15, 16, 18, 24] σ σ3 := fm_tr (fm_tr (fm_rf _ _ _) hf (by decide) (by decide)) hf3 (by decide) (by decide)
    refine ⟨G, rfl, rfl, hG3, hok, fun σ4 hf4 hD4 hF4 => ?_⟩
    repeat ((conv => whnf); refine And.intro ?_ ?_; first | with_reducible assumption | decide)
    conv => whnf
    have hf4' : fm [1, 2, 3, 4, 5, 7, 8, 9, 10, 11, 12, 13] [0, 1, 2, 3, 7, 12, 13, 14, 15, 16, 18, 24] σ σ4 := fm_tr (fm_tr (fm_rf _ _ _) hf3' (by decide) (by decide)) hf4 (by decide) (by decide)
    have kk : ∀ z : Int32, (bif true then vp_nar .boolean (0 : Int32) else z) = 0 := fun z => hn0
    simp only [c0', c1', kk]
    generalize hs8 : am_up (am_up (am_up (am_up σ4 0 (upd (σ4 0) 33 0)) 0 (upd (am_up σ4 0 (upd (σ4 0) 33 0) 0) 36 0)) 0 (upd (am_up (am_up σ4 0 (upd (σ4 0) 33 0)) 0 (upd (am_up σ4 0 (upd (σ4 0) 33 0) 0) 36 0) 0) 41 0)) 0 (upd (am_up (am_up (am_up σ4 0 (upd (σ4 0) 33 0)) 0 (upd (am_up σ4 0 (upd (σ4 0) 33 0) 0) 36 0)) 0 (upd (am_up (am_up σ4 0 (upd (σ4 0) 33 0)) 0 (upd (am_up σ4 0 (upd (σ4 0) 33 0) 0) 36 0) 0) 41 0) 0) 27 0) = σ8
    have hs8' : am_w (am_w (am_w (am_w σ4 0 33 0) 0 36 0) 0 41 0) 0 27 0 = σ8 := hs8
    have hf8 : fm [] [27, 33, 36, 41] σ4 σ8 := by rw [← hs8']; exact fm_w0 (fm_w0 (fm_w0 (fm_w0 (fm_rf _ _ _) (by decide)) (by decide)) (by decide)) (by decide)
    have z33 : σ8 0 33 = 0 := by rw [← hs8', aw_k _ _ _ _ _ (by decide), aw_k _ _ _ _ _ (by decide), aw_k _ _ _ _ _ (by decide), aw_s]
    have z36 : σ8 0 36 = 0 := by rw [← hs8', aw_k _ _ _ _ _ (by decide), aw_k _ _ _ _ _ (by decide), aw_s]
    have z41 : σ8 0 41 = 0 := by rw [← hs8', aw_k _ _ _ _ _ (by decide), aw_s]
    have z27 : σ8 0 27 = 0 := by rw [← hs8', aw_s]
    have hf9 : fm [26] [27, 33, 36, 41] σ4 (am_up (am_up σ8 26 (upd (σ8 26) 0 0)) 26 (upd (am_up σ8 26 (upd (σ8 26) 0 0) 26) 1 0)) := fm_up _ (fm_up _ (fm_tr (fm_rf _ _ _) hf8 (by decide) (by decide)) (by decide) (by decide)) (by decide) (by decide)
    have hf98 : ∀ j, am_up (am_up σ8 26 (upd (σ8 26) 0 0)) 26 (upd (am_up σ8 26 (upd (σ8 26) 0 0) 26) 1 0) 0 j = σ8 0 j := fun j => by rw [am_un _ _ _ _ (by decide), am_un _ _ _ _ (by decide)]
    have z26 : ∀ i, i < 2 → am_up (am_up σ8 26 (upd (σ8 26) 0 0)) 26 (upd (am_up σ8 26 (upd (σ8 26) 0 0) 26) 1 0) 26 i = 0 := by
      intro i hi
      rw [am_us, am_us]
      by_cases e1 : i = 1
      · subst e1; rw [up_s]
      · rw [up_n _ _ _ _ e1, show i = 0 by omega, up_s]
    generalize am_up (am_up σ8 26 (upd (σ8 26) 0 0)) 26 (upd (am_up σ8 26 (upd (σ8 26) 0 0) 26) 1 0) = σ9 at hf9 hf98 z26 ⊢
    have hD9 : rmD (ps_D G) σ9 := rmD_fr (fm_k hf9 0 rfl) (fm_k hf9 1 rfl) (fm_k hf9 2 rfl) (fm_k hf9 3 rfl) (fm_k hf9 7 rfl) (fm_d hf9 1 rfl (by decide)) (fm_d hf9 2 rfl (by decide)) (fm_d hf9 3 rfl (by decide)) (fm_d hf9 4 rfl (by decide)) hD4
    have hF9 := sw_FM_fr (fm_d hf9 5 rfl (by decide)) hF4
    have hf9' : fm [1, 2, 3, 4, 5, 7, 8, 9, 10, 11, 12, 13, 26] [0, 1, 2, 3, 7, 12, 13, 14, 15, 16, 18, 24, 27, 33, 36, 41] σ σ9 := fm_tr (fm_tr (fm_rf _ _ _) hf4' (by decide) (by decide)) hf9 (by decide) (by decide)
    have k12' : σ9 0 12 = 0 := by rw [fm_k hf9 12 rfl, fm_k hf4 12 rfl]; exact k12
    have k13' : σ9 0 13 = -1 := by rw [fm_k hf9 13 rfl, fm_k hf4 13 rfl]; exact k13
    have fin := h σ9
    obtain ⟨gcn, gst, gmn, gm, gc, ge, gn, gf, gk, gR, grn⟩ := G
    rw [show σ9 0 3 = nI gm from hD9.1.1]
    exact fin ⟨⟨k12', fun j hj => absurd hj (Nat.not_lt_zero j), k13'⟩, hD9, hF9, (fm_k hf9' 10 rfl).trans hS, ⟨Nat.zero_le _, (hf98 27).trans z27, fun j hj => absurd hj (Nat.not_lt_zero j)⟩, z26, ⟨(hf98 33).trans z33, Nat.zero_le _, fun j hj => absurd hj (Nat.not_lt_zero j)⟩, ⟨(hf98 36).trans z36, Nat.zero_le _, fun j hj => absurd hj (Nat.not_lt_zero j)⟩, ⟨(hf98 41).trans z41, Nat.zero_le _, fun j hj => absurd hj (Nat.not_lt_zero j)⟩⟩
  have loop : ∀ (f : Nat) (G : ps_G) (p : Nat) (σ1 : am_M), tl ≤ p + f → ps_all tl tx f G p = ps_all tl tx 240 ps_0 0 → okG G → p ≤ tl → fm [7, 8, 9, 10, 11, 12, 13] [13, 14, 15, 16, 18, 24] σ σ1 → σ1 0 13 = -1 → pM G σ1 → σ1 0 14 = nI p → WW 28 [some (.ref 0), some (.int 0)] [] LM σ1 := by
    intro f
    induction f with
    | zero =>
      intro G p σ1 hf0 ha hok hp hf h13 hG e2
      have hge : ¬ ps_sk tl tx p < tl := by have := (ps_sk_f (tl := tl) (tx := tx) (p := p)).1; omega
      exact fin G p σ1 (by rw [← ha]; rfl) hok hp hge hf h13 hG e2
    | succ f ih =>
      intro G p σ1 hf0 ha hok hp hf h13 hG e2
      rw [ps_all] at ha
      by_cases hlt : ps_sk tl tx p < tl
      · rw [if_pos hlt] at ha
        have hb := hT.2 _ hlt
        have hcl := ps_cl_ok hlt hok
        have s2 := (ps_sk_f (tl := tl) (tx := tx) (p := p)).2 hp
        refine hw 60 _ _ _ _ _ ?_
        conv => whnf
        refine ⟨fun c => absurd rfl c, fun _ => ?_⟩
        conv => whnf
        refine ⟨tl, tx, p, rfl, rfl, hT, mT_fr (fm_k hf 12 rfl) (fm_d hf 6 rfl (by decide)) hc, hp, e2, fun σ2 hf2 h14 => ?_⟩
        have hf2' : fm [7, 8, 9, 10, 11, 12, 13] [13, 14, 15, 16, 18, 24] σ σ2 := fm_tr hf hf2 (by decide) (by decide)
        rw [show ps_let tl tx (ps_sk tl tx p) = nI (tx (ps_sk tl tx p)) from if_pos hlt]
        conv => whnf
        refine ⟨fun c => absurd c (nI_pos (by omega)), fun _ => ?_⟩
        conv => whnf
        refine ⟨tl, tx, G, ps_sk tl tx p, rfl, rfl, hT, mT_fr (fm_k hf2' 12 rfl) (fm_d hf2' 6 rfl (by decide)) hc, pM_fr (fm_tr (fm_rf _ _ _) hf2 (by decide) (by decide)) hG, hok, s2, by rw [ps_sk_i]; exact hlt, h14, ?_⟩
        rw [show ps_cl tl tx G (ps_sk tl tx p) = ps_cl tl tx G p by unfold ps_cl; rw [ps_sk_i]]
        cases hx : ps_cl tl tx G p with
        | error x =>
          rw [hx] at ha hcl
          intro σ3 hf3 h3
          conv => whnf
          exact E37 x σ3 ha.symm hcl.1 hcl.2.1 (fm_tr hf2' hf3 (by decide) (by decide)) h3
        | ok g =>
          rw [hx] at ha hcl
          intro σ3 hf3 hp3 h3
          have hpg : p < g.2 := hcl.2.1
          conv => whnf
          exact ih g.1 g.2 σ3 (by omega) ha hcl.1 hcl.2.2 (fm_tr hf2' hf3 (by decide) (by decide)) (by rw [fm_k hf3 13 rfl, fm_k hf2 13 rfl]; exact h13) hp3 h3
      · rw [if_neg hlt] at ha
        exact fin G p σ1 ha.symm hok hp hlt hf h13 hG e2
  have clr : ∀ d i σ1, d + i = 3 → fm [7] [13, 14] σ σ1 → σ1 0 13 = -1 → σ1 0 14 = 0 → (∀ q, q < i → σ1 7 q = 0) → WW 9 [some (.ref 0), some (.int (nI i))] [] LM σ1 := by
    intro d
    induction d with
    | zero =>
      intro i σ1 hd hf h13 h14 hz
      have ei : i = 3 := by omega
      subst ei
      refine hw 60 _ _ _ _ _ ?_
      conv => whnf
      refine ⟨fun _ => ?_, fun c => absurd (Int32.le_refl _) c⟩
      conv => whnf
      refine loop 240 ps_0 0 (am_w (am_w σ1 0 18 0) 0 24 0) (by omega) rfl okG_0 (Nat.zero_le _) (fm_w0 (fm_w0 (fm_tr (fm_rf _ _ _) hf (by decide) (by decide)) (by decide)) (by decide)) ?_ ⟨?_, ?_, ?_, ?_, ?_, fun b hb => absurd hb (Nat.not_lt_zero b), fun b hb => absurd hb (Nat.not_lt_zero b)⟩ ?_
      · rw [aw_k _ _ _ _ _ (by decide), aw_k _ _ _ _ _ (by decide)]; exact h13
      · rw [aw_n _ _ _ _ _ (by decide), aw_n _ _ _ _ _ (by decide), hz 0 (by decide)]; rfl
      · rw [aw_n _ _ _ _ _ (by decide), aw_n _ _ _ _ _ (by decide), hz 1 (by decide)]; rfl
      · rw [aw_n _ _ _ _ _ (by decide), aw_n _ _ _ _ _ (by decide), hz 2 (by decide)]; rfl
      · rw [aw_k _ _ _ _ _ (by decide), aw_s]; rfl
      · rw [aw_s]; rfl
      · rw [aw_k _ _ _ _ _ (by decide), aw_k _ _ _ _ _ (by decide)]; exact h14
    | succ d ih =>
      intro i σ1 hd hf h13 h14 hz
      have vi : vp_in (nI i) 3 := vp_j (by omega) (by decide)
      have ci : (nI i).toNatClampNeg = i := nI_cl (by omega)
      refine hw 60 _ _ _ _ _ ?_
      conv => whnf
      refine ⟨fun c => absurd c (nI_ge (b := 3) (by omega) (by decide)), fun _ => ?_⟩
      repeat ((conv => whnf); refine And.intro ?_ ?_; first | with_reducible assumption | decide)
      conv => whnf
      rw [ci, nI_1]
      refine ih (i + 1) (am_w σ1 7 i 0) (by omega) (fm_up _ hf (by decide) (by decide)) ?_ ?_ (fun q hq => ?_)
      · rw [aw_n _ _ _ _ _ (by decide)]; exact h13
      · rw [aw_n _ _ _ _ _ (by decide)]; exact h14
      · by_cases eq : q = i
        · subst eq; rw [aw_s]
        · rw [aw_k _ _ _ _ _ eq]; exact hz q (by omega)
  refine hw 60 _ _ _ _ _ ?_
  conv => whnf
  refine clr 3 0 (am_w (am_w σ 0 13 (-1)) 0 14 0) rfl (fm_w0 (fm_w0 (fm_rf _ _ _) (by decide)) (by decide)) ?_ (aw_s _ _ _ _) (fun q hq => absurd hq (by omega))
  rw [aw_k _ _ _ _ _ (by decide), aw_s]
