/-! THE REFERENCE: mud, rings -/
set_option maxHeartbeats 2000000 in
theorem ct_mring (l : Launch) (A : sw_A) (hA : okA A) (b x : Int32) : am_Ct l 2 yX7_ring cX7_ring 3 (some .int) (trM [.ref 0, .int b, .int x] A (st_ring A b x)) := by
  refine am_ct tbX7_ring (am_G [tr_misBarn, tr_min, tr_mremember]) (by decide +kernel) (by simp) rfl dtX7_ring rfl ckX7_ring lkX7_ring (am_cokF [(2, some (.invokevirtual 184), 0, 2, 7, 0), (17, some (.invokestatic 99), 1, 3, 0, 0), (50, some (.invokevirtual 219), 2, 1, 7, 0)] rfl (List.forall_mem_cons.mpr ⟨⟨1, _, _, _, _, by decide, (ct_misBarn l), lnX7_184⟩, List.forall_mem_cons.mpr ⟨Or.inr (Or.inr (Or.inr ⟨0, _, _, _, _, by decide, (ct_min l), lnX7_99⟩)), List.forall_mem_cons.mpr ⟨⟨0, _, _, _, _, by decide, (ct_mremember l), lnX7_219⟩, fun _ h => absurd h List.not_mem_nil⟩⟩⟩)) ?_
  intro as L σ post h
  obtain ⟨rfl, rfl, hR, h⟩ := h
  refine ⟨by simp [am_lv0], fun WW hw => hw 60 _ _ _ _ _ ?_⟩
  obtain ⟨T, ⟨cn, st, mn, m, c, e, k, R, rn⟩, F, sd, U, I, E1, E2, E3⟩ := A
  obtain ⟨hT, ⟨hL, d6, d7, d8, d9⟩, hF, hS, hU, hI, h1, h2, h3⟩ := id hR
  obtain ⟨-, -, ⟨hcn, hm, -, -, -, -, hB, -⟩, ⟨hFk, hy⟩, -⟩ := hA
  conv => whnf
  refine ⟨m, b, rfl, rfl, by omega, hL.1, ?_⟩
  cases hb : sw_ix b 0 m with
  | none =>
    simp only [st_ring, hb] at h
    conv => whnf
    exact ⟨fun c => absurd rfl c, fun _ => h σ hR⟩
  | some j =>
    obtain ⟨-, hj, rfl⟩ := sw_ix_some hb
    have hFj := hFk j hj
    have hBj := hB j hj
    have vj : vp_in (nI j) 27 := vp_j (by omega) (by decide)
    have vj8 : vp_in (8 + nI j) 27 := by rw [nI_8]; exact vp_j (by omega) (by decide)
    have hcl : (nI j).toNatClampNeg = j := nI_cl (by omega)
    have hc8 : (8 + nI j).toNatClampNeg = 8 + j := by rw [nI_8]; exact nI_cl (by omega)
    conv => whnf
    refine ⟨fun _ => ?_, fun c => absurd c sw_t0⟩
    conv => whnf
    refine ⟨_, _, _, x.toInt, ((1 : Nat) : Int), 40, rfl, Int32.toInt_toInt64 x, rfl, rfl, ?_⟩
    rw [sw_isIx x 1 41 (hi := 40) rfl]
    cases hx : sw_ix x 1 41 with
    | none =>
      simp only [st_ring, hb, hx] at h
      conv => whnf
      exact ⟨fun c => absurd rfl c, fun _ => h σ hR⟩
    | some n =>
      obtain ⟨hn1, hn, rfl⟩ := sw_ix_some hx
      simp only [st_ring, hb, hx] at h
      have g1 := hF.1 j hj
      have g2 := hF.2.1 j hj
      have cle := nI_le' (a := F.2.1 j + n) (b := F.1 j) (by omega) (by omega)
      conv => whnf
      refine ⟨fun _ => ?_, fun c => absurd c sw_t0⟩
      repeat ((conv => whnf); refine And.intro ?_ ?_; first | with_reducible assumption | decide)
      conv => whnf
      rw [hcl, hc8, g1, g2, nI_add]
      refine ⟨fun q => ?_, fun q => ?_⟩
      · have q := cle.1 q
        rw [if_neg (by omega)] at h
        conv => whnf
        refine ⟨m, F, U, rfl, rfl, hm, hF, hU, fun σ1 hf hU1 => ?_⟩
        have hF1 := sw_FM_fr (fm_d hf 5 rfl (by decide)) hF
        repeat ((conv => whnf); refine And.intro ?_ ?_; first | with_reducible assumption | decide)
        conv => whnf
        rw [hc8, hF1.2.1 j hj, nI_add, am_us, up_s]
        refine h (am_w σ1 5 (8 + j) (nI (F.2.1 j + n))) ?_
        refine RM_flock (fm_up _ (fm_tr (fm_rf _ _ _) hf (by decide) (by decide)) (by decide) (by decide)) hR ?_ (rmU_fr (by rw [aw_n _ _ _ _ _ (by decide)]) (aw_n _ _ _ _ _ (by decide)) hU1)
        obtain ⟨g1, g2, g3, g4, g5, g6⟩ := hF1
        refine ⟨fun q hq => ?_, fun q hq => ?_, fun q hq => ?_, ?_, ?_, ?_⟩
        · exact (aw_k _ _ _ _ _ (by omega)).trans (g1 q hq)
        · show am_w σ1 5 (8 + j) _ 5 (8 + q) = nI (va_up F.2.1 j (F.2.1 j + n) q)
          by_cases e : q = j
          · subst e; rw [aw_s, up_vs]
          · rw [aw_k _ _ _ _ _ (by omega), up_vn _ _ _ _ e]; exact g2 q hq
        · exact (aw_k _ _ _ _ _ (by omega)).trans (g3 q hq)
        · exact (aw_k _ _ _ _ _ (by omega)).trans g4
        · exact (aw_k _ _ _ _ _ (by omega)).trans g5
        · exact (aw_k _ _ _ _ _ (by omega)).trans g6
      · have q : ¬ F.2.1 j + n ≤ F.1 j := fun t => q (cle.2 t)
        rw [if_pos (by omega)] at h
        conv => whnf
        exact h σ hR
