/-! THE REFERENCE: mud -/
theorem sw_FM_far {σ1 : am_M} {m j v : Nat} {F : sw_F} (hm : m ≤ 8) (hj : j < m) (H : sw_FM σ1 m F) : sw_FM (am_w σ1 5 (16 + j) (nI v)) m (F.1, F.2.1, va_up F.2.2.1 j v, F.2.2.2) := by
  obtain ⟨g1, g2, g3, g4, g5, g6⟩ := H
  refine ⟨fun q hq => ?_, fun q hq => ?_, fun q hq => ?_, ?_, ?_, ?_⟩
  · exact (aw_k _ _ _ _ _ (by omega)).trans (g1 q hq)
  · exact (aw_k _ _ _ _ _ (by omega)).trans (g2 q hq)
  · show am_w σ1 5 (16 + j) _ 5 (16 + q) = nI (va_up F.2.2.1 j v q)
    by_cases e : q = j
    · subst e; rw [aw_s, up_vs]
    · rw [aw_k _ _ _ _ _ (by omega), up_vn _ _ _ _ e]; exact g3 q hq
  · exact (aw_k _ _ _ _ _ (by omega)).trans g4
  · exact (aw_k _ _ _ _ _ (by omega)).trans g5
  · exact (aw_k _ _ _ _ _ (by omega)).trans g6
set_option maxHeartbeats 2000000 in
theorem ct_mmud (l : Launch) (A : sw_A) (hA : okA A) (b x : Int32) : am_Ct l 2 yX7_mud cX7_mud 3 (some .int) (trM [.ref 0, .int b, .int x] A (st_mud A b x)) := by
  refine am_ct tbX7_mud (am_G [tr_misBarn, tr_min, tr_mremember]) (by decide +kernel) (by simp) rfl dtX7_mud rfl ckX7_mud lkX7_mud (am_cokF [(2, some (.invokevirtual 184), 0, 2, 7, 0), (17, some (.invokestatic 99), 1, 3, 0, 0), (27, some (.invokevirtual 219), 2, 1, 7, 0)] rfl (List.forall_mem_cons.mpr ⟨⟨1, _, _, _, _, by decide, (ct_misBarn l), lnX7_184⟩, List.forall_mem_cons.mpr ⟨Or.inr (Or.inr (Or.inr ⟨0, _, _, _, _, by decide, (ct_min l), lnX7_99⟩)), List.forall_mem_cons.mpr ⟨⟨0, _, _, _, _, by decide, (ct_mremember l), lnX7_219⟩, fun _ h => absurd h List.not_mem_nil⟩⟩⟩)) ?_
  intro as L σ post h
  obtain ⟨rfl, rfl, hR, h⟩ := h
  refine ⟨by simp [am_lv0], fun WW hw => hw 60 _ _ _ _ _ ?_⟩
  obtain ⟨T, ⟨cn, st, mn, m, c, e, k, R, rn⟩, F, sd, U, I, E1, E2, E3⟩ := A
  obtain ⟨hT, ⟨hL, d6, d7, d8, d9⟩, hF, hS, hU, hI, h1, h2, h3⟩ := id hR
  obtain ⟨-, -, ⟨hcn, hm, -, -, -, -, hB, -⟩, ⟨hFk, hy⟩, -⟩ := hA
  conv => whnf
  refine ⟨m, b, rfl, rfl, by omega, hL.1, ?_⟩
  cases hb : sw_ix b 0 m with
  | none =>
    simp only [st_mud, hb] at h
    conv => whnf
    exact ⟨fun c => absurd rfl c, fun _ => h σ hR⟩
  | some j =>
    obtain ⟨-, hj, rfl⟩ := sw_ix_some hb
    have hFj := hFk j hj
    have vj16 : vp_in (16 + nI j) 27 := by rw [nI_16]; exact vp_j (by omega) (by decide)
    have hc16 : (16 + nI j).toNatClampNeg = 16 + j := by rw [nI_16]; exact nI_cl (by omega)
    conv => whnf
    refine ⟨fun _ => ?_, fun c => absurd c sw_t0⟩
    conv => whnf
    refine ⟨_, _, _, x.toInt, ((1 : Nat) : Int), 9, rfl, Int32.toInt_toInt64 x, rfl, rfl, ?_⟩
    rw [sw_isIx x 1 10 (hi := 9) rfl]
    cases hx : sw_ix x 1 10 with
    | none =>
      simp only [st_mud, hb, hx] at h
      conv => whnf
      exact ⟨fun c => absurd rfl c, fun _ => h σ hR⟩
    | some n =>
      obtain ⟨hn1, hn, rfl⟩ := sw_ix_some hx
      simp only [st_mud, hb, hx] at h
      have cle := nI_le' (a := F.2.2.1 j) (b := n) (by omega) (by omega)
      conv => whnf
      refine ⟨fun _ => ?_, fun c => absurd c sw_t0⟩
      conv => whnf
      refine ⟨m, F, U, rfl, rfl, hm, hF, hU, fun σ1 hf hU1 => ?_⟩
      have hF1 := sw_FM_fr (fm_d hf 5 rfl (by decide)) hF
      have fin := h (am_w σ1 5 (16 + j) (nI (F.2.2.1 j - n))) (RM_flock (fm_up _ (fm_tr (fm_rf _ _ _) hf (by decide) (by decide)) (by decide) (by decide)) hR (sw_FM_far hm hj hF1) (rmU_fr (by rw [aw_n _ _ _ _ _ (by decide)]) (aw_n _ _ _ _ _ (by decide)) hU1))
      repeat ((conv => whnf); refine And.intro ?_ ?_; first | with_reducible assumption | decide)
      conv => whnf
      rw [hc16, hF1.2.2.1 j hj]
      refine ⟨fun q => ?_, fun q => ?_⟩
      · have q := cle.1 q
        rw [show F.2.2.1 j - n = 0 by omega] at fin
        repeat ((conv => whnf); refine And.intro ?_ ?_; first | with_reducible assumption | decide)
        conv => whnf
        rw [hc16, am_us, up_s]
        exact fin
      · have q : ¬ F.2.2.1 j ≤ n := fun t => q (cle.2 t)
        repeat ((conv => whnf); refine And.intro ?_ ?_; first | with_reducible assumption | decide)
        conv => whnf
        rw [hc16, hF1.2.2.1 j hj, pk_sub (by omega), am_us, up_s]
        exact fin
