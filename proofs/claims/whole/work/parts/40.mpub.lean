/-! THE REFERENCE: gates, mud, rings -/
set_option maxHeartbeats 2000000 in
theorem ct_mopen (l : Launch) (A : sw_A) (hA : okA A) (b : Int32) (is : Bool) : am_Ct l 2 yX7_open cX7_open 4 (some .int) (trM [.ref 0, .int b, .int (sw_b2 is)] A (st_open A b is)) := by
  refine am_ct tbX7_open (am_G [tr_misBarn, tr_mremember, tr_mhas]) (by decide +kernel) (by simp) rfl dtX7_open rfl ckX7_open lkX7_open (am_cokF [(2, some (.invokevirtual 184), 0, 2, 7, 0), (12, some (.invokevirtual 219), 1, 1, 7, 0), (23, some (.invokestatic 189), 2, 2, 0, 0)] rfl (List.forall_mem_cons.mpr ⟨⟨1, _, _, _, _, by decide, (ct_misBarn l), lnX7_184⟩, List.forall_mem_cons.mpr ⟨⟨0, _, _, _, _, by decide, (ct_mremember l), lnX7_219⟩, List.forall_mem_cons.mpr ⟨Or.inr (Or.inr (Or.inr ⟨0, _, _, _, _, by decide, (ct_mhas l), lnX7_189⟩)), fun _ h => absurd h List.not_mem_nil⟩⟩⟩)) ?_
  intro as L σ post h
  obtain ⟨rfl, rfl, hR, h⟩ := h
  refine ⟨by simp [am_lv0], fun WW hw => hw 60 _ _ _ _ _ ?_⟩
  obtain ⟨T, ⟨cn, st, mn, m, c, e, k, R, rn⟩, F, sd, U, I, E1, E2, E3⟩ := A
  obtain ⟨hT, ⟨hL, d6, d7, d8, d9⟩, hF, hS, hU, hI, h1, h2, h3⟩ := id hR
  obtain ⟨-, -, ⟨hcn, hm, -⟩, -⟩ := hA
  have v24 : vp_in 24 27 := vp_j (j := 24) (by decide) (by decide)
  have c24 : (24 : Int32).toNatClampNeg = 24 := by decide
  conv => whnf
  refine ⟨m, b, rfl, rfl, by omega, hL.1, ?_⟩
  cases hb : sw_ix b 0 m with
  | none =>
    simp only [st_open, hb] at h
    conv => whnf
    exact ⟨fun c => absurd rfl c, fun _ => h σ hR⟩
  | some j =>
    obtain ⟨-, hj, rfl⟩ := sw_ix_some hb
    simp only [st_open, hb] at h
    conv => whnf
    refine ⟨fun _ => ?_, fun c => absurd c sw_t0⟩
    conv => whnf
    refine ⟨m, F, U, rfl, rfl, hm, hF, hU, fun σ1 hf hU1 => ?_⟩
    have hF1 := sw_FM_fr (fm_d hf 5 rfl (by decide)) hF
    have key : ∀ v, v = (if is then F.2.2.2.1 &&& ((1 <<< (nI j &&& 31)) ^^^ -1) else F.2.2.2.1 ||| (1 <<< (nI j &&& 31))) → RM (T, (cn, st, mn, m, c, e, k, R, rn), sw_opn F j is, sd, sw_push U F, I, E1, E2, E3) (am_w σ1 5 24 v) := by
      intro v hv
      refine RM_flock (fm_up _ (fm_tr (fm_rf _ _ _) hf (by decide) (by decide)) (by decide) (by decide)) hR ?_ (rmU_fr (by rw [aw_n _ _ _ _ _ (by decide)]) (aw_n _ _ _ _ _ (by decide)) hU1)
      obtain ⟨g1, g2, g3, g4, g5, g6⟩ := hF1
      refine ⟨fun q hq => ?_, fun q hq => ?_, fun q hq => ?_, ?_, ?_, ?_⟩
      · exact (aw_k _ _ _ _ _ (by omega)).trans (g1 q hq)
      · exact (aw_k _ _ _ _ _ (by omega)).trans (g2 q hq)
      · exact (aw_k _ _ _ _ _ (by omega)).trans (g3 q hq)
      · exact (aw_s _ _ _ _).trans hv
      · exact (aw_k _ _ _ _ _ (by decide)).trans g5
      · exact (aw_k _ _ _ _ _ (by decide)).trans g6
    have e24 : σ1 5 24 = F.2.2.2.1 := hF1.2.2.2.1
    conv => whnf
    refine ⟨v24, ?_⟩
    conv => whnf
    rw [c24, e24]
    refine ⟨F.2.2.2.1, j, rfl, ?_⟩
    cases hbit : sw_bit F.2.2.2.1 j with
    | true =>
      rw [hbit, if_pos rfl] at h
      conv => whnf
      refine ⟨fun c => absurd c (by decide), fun _ => ?_⟩
      cases is with
      | true =>
        conv => whnf
        refine ⟨fun c => absurd c (by decide), fun _ => ?_⟩
        repeat ((conv => whnf); refine And.intro ?_ ?_; first | with_reducible assumption | decide)
        conv => whnf
        refine h _ (key _ ?_)
        rw [c24, e24]; rfl
      | false =>
        conv => whnf
        refine ⟨fun _ => ?_, fun c => absurd rfl c⟩
        repeat ((conv => whnf); refine And.intro ?_ ?_; first | with_reducible assumption | decide)
        conv => whnf
        refine h _ (key _ ?_)
        rw [c24, e24]; rfl
    | false =>
      rw [hbit, if_neg (by decide)] at h
      conv => whnf
      refine ⟨fun _ => ?_, fun c => absurd rfl c⟩
      cases is with
      | true =>
        conv => whnf
        refine ⟨fun c => absurd c (by decide), fun _ => ?_⟩
        repeat ((conv => whnf); refine And.intro ?_ ?_; first | with_reducible assumption | decide)
        conv => whnf
        refine h _ (key _ ?_)
        rw [c24, e24]; rfl
      | false =>
        conv => whnf
        refine ⟨fun _ => ?_, fun c => absurd rfl c⟩
        repeat ((conv => whnf); refine And.intro ?_ ?_; first | with_reducible assumption | decide)
        conv => whnf
        refine h _ (key _ ?_)
        rw [c24, e24]; rfl
