/-! THE REFERENCE: rough, write, tear, judge -/
set_option maxHeartbeats 1000000 in
theorem ct_mwrite (l : Launch) (A : sw_A) (hA : okA A) (b x : Int32) : am_Ct l 2 yX7_write cX7_write 3 (some .int) (trM [.ref 0, .int b, .int x] A (st_write A b x)) := by
  refine am_ct tbX7_write (am_G [tr_misCounty, tr_min]) (by decide +kernel) (by simp) rfl dtX7_write rfl ckX7_write lkX7_write (am_cokF [(2, some (.invokevirtual 250), 0, 2, 7, 0), (17, some (.invokestatic 99), 1, 3, 0, 0)] rfl (List.forall_mem_cons.mpr ⟨⟨1, _, _, _, _, by decide, (ct_misCounty l), lnX7_250⟩, List.forall_mem_cons.mpr ⟨Or.inr (Or.inr (Or.inr ⟨0, _, _, _, _, by decide, (ct_min l), lnX7_99⟩)), fun _ h => absurd h List.not_mem_nil⟩⟩)) ?_
  intro as L σ post h
  obtain ⟨rfl, rfl, hR, h⟩ := h
  refine ⟨by simp [am_lv0], fun WW hw => hw 60 _ _ _ _ _ ?_⟩
  obtain ⟨T, ⟨cn, st, mn, m, c, e, k, R, rn⟩, F, sd, U, I, E1, E2, E3⟩ := A
  obtain ⟨hT, hD, hF, hS, hU, hI, h1, h2, h3⟩ := id hR
  obtain ⟨-, -, ⟨hcn, hm, -⟩, -⟩ := hA
  have e1 := h3.1
  have l1 := h3.2.1
  have c8 : nI E3.1 = 15 ↔ E3.1 = 15 := nI_eq' (b := 15) (by omega) (by decide)
  conv => whnf
  refine ⟨cn, b, rfl, rfl, by omega, hD.1.2.1, ?_⟩
  cases hb : sw_ix b 0 cn with
  | none =>
    simp only [st_write, hb] at h
    conv => whnf
    exact ⟨fun c => absurd rfl c, fun _ => h σ hR⟩
  | some j =>
    obtain ⟨-, hj, rfl⟩ := sw_ix_some hb
    conv => whnf
    refine ⟨fun _ => ?_, fun c => absurd c sw_t0⟩
    conv => whnf
    refine ⟨_, _, _, x.toInt, ((0 : Nat) : Int), 320, rfl, Int32.toInt_toInt64 x, rfl, rfl, ?_⟩
    rw [sw_isIx x 0 321 (hi := 320) rfl]
    cases hx : sw_ix x 0 321 with
    | none =>
      simp only [st_write, hb, hx] at h
      conv => whnf
      exact ⟨fun c => absurd rfl c, fun _ => h σ hR⟩
    | some v =>
      obtain ⟨-, hv, rfl⟩ := sw_ix_some hx
      simp only [st_write, hb, hx] at h
      conv => whnf
      refine ⟨fun _ => ?_, fun c => absurd c sw_t0⟩
      conv => whnf
      rw [e1, c8]
      refine ⟨fun cc => ?_, fun cc => ?_⟩
      · rw [if_neg cc] at h
        have vE : vp_in (nI E3.1) 15 := vp_j (by omega) (by decide)
        have kE : (nI E3.1).toNatClampNeg = E3.1 := nI_cl (by omega)
        conv => whnf
        rw [e1]
        refine ⟨vE, ?_⟩
        conv => whnf
        rw [am_un _ _ _ _ (by decide), e1]
        refine ⟨vE, ?_⟩
        conv => whnf
        simp only [am_us, am_un, up_s, kE, e1, nI_1, Nat.reduceEqDiff, not_false_eq_true, cond_false]
        have hf : fm [19, 20, 21, 22, 23, 24] [33, 36, 41] σ (am_up (am_up (am_up σ 23 (upd (σ 23) E3.1 (nI j))) 24 (upd (σ 24) E3.1 (nI v))) 0 (upd (σ 0) 41 (nI (E3.1 + 1)))) := by
          refine ⟨fun q h0 hq => ?_, fun kk hk => ?_⟩
          · rw [am_un _ _ _ _ h0, am_un _ _ _ _ (fun t => hq (by rw [t]; decide)), am_un _ _ _ _ (fun t => hq (by rw [t]; decide))]
          · rw [am_us, up_n _ _ _ _ (fun t => hk (by rw [t]; decide))]
        refine h _ (RM_E hf hR (rmE_fr ?_ ?_ ?_ h1) (rmE_fr ?_ ?_ ?_ h2) (rmE_app h3 (by omega) (by rw [am_us, up_s]) (fun q => ?_) (fun q => ?_)))
        · rw [am_us, up_n _ _ _ _ (by decide)]
        · rw [am_un _ _ _ _ (by decide), am_un _ _ _ _ (by decide), am_un _ _ _ _ (by decide)]
        · rw [am_un _ _ _ _ (by decide), am_un _ _ _ _ (by decide), am_un _ _ _ _ (by decide)]
        · rw [am_us, up_n _ _ _ _ (by decide)]
        · rw [am_un _ _ _ _ (by decide), am_un _ _ _ _ (by decide), am_un _ _ _ _ (by decide)]
        · rw [am_un _ _ _ _ (by decide), am_un _ _ _ _ (by decide), am_un _ _ _ _ (by decide)]
        · rw [am_un _ _ _ _ (by decide), am_un _ _ _ _ (by decide), am_us]
        · rw [am_un _ _ _ _ (by decide), am_us]
      · rw [if_pos cc] at h
        conv => whnf
        exact h σ hR
set_option maxHeartbeats 1000000 in
theorem ct_mrough (l : Launch) (A : sw_A) (hA : okA A) (b x : Int32) : am_Ct l 2 yX7_rough cX7_rough 3 (some .int) (trM [.ref 0, .int b, .int x] A (st_rough A b x)) := by
  refine am_ct tbX7_rough (am_G [tr_min]) (by decide +kernel) (by simp) rfl dtX7_rough rfl ckX7_rough lkX7_rough (am_cokF [(12, some (.invokestatic 99), 0, 3, 0, 0), (27, some (.invokestatic 99), 0, 3, 0, 0)] rfl (List.forall_mem_cons.mpr ⟨Or.inr (Or.inr (Or.inr ⟨0, _, _, _, _, by decide, (ct_min l), lnX7_99⟩)), List.forall_mem_cons.mpr ⟨Or.inr (Or.inr (Or.inr ⟨0, _, _, _, _, by decide, (ct_min l), lnX7_99⟩)), fun _ h => absurd h List.not_mem_nil⟩⟩)) ?_
  intro as L σ post h
  obtain ⟨rfl, rfl, hR, h⟩ := h
  refine ⟨by simp [am_lv0], fun WW hw => hw 60 _ _ _ _ _ ?_⟩
  obtain ⟨T, ⟨cn, st, mn, m, c, e, k, R, rn⟩, F, sd, U, I, E1, E2, E3⟩ := A
  obtain ⟨hT, hD, hF, hS, hU, hI, h1, h2, h3⟩ := id hR
  obtain ⟨-, -, ⟨hcn, hm, -⟩, -⟩ := hA
  have e1 := h2.1
  have l1 := h2.2.1
  have c8 : nI E2.1 = 8 ↔ E2.1 = 8 := nI_eq' (b := 8) (by omega) (by decide)
  have p2 : 2 ^ m ≤ 256 := Nat.pow_le_pow_right (n := 2) (by decide) hm
  conv => whnf
  rw [hD.1.1, sw_shl1 m (by omega)]
  refine ⟨_, _, _, b.toInt, ((0 : Nat) : Int), _, rfl, Int32.toInt_toInt64 b, rfl, nI_less1 (by omega), ?_⟩
  rw [sw_isIx b 0 (2 ^ m) rfl]
  cases hb : sw_ix b 0 (2 ^ m) with
  | none =>
    simp only [st_rough, hb] at h
    conv => whnf
    exact ⟨fun c => absurd rfl c, fun _ => h σ hR⟩
  | some j =>
    obtain ⟨-, hj, rfl⟩ := sw_ix_some hb
    conv => whnf
    refine ⟨fun _ => ?_, fun c => absurd c sw_t0⟩
    conv => whnf
    refine ⟨_, _, _, x.toInt, ((0 : Nat) : Int), 320, rfl, Int32.toInt_toInt64 x, rfl, rfl, ?_⟩
    rw [sw_isIx x 0 321 (hi := 320) rfl]
    cases hx : sw_ix x 0 321 with
    | none =>
      simp only [st_rough, hb, hx] at h
      conv => whnf
      exact ⟨fun c => absurd rfl c, fun _ => h σ hR⟩
    | some v =>
      obtain ⟨-, hv, rfl⟩ := sw_ix_some hx
      simp only [st_rough, hb, hx] at h
      conv => whnf
      refine ⟨fun _ => ?_, fun c => absurd c sw_t0⟩
      conv => whnf
      rw [e1, c8]
      refine ⟨fun cc => ?_, fun cc => ?_⟩
      · rw [if_neg cc] at h
        have vE : vp_in (nI E2.1) 8 := vp_j (by omega) (by decide)
        have kE : (nI E2.1).toNatClampNeg = E2.1 := nI_cl (by omega)
        conv => whnf
        rw [e1]
        refine ⟨vE, ?_⟩
        conv => whnf
        rw [am_un _ _ _ _ (by decide), e1]
        refine ⟨vE, ?_⟩
        conv => whnf
        simp only [am_us, am_un, up_s, kE, e1, nI_1, Nat.reduceEqDiff, not_false_eq_true, cond_false]
        have hf : fm [19, 20, 21, 22, 23, 24] [33, 36, 41] σ (am_up (am_up (am_up σ 21 (upd (σ 21) E2.1 (nI j))) 22 (upd (σ 22) E2.1 (nI v))) 0 (upd (σ 0) 36 (nI (E2.1 + 1)))) := by
          refine ⟨fun q h0 hq => ?_, fun kk hk => ?_⟩
          · rw [am_un _ _ _ _ h0, am_un _ _ _ _ (fun t => hq (by rw [t]; decide)), am_un _ _ _ _ (fun t => hq (by rw [t]; decide))]
          · rw [am_us, up_n _ _ _ _ (fun t => hk (by rw [t]; decide))]
        refine h _ (RM_E hf hR (rmE_fr ?_ ?_ ?_ h1) (rmE_app h2 (by omega) (by rw [am_us, up_s]) (fun q => ?_) (fun q => ?_)) (rmE_fr ?_ ?_ ?_ h3))
        · rw [am_us, up_n _ _ _ _ (by decide)]
        · rw [am_un _ _ _ _ (by decide), am_un _ _ _ _ (by decide), am_un _ _ _ _ (by decide)]
        · rw [am_un _ _ _ _ (by decide), am_un _ _ _ _ (by decide), am_un _ _ _ _ (by decide)]
        · rw [am_un _ _ _ _ (by decide), am_un _ _ _ _ (by decide), am_us]
        · rw [am_un _ _ _ _ (by decide), am_us]
        · rw [am_us, up_n _ _ _ _ (by decide)]
        · rw [am_un _ _ _ _ (by decide), am_un _ _ _ _ (by decide), am_un _ _ _ _ (by decide)]
        · rw [am_un _ _ _ _ (by decide), am_un _ _ _ _ (by decide), am_un _ _ _ _ (by decide)]
      · rw [if_pos cc] at h
        conv => whnf
        exact h σ hR
theorem ct_mtear (l : Launch) (A : sw_A) (hA : okA A) : am_Ct l 0 yX7_tear cX7_tear 2 (some .int) (trM [.ref 0] A (st_tear A)) := by
  refine am_ct tbX7_tear (am_G []) (by decide +kernel) (by simp) rfl dtX7_tear rfl ckX7_tear lkX7_tear (am_nocalls rfl) ?_
  intro as L σ post h
  obtain ⟨rfl, rfl, hR, h⟩ := h
  refine ⟨by simp [am_lv0], fun WW hw => hw 60 _ _ _ _ _ ?_⟩
  obtain ⟨T, ⟨cn, st, mn, m, c, e, k, R, rn⟩, F, sd, U, I, E1, E2, E3⟩ := A
  obtain ⟨hT, hD, hF, hS, hU, hI, h1, h2, h3⟩ := id hR
  simp only [st_tear] at h
  conv => whnf
  rw [h1.1, h2.1, h3.1, nI_add, nI_add]
  have hf : fm [19, 20, 21, 22, 23, 24] [33, 36, 41] σ (am_w (am_w (am_w σ 0 33 0) 0 36 0) 0 41 0) := fm_w0 (fm_w0 (fm_w0 (fm_rf _ _ _) (by decide)) (by decide)) (by decide)
  refine h (am_w (am_w (am_w σ 0 33 0) 0 36 0) 0 41 0) (RM_E hf hR ⟨?_, Nat.zero_le _, fun j hj => absurd hj (Nat.not_lt_zero j)⟩ ⟨?_, Nat.zero_le _, fun j hj => absurd hj (Nat.not_lt_zero j)⟩ ⟨?_, Nat.zero_le _, fun j hj => absurd hj (Nat.not_lt_zero j)⟩)
  · rw [aw_k _ _ _ _ _ (by decide), aw_k _ _ _ _ _ (by decide), aw_s]; rfl
  · rw [aw_k _ _ _ _ _ (by decide), aw_s]; rfl
  · rw [aw_s]; rfl
theorem ct_mjudge (l : Launch) (A : sw_A) (hA : okA A) : am_Ct l 2 yX7_judge cX7_judge 2 (some .int) (trM [.ref 0] A (st_judge A)) := by
  refine am_ct tbX7_judge (am_G [tr_msouls]) (by decide +kernel) (by simp) rfl dtX7_judge rfl ckX7_judge lkX7_judge (am_cokF [(17, some (.invokevirtual 260), 0, 2, 7, 0)] rfl (List.forall_mem_cons.mpr ⟨⟨0, _, _, _, _, by decide, (ct_msouls l), lnX7_260⟩, fun _ h => absurd h List.not_mem_nil⟩)) ?_
  intro as L σ post h
  obtain ⟨rfl, rfl, hR, h⟩ := h
  refine ⟨by simp [am_lv0], fun WW hw => ?_⟩
  obtain ⟨T, ⟨cn, st, mn, m, c, e, k, R, rn⟩, F, sd, U, I, E1, E2, ⟨ln, w, v⟩⟩ := A
  obtain ⟨hT, ⟨hL, d6, d7, d8, d9⟩, hF, -, -, -, -, -, h3⟩ := id hR
  obtain ⟨-, -, ⟨hcn, hm, -, -, -, -, hB, -⟩, ⟨hFk, -⟩, -, -, -, -, -, -, ⟨hl15, hE⟩⟩ := hA
  obtain ⟨g1, g2, g3⟩ := h3
  dsimp only at hl15 hE g1 g2 g3
  have hcc : ∀ b, b < m → σ 1 b = nI (c b) ∧ c b < 1000 := fun b hb => ⟨hL.2.2.1 b hb, by have := (hB b hb).1; omega⟩
  have hsb : ∀ q, sw_cs F.1 c q m ≤ m * 40 := fun q => sw_cs_le m (fun b hb => by have := hFk b hb; have := (hB b hb).2.1; omega)
  have loop : ∀ (kk i : Nat) (z : Int32), i + kk = ln → z = nI i → sw_jd (cn, st, mn, m, c, e, k, R, rn) F (ln, w, v) kk i = sw_jd (cn, st, mn, m, c, e, k, R, rn) F (ln, w, v) ln 0 → WW 3 [some (.ref 0), some (.int z)] [] LM σ := by
    intro kk
    induction kk with
    | zero =>
      intro i z hi hz ht
      have ei : i = ln := by omega
      subst ei; subst hz
      refine hw 60 _ _ _ _ _ ?_
      conv => whnf
      rw [g1]
      refine ⟨fun _ => ?_, fun c => absurd (Int32.le_refl _) c⟩
      simp only [st_judge, ← ht, sw_jd] at h
      exact h σ hR
    | succ kk ih =>
      intro i z hi hz ht
      subst hz
      have hil : i < ln := by omega
      obtain ⟨j1, j2⟩ := g3 i hil
      obtain ⟨j3, j4⟩ := hE i hil
      have hin : vp_in (nI i) 15 := vp_j (by omega) (by decide)
      have hcl : (nI i).toNatClampNeg = i := nI_cl (by omega)
      have hs := hsb (w i)
      rw [sw_jd] at ht
      dsimp only at ht
      refine hw 60 _ _ _ _ _ ?_
      conv => whnf
      rw [g1]
      refine ⟨fun c => absurd c (nI_ge hil (by omega)), fun _ => ?_⟩
      repeat ((conv => whnf); refine And.intro ?_ ?_; first | with_reducible assumption | decide)
      conv => whnf
      rw [hcl, j1]
      refine ⟨w i, m, c, F.1, rfl, rfl, by omega, hm, hL.1, hcc, hF.1, ?_⟩
      repeat ((conv => whnf); refine And.intro ?_ ?_; first | with_reducible assumption | decide)
      conv => whnf
      rw [hcl, j2, nI_eq' (by omega) (by omega)]
      refine ⟨fun cc => ?_, fun cc => ?_⟩
      · rw [if_pos cc] at ht
        exact ih (i + 1) _ (by omega) (nI_1 i) ht
      · rw [if_neg cc] at ht
        simp only [st_judge, ← ht] at h
        exact h σ hR
  refine hw 60 _ _ _ _ _ ?_
  conv => whnf
  exact loop ln 0 0 (Nat.zero_add _) rfl rfl
