/-! THE REFERENCE: the seed -/
/-- the flock, the seed and what can be undone are new, the rest stays -/
theorem RM_flock2 {T : sw_T} {cn st mn m : Nat} {c e k : Nat → Nat} {R : Nat} {rn : Nat → Nat} {F F' : sw_F} {sd sd' : Nat} {U U' : sw_U} {I : sw_I} {E1 E2 E3 : sw_E} {σ σ' : am_M} (hf : fm [5, 14, 15, 16, 17, 18] [10, 27, 31, 39, 40] σ σ') (h : RM (T, (cn, st, mn, m, c, e, k, R, rn), F, sd, U, I, E1, E2, E3) σ) (h10 : σ' 0 10 = nI sd') (hF : sw_FM σ' m F') (hU : rmU σ' m U') : RM (T, (cn, st, mn, m, c, e, k, R, rn), F', sd', U', I, E1, E2, E3) σ' := by
  obtain ⟨hT, hD, -, hS, -, hI, h1, h2, h3⟩ := h
  exact ⟨rmT_fr (fm_k hf 12 rfl) (fm_k hf 13 rfl) (fm_d hf 6 rfl (by decide)) hT, rmD_fr (fm_k hf 0 rfl) (fm_k hf 1 rfl) (fm_k hf 2 rfl) (fm_k hf 3 rfl) (fm_k hf 7 rfl) (fm_d hf 1 rfl (by decide)) (fm_d hf 2 rfl (by decide)) (fm_d hf 3 rfl (by decide)) (fm_d hf 4 rfl (by decide)) hD, hF, h10, hU, rmI_fr (fm_d hf 25 rfl (by decide)) (fm_d hf 26 rfl (by decide)) hI, rmE_fr (fm_k hf 33 rfl) (fm_d hf 19 rfl (by decide)) (fm_d hf 20 rfl (by decide)) h1, rmE_fr (fm_k hf 36 rfl) (fm_d hf 21 rfl (by decide)) (fm_d hf 22 rfl (by decide)) h2, rmE_fr (fm_k hf 41 rfl) (fm_d hf 23 rfl (by decide)) (fm_d hf 24 rfl (by decide)) h3⟩
theorem ct_mseed (l : Launch) (A : sw_A) (hA : okA A) (x : Int32) : am_Ct l 0 yX7_seed cX7_seed 3 (some .int) (trM [.ref 0, .int x] A (st_seed A x)) := by
  refine am_ct tbX7_seed (am_G []) (by decide +kernel) (by simp) rfl dtX7_seed rfl ckX7_seed lkX7_seed (am_nocalls rfl) ?_
  intro as L σ post h
  obtain ⟨rfl, rfl, hR, h⟩ := h
  refine ⟨by simp [am_lv0], fun WW hw => hw 60 _ _ _ _ _ ?_⟩
  obtain ⟨T, ⟨cn, st, mn, m, c, e, k, R, rn⟩, F, sd, U, I, E1, E2, E3⟩ := A
  obtain ⟨hT, hD, hF, hS, hU, hI, h1, h2, h3⟩ := id hR
  have c1 : 0 ≤ x ↔ 0 ≤ x.toInt := sw_lex 0 (by decide)
  have hx2 := fb_rng' x
  conv => whnf
  rw [c1]
  cases hx : sw_ix x 0 2147483648 with
  | none =>
    have hn := sw_ix_none hx
    simp only [st_seed, hx] at h
    exact ⟨fun c => by omega, fun _ => h σ hR⟩
  | some v =>
    obtain ⟨-, hv, rfl⟩ := sw_ix_some hx
    simp only [st_seed, hx] at h
    rw [nI_toInt (by omega)]
    refine ⟨fun _ => ?_, fun c => by omega⟩
    conv => whnf
    rw [hS]
    have hf : fm [5, 14, 15, 16, 17, 18] [10, 27, 31, 39, 40] σ (am_w σ 0 10 (nI v)) := fm_w0 (fm_rf _ _ _) (by decide)
    exact h _ (RM_flock2 hf hR (aw_s _ _ _ _) (sw_FM_fr (aw_n _ _ _ _ _ (by decide)) hF) (rmU_fr (aw_k _ _ _ _ _ (by decide)) (aw_n _ _ _ _ _ (by decide)) hU))
