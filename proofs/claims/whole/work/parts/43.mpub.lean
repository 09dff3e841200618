/-! THE REFERENCE: the flock put by and put back -/
def tr_msave : am_T := fun as L σ post => as = [.ref 0] ∧ L = LM ∧ ∀ σ', am_fr [16] σ σ' → (∀ q, q < 27 → σ' 16 q = σ 5 q) → post none L σ'
theorem ct_msave (l : Launch) : am_Ct l 0 yX7_save cX7_save 2 none tr_msave := by
  refine am_ct tbX7_save (am_G []) (by decide +kernel) (by simp) rfl dtX7_save rfl ckX7_save lkX7_save (am_nocalls rfl) ?_
  intro as L σ post h
  obtain ⟨rfl, rfl, h⟩ := h
  refine ⟨by simp [am_lv0], fun WW hw => ?_⟩
  have loop : ∀ d i, d + i = 27 → ∀ σ2, am_fr [16] σ σ2 → (∀ q, q < i → σ2 16 q = σ 5 q) → WW 3 [some (.ref 0), some (.int (nI i))] [] LM σ2 := by
    intro d
    induction d with
    | zero =>
      intro i hi σ2 hf hb
      have c := nI_le' (a := 27) (b := i) (by omega) (by omega)
      refine hw 60 _ _ _ _ _ ?_
      conv => whnf
      refine ⟨fun _ => ?_, fun q => absurd (c.2 (by omega)) q⟩
      conv => whnf
      have hi : i = 27 := by omega
      subst hi
      exact h σ2 hf hb
    | succ d ih =>
      intro i hi σ2 hf hb
      have c := nI_le' (a := 27) (b := i) (by omega) (by omega)
      have vi : vp_in (nI i) 27 := vp_j (by omega) (by decide)
      refine hw 60 _ _ _ _ _ ?_
      conv => whnf
      refine ⟨fun q => absurd (c.1 q) (by omega), fun _ => ?_⟩
      repeat ((conv => whnf); refine And.intro ?_ ?_; first | with_reducible assumption | decide)
      conv => whnf
      rw [nI_1, nI_cl (j := i) (by omega)]
      refine ih (i + 1) (by omega) (am_w σ2 16 i (σ2 5 i)) (aw_fr hf (by decide)) (fun q hq => ?_)
      by_cases e : q = i
      · subst e; rw [aw_s, am_frd hf 5 rfl]
      · rw [aw_k _ _ _ _ _ e]; exact hb q (by omega)
  refine hw 60 _ _ _ _ _ ?_
  conv => whnf
  exact loop 27 0 (by omega) σ (am_fr_rf _ _) (fun q hq => absurd hq (by omega))
def tr_mputBack : am_T := fun as L σ post => as = [.ref 0] ∧ L = LM ∧ ∀ σ', am_fr [5] σ σ' → (∀ q, q < 27 → σ' 5 q = σ 16 q) → post none L σ'
theorem ct_mputBack (l : Launch) : am_Ct l 0 yX7_putBack cX7_putBack 2 none tr_mputBack := by
  refine am_ct tbX7_putBack (am_G []) (by decide +kernel) (by simp) rfl dtX7_putBack rfl ckX7_putBack lkX7_putBack (am_nocalls rfl) ?_
  intro as L σ post h
  obtain ⟨rfl, rfl, h⟩ := h
  refine ⟨by simp [am_lv0], fun WW hw => ?_⟩
  have loop : ∀ d i, d + i = 27 → ∀ σ2, am_fr [5] σ σ2 → (∀ q, q < i → σ2 5 q = σ 16 q) → WW 3 [some (.ref 0), some (.int (nI i))] [] LM σ2 := by
    intro d
    induction d with
    | zero =>
      intro i hi σ2 hf hb
      have c := nI_le' (a := 27) (b := i) (by omega) (by omega)
      refine hw 60 _ _ _ _ _ ?_
      conv => whnf
      refine ⟨fun _ => ?_, fun q => absurd (c.2 (by omega)) q⟩
      conv => whnf
      have hi : i = 27 := by omega
      subst hi
      exact h σ2 hf hb
    | succ d ih =>
      intro i hi σ2 hf hb
      have c := nI_le' (a := 27) (b := i) (by omega) (by omega)
      have vi : vp_in (nI i) 27 := vp_j (by omega) (by decide)
      refine hw 60 _ _ _ _ _ ?_
      conv => whnf
      refine ⟨fun q => absurd (c.1 q) (by omega), fun _ => ?_⟩
      repeat ((conv => whnf); refine And.intro ?_ ?_; first | with_reducible assumption | decide)
      conv => whnf
      rw [nI_1, nI_cl (j := i) (by omega)]
      refine ih (i + 1) (by omega) (am_w σ2 5 i (σ2 16 i)) (aw_fr hf (by decide)) (fun q hq => ?_)
      by_cases e : q = i
      · subst e; rw [aw_s, am_frd hf 16 rfl]
      · rw [aw_k _ _ _ _ _ e]; exact hb q (by omega)
  refine hw 60 _ _ _ _ _ ?_
  conv => whnf
  exact loop 27 0 (by omega) σ (am_fr_rf _ _) (fun q hq => absurd hq (by omega))
