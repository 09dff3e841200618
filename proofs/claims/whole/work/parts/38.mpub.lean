/-! THE REFERENCE: what can be undone, and years -/
theorem sw_cell_FM {σ : am_M} {f : Nat → Int32} {z m : Nat} {F : sw_F} (hm : m ≤ 8) (h : ∀ q, q < 27 → f (z + q) = σ 5 q) (H : sw_FM σ m F) : sw_cell f z m F :=
  ⟨fun b hb => by rw [h _ (by omega)]; exact H.1 b hb, fun b hb => by rw [Nat.add_assoc, h _ (by omega)]; exact H.2.1 b hb, fun b hb => by rw [Nat.add_assoc, h _ (by omega)]; exact H.2.2.1 b hb, by rw [h _ (by decide)]; exact H.2.2.2.1, by rw [h _ (by decide)]; exact H.2.2.2.2.1, by rw [h _ (by decide)]; exact H.2.2.2.2.2⟩
theorem sw_FM_cell {σ : am_M} {f : Nat → Int32} {z m : Nat} {F : sw_F} (hm : m ≤ 8) (h : ∀ q, q < 27 → σ 5 q = f (z + q)) (H : sw_cell f z m F) : sw_FM σ m F :=
  ⟨fun b hb => by rw [h _ (by omega)]; exact H.1 b hb, fun b hb => by rw [h _ (by omega), ← Nat.add_assoc]; exact H.2.1 b hb, fun b hb => by rw [h _ (by omega), ← Nat.add_assoc]; exact H.2.2.1 b hb, by rw [h _ (by decide)]; exact H.2.2.2.1, by rw [h _ (by decide)]; exact H.2.2.2.2.1, by rw [h _ (by decide)]; exact H.2.2.2.2.2⟩
theorem sw_cell_sh {f g : Nat → Int32} {z z' m : Nat} {F : sw_F} (hm : m ≤ 8) (h : ∀ q, q < 27 → g (z' + q) = f (z + q)) (H : sw_cell f z m F) : sw_cell g z' m F :=
  ⟨fun b hb => by rw [h _ (by omega)]; exact H.1 b hb, fun b hb => by rw [Nat.add_assoc, h _ (by omega), ← Nat.add_assoc]; exact H.2.1 b hb, fun b hb => by rw [Nat.add_assoc, h _ (by omega), ← Nat.add_assoc]; exact H.2.2.1 b hb, by rw [h _ (by decide)]; exact H.2.2.2.1, by rw [h _ (by decide)]; exact H.2.2.2.2.1, by rw [h _ (by decide)]; exact H.2.2.2.2.2⟩
theorem nI_27 (u : Nat) : 27 * nI u = nI (27 * u) := pk_mul 27 u
theorem nI_pr (u : Nat) : nI (u + 1) - 1 = nI u := by rw [← nI_1 u]; exact Int32.add_sub_cancel _ _
def tr_mremember : am_T := fun as L σ post => ∃ m F U, as = [.ref 0] ∧ L = LM ∧ m ≤ 8 ∧ sw_FM σ m F ∧ rmU σ m U ∧ ∀ σ', fm [15] [27] σ σ' → rmU σ' m (sw_push U F) → post none L σ'
theorem ct_mremember (l : Launch) : am_Ct l 0 yX7_remember cX7_remember 2 none tr_mremember := by
  refine am_ct tbX7_remember (am_G []) (by decide +kernel) (by simp) rfl dtX7_remember rfl ckX7_remember lkX7_remember (am_nocalls rfl) ?_
  intro as L σ post h
  obtain ⟨m, F, ⟨un, U⟩, rfl, rfl, hm, hF, ⟨u1, u2, u3⟩, h⟩ := h
  refine ⟨by simp [am_lv0], fun WW hw => ?_⟩
  dsimp only at u1 u2 u3
  have two : ∀ u (σ1 : am_M), u < 20 → (∀ σ', fm [15] [27] σ σ' → σ' 0 27 = nI (u + 1) → (∀ q, q < 27 * u → σ' 15 q = σ1 15 q) → (∀ q, q < 27 → σ' 15 (27 * u + q) = σ 5 q) → post none LM σ') → ∀ d i, d + i = 27 → ∀ σ2, fm [15] [27] σ σ2 → σ2 0 27 = nI u → (∀ q, q < 27 * u → σ2 15 q = σ1 15 q) → (∀ q, q < i → σ2 15 (27 * u + q) = σ 5 q) → WW 31 [some (.ref 0), some (.int (nI i))] [] LM σ2 := by
    intro u σ1 hu fin d
    induction d with
    | zero =>
      intro i hi σ2 hf h27 ha hb
      have c := nI_le' (a := 27) (b := i) (by omega) (by omega)
      refine hw 60 _ _ _ _ _ ?_
      conv => whnf
      refine ⟨fun _ => ?_, fun q => absurd (c.2 (by omega)) q⟩
      conv => whnf
      have hi : i = 27 := by omega
      subst hi
      have hf2 : fm [15] [27] σ (am_up σ2 0 (upd (σ2 0) 27 (σ2 0 27 + 1))) := fm_w0 hf (by decide)
      refine fin _ hf2 ?_ (fun q hq => ?_) (fun q hq => ?_)
      · rw [am_us, up_s, h27, nI_1]
      · rw [am_un _ _ _ _ (by decide)]; exact ha q hq
      · rw [am_un _ _ _ _ (by decide)]; exact hb q hq
    | succ d ih =>
      intro i hi σ2 hf h27 ha hb
      have c := nI_le' (a := 27) (b := i) (by omega) (by omega)
      refine hw 60 _ _ _ _ _ ?_
      conv => whnf
      refine ⟨fun q => absurd (c.1 q) (by omega), fun _ => ?_⟩
      conv => whnf
      refine ⟨vp_j (by omega) (by decide), ?_⟩
      conv => whnf
      rw [h27, nI_27, nI_add, nI_cl (j := i) (by omega)]
      refine ⟨vp_j (by omega) (by decide), ?_⟩
      conv => whnf
      rw [nI_1, nI_cl (by omega)]
      refine ih (i + 1) (by omega) (am_w σ2 15 (27 * u + i) (σ2 5 i)) (fm_up _ hf (by decide) (by decide)) ?_ (fun q hq => ?_) (fun q hq => ?_)
      · rw [aw_n _ _ _ _ _ (by decide)]; exact h27
      · rw [aw_k _ _ _ _ _ (by omega)]; exact ha q hq
      · by_cases e : q = i
        · subst e; rw [aw_s, fm_d hf 5 rfl (by decide)]
        · rw [aw_k _ _ _ _ _ (by omega)]; exact hb q (by omega)
  have one : un = 20 → ∀ d i, d + i = 540 → 27 ≤ i → ∀ σ2, am_fr [15] σ σ2 → (∀ q, q + 27 < i → σ2 15 q = σ 15 (q + 27)) → (∀ q, i ≤ q + 27 → σ2 15 q = σ 15 q) → WW 7 [some (.ref 0), some (.int (nI i))] [] LM σ2 := by
    intro hun d
    induction d with
    | zero =>
      intro i hi h27 σ2 hf ha hb
      have c := nI_le' (a := 540) (b := i) (by omega) (by omega)
      refine hw 60 _ _ _ _ _ ?_
      conv => whnf
      refine ⟨fun _ => ?_, fun q => absurd (c.2 (by omega)) q⟩
      conv => whnf
      have hi : i = 540 := by omega
      subst hi
      have e0 : σ2 0 27 = nI 20 := by rw [am_frd hf 0 rfl, u2, hun]
      have hf2 : fm [15] [27] σ (am_up σ2 0 (upd (σ2 0) 27 (σ2 0 27 - 1))) := fm_w0 (fm_fr (fm_rf _ _ _) hf (by decide) rfl) (by decide)
      refine two 19 (am_up σ2 0 (upd (σ2 0) 27 (σ2 0 27 - 1))) (by decide) (fun σ' k1 k2 k3 k4 => h σ' k1 ?_) 27 0 (by omega) _ hf2 ?_ (fun q hq => rfl) (fun q hq => absurd hq (by omega))
      · have hp : sw_push (un, U) F = (20, va_up (fun j => U (j + 1)) 19 F) := if_neg (show ¬ un < 20 by omega)
        rw [hp]
        refine ⟨Nat.le_refl 20, k2, fun j hj => ?_⟩
        show sw_cell (σ' 15) (27 * j) m (va_up (fun j => U (j + 1)) 19 F j)
        have hj : j < 20 := hj
        by_cases e : j = 19
        · subst e; rw [up_vs]; exact sw_cell_FM hm k4 hF
        · rw [up_vn _ _ _ _ e]
          refine sw_cell_sh hm (fun q hq => ?_) (u3 (j + 1) (by omega))
          rw [k3 _ (by omega), am_un _ _ _ _ (by decide), ha _ (by omega)]
          congr 1; omega
      · rw [am_us, up_s, e0]; rfl
    | succ d ih =>
      intro i hi h27 σ2 hf ha hb
      have c := nI_le' (a := 540) (b := i) (by omega) (by omega)
      refine hw 60 _ _ _ _ _ ?_
      conv => whnf
      refine ⟨fun q => absurd (c.1 q) (by omega), fun _ => ?_⟩
      conv => whnf
      refine ⟨vp_j (by omega) (by decide), ?_⟩
      conv => whnf
      have e27 : nI i - 27 = nI (i - 27) := pk_sub (b := 27) h27
      rw [e27, nI_cl (j := i) (by omega)]
      refine ⟨vp_j (by omega) (by decide), ?_⟩
      conv => whnf
      rw [nI_1, nI_cl (by omega)]
      refine ih (i + 1) (by omega) (by omega) (am_w σ2 15 (i - 27) (σ2 15 i)) (aw_fr hf (by decide)) (fun q hq => ?_) (fun q hq => ?_)
      · by_cases e : q = i - 27
        · subst e; rw [aw_s, hb i (by omega)]; congr 1; omega
        · rw [aw_k _ _ _ _ _ e]; exact ha q (by omega)
      · rw [aw_k _ _ _ _ _ (by omega)]; exact hb q (by omega)
  have c20 : nI un = 20 ↔ un = 20 := nI_eq' (b := 20) (by omega) (by decide)
  refine hw 60 _ _ _ _ _ ?_
  conv => whnf
  rw [u2]
  refine ⟨fun c => ?_, fun c => ?_⟩
  · conv => whnf
    have hlt : un < 20 := by
      have : ¬ un = 20 := fun e => c (c20.2 e)
      omega
    refine two un σ hlt (fun σ' k1 k2 k3 k4 => h σ' k1 ?_) 27 0 (by omega) σ (fm_rf _ _ _) u2 (fun q hq => rfl) (fun q hq => absurd hq (by omega))
    have hp : sw_push (un, U) F = (un + 1, va_up U un F) := if_pos hlt
    rw [hp]
    refine ⟨hlt, k2, fun j hj => ?_⟩
    show sw_cell (σ' 15) (27 * j) m (va_up U un F j)
    have hj : j < un + 1 := hj
    by_cases e : j = un
    · subst e; rw [up_vs]; exact sw_cell_FM hm k4 hF
    · rw [up_vn _ _ _ _ e]
      exact sw_cell_sh hm (fun q hq => k3 _ (by omega)) (u3 j (by omega))
  · conv => whnf
    exact one (c20.1 c) 513 27 (by omega) (by omega) σ (am_fr_rf _ _) (fun q hq => absurd hq (by omega)) (fun q hq => rfl)
