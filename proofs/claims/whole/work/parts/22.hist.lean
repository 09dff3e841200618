/-! settle; History; Entries -/
def tr_settle : am_T := fun as L σ post => ∃ (m : Nat) (n f : Nat → Nat), as = [.ref 17, .ref 10] ∧ L = lc_at 10 3 ∧ m ≤ 8 ∧ (∀ b, b < m → σ 13 b = nI (n b)) ∧ (∀ b, b < m → σ 14 b = nI (f b)) ∧ ∀ σ', am_fr [17, 18, 19, 20] σ σ' → sw_FC σ' 17 18 19 20 m (n, fun _ => 0, f, 0, 0, 0) → post none L σ'
theorem ct_settle (l : Launch) : am_Ct l 1 yX1_settle cX1_settle 2 none tr_settle := by
  refine am_ct tbX1_settle (am_G [tr_fill]) (by decide +kernel) (by simp) rfl dtX1_settle rfl ckX1_settle lkX1_settle (am_cokF [(35, some (.invokestatic 38), 0, 2, 0, 0)] rfl (List.forall_mem_cons.mpr ⟨Or.inr (Or.inr (Or.inr ⟨0, _, _, _, _, by decide, (ct_fill l), lnX1_38⟩)), fun _ h => absurd h List.not_mem_nil⟩)) ?_
  intro as L σ post h
  obtain ⟨m, n, f, rfl, rfl, hm, f1, f2, h⟩ := h
  refine ⟨by simp [am_lv0], fun WW hw => hw 60 _ _ _ _ _ ?_⟩
  conv => whnf
  refine ⟨sw_cpd (a := 0) (by decide) (by decide), ?_⟩
  conv => whnf
  refine ⟨sw_cpd (a := 0) (by decide) (by decide), ?_⟩
  conv => whnf
  refine ⟨19, 0, 8, rfl, Or.inr rfl, by decide, ?_⟩
  conv => whnf
  simp only [c_0, c_8, am_us, am_un, am_up_up, Nat.reduceEqDiff, not_false_eq_true]
  refine h _ ?_ ⟨fun j hj => ?_, fun j hj => ?_, fun j hj => ?_, ?_, ?_, ?_⟩
  · repeat (refine am_fr_up _ ?_ (by decide))
    exact am_fr_rf _ _
  all_goals simp only [am_us, am_un, Nat.reduceEqDiff, not_false_eq_true]
  · rw [sw_cp8 _ _ (by omega)]; exact f1 j hj
  · exact if_pos (by omega)
  · rw [sw_cp8 _ _ (by omega)]; exact f2 j hj
  · simp only [upd, Nat.reduceEqDiff, if_false, if_true]
  · simp only [upd, Nat.reduceEqDiff, if_false, if_true]; rfl
  · simp only [upd, Nat.reduceEqDiff, if_false, if_true]; rfl
def tr_hclear : am_T := fun as L σ post => as = [.ref 27] ∧ (L = LC ∨ L = lc_at 10 3) ∧ post none L (am_w σ 27 1 0)
theorem ct_hclear (l : Launch) : am_Ct l 0 yX2_clear cX2_clear 1 none tr_hclear := by
  refine am_ct tbX2_clear (am_G []) (by decide +kernel) (by simp) rfl dtX2_clear rfl ckX2_clear lkX2_clear (am_nocalls rfl) ?_
  intro as L σ post h
  obtain ⟨rfl, hL, h⟩ := h
  refine ⟨by simp [am_lv0], fun WW hw => hw 60 _ _ _ _ _ ?_⟩
  rcases hL with rfl | rfl
  all_goals
    conv => whnf
    exact h
/-- what can be undone: how many, the oldest first -/
abbrev sw_U : Type := Nat × (Nat → sw_F)
def sw_push (U : sw_U) (F : sw_F) : sw_U := if U.1 < 20 then (U.1 + 1, va_up U.2 U.1 F) else (20, va_up (fun j => U.2 (j + 1)) 19 F)
def sw_UC (σ : am_M) (m : Nat) (U : sw_U) : Prop := U.1 ≤ 20 ∧ σ 28 0 = nI 20 ∧ σ 27 1 = nI U.1 ∧ ∃ nx, nx < 20 ∧ σ 27 2 = nI nx ∧ ∀ j, j < U.1 → sw_cell (σ 29) ((nx + 20 - U.1 + j) % 20 * 27) m (U.2 j)
def tr_remember : am_T := fun as L σ post => ∃ m F U, as = [.ref 27, .ref 17] ∧ L = LC ∧ m ≤ 8 ∧ sw_FC σ 17 18 19 20 m F ∧ sw_UC σ m U ∧ ∀ σ', am_fr [27, 29] σ σ' → sw_UC σ' m (sw_push U F) → post none L σ'
theorem ct_remember (l : Launch) : am_Ct l 1 yX2_remember cX2_remember 2 none tr_remember := by
  refine am_ct tbX2_remember (am_G [tr_put]) (by decide +kernel) (by simp) rfl dtX2_remember rfl ckX2_remember lkX2_remember (am_cokF [(9, some (.invokevirtual 27), 0, 3, 4, 0)] rfl (List.forall_mem_cons.mpr ⟨⟨0, _, _, _, _, by decide, (ct_put l), lnX2_27⟩, fun _ h => absurd h List.not_mem_nil⟩)) ?_
  intro as L σ post h
  obtain ⟨m, F, ⟨un, U⟩, rfl, rfl, hm, hF, ⟨hu, e0, e1, nx, hnx, e2, hc⟩, h⟩ := h
  refine ⟨by simp [am_lv0], fun WW hw => hw 60 _ _ _ _ _ ?_⟩
  dsimp only at hu e1 hc
  conv => whnf
  rw [e2]
  refine ⟨28, 29, 20, 540, nx, m, F, rfl, rfl, Or.inl ⟨rfl, rfl, rfl, rfl⟩, hnx, hm, e0, hF, fun σ' hfr hcell hoth => ?_⟩
  have g27 : σ' 27 = σ 27 := hfr 27 (by decide)
  have hrem : nI (nx + 1) - nI (nx + 1) / 20 * 20 = nI ((nx + 1) % 20) := pk_rem (d := 20) (by omega) (by decide) (by decide)
  have hmin : (if (20 : Int32) < nI (un + 1) then (20 : Int32) else nI (un + 1)) = nI (min (un + 1) 20) := nI_min (a := un + 1) (b := 20) (by omega) (by decide)
  conv => whnf
  rw [g27, e2, nI_1, hrem]
  refine ⟨by decide, ?_⟩
  conv => whnf
  simp only [am_us]
  rw [up_n _ _ _ _ (by decide), g27, e1, nI_1, hmin]
  refine h _ ?_ ⟨?_, ?_, ?_, (nx + 1) % 20, Nat.mod_lt _ (by decide), ?_, ?_⟩
  · refine am_fr_up _ (am_fr_up _ ?_ (by decide)) (by decide)
    exact am_fr_tr (am_fr_rf _ _) hfr (by decide)
  · show (sw_push (un, U) F).1 ≤ 20
    unfold sw_push; split
    · show un + 1 ≤ 20; omega
    · exact Nat.le_refl 20
  · rw [am_un _ _ _ _ (by decide), am_un _ _ _ _ (by decide), hfr 28 (by decide)]; exact e0
  · rw [am_us, up_s]
    congr 1
    unfold sw_push; split
    · show min (un + 1) 20 = un + 1; omega
    · show min (un + 1) 20 = 20; omega
  · rw [am_us, up_n _ _ _ _ (by decide), up_s]
  · intro j hj
    rw [am_un _ _ _ _ (by decide), am_un _ _ _ _ (by decide)]
    unfold sw_push at hj ⊢
    by_cases hlt : un < 20
    · rw [if_pos hlt] at hj ⊢
      dsimp only at hj ⊢
      by_cases hju : j = un
      · subst hju
        rw [up_vs, show ((nx + 1) % 20 + 20 - (j + 1) + j) % 20 = nx by omega]
        exact hcell
      · rw [up_vn _ _ _ _ hju, show ((nx + 1) % 20 + 20 - (un + 1) + j) % 20 = (nx + 20 - un + j) % 20 by omega]
        have hne : ¬ (nx + 20 - un + j) % 20 = nx := by omega
        exact sw_cell_eq hm (fun q h1 h2 => hoth q (by omega)) (hc j (by omega))
    · have hu20 : un = 20 := by omega
      subst hu20
      rw [if_neg hlt] at hj ⊢
      dsimp only at hj ⊢
      by_cases hju : j = 19
      · subst hju
        rw [up_vs, show ((nx + 1) % 20 + 20 - 20 + 19) % 20 = nx by omega]
        exact hcell
      · rw [up_vn _ _ _ _ hju, show ((nx + 1) % 20 + 20 - 20 + j) % 20 = (nx + 20 - 20 + (j + 1)) % 20 by omega]
        exact sw_cell_eq hm (fun q h1 h2 => hoth q (by omega)) (hc (j + 1) (by omega))
def tr_bringBack : am_T := fun as L σ post => ∃ m U, as = [.ref 27, .ref 17] ∧ L = LC ∧ m ≤ 8 ∧ sw_UC σ m U ∧ (U.1 = 0 → post (some (.int 0)) L σ) ∧ (0 < U.1 → ∀ σ', am_fr [17, 18, 19, 20, 27] σ σ' → sw_FC σ' 17 18 19 20 m (U.2 (U.1 - 1)) → sw_UC σ' m (U.1 - 1, U.2) → post (some (.int 1)) L σ')
theorem ct_bringBack (l : Launch) : am_Ct l 1 yX2_bringBack cX2_bringBack 2 (some .boolean) tr_bringBack := by
  refine am_ct tbX2_bringBack (am_G [tr_take]) (by decide +kernel) (by simp) rfl dtX2_bringBack rfl ckX2_bringBack lkX2_bringBack (am_cokF [(44, some (.invokevirtual 37), 0, 3, 4, 0)] rfl (List.forall_mem_cons.mpr ⟨⟨0, _, _, _, _, by decide, (ct_take l), lnX2_37⟩, fun _ h => absurd h List.not_mem_nil⟩)) ?_
  intro as L σ post h
  obtain ⟨m, ⟨un, U⟩, rfl, rfl, hm, ⟨hu, e0, e1, nx, hnx, e2, hc⟩, h1, h2⟩ := h
  refine ⟨by simp [am_lv0], fun WW hw => hw 60 _ _ _ _ _ ?_⟩
  dsimp only at hu e1 hc h1 h2
  have hz : nI un = 0 ↔ un = 0 := nI_eq' (b := 0) (by omega) (by decide)
  conv => whnf
  rw [e1, hz]
  refine ⟨fun c => ?_, fun c => ?_⟩
  · have h2' := h2 (by omega)
    have e20 : nI nx + 20 = nI (nx + 20) := nI_add nx 20
    have e19 : nI (nx + 20) - 1 = nI (nx + 19) := pk_sub (b := 1) (by omega)
    have hrem : nI (nx + 19) - nI (nx + 19) / 20 * 20 = nI ((nx + 19) % 20) := pk_rem (d := 20) (by omega) (by decide) (by decide)
    have es : nI un - 1 = nI (un - 1) := pk_sub (b := 1) (by omega)
    conv => whnf
    rw [e2, e20, e19, hrem]
    refine ⟨by decide, ?_⟩
    conv => whnf
    have w1 : upd (σ 27) 2 (nI ((nx + 19) % 20)) 1 - 1 = nI (un - 1) := by rw [up_n _ _ _ _ (by decide), e1, es]
    refine ⟨28, 29, 20, 540, (nx + 19) % 20, m, U (un - 1), ?_, rfl, Or.inl ⟨rfl, rfl, rfl, rfl⟩, by omega, hm, ?_, ?_, fun σ' hfr hF => ?_⟩
    · simp only [am_us, w1]
      rw [up_n _ _ _ _ (by decide), up_s]
    · rw [am_un _ _ _ _ (by decide), am_un _ _ _ _ (by decide)]; exact e0
    · rw [am_un _ _ _ _ (by decide), am_un _ _ _ _ (by decide)]
      have := hc (un - 1) (by omega)
      rw [show (nx + 20 - un + (un - 1)) % 20 = (nx + 19) % 20 by omega] at this
      exact this
    · conv => whnf
      refine ⟨Or.inr rfl, h2' σ' ?_ hF ⟨?_, ?_, ?_, (nx + 19) % 20, by omega, ?_, fun j hj => ?_⟩⟩
      · exact am_fr_tr (am_fr_up _ (am_fr_up _ (am_fr_rf _ _) (by decide)) (by decide)) hfr (by decide)
      · show un - 1 ≤ 20; omega
      · rw [hfr 28 (by decide), am_un _ _ _ _ (by decide), am_un _ _ _ _ (by decide)]; exact e0
      · rw [hfr 27 (by decide), am_us, up_s, am_us, w1]
      · rw [hfr 27 (by decide), am_us, up_n _ _ _ _ (by decide), am_us, up_s]
      · rw [hfr 29 (by decide), am_un _ _ _ _ (by decide), am_un _ _ _ _ (by decide)]
        dsimp only at hj ⊢
        rw [show ((nx + 19) % 20 + 20 - (un - 1) + j) % 20 = (nx + 20 - un + j) % 20 by omega]
        exact hc j (by omega)
  · conv => whnf
    exact ⟨Or.inl rfl, h1 c⟩
/-- lists of pairs: how many, who, what -/
abbrev sw_E : Type := Nat × (Nat → Nat) × (Nat → Nat)
def sw_EC (σ : am_M) (p a b M : Nat) (E : sw_E) : Prop := σ p 0 = nI M ∧ σ p 3 = nI E.1 ∧ E.1 ≤ M ∧ ∀ j, j < E.1 → σ a j = nI (E.2.1 j) ∧ σ b j = nI (E.2.2 j)
def sw_ep (p a b M : Nat) : Prop := (p = 33 ∧ a = 34 ∧ b = 35 ∧ M = 8) ∨ (p = 36 ∧ a = 37 ∧ b = 38 ∧ M = 8) ∨ (p = 39 ∧ a = 40 ∧ b = 41 ∧ M = 15)
def sw_app (E : sw_E) (x v : Nat) : sw_E := (E.1 + 1, va_up E.2.1 E.1 x, va_up E.2.2 E.1 v)
def tr_add : am_T := fun as L σ post => ∃ p a b M E x v, as = [.ref p, .int (nI x), .int (nI v)] ∧ L = LC ∧ sw_ep p a b M ∧ sw_EC σ p a b M E ∧ (E.1 = M → post (some (.int (-1000000004))) L σ) ∧ (E.1 < M → ∀ σ', am_fr [p, a, b] σ σ' → sw_EC σ' p a b M (sw_app E x v) → post (some (.int (nI (E.1 + 1)))) L σ')
theorem ct_add (l : Launch) : am_Ct l 0 yX0_add cX0_add 3 (some .int) tr_add := by
  refine am_ct tbX0_add (am_G []) (by decide +kernel) (by simp) rfl dtX0_add rfl ckX0_add lkX0_add (am_nocalls rfl) ?_
  intro as L σ post h
  obtain ⟨p, a, b, M, ⟨ln, w, u⟩, x, v, rfl, rfl, hp, ⟨e0, e1, hle, e2⟩, h1, h2⟩ := h
  refine ⟨by simp [am_lv0], fun WW hw => hw 60 _ _ _ _ _ ?_⟩
  dsimp only at e1 hle e2 h1 h2
  have hM : M ≤ 15 := by rcases hp with ⟨rfl, rfl, rfl, rfl⟩ | ⟨rfl, rfl, rfl, rfl⟩ | ⟨rfl, rfl, rfl, rfl⟩ <;> omega
  have hlt : nI ln < nI M ↔ ln < M := nI_lt' (by omega) (by omega)
  have hcl : (nI ln).toNatClampNeg = ln := nI_cl (by omega)
  by_cases hc : ln < M
  · have hin : vp_in (nI ln) M := vp_j hc (by omega)
    have h2' := h2 hc
    rcases hp with ⟨rfl, rfl, rfl, rfl⟩ | ⟨rfl, rfl, rfl, rfl⟩ | ⟨rfl, rfl, rfl, rfl⟩
    all_goals
      conv => whnf
      rw [e0, e1]
      refine ⟨fun _ => ?_, fun c => absurd (hlt.mpr hc) c⟩
      conv => whnf
      rw [e1]
      refine ⟨hin, ?_⟩
      conv => whnf
      rw [am_un _ _ _ _ (by decide), e1]
      refine ⟨hin, ?_⟩
      conv => whnf
      simp only [hcl, e1, am_us, am_un, up_s, Nat.reduceEqDiff, not_false_eq_true, nI_1, cond_false]
      refine h2' _ ?_ ⟨?_, ?_, ?_, fun j hj => ?_⟩
      · repeat (refine am_fr_up _ ?_ (by decide))
        exact am_fr_rf _ _
      · simp only [am_us, up_n, Nat.reduceEqDiff, not_false_eq_true]; exact e0
      · simp only [am_us, up_s]; rfl
      · exact hc
      · simp only [am_us, am_un, Nat.reduceEqDiff, not_false_eq_true]
        show upd _ ln _ j = nI (va_up w ln x j) ∧ upd _ ln _ j = nI (va_up u ln v j)
        unfold upd va_up
        split
        · exact ⟨rfl, rfl⟩
        · have hj : j < ln + 1 := hj
          exact e2 j (by omega)
  · have h1' := h1 (by omega)
    rcases hp with ⟨rfl, rfl, rfl, rfl⟩ | ⟨rfl, rfl, rfl, rfl⟩ | ⟨rfl, rfl, rfl, rfl⟩
    all_goals
      conv => whnf
      rw [e0, e1]
      refine ⟨fun c => absurd (hlt.mp c) hc, fun _ => ?_⟩
      conv => whnf
      exact h1'
