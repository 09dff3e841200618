/-! THE CLASS: calls that are short -/
def tr_append : am_T := fun as L σ post => ∃ tl x, as = [.ref 1, .int x] ∧ L = LC ∧ tl ≤ 240 ∧ σ 1 1 = nI tl ∧ (tl = 240 → post (some (.int 0)) L σ) ∧ (tl < 240 → post (some (.int 1)) L (am_w (am_w σ 2 tl x) 1 1 (nI (tl + 1))))
theorem ct_append (l : Launch) : am_Ct l 0 yX5_append cX5_append 2 (some .boolean) tr_append := by
  refine am_ct tbX5_append (am_G []) (by decide +kernel) (by simp) rfl dtX5_append rfl ckX5_append lkX5_append (am_nocalls rfl) ?_
  intro as L σ post h
  obtain ⟨tl, x, rfl, rfl, ht, e1, h1, h2⟩ := h
  refine ⟨by simp [am_lv0], fun WW hw => hw 60 _ _ _ _ _ ?_⟩
  conv => whnf
  have c240 : nI tl < 240 ↔ tl < 240 := nI_lt' (b := 240) (by omega) (by decide)
  rw [e1, c240]
  refine ⟨fun c => ?_, fun c => ?_⟩
  · conv => whnf
    rw [e1]
    refine ⟨vp_j c (by decide), ?_⟩
    conv => whnf
    rw [am_un _ _ _ _ (by decide), e1, nI_1, nI_cl (by omega)]
    have h2' := h2 c
    simp only [am_w] at h2'
    rw [am_un _ _ _ _ (by decide)] at h2'
    exact ⟨Or.inr rfl, h2'⟩
  · conv => whnf
    exact ⟨Or.inl rfl, h1 (by omega)⟩
theorem ct_cfeed (l : Launch) (A : sw_A) (hA : okA A) (x : Int32) : am_Ct l 1 yX6_feed cX6_feed 2 (some .int) (trC [.ref 0, .int x] A (st_feed A x)) := by
  refine am_ct tbX6_feed (am_G [tr_append]) (by decide +kernel) (by simp) rfl dtX6_feed rfl ckX6_feed lkX6_feed (am_cokF [(19, some (.invokevirtual 76), 0, 2, 5, 0)] rfl (List.forall_mem_cons.mpr ⟨⟨0, _, _, _, _, by decide, (ct_append l), lnX6_76⟩, fun _ h => absurd h List.not_mem_nil⟩)) ?_
  intro as L σ post h
  obtain ⟨rfl, rfl, hR, h⟩ := h
  refine ⟨by simp [am_lv0], fun WW hw => hw 60 _ _ _ _ _ ?_⟩
  obtain ⟨⟨tl, tx, fp⟩, ⟨cn, st, mn, m, c, e, k, R, rn⟩, F, sd, U, I, E1, E2, E3⟩ := A
  obtain ⟨⟨t1, t2, t3⟩, hD, hF, hS, hU, hI, h1, h2, h3⟩ := id hR
  dsimp only at t1 t2 t3
  have ht : tl ≤ 240 := hA.1
  have c0 : x < 0 ↔ x.toInt < 0 := sw_xlt 0 (by decide)
  have c255 : x ≤ 255 ↔ x.toInt ≤ 255 := sw_xle 255 (by decide)
  cases hx : sw_ix x 0 256 with
  | none =>
    have hn := sw_ix_none hx
    simp only [st_feed, hx] at h
    conv => whnf
    rw [c0]
    refine ⟨fun c => h σ hR, fun c => ?_⟩
    conv => whnf
    rw [c255]
    exact ⟨fun c => by omega, fun c => h σ hR⟩
  | some j =>
    obtain ⟨-, hj, rfl⟩ := sw_ix_some hx
    rw [nI_toInt (by omega)] at c0 c255
    simp only [st_feed, hx] at h
    conv => whnf
    rw [c0]
    refine ⟨fun c => by omega, fun c => ?_⟩
    conv => whnf
    rw [c255]
    refine ⟨fun c => ?_, fun c => by omega⟩
    conv => whnf
    refine ⟨tl, nI j, rfl, rfl, ht, t1, fun ht2 => ?_, fun ht2 => ?_⟩
    · conv => whnf
      rw [if_pos ht2] at h
      exact ⟨fun _ => h σ hR, fun c => absurd rfl c⟩
    · rw [if_neg (by omega)] at h
      conv => whnf
      refine ⟨fun c => absurd c (by decide), fun _ => ?_⟩
      conv => whnf
      rw [aw_s]
      refine h _ ⟨⟨aw_s _ _ _ _, fun i hi => ?_, ?_⟩, ?_⟩
      · rw [aw_n _ _ _ _ _ (by decide)]
        show am_w σ 2 tl (nI j) 2 i = nI (va_up tx tl j i)
        by_cases hi2 : i = tl
        · subst hi2; rw [aw_s, up_vs]
        · rw [aw_k _ _ _ _ _ hi2, up_vn _ _ _ _ hi2]
          have hi : i < tl + 1 := hi
          exact t2 i (by omega)
      · rw [aw_k _ _ _ _ _ (by decide), aw_n _ _ _ _ _ (by decide)]; exact t3
      · have hf : am_fr [1, 2] σ (am_w (am_w σ 2 tl (nI j)) 1 1 (nI (tl + 1))) := aw_fr (aw_fr (am_fr_rf _ _) (by decide)) (by decide)
        have h0 := am_frd hf 0 rfl
        exact ⟨rcD_fr (am_frd hf 3 rfl) (am_frd hf 4 rfl) (am_frd hf 5 rfl) (am_frd hf 8 rfl) (am_frd hf 9 rfl) hD, sw_FC_fr (am_frd hf 17 rfl) (am_frd hf 18 rfl) (am_frd hf 19 rfl) (am_frd hf 20 rfl) hF, by rw [h0]; exact hS, sw_UC_fr (am_frd hf 27 rfl) (am_frd hf 28 rfl) (am_frd hf 29 rfl) hU, rcI_fr (by rw [h0]) (am_frd hf 30 rfl) (am_frd hf 31 rfl) (am_frd hf 32 rfl) hI, sw_EC_fr (am_frd hf 33 rfl) (am_frd hf 34 rfl) (am_frd hf 35 rfl) h1, sw_EC_fr (am_frd hf 36 rfl) (am_frd hf 37 rfl) (am_frd hf 38 rfl) h2, sw_EC_fr (am_frd hf 39 rfl) (am_frd hf 40 rfl) (am_frd hf 41 rfl) h3⟩
theorem ct_cfault (l : Launch) (A : sw_A) : am_Ct l 0 yX6_fault cX6_fault 1 (some .int) (trC [.ref 0] A (st_fault A)) := by
  refine am_ct tbX6_fault (am_G []) (by decide +kernel) (by simp) rfl dtX6_fault rfl ckX6_fault lkX6_fault (am_nocalls rfl) ?_
  intro as L σ post h
  obtain ⟨rfl, rfl, hR, h⟩ := h
  refine ⟨by simp [am_lv0], fun WW hw => hw 60 _ _ _ _ _ ?_⟩
  obtain ⟨⟨tl, tx, fp⟩, ⟨cn, st, mn, m, c, e, k, R, rn⟩, F, sd, U, I, E1, E2, E3⟩ := A
  have h1 := h σ hR
  obtain ⟨⟨t1, t2, t3⟩, -⟩ := hR
  conv => whnf
  rw [t3]
  exact h1
theorem sw_sm_all {f : Nat → Nat} {m : Nat} : ∀ n, n ≤ m → sw_sm f (2 ^ m - 1).testBit n = sw_sum f n
  | 0, _ => rfl
  | n + 1, h => by
    rw [sw_sm, sw_sm_all n (by omega), Nat.testBit_two_pow_sub_one]
    have : decide (n < m) = true := by simp; omega
    rw [this, if_pos rfl]; rfl
set_option maxHeartbeats 2000000 in
theorem ct_ctold (l : Launch) (A : sw_A) (hA : okA A) (x : Int32) : am_Ct l 1 yX6_told cX6_told 2 (some .int) (trC [.ref 0, .int x] A (st_told A x)) := by
  refine am_ct tbX6_told (am_G [tr_rainOf, tr_allBarns, tr_sumOver]) (by decide +kernel) (by simp) rfl dtX6_told rfl ckX6_told lkX6_told (am_cokF [(135, some (.invokevirtual 123), 0, 2, 3, 0), (158, some (.invokevirtual 133), 1, 1, 3, 0), (161, some (.invokestatic 137), 2, 2, 0, 0), (184, some (.invokevirtual 133), 1, 1, 3, 0), (187, some (.invokestatic 137), 2, 2, 0, 0)] rfl (List.forall_mem_cons.mpr ⟨⟨0, _, _, _, _, by decide, (ct_rainOf l), lnX6_123⟩, List.forall_mem_cons.mpr ⟨⟨0, _, _, _, _, by decide, (ct_allBarns l), lnX6_133⟩, List.forall_mem_cons.mpr ⟨Or.inr (Or.inr (Or.inr ⟨0, _, _, _, _, by decide, (ct_sumOver l), lnX6_137⟩)), List.forall_mem_cons.mpr ⟨⟨0, _, _, _, _, by decide, (ct_allBarns l), lnX6_133⟩, List.forall_mem_cons.mpr ⟨Or.inr (Or.inr (Or.inr ⟨0, _, _, _, _, by decide, (ct_sumOver l), lnX6_137⟩)), fun _ h => absurd h List.not_mem_nil⟩⟩⟩⟩⟩)) ?_
  intro as L σ post h
  obtain ⟨rfl, rfl, hR, h⟩ := h
  refine ⟨by simp [am_lv0], fun WW hw => hw 60 _ _ _ _ _ ?_⟩
  obtain ⟨⟨tl, tx, fp⟩, ⟨cn, st, mn, m, c, e, k, R, rn⟩, ⟨n, g, f, s, lo, y⟩, sd, ⟨un, U⟩, I, ⟨n1, w1, v1⟩, ⟨n2, w2, v2⟩, ⟨n3, w3, v3⟩⟩ := A
  obtain ⟨⟨t1, t2, t3⟩, ⟨⟨d1, d2, d3, d4, d5⟩, d6, d7, d8⟩, ⟨f1, f2, f3, f4, f5, f6⟩, hS, ⟨u1, u2, u3, -⟩, hI, ⟨-, a1, -⟩, ⟨-, a2, -⟩, ⟨-, a3, -⟩⟩ := id hR
  obtain ⟨-, -, ⟨hcn, hm, -, -, -, -, -, hR0, hR8, -⟩, ⟨hFk, hy⟩, -⟩ := hA
  dsimp only at t1 t2 t3 f1 f2 f3 f4 f5 f6 u1 u2 u3 a1 a2 a3 hFk hy
  have hp2 : 0 < 2 ^ m := Nat.pow_pos (by decide)
  cases hx : sw_ix x 0 15 with
  | none =>
    have hn := sw_ix_none hx
    simp only [st_told, hx] at h
    conv => whnf
    refine ⟨fun _ => h σ hR, ?_⟩
    repeat (refine And.intro (fun q => ?_) ?_; · omega)
    trivial
  | some w =>
    obtain ⟨-, hw15, rfl⟩ := sw_ix_some hx
    simp only [st_told, hx] at h
    have h := h σ hR
    conv => whnf
    rw [nI_toInt (by omega)]
    refine ⟨fun q => by omega, fun q => ?_, fun q => ?_, fun q => ?_, fun q => ?_, fun q => ?_, fun q => ?_, fun q => ?_, fun q => ?_, fun q => ?_, fun q => ?_, fun q => ?_, fun q => ?_, fun q => ?_, fun q => ?_, fun q => ?_, trivial⟩
    all_goals
      have hwq : w = _ := Int.ofNat.inj q
      subst hwq
      conv => whnf
    · rw [d2]; exact h
    · rw [d6]; exact h
    · rw [d7]; exact h
    · rw [d1]; exact h
    · rw [t1]; exact h
    · rw [f6]; exact h
    · rw [f6]
      refine ⟨y, R, rn, rfl, rfl, by omega, hR0, hR8, d8, ?_⟩
      conv => whnf
      exact h
    · rw [f4]; exact h
    · refine ⟨m, rfl, rfl, hm, d1, ?_⟩
      conv => whnf
      refine ⟨18, 2 ^ m - 1, m, n, rfl, rfl, by decide, hm, by omega, f1, ?_⟩
      conv => whnf
      rw [sw_sm_all m (Nat.le_refl m)]
      exact h
    · rw [f5]; exact h
    · refine ⟨m, rfl, rfl, hm, d1, ?_⟩
      conv => whnf
      refine ⟨19, 2 ^ m - 1, m, g, rfl, rfl, by decide, hm, by omega, f2, ?_⟩
      conv => whnf
      rw [sw_sm_all m (Nat.le_refl m)]
      exact h
    · rw [a1]; exact h
    · rw [a2]; exact h
    · rw [a3]; exact h
    · rw [u3]; exact h
