/-! THE CLASS: entries; seed, images; spring; counters -/
theorem RC_E {T : sw_T} {cn st mn m : Nat} {c e k : Nat → Nat} {R : Nat} {rn : Nat → Nat} {F : sw_F} {sd : Nat} {U : sw_U} {I : sw_I} {E1 E2 E3 E1' E2' E3' : sw_E} {σ σ' : am_M} (hf : am_fr [33, 34, 35, 36, 37, 38, 39, 40, 41] σ σ') (h : RC (T, (cn, st, mn, m, c, e, k, R, rn), F, sd, U, I, E1, E2, E3) σ) (h1 : sw_EC σ' 33 34 35 8 E1') (h2 : sw_EC σ' 36 37 38 8 E2') (h3 : sw_EC σ' 39 40 41 15 E3') : RC (T, (cn, st, mn, m, c, e, k, R, rn), F, sd, U, I, E1', E2', E3') σ' := by
  obtain ⟨hT, hD, hF, hS, hU, hI, -⟩ := h
  have h0 := am_frd hf 0 rfl
  exact ⟨rcT_fr (am_frd hf 1 rfl) (am_frd hf 2 rfl) hT, rcD_fr (am_frd hf 3 rfl) (am_frd hf 4 rfl) (am_frd hf 5 rfl) (am_frd hf 8 rfl) (am_frd hf 9 rfl) hD, sw_FC_fr (am_frd hf 17 rfl) (am_frd hf 18 rfl) (am_frd hf 19 rfl) (am_frd hf 20 rfl) hF, by rw [h0]; exact hS, sw_UC_fr (am_frd hf 27 rfl) (am_frd hf 28 rfl) (am_frd hf 29 rfl) hU, rcI_fr (by rw [h0]) (am_frd hf 30 rfl) (am_frd hf 31 rfl) (am_frd hf 32 rfl) hI, h1, h2, h3⟩
theorem ct_csee (l : Launch) (A : sw_A) (hA : okA A) (b x : Int32) : am_Ct l 1 yX6_see cX6_see 3 (some .int) (trC [.ref 0, .int b, .int x] A (st_see A b x)) := by
  refine am_ct tbX6_see (am_G [tr_hasBarn, tr_add]) (by decide +kernel) (by simp) rfl dtX6_see rfl ckX6_see lkX6_see (am_cokF [(5, some (.invokevirtual 151), 0, 2, 3, 0), (33, some (.invokevirtual 249), 1, 3, 0, 0)] rfl (List.forall_mem_cons.mpr ⟨⟨0, _, _, _, _, by decide, (ct_hasBarn l), lnX6_151⟩, List.forall_mem_cons.mpr ⟨⟨0, _, _, _, _, by decide, (ct_add l), lnX6_249⟩, fun _ h => absurd h List.not_mem_nil⟩⟩)) ?_
  intro as L σ post h
  obtain ⟨rfl, rfl, hR, h⟩ := h
  refine ⟨by simp [am_lv0], fun WW hw => hw 60 _ _ _ _ _ ?_⟩
  obtain ⟨T, ⟨cn, st, mn, m, c, e, k, R, rn⟩, F, sd, U, I, E1, E2, E3⟩ := A
  obtain ⟨hT, ⟨hL, d6, d7, d8⟩, hF, hS, hU, hI, h1, h2, h3⟩ := id hR
  obtain ⟨-, -, ⟨hcn, hm, -⟩, -, -, -, -, -, ⟨hE, -⟩, -⟩ := hA
  have c1 : x < 0 ↔ x.toInt < 0 := sw_xlt 0 (by decide)
  have c9 : x ≤ 40 ↔ x.toInt ≤ 40 := sw_xle 40 (by decide)
  conv => whnf
  refine ⟨b, m, rfl, rfl, hm, hL.1, ?_⟩
  cases hb : sw_ix b 0 m with
  | none =>
    simp only [st_see, hb] at h
    conv => whnf
    exact ⟨fun c => absurd rfl c, fun _ => h σ hR⟩
  | some j =>
    obtain ⟨-, hj, rfl⟩ := sw_ix_some hb
    simp only [st_see, hb] at h
    conv => whnf
    refine ⟨fun _ => ?_, fun c => absurd c sw_t0⟩
    cases hx : sw_ix x 0 41 with
    | none =>
      have hn := sw_ix_none hx
      simp only [hx] at h
      conv => whnf
      rw [c1]
      refine ⟨fun c => h σ hR, fun c => ?_⟩
      conv => whnf
      rw [c9]
      exact ⟨fun c => by omega, fun c => h σ hR⟩
    | some v =>
      obtain ⟨-, hv, rfl⟩ := sw_ix_some hx
      simp only [hx] at h
      rw [nI_toInt (by omega)] at c1 c9
      conv => whnf
      rw [c1]
      refine ⟨fun c => by omega, fun c => ?_⟩
      conv => whnf
      rw [c9]
      refine ⟨fun c => ?_, fun c => by omega⟩
      conv => whnf
      refine ⟨33, 34, 35, 8, E1, j, v, rfl, rfl, Or.inl ⟨rfl, rfl, rfl, rfl⟩, h1, fun hc => ?_, fun hc σ' hf hE' => ?_⟩
      · rw [if_pos hc] at h
        conv => whnf
        exact h σ hR
      · rw [if_neg (by omega)] at h
        conv => whnf
        exact h σ' (RC_E (am_fr_tr (am_fr_rf _ _) hf (by decide)) hR hE' (sw_EC_fr (am_frd hf 36 rfl) (am_frd hf 37 rfl) (am_frd hf 38 rfl) h2) (sw_EC_fr (am_frd hf 39 rfl) (am_frd hf 40 rfl) (am_frd hf 41 rfl) h3))
theorem ct_cwrite (l : Launch) (A : sw_A) (hA : okA A) (b x : Int32) : am_Ct l 1 yX6_write cX6_write 3 (some .int) (trC [.ref 0, .int b, .int x] A (st_write A b x)) := by
  refine am_ct tbX6_write (am_G [tr_hasCounty, tr_add]) (by decide +kernel) (by simp) rfl dtX6_write rfl ckX6_write lkX6_write (am_cokF [(5, some (.invokevirtual 201), 0, 2, 3, 0), (34, some (.invokevirtual 249), 1, 3, 0, 0)] rfl (List.forall_mem_cons.mpr ⟨⟨0, _, _, _, _, by decide, (ct_hasCounty l), lnX6_201⟩, List.forall_mem_cons.mpr ⟨⟨0, _, _, _, _, by decide, (ct_add l), lnX6_249⟩, fun _ h => absurd h List.not_mem_nil⟩⟩)) ?_
  intro as L σ post h
  obtain ⟨rfl, rfl, hR, h⟩ := h
  refine ⟨by simp [am_lv0], fun WW hw => hw 60 _ _ _ _ _ ?_⟩
  obtain ⟨T, ⟨cn, st, mn, m, c, e, k, R, rn⟩, F, sd, U, I, E1, E2, E3⟩ := A
  obtain ⟨hT, ⟨hL, d6, d7, d8⟩, hF, hS, hU, hI, h1, h2, h3⟩ := id hR
  obtain ⟨-, -, ⟨hcn, hm, -⟩, -⟩ := hA
  have c1 : x < 0 ↔ x.toInt < 0 := sw_xlt 0 (by decide)
  have c9 : x ≤ 320 ↔ x.toInt ≤ 320 := sw_xle 320 (by decide)
  conv => whnf
  refine ⟨b, cn, rfl, rfl, by omega, hL.2.1, ?_⟩
  cases hb : sw_ix b 0 cn with
  | none =>
    simp only [st_write, hb] at h
    conv => whnf
    exact ⟨fun c => absurd rfl c, fun _ => h σ hR⟩
  | some j =>
    obtain ⟨-, hj, rfl⟩ := sw_ix_some hb
    simp only [st_write, hb] at h
    conv => whnf
    refine ⟨fun _ => ?_, fun c => absurd c sw_t0⟩
    cases hx : sw_ix x 0 321 with
    | none =>
      have hn := sw_ix_none hx
      simp only [hx] at h
      conv => whnf
      rw [c1]
      refine ⟨fun c => h σ hR, fun c => ?_⟩
      conv => whnf
      rw [c9]
      exact ⟨fun c => by omega, fun c => h σ hR⟩
    | some v =>
      obtain ⟨-, hv, rfl⟩ := sw_ix_some hx
      simp only [hx] at h
      rw [nI_toInt (by omega)] at c1 c9
      conv => whnf
      rw [c1]
      refine ⟨fun c => by omega, fun c => ?_⟩
      conv => whnf
      rw [c9]
      refine ⟨fun c => ?_, fun c => by omega⟩
      conv => whnf
      refine ⟨39, 40, 41, 15, E3, j, v, rfl, rfl, Or.inr (Or.inr ⟨rfl, rfl, rfl, rfl⟩), h3, fun hc => ?_, fun hc σ' hf hE' => ?_⟩
      · rw [if_pos hc] at h
        conv => whnf
        exact h σ hR
      · rw [if_neg (by omega)] at h
        conv => whnf
        exact h σ' (RC_E (am_fr_tr (am_fr_rf _ _) hf (by decide)) hR (sw_EC_fr (am_frd hf 33 rfl) (am_frd hf 34 rfl) (am_frd hf 35 rfl) h1) (sw_EC_fr (am_frd hf 36 rfl) (am_frd hf 37 rfl) (am_frd hf 38 rfl) h2) hE')
/-- bits beyond the barns -/
theorem sw_out (s : Int32) {m : Nat} (hm : m ≤ 8) : s &&& (nI (2 ^ m - 1) ^^^ -1) = 0 ↔ (sw_ix s 0 (2 ^ m)).isSome = true := by
  have hmask : ∀ m, m ≤ 8 → (nI (2 ^ m - 1) ^^^ -1).toBitVec = ~~~ (BitVec.ofNat 32 (2 ^ m - 1)) := by decide +kernel
  have h1 : s &&& (nI (2 ^ m - 1) ^^^ -1) = 0 ↔ s.toBitVec &&& ~~~ (BitVec.ofNat 32 (2 ^ m - 1)) = 0#32 := by
    rw [← hmask m hm, ← Int32.toBitVec_and, ← Int32.toBitVec_inj]; rfl
  rw [h1]
  have hp : 2 ^ m ≤ 256 := Nat.pow_le_pow_right (n := 2) (by decide) hm
  have h2 : s.toBitVec &&& ~~~ (BitVec.ofNat 32 (2 ^ m - 1)) = 0#32 ↔ s.toBitVec.toNat < 2 ^ m := by
    constructor
    · intro hz
      rcases Nat.lt_or_ge s.toBitVec.toNat (2 ^ m) with q | q
      · exact q
      · obtain ⟨i, hi, hb⟩ := Nat.exists_ge_and_testBit_of_ge_two_pow q
        have h3 : (s.toBitVec &&& ~~~ (BitVec.ofNat 32 (2 ^ m - 1))).getLsbD i = true := by
          have hi32 : i < 32 := by
            rcases Nat.lt_or_ge i 32 with q2 | q2
            · exact q2
            · rw [Nat.testBit_lt_two_pow (Nat.lt_of_lt_of_le s.toBitVec.isLt (Nat.pow_le_pow_right (by decide) q2))] at hb; cases hb
          rw [BitVec.getLsbD_and, BitVec.getLsbD_not, BitVec.getLsbD_ofNat, Nat.testBit_two_pow_sub_one]
          have : ¬ i < m := by omega
          simp only [BitVec.getLsbD, hb, hi32, this, decide_true, decide_false, Bool.and_false, Bool.not_false, Bool.and_self]
        rw [hz] at h3
        simp at h3
    · intro hlt
      refine BitVec.eq_of_getLsbD_eq fun i hi => ?_
      rw [BitVec.getLsbD_and, BitVec.getLsbD_not, BitVec.getLsbD_ofNat, Nat.testBit_two_pow_sub_one]
      rcases Nat.lt_or_ge i m with q | q
      · simp [hi, q]
      · have : s.toBitVec.getLsbD i = false := Nat.testBit_lt_two_pow (Nat.lt_of_lt_of_le hlt (Nat.pow_le_pow_right (by decide) q))
        rw [this]; simp
  rw [h2]
  have hcast : s.toInt = s.toBitVec.toInt := rfl
  have htn : s.toBitVec.toInt = if 2 * s.toBitVec.toNat < 2 ^ 32 then (s.toBitVec.toNat : Int) else (s.toBitVec.toNat : Int) - (2 ^ 32 : Nat) := BitVec.toInt_eq_toNat_cond _
  have hl := s.toBitVec.isLt
  unfold sw_ix
  rw [hcast, htn]
  have hc : ((2 ^ m : Nat) : Int) = (2 ^ m : Nat) := rfl
  generalize 2 ^ m = M at hp hc ⊢
  split
  · by_cases hh : s.toBitVec.toNat < M
    · rw [if_pos (by omega)]; exact ⟨fun _ => rfl, fun _ => hh⟩
    · rw [if_neg (by omega)]; exact ⟨fun q => absurd q hh, fun q => by cases q⟩
  · rw [if_neg (by omega)]
    exact ⟨fun q => by omega, fun q => by cases q⟩
theorem ct_crough (l : Launch) (A : sw_A) (hA : okA A) (b x : Int32) : am_Ct l 1 yX6_rough cX6_rough 3 (some .int) (trC [.ref 0, .int b, .int x] A (st_rough A b x)) := by
  refine am_ct tbX6_rough (am_G [tr_allBarns, tr_add]) (by decide +kernel) (by simp) rfl dtX6_rough rfl ckX6_rough lkX6_rough (am_cokF [(5, some (.invokevirtual 133), 0, 1, 3, 0), (37, some (.invokevirtual 249), 1, 3, 0, 0)] rfl (List.forall_mem_cons.mpr ⟨⟨0, _, _, _, _, by decide, (ct_allBarns l), lnX6_133⟩, List.forall_mem_cons.mpr ⟨⟨0, _, _, _, _, by decide, (ct_add l), lnX6_249⟩, fun _ h => absurd h List.not_mem_nil⟩⟩)) ?_
  intro as L σ post h
  obtain ⟨rfl, rfl, hR, h⟩ := h
  refine ⟨by simp [am_lv0], fun WW hw => hw 60 _ _ _ _ _ ?_⟩
  obtain ⟨T, ⟨cn, st, mn, m, c, e, k, R, rn⟩, F, sd, U, I, E1, E2, E3⟩ := A
  obtain ⟨hT, ⟨hL, d6, d7, d8⟩, hF, hS, hU, hI, h1, h2, h3⟩ := id hR
  obtain ⟨-, -, ⟨hcn, hm, -⟩, -⟩ := hA
  have hp : 2 ^ m ≤ 256 := Nat.pow_le_pow_right (n := 2) (by decide) hm
  have c1 : x < 0 ↔ x.toInt < 0 := sw_xlt 0 (by decide)
  have c9 : x ≤ 320 ↔ x.toInt ≤ 320 := sw_xle 320 (by decide)
  conv => whnf
  refine ⟨m, rfl, rfl, hm, hL.1, ?_⟩
  conv => whnf
  rw [sw_out b hm]
  cases hb : sw_ix b 0 (2 ^ m) with
  | none =>
    simp only [st_rough, hb] at h
    exact ⟨fun c => absurd c (by decide), fun _ => h σ hR⟩
  | some j =>
    obtain ⟨-, hj, rfl⟩ := sw_ix_some hb
    simp only [st_rough, hb] at h
    refine ⟨fun _ => ?_, fun c => absurd rfl c⟩
    cases hx : sw_ix x 0 321 with
    | none =>
      have hn := sw_ix_none hx
      simp only [hx] at h
      conv => whnf
      rw [c1]
      refine ⟨fun c => h σ hR, fun c => ?_⟩
      conv => whnf
      rw [c9]
      exact ⟨fun c => by omega, fun c => h σ hR⟩
    | some v =>
      obtain ⟨-, hv, rfl⟩ := sw_ix_some hx
      simp only [hx] at h
      rw [nI_toInt (by omega)] at c1 c9
      conv => whnf
      rw [c1]
      refine ⟨fun c => by omega, fun c => ?_⟩
      conv => whnf
      rw [c9]
      refine ⟨fun c => ?_, fun c => by omega⟩
      conv => whnf
      refine ⟨36, 37, 38, 8, E2, j, v, rfl, rfl, Or.inr (Or.inl ⟨rfl, rfl, rfl, rfl⟩), h2, fun hc => ?_, fun hc σ' hf hE' => ?_⟩
      · rw [if_pos hc] at h
        conv => whnf
        exact h σ hR
      · rw [if_neg (by omega)] at h
        conv => whnf
        exact h σ' (RC_E (am_fr_tr (am_fr_rf _ _) hf (by decide)) hR (sw_EC_fr (am_frd hf 33 rfl) (am_frd hf 34 rfl) (am_frd hf 35 rfl) h1) hE' (sw_EC_fr (am_frd hf 39 rfl) (am_frd hf 40 rfl) (am_frd hf 41 rfl) h3))
def tr_forget : am_T := fun as L σ post => as = [.ref 0] ∧ (L = LC ∨ L = lc_at 10 3) ∧ post none L (am_w (am_w (am_w σ 33 3 0) 36 3 0) 39 3 0)
theorem ct_forget (l : Launch) : am_Ct l 0 yX6_forgetEntries cX6_forgetEntries 1 none tr_forget := by
  refine am_ct tbX6_forgetEntries (am_G []) (by decide +kernel) (by simp) rfl dtX6_forgetEntries rfl ckX6_forgetEntries lkX6_forgetEntries (am_nocalls rfl) ?_
  intro as L σ post h
  obtain ⟨rfl, hL, h⟩ := h
  refine ⟨by simp [am_lv0], fun WW hw => hw 60 _ _ _ _ _ ?_⟩
  rcases hL with rfl | rfl
  all_goals
    conv => whnf
    exact h
theorem sw_EC_0 {σ : am_M} {p a b M : Nat} {E : sw_E} (h : sw_EC σ p a b M E) {σ' : am_M} (h1 : σ' p 0 = σ p 0) (h2 : σ' p 3 = 0) : sw_EC σ' p a b M (0, E.2) := ⟨by rw [h1]; exact h.1, h2, Nat.zero_le _, fun j hj => absurd hj (Nat.not_lt_zero j)⟩
theorem ct_ctear (l : Launch) (A : sw_A) (hA : okA A) : am_Ct l 1 yX6_tear cX6_tear 2 (some .int) (trC [.ref 0] A (st_tear A)) := by
  refine am_ct tbX6_tear (am_G [tr_forget]) (by decide +kernel) (by simp) rfl dtX6_tear rfl ckX6_tear lkX6_tear (am_cokF [(25, some (.invokevirtual 102), 0, 1, 6, 0)] rfl (List.forall_mem_cons.mpr ⟨⟨0, _, _, _, _, by decide, (ct_forget l), lnX6_102⟩, fun _ h => absurd h List.not_mem_nil⟩)) ?_
  intro as L σ post h
  obtain ⟨rfl, rfl, hR, h⟩ := h
  refine ⟨by simp [am_lv0], fun WW hw => hw 60 _ _ _ _ _ ?_⟩
  obtain ⟨T, ⟨cn, st, mn, m, c, e, k, R, rn⟩, F, sd, U, I, E1, E2, E3⟩ := A
  obtain ⟨hT, ⟨hL, d6, d7, d8⟩, hF, hS, hU, hI, h1, h2, h3⟩ := id hR
  simp only [st_tear] at h
  conv => whnf
  refine ⟨rfl, Or.inl rfl, ?_⟩
  conv => whnf
  rw [h1.2.1, h2.2.1, h3.2.1, nI_add, nI_add]
  refine h _ (RC_E (aw_fr (aw_fr (aw_fr (am_fr_rf _ _) (by decide)) (by decide)) (by decide)) hR (sw_EC_0 h1 ?_ ?_) (sw_EC_0 h2 ?_ ?_) (sw_EC_0 h3 ?_ ?_))
  · rw [aw_n _ _ _ _ _ (by decide), aw_n _ _ _ _ _ (by decide), aw_k _ _ _ _ _ (by decide)]
  · rw [aw_n _ _ _ _ _ (by decide), aw_n _ _ _ _ _ (by decide), aw_s]
  · rw [aw_n _ _ _ _ _ (by decide), aw_k _ _ _ _ _ (by decide), aw_n _ _ _ _ _ (by decide)]
  · rw [aw_n _ _ _ _ _ (by decide), aw_s]
  · rw [aw_k _ _ _ _ _ (by decide), aw_n _ _ _ _ _ (by decide), aw_n _ _ _ _ _ (by decide)]
  · rw [aw_s]
