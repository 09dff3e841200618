/-! THE REFERENCE: moving, draws -/
theorem sw_FM_eq {σ σ' : am_M} {m : Nat} {F : sw_F} (hm : m ≤ 8) (h : ∀ q, q < 27 → σ' 5 q = σ 5 q) (H : sw_FM σ m F) : sw_FM σ' m F := by
  obtain ⟨g1, g2, g3, g4, g5, g6⟩ := H
  exact ⟨fun j hj => by rw [h _ (by omega)]; exact g1 j hj, fun j hj => by rw [h _ (by omega)]; exact g2 j hj, fun j hj => by rw [h _ (by omega)]; exact g3 j hj, by rw [h _ (by omega)]; exact g4, by rw [h _ (by omega)]; exact g5, by rw [h _ (by omega)]; exact g6⟩
theorem RM_junk {A : sw_A} {σ σ' : am_M} (hm : A.2.1.2.2.2.1 ≤ 8) (hf : fm [5, 14, 16, 17, 18] [31, 39, 40] σ σ') (h5 : ∀ q, q < 27 → σ' 5 q = σ 5 q) (h : RM A σ) : RM A σ' := by
  obtain ⟨T, ⟨cn, st, mn, m, c, e, k, R, rn⟩, F, sd, U, I, E1, E2, E3⟩ := A
  obtain ⟨hT, hD, hF, hS, hU, hI, h1, h2, h3⟩ := id h
  exact RM_flock (fm_tr (fm_rf _ _ _) hf (by decide) (by decide)) h (sw_FM_eq hm h5 hF) (rmU_fr (fm_k hf 27 rfl) (fm_d hf 15 rfl (by decide)) hU)
theorem sw_bits_s : ∀ S, S < 256 → ∀ k, k < 8 → nI (sw_sm (fun _ => 1) S.testBit k) + (nI S >>> (nI k &&& 31) &&& 1) = nI (sw_sm (fun _ => 1) S.testBit (k + 1)) := by decide +kernel
def tr_mbits : am_T := fun as L σ post => ∃ S, as = [.int (nI S)] ∧ S < 256 ∧ post (some (.int (nI (sw_pc S)))) L σ
theorem ct_mbits (l : Launch) : am_Ct l 0 yX7_bits cX7_bits 3 (some .int) tr_mbits := by
  refine am_ct tbX7_bits (am_G []) (by decide +kernel) (by simp) rfl dtX7_bits rfl ckX7_bits lkX7_bits (am_nocalls rfl) ?_
  intro as L σ post h
  obtain ⟨S, rfl, hS, h⟩ := h
  refine ⟨by simp [am_lv0], fun WW hw => ?_⟩
  have loop : ∀ d i, d + i = 8 → WW 5 [some (.int (nI S)), some (.int (nI (sw_sm (fun _ => 1) S.testBit i))), some (.int (nI i))] [] L σ := by
    intro d
    induction d with
    | zero =>
      intro i hi
      have c := nI_le' (a := 8) (b := i) (by omega) (by omega)
      refine hw 60 _ _ _ _ _ ?_
      conv => whnf
      refine ⟨fun _ => ?_, fun q => absurd (c.2 (by omega)) q⟩
      have hi : i = 8 := by omega
      subst hi
      conv => whnf
      exact h
    | succ d ih =>
      intro i hi
      have c := nI_le' (a := 8) (b := i) (by omega) (by omega)
      refine hw 60 _ _ _ _ _ ?_
      conv => whnf
      refine ⟨fun q => absurd (c.1 q) (by omega), fun _ => ?_⟩
      conv => whnf
      rw [nI_1, sw_bits_s S hS i (by omega)]
      exact ih (i + 1) (by omega)
  refine hw 60 _ _ _ _ _ ?_
  conv => whnf
  exact loop 8 0 (by omega)
def tr_mcanMove : am_T := fun as L σ post => ∃ i j x n n2 e, as = [.ref 0, .int (nI i), .int (nI j), .int (nI x)] ∧ L = LM ∧ i < 8 ∧ j < 8 ∧ x < 1000 ∧ n < 1000 ∧ n2 < 1000 ∧ e < 1000 ∧ σ 5 i = nI n ∧ σ 5 j = nI n2 ∧ σ 2 j = nI e ∧ (x ≤ n ∧ n2 + x ≤ e → post (some (.int 1)) L σ) ∧ (¬ (x ≤ n ∧ n2 + x ≤ e) → post (some (.int 0)) L σ)
theorem ct_mcanMove (l : Launch) : am_Ct l 0 yX7_canMove cX7_canMove 4 (some .boolean) tr_mcanMove := by
  refine am_ct tbX7_canMove (am_G []) (by decide +kernel) (by simp) rfl dtX7_canMove rfl ckX7_canMove lkX7_canMove (am_nocalls rfl) ?_
  intro as L σ post h
  obtain ⟨i, j, x, n, n2, e, rfl, rfl, hi, hj, hx, hn, hn2, he, e1, e2, e3, h1, h2⟩ := h
  refine ⟨by simp [am_lv0], fun WW hw => hw 60 _ _ _ _ _ ?_⟩
  have v1 : vp_in (nI i) 27 := vp_j (by omega) (by decide)
  have v2 : vp_in (nI j) 27 := vp_j (by omega) (by decide)
  have v3 : vp_in (nI j) 8 := vp_j (by omega) (by decide)
  have c1 : (nI i).toNatClampNeg = i := nI_cl (by omega)
  have c2 : (nI j).toNatClampNeg = j := nI_cl (by omega)
  repeat ((conv => whnf); refine And.intro ?_ ?_; first | with_reducible assumption | decide)
  conv => whnf
  rw [c1, e1, nI_lt' (by omega) (by omega)]
  refine ⟨fun c => ?_, fun c => ?_⟩
  · conv => whnf
    exact ⟨Or.inl rfl, h2 (by omega)⟩
  · repeat ((conv => whnf); refine And.intro ?_ ?_; first | with_reducible assumption | decide)
    conv => whnf
    rw [c2, e2, e3, nI_add, nI_lt' (by omega) (by omega)]
    refine ⟨fun c => ?_, fun c => ?_⟩
    · conv => whnf
      exact ⟨Or.inl rfl, h2 (by omega)⟩
    · conv => whnf
      exact ⟨Or.inr rfl, h1 (by omega)⟩
def tr_mmoveNow : am_T := fun as L σ post => ∃ m F i j x, as = [.ref 0, .int (nI i), .int (nI j), .int (nI x)] ∧ L = LM ∧ m ≤ 8 ∧ i < m ∧ j < m ∧ ¬ i = j ∧ sw_FM σ m F ∧ x ≤ F.1 i ∧ F.1 i ≤ 40 ∧ F.1 j ≤ 40 ∧ F.2.1 i ≤ 40 ∧ ∀ σ', am_fr [5] σ σ' → sw_FM σ' m (sw_mv F i j x) → post none L σ'
theorem ct_mmoveNow (l : Launch) : am_Ct l 1 yX7_moveNow cX7_moveNow 4 none tr_mmoveNow := by
  refine am_ct tbX7_moveNow (am_G [tr_matMost]) (by decide +kernel) (by simp) rfl dtX7_moveNow rfl ckX7_moveNow lkX7_moveNow (am_cokF [(43, some (.invokestatic 196), 0, 2, 0, 0)] rfl (List.forall_mem_cons.mpr ⟨Or.inr (Or.inr (Or.inr ⟨0, _, _, _, _, by decide, (ct_matMost l), lnX7_196⟩)), fun _ h => absurd h List.not_mem_nil⟩)) ?_
  intro as L σ post h
  obtain ⟨m, ⟨n, g, f, s, lo, y⟩, i, j, x, rfl, rfl, hm, hi, hj, hij, ⟨f1, f2, f3, f4, f5, f6⟩, hx, hn1, hn2, hg, h⟩ := h
  refine ⟨by simp [am_lv0], fun WW hw => hw 60 _ _ _ _ _ ?_⟩
  dsimp only at f1 f2 f3 f4 f5 f6 hx hn1 hn2 hg
  have v1 : vp_in (nI i) 27 := vp_j (by omega) (by decide)
  have v2 : vp_in (nI j) 27 := vp_j (by omega) (by decide)
  have v8 : vp_in (8 + nI i) 27 := by rw [nI_8]; exact vp_j (by omega) (by decide)
  have c1 : (nI i).toNatClampNeg = i := nI_cl (by omega)
  have c2 : (nI j).toNatClampNeg = j := nI_cl (by omega)
  have c8 : (8 + nI i).toNatClampNeg = 8 + i := by rw [nI_8]; exact nI_cl (by omega)
  have e1 := f1 i hi
  have e2 := f1 j hj
  have e3 := f2 i hi
  have hji : ¬ j = i := fun q => hij q.symm
  have h8i : ¬ 8 + i = i := by omega
  have h8j : ¬ 8 + i = j := by omega
  have hs : nI (n i) - nI x = nI (n i - x) := pk_sub hx
  repeat ((conv => whnf); refine And.intro ?_ ?_; first | with_reducible assumption | decide)
  conv => whnf
  refine ⟨g i, n i - x, ?_, by omega, by omega, ?_⟩
  · simp only [c1, c2, c8, e1, e2, e3, hs, am_us, am_un, am_up_up, up_s, up_n _ _ _ _ hji, up_n _ _ _ _ hij, up_n _ _ _ _ h8i, up_n _ _ _ _ h8j, Nat.reduceEqDiff, not_false_eq_true, nI_add, cond_false]
  · repeat ((conv => whnf); refine And.intro ?_ ?_; first | with_reducible assumption | decide)
    conv => whnf
    simp only [c1, c2, c8, e1, e2, e3, hs, am_us, am_un, am_up_up, up_s, up_n _ _ _ _ hji, up_n _ _ _ _ hij, up_n _ _ _ _ h8i, up_n _ _ _ _ h8j, Nat.reduceEqDiff, not_false_eq_true, nI_add, cond_false]
    refine h _ (am_fr_up _ (am_fr_rf _ _) (by decide)) ⟨fun q hq => ?_, fun q hq => ?_, fun q hq => ?_, ?_, ?_, ?_⟩
    all_goals simp only [am_us]
    · show _ = nI (va_up (va_up n i (n i - x)) j (n j + x) q)
      rw [up_n _ _ _ _ (by omega)]
      unfold upd va_up
      split
      · rfl
      · split
        · rfl
        · exact f1 q hq
    · show _ = nI (va_up g i (min (g i) (n i - x)) q)
      by_cases e : q = i
      · subst e; rw [up_s, up_vs]
      · rw [up_n _ _ _ _ (by omega), up_n _ _ _ _ (by omega), up_n _ _ _ _ (by omega), up_vn _ _ _ _ e]; exact f2 q hq
    · rw [up_n _ _ _ _ (by omega), up_n _ _ _ _ (by omega), up_n _ _ _ _ (by omega)]; exact f3 q hq
    · rw [up_n _ _ _ _ (by omega), up_n _ _ _ _ (by omega), up_n _ _ _ _ (by omega)]; exact f4
    · rw [up_n _ _ _ _ (by omega), up_n _ _ _ _ (by omega), up_n _ _ _ _ (by omega)]; exact f5
    · rw [up_n _ _ _ _ (by omega), up_n _ _ _ _ (by omega), up_n _ _ _ _ (by omega)]; exact f6
set_option maxHeartbeats 2000000 in
theorem ct_mmove (l : Launch) (A : sw_A) (hA : okA A) (a b x : Int32) : am_Ct l 2 yX7_move cX7_move 4 (some .int) (trM [.ref 0, .int a, .int b, .int x] A (st_move A a b x)) := by
  refine am_ct tbX7_move (am_G [tr_misBarn, tr_min, tr_mcanMove, tr_mremember, tr_mmoveNow]) (by decide +kernel) (by simp) rfl dtX7_move rfl ckX7_move lkX7_move (am_cokF [(2, some (.invokevirtual 184), 0, 2, 7, 0), (10, some (.invokevirtual 184), 0, 2, 7, 0), (30, some (.invokestatic 99), 1, 3, 0, 0), (43, some (.invokevirtual 227), 2, 4, 7, 0), (53, some (.invokevirtual 219), 3, 1, 7, 0), (60, some (.invokevirtual 231), 4, 4, 7, 0)] rfl (List.forall_mem_cons.mpr ⟨⟨1, _, _, _, _, by decide, (ct_misBarn l), lnX7_184⟩, List.forall_mem_cons.mpr ⟨⟨1, _, _, _, _, by decide, (ct_misBarn l), lnX7_184⟩, List.forall_mem_cons.mpr ⟨Or.inr (Or.inr (Or.inr ⟨0, _, _, _, _, by decide, (ct_min l), lnX7_99⟩)), List.forall_mem_cons.mpr ⟨⟨0, _, _, _, _, by decide, (ct_mcanMove l), lnX7_227⟩, List.forall_mem_cons.mpr ⟨⟨0, _, _, _, _, by decide, (ct_mremember l), lnX7_219⟩, List.forall_mem_cons.mpr ⟨⟨1, _, _, _, _, by decide, (ct_mmoveNow l), lnX7_231⟩, fun _ h => absurd h List.not_mem_nil⟩⟩⟩⟩⟩⟩)) ?_
  intro as L σ post h
  obtain ⟨rfl, rfl, hR, h⟩ := h
  refine ⟨by simp [am_lv0], fun WW hw => hw 60 _ _ _ _ _ ?_⟩
  obtain ⟨T, ⟨cn, st, mn, m, c, e, k, R, rn⟩, F, sd, U, I, E1, E2, E3⟩ := A
  obtain ⟨hT, ⟨hL, d6, d7, d8, d9⟩, hF, hS, hU, hI, h1, h2, h3⟩ := id hR
  obtain ⟨-, -, ⟨hcn, hm, -, -, -, -, hB, -⟩, ⟨hFk, hy⟩, -⟩ := hA
  conv => whnf
  refine ⟨m, a, rfl, rfl, by omega, hL.1, ?_⟩
  cases ha : sw_ix a 0 m with
  | none =>
    simp only [st_move, ha] at h
    conv => whnf
    exact ⟨fun _ => h σ hR, fun c => absurd rfl c⟩
  | some i =>
    obtain ⟨-, hi, rfl⟩ := sw_ix_some ha
    conv => whnf
    refine ⟨fun c => absurd c sw_t0, fun _ => ?_⟩
    conv => whnf
    refine ⟨m, b, rfl, rfl, by omega, hL.1, ?_⟩
    cases hb : sw_ix b 0 m with
    | none =>
      simp only [st_move, ha, hb] at h
      conv => whnf
      exact ⟨fun _ => h σ hR, fun c => absurd rfl c⟩
    | some j =>
      obtain ⟨-, hj, rfl⟩ := sw_ix_some hb
      simp only [st_move, ha, hb] at h
      have hij : nI i = nI j ↔ i = j := nI_eq' (by omega) (by omega)
      have v2 : vp_in (nI j) 27 := vp_j (by omega) (by decide)
      have k2 : (nI j).toNatClampNeg = j := nI_cl (by omega)
      obtain ⟨q1, q2, q3⟩ := hFk i hi
      obtain ⟨p1, p2, p3⟩ := hFk j hj
      have ei := (hB i hi).2.1
      have ej := (hB j hj).2.1
      conv => whnf
      refine ⟨fun c => absurd c sw_t0, fun _ => ?_⟩
      conv => whnf
      rw [hij]
      refine ⟨fun cij => ?_, fun cij => ?_⟩
      · rw [if_neg cij] at h
        conv => whnf
        refine ⟨_, _, _, x.toInt, ((1 : Nat) : Int), 40, rfl, Int32.toInt_toInt64 x, rfl, rfl, ?_⟩
        rw [sw_isIx x 1 41 (hi := 40) rfl]
        cases hx : sw_ix x 1 41 with
        | none =>
          simp only [hx] at h
          conv => whnf
          exact ⟨fun c => absurd rfl c, fun _ => h σ hR⟩
        | some n =>
          obtain ⟨hn1, hn2, rfl⟩ := sw_ix_some hx
          simp only [hx] at h
          conv => whnf
          refine ⟨fun _ => ?_, fun c => absurd c sw_t0⟩
          conv => whnf
          refine ⟨i, j, n, F.1 i, F.1 j, e j, rfl, rfl, by omega, by omega, by omega, by omega, by omega, by omega, hF.1 i hi, hF.1 j hj, hL.2.2.2.1 j hj, fun hc => ?_, fun hc => ?_⟩
          · rw [if_pos hc] at h
            conv => whnf
            refine ⟨fun _ => ?_, fun c => absurd c (by decide)⟩
            conv => whnf
            refine ⟨m, F, U, rfl, rfl, hm, hF, hU, fun σ1 hf hU1 => ?_⟩
            have hF1 := sw_FM_fr (fm_d hf 5 rfl (by decide)) hF
            conv => whnf
            refine ⟨m, F, i, j, n, rfl, rfl, hm, hi, hj, cij, hF1, hc.1, by omega, by omega, by omega, fun σ2 hf2 hF2 => ?_⟩
            repeat ((conv => whnf); refine And.intro ?_ ?_; first | with_reducible assumption | decide)
            conv => whnf
            rw [k2, hF2.1 j hj, show (sw_mv F i j n).1 j = F.1 j + n from up_vs _ _ _]
            exact h σ2 (RM_flock (fm_fr (fm_tr (fm_rf _ _ _) hf (by decide) (by decide)) hf2 (by decide) rfl) hR hF2 (rmU_fr (by rw [am_frd hf2 0 rfl]) (am_frd hf2 15 rfl) hU1))
          · rw [if_neg hc] at h
            conv => whnf
            exact ⟨fun c => absurd rfl c, fun _ => h σ hR⟩
      · rw [if_pos cij] at h
        exact h σ hR
