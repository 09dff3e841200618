/-! THE REFERENCE: elected, spring, entries -/
def tr_mvotesX : am_T := fun as L σ post => ∃ A x, okA A ∧ trM [.ref 0, .int x] A (st_votes A x) as L σ post
theorem ct_mvotesX (l : Launch) : am_Ct l 2 yX7_votes cX7_votes 4 (some .int) tr_mvotesX := by
  intro cI cZ D ad sz as L σ post h
  obtain ⟨A, x, hA, h⟩ := h
  exact ct_mvotes l A hA x cI cZ D ad sz as L σ post h
def sw_ov (v : Nat → Nat) (o : Option Nat) : Int32 := match o with
  | none => -1
  | some q => nI (v q)
theorem nI_nle1 {n : Nat} (h : n < 1000000) : ¬ nI n ≤ -1 := by
  rw [Int32.le_iff_toInt_le, nI_toInt (by omega)]
  show ¬ (n : Int) ≤ -1
  omega
theorem ct_melected (l : Launch) (A : sw_A) (hA : okA A) : am_Ct l 3 yX7_elected cX7_elected 4 (some .int) (trM [.ref 0] A (st_elected A)) := by
  refine am_ct tbX7_elected (am_G [tr_mvotesX]) (by decide +kernel) (by simp) rfl dtX7_elected rfl ckX7_elected lkX7_elected (am_cokF [(16, some (.invokevirtual 305), 0, 2, 7, 0), (31, some (.invokevirtual 305), 0, 2, 7, 0), (40, some (.invokevirtual 305), 0, 2, 7, 0)] rfl (List.forall_mem_cons.mpr ⟨⟨2, _, _, _, _, by decide, (ct_mvotesX l), lnX7_305⟩, List.forall_mem_cons.mpr ⟨⟨2, _, _, _, _, by decide, (ct_mvotesX l), lnX7_305⟩, List.forall_mem_cons.mpr ⟨⟨2, _, _, _, _, by decide, (ct_mvotesX l), lnX7_305⟩, fun _ h => absurd h List.not_mem_nil⟩⟩⟩)) ?_
  intro as L σ post h
  obtain ⟨rfl, rfl, hR, h⟩ := h
  refine ⟨by simp [am_lv0], fun WW hw => ?_⟩
  obtain ⟨T, ⟨cn, st, mn, m, c, e, k, R, rn⟩, F, sd, U, I, E1, E2, E3⟩ := A
  obtain ⟨-, -, ⟨hcn, hm, -, -, -, -, hB, -⟩, ⟨hFk, -⟩, -⟩ := id hA
  have hvb : ∀ q, sw_cs F.2.1 c q m ≤ m * 40 := fun q => sw_cs_le m (fun b hb => by have := hFk b hb; have := (hB b hb).2.1; omega)
  have hsv : ∀ i, i < cn → st_votes (T, (cn, st, mn, m, c, e, k, R, rn), F, sd, U, I, E1, E2, E3) (nI i) = (nI (sw_cs F.2.1 c i m), (T, (cn, st, mn, m, c, e, k, R, rn), F, sd, U, I, E1, E2, E3)) := by
    intro i hi
    simp only [st_votes, sw_ix_nI (Nat.zero_le i) hi (show cn < 2147483648 by omega)]
  generalize hv : (fun q => sw_cs F.2.1 c q m) = v at *
  have hvq : ∀ q, sw_cs F.2.1 c q m = v q := fun q => by rw [← hv]
  have loop : ∀ (kk i : Nat) (z y w : Int32) (σ1 : am_M), i + kk = cn → z = nI i → y = sw_on (sw_el v i) → w = sw_ov v (sw_el v i) → RM (T, (cn, st, mn, m, c, e, k, R, rn), F, sd, U, I, E1, E2, E3) σ1 → WW 7 [some (.ref 0), some (.int y), some (.int w), some (.int z)] [] LM σ1 := by
    intro kk
    induction kk with
    | zero =>
      intro i z y w σ1 hi hz hy hw2 hR1
      have ei : i = cn := by omega
      subst ei; subst hz; subst hy
      refine hw 60 _ _ _ _ _ ?_
      conv => whnf
      rw [hR1.2.1.1.2.1]
      refine ⟨fun _ => ?_, fun c => absurd (Int32.le_refl _) c⟩
      conv => whnf
      simp only [st_elected, hv] at h
      cases hel : sw_el v i with
      | none => simp only [hel] at h; exact h σ1 hR1
      | some q => simp only [hel] at h; exact h σ1 hR1
    | succ kk ih =>
      intro i z y w σ1 hi hz hy hw2 hR1
      subst hz; subst hy; subst hw2
      have hic : i < cn := by omega
      have b1 := hvb i
      have ih' := fun y w σ2 => ih (i + 1) (nI i + 1) y w σ2 (by omega) (nI_1 i)
      rw [sw_el] at ih'
      refine hw 60 _ _ _ _ _ ?_
      conv => whnf
      rw [hR1.2.1.1.2.1]
      refine ⟨fun c => absurd c (nI_ge (by omega) (by omega)), fun _ => ?_⟩
      conv => whnf
      refine ⟨_, nI i, hA, rfl, rfl, hR1, ?_⟩
      rw [hsv i hic]
      intro σ2 hR2
      have key : (∀ w, w = sw_ov v (sw_el v i) → nI (sw_cs F.2.1 c i m) ≤ w → sw_el v (i + 1) = sw_el v i) ∧ (∀ w, w = sw_ov v (sw_el v i) → ¬ nI (sw_cs F.2.1 c i m) ≤ w → sw_el v (i + 1) = some i) := by
        rw [hvq] at b1 ⊢
        rw [sw_el]
        cases hel : sw_el v i with
        | none => exact ⟨fun w hw3 hle => by subst hw3; exact absurd hle (nI_nle1 (by omega)), fun w hw3 hle => rfl⟩
        | some p =>
          have hpi := sw_el_lt i p hel
          have b2 := hvb p
          rw [hvq] at b2
          refine ⟨fun w hw3 hle => ?_, fun w hw3 hle => ?_⟩
          · subst hw3
            have hle := (nI_le' (by omega) (by omega)).1 hle
            exact if_neg (by omega)
          · subst hw3
            have hle : ¬ v i ≤ v p := fun t => hle ((nI_le' (by omega) (by omega)).2 t)
            exact if_pos (by omega)
      have ih2 := fun y w σ2 => ih (i + 1) (nI i + 1) y w σ2 (by omega) (nI_1 i)
      conv => whnf
      refine ⟨fun cc => ?_, fun cc => ?_⟩
      · have ke := key.1 _ rfl cc
        conv => whnf
        refine ⟨_, nI i, hA, rfl, rfl, hR2, ?_⟩
        rw [hsv i hic]
        intro σ3 hR3
        conv => whnf
        refine ⟨fun _ => ?_, fun c2 => absurd cc c2⟩
        conv => whnf
        exact ih2 _ _ σ3 (by rw [ke]) (by rw [ke]) hR3
      · have ke := key.2 _ rfl cc
        conv => whnf
        refine ⟨_, nI i, hA, rfl, rfl, hR2, ?_⟩
        rw [hsv i hic]
        intro σ3 hR3
        conv => whnf
        refine ⟨fun c2 => absurd c2 cc, fun _ => ?_⟩
        conv => whnf
        refine ⟨_, nI i, hA, rfl, rfl, hR3, ?_⟩
        rw [hsv i hic]
        intro σ4 hR4
        conv => whnf
        exact ih2 _ _ σ4 (by rw [ke]; rfl) (by rw [ke, hvq]; rfl) hR4
  refine hw 60 _ _ _ _ _ ?_
  conv => whnf
  exact loop cn 0 0 (-1) (-1) σ (Nat.zero_add _) rfl rfl rfl hR
theorem ct_mspring (l : Launch) (A : sw_A) (x y : Int32) : am_Ct l 1 yX7_spring cX7_spring 6 (some .int) (trM [.ref 0, .int x, .int y] A (st_spring A x y)) := by
  refine am_ct tbX7_spring (am_G [tr_min]) (by decide +kernel) (by simp) rfl dtX7_spring rfl ckX7_spring lkX7_spring (am_cokF [(6, some (.invokestatic 99), 0, 3, 0, 0), (18, some (.invokestatic 99), 0, 3, 0, 0)] rfl (List.forall_mem_cons.mpr ⟨Or.inr (Or.inr (Or.inr ⟨0, _, _, _, _, by decide, (ct_min l), lnX7_99⟩)), List.forall_mem_cons.mpr ⟨Or.inr (Or.inr (Or.inr ⟨0, _, _, _, _, by decide, (ct_min l), lnX7_99⟩)), fun _ h => absurd h List.not_mem_nil⟩⟩)) ?_
  intro as L σ post h
  obtain ⟨rfl, rfl, hR, h⟩ := h
  refine ⟨by simp [am_lv0], fun WW hw => ?_⟩
  have h := h σ
  cases hx : sw_ix x 0 31 with
  | none =>
    simp only [st_spring, hx] at h
    refine hw 60 _ _ _ _ _ ?_
    conv => whnf
    refine ⟨_, _, _, x.toInt, ((0 : Nat) : Int), 30, rfl, Int32.toInt_toInt64 x, rfl, rfl, ?_⟩
    rw [sw_isIx x 0 31 (hi := 30) rfl, hx]
    conv => whnf
    exact ⟨fun _ => h hR, fun c => absurd rfl c⟩
  | some n =>
    obtain ⟨-, hn, rfl⟩ := sw_ix_some hx
    cases hy : sw_ix y 0 101 with
    | none =>
      simp only [st_spring, hx, hy] at h
      refine hw 60 _ _ _ _ _ ?_
      conv => whnf
      refine ⟨_, _, _, (nI n).toInt, ((0 : Nat) : Int), 30, rfl, Int32.toInt_toInt64 _, rfl, rfl, ?_⟩
      rw [sw_isIx (nI n) 0 31 (hi := 30) rfl, hx]
      conv => whnf
      refine ⟨fun c => absurd c sw_t0, fun _ => ?_⟩
      conv => whnf
      refine ⟨_, _, _, y.toInt, ((0 : Nat) : Int), 100, rfl, Int32.toInt_toInt64 _, rfl, rfl, ?_⟩
      rw [sw_isIx y 0 101 (hi := 100) rfl, hy]
      conv => whnf
      exact ⟨fun c => absurd rfl c, fun _ => h hR⟩
    | some q =>
      obtain ⟨-, hq, rfl⟩ := sw_ix_some hy
      simp only [st_spring, hx, hy] at h
      have loop : ∀ (kk i : Nat) (z : Int32) (w : Int64), i + kk = n → z = nI i → w = lN (sw_od q i) → WW 19 [some (.ref 0), some (.int (nI n)), some (.int (nI q)), some (.long w), none, some (.int z)] [] LM σ := by
        intro kk
        induction kk with
        | zero =>
          intro i z w hi hz hw2
          have ei : i = n := by omega
          subst ei; subst hz; subst hw2
          refine hw 60 _ _ _ _ _ ?_
          conv => whnf
          refine ⟨fun _ => ?_, fun c => absurd (Int32.le_refl _) c⟩
          conv => whnf
          rw [lN_i]
          exact h hR
        | succ kk ih =>
          intro i z w hi hz hw2
          subst hz; subst hw2
          have hb := sw_od_le (q := q) (by omega) i
          have hmul : sw_od q i * (100 - q) ≤ 1000000000 * 100 := Nat.mul_le_mul hb (by omega)
          refine hw 60 _ _ _ _ _ ?_
          conv => whnf
          refine ⟨fun c => absurd c (nI_ge (by omega) (by omega)), fun _ => ?_⟩
          conv => whnf
          refine ⟨by decide, ?_⟩
          conv => whnf
          refine ih (i + 1) _ _ (by omega) (nI_1 i) ?_
          rw [show (100 : Int32) - nI q = nI (100 - q) from pk_sub (a := 100) (by omega), nI_l (by omega), lN_mul, pk_lDiv (by omega) (by decide) (by decide)]
          rfl
      refine hw 60 _ _ _ _ _ ?_
      conv => whnf
      refine ⟨_, _, _, (nI n).toInt, ((0 : Nat) : Int), 30, rfl, Int32.toInt_toInt64 _, rfl, rfl, ?_⟩
      rw [sw_isIx (nI n) 0 31 (hi := 30) rfl, hx]
      conv => whnf
      refine ⟨fun c => absurd c sw_t0, fun _ => ?_⟩
      conv => whnf
      refine ⟨_, _, _, (nI q).toInt, ((0 : Nat) : Int), 100, rfl, Int32.toInt_toInt64 _, rfl, rfl, ?_⟩
      rw [sw_isIx (nI q) 0 101 (hi := 100) rfl, hy]
      conv => whnf
      refine ⟨fun _ => ?_, fun c => absurd c sw_t0⟩
      conv => whnf
      exact loop n 0 0 _ (Nat.zero_add _) rfl rfl
/-- entries are new -/
theorem RM_E {T : sw_T} {cn st mn m : Nat} {c e k : Nat → Nat} {R : Nat} {rn : Nat → Nat} {F : sw_F} {sd : Nat} {U : sw_U} {I : sw_I} {E1 E2 E3 E1' E2' E3' : sw_E} {σ σ' : am_M} (hf : fm [19, 20, 21, 22, 23, 24] [33, 36, 41] σ σ') (h : RM (T, (cn, st, mn, m, c, e, k, R, rn), F, sd, U, I, E1, E2, E3) σ) (h1 : rmE σ' 33 19 20 8 E1') (h2 : rmE σ' 36 21 22 8 E2') (h3 : rmE σ' 41 23 24 15 E3') : RM (T, (cn, st, mn, m, c, e, k, R, rn), F, sd, U, I, E1', E2', E3') σ' := by
  obtain ⟨hT, hD, hF, hS, hU, hI, -, -, -⟩ := h
  exact ⟨rmT_fr (fm_k hf 12 rfl) (fm_k hf 13 rfl) (fm_d hf 6 rfl (by decide)) hT, rmD_fr (fm_k hf 0 rfl) (fm_k hf 1 rfl) (fm_k hf 2 rfl) (fm_k hf 3 rfl) (fm_k hf 7 rfl) (fm_d hf 1 rfl (by decide)) (fm_d hf 2 rfl (by decide)) (fm_d hf 3 rfl (by decide)) (fm_d hf 4 rfl (by decide)) hD, sw_FM_fr (fm_d hf 5 rfl (by decide)) hF, by rw [fm_k hf 10 rfl]; exact hS, rmU_fr (fm_k hf 27 rfl) (fm_d hf 15 rfl (by decide)) hU, rmI_fr (fm_d hf 25 rfl (by decide)) (fm_d hf 26 rfl (by decide)) hI, h1, h2, h3⟩
/-- one entry more -/
theorem rmE_app {σ : am_M} {f a b M : Nat} {E : sw_E} {x v : Nat} {σ' : am_M} (h : rmE σ f a b M E) (hM : E.1 < M) (h0 : σ' 0 f = nI (E.1 + 1)) (ha : ∀ q, σ' a q = upd (σ a) E.1 (nI x) q) (hb : ∀ q, σ' b q = upd (σ b) E.1 (nI v) q) : rmE σ' f a b M (sw_app E x v) := by
  obtain ⟨h1, h2, h3⟩ := h
  refine ⟨h0, hM, fun j hj => ?_⟩
  have hj : j < E.1 + 1 := hj
  rw [ha, hb]
  show upd (σ a) E.1 (nI x) j = nI (va_up E.2.1 E.1 x j) ∧ upd (σ b) E.1 (nI v) j = nI (va_up E.2.2 E.1 v j)
  by_cases e : j = E.1
  · subst e; rw [up_s, up_s, up_vs, up_vs]; exact ⟨rfl, rfl⟩
  · rw [up_n _ _ _ _ e, up_n _ _ _ _ e, up_vn _ _ _ _ e, up_vn _ _ _ _ e]; exact h3 j (by omega)
set_option maxHeartbeats 1000000 in
theorem ct_msee (l : Launch) (A : sw_A) (hA : okA A) (b x : Int32) : am_Ct l 2 yX7_see cX7_see 3 (some .int) (trM [.ref 0, .int b, .int x] A (st_see A b x)) := by
  refine am_ct tbX7_see (am_G [tr_misBarn, tr_min]) (by decide +kernel) (by simp) rfl dtX7_see rfl ckX7_see lkX7_see (am_cokF [(2, some (.invokevirtual 184), 0, 2, 7, 0), (17, some (.invokestatic 99), 1, 3, 0, 0)] rfl (List.forall_mem_cons.mpr ⟨⟨1, _, _, _, _, by decide, (ct_misBarn l), lnX7_184⟩, List.forall_mem_cons.mpr ⟨Or.inr (Or.inr (Or.inr ⟨0, _, _, _, _, by decide, (ct_min l), lnX7_99⟩)), fun _ h => absurd h List.not_mem_nil⟩⟩)) ?_
  intro as L σ post h
  obtain ⟨rfl, rfl, hR, h⟩ := h
  refine ⟨by simp [am_lv0], fun WW hw => hw 60 _ _ _ _ _ ?_⟩
  obtain ⟨T, ⟨cn, st, mn, m, c, e, k, R, rn⟩, F, sd, U, I, E1, E2, E3⟩ := A
  obtain ⟨hT, hD, hF, hS, hU, hI, h1, h2, h3⟩ := id hR
  obtain ⟨-, -, ⟨hcn, hm, -⟩, -⟩ := hA
  have e1 := h1.1
  have l1 := h1.2.1
  have c8 : nI E1.1 = 8 ↔ E1.1 = 8 := nI_eq' (b := 8) (by omega) (by decide)
  conv => whnf
  refine ⟨m, b, rfl, rfl, by omega, hD.1.1, ?_⟩
  cases hb : sw_ix b 0 m with
  | none =>
    simp only [st_see, hb] at h
    conv => whnf
    exact ⟨fun c => absurd rfl c, fun _ => h σ hR⟩
  | some j =>
    obtain ⟨-, hj, rfl⟩ := sw_ix_some hb
    conv => whnf
    refine ⟨fun _ => ?_, fun c => absurd c sw_t0⟩
    conv => whnf
    refine ⟨_, _, _, x.toInt, ((0 : Nat) : Int), 40, rfl, Int32.toInt_toInt64 x, rfl, rfl, ?_⟩
    rw [sw_isIx x 0 41 (hi := 40) rfl]
    cases hx : sw_ix x 0 41 with
    | none =>
      simp only [st_see, hb, hx] at h
      conv => whnf
      exact ⟨fun c => absurd rfl c, fun _ => h σ hR⟩
    | some v =>
      obtain ⟨-, hv, rfl⟩ := sw_ix_some hx
      simp only [st_see, hb, hx] at h
      conv => whnf
      refine ⟨fun _ => ?_, fun c => absurd c sw_t0⟩
      conv => whnf
      rw [e1, c8]
      refine ⟨fun cc => ?_, fun cc => ?_⟩
      · rw [if_neg cc] at h
        have vE : vp_in (nI E1.1) 8 := vp_j (by omega) (by decide)
        have kE : (nI E1.1).toNatClampNeg = E1.1 := nI_cl (by omega)
        conv => whnf
        rw [e1]
        refine ⟨vE, ?_⟩
        conv => whnf
        rw [am_un _ _ _ _ (by decide), e1]
        refine ⟨vE, ?_⟩
        conv => whnf
        simp only [am_us, am_un, up_s, kE, e1, nI_1, Nat.reduceEqDiff, not_false_eq_true, cond_false]
        have hf : fm [19, 20, 21, 22, 23, 24] [33, 36, 41] σ (am_up (am_up (am_up σ 19 (upd (σ 19) E1.1 (nI j))) 20 (upd (σ 20) E1.1 (nI v))) 0 (upd (σ 0) 33 (nI (E1.1 + 1)))) := by
          refine ⟨fun q h0 hq => ?_, fun kk hk => ?_⟩
          · rw [am_un _ _ _ _ h0, am_un _ _ _ _ (fun t => hq (by rw [t]; decide)), am_un _ _ _ _ (fun t => hq (by rw [t]; decide))]
          · rw [am_us, up_n _ _ _ _ (fun t => hk (by rw [t]; decide))]
        refine h _ (RM_E hf hR (rmE_app h1 (by omega) (by rw [am_us, up_s]) (fun q => ?_) (fun q => ?_)) (rmE_fr ?_ ?_ ?_ h2) (rmE_fr ?_ ?_ ?_ h3))
        · rw [am_un _ _ _ _ (by decide), am_un _ _ _ _ (by decide), am_us]
        · rw [am_un _ _ _ _ (by decide), am_us]
        · rw [am_us, up_n _ _ _ _ (by decide)]
        · rw [am_un _ _ _ _ (by decide), am_un _ _ _ _ (by decide), am_un _ _ _ _ (by decide)]
        · rw [am_un _ _ _ _ (by decide), am_un _ _ _ _ (by decide), am_un _ _ _ _ (by decide)]
        · rw [am_us, up_n _ _ _ _ (by decide)]
        · rw [am_un _ _ _ _ (by decide), am_un _ _ _ _ (by decide), am_un _ _ _ _ (by decide)]
        · rw [am_un _ _ _ _ (by decide), am_un _ _ _ _ (by decide), am_un _ _ _ _ (by decide)]
      · rw [if_pos cc] at h
        conv => whnf
        exact h σ hR
