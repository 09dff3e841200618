/-! THE REFERENCE: moved -/
theorem sw_ix_dec {j m : Nat} (hj : j < 1000000) (hm : m < 1000000) : (sw_ix (nI j) 0 m).isSome = decide (j < m) := by
  by_cases h : j < m
  · rw [sw_ix_nI (Nat.zero_le j) h (by omega), decide_eq_true h]; rfl
  · rw [decide_eq_false h]
    cases hx : sw_ix (nI j) 0 m with
    | none => rfl
    | some q =>
      obtain ⟨-, hq, e⟩ := sw_ix_some hx
      have := (nI_eq' (a := j) (b := q) hj (by omega)).1 e
      omega
def tr_mcouldMove : am_T := fun as L σ post => ∃ (cn st mn m : Nat) (c e k : Nat → Nat) (R : Nat) (rn : Nat → Nat) (F : sw_F) (E : sw_E) (a b x : Nat), as = [.ref 0, .int (nI a), .int (nI b), .int (nI x)] ∧ L = LM ∧ rmD (cn, st, mn, m, c, e, k, R, rn) σ ∧ okD (cn, st, mn, m, c, e, k, R, rn) ∧ sw_FM σ m F ∧ okF m e F ∧ rmE σ 33 19 20 8 E ∧ okE E 8 m 40 ∧ a < m ∧ b < m ∧ x < 100 ∧ (∀ j, j < 27 → σ 16 j = σ 5 j) ∧ ∀ σ', fm [5, 14] [] σ σ' → (∀ j, j < 27 → σ' 5 j = σ 5 j) → post (some (.int (sw_b2 (sw_ex (cn, st, mn, m, c, e, k, R, rn) F E a b x)))) L σ'
set_option maxHeartbeats 2000000 in
theorem ct_mcouldMove (l : Launch) : am_Ct l 4 yX7_couldMove cX7_couldMove 6 (some .boolean) tr_mcouldMove := by
  refine am_ct tbX7_couldMove (am_G [tr_mcanMove, tr_mmoveNow, tr_mpass, tr_mputBack]) (by decide +kernel) (by simp) rfl dtX7_couldMove rfl ckX7_couldMove lkX7_couldMove (am_cokF [(9, some (.invokevirtual 227), 0, 4, 7, 0), (21, some (.invokevirtual 231), 1, 4, 7, 0), (25, some (.invokevirtual 222), 2, 1, 7, 0), (84, some (.invokevirtual 263), 3, 1, 7, 0)] rfl (List.forall_mem_cons.mpr ⟨⟨0, _, _, _, _, by decide, (ct_mcanMove l), lnX7_227⟩, List.forall_mem_cons.mpr ⟨⟨1, _, _, _, _, by decide, (ct_mmoveNow l), lnX7_231⟩, List.forall_mem_cons.mpr ⟨⟨3, _, _, _, _, by decide, (ct_mpass l), lnX7_222⟩, List.forall_mem_cons.mpr ⟨⟨0, _, _, _, _, by decide, (ct_mputBack l), lnX7_263⟩, fun _ h => absurd h List.not_mem_nil⟩⟩⟩⟩)) ?_
  intro as L σ post h
  obtain ⟨cn, st, mn, m, c, e, k, R, rn, F, ⟨ln, w, v⟩, a, b, x, rfl, rfl, hD, ⟨hcn, hm, -, hpos, hst, hmn, hB, hR0, hR8, hrn⟩, hF, ⟨hFk, hy⟩, ⟨g1, g2, g3⟩, ⟨hl8, hE⟩, ha, hb, hx, h16, h⟩ := h
  refine ⟨by simp [am_lv0], fun WW hw => ?_⟩
  have hL := hD.1
  dsimp only at g1 g2 g3 hl8 hE
  have he : ∀ b, b < m → e b ≤ 40 := fun b hb => (hB b hb).2.1
  have hab : nI a = nI b ↔ a = b := nI_eq' (by omega) (by omega)
  obtain ⟨p1, p2, p3⟩ := hFk a ha
  obtain ⟨q1, q2, q3⟩ := hFk b hb
  have ea := he a ha
  have eb := he b hb
  have hex : sw_ex (cn, st, mn, m, c, e, k, R, rn) F (ln, w, v) a b x = ((!(a == b) && (decide (x ≤ F.1 a) && decide (F.1 b + x ≤ e b))) && sw_seen (sw_yr m cn c e k (rn (F.2.2.2.2.2 % R)) (sw_mv F a b x)).1 (ln, w, v) ln) := rfl
  by_cases hc : ¬ a = b ∧ x ≤ F.1 a ∧ F.1 b + x ≤ e b
  · obtain ⟨hab2, hc1, hc2⟩ := hc
    rw [hex, beq_eq_false_iff_ne.mpr hab2, decide_eq_true hc1, decide_eq_true hc2] at h
    have hmv := sw_mv_ok (e := e) hFk hab2 hc1 hc2
    have hyr := sw_yr_ok (cn := cn) (c := c) (k := k) (hrn _ (Nat.mod_lt F.2.2.2.2.2 hR0)) he hmv
    generalize hG : sw_yr m cn c e k (rn (F.2.2.2.2.2 % R)) (sw_mv F a b x) = G at h hyr
    have loop : ∀ (σ1 : am_M), am_fr [5, 14] σ σ1 → (∀ j, j < m → σ1 5 j = nI (G.1 j)) → ∀ (kk i : Nat) (z y : Int32), i + kk = ln → z = nI i → y = sw_b2 (sw_seen G.1 (ln, w, v) i) → WW 23 [some (.ref 0), some (.int (nI a)), some (.int (nI b)), some (.int (nI x)), some (.int y), some (.int z)] [] LM σ1 := by
      intro σ1 hf hn kk
      induction kk with
      | zero =>
        intro i z y hi hz hs
        have ei : i = ln := by omega
        subst ei; subst hz; subst hs
        refine hw 60 _ _ _ _ _ ?_
        conv => whnf
        rw [am_frd hf 0 rfl, g1]
        refine ⟨fun _ => ?_, fun c => absurd (Int32.le_refl _) c⟩
        conv => whnf
        refine ⟨rfl, rfl, fun σ2 hf2 h52 => ?_⟩
        have h := h σ2 (fm_fr (fm_fr (fm_rf _ _ _) hf (by decide) rfl) hf2 (by decide) rfl) (fun j hj => by rw [h52 j hj, am_frd hf 16 rfl]; exact h16 j hj)
        conv => whnf
        refine ⟨?_, h⟩
        cases sw_seen G.1 (i, w, v) i
        · exact Or.inl rfl
        · exact Or.inr rfl
      | succ kk ih =>
        intro i z y hi hz hs
        subst hz; subst hs
        have hil : i < ln := by omega
        obtain ⟨j1, j2⟩ := g3 i hil
        obtain ⟨j3, j4⟩ := hE i hil
        have hin : vp_in (nI i) 8 := vp_j (by omega) (by decide)
        have hcl : (nI i).toNatClampNeg = i := nI_cl (by omega)
        have hin2 : vp_in (σ1 19 (nI i).toNatClampNeg) 27 := by rw [hcl, am_frd hf 19 rfl, j1]; exact vp_j (by omega) (by decide)
        have hcl2 : (nI (w i)).toNatClampNeg = w i := nI_cl (by omega)
        have hGw := (hyr (w i) j3).1
        have hew := he (w i) j3
        have ih' := fun y => ih (i + 1) (nI i + 1) y (by omega) (nI_1 i)
        rw [sw_seen] at ih'
        dsimp only at ih'
        refine hw 60 _ _ _ _ _ ?_
        conv => whnf
        rw [am_frd hf 0 rfl, g1]
        refine ⟨fun c => absurd c (nI_ge hil (by omega)), fun _ => ?_⟩
        cases hse : sw_seen G.1 (ln, w, v) i with
        | false =>
          rw [hse, Bool.false_and] at ih'
          conv => whnf
          refine ⟨fun _ => ?_, fun c => absurd rfl c⟩
          conv => whnf
          exact ih' _ rfl
        | true =>
          rw [hse, Bool.true_and] at ih'
          conv => whnf
          refine ⟨fun c => absurd c (by decide), fun _ => ?_⟩
          repeat ((conv => whnf); refine And.intro ?_ ?_; first | with_reducible assumption | decide)
          conv => whnf
          rw [hcl, am_frd hf 19 rfl, am_frd hf 20 rfl, j1, j2, hcl2, hn (w i) j3, nI_eq' (by omega) (by omega)]
          refine ⟨fun cc => ?_, fun cc => ?_⟩
          · rw [beq_eq_false_iff_ne.mpr cc] at ih'
            conv => whnf
            exact ih' _ rfl
          · rw [beq_iff_eq.mpr cc] at ih'
            conv => whnf
            exact ih' _ rfl
    refine hw 60 _ _ _ _ _ ?_
    conv => whnf
    rw [hab]
    refine ⟨fun c => absurd c hab2, fun _ => ?_⟩
    conv => whnf
    refine ⟨a, b, x, F.1 a, F.1 b, e b, rfl, rfl, by omega, by omega, by omega, by omega, by omega, by omega, hF.1 a ha, hF.1 b hb, hL.2.2.2.1 b hb, fun _ => ?_, fun hn => absurd ⟨hc1, hc2⟩ hn⟩
    conv => whnf
    refine ⟨fun _ => ?_, fun c => absurd c (by decide)⟩
    conv => whnf
    refine ⟨m, F, a, b, x, rfl, rfl, hm, ha, hb, hab2, hF, hc1, by omega, by omega, by omega, fun σ2 hf2 hF2 => ?_⟩
    have hD2 := rmD_junk (fm_fr (fm_rf _ _ _) hf2 (by decide) rfl) hD
    conv => whnf
    refine ⟨m, cn, c, e, k, sw_mv F a b x, R, rn, rfl, rfl, hD2.1, ⟨hm, hcn, hB⟩, hF2, ?_, hR0, hR8, hD2.2.2.2.1, fun t ht => ⟨hD2.2.2.2.2 t ht, hrn t ht⟩, ?_, fun σ3 hf3 hF3 => ?_⟩
    · exact fun q hq => ⟨(hmv q hq).1, by have := hmv q hq; have := he q hq; omega, by have := (hmv q hq).2.2; omega⟩
    · show F.2.2.2.2.2 < 100000; omega
    · have hF3' : sw_FM σ3 m (sw_yr m cn c e k (rn (F.2.2.2.2.2 % R)) (sw_mv F a b x)) := hF3
      rw [hG] at hF3'
      conv => whnf
      exact loop σ3 (am_fr_tr (am_fr_tr (am_fr_rf _ _) hf2 (by decide)) hf3 (by decide)) hF3'.1 ln 0 0 1 (Nat.zero_add _) rfl rfl
  · have hfalse : sw_ex (cn, st, mn, m, c, e, k, R, rn) F (ln, w, v) a b x = false := by
      rw [hex]
      by_cases h1 : a = b
      · simp [h1]
      · by_cases h2 : x ≤ F.1 a
        · have h3 : ¬ F.1 b + x ≤ e b := fun q => hc ⟨h1, h2, q⟩
          rw [decide_eq_false h3]; simp
        · rw [decide_eq_false h2]; simp
    rw [hfalse] at h
    have h := h σ (fm_rf _ _ _) (fun _ _ => rfl)
    refine hw 60 _ _ _ _ _ ?_
    conv => whnf
    rw [hab]
    refine ⟨fun _ => ?_, fun c1 => ?_⟩
    · conv => whnf
      exact ⟨Or.inl rfl, h⟩
    · conv => whnf
      refine ⟨a, b, x, F.1 a, F.1 b, e b, rfl, rfl, by omega, by omega, by omega, by omega, by omega, by omega, hF.1 a ha, hF.1 b hb, hL.2.2.2.1 b hb, fun hn => absurd ⟨c1, hn⟩ hc, fun _ => ?_⟩
      conv => whnf
      refine ⟨fun c => absurd rfl c, fun _ => ?_⟩
      conv => whnf
      exact ⟨Or.inl rfl, h⟩
set_option maxHeartbeats 2000000 in
theorem ct_mmoved (l : Launch) (A : sw_A) (hA : okA A) (z : Int32) : am_Ct l 5 yX7_moved cX7_moved 5 (some .int) (trM [.ref 0, .int z] A (st_moved A z)) := by
  refine am_ct tbX7_moved (am_G [tr_msave, tr_misBarn, tr_mcouldMove]) (by decide +kernel) (by simp) rfl dtX7_moved rfl ckX7_moved lkX7_moved (am_cokF [(1, some (.invokevirtual 257), 0, 1, 7, 0), (29, some (.invokevirtual 184), 1, 2, 7, 0), (40, some (.invokevirtual 184), 1, 2, 7, 0), (57, some (.invokevirtual 314), 2, 4, 7, 0)] rfl (List.forall_mem_cons.mpr ⟨⟨0, _, _, _, _, by decide, (ct_msave l), lnX7_257⟩, List.forall_mem_cons.mpr ⟨⟨1, _, _, _, _, by decide, (ct_misBarn l), lnX7_184⟩, List.forall_mem_cons.mpr ⟨⟨1, _, _, _, _, by decide, (ct_misBarn l), lnX7_184⟩, List.forall_mem_cons.mpr ⟨⟨4, _, _, _, _, by decide, (ct_mcouldMove l), lnX7_314⟩, fun _ h => absurd h List.not_mem_nil⟩⟩⟩⟩)) ?_
  intro as L σ post h
  obtain ⟨rfl, rfl, hR, h⟩ := h
  refine ⟨by simp [am_lv0], fun WW hw => ?_⟩
  obtain ⟨T, ⟨cn, st, mn, m, c, e, k, R, rn⟩, F, sd, U, I, E1, E2, E3⟩ := A
  obtain ⟨hT, hD, hF, -, -, -, hE1, -⟩ := id hR
  obtain ⟨-, -, hokD, hokF, -, -, -, -, hokE, -⟩ := hA
  have hL := hD.1
  have hm : m ≤ 8 := hokD.2.1
  simp only [st_moved] at h
  have hP : ∀ t, sw_mP (cn, st, mn, m, c, e, k, R, rn) F E1 t = ((decide (t / 40 < m) && decide (t / 5 % 8 < m)) && sw_ex (cn, st, mn, m, c, e, k, R, rn) F E1 (t / 40) (t / 5 % 8) (t % 5 + 1)) := fun _ => rfl
  generalize sw_mP (cn, st, mn, m, c, e, k, R, rn) F E1 = P at h hP
  have n8 : ¬ (8 : Int32) = 0 := by decide
  have inner : ∀ (d : Nat), d < 64 → (∀ (n : Nat) (u v : Int32) (σ1 : am_M), u = nI (d + 1) → v = nI n → n ≤ 5 * (d + 1) → fm [5, 14, 16] [] σ σ1 → (∀ j, j < 27 → σ1 16 j = σ 5 j) → (∀ j, j < 27 → σ1 5 j = σ 5 j) → sw_mg P z (320 - 5 * (d + 1)) (5 * (d + 1)) n = sw_mg P z 320 0 0 → WW 7 [some (.ref 0), some (.int z), some (.int v), some (.int u)] [] LM σ1) →
      ∀ (kk x n : Nat) (w v : Int32) (σ1 : am_M), x + kk = 5 → w = nI (x + 1) → v = nI n → n ≤ 5 * d + x → fm [5, 14, 16] [] σ σ1 → (∀ j, j < 27 → σ1 16 j = σ 5 j) → (∀ j, j < 27 → σ1 5 j = σ 5 j) → sw_mg P z (320 - (5 * d + x)) (5 * d + x) n = sw_mg P z 320 0 0 → WW 13 [some (.ref 0), some (.int z), some (.int v), some (.int (nI d)), some (.int w)] [] LM σ1 := by
    intro d hd hnext kk
    have qd : nI d / 8 = nI (d / 8) := nI_d (d := 8) (by omega) (by decide) (by decide)
    have qr : nI d - nI d / 8 * 8 = nI (d % 8) := pk_rem (d := 8) (by omega) (by decide) (by decide)
    induction kk with
    | zero =>
      intro x n w v σ1 hx hw2 hv hn hf h16 h5 ht
      have ex : x = 5 := by omega
      subst ex; subst hw2; subst hv
      refine hw 60 _ _ _ _ _ ?_
      conv => whnf
      refine ⟨fun _ => ?_, fun c => absurd (Int32.le_refl _) c⟩
      conv => whnf
      exact hnext n _ _ σ1 (nI_1 d) rfl (by omega) hf h16 h5 ht
    | succ kk ih =>
      intro x n w v σ1 hx hw2 hv hn hf h16 h5 ht
      subst hw2; subst hv
      have hD1 := rmD_junk (fm_tr (fm_rf _ _ _) hf (by decide) (by decide)) hD
      have hF1 := sw_FM_eq hm h5 hF
      rw [show 320 - (5 * d + x) = (320 - (5 * d + (x + 1))) + 1 by omega, sw_mg] at ht
      have hPt : P (5 * d + x) = ((decide (d / 8 < m) && decide (d % 8 < m)) && sw_ex (cn, st, mn, m, c, e, k, R, rn) F E1 (d / 8) (d % 8) (x + 1)) := by
        rw [hP, show (5 * d + x) / 40 = d / 8 by omega, show (5 * d + x) / 5 % 8 = d % 8 by omega, show (5 * d + x) % 5 = x by omega]
      rw [hPt] at ht
      have skip : P (5 * d + x) = false → WW 13 [some (.ref 0), some (.int z), some (.int (nI n)), some (.int (nI d)), some (.int (nI (x + 1) + 1))] [] LM σ1 := by
        intro hp
        rw [← hPt, hp, if_neg (by decide)] at ht
        exact ih (x + 1) n _ _ σ1 (by omega) (nI_1 (x + 1)) rfl (by omega) hf h16 h5 ht
      refine hw 60 _ _ _ _ _ ?_
      conv => whnf
      refine ⟨fun c => absurd c (nI_ge (a := x + 1) (b := 6) (by omega) (by decide)), fun _ => ?_⟩
      conv => whnf
      refine ⟨n8, ?_⟩
      conv => whnf
      rw [qd]
      refine ⟨m, nI (d / 8), rfl, rfl, by omega, hD1.1.1, ?_⟩
      rw [sw_ix_dec (by omega) (by omega)]
      by_cases ha : d / 8 < m
      · rw [decide_eq_true ha]
        conv => whnf
        refine ⟨fun c => absurd c (by decide), fun _ => ?_⟩
        conv => whnf
        refine ⟨n8, ?_⟩
        conv => whnf
        rw [qr]
        refine ⟨m, nI (d % 8), rfl, rfl, by omega, hD1.1.1, ?_⟩
        rw [sw_ix_dec (by omega) (by omega)]
        by_cases hb : d % 8 < m
        · rw [decide_eq_true hb]
          rw [decide_eq_true ha, decide_eq_true hb] at ht
          conv => whnf
          refine ⟨fun c => absurd c (by decide), fun _ => ?_⟩
          repeat ((conv => whnf); refine And.intro ?_ ?_; first | with_reducible assumption | decide)
          conv => whnf
          rw [qr, qd]
          refine ⟨cn, st, mn, m, c, e, k, R, rn, F, E1, d / 8, d % 8, x + 1, rfl, rfl, hD1, hokD, hF1, hokF, rmE_fr (fm_k hf 33 rfl) (fm_d hf 19 rfl (by decide)) (fm_d hf 20 rfl (by decide)) hE1, hokE, ha, hb, by omega, fun j hj => by rw [h16 j hj, h5 j hj], fun σ2 hf2 h52 => ?_⟩
          have hfa := fm_tr hf hf2 (by decide) (by decide)
          have k16 : ∀ j, j < 27 → σ2 16 j = σ 5 j := fun j hj => by rw [fm_d hf2 16 rfl (by decide)]; exact h16 j hj
          have k5 : ∀ j, j < 27 → σ2 5 j = σ 5 j := fun j hj => by rw [h52 j hj]; exact h5 j hj
          cases hst : sw_ex (cn, st, mn, m, c, e, k, R, rn) F E1 (d / 8) (d % 8) (x + 1) with
          | false =>
            rw [hst, if_neg (by decide)] at ht
            conv => whnf
            refine ⟨fun _ => ?_, fun c => absurd rfl c⟩
            conv => whnf
            exact ih (x + 1) n _ _ σ2 (by omega) (nI_1 (x + 1)) rfl (by omega) hfa k16 k5 ht
          | true =>
            rw [hst, if_pos (by decide)] at ht
            conv => whnf
            refine ⟨fun c => absurd c (by decide), fun _ => ?_⟩
            conv => whnf
            refine ⟨fun cc => ?_, fun cc => ?_⟩
            · rw [if_neg cc] at ht
              conv => whnf
              exact ih (x + 1) (n + 1) _ _ σ2 (by omega) (nI_1 (x + 1)) (nI_1 n) (by omega) hfa k16 k5 ht
            · rw [if_pos cc] at ht
              have h := h σ2 (RM_junk hm (fm_tr (fm_rf _ _ _) hfa (by decide) (by decide)) k5 hR)
              rw [← ht, show (5 * d + x) / 40 = d / 8 by omega, show (5 * d + x) / 5 % 8 = d % 8 by omega, show (5 * d + x) % 5 = x by omega] at h
              repeat ((conv => whnf); refine And.intro ?_ ?_; first | with_reducible assumption | decide)
              conv => whnf
              rw [qr, qd, show (100 : Int32) * nI (d / 8) = nI (100 * (d / 8)) from pk_mul 100 _, show (10 : Int32) * nI (d % 8) = nI (10 * (d % 8)) from pk_mul 10 _, nI_add, nI_add]
              exact h
        · rw [decide_eq_false hb]
          conv => whnf
          refine ⟨fun _ => ?_, fun c => absurd rfl c⟩
          conv => whnf
          exact skip (by rw [hPt, decide_eq_false hb, Bool.and_false, Bool.false_and])
      · rw [decide_eq_false ha]
        conv => whnf
        refine ⟨fun _ => ?_, fun c => absurd rfl c⟩
        conv => whnf
        exact skip (by rw [hPt, decide_eq_false ha, Bool.false_and, Bool.false_and])
  have outer : ∀ (kk d n : Nat) (u v : Int32) (σ1 : am_M), d + kk = 64 → u = nI d → v = nI n → n ≤ 5 * d → fm [5, 14, 16] [] σ σ1 → (∀ j, j < 27 → σ1 16 j = σ 5 j) → (∀ j, j < 27 → σ1 5 j = σ 5 j) → sw_mg P z (320 - 5 * d) (5 * d) n = sw_mg P z 320 0 0 → WW 7 [some (.ref 0), some (.int z), some (.int v), some (.int u)] [] LM σ1 := by
    intro kk
    induction kk with
    | zero =>
      intro d n u v σ1 hd hu hv hn hf h16 h5 ht
      have ed : d = 64 := by omega
      subst ed; subst hu; subst hv
      rw [show 320 - 5 * 64 = 0 by omega, sw_mg] at ht
      have h := h σ1 (RM_junk hm (fm_tr (fm_rf _ _ _) hf (by decide) (by decide)) h5 hR)
      refine hw 60 _ _ _ _ _ ?_
      conv => whnf
      refine ⟨fun _ => ?_, fun c => absurd (Int32.le_refl _) c⟩
      conv => whnf
      refine ⟨fun cc => ?_, fun cc => ?_⟩
      · rw [if_neg cc] at ht
        conv => whnf
        rw [← ht] at h; exact h
      · rw [if_pos cc] at ht
        conv => whnf
        rw [← ht] at h; exact h
    | succ kk ih =>
      intro d n u v σ1 hd hu hv hn hf h16 h5 ht
      subst hu; subst hv
      refine hw 60 _ _ _ _ _ ?_
      conv => whnf
      refine ⟨fun c => absurd c (nI_ge (b := 64) (by omega) (by decide)), fun _ => ?_⟩
      conv => whnf
      exact inner d (by omega) (fun n u v σ2 hu hv hn hf2 a16 a5 ht => ih (d + 1) n u v σ2 (by omega) hu hv hn hf2 a16 a5 ht) 5 0 n 1 _ σ1 rfl rfl rfl (by omega) hf h16 h5 ht
  refine hw 60 _ _ _ _ _ ?_
  conv => whnf
  refine ⟨rfl, rfl, fun σ1 hf1 h16 => ?_⟩
  conv => whnf
  exact outer 64 0 0 0 0 σ1 rfl rfl rfl (by omega) (fm_fr (fm_rf _ _ _) hf1 (by decide) rfl) h16 (fun j hj => by rw [am_frd hf1 5 rfl]) rfl
