/-! THE CLASS: mud, ring, undo; votes; entries; seed, images -/
theorem ct_cmud (l : Launch) (A : sw_A) (hA : okA A) (b x : Int32) : am_Ct l 2 yX6_mud cX6_mud 3 (some .int) (trC [.ref 0, .int b, .int x] A (st_mud A b x)) := by
  refine am_ct tbX6_mud (am_G [tr_hasBarn, tr_remember, tr_bringNearer]) (by decide +kernel) (by simp) rfl dtX6_mud rfl ckX6_mud lkX6_mud (am_cokF [(5, some (.invokevirtual 151), 0, 2, 3, 0), (36, some (.invokevirtual 173), 1, 2, 2, 0), (45, some (.invokevirtual 190), 2, 3, 1, 0)] rfl (List.forall_mem_cons.mpr ⟨⟨0, _, _, _, _, by decide, (ct_hasBarn l), lnX6_151⟩, List.forall_mem_cons.mpr ⟨⟨1, _, _, _, _, by decide, (ct_remember l), lnX6_173⟩, List.forall_mem_cons.mpr ⟨⟨0, _, _, _, _, by decide, (ct_bringNearer l), lnX6_190⟩, fun _ h => absurd h List.not_mem_nil⟩⟩⟩)) ?_
  intro as L σ post h
  obtain ⟨rfl, rfl, hR, h⟩ := h
  refine ⟨by simp [am_lv0], fun WW hw => hw 60 _ _ _ _ _ ?_⟩
  obtain ⟨T, ⟨cn, st, mn, m, c, e, k, R, rn⟩, F, sd, U, I, E1, E2, E3⟩ := A
  obtain ⟨hT, ⟨hL, d6, d7, d8⟩, hF, hS, hU, hI, h1, h2, h3⟩ := id hR
  obtain ⟨-, -, ⟨hcn, hm, -, -, -, -, hB, -⟩, ⟨hFk, hy⟩, -⟩ := hA
  have c1 : x < 1 ↔ x.toInt < 1 := sw_xlt 1 (by decide)
  have c9 : x ≤ 9 ↔ x.toInt ≤ 9 := sw_xle 9 (by decide)
  conv => whnf
  refine ⟨b, m, rfl, rfl, hm, hL.1, ?_⟩
  cases hb : sw_ix b 0 m with
  | none =>
    simp only [st_mud, hb] at h
    conv => whnf
    exact ⟨fun c => absurd rfl c, fun _ => h σ hR⟩
  | some j =>
    obtain ⟨-, hj, rfl⟩ := sw_ix_some hb
    simp only [st_mud, hb] at h
    have v2 : vp_in (nI j) 8 := vp_j (by omega) (by decide)
    have k2 : (nI j).toNatClampNeg = j := nI_cl (by omega)
    have hfj := (hFk j hj).2.2
    conv => whnf
    refine ⟨fun _ => ?_, fun c => absurd c sw_t0⟩
    cases hx : sw_ix x 1 10 with
    | none =>
      have hn := sw_ix_none hx
      simp only [hx] at h
      conv => whnf
      rw [c1]
      refine ⟨fun c => h σ hR, fun c => ?_⟩
      conv => whnf
      rw [c9]
      exact ⟨fun c => by omega, fun c => h σ hR⟩
    | some n =>
      obtain ⟨hn1, hn2, rfl⟩ := sw_ix_some hx
      simp only [hx] at h
      rw [nI_toInt (by omega)] at c1 c9
      conv => whnf
      rw [c1]
      refine ⟨fun c => by omega, fun c => ?_⟩
      conv => whnf
      rw [c9]
      refine ⟨fun c => ?_, fun c => by omega⟩
      conv => whnf
      refine ⟨m, F, U, rfl, rfl, hm, hF, hU, fun σ1 hf hU1 => ?_⟩
      have hF1 := sw_FC_fr (am_frd hf 17 rfl) (am_frd hf 18 rfl) (am_frd hf 19 rfl) (am_frd hf 20 rfl) hF
      conv => whnf
      refine ⟨17, 18, 19, 20, 21, m, F, j, n, rfl, rfl, Or.inl ⟨rfl, rfl, rfl, rfl, rfl⟩, hm, hj, by omega, hF1, by omega, fun σ2 hf2 hF2 => ?_⟩
      repeat ((conv => whnf); refine And.intro ?_ ?_; first | with_reducible assumption | decide)
      conv => whnf
      rw [k2, hF2.2.2.1 j hj, show (sw_md F j n).2.2.1 j = F.2.2.1 j - n from up_vs _ _ _]
      exact h σ2 (RC_flock (am_fr_tr (am_fr_tr (am_fr_rf _ _) hf (by decide)) hf2 (by decide)) hR hF2 (sw_UC_fr (am_frd hf2 27 rfl) (am_frd hf2 28 rfl) (am_frd hf2 29 rfl) hU1))
theorem ct_cring (l : Launch) (A : sw_A) (hA : okA A) (b x : Int32) : am_Ct l 2 yX6_ring cX6_ring 3 (some .int) (trC [.ref 0, .int b, .int x] A (st_ring A b x)) := by
  refine am_ct tbX6_ring (am_G [tr_hasBarn, tr_remember]) (by decide +kernel) (by simp) rfl dtX6_ring rfl ckX6_ring lkX6_ring (am_cokF [(5, some (.invokevirtual 151), 0, 2, 3, 0), (62, some (.invokevirtual 173), 1, 2, 2, 0)] rfl (List.forall_mem_cons.mpr ⟨⟨0, _, _, _, _, by decide, (ct_hasBarn l), lnX6_151⟩, List.forall_mem_cons.mpr ⟨⟨1, _, _, _, _, by decide, (ct_remember l), lnX6_173⟩, fun _ h => absurd h List.not_mem_nil⟩⟩)) ?_
  intro as L σ post h
  obtain ⟨rfl, rfl, hR, h⟩ := h
  refine ⟨by simp [am_lv0], fun WW hw => hw 60 _ _ _ _ _ ?_⟩
  obtain ⟨T, ⟨cn, st, mn, m, c, e, k, R, rn⟩, F, sd, U, I, E1, E2, E3⟩ := A
  obtain ⟨hT, ⟨hL, d6, d7, d8⟩, hF, hS, hU, hI, h1, h2, h3⟩ := id hR
  obtain ⟨-, -, ⟨hcn, hm, -, -, -, -, hB, -⟩, ⟨hFk, hy⟩, -⟩ := hA
  have c1 : x < 1 ↔ x.toInt < 1 := sw_xlt 1 (by decide)
  have c9 : x ≤ 40 ↔ x.toInt ≤ 40 := sw_xle 40 (by decide)
  conv => whnf
  refine ⟨b, m, rfl, rfl, hm, hL.1, ?_⟩
  cases hb : sw_ix b 0 m with
  | none =>
    simp only [st_ring, hb] at h
    conv => whnf
    exact ⟨fun c => absurd rfl c, fun _ => h σ hR⟩
  | some j =>
    obtain ⟨-, hj, rfl⟩ := sw_ix_some hb
    simp only [st_ring, hb] at h
    have v2 : vp_in (nI j) 8 := vp_j (by omega) (by decide)
    have k2 : (nI j).toNatClampNeg = j := nI_cl (by omega)
    obtain ⟨q1, q2, q3⟩ := hFk j hj
    have ej := (hB j hj).2.1
    conv => whnf
    refine ⟨fun _ => ?_, fun c => absurd c sw_t0⟩
    cases hx : sw_ix x 1 41 with
    | none =>
      have hn := sw_ix_none hx
      simp only [hx] at h
      conv => whnf
      rw [c1]
      refine ⟨fun c => h σ hR, fun c => ?_⟩
      conv => whnf
      rw [c9]
      exact ⟨fun c => by omega, fun c => h σ hR⟩
    | some n =>
      obtain ⟨hn1, hn2, rfl⟩ := sw_ix_some hx
      simp only [hx] at h
      rw [nI_toInt (by omega)] at c1 c9
      conv => whnf
      rw [c1]
      refine ⟨fun c => by omega, fun c => ?_⟩
      conv => whnf
      rw [c9]
      refine ⟨fun c => ?_, fun c => by omega⟩
      repeat ((conv => whnf); refine And.intro ?_ ?_; first | with_reducible assumption | decide)
      conv => whnf
      rw [k2, hF.2.1 j hj, hF.1 j hj, nI_add, nI_le' (by omega) (by omega)]
      refine ⟨fun cc => ?_, fun cc => ?_⟩
      · rw [if_neg (by omega)] at h
        conv => whnf
        refine ⟨m, F, U, rfl, rfl, hm, hF, hU, fun σ1 hf hU1 => ?_⟩
        have hF1 := sw_FC_fr (am_frd hf 17 rfl) (am_frd hf 18 rfl) (am_frd hf 19 rfl) (am_frd hf 20 rfl) hF
        repeat ((conv => whnf); refine And.intro ?_ ?_; first | with_reducible assumption | decide)
        conv => whnf
        rw [k2, hF1.2.1 j hj, nI_add, am_us, cond_false, up_s]
        refine h _ (RC_flock (am_fr_up _ (am_fr_tr (am_fr_rf _ _) hf (by decide)) (by decide)) hR ?_ (sw_UC_fr (am_un _ _ _ _ (by decide)) (am_un _ _ _ _ (by decide)) (am_un _ _ _ _ (by decide)) hU1))
        obtain ⟨g1, g2, g3, g4, g5, g6⟩ := hF1
        refine ⟨fun q hq => ?_, fun q hq => ?_, fun q hq => ?_, ?_, ?_, ?_⟩
        · rw [am_un _ _ _ _ (by decide)]; exact g1 q hq
        · rw [am_us]
          show upd _ j _ q = nI (va_up F.2.1 j (F.2.1 j + n) q)
          unfold upd va_up
          split
          · rfl
          · exact g2 q hq
        · rw [am_un _ _ _ _ (by decide)]; exact g3 q hq
        · rw [am_un _ _ _ _ (by decide)]; exact g4
        · rw [am_un _ _ _ _ (by decide)]; exact g5
        · rw [am_un _ _ _ _ (by decide)]; exact g6
      · rw [if_pos (by omega)] at h
        exact h σ hR
theorem ct_cundo (l : Launch) (A : sw_A) (hA : okA A) : am_Ct l 2 yX6_undo cX6_undo 1 (some .int) (trC [.ref 0] A (st_undo A)) := by
  refine am_ct tbX6_undo (am_G [tr_bringBack]) (by decide +kernel) (by simp) rfl dtX6_undo rfl ckX6_undo lkX6_undo (am_cokF [(8, some (.invokevirtual 197), 0, 2, 2, 0)] rfl (List.forall_mem_cons.mpr ⟨⟨1, _, _, _, _, by decide, (ct_bringBack l), lnX6_197⟩, fun _ h => absurd h List.not_mem_nil⟩)) ?_
  intro as L σ post h
  obtain ⟨rfl, rfl, hR, h⟩ := h
  refine ⟨by simp [am_lv0], fun WW hw => hw 60 _ _ _ _ _ ?_⟩
  obtain ⟨T, ⟨cn, st, mn, m, c, e, k, R, rn⟩, F, sd, U, I, E1, E2, E3⟩ := A
  obtain ⟨hT, ⟨hL, d6, d7, d8⟩, hF, hS, hU, hI, h1, h2, h3⟩ := id hR
  obtain ⟨-, -, ⟨hcn, hm, -⟩, -⟩ := hA
  simp only [st_undo] at h
  conv => whnf
  refine ⟨m, U, rfl, rfl, hm, hU, fun hc => ?_, fun hc σ1 hf hF1 hU1 => ?_⟩
  · rw [if_pos hc] at h
    conv => whnf
    exact ⟨fun _ => h σ hR, fun c => absurd rfl c⟩
  · rw [if_neg (by omega)] at h
    conv => whnf
    refine ⟨fun c => absurd c (by decide), fun _ => ?_⟩
    conv => whnf
    rw [hU1.2.2.1]
    exact h σ1 (RC_flock (am_fr_tr (am_fr_rf _ _) hf (by decide)) hR hF1 hU1)
theorem sw_sm_own {f c : Nat → Nat} {m q : Nat} : ∀ n, n ≤ m → sw_sm f (sw_own m c q).testBit n = sw_cs f c q n
  | 0, _ => rfl
  | n + 1, h => by
    rw [sw_sm, sw_sm_own n (by omega), sw_own, sw_set_bit]
    have : decide (n < m) = true := by simp; omega
    rw [this, Bool.true_and, sw_cs]
    by_cases hc : c n = q
    · rw [if_pos hc, if_pos (by simpa using hc)]
    · rw [if_neg hc, if_neg (by simpa using hc)]
theorem sw_cs_le {f c : Nat → Nat} {q B : Nat} : ∀ n, (∀ b, b < n → f b ≤ B) → sw_cs f c q n ≤ n * B
  | 0, _ => Nat.zero_le _
  | n + 1, h => by
    have h1 := sw_cs_le (c := c) (q := q) n (fun b hb => h b (by omega))
    have h2 := h n (by omega)
    rw [sw_cs, Nat.succ_mul]
    split <;> omega
def tr_votesOf : am_T := fun as L σ post => ∃ (q m : Nat) (c g : Nat → Nat), as = [.ref 0, .int (nI q)] ∧ L = LC ∧ q < 1000 ∧ m ≤ 8 ∧ σ 3 3 = nI m ∧ (∀ b, b < m → σ 4 b = nI (c b) ∧ c b < 1000) ∧ (∀ b, b < m → σ 19 b = nI (g b)) ∧ post (some (.int (nI (sw_cs g c q m)))) L σ
theorem ct_votesOf (l : Launch) : am_Ct l 1 yX6_votesOf cX6_votesOf 2 (some .int) tr_votesOf := by
  refine am_ct tbX6_votesOf (am_G [tr_barnsOf, tr_sumOver]) (by decide +kernel) (by simp) rfl dtX6_votesOf rfl ckX6_votesOf lkX6_votesOf (am_cokF [(12, some (.invokevirtual 220), 0, 2, 3, 0), (15, some (.invokestatic 137), 1, 2, 0, 0)] rfl (List.forall_mem_cons.mpr ⟨⟨0, _, _, _, _, by decide, (ct_barnsOf l), lnX6_220⟩, List.forall_mem_cons.mpr ⟨Or.inr (Or.inr (Or.inr ⟨0, _, _, _, _, by decide, (ct_sumOver l), lnX6_137⟩)), fun _ h => absurd h List.not_mem_nil⟩⟩)) ?_
  intro as L σ post h
  obtain ⟨q, m, c, g, rfl, rfl, hq, hm, e1, e2, e3, h⟩ := h
  refine ⟨by simp [am_lv0], fun WW hw => hw 60 _ _ _ _ _ ?_⟩
  conv => whnf
  refine ⟨q, m, c, rfl, rfl, hm, hq, e1, e2, ?_⟩
  conv => whnf
  refine ⟨19, sw_own m c q, m, g, rfl, rfl, by decide, hm, sw_set_lt _ _, e3, ?_⟩
  conv => whnf
  rw [sw_sm_own m (Nat.le_refl m)]
  exact h
theorem ct_cvotes (l : Launch) (A : sw_A) (hA : okA A) (x : Int32) : am_Ct l 2 yX6_votes cX6_votes 2 (some .int) (trC [.ref 0, .int x] A (st_votes A x)) := by
  refine am_ct tbX6_votes (am_G [tr_hasCounty, tr_votesOf]) (by decide +kernel) (by simp) rfl dtX6_votes rfl ckX6_votes lkX6_votes (am_cokF [(5, some (.invokevirtual 201), 0, 2, 3, 0), (13, some (.invokevirtual 242), 1, 2, 6, 0)] rfl (List.forall_mem_cons.mpr ⟨⟨0, _, _, _, _, by decide, (ct_hasCounty l), lnX6_201⟩, List.forall_mem_cons.mpr ⟨⟨1, _, _, _, _, by decide, (ct_votesOf l), lnX6_242⟩, fun _ h => absurd h List.not_mem_nil⟩⟩)) ?_
  intro as L σ post h
  obtain ⟨rfl, rfl, hR, h⟩ := h
  refine ⟨by simp [am_lv0], fun WW hw => hw 60 _ _ _ _ _ ?_⟩
  obtain ⟨T, ⟨cn, st, mn, m, c, e, k, R, rn⟩, F, sd, U, I, E1, E2, E3⟩ := A
  obtain ⟨hT, ⟨hL, d6, d7, d8⟩, hF, -⟩ := id hR
  obtain ⟨-, -, ⟨hcn, hm, -, -, -, -, hB, -⟩, -⟩ := hA
  conv => whnf
  refine ⟨x, cn, rfl, rfl, by omega, hL.2.1, ?_⟩
  cases hx : sw_ix x 0 cn with
  | none =>
    simp only [st_votes, hx] at h
    conv => whnf
    exact ⟨fun _ => h σ hR, fun c => absurd rfl c⟩
  | some q =>
    obtain ⟨-, hq, rfl⟩ := sw_ix_some hx
    simp only [st_votes, hx] at h
    conv => whnf
    refine ⟨fun c => absurd c sw_t0, fun _ => ?_⟩
    conv => whnf
    refine ⟨q, m, c, F.2.1, rfl, rfl, by omega, hm, hL.1, fun b hb => ⟨hL.2.2.1 b hb, by have := (hB b hb).1; omega⟩, hF.2.1, ?_⟩
    conv => whnf
    exact h σ hR
def sw_on (o : Option Nat) : Int32 := match o with
  | none => -1
  | some q => nI q
theorem nI_nm1 {q : Nat} (h : q < 1000000) : ¬ nI q = -1 := fun e => nI_pos (n := q) (by omega) (by rw [e]; decide)
theorem sw_el_lt {v : Nat → Nat} : ∀ n q, sw_el v n = some q → q < n
  | 0, q, h => by cases h
  | n + 1, q, h => by
    rw [sw_el] at h
    cases hn : sw_el v n with
    | none => rw [hn] at h; cases h; omega
    | some p =>
      rw [hn] at h
      dsimp only at h
      have := sw_el_lt n p hn
      split at h <;> cases h <;> omega
theorem ct_celected (l : Launch) (A : sw_A) (hA : okA A) : am_Ct l 2 yX6_elected cX6_elected 3 (some .int) (trC [.ref 0] A (st_elected A)) := by
  refine am_ct tbX6_elected (am_G [tr_votesOf]) (by decide +kernel) (by simp) rfl dtX6_elected rfl ckX6_elected lkX6_elected (am_cokF [(22, some (.invokevirtual 242), 0, 2, 6, 0), (27, some (.invokevirtual 242), 0, 2, 6, 0)] rfl (List.forall_mem_cons.mpr ⟨⟨1, _, _, _, _, by decide, (ct_votesOf l), lnX6_242⟩, List.forall_mem_cons.mpr ⟨⟨1, _, _, _, _, by decide, (ct_votesOf l), lnX6_242⟩, fun _ h => absurd h List.not_mem_nil⟩⟩)) ?_
  intro as L σ post h
  obtain ⟨rfl, rfl, hR, h⟩ := h
  refine ⟨by simp [am_lv0], fun WW hw => ?_⟩
  obtain ⟨T, ⟨cn, st, mn, m, c, e, k, R, rn⟩, F, sd, U, I, E1, E2, E3⟩ := A
  obtain ⟨hT, ⟨hL, d6, d7, d8⟩, hF, -⟩ := id hR
  obtain ⟨-, -, ⟨hcn, hm, -, -, -, -, hB, -⟩, ⟨hFk, -⟩, -⟩ := hA
  have hvb : ∀ q, sw_cs F.2.1 c q m ≤ m * 40 := fun q => sw_cs_le m (fun b hb => by have := hFk b hb; have := (hB b hb).2.1; omega)
  have hcc : ∀ b, b < m → σ 4 b = nI (c b) ∧ c b < 1000 := fun b hb => ⟨hL.2.2.1 b hb, by have := (hB b hb).1; omega⟩
  have loop : ∀ (kk i : Nat) (z y : Int32), i + kk = cn → z = nI i → y = sw_on (sw_el (fun q => sw_cs F.2.1 c q m) i) → WW 5 [some (.ref 0), some (.int y), some (.int z)] [] LC σ := by
    intro kk
    induction kk with
    | zero =>
      intro i z y hi hz hy
      have ei : i = cn := by omega
      subst ei; subst hz; subst hy
      refine hw 60 _ _ _ _ _ ?_
      conv => whnf
      rw [hL.2.1]
      refine ⟨fun _ => ?_, fun c => absurd (Int32.le_refl _) c⟩
      conv => whnf
      simp only [st_elected] at h
      cases hel : sw_el (fun q => sw_cs F.2.1 c q m) i with
      | none => simp only [hel] at h; exact h σ hR
      | some q => simp only [hel] at h; exact h σ hR
    | succ kk ih =>
      intro i z y hi hz hy
      subst hz; subst hy
      refine hw 60 _ _ _ _ _ ?_
      conv => whnf
      rw [hL.2.1]
      refine ⟨fun c => absurd c (nI_ge (by omega) (by omega)), fun _ => ?_⟩
      have ih' := fun y => ih (i + 1) (nI i + 1) y (by omega) (nI_1 i)
      rw [sw_el] at ih'
      cases hel : sw_el (fun q => sw_cs F.2.1 c q m) i with
      | none =>
        rw [hel] at ih'
        conv => whnf
        exact ⟨fun _ => ih' _ rfl, fun c => absurd rfl c⟩
      | some p =>
        rw [hel] at ih'
        dsimp only at ih'
        have hpi := sw_el_lt i p hel
        have b1 := hvb i
        have b2 := hvb p
        conv => whnf
        refine ⟨fun c => absurd c (nI_nm1 (by omega)), fun _ => ?_⟩
        conv => whnf
        refine ⟨i, m, c, F.2.1, rfl, rfl, by omega, hm, hL.1, hcc, hF.2.1, ?_⟩
        conv => whnf
        refine ⟨p, m, c, F.2.1, rfl, rfl, by omega, hm, hL.1, hcc, hF.2.1, ?_⟩
        conv => whnf
        rw [nI_le' (by omega) (by omega)]
        refine ⟨fun cc => ?_, fun cc => ?_⟩
        · conv => whnf
          refine ih' _ ?_
          rw [if_neg (by omega)]
        · conv => whnf
          refine ih' _ ?_
          rw [if_pos (by omega)]; rfl
  refine hw 60 _ _ _ _ _ ?_
  conv => whnf
  exact loop cn 0 0 (-1) (Nat.zero_add _) rfl rfl
