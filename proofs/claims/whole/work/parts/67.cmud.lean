/-! THE CLASS: the least mud -/
theorem md_dec {n z : Nat} (h : z < 1679616) : (n * 1679616 + z) / 1679616 = n ∧ (n * 1679616 + z) % 1679616 = z := by omega
/-- a row that serves may be cut to what is of use -/
theorem md_cut {D : sw_D} {F : sw_F} {q : Nat} {v : Nat → Nat} (hm : D.2.2.2.1 ≤ 8) (hv : md_ok D q v) (hS : md_S D F q (fun _ => 0) < md_S D F q v) : (∀ j, min (v j) (md_us D F q j) ≤ md_us D F q j ∧ (D.2.2.2.1 ≤ j → min (v j) (md_us D F q j) = 0)) ∧ sw_sum (fun j => min (v j) (md_us D F q j)) 8 ≤ sw_sum v 8 ∧ 0 < sw_sum (fun j => min (v j) (md_us D F q j)) 8 ∧ md_S D F q (fun _ => 0) < md_S D F q (fun j => min (v j) (md_us D F q j)) := by
  rw [md_S_use]
  refine ⟨fun j => ⟨Nat.min_le_right _ _, fun hj => by rw [hv j (fun hh => by omega)]; exact Nat.zero_min _⟩, (sw_sum_le 8 (fun j _ => Nat.min_le_left _ _)).1, ?_, hS⟩
  rcases Nat.eq_zero_or_pos (sw_sum (fun j => min (v j) (md_us D F q j)) 8) with h0 | h0
  · exfalso
    have h1 : ∀ j, j < 8 → (fun j => min (v j) (md_us D F q j)) j = 0 := fun j hj => by
      have := sw_sum_ge (v := fun j => min (v j) (md_us D F q j)) 8 j hj
      rw [h0] at this
      exact Nat.le_zero.mp this
    have h2 := md_S_congr (D := D) (F := F) (q := q) (v := fun j => min (v j) (md_us D F q j)) (w := fun _ => 0) (fun j hj => h1 j (by omega))
    rw [md_S_use] at h2
    omega
  · exact h0
def tr_findLeast : am_T := fun as L σ post => ∃ (cn st mn m : Nat) (c e k : Nat → Nat) (R : Nat) (rn : Nat → Nat) (F : sw_F) (q : Nat), as = [.ref 0, .int (nI q)] ∧ L = LC ∧ rcD (cn, st, mn, m, c, e, k, R, rn) σ ∧ okD (cn, st, mn, m, c, e, k, R, rn) ∧ sw_FC σ 17 18 19 20 m F ∧ okF m e F ∧ q < cn ∧ (md_o (md_P (cn, st, mn, m, c, e, k, R, rn) F q) = none → ∀ σ', am_fr [22, 23, 24, 25, 26, 42] σ σ' → post (some (.int (-1))) L σ') ∧ (∀ K, md_o (md_P (cn, st, mn, m, c, e, k, R, rn) F q) = some K → K / 1679616 ≤ 5 → ∀ σ', am_fr [22, 23, 24, 25, 26, 42] σ σ' → (∀ j, j < 8 → σ' 42 j = nI (md_dv (K % 1679616) (7 - j) % 6)) → post (some (.int (nI (K / 1679616)))) L σ')
set_option maxHeartbeats 1000000 in
theorem ct_findLeast (l : Launch) : am_Ct l 13 yX6_findLeastMud cX6_findLeastMud 4 (some .int) tr_findLeast := by
  refine am_ct tbX6_findLeastMud (am_G [tr_fill, tr_seatsMud, (tr_shares 8)]) (by decide +kernel) (by simp) rfl dtX6_findLeastMud rfl ckX6_findLeastMud lkX6_findLeastMud (am_cokF [(5, some (.invokestatic 296), 0, 2, 0, 0), (10, some (.invokevirtual 302), 1, 2, 6, 0), (21, some (.invokestatic 296), 0, 2, 0, 0), (26, some (.invokevirtual 302), 1, 2, 6, 0), (40, some (.invokestatic 296), 0, 2, 0, 0), (55, some (.invokestatic 305), 2, 5, 0, 0)] rfl (List.forall_mem_cons.mpr ⟨Or.inr (Or.inr (Or.inr ⟨0, _, _, _, _, by decide, (ct_fill l), lnX6_296⟩)), List.forall_mem_cons.mpr ⟨⟨3, _, _, _, _, by decide, (ct_seatsMud l), lnX6_302⟩, List.forall_mem_cons.mpr ⟨Or.inr (Or.inr (Or.inr ⟨0, _, _, _, _, by decide, (ct_fill l), lnX6_296⟩)), List.forall_mem_cons.mpr ⟨⟨3, _, _, _, _, by decide, (ct_seatsMud l), lnX6_302⟩, List.forall_mem_cons.mpr ⟨Or.inr (Or.inr (Or.inr ⟨0, _, _, _, _, by decide, (ct_fill l), lnX6_296⟩)), List.forall_mem_cons.mpr ⟨Or.inr (Or.inr (Or.inr ⟨12, _, _, _, _, by decide, (ct_shares l 8), lnX6_305⟩)), fun _ h => absurd h List.not_mem_nil⟩⟩⟩⟩⟩⟩)) ?_
  intro as L σ post h
  obtain ⟨cn, st, mn, m, c, e, k, R, rn, F, q, rfl, rfl, hD, hokD, hF, hokF, hq, hN, hK⟩ := h
  refine ⟨by simp [am_lv0], fun WW hw => ?_⟩
  have hm : m ≤ 8 := hokD.2.1
  have hSb : ∀ w, md_S (cn, st, mn, m, c, e, k, R, rn) F q w ≤ 320 := fun w => md_S_le hokD hokF
  generalize hDD : (cn, st, mn, m, c, e, k, R, rn) = D at *
  have hDm : D.2.2.2.1 = m := by rw [← hDD]
  have hDc : D.2.2.2.2.1 = c := by rw [← hDD]
  have hS0 := hSb (fun _ => 0)
  generalize hs0 : md_S D F q (fun _ => 0) = S0 at hS0
  have keep : ∀ σ1, am_fr [22, 23, 24, 25, 26, 42] σ σ1 → rcD D σ1 ∧ sw_FC σ1 17 18 19 20 m F := fun σ1 hf => ⟨rcD_fr (am_frd hf 3 rfl) (am_frd hf 4 rfl) (am_frd hf 5 rfl) (am_frd hf 8 rfl) (am_frd hf 9 rfl) hD, sw_FC_fr (am_frd hf 17 rfl) (am_frd hf 18 rfl) (am_frd hf 19 rfl) (am_frd hf 20 rfl) hF⟩
  have loop : ∀ (kk t : Nat) (z : Int32) (σ1 : am_M), t + kk = 6 → 0 < t → z = nI t → am_fr [22, 23, 24, 25, 26, 42] σ σ1 → (∀ j, j < 8 → σ1 42 j = nI ((fun _ => 0 : Nat → Nat) j)) → (∀ w, (∀ j, w j ≤ md_us D F q j ∧ (m ≤ j → w j = 0)) → 0 < sw_sum w 8 → sw_sum w 8 < t → ¬ S0 < md_S D F q w) → WW 28 [some (.ref 0), some (.int (nI q)), some (.int (nI (S0 + 1))), some (.int z)] [] LC σ1 := by
    intro kk
    induction kk with
    | zero =>
      intro t z σ1 ht ht0 hz hf h42 hno
      have et : t = 6 := by omega
      subst et; subst hz
      refine hw 60 _ _ _ _ _ ?_
      conv => whnf
      refine ⟨fun _ => ?_, fun c => absurd (by decide : (5 : Int32) < nI 6) c⟩
      conv => whnf
      refine hN (md_o_none (fun K hKP => ?_)) σ1 hf
      obtain ⟨v, n, hv, hs, hn0, hn5, hSv, -⟩ := hKP
      rw [← hs0] at hno
      obtain ⟨c1, c2, c3, c4⟩ := md_cut (by rw [hDm]; exact hm) hv hSv
      rw [hDm] at c1
      exact hno _ c1 c3 (by omega) c4
    | succ kk ih =>
      intro t z σ1 ht ht0 hz hf h42 hno
      subst hz
      obtain ⟨hD1, hF1⟩ := keep σ1 hf
      have sum0 : sw_sum (fun _ => 0) 8 = 0 := sw_sum_0 8 (fun _ _ => rfl)
      refine hw 60 _ _ _ _ _ ?_
      conv => whnf
      refine ⟨fun c => absurd c (nI_nlt (a := 5) (by omega) (by decide)), fun _ => ?_⟩
      conv => whnf
      subst hDD
      refine ⟨cn, st, mn, m, c, e, k, R, rn, F, q, 0, t, S0 + 1, fun _ => 0, rfl, rfl, hD1, hokD, hF1, hokF, hq, Nat.zero_le _, by omega, by omega, h42, fun _ _ => rfl, by rw [sum0]; omega, fun w hwT hmin σ2 hf2 h422 => ?_, fun hnone σ2 hf2 h422 => ?_⟩
      · conv => whnf
        refine ⟨fun c => absurd c (by decide), fun _ => ?_⟩
        conv => whnf
        have hwsum : sw_sum w 8 = t := by have := hwT.2.2.1; rw [sum0] at this; omega
        have hw5 : ∀ j, j < 8 → w j ≤ 5 := md_bnd (by omega)
        have hcd := md_cd8 hw5
        obtain ⟨dd1, dd2⟩ := md_dec (n := t) hcd
        have hfin := hK (t * 1679616 + md_cd w 8) (md_o_some ⟨w, t, fun b hb => ?_, hwsum, ht0, by omega, by rw [hs0]; have := hwT.2.2.2; omega, rfl⟩ (fun y hy hP => ?_))
        · rw [dd1, dd2] at hfin
          exact hfin (by omega) σ2 (am_fr_tr hf hf2 (by decide)) (fun j hj => by rw [h422 j hj, md_fig hj hw5])
        · by_cases hbm : m ≤ b
          · exact (hwT.2.1 b (Nat.zero_le _)).2 hbm
          · have h1 := (hwT.2.1 b (Nat.zero_le _)).1
            have h2 : md_us (cn, st, mn, m, c, e, k, R, rn) F q b = 0 := if_neg (fun hh => hb ⟨by show b < m; omega, hh.1⟩)
            omega
        · obtain ⟨v, n, hv, hs, hn0, hn5, hSv, hy2⟩ := hP
          obtain ⟨c1, c2, c3, c4⟩ := md_cut (D := (cn, st, mn, m, c, e, k, R, rn)) hm hv hSv
          have hv5 : ∀ j, j < 8 → v j ≤ 5 := md_bnd (by omega)
          have hcv := md_cd8 hv5
          have hge : ¬ sw_sum (fun j => min (v j) (md_us (cn, st, mn, m, c, e, k, R, rn) F q j)) 8 < t := fun hlt => hno _ c1 c3 hlt (by rw [← hs0]; exact c4)
          have hnt : n = t := by omega
          have heq := (sw_sum_le 8 (v := fun j => min (v j) (md_us (cn, st, mn, m, c, e, k, R, rn) F q j)) (w := v) (fun j _ => Nat.min_le_left _ _)).2 (by omega)
          have := hmin v ⟨fun j hj => absurd hj (Nat.not_lt_zero j), fun j _ => ⟨?_, fun hj => hv j (fun hh => by have h1 : j < m := hh.1; have hj : m ≤ j := hj; omega)⟩, by rw [sum0]; omega, by rw [hs0] at hSv; omega⟩
          · omega
          · by_cases hj8 : j < 8
            · rw [← heq j hj8]; exact (c1 j).1
            · rw [hv j (fun hh => by have h1 : j < m := hh.1; omega)]; exact Nat.zero_le _
      · conv => whnf
        refine ⟨fun _ => ?_, fun c => absurd rfl c⟩
        conv => whnf
        refine ih (t + 1) _ σ2 (by omega) (by omega) (nI_1 t) (am_fr_tr hf hf2 (by decide)) h422 (fun w hwu hw0 hwt hwS => ?_)
        by_cases hlt : sw_sum w 8 < t
        · exact hno w hwu hw0 hlt hwS
        · exact hnone w ⟨fun j hj => absurd hj (Nat.not_lt_zero j), fun j _ => hwu j, by rw [sum0]; omega, by omega⟩
  have hfill : ∀ (σ1 : am_M) (x : Int32), am_fr [42] σ1 (am_up σ1 42 (sw_fil (σ1 42) x 8)) ∧ ∀ j, j < 8 → am_up σ1 42 (sw_fil (σ1 42) x 8) 42 j = x := fun σ1 x => ⟨am_fr_up _ (am_fr_rf _ _) (by decide), fun j hj => by rw [am_us]; exact if_pos hj⟩
  refine hw 60 _ _ _ _ _ ?_
  conv => whnf
  refine ⟨42, _, 8, rfl, Or.inl rfl, Or.inr (Or.inr (Or.inr ⟨rfl, rfl⟩)), ?_⟩
  obtain ⟨p1, p2⟩ := hfill σ 0
  generalize am_up σ 42 (sw_fil (σ 42) 0 8) = σ1 at p1 p2 ⊢
  have hf1 : am_fr [22, 23, 24, 25, 26, 42] σ σ1 := am_fr_tr (am_fr_rf _ _) p1 (by decide)
  obtain ⟨hD1, hF1⟩ := keep σ1 hf1
  conv => whnf
  subst hDD
  refine ⟨cn, st, mn, m, c, e, k, R, rn, F, q, fun _ => 0, rfl, rfl, hD1, hokD, hF1, hokF, hq, p2, fun _ _ => Nat.zero_le _, fun σ2 hf2 => ?_⟩
  have hf2' := am_fr_tr hf1 hf2 (by decide)
  rw [hs0]
  conv => whnf
  refine ⟨42, _, 8, rfl, Or.inl rfl, Or.inr (Or.inr (Or.inr ⟨rfl, rfl⟩)), ?_⟩
  obtain ⟨r1, r2⟩ := hfill σ2 5
  generalize am_up σ2 42 (sw_fil (σ2 42) 5 8) = σ3 at r1 r2 ⊢
  have hf3 : am_fr [22, 23, 24, 25, 26, 42] σ σ3 := am_fr_tr hf2' r1 (by decide)
  obtain ⟨hD3, hF3⟩ := keep σ3 hf3
  conv => whnf
  refine ⟨cn, st, mn, m, c, e, k, R, rn, F, q, fun _ => 5, rfl, rfl, hD3, hokD, hF3, hokF, hq, r2, fun _ _ => Nat.le_refl _, fun σ4 hf4 => ?_⟩
  have hf4' := am_fr_tr hf3 hf4 (by decide)
  have hS5 := hSb (fun _ => 5)
  generalize hs5 : md_S (cn, st, mn, m, c, e, k, R, rn) F q (fun _ => 5) = S5 at hS5
  conv => whnf
  rw [nI_1, nI_le' (by omega) (by omega)]
  refine ⟨fun cc => ?_, fun cc => ?_⟩
  · conv => whnf
    refine ⟨42, _, 8, rfl, Or.inl rfl, Or.inr (Or.inr (Or.inr ⟨rfl, rfl⟩)), ?_⟩
    obtain ⟨t1, t2⟩ := hfill σ4 0
    generalize am_up σ4 42 (sw_fil (σ4 42) 0 8) = σ5 at t1 t2 ⊢
    conv => whnf
    exact loop 5 1 1 σ5 rfl (by decide) rfl (am_fr_tr hf4' t1 (by decide)) t2 (fun w _ h0 h1 => by omega)
  · conv => whnf
    refine hN (md_o_none (fun K hKP => ?_)) σ4 hf4'
    obtain ⟨v, n, hv, hs, hn0, hn5, hSv, -⟩ := hKP
    have hv5 : ∀ j, j < 8 → v j ≤ 5 := md_bnd (by omega)
    have := md_S_mono (D := (cn, st, mn, m, c, e, k, R, rn)) (F := F) (q := q) (v := v) (w := fun _ => 5) hokD hokF (fun j hj => hv5 j (by have hj : j < m := hj; omega))
    rw [hs5] at this
    rw [hs0] at hSv
    omega
set_option maxHeartbeats 1000000 in
theorem ct_cleastMud (l : Launch) (A : sw_A) (hA : okA A) (x y : Int32) : am_Ct l 14 yX6_leastMud cX6_leastMud 4 (some .int) (trC [.ref 0, .int x, .int y] A (st_leastMud A x y)) := by
  refine am_ct tbX6_leastMud (am_G [tr_hasCounty, tr_hasBarn, tr_findLeast]) (by decide +kernel) (by simp) rfl dtX6_leastMud rfl ckX6_leastMud lkX6_leastMud (am_cokF [(5, some (.invokevirtual 201), 0, 2, 3, 0), (24, some (.invokevirtual 151), 1, 2, 3, 0), (48, some (.invokevirtual 239), 2, 2, 6, 0)] rfl (List.forall_mem_cons.mpr ⟨⟨0, _, _, _, _, by decide, (ct_hasCounty l), lnX6_201⟩, List.forall_mem_cons.mpr ⟨⟨0, _, _, _, _, by decide, (ct_hasBarn l), lnX6_151⟩, List.forall_mem_cons.mpr ⟨⟨13, _, _, _, _, by decide, (ct_findLeast l), lnX6_239⟩, fun _ h => absurd h List.not_mem_nil⟩⟩⟩)) ?_
  intro as L σ post h
  obtain ⟨rfl, rfl, hR, h⟩ := h
  refine ⟨by simp [am_lv0], fun WW hw => ?_⟩
  obtain ⟨T, ⟨cn, st, mn, m, c, e, k, R, rn⟩, F, sd, U, I, E1, E2, E3⟩ := A
  obtain ⟨hT, hD, hF, -⟩ := id hR
  obtain ⟨-, -, hokD, hokF, -⟩ := hA
  have hL := hD.1
  obtain ⟨hcn, hm, -, -, -, -, hB, -⟩ := id hokD
  cases hx : sw_ix x 0 cn with
  | none =>
    refine hw 60 _ _ _ _ _ ?_
    conv => whnf
    refine ⟨x, cn, rfl, rfl, by omega, hL.2.1, ?_⟩
    simp only [st_leastMud, hx] at h
    rw [hx]
    conv => whnf
    exact ⟨fun c => absurd rfl c, fun _ => h σ hR⟩
  | some q =>
    obtain ⟨-, hq, rfl⟩ := sw_ix_some hx
    simp only [st_leastMud, hx] at h
    by_cases hy : y = -1
    · subst hy
      rw [if_pos rfl] at h
      have M25 : WW 25 [some (.ref 0), some (.int (nI q)), some (.int (-1))] [] LC σ := by
        refine hw 60 _ _ _ _ _ ?_
        conv => whnf
        refine ⟨cn, st, mn, m, c, e, k, R, rn, F, q, rfl, rfl, hD, hokD, hF, hokF, hq, fun hn σ1 hf1 => ?_, fun K hK hK5 σ1 hf1 h42 => ?_⟩
        · rw [hn] at h
          have h := h σ1 (RC_junk (am_fr_tr (am_fr_rf _ _) hf1 (by decide)) hR)
          conv => whnf
          refine ⟨fun _ => h, fun c => absurd rfl c⟩
        · rw [hK] at h
          have h := h σ1 (RC_junk (am_fr_tr (am_fr_rf _ _) hf1 (by decide)) hR)
          conv => whnf
          refine ⟨fun c => absurd c (nI_nm1 (by omega)), fun _ => ?_⟩
          conv => whnf
          exact ⟨fun c => absurd rfl c, fun _ => h⟩
      refine hw 60 _ _ _ _ _ ?_
      conv => whnf
      refine ⟨nI q, cn, rfl, rfl, by omega, hL.2.1, ?_⟩
      rw [hx]
      conv => whnf
      refine ⟨fun _ => ?_, fun c => absurd c sw_t0⟩
      conv => whnf
      refine ⟨fun _ => ?_, fun c => absurd rfl c⟩
      conv => whnf
      exact M25
    · rw [if_neg hy] at h
      cases hyx : sw_ix y 0 m with
      | none =>
        simp only [hyx] at h
        refine hw 60 _ _ _ _ _ ?_
        conv => whnf
        refine ⟨nI q, cn, rfl, rfl, by omega, hL.2.1, ?_⟩
        rw [hx]
        conv => whnf
        refine ⟨fun _ => ?_, fun c => absurd c sw_t0⟩
        conv => whnf
        refine ⟨fun c => absurd c hy, fun _ => ?_⟩
        conv => whnf
        refine ⟨y, m, rfl, rfl, hm, hL.1, ?_⟩
        rw [hyx]
        conv => whnf
        exact ⟨fun _ => h σ hR, fun c => absurd rfl c⟩
      | some j =>
        obtain ⟨-, hj, rfl⟩ := sw_ix_some hyx
        simp only [hyx] at h
        have vj : vp_in (nI j) 8 := vp_j (by omega) (by decide)
        have cj : (nI j).toNatClampNeg = j := nI_cl (by omega)
        have hcj := (hB j hj).1
        have M25 : c j = q → WW 25 [some (.ref 0), some (.int (nI q)), some (.int (nI j))] [] LC σ := by
          intro hcq
          rw [if_pos hcq] at h
          refine hw 60 _ _ _ _ _ ?_
          conv => whnf
          refine ⟨cn, st, mn, m, c, e, k, R, rn, F, q, rfl, rfl, hD, hokD, hF, hokF, hq, fun hn σ1 hf1 => ?_, fun K hK hK5 σ1 hf1 h42 => ?_⟩
          · rw [hn] at h
            have h := h σ1 (RC_junk (am_fr_tr (am_fr_rf _ _) hf1 (by decide)) hR)
            conv => whnf
            refine ⟨fun _ => h, fun c => absurd rfl c⟩
          · rw [hK] at h
            have h := h σ1 (RC_junk (am_fr_tr (am_fr_rf _ _) hf1 (by decide)) hR)
            conv => whnf
            refine ⟨fun c => absurd c (nI_nm1 (by omega)), fun _ => ?_⟩
            conv => whnf
            refine ⟨fun _ => ?_, fun c => absurd c (nI_nm1 (by omega))⟩
            repeat ((conv => whnf); refine And.intro ?_ ?_; first | with_reducible assumption | decide)
            conv => whnf
            rw [cj, h42 j (by omega)]
            exact h
        refine hw 60 _ _ _ _ _ ?_
        conv => whnf
        refine ⟨nI q, cn, rfl, rfl, by omega, hL.2.1, ?_⟩
        rw [hx]
        conv => whnf
        refine ⟨fun _ => ?_, fun c => absurd c sw_t0⟩
        conv => whnf
        refine ⟨fun c => absurd c hy, fun _ => ?_⟩
        conv => whnf
        refine ⟨nI j, m, rfl, rfl, hm, hL.1, ?_⟩
        rw [hyx]
        conv => whnf
        refine ⟨fun c => absurd c sw_t0, fun _ => ?_⟩
        repeat ((conv => whnf); refine And.intro ?_ ?_; first | with_reducible assumption | decide)
        conv => whnf
        rw [cj, hL.2.2.1 j hj, nI_eq' (by omega) (by omega)]
        refine ⟨fun cc => ?_, fun cc => ?_⟩
        · conv => whnf
          exact M25 cc
        · rw [if_neg cc] at h
          exact h σ hR
