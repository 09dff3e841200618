/-! THE REFERENCE: spans -/
def tr_meavesOf : am_T := fun as L σ post => ∃ (S m : Nat) (e : Nat → Nat), as = [.ref 0, .int (nI S)] ∧ L = LM ∧ m ≤ 8 ∧ S < 256 ∧ σ 0 3 = nI m ∧ (∀ b, b < m → σ 2 b = nI (e b)) ∧ post (some (.int (nI (sw_sm e S.testBit m)))) L σ
theorem ct_meavesOf (l : Launch) : am_Ct l 1 yX7_eavesOf cX7_eavesOf 4 (some .int) tr_meavesOf := by
  refine am_ct tbX7_eavesOf (am_G [tr_mhas]) (by decide +kernel) (by simp) rfl dtX7_eavesOf rfl ckX7_eavesOf lkX7_eavesOf (am_cokF [(15, some (.invokestatic 189), 0, 2, 0, 0)] rfl (List.forall_mem_cons.mpr ⟨Or.inr (Or.inr (Or.inr ⟨0, _, _, _, _, by decide, (ct_mhas l), lnX7_189⟩)), fun _ h => absurd h List.not_mem_nil⟩)) ?_
  intro as L σ post h
  obtain ⟨S, m, e, rfl, rfl, hm, hS, e1, e2, h⟩ := h
  refine ⟨by simp [am_lv0], fun WW hw => ?_⟩
  have loop : ∀ d i, d + i = m → WW 5 [some (.ref 0), some (.int (nI S)), some (.int (nI (sw_sm e S.testBit i))), some (.int (nI i))] [] LM σ := by
    intro d
    induction d with
    | zero =>
      intro i hi
      refine hw 60 _ _ _ _ _ ?_
      conv => whnf
      rw [e1]
      have c := nI_le' (a := m) (b := i) (by omega) (by omega)
      refine ⟨fun _ => ?_, fun q => absurd (c.2 (by omega)) q⟩
      conv => whnf
      have hi : i = m := by omega
      subst hi; exact h
    | succ d ih =>
      intro i hi
      have him : i < m := by omega
      have v1 : vp_in (nI i) 8 := vp_j (by omega) (by decide)
      have hcl : (nI i).toNatClampNeg = i := nI_cl (by omega)
      have hb := sw_bit_nat S hS i (by omega)
      have ih' := ih (i + 1) (by omega)
      rw [sw_sm, ← hb] at ih'
      refine hw 60 _ _ _ _ _ ?_
      conv => whnf
      rw [e1]
      have cm := nI_le' (a := m) (b := i) (by omega) (by omega)
      refine ⟨fun q => absurd (cm.1 q) (by omega), fun _ => ?_⟩
      conv => whnf
      refine ⟨nI S, i, rfl, ?_⟩
      cases hbit : sw_bit (nI S) i with
      | false =>
        rw [hbit, if_neg (by decide)] at ih'
        conv => whnf
        refine ⟨fun _ => ?_, fun c => absurd rfl c⟩
        conv => whnf
        rw [show nI (sw_sm e S.testBit i) + 0 = nI (sw_sm e S.testBit i + 0) from nI_add _ 0, nI_1]
        exact ih'
      | true =>
        rw [hbit, if_pos rfl] at ih'
        conv => whnf
        refine ⟨fun c => absurd c sw_t0, fun _ => ?_⟩
        repeat ((conv => whnf); refine And.intro ?_ ?_; first | with_reducible assumption | decide)
        conv => whnf
        rw [hcl, e2 i him, nI_add, nI_1]
        exact ih'
  refine hw 60 _ _ _ _ _ ?_
  conv => whnf
  exact loop m 0 (by omega)
def tr_mfindSpan : am_T := fun as L σ post => ∃ (j m : Nat) (e : Nat → Nat) (E : sw_E), as = [.ref 0, .int (nI j)] ∧ L = LM ∧ m ≤ 8 ∧ j < m ∧ σ 0 3 = nI m ∧ (∀ b, b < m → σ 2 b = nI (e b) ∧ e b ≤ 40) ∧ rmE σ 36 21 22 8 E ∧ okE E 8 (2 ^ m) 320 ∧ ∀ σ', fm [] [39, 40] σ σ' → σ' 0 39 = nI (sw_lst e m E j E.1) → σ' 0 40 = nI (sw_mst e E j E.1) → post none L σ'
set_option maxHeartbeats 1000000 in
theorem ct_mfindSpan (l : Launch) : am_Ct l 2 yX7_findSpan cX7_findSpan 4 none tr_mfindSpan := by
  refine am_ct tbX7_findSpan (am_G [tr_mhas, tr_meavesOf]) (by decide +kernel) (by simp) rfl dtX7_findSpan rfl ckX7_findSpan lkX7_findSpan (am_cokF [(32, some (.invokestatic 189), 0, 2, 0, 0), (57, some (.invokevirtual 325), 1, 2, 7, 0)] rfl (List.forall_mem_cons.mpr ⟨Or.inr (Or.inr (Or.inr ⟨0, _, _, _, _, by decide, (ct_mhas l), lnX7_189⟩)), List.forall_mem_cons.mpr ⟨⟨1, _, _, _, _, by decide, (ct_meavesOf l), lnX7_325⟩, fun _ h => absurd h List.not_mem_nil⟩⟩)) ?_
  intro as L σ post h
  obtain ⟨j, m, e, ⟨ln, w, v⟩, rfl, rfl, hm, hj, e1, he, ⟨g1, g2, g3⟩, ⟨hl8, hE⟩, h⟩ := h
  refine ⟨by simp [am_lv0], fun WW hw => ?_⟩
  dsimp only at g1 g2 g3 hl8 hE h
  have hp : 2 ^ m ≤ 256 := Nat.pow_le_pow_right (n := 2) (by decide) hm
  have ej := he j hj
  have loop : ∀ (kk i : Nat) (z : Int32) (σ1 : am_M), i + kk = ln → z = nI i → fm [] [39, 40] σ σ1 → σ1 0 39 = nI (sw_lst e m (ln, w, v) j i) → σ1 0 40 = nI (sw_mst e (ln, w, v) j i) → WW 12 [some (.ref 0), some (.int (nI j)), some (.int z)] [] LM σ1 := by
    intro kk
    induction kk with
    | zero =>
      intro i z σ1 hi hz hf k1 k2
      have ei : i = ln := by omega
      subst ei; subst hz
      refine hw 60 _ _ _ _ _ ?_
      conv => whnf
      rw [fm_k hf 36 rfl, g1]
      exact ⟨fun _ => h σ1 hf k1 k2, fun c => absurd (Int32.le_refl _) c⟩
    | succ kk ih =>
      intro i z σ1 hi hz hf q1 q2
      subst hz
      have hil : i < ln := by omega
      obtain ⟨j1, j2⟩ := g3 i hil
      obtain ⟨j3, j4⟩ := hE i hil
      have hin : vp_in (nI i) 8 := vp_j (by omega) (by decide)
      have hcl : (nI i).toNatClampNeg = i := nI_cl (by omega)
      have hb := sw_bit_nat (w i) (by omega) j (by omega)
      obtain ⟨k1, k2⟩ := sw_wo_mask (w i) (by omega) j (by omega)
      have hle := sw_lst_le (e := e) (m := m) (E := (ln, w, v)) (b := j) (B := 320) i (fun q hq => (hE q (by omega)).2)
      have hle2 := sw_mst_le (e := e) (E := (ln, w, v)) (b := j) i
      have hsl : sw_sm e (fun q => (w i).testBit q && !(q == j)) m ≤ m * 40 := sw_sm_le m (fun b hb => (he b hb).2)
      have ih' := fun σ2 => ih (i + 1) (nI i + 1) σ2 (by omega) (nI_1 i)
      rw [sw_lst, sw_mst] at ih'
      dsimp only at ih'
      have p1 : σ1 21 i = nI (w i) := by rw [fm_d hf 21 rfl (by decide)]; exact j1
      have p2 : σ1 22 i = nI (v i) := by rw [fm_d hf 22 rfl (by decide)]; exact j2
      refine hw 60 _ _ _ _ _ ?_
      conv => whnf
      rw [fm_k hf 36 rfl, g1]
      refine ⟨fun c => absurd c (nI_ge hil (by omega)), fun _ => ?_⟩
      repeat ((conv => whnf); refine And.intro ?_ ?_; first | with_reducible assumption | decide)
      conv => whnf
      rw [hcl, p1]
      refine ⟨nI (w i), j, rfl, ?_⟩
      cases hbit : sw_bit (nI (w i)) j with
      | false =>
        rw [if_neg (by rw [← hb, hbit]; decide), if_neg (by rw [← hb, hbit]; decide)] at ih'
        conv => whnf
        refine ⟨fun _ => ?_, fun c => absurd rfl c⟩
        conv => whnf
        exact ih' σ1 hf q1 q2
      | true =>
        rw [if_pos (by rw [← hb, hbit]), if_pos (by rw [← hb, hbit])] at ih'
        conv => whnf
        refine ⟨fun c => absurd c sw_t0, fun _ => ?_⟩
        repeat ((conv => whnf); refine And.intro ?_ ?_; first | with_reducible assumption | decide)
        conv => whnf
        rw [hcl, p1, p2, k1]
        refine ⟨sw_wo (w i) j, m, e, rfl, rfl, hm, by omega, (fm_k hf 3 rfl).trans e1, fun b hb => by rw [fm_d hf 2 rfl (by decide)]; exact (he b hb).1, ?_⟩
        have hmx := nI_maxs (a := sw_lst e m (ln, w, v) j i) (v := v i) (u := sw_sm e (fun q => (w i).testBit q && !(q == j)) m) (by omega) (by omega) (by omega)
        have hmn := nI_min (a := sw_mst e (ln, w, v) j i) (b := v i) (by omega) (by omega)
        have hle3 := nI_le' (a := sw_mst e (ln, w, v) j i) (b := v i) (by omega) (by omega)
        rw [sw_sm_wo hm]
        have fin : ∀ X Y : Int32, X = nI (max (sw_lst e m (ln, w, v) j i) (v i - sw_sm e (fun q => (w i).testBit q && !(q == j)) m)) → Y = nI (min (sw_mst e (ln, w, v) j i) (v i)) → WW 12 [some (.ref 0), some (.int (nI j)), some (.int (nI i + 1))] [] LM (am_w (am_w σ1 0 39 X) 0 40 Y) := by
          intro X Y hX hY
          refine ih' _ (fm_w0 (fm_w0 hf (by decide)) (by decide)) ?_ ?_
          · rw [aw_k _ _ _ _ _ (by decide), aw_s, hX]
          · rw [aw_s, hY]
        conv => whnf
        rw [q1]
        refine ⟨fun cc => ?_, fun cc => ?_⟩
        · rw [if_neg (Int32.not_lt.mpr cc)] at hmx
          repeat ((conv => whnf); refine And.intro ?_ ?_; first | with_reducible assumption | decide)
          conv => whnf
          rw [hcl, am_us, up_n _ _ _ _ (by decide), am_un _ _ _ _ (by decide), p2, q2, hle3]
          refine ⟨fun c2 => ?_, fun c2 => ?_⟩
          · repeat ((conv => whnf); refine And.intro ?_ ?_; first | with_reducible assumption | decide)
            conv => whnf
            refine fin _ _ (q1.trans hmx) ?_
            rw [am_us, up_n _ _ _ _ (by decide), q2, Nat.min_eq_left c2]
          · repeat ((conv => whnf); refine And.intro ?_ ?_; first | with_reducible assumption | decide)
            conv => whnf
            refine fin _ _ (q1.trans hmx) ?_
            rw [hcl, am_un _ _ _ _ (by decide), p2, Nat.min_eq_right (by omega)]
        · rw [if_pos (Int32.not_le.mp cc)] at hmx
          repeat ((conv => whnf); refine And.intro ?_ ?_; first | with_reducible assumption | decide)
          conv => whnf
          rw [hcl, am_us, up_n _ _ _ _ (by decide), am_un _ _ _ _ (by decide), p2, q2, hle3]
          refine ⟨fun c2 => ?_, fun c2 => ?_⟩
          · repeat ((conv => whnf); refine And.intro ?_ ?_; first | with_reducible assumption | decide)
            conv => whnf
            refine fin _ _ hmx ?_
            rw [am_us, up_n _ _ _ _ (by decide), q2, Nat.min_eq_left c2]
          · repeat ((conv => whnf); refine And.intro ?_ ?_; first | with_reducible assumption | decide)
            conv => whnf
            refine fin _ _ hmx ?_
            rw [hcl, am_un _ _ _ _ (by decide), p2, Nat.min_eq_right (by omega)]
  have hinj : vp_in (nI j) 8 := vp_j (by omega) (by decide)
  have hclj : (nI j).toNatClampNeg = j := nI_cl (by omega)
  refine hw 60 _ _ _ _ _ ?_
  repeat ((conv => whnf); refine And.intro ?_ ?_; first | with_reducible assumption | decide)
  conv => whnf
  refine loop ln 0 0 (am_w (am_w σ 0 39 0) 0 40 _) (Nat.zero_add _) rfl (fm_w0 (fm_w0 (fm_rf _ _ _) (by decide)) (by decide)) ?_ ?_
  · rw [aw_k _ _ _ _ _ (by decide), aw_s]; rfl
  · rw [aw_s, hclj, am_un _ _ _ _ (by decide), ej.1]; rfl
theorem ct_mspan (l : Launch) (A : sw_A) (hA : okA A) (b x : Int32) : am_Ct l 3 yX7_span cX7_span 3 (some .int) (trM [.ref 0, .int b, .int x] A (st_span A b x)) := by
  refine am_ct tbX7_span (am_G [tr_misBarn, tr_min, tr_mfindSpan]) (by decide +kernel) (by simp) rfl dtX7_span rfl ckX7_span lkX7_span (am_cokF [(2, some (.invokevirtual 184), 0, 2, 7, 0), (15, some (.invokestatic 99), 1, 3, 0, 0), (26, some (.invokevirtual 328), 2, 2, 7, 0)] rfl (List.forall_mem_cons.mpr ⟨⟨1, _, _, _, _, by decide, (ct_misBarn l), lnX7_184⟩, List.forall_mem_cons.mpr ⟨Or.inr (Or.inr (Or.inr ⟨0, _, _, _, _, by decide, (ct_min l), lnX7_99⟩)), List.forall_mem_cons.mpr ⟨⟨2, _, _, _, _, by decide, (ct_mfindSpan l), lnX7_328⟩, fun _ h => absurd h List.not_mem_nil⟩⟩⟩)) ?_
  intro as L σ post h
  obtain ⟨rfl, rfl, hR, h⟩ := h
  refine ⟨by simp [am_lv0], fun WW hw => hw 60 _ _ _ _ _ ?_⟩
  obtain ⟨T, ⟨cn, st, mn, m, c, e, k, R, rn⟩, F, sd, U, I, E1, E2, E3⟩ := A
  obtain ⟨hT, ⟨hL, d6, d7, d8, d9⟩, hF, hS, hU, hI, h1, h2, h3⟩ := id hR
  obtain ⟨-, -, ⟨hcn, hm, -, -, -, -, hB, -⟩, -, -, -, -, -, -, hE2, -⟩ := hA
  have he : ∀ b, b < m → σ 2 b = nI (e b) ∧ e b ≤ 40 := fun b hb => ⟨hL.2.2.2.1 b hb, (hB b hb).2.1⟩
  conv => whnf
  refine ⟨m, b, rfl, rfl, by omega, hL.1, ?_⟩
  cases hb : sw_ix b 0 m with
  | none =>
    simp only [st_span, hb] at h
    conv => whnf
    exact ⟨fun c => absurd rfl c, fun _ => h σ hR⟩
  | some j =>
    obtain ⟨-, hj, rfl⟩ := sw_ix_some hb
    conv => whnf
    refine ⟨fun _ => ?_, fun c => absurd c sw_t0⟩
    conv => whnf
    refine ⟨_, _, _, x.toInt, ((0 : Nat) : Int), 1, rfl, Int32.toInt_toInt64 x, rfl, rfl, ?_⟩
    rw [sw_isIx x 0 2 (hi := 1) rfl]
    cases hx : sw_ix x 0 2 with
    | none =>
      simp only [st_span, hb, hx] at h
      conv => whnf
      exact ⟨fun c => absurd rfl c, fun _ => h σ hR⟩
    | some v =>
      obtain ⟨-, hv, rfl⟩ := sw_ix_some hx
      simp only [st_span, hb, hx] at h
      have hle := sw_lst_le (e := e) (m := m) (E := E2) (b := j) (B := 320) E2.1 (fun q hq => (hE2.2 q (by omega)).2)
      have hle2 := sw_mst_le (e := e) (E := E2) (b := j) E2.1
      have hej := (he j hj).2
      have hv0 : nI v = 0 ↔ v = 0 := nI_eq' (b := 0) (by omega) (by decide)
      conv => whnf
      refine ⟨fun _ => ?_, fun c => absurd c sw_t0⟩
      conv => whnf
      refine ⟨j, m, e, E2, rfl, rfl, hm, hj, hL.1, he, h2, hE2, fun σ1 hf q1 q2 => ?_⟩
      have h := h σ1 (RM_junk hm (fm_tr (fm_rf _ _ _) hf (by decide) (by decide)) (fun p hp => by rw [fm_d hf 5 rfl (by decide)]) hR)
      conv => whnf
      rw [q1, q2, nI_le' (by omega) (by omega)]
      refine ⟨fun cc => ?_, fun cc => ?_⟩
      · rw [if_neg (by omega)] at h
        conv => whnf
        rw [hv0]
        refine ⟨fun c0 => ?_, fun c0 => ?_⟩
        · rw [if_neg c0] at h
          conv => whnf
          rw [q2]; exact h
        · rw [if_pos c0] at h
          conv => whnf
          rw [q1]; exact h
      · rw [if_pos (by omega)] at h
        exact h
theorem ct_muncounted (l : Launch) (A : sw_A) (hA : okA A) : am_Ct l 3 yX7_uncounted cX7_uncounted 3 (some .int) (trM [.ref 0] A (st_uncounted A)) := by
  refine am_ct tbX7_uncounted (am_G [tr_mfindSpan]) (by decide +kernel) (by simp) rfl dtX7_uncounted rfl ckX7_uncounted lkX7_uncounted (am_cokF [(14, some (.invokevirtual 328), 0, 2, 7, 0)] rfl (List.forall_mem_cons.mpr ⟨⟨2, _, _, _, _, by decide, (ct_mfindSpan l), lnX7_328⟩, fun _ h => absurd h List.not_mem_nil⟩)) ?_
  intro as L σ post h
  obtain ⟨rfl, rfl, hR, h⟩ := h
  refine ⟨by simp [am_lv0], fun WW hw => ?_⟩
  obtain ⟨T, ⟨cn, st, mn, m, c, e, k, R, rn⟩, F, sd, U, I, E1, E2, E3⟩ := A
  obtain ⟨hT, ⟨hL, d6, d7, d8, d9⟩, hF, hS, hU, hI, h1, h2, h3⟩ := id hR
  obtain ⟨-, -, ⟨hcn, hm, -, -, -, -, hB, -⟩, -, -, -, -, -, -, hE2, -⟩ := hA
  have he : ∀ b, b < m → σ 2 b = nI (e b) ∧ e b ≤ 40 := fun b hb => ⟨hL.2.2.2.1 b hb, (hB b hb).2.1⟩
  simp only [st_uncounted] at h
  have loop : ∀ d i, d + i = m → ∀ σ1, fm [] [39, 40] σ σ1 → WW 5 [some (.ref 0), some (.int (nI (sw_set (fun j => !(sw_lst e m E2 j E2.1 == sw_mst e E2 j E2.1)) i))), some (.int (nI i))] [] LM σ1 := by
    intro d
    induction d with
    | zero =>
      intro i hi σ1 hf
      refine hw 60 _ _ _ _ _ ?_
      conv => whnf
      rw [fm_k hf 3 rfl, hL.1]
      have c := nI_le' (a := m) (b := i) (by omega) (by omega)
      refine ⟨fun _ => ?_, fun q => absurd (c.2 (by omega)) q⟩
      conv => whnf
      have hi : i = m := by omega
      subst hi; exact h σ1 (RM_junk hm (fm_tr (fm_rf _ _ _) hf (by decide) (by decide)) (fun p hp => by rw [fm_d hf 5 rfl (by decide)]) hR)
    | succ d ih =>
      intro i hi σ1 hf
      have him : i < m := by omega
      have hle := sw_lst_le (e := e) (m := m) (E := E2) (b := i) (B := 320) E2.1 (fun q hq => (hE2.2 q (by omega)).2)
      have hle2 := sw_mst_le (e := e) (E := E2) (b := i) E2.1
      have hei := (he i him).2
      have ih' := ih (i + 1) (by omega)
      rw [sw_set] at ih'
      refine hw 60 _ _ _ _ _ ?_
      conv => whnf
      rw [fm_k hf 3 rfl, hL.1]
      have cm := nI_le' (a := m) (b := i) (by omega) (by omega)
      refine ⟨fun q => absurd (cm.1 q) (by omega), fun _ => ?_⟩
      conv => whnf
      refine ⟨i, m, e, E2, rfl, rfl, hm, him, (fm_k hf 3 rfl).trans hL.1, fun b hb => by rw [fm_d hf 2 rfl (by decide)]; exact he b hb, rmE_fr (fm_k hf 36 rfl) (fm_d hf 21 rfl (by decide)) (fm_d hf 22 rfl (by decide)) h2, hE2, fun σ2 hf2 q1 q2 => ?_⟩
      have ih' := ih' σ2 (fm_tr hf hf2 (by decide) (by decide))
      conv => whnf
      rw [q1, q2, nI_eq' (by omega) (by omega)]
      refine ⟨fun cc => ?_, fun cc => ?_⟩
      · rw [if_neg (by simpa using cc), Nat.add_zero] at ih'
        conv => whnf
        rw [Int32.or_zero, nI_1]
        exact ih'
      · rw [if_pos (by simpa using cc)] at ih'
        conv => whnf
        rw [sw_or_bit i (by omega) _ (sw_set_lt _ i), nI_1]
        exact ih'
  refine hw 60 _ _ _ _ _ ?_
  conv => whnf
  exact loop m 0 (by omega) σ (fm_rf _ _ _)
