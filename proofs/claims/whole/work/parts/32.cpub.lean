/-! THE CLASS: span, uncounted -/
def sw_wo (S j : Nat) : Nat := sw_set (fun q => S.testBit q && !(q == j)) 8
theorem sw_wo_mask : ∀ S, S < 256 → ∀ j, j < 8 → nI S &&& ((1 <<< (nI j &&& 31)) ^^^ -1) = nI (sw_wo S j) ∧ sw_wo S j ≤ S := by decide +kernel
theorem sw_sm_congr {f : Nat → Nat} {P Q : Nat → Bool} : ∀ n, (∀ b, b < n → P b = Q b) → sw_sm f P n = sw_sm f Q n
  | 0, _ => rfl
  | n + 1, h => by rw [sw_sm, sw_sm, sw_sm_congr n (fun b hb => h b (by omega)), h n (by omega)]
theorem sw_sm_le {f : Nat → Nat} {P : Nat → Bool} {B : Nat} : ∀ n, (∀ b, b < n → f b ≤ B) → sw_sm f P n ≤ n * B
  | 0, _ => Nat.zero_le _
  | n + 1, h => by
    have h1 := sw_sm_le (P := P) n (fun b hb => h b (by omega))
    have h2 := h n (by omega)
    rw [sw_sm, Nat.succ_mul]
    split <;> omega
theorem sw_sm_wo {e : Nat → Nat} {S j m : Nat} (hm : m ≤ 8) : sw_sm e (sw_wo S j).testBit m = sw_sm e (fun q => S.testBit q && !(q == j)) m := by
  refine sw_sm_congr m fun b hb => ?_
  rw [sw_wo, sw_set_bit]
  have : decide (b < 8) = true := by simp; omega
  rw [this, Bool.true_and]
theorem nI_maxs {a v u : Nat} (ha : a < 1000000) (hv : v < 1000000) (hu : u < 1000000) : (if nI a < nI v - nI u then nI v - nI u else nI a) = nI (max a (v - u)) := by
  have hlt : nI a < nI v - nI u ↔ (a : Int) < (v : Int) - u := by
    rw [Int32.lt_iff_toInt_lt, pk_sub_toInt (by omega) (by omega), nI_toInt (by omega)]
  by_cases h : (a : Int) < (v : Int) - u
  · rw [if_pos (hlt.mpr h), pk_sub (by omega), Nat.max_eq_right (by omega)]
  · rw [if_neg (fun q => h (hlt.mp q)), Nat.max_eq_left (by omega)]
theorem sw_lst_le {e : Nat → Nat} {m : Nat} {E : sw_E} {b B : Nat} : ∀ n, (∀ i, i < n → E.2.2 i ≤ B) → sw_lst e m E b n ≤ B
  | 0, _ => Nat.zero_le _
  | n + 1, h => by
    have h1 := sw_lst_le (e := e) (m := m) (E := E) (b := b) n (fun i hi => h i (by omega))
    have h2 := h n (by omega)
    rw [sw_lst]; split <;> omega
theorem sw_mst_le {e : Nat → Nat} {E : sw_E} {b : Nat} : ∀ n, sw_mst e E b n ≤ e b
  | 0 => Nat.le_refl _
  | n + 1 => by
    have h1 := sw_mst_le (e := e) (E := E) (b := b) n
    rw [sw_mst]; split <;> omega
def tr_leastIn : am_T := fun as L σ post => ∃ (j m : Nat) (e : Nat → Nat) (E : sw_E), as = [.ref 0, .int (nI j)] ∧ L = LC ∧ m ≤ 8 ∧ j < m ∧ (∀ b, b < m → σ 5 b = nI (e b) ∧ e b ≤ 40) ∧ sw_EC σ 36 37 38 8 E ∧ okE E 8 (2 ^ m) 320 ∧ post (some (.int (nI (sw_lst e m E j E.1)))) L σ
theorem ct_leastIn (l : Launch) : am_Ct l 1 yX6_leastIn cX6_leastIn 6 (some .int) tr_leastIn := by
  refine am_ct tbX6_leastIn (am_G [tr_sumOver]) (by decide +kernel) (by simp) rfl dtX6_leastIn rfl ckX6_leastIn lkX6_leastIn (am_cokF [(50, some (.invokestatic 137), 0, 2, 0, 0)] rfl (List.forall_mem_cons.mpr ⟨Or.inr (Or.inr (Or.inr ⟨0, _, _, _, _, by decide, (ct_sumOver l), lnX6_137⟩)), fun _ h => absurd h List.not_mem_nil⟩)) ?_
  intro as L σ post h
  obtain ⟨j, m, e, ⟨ln, w, v⟩, rfl, rfl, hm, hj, he, ⟨g0, g1, g2, g3⟩, ⟨hl8, hE⟩, h⟩ := h
  refine ⟨by simp [am_lv0], fun WW hw => ?_⟩
  dsimp only at g1 g2 g3 hl8 hE h
  have hp : 2 ^ m ≤ 256 := Nat.pow_le_pow_right (n := 2) (by decide) hm
  have loop : ∀ (kk i : Nat) (z u : Int32), i + kk = ln → z = nI i → u = nI (sw_lst e m (ln, w, v) j i) → WW 5 [some (.ref 0), some (.int (nI j)), some (.int u), some (.int z)] [] LC σ := by
    intro kk
    induction kk with
    | zero =>
      intro i z u hi hz hu
      have ei : i = ln := by omega
      subst ei; subst hz; subst hu
      refine hw 60 _ _ _ _ _ ?_
      conv => whnf
      rw [g1]
      exact ⟨fun _ => h, fun c => absurd (Int32.le_refl _) c⟩
    | succ kk ih =>
      intro i z u hi hz hu
      subst hz; subst hu
      have hil : i < ln := by omega
      obtain ⟨j1, j2⟩ := g3 i hil
      obtain ⟨j3, j4⟩ := hE i hil
      have hin : vp_in (nI i) 8 := vp_j (by omega) (by decide)
      have hcl : (nI i).toNatClampNeg = i := nI_cl (by omega)
      have hb := sw_bit_nat (w i) (by omega) j (by omega)
      obtain ⟨k1, k2⟩ := sw_wo_mask (w i) (by omega) j (by omega)
      have hle := sw_lst_le (e := e) (m := m) (E := (ln, w, v)) (b := j) (B := 320) i (fun q hq => (hE q (by omega)).2)
      have hsl : sw_sm e (fun q => (w i).testBit q && !(q == j)) m ≤ m * 40 := sw_sm_le m (fun b hb => (he b hb).2)
      have ih' := fun u => ih (i + 1) (nI i + 1) u (by omega) (nI_1 i)
      rw [sw_lst] at ih'
      dsimp only at ih'
      refine hw 60 _ _ _ _ _ ?_
      conv => whnf
      rw [g1]
      refine ⟨fun c => absurd c (nI_ge hil (by omega)), fun _ => ?_⟩
      repeat ((conv => whnf); refine And.intro ?_ ?_; first | with_reducible assumption | decide)
      conv => whnf
      rw [hcl, j1]
      refine ⟨fun cc => ?_, fun cc => ?_⟩
      · rw [if_neg (by rw [← hb, sw_bit_f cc]; decide)] at ih'
        exact ih' _ rfl
      · rw [if_pos (by rw [← hb]; exact sw_bit_t cc)] at ih'
        conv => whnf
        rw [k1]
        refine ⟨5, sw_wo (w i) j, m, e, rfl, rfl, by decide, hm, by omega, fun b hb => (he b hb).1, ?_⟩
        repeat ((conv => whnf); refine And.intro ?_ ?_; first | with_reducible assumption | decide)
        conv => whnf
        refine ih' _ ?_
        rw [hcl, j2, sw_sm_wo hm, nI_maxs (by omega) (by omega) (by omega)]
  refine hw 60 _ _ _ _ _ ?_
  conv => whnf
  exact loop ln 0 0 0 (Nat.zero_add _) rfl rfl
def tr_mostIn : am_T := fun as L σ post => ∃ (j m : Nat) (e : Nat → Nat) (E : sw_E), as = [.ref 0, .int (nI j)] ∧ L = LC ∧ m ≤ 8 ∧ j < m ∧ (∀ b, b < m → σ 5 b = nI (e b) ∧ e b ≤ 40) ∧ sw_EC σ 36 37 38 8 E ∧ okE E 8 (2 ^ m) 320 ∧ post (some (.int (nI (sw_mst e E j E.1)))) L σ
theorem ct_mostIn (l : Launch) : am_Ct l 1 yX6_mostIn cX6_mostIn 4 (some .int) tr_mostIn := by
  refine am_ct tbX6_mostIn (am_G []) (by decide +kernel) (by simp) rfl dtX6_mostIn rfl ckX6_mostIn lkX6_mostIn (am_nocalls rfl) ?_
  intro as L σ post h
  obtain ⟨j, m, e, ⟨ln, w, v⟩, rfl, rfl, hm, hj, he, ⟨g0, g1, g2, g3⟩, ⟨hl8, hE⟩, h⟩ := h
  refine ⟨by simp [am_lv0], fun WW hw => ?_⟩
  dsimp only at g1 g2 g3 hl8 hE h
  have hp : 2 ^ m ≤ 256 := Nat.pow_le_pow_right (n := 2) (by decide) hm
  have ej := he j hj
  have loop : ∀ (kk i : Nat) (z u : Int32), i + kk = ln → z = nI i → u = nI (sw_mst e (ln, w, v) j i) → WW 9 [some (.ref 0), some (.int (nI j)), some (.int u), some (.int z)] [] LC σ := by
    intro kk
    induction kk with
    | zero =>
      intro i z u hi hz hu
      have ei : i = ln := by omega
      subst ei; subst hz; subst hu
      refine hw 60 _ _ _ _ _ ?_
      conv => whnf
      rw [g1]
      exact ⟨fun _ => h, fun c => absurd (Int32.le_refl _) c⟩
    | succ kk ih =>
      intro i z u hi hz hu
      subst hz; subst hu
      have hil : i < ln := by omega
      obtain ⟨j1, j2⟩ := g3 i hil
      obtain ⟨j3, j4⟩ := hE i hil
      have hin : vp_in (nI i) 8 := vp_j (by omega) (by decide)
      have hcl : (nI i).toNatClampNeg = i := nI_cl (by omega)
      have hb := sw_bit_nat (w i) (by omega) j (by omega)
      have hle := sw_mst_le (e := e) (E := (ln, w, v)) (b := j) i
      have ih' := fun u => ih (i + 1) (nI i + 1) u (by omega) (nI_1 i)
      rw [sw_mst] at ih'
      dsimp only at ih'
      refine hw 60 _ _ _ _ _ ?_
      conv => whnf
      rw [g1]
      refine ⟨fun c => absurd c (nI_ge hil (by omega)), fun _ => ?_⟩
      repeat ((conv => whnf); refine And.intro ?_ ?_; first | with_reducible assumption | decide)
      conv => whnf
      rw [hcl, j1]
      refine ⟨fun cc => ?_, fun cc => ?_⟩
      · rw [if_neg (by rw [← hb, sw_bit_f cc]; decide)] at ih'
        exact ih' _ rfl
      · rw [if_pos (by rw [← hb]; exact sw_bit_t cc)] at ih'
        repeat ((conv => whnf); refine And.intro ?_ ?_; first | with_reducible assumption | decide)
        conv => whnf
        refine ih' _ ?_
        rw [hcl, j2, nI_min (by omega) (by omega)]
  have hinj : vp_in (nI j) 8 := vp_j (by omega) (by decide)
  refine hw 60 _ _ _ _ _ ?_
  repeat ((conv => whnf); refine And.intro ?_ ?_; first | with_reducible assumption | decide)
  conv => whnf
  exact loop ln 0 0 _ (Nat.zero_add _) rfl (by rw [nI_cl (by omega), ej.1]; rfl)
theorem ct_cspan (l : Launch) (A : sw_A) (hA : okA A) (b x : Int32) : am_Ct l 2 yX6_span cX6_span 5 (some .int) (trC [.ref 0, .int b, .int x] A (st_span A b x)) := by
  refine am_ct tbX6_span (am_G [tr_hasBarn, tr_leastIn, tr_mostIn]) (by decide +kernel) (by simp) rfl dtX6_span rfl ckX6_span lkX6_span (am_cokF [(5, some (.invokevirtual 151), 0, 2, 3, 0), (28, some (.invokevirtual 256), 1, 2, 6, 0), (34, some (.invokevirtual 259), 2, 2, 6, 0)] rfl (List.forall_mem_cons.mpr ⟨⟨0, _, _, _, _, by decide, (ct_hasBarn l), lnX6_151⟩, List.forall_mem_cons.mpr ⟨⟨1, _, _, _, _, by decide, (ct_leastIn l), lnX6_256⟩, List.forall_mem_cons.mpr ⟨⟨1, _, _, _, _, by decide, (ct_mostIn l), lnX6_259⟩, fun _ h => absurd h List.not_mem_nil⟩⟩⟩)) ?_
  intro as L σ post h
  obtain ⟨rfl, rfl, hR, h⟩ := h
  refine ⟨by simp [am_lv0], fun WW hw => hw 60 _ _ _ _ _ ?_⟩
  obtain ⟨T, ⟨cn, st, mn, m, c, e, k, R, rn⟩, F, sd, U, I, E1, E2, E3⟩ := A
  obtain ⟨hT, ⟨hL, d6, d7, d8⟩, hF, hS, hU, hI, h1, h2, h3⟩ := id hR
  obtain ⟨-, -, ⟨hcn, hm, -, -, -, -, hB, -⟩, -, -, -, -, -, -, hE2, -⟩ := hA
  have c1 : x < 0 ↔ x.toInt < 0 := sw_xlt 0 (by decide)
  have c9 : x ≤ 1 ↔ x.toInt ≤ 1 := sw_xle 1 (by decide)
  conv => whnf
  refine ⟨b, m, rfl, rfl, hm, hL.1, ?_⟩
  cases hb : sw_ix b 0 m with
  | none =>
    simp only [st_span, hb] at h
    conv => whnf
    exact ⟨fun c => absurd rfl c, fun _ => h σ hR⟩
  | some j =>
    obtain ⟨-, hj, rfl⟩ := sw_ix_some hb
    simp only [st_span, hb] at h
    conv => whnf
    refine ⟨fun _ => ?_, fun c => absurd c sw_t0⟩
    cases hx : sw_ix x 0 2 with
    | none =>
      have hn := sw_ix_none hx
      simp only [hx] at h
      conv => whnf
      rw [c1]
      refine ⟨fun c => h σ hR, fun c => ?_⟩
      conv => whnf
      rw [c9]
      exact ⟨fun c => by omega, fun c => h σ hR⟩
    | some v =>
      obtain ⟨-, hv, rfl⟩ := sw_ix_some hx
      simp only [hx] at h
      have h := h σ hR
      rw [nI_toInt (by omega)] at c1 c9
      have l1 := sw_lst_le (e := e) (m := m) (E := E2) (b := j) (B := 320) E2.1 (fun q hq => (hE2.2 q hq).2)
      have l2 := sw_mst_le (e := e) (E := E2) (b := j) E2.1
      have ej := (hB j hj).2.1
      conv => whnf
      rw [c1]
      refine ⟨fun c => by omega, fun c => ?_⟩
      conv => whnf
      rw [c9]
      refine ⟨fun c => ?_, fun c => by omega⟩
      conv => whnf
      refine ⟨j, m, e, E2, rfl, rfl, hm, hj, fun b hb => ⟨hL.2.2.2.1 b hb, (hB b hb).2.1⟩, h2, hE2, ?_⟩
      conv => whnf
      refine ⟨j, m, e, E2, rfl, rfl, hm, hj, fun b hb => ⟨hL.2.2.2.1 b hb, (hB b hb).2.1⟩, h2, hE2, ?_⟩
      conv => whnf
      rw [nI_le' (by omega) (by omega)]
      refine ⟨fun cc => ?_, fun cc => ?_⟩
      · rw [if_neg (by omega)] at h
        conv => whnf
        have hv0 : nI v = 0 ↔ v = 0 := nI_eq' (b := 0) (by omega) (by decide)
        rw [hv0]
        refine ⟨fun cv => ?_, fun cv => ?_⟩
        · rw [if_neg cv] at h; exact h
        · rw [if_pos cv] at h; exact h
      · rw [if_pos (by omega)] at h
        exact h
theorem ct_cuncounted (l : Launch) (A : sw_A) (hA : okA A) : am_Ct l 2 yX6_uncounted cX6_uncounted 3 (some .int) (trC [.ref 0] A (st_uncounted A)) := by
  refine am_ct tbX6_uncounted (am_G [tr_leastIn, tr_mostIn]) (by decide +kernel) (by simp) rfl dtX6_uncounted rfl ckX6_uncounted lkX6_uncounted (am_cokF [(17, some (.invokevirtual 256), 0, 2, 6, 0), (22, some (.invokevirtual 259), 1, 2, 6, 0)] rfl (List.forall_mem_cons.mpr ⟨⟨1, _, _, _, _, by decide, (ct_leastIn l), lnX6_256⟩, List.forall_mem_cons.mpr ⟨⟨1, _, _, _, _, by decide, (ct_mostIn l), lnX6_259⟩, fun _ h => absurd h List.not_mem_nil⟩⟩)) ?_
  intro as L σ post h
  obtain ⟨rfl, rfl, hR, h⟩ := h
  refine ⟨by simp [am_lv0], fun WW hw => ?_⟩
  obtain ⟨T, ⟨cn, st, mn, m, c, e, k, R, rn⟩, F, sd, U, I, E1, E2, E3⟩ := A
  obtain ⟨hT, ⟨hL, d6, d7, d8⟩, hF, hS, hU, hI, h1, h2, h3⟩ := id hR
  obtain ⟨-, -, ⟨hcn, hm, -, -, -, -, hB, -⟩, -, -, -, -, -, -, hE2, -⟩ := hA
  simp only [st_uncounted] at h
  have loop : ∀ (kk i : Nat) (z u : Int32), i + kk = m → z = nI i → u = nI (sw_set (fun j => !(sw_lst e m E2 j E2.1 == sw_mst e E2 j E2.1)) i) → WW 5 [some (.ref 0), some (.int u), some (.int z)] [] LC σ := by
    intro kk
    induction kk with
    | zero =>
      intro i z u hi hz hu
      have ei : i = m := by omega
      subst ei; subst hz; subst hu
      refine hw 60 _ _ _ _ _ ?_
      conv => whnf
      rw [hL.1]
      exact ⟨fun _ => h σ hR, fun c => absurd (Int32.le_refl _) c⟩
    | succ kk ih =>
      intro i z u hi hz hu
      subst hz; subst hu
      have him : i < m := by omega
      have l1 := sw_lst_le (e := e) (m := m) (E := E2) (b := i) (B := 320) E2.1 (fun q hq => (hE2.2 q hq).2)
      have l2 := sw_mst_le (e := e) (E := E2) (b := i) E2.1
      have ej := (hB i him).2.1
      have ih' := fun u => ih (i + 1) (nI i + 1) u (by omega) (nI_1 i)
      rw [sw_set] at ih'
      refine hw 60 _ _ _ _ _ ?_
      conv => whnf
      rw [hL.1]
      refine ⟨fun c => absurd c (nI_ge him (by omega)), fun _ => ?_⟩
      conv => whnf
      refine ⟨i, m, e, E2, rfl, rfl, hm, him, fun b hb => ⟨hL.2.2.2.1 b hb, (hB b hb).2.1⟩, h2, hE2, ?_⟩
      conv => whnf
      refine ⟨i, m, e, E2, rfl, rfl, hm, him, fun b hb => ⟨hL.2.2.2.1 b hb, (hB b hb).2.1⟩, h2, hE2, ?_⟩
      conv => whnf
      rw [nI_eq' (by omega) (by omega)]
      refine ⟨fun cc => ?_, fun cc => ?_⟩
      · conv => whnf
        refine ih' _ ?_
        rw [if_neg (by simpa using cc), Nat.add_zero]
      · conv => whnf
        refine ih' _ ?_
        rw [sw_or_bit i (by omega) _ (sw_set_lt _ _), if_pos (by simpa using cc)]
  refine hw 60 _ _ _ _ _ ?_
  conv => whnf
  exact loop m 0 0 0 (Nat.zero_add _) rfl rfl
