/-! THE CLASS: leave -/
def sw_pc (S : Nat) : Nat := sw_sm (fun _ => 1) S.testBit 8
def sw_lvF (F : sw_F) (own set : Nat) : sw_F := (F.1, F.2.1, F.2.2.1, (F.2.2.2.1 &&& (nI own ^^^ -1)) ||| (nI own &&& (nI set ^^^ -1)), F.2.2.2.2)
def sw_srv (D : sw_D) (F : sw_F) (q set s h : Nat) : Bool := match D with
  | (cn, st, mn, m, c, e, k, R, rn) => decide (s ≤ sw_cs (sw_yr m cn c e k (rn (F.2.2.2.2.2 % R)) (sw_lvF F (sw_own m c q) set)).1 c q m / st) && decide (sw_cs (sw_yr m cn c e k (rn (F.2.2.2.2.2 % R)) (sw_lvF F (sw_own m c q) set)).1 c q m / mn ≤ h)
def sw_sub (n own : Nat) : Bool := nI n &&& (nI own ^^^ -1) == 0
def sw_more (o : Option Nat) (n : Nat) : Bool := match o with
  | none => true
  | some b => decide (sw_pc b < sw_pc n)
def sw_lv (D : sw_D) (F : sw_F) (q s h : Nat) : Nat → Option Nat
  | 0 => none
  | n + 1 => if (sw_sub n (sw_own D.2.2.2.1 D.2.2.2.2.1 q) && sw_more (sw_lv D F q s h n) n) && sw_srv D F q n s h then some n else sw_lv D F q s h n
def st_leave (A : sw_A) (x y z : Int32) : Int32 × sw_A := match A with
  | (_, D, F, _) => match sw_ix x 0 D.1 with
    | none => (-1000000001, A)
    | some q => match sw_ix y 0 100, sw_ix z 0 100 with
      | some s, some h => (sw_on (sw_lv D F q s h (sw_own D.2.2.2.1 D.2.2.2.2.1 q + 1)), A)
      | _, _ => (-1000000002, A)
theorem sw_lv_lt {D : sw_D} {F : sw_F} {q s h : Nat} : ∀ n b, sw_lv D F q s h n = some b → b < n
  | 0, b, e => by cases e
  | n + 1, b, e => by
    rw [sw_lv] at e
    split at e
    · cases e; omega
    · have := sw_lv_lt n b e; omega
def sw_bce (x : Int32) : Int32 :=
  let a := x - ((x.toUInt32 >>> ((1 : Int32).toUInt32 &&& Int32.toUInt32 31)).toInt32 &&& 1431655765)
  let b := (a &&& 858993459) + ((a.toUInt32 >>> ((2 : Int32).toUInt32 &&& Int32.toUInt32 31)).toInt32 &&& 858993459)
  let c := b + (b.toUInt32 >>> ((4 : Int32).toUInt32 &&& Int32.toUInt32 31)).toInt32 &&& 252645135
  let d := c + (c.toUInt32 >>> ((8 : Int32).toUInt32 &&& Int32.toUInt32 31)).toInt32
  let e := d + (d.toUInt32 >>> ((16 : Int32).toUInt32 &&& Int32.toUInt32 31)).toInt32
  e &&& 63
theorem sw_bce_pc : ∀ S, S < 256 → sw_bce (nI S) = nI (sw_pc S) := by decide +kernel
theorem sw_pc_le : ∀ S, S < 256 → sw_pc S ≤ 8 := by decide +kernel
def tr_bitCount : am_T := fun as L σ post => ∃ S, as = [.int (nI S)] ∧ S < 256 ∧ post (some (.int (nI (sw_pc S)))) L σ
theorem ct_bitCount (l : Launch) : am_Ct l 0 yJ6_bitCount_0f7a4 cJ6_bitCount_0f7a4 1 (some .int) tr_bitCount := by
  refine am_ct tbJ6_bitCount_0f7a4 (am_G []) (by decide +kernel) (by simp) rfl dtJ6_bitCount_0f7a4 rfl ckJ6_bitCount_0f7a4 lkJ6_bitCount_0f7a4 (am_nocalls rfl) ?_
  intro as L σ post h
  obtain ⟨S, rfl, hS, h⟩ := h
  refine ⟨by simp [am_lv0], fun WW hw => hw 60 _ _ _ _ _ ?_⟩
  rw [← sw_bce_pc S hS] at h
  conv => whnf
  exact h
def tr_leavingServes : am_T := fun as L σ post => ∃ (cn st mn m : Nat) (c e k : Nat → Nat) (R : Nat) (rn : Nat → Nat) (F : sw_F) (q set s h : Nat), as = [.ref 0, .int (nI q), .int (nI set), .int (nI s), .int (nI h)] ∧ L = LC ∧ rcD (cn, st, mn, m, c, e, k, R, rn) σ ∧ okD (cn, st, mn, m, c, e, k, R, rn) ∧ sw_FC σ 17 18 19 20 m F ∧ okF m e F ∧ q < cn ∧ s < 1000 ∧ h < 1000 ∧ ∀ σ', am_fr [22, 23, 24, 25, 26] σ σ' → post (some (.int (sw_b2 (sw_srv (cn, st, mn, m, c, e, k, R, rn) F q set s h)))) L σ'
theorem ct_leavingServes (l : Launch) : am_Ct l 3 yX6_leavingServes cX6_leavingServes 6 (some .boolean) tr_leavingServes := by
  refine am_ct tbX6_leavingServes (am_G [tr_barnsOf, tr_copyFrom, tr_passTrial, tr_trialSeats, tr_soulsOf, tr_menFor]) (by decide +kernel) (by simp) rfl dtX6_leavingServes rfl ckX6_leavingServes lkX6_leavingServes (am_cokF [(5, some (.invokevirtual 220), 0, 2, 3, 0), (18, some (.invokevirtual 204), 1, 2, 1, 0), (48, some (.invokevirtual 207), 2, 1, 6, 0), (53, some (.invokevirtual 281), 3, 2, 6, 0), (70, some (.invokevirtual 210), 4, 3, 6, 0), (73, some (.invokevirtual 217), 5, 2, 3, 0)] rfl (List.forall_mem_cons.mpr ⟨⟨0, _, _, _, _, by decide, (ct_barnsOf l), lnX6_220⟩, List.forall_mem_cons.mpr ⟨⟨0, _, _, _, _, by decide, (ct_copyFrom l), lnX6_204⟩, List.forall_mem_cons.mpr ⟨⟨2, _, _, _, _, by decide, (ct_passTrial l), lnX6_207⟩, List.forall_mem_cons.mpr ⟨⟨2, _, _, _, _, by decide, (ct_trialSeats l), lnX6_281⟩, List.forall_mem_cons.mpr ⟨⟨1, _, _, _, _, by decide, (ct_soulsOf l), lnX6_210⟩, List.forall_mem_cons.mpr ⟨⟨0, _, _, _, _, by decide, (ct_menFor l), lnX6_217⟩, fun _ h => absurd h List.not_mem_nil⟩⟩⟩⟩⟩⟩)) ?_
  intro as L σ post h
  obtain ⟨cn, st, mn, m, c, e, k, R, rn, F, q, set, s, hh, rfl, rfl, ⟨hL, d6, d7, d8⟩, ⟨hcn, hm, -, hpos, hst, hmn, hB, hR0, hR8, hrn⟩, hF, ⟨hFk, hy⟩, hq, hs, hhh, h⟩ := h
  refine ⟨by simp [am_lv0], fun WW hw => hw 60 _ _ _ _ _ ?_⟩
  have he : ∀ b, b < m → e b ≤ 40 := fun b hb => (hB b hb).2.1
  have hcc : ∀ b, b < m → σ 4 b = nI (c b) ∧ c b < 1000 := fun b hb => ⟨hL.2.2.1 b hb, by have := (hB b hb).1; omega⟩
  have hp := hpos (by omega)
  conv => whnf
  refine ⟨q, m, c, rfl, rfl, hm, by omega, hL.1, hcc, ?_⟩
  conv => whnf
  refine ⟨m, F, rfl, rfl, hm, hF, fun σ1 hf1 hF1 => ?_⟩
  conv => whnf
  rw [hF1.2.2.2.1]
  generalize hs2 : am_up σ1 22 (upd (σ1 22) 4 (F.2.2.2.1 &&& (nI (sw_own m c q) ^^^ -1) ||| nI (sw_own m c q) &&& (nI set ^^^ -1))) = σ2
  have hf2 : am_fr [22, 23, 24, 25] σ σ2 := by rw [← hs2]; exact am_fr_up _ (am_fr_tr (am_fr_rf _ _) hf1 (by decide)) (by decide)
  have hF2 : sw_FC σ2 22 23 24 25 m (sw_lvF F (sw_own m c q) set) := by
    obtain ⟨g1, g2, g3, g4, g5, g6⟩ := hF1
    rw [← hs2]
    refine ⟨fun j hj => ?_, fun j hj => ?_, fun j hj => ?_, ?_, ?_, ?_⟩
    · rw [am_un _ _ _ _ (by decide)]; exact g1 j hj
    · rw [am_un _ _ _ _ (by decide)]; exact g2 j hj
    · rw [am_un _ _ _ _ (by decide)]; exact g3 j hj
    · rw [am_us, up_s]; rfl
    · rw [am_us, up_n _ _ _ _ (by decide)]; exact g5
    · rw [am_us, up_n _ _ _ _ (by decide)]; exact g6
  refine ⟨m, cn, c, e, k, R, rn, sw_lvF F (sw_own m c q) set, rfl, rfl, ?_, ⟨hm, hcn, hB⟩, ?_, hR0, hR8, hrn, hF2, ?_, ?_, fun σ3 hf3 hF3 => ?_⟩
  · unfold sw_LC at hL ⊢; rw [am_frd hf2 3 rfl, am_frd hf2 4 rfl, am_frd hf2 5 rfl, am_frd hf2 8 rfl]; exact hL
  · unfold rcR at d8 ⊢; rw [am_frd hf2 3 rfl, am_frd hf2 9 rfl]; exact d8
  · exact fun b hb => ⟨(hFk b hb).1, by have := hFk b hb; have := he b hb; show F.2.1 b ≤ 40; omega, by have := (hFk b hb).2.2; show F.2.2.1 b < 100; omega⟩
  · show F.2.2.2.2.2 < 100000; omega
  · have hfa : am_fr [22, 23, 24, 25, 26] σ σ3 := am_fr_tr (am_fr_tr (am_fr_rf _ _) hf2 (by decide)) hf3 (by decide)
    have hok := sw_yr_ok (cn := cn) (c := c) (k := k) (F := sw_lvF F (sw_own m c q) set) (hrn _ (Nat.mod_lt (F.2.2.2.2.2) hR0)) he (fun b hb => hFk b hb)
    have g3 := am_frd hfa 3 rfl
    have g4 := am_frd hfa 4 rfl
    have h := h σ3 hfa
    have hsr : sw_srv (cn, st, mn, m, c, e, k, R, rn) F q set s hh = (decide (s ≤ sw_cs (sw_yr m cn c e k (rn (F.2.2.2.2.2 % R)) (sw_lvF F (sw_own m c q) set)).1 c q m / st) && decide (sw_cs (sw_yr m cn c e k (rn (F.2.2.2.2.2 % R)) (sw_lvF F (sw_own m c q) set)).1 c q m / mn ≤ hh)) := rfl
    have hF3' : sw_FC σ3 22 23 24 25 m (sw_yr m cn c e k (rn (F.2.2.2.2.2 % R)) (sw_lvF F (sw_own m c q) set)) := hF3
    generalize sw_yr m cn c e k (rn (F.2.2.2.2.2 % R)) (sw_lvF F (sw_own m c q) set) = G at hok hsr hF3'
    have hV : sw_cs G.1 c q m ≤ m * 40 := sw_cs_le m (fun b hb => by have := (hok b hb).1; have := he b hb; omega)
    have hd1 : sw_cs G.1 c q m / st ≤ sw_cs G.1 c q m := Nat.div_le_self _ _
    have hd2 : sw_cs G.1 c q m / mn ≤ sw_cs G.1 c q m := Nat.div_le_self _ _
    conv => whnf
    refine ⟨q, m, st, c, G.1, rfl, rfl, by omega, hm, hp.1, by omega, by rw [g3]; exact hL.1, by rw [g3]; exact d6, by rw [g4]; exact hcc, fun b hb => ⟨hF3'.1 b hb, by have := (hok b hb).1; have := he b hb; omega⟩, ?_⟩
    conv => whnf
    rw [nI_lt' (by omega) (by omega)]
    refine ⟨fun c1 => ?_, fun c1 => ?_⟩
    · conv => whnf
      rw [hsr, show decide (s ≤ sw_cs G.1 c q m / st) = false by simp; omega, Bool.false_and] at h
      exact ⟨Or.inl rfl, h⟩
    · rw [hsr, show decide (s ≤ sw_cs G.1 c q m / st) = true by simp; omega, Bool.true_and] at h
      conv => whnf
      refine ⟨22, 23, q, m, c, G.1, rfl, rfl, by decide, by omega, hm, by rw [g3]; exact hL.1, by rw [g4]; exact hcc, hF3'.1, ?_⟩
      conv => whnf
      refine ⟨_, mn, rfl, rfl, by omega, hp.2, by omega, by rw [g3]; exact d7, ?_⟩
      conv => whnf
      rw [nI_lt' (by omega) (by omega)]
      refine ⟨fun c2 => ?_, fun c2 => ?_⟩
      · conv => whnf
        rw [show decide (sw_cs G.1 c q m / mn ≤ hh) = false by simp; omega] at h
        exact ⟨Or.inl rfl, h⟩
      · conv => whnf
        rw [show decide (sw_cs G.1 c q m / mn ≤ hh) = true by simp; omega] at h
        exact ⟨Or.inr rfl, h⟩
set_option maxHeartbeats 2000000 in
theorem ct_cleave (l : Launch) (A : sw_A) (hA : okA A) (x y z : Int32) : am_Ct l 4 yX6_leave cX6_leave 9 (some .int) (trC [.ref 0, .int x, .int y, .int z] A (st_leave A x y z)) := by
  refine am_ct tbX6_leave (am_G [tr_hasCounty, tr_barnsOf, tr_bitCount, tr_leavingServes]) (by decide +kernel) (by simp) rfl dtX6_leave rfl ckX6_leave lkX6_leave (am_cokF [(5, some (.invokevirtual 201), 0, 2, 3, 0), (42, some (.invokevirtual 220), 1, 2, 3, 0), (85, some (.invokestatic 223), 2, 1, 0, 0), (90, some (.invokestatic 223), 2, 1, 0, 0), (119, some (.invokevirtual 228), 3, 5, 6, 0)] rfl (List.forall_mem_cons.mpr ⟨⟨0, _, _, _, _, by decide, (ct_hasCounty l), lnX6_201⟩, List.forall_mem_cons.mpr ⟨⟨0, _, _, _, _, by decide, (ct_barnsOf l), lnX6_220⟩, List.forall_mem_cons.mpr ⟨Or.inr (Or.inr (Or.inr ⟨0, _, _, _, _, by decide, (ct_bitCount l), lnX6_223⟩)), List.forall_mem_cons.mpr ⟨Or.inr (Or.inr (Or.inr ⟨0, _, _, _, _, by decide, (ct_bitCount l), lnX6_223⟩)), List.forall_mem_cons.mpr ⟨⟨3, _, _, _, _, by decide, (ct_leavingServes l), lnX6_228⟩, fun _ h => absurd h List.not_mem_nil⟩⟩⟩⟩⟩)) ?_
  intro as L σ post h
  obtain ⟨rfl, rfl, hR, h⟩ := h
  refine ⟨by simp [am_lv0], fun WW hw => ?_⟩
  obtain ⟨T, ⟨cn, st, mn, m, c, e, k, R, rn⟩, F, sd, U, I, E1, E2, E3⟩ := A
  obtain ⟨hT, hD, hF, -⟩ := id hR
  obtain ⟨-, -, hokD, hokF, -⟩ := hA
  have hL := hD.1
  obtain ⟨hcn, hm, -, -, -, -, hB, -⟩ := id hokD
  have hcc : ∀ b, b < m → σ 4 b = nI (c b) ∧ c b < 1000 := fun b hb => ⟨hL.2.2.1 b hb, by have := (hB b hb).1; omega⟩
  have c0 : y < 0 ↔ y.toInt < 0 := sw_xlt 0 (by decide)
  have c99 : 99 < y ↔ 99 < y.toInt := sw_ltx 99 (by decide)
  have z0 : z < 0 ↔ z.toInt < 0 := sw_xlt 0 (by decide)
  have z99 : z ≤ 99 ↔ z.toInt ≤ 99 := sw_xle 99 (by decide)
  cases hx : sw_ix x 0 cn with
  | none =>
    refine hw 60 _ _ _ _ _ ?_
    conv => whnf
    refine ⟨x, cn, rfl, rfl, by omega, hL.2.1, ?_⟩
    simp only [st_leave, hx] at h
    rw [hx]
    conv => whnf
    exact ⟨fun c => absurd rfl c, fun _ => h σ hR⟩
  | some q =>
    obtain ⟨-, hq, rfl⟩ := sw_ix_some hx
    cases hyx : sw_ix y 0 100 with
    | none =>
      have hn := sw_ix_none hyx
      simp only [st_leave, hx, hyx] at h
      refine hw 60 _ _ _ _ _ ?_
      conv => whnf
      refine ⟨nI q, cn, rfl, rfl, by omega, hL.2.1, ?_⟩
      rw [hx]
      conv => whnf
      refine ⟨fun _ => ?_, fun c => absurd c sw_t0⟩
      conv => whnf
      rw [c0]
      refine ⟨fun _ => h σ hR, fun c => ?_⟩
      conv => whnf
      rw [c99]
      exact ⟨fun _ => h σ hR, fun c => by omega⟩
    | some s =>
      obtain ⟨-, hs, rfl⟩ := sw_ix_some hyx
      rw [nI_toInt (by omega)] at c0 c99
      cases hzx : sw_ix z 0 100 with
      | none =>
        have hz := sw_ix_none hzx
        simp only [st_leave, hx, hyx, hzx] at h
        refine hw 60 _ _ _ _ _ ?_
        conv => whnf
        refine ⟨nI q, cn, rfl, rfl, by omega, hL.2.1, ?_⟩
        rw [hx]
        conv => whnf
        refine ⟨fun _ => ?_, fun c => absurd c sw_t0⟩
        conv => whnf
        rw [c0]
        refine ⟨fun c => by omega, fun c => ?_⟩
        conv => whnf
        rw [c99]
        refine ⟨fun c => by omega, fun c => ?_⟩
        conv => whnf
        rw [z0]
        refine ⟨fun _ => h σ hR, fun c => ?_⟩
        conv => whnf
        rw [z99]
        exact ⟨fun c => by omega, fun _ => h σ hR⟩
      | some hh =>
        obtain ⟨-, hw3, rfl⟩ := sw_ix_some hzx
        rw [nI_toInt (by omega)] at z0 z99
        simp only [st_leave, hx, hyx, hzx] at h
        have hown : sw_own m c q < 256 := Nat.lt_of_lt_of_le (sw_set_lt _ _) (Nat.pow_le_pow_right (n := 2) (by decide) hm)
        generalize hO : sw_own m c q = O at hown h
        have loop : ∀ (kk i : Nat) (u v : Int32) (σ1 : am_M), i + kk = O + 1 → u = nI i → v = sw_on (sw_lv (cn, st, mn, m, c, e, k, R, rn) F q s hh i) → am_fr [22, 23, 24, 25, 26] σ σ1 → WW 29 [some (.ref 0), some (.int (nI q)), some (.int (nI s)), some (.int (nI hh)), some (.int (nI O)), some (.int v), some (.int u)] [] LC σ1 := by
          intro kk
          induction kk with
          | zero =>
            intro i u v σ1 hi hu hv hf
            have ei : i = O + 1 := by omega
            subst ei; subst hu; subst hv
            refine hw 60 _ _ _ _ _ ?_
            conv => whnf
            exact ⟨fun _ => h σ1 (RC_junk (am_fr_tr (am_fr_rf _ _) hf (by decide)) hR), fun c => absurd (nI_lt (by omega) (by omega)) c⟩
          | succ kk ih =>
            intro i u v σ1 hi hu hv hf
            subst hu; subst hv
            have ih' := fun v σ2 => ih (i + 1) (nI i + 1) v σ2 (by omega) (nI_1 i)
            rw [sw_lv] at ih'
            dsimp only at ih'
            rw [hO] at ih'
            have hlv : ∀ b, sw_lv (cn, st, mn, m, c, e, k, R, rn) F q s hh i = some b → b < i := fun b hb => sw_lv_lt i b hb
            generalize sw_lv (cn, st, mn, m, c, e, k, R, rn) F q s hh i = o at ih' hlv
            have pci := sw_pc_le i (by omega)
            have M2 : ∀ (a b : Bool), a = sw_sub i O → b = sw_more o i → WW 55 [some (.ref 0), some (.int (nI q)), some (.int (nI s)), some (.int (nI hh)), some (.int (nI O)), some (.int (sw_on o)), some (.int (nI i)), some (.int (sw_b2 a))] [.int (sw_b2 b)] LC σ1 := by
              intro a b ha hb
              subst ha; subst hb
              refine hw 60 _ _ _ _ _ ?_
              cases hsb : sw_sub i O with
              | false =>
                rw [hsb] at ih'
                conv => whnf
                refine ⟨fun _ => ?_, fun c => absurd rfl c⟩
                conv => whnf
                exact ih' _ σ1 (by rw [Bool.false_and, Bool.false_and, if_neg (by decide)]) hf
              | true =>
                rw [hsb] at ih'
                conv => whnf
                refine ⟨fun c => absurd c (by decide), fun _ => ?_⟩
                cases hmo : sw_more o i with
                | false =>
                  rw [hmo] at ih'
                  conv => whnf
                  refine ⟨fun _ => ?_, fun c => absurd rfl c⟩
                  conv => whnf
                  exact ih' _ σ1 (by rw [Bool.true_and, Bool.false_and, if_neg (by decide)]) hf
                | true =>
                  rw [hmo] at ih'
                  conv => whnf
                  refine ⟨fun c => absurd c (by decide), fun _ => ?_⟩
                  conv => whnf
                  refine ⟨cn, st, mn, m, c, e, k, R, rn, F, q, i, s, hh, rfl, rfl, rcD_fr (am_frd hf 3 rfl) (am_frd hf 4 rfl) (am_frd hf 5 rfl) (am_frd hf 8 rfl) (am_frd hf 9 rfl) hD, hokD, sw_FC_fr (am_frd hf 17 rfl) (am_frd hf 18 rfl) (am_frd hf 19 rfl) (am_frd hf 20 rfl) hF, hokF, hq, by omega, by omega, fun σ2 hf2 => ?_⟩
                  cases hsv : sw_srv (cn, st, mn, m, c, e, k, R, rn) F q i s hh with
                  | false =>
                    rw [hsv] at ih'
                    conv => whnf
                    refine ⟨fun _ => ?_, fun c => absurd rfl c⟩
                    conv => whnf
                    exact ih' _ σ2 (by rw [Bool.true_and, Bool.true_and, if_neg (by decide)]) (am_fr_tr hf hf2 (by decide))
                  | true =>
                    rw [hsv] at ih'
                    conv => whnf
                    refine ⟨fun c => absurd c (by decide), fun _ => ?_⟩
                    conv => whnf
                    exact ih' _ σ2 (by rw [Bool.true_and, Bool.true_and, if_pos rfl]; rfl) (am_fr_tr hf hf2 (by decide))
            have M1 : ∀ (a : Bool), a = sw_sub i O → WW 42 [some (.ref 0), some (.int (nI q)), some (.int (nI s)), some (.int (nI hh)), some (.int (nI O)), some (.int (sw_on o)), some (.int (nI i))] [.int (sw_b2 a)] LC σ1 := by
              intro a ha
              refine hw 60 _ _ _ _ _ ?_
              cases o with
              | none =>
                conv => whnf
                refine ⟨fun _ => ?_, fun c => absurd rfl c⟩
                conv => whnf
                exact M2 a true ha rfl
              | some b =>
                have hb := hlv b rfl
                have pcb := sw_pc_le b (by omega)
                conv => whnf
                refine ⟨fun c => absurd c (nI_nm1 (by omega)), fun _ => ?_⟩
                conv => whnf
                refine ⟨i, rfl, by omega, ?_⟩
                conv => whnf
                refine ⟨b, rfl, by omega, ?_⟩
                conv => whnf
                rw [nI_le' (by omega) (by omega)]
                refine ⟨fun cc => ?_, fun cc => ?_⟩
                · conv => whnf
                  exact M2 a false ha (by show false = decide _; simp; omega)
                · conv => whnf
                  exact M2 a true ha (by show true = decide _; simp; omega)
            refine hw 60 _ _ _ _ _ ?_
            conv => whnf
            refine ⟨fun c => absurd c (nI_nlt (by omega) (by omega)), fun _ => ?_⟩
            conv => whnf
            refine ⟨fun cc => ?_, fun cc => ?_⟩
            · conv => whnf
              exact M1 false (by unfold sw_sub; simp only [beq_eq_false_iff_ne.mpr cc])
            · conv => whnf
              exact M1 true (by unfold sw_sub; rw [cc]; rfl)
        refine hw 60 _ _ _ _ _ ?_
        conv => whnf
        refine ⟨nI q, cn, rfl, rfl, by omega, hL.2.1, ?_⟩
        rw [hx]
        conv => whnf
        refine ⟨fun _ => ?_, fun c => absurd c sw_t0⟩
        conv => whnf
        rw [c0]
        refine ⟨fun c => by omega, fun _ => ?_⟩
        conv => whnf
        rw [c99]
        refine ⟨fun c => by omega, fun _ => ?_⟩
        conv => whnf
        rw [z0]
        refine ⟨fun c => by omega, fun _ => ?_⟩
        conv => whnf
        rw [z99]
        refine ⟨fun _ => ?_, fun c => by omega⟩
        conv => whnf
        refine ⟨q, m, c, rfl, rfl, hm, by omega, hL.1, hcc, ?_⟩
        rw [hO]
        conv => whnf
        exact loop (O + 1) 0 0 (-1) σ (Nat.zero_add _) rfl rfl (am_fr_rf _ _)
