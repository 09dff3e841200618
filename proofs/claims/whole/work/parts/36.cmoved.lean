/-! THE CLASS: moved -/
def sw_seen (G : Nat → Nat) (E : sw_E) : Nat → Bool
  | 0 => true
  | j + 1 => sw_seen G E j && (G (E.2.1 j) == E.2.2 j)
theorem sw_seen_f {G : Nat → Nat} {E : sw_E} {j : Nat} (h : ¬ G (E.2.1 j) = E.2.2 j) : ∀ d, sw_seen G E (j + 1 + d) = false
  | 0 => by rw [Nat.add_zero, sw_seen, beq_eq_false_iff_ne.mpr h, Bool.and_false]
  | d + 1 => by show (sw_seen G E (j + 1 + d) && _) = false; rw [sw_seen_f h d, Bool.false_and]
/-- would this move explain all that was seen -/
def sw_ex (D : sw_D) (F : sw_F) (E : sw_E) (a b x : Nat) : Bool := match D with
  | (cn, _, _, m, c, e, k, R, rn) => ((!(a == b) && (decide (x ≤ F.1 a) && decide (F.1 b + x ≤ e b))) && sw_seen (sw_yr m cn c e k (rn (F.2.2.2.2.2 % R)) (sw_mv F a b x)).1 E E.1)
def sw_mP (D : sw_D) (F : sw_F) (E : sw_E) (t : Nat) : Bool := (decide (t / 40 < D.2.2.2.1) && decide (t / 5 % 8 < D.2.2.2.1)) && sw_ex D F E (t / 40) (t / 5 % 8) (t % 5 + 1)
def sw_mg (P : Nat → Bool) (i : Int32) : Nat → Nat → Nat → Int32
  | 0, _, n => if i = -1 then nI n else -1
  | f + 1, t, n => if P t then (if nI n = i then nI (100 * (t / 40) + 10 * (t / 5 % 8) + (t % 5 + 1)) else sw_mg P i f (t + 1) (n + 1)) else sw_mg P i f (t + 1) n
def st_moved (A : sw_A) (i : Int32) : Int32 × sw_A := match A with
  | (_, D, F, _, _, _, E1, _) => (sw_mg (sw_mP D F E1) i 320 0 0, A)
theorem sw_mg_neg {P : Nat → Bool} {i : Int32} (h : i.toInt < -1) : ∀ f k n, n + f < 1000 → sw_mg P i f k n = -1
  | 0, k, n, _ => by
    rw [sw_mg, if_neg (fun e => by rw [e] at h; exact absurd h (by decide))]
  | f + 1, k, n, hn => by
    rw [sw_mg]
    split
    · rw [if_neg (fun e => by rw [← e, nI_toInt (by omega)] at h; omega)]
      exact sw_mg_neg h f (k + 1) (n + 1) (by omega)
    · exact sw_mg_neg h f (k + 1) n (by omega)
theorem sw_mg_skip {P : Nat → Bool} {i : Int32} : ∀ d f t n, (∀ s, t ≤ s → s < t + d → P s = false) → sw_mg P i (f + d) t n = sw_mg P i f (t + d) n
  | 0, f, t, n, _ => rfl
  | d + 1, f, t, n, h => by
    rw [show f + (d + 1) = (f + d) + 1 by omega, sw_mg, h t (by omega) (by omega), if_neg (by decide), sw_mg_skip d f (t + 1) n (fun s h1 h2 => h s (by omega) (by omega)), show t + 1 + d = t + (d + 1) by omega]
theorem sw_mv_ok {F : sw_F} {m a b x : Nat} {e : Nat → Nat} (hF : ∀ b, b < m → F.1 b ≤ e b ∧ F.2.1 b ≤ F.1 b ∧ F.2.2.1 b ≤ 9) (hab : ¬ a = b) (hx : x ≤ F.1 a) (hb : F.1 b + x ≤ e b) : ∀ q, q < m → (sw_mv F a b x).1 q ≤ e q ∧ (sw_mv F a b x).2.1 q ≤ (sw_mv F a b x).1 q ∧ (sw_mv F a b x).2.2.1 q ≤ 9 := by
  intro q hq
  obtain ⟨h1, h2, h3⟩ := hF q hq
  show va_up (va_up F.1 a (F.1 a - x)) b (F.1 b + x) q ≤ e q ∧ va_up F.2.1 a (min (F.2.1 a) (F.1 a - x)) q ≤ va_up (va_up F.1 a (F.1 a - x)) b (F.1 b + x) q ∧ F.2.2.1 q ≤ 9
  refine ⟨?_, ?_, h3⟩
  · by_cases hqb : q = b
    · subst hqb; rw [up_vs]; exact hb
    · rw [up_vn _ _ _ _ hqb]
      by_cases hqa : q = a
      · subst hqa; rw [up_vs]; omega
      · rw [up_vn _ _ _ _ hqa]; exact h1
  · by_cases hqb : q = b
    · subst hqb
      rw [up_vs, up_vn _ _ _ _ (fun e => hab e.symm)]; omega
    · rw [up_vn (va_up F.1 a (F.1 a - x)) _ _ _ hqb]
      by_cases hqa : q = a
      · subst hqa; rw [up_vs, up_vs]; omega
      · rw [up_vn _ _ _ _ hqa, up_vn _ _ _ _ hqa]; exact h2
def tr_wouldEx : am_T := fun as L σ post => ∃ (cn st mn m : Nat) (c e k : Nat → Nat) (R : Nat) (rn : Nat → Nat) (F : sw_F) (E : sw_E) (a b x : Nat), as = [.ref 0, .int (nI a), .int (nI b), .int (nI x)] ∧ L = LC ∧ rcD (cn, st, mn, m, c, e, k, R, rn) σ ∧ okD (cn, st, mn, m, c, e, k, R, rn) ∧ sw_FC σ 17 18 19 20 m F ∧ okF m e F ∧ sw_EC σ 33 34 35 8 E ∧ okE E 8 m 40 ∧ a < m ∧ b < m ∧ x < 100 ∧ ∀ σ', am_fr [22, 23, 24, 25, 26] σ σ' → post (some (.int (sw_b2 (sw_ex (cn, st, mn, m, c, e, k, R, rn) F E a b x)))) L σ'
set_option maxHeartbeats 2000000 in
theorem ct_wouldEx (l : Launch) : am_Ct l 3 yX6_wouldExplain cX6_wouldExplain 5 (some .boolean) tr_wouldEx := by
  refine am_ct tbX6_wouldExplain (am_G [tr_canCarry, tr_copyFrom, tr_carry, tr_passTrial]) (by decide +kernel) (by simp) rfl dtX6_wouldExplain rfl ckX6_wouldExplain lkX6_wouldExplain (am_cokF [(9, some (.invokevirtual 181), 0, 4, 6, 0), (25, some (.invokevirtual 204), 1, 2, 1, 0), (35, some (.invokevirtual 186), 2, 4, 1, 0), (39, some (.invokevirtual 207), 3, 1, 6, 0)] rfl (List.forall_mem_cons.mpr ⟨⟨0, _, _, _, _, by decide, (ct_canCarry l), lnX6_181⟩, List.forall_mem_cons.mpr ⟨⟨0, _, _, _, _, by decide, (ct_copyFrom l), lnX6_204⟩, List.forall_mem_cons.mpr ⟨⟨0, _, _, _, _, by decide, (ct_carry l), lnX6_186⟩, List.forall_mem_cons.mpr ⟨⟨2, _, _, _, _, by decide, (ct_passTrial l), lnX6_207⟩, fun _ h => absurd h List.not_mem_nil⟩⟩⟩⟩)) ?_
  intro as L σ post h
  obtain ⟨cn, st, mn, m, c, e, k, R, rn, F, ⟨ln, w, v⟩, a, b, x, rfl, rfl, ⟨hL, d6, d7, d8⟩, ⟨hcn, hm, -, hpos, hst, hmn, hB, hR0, hR8, hrn⟩, hF, ⟨hFk, hy⟩, ⟨g0, g1, g2, g3⟩, ⟨hl8, hE⟩, ha, hb, hx, h⟩ := h
  refine ⟨by simp [am_lv0], fun WW hw => ?_⟩
  dsimp only at g1 g2 g3 hl8 hE
  have he : ∀ b, b < m → e b ≤ 40 := fun b hb => (hB b hb).2.1
  have hab : nI a = nI b ↔ a = b := nI_eq' (by omega) (by omega)
  obtain ⟨p1, p2, p3⟩ := hFk a ha
  obtain ⟨q1, q2, q3⟩ := hFk b hb
  have ea := he a ha
  have eb := he b hb
  have hex : sw_ex (cn, st, mn, m, c, e, k, R, rn) F (ln, w, v) a b x = ((!(a == b) && (decide (x ≤ F.1 a) && decide (F.1 b + x ≤ e b))) && sw_seen (sw_yr m cn c e k (rn (F.2.2.2.2.2 % R)) (sw_mv F a b x)).1 (ln, w, v) ln) := rfl
  by_cases hc : ¬ a = b ∧ x ≤ F.1 a ∧ F.1 b + x ≤ e b
  · obtain ⟨hab2, hc1, hc2⟩ := hc
    rw [hex, beq_eq_false_iff_ne.mpr hab2, decide_eq_true hc1, decide_eq_true hc2] at h
    have hmv := sw_mv_ok (e := e) hFk hab2 hc1 hc2
    have hyr := sw_yr_ok (cn := cn) (c := c) (k := k) (hrn _ (Nat.mod_lt F.2.2.2.2.2 hR0)) he hmv
    generalize hG : sw_yr m cn c e k (rn (F.2.2.2.2.2 % R)) (sw_mv F a b x) = G at h hyr
    have loop : ∀ (σ1 : am_M), am_fr [22, 23, 24, 25, 26] σ σ1 → (∀ j, j < m → σ1 23 j = nI (G.1 j)) → ∀ (kk i : Nat) (z : Int32), i + kk = ln → z = nI i → sw_seen G.1 (ln, w, v) i = true → WW 27 [some (.ref 0), some (.int (nI a)), some (.int (nI b)), some (.int (nI x)), some (.int z)] [] LC σ1 := by
      intro σ1 hf hn kk
      have h := h σ1 hf
      induction kk with
      | zero =>
        intro i z hi hz hs
        have ei : i = ln := by omega
        subst ei; subst hz
        refine hw 60 _ _ _ _ _ ?_
        conv => whnf
        rw [am_frd hf 33 rfl, g1]
        refine ⟨fun _ => ?_, fun c => absurd (Int32.le_refl _) c⟩
        conv => whnf
        rw [hs] at h
        exact ⟨Or.inr rfl, h⟩
      | succ kk ih =>
        intro i z hi hz hs
        subst hz
        have hil : i < ln := by omega
        obtain ⟨j1, j2⟩ := g3 i hil
        obtain ⟨j3, j4⟩ := hE i hil
        have hin : vp_in (nI i) 8 := vp_j (by omega) (by decide)
        have hcl : (nI i).toNatClampNeg = i := nI_cl (by omega)
        have hin2 : vp_in (σ1 34 (nI i).toNatClampNeg) 8 := by rw [hcl, am_frd hf 34 rfl, j1]; exact vp_j (by omega) (by decide)
        have hcl2 : (nI (w i)).toNatClampNeg = w i := nI_cl (by omega)
        have hGw := (hyr (w i) j3).1
        have hew := he (w i) j3
        refine hw 60 _ _ _ _ _ ?_
        conv => whnf
        rw [am_frd hf 33 rfl, g1]
        refine ⟨fun c => absurd c (nI_ge hil (by omega)), fun _ => ?_⟩
        repeat ((conv => whnf); refine And.intro ?_ ?_; first | with_reducible assumption | decide)
        conv => whnf
        rw [hcl, am_frd hf 34 rfl, am_frd hf 35 rfl, j1, j2, hcl2, hn (w i) j3, nI_eq' (by omega) (by omega)]
        refine ⟨fun cc => ?_, fun cc => ?_⟩
        · exact ih (i + 1) _ (by omega) (nI_1 i) (by rw [sw_seen, hs, Bool.true_and]; exact beq_iff_eq.mpr cc)
        · conv => whnf
          have := sw_seen_f (E := (ln, w, v)) cc (ln - (i + 1))
          rw [show i + 1 + (ln - (i + 1)) = ln by omega] at this
          rw [this] at h
          exact ⟨Or.inl rfl, h⟩
    refine hw 60 _ _ _ _ _ ?_
    conv => whnf
    rw [hab]
    refine ⟨fun c => absurd c hab2, fun _ => ?_⟩
    conv => whnf
    refine ⟨a, b, x, F.1 a, F.1 b, e b, rfl, rfl, by omega, by omega, by omega, by omega, by omega, by omega, hF.1 a ha, hF.1 b hb, hL.2.2.2.1 b hb, fun _ => ?_, fun hn => absurd ⟨hc1, hc2⟩ hn⟩
    conv => whnf
    refine ⟨fun _ => ?_, fun c => absurd c (by decide)⟩
    conv => whnf
    refine ⟨m, F, rfl, rfl, hm, hF, fun σ1 hf1 hF1 => ?_⟩
    conv => whnf
    refine ⟨22, 23, 24, 25, 26, m, F, a, b, x, rfl, rfl, Or.inr ⟨rfl, rfl, rfl, rfl, rfl⟩, hm, ha, hb, hab2, hF1, hc1, by omega, by omega, by omega, fun σ2 hf2 hF2 => ?_⟩
    have hfa : am_fr [22, 23, 24, 25] σ σ2 := am_fr_tr (am_fr_tr (am_fr_rf _ _) hf1 (by decide)) hf2 (by decide)
    conv => whnf
    refine ⟨m, cn, c, e, k, R, rn, sw_mv F a b x, rfl, rfl, ?_, ⟨hm, hcn, hB⟩, ?_, hR0, hR8, hrn, hF2, ?_, ?_, fun σ3 hf3 hF3 => ?_⟩
    · unfold sw_LC at hL ⊢; rw [am_frd hfa 3 rfl, am_frd hfa 4 rfl, am_frd hfa 5 rfl, am_frd hfa 8 rfl]; exact hL
    · unfold rcR at d8 ⊢; rw [am_frd hfa 3 rfl, am_frd hfa 9 rfl]; exact d8
    · exact fun q hq => ⟨(hmv q hq).1, by have := hmv q hq; have := he q hq; omega, by have := (hmv q hq).2.2; omega⟩
    · show F.2.2.2.2.2 < 100000; omega
    · have hF3' : sw_FC σ3 22 23 24 25 m (sw_yr m cn c e k (rn (F.2.2.2.2.2 % R)) (sw_mv F a b x)) := hF3
      rw [hG] at hF3'
      conv => whnf
      exact loop σ3 (am_fr_tr (am_fr_tr (am_fr_rf _ _) hfa (by decide)) hf3 (by decide)) hF3'.1 ln 0 0 (Nat.zero_add _) rfl rfl
  · have hfalse : sw_ex (cn, st, mn, m, c, e, k, R, rn) F (ln, w, v) a b x = false := by
      rw [hex]
      by_cases h1 : a = b
      · simp [h1]
      · by_cases h2 : x ≤ F.1 a
        · have h3 : ¬ F.1 b + x ≤ e b := fun q => hc ⟨h1, h2, q⟩
          rw [decide_eq_false h3]; simp
        · rw [decide_eq_false h2]; simp
    rw [hfalse] at h
    have h := h σ (am_fr_rf _ _)
    refine hw 60 _ _ _ _ _ ?_
    conv => whnf
    rw [hab]
    refine ⟨fun _ => ?_, fun c1 => ?_⟩
    · conv => whnf
      exact ⟨Or.inl rfl, h⟩
    · conv => whnf
      refine ⟨a, b, x, F.1 a, F.1 b, e b, rfl, rfl, by omega, by omega, by omega, by omega, by omega, by omega, hF.1 a ha, hF.1 b hb, hL.2.2.2.1 b hb, fun hn => absurd ⟨c1, hn⟩ hc, fun _ => ?_⟩
      conv => whnf
      refine ⟨fun c => absurd rfl c, fun _ => ?_⟩
      conv => whnf
      exact ⟨Or.inl rfl, h⟩
set_option maxHeartbeats 2000000 in
theorem ct_cmoved (l : Launch) (A : sw_A) (hA : okA A) (z : Int32) : am_Ct l 4 yX6_moved cX6_moved 6 (some .int) (trC [.ref 0, .int z] A (st_moved A z)) := by
  refine am_ct tbX6_moved (am_G [tr_wouldEx]) (by decide +kernel) (by simp) rfl dtX6_moved rfl ckX6_moved lkX6_moved (am_cokF [(52, some (.invokevirtual 253), 0, 4, 6, 0)] rfl (List.forall_mem_cons.mpr ⟨⟨3, _, _, _, _, by decide, (ct_wouldEx l), lnX6_253⟩, fun _ h => absurd h List.not_mem_nil⟩)) ?_
  intro as L σ post h
  obtain ⟨rfl, rfl, hR, h⟩ := h
  refine ⟨by simp [am_lv0], fun WW hw => ?_⟩
  obtain ⟨T, ⟨cn, st, mn, m, c, e, k, R, rn⟩, F, sd, U, I, E1, E2, E3⟩ := A
  obtain ⟨hT, hD, hF, -, -, -, hE1, -⟩ := id hR
  obtain ⟨-, -, hokD, hokF, -, -, -, -, hokE, -⟩ := hA
  have hL := hD.1
  have hm : m ≤ 8 := hokD.2.1
  have hzr := fb_rng' z
  have cz : (-1 : Int32) ≤ z ↔ -1 ≤ z.toInt := by rw [Int32.le_iff_toInt_le]; exact Iff.rfl
  simp only [st_moved] at h
  have hP : ∀ t, sw_mP (cn, st, mn, m, c, e, k, R, rn) F E1 t = ((decide (t / 40 < m) && decide (t / 5 % 8 < m)) && sw_ex (cn, st, mn, m, c, e, k, R, rn) F E1 (t / 40) (t / 5 % 8) (t % 5 + 1)) := fun _ => rfl
  generalize sw_mP (cn, st, mn, m, c, e, k, R, rn) F E1 = P at h hP
  have hsame : ∀ (σ1 : am_M), am_fr [22, 23, 24, 25, 26] σ σ1 → rcD (cn, st, mn, m, c, e, k, R, rn) σ1 ∧ sw_FC σ1 17 18 19 20 m F ∧ sw_EC σ1 33 34 35 8 E1 := fun σ1 hf => ⟨rcD_fr (am_frd hf 3 rfl) (am_frd hf 4 rfl) (am_frd hf 5 rfl) (am_frd hf 8 rfl) (am_frd hf 9 rfl) hD, sw_FC_fr (am_frd hf 17 rfl) (am_frd hf 18 rfl) (am_frd hf 19 rfl) (am_frd hf 20 rfl) hF, sw_EC_fr (am_frd hf 33 rfl) (am_frd hf 34 rfl) (am_frd hf 35 rfl) hE1⟩
  have inner : ∀ (a b : Nat), a < m → b < m → (∀ (n : Nat) (u v : Int32) (σ1 : am_M), u = nI (b + 1) → v = nI n → n ≤ 40 * a + 5 * (b + 1) → am_fr [22, 23, 24, 25, 26] σ σ1 → sw_mg P z (320 - (40 * a + 5 * (b + 1))) (40 * a + 5 * (b + 1)) n = sw_mg P z 320 0 0 → WW 18 [some (.ref 0), some (.int z), some (.int v), some (.int (nI a)), some (.int u)] [] LC σ1) →
      ∀ (kk x n : Nat) (w v : Int32) (σ1 : am_M), x + kk = 5 → w = nI (x + 1) → v = nI n → n ≤ 40 * a + 5 * b + x → am_fr [22, 23, 24, 25, 26] σ σ1 → sw_mg P z (320 - (40 * a + 5 * b + x)) (40 * a + 5 * b + x) n = sw_mg P z 320 0 0 → WW 26 [some (.ref 0), some (.int z), some (.int v), some (.int (nI a)), some (.int (nI b)), some (.int w)] [] LC σ1 := by
    intro a b ha hb hnext kk
    induction kk with
    | zero =>
      intro x n w v σ1 hx hw2 hv hn hf ht
      have ex : x = 5 := by omega
      subst ex; subst hw2; subst hv
      refine hw 60 _ _ _ _ _ ?_
      conv => whnf
      refine ⟨fun _ => ?_, fun c => absurd (nI_lt (a := 5) (b := 6) (by decide) (by decide)) c⟩
      conv => whnf
      exact hnext n _ _ σ1 (nI_1 b) rfl (by omega) hf (by rw [show 40 * a + 5 * (b + 1) = 40 * a + 5 * b + 5 by omega]; exact ht)
    | succ kk ih =>
      intro x n w v σ1 hx hw2 hv hn hf ht
      subst hw2; subst hv
      obtain ⟨s1, s2, s3⟩ := hsame σ1 hf
      rw [show 320 - (40 * a + 5 * b + x) = (320 - (40 * a + 5 * b + (x + 1))) + 1 by omega, sw_mg] at ht
      have hPt : P (40 * a + 5 * b + x) = sw_ex (cn, st, mn, m, c, e, k, R, rn) F E1 a b (x + 1) := by
        rw [hP, show (40 * a + 5 * b + x) / 40 = a by omega, show (40 * a + 5 * b + x) / 5 % 8 = b by omega, show (40 * a + 5 * b + x) % 5 = x by omega, decide_eq_true ha, decide_eq_true hb]; rfl
      rw [hPt] at ht
      refine hw 60 _ _ _ _ _ ?_
      conv => whnf
      refine ⟨fun c => absurd c (nI_nlt (a := 5) (by omega) (by decide)), fun _ => ?_⟩
      conv => whnf
      refine ⟨cn, st, mn, m, c, e, k, R, rn, F, E1, a, b, x + 1, rfl, rfl, s1, hokD, s2, hokF, s3, hokE, ha, hb, by omega, fun σ2 hf2 => ?_⟩
      have hfa := am_fr_tr hf hf2 (by decide)
      cases hst : sw_ex (cn, st, mn, m, c, e, k, R, rn) F E1 a b (x + 1) with
      | false =>
        rw [hst, if_neg (by decide)] at ht
        conv => whnf
        refine ⟨fun _ => ?_, fun c => absurd rfl c⟩
        conv => whnf
        exact ih (x + 1) n _ _ σ2 (by omega) (nI_1 (x + 1)) rfl (by omega) hfa ht
      | true =>
        rw [hst, if_pos rfl] at ht
        conv => whnf
        refine ⟨fun c => absurd c (by decide), fun _ => ?_⟩
        conv => whnf
        refine ⟨fun cc => ?_, fun cc => ?_⟩
        · rw [if_neg cc] at ht
          conv => whnf
          exact ih (x + 1) (n + 1) _ _ σ2 (by omega) (nI_1 (x + 1)) (nI_1 n) (by omega) hfa ht
        · rw [if_pos cc] at ht
          conv => whnf
          have h := h σ2 (RC_junk (am_fr_tr (am_fr_rf _ _) hfa (by decide)) hR)
          rw [← ht, show (40 * a + 5 * b + x) / 40 = a by omega, show (40 * a + 5 * b + x) / 5 % 8 = b by omega, show (40 * a + 5 * b + x) % 5 = x by omega] at h
          rw [show (100 : Int32) * nI a = nI (100 * a) from pk_mul 100 a, show (10 : Int32) * nI b = nI (10 * b) from pk_mul 10 b, nI_add, nI_add]
          exact h
  have mid : ∀ (a : Nat), a < m → (∀ (n : Nat) (u v : Int32) (σ1 : am_M), u = nI (a + 1) → v = nI n → n ≤ 40 * (a + 1) → am_fr [22, 23, 24, 25, 26] σ σ1 → sw_mg P z (320 - 40 * (a + 1)) (40 * (a + 1)) n = sw_mg P z 320 0 0 → WW 10 [some (.ref 0), some (.int z), some (.int v), some (.int u)] [] LC σ1) →
      ∀ (kk b n : Nat) (u v : Int32) (σ1 : am_M), b + kk = m → u = nI b → v = nI n → n ≤ 40 * a + 5 * b → am_fr [22, 23, 24, 25, 26] σ σ1 → sw_mg P z (320 - (40 * a + 5 * b)) (40 * a + 5 * b) n = sw_mg P z 320 0 0 → WW 18 [some (.ref 0), some (.int z), some (.int v), some (.int (nI a)), some (.int u)] [] LC σ1 := by
    intro a ha hnext kk
    induction kk with
    | zero =>
      intro b n u v σ1 hb hu hv hn hf ht
      have eb : b = m := by omega
      subst eb; subst hu; subst hv
      rw [show 320 - (40 * a + 5 * b) = (320 - 40 * (a + 1)) + (40 - 5 * b) by omega, sw_mg_skip (40 - 5 * b) _ _ _ (fun s h1 h2 => by
        rw [hP, show (decide (s / 5 % 8 < b)) = false by simp; omega]; simp), show 40 * a + 5 * b + (40 - 5 * b) = 40 * (a + 1) by omega] at ht
      refine hw 60 _ _ _ _ _ ?_
      conv => whnf
      rw [am_frd hf 3 rfl, hL.1]
      refine ⟨fun _ => ?_, fun c => absurd (Int32.le_refl _) c⟩
      conv => whnf
      exact hnext n _ _ σ1 (nI_1 a) rfl (by omega) hf ht
    | succ kk ih =>
      intro b n u v σ1 hb hu hv hn hf ht
      subst hu; subst hv
      refine hw 60 _ _ _ _ _ ?_
      conv => whnf
      rw [am_frd hf 3 rfl, hL.1]
      refine ⟨fun c => absurd c (nI_ge (by omega) (by omega)), fun _ => ?_⟩
      conv => whnf
      exact inner a b ha (by omega) (fun n u v σ2 hu hv hn hf2 ht => ih (b + 1) n u v σ2 (by omega) hu hv hn hf2 ht) 5 0 n 1 _ σ1 rfl rfl rfl (by omega) hf ht
  have outer : ∀ (kk a n : Nat) (u v : Int32) (σ1 : am_M), a + kk = m → u = nI a → v = nI n → n ≤ 40 * a → am_fr [22, 23, 24, 25, 26] σ σ1 → sw_mg P z (320 - 40 * a) (40 * a) n = sw_mg P z 320 0 0 → WW 10 [some (.ref 0), some (.int z), some (.int v), some (.int u)] [] LC σ1 := by
    intro kk
    induction kk with
    | zero =>
      intro a n u v σ1 ha hu hv hn hf ht
      have ea : a = m := by omega
      subst ea; subst hu; subst hv
      rw [show 320 - 40 * a = 0 + (320 - 40 * a) by omega, sw_mg_skip (320 - 40 * a) _ _ _ (fun s h1 h2 => by
        rw [hP, show (decide (s / 40 < a)) = false by simp; omega]; simp), sw_mg] at ht
      have h := h σ1 (RC_junk (am_fr_tr (am_fr_rf _ _) hf (by decide)) hR)
      refine hw 60 _ _ _ _ _ ?_
      conv => whnf
      rw [am_frd hf 3 rfl, hL.1]
      refine ⟨fun _ => ?_, fun c => absurd (Int32.le_refl _) c⟩
      conv => whnf
      refine ⟨fun cc => ?_, fun cc => ?_⟩
      · rw [if_neg cc] at ht
        conv => whnf
        rw [← ht] at h; exact h
      · rw [if_pos cc] at ht
        conv => whnf
        rw [← ht] at h; exact h
    | succ kk ih =>
      intro a n u v σ1 ha hu hv hn hf ht
      subst hu; subst hv
      refine hw 60 _ _ _ _ _ ?_
      conv => whnf
      rw [am_frd hf 3 rfl, hL.1]
      refine ⟨fun c => absurd c (nI_ge (by omega) (by omega)), fun _ => ?_⟩
      conv => whnf
      exact mid a (by omega) (fun n u v σ2 hu hv hn hf2 ht => ih (a + 1) n u v σ2 (by omega) hu hv hn hf2 ht) m 0 n 0 _ σ1 (Nat.zero_add _) rfl rfl (by omega) hf ht
  refine hw 60 _ _ _ _ _ ?_
  conv => whnf
  rw [cz]
  refine ⟨fun _ => ?_, fun cc => ?_⟩
  · conv => whnf
    exact outer m 0 0 0 0 σ (Nat.zero_add _) rfl rfl (Nat.le_refl _) (am_fr_rf _ _) rfl
  · rw [sw_mg_neg (by omega) 320 0 0 (by decide)] at h
    exact h σ hR
