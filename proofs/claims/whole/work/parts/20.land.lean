/-! numbers in bounds; the class's Land -/
theorem fb_rng' (x : Int32) : -2147483648 ≤ x.toInt ∧ x.toInt < 2147483648 := by
  have h1 := Int32.le_toInt x
  have h2 := Int32.toInt_lt x
  omega
def sw_ix (x : Int32) (a b : Nat) : Option Nat := if (a : Int) ≤ x.toInt ∧ x.toInt < (b : Int) then some x.toInt.toNat else none
theorem sw_ix_some {x : Int32} {a b j : Nat} (h : sw_ix x a b = some j) : a ≤ j ∧ j < b ∧ x = nI j := by
  unfold sw_ix at h
  split at h
  · rename_i c
    have hx := fb_rng' x
    cases h
    refine ⟨by omega, by omega, ?_⟩
    refine Int32.toInt_inj.mp ?_
    rw [nI_toInt (by omega)]
    omega
  · cases h
theorem sw_ix_none {x : Int32} {a b : Nat} (h : sw_ix x a b = none) : x.toInt < a ∨ (b : Int) ≤ x.toInt := by
  unfold sw_ix at h
  split at h
  · cases h
  · omega
theorem sw_ix_nI {a b j : Nat} (h1 : a ≤ j) (h2 : j < b) (hb : b < 2147483648) : sw_ix (nI j) a b = some j := by
  unfold sw_ix
  rw [nI_toInt (by omega), if_pos (by omega)]
  rfl
theorem sw_xlt {x : Int32} (n : Nat) (h : n < 2147483648) : x < nI n ↔ x.toInt < n := by rw [Int32.lt_iff_toInt_lt, nI_toInt (by omega)]
theorem sw_xle {x : Int32} (n : Nat) (h : n < 2147483648) : x ≤ nI n ↔ x.toInt ≤ n := by rw [Int32.le_iff_toInt_le, nI_toInt (by omega)]
theorem sw_ltx {x : Int32} (n : Nat) (h : n < 2147483648) : nI n < x ↔ (n : Int) < x.toInt := by rw [Int32.lt_iff_toInt_lt, nI_toInt (by omega)]
theorem sw_lex {x : Int32} (n : Nat) (h : n < 2147483648) : nI n ≤ x ↔ (n : Int) ≤ x.toInt := by rw [Int32.le_iff_toInt_le, nI_toInt (by omega)]
def tr_hasBarn : am_T := fun as L σ post => ∃ x m, as = [.ref 3, .int x] ∧ L = LC ∧ m ≤ 8 ∧ σ 3 3 = nI m ∧ post (some (.int (sw_b2 (sw_ix x 0 m).isSome))) L σ
theorem ct_hasBarn (l : Launch) : am_Ct l 0 yX3_hasBarn cX3_hasBarn 2 (some .boolean) tr_hasBarn := by
  refine am_ct tbX3_hasBarn (am_G []) (by decide +kernel) (by simp) rfl dtX3_hasBarn rfl ckX3_hasBarn lkX3_hasBarn (am_nocalls rfl) ?_
  intro as L σ post h
  obtain ⟨x, m, rfl, rfl, hm, e1, h⟩ := h
  refine ⟨by simp [am_lv0], fun WW hw => hw 30 _ _ _ _ _ ?_⟩
  conv => whnf
  have c0 : x < 0 ↔ x.toInt < 0 := sw_xlt 0 (by decide)
  rw [c0]
  refine ⟨fun c => ?_, fun c => ?_⟩
  · conv => whnf
    refine ⟨Or.inl rfl, ?_⟩
    rw [show sw_ix x 0 m = none from if_neg (by omega)] at h
    exact h
  · conv => whnf
    rw [e1, sw_lex m (by omega)]
    refine ⟨fun c2 => ?_, fun c2 => ?_⟩
    · conv => whnf
      refine ⟨Or.inl rfl, ?_⟩
      rw [show sw_ix x 0 m = none from if_neg (by omega)] at h
      exact h
    · conv => whnf
      refine ⟨Or.inr rfl, ?_⟩
      rw [show sw_ix x 0 m = some x.toInt.toNat from if_pos (by omega)] at h
      exact h
def tr_hasCounty : am_T := fun as L σ post => ∃ x m, as = [.ref 3, .int x] ∧ L = LC ∧ m ≤ 8 ∧ σ 3 0 = nI m ∧ post (some (.int (sw_b2 (sw_ix x 0 m).isSome))) L σ
theorem ct_hasCounty (l : Launch) : am_Ct l 0 yX3_hasCounty cX3_hasCounty 2 (some .boolean) tr_hasCounty := by
  refine am_ct tbX3_hasCounty (am_G []) (by decide +kernel) (by simp) rfl dtX3_hasCounty rfl ckX3_hasCounty lkX3_hasCounty (am_nocalls rfl) ?_
  intro as L σ post h
  obtain ⟨x, m, rfl, rfl, hm, e1, h⟩ := h
  refine ⟨by simp [am_lv0], fun WW hw => hw 30 _ _ _ _ _ ?_⟩
  conv => whnf
  have c0 : x < 0 ↔ x.toInt < 0 := sw_xlt 0 (by decide)
  rw [c0]
  refine ⟨fun c => ?_, fun c => ?_⟩
  · conv => whnf
    refine ⟨Or.inl rfl, ?_⟩
    rw [show sw_ix x 0 m = none from if_neg (by omega)] at h
    exact h
  · conv => whnf
    rw [e1, sw_lex m (by omega)]
    refine ⟨fun c2 => ?_, fun c2 => ?_⟩
    · conv => whnf
      refine ⟨Or.inl rfl, ?_⟩
      rw [show sw_ix x 0 m = none from if_neg (by omega)] at h
      exact h
    · conv => whnf
      refine ⟨Or.inr rfl, ?_⟩
      rw [show sw_ix x 0 m = some x.toInt.toNat from if_pos (by omega)] at h
      exact h
/-- sets of barns -/
def sw_set (P : Nat → Bool) : Nat → Nat
  | 0 => 0
  | n + 1 => sw_set P n + (if P n then 2 ^ n else 0)
theorem sw_set_lt (P : Nat → Bool) : ∀ n, sw_set P n < 2 ^ n
  | 0 => Nat.one_pos
  | n + 1 => by
    have := sw_set_lt P n
    rw [sw_set, Nat.pow_succ]
    split <;> omega
theorem sw_set_bit (P : Nat → Bool) : ∀ n b, (sw_set P n).testBit b = (decide (b < n) && P b)
  | 0, b => by simp [sw_set]
  | n + 1, b => by
    have hlt := sw_set_lt P n
    have ih := sw_set_bit P n b
    rw [sw_set]
    by_cases hP : P n = true
    · rw [if_pos hP, Nat.add_comm]
      by_cases hb : b = n
      · subst hb
        rw [Nat.testBit_two_pow_add_eq, ih]
        simp [hP]
      · by_cases hbn : b < n
        · rw [Nat.testBit_two_pow_add_gt hbn, ih]
          simp [hbn, Nat.lt_succ_of_lt hbn]
        · rw [Nat.testBit_lt_two_pow (Nat.lt_of_lt_of_le (show 2 ^ n + sw_set P n < 2 ^ (n + 1) by rw [Nat.pow_succ]; omega) (Nat.pow_le_pow_right (by decide) (by omega)))]
          have : ¬ b < n + 1 := by omega
          simp [this]
    · rw [if_neg hP, Nat.add_zero, ih]
      by_cases hb : b = n
      · subst hb; simp [hP]
      · have : decide (b < n) = decide (b < n + 1) := by simp; omega
        rw [this]
theorem sw_bit_nat : ∀ S, S < 256 → ∀ b, b < 8 → sw_bit (nI S) b = S.testBit b := by decide +kernel
theorem sw_or_bit : ∀ n, n < 8 → ∀ S, S < 2 ^ n → nI S ||| (1 <<< (nI n &&& 31)) = nI (S + 2 ^ n) := by decide +kernel
theorem sw_shl1 : ∀ n, n < 9 → (1 : Int32) <<< (nI n &&& 31) = nI (2 ^ n) := by decide +kernel
/-- allBarns -/
def tr_allBarns : am_T := fun as L σ post => ∃ m, as = [.ref 3] ∧ L = LC ∧ m ≤ 8 ∧ σ 3 3 = nI m ∧ post (some (.int (nI (2 ^ m - 1)))) L σ
theorem ct_allBarns (l : Launch) : am_Ct l 0 yX3_allBarns cX3_allBarns 1 (some .int) tr_allBarns := by
  refine am_ct tbX3_allBarns (am_G []) (by decide +kernel) (by simp) rfl dtX3_allBarns rfl ckX3_allBarns lkX3_allBarns (am_nocalls rfl) ?_
  intro as L σ post h
  obtain ⟨m, rfl, rfl, hm, e1, h⟩ := h
  refine ⟨by simp [am_lv0], fun WW hw => hw 30 _ _ _ _ _ ?_⟩
  conv => whnf
  have hp : 0 < 2 ^ m := Nat.pow_pos (by decide)
  rw [e1, sw_shl1 m (by omega), show nI (2 ^ m) - 1 = nI (2 ^ m - 1) from pk_sub hp]
  exact h
/-- the set of a county's barns -/
def sw_own (m : Nat) (c : Nat → Nat) (q : Nat) : Nat := sw_set (fun b => c b == q) m
def tr_barnsOf : am_T := fun as L σ post => ∃ (q m : Nat) (c : Nat → Nat), as = [.ref 3, .int (nI q)] ∧ L = LC ∧ m ≤ 8 ∧ q < 1000 ∧ σ 3 3 = nI m ∧ (∀ b, b < m → σ 4 b = nI (c b) ∧ c b < 1000) ∧ post (some (.int (nI (sw_own m c q)))) L σ
theorem ct_barnsOf (l : Launch) : am_Ct l 0 yX3_barnsOf cX3_barnsOf 4 (some .int) tr_barnsOf := by
  refine am_ct tbX3_barnsOf (am_G []) (by decide +kernel) (by simp) rfl dtX3_barnsOf rfl ckX3_barnsOf lkX3_barnsOf (am_nocalls rfl) ?_
  intro as L σ post h
  obtain ⟨q, m, c, rfl, rfl, hm, hq, e1, e2, h⟩ := h
  refine ⟨by simp [am_lv0], fun WW hw => ?_⟩
  have loop : ∀ (k i : Nat) (x y : Int32), i + k = m → x = nI i → y = nI (sw_set (fun b => c b == q) i) → WW 5 [some (.ref 3), some (.int (nI q)), some (.int y), some (.int x)] [] LC σ := by
    intro k
    induction k with
    | zero =>
      intro i x y hi hx hy
      have ei : i = m := by omega
      subst ei; subst hx; subst hy
      refine hw 30 _ _ _ _ _ ?_
      conv => whnf
      rw [e1]
      exact ⟨fun _ => h, fun c => absurd (Int32.le_refl _) c⟩
    | succ k ih =>
      intro i x y hi hx hy
      subst hx; subst hy
      have him : i < m := by omega
      have hin : vp_in (nI i) 8 := vp_j (by omega) (by decide)
      have hcl : (nI i).toNatClampNeg = i := nI_cl (by omega)
      have hnle : ¬ nI m ≤ nI i := nI_ge him (by omega)
      obtain ⟨e3, e4⟩ := e2 i him
      refine hw 30 _ _ _ _ _ ?_
      conv => whnf
      rw [e1]
      refine ⟨fun c => absurd c hnle, fun _ => ?_⟩
      repeat ((conv => whnf); refine And.intro ?_ ?_; first | with_reducible assumption | decide)
      conv => whnf
      rw [hcl, e3, nI_eq' (by omega) (by omega)]
      refine ⟨fun cc => ?_, fun cc => ?_⟩
      · conv => whnf
        refine ih (i + 1) _ _ (by omega) (nI_1 i) ?_
        rw [sw_set, if_neg (by simpa using cc), Nat.add_zero]
      · conv => whnf
        refine ih (i + 1) _ _ (by omega) (nI_1 i) ?_
        rw [sw_or_bit i (by omega) _ (sw_set_lt _ _), sw_set, if_pos (by simpa using cc)]
  refine hw 30 _ _ _ _ _ ?_
  conv => whnf
  exact loop m 0 0 0 (Nat.zero_add _) rfl rfl
/-- the sum of a row over a set -/
def sw_sm (f : Nat → Nat) (P : Nat → Bool) : Nat → Nat
  | 0 => 0
  | n + 1 => sw_sm f P n + (if P n then f n else 0)
def tr_sumOver : am_T := fun as L σ post => ∃ (p S m : Nat) (f : Nat → Nat), as = [.ref p, .int (nI S)] ∧ L = LC ∧ (p = 18 ∨ p = 19 ∨ p = 23 ∨ p = 5) ∧ m ≤ 8 ∧ S < 2 ^ m ∧ (∀ b, b < m → σ p b = nI (f b)) ∧ post (some (.int (nI (sw_sm f S.testBit m)))) L σ
theorem sw_sm_more {f : Nat → Nat} {S m : Nat} (hS : S < 2 ^ m) : ∀ d, sw_sm f S.testBit (m + d) = sw_sm f S.testBit m
  | 0 => rfl
  | d + 1 => by
    show sw_sm f S.testBit (m + d) + (if S.testBit (m + d) then f (m + d) else 0) = _
    rw [sw_sm_more hS d, Nat.testBit_lt_two_pow (Nat.lt_of_lt_of_le hS (Nat.pow_le_pow_right (by decide) (Nat.le_add_right m d)))]
    rfl
theorem ct_sumOver (l : Launch) : am_Ct l 0 yX6_sumOver cX6_sumOver 4 (some .int) tr_sumOver := by
  refine am_ct tbX6_sumOver (am_G []) (by decide +kernel) (by simp) rfl dtX6_sumOver rfl ckX6_sumOver lkX6_sumOver (am_nocalls rfl) ?_
  intro as L σ post h
  obtain ⟨p, S, m, f, rfl, rfl, hp, hm, hS, e1, h⟩ := h
  refine ⟨by simp [am_lv0], fun WW hw => ?_⟩
  have hS8 : S < 256 := Nat.lt_of_lt_of_le hS (Nat.pow_le_pow_right (n := 2) (by decide) hm)
  have loop : ∀ (k i : Nat) (x y : Int32), i + k = 8 → x = nI i → y = nI (sw_sm f S.testBit i) → WW 5 [some (.ref p), some (.int (nI S)), some (.int y), some (.int x)] [] LC σ := by
    intro k
    induction k with
    | zero =>
      intro i x y hi hx hy
      have ei : i = 8 := by omega
      subst ei; subst hx; subst hy
      rw [← sw_sm_more hS (8 - m), show m + (8 - m) = 8 by omega] at h
      refine hw 30 _ _ _ _ _ ?_
      rcases hp with rfl | rfl | rfl | rfl
      all_goals
        conv => whnf
        exact ⟨fun _ => h, fun c => absurd (Int32.le_refl _) c⟩
    | succ k ih =>
      intro i x y hi hx hy
      subst hx; subst hy
      have hin : vp_in (nI i) 8 := vp_j (by omega) (by decide)
      have hcl : (nI i).toNatClampNeg = i := nI_cl (by omega)
      have hnle : ¬ nI 8 ≤ nI i := nI_ge (by omega) (by omega)
      have hb := sw_bit_nat S hS8 i (by omega)
      have ih' := fun x => ih (i + 1) (nI i + 1) x (by omega) (nI_1 i)
      rw [sw_sm] at ih'
      refine hw 30 _ _ _ _ _ ?_
      rcases hp with rfl | rfl | rfl | rfl
      all_goals
        conv => whnf
        refine ⟨fun c => absurd c hnle, fun _ => ?_⟩
        conv => whnf
        refine ⟨fun c => ?_, fun c => ?_⟩
        · conv => whnf
          refine ih' _ ?_
          rw [← hb, sw_bit_f c, if_neg (by decide), Nat.add_zero]
        · have hbt := sw_bit_t c
          have him : i < m := by
            rcases Nat.lt_or_ge i m with q | q
            · exact q
            · rw [hb, Nat.testBit_lt_two_pow (Nat.lt_of_lt_of_le hS (Nat.pow_le_pow_right (by decide) q))] at hbt; cases hbt
          repeat ((conv => whnf); refine And.intro ?_ ?_; first | with_reducible assumption | decide)
          conv => whnf
          refine ih' _ ?_
          rw [hcl, e1 i him, nI_add, ← hb, hbt, if_pos rfl]
  refine hw 30 _ _ _ _ _ ?_
  conv => whnf
  exact loop 8 0 0 0 rfl rfl rfl
def tr_rainOf : am_T := fun as L σ post => ∃ (t R : Nat) (rn : Nat → Nat), as = [.ref 3, .int (nI t)] ∧ L = LC ∧ t < 100000 ∧ 0 < R ∧ R ≤ 8 ∧ ((σ 3 4 = nI R ∧ ∀ t, t < R → σ 9 t = nI (rn t)) ∨ (σ 3 4 = 0 ∧ R = 1 ∧ rn 0 = 5)) ∧ post (some (.int (nI (rn (t % R))))) L σ
theorem ct_rainOf (l : Launch) : am_Ct l 0 yX3_rainOf cX3_rainOf 2 (some .int) tr_rainOf := by
  refine am_ct tbX3_rainOf (am_G []) (by decide +kernel) (by simp) rfl dtX3_rainOf rfl ckX3_rainOf lkX3_rainOf (am_nocalls rfl) ?_
  intro as L σ post h
  obtain ⟨t, R, rn, rfl, rfl, ht, hR, hR8, e1, h⟩ := h
  refine ⟨by simp [am_lv0], fun WW hw => hw 30 _ _ _ _ _ ?_⟩
  rcases e1 with ⟨e1, e2⟩ | ⟨e1, rfl, e2⟩
  · have hne : ¬ nI R = 0 := nI_ne0 hR (by omega)
    have hlt : t % R < R := Nat.mod_lt _ hR
    have hrem : nI t - nI t / nI R * nI R = nI (t % R) := pk_rem (by omega) hR (by omega)
    conv => whnf
    rw [e1]
    refine ⟨fun c => absurd c (nI_nle hR (by omega)), fun _ => ?_⟩
    conv => whnf
    refine ⟨fun c => absurd c (nI_pos (by omega)), fun _ => ?_⟩
    conv => whnf
    rw [e1, hrem]
    refine ⟨hne, ?_⟩
    conv => whnf
    refine ⟨vp_j (by omega) (by decide), ?_⟩
    conv => whnf
    rw [nI_cl (by omega), e2 _ hlt]
    exact h
  · conv => whnf
    rw [e1]
    refine ⟨fun _ => ?_, fun c => absurd (Int32.le_refl _) c⟩
    conv => whnf
    rw [Nat.mod_one, e2] at h
    exact h
def tr_seatsFor : am_T := fun as L σ post => ∃ u v, as = [.ref 3, .int (nI u)] ∧ L = LC ∧ u < 100000 ∧ 0 < v ∧ v < 1000 ∧ σ 3 1 = nI v ∧ post (some (.int (nI (u / v)))) L σ
theorem ct_seatsFor (l : Launch) : am_Ct l 0 yX3_seatsFor cX3_seatsFor 2 (some .int) tr_seatsFor := by
  refine am_ct tbX3_seatsFor (am_G []) (by decide +kernel) (by simp) rfl dtX3_seatsFor rfl ckX3_seatsFor lkX3_seatsFor (am_nocalls rfl) ?_
  intro as L σ post h
  obtain ⟨u, v, rfl, rfl, hu, hv, hv2, e1, h⟩ := h
  refine ⟨by simp [am_lv0], fun WW hw => hw 30 _ _ _ _ _ ?_⟩
  conv => whnf
  rw [e1]
  refine ⟨fun c => absurd c (nI_nle hv (by omega)), fun _ => ?_⟩
  conv => whnf
  rw [e1, nI_d (by omega) hv (by omega)]
  exact ⟨nI_ne0 hv (by omega), h⟩
def tr_menFor : am_T := fun as L σ post => ∃ u v, as = [.ref 3, .int (nI u)] ∧ L = LC ∧ u < 100000 ∧ 0 < v ∧ v < 1000 ∧ σ 3 2 = nI v ∧ post (some (.int (nI (u / v)))) L σ
theorem ct_menFor (l : Launch) : am_Ct l 0 yX3_menFor cX3_menFor 2 (some .int) tr_menFor := by
  refine am_ct tbX3_menFor (am_G []) (by decide +kernel) (by simp) rfl dtX3_menFor rfl ckX3_menFor lkX3_menFor (am_nocalls rfl) ?_
  intro as L σ post h
  obtain ⟨u, v, rfl, rfl, hu, hv, hv2, e1, h⟩ := h
  refine ⟨by simp [am_lv0], fun WW hw => hw 30 _ _ _ _ _ ?_⟩
  conv => whnf
  rw [e1]
  refine ⟨fun c => absurd c (nI_nle hv (by omega)), fun _ => ?_⟩
  conv => whnf
  rw [e1, nI_d (by omega) hv (by omega)]
  exact ⟨nI_ne0 hv (by omega), h⟩
