/-! THE REFERENCE: calls that are short -/
def tr_min : am_T := fun as L σ post => ∃ X A B x lo hi, as = [.long X, .long A, .long B] ∧ X.toInt = x ∧ A.toInt = lo ∧ B.toInt = hi ∧ post (some (.int (sw_b2 (decide (lo ≤ x ∧ x ≤ hi))))) L σ
theorem ct_min (l : Launch) : am_Ct l 0 yX7_in cX7_in 6 (some .boolean) tr_min := by
  refine am_ct tbX7_in (am_G []) (by decide +kernel) (by simp) rfl dtX7_in rfl ckX7_in lkX7_in (am_nocalls rfl) ?_
  intro as L σ post h
  obtain ⟨X, A, B, x, lo, hi, rfl, rfl, rfl, rfl, h⟩ := h
  refine ⟨by simp [am_lv0], fun WW hw => hw 30 _ _ _ _ _ ?_⟩
  have c1 := lg_cmp_lt X A
  have c2 := lg_cmp_gt X B
  rw [Int64.lt_iff_toInt_lt] at c1 c2
  conv => whnf
  refine ⟨fun c => ?_, fun c => ?_⟩
  · conv => whnf
    have c := c1.1 c
    rw [decide_eq_false (by omega)] at h
    exact ⟨Or.inl rfl, h⟩
  · have c : ¬ X.toInt < A.toInt := fun q => c (c1.2 q)
    conv => whnf
    refine ⟨fun d => ?_, fun d => ?_⟩
    · conv => whnf
      have d := c2.1 d
      rw [decide_eq_false (by omega)] at h
      exact ⟨Or.inl rfl, h⟩
    · conv => whnf
      have d : ¬ B.toInt < X.toInt := fun q => d (c2.2 q)
      rw [decide_eq_true (by omega)] at h
      exact ⟨Or.inr rfl, h⟩
theorem sw_isIx (x : Int32) (a b : Nat) {hi : Int} (h : hi = (b : Int) - 1) : decide ((a : Int) ≤ x.toInt ∧ x.toInt ≤ hi) = (sw_ix x a b).isSome := by
  unfold sw_ix
  by_cases c : (a : Int) ≤ x.toInt ∧ x.toInt < (b : Int)
  · rw [if_pos c, decide_eq_true (by omega)]; rfl
  · rw [if_neg c, decide_eq_false (by omega)]; rfl
theorem nI_less1 {m : Nat} (hm : m < 1000000) : (nI m - 1).toInt64.toInt = (m : Int) - 1 := by
  rw [Int32.toInt_toInt64]
  cases m with
  | zero => decide
  | succ k =>
    have : nI (k + 1) - 1 = nI k := by rw [← nI_1 k]; exact Int32.add_sub_cancel _ _
    rw [this, nI_toInt (by omega)]; omega
def tr_misBarn : am_T := fun as L σ post => ∃ m x, as = [.ref 0, .int x] ∧ L = LM ∧ m < 1000000 ∧ σ 0 3 = nI m ∧ post (some (.int (sw_b2 (sw_ix x 0 m).isSome))) L σ
theorem ct_misBarn (l : Launch) : am_Ct l 1 yX7_isBarn cX7_isBarn 2 (some .boolean) tr_misBarn := by
  refine am_ct tbX7_isBarn (am_G [tr_min]) (by decide +kernel) (by simp) rfl dtX7_isBarn rfl ckX7_isBarn lkX7_isBarn (am_cokF [(10, some (.invokestatic 99), 0, 3, 0, 0)] rfl (List.forall_mem_cons.mpr ⟨Or.inr (Or.inr (Or.inr ⟨0, _, _, _, _, by decide, (ct_min l), lnX7_99⟩)), fun _ h => absurd h List.not_mem_nil⟩)) ?_
  intro as L σ post h
  obtain ⟨m, x, rfl, rfl, hm, e1, h⟩ := h
  refine ⟨by simp [am_lv0], fun WW hw => hw 30 _ _ _ _ _ ?_⟩
  conv => whnf
  rw [e1]
  refine ⟨_, _, _, x.toInt, ((0 : Nat) : Int), _, rfl, Int32.toInt_toInt64 x, rfl, nI_less1 hm, ?_⟩
  conv => whnf
  rw [sw_isIx x 0 m rfl]
  cases hx : sw_ix x 0 m with
  | none => rw [hx] at h; exact ⟨Or.inl rfl, h⟩
  | some j => rw [hx] at h; exact ⟨Or.inr rfl, h⟩
def tr_misCounty : am_T := fun as L σ post => ∃ m x, as = [.ref 0, .int x] ∧ L = LM ∧ m < 1000000 ∧ σ 0 0 = nI m ∧ post (some (.int (sw_b2 (sw_ix x 0 m).isSome))) L σ
theorem ct_misCounty (l : Launch) : am_Ct l 1 yX7_isCounty cX7_isCounty 2 (some .boolean) tr_misCounty := by
  refine am_ct tbX7_isCounty (am_G [tr_min]) (by decide +kernel) (by simp) rfl dtX7_isCounty rfl ckX7_isCounty lkX7_isCounty (am_cokF [(10, some (.invokestatic 99), 0, 3, 0, 0)] rfl (List.forall_mem_cons.mpr ⟨Or.inr (Or.inr (Or.inr ⟨0, _, _, _, _, by decide, (ct_min l), lnX7_99⟩)), fun _ h => absurd h List.not_mem_nil⟩)) ?_
  intro as L σ post h
  obtain ⟨m, x, rfl, rfl, hm, e1, h⟩ := h
  refine ⟨by simp [am_lv0], fun WW hw => hw 30 _ _ _ _ _ ?_⟩
  conv => whnf
  rw [e1]
  refine ⟨_, _, _, x.toInt, ((0 : Nat) : Int), _, rfl, Int32.toInt_toInt64 x, rfl, nI_less1 hm, ?_⟩
  conv => whnf
  rw [sw_isIx x 0 m rfl]
  cases hx : sw_ix x 0 m with
  | none => rw [hx] at h; exact ⟨Or.inl rfl, h⟩
  | some j => rw [hx] at h; exact ⟨Or.inr rfl, h⟩
theorem ct_mfault (l : Launch) (A : sw_A) : am_Ct l 0 yX7_fault cX7_fault 1 (some .int) (trM [.ref 0] A (st_fault A)) := by
  refine am_ct tbX7_fault (am_G []) (by decide +kernel) (by simp) rfl dtX7_fault rfl ckX7_fault lkX7_fault (am_nocalls rfl) ?_
  intro as L σ post h
  obtain ⟨rfl, rfl, hR, h⟩ := h
  refine ⟨by simp [am_lv0], fun WW hw => hw 60 _ _ _ _ _ ?_⟩
  obtain ⟨⟨tl, tx, fp⟩, ⟨cn, st, mn, m, c, e, k, R, rn⟩, F, sd, U, I, E1, E2, E3⟩ := A
  have h1 := h σ hR
  obtain ⟨⟨t1, t2, t3⟩, -⟩ := hR
  conv => whnf
  rw [t3]
  exact h1
theorem ct_mfeed (l : Launch) (A : sw_A) (hA : okA A) (x : Int32) : am_Ct l 1 yX7_feed cX7_feed 2 (some .int) (trM [.ref 0, .int x] A (st_feed A x)) := by
  refine am_ct tbX7_feed (am_G [tr_min]) (by decide +kernel) (by simp) rfl dtX7_feed rfl ckX7_feed lkX7_feed (am_cokF [(6, some (.invokestatic 99), 0, 3, 0, 0)] rfl (List.forall_mem_cons.mpr ⟨Or.inr (Or.inr (Or.inr ⟨0, _, _, _, _, by decide, (ct_min l), lnX7_99⟩)), fun _ h => absurd h List.not_mem_nil⟩)) ?_
  intro as L σ post h
  obtain ⟨rfl, rfl, hR, h⟩ := h
  refine ⟨by simp [am_lv0], fun WW hw => hw 60 _ _ _ _ _ ?_⟩
  obtain ⟨⟨tl, tx, fp⟩, ⟨cn, st, mn, m, c, e, k, R, rn⟩, F, sd, U, I, E1, E2, E3⟩ := A
  obtain ⟨⟨t1, t2, t3⟩, hD, hF, hS, hU, hI, h1, h2, h3⟩ := id hR
  dsimp only at t1 t2 t3
  have ht : tl ≤ 240 := hA.1
  conv => whnf
  refine ⟨_, _, _, x.toInt, ((0 : Nat) : Int), 255, rfl, Int32.toInt_toInt64 x, rfl, rfl, ?_⟩
  rw [sw_isIx x 0 256 (hi := 255) rfl]
  cases hx : sw_ix x 0 256 with
  | none =>
    simp only [st_feed, hx] at h
    conv => whnf
    refine ⟨fun c => absurd rfl c, fun _ => ?_⟩
    exact h σ hR
  | some j =>
    obtain ⟨-, hj, rfl⟩ := sw_ix_some hx
    simp only [st_feed, hx] at h
    conv => whnf
    refine ⟨fun _ => ?_, fun c => absurd c sw_t0⟩
    have c240 : nI tl = 240 ↔ tl = 240 := nI_eq' (b := 240) (by omega) (by decide)
    conv => whnf
    rw [t1]
    refine ⟨fun c => ?_, fun c => ?_⟩
    · have c : ¬ tl = 240 := fun q => c (c240.2 q)
      rw [if_neg c] at h
      conv => whnf
      rw [t1]
      refine ⟨vp_j (by omega) (by decide), ?_⟩
      conv => whnf
      rw [am_us, up_s, am_un _ _ _ _ (by decide), t1, nI_1, nI_cl (by omega)]
      have hf : fm [6] [12] σ (am_up (am_up σ 6 (upd (σ 6) tl (nI j))) 0 (upd (am_up σ 6 (upd (σ 6) tl (nI j)) 0) 12 (nI (tl + 1)))) := fm_w0 (fm_up _ (fm_rf _ _ _) (by decide) (by decide)) (by decide)
      refine h _ ⟨⟨?_, fun i hi => ?_, ?_⟩, ?_⟩
      · rw [am_us, up_s]
      · rw [am_un _ _ _ _ (by decide), am_us]
        show upd (σ 6) tl (nI j) i = nI (va_up tx tl j i)
        by_cases hi2 : i = tl
        · subst hi2; rw [up_s, up_vs]
        · rw [up_n _ _ _ _ hi2, up_vn _ _ _ _ hi2]
          have hi : i < tl + 1 := hi
          exact t2 i (by omega)
      · exact (fm_k hf 13 rfl).trans t3
      · exact ⟨rmD_fr (fm_k hf 0 rfl) (fm_k hf 1 rfl) (fm_k hf 2 rfl) (fm_k hf 3 rfl) (fm_k hf 7 rfl) (fm_d hf 1 rfl (by decide)) (fm_d hf 2 rfl (by decide)) (fm_d hf 3 rfl (by decide)) (fm_d hf 4 rfl (by decide)) hD, sw_FM_fr (fm_d hf 5 rfl (by decide)) hF, (fm_k hf 10 rfl).trans hS, rmU_fr (fm_k hf 27 rfl) (fm_d hf 15 rfl (by decide)) hU, rmI_fr (fm_d hf 25 rfl (by decide)) (fm_d hf 26 rfl (by decide)) hI, rmE_fr (fm_k hf 33 rfl) (fm_d hf 19 rfl (by decide)) (fm_d hf 20 rfl (by decide)) h1, rmE_fr (fm_k hf 36 rfl) (fm_d hf 21 rfl (by decide)) (fm_d hf 22 rfl (by decide)) h2, rmE_fr (fm_k hf 41 rfl) (fm_d hf 23 rfl (by decide)) (fm_d hf 24 rfl (by decide)) h3⟩
    · have c : tl = 240 := c240.1 c
      rw [if_pos c] at h
      conv => whnf
      exact h σ hR
def tr_msumOf : am_T := fun as L σ post => ∃ m o n, as = [.ref 0, .int (nI o)] ∧ L = LM ∧ m ≤ 8 ∧ o ≤ 16 ∧ σ 0 3 = nI m ∧ (∀ j, j < m → σ 5 (o + j) = nI (n j)) ∧ post (some (.int (nI (sw_sum n m)))) L σ
theorem ct_msumOf (l : Launch) : am_Ct l 0 yX7_sumOf cX7_sumOf 4 (some .int) tr_msumOf := by
  refine am_ct tbX7_sumOf (am_G []) (by decide +kernel) (by simp) rfl dtX7_sumOf rfl ckX7_sumOf lkX7_sumOf (am_nocalls rfl) ?_
  intro as L σ post h
  obtain ⟨m, o, n, rfl, rfl, hm, ho, e1, e2, h⟩ := h
  refine ⟨by simp [am_lv0], fun WW hw => ?_⟩
  have key : ∀ d i, d + i = m → WW 5 [some (.ref 0), some (.int (nI o)), some (.int (nI (sw_sum n i))), some (.int (nI i))] [] LM σ := by
    intro d
    induction d with
    | zero =>
      intro i hi
      refine hw 60 _ _ _ _ _ ?_
      conv => whnf
      rw [e1]
      have c := nI_le' (a := m) (b := i) (by omega) (by omega)
      refine ⟨fun _ => ?_, fun q => absurd (c.2 (by omega)) q⟩
      conv => whnf
      have hi : i = m := by omega
      subst hi; exact h
    | succ d ih =>
      intro i hi
      refine hw 60 _ _ _ _ _ ?_
      conv => whnf
      rw [e1]
      have c := nI_le' (a := m) (b := i) (by omega) (by omega)
      refine ⟨fun q => absurd (c.1 q) (by omega), fun _ => ?_⟩
      conv => whnf
      rw [nI_add]
      refine ⟨vp_j (by omega) (by decide), ?_⟩
      conv => whnf
      rw [nI_cl (by omega), e2 i (by omega), nI_add, nI_1]
      exact ih (i + 1) (by omega)
  refine hw 60 _ _ _ _ _ ?_
  conv => whnf
  exact key m 0 (by omega)
set_option maxHeartbeats 2000000 in
theorem ct_mtold (l : Launch) (A : sw_A) (hA : okA A) (x : Int32) : am_Ct l 1 yX7_told cX7_told 2 (some .int) (trM [.ref 0, .int x] A (st_told A x)) := by
  refine am_ct tbX7_told (am_G [tr_msumOf]) (by decide +kernel) (by simp) rfl dtX7_told rfl ckX7_told lkX7_told (am_cokF [(137, some (.invokevirtual 180), 0, 2, 7, 0), (152, some (.invokevirtual 180), 0, 2, 7, 0)] rfl (List.forall_mem_cons.mpr ⟨⟨0, _, _, _, _, by decide, (ct_msumOf l), lnX7_180⟩, List.forall_mem_cons.mpr ⟨⟨0, _, _, _, _, by decide, (ct_msumOf l), lnX7_180⟩, fun _ h => absurd h List.not_mem_nil⟩⟩)) ?_
  intro as L σ post h
  obtain ⟨rfl, rfl, hR, h⟩ := h
  refine ⟨by simp [am_lv0], fun WW hw => hw 60 _ _ _ _ _ ?_⟩
  obtain ⟨⟨tl, tx, fp⟩, ⟨cn, st, mn, m, c, e, k, R, rn⟩, ⟨n, g, f, s, lo, y⟩, sd, ⟨un, U⟩, I, ⟨n1, w1, v1⟩, ⟨n2, w2, v2⟩, ⟨n3, w3, v3⟩⟩ := A
  obtain ⟨⟨t1, t2, t3⟩, ⟨⟨d1, d2, d3, d4, d5⟩, d6, d7, d8, d9⟩, ⟨f1, f2, f3, f4, f5, f6⟩, hS, ⟨u1, u2, u3⟩, hI, ⟨a1, -⟩, ⟨a2, -⟩, ⟨a3, -⟩⟩ := id hR
  obtain ⟨-, -, ⟨hcn, hm, -, -, -, -, -, hR0, hR8, -⟩, ⟨hFk, hy⟩, -⟩ := hA
  dsimp only at t1 t2 t3 f1 f2 f3 f4 f5 f6 u1 u2 u3 a1 a2 a3 hFk hy
  have v26 : vp_in 26 27 := vp_j (j := 26) (by decide) (by decide)
  have v24 : vp_in 24 27 := vp_j (j := 24) (by decide) (by decide)
  have v25 : vp_in 25 27 := vp_j (j := 25) (by decide) (by decide)
  have c26 : (26 : Int32).toNatClampNeg = 26 := by decide
  have c24 : (24 : Int32).toNatClampNeg = 24 := by decide
  have c25 : (25 : Int32).toNatClampNeg = 25 := by decide
  have hne : ¬ σ 0 7 = 0 := by rw [d8]; exact nI_ne0 hR0 (by omega)
  have hrem : nI y - nI y / nI R * nI R = nI (y % R) := pk_rem (by omega) hR0 (by omega)
  have hlt : y % R < R := Nat.mod_lt _ hR0
  cases hx : sw_ix x 0 15 with
  | none =>
    have hn := sw_ix_none hx
    simp only [st_told, hx] at h
    conv => whnf
    refine ⟨fun _ => h σ hR, ?_⟩
    repeat (refine And.intro (fun q => ?_) ?_; · omega)
    trivial
  | some w =>
    obtain ⟨-, hw15, rfl⟩ := sw_ix_some hx
    simp only [st_told, hx] at h
    have h := h σ hR
    conv => whnf
    rw [nI_toInt (by omega)]
    refine ⟨fun q => by omega, fun q => ?_, fun q => ?_, fun q => ?_, fun q => ?_, fun q => ?_, fun q => ?_, fun q => ?_, fun q => ?_, fun q => ?_, fun q => ?_, fun q => ?_, fun q => ?_, fun q => ?_, fun q => ?_, fun q => ?_, trivial⟩
    all_goals
      have hwq : w = _ := Int.ofNat.inj q
      subst hwq
      repeat ((conv => whnf); refine And.intro ?_ ?_; first | with_reducible assumption | decide)
      conv => whnf
    · rw [d2]; exact h
    · rw [d6]; exact h
    · rw [d7]; exact h
    · rw [d1]; exact h
    · rw [t1]; exact h
    · rw [c26, f6]; exact h
    · rw [c26, f6, d8, hrem, nI_cl (by omega), d9 _ hlt]
      exact ⟨vp_j (by omega) (by decide), h⟩
    · rw [c24, f4]; exact h
    · refine ⟨m, 0, n, rfl, rfl, hm, by omega, d1, fun j hj => by rw [Nat.zero_add]; exact f1 j hj, ?_⟩
      conv => whnf
      exact h
    · rw [c25, f5]; exact h
    · refine ⟨m, 8, g, rfl, rfl, hm, by omega, d1, f2, ?_⟩
      conv => whnf
      exact h
    · rw [a1]; exact h
    · rw [a2]; exact h
    · rw [a3]; exact h
    · rw [u2]; exact h
set_option maxHeartbeats 2000000 in
theorem ct_mbarn (l : Launch) (A : sw_A) (hA : okA A) (b x : Int32) : am_Ct l 2 yX7_barn cX7_barn 3 (some .int) (trM [.ref 0, .int b, .int x] A (st_barn A b x)) := by
  refine am_ct tbX7_barn (am_G [tr_misBarn]) (by decide +kernel) (by simp) rfl dtX7_barn rfl ckX7_barn lkX7_barn (am_cokF [(2, some (.invokevirtual 184), 0, 2, 7, 0)] rfl (List.forall_mem_cons.mpr ⟨⟨1, _, _, _, _, by decide, (ct_misBarn l), lnX7_184⟩, fun _ h => absurd h List.not_mem_nil⟩)) ?_
  intro as L σ post h
  obtain ⟨rfl, rfl, hR, h⟩ := h
  refine ⟨by simp [am_lv0], fun WW hw => hw 60 _ _ _ _ _ ?_⟩
  obtain ⟨T, ⟨cn, st, mn, m, c, e, k, R, rn⟩, ⟨n, g, f, s, lo, y⟩, P⟩ := A
  obtain ⟨hT, ⟨⟨d1, d2, d3, d4, d5⟩, d6, d7, d8, d9⟩, ⟨f1, f2, f3, f4, f5, f6⟩, hP⟩ := id hR
  obtain ⟨-, -, ⟨hcn, hm, -⟩, -⟩ := hA
  dsimp only at f1 f2 f3 f4 f5 f6
  have v24 : vp_in 24 27 := vp_j (j := 24) (by decide) (by decide)
  have c24 : (24 : Int32).toNatClampNeg = 24 := by decide
  conv => whnf
  refine ⟨m, b, rfl, rfl, by omega, d1, ?_⟩
  cases hb : sw_ix b 0 m with
  | none =>
    simp only [st_barn, hb] at h
    conv => whnf
    refine ⟨fun c => absurd rfl c, fun _ => ?_⟩
    exact h σ hR
  | some j =>
    obtain ⟨-, hj, rfl⟩ := sw_ix_some hb
    conv => whnf
    refine ⟨fun _ => ?_, fun c => absurd c sw_t0⟩
    have vj : vp_in (nI j) 8 := vp_j (by omega) (by decide)
    have vj8 : vp_in (8 + nI j) 27 := by rw [nI_8]; exact vp_j (by omega) (by decide)
    have vj16 : vp_in (16 + nI j) 27 := by rw [nI_16]; exact vp_j (by omega) (by decide)
    have vj27 : vp_in (nI j) 27 := vp_j (by omega) (by decide)
    have hcl : (nI j).toNatClampNeg = j := nI_cl (by omega)
    cases hx : sw_ix x 0 7 with
    | none =>
      have hn := sw_ix_none hx
      simp only [st_barn, hb, hx] at h
      conv => whnf
      refine ⟨fun _ => h σ hR, ?_⟩
      repeat (refine And.intro (fun q => ?_) ?_; · omega)
      trivial
    | some w =>
      obtain ⟨-, hw7, rfl⟩ := sw_ix_some hx
      simp only [st_barn, hb, hx] at h
      have h := h σ hR
      conv => whnf
      rw [nI_toInt (by omega)]
      refine ⟨fun q => by omega, fun q => ?_, fun q => ?_, fun q => ?_, fun q => ?_, fun q => ?_, fun q => ?_, fun q => ?_, trivial⟩
      all_goals
        have hwq : w = _ := Int.ofNat.inj q
        subst hwq
        repeat ((conv => whnf); refine And.intro ?_ ?_; first | with_reducible assumption | decide)
        conv => whnf
      · rw [hcl, d3 j hj]; exact h
      · rw [hcl, d4 j hj]; exact h
      · rw [hcl, f1 j hj]; exact h
      · rw [nI_16, nI_cl (by omega), f3 j hj]; exact h
      · rw [hcl, d5 j hj]; exact h
      · rw [nI_8, nI_cl (by omega), f2 j hj]; exact h
      · rw [c24, f4]
        rcases sw_and1 (s >>> (nI j &&& 31)) with c | c
        · rw [sw_bit_f c] at h; rw [c]; exact h
        · rw [sw_bit_t (fun h0 => by rw [h0] at c; exact absurd c (by decide))] at h; rw [c]; exact h
