/-! THE REFERENCE: mud tried -/
theorem nI_m1 (k : Nat) : nI (k + 1) + (-1) = nI k := by
  rw [← nI_1 k, Int32.add_assoc, show (1 : Int32) + (-1) = 0 by decide, Int32.add_zero]
def tr_mfigure : am_T := fun as L σ post => ∃ z b, as = [.int (nI z), .int (nI b)] ∧ z < 1679616 ∧ b < 8 ∧ post (some (.int (nI (md_dv z (7 - b) % 6)))) L σ
theorem md_dv_le (z : Nat) : ∀ k, md_dv z k ≤ z
  | 0 => Nat.le_refl _
  | k + 1 => Nat.le_trans (Nat.div_le_self _ _) (md_dv_le z k)
theorem ct_mfigure (l : Launch) : am_Ct l 0 yX7_figure cX7_figure 4 (some .int) tr_mfigure := by
  refine am_ct tbX7_figure (am_G []) (by decide +kernel) (by simp) rfl dtX7_figure rfl ckX7_figure lkX7_figure (am_nocalls rfl) ?_
  intro as L σ post h
  obtain ⟨z, b, rfl, hz, hb, h⟩ := h
  refine ⟨by simp [am_lv0], fun WW hw => ?_⟩
  have n6 : ¬ (6 : Int32) = 0 := by decide
  have loop : ∀ d k, b + d = k → k ≤ 7 → WW 5 [some (.int (nI z)), some (.int (nI b)), some (.int (nI (md_dv z (7 - k)))), some (.int (nI k))] [] L σ := by
    intro d
    induction d with
    | zero =>
      intro k hk h7
      have ek : k = b := by omega
      subst ek
      have hle := md_dv_le z (7 - k)
      refine hw 60 _ _ _ _ _ ?_
      conv => whnf
      refine ⟨fun _ => ?_, fun c => absurd (Int32.le_refl _) c⟩
      repeat ((conv => whnf); refine And.intro ?_ ?_; first | with_reducible assumption | decide)
      conv => whnf
      rw [show nI (md_dv z (7 - k)) - nI (md_dv z (7 - k)) / 6 * 6 = nI (md_dv z (7 - k) % 6) from pk_rem (d := 6) (by omega) (by decide) (by decide)]
      exact h
    | succ d ih =>
      intro k hk h7
      obtain ⟨k', rfl⟩ : ∃ k', k = k' + 1 := ⟨k - 1, by omega⟩
      have hle := md_dv_le z (7 - (k' + 1))
      refine hw 60 _ _ _ _ _ ?_
      conv => whnf
      refine ⟨fun c => absurd ((nI_le' (by omega) (by omega)).1 c) (by omega), fun _ => ?_⟩
      repeat ((conv => whnf); refine And.intro ?_ ?_; first | with_reducible assumption | decide)
      conv => whnf
      rw [nI_m1, show nI (md_dv z (7 - (k' + 1))) / 6 = nI (md_dv z (7 - (k' + 1)) / 6) from pk_div (d := 6) (by omega) (by decide) (by decide)]
      have := ih k' (by omega) (by omega)
      rw [show 7 - k' = (7 - (k' + 1)) + 1 by omega, md_dv] at this
      exact this
  refine hw 60 _ _ _ _ _ ?_
  conv => whnf
  exact loop (7 - b) 7 (by omega) (by omega)
def tr_mcodeOf : am_T := fun as L σ post => ∃ v, as = [.ref 0] ∧ L = LM ∧ (∀ j, j < 8 → σ 18 j = nI (v j)) ∧ post (some (.int (nI (md_cd v 8)))) L σ
theorem ct_mcodeOf (l : Launch) : am_Ct l 0 yX7_codeOf cX7_codeOf 3 (some .int) tr_mcodeOf := by
  refine am_ct tbX7_codeOf (am_G []) (by decide +kernel) (by simp) rfl dtX7_codeOf rfl ckX7_codeOf lkX7_codeOf (am_nocalls rfl) ?_
  intro as L σ post h
  obtain ⟨v, rfl, rfl, h18, h⟩ := h
  refine ⟨by simp [am_lv0], fun WW hw => ?_⟩
  have loop : ∀ d i, d + i = 8 → WW 5 [some (.ref 0), some (.int (nI (md_cd v i))), some (.int (nI i))] [] LM σ := by
    intro d
    induction d with
    | zero =>
      intro i hi
      have ei : i = 8 := by omega
      subst ei
      refine hw 60 _ _ _ _ _ ?_
      conv => whnf
      refine ⟨fun _ => ?_, fun c => absurd (Int32.le_refl _) c⟩
      conv => whnf
      exact h
    | succ d ih =>
      intro i hi
      have vi : vp_in (nI i) 8 := vp_j (by omega) (by decide)
      have ci : (nI i).toNatClampNeg = i := nI_cl (by omega)
      refine hw 60 _ _ _ _ _ ?_
      conv => whnf
      refine ⟨fun c => absurd c (nI_ge (b := 8) (by omega) (by decide)), fun _ => ?_⟩
      repeat ((conv => whnf); refine And.intro ?_ ?_; first | with_reducible assumption | decide)
      conv => whnf
      rw [ci, h18 i (by omega), nI_1, show 6 * nI (md_cd v i) = nI (6 * md_cd v i) from pk_mul 6 _, nI_add]
      exact ih (i + 1) (by omega)
  refine hw 60 _ _ _ _ _ ?_
  conv => whnf
  exact loop 8 0 (by omega)
def tr_mbrings : am_T := fun as L σ post => ∃ (cn st mn m : Nat) (c e k : Nat → Nat) (R : Nat) (rn : Nat → Nat) (F : sw_F) (q seats : Nat) (v : Nat → Nat), as = [.ref 0, .int (nI q), .int (nI (md_cd v 8)), .int (nI seats)] ∧ L = LM ∧ rmD (cn, st, mn, m, c, e, k, R, rn) σ ∧ okD (cn, st, mn, m, c, e, k, R, rn) ∧ sw_FM σ m F ∧ okF m e F ∧ q < cn ∧ (∀ j, j < 8 → v j ≤ 5) ∧ md_ok (cn, st, mn, m, c, e, k, R, rn) q v ∧ seats < 1000 ∧ (∀ p, p < 27 → σ 16 p = σ 5 p) ∧ ∀ σ', fm [5, 14] [] σ σ' → (∀ p, p < 27 → σ' 5 p = σ 5 p) → post (some (.int (sw_b2 (decide (seats < md_S (cn, st, mn, m, c, e, k, R, rn) F q v))))) L σ'
set_option maxHeartbeats 1000000 in
theorem ct_mbrings (l : Launch) : am_Ct l 4 yX7_brings cX7_brings 6 (some .boolean) tr_mbrings := by
  refine am_ct tbX7_brings (am_G [tr_mfigure, tr_mpass, tr_msouls, tr_mputBack]) (by decide +kernel) (by simp) rfl dtX7_brings rfl ckX7_brings lkX7_brings (am_cokF [(15, some (.invokestatic 287), 0, 2, 0, 0), (69, some (.invokevirtual 222), 1, 1, 7, 0), (74, some (.invokevirtual 260), 2, 2, 7, 0), (85, some (.invokevirtual 263), 3, 1, 7, 0)] rfl (List.forall_mem_cons.mpr ⟨Or.inr (Or.inr (Or.inr ⟨0, _, _, _, _, by decide, (ct_mfigure l), lnX7_287⟩)), List.forall_mem_cons.mpr ⟨⟨3, _, _, _, _, by decide, (ct_mpass l), lnX7_222⟩, List.forall_mem_cons.mpr ⟨⟨0, _, _, _, _, by decide, (ct_msouls l), lnX7_260⟩, List.forall_mem_cons.mpr ⟨⟨0, _, _, _, _, by decide, (ct_mputBack l), lnX7_263⟩, fun _ h => absurd h List.not_mem_nil⟩⟩⟩⟩)) ?_
  intro as L σ post h
  obtain ⟨cn, st, mn, m, c, e, k, R, rn, F, q, seats, v, rfl, rfl, hD, hokD, hF, hokF, hq, hv5, hvo, hse, h16, h⟩ := h
  refine ⟨by simp [am_lv0], fun WW hw => ?_⟩
  obtain ⟨hcn, hm, -, hpos, hst, hmn, hB, hR0, hR8, hrn⟩ := id hokD
  obtain ⟨hFk, hy⟩ := id hokF
  have he : ∀ b, b < m → e b ≤ 40 := fun b hb => (hB b hb).2.1
  have hp0 := hpos (by omega)
  have hyr := md_yr_ok (q := q) (v := v) hokD hokF
  have hSb := md_S_le (q := q) (v := v) hokD hokF
  have hcd := md_cd8 hv5
  have loop : ∀ (kk i : Nat) (z : Int32) (σ1 : am_M), i + kk = m → z = nI i → am_fr [5] σ σ1 → sw_FM σ1 m (sw_far F (fun b => if b < i then md_far c q v F.2.2.1 b else F.2.2.1 b)) → WW 3 [some (.ref 0), some (.int (nI q)), some (.int (nI (md_cd v 8))), some (.int (nI seats)), some (.int z)] [] LM σ1 := by
    intro kk
    induction kk with
    | zero =>
      intro i z σ1 hi hz hf hF1
      have ei : i = m := by omega
      subst ei; subst hz
      have hF1' : sw_FM σ1 i (sw_far F (md_far c q v F.2.2.1)) := sw_FM_congr hF1 (fun _ _ => rfl) (fun _ _ => rfl) (fun j hj => if_pos hj) rfl
      have hf1' : fm [5, 14] [] σ σ1 := fm_fr (fm_rf _ _ _) hf (by decide) rfl
      have hD1 := rmD_junk (fm_tr (fm_rf _ _ _) hf1' (by decide) (by decide)) hD
      refine hw 60 _ _ _ _ _ ?_
      conv => whnf
      rw [hD1.1.1]
      refine ⟨fun _ => ?_, fun c => absurd (Int32.le_refl _) c⟩
      conv => whnf
      refine ⟨i, cn, c, e, k, sw_far F (md_far c q v F.2.2.1), R, rn, rfl, rfl, hD1.1, ⟨hm, hcn, hB⟩, hF1', ?_, hR0, hR8, hD1.2.2.2.1, fun t ht => ⟨hD1.2.2.2.2 t ht, hrn t ht⟩, by show F.2.2.2.2.2 < 100000; omega, fun σ2 hf2 hF2 => ?_⟩
      · intro b hb
        have h1 := hFk b hb
        have h2 := he b hb
        exact ⟨h1.1, by show F.2.1 b ≤ 40; omega, by show md_far c q v F.2.2.1 b < 100; unfold md_far; split <;> omega⟩
      · have hf2' : fm [5, 14] [] σ σ2 := fm_fr hf1' hf2 (by decide) rfl
        have hD2 := rmD_junk (fm_tr (fm_rf _ _ _) hf2' (by decide) (by decide)) hD
        have hF2' : sw_FM σ2 i (sw_yr i cn c e k (rn (F.2.2.2.2.2 % R)) (sw_far F (md_far c q v F.2.2.1))) := hF2
        have hSS : md_S (cn, st, mn, i, c, e, k, R, rn) F q v = sw_cs (sw_yr i cn c e k (rn (F.2.2.2.2.2 % R)) (sw_far F (md_far c q v F.2.2.1))).1 c q i / st := rfl
        have hV := sw_cs_le (c := c) (q := q) i hyr
        rw [hSS] at h hSb
        generalize sw_yr i cn c e k (rn (F.2.2.2.2.2 % R)) (sw_far F (md_far c q v F.2.2.1)) = G at hF2' hV h hSb
        conv => whnf
        refine ⟨q, i, c, G.1, rfl, rfl, by omega, hm, hD2.1.1, fun b hb => ⟨hD2.1.2.2.1 b hb, by have := (hB b hb).1; omega⟩, hF2'.1, ?_⟩
        conv => whnf
        rw [hD2.2.1, nI_d (by omega) hp0.1 (by omega)]
        refine ⟨nI_ne0 hp0.1 (by omega), ?_⟩
        conv => whnf
        refine ⟨rfl, rfl, fun σ3 hf3 h53 => ?_⟩
        have h := h σ3 (fm_fr hf2' hf3 (by decide) rfl) (fun p hp => by rw [h53 p hp, am_frd hf2 16 rfl, am_frd hf 16 rfl]; exact h16 p hp)
        conv => whnf
        rw [nI_le' (by omega) (by omega)]
        refine ⟨fun cc => ?_, fun cc => ?_⟩
        · rw [decide_eq_false (by omega)] at h
          conv => whnf
          exact ⟨Or.inl rfl, h⟩
        · rw [decide_eq_true (by omega)] at h
          conv => whnf
          exact ⟨Or.inr rfl, h⟩
    | succ kk ih =>
      intro i z σ1 hi hz hf hF1
      subst hz
      have him : i < m := by omega
      have v16 : vp_in (16 + nI i) 27 := by rw [nI_16]; exact vp_j (by omega) (by decide)
      have c16 : (16 + nI i).toNatClampNeg = 16 + i := by rw [nI_16]; exact nI_cl (by omega)
      have hvi := hv5 i (by omega)
      have hfi := (hFk i him).2.2
      have ih' := fun σ2 => ih (i + 1) (nI i + 1) σ2 (by omega) (nI_1 i)
      have hfar : md_far c q v F.2.2.1 i = F.2.2.1 i - v i := by
        unfold md_far
        by_cases hc : c i = q
        · rw [if_pos hc]
        · rw [if_neg hc, hvo i (fun hh => hc hh.2)]; rfl
      have g3i : σ1 5 (16 + i) = nI (F.2.2.1 i) := by rw [hF1.2.2.1 i him]; exact congrArg nI (if_neg (by omega))
      have M : ∀ x : Int32, x = nI (F.2.2.1 i - v i) → WW 35 [some (.ref 0), some (.int (nI q)), some (.int (nI (md_cd v 8))), some (.int (nI seats)), some (.int (nI i)), some (.int (nI (v i)))] [.int x, .int (16 + nI i), .ref 5] LM σ1 := by
        intro x hx
        subst hx
        refine hw 60 _ _ _ _ _ ?_
        repeat ((conv => whnf); refine And.intro ?_ ?_; first | with_reducible assumption | decide)
        conv => whnf
        rw [c16]
        exact ih' (am_w σ1 5 (16 + i) (nI (F.2.2.1 i - v i))) (aw_fr hf (by decide)) (sw_FM_step hm him hfar.symm hF1)
      refine hw 60 _ _ _ _ _ ?_
      conv => whnf
      rw [am_frd hf 0 rfl, hD.1.1]
      refine ⟨fun c => absurd c (nI_ge him (by omega)), fun _ => ?_⟩
      conv => whnf
      refine ⟨md_cd v 8, i, rfl, hcd, by omega, ?_⟩
      rw [md_fig (by omega) hv5]
      repeat ((conv => whnf); refine And.intro ?_ ?_; first | with_reducible assumption | decide)
      conv => whnf
      rw [c16, g3i, nI_le' (by omega) (by omega)]
      refine ⟨fun c3 => ?_, fun c3 => ?_⟩
      · conv => whnf
        exact M _ (by rw [show F.2.2.1 i - v i = 0 by omega]; rfl)
      · repeat ((conv => whnf); refine And.intro ?_ ?_; first | with_reducible assumption | decide)
        conv => whnf
        exact M _ (by rw [c16, g3i]; exact pk_sub (by omega))
  refine hw 60 _ _ _ _ _ ?_
  conv => whnf
  exact loop m 0 0 σ (Nat.zero_add _) rfl (am_fr_rf _ _) (sw_FM_congr hF (fun _ _ => rfl) (fun _ _ => rfl) (fun j hj => rfl) rfl)
/-! the next row -/
theorem sw_sum_up2 {v : Nat → Nat} {i x : Nat} : ∀ n, i < n → sw_sum (va_up v i x) n + v i = sw_sum v n + x
  | 0, hi => absurd hi (Nat.not_lt_zero i)
  | n + 1, hi => by
    rw [sw_sum, sw_sum]
    by_cases e : i = n
    · subst e
      rw [up_vs]
      have : ∀ n, n ≤ i → sw_sum (va_up v i x) n = sw_sum v n := by
        intro n
        induction n with
        | zero => intro _; rfl
        | succ n ih => intro hn; rw [sw_sum, sw_sum, ih (by omega), up_vn _ _ _ _ (by omega)]
      rw [this i (Nat.le_refl i)]; omega
    · have ih := sw_sum_up2 (v := v) (i := i) (x := x) n (by omega)
      rw [up_vn _ _ _ _ (fun q => e q.symm)]; omega
theorem md_sum_gt {v w : Nat → Nat} {i : Nat} (hi : i < 8) (ha : ∀ j, j < i → v j = w j) (hlt : v i < w i) (h0 : ∀ j, i < j → j < 8 → v j = 0) : sw_sum v 8 < sw_sum w 8 := by
  have h1 := sw_sum_le 8 (v := v) (w := w) (fun j hj => by
    by_cases h : j < i
    · rw [ha j h]; exact Nat.le_refl _
    · by_cases h2 : j = i
      · subst h2; omega
      · rw [h0 j (by omega) hj]; exact Nat.zero_le _)
  rcases Nat.lt_or_ge (sw_sum v 8) (sw_sum w 8) with h | h
  · exact h
  · have := h1.2 (by have := h1.1; omega) i hi
    omega
theorem md_lt_first {v w : Nat → Nat} (h5 : ∀ j, j < 8 → w j ≤ 5) (h : md_cd v 8 < md_cd w 8) : ∃ i, i < 8 ∧ (∀ j, j < i → v j = w j) ∧ v i < w i := by
  rcases md_first (v := v) (w := w) 8 with h1 | ⟨i, h1, h2, h3⟩
  · rw [md_cd_eq 8 h1] at h; omega
  · refine ⟨i, h1, h2, ?_⟩
    rcases Nat.lt_or_ge (v i) (w i) with q | q
    · exact q
    · have := md_lex8 (v := w) (w := v) h1 (fun j hj => (h2 j hj).symm) (by omega) h5
      omega
def md_sup (O : Nat) (w : Nat → Nat) : Prop := ∀ j, O.testBit j = false → w j = 0
/-- what comes next -/
theorem md_next {O : Nat} {v : Nat → Nat} {b a l : Nat} (hb8 : b < 8) (hl8 : l < 8) (hab : a < b) (hbl : b ≤ l) (hOa : O.testBit a = true) (hOl : O.testBit l = true) (hv : md_sup O v) (h5 : sw_sum v 8 ≤ 5) (hvb : 0 < v b) (hz : ∀ j, b < j → v j = 0) (hmid : ∀ j, a < j → j < b → O.testBit j = false) (hlast : ∀ j, l < j → O.testBit j = false) :
    md_sup O (va_up (va_up (va_up v b 0) a (v a + 1)) l (v b - 1)) ∧ sw_sum (va_up (va_up (va_up v b 0) a (v a + 1)) l (v b - 1)) 8 = sw_sum v 8 ∧ md_cd v 8 < md_cd (va_up (va_up (va_up v b 0) a (v a + 1)) l (v b - 1)) 8 ∧ ∀ w, md_sup O w → sw_sum w 8 = sw_sum v 8 → md_cd v 8 < md_cd w 8 → md_cd (va_up (va_up (va_up v b 0) a (v a + 1)) l (v b - 1)) 8 ≤ md_cd w 8 := by
  have e1 : ∀ j, j < a → va_up (va_up (va_up v b 0) a (v a + 1)) l (v b - 1) j = v j := fun j hj => by rw [up_vn _ _ _ _ (by omega), up_vn _ _ _ _ (by omega), up_vn _ _ _ _ (by omega)]
  have e2 : va_up (va_up (va_up v b 0) a (v a + 1)) l (v b - 1) a = v a + 1 := by rw [up_vn _ _ _ _ (by omega), up_vs]
  have e3 : ∀ j, a < j → ¬ j = l → va_up (va_up (va_up v b 0) a (v a + 1)) l (v b - 1) j = 0 := fun j hj hjl => by
    rw [up_vn _ _ _ _ hjl, up_vn _ _ _ _ (by omega)]
    by_cases hjb : j = b
    · subst hjb; rw [up_vs]
    · rw [up_vn _ _ _ _ hjb]
      by_cases hlt : j < b
      · exact hv j (hmid j hj hlt)
      · exact hz j (by omega)
  have hsum : sw_sum (va_up (va_up (va_up v b 0) a (v a + 1)) l (v b - 1)) 8 = sw_sum v 8 := by
    have s1 := sw_sum_up2 (v := v) (i := b) (x := 0) 8 hb8
    have s2 := sw_sum_up2 (v := va_up v b 0) (i := a) (x := v a + 1) 8 (by omega)
    have s3 := sw_sum_up2 (v := va_up (va_up v b 0) a (v a + 1)) (i := l) (x := v b - 1) 8 hl8
    rw [up_vn _ _ _ _ (by omega)] at s2
    have : va_up (va_up v b 0) a (v a + 1) l = 0 := by
      rw [up_vn _ _ _ _ (by omega)]
      by_cases hlb : l = b
      · subst hlb; rw [up_vs]
      · rw [up_vn _ _ _ _ hlb]; exact hz l (by omega)
    rw [this] at s3
    omega
  generalize hv' : va_up (va_up (va_up v b 0) a (v a + 1)) l (v b - 1) = v' at *
  have b5 : ∀ j, j < 8 → v j ≤ 5 := md_bnd h5
  have b5' : ∀ j, j < 8 → v' j ≤ 5 := md_bnd (by omega)
  refine ⟨fun j hj => ?_, hsum, md_lex8 (i := a) (by omega) (fun j hj => (e1 j hj).symm) (by omega) b5, fun w hw hws hlt => ?_⟩
  · by_cases h1 : j < a
    · rw [e1 j h1]; exact hv j hj
    · by_cases h2 : j = a
      · subst h2; rw [hOa] at hj; cases hj
      · exact e3 j (by omega) (fun h3 => by subst h3; rw [hOl] at hj; cases hj)
  · have w5 : ∀ j, j < 8 → w j ≤ 5 := md_bnd (by omega)
    obtain ⟨i, i8, ia, ilt⟩ := md_lt_first w5 hlt
    have hib : i < b := by
      rcases Nat.lt_or_ge i b with h | h
      · exact h
      · have := md_sum_gt i8 ia ilt (fun j h1 h2 => hz j (by omega))
        omega
    have hOi : O.testBit i = true := by
      cases hO : O.testBit i with
      | true => rfl
      | false => have := hw i hO; omega
    have hia : i ≤ a := by
      rcases Nat.lt_or_ge a i with h | h
      · have := hmid i h hib
        rw [hOi] at this; cases this
      · exact h
    by_cases hia2 : i = a
    · subst hia2
      by_cases hwa : v' i < w i
      · exact Nat.le_of_lt (md_lex8 i8 (fun j hj => by rw [e1 j hj]; exact ia j hj) hwa b5')
      · have hwi : w i = v' i := by omega
        rcases md_first (v := v') (w := w) 8 with h1 | ⟨i', h1, h2, h3⟩
        · rw [md_cd_eq 8 h1]; exact Nat.le_refl _
        · rcases Nat.lt_or_ge (v' i') (w i') with h4 | h4
          · exact Nat.le_of_lt (md_lex8 h1 h2 h4 b5')
          · exfalso
            have hii : i < i' := by
              rcases Nat.lt_or_ge i i' with h | h
              · exact h
              · exfalso
                by_cases h6 : i' = i
                · subst h6; exact h3 hwi.symm
                · exact h3 (by rw [e1 i' (by omega)]; exact ia i' (by omega))
            have hil : i' = l := by
              by_cases h6 : i' = l
              · exact h6
              · have := e3 i' hii h6
                omega
            subst hil
            have := md_sum_gt (v := w) (w := v') h1 (fun j hj => (h2 j hj).symm) (by omega) (fun j h6 _ => hw j (hlast j h6))
            omega
    · exact Nat.le_of_lt (md_lex8 i8 (fun j hj => by rw [e1 j (by omega)]; exact ia j hj) (by rw [e1 i (by omega)]; exact ilt) b5')
/-- what nothing comes behind -/
theorem md_lastrow {O : Nat} {v : Nat → Nat} {b : Nat} (hb8 : b < 8) (hv : md_sup O v) (hz : ∀ j, b < j → v j = 0) (hno : ∀ j, j < b → O.testBit j = false) (w : Nat → Nat) (hw : md_sup O w) (hs : sw_sum w 8 = sw_sum v 8) (h5 : sw_sum v 8 ≤ 5) : ¬ md_cd v 8 < md_cd w 8 := by
  intro hlt
  obtain ⟨i, i8, ia, ilt⟩ := md_lt_first (md_bnd (by omega)) hlt
  have hib : b ≤ i := by
    rcases Nat.lt_or_ge i b with h | h
    · have := hw i (hno i h); omega
    · exact h
  have := md_sum_gt i8 ia ilt (fun j h1 h2 => hz j (by omega))
  omega
