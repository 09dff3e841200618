/-! CLASS Flock: the parts of a year -/
def tr_isShut : am_T := fun as L σ post => ∃ p b, as = [.ref p, .int (nI b)] ∧ L = LC ∧ (p = 17 ∨ p = 22) ∧ post (some (.int (sw_b2 (sw_bit (σ p 4) b)))) L σ
theorem ct_isShut (l : Launch) : am_Ct l 0 yX1_isShut cX1_isShut 2 (some .boolean) tr_isShut := by
  refine am_ct tbX1_isShut (am_G []) (by decide +kernel) (by simp) rfl dtX1_isShut rfl ckX1_isShut lkX1_isShut (am_nocalls rfl) ?_
  intro as L σ post h
  obtain ⟨p, b, rfl, rfl, hp, h⟩ := h
  refine ⟨by simp [am_lv0], fun WW hw => hw 20 _ _ _ _ _ ?_⟩
  rcases hp with rfl | rfl
  all_goals
    conv => whnf
    refine ⟨fun c => ?_, fun c => ?_⟩
    · conv => whnf
      rw [sw_bit_f c] at h
      exact ⟨Or.inl rfl, h⟩
    · conv => whnf
      rw [sw_bit_t c] at h
      exact ⟨Or.inr rfl, h⟩
def tr_takeByCat : am_T := fun as L σ post => ∃ p a b c d j n, as = [.ref p, .int (nI j)] ∧ L = LC ∧ sw_pl p a b c d ∧ j < 8 ∧ n < 1000 ∧ σ a j = nI n ∧ post none L (am_w (am_w σ a j (nI (n - n / 3))) p 5 (σ p 5 + nI (n / 3)))
theorem ct_takeByCat (l : Launch) : am_Ct l 0 yX1_takeByCat cX1_takeByCat 3 none tr_takeByCat := by
  refine am_ct tbX1_takeByCat (am_G []) (by decide +kernel) (by simp) rfl dtX1_takeByCat rfl ckX1_takeByCat lkX1_takeByCat (am_nocalls rfl) ?_
  intro as L σ post h
  obtain ⟨p, a, b, c, d, j, n, rfl, rfl, hp, hj, hn, e1, h⟩ := h
  refine ⟨by simp [am_lv0], fun WW hw => hw 60 _ _ _ _ _ ?_⟩
  have hi : vp_in (nI j) 8 := vp_j hj (by decide)
  have hc : (nI j).toNatClampNeg = j := nI_cl (by omega)
  have hd : nI n / 3 = nI (n / 3) := nI_d (by omega) (by decide) (by decide)
  have hs : nI n - nI (n / 3) = nI (n - n / 3) := pk_sub (Nat.div_le_self n 3)
  rcases hp with ⟨rfl, rfl, rfl, rfl, rfl⟩ | ⟨rfl, rfl, rfl, rfl, rfl⟩
  all_goals
    conv => whnf
    refine ⟨hi, ?_⟩
    conv => whnf
    refine ⟨by decide, ?_⟩
    conv => whnf
    refine ⟨hi, ?_⟩
    conv => whnf
    refine ⟨hi, ?_⟩
    conv => whnf
    simp only [hc, e1, hd, hs, am_us, am_un, Nat.reduceEqDiff, not_false_eq_true]
    simp only [am_w, am_us, am_un, Nat.reduceEqDiff, not_false_eq_true] at h
    exact h
def tr_youngOf : am_T := fun as L σ post => ∃ p a b c d k j r n f, as = [.ref p, .int (nI k), .int (nI j), .int (nI r)] ∧ L = LC ∧ sw_pl p a b c d ∧ j < 8 ∧ k ≤ 3 ∧ r ≤ 9 ∧ n ≤ 40 ∧ f < 1000 ∧ σ a j = nI n ∧ σ c j = nI f ∧ post (some (.int (nI (sw_yg k n r f)))) L σ
theorem ct_youngOf (l : Launch) : am_Ct l 0 yX1_youngOf cX1_youngOf 5 (some .int) tr_youngOf := by
  refine am_ct tbX1_youngOf (am_G []) (by decide +kernel) (by simp) rfl dtX1_youngOf rfl ckX1_youngOf lkX1_youngOf (am_nocalls rfl) ?_
  intro as L σ post h
  obtain ⟨p, a, b, c, d, k, j, r, n, f, rfl, rfl, hp, hj, hk, hr, hn, hf, e1, e2, h⟩ := h
  refine ⟨by simp [am_lv0], fun WW hw => hw 60 _ _ _ _ _ ?_⟩
  have hi : vp_in (nI j) 8 := vp_j hj (by decide)
  have hc : (nI j).toNatClampNeg = j := nI_cl (by omega)
  have hm : n * (r - f) ≤ 40 * 9 := Nat.mul_le_mul hn (by omega)
  have hd : nI n * nI (r - f) / 10 = nI (n * (r - f) / 10) := by rw [pk_mul]; exact nI_d (by omega) (by decide) (by decide)
  have hd2 : nI (n * (r - f) / 10) / 2 = nI (n * (r - f) / 10 / 2) := nI_d (by omega) (by decide) (by decide)
  have hk2 : (nI k).toInt = (k : Int) := nI_toInt (by omega)
  have hx := nI_max0 (a := r) (b := f) (by omega) (by omega)
  rcases hp with ⟨rfl, rfl, rfl, rfl, rfl⟩ | ⟨rfl, rfl, rfl, rfl, rfl⟩
  all_goals
    conv => whnf
    refine ⟨hi, ?_⟩
    conv => whnf
    refine ⟨hi, ?_⟩
    conv => whnf
    refine ⟨by decide, ?_⟩
    conv => whnf
    rw [hk2]
    refine ⟨fun q => ?_, fun q => ?_⟩
    · conv => whnf
      rw [sw_yg, if_pos (by omega)] at h
      exact h
    · conv => whnf
      refine ⟨fun q2 => ?_, fun q2 => ?_⟩
      · conv => whnf
        refine ⟨by decide, ?_⟩
        conv => whnf
        simp only [hc, e1, e2, hx, hd, hd2, nI_add]
        rw [sw_yg, if_neg (by omega), if_pos (by omega)] at h
        exact h
      · conv => whnf
        simp only [hc, e1, e2, hx, hd, hd2, nI_add]
        rw [sw_yg, if_neg (by omega), if_neg (by omega)] at h
        exact h
def tr_turnOut : am_T := fun as L σ post => ∃ p a b c d j q s n, as = [.ref p, .int (nI j), .int (nI q), .int (nI s)] ∧ L = LC ∧ sw_pl p a b c d ∧ j < 8 ∧ q < 4 ∧ s < 1000 ∧ n < 1000 ∧ σ a j = nI n ∧ post none L (am_w (am_w σ a j (nI (min n s))) d q (σ d q + nI (n - s)))
theorem ct_turnOut (l : Launch) : am_Ct l 0 yX1_turnOut cX1_turnOut 5 none tr_turnOut := by
  refine am_ct tbX1_turnOut (am_G []) (by decide +kernel) (by simp) rfl dtX1_turnOut rfl ckX1_turnOut lkX1_turnOut (am_nocalls rfl) ?_
  intro as L σ post h
  obtain ⟨p, a, b, c, d, j, q, s, n, rfl, rfl, hp, hj, hq, hs, hn, e1, h⟩ := h
  refine ⟨by simp [am_lv0], fun WW hw => hw 60 _ _ _ _ _ ?_⟩
  have hi : vp_in (nI j) 8 := vp_j hj (by decide)
  have hi2 : vp_in (nI q) 4 := vp_j hq (by decide)
  have hc : (nI j).toNatClampNeg = j := nI_cl (by omega)
  have hc2 : (nI q).toNatClampNeg = q := nI_cl (by omega)
  have hx := nI_max0 (a := n) (b := s) (by omega) (by omega)
  have hm : nI n - nI (n - s) = nI (min n s) := by rw [pk_sub (by omega)]; congr 1; omega
  rcases hp with ⟨rfl, rfl, rfl, rfl, rfl⟩ | ⟨rfl, rfl, rfl, rfl, rfl⟩
  all_goals
    conv => whnf
    refine ⟨hi, ?_⟩
    conv => whnf
    refine ⟨hi, ?_⟩
    conv => whnf
    refine ⟨hi, ?_⟩
    conv => whnf
    refine ⟨hi2, ?_⟩
    conv => whnf
    refine ⟨hi2, ?_⟩
    conv => whnf
    simp only [hc, hc2, e1, hx, hm, am_us, am_un, Nat.reduceEqDiff, not_false_eq_true]
    simp only [am_w, am_us, am_un, Nat.reduceEqDiff, not_false_eq_true] at h
    exact h
def tr_takeIn : am_T := fun as L σ post => ∃ p a b c d j q e n g, as = [.ref p, .int (nI j), .int (nI q), .int (nI e)] ∧ L = LC ∧ sw_pl p a b c d ∧ j < 8 ∧ q < 4 ∧ e < 1000 ∧ n ≤ e ∧ g < 10000 ∧ σ a j = nI n ∧ σ d q = nI g ∧ post none L (am_w (am_w σ a j (nI (n + min g (e - n)))) d q (nI (g - min g (e - n))))
theorem ct_takeIn (l : Launch) : am_Ct l 0 yX1_takeIn cX1_takeIn 5 none tr_takeIn := by
  refine am_ct tbX1_takeIn (am_G []) (by decide +kernel) (by simp) rfl dtX1_takeIn rfl ckX1_takeIn lkX1_takeIn (am_nocalls rfl) ?_
  intro as L σ post h
  obtain ⟨p, a, b, c, d, j, q, e, n, g, rfl, rfl, hp, hj, hq, he, hn, hg, e1, e2, h⟩ := h
  refine ⟨by simp [am_lv0], fun WW hw => hw 60 _ _ _ _ _ ?_⟩
  have hi : vp_in (nI j) 8 := vp_j hj (by decide)
  have hi2 : vp_in (nI q) 4 := vp_j hq (by decide)
  have hc : (nI j).toNatClampNeg = j := nI_cl (by omega)
  have hc2 : (nI q).toNatClampNeg = q := nI_cl (by omega)
  have hx : nI e - nI n = nI (e - n) := pk_sub hn
  have hm := nI_min (a := g) (b := e - n) (by omega) (by omega)
  have hs : nI g - nI (min g (e - n)) = nI (g - min g (e - n)) := pk_sub (Nat.min_le_left _ _)
  rcases hp with ⟨rfl, rfl, rfl, rfl, rfl⟩ | ⟨rfl, rfl, rfl, rfl, rfl⟩
  all_goals
    conv => whnf
    refine ⟨hi2, ?_⟩
    conv => whnf
    refine ⟨hi, ?_⟩
    conv => whnf
    refine ⟨hi, ?_⟩
    conv => whnf
    refine ⟨hi, ?_⟩
    conv => whnf
    refine ⟨hi2, ?_⟩
    conv => whnf
    refine ⟨hi2, ?_⟩
    conv => whnf
    simp only [hc, hc2, e1, e2, hx, hm, hs, nI_add, am_us, am_un, Nat.reduceEqDiff, not_false_eq_true]
    simp only [am_w, am_us, am_un, Nat.reduceEqDiff, not_false_eq_true] at h
    exact h
