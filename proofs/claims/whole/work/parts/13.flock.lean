def sw_bit (s : Int32) (b : Nat) : Bool := !((s >>> (nI b &&& 31)) &&& 1 == 0)
theorem sw_bit_f {s : Int32} {b : Nat} (h : (s >>> (nI b &&& 31)) &&& 1 = 0) : sw_bit s b = false := by simp [sw_bit, h]
theorem sw_bit_t {s : Int32} {b : Nat} (h : ¬ (s >>> (nI b &&& 31)) &&& 1 = 0) : sw_bit s b = true := by simp [sw_bit, h]
def sw_b2 (b : Bool) : Int32 := if b then 1 else 0
def tr_isShut : am_T := fun as L σ post => ∃ p b, as = [.ref p, .int (nI b)] ∧ L = LC ∧ (p = 17 ∨ p = 22) ∧ post (some (.int (sw_b2 (sw_bit (σ p 4) b)))) L σ
theorem ct_isShut (l : Launch) : am_Ct l 0 yX1_isShut cX1_isShut 2 (some .boolean) tr_isShut := by
  refine am_ct tbX1_isShut (am_G []) (by decide +kernel) (by simp) rfl dtX1_isShut rfl ckX1_isShut lkX1_isShut (am_nocalls rfl) ?_
  intro as L σ post h
  obtain ⟨p, b, rfl, rfl, hp, h⟩ := h
  refine ⟨by simp [am_lv0], fun WW hw => hw 20 _ _ _ _ _ ?_⟩
  rcases hp with rfl | rfl
  all_goals
    conv => whnf
    refine ⟨fun c => ?_, fun c => ?_⟩
    · conv => whnf
      rw [sw_bit_f c] at h
      exact ⟨Or.inl rfl, h⟩
    · conv => whnf
      rw [sw_bit_t c] at h
      exact ⟨Or.inr rfl, h⟩
def tr_takeByCat : am_T := fun as L σ post => ∃ p j n, as = [.ref p, .int (nI j)] ∧ L = LC ∧ (p = 17 ∨ p = 22) ∧ j < 8 ∧ n < 1000 ∧ σ (p + 1) j = nI n ∧ post none L (am_up (am_up σ (p + 1) (upd (σ (p + 1)) j (nI (n - n / 3)))) p (upd (σ p) 5 (σ p 5 + nI (n / 3))))
theorem ct_takeByCat (l : Launch) : am_Ct l 0 yX1_takeByCat cX1_takeByCat 3 none tr_takeByCat := by
  refine am_ct tbX1_takeByCat (am_G []) (by decide +kernel) (by simp) rfl dtX1_takeByCat rfl ckX1_takeByCat lkX1_takeByCat (am_nocalls rfl) ?_
  intro as L σ post h
  obtain ⟨p, j, n, rfl, rfl, hp, hj, hn, e1, h⟩ := h
  refine ⟨by simp [am_lv0], fun WW hw => hw 60 _ _ _ _ _ ?_⟩
  have hi : vp_in (nI j) 8 := vp_j hj (by decide)
  have hc : (nI j).toNatClampNeg = j := nI_cl (by omega)
  have hd : nI n / 3 = nI (n / 3) := nI_d (by omega) (by decide) (by decide)
  have hs : nI n - nI (n / 3) = nI (n - n / 3) := pk_sub (Nat.div_le_self n 3)
  rcases hp with rfl | rfl
  all_goals
    conv => whnf
    refine ⟨hi, ?_⟩
    conv => whnf
    refine ⟨by decide, ?_⟩
    conv => whnf
    refine ⟨hi, ?_⟩
    conv => whnf
    refine ⟨hi, ?_⟩
    conv => whnf
    simp only [hc, e1, hd, hs, am_us, am_un, Nat.reduceEqDiff, not_false_eq_true]
    trace_state
    exact h
