/-! THE REFERENCE's YEAR. Its cells: 0 the object; 1 county, 2 eaves, 3 kind, 4 rain, 5 now, 6 text, 7 readTreaty, 8 readCounty, 9 readEaves, 10 readNests, 11 readFar, 12 readKind, 13 readRain, 14 homeless, 15 past, 16 was, 17 gains, 18 lay, 19 seenBarn, 20 seenNests, 21 roughSet, 22 roughNests, 23 bookCounty, 24 bookSouls, 25 images, 26 isKept -/
def LM : List am_SD := [.inr (7, [none, none, none, none, some 1, some 2, some 3, none, some 4, some 5, none, some 6, none, none, none, none, none, some 7, none, some 8, some 9, some 10, some 11, some 12, none, some 13, some 14, none, some 15, some 16, some 17, none, some 18, none, some 19, some 20, none, some 21, some 22, none, none, none, some 23, some 24, some 25, some 26]),
  .inl (8, false), .inl (8, false), .inl (8, false), .inl (8, false), .inl (27, false), .inl (240, false), .inl (3, false), .inl (8, false), .inl (8, false), .inl (8, false), .inl (8, false), .inl (8, false), .inl (8, false), .inl (4, false), .inl (540, false), .inl (27, false), .inl (9, false), .inl (8, false), .inl (8, false), .inl (8, false), .inl (8, false), .inl (8, false), .inl (15, false), .inl (15, false), .inl (56, false), .inl (2, true)]
theorem sw_and1 (x : Int32) : x &&& 1 = 0 ∨ x &&& 1 = 1 := by
  obtain ⟨j, hj, e⟩ := pk_andE x (m := 1) 1 (by decide)
  rw [e]
  have : j = 0 ∨ j = 1 := by omega
  rcases this with rfl | rfl
  · exact Or.inl rfl
  · exact Or.inr rfl
def tr_mhas : am_T := fun as L σ post => ∃ s b, as = [.int s, .int (nI b)] ∧ post (some (.int (sw_b2 (sw_bit s b)))) L σ
theorem ct_mhas (l : Launch) : am_Ct l 0 yX7_has cX7_has 2 (some .boolean) tr_mhas := by
  refine am_ct tbX7_has (am_G []) (by decide +kernel) (by simp) rfl dtX7_has rfl ckX7_has lkX7_has (am_nocalls rfl) ?_
  intro as L σ post h
  obtain ⟨s, b, rfl, h⟩ := h
  refine ⟨by simp [am_lv0], fun WW hw => hw 30 _ _ _ _ _ ?_⟩
  conv => whnf
  refine ⟨fun c => ?_, fun c => ?_⟩
  · conv => whnf
    rw [sw_bit_f ((sw_and1 _).resolve_right c)] at h
    exact ⟨Or.inl rfl, h⟩
  · conv => whnf
    rw [sw_bit_t (fun h0 => by rw [h0] at c; exact absurd c (by decide))] at h
    exact ⟨Or.inr rfl, h⟩
def tr_matMost : am_T := fun as L σ post => ∃ a b, as = [.int (nI a), .int (nI b)] ∧ a < 1000000 ∧ b < 1000000 ∧ post (some (.int (nI (min a b)))) L σ
theorem ct_matMost (l : Launch) : am_Ct l 0 yX7_atMost cX7_atMost 2 (some .int) tr_matMost := by
  refine am_ct tbX7_atMost (am_G []) (by decide +kernel) (by simp) rfl dtX7_atMost rfl ckX7_atMost lkX7_atMost (am_nocalls rfl) ?_
  intro as L σ post h
  obtain ⟨a, b, rfl, ha, hb, h⟩ := h
  refine ⟨by simp [am_lv0], fun WW hw => hw 30 _ _ _ _ _ ?_⟩
  conv => whnf
  rw [nI_le' hb ha]
  refine ⟨fun c => ?_, fun c => ?_⟩
  · conv => whnf
    rw [Nat.min_eq_right c] at h
    exact h
  · conv => whnf
    rw [Nat.min_eq_left (by omega)] at h
    exact h
theorem nI_16 (b : Nat) : 16 + nI b = nI (16 + b) := nI_add 16 b
theorem nI_8 (b : Nat) : 8 + nI b = nI (8 + b) := nI_add 8 b
def tr_mtakeCat : am_T := fun as L σ post => ∃ j k n, as = [.ref 0, .int (nI j)] ∧ L = LM ∧ j < 8 ∧ k ≤ 3 ∧ n < 1000 ∧ σ 3 j = nI k ∧ σ 5 j = nI n ∧ post none L (am_w (am_w σ 5 j (nI (n - sw_cat k n))) 5 25 (σ 5 25 + nI (sw_cat k n)))
theorem ct_mtakeCat (l : Launch) : am_Ct l 0 yX7_takeCat cX7_takeCat 3 none tr_mtakeCat := by
  refine am_ct tbX7_takeCat (am_G []) (by decide +kernel) (by simp) rfl dtX7_takeCat rfl ckX7_takeCat lkX7_takeCat (am_nocalls rfl) ?_
  intro as L σ post h
  obtain ⟨j, k, n, rfl, rfl, hj, hk, hn, e1, e2, h⟩ := h
  refine ⟨by simp [am_lv0], fun WW hw => hw 60 _ _ _ _ _ ?_⟩
  have hi : vp_in (nI j) 8 := vp_j hj (by decide)
  have hi2 : vp_in (nI j) 27 := vp_j (by omega) (by decide)
  have hi3 : vp_in 25 27 := vp_j (j := 25) (by decide) (by decide)
  have hc : (nI j).toNatClampNeg = j := nI_cl (by omega)
  have hc3 : (25 : Int32).toNatClampNeg = 25 := by decide
  have hd : nI n / 3 = nI (n / 3) := nI_d (by omega) (by decide) (by decide)
  have hs : nI n - nI (n / 3) = nI (n - n / 3) := pk_sub (Nat.div_le_self n 3)
  have hk1 : nI k = 1 ↔ k = 1 := nI_eq' (by omega) (by decide)
  have hj5 : ¬ 25 = j := by omega
  repeat ((conv => whnf); refine And.intro ?_ ?_; first | with_reducible assumption | decide)
  conv => whnf
  rw [hc, e1]
  refine ⟨fun c => ?_, fun c => ?_⟩
  · have hz : sw_cat k n = 0 := if_neg (fun q => c (hk1.mpr q))
    repeat ((conv => whnf); refine And.intro ?_ ?_; first | with_reducible assumption | decide)
    conv => whnf
    simp only [hc, hc3, e2, am_us, up_n _ _ _ _ hj5, Int32.sub_zero]
    rw [hz, Nat.sub_zero] at h
    simp only [am_w, am_us] at h
    exact h
  · have hz : sw_cat k n = n / 3 := if_pos (hk1.mp c)
    repeat ((conv => whnf); refine And.intro ?_ ?_; first | with_reducible assumption | decide)
    conv => whnf
    simp only [hc, hc3, e2, hd, hs, am_us, up_n _ _ _ _ hj5]
    rw [hz] at h
    simp only [am_w, am_us] at h
    exact h
def tr_myoungOf : am_T := fun as L σ post => ∃ j k r n f, as = [.ref 0, .int (nI j), .int (nI r)] ∧ L = LM ∧ j < 8 ∧ k ≤ 3 ∧ r ≤ 9 ∧ n ≤ 40 ∧ f < 1000 ∧ σ 3 j = nI k ∧ σ 5 j = nI n ∧ σ 5 (16 + j) = nI f ∧ post (some (.int (nI (sw_yg k n r f)))) L σ
theorem ct_myoungOf (l : Launch) : am_Ct l 0 yX7_youngOf cX7_youngOf 5 (some .int) tr_myoungOf := by
  refine am_ct tbX7_youngOf (am_G []) (by decide +kernel) (by simp) rfl dtX7_youngOf rfl ckX7_youngOf lkX7_youngOf (am_nocalls rfl) ?_
  intro as L σ post h
  obtain ⟨j, k, r, n, f, rfl, rfl, hj, hk, hr, hn, hf, e1, e2, e3, h⟩ := h
  refine ⟨by simp [am_lv0], fun WW hw => ?_⟩
  have hi : vp_in (nI j) 8 := vp_j hj (by decide)
  have hi2 : vp_in (nI j) 27 := vp_j (by omega) (by decide)
  have hi3 : vp_in (16 + nI j) 27 := by rw [nI_16]; exact vp_j (by omega) (by decide)
  have hc : (nI j).toNatClampNeg = j := nI_cl (by omega)
  have hc3 : (16 + nI j).toNatClampNeg = 16 + j := by rw [nI_16]; exact nI_cl (by omega)
  have hm : n * (r - f) ≤ 40 * 9 := Nat.mul_le_mul hn (by omega)
  have hd : nI n * nI (r - f) / 10 = nI (n * (r - f) / 10) := by rw [pk_mul]; exact nI_d (by omega) (by decide) (by decide)
  have hd2 : nI (n * (r - f) / 10) / 2 = nI (n * (r - f) / 10 / 2) := nI_d (by omega) (by decide) (by decide)
  have k2 : nI k = 2 ↔ k = 2 := nI_eq' (by omega) (by decide)
  have k3 : nI k = 3 ↔ k = 3 := nI_eq' (by omega) (by decide)
  have M : ∀ x : Int32, x = nI (r - f) → WW 19 [some (.ref 0), some (.int (nI j)), some (.int (nI r))] [.int x] LM σ := by
    intro x hx
    subst hx
    refine hw 60 _ _ _ _ _ ?_
    repeat ((conv => whnf); refine And.intro ?_ ?_; first | with_reducible assumption | decide)
    conv => whnf
    rw [hc, e1, k2]
    refine ⟨fun c => ?_, fun c => ?_⟩
    · repeat ((conv => whnf); refine And.intro ?_ ?_; first | with_reducible assumption | decide)
      conv => whnf
      rw [hc, e1, k3]
      refine ⟨fun c3 => ?_, fun c3 => ?_⟩
      · repeat ((conv => whnf); refine And.intro ?_ ?_; first | with_reducible assumption | decide)
        conv => whnf
        simp only [hc, e2, hd]
        rw [sw_yg, if_neg c, if_neg c3] at h
        exact h
      · repeat ((conv => whnf); refine And.intro ?_ ?_; first | with_reducible assumption | decide)
        conv => whnf
        simp only [hc, e2, hd, hd2, nI_add]
        rw [sw_yg, if_neg c, if_pos c3] at h
        exact h
    · repeat ((conv => whnf); refine And.intro ?_ ?_; first | with_reducible assumption | decide)
      conv => whnf
      rw [sw_yg, if_pos c] at h
      exact h
  refine hw 60 _ _ _ _ _ ?_
  repeat ((conv => whnf); refine And.intro ?_ ?_; first | with_reducible assumption | decide)
  conv => whnf
  rw [hc3, e3, nI_le' (by omega) (by omega)]
  refine ⟨fun c => ?_, fun c => ?_⟩
  · conv => whnf
    exact M _ (by rw [show r - f = 0 by omega]; rfl)
  · repeat ((conv => whnf); refine And.intro ?_ ?_; first | with_reducible assumption | decide)
    conv => whnf
    refine M _ ?_
    rw [hc3, e3, pk_sub (by omega)]
def tr_mbreed : am_T := fun as L σ post => ∃ j q k r n f e, as = [.ref 0, .int (nI j), .int (nI r)] ∧ L = LM ∧ j < 8 ∧ q < 4 ∧ k ≤ 3 ∧ r ≤ 9 ∧ n ≤ 40 ∧ f < 1000 ∧ e ≤ 40 ∧ σ 1 j = nI q ∧ σ 2 j = nI e ∧ σ 3 j = nI k ∧ σ 5 j = nI n ∧ σ 5 (16 + j) = nI f ∧
  post none L (if sw_bit (σ 5 24) j then am_w (am_w σ 14 q (σ 14 q + nI n)) 5 j (nI 0) else am_w (am_w σ 14 q (σ 14 q + nI (n + sw_yg k n r f - e))) 5 j (nI (min (n + sw_yg k n r f) e)))
theorem ct_mbreed (l : Launch) : am_Ct l 1 yX7_breed cX7_breed 5 none tr_mbreed := by
  refine am_ct tbX7_breed (am_G [tr_mhas, tr_myoungOf, tr_matMost]) (by decide +kernel) (by simp) rfl dtX7_breed rfl ckX7_breed lkX7_breed (am_cokF [(8, some (.invokestatic 189), 0, 2, 0, 0), (32, some (.invokevirtual 193), 1, 3, 7, 0), (45, some (.invokestatic 189), 0, 2, 0, 0), (62, some (.invokestatic 196), 2, 2, 0, 0)] rfl (List.forall_mem_cons.mpr ⟨Or.inr (Or.inr (Or.inr ⟨0, _, _, _, _, by decide, (ct_mhas l), lnX7_189⟩)), List.forall_mem_cons.mpr ⟨⟨0, _, _, _, _, by decide, (ct_myoungOf l), lnX7_193⟩, List.forall_mem_cons.mpr ⟨Or.inr (Or.inr (Or.inr ⟨0, _, _, _, _, by decide, (ct_mhas l), lnX7_189⟩)), List.forall_mem_cons.mpr ⟨Or.inr (Or.inr (Or.inr ⟨0, _, _, _, _, by decide, (ct_matMost l), lnX7_196⟩)), fun _ h => absurd h List.not_mem_nil⟩⟩⟩⟩)) ?_
  intro as L σ post h
  obtain ⟨j, q, k, r, n, f, e, rfl, rfl, hj, hq, hk, hr, hn, hf, he, e1, e2, e3, e4, e5, h⟩ := h
  refine ⟨by simp [am_lv0], fun WW hw => ?_⟩
  have hi : vp_in (nI j) 8 := vp_j hj (by decide)
  have hi2 : vp_in (nI j) 27 := vp_j (by omega) (by decide)
  have hi3 : vp_in 24 27 := vp_j (j := 24) (by decide) (by decide)
  have hi4 : vp_in (nI q) 4 := vp_j hq (by decide)
  have hi5 : vp_in (σ 1 (nI j).toNatClampNeg) 4 := by rw [nI_cl (by omega), e1]; exact hi4
  have hc : (nI j).toNatClampNeg = j := nI_cl (by omega)
  have hc4 : (nI q).toNatClampNeg = q := nI_cl (by omega)
  have hc3 : (24 : Int32).toNatClampNeg = 24 := by decide
  have hy := sw_yg_le (k := k) (f := f) hn hr
  refine hw 60 _ _ _ _ _ ?_
  repeat ((conv => whnf); refine And.intro ?_ ?_; first | with_reducible assumption | decide)
  conv => whnf
  rw [hc3]
  refine ⟨_, j, rfl, ?_⟩
  cases hb : sw_bit (σ 5 24) j with
  | true =>
    rw [hb, if_pos rfl] at h
    conv => whnf
    refine ⟨fun c => absurd c (by decide), fun _ => ?_⟩
    repeat ((conv => whnf); refine And.intro ?_ ?_; first | with_reducible assumption | decide)
    conv => whnf
    rw [hc3]
    refine ⟨_, j, rfl, ?_⟩
    rw [hb]
    conv => whnf
    refine ⟨fun c => absurd c (by decide), fun _ => ?_⟩
    repeat ((conv => whnf); refine And.intro ?_ ?_; first | with_reducible assumption | decide)
    conv => whnf
    simp only [hc, hc4, e1, e4]
    rw [show nI n - 0 = nI n from pk_sub (Nat.zero_le n)]
    exact h
  | false =>
    rw [hb, if_neg (by decide)] at h
    conv => whnf
    refine ⟨fun _ => ?_, fun c => absurd rfl c⟩
    repeat ((conv => whnf); refine And.intro ?_ ?_; first | with_reducible assumption | decide)
    conv => whnf
    refine ⟨j, k, r, n, f, rfl, rfl, hj, hk, hr, hn, hf, e3, e4, e5, ?_⟩
    repeat ((conv => whnf); refine And.intro ?_ ?_; first | with_reducible assumption | decide)
    conv => whnf
    rw [hc3]
    refine ⟨_, j, rfl, ?_⟩
    rw [hb]
    conv => whnf
    refine ⟨fun _ => ?_, fun c => absurd rfl c⟩
    repeat ((conv => whnf); refine And.intro ?_ ?_; first | with_reducible assumption | decide)
    conv => whnf
    rw [hc, e4, e2, nI_add]
    refine ⟨n + sw_yg k n r f, e, rfl, by omega, by omega, ?_⟩
    repeat ((conv => whnf); refine And.intro ?_ ?_; first | with_reducible assumption | decide)
    conv => whnf
    simp only [hc, hc4, e1, e4]
    rw [pk_sub (Nat.min_le_left _ _), show n + sw_yg k n r f - min (n + sw_yg k n r f) e = n + sw_yg k n r f - e by omega]
    exact h
def tr_mhouse : am_T := fun as L σ post => ∃ j q n e g, as = [.ref 0, .int (nI j)] ∧ L = LM ∧ j < 8 ∧ q < 4 ∧ n ≤ e ∧ e ≤ 40 ∧ g < 10000 ∧ σ 1 j = nI q ∧ σ 2 j = nI e ∧ σ 5 j = nI n ∧ σ 14 q = nI g ∧
  post none L (am_w (am_w σ 5 j (nI (n + min (if sw_bit (σ 5 24) j then 0 else e - n) g))) 14 q (nI (g - min (if sw_bit (σ 5 24) j then 0 else e - n) g)))
theorem ct_mhouse (l : Launch) : am_Ct l 1 yX7_house cX7_house 4 none tr_mhouse := by
  refine am_ct tbX7_house (am_G [tr_mhas, tr_matMost]) (by decide +kernel) (by simp) rfl dtX7_house rfl ckX7_house lkX7_house (am_cokF [(8, some (.invokestatic 189), 0, 2, 0, 0), (44, some (.invokestatic 196), 1, 2, 0, 0)] rfl (List.forall_mem_cons.mpr ⟨Or.inr (Or.inr (Or.inr ⟨0, _, _, _, _, by decide, (ct_mhas l), lnX7_189⟩)), List.forall_mem_cons.mpr ⟨Or.inr (Or.inr (Or.inr ⟨0, _, _, _, _, by decide, (ct_matMost l), lnX7_196⟩)), fun _ h => absurd h List.not_mem_nil⟩⟩)) ?_
  intro as L σ post h
  obtain ⟨j, q, n, e, g, rfl, rfl, hj, hq, hn, he, hg, e1, e2, e3, e4, h⟩ := h
  refine ⟨by simp [am_lv0], fun WW hw => ?_⟩
  have hi : vp_in (nI j) 8 := vp_j hj (by decide)
  have hi2 : vp_in (nI j) 27 := vp_j (by omega) (by decide)
  have hi3 : vp_in 24 27 := vp_j (j := 24) (by decide) (by decide)
  have hi4 : vp_in (nI q) 4 := vp_j hq (by decide)
  have hi5 : vp_in (σ 1 (nI j).toNatClampNeg) 4 := by rw [nI_cl (by omega), e1]; exact hi4
  have hc : (nI j).toNatClampNeg = j := nI_cl (by omega)
  have hc4 : (nI q).toNatClampNeg = q := nI_cl (by omega)
  have hc3 : (24 : Int32).toNatClampNeg = 24 := by decide
  have M : ∀ v : Nat, v = (if sw_bit (σ 5 24) j then 0 else e - n) → WW 19 [some (.ref 0), some (.int (nI j))] [.int (nI v)] LM σ := by
    intro v hv
    rw [← hv] at h
    have hv2 : v ≤ 40 := by rw [hv]; split <;> omega
    refine hw 60 _ _ _ _ _ ?_
    repeat ((conv => whnf); refine And.intro ?_ ?_; first | with_reducible assumption | decide)
    conv => whnf
    rw [hc, e1, hc4, e4]
    refine ⟨v, g, rfl, by omega, by omega, ?_⟩
    repeat ((conv => whnf); refine And.intro ?_ ?_; first | with_reducible assumption | decide)
    conv => whnf
    rw [hc, e3, am_un _ _ _ _ (by decide), e1, hc4, am_un _ _ _ _ (by decide), e4, nI_add]
    repeat ((conv => whnf); refine And.intro ?_ ?_; first | with_reducible assumption | decide)
    conv => whnf
    rw [hc4, pk_sub (Nat.min_le_right _ _)]
    exact h
  refine hw 60 _ _ _ _ _ ?_
  repeat ((conv => whnf); refine And.intro ?_ ?_; first | with_reducible assumption | decide)
  conv => whnf
  rw [hc3]
  refine ⟨_, j, rfl, ?_⟩
  cases hb : sw_bit (σ 5 24) j with
  | true =>
    conv => whnf
    refine ⟨fun c => absurd c (by decide), fun _ => ?_⟩
    repeat ((conv => whnf); refine And.intro ?_ ?_; first | with_reducible assumption | decide)
    conv => whnf
    exact M 0 (by rw [hb]; rfl)
  | false =>
    conv => whnf
    refine ⟨fun _ => ?_, fun c => absurd rfl c⟩
    repeat ((conv => whnf); refine And.intro ?_ ?_; first | with_reducible assumption | decide)
    conv => whnf
    rw [hc, e2, e3, pk_sub hn]
    exact M (e - n) (by rw [hb]; rfl)
