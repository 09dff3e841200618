/-! the class's Flock, Shelf, History, Entries -/
theorem c_0 : (0 : Int32).toNatClampNeg = 0 := by decide
theorem c_8 : (8 : Int32).toNatClampNeg = 8 := by decide
theorem sw_cpd {a N : Nat} (h : a + 8 ≤ N) (hN : N < 1000) : ¬ (0 : Int32) < 0 ∧ ¬ nI a < 0 ∧ ¬ (8 : Int32) < 0 ∧ (0 : Int32).toNatClampNeg + (8 : Int32).toNatClampNeg ≤ 8 ∧ (nI a).toNatClampNeg + (8 : Int32).toNatClampNeg ≤ N := by
  rw [nI_cl (by omega), c_8]
  exact ⟨by decide, nI_pos (by omega), by decide, by decide, h⟩
theorem sw_cps {a N : Nat} (h : a + 8 ≤ N) (hN : N < 1000) : ¬ nI a < 0 ∧ ¬ (0 : Int32) < 0 ∧ ¬ (8 : Int32) < 0 ∧ (nI a).toNatClampNeg + (8 : Int32).toNatClampNeg ≤ N ∧ (0 : Int32).toNatClampNeg + (8 : Int32).toNatClampNeg ≤ 8 := by
  rw [nI_cl (by omega), c_8]
  exact ⟨nI_pos (by omega), by decide, by decide, h, by decide⟩
theorem sw_cp8 (f g : Nat → Int32) {j : Nat} (h : j < 8) : va_cpy f g 0 0 8 j = f j := by
  rw [pk_cpy_in (Nat.zero_le _) (by omega), Nat.zero_add, Nat.sub_zero]
def tr_copyFrom : am_T := fun as L σ post => ∃ m F, as = [.ref 22, .ref 17] ∧ L = LC ∧ m ≤ 8 ∧ sw_FC σ 17 18 19 20 m F ∧ ∀ σ', am_fr [22, 23, 24, 25] σ σ' → sw_FC σ' 22 23 24 25 m F → post none L σ'
theorem ct_copyFrom (l : Launch) : am_Ct l 0 yX1_copyFrom cX1_copyFrom 2 none tr_copyFrom := by
  refine am_ct tbX1_copyFrom (am_G []) (by decide +kernel) (by simp) rfl dtX1_copyFrom rfl ckX1_copyFrom lkX1_copyFrom (am_nocalls rfl) ?_
  intro as L σ post h
  obtain ⟨m, F, rfl, rfl, hm, ⟨f1, f2, f3, f4, f5, f6⟩, h⟩ := h
  refine ⟨by simp [am_lv0], fun WW hw => hw 60 _ _ _ _ _ ?_⟩
  conv => whnf
  refine ⟨sw_cpd (a := 0) (by decide) (by decide), ?_⟩
  conv => whnf
  refine ⟨sw_cpd (a := 0) (by decide) (by decide), ?_⟩
  conv => whnf
  refine ⟨sw_cpd (a := 0) (by decide) (by decide), ?_⟩
  conv => whnf
  simp only [c_0, c_8, am_us, am_un, am_up_up, Nat.reduceEqDiff, not_false_eq_true]
  refine h _ ?_ ⟨fun j hj => ?_, fun j hj => ?_, fun j hj => ?_, ?_, ?_, ?_⟩
  · repeat (refine am_fr_up _ ?_ (by decide))
    exact am_fr_rf _ _
  all_goals simp only [am_us, am_un, Nat.reduceEqDiff, not_false_eq_true]
  · rw [sw_cp8 _ _ (by omega)]; exact f1 j hj
  · rw [sw_cp8 _ _ (by omega)]; exact f2 j hj
  · rw [sw_cp8 _ _ (by omega)]; exact f3 j hj
  · simp only [upd, Nat.reduceEqDiff, if_false, if_true]; exact f4
  · simp only [upd, Nat.reduceEqDiff, if_false, if_true]; exact f5
  · simp only [upd, Nat.reduceEqDiff, if_false, if_true]; exact f6
def sw_mv (F : sw_F) (a b x : Nat) : sw_F := (va_up (va_up F.1 a (F.1 a - x)) b (F.1 b + x), va_up F.2.1 a (min (F.2.1 a) (F.1 a - x)), F.2.2)
def tr_carry : am_T := fun as L σ post => ∃ p a b c d m F i j x, as = [.ref p, .int (nI i), .int (nI j), .int (nI x)] ∧ L = LC ∧ sw_pl p a b c d ∧ m ≤ 8 ∧ i < m ∧ j < m ∧ ¬ i = j ∧ sw_FC σ p a b c m F ∧ x ≤ F.1 i ∧ F.1 i ≤ 40 ∧ F.1 j ≤ 40 ∧ F.2.1 i ≤ 40 ∧ ∀ σ', am_fr [a, b] σ σ' → sw_FC σ' p a b c m (sw_mv F i j x) → post none L σ'
theorem ct_carry (l : Launch) : am_Ct l 0 yX1_carry cX1_carry 4 none tr_carry := by
  refine am_ct tbX1_carry (am_G []) (by decide +kernel) (by simp) rfl dtX1_carry rfl ckX1_carry lkX1_carry (am_nocalls rfl) ?_
  intro as L σ post h
  obtain ⟨p, a, b, c, d, m, ⟨n, g, f, s, lo, y⟩, i, j, x, rfl, rfl, hp, hm, hi, hj, hij, ⟨f1, f2, f3, f4, f5, f6⟩, hx, hn1, hn2, hg, h⟩ := h
  refine ⟨by simp [am_lv0], fun WW hw => hw 60 _ _ _ _ _ ?_⟩
  dsimp only at f1 f2 f3 f4 f5 f6 hx hn1 hn2 hg
  have v1 : vp_in (nI i) 8 := vp_j (by omega) (by decide)
  have v2 : vp_in (nI j) 8 := vp_j (by omega) (by decide)
  have c1 : (nI i).toNatClampNeg = i := nI_cl (by omega)
  have c2 : (nI j).toNatClampNeg = j := nI_cl (by omega)
  have e1 := f1 i hi
  have e2 := f1 j hj
  have e3 := f2 i hi
  have hji : ¬ j = i := fun q => hij q.symm
  have hs : nI (n i) - nI x = nI (n i - x) := pk_sub hx
  have hmn := nI_min (a := g i) (b := n i - x) (by omega) (by omega)
  rcases hp with ⟨rfl, rfl, rfl, rfl, rfl⟩ | ⟨rfl, rfl, rfl, rfl, rfl⟩
  all_goals
    repeat ((conv => whnf); refine And.intro ?_ ?_; first | with_reducible assumption | decide)
    conv => whnf
    simp only [c1, c2, e1, e2, e3, hs, am_us, am_un, am_up_up, up_s, up_n _ _ _ _ hji, up_n _ _ _ _ hij, Nat.reduceEqDiff, not_false_eq_true, nI_add, cond_false]
    rw [hmn]
    refine h _ ?_ ⟨fun q hq => ?_, fun q hq => ?_, fun q hq => ?_, ?_, ?_, ?_⟩
    · repeat (refine am_fr_up _ ?_ (by decide))
      exact am_fr_rf _ _
    all_goals simp only [am_us, am_un, Nat.reduceEqDiff, not_false_eq_true]
    · show _ = nI (va_up (va_up n i (n i - x)) j (n j + x) q)
      unfold upd va_up
      split
      · rfl
      · split
        · rfl
        · exact f1 q hq
    · show _ = nI (va_up g i (min (g i) (n i - x)) q)
      unfold upd va_up
      split
      · rfl
      · exact f2 q hq
    · exact f3 q hq
    · exact f4
    · exact f5
    · exact f6
def sw_md (F : sw_F) (b x : Nat) : sw_F := (F.1, F.2.1, va_up F.2.2.1 b (F.2.2.1 b - x), F.2.2.2)
def tr_bringNearer : am_T := fun as L σ post => ∃ p a b c d m F j x, as = [.ref p, .int (nI j), .int (nI x)] ∧ L = LC ∧ sw_pl p a b c d ∧ m ≤ 8 ∧ j < m ∧ x < 1000 ∧ sw_FC σ p a b c m F ∧ F.2.2.1 j < 1000 ∧ ∀ σ', am_fr [c] σ σ' → sw_FC σ' p a b c m (sw_md F j x) → post none L σ'
theorem ct_bringNearer (l : Launch) : am_Ct l 0 yX1_bringNearer cX1_bringNearer 3 none tr_bringNearer := by
  refine am_ct tbX1_bringNearer (am_G []) (by decide +kernel) (by simp) rfl dtX1_bringNearer rfl ckX1_bringNearer lkX1_bringNearer (am_nocalls rfl) ?_
  intro as L σ post h
  obtain ⟨p, a, b, c, d, m, ⟨n, g, f, s, lo, y⟩, j, x, rfl, rfl, hp, hm, hj, hx, ⟨f1, f2, f3, f4, f5, f6⟩, hf, h⟩ := h
  refine ⟨by simp [am_lv0], fun WW hw => hw 60 _ _ _ _ _ ?_⟩
  dsimp only at f1 f2 f3 f4 f5 f6 hf
  have v1 : vp_in (nI j) 8 := vp_j (by omega) (by decide)
  have c1 : (nI j).toNatClampNeg = j := nI_cl (by omega)
  have e1 := f3 j hj
  have hmx := nI_max0 (a := f j) (b := x) (by omega) (by omega)
  rcases hp with ⟨rfl, rfl, rfl, rfl, rfl⟩ | ⟨rfl, rfl, rfl, rfl, rfl⟩
  all_goals
    repeat ((conv => whnf); refine And.intro ?_ ?_; first | with_reducible assumption | decide)
    conv => whnf
    simp only [c1, e1, hmx, cond_false]
    refine h _ (am_fr_up _ (am_fr_rf _ _) (by decide)) ⟨fun q hq => ?_, fun q hq => ?_, fun q hq => ?_, ?_, ?_, ?_⟩
    all_goals simp only [am_us, am_un, Nat.reduceEqDiff, not_false_eq_true]
    · exact f1 q hq
    · exact f2 q hq
    · show _ = nI (va_up f j (f j - x) q)
      unfold upd va_up
      split
      · rfl
      · exact f3 q hq
    · exact f4
    · exact f5
    · exact f6
/-- a flock kept in a row of numbers, from a place on -/
def sw_cell (f : Nat → Int32) (z m : Nat) (F : sw_F) : Prop := (∀ b, b < m → f (z + b) = nI (F.1 b)) ∧ (∀ b, b < m → f (z + 8 + b) = nI (F.2.1 b)) ∧ (∀ b, b < m → f (z + 16 + b) = nI (F.2.2.1 b)) ∧ f (z + 24) = F.2.2.2.1 ∧ f (z + 25) = nI F.2.2.2.2.1 ∧ f (z + 26) = nI F.2.2.2.2.2
theorem sw_cell_eq {f g : Nat → Int32} {z m : Nat} {F : sw_F} (hm : m ≤ 8) (h : ∀ j, z ≤ j → j < z + 27 → g j = f j) (H : sw_cell f z m F) : sw_cell g z m F := by
  obtain ⟨h1, h2, h3, h4, h5, h6⟩ := H
  exact ⟨fun b hb => by rw [h _ (by omega) (by omega)]; exact h1 b hb, fun b hb => by rw [h _ (by omega) (by omega)]; exact h2 b hb, fun b hb => by rw [h _ (by omega) (by omega)]; exact h3 b hb, by rw [h _ (by omega) (by omega)]; exact h4, by rw [h _ (by omega) (by omega)]; exact h5, by rw [h _ (by omega) (by omega)]; exact h6⟩
theorem sw_put_val (f0 f1 f2 g : Nat → Int32) (z : Nat) (x y w : Int32) (j : Nat) : upd (upd (upd (va_cpy f2 (va_cpy f1 (va_cpy f0 g 0 z 8) 0 (z + 8) 8) 0 (z + 16) 8) (z + 24) x) (z + 25) y) (z + 26) w j =
    if j = z + 26 then w else if j = z + 25 then y else if j = z + 24 then x else if z + 16 ≤ j ∧ j < z + 24 then f2 (j - (z + 16)) else if z + 8 ≤ j ∧ j < z + 16 then f1 (j - (z + 8)) else if z ≤ j ∧ j < z + 8 then f0 (j - z) else g j := by
  simp only [upd, va_cpy, Nat.zero_add]
def sw_sh2 (p q P N : Nat) : Prop := (p = 28 ∧ q = 29 ∧ P = 20 ∧ N = 540) ∨ (p = 30 ∧ q = 31 ∧ P = 2 ∧ N = 54)
def tr_put : am_T := fun as L σ post => ∃ p q P N i m F, as = [.ref p, .int (nI i), .ref 17] ∧ L = LC ∧ sw_sh2 p q P N ∧ i < P ∧ m ≤ 8 ∧ σ p 0 = nI P ∧ sw_FC σ 17 18 19 20 m F ∧ ∀ σ', am_fr [q] σ σ' → sw_cell (σ' q) (i * 27) m F → (∀ j, (j < i * 27 ∨ i * 27 + 27 ≤ j) → σ' q j = σ q j) → post none L σ'
theorem ct_put (l : Launch) : am_Ct l 0 yX4_put cX4_put 4 none tr_put := by
  refine am_ct tbX4_put (am_G []) (by decide +kernel) (by simp) rfl dtX4_put rfl ckX4_put lkX4_put (am_nocalls rfl) ?_
  intro as L σ post h
  obtain ⟨p, q, P, N, i, m, ⟨n, g, f, s, lo, y⟩, rfl, rfl, hp, hi, hm, e0, ⟨f1, f2, f3, f4, f5, f6⟩, h⟩ := h
  refine ⟨by simp [am_lv0], fun WW hw => hw 100 _ _ _ _ _ ?_⟩
  dsimp only at f1 f2 f3 f4 f5 f6
  have hi20 : i < 20 := by rcases hp with ⟨rfl, rfl, rfl, rfl⟩ | ⟨rfl, rfl, rfl, rfl⟩ <;> omega
  have hP20 : P ≤ 20 := by rcases hp with ⟨rfl, rfl, rfl, rfl⟩ | ⟨rfl, rfl, rfl, rfl⟩ <;> omega
  have hN : i * 27 + 27 ≤ N ∧ N < 1000 := by rcases hp with ⟨rfl, rfl, rfl, rfl⟩ | ⟨rfl, rfl, rfl, rfl⟩ <;> omega
  have hz : nI i * 27 = nI (i * 27) := pk_mul i 27
  have h8 : nI (i * 27) + 8 = nI (i * 27 + 8) := nI_add _ 8
  have h16 : nI (i * 27) + 16 = nI (i * 27 + 16) := nI_add _ 16
  have h24 : nI (i * 27) + 24 = nI (i * 27 + 24) := nI_add _ 24
  have h25 : nI (i * 27 + 24) + 1 = nI (i * 27 + 25) := nI_add _ 1
  have h26 : nI (i * 27 + 24) + 2 = nI (i * 27 + 26) := nI_add _ 2
  have k0 : (nI (i * 27)).toNatClampNeg = i * 27 := nI_cl (by omega)
  have k8 : (nI (i * 27 + 8)).toNatClampNeg = i * 27 + 8 := nI_cl (by omega)
  have k16 : (nI (i * 27 + 16)).toNatClampNeg = i * 27 + 16 := nI_cl (by omega)
  have k24 : (nI (i * 27 + 24)).toNatClampNeg = i * 27 + 24 := nI_cl (by omega)
  have k25 : (nI (i * 27 + 25)).toNatClampNeg = i * 27 + 25 := nI_cl (by omega)
  have k26 : (nI (i * 27 + 26)).toNatClampNeg = i * 27 + 26 := nI_cl (by omega)
  have key : ∀ σ', σ' = am_up σ q (upd (upd (upd (va_cpy (σ 20) (va_cpy (σ 19) (va_cpy (σ 18) (σ q) 0 (i * 27) 8) 0 (i * 27 + 8) 8) 0 (i * 27 + 16) 8) (i * 27 + 24) (σ 17 4)) (i * 27 + 25) (σ 17 5)) (i * 27 + 26) (σ 17 6)) → post none LC σ' := by
    intro σ' hs
    have hv : ∀ j, σ' q j = _ := fun j => (congrFun (by rw [hs, am_us]) j).trans (sw_put_val (σ 18) (σ 19) (σ 20) (σ q) (i * 27) (σ 17 4) (σ 17 5) (σ 17 6) j)
    refine h σ' (by rw [hs]; exact am_fr_up _ (am_fr_rf _ _) (by simp)) ⟨fun b hb => ?_, fun b hb => ?_, fun b hb => ?_, ?_, ?_, ?_⟩ (fun j hj => ?_)
    · rw [hv, if_neg (by omega), if_neg (by omega), if_neg (by omega), if_neg (by omega), if_neg (by omega), if_pos (by omega), show i * 27 + b - i * 27 = b by omega]; exact f1 b hb
    · rw [hv, if_neg (by omega), if_neg (by omega), if_neg (by omega), if_neg (by omega), if_pos (by omega), show i * 27 + 8 + b - (i * 27 + 8) = b by omega]; exact f2 b hb
    · rw [hv, if_neg (by omega), if_neg (by omega), if_neg (by omega), if_pos (by omega), show i * 27 + 16 + b - (i * 27 + 16) = b by omega]; exact f3 b hb
    · rw [hv, if_neg (by omega), if_neg (by omega), if_pos rfl]; exact f4
    · rw [hv, if_neg (by omega), if_pos rfl]; exact f5
    · rw [hv, if_pos rfl]; exact f6
    · rw [hv, if_neg (by omega), if_neg (by omega), if_neg (by omega), if_neg (by omega), if_neg (by omega), if_neg (by omega)]
  have hlt : nI i < nI P := nI_lt hi (by omega)
  have d0 := sw_cpd (a := i * 27) (N := N) (by omega) (by omega)
  have d8 := sw_cpd (a := i * 27 + 8) (N := N) (by omega) (by omega)
  have d16 := sw_cpd (a := i * 27 + 16) (N := N) (by omega) (by omega)
  have v24 : vp_in (nI (i * 27 + 24)) N := vp_j (by omega) (by omega)
  have v25 : vp_in (nI (i * 27 + 25)) N := vp_j (by omega) (by omega)
  have v26 : vp_in (nI (i * 27 + 26)) N := vp_j (by omega) (by omega)
  rcases hp with ⟨rfl, rfl, rfl, rfl⟩ | ⟨rfl, rfl, rfl, rfl⟩
  all_goals
    conv => whnf
    refine ⟨fun c => absurd c (nI_pos (by omega)), fun _ => ?_⟩
    conv => whnf
    rw [e0]
    refine ⟨fun _ => ?_, fun c => absurd hlt c⟩
    conv => whnf
    rw [hz]
    refine ⟨d0, ?_⟩
    conv => whnf
    rw [h8]
    refine ⟨d8, ?_⟩
    conv => whnf
    rw [h16]
    refine ⟨d16, ?_⟩
    conv => whnf
    rw [h24]
    refine ⟨v24, ?_⟩
    conv => whnf
    rw [h24, h25]
    refine ⟨v25, ?_⟩
    conv => whnf
    rw [h24, h26]
    refine ⟨v26, ?_⟩
    conv => whnf
    refine key _ ?_
    simp only [c_0, c_8, k0, k8, k16, k24, k25, k26, am_us, am_un, am_up_up, Nat.reduceEqDiff, not_false_eq_true, cond_false]
def tr_take : am_T := fun as L σ post => ∃ p q P N i m F, as = [.ref p, .int (nI i), .ref 17] ∧ L = LC ∧ sw_sh2 p q P N ∧ i < P ∧ m ≤ 8 ∧ σ p 0 = nI P ∧ sw_cell (σ q) (i * 27) m F ∧ ∀ σ', am_fr [17, 18, 19, 20] σ σ' → sw_FC σ' 17 18 19 20 m F → post none L σ'
theorem ct_take (l : Launch) : am_Ct l 0 yX4_take cX4_take 4 none tr_take := by
  refine am_ct tbX4_take (am_G []) (by decide +kernel) (by simp) rfl dtX4_take rfl ckX4_take lkX4_take (am_nocalls rfl) ?_
  intro as L σ post h
  obtain ⟨p, q, P, N, i, m, ⟨n, g, f, s, lo, y⟩, rfl, rfl, hp, hi, hm, e0, ⟨f1, f2, f3, f4, f5, f6⟩, h⟩ := h
  refine ⟨by simp [am_lv0], fun WW hw => hw 100 _ _ _ _ _ ?_⟩
  dsimp only at f1 f2 f3 f4 f5 f6
  have hi20 : i < 20 := by rcases hp with ⟨rfl, rfl, rfl, rfl⟩ | ⟨rfl, rfl, rfl, rfl⟩ <;> omega
  have hP20 : P ≤ 20 := by rcases hp with ⟨rfl, rfl, rfl, rfl⟩ | ⟨rfl, rfl, rfl, rfl⟩ <;> omega
  have hN : i * 27 + 27 ≤ N ∧ N < 1000 := by rcases hp with ⟨rfl, rfl, rfl, rfl⟩ | ⟨rfl, rfl, rfl, rfl⟩ <;> omega
  have hz : nI i * 27 = nI (i * 27) := pk_mul i 27
  have h8 : nI (i * 27) + 8 = nI (i * 27 + 8) := nI_add _ 8
  have h16 : nI (i * 27) + 16 = nI (i * 27 + 16) := nI_add _ 16
  have h24 : nI (i * 27) + 24 = nI (i * 27 + 24) := nI_add _ 24
  have h25 : nI (i * 27 + 24) + 1 = nI (i * 27 + 25) := nI_add _ 1
  have h26 : nI (i * 27 + 24) + 2 = nI (i * 27 + 26) := nI_add _ 2
  have k0 : (nI (i * 27)).toNatClampNeg = i * 27 := nI_cl (by omega)
  have k8 : (nI (i * 27 + 8)).toNatClampNeg = i * 27 + 8 := nI_cl (by omega)
  have k16 : (nI (i * 27 + 16)).toNatClampNeg = i * 27 + 16 := nI_cl (by omega)
  have k24 : (nI (i * 27 + 24)).toNatClampNeg = i * 27 + 24 := nI_cl (by omega)
  have k25 : (nI (i * 27 + 25)).toNatClampNeg = i * 27 + 25 := nI_cl (by omega)
  have k26 : (nI (i * 27 + 26)).toNatClampNeg = i * 27 + 26 := nI_cl (by omega)
  have hlt : nI i < nI P := nI_lt hi (by omega)
  have d0 := sw_cps (a := i * 27) (N := N) (by omega) (by omega)
  have d8 := sw_cps (a := i * 27 + 8) (N := N) (by omega) (by omega)
  have d16 := sw_cps (a := i * 27 + 16) (N := N) (by omega) (by omega)
  have v24 : vp_in (nI (i * 27 + 24)) N := vp_j (by omega) (by omega)
  have v25 : vp_in (nI (i * 27 + 25)) N := vp_j (by omega) (by omega)
  have v26 : vp_in (nI (i * 27 + 26)) N := vp_j (by omega) (by omega)
  have cpz : ∀ (f g : Nat → Int32) (a j : Nat), j < 8 → va_cpy f g a 0 8 j = f (a + j) := fun f g a j hj => by rw [pk_cpy_in (Nat.zero_le _) (by omega), Nat.sub_zero]
  rcases hp with ⟨rfl, rfl, rfl, rfl⟩ | ⟨rfl, rfl, rfl, rfl⟩
  all_goals
    conv => whnf
    refine ⟨fun c => absurd c (nI_pos (by omega)), fun _ => ?_⟩
    conv => whnf
    rw [e0]
    refine ⟨fun _ => ?_, fun c => absurd hlt c⟩
    conv => whnf
    rw [hz]
    refine ⟨d0, ?_⟩
    conv => whnf
    rw [h8]
    refine ⟨d8, ?_⟩
    conv => whnf
    rw [h16]
    refine ⟨d16, ?_⟩
    conv => whnf
    rw [h24]
    refine ⟨v24, ?_⟩
    conv => whnf
    rw [h24, h25]
    refine ⟨v25, ?_⟩
    conv => whnf
    rw [h24, h26]
    refine ⟨v26, ?_⟩
    conv => whnf
    simp only [c_0, c_8, k0, k8, k16, k24, k25, k26, am_us, am_un, am_up_up, Nat.reduceEqDiff, not_false_eq_true, cond_false]
    refine h _ ?_ ⟨fun j hj => ?_, fun j hj => ?_, fun j hj => ?_, ?_, ?_, ?_⟩
    · repeat (refine am_fr_up _ ?_ (by decide))
      exact am_fr_rf _ _
    all_goals simp only [am_us, am_un, Nat.reduceEqDiff, not_false_eq_true]
    · rw [cpz _ _ _ _ (by omega)]; exact f1 j hj
    · rw [cpz _ _ _ _ (by omega)]; exact f2 j hj
    · rw [cpz _ _ _ _ (by omega)]; exact f3 j hj
    · simp only [upd, Nat.reduceEqDiff, if_false, if_true]; exact f4
    · simp only [upd, Nat.reduceEqDiff, if_false, if_true]; exact f5
    · simp only [upd, Nat.reduceEqDiff, if_false, if_true]; exact f6
