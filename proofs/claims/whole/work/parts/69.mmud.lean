/-! THE REFERENCE: the least mud -/
def md_last (O : Nat) : Nat → Option Nat
  | 0 => none
  | n + 1 => if O.testBit n then some n else md_last O n
theorem md_last_some {O l : Nat} : ∀ n, md_last O n = some l → l < n ∧ O.testBit l = true ∧ ∀ j, l < j → j < n → O.testBit j = false
  | 0, h => by cases h
  | n + 1, h => by
    rw [md_last] at h
    by_cases hb : O.testBit n = true
    · rw [if_pos hb] at h
      cases h
      exact ⟨by omega, hb, fun j h1 h2 => by omega⟩
    · rw [if_neg hb] at h
      obtain ⟨h1, h2, h3⟩ := md_last_some n h
      refine ⟨by omega, h2, fun j h4 h5 => ?_⟩
      by_cases e : j = n
      · subst e; simpa using hb
      · exact h3 j h4 (by omega)
theorem md_last_none {O : Nat} : ∀ n, md_last O n = none → ∀ j, j < n → O.testBit j = false
  | 0, _, j, hj => absurd hj (Nat.not_lt_zero j)
  | n + 1, h, j, hj => by
    rw [md_last] at h
    by_cases hb : O.testBit n = true
    · rw [if_pos hb] at h; cases h
    · rw [if_neg hb] at h
      by_cases e : j = n
      · subst e; simpa using hb
      · exact md_last_none n h j (by omega)
theorem md_big {O m j : Nat} (hO : O < 2 ^ m) (hj : m ≤ j) : O.testBit j = false := Nat.testBit_lt_two_pow (Nat.lt_of_lt_of_le hO (Nat.pow_le_pow_right (by decide) hj))
def sw_pm (a : Nat) : Int32 := match a with
  | 0 => -1
  | k + 1 => nI k
theorem sw_pm_s (k : Nat) : nI k + (-1) = sw_pm k := by
  cases k with
  | zero => rfl
  | succ k => exact nI_m1 k
theorem sw_pm_1 (k : Nat) : nI k - 1 = sw_pm k := by
  cases k with
  | zero => rfl
  | succ k => exact pk_sub (a := k + 1) (b := 1) (by omega)
def tr_mnextRow : am_T := fun as L σ post => ∃ (m O l : Nat) (v : Nat → Nat), as = [.ref 0, .int (nI O)] ∧ L = LM ∧ m ≤ 8 ∧ O < 2 ^ m ∧ σ 0 3 = nI m ∧ md_last O m = some l ∧ (∀ j, j < 8 → σ 18 j = nI (v j)) ∧ md_sup O v ∧ sw_sum v 8 ≤ 5 ∧ (∀ v', md_sup O v' → sw_sum v' 8 = sw_sum v 8 → md_cd v 8 < md_cd v' 8 → (∀ w, md_sup O w → sw_sum w 8 = sw_sum v 8 → md_cd v 8 < md_cd w 8 → md_cd v' 8 ≤ md_cd w 8) → ∀ σ', am_fr [18] σ σ' → (∀ j, j < 8 → σ' 18 j = nI (v' j)) → post (some (.int 1)) L σ') ∧ ((∀ w, md_sup O w → sw_sum w 8 = sw_sum v 8 → ¬ md_cd v 8 < md_cd w 8) → ∀ σ', am_fr [18] σ σ' → post (some (.int 0)) L σ')
set_option maxHeartbeats 1000000 in
theorem ct_mnextRow (l : Launch) : am_Ct l 1 yX7_nextRow cX7_nextRow 6 (some .boolean) tr_mnextRow := by
  refine am_ct tbX7_nextRow (am_G [tr_mhas]) (by decide +kernel) (by simp) rfl dtX7_nextRow rfl ckX7_nextRow lkX7_nextRow (am_cokF [(14, some (.invokestatic 189), 0, 2, 0, 0), (72, some (.invokestatic 189), 0, 2, 0, 0)] rfl (List.forall_mem_cons.mpr ⟨Or.inr (Or.inr (Or.inr ⟨0, _, _, _, _, by decide, (ct_mhas l), lnX7_189⟩)), List.forall_mem_cons.mpr ⟨Or.inr (Or.inr (Or.inr ⟨0, _, _, _, _, by decide, (ct_mhas l), lnX7_189⟩)), fun _ h => absurd h List.not_mem_nil⟩⟩)) ?_
  intro as L σ post h
  obtain ⟨m, O, l, v, rfl, rfl, hm, hO, e3, hlast, h18, hv, h5, hY, hNo⟩ := h
  refine ⟨by simp [am_lv0], fun WW hw => ?_⟩
  have hp : 2 ^ m ≤ 256 := Nat.pow_le_pow_right (n := 2) (by decide) hm
  obtain ⟨l1, l2, l3⟩ := md_last_some m hlast
  have l4 : ∀ j, l < j → O.testBit j = false := fun j hj => by
    by_cases h : j < m
    · exact l3 j hj h
    · exact md_big hO (by omega)
  have b5 : ∀ j, j < 8 → v j ≤ 5 := md_bnd h5
  have vl : vp_in (nI l) 8 := vp_j (by omega) (by decide)
  have cl : (nI l).toNatClampNeg = l := nI_cl (by omega)
  have M24 : ∀ (B b : Nat) (σ1 : am_M), b ≤ B → b ≤ l → O.testBit b = true → am_fr [18] σ σ1 → (∀ j, j < 8 → σ1 18 j = nI (v j)) → (∀ j, b < j → v j = 0) → WW 24 [some (.ref 0), some (.int (nI O)), some (.int (nI l)), some (.int (nI b)), some (.int 0)] [] LM σ1 := by
    intro B
    induction B with
    | zero =>
      intro b σ1 hbB hbl hOb hf hs hz
      have eb : b = 0 := by omega
      subst eb
      have v0 : vp_in (nI 0) 8 := vp_j (by decide) (by decide)
      have c0 : (nI 0).toNatClampNeg = 0 := by decide
      refine hw 60 _ _ _ _ _ ?_
      conv => whnf
      refine ⟨fun c => absurd c (by decide), fun _ => ?_⟩
      repeat ((conv => whnf); refine And.intro ?_ ?_; first | with_reducible assumption | decide)
      conv => whnf
      refine hw 60 _ _ _ _ _ ?_
      conv => whnf
      refine ⟨fun _ => ?_, fun c => absurd (by decide : nI 0 - 1 < 0) c⟩
      conv => whnf
      refine ⟨fun c => absurd c (by decide), fun _ => ?_⟩
      conv => whnf
      exact ⟨Or.inl rfl, hNo (fun w hw2 hs2 => md_lastrow (b := 0) (by decide) hv hz (fun j hj => absurd hj (Nat.not_lt_zero j)) w hw2 hs2 h5) _ (am_fr_up _ hf (by decide))⟩
    | succ B ihB =>
      intro b σ1 hbB hbl hOb hf hs hz
      have vb : vp_in (nI b) 8 := vp_j (by omega) (by decide)
      have cb : (nI b).toNatClampNeg = b := nI_cl (by omega)
      have hvb := b5 b (by omega)
      have lc0 : nI (v b) ≤ 0 ↔ v b ≤ 0 := nI_le' (b := 0) (by omega) (by decide)
      have hs2 : ∀ j, j < 8 → am_w σ1 18 b 0 18 j = nI (va_up v b 0 j) := fun j hj => by
        by_cases ej : j = b
        · subst ej; rw [aw_s, up_vs]; rfl
        · rw [aw_k _ _ _ _ _ ej, up_vn _ _ _ _ ej]; exact hs j hj
      have hf2 : am_fr [18] σ (am_w σ1 18 b 0) := aw_fr hf (by decide)
      generalize hσ2 : am_w σ1 18 b 0 = σ2 at hs2 hf2
      have M43 : ∀ a', a' ≤ b → (∀ j, a' ≤ j → j < b → O.testBit j = false) → WW 43 [some (.ref 0), some (.int (nI O)), some (.int (nI l)), some (.int (nI b)), some (.int (nI (v b))), some (.int (sw_pm a'))] [] LM σ2 := by
        intro a'
        induction a' with
        | zero =>
          intro ha hno
          refine hw 60 _ _ _ _ _ ?_
          conv => whnf
          refine ⟨fun _ => ?_, fun c => absurd (by decide : (-1 : Int32) < 0) c⟩
          conv => whnf
          refine ⟨fun c => absurd c (by decide), fun _ => ?_⟩
          conv => whnf
          exact ⟨Or.inl rfl, hNo (fun w hw2 hs2 => md_lastrow (b := b) (by omega) hv hz (fun j hj => hno j (Nat.zero_le j) hj) w hw2 hs2 h5) _ hf2⟩
        | succ a ih =>
          intro ha hno
          show WW 43 [some (.ref 0), some (.int (nI O)), some (.int (nI l)), some (.int (nI b)), some (.int (nI (v b))), some (.int (nI a))] [] LM σ2
          have hbit := sw_bit_nat O (by omega) a (by omega)
          have va : vp_in (nI a) 8 := vp_j (by omega) (by decide)
          have ca : (nI a).toNatClampNeg = a := nI_cl (by omega)
          have na : ¬ nI a < 0 := nI_pos (by omega)
          have ga : 0 ≤ nI a := Int32.not_lt.mp na
          have hva := b5 a (by omega)
          refine hw 60 _ _ _ _ _ ?_
          conv => whnf
          refine ⟨fun c => absurd c na, fun _ => ?_⟩
          conv => whnf
          refine ⟨nI O, a, rfl, ?_⟩
          rw [hbit]
          cases hOa : O.testBit a with
          | false =>
            conv => whnf
            refine ⟨fun c => absurd rfl c, fun _ => ?_⟩
            conv => whnf
            have := ih (by omega) (fun j h1 h2 => by
              by_cases ej : j = a
              · subst ej; exact hOa
              · exact hno j (by omega) h2)
            rw [← sw_pm_s a] at this
            exact this
          | true =>
            conv => whnf
            refine ⟨fun _ => ?_, fun c => absurd c (by decide)⟩
            conv => whnf
            refine ⟨fun _ => ?_, fun c => absurd ga c⟩
            conv => whnf
            rw [lc0]
            refine ⟨fun cc => ?_, fun cc => ?_⟩
            · have hv0 : v b = 0 := by omega
              conv => whnf
              rw [hv0]
              refine ihB a σ2 (by omega) (by omega) hOa hf2 (fun j hj => ?_) (fun j hj => ?_)
              · rw [hs2 j hj]
                by_cases ej : j = b
                · subst ej; rw [up_vs, hv0]
                · rw [up_vn _ _ _ _ ej]
              · by_cases h1 : j < b
                · exact hv j (hno j (by omega) h1)
                · by_cases h2 : j = b
                  · subst h2; exact hv0
                  · exact hz j (by omega)
            · have hpos : 0 < v b := by omega
              obtain ⟨x1, x2, x3, x4⟩ := md_next (O := O) (v := v) (b := b) (a := a) (l := l) (by omega) (by omega) (by omega) hbl hOa l2 hv h5 hpos hz (fun j h1 h2 => hno j (by omega) h2) l4
              have r1 : σ2 18 a = nI (v a) := by rw [hs2 a (by omega), up_vn _ _ _ _ (by omega)]
              repeat ((conv => whnf); refine And.intro ?_ ?_; first | with_reducible assumption | decide)
              conv => whnf
              rw [ca, cl, r1, nI_1, show nI (v b) - 1 = nI (v b - 1) from pk_sub (b := 1) (by omega)]
              refine hY _ x1 x2 x3 x4 (am_w (am_w σ2 18 a (nI (v a + 1))) 18 l (nI (v b - 1))) (aw_fr (aw_fr hf2 (by decide)) (by decide)) (fun j hj => ?_)
              by_cases ej : j = l
              · subst ej; rw [aw_s, up_vs]
              · rw [aw_k _ _ _ _ _ ej, up_vn _ _ _ _ ej]
                by_cases ej2 : j = a
                · subst ej2; rw [aw_s, up_vs]
                · rw [aw_k _ _ _ _ _ ej2, up_vn _ _ _ _ ej2]; exact hs2 j hj
      refine hw 60 _ _ _ _ _ ?_
      conv => whnf
      refine ⟨fun c => absurd c (nI_pos (by omega)), fun _ => ?_⟩
      repeat ((conv => whnf); refine And.intro ?_ ?_; first | with_reducible assumption | decide)
      conv => whnf
      rw [cb, hs b (by omega), Int32.zero_add, sw_pm_1]
      have hσ2' : am_up σ1 18 (upd (σ1 18) b (bif false then vp_nar .boolean 0 else 0)) = σ2 := hσ2
      rw [hσ2']
      exact M43 b (Nat.le_refl b) (fun j h1 h2 => by omega)
  have L5 : ∀ d i, d + i = m → WW 5 [some (.ref 0), some (.int (nI O)), some (.int (sw_on (md_last O i))), some (.int (nI i))] [] LM σ := by
    intro d
    induction d with
    | zero =>
      intro i hi
      have ei : i = m := by omega
      subst ei
      refine hw 60 _ _ _ _ _ ?_
      conv => whnf
      rw [e3]
      refine ⟨fun _ => ?_, fun c => absurd (Int32.le_refl _) c⟩
      conv => whnf
      rw [hlast]
      exact M24 l l σ (Nat.le_refl l) (Nat.le_refl l) l2 (am_fr_rf _ _) h18 (fun j hj => hv j (l4 j hj))
    | succ d ih =>
      intro i hi
      have hbit := sw_bit_nat O (by omega) i (by omega)
      have ih' := ih (i + 1) (by omega)
      rw [md_last] at ih'
      refine hw 60 _ _ _ _ _ ?_
      conv => whnf
      rw [e3]
      refine ⟨fun c => absurd c (nI_ge (by omega) (by omega)), fun _ => ?_⟩
      conv => whnf
      refine ⟨nI O, i, rfl, ?_⟩
      rw [hbit]
      cases hOi : O.testBit i with
      | false =>
        rw [hOi, if_neg (by decide)] at ih'
        conv => whnf
        refine ⟨fun _ => ?_, fun c => absurd rfl c⟩
        conv => whnf
        rw [nI_1]; exact ih'
      | true =>
        rw [hOi, if_pos rfl] at ih'
        conv => whnf
        refine ⟨fun c => absurd c (by decide), fun _ => ?_⟩
        conv => whnf
        rw [nI_1]; exact ih'
  refine hw 60 _ _ _ _ _ ?_
  conv => whnf
  exact L5 m 0 (by omega)
theorem md_S0 {cn st mn m : Nat} {c e k : Nat → Nat} {R : Nat} {rn : Nat → Nat} {F : sw_F} {q : Nat} : md_S (cn, st, mn, m, c, e, k, R, rn) F q (fun _ => 0) = sw_cs (sw_yr m cn c e k (rn (F.2.2.2.2.2 % R)) F).1 c q m / st := by
  obtain ⟨n, g, f, s, lo, y⟩ := F
  have : md_far c q (fun _ => 0) f = f := by
    funext b; unfold md_far; split <;> rfl
  show sw_cs (sw_yr m cn c e k (rn (y % R)) (sw_far (n, g, f, s, lo, y) (md_far c q (fun _ => 0) f))).1 c q m / st = _
  rw [this]; rfl
def tr_mfindMud : am_T := fun as L σ post => ∃ (cn st mn m : Nat) (c e k : Nat → Nat) (R : Nat) (rn : Nat → Nat) (F : sw_F) (q : Nat), as = [.ref 0, .int (nI q)] ∧ L = LM ∧ rmD (cn, st, mn, m, c, e, k, R, rn) σ ∧ okD (cn, st, mn, m, c, e, k, R, rn) ∧ sw_FM σ m F ∧ okF m e F ∧ q < cn ∧ (md_o (md_P (cn, st, mn, m, c, e, k, R, rn) F q) = none → ∀ σ', fm [5, 14, 16, 18] [31] σ σ' → (∀ p, p < 27 → σ' 5 p = σ 5 p) → post (some (.int (-1))) L σ') ∧ (∀ K, md_o (md_P (cn, st, mn, m, c, e, k, R, rn) F q) = some K → K / 1679616 ≤ 5 → ∀ σ', fm [5, 14, 16, 18] [31] σ σ' → (∀ p, p < 27 → σ' 5 p = σ 5 p) → σ' 0 31 = nI (K % 1679616) → post (some (.int (nI (K / 1679616)))) L σ')
set_option maxHeartbeats 2000000 in
theorem ct_mfindMud (l : Launch) : am_Ct l 5 yX7_findMud cX7_findMud 7 (some .int) tr_mfindMud := by
  refine am_ct tbX7_findMud (am_G [tr_mofCounty, tr_msave, tr_mpass, tr_msouls, tr_mputBack, tr_mhas, tr_mcodeOf, tr_mbrings, tr_mnextRow]) (by decide +kernel) (by simp) rfl dtX7_findMud rfl ckX7_findMud lkX7_findMud (am_cokF [(2, some (.invokevirtual 266), 0, 2, 7, 0), (7, some (.invokevirtual 257), 1, 1, 7, 0), (11, some (.invokevirtual 222), 2, 1, 7, 0), (16, some (.invokevirtual 260), 3, 2, 7, 0), (26, some (.invokevirtual 263), 4, 1, 7, 0), (47, some (.invokestatic 189), 5, 2, 0, 0), (129, some (.invokevirtual 290), 6, 1, 7, 0), (142, some (.invokevirtual 296), 7, 4, 7, 0), (153, some (.invokevirtual 299), 8, 2, 7, 0)] rfl (List.forall_mem_cons.mpr ⟨⟨0, _, _, _, _, by decide, (ct_mofCounty l), lnX7_266⟩, List.forall_mem_cons.mpr ⟨⟨0, _, _, _, _, by decide, (ct_msave l), lnX7_257⟩, List.forall_mem_cons.mpr ⟨⟨3, _, _, _, _, by decide, (ct_mpass l), lnX7_222⟩, List.forall_mem_cons.mpr ⟨⟨0, _, _, _, _, by decide, (ct_msouls l), lnX7_260⟩, List.forall_mem_cons.mpr ⟨⟨0, _, _, _, _, by decide, (ct_mputBack l), lnX7_263⟩, List.forall_mem_cons.mpr ⟨Or.inr (Or.inr (Or.inr ⟨0, _, _, _, _, by decide, (ct_mhas l), lnX7_189⟩)), List.forall_mem_cons.mpr ⟨⟨0, _, _, _, _, by decide, (ct_mcodeOf l), lnX7_290⟩, List.forall_mem_cons.mpr ⟨⟨4, _, _, _, _, by decide, (ct_mbrings l), lnX7_296⟩, List.forall_mem_cons.mpr ⟨⟨1, _, _, _, _, by decide, (ct_mnextRow l), lnX7_299⟩, fun _ h => absurd h List.not_mem_nil⟩⟩⟩⟩⟩⟩⟩⟩⟩)) ?_
  intro as L σ post h
  obtain ⟨cn, st, mn, m, c, e, k, R, rn, F, q, rfl, rfl, hD, hokD, hF, hokF, hq, hN, hK⟩ := h
  refine ⟨by simp [am_lv0], fun WW hw => ?_⟩
  obtain ⟨hcn, hm, -, hpos, hst, hmn, hB, hR0, hR8, hrn⟩ := id hokD
  obtain ⟨hFk, hy⟩ := id hokF
  have he : ∀ b, b < m → e b ≤ 40 := fun b hb => (hB b hb).2.1
  have hcc : ∀ b, b < m → c b < 1000 := fun b hb => by have := (hB b hb).1; omega
  have hp0 := hpos (by omega)
  have hS0 : md_S (cn, st, mn, m, c, e, k, R, rn) F q (fun _ => 0) ≤ 320 := md_S_le hokD hokF
  have hS0e := md_S0 (cn := cn) (st := st) (mn := mn) (m := m) (c := c) (e := e) (k := k) (R := R) (rn := rn) (F := F) (q := q)
  generalize hs0 : md_S (cn, st, mn, m, c, e, k, R, rn) F q (fun _ => 0) = S0 at hS0 hS0e
  have hOlt : sw_own m c q < 2 ^ m := sw_set_lt _ _
  have hObit : ∀ j, (sw_own m c q).testBit j = (decide (j < m) && (c j == q)) := fun j => sw_set_bit _ m j
  generalize hOe : sw_own m c q = O at hOlt hObit
  have hp2 : 2 ^ m ≤ 256 := Nat.pow_le_pow_right (n := 2) (by decide) hm
  have sup_ok : ∀ w, md_sup O w → md_ok (cn, st, mn, m, c, e, k, R, rn) q w := fun w hw2 b hb => hw2 b (by
    rw [hObit]
    by_cases h1 : b < m
    · have h2 : ¬ c b = q := fun h => hb ⟨h1, h⟩
      rw [beq_eq_false_iff_ne.mpr h2, Bool.and_false]
    · rw [decide_eq_false h1, Bool.false_and])
  have ok_sup : ∀ w, md_ok (cn, st, mn, m, c, e, k, R, rn) q w → md_sup O w := fun w hw2 b hb => hw2 b (fun hh => by
    have h1 : b < m := hh.1
    have h2 : c b = q := hh.2
    rw [hObit, decide_eq_true h1, beq_iff_eq.mpr h2] at hb
    cases hb)
  -- the memory while rows are tried
  have base : ∀ σ1, fm [5, 14, 16, 18] [31] σ σ1 → (∀ p, p < 27 → σ1 5 p = σ 5 p) → rmD (cn, st, mn, m, c, e, k, R, rn) σ1 ∧ sw_FM σ1 m F := fun σ1 hf h5 => ⟨rmD_junk (fm_tr (fm_rf _ _ _) hf (by decide) (by decide)) hD, sw_FM_eq hm h5 hF⟩
  -- rows of n, from v on
  have rows : ∀ (l n : Nat), md_last O m = some l → 0 < n → n ≤ 5 → (∀ w, md_sup O w → 0 < sw_sum w 8 → sw_sum w 8 < n → ¬ S0 < md_S (cn, st, mn, m, c, e, k, R, rn) F q w) → (∀ σ1, fm [5, 14, 16, 18] [31] σ σ1 → (∀ p, p < 27 → σ1 16 p = σ 5 p) → (∀ p, p < 27 → σ1 5 p = σ 5 p) → (∀ w, md_sup O w → 0 < sw_sum w 8 → sw_sum w 8 < n + 1 → ¬ S0 < md_S (cn, st, mn, m, c, e, k, R, rn) F q w) → WW 39 [some (.ref 0), some (.int (nI q)), some (.int (nI O)), some (.int (nI S0)), some (.int (nI l)), some (.int (nI (n + 1)))] [] LM σ1) →
      ∀ (N : Nat) (v : Nat → Nat) (σ1 : am_M), 1679616 - md_cd v 8 ≤ N → md_sup O v → sw_sum v 8 = n → (∀ w, md_sup O w → sw_sum w 8 = n → md_cd w 8 < md_cd v 8 → ¬ S0 < md_S (cn, st, mn, m, c, e, k, R, rn) F q w) → fm [5, 14, 16, 18] [31] σ σ1 → (∀ p, p < 27 → σ1 16 p = σ 5 p) → (∀ p, p < 27 → σ1 5 p = σ 5 p) → (∀ j, j < 8 → σ1 18 j = nI (v j)) → WW 65 [some (.ref 0), some (.int (nI q)), some (.int (nI O)), some (.int (nI S0)), some (.int (nI l)), some (.int (nI n)), some (.int 1)] [] LM σ1 := by
    intro l n hl hn0 hn5 hless hnext N
    induction N with
    | zero =>
      intro v σ1 hN2 hv hs
      have := md_cd8 (v := v) (md_bnd (by omega))
      omega
    | succ N ih =>
      intro v σ1 hN2 hv hs hbef hf h16 h5 h18
      have hv5 : ∀ j, j < 8 → v j ≤ 5 := md_bnd (by omega)
      have hcd := md_cd8 hv5
      refine hw 60 _ _ _ _ _ ?_
      conv => whnf
      refine ⟨fun c => absurd c (by decide), fun _ => ?_⟩
      conv => whnf
      refine ⟨v, rfl, rfl, h18, ?_⟩
      conv => whnf
      have hf2 : fm [] [31] σ1 (am_up σ1 0 (upd (σ1 0) 31 (nI (md_cd v 8)))) := fm_w0 (fm_rf _ _ _) (by decide)
      rw [am_us, up_s]
      have k31 : am_up σ1 0 (upd (σ1 0) 31 (nI (md_cd v 8))) 0 31 = nI (md_cd v 8) := by rw [am_us, up_s]
      generalize am_up σ1 0 (upd (σ1 0) 31 (nI (md_cd v 8))) = σ2 at hf2 k31 ⊢
      have hf2' : fm [5, 14, 16, 18] [31] σ σ2 := fm_tr hf hf2 (by decide) (by decide)
      have h52 : ∀ p, p < 27 → σ2 5 p = σ 5 p := fun p hp => by rw [fm_d hf2 5 rfl (by decide)]; exact h5 p hp
      have h162 : ∀ p, p < 27 → σ2 16 p = σ 5 p := fun p hp => by rw [fm_d hf2 16 rfl (by decide)]; exact h16 p hp
      obtain ⟨hD2, hF2⟩ := base σ2 hf2' h52
      refine ⟨cn, st, mn, m, c, e, k, R, rn, F, q, S0, v, rfl, rfl, hD2, hokD, hF2, hokF, hq, hv5, sup_ok v hv, by omega, fun p hp => by rw [h162 p hp, h52 p hp], fun σ3 hf3 h53 => ?_⟩
      have hf3' : fm [5, 14, 16, 18] [31] σ σ3 := fm_tr hf2' hf3 (by decide) (by decide)
      have h53' : ∀ p, p < 27 → σ3 5 p = σ 5 p := fun p hp => by rw [h53 p hp]; exact h52 p hp
      have h163 : ∀ p, p < 27 → σ3 16 p = σ 5 p := fun p hp => by rw [fm_d hf3 16 rfl (by decide)]; exact h162 p hp
      have h183 : ∀ j, j < 8 → σ3 18 j = nI (v j) := fun j hj => by rw [fm_d hf3 18 rfl (by decide), fm_d hf2 18 rfl (by decide)]; exact h18 j hj
      by_cases hgood : S0 < md_S (cn, st, mn, m, c, e, k, R, rn) F q v
      · rw [decide_eq_true hgood]
        obtain ⟨dd1, dd2⟩ := md_dec (n := n) hcd
        have hfin := hK (n * 1679616 + md_cd v 8) (md_o_some ⟨v, n, sup_ok v hv, hs, hn0, hn5, by rw [hs0]; exact hgood, rfl⟩ (fun y hy2 hP => by
          obtain ⟨w, n', hw2, hws, hn0', hn5', hSw, hy3⟩ := hP
          rw [hs0] at hSw
          have hcw := md_cd8 (v := w) (md_bnd (by omega))
          by_cases hnn : n' < n
          · exact hless w (ok_sup w hw2) (by omega) (by omega) hSw
          · have hnn2 : n' = n := by omega
            exact hbef w (ok_sup w hw2) (by omega) (by omega) hSw))
        rw [dd1, dd2] at hfin
        conv => whnf
        refine ⟨fun c => absurd c (by decide), fun _ => ?_⟩
        conv => whnf
        exact hfin hn5 σ3 hf3' h53' (by rw [fm_k hf3 31 rfl]; exact k31)
      · rw [decide_eq_false hgood]
        conv => whnf
        refine ⟨fun _ => ?_, fun c => absurd rfl c⟩
        conv => whnf
        refine ⟨m, O, l, v, rfl, rfl, hm, hOlt, (fm_k hf3' 3 rfl).trans hD.1.1, hl, h183, hv, by omega, fun v' a1 a2 a3 a4 σ4 hf4 h184 => ?_, fun hlast2 σ4 hf4 => ?_⟩
        · have hf4' : fm [5, 14, 16, 18] [31] σ σ4 := fm_fr hf3' hf4 (by decide) rfl
          conv => whnf
          refine ih v' σ4 (by omega) a1 (by omega) (fun w hw2 hws hlt => ?_) hf4' (fun p hp => by rw [am_frd hf4 16 rfl]; exact h163 p hp) (fun p hp => by rw [am_frd hf4 5 rfl]; exact h53' p hp) h184
          rcases Nat.lt_trichotomy (md_cd w 8) (md_cd v 8) with h1 | h1 | h1
          · exact hbef w hw2 hws h1
          · have hw5 : ∀ j, j < 8 → w j ≤ 5 := md_bnd (by omega)
            have hwv : ∀ j, j < 8 → w j = v j := fun j hj => by rw [← md_fig hj hw5, ← md_fig hj hv5, h1]
            rw [md_S_congr (D := (cn, st, mn, m, c, e, k, R, rn)) (v := w) (w := v) (fun j hj => hwv j (by have hj : j < m := hj; omega))]
            exact hgood
          · have := a4 w hw2 (by omega) h1
            omega
        · have hf4' : fm [5, 14, 16, 18] [31] σ σ4 := fm_fr hf3' hf4 (by decide) rfl
          have h54 : ∀ p, p < 27 → σ4 5 p = σ 5 p := fun p hp => by rw [am_frd hf4 5 rfl]; exact h53' p hp
          conv => whnf
          refine hw 60 _ _ _ _ _ ?_
          conv => whnf
          refine ⟨fun _ => ?_, fun c => absurd rfl c⟩
          conv => whnf
          rw [nI_1]
          refine hnext σ4 hf4' (fun p hp => by rw [am_frd hf4 16 rfl]; exact h163 p hp) h54 (fun w hw2 hw0 hwn => ?_)
          by_cases hlt : sw_sum w 8 < n
          · exact hless w hw2 hw0 hlt
          · have hwn2 : sw_sum w 8 = n := by omega
            have hnlt := hlast2 w hw2 (by omega)
            rcases Nat.lt_or_ge (md_cd w 8) (md_cd v 8) with h1 | h1
            · exact hbef w hw2 hwn2 h1
            · have hw5 : ∀ j, j < 8 → w j ≤ 5 := md_bnd (by omega)
              have hee : md_cd w 8 = md_cd v 8 := by omega
              have hwv : ∀ j, j < 8 → w j = v j := fun j hj => by rw [← md_fig hj hw5, ← md_fig hj hv5, hee]
              rw [md_S_congr (D := (cn, st, mn, m, c, e, k, R, rn)) (v := w) (w := v) (fun j hj => hwv j (by have hj : j < m := hj; omega))]
              exact hgood
  have outer : ∀ (l : Nat), md_last O m = some l → ∀ (kk n : Nat) (σ1 : am_M), n + kk = 6 → 0 < n → fm [5, 14, 16, 18] [31] σ σ1 → (∀ p, p < 27 → σ1 16 p = σ 5 p) → (∀ p, p < 27 → σ1 5 p = σ 5 p) → (∀ w, md_sup O w → 0 < sw_sum w 8 → sw_sum w 8 < n → ¬ S0 < md_S (cn, st, mn, m, c, e, k, R, rn) F q w) → WW 39 [some (.ref 0), some (.int (nI q)), some (.int (nI O)), some (.int (nI S0)), some (.int (nI l)), some (.int (nI n))] [] LM σ1 := by
    intro l hl kk
    obtain ⟨l1, l2, l3⟩ := md_last_some m hl
    have l4 : ∀ j, l < j → O.testBit j = false := fun j hj => by
      by_cases h : j < m
      · exact l3 j hj h
      · exact md_big hOlt (by omega)
    induction kk with
    | zero =>
      intro n σ1 hn hn0 hf h16 h5 hless
      have en : n = 6 := by omega
      subst en
      refine hw 60 _ _ _ _ _ ?_
      conv => whnf
      refine ⟨fun _ => ?_, fun c => absurd (Int32.le_refl _) c⟩
      conv => whnf
      refine hN (md_o_none (fun K hKP => ?_)) σ1 hf h5
      obtain ⟨w, n', hw2, hws, hn0', hn5', hSw, -⟩ := hKP
      rw [hs0] at hSw
      exact hless w (ok_sup w hw2) (by omega) (by omega) hSw
    | succ kk ih =>
      intro n σ1 hn hn0 hf h16 h5 hless
      have hlay : ∀ (d i : Nat) (σ2 : am_M), d + i = 8 → am_fr [18] σ1 σ2 → (∀ j, j < i → σ2 18 j = nI (va_up (fun _ => 0) l n j)) → WW 47 [some (.ref 0), some (.int (nI q)), some (.int (nI O)), some (.int (nI S0)), some (.int (nI l)), some (.int (nI n)), some (.int (nI i))] [] LM σ2 := by
        intro d
        induction d with
        | zero =>
          intro i σ2 hd hf2 h18
          have ei : i = 8 := by omega
          subst ei
          have hsum : sw_sum (va_up (fun _ => 0) l n) 8 = n := by rw [sw_sum_up rfl 8 (by omega), sw_sum_0 8 (fun _ _ => rfl)]; omega
          refine hw 60 _ _ _ _ _ ?_
          conv => whnf
          refine ⟨fun _ => ?_, fun c => absurd (Int32.le_refl _) c⟩
          conv => whnf
          refine rows l n hl hn0 (by omega) hless (fun σ3 a b c d => ih (n + 1) σ3 (by omega) (by omega) a b c d) (1679616 - md_cd (va_up (fun _ => 0) l n) 8) (va_up (fun _ => 0) l n) σ2 (Nat.le_refl _) (fun j hj => ?_) hsum (fun w hw2 hws hlt => ?_) (fm_fr hf hf2 (by decide) rfl) (fun p hp => by rw [am_frd hf2 16 rfl]; exact h16 p hp) (fun p hp => by rw [am_frd hf2 5 rfl]; exact h5 p hp) h18
          · by_cases ej : j = l
            · subst ej; rw [l2] at hj; cases hj
            · rw [up_vn _ _ _ _ ej]
          · exfalso
            obtain ⟨i, i8, ia, ilt⟩ := md_lt_first (v := w) (w := va_up (fun _ => 0) l n) (md_bnd (by omega)) hlt
            by_cases hil : i = l
            · subst hil
              have := md_sum_gt i8 ia ilt (fun j h1 h2 => hw2 j (l4 j h1))
              omega
            · rw [up_vn _ _ _ _ hil] at ilt; omega
        | succ d ihd =>
          intro i σ2 hd hf2 h18
          have vi : vp_in (nI i) 8 := vp_j (by omega) (by decide)
          have ci : (nI i).toNatClampNeg = i := nI_cl (by omega)
          have fin : ∀ x : Nat, x = va_up (fun _ => 0) l n i → WW 47 [some (.ref 0), some (.int (nI q)), some (.int (nI O)), some (.int (nI S0)), some (.int (nI l)), some (.int (nI n)), some (.int (nI (i + 1)))] [] LM (am_w σ2 18 i (nI x)) := by
            intro x hx
            refine ihd (i + 1) _ (by omega) (aw_fr hf2 (by decide)) (fun j hj => ?_)
            by_cases ej : j = i
            · subst ej; rw [aw_s, hx]
            · rw [aw_k _ _ _ _ _ ej]; exact h18 j (by omega)
          refine hw 60 _ _ _ _ _ ?_
          conv => whnf
          refine ⟨fun c => absurd c (nI_ge (b := 8) (by omega) (by decide)), fun _ => ?_⟩
          conv => whnf
          rw [nI_eq' (by omega) (by omega)]
          refine ⟨fun cc => ?_, fun cc => ?_⟩
          · repeat ((conv => whnf); refine And.intro ?_ ?_; first | with_reducible assumption | decide)
            conv => whnf
            rw [ci, nI_1]
            exact fin 0 (by rw [up_vn _ _ _ _ cc])
          · repeat ((conv => whnf); refine And.intro ?_ ?_; first | with_reducible assumption | decide)
            conv => whnf
            rw [ci, nI_1]
            exact fin n (by rw [cc, up_vs])
      refine hw 60 _ _ _ _ _ ?_
      conv => whnf
      refine ⟨fun c => absurd c (nI_ge (b := 6) (by omega) (by decide)), fun _ => ?_⟩
      conv => whnf
      refine ⟨fun c => absurd c (nI_pos (by omega)), fun _ => ?_⟩
      conv => whnf
      exact hlay 8 0 σ1 (by omega) (am_fr_rf _ _) (fun j hj => absurd hj (by omega))
  have L22 : ∀ (σ1 : am_M), fm [5, 14, 16, 18] [31] σ σ1 → (∀ p, p < 27 → σ1 16 p = σ 5 p) → (∀ p, p < 27 → σ1 5 p = σ 5 p) → ∀ d i, d + i = m → WW 22 [some (.ref 0), some (.int (nI q)), some (.int (nI O)), some (.int (nI S0)), some (.int (sw_on (md_last O i))), some (.int (nI i))] [] LM σ1 := by
    intro σ1 hf h16 h5 d
    have k3 : σ1 0 3 = nI m := (fm_k hf 3 rfl).trans hD.1.1
    induction d with
    | zero =>
      intro i hi
      have ei : i = m := by omega
      subst ei
      refine hw 60 _ _ _ _ _ ?_
      conv => whnf
      rw [k3]
      refine ⟨fun _ => ?_, fun c => absurd (Int32.le_refl _) c⟩
      cases hl : md_last O i with
      | none =>
        conv => whnf
        refine hw 60 _ _ _ _ _ ?_
        conv => whnf
        refine ⟨fun c => absurd c (by decide), fun _ => ?_⟩
        conv => whnf
        refine ⟨fun _ => ?_, fun c => absurd (by decide : (-1 : Int32) < 0) c⟩
        conv => whnf
        refine hN (md_o_none (fun K hKP => ?_)) σ1 hf h5
        obtain ⟨w, n', hw2, hws, hn0', hn5', hSw, -⟩ := hKP
        have : sw_sum w 8 = 0 := sw_sum_0 8 (fun j hj => ok_sup w hw2 j (by
          by_cases hji : j < i
          · exact md_last_none i hl j hji
          · exact md_big hOlt (by omega)))
        omega
      | some l =>
        conv => whnf
        exact outer l hl 5 1 σ1 rfl (by decide) hf h16 h5 (fun w _ h0 h1 => by omega)
    | succ d ih =>
      intro i hi
      have hbit := sw_bit_nat O (by omega) i (by omega)
      have ih' := ih (i + 1) (by omega)
      rw [md_last] at ih'
      refine hw 60 _ _ _ _ _ ?_
      conv => whnf
      rw [k3]
      refine ⟨fun c => absurd c (nI_ge (by omega) (by omega)), fun _ => ?_⟩
      conv => whnf
      refine ⟨nI O, i, rfl, ?_⟩
      rw [hbit]
      cases hOi : O.testBit i with
      | false =>
        rw [hOi, if_neg (by decide)] at ih'
        conv => whnf
        refine ⟨fun _ => ?_, fun c => absurd rfl c⟩
        conv => whnf
        rw [nI_1]; exact ih'
      | true =>
        rw [hOi, if_pos rfl] at ih'
        conv => whnf
        refine ⟨fun c => absurd c (by decide), fun _ => ?_⟩
        conv => whnf
        rw [nI_1]; exact ih'
  refine hw 60 _ _ _ _ _ ?_
  conv => whnf
  refine ⟨q, m, c, rfl, rfl, by omega, hm, hD.1.1, fun b hb => ⟨hD.1.2.2.1 b hb, hcc b hb⟩, ?_⟩
  rw [hOe]
  conv => whnf
  refine ⟨rfl, rfl, fun σ1 hf1 h161 => ?_⟩
  have hf1' : fm [5, 14, 16, 18] [31] σ σ1 := fm_fr (fm_rf _ _ _) hf1 (by decide) rfl
  obtain ⟨hD1, hF1⟩ := base σ1 hf1' (fun p hp => by rw [am_frd hf1 5 rfl])
  conv => whnf
  refine ⟨m, cn, c, e, k, F, R, rn, rfl, rfl, hD1.1, ⟨hm, hcn, hB⟩, hF1, okF_FB he hokF, hR0, hR8, hD1.2.2.2.1, fun t ht => ⟨hD1.2.2.2.2 t ht, hrn t ht⟩, by omega, fun σ2 hf2 hF2 => ?_⟩
  have hf2' : fm [5, 14, 16, 18] [31] σ σ2 := fm_fr hf1' hf2 (by decide) rfl
  have hD2 := rmD_junk (fm_tr (fm_rf _ _ _) hf2' (by decide) (by decide)) hD
  have hyr := sw_yr_ok (cn := cn) (c := c) (k := k) (F := F) (hrn _ (Nat.mod_lt F.2.2.2.2.2 hR0)) he (fun b hb => hFk b hb)
  have hF2' : sw_FM σ2 m (sw_yr m cn c e k (rn (F.2.2.2.2.2 % R)) F) := hF2
  generalize sw_yr m cn c e k (rn (F.2.2.2.2.2 % R)) F = G at hyr hF2' hS0e
  have hV := sw_cs_le (f := G.1) (c := c) (q := q) (B := 40) m (fun b hb => by have := (hyr b hb).1; have := he b hb; omega)
  conv => whnf
  refine ⟨q, m, c, G.1, rfl, rfl, by omega, hm, hD2.1.1, fun b hb => ⟨hD2.1.2.2.1 b hb, hcc b hb⟩, hF2'.1, ?_⟩
  conv => whnf
  rw [hD2.2.1, nI_d (by omega) hp0.1 (by omega), ← hS0e]
  refine ⟨nI_ne0 hp0.1 (by omega), ?_⟩
  conv => whnf
  refine ⟨rfl, rfl, fun σ3 hf3 h53 => ?_⟩
  have hf3' : fm [5, 14, 16, 18] [31] σ σ3 := fm_fr hf2' hf3 (by decide) rfl
  conv => whnf
  exact L22 σ3 hf3' (fun p hp => by rw [am_frd hf3 16 rfl, am_frd hf2 16 rfl]; exact h161 p hp) (fun p hp => by rw [h53 p hp, am_frd hf2 16 rfl]; exact h161 p hp) m 0 (by omega)
set_option maxHeartbeats 1000000 in
theorem ct_mleastMud (l : Launch) (A : sw_A) (hA : okA A) (x y : Int32) : am_Ct l 6 yX7_leastMud cX7_leastMud 4 (some .int) (trM [.ref 0, .int x, .int y] A (st_leastMud A x y)) := by
  refine am_ct tbX7_leastMud (am_G [tr_misCounty, tr_misBarn, tr_mfindMud, tr_mfigure]) (by decide +kernel) (by simp) rfl dtX7_leastMud rfl ckX7_leastMud lkX7_leastMud (am_cokF [(2, some (.invokevirtual 250), 0, 2, 7, 0), (15, some (.invokevirtual 184), 1, 2, 7, 0), (36, some (.invokevirtual 302), 2, 2, 7, 0), (58, some (.invokestatic 287), 3, 2, 0, 0)] rfl (List.forall_mem_cons.mpr ⟨⟨1, _, _, _, _, by decide, (ct_misCounty l), lnX7_250⟩, List.forall_mem_cons.mpr ⟨⟨1, _, _, _, _, by decide, (ct_misBarn l), lnX7_184⟩, List.forall_mem_cons.mpr ⟨⟨5, _, _, _, _, by decide, (ct_mfindMud l), lnX7_302⟩, List.forall_mem_cons.mpr ⟨Or.inr (Or.inr (Or.inr ⟨0, _, _, _, _, by decide, (ct_mfigure l), lnX7_287⟩)), fun _ h => absurd h List.not_mem_nil⟩⟩⟩⟩)) ?_
  intro as L σ post h
  obtain ⟨rfl, rfl, hR, h⟩ := h
  refine ⟨by simp [am_lv0], fun WW hw => ?_⟩
  obtain ⟨T, ⟨cn, st, mn, m, c, e, k, R, rn⟩, F, sd, U, I, E1, E2, E3⟩ := A
  obtain ⟨hT, hD, hF, -⟩ := id hR
  obtain ⟨-, -, hokD, hokF, -⟩ := hA
  have hL := hD.1
  obtain ⟨hcn, hm, -, -, -, -, hB, -⟩ := id hokD
  cases hx : sw_ix x 0 cn with
  | none =>
    refine hw 60 _ _ _ _ _ ?_
    conv => whnf
    refine ⟨cn, x, rfl, rfl, by omega, hL.2.1, ?_⟩
    simp only [st_leastMud, hx] at h
    rw [hx]
    conv => whnf
    exact ⟨fun _ => h σ hR, fun c => absurd rfl c⟩
  | some q =>
    obtain ⟨-, hq, rfl⟩ := sw_ix_some hx
    simp only [st_leastMud, hx] at h
    by_cases hy : y = -1
    · subst hy
      rw [if_pos rfl] at h
      have M20 : WW 20 [some (.ref 0), some (.int (nI q)), some (.int (-1))] [] LM σ := by
        refine hw 60 _ _ _ _ _ ?_
        conv => whnf
        refine ⟨cn, st, mn, m, c, e, k, R, rn, F, q, rfl, rfl, hD, hokD, hF, hokF, hq, fun hn σ1 hf1 h5 => ?_, fun K hK hK5 σ1 hf1 h5 h31 => ?_⟩
        · rw [hn] at h
          have h := h σ1 (RM_junk hm (fm_tr (fm_rf _ _ _) hf1 (by decide) (by decide)) h5 hR)
          conv => whnf
          refine ⟨fun _ => h, fun c => absurd (by decide : (-1 : Int32) < 0) c⟩
        · rw [hK] at h
          have h := h σ1 (RM_junk hm (fm_tr (fm_rf _ _ _) hf1 (by decide) (by decide)) h5 hR)
          conv => whnf
          refine ⟨fun c => absurd c (nI_pos (by omega)), fun _ => ?_⟩
          conv => whnf
          exact ⟨fun c => absurd rfl c, fun _ => h⟩
      refine hw 60 _ _ _ _ _ ?_
      conv => whnf
      refine ⟨cn, nI q, rfl, rfl, by omega, hL.2.1, ?_⟩
      rw [hx]
      conv => whnf
      refine ⟨fun c => absurd c sw_t0, fun _ => ?_⟩
      conv => whnf
      refine ⟨fun _ => ?_, fun c => absurd rfl c⟩
      conv => whnf
      exact M20
    · rw [if_neg hy] at h
      cases hyx : sw_ix y 0 m with
      | none =>
        simp only [hyx] at h
        refine hw 60 _ _ _ _ _ ?_
        conv => whnf
        refine ⟨cn, nI q, rfl, rfl, by omega, hL.2.1, ?_⟩
        rw [hx]
        conv => whnf
        refine ⟨fun c => absurd c sw_t0, fun _ => ?_⟩
        conv => whnf
        refine ⟨fun c => absurd c hy, fun _ => ?_⟩
        conv => whnf
        refine ⟨m, y, rfl, rfl, by omega, hL.1, ?_⟩
        rw [hyx]
        conv => whnf
        exact ⟨fun _ => h σ hR, fun c => absurd rfl c⟩
      | some j =>
        obtain ⟨-, hj, rfl⟩ := sw_ix_some hyx
        simp only [hyx] at h
        have vj : vp_in (nI j) 8 := vp_j (by omega) (by decide)
        have cj : (nI j).toNatClampNeg = j := nI_cl (by omega)
        have hcj := (hB j hj).1
        have M20 : c j = q → WW 20 [some (.ref 0), some (.int (nI q)), some (.int (nI j))] [] LM σ := by
          intro hcq
          rw [if_pos hcq] at h
          refine hw 60 _ _ _ _ _ ?_
          conv => whnf
          refine ⟨cn, st, mn, m, c, e, k, R, rn, F, q, rfl, rfl, hD, hokD, hF, hokF, hq, fun hn σ1 hf1 h5 => ?_, fun K hK hK5 σ1 hf1 h5 h31 => ?_⟩
          · rw [hn] at h
            have h := h σ1 (RM_junk hm (fm_tr (fm_rf _ _ _) hf1 (by decide) (by decide)) h5 hR)
            conv => whnf
            refine ⟨fun _ => h, fun c => absurd (by decide : (-1 : Int32) < 0) c⟩
          · rw [hK] at h
            have h := h σ1 (RM_junk hm (fm_tr (fm_rf _ _ _) hf1 (by decide) (by decide)) h5 hR)
            conv => whnf
            refine ⟨fun c => absurd c (nI_pos (by omega)), fun _ => ?_⟩
            conv => whnf
            refine ⟨fun _ => ?_, fun c => absurd c (nI_nm1 (by omega))⟩
            conv => whnf
            rw [h31]
            refine ⟨K % 1679616, j, rfl, Nat.mod_lt _ (by decide), by omega, ?_⟩
            conv => whnf
            exact h
        refine hw 60 _ _ _ _ _ ?_
        conv => whnf
        refine ⟨cn, nI q, rfl, rfl, by omega, hL.2.1, ?_⟩
        rw [hx]
        conv => whnf
        refine ⟨fun c => absurd c sw_t0, fun _ => ?_⟩
        conv => whnf
        refine ⟨fun c => absurd c hy, fun _ => ?_⟩
        conv => whnf
        refine ⟨m, nI j, rfl, rfl, by omega, hL.1, ?_⟩
        rw [hyx]
        conv => whnf
        refine ⟨fun c => absurd c sw_t0, fun _ => ?_⟩
        repeat ((conv => whnf); refine And.intro ?_ ?_; first | with_reducible assumption | decide)
        conv => whnf
        rw [cj, hL.2.2.1 j hj, nI_eq' (by omega) (by omega)]
        refine ⟨fun cc => ?_, fun cc => ?_⟩
        · conv => whnf
          exact M20 cc
        · rw [if_neg cc] at h
          exact h σ hR
