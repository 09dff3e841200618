/-! THE CLASS: mud tried -/
theorem md_yr_ok {D : sw_D} {F : sw_F} {q : Nat} {v : Nat → Nat} (hD : okD D) (hF : okF D.2.2.2.1 D.2.2.2.2.2.1 F) : match D with
    | (cn, _, _, m, c, e, k, R, rn) => ∀ b, b < m → (sw_yr m cn c e k (rn (F.2.2.2.2.2 % R)) (sw_far F (md_far c q v F.2.2.1))).1 b ≤ 40 := by
  obtain ⟨cn, st, mn, m, c, e, k, R, rn⟩ := D
  obtain ⟨hcn, hm, -, -, -, -, hB, hR0, hR8, hrn⟩ := hD
  have he : ∀ b, b < m → e b ≤ 40 := fun b hb => (hB b hb).2.1
  intro b hb
  have := sw_yr_ok (cn := cn) (c := c) (k := k) (F := sw_far F (md_far c q v F.2.2.1)) (hrn _ (Nat.mod_lt F.2.2.2.2.2 hR0)) he (fun b hb => ⟨(hF.1 b hb).1, (hF.1 b hb).2.1, by
    have := (hF.1 b hb).2.2
    show md_far c q v F.2.2.1 b ≤ 9
    unfold md_far; split <;> omega⟩) b hb
  have := he b hb
  omega
theorem md_S_le {D : sw_D} {F : sw_F} {q : Nat} {v : Nat → Nat} (hD : okD D) (hF : okF D.2.2.2.1 D.2.2.2.2.2.1 F) : md_S D F q v ≤ 320 := by
  have h1 := md_yr_ok (q := q) (v := v) hD hF
  obtain ⟨cn, st, mn, m, c, e, k, R, rn⟩ := D
  have hm : m ≤ 8 := hD.2.1
  show sw_cs (sw_yr m cn c e k (rn (F.2.2.2.2.2 % R)) (sw_far F (md_far c q v F.2.2.1))).1 c q m / st ≤ 320
  have h2 := sw_cs_le (c := c) (q := q) m h1
  have h3 := Nat.div_le_self (sw_cs (sw_yr m cn c e k (rn (F.2.2.2.2.2 % R)) (sw_far F (md_far c q v F.2.2.1))).1 c q m) st
  omega
def tr_seatsMud : am_T := fun as L σ post => ∃ (cn st mn m : Nat) (c e k : Nat → Nat) (R : Nat) (rn : Nat → Nat) (F : sw_F) (q : Nat) (v : Nat → Nat), as = [.ref 0, .int (nI q)] ∧ L = LC ∧ rcD (cn, st, mn, m, c, e, k, R, rn) σ ∧ okD (cn, st, mn, m, c, e, k, R, rn) ∧ sw_FC σ 17 18 19 20 m F ∧ okF m e F ∧ q < cn ∧ (∀ j, j < 8 → σ 42 j = nI (v j)) ∧ (∀ j, j < 8 → v j ≤ 5) ∧ ∀ σ', am_fr [22, 23, 24, 25, 26] σ σ' → post (some (.int (nI (md_S (cn, st, mn, m, c, e, k, R, rn) F q v)))) L σ'
set_option maxHeartbeats 1000000 in
theorem ct_seatsMud (l : Launch) : am_Ct l 3 yX6_seatsWithMud cX6_seatsWithMud 3 (some .int) tr_seatsMud := by
  refine am_ct tbX6_seatsWithMud (am_G [tr_copyFrom, tr_bringNearer, tr_passTrial, tr_trialSeats]) (by decide +kernel) (by simp) rfl dtX6_seatsWithMud rfl ckX6_seatsWithMud lkX6_seatsWithMud (am_cokF [(8, some (.invokevirtual 204), 0, 2, 1, 0), (48, some (.invokevirtual 190), 1, 3, 1, 0), (58, some (.invokevirtual 207), 2, 1, 6, 0), (63, some (.invokevirtual 281), 3, 2, 6, 0)] rfl (List.forall_mem_cons.mpr ⟨⟨0, _, _, _, _, by decide, (ct_copyFrom l), lnX6_204⟩, List.forall_mem_cons.mpr ⟨⟨0, _, _, _, _, by decide, (ct_bringNearer l), lnX6_190⟩, List.forall_mem_cons.mpr ⟨⟨2, _, _, _, _, by decide, (ct_passTrial l), lnX6_207⟩, List.forall_mem_cons.mpr ⟨⟨2, _, _, _, _, by decide, (ct_trialSeats l), lnX6_281⟩, fun _ h => absurd h List.not_mem_nil⟩⟩⟩⟩)) ?_
  intro as L σ post h
  obtain ⟨cn, st, mn, m, c, e, k, R, rn, F, q, v, rfl, rfl, hD, hokD, hF, hokF, hq, h42, hv5, h⟩ := h
  refine ⟨by simp [am_lv0], fun WW hw => ?_⟩
  obtain ⟨hL, d6, d7, d8⟩ := id hD
  obtain ⟨hcn, hm, -, hpos, hst, hmn, hB, hR0, hR8, hrn⟩ := id hokD
  obtain ⟨hFk, hy⟩ := id hokF
  have he : ∀ b, b < m → e b ≤ 40 := fun b hb => (hB b hb).2.1
  have hcc : ∀ b, b < m → σ 4 b = nI (c b) ∧ c b < 1000 := fun b hb => ⟨hL.2.2.1 b hb, by have := (hB b hb).1; omega⟩
  have hp0 := hpos (by omega)
  have hyr := md_yr_ok (q := q) (v := v) hokD hokF
  have loop : ∀ (kk i : Nat) (z : Int32) (σ1 : am_M), i + kk = m → z = nI i → am_fr [22, 23, 24, 25] σ σ1 → sw_FC σ1 22 23 24 25 m (sw_far F (fun b => if b < i then md_far c q v F.2.2.1 b else F.2.2.1 b)) → WW 8 [some (.ref 0), some (.int (nI q)), some (.int z)] [] LC σ1 := by
    intro kk
    induction kk with
    | zero =>
      intro i z σ1 hi hz hf hF1
      have ei : i = m := by omega
      subst ei; subst hz
      have hF1' : sw_FC σ1 22 23 24 25 i (sw_far F (md_far c q v F.2.2.1)) := sw_FC_congr hF1 (fun _ _ => rfl) (fun _ _ => rfl) (fun j hj => if_pos hj) rfl
      refine hw 60 _ _ _ _ _ ?_
      conv => whnf
      rw [am_frd hf 3 rfl, hL.1]
      refine ⟨fun _ => ?_, fun c => absurd (Int32.le_refl _) c⟩
      conv => whnf
      refine ⟨i, cn, c, e, k, R, rn, sw_far F (md_far c q v F.2.2.1), rfl, rfl, ?_, ⟨hm, hcn, hB⟩, ?_, hR0, hR8, hrn, hF1', ?_, ?_, fun σ2 hf2 hF2 => ?_⟩
      · unfold sw_LC at hL ⊢; rw [am_frd hf 3 rfl, am_frd hf 4 rfl, am_frd hf 5 rfl, am_frd hf 8 rfl]; exact hL
      · unfold rcR at d8 ⊢; rw [am_frd hf 3 rfl, am_frd hf 9 rfl]; exact d8
      · intro b hb
        have h1 := hFk b hb
        have h2 := he b hb
        exact ⟨h1.1, by show F.2.1 b ≤ 40; omega, by show md_far c q v F.2.2.1 b < 100; unfold md_far; split <;> omega⟩
      · show F.2.2.2.2.2 < 100000; omega
      · have hfa : am_fr [22, 23, 24, 25, 26] σ σ2 := am_fr_tr (am_fr_tr (am_fr_rf _ _) hf (by decide)) hf2 (by decide)
        have hF2' : sw_FC σ2 22 23 24 25 i (sw_yr i cn c e k (rn (F.2.2.2.2.2 % R)) (sw_far F (md_far c q v F.2.2.1))) := hF2
        conv => whnf
        refine ⟨q, i, st, c, _, rfl, rfl, by omega, hm, hp0.1, by omega, by rw [am_frd hfa 3 rfl]; exact hL.1, by rw [am_frd hfa 3 rfl]; exact d6, by rw [am_frd hfa 4 rfl]; exact hcc, fun b hb => ⟨hF2'.1 b hb, hyr b hb⟩, ?_⟩
        conv => whnf
        exact h σ2 hfa
    | succ kk ih =>
      intro i z σ1 hi hz hf hF1
      subst hz
      have him : i < m := by omega
      have hin : vp_in (nI i) 8 := vp_j (by omega) (by decide)
      have hcl : (nI i).toNatClampNeg = i := nI_cl (by omega)
      obtain ⟨e3, e4⟩ := hcc i him
      have hv := hv5 i (by omega)
      have hfi := (hFk i him).2.2
      have ih' := fun σ2 => ih (i + 1) (nI i + 1) σ2 (by omega) (nI_1 i)
      have k42 : σ1 42 i = nI (v i) := by rw [am_frd hf 42 rfl]; exact h42 i (by omega)
      refine hw 60 _ _ _ _ _ ?_
      conv => whnf
      rw [am_frd hf 3 rfl, hL.1]
      refine ⟨fun c => absurd c (nI_ge him (by omega)), fun _ => ?_⟩
      repeat ((conv => whnf); refine And.intro ?_ ?_; first | with_reducible assumption | decide)
      conv => whnf
      rw [hcl, am_frd hf 4 rfl, e3, nI_eq' (by omega) (by omega)]
      refine ⟨fun cc => ?_, fun cc => ?_⟩
      · conv => whnf
        refine ih' σ1 hf (sw_FC_congr hF1 (fun _ _ => rfl) (fun _ _ => rfl) (fun j hj => ?_) rfl)
        show (if j < i then md_far c q v F.2.2.1 j else F.2.2.1 j) = if j < i + 1 then md_far c q v F.2.2.1 j else F.2.2.1 j
        by_cases ej : j = i
        · subst ej; rw [if_neg (by omega), if_pos (by omega)]; exact (if_neg cc).symm
        · by_cases hlt : j < i
          · rw [if_pos hlt, if_pos (by omega)]
          · rw [if_neg hlt, if_neg (by omega)]
      · repeat ((conv => whnf); refine And.intro ?_ ?_; first | with_reducible assumption | decide)
        conv => whnf
        rw [hcl, k42]
        refine ⟨22, 23, 24, 25, 26, m, _, i, v i, rfl, rfl, Or.inr ⟨rfl, rfl, rfl, rfl, rfl⟩, hm, him, by omega, hF1, ?_, fun σ2 hf2 hF2 => ?_⟩
        · show (if i < i then _ else _) < 1000
          rw [if_neg (by omega)]; omega
        · conv => whnf
          refine ih' σ2 (am_fr_tr hf hf2 (by decide)) (sw_FC_congr hF2 (fun _ _ => rfl) (fun _ _ => rfl) (fun j hj => ?_) rfl)
          show va_up (fun b => if b < i then md_far c q v F.2.2.1 b else F.2.2.1 b) i ((if i < i then _ else F.2.2.1 i) - v i) j = if j < i + 1 then md_far c q v F.2.2.1 j else F.2.2.1 j
          by_cases ej : j = i
          · subst ej
            rw [up_vs, if_neg (by omega), if_pos (by omega)]; exact (if_pos cc).symm
          · rw [up_vn _ _ _ _ ej]
            by_cases hlt : j < i
            · rw [if_pos hlt, if_pos (by omega)]
            · rw [if_neg hlt, if_neg (by omega)]
  refine hw 60 _ _ _ _ _ ?_
  conv => whnf
  refine ⟨m, F, rfl, rfl, hm, hF, fun σ1 hf1 hF1 => ?_⟩
  conv => whnf
  exact loop m 0 0 σ1 (Nat.zero_add _) rfl hf1 (sw_FC_congr hF1 (fun _ _ => rfl) (fun _ _ => rfl) (fun j hj => rfl) rfl)
def tr_usefulMud : am_T := fun as L σ post => ∃ (cn st mn m : Nat) (c e k : Nat → Nat) (R : Nat) (rn : Nat → Nat) (F : sw_F) (q b : Nat), as = [.ref 0, .int (nI q), .int (nI b)] ∧ L = LC ∧ rcD (cn, st, mn, m, c, e, k, R, rn) σ ∧ okD (cn, st, mn, m, c, e, k, R, rn) ∧ sw_FC σ 17 18 19 20 m F ∧ q < cn ∧ b < m ∧ post (some (.int (nI (md_us (cn, st, mn, m, c, e, k, R, rn) F q b)))) L σ
theorem ct_usefulMud (l : Launch) : am_Ct l 1 yX6_usefulMud cX6_usefulMud 4 (some .int) tr_usefulMud := by
  refine am_ct tbX6_usefulMud (am_G [tr_isShut]) (by decide +kernel) (by simp) rfl dtX6_usefulMud rfl ckX6_usefulMud lkX6_usefulMud (am_cokF [(5, some (.invokevirtual 167), 0, 2, 1, 0)] rfl (List.forall_mem_cons.mpr ⟨⟨0, _, _, _, _, by decide, (ct_isShut l), lnX6_167⟩, fun _ h => absurd h List.not_mem_nil⟩)) ?_
  intro as L σ post h
  obtain ⟨cn, st, mn, m, c, e, k, R, rn, F, q, b, rfl, rfl, hD, hokD, hF, hq, hb, h⟩ := h
  refine ⟨by simp [am_lv0], fun WW hw => ?_⟩
  obtain ⟨hcn, hm, -, -, -, -, hB, -⟩ := id hokD
  have hL := hD.1
  have hin : vp_in (nI b) 8 := vp_j (by omega) (by decide)
  have hcl : (nI b).toNatClampNeg = b := nI_cl (by omega)
  obtain ⟨b1, b2, b3⟩ := hB b hb
  have k2 : nI (k b) = 2 ↔ k b = 2 := nI_eq' (b := 2) (by omega) (by decide)
  have M : ∀ y : Bool, (y = true ↔ (sw_bit F.2.2.2.1 b = false ∧ ¬ k b = 2)) → WW 16 [some (.ref 0), some (.int (nI q)), some (.int (nI b))] [.int (sw_b2 y)] LC σ := by
    intro y hy
    refine hw 60 _ _ _ _ _ ?_
    repeat ((conv => whnf); refine And.intro ?_ ?_; first | with_reducible assumption | decide)
    conv => whnf
    rw [hcl, hL.2.2.1 b hb, nI_eq' (by omega) (by omega)]
    refine ⟨fun cc => ?_, fun cc => ?_⟩
    · rw [show md_us (cn, st, mn, m, c, e, k, R, rn) F q b = 0 from if_neg (fun hh => cc hh.1)] at h
      exact h
    · cases y with
      | false =>
        rw [show md_us (cn, st, mn, m, c, e, k, R, rn) F q b = 0 from if_neg (fun hh => by have := hy.2 hh.2; cases this)] at h
        conv => whnf
        refine ⟨fun _ => h, fun c => absurd rfl c⟩
      | true =>
        rw [show md_us (cn, st, mn, m, c, e, k, R, rn) F q b = F.2.2.1 b from if_pos ⟨cc, hy.1 rfl⟩] at h
        conv => whnf
        refine ⟨fun c => absurd c (by decide), fun _ => ?_⟩
        repeat ((conv => whnf); refine And.intro ?_ ?_; first | with_reducible assumption | decide)
        conv => whnf
        rw [hcl, hF.2.2.1 b hb]
        exact h
  refine hw 60 _ _ _ _ _ ?_
  conv => whnf
  refine ⟨17, b, rfl, rfl, Or.inl rfl, ?_⟩
  rw [hF.2.2.2.1]
  cases hbit : sw_bit F.2.2.2.1 b with
  | true =>
    conv => whnf
    refine ⟨fun _ => ?_, fun c => absurd c (by decide)⟩
    conv => whnf
    exact M false ⟨(fun hh => by cases hh), (fun hh => by rw [hbit] at hh; cases hh.1)⟩
  | false =>
    conv => whnf
    refine ⟨fun c => absurd rfl c, fun _ => ?_⟩
    repeat ((conv => whnf); refine And.intro ?_ ?_; first | with_reducible assumption | decide)
    conv => whnf
    rw [hcl, hL.2.2.2.2 b hb, k2]
    refine ⟨fun cc => ?_, fun cc => ?_⟩
    · conv => whnf
      exact M false ⟨(fun hh => by cases hh), (fun hh => absurd cc hh.2)⟩
    · conv => whnf
      exact M true ⟨fun _ => ⟨hbit, cc⟩, fun _ => rfl⟩
def md_T (D : sw_D) (F : sw_F) (q b left wanted : Nat) (v w : Nat → Nat) : Prop := (∀ j, j < b → w j = v j) ∧ (∀ j, b ≤ j → w j ≤ md_us D F q j ∧ (D.2.2.2.1 ≤ j → w j = 0)) ∧ sw_sum w 8 = sw_sum v 8 + left ∧ wanted ≤ md_S D F q w
def tr_shares (dep : Nat) : am_T := fun as L σ post => ∃ (cn st mn m : Nat) (c e k : Nat → Nat) (R : Nat) (rn : Nat → Nat) (F : sw_F) (q b left wanted : Nat) (v : Nat → Nat), as = [.ref 0, .int (nI q), .int (nI b), .int (nI left), .int (nI wanted)] ∧ L = LC ∧ rcD (cn, st, mn, m, c, e, k, R, rn) σ ∧ okD (cn, st, mn, m, c, e, k, R, rn) ∧ sw_FC σ 17 18 19 20 m F ∧ okF m e F ∧ q < cn ∧ b ≤ m ∧ m ≤ b + dep ∧ wanted < 1000 ∧ (∀ j, j < 8 → σ 42 j = nI (v j)) ∧ (∀ j, b ≤ j → v j = 0) ∧ sw_sum v 8 + left ≤ 5 ∧ (∀ w, md_T (cn, st, mn, m, c, e, k, R, rn) F q b left wanted v w → (∀ w', md_T (cn, st, mn, m, c, e, k, R, rn) F q b left wanted v w' → md_cd w 8 ≤ md_cd w' 8) → ∀ σ', am_fr [22, 23, 24, 25, 26, 42] σ σ' → (∀ j, j < 8 → σ' 42 j = nI (w j)) → post (some (.int 1)) L σ') ∧ ((∀ w, ¬ md_T (cn, st, mn, m, c, e, k, R, rn) F q b left wanted v w) → ∀ σ', am_fr [22, 23, 24, 25, 26, 42] σ σ' → (∀ j, j < 8 → σ' 42 j = nI (v j)) → post (some (.int 0)) L σ')
set_option maxHeartbeats 1000000 in
theorem ct_sharesG (l : Launch) (dp d dep : Nat) (trX : am_T) (hX : am_Ct l dp yX6_sharesServe cX6_sharesServe 7 (some .boolean) trX) (hd : dp < d) (h3d : 3 < d) (hrec : ∀ d0, dep = d0 + 1 → trX = tr_shares d0) : am_Ct l d yX6_sharesServe cX6_sharesServe 7 (some .boolean) (tr_shares dep) := by
  refine am_ct tbX6_sharesServe (am_G [tr_seatsMud, tr_hasBarn, tr_usefulMud, trX]) (by decide +kernel) (by simp) rfl dtX6_sharesServe rfl ckX6_sharesServe lkX6_sharesServe (am_cokF [(6, some (.invokevirtual 302), 0, 2, 6, 0), (25, some (.invokevirtual 151), 1, 2, 3, 0), (37, some (.invokevirtual 309), 2, 3, 6, 0), (74, some (.invokestatic 305), 3, 5, 0, 0)] rfl (List.forall_mem_cons.mpr ⟨⟨3, _, _, _, _, by omega, (ct_seatsMud l), lnX6_302⟩, List.forall_mem_cons.mpr ⟨⟨0, _, _, _, _, by omega, (ct_hasBarn l), lnX6_151⟩, List.forall_mem_cons.mpr ⟨⟨1, _, _, _, _, by omega, (ct_usefulMud l), lnX6_309⟩, List.forall_mem_cons.mpr ⟨Or.inr (Or.inr (Or.inr ⟨dp, _, _, _, _, by omega, hX, lnX6_305⟩)), fun _ h => absurd h List.not_mem_nil⟩⟩⟩⟩)) ?_
  intro as L σ post h
  obtain ⟨cn, st, mn, m, c, e, k, R, rn, F, q, b, left, wanted, v, rfl, rfl, hD, hokD, hF, hokF, hq, hbm, hdep, hwt, h42, hv0, hs5, hT, hN⟩ := h
  refine ⟨by simp [am_lv0], fun WW hw => ?_⟩
  obtain ⟨hL, -⟩ := id hD
  obtain ⟨hcn, hm, -, hpos, hst, hmn, hB, hR0, hR8, hrn⟩ := id hokD
  have hSb : ∀ w, md_S (cn, st, mn, m, c, e, k, R, rn) F q w ≤ 320 := fun w => md_S_le hokD hokF
  have hvle : ∀ j, j < 8 → v j ≤ 5 := md_bnd (by omega)
  have l0 : nI left = 0 ↔ left = 0 := nI_eq' (b := 0) (by omega) (by decide)
  -- a row of the kind is at least v
  have hge : ∀ w, md_T (cn, st, mn, m, c, e, k, R, rn) F q b left wanted v w → ∀ j, j < 8 → v j ≤ w j := by
    intro w hw2 j hj
    by_cases hjb : j < b
    · rw [hw2.1 j hjb]; exact Nat.le_refl _
    · rw [hv0 j (by omega)]; exact Nat.zero_le _
  by_cases hl : left = 0
  · subst hl
    have heq : ∀ w, md_T (cn, st, mn, m, c, e, k, R, rn) F q b 0 wanted v w → ∀ j, j < 8 → v j = w j := fun w hw2 => (sw_sum_le 8 (hge w hw2)).2 (by have := hw2.2.2.1; omega)
    refine hw 60 _ _ _ _ _ ?_
    conv => whnf
    refine ⟨fun c => absurd rfl c, fun _ => ?_⟩
    conv => whnf
    refine ⟨cn, st, mn, m, c, e, k, R, rn, F, q, v, rfl, rfl, hD, hokD, hF, hokF, hq, h42, hvle, fun σ1 hf1 => ?_⟩
    have hS := hSb v
    have hf1' : am_fr [22, 23, 24, 25, 26, 42] σ σ1 := am_fr_tr (am_fr_rf _ _) hf1 (by decide)
    have h421 : ∀ j, j < 8 → σ1 42 j = nI (v j) := fun j hj => by rw [am_frd hf1 42 rfl]; exact h42 j hj
    conv => whnf
    rw [nI_lt' (by omega) (by omega)]
    refine ⟨fun cc => ?_, fun cc => ?_⟩
    · conv => whnf
      refine ⟨Or.inl rfl, hN (fun w hw2 => ?_) σ1 hf1' h421⟩
      have h1 := hw2.2.2.2
      rw [md_S_congr (D := (cn, st, mn, m, c, e, k, R, rn)) (v := w) (w := v) (fun j hj => (heq w hw2 j (by have hj : j < m := hj; omega)).symm)] at h1
      omega
    · conv => whnf
      refine ⟨Or.inr rfl, hT v ⟨fun _ _ => rfl, fun j hj => ⟨by rw [hv0 j hj]; exact Nat.zero_le _, fun _ => hv0 j hj⟩, rfl, by omega⟩ (fun w' hw2 => ?_) σ1 hf1' h421⟩
      rw [md_cd_eq 8 (heq w' hw2)]; exact Nat.le_refl _
  · by_cases hbm2 : b = m
    · subst hbm2
      refine hw 60 _ _ _ _ _ ?_
      conv => whnf
      rw [l0]
      refine ⟨fun _ => ?_, fun c => absurd c hl⟩
      conv => whnf
      refine ⟨nI b, b, rfl, rfl, hm, hL.1, ?_⟩
      rw [show sw_ix (nI b) 0 b = none from if_neg (by rw [nI_toInt (by omega)]; omega)]
      conv => whnf
      refine ⟨fun c => absurd rfl c, fun _ => ?_⟩
      conv => whnf
      refine ⟨Or.inl rfl, hN (fun w hw2 => ?_) σ (am_fr_rf _ _) h42⟩
      have : ∀ j, j < 8 → w j ≤ v j := fun j hj => by
        by_cases hjb : j < b
        · rw [hw2.1 j hjb]; exact Nat.le_refl _
        · rw [(hw2.2.1 j (by omega)).2 (by show b ≤ j; omega)]; exact Nat.zero_le _
      have h1 := (sw_sum_le 8 this).1
      have h2 := hw2.2.2.1
      omega
    · have hblt : b < m := by omega
      have hus : md_us (cn, st, mn, m, c, e, k, R, rn) F q b ≤ 9 := by
        have h1 := (hokF.1 b hblt).2.2
        unfold md_us; split
        · exact h1
        · omega
      generalize hu : md_us (cn, st, mn, m, c, e, k, R, rn) F q b = us at hus
      have vb : vp_in (nI b) 8 := vp_j (by omega) (by decide)
      have cb : (nI b).toNatClampNeg = b := nI_cl (by omega)
      have hwb : ∀ w, md_T (cn, st, mn, m, c, e, k, R, rn) F q b left wanted v w → w b ≤ min left us := by
        intro w hw2
        have h1 := (hw2.2.1 b (Nat.le_refl b)).1
        rw [hu] at h1
        have h2 : sw_sum (va_up v b (w b)) 8 ≤ sw_sum w 8 := (sw_sum_le 8 (fun j hj => by
          by_cases ej : j = b
          · subst ej; rw [up_vs]; exact Nat.le_refl _
          · rw [up_vn _ _ _ _ ej]; exact hge w hw2 j hj)).1
        rw [sw_sum_up (hv0 b (Nat.le_refl b)) 8 (by omega), hw2.2.2.1] at h2
        omega
      have loop : ∀ (kk i : Nat) (z : Int32) (σ1 : am_M), i + kk = min left us + 1 → z = nI i → am_fr [22, 23, 24, 25, 26, 42] σ σ1 → (∀ j, j < 8 → ¬ j = b → σ1 42 j = nI (v j)) → (∀ w, md_T (cn, st, mn, m, c, e, k, R, rn) F q b left wanted v w → i ≤ w b) → WW 28 [some (.ref 0), some (.int (nI q)), some (.int (nI b)), some (.int (nI left)), some (.int (nI wanted)), some (.int (nI (min left us))), some (.int z)] [] LC σ1 := by
        intro kk
        induction kk with
        | zero =>
          intro i z σ1 hi hz hf hm42 hno
          have ei : i = min left us + 1 := by omega
          subst ei; subst hz
          refine hw 60 _ _ _ _ _ ?_
          conv => whnf
          refine ⟨fun _ => ?_, fun c => absurd (nI_lt (by omega) (by omega)) c⟩
          repeat ((conv => whnf); refine And.intro ?_ ?_; first | with_reducible assumption | decide)
          conv => whnf
          rw [cb]
          refine hN (fun w hw2 => by have := hno w hw2; have := hwb w hw2; omega) (am_w σ1 42 b 0) (aw_fr hf (by decide)) (fun j hj => ?_)
          by_cases ej : j = b
          · subst ej; rw [aw_s, hv0 j (Nat.le_refl j)]; rfl
          · rw [aw_k _ _ _ _ _ ej]; exact hm42 j hj ej
        | succ kk ih =>
          intro i z σ1 hi hz hf hm42 hno
          subst hz
          have hile : i ≤ min left us := by omega
          obtain ⟨d0, hd0⟩ : ∃ d0, dep = d0 + 1 := ⟨dep - 1, by omega⟩
          have hsum : sw_sum (va_up v b i) 8 = sw_sum v 8 + i := sw_sum_up (hv0 b (Nat.le_refl b)) 8 (by omega)
          have down : ∀ w, md_T (cn, st, mn, m, c, e, k, R, rn) F q b left wanted v w → w b = i → md_T (cn, st, mn, m, c, e, k, R, rn) F q (b + 1) (left - i) wanted (va_up v b i) w := by
            intro w hw2 hwi
            refine ⟨fun j hj => ?_, fun j hj => hw2.2.1 j (by omega), by rw [hsum]; have := hw2.2.2.1; omega, hw2.2.2.2⟩
            by_cases ej : j = b
            · subst ej; rw [up_vs]; exact hwi
            · rw [up_vn _ _ _ _ ej]; exact hw2.1 j (by omega)
          have upw : ∀ w, md_T (cn, st, mn, m, c, e, k, R, rn) F q (b + 1) (left - i) wanted (va_up v b i) w → md_T (cn, st, mn, m, c, e, k, R, rn) F q b left wanted v w ∧ w b = i := by
            intro w hw2
            have hwi : w b = i := by rw [hw2.1 b (by omega), up_vs]
            refine ⟨⟨fun j hj => by rw [hw2.1 j (by omega), up_vn _ _ _ _ (by omega)], fun j hj => ?_, by have := hw2.2.2.1; rw [hsum] at this; omega, hw2.2.2.2⟩, hwi⟩
            by_cases ej : j = b
            · subst ej; exact ⟨by rw [hwi, hu]; omega, fun hh => by have hh : m ≤ j := hh; omega⟩
            · exact hw2.2.1 j (by omega)
          refine hw 60 _ _ _ _ _ ?_
          conv => whnf
          refine ⟨fun c => absurd c (nI_nlt (by omega) (by omega)), fun _ => ?_⟩
          repeat ((conv => whnf); refine And.intro ?_ ?_; first | with_reducible assumption | decide)
          conv => whnf
          rw [cb, nI_1, pk_sub (show i ≤ left by omega), hrec d0 hd0, cond_false]
          have hf2 : am_fr [42] σ1 (am_up σ1 42 (upd (σ1 42) b (nI i))) := am_fr_up _ (am_fr_rf _ _) (by decide)
          have hf2' : am_fr [22, 23, 24, 25, 26, 42] σ (am_up σ1 42 (upd (σ1 42) b (nI i))) := am_fr_tr hf hf2 (by decide)
          have h422 : ∀ j, j < 8 → am_up σ1 42 (upd (σ1 42) b (nI i)) 42 j = nI (va_up v b i j) := fun j hj => by
            rw [am_us]
            by_cases ej : j = b
            · subst ej; rw [up_s, up_vs]
            · rw [up_n _ _ _ _ ej, up_vn _ _ _ _ ej]; exact hm42 j hj ej
          generalize am_up σ1 42 (upd (σ1 42) b (nI i)) = σ2 at hf2' h422 ⊢
          unfold tr_shares
          refine ⟨cn, st, mn, m, c, e, k, R, rn, F, q, b + 1, left - i, wanted, va_up v b i, rfl, rfl, rcD_fr (am_frd hf2' 3 rfl) (am_frd hf2' 4 rfl) (am_frd hf2' 5 rfl) (am_frd hf2' 8 rfl) (am_frd hf2' 9 rfl) hD, hokD, sw_FC_fr (am_frd hf2' 17 rfl) (am_frd hf2' 18 rfl) (am_frd hf2' 19 rfl) (am_frd hf2' 20 rfl) hF, hokF, hq, by omega, by omega, hwt, h422, fun j hj => by rw [up_vn _ _ _ _ (by omega)]; exact hv0 j (by omega), by rw [hsum]; omega, fun w hw2 hmin σ3 hf3 h423 => ?_, fun hnone σ3 hf3 h423 => ?_⟩
          · conv => whnf
            refine ⟨fun c => absurd c (by decide), fun _ => ?_⟩
            conv => whnf
            obtain ⟨hwT, hwi⟩ := upw w hw2
            refine ⟨Or.inr rfl, hT w hwT (fun w' hw' => ?_) σ3 (am_fr_tr hf2' hf3 (by decide)) h423⟩
            have h1 := hno w' hw'
            by_cases hlt : i < w' b
            · have hwle : ∀ j, j < 8 → w j ≤ 5 := md_bnd (by rw [hwT.2.2.1]; omega)
              exact Nat.le_of_lt (md_lex8 (i := b) (by omega) (fun j hj => by rw [hwT.1 j hj, hw'.1 j hj]) (by omega) hwle)
            · exact hmin w' (down w' hw' (by omega))
          · conv => whnf
            refine ⟨fun _ => ?_, fun c => absurd rfl c⟩
            conv => whnf
            refine ih (i + 1) _ σ3 (by omega) (nI_1 i) (am_fr_tr hf2' hf3 (by decide)) (fun j hj ej => ?_) (fun w hw2 => ?_)
            · rw [h423 j hj, up_vn _ _ _ _ ej]
            · have h1 := hno w hw2
              by_cases hwi : w b = i
              · exact absurd (down w hw2 hwi) (hnone w)
              · omega
      refine hw 60 _ _ _ _ _ ?_
      conv => whnf
      rw [l0]
      refine ⟨fun _ => ?_, fun c => absurd c hl⟩
      conv => whnf
      refine ⟨nI b, m, rfl, rfl, hm, hL.1, ?_⟩
      rw [sw_ix_nI (Nat.zero_le b) hblt (by omega)]
      conv => whnf
      refine ⟨fun _ => ?_, fun c => absurd c sw_t0⟩
      conv => whnf
      refine ⟨cn, st, mn, m, c, e, k, R, rn, F, q, b, rfl, rfl, hD, hokD, hF, hq, hblt, ?_⟩
      rw [hu]
      conv => whnf
      rw [nI_min (a := left) (b := us) (by omega) (by omega)]
      exact loop (min left us + 1) 0 0 σ (by omega) rfl (am_fr_rf _ _) (fun j hj _ => h42 j hj) (fun w hw2 => Nat.zero_le _)
theorem ct_shares (l : Launch) : ∀ dep, am_Ct l (dep + 4) yX6_sharesServe cX6_sharesServe 7 (some .boolean) (tr_shares dep)
  | 0 => ct_sharesG l 0 4 0 (fun _ _ _ _ => False) (fun cI cZ D ad sz as L σ post h => h.elim) (by decide) (by decide) (fun d0 h => by omega)
  | dep + 1 => ct_sharesG l (dep + 4) (dep + 5) (dep + 1) (tr_shares dep) (ct_shares l dep) (by omega) (by omega) (fun d0 h => by rw [show dep = d0 by omega])
