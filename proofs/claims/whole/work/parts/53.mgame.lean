/-! THE REFERENCE: game -/
theorem sw_FM_congr {σ : am_M} {m : Nat} {F G : sw_F} (h : sw_FM σ m F) (h1 : ∀ j, j < m → F.1 j = G.1 j) (h2 : ∀ j, j < m → F.2.1 j = G.2.1 j) (h3 : ∀ j, j < m → F.2.2.1 j = G.2.2.1 j) (h4 : F.2.2.2 = G.2.2.2) : sw_FM σ m G := by
  obtain ⟨g1, g2, g3, g4, g5, g6⟩ := h
  exact ⟨fun j hj => by rw [← h1 j hj]; exact g1 j hj, fun j hj => by rw [← h2 j hj]; exact g2 j hj, fun j hj => by rw [← h3 j hj]; exact g3 j hj, by rw [← h4]; exact g4, by rw [← h4]; exact g5, by rw [← h4]; exact g6⟩
/-- one barn's way is new: the walk has come one further -/
theorem sw_FM_step {σ : am_M} {m i v : Nat} {F : sw_F} {g : Nat → Nat} (hm : m ≤ 8) (hi : i < m) (hv : v = g i) (H : sw_FM σ m (sw_far F (fun b => if b < i then g b else F.2.2.1 b))) : sw_FM (am_w σ 5 (16 + i) (nI v)) m (sw_far F (fun b => if b < i + 1 then g b else F.2.2.1 b)) := by
  refine sw_FM_congr (sw_FM_far (v := v) hm hi H) (fun _ _ => rfl) (fun _ _ => rfl) (fun j hj => ?_) rfl
  show va_up (fun b => if b < i then g b else F.2.2.1 b) i v j = if j < i + 1 then g j else F.2.2.1 j
  by_cases e : j = i
  · subst e; rw [up_vs, if_pos (by omega)]; exact hv
  · rw [up_vn _ _ _ _ e]
    by_cases hlt : j < i
    · rw [if_pos hlt, if_pos (by omega)]
    · rw [if_neg hlt, if_neg (by omega)]
theorem sw_FM_keep {σ : am_M} {m i : Nat} {F : sw_F} {g : Nat → Nat} (hv : F.2.2.1 i = g i) (H : sw_FM σ m (sw_far F (fun b => if b < i then g b else F.2.2.1 b))) : sw_FM σ m (sw_far F (fun b => if b < i + 1 then g b else F.2.2.1 b)) := by
  refine sw_FM_congr H (fun _ _ => rfl) (fun _ _ => rfl) (fun j hj => ?_) rfl
  show (if j < i then g j else F.2.2.1 j) = if j < i + 1 then g j else F.2.2.1 j
  by_cases e : j = i
  · subst e; rw [if_neg (by omega), if_pos (by omega)]; exact hv
  · by_cases hlt : j < i
    · rw [if_pos hlt, if_pos (by omega)]
    · rw [if_neg hlt, if_neg (by omega)]
def tr_mdigs : am_T := fun as L σ post => ∃ (q w m : Nat) (c : Nat → Nat) (F : sw_F), as = [.ref 0, .int (nI q), .int (nI w)] ∧ L = LM ∧ q < 1000 ∧ w < 1000 ∧ m ≤ 8 ∧ σ 0 3 = nI m ∧ (∀ b, b < m → σ 1 b = nI (c b) ∧ c b < 1000) ∧ sw_FM σ m F ∧ (∀ b, b < m → F.2.2.1 b < 1000) ∧ ∀ σ', am_fr [5] σ σ' → sw_FM σ' m (sw_far F (sw_dg c q w F.2.2.1)) → post none L σ'
theorem ct_mdigs (l : Launch) : am_Ct l 0 yX7_digs cX7_digs 4 none tr_mdigs := by
  refine am_ct tbX7_digs (am_G []) (by decide +kernel) (by simp) rfl dtX7_digs rfl ckX7_digs lkX7_digs (am_nocalls rfl) ?_
  intro as L σ post h
  obtain ⟨q, w, m, c, F, rfl, rfl, hq, hw1, hm, e1, e2, hF, hb, h⟩ := h
  refine ⟨by simp [am_lv0], fun WW hw => ?_⟩
  have loop : ∀ (kk i : Nat) (z : Int32) (σ1 : am_M), i + kk = m → z = nI i → am_fr [5] σ σ1 → sw_FM σ1 m (sw_far F (fun b => if b < i then sw_dg c q w F.2.2.1 b else F.2.2.1 b)) → WW 3 [some (.ref 0), some (.int (nI q)), some (.int (nI w)), some (.int z)] [] LM σ1 := by
    intro kk
    induction kk with
    | zero =>
      intro i z σ1 hi hz hf hF1
      have ei : i = m := by omega
      subst ei; subst hz
      refine hw 60 _ _ _ _ _ ?_
      conv => whnf
      rw [am_frd hf 0 rfl, e1]
      exact ⟨fun _ => h σ1 hf (sw_FM_congr hF1 (fun _ _ => rfl) (fun _ _ => rfl) (fun j hj => if_pos hj) rfl), fun c => absurd (Int32.le_refl _) c⟩
    | succ kk ih =>
      intro i z σ1 hi hz hf hF1
      subst hz
      have him : i < m := by omega
      have hin : vp_in (nI i) 8 := vp_j (by omega) (by decide)
      have hcl : (nI i).toNatClampNeg = i := nI_cl (by omega)
      have v16 : vp_in (16 + nI i) 27 := by rw [nI_16]; exact vp_j (by omega) (by decide)
      have c16 : (16 + nI i).toNatClampNeg = 16 + i := by rw [nI_16]; exact nI_cl (by omega)
      obtain ⟨e3, e4⟩ := e2 i him
      have hbi := hb i him
      have ih' := fun σ2 => ih (i + 1) (nI i + 1) σ2 (by omega) (nI_1 i)
      have keep : ¬ (w = 2 ∧ c i = q) → WW 3 [some (.ref 0), some (.int (nI q)), some (.int (nI w)), some (.int (nI i + 1))] [] LM σ1 := fun hc => ih' σ1 hf (sw_FM_keep (if_neg hc).symm hF1)
      have M : ∀ v : Int32, v = nI (F.2.2.1 i - 2) → (w = 2 ∧ c i = q) → WW 40 [some (.ref 0), some (.int (nI q)), some (.int (nI w)), some (.int (nI i))] [.int v, .int (16 + nI i), .ref 5] LM σ1 := by
        intro v hv hc
        subst hv
        refine hw 60 _ _ _ _ _ ?_
        repeat ((conv => whnf); refine And.intro ?_ ?_; first | with_reducible assumption | decide)
        conv => whnf
        rw [c16]
        exact ih' (am_w σ1 5 (16 + i) (nI (F.2.2.1 i - 2))) (aw_fr hf (by decide)) (sw_FM_step hm him (if_pos hc).symm hF1)
      have g3i : σ1 5 (16 + i) = nI (F.2.2.1 i) := by rw [hF1.2.2.1 i him]; exact congrArg nI (if_neg (by omega))
      have w2 : nI w = 2 ↔ w = 2 := nI_eq' (b := 2) (by omega) (by decide)
      have f2 : nI (F.2.2.1 i) ≤ 2 ↔ F.2.2.1 i ≤ 2 := nI_le' (b := 2) (by omega) (by decide)
      refine hw 60 _ _ _ _ _ ?_
      conv => whnf
      rw [am_frd hf 0 rfl, e1]
      refine ⟨fun c => absurd c (nI_ge him (by omega)), fun _ => ?_⟩
      conv => whnf
      rw [w2]
      refine ⟨fun cw => keep (fun hh => cw hh.1), fun cw => ?_⟩
      repeat ((conv => whnf); refine And.intro ?_ ?_; first | with_reducible assumption | decide)
      conv => whnf
      rw [hcl, am_frd hf 1 rfl, e3, nI_eq' (by omega) (by omega)]
      refine ⟨fun cc => keep (fun hh => cc hh.2), fun cc => ?_⟩
      repeat ((conv => whnf); refine And.intro ?_ ?_; first | with_reducible assumption | decide)
      conv => whnf
      rw [c16, g3i, f2]
      refine ⟨fun c3 => ?_, fun c3 => ?_⟩
      · conv => whnf
        exact M _ (by rw [show F.2.2.1 i - 2 = 0 by omega]; rfl) ⟨cw, cc⟩
      · repeat ((conv => whnf); refine And.intro ?_ ?_; first | with_reducible assumption | decide)
        conv => whnf
        exact M _ (by rw [c16, g3i]; exact pk_sub (b := 2) (by omega)) ⟨cw, cc⟩
  refine hw 60 _ _ _ _ _ ?_
  conv => whnf
  exact loop m 0 0 σ (Nat.zero_add _) rfl (am_fr_rf _ _) (sw_FM_congr hF (fun _ _ => rfl) (fun _ _ => rfl) (fun j hj => rfl) rfl)
def tr_msmoke : am_T := fun as L σ post => ∃ (q m : Nat) (c : Nat → Nat) (F : sw_F), as = [.ref 0, .int (nI q)] ∧ L = LM ∧ q < 1000 ∧ m ≤ 8 ∧ σ 0 3 = nI m ∧ (∀ b, b < m → σ 1 b = nI (c b) ∧ c b < 1000) ∧ sw_FM σ m F ∧ ∀ σ', am_fr [5] σ σ' → sw_FM σ' m (sw_far F (sw_sk c q 1 F.2.2.1)) → post none L σ'
theorem ct_msmoke (l : Launch) : am_Ct l 0 yX7_smoke cX7_smoke 3 none tr_msmoke := by
  refine am_ct tbX7_smoke (am_G []) (by decide +kernel) (by simp) rfl dtX7_smoke rfl ckX7_smoke lkX7_smoke (am_nocalls rfl) ?_
  intro as L σ post h
  obtain ⟨q, m, c, F, rfl, rfl, hq, hm, e1, e2, hF, h⟩ := h
  refine ⟨by simp [am_lv0], fun WW hw => ?_⟩
  have loop : ∀ (kk i : Nat) (z : Int32) (σ1 : am_M), i + kk = m → z = nI i → am_fr [5] σ σ1 → sw_FM σ1 m (sw_far F (fun b => if b < i then sw_sk c q 1 F.2.2.1 b else F.2.2.1 b)) → WW 3 [some (.ref 0), some (.int (nI q)), some (.int z)] [] LM σ1 := by
    intro kk
    induction kk with
    | zero =>
      intro i z σ1 hi hz hf hF1
      have ei : i = m := by omega
      subst ei; subst hz
      refine hw 60 _ _ _ _ _ ?_
      conv => whnf
      rw [am_frd hf 0 rfl, e1]
      exact ⟨fun _ => h σ1 hf (sw_FM_congr hF1 (fun _ _ => rfl) (fun _ _ => rfl) (fun j hj => if_pos hj) rfl), fun c => absurd (Int32.le_refl _) c⟩
    | succ kk ih =>
      intro i z σ1 hi hz hf hF1
      subst hz
      have him : i < m := by omega
      have hin : vp_in (nI i) 8 := vp_j (by omega) (by decide)
      have hcl : (nI i).toNatClampNeg = i := nI_cl (by omega)
      have v16 : vp_in (16 + nI i) 27 := by rw [nI_16]; exact vp_j (by omega) (by decide)
      have c16 : (16 + nI i).toNatClampNeg = 16 + i := by rw [nI_16]; exact nI_cl (by omega)
      obtain ⟨e3, e4⟩ := e2 i him
      have ih' := fun σ2 => ih (i + 1) (nI i + 1) σ2 (by omega) (nI_1 i)
      have g3i : σ1 5 (16 + i) = nI (F.2.2.1 i) := by rw [hF1.2.2.1 i him]; exact congrArg nI (if_neg (by omega))
      have M : ∀ v, v = sw_sk c q 1 F.2.2.1 i → WW 3 [some (.ref 0), some (.int (nI q)), some (.int (nI i + 1))] [] LM (am_w σ1 5 (16 + i) (nI v)) := fun v hv => ih' _ (aw_fr hf (by decide)) (sw_FM_step hm him hv hF1)
      refine hw 60 _ _ _ _ _ ?_
      conv => whnf
      rw [am_frd hf 0 rfl, e1]
      refine ⟨fun c => absurd c (nI_ge him (by omega)), fun _ => ?_⟩
      repeat ((conv => whnf); refine And.intro ?_ ?_; first | with_reducible assumption | decide)
      conv => whnf
      rw [hcl, am_frd hf 1 rfl, e3, nI_eq' (by omega) (by omega)]
      refine ⟨fun cc => ?_, fun cc => ?_⟩
      · repeat ((conv => whnf); refine And.intro ?_ ?_; first | with_reducible assumption | decide)
        conv => whnf
        rw [c16, g3i, show nI (F.2.2.1 i) + 0 = nI (F.2.2.1 i + 0) from nI_add _ 0]
        exact M _ (if_neg (fun hh => cc hh.2)).symm
      · repeat ((conv => whnf); refine And.intro ?_ ?_; first | with_reducible assumption | decide)
        conv => whnf
        rw [c16, g3i, show nI (F.2.2.1 i) + 2 = nI (F.2.2.1 i + 2) from nI_add _ 2]
        exact M _ (if_pos ⟨rfl, cc⟩).symm
  refine hw 60 _ _ _ _ _ ?_
  conv => whnf
  exact loop m 0 0 σ (Nat.zero_add _) rfl (am_fr_rf _ _) (sw_FM_congr hF (fun _ _ => rfl) (fun _ _ => rfl) (fun j hj => rfl) rfl)
theorem sw_sk_no {c : Nat → Nat} {q w : Nat} {f : Nat → Nat} (h : ¬ w = 1) : sw_sk c q w f = f := by funext b; exact if_neg (fun hh => h hh.1)
theorem sw_gs_yr {D : sw_D} {F : sw_F} {p q i j b : Nat} (hD : okD D) (hF : okF D.2.2.2.1 D.2.2.2.2.2.1 F) (hb : b < D.2.2.2.1) : (match D with
    | (cn, _, _, m, c, e, k, R, rn) => (sw_yr m cn c e k (rn (F.2.2.2.2.2 % R)) (sw_gF c p q i j F)).1 b) ≤ 40 := by
  obtain ⟨cn, st, mn, m, c, e, k, R, rn⟩ := D
  obtain ⟨hcn, hm, -, -, -, -, hB, hR0, hR8, hrn⟩ := hD
  have he : ∀ b, b < m → e b ≤ 40 := fun b hb => (hB b hb).2.1
  obtain ⟨n0, g0, f0, s0, lo0, y0⟩ := F
  obtain ⟨a1, a2, a3⟩ := sw_y1_facts (c := c) (e := e) (k := k) (f := (sw_gF c p q i j (n0, g0, f0, s0, lo0, y0)).2.2.1) (s := s0) (n := n0) (lo := lo0) (r := rn (y0 % R)) (hrn _ (Nat.mod_lt _ hR0)) he (fun b hb => Nat.le_trans (hF.1 b hb).1 (he b hb)) m (Nat.le_refl m)
  obtain ⟨b1, b2⟩ := sw_y2_facts (c := c) (e := e) (s := s0) a2 a3 m (Nat.le_refl m)
  obtain ⟨c1, c2⟩ := sw_y4_facts (s := s0) (r := rn (y0 % R)) (g := g0) b1 m (Nat.le_refl m)
  have h1 : (sw_yr m cn c e k (rn (y0 % R)) (sw_gF c p q i j (n0, g0, f0, s0, lo0, y0))).1 b = _ := (c2 b hb).1
  show (sw_yr m cn c e k (rn (y0 % R)) (sw_gF c p q i j (n0, g0, f0, s0, lo0, y0))).1 b ≤ 40
  rw [h1]
  have := sw_one_le (s := s0) (r := rn (y0 % R)) (b1 b hb)
  have := he b hb
  omega
def tr_mfindGains : am_T := fun as L σ post => ∃ (cn st mn m : Nat) (c e k : Nat → Nat) (R : Nat) (rn : Nat → Nat) (F : sw_F) (p q : Nat), as = [.ref 0, .int (nI p), .int (nI q)] ∧ L = LM ∧ rmD (cn, st, mn, m, c, e, k, R, rn) σ ∧ okD (cn, st, mn, m, c, e, k, R, rn) ∧ sw_FM σ m F ∧ okF m e F ∧ p < cn ∧ q < cn ∧ ∀ σ', fm [5, 14, 16, 17] [] σ σ' → (∀ j, j < 27 → σ' 5 j = σ 5 j) → (∀ j, j < 9 → σ' 17 j = nI (sw_gs (cn, st, mn, m, c, e, k, R, rn) F p q p j) - nI (sw_gs (cn, st, mn, m, c, e, k, R, rn) F p q q j)) → post none L σ'
set_option maxHeartbeats 2000000 in
theorem ct_mfindGains (l : Launch) : am_Ct l 4 yX7_findGains cX7_findGains 4 none tr_mfindGains := by
  refine am_ct tbX7_findGains (am_G [tr_msave, tr_mdigs, tr_msmoke, tr_mpass, tr_msouls, tr_mputBack]) (by decide +kernel) (by simp) rfl dtX7_findGains rfl ckX7_findGains lkX7_findGains (am_cokF [(1, some (.invokevirtual 257), 0, 1, 7, 0), (17, some (.invokevirtual 272), 1, 3, 7, 0), (25, some (.invokevirtual 272), 1, 3, 7, 0), (37, some (.invokevirtual 275), 2, 2, 7, 0), (49, some (.invokevirtual 275), 2, 2, 7, 0), (53, some (.invokevirtual 222), 3, 1, 7, 0), (63, some (.invokevirtual 260), 4, 2, 7, 0), (73, some (.invokevirtual 260), 4, 2, 7, 0), (84, some (.invokevirtual 263), 5, 1, 7, 0)] rfl (List.forall_mem_cons.mpr ⟨⟨0, _, _, _, _, by decide, (ct_msave l), lnX7_257⟩, List.forall_mem_cons.mpr ⟨⟨0, _, _, _, _, by decide, (ct_mdigs l), lnX7_272⟩, List.forall_mem_cons.mpr ⟨⟨0, _, _, _, _, by decide, (ct_mdigs l), lnX7_272⟩, List.forall_mem_cons.mpr ⟨⟨0, _, _, _, _, by decide, (ct_msmoke l), lnX7_275⟩, List.forall_mem_cons.mpr ⟨⟨0, _, _, _, _, by decide, (ct_msmoke l), lnX7_275⟩, List.forall_mem_cons.mpr ⟨⟨3, _, _, _, _, by decide, (ct_mpass l), lnX7_222⟩, List.forall_mem_cons.mpr ⟨⟨0, _, _, _, _, by decide, (ct_msouls l), lnX7_260⟩, List.forall_mem_cons.mpr ⟨⟨0, _, _, _, _, by decide, (ct_msouls l), lnX7_260⟩, List.forall_mem_cons.mpr ⟨⟨0, _, _, _, _, by decide, (ct_mputBack l), lnX7_263⟩, fun _ h => absurd h List.not_mem_nil⟩⟩⟩⟩⟩⟩⟩⟩⟩)) ?_
  intro as L σ post h
  obtain ⟨cn, st, mn, m, c, e, k, R, rn, F, p, q, rfl, rfl, hD, hokD, hF, hokF, hp, hq, h⟩ := h
  refine ⟨by simp [am_lv0], fun WW hw => ?_⟩
  obtain ⟨hcn, hm, -, hpos, hst, hmn, hB, hR0, hR8, hrn⟩ := id hokD
  obtain ⟨hFk, hy⟩ := id hokF
  have he : ∀ b, b < m → e b ≤ 40 := fun b hb => (hB b hb).2.1
  have hcc : ∀ b, b < m → c b < 1000 := fun b hb => by have := (hB b hb).1; omega
  have hp0 := hpos (by omega)
  have loop : ∀ (kk i : Nat) (z : Int32) (σ1 : am_M), i + kk = 9 → z = nI i → fm [5, 14, 16, 17] [] σ σ1 → (∀ j, j < 27 → σ1 16 j = σ 5 j) → (∀ j, j < 27 → σ1 5 j = σ 5 j) → (∀ j, j < i → σ1 17 j = nI (sw_gs (cn, st, mn, m, c, e, k, R, rn) F p q p j) - nI (sw_gs (cn, st, mn, m, c, e, k, R, rn) F p q q j)) → WW 5 [some (.ref 0), some (.int (nI p)), some (.int (nI q)), some (.int z)] [] LM σ1 := by
    intro kk
    induction kk with
    | zero =>
      intro i z σ1 hi hz hf h16 h5 hl
      have ei : i = 9 := by omega
      subst ei; subst hz
      refine hw 60 _ _ _ _ _ ?_
      conv => whnf
      exact ⟨fun _ => h σ1 hf h5 hl, fun c => absurd (Int32.le_refl _) c⟩
    | succ kk ih =>
      intro i z σ1 hi hz hf h16 h5 hl
      subst hz
      have hD1 := rmD_junk (fm_tr (fm_rf _ _ _) hf (by decide) (by decide)) hD
      have hF1 := sw_FM_eq hm h5 hF
      have qd : nI i / 3 = nI (i / 3) := nI_d (d := 3) (by omega) (by decide) (by decide)
      have qr : nI i - nI i / 3 * 3 = nI (i % 3) := pk_rem (d := 3) (by omega) (by decide) (by decide)
      have d1 : nI (i / 3) = 1 ↔ i / 3 = 1 := nI_eq' (b := 1) (by omega) (by decide)
      have r1 : nI (i % 3) = 1 ↔ i % 3 = 1 := nI_eq' (b := 1) (by omega) (by decide)
      have n3 : ¬ (3 : Int32) = 0 := by decide
      have M38 : ∀ σ6, am_fr [5] σ1 σ6 → sw_FM σ6 m (sw_gF c p q (i / 3) (i % 3) F) → WW 38 [some (.ref 0), some (.int (nI p)), some (.int (nI q)), some (.int (nI i))] [] LM σ6 := by
        intro σ6 hf6 hF6
        have hf6' := fm_fr hf hf6 (by decide) rfl
        have hD6 := rmD_junk (fm_tr (fm_rf _ _ _) hf6' (by decide) (by decide)) hD
        have hnb : ∀ b, b < m → (sw_yr m cn c e k (rn (F.2.2.2.2.2 % R)) (sw_gF c p q (i / 3) (i % 3) F)).1 b ≤ 40 := fun b hb => sw_gs_yr (D := (cn, st, mn, m, c, e, k, R, rn)) hokD hokF hb
        refine hw 60 _ _ _ _ _ ?_
        conv => whnf
        refine ⟨m, cn, c, e, k, sw_gF c p q (i / 3) (i % 3) F, R, rn, rfl, rfl, hD6.1, ⟨hm, hcn, hB⟩, hF6, ?_, hR0, hR8, hD6.2.2.2.1, fun t ht => ⟨hD6.2.2.2.2 t ht, hrn t ht⟩, by show F.2.2.2.2.2 < 100000; omega, fun σ7 hf7 hF7 => ?_⟩
        · intro b hb
          obtain ⟨w1, w2, w3⟩ := hFk b hb
          have := he b hb
          have := sw_sk_le (c := c) (q := p) (w := i % 3) (sw_sk_le (c := c) (q := q) (w := i / 3) (sw_dg_le (c := c) (q := q) (w := i % 3) (sw_dg_le (c := c) (q := p) (w := i / 3) w3)))
          exact ⟨w1, by show F.2.1 b ≤ 40; omega, by show sw_sk c p (i % 3) (sw_sk c q (i / 3) (sw_dg c q (i % 3) (sw_dg c p (i / 3) F.2.2.1))) b < 100; omega⟩
        · have hf7' := fm_fr hf6' hf7 (by decide) rfl
          have hD7 := rmD_junk (fm_tr (fm_rf _ _ _) hf7' (by decide) (by decide)) hD
          have gsp : ∀ x, sw_gs (cn, st, mn, m, c, e, k, R, rn) F p q x i = sw_cs (sw_yr m cn c e k (rn (F.2.2.2.2.2 % R)) (sw_gF c p q (i / 3) (i % 3) F)).1 c x m / st := fun x => rfl
          have hY : sw_FM σ7 m (sw_yr m cn c e k (rn (F.2.2.2.2.2 % R)) (sw_gF c p q (i / 3) (i % 3) F)) := hF7
          generalize sw_yr m cn c e k (rn (F.2.2.2.2.2 % R)) (sw_gF c p q (i / 3) (i % 3) F) = G at hY gsp hnb
          have hV : ∀ x, sw_cs G.1 c x m ≤ m * 40 := fun x => sw_cs_le m hnb
          have hVp := hV p
          have hVq := hV q
          have vi : vp_in (nI i) 9 := vp_j (by omega) (by decide)
          have ki : (nI i).toNatClampNeg = i := nI_cl (by omega)
          have n1 : ¬ nI st = 0 := nI_ne0 hp0.1 (by omega)
          have e1 : σ7 0 1 = nI st := hD7.2.1
          conv => whnf
          refine ⟨p, m, c, G.1, rfl, rfl, by omega, hm, hD7.1.1, fun b hb => ⟨hD7.1.2.2.1 b hb, hcc b hb⟩, hY.1, ?_⟩
          conv => whnf
          rw [e1]
          refine ⟨n1, ?_⟩
          conv => whnf
          refine ⟨q, m, c, G.1, rfl, rfl, by omega, hm, hD7.1.1, fun b hb => ⟨hD7.1.2.2.1 b hb, hcc b hb⟩, hY.1, ?_⟩
          conv => whnf
          rw [e1]
          refine ⟨n1, ?_⟩
          repeat ((conv => whnf); refine And.intro ?_ ?_; first | with_reducible assumption | decide)
          conv => whnf
          rw [ki, nI_d (by omega) hp0.1 (by omega), nI_d (by omega) hp0.1 (by omega), cond_false, ← gsp p, ← gsp q]
          intro σ8 hf8 h58
          have e16 : ∀ j, j < 27 → σ8 16 j = σ 5 j := fun j hj => by rw [am_frd hf8 16 rfl, am_un _ _ _ _ (by decide), am_frd hf7 16 rfl, am_frd hf6 16 rfl]; exact h16 j hj
          conv => whnf
          refine ih (i + 1) _ σ8 (by omega) (nI_1 i) (fm_fr (fm_up _ hf7' (by decide) (by decide)) hf8 (by decide) rfl) e16 (fun j hj => ?_) (fun j hj => ?_)
          · rw [h58 j hj, am_un _ _ _ _ (by decide), am_frd hf7 16 rfl, am_frd hf6 16 rfl]; exact h16 j hj
          · rw [am_frd hf8 17 rfl, am_us]
            by_cases ej : j = i
            · subst ej; rw [up_s]
            · rw [up_n _ _ _ _ ej, am_frd hf7 17 rfl, am_frd hf6 17 rfl]; exact hl j (by omega)
      have M29 : ∀ σ5, am_fr [5] σ1 σ5 → sw_FM σ5 m (sw_far F (sw_sk c q (i / 3) (sw_dg c q (i % 3) (sw_dg c p (i / 3) F.2.2.1)))) → WW 29 [some (.ref 0), some (.int (nI p)), some (.int (nI q)), some (.int (nI i))] [] LM σ5 := by
        intro σ5 hf5 hF5
        have hf5' := fm_fr hf hf5 (by decide) rfl
        have hD5 := rmD_junk (fm_tr (fm_rf _ _ _) hf5' (by decide) (by decide)) hD
        refine hw 60 _ _ _ _ _ ?_
        conv => whnf
        refine ⟨n3, ?_⟩
        conv => whnf
        rw [qr, r1]
        refine ⟨fun cc => ?_, fun cc => ?_⟩
        · conv => whnf
          refine M38 σ5 hf5 ?_
          show sw_FM σ5 m (sw_far F (sw_sk c p (i % 3) _))
          rw [sw_sk_no cc]; exact hF5
        · conv => whnf
          refine ⟨p, m, c, _, rfl, rfl, by omega, hm, hD5.1.1, fun b hb => ⟨hD5.1.2.2.1 b hb, hcc b hb⟩, hF5, fun σ6 hf6 hF6 => ?_⟩
          conv => whnf
          refine M38 σ6 (am_fr_tr hf5 hf6 (by decide)) ?_
          show sw_FM σ6 m (sw_far F (sw_sk c p (i % 3) _))
          rw [cc] at hF6 ⊢; exact hF6
      refine hw 60 _ _ _ _ _ ?_
      conv => whnf
      refine ⟨fun c => absurd c (nI_ge (b := 9) (by omega) (by omega)), fun _ => ?_⟩
      conv => whnf
      refine ⟨n3, ?_⟩
      conv => whnf
      rw [qd]
      refine ⟨p, i / 3, m, c, F, rfl, rfl, by omega, by omega, hm, hD1.1.1, fun b hb => ⟨hD1.1.2.2.1 b hb, hcc b hb⟩, hF1, fun b hb => by have := (hFk b hb).2.2; omega, fun σ3 hf3 hF3 => ?_⟩
      have hD3 := rmD_junk (fm_tr (fm_rf _ _ _) (fm_fr hf hf3 (by decide) rfl) (by decide) (by decide)) hD
      conv => whnf
      refine ⟨n3, ?_⟩
      conv => whnf
      rw [qr]
      refine ⟨q, i % 3, m, c, sw_far F (sw_dg c p (i / 3) F.2.2.1), rfl, rfl, by omega, by omega, hm, hD3.1.1, fun b hb => ⟨hD3.1.2.2.1 b hb, hcc b hb⟩, hF3, fun b hb => by have := sw_dg_le (c := c) (q := p) (w := i / 3) (hFk b hb).2.2; show sw_dg c p (i / 3) F.2.2.1 b < 1000; omega, fun σ4 hf4 hF4 => ?_⟩
      have hf4' := am_fr_tr hf3 hf4 (by decide)
      have hD4 := rmD_junk (fm_tr (fm_rf _ _ _) (fm_fr hf hf4' (by decide) rfl) (by decide) (by decide)) hD
      conv => whnf
      refine ⟨n3, ?_⟩
      conv => whnf
      rw [qd, d1]
      refine ⟨fun cc => ?_, fun cc => ?_⟩
      · conv => whnf
        refine M29 σ4 hf4' ?_
        rw [sw_sk_no cc]; exact hF4
      · conv => whnf
        refine ⟨q, m, c, _, rfl, rfl, by omega, hm, hD4.1.1, fun b hb => ⟨hD4.1.2.2.1 b hb, hcc b hb⟩, hF4, fun σ5 hf5 hF5 => ?_⟩
        conv => whnf
        refine M29 σ5 (am_fr_tr hf4' hf5 (by decide)) ?_
        rw [cc]; rw [cc] at hF5; exact hF5
  refine hw 60 _ _ _ _ _ ?_
  conv => whnf
  refine ⟨rfl, rfl, fun σ1 hf1 h16 => ?_⟩
  conv => whnf
  exact loop 9 0 0 σ1 rfl rfl (fm_fr (fm_rf _ _ _) hf1 (by decide) rfl) h16 (fun j hj => by rw [am_frd hf1 5 rfl]) (fun j hj => absurd hj (by omega))
def tr_mcost : am_T := fun as L σ post => ∃ w, as = [.int (nI w)] ∧ w < 1000 ∧ post (some (.int (sw_c32 w))) L σ
theorem ct_mcost (l : Launch) : am_Ct l 0 yX7_cost cX7_cost 1 (some .int) tr_mcost := by
  refine am_ct tbX7_cost (am_G []) (by decide +kernel) (by simp) rfl dtX7_cost rfl ckX7_cost lkX7_cost (am_nocalls rfl) ?_
  intro as L σ post h
  obtain ⟨w, rfl, hw1, h⟩ := h
  refine ⟨by simp [am_lv0], fun WW hw => hw 30 _ _ _ _ _ ?_⟩
  have w0 : nI w ≤ 0 ↔ w ≤ 0 := nI_le' (b := 0) (by omega) (by decide)
  conv => whnf
  rw [w0]
  refine ⟨fun c => ?_, fun c => ?_⟩
  · rw [show sw_c32 w = 0 from if_pos (by omega)] at h
    exact h
  · rw [show sw_c32 w = 1 from if_neg (by omega)] at h
    exact h
def sw_sta (S T : Nat → Nat) (k : Nat) : Nat → Bool
  | 0 => true
  | n + 1 => sw_sta S T k n && sw_stx S T k n
theorem sw_sta_3 (S T : Nat → Nat) (k : Nat) : sw_sta S T k 3 = sw_sty S T k := by simp [sw_sta, sw_sty]
def tr_mstays : am_T := fun as L σ post => ∃ (k : Nat) (S T : Nat → Nat), as = [.ref 0, .int (nI k)] ∧ L = LM ∧ k < 9 ∧ (∀ j, j < 9 → σ 17 j = nI (S j) - nI (T j) ∧ S j < 1000 ∧ T j < 1000) ∧ post (some (.int (sw_b2 (sw_sty S T k)))) L σ
set_option maxHeartbeats 1000000 in
theorem ct_mstays (l : Launch) : am_Ct l 1 yX7_stays cX7_stays 4 (some .boolean) tr_mstays := by
  refine am_ct tbX7_stays (am_G [tr_mcost]) (by decide +kernel) (by simp) rfl dtX7_stays rfl ckX7_stays lkX7_stays (am_cokF [(26, some (.invokestatic 278), 0, 1, 0, 0), (39, some (.invokestatic 278), 0, 1, 0, 0), (70, some (.invokestatic 278), 0, 1, 0, 0), (84, some (.invokestatic 278), 0, 1, 0, 0)] rfl (List.forall_mem_cons.mpr ⟨Or.inr (Or.inr (Or.inr ⟨0, _, _, _, _, by decide, (ct_mcost l), lnX7_278⟩)), List.forall_mem_cons.mpr ⟨Or.inr (Or.inr (Or.inr ⟨0, _, _, _, _, by decide, (ct_mcost l), lnX7_278⟩)), List.forall_mem_cons.mpr ⟨Or.inr (Or.inr (Or.inr ⟨0, _, _, _, _, by decide, (ct_mcost l), lnX7_278⟩)), List.forall_mem_cons.mpr ⟨Or.inr (Or.inr (Or.inr ⟨0, _, _, _, _, by decide, (ct_mcost l), lnX7_278⟩)), fun _ h => absurd h List.not_mem_nil⟩⟩⟩⟩)) ?_
  intro as L σ post h
  obtain ⟨k, S, T, rfl, rfl, hk, hl, h⟩ := h
  refine ⟨by simp [am_lv0], fun WW hw => ?_⟩
  obtain ⟨g1, g2, g3⟩ := hl k hk
  rw [← sw_sta_3] at h
  have vk : vp_in (nI k) 9 := vp_j hk (by decide)
  have ck : (nI k).toNatClampNeg = k := nI_cl (by omega)
  have qd : nI k / 3 = nI (k / 3) := nI_d (d := 3) (by omega) (by decide) (by decide)
  have qr : nI k - nI k / 3 * 3 = nI (k % 3) := pk_rem (d := 3) (by omega) (by decide) (by decide)
  have n3 : ¬ (3 : Int32) = 0 := by decide
  have loop : ∀ (kk i : Nat) (z y : Int32), i + kk = 3 → z = nI i → y = sw_b2 (sw_sta S T k i) → WW 5 [some (.ref 0), some (.int (nI k)), some (.int y), some (.int z)] [] LM σ := by
    intro kk
    induction kk with
    | zero =>
      intro i z y hi hz hy
      have ei : i = 3 := by omega
      subst ei; subst hz; subst hy
      refine hw 60 _ _ _ _ _ ?_
      conv => whnf
      refine ⟨fun _ => ?_, fun c => absurd (Int32.le_refl _) c⟩
      conv => whnf
      refine ⟨?_, h⟩
      cases sw_sta S T k 3
      · exact Or.inl rfl
      · exact Or.inr rfl
    | succ kk ih =>
      intro i z y hi hz hy
      subst hz; subst hy
      have ih' := fun y => ih (i + 1) (nI i + 1) y (by omega) (nI_1 i)
      obtain ⟨p1, p2, p3⟩ := hl (3 * i + k % 3) (by omega)
      obtain ⟨q1, q2, q3⟩ := hl (k / 3 * 3 + i) (by omega)
      have f1 : σ 17 k - sw_c32 (k / 3) < σ 17 (3 * i + k % 3) - sw_c32 i ↔ ¬ ((S (3 * i + k % 3) : Int) - T (3 * i + k % 3)) - sw_co i ≤ (S k : Int) - T k - sw_co (k / 3) := by
        rw [Int32.lt_iff_toInt_lt, p1, g1, sw_gi p2 p3, sw_gi g2 g3]; omega
      have f2 : -(σ 17 k) - sw_c32 (k % 3) < -(σ 17 (k / 3 * 3 + i)) - sw_c32 i ↔ ¬ -((S (k / 3 * 3 + i) : Int) - T (k / 3 * 3 + i)) - sw_co i ≤ -((S k : Int) - T k) - sw_co (k % 3) := by
        rw [Int32.lt_iff_toInt_lt, q1, g1, sw_gn q2 q3, sw_gn g2 g3]; omega
      have m1 : 3 * nI i + nI (k % 3) = nI (3 * i + k % 3) := by rw [show 3 * nI i = nI (3 * i) from pk_mul 3 i, nI_add]
      have m2 : nI (k / 3) * 3 + nI i = nI (k / 3 * 3 + i) := by rw [show nI (k / 3) * 3 = nI (k / 3 * 3) from pk_mul _ 3, nI_add]
      have hstx : sw_stx S T k i = (decide (((S (3 * i + k % 3) : Int) - T (3 * i + k % 3)) - sw_co i ≤ (S k : Int) - T k - sw_co (k / 3)) && decide (-((S (k / 3 * 3 + i) : Int) - T (k / 3 * 3 + i)) - sw_co i ≤ -((S k : Int) - T k) - sw_co (k % 3))) := rfl
      have M69 : ∀ (o : Int32) (a : Bool), a = (sw_sta S T k i && sw_stx S T k i) → WW 69 [some (.ref 0), some (.int (nI k)), some (.int o), some (.int (nI i))] [.int (sw_b2 a)] LM σ := by
        intro o a ha
        refine hw 60 _ _ _ _ _ ?_
        conv => whnf
        exact ih' _ (by rw [ha]; rfl)
      have M37 : ∀ (o : Int32) (a : Bool), a = (sw_sta S T k i && decide (((S (3 * i + k % 3) : Int) - T (3 * i + k % 3)) - sw_co i ≤ (S k : Int) - T k - sw_co (k / 3))) → WW 37 [some (.ref 0), some (.int (nI k)), some (.int o), some (.int (nI i))] [.int (sw_b2 a)] LM σ := by
        intro o a ha
        refine hw 60 _ _ _ _ _ ?_
        cases a with
        | false =>
          conv => whnf
          refine ⟨fun _ => ?_, fun c => absurd rfl c⟩
          conv => whnf
          refine M69 _ false ?_
          rw [hstx, ← Bool.and_assoc, ← ha, Bool.false_and]
        | true =>
          conv => whnf
          refine ⟨fun c => absurd c (by decide), fun _ => ?_⟩
          conv => whnf
          refine ⟨n3, ?_⟩
          conv => whnf
          rw [qd, m2]
          refine ⟨vp_j (by omega) (by decide), ?_⟩
          conv => whnf
          refine ⟨i, rfl, by omega, ?_⟩
          repeat ((conv => whnf); refine And.intro ?_ ?_; first | with_reducible assumption | decide)
          conv => whnf
          rw [qr]
          refine ⟨k % 3, rfl, by omega, ?_⟩
          conv => whnf
          rw [ck, nI_cl (j := k / 3 * 3 + i) (by omega), f2]
          refine ⟨fun c2 => ?_, fun c2 => ?_⟩
          · conv => whnf
            refine M69 _ false ?_
            rw [hstx, ← Bool.and_assoc, ← ha, decide_eq_false c2]; rfl
          · conv => whnf
            refine M69 _ true ?_
            rw [hstx, ← Bool.and_assoc, ← ha, decide_eq_true (Classical.not_not.mp c2)]; rfl
      refine hw 60 _ _ _ _ _ ?_
      conv => whnf
      refine ⟨fun c => absurd c (nI_ge (b := 3) (by omega) (by omega)), fun _ => ?_⟩
      cases ha : sw_sta S T k i with
      | false =>
        conv => whnf
        refine ⟨fun _ => ?_, fun c => absurd rfl c⟩
        conv => whnf
        exact M37 _ false (by rw [ha]; rfl)
      | true =>
        conv => whnf
        refine ⟨fun c => absurd c (by decide), fun _ => ?_⟩
        conv => whnf
        refine ⟨n3, ?_⟩
        conv => whnf
        rw [qr, m1]
        refine ⟨vp_j (by omega) (by decide), ?_⟩
        conv => whnf
        refine ⟨i, rfl, by omega, ?_⟩
        repeat ((conv => whnf); refine And.intro ?_ ?_; first | with_reducible assumption | decide)
        conv => whnf
        rw [qd]
        refine ⟨k / 3, rfl, by omega, ?_⟩
        conv => whnf
        rw [ck, nI_cl (j := 3 * i + k % 3) (by omega), f1]
        refine ⟨fun c2 => ?_, fun c2 => ?_⟩
        · conv => whnf
          refine M37 _ false ?_
          rw [ha, decide_eq_false c2]; rfl
        · conv => whnf
          refine M37 _ true ?_
          rw [ha, decide_eq_true (Classical.not_not.mp c2)]; rfl
  refine hw 60 _ _ _ _ _ ?_
  conv => whnf
  exact loop 3 0 0 1 rfl rfl rfl
set_option maxHeartbeats 1000000 in
theorem ct_mgame (l : Launch) (A : sw_A) (hA : okA A) (x y z : Int32) : am_Ct l 5 yX7_game cX7_game 6 (some .int) (trM [.ref 0, .int x, .int y, .int z] A (st_game A x y z)) := by
  refine am_ct tbX7_game (am_G [tr_misCounty, tr_mfindGains, tr_mstays]) (by decide +kernel) (by simp) rfl dtX7_game rfl ckX7_game lkX7_game (am_cokF [(2, some (.invokevirtual 250), 0, 2, 7, 0), (10, some (.invokevirtual 250), 0, 2, 7, 0), (27, some (.invokevirtual 281), 1, 3, 7, 0), (46, some (.invokevirtual 284), 2, 2, 7, 0)] rfl (List.forall_mem_cons.mpr ⟨⟨1, _, _, _, _, by decide, (ct_misCounty l), lnX7_250⟩, List.forall_mem_cons.mpr ⟨⟨1, _, _, _, _, by decide, (ct_misCounty l), lnX7_250⟩, List.forall_mem_cons.mpr ⟨⟨4, _, _, _, _, by decide, (ct_mfindGains l), lnX7_281⟩, List.forall_mem_cons.mpr ⟨⟨1, _, _, _, _, by decide, (ct_mstays l), lnX7_284⟩, fun _ h => absurd h List.not_mem_nil⟩⟩⟩⟩)) ?_
  intro as L σ post h
  obtain ⟨rfl, rfl, hR, h⟩ := h
  refine ⟨by simp [am_lv0], fun WW hw => ?_⟩
  obtain ⟨T, ⟨cn, st, mn, m, c, e, k, R, rn⟩, F, sd, U, I, E1, E2, E3⟩ := A
  obtain ⟨hT, hD, hF, -⟩ := id hR
  obtain ⟨-, -, hokD, hokF, -⟩ := hA
  have hL := hD.1
  have hcn : cn ≤ 4 := hokD.1
  have hm : m ≤ 8 := hokD.2.1
  cases hx : sw_ix x 0 cn with
  | none =>
    refine hw 60 _ _ _ _ _ ?_
    conv => whnf
    refine ⟨cn, x, rfl, rfl, by omega, hL.2.1, ?_⟩
    simp only [st_game, hx] at h
    rw [hx]
    conv => whnf
    exact ⟨fun _ => h σ hR, fun c => absurd rfl c⟩
  | some p =>
    obtain ⟨-, hp, rfl⟩ := sw_ix_some hx
    cases hyx : sw_ix y 0 cn with
    | none =>
      simp only [st_game, hx, hyx] at h
      refine hw 60 _ _ _ _ _ ?_
      conv => whnf
      refine ⟨cn, nI p, rfl, rfl, by omega, hL.2.1, ?_⟩
      rw [hx]
      conv => whnf
      refine ⟨fun c => absurd c sw_t0, fun _ => ?_⟩
      conv => whnf
      refine ⟨cn, y, rfl, rfl, by omega, hL.2.1, ?_⟩
      rw [hyx]
      conv => whnf
      exact ⟨fun _ => h σ hR, fun c => absurd rfl c⟩
    | some q =>
      obtain ⟨-, hq, rfl⟩ := sw_ix_some hyx
      simp only [st_game, hx, hyx] at h
      have hpq : nI p = nI q ↔ p = q := nI_eq' (by omega) (by omega)
      have hSb : ∀ t j, sw_gs (cn, st, mn, m, c, e, k, R, rn) F p q t j ≤ 320 := fun t j => sw_gs_le hokD hokF
      generalize hP : sw_sty (sw_gs (cn, st, mn, m, c, e, k, R, rn) F p q p) (sw_gs (cn, st, mn, m, c, e, k, R, rn) F p q q) = P at h
      have loop : ∀ (f i n : Nat) (u v : Int32) (σ1 : am_M), i + f = 9 → n ≤ i → u = nI i → v = nI n → ¬ p = q → RM (T, (cn, st, mn, m, c, e, k, R, rn), F, sd, U, I, E1, E2, E3) σ1 → (∀ j, j < 9 → σ1 17 j = nI (sw_gs (cn, st, mn, m, c, e, k, R, rn) F p q p j) - nI (sw_gs (cn, st, mn, m, c, e, k, R, rn) F p q q j)) → sw_gg P z f i n = sw_gg P z 9 0 0 → WW 22 [some (.ref 0), some (.int (nI p)), some (.int (nI q)), some (.int z), some (.int v), some (.int u)] [] LM σ1 := by
        intro f
        induction f with
        | zero =>
          intro i n u v σ1 hi hn hu hv hpq hR1 hl hg
          have ei : i = 9 := by omega
          subst ei; subst hu; subst hv
          rw [if_neg hpq, ← hg, sw_gg] at h
          have h := h σ1 hR1
          refine hw 60 _ _ _ _ _ ?_
          conv => whnf
          refine ⟨fun _ => ?_, fun c => absurd (Int32.le_refl _) c⟩
          conv => whnf
          refine ⟨fun cc => ?_, fun cc => ?_⟩
          · rw [if_neg cc] at h; exact h
          · rw [if_pos cc] at h; exact h
        | succ f ih =>
          intro i n u v σ1 hi hn hu hv hpq hR1 hl hg
          subst hu; subst hv
          rw [sw_gg] at hg
          have qd : nI i / 3 = nI (i / 3) := nI_d (d := 3) (by omega) (by decide) (by decide)
          have qr : nI i - nI i / 3 * 3 = nI (i % 3) := pk_rem (d := 3) (by omega) (by decide) (by decide)
          have n3 : ¬ (3 : Int32) = 0 := by decide
          refine hw 60 _ _ _ _ _ ?_
          conv => whnf
          refine ⟨fun c => absurd c (nI_ge (b := 9) (by omega) (by omega)), fun _ => ?_⟩
          conv => whnf
          refine ⟨i, _, _, rfl, rfl, by omega, fun j hj => ⟨hl j hj, by have := hSb p j; omega, by have := hSb q j; omega⟩, ?_⟩
          rw [hP]
          cases hPi : P i with
          | false =>
            rw [hPi, if_neg (by decide)] at hg
            conv => whnf
            refine ⟨fun _ => ?_, fun c => absurd rfl c⟩
            conv => whnf
            exact ih (i + 1) n _ _ σ1 (by omega) (by omega) (nI_1 i) rfl hpq hR1 hl hg
          | true =>
            rw [hPi, if_pos rfl] at hg
            conv => whnf
            refine ⟨fun c => absurd c (by decide), fun _ => ?_⟩
            conv => whnf
            refine ⟨fun cc => ?_, fun cc => ?_⟩
            · rw [if_neg cc] at hg
              conv => whnf
              exact ih (i + 1) (n + 1) _ _ σ1 (by omega) (by omega) (nI_1 i) (nI_1 n) hpq hR1 hl hg
            · rw [if_pos cc] at hg
              rw [if_neg hpq, ← hg] at h
              repeat ((conv => whnf); refine And.intro ?_ ?_; first | with_reducible assumption | decide)
              conv => whnf
              rw [qr, qd, show 10 * nI (i / 3) = nI (10 * (i / 3)) from pk_mul 10 _, nI_add]
              exact h σ1 hR1
      refine hw 60 _ _ _ _ _ ?_
      conv => whnf
      refine ⟨cn, nI p, rfl, rfl, by omega, hL.2.1, ?_⟩
      rw [hx]
      conv => whnf
      refine ⟨fun c => absurd c sw_t0, fun _ => ?_⟩
      conv => whnf
      refine ⟨cn, nI q, rfl, rfl, by omega, hL.2.1, ?_⟩
      rw [hyx]
      conv => whnf
      refine ⟨fun c => absurd c sw_t0, fun _ => ?_⟩
      conv => whnf
      rw [hpq]
      refine ⟨fun cpq => ?_, fun cpq => ?_⟩
      · conv => whnf
        refine ⟨cn, st, mn, m, c, e, k, R, rn, F, p, q, rfl, rfl, hD, hokD, hF, hokF, hp, hq, fun σ1 hf1 h5 hl => ?_⟩
        conv => whnf
        exact loop 9 0 0 _ _ σ1 rfl (by omega) rfl rfl cpq (RM_junk hm (fm_tr (fm_rf _ _ _) hf1 (by decide) (by decide)) h5 hR) hl rfl
      · rw [if_pos cpq] at h
        exact h σ hR
