/-! THE CLASS: game -/
def sw_dg (c : Nat → Nat) (q w : Nat) (f : Nat → Nat) : Nat → Nat := fun b => if w = 2 ∧ c b = q then f b - 2 else f b
def sw_sk (c : Nat → Nat) (q w : Nat) (f : Nat → Nat) : Nat → Nat := fun b => if w = 1 ∧ c b = q then f b + 2 else f b
def sw_far (F : sw_F) (f : Nat → Nat) : sw_F := (F.1, F.2.1, f, F.2.2.2)
def sw_gF (c : Nat → Nat) (p q a b : Nat) (F : sw_F) : sw_F := sw_far F (sw_sk c p b (sw_sk c q a (sw_dg c q b (sw_dg c p a F.2.2.1))))
/-- seats of county x, the two counties p and q doing k / 3 and k % 3 -/
def sw_gs (D : sw_D) (F : sw_F) (p q x k : Nat) : Nat := match D with
  | (cn, st, _, m, c, e, kd, R, rn) => sw_cs (sw_yr m cn c e kd (rn (F.2.2.2.2.2 % R)) (sw_gF c p q (k / 3) (k % 3) F)).1 c x m / st
def sw_co (w : Nat) : Int := if w = 0 then 0 else 1
def sw_stx (S T : Nat → Nat) (k x : Nat) : Bool := decide (((S (3 * x + k % 3) : Int) - T (3 * x + k % 3)) - sw_co x ≤ (S k : Int) - T k - sw_co (k / 3)) && decide (-((S (k / 3 * 3 + x) : Int) - T (k / 3 * 3 + x)) - sw_co x ≤ -((S k : Int) - T k) - sw_co (k % 3))
def sw_sty (S T : Nat → Nat) (k : Nat) : Bool := (sw_stx S T k 0 && sw_stx S T k 1) && sw_stx S T k 2
/-- the i-th pair that nobody would leave, from k on, n found: of f more -/
def sw_gg (P : Nat → Bool) (i : Int32) : Nat → Nat → Nat → Int32
  | 0, _, n => if i = -1 then nI n else -1
  | f + 1, k, n => if P k then (if nI n = i then nI (10 * (k / 3) + k % 3) else sw_gg P i f (k + 1) (n + 1)) else sw_gg P i f (k + 1) n
def st_game (A : sw_A) (x y i : Int32) : Int32 × sw_A := match A with
  | (_, D, F, _) => match sw_ix x 0 D.1, sw_ix y 0 D.1 with
    | some p, some q => if p = q then (-1000000001, A) else (sw_gg (sw_sty (sw_gs D F p q p) (sw_gs D F p q q)) i 9 0 0, A)
    | _, _ => (-1000000001, A)
theorem sw_FC_congr {σ : am_M} {p a b c m : Nat} {F G : sw_F} (h : sw_FC σ p a b c m F) (h1 : ∀ j, j < m → F.1 j = G.1 j) (h2 : ∀ j, j < m → F.2.1 j = G.2.1 j) (h3 : ∀ j, j < m → F.2.2.1 j = G.2.2.1 j) (h4 : F.2.2.2 = G.2.2.2) : sw_FC σ p a b c m G := by
  obtain ⟨g1, g2, g3, g4, g5, g6⟩ := h
  exact ⟨fun j hj => by rw [← h1 j hj]; exact g1 j hj, fun j hj => by rw [← h2 j hj]; exact g2 j hj, fun j hj => by rw [← h3 j hj]; exact g3 j hj, by rw [← h4]; exact g4, by rw [← h4]; exact g5, by rw [← h4]; exact g6⟩
def tr_digPools : am_T := fun as L σ post => ∃ (q w m : Nat) (c : Nat → Nat) (F : sw_F), as = [.ref 0, .int (nI q), .int (nI w)] ∧ L = LC ∧ q < 1000 ∧ w < 1000 ∧ m ≤ 8 ∧ σ 3 3 = nI m ∧ (∀ b, b < m → σ 4 b = nI (c b) ∧ c b < 1000) ∧ sw_FC σ 22 23 24 25 m F ∧ (∀ b, b < m → F.2.2.1 b < 1000) ∧ ∀ σ', am_fr [25] σ σ' → sw_FC σ' 22 23 24 25 m (sw_far F (sw_dg c q w F.2.2.1)) → post none L σ'
theorem ct_digPools (l : Launch) : am_Ct l 1 yX6_digPools cX6_digPools 4 none tr_digPools := by
  refine am_ct tbX6_digPools (am_G [tr_bringNearer]) (by decide +kernel) (by simp) rfl dtX6_digPools rfl ckX6_digPools lkX6_digPools (am_cokF [(37, some (.invokevirtual 190), 0, 3, 1, 0)] rfl (List.forall_mem_cons.mpr ⟨⟨0, _, _, _, _, by decide, (ct_bringNearer l), lnX6_190⟩, fun _ h => absurd h List.not_mem_nil⟩)) ?_
  intro as L σ post h
  obtain ⟨q, w, m, c, F, rfl, rfl, hq, hw1, hm, e1, e2, hF, hb, h⟩ := h
  refine ⟨by simp [am_lv0], fun WW hw => ?_⟩
  have loop : ∀ (kk i : Nat) (z : Int32) (σ1 : am_M), i + kk = m → z = nI i → am_fr [25] σ σ1 → sw_FC σ1 22 23 24 25 m (sw_far F (fun b => if b < i then sw_dg c q w F.2.2.1 b else F.2.2.1 b)) → WW 3 [some (.ref 0), some (.int (nI q)), some (.int (nI w)), some (.int z)] [] LC σ1 := by
    intro kk
    induction kk with
    | zero =>
      intro i z σ1 hi hz hf hF1
      have ei : i = m := by omega
      subst ei; subst hz
      refine hw 60 _ _ _ _ _ ?_
      conv => whnf
      rw [am_frd hf 3 rfl, e1]
      exact ⟨fun _ => h σ1 hf (sw_FC_congr hF1 (fun _ _ => rfl) (fun _ _ => rfl) (fun j hj => if_pos hj) rfl), fun c => absurd (Int32.le_refl _) c⟩
    | succ kk ih =>
      intro i z σ1 hi hz hf hF1
      subst hz
      have him : i < m := by omega
      have hin : vp_in (nI i) 8 := vp_j (by omega) (by decide)
      have hcl : (nI i).toNatClampNeg = i := nI_cl (by omega)
      obtain ⟨e3, e4⟩ := e2 i him
      have hbi := hb i him
      have ih' := fun σ2 => ih (i + 1) (nI i + 1) σ2 (by omega) (nI_1 i)
      have keep : ¬ (w = 2 ∧ c i = q) → WW 3 [some (.ref 0), some (.int (nI q)), some (.int (nI w)), some (.int (nI i + 1))] [] LC σ1 := fun hc => ih' σ1 hf (sw_FC_congr hF1 (fun _ _ => rfl) (fun _ _ => rfl) (fun j hj => by
        show (if j < i then _ else _) = (if j < i + 1 then _ else _)
        by_cases hji : j = i
        · subst hji; rw [if_neg (by omega), if_pos (by omega)]; exact (if_neg hc).symm
        · by_cases hlt : j < i
          · rw [if_pos hlt, if_pos (by omega)]
          · rw [if_neg hlt, if_neg (by omega)]) rfl)
      have w2 : nI w = 2 ↔ w = 2 := nI_eq' (b := 2) (by omega) (by decide)
      refine hw 60 _ _ _ _ _ ?_
      conv => whnf
      rw [am_frd hf 3 rfl, e1]
      refine ⟨fun c => absurd c (nI_ge him (by omega)), fun _ => ?_⟩
      conv => whnf
      rw [w2]
      refine ⟨fun cw => keep (fun hh => cw hh.1), fun cw => ?_⟩
      repeat ((conv => whnf); refine And.intro ?_ ?_; first | with_reducible assumption | decide)
      conv => whnf
      rw [hcl, am_frd hf 4 rfl, e3, nI_eq' (by omega) (by omega)]
      refine ⟨fun cc => keep (fun hh => cc hh.2), fun cc => ?_⟩
      conv => whnf
      refine ⟨22, 23, 24, 25, 26, m, _, i, 2, rfl, rfl, Or.inr ⟨rfl, rfl, rfl, rfl, rfl⟩, hm, him, by decide, hF1, ?_, fun σ2 hf2 hF2 => ?_⟩
      · show (if i < i then _ else _) < 1000
        rw [if_neg (by omega)]; exact hbi
      · conv => whnf
        refine ih' σ2 (am_fr_tr hf hf2 (by decide)) (sw_FC_congr hF2 (fun _ _ => rfl) (fun _ _ => rfl) (fun j hj => ?_) rfl)
        show va_up (fun b => if b < i then sw_dg c q w F.2.2.1 b else F.2.2.1 b) i ((if i < i then _ else _) - 2) j = (if j < i + 1 then _ else _)
        by_cases hji : j = i
        · subst hji
          rw [up_vs, if_neg (by omega), if_pos (by omega)]; exact (if_pos ⟨cw, cc⟩).symm
        · rw [up_vn _ _ _ _ hji]
          by_cases hlt : j < i
          · rw [if_pos hlt, if_pos (by omega)]
          · rw [if_neg hlt, if_neg (by omega)]
  refine hw 60 _ _ _ _ _ ?_
  conv => whnf
  exact loop m 0 0 σ (Nat.zero_add _) rfl (am_fr_rf _ _) (sw_FC_congr hF (fun _ _ => rfl) (fun _ _ => rfl) (fun j hj => rfl) rfl)
def tr_makeSmoke : am_T := fun as L σ post => ∃ (q w m : Nat) (c : Nat → Nat) (F : sw_F), as = [.ref 0, .int (nI q), .int (nI w)] ∧ L = LC ∧ q < 1000 ∧ w < 1000 ∧ m ≤ 8 ∧ σ 3 3 = nI m ∧ (∀ b, b < m → σ 4 b = nI (c b) ∧ c b < 1000) ∧ sw_FC σ 22 23 24 25 m F ∧ ∀ σ', am_fr [25] σ σ' → sw_FC σ' 22 23 24 25 m (sw_far F (sw_sk c q w F.2.2.1)) → post none L σ'
theorem ct_makeSmoke (l : Launch) : am_Ct l 1 yX6_makeSmoke cX6_makeSmoke 4 none tr_makeSmoke := by
  refine am_ct tbX6_makeSmoke (am_G []) (by decide +kernel) (by simp) rfl dtX6_makeSmoke rfl ckX6_makeSmoke lkX6_makeSmoke (am_nocalls rfl) ?_
  intro as L σ post h
  obtain ⟨q, w, m, c, F, rfl, rfl, hq, hw1, hm, e1, e2, hF, h⟩ := h
  refine ⟨by simp [am_lv0], fun WW hw => ?_⟩
  have loop : ∀ (kk i : Nat) (z : Int32) (σ1 : am_M), i + kk = m → z = nI i → am_fr [25] σ σ1 → sw_FC σ1 22 23 24 25 m (sw_far F (fun b => if b < i then sw_sk c q w F.2.2.1 b else F.2.2.1 b)) → WW 3 [some (.ref 0), some (.int (nI q)), some (.int (nI w)), some (.int z)] [] LC σ1 := by
    intro kk
    induction kk with
    | zero =>
      intro i z σ1 hi hz hf hF1
      have ei : i = m := by omega
      subst ei; subst hz
      refine hw 60 _ _ _ _ _ ?_
      conv => whnf
      rw [am_frd hf 3 rfl, e1]
      exact ⟨fun _ => h σ1 hf (sw_FC_congr hF1 (fun _ _ => rfl) (fun _ _ => rfl) (fun j hj => if_pos hj) rfl), fun c => absurd (Int32.le_refl _) c⟩
    | succ kk ih =>
      intro i z σ1 hi hz hf hF1
      subst hz
      have him : i < m := by omega
      have hin : vp_in (nI i) 8 := vp_j (by omega) (by decide)
      have hcl : (nI i).toNatClampNeg = i := nI_cl (by omega)
      obtain ⟨e3, e4⟩ := e2 i him
      have ih' := fun σ2 => ih (i + 1) (nI i + 1) σ2 (by omega) (nI_1 i)
      have keep : ¬ (w = 1 ∧ c i = q) → WW 3 [some (.ref 0), some (.int (nI q)), some (.int (nI w)), some (.int (nI i + 1))] [] LC σ1 := fun hc => ih' σ1 hf (sw_FC_congr hF1 (fun _ _ => rfl) (fun _ _ => rfl) (fun j hj => by
        show (if j < i then _ else _) = (if j < i + 1 then _ else _)
        by_cases hji : j = i
        · subst hji; rw [if_neg (by omega), if_pos (by omega)]; exact (if_neg hc).symm
        · by_cases hlt : j < i
          · rw [if_pos hlt, if_pos (by omega)]
          · rw [if_neg hlt, if_neg (by omega)]) rfl)
      have w2 : nI w = 1 ↔ w = 1 := nI_eq' (b := 1) (by omega) (by decide)
      refine hw 60 _ _ _ _ _ ?_
      conv => whnf
      rw [am_frd hf 3 rfl, e1]
      refine ⟨fun c => absurd c (nI_ge him (by omega)), fun _ => ?_⟩
      conv => whnf
      rw [w2]
      refine ⟨fun cw => keep (fun hh => cw hh.1), fun cw => ?_⟩
      repeat ((conv => whnf); refine And.intro ?_ ?_; first | with_reducible assumption | decide)
      conv => whnf
      rw [hcl, am_frd hf 4 rfl, e3, nI_eq' (by omega) (by omega)]
      refine ⟨fun cc => keep (fun hh => cc hh.2), fun cc => ?_⟩
      repeat ((conv => whnf); refine And.intro ?_ ?_; first | with_reducible assumption | decide)
      conv => whnf
      obtain ⟨g1, g2, g3, g4, g5, g6⟩ := hF1
      have g3i : σ1 25 i = nI (F.2.2.1 i) := by rw [g3 i him]; exact congrArg nI (if_neg (by omega))
      rw [hcl, g3i, show nI (F.2.2.1 i) + 2 = nI (F.2.2.1 i + 2) from nI_add _ 2]
      refine ih' _ (am_fr_up _ hf (by decide)) ⟨fun j hj => ?_, fun j hj => ?_, fun j hj => ?_, ?_, ?_, ?_⟩
      · rw [am_un _ _ _ _ (by decide)]; exact g1 j hj
      · rw [am_un _ _ _ _ (by decide)]; exact g2 j hj
      · rw [am_us]
        show upd (σ1 25) i (nI (F.2.2.1 i + 2)) j = nI (if j < i + 1 then sw_sk c q w F.2.2.1 j else F.2.2.1 j)
        by_cases hji : j = i
        · subst hji
          rw [up_s, if_pos (by omega)]; exact congrArg nI (if_pos ⟨cw, cc⟩).symm
        · rw [up_n _ _ _ _ hji, g3 j hj]
          show nI (if j < i then _ else _) = _
          by_cases hlt : j < i
          · rw [if_pos hlt, if_pos (by omega)]
          · rw [if_neg hlt, if_neg (by omega)]
      · rw [am_un _ _ _ _ (by decide)]; exact g4
      · rw [am_un _ _ _ _ (by decide)]; exact g5
      · rw [am_un _ _ _ _ (by decide)]; exact g6
  refine hw 60 _ _ _ _ _ ?_
  conv => whnf
  exact loop m 0 0 σ (Nat.zero_add _) rfl (am_fr_rf _ _) (sw_FC_congr hF (fun _ _ => rfl) (fun _ _ => rfl) (fun j hj => rfl) rfl)
theorem sw_dg_le {c : Nat → Nat} {q w b B : Nat} {f : Nat → Nat} (h : f b ≤ B) : sw_dg c q w f b ≤ B := by unfold sw_dg; split <;> omega
theorem sw_sk_le {c : Nat → Nat} {q w b B : Nat} {f : Nat → Nat} (h : f b ≤ B) : sw_sk c q w f b ≤ B + 2 := by unfold sw_sk; split <;> omega
theorem sw_gs_le {D : sw_D} {F : sw_F} {p q x k : Nat} (hD : okD D) (hF : okF D.2.2.2.1 D.2.2.2.2.2.1 F) : sw_gs D F p q x k ≤ 320 := by
  obtain ⟨cn, st, mn, m, c, e, kd, R, rn⟩ := D
  obtain ⟨hcn, hm, -, -, -, -, hB, hR0, hR8, hrn⟩ := hD
  have he : ∀ b, b < m → e b ≤ 40 := fun b hb => (hB b hb).2.1
  obtain ⟨n, g, f, s, lo, y⟩ := F
  show sw_cs (sw_yr m cn c e kd (rn (y % R)) (sw_gF c p q (k / 3) (k % 3) (n, g, f, s, lo, y))).1 c x m / st ≤ 320
  obtain ⟨a1, a2, a3⟩ := sw_y1_facts (c := c) (e := e) (k := kd) (f := (sw_gF c p q (k / 3) (k % 3) (n, g, f, s, lo, y)).2.2.1) (s := s) (n := n) (lo := lo) (r := rn (y % R)) (hrn _ (Nat.mod_lt _ hR0)) he (fun b hb => Nat.le_trans (hF.1 b hb).1 (he b hb)) m (Nat.le_refl m)
  obtain ⟨b1, b2⟩ := sw_y2_facts (c := c) (e := e) (s := s) a2 a3 m (Nat.le_refl m)
  obtain ⟨c1, c2⟩ := sw_y4_facts (s := s) (r := rn (y % R)) (g := g) b1 m (Nat.le_refl m)
  have hV : sw_cs (sw_yr m cn c e kd (rn (y % R)) (sw_gF c p q (k / 3) (k % 3) (n, g, f, s, lo, y))).1 c x m ≤ m * 40 := sw_cs_le m (fun b hb => by
    have h1 : (sw_yr m cn c e kd (rn (y % R)) (sw_gF c p q (k / 3) (k % 3) (n, g, f, s, lo, y))).1 b = _ := (c2 b hb).1
    rw [h1]
    have := sw_one_le (s := s) (r := rn (y % R)) (b1 b hb)
    have := he b hb
    omega)
  have := Nat.div_le_self (sw_cs (sw_yr m cn c e kd (rn (y % R)) (sw_gF c p q (k / 3) (k % 3) (n, g, f, s, lo, y))).1 c x m) st
  omega
def tr_playAll : am_T := fun as L σ post => ∃ (cn st mn m : Nat) (c e k : Nat → Nat) (R : Nat) (rn : Nat → Nat) (F : sw_F) (p q : Nat), as = [.ref 0, .int (nI p), .int (nI q)] ∧ L = LC ∧ rcD (cn, st, mn, m, c, e, k, R, rn) σ ∧ okD (cn, st, mn, m, c, e, k, R, rn) ∧ sw_FC σ 17 18 19 20 m F ∧ okF m e F ∧ p < cn ∧ q < cn ∧ ∀ σ', am_fr [22, 23, 24, 25, 26, 43] σ σ' → (∀ j, j < 9 → σ' 43 j = nI (sw_gs (cn, st, mn, m, c, e, k, R, rn) F p q p j) - nI (sw_gs (cn, st, mn, m, c, e, k, R, rn) F p q q j)) → post none L σ'
set_option maxHeartbeats 2000000 in
theorem ct_playAll (l : Launch) : am_Ct l 3 yX6_playAllPairs cX6_playAllPairs 5 none tr_playAll := by
  refine am_ct tbX6_playAllPairs (am_G [tr_copyFrom, tr_digPools, tr_makeSmoke, tr_passTrial, tr_trialSeats]) (by decide +kernel) (by simp) rfl dtX6_playAllPairs rfl ckX6_playAllPairs lkX6_playAllPairs (am_cokF [(24, some (.invokevirtual 204), 0, 2, 1, 0), (30, some (.invokevirtual 284), 1, 3, 6, 0), (37, some (.invokevirtual 284), 1, 3, 6, 0), (43, some (.invokevirtual 287), 2, 3, 6, 0), (50, some (.invokevirtual 287), 2, 3, 6, 0), (54, some (.invokevirtual 207), 3, 1, 6, 0), (69, some (.invokevirtual 281), 4, 2, 6, 0), (74, some (.invokevirtual 281), 4, 2, 6, 0)] rfl (List.forall_mem_cons.mpr ⟨⟨0, _, _, _, _, by decide, (ct_copyFrom l), lnX6_204⟩, List.forall_mem_cons.mpr ⟨⟨1, _, _, _, _, by decide, (ct_digPools l), lnX6_284⟩, List.forall_mem_cons.mpr ⟨⟨1, _, _, _, _, by decide, (ct_digPools l), lnX6_284⟩, List.forall_mem_cons.mpr ⟨⟨1, _, _, _, _, by decide, (ct_makeSmoke l), lnX6_287⟩, List.forall_mem_cons.mpr ⟨⟨1, _, _, _, _, by decide, (ct_makeSmoke l), lnX6_287⟩, List.forall_mem_cons.mpr ⟨⟨2, _, _, _, _, by decide, (ct_passTrial l), lnX6_207⟩, List.forall_mem_cons.mpr ⟨⟨2, _, _, _, _, by decide, (ct_trialSeats l), lnX6_281⟩, List.forall_mem_cons.mpr ⟨⟨2, _, _, _, _, by decide, (ct_trialSeats l), lnX6_281⟩, fun _ h => absurd h List.not_mem_nil⟩⟩⟩⟩⟩⟩⟩⟩)) ?_
  intro as L σ post h
  obtain ⟨cn, st, mn, m, c, e, k, R, rn, F, p, q, rfl, rfl, hD, hokD, hF, hokF, hp, hq, h⟩ := h
  refine ⟨by simp [am_lv0], fun WW hw => ?_⟩
  obtain ⟨hL, d6, d7, d8⟩ := id hD
  obtain ⟨hcn, hm, -, hpos, hst, hmn, hB, hR0, hR8, hrn⟩ := id hokD
  obtain ⟨hFk, hy⟩ := id hokF
  have he : ∀ b, b < m → e b ≤ 40 := fun b hb => (hB b hb).2.1
  have hcc : ∀ b, b < m → σ 4 b = nI (c b) ∧ c b < 1000 := fun b hb => ⟨hL.2.2.1 b hb, by have := (hB b hb).1; omega⟩
  have hp0 := hpos (by omega)
  have inner : ∀ (i : Nat), i < 3 → (∀ (u : Int32) (σ1 : am_M), u = nI (i + 1) → am_fr [22, 23, 24, 25, 26, 43] σ σ1 → (∀ j, j < 3 * (i + 1) → σ1 43 j = nI (sw_gs (cn, st, mn, m, c, e, k, R, rn) F p q p j) - nI (sw_gs (cn, st, mn, m, c, e, k, R, rn) F p q q j)) → WW 3 [some (.ref 0), some (.int (nI p)), some (.int (nI q)), some (.int u)] [] LC σ1) →
      ∀ (kk j : Nat) (v : Int32) (σ1 : am_M), j + kk = 3 → v = nI j → am_fr [22, 23, 24, 25, 26, 43] σ σ1 → (∀ t, t < 3 * i + j → σ1 43 t = nI (sw_gs (cn, st, mn, m, c, e, k, R, rn) F p q p t) - nI (sw_gs (cn, st, mn, m, c, e, k, R, rn) F p q q t)) → WW 9 [some (.ref 0), some (.int (nI p)), some (.int (nI q)), some (.int (nI i)), some (.int v)] [] LC σ1 := by
    intro i hi hnext kk
    induction kk with
    | zero =>
      intro j v σ1 hj hv hf hl
      have ej : j = 3 := by omega
      subst ej; subst hv
      refine hw 60 _ _ _ _ _ ?_
      conv => whnf
      refine ⟨fun _ => ?_, fun c => absurd (Int32.le_refl _) c⟩
      conv => whnf
      exact hnext _ σ1 (nI_1 i) hf (fun t ht => hl t (by omega))
    | succ kk ih =>
      intro j v σ1 hj hv hf hl
      subst hv
      have g3 := am_frd hf 3 rfl
      have g4 := am_frd hf 4 rfl
      have hF1 := sw_FC_fr (am_frd hf 17 rfl) (am_frd hf 18 rfl) (am_frd hf 19 rfl) (am_frd hf 20 rfl) hF
      refine hw 60 _ _ _ _ _ ?_
      conv => whnf
      refine ⟨fun c => absurd c (nI_ge (b := 3) (by omega) (by omega)), fun _ => ?_⟩
      conv => whnf
      refine ⟨m, F, rfl, rfl, hm, hF1, fun σ2 hf2 hF2 => ?_⟩
      conv => whnf
      refine ⟨p, i, m, c, F, rfl, rfl, by omega, by omega, hm, by rw [am_frd hf2 3 rfl, g3]; exact hL.1, by rw [am_frd hf2 4 rfl, g4]; exact hcc, hF2, fun b hb => by have := (hFk b hb).2.2; omega, fun σ3 hf3 hF3 => ?_⟩
      conv => whnf
      refine ⟨q, j, m, c, sw_far F (sw_dg c p i F.2.2.1), rfl, rfl, by omega, by omega, hm, by rw [am_frd hf3 3 rfl, am_frd hf2 3 rfl, g3]; exact hL.1, by rw [am_frd hf3 4 rfl, am_frd hf2 4 rfl, g4]; exact hcc, hF3, fun b hb => by have := sw_dg_le (c := c) (q := p) (w := i) (hFk b hb).2.2; show sw_dg c p i F.2.2.1 b < 1000; omega, fun σ4 hf4 hF4 => ?_⟩
      conv => whnf
      refine ⟨q, i, m, c, sw_far F (sw_dg c q j (sw_dg c p i F.2.2.1)), rfl, rfl, by omega, by omega, hm, by rw [am_frd hf4 3 rfl, am_frd hf3 3 rfl, am_frd hf2 3 rfl, g3]; exact hL.1, by rw [am_frd hf4 4 rfl, am_frd hf3 4 rfl, am_frd hf2 4 rfl, g4]; exact hcc, hF4, fun σ5 hf5 hF5 => ?_⟩
      conv => whnf
      refine ⟨p, j, m, c, sw_far F (sw_sk c q i (sw_dg c q j (sw_dg c p i F.2.2.1))), rfl, rfl, by omega, by omega, hm, by rw [am_frd hf5 3 rfl, am_frd hf4 3 rfl, am_frd hf3 3 rfl, am_frd hf2 3 rfl, g3]; exact hL.1, by rw [am_frd hf5 4 rfl, am_frd hf4 4 rfl, am_frd hf3 4 rfl, am_frd hf2 4 rfl, g4]; exact hcc, hF5, fun σ6 hf6 hF6 => ?_⟩
      have hfa : am_fr [22, 23, 24, 25, 26, 43] σ σ6 := am_fr_tr (am_fr_tr (am_fr_tr (am_fr_tr (am_fr_tr hf hf2 (by decide)) hf3 (by decide)) hf4 (by decide)) hf5 (by decide)) hf6 (by decide)
      have h43 : σ6 43 = σ1 43 := by rw [am_frd hf6 43 rfl, am_frd hf5 43 rfl, am_frd hf4 43 rfl, am_frd hf3 43 rfl, am_frd hf2 43 rfl]
      have hGF : sw_FC σ6 22 23 24 25 m (sw_gF c p q i j F) := hF6
      conv => whnf
      refine ⟨m, cn, c, e, k, R, rn, sw_gF c p q i j F, rfl, rfl, ?_, ⟨hm, hcn, hB⟩, ?_, hR0, hR8, hrn, hGF, ?_, ?_, fun σ7 hf7 hF7 => ?_⟩
      · unfold sw_LC at hL ⊢; rw [am_frd hfa 3 rfl, am_frd hfa 4 rfl, am_frd hfa 5 rfl, am_frd hfa 8 rfl]; exact hL
      · unfold rcR at d8 ⊢; rw [am_frd hfa 3 rfl, am_frd hfa 9 rfl]; exact d8
      · intro b hb
        obtain ⟨w1, w2, w3⟩ := hFk b hb
        have := he b hb
        have := sw_sk_le (c := c) (q := p) (w := j) (sw_sk_le (c := c) (q := q) (w := i) (sw_dg_le (c := c) (q := q) (w := j) (sw_dg_le (c := c) (q := p) (w := i) w3)))
        exact ⟨w1, by show F.2.1 b ≤ 40; omega, by show sw_sk c p j (sw_sk c q i (sw_dg c q j (sw_dg c p i F.2.2.1))) b < 100; omega⟩
      · show F.2.2.2.2.2 < 100000; omega
      · have hfb : am_fr [22, 23, 24, 25, 26, 43] σ σ7 := am_fr_tr hfa hf7 (by decide)
        have k3 := am_frd hfb 3 rfl
        have k4 := am_frd hfb 4 rfl
        have hin : vp_in (nI i * 3 + nI j) 9 := by rw [show nI i * 3 = nI (i * 3) from pk_mul i 3, nI_add]; exact vp_j (by omega) (by decide)
        have hcl : (nI i * 3 + nI j).toNatClampNeg = 3 * i + j := by rw [show nI i * 3 = nI (i * 3) from pk_mul i 3, nI_add, nI_cl (by omega)]; omega
        have hY : sw_FC σ7 22 23 24 25 m (sw_yr m cn c e k (rn (F.2.2.2.2.2 % R)) (sw_gF c p q i j F)) := hF7
        have gsp : ∀ x, sw_gs (cn, st, mn, m, c, e, k, R, rn) F p q x (3 * i + j) = sw_cs (sw_yr m cn c e k (rn (F.2.2.2.2.2 % R)) (sw_gF c p q i j F)).1 c x m / st := fun x => by
          show sw_cs (sw_yr m cn c e k (rn (F.2.2.2.2.2 % R)) (sw_gF c p q ((3 * i + j) / 3) ((3 * i + j) % 3) F)).1 c x m / st = _
          rw [show (3 * i + j) / 3 = i by omega, show (3 * i + j) % 3 = j by omega]
        have hnb : ∀ b, b < m → (sw_yr m cn c e k (rn (F.2.2.2.2.2 % R)) (sw_gF c p q i j F)).1 b ≤ 40 := by
          intro b hb
          obtain ⟨n0, g0, f0, s0, lo0, y0⟩ := F
          obtain ⟨a1, a2, a3⟩ := sw_y1_facts (c := c) (e := e) (k := k) (f := (sw_gF c p q i j (n0, g0, f0, s0, lo0, y0)).2.2.1) (s := s0) (n := n0) (lo := lo0) (r := rn (y0 % R)) (hrn _ (Nat.mod_lt _ hR0)) he (fun b hb => Nat.le_trans (hFk b hb).1 (he b hb)) m (Nat.le_refl m)
          obtain ⟨b1, b2⟩ := sw_y2_facts (c := c) (e := e) (s := s0) a2 a3 m (Nat.le_refl m)
          obtain ⟨c1, c2⟩ := sw_y4_facts (s := s0) (r := rn (y0 % R)) (g := g0) b1 m (Nat.le_refl m)
          have h1 : (sw_yr m cn c e k (rn (y0 % R)) (sw_gF c p q i j (n0, g0, f0, s0, lo0, y0))).1 b = _ := (c2 b hb).1
          show (sw_yr m cn c e k (rn (y0 % R)) (sw_gF c p q i j (n0, g0, f0, s0, lo0, y0))).1 b ≤ 40
          rw [h1]
          have := sw_one_le (s := s0) (r := rn (y0 % R)) (b1 b hb)
          have := he b hb
          omega
        generalize sw_yr m cn c e k (rn (F.2.2.2.2.2 % R)) (sw_gF c p q i j F) = G at hY gsp hnb
        conv => whnf
        refine ⟨p, m, st, c, G.1, rfl, rfl, by omega, hm, hp0.1, by omega, by rw [k3]; exact hL.1, by rw [k3]; exact d6, by rw [k4]; exact hcc, fun b hb => ⟨hY.1 b hb, hnb b hb⟩, ?_⟩
        conv => whnf
        refine ⟨q, m, st, c, G.1, rfl, rfl, by omega, hm, hp0.1, by omega, by rw [k3]; exact hL.1, by rw [k3]; exact d6, by rw [k4]; exact hcc, fun b hb => ⟨hY.1 b hb, hnb b hb⟩, ?_⟩
        repeat ((conv => whnf); refine And.intro ?_ ?_; first | with_reducible assumption | decide)
        conv => whnf
        rw [hcl, ← gsp p, ← gsp q]
        refine ih (j + 1) _ _ (by omega) (nI_1 j) (am_fr_up _ hfb (by decide)) (fun t ht => ?_)
        rw [am_us]
        by_cases htk : t = 3 * i + j
        · subst htk; rw [up_s]; rfl
        · rw [up_n _ _ _ _ htk, am_frd hf7 43 rfl, h43]
          exact hl t (by omega)
  have outer : ∀ (kk i : Nat) (u : Int32) (σ1 : am_M), i + kk = 3 → u = nI i → am_fr [22, 23, 24, 25, 26, 43] σ σ1 → (∀ j, j < 3 * i → σ1 43 j = nI (sw_gs (cn, st, mn, m, c, e, k, R, rn) F p q p j) - nI (sw_gs (cn, st, mn, m, c, e, k, R, rn) F p q q j)) → WW 3 [some (.ref 0), some (.int (nI p)), some (.int (nI q)), some (.int u)] [] LC σ1 := by
    intro kk
    induction kk with
    | zero =>
      intro i u σ1 hi hu hf hl
      have ei : i = 3 := by omega
      subst ei; subst hu
      refine hw 60 _ _ _ _ _ ?_
      conv => whnf
      exact ⟨fun _ => h σ1 hf (fun j hj => hl j (by omega)), fun c => absurd (Int32.le_refl _) c⟩
    | succ kk ih =>
      intro i u σ1 hi hu hf hl
      subst hu
      refine hw 60 _ _ _ _ _ ?_
      conv => whnf
      refine ⟨fun c => absurd c (nI_ge (b := 3) (by omega) (by omega)), fun _ => ?_⟩
      conv => whnf
      exact inner i (by omega) (fun u σ2 hu hf2 hl2 => ih (i + 1) u σ2 (by omega) hu hf2 hl2) 3 0 0 σ1 rfl rfl hf (fun t ht => hl t (by omega))
  refine hw 60 _ _ _ _ _ ?_
  conv => whnf
  exact outer 3 0 0 σ rfl rfl (am_fr_rf _ _) (fun j hj => absurd hj (by omega))
def sw_c32 (w : Nat) : Int32 := if w = 0 then 0 else 1
def tr_gainFirst : am_T := fun as L σ post => ∃ a b, as = [.ref 0, .int (nI a), .int (nI b)] ∧ L = LC ∧ a < 3 ∧ b < 3 ∧ post (some (.int (σ 43 (a * 3 + b) - sw_c32 a))) L σ
theorem ct_gainFirst (l : Launch) : am_Ct l 0 yX6_gainOfFirst cX6_gainOfFirst 3 (some .int) tr_gainFirst := by
  refine am_ct tbX6_gainOfFirst (am_G []) (by decide +kernel) (by simp) rfl dtX6_gainOfFirst rfl ckX6_gainOfFirst lkX6_gainOfFirst (am_nocalls rfl) ?_
  intro as L σ post h
  obtain ⟨a, b, rfl, rfl, ha, hb, h⟩ := h
  refine ⟨by simp [am_lv0], fun WW hw => hw 60 _ _ _ _ _ ?_⟩
  have hin : vp_in (nI a * 3 + nI b) 9 := by rw [show nI a * 3 = nI (a * 3) from pk_mul a 3, nI_add]; exact vp_j (by omega) (by decide)
  have hcl : (nI a * 3 + nI b).toNatClampNeg = a * 3 + b := by rw [show nI a * 3 = nI (a * 3) from pk_mul a 3, nI_add, nI_cl (by omega)]
  have hz : nI a = 0 ↔ a = 0 := nI_eq' (b := 0) (by omega) (by decide)
  repeat ((conv => whnf); refine And.intro ?_ ?_; first | with_reducible assumption | decide)
  conv => whnf
  rw [hcl, hz]
  refine ⟨fun c => ?_, fun c => ?_⟩
  · conv => whnf
    rw [show sw_c32 a = 1 from if_neg c] at h
    exact h
  · conv => whnf
    rw [show sw_c32 a = 0 from if_pos c] at h
    exact h
def tr_gainOther : am_T := fun as L σ post => ∃ a b, as = [.ref 0, .int (nI a), .int (nI b)] ∧ L = LC ∧ a < 3 ∧ b < 3 ∧ post (some (.int (-(σ 43 (a * 3 + b)) - sw_c32 b))) L σ
theorem ct_gainOther (l : Launch) : am_Ct l 0 yX6_gainOfOther cX6_gainOfOther 3 (some .int) tr_gainOther := by
  refine am_ct tbX6_gainOfOther (am_G []) (by decide +kernel) (by simp) rfl dtX6_gainOfOther rfl ckX6_gainOfOther lkX6_gainOfOther (am_nocalls rfl) ?_
  intro as L σ post h
  obtain ⟨a, b, rfl, rfl, ha, hb, h⟩ := h
  refine ⟨by simp [am_lv0], fun WW hw => hw 60 _ _ _ _ _ ?_⟩
  have hin : vp_in (nI a * 3 + nI b) 9 := by rw [show nI a * 3 = nI (a * 3) from pk_mul a 3, nI_add]; exact vp_j (by omega) (by decide)
  have hcl : (nI a * 3 + nI b).toNatClampNeg = a * 3 + b := by rw [show nI a * 3 = nI (a * 3) from pk_mul a 3, nI_add, nI_cl (by omega)]
  have hz : nI b = 0 ↔ b = 0 := nI_eq' (b := 0) (by omega) (by decide)
  repeat ((conv => whnf); refine And.intro ?_ ?_; first | with_reducible assumption | decide)
  conv => whnf
  rw [hcl, hz]
  refine ⟨fun c => ?_, fun c => ?_⟩
  · conv => whnf
    rw [show sw_c32 b = 1 from if_neg c] at h
    exact h
  · conv => whnf
    rw [show sw_c32 b = 0 from if_pos c] at h
    exact h
