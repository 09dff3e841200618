/-! THE REFERENCE: what was read becomes the land -/
def bR (cn st mn m R : Nat) (σ σ1 : am_M) : Prop := fm [1, 2, 3, 4, 5] [0, 1, 2, 3, 7] σ σ1 ∧ σ1 0 0 = nI cn ∧ σ1 0 1 = nI st ∧ σ1 0 2 = nI mn ∧ σ1 0 3 = nI m ∧ σ1 0 7 = nI R
theorem bR_up {cn st mn m R : Nat} {σ σ1 : am_M} {p : Nat} (f : Nat → Int32) (h : bR cn st mn m R σ σ1) (hp : p ∈ [1, 2, 3, 4, 5]) (h0 : ¬ p = 0) : bR cn st mn m R σ (am_up σ1 p f) := by
  obtain ⟨h1, h2, h3, h4, h5, h6⟩ := h
  exact ⟨fm_up f h1 hp h0, by rw [am_un _ _ _ _ (fun e => h0 e.symm)]; exact h2, by rw [am_un _ _ _ _ (fun e => h0 e.symm)]; exact h3, by rw [am_un _ _ _ _ (fun e => h0 e.symm)]; exact h4, by rw [am_un _ _ _ _ (fun e => h0 e.symm)]; exact h5, by rw [am_un _ _ _ _ (fun e => h0 e.symm)]; exact h6⟩
def tr_mtakeRead : am_T := fun as L σ post => ∃ (G : ps_G), as = [.ref 0] ∧ L = LM ∧ pM G σ ∧ okG G ∧ ∀ σ', fm [1, 2, 3, 4, 5] [0, 1, 2, 3, 7] σ σ' → rmD (ps_D G) σ' → sw_FM σ' (ps_nB G) (ps_F G) → post none L σ'
set_option maxHeartbeats 2000000 in
theorem ct_mtakeRead (l : Launch) : am_Ct l 0 yX7_takeRead cX7_takeRead 2 none tr_mtakeRead := by
  refine am_ct tbX7_takeRead (am_G []) (by decide +kernel) (by simp) rfl dtX7_takeRead rfl ckX7_takeRead lkX7_takeRead (am_nocalls rfl) ?_
  intro as L σ post h
  obtain ⟨⟨cn, st, mn, m, c, e, n, f, k, R, rn⟩, rfl, rfl, hG, hok, h⟩ := h
  refine ⟨by simp [am_lv0], fun WW hw => ?_⟩
  obtain ⟨g1, g2, g3, g4, g5, g6, g7⟩ := hG
  obtain ⟨o1, o2, -, -, -, -, -, o8, -⟩ := hok
  have hR' : 0 < (if R = 0 then 1 else R) ∧ (if R = 0 then 1 else R) ≤ 8 := by split <;> omega
  generalize hRR : (if R = 0 then 1 else R) = R' at hR'
  generalize hrr : (if R = 0 then fun _ => 5 else rn) = rn'
  have h : ∀ σ', fm [1, 2, 3, 4, 5] [0, 1, 2, 3, 7] σ σ' → rmD (cn, st, mn, m, c, e, k, R', rn') σ' → sw_FM σ' m (n, fun _ => 0, f, 0, 0, 0) → post none LM σ' := by
    intro σ' a b d
    refine h σ' a ?_ d
    show rmD (cn, st, mn, m, c, e, k, (if R = 0 then 1 else R), (if R = 0 then fun _ => 5 else rn)) σ'
    rw [hRR, hrr]; exact b
  have L3 : ∀ d b σ1, d + b = m → bR cn st mn m R' σ σ1 → (∀ t, t < R' → σ1 4 t = nI (rn' t)) → (∀ j, j < b → σ1 1 j = nI (c j) ∧ σ1 2 j = nI (e j) ∧ σ1 3 j = nI (k j)) → (∀ q, q < 27 → σ1 5 q = if q < b then nI (n q) else if 16 ≤ q ∧ q < 16 + b then nI (f (q - 16)) else 0) → WW 71 [some (.ref 0), some (.int (nI b))] [] LM σ1 := by
    intro d
    induction d with
    | zero =>
      intro b σ1 hd hb h4 h123 h5
      have eb : b = m := by omega
      subst eb
      refine hw 60 _ _ _ _ _ ?_
      conv => whnf
      rw [hb.2.2.2.2.1]
      refine ⟨fun _ => ?_, fun c => absurd (Int32.le_refl _) c⟩
      conv => whnf
      refine h σ1 hb.1 ⟨⟨hb.2.2.2.2.1, hb.2.1, fun j hj => (h123 j hj).1, fun j hj => (h123 j hj).2.1, fun j hj => (h123 j hj).2.2⟩, hb.2.2.1, hb.2.2.2.1, hb.2.2.2.2.2, h4⟩ ⟨fun j hj => ?_, fun j hj => ?_, fun j hj => ?_, ?_, ?_, ?_⟩
      · rw [h5 j (by omega), if_pos hj]
      · rw [h5 (8 + j) (by omega), if_neg (by omega), if_neg (by omega)]; rfl
      · rw [h5 (16 + j) (by omega), if_neg (by omega), if_pos (by omega), show 16 + j - 16 = j by omega]
      · rw [h5 24 (by omega), if_neg (by omega), if_neg (by omega)]
      · rw [h5 25 (by omega), if_neg (by omega), if_neg (by omega)]; rfl
      · rw [h5 26 (by omega), if_neg (by omega), if_neg (by omega)]; rfl
    | succ d ih =>
      intro b σ1 hd hb h4 h123 h5
      have hbm : b < m := by omega
      obtain ⟨w1, w2, w3, w4, w5⟩ := g6 b hbm
      have v8 : vp_in (nI b) 8 := vp_j (by omega) (by decide)
      have v27 : vp_in (nI b) 27 := vp_j (by omega) (by decide)
      have v16 : vp_in (16 + nI b) 27 := by rw [nI_16]; exact vp_j (by omega) (by decide)
      have c1 : (nI b).toNatClampNeg = b := nI_cl (by omega)
      have c16 : (16 + nI b).toNatClampNeg = 16 + b := by rw [nI_16]; exact nI_cl (by omega)
      have k8 : σ1 8 b = nI (c b) := by rw [fm_d hb.1 8 rfl (by decide)]; exact w1
      have k9 : σ1 9 b = nI (e b) := by rw [fm_d hb.1 9 rfl (by decide)]; exact w2
      have k10 : σ1 10 b = nI (n b) := by rw [fm_d hb.1 10 rfl (by decide)]; exact w3
      have k11 : σ1 11 b = nI (f b) := by rw [fm_d hb.1 11 rfl (by decide)]; exact w4
      have k12 : σ1 12 b = nI (k b) := by rw [fm_d hb.1 12 rfl (by decide)]; exact w5
      refine hw 80 _ _ _ _ _ ?_
      conv => whnf
      rw [hb.2.2.2.2.1]
      refine ⟨fun c => absurd c (nI_ge hbm (by omega)), fun _ => ?_⟩
      repeat ((conv => whnf); refine And.intro ?_ ?_; first | with_reducible assumption | decide)
      conv => whnf
      simp only [c1, c16, nI_1, am_us, am_un _ _ _ _ (show ¬ 9 = 1 by decide), am_un _ _ _ _ (show ¬ 12 = 1 by decide), am_un _ _ _ _ (show ¬ 12 = 2 by decide), am_un _ _ _ _ (show ¬ 10 = 1 by decide), am_un _ _ _ _ (show ¬ 10 = 2 by decide), am_un _ _ _ _ (show ¬ 10 = 3 by decide), am_un _ _ _ _ (show ¬ 11 = 1 by decide), am_un _ _ _ _ (show ¬ 11 = 2 by decide), am_un _ _ _ _ (show ¬ 11 = 3 by decide), am_un _ _ _ _ (show ¬ 11 = 5 by decide), am_un _ _ _ _ (show ¬ 2 = 1 by decide), am_un _ _ _ _ (show ¬ 3 = 1 by decide), am_un _ _ _ _ (show ¬ 3 = 2 by decide), am_un _ _ _ _ (show ¬ 5 = 1 by decide), am_un _ _ _ _ (show ¬ 5 = 2 by decide), am_un _ _ _ _ (show ¬ 5 = 3 by decide), k8, k9, k10, k11, k12, cond_false]
      refine ih (b + 1) _ (by omega) (bR_up _ (bR_up _ (bR_up _ (bR_up _ (bR_up _ hb (by decide) (by decide)) (by decide) (by decide)) (by decide) (by decide)) (by decide) (by decide)) (by decide) (by decide)) (fun t ht => ?_) (fun j hj => ?_) (fun q hq => ?_)
      · simp only [am_un _ _ _ _ (show ¬ 4 = 1 by decide), am_un _ _ _ _ (show ¬ 4 = 2 by decide), am_un _ _ _ _ (show ¬ 4 = 3 by decide), am_un _ _ _ _ (show ¬ 4 = 5 by decide)]
        exact h4 t ht
      · simp only [am_us, am_un _ _ _ _ (show ¬ 1 = 2 by decide), am_un _ _ _ _ (show ¬ 1 = 3 by decide), am_un _ _ _ _ (show ¬ 1 = 5 by decide), am_un _ _ _ _ (show ¬ 2 = 3 by decide), am_un _ _ _ _ (show ¬ 2 = 5 by decide), am_un _ _ _ _ (show ¬ 3 = 5 by decide)]
        by_cases ej : j = b
        · subst ej; rw [up_s, up_s, up_s]; exact ⟨rfl, rfl, rfl⟩
        · rw [up_n _ _ _ _ ej, up_n _ _ _ _ ej, up_n _ _ _ _ ej]; exact h123 j (by omega)
      · rw [am_us]
        by_cases e1 : q = 16 + b
        · subst e1; rw [up_s, if_neg (by omega), if_pos (by omega), show 16 + b - 16 = b by omega]
        · rw [up_n _ _ _ _ e1]
          by_cases e2 : q = b
          · subst e2; rw [up_s, if_pos (by omega)]
          · rw [up_n _ _ _ _ e2, h5 q hq]
            by_cases e3 : q < b
            · rw [if_pos e3, if_pos (by omega)]
            · rw [if_neg e3, if_neg (show ¬ q < b + 1 by omega)]
              by_cases e4 : 16 ≤ q ∧ q < 16 + b
              · rw [if_pos e4, if_pos (by omega)]
              · rw [if_neg e4, if_neg (by omega)]
  have L2 : ∀ d i σ1, d + i = 27 → bR cn st mn m R' σ σ1 → (∀ t, t < R' → σ1 4 t = nI (rn' t)) → (∀ q, q < i → σ1 5 q = 0) → WW 58 [some (.ref 0), some (.int (nI i))] [] LM σ1 := by
    intro d
    induction d with
    | zero =>
      intro i σ1 hd hb h4 h5
      have ei : i = 27 := by omega
      subst ei
      refine hw 60 _ _ _ _ _ ?_
      conv => whnf
      refine ⟨fun _ => ?_, fun c => absurd (Int32.le_refl _) c⟩
      conv => whnf
      exact L3 m 0 σ1 (by omega) hb h4 (fun j hj => absurd hj (by omega)) (fun q hq => by rw [if_neg (by omega), if_neg (by omega)]; exact h5 q hq)
    | succ d ih =>
      intro i σ1 hd hb h4 h5
      have v1 : vp_in (nI i) 27 := vp_j (by omega) (by decide)
      have c1 : (nI i).toNatClampNeg = i := nI_cl (by omega)
      refine hw 60 _ _ _ _ _ ?_
      conv => whnf
      refine ⟨fun c => absurd c (nI_ge (b := 27) (by omega) (by decide)), fun _ => ?_⟩
      repeat ((conv => whnf); refine And.intro ?_ ?_; first | with_reducible assumption | decide)
      conv => whnf
      rw [c1, nI_1, cond_false]
      refine ih (i + 1) _ (by omega) (bR_up _ hb (by decide) (by decide)) (fun t ht => ?_) (fun q hq => ?_)
      · rw [am_un _ _ _ _ (by decide)]; exact h4 t ht
      · rw [am_us]
        by_cases eq : q = i
        · subst eq; rw [up_s]
        · rw [up_n _ _ _ _ eq]; exact h5 q (by omega)
  have L1 : ∀ d i σ1, d + i = R' → bR cn st mn m R' σ σ1 → (∀ t, t < i → σ1 4 t = nI (rn' t)) → WW 35 [some (.ref 0), some (.int (nI i))] [] LM σ1 := by
    intro d
    induction d with
    | zero =>
      intro i σ1 hd hb h4
      have ei : i = R' := by omega
      subst ei
      refine hw 60 _ _ _ _ _ ?_
      conv => whnf
      rw [hb.2.2.2.2.2]
      refine ⟨fun _ => ?_, fun c => absurd (Int32.le_refl _) c⟩
      conv => whnf
      exact L2 27 0 σ1 (by omega) hb h4 (fun q hq => absurd hq (by omega))
    | succ d ih =>
      intro i σ1 hd hb h4
      have v1 : vp_in (nI i) 8 := vp_j (by omega) (by decide)
      have c1 : (nI i).toNatClampNeg = i := nI_cl (by omega)
      have l0 : nI R ≤ 0 ↔ R ≤ 0 := nI_le' (b := 0) (by omega) (by decide)
      have k24 : σ1 0 24 = nI R := (fm_k hb.1 24 rfl).trans g5
      have M52 : ∀ v : Int32, v = nI (rn' i) → WW 52 [some (.ref 0), some (.int (nI i))] [.int v, .int (nI i), .ref 4] LM σ1 := by
        intro v hv
        subst hv
        refine hw 60 _ _ _ _ _ ?_
        repeat ((conv => whnf); refine And.intro ?_ ?_; first | with_reducible assumption | decide)
        conv => whnf
        rw [c1, nI_1, cond_false]
        refine ih (i + 1) _ (by omega) (bR_up _ hb (by decide) (by decide)) (fun t ht => ?_)
        rw [am_us]
        by_cases et : t = i
        · subst et; rw [up_s]
        · rw [up_n _ _ _ _ et]; exact h4 t (by omega)
      refine hw 60 _ _ _ _ _ ?_
      conv => whnf
      rw [hb.2.2.2.2.2]
      refine ⟨fun c => absurd c (nI_ge (by omega) (by omega)), fun _ => ?_⟩
      conv => whnf
      rw [k24, l0]
      refine ⟨fun c0 => ?_, fun c0 => ?_⟩
      · conv => whnf
        refine M52 _ ?_
        rw [← hrr, if_pos (by omega)]; rfl
      · repeat ((conv => whnf); refine And.intro ?_ ?_; first | with_reducible assumption | decide)
        conv => whnf
        refine M52 _ ?_
        rw [if_neg (by omega)] at hRR
        rw [c1, fm_d hb.1 13 rfl (by decide), ← hrr, if_neg (by omega)]
        exact g7 i (by omega)
  have v0 : vp_in (0 : Int32) 3 := vp_j (j := 0) (by decide) (by decide)
  have v1 : vp_in (1 : Int32) 3 := vp_j (j := 1) (by decide) (by decide)
  have v2 : vp_in (2 : Int32) 3 := vp_j (j := 2) (by decide) (by decide)
  have c0' : (0 : Int32).toNatClampNeg = 0 := by decide
  have c1' : (1 : Int32).toNatClampNeg = 1 := by decide
  have c2' : (2 : Int32).toNatClampNeg = 2 := by decide
  have l0 : nI R ≤ 0 ↔ R ≤ 0 := nI_le' (b := 0) (by omega) (by decide)
  have M31 : ∀ (v : Int32) (σ1 : am_M), v = nI R' → fm [1, 2, 3, 4, 5] [0, 1, 2, 3, 7] σ σ1 → σ1 0 0 = nI cn → σ1 0 1 = nI st → σ1 0 2 = nI mn → σ1 0 3 = nI m → WW 31 [some (.ref 0)] [.int v, .ref 0] LM σ1 := by
    intro v σ1 hv hf q0 q1 q2 q3
    subst hv
    refine hw 60 _ _ _ _ _ ?_
    conv => whnf
    refine L1 R' 0 (am_w σ1 0 7 (nI R')) (by omega) ⟨fm_w0 hf (by decide), ?_, ?_, ?_, ?_, aw_s _ _ _ _⟩ (fun t ht => absurd ht (by omega))
    · rw [aw_k _ _ _ _ _ (by decide)]; exact q0
    · rw [aw_k _ _ _ _ _ (by decide)]; exact q1
    · rw [aw_k _ _ _ _ _ (by decide)]; exact q2
    · rw [aw_k _ _ _ _ _ (by decide)]; exact q3
  refine hw 60 _ _ _ _ _ ?_
  repeat ((conv => whnf); refine And.intro ?_ ?_; first | with_reducible assumption | decide)
  conv => whnf
  simp only [c0', c1', c2', am_us, am_un _ _ _ _ (show ¬ 7 = 0 by decide), g1, g2, g3]
  simp only [up_n _ _ _ _ (show ¬ 18 = 2 by decide), up_n _ _ _ _ (show ¬ 18 = 1 by decide), up_n _ _ _ _ (show ¬ 18 = 0 by decide), up_n _ _ _ _ (show ¬ 24 = 3 by decide), up_n _ _ _ _ (show ¬ 24 = 2 by decide), up_n _ _ _ _ (show ¬ 24 = 1 by decide), up_n _ _ _ _ (show ¬ 24 = 0 by decide), g4, g5]
  rw [l0]
  have fin : ∀ v : Int32, v = nI R' → WW 31 [some (.ref 0)] [.int v, .ref 0] LM (am_w (am_w (am_w (am_w σ 0 0 (nI cn)) 0 1 (nI st)) 0 2 (nI mn)) 0 3 (nI m)) := by
    intro v hv
    refine M31 v _ hv (fm_w0 (fm_w0 (fm_w0 (fm_w0 (fm_rf _ _ _) (by decide)) (by decide)) (by decide)) (by decide)) ?_ ?_ ?_ (aw_s _ _ _ _)
    · rw [aw_k _ _ _ _ _ (by decide), aw_k _ _ _ _ _ (by decide), aw_k _ _ _ _ _ (by decide), aw_s]
    · rw [aw_k _ _ _ _ _ (by decide), aw_k _ _ _ _ _ (by decide), aw_s]
    · rw [aw_k _ _ _ _ _ (by decide), aw_s]
  simp only [am_w, am_us] at fin
  refine ⟨fun c0 => ?_, fun c0 => ?_⟩
  · conv => whnf
    exact fin _ (by rw [← hRR, if_pos (by omega)]; rfl)
  · conv => whnf
    refine fin _ ?_
    rw [← hRR, if_neg (by omega), am_us, up_n _ _ _ _ (by decide), up_n _ _ _ _ (by decide), up_n _ _ _ _ (by decide), up_n _ _ _ _ (by decide)]
    exact g5
