/-! THE REFERENCE reads a text: letters and numbers -/
def mT (tl : Nat) (tx : Nat → Nat) (σ : am_M) : Prop := σ 0 12 = nI tl ∧ ∀ j, j < tl → σ 6 j = nI (tx j)
theorem mT_fr {tl : Nat} {tx : Nat → Nat} {σ σ' : am_M} (h1 : σ' 0 12 = σ 0 12) (h2 : σ' 6 = σ 6) (h : mT tl tx σ) : mT tl tx σ' := ⟨by rw [h1]; exact h.1, by rw [h2]; exact h.2⟩
def tr_mhere : am_T := fun as L σ post => ∃ (tl : Nat) (tx : Nat → Nat) (p : Nat), as = [.ref 0] ∧ L = LM ∧ okT tl tx ∧ mT tl tx σ ∧ p ≤ tl ∧ σ 0 14 = nI p ∧ ∀ σ', fm [] [14] σ σ' → σ' 0 14 = nI (ps_sk tl tx p) → post (some (.int (ps_let tl tx (ps_sk tl tx p)))) L σ'
theorem ct_mhere (l : Launch) : am_Ct l 0 yX7_here cX7_here 1 (some .int) tr_mhere := by
  refine am_ct tbX7_here (am_G []) (by decide +kernel) (by simp) rfl dtX7_here rfl ckX7_here lkX7_here (am_nocalls rfl) ?_
  intro as L σ post h
  obtain ⟨tl, tx, p, rfl, rfl, ⟨hT1, hT2⟩, hc, hp, e1, h⟩ := h
  refine ⟨by simp [am_lv0], fun WW hw => ?_⟩
  have loop : ∀ d p1 σ1, p1 + d = tl → fm [] [14] σ σ1 → σ1 0 14 = nI p1 → ps_sk tl tx p1 = ps_sk tl tx p → WW 1 [some (.ref 0)] [] LM σ1 := by
    intro d
    induction d with
    | zero =>
      intro p1 σ1 hd hf e2 hs
      have l1 : σ1 0 12 = nI tl := (fm_k hf 12 rfl).trans hc.1
      have hsk : ps_sk tl tx p1 = p1 := ps_to_e (fun hh => by have := hh.1; omega)
      have le : nI tl ≤ nI p1 := (nI_le' (by omega) (by omega)).2 (by omega)
      have hlet : ps_let tl tx (ps_sk tl tx p) = -1 := by rw [← hs, hsk]; exact if_neg (by omega)
      have h := h σ1 hf (by rw [← hs, hsk]; exact e2)
      rw [hlet] at h
      refine hw 60 _ _ _ _ _ ?_
      conv => whnf
      rw [l1, e2]
      refine ⟨fun _ => ?_, fun c => absurd le c⟩
      conv => whnf
      rw [l1, e2]
      refine ⟨fun _ => ?_, fun c => absurd le c⟩
      conv => whnf
      exact h
    | succ d ih =>
      intro p1 σ1 hd hf e2 hs
      have hlt : p1 < tl := by omega
      have l1 : σ1 0 12 = nI tl := (fm_k hf 12 rfl).trans hc.1
      have nle : ¬ nI tl ≤ nI p1 := fun q => by have := (nI_le' (a := tl) (b := p1) (by omega) (by omega)).1 q; omega
      have vin : vp_in (nI p1) 240 := vp_j (by omega) (by decide)
      have hcl : (nI p1).toNatClampNeg = p1 := nI_cl (by omega)
      have lett : σ1 6 p1 = nI (tx p1) := by rw [fm_d hf 6 rfl (by decide)]; exact hc.2 p1 hlt
      have hb := hT2 p1 hlt
      have b32 : nI (tx p1) = 32 ↔ tx p1 = 32 := nI_eq' (b := 32) (by omega) (by decide)
      refine hw 60 _ _ _ _ _ ?_
      conv => whnf
      rw [l1, e2]
      refine ⟨fun c => absurd c nle, fun _ => ?_⟩
      conv => whnf
      rw [e2]
      refine ⟨vin, ?_⟩
      conv => whnf
      rw [hcl, lett, b32]
      refine ⟨fun cc => ?_, fun cc => ?_⟩
      · have hsk : ps_sk tl tx p1 = p1 := ps_to_e (fun hh => cc (by simpa [ps_b] using hh.2))
        have hlet : ps_let tl tx (ps_sk tl tx p) = nI (tx p1) := by rw [← hs, hsk]; exact if_pos hlt
        have h := h σ1 hf (by rw [← hs, hsk]; exact e2)
        rw [hlet] at h
        conv => whnf
        rw [l1, e2]
        refine ⟨fun c => absurd c nle, fun _ => ?_⟩
        conv => whnf
        rw [e2]
        refine ⟨vin, ?_⟩
        conv => whnf
        rw [hcl, lett]
        exact h
      · conv => whnf
        rw [e2, nI_1]
        refine ih (p1 + 1) (am_w σ1 0 14 (nI (p1 + 1))) (by omega) (fm_w0 hf (by decide)) (aw_s _ _ _ _) ?_
        rw [← hs]
        exact (ps_to_s hlt (by simpa [ps_b] using cc)).symm
  refine hw 60 _ _ _ _ _ ?_
  conv => whnf
  exact loop (tl - p) p σ (by omega) (fm_rf _ _ _) e1 rfl
def tr_mfails : am_T := fun as L σ post => ∃ x y, as = [.ref 0, .int x, .int y] ∧ L = LM ∧ ∀ σ', fm [] [13] σ σ' → σ' 0 13 = y → post (some (.int x)) L σ'
theorem ct_mfails (l : Launch) : am_Ct l 0 yX7_fails cX7_fails 3 (some .int) tr_mfails := by
  refine am_ct tbX7_fails (am_G []) (by decide +kernel) (by simp) rfl dtX7_fails rfl ckX7_fails lkX7_fails (am_nocalls rfl) ?_
  intro as L σ post h
  obtain ⟨x, y, rfl, rfl, h⟩ := h
  refine ⟨by simp [am_lv0], fun WW hw => hw 60 _ _ _ _ _ ?_⟩
  conv => whnf
  exact h (am_w σ 0 13 y) (fm_w0 (fm_rf _ _ _) (by decide)) (aw_s _ _ _ _)
def nM (q : Nat) (o : ps_X Nat) (σ : am_M) (post : am_P) : Prop := match o with
  | .error x => ∀ σ', fm [] [13, 14, 15, 16] σ σ' → σ' 0 13 = nI x.2 → post (some (.int (nI x.1))) LM σ'
  | .ok x => ∀ σ', fm [] [14, 15, 16] σ σ' → σ' 0 14 = nI x.2 → σ' 0 15 = nI x.1 → σ' 0 16 = nI q → post (some (.int 0)) LM σ'
def tr_mtakeNumber : am_T := fun as L σ post => ∃ (tl : Nat) (tx : Nat → Nat) (lo hi p : Nat), as = [.ref 0, .int (nI lo), .int (nI hi)] ∧ L = LM ∧ okT tl tx ∧ mT tl tx σ ∧ p ≤ tl ∧ σ 0 14 = nI p ∧ lo < 1000 ∧ hi < 1000 ∧ nM (ps_sk tl tx p) (ps_num tl tx lo hi p) σ post
set_option maxHeartbeats 1000000 in
theorem ct_mtakeNumber (l : Launch) : am_Ct l 1 yX7_takeNumber cX7_takeNumber 4 (some .int) tr_mtakeNumber := by
  refine am_ct tbX7_takeNumber (am_G [tr_mhere, tr_min, tr_mfails]) (by decide +kernel) (by simp) rfl dtX7_takeNumber rfl ckX7_takeNumber lkX7_takeNumber (am_cokF [(1, some (.invokevirtual 116), 0, 1, 7, 0), (13, some (.invokestatic 99), 1, 3, 0, 0), (25, some (.invokevirtual 124), 2, 3, 7, 0), (69, some (.invokestatic 99), 1, 3, 0, 0), (151, some (.invokestatic 99), 1, 3, 0, 0), (163, some (.invokevirtual 124), 2, 3, 7, 0)] rfl (List.forall_mem_cons.mpr ⟨⟨0, _, _, _, _, by decide, (ct_mhere l), lnX7_116⟩, List.forall_mem_cons.mpr ⟨Or.inr (Or.inr (Or.inr ⟨0, _, _, _, _, by decide, (ct_min l), lnX7_99⟩)), List.forall_mem_cons.mpr ⟨⟨0, _, _, _, _, by decide, (ct_mfails l), lnX7_124⟩, List.forall_mem_cons.mpr ⟨Or.inr (Or.inr (Or.inr ⟨0, _, _, _, _, by decide, (ct_min l), lnX7_99⟩)), List.forall_mem_cons.mpr ⟨Or.inr (Or.inr (Or.inr ⟨0, _, _, _, _, by decide, (ct_min l), lnX7_99⟩)), List.forall_mem_cons.mpr ⟨⟨0, _, _, _, _, by decide, (ct_mfails l), lnX7_124⟩, fun _ h => absurd h List.not_mem_nil⟩⟩⟩⟩⟩⟩)) ?_
  intro as L σ post h
  obtain ⟨tl, tx, lo, hi, p, rfl, rfl, ⟨hT1, hT2⟩, hc, hp, e1, hlo, hhi, h⟩ := h
  refine ⟨by simp [am_lv0], fun WW hw => ?_⟩
  obtain ⟨s1, s2⟩ := ps_sk_f (tl := tl) (tx := tx) (p := p)
  have s2 := s2 hp
  unfold ps_num at h
  generalize hq : ps_sk tl tx p = q at h s1 s2
  have M68 : ∀ (c : Int32) (r : Nat) (σ1 : am_M), q < tl → ps_d tx q = true → r = ps_dg tl tx q → fm [] [14, 15, 16] σ σ1 → σ1 0 14 = nI r → σ1 0 16 = nI q → (r - q ≤ 3 → σ1 0 15 = nI (ps_val tx q (r - q))) → WW 68 [some (.ref 0), some (.int (nI lo)), some (.int (nI hi)), some (.int c)] [] LM σ1 := by
    intro c r σ1 hq1 hq2 hr hf e2 e3 hv
    have r1 := ps_to_f (P := ps_d tx) (tl := tl) (p := q)
    have r2 : q ≤ r := by rw [hr]; exact r1.1
    have r3 : r ≤ tl := by rw [hr]; exact r1.2.1 s2
    rw [if_pos ⟨hq1, hq2⟩, ← hr] at h
    have bad : (3 < r - q ∨ ps_val tx q (r - q) < lo ∨ hi < ps_val tx q (r - q)) → ∀ σ', fm [] [13] σ1 σ' → σ' 0 13 = nI q → post (some (.int 2)) LM σ' := by
      intro hb σ' hf' h3
      rw [if_pos hb] at h
      exact h σ' (fm_tr (fm_tr (fm_rf _ _ _) hf (by decide) (by decide)) hf' (by decide) (by decide)) h3
    have c3 : 3 < nI (r - q) ↔ 3 < r - q := nI_lt' (a := 3) (by decide) (by omega)
    refine hw 60 _ _ _ _ _ ?_
    conv => whnf
    rw [e2, e3, pk_sub r2, c3]
    refine ⟨fun c1 => ?_, fun c1 => ?_⟩
    · conv => whnf
      rw [e3]
      refine ⟨_, _, rfl, rfl, fun σ2 hf2 h3 => ?_⟩
      conv => whnf
      exact bad (Or.inl c1) σ2 hf2 h3
    · have hv := hv (by omega)
      have vb := ps_val_le (q := q) (j := r - q) hT2 (by omega) (by omega)
      conv => whnf
      rw [hv]
      refine ⟨_, _, _, ((ps_val tx q (r - q) : Nat) : Int), ((lo : Nat) : Int), ((hi : Nat) : Int), rfl, by rw [Int32.toInt_toInt64, nI_toInt (by omega)], by rw [Int32.toInt_toInt64, nI_toInt (by omega)], by rw [Int32.toInt_toInt64, nI_toInt (by omega)], ?_⟩
      by_cases hb : (lo : Int) ≤ (ps_val tx q (r - q) : Int) ∧ (ps_val tx q (r - q) : Int) ≤ (hi : Int)
      · rw [decide_eq_true hb]
        rw [if_neg (by omega)] at h
        conv => whnf
        refine ⟨fun _ => ?_, fun c => absurd c (by decide)⟩
        conv => whnf
        exact h σ1 hf e2 hv e3
      · rw [decide_eq_false hb]
        conv => whnf
        refine ⟨fun c => absurd rfl c, fun _ => ?_⟩
        conv => whnf
        rw [e3]
        refine ⟨_, _, rfl, rfl, fun σ2 hf2 h3 => ?_⟩
        conv => whnf
        exact bad (by omega) σ2 hf2 h3
  have loop : ∀ (d r : Nat) (c : Int32) (σ1 : am_M), r + d = tl → q < tl → ps_d tx q = true → q ≤ r → ps_dg tl tx r = ps_dg tl tx q → fm [] [14, 15, 16] σ σ1 → σ1 0 14 = nI r → σ1 0 16 = nI q → (r - q ≤ 3 → σ1 0 15 = nI (ps_val tx q (r - q))) → WW 23 [some (.ref 0), some (.int (nI lo)), some (.int (nI hi)), some (.int c)] [] LM σ1 := by
    intro d
    induction d with
    | zero =>
      intro r c σ1 hd hq1 hq2 hqr hdg hf e2 e3 hv
      have l1 : σ1 0 12 = nI tl := (fm_k hf 12 rfl).trans hc.1
      have le : nI tl ≤ nI r := (nI_le' (by omega) (by omega)).2 (by omega)
      have hdr : ps_dg tl tx r = r := ps_to_e (fun hh => by have := hh.1; omega)
      refine hw 60 _ _ _ _ _ ?_
      conv => whnf
      rw [l1, e2]
      refine ⟨fun _ => ?_, fun c => absurd le c⟩
      conv => whnf
      exact M68 c r σ1 hq1 hq2 (by rw [← hdg, hdr]) hf e2 e3 hv
    | succ d ih =>
      intro r c σ1 hd hq1 hq2 hqr hdg hf e2 e3 hv
      have hlt : r < tl := by omega
      have l1 : σ1 0 12 = nI tl := (fm_k hf 12 rfl).trans hc.1
      have nle : ¬ nI tl ≤ nI r := fun q => by have := (nI_le' (a := tl) (b := r) (by omega) (by omega)).1 q; omega
      have vin : vp_in (nI r) 240 := vp_j (by omega) (by decide)
      have hcl : (nI r).toNatClampNeg = r := nI_cl (by omega)
      have lett : σ1 6 r = nI (tx r) := by rw [fm_d hf 6 rfl (by decide)]; exact hc.2 r hlt
      have hb := hT2 r hlt
      have M59 : ps_d tx r = true → ∀ v' : Int32, (r + 1 - q ≤ 3 → v' = nI (ps_val tx q (r + 1 - q))) → WW 59 [some (.ref 0), some (.int (nI lo)), some (.int (nI hi)), some (.int c)] [.int v', .ref 0] LM σ1 := by
        intro hd1 v' hv'
        refine hw 60 _ _ _ _ _ ?_
        conv => whnf
        rw [am_us, up_n _ _ _ _ (by decide), e2, nI_1]
        refine ih (r + 1) c (am_w (am_w σ1 0 15 v') 0 14 (nI (r + 1))) (by omega) hq1 hq2 (by omega) ((ps_to_s hlt hd1).symm.trans hdg) (fm_w0 (fm_w0 hf (by decide)) (by decide)) (aw_s _ _ _ _) ?_ (fun h3 => ?_)
        · rw [aw_k _ _ _ _ _ (by decide), aw_k _ _ _ _ _ (by decide)]; exact e3
        · rw [aw_k _ _ _ _ _ (by decide), aw_s]; exact hv' h3
      refine hw 100 _ _ _ _ _ ?_
      conv => whnf
      rw [l1, e2]
      refine ⟨fun c => absurd c nle, fun _ => ?_⟩
      conv => whnf
      rw [e2]
      refine ⟨vin, ?_⟩
      conv => whnf
      rw [hcl, lett]
      refine ⟨_, _, _, ((tx r : Nat) : Int), 48, 57, rfl, by rw [Int32.toInt_toInt64, nI_toInt (by omega)], rfl, rfl, ?_⟩
      by_cases hd1 : ps_d tx r = true
      · have hd2 : 48 ≤ tx r ∧ tx r ≤ 57 := by simpa [ps_d] using hd1
        rw [decide_eq_true (by omega)]
        conv => whnf
        refine ⟨fun c => absurd c (by decide), fun _ => ?_⟩
        conv => whnf
        refine ⟨fun c8 => ?_, fun c8 => ?_⟩
        · conv => whnf
          rw [e2]
          refine ⟨vin, ?_⟩
          conv => whnf
          refine M59 hd1 _ (fun h3 => ?_)
          have hv := hv (by omega)
          rw [hcl, lett, hv, show r + 1 - q = (r - q) + 1 by omega, ps_val, show q + (r - q) = r by omega, show 10 * nI (ps_val tx q (r - q)) = nI (10 * ps_val tx q (r - q)) from pk_mul 10 _, nI_add, show nI (10 * ps_val tx q (r - q) + tx r) - 48 = nI (10 * ps_val tx q (r - q) + tx r - 48) from pk_sub (b := 48) (by omega), show 10 * ps_val tx q (r - q) + tx r - 48 = ps_val tx q (r - q) * 10 + (tx r - 48) by omega]
        · conv => whnf
          refine M59 hd1 _ (fun h3 => ?_)
          have hv := hv (by omega)
          have vb := ps_val_le (q := q) (j := r - q) hT2 (by omega) (by omega)
          exfalso
          rw [hv] at c8
          have hsm : ps_val tx q (r - q) ≤ 2277 := by
            have : r - q = 0 ∨ r - q = 1 ∨ r - q = 2 := by omega
            rcases this with hj | hj | hj <;> rw [hj]
            · show 0 ≤ 2277; omega
            · have h0 := hT2 (q + 0) (by omega)
              show 0 * 10 + (tx (q + 0) - 48) ≤ 2277; omega
            · have h0 := hT2 (q + 0) (by omega)
              have h1 := hT2 (q + 1) (by omega)
              show (0 * 10 + (tx (q + 0) - 48)) * 10 + (tx (q + 1) - 48) ≤ 2277; omega
          exact c8 ((nI_le' (b := 10000) (by omega) (by decide)).2 (by omega))
      · have hd2 : ¬ (48 ≤ tx r ∧ tx r ≤ 57) := by simpa [ps_d] using hd1
        rw [decide_eq_false (by omega)]
        have hdr : ps_dg tl tx r = r := ps_to_e (fun hh => hd1 hh.2)
        conv => whnf
        refine ⟨fun _ => ?_, fun c => absurd rfl c⟩
        conv => whnf
        exact M68 c r σ1 hq1 hq2 (by rw [← hdg, hdr]) hf e2 e3 hv
  refine hw 60 _ _ _ _ _ ?_
  conv => whnf
  refine ⟨tl, tx, p, rfl, rfl, ⟨hT1, hT2⟩, hc, hp, e1, fun σ1 hf1 e2 => ?_⟩
  rw [hq] at e2 ⊢
  have hpi : ∃ z : Int, (ps_let tl tx q).toInt = z ∧ ((48 ≤ z ∧ z ≤ 57) ↔ (q < tl ∧ ps_d tx q = true)) := by
    by_cases hlt : q < tl
    · have hb := hT2 q hlt
      refine ⟨(tx q : Int), by rw [show ps_let tl tx q = nI (tx q) from if_pos hlt, nI_toInt (by omega)], ?_⟩
      have : ps_d tx q = true ↔ (48 ≤ tx q ∧ tx q ≤ 57) := by simp [ps_d]
      rw [this]
      constructor
      · intro hh; exact ⟨hlt, by omega⟩
      · intro hh; omega
    · refine ⟨-1, by rw [show ps_let tl tx q = -1 from if_neg hlt]; decide, ?_⟩
      constructor
      · intro hh; omega
      · intro hh; exact absurd hh.1 hlt
  obtain ⟨z, hz1, hz2⟩ := hpi
  generalize ps_let tl tx q = lt at hz1 ⊢
  conv => whnf
  refine ⟨_, _, _, z, 48, 57, rfl, by rw [Int32.toInt_toInt64]; exact hz1, rfl, rfl, ?_⟩
  by_cases hok : q < tl ∧ ps_d tx q = true
  · rw [decide_eq_true (hz2.2 hok)]
    conv => whnf
    refine ⟨fun _ => ?_, fun c => absurd c (by decide)⟩
    conv => whnf
    rw [e2]
    have hf2 : fm [] [14, 15, 16] σ (am_w (am_w σ1 0 16 (nI q)) 0 15 0) := fm_w0 (fm_w0 (fm_tr (fm_rf _ _ _) hf1 (by decide) (by decide)) (by decide)) (by decide)
    refine loop (tl - q) q _ (am_w (am_w σ1 0 16 (nI q)) 0 15 0) (by omega) hok.1 hok.2 (Nat.le_refl q) rfl hf2 ?_ ?_ (fun _ => ?_)
    · rw [aw_k _ _ _ _ _ (by decide), aw_k _ _ _ _ _ (by decide)]; exact e2
    · rw [aw_k _ _ _ _ _ (by decide), aw_s]
    · rw [aw_s, show q - q = 0 by omega]; rfl
  · rw [decide_eq_false (fun hh => hok (hz2.1 hh))]
    rw [if_neg hok] at h
    conv => whnf
    refine ⟨fun c => absurd rfl c, fun _ => ?_⟩
    conv => whnf
    rw [e2]
    refine ⟨_, _, rfl, rfl, fun σ2 hf2 h3 => ?_⟩
    conv => whnf
    exact h σ2 (fm_tr (fm_tr (fm_rf _ _ _) hf1 (by decide) (by decide)) hf2 (by decide) (by decide)) h3
/-- into a row: the place of the row, its length -/
def sw_row (pr n : Nat) : Prop := (pr = 7 ∧ n = 3) ∨ (pr = 8 ∧ n = 8) ∨ (pr = 9 ∧ n = 8) ∨ (pr = 10 ∧ n = 8) ∨ (pr = 11 ∧ n = 8) ∨ (pr = 12 ∧ n = 8) ∨ (pr = 13 ∧ n = 8)
def iM (q pr j : Nat) (o : ps_X Nat) (σ : am_M) (post : am_P) : Prop := match o with
  | .error x => ∀ σ', fm [pr] [13, 14, 15, 16] σ σ' → σ' 0 13 = nI x.2 → post (some (.int (nI x.1))) LM σ'
  | .ok x => ∀ σ', fm [pr] [14, 15, 16] σ σ' → σ' pr = upd (σ pr) j (nI x.1) → σ' 0 14 = nI x.2 → σ' 0 16 = nI q → post (some (.int 0)) LM σ'
def tr_minto : am_T := fun as L σ post => ∃ (tl : Nat) (tx : Nat → Nat) (pr n j lo hi p : Nat), as = [.ref 0, .ref pr, .int (nI j), .int (nI lo), .int (nI hi)] ∧ L = LM ∧ sw_row pr n ∧ j < n ∧ okT tl tx ∧ mT tl tx σ ∧ p ≤ tl ∧ σ 0 14 = nI p ∧ lo < 1000 ∧ hi < 1000 ∧ iM (ps_sk tl tx p) pr j (ps_num tl tx lo hi p) σ post
set_option maxHeartbeats 1000000 in
theorem ct_minto (l : Launch) : am_Ct l 2 yX7_into cX7_into 6 (some .int) tr_minto := by
  refine am_ct tbX7_into (am_G [tr_mtakeNumber]) (by decide +kernel) (by simp) rfl dtX7_into rfl ckX7_into lkX7_into (am_cokF [(4, some (.invokevirtual 134), 0, 3, 7, 0)] rfl (List.forall_mem_cons.mpr ⟨⟨1, _, _, _, _, by decide, (ct_mtakeNumber l), lnX7_134⟩, fun _ h => absurd h List.not_mem_nil⟩)) ?_
  intro as L σ post h
  obtain ⟨tl, tx, pr, n, j, lo, hi, p, rfl, rfl, hr, hj, hT, hc, hp, e1, hlo, hhi, h⟩ := h
  refine ⟨by simp [am_lv0], fun WW hw => hw 60 _ _ _ _ _ ?_⟩
  have cj : (nI j).toNatClampNeg = j := nI_cl (by rcases hr with ⟨-, rfl⟩ | ⟨-, rfl⟩ | ⟨-, rfl⟩ | ⟨-, rfl⟩ | ⟨-, rfl⟩ | ⟨-, rfl⟩ | ⟨-, rfl⟩ <;> omega)
  have vj : vp_in (nI j) n := vp_j hj (by rcases hr with ⟨-, rfl⟩ | ⟨-, rfl⟩ | ⟨-, rfl⟩ | ⟨-, rfl⟩ | ⟨-, rfl⟩ | ⟨-, rfl⟩ | ⟨-, rfl⟩ <;> omega)
  rcases hr with ⟨rfl, rfl⟩ | ⟨rfl, rfl⟩ | ⟨rfl, rfl⟩ | ⟨rfl, rfl⟩ | ⟨rfl, rfl⟩ | ⟨rfl, rfl⟩ | ⟨rfl, rfl⟩
  all_goals
    conv => whnf
    refine ⟨tl, tx, lo, hi, p, rfl, rfl, hT, hc, hp, e1, hlo, hhi, ?_⟩
    cases hx : ps_num tl tx lo hi p with
    | error x =>
      rw [hx] at h
      intro σ1 hf1 h3
      repeat ((conv => whnf); refine And.intro ?_ ?_; first | with_reducible assumption | decide)
      conv => whnf
      exact h _ (fm_up _ (fm_tr (fm_rf _ _ _) hf1 (by decide) (by decide)) (by decide) (by decide)) (by rw [am_un _ _ _ _ (by decide)]; exact h3)
    | ok x =>
      rw [hx] at h
      intro σ1 hf1 h3 h4 h5
      repeat ((conv => whnf); refine And.intro ?_ ?_; first | with_reducible assumption | decide)
      conv => whnf
      rw [cj, h4, cond_false]
      exact h _ (fm_up _ (fm_tr (fm_rf _ _ _) hf1 (by decide) (by decide)) (by decide) (by decide)) (by rw [am_us, fm_d hf1 _ rfl (by decide)]) (by rw [am_un _ _ _ _ (by decide)]; exact h3) (by rw [am_un _ _ _ _ (by decide)]; exact h5)
