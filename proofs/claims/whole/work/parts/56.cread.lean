/-! THE CLASS reads a text: letters and numbers -/
def fo (o : Nat) (ps ks : List Nat) (σ σ' : am_M) : Prop := (∀ q, ¬ q = o → q ∉ ps → σ' q = σ q) ∧ ∀ k, k ∉ ks → σ' o k = σ o k
theorem fo_rf (o : Nat) (ps ks : List Nat) (σ : am_M) : fo o ps ks σ σ := ⟨fun _ _ _ => rfl, fun _ _ => rfl⟩
theorem fo_d {o : Nat} {ps ks : List Nat} {σ σ' : am_M} (h : fo o ps ks σ σ') (q : Nat) (hq : ps.elem q = false) (h0 : ¬ q = o) : σ' q = σ q := h.1 q h0 (fun hm => by rw [List.elem_eq_true_of_mem hm] at hq; cases hq)
theorem fo_k {o : Nat} {ps ks : List Nat} {σ σ' : am_M} (h : fo o ps ks σ σ') (k : Nat) (hk : ks.elem k = false) : σ' o k = σ o k := h.2 k (fun hm => by rw [List.elem_eq_true_of_mem hm] at hk; cases hk)
theorem fo_tr {o : Nat} {ps ks ps' ks' : List Nat} {σ σ' σ'' : am_M} (h : fo o ps ks σ σ') (h2 : fo o ps' ks' σ' σ'') (hp : ∀ q ∈ ps', q ∈ ps) (hk : ∀ k ∈ ks', k ∈ ks) : fo o ps ks σ σ'' := ⟨fun q h0 hq => by rw [h2.1 q h0 (fun hm => hq (hp q hm)), h.1 q h0 hq], fun k hkk => by rw [h2.2 k (fun hm => hkk (hk k hm)), h.2 k hkk]⟩
theorem fo_up {o : Nat} {ps ks : List Nat} {σ σ' : am_M} {p : Nat} (f : Nat → Int32) (h : fo o ps ks σ σ') (hp : p ∈ ps) (h0 : ¬ p = o) : fo o ps ks σ (am_up σ' p f) := ⟨fun q hq0 hq => by
  have hne : ¬ q = p := fun e => hq (e ▸ hp)
  rw [am_un _ _ _ _ hne]; exact h.1 q hq0 hq, fun k hk => by rw [am_un _ _ _ _ (fun e => h0 e.symm)]; exact h.2 k hk⟩
theorem fo_w {o : Nat} {ps ks : List Nat} {σ σ' : am_M} {k : Nat} {v : Int32} (h : fo o ps ks σ σ') (hk : k ∈ ks) : fo o ps ks σ (am_w σ' o k v) := ⟨fun q hq0 hq => by rw [aw_n _ _ _ _ _ hq0]; exact h.1 q hq0 hq, fun j hj => by
  have hne : ¬ j = k := fun e => hj (e ▸ hk)
  rw [aw_k _ _ _ _ _ hne]; exact h.2 j hj⟩
def okT (tl : Nat) (tx : Nat → Nat) : Prop := tl ≤ 240 ∧ ∀ j, j < tl → tx j ≤ 255
def cT (tl : Nat) (tx : Nat → Nat) (σ : am_M) : Prop := σ 1 1 = nI tl ∧ ∀ j, j < tl → σ 2 j = nI (tx j)
theorem cT_fr {tl : Nat} {tx : Nat → Nat} {σ σ' : am_M} (h1 : σ' 1 1 = σ 1 1) (h2 : σ' 2 = σ 2) (h : cT tl tx σ) : cT tl tx σ' := ⟨by rw [h1]; exact h.1, by rw [h2]; exact h.2⟩
def tr_nextLetter : am_T := fun as L σ post => ∃ (tl : Nat) (tx : Nat → Nat) (p : Nat), as = [.ref 1] ∧ L = LC ∧ okT tl tx ∧ cT tl tx σ ∧ p ≤ tl ∧ σ 1 2 = nI p ∧ ∀ σ', fo 1 [] [2] σ σ' → σ' 1 2 = nI (ps_sk tl tx p) → post (some (.int (ps_let tl tx (ps_sk tl tx p)))) L σ'
theorem ct_nextLetter (l : Launch) : am_Ct l 0 yX5_nextLetter cX5_nextLetter 1 (some .int) tr_nextLetter := by
  refine am_ct tbX5_nextLetter (am_G []) (by decide +kernel) (by simp) rfl dtX5_nextLetter rfl ckX5_nextLetter lkX5_nextLetter (am_nocalls rfl) ?_
  intro as L σ post h
  obtain ⟨tl, tx, p, rfl, rfl, ⟨hT1, hT2⟩, hc, hp, e1, h⟩ := h
  refine ⟨by simp [am_lv0], fun WW hw => ?_⟩
  have loop : ∀ d p1 σ1, p1 + d = tl → fo 1 [] [2] σ σ1 → σ1 1 2 = nI p1 → ps_sk tl tx p1 = ps_sk tl tx p → WW 1 [some (.ref 1)] [] LC σ1 := by
    intro d
    induction d with
    | zero =>
      intro p1 σ1 hd hf e2 hs
      have l1 : σ1 1 1 = nI tl := (fo_k hf 1 rfl).trans hc.1
      have hsk : ps_sk tl tx p1 = p1 := ps_to_e (fun hh => by have := hh.1; omega)
      have le : nI tl ≤ nI p1 := (nI_le' (by omega) (by omega)).2 (by omega)
      have hlet : ps_let tl tx (ps_sk tl tx p) = -1 := by rw [← hs, hsk]; exact if_neg (by omega)
      have h := h σ1 hf (by rw [← hs, hsk]; exact e2)
      rw [hlet] at h
      refine hw 60 _ _ _ _ _ ?_
      conv => whnf
      rw [l1, e2]
      refine ⟨fun _ => ?_, fun c => absurd le c⟩
      conv => whnf
      rw [l1, e2]
      refine ⟨fun _ => ?_, fun c => absurd le c⟩
      conv => whnf
      exact h
    | succ d ih =>
      intro p1 σ1 hd hf e2 hs
      have hlt : p1 < tl := by omega
      have l1 : σ1 1 1 = nI tl := (fo_k hf 1 rfl).trans hc.1
      have nle : ¬ nI tl ≤ nI p1 := fun q => by have := (nI_le' (a := tl) (b := p1) (by omega) (by omega)).1 q; omega
      have vin : vp_in (nI p1) 240 := vp_j (by omega) (by decide)
      have hcl : (nI p1).toNatClampNeg = p1 := nI_cl (by omega)
      have lett : σ1 2 p1 = nI (tx p1) := by rw [fo_d hf 2 rfl (by decide)]; exact hc.2 p1 hlt
      have hb := hT2 p1 hlt
      have b32 : nI (tx p1) = 32 ↔ tx p1 = 32 := nI_eq' (b := 32) (by omega) (by decide)
      refine hw 60 _ _ _ _ _ ?_
      conv => whnf
      rw [l1, e2]
      refine ⟨fun c => absurd c nle, fun _ => ?_⟩
      conv => whnf
      rw [e2]
      refine ⟨vin, ?_⟩
      conv => whnf
      rw [hcl, lett, b32]
      refine ⟨fun cc => ?_, fun cc => ?_⟩
      · have hsk : ps_sk tl tx p1 = p1 := ps_to_e (fun hh => cc (by simpa [ps_b] using hh.2))
        have hlet : ps_let tl tx (ps_sk tl tx p) = nI (tx p1) := by rw [← hs, hsk]; exact if_pos hlt
        have h := h σ1 hf (by rw [← hs, hsk]; exact e2)
        rw [hlet] at h
        conv => whnf
        rw [l1, e2]
        refine ⟨fun c => absurd c nle, fun _ => ?_⟩
        conv => whnf
        rw [e2]
        refine ⟨vin, ?_⟩
        conv => whnf
        rw [hcl, lett]
        exact h
      · conv => whnf
        rw [e2, nI_1]
        refine ih (p1 + 1) (am_w σ1 1 2 (nI (p1 + 1))) (by omega) (fo_w hf (by decide)) (aw_s _ _ _ _) ?_
        rw [← hs]
        exact (ps_to_s hlt (by simpa [ps_b] using cc)).symm
  refine hw 60 _ _ _ _ _ ?_
  conv => whnf
  exact loop (tl - p) p σ (by omega) (fo_rf _ _ _ _) e1 rfl
def tr_faulty : am_T := fun as L σ post => ∃ x y, as = [.ref 1, .int x, .int y] ∧ L = LC ∧ ∀ σ', fo 1 [] [3, 4] σ σ' → σ' 1 3 = x → σ' 1 4 = y → post (some (.int 0)) L σ'
theorem ct_faulty (l : Launch) : am_Ct l 0 yX5_faulty cX5_faulty 3 (some .boolean) tr_faulty := by
  refine am_ct tbX5_faulty (am_G []) (by decide +kernel) (by simp) rfl dtX5_faulty rfl ckX5_faulty lkX5_faulty (am_nocalls rfl) ?_
  intro as L σ post h
  obtain ⟨x, y, rfl, rfl, h⟩ := h
  refine ⟨by simp [am_lv0], fun WW hw => hw 60 _ _ _ _ _ ?_⟩
  conv => whnf
  refine ⟨Or.inl rfl, h (am_w (am_w σ 1 3 x) 1 4 y) (fo_w (fo_w (fo_rf _ _ _ _) (by decide)) (by decide)) ?_ (aw_s _ _ _ _)⟩
  rw [aw_k _ _ _ _ _ (by decide), aw_s]
theorem ps_val_le {tl : Nat} {tx : Nat → Nat} {q j : Nat} (hT : ∀ s, s < tl → tx s ≤ 255) (hq : q + j ≤ tl) (hj : j ≤ 3) : ps_val tx q j ≤ 22977 := by
  have : j = 0 ∨ j = 1 ∨ j = 2 ∨ j = 3 := by omega
  rcases this with rfl | rfl | rfl | rfl
  · show 0 ≤ 22977; omega
  · have h0 := hT (q + 0) (by omega)
    show 0 * 10 + (tx (q + 0) - 48) ≤ 22977; omega
  · have h0 := hT (q + 0) (by omega)
    have h1 := hT (q + 1) (by omega)
    show (0 * 10 + (tx (q + 0) - 48)) * 10 + (tx (q + 1) - 48) ≤ 22977; omega
  · have h0 := hT (q + 0) (by omega)
    have h1 := hT (q + 1) (by omega)
    have h2 := hT (q + 2) (by omega)
    show ((0 * 10 + (tx (q + 0) - 48)) * 10 + (tx (q + 1) - 48)) * 10 + (tx (q + 2) - 48) ≤ 22977; omega
def nC (o : ps_X Nat) (σ : am_M) (post : am_P) : Prop := match o with
  | .error x => ∀ σ', fo 1 [] [2, 3, 4] σ σ' → σ' 1 3 = nI x.2 → σ' 1 4 = nI x.1 → post (some (.int (-1))) LC σ'
  | .ok x => ∀ σ', fo 1 [] [2] σ σ' → σ' 1 2 = nI x.2 → post (some (.int (nI x.1))) LC σ'
def tr_readNumber : am_T := fun as L σ post => ∃ (tl : Nat) (tx : Nat → Nat) (lo hi p : Nat), as = [.ref 1, .int (nI lo), .int (nI hi)] ∧ L = LC ∧ okT tl tx ∧ cT tl tx σ ∧ p ≤ tl ∧ σ 1 2 = nI p ∧ lo < 1000 ∧ hi < 1000 ∧ nC (ps_num tl tx lo hi p) σ post
set_option maxHeartbeats 1000000 in
theorem ct_readNumber (l : Launch) : am_Ct l 1 yX5_readNumber cX5_readNumber 6 (some .int) tr_readNumber := by
  refine am_ct tbX5_readNumber (am_G [tr_nextLetter, tr_faulty]) (by decide +kernel) (by simp) rfl dtX5_readNumber rfl ckX5_readNumber lkX5_readNumber (am_cokF [(1, some (.invokevirtual 33), 0, 1, 5, 0), (23, some (.invokevirtual 44), 1, 3, 5, 0), (153, some (.invokevirtual 44), 1, 3, 5, 0)] rfl (List.forall_mem_cons.mpr ⟨⟨0, _, _, _, _, by decide, (ct_nextLetter l), lnX5_33⟩, List.forall_mem_cons.mpr ⟨⟨0, _, _, _, _, by decide, (ct_faulty l), lnX5_44⟩, List.forall_mem_cons.mpr ⟨⟨0, _, _, _, _, by decide, (ct_faulty l), lnX5_44⟩, fun _ h => absurd h List.not_mem_nil⟩⟩⟩)) ?_
  intro as L σ post h
  obtain ⟨tl, tx, lo, hi, p, rfl, rfl, ⟨hT1, hT2⟩, hc, hp, e1, hlo, hhi, h⟩ := h
  refine ⟨by simp [am_lv0], fun WW hw => ?_⟩
  obtain ⟨s1, s2⟩ := ps_sk_f (tl := tl) (tx := tx) (p := p)
  have s2 := s2 hp
  unfold ps_num at h
  generalize hq : ps_sk tl tx p = q at h s1 s2
  -- behind the figures
  have M71 : ∀ (c v : Int32) (r : Nat) (σ1 : am_M), q < tl → ps_d tx q = true → r = ps_dg tl tx q → fo 1 [] [2] σ σ1 → σ1 1 2 = nI r → v = nI (ps_val tx q (min (r - q) 3)) → WW 71 [some (.ref 1), some (.int (nI lo)), some (.int (nI hi)), some (.int c), some (.int (nI q)), some (.int v)] [] LC σ1 := by
    intro c v r σ1 hq1 hq2 hr hf e2 hv
    have r1 := ps_to_f (P := ps_d tx) (tl := tl) (p := q)
    have r2 : q ≤ r := by rw [hr]; exact r1.1
    have r3 : r ≤ tl := by rw [hr]; exact r1.2.1 s2
    rw [if_pos ⟨hq1, hq2⟩, ← hr] at h
    have vb := ps_val_le (q := q) (j := min (r - q) 3) hT2 (by omega) (by omega)
    have bad : (3 < r - q ∨ ps_val tx q (r - q) < lo ∨ hi < ps_val tx q (r - q)) → ∀ σ', fo 1 [] [3, 4] σ1 σ' → σ' 1 3 = nI q → σ' 1 4 = 2 → post (some (.int (-1))) LC σ' := by
      intro hb σ' hf' h3 h4
      rw [if_pos hb] at h
      exact h σ' (fo_tr (fo_tr (fo_rf _ _ _ _) hf (by decide) (by decide)) hf' (by decide) (by decide)) h3 h4
    have c3 : 3 < nI (r - q) ↔ 3 < r - q := nI_lt' (a := 3) (by decide) (by omega)
    refine hw 60 _ _ _ _ _ ?_
    conv => whnf
    rw [e2, pk_sub r2, c3]
    refine ⟨fun c1 => ?_, fun c1 => ?_⟩
    · conv => whnf
      refine ⟨_, _, rfl, rfl, fun σ2 hf2 h3 h4 => ?_⟩
      conv => whnf
      exact bad (Or.inl c1) σ2 hf2 h3 h4
    · rw [show min (r - q) 3 = r - q by omega] at hv vb
      subst hv
      conv => whnf
      rw [nI_lt' (by omega) (by omega)]
      refine ⟨fun c2 => ?_, fun c2 => ?_⟩
      · conv => whnf
        refine ⟨_, _, rfl, rfl, fun σ2 hf2 h3 h4 => ?_⟩
        conv => whnf
        exact bad (Or.inr (Or.inl c2)) σ2 hf2 h3 h4
      · conv => whnf
        rw [nI_le' (by omega) (by omega)]
        refine ⟨fun c4 => ?_, fun c4 => ?_⟩
        · rw [if_neg (by omega)] at h
          conv => whnf
          exact h σ1 hf e2
        · conv => whnf
          refine ⟨_, _, rfl, rfl, fun σ2 hf2 h3 h4 => ?_⟩
          conv => whnf
          exact bad (Or.inr (Or.inr (by omega))) σ2 hf2 h3 h4
  have loop : ∀ (d r : Nat) (c v : Int32) (σ1 : am_M), r + d = tl → q < tl → ps_d tx q = true → q ≤ r → ps_dg tl tx r = ps_dg tl tx q → fo 1 [] [2] σ σ1 → σ1 1 2 = nI r → v = nI (ps_val tx q (min (r - q) 3)) → WW 23 [some (.ref 1), some (.int (nI lo)), some (.int (nI hi)), some (.int c), some (.int (nI q)), some (.int v)] [] LC σ1 := by
    intro d
    induction d with
    | zero =>
      intro r c v σ1 hd hq1 hq2 hqr hdg hf e2 hv
      have l1 : σ1 1 1 = nI tl := (fo_k hf 1 rfl).trans hc.1
      have le : nI tl ≤ nI r := (nI_le' (by omega) (by omega)).2 (by omega)
      have hdr : ps_dg tl tx r = r := ps_to_e (fun hh => by have := hh.1; omega)
      refine hw 60 _ _ _ _ _ ?_
      conv => whnf
      rw [l1, e2]
      refine ⟨fun _ => ?_, fun c => absurd le c⟩
      conv => whnf
      exact M71 c v r σ1 hq1 hq2 (by rw [← hdg, hdr]) hf e2 hv
    | succ d ih =>
      intro r c v σ1 hd hq1 hq2 hqr hdg hf e2 hv
      have hlt : r < tl := by omega
      have l1 : σ1 1 1 = nI tl := (fo_k hf 1 rfl).trans hc.1
      have nle : ¬ nI tl ≤ nI r := fun q => by have := (nI_le' (a := tl) (b := r) (by omega) (by omega)).1 q; omega
      have vin : vp_in (nI r) 240 := vp_j (by omega) (by decide)
      have hcl : (nI r).toNatClampNeg = r := nI_cl (by omega)
      have lett : σ1 2 r = nI (tx r) := by rw [fo_d hf 2 rfl (by decide)]; exact hc.2 r hlt
      have hb := hT2 r hlt
      have b48 : nI (tx r) < 48 ↔ tx r < 48 := nI_lt' (b := 48) (by omega) (by decide)
      have b57 : 57 < nI (tx r) ↔ 57 < tx r := nI_lt' (a := 57) (by decide) (by omega)
      have stop : ps_d tx r = false → WW 71 [some (.ref 1), some (.int (nI lo)), some (.int (nI hi)), some (.int c), some (.int (nI q)), some (.int v)] [] LC σ1 := by
        intro hn
        have hdr : ps_dg tl tx r = r := ps_to_e (fun hh => by rw [hn] at hh; cases hh.2)
        exact M71 c v r σ1 hq1 hq2 (by rw [← hdg, hdr]) hf e2 hv
      have M62 : ps_d tx r = true → ∀ v', v' = nI (ps_val tx q (min (r + 1 - q) 3)) → WW 62 [some (.ref 1), some (.int (nI lo)), some (.int (nI hi)), some (.int c), some (.int (nI q)), some (.int v)] [.int v'] LC σ1 := by
        intro hd1 v' hv'
        refine hw 60 _ _ _ _ _ ?_
        conv => whnf
        rw [e2, nI_1]
        exact ih (r + 1) c v' (am_w σ1 1 2 (nI (r + 1))) (by omega) hq1 hq2 (by omega) ((ps_to_s hlt hd1).symm.trans hdg) (fo_w hf (by decide)) (aw_s _ _ _ _) hv'
      have c3 : 3 ≤ nI (r - q) ↔ 3 ≤ r - q := nI_le' (a := 3) (by decide) (by omega)
      refine hw 100 _ _ _ _ _ ?_
      conv => whnf
      rw [l1, e2]
      refine ⟨fun c => absurd c nle, fun _ => ?_⟩
      conv => whnf
      rw [e2]
      refine ⟨vin, ?_⟩
      conv => whnf
      rw [hcl, lett, b48]
      refine ⟨fun cc => ?_, fun cc => ?_⟩
      · conv => whnf
        exact stop (by unfold ps_d; rw [decide_eq_false (by omega), Bool.false_and])
      · conv => whnf
        rw [e2]
        refine ⟨vin, ?_⟩
        conv => whnf
        rw [hcl, lett, b57]
        refine ⟨fun c7 => ?_, fun c7 => ?_⟩
        · conv => whnf
          exact stop (by unfold ps_d; rw [decide_eq_false (p := tx r ≤ 57) (by omega), Bool.and_false])
        · have hd1 : ps_d tx r = true := by unfold ps_d; rw [decide_eq_true (by omega), decide_eq_true (by omega)]; rfl
          conv => whnf
          rw [e2, pk_sub hqr, c3]
          refine ⟨fun c8 => ?_, fun c8 => ?_⟩
          · conv => whnf
            exact M62 hd1 _ (by rw [hv, show min (r - q) 3 = min (r + 1 - q) 3 by omega])
          · conv => whnf
            rw [e2]
            refine ⟨vin, ?_⟩
            conv => whnf
            refine M62 hd1 _ ?_
            rw [hcl, lett, hv, show min (r - q) 3 = r - q by omega, show min (r + 1 - q) 3 = (r - q) + 1 by omega, ps_val, show q + (r - q) = r by omega, show nI (ps_val tx q (r - q)) * 10 = nI (ps_val tx q (r - q) * 10) from pk_mul _ 10, nI_add, show nI (ps_val tx q (r - q) * 10 + tx r) - 48 = nI (ps_val tx q (r - q) * 10 + tx r - 48) from pk_sub (b := 48) (by omega), show ps_val tx q (r - q) * 10 + tx r - 48 = ps_val tx q (r - q) * 10 + (tx r - 48) by omega]
  refine hw 60 _ _ _ _ _ ?_
  conv => whnf
  refine ⟨tl, tx, p, rfl, rfl, ⟨hT1, hT2⟩, hc, hp, e1, fun σ1 hf1 e2 => ?_⟩
  rw [hq] at e2 ⊢
  have fault : ¬ (q < tl ∧ ps_d tx q = true) → ∀ σ', fo 1 [] [3, 4] σ1 σ' → σ' 1 3 = nI q → σ' 1 4 = 1 → post (some (.int (-1))) LC σ' := by
    intro hn σ' hf' h3 h4
    rw [if_neg hn] at h
    exact h σ' (fo_tr (fo_tr (fo_rf _ _ _ _) hf1 (by decide) (by decide)) hf' (by decide) (by decide)) h3 h4
  by_cases hlt : q < tl
  · rw [show ps_let tl tx q = nI (tx q) from if_pos hlt]
    have hb := hT2 q hlt
    have b48 : nI (tx q) < 48 ↔ tx q < 48 := nI_lt' (b := 48) (by omega) (by decide)
    have b57 : nI (tx q) ≤ 57 ↔ tx q ≤ 57 := nI_le' (b := 57) (by omega) (by decide)
    conv => whnf
    rw [b48]
    refine ⟨fun c1 => ?_, fun c1 => ?_⟩
    · conv => whnf
      rw [e2]
      refine ⟨_, _, rfl, rfl, fun σ2 hf2 h3 h4 => ?_⟩
      conv => whnf
      exact fault (fun hh => by have := hh.2; unfold ps_d at this; rw [decide_eq_false (by omega), Bool.false_and] at this; cases this) σ2 hf2 h3 h4
    · conv => whnf
      rw [b57]
      refine ⟨fun c2 => ?_, fun c2 => ?_⟩
      · have hd1 : ps_d tx q = true := by unfold ps_d; rw [decide_eq_true (by omega), decide_eq_true (by omega)]; rfl
        conv => whnf
        rw [e2]
        exact loop (tl - q) q _ 0 σ1 (by omega) hlt hd1 (Nat.le_refl q) rfl hf1 e2 (by rw [show min (q - q) 3 = 0 by omega]; rfl)
      · conv => whnf
        rw [e2]
        refine ⟨_, _, rfl, rfl, fun σ2 hf2 h3 h4 => ?_⟩
        conv => whnf
        exact fault (fun hh => by have := hh.2; unfold ps_d at this; rw [decide_eq_false (p := tx q ≤ 57) (by omega), Bool.and_false] at this; cases this) σ2 hf2 h3 h4
  · rw [show ps_let tl tx q = -1 from if_neg hlt]
    conv => whnf
    refine ⟨fun _ => ?_, fun c => absurd (by decide : (-1 : Int32) < 48) c⟩
    conv => whnf
    rw [e2]
    refine ⟨_, _, rfl, rfl, fun σ2 hf2 h3 h4 => ?_⟩
    conv => whnf
    exact fault (fun hh => hlt hh.1) σ2 hf2 h3 h4
def tr_readEnd : am_T := fun as L σ post => ∃ (tl : Nat) (tx : Nat → Nat) (p : Nat), as = [.ref 1] ∧ L = LC ∧ okT tl tx ∧ cT tl tx σ ∧ p ≤ tl ∧ σ 1 2 = nI p ∧ (if ps_sk tl tx p < tl ∧ tx (ps_sk tl tx p) = 59 then (∀ σ', fo 1 [] [2] σ σ' → σ' 1 2 = nI (ps_sk tl tx p + 1) → post (some (.int 1)) L σ') else (∀ σ', fo 1 [] [2, 3, 4] σ σ' → σ' 1 3 = nI (ps_sk tl tx p) → σ' 1 4 = nI 1 → post (some (.int 0)) L σ'))
theorem ct_readEnd (l : Launch) : am_Ct l 1 yX5_readEndOfClause cX5_readEndOfClause 1 (some .boolean) tr_readEnd := by
  refine am_ct tbX5_readEndOfClause (am_G [tr_nextLetter, tr_faulty]) (by decide +kernel) (by simp) rfl dtX5_readEndOfClause rfl ckX5_readEndOfClause lkX5_readEndOfClause (am_cokF [(1, some (.invokevirtual 33), 0, 1, 5, 0), (15, some (.invokevirtual 44), 1, 3, 5, 0)] rfl (List.forall_mem_cons.mpr ⟨⟨0, _, _, _, _, by decide, (ct_nextLetter l), lnX5_33⟩, List.forall_mem_cons.mpr ⟨⟨0, _, _, _, _, by decide, (ct_faulty l), lnX5_44⟩, fun _ h => absurd h List.not_mem_nil⟩⟩)) ?_
  intro as L σ post h
  obtain ⟨tl, tx, p, rfl, rfl, ⟨hT1, hT2⟩, hc, hp, e1, h⟩ := h
  refine ⟨by simp [am_lv0], fun WW hw => hw 60 _ _ _ _ _ ?_⟩
  generalize hq : ps_sk tl tx p = q at h
  conv => whnf
  refine ⟨tl, tx, p, rfl, rfl, ⟨hT1, hT2⟩, hc, hp, e1, fun σ1 hf1 e2 => ?_⟩
  rw [hq] at e2 ⊢
  have fault : ¬ (q < tl ∧ tx q = 59) → ∀ σ', fo 1 [] [3, 4] σ1 σ' → σ' 1 3 = nI q → σ' 1 4 = 1 → post (some (.int 0)) LC σ' := by
    intro hn σ' hf' h3 h4
    rw [if_neg hn] at h
    exact h σ' (fo_tr (fo_tr (fo_rf _ _ _ _) hf1 (by decide) (by decide)) hf' (by decide) (by decide)) h3 h4
  by_cases hlt : q < tl
  · rw [show ps_let tl tx q = nI (tx q) from if_pos hlt]
    have hb := hT2 q hlt
    have b59 : nI (tx q) = 59 ↔ tx q = 59 := nI_eq' (b := 59) (by omega) (by decide)
    conv => whnf
    rw [b59]
    refine ⟨fun c1 => ?_, fun c1 => ?_⟩
    · rw [if_pos ⟨hlt, c1⟩] at h
      conv => whnf
      rw [e2, nI_1]
      exact ⟨Or.inr rfl, h (am_w σ1 1 2 (nI (q + 1))) (fo_w hf1 (by decide)) (aw_s _ _ _ _)⟩
    · conv => whnf
      rw [e2]
      refine ⟨_, _, rfl, rfl, fun σ2 hf2 h3 h4 => ?_⟩
      conv => whnf
      exact ⟨Or.inl rfl, fault (fun hh => c1 hh.2) σ2 hf2 h3 h4⟩
  · rw [show ps_let tl tx q = -1 from if_neg hlt]
    conv => whnf
    refine ⟨fun c => absurd c (by decide), fun _ => ?_⟩
    conv => whnf
    rw [e2]
    refine ⟨_, _, rfl, rfl, fun σ2 hf2 h3 h4 => ?_⟩
    conv => whnf
    exact ⟨Or.inl rfl, fault (fun hh => hlt hh.1) σ2 hf2 h3 h4⟩
def tr_readNests : am_T := fun as L σ post => ∃ (tl : Nat) (tx : Nat → Nat) (e p : Nat), as = [.ref 1, .int (nI e)] ∧ L = LC ∧ okT tl tx ∧ cT tl tx σ ∧ p ≤ tl ∧ σ 1 2 = nI p ∧ e ≤ 40 ∧ nC (match ps_num tl tx 0 40 p with
    | .error x => .error x
    | .ok d => if e < d.1 then .error (4, ps_sk tl tx p) else .ok d) σ post
theorem ct_readNests (l : Launch) : am_Ct l 2 yX5_readNests cX5_readNests 4 (some .int) tr_readNests := by
  refine am_ct tbX5_readNests (am_G [tr_nextLetter, tr_readNumber, tr_faulty]) (by decide +kernel) (by simp) rfl dtX5_readNests rfl ckX5_readNests lkX5_readNests (am_cokF [(1, some (.invokevirtual 33), 0, 1, 5, 0), (14, some (.invokevirtual 63), 1, 3, 5, 0), (26, some (.invokevirtual 44), 2, 3, 5, 0)] rfl (List.forall_mem_cons.mpr ⟨⟨0, _, _, _, _, by decide, (ct_nextLetter l), lnX5_33⟩, List.forall_mem_cons.mpr ⟨⟨1, _, _, _, _, by decide, (ct_readNumber l), lnX5_63⟩, List.forall_mem_cons.mpr ⟨⟨0, _, _, _, _, by decide, (ct_faulty l), lnX5_44⟩, fun _ h => absurd h List.not_mem_nil⟩⟩⟩)) ?_
  intro as L σ post h
  obtain ⟨tl, tx, e, p, rfl, rfl, ⟨hT1, hT2⟩, hc, hp, e1, he, h⟩ := h
  refine ⟨by simp [am_lv0], fun WW hw => hw 60 _ _ _ _ _ ?_⟩
  have s2 := (ps_sk_f (tl := tl) (tx := tx) (p := p)).2 hp
  conv => whnf
  refine ⟨tl, tx, p, rfl, rfl, ⟨hT1, hT2⟩, hc, hp, e1, fun σ1 hf1 e2 => ?_⟩
  rw [show ps_let tl tx (ps_sk tl tx p) = ps_let tl tx (ps_sk tl tx p) from rfl]
  generalize ps_let tl tx (ps_sk tl tx p) = lt
  conv => whnf
  rw [e2]
  refine ⟨tl, tx, 0, 40, ps_sk tl tx p, rfl, rfl, ⟨hT1, hT2⟩, cT_fr (fo_k hf1 1 rfl) (fo_d hf1 2 rfl (by decide)) hc, s2, rfl, by decide, by decide, ?_⟩
  rw [ps_num_sk]
  cases hx : ps_num tl tx 0 40 p with
  | error x =>
    rw [hx] at h
    intro σ2 hf2 h3 h4
    have h := h σ2 (fo_tr (fo_tr (fo_rf _ _ _ _) hf1 (by decide) (by decide)) hf2 (by decide) (by decide)) h3 h4
    have cm : (-1 : Int32) ≤ nI e := by rw [Int32.le_iff_toInt_le, nI_toInt (by omega)]; show (-1 : Int) ≤ (e : Int); omega
    conv => whnf
    refine ⟨fun _ => ?_, fun c => absurd cm c⟩
    conv => whnf
    exact h
  | ok d =>
    rw [hx] at h
    obtain ⟨d1, d2, d3, d4⟩ := ps_num_ok hx hp
    intro σ2 hf2 h2
    have hf12 := fo_tr hf1 hf2 (by decide) (by decide)
    conv => whnf
    rw [nI_le' (by omega) (by omega)]
    refine ⟨fun cc => ?_, fun cc => ?_⟩
    · have h : nC (if e < d.1 then .error (4, ps_sk tl tx p) else .ok d) σ post := h
      rw [if_neg (by omega)] at h
      conv => whnf
      exact h σ2 hf12 h2
    · have h : nC (if e < d.1 then .error (4, ps_sk tl tx p) else .ok d) σ post := h
      rw [if_pos (by omega)] at h
      conv => whnf
      refine ⟨_, _, rfl, rfl, fun σ3 hf3 h3 h4 => ?_⟩
      conv => whnf
      exact h σ3 (fo_tr (fo_tr (fo_rf _ _ _ _) hf12 (by decide) (by decide)) hf3 (by decide) (by decide)) h3 h4
