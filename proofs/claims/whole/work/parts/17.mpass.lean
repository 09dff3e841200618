/-! THE REFERENCE's YEAR, whole -/
def sw_LM (σ : am_M) (m cn : Nat) (c e k : Nat → Nat) : Prop := σ 0 3 = nI m ∧ σ 0 0 = nI cn ∧ (∀ b, b < m → σ 1 b = nI (c b)) ∧ (∀ b, b < m → σ 2 b = nI (e b)) ∧ ∀ b, b < m → σ 3 b = nI (k b)
def sw_FM (σ : am_M) (m : Nat) (F : sw_F) : Prop := (∀ j, j < m → σ 5 j = nI (F.1 j)) ∧ (∀ j, j < m → σ 5 (8 + j) = nI (F.2.1 j)) ∧ (∀ j, j < m → σ 5 (16 + j) = nI (F.2.2.1 j)) ∧ σ 5 24 = F.2.2.2.1 ∧ σ 5 25 = nI F.2.2.2.2.1 ∧ σ 5 26 = nI F.2.2.2.2.2
def sw_K (σ0 σ1 : am_M) (m : Nat) (n g h : Nat → Nat) (lo : Nat) : Prop :=
  am_fr [5, 14] σ0 σ1 ∧ (∀ k, 16 ≤ k → ¬ k = 25 → σ1 5 k = σ0 5 k) ∧ (∀ j, j < m → σ1 5 j = nI (n j)) ∧ (∀ j, j < m → σ1 5 (8 + j) = nI (g j)) ∧ (∀ j, j < 4 → σ1 14 j = nI (h j)) ∧ σ1 5 25 = nI lo
theorem sw_Kn {σ0 σ1 : am_M} {m : Nat} {n g h : Nat → Nat} {lo j v : Nat} (hj : j < 8) (H : sw_K σ0 σ1 m n g h lo) : sw_K σ0 (am_w σ1 5 j (nI v)) m (va_up n j v) g h lo := by
  obtain ⟨h1, h2, h3, h4, h5, h6⟩ := H
  refine ⟨aw_fr h1 (by simp), fun k hk hk2 => by rw [aw_k _ _ _ _ _ (by omega)]; exact h2 k hk hk2, fun i hi => ?_, fun i hi => by rw [aw_k _ _ _ _ _ (by omega)]; exact h4 i hi, fun i hi => by rw [aw_n _ _ _ _ _ (by decide)]; exact h5 i hi, by rw [aw_k _ _ _ _ _ (by omega)]; exact h6⟩
  by_cases e : i = j
  · subst e; rw [aw_s, up_vs]
  · rw [aw_k _ _ _ _ _ e, up_vn _ _ _ _ e]; exact h3 i hi
theorem sw_Kg {σ0 σ1 : am_M} {m : Nat} {n g h : Nat → Nat} {lo j v : Nat} (hm : m ≤ 8) (hj : j < 8) (H : sw_K σ0 σ1 m n g h lo) : sw_K σ0 (am_w σ1 5 (8 + j) (nI v)) m n (va_up g j v) h lo := by
  obtain ⟨h1, h2, h3, h4, h5, h6⟩ := H
  refine ⟨aw_fr h1 (by simp), fun k hk hk2 => by rw [aw_k _ _ _ _ _ (by omega)]; exact h2 k hk hk2, fun i hi => by rw [aw_k _ _ _ _ _ (by omega)]; exact h3 i hi, fun i hi => ?_, fun i hi => by rw [aw_n _ _ _ _ _ (by decide)]; exact h5 i hi, by rw [aw_k _ _ _ _ _ (by omega)]; exact h6⟩
  by_cases e : i = j
  · subst e; rw [aw_s, up_vs]
  · rw [aw_k _ _ _ _ _ (by omega), up_vn _ _ _ _ e]; exact h4 i hi
theorem sw_Kh {σ0 σ1 : am_M} {m : Nat} {n g h : Nat → Nat} {lo j v : Nat} (H : sw_K σ0 σ1 m n g h lo) : sw_K σ0 (am_w σ1 14 j (nI v)) m n g (va_up h j v) lo := by
  obtain ⟨h1, h2, h3, h4, h5, h6⟩ := H
  refine ⟨aw_fr h1 (by simp), fun k hk hk2 => by rw [aw_n _ _ _ _ _ (by decide)]; exact h2 k hk hk2, fun i hi => by rw [aw_n _ _ _ _ _ (by decide)]; exact h3 i hi, fun i hi => by rw [aw_n _ _ _ _ _ (by decide)]; exact h4 i hi, fun i hi => ?_, by rw [aw_n _ _ _ _ _ (by decide)]; exact h6⟩
  by_cases e : i = j
  · subst e; rw [aw_s, up_vs]
  · rw [aw_k _ _ _ _ _ e, up_vn _ _ _ _ e]; exact h5 i hi
theorem sw_Kl {σ0 σ1 : am_M} {m : Nat} {n g h : Nat → Nat} {lo v : Nat} (hm : m ≤ 8) (H : sw_K σ0 σ1 m n g h lo) : sw_K σ0 (am_w σ1 5 25 (nI v)) m n g h v := by
  obtain ⟨h1, h2, h3, h4, h5, h6⟩ := H
  exact ⟨aw_fr h1 (by simp), fun k hk hk2 => by rw [aw_k _ _ _ _ _ hk2]; exact h2 k hk hk2, fun i hi => by rw [aw_k _ _ _ _ _ (by omega)]; exact h3 i hi, fun i hi => by rw [aw_k _ _ _ _ _ (by omega)]; exact h4 i hi, fun i hi => by rw [aw_n _ _ _ _ _ (by decide)]; exact h5 i hi, aw_s _ _ _ _⟩
/-- no homeless ones in counties that there are not -/
theorem sw_y1_none {c e k f : Nat → Nat} {s : Int32} {r m cn : Nat} {n : Nat → Nat} {lo : Nat} (hc : ∀ b, b < m → c b < cn) : ∀ i, i ≤ m → ∀ q, cn ≤ q → (sw_it (sw_y1 c e k f s r) i (n, fun _ => 0, lo)).2.1 q = 0
  | 0, _, q, _ => rfl
  | i + 1, hi, q, hq => by
    have ih := sw_y1_none (e := e) (k := k) (f := f) (s := s) (r := r) (n := n) (lo := lo) hc i (by omega) q hq
    have hci := hc i (by omega)
    show (sw_y1 c e k f s r i (sw_it (sw_y1 c e k f s r) i (n, fun _ => 0, lo))).2.1 q = 0
    unfold sw_y1
    split
    · show va_up _ (c i) _ q = 0
      rw [up_vn _ _ _ _ (by omega)]; exact ih
    · show va_up _ (c i) _ q = 0
      rw [up_vn _ _ _ _ (by omega)]; exact ih
theorem sw_y2_none {c e : Nat → Nat} {s : Int32} {m cn : Nat} {n h : Nat → Nat} (hc : ∀ b, b < m → c b < cn) (hh : ∀ q, cn ≤ q → h q = 0) : ∀ i, i ≤ m → ∀ q, cn ≤ q → (sw_it (sw_y2 c e s) i (n, h)).2 q = 0
  | 0, _, q, hq => hh q hq
  | i + 1, hi, q, hq => by
    have ih := sw_y2_none (e := e) (s := s) (n := n) hc hh i (by omega) q hq
    have hci := hc i (by omega)
    show (sw_y2 c e s i (sw_it (sw_y2 c e s) i (n, h))).2 q = 0
    unfold sw_y2
    split
    · exact ih
    · show va_up _ (c i) _ q = 0
      rw [up_vn _ _ _ _ (by omega)]; exact ih
theorem sw_sum_more {h : Nat → Nat} {cn : Nat} (hh : ∀ q, cn ≤ q → h q = 0) : ∀ d, sw_sum h (cn + d) = sw_sum h cn
  | 0 => rfl
  | d + 1 => by
    show sw_sum h (cn + d) + h (cn + d) = _
    rw [sw_sum_more hh d, hh _ (by omega), Nat.add_zero]
def tr_mpassBy : am_T := fun as L σ post => ∃ m cn co e k F r, as = [.ref 0, .int (nI r)] ∧ L = LM ∧ sw_LM σ m cn co e k ∧ sw_LB m cn co e k ∧ r ≤ 9 ∧ sw_FM σ m F ∧ sw_FB m e F ∧ ∀ σ', am_fr [5, 14] σ σ' → sw_FM σ' m (sw_yr m cn co e k r F) → post none L σ'
set_option maxHeartbeats 4000000 in
theorem ct_mpassBy (l : Launch) : am_Ct l 2 yX7_passBy cX7_passBy 4 none tr_mpassBy := by
  refine am_ct tbX7_passBy (am_G [tr_mtakeCat, tr_mbreed, tr_mhouse, tr_mhas, tr_matMost]) (by decide +kernel) (by simp) rfl dtX7_passBy rfl ckX7_passBy lkX7_passBy (am_cokF [(32, some (.invokevirtual 199), 0, 2, 7, 0), (38, some (.invokevirtual 203), 1, 3, 7, 0), (59, some (.invokevirtual 207), 2, 2, 7, 0), (121, some (.invokestatic 189), 3, 2, 0, 0), (165, some (.invokestatic 196), 4, 2, 0, 0), (201, some (.invokestatic 196), 4, 2, 0, 0)] rfl (List.forall_mem_cons.mpr ⟨⟨0, _, _, _, _, by decide, (ct_mtakeCat l), lnX7_199⟩, List.forall_mem_cons.mpr ⟨⟨1, _, _, _, _, by decide, (ct_mbreed l), lnX7_203⟩, List.forall_mem_cons.mpr ⟨⟨1, _, _, _, _, by decide, (ct_mhouse l), lnX7_207⟩, List.forall_mem_cons.mpr ⟨Or.inr (Or.inr (Or.inr ⟨0, _, _, _, _, by decide, (ct_mhas l), lnX7_189⟩)), List.forall_mem_cons.mpr ⟨Or.inr (Or.inr (Or.inr ⟨0, _, _, _, _, by decide, (ct_matMost l), lnX7_196⟩)), List.forall_mem_cons.mpr ⟨Or.inr (Or.inr (Or.inr ⟨0, _, _, _, _, by decide, (ct_matMost l), lnX7_196⟩)), fun _ h => absurd h List.not_mem_nil⟩⟩⟩⟩⟩⟩)) ?_
  intro as L σ post h
  obtain ⟨m, cn, co, e, k, ⟨n, g, f, s, lo, y⟩, r, rfl, rfl, ⟨l1, l2, l3, l4, l5⟩, ⟨hm, hcn, hB⟩, hr, ⟨f1, f2, f3, f4, f5, f6⟩, hF, h⟩ := h
  refine ⟨by simp [am_lv0], fun WW hw => ?_⟩
  dsimp only at f1 f2 f3 f4 f5 f6 hF
  have hn40 : ∀ b, b < m → n b ≤ 40 := fun b hb => Nat.le_trans (hF b hb).1 (hB b hb).2.1
  have he40 : ∀ b, b < m → e b ≤ 40 := fun b hb => (hB b hb).2.1
  have hsame : ∀ (σ1 : am_M) (n g h : Nat → Nat) (lo : Nat), sw_K σ σ1 m n g h lo → σ1 0 = σ 0 ∧ σ1 1 = σ 1 ∧ σ1 2 = σ 2 ∧ σ1 3 = σ 3 ∧ (∀ j, j < m → σ1 5 (16 + j) = nI (f j)) ∧ σ1 5 24 = s ∧ σ1 5 26 = nI y := by
    intro σ1 n g h lo H
    obtain ⟨h1, h2, -⟩ := H
    rw [h2 24 (by decide) (by decide), h2 26 (by decide) (by decide)]
    exact ⟨h1 0 (by decide), h1 1 (by decide), h1 2 (by decide), h1 3 (by decide), fun j hj => by rw [h2 _ (by omega) (by omega)]; exact f3 j hj, f4, f6⟩
  have fin : ∀ (σ1 : am_M), sw_K σ σ1 m (sw_it (sw_y4 e s r) m ((sw_it (sw_y2 co e s) m ((sw_it (sw_y1 co e k f s r) m (n, fun _ => 0, lo)).1, (sw_it (sw_y1 co e k f s r) m (n, fun _ => 0, lo)).2.1)).1, g)).1 (sw_it (sw_y4 e s r) m ((sw_it (sw_y2 co e s) m ((sw_it (sw_y1 co e k f s r) m (n, fun _ => 0, lo)).1, (sw_it (sw_y1 co e k f s r) m (n, fun _ => 0, lo)).2.1)).1, g)).2 (sw_it (sw_y2 co e s) m ((sw_it (sw_y1 co e k f s r) m (n, fun _ => 0, lo)).1, (sw_it (sw_y1 co e k f s r) m (n, fun _ => 0, lo)).2.1)).2 ((sw_it (sw_y1 co e k f s r) m (n, fun _ => 0, lo)).2.2 + sw_sum (sw_it (sw_y2 co e s) m ((sw_it (sw_y1 co e k f s r) m (n, fun _ => 0, lo)).1, (sw_it (sw_y1 co e k f s r) m (n, fun _ => 0, lo)).2.1)).2 cn) → post none LM (am_w σ1 5 26 (nI y + 1)) := by
    intro σ1 H
    obtain ⟨e0, e1, e2, e3, ef, es, ey⟩ := hsame σ1 _ _ _ _ H
    obtain ⟨h1, h2, h3, h4, h5, h6⟩ := H
    refine h _ (aw_fr h1 (by simp)) ⟨fun j hj => ?_, fun j hj => ?_, fun j hj => ?_, ?_, ?_, ?_⟩
    · rw [aw_k _ _ _ _ _ (by omega)]; exact h3 j hj
    · rw [aw_k _ _ _ _ _ (by omega)]; exact h4 j hj
    · rw [aw_k _ _ _ _ _ (by omega)]; exact ef j hj
    · rw [aw_k _ _ _ _ _ (by decide)]; exact es
    · rw [aw_k _ _ _ _ _ (by decide)]; exact h6
    · rw [aw_s]; exact nI_1 y
  have hnone1 := sw_y1_none (c := co) (e := e) (k := k) (f := f) (s := s) (r := r) (n := n) (lo := lo) (fun b hb => (hB b hb).1) m (Nat.le_refl m)
  generalize hu1 : sw_it (sw_y1 co e k f s r) m (n, fun _ => 0, lo) = u1 at fin hnone1
  have hnone2 := sw_y2_none (c := co) (e := e) (s := s) (n := u1.1) (fun b hb => (hB b hb).1) hnone1 m (Nat.le_refl m)
  generalize hu2 : sw_it (sw_y2 co e s) m (u1.1, u1.2.1) = u2 at fin hnone2
  have hsum : sw_sum u2.2 4 = sw_sum u2.2 cn := by
    have := sw_sum_more hnone2 (4 - cn)
    rw [show cn + (4 - cn) = 4 by omega] at this
    exact this
  obtain ⟨y1a, y1b, y1c⟩ := sw_y1_facts (c := co) (e := e) (k := k) (f := f) (s := s) (lo := lo) hr he40 hn40 m (Nat.le_refl m)
  rw [hu1] at y1a y1b y1c
  have hu2e : (∀ j, j < m → u2.1 j ≤ e j) ∧ ∀ q, u2.2 q ≤ 100 * m := by
    have := sw_y2_facts (c := co) (e := e) (s := s) (n := u1.1) (h := u1.2.1) y1b y1c m (Nat.le_refl m)
    rw [hu2] at this; exact this
  have uid : ∀ (f : Nat → Nat) (j : Nat), va_up f j (f j) = f := fun f j => by funext x; by_cases hx : x = j <;> simp [va_up, hx]
  have v24 : vp_in 24 27 := vp_j (j := 24) (by decide) (by decide)
  have v25 : vp_in 25 27 := vp_j (j := 25) (by decide) (by decide)
  have v26 : vp_in 26 27 := vp_j (j := 26) (by decide) (by decide)
  have c24 : (24 : Int32).toNatClampNeg = 24 := by decide
  have c25 : (25 : Int32).toNatClampNeg = 25 := by decide
  have c26 : (26 : Int32).toNatClampNeg = 26 := by decide
  -- the fourth walk
  have L4 : ∀ (q i : Nat) (x : Int32) (σ1 : am_M), i + q = m → x = nI i → sw_K σ σ1 m (sw_it (sw_y4 e s r) i (u2.1, g)).1 (sw_it (sw_y4 e s r) i (u2.1, g)).2 u2.2 (u1.2.2 + sw_sum u2.2 cn) → WW 63 [some (.ref 0), some (.int (nI r)), some (.int x)] [] LM σ1 := by
    intro q
    induction q with
    | zero =>
      intro i x σ1 hi hx H
      have ei : i = m := by omega
      subst ei; subst hx
      refine hw 60 _ _ _ _ _ ?_
      obtain ⟨e0, e1, e2, e3, ef, es, ey⟩ := hsame σ1 _ _ _ _ H
      have hle : σ1 0 3 ≤ nI i := by rw [e0, l1]; exact Int32.le_refl _
      have hfin := fin σ1 H
      conv => whnf
      refine ⟨fun _ => ?_, fun c => absurd hle c⟩
      repeat ((conv => whnf); refine And.intro ?_ ?_; first | with_reducible assumption | decide)
      conv => whnf
      simp only [c26, ey]
      exact hfin
    | succ q ih =>
      intro i x σ1 hi hx H
      subst hx
      have him : i < m := by omega
      obtain ⟨e0, e1, e2, e3, ef, es, ey⟩ := hsame σ1 _ _ _ _ H
      obtain ⟨yf1, yf2⟩ := sw_y4_facts (s := s) (r := r) (g := g) hu2e.1 i (by omega)
      obtain ⟨q1, q2⟩ := yf1 i (Nat.le_refl i)
      have hin : vp_in (nI i) 8 := vp_j (by omega) (by decide)
      have hin2 : vp_in (nI i) 27 := vp_j (by omega) (by decide)
      have hin3 : vp_in (8 + nI i) 27 := by rw [nI_8]; exact vp_j (by omega) (by decide)
      have hcl : (nI i).toNatClampNeg = i := nI_cl (by omega)
      have hcl3 : (8 + nI i).toNatClampNeg = 8 + i := by rw [nI_8]; exact nI_cl (by omega)
      have hni : (sw_it (sw_y4 e s r) i (u2.1, g)).1 i ≤ e i := by rw [q1]; exact hu2e.1 i him
      have hgi : (sw_it (sw_y4 e s r) i (u2.1, g)).2 i ≤ 40 := by rw [q2]; exact (hF i him).2.1
      have hei := he40 i him
      have nxt : ∀ σ2, sw_K σ σ2 m (va_up (sw_it (sw_y4 e s r) i (u2.1, g)).1 i (sw_one e s r i ((sw_it (sw_y4 e s r) i (u2.1, g)).1 i))) (va_up (sw_it (sw_y4 e s r) i (u2.1, g)).2 i (min ((sw_it (sw_y4 e s r) i (u2.1, g)).2 i) (sw_one e s r i ((sw_it (sw_y4 e s r) i (u2.1, g)).1 i)))) u2.2 (u1.2.2 + sw_sum u2.2 cn) → WW 63 [some (.ref 0), some (.int (nI r)), some (.int (nI i + 1))] [] LM σ2 := fun σ2 H2 => ih (i + 1) _ σ2 (by omega) (nI_1 i) H2
      clear ih yf1 yf2 q1 q2
      generalize sw_it (sw_y4 e s r) i (u2.1, g) = u at H hni hgi nxt
      have hone := sw_one_le (s := s) (r := r) hni
      have r1 : σ1 5 i = nI (u.1 i) := H.2.2.1 i him
      have r2 : σ1 2 i = nI (e i) := by rw [e2]; exact l4 i him
      have M109 : ∀ (v w : Int32), v = nI (sw_one e s r i (u.1 i)) → WW 109 [some (.ref 0), some (.int (nI r)), some (.int (nI i)), some (.int w)] [.int v, .int (nI i), .ref 5] LM σ1 := by
        intro v w hv
        subst hv
        refine hw 60 _ _ _ _ _ ?_
        have H2 := sw_Kn (j := i) (v := sw_one e s r i (u.1 i)) (by omega) H
        have nx := nxt _ (sw_Kg (j := i) (v := min (u.2 i) (sw_one e s r i (u.1 i))) hm (by omega) H2)
        have s1 : am_w σ1 5 i (nI (sw_one e s r i (u.1 i))) 5 (8 + i) = nI (u.2 i) := H2.2.2.2.1 i him
        have s2 : am_w σ1 5 i (nI (sw_one e s r i (u.1 i))) 5 i = nI (sw_one e s r i (u.1 i)) := aw_s _ _ _ _
        repeat ((conv => whnf); refine And.intro ?_ ?_; first | with_reducible assumption | decide)
        conv => whnf
        rw [hcl]
        generalize hs2 : am_up σ1 5 (upd (σ1 5) i (bif false then vp_nar FieldType.boolean (nI (sw_one e s r i (u.1 i))) else nI (sw_one e s r i (u.1 i)))) = σ2
        have hs3 : am_w σ1 5 i (nI (sw_one e s r i (u.1 i))) = σ2 := hs2
        rw [hs3] at s1 s2 nx
        rw [hcl3, s1, s2]
        refine ⟨u.2 i, _, rfl, by omega, by omega, ?_⟩
        repeat ((conv => whnf); refine And.intro ?_ ?_; first | with_reducible assumption | decide)
        conv => whnf
        rw [hcl3]
        exact nx
      have M86 : ∀ (v : Int32), (v = 1 ∧ (8 ≤ r ∧ sw_bit s i = false ∧ 0 < u.1 i)) ∨ (v = 0 ∧ ¬ (8 ≤ r ∧ sw_bit s i = false ∧ 0 < u.1 i)) → WW 86 [some (.ref 0), some (.int (nI r)), some (.int (nI i))] [.int v] LM σ1 := by
        intro v hv
        refine hw 60 _ _ _ _ _ ?_
        rcases hv with ⟨rfl, hv⟩ | ⟨rfl, hv⟩
        · conv => whnf
          refine ⟨fun c => absurd c (by decide), fun _ => ?_⟩
          repeat ((conv => whnf); refine And.intro ?_ ?_; first | with_reducible assumption | decide)
          conv => whnf
          rw [hcl, r1, r2, nI_1]
          refine ⟨u.1 i + 1, e i, rfl, by omega, by omega, ?_⟩
          repeat ((conv => whnf); refine And.intro ?_ ?_; first | with_reducible assumption | decide)
          conv => whnf
          refine M109 _ _ ?_
          congr 1
          by_cases hlt : u.1 i < e i
          · rw [show sw_one e s r i (u.1 i) = u.1 i + 1 from if_pos ⟨hv.1, hv.2.1, hv.2.2, hlt⟩]; omega
          · rw [show sw_one e s r i (u.1 i) = u.1 i from if_neg (fun hh => hlt hh.2.2.2)]; omega
        · conv => whnf
          refine ⟨fun _ => ?_, fun c => absurd rfl c⟩
          repeat ((conv => whnf); refine And.intro ?_ ?_; first | with_reducible assumption | decide)
          conv => whnf
          rw [hcl, r1]
          refine M109 _ _ ?_
          rw [show sw_one e s r i (u.1 i) = u.1 i from if_neg (fun hh => hv ⟨hh.1, hh.2.1, hh.2.2.1⟩)]
      clear nxt M109
      refine hw 60 _ _ _ _ _ ?_
      have hnle : ¬ σ1 0 3 ≤ nI i := by rw [e0, l1]; exact nI_ge him (by omega)
      have h7 : nI r ≤ 7 ↔ r ≤ 7 := nI_le' (by omega) (by decide)
      have no := M86 0
      have yes := M86 1
      conv => whnf
      refine ⟨fun c => absurd c hnle, fun _ => ?_⟩
      conv => whnf
      rw [h7]
      refine ⟨fun c => no (Or.inr ⟨rfl, fun hh => by omega⟩), fun c => ?_⟩
      repeat ((conv => whnf); refine And.intro ?_ ?_; first | with_reducible assumption | decide)
      conv => whnf
      rw [c24, es]
      refine ⟨_, i, rfl, ?_⟩
      conv => whnf
      refine ⟨fun c2 => no (Or.inr ⟨rfl, fun hh => ?_⟩), fun c2 => ?_⟩
      · rw [hh.2.1] at c2; exact c2 rfl
      · have hb : sw_bit s i = false := by
          cases hb : sw_bit s i with
          | false => rfl
          | true => rw [hb] at c2; exact absurd c2 (by decide)
        repeat ((conv => whnf); refine And.intro ?_ ?_; first | with_reducible assumption | decide)
        conv => whnf
        rw [hcl, r1]
        refine ⟨fun c3 => no (Or.inr ⟨rfl, fun hh => ?_⟩), fun c3 => yes (Or.inl ⟨rfl, by omega, hb, ?_⟩)⟩
        · exact absurd c3 (nI_nle hh.2.2 (by omega))
        · rcases Nat.eq_zero_or_pos (u.1 i) with h0 | h0
          · rw [h0] at c3; exact absurd (Int32.le_refl _) c3
          · exact h0
  -- the third walk
  have L3 : ∀ (q i : Nat) (x : Int32) (σ1 : am_M), i + q = 4 → x = nI i → sw_K σ σ1 m u2.1 g u2.2 (u1.2.2 + sw_sum u2.2 i) → WW 44 [some (.ref 0), some (.int (nI r)), some (.int x)] [] LM σ1 := by
    intro q
    induction q with
    | zero =>
      intro i x σ1 hi hx H
      have ei : i = 4 := by omega
      subst ei; subst hx
      rw [hsum] at H
      refine hw 60 _ _ _ _ _ ?_
      have nx := L4 m 0 0 σ1 (Nat.zero_add _) rfl H
      conv => whnf
      exact ⟨fun _ => nx, fun c => absurd (Int32.le_refl _) c⟩
    | succ q ih =>
      intro i x σ1 hi hx H
      subst hx
      have hnle : ¬ (4 : Int32) ≤ nI i := nI_ge (b := 4) (by omega) (by omega)
      have hin : vp_in (nI i) 4 := vp_j (by omega) (by decide)
      have hcl : (nI i).toNatClampNeg = i := nI_cl (by omega)
      have r1 : σ1 14 i = nI (u2.2 i) := H.2.2.2.2.1 i (by omega)
      have r2 : σ1 5 25 = nI (u1.2.2 + sw_sum u2.2 i) := H.2.2.2.2.2
      have nx := ih (i + 1) (nI i + 1) _ (by omega) (nI_1 i) (sw_Kl hm (v := u1.2.2 + sw_sum u2.2 (i + 1)) H)
      rw [show u1.2.2 + sw_sum u2.2 (i + 1) = u1.2.2 + sw_sum u2.2 i + u2.2 i from (Nat.add_assoc _ _ _).symm, ← nI_add] at nx
      refine hw 60 _ _ _ _ _ ?_
      conv => whnf
      refine ⟨fun c => absurd c hnle, fun _ => ?_⟩
      repeat ((conv => whnf); refine And.intro ?_ ?_; first | with_reducible assumption | decide)
      conv => whnf
      simp only [hcl, c25, r1, r2]
      exact nx
  -- the second walk
  have L2 : ∀ (q i : Nat) (x : Int32) (σ1 : am_M), i + q = m → x = nI i → sw_K σ σ1 m (sw_it (sw_y2 co e s) i (u1.1, u1.2.1)).1 g (sw_it (sw_y2 co e s) i (u1.1, u1.2.1)).2 u1.2.2 → WW 32 [some (.ref 0), some (.int (nI r)), some (.int x)] [] LM σ1 := by
    intro q
    induction q with
    | zero =>
      intro i x σ1 hi hx H
      have ei : i = m := by omega
      subst ei; subst hx
      rw [hu2] at H
      refine hw 60 _ _ _ _ _ ?_
      obtain ⟨e0, -⟩ := hsame σ1 _ _ _ _ H
      have hle : σ1 0 3 ≤ nI i := by rw [e0, l1]; exact Int32.le_refl _
      have nx := L3 4 0 0 σ1 rfl rfl H
      conv => whnf
      exact ⟨fun _ => nx, fun c => absurd hle c⟩
    | succ q ih =>
      intro i x σ1 hi hx H
      subst hx
      have him : i < m := by omega
      obtain ⟨e0, e1, e2, e3, ef, es, ey⟩ := hsame σ1 _ _ _ _ H
      obtain ⟨yf1, yf2⟩ := sw_y2_facts (c := co) (e := e) (s := s) (n := u1.1) (h := u1.2.1) y1b y1c i (by omega)
      have hn1 := yf1 i him
      have hh1 := yf2 (co i)
      have hnle : ¬ σ1 0 3 ≤ nI i := by rw [e0, l1]; exact nI_ge him (by omega)
      have hei := he40 i him
      have hci := (hB i him).1
      have r4 : σ1 1 i = nI (co i) := by rw [e1]; exact l3 i him
      have r5 : σ1 2 i = nI (e i) := by rw [e2]; exact l4 i him
      have ih' := fun σ2 => ih (i + 1) (nI i + 1) σ2 (by omega) (nI_1 i)
      rw [show sw_it (sw_y2 co e s) (i + 1) (u1.1, u1.2.1) = sw_y2 co e s i (sw_it (sw_y2 co e s) i (u1.1, u1.2.1)) from rfl] at ih'
      clear ih yf1 yf2
      generalize sw_it (sw_y2 co e s) i (u1.1, u1.2.1) = u at H hn1 hh1 ih'
      unfold sw_y2 at ih'
      have r1 : σ1 5 i = nI (u.1 i) := H.2.2.1 i him
      have r2 : σ1 14 (co i) = nI (u.2 (co i)) := H.2.2.2.2.1 (co i) (by omega)
      refine hw 60 _ _ _ _ _ ?_
      conv => whnf
      refine ⟨fun c => absurd c hnle, fun _ => ?_⟩
      conv => whnf
      refine ⟨i, co i, u.1 i, e i, u.2 (co i), rfl, rfl, by omega, by omega, hn1, hei, by omega, r4, r5, r1, r2, ?_⟩
      conv => whnf
      rw [es]
      cases hb : sw_bit s i with
      | true =>
        rw [hb] at ih'
        refine ih' _ ?_
        have := sw_Kh (j := co i) (v := u.2 (co i)) (sw_Kn (j := i) (v := u.1 i) (by omega) H)
        rw [uid, uid] at this
        rw [if_pos rfl, Nat.zero_min, Nat.add_zero, Nat.sub_zero]
        exact this
      | false =>
        rw [hb] at ih'
        refine ih' _ ?_
        rw [if_neg (by decide), Nat.min_comm]
        exact sw_Kh (j := co i) (v := u.2 (co i) - min (u.2 (co i)) (e i - u.1 i)) (sw_Kn (j := i) (v := u.1 i + min (u.2 (co i)) (e i - u.1 i)) (by omega) H)
  -- the first walk
  have L1 : ∀ (q i : Nat) (x : Int32) (σ1 : am_M), i + q = m → x = nI i → sw_K σ σ1 m (sw_it (sw_y1 co e k f s r) i (n, fun _ => 0, lo)).1 g (sw_it (sw_y1 co e k f s r) i (n, fun _ => 0, lo)).2.1 (sw_it (sw_y1 co e k f s r) i (n, fun _ => 0, lo)).2.2 → WW 16 [some (.ref 0), some (.int (nI r)), some (.int x)] [] LM σ1 := by
    intro q
    induction q with
    | zero =>
      intro i x σ1 hi hx H
      have ei : i = m := by omega
      subst ei; subst hx
      rw [hu1] at H
      refine hw 60 _ _ _ _ _ ?_
      obtain ⟨e0, -⟩ := hsame σ1 _ _ _ _ H
      have hle : σ1 0 3 ≤ nI i := by rw [e0, l1]; exact Int32.le_refl _
      have nx := L2 i 0 0 σ1 (Nat.zero_add _) rfl H
      conv => whnf
      exact ⟨fun _ => nx, fun c => absurd hle c⟩
    | succ q ih =>
      intro i x σ1 hi hx H
      subst hx
      have him : i < m := by omega
      obtain ⟨e0, e1, e2, e3, ef, es, ey⟩ := hsame σ1 _ _ _ _ H
      obtain ⟨yf1, yf2, yf3⟩ := sw_y1_facts (c := co) (e := e) (k := k) (f := f) (s := s) (lo := lo) hr he40 hn40 i (by omega)
      have hn1 := yf1 i (Nat.le_refl i)
      have hni := hn40 i him
      have hnle : ¬ σ1 0 3 ≤ nI i := by rw [e0, l1]; exact nI_ge him (by omega)
      have hei := he40 i him
      obtain ⟨hci, -, hki⟩ := hB i him
      have ih' := fun σ2 => ih (i + 1) (nI i + 1) σ2 (by omega) (nI_1 i)
      rw [show sw_it (sw_y1 co e k f s r) (i + 1) (n, fun _ => 0, lo) = sw_y1 co e k f s r i (sw_it (sw_y1 co e k f s r) i (n, fun _ => 0, lo)) from rfl] at ih'
      clear ih yf1 yf2 yf3
      generalize sw_it (sw_y1 co e k f s r) i (n, fun _ => 0, lo) = u at H hn1 ih'
      unfold sw_y1 at ih'
      rw [hn1] at ih'
      have hct := sw_cat_le (k i) (n i)
      have hfi : f i < 100 := (hF i him).2.2
      have r1 : σ1 5 i = nI (n i) := by rw [H.2.2.1 i him, hn1]
      have rl : σ1 5 25 = nI u.2.2 := H.2.2.2.2.2
      have r3 : σ1 3 i = nI (k i) := by rw [e3]; exact l5 i him
      have H2 := sw_Kl hm (v := u.2.2 + sw_cat (k i) (n i)) (sw_Kn (j := i) (v := n i - sw_cat (k i) (n i)) (by omega) H)
      have hs2 : am_w (am_w σ1 5 i (nI (n i - sw_cat (k i) (n i)))) 5 25 (nI u.2.2 + nI (sw_cat (k i) (n i))) = am_w (am_w σ1 5 i (nI (n i - sw_cat (k i) (n i)))) 5 25 (nI (u.2.2 + sw_cat (k i) (n i))) := by rw [nI_add]
      refine hw 60 _ _ _ _ _ ?_
      conv => whnf
      refine ⟨fun c => absurd c hnle, fun _ => ?_⟩
      conv => whnf
      refine ⟨i, k i, n i, rfl, rfl, by omega, hki, by omega, r3, r1, ?_⟩
      rw [rl, hs2]
      generalize am_w (am_w σ1 5 i (nI (n i - sw_cat (k i) (n i)))) 5 25 (nI (u.2.2 + sw_cat (k i) (n i))) = σ2 at H2
      obtain ⟨g0, g1, g2, g3, gf, gs, gy⟩ := hsame σ2 _ _ _ _ H2
      have t1 : σ2 5 i = nI (n i - sw_cat (k i) (n i)) := by rw [H2.2.2.1 i him, up_vs]
      have t2 : σ2 14 (co i) = nI (u.2.1 (co i)) := H2.2.2.2.2.1 (co i) (by omega)
      conv => whnf
      refine ⟨i, co i, k i, r, n i - sw_cat (k i) (n i), f i, e i, rfl, rfl, by omega, by omega, hki, hr, by omega, by omega, hei, by rw [g1]; exact l3 i him, by rw [g2]; exact l4 i him, by rw [g3]; exact l5 i him, t1, gf i him, ?_⟩
      conv => whnf
      rw [gs, t2]
      cases hb : sw_bit s i with
      | true =>
        rw [hb] at ih'
        refine ih' _ ?_
        rw [if_pos rfl, if_pos rfl, nI_add]
        have := sw_Kn (j := i) (v := 0) (by omega) (sw_Kh (j := co i) (v := u.2.1 (co i) + (n i - sw_cat (k i) (n i))) H2)
        rw [bx_uu] at this
        exact this
      | false =>
        rw [hb] at ih'
        refine ih' _ ?_
        rw [if_neg (by decide), if_neg (by decide), nI_add]
        have := sw_Kn (j := i) (v := min (n i - sw_cat (k i) (n i) + sw_yg (k i) (n i - sw_cat (k i) (n i)) r (f i)) (e i)) (by omega) (sw_Kh (j := co i) (v := u.2.1 (co i) + (n i - sw_cat (k i) (n i) + sw_yg (k i) (n i - sw_cat (k i) (n i)) r (f i) - e i)) H2)
        rw [bx_uu] at this
        exact this
  -- the entry: homeless ones are none
  have L0 : ∀ (q i : Nat) (x : Int32) (σ1 : am_M), i + q = 4 → x = nI i → am_fr [14] σ σ1 → (∀ j, j < i → σ1 14 j = 0) → WW 3 [some (.ref 0), some (.int (nI r)), some (.int x)] [] LM σ1 := by
    intro q
    induction q with
    | zero =>
      intro i x σ1 hi hx hfr hz
      have ei : i = 4 := by omega
      subst ei; subst hx
      refine hw 60 _ _ _ _ _ ?_
      have e5 : σ1 5 = σ 5 := hfr 5 (by decide)
      have nx := L1 m 0 0 σ1 (Nat.zero_add _) rfl ⟨am_fr_tr (am_fr_rf _ _) hfr (by decide), fun k _ _ => by rw [e5], fun j hj => by rw [e5]; exact f1 j hj, fun j hj => by rw [e5]; exact f2 j hj, fun j hj => hz j hj, by rw [e5]; exact f5⟩
      conv => whnf
      exact ⟨fun _ => nx, fun c => absurd (Int32.le_refl _) c⟩
    | succ q ih =>
      intro i x σ1 hi hx hfr hz
      subst hx
      have hnle : ¬ (4 : Int32) ≤ nI i := nI_ge (b := 4) (by omega) (by omega)
      have hin : vp_in (nI i) 4 := vp_j (by omega) (by decide)
      have hcl : (nI i).toNatClampNeg = i := nI_cl (by omega)
      have nx := ih (i + 1) (nI i + 1) (am_w σ1 14 i 0) (by omega) (nI_1 i) (aw_fr hfr (by simp)) (fun j hj => by
        by_cases hji : j = i
        · subst hji; exact aw_s _ _ _ _
        · rw [aw_k _ _ _ _ _ hji]; exact hz j (by omega))
      refine hw 60 _ _ _ _ _ ?_
      conv => whnf
      refine ⟨fun c => absurd c hnle, fun _ => ?_⟩
      repeat ((conv => whnf); refine And.intro ?_ ?_; first | with_reducible assumption | decide)
      conv => whnf
      rw [hcl]
      exact nx
  refine hw 60 _ _ _ _ _ ?_
  conv => whnf
  exact L0 4 0 0 σ rfl rfl (am_fr_rf _ _) (fun j hj => absurd hj (Nat.not_lt_zero j))
def tr_mpass : am_T := fun as L σ post => ∃ (m cn : Nat) (co e k : Nat → Nat) (F : sw_F) (R : Nat) (rn : Nat → Nat), as = [.ref 0] ∧ L = LM ∧ sw_LM σ m cn co e k ∧ sw_LB m cn co e k ∧ sw_FM σ m F ∧ sw_FB m e F ∧ 0 < R ∧ R ≤ 8 ∧ σ 0 7 = nI R ∧ (∀ t, t < R → σ 4 t = nI (rn t) ∧ rn t ≤ 9) ∧ F.2.2.2.2.2 < 100000 ∧ ∀ σ', am_fr [5, 14] σ σ' → sw_FM σ' m (sw_yr m cn co e k (rn (F.2.2.2.2.2 % R)) F) → post none L σ'
theorem ct_mpass (l : Launch) : am_Ct l 3 yX7_pass cX7_pass 1 none tr_mpass := by
  refine am_ct tbX7_pass (am_G [tr_mpassBy]) (by decide +kernel) (by simp) rfl dtX7_pass rfl ckX7_pass lkX7_pass (am_cokF [(18, some (.invokevirtual 210), 0, 2, 7, 0)] rfl (List.forall_mem_cons.mpr ⟨⟨2, _, _, _, _, by decide, (ct_mpassBy l), lnX7_210⟩, fun _ h => absurd h List.not_mem_nil⟩)) ?_
  intro as L σ post h
  obtain ⟨m, cn, co, e, k, F, R, rn, rfl, rfl, hL, hB, hFM, hFB, hR, hR8, r1, r2, hy, h⟩ := h
  refine ⟨by simp [am_lv0], fun WW hw => ?_⟩
  have v26 : vp_in 26 27 := vp_j (j := 26) (by decide) (by decide)
  have c26 : (26 : Int32).toNatClampNeg = 26 := by decide
  have y1 : σ 5 26 = nI F.2.2.2.2.2 := hFM.2.2.2.2.2
  have hne : ¬ σ 0 7 = 0 := by rw [r1]; exact nI_ne0 hR (by omega)
  have hrem : nI F.2.2.2.2.2 - nI F.2.2.2.2.2 / nI R * nI R = nI (F.2.2.2.2.2 % R) := pk_rem (by omega) hR (by omega)
  have hlt : F.2.2.2.2.2 % R < R := Nat.mod_lt _ hR
  refine hw 60 _ _ _ _ _ ?_
  repeat ((conv => whnf); refine And.intro ?_ ?_; first | with_reducible assumption | decide)
  conv => whnf
  rw [c26, y1, r1, hrem, nI_cl (by omega), (r2 _ hlt).1]
  refine ⟨vp_j (by omega) (by decide), ?_⟩
  conv => whnf
  refine ⟨m, cn, co, e, k, F, rn (F.2.2.2.2.2 % R), rfl, rfl, hL, hB, (r2 _ hlt).2, hFM, hFB, fun σ' h1 h2 => ?_⟩
  conv => whnf
  exact h σ' h1 h2
