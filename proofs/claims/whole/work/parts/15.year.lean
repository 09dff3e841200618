/-! Arrays.fill; a YEAR of the class -/
def sw_fil (f : Nat → Int32) (v : Int32) (n : Nat) : Nat → Int32 := fun j => if j < n then v else f j
theorem sw_fil_0 (f : Nat → Int32) (v : Int32) : sw_fil f v 0 = f := by funext j; simp [sw_fil]
theorem sw_fil_s (f : Nat → Int32) (v : Int32) (n : Nat) : upd (sw_fil f v n) n v = sw_fil f v (n + 1) := by
  funext j
  by_cases h : j = n
  · subst h; simp [sw_fil, upd]
  · simp only [sw_fil, upd, h, if_false]
    by_cases h2 : j < n
    · rw [if_pos h2, if_pos (by omega)]
    · rw [if_neg h2, if_neg (by omega)]
theorem am_up_id (σ : am_M) (p : Nat) : am_up σ p (σ p) = σ := by funext q; by_cases h : q = p <;> simp [am_up, h]
theorem am_up_up (σ : am_M) (p : Nat) (f g : Nat → Int32) : am_up (am_up σ p f) p g = am_up σ p g := by funext q; by_cases h : q = p <;> simp [am_up, h]
def tr_fill : am_T := fun as L σ post => ∃ q v n, as = [.ref q, .int v] ∧ (L = LC ∨ L = lc_at 10 3) ∧ ((q = 19 ∧ n = 8) ∨ (q = 21 ∧ n = 4) ∨ (q = 26 ∧ n = 4) ∨ (q = 42 ∧ n = 8)) ∧ post none L (am_up σ q (sw_fil (σ q) v n))
theorem ct_fill (l : Launch) : am_Ct l 0 yJ7_fill_53178 cJ7_fill_53178 4 none tr_fill := by
  refine am_ct tbJ7_fill_53178 (am_G []) (by decide +kernel) (by simp) rfl dtJ7_fill_53178 rfl ckJ7_fill_53178 lkJ7_fill_53178 (am_nocalls rfl) ?_
  intro as L σ post h
  obtain ⟨q, v, n, rfl, hL, hq, h⟩ := h
  refine ⟨by simp [am_lv0], fun WW hw => ?_⟩
  have hn : n ≤ 8 := by omega
  have loop : ∀ (k i : Nat) (x : Int32) (σ' : am_M), i + k = n → x = nI i → σ' = am_up σ q (sw_fil (σ q) v i) → WW 6 [some (.ref q), some (.int v), some (.int x), some (.int (nI n))] [] L σ' := by
    intro k
    induction k with
    | zero =>
      intro i x σ' hi hx hs
      refine hw 30 _ _ _ _ _ ?_
      have e : i = n := by omega
      subst e
      subst hx
      subst hs
      rcases hL with rfl | rfl <;> rcases hq with ⟨rfl, rfl⟩ | ⟨rfl, rfl⟩ | ⟨rfl, rfl⟩ | ⟨rfl, rfl⟩
      all_goals
        conv => whnf
        exact ⟨fun _ => h, fun c => absurd (Int32.le_refl _) c⟩
    | succ k ih =>
      intro i x σ' hi hx hs
      refine hw 30 _ _ _ _ _ ?_
      subst hx
      have hlt : ¬ nI n ≤ nI i := nI_ge (by omega) (by omega)
      have hc : (nI i).toNatClampNeg = i := nI_cl (by omega)
      have hin : vp_in (nI i) n := vp_j (by omega) (by omega)
      rcases hL with rfl | rfl <;> rcases hq with ⟨rfl, rfl⟩ | ⟨rfl, rfl⟩ | ⟨rfl, rfl⟩ | ⟨rfl, rfl⟩
      all_goals
        conv => whnf
        refine ⟨fun c => absurd c hlt, fun _ => ?_⟩
        conv => whnf
        refine ⟨hin, ?_⟩
        conv => whnf
        refine ih (i + 1) _ _ (by omega) (nI_1 i) ?_
        rw [hs, am_us, am_up_up, hc, ← sw_fil_s]
        rfl
  refine hw 30 _ _ _ _ _ ?_
  rcases hL with rfl | rfl <;> rcases hq with ⟨rfl, rfl⟩ | ⟨rfl, rfl⟩ | ⟨rfl, rfl⟩ | ⟨rfl, rfl⟩
  all_goals
    conv => whnf
    exact loop _ 0 _ _ (Nat.zero_add _) rfl (by rw [sw_fil_0, am_up_id])
/-- what the class's land holds, as far as a year needs it -/
def sw_LC (σ : am_M) (m cn : Nat) (c e k : Nat → Nat) : Prop := σ 3 3 = nI m ∧ σ 3 0 = nI cn ∧ (∀ b, b < m → σ 4 b = nI (c b)) ∧ (∀ b, b < m → σ 5 b = nI (e b)) ∧ ∀ b, b < m → σ 8 b = nI (k b)
def sw_LB (m cn : Nat) (c e k : Nat → Nat) : Prop := m ≤ 8 ∧ cn ≤ 4 ∧ ∀ b, b < m → c b < cn ∧ e b ≤ 40 ∧ k b ≤ 3
def sw_FC (σ : am_M) (p a b c m : Nat) (F : sw_F) : Prop := (∀ j, j < m → σ a j = nI (F.1 j)) ∧ (∀ j, j < m → σ b j = nI (F.2.1 j)) ∧ (∀ j, j < m → σ c j = nI (F.2.2.1 j)) ∧ σ p 4 = F.2.2.2.1 ∧ σ p 5 = nI F.2.2.2.2.1 ∧ σ p 6 = nI F.2.2.2.2.2
def sw_FB (m : Nat) (e : Nat → Nat) (F : sw_F) : Prop := ∀ b, b < m → F.1 b ≤ e b ∧ F.2.1 b ≤ 40 ∧ F.2.2.1 b < 100
def sw_J (σ0 σ1 : am_M) (p a b d m : Nat) (n g h : Nat → Nat) (lo : Nat) : Prop :=
  am_fr [p, a, b, d] σ0 σ1 ∧ (∀ k, ¬ k = 5 → σ1 p k = σ0 p k) ∧ (∀ j, j < m → σ1 a j = nI (n j)) ∧ (∀ j, j < m → σ1 b j = nI (g j)) ∧ (∀ j, j < 4 → σ1 d j = nI (h j)) ∧ σ1 p 5 = nI lo
theorem sw_Jn {σ0 σ1 : am_M} {p a b d m : Nat} {n g h : Nat → Nat} {lo j v : Nat} (hd : ¬ p = a ∧ ¬ b = a ∧ ¬ d = a) (H : sw_J σ0 σ1 p a b d m n g h lo) : sw_J σ0 (am_w σ1 a j (nI v)) p a b d m (va_up n j v) g h lo := by
  obtain ⟨h1, h2, h3, h4, h5, h6⟩ := H
  refine ⟨aw_fr h1 (by simp), fun k hk => by rw [aw_n _ _ _ _ _ hd.1]; exact h2 k hk, fun i hi => ?_, fun i hi => by rw [aw_n _ _ _ _ _ hd.2.1]; exact h4 i hi, fun i hi => by rw [aw_n _ _ _ _ _ hd.2.2]; exact h5 i hi, by rw [aw_n _ _ _ _ _ hd.1]; exact h6⟩
  by_cases e : i = j
  · subst e; rw [aw_s, up_vs]
  · rw [aw_k _ _ _ _ _ e, up_vn _ _ _ _ e]; exact h3 i hi
theorem sw_Jg {σ0 σ1 : am_M} {p a b d m : Nat} {n g h : Nat → Nat} {lo j v : Nat} (hd : ¬ p = b ∧ ¬ a = b ∧ ¬ d = b) (H : sw_J σ0 σ1 p a b d m n g h lo) : sw_J σ0 (am_w σ1 b j (nI v)) p a b d m n (va_up g j v) h lo := by
  obtain ⟨h1, h2, h3, h4, h5, h6⟩ := H
  refine ⟨aw_fr h1 (by simp), fun k hk => by rw [aw_n _ _ _ _ _ hd.1]; exact h2 k hk, fun i hi => by rw [aw_n _ _ _ _ _ hd.2.1]; exact h3 i hi, fun i hi => ?_, fun i hi => by rw [aw_n _ _ _ _ _ hd.2.2]; exact h5 i hi, by rw [aw_n _ _ _ _ _ hd.1]; exact h6⟩
  by_cases e : i = j
  · subst e; rw [aw_s, up_vs]
  · rw [aw_k _ _ _ _ _ e, up_vn _ _ _ _ e]; exact h4 i hi
theorem sw_Jh {σ0 σ1 : am_M} {p a b d m : Nat} {n g h : Nat → Nat} {lo j v : Nat} (hd : ¬ p = d ∧ ¬ a = d ∧ ¬ b = d) (H : sw_J σ0 σ1 p a b d m n g h lo) : sw_J σ0 (am_w σ1 d j (nI v)) p a b d m n g (va_up h j v) lo := by
  obtain ⟨h1, h2, h3, h4, h5, h6⟩ := H
  refine ⟨aw_fr h1 (by simp), fun k hk => by rw [aw_n _ _ _ _ _ hd.1]; exact h2 k hk, fun i hi => by rw [aw_n _ _ _ _ _ hd.2.1]; exact h3 i hi, fun i hi => by rw [aw_n _ _ _ _ _ hd.2.2]; exact h4 i hi, fun i hi => ?_, by rw [aw_n _ _ _ _ _ hd.1]; exact h6⟩
  by_cases e : i = j
  · subst e; rw [aw_s, up_vs]
  · rw [aw_k _ _ _ _ _ e, up_vn _ _ _ _ e]; exact h5 i hi
theorem sw_Jl {σ0 σ1 : am_M} {p a b d m : Nat} {n g h : Nat → Nat} {lo v : Nat} (hd : ¬ a = p ∧ ¬ b = p ∧ ¬ d = p) (H : sw_J σ0 σ1 p a b d m n g h lo) : sw_J σ0 (am_w σ1 p 5 (nI v)) p a b d m n g h v := by
  obtain ⟨h1, h2, h3, h4, h5, h6⟩ := H
  exact ⟨aw_fr h1 (by simp), fun k hk => by rw [aw_k _ _ _ _ _ hk]; exact h2 k hk, fun i hi => by rw [aw_n _ _ _ _ _ hd.1]; exact h3 i hi, fun i hi => by rw [aw_n _ _ _ _ _ hd.2.1]; exact h4 i hi, fun i hi => by rw [aw_n _ _ _ _ _ hd.2.2]; exact h5 i hi, aw_s _ _ _ _⟩
def tr_passYear : am_T := fun as L σ post => ∃ p a b c d m cn co e k F r, as = [.ref p, .ref 3, .int (nI r)] ∧ L = LC ∧ sw_pl p a b c d ∧ sw_LC σ m cn co e k ∧ sw_LB m cn co e k ∧ r ≤ 9 ∧ sw_FC σ p a b c m F ∧ sw_FB m e F ∧ ∀ σ', am_fr [p, a, b, d] σ σ' → sw_FC σ' p a b c m (sw_yr m cn co e k r F) → post none L σ'
set_option maxHeartbeats 4000000 in
theorem ct_passYear (l : Launch) : am_Ct l 1 yX1_passYear cX1_passYear 5 none tr_passYear := by
  refine am_ct tbX1_passYear (am_G [tr_fill, tr_takeByCat, tr_isShut, tr_turnOut, tr_youngOf, tr_takeIn]) (by decide +kernel) (by simp) rfl dtX1_passYear rfl ckX1_passYear lkX1_passYear (am_cokF [(5, some (.invokestatic 38), 0, 2, 0, 0), (30, some (.invokevirtual 69), 1, 2, 1, 0), (35, some (.invokevirtual 73), 2, 2, 1, 0), (50, some (.invokevirtual 80), 3, 4, 1, 0), (72, some (.invokevirtual 84), 4, 4, 1, 0), (91, some (.invokevirtual 80), 3, 4, 1, 0), (112, some (.invokevirtual 73), 2, 2, 1, 0), (132, some (.invokevirtual 91), 5, 4, 1, 0), (190, some (.invokevirtual 73), 2, 2, 1, 0)] rfl (List.forall_mem_cons.mpr ⟨Or.inr (Or.inr (Or.inr ⟨0, _, _, _, _, by decide, (ct_fill l), lnX1_38⟩)), List.forall_mem_cons.mpr ⟨⟨0, _, _, _, _, by decide, (ct_takeByCat l), lnX1_69⟩, List.forall_mem_cons.mpr ⟨⟨0, _, _, _, _, by decide, (ct_isShut l), lnX1_73⟩, List.forall_mem_cons.mpr ⟨⟨0, _, _, _, _, by decide, (ct_turnOut l), lnX1_80⟩, List.forall_mem_cons.mpr ⟨⟨0, _, _, _, _, by decide, (ct_youngOf l), lnX1_84⟩, List.forall_mem_cons.mpr ⟨⟨0, _, _, _, _, by decide, (ct_turnOut l), lnX1_80⟩, List.forall_mem_cons.mpr ⟨⟨0, _, _, _, _, by decide, (ct_isShut l), lnX1_73⟩, List.forall_mem_cons.mpr ⟨⟨0, _, _, _, _, by decide, (ct_takeIn l), lnX1_91⟩, List.forall_mem_cons.mpr ⟨⟨0, _, _, _, _, by decide, (ct_isShut l), lnX1_73⟩, fun _ h => absurd h List.not_mem_nil⟩⟩⟩⟩⟩⟩⟩⟩⟩)) ?_
  intro as L σ post h
  obtain ⟨p, a, b, c, d, m, cn, co, e, k, ⟨n, g, f, s, lo, y⟩, r, rfl, rfl, hp, ⟨l1, l2, l3, l4, l5⟩, ⟨hm, hcn, hB⟩, hr, ⟨f1, f2, f3, f4, f5, f6⟩, hF, h⟩ := h
  refine ⟨by simp [am_lv0], fun WW hw => ?_⟩
  dsimp only at f1 f2 f3 f4 f5 f6 hF
  have hpl := hp
  have hn40 : ∀ b, b < m → n b ≤ 40 := fun b hb => Nat.le_trans (hF b hb).1 (hB b hb).2.1
  have he40 : ∀ b, b < m → e b ≤ 40 := fun b hb => (hB b hb).2.1
  have hdis : (¬ p = a ∧ ¬ b = a ∧ ¬ d = a) ∧ (¬ p = b ∧ ¬ a = b ∧ ¬ d = b) ∧ (¬ p = d ∧ ¬ a = d ∧ ¬ b = d) ∧ (¬ a = p ∧ ¬ b = p ∧ ¬ d = p) := by
    rcases hp with ⟨rfl, rfl, rfl, rfl, rfl⟩ | ⟨rfl, rfl, rfl, rfl, rfl⟩ <;> decide
  obtain ⟨dn, dg, dh, dl⟩ := hdis
  have hsame : ∀ (σ1 : am_M) (n g h : Nat → Nat) (lo : Nat), sw_J σ σ1 p a b d m n g h lo → σ1 3 = σ 3 ∧ σ1 4 = σ 4 ∧ σ1 5 = σ 5 ∧ σ1 8 = σ 8 ∧ σ1 c = σ c ∧ σ1 p 4 = s ∧ σ1 p 6 = nI y := by
    intro σ1 n g h lo H
    obtain ⟨h1, h2, -⟩ := H
    rw [h2 4 (by decide), h2 6 (by decide)]
    refine ⟨h1 3 ?_, h1 4 ?_, h1 5 ?_, h1 8 ?_, h1 c ?_, f4, f6⟩ <;> rcases hp with ⟨rfl, rfl, rfl, rfl, rfl⟩ | ⟨rfl, rfl, rfl, rfl, rfl⟩ <;> decide
  -- the end of it
  have fin : ∀ (σ1 : am_M), sw_J σ σ1 p a b d m (sw_it (sw_y4 e s r) m ((sw_it (sw_y2 co e s) m ((sw_it (sw_y1 co e k f s r) m (n, fun _ => 0, lo)).1, (sw_it (sw_y1 co e k f s r) m (n, fun _ => 0, lo)).2.1)).1, g)).1 (sw_it (sw_y4 e s r) m ((sw_it (sw_y2 co e s) m ((sw_it (sw_y1 co e k f s r) m (n, fun _ => 0, lo)).1, (sw_it (sw_y1 co e k f s r) m (n, fun _ => 0, lo)).2.1)).1, g)).2 (sw_it (sw_y2 co e s) m ((sw_it (sw_y1 co e k f s r) m (n, fun _ => 0, lo)).1, (sw_it (sw_y1 co e k f s r) m (n, fun _ => 0, lo)).2.1)).2 ((sw_it (sw_y1 co e k f s r) m (n, fun _ => 0, lo)).2.2 + sw_sum (sw_it (sw_y2 co e s) m ((sw_it (sw_y1 co e k f s r) m (n, fun _ => 0, lo)).1, (sw_it (sw_y1 co e k f s r) m (n, fun _ => 0, lo)).2.1)).2 cn) → post none LC (am_w σ1 p 6 (σ1 p 6 + 1)) := by
    intro σ1 H
    obtain ⟨e3, e4, e5, e8, ec, es, ey⟩ := hsame σ1 _ _ _ _ H
    obtain ⟨h1, h2, h3, h4, h5, h6⟩ := H
    have hcp : ¬ c = p := by rcases hp with ⟨rfl, rfl, rfl, rfl, rfl⟩ | ⟨rfl, rfl, rfl, rfl, rfl⟩ <;> decide
    refine h _ (aw_fr h1 (by simp)) ⟨fun j hj => ?_, fun j hj => ?_, fun j hj => ?_, ?_, ?_, ?_⟩
    · rw [aw_n _ _ _ _ _ dl.1]; exact h3 j hj
    · rw [aw_n _ _ _ _ _ dl.2.1]; exact h4 j hj
    · rw [aw_n _ _ _ _ _ hcp, ec]; exact f3 j hj
    · rw [aw_k _ _ _ _ _ (by decide)]; exact es
    · rw [aw_k _ _ _ _ _ (by decide)]; exact h6
    · rw [aw_s, ey]; exact nI_1 y
  generalize hu1 : sw_it (sw_y1 co e k f s r) m (n, fun _ => 0, lo) = u1 at fin
  generalize hu2 : sw_it (sw_y2 co e s) m (u1.1, u1.2.1) = u2 at fin
  obtain ⟨y1a, y1b, y1c⟩ := sw_y1_facts (c := co) (e := e) (k := k) (f := f) (s := s) (lo := lo) hr he40 hn40 m (Nat.le_refl m)
  rw [hu1] at y1a y1b y1c
  have hu2e : (∀ j, j < m → u2.1 j ≤ e j) ∧ ∀ q, u2.2 q ≤ 100 * m := by
    have := sw_y2_facts (c := co) (e := e) (s := s) (n := u1.1) (h := u1.2.1) y1b y1c m (Nat.le_refl m)
    rw [hu2] at this; exact this
  have uid : ∀ (f : Nat → Nat) (j : Nat), va_up f j (f j) = f := fun f j => by funext x; by_cases hx : x = j <;> simp [va_up, hx]
  -- the fourth walk
  have L4 : ∀ (q i : Nat) (x : Int32) (σ1 : am_M), i + q = m → x = nI i → sw_J σ σ1 p a b d m (sw_it (sw_y4 e s r) i (u2.1, g)).1 (sw_it (sw_y4 e s r) i (u2.1, g)).2 u2.2 (u1.2.2 + sw_sum u2.2 cn) → WW 107 [some (.ref p), some (.ref 3), some (.int (nI r)), some (.int x)] [] LC σ1 := by
    intro q
    induction q with
    | zero =>
      intro i x σ1 hi hx H
      have ei : i = m := by omega
      subst ei; subst hx
      refine hw 60 _ _ _ _ _ ?_
      obtain ⟨e3, -⟩ := hsame σ1 _ _ _ _ H
      have hle : σ1 3 3 ≤ nI i := by rw [e3, l1]; exact Int32.le_refl _
      have hfin := fin σ1 H
      rcases hp with ⟨rfl, rfl, rfl, rfl, rfl⟩ | ⟨rfl, rfl, rfl, rfl, rfl⟩
      all_goals
        conv => whnf
        exact ⟨fun _ => hfin, fun c => absurd hle c⟩
    | succ q ih =>
      intro i x σ1 hi hx H
      subst hx
      have him : i < m := by omega
      obtain ⟨e3, e4, e5, e8, ec, es, ey⟩ := hsame σ1 _ _ _ _ H
      obtain ⟨yf1, yf2⟩ := sw_y4_facts (s := s) (r := r) (g := g) hu2e.1 i (by omega)
      obtain ⟨q1, q2⟩ := yf1 i (Nat.le_refl i)
      have hin : vp_in (nI i) 8 := vp_j (by omega) (by decide)
      have hcl : (nI i).toNatClampNeg = i := nI_cl (by omega)
      have hni : (sw_it (sw_y4 e s r) i (u2.1, g)).1 i ≤ e i := by rw [q1]; exact hu2e.1 i him
      have hgi : (sw_it (sw_y4 e s r) i (u2.1, g)).2 i ≤ 40 := by rw [q2]; exact (hF i him).2.1
      have hei := he40 i him
      have nxt : ∀ σ2, sw_J σ σ2 p a b d m (va_up (sw_it (sw_y4 e s r) i (u2.1, g)).1 i (sw_one e s r i ((sw_it (sw_y4 e s r) i (u2.1, g)).1 i))) (va_up (sw_it (sw_y4 e s r) i (u2.1, g)).2 i (min ((sw_it (sw_y4 e s r) i (u2.1, g)).2 i) (sw_one e s r i ((sw_it (sw_y4 e s r) i (u2.1, g)).1 i)))) u2.2 (u1.2.2 + sw_sum u2.2 cn) → WW 107 [some (.ref p), some (.ref 3), some (.int (nI r)), some (.int (nI i + 1))] [] LC σ2 := fun σ2 H2 => ih (i + 1) _ σ2 (by omega) (nI_1 i) H2
      clear ih yf1 yf2 q1 q2
      generalize sw_it (sw_y4 e s r) i (u2.1, g) = u at H hni hgi nxt
      have hone := sw_one_le (s := s) (r := r) hni
      have M148 : ∀ (v : Int32) (σ2 : am_M), sw_J σ σ2 p a b d m (va_up u.1 i (sw_one e s r i (u.1 i))) u.2 u2.2 (u1.2.2 + sw_sum u2.2 cn) → WW 148 [some (.ref p), some (.ref 3), some (.int (nI r)), some (.int (nI i)), some (.int v)] [] LC σ2 := by
        intro v σ2 H2
        refine hw 60 _ _ _ _ _ ?_
        have r1 : σ2 a i = nI (sw_one e s r i (u.1 i)) := by rw [H2.2.2.1 i him, up_vs]
        have r2 : σ2 b i = nI (u.2 i) := H2.2.2.2.1 i him
        have hmn := nI_min (a := u.2 i) (b := sw_one e s r i (u.1 i)) (by omega) (by omega)
        have nx := nxt _ (sw_Jg dg (j := i) (v := min (u.2 i) (sw_one e s r i (u.1 i))) H2)
        rcases hp with ⟨rfl, rfl, rfl, rfl, rfl⟩ | ⟨rfl, rfl, rfl, rfl, rfl⟩
        all_goals
          conv => whnf
          refine ⟨hin, ?_⟩
          conv => whnf
          refine ⟨hin, ?_⟩
          conv => whnf
          refine ⟨hin, ?_⟩
          conv => whnf
          simp only [hcl, r1, r2, hmn]
          exact nx
      have M127 : ∀ (v : Int32), (v = 1 ∧ (8 ≤ r ∧ sw_bit s i = false ∧ 0 < u.1 i)) ∨ (v = 0 ∧ ¬ (8 ≤ r ∧ sw_bit s i = false ∧ 0 < u.1 i)) → WW 127 [some (.ref p), some (.ref 3), some (.int (nI r)), some (.int (nI i))] [.int v] LC σ1 := by
        intro v hv
        refine hw 60 _ _ _ _ _ ?_
        have r1 : σ1 a i = nI (u.1 i) := H.2.2.1 i him
        have r2 : σ1 5 i = nI (e i) := by rw [e5]; exact l4 i him
        have same : sw_one e s r i (u.1 i) = u.1 i → sw_J σ σ1 p a b d m (va_up u.1 i (sw_one e s r i (u.1 i))) u.2 u2.2 (u1.2.2 + sw_sum u2.2 cn) := fun h1 => by rw [h1, uid]; exact H
        have nx := M148 v _ (sw_Jn dn (j := i) (v := sw_one e s r i (u.1 i)) H)
        have sm := M148 v σ1
        rcases hp with ⟨rfl, rfl, rfl, rfl, rfl⟩ | ⟨rfl, rfl, rfl, rfl, rfl⟩
        all_goals
          conv => whnf
          refine ⟨fun c => ?_, fun c => ?_⟩
          · conv => whnf
            refine sm (same ?_)
            rcases hv with ⟨rfl, hv⟩ | ⟨rfl, hv⟩
            · exact absurd c (by decide)
            · exact if_neg (fun hh => hv ⟨hh.1, hh.2.1, hh.2.2.1⟩)
          · rcases hv with ⟨rfl, hv⟩ | ⟨rfl, hv⟩
            · conv => whnf
              refine ⟨hin, ?_⟩
              conv => whnf
              refine ⟨hin, ?_⟩
              conv => whnf
              rw [hcl, r1, r2, nI_le' (by omega) (by omega)]
              refine ⟨fun c2 => ?_, fun c2 => ?_⟩
              · conv => whnf
                refine sm (same ?_)
                exact if_neg (fun hh => by omega)
              · conv => whnf
                refine ⟨hin, ?_⟩
                conv => whnf
                refine ⟨hin, ?_⟩
                conv => whnf
                rw [show sw_one e s r i (u.1 i) = u.1 i + 1 from if_pos ⟨hv.1, hv.2.1, hv.2.2, by omega⟩, ← nI_1] at nx
                simp only [hcl, r1]
                exact nx
            · exact absurd rfl c
      clear nxt M148
      refine hw 60 _ _ _ _ _ ?_
      have hnle : ¬ σ1 3 3 ≤ nI i := by rw [e3, l1]; exact nI_ge him (by omega)
      have r1 : σ1 a i = nI (u.1 i) := H.2.2.1 i him
      have h8 : nI r < 8 ↔ r < 8 := nI_lt' (by omega) (by decide)
      have no := M127 0
      have yes := M127 1
      rcases hp with ⟨rfl, rfl, rfl, rfl, rfl⟩ | ⟨rfl, rfl, rfl, rfl, rfl⟩
      all_goals
        conv => whnf
        refine ⟨fun c => absurd c hnle, fun _ => ?_⟩
        conv => whnf
        rw [h8]
        refine ⟨fun c => no (Or.inr ⟨rfl, fun hh => by omega⟩), fun c => ?_⟩
        conv => whnf
        refine ⟨_, i, rfl, rfl, by decide, ?_⟩
        conv => whnf
        rw [es]
        refine ⟨fun c2 => no (Or.inr ⟨rfl, fun hh => ?_⟩), fun c2 => ?_⟩
        · rw [hh.2.1] at c2; exact c2 rfl
        · have hb : sw_bit s i = false := by
            cases hb : sw_bit s i with
            | false => rfl
            | true => rw [hb] at c2; exact absurd c2 (by decide)
          conv => whnf
          refine ⟨hin, ?_⟩
          conv => whnf
          rw [hcl, r1]
          refine ⟨fun c3 => no (Or.inr ⟨rfl, fun hh => ?_⟩), fun c3 => yes (Or.inl ⟨rfl, by omega, hb, ?_⟩)⟩
          · exact absurd c3 (nI_nle hh.2.2 (by omega))
          · rcases Nat.eq_zero_or_pos (u.1 i) with h0 | h0
            · rw [h0] at c3; exact absurd (Int32.le_refl _) c3
            · exact h0
  -- the third walk
  have L3 : ∀ (q i : Nat) (x : Int32) (σ1 : am_M), i + q = cn → x = nI i → sw_J σ σ1 p a b d m u2.1 g u2.2 (u1.2.2 + sw_sum u2.2 i) → WW 89 [some (.ref p), some (.ref 3), some (.int (nI r)), some (.int x)] [] LC σ1 := by
    intro q
    induction q with
    | zero =>
      intro i x σ1 hi hx H
      have ei : i = cn := by omega
      subst ei; subst hx
      refine hw 60 _ _ _ _ _ ?_
      obtain ⟨e3, -⟩ := hsame σ1 _ _ _ _ H
      have hle : σ1 3 0 ≤ nI i := by rw [e3, l2]; exact Int32.le_refl _
      have nx := L4 m 0 0 σ1 (Nat.zero_add _) rfl H
      rcases hp with ⟨rfl, rfl, rfl, rfl, rfl⟩ | ⟨rfl, rfl, rfl, rfl, rfl⟩
      all_goals
        conv => whnf
        exact ⟨fun _ => nx, fun c => absurd hle c⟩
    | succ q ih =>
      intro i x σ1 hi hx H
      subst hx
      obtain ⟨e3, -⟩ := hsame σ1 _ _ _ _ H
      have hnle : ¬ σ1 3 0 ≤ nI i := by rw [e3, l2]; exact nI_ge (by omega) (by omega)
      have hin : vp_in (nI i) 4 := vp_j (by omega) (by decide)
      have hcl : (nI i).toNatClampNeg = i := nI_cl (by omega)
      have r1 : σ1 d i = nI (u2.2 i) := H.2.2.2.2.1 i (by omega)
      have r2 : σ1 p 5 = nI (u1.2.2 + sw_sum u2.2 i) := H.2.2.2.2.2
      have nx := ih (i + 1) (nI i + 1) _ (by omega) (nI_1 i) (sw_Jl dl (v := u1.2.2 + sw_sum u2.2 (i + 1)) H)
      rw [show u1.2.2 + sw_sum u2.2 (i + 1) = u1.2.2 + sw_sum u2.2 i + u2.2 i from (Nat.add_assoc _ _ _).symm, ← nI_add] at nx
      refine hw 60 _ _ _ _ _ ?_
      rcases hp with ⟨rfl, rfl, rfl, rfl, rfl⟩ | ⟨rfl, rfl, rfl, rfl, rfl⟩
      all_goals
        conv => whnf
        refine ⟨fun c => absurd c hnle, fun _ => ?_⟩
        conv => whnf
        refine ⟨hin, ?_⟩
        conv => whnf
        simp only [hcl, r1, r2]
        exact nx
  -- the second walk
  have L2 : ∀ (q i : Nat) (x : Int32) (σ1 : am_M), i + q = m → x = nI i → sw_J σ σ1 p a b d m (sw_it (sw_y2 co e s) i (u1.1, u1.2.1)).1 g (sw_it (sw_y2 co e s) i (u1.1, u1.2.1)).2 u1.2.2 → WW 65 [some (.ref p), some (.ref 3), some (.int (nI r)), some (.int x)] [] LC σ1 := by
    intro q
    induction q with
    | zero =>
      intro i x σ1 hi hx H
      have ei : i = m := by omega
      subst ei; subst hx
      rw [hu2] at H
      refine hw 60 _ _ _ _ _ ?_
      obtain ⟨e3, -⟩ := hsame σ1 _ _ _ _ H
      have hle : σ1 3 3 ≤ nI i := by rw [e3, l1]; exact Int32.le_refl _
      have nx := L3 cn 0 0 σ1 (Nat.zero_add _) rfl H
      rcases hp with ⟨rfl, rfl, rfl, rfl, rfl⟩ | ⟨rfl, rfl, rfl, rfl, rfl⟩
      all_goals
        conv => whnf
        exact ⟨fun _ => nx, fun c => absurd hle c⟩
    | succ q ih =>
      intro i x σ1 hi hx H
      subst hx
      have him : i < m := by omega
      obtain ⟨e3, e4, e5, e8, ec, es, ey⟩ := hsame σ1 _ _ _ _ H
      obtain ⟨yf1, yf2⟩ := sw_y2_facts (c := co) (e := e) (s := s) (n := u1.1) (h := u1.2.1) y1b y1c i (by omega)
      have hn1 := yf1 i him
      have hh1 := yf2 (co i)
      have hin : vp_in (nI i) 8 := vp_j (by omega) (by decide)
      have hcl : (nI i).toNatClampNeg = i := nI_cl (by omega)
      have hnle : ¬ σ1 3 3 ≤ nI i := by rw [e3, l1]; exact nI_ge him (by omega)
      have hei := he40 i him
      have hci := (hB i him).1
      have r4 : σ1 4 i = nI (co i) := by rw [e4]; exact l3 i him
      have r5 : σ1 5 i = nI (e i) := by rw [e5]; exact l4 i him
      have ih' := fun σ2 => ih (i + 1) (nI i + 1) σ2 (by omega) (nI_1 i)
      rw [show sw_it (sw_y2 co e s) (i + 1) (u1.1, u1.2.1) = sw_y2 co e s i (sw_it (sw_y2 co e s) i (u1.1, u1.2.1)) from rfl] at ih'
      clear ih yf1 yf2
      generalize sw_it (sw_y2 co e s) i (u1.1, u1.2.1) = u at H hn1 hh1 ih'
      unfold sw_y2 at ih'
      have r1 : σ1 a i = nI (u.1 i) := H.2.2.1 i him
      have r2 : σ1 d (co i) = nI (u.2 (co i)) := H.2.2.2.2.1 (co i) (by omega)
      refine hw 60 _ _ _ _ _ ?_
      cases hb : sw_bit s i with
      | true =>
        rw [hb] at ih'
        have nx := ih' σ1 H
        rcases hp with ⟨rfl, rfl, rfl, rfl, rfl⟩ | ⟨rfl, rfl, rfl, rfl, rfl⟩
        all_goals
          conv => whnf
          refine ⟨fun c => absurd c hnle, fun _ => ?_⟩
          conv => whnf
          refine ⟨_, i, rfl, rfl, by decide, ?_⟩
          conv => whnf
          rw [es, hb]
          exact ⟨fun _ => nx, fun c => absurd c (by decide)⟩
      | false =>
        rw [hb] at ih'
        have nx := ih' _ (sw_Jh dh (j := co i) (v := u.2 (co i) - min (u.2 (co i)) (e i - u.1 i)) (sw_Jn dn (j := i) (v := u.1 i + min (u.2 (co i)) (e i - u.1 i)) H))
        rcases hp with ⟨rfl, rfl, rfl, rfl, rfl⟩ | ⟨rfl, rfl, rfl, rfl, rfl⟩
        all_goals
          conv => whnf
          refine ⟨fun c => absurd c hnle, fun _ => ?_⟩
          conv => whnf
          refine ⟨_, i, rfl, rfl, by decide, ?_⟩
          conv => whnf
          rw [es, hb]
          refine ⟨fun c => absurd rfl c, fun _ => ?_⟩
          conv => whnf
          refine ⟨hin, ?_⟩
          conv => whnf
          refine ⟨hin, ?_⟩
          conv => whnf
          rw [hcl, r4, r5]
          refine ⟨_, _, _, _, _, i, co i, e i, u.1 i, u.2 (co i), rfl, rfl, hpl, by omega, by omega, by omega, hn1, by omega, r1, r2, ?_⟩
          conv => whnf
          exact nx
  -- the first walk
  have L1 : ∀ (q i : Nat) (x : Int32) (σ1 : am_M), i + q = m → x = nI i → sw_J σ σ1 p a b d m (sw_it (sw_y1 co e k f s r) i (n, fun _ => 0, lo)).1 g (sw_it (sw_y1 co e k f s r) i (n, fun _ => 0, lo)).2.1 (sw_it (sw_y1 co e k f s r) i (n, fun _ => 0, lo)).2.2 → WW 7 [some (.ref p), some (.ref 3), some (.int (nI r)), some (.int x)] [] LC σ1 := by
    intro q
    induction q with
    | zero =>
      intro i x σ1 hi hx H
      have ei : i = m := by omega
      subst ei; subst hx
      rw [hu1] at H
      refine hw 60 _ _ _ _ _ ?_
      obtain ⟨e3, -⟩ := hsame σ1 _ _ _ _ H
      have hle : σ1 3 3 ≤ nI i := by rw [e3, l1]; exact Int32.le_refl _
      have nx := L2 i 0 0 σ1 (Nat.zero_add _) rfl H
      rcases hp with ⟨rfl, rfl, rfl, rfl, rfl⟩ | ⟨rfl, rfl, rfl, rfl, rfl⟩
      all_goals
        conv => whnf
        exact ⟨fun _ => nx, fun c => absurd hle c⟩
    | succ q ih =>
      intro i x σ1 hi hx H
      subst hx
      have him : i < m := by omega
      obtain ⟨e3, e4, e5, e8, ec, es, ey⟩ := hsame σ1 _ _ _ _ H
      obtain ⟨yf1, yf2, yf3⟩ := sw_y1_facts (c := co) (e := e) (k := k) (f := f) (s := s) (lo := lo) hr he40 hn40 i (by omega)
      have hn1 := yf1 i (Nat.le_refl i)
      have hni := hn40 i him
      have hin : vp_in (nI i) 8 := vp_j (by omega) (by decide)
      have hcl : (nI i).toNatClampNeg = i := nI_cl (by omega)
      have hnle : ¬ σ1 3 3 ≤ nI i := by rw [e3, l1]; exact nI_ge him (by omega)
      have hei := he40 i him
      obtain ⟨hci, -, hki⟩ := hB i him
      have r4 : σ 4 i = nI (co i) := l3 i him
      have r5 : σ 5 i = nI (e i) := l4 i him
      have r8 : σ 8 i = nI (k i) := l5 i him
      have ih' := fun σ2 => ih (i + 1) (nI i + 1) σ2 (by omega) (nI_1 i)
      rw [show sw_it (sw_y1 co e k f s r) (i + 1) (n, fun _ => 0, lo) = sw_y1 co e k f s r i (sw_it (sw_y1 co e k f s r) i (n, fun _ => 0, lo)) from rfl] at ih'
      clear ih yf1 yf2 yf3
      generalize sw_it (sw_y1 co e k f s r) i (n, fun _ => 0, lo) = u at H hn1 ih'
      unfold sw_y1 at ih'
      rw [hn1] at ih'
      have hct := sw_cat_le (k i) (n i)
      have hyg : sw_yg (k i) (n i - sw_cat (k i) (n i)) r (f i) ≤ 54 := sw_yg_le (by omega) hr
      have hfi : f i < 100 := (hF i him).2.2
      -- behind the cat
      have M21 : ∀ σ2, sw_J σ σ2 p a b d m (va_up u.1 i (n i - sw_cat (k i) (n i))) g u.2.1 (u.2.2 + sw_cat (k i) (n i)) → WW 21 [some (.ref p), some (.ref 3), some (.int (nI r)), some (.int (nI i))] [] LC σ2 := by
        intro σ2 H2
        obtain ⟨g3, g4, g5, g8, gc, gs, gy⟩ := hsame σ2 _ _ _ _ H2
        have r1 : σ2 a i = nI (n i - sw_cat (k i) (n i)) := by rw [H2.2.2.1 i him, up_vs]
        have r2 : σ2 d (co i) = nI (u.2.1 (co i)) := H2.2.2.2.2.1 (co i) (by omega)
        have rf : σ2 c i = nI (f i) := by rw [gc]; exact f3 i him
        rw [← g4] at r4; rw [← g5] at r5; rw [← g8] at r8
        generalize hn2 : n i - sw_cat (k i) (n i) = n2 at H2 r1 hyg ih'
        have hn2' : n2 ≤ 40 := by omega
        refine hw 60 _ _ _ _ _ ?_
        cases hb : sw_bit s i with
        | true =>
          rw [hb] at ih'
          have nx := ih' _ (by
            have := sw_Jh dh (j := co i) (v := u.2.1 (co i) + n2) (sw_Jn dn (j := i) (v := 0) H2)
            rw [show va_up (va_up u.1 i n2) i 0 = va_up u.1 i 0 from bx_uu _ _ _ _] at this
            exact this)
          rw [← nI_add] at nx
          rcases hp with ⟨rfl, rfl, rfl, rfl, rfl⟩ | ⟨rfl, rfl, rfl, rfl, rfl⟩
          all_goals
            conv => whnf
            refine ⟨_, i, rfl, rfl, by decide, ?_⟩
            conv => whnf
            rw [gs, hb]
            refine ⟨fun c => absurd c (by decide), fun _ => ?_⟩
            conv => whnf
            refine ⟨hin, ?_⟩
            conv => whnf
            rw [hcl, r4]
            refine ⟨_, _, _, _, _, i, co i, 0, n2, rfl, rfl, hpl, by omega, by omega, by omega, by omega, r1, ?_⟩
            conv => whnf
            rw [r2, Nat.min_zero, Nat.sub_zero]
            exact nx
        | false =>
          rw [hb] at ih'
          generalize hyv : sw_yg (k i) n2 r (f i) = yv at hyg ih'
          have nx := ih' _ (by
            have := sw_Jh dh (j := co i) (v := u.2.1 (co i) + (n2 + yv - e i)) (sw_Jn dn (j := i) (v := min (n2 + yv) (e i)) (sw_Jn dn (j := i) (v := n2 + yv) H2))
            rw [show va_up (va_up (va_up u.1 i n2) i (n2 + yv)) i (min (n2 + yv) (e i)) = va_up u.1 i (min (n2 + yv) (e i)) by rw [bx_uu, bx_uu]] at this
            exact this)
          rw [← nI_add (u.2.1 (co i))] at nx
          have hd1 : am_w σ2 a i (nI (n2 + yv)) 4 = σ2 4 ∧ am_w σ2 a i (nI (n2 + yv)) 5 = σ2 5 ∧ am_w σ2 a i (nI (n2 + yv)) d = σ2 d ∧ am_w σ2 a i (nI (n2 + yv)) a i = nI (n2 + yv) := by
            rcases hp with ⟨rfl, rfl, rfl, rfl, rfl⟩ | ⟨rfl, rfl, rfl, rfl, rfl⟩ <;> exact ⟨aw_n _ _ _ _ _ (by decide), aw_n _ _ _ _ _ (by decide), aw_n _ _ _ _ _ (by decide), aw_s _ _ _ _⟩
          rcases hp with ⟨rfl, rfl, rfl, rfl, rfl⟩ | ⟨rfl, rfl, rfl, rfl, rfl⟩
          all_goals
            conv => whnf
            refine ⟨_, i, rfl, rfl, by decide, ?_⟩
            conv => whnf
            rw [gs, hb]
            refine ⟨fun _ => ?_, fun c => absurd rfl c⟩
            conv => whnf
            refine ⟨hin, ?_⟩
            conv => whnf
            refine ⟨hin, ?_⟩
            conv => whnf
            rw [hcl, r8, r1]
            refine ⟨_, _, _, _, _, k i, i, r, n2, f i, rfl, rfl, hpl, by omega, hki, hr, hn2', by omega, r1, rf, ?_⟩
            conv => whnf
            refine ⟨hin, ?_⟩
            rw [hcl, hyv, nI_add]
            show am_wp _ _ _ _ _ _ _ _ _ _ (am_w σ2 _ i (nI (n2 + yv)))
            generalize hs3 : am_w σ2 _ i (nI (n2 + yv)) = σ3 at hd1 nx ⊢
            conv => whnf
            refine ⟨hin, ?_⟩
            conv => whnf
            refine ⟨hin, ?_⟩
            conv => whnf
            rw [hcl, hd1.1, hd1.2.1, r4, r5]
            refine ⟨_, _, _, _, _, i, co i, e i, n2 + yv, rfl, rfl, hpl, by omega, by omega, by omega, by omega, hd1.2.2.2, ?_⟩
            conv => whnf
            rw [hd1.2.2.1, r2]
            exact nx
      have r1 : σ1 a i = nI (n i) := by rw [H.2.2.1 i him, hn1]
      have rl : σ1 p 5 = nI u.2.2 := H.2.2.2.2.2
      rw [← e8] at r8
      have hk1 : nI (k i) = 1 ↔ k i = 1 := nI_eq' (by omega) (by decide)
      refine hw 60 _ _ _ _ _ ?_
      by_cases hk : k i = 1
      · have hcat : sw_cat (k i) (n i) = n i / 3 := if_pos hk
        have nx := M21 _ (sw_Jl dl (v := u.2.2 + sw_cat (k i) (n i)) (sw_Jn dn (j := i) (v := n i - sw_cat (k i) (n i)) H))
        rw [hcat, ← nI_add] at nx
        rcases hp with ⟨rfl, rfl, rfl, rfl, rfl⟩ | ⟨rfl, rfl, rfl, rfl, rfl⟩
        all_goals
          conv => whnf
          refine ⟨fun c => absurd c hnle, fun _ => ?_⟩
          conv => whnf
          refine ⟨hin, ?_⟩
          conv => whnf
          rw [hcl, r8]
          refine ⟨fun c => absurd (hk1.mpr hk) c, fun _ => ?_⟩
          conv => whnf
          refine ⟨_, _, _, _, _, i, n i, rfl, rfl, hpl, by omega, by omega, r1, ?_⟩
          conv => whnf
          rw [rl]
          exact nx
      · have hcat : sw_cat (k i) (n i) = 0 := if_neg hk
        have nx := M21 σ1 (by rw [hcat, Nat.sub_zero, Nat.add_zero, show va_up u.1 i (n i) = u.1 by rw [← hn1]; exact uid _ _]; exact H)
        rcases hp with ⟨rfl, rfl, rfl, rfl, rfl⟩ | ⟨rfl, rfl, rfl, rfl, rfl⟩
        all_goals
          conv => whnf
          refine ⟨fun c => absurd c hnle, fun _ => ?_⟩
          conv => whnf
          refine ⟨hin, ?_⟩
          conv => whnf
          rw [hcl, r8]
          exact ⟨fun _ => nx, fun c => absurd (hk1.mp c) hk⟩
  -- the entry
  have H0 : sw_J σ (am_up σ d (sw_fil (σ d) 0 4)) p a b d m n g (fun _ => 0) lo := by
    refine ⟨am_fr_up _ (am_fr_rf _ _) (by simp), fun k hk => ?_, fun j hj => ?_, fun j hj => ?_, fun j hj => ?_, ?_⟩
    · rw [am_un _ _ _ _ dh.1]
    · rw [am_un _ _ _ _ dh.2.1]; exact f1 j hj
    · rw [am_un _ _ _ _ dh.2.2]; exact f2 j hj
    · rw [am_us]; exact if_pos hj
    · rw [am_un _ _ _ _ dh.1]; exact f5
  have nx := L1 m 0 0 _ (Nat.zero_add _) rfl H0
  refine hw 60 _ _ _ _ _ ?_
  rcases hp with ⟨rfl, rfl, rfl, rfl, rfl⟩ | ⟨rfl, rfl, rfl, rfl, rfl⟩
  all_goals
    conv => whnf
    refine ⟨_, 0, 4, rfl, Or.inl rfl, by decide, ?_⟩
    conv => whnf
    exact nx
