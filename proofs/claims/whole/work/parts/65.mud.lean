/-! MUD, in numbers -/
def md_far (c : Nat → Nat) (q : Nat) (v f : Nat → Nat) : Nat → Nat := fun b => if c b = q then f b - v b else f b
def md_S (D : sw_D) (F : sw_F) (q : Nat) (v : Nat → Nat) : Nat := match D with
  | (cn, st, _, m, c, e, k, R, rn) => sw_cs (sw_yr m cn c e k (rn (F.2.2.2.2.2 % R)) (sw_far F (md_far c q v F.2.2.1))).1 c q m / st
theorem sw_yg_mono {k n r f f' : Nat} (h : f' ≤ f) : sw_yg k n r f ≤ sw_yg k n r f' := by
  have h1 : n * (r - f) ≤ n * (r - f') := Nat.mul_le_mul_left n (by omega)
  have h2 : n * (r - f) / 10 ≤ n * (r - f') / 10 := Nat.div_le_div_right h1
  unfold sw_yg
  split
  · exact Nat.le_refl _
  · split
    · omega
    · exact h2
theorem md_y1n {c e k f : Nat → Nat} {s : Int32} {r : Nat} {u : sw_Y} : ∀ i b, i ≤ b → (sw_it (sw_y1 c e k f s r) i u).1 b = u.1 b
  | 0, b, _ => rfl
  | i + 1, b, h => by
    have ih := md_y1n (c := c) (e := e) (k := k) (f := f) (s := s) (r := r) (u := u) i b (by omega)
    show (sw_y1 c e k f s r i (sw_it (sw_y1 c e k f s r) i u)).1 b = u.1 b
    unfold sw_y1
    split
    · show va_up _ i _ b = _
      rw [up_vn _ _ _ _ (by omega)]; exact ih
    · show va_up _ i _ b = _
      rw [up_vn _ _ _ _ (by omega)]; exact ih
theorem md_y1 {c e k f f' : Nat → Nat} {s : Int32} {r m : Nat} {n : Nat → Nat} {lo : Nat} (hf : ∀ b, b < m → f' b ≤ f b) : ∀ i, i ≤ m → (∀ b, (sw_it (sw_y1 c e k f s r) i (n, fun _ => 0, lo)).1 b ≤ (sw_it (sw_y1 c e k f' s r) i (n, fun _ => 0, lo)).1 b) ∧ ∀ q, (sw_it (sw_y1 c e k f s r) i (n, fun _ => 0, lo)).2.1 q ≤ (sw_it (sw_y1 c e k f' s r) i (n, fun _ => 0, lo)).2.1 q
  | 0, _ => ⟨fun _ => Nat.le_refl _, fun _ => Nat.le_refl _⟩
  | i + 1, hi => by
    obtain ⟨h1, h2⟩ := md_y1 (c := c) (e := e) (k := k) (s := s) (r := r) (n := n) (lo := lo) hf i (by omega)
    have n1 := md_y1n (c := c) (e := e) (k := k) (f := f) (s := s) (r := r) (u := (n, fun _ => 0, lo)) i i (Nat.le_refl i)
    have n2 := md_y1n (c := c) (e := e) (k := k) (f := f') (s := s) (r := r) (u := (n, fun _ => 0, lo)) i i (Nat.le_refl i)
    show (∀ b, (sw_y1 c e k f s r i (sw_it (sw_y1 c e k f s r) i (n, fun _ => 0, lo))).1 b ≤ (sw_y1 c e k f' s r i (sw_it (sw_y1 c e k f' s r) i (n, fun _ => 0, lo))).1 b) ∧ ∀ q, (sw_y1 c e k f s r i (sw_it (sw_y1 c e k f s r) i (n, fun _ => 0, lo))).2.1 q ≤ (sw_y1 c e k f' s r i (sw_it (sw_y1 c e k f' s r) i (n, fun _ => 0, lo))).2.1 q
    generalize sw_it (sw_y1 c e k f s r) i (n, fun _ => 0, lo) = u at *
    generalize sw_it (sw_y1 c e k f' s r) i (n, fun _ => 0, lo) = u' at *
    dsimp only at n1 n2
    have hy := sw_yg_mono (k := k i) (n := n i - sw_cat (k i) (n i)) (r := r) (hf i (by omega))
    unfold sw_y1
    rw [n1, n2]
    split
    · refine ⟨fun b => ?_, fun q => ?_⟩
      · show va_up u.1 i _ b ≤ va_up u'.1 i _ b
        by_cases hb : b = i
        · subst hb; rw [up_vs, up_vs]; exact Nat.le_refl _
        · rw [up_vn _ _ _ _ hb, up_vn _ _ _ _ hb]; exact h1 b
      · show va_up u.2.1 (c i) _ q ≤ va_up u'.2.1 (c i) _ q
        by_cases hq : q = c i
        · subst hq; rw [up_vs, up_vs]; have := h2 (c i); omega
        · rw [up_vn _ _ _ _ hq, up_vn _ _ _ _ hq]; exact h2 q
    · refine ⟨fun b => ?_, fun q => ?_⟩
      · show va_up u.1 i _ b ≤ va_up u'.1 i _ b
        by_cases hb : b = i
        · subst hb; rw [up_vs, up_vs]; omega
        · rw [up_vn _ _ _ _ hb, up_vn _ _ _ _ hb]; exact h1 b
      · show va_up u.2.1 (c i) _ q ≤ va_up u'.2.1 (c i) _ q
        by_cases hq : q = c i
        · subst hq; rw [up_vs, up_vs]; have := h2 (c i); omega
        · rw [up_vn _ _ _ _ hq, up_vn _ _ _ _ hq]; exact h2 q
theorem md_y2 {c e : Nat → Nat} {s : Int32} {m : Nat} {n n' h h' : Nat → Nat} (hn : ∀ b, n b ≤ n' b) (hh : ∀ q, h q ≤ h' q) (he : ∀ b, b < m → n' b ≤ e b) : ∀ i, i ≤ m → (∀ b, (sw_it (sw_y2 c e s) i (n, h)).1 b ≤ (sw_it (sw_y2 c e s) i (n', h')).1 b) ∧ (∀ q, (sw_it (sw_y2 c e s) i (n, h)).2 q ≤ (sw_it (sw_y2 c e s) i (n', h')).2 q) ∧ ∀ b, b < m → (sw_it (sw_y2 c e s) i (n', h')).1 b ≤ e b
  | 0, _ => ⟨hn, hh, he⟩
  | i + 1, hi => by
    obtain ⟨h1, h2, h3⟩ := md_y2 (c := c) (s := s) hn hh he i (by omega)
    show (∀ b, (sw_y2 c e s i (sw_it (sw_y2 c e s) i (n, h))).1 b ≤ (sw_y2 c e s i (sw_it (sw_y2 c e s) i (n', h'))).1 b) ∧ (∀ q, (sw_y2 c e s i (sw_it (sw_y2 c e s) i (n, h))).2 q ≤ (sw_y2 c e s i (sw_it (sw_y2 c e s) i (n', h'))).2 q) ∧ ∀ b, b < m → (sw_y2 c e s i (sw_it (sw_y2 c e s) i (n', h'))).1 b ≤ e b
    generalize sw_it (sw_y2 c e s) i (n, h) = u at *
    generalize sw_it (sw_y2 c e s) i (n', h') = u' at *
    have a1 := h1 i
    have a2 := h2 (c i)
    have a3 := h3 i (by omega)
    unfold sw_y2
    split
    · exact ⟨h1, h2, h3⟩
    · refine ⟨fun b => ?_, fun q => ?_, fun b hb => ?_⟩
      · show va_up u.1 i _ b ≤ va_up u'.1 i _ b
        by_cases hb : b = i
        · subst hb; rw [up_vs, up_vs]; omega
        · rw [up_vn _ _ _ _ hb, up_vn _ _ _ _ hb]; exact h1 b
      · show va_up u.2 (c i) _ q ≤ va_up u'.2 (c i) _ q
        by_cases hq : q = c i
        · subst hq; rw [up_vs, up_vs]; omega
        · rw [up_vn _ _ _ _ hq, up_vn _ _ _ _ hq]; exact h2 q
      · show va_up u'.1 i _ b ≤ e b
        by_cases hbi : b = i
        · subst hbi; rw [up_vs]; omega
        · rw [up_vn _ _ _ _ hbi]; exact h3 b hb
theorem sw_one_mono {e : Nat → Nat} {s : Int32} {r b n n' : Nat} (h : n ≤ n') (he : n' ≤ e b) : sw_one e s r b n ≤ sw_one e s r b n' := by
  unfold sw_one
  by_cases h1 : 8 ≤ r ∧ sw_bit s b = false
  · obtain ⟨h1, h2⟩ := h1
    simp only [h1, h2, true_and]
    split <;> split <;> omega
  · rw [if_neg (fun hh => h1 ⟨hh.1, hh.2.1⟩), if_neg (fun hh => h1 ⟨hh.1, hh.2.1⟩)]; exact h
theorem sw_cs_mono {f g c : Nat → Nat} {q : Nat} : ∀ n, (∀ b, b < n → f b ≤ g b) → sw_cs f c q n ≤ sw_cs g c q n
  | 0, _ => Nat.le_refl _
  | n + 1, h => by
    have ih := sw_cs_mono (c := c) (q := q) n (fun b hb => h b (by omega))
    have hn := h n (by omega)
    rw [sw_cs, sw_cs]
    split <;> omega
theorem md_S_mono {D : sw_D} {F : sw_F} {q : Nat} {v w : Nat → Nat} (hD : okD D) (hF : okF D.2.2.2.1 D.2.2.2.2.2.1 F) (h : ∀ b, b < D.2.2.2.1 → v b ≤ w b) : md_S D F q v ≤ md_S D F q w := by
  obtain ⟨cn, st, mn, m, c, e, k, R, rn⟩ := D
  obtain ⟨hcn, hm, -, -, -, -, hB, hR0, hR8, hrn⟩ := hD
  have he : ∀ b, b < m → e b ≤ 40 := fun b hb => (hB b hb).2.1
  obtain ⟨n, g, f, s, lo, y⟩ := F
  have h : ∀ b, b < m → v b ≤ w b := h
  show sw_cs (sw_yr m cn c e k (rn (y % R)) (sw_far (n, g, f, s, lo, y) (md_far c q v f))).1 c q m / st ≤ sw_cs (sw_yr m cn c e k (rn (y % R)) (sw_far (n, g, f, s, lo, y) (md_far c q w f))).1 c q m / st
  have hr := hrn _ (Nat.mod_lt y hR0)
  generalize rn (y % R) = r at hr
  have hn40 : ∀ b, b < m → n b ≤ 40 := fun b hb => Nat.le_trans (hF.1 b hb).1 (he b hb)
  have hff : ∀ b, b < m → md_far c q w f b ≤ md_far c q v f b := fun b hb => by
    have := h b hb
    unfold md_far; split <;> omega
  obtain ⟨p1, p2⟩ := md_y1 (c := c) (e := e) (k := k) (s := s) (r := r) (n := n) (lo := lo) hff m (Nat.le_refl m)
  obtain ⟨a1, a2, a3⟩ := sw_y1_facts (c := c) (e := e) (k := k) (f := md_far c q v f) (s := s) (n := n) (lo := lo) hr he hn40 m (Nat.le_refl m)
  obtain ⟨b1, b2, b3⟩ := sw_y1_facts (c := c) (e := e) (k := k) (f := md_far c q w f) (s := s) (n := n) (lo := lo) hr he hn40 m (Nat.le_refl m)
  obtain ⟨q1, q2, q3⟩ := md_y2 (c := c) (s := s) p1 p2 b2 m (Nat.le_refl m)
  obtain ⟨d1, d2⟩ := sw_y2_facts (c := c) (e := e) (s := s) a2 a3 m (Nat.le_refl m)
  obtain ⟨-, x2⟩ := sw_y4_facts (s := s) (r := r) (g := g) d1 m (Nat.le_refl m)
  obtain ⟨-, z2⟩ := sw_y4_facts (s := s) (r := r) (g := g) q3 m (Nat.le_refl m)
  refine Nat.div_le_div_right (sw_cs_mono m (fun b hb => ?_))
  have i1 : (sw_yr m cn c e k r (sw_far (n, g, f, s, lo, y) (md_far c q v f))).1 b = _ := (x2 b hb).1
  have i2 : (sw_yr m cn c e k r (sw_far (n, g, f, s, lo, y) (md_far c q w f))).1 b = _ := (z2 b hb).1
  rw [i1, i2]
  exact sw_one_mono (q1 b) (q3 b hb)
theorem md_y1_eq {c e k f f' : Nat → Nat} {s : Int32} {r m : Nat} {u : sw_Y} (hf : ∀ b, b < m → sw_bit s b = true ∨ k b = 2 ∨ f' b = f b) : ∀ i, i ≤ m → sw_it (sw_y1 c e k f s r) i u = sw_it (sw_y1 c e k f' s r) i u
  | 0, _ => rfl
  | i + 1, hi => by
    have ih := md_y1_eq (c := c) (e := e) (u := u) (r := r) hf i (by omega)
    show sw_y1 c e k f s r i (sw_it (sw_y1 c e k f s r) i u) = sw_y1 c e k f' s r i (sw_it (sw_y1 c e k f' s r) i u)
    rw [ih]
    unfold sw_y1
    rcases hf i (by omega) with h | h | h
    · rw [if_pos h, if_pos h]
    · have hz : ∀ n f, sw_yg (k i) n r f = 0 := fun n f => by rw [h]; rfl
      rw [hz, hz]
    · rw [h]
/-- how much mud can be of use -/
def md_us (D : sw_D) (F : sw_F) (q : Nat) : Nat → Nat := fun b => if D.2.2.2.2.1 b = q ∧ (sw_bit F.2.2.2.1 b = false ∧ ¬ D.2.2.2.2.2.2.1 b = 2) then F.2.2.1 b else 0
theorem md_S_use {D : sw_D} {F : sw_F} {q : Nat} {v : Nat → Nat} : md_S D F q (fun b => min (v b) (md_us D F q b)) = md_S D F q v := by
  obtain ⟨cn, st, mn, m, c, e, k, R, rn⟩ := D
  obtain ⟨n, g, f, s, lo, y⟩ := F
  have hu := md_y1_eq (c := c) (e := e) (k := k) (s := s) (m := m) (r := rn (y % R)) (u := (n, fun _ => 0, lo)) (f := md_far c q (fun b => min (v b) (md_us (cn, st, mn, m, c, e, k, R, rn) (n, g, f, s, lo, y) q b)) f) (f' := md_far c q v f) (fun b hb => by
    by_cases h1 : sw_bit s b = true
    · exact Or.inl h1
    · by_cases h2 : k b = 2
      · exact Or.inr (Or.inl h2)
      · refine Or.inr (Or.inr ?_)
        unfold md_far
        by_cases h3 : c b = q
        · rw [if_pos h3, if_pos h3]
          have : md_us (cn, st, mn, m, c, e, k, R, rn) (n, g, f, s, lo, y) q b = f b := if_pos ⟨h3, by simpa using h1, h2⟩
          show f b - v b = f b - min (v b) (md_us (cn, st, mn, m, c, e, k, R, rn) (n, g, f, s, lo, y) q b)
          rw [this]; omega
        · rw [if_neg h3, if_neg h3]) m (Nat.le_refl m)
  show sw_cs (sw_yr m cn c e k (rn (y % R)) (sw_far (n, g, f, s, lo, y) (md_far c q (fun b => min (v b) (md_us (cn, st, mn, m, c, e, k, R, rn) (n, g, f, s, lo, y) q b)) f))).1 c q m / st = sw_cs (sw_yr m cn c e k (rn (y % R)) (sw_far (n, g, f, s, lo, y) (md_far c q v f))).1 c q m / st
  have : (sw_yr m cn c e k (rn (y % R)) (sw_far (n, g, f, s, lo, y) (md_far c q (fun b => min (v b) (md_us (cn, st, mn, m, c, e, k, R, rn) (n, g, f, s, lo, y) q b)) f))).1 = (sw_yr m cn c e k (rn (y % R)) (sw_far (n, g, f, s, lo, y) (md_far c q v f))).1 := by
    unfold sw_yr sw_far
    dsimp only
    rw [hu]
  rw [this]
theorem md_S_congr {D : sw_D} {F : sw_F} {q : Nat} {v w : Nat → Nat} (h : ∀ b, b < D.2.2.2.1 → v b = w b) : md_S D F q v = md_S D F q w := by
  obtain ⟨cn, st, mn, m, c, e, k, R, rn⟩ := D
  obtain ⟨n, g, f, s, lo, y⟩ := F
  have h : ∀ b, b < m → v b = w b := h
  have hu := md_y1_eq (c := c) (e := e) (k := k) (s := s) (m := m) (r := rn (y % R)) (u := (n, fun _ => 0, lo)) (f := md_far c q v f) (f' := md_far c q w f) (fun b hb => Or.inr (Or.inr (by unfold md_far; rw [h b hb]))) m (Nat.le_refl m)
  show sw_cs (sw_yr m cn c e k (rn (y % R)) (sw_far (n, g, f, s, lo, y) (md_far c q v f))).1 c q m / st = sw_cs (sw_yr m cn c e k (rn (y % R)) (sw_far (n, g, f, s, lo, y) (md_far c q w f))).1 c q m / st
  have : (sw_yr m cn c e k (rn (y % R)) (sw_far (n, g, f, s, lo, y) (md_far c q v f))).1 = (sw_yr m cn c e k (rn (y % R)) (sw_far (n, g, f, s, lo, y) (md_far c q w f))).1 := by
    unfold sw_yr sw_far
    dsimp only
    rw [hu]
  rw [this]
/-! shares as one number -/
def md_cd (v : Nat → Nat) : Nat → Nat
  | 0 => 0
  | b + 1 => 6 * md_cd v b + v b
theorem md_cd_eq {v w : Nat → Nat} : ∀ n, (∀ b, b < n → v b = w b) → md_cd v n = md_cd w n
  | 0, _ => rfl
  | n + 1, h => by rw [md_cd, md_cd, md_cd_eq n (fun b hb => h b (by omega)), h n (by omega)]
theorem md_cd_lt {v : Nat → Nat} : ∀ n, (∀ b, b < n → v b ≤ 5) → md_cd v n < 6 ^ n
  | 0, _ => Nat.one_pos
  | n + 1, h => by
    have ih := md_cd_lt n (fun b hb => h b (by omega))
    have := h n (by omega)
    rw [md_cd, Nat.pow_succ]; omega
theorem md_cd_lex {v w : Nat → Nat} {i : Nat} (ha : ∀ b, b < i → v b = w b) (hi : v i < w i) : ∀ d, (∀ b, b < i + 1 + d → v b ≤ 5) → md_cd v (i + 1 + d) < md_cd w (i + 1 + d)
  | 0, _ => by
    show 6 * md_cd v i + v i < 6 * md_cd w i + w i
    rw [md_cd_eq i ha]; omega
  | d + 1, h => by
    have ih := md_cd_lex ha hi d (fun b hb => h b (by omega))
    have := h (i + 1 + d) (by omega)
    show 6 * md_cd v (i + 1 + d) + v (i + 1 + d) < 6 * md_cd w (i + 1 + d) + w (i + 1 + d)
    omega
theorem md_lex8 {v w : Nat → Nat} {i : Nat} (hi8 : i < 8) (ha : ∀ b, b < i → v b = w b) (hi : v i < w i) (h5 : ∀ b, b < 8 → v b ≤ 5) : md_cd v 8 < md_cd w 8 := by
  have := md_cd_lex ha hi (7 - i) (fun b hb => h5 b (by omega))
  rw [show i + 1 + (7 - i) = 8 by omega] at this
  exact this
/-- two rows are the same, or differ first somewhere -/
theorem md_first {v w : Nat → Nat} : ∀ n, (∀ b, b < n → v b = w b) ∨ ∃ i, i < n ∧ (∀ b, b < i → v b = w b) ∧ ¬ v i = w i
  | 0 => Or.inl (fun b hb => absurd hb (Nat.not_lt_zero b))
  | n + 1 => by
    rcases md_first (v := v) (w := w) n with h | ⟨i, h1, h2, h3⟩
    · by_cases hn : v n = w n
      · exact Or.inl (fun b hb => by
          by_cases e : b = n
          · subst e; exact hn
          · exact h b (by omega))
      · exact Or.inr ⟨n, by omega, h, hn⟩
    · exact Or.inr ⟨i, by omega, h2, h3⟩
def md_dv (z : Nat) : Nat → Nat
  | 0 => z
  | k + 1 => md_dv z k / 6
theorem md_dv_cd {v : Nat → Nat} {n : Nat} (h : ∀ b, b < n → v b ≤ 5) : ∀ k, k ≤ n → md_dv (md_cd v n) k = md_cd v (n - k)
  | 0, _ => rfl
  | k + 1, hk => by
    rw [md_dv, md_dv_cd h k (by omega), show n - k = (n - (k + 1)) + 1 by omega, md_cd]
    have := h (n - (k + 1)) (by omega)
    omega
theorem md_fig {v : Nat → Nat} {j : Nat} (hj : j < 8) (h : ∀ b, b < 8 → v b ≤ 5) : md_dv (md_cd v 8) (7 - j) % 6 = v j := by
  rw [md_dv_cd h (7 - j) (by omega), show 8 - (7 - j) = j + 1 by omega, md_cd]
  have := h j hj
  omega
theorem sw_sum_le {v w : Nat → Nat} : ∀ n, (∀ b, b < n → v b ≤ w b) → sw_sum v n ≤ sw_sum w n ∧ (sw_sum v n = sw_sum w n → ∀ b, b < n → v b = w b)
  | 0, _ => ⟨Nat.le_refl _, fun _ b hb => absurd hb (Nat.not_lt_zero b)⟩
  | n + 1, h => by
    obtain ⟨i1, i2⟩ := sw_sum_le n (fun b hb => h b (by omega))
    have := h n (by omega)
    rw [sw_sum, sw_sum]
    refine ⟨by omega, fun he b hb => ?_⟩
    by_cases e : b = n
    · subst e; omega
    · exact i2 (by omega) b (by omega)
theorem sw_sum_ge {v : Nat → Nat} : ∀ n b, b < n → v b ≤ sw_sum v n
  | 0, b, hb => absurd hb (Nat.not_lt_zero b)
  | n + 1, b, hb => by
    rw [sw_sum]
    by_cases e : b = n
    · subst e; omega
    · have := sw_sum_ge (v := v) n b (by omega); omega
theorem sw_sum_up {v : Nat → Nat} {i x : Nat} (h0 : v i = 0) : ∀ n, i < n → sw_sum (va_up v i x) n = sw_sum v n + x
  | 0, hi => absurd hi (Nat.not_lt_zero i)
  | n + 1, hi => by
    rw [sw_sum, sw_sum]
    by_cases e : i = n
    · subst e
      rw [up_vs, h0]
      have : ∀ n, n ≤ i → sw_sum (va_up v i x) n = sw_sum v n := by
        intro n
        induction n with
        | zero => intro _; rfl
        | succ n ih => intro hn; rw [sw_sum, sw_sum, ih (by omega), up_vn _ _ _ _ (by omega)]
      rw [this i (Nat.le_refl i)]; omega
    · rw [sw_sum_up h0 n (by omega), up_vn _ _ _ _ (fun q => e q.symm)]; omega
theorem sw_sum_0 {v : Nat → Nat} : ∀ n, (∀ b, b < n → v b = 0) → sw_sum v n = 0
  | 0, _ => rfl
  | n + 1, h => by rw [sw_sum, sw_sum_0 n (fun b hb => h b (by omega)), h n (by omega)]
/-! the least of them -/
theorem md_min {P : Nat → Prop} (h : ∃ K, P K) : ∃ K, P K ∧ ∀ y, y < K → ¬ P y := by
  obtain ⟨K, hK⟩ := h
  induction K using Nat.strongRecOn with
  | ind K ih =>
    by_cases hc : ∃ y, y < K ∧ P y
    · obtain ⟨y, h1, h2⟩ := hc
      exact ih y h1 h2
    · exact ⟨K, hK, fun y h1 h2 => hc ⟨y, h1, h2⟩⟩
noncomputable def md_o (P : Nat → Prop) : Option Nat := @dite _ (∃ K, P K) (Classical.propDecidable _) (fun h => some (Classical.choose (md_min h))) (fun _ => none)
theorem md_o_some {P : Nat → Prop} {K : Nat} (h : P K) (hl : ∀ y, y < K → ¬ P y) : md_o P = some K := by
  have hex : ∃ K, P K := ⟨K, h⟩
  unfold md_o
  rw [dif_pos hex]
  obtain ⟨h1, h2⟩ := Classical.choose_spec (md_min hex)
  generalize Classical.choose (md_min hex) = z at *
  have : z = K := by
    rcases Nat.lt_trichotomy z K with q | q | q
    · exact absurd h1 (hl z q)
    · exact q
    · exact absurd h (h2 K q)
  rw [this]
theorem md_o_none {P : Nat → Prop} (h : ∀ K, ¬ P K) : md_o P = none := by
  unfold md_o
  rw [dif_neg (fun hh => by obtain ⟨K, hK⟩ := hh; exact h K hK)]
def md_ok (D : sw_D) (q : Nat) (v : Nat → Nat) : Prop := ∀ b, ¬ (b < D.2.2.2.1 ∧ D.2.2.2.2.1 b = q) → v b = 0
def md_P (D : sw_D) (F : sw_F) (q K : Nat) : Prop := ∃ v n, md_ok D q v ∧ sw_sum v 8 = n ∧ 0 < n ∧ n ≤ 5 ∧ md_S D F q (fun _ => 0) < md_S D F q v ∧ K = n * 1679616 + md_cd v 8
theorem md_cd8 {v : Nat → Nat} (h : ∀ b, b < 8 → v b ≤ 5) : md_cd v 8 < 1679616 := md_cd_lt 8 h
theorem md_bnd {v : Nat → Nat} (h : sw_sum v 8 ≤ 5) : ∀ b, b < 8 → v b ≤ 5 := fun b hb => Nat.le_trans (sw_sum_ge 8 b hb) h
noncomputable def st_leastMud (A : sw_A) (x y : Int32) : Int32 × sw_A := match A with
  | (_, D, F, _) => match sw_ix x 0 D.1 with
    | none => (-1000000001, A)
    | some q => if y = -1 then (match md_o (md_P D F q) with
        | none => (-1, A)
        | some K => (nI (K / 1679616), A)) else match sw_ix y 0 D.2.2.2.1 with
      | none => (-1000000001, A)
      | some j => if D.2.2.2.2.1 j = q then (match md_o (md_P D F q) with
        | none => (-1, A)
        | some K => (nI (md_dv (K % 1679616) (7 - j) % 6), A)) else (-1000000001, A)
