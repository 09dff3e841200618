/-! A YEAR, in numbers -/
def sw_it {α : Type} (g : Nat → α → α) : Nat → α → α
  | 0, u => u
  | n + 1, u => g n (sw_it g n u)
def sw_bit (s : Int32) (b : Nat) : Bool := !((s >>> (nI b &&& 31)) &&& 1 == 0)
theorem sw_bit_f {s : Int32} {b : Nat} (h : (s >>> (nI b &&& 31)) &&& 1 = 0) : sw_bit s b = false := by simp [sw_bit, h]
theorem sw_bit_t {s : Int32} {b : Nat} (h : ¬ (s >>> (nI b &&& 31)) &&& 1 = 0) : sw_bit s b = true := by simp [sw_bit, h]
def sw_b2 (b : Bool) : Int32 := if b then 1 else 0
def sw_cat (k n : Nat) : Nat := if k = 1 then n / 3 else 0
def sw_yg (k n r f : Nat) : Nat := if k = 2 then 0 else if k = 3 then n * (r - f) / 10 + n * (r - f) / 10 / 2 else n * (r - f) / 10
abbrev sw_Y : Type := (Nat → Nat) × (Nat → Nat) × Nat
def sw_y1 (c e k f : Nat → Nat) (s : Int32) (r b : Nat) (u : sw_Y) : sw_Y :=
  if sw_bit s b then (va_up u.1 b 0, va_up u.2.1 (c b) (u.2.1 (c b) + (u.1 b - sw_cat (k b) (u.1 b))), u.2.2 + sw_cat (k b) (u.1 b))
  else (va_up u.1 b (min (u.1 b - sw_cat (k b) (u.1 b) + sw_yg (k b) (u.1 b - sw_cat (k b) (u.1 b)) r (f b)) (e b)), va_up u.2.1 (c b) (u.2.1 (c b) + (u.1 b - sw_cat (k b) (u.1 b) + sw_yg (k b) (u.1 b - sw_cat (k b) (u.1 b)) r (f b) - e b)), u.2.2 + sw_cat (k b) (u.1 b))
def sw_y2 (c e : Nat → Nat) (s : Int32) (b : Nat) (u : (Nat → Nat) × (Nat → Nat)) : (Nat → Nat) × (Nat → Nat) :=
  if sw_bit s b then u else (va_up u.1 b (u.1 b + min (u.2 (c b)) (e b - u.1 b)), va_up u.2 (c b) (u.2 (c b) - min (u.2 (c b)) (e b - u.1 b)))
def sw_one (e : Nat → Nat) (s : Int32) (r b n : Nat) : Nat := if 8 ≤ r ∧ sw_bit s b = false ∧ 0 < n ∧ n < e b then n + 1 else n
def sw_y4 (e : Nat → Nat) (s : Int32) (r b : Nat) (u : (Nat → Nat) × (Nat → Nat)) : (Nat → Nat) × (Nat → Nat) :=
  (va_up u.1 b (sw_one e s r b (u.1 b)), va_up u.2 b (min (u.2 b) (sw_one e s r b (u.1 b))))
def sw_sum (h : Nat → Nat) : Nat → Nat
  | 0 => 0
  | n + 1 => sw_sum h n + h n
theorem up_vs {α : Type} (f : Nat → α) (k : Nat) (v : α) : va_up f k v k = v := by simp [va_up]
theorem up_vn {α : Type} (f : Nat → α) (k j : Nat) (v : α) (h : ¬ j = k) : va_up f k v j = f j := by simp [va_up, h]
theorem sw_cat_le (k n : Nat) : sw_cat k n ≤ n := by unfold sw_cat; split <;> omega
theorem sw_yg_le {k n r f : Nat} (hn : n ≤ 40) (hr : r ≤ 9) : sw_yg k n r f ≤ 54 := by
  have h1 : n * (r - f) ≤ 40 * 9 := Nat.mul_le_mul hn (by omega)
  unfold sw_yg; split
  · omega
  · split <;> omega
/-- the first walk over the barns: those not yet seen are as they were; homeless ones are few -/
theorem sw_y1_facts {c e k f : Nat → Nat} {s : Int32} {r m : Nat} {n : Nat → Nat} {lo : Nat} (hr : r ≤ 9) (he : ∀ b, b < m → e b ≤ 40) (hn : ∀ b, b < m → n b ≤ 40) : ∀ i, i ≤ m →
    (∀ b, i ≤ b → (sw_it (sw_y1 c e k f s r) i (n, fun _ => 0, lo)).1 b = n b) ∧ (∀ b, b < i → (sw_it (sw_y1 c e k f s r) i (n, fun _ => 0, lo)).1 b ≤ e b) ∧ ∀ q, (sw_it (sw_y1 c e k f s r) i (n, fun _ => 0, lo)).2.1 q ≤ 100 * i
  | 0, _ => ⟨fun _ _ => rfl, fun b h => absurd h (Nat.not_lt_zero b), fun _ => Nat.le_refl 0⟩
  | i + 1, hi => by
    obtain ⟨h1, h2, h3⟩ := sw_y1_facts (c := c) (e := e) (k := k) (f := f) (s := s) (lo := lo) hr he hn i (by omega)
    have hu := h1 i (Nat.le_refl i)
    have hni := hn i (by omega)
    have hy : sw_yg (k i) (n i - sw_cat (k i) (n i)) r (f i) ≤ 54 := sw_yg_le (by omega) hr
    show (∀ b, i + 1 ≤ b → (sw_y1 c e k f s r i (sw_it (sw_y1 c e k f s r) i (n, fun _ => 0, lo))).1 b = n b) ∧ (∀ b, b < i + 1 → (sw_y1 c e k f s r i (sw_it (sw_y1 c e k f s r) i (n, fun _ => 0, lo))).1 b ≤ e b) ∧ ∀ q, (sw_y1 c e k f s r i (sw_it (sw_y1 c e k f s r) i (n, fun _ => 0, lo))).2.1 q ≤ 100 * (i + 1)
    generalize sw_it (sw_y1 c e k f s r) i (n, fun _ => 0, lo) = u at h1 h2 h3 hu ⊢
    unfold sw_y1
    rw [hu]
    split
    · refine ⟨fun b hb => ?_, fun b hb => ?_, fun q => ?_⟩
      · show va_up u.1 i 0 b = n b
        rw [up_vn _ _ _ _ (by omega)]; exact h1 b (by omega)
      · show va_up u.1 i 0 b ≤ e b
        by_cases hbi : b = i
        · subst hbi; rw [up_vs]; omega
        · rw [up_vn _ _ _ _ hbi]; exact h2 b (by omega)
      · show va_up u.2.1 (c i) (u.2.1 (c i) + (n i - sw_cat (k i) (n i))) q ≤ 100 * (i + 1)
        by_cases hq : q = c i
        · subst hq; rw [up_vs]; have := h3 (c i); omega
        · rw [up_vn _ _ _ _ hq]; have := h3 q; omega
    · refine ⟨fun b hb => ?_, fun b hb => ?_, fun q => ?_⟩
      · show va_up u.1 i _ b = n b
        rw [up_vn _ _ _ _ (by omega)]; exact h1 b (by omega)
      · show va_up u.1 i _ b ≤ e b
        by_cases hbi : b = i
        · subst hbi; rw [up_vs]; exact Nat.min_le_right _ _
        · rw [up_vn _ _ _ _ hbi]; exact h2 b (by omega)
      · show va_up u.2.1 (c i) _ q ≤ 100 * (i + 1)
        by_cases hq : q = c i
        · subst hq; rw [up_vs]; have := h3 (c i); omega
        · rw [up_vn _ _ _ _ hq]; have := h3 q; omega
theorem sw_y2_facts {c e : Nat → Nat} {s : Int32} {m H : Nat} {n h : Nat → Nat} (hn : ∀ b, b < m → n b ≤ e b) (hh : ∀ q, h q ≤ H) : ∀ i, i ≤ m →
    (∀ b, b < m → (sw_it (sw_y2 c e s) i (n, h)).1 b ≤ e b) ∧ ∀ q, (sw_it (sw_y2 c e s) i (n, h)).2 q ≤ H
  | 0, _ => ⟨hn, hh⟩
  | i + 1, hi => by
    obtain ⟨h1, h2⟩ := sw_y2_facts (c := c) (s := s) hn hh i (by omega)
    show (∀ b, b < m → (sw_y2 c e s i (sw_it (sw_y2 c e s) i (n, h))).1 b ≤ e b) ∧ ∀ q, (sw_y2 c e s i (sw_it (sw_y2 c e s) i (n, h))).2 q ≤ H
    generalize sw_it (sw_y2 c e s) i (n, h) = u at h1 h2 ⊢
    unfold sw_y2
    split
    · exact ⟨h1, h2⟩
    · refine ⟨fun b hb => ?_, fun q => ?_⟩
      · show va_up u.1 i _ b ≤ e b
        by_cases hbi : b = i
        · subst hbi; rw [up_vs]; have := h1 b hb; omega
        · rw [up_vn _ _ _ _ hbi]; exact h1 b hb
      · show va_up u.2 (c i) _ q ≤ H
        by_cases hq : q = c i
        · subst hq; rw [up_vs]; have := h2 (c i); omega
        · rw [up_vn _ _ _ _ hq]; exact h2 q
theorem sw_one_le {e : Nat → Nat} {s : Int32} {r b n : Nat} (h : n ≤ e b) : sw_one e s r b n ≤ e b := by unfold sw_one; split <;> omega
theorem sw_y4_facts {e : Nat → Nat} {s : Int32} {r m : Nat} {n g : Nat → Nat} (hn : ∀ b, b < m → n b ≤ e b) : ∀ i, i ≤ m →
    (∀ b, i ≤ b → (sw_it (sw_y4 e s r) i (n, g)).1 b = n b ∧ (sw_it (sw_y4 e s r) i (n, g)).2 b = g b) ∧ (∀ b, b < i → (sw_it (sw_y4 e s r) i (n, g)).1 b = sw_one e s r b (n b) ∧ (sw_it (sw_y4 e s r) i (n, g)).2 b = min (g b) (sw_one e s r b (n b)))
  | 0, _ => ⟨fun _ _ => ⟨rfl, rfl⟩, fun b h => absurd h (Nat.not_lt_zero b)⟩
  | i + 1, hi => by
    obtain ⟨h1, h2⟩ := sw_y4_facts (s := s) (r := r) (g := g) hn i (by omega)
    have hu := h1 i (Nat.le_refl i)
    show (∀ b, i + 1 ≤ b → (sw_y4 e s r i (sw_it (sw_y4 e s r) i (n, g))).1 b = n b ∧ (sw_y4 e s r i (sw_it (sw_y4 e s r) i (n, g))).2 b = g b) ∧ (∀ b, b < i + 1 → (sw_y4 e s r i (sw_it (sw_y4 e s r) i (n, g))).1 b = sw_one e s r b (n b) ∧ (sw_y4 e s r i (sw_it (sw_y4 e s r) i (n, g))).2 b = min (g b) (sw_one e s r b (n b)))
    generalize sw_it (sw_y4 e s r) i (n, g) = u at h1 h2 hu ⊢
    unfold sw_y4
    rw [hu.1, hu.2]
    refine ⟨fun b hb => ?_, fun b hb => ?_⟩
    · show va_up u.1 i _ b = n b ∧ va_up u.2 i _ b = g b
      rw [up_vn _ _ _ _ (by omega), up_vn _ _ _ _ (by omega)]; exact h1 b (by omega)
    · show va_up u.1 i _ b = _ ∧ va_up u.2 i _ b = _
      by_cases hbi : b = i
      · subst hbi; rw [up_vs, up_vs]; exact ⟨rfl, rfl⟩
      · rw [up_vn _ _ _ _ hbi, up_vn _ _ _ _ hbi]; exact h2 b (by omega)
/-- a flock: nests, rings, far; who is shut; lost ones, years -/
abbrev sw_F : Type := (Nat → Nat) × (Nat → Nat) × (Nat → Nat) × Int32 × Nat × Nat
def sw_yr (m cn : Nat) (c e k : Nat → Nat) (r : Nat) (F : sw_F) : sw_F :=
  let u1 := sw_it (sw_y1 c e k F.2.2.1 F.2.2.2.1 r) m (F.1, fun _ => 0, F.2.2.2.2.1)
  let u2 := sw_it (sw_y2 c e F.2.2.2.1) m (u1.1, u1.2.1)
  let u4 := sw_it (sw_y4 e F.2.2.2.1 r) m (u2.1, F.2.1)
  (u4.1, u4.2, F.2.2.1, F.2.2.2.1, u1.2.2 + sw_sum u2.2 cn, F.2.2.2.2.2 + 1)
