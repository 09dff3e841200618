/-! THE TEXT, read in numbers -/
def ps_run (P : Nat → Bool) (tl : Nat) : Nat → Nat → Nat
  | 0, p => p
  | f + 1, p => if p < tl ∧ P p = true then ps_run P tl f (p + 1) else p
def ps_to (P : Nat → Bool) (tl p : Nat) : Nat := ps_run P tl (tl - p) p
theorem ps_to_s {P : Nat → Bool} {tl p : Nat} (h : p < tl) (hP : P p = true) : ps_to P tl p = ps_to P tl (p + 1) := by
  unfold ps_to
  rw [show tl - p = (tl - (p + 1)) + 1 by omega, ps_run, if_pos ⟨h, hP⟩]
theorem ps_to_e {P : Nat → Bool} {tl p : Nat} (h : ¬ (p < tl ∧ P p = true)) : ps_to P tl p = p := by
  unfold ps_to
  cases hf : tl - p with
  | zero => rfl
  | succ f => rw [ps_run, if_neg h]
theorem ps_run_f {P : Nat → Bool} {tl : Nat} : ∀ f p, tl - p ≤ f → p ≤ ps_run P tl f p ∧ (p ≤ tl → ps_run P tl f p ≤ tl) ∧ ¬ (ps_run P tl f p < tl ∧ P (ps_run P tl f p) = true)
  | 0, p, h => ⟨Nat.le_refl p, fun h => h, fun hh => by have : p < tl := hh.1; omega⟩
  | f + 1, p, h => by
    rw [ps_run]
    split
    · rename_i hc
      obtain ⟨h1, h2, h3⟩ := ps_run_f (P := P) (tl := tl) f (p + 1) (by omega)
      exact ⟨by omega, fun _ => h2 (by omega), h3⟩
    · rename_i hc
      exact ⟨Nat.le_refl p, fun h => h, hc⟩
theorem ps_to_f {P : Nat → Bool} {tl p : Nat} : p ≤ ps_to P tl p ∧ (p ≤ tl → ps_to P tl p ≤ tl) ∧ ¬ (ps_to P tl p < tl ∧ P (ps_to P tl p) = true) := ps_run_f (tl - p) p (Nat.le_refl _)
theorem ps_to_i {P : Nat → Bool} {tl p : Nat} : ps_to P tl (ps_to P tl p) = ps_to P tl p := ps_to_e ps_to_f.2.2
def ps_b (tx : Nat → Nat) (q : Nat) : Bool := tx q == 32
def ps_d (tx : Nat → Nat) (q : Nat) : Bool := decide (48 ≤ tx q) && decide (tx q ≤ 57)
def ps_sk (tl : Nat) (tx : Nat → Nat) (p : Nat) : Nat := ps_to (ps_b tx) tl p
def ps_dg (tl : Nat) (tx : Nat → Nat) (p : Nat) : Nat := ps_to (ps_d tx) tl p
def ps_let (tl : Nat) (tx : Nat → Nat) (p : Nat) : Int32 := if p < tl then nI (tx p) else -1
def ps_val (tx : Nat → Nat) (q : Nat) : Nat → Nat
  | 0 => 0
  | j + 1 => ps_val tx q j * 10 + (tx (q + j) - 48)
abbrev ps_X (α : Type) : Type := Except (Nat × Nat) (α × Nat)
abbrev ps_G : Type := Nat × Nat × Nat × Nat × (Nat → Nat) × (Nat → Nat) × (Nat → Nat) × (Nat → Nat) × (Nat → Nat) × Nat × (Nat → Nat)
def ps_num (tl : Nat) (tx : Nat → Nat) (lo hi p : Nat) : ps_X Nat :=
  if ps_sk tl tx p < tl ∧ ps_d tx (ps_sk tl tx p) = true then
    (if 3 < ps_dg tl tx (ps_sk tl tx p) - ps_sk tl tx p ∨ ps_val tx (ps_sk tl tx p) (ps_dg tl tx (ps_sk tl tx p) - ps_sk tl tx p) < lo ∨ hi < ps_val tx (ps_sk tl tx p) (ps_dg tl tx (ps_sk tl tx p) - ps_sk tl tx p) then .error (2, ps_sk tl tx p) else .ok (ps_val tx (ps_sk tl tx p) (ps_dg tl tx (ps_sk tl tx p) - ps_sk tl tx p), ps_dg tl tx (ps_sk tl tx p)))
  else .error (1, ps_sk tl tx p)
def ps_tr (tl : Nat) (tx : Nat → Nat) (G : ps_G) (p : Nat) : ps_X ps_G := match ps_num tl tx 1 4 p with
  | .error x => .error x
  | .ok a => match ps_num tl tx 1 30 a.2 with
    | .error x => .error x
    | .ok b => match ps_num tl tx 1 30 b.2 with
      | .error x => .error x
      | .ok c => .ok ((a.1, b.1, c.1, G.2.2.2), c.2)
def ps_bn (tl : Nat) (tx : Nat → Nat) (G : ps_G) (p : Nat) : ps_X ps_G := match G with
  | (cn, st, mn, m, c, e, n, f, k, R, rn) => match ps_num tl tx 0 (cn - 1) p with
    | .error x => .error x
    | .ok a => match ps_num tl tx 0 40 a.2 with
      | .error x => .error x
      | .ok b => match ps_num tl tx 0 40 b.2 with
        | .error x => .error x
        | .ok d => if b.1 < d.1 then .error (4, ps_sk tl tx b.2) else match ps_num tl tx 0 9 d.2 with
          | .error x => .error x
          | .ok g => match ps_num tl tx 0 3 g.2 with
            | .error x => .error x
            | .ok h => .ok ((cn, st, mn, m + 1, va_up c m a.1, va_up e m b.1, va_up n m d.1, va_up f m g.1, va_up k m h.1, R, rn), h.2)
def ps_addR (G : ps_G) (v : Nat) : ps_G := match G with
  | (cn, st, mn, m, c, e, n, f, k, R, rn) => (cn, st, mn, m, c, e, n, f, k, R + 1, va_up rn R v)
def ps_rn (tl : Nat) (tx : Nat → Nat) : Nat → ps_G → Nat → ps_X ps_G
  | 0, G, p => .ok (G, p)
  | f + 1, G, p => match ps_num tl tx 0 9 p with
    | .error x => .error x
    | .ok a => if ps_sk tl tx a.2 < tl ∧ tx (ps_sk tl tx a.2) = 44 then (if f = 0 then .error (1, ps_sk tl tx a.2) else ps_rn tl tx f (ps_addR G a.1) (ps_sk tl tx a.2 + 1)) else .ok (ps_addR G a.1, ps_sk tl tx a.2)
def ps_fin (tl : Nat) (tx : Nat → Nat) (x : ps_X ps_G) : ps_X ps_G := match x with
  | .error e => .error e
  | .ok g => if ps_sk tl tx g.2 < tl ∧ tx (ps_sk tl tx g.2) = 59 then .ok (g.1, ps_sk tl tx g.2 + 1) else .error (1, ps_sk tl tx g.2)
def ps_nB (G : ps_G) : Nat := G.2.2.2.1
def ps_nR (G : ps_G) : Nat := G.2.2.2.2.2.2.2.2.2.1
def ps_cl (tl : Nat) (tx : Nat → Nat) (G : ps_G) (p : Nat) : ps_X ps_G :=
  if G.1 = 0 ∧ ¬ tx (ps_sk tl tx p) = 116 then .error (1, ps_sk tl tx p)
  else if tx (ps_sk tl tx p) = 116 then (if G.1 = 0 then ps_fin tl tx (ps_tr tl tx G (ps_sk tl tx p + 1)) else .error (3, ps_sk tl tx p))
  else if tx (ps_sk tl tx p) = 98 then (if ps_nB G < 8 then ps_fin tl tx (ps_bn tl tx G (ps_sk tl tx p + 1)) else .error (3, ps_sk tl tx p))
  else if tx (ps_sk tl tx p) = 119 then (if ps_nR G = 0 then ps_fin tl tx (ps_rn tl tx 8 G (ps_sk tl tx p + 1)) else .error (3, ps_sk tl tx p))
  else .error (1, ps_sk tl tx p)
def ps_all (tl : Nat) (tx : Nat → Nat) : Nat → ps_G → Nat → Except (Nat × Nat) ps_G
  | 0, G, _ => .ok G
  | f + 1, G, p => if ps_sk tl tx p < tl then (match ps_cl tl tx G p with
    | .error x => .error x
    | .ok g => ps_all tl tx f g.1 g.2) else .ok G
def ps_0 : ps_G := (0, 0, 0, 0, fun _ => 0, fun _ => 0, fun _ => 0, fun _ => 0, fun _ => 0, 0, fun _ => 0)
def ps_D (G : ps_G) : sw_D := match G with
  | (cn, st, mn, m, c, e, _, _, k, R, rn) => (cn, st, mn, m, c, e, k, if R = 0 then 1 else R, if R = 0 then fun _ => 5 else rn)
def ps_F (G : ps_G) : sw_F := match G with
  | (_, _, _, _, _, _, n, f, _, _, _) => (n, fun _ => 0, f, 0, 0, 0)
def st_land (A : sw_A) : Int32 × sw_A := match A with
  | ((tl, tx, fp), D, F, sd, U, I, E1, E2, E3) => match ps_all tl tx 240 ps_0 0 with
    | .error x => (-10 - nI x.1, ((0, tx, nI x.2), D, F, sd, U, I, E1, E2, E3))
    | .ok G => (nI (ps_nB G), ((0, tx, -1), ps_D G, ps_F G, sd, (0, U.2), fun _ => none, (0, E1.2), (0, E2.2), (0, E3.2)))
/-! what is known of what was read -/
theorem ps_sk_f {tl : Nat} {tx : Nat → Nat} {p : Nat} : p ≤ ps_sk tl tx p ∧ (p ≤ tl → ps_sk tl tx p ≤ tl) := ⟨ps_to_f.1, ps_to_f.2.1⟩
theorem ps_sk_i {tl : Nat} {tx : Nat → Nat} {p : Nat} : ps_sk tl tx (ps_sk tl tx p) = ps_sk tl tx p := ps_to_i
theorem ps_num_sk {tl : Nat} {tx : Nat → Nat} {lo hi p : Nat} : ps_num tl tx lo hi (ps_sk tl tx p) = ps_num tl tx lo hi p := by
  unfold ps_num; rw [ps_sk_i]
theorem ps_num_ok {tl : Nat} {tx : Nat → Nat} {lo hi p : Nat} {x : Nat × Nat} (h : ps_num tl tx lo hi p = .ok x) (hp : p ≤ tl) : lo ≤ x.1 ∧ x.1 ≤ hi ∧ p < x.2 ∧ x.2 ≤ tl := by
  unfold ps_num at h
  split at h
  · rename_i hc
    split at h
    · cases h
    · rename_i hd
      cases h
      have h1 := ps_sk_f (tl := tl) (tx := tx) (p := p)
      have h2 := ps_to_f (P := ps_d tx) (tl := tl) (p := ps_sk tl tx p + 1)
      have h3 : ps_dg tl tx (ps_sk tl tx p) = ps_to (ps_d tx) tl (ps_sk tl tx p + 1) := ps_to_s hc.1 hc.2
      refine ⟨by omega, by omega, ?_, ?_⟩
      · show p < ps_dg tl tx (ps_sk tl tx p); omega
      · show ps_dg tl tx (ps_sk tl tx p) ≤ tl
        rw [h3]; exact h2.2.1 (by omega)
  · cases h
theorem ps_num_er {tl : Nat} {tx : Nat → Nat} {lo hi p : Nat} {x : Nat × Nat} (h : ps_num tl tx lo hi p = .error x) (hp : p ≤ tl) : (x.1 = 1 ∨ x.1 = 2) ∧ x.2 ≤ tl := by
  have h1 := (ps_sk_f (tl := tl) (tx := tx) (p := p)).2 hp
  unfold ps_num at h
  split at h
  · split at h
    · cases h; exact ⟨Or.inr rfl, h1⟩
    · cases h
  · cases h; exact ⟨Or.inl rfl, h1⟩
/-- what stands in a land that is read so far -/
def okG (G : ps_G) : Prop := match G with
  | (cn, st, mn, m, c, e, n, f, k, R, rn) => cn ≤ 4 ∧ m ≤ 8 ∧ (cn = 0 → m = 0) ∧ (0 < cn → 0 < st ∧ 0 < mn) ∧ st ≤ 30 ∧ mn ≤ 30 ∧ (∀ b, b < m → c b < cn ∧ e b ≤ 40 ∧ k b ≤ 3 ∧ n b ≤ e b ∧ f b ≤ 9) ∧ R ≤ 8 ∧ ∀ t, t < R → rn t ≤ 9
def okX (tl : Nat) (p : Nat) (x : ps_X ps_G) : Prop := match x with
  | .error e => 0 < e.1 ∧ e.1 ≤ 4 ∧ e.2 ≤ tl
  | .ok g => okG g.1 ∧ p < g.2 ∧ g.2 ≤ tl
theorem okX_e {tl p n q : Nat} (h1 : 0 < n) (h2 : n ≤ 4) (h : q ≤ tl) : okX tl p (.error (n, q)) := ⟨h1, h2, h⟩
theorem okX_num {tl : Nat} {tx : Nat → Nat} {lo hi p q : Nat} {x : Nat × Nat} (h : ps_num tl tx lo hi p = .error x) (hp : p ≤ tl) : okX tl q (.error x) := by
  obtain ⟨h1, h2⟩ := ps_num_er h hp
  exact ⟨by omega, by omega, h2⟩
theorem ps_tr_ok {tl : Nat} {tx : Nat → Nat} {G : ps_G} {p : Nat} (hp : p ≤ tl) (hG : okG G) (h0 : G.1 = 0) : okX tl p (ps_tr tl tx G p) := by
  unfold ps_tr
  cases h1 : ps_num tl tx 1 4 p with
  | error x => exact okX_num h1 hp
  | ok a =>
    obtain ⟨a1, a2, a3, a4⟩ := ps_num_ok h1 hp
    dsimp only
    cases h2 : ps_num tl tx 1 30 a.2 with
    | error x => exact okX_num h2 a4
    | ok b =>
      obtain ⟨b1, b2, b3, b4⟩ := ps_num_ok h2 a4
      dsimp only
      cases h3 : ps_num tl tx 1 30 b.2 with
      | error x => exact okX_num h3 b4
      | ok d =>
        obtain ⟨d1, d2, d3, d4⟩ := ps_num_ok h3 b4
        obtain ⟨cn, st, mn, m, c, e, n, f, k, R, rn⟩ := G
        obtain ⟨g1, g2, g3, g4, g5, g6, g7, g8, g9⟩ := hG
        have hm : m = 0 := g3 h0
        exact ⟨⟨a2, g2, fun _ => hm, fun _ => ⟨b1, d1⟩, b2, d2, fun b hb => by omega, g8, g9⟩, by show p < d.2; omega, d4⟩
theorem ps_bn_ok {tl : Nat} {tx : Nat → Nat} {G : ps_G} {p : Nat} (hp : p ≤ tl) (hG : okG G) (h0 : ¬ G.1 = 0) (h8 : ps_nB G < 8) : okX tl p (ps_bn tl tx G p) := by
  obtain ⟨cn, st, mn, m, c, e, n, f, k, R, rn⟩ := G
  obtain ⟨g1, g2, g3, g4, g5, g6, g7, g8, g9⟩ := hG
  have h0 : ¬ cn = 0 := h0
  have h8 : m < 8 := h8
  unfold ps_bn
  dsimp only
  cases h1 : ps_num tl tx 0 (cn - 1) p with
  | error x => exact okX_num h1 hp
  | ok a =>
    obtain ⟨a1, a2, a3, a4⟩ := ps_num_ok h1 hp
    dsimp only
    cases h2 : ps_num tl tx 0 40 a.2 with
    | error x => exact okX_num h2 a4
    | ok b =>
      obtain ⟨b1, b2, b3, b4⟩ := ps_num_ok h2 a4
      dsimp only
      cases h3 : ps_num tl tx 0 40 b.2 with
      | error x => exact okX_num h3 b4
      | ok d =>
        obtain ⟨d1, d2, d3, d4⟩ := ps_num_ok h3 b4
        dsimp only
        by_cases hc : b.1 < d.1
        · rw [if_pos hc]
          exact okX_e (by decide) (by decide) (ps_sk_f.2 b4)
        · rw [if_neg hc]
          cases h4 : ps_num tl tx 0 9 d.2 with
          | error x => exact okX_num h4 d4
          | ok g =>
            obtain ⟨i1, i2, i3, i4⟩ := ps_num_ok h4 d4
            dsimp only
            cases h5 : ps_num tl tx 0 3 g.2 with
            | error x => exact okX_num h5 i4
            | ok h =>
              obtain ⟨j1, j2, j3, j4⟩ := ps_num_ok h5 i4
              refine ⟨⟨g1, h8, fun hh => absurd hh h0, g4, g5, g6, fun q hq => ?_, g8, g9⟩, by show p < h.2; omega, j4⟩
              by_cases e : q = m
              · subst e
                rw [up_vs, up_vs, up_vs, up_vs, up_vs]
                exact ⟨by omega, b2, j2, by omega, i2⟩
              · rw [up_vn _ _ _ _ e, up_vn _ _ _ _ e, up_vn _ _ _ _ e, up_vn _ _ _ _ e, up_vn _ _ _ _ e]
                exact g7 q (by omega)
theorem okG_add {G : ps_G} {v : Nat} (hG : okG G) (hR : ps_nR G < 8) (hv : v ≤ 9) : okG (ps_addR G v) := by
  obtain ⟨cn, st, mn, m, c, e, n, f, k, R, rn⟩ := G
  obtain ⟨g1, g2, g3, g4, g5, g6, g7, g8, g9⟩ := hG
  refine ⟨g1, g2, g3, g4, g5, g6, g7, hR, fun t ht => ?_⟩
  by_cases e : t = R
  · subst e; rw [up_vs]; exact hv
  · rw [up_vn _ _ _ _ e]; exact g9 t (by omega)
theorem ps_nR_add {G : ps_G} {v : Nat} : ps_nR (ps_addR G v) = ps_nR G + 1 := rfl
theorem okX_le {tl p q : Nat} {x : ps_X ps_G} (hpq : p ≤ q) (h : okX tl q x) : okX tl p x := by
  cases x with
  | error e => exact h
  | ok g => exact ⟨h.1, by have := h.2.1; omega, h.2.2⟩
theorem ps_rn_ok {tl : Nat} {tx : Nat → Nat} : ∀ (f : Nat) (G : ps_G) (p : Nat), p ≤ tl → okG G → f + 1 + ps_nR G = 8 → okX tl p (ps_rn tl tx (f + 1) G p)
  | f, G, p, hp, hG, hR => by
    rw [ps_rn]
    cases h1 : ps_num tl tx 0 9 p with
    | error x => exact okX_num h1 hp
    | ok a =>
      obtain ⟨a1, a2, a3, a4⟩ := ps_num_ok h1 hp
      have s1 := ps_sk_f (tl := tl) (tx := tx) (p := a.2)
      dsimp only
      by_cases hc : ps_sk tl tx a.2 < tl ∧ tx (ps_sk tl tx a.2) = 44
      · rw [if_pos hc]
        cases f with
        | zero =>
          rw [if_pos rfl]
          exact okX_e (by decide) (by decide) (by show ps_sk tl tx a.2 ≤ tl; omega)
        | succ f =>
          rw [if_neg (by omega)]
          exact okX_le (by omega) (ps_rn_ok f (ps_addR G a.1) (ps_sk tl tx a.2 + 1) (by omega) (okG_add hG (by omega) a2) (by rw [ps_nR_add]; omega))
      · rw [if_neg hc]
        exact ⟨okG_add hG (by omega) a2, by show p < ps_sk tl tx a.2; omega, s1.2 a4⟩
theorem ps_fin_ok {tl : Nat} {tx : Nat → Nat} {p : Nat} {x : ps_X ps_G} (h : okX tl p x) : okX tl p (ps_fin tl tx x) := by
  cases x with
  | error e => exact h
  | ok g =>
    obtain ⟨h1, h2, h3⟩ := h
    have s1 := ps_sk_f (tl := tl) (tx := tx) (p := g.2)
    show okX tl p (if ps_sk tl tx g.2 < tl ∧ tx (ps_sk tl tx g.2) = 59 then .ok (g.1, ps_sk tl tx g.2 + 1) else .error (1, ps_sk tl tx g.2))
    by_cases hc : ps_sk tl tx g.2 < tl ∧ tx (ps_sk tl tx g.2) = 59
    · rw [if_pos hc]
      exact ⟨h1, by show p < ps_sk tl tx g.2 + 1; omega, by show ps_sk tl tx g.2 + 1 ≤ tl; omega⟩
    · rw [if_neg hc]
      exact okX_e (by decide) (by decide) (s1.2 h3)
theorem ps_cl_ok {tl : Nat} {tx : Nat → Nat} {G : ps_G} {p : Nat} (hp : ps_sk tl tx p < tl) (hG : okG G) : okX tl p (ps_cl tl tx G p) := by
  have s1 := ps_sk_f (tl := tl) (tx := tx) (p := p)
  unfold ps_cl
  by_cases h1 : G.1 = 0 ∧ ¬ tx (ps_sk tl tx p) = 116
  · rw [if_pos h1]; exact okX_e (by decide) (by decide) (by show ps_sk tl tx p ≤ tl; omega)
  · rw [if_neg h1]
    by_cases h2 : tx (ps_sk tl tx p) = 116
    · rw [if_pos h2]
      by_cases h3 : G.1 = 0
      · rw [if_pos h3]
        exact okX_le (by omega) (ps_fin_ok (ps_tr_ok (p := ps_sk tl tx p + 1) (by omega) hG h3))
      · rw [if_neg h3]; exact okX_e (by decide) (by decide) (by show ps_sk tl tx p ≤ tl; omega)
    · rw [if_neg h2]
      have h0 : ¬ G.1 = 0 := fun q => h1 ⟨q, h2⟩
      by_cases h4 : tx (ps_sk tl tx p) = 98
      · rw [if_pos h4]
        by_cases h3 : ps_nB G < 8
        · rw [if_pos h3]
          exact okX_le (by omega) (ps_fin_ok (ps_bn_ok (p := ps_sk tl tx p + 1) (by omega) hG h0 h3))
        · rw [if_neg h3]; exact okX_e (by decide) (by decide) (by show ps_sk tl tx p ≤ tl; omega)
      · rw [if_neg h4]
        by_cases h5 : tx (ps_sk tl tx p) = 119
        · rw [if_pos h5]
          by_cases h3 : ps_nR G = 0
          · rw [if_pos h3]
            exact okX_le (by omega) (ps_fin_ok (ps_rn_ok 7 G (ps_sk tl tx p + 1) (by omega) hG (by omega)))
          · rw [if_neg h3]; exact okX_e (by decide) (by decide) (by show ps_sk tl tx p ≤ tl; omega)
        · rw [if_neg h5]; exact okX_e (by decide) (by decide) (by show ps_sk tl tx p ≤ tl; omega)
theorem okG_0 : okG ps_0 := ⟨by decide, by decide, fun _ => rfl, fun h => absurd h (by decide), by decide, by decide, fun b hb => absurd hb (Nat.not_lt_zero b), by decide, fun b hb => absurd hb (Nat.not_lt_zero b)⟩
theorem ps_all_ok {tl : Nat} {tx : Nat → Nat} : ∀ (f : Nat) (G : ps_G) (p : Nat), okG G → (match ps_all tl tx f G p with
    | .error x => 0 < x.1 ∧ x.1 ≤ 4 ∧ x.2 ≤ tl
    | .ok G' => okG G')
  | 0, G, p, hG => hG
  | f + 1, G, p, hG => by
    rw [ps_all]
    by_cases hc : ps_sk tl tx p < tl
    · rw [if_pos hc]
      have h1 := ps_cl_ok hc hG
      cases h2 : ps_cl tl tx G p with
      | error x => rw [h2] at h1; exact h1
      | ok g => rw [h2] at h1; exact ps_all_ok f g.1 g.2 h1.1
    · rw [if_neg hc]; exact hG
