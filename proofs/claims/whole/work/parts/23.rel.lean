/-! WHAT A STATE IS, in numbers; what the class's cells and the reference's cells hold of it -/
/-- land: counties, seat, man, barns; county, eaves, kind; how many rains (one at least), rain -/
abbrev sw_D : Type := Nat × Nat × Nat × Nat × (Nat → Nat) × (Nat → Nat) × (Nat → Nat) × Nat × (Nat → Nat)
/-- text: how long, letters; the place of the fault -/
abbrev sw_T : Type := Nat × (Nat → Nat) × Int32
abbrev sw_I : Type := Nat → Option (sw_F × Nat)
abbrev sw_A : Type := sw_T × sw_D × sw_F × Nat × sw_U × sw_I × sw_E × sw_E × sw_E
def okD (D : sw_D) : Prop := match D with
  | (cn, st, mn, m, c, e, k, R, rn) => cn ≤ 4 ∧ m ≤ 8 ∧ (cn = 0 → m = 0) ∧ (0 < cn → 0 < st ∧ 0 < mn) ∧ st ≤ 30 ∧ mn ≤ 30 ∧ (∀ b, b < m → c b < cn ∧ e b ≤ 40 ∧ k b ≤ 3) ∧ 0 < R ∧ R ≤ 8 ∧ ∀ t, t < R → rn t ≤ 9
def okF (m : Nat) (e : Nat → Nat) (F : sw_F) : Prop := (∀ b, b < m → F.1 b ≤ e b ∧ F.2.1 b ≤ F.1 b ∧ F.2.2.1 b ≤ 9) ∧ F.2.2.2.2.2 ≤ 9099
def okE (E : sw_E) (N a b : Nat) : Prop := E.1 ≤ N ∧ ∀ j, j < E.1 → E.2.1 j < a ∧ E.2.2 j ≤ b
def okA (A : sw_A) : Prop := match A with
  | ((tl, tx, _), (cn, st, mn, m, c, e, k, R, rn), F, sd, U, I, E1, E2, E3) => tl ≤ 240 ∧ (∀ j, j < tl → tx j ≤ 255) ∧ okD (cn, st, mn, m, c, e, k, R, rn) ∧ okF m e F ∧ sd < 2147483648 ∧ U.1 ≤ 20 ∧ (∀ j, j < U.1 → okF m e (U.2 j)) ∧ (∀ i F' sd', I i = some (F', sd') → okF m e F' ∧ sd' < 2147483648) ∧ okE E1 8 m 40 ∧ okE E2 8 (2 ^ m) 320 ∧ okE E3 15 cn 320
def rcT (T : sw_T) (σ : am_M) : Prop := σ 1 1 = nI T.1 ∧ (∀ j, j < T.1 → σ 2 j = nI (T.2.1 j)) ∧ σ 1 3 = T.2.2
def rcR (R : Nat) (rn : Nat → Nat) (σ : am_M) : Prop := (σ 3 4 = nI R ∧ ∀ t, t < R → σ 9 t = nI (rn t)) ∨ (σ 3 4 = 0 ∧ R = 1 ∧ rn 0 = 5)
def rcD (D : sw_D) (σ : am_M) : Prop := match D with
  | (cn, st, mn, m, c, e, k, R, rn) => sw_LC σ m cn c e k ∧ σ 3 1 = nI st ∧ σ 3 2 = nI mn ∧ rcR R rn σ
def rcI (m : Nat) (I : sw_I) (σ : am_M) : Prop := σ 30 0 = nI 2 ∧ ∃ K, K < 4 ∧ σ 0 8 = nI K ∧ ∀ i, i < 2 → (match I i with
  | none => K.testBit i = false
  | some (F, sd) => K.testBit i = true ∧ sw_cell (σ 31) (i * 27) m F ∧ σ 32 i = nI sd)
def RC (A : sw_A) (σ : am_M) : Prop := match A with
  | (T, (cn, st, mn, m, c, e, k, R, rn), F, sd, U, I, E1, E2, E3) => rcT T σ ∧ rcD (cn, st, mn, m, c, e, k, R, rn) σ ∧ sw_FC σ 17 18 19 20 m F ∧ σ 0 14 = nI sd ∧ sw_UC σ m U ∧ rcI m I σ ∧ sw_EC σ 33 34 35 8 E1 ∧ sw_EC σ 36 37 38 8 E2 ∧ sw_EC σ 39 40 41 15 E3
theorem rcT_fr {T : sw_T} {σ σ' : am_M} (h1 : σ' 1 = σ 1) (h2 : σ' 2 = σ 2) (h : rcT T σ) : rcT T σ' := by unfold rcT; rw [h1, h2]; exact h
theorem rcD_fr {D : sw_D} {σ σ' : am_M} (h3 : σ' 3 = σ 3) (h4 : σ' 4 = σ 4) (h5 : σ' 5 = σ 5) (h8 : σ' 8 = σ 8) (h9 : σ' 9 = σ 9) (h : rcD D σ) : rcD D σ' := by
  obtain ⟨cn, st, mn, m, c, e, k, R, rn⟩ := D
  unfold rcD sw_LC rcR at *
  rw [h3, h4, h5, h8, h9]; exact h
theorem sw_FC_fr {σ σ' : am_M} {p a b c m : Nat} {F : sw_F} (hp : σ' p = σ p) (ha : σ' a = σ a) (hb : σ' b = σ b) (hc : σ' c = σ c) (h : sw_FC σ p a b c m F) : sw_FC σ' p a b c m F := by
  unfold sw_FC at *; rw [hp, ha, hb, hc]; exact h
theorem sw_UC_fr {σ σ' : am_M} {m : Nat} {U : sw_U} (h1 : σ' 27 = σ 27) (h2 : σ' 28 = σ 28) (h3 : σ' 29 = σ 29) (h : sw_UC σ m U) : sw_UC σ' m U := by
  unfold sw_UC at *; rw [h1, h2, h3]; exact h
theorem rcI_fr {σ σ' : am_M} {m : Nat} {I : sw_I} (h0 : σ' 0 8 = σ 0 8) (h1 : σ' 30 = σ 30) (h2 : σ' 31 = σ 31) (h3 : σ' 32 = σ 32) (h : rcI m I σ) : rcI m I σ' := by
  unfold rcI at *; rw [h0, h1, h2, h3]; exact h
theorem sw_EC_fr {σ σ' : am_M} {p a b M : Nat} {E : sw_E} (h1 : σ' p = σ p) (h2 : σ' a = σ a) (h3 : σ' b = σ b) (h : sw_EC σ p a b M E) : sw_EC σ' p a b M E := by
  unfold sw_EC at *; rw [h1, h2, h3]; exact h
/-- a frame by its places: what a list doesn't name is the same -/
theorem am_frd {ps : List Nat} {σ σ' : am_M} (h : am_fr ps σ σ') (q : Nat) (hq : (ps.elem q) = false) : σ' q = σ q := h q (fun hm => by rw [List.elem_eq_true_of_mem hm] at hq; cases hq)
theorem RC_junk {A : sw_A} {σ σ' : am_M} (hf : am_fr [21, 22, 23, 24, 25, 26, 42, 43] σ σ') (h : RC A σ) : RC A σ' := by
  obtain ⟨T, ⟨cn, st, mn, m, c, e, k, R, rn⟩, F, sd, U, I, E1, E2, E3⟩ := A
  obtain ⟨hT, hD, hF, hS, hU, hI, h1, h2, h3⟩ := h
  have h0 := am_frd hf 0 rfl
  exact ⟨rcT_fr (am_frd hf 1 rfl) (am_frd hf 2 rfl) hT, rcD_fr (am_frd hf 3 rfl) (am_frd hf 4 rfl) (am_frd hf 5 rfl) (am_frd hf 8 rfl) (am_frd hf 9 rfl) hD, sw_FC_fr (am_frd hf 17 rfl) (am_frd hf 18 rfl) (am_frd hf 19 rfl) (am_frd hf 20 rfl) hF, by rw [h0]; exact hS, sw_UC_fr (am_frd hf 27 rfl) (am_frd hf 28 rfl) (am_frd hf 29 rfl) hU, rcI_fr (by rw [h0]) (am_frd hf 30 rfl) (am_frd hf 31 rfl) (am_frd hf 32 rfl) hI, sw_EC_fr (am_frd hf 33 rfl) (am_frd hf 34 rfl) (am_frd hf 35 rfl) h1, sw_EC_fr (am_frd hf 36 rfl) (am_frd hf 37 rfl) (am_frd hf 38 rfl) h2, sw_EC_fr (am_frd hf 39 rfl) (am_frd hf 40 rfl) (am_frd hf 41 rfl) h3⟩
/-- the flock and what can be undone are new, the rest stays -/
theorem RC_flock {T : sw_T} {cn st mn m : Nat} {c e k : Nat → Nat} {R : Nat} {rn : Nat → Nat} {F F' : sw_F} {sd : Nat} {U U' : sw_U} {I : sw_I} {E1 E2 E3 : sw_E} {σ σ' : am_M} (hf : am_fr [17, 18, 19, 20, 21, 22, 23, 24, 25, 26, 27, 29, 42, 43] σ σ') (h : RC (T, (cn, st, mn, m, c, e, k, R, rn), F, sd, U, I, E1, E2, E3) σ) (hF : sw_FC σ' 17 18 19 20 m F') (hU : sw_UC σ' m U') : RC (T, (cn, st, mn, m, c, e, k, R, rn), F', sd, U', I, E1, E2, E3) σ' := by
  obtain ⟨hT, hD, -, hS, -, hI, h1, h2, h3⟩ := h
  have h0 := am_frd hf 0 rfl
  exact ⟨rcT_fr (am_frd hf 1 rfl) (am_frd hf 2 rfl) hT, rcD_fr (am_frd hf 3 rfl) (am_frd hf 4 rfl) (am_frd hf 5 rfl) (am_frd hf 8 rfl) (am_frd hf 9 rfl) hD, hF, by rw [h0]; exact hS, hU, rcI_fr (by rw [h0]) (am_frd hf 30 rfl) (am_frd hf 31 rfl) (am_frd hf 32 rfl) hI, sw_EC_fr (am_frd hf 33 rfl) (am_frd hf 34 rfl) (am_frd hf 35 rfl) h1, sw_EC_fr (am_frd hf 36 rfl) (am_frd hf 37 rfl) (am_frd hf 38 rfl) h2, sw_EC_fr (am_frd hf 39 rfl) (am_frd hf 40 rfl) (am_frd hf 41 rfl) h3⟩
def rmT (T : sw_T) (σ : am_M) : Prop := σ 0 12 = nI T.1 ∧ (∀ j, j < T.1 → σ 6 j = nI (T.2.1 j)) ∧ σ 0 13 = T.2.2
def rmD (D : sw_D) (σ : am_M) : Prop := match D with
  | (cn, st, mn, m, c, e, k, R, rn) => sw_LM σ m cn c e k ∧ σ 0 1 = nI st ∧ σ 0 2 = nI mn ∧ σ 0 7 = nI R ∧ ∀ t, t < R → σ 4 t = nI (rn t)
def rmU (σ : am_M) (m : Nat) (U : sw_U) : Prop := U.1 ≤ 20 ∧ σ 0 27 = nI U.1 ∧ ∀ j, j < U.1 → sw_cell (σ 15) (27 * j) m (U.2 j)
def rmI (m : Nat) (I : sw_I) (σ : am_M) : Prop := ∀ i, i < 2 → (match I i with
  | none => σ 26 i = 0
  | some (F, sd) => σ 26 i = 1 ∧ sw_cell (σ 25) (28 * i) m F ∧ σ 25 (28 * i + 27) = nI sd)
def rmE (σ : am_M) (f a b M : Nat) (E : sw_E) : Prop := σ 0 f = nI E.1 ∧ E.1 ≤ M ∧ ∀ j, j < E.1 → σ a j = nI (E.2.1 j) ∧ σ b j = nI (E.2.2 j)
def RM (A : sw_A) (σ : am_M) : Prop := match A with
  | (T, (cn, st, mn, m, c, e, k, R, rn), F, sd, U, I, E1, E2, E3) => rmT T σ ∧ rmD (cn, st, mn, m, c, e, k, R, rn) σ ∧ sw_FM σ m F ∧ σ 0 10 = nI sd ∧ rmU σ m U ∧ rmI m I σ ∧ rmE σ 33 19 20 8 E1 ∧ rmE σ 36 21 22 8 E2 ∧ rmE σ 41 23 24 15 E3
/-- frames of the reference: rows ps may change, and of the object the fields ks -/
def fm (ps ks : List Nat) (σ σ' : am_M) : Prop := (∀ q, ¬ q = 0 → q ∉ ps → σ' q = σ q) ∧ ∀ k, k ∉ ks → σ' 0 k = σ 0 k
theorem fm_rf (ps ks : List Nat) (σ : am_M) : fm ps ks σ σ := ⟨fun _ _ _ => rfl, fun _ _ => rfl⟩
theorem fm_d {ps ks : List Nat} {σ σ' : am_M} (h : fm ps ks σ σ') (q : Nat) (hq : ps.elem q = false) (h0 : ¬ q = 0) : σ' q = σ q := h.1 q h0 (fun hm => by rw [List.elem_eq_true_of_mem hm] at hq; cases hq)
theorem fm_k {ps ks : List Nat} {σ σ' : am_M} (h : fm ps ks σ σ') (k : Nat) (hk : ks.elem k = false) : σ' 0 k = σ 0 k := h.2 k (fun hm => by rw [List.elem_eq_true_of_mem hm] at hk; cases hk)
theorem fm_tr {ps ks ps' ks' : List Nat} {σ σ' σ'' : am_M} (h : fm ps ks σ σ') (h2 : fm ps' ks' σ' σ'') (hp : ∀ q ∈ ps', q ∈ ps) (hk : ∀ k ∈ ks', k ∈ ks) : fm ps ks σ σ'' := ⟨fun q h0 hq => by rw [h2.1 q h0 (fun hm => hq (hp q hm)), h.1 q h0 hq], fun k hkk => by rw [h2.2 k (fun hm => hkk (hk k hm)), h.2 k hkk]⟩
theorem fm_up {ps ks : List Nat} {σ σ' : am_M} {p : Nat} (f : Nat → Int32) (h : fm ps ks σ σ') (hp : p ∈ ps) (h0 : ¬ p = 0) : fm ps ks σ (am_up σ' p f) := ⟨fun q hq0 hq => by
  have hne : ¬ q = p := fun e => hq (e ▸ hp)
  rw [am_un _ _ _ _ hne]; exact h.1 q hq0 hq, fun k hk => by rw [am_un _ _ _ _ (fun e => h0 e.symm)]; exact h.2 k hk⟩
theorem fm_w0 {ps ks : List Nat} {σ σ' : am_M} {k : Nat} {v : Int32} (h : fm ps ks σ σ') (hk : k ∈ ks) : fm ps ks σ (am_up σ' 0 (upd (σ' 0) k v)) := ⟨fun q hq0 hq => by rw [am_un _ _ _ _ hq0]; exact h.1 q hq0 hq, fun j hj => by
  have hne : ¬ j = k := fun e => hj (e ▸ hk)
  rw [am_us, up_n _ _ _ _ hne]; exact h.2 j hj⟩
theorem fm_fr {ps ks : List Nat} {σ σ' σ'' : am_M} {qs : List Nat} (h : fm ps ks σ σ') (h2 : am_fr qs σ' σ'') (hp : ∀ q ∈ qs, q ∈ ps) (h0 : (qs.elem 0) = false) : fm ps ks σ σ'' := ⟨fun q hq0 hq => by rw [h2 q (fun hm => hq (hp q hm)), h.1 q hq0 hq], fun k hk => by rw [am_frd h2 0 h0]; exact h.2 k hk⟩
theorem rmT_fr {T : sw_T} {σ σ' : am_M} (h1 : σ' 0 12 = σ 0 12) (h2 : σ' 0 13 = σ 0 13) (h3 : σ' 6 = σ 6) (h : rmT T σ) : rmT T σ' := by unfold rmT; rw [h1, h2, h3]; exact h
theorem rmD_fr {D : sw_D} {σ σ' : am_M} (k0 : σ' 0 0 = σ 0 0) (k1 : σ' 0 1 = σ 0 1) (k2 : σ' 0 2 = σ 0 2) (k3 : σ' 0 3 = σ 0 3) (k7 : σ' 0 7 = σ 0 7) (h1 : σ' 1 = σ 1) (h2 : σ' 2 = σ 2) (h3 : σ' 3 = σ 3) (h4 : σ' 4 = σ 4) (h : rmD D σ) : rmD D σ' := by
  obtain ⟨cn, st, mn, m, c, e, k, R, rn⟩ := D
  unfold rmD sw_LM at *
  rw [k0, k1, k2, k3, k7, h1, h2, h3, h4]; exact h
theorem sw_FM_fr {σ σ' : am_M} {m : Nat} {F : sw_F} (h5 : σ' 5 = σ 5) (h : sw_FM σ m F) : sw_FM σ' m F := by unfold sw_FM at *; rw [h5]; exact h
theorem rmU_fr {σ σ' : am_M} {m : Nat} {U : sw_U} (h1 : σ' 0 27 = σ 0 27) (h2 : σ' 15 = σ 15) (h : rmU σ m U) : rmU σ' m U := by unfold rmU at *; rw [h1, h2]; exact h
theorem rmI_fr {σ σ' : am_M} {m : Nat} {I : sw_I} (h1 : σ' 25 = σ 25) (h2 : σ' 26 = σ 26) (h : rmI m I σ) : rmI m I σ' := by unfold rmI at *; rw [h1, h2]; exact h
theorem rmE_fr {σ σ' : am_M} {f a b M : Nat} {E : sw_E} (h1 : σ' 0 f = σ 0 f) (h2 : σ' a = σ a) (h3 : σ' b = σ b) (h : rmE σ f a b M E) : rmE σ' f a b M E := by unfold rmE at *; rw [h1, h2, h3]; exact h
/-- the flock and what can be undone are new, the rest stays -/
theorem RM_flock {T : sw_T} {cn st mn m : Nat} {c e k : Nat → Nat} {R : Nat} {rn : Nat → Nat} {F F' : sw_F} {sd : Nat} {U U' : sw_U} {I : sw_I} {E1 E2 E3 : sw_E} {σ σ' : am_M} (hf : fm [5, 14, 15, 16, 17, 18] [27, 31, 39, 40] σ σ') (h : RM (T, (cn, st, mn, m, c, e, k, R, rn), F, sd, U, I, E1, E2, E3) σ) (hF : sw_FM σ' m F') (hU : rmU σ' m U') : RM (T, (cn, st, mn, m, c, e, k, R, rn), F', sd, U', I, E1, E2, E3) σ' := by
  obtain ⟨hT, hD, -, hS, -, hI, h1, h2, h3⟩ := h
  exact ⟨rmT_fr (fm_k hf 12 rfl) (fm_k hf 13 rfl) (fm_d hf 6 rfl (by decide)) hT, rmD_fr (fm_k hf 0 rfl) (fm_k hf 1 rfl) (fm_k hf 2 rfl) (fm_k hf 3 rfl) (fm_k hf 7 rfl) (fm_d hf 1 rfl (by decide)) (fm_d hf 2 rfl (by decide)) (fm_d hf 3 rfl (by decide)) (fm_d hf 4 rfl (by decide)) hD, hF, by rw [fm_k hf 10 rfl]; exact hS, hU, rmI_fr (fm_d hf 25 rfl (by decide)) (fm_d hf 26 rfl (by decide)) hI, rmE_fr (fm_k hf 33 rfl) (fm_d hf 19 rfl (by decide)) (fm_d hf 20 rfl (by decide)) h1, rmE_fr (fm_k hf 36 rfl) (fm_d hf 21 rfl (by decide)) (fm_d hf 22 rfl (by decide)) h2, rmE_fr (fm_k hf 41 rfl) (fm_d hf 23 rfl (by decide)) (fm_d hf 24 rfl (by decide)) h3⟩
/-- the year keeps the bounds -/
theorem okF_FB {m : Nat} {e : Nat → Nat} {F : sw_F} (he : ∀ b, b < m → e b ≤ 40) (h : okF m e F) : sw_FB m e F := fun b hb => by
  obtain ⟨h1, h2, h3⟩ := h.1 b hb
  have := he b hb
  exact ⟨h1, by omega, by omega⟩
theorem sw_yr_ok {m cn : Nat} {c e k : Nat → Nat} {r : Nat} {F : sw_F} (hr : r ≤ 9) (he : ∀ b, b < m → e b ≤ 40) (h : ∀ b, b < m → F.1 b ≤ e b ∧ F.2.1 b ≤ F.1 b ∧ F.2.2.1 b ≤ 9) : ∀ b, b < m → (sw_yr m cn c e k r F).1 b ≤ e b ∧ (sw_yr m cn c e k r F).2.1 b ≤ (sw_yr m cn c e k r F).1 b ∧ (sw_yr m cn c e k r F).2.2.1 b ≤ 9 := by
  obtain ⟨n, g, f, s, lo, y⟩ := F
  dsimp only at h
  obtain ⟨a1, a2, a3⟩ := sw_y1_facts (c := c) (e := e) (k := k) (f := f) (s := s) (n := n) (lo := lo) hr he (fun b hb => Nat.le_trans (h b hb).1 (he b hb)) m (Nat.le_refl m)
  obtain ⟨b1, b2⟩ := sw_y2_facts (c := c) (e := e) (s := s) (n := (sw_it (sw_y1 c e k f s r) m (n, fun _ => 0, lo)).1) (h := (sw_it (sw_y1 c e k f s r) m (n, fun _ => 0, lo)).2.1) a2 a3 m (Nat.le_refl m)
  obtain ⟨c1, c2⟩ := sw_y4_facts (s := s) (r := r) (g := g) b1 m (Nat.le_refl m)
  intro b hb
  obtain ⟨d1, d2⟩ := c2 b hb
  show (sw_it (sw_y4 e s r) m ((sw_it (sw_y2 c e s) m ((sw_it (sw_y1 c e k f s r) m (n, fun _ => 0, lo)).1, (sw_it (sw_y1 c e k f s r) m (n, fun _ => 0, lo)).2.1)).1, g)).1 b ≤ e b ∧ (sw_it (sw_y4 e s r) m ((sw_it (sw_y2 c e s) m ((sw_it (sw_y1 c e k f s r) m (n, fun _ => 0, lo)).1, (sw_it (sw_y1 c e k f s r) m (n, fun _ => 0, lo)).2.1)).1, g)).2 b ≤ (sw_it (sw_y4 e s r) m ((sw_it (sw_y2 c e s) m ((sw_it (sw_y1 c e k f s r) m (n, fun _ => 0, lo)).1, (sw_it (sw_y1 c e k f s r) m (n, fun _ => 0, lo)).2.1)).1, g)).1 b ∧ f b ≤ 9
  rw [d1, d2]
  exact ⟨sw_one_le (b1 b hb), Nat.min_le_right _ _, (h b hb).2.2⟩
theorem sw_yr_y {m cn : Nat} {c e k : Nat → Nat} {r : Nat} {F : sw_F} : (sw_yr m cn c e k r F).2.2.2.2.2 = F.2.2.2.2.2 + 1 := rfl
