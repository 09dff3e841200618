def am_G (Ts : List am_T) (x : Nat) : am_T := Ts.getD x (fun _ _ _ _ => False)
def am_isC (e : am_I) : Bool := match e with
  | (_, some (.invokevirtual _), _, _, _, _) => true
  | (_, some (.invokestatic _), x, _, _, _) => !(x == 1000 || (x == 1001 || x == 1002))
  | _ => false
theorem am_cokF {l : Launch} {d : Nat} {own : String} {Γ : Nat → am_T} {tab : List am_I} (cs : List am_I) (h : tab.filter am_isC = cs) (hc : ∀ e ∈ cs, am_cok l d own Γ e) : ∀ e ∈ tab, am_cok l d own Γ e := by
  intro e he
  by_cases hb : am_isC e = true
  · exact hc e (by rw [← h]; exact List.mem_filter.mpr ⟨he, hb⟩)
  · obtain ⟨pc, o, x, y, w, z⟩ := e
    cases o with
    | none => trivial
    | some ins =>
      cases ins
      case invokevirtual => exact absurd rfl hb
      case invokestatic idx =>
        have hb : ¬ (!(x == 1000 || (x == 1001 || x == 1002))) = true := hb
        simp only [Bool.not_eq_true', Bool.not_eq_false, Bool.or_eq_true, beq_iff_eq] at hb
        rcases hb with h | h | h
        · exact Or.inl h
        · exact Or.inr (Or.inl h)
        · exact Or.inr (Or.inr (Or.inl h))
      all_goals trivial
theorem am_nocalls {l : Launch} {d : Nat} {own : String} {Γ : Nat → am_T} {tab : List am_I} (h : tab.filter am_isC = []) : ∀ e ∈ tab, am_cok l d own Γ e := am_cokF [] h (fun _ h => absurd h List.not_mem_nil)
/-- the class's cells: 0 the object; 1 Text, 2 its letters; 3 Land, 4 .. 9; 10 Land, 11 .. 16; 17 Flock now, 18 nests, 19 rings, 20 far, 21 homeless; 22 trial, 23 .. 26; 27 History, 28 its Shelf, 29; 30 images' Shelf, 31; 32 imageSeeds; 33 seen, 34, 35; 36 rough, 37, 38; 39 book, 40, 41; 42 mudTried; 43 leads -/
def lc_at (a b : Nat) : List am_SD := [.inr (6, [some 1, some a, some b, some 17, some 22, some 27, some 30, some 32, none, some 33, some 36, some 39, some 42, some 43, none]),
  .inr (5, [some 2, none, none, none, none]), .inl (240, false),
  .inr (3, [none, none, none, none, none, some 4, some 5, some 6, some 7, some 8, some 9]), .inl (8, false), .inl (8, false), .inl (8, false), .inl (8, false), .inl (8, false), .inl (8, false),
  .inr (3, [none, none, none, none, none, some 11, some 12, some 13, some 14, some 15, some 16]), .inl (8, false), .inl (8, false), .inl (8, false), .inl (8, false), .inl (8, false), .inl (8, false),
  .inr (1, [some 18, some 19, some 20, some 21, none, none, none]), .inl (8, false), .inl (8, false), .inl (8, false), .inl (4, false),
  .inr (1, [some 23, some 24, some 25, some 26, none, none, none]), .inl (8, false), .inl (8, false), .inl (8, false), .inl (4, false),
  .inr (2, [some 28, none, none]), .inr (4, [none, some 29]), .inl (540, false),
  .inr (4, [none, some 31]), .inl (54, false), .inl (2, false),
  .inr (0, [none, some 34, some 35, none]), .inl (8, false), .inl (8, false),
  .inr (0, [none, some 37, some 38, none]), .inl (8, false), .inl (8, false),
  .inr (0, [none, some 40, some 41, none]), .inl (15, false), .inl (15, false),
  .inl (8, false), .inl (9, false)]
def LC : List am_SD := lc_at 3 10
theorem am_us (σ : am_M) (p : Nat) (f : Nat → Int32) : am_up σ p f p = f := by simp [am_up]
theorem am_un (σ : am_M) (p q : Nat) (f : Nat → Int32) (h : ¬ q = p) : am_up σ p f q = σ q := by simp [am_up, h]
theorem up_s (f : Nat → Int32) (k : Nat) (x : Int32) : upd f k x k = x := by simp [upd]
theorem up_n (f : Nat → Int32) (k j : Nat) (x : Int32) (h : ¬ j = k) : upd f k x j = f j := by simp [upd, h]
theorem nI_cl {j : Nat} (h : j < 1000000) : (nI j).toNatClampNeg = j := nI_clamp (by omega)
theorem nI_d {a d : Nat} (ha : a < 1000000) (h0 : 0 < d) (hd : d < 1000000) : nI a / nI d = nI (a / d) := pk_div (by omega) h0 (by omega)
theorem vp_j {j n : Nat} (h : j < n) (hn : n < 1000000) : vp_in (nI j) n := vp_in_nI h (by omega)
theorem nI_l3 : (3 : Int32) = nI 3 := rfl
theorem nI_l10 : (10 : Int32) = nI 10 := rfl
theorem nI_l2 : (2 : Int32) = nI 2 := rfl
theorem nI_l1 : (1 : Int32) = nI 1 := rfl
theorem nI_l0 : (0 : Int32) = nI 0 := rfl
theorem nI_lt' {a b : Nat} (ha : a < 1000000) (hb : b < 1000000) : nI a < nI b ↔ a < b := nI_ltI (by omega) (by omega)
theorem nI_le' {a b : Nat} (ha : a < 1000000) (hb : b < 1000000) : nI a ≤ nI b ↔ a ≤ b := nI_leI (by omega) (by omega)
theorem nI_eq' {a b : Nat} (ha : a < 1000000) (hb : b < 1000000) : nI a = nI b ↔ a = b := nI_eq (by omega) (by omega)
/-- max(a - b, 0), min(a, b) of small numbers -/
theorem nI_max0 {a b : Nat} (ha : a < 1000000) (hb : b < 1000000) : (if nI a - nI b < 0 then 0 else nI a - nI b) = nI (a - b) := by
  by_cases h : b ≤ a
  · rw [pk_sub h, if_neg (nI_pos (by omega))]
  · have h0 : nI a - nI b < 0 := by
      rw [Int32.lt_iff_toInt_lt, pk_sub_toInt (by omega) (by omega)]
      show (a : Int) - b < 0
      omega
    rw [if_pos h0, show a - b = 0 by omega]; rfl
theorem nI_min {a b : Nat} (ha : a < 1000000) (hb : b < 1000000) : (if nI b < nI a then nI b else nI a) = nI (min a b) := by
  by_cases h : b < a
  · rw [if_pos ((nI_lt' hb ha).mpr h), Nat.min_eq_right (by omega)]
  · rw [if_neg (fun q => h ((nI_lt' hb ha).mp q)), Nat.min_eq_left (by omega)]
def am_fr (ps : List Nat) (σ σ' : am_M) : Prop := ∀ q, q ∉ ps → σ' q = σ q
theorem am_fr_rf (ps : List Nat) (σ : am_M) : am_fr ps σ σ := fun _ _ => rfl
theorem am_fr_up {ps : List Nat} {σ σ' : am_M} {p : Nat} (f : Nat → Int32) (h : am_fr ps σ σ') (hp : p ∈ ps) : am_fr ps σ (am_up σ' p f) := fun q hq => by
  have hne : ¬ q = p := fun e => hq (e ▸ hp)
  rw [am_un _ _ _ _ hne]; exact h q hq
theorem am_fr_tr {ps qs : List Nat} {σ σ' σ'' : am_M} (h : am_fr ps σ σ') (h2 : am_fr qs σ' σ'') (hs : ∀ q ∈ qs, q ∈ ps) : am_fr ps σ σ'' := fun q hq => by rw [h2 q (fun hq' => hq (hs q hq')), h q hq]
/-- one number is written -/
def am_w (σ : am_M) (p k : Nat) (v : Int32) : am_M := am_up σ p (upd (σ p) k v)
theorem aw_s (σ : am_M) (p k : Nat) (v : Int32) : am_w σ p k v p k = v := by simp [am_w, am_up, upd]
theorem aw_k (σ : am_M) (p k j : Nat) (v : Int32) (h : ¬ j = k) : am_w σ p k v p j = σ p j := by simp [am_w, am_up, upd, h]
theorem aw_n (σ : am_M) (p k q : Nat) (v : Int32) (h : ¬ q = p) : am_w σ p k v q = σ q := by simp [am_w, am_up, h]
theorem aw_fr {ps : List Nat} {σ σ' : am_M} {p k : Nat} {v : Int32} (h : am_fr ps σ σ') (hp : p ∈ ps) : am_fr ps σ (am_w σ' p k v) := am_fr_up _ h hp
/-- the places of a Flock: itself, nests, rings, far, homeless -/
def sw_pl (p a b c d : Nat) : Prop := (p = 17 ∧ a = 18 ∧ b = 19 ∧ c = 20 ∧ d = 21) ∨ (p = 22 ∧ a = 23 ∧ b = 24 ∧ c = 25 ∧ d = 26)
