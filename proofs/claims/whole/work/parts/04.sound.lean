/-! lemmas of the little machine -/
theorem am_nth_get : ∀ (lv : am_L) (i : Nat) (v : Value), am_nth lv i = some v ↔ lv[i]? = some (some v)
  | [], i, v => by simp [am_nth]
  | o :: t, 0, v => by simp [am_nth]
  | o :: t, i + 1, v => by rw [List.getElem?_cons_succ]; exact am_nth_get t i v
theorem am_sh_get : ∀ (L : List am_SD) (p : Nat), am_sh L p = L[p]?
  | [], p => by simp [am_sh]
  | d :: t, 0 => by simp [am_sh]
  | d :: t, p + 1 => by rw [List.getElem?_cons_succ]; exact am_sh_get t p
theorem am_fd_get : ∀ (L : List (Option Nat)) (p : Nat), am_fd L p = L[p]?
  | [], p => by simp [am_fd]
  | d :: t, 0 => by simp [am_fd]
  | d :: t, p + 1 => by rw [List.getElem?_cons_succ]; exact am_fd_get t p
theorem am_cv_cat (ad : Nat → Nat) (v : Value) : (am_cv ad v).category = v.category := by cases v <;> rfl
theorem am_set_get : ∀ (lv : am_L) (i : Nat) (o : Option Value) (j : Nat) (w : Value), (am_set lv i o)[j]? = some (some w) → (j = i ∧ o = some w) ∨ (j ≠ i ∧ lv[j]? = some (some w))
  | [], 0, o, j, w, h => by
    cases j with
    | zero => simp [am_set] at h; exact Or.inl ⟨rfl, h⟩
    | succ j => simp [am_set] at h
  | [], i + 1, o, j, w, h => by
    cases j with
    | zero => simp [am_set] at h
    | succ j =>
      rw [am_set, List.getElem?_cons_succ] at h
      rcases am_set_get [] i o j w h with ⟨h1, h2⟩ | ⟨h1, h2⟩
      · exact Or.inl ⟨by rw [h1], h2⟩
      · simp at h2
  | a :: t, 0, o, j, w, h => by
    cases j with
    | zero => simp [am_set] at h; exact Or.inl ⟨rfl, h⟩
    | succ j => exact Or.inr ⟨by omega, by simpa [am_set] using h⟩
  | a :: t, i + 1, o, j, w, h => by
    cases j with
    | zero => exact Or.inr ⟨by omega, by simpa [am_set] using h⟩
    | succ j =>
      rw [am_set, List.getElem?_cons_succ] at h
      rcases am_set_get t i o j w h with ⟨h1, h2⟩ | ⟨h1, h2⟩
      · exact Or.inl ⟨by rw [h1], h2⟩
      · exact Or.inr ⟨by omega, by rw [List.getElem?_cons_succ]; exact h2⟩
theorem am_prk_mem (ad : Nat → Nat) : ∀ (lv : am_L) (k : Nat) (q : Nat × Value), q ∈ am_prk ad k lv ↔ ∃ (i : Nat) (v : Value), lv[i]? = some (some v) ∧ q = (k + i, am_cv ad v)
  | [], k, q => by simp [am_prk]
  | none :: t, k, q => by
    rw [am_prk, am_prk_mem ad t (k + 1) q]
    constructor
    · rintro ⟨i, v, h1, rfl⟩
      exact ⟨i + 1, v, by rw [List.getElem?_cons_succ]; exact h1, by rw [Nat.add_assoc, Nat.add_comm 1 i]⟩
    · rintro ⟨i, v, h1, rfl⟩
      cases i with
      | zero => simp at h1
      | succ i => exact ⟨i, v, by rw [List.getElem?_cons_succ] at h1; exact h1, by rw [Nat.add_assoc, Nat.add_comm 1 i]⟩
  | some a :: t, k, q => by
    rw [am_prk, List.mem_cons, am_prk_mem ad t (k + 1) q]
    constructor
    · rintro (rfl | ⟨i, v, h1, rfl⟩)
      · exact ⟨0, a, by simp, by rw [Nat.add_zero]⟩
      · exact ⟨i + 1, v, by rw [List.getElem?_cons_succ]; exact h1, by rw [Nat.add_assoc, Nat.add_comm 1 i]⟩
    · rintro ⟨i, v, h1, rfl⟩
      cases i with
      | zero => simp at h1; subst h1; exact Or.inl (by rw [Nat.add_zero])
      | succ i => exact Or.inr ⟨i, v, by rw [List.getElem?_cons_succ] at h1; exact h1, by rw [Nat.add_assoc, Nat.add_comm 1 i]⟩
theorem am_has_mono {ls : Array Slot} {nL : Nat} {l l' : List (Nat × Value)} (h : lv_has ls nL l) (hs : ∀ q ∈ l', q ∈ l) : lv_has ls nL l' := ⟨h.1, h.2.1, fun q hq => h.2.2 q (hs q hq)⟩
theorem am_has_take {ls : Array Slot} {nL : Nat} {ad : Nat → Nat} {lv : am_L} (y : Nat) (h : lv_has ls nL (am_prk ad 0 lv)) : lv_has ls nL (am_prk ad 0 (lv.take y)) := by
  refine am_has_mono h fun q hq => ?_
  obtain ⟨i, v, h1, rfl⟩ := (am_prk_mem ad _ 0 q).mp hq
  refine (am_prk_mem ad _ 0 _).mpr ⟨i, v, ?_, rfl⟩
  rw [List.getElem?_take] at h1
  split at h1
  · exact h1
  · cases h1
theorem am_stc_inv {lv : am_L} {i : Nat} {k : Prop} (h : am_stc lv i k) : (∀ v, lv[i - 1]? = some (some v) → v.category = 1) ∧ k := by
  unfold am_stc at h
  refine ⟨fun v hv => ?_, ?_⟩
  · have h1 := (am_nth_get lv (i - 1) v).mpr hv
    rw [h1] at h
    cases v <;> first | rfl | exact h.elim
  · split at h
    · exact h.elim
    · exact h.elim
    · exact h
theorem am_has_set {ls : Array Slot} {nL : Nat} {ad : Nat → Nat} {lv : am_L} {i : Nat} {v : Value} (hc : ∀ v, lv[i - 1]? = some (some v) → v.category = 1) (h : lv_has ls nL ((i, am_cv ad v) :: (am_prk ad 0 lv).filter (fun q => !(q.1 == i) && !(q.1 + 1 == i && q.2.category == 2)))) : lv_has ls nL (am_prk ad 0 (am_set lv i (some v))) := by
  refine am_has_mono h fun q hq => ?_
  obtain ⟨j, w, h1, rfl⟩ := (am_prk_mem ad _ 0 q).mp hq
  rcases am_set_get lv i (some v) j w h1 with ⟨rfl, h2⟩ | ⟨h2, h3⟩
  · cases h2
    rw [Nat.zero_add]
    exact List.mem_cons_self
  · refine List.mem_cons_of_mem _ (List.mem_filter.mpr ⟨(am_prk_mem ad _ 0 _).mpr ⟨j, w, h3, rfl⟩, ?_⟩)
    rw [Nat.zero_add, am_cv_cat]
    have n1 : (j == i) = false := by simpa using h2
    have n2 : (j + 1 == i && w.category == 2) = false := by
      by_cases e : j + 1 = i
      · have : w.category = 1 := hc w (by rw [← e, Nat.add_sub_cancel]; exact h3)
        rw [this]; simp
      · simp [e]
    simp only [n1, n2]; rfl
theorem am_has_setL {ls : Array Slot} {nL : Nat} {ad : Nat → Nat} {lv : am_L} {i : Nat} {v : Int64} (hc : ∀ v, lv[i - 1]? = some (some v) → v.category = 1) (h : lv_has ls nL ((i, Value.long v) :: (am_prk ad 0 lv).filter (fun q => !(q.1 == i) && (!(q.1 == i + 1) && !(q.1 + 1 == i && q.2.category == 2))))) : lv_has ls nL (am_prk ad 0 (am_set (am_set lv i (some (.long v))) (i + 1) none)) := by
  refine am_has_mono h fun q hq => ?_
  obtain ⟨j, w, h1, rfl⟩ := (am_prk_mem ad _ 0 q).mp hq
  rcases am_set_get _ (i + 1) none j w h1 with ⟨rfl, h2⟩ | ⟨h0, h1⟩
  · cases h2
  rcases am_set_get lv i (some (.long v)) j w h1 with ⟨rfl, h2⟩ | ⟨h2, h3⟩
  · cases h2
    rw [Nat.zero_add]
    exact List.mem_cons_self
  · refine List.mem_cons_of_mem _ (List.mem_filter.mpr ⟨(am_prk_mem ad _ 0 _).mpr ⟨j, w, h3, rfl⟩, ?_⟩)
    rw [Nat.zero_add, am_cv_cat]
    have n1 : (j == i) = false := by simpa using h2
    have n0 : (j == i + 1) = false := by simpa using h0
    have n2 : (j + 1 == i && w.category == 2) = false := by
      by_cases e : j + 1 = i
      · have : w.category = 1 := hc w (by rw [← e, Nat.add_sub_cancel]; exact h3)
        rw [this]; simp
      · simp [e]
    simp only [n0, n1, n2]; rfl
theorem am_wl_get (cI cZ : ClassId) (ad : Nat → Nat) (L : List am_SD) (σ : am_M) (p : Nat) : (am_wl cI cZ ad L σ)[p]? = (L[p]?).map (fun d => (ad p, am_wc cI cZ ad (σ p) d)) := by
  rw [am_wl, List.getElem?_mapIdx]
theorem am_wl_len (cI cZ : ClassId) (ad : Nat → Nat) (L : List am_SD) (σ : am_M) : (am_wl cI cZ ad L σ).length = L.length := by simp [am_wl]
theorem am_wl_up {cI cZ : ClassId} {ad : Nat → Nat} {L : List am_SD} {σ : am_M} {p : Nat} {d : am_SD} (f : Nat → Int32) (h : L[p]? = some d) : (am_wl cI cZ ad L σ).set p (ad p, am_wc cI cZ ad f d) = am_wl cI cZ ad L (am_up σ p f) := by
  have hp : p < L.length := (List.getElem?_eq_some_iff.mp h).1
  refine List.ext_getElem? fun q => ?_
  by_cases e : q = p
  · subst e
    rw [List.getElem?_set_self (by rw [am_wl_len]; exact hp), am_wl_get, h]
    simp [am_up]
  · rw [List.getElem?_set_ne (Ne.symm e), am_wl_get, am_wl_get]
    simp [am_up, e]
theorem am_wl_sh {cI cZ : ClassId} {ad : Nat → Nat} {L : List am_SD} {σ : am_M} {p : Nat} (d : am_SD) (hp : p < L.length) : (am_wl cI cZ ad L σ).set p (ad p, am_wc cI cZ ad (σ p) d) = am_wl cI cZ ad (L.set p d) σ := by
  refine List.ext_getElem? fun q => ?_
  by_cases e : q = p
  · subst e
    rw [List.getElem?_set_self (by rw [am_wl_len]; exact hp), am_wl_get, List.getElem?_set_self hp]
    rfl
  · rw [List.getElem?_set_ne (Ne.symm e), am_wl_get, am_wl_get, List.getElem?_set_ne (Ne.symm e)]
theorem am_fs_int {ad : Nat → Nat} {f : Nat → Int32} {fs : List (Option Nat)} {k : Nat} {v : Int32} (h : fs[k]? = some none) : (fs.mapIdx (am_fv ad f)).set k (.int v) = fs.mapIdx (am_fv ad (upd f k v)) := by
  have hp : k < fs.length := (List.getElem?_eq_some_iff.mp h).1
  refine List.ext_getElem? fun q => ?_
  by_cases e : q = k
  · subst e
    rw [List.getElem?_set_self (by simpa using hp), List.getElem?_mapIdx, h]
    simp [am_fv, upd]
  · rw [List.getElem?_set_ne (Ne.symm e), List.getElem?_mapIdx, List.getElem?_mapIdx]
    cases fs[q]? with
    | none => rfl
    | some o => cases o <;> simp [am_fv, upd, e]
theorem am_fs_ref {ad : Nat → Nat} {f : Nat → Int32} {fs : List (Option Nat)} {k q : Nat} (hp : k < fs.length) : (fs.mapIdx (am_fv ad f)).set k (.ref (ad q)) = (fs.set k (some q)).mapIdx (am_fv ad f) := by
  refine List.ext_getElem? fun j => ?_
  by_cases e : j = k
  · subst e
    rw [List.getElem?_set_self (by simpa using hp), List.getElem?_mapIdx, List.getElem?_set_self hp]
    simp [am_fv]
  · rw [List.getElem?_set_ne (Ne.symm e), List.getElem?_mapIdx, List.getElem?_mapIdx, List.getElem?_set_ne (Ne.symm e)]
theorem am_D_of {A : Nat → Prop} {cI cZ : ClassId} {ad : Nat → Nat} {L L' : List am_SD} {σ σ' : am_M} (h : va_D A (am_wl cI cZ ad L σ)) (hl : L'.length = L.length) : va_D A (am_wl cI cZ ad L' σ') := by
  have key : ∀ (i : Nat) (q : Nat × va_E), (am_wl cI cZ ad L' σ')[i]? = some q → q.1 = ad i ∧ ∃ q0, (am_wl cI cZ ad L σ)[i]? = some q0 ∧ q0.1 = ad i := by
    intro i q hq
    rw [am_wl_get] at hq
    obtain ⟨d, hd, rfl⟩ := Option.map_eq_some_iff.mp hq
    have hi : i < L.length := by rw [← hl]; exact (List.getElem?_eq_some_iff.mp hd).1
    refine ⟨rfl, (ad i, am_wc cI cZ ad (σ i) L[i]), ?_, rfl⟩
    rw [am_wl_get, List.getElem?_eq_getElem hi]
    rfl
  refine ⟨fun i j a b ha hb hab => ?_, fun k q hk => ?_⟩
  · obtain ⟨a1, a0, a2, a3⟩ := key i a ha
    obtain ⟨b1, b0, b2, b3⟩ := key j b hb
    exact h.1 i j a0 b0 a2 b2 (by rw [a3, b3, ← a1, ← b1, hab])
  · obtain ⟨a1, a0, a2, a3⟩ := key k q hk
    rw [a1, ← a3]
    exact h.2 k a0 a2
/-! inversions -/
theorem am_pi_inv {st : List Value} {f : Int32 → List Value → Prop} (h : am_pi st f) : ∃ v r, st = .int v :: r ∧ f v r := by
  unfold am_pi at h; split at h
  · exact ⟨_, _, rfl, h⟩
  · exact h.elim
theorem am_pii_inv {st : List Value} {f : Int32 → Int32 → List Value → Prop} (h : am_pii st f) : ∃ a b r, st = .int b :: .int a :: r ∧ f a b r := by
  unfold am_pii at h; split at h
  · exact ⟨_, _, _, rfl, h⟩
  · exact h.elim
theorem am_pl_inv {st : List Value} {f : Int64 → List Value → Prop} (h : am_pl st f) : ∃ v r, st = .long v :: r ∧ f v r := by
  unfold am_pl at h; split at h
  · exact ⟨_, _, rfl, h⟩
  · exact h.elim
theorem am_pll_inv {st : List Value} {f : Int64 → Int64 → List Value → Prop} (h : am_pll st f) : ∃ a b r, st = .long b :: .long a :: r ∧ f a b r := by
  unfold am_pll at h; split at h
  · exact ⟨_, _, _, rfl, h⟩
  · exact h.elim
theorem am_pr_inv {st : List Value} {f : Nat → List Value → Prop} (h : am_pr st f) : ∃ v r, st = .ref v :: r ∧ f v r := by
  unfold am_pr at h; split at h
  · exact ⟨_, _, rfl, h⟩
  · exact h.elim
theorem am_ldi_inv {lv : am_L} {i : Nat} {f : Int32 → Prop} (h : am_ldi lv i f) : ∃ v, lv[i]? = some (some (.int v)) ∧ f v := by
  unfold am_ldi at h; split at h
  · rename_i v hv; exact ⟨v, (am_nth_get _ _ _).mp hv, h⟩
  · exact h.elim
theorem am_ldl_inv {lv : am_L} {i : Nat} {f : Int64 → Prop} (h : am_ldl lv i f) : ∃ v, lv[i]? = some (some (.long v)) ∧ f v := by
  unfold am_ldl at h; split at h
  · rename_i v hv; exact ⟨v, (am_nth_get _ _ _).mp hv, h⟩
  · exact h.elim
theorem am_lda_inv {lv : am_L} {i : Nat} {f : Nat → Prop} (h : am_lda lv i f) : ∃ v, lv[i]? = some (some (.ref v)) ∧ f v := by
  unfold am_lda at h; split at h
  · rename_i v hv; exact ⟨v, (am_nth_get _ _ _).mp hv, h⟩
  · exact h.elim
theorem am_obj_inv {L : List am_SD} {p ci : Nat} {f : List (Option Nat) → Prop} (h : am_obj L p ci f) : ∃ fs, L[p]? = some (.inr (ci, fs)) ∧ f fs := by
  unfold am_obj at h; split at h
  · rename_i c fs hv
    split at h
    · rename_i e; subst e; exact ⟨fs, by rw [← am_sh_get]; exact hv, h⟩
    · exact h.elim
  · exact h.elim
theorem am_arr_inv {L : List am_SD} {p : Nat} {z : Bool} {f : Nat → Prop} (h : am_arr L p z f) : ∃ n, L[p]? = some (.inl (n, z)) ∧ f n := by
  unfold am_arr at h; split at h
  · rename_i n z' hv
    split at h
    · rename_i e; subst e; exact ⟨n, by rw [← am_sh_get]; exact hv, h⟩
    · exact h.elim
  · exact h.elim
theorem am_dup_inv {st : List Value} {f : Value → List Value → Prop} (h : am_dup st f) : ∃ v r, st = v :: r ∧ v.category = 1 ∧ f v r := by
  unfold am_dup at h; split at h
  · rename_i v r
    cases v <;> first | exact ⟨_, _, rfl, rfl, h⟩ | exact h.elim
  · exact h.elim
theorem am_dup2_inv {st : List Value} {f : Value → Value → List Value → Prop} (h : am_dup2 st f) : ∃ a b r, st = a :: b :: r ∧ a.category = 1 ∧ b.category = 1 ∧ f a b r := by
  unfold am_dup2 at h; split at h
  · rename_i a b r
    cases a <;> cases b <;> first | exact ⟨_, _, _, rfl, rfl, rfl, h⟩ | exact h.elim
  · exact h.elim
theorem am_bif {b : Bool} {P : Prop} (h : bif b then P else False) : b = true ∧ P := by
  cases b with
  | false => exact h.elim
  | true => exact ⟨rfl, h⟩
theorem am_short_sum (ad : Nat → Nat) {r : List Value} (h : am_short r = true) : ((r.map (am_cv ad)).map fun v => v.category).sum ≤ 8 := by
  have hc : ∀ v : Value, v.category ≤ 2 := fun v => by cases v <;> simp [Value.category]
  match r, h with
  | [], _ => exact Nat.zero_le _
  | [a], _ => have := hc a; simp only [List.map_cons, List.map_nil, List.sum_cons, List.sum_nil, am_cv_cat]; omega
  | [a, b], _ => have := hc a; have := hc b; simp only [List.map_cons, List.map_nil, List.sum_cons, List.sum_nil, am_cv_cat]; omega
  | [a, b, c], _ => have := hc a; have := hc b; have := hc c; simp only [List.map_cons, List.map_nil, List.sum_cons, List.sum_nil, am_cv_cat]; omega
  | [a, b, c, d], _ => have := hc a; have := hc b; have := hc c; have := hc d; simp only [List.map_cons, List.map_nil, List.sum_cons, List.sum_nil, am_cv_cat]; omega
  | _ :: _ :: _ :: _ :: _ :: _, h => cases h
theorem am_tk_inv : ∀ (n : Nat) (as st : List Value) (f : List Value → List Value → Prop), am_tk n as st f → ∃ bs r, st = bs ++ r ∧ bs.length = n ∧ f (bs.reverse ++ as) r
  | 0, as, st, f, h => ⟨[], st, rfl, rfl, h⟩
  | n + 1, as, v :: st, f, h => by
    obtain ⟨bs, r, h1, h2, h3⟩ := am_tk_inv n (v :: as) st f h
    exact ⟨v :: bs, r, by rw [h1]; rfl, by simp [h2], by simpa using h3⟩
  | n + 1, as, [], f, h => h.elim
