/-! THE LITTLE MACHINE IS THE MACHINE: am_wp at a row gives W there -/
section AMS
variable {p : Program} {l : Launch} {e : Env} {R : Room} {s : State} {m : MethodId} {args : Array Value} {below : List Frame} {meth : Method} {c : Code} {Q : State → Prop} {cI cZ : ClassId} {D : va_G} {ad : Nat → Nat} {A : Nat → Prop} {H0 : Heap} {nL nC : Nat} {cc : ByteArray} {own : String}
theorem am_tsw_get {j : Int → Prop} {v : Int} : ∀ (offs : List Int) (lo : Int) (k : Nat) (o : Int), am_tsw j v lo offs → offs[k]? = some o → v = lo + k → j o
  | [], lo, k, o, h, hk, hv => by simp at hk
  | a :: r, lo, 0, o, h, hk, hv => by
    simp only [List.getElem?_cons_zero, Option.some.injEq] at hk
    subst hk
    exact h.1 (by rw [hv]; exact Int.add_zero lo)
  | a :: r, lo, k + 1, o, h, hk, hv => am_tsw_get r (lo + 1) k o h.2 (by rw [List.getElem?_cons_succ] at hk; exact hk) (by rw [hv]; push_cast; omega)
theorem am_lsw_get {j : Int → Prop} {v d : Int} : ∀ (ps : List (Int × Int)), am_lsw j v d ps → ∃ o, Op.lookupswitch.offset ps d v = o ∧ j o ∧ (o = d ∨ ∃ q ∈ ps, q.2 = o)
  | [], h => ⟨d, rfl, h, Or.inl rfl⟩
  | (a, o) :: r, h => by
    by_cases e : v = a
    · exact ⟨o, by subst e; simp [Op.lookupswitch.offset], h.1 e, Or.inr ⟨_, List.mem_cons_self, rfl⟩⟩
    · obtain ⟨o', h1, h2, h3⟩ := am_lsw_get r (h.2 e)
      refine ⟨o', ?_, h2, h3.imp id (fun ⟨q, a, b⟩ => ⟨q, List.mem_cons_of_mem _ a, b⟩)⟩
      rw [← h1]
      have e' : ¬ a = v := fun h => e h.symm
      simp [Op.lookupswitch.offset, e, e']
/-- the fixed things of a walk -/
abbrev am_Fix (p : Program) (R : Room) (s : State) (m : MethodId) (args : Array Value) (c : Code) (cI cZ : ClassId) (D : va_G) (ad : Nat → Nat) (A : Nat → Prop) (nL nC : Nat) (cc : ByteArray) (own : String) : Prop :=
  p.tables.exec = Jvm.exec ∧ c.code = cc ∧ c.maxLocals = nL ∧ s.vm.findClass own = some m.cls ∧ (∀ w ∈ am_ALL, w.before args s = true) ∧ (∀ w ∈ am_nest, va_Nw w s) ∧ va_K D vwCl [(cI, .int), (cZ, .boolean)] s ∧ (∀ (L : List am_SD) (σ : am_M), L.length = nC → va_D A (am_wl cI cZ ad L σ)) ∧ 1 ≤ R.frames ∧ 40 ≤ R.locals
theorem am_has_at {ls : Array Slot} {lv : am_L} {i : Nat} {v : Value} (h : lv_has ls nL (am_prk ad 0 lv)) (hv : lv[i]? = some (some v)) : ls[i]? = some (.val (am_cv ad v)) :=
  h.2.2 (i, am_cv ad v) ((am_prk_mem ad lv 0 _).mpr ⟨i, v, hv, by rw [Nat.zero_add]⟩)
theorem am_has_ix {lv : am_L} {i : Nat} {v : Value} (hv : lv[i]? = some (some v)) : ∃ k : Nat, (am_prk ad 0 lv)[k]? = some (i, am_cv ad v) :=
  List.getElem?_of_mem ((am_prk_mem ad lv 0 _).mpr ⟨i, v, hv, by rw [Nat.zero_add]⟩)
/-- reading a field -/
theorem am_getW (F : am_Fix p R s m args c cI cZ D ad A nL nC cc own) {idx x y pc : Nat} (hl : am_fl own idx x y) (hdg : decode cc pc = .ok (.getfield idx, 3)) {L : List am_SD} {σ : am_M} {H : Heap} {locs : List Loc} {ls : Array Slot} {a : Nat} {fs : List (Option Nat)} {o : Option Nat} {rest : List Value} (hP : va_P D vwCl (am_wl cI cZ ad L σ) H) (ha : L[a]? = some (.inr (x, fs))) (ho : fs[y]? = some o)
    (kk : W p l e R s m args below meth c H locs 0 0 Q (F0 m (pc + 3) ls (am_fv ad (σ a) y o :: rest))) : W p l e R s m args below meth c H locs 0 0 Q (F0 m pc ls (.ref (ad a) :: rest)) := by
  obtain ⟨hx, hb, hml, hown, hts, hN, hK, hDA, hf1, hf2⟩ := F
  obtain ⟨C, T, N, hc, hk, hlk⟩ := hl
  have he : (am_wl cI cZ ad L σ)[a]? = some (ad a, .inr (x, fs.mapIdx (am_fv ad (σ a)))) := by rw [am_wl_get, ha]; rfl
  have hv : (fs.mapIdx (am_fv ad (σ a)))[y]? = some (am_fv ad (σ a) y o) := by rw [List.getElem?_mapIdx, ho]; rfl
  rcases hlk with h | ⟨host, h⟩
  · exact va_get hx hb hts (am_cls x C T N hc).1 hown hK hP a he hc y hk (hts _ h) (fun _ h9 => h9) hv hdg kk
  · exact va_getN hx hb hts (am_cls x C T N hc).1 hown hK hP a he hc y hk (va_Nw.use rfl (hN _ h)) (fun _ h9 => h9) hv hdg kk
/-- writing a field -/
theorem am_putW (F : am_Fix p R s m args c cI cZ D ad A nL nC cc own) {idx x y pc : Nat} (hl : am_fl own idx x y) (hp : ∀ C T N, vwCl[x]? = some (C, T, N) → (T y).2.2.2 = false) {ty : FieldType} (hty : ∀ C T N, vwCl[x]? = some (C, T, N) → parseFieldDescriptor (T y).2.2.1 = some ty) (hdg : decode cc pc = .ok (.putfield idx, 3)) {L : List am_SD} {σ : am_M} {H : Heap} {locs : List Loc} {ls : Array Slot} {a : Nat} {fs : List (Option Nat)} {v : Value} {rest : List Value} (hlen : L.length = nC) (hP : va_P D vwCl (am_wl cI cZ ad L σ) H) (hS : va_S A H0 H locs) (ha : L[a]? = some (.inr (x, fs))) (ho : y < fs.length) (hn : narrow ty v = v) (hfit : fits ty v = true)
    (kk : ∀ (H1 : Heap) (locs1 : List Loc), va_P D vwCl ((am_wl cI cZ ad L σ).set a (ad a, .inr (x, (fs.mapIdx (am_fv ad (σ a))).set y v))) H1 → va_S A H0 H1 locs1 → W p l e R s m args below meth c H1 locs1 0 0 Q (F0 m (pc + 3) ls rest)) : W p l e R s m args below meth c H locs 0 0 Q (F0 m pc ls (v :: .ref (ad a) :: rest)) := by
  obtain ⟨hx, hb, hml, hown, hts, hN, hK, hDA, hf1, hf2⟩ := F
  obtain ⟨C, T, N, hc, hk, hlk⟩ := hl
  have he : (am_wl cI cZ ad L σ)[a]? = some (ad a, .inr (x, fs.mapIdx (am_fv ad (σ a)))) := by rw [am_wl_get, ha]; rfl
  obtain ⟨h1, ⟨ty0, h2⟩, h3⟩ := am_cls x C T N hc
  rcases hlk with h | ⟨host, h⟩
  · exact va_put hx hb hts h1 ty0 h2 h3 hown hK hP (hDA L σ hlen) hS a he hc y hk (hts _ h) (fun _ h9 => h9) (hp C T N hc) (hty C T N hc) hn hfit (by simpa using ho) hdg (fun H1 locs1 a1 a2 a3 => kk H1 locs1 a1 a3)
  · exact va_putN hx hb hts h1 ty0 h2 h3 hown hK hP (hDA L σ hlen) hS a he hc y hk (va_Nw.use rfl (hN _ h)) (fun _ h9 => h9) (hp C T N hc) (hty C T N hc) hn hfit (by simpa using ho) hdg (fun H1 locs1 a1 a2 a3 => kk H1 locs1 a1 a3)
end AMS
theorem am_getf_inv {L : List am_SD} {σ : am_M} {x y : Nat} {st : List Value} {k : List Value → Prop} (h : am_getf L σ x y st k) : ∃ a r fs, st = .ref a :: r ∧ L[a]? = some (.inr (x, fs)) ∧ ((fs[y]? = some none ∧ k (.int (σ a y) :: r)) ∨ ∃ q, fs[y]? = some (some q) ∧ k (.ref q :: r)) := by
  match st, h with
  | .ref a :: r, h =>
    obtain ⟨fs, ha, h⟩ := am_obj_inv h
    refine ⟨a, r, fs, rfl, ha, ?_⟩
    split at h
    · rename_i ho; rw [am_fd_get] at ho; exact Or.inl ⟨ho, h⟩
    · rename_i q ho; rw [am_fd_get] at ho; exact Or.inr ⟨q, ho, h⟩
    · exact h.elim
theorem am_put_inv {L : List am_SD} {σ : am_M} {x y w : Nat} {st : List Value} {k : List Value → List am_SD → am_M → Prop} (h : am_put L σ x y w st k) : (∃ v a r fs, st = .int v :: .ref a :: r ∧ w = 0 ∧ L[a]? = some (.inr (x, fs)) ∧ fs[y]? = some none ∧ k r L (am_up σ a (upd (σ a) y v))) ∨ (∃ q a r fs q0, st = .ref q :: .ref a :: r ∧ w = 1 ∧ L[a]? = some (.inr (x, fs)) ∧ fs[y]? = some (some q0) ∧ k r (L.set a (.inr (x, fs.set y (some q)))) σ) := by
  match st, h with
  | .int v :: .ref a :: r, h =>
    left
    have h : (if w = 0 then _ else False) := h
    split at h
    · rename_i hw
      obtain ⟨fs, ha, h⟩ := am_obj_inv h
      refine ⟨v, a, r, fs, rfl, hw, ha, ?_⟩
      split at h
      · rename_i ho; rw [am_fd_get] at ho; exact ⟨ho, h⟩
      · exact h.elim
    · exact h.elim
  | .ref q :: .ref a :: r, h =>
    right
    have h : (if w = 1 then _ else False) := h
    split at h
    · rename_i hw
      obtain ⟨fs, ha, h⟩ := am_obj_inv h
      refine ⟨q, a, r, fs, ?_⟩
      split at h
      · rename_i q0 ho; rw [am_fd_get] at ho; exact ⟨q0, rfl, hw, ha, ho, h⟩
      · exact h.elim
    · exact h.elim
theorem am_ald_inv {L : List am_SD} {σ : am_M} {z : Bool} {st : List Value} {k : List Value → Prop} (h : am_ald L σ z st k) : ∃ i a r n, st = .int i :: .ref a :: r ∧ L[a]? = some (.inl (n, z)) ∧ vp_in i n ∧ k (.int (σ a i.toNatClampNeg) :: r) := by
  match st, h with
  | .int i :: .ref a :: r, h =>
    obtain ⟨n, ha, h1, h2⟩ := am_arr_inv h
    exact ⟨i, a, r, n, rfl, ha, h1, h2⟩
theorem am_ast_inv {L : List am_SD} {σ : am_M} {z : Bool} {st : List Value} {k : List Value → am_M → Prop} (h : am_ast L σ z st k) : ∃ v i a r n, st = .int v :: .int i :: .ref a :: r ∧ L[a]? = some (.inl (n, z)) ∧ vp_in i n ∧ k r (am_up σ a (upd (σ a) i.toNatClampNeg (bif z then vp_nar .boolean v else v))) := by
  match st, h with
  | .int v :: .int i :: .ref a :: r, h =>
    obtain ⟨n, ha, h1, h2⟩ := am_arr_inv h
    exact ⟨v, i, a, r, n, rfl, ha, h1, h2⟩
theorem am_cpyi_inv {L : List am_SD} {σ : am_M} {st : List Value} {k : List Value → am_M → Prop} (h : am_cpyi L σ st k) : ∃ n dp b sp a r na nb, st = .int n :: .int dp :: .ref b :: .int sp :: .ref a :: r ∧ am_short r = true ∧ L[a]? = some (.inl (na, false)) ∧ L[b]? = some (.inl (nb, false)) ∧ (¬ sp < 0 ∧ ¬ dp < 0 ∧ ¬ n < 0 ∧ sp.toNatClampNeg + n.toNatClampNeg ≤ na ∧ dp.toNatClampNeg + n.toNatClampNeg ≤ nb) ∧ k r (am_up σ b (va_cpy (σ a) (σ b) sp.toNatClampNeg dp.toNatClampNeg n.toNatClampNeg)) := by
  match st, h with
  | .int n :: .int dp :: .ref b :: .int sp :: .ref a :: r, h =>
    obtain ⟨hsh, h⟩ := am_bif h
    obtain ⟨na, ha, h⟩ := am_arr_inv h
    obtain ⟨nb, hb, h1, h2⟩ := am_arr_inv h
    exact ⟨n, dp, b, sp, a, r, na, nb, rfl, hsh, ha, hb, h1, h2⟩
theorem am_cal_inv {tr : am_T} {L : List am_SD} {σ : am_M} {y : Nat} {st : List Value} {k : List Value → List am_SD → am_M → Prop} (h : am_cal tr L σ y st k) : ∃ bs r, st = bs ++ r ∧ bs.length = y ∧ am_short r = true ∧ tr bs.reverse L σ (fun v L' σ' => k (am_push v r) L' σ') := by
  obtain ⟨bs, r, h1, h2, h⟩ := am_tk_inv _ _ _ _ h
  rw [List.append_nil] at h
  obtain ⟨hsh, h⟩ := am_bif h
  exact ⟨bs, r, h1, h2, hsh, h⟩
theorem am_calV_inv {tr : am_T} {L : List am_SD} {σ : am_M} {y w : Nat} {st : List Value} {k : List Value → List am_SD → am_M → Prop} (h : am_calV tr L σ y w st k) : ∃ bs r, st = bs ++ r ∧ bs.length = y ∧ am_short r = true ∧ am_okV w bs.reverse L ∧ tr bs.reverse L σ (fun v L' σ' => k (am_push v r) L' σ') := by
  obtain ⟨bs, r, h1, h2, h⟩ := am_tk_inv _ _ _ _ h
  rw [List.append_nil] at h
  obtain ⟨hsh, h⟩ := am_bif h
  refine ⟨bs, r, h1, h2, hsh, ?_⟩
  generalize bs.reverse = as at h ⊢
  match as, h with
  | .ref p :: t, h =>
    obtain ⟨fs, ha, h⟩ := am_obj_inv h
    exact ⟨⟨p, t, fs, rfl, ha⟩, h⟩
theorem am_ret_inv {rb : Bool} {Post : am_P} {st : List Value} {L : List am_SD} {σ : am_M} (h : am_ret rb Post st L σ) : ∃ v, st = [.int v] ∧ (rb = true → v = 0 ∨ v = 1) ∧ Post (some (.int v)) L σ := by
  match st, h with
  | [.int v], h =>
    cases rb with
    | false => exact ⟨v, rfl, (fun q => by cases q), h⟩
    | true => exact ⟨v, rfl, fun _ => h.1, h.2⟩
theorem am_rev_inv {Post : am_P} {st : List Value} {L : List am_SD} {σ : am_M} (h : am_rev Post st L σ) : st = [] ∧ Post none L σ := by
  match st, h with
  | [], h => exact ⟨rfl, h⟩
theorem am_sta_inv {Γ : Nat → am_T} {lv : am_L} {L : List am_SD} {σ : am_M} {x y : Nat} {st : List Value} {k : am_L → List Value → List am_SD → am_M → Prop} (h : am_sta Γ lv L σ x y st k) :
    (x = 1000 ∧ ∃ a b r, st = .int b :: .int a :: r ∧ am_short r = true ∧ k lv (.int (if a < b then b else a) :: r) L σ) ∨ (x = 1001 ∧ ∃ a b r, st = .int b :: .int a :: r ∧ am_short r = true ∧ k lv (.int (if b < a then b else a) :: r) L σ) ∨ (x = 1002 ∧ am_cpyi L σ st (fun r σ' => k lv r L σ')) ∨ ((¬ x = 1000 ∧ ¬ x = 1001 ∧ ¬ x = 1002) ∧ am_cal (Γ x) L σ y st (fun st' L' σ' => k lv st' L' σ')) := by
  unfold am_sta at h
  split at h
  · rename_i hx
    obtain ⟨a, b, r, h1, h2⟩ := am_pii_inv h
    obtain ⟨h2, h3⟩ := am_bif h2
    exact Or.inl ⟨hx, a, b, r, h1, h2, h3⟩
  · rename_i n1
    split at h
    · rename_i hx
      obtain ⟨a, b, r, h1, h2⟩ := am_pii_inv h
      obtain ⟨h2, h3⟩ := am_bif h2
      exact Or.inr (Or.inl ⟨hx, a, b, r, h1, h2, h3⟩)
    · rename_i n2
      split at h
      · rename_i hx
        exact Or.inr (Or.inr (Or.inl ⟨hx, h⟩))
      · rename_i n3
        exact Or.inr (Or.inr (Or.inr ⟨⟨n1, n2, n3⟩, h⟩))
