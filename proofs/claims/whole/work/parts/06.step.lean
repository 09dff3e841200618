/-! THE LITTLE MACHINE IS THE MACHINE: am_wp at a row gives W there -/
section AMS
variable {p : Program} {l : Launch} {e : Env} {R : Room} {s : State} {m : MethodId} {args : Array Value} {below : List Frame} {meth : Method} {c : Code} {Q : State → Prop} {cI cZ : ClassId} {D : va_G} {ad : Nat → Nat} {A : Nat → Prop} {H0 : Heap} {nL nC : Nat} {cc : ByteArray} {own : String}
theorem am_tsw_get {j : Int → Prop} {v : Int} : ∀ (offs : List Int) (lo : Int) (k : Nat) (o : Int), am_tsw j v lo offs → offs[k]? = some o → v = lo + k → j o
  | [], lo, k, o, h, hk, hv => by simp at hk
  | a :: r, lo, 0, o, h, hk, hv => by
    simp only [List.getElem?_cons_zero, Option.some.injEq] at hk
    subst hk
    exact h.1 (by rw [hv]; exact Int.add_zero lo)
  | a :: r, lo, k + 1, o, h, hk, hv => am_tsw_get r (lo + 1) k o h.2 (by rw [List.getElem?_cons_succ] at hk; exact hk) (by rw [hv]; push_cast; omega)
theorem am_lsw_get {j : Int → Prop} {v d : Int} : ∀ (ps : List (Int × Int)), am_lsw j v d ps → ∃ o, Op.lookupswitch.offset ps d v = o ∧ j o ∧ (o = d ∨ ∃ q ∈ ps, q.2 = o)
  | [], h => ⟨d, rfl, h, Or.inl rfl⟩
  | (a, o) :: r, h => by
    by_cases e : v = a
    · exact ⟨o, by subst e; simp [Op.lookupswitch.offset], h.1 e, Or.inr ⟨_, List.mem_cons_self, rfl⟩⟩
    · obtain ⟨o', h1, h2, h3⟩ := am_lsw_get r (h.2 e)
      refine ⟨o', ?_, h2, h3.imp id (fun ⟨q, a, b⟩ => ⟨q, List.mem_cons_of_mem _ a, b⟩)⟩
      rw [← h1]
      have e' : ¬ a = v := fun h => e h.symm
      simp [Op.lookupswitch.offset, e, e']
/-- the fixed things of a walk -/
abbrev am_Fix (p : Program) (R : Room) (s : State) (m : MethodId) (args : Array Value) (c : Code) (cI cZ : ClassId) (D : va_G) (ad : Nat → Nat) (A : Nat → Prop) (nL nC : Nat) (cc : ByteArray) (own : String) : Prop :=
  p.tables.exec = Jvm.exec ∧ c.code = cc ∧ c.maxLocals = nL ∧ s.vm.findClass own = some m.cls ∧ (∀ w ∈ am_ALL, w.before args s = true) ∧ (∀ w ∈ am_nest, va_Nw w s) ∧ va_K D vwCl [(cI, .int), (cZ, .boolean)] s ∧ (∀ (L : List am_SD) (σ : am_M), L.length = nC → va_D A (am_wl cI cZ ad L σ)) ∧ 1 ≤ R.frames ∧ 40 ≤ R.locals
theorem am_has_at {ls : Array Slot} {lv : am_L} {i : Nat} {v : Value} (h : lv_has ls nL (am_prk ad 0 lv)) (hv : lv[i]? = some (some v)) : ls[i]? = some (.val (am_cv ad v)) :=
  h.2.2 (i, am_cv ad v) ((am_prk_mem ad lv 0 _).mpr ⟨i, v, hv, by rw [Nat.zero_add]⟩)
theorem am_has_ix {lv : am_L} {i : Nat} {v : Value} (hv : lv[i]? = some (some v)) : ∃ k : Nat, (am_prk ad 0 lv)[k]? = some (i, am_cv ad v) :=
  List.getElem?_of_mem ((am_prk_mem ad lv 0 _).mpr ⟨i, v, hv, by rw [Nat.zero_add]⟩)
/-- reading a field -/
theorem am_getW (F : am_Fix p R s m args c cI cZ D ad A nL nC cc own) {idx x y pc : Nat} (hl : am_fl own idx x y) (hdg : decode cc pc = .ok (.getfield idx, 3)) {L : List am_SD} {σ : am_M} {H : Heap} {locs : List Loc} {ls : Array Slot} {a : Nat} {fs : List (Option Nat)} {o : Option Nat} {rest : List Value} (hP : va_P D vwCl (am_wl cI cZ ad L σ) H) (ha : L[a]? = some (.inr (x, fs))) (ho : fs[y]? = some o)
    (kk : W p l e R s m args below meth c H locs 0 0 Q (F0 m (pc + 3) ls (am_fv ad (σ a) y o :: rest))) : W p l e R s m args below meth c H locs 0 0 Q (F0 m pc ls (.ref (ad a) :: rest)) := by
  obtain ⟨hx, hb, hml, hown, hts, hN, hK, hDA, hf1, hf2⟩ := F
  obtain ⟨C, T, N, hc, hk, hlk⟩ := hl
  have he : (am_wl cI cZ ad L σ)[a]? = some (ad a, .inr (x, fs.mapIdx (am_fv ad (σ a)))) := by rw [am_wl_get, ha]; rfl
  have hv : (fs.mapIdx (am_fv ad (σ a)))[y]? = some (am_fv ad (σ a) y o) := by rw [List.getElem?_mapIdx, ho]; rfl
  rcases hlk with h | ⟨host, h⟩
  · exact va_get hx hb hts (am_cls x C T N hc).1 hown hK hP a he hc y hk (hts _ h) (fun _ h9 => h9) hv hdg kk
  · exact va_getN hx hb hts (am_cls x C T N hc).1 hown hK hP a he hc y hk (va_Nw.use rfl (hN _ h)) (fun _ h9 => h9) hv hdg kk
/-- writing a field -/
theorem am_putW (F : am_Fix p R s m args c cI cZ D ad A nL nC cc own) {idx x y pc : Nat} (hl : am_fl own idx x y) (hp : ∀ C T N, vwCl[x]? = some (C, T, N) → (T y).2.2.2 = false) {ty : FieldType} (hty : ∀ C T N, vwCl[x]? = some (C, T, N) → parseFieldDescriptor (T y).2.2.1 = some ty) (hdg : decode cc pc = .ok (.putfield idx, 3)) {L : List am_SD} {σ : am_M} {H : Heap} {locs : List Loc} {ls : Array Slot} {a : Nat} {fs : List (Option Nat)} {v : Value} {rest : List Value} (hlen : L.length = nC) (hP : va_P D vwCl (am_wl cI cZ ad L σ) H) (hS : va_S A H0 H locs) (ha : L[a]? = some (.inr (x, fs))) (ho : y < fs.length) (hn : narrow ty v = v) (hfit : fits ty v = true)
    (kk : ∀ (H1 : Heap) (locs1 : List Loc), va_P D vwCl ((am_wl cI cZ ad L σ).set a (ad a, .inr (x, (fs.mapIdx (am_fv ad (σ a))).set y v))) H1 → va_S A H0 H1 locs1 → W p l e R s m args below meth c H1 locs1 0 0 Q (F0 m (pc + 3) ls rest)) : W p l e R s m args below meth c H locs 0 0 Q (F0 m pc ls (v :: .ref (ad a) :: rest)) := by
  obtain ⟨hx, hb, hml, hown, hts, hN, hK, hDA, hf1, hf2⟩ := F
  obtain ⟨C, T, N, hc, hk, hlk⟩ := hl
  have he : (am_wl cI cZ ad L σ)[a]? = some (ad a, .inr (x, fs.mapIdx (am_fv ad (σ a)))) := by rw [am_wl_get, ha]; rfl
  obtain ⟨h1, ⟨ty0, h2⟩, h3⟩ := am_cls x C T N hc
  rcases hlk with h | ⟨host, h⟩
  · exact va_put hx hb hts h1 ty0 h2 h3 hown hK hP (hDA L σ hlen) hS a he hc y hk (hts _ h) (fun _ h9 => h9) (hp C T N hc) (hty C T N hc) hn hfit (by simpa using ho) hdg (fun H1 locs1 a1 a2 a3 => kk H1 locs1 a1 a3)
  · exact va_putN hx hb hts h1 ty0 h2 h3 hown hK hP (hDA L σ hlen) hS a he hc y hk (va_Nw.use rfl (hN _ h)) (fun _ h9 => h9) (hp C T N hc) (hty C T N hc) hn hfit (by simpa using ho) hdg (fun H1 locs1 a1 a2 a3 => kk H1 locs1 a1 a3)
end AMS
