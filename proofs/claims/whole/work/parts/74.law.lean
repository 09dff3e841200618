/-! THE LAW: two objects, the class's and the reference's, side by side -/
def lw_W (cI cZ : ClassId) (D : va_G) (A : Nat → Prop) (x0 m0 : Nat) (S T : sw_A) (H : Heap) : Prop :=
  ∃ (ad : Nat → Nat) (σ : am_M) (ad' : Nat → Nat) (τ : am_M), ad 0 = x0 ∧ ad' 0 = m0 ∧ RC S σ ∧ RM T τ ∧ va_P D vwCl (am_wl cI cZ ad LC σ) H ∧ va_P D vwCl (am_wl cI cZ ad' LM τ) H ∧ va_D A (am_wl cI cZ ad LC σ) ∧ va_D A (am_wl cI cZ ad' LM τ) ∧ ∀ i j, i < 44 → j < 27 → ad i ≠ ad' j
def lw_Fix (p : Program) (s : State) (m : MethodId) (c : Code) (b : Nat) (cI cZ : ClassId) (D : va_G) : Prop :=
  p.tables.exec = Jvm.exec ∧ c.code = code ∧ c.maxLocals = 4 ∧ s.vm.findClass RL = some m.cls ∧ (∀ w ∈ lw_tbl, w.before #[Value.ref b] s = true) ∧ (∀ w ∈ am_nest, va_Nw w s) ∧ va_K D vwCl [(cI, .int), (cZ, .boolean)] s
theorem lw_good {c2 : Cond} (h : c2 ∈ am_ALL) : GoodIn lw_tbl (c2 :: am_ALL) := by
  intro w hw
  have hm : w ∈ am_ALL := by
    rcases List.mem_cons.mp hw with rfl | hw
    · exact h
    · exact hw
  exact ⟨(List.mem_filter.mp hm).1, good_of_word (List.mem_filter.mp hm).2⟩
theorem lw_in {w : Cond} (h : w ∈ am_ALL) : w ∈ lw_tbl := (List.mem_filter.mp h).1
/-- cells of another world stay -/
theorem lw_kept {cI cZ : ClassId} {D : va_G} {ad ad' : Nat → Nat} {L L' : List am_SD} {σ τ : am_M} {H H' : Heap} (hP : va_P D vwCl (am_wl cI cZ ad' L' τ) H) (hk : ∀ q : Nat, q < H.size → ¬ va_A (am_wl cI cZ ad L σ) H.size q → H'[q]? = H[q]?) (hne : ∀ i j, i < L.length → j < L'.length → ad i ≠ ad' j) : va_P D vwCl (am_wl cI cZ ad' L' τ) H' := by
  refine hP.kept (fun k q hq => hk _ (hP k q hq).lt (fun h => ?_))
  have hq' := hq
  rw [am_wl_get] at hq'
  obtain ⟨d, hd, rfl⟩ := Option.map_eq_some_iff.mp hq'
  have hj : k < L'.length := (List.getElem?_eq_some_iff.mp hd).1
  rcases h with ⟨i, e, h⟩ | h
  · rw [am_wl_get] at h
    obtain ⟨d2, hd2, h2⟩ := Option.map_eq_some_iff.mp h
    exact hne i k (List.getElem?_eq_some_iff.mp hd2).1 hj (congrArg Prod.fst h2)
  · exact absurd (hP k _ hq).lt (Nat.not_lt.mpr h)
section LWC
variable {p : Program} {l : Launch} {e : Env} {s : State} {m : MethodId} {below : List Frame} {meth : Method} {c : Code} {Q : State → Prop} {b : Nat} {cI cZ : ClassId} {D : va_G} {A : Nat → Prop} {kc ks : Nat}
theorem lw_call {d : Nat} (hd : d ≤ 20) {y : MethodName} {cc' : ByteArray} {maxL : Nat} {tr : am_T} (hC : am_Ct l d y cc' maxL (some .int) tr) {n pc idx w : Nat} (hA : ∀ q, s.heap.size ≤ q → A q)
    (F : lw_Fix p s m c b cI cZ D) (hln : am_lnV RL idx y cc' maxL (some .int) n w) (hdg : decode code pc = .ok (.invokevirtual idx, 3))
    {ad : Nat → Nat} {L : List am_SD} {σ : am_M} {t rest : List Value} {H : Heap} {locs : List Loc} {ls : Array Slot} {K : am_P} {fs : List (Option Nat)} (ht : t.map (am_cv ad) = t) (hn : t.length = n) (hL0 : L[0]? = some (.inr (w, fs)))
    (hP : va_P D vwCl (am_wl cI cZ ad L σ) H) (hD : va_D A (am_wl cI cZ ad L σ)) (hS : va_S A s.heap H locs) (hls : ls.size = 4) (hsum : (rest.map fun v => v.category).sum ≤ 8) (htr : tr (.ref 0 :: t) L σ K) (hkc : kc ≤ room_1.cells) (hks : ks ≤ room_1.slots)
    (kk : ∀ (r : Int32) (L' : List am_SD) (σ' : am_M) (H' : Heap) (locs' : List Loc), K (some (.int r)) L' σ' → L'.length = L.length → va_P D vwCl (am_wl cI cZ ad L' σ') H' → (∀ q : Nat, q < H.size → ¬ va_A (am_wl cI cZ ad L σ) H.size q → H'[q]? = H[q]?) → va_S A s.heap H' locs' → W p l e room_1 s m #[Value.ref b] below meth c H' locs' kc ks Q (F0 m (pc + 3) ls (.int r :: rest))) :
    W p l e room_1 s m #[Value.ref b] below meth c H locs kc ks Q (F0 m pc ls (t.reverse ++ .ref (ad 0) :: rest)) := by
  obtain ⟨hx, hb, hml, hown, hts, hN, hK⟩ := F
  obtain ⟨w1, w2, w3, w4, w5, w6, ⟨T, N, hcl⟩, hmx⟩ := hln
  have hFr : ∀ q, va_A (am_wl cI cZ ad L σ) H.size q → A q := am_freeOf hD hS hA
  have hM := hC cI cZ D ad H.size (.ref 0 :: t) L σ K htr
  have hta : (Value.ref 0 :: t).map (am_cv ad) = Value.ref (ad 0) :: t := by rw [List.map_cons, ht]; rfl
  rw [hta] at hM
  have hpre : PreV s H y.cls (ad 0) (va_Pc (Value.ref (ad 0) :: t) (am_pre cI cZ D ad L σ H.size)) t := ⟨by rw [← hta]; exact am_blind, va_recv hK hP hcl (q0 := 0) (by rw [am_wl_get, hL0]; rfl), fun U hU hW => ⟨rfl, by rw [hU], by rw [hU]; exact hP, va_K.moved hW.alike hK, hD.weaken (fun _ _ _ _ => trivial), am_warm hW hN⟩⟩
  have hroom : (am_room d).frames + 1 ≤ room_1.frames ∧ 8 + (maxL + 11) + (am_room d).locals ≤ room_1.locals := by
    show d + 1 + 1 ≤ 2048 ∧ 8 + (maxL + 11) + 40 * (d + 1) ≤ 84000
    omega
  have go : ∀ {a : Array Value}, va_Run p l e room_1 s m #[Value.ref b] below meth c H locs kc ks 0 0 (F0 m pc ls (t.reverse ++ .ref (ad 0) :: rest)) rest (am_Q (some .int) cI cZ D ad L.length K (va_A (am_wl cI cZ ad L σ) H.size) a) (va_A (am_wl cI cZ ad L σ) H.size) → W p l e room_1 s m #[Value.ref b] below meth c H locs kc ks Q (F0 m pc ls (t.reverse ++ .ref (ad 0) :: rest)) := by
    intro a hr
    refine va_calli (a := a) hr hS (fun q _ h => hFr q h) hFr (fun r u t H1 locs1 ht hvm hw hB hz1 hk1 hS1 => ?_)
    obtain ⟨b1, b2⟩ := hB
    rw [ht] at b2
    exact kk r u.1 u.2 H1 locs1 hw b1 b2 hk1 hS1
  rcases w5 with w5 | ⟨host, w5⟩
  · exact go (va_runV (Ts := lw_tbl) (nL := 4) ⟨hx, hb, hml, hown, hts⟩ hM ⟨callB_of n hts (lw_good w1) rfl rfl rfl (hts _ (lw_in w2)) (hts _ (lw_in w5)) w6 hroom, hts _ (lw_in w3), hts _ (lw_in w4)⟩ hpre rfl hn hls rfl (lv_room hsum) hdg ⟨hkc, hks⟩)
  · exact go (va_runVN (Ts := lw_tbl) (nL := 4) ⟨hx, hb, hml, hown, hts⟩ hM ⟨va_cnB n hts (lw_good w1) rfl rfl rfl (hN _ w5) (hts _ (lw_in w2)) w6 hroom, hts _ (lw_in w3), hts _ (lw_in w4)⟩ hpre rfl hn hls rfl (lv_room hsum) hdg ⟨hkc, hks⟩)
/-- the class's cells behind land(): the two lands have changed places -/
def lw_rn : am_SD → am_SD
  | .inl x => .inl x
  | .inr (ci, fs) => .inr (ci, fs.map (fun o => o.map sw_pi))
theorem lw_rnL : ∀ k, k < 44 → (lc_at 10 3)[sw_pi k]? = (LC[k]?).map lw_rn := by
  intro k hk
  iterate 44 (rcases k with _ | k; · rfl)
  omega
theorem lw_rnW (ad : Nat → Nat) (f : Nat → Int32) (d : am_SD) : am_wc cI cZ ad f (lw_rn d) = am_wc cI cZ (fun i => ad (sw_pi i)) f d := by
  rcases d with ⟨n, z⟩ | ⟨ci, fs⟩
  · rfl
  · show (Sum.inr (ci, (fs.map (fun o => o.map sw_pi)).mapIdx (am_fv ad f)) : va_E) = Sum.inr (ci, fs.mapIdx (am_fv (fun i => ad (sw_pi i)) f))
    congr 2
    refine List.ext_getElem? (fun i => ?_)
    rw [List.getElem?_mapIdx, List.getElem?_mapIdx, List.getElem?_map]
    cases fs[i]? with
    | none => rfl
    | some o => cases o <;> rfl
theorem lw_swp {ad : Nat → Nat} {σ : am_M} : ∀ (k : Nat) (q : Nat × va_E), (am_wl cI cZ (fun i => ad (sw_pi i)) LC (am_pm σ))[k]? = some q → (am_wl cI cZ ad (lc_at 10 3) σ)[sw_pi k]? = some q := by
  intro k q h
  have hk : k < 44 := by
    have := (List.getElem?_eq_some_iff.mp h).1
    rw [am_wl_len] at this
    exact this
  rw [← h, am_wl_get, am_wl_get, lw_rnL k hk]
  cases LC[k]? with
  | none => rfl
  | some d =>
    show some (ad (sw_pi k), am_wc cI cZ ad (σ (sw_pi k)) (lw_rn d)) = some (ad (sw_pi k), am_wc cI cZ (fun i => ad (sw_pi i)) (σ (sw_pi k)) d)
    rw [lw_rnW]
theorem sw_pi_inj : ∀ i j : Nat, i < 44 → j < 44 → sw_pi i = sw_pi j → i = j := by
  intro i j hi hj h
  unfold sw_pi at h
  repeat' split at h
  all_goals omega
theorem sw_pi_lt {i : Nat} (h : i < 44) : sw_pi i < 44 := by
  unfold sw_pi; repeat' split
  all_goals omega
theorem lw_stepC {d : Nat} (hd : d ≤ 20) {y : MethodName} {cc' : ByteArray} {maxL : Nat} {n pc idx : Nat} {t rest : List Value} {S T : sw_A} {q : Int32 × sw_A} (hC : am_Ct l d y cc' maxL (some .int) (trC (.ref 0 :: t) S q) ∨ am_Ct l d y cc' maxL (some .int) (trL (.ref 0 :: t) S q)) (hA : ∀ q, s.heap.size ≤ q → A q)
    (F : lw_Fix p s m c b cI cZ D) (hln : am_lnV RL idx y cc' maxL (some .int) n 6) (hdg : decode code pc = .ok (.invokevirtual idx, 3))
    {x0 m0 : Nat} {H : Heap} {locs : List Loc} {ls : Array Slot} (ht : ∀ ad, t.map (am_cv ad) = t) (hn : t.length = n) (hW : lw_W cI cZ D A x0 m0 S T H) (hS : va_S A s.heap H locs) (hls : ls.size = 4) (hsum : (rest.map fun v => v.category).sum ≤ 8) (hkc : kc ≤ room_1.cells) (hks : ks ≤ room_1.slots)
    (kk : ∀ (H' : Heap) (locs' : List Loc), lw_W cI cZ D A x0 m0 q.2 T H' → va_S A s.heap H' locs' → W p l e room_1 s m #[Value.ref b] below meth c H' locs' kc ks Q (F0 m (pc + 3) ls (.int q.1 :: rest))) :
    W p l e room_1 s m #[Value.ref b] below meth c H locs kc ks Q (F0 m pc ls (t.reverse ++ .ref x0 :: rest)) := by
  obtain ⟨ad, σ, ad', τ, rfl, h0', hR, hR', hP, hP', hD, hD', hne⟩ := hW
  have key : ∀ (r : Int32) (L' : List am_SD) (σ' : am_M) (H' : Heap) (locs' : List Loc), (r = q.1 ∧ ((L' = LC ∧ RC q.2 σ') ∨ (L' = lc_at 10 3 ∧ RC q.2 (am_pm σ')))) → L'.length = LC.length → va_P D vwCl (am_wl cI cZ ad L' σ') H' → (∀ q : Nat, q < H.size → ¬ va_A (am_wl cI cZ ad LC σ) H.size q → H'[q]? = H[q]?) → va_S A s.heap H' locs' → W p l e room_1 s m #[Value.ref b] below meth c H' locs' kc ks Q (F0 m (pc + 3) ls (.int r :: rest)) := by
    intro r L' σ' H' locs' hh hlen hP1 hk1 hS1
    obtain ⟨rfl, hh⟩ := hh
    have hP2 := lw_kept hP' hk1 (fun i j hi hj => hne i j hi hj)
    have hD1 := am_D_of (σ' := σ') hD hlen
    rcases hh with ⟨rfl, hh⟩ | ⟨rfl, hh⟩
    · exact kk H' locs' ⟨ad, σ', ad', τ, rfl, h0', hh, hR', hP1, hP2, hD1, hD', hne⟩ hS1
    · exact kk H' locs' ⟨fun i => ad (sw_pi i), am_pm σ', ad', τ, rfl, h0', hh, hR', hP1.by sw_pi lw_swp, hP2, hD1.by sw_pi lw_swp (fun i j hi hj => by rw [am_wl_len] at hi hj; exact sw_pi_inj i j hi hj), hD', fun i j hi hj => hne _ j (sw_pi_lt hi) hj⟩ hS1
  rcases hC with hC | hC
  · exact lw_call hd hC hA F hln hdg (K := fun v L' σ' => ∀ r, v = some (.int r) → r = q.1 ∧ ((L' = LC ∧ RC q.2 σ') ∨ (L' = lc_at 10 3 ∧ RC q.2 (am_pm σ')))) (ht ad) hn (L := LC) rfl hP hD hS hls hsum ⟨rfl, rfl, hR, fun σ' h' r hr => by cases hr; exact ⟨rfl, Or.inl ⟨rfl, h'⟩⟩⟩ hkc hks (fun r L' σ' H' locs' h1 => key r L' σ' H' locs' (h1 r rfl))
  · exact lw_call hd hC hA F hln hdg (K := fun v L' σ' => ∀ r, v = some (.int r) → r = q.1 ∧ ((L' = LC ∧ RC q.2 σ') ∨ (L' = lc_at 10 3 ∧ RC q.2 (am_pm σ')))) (ht ad) hn (L := LC) rfl hP hD hS hls hsum ⟨rfl, rfl, hR, fun L' σ' h' r hr => by cases hr; exact ⟨rfl, h'⟩⟩ hkc hks (fun r L' σ' H' locs' h1 => key r L' σ' H' locs' (h1 r rfl))
theorem lw_stepM {d : Nat} (hd : d ≤ 20) {y : MethodName} {cc' : ByteArray} {maxL : Nat} {n pc idx : Nat} {t rest : List Value} {S T : sw_A} {q : Int32 × sw_A} (hC : am_Ct l d y cc' maxL (some .int) (trM (.ref 0 :: t) T q)) (hA : ∀ q, s.heap.size ≤ q → A q)
    (F : lw_Fix p s m c b cI cZ D) (hln : am_lnV RL idx y cc' maxL (some .int) n 7) (hdg : decode code pc = .ok (.invokevirtual idx, 3))
    {x0 m0 : Nat} {H : Heap} {locs : List Loc} {ls : Array Slot} (ht : ∀ ad, t.map (am_cv ad) = t) (hn : t.length = n) (hW : lw_W cI cZ D A x0 m0 S T H) (hS : va_S A s.heap H locs) (hls : ls.size = 4) (hsum : (rest.map fun v => v.category).sum ≤ 8) (hkc : kc ≤ room_1.cells) (hks : ks ≤ room_1.slots)
    (kk : ∀ (H' : Heap) (locs' : List Loc), lw_W cI cZ D A x0 m0 S q.2 H' → va_S A s.heap H' locs' → W p l e room_1 s m #[Value.ref b] below meth c H' locs' kc ks Q (F0 m (pc + 3) ls (.int q.1 :: rest))) :
    W p l e room_1 s m #[Value.ref b] below meth c H locs kc ks Q (F0 m pc ls (t.reverse ++ .ref m0 :: rest)) := by
  obtain ⟨ad, σ, ad', τ, h0, rfl, hR, hR', hP, hP', hD, hD', hne⟩ := hW
  refine lw_call hd hC hA F hln hdg (K := fun v L' σ' => ∀ r, v = some (.int r) → r = q.1 ∧ L' = LM ∧ RM q.2 σ') (ht ad') hn (L := LM) rfl hP' hD' hS hls hsum ⟨rfl, rfl, hR', fun σ' h' r hr => by cases hr; exact ⟨rfl, rfl, h'⟩⟩ hkc hks ?_
  intro r L' σ' H' locs' h1 hlen hP1 hk1 hS1
  obtain ⟨rfl, rfl, hh⟩ := h1 r rfl
  exact kk H' locs' ⟨ad, σ, ad', σ', h0, rfl, hR, hh, lw_kept hP hk1 (fun i j hi hj => (hne j i hj hi).symm), hP1, hD, am_D_of (σ' := σ') hD' hlen, hne⟩ hS1
end LWC
