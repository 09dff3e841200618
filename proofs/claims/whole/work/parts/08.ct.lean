/-! CONTRACTS: what a method does, as a transformer over the little machine's memory -/
def am_room (d : Nat) : Room := { frames := d + 1, cells := 0, slots := 0, locals := 40 * (d + 1) }
def am_pre (cI cZ : ClassId) (D : va_G) (ad : Nat → Nat) (L : List am_SD) (σ : am_M) (sz : Nat) (U : State) : Prop :=
  U.heap.size = sz ∧ va_P D vwCl (am_wl cI cZ ad L σ) U.heap ∧ va_K D vwCl [(cI, .int), (cZ, .boolean)] U ∧ va_D (fun _ => True) (am_wl cI cZ ad L σ) ∧ ∀ w ∈ am_nest, va_Nw w U
def am_at (cI cZ : ClassId) (D : va_G) (ad : Nat → Nat) (nC : Nat) (u : List am_SD × am_M) (t : State) : Prop := u.1.length = nC ∧ va_P D vwCl (am_wl cI cZ ad u.1 u.2) t.heap
def am_Q (ret : Option FieldType) (cI cZ : ClassId) (D : va_G) (ad : Nat → Nat) (nC : Nat) (post : am_P) (A : Nat → Prop) : Array Value → State → Outcome → State → Prop := match ret with
  | none => va_Qv (fun u : List am_SD × am_M => post none u.1 u.2) (am_at cI cZ D ad nC) A
  | some _ => va_Qi (fun (r : Int32) (u : List am_SD × am_M) => post (some (.int r)) u.1 u.2) (am_at cI cZ D ad nC) A
def am_Ct (l : Launch) (d : Nat) (y : MethodName) (cc : ByteArray) (maxL : Nat) (ret : Option FieldType) (tr : am_T) : Prop :=
  ∀ (cI cZ : ClassId) (D : va_G) (ad : Nat → Nat) (sz : Nat) (as : List Value) (L : List am_SD) (σ : am_M) (post : am_P), tr as L σ post →
    Met l y (Cond.code y cc maxL ret :: am_ALL) (am_room d) (va_Pc (as.map (am_cv ad)) (am_pre cI cZ D ad L σ sz)) (am_Q ret cI cZ D ad L.length post (va_A (am_wl cI cZ ad L σ) sz)) 0 0 (va_A (am_wl cI cZ ad L σ) sz)
def am_rb (ret : Option FieldType) : Bool := match ret with
  | some .boolean => true
  | _ => false
/-- what a call's link needs, of a method of its own class or another's -/
def am_lnV (own : String) (idx : Nat) (y : MethodName) (cc : ByteArray) (maxL : Nat) (ret : Option FieldType) (n w : Nat) : Prop :=
  Cond.code y cc maxL ret ∈ am_ALL ∧ Cond.initialized y.cls ∈ am_ALL ∧ Cond.instanceMethod y ∈ am_ALL ∧ Cond.selects y.cls y y ∈ am_ALL ∧ (Cond.methodLink own idx y ∈ am_ALL ∨ ∃ host, Cond.methodLinkNest own idx y host ∈ am_nest) ∧ (y.cls ≠ "java/lang/invoke/MethodHandle" ∧ y.cls ≠ "java/lang/invoke/VarHandle" ∧ (parseMethodDescriptor y.desc).map (fun d => d.parameters.length) = some n) ∧ (∃ T N, vwCl[w]? = some (y.cls, T, N)) ∧ maxL ≤ 20
def am_lnS (own : String) (idx : Nat) (y : MethodName) (cc : ByteArray) (maxL : Nat) (ret : Option FieldType) (n : Nat) : Prop :=
  Cond.code y cc maxL ret ∈ am_ALL ∧ Cond.initialized y.cls ∈ am_ALL ∧ Cond.static y ∈ am_ALL ∧ Cond.methodLink own idx y ∈ am_ALL ∧ (y.cls ≠ "java/lang/invoke/MethodHandle" ∧ y.cls ≠ "java/lang/invoke/VarHandle" ∧ (parseMethodDescriptor y.desc).map (fun d => d.parameters.length) = some n) ∧ maxL ≤ 20
section AMR
variable {p : Program} {l : Launch} {e : Env} {s : State} {m : MethodId} {args : Array Value} {below : List Frame} {meth : Method} {c : Code} {Q : State → Prop} {cI cZ : ClassId} {D : va_G} {ad : Nat → Nat} {A : Nat → Prop} {H0 : Heap} {nL nC : Nat} {cc : ByteArray} {own : String}
theorem am_blind {as : List Value} {L : List am_SD} {σ : am_M} {sz : Nat} : FrameBlind (va_Pc (as.map (am_cv ad)) (am_pre cI cZ D ad L σ sz)) := by
  intro a U g mk q
  obtain ⟨q0, q1, qP, qK, qD, qN⟩ := q
  exact ⟨q0, q1, qP, va_K.moved (u := U) (U := U.calling g mk a) (Vm.Alike.refl U.vm) qK, qD, fun w hw => va_Nw.same (by have h2 := (List.mem_filter.mp hw).2; cases w <;> first | rfl | (exfalso; revert h2; simp [am_isN])) (show U.vm = (U.calling g mk a).vm from rfl) (qN w hw)⟩
theorem am_freeOf {L : List am_SD} {σ : am_M} {H : Heap} {locs : List Loc} (hD : va_D A (am_wl cI cZ ad L σ)) (hS : va_S A H0 H locs) (hA : ∀ q, H0.size ≤ q → A q) : ∀ q, va_A (am_wl cI cZ ad L σ) H.size q → A q := by
  intro q h
  rcases h with ⟨k, e, h⟩ | h
  · exact hD.2 k (q, e) h
  · exact hA q (Nat.le_trans hS.1 h)
/-- behind the call -/
theorem am_after {ret : Option FieldType} {L : List am_SD} {σ : am_M} {H : Heap} {locs : List Loc} {ls : Array Slot} {rest : List Value} {st0 : List Value} {K : am_P} {pc : Nat} {R : Room} {a : Array Value} (hlen : L.length = nC) (hS : va_S A H0 H locs) (hFr : ∀ q, va_A (am_wl cI cZ ad L σ) H.size q → A q)
    (hr : va_Run p l e R s m args below meth c H locs 0 0 0 0 (F0 m pc ls st0) (rest.map (am_cv ad)) (am_Q ret cI cZ D ad L.length K (va_A (am_wl cI cZ ad L σ) H.size) a) (va_A (am_wl cI cZ ad L σ) H.size))
    (kk : ∀ (v : Option Value) (L' : List am_SD) (σ' : am_M) (H' : Heap) (locs' : List Loc), K v L' σ' → L'.length = nC → va_P D vwCl (am_wl cI cZ ad L' σ') H' → va_S A H0 H' locs' → W p l e R s m args below meth c H' locs' 0 0 Q (F0 m (pc + 3) ls ((am_push v rest).map (am_cv ad)))) :
    W p l e R s m args below meth c H locs 0 0 Q (F0 m pc ls st0) := by
  cases ret with
  | none =>
    refine va_callv (a := a) hr hS (fun q _ h => hFr q h) hFr (fun u t H1 locs1 ht hvm hw hB hz1 hk1 hS1 => ?_)
    obtain ⟨b1, b2⟩ := hB
    rw [ht] at b2
    exact kk none u.1 u.2 H1 locs1 hw (b1.trans hlen) b2 hS1
  | some ty =>
    refine va_calli (a := a) hr hS (fun q _ h => hFr q h) hFr (fun r u t H1 locs1 ht hvm hw hB hz1 hk1 hS1 => ?_)
    obtain ⟨b1, b2⟩ := hB
    rw [ht] at b2
    exact kk (some (.int r)) u.1 u.2 H1 locs1 hw (b1.trans hlen) b2 hS1
theorem am_ruleV {d d' : Nat} (hd : d' < d) {y : MethodName} {cc' : ByteArray} {maxL : Nat} {ret : Option FieldType} {tr : am_T} (hC : am_Ct l d' y cc' maxL ret tr) {yn pc idx w : Nat} {self : Cond} (hself : self.before args s = true) (hA : ∀ q, H0.size ≤ q → A q)
    (F : am_Fix p (am_room d) s m args c cI cZ D ad A nL nC cc own) (hln : am_lnV own idx y cc' maxL ret (yn - 1) w) (hdg : decode cc pc = .ok (.invokevirtual idx, 3)) :
    am_Rule p l e (am_room d) s m args below meth c Q cI cZ D ad A H0 nL nC tr yn pc (am_okV w) := by
  intro as L σ rest K H locs ls hy hlen hP hS hls hsh hok htr kk
  obtain ⟨hx, hb, hml, hown, hts, hN, hK, hDA, hf1, hf2⟩ := F
  obtain ⟨w1, w2, w3, w4, w5, w6, ⟨T, N, hcl⟩, hmx⟩ := hln
  obtain ⟨b, t, fs, rfl, hbL⟩ := hok
  have hFr := am_freeOf (hDA L σ hlen) hS hA
  have hts' : ∀ w ∈ (self :: am_ALL), w.before args s = true := fun w hw => (List.mem_cons.mp hw).elim (fun h => h ▸ hself) (hts w)
  have hM := hC cI cZ D ad H.size (.ref b :: t) L σ K htr
  have hpre : PreV s H y.cls (ad b) (va_Pc ((Value.ref b :: t).map (am_cv ad)) (am_pre cI cZ D ad L σ H.size)) (t.map (am_cv ad)) := ⟨am_blind, va_recv hK hP hcl (q0 := b) (by rw [am_wl_get, hbL]; rfl), fun U hU hW => ⟨rfl, by rw [hU], by rw [hU]; exact hP, va_K.moved hW.alike hK, (hDA L σ hlen).weaken (fun _ _ _ _ => trivial), am_warm hW hN⟩⟩
  have hroom : (am_room d').frames + 1 ≤ (am_room d).frames ∧ 8 + (maxL + 11) + (am_room d').locals ≤ (am_room d).locals := by
    simp only [am_room]; omega
  have hyl : (t.map (am_cv ad)).length = yn - 1 := by simp at hy ⊢; omega
  have hst : ((Value.ref b :: t).reverse ++ rest).map (am_cv ad) = (t.map (am_cv ad)).reverse ++ .ref (ad b) :: rest.map (am_cv ad) := by
    simp [am_cv]
  rw [hst]
  rcases w5 with w5 | ⟨host, w5⟩
  · exact am_after hlen hS hFr (va_runV (Ts := self :: am_ALL) (nL := nL) ⟨hx, hb, hml, hown, hts'⟩ hM ⟨callB_of (yn - 1) hts' (am_good w1) rfl rfl rfl (hts _ w2) (hts _ w5) w6 hroom, hts _ w3, hts _ w4⟩ hpre rfl hyl hls rfl (lv_room (am_short_sum ad hsh)) hdg ⟨Nat.le_refl _, Nat.le_refl _⟩) kk
  · exact am_after hlen hS hFr (va_runVN (Ts := self :: am_ALL) (nL := nL) ⟨hx, hb, hml, hown, hts'⟩ hM ⟨va_cnB (yn - 1) hts' (am_good w1) rfl rfl rfl (hN _ w5) (hts _ w2) w6 hroom, hts _ w3, hts _ w4⟩ hpre rfl hyl hls rfl (lv_room (am_short_sum ad hsh)) hdg ⟨Nat.le_refl _, Nat.le_refl _⟩) kk
theorem am_ruleS {d d' : Nat} (hd : d' < d) {y : MethodName} {cc' : ByteArray} {maxL : Nat} {ret : Option FieldType} {tr : am_T} (hC : am_Ct l d' y cc' maxL ret tr) {yn pc idx : Nat} {self : Cond} (hself : self.before args s = true) (hA : ∀ q, H0.size ≤ q → A q)
    (F : am_Fix p (am_room d) s m args c cI cZ D ad A nL nC cc own) (hln : am_lnS own idx y cc' maxL ret yn) (hdg : decode cc pc = .ok (.invokestatic idx, 3)) :
    am_Rule p l e (am_room d) s m args below meth c Q cI cZ D ad A H0 nL nC tr yn pc (fun _ _ => True) := by
  intro as L σ rest K H locs ls hy hlen hP hS hls hsh hok htr kk
  obtain ⟨hx, hb, hml, hown, hts, hN, hK, hDA, hf1, hf2⟩ := F
  obtain ⟨w1, w2, w3, w5, w6, hmx⟩ := hln
  have hFr := am_freeOf (hDA L σ hlen) hS hA
  have hts' : ∀ w ∈ (self :: am_ALL), w.before args s = true := fun w hw => (List.mem_cons.mp hw).elim (fun h => h ▸ hself) (hts w)
  have hM := hC cI cZ D ad H.size as L σ K htr
  have hpre : PreS s H (va_Pc (as.map (am_cv ad)) (am_pre cI cZ D ad L σ H.size)) (as.map (am_cv ad)) := ⟨am_blind, fun U hU hW => ⟨rfl, by rw [hU], by rw [hU]; exact hP, va_K.moved hW.alike hK, (hDA L σ hlen).weaken (fun _ _ _ _ => trivial), am_warm hW hN⟩⟩
  have hroom : (am_room d').frames + 1 ≤ (am_room d).frames ∧ 8 + (maxL + 11) + (am_room d').locals ≤ (am_room d).locals := by
    simp only [am_room]; omega
  have hyl : (as.map (am_cv ad)).length = yn := by simpa using hy
  have hst : (as.reverse ++ rest).map (am_cv ad) = (as.map (am_cv ad)).reverse ++ rest.map (am_cv ad) := by simp
  rw [hst]
  exact am_after hlen hS hFr (va_runS (Ts := self :: am_ALL) (nL := nL) ⟨hx, hb, hml, hown, hts'⟩ hM ⟨callB_of yn hts' (am_good w1) rfl rfl rfl (hts _ w2) (hts _ w5) w6 hroom, hts _ w3⟩ hpre rfl hyl hls rfl (lv_room (am_short_sum ad hsh)) hdg ⟨Nat.le_refl _, Nat.le_refl _⟩) kk
end AMR
/-- a call row of a table, with its callee's contract -/
def am_cok (l : Launch) (d : Nat) (own : String) (Γ : Nat → am_T) (e : am_I) : Prop := match e with
  | (_, some (.invokevirtual idx), x, y, w, _) => ∃ d' y' cc' maxL' ret', d' < d ∧ am_Ct l d' y' cc' maxL' ret' (Γ x) ∧ am_lnV own idx y' cc' maxL' ret' (y - 1) w
  | (_, some (.invokestatic idx), x, y, _, _) => x = 1000 ∨ x = 1001 ∨ x = 1002 ∨ ∃ d' y' cc' maxL' ret', d' < d ∧ am_Ct l d' y' cc' maxL' ret' (Γ x) ∧ am_lnS own idx y' cc' maxL' ret' y
  | _ => True
theorem am_lv0_len : ∀ (as : List Value), (lg_sl as).length = (am_lv0 as).length
  | [] => rfl
  | v :: t => by
    have ih := am_lv0_len t
    cases v <;> simp [lg_sl, am_lv0, Value.category] at ih ⊢ <;> omega
theorem am_lv0_map (ad : Nat → Nat) : ∀ (as : List Value), (am_lv0 (as.map (am_cv ad))).length = (am_lv0 as).length
  | [] => rfl
  | v :: t => by
    have ih := am_lv0_map ad t
    cases v <;> simp [am_lv0, am_cv, ih]
theorem am_lv0_args (ad : Nat → Nat) : ∀ (as : List Value) (k : Nat) (q : Nat × Value), q ∈ am_prk ad k (am_lv0 as) → q ∈ lv_args k (as.map (am_cv ad))
  | [], k, q, h => by simp [am_lv0, am_prk] at h
  | v :: t, k, q, h => by
    rw [List.map_cons, lv_args]
    cases v <;> simp only [am_lv0, am_prk, List.mem_cons] at h ⊢ <;> rcases h with h | h <;> first | exact Or.inl h | (refine Or.inr ?_; exact am_lv0_args ad t _ q h)
/-- A METHOD'S CONTRACT out of its table -/
theorem am_ct {l : Launch} {d : Nat} {y : MethodName} {cc : ByteArray} {maxL : Nat} {ret : Option FieldType} {tr : am_T} {own : String} (full : List am_I) (Γ : Nat → am_T) (hpl : plainName y.cls = true) (hret : ret = none ∨ ret = some .int ∨ ret = some .boolean) (hy : y.cls = own)
    (hdec : ∀ e ∈ full, am_dec cc e) (hz : am_pcx full 0 = some 0) (hchk : am_chk ret.isSome maxL full full = true) (hlk : ∀ e ∈ full, am_lk own e) (hcall : ∀ e ∈ full, am_cok l d own Γ e)
    (h : ∀ (as : List Value) (L : List am_SD) (σ : am_M) (post : am_P), tr as L σ post → (am_lv0 as).length ≤ maxL ∧ ∀ WW : am_W, (∀ (n i : Nat) (lv : am_L) (st : List Value) (L : List am_SD) (σ : am_M), am_wp full Γ (am_rb ret) post WW n (full.drop i) lv st L σ → WW i lv st L σ) → WW 0 (am_lv0 as) [] L σ) :
    am_Ct l d y cc maxL ret tr := by
  intro cI cZ D ad sz as L σ post htr
  obtain ⟨hlen0, h⟩ := h as L σ post htr
  refine Met.ofW (cc := cc) (maxL := maxL) (ret := ret) hpl rfl ?_
  intro p e s m args below meth c s₁ B hml hv
  obtain ⟨rfl, hsz, hP, hK, hD0, hN⟩ := hv
  have hx := B.exec
  have hb := B.bytes
  have hr := B.returns
  have hts := atoms_spec (ws := Cond.code y cc maxL ret :: am_ALL) B.pre
  have hown : s.vm.findClass own = some m.cls := by rw [← hy]; exact findClass_of_methodNamed B.named
  have hlocks := B.notSynchronized
  subst hsz
  have hD := hD0.self (sz := s.heap.size)
  generalize hAe : va_A (am_wl cI cZ ad L σ) s.heap.size = A at hD ⊢
  have hA : ∀ q : Nat, s.heap.size ≤ q → A q := fun q h => by rw [← hAe]; exact Or.inr h
  have hl := lv_entry (as.map (am_cv ad)) (n := maxL) (by rw [am_lv0_len, am_lv0_map]; exact hlen0)
  rw [lg_entry_eq]
  generalize (lg_sl (as.map (am_cv ad)) ++ List.replicate (maxL - (lg_sl (as.map (am_cv ad))).length) Slot.unset).toArray = ls at hl ⊢
  have F : am_Fix p (am_room d) s m (as.map (am_cv ad)).toArray c cI cZ D ad A maxL L.length cc own := ⟨hx, hb, hml, hown, fun w hw => hts w (List.mem_cons_of_mem _ hw), hN, hK, fun L' σ' hl' => am_D_of hD hl', by simp only [am_room]; omega, by simp only [am_room]; omega⟩
  have S := am_sound (l := l) (e := e) (below := below) (meth := meth) (Q := MQ below (am_Q ret cI cZ D ad L.length post A) (as.map (am_cv ad)).toArray s 0 0 A) (H0 := s.heap) (Γ := Γ) (rb := am_rb ret) (Post := post) F hdec hchk hlk
    (fun pc idx x yn w z hm => by
      obtain ⟨d', y', cc', maxL', ret', h1, h2, h3⟩ := hcall _ hm
      obtain ⟨n, hdg, hn⟩ := hdec _ hm
      cases hn rfl
      exact am_ruleV h1 h2 (hts _ List.mem_cons_self) hA F h3 hdg)
    (fun pc idx x yn w z hm n1 n2 n3 => by
      rcases hcall _ hm with q | q | q | ⟨d', y', cc', maxL', ret', h1, h2, h3⟩
      · exact absurd q n1
      · exact absurd q n2
      · exact absurd q n3
      obtain ⟨n, hdg, hn⟩ := hdec _ hm
      cases hn rfl
      exact am_ruleS h1 h2 (hts _ List.mem_cons_self) hA F h3 hdg)
    (fun hk v L' σ' H locs pc ls hlen hP hS hdg hv hpost => by
      rcases hret with rfl | rfl | rfl
      · cases hk
      · exact W.iret (v := v) hx hb hr (fun t ht hW => ⟨⟨v, (L', σ'), rfl, hpost, hlen, by rw [ht]; exact hP⟩, hS.F ht⟩) hS.2.2 hdg
      · exact W.zret (v := v) hx hb hr (by rcases hv rfl with rfl | rfl <;> decide) (fun t ht hW => ⟨⟨v, (L', σ'), rfl, hpost, hlen, by rw [ht]; exact hP⟩, hS.F ht⟩) hS.2.2 hdg)
    (fun hk L' σ' H locs pc ls hlen hP hS hdg hpost => by
      rcases hret with rfl | rfl | rfl
      · exact W.vret hx hb hr (fun t ht hW => ⟨⟨(L', σ'), rfl, hpost, hlen, by rw [ht]; exact hP⟩, hS.F ht⟩) hS.2.2 hdg
      · cases hk
      · cases hk)
  obtain ⟨e0, he0, h0⟩ := h _ S
  have e1 : e0.1 = 0 := by
    have h1 := hz
    rw [am_pcx_get, he0] at h1
    exact Option.some.inj h1
  have h2 := h0 s.heap [] ls rfl hP va_S.rf (am_has_mono hl (fun q hq => am_lv0_args ad as 0 q hq))
  rw [e1] at h2
  exact h2
