/-! THE CLAIM OUT OF ONE WALK OF THE LAW'S BODY. Your part is whole_start (and what it stands on); all else here is the same for every law, but numbers. -/
def R_law : String := "SwallowCountLaw"
def lw_P (b : Addr) (xs : List Int32) (args : Array Value) (s : State) : Prop := args = #[.ref b] ∧ s.IntsAt b xs ∧ xs.length ≤ 256 ∧ (Jvm.Cond.and given_1 narrow_1).before args s = true
def lw_Q (_ : Array Value) (s : State) (o : Outcome) (t : State) : Prop := o = .returned (some (.int 1)) ∧ Framed s o t [] 600000 7302250
def lw_Z (below : List Frame) (a : Array Value) (s : State) : State → Prop := fun t => ∃ o, t.status = .running ∧ Ended t below o ∧ lw_Q a s o t
/-- the law's own end, with 1 on the stack, nothing written that was there before, its room as the claim has it -/
theorem lw_ret {p : Program} {l : Launch} {e : Env} {s : State} {m : MethodId} {below : List Frame} {meth : Method} {c : Code} {b : Nat} (hx : p.tables.exec = Jvm.exec) (hb : c.code = code) (hr : meth.sig.returnType = ret) (hlocks : meth.locks = false) {pc : Nat} {H : Heap} {ls : Array Slot} (hdg : decode code pc = .ok (.ireturn, 1)) : W p l e room_1 s m #[Value.ref b] below meth c H [] 600000 7302250 (lw_Z below #[Value.ref b] s) (F0 m pc ls [.int 1]) := by
  intro T hT X
  obtain ⟨fs, hret, hrun, hended, hW, hframe⟩ := X.leave (v := some (.int 1)) (hlocks := hlocks) (fun h => by rw [hr] at h; cases h)
  have hmeth' : T.vm.method? m = some meth := X.method'
  refine ⟨T.setFrames fs, ?_, .returned (some (.int 1)), hrun, hended, rfl, ⟨_, rfl⟩, hW, hframe⟩
  jvm_step X.here [X.here.top, hx, hb, hdg, hmeth', hr, ret, narrow_b1]
  (try refine ⟨rfl, ?_⟩); (try refine ⟨rfl, ?_⟩)
  first | (intro acts; rw [hret _ acts rfl rfl rfl]) | rw [hret _ _ rfl rfl rfl]
  exact Steps.refl _
/-- what holds at the law's entry: the machine, the code, the tables' words (any of lw_tbl by 'hts w (by decide +kernel)'), the script of L ints xs at the cell b, what the Statement gives of the start (any of its parts by flat_of_before) -/
def lw_At (p : Program) (s : State) (m : MethodId) (meth : Method) (c : Code) (b L : Nat) (xs : Nat → Int32) : Prop :=
  p.tables.exec = Jvm.exec ∧ c.code = code ∧ meth.sig.returnType = ret ∧ c.maxLocals = 4 ∧ s.vm.findClass R_law = some m.cls ∧ (∀ w ∈ lw_tbl, w.before #[Value.ref b] s = true) ∧ va_X b L xs s s.heap ∧ b < s.heap.size ∧ meth.locks = false ∧ (Jvm.Cond.and given_1 narrow_1).before #[Value.ref b] s = true
/-! the start: fresh cells -/
def ix_go {α β : Type} (f : Nat → α → β) : Nat → List α → List β
  | _, [] => []
  | k, a :: t => f k a :: ix_go f (k + 1) t
theorem ix_eq {α β : Type} : ∀ (l : List α) (f : Nat → α → β) (k : Nat), l.mapIdx (fun i a => f (k + i) a) = ix_go f k l
  | [], f, k => rfl
  | a :: t, f, k => by
    rw [List.mapIdx_cons, ix_go, ← ix_eq t f (k + 1)]
    congr 1
    congr 1
    funext i x
    rw [Nat.add_right_comm, Nat.add_assoc]
theorem ix_eq0 {α β : Type} (l : List α) (f : Nat → α → β) : l.mapIdx f = ix_go f 0 l := by
  rw [← ix_eq l f 0]
  congr 1
  funext i x
  rw [Nat.zero_add]
def lw_wc (cI cZ : ClassId) (ad : Nat → Nat) (f : Nat → Int32) : am_SD → va_E
  | .inl (n, z) => .inl (bif z then cZ else cI, n, .inl f)
  | .inr (ci, fs) => .inr (ci, ix_go (am_fv ad f) 0 fs)
theorem lw_wl (cI cZ : ClassId) (ad : Nat → Nat) (L : List am_SD) (σ : am_M) : am_wl cI cZ ad L σ = ix_go (fun p d => (ad p, lw_wc cI cZ ad (σ p) d)) 0 L := by
  rw [← ix_eq0]
  unfold am_wl
  congr 1
  funext p d
  rcases d with ⟨n, z⟩ | ⟨ci, fs⟩
  · rfl
  · show (ad p, (Sum.inr (ci, fs.mapIdx (am_fv ad (σ p))) : va_E)) = (ad p, Sum.inr (ci, ix_go (am_fv ad (σ p)) 0 fs))
    rw [ix_eq0]
def s0C : am_M := fun p => match p with
  | 1 => fun k => if k = 3 then -1 else 0
  | 28 => fun k => if k = 0 then 20 else 0
  | 30 => fun k => if k = 0 then 2 else 0
  | 33 => fun k => if k = 0 then 8 else 0
  | 36 => fun k => if k = 0 then 8 else 0
  | 39 => fun k => if k = 0 then 15 else 0
  | _ => fun _ => 0
def s0M : am_M := fun p => match p with
  | 0 => fun k => if k = 7 then 1 else if k = 13 then -1 else 0
  | 4 => upd (fun _ => 0) 0 5
  | _ => fun _ => 0
def F0A : sw_F := (fun _ => 0, fun _ => 0, fun _ => 0, 0, 0, 0)
def S0 : sw_A := ((0, fun _ => 0, -1), (0, 0, 0, 0, fun _ => 0, fun _ => 0, fun _ => 0, 1, fun _ => 5), F0A, 0, (0, fun _ => F0A), fun _ => none, (0, fun _ => 0, fun _ => 0), (0, fun _ => 0, fun _ => 0), (0, fun _ => 0, fun _ => 0))
theorem okA_S0 : okA S0 := ⟨by decide, fun j h => absurd h (Nat.not_lt_zero j), ⟨by decide, by decide, fun _ => rfl, fun h => absurd h (by decide), by decide, by decide, fun b h => absurd h (Nat.not_lt_zero b), by decide, by decide, fun t _ => (show 5 ≤ 9 by decide)⟩, ⟨fun b h => absurd h (Nat.not_lt_zero b), by decide⟩, by decide, by decide, fun j h => absurd h (Nat.not_lt_zero j), fun i F' sd' h => (by cases h), ⟨by decide, fun j h => absurd h (Nat.not_lt_zero j)⟩, ⟨by decide, fun j h => absurd h (Nat.not_lt_zero j)⟩, ⟨by decide, fun j h => absurd h (Nat.not_lt_zero j)⟩⟩
theorem n0 {P : Nat → Prop} : ∀ j, j < 0 → P j := fun j h => absurd h (Nat.not_lt_zero j)
theorem RC_S0 : RC S0 s0C := ⟨⟨rfl, n0, rfl⟩, ⟨⟨rfl, rfl, n0, n0, n0⟩, rfl, rfl, Or.inr ⟨rfl, rfl, rfl⟩⟩, ⟨n0, n0, n0, rfl, rfl, rfl⟩, rfl, ⟨by decide, rfl, rfl, 0, by decide, rfl, n0⟩, ⟨rfl, 0, by decide, rfl, fun i _ => Nat.zero_testBit i⟩, ⟨rfl, rfl, by decide, n0⟩, ⟨rfl, rfl, by decide, n0⟩, ⟨rfl, rfl, by decide, n0⟩⟩
theorem RM_S0 : RM S0 s0M := ⟨⟨rfl, n0, rfl⟩, ⟨⟨rfl, rfl, n0, n0, n0⟩, rfl, rfl, rfl, fun t ht => by
  have : t = 0 := by omega
  subst this
  rfl⟩, ⟨n0, n0, n0, rfl, rfl, rfl⟩, rfl, ⟨by decide, rfl, n0⟩, fun i _ => rfl, ⟨rfl, by decide, n0⟩, ⟨rfl, by decide, n0⟩, ⟨rfl, by decide, n0⟩⟩
theorem lw_spP {D : va_G} {cl : List vw_C} {w1 w2 : va_W} {H : Heap} (h : va_P D cl (w1 ++ w2) H) : va_P D cl w1 H ∧ va_P D cl w2 H :=
  ⟨fun k q hq => h k q (by rw [List.getElem?_append_left (List.getElem?_eq_some_iff.mp hq).1]; exact hq), fun k q hq => h (w1.length + k) q (by rw [List.getElem?_append_right (by omega), Nat.add_sub_cancel_left]; exact hq)⟩
theorem lw_spD {A : Nat → Prop} {w1 w2 : va_W} (h : va_D A (w1 ++ w2)) : va_D A w1 ∧ va_D A w2 ∧ ∀ (i j : Nat) (p q : Nat × va_E), w1[i]? = some p → w2[j]? = some q → p.1 ≠ q.1 := by
  have l1 : ∀ (k : Nat) (q : Nat × va_E), w1[k]? = some q → (w1 ++ w2)[k]? = some q := fun k q hq => by rw [List.getElem?_append_left (List.getElem?_eq_some_iff.mp hq).1]; exact hq
  have l2 : ∀ (k : Nat) (q : Nat × va_E), w2[k]? = some q → (w1 ++ w2)[w1.length + k]? = some q := fun k q hq => by rw [List.getElem?_append_right (by omega), Nat.add_sub_cancel_left]; exact hq
  refine ⟨⟨fun i j p q hp hq e => h.1 i j p q (l1 _ _ hp) (l1 _ _ hq) e, fun k q hq => h.2 k q (l1 _ _ hq)⟩, ⟨fun i j p q hp hq e => ?_, fun k q hq => h.2 _ q (l2 _ _ hq)⟩, fun i j p q hp hq e => ?_⟩
  · have := h.1 _ _ p q (l2 _ _ hp) (l2 _ _ hq) e
    omega
  · have h1 := h.1 _ _ p q (l1 _ _ hp) (l2 _ _ hq) e
    have h2 := (List.getElem?_eq_some_iff.mp hp).1
    omega
theorem lw_keptB {cI cZ : ClassId} {D : va_G} {ad : Nat → Nat} {L : List am_SD} {σ : am_M} {w2 : va_W} {H H' : Heap} (hP : va_P D vwCl (am_wl cI cZ ad L σ) H) (hne : ∀ (i j : Nat) (p q : Nat × va_E), (am_wl cI cZ ad L σ)[i]? = some p → w2[j]? = some q → p.1 ≠ q.1) (hk : ∀ q : Nat, q < H.size → ¬ va_A w2 H.size q → H'[q]? = H[q]?) : va_P D vwCl (am_wl cI cZ ad L σ) H' := by
  refine hP.kept (fun k q hq => hk _ (hP k q hq).lt (fun h => ?_))
  rcases h with ⟨i, e, h⟩ | h
  · exact hne k i q _ hq h rfl
  · exact absurd (hP k _ hq).lt (Nat.not_lt.mpr h)
theorem lw_neB {cI cZ : ClassId} {D : va_G} {ad ad' : Nat → Nat} {L L' : List am_SD} {σ τ : am_M} {w2 : va_W} {H : Heap} (hP : va_P D vwCl (am_wl cI cZ ad L σ) H) (hne : ∀ (i j : Nat) (p q : Nat × va_E), (am_wl cI cZ ad L σ)[i]? = some p → w2[j]? = some q → p.1 ≠ q.1) (hD : va_D (va_A w2 H.size) (am_wl cI cZ ad' L' τ)) : ∀ i j, i < L.length → j < L'.length → ad i ≠ ad' j := by
  intro i j hi hj e
  have h1 : (am_wl cI cZ ad L σ)[i]? = some (ad i, am_wc cI cZ ad (σ i) L[i]) := by rw [am_wl_get, List.getElem?_eq_getElem hi]; rfl
  have h2 : (am_wl cI cZ ad' L' τ)[j]? = some (ad' j, am_wc cI cZ ad' (τ j) L'[j]) := by rw [am_wl_get, List.getElem?_eq_getElem hj]; rfl
  have h3 := (hP i _ h1).lt
  rcases hD.2 j _ h2 with ⟨k, e2, h⟩ | h
  · exact hne i k _ _ h1 h e
  · have h3 : ad i < H.size := h3
    have h : H.size ≤ ad' j := h
    omega
set_option maxHeartbeats 4000000 in
set_option maxRecDepth 100000 in
/-- THE LAW'S LOOP: at its head the class and the reference hold the same state -/
theorem law_loop {p : Program} {l : Launch} {e : Env} {s : State} {m : MethodId} {below : List Frame} {meth : Method} {c : Code} {cI cZ : ClassId} {D : va_G} {b L : Nat} {xs : Nat → Int32} (hL : L ≤ 256) (C0 : lw_At p s m meth c b L xs) (F : lw_Fix p s m c b cI cZ D) {x0 m0 : Nat} :
    ∀ (n i : Nat) (x3 : Int32) (S : sw_A), i ≤ L → L + 1 ≤ i + n → x3 = nI i → okA S → ∀ (H : Heap) (locs : List Loc) (ls : Array Slot), lw_W cI cZ D (lA s) x0 m0 S S H → va_S (lA s) s.heap H locs → lv_has ls 4 [(0, .ref b), (1, .ref x0), (2, .ref m0), (3, .int x3)] → W p l e room_1 s m #[Value.ref b] below meth c H locs 71 2246 (lw_Z below #[Value.ref b] s) (F0 m 18 ls []) := by
  obtain ⟨hx, hb, hr, hml, hown, hts, hX, hbl, hlocks, hgv⟩ := C0
  have hbA : ¬ lA s b := Nat.not_le.mpr hbl
  intro n
  induction n with
  | zero =>
    intro i x3 S h1 h2
    exact absurd h2 (by omega)
  | succ n ih =>
    intro i x3 S hi hin ex3 hA H locs ls hW hS hl
    refine lv_iload_n hx hb dL_law_18 rfl (lv_at hl 3 rfl) ?_
    refine lv_aload_n hx hb dL_law_19 rfl (lv_at hl 0 rfl) ?_
    refine va_slen hx hb hX hbl hbA hS dL_law_20 ?_
    refine lv_iconst (v := 4) hx hb dL_law_21 (by decide) ?_
    refine lv_isub hx hb dL_law_22 ?_
    refine lv_icmp_gt (tgt := 1017) hx hb dL_law_23 (by decide) (fun _ => ?_) (fun hc => ?_)
    · refine lv_iconst (v := 1) hx hb dL_law_1017 (by decide) ?_
      refine va_forget (fun q hq => hS.2.2 q hq) ?_
      refine W.widen (k := 600000) (n := 7302250) (by decide) (by decide) ?_
      exact lw_ret hx hb hr hlocks dL_law_1018
    · have h4 : i + 4 ≤ L := by
        rw [ex3] at hc
        have h5 : ¬ (nI L - nI 4 < nI i) := hc
        rw [Int32.lt_iff_toInt_lt, pk_sub_toInt (by omega) (by omega), nI_toInt (by omega)] at h5
        omega
      have v0 : vp_in x3 L := by rw [ex3]; exact vp_in_nI (by omega) (by omega)
      have v1 : vp_in (x3 + 1) L := by rw [ex3]; exact (nI_add i 1) ▸ vp_in_nI (n := i + 1) (by omega) (by omega)
      have v2 : vp_in (x3 + 2) L := by rw [ex3]; exact (nI_add i 2) ▸ vp_in_nI (n := i + 2) (by omega) (by omega)
      have v3 : vp_in (x3 + 3) L := by rw [ex3]; exact (nI_add i 3) ▸ vp_in_nI (n := i + 3) (by omega) (by omega)
      have Bk : lw_B p s m c b cI cZ D L xs x3 := ⟨F, hX, hbl, v1, v2, v3⟩
      have K : lw_K p l e s m below meth c (lw_Z below #[Value.ref b] s) b cI cZ D x0 m0 ls := by
        intro S' H' locs' hA' hW' hS'
        refine lv_iinc (v := x3 + 4) (lv' := [(3, .int (x3 + 4)), (0, .ref b), (1, .ref x0), (2, .ref m0)]) hx hb dL_law_1011 hl (k := 3) rfl rfl (by decide) rfl (fun ls hl => ?_)
        refine lv_goto (tgt := 18) hx hb dL_law_1014 (by decide) ?_
        exact ih (i + 4) (x3 + 4) S' h4 (by omega) (by rw [ex3]; exact nI_add i 4) hA' H' locs' ls hW' hS' (lv_sub hl [1, 2, 3, 0] rfl)
      refine lv_aload_n hx hb dL_law_26 rfl (lv_at hl 0 rfl) ?_
      refine lv_iload_n hx hb dL_law_27 rfl (lv_at hl 3 rfl) ?_
      refine va_sld hx hb hX hbl hbA hS v0 dL_law_28 ?_
      refine lv_bipush (v := 31) hx hb dL_law_29 (by decide) ?_
      refine lv_iand hx hb dL_law_31 ?_
      obtain ⟨j, hj, ej⟩ := pk_andE (xs x3.toNatClampNeg) (m := 31) 5 (by decide)
      rw [ej]
      obtain rfl | rfl | rfl | rfl | rfl | rfl | rfl | rfl | rfl | rfl | rfl | rfl | rfl | rfl | rfl | rfl | rfl | rfl | rfl | rfl | rfl | rfl | rfl | rfl | rfl | rfl | rfl | rfl | rfl | rfl | rfl | rfl : j = 0 ∨ j = 1 ∨ j = 2 ∨ j = 3 ∨ j = 4 ∨ j = 5 ∨ j = 6 ∨ j = 7 ∨ j = 8 ∨ j = 9 ∨ j = 10 ∨ j = 11 ∨ j = 12 ∨ j = 13 ∨ j = 14 ∨ j = 15 ∨ j = 16 ∨ j = 17 ∨ j = 18 ∨ j = 19 ∨ j = 20 ∨ j = 21 ∨ j = 22 ∨ j = 23 ∨ j = 24 ∨ j = 25 ∨ j = 26 ∨ j = 27 ∨ j = 28 ∨ j = 29 ∨ j = 30 ∨ j = 31 := by omega
      · refine lv_tableIn (off := 140) (tgt := 172) hx hb dL_law_32 (by decide) (by decide) (by decide) (by decide) ?_
        exact lw_c0 Bk hl hA hW hS K
      · refine lv_tableIn (off := 163) (tgt := 195) hx hb dL_law_32 (by decide) (by decide) (by decide) (by decide) ?_
        exact lw_c1 Bk hl hA hW hS K
      · refine lv_tableIn (off := 176) (tgt := 208) hx hb dL_law_32 (by decide) (by decide) (by decide) (by decide) ?_
        exact lw_c2 Bk hl hA hW hS K
      · refine lv_tableIn (off := 189) (tgt := 221) hx hb dL_law_32 (by decide) (by decide) (by decide) (by decide) ?_
        exact lw_c3 Bk hl hA hW hS K
      · refine lv_tableIn (off := 212) (tgt := 244) hx hb dL_law_32 (by decide) (by decide) (by decide) (by decide) ?_
        exact lw_c4 Bk hl hA hW hS K
      · refine lv_tableIn (off := 245) (tgt := 277) hx hb dL_law_32 (by decide) (by decide) (by decide) (by decide) ?_
        exact lw_c5 Bk hl hA hW hS K
      · refine lv_tableIn (off := 268) (tgt := 300) hx hb dL_law_32 (by decide) (by decide) (by decide) (by decide) ?_
        exact lw_c6 Bk hl hA hW hS K
      · refine lv_tableIn (off := 317) (tgt := 349) hx hb dL_law_32 (by decide) (by decide) (by decide) (by decide) ?_
        exact lw_c7 Bk hl hA hW hS K
      · refine lv_tableIn (off := 360) (tgt := 392) hx hb dL_law_32 (by decide) (by decide) (by decide) (by decide) ?_
        exact lw_c8 Bk hl hA hW hS K
      · refine lv_tableIn (off := 393) (tgt := 425) hx hb dL_law_32 (by decide) (by decide) (by decide) (by decide) ?_
        exact lw_c9 Bk hl hA hW hS K
      · refine lv_tableIn (off := 426) (tgt := 458) hx hb dL_law_32 (by decide) (by decide) (by decide) (by decide) ?_
        exact lw_c10 Bk hl hA hW hS K
      · refine lv_tableIn (off := 449) (tgt := 481) hx hb dL_law_32 (by decide) (by decide) (by decide) (by decide) ?_
        exact lw_c11 Bk hl hA hW hS K
      · refine lv_tableIn (off := 462) (tgt := 494) hx hb dL_law_32 (by decide) (by decide) (by decide) (by decide) ?_
        exact lw_c12 Bk hl hA hW hS K
      · refine lv_tableIn (off := 505) (tgt := 537) hx hb dL_law_32 (by decide) (by decide) (by decide) (by decide) ?_
        exact lw_c13 Bk hl hA hW hS K
      · refine lv_tableIn (off := 548) (tgt := 580) hx hb dL_law_32 (by decide) (by decide) (by decide) (by decide) ?_
        exact lw_c14 Bk hl hA hW hS K
      · refine lv_tableIn (off := 571) (tgt := 603) hx hb dL_law_32 (by decide) (by decide) (by decide) (by decide) ?_
        exact lw_c15 Bk hl hA hW hS K
      · refine lv_tableIn (off := 614) (tgt := 646) hx hb dL_law_32 (by decide) (by decide) (by decide) (by decide) ?_
        exact lw_c16 Bk hl hA hW hS K
      · refine lv_tableIn (off := 647) (tgt := 679) hx hb dL_law_32 (by decide) (by decide) (by decide) (by decide) ?_
        exact lw_c17 Bk hl hA hW hS K
      · refine lv_tableIn (off := 670) (tgt := 702) hx hb dL_law_32 (by decide) (by decide) (by decide) (by decide) ?_
        exact lw_c18 Bk hl hA hW hS K
      · refine lv_tableIn (off := 683) (tgt := 715) hx hb dL_law_32 (by decide) (by decide) (by decide) (by decide) ?_
        exact lw_c19 Bk hl hA hW hS K
      · refine lv_tableIn (off := 716) (tgt := 748) hx hb dL_law_32 (by decide) (by decide) (by decide) (by decide) ?_
        exact lw_c20 Bk hl hA hW hS K
      · refine lv_tableIn (off := 749) (tgt := 781) hx hb dL_law_32 (by decide) (by decide) (by decide) (by decide) ?_
        exact lw_c21 Bk hl hA hW hS K
      · refine lv_tableIn (off := 772) (tgt := 804) hx hb dL_law_32 (by decide) (by decide) (by decide) (by decide) ?_
        exact lw_c22 Bk hl hA hW hS K
      · refine lv_tableIn (off := 805) (tgt := 837) hx hb dL_law_32 (by decide) (by decide) (by decide) (by decide) ?_
        exact lw_c23 Bk hl hA hW hS K
      · refine lv_tableIn (off := 838) (tgt := 870) hx hb dL_law_32 (by decide) (by decide) (by decide) (by decide) ?_
        exact lw_c24 Bk hl hA hW hS K
      · refine lv_tableIn (off := 851) (tgt := 883) hx hb dL_law_32 (by decide) (by decide) (by decide) (by decide) ?_
        exact lw_c25 Bk hl hA hW hS K
      · refine lv_tableIn (off := 884) (tgt := 916) hx hb dL_law_32 (by decide) (by decide) (by decide) (by decide) ?_
        exact lw_c26 Bk hl hA hW hS K
      · refine lv_tableIn (off := 897) (tgt := 929) hx hb dL_law_32 (by decide) (by decide) (by decide) (by decide) ?_
        exact lw_c27 Bk hl hA hW hS K
      · refine lv_tableIn (off := 910) (tgt := 942) hx hb dL_law_32 (by decide) (by decide) (by decide) (by decide) ?_
        exact lw_c28 Bk hl hA hW hS K
      · refine lv_tableIn (off := 933) (tgt := 965) hx hb dL_law_32 (by decide) (by decide) (by decide) (by decide) ?_
        exact lw_c29 Bk hl hA hW hS K
      · refine lv_tableIn (off := 956) (tgt := 988) hx hb dL_law_32 (by decide) (by decide) (by decide) (by decide) ?_
        exact lw_c30 Bk hl hA hW hS K
      · refine lv_tableOut (tgt := 1011) hx hb dL_law_32 (by decide) (by decide) ?_
        exact K S H locs hA hW hS
set_option maxHeartbeats 4000000 in
set_option maxRecDepth 100000 in
/-- THE LAW, from its entry -/
theorem whole_start {p : Program} {e : Env} {s : State} {m : MethodId} {below : List Frame} {meth : Method} {c : Code} (l : Launch) (hflags : l.flags = flags0) {b L : Nat} {xs : Nat → Int32} (hL : L ≤ 256) (C0 : lw_At p s m meth c b L xs) : W p l e room_1 s m #[Value.ref b] below meth c s.heap [] 0 0 (lw_Z below #[Value.ref b] s) (entryFrame m ([Value.ref b] : List Value).toArray 4) := by
  obtain ⟨hx, hb, hr, hml, hown, hts, hX, hbl, hlocks, hgv⟩ := id C0
  have hA : ∀ q : Nat, s.heap.size ≤ q → lA s q := fun _ h => h
  have hN : ∀ w ∈ am_nest, va_Nw w s := fun w hw => va_Nw.of (by have h2 := (List.mem_filter.mp hw).2; cases w <;> first | rfl | (exfalso; revert h2; simp [am_isN])) (hts w (List.mem_filter.mp hw).1)
  obtain ⟨c0, iS0, hKn0⟩ := u_known (C := RX0) (T := TX0) (N := 4) (n := 4) hts (fun w hw => lw_in ((am_cls 0 RX0 TX0 4 rfl).1 w hw)) (hts _ (lw_in (am_in 282 (by decide +kernel) rfl)))
  obtain ⟨c1, iS1, hKn1⟩ := u_known (C := RX1) (T := TX1) (N := 7) (n := 7) hts (fun w hw => lw_in ((am_cls 1 RX1 TX1 7 rfl).1 w hw)) (hts _ (lw_in (am_in 207 (by decide +kernel) rfl)))
  obtain ⟨c2, iS2, hKn2⟩ := u_known (C := RX2) (T := TX2) (N := 3) (n := 3) hts (fun w hw => lw_in ((am_cls 2 RX2 TX2 3 rfl).1 w hw)) (hts _ (lw_in (am_in 247 (by decide +kernel) rfl)))
  obtain ⟨c3, iS3, hKn3⟩ := u_known (C := RX3) (T := TX3) (N := 11) (n := 11) hts (fun w hw => lw_in ((am_cls 3 RX3 TX3 11 rfl).1 w hw)) (hts _ (lw_in (am_in 142 (by decide +kernel) rfl)))
  obtain ⟨c4, iS4, hKn4⟩ := u_known (C := RX4) (T := TX4) (N := 2) (n := 2) hts (fun w hw => lw_in ((am_cls 4 RX4 TX4 2 rfl).1 w hw)) (hts _ (lw_in (am_in 253 (by decide +kernel) rfl)))
  obtain ⟨c5, iS5, hKn5⟩ := u_known (C := RX5) (T := TX5) (N := 5) (n := 5) hts (fun w hw => lw_in ((am_cls 5 RX5 TX5 5 rfl).1 w hw)) (hts _ (lw_in (am_in 116 (by decide +kernel) rfl)))
  obtain ⟨c6, iS6, hKn6⟩ := u_known (C := RX6) (T := TX6) (N := 15) (n := 15) hts (fun w hw => lw_in ((am_cls 6 RX6 TX6 15 rfl).1 w hw)) (hts _ (lw_in (am_in 108 (by decide +kernel) rfl)))
  obtain ⟨c7, iS7, hKn7⟩ := u_known (C := RX7) (T := TX7) (N := 46) (n := 46) hts (fun w hw => lw_in ((am_cls 7 RX7 TX7 46 rfl).1 w hw)) (hts _ (lw_in (am_in 739 (by decide +kernel) rfl)))
  obtain ⟨cI, kI, pI, hI1, hI2, hI3⟩ := Cond.arrayClass_spec (type := .int) (hts _ (lw_in (am_in 140 (by decide +kernel) rfl)))
  obtain ⟨cZ, kZ, pZ, hZ1, hZ2, hZ3⟩ := Cond.arrayClass_spec (type := .boolean) (hts _ (lw_in (am_in 883 (by decide +kernel) rfl)))
  obtain ⟨dC, dI, hKc⟩ : ∃ (dC : Nat → ClassId) (dI : Nat → Nat → Nat), ∀ (k : Nat) (q : vw_C), vwCl[k]? = some q → u_Kn s q.1 q.2.1 q.2.2 (dC k) (dI k) := by
    refine ⟨fun k => if k = 0 then c0 else if k = 1 then c1 else if k = 2 then c2 else if k = 3 then c3 else if k = 4 then c4 else if k = 5 then c5 else if k = 6 then c6 else c7, fun k => if k = 0 then iS0 else if k = 1 then iS1 else if k = 2 then iS2 else if k = 3 then iS3 else if k = 4 then iS4 else if k = 5 then iS5 else if k = 6 then iS6 else iS7, ?_⟩
    intro k q hq
    match k, hq with
    | 0, hq => cases hq; exact hKn0
    | 1, hq => cases hq; exact hKn1
    | 2, hq => cases hq; exact hKn2
    | 3, hq => cases hq; exact hKn3
    | 4, hq => cases hq; exact hKn4
    | 5, hq => cases hq; exact hKn5
    | 6, hq => cases hq; exact hKn6
    | 7, hq => cases hq; exact hKn7
    | k + 8, hq => simp [vwCl] at hq
  have hK : va_K (dC, dI) vwCl [(cI, .int), (cZ, .boolean)] s := ⟨hKc, fun k q hq => by
    match k, hq with
    | 0, hq => cases hq; exact ⟨fun n z => ⟨fun k h => (by cases h), kI, hI2, pI, hI3⟩, hI1⟩
    | 1, hq => cases hq; exact ⟨fun n z => ⟨fun k h => (by cases h), kZ, hZ2, pZ, hZ3⟩, hZ1⟩
    | k + 2, hq => simp at hq⟩
  have F : lw_Fix p s m c b cI cZ (dC, dI) := ⟨hx, hb, hml, hown, hts, hN, hK⟩
  have hS : va_S (lA s) s.heap s.heap [] := va_S.rf
  have hP : va_P (dC, dI) vwCl [] s.heap := fun k q h => by simp at h
  have hD : va_D (lA s) [] := ⟨fun i j p q h => by simp at h, fun k q h => by simp at h⟩
  have hl := lv_entry ([.ref b]) (n := 4) (Nat.le_of_ble_eq_true rfl)
  rw [lg_entry_eq]
  generalize (lg_sl ([.ref b]) ++ List.replicate (4 - (lg_sl ([.ref b])).length) Slot.unset).toArray = ls at hl ⊢
  have hl : lv_has ls 4 [(0, .ref b)] := hl
  refine va_new (ci := 6) (fs := [.null, .null, .null, .null, .null, .null, .null, .null, .int 0, .null, .null, .null, .null, .null, .int 0]) (C := RX6) (T := TX6) (N := 15) hx hb hts (fun w hw => lw_in ((am_cls 6 RX6 TX6 15 rfl).1 w hw)) tyX6 tyX6_ok hown (hts _ (lw_in (am_in 107 (by decide +kernel) rfl))) (hts _ (lw_in (am_in 108 (by decide +kernel) rfl))) (hts _ (lw_in (am_in 95 (by decide +kernel) rfl))) hK hP hD hS hA rfl (fun j hj => by rcases (show j = 0 ∨ j = 1 ∨ j = 2 ∨ j = 3 ∨ j = 4 ∨ j = 5 ∨ j = 6 ∨ j = 7 ∨ j = 8 ∨ j = 9 ∨ j = 10 ∨ j = 11 ∨ j = 12 ∨ j = 13 ∨ j = 14 by omega) with rfl | rfl | rfl | rfl | rfl | rfl | rfl | rfl | rfl | rfl | rfl | rfl | rfl | rfl | rfl <;> rfl) (Nat.le_of_ble_eq_true rfl) (Nat.le_of_ble_eq_true rfl) dL_law_0 (fun x0 H hP hD hS => ?_)
  refine W.widen (k := 1) (n := 15) (by omega) (by omega) ?_
  refine lv_dup hx hb dL_law_3 rfl ?_
  have hP2 : va_P (dC, dI) vwCl [(x0, .inr (6, [.null, .null, .null, .null, .null, .null, .null, .null, .int 0, .null, .null, .null, .null, .null, .int 0]))] H := hP
  have hD2 : va_D (lA s) [(x0, .inr (6, [.null, .null, .null, .null, .null, .null, .null, .null, .int 0, .null, .null, .null, .null, .null, .int 0]))] := hD
  have hFc : ∀ q, va_A [(x0, .inr (6, [.null, .null, .null, .null, .null, .null, .null, .null, .int 0, .null, .null, .null, .null, .null, .int 0]))] H.size q → lA s q := va_free hD2 hS hA [0] rfl
  refine va_callv (va_runI (Ts := lw_tbl) (nL := 4) (As := []) (rest := [.ref x0]) ⟨hx, hb, hml, hown, hts⟩ (in_X6 l cI cZ (dC, dI) x0 H.size) (cwI 0 hts (lw_good (am_in 111 rfl rfl)) rfl rfl rfl (hts _ (lw_in (am_in 95 (by decide +kernel) rfl))) (hts _ (lw_in (am_in 109 (by decide +kernel) rfl))) (hts _ (lw_in (am_in 110 (by decide +kernel) rfl))) rfl (by decide +kernel) ⟨(Nat.le_of_ble_eq_true rfl), (Nat.le_of_ble_eq_true rfl)⟩) ⟨in_blind, fun U hU hW => ⟨rfl, by rw [hU], by rw [hU]; exact hP2, va_K.moved hW.alike hK, hD2.weaken (fun _ _ _ _ => trivial), am_warm hW hN⟩⟩ rfl rfl hl.1 rfl (lv_room (Nat.le_of_ble_eq_true rfl)) dL_law_4 ⟨(Nat.le_of_ble_eq_true rfl), (Nat.le_of_ble_eq_true rfl)⟩) hS (fun q _ h => hFc q h) hFc (fun u t H1 locs ht hvm hw hB hz1 hk1 hS => ?_)
  obtain ⟨q0, q1, q2, q3, q4, q5, q6, q7, q8, q9, q10, q11, q12, q13, q14, q15, q16, q17, q18, q19, q20, q21, q22, q23, q24, q25, q26, q27, q28, q29, q30, q31, q32, q33, q34, q35, q36, q37, q38, q39, q40, q41, q42, hP1, hD1⟩ := hB
  rw [ht] at hP1
  clear hP hD hP2 hD2
  obtain ⟨ad, had⟩ : ∃ ad : Nat → Nat, ad = fun i => [x0, q0, q1, q2, q3, q4, q5, q6, q7, q8, q9, q10, q11, q12, q13, q14, q15, q16, q17, q18, q19, q20, q21, q22, q23, q24, q25, q26, q27, q28, q29, q30, q31, q32, q33, q34, q35, q36, q37, q38, q39, q40, q41, q42].getD i 0 := ⟨_, rfl⟩
  have hP : va_P (dC, dI) vwCl (am_wl cI cZ ad LC s0C) H1 := by rw [lw_wl, had]; exact hP1
  have hD : va_D (lA s) (am_wl cI cZ ad LC s0C) := by rw [lw_wl, had]; exact hD1.weaken (fun k q _ h => hFc q.1 h)
  have ha0 : ad 0 = x0 := by rw [had]; rfl
  clear hP1 hD1 had hFc hk1
  generalize H1 = H at hP hS ⊢
  refine W.widen (k := 44) (n := 1142) (by omega) (by omega) ?_
  refine lv_astore_n (lv' := [(1, .ref x0), (0, .ref b)]) hx hb dL_law_7 rfl hl (by decide) rfl (fun ls hl => ?_)
  refine va_new (ci := 7) (fs := [.int 0, .int 0, .int 0, .int 0, .null, .null, .null, .int 0, .null, .null, .int 0, .null, .int 0, .int 0, .int 0, .int 0, .int 0, .null, .int 0, .null, .null, .null, .null, .null, .int 0, .null, .null, .int 0, .null, .null, .null, .int 0, .null, .int 0, .null, .null, .int 0, .null, .null, .int 0, .int 0, .int 0, .null, .null, .null, .null]) (C := RX7) (T := TX7) (N := 46) hx hb hts (fun w hw => lw_in ((am_cls 7 RX7 TX7 46 rfl).1 w hw)) tyX7 tyX7_ok hown (hts _ (lw_in (am_in 738 (by decide +kernel) rfl))) (hts _ (lw_in (am_in 739 (by decide +kernel) rfl))) (hts _ (lw_in (am_in 103 (by decide +kernel) rfl))) hK hP hD hS hA rfl (fun j hj => by rcases (show j = 0 ∨ j = 1 ∨ j = 2 ∨ j = 3 ∨ j = 4 ∨ j = 5 ∨ j = 6 ∨ j = 7 ∨ j = 8 ∨ j = 9 ∨ j = 10 ∨ j = 11 ∨ j = 12 ∨ j = 13 ∨ j = 14 ∨ j = 15 ∨ j = 16 ∨ j = 17 ∨ j = 18 ∨ j = 19 ∨ j = 20 ∨ j = 21 ∨ j = 22 ∨ j = 23 ∨ j = 24 ∨ j = 25 ∨ j = 26 ∨ j = 27 ∨ j = 28 ∨ j = 29 ∨ j = 30 ∨ j = 31 ∨ j = 32 ∨ j = 33 ∨ j = 34 ∨ j = 35 ∨ j = 36 ∨ j = 37 ∨ j = 38 ∨ j = 39 ∨ j = 40 ∨ j = 41 ∨ j = 42 ∨ j = 43 ∨ j = 44 ∨ j = 45 by omega) with rfl | rfl | rfl | rfl | rfl | rfl | rfl | rfl | rfl | rfl | rfl | rfl | rfl | rfl | rfl | rfl | rfl | rfl | rfl | rfl | rfl | rfl | rfl | rfl | rfl | rfl | rfl | rfl | rfl | rfl | rfl | rfl | rfl | rfl | rfl | rfl | rfl | rfl | rfl | rfl | rfl | rfl | rfl | rfl | rfl | rfl <;> rfl) (Nat.le_of_ble_eq_true rfl) (Nat.le_of_ble_eq_true rfl) dL_law_8 (fun m0 H hP hD hS => ?_)
  refine W.widen (k := 45) (n := 1188) (by omega) (by omega) ?_
  refine lv_dup hx hb dL_law_11 rfl ?_
  obtain ⟨hPc, hP2⟩ := lw_spP hP
  obtain ⟨hDc, hD2, hne0⟩ := lw_spD hD
  have hFc : ∀ q, va_A [(m0, .inr (7, [.int 0, .int 0, .int 0, .int 0, .null, .null, .null, .int 0, .null, .null, .int 0, .null, .int 0, .int 0, .int 0, .int 0, .int 0, .null, .int 0, .null, .null, .null, .null, .null, .int 0, .null, .null, .int 0, .null, .null, .null, .int 0, .null, .int 0, .null, .null, .int 0, .null, .null, .int 0, .int 0, .int 0, .null, .null, .null, .null]))] H.size q → lA s q := va_free hD2 hS hA [0] rfl
  refine va_callv (va_runI (Ts := lw_tbl) (nL := 4) (As := []) (rest := [.ref m0]) ⟨hx, hb, hml, hown, hts⟩ (in_X7 l cI cZ (dC, dI) m0 H.size) (cwI 0 hts (lw_good (am_in 742 rfl rfl)) rfl rfl rfl (hts _ (lw_in (am_in 103 (by decide +kernel) rfl))) (hts _ (lw_in (am_in 740 (by decide +kernel) rfl))) (hts _ (lw_in (am_in 741 (by decide +kernel) rfl))) rfl (by decide +kernel) ⟨(Nat.le_of_ble_eq_true rfl), (Nat.le_of_ble_eq_true rfl)⟩) ⟨in_blind, fun U hU hW => ⟨rfl, by rw [hU], by rw [hU]; exact hP2, va_K.moved hW.alike hK, hD2.weaken (fun _ _ _ _ => trivial), am_warm hW hN⟩⟩ rfl rfl hl.1 rfl (lv_room (Nat.le_of_ble_eq_true rfl)) dL_law_12 ⟨(Nat.le_of_ble_eq_true rfl), (Nat.le_of_ble_eq_true rfl)⟩) hS (fun q _ h => hFc q h) hFc (fun u t H1 locs ht hvm hw hB hz1 hk1 hS => ?_)
  obtain ⟨q0, q1, q2, q3, q4, q5, q6, q7, q8, q9, q10, q11, q12, q13, q14, q15, q16, q17, q18, q19, q20, q21, q22, q23, q24, q25, hP1, hD1⟩ := hB
  rw [ht] at hP1
  obtain ⟨ad', had'⟩ : ∃ ad : Nat → Nat, ad = fun i => [m0, q0, q1, q2, q3, q4, q5, q6, q7, q8, q9, q10, q11, q12, q13, q14, q15, q16, q17, q18, q19, q20, q21, q22, q23, q24, q25].getD i 0 := ⟨_, rfl⟩
  have hPm : va_P (dC, dI) vwCl (am_wl cI cZ ad' LM s0M) H1 := by rw [lw_wl, had']; exact hP1
  have hDm : va_D (va_A [(m0, .inr (7, [.int 0, .int 0, .int 0, .int 0, .null, .null, .null, .int 0, .null, .null, .int 0, .null, .int 0, .int 0, .int 0, .int 0, .int 0, .null, .int 0, .null, .null, .null, .null, .null, .int 0, .null, .null, .int 0, .null, .null, .null, .int 0, .null, .int 0, .null, .null, .int 0, .null, .null, .int 0, .int 0, .int 0, .null, .null, .null, .null]))] H.size) (am_wl cI cZ ad' LM s0M) := by rw [lw_wl, had']; exact hD1
  have hm0 : ad' 0 = m0 := by rw [had']; rfl
  clear hP1 hD1 had'
  have hPk := lw_keptB hPc hne0 hk1
  have hne := lw_neB (L := LC) (L' := LM) hPc hne0 hDm
  refine W.widen (k := 71) (n := 2246) (by omega) (by omega) ?_
  refine lv_astore_n (lv' := [(2, .ref m0), (1, .ref x0), (0, .ref b)]) hx hb dL_law_15 rfl hl (by decide) rfl (fun ls hl => ?_)
  refine lv_iconst (v := 0) hx hb dL_law_16 (by decide) ?_
  refine lv_istore_n (lv' := [(3, .int 0), (2, .ref m0), (1, .ref x0), (0, .ref b)]) hx hb dL_law_17 rfl hl (by decide) rfl (fun ls hl => ?_)
  exact law_loop hL C0 F (L + 1) 0 0 S0 (Nat.zero_le L) (by omega) nI_0.symm okA_S0 H1 locs ls ⟨ad, s0C, ad', s0M, ha0, hm0, RC_S0, RM_S0, hPk, hPm, hDc, hDm.weaken (fun k q _ h => hFc q.1 h), hne⟩ hS (lv_sub hl [3, 2, 1, 0] rfl)
