/-! CONSTRUCTORS: by the kit's rows (text by mk_init.py) -/
def in_pre (cI cZ : ClassId) (D : va_G) (ws : va_W) (sz : Nat) (U : State) : Prop := U.heap.size = sz ∧ va_P D vwCl ws U.heap ∧ va_K D vwCl [(cI, .int), (cZ, .boolean)] U ∧ va_D (fun _ => True) ws ∧ ∀ w ∈ am_nest, va_Nw w U
theorem in_blind {cI cZ : ClassId} {D : va_G} {ws : va_W} {sz : Nat} {av : List Value} : FrameBlind (va_Pc av (in_pre cI cZ D ws sz)) := by
  intro a U g mk q
  obtain ⟨q0, q1, qP, qK, qD, qN⟩ := q
  exact ⟨q0, q1, qP, va_K.moved (u := U) (U := U.calling g mk a) (Vm.Alike.refl U.vm) qK, qD, fun w hw => va_Nw.same (by have h2 := (List.mem_filter.mp hw).2; cases w <;> first | rfl | (exfalso; revert h2; simp [am_isN])) (show U.vm = (U.calling g mk a).vm from rfl) (qN w hw)⟩
section INI
variable {p : Program} {l : Launch} {e : Env} {R : Room} {s : State} {m : MethodId} {args : Array Value} {below : List Frame} {meth : Method} {c : Code} {H : Heap} {locs : List Loc} {cells slots : Nat} {Q : State → Prop} {pc : Nat} {ls : Array Slot} {rest : List Value} {A : Nat → Prop} {H0 : Heap} {D : va_G} {cI cZ : ClassId} {ws : va_W} {cc : ByteArray}
theorem vb_newi (hx : p.tables.exec = Jvm.exec) (hb : c.code = cc) (harr : (Cond.arrayClass .int).before args s = true) (hK : va_K D vwCl [(cI, .int), (cZ, .boolean)] s) (hP : va_P D vwCl ws H) (hD : va_D A ws) (hS : va_S A H0 H locs) (hA : ∀ q, H0.size ≤ q → A q) {n : Int32} {N' : Nat} (hn : ¬ n < 0) (hN : n.toNatClampNeg = N') (hbytes : N' * componentBytes .int ≤ 536870912) (hcells : cells + 1 ≤ R.cells) (hslots : slots + N' ≤ R.slots) (hdg : decode cc pc = .ok (.newarray .int, 2))
    (kk : ∀ (q : Nat) (H1 : Heap), va_P D vwCl (ws ++ [(q, .inl (cI, N', .inl (fun _ => 0)))]) H1 → va_D A (ws ++ [(q, .inl (cI, N', .inl (fun _ => 0)))]) → va_S A H0 H1 locs → W p l e R s m args below meth c H1 locs (cells + 1) (slots + N') Q (F0 m (pc + 2) ls (.ref q :: rest))) : W p l e R s m args below meth c H locs cells slots Q (F0 m pc ls (.int n :: rest)) := by
  refine va_newa (atype := .int) (ty := .int) (a0 := (N', .inl (fun _ => 0))) hx hb harr rfl hK hP hD hS hA (fun cA => rfl) hn hN hbytes hcells hslots hdg (fun q cA H1 hK1 hP1 hD1 hS1 => ?_)
  have e1 : cA = cI := by
    have h1 := (hK1.2 2 _ rfl).2
    have h2 := (hK.2 0 _ rfl).2
    exact Option.some.inj (h1.symm.trans h2)
  rw [e1] at hP1 hD1
  exact kk q H1 hP1 hD1 hS1
theorem vb_newz (hx : p.tables.exec = Jvm.exec) (hb : c.code = cc) (harr : (Cond.arrayClass .boolean).before args s = true) (hK : va_K D vwCl [(cI, .int), (cZ, .boolean)] s) (hP : va_P D vwCl ws H) (hD : va_D A ws) (hS : va_S A H0 H locs) (hA : ∀ q, H0.size ≤ q → A q) {n : Int32} {N' : Nat} (hn : ¬ n < 0) (hN : n.toNatClampNeg = N') (hbytes : N' * componentBytes .boolean ≤ 536870912) (hcells : cells + 1 ≤ R.cells) (hslots : slots + N' ≤ R.slots) (hdg : decode cc pc = .ok (.newarray .boolean, 2))
    (kk : ∀ (q : Nat) (H1 : Heap), va_P D vwCl (ws ++ [(q, .inl (cZ, N', .inl (fun _ => 0)))]) H1 → va_D A (ws ++ [(q, .inl (cZ, N', .inl (fun _ => 0)))]) → va_S A H0 H1 locs → W p l e R s m args below meth c H1 locs (cells + 1) (slots + N') Q (F0 m (pc + 2) ls (.ref q :: rest))) : W p l e R s m args below meth c H locs cells slots Q (F0 m pc ls (.int n :: rest)) := by
  refine va_newa (atype := .boolean) (ty := .boolean) (a0 := (N', .inl (fun _ => 0))) hx hb harr rfl hK hP hD hS hA (fun cA => rfl) hn hN hbytes hcells hslots hdg (fun q cA H1 hK1 hP1 hD1 hS1 => ?_)
  have e1 : cA = cZ := by
    have h1 := (hK1.2 2 _ rfl).2
    have h2 := (hK.2 1 _ rfl).2
    exact Option.some.inj (h1.symm.trans h2)
  rw [e1] at hP1 hD1
  exact kk q H1 hP1 hD1 hS1
end INI
set_option maxHeartbeats 4000000 in
set_option maxRecDepth 100000 in
theorem in_X5 (l : Launch) (cI cZ : ClassId) (D : va_G) (h0 sz : Nat) : Met l yX5_init (Cond.code yX5_init cX5_init 1 none :: am_ALL) ({ frames := 2, cells := 1, slots := 240, locals := 60 }) (va_Pc [.ref h0] (in_pre cI cZ D [(h0, .inr (5, [.null, .int 0, .int 0, .int 0, .int 0]))] sz)) (va_Qv (fun _ : Unit => True) (fun _ t => ∃ (q0 : Nat), va_P D vwCl [(h0, .inr (5, [.ref q0, .int 0, .int 0, .int (-1), .int 0])), (q0, .inl (cI, 240, .inl (fun _ => 0)))] t.heap ∧ va_D (va_A [(h0, .inr (5, [.null, .int 0, .int 0, .int 0, .int 0]))] sz) [(h0, .inr (5, [.ref q0, .int 0, .int 0, .int (-1), .int 0])), (q0, .inl (cI, 240, .inl (fun _ => 0)))]) (va_A [(h0, .inr (5, [.null, .int 0, .int 0, .int 0, .int 0]))] sz)) 1 240 (va_A [(h0, .inr (5, [.null, .int 0, .int 0, .int 0, .int 0]))] sz) := by
  refine Met.ofW (cc := cX5_init) (maxL := 1) (ret := none) (by decide) rfl ?_
  intro p e s m args below meth c s₁ B hml hv
  obtain ⟨rfl, hsz, hP, hK, hD0, hN⟩ := hv
  have hx := B.exec
  have hb := B.bytes
  have hr := B.returns
  have hts := atoms_spec (ws := Cond.code yX5_init cX5_init 1 none :: am_ALL) B.pre
  have hown : s.vm.findClass RX5 = some m.cls := findClass_of_methodNamed B.named
  have hin : meth.name = "<init>" := (name_of_methodNamed B.named B.method).1
  subst hsz
  have hD := hD0.self (sz := s.heap.size)
  generalize hAe : va_A [(h0, .inr (5, [.null, .int 0, .int 0, .int 0, .int 0]))] s.heap.size = A at hD ⊢
  have hA : ∀ q : Nat, s.heap.size ≤ q → A q := fun q h => by rw [← hAe]; exact Or.inr h
  have hS : va_S A s.heap s.heap [] := va_S.rf
  have hl := lv_entry ([.ref h0]) (n := 1) (Nat.le_of_ble_eq_true rfl)
  rw [lg_entry_eq]
  generalize (lg_sl ([.ref h0]) ++ List.replicate (1 - (lg_sl ([.ref h0])).length) Slot.unset).toArray = ls at hl ⊢
  have hl : lv_has ls 1 [(0, .ref h0)] := hl
  refine lv_aload_n hx hb dX5_init_0 rfl (lv_at hl 0 rfl) ?_
  refine W.objInit hx hb hown (hts _ (List.mem_cons_of_mem _ (am_in 120 (by decide +kernel) rfl))) (hts _ (List.mem_cons_of_mem _ (am_in 113 (by decide +kernel) rfl))) (hts _ (List.mem_cons_of_mem _ (am_in 114 rfl rfl))) rfl (by rw [hml]; exact hl.1) rfl dX5_init_1 (Nat.le_of_ble_eq_true rfl) (Nat.le_of_ble_eq_true rfl) ?_
  refine W.eq (g2 := F0 m 4 ls []) rfl ?_
  refine lv_aload_n hx hb dX5_init_4 rfl (lv_at hl 0 rfl) ?_
  refine lv_sipush (v := 240) hx hb dX5_init_5 (by decide) ?_
  refine vb_newi (N' := 240) hx hb (hts _ (List.mem_cons_of_mem _ (am_in 140 (by decide +kernel) rfl))) hK hP hD hS hA (by decide) (by decide) (by decide) (Nat.le_of_ble_eq_true rfl) (Nat.le_of_ble_eq_true rfl) dX5_init_8 (fun q0 H hP hD hS => ?_)
  have hP : va_P D vwCl [(h0, .inr (5, [.null, .int 0, .int 0, .int 0, .int 0])), (q0, .inl (cI, 240, .inl (fun _ => 0)))] H := hP
  have hD : va_D A [(h0, .inr (5, [.null, .int 0, .int 0, .int 0, .int 0])), (q0, .inl (cI, 240, .inl (fun _ => 0)))] := hD
  refine W.widen (k := 1) (n := 240) (by omega) (by omega) ?_
  refine va_putF (D := D) (ci := 5) (v := .ref q0) (ty := .array .int) (C := RX5) (T := TX5) (N := 5) hx hb hts (fun w hw => List.mem_cons_of_mem _ ((am_cls 5 RX5 TX5 5 rfl).1 w hw)) tyX5 tyX5_ok nmX5 hown hK hP hD hS 0 rfl rfl 0 (by decide) (hts _ (List.mem_cons_of_mem _ (am_in 121 (by decide +kernel) rfl))) (fun _ h9 => h9) rfl hin rfl (by decide +kernel) rfl rfl (Nat.le_of_ble_eq_true rfl) dX5_init_10 (fun H locs hP hD hS => ?_)
  have hP : va_P D vwCl [(h0, .inr (5, [.ref q0, .int 0, .int 0, .int 0, .int 0])), (q0, .inl (cI, 240, .inl (fun _ => 0)))] H := hP
  have hD : va_D A [(h0, .inr (5, [.ref q0, .int 0, .int 0, .int 0, .int 0])), (q0, .inl (cI, 240, .inl (fun _ => 0)))] := hD
  refine lv_aload_n hx hb dX5_init_13 rfl (lv_at hl 0 rfl) ?_
  refine lv_iconst (v := (-1)) hx hb dX5_init_14 (by decide) ?_
  refine va_put (D := D) (ci := 5) (v := .int (-1)) (ty := .int) (C := RX5) (T := TX5) (N := 5) hx hb hts (fun w hw => List.mem_cons_of_mem _ ((am_cls 5 RX5 TX5 5 rfl).1 w hw)) tyX5 tyX5_ok nmX5 hown hK hP hD hS 0 rfl rfl 3 (by decide) (hts _ (List.mem_cons_of_mem _ (am_in 125 (by decide +kernel) rfl))) (fun _ h9 => h9) rfl (by decide +kernel) rfl rfl (Nat.le_of_ble_eq_true rfl) dX5_init_15 (fun H locs hP hD hS => ?_)
  have hP : va_P D vwCl [(h0, .inr (5, [.ref q0, .int 0, .int 0, .int (-1), .int 0])), (q0, .inl (cI, 240, .inl (fun _ => 0)))] H := hP
  have hD : va_D A [(h0, .inr (5, [.ref q0, .int 0, .int 0, .int (-1), .int 0])), (q0, .inl (cI, 240, .inl (fun _ => 0)))] := hD
  exact W.vret hx hb hr (fun t ht hW => ⟨⟨(), rfl, trivial, q0, by rw [ht]; exact hP, hD⟩, hS.F ht⟩) hS.2.2 dX5_init_18
set_option maxHeartbeats 4000000 in
set_option maxRecDepth 100000 in
theorem in_X3 (l : Launch) (cI cZ : ClassId) (D : va_G) (h0 sz : Nat) : Met l yX3_init (Cond.code yX3_init cX3_init 1 none :: am_ALL) ({ frames := 2, cells := 6, slots := 48, locals := 60 }) (va_Pc [.ref h0] (in_pre cI cZ D [(h0, .inr (3, [.int 0, .int 0, .int 0, .int 0, .int 0, .null, .null, .null, .null, .null, .null]))] sz)) (va_Qv (fun _ : Unit => True) (fun _ t => ∃ (q0 q1 q2 q3 q4 q5 : Nat), va_P D vwCl [(h0, .inr (3, [.int 0, .int 0, .int 0, .int 0, .int 0, .ref q0, .ref q1, .ref q2, .ref q3, .ref q4, .ref q5])), (q0, .inl (cI, 8, .inl (fun _ => 0))), (q1, .inl (cI, 8, .inl (fun _ => 0))), (q2, .inl (cI, 8, .inl (fun _ => 0))), (q3, .inl (cI, 8, .inl (fun _ => 0))), (q4, .inl (cI, 8, .inl (fun _ => 0))), (q5, .inl (cI, 8, .inl (fun _ => 0)))] t.heap ∧ va_D (va_A [(h0, .inr (3, [.int 0, .int 0, .int 0, .int 0, .int 0, .null, .null, .null, .null, .null, .null]))] sz) [(h0, .inr (3, [.int 0, .int 0, .int 0, .int 0, .int 0, .ref q0, .ref q1, .ref q2, .ref q3, .ref q4, .ref q5])), (q0, .inl (cI, 8, .inl (fun _ => 0))), (q1, .inl (cI, 8, .inl (fun _ => 0))), (q2, .inl (cI, 8, .inl (fun _ => 0))), (q3, .inl (cI, 8, .inl (fun _ => 0))), (q4, .inl (cI, 8, .inl (fun _ => 0))), (q5, .inl (cI, 8, .inl (fun _ => 0)))]) (va_A [(h0, .inr (3, [.int 0, .int 0, .int 0, .int 0, .int 0, .null, .null, .null, .null, .null, .null]))] sz)) 6 48 (va_A [(h0, .inr (3, [.int 0, .int 0, .int 0, .int 0, .int 0, .null, .null, .null, .null, .null, .null]))] sz) := by
  refine Met.ofW (cc := cX3_init) (maxL := 1) (ret := none) (by decide) rfl ?_
  intro p e s m args below meth c s₁ B hml hv
  obtain ⟨rfl, hsz, hP, hK, hD0, hN⟩ := hv
  have hx := B.exec
  have hb := B.bytes
  have hr := B.returns
  have hts := atoms_spec (ws := Cond.code yX3_init cX3_init 1 none :: am_ALL) B.pre
  have hown : s.vm.findClass RX3 = some m.cls := findClass_of_methodNamed B.named
  have hin : meth.name = "<init>" := (name_of_methodNamed B.named B.method).1
  subst hsz
  have hD := hD0.self (sz := s.heap.size)
  generalize hAe : va_A [(h0, .inr (3, [.int 0, .int 0, .int 0, .int 0, .int 0, .null, .null, .null, .null, .null, .null]))] s.heap.size = A at hD ⊢
  have hA : ∀ q : Nat, s.heap.size ≤ q → A q := fun q h => by rw [← hAe]; exact Or.inr h
  have hS : va_S A s.heap s.heap [] := va_S.rf
  have hl := lv_entry ([.ref h0]) (n := 1) (Nat.le_of_ble_eq_true rfl)
  rw [lg_entry_eq]
  generalize (lg_sl ([.ref h0]) ++ List.replicate (1 - (lg_sl ([.ref h0])).length) Slot.unset).toArray = ls at hl ⊢
  have hl : lv_has ls 1 [(0, .ref h0)] := hl
  refine lv_aload_n hx hb dX3_init_0 rfl (lv_at hl 0 rfl) ?_
  refine W.objInit hx hb hown (hts _ (List.mem_cons_of_mem _ (am_in 146 (by decide +kernel) rfl))) (hts _ (List.mem_cons_of_mem _ (am_in 113 (by decide +kernel) rfl))) (hts _ (List.mem_cons_of_mem _ (am_in 114 rfl rfl))) rfl (by rw [hml]; exact hl.1) rfl dX3_init_1 (Nat.le_of_ble_eq_true rfl) (Nat.le_of_ble_eq_true rfl) ?_
  refine W.eq (g2 := F0 m 4 ls []) rfl ?_
  refine lv_aload_n hx hb dX3_init_4 rfl (lv_at hl 0 rfl) ?_
  refine lv_bipush (v := 8) hx hb dX3_init_5 (by decide) ?_
  refine vb_newi (N' := 8) hx hb (hts _ (List.mem_cons_of_mem _ (am_in 140 (by decide +kernel) rfl))) hK hP hD hS hA (by decide) (by decide) (by decide) (Nat.le_of_ble_eq_true rfl) (Nat.le_of_ble_eq_true rfl) dX3_init_7 (fun q0 H hP hD hS => ?_)
  have hP : va_P D vwCl [(h0, .inr (3, [.int 0, .int 0, .int 0, .int 0, .int 0, .null, .null, .null, .null, .null, .null])), (q0, .inl (cI, 8, .inl (fun _ => 0)))] H := hP
  have hD : va_D A [(h0, .inr (3, [.int 0, .int 0, .int 0, .int 0, .int 0, .null, .null, .null, .null, .null, .null])), (q0, .inl (cI, 8, .inl (fun _ => 0)))] := hD
  refine W.widen (k := 1) (n := 8) (by omega) (by omega) ?_
  refine va_putF (D := D) (ci := 3) (v := .ref q0) (ty := .array .int) (C := RX3) (T := TX3) (N := 11) hx hb hts (fun w hw => List.mem_cons_of_mem _ ((am_cls 3 RX3 TX3 11 rfl).1 w hw)) tyX3 tyX3_ok nmX3 hown hK hP hD hS 0 rfl rfl 5 (by decide) (hts _ (List.mem_cons_of_mem _ (am_in 163 (by decide +kernel) rfl))) (fun _ h9 => h9) rfl hin rfl (by decide +kernel) rfl rfl (Nat.le_of_ble_eq_true rfl) dX3_init_9 (fun H locs hP hD hS => ?_)
  have hP : va_P D vwCl [(h0, .inr (3, [.int 0, .int 0, .int 0, .int 0, .int 0, .ref q0, .null, .null, .null, .null, .null])), (q0, .inl (cI, 8, .inl (fun _ => 0)))] H := hP
  have hD : va_D A [(h0, .inr (3, [.int 0, .int 0, .int 0, .int 0, .int 0, .ref q0, .null, .null, .null, .null, .null])), (q0, .inl (cI, 8, .inl (fun _ => 0)))] := hD
  refine lv_aload_n hx hb dX3_init_12 rfl (lv_at hl 0 rfl) ?_
  refine lv_bipush (v := 8) hx hb dX3_init_13 (by decide) ?_
  refine vb_newi (N' := 8) hx hb (hts _ (List.mem_cons_of_mem _ (am_in 140 (by decide +kernel) rfl))) hK hP hD hS hA (by decide) (by decide) (by decide) (Nat.le_of_ble_eq_true rfl) (Nat.le_of_ble_eq_true rfl) dX3_init_15 (fun q1 H hP hD hS => ?_)
  have hP : va_P D vwCl [(h0, .inr (3, [.int 0, .int 0, .int 0, .int 0, .int 0, .ref q0, .null, .null, .null, .null, .null])), (q0, .inl (cI, 8, .inl (fun _ => 0))), (q1, .inl (cI, 8, .inl (fun _ => 0)))] H := hP
  have hD : va_D A [(h0, .inr (3, [.int 0, .int 0, .int 0, .int 0, .int 0, .ref q0, .null, .null, .null, .null, .null])), (q0, .inl (cI, 8, .inl (fun _ => 0))), (q1, .inl (cI, 8, .inl (fun _ => 0)))] := hD
  refine W.widen (k := 2) (n := 16) (by omega) (by omega) ?_
  refine va_putF (D := D) (ci := 3) (v := .ref q1) (ty := .array .int) (C := RX3) (T := TX3) (N := 11) hx hb hts (fun w hw => List.mem_cons_of_mem _ ((am_cls 3 RX3 TX3 11 rfl).1 w hw)) tyX3 tyX3_ok nmX3 hown hK hP hD hS 0 rfl rfl 6 (by decide) (hts _ (List.mem_cons_of_mem _ (am_in 167 (by decide +kernel) rfl))) (fun _ h9 => h9) rfl hin rfl (by decide +kernel) rfl rfl (Nat.le_of_ble_eq_true rfl) dX3_init_17 (fun H locs hP hD hS => ?_)
  have hP : va_P D vwCl [(h0, .inr (3, [.int 0, .int 0, .int 0, .int 0, .int 0, .ref q0, .ref q1, .null, .null, .null, .null])), (q0, .inl (cI, 8, .inl (fun _ => 0))), (q1, .inl (cI, 8, .inl (fun _ => 0)))] H := hP
  have hD : va_D A [(h0, .inr (3, [.int 0, .int 0, .int 0, .int 0, .int 0, .ref q0, .ref q1, .null, .null, .null, .null])), (q0, .inl (cI, 8, .inl (fun _ => 0))), (q1, .inl (cI, 8, .inl (fun _ => 0)))] := hD
  refine lv_aload_n hx hb dX3_init_20 rfl (lv_at hl 0 rfl) ?_
  refine lv_bipush (v := 8) hx hb dX3_init_21 (by decide) ?_
  refine vb_newi (N' := 8) hx hb (hts _ (List.mem_cons_of_mem _ (am_in 140 (by decide +kernel) rfl))) hK hP hD hS hA (by decide) (by decide) (by decide) (Nat.le_of_ble_eq_true rfl) (Nat.le_of_ble_eq_true rfl) dX3_init_23 (fun q2 H hP hD hS => ?_)
  have hP : va_P D vwCl [(h0, .inr (3, [.int 0, .int 0, .int 0, .int 0, .int 0, .ref q0, .ref q1, .null, .null, .null, .null])), (q0, .inl (cI, 8, .inl (fun _ => 0))), (q1, .inl (cI, 8, .inl (fun _ => 0))), (q2, .inl (cI, 8, .inl (fun _ => 0)))] H := hP
  have hD : va_D A [(h0, .inr (3, [.int 0, .int 0, .int 0, .int 0, .int 0, .ref q0, .ref q1, .null, .null, .null, .null])), (q0, .inl (cI, 8, .inl (fun _ => 0))), (q1, .inl (cI, 8, .inl (fun _ => 0))), (q2, .inl (cI, 8, .inl (fun _ => 0)))] := hD
  refine W.widen (k := 3) (n := 24) (by omega) (by omega) ?_
  refine va_putF (D := D) (ci := 3) (v := .ref q2) (ty := .array .int) (C := RX3) (T := TX3) (N := 11) hx hb hts (fun w hw => List.mem_cons_of_mem _ ((am_cls 3 RX3 TX3 11 rfl).1 w hw)) tyX3 tyX3_ok nmX3 hown hK hP hD hS 0 rfl rfl 7 (by decide) (hts _ (List.mem_cons_of_mem _ (am_in 171 (by decide +kernel) rfl))) (fun _ h9 => h9) rfl hin rfl (by decide +kernel) rfl rfl (Nat.le_of_ble_eq_true rfl) dX3_init_25 (fun H locs hP hD hS => ?_)
  have hP : va_P D vwCl [(h0, .inr (3, [.int 0, .int 0, .int 0, .int 0, .int 0, .ref q0, .ref q1, .ref q2, .null, .null, .null])), (q0, .inl (cI, 8, .inl (fun _ => 0))), (q1, .inl (cI, 8, .inl (fun _ => 0))), (q2, .inl (cI, 8, .inl (fun _ => 0)))] H := hP
  have hD : va_D A [(h0, .inr (3, [.int 0, .int 0, .int 0, .int 0, .int 0, .ref q0, .ref q1, .ref q2, .null, .null, .null])), (q0, .inl (cI, 8, .inl (fun _ => 0))), (q1, .inl (cI, 8, .inl (fun _ => 0))), (q2, .inl (cI, 8, .inl (fun _ => 0)))] := hD
  refine lv_aload_n hx hb dX3_init_28 rfl (lv_at hl 0 rfl) ?_
  refine lv_bipush (v := 8) hx hb dX3_init_29 (by decide) ?_
  refine vb_newi (N' := 8) hx hb (hts _ (List.mem_cons_of_mem _ (am_in 140 (by decide +kernel) rfl))) hK hP hD hS hA (by decide) (by decide) (by decide) (Nat.le_of_ble_eq_true rfl) (Nat.le_of_ble_eq_true rfl) dX3_init_31 (fun q3 H hP hD hS => ?_)
  have hP : va_P D vwCl [(h0, .inr (3, [.int 0, .int 0, .int 0, .int 0, .int 0, .ref q0, .ref q1, .ref q2, .null, .null, .null])), (q0, .inl (cI, 8, .inl (fun _ => 0))), (q1, .inl (cI, 8, .inl (fun _ => 0))), (q2, .inl (cI, 8, .inl (fun _ => 0))), (q3, .inl (cI, 8, .inl (fun _ => 0)))] H := hP
  have hD : va_D A [(h0, .inr (3, [.int 0, .int 0, .int 0, .int 0, .int 0, .ref q0, .ref q1, .ref q2, .null, .null, .null])), (q0, .inl (cI, 8, .inl (fun _ => 0))), (q1, .inl (cI, 8, .inl (fun _ => 0))), (q2, .inl (cI, 8, .inl (fun _ => 0))), (q3, .inl (cI, 8, .inl (fun _ => 0)))] := hD
  refine W.widen (k := 4) (n := 32) (by omega) (by omega) ?_
  refine va_putF (D := D) (ci := 3) (v := .ref q3) (ty := .array .int) (C := RX3) (T := TX3) (N := 11) hx hb hts (fun w hw => List.mem_cons_of_mem _ ((am_cls 3 RX3 TX3 11 rfl).1 w hw)) tyX3 tyX3_ok nmX3 hown hK hP hD hS 0 rfl rfl 8 (by decide) (hts _ (List.mem_cons_of_mem _ (am_in 174 (by decide +kernel) rfl))) (fun _ h9 => h9) rfl hin rfl (by decide +kernel) rfl rfl (Nat.le_of_ble_eq_true rfl) dX3_init_33 (fun H locs hP hD hS => ?_)
  have hP : va_P D vwCl [(h0, .inr (3, [.int 0, .int 0, .int 0, .int 0, .int 0, .ref q0, .ref q1, .ref q2, .ref q3, .null, .null])), (q0, .inl (cI, 8, .inl (fun _ => 0))), (q1, .inl (cI, 8, .inl (fun _ => 0))), (q2, .inl (cI, 8, .inl (fun _ => 0))), (q3, .inl (cI, 8, .inl (fun _ => 0)))] H := hP
  have hD : va_D A [(h0, .inr (3, [.int 0, .int 0, .int 0, .int 0, .int 0, .ref q0, .ref q1, .ref q2, .ref q3, .null, .null])), (q0, .inl (cI, 8, .inl (fun _ => 0))), (q1, .inl (cI, 8, .inl (fun _ => 0))), (q2, .inl (cI, 8, .inl (fun _ => 0))), (q3, .inl (cI, 8, .inl (fun _ => 0)))] := hD
  refine lv_aload_n hx hb dX3_init_36 rfl (lv_at hl 0 rfl) ?_
  refine lv_bipush (v := 8) hx hb dX3_init_37 (by decide) ?_
  refine vb_newi (N' := 8) hx hb (hts _ (List.mem_cons_of_mem _ (am_in 140 (by decide +kernel) rfl))) hK hP hD hS hA (by decide) (by decide) (by decide) (Nat.le_of_ble_eq_true rfl) (Nat.le_of_ble_eq_true rfl) dX3_init_39 (fun q4 H hP hD hS => ?_)
  have hP : va_P D vwCl [(h0, .inr (3, [.int 0, .int 0, .int 0, .int 0, .int 0, .ref q0, .ref q1, .ref q2, .ref q3, .null, .null])), (q0, .inl (cI, 8, .inl (fun _ => 0))), (q1, .inl (cI, 8, .inl (fun _ => 0))), (q2, .inl (cI, 8, .inl (fun _ => 0))), (q3, .inl (cI, 8, .inl (fun _ => 0))), (q4, .inl (cI, 8, .inl (fun _ => 0)))] H := hP
  have hD : va_D A [(h0, .inr (3, [.int 0, .int 0, .int 0, .int 0, .int 0, .ref q0, .ref q1, .ref q2, .ref q3, .null, .null])), (q0, .inl (cI, 8, .inl (fun _ => 0))), (q1, .inl (cI, 8, .inl (fun _ => 0))), (q2, .inl (cI, 8, .inl (fun _ => 0))), (q3, .inl (cI, 8, .inl (fun _ => 0))), (q4, .inl (cI, 8, .inl (fun _ => 0)))] := hD
  refine W.widen (k := 5) (n := 40) (by omega) (by omega) ?_
  refine va_putF (D := D) (ci := 3) (v := .ref q4) (ty := .array .int) (C := RX3) (T := TX3) (N := 11) hx hb hts (fun w hw => List.mem_cons_of_mem _ ((am_cls 3 RX3 TX3 11 rfl).1 w hw)) tyX3 tyX3_ok nmX3 hown hK hP hD hS 0 rfl rfl 9 (by decide) (hts _ (List.mem_cons_of_mem _ (am_in 177 (by decide +kernel) rfl))) (fun _ h9 => h9) rfl hin rfl (by decide +kernel) rfl rfl (Nat.le_of_ble_eq_true rfl) dX3_init_41 (fun H locs hP hD hS => ?_)
  have hP : va_P D vwCl [(h0, .inr (3, [.int 0, .int 0, .int 0, .int 0, .int 0, .ref q0, .ref q1, .ref q2, .ref q3, .ref q4, .null])), (q0, .inl (cI, 8, .inl (fun _ => 0))), (q1, .inl (cI, 8, .inl (fun _ => 0))), (q2, .inl (cI, 8, .inl (fun _ => 0))), (q3, .inl (cI, 8, .inl (fun _ => 0))), (q4, .inl (cI, 8, .inl (fun _ => 0)))] H := hP
  have hD : va_D A [(h0, .inr (3, [.int 0, .int 0, .int 0, .int 0, .int 0, .ref q0, .ref q1, .ref q2, .ref q3, .ref q4, .null])), (q0, .inl (cI, 8, .inl (fun _ => 0))), (q1, .inl (cI, 8, .inl (fun _ => 0))), (q2, .inl (cI, 8, .inl (fun _ => 0))), (q3, .inl (cI, 8, .inl (fun _ => 0))), (q4, .inl (cI, 8, .inl (fun _ => 0)))] := hD
  refine lv_aload_n hx hb dX3_init_44 rfl (lv_at hl 0 rfl) ?_
  refine lv_bipush (v := 8) hx hb dX3_init_45 (by decide) ?_
  refine vb_newi (N' := 8) hx hb (hts _ (List.mem_cons_of_mem _ (am_in 140 (by decide +kernel) rfl))) hK hP hD hS hA (by decide) (by decide) (by decide) (Nat.le_of_ble_eq_true rfl) (Nat.le_of_ble_eq_true rfl) dX3_init_47 (fun q5 H hP hD hS => ?_)
  have hP : va_P D vwCl [(h0, .inr (3, [.int 0, .int 0, .int 0, .int 0, .int 0, .ref q0, .ref q1, .ref q2, .ref q3, .ref q4, .null])), (q0, .inl (cI, 8, .inl (fun _ => 0))), (q1, .inl (cI, 8, .inl (fun _ => 0))), (q2, .inl (cI, 8, .inl (fun _ => 0))), (q3, .inl (cI, 8, .inl (fun _ => 0))), (q4, .inl (cI, 8, .inl (fun _ => 0))), (q5, .inl (cI, 8, .inl (fun _ => 0)))] H := hP
  have hD : va_D A [(h0, .inr (3, [.int 0, .int 0, .int 0, .int 0, .int 0, .ref q0, .ref q1, .ref q2, .ref q3, .ref q4, .null])), (q0, .inl (cI, 8, .inl (fun _ => 0))), (q1, .inl (cI, 8, .inl (fun _ => 0))), (q2, .inl (cI, 8, .inl (fun _ => 0))), (q3, .inl (cI, 8, .inl (fun _ => 0))), (q4, .inl (cI, 8, .inl (fun _ => 0))), (q5, .inl (cI, 8, .inl (fun _ => 0)))] := hD
  refine W.widen (k := 6) (n := 48) (by omega) (by omega) ?_
  refine va_putF (D := D) (ci := 3) (v := .ref q5) (ty := .array .int) (C := RX3) (T := TX3) (N := 11) hx hb hts (fun w hw => List.mem_cons_of_mem _ ((am_cls 3 RX3 TX3 11 rfl).1 w hw)) tyX3 tyX3_ok nmX3 hown hK hP hD hS 0 rfl rfl 10 (by decide) (hts _ (List.mem_cons_of_mem _ (am_in 181 (by decide +kernel) rfl))) (fun _ h9 => h9) rfl hin rfl (by decide +kernel) rfl rfl (Nat.le_of_ble_eq_true rfl) dX3_init_49 (fun H locs hP hD hS => ?_)
  have hP : va_P D vwCl [(h0, .inr (3, [.int 0, .int 0, .int 0, .int 0, .int 0, .ref q0, .ref q1, .ref q2, .ref q3, .ref q4, .ref q5])), (q0, .inl (cI, 8, .inl (fun _ => 0))), (q1, .inl (cI, 8, .inl (fun _ => 0))), (q2, .inl (cI, 8, .inl (fun _ => 0))), (q3, .inl (cI, 8, .inl (fun _ => 0))), (q4, .inl (cI, 8, .inl (fun _ => 0))), (q5, .inl (cI, 8, .inl (fun _ => 0)))] H := hP
  have hD : va_D A [(h0, .inr (3, [.int 0, .int 0, .int 0, .int 0, .int 0, .ref q0, .ref q1, .ref q2, .ref q3, .ref q4, .ref q5])), (q0, .inl (cI, 8, .inl (fun _ => 0))), (q1, .inl (cI, 8, .inl (fun _ => 0))), (q2, .inl (cI, 8, .inl (fun _ => 0))), (q3, .inl (cI, 8, .inl (fun _ => 0))), (q4, .inl (cI, 8, .inl (fun _ => 0))), (q5, .inl (cI, 8, .inl (fun _ => 0)))] := hD
  exact W.vret hx hb hr (fun t ht hW => ⟨⟨(), rfl, trivial, q0, q1, q2, q3, q4, q5, by rw [ht]; exact hP, hD⟩, hS.F ht⟩) hS.2.2 dX3_init_52
set_option maxHeartbeats 4000000 in
set_option maxRecDepth 100000 in
theorem in_X1 (l : Launch) (cI cZ : ClassId) (D : va_G) (h0 sz : Nat) : Met l yX1_init (Cond.code yX1_init cX1_init 1 none :: am_ALL) ({ frames := 2, cells := 4, slots := 28, locals := 60 }) (va_Pc [.ref h0] (in_pre cI cZ D [(h0, .inr (1, [.null, .null, .null, .null, .int 0, .int 0, .int 0]))] sz)) (va_Qv (fun _ : Unit => True) (fun _ t => ∃ (q0 q1 q2 q3 : Nat), va_P D vwCl [(h0, .inr (1, [.ref q0, .ref q1, .ref q2, .ref q3, .int 0, .int 0, .int 0])), (q0, .inl (cI, 8, .inl (fun _ => 0))), (q1, .inl (cI, 8, .inl (fun _ => 0))), (q2, .inl (cI, 8, .inl (fun _ => 0))), (q3, .inl (cI, 4, .inl (fun _ => 0)))] t.heap ∧ va_D (va_A [(h0, .inr (1, [.null, .null, .null, .null, .int 0, .int 0, .int 0]))] sz) [(h0, .inr (1, [.ref q0, .ref q1, .ref q2, .ref q3, .int 0, .int 0, .int 0])), (q0, .inl (cI, 8, .inl (fun _ => 0))), (q1, .inl (cI, 8, .inl (fun _ => 0))), (q2, .inl (cI, 8, .inl (fun _ => 0))), (q3, .inl (cI, 4, .inl (fun _ => 0)))]) (va_A [(h0, .inr (1, [.null, .null, .null, .null, .int 0, .int 0, .int 0]))] sz)) 4 28 (va_A [(h0, .inr (1, [.null, .null, .null, .null, .int 0, .int 0, .int 0]))] sz) := by
  refine Met.ofW (cc := cX1_init) (maxL := 1) (ret := none) (by decide) rfl ?_
  intro p e s m args below meth c s₁ B hml hv
  obtain ⟨rfl, hsz, hP, hK, hD0, hN⟩ := hv
  have hx := B.exec
  have hb := B.bytes
  have hr := B.returns
  have hts := atoms_spec (ws := Cond.code yX1_init cX1_init 1 none :: am_ALL) B.pre
  have hown : s.vm.findClass RX1 = some m.cls := findClass_of_methodNamed B.named
  have hin : meth.name = "<init>" := (name_of_methodNamed B.named B.method).1
  subst hsz
  have hD := hD0.self (sz := s.heap.size)
  generalize hAe : va_A [(h0, .inr (1, [.null, .null, .null, .null, .int 0, .int 0, .int 0]))] s.heap.size = A at hD ⊢
  have hA : ∀ q : Nat, s.heap.size ≤ q → A q := fun q h => by rw [← hAe]; exact Or.inr h
  have hS : va_S A s.heap s.heap [] := va_S.rf
  have hl := lv_entry ([.ref h0]) (n := 1) (Nat.le_of_ble_eq_true rfl)
  rw [lg_entry_eq]
  generalize (lg_sl ([.ref h0]) ++ List.replicate (1 - (lg_sl ([.ref h0])).length) Slot.unset).toArray = ls at hl ⊢
  have hl : lv_has ls 1 [(0, .ref h0)] := hl
  refine lv_aload_n hx hb dX1_init_0 rfl (lv_at hl 0 rfl) ?_
  refine W.objInit hx hb hown (hts _ (List.mem_cons_of_mem _ (am_in 211 (by decide +kernel) rfl))) (hts _ (List.mem_cons_of_mem _ (am_in 113 (by decide +kernel) rfl))) (hts _ (List.mem_cons_of_mem _ (am_in 114 rfl rfl))) rfl (by rw [hml]; exact hl.1) rfl dX1_init_1 (Nat.le_of_ble_eq_true rfl) (Nat.le_of_ble_eq_true rfl) ?_
  refine W.eq (g2 := F0 m 4 ls []) rfl ?_
  refine lv_aload_n hx hb dX1_init_4 rfl (lv_at hl 0 rfl) ?_
  refine lv_bipush (v := 8) hx hb dX1_init_5 (by decide) ?_
  refine vb_newi (N' := 8) hx hb (hts _ (List.mem_cons_of_mem _ (am_in 140 (by decide +kernel) rfl))) hK hP hD hS hA (by decide) (by decide) (by decide) (Nat.le_of_ble_eq_true rfl) (Nat.le_of_ble_eq_true rfl) dX1_init_7 (fun q0 H hP hD hS => ?_)
  have hP : va_P D vwCl [(h0, .inr (1, [.null, .null, .null, .null, .int 0, .int 0, .int 0])), (q0, .inl (cI, 8, .inl (fun _ => 0)))] H := hP
  have hD : va_D A [(h0, .inr (1, [.null, .null, .null, .null, .int 0, .int 0, .int 0])), (q0, .inl (cI, 8, .inl (fun _ => 0)))] := hD
  refine W.widen (k := 1) (n := 8) (by omega) (by omega) ?_
  refine va_putF (D := D) (ci := 1) (v := .ref q0) (ty := .array .int) (C := RX1) (T := TX1) (N := 7) hx hb hts (fun w hw => List.mem_cons_of_mem _ ((am_cls 1 RX1 TX1 7 rfl).1 w hw)) tyX1 tyX1_ok nmX1 hown hK hP hD hS 0 rfl rfl 0 (by decide) (hts _ (List.mem_cons_of_mem _ (am_in 212 (by decide +kernel) rfl))) (fun _ h9 => h9) rfl hin rfl (by decide +kernel) rfl rfl (Nat.le_of_ble_eq_true rfl) dX1_init_9 (fun H locs hP hD hS => ?_)
  have hP : va_P D vwCl [(h0, .inr (1, [.ref q0, .null, .null, .null, .int 0, .int 0, .int 0])), (q0, .inl (cI, 8, .inl (fun _ => 0)))] H := hP
  have hD : va_D A [(h0, .inr (1, [.ref q0, .null, .null, .null, .int 0, .int 0, .int 0])), (q0, .inl (cI, 8, .inl (fun _ => 0)))] := hD
  refine lv_aload_n hx hb dX1_init_12 rfl (lv_at hl 0 rfl) ?_
  refine lv_bipush (v := 8) hx hb dX1_init_13 (by decide) ?_
  refine vb_newi (N' := 8) hx hb (hts _ (List.mem_cons_of_mem _ (am_in 140 (by decide +kernel) rfl))) hK hP hD hS hA (by decide) (by decide) (by decide) (Nat.le_of_ble_eq_true rfl) (Nat.le_of_ble_eq_true rfl) dX1_init_15 (fun q1 H hP hD hS => ?_)
  have hP : va_P D vwCl [(h0, .inr (1, [.ref q0, .null, .null, .null, .int 0, .int 0, .int 0])), (q0, .inl (cI, 8, .inl (fun _ => 0))), (q1, .inl (cI, 8, .inl (fun _ => 0)))] H := hP
  have hD : va_D A [(h0, .inr (1, [.ref q0, .null, .null, .null, .int 0, .int 0, .int 0])), (q0, .inl (cI, 8, .inl (fun _ => 0))), (q1, .inl (cI, 8, .inl (fun _ => 0)))] := hD
  refine W.widen (k := 2) (n := 16) (by omega) (by omega) ?_
  refine va_putF (D := D) (ci := 1) (v := .ref q1) (ty := .array .int) (C := RX1) (T := TX1) (N := 7) hx hb hts (fun w hw => List.mem_cons_of_mem _ ((am_cls 1 RX1 TX1 7 rfl).1 w hw)) tyX1 tyX1_ok nmX1 hown hK hP hD hS 0 rfl rfl 1 (by decide) (hts _ (List.mem_cons_of_mem _ (am_in 215 (by decide +kernel) rfl))) (fun _ h9 => h9) rfl hin rfl (by decide +kernel) rfl rfl (Nat.le_of_ble_eq_true rfl) dX1_init_17 (fun H locs hP hD hS => ?_)
  have hP : va_P D vwCl [(h0, .inr (1, [.ref q0, .ref q1, .null, .null, .int 0, .int 0, .int 0])), (q0, .inl (cI, 8, .inl (fun _ => 0))), (q1, .inl (cI, 8, .inl (fun _ => 0)))] H := hP
  have hD : va_D A [(h0, .inr (1, [.ref q0, .ref q1, .null, .null, .int 0, .int 0, .int 0])), (q0, .inl (cI, 8, .inl (fun _ => 0))), (q1, .inl (cI, 8, .inl (fun _ => 0)))] := hD
  refine lv_aload_n hx hb dX1_init_20 rfl (lv_at hl 0 rfl) ?_
  refine lv_bipush (v := 8) hx hb dX1_init_21 (by decide) ?_
  refine vb_newi (N' := 8) hx hb (hts _ (List.mem_cons_of_mem _ (am_in 140 (by decide +kernel) rfl))) hK hP hD hS hA (by decide) (by decide) (by decide) (Nat.le_of_ble_eq_true rfl) (Nat.le_of_ble_eq_true rfl) dX1_init_23 (fun q2 H hP hD hS => ?_)
  have hP : va_P D vwCl [(h0, .inr (1, [.ref q0, .ref q1, .null, .null, .int 0, .int 0, .int 0])), (q0, .inl (cI, 8, .inl (fun _ => 0))), (q1, .inl (cI, 8, .inl (fun _ => 0))), (q2, .inl (cI, 8, .inl (fun _ => 0)))] H := hP
  have hD : va_D A [(h0, .inr (1, [.ref q0, .ref q1, .null, .null, .int 0, .int 0, .int 0])), (q0, .inl (cI, 8, .inl (fun _ => 0))), (q1, .inl (cI, 8, .inl (fun _ => 0))), (q2, .inl (cI, 8, .inl (fun _ => 0)))] := hD
  refine W.widen (k := 3) (n := 24) (by omega) (by omega) ?_
  refine va_putF (D := D) (ci := 1) (v := .ref q2) (ty := .array .int) (C := RX1) (T := TX1) (N := 7) hx hb hts (fun w hw => List.mem_cons_of_mem _ ((am_cls 1 RX1 TX1 7 rfl).1 w hw)) tyX1 tyX1_ok nmX1 hown hK hP hD hS 0 rfl rfl 2 (by decide) (hts _ (List.mem_cons_of_mem _ (am_in 218 (by decide +kernel) rfl))) (fun _ h9 => h9) rfl hin rfl (by decide +kernel) rfl rfl (Nat.le_of_ble_eq_true rfl) dX1_init_25 (fun H locs hP hD hS => ?_)
  have hP : va_P D vwCl [(h0, .inr (1, [.ref q0, .ref q1, .ref q2, .null, .int 0, .int 0, .int 0])), (q0, .inl (cI, 8, .inl (fun _ => 0))), (q1, .inl (cI, 8, .inl (fun _ => 0))), (q2, .inl (cI, 8, .inl (fun _ => 0)))] H := hP
  have hD : va_D A [(h0, .inr (1, [.ref q0, .ref q1, .ref q2, .null, .int 0, .int 0, .int 0])), (q0, .inl (cI, 8, .inl (fun _ => 0))), (q1, .inl (cI, 8, .inl (fun _ => 0))), (q2, .inl (cI, 8, .inl (fun _ => 0)))] := hD
  refine lv_aload_n hx hb dX1_init_28 rfl (lv_at hl 0 rfl) ?_
  refine lv_iconst (v := 4) hx hb dX1_init_29 (by decide) ?_
  refine vb_newi (N' := 4) hx hb (hts _ (List.mem_cons_of_mem _ (am_in 140 (by decide +kernel) rfl))) hK hP hD hS hA (by decide) (by decide) (by decide) (Nat.le_of_ble_eq_true rfl) (Nat.le_of_ble_eq_true rfl) dX1_init_30 (fun q3 H hP hD hS => ?_)
  have hP : va_P D vwCl [(h0, .inr (1, [.ref q0, .ref q1, .ref q2, .null, .int 0, .int 0, .int 0])), (q0, .inl (cI, 8, .inl (fun _ => 0))), (q1, .inl (cI, 8, .inl (fun _ => 0))), (q2, .inl (cI, 8, .inl (fun _ => 0))), (q3, .inl (cI, 4, .inl (fun _ => 0)))] H := hP
  have hD : va_D A [(h0, .inr (1, [.ref q0, .ref q1, .ref q2, .null, .int 0, .int 0, .int 0])), (q0, .inl (cI, 8, .inl (fun _ => 0))), (q1, .inl (cI, 8, .inl (fun _ => 0))), (q2, .inl (cI, 8, .inl (fun _ => 0))), (q3, .inl (cI, 4, .inl (fun _ => 0)))] := hD
  refine W.widen (k := 4) (n := 28) (by omega) (by omega) ?_
  refine va_putF (D := D) (ci := 1) (v := .ref q3) (ty := .array .int) (C := RX1) (T := TX1) (N := 7) hx hb hts (fun w hw => List.mem_cons_of_mem _ ((am_cls 1 RX1 TX1 7 rfl).1 w hw)) tyX1 tyX1_ok nmX1 hown hK hP hD hS 0 rfl rfl 3 (by decide) (hts _ (List.mem_cons_of_mem _ (am_in 221 (by decide +kernel) rfl))) (fun _ h9 => h9) rfl hin rfl (by decide +kernel) rfl rfl (Nat.le_of_ble_eq_true rfl) dX1_init_32 (fun H locs hP hD hS => ?_)
  have hP : va_P D vwCl [(h0, .inr (1, [.ref q0, .ref q1, .ref q2, .ref q3, .int 0, .int 0, .int 0])), (q0, .inl (cI, 8, .inl (fun _ => 0))), (q1, .inl (cI, 8, .inl (fun _ => 0))), (q2, .inl (cI, 8, .inl (fun _ => 0))), (q3, .inl (cI, 4, .inl (fun _ => 0)))] H := hP
  have hD : va_D A [(h0, .inr (1, [.ref q0, .ref q1, .ref q2, .ref q3, .int 0, .int 0, .int 0])), (q0, .inl (cI, 8, .inl (fun _ => 0))), (q1, .inl (cI, 8, .inl (fun _ => 0))), (q2, .inl (cI, 8, .inl (fun _ => 0))), (q3, .inl (cI, 4, .inl (fun _ => 0)))] := hD
  exact W.vret hx hb hr (fun t ht hW => ⟨⟨(), rfl, trivial, q0, q1, q2, q3, by rw [ht]; exact hP, hD⟩, hS.F ht⟩) hS.2.2 dX1_init_35
set_option maxHeartbeats 4000000 in
set_option maxRecDepth 100000 in
theorem in_X0_8 (l : Launch) (cI cZ : ClassId) (D : va_G) (h0 sz : Nat) : Met l yX0_init (Cond.code yX0_init cX0_init 2 none :: am_ALL) ({ frames := 2, cells := 2, slots := 16, locals := 60 }) (va_Pc [.ref h0, .int 8] (in_pre cI cZ D [(h0, .inr (0, [.int 0, .null, .null, .int 0]))] sz)) (va_Qv (fun _ : Unit => True) (fun _ t => ∃ (q0 q1 : Nat), va_P D vwCl [(h0, .inr (0, [.int 8, .ref q0, .ref q1, .int 0])), (q0, .inl (cI, 8, .inl (fun _ => 0))), (q1, .inl (cI, 8, .inl (fun _ => 0)))] t.heap ∧ va_D (va_A [(h0, .inr (0, [.int 0, .null, .null, .int 0]))] sz) [(h0, .inr (0, [.int 8, .ref q0, .ref q1, .int 0])), (q0, .inl (cI, 8, .inl (fun _ => 0))), (q1, .inl (cI, 8, .inl (fun _ => 0)))]) (va_A [(h0, .inr (0, [.int 0, .null, .null, .int 0]))] sz)) 2 16 (va_A [(h0, .inr (0, [.int 0, .null, .null, .int 0]))] sz) := by
  refine Met.ofW (cc := cX0_init) (maxL := 2) (ret := none) (by decide) rfl ?_
  intro p e s m args below meth c s₁ B hml hv
  obtain ⟨rfl, hsz, hP, hK, hD0, hN⟩ := hv
  have hx := B.exec
  have hb := B.bytes
  have hr := B.returns
  have hts := atoms_spec (ws := Cond.code yX0_init cX0_init 2 none :: am_ALL) B.pre
  have hown : s.vm.findClass RX0 = some m.cls := findClass_of_methodNamed B.named
  have hin : meth.name = "<init>" := (name_of_methodNamed B.named B.method).1
  subst hsz
  have hD := hD0.self (sz := s.heap.size)
  generalize hAe : va_A [(h0, .inr (0, [.int 0, .null, .null, .int 0]))] s.heap.size = A at hD ⊢
  have hA : ∀ q : Nat, s.heap.size ≤ q → A q := fun q h => by rw [← hAe]; exact Or.inr h
  have hS : va_S A s.heap s.heap [] := va_S.rf
  have hl := lv_entry ([.ref h0, .int 8]) (n := 2) (Nat.le_of_ble_eq_true rfl)
  rw [lg_entry_eq]
  generalize (lg_sl ([.ref h0, .int 8]) ++ List.replicate (2 - (lg_sl ([.ref h0, .int 8])).length) Slot.unset).toArray = ls at hl ⊢
  have hl : lv_has ls 2 [(0, .ref h0), (1, .int 8)] := hl
  refine lv_aload_n hx hb dX0_init_0 rfl (lv_at hl 0 rfl) ?_
  refine W.objInit hx hb hown (hts _ (List.mem_cons_of_mem _ (am_in 286 (by decide +kernel) rfl))) (hts _ (List.mem_cons_of_mem _ (am_in 113 (by decide +kernel) rfl))) (hts _ (List.mem_cons_of_mem _ (am_in 114 rfl rfl))) rfl (by rw [hml]; exact hl.1) rfl dX0_init_1 (Nat.le_of_ble_eq_true rfl) (Nat.le_of_ble_eq_true rfl) ?_
  refine W.eq (g2 := F0 m 4 ls []) rfl ?_
  refine lv_aload_n hx hb dX0_init_4 rfl (lv_at hl 0 rfl) ?_
  refine lv_iload_n hx hb dX0_init_5 rfl (lv_at hl 1 rfl) ?_
  refine lv_iconst (v := 0) hx hb dX0_init_6 (by decide) ?_
  refine va_mmax hx hb (by rw [hml]; exact hl.1.symm) hown (hts _ (List.mem_cons_of_mem _ (am_in 287 (by decide +kernel) rfl))) (hts _ (List.mem_cons_of_mem _ am_wMax.1)) (hts _ (List.mem_cons_of_mem _ am_wMax.2.1)) (hts _ (List.mem_cons_of_mem _ am_wMax.2.2)) (Nat.le_of_ble_eq_true rfl) (Nat.le_of_ble_eq_true rfl) (by omega) (by omega) dX0_init_7 ?_
  rw [show (if (8 : Int32) < 0 then (0 : Int32) else 8) = 8 by decide]
  refine va_putF (D := D) (ci := 0) (v := .int 8) (ty := .int) (C := RX0) (T := TX0) (N := 4) hx hb hts (fun w hw => List.mem_cons_of_mem _ ((am_cls 0 RX0 TX0 4 rfl).1 w hw)) tyX0 tyX0_ok nmX0 hown hK hP hD hS 0 rfl rfl 0 (by decide) (hts _ (List.mem_cons_of_mem _ (am_in 288 (by decide +kernel) rfl))) (fun _ h9 => h9) rfl hin rfl (by decide +kernel) rfl rfl (Nat.le_of_ble_eq_true rfl) dX0_init_10 (fun H locs hP hD hS => ?_)
  have hP : va_P D vwCl [(h0, .inr (0, [.int 8, .null, .null, .int 0]))] H := hP
  have hD : va_D A [(h0, .inr (0, [.int 8, .null, .null, .int 0]))] := hD
  refine lv_aload_n hx hb dX0_init_13 rfl (lv_at hl 0 rfl) ?_
  refine lv_aload_n hx hb dX0_init_14 rfl (lv_at hl 0 rfl) ?_
  refine va_get (C := RX0) (T := TX0) (N := 4) hx hb hts (fun w hw => List.mem_cons_of_mem _ ((am_cls 0 RX0 TX0 4 rfl).1 w hw)) hown hK hP 0 rfl rfl 0 (by decide) (hts _ (List.mem_cons_of_mem _ (am_in 288 (by decide +kernel) rfl))) (fun _ h9 => h9) rfl dX0_init_15 ?_
  refine vb_newi (N' := 8) hx hb (hts _ (List.mem_cons_of_mem _ (am_in 140 (by decide +kernel) rfl))) hK hP hD hS hA (by decide) (by decide) (by decide) (Nat.le_of_ble_eq_true rfl) (Nat.le_of_ble_eq_true rfl) dX0_init_18 (fun q0 H hP hD hS => ?_)
  have hP : va_P D vwCl [(h0, .inr (0, [.int 8, .null, .null, .int 0])), (q0, .inl (cI, 8, .inl (fun _ => 0)))] H := hP
  have hD : va_D A [(h0, .inr (0, [.int 8, .null, .null, .int 0])), (q0, .inl (cI, 8, .inl (fun _ => 0)))] := hD
  refine W.widen (k := 1) (n := 8) (by omega) (by omega) ?_
  refine va_putF (D := D) (ci := 0) (v := .ref q0) (ty := .array .int) (C := RX0) (T := TX0) (N := 4) hx hb hts (fun w hw => List.mem_cons_of_mem _ ((am_cls 0 RX0 TX0 4 rfl).1 w hw)) tyX0 tyX0_ok nmX0 hown hK hP hD hS 0 rfl rfl 1 (by decide) (hts _ (List.mem_cons_of_mem _ (am_in 289 (by decide +kernel) rfl))) (fun _ h9 => h9) rfl hin rfl (by decide +kernel) rfl rfl (Nat.le_of_ble_eq_true rfl) dX0_init_20 (fun H locs hP hD hS => ?_)
  have hP : va_P D vwCl [(h0, .inr (0, [.int 8, .ref q0, .null, .int 0])), (q0, .inl (cI, 8, .inl (fun _ => 0)))] H := hP
  have hD : va_D A [(h0, .inr (0, [.int 8, .ref q0, .null, .int 0])), (q0, .inl (cI, 8, .inl (fun _ => 0)))] := hD
  refine lv_aload_n hx hb dX0_init_23 rfl (lv_at hl 0 rfl) ?_
  refine lv_aload_n hx hb dX0_init_24 rfl (lv_at hl 0 rfl) ?_
  refine va_get (C := RX0) (T := TX0) (N := 4) hx hb hts (fun w hw => List.mem_cons_of_mem _ ((am_cls 0 RX0 TX0 4 rfl).1 w hw)) hown hK hP 0 rfl rfl 0 (by decide) (hts _ (List.mem_cons_of_mem _ (am_in 288 (by decide +kernel) rfl))) (fun _ h9 => h9) rfl dX0_init_25 ?_
  refine vb_newi (N' := 8) hx hb (hts _ (List.mem_cons_of_mem _ (am_in 140 (by decide +kernel) rfl))) hK hP hD hS hA (by decide) (by decide) (by decide) (Nat.le_of_ble_eq_true rfl) (Nat.le_of_ble_eq_true rfl) dX0_init_28 (fun q1 H hP hD hS => ?_)
  have hP : va_P D vwCl [(h0, .inr (0, [.int 8, .ref q0, .null, .int 0])), (q0, .inl (cI, 8, .inl (fun _ => 0))), (q1, .inl (cI, 8, .inl (fun _ => 0)))] H := hP
  have hD : va_D A [(h0, .inr (0, [.int 8, .ref q0, .null, .int 0])), (q0, .inl (cI, 8, .inl (fun _ => 0))), (q1, .inl (cI, 8, .inl (fun _ => 0)))] := hD
  refine W.widen (k := 2) (n := 16) (by omega) (by omega) ?_
  refine va_putF (D := D) (ci := 0) (v := .ref q1) (ty := .array .int) (C := RX0) (T := TX0) (N := 4) hx hb hts (fun w hw => List.mem_cons_of_mem _ ((am_cls 0 RX0 TX0 4 rfl).1 w hw)) tyX0 tyX0_ok nmX0 hown hK hP hD hS 0 rfl rfl 2 (by decide) (hts _ (List.mem_cons_of_mem _ (am_in 291 (by decide +kernel) rfl))) (fun _ h9 => h9) rfl hin rfl (by decide +kernel) rfl rfl (Nat.le_of_ble_eq_true rfl) dX0_init_30 (fun H locs hP hD hS => ?_)
  have hP : va_P D vwCl [(h0, .inr (0, [.int 8, .ref q0, .ref q1, .int 0])), (q0, .inl (cI, 8, .inl (fun _ => 0))), (q1, .inl (cI, 8, .inl (fun _ => 0)))] H := hP
  have hD : va_D A [(h0, .inr (0, [.int 8, .ref q0, .ref q1, .int 0])), (q0, .inl (cI, 8, .inl (fun _ => 0))), (q1, .inl (cI, 8, .inl (fun _ => 0)))] := hD
  exact W.vret hx hb hr (fun t ht hW => ⟨⟨(), rfl, trivial, q0, q1, by rw [ht]; exact hP, hD⟩, hS.F ht⟩) hS.2.2 dX0_init_33
set_option maxHeartbeats 4000000 in
set_option maxRecDepth 100000 in
theorem in_X0_15 (l : Launch) (cI cZ : ClassId) (D : va_G) (h0 sz : Nat) : Met l yX0_init (Cond.code yX0_init cX0_init 2 none :: am_ALL) ({ frames := 2, cells := 2, slots := 30, locals := 60 }) (va_Pc [.ref h0, .int 15] (in_pre cI cZ D [(h0, .inr (0, [.int 0, .null, .null, .int 0]))] sz)) (va_Qv (fun _ : Unit => True) (fun _ t => ∃ (q0 q1 : Nat), va_P D vwCl [(h0, .inr (0, [.int 15, .ref q0, .ref q1, .int 0])), (q0, .inl (cI, 15, .inl (fun _ => 0))), (q1, .inl (cI, 15, .inl (fun _ => 0)))] t.heap ∧ va_D (va_A [(h0, .inr (0, [.int 0, .null, .null, .int 0]))] sz) [(h0, .inr (0, [.int 15, .ref q0, .ref q1, .int 0])), (q0, .inl (cI, 15, .inl (fun _ => 0))), (q1, .inl (cI, 15, .inl (fun _ => 0)))]) (va_A [(h0, .inr (0, [.int 0, .null, .null, .int 0]))] sz)) 2 30 (va_A [(h0, .inr (0, [.int 0, .null, .null, .int 0]))] sz) := by
  refine Met.ofW (cc := cX0_init) (maxL := 2) (ret := none) (by decide) rfl ?_
  intro p e s m args below meth c s₁ B hml hv
  obtain ⟨rfl, hsz, hP, hK, hD0, hN⟩ := hv
  have hx := B.exec
  have hb := B.bytes
  have hr := B.returns
  have hts := atoms_spec (ws := Cond.code yX0_init cX0_init 2 none :: am_ALL) B.pre
  have hown : s.vm.findClass RX0 = some m.cls := findClass_of_methodNamed B.named
  have hin : meth.name = "<init>" := (name_of_methodNamed B.named B.method).1
  subst hsz
  have hD := hD0.self (sz := s.heap.size)
  generalize hAe : va_A [(h0, .inr (0, [.int 0, .null, .null, .int 0]))] s.heap.size = A at hD ⊢
  have hA : ∀ q : Nat, s.heap.size ≤ q → A q := fun q h => by rw [← hAe]; exact Or.inr h
  have hS : va_S A s.heap s.heap [] := va_S.rf
  have hl := lv_entry ([.ref h0, .int 15]) (n := 2) (Nat.le_of_ble_eq_true rfl)
  rw [lg_entry_eq]
  generalize (lg_sl ([.ref h0, .int 15]) ++ List.replicate (2 - (lg_sl ([.ref h0, .int 15])).length) Slot.unset).toArray = ls at hl ⊢
  have hl : lv_has ls 2 [(0, .ref h0), (1, .int 15)] := hl
  refine lv_aload_n hx hb dX0_init_0 rfl (lv_at hl 0 rfl) ?_
  refine W.objInit hx hb hown (hts _ (List.mem_cons_of_mem _ (am_in 286 (by decide +kernel) rfl))) (hts _ (List.mem_cons_of_mem _ (am_in 113 (by decide +kernel) rfl))) (hts _ (List.mem_cons_of_mem _ (am_in 114 rfl rfl))) rfl (by rw [hml]; exact hl.1) rfl dX0_init_1 (Nat.le_of_ble_eq_true rfl) (Nat.le_of_ble_eq_true rfl) ?_
  refine W.eq (g2 := F0 m 4 ls []) rfl ?_
  refine lv_aload_n hx hb dX0_init_4 rfl (lv_at hl 0 rfl) ?_
  refine lv_iload_n hx hb dX0_init_5 rfl (lv_at hl 1 rfl) ?_
  refine lv_iconst (v := 0) hx hb dX0_init_6 (by decide) ?_
  refine va_mmax hx hb (by rw [hml]; exact hl.1.symm) hown (hts _ (List.mem_cons_of_mem _ (am_in 287 (by decide +kernel) rfl))) (hts _ (List.mem_cons_of_mem _ am_wMax.1)) (hts _ (List.mem_cons_of_mem _ am_wMax.2.1)) (hts _ (List.mem_cons_of_mem _ am_wMax.2.2)) (Nat.le_of_ble_eq_true rfl) (Nat.le_of_ble_eq_true rfl) (by omega) (by omega) dX0_init_7 ?_
  rw [show (if (15 : Int32) < 0 then (0 : Int32) else 15) = 15 by decide]
  refine va_putF (D := D) (ci := 0) (v := .int 15) (ty := .int) (C := RX0) (T := TX0) (N := 4) hx hb hts (fun w hw => List.mem_cons_of_mem _ ((am_cls 0 RX0 TX0 4 rfl).1 w hw)) tyX0 tyX0_ok nmX0 hown hK hP hD hS 0 rfl rfl 0 (by decide) (hts _ (List.mem_cons_of_mem _ (am_in 288 (by decide +kernel) rfl))) (fun _ h9 => h9) rfl hin rfl (by decide +kernel) rfl rfl (Nat.le_of_ble_eq_true rfl) dX0_init_10 (fun H locs hP hD hS => ?_)
  have hP : va_P D vwCl [(h0, .inr (0, [.int 15, .null, .null, .int 0]))] H := hP
  have hD : va_D A [(h0, .inr (0, [.int 15, .null, .null, .int 0]))] := hD
  refine lv_aload_n hx hb dX0_init_13 rfl (lv_at hl 0 rfl) ?_
  refine lv_aload_n hx hb dX0_init_14 rfl (lv_at hl 0 rfl) ?_
  refine va_get (C := RX0) (T := TX0) (N := 4) hx hb hts (fun w hw => List.mem_cons_of_mem _ ((am_cls 0 RX0 TX0 4 rfl).1 w hw)) hown hK hP 0 rfl rfl 0 (by decide) (hts _ (List.mem_cons_of_mem _ (am_in 288 (by decide +kernel) rfl))) (fun _ h9 => h9) rfl dX0_init_15 ?_
  refine vb_newi (N' := 15) hx hb (hts _ (List.mem_cons_of_mem _ (am_in 140 (by decide +kernel) rfl))) hK hP hD hS hA (by decide) (by decide) (by decide) (Nat.le_of_ble_eq_true rfl) (Nat.le_of_ble_eq_true rfl) dX0_init_18 (fun q0 H hP hD hS => ?_)
  have hP : va_P D vwCl [(h0, .inr (0, [.int 15, .null, .null, .int 0])), (q0, .inl (cI, 15, .inl (fun _ => 0)))] H := hP
  have hD : va_D A [(h0, .inr (0, [.int 15, .null, .null, .int 0])), (q0, .inl (cI, 15, .inl (fun _ => 0)))] := hD
  refine W.widen (k := 1) (n := 15) (by omega) (by omega) ?_
  refine va_putF (D := D) (ci := 0) (v := .ref q0) (ty := .array .int) (C := RX0) (T := TX0) (N := 4) hx hb hts (fun w hw => List.mem_cons_of_mem _ ((am_cls 0 RX0 TX0 4 rfl).1 w hw)) tyX0 tyX0_ok nmX0 hown hK hP hD hS 0 rfl rfl 1 (by decide) (hts _ (List.mem_cons_of_mem _ (am_in 289 (by decide +kernel) rfl))) (fun _ h9 => h9) rfl hin rfl (by decide +kernel) rfl rfl (Nat.le_of_ble_eq_true rfl) dX0_init_20 (fun H locs hP hD hS => ?_)
  have hP : va_P D vwCl [(h0, .inr (0, [.int 15, .ref q0, .null, .int 0])), (q0, .inl (cI, 15, .inl (fun _ => 0)))] H := hP
  have hD : va_D A [(h0, .inr (0, [.int 15, .ref q0, .null, .int 0])), (q0, .inl (cI, 15, .inl (fun _ => 0)))] := hD
  refine lv_aload_n hx hb dX0_init_23 rfl (lv_at hl 0 rfl) ?_
  refine lv_aload_n hx hb dX0_init_24 rfl (lv_at hl 0 rfl) ?_
  refine va_get (C := RX0) (T := TX0) (N := 4) hx hb hts (fun w hw => List.mem_cons_of_mem _ ((am_cls 0 RX0 TX0 4 rfl).1 w hw)) hown hK hP 0 rfl rfl 0 (by decide) (hts _ (List.mem_cons_of_mem _ (am_in 288 (by decide +kernel) rfl))) (fun _ h9 => h9) rfl dX0_init_25 ?_
  refine vb_newi (N' := 15) hx hb (hts _ (List.mem_cons_of_mem _ (am_in 140 (by decide +kernel) rfl))) hK hP hD hS hA (by decide) (by decide) (by decide) (Nat.le_of_ble_eq_true rfl) (Nat.le_of_ble_eq_true rfl) dX0_init_28 (fun q1 H hP hD hS => ?_)
  have hP : va_P D vwCl [(h0, .inr (0, [.int 15, .ref q0, .null, .int 0])), (q0, .inl (cI, 15, .inl (fun _ => 0))), (q1, .inl (cI, 15, .inl (fun _ => 0)))] H := hP
  have hD : va_D A [(h0, .inr (0, [.int 15, .ref q0, .null, .int 0])), (q0, .inl (cI, 15, .inl (fun _ => 0))), (q1, .inl (cI, 15, .inl (fun _ => 0)))] := hD
  refine W.widen (k := 2) (n := 30) (by omega) (by omega) ?_
  refine va_putF (D := D) (ci := 0) (v := .ref q1) (ty := .array .int) (C := RX0) (T := TX0) (N := 4) hx hb hts (fun w hw => List.mem_cons_of_mem _ ((am_cls 0 RX0 TX0 4 rfl).1 w hw)) tyX0 tyX0_ok nmX0 hown hK hP hD hS 0 rfl rfl 2 (by decide) (hts _ (List.mem_cons_of_mem _ (am_in 291 (by decide +kernel) rfl))) (fun _ h9 => h9) rfl hin rfl (by decide +kernel) rfl rfl (Nat.le_of_ble_eq_true rfl) dX0_init_30 (fun H locs hP hD hS => ?_)
  have hP : va_P D vwCl [(h0, .inr (0, [.int 15, .ref q0, .ref q1, .int 0])), (q0, .inl (cI, 15, .inl (fun _ => 0))), (q1, .inl (cI, 15, .inl (fun _ => 0)))] H := hP
  have hD : va_D A [(h0, .inr (0, [.int 15, .ref q0, .ref q1, .int 0])), (q0, .inl (cI, 15, .inl (fun _ => 0))), (q1, .inl (cI, 15, .inl (fun _ => 0)))] := hD
  exact W.vret hx hb hr (fun t ht hW => ⟨⟨(), rfl, trivial, q0, q1, by rw [ht]; exact hP, hD⟩, hS.F ht⟩) hS.2.2 dX0_init_33
set_option maxHeartbeats 4000000 in
set_option maxRecDepth 100000 in
theorem in_X4_20 (l : Launch) (cI cZ : ClassId) (D : va_G) (h0 sz : Nat) : Met l yX4_init (Cond.code yX4_init cX4_init 2 none :: am_ALL) ({ frames := 2, cells := 1, slots := 540, locals := 60 }) (va_Pc [.ref h0, .int 20] (in_pre cI cZ D [(h0, .inr (4, [.int 0, .null]))] sz)) (va_Qv (fun _ : Unit => True) (fun _ t => ∃ (q0 : Nat), va_P D vwCl [(h0, .inr (4, [.int 20, .ref q0])), (q0, .inl (cI, 540, .inl (fun _ => 0)))] t.heap ∧ va_D (va_A [(h0, .inr (4, [.int 0, .null]))] sz) [(h0, .inr (4, [.int 20, .ref q0])), (q0, .inl (cI, 540, .inl (fun _ => 0)))]) (va_A [(h0, .inr (4, [.int 0, .null]))] sz)) 1 540 (va_A [(h0, .inr (4, [.int 0, .null]))] sz) := by
  refine Met.ofW (cc := cX4_init) (maxL := 2) (ret := none) (by decide) rfl ?_
  intro p e s m args below meth c s₁ B hml hv
  obtain ⟨rfl, hsz, hP, hK, hD0, hN⟩ := hv
  have hx := B.exec
  have hb := B.bytes
  have hr := B.returns
  have hts := atoms_spec (ws := Cond.code yX4_init cX4_init 2 none :: am_ALL) B.pre
  have hown : s.vm.findClass RX4 = some m.cls := findClass_of_methodNamed B.named
  have hin : meth.name = "<init>" := (name_of_methodNamed B.named B.method).1
  subst hsz
  have hD := hD0.self (sz := s.heap.size)
  generalize hAe : va_A [(h0, .inr (4, [.int 0, .null]))] s.heap.size = A at hD ⊢
  have hA : ∀ q : Nat, s.heap.size ≤ q → A q := fun q h => by rw [← hAe]; exact Or.inr h
  have hS : va_S A s.heap s.heap [] := va_S.rf
  have hl := lv_entry ([.ref h0, .int 20]) (n := 2) (Nat.le_of_ble_eq_true rfl)
  rw [lg_entry_eq]
  generalize (lg_sl ([.ref h0, .int 20]) ++ List.replicate (2 - (lg_sl ([.ref h0, .int 20])).length) Slot.unset).toArray = ls at hl ⊢
  have hl : lv_has ls 2 [(0, .ref h0), (1, .int 20)] := hl
  refine lv_aload_n hx hb dX4_init_0 rfl (lv_at hl 0 rfl) ?_
  refine W.objInit hx hb hown (hts _ (List.mem_cons_of_mem _ (am_in 257 (by decide +kernel) rfl))) (hts _ (List.mem_cons_of_mem _ (am_in 113 (by decide +kernel) rfl))) (hts _ (List.mem_cons_of_mem _ (am_in 114 rfl rfl))) rfl (by rw [hml]; exact hl.1) rfl dX4_init_1 (Nat.le_of_ble_eq_true rfl) (Nat.le_of_ble_eq_true rfl) ?_
  refine W.eq (g2 := F0 m 4 ls []) rfl ?_
  refine lv_aload_n hx hb dX4_init_4 rfl (lv_at hl 0 rfl) ?_
  refine lv_iload_n hx hb dX4_init_5 rfl (lv_at hl 1 rfl) ?_
  refine lv_iconst (v := 0) hx hb dX4_init_6 (by decide) ?_
  refine va_mmax hx hb (by rw [hml]; exact hl.1.symm) hown (hts _ (List.mem_cons_of_mem _ (am_in 258 (by decide +kernel) rfl))) (hts _ (List.mem_cons_of_mem _ am_wMax.1)) (hts _ (List.mem_cons_of_mem _ am_wMax.2.1)) (hts _ (List.mem_cons_of_mem _ am_wMax.2.2)) (Nat.le_of_ble_eq_true rfl) (Nat.le_of_ble_eq_true rfl) (by omega) (by omega) dX4_init_7 ?_
  rw [show (if (20 : Int32) < 0 then (0 : Int32) else 20) = 20 by decide]
  refine va_putF (D := D) (ci := 4) (v := .int 20) (ty := .int) (C := RX4) (T := TX4) (N := 2) hx hb hts (fun w hw => List.mem_cons_of_mem _ ((am_cls 4 RX4 TX4 2 rfl).1 w hw)) tyX4 tyX4_ok nmX4 hown hK hP hD hS 0 rfl rfl 0 (by decide) (hts _ (List.mem_cons_of_mem _ (am_in 261 (by decide +kernel) rfl))) (fun _ h9 => h9) rfl hin rfl (by decide +kernel) rfl rfl (Nat.le_of_ble_eq_true rfl) dX4_init_10 (fun H locs hP hD hS => ?_)
  have hP : va_P D vwCl [(h0, .inr (4, [.int 20, .null]))] H := hP
  have hD : va_D A [(h0, .inr (4, [.int 20, .null]))] := hD
  refine lv_aload_n hx hb dX4_init_13 rfl (lv_at hl 0 rfl) ?_
  refine lv_aload_n hx hb dX4_init_14 rfl (lv_at hl 0 rfl) ?_
  refine va_get (C := RX4) (T := TX4) (N := 2) hx hb hts (fun w hw => List.mem_cons_of_mem _ ((am_cls 4 RX4 TX4 2 rfl).1 w hw)) hown hK hP 0 rfl rfl 0 (by decide) (hts _ (List.mem_cons_of_mem _ (am_in 261 (by decide +kernel) rfl))) (fun _ h9 => h9) rfl dX4_init_15 ?_
  refine lv_bipush (v := 27) hx hb dX4_init_18 (by decide) ?_
  refine lv_imul hx hb dX4_init_20 ?_
  refine vb_newi (N' := 540) hx hb (hts _ (List.mem_cons_of_mem _ (am_in 140 (by decide +kernel) rfl))) hK hP hD hS hA (by decide) (by decide) (by decide) (Nat.le_of_ble_eq_true rfl) (Nat.le_of_ble_eq_true rfl) dX4_init_21 (fun q0 H hP hD hS => ?_)
  have hP : va_P D vwCl [(h0, .inr (4, [.int 20, .null])), (q0, .inl (cI, 540, .inl (fun _ => 0)))] H := hP
  have hD : va_D A [(h0, .inr (4, [.int 20, .null])), (q0, .inl (cI, 540, .inl (fun _ => 0)))] := hD
  refine W.widen (k := 1) (n := 540) (by omega) (by omega) ?_
  refine va_putF (D := D) (ci := 4) (v := .ref q0) (ty := .array .int) (C := RX4) (T := TX4) (N := 2) hx hb hts (fun w hw => List.mem_cons_of_mem _ ((am_cls 4 RX4 TX4 2 rfl).1 w hw)) tyX4 tyX4_ok nmX4 hown hK hP hD hS 0 rfl rfl 1 (by decide) (hts _ (List.mem_cons_of_mem _ (am_in 262 (by decide +kernel) rfl))) (fun _ h9 => h9) rfl hin rfl (by decide +kernel) rfl rfl (Nat.le_of_ble_eq_true rfl) dX4_init_23 (fun H locs hP hD hS => ?_)
  have hP : va_P D vwCl [(h0, .inr (4, [.int 20, .ref q0])), (q0, .inl (cI, 540, .inl (fun _ => 0)))] H := hP
  have hD : va_D A [(h0, .inr (4, [.int 20, .ref q0])), (q0, .inl (cI, 540, .inl (fun _ => 0)))] := hD
  exact W.vret hx hb hr (fun t ht hW => ⟨⟨(), rfl, trivial, q0, by rw [ht]; exact hP, hD⟩, hS.F ht⟩) hS.2.2 dX4_init_26
set_option maxHeartbeats 4000000 in
set_option maxRecDepth 100000 in
theorem in_X4_2 (l : Launch) (cI cZ : ClassId) (D : va_G) (h0 sz : Nat) : Met l yX4_init (Cond.code yX4_init cX4_init 2 none :: am_ALL) ({ frames := 2, cells := 1, slots := 54, locals := 60 }) (va_Pc [.ref h0, .int 2] (in_pre cI cZ D [(h0, .inr (4, [.int 0, .null]))] sz)) (va_Qv (fun _ : Unit => True) (fun _ t => ∃ (q0 : Nat), va_P D vwCl [(h0, .inr (4, [.int 2, .ref q0])), (q0, .inl (cI, 54, .inl (fun _ => 0)))] t.heap ∧ va_D (va_A [(h0, .inr (4, [.int 0, .null]))] sz) [(h0, .inr (4, [.int 2, .ref q0])), (q0, .inl (cI, 54, .inl (fun _ => 0)))]) (va_A [(h0, .inr (4, [.int 0, .null]))] sz)) 1 54 (va_A [(h0, .inr (4, [.int 0, .null]))] sz) := by
  refine Met.ofW (cc := cX4_init) (maxL := 2) (ret := none) (by decide) rfl ?_
  intro p e s m args below meth c s₁ B hml hv
  obtain ⟨rfl, hsz, hP, hK, hD0, hN⟩ := hv
  have hx := B.exec
  have hb := B.bytes
  have hr := B.returns
  have hts := atoms_spec (ws := Cond.code yX4_init cX4_init 2 none :: am_ALL) B.pre
  have hown : s.vm.findClass RX4 = some m.cls := findClass_of_methodNamed B.named
  have hin : meth.name = "<init>" := (name_of_methodNamed B.named B.method).1
  subst hsz
  have hD := hD0.self (sz := s.heap.size)
  generalize hAe : va_A [(h0, .inr (4, [.int 0, .null]))] s.heap.size = A at hD ⊢
  have hA : ∀ q : Nat, s.heap.size ≤ q → A q := fun q h => by rw [← hAe]; exact Or.inr h
  have hS : va_S A s.heap s.heap [] := va_S.rf
  have hl := lv_entry ([.ref h0, .int 2]) (n := 2) (Nat.le_of_ble_eq_true rfl)
  rw [lg_entry_eq]
  generalize (lg_sl ([.ref h0, .int 2]) ++ List.replicate (2 - (lg_sl ([.ref h0, .int 2])).length) Slot.unset).toArray = ls at hl ⊢
  have hl : lv_has ls 2 [(0, .ref h0), (1, .int 2)] := hl
  refine lv_aload_n hx hb dX4_init_0 rfl (lv_at hl 0 rfl) ?_
  refine W.objInit hx hb hown (hts _ (List.mem_cons_of_mem _ (am_in 257 (by decide +kernel) rfl))) (hts _ (List.mem_cons_of_mem _ (am_in 113 (by decide +kernel) rfl))) (hts _ (List.mem_cons_of_mem _ (am_in 114 rfl rfl))) rfl (by rw [hml]; exact hl.1) rfl dX4_init_1 (Nat.le_of_ble_eq_true rfl) (Nat.le_of_ble_eq_true rfl) ?_
  refine W.eq (g2 := F0 m 4 ls []) rfl ?_
  refine lv_aload_n hx hb dX4_init_4 rfl (lv_at hl 0 rfl) ?_
  refine lv_iload_n hx hb dX4_init_5 rfl (lv_at hl 1 rfl) ?_
  refine lv_iconst (v := 0) hx hb dX4_init_6 (by decide) ?_
  refine va_mmax hx hb (by rw [hml]; exact hl.1.symm) hown (hts _ (List.mem_cons_of_mem _ (am_in 258 (by decide +kernel) rfl))) (hts _ (List.mem_cons_of_mem _ am_wMax.1)) (hts _ (List.mem_cons_of_mem _ am_wMax.2.1)) (hts _ (List.mem_cons_of_mem _ am_wMax.2.2)) (Nat.le_of_ble_eq_true rfl) (Nat.le_of_ble_eq_true rfl) (by omega) (by omega) dX4_init_7 ?_
  rw [show (if (2 : Int32) < 0 then (0 : Int32) else 2) = 2 by decide]
  refine va_putF (D := D) (ci := 4) (v := .int 2) (ty := .int) (C := RX4) (T := TX4) (N := 2) hx hb hts (fun w hw => List.mem_cons_of_mem _ ((am_cls 4 RX4 TX4 2 rfl).1 w hw)) tyX4 tyX4_ok nmX4 hown hK hP hD hS 0 rfl rfl 0 (by decide) (hts _ (List.mem_cons_of_mem _ (am_in 261 (by decide +kernel) rfl))) (fun _ h9 => h9) rfl hin rfl (by decide +kernel) rfl rfl (Nat.le_of_ble_eq_true rfl) dX4_init_10 (fun H locs hP hD hS => ?_)
  have hP : va_P D vwCl [(h0, .inr (4, [.int 2, .null]))] H := hP
  have hD : va_D A [(h0, .inr (4, [.int 2, .null]))] := hD
  refine lv_aload_n hx hb dX4_init_13 rfl (lv_at hl 0 rfl) ?_
  refine lv_aload_n hx hb dX4_init_14 rfl (lv_at hl 0 rfl) ?_
  refine va_get (C := RX4) (T := TX4) (N := 2) hx hb hts (fun w hw => List.mem_cons_of_mem _ ((am_cls 4 RX4 TX4 2 rfl).1 w hw)) hown hK hP 0 rfl rfl 0 (by decide) (hts _ (List.mem_cons_of_mem _ (am_in 261 (by decide +kernel) rfl))) (fun _ h9 => h9) rfl dX4_init_15 ?_
  refine lv_bipush (v := 27) hx hb dX4_init_18 (by decide) ?_
  refine lv_imul hx hb dX4_init_20 ?_
  refine vb_newi (N' := 54) hx hb (hts _ (List.mem_cons_of_mem _ (am_in 140 (by decide +kernel) rfl))) hK hP hD hS hA (by decide) (by decide) (by decide) (Nat.le_of_ble_eq_true rfl) (Nat.le_of_ble_eq_true rfl) dX4_init_21 (fun q0 H hP hD hS => ?_)
  have hP : va_P D vwCl [(h0, .inr (4, [.int 2, .null])), (q0, .inl (cI, 54, .inl (fun _ => 0)))] H := hP
  have hD : va_D A [(h0, .inr (4, [.int 2, .null])), (q0, .inl (cI, 54, .inl (fun _ => 0)))] := hD
  refine W.widen (k := 1) (n := 54) (by omega) (by omega) ?_
  refine va_putF (D := D) (ci := 4) (v := .ref q0) (ty := .array .int) (C := RX4) (T := TX4) (N := 2) hx hb hts (fun w hw => List.mem_cons_of_mem _ ((am_cls 4 RX4 TX4 2 rfl).1 w hw)) tyX4 tyX4_ok nmX4 hown hK hP hD hS 0 rfl rfl 1 (by decide) (hts _ (List.mem_cons_of_mem _ (am_in 262 (by decide +kernel) rfl))) (fun _ h9 => h9) rfl hin rfl (by decide +kernel) rfl rfl (Nat.le_of_ble_eq_true rfl) dX4_init_23 (fun H locs hP hD hS => ?_)
  have hP : va_P D vwCl [(h0, .inr (4, [.int 2, .ref q0])), (q0, .inl (cI, 54, .inl (fun _ => 0)))] H := hP
  have hD : va_D A [(h0, .inr (4, [.int 2, .ref q0])), (q0, .inl (cI, 54, .inl (fun _ => 0)))] := hD
  exact W.vret hx hb hr (fun t ht hW => ⟨⟨(), rfl, trivial, q0, by rw [ht]; exact hP, hD⟩, hS.F ht⟩) hS.2.2 dX4_init_26
set_option maxHeartbeats 4000000 in
set_option maxRecDepth 100000 in
theorem in_X2 (l : Launch) (cI cZ : ClassId) (D : va_G) (h0 sz : Nat) : Met l yX2_init (Cond.code yX2_init cX2_init 1 none :: am_ALL) ({ frames := 3, cells := 2, slots := 542, locals := 160 }) (va_Pc [.ref h0] (in_pre cI cZ D [(h0, .inr (2, [.null, .int 0, .int 0]))] sz)) (va_Qv (fun _ : Unit => True) (fun _ t => ∃ (q0 q1 : Nat), va_P D vwCl [(h0, .inr (2, [.ref q0, .int 0, .int 0])), (q0, .inr (4, [.int 20, .ref q1])), (q1, .inl (cI, 540, .inl (fun _ => 0)))] t.heap ∧ va_D (va_A [(h0, .inr (2, [.null, .int 0, .int 0]))] sz) [(h0, .inr (2, [.ref q0, .int 0, .int 0])), (q0, .inr (4, [.int 20, .ref q1])), (q1, .inl (cI, 540, .inl (fun _ => 0)))]) (va_A [(h0, .inr (2, [.null, .int 0, .int 0]))] sz)) 2 542 (va_A [(h0, .inr (2, [.null, .int 0, .int 0]))] sz) := by
  refine Met.ofW (cc := cX2_init) (maxL := 1) (ret := none) (by decide) rfl ?_
  intro p e s m args below meth c s₁ B hml hv
  obtain ⟨rfl, hsz, hP, hK, hD0, hN⟩ := hv
  have hx := B.exec
  have hb := B.bytes
  have hr := B.returns
  have hts := atoms_spec (ws := Cond.code yX2_init cX2_init 1 none :: am_ALL) B.pre
  have hown : s.vm.findClass RX2 = some m.cls := findClass_of_methodNamed B.named
  have hin : meth.name = "<init>" := (name_of_methodNamed B.named B.method).1
  subst hsz
  have hD := hD0.self (sz := s.heap.size)
  generalize hAe : va_A [(h0, .inr (2, [.null, .int 0, .int 0]))] s.heap.size = A at hD ⊢
  have hA : ∀ q : Nat, s.heap.size ≤ q → A q := fun q h => by rw [← hAe]; exact Or.inr h
  have hS : va_S A s.heap s.heap [] := va_S.rf
  have hl := lv_entry ([.ref h0]) (n := 1) (Nat.le_of_ble_eq_true rfl)
  rw [lg_entry_eq]
  generalize (lg_sl ([.ref h0]) ++ List.replicate (1 - (lg_sl ([.ref h0])).length) Slot.unset).toArray = ls at hl ⊢
  have hl : lv_has ls 1 [(0, .ref h0)] := hl
  refine lv_aload_n hx hb dX2_init_0 rfl (lv_at hl 0 rfl) ?_
  refine W.objInit hx hb hown (hts _ (List.mem_cons_of_mem _ (am_in 251 (by decide +kernel) rfl))) (hts _ (List.mem_cons_of_mem _ (am_in 113 (by decide +kernel) rfl))) (hts _ (List.mem_cons_of_mem _ (am_in 114 rfl rfl))) rfl (by rw [hml]; exact hl.1) rfl dX2_init_1 (Nat.le_of_ble_eq_true rfl) (Nat.le_of_ble_eq_true rfl) ?_
  refine W.eq (g2 := F0 m 4 ls []) rfl ?_
  refine lv_aload_n hx hb dX2_init_4 rfl (lv_at hl 0 rfl) ?_
  refine va_new (ci := 4) (fs := [.int 0, .null]) (C := RX4) (T := TX4) (N := 2) hx hb hts (fun w hw => List.mem_cons_of_mem _ ((am_cls 4 RX4 TX4 2 rfl).1 w hw)) tyX4 tyX4_ok hown (hts _ (List.mem_cons_of_mem _ (am_in 252 (by decide +kernel) rfl))) (hts _ (List.mem_cons_of_mem _ (am_in 253 (by decide +kernel) rfl))) (hts _ (List.mem_cons_of_mem _ (am_in 100 (by decide +kernel) rfl))) hK hP hD hS hA rfl (fun j hj => by rcases (show j = 0 ∨ j = 1 by omega) with rfl | rfl <;> rfl) (Nat.le_of_ble_eq_true rfl) (Nat.le_of_ble_eq_true rfl) dX2_init_5 (fun q0 H hP hD hS => ?_)
  have hP : va_P D vwCl [(h0, .inr (2, [.null, .int 0, .int 0])), (q0, .inr (4, [.int 0, .null]))] H := hP
  have hD : va_D A [(h0, .inr (2, [.null, .int 0, .int 0])), (q0, .inr (4, [.int 0, .null]))] := hD
  refine W.widen (k := 1) (n := 2) (by omega) (by omega) ?_
  refine lv_dup hx hb dX2_init_8 rfl ?_
  refine lv_bipush (v := 20) hx hb dX2_init_9 (by decide) ?_
  have hPc := hP.sub (ws' := [(q0, .inr (4, [.int 0, .null]))]) [1] rfl
  have hDc := hD.sub (ws' := [(q0, .inr (4, [.int 0, .null]))]) [1] (by decide) rfl
  have hFc := va_free (wc := [(q0, .inr (4, [.int 0, .null]))]) hD hS hA [1] rfl
  refine va_callv (va_runIN (As := [.int 20]) (rest := [.ref q0, .ref h0]) ⟨hx, hb, hml, hown, hts⟩ (in_X4_20 l cI cZ D q0 H.size) ⟨va_cnB (host := RX6) 1 hts (am_good (am_in 256 rfl rfl)) rfl rfl rfl (hN _ (am_inN 254 (by decide +kernel) rfl)) (hts _ (List.mem_cons_of_mem _ (am_in 100 (by decide +kernel) rfl))) ⟨by decide +kernel, by decide +kernel, by decide +kernel⟩ ⟨(Nat.le_of_ble_eq_true rfl), (Nat.le_of_ble_eq_true rfl)⟩, rfl, hts _ (List.mem_cons_of_mem _ (am_in 255 (by decide +kernel) rfl))⟩ ⟨in_blind, fun U hU hW => ⟨rfl, by rw [hU], by rw [hU]; exact hPc, va_K.moved hW.alike hK, hDc.weaken (fun _ _ _ _ => trivial), am_warm hW hN⟩⟩ rfl rfl hl.1 rfl (lv_room (Nat.le_of_ble_eq_true rfl)) dX2_init_11 ⟨(Nat.le_of_ble_eq_true rfl), (Nat.le_of_ble_eq_true rfl)⟩) hS (fun q _ h => hFc q h) hFc (fun u t H1 locs ht hvm hw hB hz1 hk1 hS => ?_)
  obtain ⟨q1, hP1, hD1⟩ := hB
  rw [ht] at hP1
  obtain ⟨hP, hD⟩ := va_join (wr := [(h0, .inr (2, [.null, .int 0, .int 0]))]) (w1 := [(q0, .inr (4, [.int 20, .ref q1])), (q1, .inl (cI, 540, .inl (fun _ => 0)))]) hP hD [1] [0] rfl rfl (by decide) (by decide) hk1 hFc hP1 hD1
  generalize H1 = H at hP hS ⊢
  have hP : va_P D vwCl [(h0, .inr (2, [.null, .int 0, .int 0])), (q0, .inr (4, [.int 20, .ref q1])), (q1, .inl (cI, 540, .inl (fun _ => 0)))] H := hP
  have hD : va_D A [(h0, .inr (2, [.null, .int 0, .int 0])), (q0, .inr (4, [.int 20, .ref q1])), (q1, .inl (cI, 540, .inl (fun _ => 0)))] := hD
  refine W.widen (k := 2) (n := 542) (by omega) (by omega) ?_
  refine va_putF (D := D) (ci := 2) (v := .ref q0) (ty := .object "SwallowCount$Shelf") (C := RX2) (T := TX2) (N := 3) hx hb hts (fun w hw => List.mem_cons_of_mem _ ((am_cls 2 RX2 TX2 3 rfl).1 w hw)) tyX2 tyX2_ok nmX2 hown hK hP hD hS 0 rfl rfl 0 (by decide) (hts _ (List.mem_cons_of_mem _ (am_in 268 (by decide +kernel) rfl))) (fun _ h9 => h9) rfl hin rfl (by decide +kernel) rfl rfl (Nat.le_of_ble_eq_true rfl) dX2_init_14 (fun H locs hP hD hS => ?_)
  have hP : va_P D vwCl [(h0, .inr (2, [.ref q0, .int 0, .int 0])), (q0, .inr (4, [.int 20, .ref q1])), (q1, .inl (cI, 540, .inl (fun _ => 0)))] H := hP
  have hD : va_D A [(h0, .inr (2, [.ref q0, .int 0, .int 0])), (q0, .inr (4, [.int 20, .ref q1])), (q1, .inl (cI, 540, .inl (fun _ => 0)))] := hD
  exact W.vret hx hb hr (fun t ht hW => ⟨⟨(), rfl, trivial, q0, q1, by rw [ht]; exact hP, hD⟩, hS.F ht⟩) hS.2.2 dX2_init_17
