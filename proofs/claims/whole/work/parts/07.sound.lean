section AMT
variable {p : Program} {l : Launch} {e : Env} {R : Room} {s : State} {m : MethodId} {args : Array Value} {below : List Frame} {meth : Method} {c : Code} {Q : State → Prop} {cI cZ : ClassId} {D : va_G} {ad : Nat → Nat} {A : Nat → Prop} {H0 : Heap} {nL nC : Nat} {cc : ByteArray} {own : String}
/-- the words of the JDK's members -/
theorem am_wMax : Cond.static Lib.Math.max.name ∈ am_ALL ∧ Cond.initialized "java/lang/Math" ∈ am_ALL ∧ Cond.code Lib.Math.max.name Lib.Math.max.code 2 (some .int) ∈ am_ALL := ⟨am_in 259 (by decide +kernel) rfl, am_in 101 (by decide +kernel) rfl, am_in 260 (by decide +kernel) rfl⟩
theorem am_wMin : Cond.static Lib.Math.min.name ∈ am_ALL ∧ Cond.code Lib.Math.min.name Lib.Math.min.code 2 (some .int) ∈ am_ALL := ⟨am_in 477 (by decide +kernel) rfl, am_in 478 (by decide +kernel) rfl⟩
theorem am_wCpy : Cond.native arraycopyName ∈ am_ALL ∧ Cond.static arraycopyName ∈ am_ALL ∧ Cond.initialized "java/lang/System" ∈ am_ALL := ⟨am_in 414 (by decide +kernel) rfl, am_in 413 (by decide +kernel) rfl, am_in 104 (by decide +kernel) rfl⟩
theorem am_nfw : nativeFrameWords "java/lang/System" "arraycopy" 5 = 7 := by decide +kernel
set_option maxHeartbeats 4000000 in
set_option maxRecDepth 100000 in
theorem am_sound (F : am_Fix p R s m args c cI cZ D ad A nL nC cc own) {full : List am_I} {Γ : Nat → am_T} {rb rk : Bool} {Post : am_P}
    (hdec : ∀ e ∈ full, am_dec cc e) (hchk : am_chk rk nL full full = true) (hlk : ∀ e ∈ full, am_lk own e)
    (hV : ∀ pc idx x y w z, (pc, some (.invokevirtual idx), x, y, w, z) ∈ full → am_Rule p l e R s m args below meth c Q cI cZ D ad A H0 nL nC (Γ x) y pc (am_okV w))
    (hSt : ∀ pc idx x y w z, (pc, some (.invokestatic idx), x, y, w, z) ∈ full → ¬ x = 1000 → ¬ x = 1001 → ¬ x = 1002 → am_Rule p l e R s m args below meth c Q cI cZ D ad A H0 nL nC (Γ x) y pc (fun _ _ => True))
    (hri : rk = true → ∀ (v : Int32) (L : List am_SD) (σ : am_M) (H : Heap) (locs : List Loc) (pc : Nat) (ls : Array Slot), L.length = nC → va_P D vwCl (am_wl cI cZ ad L σ) H → va_S A H0 H locs → decode cc pc = .ok (.ireturn, 1) → (rb = true → v = 0 ∨ v = 1) → Post (some (.int v)) L σ → W p l e R s m args below meth c H locs 0 0 Q (F0 m pc ls [.int v]))
    (hrv : rk = false → ∀ (L : List am_SD) (σ : am_M) (H : Heap) (locs : List Loc) (pc : Nat) (ls : Array Slot), L.length = nC → va_P D vwCl (am_wl cI cZ ad L σ) H → va_S A H0 H locs → decode cc pc = .ok (.return_, 1) → Post none L σ → W p l e R s m args below meth c H locs 0 0 Q (F0 m pc ls [])) :
    ∀ (n i : Nat) (lv : am_L) (st : List Value) (L : List am_SD) (σ : am_M), am_wp full Γ rb Post (am_V p l e R s m args below meth c Q cI cZ D ad A H0 nL nC full) n (full.drop i) lv st L σ → am_V p l e R s m args below meth c Q cI cZ D ad A H0 nL nC full i lv st L σ := by
  intro n
  induction n with
  | zero => intro i lv st L σ h; exact h.elim
  | succ n ih =>
    intro i lv st L σ h
    cases hd : full.drop i with
    | nil => rw [hd] at h; exact h.elim
    | cons e0 r =>
      rw [hd] at h
      have hei : full[i]? = some e0 := by
        have h1 : (full.drop i)[0]? = some e0 := by rw [hd]; rfl
        rw [List.getElem?_drop] at h1
        exact h1
      have hr : full.drop (i + 1) = r := by rw [← List.drop_drop, hd]; rfl
      have hmem : e0 ∈ full := List.mem_of_getElem? hei
      have ck := am_chk_drop full i hchk
      rw [hd] at ck
      have hdc := hdec e0 hmem
      have hlc := hlk e0 hmem
      obtain ⟨pc, o, x, y, w, z⟩ := e0
      refine ⟨_, hei, ?_⟩
      intro H locs ls hlen hP hS hl
      have hj : ∀ (x' t : Nat) (lv' : am_L) (st' : List Value) (L' : List am_SD) (σ' : am_M), am_pcx full x' = some t → am_wp full Γ rb Post (am_V p l e R s m args below meth c Q cI cZ D ad A H0 nL nC full) n (full.drop x') lv' st' L' σ' → ∀ (H : Heap) (locs : List Loc) (ls : Array Slot), L'.length = nC → va_P D vwCl (am_wl cI cZ ad L' σ') H → va_S A H0 H locs → lv_has ls nL (am_prk ad 0 lv') → W p l e R s m args below meth c H locs 0 0 Q (F0 m t ls (st'.map (am_cv ad))) := by
        intro x' t lv' st' L' σ' ht hw H locs ls a1 a2 a3 a4
        obtain ⟨e1, he1, h2⟩ := ih x' lv' st' L' σ' hw
        rw [am_pcx_get, he1] at ht
        cases ht
        exact h2 H locs ls a1 a2 a3 a4
      cases o with
      | none =>
        have c1 : (am_pcx full x == some pc && am_chk rk nL full r) = true := ck
        rw [Bool.and_eq_true] at c1
        obtain ⟨e1, he1, h2⟩ := (h : am_V p l e R s m args below meth c Q cI cZ D ad A H0 nL nC full x (lv.take y) st L σ)
        have ht := beq_iff_eq.mp c1.1
        rw [am_pcx_get, he1] at ht
        cases ht
        exact h2 H locs ls hlen hP hS (am_has_take y hl)
      | some ins =>
        have c1 : ((am_chk1 rk nL full pc ins x z && (am_end ins || am_pcx r 0 == some (pc + am_len ins))) && am_chk rk nL full r) = true := ck
        rw [Bool.and_eq_true, Bool.and_eq_true, Bool.or_eq_true] at c1
        obtain ⟨⟨hc1, hnx⟩, -⟩ := c1
        obtain ⟨len, hdg, hlen0⟩ := (hdc : ∃ n, decode cc pc = .ok (ins, n) ∧ (am_isw ins = false → n = am_len ins))
        have hk : am_end ins = false → ∀ (lv' : am_L) (st' : List Value) (L' : List am_SD) (σ' : am_M), am_wp full Γ rb Post (am_V p l e R s m args below meth c Q cI cZ D ad A H0 nL nC full) n r lv' st' L' σ' → ∀ (H : Heap) (locs : List Loc) (ls : Array Slot), L'.length = nC → va_P D vwCl (am_wl cI cZ ad L' σ') H → va_S A H0 H locs → lv_has ls nL (am_prk ad 0 lv') → W p l e R s m args below meth c H locs 0 0 Q (F0 m (pc + am_len ins) ls (st'.map (am_cv ad))) := by
          intro he lv' st' L' σ' hw
          have hp : am_pcx full (i + 1) = some (pc + am_len ins) := by
            rcases hnx with q | q
            · rw [he] at q; cases q
            · have q := beq_iff_eq.mp q
              rw [am_pcx_get, ← hr, List.getElem?_drop] at q
              rw [am_pcx_get]
              exact q
          exact hj (i + 1) _ lv' st' L' σ' hp (by rw [hr]; exact hw)
        clear hnx ck hdec hchk ih
        have F0' := F
        obtain ⟨hx, hb, hml, hown, hts, hN, hK, hDA, hf1, hf2⟩ := F
        cases ins
        case aload_n i =>
          cases hlen0 rfl
          obtain ⟨v, hv, h⟩ := am_lda_inv h
          exact lv_aload_n hx hb hdg rfl (am_has_at hl hv) (hk rfl _ _ _ _ h H locs ls hlen hP hS hl)
        case aload i =>
          cases hlen0 rfl
          obtain ⟨v, hv, h⟩ := am_lda_inv h
          exact lv_aload hx hb hdg (am_has_at hl hv) (hk rfl _ _ _ _ h H locs ls hlen hP hS hl)
        case iload_n i =>
          cases hlen0 rfl
          obtain ⟨v, hv, h⟩ := am_ldi_inv h
          exact lv_iload_n hx hb hdg rfl (am_has_at hl hv) (hk rfl _ _ _ _ h H locs ls hlen hP hS hl)
        case iload i =>
          cases hlen0 rfl
          obtain ⟨v, hv, h⟩ := am_ldi_inv h
          exact lv_iload hx hb hdg (am_has_at hl hv) (hk rfl _ _ _ _ h H locs ls hlen hP hS hl)
        case lload_n i =>
          cases hlen0 rfl
          obtain ⟨v, hv, h⟩ := am_ldl_inv h
          exact lv_lload_n hx hb hdg rfl (am_has_at hl hv) (hk rfl _ _ _ _ h H locs ls hlen hP hS hl)
        case lload i =>
          cases hlen0 rfl
          obtain ⟨v, hv, h⟩ := am_ldl_inv h
          exact lv_lload hx hb hdg (am_has_at hl hv) (hk rfl _ _ _ _ h H locs ls hlen hP hS hl)
        case iconst i =>
          cases hlen0 rfl
          exact lv_iconst hx hb hdg (beq_iff_eq.mp hc1) (hk rfl _ _ _ _ h H locs ls hlen hP hS hl)
        case bipush i =>
          cases hlen0 rfl
          exact lv_bipush hx hb hdg (beq_iff_eq.mp hc1) (hk rfl _ _ _ _ h H locs ls hlen hP hS hl)
        case sipush i =>
          cases hlen0 rfl
          exact lv_sipush hx hb hdg (beq_iff_eq.mp hc1) (hk rfl _ _ _ _ h H locs ls hlen hP hS hl)
        case ldc i =>
          cases hlen0 rfl
          exact lv_ldc hx hb hown (hts _ hlc) hdg (hk rfl _ _ _ _ h H locs ls hlen hP hS hl)
        case ldc_w i =>
          cases hlen0 rfl
          exact lv_ldcw hx hb hown (hts _ hlc) hdg (hk rfl _ _ _ _ h H locs ls hlen hP hS hl)
        case lconst i =>
          cases hlen0 rfl
          exact lv_lconst hx hb hdg (by rw [show (i : Nat) = x from beq_iff_eq.mp hc1]; rfl) (hk rfl _ _ _ _ h H locs ls hlen hP hS hl)
        case ldc2_w i =>
          cases hlen0 rfl
          exact lv_ldc2 hx hb hown (hts _ hlc) hdg (hk rfl _ _ _ _ h H locs ls hlen hP hS hl)
        case istore_n i =>
          cases hlen0 rfl
          obtain ⟨v, r', rfl, h⟩ := am_pi_inv h
          obtain ⟨hc, h⟩ := am_stc_inv h
          exact lv_istore_n hx hb hdg rfl hl (of_decide_eq_true hc1) rfl (fun ls' hl' => hk rfl _ _ _ _ h H locs ls' hlen hP hS (am_has_set hc hl'))
        case istore i =>
          cases hlen0 rfl
          obtain ⟨v, r', rfl, h⟩ := am_pi_inv h
          obtain ⟨hc, h⟩ := am_stc_inv h
          exact lv_istore hx hb hdg hl (of_decide_eq_true hc1) rfl (fun ls' hl' => hk rfl _ _ _ _ h H locs ls' hlen hP hS (am_has_set hc hl'))
        case astore_n i =>
          cases hlen0 rfl
          obtain ⟨v, r', rfl, h⟩ := am_pr_inv h
          obtain ⟨hc, h⟩ := am_stc_inv h
          exact lv_astore_n hx hb hdg rfl hl (of_decide_eq_true hc1) rfl (fun ls' hl' => hk rfl _ _ _ _ h H locs ls' hlen hP hS (am_has_set hc hl'))
        case lstore_n i =>
          cases hlen0 rfl
          obtain ⟨v, r', rfl, h⟩ := am_pl_inv h
          obtain ⟨hc, h⟩ := am_stc_inv h
          exact lv_lstore_n hx hb hdg rfl hl (of_decide_eq_true hc1) rfl (fun ls' hl' => hk rfl _ _ _ _ h H locs ls' hlen hP hS (am_has_setL hc hl'))
        case iinc i k =>
          cases hlen0 rfl
          obtain ⟨v, hv, h⟩ := am_ldi_inv h
          obtain ⟨hc, h⟩ := am_stc_inv h
          obtain ⟨k0, hk0⟩ := am_has_ix (ad := ad) hv
          have hc1 : (Int32.ofInt k == z && decide (i < nL)) = true := hc1
          rw [Bool.and_eq_true] at hc1
          exact lv_iinc hx hb hdg hl hk0 (by rw [beq_iff_eq.mp hc1.1]) (of_decide_eq_true hc1.2) rfl (fun ls' hl' => hk rfl _ _ _ _ h H locs ls' hlen hP hS (am_has_set hc hl'))
        case iadd =>
          cases hlen0 rfl
          obtain ⟨a, b, r', rfl, h⟩ := am_pii_inv h
          exact lv_iadd hx hb hdg (hk rfl _ _ _ _ h H locs ls hlen hP hS hl)
        case isub =>
          cases hlen0 rfl
          obtain ⟨a, b, r', rfl, h⟩ := am_pii_inv h
          exact lv_isub hx hb hdg (hk rfl _ _ _ _ h H locs ls hlen hP hS hl)
        case imul =>
          cases hlen0 rfl
          obtain ⟨a, b, r', rfl, h⟩ := am_pii_inv h
          exact lv_imul hx hb hdg (hk rfl _ _ _ _ h H locs ls hlen hP hS hl)
        case iand =>
          cases hlen0 rfl
          obtain ⟨a, b, r', rfl, h⟩ := am_pii_inv h
          exact lv_iand hx hb hdg (hk rfl _ _ _ _ h H locs ls hlen hP hS hl)
        case ior =>
          cases hlen0 rfl
          obtain ⟨a, b, r', rfl, h⟩ := am_pii_inv h
          exact lv_ior hx hb hdg (hk rfl _ _ _ _ h H locs ls hlen hP hS hl)
        case ixor =>
          cases hlen0 rfl
          obtain ⟨a, b, r', rfl, h⟩ := am_pii_inv h
          exact lv_ixor hx hb hdg (hk rfl _ _ _ _ h H locs ls hlen hP hS hl)
        case ishl =>
          cases hlen0 rfl
          obtain ⟨a, b, r', rfl, h⟩ := am_pii_inv h
          exact lv_ishl hx hb hdg (hk rfl _ _ _ _ h H locs ls hlen hP hS hl)
        case ishr =>
          cases hlen0 rfl
          obtain ⟨a, b, r', rfl, h⟩ := am_pii_inv h
          exact lv_ishr hx hb hdg (hk rfl _ _ _ _ h H locs ls hlen hP hS hl)
        case iushr =>
          cases hlen0 rfl
          obtain ⟨a, b, r', rfl, h⟩ := am_pii_inv h
          exact lv_iushr hx hb hdg rfl (hk rfl _ _ _ _ h H locs ls hlen hP hS hl)
        case idiv =>
          cases hlen0 rfl
          obtain ⟨a, b, r', rfl, hne, h⟩ := am_pii_inv h
          exact lv_idiv hx hb hdg hne (hk rfl _ _ _ _ h H locs ls hlen hP hS hl)
        case irem =>
          cases hlen0 rfl
          obtain ⟨a, b, r', rfl, hne, h⟩ := am_pii_inv h
          exact lv_irem hx hb hdg hne (hk rfl _ _ _ _ h H locs ls hlen hP hS hl)
        case ineg =>
          cases hlen0 rfl
          obtain ⟨a, r', rfl, h⟩ := am_pi_inv h
          exact lv_ineg hx hb hdg (hk rfl _ _ _ _ h H locs ls hlen hP hS hl)
        case i2l =>
          cases hlen0 rfl
          obtain ⟨a, r', rfl, h⟩ := am_pi_inv h
          exact lv_i2l hx hb hdg rfl (hk rfl _ _ _ _ h H locs ls hlen hP hS hl)
        case l2i =>
          cases hlen0 rfl
          obtain ⟨a, r', rfl, h⟩ := am_pl_inv h
          exact lv_l2i hx hb hdg rfl (hk rfl _ _ _ _ h H locs ls hlen hP hS hl)
        case ladd =>
          cases hlen0 rfl
          obtain ⟨a, b, r', rfl, h⟩ := am_pll_inv h
          exact lv_ladd hx hb hdg (hk rfl _ _ _ _ h H locs ls hlen hP hS hl)
        case lmul =>
          cases hlen0 rfl
          obtain ⟨a, b, r', rfl, h⟩ := am_pll_inv h
          exact lv_lmul hx hb hdg (hk rfl _ _ _ _ h H locs ls hlen hP hS hl)
        case ldiv =>
          cases hlen0 rfl
          obtain ⟨a, b, r', rfl, hne, h⟩ := am_pll_inv h
          exact lv_ldiv hx hb hdg hne (hk rfl _ _ _ _ h H locs ls hlen hP hS hl)
        case lrem =>
          cases hlen0 rfl
          obtain ⟨a, b, r', rfl, hne, h⟩ := am_pll_inv h
          exact lv_lrem hx hb hdg hne (hk rfl _ _ _ _ h H locs ls hlen hP hS hl)
        case lcmp =>
          cases hlen0 rfl
          obtain ⟨a, b, r', rfl, h⟩ := am_pll_inv h
          exact W.lcmp hx hb hdg (hk rfl _ _ _ _ h H locs ls hlen hP hS hl)
        case dup =>
          cases hlen0 rfl
          obtain ⟨v, r', rfl, hc, h⟩ := am_dup_inv h
          exact lv_dup hx hb hdg (by rw [am_cv_cat]; exact hc) (hk rfl _ _ _ _ h H locs ls hlen hP hS hl)
        case pop =>
          cases hlen0 rfl
          obtain ⟨v, r', rfl, hc, h⟩ := am_dup_inv h
          exact lv_pop hx hb hdg (by rw [am_cv_cat]; exact hc) (hk rfl _ _ _ _ h H locs ls hlen hP hS hl)
        case dup2 =>
          cases hlen0 rfl
          obtain ⟨v, v', r', rfl, hc, hc', h⟩ := am_dup2_inv h
          exact lv_dup2_11 hx hb hdg (by rw [am_cv_cat]; exact hc) (by rw [am_cv_cat]; exact hc') (hk rfl _ _ _ _ h H locs ls hlen hP hS hl)
        case ifCond cnd off =>
          cases hlen0 rfl
          obtain ⟨q, hq, ht⟩ := am_jmp_inv (hc1 : am_jmp full x (pc + off) = true)
          obtain ⟨a, r', rfl, h⟩ := am_pi_inv h
          cases cnd
          · exact lv_if_eq hx hb hdg ht (fun cd => hj x q _ _ _ _ hq (h.1 cd) H locs ls hlen hP hS hl) (fun cd => hk rfl _ _ _ _ (h.2 cd) H locs ls hlen hP hS hl)
          · exact lv_if_ne hx hb hdg ht (fun cd => hj x q _ _ _ _ hq (h.1 cd) H locs ls hlen hP hS hl) (fun cd => hk rfl _ _ _ _ (h.2 cd) H locs ls hlen hP hS hl)
          · exact lv_if_lt hx hb hdg ht (fun cd => hj x q _ _ _ _ hq (h.1 cd) H locs ls hlen hP hS hl) (fun cd => hk rfl _ _ _ _ (h.2 cd) H locs ls hlen hP hS hl)
          · exact lv_if_ge hx hb hdg ht (fun cd => hj x q _ _ _ _ hq (h.1 cd) H locs ls hlen hP hS hl) (fun cd => hk rfl _ _ _ _ (h.2 cd) H locs ls hlen hP hS hl)
          · exact lv_if_gt hx hb hdg ht (fun cd => hj x q _ _ _ _ hq (h.1 cd) H locs ls hlen hP hS hl) (fun cd => hk rfl _ _ _ _ (h.2 cd) H locs ls hlen hP hS hl)
          · exact lv_if_le hx hb hdg ht (fun cd => hj x q _ _ _ _ hq (h.1 cd) H locs ls hlen hP hS hl) (fun cd => hk rfl _ _ _ _ (h.2 cd) H locs ls hlen hP hS hl)
        case if_icmp cnd off =>
          cases hlen0 rfl
          obtain ⟨q, hq, ht⟩ := am_jmp_inv (hc1 : am_jmp full x (pc + off) = true)
          obtain ⟨a, b, r', rfl, h⟩ := am_pii_inv h
          cases cnd
          · exact lv_icmp_eq hx hb hdg ht (fun cd => hj x q _ _ _ _ hq (h.1 cd) H locs ls hlen hP hS hl) (fun cd => hk rfl _ _ _ _ (h.2 cd) H locs ls hlen hP hS hl)
          · exact lv_icmp_ne hx hb hdg ht (fun cd => hj x q _ _ _ _ hq (h.1 cd) H locs ls hlen hP hS hl) (fun cd => hk rfl _ _ _ _ (h.2 cd) H locs ls hlen hP hS hl)
          · exact lv_icmp_lt hx hb hdg ht (fun cd => hj x q _ _ _ _ hq (h.1 cd) H locs ls hlen hP hS hl) (fun cd => hk rfl _ _ _ _ (h.2 cd) H locs ls hlen hP hS hl)
          · exact lv_icmp_ge hx hb hdg ht (fun cd => hj x q _ _ _ _ hq (h.1 cd) H locs ls hlen hP hS hl) (fun cd => hk rfl _ _ _ _ (h.2 cd) H locs ls hlen hP hS hl)
          · exact lv_icmp_gt hx hb hdg ht (fun cd => hj x q _ _ _ _ hq (h.1 cd) H locs ls hlen hP hS hl) (fun cd => hk rfl _ _ _ _ (h.2 cd) H locs ls hlen hP hS hl)
          · exact lv_icmp_le hx hb hdg ht (fun cd => hj x q _ _ _ _ hq (h.1 cd) H locs ls hlen hP hS hl) (fun cd => hk rfl _ _ _ _ (h.2 cd) H locs ls hlen hP hS hl)
        case goto off =>
          cases hlen0 rfl
          obtain ⟨q, hq, ht⟩ := am_jmp_inv (hc1 : am_jmp full x (pc + off) = true)
          exact lv_goto hx hb hdg ht (hj x q _ _ _ _ hq h H locs ls hlen hP hS hl)
        case getfield idx =>
          cases hlen0 rfl
          have h : am_getf L σ x y st (fun st' => am_wp full Γ rb Post (am_V p l e R s m args below meth c Q cI cZ D ad A H0 nL nC full) n r lv st' L σ) := h
          obtain ⟨a, r', fs, rfl, ha, ⟨ho, h⟩ | ⟨q, ho, h⟩⟩ := am_getf_inv h
          · exact am_getW F0' hlc hdg hP ha ho (hk rfl _ _ _ _ h H locs ls hlen hP hS hl)
          · exact am_getW F0' hlc hdg hP ha ho (hk rfl _ _ _ _ h H locs ls hlen hP hS hl)
        case putfield idx =>
          cases hlen0 rfl
          obtain ⟨hl1, hl2⟩ := (hlc : am_fl own idx x y ∧ am_fp x y w)
          rcases am_put_inv h with ⟨v, a, r', fs, rfl, hw0, ha, ho, h⟩ | ⟨q, a, r', fs, q0, rfl, hw0, ha, ho, h⟩
          · refine am_putW (v := .int v) F0' hl1 (fun C T N q => (hl2 C T N q).1) (fun C T N q => (hl2 C T N q).2.1 hw0) hdg hlen hP hS ha (List.getElem?_eq_some_iff.mp ho).1 rfl rfl (fun H1 locs1 hP1 hS1 => ?_)
            rw [am_fs_int ho] at hP1
            exact hk rfl _ _ _ _ h H1 locs1 ls hlen (by rw [← am_wl_up _ ha]; exact hP1) hS1 hl
          · have hy := (List.getElem?_eq_some_iff.mp ho).1
            obtain ⟨C, T, N, hc, -⟩ := id hl1
            obtain ⟨cl, hcl⟩ := (hl2 C T N hc).2.2 hw0
            refine am_putW (v := .ref (ad q)) F0' hl1 (fun C T N q => (hl2 C T N q).1) (fun C2 T2 N2 q => by rw [hc] at q; cases q; exact hcl) hdg hlen hP hS ha hy rfl rfl (fun H1 locs1 hP1 hS1 => ?_)
            rw [am_fs_ref hy] at hP1
            exact hk rfl _ _ _ _ h H1 locs1 ls (by simpa using hlen) (by rw [← am_wl_sh _ (List.getElem?_eq_some_iff.mp ha).1]; exact hP1) hS1 hl
        case iaload =>
          cases hlen0 rfl
          have h : am_ald L σ false st (fun st' => am_wp full Γ rb Post (am_V p l e R s m args below meth c Q cI cZ D ad A H0 nL nC full) n r lv st' L σ) := h
          obtain ⟨i', a, r', n', rfl, ha, hin, h⟩ := am_ald_inv h
          exact va_iald hx hb hK hP a 0 (by rw [am_wl_get, ha]; rfl) rfl hin hdg (hk rfl _ _ _ _ h H locs ls hlen hP hS hl)
        case baload =>
          cases hlen0 rfl
          have h : am_ald L σ true st (fun st' => am_wp full Γ rb Post (am_V p l e R s m args below meth c Q cI cZ D ad A H0 nL nC full) n r lv st' L σ) := h
          obtain ⟨i', a, r', n', rfl, ha, hin, h⟩ := am_ald_inv h
          exact va_zald hx hb hK hP a 1 (by rw [am_wl_get, ha]; rfl) rfl hin hdg (hk rfl _ _ _ _ h H locs ls hlen hP hS hl)
        case iastore =>
          cases hlen0 rfl
          obtain ⟨v, i', a, r', n', rfl, ha, hin, h⟩ := am_ast_inv h
          refine va_iast hx hb hK hP (hDA L σ hlen) hS a 0 (by rw [am_wl_get, ha]; rfl) rfl hin hdg (fun H1 locs1 hP1 _ hS1 => ?_)
          exact hk rfl _ _ _ _ h H1 locs1 ls hlen (by rw [← am_wl_up _ ha]; exact hP1) hS1 hl
        case bastore =>
          cases hlen0 rfl
          obtain ⟨v, i', a, r', n', rfl, ha, hin, h⟩ := am_ast_inv h
          refine va_zast hx hb hK hP (hDA L σ hlen) hS a 1 (by rw [am_wl_get, ha]; rfl) rfl hin hdg (fun H1 locs1 hP1 _ hS1 => ?_)
          exact hk rfl _ _ _ _ h H1 locs1 ls hlen (by rw [← am_wl_up _ ha]; exact hP1) hS1 hl
        case arraylength =>
          cases hlen0 rfl
          obtain ⟨a, r', rfl, h⟩ := am_pr_inv h
          obtain ⟨n', ha, h⟩ := am_arr_inv h
          exact va_alen (x := (n', .inl (σ a))) (v := nI n') hx hb hK hP a 0 (by rw [am_wl_get, ha]; rfl) rfl rfl hdg (hk rfl _ _ _ _ h H locs ls hlen hP hS hl)
        case tableswitch d lo hi offs =>
          have hc1 : (am_tgt full (pc + d) && (offs.toList.all (fun o => am_tgt full (pc + o)) && decide ((offs.toList.length : Int) = hi - lo + 1))) = true := hc1
          rw [Bool.and_eq_true, Bool.and_eq_true, List.all_eq_true] at hc1
          obtain ⟨t1, t2, t3⟩ := hc1
          have t3 := of_decide_eq_true t3
          obtain ⟨v, r', rfl, h1, h2⟩ := am_pi_inv h
          by_cases hout : v.toInt < lo ∨ hi < v.toInt
          · obtain ⟨q, hq, ht⟩ := am_tgt_inv t1
            exact lv_tableOut hx hb hdg hout ht (hj _ q _ _ _ _ hq (h1 hout) H locs ls hlen hP hS hl)
          · have n1 : ¬ v.toInt < lo := fun q => hout (Or.inl q)
            have n2 : ¬ hi < v.toInt := fun q => hout (Or.inr q)
            have hix : (v.toInt - lo).toNat < offs.toList.length := by omega
            have hov : offs.toList[(v.toInt - lo).toNat]? = some (offs.toList[(v.toInt - lo).toNat]) := List.getElem?_eq_getElem hix
            obtain ⟨q, hq, ht⟩ := am_tgt_inv (t2 _ (List.getElem_mem hix))
            have h3 := am_tsw_get _ _ _ _ h2 hov (by omega)
            exact lv_tableIn hx hb hdg n1 n2 (by rw [← Array.getElem?_toList]; exact hov) ht (hj _ q _ _ _ _ hq h3 H locs ls hlen hP hS hl)
        case lookupswitch d ps =>
          have hc1 : (am_tgt full (pc + d) && (ps.toList.all (fun o => am_tgt full (pc + o.2)) && (ps.toList.zip (ps.toList.drop 1)).all (fun (a, next) => a.1 < next.1))) = true := hc1
          rw [Bool.and_eq_true, Bool.and_eq_true, List.all_eq_true] at hc1
          obtain ⟨t1, t2, t3⟩ := hc1
          obtain ⟨v, r', rfl, h⟩ := am_pi_inv h
          obtain ⟨o, ho, h3, h4⟩ := am_lsw_get _ h
          have h5 : am_tgt full (pc + o) = true := by
            rcases h4 with rfl | ⟨q, hq, rfl⟩
            · exact t1
            · exact t2 q hq
          obtain ⟨q, hq, ht⟩ := am_tgt_inv h5
          exact lv_lookup hx hb hdg t3 ho ht (hj _ q _ _ _ _ hq h3 H locs ls hlen hP hS hl)
        case invokevirtual idx =>
          cases hlen0 rfl
          obtain ⟨bs, r', rfl, hy, hsh, hok, h⟩ := am_calV_inv h
          have h9 := hV pc idx x y w z hmem bs.reverse L σ r' _ H locs ls (by simpa using hy) hlen hP hS hl.1 hsh hok h (fun v L' σ' H' locs' hK1 hlen' hP' hS' => hk rfl _ _ _ _ hK1 H' locs' ls hlen' hP' hS' hl)
          rw [List.reverse_reverse] at h9
          exact h9
        case invokestatic idx =>
          cases hlen0 rfl
          obtain ⟨l1, l2, l3⟩ := (hlc : (x = 1000 → Cond.methodLink own idx Lib.Math.max.name ∈ am_ALL) ∧ (x = 1001 → Cond.methodLink own idx Lib.Math.min.name ∈ am_ALL) ∧ (x = 1002 → Cond.methodLink own idx arraycopyName ∈ am_ALL))
          rcases am_sta_inv h with ⟨hx0, a, b, r', rfl, hsh, h⟩ | ⟨hx0, a, b, r', rfl, hsh, h⟩ | ⟨hx0, h⟩ | ⟨⟨n1, n2, n3⟩, h⟩
          · exact va_mmax hx hb (by rw [hml, hl.1]) hown (hts _ (l1 hx0)) (hts _ am_wMax.1) (hts _ am_wMax.2.1) (hts _ am_wMax.2.2) hf1 (by have := am_short_sum ad hsh; omega) (Nat.zero_le _) (Nat.zero_le _) hdg (hk rfl _ _ _ _ h H locs ls hlen hP hS hl)
          · exact va_mmin hx hb (by rw [hml, hl.1]) hown (hts _ (l2 hx0)) (hts _ am_wMin.1) (hts _ am_wMax.2.1) (hts _ am_wMin.2) hf1 (by have := am_short_sum ad hsh; omega) (Nat.zero_le _) (Nat.zero_le _) hdg (hk rfl _ _ _ _ h H locs ls hlen hP hS hl)
          · obtain ⟨n', dp, b, sp, a, r', na, nb, rfl, hsh, ha, hb', ⟨q1, q2, q3, q4, q5⟩, h⟩ := am_cpyi_inv h
            refine va_copyi hx hb (by rw [hml, hl.1]) hown (hts _ (l3 hx0)) (hts _ am_wCpy.1) (hts _ am_wCpy.2.1) (hts _ am_wCpy.2.2) hK hP (hDA L σ hlen) hS a b 0 0 (by rw [am_wl_get, ha]; rfl) (by rw [am_wl_get, hb']; rfl) rfl rfl rfl q1 q2 q3 q4 q5 (fun _ _ => rfl) hf1 (by have := am_short_sum ad hsh; rw [am_nfw]; omega) hdg (fun H1 locs1 hP1 _ hS1 => ?_)
            exact hk rfl _ _ _ _ h H1 locs1 ls hlen (by rw [← am_wl_up _ hb']; exact hP1) hS1 hl
          · obtain ⟨bs, r', rfl, hy, hsh, h⟩ := am_cal_inv h
            have h9 := hSt pc idx x y w z hmem n1 n2 n3 bs.reverse L σ r' _ H locs ls (by simpa using hy) hlen hP hS hl.1 hsh trivial h (fun v L' σ' H' locs' hK1 hlen' hP' hS' => hk rfl _ _ _ _ hK1 H' locs' ls hlen' hP' hS' hl)
            rw [List.reverse_reverse] at h9
            exact h9
        case ireturn =>
          cases hlen0 rfl
          obtain ⟨v, rfl, h1, h⟩ := am_ret_inv h
          exact hri hc1 v L σ H locs pc ls hlen hP hS hdg h1 h
        case return_ =>
          cases hlen0 rfl
          obtain ⟨rfl, h⟩ := am_rev_inv h
          have hc2 : (!rk) = true := hc1
          exact hrv (by cases rk <;> first | rfl | cases hc2) L σ H locs pc ls hlen hP hS hdg h
        all_goals exact h.elim
end AMT
