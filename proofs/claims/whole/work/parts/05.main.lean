/-! what a method's table must keep -/
def am_len : Instr → Nat
  | .iload _ => 2
  | .aload _ => 2
  | .lload _ => 2
  | .istore _ => 2
  | .bipush _ => 2
  | .ldc _ => 2
  | .iinc .. => 3
  | .getfield _ => 3
  | .putfield _ => 3
  | .sipush _ => 3
  | .ldc_w _ => 3
  | .ldc2_w _ => 3
  | .ifCond .. => 3
  | .if_icmp .. => 3
  | .goto _ => 3
  | .invokevirtual _ => 3
  | .invokestatic _ => 3
  | _ => 1
def am_end : Instr → Bool
  | .goto _ => true
  | .ireturn => true
  | .return_ => true
  | .tableswitch .. => true
  | .lookupswitch .. => true
  | _ => false
def am_isw : Instr → Bool
  | .tableswitch .. => true
  | .lookupswitch .. => true
  | _ => false
def am_pcx : List am_I → Nat → Option Nat
  | [], _ => none
  | e :: _, 0 => some e.1
  | _ :: r, i + 1 => am_pcx r i
def am_tgt (full : List am_I) (t : Int) : Bool := match am_pcx full (am_ix full t) with
  | some q => (q : Int) == t
  | none => false
def am_jmp (full : List am_I) (x : Nat) (t : Int) : Bool := match am_pcx full x with
  | some q => (q : Int) == t
  | none => false
def am_chk1 (rk : Bool) (nL : Nat) (full : List am_I) (pc : Nat) (ins : Instr) (x : Nat) (z : Int32) : Bool := match ins with
  | .ifCond _ off => am_jmp full x (pc + off)
  | .if_icmp _ off => am_jmp full x (pc + off)
  | .goto off => am_jmp full x (pc + off)
  | .iconst n => Int32.ofInt n == z
  | .bipush n => (Int8.ofInt n).toInt32 == z
  | .sipush n => (Int16.ofInt n).toInt32 == z
  | .iinc i n => Int32.ofInt n == z && decide (i < nL)
  | .lconst n => n.val == x
  | .istore_n i => decide (i.val < nL)
  | .istore i => decide (i < nL)
  | .astore_n i => decide (i.val < nL)
  | .lstore_n i => decide (i.val + 1 < nL)
  | .tableswitch d lo hi offs => am_tgt full (pc + d) && (offs.toList.all (fun o => am_tgt full (pc + o)) && decide ((offs.toList.length : Int) = hi - lo + 1))
  | .lookupswitch d ps => am_tgt full (pc + d) && (ps.toList.all (fun o => am_tgt full (pc + o.2)) && (ps.toList.zip (ps.toList.drop 1)).all (fun (a, next) => a.1 < next.1))
  | .ireturn => rk
  | .return_ => !rk
  | _ => true
def am_chk (rk : Bool) (nL : Nat) (full : List am_I) : List am_I → Bool
  | [] => true
  | (pc, o, x, _, _, z) :: r => (match o with
    | none => am_pcx full x == some pc
    | some ins => am_chk1 rk nL full pc ins x z && (am_end ins || am_pcx r 0 == some (pc + am_len ins))) && am_chk rk nL full r
def am_dec (cc : ByteArray) (e : am_I) : Prop := match e.2.1 with
  | none => True
  | some ins => ∃ n, decode cc e.1 = .ok (ins, n) ∧ (am_isw ins = false → n = am_len ins)
def am_fl (own : String) (idx x y : Nat) : Prop := ∃ C T N, vwCl[x]? = some (C, T, N) ∧ y < N ∧ (Cond.fieldLink own idx (T y).1 (T y).2.1 (T y).2.2.1 ∈ am_ALL ∨ ∃ host, Cond.fieldLinkNest own idx (T y).1 (T y).2.1 (T y).2.2.1 host ∈ am_nest)
def am_fp (x y w : Nat) : Prop := ∀ C T N, vwCl[x]? = some (C, T, N) → (T y).2.2.2 = false ∧ (w = 0 → parseFieldDescriptor (T y).2.2.1 = some .int) ∧ (w = 1 → ∃ cl, parseFieldDescriptor (T y).2.2.1 = some (.object cl))
def am_lk (own : String) (e : am_I) : Prop := match e with
  | (_, some (.getfield idx), x, y, _, _) => am_fl own idx x y
  | (_, some (.putfield idx), x, y, w, _) => am_fl own idx x y ∧ am_fp x y w
  | (_, some (.ldc idx), _, _, _, z) => Cond.constant own idx z ∈ am_ALL
  | (_, some (.ldc_w idx), _, _, _, z) => Cond.constant own idx z ∈ am_ALL
  | (_, some (.ldc2_w idx), x, _, _, _) => Cond.constantLong own idx (lN x) ∈ am_ALL
  | (_, some (.invokestatic idx), x, _, _, _) => (x = 1000 → Cond.methodLink own idx Lib.Math.max.name ∈ am_ALL) ∧ (x = 1001 → Cond.methodLink own idx Lib.Math.min.name ∈ am_ALL) ∧ (x = 1002 → Cond.methodLink own idx arraycopyName ∈ am_ALL)
  | _ => True
theorem am_pcx_get : ∀ (l : List am_I) (i : Nat), am_pcx l i = (l[i]?).map (fun e => e.1)
  | [], i => by simp [am_pcx]
  | e :: r, 0 => by simp [am_pcx]
  | e :: r, i + 1 => by rw [List.getElem?_cons_succ]; exact am_pcx_get r i
theorem am_jmp_inv {full : List am_I} {x : Nat} {t : Int} (h : am_jmp full x t = true) : ∃ q : Nat, am_pcx full x = some q ∧ t = (q : Int) := by
  unfold am_jmp at h; split at h
  · rename_i q hq; exact ⟨q, hq, (beq_iff_eq.mp h).symm⟩
  · cases h
theorem am_tgt_inv {full : List am_I} {t : Int} (h : am_tgt full t = true) : ∃ q : Nat, am_pcx full (am_ix full t) = some q ∧ t = (q : Int) := by
  unfold am_tgt at h; split at h
  · rename_i q hq; exact ⟨q, hq, (beq_iff_eq.mp h).symm⟩
  · cases h
theorem am_chk_drop {rk : Bool} {nL : Nat} {full : List am_I} : ∀ (l : List am_I) (i : Nat), am_chk rk nL full l = true → am_chk rk nL full (l.drop i) = true
  | [], i, h => by simp [am_chk]
  | e :: r, 0, h => h
  | (pc, o, x, y, w, z) :: r, i + 1, h => by
    rw [List.drop_succ_cons]
    have h2 : (_ && am_chk rk nL full r) = true := h
    rw [Bool.and_eq_true] at h2
    exact am_chk_drop r i h2.2
/-- where the machine is: at the i-th row of the table -/
def am_V (p : Program) (l : Launch) (e : Env) (R : Room) (s : State) (m : MethodId) (args : Array Value) (below : List Frame) (meth : Method) (c : Code) (Q : State → Prop) (cI cZ : ClassId) (D : va_G) (ad : Nat → Nat) (A : Nat → Prop) (H0 : Heap) (nL nC : Nat) (full : List am_I) : am_W := fun i lv st L σ =>
  ∃ ei, full[i]? = some ei ∧ ∀ (H : Heap) (locs : List Loc) (ls : Array Slot), L.length = nC → va_P D vwCl (am_wl cI cZ ad L σ) H → va_S A H0 H locs → lv_has ls nL (am_prk ad 0 lv) → W p l e R s m args below meth c H locs 0 0 Q (F0 m ei.1 ls (st.map (am_cv ad)))
/-- a call, as a rule -/
def am_Rule (p : Program) (l : Launch) (e : Env) (R : Room) (s : State) (m : MethodId) (args : Array Value) (below : List Frame) (meth : Method) (c : Code) (Q : State → Prop) (cI cZ : ClassId) (D : va_G) (ad : Nat → Nat) (A : Nat → Prop) (H0 : Heap) (nL nC : Nat) (tr : am_T) (y pc : Nat) (ok : List Value → List am_SD → Prop) : Prop :=
  ∀ (as : List Value) (L : List am_SD) (σ : am_M) (rest : List Value) (K : am_P) (H : Heap) (locs : List Loc) (ls : Array Slot), as.length = y → L.length = nC → va_P D vwCl (am_wl cI cZ ad L σ) H → va_S A H0 H locs → ls.size = nL → am_short rest = true → ok as L → tr as L σ K →
    (∀ (v : Option Value) (L' : List am_SD) (σ' : am_M) (H' : Heap) (locs' : List Loc), K v L' σ' → L'.length = nC → va_P D vwCl (am_wl cI cZ ad L' σ') H' → va_S A H0 H' locs' → W p l e R s m args below meth c H' locs' 0 0 Q (F0 m (pc + 3) ls ((am_push v rest).map (am_cv ad)))) →
    W p l e R s m args below meth c H locs 0 0 Q (F0 m pc ls ((as.reverse ++ rest).map (am_cv ad)))
def am_okV (w : Nat) (as : List Value) (L : List am_SD) : Prop := ∃ b t fs, as = .ref b :: t ∧ L[b]? = some (.inr (w, fs))
theorem am_cls : ∀ (x : Nat) (C : String) (T : u_T) (N : Nat), vwCl[x]? = some (C, T, N) → (∀ w ∈ u_ws C T N, w ∈ am_ALL) ∧ (∃ ty0 : Nat → FieldType, ∀ k, k < N → parseFieldDescriptor (T k).2.2.1 = some (ty0 k)) ∧ (∀ a, a < N → ∀ b, b < N → a ≠ b → (T a).2.1 ≠ (T b).2.1) := by
  have key : ∀ ws : List Cond, ws.all (fun w => decide (w ∈ lw_tbl) && goodWord w) = true → ∀ w ∈ ws, w ∈ am_ALL := by
    intro ws h w hw
    have h1 := List.all_eq_true.mp h w hw
    simp only [Bool.and_eq_true, decide_eq_true_eq] at h1
    exact List.mem_filter.mpr h1
  intro x C T N h
  match x, h with
  | 0, h => cases h; exact ⟨key _ (by decide +kernel), ⟨_, tyX0_ok⟩, nmX0⟩
  | 1, h => cases h; exact ⟨key _ (by decide +kernel), ⟨_, tyX1_ok⟩, nmX1⟩
  | 2, h => cases h; exact ⟨key _ (by decide +kernel), ⟨_, tyX2_ok⟩, nmX2⟩
  | 3, h => cases h; exact ⟨key _ (by decide +kernel), ⟨_, tyX3_ok⟩, nmX3⟩
  | 4, h => cases h; exact ⟨key _ (by decide +kernel), ⟨_, tyX4_ok⟩, nmX4⟩
  | 5, h => cases h; exact ⟨key _ (by decide +kernel), ⟨_, tyX5_ok⟩, nmX5⟩
  | 6, h => cases h; exact ⟨key _ (by decide +kernel), ⟨_, tyX6_ok⟩, nmX6⟩
  | 7, h => cases h; exact ⟨key _ (by decide +kernel), ⟨_, tyX7_ok⟩, nmX7⟩
  | x + 8, h => simp [vwCl] at h
