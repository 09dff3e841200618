/-! THE LITTLE MACHINE: a method's bytecode as a list, its run as a condition (am_wp) over a memory of numbers. A cell has a PLACE; a reference is a place; am_M gives the int at (place, index). -/
abbrev am_SD : Type := (Nat × Bool) ⊕ (Nat × List (Option Nat))
abbrev am_M : Type := Nat → Nat → Int32
abbrev am_L : Type := List (Option Value)
abbrev am_I : Type := Nat × Option Instr × Nat × Nat × Nat × Int32
abbrev am_P : Type := Option Value → List am_SD → am_M → Prop
abbrev am_T : Type := List Value → List am_SD → am_M → am_P → Prop
abbrev am_W : Type := Nat → am_L → List Value → List am_SD → am_M → Prop
def am_up (σ : am_M) (p : Nat) (f : Nat → Int32) : am_M := fun q => if q = p then f else σ q
def am_set : am_L → Nat → Option Value → am_L
  | [], 0, o => [o]
  | [], i + 1, o => none :: am_set [] i o
  | _ :: t, 0, o => o :: t
  | h :: t, i + 1, o => h :: am_set t i o
def am_nth : am_L → Nat → Option Value
  | [], _ => none
  | o :: _, 0 => o
  | _ :: t, i + 1 => am_nth t i
def am_sh : List am_SD → Nat → Option am_SD
  | [], _ => none
  | d :: _, 0 => some d
  | _ :: t, i + 1 => am_sh t i
def am_fd : List (Option Nat) → Nat → Option (Option Nat)
  | [], _ => none
  | d :: _, 0 => some d
  | _ :: t, i + 1 => am_fd t i
def am_lv0 : List Value → am_L
  | [] => []
  | .long v :: t => some (.long v) :: none :: am_lv0 t
  | .double v :: t => some (.double v) :: none :: am_lv0 t
  | v :: t => some v :: am_lv0 t
def am_push (r : Option Value) (st : List Value) : List Value := match r with
  | none => st
  | some v => v :: st
def am_pi (st : List Value) (f : Int32 → List Value → Prop) : Prop := match st with
  | .int v :: r => f v r
  | _ => False
def am_pii (st : List Value) (f : Int32 → Int32 → List Value → Prop) : Prop := match st with
  | .int b :: .int a :: r => f a b r
  | _ => False
def am_pl (st : List Value) (f : Int64 → List Value → Prop) : Prop := match st with
  | .long v :: r => f v r
  | _ => False
def am_pll (st : List Value) (f : Int64 → Int64 → List Value → Prop) : Prop := match st with
  | .long b :: .long a :: r => f a b r
  | _ => False
def am_pr (st : List Value) (f : Nat → List Value → Prop) : Prop := match st with
  | .ref p :: r => f p r
  | _ => False
def am_ldi (lv : am_L) (i : Nat) (f : Int32 → Prop) : Prop := match am_nth lv i with
  | some (.int v) => f v
  | _ => False
def am_ldl (lv : am_L) (i : Nat) (f : Int64 → Prop) : Prop := match am_nth lv i with
  | some (.long v) => f v
  | _ => False
def am_lda (lv : am_L) (i : Nat) (f : Nat → Prop) : Prop := match am_nth lv i with
  | some (.ref v) => f v
  | _ => False
/-- no long stands just ahead of the local i -/
def am_stc (lv : am_L) (i : Nat) (k : Prop) : Prop := match am_nth lv (i - 1) with
  | some (.long _) => False
  | some (.double _) => False
  | _ => k
def am_obj (L : List am_SD) (p ci : Nat) (f : List (Option Nat) → Prop) : Prop := match am_sh L p with
  | some (.inr (c, fs)) => if c = ci then f fs else False
  | _ => False
def am_arr (L : List am_SD) (p : Nat) (z : Bool) (f : Nat → Prop) : Prop := match am_sh L p with
  | some (.inl (n, z')) => if z' = z then f n else False
  | _ => False
def am_if (c : ClassFile.Cond) (a b : Int32) (T F : Prop) : Prop := match c with
  | .eq => (a = b → T) ∧ (¬ a = b → F)
  | .ne => (¬ a = b → T) ∧ (a = b → F)
  | .lt => (a < b → T) ∧ (¬ a < b → F)
  | .ge => (b ≤ a → T) ∧ (¬ b ≤ a → F)
  | .gt => (b < a → T) ∧ (¬ b < a → F)
  | .le => (a ≤ b → T) ∧ (¬ a ≤ b → F)
def am_tsw (j : Int → Prop) (v : Int) : Int → List Int → Prop
  | _, [] => True
  | a, o :: r => (v = a → j o) ∧ am_tsw j v (a + 1) r
def am_lsw (j : Int → Prop) (v : Int) (d : Int) : List (Int × Int) → Prop
  | [] => j d
  | (a, o) :: r => (v = a → j o) ∧ (¬ v = a → am_lsw j v d r)
def am_ix : List am_I → Int → Nat
  | [], _ => 0
  | e :: r, t => if (e.1 : Int) = t then 0 else am_ix r t + 1
def am_c1 : Value → Bool
  | .int _ => true
  | .ref _ => true
  | _ => false
def am_dup (st : List Value) (f : Value → List Value → Prop) : Prop := match st with
  | v :: r => bif am_c1 v then f v r else False
  | _ => False
def am_dup2 (st : List Value) (f : Value → Value → List Value → Prop) : Prop := match st with
  | a :: b :: r => bif am_c1 a && am_c1 b then f a b r else False
  | _ => False
def am_short : List Value → Bool
  | [] => true
  | [_] => true
  | [_, _] => true
  | [_, _, _] => true
  | [_, _, _, _] => true
  | _ => false
/-- the arguments, the first pushed first, and what is left of the stack -/
def am_tk : Nat → List Value → List Value → (List Value → List Value → Prop) → Prop
  | 0, as, st, f => f as st
  | n + 1, as, v :: st, f => am_tk n (v :: as) st f
  | _ + 1, _, [], _ => False
def am_cal (tr : am_T) (L : List am_SD) (σ : am_M) (y : Nat) (st : List Value) (k : List Value → List am_SD → am_M → Prop) : Prop :=
  am_tk y [] st (fun as r => bif am_short r then tr as L σ (fun v L' σ' => k (am_push v r) L' σ') else False)
def am_calV (tr : am_T) (L : List am_SD) (σ : am_M) (y w : Nat) (st : List Value) (k : List Value → List am_SD → am_M → Prop) : Prop :=
  am_tk y [] st (fun as r => bif am_short r then (match as with
    | .ref p :: _ => am_obj L p w (fun _ => tr as L σ (fun v L' σ' => k (am_push v r) L' σ'))
    | _ => False) else False)
def am_cpyi (L : List am_SD) (σ : am_M) (st : List Value) (k : List Value → am_M → Prop) : Prop := match st with
  | .int n :: .int dp :: .ref b :: .int sp :: .ref a :: r => bif am_short r then (am_arr L a false (fun na => am_arr L b false (fun nb =>
      (¬ sp < 0 ∧ ¬ dp < 0 ∧ ¬ n < 0 ∧ sp.toNatClampNeg + n.toNatClampNeg ≤ na ∧ dp.toNatClampNeg + n.toNatClampNeg ≤ nb) ∧ k r (am_up σ b (va_cpy (σ a) (σ b) sp.toNatClampNeg dp.toNatClampNeg n.toNatClampNeg))))) else False
  | _ => False
/-- x = 1000: Math.max, 1001: Math.min, 1002: System.arraycopy; else the x-th of the callees -/
def am_sta (Γ : Nat → am_T) (lv : am_L) (L : List am_SD) (σ : am_M) (x y : Nat) (st : List Value) (k : am_L → List Value → List am_SD → am_M → Prop) : Prop :=
  if x = 1000 then am_pii st (fun a b r => bif am_short r then k lv (.int (if a < b then b else a) :: r) L σ else False)
  else if x = 1001 then am_pii st (fun a b r => bif am_short r then k lv (.int (if b < a then b else a) :: r) L σ else False)
  else if x = 1002 then am_cpyi L σ st (fun r σ' => k lv r L σ')
  else am_cal (Γ x) L σ y st (fun st' L' σ' => k lv st' L' σ')
def am_put (L : List am_SD) (σ : am_M) (x y w : Nat) (st : List Value) (k : List Value → List am_SD → am_M → Prop) : Prop := match st with
  | .int v :: .ref p :: r => if w = 0 then am_obj L p x (fun fs => match am_fd fs y with
    | some none => k r L (am_up σ p (upd (σ p) y v))
    | _ => False) else False
  | .ref q :: .ref p :: r => if w = 1 then am_obj L p x (fun fs => match am_fd fs y with
    | some (some _) => k r (L.set p (.inr (x, fs.set y (some q)))) σ
    | _ => False) else False
  | _ => False
def am_getf (L : List am_SD) (σ : am_M) (x y : Nat) (st : List Value) (k : List Value → Prop) : Prop := match st with
  | .ref p :: r => am_obj L p x (fun fs => match am_fd fs y with
    | some none => k (.int (σ p y) :: r)
    | some (some q) => k (.ref q :: r)
    | none => False)
  | _ => False
def am_ald (L : List am_SD) (σ : am_M) (z : Bool) (st : List Value) (k : List Value → Prop) : Prop := match st with
  | .int i :: .ref p :: r => am_arr L p z (fun n => vp_in i n ∧ k (.int (σ p i.toNatClampNeg) :: r))
  | _ => False
def am_ast (L : List am_SD) (σ : am_M) (z : Bool) (st : List Value) (k : List Value → am_M → Prop) : Prop := match st with
  | .int v :: .int i :: .ref p :: r => am_arr L p z (fun n => vp_in i n ∧ k r (am_up σ p (upd (σ p) i.toNatClampNeg (bif z then vp_nar .boolean v else v))))
  | _ => False
def am_ret (rb : Bool) (Post : am_P) (st : List Value) (L : List am_SD) (σ : am_M) : Prop := match st with
  | [.int v] => bif rb then ((v = 0 ∨ v = 1) ∧ Post (some (.int v)) L σ) else Post (some (.int v)) L σ
  | _ => False
def am_rev (Post : am_P) (st : List Value) (L : List am_SD) (σ : am_M) : Prop := match st with
  | [] => Post none L σ
  | _ => False
def am_step (Γ : Nat → am_T) (rb : Bool) (Post : am_P) (j : Nat → am_L → List Value → List am_SD → am_M → Prop) (k : am_L → List Value → List am_SD → am_M → Prop) (ix : Int → Nat) (pc : Nat) (ins : Instr) (x y w : Nat) (z : Int32) (lv : am_L) (st : List Value) (L : List am_SD) (σ : am_M) : Prop :=
  match ins with
  | .aload_n i => am_lda lv i.val (fun v => k lv (.ref v :: st) L σ)
  | .aload i => am_lda lv i (fun v => k lv (.ref v :: st) L σ)
  | .iload_n i => am_ldi lv i.val (fun v => k lv (.int v :: st) L σ)
  | .iload i => am_ldi lv i (fun v => k lv (.int v :: st) L σ)
  | .lload_n i => am_ldl lv i.val (fun v => k lv (.long v :: st) L σ)
  | .lload i => am_ldl lv i (fun v => k lv (.long v :: st) L σ)
  | .getfield _ => am_getf L σ x y st (fun st' => k lv st' L σ)
  | .putfield _ => am_put L σ x y w st (fun st' L' σ' => k lv st' L' σ')
  | .iconst _ => k lv (.int z :: st) L σ
  | .bipush _ => k lv (.int z :: st) L σ
  | .sipush _ => k lv (.int z :: st) L σ
  | .ldc _ => k lv (.int z :: st) L σ
  | .ldc_w _ => k lv (.int z :: st) L σ
  | .lconst _ => k lv (.long (lN x) :: st) L σ
  | .ldc2_w _ => k lv (.long (lN x) :: st) L σ
  | .istore_n i => am_pi st (fun v r => am_stc lv i.val (k (am_set lv i.val (some (.int v))) r L σ))
  | .istore i => am_pi st (fun v r => am_stc lv i (k (am_set lv i (some (.int v))) r L σ))
  | .astore_n i => am_pr st (fun v r => am_stc lv i.val (k (am_set lv i.val (some (.ref v))) r L σ))
  | .lstore_n i => am_pl st (fun v r => am_stc lv i.val (k (am_set (am_set lv i.val (some (.long v))) (i.val + 1) none) r L σ))
  | .iinc i _ => am_ldi lv i (fun v => am_stc lv i (k (am_set lv i (some (.int (v + z)))) st L σ))
  | .iadd => am_pii st (fun a b r => k lv (.int (a + b) :: r) L σ)
  | .isub => am_pii st (fun a b r => k lv (.int (a - b) :: r) L σ)
  | .imul => am_pii st (fun a b r => k lv (.int (a * b) :: r) L σ)
  | .idiv => am_pii st (fun a b r => ¬ b = 0 ∧ k lv (.int (a / b) :: r) L σ)
  | .irem => am_pii st (fun a b r => ¬ b = 0 ∧ k lv (.int (a - a / b * b) :: r) L σ)
  | .iand => am_pii st (fun a b r => k lv (.int (a &&& b) :: r) L σ)
  | .ior => am_pii st (fun a b r => k lv (.int (a ||| b) :: r) L σ)
  | .ixor => am_pii st (fun a b r => k lv (.int (a ^^^ b) :: r) L σ)
  | .ishl => am_pii st (fun a b r => k lv (.int (a <<< (b &&& 31)) :: r) L σ)
  | .ishr => am_pii st (fun a b r => k lv (.int (a >>> (b &&& 31)) :: r) L σ)
  | .iushr => am_pii st (fun a b r => k lv (.int (a.toUInt32 >>> (b.toUInt32 &&& Int32.toUInt32 31)).toInt32 :: r) L σ)
  | .ineg => am_pi st (fun a r => k lv (.int (-a) :: r) L σ)
  | .i2l => am_pi st (fun a r => k lv (.long a.toInt64 :: r) L σ)
  | .l2i => am_pl st (fun a r => k lv (.int a.toInt32 :: r) L σ)
  | .ladd => am_pll st (fun a b r => k lv (.long (a + b) :: r) L σ)
  | .lmul => am_pll st (fun a b r => k lv (.long (a * b) :: r) L σ)
  | .ldiv => am_pll st (fun a b r => ¬ b = 0 ∧ k lv (.long (a / b) :: r) L σ)
  | .lrem => am_pll st (fun a b r => ¬ b = 0 ∧ k lv (.long (a - a / b * b) :: r) L σ)
  | .lcmp => am_pll st (fun a b r => k lv (.int (lg_cmp a b) :: r) L σ)
  | .dup => am_dup st (fun v r => k lv (v :: v :: r) L σ)
  | .pop => am_dup st (fun _ r => k lv r L σ)
  | .dup2 => am_dup2 st (fun a b r => k lv (a :: b :: a :: b :: r) L σ)
  | .ifCond c _ => am_pi st (fun v r => am_if c v 0 (j x lv r L σ) (k lv r L σ))
  | .if_icmp c _ => am_pii st (fun a b r => am_if c a b (j x lv r L σ) (k lv r L σ))
  | .goto _ => j x lv st L σ
  | .iaload => am_ald L σ false st (fun st' => k lv st' L σ)
  | .baload => am_ald L σ true st (fun st' => k lv st' L σ)
  | .iastore => am_ast L σ false st (fun st' σ' => k lv st' L σ')
  | .bastore => am_ast L σ true st (fun st' σ' => k lv st' L σ')
  | .arraylength => am_pr st (fun p r => am_arr L p false (fun n => k lv (.int (nI n) :: r) L σ))
  | .tableswitch d lo hi offs => am_pi st (fun v r => (v.toInt < lo ∨ hi < v.toInt → j (ix (pc + d)) lv r L σ) ∧ am_tsw (fun o => j (ix (pc + o)) lv r L σ) v.toInt lo offs.toList)
  | .lookupswitch d ps => am_pi st (fun v r => am_lsw (fun o => j (ix (pc + o)) lv r L σ) v.toInt d ps.toList)
  | .invokevirtual _ => am_calV (Γ x) L σ y w st (fun st' L' σ' => k lv st' L' σ')
  | .invokestatic _ => am_sta Γ lv L σ x y st k
  | .ireturn => am_ret rb Post st L σ
  | .return_ => am_rev Post st L σ
  | _ => False
def am_wp (full : List am_I) (Γ : Nat → am_T) (rb : Bool) (Post : am_P) (WW : am_W) : Nat → List am_I → am_L → List Value → List am_SD → am_M → Prop
  | 0, _, _, _, _, _ => False
  | _ + 1, [], _, _, _, _ => False
  | n + 1, (pc, o, x, y, w, z) :: r, lv, st, L, σ =>
    match o with
    | none => WW x (lv.take y) st L σ
    | some ins => am_step Γ rb Post (fun i => am_wp full Γ rb Post WW n (full.drop i)) (am_wp full Γ rb Post WW n r) (am_ix full) pc ins x y w z lv st L σ
/-! the memory as cells -/
def am_cv (ad : Nat → Nat) : Value → Value
  | .ref p => .ref (ad p)
  | v => v
def am_fv (ad : Nat → Nat) (f : Nat → Int32) (k : Nat) : Option Nat → Value
  | none => .int (f k)
  | some q => .ref (ad q)
def am_wc (cI cZ : ClassId) (ad : Nat → Nat) (f : Nat → Int32) : am_SD → va_E
  | .inl (n, z) => .inl (bif z then cZ else cI, n, .inl f)
  | .inr (ci, fs) => .inr (ci, fs.mapIdx (am_fv ad f))
def am_wl (cI cZ : ClassId) (ad : Nat → Nat) (L : List am_SD) (σ : am_M) : va_W := L.mapIdx (fun p d => (ad p, am_wc cI cZ ad (σ p) d))
def am_prk (ad : Nat → Nat) : Nat → am_L → List (Nat × Value)
  | _, [] => []
  | k, none :: t => am_prk ad (k + 1) t
  | k, some v :: t => (k, am_cv ad v) :: am_prk ad (k + 1) t
/-! the words that every method has, and those of nest mates -/
def am_ALL : List Cond := lw_tbl.filter goodWord
def am_isN : Cond → Bool
  | .fieldLinkNest .. => true
  | .methodLinkNest .. => true
  | _ => false
def am_nest : List Cond := lw_tbl.filter am_isN
theorem am_in {w : Cond} (i : Nat) (h : lw_tbl[i]? = some w) (hg : goodWord w = true) : w ∈ am_ALL := List.mem_filter.mpr ⟨List.mem_of_getElem? h, hg⟩
theorem am_inN {w : Cond} (i : Nat) (h : lw_tbl[i]? = some w) (hg : am_isN w = true) : w ∈ am_nest := List.mem_filter.mpr ⟨List.mem_of_getElem? h, hg⟩
theorem am_good {c1 c2 : Cond} (h : c2 ∈ am_ALL) : GoodIn (c1 :: am_ALL) (c2 :: am_ALL) := by
  intro w hw
  have hm : w ∈ am_ALL := by
    rcases List.mem_cons.mp hw with rfl | hw
    · exact h
    · exact hw
  exact ⟨List.mem_cons_of_mem _ hm, good_of_word (List.mem_filter.mp hm).2⟩
theorem am_warm {s U : State} (hW : s.WarmedH U.vm) (h : ∀ w ∈ am_nest, va_Nw w s) : ∀ w ∈ am_nest, va_Nw w U := by
  intro w hw
  have h1 := h w hw
  have h2 := (List.mem_filter.mp hw).2
  cases w <;> first | exact va_Nw.warmF hW h1 | exact va_Nw.warmM hW h1 | (exfalso; revert h2; simp [am_isN])
