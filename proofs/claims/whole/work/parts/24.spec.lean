/-! WHAT EACH CALL ANSWERS AND DOES, in numbers: (answer, next state) -/
def trC (as0 : List Value) (A : sw_A) (q : Int32 × sw_A) : am_T := fun as L σ post => as = as0 ∧ L = LC ∧ RC A σ ∧ ∀ σ', RC q.2 σ' → post (some (.int q.1)) LC σ'
def trM (as0 : List Value) (A : sw_A) (q : Int32 × sw_A) : am_T := fun as L σ post => as = as0 ∧ L = LM ∧ RM A σ ∧ ∀ σ', RM q.2 σ' → post (some (.int q.1)) LM σ'
def st_feed (A : sw_A) (x : Int32) : Int32 × sw_A := match A with
  | ((tl, tx, fp), P) => match sw_ix x 0 256 with
    | none => (-1000000002, A)
    | some j => if tl = 240 then (-1000000004, A) else (nI (tl + 1), ((tl + 1, va_up tx tl j, fp), P))
def st_fault (A : sw_A) : Int32 × sw_A := (A.1.2.2, A)
def st_told (A : sw_A) (x : Int32) : Int32 × sw_A := match A with
  | ((tl, _, _), (cn, st, mn, m, _, _, _, R, rn), F, _, U, _, E1, E2, E3) => match sw_ix x 0 15 with
    | none => (-1000000002, A)
    | some w => (if w = 0 then nI cn else if w = 1 then nI st else if w = 2 then nI mn else if w = 3 then nI m else if w = 4 then nI tl else if w = 5 then nI F.2.2.2.2.2 else if w = 6 then nI (rn (F.2.2.2.2.2 % R)) else if w = 7 then F.2.2.2.1 else if w = 8 then nI (sw_sum F.1 m) else if w = 9 then nI F.2.2.2.2.1 else if w = 10 then nI (sw_sum F.2.1 m) else if w = 11 then nI E1.1 else if w = 12 then nI E2.1 else if w = 13 then nI E3.1 else nI U.1, A)
def st_barn (A : sw_A) (b x : Int32) : Int32 × sw_A := match A with
  | (_, (_, _, _, m, c, e, k, _, _), F, _) => match sw_ix b 0 m with
    | none => (-1000000001, A)
    | some j => match sw_ix x 0 7 with
      | none => (-1000000002, A)
      | some w => (if w = 0 then nI (c j) else if w = 1 then nI (e j) else if w = 2 then nI (F.1 j) else if w = 3 then nI (F.2.2.1 j) else if w = 4 then nI (k j) else if w = 5 then nI (F.2.1 j) else sw_b2 (sw_bit F.2.2.2.1 j), A)
/-- n years, rain as told -/
def sw_yrs (D : sw_D) : Nat → sw_F → sw_F
  | 0, F => F
  | n + 1, F => match D with
    | (cn, _, _, m, c, e, k, R, rn) => sw_yr m cn c e k (rn ((sw_yrs D n F).2.2.2.2.2 % R)) (sw_yrs D n F)
def st_year (A : sw_A) (x : Int32) : Int32 × sw_A := match A with
  | (T, D, F, sd, U, P) => match sw_ix x 1 100 with
    | none => (-1000000002, A)
    | some n => if D.1 = 0 then (-1000000003, A) else if 9000 < F.2.2.2.2.2 then (-1000000004, A) else (nI (sw_sum (sw_yrs D n F).1 D.2.2.2.1), (T, D, sw_yrs D n F, sd, sw_push U F, P))
def sw_sdn (sd : Nat) : Nat := (sd * 1103515245 + 12345) % 2147483648
/-- n years by draws -/
def sw_drs (D : sw_D) : Nat → sw_F × Nat → sw_F × Nat
  | 0, u => u
  | n + 1, u => match D with
    | (cn, _, _, m, c, e, k, _, _) => (sw_yr m cn c e k (sw_sdn (sw_drs D n u).2 / 65536 % 10) (sw_drs D n u).1, sw_sdn (sw_drs D n u).2)
def st_drift (A : sw_A) (x : Int32) : Int32 × sw_A := match A with
  | (T, D, F, sd, U, P) => match sw_ix x 1 100 with
    | none => (-1000000002, A)
    | some n => if D.1 = 0 then (-1000000003, A) else if 9000 < F.2.2.2.2.2 then (-1000000004, A) else (nI (sw_sum (sw_drs D n (F, sd)).1.1 D.2.2.2.1), (T, D, (sw_drs D n (F, sd)).1, (sw_drs D n (F, sd)).2, sw_push U F, P))
def sw_opn (F : sw_F) (j : Nat) (is : Bool) : sw_F := (F.1, F.2.1, F.2.2.1, (if is then F.2.2.2.1 &&& ((1 <<< (nI j &&& 31)) ^^^ -1) else F.2.2.2.1 ||| (1 <<< (nI j &&& 31))), F.2.2.2.2)
def st_open (A : sw_A) (b : Int32) (is : Bool) : Int32 × sw_A := match A with
  | (T, D, F, sd, U, P) => match sw_ix b 0 D.2.2.2.1 with
    | none => (-1000000001, A)
    | some j => (if sw_bit F.2.2.2.1 j then 0 else 1, (T, D, sw_opn F j is, sd, sw_push U F, P))
def st_move (A : sw_A) (a b x : Int32) : Int32 × sw_A := match A with
  | (T, D, F, sd, U, P) => match sw_ix a 0 D.2.2.2.1, sw_ix b 0 D.2.2.2.1 with
    | some i, some j => if i = j then (-1000000001, A) else match sw_ix x 1 41 with
      | none => (-1000000002, A)
      | some n => if n ≤ F.1 i ∧ F.1 j + n ≤ D.2.2.2.2.2.1 j then (nI (F.1 j + n), (T, D, sw_mv F i j n, sd, sw_push U F, P)) else (-1000000003, A)
    | _, _ => (-1000000001, A)
def st_mud (A : sw_A) (b x : Int32) : Int32 × sw_A := match A with
  | (T, D, F, sd, U, P) => match sw_ix b 0 D.2.2.2.1 with
    | none => (-1000000001, A)
    | some j => match sw_ix x 1 10 with
      | none => (-1000000002, A)
      | some n => (nI (F.2.2.1 j - n), (T, D, sw_md F j n, sd, sw_push U F, P))
def sw_rg (F : sw_F) (j n : Nat) : sw_F := (F.1, va_up F.2.1 j (F.2.1 j + n), F.2.2)
def st_ring (A : sw_A) (b x : Int32) : Int32 × sw_A := match A with
  | (T, D, F, sd, U, P) => match sw_ix b 0 D.2.2.2.1 with
    | none => (-1000000001, A)
    | some j => match sw_ix x 1 41 with
      | none => (-1000000002, A)
      | some n => if F.1 j < F.2.1 j + n then (-1000000003, A) else (nI (F.2.1 j + n), (T, D, sw_rg F j n, sd, sw_push U F, P))
def st_undo (A : sw_A) : Int32 × sw_A := match A with
  | (T, D, F, sd, U, P) => if U.1 = 0 then (-1000000003, A) else (nI (U.1 - 1), (T, D, U.2 (U.1 - 1), sd, (U.1 - 1, U.2), P))
/-- the sum of a row over a county -/
def sw_cs (f c : Nat → Nat) (q : Nat) : Nat → Nat
  | 0 => 0
  | n + 1 => sw_cs f c q n + (if c n = q then f n else 0)
def st_count (A : sw_A) (c n w : Int32) : Int32 × sw_A := match A with
  | (_, D, F, _) => match sw_ix c 0 D.1 with
    | none => (-1000000001, A)
    | some q => match sw_ix n 0 61, sw_ix w 0 3 with
      | some n, some w => (nI (if w = 0 then sw_cs (sw_yrs D n F).1 D.2.2.2.2.1 q D.2.2.2.1 else if w = 1 then sw_cs (sw_yrs D n F).1 D.2.2.2.2.1 q D.2.2.2.1 / D.2.1 else sw_cs (sw_yrs D n F).1 D.2.2.2.2.1 q D.2.2.2.1 / D.2.2.1), A)
      | _, _ => (-1000000002, A)
/-- two counters of a barn -/
def sw_cd (n : Nat) : Nat := if n = 0 then 0 else if n = 1 then 2 else 1
def st_counters (A : sw_A) (c : Int32) : Int32 × sw_A := match A with
  | (_, D, F, _) => match sw_ix c 0 D.1 with
    | none => (-1000000001, A)
    | some q => (nI (sw_cs (fun b => sw_cd (F.1 b)) D.2.2.2.2.1 q D.2.2.2.1), A)
def st_votes (A : sw_A) (c : Int32) : Int32 × sw_A := match A with
  | (_, D, F, _) => match sw_ix c 0 D.1 with
    | none => (-1000000001, A)
    | some q => (nI (sw_cs F.2.1 D.2.2.2.2.1 q D.2.2.2.1), A)
/-- the county of most votes, of like ones the least: none at first -/
def sw_el (v : Nat → Nat) : Nat → Option Nat
  | 0 => none
  | n + 1 => match sw_el v n with
    | none => some n
    | some q => if v q < v n then some n else some q
def st_elected (A : sw_A) : Int32 × sw_A := match A with
  | (_, D, F, _) => match sw_el (fun q => sw_cs F.2.1 D.2.2.2.2.1 q D.2.2.2.1) D.1 with
    | none => (-1, A)
    | some q => (nI q, A)
def sw_od (q : Nat) : Nat → Nat
  | 0 => 1000000000
  | n + 1 => sw_od q n * (100 - q) / 100
def st_spring (A : sw_A) (x y : Int32) : Int32 × sw_A := match sw_ix x 0 31, sw_ix y 0 101 with
  | some n, some q => (nI (sw_od q n), A)
  | _, _ => (-1000000002, A)
def st_see (A : sw_A) (b x : Int32) : Int32 × sw_A := match A with
  | (T, D, F, sd, U, I, E1, E2, E3) => match sw_ix b 0 D.2.2.2.1 with
    | none => (-1000000001, A)
    | some j => match sw_ix x 0 41 with
      | none => (-1000000002, A)
      | some v => if E1.1 = 8 then (-1000000004, A) else (nI (E1.1 + 1), (T, D, F, sd, U, I, sw_app E1 j v, E2, E3))
def st_rough (A : sw_A) (s x : Int32) : Int32 × sw_A := match A with
  | (T, D, F, sd, U, I, E1, E2, E3) => match sw_ix s 0 (2 ^ D.2.2.2.1) with
    | none => (-1000000001, A)
    | some j => match sw_ix x 0 321 with
      | none => (-1000000002, A)
      | some v => if E2.1 = 8 then (-1000000004, A) else (nI (E2.1 + 1), (T, D, F, sd, U, I, E1, sw_app E2 j v, E3))
def st_write (A : sw_A) (c x : Int32) : Int32 × sw_A := match A with
  | (T, D, F, sd, U, I, E1, E2, E3) => match sw_ix c 0 D.1 with
    | none => (-1000000001, A)
    | some j => match sw_ix x 0 321 with
      | none => (-1000000002, A)
      | some v => if E3.1 = 15 then (-1000000004, A) else (nI (E3.1 + 1), (T, D, F, sd, U, I, E1, E2, sw_app E3 j v))
def st_tear (A : sw_A) : Int32 × sw_A := match A with
  | (T, D, F, sd, U, I, E1, E2, E3) => (nI (E1.1 + E2.1 + E3.1), (T, D, F, sd, U, I, (0, E1.2), (0, E2.2), (0, E3.2)))
/-- the first wrong entry of the book, from i on, of k more -/
def sw_jd (D : sw_D) (F : sw_F) (E : sw_E) : Nat → Nat → Option Nat
  | 0, _ => none
  | k + 1, i => if sw_cs F.1 D.2.2.2.2.1 (E.2.1 i) D.2.2.2.1 = E.2.2 i then sw_jd D F E k (i + 1) else some i
def st_judge (A : sw_A) : Int32 × sw_A := match A with
  | (_, D, F, _, _, _, _, _, E3) => match sw_jd D F E3 E3.1 0 with
    | none => (-1, A)
    | some i => (nI i, A)
def st_seed (A : sw_A) (x : Int32) : Int32 × sw_A := match A with
  | (T, D, F, sd, P) => match sw_ix x 0 2147483648 with
    | none => (-1000000002, A)
    | some v => (nI sd, (T, D, F, v, P))
def st_keep (A : sw_A) (x : Int32) : Int32 × sw_A := match A with
  | (T, D, F, sd, U, I, P) => match sw_ix x 0 2 with
    | none => (-1000000001, A)
    | some i => (1, (T, D, F, sd, (0, U.2), va_up I i (some (F, sd)), P))
def st_goBack (A : sw_A) (x : Int32) : Int32 × sw_A := match A with
  | (T, D, F, sd, U, I, P) => match sw_ix x 0 2 with
    | none => (-1000000001, A)
    | some i => match I i with
      | none => (-1000000003, A)
      | some (F', sd') => (1, (T, D, F', sd', (0, U.2), I, P))
/-- the most and the least that a barn can have, by each rough count alone -/
def sw_lst (e : Nat → Nat) (m : Nat) (E : sw_E) (b : Nat) : Nat → Nat
  | 0 => 0
  | n + 1 => if (E.2.1 n).testBit b then max (sw_lst e m E b n) (E.2.2 n - sw_sm e (fun q => (E.2.1 n).testBit q && !(q == b)) m) else sw_lst e m E b n
def sw_mst (e : Nat → Nat) (E : sw_E) (b : Nat) : Nat → Nat
  | 0 => e b
  | n + 1 => if (E.2.1 n).testBit b then min (sw_mst e E b n) (E.2.2 n) else sw_mst e E b n
def st_span (A : sw_A) (b x : Int32) : Int32 × sw_A := match A with
  | (_, D, _, _, _, _, _, E2, _) => match sw_ix b 0 D.2.2.2.1 with
    | none => (-1000000001, A)
    | some j => match sw_ix x 0 2 with
      | none => (-1000000002, A)
      | some w => (if sw_mst D.2.2.2.2.2.1 E2 j E2.1 < sw_lst D.2.2.2.2.2.1 D.2.2.2.1 E2 j E2.1 then -1 else if w = 0 then nI (sw_lst D.2.2.2.2.2.1 D.2.2.2.1 E2 j E2.1) else nI (sw_mst D.2.2.2.2.2.1 E2 j E2.1), A)
def st_uncounted (A : sw_A) : Int32 × sw_A := match A with
  | (_, D, _, _, _, _, _, E2, _) => (nI (sw_set (fun j => !(sw_lst D.2.2.2.2.2.1 D.2.2.2.1 E2 j E2.1 == sw_mst D.2.2.2.2.2.1 E2 j E2.1)) D.2.2.2.1), A)
