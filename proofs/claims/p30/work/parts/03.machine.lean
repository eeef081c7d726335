/-! ===== an abstract machine: ints by a relative address and a slot; addresses as the two constructors make them ===== -/
abbrev Hp : Type := (Nat → Nat → Int32) × (Nat → Int64)
abbrev Res : Type := Option ((Option Value × Hp) ⊕ (Nat × Hp))
abbrev Kt : Type := Nat → List Value → List Value → Hp → Res
abbrev Fn : Type := List Value → Hp → Res
/-- which locals are forgotten ahead of it, instruction, length, three numbers, a constant -/
abbrev Ent : Type := List Bool × Instr × Nat × Nat × Nat × Nat × Int32
def kl : List Bool → List Value → List Value
  | [], ls => ls
  | _ :: _, [] => []
  | true :: m, _ :: t => .retAddr 0 :: kl m t
  | false :: m, v :: t => v :: kl m t
theorem kl_kl : ∀ (m : List Bool) (ls : List Value), kl m (kl m ls) = kl m ls
  | [], _ => rfl
  | _ :: _, [] => rfl
  | true :: m, _ :: t => congrArg (fun q => Value.retAddr 0 :: q) (kl_kl m t)
  | false :: m, v :: t => congrArg (fun q => v :: q) (kl_kl m t)
def msk (ft : Nat → Option Ent) (pc : Nat) : List Bool := match ft pc with
  | some e => e.1
  | none => []
/-- so many arguments, of one word each -/
def chkA : Nat → List Value → Bool
  | 0, [] => true
  | n + 1, .int _ :: t => chkA n t
  | n + 1, .ref _ :: t => chkA n t
  | _, _ => false
/-- a method's locals at its entry -/
def pad : Nat → List Value → List Value
  | 0, _ => []
  | n + 1, [] => .retAddr 0 :: pad n []
  | n + 1, v :: t => v :: pad n t
def rd (h : Hp) (a k : Nat) : Int32 := h.1 a k
def wr (h : Hp) (a k : Nat) (x : Int32) : Hp := (fun b j => if b = a ∧ j = k then x else h.1 b j, h.2)
def rdL (h : Hp) (j : Nat) : Int64 := h.2 j
def wrL (h : Hp) (j : Nat) (x : Int64) : Hp := (h.1, fun i => if i = j then x else h.2 i)
def rtn (v : Option Value) (h : Hp) : Res := some (.inl (v, h))
def thr (E : Nat) (h : Hp) : Res := some (.inr (E, h))
def gd (b : Bool) (r : Res) : Res := match b with | true => r | false => none
def bV (r : Res) (k : Hp → Res) (kx : Nat → Hp → Res) : Res := match r with
  | some (.inl (none, h)) => k h
  | some (.inr (E, h)) => kx E h
  | _ => none
def bI (r : Res) (k : Int32 → Hp → Res) (kx : Nat → Hp → Res) : Res := match r with
  | some (.inl (some (.int x), h)) => k x h
  | some (.inr (E, h)) => kx E h
  | _ => none
def bR (r : Res) (k : Nat → Hp → Res) (kx : Nat → Hp → Res) : Res := match r with
  | some (.inl (some (.ref x), h)) => k x h
  | some (.inr (E, h)) => kx E h
  | _ => none
def pI (st : List Value) (f : Int32 → List Value → Res) : Res := match st with
  | .int x :: t => f x t
  | _ => none
def pL (st : List Value) (f : Int64 → List Value → Res) : Res := match st with
  | .long x :: t => f x t
  | _ => none
def pR (st : List Value) (f : Nat → List Value → Res) : Res := match st with
  | .ref x :: t => f x t
  | _ => none
/-- a value of one word -/
def pA (st : List Value) (f : Value → List Value → Res) : Res := match st with
  | .ref x :: t => f (.ref x) t
  | .null :: t => f .null t
  | _ => none
def p1 (st : List Value) (f : Value → List Value → Res) : Res := match st with
  | .int x :: t => f (.int x) t
  | .ref x :: t => f (.ref x) t
  | _ => none
def pN (st : List Value) (A B : List Value → Res) : Res := match st with
  | .null :: t => A t
  | .ref _ :: t => B t
  | _ => none
def nth : List Value → Nat → Value
  | [], _ => .retAddr 0
  | v :: _, 0 => v
  | _ :: t, n + 1 => nth t n
def setn : List Value → Nat → Value → List Value
  | [], _, _ => []
  | _ :: t, 0, x => x :: t
  | v :: t, n + 1, x => v :: setn t n x
def lI (v : Value) (f : Int32 → Res) : Res := match v with
  | .int x => f x
  | _ => none
def lA (v : Value) (f : Value → Res) : Res := match v with
  | .ref x => f (.ref x)
  | .null => f .null
  | _ => none
def nthF : List Fn → Nat → Fn
  | [], _ => fun _ _ => none
  | f :: _, 0 => f
  | _ :: t, n + 1 => nthF t n
def nthS : List (List Nat) → Nat → List Nat
  | [], _ => []
  | f :: _, 0 => f
  | _ :: t, n + 1 => nthS t n
def lkp {α : Type} : List (Nat × α) → Nat → Option α
  | [], _ => none
  | (k, v) :: t, p => cond (Nat.beq k p) (some v) (lkp t p)
def lk2 {α : Type} (T : List (List (Nat × α))) (p : Nat) : Option α := lkp (match T[p / 64]? with | some l => l | none => []) p
def memb (x : Nat) : List Nat → Bool
  | [] => false
  | y :: t => cond (Nat.beq x y) true (memb x t)
def icmp (cnd : ClassFile.Cond) (v y : Int32) (A B : Res) : Res := match cnd with
  | .eq => if v = y then A else B
  | .ne => if v = y then B else A
  | .lt => if v < y then A else B
  | .ge => if v < y then B else A
  | .gt => if y < v then A else B
  | .le => if y < v then B else A
def swt (v : Int32) : Nat → List Nat → (Nat → Res) → Res → Res
  | _, [], _, d => d
  | n, t :: ts, k, d => if v = Int32.ofNat n then k t else swt v (n + 1) ts k d
def inb (i : Int32) (n : Nat) : Bool := !decide (i < 0) && Nat.blt i.toNatClampNeg n
theorem inb_in {i : Int32} {n : Nat} (h : inb i n = true) : vp_in i n := by
  simp only [inb, Bool.and_eq_true, Bool.not_eq_true', decide_eq_false_iff_not, Nat.blt_eq] at h
  rintro (q | q)
  · exact h.1 q
  · omega
def okZ (k : Nat) (v : Int32) : Bool := match k with
  | 0 => true
  | _ => decide (v = 0) || decide (v = 1)
def cats : List Value → Nat
  | [] => 0
  | v :: t => v.category + cats t
/-- n values off the stack, in the order in which they were put -/
def popn : Nat → List Value → List Value → (List Value → List Value → Res) → Res
  | 0, st, acc, f => f acc st
  | n + 1, st, acc, f => match st with
    | .int x :: t => popn n t (.int x :: acc) f
    | .ref x :: t => popn n t (.ref x :: acc) f
    | _ => none
def hnk (hn : List (Nat × Int32)) (E : Nat) (h : Hp) : Res := match hn with
  | [] => thr E h
  | _ :: _ => match lkp hn E with
    | some c => rtn (some (.int c)) h
    | none => none
def clK (rk : Nat) (r : Res) (kV : Hp → Res) (kI : Int32 → Hp → Res) (kR : Nat → Hp → Res) (kx : Nat → Hp → Res) : Res := match rk with
  | 0 => bV r kV kx
  | 1 => bI r kI kx
  | _ => bR r kR kx
def rI (c : Nat) (st : List Value) (h : Hp) : Res := match st with
  | [.int v] => gd (okZ c v) (rtn (some (.int v)) h)
  | _ => none
def rR (st : List Value) (h : Hp) : Res := match st with
  | [.ref v] => rtn (some (.ref v)) h
  | _ => none
def rV (st : List Value) (h : Hp) : Res := match st with
  | [] => rtn none h
  | _ => none
/-- where the script's contents, and its length, stand -/
abbrev SCRA : Nat := 1000
abbrev SCRB : Nat := 1001
section
variable (SKc SKn : Nat → Nat) (SKr : Nat → Nat → Nat) (CS : Nat → List Nat)
def alen (h : Hp) (a : Nat) : Nat := cond (Nat.beq a SCRA) (rd h SCRB 0).toNatClampNeg (SKn a)
def recv (as : List Value) (d : Nat) : Bool := cond (Nat.beq d 99) true (match as with
  | .ref a :: _ => memb (SKc a) (CS d)
  | _ => false)
def stI (cl : List Fn) (hn : List (Nat × Int32)) (sw : List (List Nat)) (i : Instr) (len b c d : Nat) (x : Int32) (K : Kt) (pc : Nat) (ls st : List Value) (h : Hp) : Res := match i with
  | .iconst _ => K (pc + len) ls (.int x :: st) h
  | .bipush _ => K (pc + len) ls (.int x :: st) h
  | .sipush _ => K (pc + len) ls (.int x :: st) h
  | .ldc _ => K (pc + len) ls (.int x :: st) h
  | .ldc_w _ => K (pc + len) ls (.int x :: st) h
  | .lconst n => K (pc + len) ls (.long (Int64.ofNat (n : Nat)) :: st) h
  | .aconst_null => K (pc + len) ls (.null :: st) h
  | .iload_n _ => lI (nth ls b) fun v => K (pc + len) ls (.int v :: st) h
  | .iload _ => lI (nth ls b) fun v => K (pc + len) ls (.int v :: st) h
  | .aload_n _ => lA (nth ls b) fun v => K (pc + len) ls (v :: st) h
  | .aload _ => lA (nth ls b) fun v => K (pc + len) ls (v :: st) h
  | .istore_n _ => pI st fun v t => K (pc + len) (setn ls b (.int v)) t h
  | .istore _ => pI st fun v t => K (pc + len) (setn ls b (.int v)) t h
  | .astore_n _ => pA st fun v t => K (pc + len) (setn ls b v) t h
  | .astore _ => pA st fun v t => K (pc + len) (setn ls b v) t h
  | .iinc _ _ => lI (nth ls b) fun v => K (pc + len) (setn ls b (.int (v + x))) st h
  | .iadd => pI st fun y t => pI t fun v t => K (pc + len) ls (.int (v + y) :: t) h
  | .isub => pI st fun y t => pI t fun v t => K (pc + len) ls (.int (v - y) :: t) h
  | .imul => pI st fun y t => pI t fun v t => K (pc + len) ls (.int (v * y) :: t) h
  | .iand => pI st fun y t => pI t fun v t => K (pc + len) ls (.int (v &&& y) :: t) h
  | .ior => pI st fun y t => pI t fun v t => K (pc + len) ls (.int (v ||| y) :: t) h
  | .ishl => pI st fun y t => pI t fun v t => K (pc + len) ls (.int (v <<< (y &&& 31)) :: t) h
  | .ishr => pI st fun y t => pI t fun v t => K (pc + len) ls (.int (v >>> (y &&& 31)) :: t) h
  | .iushr => pI st fun y t => pI t fun v t => K (pc + len) ls (.int ((v.toUInt32 >>> (y.toUInt32 &&& Int32.toUInt32 31)).toInt32) :: t) h
  | .idiv => pI st fun y t => pI t fun v t => gd (!decide (y = 0)) (K (pc + len) ls (.int (v / y) :: t) h)
  | .irem => pI st fun y t => pI t fun v t => gd (!decide (y = 0)) (K (pc + len) ls (.int (v - v / y * y) :: t) h)
  | .ineg => pI st fun v t => K (pc + len) ls (.int (-v) :: t) h
  | .i2l => pI st fun v t => K (pc + len) ls (.long v.toInt64 :: t) h
  | .lcmp => pL st fun y t => pL t fun v t => K (pc + len) ls (.int (lg_cmp v y) :: t) h
  | .dup => p1 st fun v t => K (pc + len) ls (v :: v :: t) h
  | .dup2 => p1 st fun v t => p1 t fun w t => K (pc + len) ls (v :: w :: v :: w :: t) h
  | .pop => p1 st fun _ t => K (pc + len) ls t h
  | .ifnull _ => pN st (fun t => K b ls t h) (fun t => K (pc + len) ls t h)
  | .if_icmp cnd _ => pI st fun y t => pI t fun v t => icmp cnd v y (K b ls t h) (K (pc + len) ls t h)
  | .ifCond cnd _ => pI st fun v t => icmp cnd v 0 (K b ls t h) (K (pc + len) ls t h)
  | .goto _ => K b ls st h
  | .tableswitch _ _ _ _ => pI st fun v t => swt v 0 (nthS sw c) (fun tg => K tg ls t h) (K b ls t h)
  | .getfield _ => pR st fun a t => gd (memb (SKc a) (CS (c / 2))) (match c % 2 with
      | 0 => K (pc + len) ls (.int (rd h a b) :: t) h
      | _ => K (pc + len) ls (.ref (SKr a b) :: t) h)
  | .putfield _ => pI st fun v t => pR t fun a t => gd (memb (SKc a) (CS (c / 2))) (gd (okZ (c % 2) v) (K (pc + len) ls t (wr h a b v)))
  | .iaload => pI st fun i t => pR t fun a t => gd (memb (SKc a) [10, 18] && inb i (alen SKn h a)) (K (pc + len) ls (.int (rd h a i.toNatClampNeg) :: t) h)
  | .aaload => pI st fun i t => pR t fun a t => gd (memb (SKc a) [13, 14, 15, 16, 17] && inb i (SKn a)) (K (pc + len) ls (.ref (SKr a i.toNatClampNeg) :: t) h)
  | .iastore => pI st fun v t => pI t fun i t => pR t fun a t => gd (Nat.beq (SKc a) 10 && inb i (SKn a)) (K (pc + len) ls t (wr h a i.toNatClampNeg v))
  | .arraylength => pR st fun a t => gd (memb (SKc a) [10, 11, 12, 13, 14, 15, 16, 17, 18]) (K (pc + len) ls (.int (Int32.ofNat (alen SKn h a)) :: t) h)
  | .invokevirtual _ => popn (c / 4) st [] fun as t => gd (recv SKc CS as d) (gd (Nat.ble (cats t) 8) (clK (c % 4) (nthF cl b as h) (fun g => K (pc + len) ls t g) (fun v g => K (pc + len) ls (.int v :: t) g) (fun v g => K (pc + len) ls (.ref v :: t) g) (hnk hn)))
  | .invokestatic _ => popn (c / 4) st [] fun as t => gd (recv SKc CS as d) (gd (Nat.ble (cats t) 8) (clK (c % 4) (nthF cl b as h) (fun g => K (pc + len) ls t g) (fun v g => K (pc + len) ls (.int v :: t) g) (fun v g => K (pc + len) ls (.ref v :: t) g) (hnk hn)))
  | .new _ => gd (Nat.ble (cats st) 8) (thr b h)
  | .ireturn => rI c st h
  | .areturn => rR st h
  | .return_ => rV st h
  | _ => none
def stp (ft : Nat → Option Ent) (cl : List Fn) (hn : List (Nat × Int32)) (sw : List (List Nat)) (K : Kt) (pc : Nat) (ls st : List Value) (h : Hp) : Res := match ft pc with
  | none => none
  | some (m, i, len, b, c, d, x) => stI SKc SKn SKr CS cl hn sw i len b c d x K pc (kl m ls) st h
def exN (ft : Nat → Option Ent) (cl : List Fn) (hn : List (Nat × Int32)) (sw : List (List Nat)) : Nat → Kt
  | 0 => fun _ _ _ _ => none
  | n + 1 => stp SKc SKn SKr CS ft cl hn sw (exN ft cl hn sw n)
end
/-- what a step asks of what comes behind it: one place at most -/
def Lin (f : Kt → Res) : Prop := (∃ (pc : Nat) (ls st : List Value) (h : Hp), ∀ K, f K = K pc ls st h) ∨ ∃ r : Res, ∀ K, f K = r
theorem Lin.k (pc : Nat) (ls st : List Value) (h : Hp) : Lin (fun K => K pc ls st h) := Or.inl ⟨pc, ls, st, h, fun _ => rfl⟩
theorem Lin.c (r : Res) : Lin (fun _ => r) := Or.inr ⟨r, fun _ => rfl⟩
theorem Lin.gd {f : Kt → Res} (b : Bool) (h : Lin f) : Lin (fun K => gd b (f K)) := by cases b; exact Lin.c none; exact h
theorem Lin.bV {r : Res} {f : Hp → Kt → Res} {kx : Nat → Hp → Res} (h : ∀ g, Lin (f g)) : Lin (fun K => bV r (fun g => f g K) kx) := by
  rcases r with _ | ⟨_ | v, g⟩ | ⟨E, g⟩
  · exact Lin.c none
  · exact h g
  · exact Lin.c none
  · exact Lin.c (kx E g)
theorem Lin.bI {r : Res} {f : Int32 → Hp → Kt → Res} {kx : Nat → Hp → Res} (h : ∀ v g, Lin (f v g)) : Lin (fun K => bI r (fun v g => f v g K) kx) := by
  rcases r with _ | ⟨_ | v, g⟩ | ⟨E, g⟩
  · exact Lin.c none
  · exact Lin.c none
  · cases v <;> first | exact h _ g | exact Lin.c none
  · exact Lin.c (kx E g)
theorem Lin.bR {r : Res} {f : Nat → Hp → Kt → Res} {kx : Nat → Hp → Res} (h : ∀ v g, Lin (f v g)) : Lin (fun K => bR r (fun v g => f v g K) kx) := by
  rcases r with _ | ⟨_ | v, g⟩ | ⟨E, g⟩
  · exact Lin.c none
  · exact Lin.c none
  · cases v <;> first | exact h _ g | exact Lin.c none
  · exact Lin.c (kx E g)
theorem Lin.clK {r : Res} {rk : Nat} {f : Hp → Kt → Res} {fi : Int32 → Hp → Kt → Res} {fr : Nat → Hp → Kt → Res} {kx : Nat → Hp → Res} (h : ∀ g, Lin (f g)) (hi : ∀ v g, Lin (fi v g)) (hr : ∀ v g, Lin (fr v g)) : Lin (fun K => clK rk r (fun g => f g K) (fun v g => fi v g K) (fun v g => fr v g K) kx) := by
  rcases rk with _ | _ | _
  · exact Lin.bV h
  · exact Lin.bI hi
  · exact Lin.bR hr
theorem Lin.pI {st : List Value} {f : Int32 → List Value → Kt → Res} (h : ∀ v t, Lin (f v t)) : Lin (fun K => pI st (fun v t => f v t K)) := by
  rcases st with _ | ⟨v, t⟩
  · exact Lin.c none
  · cases v <;> first | exact h _ t | exact Lin.c none
theorem Lin.pL {st : List Value} {f : Int64 → List Value → Kt → Res} (h : ∀ v t, Lin (f v t)) : Lin (fun K => pL st (fun v t => f v t K)) := by
  rcases st with _ | ⟨v, t⟩
  · exact Lin.c none
  · cases v <;> first | exact h _ t | exact Lin.c none
theorem Lin.pR {st : List Value} {f : Nat → List Value → Kt → Res} (h : ∀ v t, Lin (f v t)) : Lin (fun K => pR st (fun v t => f v t K)) := by
  rcases st with _ | ⟨v, t⟩
  · exact Lin.c none
  · cases v <;> first | exact h _ t | exact Lin.c none
theorem Lin.pA {st : List Value} {f : Value → List Value → Kt → Res} (h : ∀ v t, Lin (f v t)) : Lin (fun K => pA st (fun v t => f v t K)) := by
  rcases st with _ | ⟨v, t⟩
  · exact Lin.c none
  · cases v <;> first | exact h _ t | exact Lin.c none
theorem Lin.p1 {st : List Value} {f : Value → List Value → Kt → Res} (h : ∀ v t, Lin (f v t)) : Lin (fun K => p1 st (fun v t => f v t K)) := by
  rcases st with _ | ⟨v, t⟩
  · exact Lin.c none
  · cases v <;> first | exact h _ t | exact Lin.c none
theorem Lin.pN {st : List Value} {f g : List Value → Kt → Res} (h : ∀ t, Lin (f t)) (h2 : ∀ t, Lin (g t)) : Lin (fun K => pN st (fun t => f t K) (fun t => g t K)) := by
  rcases st with _ | ⟨v, t⟩
  · exact Lin.c none
  · cases v <;> first | exact h t | exact h2 t | exact Lin.c none
theorem Lin.lI {v : Value} {f : Int32 → Kt → Res} (h : ∀ v, Lin (f v)) : Lin (fun K => lI v (fun v => f v K)) := by
  cases v <;> first | exact h _ | exact Lin.c none
theorem Lin.lA {v : Value} {f : Value → Kt → Res} (h : ∀ v, Lin (f v)) : Lin (fun K => lA v (fun v => f v K)) := by
  cases v <;> first | exact h _ | exact Lin.c none
theorem Lin.ite {c : Prop} [Decidable c] {f g : Kt → Res} (h : Lin f) (h2 : Lin g) : Lin (fun K => if c then f K else g K) := by
  by_cases q : c
  · simpa [q] using h
  · simpa [q] using h2
theorem Lin.icmp {cnd : ClassFile.Cond} {v y : Int32} {f g : Kt → Res} (h : Lin f) (h2 : Lin g) : Lin (fun K => icmp cnd v y (f K) (g K)) := by
  cases cnd
  · exact Lin.ite h h2
  · exact Lin.ite h2 h
  · exact Lin.ite h h2
  · exact Lin.ite h2 h
  · exact Lin.ite h h2
  · exact Lin.ite h2 h
theorem Lin.swt {v : Int32} {k : Nat → Kt → Res} {d : Kt → Res} (h : ∀ t, Lin (k t)) (h2 : Lin d) : ∀ (ts : List Nat) (n : Nat), Lin (fun K => swt v n ts (fun t => k t K) (d K)) := by
  intro ts
  induction ts with
  | nil => intro n; exact h2
  | cons t ts ih => intro n; exact Lin.ite (h t) (ih (n + 1))
theorem Lin.popn {f : List Value → List Value → Kt → Res} (h : ∀ a t, Lin (f a t)) : ∀ (n : Nat) (st acc : List Value), Lin (fun K => popn n st acc (fun a t => f a t K)) := by
  intro n
  induction n with
  | zero => intro st acc; exact h acc st
  | succ n ih =>
    intro st acc
    rcases st with _ | ⟨v, t⟩
    · exact Lin.c none
    · cases v <;> first | exact ih t _ | exact Lin.c none
theorem Lin.sel {n : Nat} {f g : Kt → Res} (h : Lin f) (h2 : Lin g) : Lin (fun K => match n with | 0 => f K | _ => g K) := by
  cases n
  · exact h
  · exact h2
section
variable (SKc SKn : Nat → Nat) (SKr : Nat → Nat → Nat) (CS : Nat → List Nat)
theorem stI_lin (cl : List Fn) (hn : List (Nat × Int32)) (sw : List (List Nat)) (i : Instr) (len b c d : Nat) (x : Int32) (pc : Nat) (ls st : List Value) (h : Hp) : Lin (fun K => stI SKc SKn SKr CS cl hn sw i len b c d x K pc ls st h) := by
  cases i <;> (try exact Lin.c none) <;> (try exact Lin.k _ _ _ _) <;>
    first
    | (refine Lin.lI ?_; intros <;> exact Lin.k _ _ _ _)
    | (refine Lin.lA ?_; intros <;> exact Lin.k _ _ _ _)
    | (refine Lin.pI ?_; intros <;> exact Lin.k _ _ _ _)
    | (refine Lin.pA ?_; intros <;> exact Lin.k _ _ _ _)
    | (refine Lin.p1 ?_; intros <;> exact Lin.k _ _ _ _)
    | (refine Lin.p1 ?_; intros; refine Lin.p1 ?_; intros <;> exact Lin.k _ _ _ _)
    | (refine Lin.pI ?_; intros; refine Lin.pI ?_; intros <;> exact Lin.k _ _ _ _)
    | (refine Lin.pL ?_; intros; refine Lin.pL ?_; intros <;> exact Lin.k _ _ _ _)
    | (refine Lin.pI ?_; intros; refine Lin.pI ?_; intros; refine Lin.gd _ ?_ <;> exact Lin.k _ _ _ _)
    | (refine Lin.pI ?_; intros; refine Lin.pI ?_; intros; refine Lin.icmp ?_ ?_ <;> exact Lin.k _ _ _ _)
    | (refine Lin.pI ?_; intros; refine Lin.icmp ?_ ?_ <;> exact Lin.k _ _ _ _)
    | (refine Lin.pN ?_ ?_ <;> intros <;> exact Lin.k _ _ _ _)
    | (refine Lin.pI ?_; intros; refine Lin.swt ?_ ?_ _ _ <;> intros <;> exact Lin.k _ _ _ _)
    | (refine Lin.pR ?_; intros; refine Lin.gd _ ?_; refine Lin.sel ?_ ?_ <;> exact Lin.k _ _ _ _)
    | (refine Lin.pI ?_; intros; refine Lin.pR ?_; intros; refine Lin.gd _ ?_; refine Lin.gd _ ?_ <;> exact Lin.k _ _ _ _)
    | (refine Lin.pI ?_; intros; refine Lin.pR ?_; intros; refine Lin.gd _ ?_ <;> exact Lin.k _ _ _ _)
    | (refine Lin.pI ?_; intros; refine Lin.pI ?_; intros; refine Lin.pR ?_; intros; refine Lin.gd _ ?_ <;> exact Lin.k _ _ _ _)
    | (refine Lin.pL ?_; intros; refine Lin.pI ?_; intros; refine Lin.pR ?_; intros; refine Lin.gd _ ?_ <;> exact Lin.k _ _ _ _)
    | (refine Lin.pR ?_; intros; refine Lin.gd _ ?_ <;> exact Lin.k _ _ _ _)
    | (refine Lin.popn ?_ _ _ _; intros; refine Lin.gd _ ?_; refine Lin.gd _ ?_; refine Lin.clK ?_ ?_ ?_ <;> intros <;> exact Lin.k _ _ _ _)
    | (refine Lin.gd _ ?_ <;> exact Lin.c _)
    | (show Lin (fun K => lA (nth ls b) (fun v => K (pc + len) ls (v :: st) h)); refine Lin.lA ?_; intros; exact Lin.k _ _ _ _)
    | (show Lin (fun K => pA st (fun v t => K (pc + len) (setn ls b v) t h)); refine Lin.pA ?_; intros; exact Lin.k _ _ _ _)
    | (show Lin (fun K => p1 st (fun v t => K (pc + len) ls (v :: v :: t) h)); refine Lin.p1 ?_; intros; exact Lin.k _ _ _ _)
    | (show Lin (fun K => p1 st (fun v t => p1 t (fun w t => K (pc + len) ls (v :: w :: v :: w :: t) h))); refine Lin.p1 (f := fun v t K => p1 t (fun w t => K (pc + len) ls (v :: w :: v :: w :: t) h)) ?_; intro v t; refine Lin.p1 ?_; intros; exact Lin.k _ _ _ _)
    | (show Lin (fun K => p1 st (fun _ t => K (pc + len) ls t h)); refine Lin.p1 (f := fun _ t K => K (pc + len) ls t h) ?_; intros; exact Lin.k _ _ _ _)
    | exact Lin.c _
theorem stp_lin (ft : Nat → Option Ent) (cl : List Fn) (hn : List (Nat × Int32)) (sw : List (List Nat)) (pc : Nat) (ls st : List Value) (h : Hp) : Lin (fun K => stp SKc SKn SKr CS ft cl hn sw K pc ls st h) := by
  unfold stp
  rcases ft pc with _ | ⟨m, i, len, b, c, d, x⟩
  · exact Lin.c none
  · exact stI_lin SKc SKn SKr CS cl hn sw i len b c d x pc (kl m ls) st h
theorem stp_l2 (ft : Nat → Option Ent) (cl : List Fn) (hn : List (Nat × Int32)) (sw : List (List Nat)) (pc : Nat) (ls st : List Value) (h : Hp) : (∃ (pc2 : Nat) (ls2 st2 : List Value) (h2 : Hp), ∀ K : Kt, stp SKc SKn SKr CS ft cl hn sw K pc ls st h = K pc2 ls2 st2 h2) ∨ ∃ r : Res, ∀ K : Kt, stp SKc SKn SKr CS ft cl hn sw K pc ls st h = r := stp_lin SKc SKn SKr CS ft cl hn sw pc ls st h
theorem exN_mono (ft : Nat → Option Ent) (cl : List Fn) (hn : List (Nat × Int32)) (sw : List (List Nat)) : ∀ (n : Nat) (pc : Nat) (ls st : List Value) (h : Hp) (r : (Option Value × Hp) ⊕ (Nat × Hp)), exN SKc SKn SKr CS ft cl hn sw n pc ls st h = some r → exN SKc SKn SKr CS ft cl hn sw (n + 1) pc ls st h = some r := by
  intro n
  induction n with
  | zero => intro pc ls st h r e; cases e
  | succ n ih =>
    intro pc ls st h r e
    show stp SKc SKn SKr CS ft cl hn sw (exN SKc SKn SKr CS ft cl hn sw (n + 1)) pc ls st h = some r
    have e1 : stp SKc SKn SKr CS ft cl hn sw (exN SKc SKn SKr CS ft cl hn sw n) pc ls st h = some r := e
    rcases stp_l2 SKc SKn SKr CS ft cl hn sw pc ls st h with ⟨pc2, ls2, st2, h2, q⟩ | ⟨r2, q⟩
    · rw [q] at e1 ⊢
      exact ih _ _ _ _ _ e1
    · rw [q] at e1 ⊢
      exact e1
theorem exN_le (ft : Nat → Option Ent) (cl : List Fn) (hn : List (Nat × Int32)) (sw : List (List Nat)) {n k : Nat} (hk : n ≤ k) (pc : Nat) (ls st : List Value) (h : Hp) (r : (Option Value × Hp) ⊕ (Nat × Hp)) (e : exN SKc SKn SKr CS ft cl hn sw n pc ls st h = some r) : exN SKc SKn SKr CS ft cl hn sw k pc ls st h = some r := by
  induction hk with
  | refl => exact e
  | step _ ih => exact exN_mono SKc SKn SKr CS ft cl hn sw _ _ _ _ _ _ ih
/-- a method's run, whatever number of steps it takes -/
noncomputable def exL (ft : Nat → Option Ent) (cl : List Fn) (hn : List (Nat × Int32)) (sw : List (List Nat)) : Kt := fun pc ls st h =>
  @dite _ (∃ (r : (Option Value × Hp) ⊕ (Nat × Hp)) (n : Nat), exN SKc SKn SKr CS ft cl hn sw n pc ls st h = some r) (Classical.propDecidable _) (fun q => some (Classical.choose q)) (fun _ => none)
theorem exL_of (ft : Nat → Option Ent) (cl : List Fn) (hn : List (Nat × Int32)) (sw : List (List Nat)) {n pc : Nat} {ls st : List Value} {h : Hp} {r : (Option Value × Hp) ⊕ (Nat × Hp)} (e : exN SKc SKn SKr CS ft cl hn sw n pc ls st h = some r) : exL SKc SKn SKr CS ft cl hn sw pc ls st h = some r := by
  have q : ∃ (r : (Option Value × Hp) ⊕ (Nat × Hp)) (n : Nat), exN SKc SKn SKr CS ft cl hn sw n pc ls st h = some r := ⟨r, n, e⟩
  unfold exL
  rw [dif_pos q]
  obtain ⟨k, hk⟩ := Classical.choose_spec q
  have h1 := exN_le SKc SKn SKr CS ft cl hn sw (Nat.le_max_left n k) _ _ _ _ _ e
  have h2 := exN_le SKc SKn SKr CS ft cl hn sw (Nat.le_max_right n k) _ _ _ _ _ hk
  exact h2.symm.trans h1
theorem exL_to (ft : Nat → Option Ent) (cl : List Fn) (hn : List (Nat × Int32)) (sw : List (List Nat)) {pc : Nat} {ls st : List Value} {h : Hp} {r : (Option Value × Hp) ⊕ (Nat × Hp)} (e : exL SKc SKn SKr CS ft cl hn sw pc ls st h = some r) : ∃ n, exN SKc SKn SKr CS ft cl hn sw n pc ls st h = some r := by
  unfold exL at e
  split at e
  · rename_i q
    obtain ⟨k, hk⟩ := Classical.choose_spec q
    exact ⟨k, hk.trans e⟩
  · cases e
theorem exL_stp (ft : Nat → Option Ent) (cl : List Fn) (hn : List (Nat × Int32)) (sw : List (List Nat)) (pc : Nat) (ls st : List Value) (h : Hp) : exL SKc SKn SKr CS ft cl hn sw pc ls st h = stp SKc SKn SKr CS ft cl hn sw (exL SKc SKn SKr CS ft cl hn sw) pc ls st h := by
  rcases stp_l2 SKc SKn SKr CS ft cl hn sw pc ls st h with ⟨pc2, ls2, st2, h2, q⟩ | ⟨r2, q⟩
  · rw [q]
    rcases e : exL SKc SKn SKr CS ft cl hn sw pc2 ls2 st2 h2 with _ | r
    · rcases e1 : exL SKc SKn SKr CS ft cl hn sw pc ls st h with _ | r
      · rfl
      · obtain ⟨n, hn1⟩ := exL_to SKc SKn SKr CS ft cl hn sw e1
        cases n with
        | zero => cases hn1
        | succ n =>
          have h3 : stp SKc SKn SKr CS ft cl hn sw (exN SKc SKn SKr CS ft cl hn sw n) pc ls st h = some r := hn1
          rw [q] at h3
          rw [exL_of SKc SKn SKr CS ft cl hn sw h3] at e
          cases e
    · obtain ⟨n, hn1⟩ := exL_to SKc SKn SKr CS ft cl hn sw e
      refine exL_of SKc SKn SKr CS ft cl hn sw (n := n + 1) ?_
      show stp SKc SKn SKr CS ft cl hn sw (exN SKc SKn SKr CS ft cl hn sw n) pc ls st h = some r
      rw [q]; exact hn1
  · rw [q]
    cases r2 with
    | none =>
      rcases e1 : exL SKc SKn SKr CS ft cl hn sw pc ls st h with _ | r
      · rfl
      · obtain ⟨n, hn1⟩ := exL_to SKc SKn SKr CS ft cl hn sw e1
        cases n with
        | zero => cases hn1
        | succ n =>
          have h3 : stp SKc SKn SKr CS ft cl hn sw (exN SKc SKn SKr CS ft cl hn sw n) pc ls st h = some r := hn1
          rw [q] at h3
          cases h3
    | some r =>
      refine exL_of SKc SKn SKr CS ft cl hn sw (n := 1) ?_
      show stp SKc SKn SKr CS ft cl hn sw (exN SKc SKn SKr CS ft cl hn sw 0) pc ls st h = some r
      rw [q]
theorem exL_kl (ft : Nat → Option Ent) (cl : List Fn) (hn : List (Nat × Int32)) (sw : List (List Nat)) (pc : Nat) (ls st : List Value) (h : Hp) : exL SKc SKn SKr CS ft cl hn sw pc (kl (msk ft pc) ls) st h = exL SKc SKn SKr CS ft cl hn sw pc ls st h := by
  rw [exL_stp, exL_stp SKc SKn SKr CS ft cl hn sw pc ls st h]
  unfold stp msk
  rcases ft pc with _ | ⟨m, i, len, b, c, d, x⟩
  · rfl
  · show stI SKc SKn SKr CS cl hn sw i len b c d x _ pc (kl m (kl m ls)) st h = _
    rw [kl_kl]
/-- k steps at once, stopping at the places of a list -/
def itK (ft : Nat → Option Ent) (cl : List Fn) (hn : List (Nat × Int32)) (sw : List (List Nat)) (cuts : List Nat) (K : Kt) : Nat → Kt
  | 0 => K
  | n + 1 => fun pc ls st h => stp SKc SKn SKr CS ft cl hn sw (fun pc2 ls2 st2 h2 => match memb pc2 cuts with
      | true => K pc2 (kl (msk ft pc2) ls2) st2 h2
      | false => itK ft cl hn sw cuts K n pc2 ls2 st2 h2) pc ls st h
theorem exL_it (ft : Nat → Option Ent) (cl : List Fn) (hn : List (Nat × Int32)) (sw : List (List Nat)) (cuts : List Nat) : ∀ (n : Nat) (pc : Nat) (ls st : List Value) (h : Hp), exL SKc SKn SKr CS ft cl hn sw pc ls st h = itK SKc SKn SKr CS ft cl hn sw cuts (exL SKc SKn SKr CS ft cl hn sw) n pc ls st h := by
  intro n
  induction n with
  | zero => intro pc ls st h; rfl
  | succ n ih =>
    intro pc ls st h
    rw [exL_stp]
    show _ = stp SKc SKn SKr CS ft cl hn sw (fun pc2 ls2 st2 h2 => match memb pc2 cuts with
      | true => exL SKc SKn SKr CS ft cl hn sw pc2 (kl (msk ft pc2) ls2) st2 h2
      | false => itK SKc SKn SKr CS ft cl hn sw cuts (exL SKc SKn SKr CS ft cl hn sw) n pc2 ls2 st2 h2) pc ls st h
    congr 1
    funext pc2 ls2 st2 h2
    cases memb pc2 cuts
    · exact ih pc2 ls2 st2 h2
    · exact (exL_kl SKc SKn SKr CS ft cl hn sw pc2 ls2 st2 h2).symm
end
