/-! ===== soundness: the abstract machine's runs are the machine's ===== -/
def WG : List Jvm.Cond := lw_tbl.filter goodWord
theorem wg_in {i : Nat} {w : Jvm.Cond} (h : lw_tbl[i]? = some w) (g : goodWord w = true) : w ∈ WG := List.mem_filter.mpr ⟨List.mem_of_getElem? h, g⟩
theorem wg_good : GoodIn WG WG := fun w h => ⟨h, good_of_word (List.mem_filter.mp h).2⟩
theorem wg_tbl : ∀ w ∈ WG, w ∈ lw_tbl := fun w h => (List.mem_filter.mp h).1
/-- an address, a value, as they stand in the machine -/
def trA (base sb a : Nat) : Nat := cond (Nat.beq a 1000) sb (base + a)
def tr (base sb : Nat) : Value → Value
  | .ref a => .ref (trA base sb a)
  | .int x => .int x
  | .long x => .long x
  | .null => .null
  | v => v
def rfk (ci k : Nat) : Bool := match ci with
  | 0 => Nat.blt k 2
  | 5 => Nat.blt k 10
  | _ => false
def valE (base : Nat) (h : Hp) (a c k : Nat) : Value := cond (rfk c k) (.ref (base + SKr a k)) (.int (rd h a k))
def entE (base : Nat) (dA : Nat → ClassId) (h : Hp) (a : Nat) : va_E :=
  cond (Nat.blt (SKc a) 10) (.inr (SKc a, (List.range (SKn a)).map (valE base h a (SKc a))))
    (cond (Nat.blt (SKc a) 12) (.inl (dA (SKc a - 10), SKn a, .inl (fun j => rd h a j)))
      (cond (Nat.beq (SKc a) 12) (.inl (dA 2, SKn a, .inr (.inl (fun j => rdL h j))))
        (.inl (dA (SKc a - 10), SKn a, .inr (.inr (.inr (.inr (fun j => some (base + SKr a j)))))))))

def wd (base : Nat) (dA : Nat → ClassId) (h : Hp) : va_W := (List.range 228).map fun a => (base + a, entE base dA h a)
def tys (dA : Nat → ClassId) : List (ClassId × FieldType) := [(dA 0, .int), (dA 1, .int), (dA 2, .int), (dA 3, .object "SlotConference$Airport"), (dA 4, .object "SlotConference$Rule"), (dA 5, .object "SlotConference$Request"), (dA 6, .object "SlotConference$Series"), (dA 7, .object "SlotConference$Right")]
abbrev Ab (base : Nat) : Nat → Prop := fun q => base ≤ q
theorem wd_get {base : Nat} {dA : Nat → ClassId} {h : Hp} {a : Nat} (ha : a < 228) : (wd base dA h)[a]? = some (base + a, entE base dA h a) := by
  unfold wd
  rw [List.getElem?_map, List.getElem?_range ha]
  rfl
theorem wd_of {base : Nat} {dA : Nat → ClassId} {h : Hp} {k : Nat} {q : Nat × va_E} (e : (wd base dA h)[k]? = some q) : k < 228 ∧ q = (base + k, entE base dA h k) := by
  have hk : k < 228 := by
    have h1 := (List.getElem?_eq_some_iff.mp e).1
    simpa [wd] using h1
  rw [wd_get hk] at e
  exact ⟨hk, (Option.some.inj e).symm⟩
theorem wd_D {base : Nat} {dA : Nat → ClassId} {h : Hp} : va_D (Ab base) (wd base dA h) := by
  refine ⟨fun i j p q hi hj hpq => ?_, fun k q hk => ?_⟩
  · obtain ⟨-, rfl⟩ := wd_of hi
    obtain ⟨-, rfl⟩ := wd_of hj
    have h2 : base + i = base + j := hpq
    omega
  · obtain ⟨-, rfl⟩ := wd_of hk
    exact Nat.le_add_right _ _
theorem wd_set {base : Nat} {dA : Nat → ClassId} {h g : Hp} {a : Nat} {e : va_E} (ha : a < 228) (he : entE base dA g a = e) (ho : ∀ b, b < 228 → b ≠ a → entE base dA g b = entE base dA h b) : (wd base dA h).set a (base + a, e) = wd base dA g := by
  apply List.ext_getElem?
  intro k
  by_cases hk : k < 228
  · by_cases hka : k = a
    · subst hka
      rw [List.getElem?_set_self (by simpa [wd] using hk), wd_get hk, he]
    · rw [List.getElem?_set_ne (Ne.symm hka), wd_get hk, wd_get hk, ho k hk hka]
  · have l1 : (wd base dA h).length = 228 := by simp [wd]
    have l2 : (wd base dA g).length = 228 := by simp [wd]
    rw [List.getElem?_eq_none (by rw [List.length_set, l1]; omega), List.getElem?_eq_none (by rw [l2]; omega)]
/-- classes of addresses -/
theorem SKc_lt {a : Nat} (h : SKc a < 18) : a < 228 := by
  rcases Nat.lt_or_ge a 228 with q | q
  · exact q
  · exfalso
    have h1 : Nat.blt a 11 = false := by rw [Bool.eq_false_iff]; intro z; have := Nat.blt_eq.mp z; omega
    have h2 : Nat.blt a 47 = false := by rw [Bool.eq_false_iff]; intro z; have := Nat.blt_eq.mp z; omega
    have h3 : Nat.blt a 107 = false := by rw [Bool.eq_false_iff]; intro z; have := Nat.blt_eq.mp z; omega
    have h4 : Nat.blt a 167 = false := by rw [Bool.eq_false_iff]; intro z; have := Nat.blt_eq.mp z; omega
    have h5 : Nat.blt a 227 = false := by rw [Bool.eq_false_iff]; intro z; have := Nat.blt_eq.mp z; omega
    have h6 : Nat.blt a 228 = false := by rw [Bool.eq_false_iff]; intro z; have := Nat.blt_eq.mp z; omega
    unfold SKc at h
    rw [h1, h2, h3, h4, h5, h6] at h
    cases h7 : Nat.beq a 1000 <;> rw [h7] at h <;> simp at h
theorem SKc_18 {a : Nat} (h : SKc a = 18) : a = 1000 := by
  rcases Nat.lt_or_ge a 228 with q | q
  · exfalso
    have : ∀ a, a < 228 → SKc a ≠ 18 := by decide +kernel
    exact this a q h
  · have h1 : Nat.blt a 11 = false := by rw [Bool.eq_false_iff]; intro z; have := Nat.blt_eq.mp z; omega
    have h2 : Nat.blt a 47 = false := by rw [Bool.eq_false_iff]; intro z; have := Nat.blt_eq.mp z; omega
    have h3 : Nat.blt a 107 = false := by rw [Bool.eq_false_iff]; intro z; have := Nat.blt_eq.mp z; omega
    have h4 : Nat.blt a 167 = false := by rw [Bool.eq_false_iff]; intro z; have := Nat.blt_eq.mp z; omega
    have h5 : Nat.blt a 227 = false := by rw [Bool.eq_false_iff]; intro z; have := Nat.blt_eq.mp z; omega
    have h6 : Nat.blt a 228 = false := by rw [Bool.eq_false_iff]; intro z; have := Nat.blt_eq.mp z; omega
    unfold SKc at h
    rw [h1, h2, h3, h4, h5, h6] at h
    cases h7 : Nat.beq a 1000 <;> rw [h7] at h
    · simp at h
    · exact Nat.eq_of_beq_eq_true h7
theorem memb_in {x : Nat} : ∀ {l : List Nat}, memb x l = true → x ∈ l
  | y :: t, h => by
    unfold memb at h
    cases e : Nat.beq x y <;> rw [e] at h
    · exact List.mem_cons_of_mem _ (memb_in h)
    · rw [Nat.eq_of_beq_eq_true e]; exact List.mem_cons_self
/-- the three throwables, by number -/
def EN : Nat → String
  | 0 => "java/lang/IndexOutOfBoundsException"
  | 1 => "java/lang/IllegalArgumentException"
  | _ => "java/lang/IllegalStateException"
/-- texts of the own classes' throws -/
abbrev StrT : Type := String × Nat × String
def vz_S (L : List StrT) (U : State) : Prop := ∀ q ∈ L, ∃ a, vk_R q.1 q.2.1 q.2.2 a U
theorem vz_S.warm {L : List StrT} {s U : State} (hW : s.WarmedH U.vm) (h : vz_S L s) : vz_S L U := fun q hq => by
  obtain ⟨a, ha⟩ := h q hq
  exact ⟨a, vk_R.warm hW ha⟩
def vz_C (L : List Jvm.Cond) (U : State) : Prop := ∀ w ∈ L, w.before #[] U = true
theorem vz_C.moved {L : List Jvm.Cond} (hf : ∀ w ∈ L, Cond.faceAtom w = true) {u U : State} (hvm : u.vm.Alike U.vm) (h : vz_C L u) : vz_C L U := fun w hw => by
  have h1 := Cond.faceAtom_setVm hvm w (hf w hw) (h w hw)
  have h2 := hf w hw
  cases w <;> first | exact h1 | (simp [Cond.faceAtom] at h2)
/-! the world at a place of a run -/
def EXW : List Jvm.Cond := [.castable "java/lang/IndexOutOfBoundsException" "java/lang/IndexOutOfBoundsException", .castable "java/lang/IllegalArgumentException" "java/lang/IllegalArgumentException", .castable "java/lang/IllegalStateException" "java/lang/IllegalStateException", .declares ⟨"java/lang/RuntimeException", "<init>", "(Ljava/lang/String;)V"⟩, .declares ⟨"java/lang/Exception", "<init>", "(Ljava/lang/String;)V"⟩, .declares ⟨"java/lang/Throwable", "<init>", "(Ljava/lang/String;)V"⟩]
theorem EXW_face : ∀ w ∈ EXW, Cond.faceAtom w = true := by
  intro w hw
  simp only [EXW, List.mem_cons, List.not_mem_nil, or_false] at hw
  rcases hw with rfl | rfl | rfl | rfl | rfl | rfl <;> rfl
/-- which throwable isn't of which class -/
def EXN (U : State) : Prop := va_Nc (EN 2) (EN 1) U ∧ va_Nc (EN 1) (EN 2) U
/-- what the throws and the catches ask of the tables -/
def Ex0 (SL : List StrT) (U : State) : Prop := vz_C EXW U ∧ EXN U ∧ vz_S SL U
theorem Ex0.warm {SL : List StrT} {s U : State} (hW : s.WarmedH U.vm) (h : Ex0 SL s) : Ex0 SL U :=
  ⟨vz_C.moved EXW_face hW.alike h.1, ⟨va_Nc.moved hW.alike h.2.1.1, va_Nc.moved hW.alike h.2.1.2⟩, vz_S.warm hW h.2.2⟩
/-- .. and of two cells ahead of the world -/
def Ex1 (A : Nat → Prop) (U : State) (H : Heap) : Prop := vx_Zq Bundle.tN "UNASSIGNED_STACK" Bundle.steD A U H ∧ vx_Zq Bundle.tN "SUPPRESSED_SENTINEL" Bundle.listD A U H
def Wd (base sb : Nat) (D : va_G) (dA : Nat → ClassId) (h : Hp) (U : State) (H : Heap) : Prop :=
  va_P D vwCl (wd base dA h) H ∧ va_X sb (rd h SCRB 0).toNatClampNeg (fun j => rd h SCRA j) U H ∧ sb < base ∧ Ex1 (Ab base) U H
theorem Wd.moved {base sb : Nat} {D : va_G} {dA : Nat → ClassId} {h : Hp} {u U : State} {H : Heap} (hvm : u.vm.Alike U.vm) (w : Wd base sb D dA h u H) : Wd base sb D dA h U H :=
  ⟨w.1, va_X.moved hvm w.2.1, w.2.2.1, vx_Zq.moved hvm w.2.2.2.1, vx_Zq.moved hvm w.2.2.2.2⟩
/-- a heap that keeps all but the world, with the world given anew -/
theorem Wd.put {base sb : Nat} {D : va_G} {dA : Nat → ClassId} {h g : Hp} {U : State} {H H1 : Heap} (w : Wd base sb D dA h U H) (hP : va_P D vwCl (wd base dA g) H1) (e1 : rd g SCRB 0 = rd h SCRB 0) (e2 : (fun j => rd g SCRA j) = fun j => rd h SCRA j) (hk : ∀ q : Nat, q < H.size → ¬ Ab base q → H1[q]? = H[q]?) : Wd base sb D dA g U H1 := by
  refine ⟨hP, ?_, w.2.2.1, w.2.2.2.1.kept hk, w.2.2.2.2.kept hk⟩
  rw [e1, e2]
  refine va_X.kept w.2.1 (hk sb ?_ (Nat.not_le.mpr w.2.2.1))
  obtain ⟨scr, h1, -⟩ := w.2.1
  exact (Array.getElem?_eq_some_iff.mp h1).1
def Cx (SL : List StrT) (p : Program) (s : State) (m : MethodId) (args : Array Value) (c : Code) (cc : ByteArray) (nL : Nat) (own : String) (D : va_G) (dA : Nat → ClassId) : Prop :=
  p.tables.exec = Jvm.exec ∧ c.code = cc ∧ c.maxLocals = nL ∧ s.vm.findClass own = some m.cls ∧ (∀ w ∈ WG, w.before args s = true) ∧ va_K D vwCl (tys dA) s ∧ Ex0 SL s
/-- locals -/
def LR (base sb : Nat) (ls : Array Slot) (nL : Nat) (lA : List Value) : Prop := ls.size = nL ∧ lv_wf ls ∧ ∀ (i : Nat) (v : Value), lA[i]? = some v → v ≠ .retAddr 0 → v.category = 1 ∧ ls[i]? = some (.val (tr base sb v))
theorem nth_get {v : Value} (hv : v ≠ .retAddr 0) : ∀ {l : List Value} {i : Nat}, nth l i = v → l[i]? = some v
  | [], i, h => absurd h.symm hv
  | w :: t, 0, h => by rw [← h]; rfl
  | w :: t, i + 1, h => by rw [List.getElem?_cons_succ]; exact nth_get hv h
theorem setn_get {x v : Value} : ∀ {l : List Value} {i j : Nat}, (setn l i x)[j]? = some v → (j = i ∧ v = x) ∨ (j ≠ i ∧ l[j]? = some v)
  | [], i, j, h => by simp [setn] at h
  | w :: t, 0, 0, h => Or.inl ⟨rfl, by simpa [setn] using h.symm⟩
  | w :: t, 0, j + 1, h => Or.inr ⟨Nat.succ_ne_zero j, h⟩
  | w :: t, i + 1, 0, h => Or.inr ⟨Nat.zero_ne_add_one i, h⟩
  | w :: t, i + 1, j + 1, h => by
    rcases setn_get (l := t) (i := i) (j := j) (by simpa [setn] using h) with ⟨e1, e2⟩ | ⟨e1, e2⟩
    · exact Or.inl ⟨by rw [e1], e2⟩
    · exact Or.inr ⟨fun z => e1 (by omega), by simpa using e2⟩
theorem kl_get {v : Value} (hv : v ≠ .retAddr 0) : ∀ {m : List Bool} {l : List Value} {j : Nat}, (kl m l)[j]? = some v → l[j]? = some v
  | [], l, j, h => h
  | b :: m, [], j, h => by simp [kl] at h
  | true :: m, w :: t, 0, h => by
    have : Value.retAddr 0 = v := by simpa [kl] using h
    exact absurd this.symm hv
  | true :: m, w :: t, j + 1, h => by
    rw [List.getElem?_cons_succ]
    exact kl_get hv (m := m) (by simpa [kl] using h)
  | false :: m, w :: t, 0, h => h
  | false :: m, w :: t, j + 1, h => by
    rw [List.getElem?_cons_succ]
    exact kl_get hv (m := m) (by simpa [kl] using h)
theorem LR.kl {base sb : Nat} {ls : Array Slot} {nL : Nat} {lA : List Value} (h : LR base sb ls nL lA) (m : List Bool) : LR base sb ls nL (kl m lA) :=
  ⟨h.1, h.2.1, fun i v hi hv => h.2.2 i v (kl_get hv hi) hv⟩
/-- the listed values, for the kit's rows -/
def lrL (base sb : Nat) (lA : List Value) : List (Nat × Value) := (List.range lA.length).filterMap fun i => match lA[i]? with
  | some v => if v = .retAddr 0 then none else some (i, tr base sb v)
  | none => none
theorem LR.has {base sb : Nat} {ls : Array Slot} {nL : Nat} {lA : List Value} (h : LR base sb ls nL lA) : lv_has ls nL (lrL base sb lA) := by
  refine ⟨h.1, h.2.1, fun q hq => ?_⟩
  obtain ⟨i, -, hi⟩ := List.mem_filterMap.mp hq
  cases e : lA[i]? with
  | none => rw [e] at hi; simp at hi
  | some v =>
    rw [e] at hi
    by_cases z : v = .retAddr 0
    · simp [z] at hi
    · simp [z] at hi
      rw [← hi]
      exact (h.2.2 i v e z).2
theorem tr_cat {base sb : Nat} (v : Value) : (tr base sb v).category = v.category := by cases v <;> rfl
theorem tr_cats {base sb : Nat} : ∀ (t : List Value), ((t.map (tr base sb)).map fun v => v.category).sum = cats t
  | [] => rfl
  | v :: t => by
    rw [List.map_cons, List.map_cons, List.sum_cons, tr_cat, tr_cats t]
    rfl
/-- behind a store -/
theorem LR.set {base sb : Nat} {ls ls' : Array Slot} {nL i : Nat} {lA : List Value} {v : Value} (h : LR base sb ls nL lA) (hv : v.category = 1) (h' : lv_has ls' nL ((i, tr base sb v) :: (lrL base sb lA).filter (fun q => !(q.1 == i) && !(q.1 + 1 == i && q.2.category == 2)))) : LR base sb ls' nL (setn lA i v) := by
  refine ⟨h'.1, h'.2.1, fun j w hj hw => ?_⟩
  rcases setn_get hj with ⟨e1, e2⟩ | ⟨e1, e2⟩
  · subst e1; subst e2
    exact ⟨hv, h'.2.2 _ List.mem_cons_self⟩
  · have h1 := h.2.2 j w e2 hw
    refine ⟨h1.1, h'.2.2 (j, tr base sb w) (List.mem_cons_of_mem _ (List.mem_filter.mpr ⟨?_, ?_⟩))⟩
    · refine List.mem_filterMap.mpr ⟨j, List.mem_range.mpr (List.getElem?_eq_some_iff.mp e2).1, ?_⟩
      rw [e2]
      simp [hw]
    · have c2 : ((tr base sb w).category == 2) = false := by rw [tr_cat, h1.1]; rfl
      simp [e1, c2]
theorem LR.get {base sb : Nat} {ls : Array Slot} {nL i : Nat} {lA : List Value} {v : Value} (h : LR base sb ls nL lA) (hv : v ≠ .retAddr 0) (e : nth lA i = v) : ls[i]? = some (.val (tr base sb v)) := (h.2.2 i v (nth_get hv e) hv).2
/-! inversions -/
section INV
variable {r : (Option Value × Hp) ⊕ (Nat × Hp)}
theorem pI_inv {st : List Value} {f : Int32 → List Value → Res} (h : pI st f = some r) : ∃ x t, st = .int x :: t ∧ f x t = some r := by
  rcases st with _ | ⟨v, t⟩
  · cases h
  · cases v <;> first | exact ⟨_, _, rfl, h⟩ | cases h
theorem pL_inv {st : List Value} {f : Int64 → List Value → Res} (h : pL st f = some r) : ∃ x t, st = .long x :: t ∧ f x t = some r := by
  rcases st with _ | ⟨v, t⟩
  · cases h
  · cases v <;> first | exact ⟨_, _, rfl, h⟩ | cases h
theorem pR_inv {st : List Value} {f : Nat → List Value → Res} (h : pR st f = some r) : ∃ x t, st = .ref x :: t ∧ f x t = some r := by
  rcases st with _ | ⟨v, t⟩
  · cases h
  · cases v <;> first | exact ⟨_, _, rfl, h⟩ | cases h
theorem pA_inv {st : List Value} {f : Value → List Value → Res} (h : pA st f = some r) : (∃ x t, st = .ref x :: t ∧ f (.ref x) t = some r) ∨ ∃ t, st = .null :: t ∧ f .null t = some r := by
  rcases st with _ | ⟨v, t⟩
  · cases h
  · cases v <;> first | exact Or.inl ⟨_, _, rfl, h⟩ | exact Or.inr ⟨_, rfl, h⟩ | cases h
theorem p1_inv {st : List Value} {f : Value → List Value → Res} (h : p1 st f = some r) : ∃ v t, st = v :: t ∧ v.category = 1 ∧ f v t = some r := by
  rcases st with _ | ⟨v, t⟩
  · cases h
  · cases v <;> first | exact ⟨_, _, rfl, rfl, h⟩ | cases h
theorem pN_inv {st : List Value} {f g : List Value → Res} (h : pN st f g = some r) : (∃ t, st = .null :: t ∧ f t = some r) ∨ ∃ x t, st = .ref x :: t ∧ g t = some r := by
  rcases st with _ | ⟨v, t⟩
  · cases h
  · cases v <;> first | exact Or.inl ⟨_, rfl, h⟩ | exact Or.inr ⟨_, _, rfl, h⟩ | cases h
theorem lI_inv {v : Value} {f : Int32 → Res} (h : lI v f = some r) : ∃ x, v = .int x ∧ f x = some r := by
  cases v <;> first | exact ⟨_, rfl, h⟩ | cases h
theorem lA_inv {v : Value} {f : Value → Res} (h : lA v f = some r) : (∃ x, v = .ref x ∧ f (.ref x) = some r) ∨ (v = .null ∧ f .null = some r) := by
  cases v <;> first | exact Or.inl ⟨_, rfl, h⟩ | exact Or.inr ⟨rfl, h⟩ | cases h
theorem gd_inv {b : Bool} {x : Res} (h : gd b x = some r) : b = true ∧ x = some r := by
  cases b
  · cases h
  · exact ⟨rfl, h⟩
theorem popn_inv {f : List Value → List Value → Res} : ∀ {n : Nat} {st acc : List Value}, popn n st acc f = some r → ∃ as t, st = as.reverse ++ t ∧ as.length = n ∧ f (as ++ acc) t = some r ∧ (∀ v ∈ as, v.category = 1)
  | 0, st, acc, h => ⟨[], st, rfl, rfl, h, fun _ h => nomatch h⟩
  | n + 1, [], acc, h => by cases h
  | n + 1, .int x :: t, acc, h => by
    obtain ⟨as, t2, e1, e2, e3, e4⟩ := popn_inv (n := n) h
    exact ⟨as ++ [.int x], t2, by simp [e1], by simp [e2], by simpa using e3, fun v hv => by
      rcases List.mem_append.mp hv with q | q
      · exact e4 v q
      · rw [List.mem_singleton.mp q]; rfl⟩
  | n + 1, .ref x :: t, acc, h => by
    obtain ⟨as, t2, e1, e2, e3, e4⟩ := popn_inv (n := n) h
    exact ⟨as ++ [.ref x], t2, by simp [e1], by simp [e2], by simpa using e3, fun v hv => by
      rcases List.mem_append.mp hv with q | q
      · exact e4 v q
      · rw [List.mem_singleton.mp q]; rfl⟩
  | n + 1, .long _ :: t, acc, h => by cases h
  | n + 1, .float _ :: t, acc, h => by cases h
  | n + 1, .double _ :: t, acc, h => by cases h
  | n + 1, .null :: t, acc, h => by cases h
  | n + 1, .retAddr _ :: t, acc, h => by cases h
theorem swt_inv {v : Int32} {k : Nat → Res} {d : Res} : ∀ {ts : List Nat} {n : Nat}, swt v n ts k d = some r → (∃ (j tg : Nat), ts[j]? = some tg ∧ v = Int32.ofNat (n + j) ∧ k tg = some r) ∨ ((∀ j, j < ts.length → v ≠ Int32.ofNat (n + j)) ∧ d = some r)
  | [], n, h => Or.inr ⟨fun j hj => absurd hj (Nat.not_lt_zero j), h⟩
  | t :: ts, n, h => by
    by_cases q : v = Int32.ofNat n
    · have h1 : k t = some r := by rw [← h]; simp [swt, q]
      exact Or.inl ⟨0, t, rfl, q, h1⟩
    · have h1 : swt v (n + 1) ts k d = some r := by rw [← h]; simp [swt, q]
      rcases swt_inv h1 with ⟨j, tg, e1, e2, e3⟩ | ⟨e1, e2⟩
      · exact Or.inl ⟨j + 1, tg, by simpa using e1, by rw [e2]; congr 1; omega, e3⟩
      · refine Or.inr ⟨fun j hj => ?_, e2⟩
        cases j with
        | zero => exact q
        | succ j =>
          have := e1 j (by simpa using hj)
          rw [show n + (j + 1) = n + 1 + j by omega]
          exact this
theorem lkp_mem {α : Type} {v : α} {k : Nat} : ∀ {T : List (Nat × α)}, lkp T k = some v → (k, v) ∈ T
  | [], h => by cases h
  | (j, w) :: t, h => by
    unfold lkp at h
    cases e : Nat.beq j k <;> rw [e] at h
    · exact List.mem_cons_of_mem _ (lkp_mem h)
    · have e1 := Nat.eq_of_beq_eq_true e
      have e2 : w = v := Option.some.inj h
      rw [← e1, ← e2]
      exact List.mem_cons_self
theorem lk2_mem {α : Type} {v : α} {k : Nat} {T : List (List (Nat × α))} (h : lk2 T k = some v) : ∃ l ∈ T, (k, v) ∈ l := by
  unfold lk2 at h
  cases e : T[k / 64]? with
  | none => rw [e] at h; cases h
  | some l =>
    rw [e] at h
    exact ⟨l, List.mem_of_getElem? e, lkp_mem h⟩
end INV
/-! classes of the world's cells -/
def NCL : List Nat := [6, 14, 9, 3, 13, 15]
theorem ncl_ok : ∀ a, a < 228 → SKc a < 10 → nthN NCL (SKc a) = SKn a := by decide +kernel
theorem skc_7 : ∀ a, a < 228 → SKc a < 10 → SKc a < 7 := by decide +kernel
theorem skr_ok : ∀ a, a < 228 → SKc a < 7 → ∀ k, k < SKn a → rfk (SKc a) k = true → SKr a k < 228 := by decide +kernel
theorem skr_ok2 : ∀ a, a < 228 → 13 ≤ SKc a → ∀ k, k < SKn a → SKr a k < 228 := by decide +kernel
theorem skn_small : ∀ a, a < 228 → SKn a < 100 := by decide +kernel
set_option maxRecDepth 100000 in
theorem inW0 : ∀ w ∈ wsX00, w ∈ WG := by decide +kernel
set_option maxRecDepth 100000 in
theorem inW1 : ∀ w ∈ wsX10, w ∈ WG := by decide +kernel
set_option maxRecDepth 100000 in
theorem inW2 : ∀ w ∈ wsX20, w ∈ WG := by decide +kernel
set_option maxRecDepth 100000 in
theorem inW3 : ∀ w ∈ wsX30, w ∈ WG := by decide +kernel
set_option maxRecDepth 100000 in
theorem inW4 : ∀ w ∈ wsX40, w ∈ WG := by decide +kernel
set_option maxRecDepth 100000 in
theorem inW6 : ∀ w ∈ wsX60, w ∈ WG := by decide +kernel
/-- what the kit's rows ask of a class -/
def clOK (C : String) (T : u_T) (N : Nat) : Prop := (∀ w ∈ u_ws C T N, w ∈ WG) ∧ ∃ ty : Nat → FieldType, (∀ k, k < N → parseFieldDescriptor (T k).2.2.1 = some (ty k)) ∧ ∀ a, a < N → ∀ b, b < N → a ≠ b → (T a).2.1 ≠ (T b).2.1
theorem cl_ok {ci : Nat} {C : String} {T : u_T} {N : Nat} (h : vwCl[ci]? = some (C, T, N)) : ci < 7 ∧ nthN NCL ci = N ∧ clOK C T N := by
  match ci, h with
  | 0, h => cases h; exact ⟨by decide, rfl, inW0, tyX0, tyX0_ok, nmX0⟩
  | 1, h => cases h; exact ⟨by decide, rfl, inW1, tyX1, tyX1_ok, nmX1⟩
  | 2, h => cases h; exact ⟨by decide, rfl, inW2, tyX2, tyX2_ok, nmX2⟩
  | 3, h => cases h; exact ⟨by decide, rfl, inW3, tyX3, tyX3_ok, nmX3⟩
  | 4, h => cases h; exact ⟨by decide, rfl, inW4, tyX4, tyX4_ok, nmX4⟩
  | 5, h => cases h; exact ⟨by decide, rfl, inW6, tyX6, tyX6_ok, nmX6⟩
  | k + 6, h => simp [vwCl] at h
theorem skc_no : ∀ a, a < 228 → SKc a ≠ 11 ∧ SKc a ≠ 12 := by decide +kernel
