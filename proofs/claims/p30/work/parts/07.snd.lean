/-! one step of the abstract machine is the machine's -/
theorem bV_inv {r : (Option Value × Hp) ⊕ (Nat × Hp)} {x : Res} {k : Hp → Res} {kx : Nat → Hp → Res} (h : bV x k kx = some r) : (∃ g, x = some (.inl (none, g)) ∧ k g = some r) ∨ ∃ E g, x = some (.inr (E, g)) ∧ kx E g = some r := by
  rcases x with _ | ⟨_ | v, g⟩ | ⟨E, g⟩
  · cases h
  · exact Or.inl ⟨g, rfl, h⟩
  · cases h
  · exact Or.inr ⟨E, g, rfl, h⟩
theorem bI_inv {r : (Option Value × Hp) ⊕ (Nat × Hp)} {x : Res} {k : Int32 → Hp → Res} {kx : Nat → Hp → Res} (h : bI x k kx = some r) : (∃ v g, x = some (.inl (some (.int v), g)) ∧ k v g = some r) ∨ ∃ E g, x = some (.inr (E, g)) ∧ kx E g = some r := by
  rcases x with _ | ⟨_ | v, g⟩ | ⟨E, g⟩
  · cases h
  · cases h
  · cases v <;> first | exact Or.inl ⟨_, g, rfl, h⟩ | cases h
  · exact Or.inr ⟨E, g, rfl, h⟩
theorem bR_inv {r : (Option Value × Hp) ⊕ (Nat × Hp)} {x : Res} {k : Nat → Hp → Res} {kx : Nat → Hp → Res} (h : bR x k kx = some r) : (∃ v g, x = some (.inl (some (.ref v), g)) ∧ k v g = some r) ∨ ∃ E g, x = some (.inr (E, g)) ∧ kx E g = some r := by
  rcases x with _ | ⟨_ | v, g⟩ | ⟨E, g⟩
  · cases h
  · cases h
  · cases v <;> first | exact Or.inl ⟨_, g, rfl, h⟩ | cases h
  · exact Or.inr ⟨E, g, rfl, h⟩
/-- what comes of a call: its answer goes on, or what it throws is caught or goes out -/
theorem clK_inv {r : (Option Value × Hp) ⊕ (Nat × Hp)} {rk : Nat} {x : Res} {kV : Hp → Res} {kI : Int32 → Hp → Res} {kR : Nat → Hp → Res} {kx : Nat → Hp → Res} {K : List Value → Hp → Res} {t : List Value}
    (h : clK rk x kV kI kR kx = some r) (eV : ∀ g, kV g = K t g) (eI : ∀ v g, kI v g = K (.int v :: t) g) (eR : ∀ v g, kR v g = K (.ref v :: t) g) : (∃ (v : Option Value) (g : Hp), x = some (.inl (v, g)) ∧ K (v.toList ++ t) g = some r) ∨ ∃ E g, x = some (.inr (E, g)) ∧ kx E g = some r := by
  rcases rk with _ | _ | _
  · rcases bV_inv h with ⟨g, e1, e2⟩ | q
    · exact Or.inl ⟨none, g, e1, (eV g).symm.trans e2⟩
    · exact Or.inr q
  · rcases bI_inv h with ⟨v, g, e1, e2⟩ | q
    · exact Or.inl ⟨some (.int v), g, e1, (eI v g).symm.trans e2⟩
    · exact Or.inr q
  · rcases bR_inv h with ⟨v, g, e1, e2⟩ | q
    · exact Or.inl ⟨some (.ref v), g, e1, (eR v g).symm.trans e2⟩
    · exact Or.inr q
def insC (q : Nat × Nat × Nat × Nat × Nat) : Instr := match q.1 with
  | 0 => .invokevirtual q.2.1
  | _ => .invokestatic q.2.1
/-- a call at the place of such an instruction does what F says -/
def CallOK (SL : List StrT) (l : Launch) (R : Room) (own : String) (i : Instr) (n d : Nat) (F : Fn) (dc ds : Nat) : Prop :=
  ∀ (p : Program) (e : Env) (s : State) (m : MethodId) (args : Array Value) (below : List Frame) (meth : Method) (c : Code) (cc : ByteArray) (nL base sb : Nat) (D : va_G) (dA : Nat → ClassId) (Q : State → Prop) (H : Heap) (locs : List Loc) (cells slots pc : Nat) (ls : Array Slot) (rest vs : List Value) (h : Hp),
    Cx SL p s m args c cc nL own D dA → decode cc pc = .ok (i, 3) → ls.size = nL → vs.length = n → recv SKc CS vs d = true → (rest.map fun v => v.category).sum ≤ 8 →
    Wd base sb D dA h s H → va_S (Ab base) s.heap H locs → base ≤ s.heap.size → cells + dc ≤ R.cells → slots + ds ≤ R.slots → F vs h ≠ none →
    (∀ (v : Option Value) (g : Hp), F vs h = some (.inl (v, g)) → ∀ (H' : Heap) (locs' : List Loc), Wd base sb D dA g s H' → va_S (Ab base) s.heap H' locs' →
      W p l e R s m args below meth c H' locs' (cells + dc) (slots + ds) Q (F0 m (pc + 3) ls ((v.map (tr base sb)).toList ++ rest))) →
    (∀ (E : Nat) (g : Hp), F vs h = some (.inr (E, g)) → (cells + 1 ≤ R.cells ∧ slots + 6 ≤ R.slots) ∧ ∀ (H' : Heap) (locs' : List Loc) (q : Addr) (ce : Cell), Wd base sb D dA g s H' → va_S (Ab base) s.heap H' locs' → H'[q]? = some ce → ce.vm = .none → s.vm.findClass (EN E) = some ce.cls →
      vx_W p l e R s m args below meth c H' locs' (cells + 1) (slots + 6) Q (F0 m pc ls rest) q) →
    W p l e R s m args below meth c H locs cells slots Q (F0 m pc ls ((vs.map (tr base sb)).reverse ++ rest))
section STEP
variable {SL : List StrT} {p : Program} {l : Launch} {e : Env} {R : Room} {s : State} {m : MethodId} {args : Array Value} {below : List Frame} {meth : Method} {c : Code} {cc : ByteArray} {nL : Nat} {own : String} {base sb : Nat} {D : va_G} {dA : Nat → ClassId} {Q : State → Prop}
def Snd (p : Program) (l : Launch) (e : Env) (R : Room) (s : State) (m : MethodId) (args : Array Value) (below : List Frame) (meth : Method) (c : Code) (Q : State → Prop) (nL base sb : Nat) (D : va_G) (dA : Nat → ClassId) (C S dc ds n : Nat) (r : (Option Value × Hp) ⊕ (Nat × Hp)) (K : Kt) : Prop :=
  ∀ (pc : Nat) (lA stA : List Value) (h : Hp) (H : Heap) (locs : List Loc) (cells slots : Nat) (ls : Array Slot), K pc lA stA h = some r → LR base sb ls nL lA → Wd base sb D dA h s H → va_S (Ab base) s.heap H locs → cells + n * dc ≤ C → slots + n * ds ≤ S →
    W p l e R s m args below meth c H locs cells slots Q (F0 m pc ls (stA.map (tr base sb)))
/-- how a run may end -/
def Ends (p : Program) (l : Launch) (e : Env) (R : Room) (s : State) (m : MethodId) (args : Array Value) (below : List Frame) (meth : Method) (c : Code) (Q : State → Prop) (cc : ByteArray) (nL base sb : Nat) (D : va_G) (dA : Nat → ClassId) (C S zc : Nat) (hn : List (Nat × Int32)) (cps : Option (List Nat)) (thw : List (Nat × Nat)) (r : (Option Value × Hp) ⊕ (Nat × Hp)) : Prop :=
  (∀ (pc : Nat) (ls : Array Slot) (v : Int32) (h : Hp) (H : Heap) (locs : List Loc) (cells slots : Nat), r = .inl (some (.int v), h) → okZ zc v = true → zc < 2 → Wd base sb D dA h s H → va_S (Ab base) s.heap H locs → cells ≤ C → slots ≤ S → decode cc pc = .ok (.ireturn, 1) → W p l e R s m args below meth c H locs cells slots Q (F0 m pc ls [.int v])) ∧
  (∀ (pc : Nat) (ls : Array Slot) (v : Nat) (h : Hp) (H : Heap) (locs : List Loc) (cells slots : Nat), r = .inl (some (.ref v), h) → zc = 2 → Wd base sb D dA h s H → va_S (Ab base) s.heap H locs → cells ≤ C → slots ≤ S → decode cc pc = .ok (.areturn, 1) → W p l e R s m args below meth c H locs cells slots Q (F0 m pc ls [tr base sb (.ref v)])) ∧
  (∀ (pc : Nat) (ls : Array Slot) (h : Hp) (H : Heap) (locs : List Loc) (cells slots : Nat), r = .inl (none, h) → zc = 3 → Wd base sb D dA h s H → va_S (Ab base) s.heap H locs → cells ≤ C → slots ≤ S → decode cc pc = .ok (.return_, 1) → W p l e R s m args below meth c H locs cells slots Q (F0 m pc ls [])) ∧
  (∀ (pc b : Nat) (ls : Array Slot) (st : List Value) (h : Hp) (H : Heap) (locs : List Loc) (cells slots : Nat), (pc, b) ∈ thw → r = .inr (b, h) → Wd base sb D dA h s H → va_S (Ab base) s.heap H locs → ls.size = nL → (st.map fun v => v.category).sum ≤ 8 → cells ≤ C → slots ≤ S → W p l e R s m args below meth c H locs cells slots Q (F0 m pc ls st)) ∧
  (∀ (pc E : Nat) (cst : Int32) (ls : Array Slot) (st : List Value) (h : Hp) (H : Heap) (locs : List Loc) (cells slots : Nat) (q : Addr) (ce : Cell), lkp hn E = some cst → (∀ l, cps = some l → pc ∈ l) → r = .inl (some (.int cst), h) → Wd base sb D dA h s H → va_S (Ab base) s.heap H locs → ls.size = nL → lv_wf ls → cells ≤ C + 1 → slots ≤ S + 6 → H[q]? = some ce → ce.vm = .none → s.vm.findClass (EN E) = some ce.cls → vx_W p l e R s m args below meth c H locs cells slots Q (F0 m pc ls st) q) ∧
  (∀ (pc E : Nat) (ls : Array Slot) (st : List Value) (h : Hp) (H : Heap) (locs : List Loc) (cells slots : Nat) (q : Addr) (ce : Cell), hn = [] → r = .inr (E, h) → Wd base sb D dA h s H → va_S (Ab base) s.heap H locs → cells ≤ C + 1 → slots ≤ S + 6 → H[q]? = some ce → ce.vm = .none → s.vm.findClass (EN E) = some ce.cls → vx_W p l e R s m args below meth c H locs cells slots Q (F0 m pc ls st) q) ∧
  ((∃ q, r = .inr q) ∨ hn ≠ [] → C + 1 ≤ R.cells ∧ S + 6 ≤ R.slots)
theorem rI_inv {r : (Option Value × Hp) ⊕ (Nat × Hp)} {c9 : Nat} {st : List Value} {h : Hp} (q : rI c9 st h = some r) : ∃ v, st = [.int v] ∧ okZ c9 v = true ∧ Sum.inl (some (Value.int v), h) = r := by
  unfold rI at q
  split at q
  · obtain ⟨g1, g2⟩ := gd_inv q
    exact ⟨_, rfl, g1, Option.some.inj g2⟩
  · cases q
theorem rR_inv {r : (Option Value × Hp) ⊕ (Nat × Hp)} {st : List Value} {h : Hp} (q : rR st h = some r) : ∃ v, st = [.ref v] ∧ Sum.inl (some (Value.ref v), h) = r := by
  unfold rR at q
  split at q
  · exact ⟨_, rfl, Option.some.inj q⟩
  · cases q
theorem rV_inv {r : (Option Value × Hp) ⊕ (Nat × Hp)} {st : List Value} {h : Hp} (q : rV st h = some r) : st = [] ∧ Sum.inl (none, h) = r := by
  unfold rV at q
  split at q
  · exact ⟨rfl, Option.some.inj q⟩
  · cases q
/-- the script's own rows, in any heap that holds it -/
theorem va_sldH {b L : Nat} {xs : Nat → Int32} {pc : Nat} {ls : Array Slot} {rest : List Value} {H : Heap} {locs : List Loc} {cells slots : Nat} (hexec : p.tables.exec = Jvm.exec) (hb : c.code = cc) (hX : va_X b L xs s H) {i : Int32} (hin : vp_in i L) (hdg : decode cc pc = .ok (.iaload, 1))
    (kk : W p l e R s m args below meth c H locs cells slots Q (F0 m (pc + 1) ls (.int (xs i.toNatClampNeg) :: rest))) : W p l e R s m args below meth c H locs cells slots Q (F0 m pc ls (.int i :: .ref b :: rest)) := by
  obtain ⟨scr, h1, h2, h3, h4, h5⟩ := hX
  have hlt : i.toNatClampNeg < L := Nat.not_le.mp fun q => hin (Or.inr q)
  exact W.iald (v := .int (xs i.toNatClampNeg)) hexec hb h1 h2 h3 (by rw [h4]; exact hin) (h5 _ hlt) rfl rfl hdg kk
theorem va_slenH {b L : Nat} {xs : Nat → Int32} {pc : Nat} {ls : Array Slot} {rest : List Value} {H : Heap} {locs : List Loc} {cells slots : Nat} (hexec : p.tables.exec = Jvm.exec) (hb : c.code = cc) (hX : va_X b L xs s H) (hdg : decode cc pc = .ok (.arraylength, 1))
    (kk : W p l e R s m args below meth c H locs cells slots Q (F0 m (pc + 1) ls (.int (Int32.ofNat L) :: rest))) : W p l e R s m args below meth c H locs cells slots Q (F0 m pc ls (.ref b :: rest)) := by
  obtain ⟨scr, h1, h2, h3, h4, h5⟩ := hX
  exact W.alen (n := Int32.ofNat L) hexec hb h1 h2 (by rw [h4] <;> rfl) rfl rfl hdg kk
theorem call_snd {C S dc ds n zc : Nat} {r : (Option Value × Hp) ⊕ (Nat × Hp)} {hn : List (Nat × Int32)} {cps : Option (List Nat)} {thw : List (Nat × Nat)} {K : Kt}
    (G : Cx SL p s m args c cc nL own D dA) (hbs : base ≤ s.heap.size) (hC : C ≤ R.cells) (hS9 : S ≤ R.slots) (hK : Snd p l e R s m args below meth c Q nL base sb D dA C S dc ds n r K) {i : Instr} {c9 d pc : Nat} {F : Fn}
    (hcal : CallOK SL l R own i (c9 / 4) d F dc ds) (hE : Ends p l e R s m args below meth c Q cc nL base sb D dA C S zc hn cps thw r)
    (hdec : decode cc pc = .ok (i, 3)) (hcp : inC cps pc = true)
    {lA stA : List Value} {h : Hp} {H : Heap} {locs : List Loc} {cells slots : Nat} {ls : Array Slot}
    (hr : (popn (c9 / 4) stA [] fun as t => gd (recv SKc CS as d) (gd (Nat.ble (cats t) 8) (clK (c9 % 4) (F as h) (fun g => K (pc + 3) lA t g) (fun v g => K (pc + 3) lA (.int v :: t) g) (fun v g => K (pc + 3) lA (.ref v :: t) g) (hnk hn)))) = some r) (hL : LR base sb ls nL lA) (hW : Wd base sb D dA h s H) (hS : va_S (Ab base) s.heap H locs) (hc1 : cells + (n * dc + dc) ≤ C) (hc2 : slots + (n * ds + ds) ≤ S) :
    W p l e R s m args below meth c H locs cells slots Q (F0 m pc ls (stA.map (tr base sb))) := by
  obtain ⟨as, t, rfl, e2, e3, -⟩ := popn_inv hr
  rw [List.append_nil] at e3
  obtain ⟨g0, e3⟩ := gd_inv e3
  obtain ⟨g1, e3⟩ := gd_inv e3
  rw [List.map_append, List.map_reverse]
  have hinv := clK_inv (K := fun st g => K (pc + 3) lA st g) e3 (fun _ => rfl) (fun _ _ => rfl) (fun _ _ => rfl)
  refine hcal p e s m args below meth c cc nL base sb D dA Q H locs cells slots pc ls (t.map (tr base sb)) as h G hdec hL.1 e2 g0 (by rw [tr_cats]; exact Nat.ble_eq.mp g1) hW hS hbs (by omega) (by omega) ?_ ?_ ?_
  · rcases hinv with ⟨v, g, q, -⟩ | ⟨E, g, q, -⟩ <;> rw [q] <;> exact fun z => by cases z
  · intro v g q H' locs' hW' hS'
    rcases hinv with ⟨v2, g2, q2, q3⟩ | ⟨E, g2, q2, -⟩
    · cases q.symm.trans q2
      have q4 := hK _ _ _ _ H' locs' (cells + dc) (slots + ds) ls q3 hL hW' hS' (by omega) (by omega)
      cases v <;> exact q4
    · cases q.symm.trans q2
  · intro E g q
    rcases hinv with ⟨v2, g2, q2, q3⟩ | ⟨E2, g2, q2, q3⟩
    · cases q.symm.trans q2
    · cases q.symm.trans q2
      have hcps : ∀ l, cps = some l → pc ∈ l := fun l hl => by
        subst hl
        simpa [inC] using hcp
      cases hn with
      | nil =>
        have e10 : r = .inr (E, g) := (Option.some.inj q3).symm
        have e11 := hE.2.2.2.2.2.2 (Or.inl ⟨_, e10⟩)
        exact ⟨⟨by omega, by omega⟩, fun H' locs' q9 ce hW' hS' f1 f2 f3 => hE.2.2.2.2.2.1 pc E ls _ g H' locs' (cells + 1) (slots + 6) q9 ce rfl e10 hW' hS' (by omega) (by omega) f1 f2 f3⟩
      | cons hd tl =>
        have q4 : (match lkp (hd :: tl) E with
          | some c => rtn (some (.int c)) g
          | none => none) = some r := q3
        cases e9 : lkp (hd :: tl) E with
        | some cst =>
          rw [e9] at q4
          have e10 : r = .inl (some (.int cst), g) := (Option.some.inj q4).symm
          have e11 := hE.2.2.2.2.2.2 (Or.inr (by intro z; cases z))
          exact ⟨⟨by omega, by omega⟩, fun H' locs' q9 ce hW' hS' f1 f2 f3 => hE.2.2.2.2.1 pc E cst ls _ g H' locs' (cells + 1) (slots + 6) q9 ce e9 hcps e10 hW' hS' hL.1 hL.2.1 (by omega) (by omega) f1 f2 f3⟩
        | none =>
          rw [e9] at q4
          cases q4
theorem ne_big {a b : Nat} (h : a < 228) (hb : 228 ≤ b) : b ≠ a := by omega
theorem i32_nlt {x y : Int32} : ¬ x < y ↔ y ≤ x := by
  rw [Int32.lt_iff_toInt_lt, Int32.le_iff_toInt_le]
  omega
set_option maxHeartbeats 16000000 in
set_option maxRecDepth 100000 in
theorem stI_snd {C S dc ds n zc : Nat} {r : (Option Value × Hp) ⊕ (Nat × Hp)} {cl : List Fn} {hn : List (Nat × Int32)} {sw : List (List Nat)} {cal : List (Nat × Nat × Nat × Nat × Nat)} {cps : Option (List Nat)} {thw : List (Nat × Nat)} {K : Kt}
    (G : Cx SL p s m args c cc nL own D dA) (hbs : base ≤ s.heap.size) (hC : C ≤ R.cells) (hS9 : S ≤ R.slots) (hK : Snd p l e R s m args below meth c Q nL base sb D dA C S dc ds n r K)
    (hcal : ∀ q ∈ cal, CallOK SL l R own (insC q) (q.2.2.2.1 / 4) q.2.2.2.2 (nthF cl q.2.2.1) dc ds) (hE : Ends p l e R s m args below meth c Q cc nL base sb D dA C S zc hn cps thw r)
    {i : Instr} {len b c9 d pc : Nat} {x : Int32} (hdec : decode cc pc = .ok (i, len)) (hchk : chkI own nL zc sw cal cps thw pc len b c9 d x i = true)
    {lA stA : List Value} {h : Hp} {H : Heap} {locs : List Loc} {cells slots : Nat} {ls : Array Slot} (hr : stI SKc SKn SKr CS cl hn sw i len b c9 d x K pc lA stA h = some r) (hL : LR base sb ls nL lA) (hW : Wd base sb D dA h s H) (hS : va_S (Ab base) s.heap H locs) (hc1 : cells + (n + 1) * dc ≤ C) (hc2 : slots + (n + 1) * ds ≤ S) :
    W p l e R s m args below meth c H locs cells slots Q (F0 m pc ls (stA.map (tr base sb))) := by
  obtain ⟨hx, hb, hml, hown, hts, hKn, hEx⟩ := id G
  rw [Nat.add_mul, Nat.one_mul] at hc1 hc2
  have k1 : cells + n * dc ≤ C := by omega
  have k2 : slots + n * ds ≤ S := by omega
  have hD : va_D (Ab base) (wd base dA h) := wd_D
  cases i with
  | iconst z =>
    simp only [chkI, Bool.and_eq_true, Nat.beq_eq, decide_eq_true_eq] at hchk
    obtain ⟨rfl, rfl⟩ := hchk
    exact lv_iconst hx hb hdec rfl (hK _ _ _ _ _ _ _ _ _ hr hL hW hS k1 k2)
  | bipush z =>
    simp only [chkI, Bool.and_eq_true, Nat.beq_eq, decide_eq_true_eq] at hchk
    obtain ⟨rfl, rfl⟩ := hchk
    exact lv_bipush hx hb hdec rfl (hK _ _ _ _ _ _ _ _ _ hr hL hW hS k1 k2)
  | sipush z =>
    simp only [chkI, Bool.and_eq_true, Nat.beq_eq, decide_eq_true_eq] at hchk
    obtain ⟨rfl, rfl⟩ := hchk
    exact lv_sipush hx hb hdec rfl (hK _ _ _ _ _ _ _ _ _ hr hL hW hS k1 k2)
  | ldc z =>
    simp only [chkI, Bool.and_eq_true, Nat.beq_eq, decide_eq_true_eq] at hchk
    obtain ⟨rfl, h2⟩ := hchk
    exact lv_ldc hx hb hown (hts _ (wg_in h2 rfl)) hdec (hK _ _ _ _ _ _ _ _ _ hr hL hW hS k1 k2)
  | ldc_w z =>
    simp only [chkI, Bool.and_eq_true, Nat.beq_eq, decide_eq_true_eq] at hchk
    obtain ⟨rfl, h2⟩ := hchk
    exact lv_ldcw hx hb hown (hts _ (wg_in h2 rfl)) hdec (hK _ _ _ _ _ _ _ _ _ hr hL hW hS k1 k2)
  | lconst z =>
    simp only [chkI, Nat.beq_eq] at hchk
    subst hchk
    exact lv_lconst hx hb hdec rfl (hK _ _ _ _ _ _ _ _ _ hr hL hW hS k1 k2)
  | aconst_null =>
    simp only [chkI, Nat.beq_eq] at hchk
    subst hchk
    exact lv_null hx hb hdec (hK _ _ _ _ _ _ _ _ _ hr hL hW hS k1 k2)
  | iload_n z =>
    simp only [chkI, Bool.and_eq_true, Nat.beq_eq] at hchk
    obtain ⟨rfl, rfl⟩ := hchk
    obtain ⟨v, e1, hr⟩ := lI_inv hr
    exact lv_iload_n hx hb hdec rfl (hL.get (by intro q; cases q) e1) (hK _ _ _ _ _ _ _ _ _ hr hL hW hS k1 k2)
  | iload z =>
    simp only [chkI, Bool.and_eq_true, Nat.beq_eq] at hchk
    obtain ⟨rfl, rfl⟩ := hchk
    obtain ⟨v, e1, hr⟩ := lI_inv hr
    exact lv_iload hx hb hdec (hL.get (by intro q; cases q) e1) (hK _ _ _ _ _ _ _ _ _ hr hL hW hS k1 k2)
  | aload_n z =>
    simp only [chkI, Bool.and_eq_true, Nat.beq_eq] at hchk
    obtain ⟨rfl, rfl⟩ := hchk
    rcases lA_inv (v := nth lA z) (f := fun v => K (pc + 1) lA (v :: stA) h) hr with ⟨v, e1, hr⟩ | ⟨e1, hr⟩
    · exact lv_aload_n hx hb hdec rfl (hL.get (by intro q; cases q) e1) (hK _ _ _ _ _ _ _ _ _ hr hL hW hS k1 k2)
    · exact lv_aload_nN hx hb hdec rfl (hL.get (by intro q; cases q) e1) (hK _ _ _ _ _ _ _ _ _ hr hL hW hS k1 k2)
  | aload z =>
    simp only [chkI, Bool.and_eq_true, Nat.beq_eq] at hchk
    obtain ⟨rfl, rfl⟩ := hchk
    rcases lA_inv (v := nth lA z) (f := fun v => K (pc + 2) lA (v :: stA) h) hr with ⟨v, e1, hr⟩ | ⟨e1, hr⟩
    · exact lv_aload hx hb hdec (hL.get (by intro q; cases q) e1) (hK _ _ _ _ _ _ _ _ _ hr hL hW hS k1 k2)
    · exact lv_aloadN hx hb hdec (hL.get (by intro q; cases q) e1) (hK _ _ _ _ _ _ _ _ _ hr hL hW hS k1 k2)
  | istore_n z =>
    simp only [chkI, Bool.and_eq_true, Nat.beq_eq, Nat.blt_eq] at hchk
    obtain ⟨⟨rfl, rfl⟩, h3⟩ := hchk
    obtain ⟨v, t, rfl, hr⟩ := pI_inv hr
    exact lv_istore_n hx hb hdec rfl hL.has h3 rfl fun ls' h' => hK _ _ _ _ _ _ _ _ _ hr (hL.set rfl h') hW hS k1 k2
  | istore z =>
    simp only [chkI, Bool.and_eq_true, Nat.beq_eq, Nat.blt_eq] at hchk
    obtain ⟨⟨rfl, rfl⟩, h3⟩ := hchk
    obtain ⟨v, t, rfl, hr⟩ := pI_inv hr
    exact lv_istore hx hb hdec hL.has h3 rfl fun ls' h' => hK _ _ _ _ _ _ _ _ _ hr (hL.set rfl h') hW hS k1 k2
  | astore_n z =>
    simp only [chkI, Bool.and_eq_true, Nat.beq_eq, Nat.blt_eq] at hchk
    obtain ⟨⟨rfl, rfl⟩, h3⟩ := hchk
    rcases pA_inv (st := stA) (f := fun v t => K (pc + 1) (setn lA z v) t h) hr with ⟨v, t, rfl, hr⟩ | ⟨t, rfl, hr⟩
    · exact lv_astore_n hx hb hdec rfl hL.has h3 rfl fun ls' h' => hK _ _ _ _ _ _ _ _ _ hr (hL.set rfl h') hW hS k1 k2
    · exact lv_astore_nN hx hb hdec rfl hL.has h3 rfl fun ls' h' => hK _ _ _ _ _ _ _ _ _ hr (hL.set rfl h') hW hS k1 k2
  | astore z =>
    simp only [chkI, Bool.and_eq_true, Nat.beq_eq, Nat.blt_eq] at hchk
    obtain ⟨⟨rfl, rfl⟩, h3⟩ := hchk
    rcases pA_inv (st := stA) (f := fun v t => K (pc + 2) (setn lA z v) t h) hr with ⟨v, t, rfl, hr⟩ | ⟨t, rfl, hr⟩
    · exact lv_astore hx hb hdec hL.has h3 rfl fun ls' h' => hK _ _ _ _ _ _ _ _ _ hr (hL.set rfl h') hW hS k1 k2
    · exact lv_astoreN hx hb hdec hL.has h3 rfl fun ls' h' => hK _ _ _ _ _ _ _ _ _ hr (hL.set rfl h') hW hS k1 k2
  | iinc z w =>
    simp only [chkI, Bool.and_eq_true, Nat.beq_eq, Nat.blt_eq, decide_eq_true_eq] at hchk
    obtain ⟨⟨⟨rfl, rfl⟩, rfl⟩, h3⟩ := hchk
    obtain ⟨v, e1, hr⟩ := lI_inv hr
    obtain ⟨k, hk⟩ : ∃ k, (lrL base sb lA)[k]? = some (z, Value.int v) := by
      have h1 : (z, Value.int v) ∈ lrL base sb lA := by
        have h2 := nth_get (v := .int v) (by intro q; cases q) e1
        refine List.mem_filterMap.mpr ⟨z, List.mem_range.mpr (List.getElem?_eq_some_iff.mp h2).1, ?_⟩
        rw [h2]
        rfl
      exact List.getElem?_of_mem h1
    exact lv_iinc hx hb hdec hL.has hk rfl h3 rfl fun ls' h' => hK _ _ _ _ _ _ _ _ _ hr (hL.set (v := .int (v + Int32.ofInt w)) rfl h') hW hS k1 k2
  | iadd =>
    simp only [chkI, Nat.beq_eq] at hchk
    subst hchk
    obtain ⟨y, t, rfl, hr⟩ := pI_inv hr
    obtain ⟨v, t, rfl, hr⟩ := pI_inv hr
    exact lv_iadd hx hb hdec (hK _ _ _ _ _ _ _ _ _ hr hL hW hS k1 k2)
  | isub =>
    simp only [chkI, Nat.beq_eq] at hchk
    subst hchk
    obtain ⟨y, t, rfl, hr⟩ := pI_inv hr
    obtain ⟨v, t, rfl, hr⟩ := pI_inv hr
    exact lv_isub hx hb hdec (hK _ _ _ _ _ _ _ _ _ hr hL hW hS k1 k2)
  | imul =>
    simp only [chkI, Nat.beq_eq] at hchk
    subst hchk
    obtain ⟨y, t, rfl, hr⟩ := pI_inv hr
    obtain ⟨v, t, rfl, hr⟩ := pI_inv hr
    exact lv_imul hx hb hdec (hK _ _ _ _ _ _ _ _ _ hr hL hW hS k1 k2)
  | iand =>
    simp only [chkI, Nat.beq_eq] at hchk
    subst hchk
    obtain ⟨y, t, rfl, hr⟩ := pI_inv hr
    obtain ⟨v, t, rfl, hr⟩ := pI_inv hr
    exact lv_iand hx hb hdec (hK _ _ _ _ _ _ _ _ _ hr hL hW hS k1 k2)
  | ior =>
    simp only [chkI, Nat.beq_eq] at hchk
    subst hchk
    obtain ⟨y, t, rfl, hr⟩ := pI_inv hr
    obtain ⟨v, t, rfl, hr⟩ := pI_inv hr
    exact lv_ior hx hb hdec (hK _ _ _ _ _ _ _ _ _ hr hL hW hS k1 k2)
  | ishl =>
    simp only [chkI, Nat.beq_eq] at hchk
    subst hchk
    obtain ⟨y, t, rfl, hr⟩ := pI_inv hr
    obtain ⟨v, t, rfl, hr⟩ := pI_inv hr
    exact lv_ishl hx hb hdec (hK _ _ _ _ _ _ _ _ _ hr hL hW hS k1 k2)
  | ishr =>
    simp only [chkI, Nat.beq_eq] at hchk
    subst hchk
    obtain ⟨y, t, rfl, hr⟩ := pI_inv hr
    obtain ⟨v, t, rfl, hr⟩ := pI_inv hr
    exact lv_ishr hx hb hdec (hK _ _ _ _ _ _ _ _ _ hr hL hW hS k1 k2)
  | iushr =>
    simp only [chkI, Nat.beq_eq] at hchk
    subst hchk
    obtain ⟨y, t, rfl, hr⟩ := pI_inv hr
    obtain ⟨v, t, rfl, hr⟩ := pI_inv hr
    exact lv_iushr hx hb hdec rfl (hK _ _ _ _ _ _ _ _ _ hr hL hW hS k1 k2)
  | idiv =>
    simp only [chkI, Nat.beq_eq] at hchk
    subst hchk
    obtain ⟨y, t, rfl, hr⟩ := pI_inv hr
    obtain ⟨v, t, rfl, hr⟩ := pI_inv hr
    obtain ⟨hz, hr⟩ := gd_inv hr
    exact lv_idiv hx hb hdec (by simpa using hz) (hK _ _ _ _ _ _ _ _ _ hr hL hW hS k1 k2)
  | irem =>
    simp only [chkI, Nat.beq_eq] at hchk
    subst hchk
    obtain ⟨y, t, rfl, hr⟩ := pI_inv hr
    obtain ⟨v, t, rfl, hr⟩ := pI_inv hr
    obtain ⟨hz, hr⟩ := gd_inv hr
    exact lv_irem hx hb hdec (by simpa using hz) (hK _ _ _ _ _ _ _ _ _ hr hL hW hS k1 k2)
  | ineg =>
    simp only [chkI, Nat.beq_eq] at hchk
    subst hchk
    obtain ⟨v, t, rfl, hr⟩ := pI_inv hr
    exact lv_ineg hx hb hdec (hK _ _ _ _ _ _ _ _ _ hr hL hW hS k1 k2)
  | i2l =>
    simp only [chkI, Nat.beq_eq] at hchk
    subst hchk
    obtain ⟨v, t, rfl, hr⟩ := pI_inv hr
    exact lv_i2l hx hb hdec rfl (hK _ _ _ _ _ _ _ _ _ hr hL hW hS k1 k2)
  | lcmp =>
    simp only [chkI, Nat.beq_eq] at hchk
    subst hchk
    obtain ⟨y, t, rfl, hr⟩ := pL_inv hr
    obtain ⟨v, t, rfl, hr⟩ := pL_inv hr
    exact W.lcmp hx hb hdec (hK _ _ _ _ _ _ _ _ _ hr hL hW hS k1 k2)
  | dup =>
    simp only [chkI, Nat.beq_eq] at hchk
    subst hchk
    obtain ⟨v, t, rfl, hv, hr⟩ := p1_inv (st := stA) (f := fun v t => K (pc + 1) lA (v :: v :: t) h) hr
    exact lv_dup hx hb hdec (by rw [tr_cat]; exact hv) (hK _ _ _ _ _ _ _ _ _ hr hL hW hS k1 k2)
  | dup2 =>
    simp only [chkI, Nat.beq_eq] at hchk
    subst hchk
    obtain ⟨v, t, rfl, hv, hr⟩ := p1_inv (st := stA) (f := fun v t => p1 t (fun w t => K (pc + 1) lA (v :: w :: v :: w :: t) h)) hr
    obtain ⟨w, t, rfl, hw, hr⟩ := p1_inv (f := fun w t => K (pc + 1) lA (v :: w :: v :: w :: t) h) hr
    exact lv_dup2_11 hx hb hdec (by rw [tr_cat]; exact hv) (by rw [tr_cat]; exact hw) (hK _ _ _ _ _ _ _ _ _ hr hL hW hS k1 k2)
  | pop =>
    simp only [chkI, Nat.beq_eq] at hchk
    subst hchk
    obtain ⟨v, t, rfl, hv, hr⟩ := p1_inv (st := stA) (f := fun _ t => K (pc + 1) lA t h) hr
    exact lv_pop hx hb hdec (by rw [tr_cat]; exact hv) (hK _ _ _ _ _ _ _ _ _ hr hL hW hS k1 k2)
  | ifnull off =>
    simp only [chkI, Bool.and_eq_true, Nat.beq_eq, tgOK, decide_eq_true_eq] at hchk
    obtain ⟨rfl, h2⟩ := hchk
    rcases pN_inv hr with ⟨t, rfl, hr⟩ | ⟨v, t, rfl, hr⟩
    · exact lv_ifnullN hx hb hdec h2 (hK _ _ _ _ _ _ _ _ _ hr hL hW hS k1 k2)
    · exact lv_ifnull hx hb hdec (hK _ _ _ _ _ _ _ _ _ hr hL hW hS k1 k2)
  | if_icmp cnd off =>
    simp only [chkI, Bool.and_eq_true, Nat.beq_eq, tgOK, decide_eq_true_eq] at hchk
    obtain ⟨rfl, h2⟩ := hchk
    obtain ⟨y, t, rfl, hr⟩ := pI_inv hr
    obtain ⟨v, t, rfl, hr⟩ := pI_inv hr
    cases cnd with
    | eq => exact lv_icmp_eq hx hb hdec h2 (fun q => hK _ _ _ _ _ _ _ _ _ ((if_pos q).symm.trans hr) hL hW hS k1 k2) (fun q => hK _ _ _ _ _ _ _ _ _ ((if_neg q).symm.trans hr) hL hW hS k1 k2)
    | ne => exact lv_icmp_ne hx hb hdec h2 (fun q => hK _ _ _ _ _ _ _ _ _ ((if_neg q).symm.trans hr) hL hW hS k1 k2) (fun q => hK _ _ _ _ _ _ _ _ _ ((if_pos q).symm.trans hr) hL hW hS k1 k2)
    | lt => exact lv_icmp_lt hx hb hdec h2 (fun q => hK _ _ _ _ _ _ _ _ _ ((if_pos q).symm.trans hr) hL hW hS k1 k2) (fun q => hK _ _ _ _ _ _ _ _ _ ((if_neg q).symm.trans hr) hL hW hS k1 k2)
    | ge => exact lv_icmp_ge hx hb hdec h2 (fun q => hK _ _ _ _ _ _ _ _ _ ((if_neg (i32_nlt.mpr q)).symm.trans hr) hL hW hS k1 k2) (fun q => hK _ _ _ _ _ _ _ _ _ ((if_pos (Decidable.not_not.mp (fun z => q (i32_nlt.mp z)))).symm.trans hr) hL hW hS k1 k2)
    | gt => exact lv_icmp_gt hx hb hdec h2 (fun q => hK _ _ _ _ _ _ _ _ _ ((if_pos q).symm.trans hr) hL hW hS k1 k2) (fun q => hK _ _ _ _ _ _ _ _ _ ((if_neg q).symm.trans hr) hL hW hS k1 k2)
    | le => exact lv_icmp_le hx hb hdec h2 (fun q => hK _ _ _ _ _ _ _ _ _ ((if_neg (i32_nlt.mpr q)).symm.trans hr) hL hW hS k1 k2) (fun q => hK _ _ _ _ _ _ _ _ _ ((if_pos (Decidable.not_not.mp (fun z => q (i32_nlt.mp z)))).symm.trans hr) hL hW hS k1 k2)
  | ifCond cnd off =>
    simp only [chkI, Bool.and_eq_true, Nat.beq_eq, tgOK, decide_eq_true_eq] at hchk
    obtain ⟨rfl, h2⟩ := hchk
    obtain ⟨v, t, rfl, hr⟩ := pI_inv hr
    cases cnd with
    | eq => exact lv_if_eq hx hb hdec h2 (fun q => hK _ _ _ _ _ _ _ _ _ ((if_pos q).symm.trans hr) hL hW hS k1 k2) (fun q => hK _ _ _ _ _ _ _ _ _ ((if_neg q).symm.trans hr) hL hW hS k1 k2)
    | ne => exact lv_if_ne hx hb hdec h2 (fun q => hK _ _ _ _ _ _ _ _ _ ((if_neg q).symm.trans hr) hL hW hS k1 k2) (fun q => hK _ _ _ _ _ _ _ _ _ ((if_pos q).symm.trans hr) hL hW hS k1 k2)
    | lt => exact lv_if_lt hx hb hdec h2 (fun q => hK _ _ _ _ _ _ _ _ _ ((if_pos q).symm.trans hr) hL hW hS k1 k2) (fun q => hK _ _ _ _ _ _ _ _ _ ((if_neg q).symm.trans hr) hL hW hS k1 k2)
    | ge => exact lv_if_ge hx hb hdec h2 (fun q => hK _ _ _ _ _ _ _ _ _ ((if_neg (i32_nlt.mpr q)).symm.trans hr) hL hW hS k1 k2) (fun q => hK _ _ _ _ _ _ _ _ _ ((if_pos (Decidable.not_not.mp (fun z => q (i32_nlt.mp z)))).symm.trans hr) hL hW hS k1 k2)
    | gt => exact lv_if_gt hx hb hdec h2 (fun q => hK _ _ _ _ _ _ _ _ _ ((if_pos q).symm.trans hr) hL hW hS k1 k2) (fun q => hK _ _ _ _ _ _ _ _ _ ((if_neg q).symm.trans hr) hL hW hS k1 k2)
    | le => exact lv_if_le hx hb hdec h2 (fun q => hK _ _ _ _ _ _ _ _ _ ((if_neg (i32_nlt.mpr q)).symm.trans hr) hL hW hS k1 k2) (fun q => hK _ _ _ _ _ _ _ _ _ ((if_pos (Decidable.not_not.mp (fun z => q (i32_nlt.mp z)))).symm.trans hr) hL hW hS k1 k2)
  | goto off =>
    simp only [chkI, Bool.and_eq_true, Nat.beq_eq, tgOK, decide_eq_true_eq] at hchk
    obtain ⟨rfl, hchk⟩ := hchk
    exact lv_goto hx hb hdec hchk (hK _ _ _ _ _ _ _ _ _ hr hL hW hS k1 k2)
  | tableswitch dflt lo hi offs =>
    simp only [chkI, Bool.and_eq_true, tgOK, decide_eq_true_eq, Nat.blt_eq] at hchk
    obtain ⟨⟨⟨⟨rfl, h2⟩, h3⟩, h4⟩, h5⟩ := hchk
    obtain ⟨v, t, rfl, hr⟩ := pI_inv hr
    have h6 : (nthS sw c9).length = offs.size := by
      have q := congrArg List.length h4
      simpa using q.symm
    rcases swt_inv hr with ⟨j, tg, e1, e2, hr⟩ | ⟨e1, hr⟩
    · have hj : j < offs.size := by rw [← h6]; exact (List.getElem?_eq_some_iff.mp e1).1
      have hv : v.toInt = (j : Int) := by rw [e2, Nat.zero_add]; exact nI_toInt (n := j) (by omega)
      obtain ⟨o, ho⟩ : ∃ o, offs[j]? = some o := ⟨_, Array.getElem?_eq_getElem hj⟩
      have e3 : (pc : Int) + o = (tg : Int) := by
        have q := congrArg (fun z : List Int => z[j]?) h4
        simp only [List.getElem?_map, Array.getElem?_toList, ho, e1, Option.map_some, Option.some.injEq] at q
        exact q
      exact lv_tableIn hx hb hdec (by rw [hv]; omega) (by rw [hv]; omega) (by rw [hv]; simpa using ho) e3 (hK _ _ _ _ _ _ _ _ _ hr hL hW hS k1 k2)
    · refine lv_tableOut hx hb hdec ?_ h3 (hK _ _ _ _ _ _ _ _ _ hr hL hW hS k1 k2)
      rcases Int.lt_or_le v.toInt 0 with q | q
      · exact Or.inl q
      · refine Or.inr ?_
        rcases Int.lt_or_le hi v.toInt with q2 | q2
        · exact q2
        · exfalso
          have h7 : v.toInt.toNat < (nthS sw c9).length := by rw [h6]; omega
          refine e1 _ h7 ?_
          refine Int32.toInt_inj.mp ?_
          rw [Nat.zero_add, show (Int32.ofNat v.toInt.toNat).toInt = (v.toInt.toNat : Int) from nI_toInt (by omega)]
          omega
  | getfield k =>
    simp only [chkI, Bool.and_eq_true, Nat.beq_eq, List.all_eq_true] at hchk
    obtain ⟨rfl, h2⟩ := hchk
    obtain ⟨a, t, rfl, hr⟩ := pR_inv hr
    obtain ⟨g1, hr⟩ := gd_inv hr
    obtain ⟨C9, T9, N9, ref, f1, f2, f3, f4, f5, -⟩ := fldW_spec (h2 _ (memb_in g1))
    obtain ⟨q1, q2, q3, -⟩ := cl_ok f1
    have ha : a < 228 := SKc_lt (by omega)
    have hN : N9 = SKn a := by rw [← q2]; exact ncl_ok a ha (by omega)
    subst hN
    have he := wd_get (base := base) (dA := dA) (h := h) ha
    rw [entE_obj (by omega)] at he
    have hv : ((List.range (SKn a)).map (valE base h a (SKc a)))[b]? = some (valE base h a (SKc a) b) := by
      rw [List.getElem?_map, List.getElem?_range f2]
      rfl
    rw [List.map_cons, tr_ref ha]
    refine va_get (D := D) hx hb hts q3 hown hKn hW.1 a he f1 b f2 (hts _ f4) (fun x9 h9 => by
      rcases f5 with q | q
      · rw [q]; exact h9
      · exact u_same (hts _ q) x9 h9) hv hdec ?_
    unfold valE
    rw [f3]
    cases e8 : c9 % 2 with
    | zero =>
      rw [e8] at hr
      exact hK _ _ _ _ _ _ _ _ _ hr hL hW hS k1 k2
    | succ z =>
      have z0 : z = 0 := by have := Nat.mod_lt c9 (show 0 < 2 by decide); omega
      subst z0
      rw [e8] at hr
      have h9 : SKr a b < 228 := skr_ok a ha q1 b f2 (by rw [f3, e8]; rfl)
      have q := hK _ _ _ _ _ _ _ _ _ hr hL hW hS k1 k2
      rw [List.map_cons, tr_ref h9] at q
      exact q
  | putfield k =>
    simp only [chkI, Bool.and_eq_true, Nat.beq_eq, List.all_eq_true] at hchk
    obtain ⟨rfl, h2⟩ := hchk
    obtain ⟨v, t, rfl, hr⟩ := pI_inv hr
    obtain ⟨a, t, rfl, hr⟩ := pR_inv hr
    obtain ⟨g1, hr⟩ := gd_inv hr
    obtain ⟨g2, hr⟩ := gd_inv hr
    obtain ⟨C9, T9, N9, ref, f1, f2, f3, f4, f5, f6⟩ := fldW_spec (h2 _ (memb_in g1))
    obtain ⟨q1, q2, q3, ty0, q4, q5⟩ := cl_ok f1
    obtain ⟨f7, f8⟩ := f6 _ rfl
    have ha : a < 228 := SKc_lt (by omega)
    have hN : N9 = SKn a := by rw [← q2]; exact ncl_ok a ha (by omega)
    subst hN
    have he := wd_get (base := base) (dA := dA) (h := h) ha
    rw [entE_obj (by omega)] at he
    rw [List.map_cons, List.map_cons, tr_ref ha]
    have key : ∀ ty : FieldType, parseFieldDescriptor (T9 b).2.2.1 = some ty → narrow ty (.int v) = .int v → fits ty (.int v) = true → W p l e R s m args below meth c H locs cells slots Q (F0 m pc ls (.int v :: .ref (base + a) :: t.map (tr base sb))) := by
      intro ty hty hn1 hf1
      refine va_put (D := D) (v := .int v) hx hb hts q3 ty0 q4 q5 hown hKn hW.1 hD hS a he f1 b f2 (hts _ f4) (fun x9 h9 => by
        rcases f5 with q | q
        · rw [q]; exact h9
        · exact u_same (hts _ q) x9 h9) f8 hty hn1 hf1 (by simpa using f2) hdec (fun H1 locs1 hP1 hD1 hS1 => ?_)
      have hset : (wd base dA h).set a (base + a, .inr (SKc a, ((List.range (SKn a)).map (valE base h a (SKc a))).set b (.int v))) = wd base dA (wr h a b v) := by
        refine wd_set ha ?_ (fun b9 _ hne => entE_wr hne)
        rw [entE_obj (by omega)]
        congr 2
        apply List.ext_getElem?
        intro j
        by_cases hj : j < SKn a
        · rw [List.getElem?_map, List.getElem?_range hj]
          by_cases hjb : j = b
          · subst hjb
            rw [List.getElem?_set_self (by simpa using hj)]
            show some (valE base (wr h a j v) a (SKc a) j) = some (.int v)
            unfold valE
            rw [f3, rd_wr_eq, if_pos rfl]
            rfl
          · rw [List.getElem?_set_ne (Ne.symm hjb), List.getElem?_map, List.getElem?_range hj]
            show some (valE base (wr h a b v) a (SKc a) j) = some (valE base h a (SKc a) j)
            unfold valE
            rw [rd_wr_eq, if_neg hjb]
        · rw [List.getElem?_eq_none (by simpa using hj), List.getElem?_eq_none (by simpa using hj)]
      rw [hset] at hP1
      have hk9 : ∀ q : Nat, q < H.size → ¬ Ab base q → H1[q]? = H[q]? := by
        intro q hq1 hq2
        have hq3 : q < s.heap.size := by have hq5 : ¬ base ≤ q := hq2; omega
        rw [hS1.2.1 q hq3 hq2, hS.2.1 q hq3 hq2]
      exact hK _ _ _ _ _ _ _ _ _ hr hL (hW.put hP1 (rd_wr_ne (b := 1001) (ne_big ha (by decide))) (funext fun j => rd_wr_ne (b := 1000) (ne_big ha (by decide))) hk9) hS1 k1 k2
    cases e8 : c9 % 2 with
    | zero =>
      rw [e8] at f7
      exact key .int (by rw [f7]; rfl) rfl rfl
    | succ z =>
      rw [e8] at f7 g2
      have f7' : (T9 b).2.2.1 = "Z" := f7
      refine key .boolean (by rw [f7']; rfl) ?_ ?_
      · simp only [okZ, Bool.or_eq_true, decide_eq_true_eq] at g2
        rcases g2 with q | q <;> rw [q] <;> rfl
      · simp only [okZ, Bool.or_eq_true, decide_eq_true_eq] at g2
        rcases g2 with q | q <;> rw [q] <;> rfl
  | iaload =>
    simp only [chkI, Nat.beq_eq] at hchk
    subst hchk
    obtain ⟨j, t, rfl, hr⟩ := pI_inv hr
    obtain ⟨a, t, rfl, hr⟩ := pR_inv hr
    obtain ⟨g1, hr⟩ := gd_inv hr
    rw [Bool.and_eq_true] at g1
    obtain ⟨g1, g2⟩ := g1
    have g3 := memb_in g1
    simp only [List.mem_cons, List.not_mem_nil, or_false] at g3
    rcases g3 with g3 | g3
    · have ha : a < 228 := SKc_lt (by omega)
      have he := wd_get (base := base) (dA := dA) (h := h) ha
      rw [entE_int (Or.inl g3), g3] at he
      have al : alen SKn h a = SKn a := by
        unfold alen
        rw [show Nat.beq a SCRA = false from by rw [Bool.eq_false_iff]; intro z; exact ne_big ha (show 228 ≤ 1000 by decide) (Nat.eq_of_beq_eq_true z).symm]
        rfl
      rw [al] at g2
      rw [List.map_cons, List.map_cons, tr_ref ha]
      exact va_iald hx hb hKn hW.1 a 0 he rfl (inb_in g2) hdec (hK _ _ _ _ _ _ _ _ _ hr hL hW hS k1 k2)
    · have ha := SKc_18 g3
      subst ha
      have hbl : sb < s.heap.size := by have := hW.2.2.1; omega
      have g4 : inb j (rd h SCRB 0).toNatClampNeg = true := g2
      exact va_sldH hx hb hW.2.1 (inb_in g4) hdec (hK _ _ _ _ _ _ _ _ _ hr hL hW hS k1 k2)
  | aaload =>
    simp only [chkI, Nat.beq_eq] at hchk
    subst hchk
    obtain ⟨j, t, rfl, hr⟩ := pI_inv hr
    obtain ⟨a, t, rfl, hr⟩ := pR_inv hr
    obtain ⟨g1, hr⟩ := gd_inv hr
    rw [Bool.and_eq_true] at g1
    obtain ⟨g1, g2⟩ := g1
    have g3 := memb_in g1
    simp only [List.mem_cons, List.not_mem_nil, or_false] at g3
    have ha : a < 228 := SKc_lt (by omega)
    have he := wd_get (base := base) (dA := dA) (h := h) ha
    rw [entE_ref (by omega)] at he
    have hj : j.toNatClampNeg < SKn a := by
      have q := inb_in g2
      exact Nat.not_le.mp fun z => q (Or.inr z)
    have h9 : SKr a j.toNatClampNeg < 228 := skr_ok2 a ha (by omega) _ hj
    have q := hK _ _ _ _ _ _ _ _ _ hr hL hW hS k1 k2
    rw [List.map_cons, tr_ref h9] at q
    rw [List.map_cons, List.map_cons, tr_ref ha]
    rcases g3 with g3 | g3 | g3 | g3 | g3 <;> rw [g3] at he
    · exact va_aldq hx hb hKn hW.1 a 3 he rfl (inb_in g2) hdec q
    · exact va_aldq hx hb hKn hW.1 a 4 he rfl (inb_in g2) hdec q
    · exact va_aldq hx hb hKn hW.1 a 5 he rfl (inb_in g2) hdec q
    · exact va_aldq hx hb hKn hW.1 a 6 he rfl (inb_in g2) hdec q
    · exact va_aldq hx hb hKn hW.1 a 7 he rfl (inb_in g2) hdec q
  | iastore =>
    simp only [chkI, Nat.beq_eq] at hchk
    subst hchk
    obtain ⟨v, t, rfl, hr⟩ := pI_inv hr
    obtain ⟨j, t, rfl, hr⟩ := pI_inv hr
    obtain ⟨a, t, rfl, hr⟩ := pR_inv hr
    obtain ⟨g1, hr⟩ := gd_inv hr
    rw [Bool.and_eq_true, Nat.beq_eq] at g1
    obtain ⟨g3, g2⟩ := g1
    have ha : a < 228 := SKc_lt (by omega)
    have he := wd_get (base := base) (dA := dA) (h := h) ha
    rw [entE_int (Or.inl g3), g3] at he
    rw [List.map_cons, List.map_cons, List.map_cons, tr_ref ha]
    refine va_iast hx hb hKn hW.1 hD hS a 0 he rfl (inb_in g2) hdec (fun H1 locs1 hP1 hD1 hS1 => ?_)
    rw [wd_set (g := wr h a j.toNatClampNeg v) ha (by
      rw [entE_int (Or.inl g3), g3]
      congr 4
      funext q
      rw [rd_wr_eq]
      rfl) (fun b9 _ hne => entE_wr hne)] at hP1
    have hk9 : ∀ q : Nat, q < H.size → ¬ Ab base q → H1[q]? = H[q]? := by
      intro q hq1 hq2
      have hq3 : q < s.heap.size := by have hq5 : ¬ base ≤ q := hq2; omega
      rw [hS1.2.1 q hq3 hq2, hS.2.1 q hq3 hq2]
    exact hK _ _ _ _ _ _ _ _ _ hr hL (hW.put hP1 (rd_wr_ne (b := 1001) (ne_big ha (by decide))) (funext fun j => rd_wr_ne (b := 1000) (ne_big ha (by decide))) hk9) hS1 k1 k2
  | arraylength =>
    simp only [chkI, Nat.beq_eq] at hchk
    subst hchk
    obtain ⟨a, t, rfl, hr⟩ := pR_inv hr
    obtain ⟨g1, hr⟩ := gd_inv hr
    have g3 := memb_in g1
    simp only [List.mem_cons, List.not_mem_nil, or_false] at g3
    by_cases g4 : SKc a = 18
    · have ha := SKc_18 g4
      subst ha
      exact va_slenH hx hb hW.2.1 hdec (hK _ _ _ _ _ _ _ _ _ hr hL hW hS k1 k2)
    · have ha : a < 228 := SKc_lt (by omega)
      have he := wd_get (base := base) (dA := dA) (h := h) ha
      have al : alen SKn h a = SKn a := by
        unfold alen
        rw [show Nat.beq a SCRA = false from by rw [Bool.eq_false_iff]; intro z; exact ne_big ha (show 228 ≤ 1000 by decide) (Nat.eq_of_beq_eq_true z).symm]
        rfl
      rw [al] at hr
      have q := hK _ _ _ _ _ _ _ _ _ hr hL hW hS k1 k2
      rw [List.map_cons, tr_ref ha]
      rcases g3 with g3 | g3 | g3 | g3 | g3 | g3 | g3 | g3 | g3
      · rw [entE_int (Or.inl g3), g3] at he
        exact va_alen hx hb hKn hW.1 a 0 he rfl rfl hdec q
      · rw [entE_int (Or.inr g3), g3] at he
        exact va_alen hx hb hKn hW.1 a 1 he rfl rfl hdec q
      · rw [entE_lng g3] at he
        exact va_alen hx hb hKn hW.1 a 2 he rfl rfl hdec q
      · rw [entE_ref (by omega), g3] at he
        exact va_alen hx hb hKn hW.1 a 3 he rfl rfl hdec q
      · rw [entE_ref (by omega), g3] at he
        exact va_alen hx hb hKn hW.1 a 4 he rfl rfl hdec q
      · rw [entE_ref (by omega), g3] at he
        exact va_alen hx hb hKn hW.1 a 5 he rfl rfl hdec q
      · rw [entE_ref (by omega), g3] at he
        exact va_alen hx hb hKn hW.1 a 6 he rfl rfl hdec q
      · rw [entE_ref (by omega), g3] at he
        exact va_alen hx hb hKn hW.1 a 7 he rfl rfl hdec q
      · exact absurd g3 g4
  | new z =>
    simp only [chkI, decide_eq_true_eq] at hchk
    obtain ⟨g1, hr⟩ := gd_inv hr
    exact hE.2.2.2.1 pc b ls _ h H locs cells slots hchk (Option.some.inj hr).symm hW hS hL.1 (by rw [tr_cats]; exact Nat.ble_eq.mp g1) (by omega) (by omega)
  | ireturn =>
    simp only [chkI, Bool.and_eq_true, Nat.beq_eq, Nat.blt_eq] at hchk
    obtain ⟨⟨rfl, rfl⟩, h3⟩ := hchk
    obtain ⟨v, rfl, g2, g3⟩ := rI_inv hr
    exact hE.1 pc ls v h H locs cells slots g3.symm g2 h3 hW hS (by omega) (by omega) hdec
  | areturn =>
    simp only [chkI, Bool.and_eq_true, Nat.beq_eq] at hchk
    obtain ⟨rfl, h3⟩ := hchk
    obtain ⟨v, rfl, g3⟩ := rR_inv hr
    exact hE.2.1 pc ls v h H locs cells slots g3.symm h3 hW hS (by omega) (by omega) hdec
  | return_ =>
    simp only [chkI, Bool.and_eq_true, Nat.beq_eq] at hchk
    obtain ⟨rfl, h3⟩ := hchk
    obtain ⟨rfl, g3⟩ := rV_inv hr
    exact hE.2.2.1 pc ls h H locs cells slots g3.symm h3 hW hS (by omega) (by omega) hdec
  | invokevirtual z =>
    simp only [chkI, Bool.and_eq_true, Nat.beq_eq, decide_eq_true_eq] at hchk
    obtain ⟨⟨rfl, h2⟩, h3⟩ := hchk
    exact call_snd (i := .invokevirtual z) G hbs hC hS9 hK (hcal _ h2) hE hdec h3 hr hL hW hS hc1 hc2
  | invokestatic z =>
    simp only [chkI, Bool.and_eq_true, Nat.beq_eq, decide_eq_true_eq] at hchk
    obtain ⟨⟨rfl, h2⟩, h3⟩ := hchk
    exact call_snd (i := .invokestatic z) G hbs hC hS9 hK (hcal _ h2) hE hdec h3 hr hL hW hS hc1 hc2
  | _ => exact absurd hchk (by simp [chkI])
/-- any number of steps -/
theorem exN_snd {C S dc ds zc : Nat} {r : (Option Value × Hp) ⊕ (Nat × Hp)} {ft : Nat → Option Ent} {cl : List Fn} {hn : List (Nat × Int32)} {sw : List (List Nat)} {cal : List (Nat × Nat × Nat × Nat × Nat)} {cps : Option (List Nat)} {thw : List (Nat × Nat)}
    (G : Cx SL p s m args c cc nL own D dA) (hbs : base ≤ s.heap.size) (hC : C ≤ R.cells) (hS9 : S ≤ R.slots)
    (hft : ∀ pc q, ft pc = some q → chkE own cc nL zc sw cal cps thw (pc, q) = true)
    (hcal : ∀ q ∈ cal, CallOK SL l R own (insC q) (q.2.2.2.1 / 4) q.2.2.2.2 (nthF cl q.2.2.1) dc ds) (hE : Ends p l e R s m args below meth c Q cc nL base sb D dA C S zc hn cps thw r) :
    ∀ n, Snd p l e R s m args below meth c Q nL base sb D dA C S dc ds n r (exN SKc SKn SKr CS ft cl hn sw n) := by
  intro n
  induction n with
  | zero => intro pc lA stA h H locs cells slots ls hr; cases hr
  | succ n ih =>
    intro pc lA stA h H locs cells slots ls hr hL hW hS h1 h2
    have hr2 : stp SKc SKn SKr CS ft cl hn sw (exN SKc SKn SKr CS ft cl hn sw n) pc lA stA h = some r := hr
    unfold stp at hr2
    cases e9 : ft pc with
    | none => rw [e9] at hr2; cases hr2
    | some q =>
      rw [e9] at hr2
      obtain ⟨mk, i, len, b, c9, d, x⟩ := q
      have h3 := hft pc _ e9
      simp only [chkE, Bool.and_eq_true, decide_eq_true_eq] at h3
      exact stI_snd G hbs hC hS9 ih hcal hE h3.1 h3.2 hr2 (hL.kl mk) hW hS h1 h2
/-- .. and up to places where something else takes over -/
theorem itK_snd {C S dc ds zc : Nat} {r : (Option Value × Hp) ⊕ (Nat × Hp)} {ft : Nat → Option Ent} {cl : List Fn} {hn : List (Nat × Int32)} {sw : List (List Nat)} {cal : List (Nat × Nat × Nat × Nat × Nat)} {cps : Option (List Nat)} {thw : List (Nat × Nat)} {cuts : List Nat} {K : Kt} {n0 : Nat}
    (G : Cx SL p s m args c cc nL own D dA) (hbs : base ≤ s.heap.size) (hC : C ≤ R.cells) (hS9 : S ≤ R.slots)
    (hft : ∀ pc q, ft pc = some q → chkE own cc nL zc sw cal cps thw (pc, q) = true)
    (hcal : ∀ q ∈ cal, CallOK SL l R own (insC q) (q.2.2.2.1 / 4) q.2.2.2.2 (nthF cl q.2.2.1) dc ds) (hE : Ends p l e R s m args below meth c Q cc nL base sb D dA C S zc hn cps thw r)
    (hK : Snd p l e R s m args below meth c Q nL base sb D dA C S dc ds n0 r K) :
    ∀ n, Snd p l e R s m args below meth c Q nL base sb D dA C S dc ds (n0 + n) r (itK SKc SKn SKr CS ft cl hn sw cuts K n) := by
  intro n
  induction n with
  | zero => exact hK
  | succ n ih =>
    intro pc lA stA h H locs cells slots ls hr hL hW hS h1 h2
    have hr2 : stp SKc SKn SKr CS ft cl hn sw (fun pc2 ls2 st2 h2 => match memb pc2 cuts with
      | true => K pc2 (kl (msk ft pc2) ls2) st2 h2
      | false => itK SKc SKn SKr CS ft cl hn sw cuts K n pc2 ls2 st2 h2) pc lA stA h = some r := hr
    have hK2 : Snd p l e R s m args below meth c Q nL base sb D dA C S dc ds (n0 + n) r (fun pc2 ls2 st2 h2 => match memb pc2 cuts with
      | true => K pc2 (kl (msk ft pc2) ls2) st2 h2
      | false => itK SKc SKn SKr CS ft cl hn sw cuts K n pc2 ls2 st2 h2) := by
      intro pc lA stA h H locs cells slots ls hr hL hW hS h1 h2
      cases e9 : memb pc cuts with
      | true =>
        simp only [e9] at hr
        rw [Nat.add_mul] at h1 h2
        exact hK _ _ _ _ _ _ _ _ _ hr (hL.kl _) hW hS (by omega) (by omega)
      | false =>
        simp only [e9] at hr
        exact ih _ _ _ _ _ _ _ _ _ hr hL hW hS h1 h2
    unfold stp at hr2
    cases e9 : ft pc with
    | none => rw [e9] at hr2; cases hr2
    | some q =>
      rw [e9] at hr2
      obtain ⟨mk, i, len, b, c9, d, x⟩ := q
      have h3 := hft pc _ e9
      simp only [chkE, Bool.and_eq_true, decide_eq_true_eq] at h3
      exact stI_snd G hbs hC hS9 hK2 hcal hE h3.1 h3.2 hr2 (hL.kl mk) hW hS h1 h2
end STEP
