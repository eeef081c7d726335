/-! ===== BEGIN a method of a class above, found by the receiver, that may throw (follows va_callVU, va_runU of this kit) ===== -/
section
variable {p : Program} {l : Launch} {e : Env} {R : Room} {s : State} {m : MethodId} {args : Array Value} {below : List Frame} {meth : Method} {c : Code} {H : Heap} {locs : List Loc} {cells slots : Nat}
theorem vx_callVU {T : State} {locs : List Loc} {cells slots : Nat} (X : Stand p l e R s m args below meth c T locs cells slots) (hexec : p.tables.exec = Jvm.exec) {own C owner : String} {index : Nat} {x y : MethodName} {bytes : ByteArray} {maxL : Nat} {ret : Option FieldType}
    (hown : s.vm.findClass own = some m.cls) (hlink : (Cond.methodLink own index x).before args s = true) (hsame : (Cond.sameMethod x.cls owner x.name x.desc).before args s = true)
    (hd0 : va_Decl s ⟨owner, x.name, x.desc⟩) (howner : owner ≠ "java/lang/invoke/MethodHandle" ∧ owner ≠ "java/lang/invoke/VarHandle")
    (hsel : (Cond.selects C x y).before args s = true) (hinst : (Cond.instanceMethod y).before args s = true) (hcode : (Cond.code y bytes maxL ret).before args s = true)
    {W : Nat} {Pre : Pt → Array Value → Prop} {Post : Pt → Array Value → Option Value → Pt → Prop} {PostX : Pt → Array Value → Addr → Pt → Prop} (hK : vx_Back l R p e below s args y 3 W Pre Post PostX)
    {b : Addr} {cellB : Cell} (hcell : T.heap[b]? = some cellB) (hobj : cellB.vm.isStatics = false) (hcls : s.vm.findClass C = some cellB.cls)
    {g : JFrame} (hg : g.method = m) (hsize : g.locals.size = c.maxLocals) {argsL rest : List Value} (hlen : ∀ sig, parseMethodDescriptor x.desc = some sig → argsL.length = sig.parameters.length)
    (hstack : g.stack = argsL.reverse ++ .ref b :: rest) (hW : 2 * g.monitorRoom + (rest.map fun v => v.category).sum ≤ W) (hdg : decode c.code g.pc = .ok (.invokevirtual index, 3))
    (hpre : ∀ vm₁, s.WarmedH vm₁ → Pre ⟨T.setVm vm₁, locs, cells, slots⟩ (Value.ref b :: argsL).toArray) :
    (∃ (v : Option Value) (vm₁ : Vm) (B : Pt), s.WarmedH vm₁ ∧ Stand p l e R s m args below meth c B.U B.locs B.cells B.slots ∧ Post ⟨T.setVm vm₁, locs, cells, slots⟩ (Value.ref b :: argsL).toArray v B ∧
      ∀ target, Steps p.tables e below (B.U.setTop { g with pc := g.pc + 3, stack := v.toList ++ rest }) target → Steps p.tables e below (T.setTop g) target) ∨
    (∃ (q : Addr) (vm₁ : Vm) (B : Pt), s.WarmedH vm₁ ∧ Stand p l e R s m args below meth c B.U B.locs B.cells B.slots ∧ PostX ⟨T.setVm vm₁, locs, cells, slots⟩ (Value.ref b :: argsL).toArray q B ∧
      Steps p.tables e below (T.setTop g) ((B.U.setTop { g with stack := rest }).pushFrame (.throwing q))) := by
  obtain ⟨r0, r, hn, hrm, hstR, hsigR⟩ := hd0
  obtain ⟨cn, ck, r1, hcn, hck, hni, hf, hn1⟩ := Cond.sameMethod_found hsame
  cases hn.symm.trans hn1
  obtain ⟨mk, methM, hnamed, hmethM, -, habM⟩ := Cond.instanceMethod_spec hinst
  obtain ⟨c2, r2, m2, q1, q2, q3, q4, kP, hkP, hkPi⟩ := Cond.selects_spec hsel
  cases hcls.symm.trans q1
  cases hf.symm.trans q2
  cases hnamed.symm.trans q3
  have hselP : selectMethod e.platform s.vm cellB.cls r0 = .method mk := by rw [Launch.admits_selectMethod X.admits]; exact q4
  obtain ⟨vm₁, X₁, hstep₁⟩ := X.invokevirtualUp hexec hown hlink hsame howner hn hrm hstR (a := b) (cell := cellB) hcell
    (fun z h => by rw [h] at hobj; cases hobj) hselP hmethM habM hkP hkPi (g := g) hg (argsL := argsL) (rest := rest) (hlen _ hsigR) hstack hdg
  rcases hK m meth c ⟨T.setVm vm₁, locs, cells, slots⟩ { g with stack := rest } (.invokevirtual index) mk (Value.ref b :: argsL).toArray X₁ hg hsize hdg hW (X₁.named hnamed) (hpre vm₁ X₁.warmed) with ⟨v, B, X', hpost, hsteps⟩ | ⟨q, B, X', hpost, hsteps⟩
  · exact Or.inl ⟨v, vm₁, B, X₁.warmed, X', hpost, fun target h => hstep₁ _ fun acts => by rw [doInvoke_state]; exact hsteps.trans h⟩
  · exact Or.inr ⟨q, vm₁, B, X₁.warmed, X', hpost, hstep₁ _ fun acts => by rw [doInvoke_state]; exact hsteps⟩
theorem vx_runU {x y : MethodName} {bytes cc : ByteArray} {maxL nL mc ms n index : Nat} {ret : Option FieldType} {ws : List Cond} {rm : Room} {Pc : Array Value → State → Prop} {Qc : Array Value → State → Outcome → State → Prop} {XC : String → State → State → Prop} {free : Addr → Prop} {Ts : List Cond} {own C owner : String} {b : Addr} {As rest : List Value} {g : JFrame}
    (S : CallFix p m c cc nL s args Ts own) (hM : vx_Met l y ws rm Pc Qc XC mc ms free) (cw : va_CU R s args own C owner index x y bytes maxL ret ws rm mc ms n) (hp : PreV s H C b Pc As)
    (hg : g.method = m) (hn : As.length = n) (hsize : g.locals.size = nL) (hstack : g.stack = As.reverse ++ .ref b :: rest) (hW : 2 * g.monitorRoom + (rest.map fun v => v.category).sum ≤ 8) (hdg : decode cc g.pc = .ok (.invokevirtual index, 3)) (hf : cells + mc ≤ R.cells ∧ slots + ms ≤ R.slots) :
    vx_Run p l e R s m args below meth c H locs cells slots mc ms g rest (Qc (Value.ref b :: As).toArray) XC free := by
  obtain ⟨hrc, hrs, hfr, hlo, hws, hcw⟩ := cw.back
  have hini := cw.init
  have hK : vx_Back l R p e below s args y 3 8 (PreOf R mc ms Pc) (PostOf Qc mc ms free) (vx_Post XC mc ms free) := vx_back (bytes := bytes) (maxL := maxL) (ret := ret) hM hp.1 hrc hrs hfr hlo hws hcw (fun a' U hW => word_at hW (Or.inl (by first | rfl | simp [Cond.onTables, Cond.keeps, Cond.steady])) hini)
  obtain ⟨hx, hb, hml, ho, -⟩ := S
  obtain ⟨-, ⟨cellB, hcB, hoB, hclB⟩, hPc⟩ := hp
  intro T hT X
  rcases vx_callVU X hx (C := C) (owner := owner) (bytes := bytes) (maxL := maxL) (ret := ret) ho cw.link cw.same cw.decl cw.notMH cw.sel cw.inst cw.code hK (by rw [hT]; exact hcB) hoB hclB hg (hsize.trans hml.symm) (argsL := As) (rest := rest) (fun sig h => hn.trans (cw.len sig h)) hstack hW (by rw [hb]; exact hdg)
    (fun vm₁ hW₁ => ⟨hf.1, hf.2, hPc (T.setVm vm₁) hT hW₁⟩) with ⟨v, vm₁, ⟨U', l2, c2, s2⟩, hW₁, X', ⟨g', mk, t, L, e1, e2, hq, h1, hL, h2, h3⟩, st⟩ | ⟨q, vm₁, ⟨U', l2, c2, s2⟩, hW₁, X', ⟨g', mk, t, L, E, ce, e1, e2, hq, hce, hcv, hcl, h1, hL, h2, h3⟩, st⟩
  · dsimp only [Pt.U, Pt.locs, Pt.cells, Pt.slots] at X' e1 e2 h1 h2 h3 st
    subst h1; subst h2; subst h3
    exact Or.inl ⟨v, (T.setVm vm₁).calling g' mk (Value.ref b :: As).toArray, t, U', L, hT, X', hL, e1, e2, hq, st⟩
  · dsimp only [Pt.U, Pt.locs, Pt.cells, Pt.slots] at X' e1 e2 h1 h2 h3 st hcl
    subst h1; subst h2; subst h3
    exact Or.inr ⟨q, (T.setVm vm₁).calling g' mk (Value.ref b :: As).toArray, t, U', L, E, ce, hT, X', hL, e1, e2, hq, hce, hcv, vx_cls hW₁ hcl, st⟩
end
/-! ===== END ===== -/
/-! ===== contracts: a method does what its function says ===== -/
def rmc (dc : Nat) (r : (Option Value × Hp) ⊕ (Nat × Hp)) : Nat := match r with
  | .inl _ => dc
  | .inr _ => 1
def rms (ds : Nat) (r : (Option Value × Hp) ⊕ (Nat × Hp)) : Nat := match r with
  | .inl _ => ds
  | .inr _ => 6
def Pcw (SL : List StrT) (base sb : Nat) (D : va_G) (dA : Nat → ClassId) (vs : List Value) (h : Hp) : Array Value → State → Prop :=
  va_Pc (vs.map (tr base sb)) fun U => base ≤ U.heap.size ∧ Wd base sb D dA h U U.heap ∧ va_K D vwCl (tys dA) U ∧ Ex0 SL U
def Qcw (base sb : Nat) (D : va_G) (dA : Nat → ClassId) (r : (Option Value × Hp) ⊕ (Nat × Hp)) : Array Value → State → Outcome → State → Prop := fun _ st o t =>
  ∃ (v : Option Value) (g : Hp), r = .inl (v, g) ∧ o = .returned (v.map (tr base sb)) ∧ Wd base sb D dA g t t.heap ∧ va_F (Ab base) st t
def XCw (base sb : Nat) (D : va_G) (dA : Nat → ClassId) (r : (Option Value × Hp) ⊕ (Nat × Hp)) : String → State → State → Prop := fun X st t =>
  ∃ (E : Nat) (g : Hp), r = .inr (E, g) ∧ X = EN E ∧ Wd base sb D dA g t t.heap ∧ va_F (Ab base) st t
def Con (SL : List StrT) (l : Launch) (y : MethodName) (w0 : Jvm.Cond) (F : Fn) (fr lo dc ds : Nat) : Prop :=
  ∀ (base sb : Nat) (D : va_G) (dA : Nat → ClassId) (vs : List Value) (h : Hp) (r : (Option Value × Hp) ⊕ (Nat × Hp)), F vs h = some r →
    vx_Met l y (w0 :: WG) { frames := fr, cells := rmc dc r, slots := rms ds r, locals := lo } (Pcw SL base sb D dA vs h) (Qcw base sb D dA r) (XCw base sb D dA r) (rmc dc r) (rms ds r) (Ab base)
theorem Pcw_blind {SL : List StrT} {base sb : Nat} {D : va_G} {dA : Nat → ClassId} {vs : List Value} {h : Hp} : FrameBlind (Pcw SL base sb D dA vs h) := by
  intro a U g mk q
  obtain ⟨q1, q2, q3, q4, q5⟩ := q
  have hW : U.WarmedH (U.calling g mk a).vm := State.WarmedH.refl U
  exact ⟨q1, q2, q3.moved (u := U) (U := U.calling g mk a) (Vm.Alike.refl U.vm), va_K.moved (u := U) (U := U.calling g mk a) (Vm.Alike.refl U.vm) q4, Ex0.warm (s := U) (U := U.calling g mk a) hW q5⟩
section CALLS
variable {SL : List StrT} {p : Program} {l : Launch} {e : Env} {R : Room} {s : State} {m : MethodId} {args : Array Value} {below : List Frame} {meth : Method} {c : Code} {base sb : Nat} {D : va_G} {dA : Nat → ClassId} {Q : State → Prop} {H : Heap} {locs : List Loc} {cells slots : Nat}
theorem run_W {r : (Option Value × Hp) ⊕ (Nat × Hp)} {pc mc ms : Nat} {ls : Array Slot} {rest st0 : List Value} {a : Array Value} (hr : vx_Run p l e R s m args below meth c H locs cells slots mc ms (F0 m pc ls st0) rest (Qcw base sb D dA r a) (XCw base sb D dA r) (Ab base)) (hS : va_S (Ab base) s.heap H locs)
    (k1 : ∀ (v : Option Value) (g : Hp), r = .inl (v, g) → ∀ (H' : Heap) (locs' : List Loc), Wd base sb D dA g s H' → va_S (Ab base) s.heap H' locs' → W p l e R s m args below meth c H' locs' (cells + mc) (slots + ms) Q (F0 m (pc + 3) ls ((v.map (tr base sb)).toList ++ rest)))
    (k2 : ∀ (E : Nat) (g : Hp), r = .inr (E, g) → ∀ (H' : Heap) (locs' : List Loc) (q : Addr) (ce : Cell), Wd base sb D dA g s H' → va_S (Ab base) s.heap H' locs' → H'[q]? = some ce → ce.vm = .none → s.vm.findClass (EN E) = some ce.cls → vx_W p l e R s m args below meth c H' locs' (cells + mc) (slots + ms) Q (F0 m pc ls rest) q) :
    W p l e R s m args below meth c H locs cells slots Q (F0 m pc ls st0) := by
  intro T hT X
  rcases hr T hT X with ⟨v, st₀, t, T', L, h0, X', hL, e1, e2, ⟨v9, g, hr9, hv, hw, hF⟩, st⟩ | ⟨q, st₀, t, T', L, E, ce, h0, X', hL, e1, e2, ⟨E9, g, hr9, hE, hw, hF⟩, hce, hcv, hcl, st⟩
  · cases hv
    obtain ⟨j1, j2, j3⟩ := vx_keep h0 e1 hS (fun q _ h => h) (fun q h => h) hL hF
    have hw' : Wd base sb D dA g s T'.heap := by
      rw [e1]
      exact hw.moved (by rw [← e2]; exact X'.warmed.alike.symm)
    obtain ⟨t2, a1, b1⟩ := k1 v9 g hr9 T'.heap (locs ++ L) hw' j3 T' rfl X'
    exact ⟨t2, st t2 a1, b1⟩
  · subst hE
    obtain ⟨j1, j2, j3⟩ := vx_keep h0 e1 hS (fun q _ h => h) (fun q h => h) hL hF
    have hw' : Wd base sb D dA g s T'.heap := by
      rw [e1]
      exact hw.moved (by rw [← e2]; exact X'.warmed.alike.symm)
    obtain ⟨t2, a1, b1⟩ := k2 E9 g hr9 T'.heap (locs ++ L) q ce hw' j3 (by rw [e1]; exact hce) hcv hcl T' rfl X'
    exact ⟨t2, st.trans a1, b1⟩
theorem pcw_at {own : String} {nL : Nat} {cc : ByteArray} {vs : List Value} {h : Hp} (G : Cx SL p s m args c cc nL own D dA) (hbs : base ≤ s.heap.size) (hW : Wd base sb D dA h s H) (hS : va_S (Ab base) s.heap H locs) : ∀ U : State, U.heap = H → s.WarmedH U.vm → Pcw SL base sb D dA vs h (vs.map (tr base sb)).toArray U := by
  obtain ⟨-, -, -, -, -, hKn, hEx⟩ := G
  intro U hU hWm
  refine ⟨rfl, ?_, ?_, va_K.moved hWm.alike hKn, Ex0.warm hWm hEx⟩
  · rw [hU]; exact Nat.le_trans hbs hS.1
  · rw [hU]; exact hW.moved hWm.alike
end CALLS
theorem goodW {w : Jvm.Cond} (h : w ∈ WG) : (w.onTables && w.keeps) = true ∨ ∃ ty, w = .arrayClass ty := (wg_good w h).2
theorem goodWs {ws : List Jvm.Cond} (h : ∀ w ∈ ws, w ∈ WG) : GoodIn WG ws := fun w hw => ⟨h w hw, goodW (h w hw)⟩
/-- a method of an own class, called on an object of that very class -/
theorem callOK_V {SL : List StrT} {l : Launch} {own C : String} {index n d ci maxL fr lo dc ds : Nat} {y : MethodName} {bytes : ByteArray} {ret : Option FieldType} {F : Fn} {T : u_T} {N : Nat}
    (hcon : Con SL l y (.code y bytes maxL ret) F fr lo dc ds)
    (hw : ∀ w ∈ [Jvm.Cond.methodLink own index y, .instanceMethod y, .selects C y y, .initialized C, .code y bytes maxL ret], w ∈ WG)
    (hd : y.cls = C ∧ y.cls ≠ "java/lang/invoke/MethodHandle" ∧ y.cls ≠ "java/lang/invoke/VarHandle" ∧ (parseMethodDescriptor y.desc).map (fun d => d.parameters.length) = some n)
    (hci : vwCl[ci]? = some (C, T, N)) (hCS : CS d = [ci]) (hd9 : d ≠ 99) {R : Room} (hR : fr + 1 ≤ R.frames ∧ 8 + (maxL + 11) + lo ≤ R.locals) : CallOK SL l R own (.invokevirtual index) (n + 1) d F dc ds := by
  intro p e s m args below meth c cc nL base sb D dA Q H locs cells slots pc ls rest vs h G hdec hls hlen hrc hcat hW hS hbs hc1 hc2 hF k1 k2
  obtain ⟨hx, hb, hml, hown, hts, hKn, hEx⟩ := id G
  unfold recv at hrc
  rw [show Nat.beq d 99 = false from by rw [Bool.eq_false_iff]; intro z; exact hd9 (Nat.eq_of_beq_eq_true z)] at hrc
  rcases vs with _ | ⟨v, As⟩
  · cases hrc
  cases v with
  | ref a =>
    have g1 : memb (SKc a) (CS d) = true := hrc
    rw [hCS] at g1
    have g2 := memb_in g1
    simp only [List.mem_cons, List.not_mem_nil, or_false] at g2
    obtain ⟨q1, q2, -⟩ := cl_ok hci
    have ha : a < 228 := SKc_lt (by omega)
    have he := wd_get (base := base) (dA := dA) (h := h) ha
    rw [entE_obj (by omega), g2] at he
    obtain ⟨r, hr⟩ : ∃ r, F (.ref a :: As) h = some r := Option.ne_none_iff_exists'.mp hF
    have hlen2 : As.length = n := by simpa using hlen
    have hG2 : GoodIn WG (wsV own index C y (.code y bytes maxL ret :: WG)) := goodWs fun w hw9 => by
      simp only [wsV, List.mem_append, List.mem_cons, List.not_mem_nil, or_false] at hw9
      rcases hw9 with ((rfl | rfl | rfl | rfl) | (rfl | q))
      · exact hw _ (by simp)
      · exact hw _ (by simp)
      · exact hw _ (by simp)
      · exact hw _ (by simp)
      · exact hw _ (by simp)
      · exact q
    have hpre := pcw_at (vs := .ref a :: As) (h := h) G hbs hW hS
    rw [List.map_cons, tr_ref ha] at hpre ⊢
    have hf : cells + rmc dc r ≤ R.cells ∧ slots + rms ds r ≤ R.slots := by
      rcases r with r | ⟨E, g⟩
      · exact ⟨hc1, hc2⟩
      · exact (k2 E g hr).1
    rw [List.reverse_cons, List.append_assoc]
    refine run_W (r := r) (vx_runV (As := As.map (tr base sb)) (rest := rest) ⟨hx, hb, hml, hown, hts⟩ (hcon base sb D dA _ h r hr) (cwV n hts hG2 rfl rfl rfl hd hR) ⟨Pcw_blind, va_recv hKn hW.1 hci he, hpre⟩ rfl (by rw [List.length_map]; exact hlen2) hls rfl (by show 2 * 0 + _ ≤ 8; omega) hdec hf) hS ?_ ?_
    · intro v g hv H' locs' hW' hS'
      subst hv
      exact k1 v g hr H' locs' hW' hS'
    · intro E g hv H' locs' q ce hW' hS' f1 f2 f3
      subst hv
      exact (k2 E g hr).2 H' locs' q ce hW' hS' f1 f2 f3
  | _ => cases hrc
/-- an inherited method, by whatever name, called on an object of one of the three classes -/
theorem callOK_U {SL : List StrT} {l : Launch} {own owner : String} {index n d maxL fr lo dc ds : Nat} {x y : MethodName} {bytes : ByteArray} {ret : Option FieldType} {F : Fn}
    (hcon : Con SL l y (.code y bytes maxL ret) F fr lo dc ds)
    (hw : ∀ w ∈ [Jvm.Cond.methodLink own index x, .sameMethod x.cls owner x.name x.desc, .instanceMethod y, .initialized y.cls, .code y bytes maxL ret], w ∈ WG)
    (hyx : y = ⟨owner, x.name, x.desc⟩)
    (hd : owner ≠ "java/lang/invoke/MethodHandle" ∧ owner ≠ "java/lang/invoke/VarHandle" ∧ (parseMethodDescriptor x.desc).map (fun d => d.parameters.length) = some n)
    (hCS : ∀ ci ∈ CS d, ∃ (C : String) (T : u_T) (N : Nat), vwCl[ci]? = some (C, T, N) ∧ Jvm.Cond.selects C x y ∈ WG) (hd9 : d ≠ 99) {R : Room} (hR : fr + 1 ≤ R.frames ∧ 8 + (maxL + 11) + lo ≤ R.locals) : CallOK SL l R own (.invokevirtual index) (n + 1) d F dc ds := by
  intro p e s m args below meth c cc nL base sb D dA Q H locs cells slots pc ls rest vs h G hdec hls hlen hrc hcat hW hS hbs hc1 hc2 hF k1 k2
  obtain ⟨hx, hb, hml, hown, hts, hKn, hEx⟩ := id G
  unfold recv at hrc
  rw [show Nat.beq d 99 = false from by rw [Bool.eq_false_iff]; intro z; exact hd9 (Nat.eq_of_beq_eq_true z)] at hrc
  rcases vs with _ | ⟨v, As⟩
  · cases hrc
  cases v with
  | ref a =>
    have g1 : memb (SKc a) (CS d) = true := hrc
    obtain ⟨C, T, N, hci, hsel⟩ := hCS _ (memb_in g1)
    obtain ⟨q1, q2, -⟩ := cl_ok hci
    have ha : a < 228 := SKc_lt (by omega)
    have he := wd_get (base := base) (dA := dA) (h := h) ha
    rw [entE_obj (by omega)] at he
    obtain ⟨r, hr⟩ : ∃ r, F (.ref a :: As) h = some r := Option.ne_none_iff_exists'.mp hF
    have hlen2 : As.length = n := by simpa using hlen
    have hG2 : GoodIn WG (va_wsU own index C owner x y (.code y bytes maxL ret :: WG)) := goodWs fun w hw9 => by
      simp only [va_wsU, List.mem_append, List.mem_cons, List.not_mem_nil, or_false] at hw9
      rcases hw9 with ((rfl | rfl | rfl | rfl | rfl) | (rfl | q))
      · exact hw _ (by simp)
      · exact hw _ (by simp)
      · exact hsel
      · exact hw _ (by simp)
      · exact hw _ (by simp)
      · exact hw _ (by simp)
      · exact q
    have hpre := pcw_at (vs := .ref a :: As) (h := h) G hbs hW hS
    rw [List.map_cons, tr_ref ha] at hpre ⊢
    have hf : cells + rmc dc r ≤ R.cells ∧ slots + rms ds r ≤ R.slots := by
      rcases r with r | ⟨E, g⟩
      · exact ⟨hc1, hc2⟩
      · exact (k2 E g hr).1
    rw [List.reverse_cons, List.append_assoc]
    refine run_W (r := r) (vx_runU (As := As.map (tr base sb)) (rest := rest) ⟨hx, hb, hml, hown, hts⟩ (hcon base sb D dA _ h r hr) (va_cwU n hts hG2 rfl rfl rfl hyx hd hR) ⟨Pcw_blind, va_recv hKn hW.1 hci he, hpre⟩ rfl (by rw [List.length_map]; exact hlen2) hls rfl (by show 2 * 0 + _ ≤ 8; omega) hdec hf) hS ?_ ?_
    · intro v g hv H' locs' hW' hS'
      subst hv
      exact k1 v g hr H' locs' hW' hS'
    · intro E g hv H' locs' q ce hW' hS' f1 f2 f3
      subst hv
      exact (k2 E g hr).2 H' locs' q ce hW' hS' f1 f2 f3
  | _ => cases hrc
/-- a static method without a table -/
theorem callOK_S {SL : List StrT} {l : Launch} {own : String} {index n d maxL fr lo dc ds : Nat} {y : MethodName} {bytes : ByteArray} {ret : Option FieldType} {F : Fn}
    (hcon : Con SL l y (.code y bytes maxL ret) F fr lo dc ds)
    (hw : ∀ w ∈ [Jvm.Cond.methodLink own index y, .static y, .initialized y.cls, .code y bytes maxL ret], w ∈ WG)
    (hd : y.cls ≠ "java/lang/invoke/MethodHandle" ∧ y.cls ≠ "java/lang/invoke/VarHandle" ∧ (parseMethodDescriptor y.desc).map (fun d => d.parameters.length) = some n)
    {R : Room} (hR : fr + 1 ≤ R.frames ∧ 8 + (maxL + 11) + lo ≤ R.locals) : CallOK SL l R own (.invokestatic index) n d F dc ds := by
  intro p e s m args below meth c cc nL base sb D dA Q H locs cells slots pc ls rest vs h G hdec hls hlen hrc hcat hW hS hbs hc1 hc2 hF k1 k2
  obtain ⟨hx, hb, hml, hown, hts, hKn, hEx⟩ := id G
  obtain ⟨r, hr⟩ : ∃ r, F vs h = some r := Option.ne_none_iff_exists'.mp hF
  have hG2 : GoodIn WG (va_wsS own index y (.code y bytes maxL ret :: WG)) := goodWs fun w hw9 => by
    simp only [va_wsS, List.mem_append, List.mem_cons, List.not_mem_nil, or_false] at hw9
    rcases hw9 with ((rfl | rfl | rfl) | (rfl | q))
    · exact hw _ (by simp)
    · exact hw _ (by simp)
    · exact hw _ (by simp)
    · exact hw _ (by simp)
    · exact q
  have hpre := pcw_at (vs := vs) (h := h) G hbs hW hS
  have hf : cells + rmc dc r ≤ R.cells ∧ slots + rms ds r ≤ R.slots := by
    rcases r with r | ⟨E, g⟩
    · exact ⟨hc1, hc2⟩
    · exact (k2 E g hr).1
  refine run_W (r := r) (vx_runS (As := vs.map (tr base sb)) (rest := rest) ⟨hx, hb, hml, hown, hts⟩ (hcon base sb D dA _ h r hr) (va_cwS n hts hG2 rfl rfl rfl hd hR) ⟨Pcw_blind, hpre⟩ rfl (by rw [List.length_map]; exact hlen) hls rfl (by show 2 * 0 + _ ≤ 8; omega) hdec hf) hS ?_ ?_
  · intro v g hv H' locs' hW' hS'
    subst hv
    exact k1 v g hr H' locs' hW' hS'
  · intro E g hv H' locs' q ce hW' hS' f1 f2 f3
    subst hv
    exact (k2 E g hr).2 H' locs' q ce hW' hS' f1 f2 f3
/-- a static method with a table -/
theorem callOK_SX {SL : List StrT} {l : Launch} {own : String} {index n d maxL fr lo dc ds : Nat} {y : MethodName} {bytes : ByteArray} {ret : Option FieldType} {hh : List (Nat × Nat × Nat × Nat)} {F : Fn}
    (hcon : Con SL l y (.codeWith y bytes maxL ret hh) F fr lo dc ds)
    (hw : ∀ w ∈ [Jvm.Cond.methodLink own index y, .static y, .initialized y.cls, .codeWith y bytes maxL ret hh], w ∈ WG)
    (hd : y.cls ≠ "java/lang/invoke/MethodHandle" ∧ y.cls ≠ "java/lang/invoke/VarHandle" ∧ (parseMethodDescriptor y.desc).map (fun d => d.parameters.length) = some n)
    {R : Room} (hR : fr + 1 ≤ R.frames ∧ 8 + (maxL + 11) + lo ≤ R.locals) : CallOK SL l R own (.invokestatic index) n d F dc ds := by
  intro p e s m args below meth c cc nL base sb D dA Q H locs cells slots pc ls rest vs h G hdec hls hlen hrc hcat hW hS hbs hc1 hc2 hF k1 k2
  obtain ⟨hx, hb, hml, hown, hts, hKn, hEx⟩ := id G
  obtain ⟨r, hr⟩ : ∃ r, F vs h = some r := Option.ne_none_iff_exists'.mp hF
  have hG2 : GoodIn WG (va_wsS own index y (.codeWith y bytes maxL ret hh :: WG)) := goodWs fun w hw9 => by
    simp only [va_wsS, List.mem_append, List.mem_cons, List.not_mem_nil, or_false] at hw9
    rcases hw9 with ((rfl | rfl | rfl) | (rfl | q))
    · exact hw _ (by simp)
    · exact hw _ (by simp)
    · exact hw _ (by simp)
    · exact hw _ (by simp)
    · exact q
  have hpre := pcw_at (vs := vs) (h := h) G hbs hW hS
  have hf : cells + rmc dc r ≤ R.cells ∧ slots + rms ds r ≤ R.slots := by
    rcases r with r | ⟨E, g⟩
    · exact ⟨hc1, hc2⟩
    · exact (k2 E g hr).1
  refine run_W (r := r) (vx_runSX (hh := hh) (As := vs.map (tr base sb)) (rest := rest) ⟨hx, hb, hml, hown, hts⟩ (hcon base sb D dA _ h r hr) (vx_cwSW n hts hG2 rfl rfl rfl hd hR) ⟨Pcw_blind, hpre⟩ rfl (by rw [List.length_map]; exact hlen) hls rfl (by show 2 * 0 + _ ≤ 8; omega) hdec hf) hS ?_ ?_
  · intro v g hv H' locs' hW' hS'
    subst hv
    exact k1 v g hr H' locs' hW' hS'
  · intro E g hv H' locs' q ce hW' hS' f1 f2 f3
    subst hv
    exact (k2 E g hr).2 H' locs' q ce hW' hS' f1 f2 f3
