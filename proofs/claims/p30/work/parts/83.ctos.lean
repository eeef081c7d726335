/-! one step of a constructor -/
theorem entC_obj {base : Nat} {dA : Nat → ClassId} {h : CH} {a : Nat} (hc : SKc a < 10) : entC base dA h a = .inr (SKc a, (List.range (SKn a)).map (valC base h a (SKc a))) := by
  unfold entC
  rw [show Nat.blt (SKc a) 10 = true from Nat.blt_eq.mpr hc]
  rfl
theorem entC_int {base : Nat} {dA : Nat → ClassId} {h : CH} {a : Nat} (hc : SKc a = 10 ∨ SKc a = 11) : entC base dA h a = .inl (dA (SKc a - 10), SKn a, .inl (fun j => h.2 a j)) := by
  unfold entC
  rcases hc with q | q <;> rw [q] <;> rfl
theorem entC_lng {base : Nat} {dA : Nat → ClassId} {h : CH} {a : Nat} (hc : SKc a = 12) : entC base dA h a = .inl (dA 2, SKn a, .inr (.inl (fun _ => 0))) := by
  unfold entC
  rw [hc]
  rfl
theorem entC_ref {base : Nat} {dA : Nat → ClassId} {h : CH} {a : Nat} (h1 : 13 ≤ SKc a) : entC base dA h a = .inl (dA (SKc a - 10), SKn a, .inr (.inr (.inr (.inr (fun j => match decide (h.2 a j = 0) with
          | true => none
          | false => some (base + SKr a j)))))) := by
  unfold entC
  rw [show Nat.blt (SKc a) 10 = false from by rw [Bool.eq_false_iff]; intro z; have := Nat.blt_eq.mp z; omega, show Nat.blt (SKc a) 12 = false from by rw [Bool.eq_false_iff]; intro z; have := Nat.blt_eq.mp z; omega, show Nat.beq (SKc a) 12 = false from by rw [Bool.eq_false_iff]; intro z; have := Nat.eq_of_beq_eq_true z; omega]
  rfl
theorem arr_words : Jvm.Cond.arrayClass .int ∈ WG := by decide +kernel
theorem entC_put {base : Nat} {dA : Nat → ClassId} {h : CH} {a k : Nat} {x : Int32} {v : Value} (ha : a < h.1) (hc : SKc a < 10) (hv : valC base (cw h a k x) a (SKc a) k = v) : entC base dA (cw h a k x) a = .inr (SKc a, ((List.range (SKn a)).map (valC base h a (SKc a))).set k v) := by
  rw [entC_obj hc]
  congr 2
  apply List.ext_getElem?
  intro j
  by_cases hj : j < SKn a
  · rw [List.getElem?_map, List.getElem?_range hj]
    by_cases hjb : j = k
    · subst hjb
      rw [List.getElem?_set_self (by simpa using hj), ← hv]
      rfl
    · rw [List.getElem?_set_ne (Ne.symm hjb), List.getElem?_map, List.getElem?_range hj]
      show some (valC base (cw h a k x) a (SKc a) j) = some (valC base h a (SKc a) j)
      unfold valC
      rw [cw_eq, if_neg hjb]
  · rw [List.getElem?_eq_none (by simpa using hj), List.getElem?_eq_none (by simpa using hj)]
theorem fldF_spec {own C : String} {b ci N : Nat} {T : u_T} (h : fldF own b ci = true) (hc : vwCl[ci]? = some (C, T, N)) : (T b).2.2.2 = true ∧ (T b).1 = own ∧ ∃ t, parseFieldDescriptor (T b).2.2.1 = some (.array t) := by
  unfold fldF at h
  rw [hc] at h
  simp only [Bool.and_eq_true, decide_eq_true_eq] at h
  refine ⟨h.1.1, h.1.2, ?_⟩
  have h3 := h.2
  unfold isArr at h3
  split at h3
  · exact ⟨_, by assumption⟩
  · cases h3
theorem newW_spec {own : String} {k b : Nat} (h : newW own k b = true) : ∃ (C : String) (T : u_T) (N : Nat), vwCl[b]? = some (C, T, N) ∧ Jvm.Cond.classLink own k C ∈ WG ∧ Jvm.Cond.instantiable C N ∈ WG ∧ Jvm.Cond.initialized C ∈ WG := by
  unfold newW at h
  cases e : vwCl[b]? with
  | none => rw [e] at h; cases h
  | some r =>
    obtain ⟨C, T, N⟩ := r
    rw [e] at h
    simp only [Bool.and_eq_true, decide_eq_true_eq] at h
    exact ⟨C, T, N, rfl, h.1.1, h.1.2, h.2⟩
def dfv (b : Bool) : Value := match b with
  | true => .null
  | false => .int 0
def dfOK (ci : Nat) : Bool := match vwCl[ci]? with
  | some (_, T, N) => (List.range N).all fun k => match parseFieldDescriptor (T k).2.2.1 with
    | some t => decide (defaultValue t = dfv (rfk ci k))
    | none => true
  | none => true
theorem dfOK_all : (List.range 7).all dfOK = true := by decide +kernel
theorem dflt_ok {ci N : Nat} {C : String} {T : u_T} (hc : vwCl[ci]? = some (C, T, N)) (j : Nat) (hj : j < N) {ty : FieldType} (hp : parseFieldDescriptor (T j).2.2.1 = some ty) : defaultValue ty = (match rfk ci j with
    | true => (match decide ((0 : Int32) = 0) with
      | true => .null
      | false => .ref 0)
    | false => .int 0) := by
  have h1 := (List.all_eq_true.mp dfOK_all) ci (List.mem_range.mpr (cl_ok hc).1)
  unfold dfOK at h1
  rw [hc] at h1
  have h2 := (List.all_eq_true.mp h1) j (List.mem_range.mpr hj)
  rw [hp] at h2
  rw [of_decide_eq_true h2]
  cases rfk ci j <;> rfl
section CSTEP
variable {NW : List NRow} {p : Program} {l : Launch} {e : Env} {R : Room} {s : State} {m : MethodId} {args : Array Value} {below : List Frame} {meth : Method} {c : Code} {cc : ByteArray} {nL : Nat} {own : String} {base sb : Nat} {D : va_G} {dA : Nat → ClassId} {Q : State → Prop}
theorem gd3 {α : Type} {b : Bool} {x : Option α} {r : α} (h : (match b with | true => x | false => none) = some r) : b = true ∧ x = some r := by
  cases b
  · cases h
  · exact ⟨rfl, h⟩
theorem small_i32 {n : Nat} (h : n < 100) : ¬ Int32.ofNat n < 0 ∧ (Int32.ofNat n).toNatClampNeg = n := ⟨nI_pos (n := n) (by omega), nI_clamp (n := n) (by omega)⟩
def CEnd (p : Program) (l : Launch) (e : Env) (R : Room) (s : State) (m : MethodId) (args : Array Value) (below : List Frame) (meth : Method) (c : Code) (Q : State → Prop) (cc : ByteArray) (nL base sb : Nat) (D : va_G) (dA : Nat → ClassId) (ft : Nat → Option Ent) (stop n0 : Nat) (lsE : List Value) (g : CH) : Prop :=
  (∀ (ls : Array Slot) (H : Heap) (locs : List Loc), stop < 90000 → LR base sb ls nL lsE → Wc base D dA g H → va_S (Ab base) s.heap H locs → W p l e R s m args below meth c H locs (g.1 - n0) (sl g.1 - sl n0) Q (F0 m stop ls [])) ∧
  (∀ (pc : Nat) (ls : Array Slot) (H : Heap) (locs : List Loc), Wc base D dA g H → va_S (Ab base) s.heap H locs → decode cc pc = .ok (.return_, 1) → (∃ q : Ent, ft pc = some q ∧ q.2.1 = .return_) → W p l e R s m args below meth c H locs (g.1 - n0) (sl g.1 - sl n0) Q (F0 m pc ls []))
theorem exC_mono {ft : Nat → Option Ent} {cl : List CF} {stop : Nat} (hcl : ∀ i, CMono (nthC cl i)) : ∀ (f pc : Nat) (ls st : List Value) (h : CH) (r : List Value × CH), exC ft cl stop f pc ls st h = some r → h.1 ≤ r.2.1 := by
  intro f
  induction f with
  | zero => intro pc ls st h r hr; cases hr
  | succ f ih =>
    intro pc ls st h r hr
    unfold exC at hr
    cases hb : Nat.beq pc stop with
    | true =>
      rw [hb] at hr
      cases st with
      | nil =>
        have hr2 : cond (Nat.blt stop 90000) (some (ls, h)) none = some r := hr
        cases h9 : Nat.blt stop 90000 with
        | true =>
          rw [h9] at hr2
          cases hr2
          exact Nat.le_refl _
        | false =>
          rw [h9] at hr2
          cases hr2
      | cons v t =>
        have hr2 : none = some r := hr
        cases hr2
    | false =>
      rw [hb] at hr
      simp only [cond_false] at hr
      cases hf : ft pc with
      | none => rw [hf] at hr; cases hr
      | some q =>
        obtain ⟨mk, i, len, b, c, d, x⟩ := q
        rw [hf] at hr
        simp only [] at hr
        split at hr <;>
          first
          | exact ih _ _ _ _ _ hr
          | (split at hr <;> first | exact ih _ _ _ _ _ hr | cases hr | (have q := ih _ _ _ _ _ hr; exact q) | (have q := ih _ _ _ _ _ hr; exact Nat.le_trans (Nat.le_succ _) q) | (split at hr <;> first | (rename_i g hg; exact Nat.le_trans (hcl _ _ _ _ hg) (ih _ _ _ _ _ hr)) | cases hr))
          | (cases hr; exact Nat.le_refl _)
          | cases hr
set_option maxHeartbeats 16000000 in
set_option maxRecDepth 100000 in
theorem exC_snd {ft : Nat → Option Ent} {cl : List CF} {stop n0 : Nat} {cal : List (Nat × Nat × Nat)} {lsE : List Value} {g : CH} (hcl : ∀ i, CMono (nthC cl i))
    (G : CxC NW p s m args c cc nL own D dA) (hbs : base ≤ s.heap.size) (hR1 : g.1 - n0 ≤ R.cells) (hR2 : sl g.1 - sl n0 ≤ R.slots) (hnm : (∃ q, (7 : Nat) = q) → True)
    (hft : ∀ pc q, ft pc = some q → chkC own cc nL cal (pc, q) = true) (hini : (∃ pc q k, ft pc = some q ∧ q.2.1 = .putfield k) → meth.name = "<init>")
    (hcal : ∀ q ∈ cal, CallC NW l R own q.1 q.2.2 (nthC cl q.2.1)) (hE : CEnd p l e R s m args below meth c Q cc nL base sb D dA ft stop n0 lsE g) :
    ∀ (f pc : Nat) (lA stA : List Value) (h : CH) (H : Heap) (locs : List Loc) (ls : Array Slot), exC ft cl stop f pc lA stA h = some (lsE, g) → n0 ≤ h.1 → LR base sb ls nL lA → Wc base D dA h H → va_S (Ab base) s.heap H locs →
      W p l e R s m args below meth c H locs (h.1 - n0) (sl h.1 - sl n0) Q (F0 m pc ls (stA.map (tr base sb))) := by
  intro f
  induction f with
  | zero => intro pc lA stA h H locs ls hr; cases hr
  | succ f ih =>
    intro pc lA stA h H locs ls hr hn0 hL hW hS
    have hmo := exC_mono hcl _ _ _ _ _ _ hr
    obtain ⟨hx, hb, hml, hown, hts, hKn, hNN⟩ := id G
    have hD : va_D (Ab base) (wdC base dA h) := wdC_D
    have hn228 := hW.2.2
    unfold exC at hr
    cases hbq : Nat.beq pc stop with
    | true =>
      rw [hbq] at hr
      cases stA with
      | cons v t =>
        have hr2 : none = some (lsE, g) := hr
        cases hr2
      | nil =>
        have hr2 : cond (Nat.blt stop 90000) (some (lA, h)) none = some (lsE, g) := hr
        have h9 : Nat.blt stop 90000 = true := by
          cases h9 : Nat.blt stop 90000 with
          | true => rfl
          | false =>
            rw [h9] at hr2
            cases hr2
        rw [h9] at hr2
        cases hr2
        have e1 := Nat.eq_of_beq_eq_true hbq
        subst e1
        exact hE.1 ls H locs (Nat.blt_eq.mp h9) hL hW hS
    | false =>
      rw [hbq] at hr
      simp only [cond_false] at hr
      cases hf : ft pc with
      | none => rw [hf] at hr; cases hr
      | some q =>
        obtain ⟨mk, i, len, b, c9, d, x⟩ := q
        have hchk := hft pc _ hf
        rw [hf] at hr
        simp only [chkC, Bool.and_eq_true, decide_eq_true_eq] at hchk
        obtain ⟨hdec, hchk⟩ := hchk
        simp only [] at hr
        cases i with
        | iconst z =>
          simp only [Bool.and_eq_true, Nat.beq_eq, decide_eq_true_eq] at hchk
          obtain ⟨rfl, rfl⟩ := hchk
          exact lv_iconst hx hb hdec rfl (ih _ _ _ _ _ _ _ hr hn0 hL hW hS)
        | bipush z =>
          simp only [Bool.and_eq_true, Nat.beq_eq, decide_eq_true_eq] at hchk
          obtain ⟨rfl, rfl⟩ := hchk
          exact lv_bipush hx hb hdec rfl (ih _ _ _ _ _ _ _ hr hn0 hL hW hS)
        | sipush z =>
          simp only [Bool.and_eq_true, Nat.beq_eq, decide_eq_true_eq] at hchk
          obtain ⟨rfl, rfl⟩ := hchk
          exact lv_sipush hx hb hdec rfl (ih _ _ _ _ _ _ _ hr hn0 hL hW hS)
        | iload_n z =>
          simp only [Bool.and_eq_true, Nat.beq_eq] at hchk
          obtain ⟨rfl, rfl⟩ := hchk
          simp only [] at hr
          split at hr
          · rename_i v e1
            exact lv_iload_n hx hb hdec rfl (hL.get (by intro q; cases q) e1) (ih _ _ _ _ _ _ _ hr hn0 hL hW hS)
          · cases hr
        | aload_n z =>
          simp only [Bool.and_eq_true, Nat.beq_eq] at hchk
          obtain ⟨rfl, rfl⟩ := hchk
          simp only [] at hr
          split at hr
          · rename_i v e1
            exact lv_aload_n hx hb hdec rfl (hL.get (by intro q; cases q) e1) (ih _ _ _ _ _ _ _ hr hn0 hL hW hS)
          · cases hr
        | istore_n z =>
          simp only [Bool.and_eq_true, Nat.beq_eq, Nat.blt_eq] at hchk
          obtain ⟨⟨rfl, rfl⟩, h3⟩ := hchk
          rcases stA with _ | ⟨v, t⟩
          · cases hr
          cases v <;> first | cases hr | skip
          exact lv_istore_n hx hb hdec rfl hL.has h3 rfl fun ls' h' => ih _ _ _ _ _ _ _ hr hn0 (hL.set rfl h') hW hS
        | istore z =>
          simp only [Bool.and_eq_true, Nat.beq_eq, Nat.blt_eq] at hchk
          obtain ⟨⟨rfl, rfl⟩, h3⟩ := hchk
          rcases stA with _ | ⟨v, t⟩
          · cases hr
          cases v <;> first | cases hr | skip
          exact lv_istore hx hb hdec hL.has h3 rfl fun ls' h' => ih _ _ _ _ _ _ _ hr hn0 (hL.set rfl h') hW hS
        | astore_n z =>
          simp only [Bool.and_eq_true, Nat.beq_eq, Nat.blt_eq] at hchk
          obtain ⟨⟨rfl, rfl⟩, h3⟩ := hchk
          rcases stA with _ | ⟨v, t⟩
          · cases hr
          cases v <;> first | cases hr | skip
          exact lv_astore_n hx hb hdec rfl hL.has h3 rfl fun ls' h' => ih _ _ _ _ _ _ _ hr hn0 (hL.set rfl h') hW hS
        | iinc z w =>
          simp only [Bool.and_eq_true, Nat.beq_eq, Nat.blt_eq, decide_eq_true_eq] at hchk
          obtain ⟨⟨⟨rfl, rfl⟩, rfl⟩, h3⟩ := hchk
          simp only [] at hr
          split at hr
          · rename_i v e1
            obtain ⟨k, hk⟩ : ∃ k, (lrL base sb lA)[k]? = some (z, Value.int v) := by
              have h1 : (z, Value.int v) ∈ lrL base sb lA := by
                have h2 := nth_get (v := .int v) (by intro q; cases q) e1
                refine List.mem_filterMap.mpr ⟨z, List.mem_range.mpr (List.getElem?_eq_some_iff.mp h2).1, ?_⟩
                rw [h2]
                rfl
              exact List.getElem?_of_mem h1
            exact lv_iinc hx hb hdec hL.has hk rfl h3 rfl fun ls' h' => ih _ _ _ _ _ _ _ hr hn0 (hL.set (v := .int (v + Int32.ofInt w)) rfl h') hW hS
          · cases hr
        | goto off =>
          simp only [Bool.and_eq_true, Nat.beq_eq, tgOK, decide_eq_true_eq] at hchk
          obtain ⟨rfl, hchk⟩ := hchk
          exact lv_goto hx hb hdec hchk (ih _ _ _ _ _ _ _ hr hn0 hL hW hS)
        | if_icmp cnd off =>
          simp only [Bool.and_eq_true, Nat.beq_eq, tgOK, decide_eq_true_eq] at hchk
          obtain ⟨rfl, h2⟩ := hchk
          rcases stA with _ | ⟨y, _ | ⟨v, t⟩⟩
          · cases cnd <;> cases hr
          · cases cnd <;> cases y <;> cases hr
          cases y <;> first | (cases cnd <;> cases hr; done) | skip
          cases v <;> first | (cases cnd <;> cases hr; done) | skip
          rename_i y v
          cases cnd <;> first | cases hr | skip
          have hr2 : (match decide (v < y) with
            | true => exC ft cl stop f (pc + 3) lA t h
            | false => exC ft cl stop f b lA t h) = some (lsE, g) := hr
          exact lv_icmp_ge hx hb hdec h2 (fun q => by
            rw [decide_eq_false (i32_nlt.mpr q)] at hr2
            exact ih _ _ _ _ _ _ _ hr2 hn0 hL hW hS) (fun q => by
            rw [decide_eq_true (Decidable.not_not.mp (fun z => q (i32_nlt.mp z)))] at hr2
            exact ih _ _ _ _ _ _ _ hr2 hn0 hL hW hS)
        | dup =>
          simp only [Nat.beq_eq] at hchk
          subst hchk
          rcases stA with _ | ⟨v, t⟩
          · cases hr
          cases v <;> first | cases hr | skip
          exact lv_dup hx hb hdec (by rw [tr_cat]; rfl) (ih _ _ _ _ _ _ _ hr hn0 hL hW hS)
        | getfield z =>
          simp only [Bool.and_eq_true, Nat.beq_eq] at hchk
          obtain ⟨rfl, h2⟩ := hchk
          rcases stA with _ | ⟨v, t⟩
          · cases hr
          cases v <;> first | cases hr | skip
          rename_i a
          obtain ⟨g1, hr⟩ := gd3 hr
          simp only [Bool.and_eq_true, Nat.beq_eq, Nat.blt_eq, Bool.not_eq_true', decide_eq_false_iff_not] at g1
          obtain ⟨⟨g1, g2⟩, g3⟩ := g1
          obtain ⟨C9, T9, N9, ref, f1, f2, f3, f4, f5, -⟩ := fldW_spec h2
          rw [← g2] at f1 f3
          obtain ⟨q1, q2, q3, -⟩ := cl_ok f1
          have ha : a < 228 := Nat.lt_of_lt_of_le g1 hn228
          have hN : N9 = SKn a := by rw [← q2]; exact ncl_ok a ha (by omega)
          subst hN
          have he := wdC_get (base := base) (dA := dA) (h := h) g1
          rw [entC_obj (by omega)] at he
          have hv : ((List.range (SKn a)).map (valC base h a (SKc a)))[b]? = some (valC base h a (SKc a) b) := by
            rw [List.getElem?_map, List.getElem?_range f2]
            rfl
          rw [List.map_cons, tr_ref ha]
          refine va_get (D := D) hx hb hts q3 hown hKn hW.1 a he f1 b f2 (hts _ f4) (fun x9 h9 => by
            rcases f5 with q | q
            · rw [q]; exact h9
            · exact u_same (hts _ q) x9 h9) hv hdec ?_
          have e9 : valC base h a (SKc a) b = .ref (base + SKr a b) := by
            unfold valC
            rw [f3, decide_eq_false g3]
          rw [e9]
          have h9 : SKr a b < 228 := skr_ok a ha q1 b f2 f3
          have q := ih _ _ _ _ _ _ _ hr hn0 hL hW hS
          rw [List.map_cons, tr_ref h9] at q
          exact q
        | putfield z =>
          simp only [Bool.and_eq_true, Nat.beq_eq, Bool.or_eq_true] at hchk
          obtain ⟨rfl, h2⟩ := hchk
          have hmn := hini ⟨pc, _, z, hf, rfl⟩
          rcases stA with _ | ⟨v, _ | ⟨w, t⟩⟩
          · cases hr
          · cases v <;> cases hr
          cases w <;> first | (cases v <;> cases hr; done) | skip
          rename_i a
          cases v <;> first | cases hr | skip
          · rename_i v
            obtain ⟨g1, hr⟩ := gd3 hr
            simp only [Bool.and_eq_true, Nat.beq_eq, Nat.blt_eq, Bool.not_eq_true'] at g1
            obtain ⟨⟨g1, g2⟩, g3⟩ := g1
            have h3 : fldW own z b d c9 false (some "I") = true := by
              rcases h2 with q | ⟨q, -⟩
              · exact q
              · obtain ⟨_, _, _, _, _, _, f3, -⟩ := fldW_spec q
                rw [f3] at g3
                cases g3
            obtain ⟨C9, T9, N9, ref, f1, f2, f3, f4, f5, f6⟩ := fldW_spec h3
            obtain ⟨f7, f8⟩ := f6 _ rfl
            rw [← g2] at f1 f3
            obtain ⟨q1, q2, q3, ty0, q4, q5⟩ := cl_ok f1
            have ha : a < 228 := Nat.lt_of_lt_of_le g1 hn228
            have hN : N9 = SKn a := by rw [← q2]; exact ncl_ok a ha (by omega)
            subst hN
            have he := wdC_get (base := base) (dA := dA) (h := h) g1
            rw [entC_obj (by omega)] at he
            rw [List.map_cons, List.map_cons, tr_ref ha]
            refine vz_put (D := D) (v := .int v) (ty := .int) hx hb hts q3 ty0 q4 q5 hown hKn hW.1 hD hS a he f1 b f2 (hts _ f4) (fun x9 h9 => by
              rcases f5 with q | q
              · rw [q]; exact h9
              · exact u_same (hts _ q) x9 h9) f8 (by rw [f7]; rfl) rfl rfl (by simpa using f2) hdec (fun H1 locs1 hP1 hD1 hS1 hz1 => ?_)
            rw [wdC_set (x := v) g1 (entC_put g1 (by omega) (by unfold valC; rw [f3, cw_eq, if_pos rfl]))] at hP1
            exact ih _ _ _ (cw h a b v) _ _ _ hr hn0 hL ⟨hP1, hz1.trans hW.2.1, hn228⟩ hS1
          · rename_i v
            obtain ⟨g1, hr⟩ := gd3 hr
            simp only [Bool.and_eq_true, Nat.beq_eq, Nat.blt_eq] at g1
            obtain ⟨⟨⟨g1, g2⟩, g3⟩, g4⟩ := g1
            have h3 : fldW own z b d c9 true none = true ∧ fldF own b c9 = true := by
              rcases h2 with q | q
              · obtain ⟨_, _, _, _, _, _, f3, -⟩ := fldW_spec q
                rw [f3] at g3
                cases g3
              · exact q
            obtain ⟨C9, T9, N9, ref, f1, f2, f3, f4, f5, -⟩ := fldW_spec h3.1
            obtain ⟨f6, f7, t9, f8⟩ := fldF_spec h3.2 f1
            rw [← g2] at f1 f3
            obtain ⟨q1, q2, q3, ty0, q4, q5⟩ := cl_ok f1
            have ha : a < 228 := Nat.lt_of_lt_of_le g1 hn228
            have hN : N9 = SKn a := by rw [← q2]; exact ncl_ok a ha (by omega)
            subst hN
            have he := wdC_get (base := base) (dA := dA) (h := h) g1
            rw [entC_obj (by omega)] at he
            have h9 : SKr a b < 228 := skr_ok a ha q1 b f2 f3
            have hv9 : v < 228 := by rw [← g4]; exact h9
            rw [List.map_cons, List.map_cons, tr_ref ha, tr_ref hv9]
            refine vz_putF (D := D) (v := .ref (base + v)) (ty := .array t9) hx hb hts q3 ty0 q4 q5 hown hKn hW.1 hD hS a he f1 b f2 (hts _ f4) (fun x9 h9 => by
              rcases f5 with q | q
              · rw [q]; exact h9
              · exact u_same (hts _ q) x9 h9) f6 hmn f7 f8 rfl rfl (by simpa using f2) hdec (fun H1 locs1 hP1 hD1 hS1 hz1 => ?_)
            rw [wdC_set (x := 1) g1 (entC_put g1 (by omega) (by
              unfold valC
              rw [f3, cw_eq, if_pos rfl, g4]
              rfl))] at hP1
            exact ih _ _ _ (cw h a b 1) _ _ _ hr hn0 hL ⟨hP1, hz1.trans hW.2.1, hn228⟩ hS1
        | arraylength =>
          simp only [Nat.beq_eq] at hchk
          subst hchk
          rcases stA with _ | ⟨v, t⟩
          · cases hr
          cases v <;> first | cases hr | skip
          rename_i a
          obtain ⟨g1, hr⟩ := gd3 hr
          simp only [Bool.and_eq_true, Nat.blt_eq, Nat.ble_eq] at g1
          obtain ⟨⟨g1, g2⟩, g3⟩ := g1
          have ha : a < 228 := Nat.lt_of_lt_of_le g1 hn228
          have he := wdC_get (base := base) (dA := dA) (h := h) g1
          rw [List.map_cons, tr_ref ha]
          have q := ih _ _ _ _ _ _ _ hr hn0 hL hW hS
          have e8 : SKc a = 10 ∨ SKc a = 11 ∨ SKc a = 12 ∨ SKc a = 13 ∨ SKc a = 14 ∨ SKc a = 15 ∨ SKc a = 16 ∨ SKc a = 17 := by omega
          rcases e8 with e8 | e8 | e8 | e8 | e8 | e8 | e8 | e8
          · rw [entC_int (Or.inl e8), e8] at he; exact va_alen hx hb hKn hW.1 a 0 he rfl rfl hdec q
          · rw [entC_int (Or.inr e8), e8] at he; exact va_alen hx hb hKn hW.1 a 1 he rfl rfl hdec q
          · rw [entC_lng e8] at he; exact va_alen hx hb hKn hW.1 a 2 he rfl rfl hdec q
          · rw [entC_ref (by omega), e8] at he; exact va_alen hx hb hKn hW.1 a 3 he rfl rfl hdec q
          · rw [entC_ref (by omega), e8] at he; exact va_alen hx hb hKn hW.1 a 4 he rfl rfl hdec q
          · rw [entC_ref (by omega), e8] at he; exact va_alen hx hb hKn hW.1 a 5 he rfl rfl hdec q
          · rw [entC_ref (by omega), e8] at he; exact va_alen hx hb hKn hW.1 a 6 he rfl rfl hdec q
          · rw [entC_ref (by omega), e8] at he; exact va_alen hx hb hKn hW.1 a 7 he rfl rfl hdec q
        | iastore =>
          simp only [Nat.beq_eq] at hchk
          subst hchk
          rcases stA with _ | ⟨v, _ | ⟨j, _ | ⟨w, t⟩⟩⟩
          · cases hr
          · cases v <;> cases hr
          · cases v <;> cases j <;> cases hr
          cases v <;> first | cases hr | skip
          cases j <;> first | cases hr | skip
          cases w <;> first | cases hr | skip
          rename_i v j a
          obtain ⟨g1, hr⟩ := gd3 hr
          simp only [Bool.and_eq_true, Nat.blt_eq, Nat.beq_eq] at g1
          obtain ⟨⟨g1, g3⟩, g2⟩ := g1
          have ha : a < 228 := Nat.lt_of_lt_of_le g1 hn228
          have he := wdC_get (base := base) (dA := dA) (h := h) g1
          rw [entC_int (Or.inl g3), g3] at he
          rw [List.map_cons, List.map_cons, List.map_cons, tr_ref ha]
          refine vz_iast hx hb hKn hW.1 hD hS a 0 he rfl (inb_in g2) hdec (fun H1 locs1 hP1 hD1 hS1 hz1 => ?_)
          rw [wdC_set (x := v) (k := j.toNatClampNeg) g1 (by
            rw [entC_int (Or.inl g3), g3]
            congr 4
            funext q
            rw [cw_eq]
            rfl)] at hP1
          exact ih _ _ _ (cw h a j.toNatClampNeg v) _ _ _ hr hn0 hL ⟨hP1, hz1.trans hW.2.1, hn228⟩ hS1
        | aastore =>
          simp only [Bool.and_eq_true, Nat.beq_eq] at hchk
          obtain ⟨rfl, h2⟩ := hchk
          rcases stA with _ | ⟨v, _ | ⟨j, _ | ⟨w, t⟩⟩⟩
          · cases hr
          · cases v <;> cases hr
          · cases v <;> cases j <;> cases hr
          cases v <;> first | cases hr | skip
          cases j <;> first | cases hr | skip
          cases w <;> first | cases hr | skip
          rename_i v j a
          obtain ⟨g1, hr⟩ := gd3 hr
          simp only [Bool.and_eq_true, Nat.blt_eq, Nat.beq_eq, Nat.ble_eq] at g1
          obtain ⟨⟨⟨⟨⟨⟨⟨g1, g2⟩, g3⟩, g4⟩, g5⟩, g6⟩, g7⟩, g8⟩ := g1
          have ha : a < 228 := Nat.lt_of_lt_of_le g1 hn228
          have hv9 : v < 228 := Nat.lt_of_lt_of_le g2 hn228
          have he := wdC_get (base := base) (dA := dA) (h := h) g1
          have hev := wdC_get (base := base) (dA := dA) (h := h) g2
          rw [entC_ref (by omega)] at he
          have hup : entC base dA (cw h a j.toNatClampNeg 1) a = .inl (dA (SKc a - 10), SKn a, .inr (.inr (.inr (.inr (va_up (fun j => match decide (h.2 a j = 0) with
            | true => none
            | false => some (base + SKr a j)) j.toNatClampNeg (some (base + v))))))) := by
            rw [entC_ref (by omega)]
            congr 7
            funext q
            rw [cw_eq]
            unfold va_up
            by_cases hq : q = j.toNatClampNeg
            · rw [if_pos hq, hq, g8]
              simp
            · rw [if_neg hq]
              simp [hq]
          rw [List.map_cons, List.map_cons, List.map_cons, tr_ref ha, tr_ref hv9]
          have key : ∀ (t0 : Nat) (r : vw_C), vwCl[SKc v]? = some r → (tys dA)[t0]? = some (dA (SKc a - 10), .object r.1) → SKc v < 10 → W p l e R s m args below meth c H locs (h.1 - n0) (sl h.1 - sl n0) Q (F0 m pc ls (.ref (base + v) :: .int j :: .ref (base + a) :: t.map (tr base sb))) := by
            intro t0 r hr9 ht hc9
            rw [entC_obj hc9] at hev
            refine vz_astq hx hb hKn hW.1 hD hS a t0 v (SKc v) he ht hev hr9 (inb_in g7) hdec (fun H1 locs1 hP1 hD1 hS1 hz1 => ?_)
            rw [wdC_set g1 hup] at hP1
            exact ih _ _ _ (cw h a j.toNatClampNeg 1) _ _ _ hr hn0 hL ⟨hP1, hz1.trans hW.2.1, hn228⟩ hS1
          split at h2
          · exact key 3 _ (by rw [g6]; rfl) (by rw [g3, Nat.eq_of_beq_eq_true h2]; rfl) (by omega)
          · exact key 4 _ (by rw [g6]; rfl) (by rw [g3, Nat.eq_of_beq_eq_true h2]; rfl) (by omega)
          · exact key 5 _ (by rw [g6]; rfl) (by rw [g3, Nat.eq_of_beq_eq_true h2]; rfl) (by omega)
          · exact key 6 _ (by rw [g6]; rfl) (by rw [g3, Nat.eq_of_beq_eq_true h2]; rfl) (by omega)
          · exact key 7 _ (by rw [g6]; rfl) (by rw [g3, Nat.eq_of_beq_eq_true h2]; rfl) (by omega)
          · cases h2
        | newarray at0 =>
          simp only [Nat.beq_eq] at hchk
          subst hchk
          rcases stA with _ | ⟨v, t⟩
          · cases hr
          cases v <;> first | cases hr | skip
          rename_i v
          obtain ⟨g1, hr⟩ := gd3 hr
          simp only [Bool.and_eq_true, Nat.blt_eq, Nat.beq_eq, Nat.ble_eq, decide_eq_true_eq] at g1
          obtain ⟨⟨⟨g1, g2⟩, g3⟩, g4⟩ := g1
          have hsm := skn_small h.1 g1
          obtain ⟨z1, z2⟩ := small_i32 hsm
          have hmo2 : h.1 + 1 ≤ g.1 := exC_mono hcl _ _ _ _ _ _ hr
          have hms := sl_mono hmo2
          have hms0 := sl_mono hn0
          have hsl : sl (h.1 + 1) = sl h.1 + SKn h.1 := rfl
          have key : ∀ (ty : FieldType) (cA0 : ClassId) (a0 : vp_A), newarray.typeOf at0 = ty → (Jvm.Cond.arrayClass (newarray.typeOf at0)).before args s = true → s.vm.findClass ("[" ++ ty.toString) = some cA0 → vp_cell cA0 a0 = arrV cA0 (SKn h.1) (fun _ => defaultValue ty) → SKn h.1 * componentBytes ty ≤ 536870912 → entC base dA (cn h) h.1 = .inl (cA0, a0) → W p l e R s m args below meth c H locs (h.1 - n0) (sl h.1 - sl n0) Q (F0 m pc ls (.int v :: t.map (tr base sb))) := by
            intro ty cA0 a0 hty harr hfc hcell hby hent
            rw [g4]
            refine vz_newa hx hb harr hty hW.1 hS hfc hcell z1 z2 hby (by omega) (by omega) hdec (fun H1 hP1 hz1 hS1 => ?_)
            rw [hW.2.1, ← hent, ← wdC_push] at hP1
            have q := ih _ _ _ _ H1 locs ls hr (by show n0 ≤ h.1 + 1; omega) hL ⟨hP1, by rw [hz1, hW.2.1]; rfl, g1⟩ hS1
            rw [List.map_cons, tr_ref g1] at q
            rw [hW.2.1]
            have e1 : (cn h).1 - n0 = h.1 - n0 + 1 := by show h.1 + 1 - n0 = _; omega
            have e2 : sl (cn h).1 - sl n0 = sl h.1 - sl n0 + SKn h.1 := by show sl (h.1 + 1) - sl n0 = _; omega
            rw [e1, e2] at q
            exact q
          rw [List.map_cons]
          cases at0 with
          | int =>
            have e8 : SKc h.1 = 10 := g2
            exact key .int (dA 0) (SKn h.1, .inl (fun _ => 0)) rfl (hts _ arr_words) ((hKn.2 0 _ rfl).2) (by rw [vp_cell_i]; rfl) (by show SKn h.1 * 4 ≤ _; omega) (by rw [entC_int (Or.inl e8), e8]; congr 4; funext j; exact cn_eq)
          | boolean =>
            exact absurd g2 (skc_no h.1 g1).1
          | long =>
            exact absurd g2 (skc_no h.1 g1).2
          | _ => exact absurd g3 (by decide)
        | anewarray z =>
          simp only [Bool.and_eq_true, Nat.beq_eq, decide_eq_true_eq] at hchk
          obtain ⟨rfl, hcl9⟩ := hchk
          rcases stA with _ | ⟨v, t⟩
          · cases hr
          cases v <;> first | cases hr | skip
          rename_i v
          obtain ⟨g1, hr⟩ := gd3 hr
          simp only [Bool.and_eq_true, Nat.blt_eq, Nat.beq_eq, Nat.ble_eq, decide_eq_true_eq] at g1
          obtain ⟨⟨⟨⟨g1, g2⟩, g3⟩, g5⟩, g4⟩ := g1
          have hsm := skn_small h.1 g1
          obtain ⟨z1, z2⟩ := small_i32 hsm
          have hmo2 : h.1 + 1 ≤ g.1 := exC_mono hcl _ _ _ _ _ _ hr
          have hms := sl_mono hmo2
          have hms0 := sl_mono hn0
          have hsl : sl (h.1 + 1) = sl h.1 + SKn h.1 := rfl
          have hent : entC base dA (cn h) h.1 = .inl (dA (b - 10), SKn h.1, .inr (.inr (.inr (.inr (fun _ => none))))) := by
            rw [entC_ref (by omega), g2]
            congr 7
            funext j
            rw [cn_eq]
            rfl
          have hao : va_AO (ACN b) s ∧ s.vm.findClass ("[" ++ (FieldType.object (ACN b)).toString) = some (dA (b - 10)) := by
            have e8 : b = 13 ∨ b = 14 ∨ b = 15 ∨ b = 16 ∨ b = 17 := by omega
            rcases e8 with e8 | e8 | e8 | e8 | e8 <;> subst e8
            · exact ⟨hNN.1 _ (by simp [AOL, ACN]), by obtain ⟨_, _, _, _, _, q⟩ := (hKn.2 3 _ rfl).2; exact q⟩
            · exact ⟨hNN.1 _ (by simp [AOL, ACN]), by obtain ⟨_, _, _, _, _, q⟩ := (hKn.2 4 _ rfl).2; exact q⟩
            · exact ⟨hNN.1 _ (by simp [AOL, ACN]), by obtain ⟨_, _, _, _, _, q⟩ := (hKn.2 5 _ rfl).2; exact q⟩
            · exact ⟨hNN.1 _ (by simp [AOL, ACN]), by obtain ⟨_, _, _, _, _, q⟩ := (hKn.2 6 _ rfl).2; exact q⟩
            · exact ⟨hNN.1 _ (by simp [AOL, ACN]), by obtain ⟨_, _, _, _, _, q⟩ := (hKn.2 7 _ rfl).2; exact q⟩
          rw [List.map_cons]
          rw [g4]
          refine vz_newq hx hb hown (hts _ hcl9) hao.1 hW.1 hS hao.2 z1 z2 (by omega) (by omega) (by omega) hdec (fun H1 hP1 hz1 hS1 => ?_)
          rw [hW.2.1, ← hent, ← wdC_push] at hP1
          have q := ih _ _ _ _ H1 locs ls hr (by show n0 ≤ h.1 + 1; omega) hL ⟨hP1, by rw [hz1, hW.2.1]; rfl, g1⟩ hS1
          rw [List.map_cons, tr_ref g1] at q
          rw [hW.2.1]
          have e1 : (cn h).1 - n0 = h.1 - n0 + 1 := by show h.1 + 1 - n0 = _; omega
          have e2 : sl (cn h).1 - sl n0 = sl h.1 - sl n0 + SKn h.1 := by show sl (h.1 + 1) - sl n0 = _; omega
          rw [e1, e2] at q
          exact q
        | new z =>
          simp only [Bool.and_eq_true, Nat.beq_eq] at hchk
          obtain ⟨rfl, h2⟩ := hchk
          obtain ⟨g1, hr⟩ := gd3 hr
          simp only [Bool.and_eq_true, Nat.blt_eq, Nat.beq_eq] at g1
          obtain ⟨⟨g1, g2⟩, g3⟩ := g1
          obtain ⟨C9, T9, N9, f1, f2, f3, f4⟩ := newW_spec h2
          obtain ⟨q1, q2, q3, ty0, q4, q5⟩ := cl_ok f1
          have hN : N9 = SKn h.1 := by rw [← q2, ← g2]; exact ncl_ok h.1 g1 (by omega)
          subst hN
          have hmo2 : h.1 + 1 ≤ g.1 := exC_mono hcl _ _ _ _ _ _ hr
          have hms := sl_mono hmo2
          have hms0 := sl_mono hn0
          have hsl : sl (h.1 + 1) = sl h.1 + SKn h.1 := rfl
          refine vz_new hx hb hts q3 ty0 q4 hown (hts _ f2) (hts _ f3) (hts _ f4) hKn hW.1 hS f1 (fs := (List.range (SKn h.1)).map (valC base (cn h) h.1 (SKc h.1))) (fun j hj => ?_) (by omega) (by omega) hdec (fun H1 hP1 hz1 hS1 => ?_)
          · rw [show vp_V ((List.range (SKn h.1)).map (valC base (cn h) h.1 (SKc h.1))) j = valC base (cn h) h.1 (SKc h.1) j from by
              unfold vp_V
              rw [List.getD_eq_getElem?_getD, List.getElem?_map, List.getElem?_range hj]
              rfl]
            unfold valC
            rw [cn_eq, g2]
            exact dflt_ok f1 j hj (q4 j hj)
          · rw [hW.2.1] at hP1
            have hent : entC base dA (cn h) h.1 = .inr (b, (List.range (SKn h.1)).map (valC base (cn h) h.1 (SKc h.1))) := by
              rw [entC_obj (by omega), g2]
            rw [← hent, ← wdC_push] at hP1
            have q := ih _ _ _ _ H1 locs ls hr (by show n0 ≤ h.1 + 1; omega) hL ⟨hP1, by rw [hz1, hW.2.1]; rfl, g1⟩ hS1
            rw [List.map_cons, tr_ref g1] at q
            rw [hW.2.1]
            have e1 : (cn h).1 - n0 = h.1 - n0 + 1 := by show h.1 + 1 - n0 = _; omega
            have e2 : sl (cn h).1 - sl n0 = sl h.1 - sl n0 + SKn h.1 := by show sl (h.1 + 1) - sl n0 = _; omega
            rw [e1, e2] at q
            exact q
        | invokespecial z =>
          simp only [Bool.and_eq_true, Nat.beq_eq, decide_eq_true_eq] at hchk
          obtain ⟨rfl, h2⟩ := hchk
          rcases stA with _ | ⟨v, t⟩
          · cases hr
          cases v <;> first | cases hr | skip
          rename_i a
          obtain ⟨g1, hr⟩ := gd3 hr
          simp only [Bool.and_eq_true, Nat.blt_eq, Nat.ble_eq] at g1
          obtain ⟨⟨g1, g2⟩, g3⟩ := g1
          have ha : a < 228 := Nat.lt_of_lt_of_le g2 hn228
          cases e8 : nthC cl b a h with
          | none => rw [e8] at hr; cases hr
          | some g9 =>
            rw [e8] at hr
            simp only [] at hr
            have hm1 := hcl _ _ _ _ e8
            have hm2 := exC_mono hcl _ _ _ _ _ _ hr
            have hs1 := sl_mono hm1
            have hs2 : sl g9.1 ≤ sl g.1 := sl_mono hm2
            have hs0 := sl_mono hn0
            have hm2' : g9.1 ≤ g.1 := hm2
            rw [List.map_cons, tr_ref ha]
            refine hcal _ h2 p e s m args below meth c cc nL base a D dA Q H locs _ _ pc ls (t.map (tr base sb)) h g9 G hdec hL.1 (by rw [tr_cats]; exact g1) g2 (memb_in g3) hW hS hbs e8 (by omega) (by omega) (fun H' locs' hW' hS' => ?_)
            have q := ih _ _ _ _ H' locs' ls hr (by omega) hL hW' hS'
            have e1 : g9.1 - n0 = h.1 - n0 + (g9.1 - h.1) := by omega
            have e2 : sl g9.1 - sl n0 = sl h.1 - sl n0 + (sl g9.1 - sl h.1) := by omega
            rw [e1, e2] at q
            exact q
        | return_ =>
          simp only [Nat.beq_eq] at hchk
          subst hchk
          rcases stA with _ | ⟨v, t⟩
          · cases hr
            exact hE.2 pc ls H locs hW hS hdec ⟨_, hf, rfl⟩
          · cases hr
        | _ => cases hchk
end CSTEP
/-! the contract of a constructor from its table -/
theorem ctor_inv {T : List (Nat × Ent)} {cl : List CF} {maxL fuel a : Nat} {h g : CH} (hr : ctor T cl maxL fuel a h = some g) : ∃ lsE, exC (lkp T) cl 99999 fuel 0 (pad maxL [.ref a]) [] h = some (lsE, g) := by
  unfold ctor at hr
  cases e : exC (lkp T) cl 99999 fuel 0 (pad maxL [.ref a]) [] h with
  | none => rw [e] at hr; cases hr
  | some q =>
    rw [e] at hr
    obtain ⟨q1, q2⟩ := q
    have e2 : q2 = g := Option.some.inj hr
    exact ⟨q1, by rw [e2]⟩
theorem ctor_mono {T : List (Nat × Ent)} {cl : List CF} {maxL fuel : Nat} (hmo : ∀ i, CMono (nthC cl i)) : CMono (ctor T cl maxL fuel) := by
  intro a h g hr
  obtain ⟨lsE, e⟩ := ctor_inv hr
  exact exC_mono hmo _ _ _ _ _ _ e
theorem cobj_mono : CMono C_obj := fun a h g hr => by
  have e : h = g := Option.some.inj hr
  rw [e]
  exact Nat.le_refl _
theorem nthC_mono : ∀ {cl : List CF}, (∀ F ∈ cl, CMono F) → ∀ i, CMono (nthC cl i)
  | [], _, i => fun a h g hr => by cases i <;> cases hr
  | F :: t, hm, 0 => hm F List.mem_cons_self
  | F :: t, hm, i + 1 => nthC_mono (fun G hG => hm G (List.mem_cons_of_mem _ hG)) i
theorem W_cz {p : Program} {l : Launch} {e : Env} {R : Room} {s : State} {m : MethodId} {args : Array Value} {below : List Frame} {meth : Method} {c : Code} {H : Heap} {locs : List Loc} {c0 s0 c1 s1 : Nat} {Q : State → Prop} {fr : JFrame} (h1 : c1 = c0) (h2 : s1 = s0) (w : W p l e R s m args below meth c H locs c1 s1 Q fr) : W p l e R s m args below meth c H locs c0 s0 Q fr := by
  subst h1
  subst h2
  exact w
theorem conC_of {NW : List NRow} {l : Launch} {own : String} {y : MethodName} {cc : ByteArray} {maxL d fr lo fuel : Nat} {T : List (Nat × Ent)} {cl : List CF} {cal : List (Nat × Nat × Nat)}
    (hcls : y.cls = own) (hy1 : y.name = "<init>") (hy : plainName y.cls = true) (h1 : 1 ≤ maxL) (hmo : ∀ F ∈ cl, CMono F) (hchk : T.all (chkC own cc maxL cal) = true)
    (hcal : ∀ R : Room, R.frames = fr → R.locals = lo → ∀ q ∈ cal, CallC NW l R own q.1 q.2.2 (nthC cl q.2.1)) : ConC NW l y cc maxL (ctor T cl maxL fuel) d fr lo := by
  intro base D dA a h g hr ha hcl9
  obtain ⟨lsE, he⟩ := ctor_inv hr
  refine Met.ofW hy rfl ?_
  intro p e s m args below meth c s₁ B hml hv
  obtain ⟨rfl, hbs, hW, hKn, hN⟩ := hv
  have hts : ∀ w ∈ WG, w.before ([Value.ref (base + a)]).toArray s = true := fun w hw => atoms_spec (ws := Jvm.Cond.code y cc maxL none :: WG) B.pre w (List.mem_cons_of_mem _ hw)
  have hown : s.vm.findClass own = some m.cls := by rw [← hcls]; exact findClass_of_methodNamed B.named
  have hlocks := B.notSynchronized
  have hin : meth.name = "<init>" := (name_of_methodNamed B.named B.method).1.trans hy1
  have G : CxC NW p s m ([Value.ref (base + a)]).toArray c cc maxL own D dA := ⟨B.exec, B.bytes, hml, hown, hts, hKn, hN⟩
  have hrt := B.returns
  have ha228 : a < 228 := Nat.lt_of_lt_of_le ha hW.2.2
  have hL := LR.entry (base := base) (sb := 0) (nL := maxL) (n := 1) (vs := [.ref a]) rfl h1
  rw [List.map_cons, List.map_nil, tr_ref ha228] at hL
  rw [lg_entry_eq]
  refine W_cz (Nat.sub_self h.1) (Nat.sub_self (sl h.1)) ?_
  refine exC_snd (NW := NW) (R := { frames := fr, cells := g.1 - h.1, slots := sl g.1 - sl h.1, locals := lo }) (n0 := h.1) (sb := 0) (ft := lkp T) (cl := cl) (stop := 99999) (cal := cal) (lsE := lsE) (g := g) (p := p) (l := l) (e := e) (s := s) (m := m) (below := below) (meth := meth) (nthC_mono hmo) G hbs (Nat.le_refl _) (Nat.le_refl _) (fun _ => trivial) (fun pc q hq => List.all_eq_true.mp hchk _ (lkp_mem hq)) (fun _ => hin) (hcal _ rfl rfl) ?_ fuel 0 _ [] h s.heap [] _ he (Nat.le_refl _) hL hW va_S.rf
  · refine ⟨fun ls H locs h9 => absurd h9 (by decide), fun pc ls H locs hW9 hS9 hd _ => ?_⟩
    exact W.vret B.exec B.bytes hrt (fun t ht hWm => ⟨rfl, by rw [ht]; exact hW9, hS9.F ht⟩) hS9.2.2 hd
