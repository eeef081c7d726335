/-! its soundness -/
def sl : Nat → Nat
  | 0 => 0
  | n + 1 => sl n + SKn n
theorem sl_mono {a b : Nat} (h : a ≤ b) : sl a ≤ sl b := by
  induction h with
  | refl => exact Nat.le_refl _
  | step _ ih => exact Nat.le_trans ih (Nat.le_add_right _ _)
def valC (base : Nat) (h : CH) (a c k : Nat) : Value := match rfk c k with
  | true => (match decide (h.2 a k = 0) with
    | true => .null
    | false => .ref (base + SKr a k))
  | false => .int (h.2 a k)
def entC (base : Nat) (dA : Nat → ClassId) (h : CH) (a : Nat) : va_E :=
  cond (Nat.blt (SKc a) 10) (.inr (SKc a, (List.range (SKn a)).map (valC base h a (SKc a))))
    (cond (Nat.blt (SKc a) 12) (.inl (dA (SKc a - 10), SKn a, .inl (fun j => h.2 a j)))
      (cond (Nat.beq (SKc a) 12) (.inl (dA 2, SKn a, .inr (.inl (fun _ => 0))))
        (.inl (dA (SKc a - 10), SKn a, .inr (.inr (.inr (.inr (fun j => match decide (h.2 a j = 0) with
          | true => none
          | false => some (base + SKr a j)))))))))
def wdC (base : Nat) (dA : Nat → ClassId) (h : CH) : va_W := (List.range h.1).map fun a => (base + a, entC base dA h a)
theorem entC_congr {base : Nat} {dA : Nat → ClassId} {h g : CH} {a : Nat} (e : ∀ k, h.2 a k = g.2 a k) : entC base dA h a = entC base dA g a := by
  have e1 : (fun j => h.2 a j) = fun j => g.2 a j := funext e
  have e2 : valC base h a (SKc a) = valC base g a (SKc a) := funext fun k => by unfold valC; rw [e k]
  unfold entC
  rw [e1, e2]
  simp only [e]
theorem wdC_get {base : Nat} {dA : Nat → ClassId} {h : CH} {a : Nat} (ha : a < h.1) : (wdC base dA h)[a]? = some (base + a, entC base dA h a) := by
  unfold wdC
  rw [List.getElem?_map, List.getElem?_range ha]
  rfl
theorem wdC_of {base : Nat} {dA : Nat → ClassId} {h : CH} {k : Nat} {q : Nat × va_E} (e : (wdC base dA h)[k]? = some q) : k < h.1 ∧ q = (base + k, entC base dA h k) := by
  have hk : k < h.1 := by
    have h1 := (List.getElem?_eq_some_iff.mp e).1
    simpa [wdC] using h1
  rw [wdC_get hk] at e
  exact ⟨hk, (Option.some.inj e).symm⟩
theorem wdC_D {base : Nat} {dA : Nat → ClassId} {h : CH} : va_D (Ab base) (wdC base dA h) := by
  refine ⟨fun i j p q hi hj hpq => ?_, fun k q hk => ?_⟩
  · obtain ⟨-, rfl⟩ := wdC_of hi
    obtain ⟨-, rfl⟩ := wdC_of hj
    have h2 : base + i = base + j := hpq
    omega
  · obtain ⟨-, rfl⟩ := wdC_of hk
    exact Nat.le_add_right _ _
theorem cw_eq {h : CH} {a k j : Nat} {x : Int32} : (cw h a k x).2 a j = if j = k then x else h.2 a j := by
  unfold cw
  show (match Nat.beq a a && Nat.beq j k with | true => x | false => h.2 a j) = _
  rw [Nat.beq_refl, Bool.true_and]
  by_cases q : j = k
  · rw [q, Nat.beq_refl, if_pos rfl]
  · rw [show Nat.beq j k = false from by rw [Bool.eq_false_iff]; intro z; exact q (Nat.eq_of_beq_eq_true z), if_neg q]
theorem cw_ne {h : CH} {a b k j : Nat} {x : Int32} (hb : b ≠ a) : (cw h a k x).2 b j = h.2 b j := by
  unfold cw
  show (match Nat.beq b a && Nat.beq j k with | true => x | false => h.2 b j) = _
  rw [show Nat.beq b a = false from by rw [Bool.eq_false_iff]; intro z; exact hb (Nat.eq_of_beq_eq_true z)]
  rfl
theorem cn_ne {h : CH} {b j : Nat} (hb : b ≠ h.1) : (cn h).2 b j = h.2 b j := by
  unfold cn
  show (match Nat.beq b h.1 with | true => 0 | false => h.2 b j) = _
  rw [show Nat.beq b h.1 = false from by rw [Bool.eq_false_iff]; intro z; exact hb (Nat.eq_of_beq_eq_true z)]
theorem cn_eq {h : CH} {j : Nat} : (cn h).2 h.1 j = 0 := by
  unfold cn
  show (match Nat.beq h.1 h.1 with | true => (0 : Int32) | false => h.2 h.1 j) = _
  rw [Nat.beq_refl]
theorem wdC_set {base : Nat} {dA : Nat → ClassId} {h : CH} {a k : Nat} {x : Int32} {e : va_E} (ha : a < h.1) (he : entC base dA (cw h a k x) a = e) : (wdC base dA h).set a (base + a, e) = wdC base dA (cw h a k x) := by
  have l1 : (wdC base dA h).length = h.1 := by simp [wdC]
  have l2 : (wdC base dA (cw h a k x)).length = h.1 := by simp [wdC, cw]
  apply List.ext_getElem?
  intro j
  by_cases hj : j < h.1
  · by_cases hja : j = a
    · subst hja
      rw [List.getElem?_set_self (by rw [l1]; exact hj), wdC_get (h := cw h j k x) hj, he]
    · rw [List.getElem?_set_ne (Ne.symm hja), wdC_get hj, wdC_get (h := cw h a k x) hj, entC_congr (fun _ => (cw_ne hja).symm)]
  · rw [List.getElem?_eq_none (by rw [List.length_set, l1]; omega), List.getElem?_eq_none (by rw [l2]; omega)]
theorem wdC_push {base : Nat} {dA : Nat → ClassId} {h : CH} : wdC base dA (cn h) = wdC base dA h ++ [(base + h.1, entC base dA (cn h) h.1)] := by
  show (List.range (h.1 + 1)).map _ = _
  rw [List.range_succ, List.map_append]
  congr 1
  refine List.map_congr_left fun a ha => ?_
  have h1 := List.mem_range.mp ha
  rw [entC_congr (h := cn h) (g := h) (fun _ => cn_ne (by omega))]
def Wc (base : Nat) (D : va_G) (dA : Nat → ClassId) (h : CH) (H : Heap) : Prop := va_P D vwCl (wdC base dA h) H ∧ H.size = base + h.1 ∧ h.1 ≤ 228
section ROWS
variable {p : Program} {l : Launch} {e : Env} {R : Room} {s : State} {m : MethodId} {args : Array Value} {below : List Frame} {meth : Method} {c : Code} {H : Heap} {locs : List Loc} {cells slots : Nat} {Q : State → Prop}
variable {cc : ByteArray} {pc : Nat} {ls : Array Slot} {rest : List Value} {D : va_G} {cl : List vw_C} {A : Nat → Prop} {tys : List (ClassId × FieldType)} {ws : va_W} {H0 : Heap}
/-- the kit's rows for what is made, with the new cell's address told (they follow va_new, va_newa, va_newq) -/
theorem vz_new (hexec : p.tables.exec = Jvm.exec) (hb : c.code = cc) {own C : String} {T : u_T} {N ci index : Nat} {Ts : List Jvm.Cond} (hts : ∀ w ∈ Ts, w.before args s = true) (hin : ∀ w ∈ u_ws C T N, w ∈ Ts) (ty : Nat → FieldType) (hty : ∀ k, k < N → parseFieldDescriptor (T k).2.2.1 = some (ty k)) (hown : s.vm.findClass own = some m.cls) (hcl : (Cond.classLink own index C).before args s = true) (hinst : (Cond.instantiable C N).before args s = true) (hini : (Cond.initialized C).before args s = true)
    (hK : va_K D cl tys s) (hP : va_P D cl ws H) (hS : va_S A H0 H locs) (hc : cl[ci]? = some (C, T, N)) {fs : List Value} (hfs : ∀ j, j < N → defaultValue (ty j) = vp_V fs j) (hcells : cells + 1 ≤ R.cells) (hslots : slots + N ≤ R.slots) (hdg : decode cc pc = .ok (.new index, 3))
    (kk : ∀ (H1 : Heap), va_P D cl (ws ++ [(H.size, .inr (ci, fs))]) H1 → H1.size = H.size + 1 → va_S A H0 H1 locs →
      W p l e R s m args below meth c H1 locs (cells + 1) (slots + N) Q (F0 m (pc + 3) ls (.ref H.size :: rest))) : W p l e R s m args below meth c H locs cells slots Q (F0 m pc ls rest) := by
  have hKn := hK.1 ci _ hc
  refine W.newcK hexec hb hown hcl hinst hini rfl hdg hcells hslots hKn.2.1 rfl fun H1 kC hkC e1 z1 o1 => ?_
  have hk : ∀ (k : Nat) (x : Nat × va_E), ws[k]? = some x → H1[x.1]? = H[x.1]? := fun k x hx => o1 x.1 ((hP k x hx).lt)
  refine kk H1 ((hP.kept hk).app (fun k x hx => ?_)) z1 ⟨Nat.le_trans hS.1 (by omega), fun x h1 h2 => (o1 x (Nat.lt_of_lt_of_le h1 hS.1)).trans (hS.2.1 x h1 h2), hS.2.2⟩
  have hz : k < 1 := (List.getElem?_eq_some_iff.mp hx).1
  rw [show k = 0 by omega] at hx
  cases hx
  exact ⟨_, hc, (u_born ty hts hin hKn hkC e1 hty).to hfs⟩
theorem vz_newa (hexec : p.tables.exec = Jvm.exec) (hb : c.code = cc) {atype : ArrayType} (harr : (Cond.arrayClass (newarray.typeOf atype)).before args s = true) {ty : FieldType} (hty : newarray.typeOf atype = ty) (hP : va_P D cl ws H) (hS : va_S A H0 H locs) {cA0 : ClassId} (hcA : s.vm.findClass ("[" ++ ty.toString) = some cA0)
    {n : Int32} {N' : Nat} {a0 : vp_A} (ha : vp_cell cA0 a0 = arrV cA0 N' (fun _ => defaultValue ty)) (hn : ¬ n < 0) (hN : n.toNatClampNeg = N') (hbytes : N' * componentBytes ty ≤ 536870912) (hcells : cells + 1 ≤ R.cells) (hslots : slots + N' ≤ R.slots) (hdg : decode cc pc = .ok (.newarray atype, 2))
    (kk : ∀ (H1 : Heap), va_P D cl (ws ++ [(H.size, .inl (cA0, a0))]) H1 → H1.size = H.size + 1 → va_S A H0 H1 locs →
      W p l e R s m args below meth c H1 locs (cells + 1) (slots + N') Q (F0 m (pc + 2) ls (.ref H.size :: rest))) : W p l e R s m args below meth c H locs cells slots Q (F0 m pc ls (.int n :: rest)) := by
  subst hty
  refine va_newaK hexec hb harr rfl hdg rfl hn hN hbytes hcells hslots rfl fun H1 cA e1 z1 o1 hAr hNm => ?_
  have hcc : cA = cA0 := Option.some.inj (hNm.symm.trans hcA)
  subst hcc
  have hk : ∀ (k : Nat) (x : Nat × va_E), ws[k]? = some x → H1[x.1]? = H[x.1]? := fun k x hx => o1 x.1 ((hP k x hx).lt)
  refine kk H1 ((hP.kept hk).app (fun k x hx => ?_)) z1 ⟨Nat.le_trans hS.1 (by omega), fun x h1 h2 => (o1 x (Nat.lt_of_lt_of_le h1 hS.1)).trans (hS.2.1 x h1 h2), hS.2.2⟩
  have hz : k < 1 := (List.getElem?_eq_some_iff.mp hx).1
  rw [show k = 0 by omega] at hx
  cases hx
  show H1[H.size]? = some (vp_cell _ _)
  rw [ha]
  exact e1
theorem vz_newq (hexec : p.tables.exec = Jvm.exec) (hb : c.code = cc) {own C : String} {index : Nat} (hown : s.vm.findClass own = some m.cls) (hclink : (Cond.classLink own index C).before args s = true) (hover : va_AO C s) (hP : va_P D cl ws H) (hS : va_S A H0 H locs) {cA0 : ClassId} (hcA : s.vm.findClass ("[" ++ (FieldType.object C).toString) = some cA0)
    {n : Int32} {N' : Nat} (hn : ¬ n < 0) (hN : n.toNatClampNeg = N') (hbytes : N' * 4 ≤ 536870912) (hcells : cells + 1 ≤ R.cells) (hslots : slots + N' ≤ R.slots) (hdg : decode cc pc = .ok (.anewarray index, 3))
    (kk : ∀ (H1 : Heap), va_P D cl (ws ++ [(H.size, .inl (cA0, N', .inr (.inr (.inr (.inr (fun _ => none))))))]) H1 → H1.size = H.size + 1 → va_S A H0 H1 locs →
      W p l e R s m args below meth c H1 locs (cells + 1) (slots + N') Q (F0 m (pc + 3) ls (.ref H.size :: rest))) : W p l e R s m args below meth c H locs cells slots Q (F0 m pc ls (.int n :: rest)) := by
  subst hN
  refine W.anew hexec hb hown hclink (va_AO.use hover) rfl hdg rfl hn hbytes hcells hslots fun cA kA comp f1 f2 f3 f4 => ?_
  generalize hH1 : H.push ({ cls := cA, slots := Array.replicate n.toNatClampNeg .null, vm := .none } : Cell) = H1
  have z1 : H1.size = H.size + 1 := by rw [← hH1, Array.size_push]
  have e1 : H1[H.size]? = some (arrV cA n.toNatClampNeg (fun _ => .null)) := by rw [← hH1, Array.getElem?_push_size, ← arrV_new]
  have o1 : ∀ q : Nat, q < H.size → H1[q]? = H[q]? := fun q hq => by rw [← hH1, Array.getElem?_push, if_neg (Nat.ne_of_lt hq)]
  have hcc : cA = cA0 := Option.some.inj (f1.symm.trans hcA)
  subst hcc
  have hk : ∀ (k : Nat) (x : Nat × va_E), ws[k]? = some x → H1[x.1]? = H[x.1]? := fun k x hx => o1 x.1 ((hP k x hx).lt)
  refine kk H1 ((hP.kept hk).app (fun k x hx => ?_)) z1 ⟨Nat.le_trans hS.1 (by omega), fun x h1 h2 => (o1 x (Nat.lt_of_lt_of_le h1 hS.1)).trans (hS.2.1 x h1 h2), hS.2.2⟩
  have hz : k < 1 := (List.getElem?_eq_some_iff.mp hx).1
  rw [show k = 0 by omega] at hx
  cases hx
  show H1[H.size]? = some (vp_cell _ _)
  rw [vp_cell_q]
  exact e1
end ROWS
/-! the kit's rows for what is written, with the heap's size told (they follow va_put, va_putF, va_iast, va_astq) -/
section ROWS2
variable {p : Program} {l : Launch} {e : Env} {R : Room} {s : State} {m : MethodId} {args : Array Value} {below : List Frame} {meth : Method} {c : Code} {H : Heap} {locs : List Loc} {cells slots : Nat} {Q : State → Prop}
variable {cc : ByteArray} {pc a : Nat} {ls : Array Slot} {rest : List Value} {D : va_G} {cl : List vw_C} {A : Nat → Prop} {tys : List (ClassId × FieldType)} {ws : va_W} {H0 : Heap}
theorem vz_put (hexec : p.tables.exec = Jvm.exec) (hb : c.code = cc) {own ref C : String} {T : u_T} {N ci index : Nat} {Ts : List Jvm.Cond} (hts : ∀ w ∈ Ts, w.before args s = true) (hin : ∀ w ∈ u_ws C T N, w ∈ Ts) (ty0 : Nat → FieldType) (hty : ∀ k, k < N → parseFieldDescriptor (T k).2.2.1 = some (ty0 k)) (hnm : ∀ a, a < N → ∀ b, b < N → a ≠ b → (T a).2.1 ≠ (T b).2.1) (hown : s.vm.findClass own = some m.cls) (hK : va_K D cl tys s) (hP : va_P D cl ws H) (hD : va_D A ws) (hS0 : va_S A H0 H locs) (q0 : Nat) {fs : List Value} (he : ws[q0]? = some (a, .inr (ci, fs))) (hc : cl[ci]? = some (C, T, N)) (k : Nat) (hk : k < N) (hlink : (Jvm.Cond.fieldLink own index ref (T k).2.1 (T k).2.2.1).before args s = true) (hsame : ∀ x, s.fieldFound? (T k).1 (T k).2.1 (T k).2.2.1 = some x → s.fieldFound? ref (T k).2.1 (T k).2.2.1 = some x) (hfin : (T k).2.2.2 = false) {ty : FieldType} {v : Value} (hd : parseFieldDescriptor (T k).2.2.1 = some ty) (hn : narrow ty v = v) (hfit : fits ty v = true) (hl : k < fs.length)
    (hdg : decode cc pc = .ok (.putfield index, 3)) (kk : ∀ (H1 : Heap) (locs1 : List Loc), va_P D cl (ws.set q0 (a, .inr (ci, fs.set k v))) H1 → va_D A (ws.set q0 (a, .inr (ci, fs.set k v))) → va_S A H0 H1 locs1 → H1.size = H.size → W p l e R s m args below meth c H1 locs1 cells slots Q (F0 m (pc + 3) ls rest)) : W p l e R s m args below meth c H locs cells slots Q (F0 m pc ls (v :: .ref a :: rest)) := by
  have hap := va_apart (own := own) hts hin ty0 hty hnm hK hc
  obtain ⟨r, h1, cell, q1, q2, q3, q4⟩ := hP q0 _ he
  have hr : r = (C, T, N) := Option.some.inj (h1.symm.trans hc)
  subst hr
  obtain ⟨hS, hfc, kC, hkC, hkind⟩ := hK.1 ci _ hc
  obtain ⟨cf, kf, fi, f, hi, hsl⟩ := hS k hk
  have hlay := hts _ (hin _ (u_in_lay hk))
  unfold u_lay at hlay
  rw [if_neg (by rw [hfin]; decide)] at hlay
  have hst := (u_facts hfc hkC (u_lays hts hin hk) hi).1
  have h6 := u_store hfc hkC hkind hlay hi hd hn hfit
  refine W.putK hexec hb (f := f) ⟨hown, hlink, ⟨_, _, _, hsame _ hi⟩, hst⟩ (by rw [q2]; exact h6) q1 q3 (by rw [hsl]; exact k2_hasslot (q4 k hk)) rfl rfl hdg fun H' e1 e2 e3 => ?_
  rw [hsl] at e1 ⊢
  exact kk H' _ (hP.set hD he ⟨_, hc, t_OB.to (V := updV (vp_V fs) k v) ⟨_, e1, q2, q3, t_set q4 hap hk v⟩ (fun j _ => vp_updV_set hl v j)⟩ e3) (hD.set he) (hS0.put e2 e3 (hD.2 q0 _ he)) e2
theorem vz_putF (hexec : p.tables.exec = Jvm.exec) (hb : c.code = cc) {own ref C : String} {T : u_T} {N ci index : Nat} {Ts : List Jvm.Cond} (hts : ∀ w ∈ Ts, w.before args s = true) (hin : ∀ w ∈ u_ws C T N, w ∈ Ts) (ty0 : Nat → FieldType) (hty : ∀ k, k < N → parseFieldDescriptor (T k).2.2.1 = some (ty0 k)) (hnm : ∀ a, a < N → ∀ b, b < N → a ≠ b → (T a).2.1 ≠ (T b).2.1) (hown : s.vm.findClass own = some m.cls) (hK : va_K D cl tys s) (hP : va_P D cl ws H) (hD : va_D A ws) (hS0 : va_S A H0 H locs) (q0 : Nat) {fs : List Value} (he : ws[q0]? = some (a, .inr (ci, fs))) (hc : cl[ci]? = some (C, T, N)) (k : Nat) (hk : k < N) (hlink : (Jvm.Cond.fieldLink own index ref (T k).2.1 (T k).2.2.1).before args s = true) (hsame : ∀ x, s.fieldFound? (T k).1 (T k).2.1 (T k).2.2.1 = some x → s.fieldFound? ref (T k).2.1 (T k).2.2.1 = some x) (hfin : (T k).2.2.2 = true) (hin2 : meth.name = "<init>") (hdecl : (T k).1 = own) {ty : FieldType} {v : Value} (hd : parseFieldDescriptor (T k).2.2.1 = some ty) (hn : narrow ty v = v) (hfit : fits ty v = true) (hl : k < fs.length)
    (hdg : decode cc pc = .ok (.putfield index, 3)) (kk : ∀ (H1 : Heap) (locs1 : List Loc), va_P D cl (ws.set q0 (a, .inr (ci, fs.set k v))) H1 → va_D A (ws.set q0 (a, .inr (ci, fs.set k v))) → va_S A H0 H1 locs1 → H1.size = H.size → W p l e R s m args below meth c H1 locs1 cells slots Q (F0 m (pc + 3) ls rest)) : W p l e R s m args below meth c H locs cells slots Q (F0 m pc ls (v :: .ref a :: rest)) := by
  have hap := va_apart (own := own) hts hin ty0 hty hnm hK hc
  obtain ⟨r, h1, cell, q1, q2, q3, q4⟩ := hP q0 _ he
  have hr : r = (C, T, N) := Option.some.inj (h1.symm.trans hc)
  subst hr
  obtain ⟨hS, hfc, kC, hkC, hkind⟩ := hK.1 ci _ hc
  obtain ⟨cf, kf, fi, f, hi, hsl⟩ := hS k hk
  have hlay := hts _ (hin _ (u_in_lay hk))
  unfold u_lay at hlay
  rw [if_pos hfin] at hlay
  have hst := (u_facts hfc hkC (u_lays hts hin hk) hi).1
  have hcf : m.cls = cf := by
    obtain ⟨_, _, c', _, _, _, -, -, hf', -, -, -, hown2, -⟩ := Cond.laysFinal_spec hlay
    have e1 : c' = cf := by have := hi.symm.trans hf'; simp at this; exact this.1.symm
    rw [hdecl] at hown2
    rw [← e1]; exact Option.some.inj (hown.symm.trans hown2)
  have h6 := u_fits hfc hkC hkind (Or.inr hlay) hi hd hn hfit
  refine W.putFinK hexec hb hown hlink (hsame _ hi) hst hcf hin2 (by rw [q2]; exact h6) q1 q3 (by rw [hsl]; exact k2_hasslot (q4 k hk)) rfl rfl hdg fun H' e1 e2 e3 => ?_
  rw [hsl] at e1 ⊢
  exact kk H' _ (hP.set hD he ⟨_, hc, t_OB.to (V := updV (vp_V fs) k v) ⟨_, e1, q2, q3, t_set q4 hap hk v⟩ (fun j _ => vp_updV_set hl v j)⟩ e3) (hD.set he) (hS0.put e2 e3 (hD.2 q0 _ he)) e2
theorem vz_iast (hexec : p.tables.exec = Jvm.exec) (hb : c.code = cc) (hK : va_K D cl tys s) (hP : va_P D cl ws H) (hD : va_D A ws) (hS : va_S A H0 H locs) (q0 t0 : Nat) {cA : ClassId} {n : Nat} {f : Nat → Int32} (ha : ws[q0]? = some (a, .inl (cA, n, .inl f))) (ht : tys[t0]? = some (cA, .int)) {i : Int32} {x : Int32} (hin : vp_in i n) (hdg : decode cc pc = .ok (.iastore, 1))
    (kk : ∀ (H1 : Heap) (locs1 : List Loc), va_P D cl (ws.set q0 (a, .inl (cA, n, .inl (upd f i.toNatClampNeg x)))) H1 → va_D A (ws.set q0 (a, .inl (cA, n, .inl (upd f i.toNatClampNeg x)))) → va_S A H0 H1 locs1 → H1.size = H.size → W p l e R s m args below meth c H1 locs1 cells slots Q (F0 m (pc + 1) ls rest)) : W p l e R s m args below meth c H locs cells slots Q (F0 m pc ls (.int x :: .int i :: .ref a :: rest)) := by
  refine W.iast hexec hb (hP q0 _ ha) ((hK.2 t0 _ ht).1 n (fun j => .int (f j))) (fun q => by cases q) (by show ¬ (i < 0 ∨ (arrV _ _ _).slots.size ≤ _); rw [arrV_size]; exact hin) rfl rfl hdg fun H1 e z oq => ?_
  refine kk H1 _ (hP.set hD ha ?_ oq) (hD.set ha) (hS.put z oq (hD.2 q0 _ ha)) z
  show H1[a]? = some (vp_cell _ _)
  rw [e]
  rw [vp_cell_i, vp_cell_i, arrV_store]
  congr 2
  funext q
  by_cases hq : q = i.toNatClampNeg
  · subst hq
    simp [updV, upd]
    
  · simp [updV, upd, hq]
theorem vz_astq (hexec : p.tables.exec = Jvm.exec) (hb : c.code = cc) (hK : va_K D cl tys s) (hP : va_P D cl ws H) (hD : va_D A ws) (hS : va_S A H0 H locs) (q0 t0 qk ci : Nat) {cA : ClassId} {r : vw_C} {n v : Nat} {vs : List Value} {f : Nat → Option Nat} (ha : ws[q0]? = some (a, .inl (cA, n, .inr (.inr (.inr (.inr f)))))) (ht : tys[t0]? = some (cA, .object r.1)) (hv : ws[qk]? = some (v, .inr (ci, vs))) (hc : cl[ci]? = some r) {i : Int32} (hin : vp_in i n) (hdg : decode cc pc = .ok (.aastore, 1))
    (kk : ∀ (H1 : Heap) (locs1 : List Loc), va_P D cl (ws.set q0 (a, .inl (cA, n, .inr (.inr (.inr (.inr (va_up f i.toNatClampNeg (some v)))))))) H1 → va_D A (ws.set q0 (a, .inl (cA, n, .inr (.inr (.inr (.inr (va_up f i.toNatClampNeg (some v)))))))) → va_S A H0 H1 locs1 → H1.size = H.size → W p l e R s m args below meth c H1 locs1 cells slots Q (F0 m (pc + 1) ls rest)) : W p l e R s m args below meth c H locs cells slots Q (F0 m pc ls (.ref v :: .int i :: .ref a :: rest)) := by
  have hlt : i.toNatClampNeg < n := Nat.not_le.mp fun q => hin (Or.inr q)
  have h0 : ¬ i < 0 := fun q => hin (Or.inl q)
  obtain ⟨r', hr', cellV, g1, g2, g3, -⟩ := hP qk _ hv
  have hcls := (hK.1 ci r hc).2
  obtain ⟨kA, comp, k1, k2, k3, -⟩ := (hK.2 t0 _ ht).2
  have hcomp : comp = D.1 ci := Option.some.inj (k3.symm.trans hcls.1)
  subst hcomp
  obtain ⟨kC, hkC, -⟩ := hcls.2
  refine W.aast hexec hb (hP q0 _ ha) (fun q h => by cases h) (fun h => by cases h) k1 k2 rfl hkC ⟨h0, by show _ < (arrV _ _ _).slots.size; rw [arrV_size]; exact hlt⟩ g1 (fun q h => by rw [g3] at h; cases h) (by rw [g2]; exact hkC) (by rw [g2]; exact va_assign hcls) rfl rfl hdg fun H1 e z oq => ?_
  refine kk H1 _ (hP.set hD ha ?_ oq) (hD.set ha) (hS.put z oq (hD.2 q0 _ ha)) z
  show H1[a]? = some (vp_cell _ _)
  rw [e]
  rw [vp_cell_q, vp_cell_q, arrV_store]
  congr 2
  funext q
  by_cases hq : q = i.toNatClampNeg
  · subst hq
    simp [updV, va_up, va_rf]
  · simp [updV, va_up, hq]
end ROWS2
/-! constructors: context, calls, contracts -/
def AOL : List String := ["SlotConference$Airport", "SlotConference$Rule", "SlotConference$Request", "SlotConference$Series", "SlotConference$Right"]
abbrev NRow : Type := String × Nat × MethodName × String
def CxN (NW : List NRow) (U : State) : Prop := (∀ C ∈ AOL, va_AO C U) ∧ ∀ q ∈ NW, va_Nw (.methodLinkNest q.1 q.2.1 q.2.2.1 q.2.2.2) U
theorem CxN.warm {NW : List NRow} {s U : State} (hW : s.WarmedH U.vm) (h : CxN NW s) : CxN NW U := ⟨fun C hC => va_AO.moved hW.alike (h.1 C hC), fun q hq => va_Nw.warmM hW (h.2 q hq)⟩
def CxC (NW : List NRow) (p : Program) (s : State) (m : MethodId) (args : Array Value) (c : Code) (cc : ByteArray) (nL : Nat) (own : String) (D : va_G) (dA : Nat → ClassId) : Prop :=
  p.tables.exec = Jvm.exec ∧ c.code = cc ∧ c.maxLocals = nL ∧ s.vm.findClass own = some m.cls ∧ (∀ w ∈ WG, w.before args s = true) ∧ va_K D vwCl (tys dA) s ∧ CxN NW s
def CallC (NW : List NRow) (l : Launch) (R : Room) (own : String) (k d : Nat) (F : CF) : Prop :=
  ∀ (p : Program) (e : Env) (s : State) (m : MethodId) (args : Array Value) (below : List Frame) (meth : Method) (c : Code) (cc : ByteArray) (nL base a : Nat) (D : va_G) (dA : Nat → ClassId) (Q : State → Prop) (H : Heap) (locs : List Loc) (cells slots pc : Nat) (ls : Array Slot) (rest : List Value) (h g : CH),
    CxC NW p s m args c cc nL own D dA → decode cc pc = .ok (.invokespecial k, 3) → ls.size = nL → (rest.map fun v => v.category).sum ≤ 8 → a < h.1 → SKc a ∈ CS d → Wc base D dA h H → va_S (Ab base) s.heap H locs → base ≤ s.heap.size → F a h = some g → cells + (g.1 - h.1) ≤ R.cells → slots + (sl g.1 - sl h.1) ≤ R.slots →
    (∀ (H' : Heap) (locs' : List Loc), Wc base D dA g H' → va_S (Ab base) s.heap H' locs' → W p l e R s m args below meth c H' locs' (cells + (g.1 - h.1)) (slots + (sl g.1 - sl h.1)) Q (F0 m (pc + 3) ls rest)) →
    W p l e R s m args below meth c H locs cells slots Q (F0 m pc ls (.ref (base + a) :: rest))
def CMono (F : CF) : Prop := ∀ (a : Nat) (h g : CH), F a h = some g → h.1 ≤ g.1
def PcC (NW : List NRow) (base : Nat) (D : va_G) (dA : Nat → ClassId) (a : Nat) (h : CH) : Array Value → State → Prop :=
  va_Pc [.ref (base + a)] fun U => base ≤ U.heap.size ∧ Wc base D dA h U.heap ∧ va_K D vwCl (tys dA) U ∧ CxN NW U
def QcC (base : Nat) (D : va_G) (dA : Nat → ClassId) (g : CH) : Array Value → State → Outcome → State → Prop := fun _ st o t => o = .returned none ∧ Wc base D dA g t.heap ∧ va_F (Ab base) st t
def ConC (NW : List NRow) (l : Launch) (y : MethodName) (cc : ByteArray) (maxL : Nat) (F : CF) (d fr lo : Nat) : Prop :=
  ∀ (base : Nat) (D : va_G) (dA : Nat → ClassId) (a : Nat) (h g : CH), F a h = some g → a < h.1 → SKc a ∈ CS d →
    Met l y (.code y cc maxL none :: WG) { frames := fr, cells := g.1 - h.1, slots := sl g.1 - sl h.1, locals := lo } (PcC NW base D dA a h) (QcC base D dA g) (g.1 - h.1) (sl g.1 - sl h.1) (Ab base)
theorem PcC_blind {NW : List NRow} {base : Nat} {D : va_G} {dA : Nat → ClassId} {a : Nat} {h : CH} : FrameBlind (PcC NW base D dA a h) := by
  intro v U g mk q
  obtain ⟨q1, q2, q3, q4, q5⟩ := q
  have hW : U.WarmedH (U.calling g mk v).vm := State.WarmedH.refl U
  exact ⟨q1, q2, q3, va_K.moved (u := U) (U := U.calling g mk v) (Vm.Alike.refl U.vm) q4, CxN.warm (s := U) (U := U.calling g mk v) hW q5⟩
section CALLS
variable {NW : List NRow} {l : Launch} {R : Room} {own : String} {k d : Nat}
theorem callC_obj (hw : ∀ w ∈ [Jvm.Cond.methodLink own k Lib.objectInit, .instanceMethod Lib.objectInit, .code Lib.objectInit ⟨#[0xb1]⟩ 1 none], w ∈ WG) (hR : 1 ≤ R.frames ∧ 20 ≤ R.locals) : CallC NW l R own k d C_obj := by
  intro p e s m args below meth c cc nL base a D dA Q H locs cells slots pc ls rest h g G hdec hls hcat ha hcl hW hS hbs hF hc hs kk
  obtain ⟨hx, hb, hml, hown, hts, hKn, hN⟩ := G
  have hg : g = h := (Option.some.inj hF).symm
  subst hg
  refine W.objInit hx hb hown (hts _ (hw _ (by simp))) (hts _ (hw _ (by simp))) (hts _ (hw _ (by simp))) rfl (by rw [hml]; exact hls) rfl hdec hR.1 (by show 2 * 0 + _ + 12 ≤ _; omega) ?_
  have h1 := kk H locs hW hS
  rw [Nat.sub_self, Nat.sub_self] at h1
  exact h1
theorem run_C {p : Program} {e : Env} {s : State} {m : MethodId} {args : Array Value} {below : List Frame} {meth : Method} {c : Code} {base : Nat} {D : va_G} {dA : Nat → ClassId} {Q : State → Prop} {H : Heap} {locs : List Loc} {cells slots mc ms pc : Nat} {ls : Array Slot} {rest st0 : List Value} {v : Array Value} {g : CH}
    (hr : va_Run p l e R s m args below meth c H locs cells slots mc ms (F0 m pc ls st0) rest (QcC base D dA g v) (Ab base)) (hS : va_S (Ab base) s.heap H locs)
    (kk : ∀ (H' : Heap) (locs' : List Loc), Wc base D dA g H' → va_S (Ab base) s.heap H' locs' → W p l e R s m args below meth c H' locs' (cells + mc) (slots + ms) Q (F0 m (pc + 3) ls rest)) : W p l e R s m args below meth c H locs cells slots Q (F0 m pc ls st0) := by
  intro T hT X
  obtain ⟨v, st₀, t, T', L, h0, X', hL, e1, e2, ⟨hv, hw, hF⟩, st⟩ := hr T hT X
  cases hv
  obtain ⟨j1, j2, j3⟩ := vx_keep h0 e1 hS (fun q _ h => h) (fun q h => h) hL hF
  obtain ⟨t2, a1, b1⟩ := kk T'.heap (locs ++ L) (by rw [e1]; exact hw) j3 T' rfl X'
  exact ⟨t2, st t2 a1, b1⟩
/-- a constructor that the pool names plainly -/
theorem callC_of {y : MethodName} {cc9 : ByteArray} {maxL fr lo : Nat} {F : CF} (hcon : ConC NW l y cc9 maxL F d fr lo)
    (hw : ∀ w ∈ [Jvm.Cond.methodLink own k y, .instanceMethod y, .initialized y.cls, .code y cc9 maxL none], w ∈ WG) (hy1 : y.name = "<init>")
    (hd : y.cls ≠ "java/lang/invoke/MethodHandle" ∧ y.cls ≠ "java/lang/invoke/VarHandle" ∧ (parseMethodDescriptor y.desc).map (fun d => d.parameters.length) = some 0) (hR : fr + 1 ≤ R.frames ∧ 8 + (maxL + 11) + lo ≤ R.locals) : CallC NW l R own k d F := by
  intro p e s m args below meth c cc nL base a D dA Q H locs cells slots pc ls rest h g G hdec hls hcat ha hcl hW hS hbs hF hc hs kk
  obtain ⟨hx, hb, hml, hown, hts, hKn, hN⟩ := G
  have hG2 : GoodIn WG (.code y cc9 maxL none :: WG) := goodWs fun w hw9 => by
    rcases List.mem_cons.mp hw9 with q | q
    · rw [q]; exact hw _ (by simp)
    · exact q
  refine run_C (va_runI (As := []) (rest := rest) (b := base + a) ⟨hx, hb, hml, hown, hts⟩ (hcon base D dA a h g hF ha hcl) (cwI 0 hts hG2 rfl rfl rfl (hts _ (hw _ (by simp))) (hts _ (hw _ (by simp))) (hts _ (hw _ (by simp))) hy1 hd hR) ⟨PcC_blind, fun U hU hWm => ⟨rfl, by rw [hU]; exact Nat.le_trans hbs hS.1, by rw [hU]; exact hW, va_K.moved hWm.alike hKn, CxN.warm hWm hN⟩⟩ rfl rfl hls rfl (by show 2 * 0 + _ ≤ 8; omega) hdec ⟨hc, hs⟩) hS kk
/-- a private constructor of a nest mate -/
theorem callC_nest {y : MethodName} {host : String} {cc9 : ByteArray} {maxL fr lo : Nat} {F : CF} (hcon : ConC NW l y cc9 maxL F d fr lo) (hnw : (own, k, y, host) ∈ NW)
    (hw : ∀ w ∈ [Jvm.Cond.instanceMethod y, .initialized y.cls, .code y cc9 maxL none], w ∈ WG) (hy1 : y.name = "<init>")
    (hd : y.cls ≠ "java/lang/invoke/MethodHandle" ∧ y.cls ≠ "java/lang/invoke/VarHandle" ∧ (parseMethodDescriptor y.desc).map (fun d => d.parameters.length) = some 0) (hR : fr + 1 ≤ R.frames ∧ 8 + (maxL + 11) + lo ≤ R.locals) : CallC NW l R own k d F := by
  intro p e s m args below meth c cc nL base a D dA Q H locs cells slots pc ls rest h g G hdec hls hcat ha hcl hW hS hbs hF hc hs kk
  obtain ⟨hx, hb, hml, hown, hts, hKn, hN⟩ := G
  have hG2 : GoodIn WG (.code y cc9 maxL none :: WG) := goodWs fun w hw9 => by
    rcases List.mem_cons.mp hw9 with q | q
    · rw [q]; exact hw _ (by simp)
    · exact q
  refine run_C (va_runIN (As := []) (rest := rest) (b := base + a) ⟨hx, hb, hml, hown, hts⟩ (hcon base D dA a h g hF ha hcl) ⟨va_cnB 0 hts hG2 rfl rfl rfl (hN.2 _ hnw) (hts _ (hw _ (by simp))) hd hR, hy1, hts _ (hw _ (by simp))⟩ ⟨PcC_blind, fun U hU hWm => ⟨rfl, by rw [hU]; exact Nat.le_trans hbs hS.1, by rw [hU]; exact hW, va_K.moved hWm.alike hKn, CxN.warm hWm hN⟩⟩ rfl rfl hls rfl (by show 2 * 0 + _ ≤ 8; omega) hdec ⟨hc, hs⟩) hS kk
end CALLS
def ACN : Nat → String
  | 13 => "SlotConference$Airport"
  | 14 => "SlotConference$Rule"
  | 15 => "SlotConference$Request"
  | 16 => "SlotConference$Series"
  | _ => "SlotConference$Right"
def isArr (d : String) : Bool := match parseFieldDescriptor d with
  | some (.array _) => true
  | _ => false
def fldF (own : String) (b ci : Nat) : Bool := match vwCl[ci]? with
  | some (_, T, _) => decide ((T b).2.2.2 = true) && decide ((T b).1 = own) && isArr (T b).2.2.1
  | none => false
def newW (own : String) (k b : Nat) : Bool := match vwCl[b]? with
  | some (C, _, N) => decide (Jvm.Cond.classLink own k C ∈ WG) && decide (Jvm.Cond.instantiable C N ∈ WG) && decide (Jvm.Cond.initialized C ∈ WG)
  | none => false
def chkC (own : String) (cc : ByteArray) (nL : Nat) (cal : List (Nat × Nat × Nat)) (e : Nat × Ent) : Bool := match e with
  | (pc, _, i, len, b, c, d, x) => decide (decode cc pc = .ok (i, len)) && (match i with
    | .iconst n => Nat.beq len 1 && decide (Int32.ofInt n = x)
    | .bipush n => Nat.beq len 2 && decide ((Int8.ofInt n).toInt32 = x)
    | .sipush n => Nat.beq len 3 && decide ((Int16.ofInt n).toInt32 = x)
    | .iload_n k => Nat.beq len 1 && Nat.beq k b
    | .aload_n k => Nat.beq len 1 && Nat.beq k b
    | .istore_n k => Nat.beq len 1 && Nat.beq k b && Nat.blt b nL
    | .istore k => Nat.beq len 2 && Nat.beq k b && Nat.blt b nL
    | .astore_n k => Nat.beq len 1 && Nat.beq k b && Nat.blt b nL
    | .iinc k n => Nat.beq len 3 && Nat.beq k b && decide (Int32.ofInt n = x) && Nat.blt b nL
    | .goto off => Nat.beq len 3 && tgOK pc off b
    | .if_icmp _ off => Nat.beq len 3 && tgOK pc off b
    | .dup => Nat.beq len 1
    | .getfield k => Nat.beq len 3 && fldW own k b d c true none
    | .putfield k => Nat.beq len 3 && (fldW own k b d c false (some "I") || (fldW own k b d c true none && fldF own b c))
    | .arraylength => Nat.beq len 1
    | .iastore => Nat.beq len 1
    | .aastore => Nat.beq len 1 && (match c with
      | 0 => Nat.beq b 13
      | 3 => Nat.beq b 14
      | 1 => Nat.beq b 15
      | 4 => Nat.beq b 16
      | 2 => Nat.beq b 17
      | _ => false)
    | .newarray _ => Nat.beq len 2
    | .anewarray k => Nat.beq len 3 && decide (Jvm.Cond.classLink own k (ACN b) ∈ WG)
    | .new k => Nat.beq len 3 && newW own k b
    | .invokespecial k => Nat.beq len 3 && decide ((k, b, d) ∈ cal)
    | .return_ => Nat.beq len 1
    | _ => false)
