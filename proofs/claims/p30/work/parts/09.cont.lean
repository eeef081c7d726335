/-! ===== contracts out of code tables ===== -/
def XNM : List String := ["java/lang/RuntimeException", "java/lang/Exception"]
def ThrOK (SL : List StrT) (own : String) (cc : ByteArray) (pc b : Nat) : Prop := ∃ (ik is ic : Nat) (text : String), (own, is, text) ∈ SL ∧ decode cc pc = .ok (.new ik, 3) ∧ decode cc (pc + 3) = .ok (.dup, 1) ∧
  ((decode cc (pc + 4) = .ok (.ldc is, 2) ∧ decode cc (pc + 6) = .ok (.invokespecial ic, 3) ∧ decode cc (pc + 9) = .ok (.athrow, 1)) ∨ (decode cc (pc + 4) = .ok (.ldc_w is, 3) ∧ decode cc (pc + 7) = .ok (.invokespecial ic, 3) ∧ decode cc (pc + 10) = .ok (.athrow, 1))) ∧
  Jvm.Cond.classLink own ik (EN b) ∈ WG ∧ Jvm.Cond.initialized (EN b) ∈ WG ∧ ∀ w ∈ vx_atS own ic (EN b) XNM, w ∈ WG ∨ w ∈ EXW
theorem EN_fit (b : Nat) : Bundle.fit (EN b) = true := by
  rcases b with _ | _ | b
  · decide +kernel
  · decide +kernel
  · show Bundle.fit "java/lang/IllegalStateException" = true
    decide +kernel
theorem XNM_fit : ∀ n ∈ XNM, Bundle.fit n = true := by
  intro n hn
  simp only [XNM, List.mem_cons, List.not_mem_nil, or_false] at hn
  rcases hn with rfl | rfl <;> decide +kernel
theorem wg_ot {w : Jvm.Cond} (h : w ∈ WG ∨ w ∈ EXW) : vx_ot w = true := by
  rcases h with h | h
  · unfold vx_ot
    rw [(List.mem_filter.mp h).2, Bool.or_true]
  · simp only [EXW, List.mem_cons, List.not_mem_nil, or_false] at h
    rcases h with rfl | rfl | rfl | rfl | rfl | rfl <;> rfl
theorem exw_at {U : State} {args : Array Value} {w : Jvm.Cond} (h : vz_C EXW U) (hw : w ∈ EXW) : w.before args U = true := by
  have h1 := h w hw
  simp only [EXW, List.mem_cons, List.not_mem_nil, or_false] at hw
  rcases hw with rfl | rfl | rfl | rfl | rfl | rfl <;> exact h1
theorem pad_get {v : Value} (hv : v ≠ .retAddr 0) : ∀ {n : Nat} {vs : List Value} {i : Nat}, (pad n vs)[i]? = some v → vs[i]? = some v
  | 0, vs, i, h => by simp [pad] at h
  | n + 1, [], 0, h => by
    have : Value.retAddr 0 = v := by simpa [pad] using h
    exact absurd this.symm hv
  | n + 1, [], i + 1, h => by
    have h1 : (pad n [])[i]? = some v := by simpa [pad] using h
    have h2 := pad_get hv h1
    simp at h2
  | n + 1, w :: t, 0, h => by simpa [pad] using h
  | n + 1, w :: t, i + 1, h => by
    rw [List.getElem?_cons_succ]
    exact pad_get hv (n := n) (by simpa [pad] using h)
theorem chkA_spec : ∀ {n : Nat} {vs : List Value}, chkA n vs = true → vs.length = n ∧ ∀ v ∈ vs, v.category = 1
  | 0, [], _ => ⟨rfl, fun _ h => nomatch h⟩
  | 0, _ :: _, h => by simp [chkA] at h
  | n + 1, [], h => by simp [chkA] at h
  | n + 1, v :: t, h => by
    cases v with
    | int x =>
      obtain ⟨h1, h2⟩ := chkA_spec (n := n) (vs := t) h
      exact ⟨by simp [h1], fun w hw => by rcases List.mem_cons.mp hw with q | q; (rw [q]; rfl); exact h2 w q⟩
    | ref x =>
      obtain ⟨h1, h2⟩ := chkA_spec (n := n) (vs := t) h
      exact ⟨by simp [h1], fun w hw => by rcases List.mem_cons.mp hw with q | q; (rw [q]; rfl); exact h2 w q⟩
    | _ => simp [chkA] at h
theorem lv_args_in : ∀ {vs : List Value} {k i : Nat} {v : Value}, (∀ w ∈ vs, w.category = 1) → vs[i]? = some v → (k + i, v) ∈ lv_args k vs
  | [], k, i, v, _, h => by simp at h
  | w :: t, k, 0, v, _, h => by
    have : w = v := by simpa using h
    rw [this]
    exact List.mem_cons_self
  | w :: t, k, i + 1, v, hc, h => by
    refine List.mem_cons_of_mem _ ?_
    have h1 := lv_args_in (k := k + 1) (fun z hz => hc z (List.mem_cons_of_mem _ hz)) (show t[i]? = some v by simpa using h)
    have h2 : (if w.category = 2 then k + 2 else k + 1) = k + 1 := by
      rw [if_neg]
      rw [hc w List.mem_cons_self]
      decide
    rw [h2]
    have h3 : k + 1 + i = k + (i + 1) := by omega
    rw [← h3]
    exact h1
theorem sl_len : ∀ {vs : List Value}, (∀ w ∈ vs, w.category = 1) → (lg_sl vs).length = vs.length
  | [], _ => rfl
  | v :: t, h => by
    have h1 := sl_len (vs := t) fun z hz => h z (List.mem_cons_of_mem _ hz)
    have h2 : lg_sl (v :: t) = .val v :: lg_sl t := by
      unfold lg_sl
      rw [List.flatMap_cons, if_neg (by rw [h v List.mem_cons_self]; decide)]
      rfl
    rw [h2, List.length_cons, List.length_cons, h1]
theorem LR.entry {base sb nL n : Nat} {vs : List Value} (hA : chkA n vs = true) (hn : n ≤ nL) : LR base sb ((lg_sl (vs.map (tr base sb)) ++ List.replicate (nL - (lg_sl (vs.map (tr base sb))).length) Slot.unset).toArray) nL (pad nL vs) := by
  obtain ⟨h1, h2⟩ := chkA_spec hA
  have h3 : ∀ w ∈ vs.map (tr base sb), w.category = 1 := fun w hw => by
    obtain ⟨v, hv, rfl⟩ := List.mem_map.mp hw
    rw [tr_cat]
    exact h2 v hv
  have h4 := lv_entry (vs.map (tr base sb)) (n := nL) (by rw [sl_len h3, List.length_map, h1]; exact hn)
  refine ⟨h4.1, h4.2.1, fun i v hi hv => ?_⟩
  have h5 := pad_get hv hi
  refine ⟨h2 v (List.mem_of_getElem? h5), ?_⟩
  have h6 : (vs.map (tr base sb))[i]? = some (tr base sb v) := by rw [List.getElem?_map, h5]; rfl
  have h7 := lv_args_in (k := 0) h3 h6
  rw [Nat.zero_add] at h7
  exact h4.2.2 _ h7
section BODY
variable {SL : List StrT} {p : Program} {l : Launch} {e : Env} {R : Room} {s : State} {m : MethodId} {args : Array Value} {below : List Frame} {meth : Method} {c : Code} {cc : ByteArray} {nL : Nat} {own : String} {base sb : Nat} {D : va_G} {dA : Nat → ClassId}
theorem wd_keep {h : Hp} {H : Heap} {t : State} (hW : Wd base sb D dA h s H) (hal : s.vm.Alike t.vm) (hz : H.size ≤ t.heap.size) (hk : ∀ q : Nat, q < H.size → t.heap[q]? = H[q]?) : Wd base sb D dA h t t.heap := by
  refine Wd.moved (u := s) hal ⟨?_, va_X.kept hW.2.1 (hk sb ?_), hW.2.2.1, hW.2.2.2.1.kept (fun a h1 _ => hk a h1), hW.2.2.2.2.kept (fun a h1 _ => hk a h1)⟩
  · exact va_P.kept hW.1 (fun k q hq => hk q.1 ((hW.1 k q hq).lt))
  · obtain ⟨scr, h1, -⟩ := hW.2.1
    exact (Array.getElem?_eq_some_iff.mp h1).1
theorem thr_W {Qc : Array Value → State → Outcome → State → Prop} {mc ms pc b : Nat} {r : (Option Value × Hp) ⊕ (Nat × Hp)} {h : Hp} {H : Heap} {locs : List Loc} {ls : Array Slot} {st : List Value}
    (G : Cx SL p s m args c cc nL own D dA) (hl : l.stackTraces = false) (hbs : base ≤ s.heap.size) (hE1 : Ex1 (Ab base) s s.heap) (ht : ThrOK SL own cc pc b) (hr : r = .inr (b, h)) (hW : Wd base sb D dA h s H) (hS : va_S (Ab base) s.heap H locs) (hls : ls.size = nL) (hcat : (st.map fun v => v.category).sum ≤ 8)
    (htab : ∀ x ∈ c.exceptionTable.toList, False) (hlocks : meth.locks = false) (hR1 : 6 ≤ R.frames) (hR2 : 90 ≤ R.locals) (hR3 : 1 ≤ R.cells) (hR4 : 6 ≤ R.slots) (hm : 1 ≤ mc) (hm2 : 6 ≤ ms) :
    W p l e R s m args below meth c H locs 0 0 (vx_MQ below Qc (XCw base sb D dA r) args s mc ms (Ab base)) (F0 m pc ls st) := by
  obtain ⟨hx, hb, hml, hown, hts, hKn, hEx⟩ := id G
  obtain ⟨ik, is, ic, text, hSL, d0, d3, hd, hk, hini, hat⟩ := ht
  obtain ⟨sa, hstr⟩ := hEx.2.2 _ hSL
  have hXC : ∀ t : State, s.vm.Alike t.vm → H.size ≤ t.heap.size → (∀ q : Nat, q < H.size → t.heap[q]? = H[q]?) → XCw base sb D dA r (EN b) s t := by
    intro t hal hz hkk
    refine ⟨b, h, hr, rfl, wd_keep hW hal hz hkk, Nat.le_trans hS.1 hz, fun q h1 h2 => ?_⟩
    rw [hkk q (Nat.lt_of_lt_of_le h1 hS.1)]
    exact hS.2.1 q h1 h2
  have hat' : ∀ w ∈ vx_atS own ic (EN b) XNM, w.before args s = true := fun w hw => by
    rcases hat w hw with q | q
    · exact hts w q
    · exact exw_at hEx.1 q
  have hgood : ∀ w ∈ Jvm.Cond.classLink own ik (EN b) :: Jvm.Cond.initialized (EN b) :: vx_atS own ic (EN b) XNM, vx_ot w = true := fun w hw => by
    rcases List.mem_cons.mp hw with q | hw
    · rw [q]; exact wg_ot (Or.inl hk)
    rcases List.mem_cons.mp hw with q | hw
    · rw [q]; exact wg_ot (Or.inl hini)
    · exact wg_ot (hat w hw)
  have hsz : ls.size = c.maxLocals := by rw [hml]; exact hls
  rcases hd with ⟨d4, d6, d9⟩ | ⟨d4, d7, d10⟩
  · exact vx_throwS hx hb hl hown (EN_fit b) XNM_fit (hts _ hk) (hts _ hini) hstr hat' hgood hE1.1 hE1.2 hS hsz d0 d3 d4 d6 d9 (fun x hx9 => (htab x hx9).elim) (by show 2 + 3 < R.frames; omega) (by show _ + (13 * (2 + 1) + 43) ≤ _; omega) (by omega) (by omega) hlocks hXC hS.2.2 (by omega) (by omega)
  · exact vx_throwSW hx hb hl hown (EN_fit b) XNM_fit (hts _ hk) (hts _ hini) hstr hat' hgood hE1.1 hE1.2 hS hsz d0 d3 d4 d7 d10 (fun x hx9 => (htab x hx9).elim) (by show 2 + 3 < R.frames; omega) (by show _ + (13 * (2 + 1) + 43) ≤ _; omega) (by omega) (by omega) hlocks hXC hS.2.2 (by omega) (by omega)
end BODY
/-- which answer a method has -/
def retOK (zc : Nat) (ret : Option FieldType) : Prop := match zc with
  | 0 => ret = some .int
  | 1 => ret = some .boolean
  | 2 => ∃ n, ret = some (.object n)
  | _ => ret = none
theorem nar_ok {zc : Nat} {ret : Option FieldType} {v : Int32} (h : retOK zc ret) (hz : zc < 2) (hv : okZ zc v = true) : ∃ ty, ret = some ty ∧ narrow ty (.int v) = .int v := by
  rcases zc with _ | _ | zc
  · exact ⟨.int, h, rfl⟩
  · refine ⟨.boolean, h, ?_⟩
    simp only [okZ, Bool.or_eq_true, decide_eq_true_eq] at hv
    rcases hv with q | q <;> rw [q] <;> rfl
  · omega
set_option maxHeartbeats 4000000 in
theorem con_of {SL : List StrT} {l : Launch} {own : String} {y : MethodName} {cc : ByteArray} {maxL n zc fr lo : Nat} {ret : Option FieldType} {T : List (Nat × Ent)} {cl : List Fn} {sw : List (List Nat)} {cal : List (Nat × Nat × Nat × Nat × Nat)} {thw : List (Nat × Nat)}
    (hl : l.stackTraces = false) (hy : plainName y.cls = true) (hcls : y.cls = own) (hn : n ≤ maxL) (hret : retOK zc ret) (hchk : T.all (chkE own cc maxL zc sw cal none thw) = true)
    (hcal : ∀ R : Room, R.frames = fr → R.locals = lo → ∀ q ∈ cal, CallOK SL l R own (insC q) (q.2.2.2.1 / 4) q.2.2.2.2 (nthF cl q.2.2.1) 0 0)
    (hthw : ∀ q ∈ thw, ThrOK SL own cc q.1 q.2 ∧ 6 ≤ fr ∧ 90 ≤ lo) :
    Con SL l y (.code y cc maxL ret) (fun as h => gd (chkA n as) (exL SKc SKn SKr CS (lkp T) cl [] sw 0 (pad maxL as) [] h)) fr lo 0 0 := by
  intro base sb D dA vs h r hr
  obtain ⟨hA, hr⟩ := gd_inv hr
  obtain ⟨n9, hr⟩ := exL_to SKc SKn SKr CS (lkp T) cl [] sw hr
  refine vx_ofW hy rfl ?_
  intro p e s m args below meth c s₁ B hml htab hv
  obtain ⟨rfl, hbs, hW, hKn, hEx⟩ := hv
  have hts : ∀ w ∈ WG, w.before (vs.map (tr base sb)).toArray s = true := fun w hw => atoms_spec (ws := Jvm.Cond.code y cc maxL ret :: WG) B.pre w (List.mem_cons_of_mem _ hw)
  have hown : s.vm.findClass own = some m.cls := by rw [← hcls]; exact findClass_of_methodNamed B.named
  have hlocks := B.notSynchronized
  have G : Cx SL p s m (vs.map (tr base sb)).toArray c cc maxL own D dA := ⟨B.exec, B.bytes, hml, hown, hts, hKn, hEx⟩
  have hE1 : Ex1 (Ab base) s s.heap := hW.2.2.2
  have hrt := B.returns
  rw [lg_entry_eq]
  refine exN_snd (C := 0) (S := 0) (dc := 0) (ds := 0) (zc := zc) (cps := none) (thw := thw) (r := r) (hn := []) G hbs (Nat.zero_le _) (Nat.zero_le _) (fun pc q hq => List.all_eq_true.mp hchk _ (lkp_mem hq)) (hcal _ rfl rfl) ?_ n9 0 (pad maxL vs) [] h s.heap [] 0 0 _ hr (LR.entry hA hn) hW va_S.rf (Nat.zero_le _) (Nat.zero_le _)
  refine ⟨?_, ?_, ?_, ?_, ?_, ?_, ?_⟩
  · intro pc ls v g H locs cells slots hr9 hz hz2 hW9 hS9 hc hs hd
    subst hr9
    have c0 : cells = 0 := by omega
    have s0 : slots = 0 := by omega
    subst c0; subst s0
    obtain ⟨ty, h1, h2⟩ := nar_ok hret hz2 hz
    exact vx_ret (W.zret (ty := ty) B.exec B.bytes (by rw [hrt]; exact h1) h2 (fun t ht hWm => ⟨some (.int v), g, rfl, rfl, by rw [ht]; exact hW9.moved hWm.alike, hS9.F ht⟩) hS9.2.2 hd)
  · intro pc ls v g H locs cells slots hr9 hz hW9 hS9 hc hs hd
    subst hr9
    have c0 : cells = 0 := by omega
    have s0 : slots = 0 := by omega
    subst c0; subst s0; subst hz
    obtain ⟨nm, h1⟩ := hret
    exact vx_ret (W.aret (rt := .object nm) B.exec B.bytes (by rw [hrt]; exact h1) (Or.inl ⟨nm, rfl⟩) (Or.inr ⟨_, rfl⟩) (fun t ht hWm => ⟨some (.ref v), g, rfl, rfl, by rw [ht]; exact hW9.moved hWm.alike, hS9.F ht⟩) hS9.2.2 hd)
  · intro pc ls g H locs cells slots hr9 hz hW9 hS9 hc hs hd
    subst hr9
    have c0 : cells = 0 := by omega
    have s0 : slots = 0 := by omega
    subst c0; subst s0; subst hz
    have h1 : ret = none := hret
    exact vx_ret (W.vret B.exec B.bytes (by rw [hrt]; exact h1) (fun t ht hWm => ⟨none, g, rfl, rfl, by rw [ht]; exact hW9.moved hWm.alike, hS9.F ht⟩) hS9.2.2 hd)
  · intro pc b ls st g H locs cells slots hb9 hr9 hW9 hS9 hls hcat hc hs
    have c0 : cells = 0 := by omega
    have s0 : slots = 0 := by omega
    subst c0; subst s0
    obtain ⟨h1, h2, h3⟩ := hthw _ hb9
    subst hr9
    exact thr_W G hl hbs hE1 h1 rfl hW9 hS9 hls hcat htab hlocks h2 h3 (Nat.le_refl 1) (Nat.le_refl 6) (Nat.le_refl 1) (Nat.le_refl 6)
  · intro pc E cst ls st g H locs cells slots q ce h1
    cases h1
  · intro pc E ls st g H locs cells slots q ce h1 hr9 hW9 hS9 hc hs f1 f2 f3
    subst hr9
    exact vx_out (fun x hx => (htab x hx).elim) hlocks f1 f2 f3 (fun t ht hal => ⟨E, g, rfl, rfl, by rw [ht]; exact hW9.moved hal, hS9.F ht⟩) hS9.2.2 hc hs
  · intro h1
    rcases h1 with ⟨q, rfl⟩ | h1
    · exact ⟨Nat.le_refl 1, Nat.le_refl 6⟩
    · exact absurd rfl h1
