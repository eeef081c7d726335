section
-- ===== PART A: goes FIRST, ahead of the names: the tables' words, and 'selects' of the private methods out of them =====
/-- a private method of a class that the tables say can be made, by its rows of tables_1 -/
def lw_okq (q : MethodName × Nat) : Prop := (q.1.cls ≠ "java/lang/invoke/MethodHandle" ∧ q.1.cls ≠ "java/lang/invoke/VarHandle") ∧ Cond.instantiable q.1.cls q.2 ∈ tables_1 ∧ Cond.privateMethod q.1 ∈ tables_1 ∧ Cond.instanceMethod q.1 ∈ tables_1
theorem lw_p0 : lw_okq (⟨"SlotConference", "airportAt", "(I)LSlotConference$Airport;"⟩, 15) := ⟨⟨by decide +kernel, by decide +kernel⟩, List.mem_of_getElem? (i := 17) (by decide +kernel), List.mem_of_getElem? (i := 302) (by decide +kernel), List.mem_of_getElem? (i := 303) (by decide +kernel)⟩
theorem lw_p1 : lw_okq (⟨"java/lang/Throwable", "fillInStackTrace", "(I)Ljava/lang/Throwable;"⟩, 6) := ⟨⟨by decide +kernel, by decide +kernel⟩, List.mem_of_getElem? (i := 344) (by decide +kernel), List.mem_of_getElem? (i := 342) (by decide +kernel), List.mem_of_getElem? (i := 343) (by decide +kernel)⟩
theorem lw_p2 : lw_okq (⟨"SlotConference", "noiseByNight", "(I)I"⟩, 15) := ⟨⟨by decide +kernel, by decide +kernel⟩, List.mem_of_getElem? (i := 17) (by decide +kernel), List.mem_of_getElem? (i := 374) (by decide +kernel), List.mem_of_getElem? (i := 375) (by decide +kernel)⟩
theorem lw_p3 : lw_okq (⟨"SlotConference", "seriesAt", "(I)LSlotConference$Series;"⟩, 15) := ⟨⟨by decide +kernel, by decide +kernel⟩, List.mem_of_getElem? (i := 17) (by decide +kernel), List.mem_of_getElem? (i := 378) (by decide +kernel), List.mem_of_getElem? (i := 379) (by decide +kernel)⟩
theorem lw_p4 : lw_okq (⟨"SlotConference", "groupAt", "(I)I"⟩, 15) := ⟨⟨by decide +kernel, by decide +kernel⟩, List.mem_of_getElem? (i := 17) (by decide +kernel), List.mem_of_getElem? (i := 407) (by decide +kernel), List.mem_of_getElem? (i := 408) (by decide +kernel)⟩
theorem lw_p5 : lw_okq (⟨"SlotConference", "isGroupNew", "(II)Z"⟩, 15) := ⟨⟨by decide +kernel, by decide +kernel⟩, List.mem_of_getElem? (i := 17) (by decide +kernel), List.mem_of_getElem? (i := 412) (by decide +kernel), List.mem_of_getElem? (i := 413) (by decide +kernel)⟩
theorem lw_p6 : lw_okq (⟨"SlotConference", "rightAt", "(I)LSlotConference$Right;"⟩, 15) := ⟨⟨by decide +kernel, by decide +kernel⟩, List.mem_of_getElem? (i := 17) (by decide +kernel), List.mem_of_getElem? (i := 416) (by decide +kernel), List.mem_of_getElem? (i := 417) (by decide +kernel)⟩
theorem lw_p7 : lw_okq (⟨"SlotConference", "requestsThatAre", "(I)I"⟩, 15) := ⟨⟨by decide +kernel, by decide +kernel⟩, List.mem_of_getElem? (i := 17) (by decide +kernel), List.mem_of_getElem? (i := 425) (by decide +kernel), List.mem_of_getElem? (i := 426) (by decide +kernel)⟩
theorem lw_p8 : lw_okq (⟨"SlotConference", "requestAt", "(I)LSlotConference$Request;"⟩, 15) := ⟨⟨by decide +kernel, by decide +kernel⟩, List.mem_of_getElem? (i := 17) (by decide +kernel), List.mem_of_getElem? (i := 429) (by decide +kernel), List.mem_of_getElem? (i := 430) (by decide +kernel)⟩
theorem lw_p9 : lw_okq (⟨"SlotConference", "seriesThatAreGone", "()I"⟩, 15) := ⟨⟨by decide +kernel, by decide +kernel⟩, List.mem_of_getElem? (i := 17) (by decide +kernel), List.mem_of_getElem? (i := 434) (by decide +kernel), List.mem_of_getElem? (i := 435) (by decide +kernel)⟩
theorem lw_p10 : lw_okq (⟨"SlotConference", "sortAllAsked", "()V"⟩, 15) := ⟨⟨by decide +kernel, by decide +kernel⟩, List.mem_of_getElem? (i := 17) (by decide +kernel), List.mem_of_getElem? (i := 506) (by decide +kernel), List.mem_of_getElem? (i := 507) (by decide +kernel)⟩
theorem lw_p11 : lw_okq (⟨"SlotConference", "sortNow", "(LSlotConference$Request;)I"⟩, 15) := ⟨⟨by decide +kernel, by decide +kernel⟩, List.mem_of_getElem? (i := 17) (by decide +kernel), List.mem_of_getElem? (i := 510) (by decide +kernel), List.mem_of_getElem? (i := 511) (by decide +kernel)⟩
theorem lw_p12 : lw_okq (⟨"SlotConference", "putAskedInOrder", "()I"⟩, 15) := ⟨⟨by decide +kernel, by decide +kernel⟩, List.mem_of_getElem? (i := 17) (by decide +kernel), List.mem_of_getElem? (i := 520) (by decide +kernel), List.mem_of_getElem? (i := 521) (by decide +kernel)⟩
theorem lw_p13 : lw_okq (⟨"SlotConference", "addAskedOf", "(I[II)I"⟩, 15) := ⟨⟨by decide +kernel, by decide +kernel⟩, List.mem_of_getElem? (i := 17) (by decide +kernel), List.mem_of_getElem? (i := 524) (by decide +kernel), List.mem_of_getElem? (i := 525) (by decide +kernel)⟩
theorem lw_p14 : lw_okq (⟨"SlotConference", "insertByWeeks", "(I[III)V"⟩, 15) := ⟨⟨by decide +kernel, by decide +kernel⟩, List.mem_of_getElem? (i := 17) (by decide +kernel), List.mem_of_getElem? (i := 528) (by decide +kernel), List.mem_of_getElem? (i := 529) (by decide +kernel)⟩
theorem lw_p15 : lw_okq (⟨"SlotConference", "decideAlone", "(I)I"⟩, 15) := ⟨⟨by decide +kernel, by decide +kernel⟩, List.mem_of_getElem? (i := 17) (by decide +kernel), List.mem_of_getElem? (i := 536) (by decide +kernel), List.mem_of_getElem? (i := 537) (by decide +kernel)⟩
def lw_privs_1 : List (MethodName × Nat) := [(⟨"SlotConference", "airportAt", "(I)LSlotConference$Airport;"⟩, 15), (⟨"java/lang/Throwable", "fillInStackTrace", "(I)Ljava/lang/Throwable;"⟩, 6), (⟨"SlotConference", "noiseByNight", "(I)I"⟩, 15), (⟨"SlotConference", "seriesAt", "(I)LSlotConference$Series;"⟩, 15), (⟨"SlotConference", "groupAt", "(I)I"⟩, 15), (⟨"SlotConference", "isGroupNew", "(II)Z"⟩, 15), (⟨"SlotConference", "rightAt", "(I)LSlotConference$Right;"⟩, 15), (⟨"SlotConference", "requestsThatAre", "(I)I"⟩, 15), (⟨"SlotConference", "requestAt", "(I)LSlotConference$Request;"⟩, 15), (⟨"SlotConference", "seriesThatAreGone", "()I"⟩, 15), (⟨"SlotConference", "sortAllAsked", "()V"⟩, 15), (⟨"SlotConference", "sortNow", "(LSlotConference$Request;)I"⟩, 15), (⟨"SlotConference", "putAskedInOrder", "()I"⟩, 15), (⟨"SlotConference", "addAskedOf", "(I[II)I"⟩, 15), (⟨"SlotConference", "insertByWeeks", "(I[III)V"⟩, 15), (⟨"SlotConference", "decideAlone", "(I)I"⟩, 15)]
theorem lw_r1 : ∀ q ∈ lw_privs_1, lw_okq q := List.forall_mem_cons.mpr ⟨lw_p0, List.forall_mem_cons.mpr ⟨lw_p1, List.forall_mem_cons.mpr ⟨lw_p2, List.forall_mem_cons.mpr ⟨lw_p3, List.forall_mem_cons.mpr ⟨lw_p4, List.forall_mem_cons.mpr ⟨lw_p5, List.forall_mem_cons.mpr ⟨lw_p6, List.forall_mem_cons.mpr ⟨lw_p7, List.forall_mem_cons.mpr ⟨lw_p8, List.forall_mem_cons.mpr ⟨lw_p9, List.forall_mem_cons.mpr ⟨lw_p10, List.forall_mem_cons.mpr ⟨lw_p11, List.forall_mem_cons.mpr ⟨lw_p12, List.forall_mem_cons.mpr ⟨lw_p13, List.forall_mem_cons.mpr ⟨lw_p14, List.forall_mem_cons.mpr ⟨lw_p15, fun _ h => absurd h List.not_mem_nil⟩⟩⟩⟩⟩⟩⟩⟩⟩⟩⟩⟩⟩⟩⟩⟩
theorem lw_p16 : lw_okq (⟨"SlotConference", "giveIfItFits", "(I)Z"⟩, 15) := ⟨⟨by decide +kernel, by decide +kernel⟩, List.mem_of_getElem? (i := 17) (by decide +kernel), List.mem_of_getElem? (i := 540) (by decide +kernel), List.mem_of_getElem? (i := 541) (by decide +kernel)⟩
theorem lw_p17 : lw_okq (⟨"SlotConference", "reasonAgainst", "(LSlotConference$Slot;I)I"⟩, 15) := ⟨⟨by decide +kernel, by decide +kernel⟩, List.mem_of_getElem? (i := 17) (by decide +kernel), List.mem_of_getElem? (i := 544) (by decide +kernel), List.mem_of_getElem? (i := 545) (by decide +kernel)⟩
theorem lw_p18 : lw_okq (⟨"SlotConference", "wouldBreak", "(LSlotConference$Rule;LSlotConference$Slot;I)Z"⟩, 15) := ⟨⟨by decide +kernel, by decide +kernel⟩, List.mem_of_getElem? (i := 17) (by decide +kernel), List.mem_of_getElem? (i := 553) (by decide +kernel), List.mem_of_getElem? (i := 554) (by decide +kernel)⟩
theorem lw_p19 : lw_okq (⟨"SlotConference", "isWindowFull", "(LSlotConference$Rule;ILSlotConference$Slot;)Z"⟩, 15) := ⟨⟨by decide +kernel, by decide +kernel⟩, List.mem_of_getElem? (i := 17) (by decide +kernel), List.mem_of_getElem? (i := 567) (by decide +kernel), List.mem_of_getElem? (i := 568) (by decide +kernel)⟩
theorem lw_p20 : lw_okq (⟨"SlotConference", "give", "(II)V"⟩, 15) := ⟨⟨by decide +kernel, by decide +kernel⟩, List.mem_of_getElem? (i := 17) (by decide +kernel), List.mem_of_getElem? (i := 586) (by decide +kernel), List.mem_of_getElem? (i := 587) (by decide +kernel)⟩
theorem lw_p21 : lw_okq (⟨"SlotConference", "timeToOffer", "(LSlotConference$Request;)I"⟩, 15) := ⟨⟨by decide +kernel, by decide +kernel⟩, List.mem_of_getElem? (i := 17) (by decide +kernel), List.mem_of_getElem? (i := 600) (by decide +kernel), List.mem_of_getElem? (i := 601) (by decide +kernel)⟩
theorem lw_p22 : lw_okq (⟨"SlotConference", "putInQueue", "(I)V"⟩, 15) := ⟨⟨by decide +kernel, by decide +kernel⟩, List.mem_of_getElem? (i := 17) (by decide +kernel), List.mem_of_getElem? (i := 604) (by decide +kernel), List.mem_of_getElem? (i := 605) (by decide +kernel)⟩
theorem lw_p23 : lw_okq (⟨"SlotConference", "decidePair", "(II)I"⟩, 15) := ⟨⟨by decide +kernel, by decide +kernel⟩, List.mem_of_getElem? (i := 17) (by decide +kernel), List.mem_of_getElem? (i := 608) (by decide +kernel), List.mem_of_getElem? (i := 609) (by decide +kernel)⟩
theorem lw_p24 : lw_okq (⟨"SlotConference", "takeLatestSeriesBack", "()V"⟩, 15) := ⟨⟨by decide +kernel, by decide +kernel⟩, List.mem_of_getElem? (i := 17) (by decide +kernel), List.mem_of_getElem? (i := 612) (by decide +kernel), List.mem_of_getElem? (i := 613) (by decide +kernel)⟩
theorem lw_p25 : lw_okq (⟨"SlotConference", "serveQueueAt", "(I)I"⟩, 15) := ⟨⟨by decide +kernel, by decide +kernel⟩, List.mem_of_getElem? (i := 17) (by decide +kernel), List.mem_of_getElem? (i := 626) (by decide +kernel), List.mem_of_getElem? (i := 627) (by decide +kernel)⟩
theorem lw_p26 : lw_okq (⟨"SlotConference", "turnSeriesIntoRights", "()I"⟩, 15) := ⟨⟨by decide +kernel, by decide +kernel⟩, List.mem_of_getElem? (i := 17) (by decide +kernel), List.mem_of_getElem? (i := 660) (by decide +kernel), List.mem_of_getElem? (i := 661) (by decide +kernel)⟩
theorem lw_p27 : lw_okq (⟨"SlotConference", "earnsRight", "(LSlotConference$Series;)Z"⟩, 15) := ⟨⟨by decide +kernel, by decide +kernel⟩, List.mem_of_getElem? (i := 17) (by decide +kernel), List.mem_of_getElem? (i := 664) (by decide +kernel), List.mem_of_getElem? (i := 665) (by decide +kernel)⟩
theorem lw_p28 : lw_okq (⟨"SlotConference", "weeksUsed", "(LSlotConference$Series;)I"⟩, 15) := ⟨⟨by decide +kernel, by decide +kernel⟩, List.mem_of_getElem? (i := 17) (by decide +kernel), List.mem_of_getElem? (i := 671) (by decide +kernel), List.mem_of_getElem? (i := 672) (by decide +kernel)⟩
theorem lw_p29 : lw_okq (⟨"SlotConference", "slotsBetween", "(IIIIII)I"⟩, 15) := ⟨⟨by decide +kernel, by decide +kernel⟩, List.mem_of_getElem? (i := 17) (by decide +kernel), List.mem_of_getElem? (i := 762) (by decide +kernel), List.mem_of_getElem? (i := 763) (by decide +kernel)⟩
def lw_privs_2 : List (MethodName × Nat) := [(⟨"SlotConference", "giveIfItFits", "(I)Z"⟩, 15), (⟨"SlotConference", "reasonAgainst", "(LSlotConference$Slot;I)I"⟩, 15), (⟨"SlotConference", "wouldBreak", "(LSlotConference$Rule;LSlotConference$Slot;I)Z"⟩, 15), (⟨"SlotConference", "isWindowFull", "(LSlotConference$Rule;ILSlotConference$Slot;)Z"⟩, 15), (⟨"SlotConference", "give", "(II)V"⟩, 15), (⟨"SlotConference", "timeToOffer", "(LSlotConference$Request;)I"⟩, 15), (⟨"SlotConference", "putInQueue", "(I)V"⟩, 15), (⟨"SlotConference", "decidePair", "(II)I"⟩, 15), (⟨"SlotConference", "takeLatestSeriesBack", "()V"⟩, 15), (⟨"SlotConference", "serveQueueAt", "(I)I"⟩, 15), (⟨"SlotConference", "turnSeriesIntoRights", "()I"⟩, 15), (⟨"SlotConference", "earnsRight", "(LSlotConference$Series;)Z"⟩, 15), (⟨"SlotConference", "weeksUsed", "(LSlotConference$Series;)I"⟩, 15), (⟨"SlotConference", "slotsBetween", "(IIIIII)I"⟩, 15)]
theorem lw_r2 : ∀ q ∈ lw_privs_2, lw_okq q := List.forall_mem_cons.mpr ⟨lw_p16, List.forall_mem_cons.mpr ⟨lw_p17, List.forall_mem_cons.mpr ⟨lw_p18, List.forall_mem_cons.mpr ⟨lw_p19, List.forall_mem_cons.mpr ⟨lw_p20, List.forall_mem_cons.mpr ⟨lw_p21, List.forall_mem_cons.mpr ⟨lw_p22, List.forall_mem_cons.mpr ⟨lw_p23, List.forall_mem_cons.mpr ⟨lw_p24, List.forall_mem_cons.mpr ⟨lw_p25, List.forall_mem_cons.mpr ⟨lw_p26, List.forall_mem_cons.mpr ⟨lw_p27, List.forall_mem_cons.mpr ⟨lw_p28, List.forall_mem_cons.mpr ⟨lw_p29, fun _ h => absurd h List.not_mem_nil⟩⟩⟩⟩⟩⟩⟩⟩⟩⟩⟩⟩⟩⟩
def lw_privs : List (MethodName × Nat) := lw_privs_1 ++ (lw_privs_2)
def lw_tbl : List Cond := k2_sels lw_privs ++ tables_1
theorem lw_privs_ok : ∀ q ∈ lw_privs, lw_okq q := by
  show ∀ q ∈ lw_privs_1 ++ (lw_privs_2), lw_okq q
  exact List.forall_mem_append.mpr ⟨lw_r1, lw_r2⟩
-- ===== end of PART A; then your names; then what follows =====
/-! ===== BEGIN words of one list among another's, by their places ===== -/
theorem goodIn_r {big : List Cond} (ws : List Cond) (ps : List Nat) (hp : ws = ps.filterMap (fun i => big[i]?)) (h : ws.all goodWord = true) : GoodIn big ws := by
  intro w hw
  have h1 := List.all_eq_true.mp h w hw
  rw [hp] at hw
  obtain ⟨i, -, hi⟩ := List.mem_filterMap.mp hw
  have hm : w ∈ big := by first | exact List.mem_of_getElem? hi | exact List.getElem?_mem hi
  exact ⟨hm, good_of_word h1⟩
theorem goodIn_app {big a b : List Cond} (ha : GoodIn big a) (hb : GoodIn big b) : GoodIn big (a ++ b) := fun w h => (List.mem_append.mp h).elim (ha w) (hb w)
theorem goodIn_ca {big a b : List Cond} {c : Cond} (ha : GoodIn big (c :: a)) (hb : GoodIn big b) : GoodIn big (c :: (a ++ b)) := fun w h => (List.mem_cons.mp h).elim (fun e => ha w (List.mem_cons.mpr (Or.inl e))) (fun h => (List.mem_append.mp h).elim (fun h => ha w (List.mem_cons.mpr (Or.inr h))) (hb w))
theorem goodIn_sub {big ws : List Cond} (hm : ∀ w ∈ ws, w ∈ big) (h : ws.all goodWord = true) : GoodIn big ws := fun w hw => ⟨hm w hw, good_of_word (List.all_eq_true.mp h w hw)⟩
/-! ===== END ===== -/

/-! ===== BEGIN exceptions that leave a method, and their catching by the caller (launches without stack traces) ===== -/
section VXA
/-! The laws vx_back, vx_callV, vx_callS, vx_callSW, vx_throw0, vx_throwS follow proofs of the library, with one case more: JvmDerived/Free/Laws.lean (Back.of_free), Shelf42/LK1.lean (callV, callS), Shelf/KitTraced.lean (throwNew0V, throwNewS). -/
/-- where a method has thrown q: the class by its name, the cell, what was written, the world -/
def vx_T (XC : String → State → State → Prop) (st : State) (q : Addr) (t : State) (mc ms : Nat) (free : Addr → Prop) : Prop :=
  ∃ (E : String) (ce : Cell) (L : List Loc), XC E st t ∧ t.heap[q]? = some ce ∧ ce.vm = .none ∧ st.vm.findClass E = some ce.cls ∧ st.WarmedH t.vm ∧ st.sameButNew ({ t with vm := st.vm } : State) L mc ms ∧ ∀ z ∈ L, free z.base
def vx_Q (Qc : Array Value → State → Outcome → State → Prop) (XC : String → State → State → Prop) (mc ms : Nat) (free : Addr → Prop) : Array Value → State → Outcome → State → Prop := fun a st o t =>
  (Qc a st o t ∧ ∃ L, FrameEnd st o t L mc ms ∧ ∀ q ∈ L, free q.base) ∨ ∃ q, o = .threw q ∧ vx_T XC st q t mc ms free
/-- a callee that returns or throws -/
def vx_Met (l : Launch) (y : MethodName) (ws : List Cond) (rm : Room) (Pc : Array Value → State → Prop) (Qc : Array Value → State → Outcome → State → Prop) (XC : String → State → State → Prop) (mc ms : Nat) (free : Addr → Prop) : Prop :=
  MetFree l y (headSpec ws rm) Pc (fun _ _ _ _ _ => True) (vx_Q Qc XC mc ms free)
def vx_Post (XC : String → State → State → Prop) (mc ms : Nat) (free : Addr → Prop) : Pt → Array Value → Addr → Pt → Prop := fun A a q B =>
  ∃ (g : JFrame) (mk : MethodId) (t : State) (L : List Loc) (E : String) (ce : Cell), B.U.heap = t.heap ∧ B.U.vm = t.vm ∧ XC E (A.U.calling g mk a) t ∧ t.heap[q]? = some ce ∧ ce.vm = .none ∧ A.U.vm.findClass E = some ce.cls ∧ B.locs = A.locs ++ L ∧ (∀ z ∈ L, free z.base) ∧ B.cells = A.cells + mc ∧ B.slots = A.slots + ms
def vx_Back (l : Launch) (R : Room) (p : Program) (e : Env) (below : List Frame) (s : State) (sargs : Array Value) (y : MethodName) (len W9 : Nat)
    (Pre : Pt → Array Value → Prop) (Post : Pt → Array Value → Option Value → Pt → Prop) (PostX : Pt → Array Value → Addr → Pt → Prop) : Prop :=
  ∀ (m : MethodId) (meth : Method) (c : Code) (A : Pt) (g : JFrame) (ig : Instr) (mk : MethodId) (a : Array Value),
    Stand p l e R s m sargs below meth c A.U A.locs A.cells A.slots → g.method = m → g.locals.size = c.maxLocals → decode c.code g.pc = .ok (ig, len) →
    2 * g.monitorRoom + (g.stack.map fun v => v.category).sum ≤ W9 → A.U.methodNamed? y = some mk → Pre A a →
    (∃ (v : Option Value) (B : Pt), Stand p l e R s m sargs below meth c B.U B.locs B.cells B.slots ∧ Post A a v B ∧
      Steps p.tables e below (doInvoke e (A.U.setTop g) [] mk a).1 (B.U.setTop { g with pc := g.pc + len, stack := v.toList ++ g.stack })) ∨
    (∃ (q : Addr) (B : Pt), Stand p l e R s m sargs below meth c B.U B.locs B.cells B.slots ∧ PostX A a q B ∧
      Steps p.tables e below (doInvoke e (A.U.setTop g) [] mk a).1 ((B.U.setTop g).pushFrame (.throwing q)))
section Payer
variable {l : Launch} {R : Room} {p : Program} {e : Env} {below : List Frame} {s : State} {sargs : Array Value} {y : MethodName} {len W9 : Nat}
theorem vx_back {ws : List Cond} {rm : Room} {Pc : Array Value → State → Prop} {Qc : Array Value → State → Outcome → State → Prop} {XC : String → State → State → Prop} {mc ms : Nat} {free : Addr → Prop} {bytes : ByteArray} {maxL : Nat} {ret : Option FieldType}
    (hM : vx_Met l y ws rm Pc Qc XC mc ms free) (hblind : FrameBlind Pc) (hrc : rm.cells = mc) (hrs : rm.slots = ms)
    (hframes : rm.frames + 1 ≤ R.frames) (hlocals : W9 + (maxL + 11) + rm.locals ≤ R.locals)
    (hws : ∀ w ∈ ws, ∀ a' U, s.WarmedH U.vm → w.before a' U = true) (hcode : Cond.code y bytes maxL ret ∈ ws) (hinit : ∀ a' U, s.WarmedH U.vm → (Cond.initialized y.cls).before a' U = true) :
    vx_Back l R p e below s sargs y len W9 (PreOf R mc ms Pc) (PostOf Qc mc ms free) (vx_Post XC mc ms free) := by
  intro m meth c A g ig mk a X hg hsize hdg hW hn hp
  have h1 : (headSpec ws rm).pre.before a A.U = true := atoms_intro fun w hw => hws w hw _ _ X.warmed
  have h2 : (Cond.code y bytes maxL ret).before a A.U = true := hws _ hcode _ _ X.warmed
  have h3 : (Cond.initialized y.cls).before a A.U = true := hinit _ _ X.warmed
  have h4 : A.cells + (headSpec ws rm).room.cells ≤ R.cells := by rw [show (headSpec ws rm).room.cells = mc from hrc]; exact hp.1
  have h5 : A.slots + (headSpec ws rm).room.slots ≤ R.slots := by rw [show (headSpec ws rm).room.slots = ms from hrs]; exact hp.2.1
  have hPc : Pc a (A.U.calling g mk a) := hblind _ _ _ _ hp.2.2
  obtain ⟨U, Ls, c0, s0⟩ := A
  dsimp only [Pt.U, Pt.locs, Pt.cells, Pt.slots] at h1 h2 h3 h4 h5 X hn hPc ⊢
  obtain ⟨methY, cY, hmY, hcY, -, hlY, -, -, -, -⟩ := Cond.code_spec hn h2
  obtain ⟨kY, hkY, -⟩ := className_of_methodNamed hn
  have hinitY : kY.init = .initialized := Cond.initialized_spec (findClass_of_methodNamed hn) hkY h3
  have h : At U g.method c below := by rw [hg]; exact X.here
  have hlocals9 : W9 + (maxL + 11) + (headSpec ws rm).room.locals ≤ R.locals := hlocals
  have happ : (headSpec ws rm).appliesLoose y e.platform (U.calling g mk a) = true :=
    Spec.appliesLoose_calling (g := g) h hdg hn hkY hinitY
      (X.room_calling (g := g) (R' := (headSpec ws rm).room) hsize hmY hcY hframes (by rw [hlY]; omega) h4 h5) h1
  obtain ⟨mid, hmid⟩ := h.above
  have hfr : (U.setTop g).frames = (.java g :: mid) ++ below := by rw [State.frames_setTop' g h.top, hmid]; rfl
  obtain ⟨o, s₂, hsteps, -, hend, hq⟩ := Steps.callFree hM p X.admits X.cas X.clock (acts := []) hfr happ hPc trivial
  have hq' : vx_Q Qc XC mc ms free a (U.calling g mk a) o s₂ := hq
  rw [State.frames_setTop' g h.top] at hend
  obtain ⟨g₀, hg0⟩ := Option.isSome_iff_exists.mp h.top
  obtain ⟨r, hr⟩ := State.topJava?_eq_some.mp hg0
  have hr' : (({ U with heap := s₂.heap, slotsUsed := s₂.slotsUsed } : State).setVm s₂.vm).frames = .java g₀ :: r := hr
  rcases hq' with ⟨hqc, L, hfe, hL⟩ | ⟨q, rfl, E, ce, L, hx, hce, hcv, hcl, hW₂, hsm, hL⟩
  · obtain ⟨⟨v, rfl⟩, hW₂, e2, q2, q3, q4, q5, q6⟩ := id hfe
    have e3 : s₂ = ({ (U.calling g mk a).setFrames s₂.frames with heap := s₂.heap, slotsUsed := s₂.slotsUsed } : State).setVm s₂.vm := by
      have : s₂ = ({ s₂ with vm := (U.calling g mk a).vm } : State).setVm s₂.vm := rfl
      rw [e2] at this
      exact this
    obtain ⟨c₂, i₂, len₂, hc₂, hd₂, hf₂⟩ := hend
    have hW' : U.WarmedH s₂.vm := hW₂
    have hcc : c₂ = c := by
      have h1 : s₂.code? g.method = U.code? g.method := by
        rw [State.code?_eq, State.code?_eq, hW'.alike.method?]
      exact Option.some.inj (hc₂.symm.trans (h1.trans h.code))
    subst hcc
    have hlen : len₂ = len := by rw [hdg] at hd₂; cases hd₂; rfl
    subst hlen
    have hs₂ : s₂ = (({ U with heap := s₂.heap, slotsUsed := s₂.slotsUsed } : State).setVm s₂.vm).setTop { g with pc := g.pc + len₂, stack := v.toList ++ g.stack } := by
      refine e3.trans ?_
      rw [hf₂, State.calling_eq h.top, State.setFrames_setFrames, State.setTop_of_frames _ hr', hr]
      rfl
    have hsame : U.sameButNew ({ U with heap := s₂.heap, slotsUsed := s₂.slotsUsed } : State) L mc ms := by
      refine ⟨?_, q2, q3, q4, q5, q6⟩
      obtain ⟨t, ht, -⟩ := State.frames_cons hr
      show ({ U with heap := s₂.heap, slotsUsed := s₂.slotsUsed } : State) = { U.setFrames U.frames with heap := s₂.heap, slotsUsed := s₂.slotsUsed }
      rw [State.setFrames_self ht]
    subst hg
    refine Or.inl ⟨v, ⟨(({ U with heap := s₂.heap, slotsUsed := s₂.slotsUsed } : State).setVm s₂.vm), Ls ++ L, c0 + mc, s0 + ms⟩,
      ⟨X.admits, X.cas, X.clock, X.frames, X.room, X.hears, X.method, X.code, (X.here.setHeapUsed s₂.heap s₂.slotsUsed).setVm hW'.alike, X.tail, State.WarmedH.trans X.warmed hW', X.limits, X.bytes, X.same.trans (hsame.setVm s.vm)⟩,
      ⟨g, mk, s₂, L, rfl, rfl, hqc, rfl, hL, rfl, rfl⟩, ?_⟩
    show Steps p.tables e below _ ((({ U with heap := s₂.heap, slotsUsed := s₂.slotsUsed } : State).setVm s₂.vm).setTop { g with pc := g.pc + len₂, stack := v.toList ++ g.stack })
    rw [← hs₂]
    exact hsteps
  · obtain ⟨e2, q2, q3, q4, q5, q6⟩ := id hsm
    have e3 : s₂ = ({ (U.calling g mk a).setFrames s₂.frames with heap := s₂.heap, slotsUsed := s₂.slotsUsed } : State).setVm s₂.vm := by
      have : s₂ = ({ s₂ with vm := (U.calling g mk a).vm } : State).setVm s₂.vm := rfl
      rw [e2] at this
      exact this
    have hf₂ : s₂.frames = .throwing q :: .java g :: U.frames.tail := hend
    have hW' : U.WarmedH s₂.vm := hW₂
    have hs₂ : s₂ = ((({ U with heap := s₂.heap, slotsUsed := s₂.slotsUsed } : State).setVm s₂.vm).setTop g).pushFrame (.throwing q) := by
      refine e3.trans ?_
      rw [hf₂, State.calling_eq h.top, State.setFrames_setFrames, State.pushFrame, State.frames_setTop _ hr', State.setTop_of_frames _ hr', State.setFrames_setFrames, hr]
      rfl
    have hsame : U.sameButNew ({ U with heap := s₂.heap, slotsUsed := s₂.slotsUsed } : State) L mc ms := by
      refine ⟨?_, q2, q3, q4, q5, q6⟩
      obtain ⟨t, ht, -⟩ := State.frames_cons hr
      show ({ U with heap := s₂.heap, slotsUsed := s₂.slotsUsed } : State) = { U.setFrames U.frames with heap := s₂.heap, slotsUsed := s₂.slotsUsed }
      rw [State.setFrames_self ht]
    subst hg
    refine Or.inr ⟨q, ⟨(({ U with heap := s₂.heap, slotsUsed := s₂.slotsUsed } : State).setVm s₂.vm), Ls ++ L, c0 + mc, s0 + ms⟩,
      ⟨X.admits, X.cas, X.clock, X.frames, X.room, X.hears, X.method, X.code, (X.here.setHeapUsed s₂.heap s₂.slotsUsed).setVm hW'.alike, X.tail, State.WarmedH.trans X.warmed hW', X.limits, X.bytes, X.same.trans (hsame.setVm s.vm)⟩,
      ⟨g, mk, s₂, L, E, ce, rfl, rfl, hx, hce, hcv, hcl, rfl, hL, rfl, rfl⟩, ?_⟩
    show Steps p.tables e below _ (((({ U with heap := s₂.heap, slotsUsed := s₂.slotsUsed } : State).setVm s₂.vm).setTop g).pushFrame (.throwing q))
    rw [← hs₂]
    exact hsteps
end Payer
section Calls
variable {p : Program} {l : Launch} {e : Env} {R : Room} {s : State} {m : MethodId} {args : Array Value} {below : List Frame} {meth : Method} {c : Code} {T : State} {locs : List Loc} {cells slots : Nat}
theorem vx_callV (X : Stand p l e R s m args below meth c T locs cells slots) (hexec : p.tables.exec = Jvm.exec) {own C : String} {index : Nat} {y : MethodName} {bytes : ByteArray} {maxL : Nat} {ret : Option FieldType}
    (hown : s.vm.findClass own = some m.cls) (hlink : (Cond.methodLink own index y).before args s = true) (hinst : (Cond.instanceMethod y).before args s = true) (hsel : (Cond.selects C y y).before args s = true)
    (hcode : (Cond.code y bytes maxL ret).before args s = true) (hy : y.cls ≠ "java/lang/invoke/MethodHandle" ∧ y.cls ≠ "java/lang/invoke/VarHandle")
    {W9 : Nat} {Pre : Pt → Array Value → Prop} {Post : Pt → Array Value → Option Value → Pt → Prop} {PostX : Pt → Array Value → Addr → Pt → Prop} (hK : vx_Back l R p e below s args y 3 W9 Pre Post PostX)
    {b : Addr} {cellB : Cell} (hcell : T.heap[b]? = some cellB) (hobj : cellB.vm.isStatics = false) (hcls : s.vm.findClass C = some cellB.cls)
    {g : JFrame} (hg : g.method = m) (hsize : g.locals.size = c.maxLocals) {argsL rest : List Value} (hlen : ∀ sig, parseMethodDescriptor y.desc = some sig → argsL.length = sig.parameters.length)
    (hstack : g.stack = argsL.reverse ++ .ref b :: rest) (hW : 2 * g.monitorRoom + (rest.map fun v => v.category).sum ≤ W9) (hdg : decode c.code g.pc = .ok (.invokevirtual index, 3))
    (hpre : ∀ vm₁, s.WarmedH vm₁ → Pre ⟨T.setVm vm₁, locs, cells, slots⟩ (Value.ref b :: argsL).toArray) :
    (∃ (v : Option Value) (vm₁ : Vm) (B : Pt), s.WarmedH vm₁ ∧ Stand p l e R s m args below meth c B.U B.locs B.cells B.slots ∧ Post ⟨T.setVm vm₁, locs, cells, slots⟩ (Value.ref b :: argsL).toArray v B ∧
      ∀ target, Steps p.tables e below (B.U.setTop { g with pc := g.pc + 3, stack := v.toList ++ rest }) target → Steps p.tables e below (T.setTop g) target) ∨
    (∃ (q : Addr) (vm₁ : Vm) (B : Pt), s.WarmedH vm₁ ∧ Stand p l e R s m args below meth c B.U B.locs B.cells B.slots ∧ PostX ⟨T.setVm vm₁, locs, cells, slots⟩ (Value.ref b :: argsL).toArray q B ∧
      Steps p.tables e below (T.setTop g) ((B.U.setTop { g with stack := rest }).pushFrame (.throwing q))) := by
  obtain ⟨mk, methM, hnamed, hmethM, hstM, habM⟩ := Cond.instanceMethod_spec hinst
  obtain ⟨methM', cM, hmethM', -, -, -, -, -, -, hsigM⟩ := Cond.code_spec hnamed hcode
  cases hmethM.symm.trans hmethM'
  obtain ⟨c2, r2, m2, q1, q2, q3, q4, kP, hkP, hkPi⟩ := Cond.selects_spec hsel
  cases hcls.symm.trans q1
  cases (State.methodFound?_of_named hnamed hy).symm.trans q2
  cases hnamed.symm.trans q3
  have hselP : selectMethod e.platform s.vm cellB.cls mk = .method mk := by rw [Launch.admits_selectMethod X.admits]; exact q4
  obtain ⟨vm₁, X₁, hstep₁⟩ := X.invokevirtual hexec hown hlink hnamed hmethM hstM hkP hkPi hy (a := b) (cell := cellB) hcell
    (fun z h => by rw [h] at hobj; cases hobj) hselP hmethM habM hkP hkPi (g := g) hg (argsL := argsL) (rest := rest) (hlen _ hsigM) hstack hdg
  rcases hK m meth c ⟨T.setVm vm₁, locs, cells, slots⟩ { g with stack := rest } (.invokevirtual index) mk (Value.ref b :: argsL).toArray X₁ hg hsize hdg hW (X₁.named hnamed) (hpre vm₁ X₁.warmed) with ⟨v, B, X', hpost, hsteps⟩ | ⟨q, B, X', hpost, hsteps⟩
  · exact Or.inl ⟨v, vm₁, B, X₁.warmed, X', hpost, fun target h => hstep₁ _ fun acts => by rw [doInvoke_state]; exact hsteps.trans h⟩
  · exact Or.inr ⟨q, vm₁, B, X₁.warmed, X', hpost, hstep₁ _ fun acts => by rw [doInvoke_state]; exact hsteps⟩
theorem vx_callS (X : Stand p l e R s m args below meth c T locs cells slots) (hexec : p.tables.exec = Jvm.exec) {own : String} {index : Nat} {y : MethodName} {bytes : ByteArray} {maxL : Nat} {ret : Option FieldType}
    (hown : s.vm.findClass own = some m.cls) (hlink : (Cond.methodLink own index y).before args s = true) (hstat : (Cond.static y).before args s = true) (hinit : (Cond.initialized y.cls).before args s = true)
    (hcode : (Cond.code y bytes maxL ret).before args s = true) (hy : y.cls ≠ "java/lang/invoke/MethodHandle" ∧ y.cls ≠ "java/lang/invoke/VarHandle")
    {W9 : Nat} {Pre : Pt → Array Value → Prop} {Post : Pt → Array Value → Option Value → Pt → Prop} {PostX : Pt → Array Value → Addr → Pt → Prop} (hK : vx_Back l R p e below s args y 3 W9 Pre Post PostX)
    {g : JFrame} (hg : g.method = m) (hsize : g.locals.size = c.maxLocals) {argsL rest : List Value} (hlen : ∀ sig, parseMethodDescriptor y.desc = some sig → argsL.length = sig.parameters.length)
    (hstack : g.stack = argsL.reverse ++ rest) (hW : 2 * g.monitorRoom + (rest.map fun v => v.category).sum ≤ W9) (hdg : decode c.code g.pc = .ok (.invokestatic index, 3))
    (hpre : ∀ vm₁, s.WarmedH vm₁ → Pre ⟨T.setVm vm₁, locs, cells, slots⟩ argsL.toArray) :
    (∃ (v : Option Value) (vm₁ : Vm) (B : Pt), s.WarmedH vm₁ ∧ Stand p l e R s m args below meth c B.U B.locs B.cells B.slots ∧ Post ⟨T.setVm vm₁, locs, cells, slots⟩ argsL.toArray v B ∧
      ∀ target, Steps p.tables e below (B.U.setTop { g with pc := g.pc + 3, stack := v.toList ++ rest }) target → Steps p.tables e below (T.setTop g) target) ∨
    (∃ (q : Addr) (vm₁ : Vm) (B : Pt), s.WarmedH vm₁ ∧ Stand p l e R s m args below meth c B.U B.locs B.cells B.slots ∧ PostX ⟨T.setVm vm₁, locs, cells, slots⟩ argsL.toArray q B ∧
      Steps p.tables e below (T.setTop g) ((B.U.setTop { g with stack := rest }).pushFrame (.throwing q))) := by
  obtain ⟨mk, hnamed⟩ := Cond.code_named hcode
  obtain ⟨methM, cM, hmethM, -, -, -, -, -, -, hsigM⟩ := Cond.code_spec hnamed hcode
  have hstatic : methM.isStatic = true := Cond.static_spec hnamed hmethM hstat
  obtain ⟨kP, hkP, -⟩ := className_of_methodNamed hnamed
  have hinitP : kP.init = .initialized := Cond.initialized_spec (findClass_of_methodNamed hnamed) hkP hinit
  obtain ⟨vm₁, X₁, hstep₁⟩ := X.invokestatic hexec hown hlink hnamed hmethM hstatic hkP hinitP hy (g := g) hg (argsL := argsL) (rest := rest) (hlen _ hsigM) hstack hdg
  rcases hK m meth c ⟨T.setVm vm₁, locs, cells, slots⟩ { g with stack := rest } (.invokestatic index) mk argsL.toArray X₁ hg hsize hdg hW (X₁.named hnamed) (hpre vm₁ X₁.warmed) with ⟨v, B, X', hpost, hsteps⟩ | ⟨q, B, X', hpost, hsteps⟩
  · exact Or.inl ⟨v, vm₁, B, X₁.warmed, X', hpost, fun target h => hstep₁ _ fun acts => by rw [doInvoke_state]; exact hsteps.trans h⟩
  · exact Or.inr ⟨q, vm₁, B, X₁.warmed, X', hpost, hstep₁ _ fun acts => by rw [doInvoke_state]; exact hsteps⟩
end Calls
theorem vx_cls {s : State} {T : State} {vm₁ : Vm} {E : String} {k : ClassId} (hW : s.WarmedH vm₁) (h : (T.setVm vm₁).vm.findClass E = some k) : s.vm.findClass E = some k := by
  have h1 : vm₁.findClass E = some k := h
  rw [hW.alike.findClass] at h1
  exact h1
/-- the method's frame g, with q thrown over it -/
def vx_W (p : Program) (l : Launch) (e : Env) (R : Room) (s : State) (m : MethodId) (args : Array Value) (below : List Frame) (meth : Method) (c : Code) (H : Heap) (locs : List Loc) (cells slots : Nat) (Q : State → Prop) (g : JFrame) (q : Addr) : Prop :=
  ∀ T : State, T.heap = H → Stand p l e R s m args below meth c T locs cells slots → ∃ t, Steps p.tables e below ((T.setTop g).pushFrame (.throwing q)) t ∧ Q t
def vx_Run (p : Program) (l : Launch) (e : Env) (R : Room) (s : State) (m : MethodId) (args : Array Value) (below : List Frame) (meth : Method) (c : Code) (H : Heap) (locs : List Loc) (cells slots mc ms : Nat) (g : JFrame) (rest : List Value) (Qa : State → Outcome → State → Prop) (XC : String → State → State → Prop) (free : Addr → Prop) : Prop :=
  ∀ T : State, T.heap = H → Stand p l e R s m args below meth c T locs cells slots →
    (∃ (v : Option Value) (st₀ t T' : State) (L : List Loc), st₀.heap = H ∧ Stand p l e R s m args below meth c T' (locs ++ L) (cells + mc) (slots + ms) ∧ (∀ q ∈ L, free q.base) ∧ T'.heap = t.heap ∧ T'.vm = t.vm ∧ Qa st₀ (.returned v) t ∧
      Goes p e below T g T' { g with pc := g.pc + 3, stack := v.toList ++ rest }) ∨
    (∃ (q : Addr) (st₀ t T' : State) (L : List Loc) (E : String) (ce : Cell), st₀.heap = H ∧ Stand p l e R s m args below meth c T' (locs ++ L) (cells + mc) (slots + ms) ∧ (∀ z ∈ L, free z.base) ∧ T'.heap = t.heap ∧ T'.vm = t.vm ∧ XC E st₀ t ∧ t.heap[q]? = some ce ∧ ce.vm = .none ∧ s.vm.findClass E = some ce.cls ∧
      Steps p.tables e below (T.setTop g) ((T'.setTop { g with stack := rest }).pushFrame (.throwing q)))
def vx_X {S : Type} (px : S → Prop) (B : String → S → State → Prop) (A : Nat → Prop) : String → State → State → Prop := fun E st t => ∃ u : S, px u ∧ B E u t ∧ va_F A st t
section Runs
variable {p : Program} {l : Launch} {e : Env} {R : Room} {s : State} {m : MethodId} {args : Array Value} {below : List Frame} {meth : Method} {c : Code} {H : Heap} {locs : List Loc} {cells slots : Nat}
variable {y : MethodName} {bytes cc : ByteArray} {maxL nL mc ms n index : Nat} {ret : Option FieldType} {ws : List Cond} {rm : Room} {Pc : Array Value → State → Prop} {Qc : Array Value → State → Outcome → State → Prop} {XC : String → State → State → Prop} {free : Addr → Prop} {Ts : List Cond} {own C : String} {b : Addr} {As rest : List Value} {g : JFrame}
theorem vx_callBack (cb : CallB R s args own index y bytes maxL ret ws rm mc ms n) (hM : vx_Met l y ws rm Pc Qc XC mc ms free) (hbl : FrameBlind Pc) : vx_Back l R p e below s args y 3 8 (PreOf R mc ms Pc) (PostOf Qc mc ms free) (vx_Post XC mc ms free) := by
  obtain ⟨hrc, hrs, hfr, hlo, hws, hcw, -, hini, -⟩ := cb
  exact vx_back (bytes := bytes) (maxL := maxL) (ret := ret) hM hbl hrc hrs hfr hlo hws hcw (fun a' U hW => word_at hW (Or.inl (by first | rfl | simp [Cond.onTables, Cond.keeps, Cond.steady])) hini)
theorem vx_runV (S : CallFix p m c cc nL s args Ts own) (hM : vx_Met l y ws rm Pc Qc XC mc ms free) (cw : CallW R s args own C index y bytes maxL ret ws rm mc ms n) (hp : PreV s H C b Pc As)
    (hg : g.method = m) (hn : As.length = n) (hsize : g.locals.size = nL) (hstack : g.stack = As.reverse ++ .ref b :: rest) (hW : 2 * g.monitorRoom + (rest.map fun v => v.category).sum ≤ 8) (hdg : decode cc g.pc = .ok (.invokevirtual index, 3)) (hf : cells + mc ≤ R.cells ∧ slots + ms ≤ R.slots) :
    vx_Run p l e R s m args below meth c H locs cells slots mc ms g rest (Qc (Value.ref b :: As).toArray) XC free := by
  have hK : vx_Back l R p e below s args y 3 8 (PreOf R mc ms Pc) (PostOf Qc mc ms free) (vx_Post XC mc ms free) := vx_callBack cw.1 hM hp.1
  obtain ⟨⟨-, -, -, -, -, -, hcode, -, hy, hlen, hl⟩, hin, hse⟩ := cw
  obtain ⟨hx, hb, hml, ho, -⟩ := S
  obtain ⟨-, ⟨cellB, hcB, hoB, hclB⟩, hPc⟩ := hp
  intro T hT X
  rcases vx_callV X hx (C := C) (bytes := bytes) (maxL := maxL) (ret := ret) ho hl hin hse hcode hy hK (by rw [hT]; exact hcB) hoB hclB hg (hsize.trans hml.symm) (argsL := As) (rest := rest) (fun sig h => hn.trans (hlen sig h)) hstack hW (by rw [hb]; exact hdg)
    (fun vm₁ hW₁ => ⟨hf.1, hf.2, hPc (T.setVm vm₁) hT hW₁⟩) with ⟨v, vm₁, ⟨U', l2, c2, s2⟩, hW₁, X', ⟨g', mk, t, L, e1, e2, hq, h1, hL, h2, h3⟩, st⟩ | ⟨q, vm₁, ⟨U', l2, c2, s2⟩, hW₁, X', ⟨g', mk, t, L, E, ce, e1, e2, hq, hce, hcv, hcl, h1, hL, h2, h3⟩, st⟩
  · dsimp only [Pt.U, Pt.locs, Pt.cells, Pt.slots] at X' e1 e2 h1 h2 h3 st
    subst h1; subst h2; subst h3
    exact Or.inl ⟨v, (T.setVm vm₁).calling g' mk (Value.ref b :: As).toArray, t, U', L, hT, X', hL, e1, e2, hq, st⟩
  · dsimp only [Pt.U, Pt.locs, Pt.cells, Pt.slots] at X' e1 e2 h1 h2 h3 st hcl
    subst h1; subst h2; subst h3
    exact Or.inr ⟨q, (T.setVm vm₁).calling g' mk (Value.ref b :: As).toArray, t, U', L, E, ce, hT, X', hL, e1, e2, hq, hce, hcv, vx_cls hW₁ hcl, st⟩
theorem vx_runS (S : CallFix p m c cc nL s args Ts own) (hM : vx_Met l y ws rm Pc Qc XC mc ms free) (cw : CallB R s args own index y bytes maxL ret ws rm mc ms n ∧ (Cond.static y).before args s = true) (hp : PreS s H Pc As)
    (hg : g.method = m) (hn : As.length = n) (hsize : g.locals.size = nL) (hstack : g.stack = As.reverse ++ rest) (hW : 2 * g.monitorRoom + (rest.map fun v => v.category).sum ≤ 8) (hdg : decode cc g.pc = .ok (.invokestatic index, 3)) (hf : cells + mc ≤ R.cells ∧ slots + ms ≤ R.slots) :
    vx_Run p l e R s m args below meth c H locs cells slots mc ms g rest (Qc As.toArray) XC free := by
  have hK : vx_Back l R p e below s args y 3 8 (PreOf R mc ms Pc) (PostOf Qc mc ms free) (vx_Post XC mc ms free) := vx_callBack cw.1 hM hp.1
  obtain ⟨⟨-, -, -, -, -, -, hcode, hini, hy, hlen, hl⟩, hstt⟩ := cw
  obtain ⟨hx, hb, hml, ho, -⟩ := S
  intro T hT X
  rcases vx_callS X hx (bytes := bytes) (maxL := maxL) (ret := ret) ho hl hstt hini hcode hy hK hg (hsize.trans hml.symm) (argsL := As) (rest := rest) (fun sig h => hn.trans (hlen sig h)) hstack hW (by rw [hb]; exact hdg)
    (fun vm₁ hW₁ => ⟨hf.1, hf.2, hp.2 (T.setVm vm₁) hT hW₁⟩) with ⟨v, vm₁, ⟨U', l2, c2, s2⟩, hW₁, X', ⟨g', mk, t, L, e1, e2, hq, h1, hL, h2, h3⟩, st⟩ | ⟨q, vm₁, ⟨U', l2, c2, s2⟩, hW₁, X', ⟨g', mk, t, L, E, ce, e1, e2, hq, hce, hcv, hcl, h1, hL, h2, h3⟩, st⟩
  · dsimp only [Pt.U, Pt.locs, Pt.cells, Pt.slots] at X' e1 e2 h1 h2 h3 st
    subst h1; subst h2; subst h3
    exact Or.inl ⟨v, (T.setVm vm₁).calling g' mk As.toArray, t, U', L, hT, X', hL, e1, e2, hq, st⟩
  · dsimp only [Pt.U, Pt.locs, Pt.cells, Pt.slots] at X' e1 e2 h1 h2 h3 st hcl
    subst h1; subst h2; subst h3
    exact Or.inr ⟨q, (T.setVm vm₁).calling g' mk As.toArray, t, U', L, E, ce, hT, X', hL, e1, e2, hq, hce, hcv, vx_cls hW₁ hcl, st⟩
end Runs
section Rows
variable {p : Program} {l : Launch} {e : Env} {R : Room} {s : State} {m : MethodId} {args : Array Value} {below : List Frame} {meth : Method} {c : Code} {H : Heap} {locs : List Loc} {cells slots : Nat} {Q : State → Prop}
variable {mc ms : Nat} {free : Addr → Prop} {A0 A1 : Nat → Prop} {H0 : Heap} {a : Array Value} {pc : Nat} {ls : Array Slot} {st0 rest : List Value}
theorem vx_keep {st₀ t T' : State} {L : List Loc} (h0 : st₀.heap = H) (e1 : T'.heap = t.heap) (hS : va_S A0 H0 H locs) (hA : ∀ q, q < H.size → A1 q → A0 q) (hf : ∀ q, free q → A0 q) (hL : ∀ q ∈ L, free q.base) (hF : va_F A1 st₀ t) :
    H.size ≤ T'.heap.size ∧ (∀ q : Nat, q < H.size → ¬ A1 q → T'.heap[q]? = H[q]?) ∧ va_S A0 H0 T'.heap (locs ++ L) := by
  obtain ⟨hz, hk⟩ := hF
  rw [h0] at hz hk
  exact ⟨by rw [e1]; exact hz, fun q h1 h2 => by rw [e1]; exact hk q h1 h2,
    ⟨Nat.le_trans hS.1 (by rw [e1]; exact hz), fun q h1 h2 => by rw [e1, hk q (Nat.lt_of_lt_of_le h1 hS.1) (fun z => h2 (hA q (Nat.lt_of_lt_of_le h1 hS.1) z))]; exact hS.2.1 q h1 h2, fun q hq => by
      rcases List.mem_append.mp hq with h | h
      · exact hS.2.2 q h
      · exact hf _ (hL q h)⟩⟩
theorem vx_calli {S SX : Type} {post : Int32 → S → Prop} {px : SX → Prop} {B : S → State → Prop} {BX : String → SX → State → Prop} {AX : Nat → Prop} (hr : vx_Run p l e R s m args below meth c H locs cells slots mc ms (F0 m pc ls st0) rest (va_Qi post B A1 a) (vx_X px BX AX) free) (hS : va_S A0 H0 H locs) (hA : ∀ q, q < H.size → A1 q → A0 q) (hf : ∀ q, free q → A0 q) (hAX : ∀ q, q < H.size → AX q → A0 q)
    (kx : ∀ (E : String) (ce : Cell) (q9 : Addr) (u : SX) (t : State) (H1 : Heap) (locs1 : List Loc), t.heap = H1 → s.vm.Alike t.vm → px u → BX E u t → H.size ≤ H1.size → (∀ q : Nat, q < H.size → ¬ AX q → H1[q]? = H[q]?) → va_S A0 H0 H1 locs1 → H1[q9]? = some ce → ce.vm = .none → s.vm.findClass E = some ce.cls → vx_W p l e R s m args below meth c H1 locs1 (cells + mc) (slots + ms) Q (F0 m pc ls rest) q9)
    (kk : ∀ (r : Int32) (u : S) (t : State) (H1 : Heap) (locs1 : List Loc), t.heap = H1 → s.vm.Alike t.vm → post r u → B u t → H.size ≤ H1.size → (∀ q : Nat, q < H.size → ¬ A1 q → H1[q]? = H[q]?) → va_S A0 H0 H1 locs1 → W p l e R s m args below meth c H1 locs1 (cells + mc) (slots + ms) Q (F0 m (pc + 3) ls (.int r :: rest))) : W p l e R s m args below meth c H locs cells slots Q (F0 m pc ls st0) := by
  intro T hT X
  rcases hr T hT X with ⟨v, st₀, t, T', L, h0, X', hL, e1, e2, ⟨⟨r, u, hv, hp, hb⟩, hF⟩, st⟩ | ⟨q, st₀, t, T', L, E, ce, h0, X', hL, e1, e2, ⟨u, hp, hb, hF⟩, hce, hcv, hcl, st⟩
  · cases hv
    obtain ⟨k1, k2, k3⟩ := vx_keep h0 e1 hS hA hf hL hF
    obtain ⟨t2, a1, b1⟩ := kk r u t T'.heap (locs ++ L) e1.symm (by rw [← e2]; exact X'.warmed.alike) hp hb k1 k2 k3 T' rfl X'
    exact ⟨t2, st t2 a1, b1⟩
  · obtain ⟨k1, k2, k3⟩ := vx_keep h0 e1 hS hAX hf hL hF
    obtain ⟨t2, a1, b1⟩ := kx E ce q u t T'.heap (locs ++ L) e1.symm (by rw [← e2]; exact X'.warmed.alike) hp hb k1 k2 k3 (by rw [e1]; exact hce) hcv hcl T' rfl X'
    exact ⟨t2, st.trans a1, b1⟩
theorem vx_calll {S SX : Type} {post : Int64 → S → Prop} {px : SX → Prop} {B : S → State → Prop} {BX : String → SX → State → Prop} {AX : Nat → Prop} (hr : vx_Run p l e R s m args below meth c H locs cells slots mc ms (F0 m pc ls st0) rest (va_Ql post B A1 a) (vx_X px BX AX) free) (hS : va_S A0 H0 H locs) (hA : ∀ q, q < H.size → A1 q → A0 q) (hf : ∀ q, free q → A0 q) (hAX : ∀ q, q < H.size → AX q → A0 q)
    (kx : ∀ (E : String) (ce : Cell) (q9 : Addr) (u : SX) (t : State) (H1 : Heap) (locs1 : List Loc), t.heap = H1 → s.vm.Alike t.vm → px u → BX E u t → H.size ≤ H1.size → (∀ q : Nat, q < H.size → ¬ AX q → H1[q]? = H[q]?) → va_S A0 H0 H1 locs1 → H1[q9]? = some ce → ce.vm = .none → s.vm.findClass E = some ce.cls → vx_W p l e R s m args below meth c H1 locs1 (cells + mc) (slots + ms) Q (F0 m pc ls rest) q9)
    (kk : ∀ (r : Int64) (u : S) (t : State) (H1 : Heap) (locs1 : List Loc), t.heap = H1 → s.vm.Alike t.vm → post r u → B u t → H.size ≤ H1.size → (∀ q : Nat, q < H.size → ¬ A1 q → H1[q]? = H[q]?) → va_S A0 H0 H1 locs1 → W p l e R s m args below meth c H1 locs1 (cells + mc) (slots + ms) Q (F0 m (pc + 3) ls (.long r :: rest))) : W p l e R s m args below meth c H locs cells slots Q (F0 m pc ls st0) := by
  intro T hT X
  rcases hr T hT X with ⟨v, st₀, t, T', L, h0, X', hL, e1, e2, ⟨⟨r, u, hv, hp, hb⟩, hF⟩, st⟩ | ⟨q, st₀, t, T', L, E, ce, h0, X', hL, e1, e2, ⟨u, hp, hb, hF⟩, hce, hcv, hcl, st⟩
  · cases hv
    obtain ⟨k1, k2, k3⟩ := vx_keep h0 e1 hS hA hf hL hF
    obtain ⟨t2, a1, b1⟩ := kk r u t T'.heap (locs ++ L) e1.symm (by rw [← e2]; exact X'.warmed.alike) hp hb k1 k2 k3 T' rfl X'
    exact ⟨t2, st t2 a1, b1⟩
  · obtain ⟨k1, k2, k3⟩ := vx_keep h0 e1 hS hAX hf hL hF
    obtain ⟨t2, a1, b1⟩ := kx E ce q u t T'.heap (locs ++ L) e1.symm (by rw [← e2]; exact X'.warmed.alike) hp hb k1 k2 k3 (by rw [e1]; exact hce) hcv hcl T' rfl X'
    exact ⟨t2, st.trans a1, b1⟩
theorem vx_callf {S SX : Type} {post : UInt32 → S → Prop} {px : SX → Prop} {B : S → State → Prop} {BX : String → SX → State → Prop} {AX : Nat → Prop} (hr : vx_Run p l e R s m args below meth c H locs cells slots mc ms (F0 m pc ls st0) rest (va_Qf post B A1 a) (vx_X px BX AX) free) (hS : va_S A0 H0 H locs) (hA : ∀ q, q < H.size → A1 q → A0 q) (hf : ∀ q, free q → A0 q) (hAX : ∀ q, q < H.size → AX q → A0 q)
    (kx : ∀ (E : String) (ce : Cell) (q9 : Addr) (u : SX) (t : State) (H1 : Heap) (locs1 : List Loc), t.heap = H1 → s.vm.Alike t.vm → px u → BX E u t → H.size ≤ H1.size → (∀ q : Nat, q < H.size → ¬ AX q → H1[q]? = H[q]?) → va_S A0 H0 H1 locs1 → H1[q9]? = some ce → ce.vm = .none → s.vm.findClass E = some ce.cls → vx_W p l e R s m args below meth c H1 locs1 (cells + mc) (slots + ms) Q (F0 m pc ls rest) q9)
    (kk : ∀ (r : UInt32) (u : S) (t : State) (H1 : Heap) (locs1 : List Loc), t.heap = H1 → s.vm.Alike t.vm → post r u → B u t → H.size ≤ H1.size → (∀ q : Nat, q < H.size → ¬ A1 q → H1[q]? = H[q]?) → va_S A0 H0 H1 locs1 → W p l e R s m args below meth c H1 locs1 (cells + mc) (slots + ms) Q (F0 m (pc + 3) ls (.float r :: rest))) : W p l e R s m args below meth c H locs cells slots Q (F0 m pc ls st0) := by
  intro T hT X
  rcases hr T hT X with ⟨v, st₀, t, T', L, h0, X', hL, e1, e2, ⟨⟨r, u, hv, hp, hb⟩, hF⟩, st⟩ | ⟨q, st₀, t, T', L, E, ce, h0, X', hL, e1, e2, ⟨u, hp, hb, hF⟩, hce, hcv, hcl, st⟩
  · cases hv
    obtain ⟨k1, k2, k3⟩ := vx_keep h0 e1 hS hA hf hL hF
    obtain ⟨t2, a1, b1⟩ := kk r u t T'.heap (locs ++ L) e1.symm (by rw [← e2]; exact X'.warmed.alike) hp hb k1 k2 k3 T' rfl X'
    exact ⟨t2, st t2 a1, b1⟩
  · obtain ⟨k1, k2, k3⟩ := vx_keep h0 e1 hS hAX hf hL hF
    obtain ⟨t2, a1, b1⟩ := kx E ce q u t T'.heap (locs ++ L) e1.symm (by rw [← e2]; exact X'.warmed.alike) hp hb k1 k2 k3 (by rw [e1]; exact hce) hcv hcl T' rfl X'
    exact ⟨t2, st.trans a1, b1⟩
theorem vx_calld {S SX : Type} {post : UInt64 → S → Prop} {px : SX → Prop} {B : S → State → Prop} {BX : String → SX → State → Prop} {AX : Nat → Prop} (hr : vx_Run p l e R s m args below meth c H locs cells slots mc ms (F0 m pc ls st0) rest (va_Qd post B A1 a) (vx_X px BX AX) free) (hS : va_S A0 H0 H locs) (hA : ∀ q, q < H.size → A1 q → A0 q) (hf : ∀ q, free q → A0 q) (hAX : ∀ q, q < H.size → AX q → A0 q)
    (kx : ∀ (E : String) (ce : Cell) (q9 : Addr) (u : SX) (t : State) (H1 : Heap) (locs1 : List Loc), t.heap = H1 → s.vm.Alike t.vm → px u → BX E u t → H.size ≤ H1.size → (∀ q : Nat, q < H.size → ¬ AX q → H1[q]? = H[q]?) → va_S A0 H0 H1 locs1 → H1[q9]? = some ce → ce.vm = .none → s.vm.findClass E = some ce.cls → vx_W p l e R s m args below meth c H1 locs1 (cells + mc) (slots + ms) Q (F0 m pc ls rest) q9)
    (kk : ∀ (r : UInt64) (u : S) (t : State) (H1 : Heap) (locs1 : List Loc), t.heap = H1 → s.vm.Alike t.vm → post r u → B u t → H.size ≤ H1.size → (∀ q : Nat, q < H.size → ¬ A1 q → H1[q]? = H[q]?) → va_S A0 H0 H1 locs1 → W p l e R s m args below meth c H1 locs1 (cells + mc) (slots + ms) Q (F0 m (pc + 3) ls (.double r :: rest))) : W p l e R s m args below meth c H locs cells slots Q (F0 m pc ls st0) := by
  intro T hT X
  rcases hr T hT X with ⟨v, st₀, t, T', L, h0, X', hL, e1, e2, ⟨⟨r, u, hv, hp, hb⟩, hF⟩, st⟩ | ⟨q, st₀, t, T', L, E, ce, h0, X', hL, e1, e2, ⟨u, hp, hb, hF⟩, hce, hcv, hcl, st⟩
  · cases hv
    obtain ⟨k1, k2, k3⟩ := vx_keep h0 e1 hS hA hf hL hF
    obtain ⟨t2, a1, b1⟩ := kk r u t T'.heap (locs ++ L) e1.symm (by rw [← e2]; exact X'.warmed.alike) hp hb k1 k2 k3 T' rfl X'
    exact ⟨t2, st t2 a1, b1⟩
  · obtain ⟨k1, k2, k3⟩ := vx_keep h0 e1 hS hAX hf hL hF
    obtain ⟨t2, a1, b1⟩ := kx E ce q u t T'.heap (locs ++ L) e1.symm (by rw [← e2]; exact X'.warmed.alike) hp hb k1 k2 k3 (by rw [e1]; exact hce) hcv hcl T' rfl X'
    exact ⟨t2, st.trans a1, b1⟩
theorem vx_callv {S SX : Type} {post : S → Prop} {px : SX → Prop} {B : S → State → Prop} {BX : String → SX → State → Prop} {AX : Nat → Prop} (hr : vx_Run p l e R s m args below meth c H locs cells slots mc ms (F0 m pc ls st0) rest (va_Qv post B A1 a) (vx_X px BX AX) free) (hS : va_S A0 H0 H locs) (hA : ∀ q, q < H.size → A1 q → A0 q) (hf : ∀ q, free q → A0 q) (hAX : ∀ q, q < H.size → AX q → A0 q)
    (kx : ∀ (E : String) (ce : Cell) (q9 : Addr) (u : SX) (t : State) (H1 : Heap) (locs1 : List Loc), t.heap = H1 → s.vm.Alike t.vm → px u → BX E u t → H.size ≤ H1.size → (∀ q : Nat, q < H.size → ¬ AX q → H1[q]? = H[q]?) → va_S A0 H0 H1 locs1 → H1[q9]? = some ce → ce.vm = .none → s.vm.findClass E = some ce.cls → vx_W p l e R s m args below meth c H1 locs1 (cells + mc) (slots + ms) Q (F0 m pc ls rest) q9)
    (kk : ∀ (u : S) (t : State) (H1 : Heap) (locs1 : List Loc), t.heap = H1 → s.vm.Alike t.vm → post u → B u t → H.size ≤ H1.size → (∀ q : Nat, q < H.size → ¬ A1 q → H1[q]? = H[q]?) → va_S A0 H0 H1 locs1 → W p l e R s m args below meth c H1 locs1 (cells + mc) (slots + ms) Q (F0 m (pc + 3) ls (rest))) : W p l e R s m args below meth c H locs cells slots Q (F0 m pc ls st0) := by
  intro T hT X
  rcases hr T hT X with ⟨v, st₀, t, T', L, h0, X', hL, e1, e2, ⟨⟨u, hv, hp, hb⟩, hF⟩, st⟩ | ⟨q, st₀, t, T', L, E, ce, h0, X', hL, e1, e2, ⟨u, hp, hb, hF⟩, hce, hcv, hcl, st⟩
  · cases hv
    obtain ⟨k1, k2, k3⟩ := vx_keep h0 e1 hS hA hf hL hF
    obtain ⟨t2, a1, b1⟩ := kk u t T'.heap (locs ++ L) e1.symm (by rw [← e2]; exact X'.warmed.alike) hp hb k1 k2 k3 T' rfl X'
    exact ⟨t2, st t2 a1, b1⟩
  · obtain ⟨k1, k2, k3⟩ := vx_keep h0 e1 hS hAX hf hL hF
    obtain ⟨t2, a1, b1⟩ := kx E ce q u t T'.heap (locs ++ L) e1.symm (by rw [← e2]; exact X'.warmed.alike) hp hb k1 k2 k3 (by rw [e1]; exact hce) hcv hcl T' rfl X'
    exact ⟨t2, st.trans a1, b1⟩
/-- caught by the row x of this method's table; the rows ahead don't take it -/
theorem vx_catch {own name : String} {E : String} {ce : Cell} {q : Addr} (hown : s.vm.findClass own = some m.cls) (pre : List ExceptionTableEntry) (x : ExceptionTableEntry) (suf : List ExceptionTableEntry) (hsplit : c.exceptionTable.toList = pre ++ x :: suf)
    (hpass : ∀ z ∈ pre, covers z pc = false ∨ (z.catchType ≠ 0 ∧ ∃ nm : String, (Cond.classLink own z.catchType nm).before args s = true ∧ va_Nc E nm s)) (hx : covers x pc = true) (h0 : x.catchType ≠ 0)
    (hlink : (Cond.classLink own x.catchType name).before args s = true) (hcast : (Cond.castable E name).before args s = true) (hcell : H[q]? = some ce) (hv : ce.vm = .none) (hcl : s.vm.findClass E = some ce.cls)
    (kk : W p l e R s m args below meth c H locs cells slots Q (F0 m x.handlerPc ls [.ref q])) : vx_W p l e R s m args below meth c H locs cells slots Q (F0 m pc ls rest) q := by
  intro T hT X
  have hpl : e.platform.magicAccessors = ({} : Platform).magicAccessors := by rw [X.admits.platform]
  obtain ⟨c3, c4, hc3, hc4, hasg⟩ := Cond.castable_spec hcast
  cases Option.some.inj (hc3.symm.trans hcl)
  obtain ⟨c5, hc5, hcl5⟩ := Cond.classLink_spec hown hlink e.platform hpl
  cases Option.some.inj (hc4.symm.trans hc5)
  obtain ⟨vm', X', st⟩ := X.thenCaughtThrough q (g := F0 m pc ls rest) rfl (Steps.refl _) (by rw [hT]; exact hcell) (by rw [hv]; rfl) (by obtain ⟨k9, h9, -⟩ := Vm.findClass_spec hcl; exact ⟨k9, h9⟩) pre x suf hsplit
    (fun z hz => by
      rcases hpass z hz with h | ⟨hz0, nm, hl1, hn1⟩
      · exact Or.inl h
      · obtain ⟨c6, hc6, hcl6⟩ := Cond.classLink_spec hown hl1 e.platform hpl
        obtain ⟨a8, b8, h1, h2, h3⟩ := hn1
        cases Option.some.inj (h1.symm.trans hcl)
        cases Option.some.inj (h2.symm.trans hc6)
        exact Or.inr ⟨hz0, _, hcl6, h3⟩) hx (Or.inr ⟨h0, c4, hcl5, hasg⟩)
  obtain ⟨t, a1, b1⟩ := kk (T.setVm vm') hT X'
  exact ⟨t, st.trans a1, b1⟩
end Rows
section Ends
variable {p : Program} {l : Launch} {e : Env} {R : Room} {s : State} {m : MethodId} {args : Array Value} {below : List Frame} {meth : Method} {c : Code} {H : Heap} {locs : List Loc} {cells slots : Nat} {Q : State → Prop}
variable {mc ms : Nat} {free : Addr → Prop} {A0 A1 : Nat → Prop} {H0 : Heap} {a : Array Value} {ls : Array Slot} {st0 rest : List Value}
variable {Qc : Array Value → State → Outcome → State → Prop} {XC : String → State → State → Prop}
/-- what a body that may throw owes at its end -/
def vx_MQ (below : List Frame) (Qc : Array Value → State → Outcome → State → Prop) (XC : String → State → State → Prop) (a : Array Value) (s : State) (mc ms : Nat) (free : Addr → Prop) : State → Prop := fun t =>
  ∃ o, t.status = .running ∧ Ended t below o ∧ vx_Q Qc XC mc ms free a s o t
theorem vx_ret {g : JFrame} {mc ms : Nat} (k : W p l e R s m args below meth c H locs cells slots (MQ below Qc args s mc ms free) g) : W p l e R s m args below meth c H locs cells slots (vx_MQ below Qc XC args s mc ms free) g := by
  intro T hT X
  obtain ⟨t, a1, o, b1, b2, b3, b4⟩ := k T hT X
  exact ⟨t, a1, o, b1, b2, Or.inl ⟨b3, b4⟩⟩
/-- not caught here: it goes on to the caller -/
theorem vx_widen {g : JFrame} {q : Addr} {k n : Nat} (h1 : cells ≤ k) (h2 : slots ≤ n) (kk : vx_W p l e R s m args below meth c H locs k n Q g q) : vx_W p l e R s m args below meth c H locs cells slots Q g q := fun T hT X => kk T hT (stand_widen X h1 h2)
theorem vx_out {pc : Nat} {E : String} {ce : Cell} {q : Addr} {mc ms : Nat} (hout : ∀ x ∈ c.exceptionTable.toList, covers x pc = false) (hlocks : meth.locks = false) (hcell : H[q]? = some ce) (hv : ce.vm = .none) (hcl : s.vm.findClass E = some ce.cls)
    (hx : ∀ t : State, t.heap = H → s.vm.Alike t.vm → XC E s t) (hf : ∀ z ∈ locs, free z.base) (hc : cells ≤ mc) (hs : slots ≤ ms) :
    vx_W p l e R s m args below meth c H locs cells slots (vx_MQ below Qc XC args s mc ms free) (F0 m pc ls rest) q := by
  intro T hT X
  obtain ⟨st1, hrun, hend, hW, hsm⟩ := X.leaveThrown q (g := F0 m pc ls rest) rfl rfl rfl hout hlocks
  have hcell9 : (T.setFrames (.throwing q :: below)).heap[q]? = some ce := by
    show T.heap[q]? = some ce
    rw [hT]; exact hcell
  exact ⟨_, st1, .threw q, hrun, hend, Or.inr ⟨q, rfl, E, ce, locs, hx _ hT hW.alike, hcell9, hv, hcl, hW, hsm.mono hc hs, hf⟩⟩
theorem vx_frame {U : State} {k n : Nat} (h : s.sameButNew ({ U with vm := s.vm } : State) locs k n) : s.heap.size ≤ U.heap.size ∧ ∀ q : Nat, q < s.heap.size → (∀ z ∈ locs, z.base ≠ q) → U.heap[q]? = s.heap[q]? := by
  obtain ⟨-, h2, -, -, -, h6⟩ := h
  refine ⟨h2, fun q hq hz => ?_⟩
  obtain ⟨c9, e1, e2, e3, e4⟩ := h6 q _ (Array.getElem?_eq_getElem hq)
  have hs : c9.slots = (s.heap[q]).slots := Array.ext_getElem? fun i => e4 i fun hm => hz _ hm rfl
  have h9 : c9 = s.heap[q] := by
    rw [hs] at e2
    exact e2
  have e5 : U.heap[q]? = some c9 := e1
  rw [e5, h9, Array.getElem?_eq_getElem hq]
/-- the words of a throw but the four that speak of the heap -/
def vx_no (w : Cond) : Bool := decide (w ≠ .isRef (.static Bundle.tN "UNASSIGNED_STACK" Bundle.steD)) && decide (w ≠ .isRef (.static Bundle.tN "SUPPRESSED_SENTINEL" Bundle.listD)) && decide (w ≠ .laysStatic Bundle.tN "UNASSIGNED_STACK" Bundle.steD) && decide (w ≠ .laysStatic Bundle.tN "SUPPRESSED_SENTINEL" Bundle.listD)
def vx_at0 (own : String) (ic : Nat) (X : String) (names : List String) : List Cond := (Bundle.ownAtoms0 own ic X names).filter vx_no
def vx_atS (own : String) (ic : Nat) (X : String) (names : List String) : List Cond := (Bundle.ownAtoms own ic X names).filter vx_no
/-- a word that the tables alone decide, or a good one -/
def vx_ot (w : Cond) : Bool := w.onTables || goodWord w
theorem vx_ot_at {args a' : Array Value} {s U : State} {w : Cond} (hW : s.WarmedH U.vm) (hvm : s.vm = U.vm) (hg : vx_ot w = true) (h : w.before args s = true) : w.before a' U = true := by
  simp only [vx_ot, Bool.or_eq_true] at hg
  rcases hg with hg | hg
  · exact va_tabs hg hvm h
  · exact word_at hW (good_of_word hg) h
/-- a list's words: the good ones out of the method's own list, the others by premises of their own -/
theorem vx_hat {args : Array Value} {s : State} {L B : List Cond} (h1 : ∀ w ∈ L.filter goodWord, w.before args s = true) (h2 : ∀ w ∈ L.filter (fun w => !goodWord w), w ∈ B) (h3 : ∀ w ∈ B, w.before args s = true) : ∀ w ∈ L, w.before args s = true := by
  intro w hw
  by_cases g : goodWord w = true
  · exact h1 w (List.mem_filter.mpr ⟨hw, g⟩)
  · refine h3 w (h2 w (List.mem_filter.mpr ⟨hw, ?_⟩))
    show (!goodWord w) = true
    cases hgw : goodWord w
    · rfl
    · exact absurd hgw g
theorem vx_c {args : Array Value} {s : State} {w : Cond} {B : List Cond} (h : w.before args s = true) (t : ∀ w ∈ B, w.before args s = true) : ∀ w' ∈ w :: B, w'.before args s = true := fun w' h' => (List.mem_cons.mp h').elim (fun e => by rw [e]; exact h) (t w')
theorem vx_n {args : Array Value} {s : State} : ∀ w ∈ ([] : List Cond), w.before args s = true := fun _ h => nomatch h
theorem vx_own {args : Array Value} {s : State} {L : List Cond} (h1 : ∀ w ∈ L.filter vx_no, w.before args s = true)
    (hU : (Cond.isRef (.static Bundle.tN "UNASSIGNED_STACK" Bundle.steD)).before args s = true) (hN : (Cond.isRef (.static Bundle.tN "SUPPRESSED_SENTINEL" Bundle.listD)).before args s = true)
    (lU : (Cond.laysStatic Bundle.tN "UNASSIGNED_STACK" Bundle.steD).before args s = true) (lN : (Cond.laysStatic Bundle.tN "SUPPRESSED_SENTINEL" Bundle.listD).before args s = true) : ∀ w ∈ L, w.before args s = true := by
  intro w hw
  by_cases e1 : w = .isRef (.static Bundle.tN "UNASSIGNED_STACK" Bundle.steD)
  · rw [e1]; exact hU
  · by_cases e2 : w = .isRef (.static Bundle.tN "SUPPRESSED_SENTINEL" Bundle.listD)
    · rw [e2]; exact hN
    · by_cases e3 : w = .laysStatic Bundle.tN "UNASSIGNED_STACK" Bundle.steD
      · rw [e3]; exact lU
      · by_cases e4 : w = .laysStatic Bundle.tN "SUPPRESSED_SENTINEL" Bundle.listD
        · rw [e4]; exact lN
        · exact h1 w (List.mem_filter.mpr ⟨hw, by unfold vx_no; rw [decide_eq_true e1, decide_eq_true e2, decide_eq_true e3, decide_eq_true e4]; rfl⟩)
/-- where a static field lies, its class's statics cell in H -/
def vx_L (C n d : String) (A : Nat → Prop) (U : State) (H : Heap) : Prop := ∃ (c : ClassId) (k : Class) (i : Nat) (f : Field) (a : Nat) (cell : Cell), U.vm.findClass C = some c ∧ U.fieldFound? C n d = some (c, k, i, f) ∧ f.isStatic = true ∧ k.statics = some a ∧ H[a]? = some cell ∧ cell.vm.isStatics = true ∧ cell.cls = c ∧ f.slot < cell.slots.size ∧ k.staticTypes[f.slot]? = some f.type ∧ ¬ A a
theorem vx_L.moved {C n d : String} {A : Nat → Prop} {u U : State} {H : Heap} (hvm : u.vm.Alike U.vm) (h : vx_L C n d A u H) : vx_L C n d A U H := by
  obtain ⟨c, k, i, f, a, cell, h1, h2, h3, h4, h5, h6, h7, h8, h9, h10⟩ := h
  obtain ⟨k', hi', he⟩ := State.fieldFound?_setVm hvm h2
  exact ⟨c, k', i, f, a, cell, by rw [hvm.findClass]; exact h1, hi', h3, by rw [he]; exact h4, h5, h6, h7, h8, by rw [he]; exact h9, h10⟩
theorem vx_L.kept {C n d : String} {A : Nat → Prop} {U : State} {H H1 : Heap} (h : vx_L C n d A U H) (hq : ∀ a : Nat, a < H.size → ¬ A a → H1[a]? = H[a]?) : vx_L C n d A U H1 := by
  obtain ⟨c, k, i, f, a, cell, h1, h2, h3, h4, h5, h6, h7, h8, h9, h10⟩ := h
  exact ⟨c, k, i, f, a, cell, h1, h2, h3, h4, by rw [hq a (Array.getElem?_eq_some_iff.mp h5).1 h10]; exact h5, h6, h7, h8, h9, h10⟩
theorem vx_L.narrow {C n d : String} {A B : Nat → Prop} {U : State} {H : Heap} (h : vx_L C n d A U H) (hAB : ∀ q, B q → A q) : vx_L C n d B U H := by
  obtain ⟨c, k, i, f, a, cell, h1, h2, h3, h4, h5, h6, h7, h8, h9, h10⟩ := h
  exact ⟨c, k, i, f, a, cell, h1, h2, h3, h4, h5, h6, h7, h8, h9, fun z => h10 (hAB _ z)⟩
theorem vx_L.word {C n d : String} {A : Nat → Prop} {s : State} {args : Array Value} (h : vx_L C n d A s s.heap) : (Cond.laysStatic C n d).before args s = true := by
  obtain ⟨c, k, i, f, a, cell, h1, h2, h3, h4, h5, h6, h7, h8, h9, -⟩ := h
  show (Cond.laysStatic C n d).holds args s none s [] = true
  exact Cond.laysStatic_of h1 h2 h3 h4 h5 h6 h7 h8 h9
/-- .. and what it holds: null or some reference -/
def vx_Zq (C n d : String) (A : Nat → Prop) (U : State) (H : Heap) : Prop := va_Zq C n d A U H ∧ vx_L C n d A U H
theorem vx_Zq.moved {C n d : String} {A : Nat → Prop} {u U : State} {H : Heap} (hvm : u.vm.Alike U.vm) (h : vx_Zq C n d A u H) : vx_Zq C n d A U H := ⟨va_Zq.moved hvm h.1, vx_L.moved hvm h.2⟩
theorem vx_Zq.kept {C n d : String} {A : Nat → Prop} {U : State} {H H1 : Heap} (h : vx_Zq C n d A U H) (hq : ∀ a : Nat, a < H.size → ¬ A a → H1[a]? = H[a]?) : vx_Zq C n d A U H1 := ⟨va_Zq.kept h.1 hq, vx_L.kept h.2 hq⟩
theorem vx_Zq.narrow {C n d : String} {A B : Nat → Prop} {U : State} {H : Heap} (h : vx_Zq C n d A U H) (hAB : ∀ q, B q → A q) : vx_Zq C n d B U H := ⟨va_Zq.narrow h.1 hAB, vx_L.narrow h.2 hAB⟩
theorem vx_Zqof {args : Array Value} {s : State} {C n d : String} {A : Nat → Prop} (hl : (Cond.laysStatic C n d).before args s = true) (hini : (Cond.initialized C).before args s = true) (h : (Cond.isRef (.static C n d)).before args s = true) (hA : ∀ a : Nat, a < s.heap.size → ¬ A a) : vx_Zq C n d A s s.heap := by
  refine ⟨va_Zqof hl hini h hA, ?_⟩
  obtain ⟨c, k, i, f, a, cell, h1, h2, h3, h4, h5, h6, h7, h8, h9⟩ := Cond.laysStatic_spec hl
  exact ⟨c, k, i, f, a, cell, h1, h2, h3, h4, h5, h6, h7, h8, h9, hA a (Array.getElem?_eq_some_iff.mp h5).1⟩
theorem vx_isRef {C n d : String} {v : Value} {A : Nat → Prop} {s : State} {args : Array Value} (h : va_Z C n d v A s s.heap) (hv : v.isRef = true) : (Cond.isRef (.static C n d)).before args s = true := by
  obtain ⟨cf, kf, fi, f, a, cell, h1, h2, h3, h4, h5, h6, h7, -⟩ := h
  have he : (Term.static C n d).eval args s none [] s = some v := by
    simp [Term.eval, State.fieldNamed?, h1, h2, h4, h5, h6, h7]
  simp only [Cond.before, Cond.holds, Cond.value, he]
  cases v <;> simp_all [Value.isRef]
theorem vx_isRefq {C n d : String} {A : Nat → Prop} {s : State} {args : Array Value} (h : va_Zq C n d A s s.heap) : (Cond.isRef (.static C n d)).before args s = true := by
  rcases h with h | ⟨t, h⟩
  · exact vx_isRef h rfl
  · exact vx_isRef h rfl
/-- the same frame, seen from here: as if the method were called anew in this heap -/
theorem vx_rebase {T : State} (X : Stand p l e R s m args below meth c T locs cells slots) {R' : Room} (hf : R'.frames ≤ R.frames) (hl : R'.locals ≤ R.locals) (hc : cells + R'.cells ≤ R.cells) (hs : slots + R'.slots ≤ R.slots) :
    Stand p l e R' ((T.setVm s.vm).setFrames (.invoking m args :: below)) m args below meth c T [] 0 0 := by
  have htop : (T.setVm s.vm).topJava?.isSome := X.here.top
  have hF : ((T.setVm s.vm).setFrames (.invoking m args :: below)).frames = .invoking m args :: below := State.frames_setFrames _ (State.cur_lt_of_top htop)
  obtain ⟨g₀, hg0⟩ := Option.isSome_iff_exists.mp htop
  obtain ⟨r, hr⟩ := State.topJava?_eq_some.mp hg0
  have hl9 : e.platform.stackLimits (T.setVm s.vm).me = e.platform.stackLimits s.me := X.limits
  have hb9 : (T.setVm s.vm).me.stackBytes = s.me.stackBytes := X.bytes
  refine ⟨X.admits, X.cas, X.clock, hF, ?_, X.hears, X.method, X.code, X.here, X.tail, X.warmed, ?_, ?_, ?_⟩
  · have h := X.room
    have hU : ((T.setVm s.vm).setFrames (.invoking m args :: below)).localsInUse = s.localsInUse := by
      rw [State.localsInUse_invoking hF (meth := meth) (c := c) X.method X.code, State.localsInUse_invoking X.frames X.method X.code]
    simp only [State.hasRoom, Bool.and_eq_true, decide_eq_true_eq] at h ⊢
    obtain ⟨⟨⟨⟨h1, h2, h3, h4, h5, h6⟩, h7⟩, h8⟩, h9⟩ := h
    rw [X.frames, List.length_cons] at h2 h3
    have q1 := X.heapSize
    have q2 := X.used
    simp only [hF, hU, List.length_cons, State.stackLimits_setFrames, State.stackBytes_setFrames, hl9, hb9]
    refine ⟨⟨⟨⟨by omega, by omega, by omega, by omega, by omega, h6⟩, ?_⟩, ?_⟩, X.book⟩
    · show T.heap.size + R'.cells ≤ e.platform.maxCells
      omega
    · show T.slotsUsed + R'.slots ≤ e.platform.maxSlots
      omega
  · rw [State.stackLimits_setFrames]; rfl
  · rw [State.stackBytes_setFrames]; rfl
  · refine ⟨?_, Nat.le_refl _, Nat.le_refl _, ?_, ?_, fun a c9 h9 => ⟨c9, h9, rfl, rfl, fun _ _ => rfl⟩⟩
    · obtain ⟨t, ht, -⟩ := State.frames_cons hr
      show T.setVm s.vm = { ((T.setVm s.vm).setFrames (.invoking m args :: below)).setFrames (T.setVm s.vm).frames with heap := T.heap, slotsUsed := T.slotsUsed }
      rw [State.setFrames_setFrames, State.setFrames_self ht]
      rfl
    · show T.slotsUsed = T.slotsUsed + ((T.heap.toList.drop T.heap.size).map (·.slots.size)).sum
      rw [List.drop_eq_nil_of_le (Nat.le_of_eq Array.length_toList)]
      rfl
    · show ((T.heap.toList.drop T.heap.size).map (·.slots.size)).sum ≤ 0
      rw [List.drop_eq_nil_of_le (Nat.le_of_eq Array.length_toList)]
      exact Nat.le_refl _
/-- 'throw new E()': new; dup; invokespecial; athrow -/
theorem vx_throw0 {cc : ByteArray} {pc : Nat} (hexec : p.tables.exec = Jvm.exec) (hb : c.code = cc) (hl : l.stackTraces = false) {own cls : String} {names : List String} {ik ic mc ms : Nat} {A : Nat → Prop}
    (hown : s.vm.findClass own = some m.cls) (hcls : Bundle.fit cls = true) (hnames : ∀ n ∈ names, Bundle.fit n = true)
    (hk : (Cond.classLink own ik cls).before args s = true) (hini : (Cond.initialized cls).before args s = true) (hat : ∀ w ∈ vx_at0 own ic cls names, w.before args s = true)
    (hgood : ∀ w ∈ Cond.classLink own ik cls :: Cond.initialized cls :: vx_at0 own ic cls names, vx_ot w = true)
    (hU : vx_Zq Bundle.tN "UNASSIGNED_STACK" Bundle.steD A s s.heap) (hN : vx_Zq Bundle.tN "SUPPRESSED_SENTINEL" Bundle.listD A s s.heap) (hS : va_S A s.heap H locs) (hsize : ls.size = c.maxLocals)
    (d0 : decode cc pc = .ok (.new ik, 3)) (d3 : decode cc (pc + 3) = .ok (.dup, 1)) (d4 : decode cc (pc + 4) = .ok (.invokespecial ic, 3)) (d7 : decode cc (pc + 7) = .ok (.athrow, 1))
    (hout : ∀ x ∈ c.exceptionTable.toList, covers x (pc + 7) = false)
    (hRframes : names.length + 3 < R.frames) (hRlocals : (rest.map fun v => v.category).sum + (13 * (names.length + 1) + 42) ≤ R.locals) (hRcells : cells + 1 ≤ R.cells) (hRslots : slots + 6 ≤ R.slots) (hlocks : meth.locks = false)
    (hx : ∀ t : State, s.vm.Alike t.vm → H.size ≤ t.heap.size → (∀ q : Nat, q < H.size → t.heap[q]? = H[q]?) → XC cls s t)
    (hf : ∀ z ∈ locs, free z.base) (hc : cells + 1 ≤ mc) (hs : slots + 6 ≤ ms) :
    W p l e R s m args below meth c H locs cells slots (vx_MQ below Qc XC args s mc ms free) (F0 m pc ls rest) := by
  intro T hT X
  have htr : e.platform.stackTraces = false := (show e.platform.stackTraces = l.stackTraces by rw [X.admits.platform]).trans hl
  have Y := vx_rebase X (R' := { frames := R.frames, locals := R.locals, cells := 1, slots := 6 }) (Nat.le_refl _) (Nat.le_refl _) hRcells hRslots
  obtain ⟨s', hA⟩ : ∃ z, z = (T.setVm s.vm).setFrames (.invoking m args :: below) := ⟨_, rfl⟩
  rw [← hA] at Y
  have hvm : s'.vm = s.vm := by rw [hA]; rfl
  have hhp : s'.heap = H := by rw [hA]; exact hT
  have hW0 : s.WarmedH s'.vm := by rw [hvm]; exact State.WarmedH.refl s
  have hat' : ∀ w ∈ vx_at0 own ic cls names, w.before args s' = true := fun w hw => vx_ot_at hW0 hvm.symm (hgood w (List.mem_cons_of_mem _ (List.mem_cons_of_mem _ hw))) (hat w hw)
  have hk' : (Cond.classLink own ik cls).before args s' = true := vx_ot_at hW0 hvm.symm (hgood _ List.mem_cons_self) hk
  have hini' : (Cond.initialized cls).before args s' = true := vx_ot_at hW0 hvm.symm (hgood _ (List.mem_cons_of_mem _ List.mem_cons_self)) hini
  have hU' : vx_Zq Bundle.tN "UNASSIGNED_STACK" Bundle.steD A s' s'.heap := by rw [hhp]; exact vx_Zq.moved hW0.alike (hU.kept hS.2.1)
  have hN' : vx_Zq Bundle.tN "SUPPRESSED_SENTINEL" Bundle.listD A s' s'.heap := by rw [hhp]; exact vx_Zq.moved hW0.alike (hN.kept hS.2.1)
  have h : ∀ w ∈ Bundle.ownAtoms0 own ic cls names, w.before args s' = true := vx_own hat' (vx_isRefq hU'.1) (vx_isRefq hN'.1) hU'.2.word hN'.2.word
  have hown' : s'.vm.findClass own = some m.cls := by rw [hvm]; exact hown
  have hins : (Cond.instantiable cls 6).before args s' = true := h _ (by simp [Bundle.ownAtoms0])
  obtain ⟨vm₁, cX, kX, hfX, hkX, -, -, X₁, st1⟩ := Y.newCold hexec (own := own) (C := cls) (index := ik) (n := 6) hown' hk' hins hini'
    (g := F0 m pc ls rest) rfl (by rw [hb]; exact d0) (Nat.le_refl _) (Nat.le_refl _)
  generalize hT1 : (T.setVm vm₁).pushCell { cls := cX, slots := kX.instanceTypes.map defaultValue, vm := .none } = T1 at X₁ st1
  have hcat : (Value.ref T.heap.size).category = 1 := rfl
  have hcellA : T1.heap[T.heap.size]? = some (freshCell cX kX) := by rw [← hT1]; exact State.heap_pushCell_size _ _
  have d3' : decode c.code (pc + 3) = .ok (.dup, 1) := by rw [hb]; exact d3
  obtain ⟨U, hsteps, hrun, hend, hW, hsame, ce, hce, hO⟩ := X₁.ctorThrow0 hexec htr (own := own) (cls := cls) (names := names) (ic := ic) hown' hcls hnames h (fun x hx => nomatch hx) hfX hkX hcellA (by rw [hhp, hT]; exact Nat.le_refl _)
    (g := { method := m, pc := pc + 4, locals := ls, stack := .ref T.heap.size :: .ref T.heap.size :: rest, locked := none }) rfl hsize rfl rfl (rest := rest) rfl
    (by rw [hb]; exact d4) (by rw [hb]; exact d7) hout hRframes (by simp only [List.map_cons, List.sum_cons, hcat]; omega) hlocks
  obtain ⟨f1, f2⟩ := vx_frame hsame
  rw [hhp] at f1 f2
  have hWs : s.WarmedH U.vm := State.WarmedH.trans hW0 hW
  have hcl : s.vm.findClass cls = some ce.cls := by
    have h9 := hO.cls
    rw [hvm] at h9
    exact h9
  have hall : s.sameButNew ({ U with vm := s.vm } : State) locs mc ms := by
    subst hA
    obtain ⟨e1, e2⟩ := hsame
    rw [State.setFrames_setFrames] at e1
    have h2 : (T.setVm s.vm).sameButNew ({ U with vm := s.vm } : State) [] (0 + 1) (0 + 6) := ⟨e1, e2⟩
    have h3 := X.same.trans h2
    rw [List.append_nil] at h3
    exact h3.mono hc hs
  refine ⟨U, ?_, .threw T.heap.size, hrun, hend, Or.inr ⟨T.heap.size, rfl, cls, ce, locs, hx U hWs.alike f1 (fun q hq => f2 q hq (fun z hz => nomatch hz)), hce, hO.vm, hcl, hWs, hall, hf⟩⟩
  refine st1 _ ?_
  show Steps p.tables e below (T1.setTop { method := m, pc := pc + 3, locals := ls, stack := .ref T.heap.size :: rest, locked := none }) _
  jvm_step X₁.here [X₁.here.top, hexec, d3', Value.category]
  exact hsteps
/-- 'throw new E("text")': new; dup; ldc; invokespecial; athrow -/
theorem vx_throwS {cc : ByteArray} {pc : Nat} (hexec : p.tables.exec = Jvm.exec) (hb : c.code = cc) (hl : l.stackTraces = false) {own cls text : String} {names : List String} {ik is ic mc ms sa : Nat} {A : Nat → Prop}
    (hown : s.vm.findClass own = some m.cls) (hcls : Bundle.fit cls = true) (hnames : ∀ n ∈ names, Bundle.fit n = true)
    (hk : (Cond.classLink own ik cls).before args s = true) (hini : (Cond.initialized cls).before args s = true) (hstr : vk_R own is text sa s) (hat : ∀ w ∈ vx_atS own ic cls names, w.before args s = true)
    (hgood : ∀ w ∈ Cond.classLink own ik cls :: Cond.initialized cls :: vx_atS own ic cls names, vx_ot w = true)
    (hU : vx_Zq Bundle.tN "UNASSIGNED_STACK" Bundle.steD A s s.heap) (hN : vx_Zq Bundle.tN "SUPPRESSED_SENTINEL" Bundle.listD A s s.heap) (hS : va_S A s.heap H locs) (hsize : ls.size = c.maxLocals)
    (d0 : decode cc pc = .ok (.new ik, 3)) (d3 : decode cc (pc + 3) = .ok (.dup, 1)) (d4 : decode cc (pc + 4) = .ok (.ldc is, 2)) (d6 : decode cc (pc + 6) = .ok (.invokespecial ic, 3)) (d9 : decode cc (pc + 9) = .ok (.athrow, 1))
    (hout : ∀ x ∈ c.exceptionTable.toList, covers x (pc + 9) = false)
    (hRframes : names.length + 3 < R.frames) (hRlocals : (rest.map fun v => v.category).sum + (13 * (names.length + 1) + 43) ≤ R.locals) (hRcells : cells + 1 ≤ R.cells) (hRslots : slots + 6 ≤ R.slots) (hlocks : meth.locks = false)
    (hx : ∀ t : State, s.vm.Alike t.vm → H.size ≤ t.heap.size → (∀ q : Nat, q < H.size → t.heap[q]? = H[q]?) → XC cls s t)
    (hf : ∀ z ∈ locs, free z.base) (hc : cells + 1 ≤ mc) (hs : slots + 6 ≤ ms) :
    W p l e R s m args below meth c H locs cells slots (vx_MQ below Qc XC args s mc ms free) (F0 m pc ls rest) := by
  intro T hT X
  have htr : e.platform.stackTraces = false := (show e.platform.stackTraces = l.stackTraces by rw [X.admits.platform]).trans hl
  have Y := vx_rebase X (R' := { frames := R.frames, locals := R.locals, cells := 1, slots := 6 }) (Nat.le_refl _) (Nat.le_refl _) hRcells hRslots
  obtain ⟨s', hA⟩ : ∃ z, z = (T.setVm s.vm).setFrames (.invoking m args :: below) := ⟨_, rfl⟩
  rw [← hA] at Y
  have hvm : s'.vm = s.vm := by rw [hA]; rfl
  have hhp : s'.heap = H := by rw [hA]; exact hT
  have hW0 : s.WarmedH s'.vm := by rw [hvm]; exact State.WarmedH.refl s
  have hat' : ∀ w ∈ vx_atS own ic cls names, w.before args s' = true := fun w hw => vx_ot_at hW0 hvm.symm (hgood w (List.mem_cons_of_mem _ (List.mem_cons_of_mem _ hw))) (hat w hw)
  have hk' : (Cond.classLink own ik cls).before args s' = true := vx_ot_at hW0 hvm.symm (hgood _ List.mem_cons_self) hk
  have hini' : (Cond.initialized cls).before args s' = true := vx_ot_at hW0 hvm.symm (hgood _ (List.mem_cons_of_mem _ List.mem_cons_self)) hini
  have hU' : vx_Zq Bundle.tN "UNASSIGNED_STACK" Bundle.steD A s' s'.heap := by rw [hhp]; exact vx_Zq.moved hW0.alike (hU.kept hS.2.1)
  have hN' : vx_Zq Bundle.tN "SUPPRESSED_SENTINEL" Bundle.listD A s' s'.heap := by rw [hhp]; exact vx_Zq.moved hW0.alike (hN.kept hS.2.1)
  have h : ∀ w ∈ Bundle.ownAtoms own ic cls names, w.before args s' = true := vx_own hat' (vx_isRefq hU'.1) (vx_isRefq hN'.1) hU'.2.word hN'.2.word
  have hown' : s'.vm.findClass own = some m.cls := by rw [hvm]; exact hown
  have hins : (Cond.instantiable cls 6).before args s' = true := h _ (by simp [Bundle.ownAtoms])
  obtain ⟨vm₁, cX, kX, hfX, hkX, -, -, X₁, st1⟩ := Y.newCold hexec (own := own) (C := cls) (index := ik) (n := 6) hown' hk' hins hini'
    (g := F0 m pc ls rest) rfl (by rw [hb]; exact d0) (Nat.le_refl _) (Nat.le_refl _)
  generalize hT1 : (T.setVm vm₁).pushCell { cls := cX, slots := kX.instanceTypes.map defaultValue, vm := .none } = T1 at X₁ st1
  have hcat : (Value.ref T.heap.size).category = 1 := rfl
  have hcellA : T1.heap[T.heap.size]? = some (freshCell cX kX) := by rw [← hT1]; exact State.heap_pushCell_size _ _
  have d3' : decode c.code (pc + 3) = .ok (.dup, 1) := by rw [hb]; exact d3
  have d4' : decode c.code (pc + 4) = .ok (.ldc is, 2) := by rw [hb]; exact d4
  have hstr' : vk_R own is text sa s' := vk_R.warm hW0 hstr
  obtain ⟨U, hsteps, hrun, hend, hW, hsame, ce, hce, hO⟩ := X₁.ctorThrowS hexec htr (own := own) (cls := cls) (names := names) (ic := ic) hown' hcls hnames h (fun x hx => nomatch hx) hfX hkX hcellA (by rw [hhp, hT]; exact Nat.le_refl _) (msg := .ref sa) rfl
    (g := { method := m, pc := pc + 6, locals := ls, stack := .ref sa :: .ref T.heap.size :: .ref T.heap.size :: rest, locked := none }) rfl hsize rfl rfl (rest := rest) rfl
    (by rw [hb]; exact d6) (by rw [hb]; exact d9) hout hRframes (by simp only [List.map_cons, List.sum_cons, hcat]; omega) hlocks
  obtain ⟨f1, f2⟩ := vx_frame hsame
  rw [hhp] at f1 f2
  have hWs : s.WarmedH U.vm := State.WarmedH.trans hW0 hW
  have hcl : s.vm.findClass cls = some ce.cls := by
    have h9 := hO.cls
    rw [hvm] at h9
    exact h9
  have hall : s.sameButNew ({ U with vm := s.vm } : State) locs mc ms := by
    subst hA
    obtain ⟨e1, e2⟩ := hsame
    rw [State.setFrames_setFrames] at e1
    have h2 : (T.setVm s.vm).sameButNew ({ U with vm := s.vm } : State) [] (0 + 1) (0 + 6) := ⟨e1, e2⟩
    have h3 := X.same.trans h2
    rw [List.append_nil] at h3
    exact h3.mono hc hs
  refine ⟨U, ?_, .threw T.heap.size, hrun, hend, Or.inr ⟨T.heap.size, rfl, cls, ce, locs, hx U hWs.alike f1 (fun q hq => f2 q hq (fun z hz => nomatch hz)), hce, hO.vm, hcl, hWs, hall, hf⟩⟩
  refine st1 _ ?_
  show Steps p.tables e below (T1.setTop { method := m, pc := pc + 3, locals := ls, stack := .ref T.heap.size :: rest, locked := none }) _
  jvm_step X₁.here [X₁.here.top, hexec, d3', Value.category]
  exact X₁.ldcString hexec (own := own) (text := text) (index := is) (a := sa) hown' hstr'.1 hstr'.2
    (g := { method := m, pc := pc + 4, locals := ls, stack := .ref T.heap.size :: .ref T.heap.size :: rest, locked := none }) rfl d4' _ hsteps
/-- 'throw new E("text")', the text by a wide index -/
theorem vx_throwSW {cc : ByteArray} {pc : Nat} (hexec : p.tables.exec = Jvm.exec) (hb : c.code = cc) (hl : l.stackTraces = false) {own cls text : String} {names : List String} {ik is ic mc ms sa : Nat} {A : Nat → Prop}
    (hown : s.vm.findClass own = some m.cls) (hcls : Bundle.fit cls = true) (hnames : ∀ n ∈ names, Bundle.fit n = true)
    (hk : (Cond.classLink own ik cls).before args s = true) (hini : (Cond.initialized cls).before args s = true) (hstr : vk_R own is text sa s) (hat : ∀ w ∈ vx_atS own ic cls names, w.before args s = true)
    (hgood : ∀ w ∈ Cond.classLink own ik cls :: Cond.initialized cls :: vx_atS own ic cls names, vx_ot w = true)
    (hU : vx_Zq Bundle.tN "UNASSIGNED_STACK" Bundle.steD A s s.heap) (hN : vx_Zq Bundle.tN "SUPPRESSED_SENTINEL" Bundle.listD A s s.heap) (hS : va_S A s.heap H locs) (hsize : ls.size = c.maxLocals)
    (d0 : decode cc pc = .ok (.new ik, 3)) (d3 : decode cc (pc + 3) = .ok (.dup, 1)) (d4 : decode cc (pc + 4) = .ok (.ldc_w is, 3)) (d7 : decode cc (pc + 7) = .ok (.invokespecial ic, 3)) (d10 : decode cc (pc + 10) = .ok (.athrow, 1))
    (hout : ∀ x ∈ c.exceptionTable.toList, covers x (pc + 10) = false)
    (hRframes : names.length + 3 < R.frames) (hRlocals : (rest.map fun v => v.category).sum + (13 * (names.length + 1) + 43) ≤ R.locals) (hRcells : cells + 1 ≤ R.cells) (hRslots : slots + 6 ≤ R.slots) (hlocks : meth.locks = false)
    (hx : ∀ t : State, s.vm.Alike t.vm → H.size ≤ t.heap.size → (∀ q : Nat, q < H.size → t.heap[q]? = H[q]?) → XC cls s t)
    (hf : ∀ z ∈ locs, free z.base) (hc : cells + 1 ≤ mc) (hs : slots + 6 ≤ ms) :
    W p l e R s m args below meth c H locs cells slots (vx_MQ below Qc XC args s mc ms free) (F0 m pc ls rest) := by
  intro T hT X
  have htr : e.platform.stackTraces = false := (show e.platform.stackTraces = l.stackTraces by rw [X.admits.platform]).trans hl
  have Y := vx_rebase X (R' := { frames := R.frames, locals := R.locals, cells := 1, slots := 6 }) (Nat.le_refl _) (Nat.le_refl _) hRcells hRslots
  obtain ⟨s', hA⟩ : ∃ z, z = (T.setVm s.vm).setFrames (.invoking m args :: below) := ⟨_, rfl⟩
  rw [← hA] at Y
  have hvm : s'.vm = s.vm := by rw [hA]; rfl
  have hhp : s'.heap = H := by rw [hA]; exact hT
  have hW0 : s.WarmedH s'.vm := by rw [hvm]; exact State.WarmedH.refl s
  have hat' : ∀ w ∈ vx_atS own ic cls names, w.before args s' = true := fun w hw => vx_ot_at hW0 hvm.symm (hgood w (List.mem_cons_of_mem _ (List.mem_cons_of_mem _ hw))) (hat w hw)
  have hk' : (Cond.classLink own ik cls).before args s' = true := vx_ot_at hW0 hvm.symm (hgood _ List.mem_cons_self) hk
  have hini' : (Cond.initialized cls).before args s' = true := vx_ot_at hW0 hvm.symm (hgood _ (List.mem_cons_of_mem _ List.mem_cons_self)) hini
  have hU' : vx_Zq Bundle.tN "UNASSIGNED_STACK" Bundle.steD A s' s'.heap := by rw [hhp]; exact vx_Zq.moved hW0.alike (hU.kept hS.2.1)
  have hN' : vx_Zq Bundle.tN "SUPPRESSED_SENTINEL" Bundle.listD A s' s'.heap := by rw [hhp]; exact vx_Zq.moved hW0.alike (hN.kept hS.2.1)
  have h : ∀ w ∈ Bundle.ownAtoms own ic cls names, w.before args s' = true := vx_own hat' (vx_isRefq hU'.1) (vx_isRefq hN'.1) hU'.2.word hN'.2.word
  have hown' : s'.vm.findClass own = some m.cls := by rw [hvm]; exact hown
  have hins : (Cond.instantiable cls 6).before args s' = true := h _ (by simp [Bundle.ownAtoms])
  obtain ⟨vm₁, cX, kX, hfX, hkX, -, -, X₁, st1⟩ := Y.newCold hexec (own := own) (C := cls) (index := ik) (n := 6) hown' hk' hins hini'
    (g := F0 m pc ls rest) rfl (by rw [hb]; exact d0) (Nat.le_refl _) (Nat.le_refl _)
  generalize hT1 : (T.setVm vm₁).pushCell { cls := cX, slots := kX.instanceTypes.map defaultValue, vm := .none } = T1 at X₁ st1
  have hcat : (Value.ref T.heap.size).category = 1 := rfl
  have hcellA : T1.heap[T.heap.size]? = some (freshCell cX kX) := by rw [← hT1]; exact State.heap_pushCell_size _ _
  have d3' : decode c.code (pc + 3) = .ok (.dup, 1) := by rw [hb]; exact d3
  have d4' : decode c.code (pc + 4) = .ok (.ldc_w is, 3) := by rw [hb]; exact d4
  have hstr' : vk_R own is text sa s' := vk_R.warm hW0 hstr
  obtain ⟨U, hsteps, hrun, hend, hW, hsame, ce, hce, hO⟩ := X₁.ctorThrowS hexec htr (own := own) (cls := cls) (names := names) (ic := ic) hown' hcls hnames h (fun x hx => nomatch hx) hfX hkX hcellA (by rw [hhp, hT]; exact Nat.le_refl _) (msg := .ref sa) rfl
    (g := { method := m, pc := pc + 7, locals := ls, stack := .ref sa :: .ref T.heap.size :: .ref T.heap.size :: rest, locked := none }) rfl hsize rfl rfl (rest := rest) rfl
    (by rw [hb]; exact d7) (by rw [hb]; exact d10) hout hRframes (by simp only [List.map_cons, List.sum_cons, hcat]; omega) hlocks
  obtain ⟨f1, f2⟩ := vx_frame hsame
  rw [hhp] at f1 f2
  have hWs : s.WarmedH U.vm := State.WarmedH.trans hW0 hW
  have hcl : s.vm.findClass cls = some ce.cls := by
    have h9 := hO.cls
    rw [hvm] at h9
    exact h9
  have hall : s.sameButNew ({ U with vm := s.vm } : State) locs mc ms := by
    subst hA
    obtain ⟨e1, e2⟩ := hsame
    rw [State.setFrames_setFrames] at e1
    have h2 : (T.setVm s.vm).sameButNew ({ U with vm := s.vm } : State) [] (0 + 1) (0 + 6) := ⟨e1, e2⟩
    have h3 := X.same.trans h2
    rw [List.append_nil] at h3
    exact h3.mono hc hs
  refine ⟨U, ?_, .threw T.heap.size, hrun, hend, Or.inr ⟨T.heap.size, rfl, cls, ce, locs, hx U hWs.alike f1 (fun q hq => f2 q hq (fun z hz => nomatch hz)), hce, hO.vm, hcl, hWs, hall, hf⟩⟩
  refine st1 _ ?_
  show Steps p.tables e below (T1.setTop { method := m, pc := pc + 3, locals := ls, stack := .ref T.heap.size :: rest, locked := none }) _
  jvm_step X₁.here [X₁.here.top, hexec, d3', Value.category]
  exact X₁.ldcStringW hexec (own := own) (text := text) (index := is) (a := sa) hown' hstr'.1 hstr'.2
    (g := { method := m, pc := pc + 4, locals := ls, stack := .ref T.heap.size :: .ref T.heap.size :: rest, locked := none }) rfl d4' _ hsteps
end Ends
section Bodies
variable {l : Launch}
theorem vx_ofW {y : MethodName} {ws ws' : List Cond} {rm : Room} {Pc : Array Value → State → Prop} {Qc : Array Value → State → Outcome → State → Prop} {XC : String → State → State → Prop} {mc ms : Nat} {free : Addr → Prop} {cc : ByteArray} {maxL : Nat} {ret : Option FieldType}
    (hy : plainName y.cls = true) (hw : ws = Cond.code y cc maxL ret :: ws')
    (body : ∀ p e s m args below meth c s₁, BodyLoose p l y (headSpec ws rm) cc maxL ret e s m args below meth c s₁ → c.maxLocals = maxL → (∀ x ∈ c.exceptionTable.toList, False) → Pc args s →
      W p l e (headSpec ws rm).room s m args below meth c s.heap [] 0 0 (vx_MQ below Qc XC args s mc ms free) (entryFrame m args maxL)) : vx_Met l y ws rm Pc Qc XC mc ms free := by
  refine MetFree.of_bodyS (code := cc) (maxLocals := maxL) (ret := ret) hy ?_ ?_
  · intro args s m h hn
    obtain ⟨meth, c, h1, h2, h3, h4, h5, h6, -, -⟩ := Cond.code_spec hn (atoms_spec (ws := ws) h _ (by rw [hw]; exact List.mem_cons_self))
    exact ⟨meth, c, h1, h2, h3, h4, h5, h6⟩
  · intro p e s m args below meth c s₁ B hml hP _
    have hh0 : s₁.heap = s.heap := by rw [B.state]; rfl
    have ht : ∀ x ∈ c.exceptionTable.toList, False := by
      obtain ⟨meth9, c9, h1, h2, -, -, -, -, h7, -⟩ := Cond.code_spec B.named (atoms_spec (ws := ws) B.pre _ (by rw [hw]; exact List.mem_cons_self))
      cases Option.some.inj (h1.symm.trans B.method)
      cases Option.some.inj (h2.symm.trans (Stand.of_body B).code)
      intro x hx
      rw [Array.isEmpty_iff.mp h7] at hx
      cases hx
    obtain ⟨t, a1, o, b1, b2, b3⟩ := body p e s m args below meth c s₁ B hml ht hP s₁ hh0 (Stand.of_body B)
    exact ⟨t, o, a1, b1, b2, b3⟩
/-- the table of a body with handlers -/
theorem vx_table {p : Program} {x y : MethodName} {S : Spec} {cc bytes : ByteArray} {maxL maxL' : Nat} {ret ret' : Option FieldType} {e : Env} {s s₁ : State} {m : MethodId} {args : Array Value} {below : List Frame} {meth : Method} {c : Code} {hh : List (Nat × Nat × Nat × Nat)}
    (B : BodyLoose p l y S cc maxL ret e s m args below meth c s₁) (h : (Cond.codeWith y bytes maxL' ret' hh).before args s = true) : c.exceptionTable.toList = tableOf hh := by
  obtain ⟨m9, meth9, c9, hn9, h1, h2, -, -, h6, -⟩ := Cond.codeWith_spec h
  cases Option.some.inj (hn9.symm.trans B.named)
  cases Option.some.inj (h1.symm.trans B.method)
  cases Option.some.inj (h2.symm.trans (Stand.of_body B).code)
  rw [← h6, table_eq]
end Bodies
end VXA
/-! ===== END ===== -/
/-! ===== BEGIN a static call of a method with an exception table ===== -/
section VXS
variable {p : Program} {l : Launch} {e : Env} {R : Room} {s : State} {m : MethodId} {args : Array Value} {below : List Frame} {meth : Method} {c : Code} {T : State} {H : Heap} {locs : List Loc} {cells slots : Nat}
abbrev vx_CSW (R : Room) (s : State) (args : Array Value) (own : String) (index : Nat) (y : MethodName) (bytes : ByteArray) (maxL : Nat) (ret : Option FieldType) (hh : List (Nat × Nat × Nat × Nat)) (ws : List Cond) (rm : Room) (mc ms n : Nat) : Prop :=
  (rm.cells = mc ∧ rm.slots = ms ∧ rm.frames + 1 ≤ R.frames ∧ 8 + (maxL + 11) + rm.locals ≤ R.locals ∧ (∀ w ∈ ws, ∀ (a' : Array Value) (U : State), s.WarmedH U.vm → w.before a' U = true) ∧ Cond.codeWith y bytes maxL ret hh ∈ ws) ∧
  (Cond.codeWith y bytes maxL ret hh).before args s = true ∧ (Cond.initialized y.cls).before args s = true ∧ (y.cls ≠ "java/lang/invoke/MethodHandle" ∧ y.cls ≠ "java/lang/invoke/VarHandle") ∧
  (∀ sig, parseMethodDescriptor y.desc = some sig → n = sig.parameters.length) ∧ (Cond.methodLink own index y).before args s = true ∧ (Cond.static y).before args s = true
theorem vx_cwSW {own : String} {index maxL mc ms : Nat} {y : MethodName} {bytes : ByteArray} {ret : Option FieldType} {hh : List (Nat × Nat × Nat × Nat)} {Ts ws ws' : List Cond} {rm : Room} (n : Nat) (ht : ∀ w ∈ Ts, w.before args s = true) (hT : GoodIn Ts (va_wsS own index y ws)) (hw : ws = Cond.codeWith y bytes maxL ret hh :: ws') (hrc : rm.cells = mc) (hrs : rm.slots = ms)
    (hd : y.cls ≠ "java/lang/invoke/MethodHandle" ∧ y.cls ≠ "java/lang/invoke/VarHandle" ∧ (parseMethodDescriptor y.desc).map (fun d => d.parameters.length) = some n) (hR : rm.frames + 1 ≤ R.frames ∧ 8 + (maxL + 11) + rm.locals ≤ R.locals) :
    vx_CSW R s args own index y bytes maxL ret hh ws rm mc ms n := by
  have ok : ∀ w ∈ va_wsS own index y ws, w.before args s = true := fun w h => ht w (hT w h).1
  have hG : GoodIn Ts ws := fun w h => hT w (by unfold va_wsS; exact List.mem_append_right _ h)
  have hc : Cond.codeWith y bytes maxL ret hh ∈ ws := by rw [hw]; exact List.mem_cons_self
  refine ⟨⟨hrc, hrs, hR.1, hR.2, pay_in ht hG, hc⟩, ht _ (hG _ hc).1, ok _ (by simp [va_wsS]), ⟨hd.1, hd.2.1⟩, fun sig h => ?_, ok _ (by simp [va_wsS]), ok _ (by simp [va_wsS])⟩
  have h2 := hd.2.2
  rw [h] at h2
  exact (Option.some.inj h2).symm
theorem vx_callSW (X : Stand p l e R s m args below meth c T locs cells slots) (hexec : p.tables.exec = Jvm.exec) {own : String} {index : Nat} {y : MethodName} {bytes : ByteArray} {maxL : Nat} {ret : Option FieldType} {hh : List (Nat × Nat × Nat × Nat)}
    (hown : s.vm.findClass own = some m.cls) (hlink : (Cond.methodLink own index y).before args s = true) (hstat : (Cond.static y).before args s = true) (hinit : (Cond.initialized y.cls).before args s = true)
    (hcode : (Cond.codeWith y bytes maxL ret hh).before args s = true) (hy : y.cls ≠ "java/lang/invoke/MethodHandle" ∧ y.cls ≠ "java/lang/invoke/VarHandle")
    {W9 : Nat} {Pre : Pt → Array Value → Prop} {Post : Pt → Array Value → Option Value → Pt → Prop} (hK : Back l R p e below s args y 3 W9 Pre Post)
    {g : JFrame} (hg : g.method = m) (hsize : g.locals.size = c.maxLocals) {argsL rest : List Value} (hlen : ∀ sig, parseMethodDescriptor y.desc = some sig → argsL.length = sig.parameters.length)
    (hstack : g.stack = argsL.reverse ++ rest) (hW : 2 * g.monitorRoom + (rest.map fun v => v.category).sum ≤ W9) (hdg : decode c.code g.pc = .ok (.invokestatic index, 3))
    (hpre : ∀ vm₁, s.WarmedH vm₁ → Pre ⟨T.setVm vm₁, locs, cells, slots⟩ argsL.toArray) :
    ∃ (v : Option Value) (vm₁ : Vm) (B : Pt), s.WarmedH vm₁ ∧ Stand p l e R s m args below meth c B.U B.locs B.cells B.slots ∧ Post ⟨T.setVm vm₁, locs, cells, slots⟩ argsL.toArray v B ∧
      ∀ target, Steps p.tables e below (B.U.setTop { g with pc := g.pc + 3, stack := v.toList ++ rest }) target → Steps p.tables e below (T.setTop g) target := by
  obtain ⟨mk, methM, cM, hnamed, hmethM, -, -, -, -, -, -, hsigM⟩ := Cond.codeWith_spec hcode
  have hstatic : methM.isStatic = true := Cond.static_spec hnamed hmethM hstat
  obtain ⟨kP, hkP, -⟩ := className_of_methodNamed hnamed
  have hinitP : kP.init = .initialized := Cond.initialized_spec (findClass_of_methodNamed hnamed) hkP hinit
  obtain ⟨vm₁, X₁, hstep₁⟩ := X.invokestatic hexec hown hlink hnamed hmethM hstatic hkP hinitP hy (g := g) hg (argsL := argsL) (rest := rest) (hlen _ hsigM) hstack hdg
  obtain ⟨v, B, X', hpost, hsteps⟩ := hK m meth c ⟨T.setVm vm₁, locs, cells, slots⟩ { g with stack := rest } (.invokestatic index) mk argsL.toArray X₁ hg hsize hdg hW (X₁.named hnamed) (hpre vm₁ X₁.warmed)
  exact ⟨v, vm₁, B, X₁.warmed, X', hpost, fun target h => hstep₁ _ fun acts => by rw [doInvoke_state]; exact hsteps.trans h⟩
theorem vx_runSW {y : MethodName} {bytes cc : ByteArray} {maxL nL mc ms n index : Nat} {ret : Option FieldType} {hh : List (Nat × Nat × Nat × Nat)} {ws : List Cond} {rm : Room} {Pc : Array Value → State → Prop} {Qc : Array Value → State → Outcome → State → Prop} {free : Addr → Prop} {Ts : List Cond} {own : String} {As rest : List Value} {g : JFrame}
    (S : CallFix p m c cc nL s args Ts own) (hM : Met l y ws rm Pc Qc mc ms free) (cw : vx_CSW R s args own index y bytes maxL ret hh ws rm mc ms n) (hp : PreS s H Pc As)
    (hg : g.method = m) (hn : As.length = n) (hsize : g.locals.size = nL) (hstack : g.stack = As.reverse ++ rest) (hW : 2 * g.monitorRoom + (rest.map fun v => v.category).sum ≤ 8) (hdg : decode cc g.pc = .ok (.invokestatic index, 3)) (hf : cells + mc ≤ R.cells ∧ slots + ms ≤ R.slots) :
    va_Run p l e R s m args below meth c H locs cells slots mc ms g rest (Qc As.toArray) (free) := by
  obtain ⟨⟨hrc, hrs, hfr, hlo, hws, hcw⟩, hcode, hini, hy, hlen, hl, hstt⟩ := cw
  have hK : Back l R p e below s args y 3 8 (PreOf R mc ms Pc) (PostOf Qc mc ms free) := va_backW (hh := hh) (bytes := bytes) (maxL := maxL) (ret := ret) hM hp.1 hrc hrs hfr hlo hws hcw (fun a' U hW => word_at hW (Or.inl (by first | rfl | simp [Cond.onTables, Cond.keeps, Cond.steady])) hini)
  obtain ⟨hx, hb, hml, ho, -⟩ := S
  intro T hT X
  obtain ⟨v, vm₁, ⟨U', l2, c2, s2⟩, hW₁, X', ⟨g', mk, t, L, e1, e2, hq, h1, hL, h2, h3⟩, st⟩ := vx_callSW X hx (hh := hh) (bytes := bytes) (maxL := maxL) (ret := ret) ho hl hstt hini hcode hy hK hg (hsize.trans hml.symm) (argsL := As) (rest := rest) (fun sig h => hn.trans (hlen sig h)) hstack hW (by rw [hb]; exact hdg)
    (fun vm₁ hW₁ => ⟨hf.1, hf.2, hp.2 (T.setVm vm₁) hT hW₁⟩)
  dsimp only [Pt.U, Pt.locs, Pt.cells, Pt.slots] at X' e1 e2 h1 h2 h3 st
  subst h1; subst h2; subst h3
  exact ⟨v, (T.setVm vm₁).calling g' mk As.toArray, t, U', L, hT, X', hL, e1, e2, hq, st⟩
/-- not caught here, past rows that name other classes: it goes on to the caller -/
theorem vx_outP {p : Program} {l : Launch} {e : Env} {R : Room} {s : State} {m : MethodId} {args : Array Value} {below : List Frame} {meth : Method} {c : Code} {H : Heap} {locs : List Loc} {cells slots : Nat} {free : Addr → Prop} {ls : Array Slot} {rest : List Value} {Qc : Array Value → State → Outcome → State → Prop} {XC : String → State → State → Prop}
    {pc : Nat} {own E : String} {ce : Cell} {q : Addr} {mc ms : Nat} (hown : s.vm.findClass own = some m.cls) (hlocks : meth.locks = false)
    (hpass : ∀ z ∈ c.exceptionTable.toList, covers z pc = false ∨ (z.catchType ≠ 0 ∧ ∃ nm : String, (Cond.classLink own z.catchType nm).before args s = true ∧ va_Nc E nm s)) (hcell : H[q]? = some ce) (hv : ce.vm = .none) (hcl : s.vm.findClass E = some ce.cls)
    (hx : ∀ t : State, t.heap = H → s.vm.Alike t.vm → XC E s t) (hf : ∀ z ∈ locs, free z.base) (hc : cells ≤ mc) (hs : slots ≤ ms) :
    vx_W p l e R s m args below meth c H locs cells slots (vx_MQ below Qc XC args s mc ms free) (F0 m pc ls rest) q := by
  intro T hT X
  have hpl : e.platform.magicAccessors = ({} : Platform).magicAccessors := by rw [X.admits.platform]
  obtain ⟨vm', hW', X', st⟩ := X.outThrough hlocks q (g := F0 m pc ls rest) rfl rfl rfl (cell := ce) (by rw [hT]; exact hcell) (by rw [hv]; rfl)
    (by obtain ⟨k9, h9, -⟩ := Vm.findClass_spec hcl; exact ⟨k9, h9⟩) (fun z hz => by
      rcases hpass z hz with h | ⟨hz0, nm, hl1, hn1⟩
      · exact Or.inl h
      · obtain ⟨c6, hc6, hcl6⟩ := Cond.classLink_spec hown hl1 e.platform hpl
        obtain ⟨a8, b8, h1, h2, h3⟩ := hn1
        cases Option.some.inj (h1.symm.trans hcl)
        cases Option.some.inj (h2.symm.trans hc6)
        exact Or.inr ⟨hz0, _, hcl6, h3⟩)
  obtain ⟨g₀, hfr⟩ := X'.frames_eq
  have hcell9 : ((T.setVm vm').setFrames (.throwing q :: below)).heap[q]? = some ce := by
    show T.heap[q]? = some ce
    rw [hT]; exact hcell
  have hend : Ended ((T.setVm vm').setFrames (.throwing q :: below)) below (.threw q) := State.frames_setFrames _ (State.cur_lt_of_frames hfr)
  refine ⟨(T.setVm vm').setFrames (.throwing q :: below), ?_, .threw q, X'.here.running, hend, Or.inr ⟨q, rfl, E, ce, locs, hx _ hT (X'.ends _).1.alike, hcell9, hv, hcl, (X'.ends _).1, (X'.ends _).2.mono hc hs, hf⟩⟩
  rw [X.pushThrowing_eq]
  exact st
/-- a thing of a world lies in the heap -/
theorem vx_lt {D : va_G} {cl : List vw_C} {ws : va_W} {H1 : Heap} (h : va_P D cl ws H1) {k : Nat} {q : Nat × va_E} (hk : ws[k]? = some q) : q.1 < H1.size := (h k q hk).lt
end VXS
/-! ===== END ===== -/
/-! ===== BEGIN methods with a table of their own: called by a name, returning or throwing ===== -/
section VXH
/-! vx_backW, vx_callVX, vx_callSX, vx_callVW, vx_runVW, vx_runVX, vx_runSX, vx_ofWH follow the same proofs as their sisters above (Free/Laws.lean, Shelf42/LK1.lean); vx_outP calls Shelf42/NT130.lean (outThrough). -/
section
variable {l : Launch} {R : Room} {p : Program} {e : Env} {below : List Frame} {s : State} {sargs : Array Value} {y : MethodName} {len W9 : Nat}
theorem vx_backW {ws : List Cond} {rm : Room} {Pc : Array Value → State → Prop} {Qc : Array Value → State → Outcome → State → Prop} {XC : String → State → State → Prop} {mc ms : Nat} {free : Addr → Prop} {bytes : ByteArray} {maxL : Nat} {ret : Option FieldType} {hh : List (Nat × Nat × Nat × Nat)}
    (hM : vx_Met l y ws rm Pc Qc XC mc ms free) (hblind : FrameBlind Pc) (hrc : rm.cells = mc) (hrs : rm.slots = ms)
    (hframes : rm.frames + 1 ≤ R.frames) (hlocals : W9 + (maxL + 11) + rm.locals ≤ R.locals)
    (hws : ∀ w ∈ ws, ∀ a' U, s.WarmedH U.vm → w.before a' U = true) (hcode : Cond.codeWith y bytes maxL ret hh ∈ ws) (hinit : ∀ a' U, s.WarmedH U.vm → (Cond.initialized y.cls).before a' U = true) :
    vx_Back l R p e below s sargs y len W9 (PreOf R mc ms Pc) (PostOf Qc mc ms free) (vx_Post XC mc ms free) := by
  intro m meth c A g ig mk a X hg hsize hdg hW hn hp
  have h1 : (headSpec ws rm).pre.before a A.U = true := atoms_intro fun w hw => hws w hw _ _ X.warmed
  have h2 : (Cond.codeWith y bytes maxL ret hh).before a A.U = true := hws _ hcode _ _ X.warmed
  have h3 : (Cond.initialized y.cls).before a A.U = true := hinit _ _ X.warmed
  have h4 : A.cells + (headSpec ws rm).room.cells ≤ R.cells := by rw [show (headSpec ws rm).room.cells = mc from hrc]; exact hp.1
  have h5 : A.slots + (headSpec ws rm).room.slots ≤ R.slots := by rw [show (headSpec ws rm).room.slots = ms from hrs]; exact hp.2.1
  have hPc : Pc a (A.U.calling g mk a) := hblind _ _ _ _ hp.2.2
  obtain ⟨U, Ls, c0, s0⟩ := A
  dsimp only [Pt.U, Pt.locs, Pt.cells, Pt.slots] at h1 h2 h3 h4 h5 X hn hPc ⊢
  obtain ⟨m9, methY, cY, hn9, hmY, hcY, -, hlY, -⟩ := Cond.codeWith_spec h2
  cases Option.some.inj (hn9.symm.trans hn)
  obtain ⟨kY, hkY, -⟩ := className_of_methodNamed hn
  have hinitY : kY.init = .initialized := Cond.initialized_spec (findClass_of_methodNamed hn) hkY h3
  have h : At U g.method c below := by rw [hg]; exact X.here
  have hlocals9 : W9 + (maxL + 11) + (headSpec ws rm).room.locals ≤ R.locals := hlocals
  have happ : (headSpec ws rm).appliesLoose y e.platform (U.calling g mk a) = true :=
    Spec.appliesLoose_calling (g := g) h hdg hn hkY hinitY
      (X.room_calling (g := g) (R' := (headSpec ws rm).room) hsize hmY hcY hframes (by rw [hlY]; omega) h4 h5) h1
  obtain ⟨mid, hmid⟩ := h.above
  have hfr : (U.setTop g).frames = (.java g :: mid) ++ below := by rw [State.frames_setTop' g h.top, hmid]; rfl
  obtain ⟨o, s₂, hsteps, -, hend, hq⟩ := Steps.callFree hM p X.admits X.cas X.clock (acts := []) hfr happ hPc trivial
  have hq' : vx_Q Qc XC mc ms free a (U.calling g mk a) o s₂ := hq
  rw [State.frames_setTop' g h.top] at hend
  obtain ⟨g₀, hg0⟩ := Option.isSome_iff_exists.mp h.top
  obtain ⟨r, hr⟩ := State.topJava?_eq_some.mp hg0
  have hr' : (({ U with heap := s₂.heap, slotsUsed := s₂.slotsUsed } : State).setVm s₂.vm).frames = .java g₀ :: r := hr
  rcases hq' with ⟨hqc, L, hfe, hL⟩ | ⟨q, rfl, E, ce, L, hx, hce, hcv, hcl, hW₂, hsm, hL⟩
  · obtain ⟨⟨v, rfl⟩, hW₂, e2, q2, q3, q4, q5, q6⟩ := id hfe
    have e3 : s₂ = ({ (U.calling g mk a).setFrames s₂.frames with heap := s₂.heap, slotsUsed := s₂.slotsUsed } : State).setVm s₂.vm := by
      have : s₂ = ({ s₂ with vm := (U.calling g mk a).vm } : State).setVm s₂.vm := rfl
      rw [e2] at this
      exact this
    obtain ⟨c₂, i₂, len₂, hc₂, hd₂, hf₂⟩ := hend
    have hW' : U.WarmedH s₂.vm := hW₂
    have hcc : c₂ = c := by
      have h1 : s₂.code? g.method = U.code? g.method := by
        rw [State.code?_eq, State.code?_eq, hW'.alike.method?]
      exact Option.some.inj (hc₂.symm.trans (h1.trans h.code))
    subst hcc
    have hlen : len₂ = len := by rw [hdg] at hd₂; cases hd₂; rfl
    subst hlen
    have hs₂ : s₂ = (({ U with heap := s₂.heap, slotsUsed := s₂.slotsUsed } : State).setVm s₂.vm).setTop { g with pc := g.pc + len₂, stack := v.toList ++ g.stack } := by
      refine e3.trans ?_
      rw [hf₂, State.calling_eq h.top, State.setFrames_setFrames, State.setTop_of_frames _ hr', hr]
      rfl
    have hsame : U.sameButNew ({ U with heap := s₂.heap, slotsUsed := s₂.slotsUsed } : State) L mc ms := by
      refine ⟨?_, q2, q3, q4, q5, q6⟩
      obtain ⟨t, ht, -⟩ := State.frames_cons hr
      show ({ U with heap := s₂.heap, slotsUsed := s₂.slotsUsed } : State) = { U.setFrames U.frames with heap := s₂.heap, slotsUsed := s₂.slotsUsed }
      rw [State.setFrames_self ht]
    subst hg
    refine Or.inl ⟨v, ⟨(({ U with heap := s₂.heap, slotsUsed := s₂.slotsUsed } : State).setVm s₂.vm), Ls ++ L, c0 + mc, s0 + ms⟩,
      ⟨X.admits, X.cas, X.clock, X.frames, X.room, X.hears, X.method, X.code, (X.here.setHeapUsed s₂.heap s₂.slotsUsed).setVm hW'.alike, X.tail, State.WarmedH.trans X.warmed hW', X.limits, X.bytes, X.same.trans (hsame.setVm s.vm)⟩,
      ⟨g, mk, s₂, L, rfl, rfl, hqc, rfl, hL, rfl, rfl⟩, ?_⟩
    show Steps p.tables e below _ ((({ U with heap := s₂.heap, slotsUsed := s₂.slotsUsed } : State).setVm s₂.vm).setTop { g with pc := g.pc + len₂, stack := v.toList ++ g.stack })
    rw [← hs₂]
    exact hsteps
  · obtain ⟨e2, q2, q3, q4, q5, q6⟩ := id hsm
    have e3 : s₂ = ({ (U.calling g mk a).setFrames s₂.frames with heap := s₂.heap, slotsUsed := s₂.slotsUsed } : State).setVm s₂.vm := by
      have : s₂ = ({ s₂ with vm := (U.calling g mk a).vm } : State).setVm s₂.vm := rfl
      rw [e2] at this
      exact this
    have hf₂ : s₂.frames = .throwing q :: .java g :: U.frames.tail := hend
    have hW' : U.WarmedH s₂.vm := hW₂
    have hs₂ : s₂ = ((({ U with heap := s₂.heap, slotsUsed := s₂.slotsUsed } : State).setVm s₂.vm).setTop g).pushFrame (.throwing q) := by
      refine e3.trans ?_
      rw [hf₂, State.calling_eq h.top, State.setFrames_setFrames, State.pushFrame, State.frames_setTop _ hr', State.setTop_of_frames _ hr', State.setFrames_setFrames, hr]
      rfl
    have hsame : U.sameButNew ({ U with heap := s₂.heap, slotsUsed := s₂.slotsUsed } : State) L mc ms := by
      refine ⟨?_, q2, q3, q4, q5, q6⟩
      obtain ⟨t, ht, -⟩ := State.frames_cons hr
      show ({ U with heap := s₂.heap, slotsUsed := s₂.slotsUsed } : State) = { U.setFrames U.frames with heap := s₂.heap, slotsUsed := s₂.slotsUsed }
      rw [State.setFrames_self ht]
    subst hg
    refine Or.inr ⟨q, ⟨(({ U with heap := s₂.heap, slotsUsed := s₂.slotsUsed } : State).setVm s₂.vm), Ls ++ L, c0 + mc, s0 + ms⟩,
      ⟨X.admits, X.cas, X.clock, X.frames, X.room, X.hears, X.method, X.code, (X.here.setHeapUsed s₂.heap s₂.slotsUsed).setVm hW'.alike, X.tail, State.WarmedH.trans X.warmed hW', X.limits, X.bytes, X.same.trans (hsame.setVm s.vm)⟩,
      ⟨g, mk, s₂, L, E, ce, rfl, rfl, hx, hce, hcv, hcl, rfl, hL, rfl, rfl⟩, ?_⟩
    show Steps p.tables e below _ (((({ U with heap := s₂.heap, slotsUsed := s₂.slotsUsed } : State).setVm s₂.vm).setTop g).pushFrame (.throwing q))
    rw [← hs₂]
    exact hsteps
end
variable {p : Program} {l : Launch} {e : Env} {R : Room} {s : State} {m : MethodId} {args : Array Value} {below : List Frame} {meth : Method} {c : Code} {T : State} {H : Heap} {locs : List Loc} {cells slots : Nat}
theorem vx_callVX (X : Stand p l e R s m args below meth c T locs cells slots) (hexec : p.tables.exec = Jvm.exec) {own C : String} {index : Nat} {y : MethodName} {bytes : ByteArray} {maxL : Nat} {ret : Option FieldType} {hh : List (Nat × Nat × Nat × Nat)}
    (hown : s.vm.findClass own = some m.cls) (hlink : (Cond.methodLink own index y).before args s = true) (hinst : (Cond.instanceMethod y).before args s = true) (hsel : (Cond.selects C y y).before args s = true)
    (hcode : (Cond.codeWith y bytes maxL ret hh).before args s = true) (hy : y.cls ≠ "java/lang/invoke/MethodHandle" ∧ y.cls ≠ "java/lang/invoke/VarHandle")
    {W9 : Nat} {Pre : Pt → Array Value → Prop} {Post : Pt → Array Value → Option Value → Pt → Prop} {PostX : Pt → Array Value → Addr → Pt → Prop} (hK : vx_Back l R p e below s args y 3 W9 Pre Post PostX)
    {b : Addr} {cellB : Cell} (hcell : T.heap[b]? = some cellB) (hobj : cellB.vm.isStatics = false) (hcls : s.vm.findClass C = some cellB.cls)
    {g : JFrame} (hg : g.method = m) (hsize : g.locals.size = c.maxLocals) {argsL rest : List Value} (hlen : ∀ sig, parseMethodDescriptor y.desc = some sig → argsL.length = sig.parameters.length)
    (hstack : g.stack = argsL.reverse ++ .ref b :: rest) (hW : 2 * g.monitorRoom + (rest.map fun v => v.category).sum ≤ W9) (hdg : decode c.code g.pc = .ok (.invokevirtual index, 3))
    (hpre : ∀ vm₁, s.WarmedH vm₁ → Pre ⟨T.setVm vm₁, locs, cells, slots⟩ (Value.ref b :: argsL).toArray) :
    (∃ (v : Option Value) (vm₁ : Vm) (B : Pt), s.WarmedH vm₁ ∧ Stand p l e R s m args below meth c B.U B.locs B.cells B.slots ∧ Post ⟨T.setVm vm₁, locs, cells, slots⟩ (Value.ref b :: argsL).toArray v B ∧
      ∀ target, Steps p.tables e below (B.U.setTop { g with pc := g.pc + 3, stack := v.toList ++ rest }) target → Steps p.tables e below (T.setTop g) target) ∨
    (∃ (q : Addr) (vm₁ : Vm) (B : Pt), s.WarmedH vm₁ ∧ Stand p l e R s m args below meth c B.U B.locs B.cells B.slots ∧ PostX ⟨T.setVm vm₁, locs, cells, slots⟩ (Value.ref b :: argsL).toArray q B ∧
      Steps p.tables e below (T.setTop g) ((B.U.setTop { g with stack := rest }).pushFrame (.throwing q))) := by
  obtain ⟨mk, methM, hnamed, hmethM, hstM, habM⟩ := Cond.instanceMethod_spec hinst
  obtain ⟨m8, methM', cM, hn8, hmethM', -, -, -, -, -, -, hsigM⟩ := Cond.codeWith_spec hcode
  cases Option.some.inj (hn8.symm.trans hnamed)
  cases hmethM.symm.trans hmethM'
  obtain ⟨c2, r2, m2, q1, q2, q3, q4, kP, hkP, hkPi⟩ := Cond.selects_spec hsel
  cases hcls.symm.trans q1
  cases (State.methodFound?_of_named hnamed hy).symm.trans q2
  cases hnamed.symm.trans q3
  have hselP : selectMethod e.platform s.vm cellB.cls mk = .method mk := by rw [Launch.admits_selectMethod X.admits]; exact q4
  obtain ⟨vm₁, X₁, hstep₁⟩ := X.invokevirtual hexec hown hlink hnamed hmethM hstM hkP hkPi hy (a := b) (cell := cellB) hcell
    (fun z h => by rw [h] at hobj; cases hobj) hselP hmethM habM hkP hkPi (g := g) hg (argsL := argsL) (rest := rest) (hlen _ hsigM) hstack hdg
  rcases hK m meth c ⟨T.setVm vm₁, locs, cells, slots⟩ { g with stack := rest } (.invokevirtual index) mk (Value.ref b :: argsL).toArray X₁ hg hsize hdg hW (X₁.named hnamed) (hpre vm₁ X₁.warmed) with ⟨v, B, X', hpost, hsteps⟩ | ⟨q, B, X', hpost, hsteps⟩
  · exact Or.inl ⟨v, vm₁, B, X₁.warmed, X', hpost, fun target h => hstep₁ _ fun acts => by rw [doInvoke_state]; exact hsteps.trans h⟩
  · exact Or.inr ⟨q, vm₁, B, X₁.warmed, X', hpost, hstep₁ _ fun acts => by rw [doInvoke_state]; exact hsteps⟩
theorem vx_callSX (X : Stand p l e R s m args below meth c T locs cells slots) (hexec : p.tables.exec = Jvm.exec) {own : String} {index : Nat} {y : MethodName} {bytes : ByteArray} {maxL : Nat} {ret : Option FieldType} {hh : List (Nat × Nat × Nat × Nat)}
    (hown : s.vm.findClass own = some m.cls) (hlink : (Cond.methodLink own index y).before args s = true) (hstat : (Cond.static y).before args s = true) (hinit : (Cond.initialized y.cls).before args s = true)
    (hcode : (Cond.codeWith y bytes maxL ret hh).before args s = true) (hy : y.cls ≠ "java/lang/invoke/MethodHandle" ∧ y.cls ≠ "java/lang/invoke/VarHandle")
    {W9 : Nat} {Pre : Pt → Array Value → Prop} {Post : Pt → Array Value → Option Value → Pt → Prop} {PostX : Pt → Array Value → Addr → Pt → Prop} (hK : vx_Back l R p e below s args y 3 W9 Pre Post PostX)
    {g : JFrame} (hg : g.method = m) (hsize : g.locals.size = c.maxLocals) {argsL rest : List Value} (hlen : ∀ sig, parseMethodDescriptor y.desc = some sig → argsL.length = sig.parameters.length)
    (hstack : g.stack = argsL.reverse ++ rest) (hW : 2 * g.monitorRoom + (rest.map fun v => v.category).sum ≤ W9) (hdg : decode c.code g.pc = .ok (.invokestatic index, 3))
    (hpre : ∀ vm₁, s.WarmedH vm₁ → Pre ⟨T.setVm vm₁, locs, cells, slots⟩ argsL.toArray) :
    (∃ (v : Option Value) (vm₁ : Vm) (B : Pt), s.WarmedH vm₁ ∧ Stand p l e R s m args below meth c B.U B.locs B.cells B.slots ∧ Post ⟨T.setVm vm₁, locs, cells, slots⟩ argsL.toArray v B ∧
      ∀ target, Steps p.tables e below (B.U.setTop { g with pc := g.pc + 3, stack := v.toList ++ rest }) target → Steps p.tables e below (T.setTop g) target) ∨
    (∃ (q : Addr) (vm₁ : Vm) (B : Pt), s.WarmedH vm₁ ∧ Stand p l e R s m args below meth c B.U B.locs B.cells B.slots ∧ PostX ⟨T.setVm vm₁, locs, cells, slots⟩ argsL.toArray q B ∧
      Steps p.tables e below (T.setTop g) ((B.U.setTop { g with stack := rest }).pushFrame (.throwing q))) := by
  obtain ⟨mk, methM, cM, hnamed, hmethM, -, -, -, -, -, -, hsigM⟩ := Cond.codeWith_spec hcode
  have hstatic : methM.isStatic = true := Cond.static_spec hnamed hmethM hstat
  obtain ⟨kP, hkP, -⟩ := className_of_methodNamed hnamed
  have hinitP : kP.init = .initialized := Cond.initialized_spec (findClass_of_methodNamed hnamed) hkP hinit
  obtain ⟨vm₁, X₁, hstep₁⟩ := X.invokestatic hexec hown hlink hnamed hmethM hstatic hkP hinitP hy (g := g) hg (argsL := argsL) (rest := rest) (hlen _ hsigM) hstack hdg
  rcases hK m meth c ⟨T.setVm vm₁, locs, cells, slots⟩ { g with stack := rest } (.invokestatic index) mk argsL.toArray X₁ hg hsize hdg hW (X₁.named hnamed) (hpre vm₁ X₁.warmed) with ⟨v, B, X', hpost, hsteps⟩ | ⟨q, B, X', hpost, hsteps⟩
  · exact Or.inl ⟨v, vm₁, B, X₁.warmed, X', hpost, fun target h => hstep₁ _ fun acts => by rw [doInvoke_state]; exact hsteps.trans h⟩
  · exact Or.inr ⟨q, vm₁, B, X₁.warmed, X', hpost, hstep₁ _ fun acts => by rw [doInvoke_state]; exact hsteps⟩
theorem vx_callVW (X : Stand p l e R s m args below meth c T locs cells slots) (hexec : p.tables.exec = Jvm.exec) {own C : String} {index : Nat} {y : MethodName} {bytes : ByteArray} {maxL : Nat} {ret : Option FieldType} {hh : List (Nat × Nat × Nat × Nat)}
    (hown : s.vm.findClass own = some m.cls) (hlink : (Cond.methodLink own index y).before args s = true) (hinst : (Cond.instanceMethod y).before args s = true) (hsel : (Cond.selects C y y).before args s = true)
    (hcode : (Cond.codeWith y bytes maxL ret hh).before args s = true) (hy : y.cls ≠ "java/lang/invoke/MethodHandle" ∧ y.cls ≠ "java/lang/invoke/VarHandle")
    {W9 : Nat} {Pre : Pt → Array Value → Prop} {Post : Pt → Array Value → Option Value → Pt → Prop} (hK : Back l R p e below s args y 3 W9 Pre Post)
    {b : Addr} {cellB : Cell} (hcell : T.heap[b]? = some cellB) (hobj : cellB.vm.isStatics = false) (hcls : s.vm.findClass C = some cellB.cls)
    {g : JFrame} (hg : g.method = m) (hsize : g.locals.size = c.maxLocals) {argsL rest : List Value} (hlen : ∀ sig, parseMethodDescriptor y.desc = some sig → argsL.length = sig.parameters.length)
    (hstack : g.stack = argsL.reverse ++ .ref b :: rest) (hW : 2 * g.monitorRoom + (rest.map fun v => v.category).sum ≤ W9) (hdg : decode c.code g.pc = .ok (.invokevirtual index, 3))
    (hpre : ∀ vm₁, s.WarmedH vm₁ → Pre ⟨T.setVm vm₁, locs, cells, slots⟩ (Value.ref b :: argsL).toArray) :
    ∃ (v : Option Value) (vm₁ : Vm) (B : Pt), s.WarmedH vm₁ ∧ Stand p l e R s m args below meth c B.U B.locs B.cells B.slots ∧ Post ⟨T.setVm vm₁, locs, cells, slots⟩ (Value.ref b :: argsL).toArray v B ∧
      ∀ target, Steps p.tables e below (B.U.setTop { g with pc := g.pc + 3, stack := v.toList ++ rest }) target → Steps p.tables e below (T.setTop g) target := by
  obtain ⟨mk, methM, hnamed, hmethM, hstM, habM⟩ := Cond.instanceMethod_spec hinst
  obtain ⟨m8, methM', cM, hn8, hmethM', -, -, -, -, -, -, hsigM⟩ := Cond.codeWith_spec hcode
  cases Option.some.inj (hn8.symm.trans hnamed)
  cases hmethM.symm.trans hmethM'
  obtain ⟨c2, r2, m2, q1, q2, q3, q4, kP, hkP, hkPi⟩ := Cond.selects_spec hsel
  cases hcls.symm.trans q1
  cases (State.methodFound?_of_named hnamed hy).symm.trans q2
  cases hnamed.symm.trans q3
  have hselP : selectMethod e.platform s.vm cellB.cls mk = .method mk := by rw [Launch.admits_selectMethod X.admits]; exact q4
  obtain ⟨vm₁, X₁, hstep₁⟩ := X.invokevirtual hexec hown hlink hnamed hmethM hstM hkP hkPi hy (a := b) (cell := cellB) hcell
    (fun z h => by rw [h] at hobj; cases hobj) hselP hmethM habM hkP hkPi (g := g) hg (argsL := argsL) (rest := rest) (hlen _ hsigM) hstack hdg
  obtain ⟨v, B, X', hpost, hsteps⟩ := hK m meth c ⟨T.setVm vm₁, locs, cells, slots⟩ { g with stack := rest } (.invokevirtual index) mk (Value.ref b :: argsL).toArray X₁ hg hsize hdg hW (X₁.named hnamed) (hpre vm₁ X₁.warmed)
  exact ⟨v, vm₁, B, X₁.warmed, X', hpost, fun target h => hstep₁ _ fun acts => by rw [doInvoke_state]; exact hsteps.trans h⟩
abbrev vx_CVW (R : Room) (s : State) (args : Array Value) (own C : String) (index : Nat) (y : MethodName) (bytes : ByteArray) (maxL : Nat) (ret : Option FieldType) (hh : List (Nat × Nat × Nat × Nat)) (ws : List Cond) (rm : Room) (mc ms n : Nat) : Prop :=
  (rm.cells = mc ∧ rm.slots = ms ∧ rm.frames + 1 ≤ R.frames ∧ 8 + (maxL + 11) + rm.locals ≤ R.locals ∧ (∀ w ∈ ws, ∀ (a' : Array Value) (U : State), s.WarmedH U.vm → w.before a' U = true) ∧ Cond.codeWith y bytes maxL ret hh ∈ ws) ∧
  (Cond.codeWith y bytes maxL ret hh).before args s = true ∧ (Cond.initialized y.cls).before args s = true ∧ (y.cls ≠ "java/lang/invoke/MethodHandle" ∧ y.cls ≠ "java/lang/invoke/VarHandle") ∧
  (∀ sig, parseMethodDescriptor y.desc = some sig → n = sig.parameters.length) ∧ (Cond.methodLink own index y).before args s = true ∧ (Cond.instanceMethod y).before args s = true ∧ (Cond.selects C y y).before args s = true
theorem vx_cwVW {own C : String} {index maxL mc ms : Nat} {y : MethodName} {bytes : ByteArray} {ret : Option FieldType} {hh : List (Nat × Nat × Nat × Nat)} {Ts ws ws' : List Cond} {rm : Room} (n : Nat) (ht : ∀ w ∈ Ts, w.before args s = true) (hT : GoodIn Ts (wsV own index C y ws)) (hw : ws = Cond.codeWith y bytes maxL ret hh :: ws') (hrc : rm.cells = mc) (hrs : rm.slots = ms)
    (hd : y.cls = C ∧ y.cls ≠ "java/lang/invoke/MethodHandle" ∧ y.cls ≠ "java/lang/invoke/VarHandle" ∧ (parseMethodDescriptor y.desc).map (fun d => d.parameters.length) = some n) (hR : rm.frames + 1 ≤ R.frames ∧ 8 + (maxL + 11) + rm.locals ≤ R.locals) :
    vx_CVW R s args own C index y bytes maxL ret hh ws rm mc ms n := by
  obtain ⟨hC, hd⟩ := hd
  subst hC
  have ok : ∀ w ∈ wsV own index y.cls y ws, w.before args s = true := fun w h => ht w (hT w h).1
  have hG : GoodIn Ts ws := fun w h => hT w (by unfold wsV; exact List.mem_append_right _ h)
  have hc : Cond.codeWith y bytes maxL ret hh ∈ ws := by rw [hw]; exact List.mem_cons_self
  refine ⟨⟨hrc, hrs, hR.1, hR.2, pay_in ht hG, hc⟩, ht _ (hG _ hc).1, ok _ (by simp [wsV]), ⟨hd.1, hd.2.1⟩, fun sig h => ?_, ok _ (by simp [wsV]), ok _ (by simp [wsV]), ok _ (by simp [wsV])⟩
  have h2 := hd.2.2
  rw [h] at h2
  exact (Option.some.inj h2).symm
theorem vx_runVW {y : MethodName} {bytes cc : ByteArray} {maxL nL mc ms n index : Nat} {ret : Option FieldType} {hh : List (Nat × Nat × Nat × Nat)} {ws : List Cond} {rm : Room} {Pc : Array Value → State → Prop} {Qc : Array Value → State → Outcome → State → Prop} {free : Addr → Prop} {Ts : List Cond} {own C : String} {b : Addr} {As rest : List Value} {g : JFrame}
    (S : CallFix p m c cc nL s args Ts own) (hM : Met l y ws rm Pc Qc mc ms free) (cw : vx_CVW R s args own C index y bytes maxL ret hh ws rm mc ms n) (hp : PreV s H C b Pc As)
    (hg : g.method = m) (hn : As.length = n) (hsize : g.locals.size = nL) (hstack : g.stack = As.reverse ++ .ref b :: rest) (hW : 2 * g.monitorRoom + (rest.map fun v => v.category).sum ≤ 8) (hdg : decode cc g.pc = .ok (.invokevirtual index, 3)) (hf : cells + mc ≤ R.cells ∧ slots + ms ≤ R.slots) :
    va_Run p l e R s m args below meth c H locs cells slots mc ms g rest (Qc (Value.ref b :: As).toArray) free := by
  obtain ⟨⟨hrc, hrs, hfr, hlo, hws, hcw⟩, hcode, hini, hy, hlen, hl, hin, hse⟩ := cw
  have hK : Back l R p e below s args y 3 8 (PreOf R mc ms Pc) (PostOf Qc mc ms free) := va_backW (hh := hh) (bytes := bytes) (maxL := maxL) (ret := ret) hM hp.1 hrc hrs hfr hlo hws hcw (fun a' U hW => word_at hW (Or.inl (by first | rfl | simp [Cond.onTables, Cond.keeps, Cond.steady])) hini)
  obtain ⟨hx, hb, hml, ho, -⟩ := S
  obtain ⟨-, ⟨cellB, hcB, hoB, hclB⟩, hPc⟩ := hp
  intro T hT X
  obtain ⟨v, vm₁, ⟨U', l2, c2, s2⟩, hW₁, X', ⟨g', mk, t, L, e1, e2, hq, h1, hL, h2, h3⟩, st⟩ := vx_callVW X hx (C := C) (hh := hh) (bytes := bytes) (maxL := maxL) (ret := ret) ho hl hin hse hcode hy hK (by rw [hT]; exact hcB) hoB hclB hg (hsize.trans hml.symm) (argsL := As) (rest := rest) (fun sig h => hn.trans (hlen sig h)) hstack hW (by rw [hb]; exact hdg)
    (fun vm₁ hW₁ => ⟨hf.1, hf.2, hPc (T.setVm vm₁) hT hW₁⟩)
  dsimp only [Pt.U, Pt.locs, Pt.cells, Pt.slots] at X' e1 e2 h1 h2 h3 st
  subst h1; subst h2; subst h3
  exact ⟨v, (T.setVm vm₁).calling g' mk (Value.ref b :: As).toArray, t, U', L, hT, X', hL, e1, e2, hq, st⟩
section
variable {y : MethodName} {bytes cc : ByteArray} {maxL nL mc ms n index : Nat} {ret : Option FieldType} {ws : List Cond} {rm : Room} {Pc : Array Value → State → Prop} {Qc : Array Value → State → Outcome → State → Prop} {XC : String → State → State → Prop} {free : Addr → Prop} {Ts : List Cond} {own C : String} {b : Addr} {As rest : List Value} {g : JFrame}
theorem vx_runVX {hh : List (Nat × Nat × Nat × Nat)} (S : CallFix p m c cc nL s args Ts own) (hM : vx_Met l y ws rm Pc Qc XC mc ms free) (cw : vx_CVW R s args own C index y bytes maxL ret hh ws rm mc ms n) (hp : PreV s H C b Pc As)
    (hg : g.method = m) (hn : As.length = n) (hsize : g.locals.size = nL) (hstack : g.stack = As.reverse ++ .ref b :: rest) (hW : 2 * g.monitorRoom + (rest.map fun v => v.category).sum ≤ 8) (hdg : decode cc g.pc = .ok (.invokevirtual index, 3)) (hf : cells + mc ≤ R.cells ∧ slots + ms ≤ R.slots) :
    vx_Run p l e R s m args below meth c H locs cells slots mc ms g rest (Qc (Value.ref b :: As).toArray) XC free := by
  obtain ⟨⟨hrc, hrs, hfr, hlo, hws, hcw⟩, hcode, hini, hy, hlen, hl, hin, hse⟩ := cw
  have hK : vx_Back l R p e below s args y 3 8 (PreOf R mc ms Pc) (PostOf Qc mc ms free) (vx_Post XC mc ms free) := vx_backW (hh := hh) (bytes := bytes) (maxL := maxL) (ret := ret) hM hp.1 hrc hrs hfr hlo hws hcw (fun a' U hW => word_at hW (Or.inl (by first | rfl | simp [Cond.onTables, Cond.keeps, Cond.steady])) hini)
  obtain ⟨hx, hb, hml, ho, -⟩ := S
  obtain ⟨-, ⟨cellB, hcB, hoB, hclB⟩, hPc⟩ := hp
  intro T hT X
  rcases vx_callVX X hx (C := C) (hh := hh) (bytes := bytes) (maxL := maxL) (ret := ret) ho hl hin hse hcode hy hK (by rw [hT]; exact hcB) hoB hclB hg (hsize.trans hml.symm) (argsL := As) (rest := rest) (fun sig h => hn.trans (hlen sig h)) hstack hW (by rw [hb]; exact hdg)
    (fun vm₁ hW₁ => ⟨hf.1, hf.2, hPc (T.setVm vm₁) hT hW₁⟩) with ⟨v, vm₁, ⟨U', l2, c2, s2⟩, hW₁, X', ⟨g', mk, t, L, e1, e2, hq, h1, hL, h2, h3⟩, st⟩ | ⟨q, vm₁, ⟨U', l2, c2, s2⟩, hW₁, X', ⟨g', mk, t, L, E, ce, e1, e2, hq, hce, hcv, hcl, h1, hL, h2, h3⟩, st⟩
  · dsimp only [Pt.U, Pt.locs, Pt.cells, Pt.slots] at X' e1 e2 h1 h2 h3 st
    subst h1; subst h2; subst h3
    exact Or.inl ⟨v, (T.setVm vm₁).calling g' mk (Value.ref b :: As).toArray, t, U', L, hT, X', hL, e1, e2, hq, st⟩
  · dsimp only [Pt.U, Pt.locs, Pt.cells, Pt.slots] at X' e1 e2 h1 h2 h3 st hcl
    subst h1; subst h2; subst h3
    exact Or.inr ⟨q, (T.setVm vm₁).calling g' mk (Value.ref b :: As).toArray, t, U', L, E, ce, hT, X', hL, e1, e2, hq, hce, hcv, vx_cls hW₁ hcl, st⟩
theorem vx_runSX {hh : List (Nat × Nat × Nat × Nat)} (S : CallFix p m c cc nL s args Ts own) (hM : vx_Met l y ws rm Pc Qc XC mc ms free) (cw : vx_CSW R s args own index y bytes maxL ret hh ws rm mc ms n) (hp : PreS s H Pc As)
    (hg : g.method = m) (hn : As.length = n) (hsize : g.locals.size = nL) (hstack : g.stack = As.reverse ++ rest) (hW : 2 * g.monitorRoom + (rest.map fun v => v.category).sum ≤ 8) (hdg : decode cc g.pc = .ok (.invokestatic index, 3)) (hf : cells + mc ≤ R.cells ∧ slots + ms ≤ R.slots) :
    vx_Run p l e R s m args below meth c H locs cells slots mc ms g rest (Qc As.toArray) XC free := by
  obtain ⟨⟨hrc, hrs, hfr, hlo, hws, hcw⟩, hcode, hini, hy, hlen, hl, hstt⟩ := cw
  have hK : vx_Back l R p e below s args y 3 8 (PreOf R mc ms Pc) (PostOf Qc mc ms free) (vx_Post XC mc ms free) := vx_backW (hh := hh) (bytes := bytes) (maxL := maxL) (ret := ret) hM hp.1 hrc hrs hfr hlo hws hcw (fun a' U hW => word_at hW (Or.inl (by first | rfl | simp [Cond.onTables, Cond.keeps, Cond.steady])) hini)
  obtain ⟨hx, hb, hml, ho, -⟩ := S
  intro T hT X
  rcases vx_callSX X hx (hh := hh) (bytes := bytes) (maxL := maxL) (ret := ret) ho hl hstt hini hcode hy hK hg (hsize.trans hml.symm) (argsL := As) (rest := rest) (fun sig h => hn.trans (hlen sig h)) hstack hW (by rw [hb]; exact hdg)
    (fun vm₁ hW₁ => ⟨hf.1, hf.2, hp.2 (T.setVm vm₁) hT hW₁⟩) with ⟨v, vm₁, ⟨U', l2, c2, s2⟩, hW₁, X', ⟨g', mk, t, L, e1, e2, hq, h1, hL, h2, h3⟩, st⟩ | ⟨q, vm₁, ⟨U', l2, c2, s2⟩, hW₁, X', ⟨g', mk, t, L, E, ce, e1, e2, hq, hce, hcv, hcl, h1, hL, h2, h3⟩, st⟩
  · dsimp only [Pt.U, Pt.locs, Pt.cells, Pt.slots] at X' e1 e2 h1 h2 h3 st
    subst h1; subst h2; subst h3
    exact Or.inl ⟨v, (T.setVm vm₁).calling g' mk As.toArray, t, U', L, hT, X', hL, e1, e2, hq, st⟩
  · dsimp only [Pt.U, Pt.locs, Pt.cells, Pt.slots] at X' e1 e2 h1 h2 h3 st hcl
    subst h1; subst h2; subst h3
    exact Or.inr ⟨q, (T.setVm vm₁).calling g' mk As.toArray, t, U', L, E, ce, hT, X', hL, e1, e2, hq, hce, hcv, vx_cls hW₁ hcl, st⟩
end
end VXH
theorem vx_ofWH {l : Launch} {y : MethodName} {ws ws' : List Cond} {rm : Room} {Pc : Array Value → State → Prop} {Qc : Array Value → State → Outcome → State → Prop} {XC : String → State → State → Prop} {mc ms : Nat} {free : Addr → Prop} {cc : ByteArray} {maxL : Nat} {ret : Option FieldType} {hh : List (Nat × Nat × Nat × Nat)}
    (hy : plainName y.cls = true) (hw : ws = Cond.codeWith y cc maxL ret hh :: ws')
    (body : ∀ p e s m args below meth c s₁, BodyLoose p l y (headSpec ws rm) cc maxL ret e s m args below meth c s₁ → c.maxLocals = maxL → Pc args s →
      W p l e (headSpec ws rm).room s m args below meth c s.heap [] 0 0 (vx_MQ below Qc XC args s mc ms free) (entryFrame m args maxL)) : vx_Met l y ws rm Pc Qc XC mc ms free := by
  refine MetFree.of_bodyS (code := cc) (maxLocals := maxL) (ret := ret) hy ?_ ?_
  · intro args s m h hn
    obtain ⟨m9, meth, c, hn9, h1, h2, h3, h4, -, h5, h6, -⟩ := Cond.codeWith_spec (atoms_spec (ws := ws) h _ (by rw [hw]; exact List.mem_cons_self))
    cases hn.symm.trans hn9
    exact ⟨meth, c, h1, h2, h3, h4, h5, h6⟩
  · intro p e s m args below meth c s₁ B hml hP _
    have hh0 : s₁.heap = s.heap := by rw [B.state]; rfl
    obtain ⟨t, a1, o, b1, b2, b3⟩ := body p e s m args below meth c s₁ B hml hP s₁ hh0 (Stand.of_body B)
    exact ⟨t, o, a1, b1, b2, b3⟩
/-! ===== END ===== -/
end
section
/-! ===== BEGIN printed: names, fields, word lists, decode rows ===== -/
def RX0 : String := "SlotConference$Airport"
def TX0 : u_T := fun k => match k with
  | 0 => ("SlotConference$Airport", "rules", "[LSlotConference$Rule;", true)
  | 1 => ("SlotConference$Airport", "closedWeeks", "[I", true)
  | 2 => ("SlotConference$Airport", "ruleCount", "I", false)
  | 3 => ("SlotConference$Airport", "curfewFrom", "I", false)
  | 4 => ("SlotConference$Airport", "curfewTo", "I", false)
  | _ => ("SlotConference$Airport", "quota", "I", false)
def tyX0 : Nat → FieldType := fun k => match k with
  | 0 => .array (.object "SlotConference$Rule")
  | 1 => .array .int
  | 2 => .int
  | 3 => .int
  | 4 => .int
  | _ => .int
abbrev wsX00 : List Cond := u_ws RX0 TX0 6
theorem nmX0 : ∀ a, a < 6 → ∀ b, b < 6 → a ≠ b → (TX0 a).2.1 ≠ (TX0 b).2.1 := by decide +kernel
theorem tyX0_ok : ∀ k, k < 6 → parseFieldDescriptor (TX0 k).2.2.1 = some (tyX0 k) := by decide +kernel
abbrev cX0_init : ByteArray := prog_2_method_1_code
def yX0_init : MethodName := ⟨RX0, "<init>", "()V"⟩
abbrev cX0_ruleAt : ByteArray := prog_2_method_2_code
def yX0_ruleAt : MethodName := ⟨RX0, "ruleAt", "(I)LSlotConference$Rule;"⟩
abbrev cX0_bars : ByteArray := prog_2_method_3_code
def yX0_bars : MethodName := ⟨RX0, "bars", "(I)Z"⟩
abbrev cX0_closedWeeksOn : ByteArray := prog_2_method_4_code
def yX0_closedWeeksOn : MethodName := ⟨RX0, "closedWeeksOn", "(I)I"⟩
abbrev cX0_closeWeeksOn : ByteArray := prog_2_method_5_code
def yX0_closeWeeksOn : MethodName := ⟨RX0, "closeWeeksOn", "(II)V"⟩
abbrev cX0_openAllDays : ByteArray := prog_2_method_6_code
def yX0_openAllDays : MethodName := ⟨RX0, "openAllDays", "()V"⟩
def RX1 : String := "SlotConference$Request"
def TX1 : u_T := fun k => match k with
  | 0 => ("SlotConference$Slot", "airport", "I", false)
  | 1 => ("SlotConference$Slot", "kind", "I", false)
  | 2 => ("SlotConference$Slot", "weekday", "I", false)
  | 3 => ("SlotConference$Slot", "time", "I", false)
  | 4 => ("SlotConference$Slot", "first", "I", false)
  | 5 => ("SlotConference$Slot", "last", "I", false)
  | 6 => ("SlotConference$Slot", "noise", "I", false)
  | 7 => ("SlotConference$Request", "carrier", "I", false)
  | 8 => ("SlotConference$Request", "right", "I", false)
  | 9 => ("SlotConference$Request", "state", "I", false)
  | 10 => ("SlotConference$Request", "sort", "I", false)
  | 11 => ("SlotConference$Request", "series", "I", false)
  | 12 => ("SlotConference$Request", "offer", "I", false)
  | _ => ("SlotConference$Request", "partner", "I", false)
def tyX1 : Nat → FieldType := fun k => match k with
  | 0 => .int
  | 1 => .int
  | 2 => .int
  | 3 => .int
  | 4 => .int
  | 5 => .int
  | 6 => .int
  | 7 => .int
  | 8 => .int
  | 9 => .int
  | 10 => .int
  | 11 => .int
  | 12 => .int
  | _ => .int
abbrev wsX10 : List Cond := u_ws RX1 TX1 14
theorem nmX1 : ∀ a, a < 14 → ∀ b, b < 14 → a ≠ b → (TX1 a).2.1 ≠ (TX1 b).2.1 := by decide +kernel
theorem tyX1_ok : ∀ k, k < 14 → parseFieldDescriptor (TX1 k).2.2.1 = some (tyX1 k) := by decide +kernel
abbrev cX1_init : ByteArray := prog_3_method_1_code
def yX1_init : MethodName := ⟨RX1, "<init>", "()V"⟩
abbrev cX1_ask : ByteArray := prog_3_method_2_code
def yX1_ask : MethodName := ⟨RX1, "ask", "(II)V"⟩
abbrev cX1_mayBeLinked : ByteArray := prog_3_method_3_code
def yX1_mayBeLinked : MethodName := ⟨RX1, "mayBeLinked", "()Z"⟩
abbrev cX1_isInQueue : ByteArray := prog_3_method_4_code
def yX1_isInQueue : MethodName := ⟨RX1, "isInQueue", "()Z"⟩
def RX2 : String := "SlotConference$Right"
def TX2 : u_T := fun k => match k with
  | 0 => ("SlotConference$Slot", "airport", "I", false)
  | 1 => ("SlotConference$Slot", "kind", "I", false)
  | 2 => ("SlotConference$Slot", "weekday", "I", false)
  | 3 => ("SlotConference$Slot", "time", "I", false)
  | 4 => ("SlotConference$Slot", "first", "I", false)
  | 5 => ("SlotConference$Slot", "last", "I", false)
  | 6 => ("SlotConference$Slot", "noise", "I", false)
  | 7 => ("SlotConference$Right", "carrier", "I", false)
  | _ => ("SlotConference$Right", "claim", "I", false)
def tyX2 : Nat → FieldType := fun k => match k with
  | 0 => .int
  | 1 => .int
  | 2 => .int
  | 3 => .int
  | 4 => .int
  | 5 => .int
  | 6 => .int
  | 7 => .int
  | _ => .int
abbrev wsX20 : List Cond := u_ws RX2 TX2 9
theorem nmX2 : ∀ a, a < 9 → ∀ b, b < 9 → a ≠ b → (TX2 a).2.1 ≠ (TX2 b).2.1 := by decide +kernel
theorem tyX2_ok : ∀ k, k < 9 → parseFieldDescriptor (TX2 k).2.2.1 = some (tyX2 k) := by decide +kernel
abbrev cX2_init : ByteArray := prog_4_method_1_code
def yX2_init : MethodName := ⟨RX2, "<init>", "()V"⟩
abbrev cX2_begin : ByteArray := prog_4_method_2_code
def yX2_begin : MethodName := ⟨RX2, "begin", "(LSlotConference$Series;)V"⟩
abbrev cX2_mayBeClaimed : ByteArray := prog_4_method_3_code
def yX2_mayBeClaimed : MethodName := ⟨RX2, "mayBeClaimed", "(IIII)Z"⟩
def RX3 : String := "SlotConference$Rule"
def TX3 : u_T := fun k => match k with
  | 0 => ("SlotConference$Rule", "kind", "I", false)
  | 1 => ("SlotConference$Rule", "length", "I", false)
  | _ => ("SlotConference$Rule", "most", "I", false)
def tyX3 : Nat → FieldType := fun k => match k with
  | 0 => .int
  | 1 => .int
  | _ => .int
abbrev wsX30 : List Cond := u_ws RX3 TX3 3
theorem nmX3 : ∀ a, a < 3 → ∀ b, b < 3 → a ≠ b → (TX3 a).2.1 ≠ (TX3 b).2.1 := by decide +kernel
theorem tyX3_ok : ∀ k, k < 3 → parseFieldDescriptor (TX3 k).2.2.1 = some (tyX3 k) := by decide +kernel
abbrev cX3_init : ByteArray := prog_5_method_1_code
def yX3_init : MethodName := ⟨RX3, "<init>", "()V"⟩
abbrev cX3_isFor : ByteArray := prog_5_method_2_code
def yX3_isFor : MethodName := ⟨RX3, "isFor", "(I)Z"⟩
def RX4 : String := "SlotConference$Series"
def TX4 : u_T := fun k => match k with
  | 0 => ("SlotConference$Slot", "airport", "I", false)
  | 1 => ("SlotConference$Slot", "kind", "I", false)
  | 2 => ("SlotConference$Slot", "weekday", "I", false)
  | 3 => ("SlotConference$Slot", "time", "I", false)
  | 4 => ("SlotConference$Slot", "first", "I", false)
  | 5 => ("SlotConference$Slot", "last", "I", false)
  | 6 => ("SlotConference$Slot", "noise", "I", false)
  | 7 => ("SlotConference$Series", "request", "I", false)
  | 8 => ("SlotConference$Series", "holder", "I", false)
  | 9 => ("SlotConference$Series", "user", "I", false)
  | 10 => ("SlotConference$Series", "flownWeeks", "I", false)
  | 11 => ("SlotConference$Series", "off", "I", false)
  | _ => ("SlotConference$Series", "gone", "Z", false)
def tyX4 : Nat → FieldType := fun k => match k with
  | 0 => .int
  | 1 => .int
  | 2 => .int
  | 3 => .int
  | 4 => .int
  | 5 => .int
  | 6 => .int
  | 7 => .int
  | 8 => .int
  | 9 => .int
  | 10 => .int
  | 11 => .int
  | _ => .boolean
abbrev wsX40 : List Cond := u_ws RX4 TX4 13
theorem nmX4 : ∀ a, a < 13 → ∀ b, b < 13 → a ≠ b → (TX4 a).2.1 ≠ (TX4 b).2.1 := by decide +kernel
theorem tyX4_ok : ∀ k, k < 13 → parseFieldDescriptor (TX4 k).2.2.1 = some (tyX4 k) := by decide +kernel
abbrev cX4_init : ByteArray := prog_6_method_1_code
def yX4_init : MethodName := ⟨RX4, "<init>", "()V"⟩
abbrev cX4_begin : ByteArray := prog_6_method_2_code
def yX4_begin : MethodName := ⟨RX4, "begin", "(LSlotConference$Request;II)V"⟩
abbrev cX4_isOn : ByteArray := prog_6_method_3_code
def yX4_isOn : MethodName := ⟨RX4, "isOn", "(III)Z"⟩
abbrev cX4_isBetween : ByteArray := prog_6_method_4_code
def yX4_isBetween : MethodName := ⟨RX4, "isBetween", "(II)Z"⟩
def RX5 : String := "SlotConference$Slot"
def TX5 : u_T := fun k => match k with
  | _ => ("", "", "", false)
def tyX5 : Nat → FieldType := fun k => match k with
  | _ => .int
abbrev wsX50 : List Cond := u_ws RX5 TX5 0
theorem nmX5 : ∀ a, a < 0 → ∀ b, b < 0 → a ≠ b → (TX5 a).2.1 ≠ (TX5 b).2.1 := by decide +kernel
theorem tyX5_ok : ∀ k, k < 0 → parseFieldDescriptor (TX5 k).2.2.1 = some (tyX5 k) := by decide +kernel
abbrev cX5_init : ByteArray := prog_7_method_1_code
def yX5_init : MethodName := ⟨RX5, "<init>", "()V"⟩
abbrev cX5_weeks : ByteArray := prog_7_method_2_code
def yX5_weeks : MethodName := ⟨RX5, "weeks", "()I"⟩
abbrev cX5_wholeNoise : ByteArray := prog_7_method_3_code
def yX5_wholeNoise : MethodName := ⟨RX5, "wholeNoise", "()I"⟩
abbrev cX5_lastsIn : ByteArray := prog_7_method_4_code
def yX5_lastsIn : MethodName := ⟨RX5, "lastsIn", "(I)Z"⟩
abbrev cX5_isSameAs : ByteArray := prog_7_method_5_code
def yX5_isSameAs : MethodName := ⟨RX5, "isSameAs", "(LSlotConference$Slot;)Z"⟩
abbrev cX5_copyFrom : ByteArray := prog_7_method_6_code
def yX5_copyFrom : MethodName := ⟨RX5, "copyFrom", "(LSlotConference$Slot;)V"⟩
def RX6 : String := "SlotConference"
def TX6 : u_T := fun k => match k with
  | 0 => ("SlotConference", "airports", "[LSlotConference$Airport;", true)
  | 1 => ("SlotConference", "groups", "[I", true)
  | 2 => ("SlotConference", "requests", "[LSlotConference$Request;", true)
  | 3 => ("SlotConference", "series", "[LSlotConference$Series;", true)
  | 4 => ("SlotConference", "rights", "[LSlotConference$Right;", true)
  | 5 => ("SlotConference", "queue", "[I", true)
  | 6 => ("SlotConference", "order", "[I", true)
  | 7 => ("SlotConference", "newOnes", "[I", true)
  | 8 => ("SlotConference", "otherOnes", "[I", true)
  | 9 => ("SlotConference", "slotsOfWeek", "[I", true)
  | 10 => ("SlotConference", "requestCount", "I", false)
  | 11 => ("SlotConference", "seriesCount", "I", false)
  | 12 => ("SlotConference", "rightCount", "I", false)
  | 13 => ("SlotConference", "queueCount", "I", false)
  | _ => ("SlotConference", "season", "I", false)
def tyX6 : Nat → FieldType := fun k => match k with
  | 0 => .array (.object "SlotConference$Airport")
  | 1 => .array .int
  | 2 => .array (.object "SlotConference$Request")
  | 3 => .array (.object "SlotConference$Series")
  | 4 => .array (.object "SlotConference$Right")
  | 5 => .array .int
  | 6 => .array .int
  | 7 => .array .int
  | 8 => .array .int
  | 9 => .array .int
  | 10 => .int
  | 11 => .int
  | 12 => .int
  | 13 => .int
  | _ => .int
abbrev wsX60 : List Cond := u_ws RX6 TX6 15
theorem nmX6 : ∀ a, a < 15 → ∀ b, b < 15 → a ≠ b → (TX6 a).2.1 ≠ (TX6 b).2.1 := by decide +kernel
theorem tyX6_ok : ∀ k, k < 15 → parseFieldDescriptor (TX6 k).2.2.1 = some (tyX6 k) := by decide +kernel
abbrev cX6_init : ByteArray := prog_1_method_1_code
def yX6_init : MethodName := ⟨RX6, "<init>", "()V"⟩
abbrev cX6_declare : ByteArray := prog_1_method_2_code
def yX6_declare : MethodName := ⟨RX6, "declare", "(IIII)I"⟩
abbrev cX6_curfew : ByteArray := prog_1_method_4_code
def yX6_curfew : MethodName := ⟨RX6, "curfew", "(III)V"⟩
abbrev cX6_quota : ByteArray := prog_1_method_5_code
def yX6_quota : MethodName := ⟨RX6, "quota", "(II)I"⟩
abbrev cX6_merge : ByteArray := prog_1_method_6_code
def yX6_merge : MethodName := ⟨RX6, "merge", "(II)I"⟩
abbrev cX6_request : ByteArray := prog_1_method_7_code
def yX6_request : MethodName := ⟨RX6, "request", "(IIIIIIIII)I"⟩
abbrev cX6_link : ByteArray := prog_1_method_8_code
def yX6_link : MethodName := ⟨RX6, "link", "(II)V"⟩
abbrev cX6_confer : ByteArray := prog_1_method_9_code
def yX6_confer : MethodName := ⟨RX6, "confer", "()I"⟩
abbrev cX6_accept : ByteArray := prog_1_method_10_code
def yX6_accept : MethodName := ⟨RX6, "accept", "(I)Z"⟩
abbrev cX6_giveBack : ByteArray := prog_1_method_11_code
def yX6_giveBack : MethodName := ⟨RX6, "giveBack", "(II)I"⟩
abbrev cX6_swap : ByteArray := prog_1_method_12_code
def yX6_swap : MethodName := ⟨RX6, "swap", "(II)V"⟩
abbrev cX6_lease : ByteArray := prog_1_method_13_code
def yX6_lease : MethodName := ⟨RX6, "lease", "(II)I"⟩
abbrev cX6_fly : ByteArray := prog_1_method_14_code
def yX6_fly : MethodName := ⟨RX6, "fly", "(III)I"⟩
abbrev cX6_close : ByteArray := prog_1_method_15_code
def yX6_close : MethodName := ⟨RX6, "close", "(III)Z"⟩
abbrev cX6_end : ByteArray := prog_1_method_16_code
def yX6_end : MethodName := ⟨RX6, "end", "()I"⟩
abbrev cX6_season : ByteArray := prog_1_method_17_code
def yX6_season : MethodName := ⟨RX6, "season", "()I"⟩
abbrev cX6_load : ByteArray := prog_1_method_18_code
def yX6_load : MethodName := ⟨RX6, "load", "(IIIIII)I"⟩
abbrev cX6_worst : ByteArray := prog_1_method_19_code
def yX6_worst : MethodName := ⟨RX6, "worst", "(IIII)I"⟩
abbrev cX6_noise : ByteArray := prog_1_method_20_code
def yX6_noise : MethodName := ⟨RX6, "noise", "(I)I"⟩
abbrev cX6_requestOf : ByteArray := prog_1_method_21_code
def yX6_requestOf : MethodName := ⟨RX6, "requestOf", "(II)I"⟩
abbrev cX6_ahead : ByteArray := prog_1_method_22_code
def yX6_ahead : MethodName := ⟨RX6, "ahead", "(I)I"⟩
abbrev cX6_seriesOf : ByteArray := prog_1_method_23_code
def yX6_seriesOf : MethodName := ⟨RX6, "seriesOf", "(II)I"⟩
abbrev cX6_earns : ByteArray := prog_1_method_24_code
def yX6_earns : MethodName := ⟨RX6, "earns", "(I)Z"⟩
abbrev cX6_rights : ByteArray := prog_1_method_25_code
def yX6_rights : MethodName := ⟨RX6, "rights", "()I"⟩
abbrev cX6_rightOf : ByteArray := prog_1_method_26_code
def yX6_rightOf : MethodName := ⟨RX6, "rightOf", "(II)I"⟩
abbrev cX6_isNew : ByteArray := prog_1_method_27_code
def yX6_isNew : MethodName := ⟨RX6, "isNew", "(II)Z"⟩
abbrev cX6_count : ByteArray := prog_1_method_28_code
def yX6_count : MethodName := ⟨RX6, "count", "(I)I"⟩
abbrev cX6_requireRange : ByteArray := prog_1_method_29_code
def yX6_requireRange : MethodName := ⟨RX6, "requireRange", "(III)V"⟩
abbrev cX6_requireKindOrEither : ByteArray := prog_1_method_30_code
def yX6_requireKindOrEither : MethodName := ⟨RX6, "requireKindOrEither", "(I)V"⟩
abbrev cX6_requireSlot : ByteArray := prog_1_method_31_code
def yX6_requireSlot : MethodName := ⟨RX6, "requireSlot", "(IIIIII)V"⟩
abbrev cX6_airportAt : ByteArray := prog_1_method_32_code
def yX6_airportAt : MethodName := ⟨RX6, "airportAt", "(I)LSlotConference$Airport;"⟩
abbrev cX6_groupAt : ByteArray := prog_1_method_33_code
def yX6_groupAt : MethodName := ⟨RX6, "groupAt", "(I)I"⟩
abbrev cX6_requestAt : ByteArray := prog_1_method_34_code
def yX6_requestAt : MethodName := ⟨RX6, "requestAt", "(I)LSlotConference$Request;"⟩
abbrev cX6_seriesAt : ByteArray := prog_1_method_35_code
def yX6_seriesAt : MethodName := ⟨RX6, "seriesAt", "(I)LSlotConference$Series;"⟩
abbrev cX6_rightAt : ByteArray := prog_1_method_36_code
def yX6_rightAt : MethodName := ⟨RX6, "rightAt", "(I)LSlotConference$Right;"⟩
abbrev cX6_isByNight : ByteArray := prog_1_method_37_code
def yX6_isByNight : MethodName := ⟨RX6, "isByNight", "(I)Z"⟩
abbrev cX6_weeksFromTo : ByteArray := prog_1_method_38_code
def yX6_weeksFromTo : MethodName := ⟨RX6, "weeksFromTo", "(II)I"⟩
abbrev cX6_reasonAgainst : ByteArray := prog_1_method_39_code
def yX6_reasonAgainst : MethodName := ⟨RX6, "reasonAgainst", "(LSlotConference$Slot;I)I"⟩
abbrev cX6_wouldBreak : ByteArray := prog_1_method_40_code
def yX6_wouldBreak : MethodName := ⟨RX6, "wouldBreak", "(LSlotConference$Rule;LSlotConference$Slot;I)Z"⟩
abbrev cX6_isWindowFull : ByteArray := prog_1_method_41_code
def yX6_isWindowFull : MethodName := ⟨RX6, "isWindowFull", "(LSlotConference$Rule;ILSlotConference$Slot;)Z"⟩
abbrev cX6_slotsBetween : ByteArray := prog_1_method_42_code
def yX6_slotsBetween : MethodName := ⟨RX6, "slotsBetween", "(IIIIII)I"⟩
abbrev cX6_noiseByNight : ByteArray := prog_1_method_43_code
def yX6_noiseByNight : MethodName := ⟨RX6, "noiseByNight", "(I)I"⟩
abbrev cX6_isGroupNew : ByteArray := prog_1_method_44_code
def yX6_isGroupNew : MethodName := ⟨RX6, "isGroupNew", "(II)Z"⟩
abbrev cX6_sortNow : ByteArray := prog_1_method_45_code
def yX6_sortNow : MethodName := ⟨RX6, "sortNow", "(LSlotConference$Request;)I"⟩
abbrev cX6_sortAllAsked : ByteArray := prog_1_method_46_code
def yX6_sortAllAsked : MethodName := ⟨RX6, "sortAllAsked", "()V"⟩
abbrev cX6_putAskedInOrder : ByteArray := prog_1_method_47_code
def yX6_putAskedInOrder : MethodName := ⟨RX6, "putAskedInOrder", "()I"⟩
abbrev cX6_addAskedOf : ByteArray := prog_1_method_48_code
def yX6_addAskedOf : MethodName := ⟨RX6, "addAskedOf", "(I[II)I"⟩
abbrev cX6_insertByWeeks : ByteArray := prog_1_method_49_code
def yX6_insertByWeeks : MethodName := ⟨RX6, "insertByWeeks", "(I[III)V"⟩
abbrev cX6_decideAlone : ByteArray := prog_1_method_50_code
def yX6_decideAlone : MethodName := ⟨RX6, "decideAlone", "(I)I"⟩
abbrev cX6_decidePair : ByteArray := prog_1_method_51_code
def yX6_decidePair : MethodName := ⟨RX6, "decidePair", "(II)I"⟩
abbrev cX6_timeToOffer : ByteArray := prog_1_method_52_code
def yX6_timeToOffer : MethodName := ⟨RX6, "timeToOffer", "(LSlotConference$Request;)I"⟩
abbrev cX6_giveIfItFits : ByteArray := prog_1_method_53_code
def yX6_giveIfItFits : MethodName := ⟨RX6, "giveIfItFits", "(I)Z"⟩
abbrev cX6_give : ByteArray := prog_1_method_54_code
def yX6_give : MethodName := ⟨RX6, "give", "(II)V"⟩
abbrev cX6_takeLatestSeriesBack : ByteArray := prog_1_method_55_code
def yX6_takeLatestSeriesBack : MethodName := ⟨RX6, "takeLatestSeriesBack", "()V"⟩
abbrev cX6_putInQueue : ByteArray := prog_1_method_56_code
def yX6_putInQueue : MethodName := ⟨RX6, "putInQueue", "(I)V"⟩
abbrev cX6_serveQueueAt : ByteArray := prog_1_method_57_code
def yX6_serveQueueAt : MethodName := ⟨RX6, "serveQueueAt", "(I)I"⟩
abbrev cX6_weeksUsed : ByteArray := prog_1_method_58_code
def yX6_weeksUsed : MethodName := ⟨RX6, "weeksUsed", "(LSlotConference$Series;)I"⟩
abbrev cX6_earnsRight : ByteArray := prog_1_method_59_code
def yX6_earnsRight : MethodName := ⟨RX6, "earnsRight", "(LSlotConference$Series;)Z"⟩
abbrev cX6_turnSeriesIntoRights : ByteArray := prog_1_method_60_code
def yX6_turnSeriesIntoRights : MethodName := ⟨RX6, "turnSeriesIntoRights", "()I"⟩
abbrev cX6_requestsThatAre : ByteArray := prog_1_method_61_code
def yX6_requestsThatAre : MethodName := ⟨RX6, "requestsThatAre", "(I)I"⟩
abbrev cX6_seriesThatAreGone : ByteArray := prog_1_method_62_code
def yX6_seriesThatAreGone : MethodName := ⟨RX6, "seriesThatAreGone", "()I"⟩
def RX7 : String := "SlotConferenceModel"
def TX7 : u_T := fun k => match k with
  | _ => ("", "", "", false)
def tyX7 : Nat → FieldType := fun k => match k with
  | _ => .int
abbrev wsX70 : List Cond := u_ws RX7 TX7 0
theorem nmX7 : ∀ a, a < 0 → ∀ b, b < 0 → a ≠ b → (TX7 a).2.1 ≠ (TX7 b).2.1 := by decide +kernel
theorem tyX7_ok : ∀ k, k < 0 → parseFieldDescriptor (TX7 k).2.2.1 = some (tyX7 k) := by decide +kernel
def RJ6 : String := "java/lang/Integer"
def TJ6 : u_T := fun k => match k with
  | _ => ("", "", "", false)
def tyJ6 : Nat → FieldType := fun k => match k with
  | _ => .int
abbrev wsJ60 : List Cond := u_ws RJ6 TJ6 0
theorem nmJ6 : ∀ a, a < 0 → ∀ b, b < 0 → a ≠ b → (TJ6 a).2.1 ≠ (TJ6 b).2.1 := by decide +kernel
theorem tyJ6_ok : ∀ k, k < 0 → parseFieldDescriptor (TJ6 k).2.2.1 = some (tyJ6 k) := by decide +kernel
abbrev cJ6_bitCount_0f7a4 : ByteArray := prog_14_method_49_code
def yJ6_bitCount_0f7a4 : MethodName := ⟨RJ6, "bitCount", "(I)I"⟩
def RJ9 : String := "java/lang/Math"
def TJ9 : u_T := fun k => match k with
  | _ => ("", "", "", false)
def tyJ9 : Nat → FieldType := fun k => match k with
  | _ => .int
abbrev wsJ90 : List Cond := u_ws RJ9 TJ9 0
theorem nmJ9 : ∀ a, a < 0 → ∀ b, b < 0 → a ≠ b → (TJ9 a).2.1 ≠ (TJ9 b).2.1 := by decide +kernel
theorem tyJ9_ok : ∀ k, k < 0 → parseFieldDescriptor (TJ9 k).2.2.1 = some (tyJ9 k) := by decide +kernel
abbrev cJ9_abs_0f7a4 : ByteArray := prog_15_method_59_code
def yJ9_abs_0f7a4 : MethodName := ⟨RJ9, "abs", "(I)I"⟩
abbrev cJ9_max_7cf53 : ByteArray := prog_15_method_65_code
def yJ9_max_7cf53 : MethodName := ⟨RJ9, "max", "(II)I"⟩
abbrev cJ9_min_7cf53 : ByteArray := prog_15_method_69_code
def yJ9_min_7cf53 : MethodName := ⟨RJ9, "min", "(II)I"⟩
def RJ0 : String := "java/lang/String"
def TJ0 : u_T := fun k => match k with
  | _ => ("", "", "", false)
def tyJ0 : Nat → FieldType := fun k => match k with
  | _ => .int
abbrev wsJ00 : List Cond := u_ws RJ0 TJ0 0
theorem nmJ0 : ∀ a, a < 0 → ∀ b, b < 0 → a ≠ b → (TJ0 a).2.1 ≠ (TJ0 b).2.1 := by decide +kernel
theorem tyJ0_ok : ∀ k, k < 0 → parseFieldDescriptor (TJ0 k).2.2.1 = some (tyJ0 k) := by decide +kernel
def RL : String := "SlotConferenceLaw"
abbrev cL_draw : ByteArray := method_2_code
def yL_draw : MethodName := ⟨RL, "draw", "([II)I"⟩
abbrev cL_acts : ByteArray := method_3_code
def yL_acts : MethodName := ⟨RL, "acts", "(LSlotConference;IIII)I"⟩
abbrev cL_asks : ByteArray := method_4_code
def yL_asks : MethodName := ⟨RL, "asks", "(LSlotConference;IIIIIIIII)I"⟩
abbrev cL_links : ByteArray := method_5_code
def yL_links : MethodName := ⟨RL, "links", "(LSlotConference;II)Z"⟩
abbrev cL_swaps : ByteArray := method_6_code
def yL_swaps : MethodName := ⟨RL, "swaps", "(LSlotConference;II)Z"⟩
abbrev cL_step : ByteArray := method_7_code
def yL_step : MethodName := ⟨RL, "step", "(LSlotConference;[IIII)Z"⟩
abbrev cL_isAsked : ByteArray := method_8_code
def yL_isAsked : MethodName := ⟨RL, "isAsked", "(LSlotConference;[III)Z"⟩
abbrev cL_isHeld : ByteArray := method_9_code
def yL_isHeld : MethodName := ⟨RL, "isHeld", "(LSlotConference;[III)Z"⟩
abbrev cL_areOrdered : ByteArray := method_10_code
def yL_areOrdered : MethodName := ⟨RL, "areOrdered", "(LSlotConference;[II)Z"⟩
abbrev cL_isTaken : ByteArray := method_11_code
def yL_isTaken : MethodName := ⟨RL, "isTaken", "(LSlotConference;[III)Z"⟩
abbrev cL_isBack : ByteArray := method_12_code
def yL_isBack : MethodName := ⟨RL, "isBack", "(LSlotConference;[IIII)Z"⟩
abbrev cL_isFlown : ByteArray := method_13_code
def yL_isFlown : MethodName := ⟨RL, "isFlown", "(LSlotConference;II)Z"⟩
abbrev cL_isEnded : ByteArray := method_14_code
def yL_isEnded : MethodName := ⟨RL, "isEnded", "(LSlotConference;[I)Z"⟩
abbrev cL_law : ByteArray := code
def yL_law : MethodName := ⟨RL, "law", "([I)Z"⟩
abbrev vwCl : List vw_C := [(RX0, TX0, 6), (RX1, TX1, 14), (RX2, TX2, 9), (RX3, TX3, 3), (RX4, TX4, 13), (RX6, TX6, 15)]
end
section
/-! ===== an abstract machine: ints by a relative address and a slot; addresses as the two constructors make them ===== -/
abbrev Hp : Type := (Nat → Nat → Int32) × (Nat → Int64)
abbrev Res : Type := Option ((Option Value × Hp) ⊕ (Nat × Hp))
abbrev Kt : Type := Nat → List Value → List Value → Hp → Res
abbrev Fn : Type := List Value → Hp → Res
/-- which locals are forgotten ahead of it, instruction, length, three numbers, a constant -/
abbrev Ent : Type := List Bool × Instr × Nat × Nat × Nat × Nat × Int32
def kl : List Bool → List Value → List Value
  | [], ls => ls
  | _ :: _, [] => []
  | true :: m, _ :: t => .retAddr 0 :: kl m t
  | false :: m, v :: t => v :: kl m t
theorem kl_kl : ∀ (m : List Bool) (ls : List Value), kl m (kl m ls) = kl m ls
  | [], _ => rfl
  | _ :: _, [] => rfl
  | true :: m, _ :: t => congrArg (fun q => Value.retAddr 0 :: q) (kl_kl m t)
  | false :: m, v :: t => congrArg (fun q => v :: q) (kl_kl m t)
def msk (ft : Nat → Option Ent) (pc : Nat) : List Bool := match ft pc with
  | some e => e.1
  | none => []
/-- so many arguments, of one word each -/
def chkA : Nat → List Value → Bool
  | 0, [] => true
  | n + 1, .int _ :: t => chkA n t
  | n + 1, .ref _ :: t => chkA n t
  | _, _ => false
/-- a method's locals at its entry -/
def pad : Nat → List Value → List Value
  | 0, _ => []
  | n + 1, [] => .retAddr 0 :: pad n []
  | n + 1, v :: t => v :: pad n t
def rd (h : Hp) (a k : Nat) : Int32 := h.1 a k
def wr (h : Hp) (a k : Nat) (x : Int32) : Hp := (fun b j => if b = a ∧ j = k then x else h.1 b j, h.2)
def rdL (h : Hp) (j : Nat) : Int64 := h.2 j
def wrL (h : Hp) (j : Nat) (x : Int64) : Hp := (h.1, fun i => if i = j then x else h.2 i)
def rtn (v : Option Value) (h : Hp) : Res := some (.inl (v, h))
def thr (E : Nat) (h : Hp) : Res := some (.inr (E, h))
def gd (b : Bool) (r : Res) : Res := match b with | true => r | false => none
def bV (r : Res) (k : Hp → Res) (kx : Nat → Hp → Res) : Res := match r with
  | some (.inl (none, h)) => k h
  | some (.inr (E, h)) => kx E h
  | _ => none
def bI (r : Res) (k : Int32 → Hp → Res) (kx : Nat → Hp → Res) : Res := match r with
  | some (.inl (some (.int x), h)) => k x h
  | some (.inr (E, h)) => kx E h
  | _ => none
def bR (r : Res) (k : Nat → Hp → Res) (kx : Nat → Hp → Res) : Res := match r with
  | some (.inl (some (.ref x), h)) => k x h
  | some (.inr (E, h)) => kx E h
  | _ => none
def pI (st : List Value) (f : Int32 → List Value → Res) : Res := match st with
  | .int x :: t => f x t
  | _ => none
def pL (st : List Value) (f : Int64 → List Value → Res) : Res := match st with
  | .long x :: t => f x t
  | _ => none
def pR (st : List Value) (f : Nat → List Value → Res) : Res := match st with
  | .ref x :: t => f x t
  | _ => none
/-- a value of one word -/
def pA (st : List Value) (f : Value → List Value → Res) : Res := match st with
  | .ref x :: t => f (.ref x) t
  | .null :: t => f .null t
  | _ => none
def p1 (st : List Value) (f : Value → List Value → Res) : Res := match st with
  | .int x :: t => f (.int x) t
  | .ref x :: t => f (.ref x) t
  | _ => none
def pN (st : List Value) (A B : List Value → Res) : Res := match st with
  | .null :: t => A t
  | .ref _ :: t => B t
  | _ => none
def nth : List Value → Nat → Value
  | [], _ => .retAddr 0
  | v :: _, 0 => v
  | _ :: t, n + 1 => nth t n
def setn : List Value → Nat → Value → List Value
  | [], _, _ => []
  | _ :: t, 0, x => x :: t
  | v :: t, n + 1, x => v :: setn t n x
def lI (v : Value) (f : Int32 → Res) : Res := match v with
  | .int x => f x
  | _ => none
def lA (v : Value) (f : Value → Res) : Res := match v with
  | .ref x => f (.ref x)
  | .null => f .null
  | _ => none
def nthF : List Fn → Nat → Fn
  | [], _ => fun _ _ => none
  | f :: _, 0 => f
  | _ :: t, n + 1 => nthF t n
def nthS : List (List Nat) → Nat → List Nat
  | [], _ => []
  | f :: _, 0 => f
  | _ :: t, n + 1 => nthS t n
def lkp {α : Type} : List (Nat × α) → Nat → Option α
  | [], _ => none
  | (k, v) :: t, p => cond (Nat.beq k p) (some v) (lkp t p)
def lk2 {α : Type} (T : List (List (Nat × α))) (p : Nat) : Option α := lkp (match T[p / 64]? with | some l => l | none => []) p
def memb (x : Nat) : List Nat → Bool
  | [] => false
  | y :: t => cond (Nat.beq x y) true (memb x t)
def icmp (cnd : ClassFile.Cond) (v y : Int32) (A B : Res) : Res := match cnd with
  | .eq => if v = y then A else B
  | .ne => if v = y then B else A
  | .lt => if v < y then A else B
  | .ge => if v < y then B else A
  | .gt => if y < v then A else B
  | .le => if y < v then B else A
def swt (v : Int32) : Nat → List Nat → (Nat → Res) → Res → Res
  | _, [], _, d => d
  | n, t :: ts, k, d => if v = Int32.ofNat n then k t else swt v (n + 1) ts k d
def inb (i : Int32) (n : Nat) : Bool := !decide (i < 0) && Nat.blt i.toNatClampNeg n
theorem inb_in {i : Int32} {n : Nat} (h : inb i n = true) : vp_in i n := by
  simp only [inb, Bool.and_eq_true, Bool.not_eq_true', decide_eq_false_iff_not, Nat.blt_eq] at h
  rintro (q | q)
  · exact h.1 q
  · omega
def okZ (k : Nat) (v : Int32) : Bool := match k with
  | 0 => true
  | _ => decide (v = 0) || decide (v = 1)
def cats : List Value → Nat
  | [] => 0
  | v :: t => v.category + cats t
/-- n values off the stack, in the order in which they were put -/
def popn : Nat → List Value → List Value → (List Value → List Value → Res) → Res
  | 0, st, acc, f => f acc st
  | n + 1, st, acc, f => match st with
    | .int x :: t => popn n t (.int x :: acc) f
    | .ref x :: t => popn n t (.ref x :: acc) f
    | _ => none
def hnk (hn : List (Nat × Int32)) (E : Nat) (h : Hp) : Res := match hn with
  | [] => thr E h
  | _ :: _ => match lkp hn E with
    | some c => rtn (some (.int c)) h
    | none => none
def clK (rk : Nat) (r : Res) (kV : Hp → Res) (kI : Int32 → Hp → Res) (kR : Nat → Hp → Res) (kx : Nat → Hp → Res) : Res := match rk with
  | 0 => bV r kV kx
  | 1 => bI r kI kx
  | _ => bR r kR kx
def rI (c : Nat) (st : List Value) (h : Hp) : Res := match st with
  | [.int v] => gd (okZ c v) (rtn (some (.int v)) h)
  | _ => none
def rR (st : List Value) (h : Hp) : Res := match st with
  | [.ref v] => rtn (some (.ref v)) h
  | _ => none
def rV (st : List Value) (h : Hp) : Res := match st with
  | [] => rtn none h
  | _ => none
/-- where the script's contents, and its length, stand -/
abbrev SCRA : Nat := 1000
abbrev SCRB : Nat := 1001
section
variable (SKc SKn : Nat → Nat) (SKr : Nat → Nat → Nat) (CS : Nat → List Nat)
def alen (h : Hp) (a : Nat) : Nat := cond (Nat.beq a SCRA) (rd h SCRB 0).toNatClampNeg (SKn a)
def recv (as : List Value) (d : Nat) : Bool := cond (Nat.beq d 99) true (match as with
  | .ref a :: _ => memb (SKc a) (CS d)
  | _ => false)
def stI (cl : List Fn) (hn : List (Nat × Int32)) (sw : List (List Nat)) (i : Instr) (len b c d : Nat) (x : Int32) (K : Kt) (pc : Nat) (ls st : List Value) (h : Hp) : Res := match i with
  | .iconst _ => K (pc + len) ls (.int x :: st) h
  | .bipush _ => K (pc + len) ls (.int x :: st) h
  | .sipush _ => K (pc + len) ls (.int x :: st) h
  | .ldc _ => K (pc + len) ls (.int x :: st) h
  | .ldc_w _ => K (pc + len) ls (.int x :: st) h
  | .lconst n => K (pc + len) ls (.long (Int64.ofNat (n : Nat)) :: st) h
  | .aconst_null => K (pc + len) ls (.null :: st) h
  | .iload_n _ => lI (nth ls b) fun v => K (pc + len) ls (.int v :: st) h
  | .iload _ => lI (nth ls b) fun v => K (pc + len) ls (.int v :: st) h
  | .aload_n _ => lA (nth ls b) fun v => K (pc + len) ls (v :: st) h
  | .aload _ => lA (nth ls b) fun v => K (pc + len) ls (v :: st) h
  | .istore_n _ => pI st fun v t => K (pc + len) (setn ls b (.int v)) t h
  | .istore _ => pI st fun v t => K (pc + len) (setn ls b (.int v)) t h
  | .astore_n _ => pA st fun v t => K (pc + len) (setn ls b v) t h
  | .astore _ => pA st fun v t => K (pc + len) (setn ls b v) t h
  | .iinc _ _ => lI (nth ls b) fun v => K (pc + len) (setn ls b (.int (v + x))) st h
  | .iadd => pI st fun y t => pI t fun v t => K (pc + len) ls (.int (v + y) :: t) h
  | .isub => pI st fun y t => pI t fun v t => K (pc + len) ls (.int (v - y) :: t) h
  | .imul => pI st fun y t => pI t fun v t => K (pc + len) ls (.int (v * y) :: t) h
  | .iand => pI st fun y t => pI t fun v t => K (pc + len) ls (.int (v &&& y) :: t) h
  | .ior => pI st fun y t => pI t fun v t => K (pc + len) ls (.int (v ||| y) :: t) h
  | .ishl => pI st fun y t => pI t fun v t => K (pc + len) ls (.int (v <<< (y &&& 31)) :: t) h
  | .ishr => pI st fun y t => pI t fun v t => K (pc + len) ls (.int (v >>> (y &&& 31)) :: t) h
  | .iushr => pI st fun y t => pI t fun v t => K (pc + len) ls (.int ((v.toUInt32 >>> (y.toUInt32 &&& Int32.toUInt32 31)).toInt32) :: t) h
  | .idiv => pI st fun y t => pI t fun v t => gd (!decide (y = 0)) (K (pc + len) ls (.int (v / y) :: t) h)
  | .irem => pI st fun y t => pI t fun v t => gd (!decide (y = 0)) (K (pc + len) ls (.int (v - v / y * y) :: t) h)
  | .ineg => pI st fun v t => K (pc + len) ls (.int (-v) :: t) h
  | .i2l => pI st fun v t => K (pc + len) ls (.long v.toInt64 :: t) h
  | .lcmp => pL st fun y t => pL t fun v t => K (pc + len) ls (.int (lg_cmp v y) :: t) h
  | .dup => p1 st fun v t => K (pc + len) ls (v :: v :: t) h
  | .dup2 => p1 st fun v t => p1 t fun w t => K (pc + len) ls (v :: w :: v :: w :: t) h
  | .pop => p1 st fun _ t => K (pc + len) ls t h
  | .ifnull _ => pN st (fun t => K b ls t h) (fun t => K (pc + len) ls t h)
  | .if_icmp cnd _ => pI st fun y t => pI t fun v t => icmp cnd v y (K b ls t h) (K (pc + len) ls t h)
  | .ifCond cnd _ => pI st fun v t => icmp cnd v 0 (K b ls t h) (K (pc + len) ls t h)
  | .goto _ => K b ls st h
  | .tableswitch _ _ _ _ => pI st fun v t => swt v 0 (nthS sw c) (fun tg => K tg ls t h) (K b ls t h)
  | .getfield _ => pR st fun a t => gd (memb (SKc a) (CS (c / 2))) (match c % 2 with
      | 0 => K (pc + len) ls (.int (rd h a b) :: t) h
      | _ => K (pc + len) ls (.ref (SKr a b) :: t) h)
  | .putfield _ => pI st fun v t => pR t fun a t => gd (memb (SKc a) (CS (c / 2))) (gd (okZ (c % 2) v) (K (pc + len) ls t (wr h a b v)))
  | .iaload => pI st fun i t => pR t fun a t => gd (memb (SKc a) [10, 18] && inb i (alen SKn h a)) (K (pc + len) ls (.int (rd h a i.toNatClampNeg) :: t) h)
  | .aaload => pI st fun i t => pR t fun a t => gd (memb (SKc a) [13, 14, 15, 16, 17] && inb i (SKn a)) (K (pc + len) ls (.ref (SKr a i.toNatClampNeg) :: t) h)
  | .iastore => pI st fun v t => pI t fun i t => pR t fun a t => gd (Nat.beq (SKc a) 10 && inb i (SKn a)) (K (pc + len) ls t (wr h a i.toNatClampNeg v))
  | .arraylength => pR st fun a t => gd (memb (SKc a) [10, 11, 12, 13, 14, 15, 16, 17, 18]) (K (pc + len) ls (.int (Int32.ofNat (alen SKn h a)) :: t) h)
  | .invokevirtual _ => popn (c / 4) st [] fun as t => gd (recv SKc CS as d) (gd (Nat.ble (cats t) 8) (clK (c % 4) (nthF cl b as h) (fun g => K (pc + len) ls t g) (fun v g => K (pc + len) ls (.int v :: t) g) (fun v g => K (pc + len) ls (.ref v :: t) g) (hnk hn)))
  | .invokestatic _ => popn (c / 4) st [] fun as t => gd (recv SKc CS as d) (gd (Nat.ble (cats t) 8) (clK (c % 4) (nthF cl b as h) (fun g => K (pc + len) ls t g) (fun v g => K (pc + len) ls (.int v :: t) g) (fun v g => K (pc + len) ls (.ref v :: t) g) (hnk hn)))
  | .new _ => gd (Nat.ble (cats st) 8) (thr b h)
  | .ireturn => rI c st h
  | .areturn => rR st h
  | .return_ => rV st h
  | _ => none
def stp (ft : Nat → Option Ent) (cl : List Fn) (hn : List (Nat × Int32)) (sw : List (List Nat)) (K : Kt) (pc : Nat) (ls st : List Value) (h : Hp) : Res := match ft pc with
  | none => none
  | some (m, i, len, b, c, d, x) => stI SKc SKn SKr CS cl hn sw i len b c d x K pc (kl m ls) st h
def exN (ft : Nat → Option Ent) (cl : List Fn) (hn : List (Nat × Int32)) (sw : List (List Nat)) : Nat → Kt
  | 0 => fun _ _ _ _ => none
  | n + 1 => stp SKc SKn SKr CS ft cl hn sw (exN ft cl hn sw n)
end
/-- what a step asks of what comes behind it: one place at most -/
def Lin (f : Kt → Res) : Prop := (∃ (pc : Nat) (ls st : List Value) (h : Hp), ∀ K, f K = K pc ls st h) ∨ ∃ r : Res, ∀ K, f K = r
theorem Lin.k (pc : Nat) (ls st : List Value) (h : Hp) : Lin (fun K => K pc ls st h) := Or.inl ⟨pc, ls, st, h, fun _ => rfl⟩
theorem Lin.c (r : Res) : Lin (fun _ => r) := Or.inr ⟨r, fun _ => rfl⟩
theorem Lin.gd {f : Kt → Res} (b : Bool) (h : Lin f) : Lin (fun K => gd b (f K)) := by cases b; exact Lin.c none; exact h
theorem Lin.bV {r : Res} {f : Hp → Kt → Res} {kx : Nat → Hp → Res} (h : ∀ g, Lin (f g)) : Lin (fun K => bV r (fun g => f g K) kx) := by
  rcases r with _ | ⟨_ | v, g⟩ | ⟨E, g⟩
  · exact Lin.c none
  · exact h g
  · exact Lin.c none
  · exact Lin.c (kx E g)
theorem Lin.bI {r : Res} {f : Int32 → Hp → Kt → Res} {kx : Nat → Hp → Res} (h : ∀ v g, Lin (f v g)) : Lin (fun K => bI r (fun v g => f v g K) kx) := by
  rcases r with _ | ⟨_ | v, g⟩ | ⟨E, g⟩
  · exact Lin.c none
  · exact Lin.c none
  · cases v <;> first | exact h _ g | exact Lin.c none
  · exact Lin.c (kx E g)
theorem Lin.bR {r : Res} {f : Nat → Hp → Kt → Res} {kx : Nat → Hp → Res} (h : ∀ v g, Lin (f v g)) : Lin (fun K => bR r (fun v g => f v g K) kx) := by
  rcases r with _ | ⟨_ | v, g⟩ | ⟨E, g⟩
  · exact Lin.c none
  · exact Lin.c none
  · cases v <;> first | exact h _ g | exact Lin.c none
  · exact Lin.c (kx E g)
theorem Lin.clK {r : Res} {rk : Nat} {f : Hp → Kt → Res} {fi : Int32 → Hp → Kt → Res} {fr : Nat → Hp → Kt → Res} {kx : Nat → Hp → Res} (h : ∀ g, Lin (f g)) (hi : ∀ v g, Lin (fi v g)) (hr : ∀ v g, Lin (fr v g)) : Lin (fun K => clK rk r (fun g => f g K) (fun v g => fi v g K) (fun v g => fr v g K) kx) := by
  rcases rk with _ | _ | _
  · exact Lin.bV h
  · exact Lin.bI hi
  · exact Lin.bR hr
theorem Lin.pI {st : List Value} {f : Int32 → List Value → Kt → Res} (h : ∀ v t, Lin (f v t)) : Lin (fun K => pI st (fun v t => f v t K)) := by
  rcases st with _ | ⟨v, t⟩
  · exact Lin.c none
  · cases v <;> first | exact h _ t | exact Lin.c none
theorem Lin.pL {st : List Value} {f : Int64 → List Value → Kt → Res} (h : ∀ v t, Lin (f v t)) : Lin (fun K => pL st (fun v t => f v t K)) := by
  rcases st with _ | ⟨v, t⟩
  · exact Lin.c none
  · cases v <;> first | exact h _ t | exact Lin.c none
theorem Lin.pR {st : List Value} {f : Nat → List Value → Kt → Res} (h : ∀ v t, Lin (f v t)) : Lin (fun K => pR st (fun v t => f v t K)) := by
  rcases st with _ | ⟨v, t⟩
  · exact Lin.c none
  · cases v <;> first | exact h _ t | exact Lin.c none
theorem Lin.pA {st : List Value} {f : Value → List Value → Kt → Res} (h : ∀ v t, Lin (f v t)) : Lin (fun K => pA st (fun v t => f v t K)) := by
  rcases st with _ | ⟨v, t⟩
  · exact Lin.c none
  · cases v <;> first | exact h _ t | exact Lin.c none
theorem Lin.p1 {st : List Value} {f : Value → List Value → Kt → Res} (h : ∀ v t, Lin (f v t)) : Lin (fun K => p1 st (fun v t => f v t K)) := by
  rcases st with _ | ⟨v, t⟩
  · exact Lin.c none
  · cases v <;> first | exact h _ t | exact Lin.c none
theorem Lin.pN {st : List Value} {f g : List Value → Kt → Res} (h : ∀ t, Lin (f t)) (h2 : ∀ t, Lin (g t)) : Lin (fun K => pN st (fun t => f t K) (fun t => g t K)) := by
  rcases st with _ | ⟨v, t⟩
  · exact Lin.c none
  · cases v <;> first | exact h t | exact h2 t | exact Lin.c none
theorem Lin.lI {v : Value} {f : Int32 → Kt → Res} (h : ∀ v, Lin (f v)) : Lin (fun K => lI v (fun v => f v K)) := by
  cases v <;> first | exact h _ | exact Lin.c none
theorem Lin.lA {v : Value} {f : Value → Kt → Res} (h : ∀ v, Lin (f v)) : Lin (fun K => lA v (fun v => f v K)) := by
  cases v <;> first | exact h _ | exact Lin.c none
theorem Lin.ite {c : Prop} [Decidable c] {f g : Kt → Res} (h : Lin f) (h2 : Lin g) : Lin (fun K => if c then f K else g K) := by
  by_cases q : c
  · simpa [q] using h
  · simpa [q] using h2
theorem Lin.icmp {cnd : ClassFile.Cond} {v y : Int32} {f g : Kt → Res} (h : Lin f) (h2 : Lin g) : Lin (fun K => icmp cnd v y (f K) (g K)) := by
  cases cnd
  · exact Lin.ite h h2
  · exact Lin.ite h2 h
  · exact Lin.ite h h2
  · exact Lin.ite h2 h
  · exact Lin.ite h h2
  · exact Lin.ite h2 h
theorem Lin.swt {v : Int32} {k : Nat → Kt → Res} {d : Kt → Res} (h : ∀ t, Lin (k t)) (h2 : Lin d) : ∀ (ts : List Nat) (n : Nat), Lin (fun K => swt v n ts (fun t => k t K) (d K)) := by
  intro ts
  induction ts with
  | nil => intro n; exact h2
  | cons t ts ih => intro n; exact Lin.ite (h t) (ih (n + 1))
theorem Lin.popn {f : List Value → List Value → Kt → Res} (h : ∀ a t, Lin (f a t)) : ∀ (n : Nat) (st acc : List Value), Lin (fun K => popn n st acc (fun a t => f a t K)) := by
  intro n
  induction n with
  | zero => intro st acc; exact h acc st
  | succ n ih =>
    intro st acc
    rcases st with _ | ⟨v, t⟩
    · exact Lin.c none
    · cases v <;> first | exact ih t _ | exact Lin.c none
theorem Lin.sel {n : Nat} {f g : Kt → Res} (h : Lin f) (h2 : Lin g) : Lin (fun K => match n with | 0 => f K | _ => g K) := by
  cases n
  · exact h
  · exact h2
section
variable (SKc SKn : Nat → Nat) (SKr : Nat → Nat → Nat) (CS : Nat → List Nat)
theorem stI_lin (cl : List Fn) (hn : List (Nat × Int32)) (sw : List (List Nat)) (i : Instr) (len b c d : Nat) (x : Int32) (pc : Nat) (ls st : List Value) (h : Hp) : Lin (fun K => stI SKc SKn SKr CS cl hn sw i len b c d x K pc ls st h) := by
  cases i <;> (try exact Lin.c none) <;> (try exact Lin.k _ _ _ _) <;>
    first
    | (refine Lin.lI ?_; intros <;> exact Lin.k _ _ _ _)
    | (refine Lin.lA ?_; intros <;> exact Lin.k _ _ _ _)
    | (refine Lin.pI ?_; intros <;> exact Lin.k _ _ _ _)
    | (refine Lin.pA ?_; intros <;> exact Lin.k _ _ _ _)
    | (refine Lin.p1 ?_; intros <;> exact Lin.k _ _ _ _)
    | (refine Lin.p1 ?_; intros; refine Lin.p1 ?_; intros <;> exact Lin.k _ _ _ _)
    | (refine Lin.pI ?_; intros; refine Lin.pI ?_; intros <;> exact Lin.k _ _ _ _)
    | (refine Lin.pL ?_; intros; refine Lin.pL ?_; intros <;> exact Lin.k _ _ _ _)
    | (refine Lin.pI ?_; intros; refine Lin.pI ?_; intros; refine Lin.gd _ ?_ <;> exact Lin.k _ _ _ _)
    | (refine Lin.pI ?_; intros; refine Lin.pI ?_; intros; refine Lin.icmp ?_ ?_ <;> exact Lin.k _ _ _ _)
    | (refine Lin.pI ?_; intros; refine Lin.icmp ?_ ?_ <;> exact Lin.k _ _ _ _)
    | (refine Lin.pN ?_ ?_ <;> intros <;> exact Lin.k _ _ _ _)
    | (refine Lin.pI ?_; intros; refine Lin.swt ?_ ?_ _ _ <;> intros <;> exact Lin.k _ _ _ _)
    | (refine Lin.pR ?_; intros; refine Lin.gd _ ?_; refine Lin.sel ?_ ?_ <;> exact Lin.k _ _ _ _)
    | (refine Lin.pI ?_; intros; refine Lin.pR ?_; intros; refine Lin.gd _ ?_; refine Lin.gd _ ?_ <;> exact Lin.k _ _ _ _)
    | (refine Lin.pI ?_; intros; refine Lin.pR ?_; intros; refine Lin.gd _ ?_ <;> exact Lin.k _ _ _ _)
    | (refine Lin.pI ?_; intros; refine Lin.pI ?_; intros; refine Lin.pR ?_; intros; refine Lin.gd _ ?_ <;> exact Lin.k _ _ _ _)
    | (refine Lin.pL ?_; intros; refine Lin.pI ?_; intros; refine Lin.pR ?_; intros; refine Lin.gd _ ?_ <;> exact Lin.k _ _ _ _)
    | (refine Lin.pR ?_; intros; refine Lin.gd _ ?_ <;> exact Lin.k _ _ _ _)
    | (refine Lin.popn ?_ _ _ _; intros; refine Lin.gd _ ?_; refine Lin.gd _ ?_; refine Lin.clK ?_ ?_ ?_ <;> intros <;> exact Lin.k _ _ _ _)
    | (refine Lin.gd _ ?_ <;> exact Lin.c _)
    | (show Lin (fun K => lA (nth ls b) (fun v => K (pc + len) ls (v :: st) h)); refine Lin.lA ?_; intros; exact Lin.k _ _ _ _)
    | (show Lin (fun K => pA st (fun v t => K (pc + len) (setn ls b v) t h)); refine Lin.pA ?_; intros; exact Lin.k _ _ _ _)
    | (show Lin (fun K => p1 st (fun v t => K (pc + len) ls (v :: v :: t) h)); refine Lin.p1 ?_; intros; exact Lin.k _ _ _ _)
    | (show Lin (fun K => p1 st (fun v t => p1 t (fun w t => K (pc + len) ls (v :: w :: v :: w :: t) h))); refine Lin.p1 (f := fun v t K => p1 t (fun w t => K (pc + len) ls (v :: w :: v :: w :: t) h)) ?_; intro v t; refine Lin.p1 ?_; intros; exact Lin.k _ _ _ _)
    | (show Lin (fun K => p1 st (fun _ t => K (pc + len) ls t h)); refine Lin.p1 (f := fun _ t K => K (pc + len) ls t h) ?_; intros; exact Lin.k _ _ _ _)
    | exact Lin.c _
theorem stp_lin (ft : Nat → Option Ent) (cl : List Fn) (hn : List (Nat × Int32)) (sw : List (List Nat)) (pc : Nat) (ls st : List Value) (h : Hp) : Lin (fun K => stp SKc SKn SKr CS ft cl hn sw K pc ls st h) := by
  unfold stp
  rcases ft pc with _ | ⟨m, i, len, b, c, d, x⟩
  · exact Lin.c none
  · exact stI_lin SKc SKn SKr CS cl hn sw i len b c d x pc (kl m ls) st h
theorem stp_l2 (ft : Nat → Option Ent) (cl : List Fn) (hn : List (Nat × Int32)) (sw : List (List Nat)) (pc : Nat) (ls st : List Value) (h : Hp) : (∃ (pc2 : Nat) (ls2 st2 : List Value) (h2 : Hp), ∀ K : Kt, stp SKc SKn SKr CS ft cl hn sw K pc ls st h = K pc2 ls2 st2 h2) ∨ ∃ r : Res, ∀ K : Kt, stp SKc SKn SKr CS ft cl hn sw K pc ls st h = r := stp_lin SKc SKn SKr CS ft cl hn sw pc ls st h
theorem exN_mono (ft : Nat → Option Ent) (cl : List Fn) (hn : List (Nat × Int32)) (sw : List (List Nat)) : ∀ (n : Nat) (pc : Nat) (ls st : List Value) (h : Hp) (r : (Option Value × Hp) ⊕ (Nat × Hp)), exN SKc SKn SKr CS ft cl hn sw n pc ls st h = some r → exN SKc SKn SKr CS ft cl hn sw (n + 1) pc ls st h = some r := by
  intro n
  induction n with
  | zero => intro pc ls st h r e; cases e
  | succ n ih =>
    intro pc ls st h r e
    show stp SKc SKn SKr CS ft cl hn sw (exN SKc SKn SKr CS ft cl hn sw (n + 1)) pc ls st h = some r
    have e1 : stp SKc SKn SKr CS ft cl hn sw (exN SKc SKn SKr CS ft cl hn sw n) pc ls st h = some r := e
    rcases stp_l2 SKc SKn SKr CS ft cl hn sw pc ls st h with ⟨pc2, ls2, st2, h2, q⟩ | ⟨r2, q⟩
    · rw [q] at e1 ⊢
      exact ih _ _ _ _ _ e1
    · rw [q] at e1 ⊢
      exact e1
theorem exN_le (ft : Nat → Option Ent) (cl : List Fn) (hn : List (Nat × Int32)) (sw : List (List Nat)) {n k : Nat} (hk : n ≤ k) (pc : Nat) (ls st : List Value) (h : Hp) (r : (Option Value × Hp) ⊕ (Nat × Hp)) (e : exN SKc SKn SKr CS ft cl hn sw n pc ls st h = some r) : exN SKc SKn SKr CS ft cl hn sw k pc ls st h = some r := by
  induction hk with
  | refl => exact e
  | step _ ih => exact exN_mono SKc SKn SKr CS ft cl hn sw _ _ _ _ _ _ ih
/-- a method's run, whatever number of steps it takes -/
noncomputable def exL (ft : Nat → Option Ent) (cl : List Fn) (hn : List (Nat × Int32)) (sw : List (List Nat)) : Kt := fun pc ls st h =>
  @dite _ (∃ (r : (Option Value × Hp) ⊕ (Nat × Hp)) (n : Nat), exN SKc SKn SKr CS ft cl hn sw n pc ls st h = some r) (Classical.propDecidable _) (fun q => some (Classical.choose q)) (fun _ => none)
theorem exL_of (ft : Nat → Option Ent) (cl : List Fn) (hn : List (Nat × Int32)) (sw : List (List Nat)) {n pc : Nat} {ls st : List Value} {h : Hp} {r : (Option Value × Hp) ⊕ (Nat × Hp)} (e : exN SKc SKn SKr CS ft cl hn sw n pc ls st h = some r) : exL SKc SKn SKr CS ft cl hn sw pc ls st h = some r := by
  have q : ∃ (r : (Option Value × Hp) ⊕ (Nat × Hp)) (n : Nat), exN SKc SKn SKr CS ft cl hn sw n pc ls st h = some r := ⟨r, n, e⟩
  unfold exL
  rw [dif_pos q]
  obtain ⟨k, hk⟩ := Classical.choose_spec q
  have h1 := exN_le SKc SKn SKr CS ft cl hn sw (Nat.le_max_left n k) _ _ _ _ _ e
  have h2 := exN_le SKc SKn SKr CS ft cl hn sw (Nat.le_max_right n k) _ _ _ _ _ hk
  exact h2.symm.trans h1
theorem exL_to (ft : Nat → Option Ent) (cl : List Fn) (hn : List (Nat × Int32)) (sw : List (List Nat)) {pc : Nat} {ls st : List Value} {h : Hp} {r : (Option Value × Hp) ⊕ (Nat × Hp)} (e : exL SKc SKn SKr CS ft cl hn sw pc ls st h = some r) : ∃ n, exN SKc SKn SKr CS ft cl hn sw n pc ls st h = some r := by
  unfold exL at e
  split at e
  · rename_i q
    obtain ⟨k, hk⟩ := Classical.choose_spec q
    exact ⟨k, hk.trans e⟩
  · cases e
theorem exL_stp (ft : Nat → Option Ent) (cl : List Fn) (hn : List (Nat × Int32)) (sw : List (List Nat)) (pc : Nat) (ls st : List Value) (h : Hp) : exL SKc SKn SKr CS ft cl hn sw pc ls st h = stp SKc SKn SKr CS ft cl hn sw (exL SKc SKn SKr CS ft cl hn sw) pc ls st h := by
  rcases stp_l2 SKc SKn SKr CS ft cl hn sw pc ls st h with ⟨pc2, ls2, st2, h2, q⟩ | ⟨r2, q⟩
  · rw [q]
    rcases e : exL SKc SKn SKr CS ft cl hn sw pc2 ls2 st2 h2 with _ | r
    · rcases e1 : exL SKc SKn SKr CS ft cl hn sw pc ls st h with _ | r
      · rfl
      · obtain ⟨n, hn1⟩ := exL_to SKc SKn SKr CS ft cl hn sw e1
        cases n with
        | zero => cases hn1
        | succ n =>
          have h3 : stp SKc SKn SKr CS ft cl hn sw (exN SKc SKn SKr CS ft cl hn sw n) pc ls st h = some r := hn1
          rw [q] at h3
          rw [exL_of SKc SKn SKr CS ft cl hn sw h3] at e
          cases e
    · obtain ⟨n, hn1⟩ := exL_to SKc SKn SKr CS ft cl hn sw e
      refine exL_of SKc SKn SKr CS ft cl hn sw (n := n + 1) ?_
      show stp SKc SKn SKr CS ft cl hn sw (exN SKc SKn SKr CS ft cl hn sw n) pc ls st h = some r
      rw [q]; exact hn1
  · rw [q]
    cases r2 with
    | none =>
      rcases e1 : exL SKc SKn SKr CS ft cl hn sw pc ls st h with _ | r
      · rfl
      · obtain ⟨n, hn1⟩ := exL_to SKc SKn SKr CS ft cl hn sw e1
        cases n with
        | zero => cases hn1
        | succ n =>
          have h3 : stp SKc SKn SKr CS ft cl hn sw (exN SKc SKn SKr CS ft cl hn sw n) pc ls st h = some r := hn1
          rw [q] at h3
          cases h3
    | some r =>
      refine exL_of SKc SKn SKr CS ft cl hn sw (n := 1) ?_
      show stp SKc SKn SKr CS ft cl hn sw (exN SKc SKn SKr CS ft cl hn sw 0) pc ls st h = some r
      rw [q]
theorem exL_kl (ft : Nat → Option Ent) (cl : List Fn) (hn : List (Nat × Int32)) (sw : List (List Nat)) (pc : Nat) (ls st : List Value) (h : Hp) : exL SKc SKn SKr CS ft cl hn sw pc (kl (msk ft pc) ls) st h = exL SKc SKn SKr CS ft cl hn sw pc ls st h := by
  rw [exL_stp, exL_stp SKc SKn SKr CS ft cl hn sw pc ls st h]
  unfold stp msk
  rcases ft pc with _ | ⟨m, i, len, b, c, d, x⟩
  · rfl
  · show stI SKc SKn SKr CS cl hn sw i len b c d x _ pc (kl m (kl m ls)) st h = _
    rw [kl_kl]
/-- k steps at once, stopping at the places of a list -/
def itK (ft : Nat → Option Ent) (cl : List Fn) (hn : List (Nat × Int32)) (sw : List (List Nat)) (cuts : List Nat) (K : Kt) : Nat → Kt
  | 0 => K
  | n + 1 => fun pc ls st h => stp SKc SKn SKr CS ft cl hn sw (fun pc2 ls2 st2 h2 => match memb pc2 cuts with
      | true => K pc2 (kl (msk ft pc2) ls2) st2 h2
      | false => itK ft cl hn sw cuts K n pc2 ls2 st2 h2) pc ls st h
theorem exL_it (ft : Nat → Option Ent) (cl : List Fn) (hn : List (Nat × Int32)) (sw : List (List Nat)) (cuts : List Nat) : ∀ (n : Nat) (pc : Nat) (ls st : List Value) (h : Hp), exL SKc SKn SKr CS ft cl hn sw pc ls st h = itK SKc SKn SKr CS ft cl hn sw cuts (exL SKc SKn SKr CS ft cl hn sw) n pc ls st h := by
  intro n
  induction n with
  | zero => intro pc ls st h; rfl
  | succ n ih =>
    intro pc ls st h
    rw [exL_stp]
    show _ = stp SKc SKn SKr CS ft cl hn sw (fun pc2 ls2 st2 h2 => match memb pc2 cuts with
      | true => exL SKc SKn SKr CS ft cl hn sw pc2 (kl (msk ft pc2) ls2) st2 h2
      | false => itK SKc SKn SKr CS ft cl hn sw cuts (exL SKc SKn SKr CS ft cl hn sw) n pc2 ls2 st2 h2) pc ls st h
    congr 1
    funext pc2 ls2 st2 h2
    cases memb pc2 cuts
    · exact ih pc2 ls2 st2 h2
    · exact (exL_kl SKc SKn SKr CS ft cl hn sw pc2 ls2 st2 h2).symm
end
end
section
/-! ===== where the two constructors put what they make, counted from the first ===== -/
def nthN : List Nat → Nat → Nat
  | [], _ => 99
  | x :: _, 0 => x
  | _ :: t, n + 1 => nthN t n
def SKc (a : Nat) : Nat := cond (Nat.blt a 11) (nthN [5, 13, 10, 15, 16, 17, 10, 10, 10, 10, 10] a) (cond (Nat.blt a 47) (nthN [0, 14, 10, 3, 3, 3, 3, 3, 3] ((a - 11) % 9)) (cond (Nat.blt a 107) 1 (cond (Nat.blt a 167) 4 (cond (Nat.blt a 227) 2 (cond (Nat.blt a 228) 10 (cond (Nat.beq a 1000) 18 99))))))
def SKn (a : Nat) : Nat := cond (Nat.blt a 11) (nthN [15, 4, 10, 60, 60, 60, 60, 60, 60, 60, 20] a) (cond (Nat.blt a 47) (nthN [6, 6, 7, 3, 3, 3, 3, 3, 3] ((a - 11) % 9)) (cond (Nat.blt a 107) 14 (cond (Nat.blt a 167) 13 (cond (Nat.blt a 227) 9 (cond (Nat.blt a 228) 18 0)))))
def SKr (a k : Nat) : Nat := cond (Nat.beq a 0) (k + 1) (cond (Nat.beq a 1) (11 + 9 * k) (cond (Nat.beq a 3) (47 + k) (cond (Nat.beq a 4) (107 + k) (cond (Nat.beq a 5) (167 + k) (cond (Nat.beq ((a - 11) % 9) 0) (a + 1 + k) (a + 2 + k))))))
def CSL : List (List Nat) := [[5], [6], [0], [3], [1], [4], [2], [1, 2, 4]]
def CS (n : Nat) : List Nat := nthS CSL n
def okc (a n : Nat) : Bool := memb (SKc a) (CS n)
def F_mmax : Fn := fun as h => match as with
  | [.int x, .int y] => rtn (some (.int (if x < y then y else x))) h
  | _ => none
def F_mmin : Fn := fun as h => match as with
  | [.int x, .int y] => rtn (some (.int (if y < x then y else x))) h
  | _ => none
def F_mabs : Fn := fun as h => match as with
  | [.int x] => rtn (some (.int (if 0 ≤ x then x else 0 - x))) h
  | _ => none
end
section
/-! ===== soundness: the abstract machine's runs are the machine's ===== -/
def WG : List Jvm.Cond := lw_tbl.filter goodWord
theorem wg_in {i : Nat} {w : Jvm.Cond} (h : lw_tbl[i]? = some w) (g : goodWord w = true) : w ∈ WG := List.mem_filter.mpr ⟨List.mem_of_getElem? h, g⟩
theorem wg_good : GoodIn WG WG := fun w h => ⟨h, good_of_word (List.mem_filter.mp h).2⟩
theorem wg_tbl : ∀ w ∈ WG, w ∈ lw_tbl := fun w h => (List.mem_filter.mp h).1
/-- an address, a value, as they stand in the machine -/
def trA (base sb a : Nat) : Nat := cond (Nat.beq a 1000) sb (base + a)
def tr (base sb : Nat) : Value → Value
  | .ref a => .ref (trA base sb a)
  | .int x => .int x
  | .long x => .long x
  | .null => .null
  | v => v
def rfk (ci k : Nat) : Bool := match ci with
  | 0 => Nat.blt k 2
  | 5 => Nat.blt k 10
  | _ => false
def valE (base : Nat) (h : Hp) (a c k : Nat) : Value := cond (rfk c k) (.ref (base + SKr a k)) (.int (rd h a k))
def entE (base : Nat) (dA : Nat → ClassId) (h : Hp) (a : Nat) : va_E :=
  cond (Nat.blt (SKc a) 10) (.inr (SKc a, (List.range (SKn a)).map (valE base h a (SKc a))))
    (cond (Nat.blt (SKc a) 12) (.inl (dA (SKc a - 10), SKn a, .inl (fun j => rd h a j)))
      (cond (Nat.beq (SKc a) 12) (.inl (dA 2, SKn a, .inr (.inl (fun j => rdL h j))))
        (.inl (dA (SKc a - 10), SKn a, .inr (.inr (.inr (.inr (fun j => some (base + SKr a j)))))))))

def wd (base : Nat) (dA : Nat → ClassId) (h : Hp) : va_W := (List.range 228).map fun a => (base + a, entE base dA h a)
def tys (dA : Nat → ClassId) : List (ClassId × FieldType) := [(dA 0, .int), (dA 1, .int), (dA 2, .int), (dA 3, .object "SlotConference$Airport"), (dA 4, .object "SlotConference$Rule"), (dA 5, .object "SlotConference$Request"), (dA 6, .object "SlotConference$Series"), (dA 7, .object "SlotConference$Right")]
abbrev Ab (base : Nat) : Nat → Prop := fun q => base ≤ q
theorem wd_get {base : Nat} {dA : Nat → ClassId} {h : Hp} {a : Nat} (ha : a < 228) : (wd base dA h)[a]? = some (base + a, entE base dA h a) := by
  unfold wd
  rw [List.getElem?_map, List.getElem?_range ha]
  rfl
theorem wd_of {base : Nat} {dA : Nat → ClassId} {h : Hp} {k : Nat} {q : Nat × va_E} (e : (wd base dA h)[k]? = some q) : k < 228 ∧ q = (base + k, entE base dA h k) := by
  have hk : k < 228 := by
    have h1 := (List.getElem?_eq_some_iff.mp e).1
    simpa [wd] using h1
  rw [wd_get hk] at e
  exact ⟨hk, (Option.some.inj e).symm⟩
theorem wd_D {base : Nat} {dA : Nat → ClassId} {h : Hp} : va_D (Ab base) (wd base dA h) := by
  refine ⟨fun i j p q hi hj hpq => ?_, fun k q hk => ?_⟩
  · obtain ⟨-, rfl⟩ := wd_of hi
    obtain ⟨-, rfl⟩ := wd_of hj
    have h2 : base + i = base + j := hpq
    omega
  · obtain ⟨-, rfl⟩ := wd_of hk
    exact Nat.le_add_right _ _
theorem wd_set {base : Nat} {dA : Nat → ClassId} {h g : Hp} {a : Nat} {e : va_E} (ha : a < 228) (he : entE base dA g a = e) (ho : ∀ b, b < 228 → b ≠ a → entE base dA g b = entE base dA h b) : (wd base dA h).set a (base + a, e) = wd base dA g := by
  apply List.ext_getElem?
  intro k
  by_cases hk : k < 228
  · by_cases hka : k = a
    · subst hka
      rw [List.getElem?_set_self (by simpa [wd] using hk), wd_get hk, he]
    · rw [List.getElem?_set_ne (Ne.symm hka), wd_get hk, wd_get hk, ho k hk hka]
  · have l1 : (wd base dA h).length = 228 := by simp [wd]
    have l2 : (wd base dA g).length = 228 := by simp [wd]
    rw [List.getElem?_eq_none (by rw [List.length_set, l1]; omega), List.getElem?_eq_none (by rw [l2]; omega)]
/-- classes of addresses -/
theorem SKc_lt {a : Nat} (h : SKc a < 18) : a < 228 := by
  rcases Nat.lt_or_ge a 228 with q | q
  · exact q
  · exfalso
    have h1 : Nat.blt a 11 = false := by rw [Bool.eq_false_iff]; intro z; have := Nat.blt_eq.mp z; omega
    have h2 : Nat.blt a 47 = false := by rw [Bool.eq_false_iff]; intro z; have := Nat.blt_eq.mp z; omega
    have h3 : Nat.blt a 107 = false := by rw [Bool.eq_false_iff]; intro z; have := Nat.blt_eq.mp z; omega
    have h4 : Nat.blt a 167 = false := by rw [Bool.eq_false_iff]; intro z; have := Nat.blt_eq.mp z; omega
    have h5 : Nat.blt a 227 = false := by rw [Bool.eq_false_iff]; intro z; have := Nat.blt_eq.mp z; omega
    have h6 : Nat.blt a 228 = false := by rw [Bool.eq_false_iff]; intro z; have := Nat.blt_eq.mp z; omega
    unfold SKc at h
    rw [h1, h2, h3, h4, h5, h6] at h
    cases h7 : Nat.beq a 1000 <;> rw [h7] at h <;> simp at h
theorem SKc_18 {a : Nat} (h : SKc a = 18) : a = 1000 := by
  rcases Nat.lt_or_ge a 228 with q | q
  · exfalso
    have : ∀ a, a < 228 → SKc a ≠ 18 := by decide +kernel
    exact this a q h
  · have h1 : Nat.blt a 11 = false := by rw [Bool.eq_false_iff]; intro z; have := Nat.blt_eq.mp z; omega
    have h2 : Nat.blt a 47 = false := by rw [Bool.eq_false_iff]; intro z; have := Nat.blt_eq.mp z; omega
    have h3 : Nat.blt a 107 = false := by rw [Bool.eq_false_iff]; intro z; have := Nat.blt_eq.mp z; omega
    have h4 : Nat.blt a 167 = false := by rw [Bool.eq_false_iff]; intro z; have := Nat.blt_eq.mp z; omega
    have h5 : Nat.blt a 227 = false := by rw [Bool.eq_false_iff]; intro z; have := Nat.blt_eq.mp z; omega
    have h6 : Nat.blt a 228 = false := by rw [Bool.eq_false_iff]; intro z; have := Nat.blt_eq.mp z; omega
    unfold SKc at h
    rw [h1, h2, h3, h4, h5, h6] at h
    cases h7 : Nat.beq a 1000 <;> rw [h7] at h
    · simp at h
    · exact Nat.eq_of_beq_eq_true h7
theorem memb_in {x : Nat} : ∀ {l : List Nat}, memb x l = true → x ∈ l
  | y :: t, h => by
    unfold memb at h
    cases e : Nat.beq x y <;> rw [e] at h
    · exact List.mem_cons_of_mem _ (memb_in h)
    · rw [Nat.eq_of_beq_eq_true e]; exact List.mem_cons_self
/-- the three throwables, by number -/
def EN : Nat → String
  | 0 => "java/lang/IndexOutOfBoundsException"
  | 1 => "java/lang/IllegalArgumentException"
  | _ => "java/lang/IllegalStateException"
/-- texts of the own classes' throws -/
abbrev StrT : Type := String × Nat × String
def vz_S (L : List StrT) (U : State) : Prop := ∀ q ∈ L, ∃ a, vk_R q.1 q.2.1 q.2.2 a U
theorem vz_S.warm {L : List StrT} {s U : State} (hW : s.WarmedH U.vm) (h : vz_S L s) : vz_S L U := fun q hq => by
  obtain ⟨a, ha⟩ := h q hq
  exact ⟨a, vk_R.warm hW ha⟩
def vz_C (L : List Jvm.Cond) (U : State) : Prop := ∀ w ∈ L, w.before #[] U = true
theorem vz_C.moved {L : List Jvm.Cond} (hf : ∀ w ∈ L, Cond.faceAtom w = true) {u U : State} (hvm : u.vm.Alike U.vm) (h : vz_C L u) : vz_C L U := fun w hw => by
  have h1 := Cond.faceAtom_setVm hvm w (hf w hw) (h w hw)
  have h2 := hf w hw
  cases w <;> first | exact h1 | (simp [Cond.faceAtom] at h2)
/-! the world at a place of a run -/
def EXW : List Jvm.Cond := [.castable "java/lang/IndexOutOfBoundsException" "java/lang/IndexOutOfBoundsException", .castable "java/lang/IllegalArgumentException" "java/lang/IllegalArgumentException", .castable "java/lang/IllegalStateException" "java/lang/IllegalStateException", .declares ⟨"java/lang/RuntimeException", "<init>", "(Ljava/lang/String;)V"⟩, .declares ⟨"java/lang/Exception", "<init>", "(Ljava/lang/String;)V"⟩, .declares ⟨"java/lang/Throwable", "<init>", "(Ljava/lang/String;)V"⟩]
theorem EXW_face : ∀ w ∈ EXW, Cond.faceAtom w = true := by
  intro w hw
  simp only [EXW, List.mem_cons, List.not_mem_nil, or_false] at hw
  rcases hw with rfl | rfl | rfl | rfl | rfl | rfl <;> rfl
/-- which throwable isn't of which class -/
def EXN (U : State) : Prop := va_Nc (EN 1) (EN 0) U ∧ va_Nc (EN 2) (EN 0) U ∧ va_Nc (EN 2) (EN 1) U ∧ va_Nc (EN 0) (EN 1) U ∧ va_Nc (EN 0) (EN 2) U ∧ va_Nc (EN 1) (EN 2) U
/-- what the throws and the catches ask of the tables -/
def Ex0 (SL : List StrT) (U : State) : Prop := vz_C EXW U ∧ EXN U ∧ vz_S SL U
theorem Ex0.warm {SL : List StrT} {s U : State} (hW : s.WarmedH U.vm) (h : Ex0 SL s) : Ex0 SL U :=
  ⟨vz_C.moved EXW_face hW.alike h.1, ⟨va_Nc.moved hW.alike h.2.1.1, va_Nc.moved hW.alike h.2.1.2.1, va_Nc.moved hW.alike h.2.1.2.2.1, va_Nc.moved hW.alike h.2.1.2.2.2.1, va_Nc.moved hW.alike h.2.1.2.2.2.2.1, va_Nc.moved hW.alike h.2.1.2.2.2.2.2⟩, vz_S.warm hW h.2.2⟩
/-- .. and of two cells ahead of the world -/
def Ex1 (A : Nat → Prop) (U : State) (H : Heap) : Prop := vx_Zq Bundle.tN "UNASSIGNED_STACK" Bundle.steD A U H ∧ vx_Zq Bundle.tN "SUPPRESSED_SENTINEL" Bundle.listD A U H
def Wd (base sb : Nat) (D : va_G) (dA : Nat → ClassId) (h : Hp) (U : State) (H : Heap) : Prop :=
  va_P D vwCl (wd base dA h) H ∧ va_X sb (rd h SCRB 0).toNatClampNeg (fun j => rd h SCRA j) U H ∧ sb < base ∧ Ex1 (Ab base) U H
theorem Wd.moved {base sb : Nat} {D : va_G} {dA : Nat → ClassId} {h : Hp} {u U : State} {H : Heap} (hvm : u.vm.Alike U.vm) (w : Wd base sb D dA h u H) : Wd base sb D dA h U H :=
  ⟨w.1, va_X.moved hvm w.2.1, w.2.2.1, vx_Zq.moved hvm w.2.2.2.1, vx_Zq.moved hvm w.2.2.2.2⟩
/-- a heap that keeps all but the world, with the world given anew -/
theorem Wd.put {base sb : Nat} {D : va_G} {dA : Nat → ClassId} {h g : Hp} {U : State} {H H1 : Heap} (w : Wd base sb D dA h U H) (hP : va_P D vwCl (wd base dA g) H1) (e1 : rd g SCRB 0 = rd h SCRB 0) (e2 : (fun j => rd g SCRA j) = fun j => rd h SCRA j) (hk : ∀ q : Nat, q < H.size → ¬ Ab base q → H1[q]? = H[q]?) : Wd base sb D dA g U H1 := by
  refine ⟨hP, ?_, w.2.2.1, w.2.2.2.1.kept hk, w.2.2.2.2.kept hk⟩
  rw [e1, e2]
  refine va_X.kept w.2.1 (hk sb ?_ (Nat.not_le.mpr w.2.2.1))
  obtain ⟨scr, h1, -⟩ := w.2.1
  exact (Array.getElem?_eq_some_iff.mp h1).1
def Cx (SL : List StrT) (p : Program) (s : State) (m : MethodId) (args : Array Value) (c : Code) (cc : ByteArray) (nL : Nat) (own : String) (D : va_G) (dA : Nat → ClassId) : Prop :=
  p.tables.exec = Jvm.exec ∧ c.code = cc ∧ c.maxLocals = nL ∧ s.vm.findClass own = some m.cls ∧ (∀ w ∈ WG, w.before args s = true) ∧ va_K D vwCl (tys dA) s ∧ Ex0 SL s
/-- locals -/
def LR (base sb : Nat) (ls : Array Slot) (nL : Nat) (lA : List Value) : Prop := ls.size = nL ∧ lv_wf ls ∧ ∀ (i : Nat) (v : Value), lA[i]? = some v → v ≠ .retAddr 0 → v.category = 1 ∧ ls[i]? = some (.val (tr base sb v))
theorem nth_get {v : Value} (hv : v ≠ .retAddr 0) : ∀ {l : List Value} {i : Nat}, nth l i = v → l[i]? = some v
  | [], i, h => absurd h.symm hv
  | w :: t, 0, h => by rw [← h]; rfl
  | w :: t, i + 1, h => by rw [List.getElem?_cons_succ]; exact nth_get hv h
theorem setn_get {x v : Value} : ∀ {l : List Value} {i j : Nat}, (setn l i x)[j]? = some v → (j = i ∧ v = x) ∨ (j ≠ i ∧ l[j]? = some v)
  | [], i, j, h => by simp [setn] at h
  | w :: t, 0, 0, h => Or.inl ⟨rfl, by simpa [setn] using h.symm⟩
  | w :: t, 0, j + 1, h => Or.inr ⟨Nat.succ_ne_zero j, h⟩
  | w :: t, i + 1, 0, h => Or.inr ⟨Nat.zero_ne_add_one i, h⟩
  | w :: t, i + 1, j + 1, h => by
    rcases setn_get (l := t) (i := i) (j := j) (by simpa [setn] using h) with ⟨e1, e2⟩ | ⟨e1, e2⟩
    · exact Or.inl ⟨by rw [e1], e2⟩
    · exact Or.inr ⟨fun z => e1 (by omega), by simpa using e2⟩
theorem kl_get {v : Value} (hv : v ≠ .retAddr 0) : ∀ {m : List Bool} {l : List Value} {j : Nat}, (kl m l)[j]? = some v → l[j]? = some v
  | [], l, j, h => h
  | b :: m, [], j, h => by simp [kl] at h
  | true :: m, w :: t, 0, h => by
    have : Value.retAddr 0 = v := by simpa [kl] using h
    exact absurd this.symm hv
  | true :: m, w :: t, j + 1, h => by
    rw [List.getElem?_cons_succ]
    exact kl_get hv (m := m) (by simpa [kl] using h)
  | false :: m, w :: t, 0, h => h
  | false :: m, w :: t, j + 1, h => by
    rw [List.getElem?_cons_succ]
    exact kl_get hv (m := m) (by simpa [kl] using h)
theorem LR.kl {base sb : Nat} {ls : Array Slot} {nL : Nat} {lA : List Value} (h : LR base sb ls nL lA) (m : List Bool) : LR base sb ls nL (kl m lA) :=
  ⟨h.1, h.2.1, fun i v hi hv => h.2.2 i v (kl_get hv hi) hv⟩
/-- the listed values, for the kit's rows -/
def lrL (base sb : Nat) (lA : List Value) : List (Nat × Value) := (List.range lA.length).filterMap fun i => match lA[i]? with
  | some v => if v = .retAddr 0 then none else some (i, tr base sb v)
  | none => none
theorem LR.has {base sb : Nat} {ls : Array Slot} {nL : Nat} {lA : List Value} (h : LR base sb ls nL lA) : lv_has ls nL (lrL base sb lA) := by
  refine ⟨h.1, h.2.1, fun q hq => ?_⟩
  obtain ⟨i, -, hi⟩ := List.mem_filterMap.mp hq
  cases e : lA[i]? with
  | none => rw [e] at hi; simp at hi
  | some v =>
    rw [e] at hi
    by_cases z : v = .retAddr 0
    · simp [z] at hi
    · simp [z] at hi
      rw [← hi]
      exact (h.2.2 i v e z).2
theorem tr_cat {base sb : Nat} (v : Value) : (tr base sb v).category = v.category := by cases v <;> rfl
theorem tr_cats {base sb : Nat} : ∀ (t : List Value), ((t.map (tr base sb)).map fun v => v.category).sum = cats t
  | [] => rfl
  | v :: t => by
    rw [List.map_cons, List.map_cons, List.sum_cons, tr_cat, tr_cats t]
    rfl
/-- behind a store -/
theorem LR.set {base sb : Nat} {ls ls' : Array Slot} {nL i : Nat} {lA : List Value} {v : Value} (h : LR base sb ls nL lA) (hv : v.category = 1) (h' : lv_has ls' nL ((i, tr base sb v) :: (lrL base sb lA).filter (fun q => !(q.1 == i) && !(q.1 + 1 == i && q.2.category == 2)))) : LR base sb ls' nL (setn lA i v) := by
  refine ⟨h'.1, h'.2.1, fun j w hj hw => ?_⟩
  rcases setn_get hj with ⟨e1, e2⟩ | ⟨e1, e2⟩
  · subst e1; subst e2
    exact ⟨hv, h'.2.2 _ List.mem_cons_self⟩
  · have h1 := h.2.2 j w e2 hw
    refine ⟨h1.1, h'.2.2 (j, tr base sb w) (List.mem_cons_of_mem _ (List.mem_filter.mpr ⟨?_, ?_⟩))⟩
    · refine List.mem_filterMap.mpr ⟨j, List.mem_range.mpr (List.getElem?_eq_some_iff.mp e2).1, ?_⟩
      rw [e2]
      simp [hw]
    · have c2 : ((tr base sb w).category == 2) = false := by rw [tr_cat, h1.1]; rfl
      simp [e1, c2]
theorem LR.get {base sb : Nat} {ls : Array Slot} {nL i : Nat} {lA : List Value} {v : Value} (h : LR base sb ls nL lA) (hv : v ≠ .retAddr 0) (e : nth lA i = v) : ls[i]? = some (.val (tr base sb v)) := (h.2.2 i v (nth_get hv e) hv).2
/-! inversions -/
section INV
variable {r : (Option Value × Hp) ⊕ (Nat × Hp)}
theorem pI_inv {st : List Value} {f : Int32 → List Value → Res} (h : pI st f = some r) : ∃ x t, st = .int x :: t ∧ f x t = some r := by
  rcases st with _ | ⟨v, t⟩
  · cases h
  · cases v <;> first | exact ⟨_, _, rfl, h⟩ | cases h
theorem pL_inv {st : List Value} {f : Int64 → List Value → Res} (h : pL st f = some r) : ∃ x t, st = .long x :: t ∧ f x t = some r := by
  rcases st with _ | ⟨v, t⟩
  · cases h
  · cases v <;> first | exact ⟨_, _, rfl, h⟩ | cases h
theorem pR_inv {st : List Value} {f : Nat → List Value → Res} (h : pR st f = some r) : ∃ x t, st = .ref x :: t ∧ f x t = some r := by
  rcases st with _ | ⟨v, t⟩
  · cases h
  · cases v <;> first | exact ⟨_, _, rfl, h⟩ | cases h
theorem pA_inv {st : List Value} {f : Value → List Value → Res} (h : pA st f = some r) : (∃ x t, st = .ref x :: t ∧ f (.ref x) t = some r) ∨ ∃ t, st = .null :: t ∧ f .null t = some r := by
  rcases st with _ | ⟨v, t⟩
  · cases h
  · cases v <;> first | exact Or.inl ⟨_, _, rfl, h⟩ | exact Or.inr ⟨_, rfl, h⟩ | cases h
theorem p1_inv {st : List Value} {f : Value → List Value → Res} (h : p1 st f = some r) : ∃ v t, st = v :: t ∧ v.category = 1 ∧ f v t = some r := by
  rcases st with _ | ⟨v, t⟩
  · cases h
  · cases v <;> first | exact ⟨_, _, rfl, rfl, h⟩ | cases h
theorem pN_inv {st : List Value} {f g : List Value → Res} (h : pN st f g = some r) : (∃ t, st = .null :: t ∧ f t = some r) ∨ ∃ x t, st = .ref x :: t ∧ g t = some r := by
  rcases st with _ | ⟨v, t⟩
  · cases h
  · cases v <;> first | exact Or.inl ⟨_, rfl, h⟩ | exact Or.inr ⟨_, _, rfl, h⟩ | cases h
theorem lI_inv {v : Value} {f : Int32 → Res} (h : lI v f = some r) : ∃ x, v = .int x ∧ f x = some r := by
  cases v <;> first | exact ⟨_, rfl, h⟩ | cases h
theorem lA_inv {v : Value} {f : Value → Res} (h : lA v f = some r) : (∃ x, v = .ref x ∧ f (.ref x) = some r) ∨ (v = .null ∧ f .null = some r) := by
  cases v <;> first | exact Or.inl ⟨_, rfl, h⟩ | exact Or.inr ⟨rfl, h⟩ | cases h
theorem gd_inv {b : Bool} {x : Res} (h : gd b x = some r) : b = true ∧ x = some r := by
  cases b
  · cases h
  · exact ⟨rfl, h⟩
theorem popn_inv {f : List Value → List Value → Res} : ∀ {n : Nat} {st acc : List Value}, popn n st acc f = some r → ∃ as t, st = as.reverse ++ t ∧ as.length = n ∧ f (as ++ acc) t = some r ∧ (∀ v ∈ as, v.category = 1)
  | 0, st, acc, h => ⟨[], st, rfl, rfl, h, fun _ h => nomatch h⟩
  | n + 1, [], acc, h => by cases h
  | n + 1, .int x :: t, acc, h => by
    obtain ⟨as, t2, e1, e2, e3, e4⟩ := popn_inv (n := n) h
    exact ⟨as ++ [.int x], t2, by simp [e1], by simp [e2], by simpa using e3, fun v hv => by
      rcases List.mem_append.mp hv with q | q
      · exact e4 v q
      · rw [List.mem_singleton.mp q]; rfl⟩
  | n + 1, .ref x :: t, acc, h => by
    obtain ⟨as, t2, e1, e2, e3, e4⟩ := popn_inv (n := n) h
    exact ⟨as ++ [.ref x], t2, by simp [e1], by simp [e2], by simpa using e3, fun v hv => by
      rcases List.mem_append.mp hv with q | q
      · exact e4 v q
      · rw [List.mem_singleton.mp q]; rfl⟩
  | n + 1, .long _ :: t, acc, h => by cases h
  | n + 1, .float _ :: t, acc, h => by cases h
  | n + 1, .double _ :: t, acc, h => by cases h
  | n + 1, .null :: t, acc, h => by cases h
  | n + 1, .retAddr _ :: t, acc, h => by cases h
theorem swt_inv {v : Int32} {k : Nat → Res} {d : Res} : ∀ {ts : List Nat} {n : Nat}, swt v n ts k d = some r → (∃ (j tg : Nat), ts[j]? = some tg ∧ v = Int32.ofNat (n + j) ∧ k tg = some r) ∨ ((∀ j, j < ts.length → v ≠ Int32.ofNat (n + j)) ∧ d = some r)
  | [], n, h => Or.inr ⟨fun j hj => absurd hj (Nat.not_lt_zero j), h⟩
  | t :: ts, n, h => by
    by_cases q : v = Int32.ofNat n
    · have h1 : k t = some r := by rw [← h]; simp [swt, q]
      exact Or.inl ⟨0, t, rfl, q, h1⟩
    · have h1 : swt v (n + 1) ts k d = some r := by rw [← h]; simp [swt, q]
      rcases swt_inv h1 with ⟨j, tg, e1, e2, e3⟩ | ⟨e1, e2⟩
      · exact Or.inl ⟨j + 1, tg, by simpa using e1, by rw [e2]; congr 1; omega, e3⟩
      · refine Or.inr ⟨fun j hj => ?_, e2⟩
        cases j with
        | zero => exact q
        | succ j =>
          have := e1 j (by simpa using hj)
          rw [show n + (j + 1) = n + 1 + j by omega]
          exact this
theorem lkp_mem {α : Type} {v : α} {k : Nat} : ∀ {T : List (Nat × α)}, lkp T k = some v → (k, v) ∈ T
  | [], h => by cases h
  | (j, w) :: t, h => by
    unfold lkp at h
    cases e : Nat.beq j k <;> rw [e] at h
    · exact List.mem_cons_of_mem _ (lkp_mem h)
    · have e1 := Nat.eq_of_beq_eq_true e
      have e2 : w = v := Option.some.inj h
      rw [← e1, ← e2]
      exact List.mem_cons_self
theorem lk2_mem {α : Type} {v : α} {k : Nat} {T : List (List (Nat × α))} (h : lk2 T k = some v) : ∃ l ∈ T, (k, v) ∈ l := by
  unfold lk2 at h
  cases e : T[k / 64]? with
  | none => rw [e] at h; cases h
  | some l =>
    rw [e] at h
    exact ⟨l, List.mem_of_getElem? e, lkp_mem h⟩
end INV
/-! classes of the world's cells -/
def NCL : List Nat := [6, 14, 9, 3, 13, 15]
theorem ncl_ok : ∀ a, a < 228 → SKc a < 10 → nthN NCL (SKc a) = SKn a := by decide +kernel
theorem skc_7 : ∀ a, a < 228 → SKc a < 10 → SKc a < 7 := by decide +kernel
theorem skr_ok : ∀ a, a < 228 → SKc a < 7 → ∀ k, k < SKn a → rfk (SKc a) k = true → SKr a k < 228 := by decide +kernel
theorem skr_ok2 : ∀ a, a < 228 → 13 ≤ SKc a → ∀ k, k < SKn a → SKr a k < 228 := by decide +kernel
theorem skn_small : ∀ a, a < 228 → SKn a < 100 := by decide +kernel
set_option maxRecDepth 100000 in
theorem inW0 : ∀ w ∈ wsX00, w ∈ WG := by decide +kernel
set_option maxRecDepth 100000 in
theorem inW1 : ∀ w ∈ wsX10, w ∈ WG := by decide +kernel
set_option maxRecDepth 100000 in
theorem inW2 : ∀ w ∈ wsX20, w ∈ WG := by decide +kernel
set_option maxRecDepth 100000 in
theorem inW3 : ∀ w ∈ wsX30, w ∈ WG := by decide +kernel
set_option maxRecDepth 100000 in
theorem inW4 : ∀ w ∈ wsX40, w ∈ WG := by decide +kernel
set_option maxRecDepth 100000 in
theorem inW6 : ∀ w ∈ wsX60, w ∈ WG := by decide +kernel
/-- what the kit's rows ask of a class -/
def clOK (C : String) (T : u_T) (N : Nat) : Prop := (∀ w ∈ u_ws C T N, w ∈ WG) ∧ ∃ ty : Nat → FieldType, (∀ k, k < N → parseFieldDescriptor (T k).2.2.1 = some (ty k)) ∧ ∀ a, a < N → ∀ b, b < N → a ≠ b → (T a).2.1 ≠ (T b).2.1
theorem cl_ok {ci : Nat} {C : String} {T : u_T} {N : Nat} (h : vwCl[ci]? = some (C, T, N)) : ci < 7 ∧ nthN NCL ci = N ∧ clOK C T N := by
  match ci, h with
  | 0, h => cases h; exact ⟨by decide, rfl, inW0, tyX0, tyX0_ok, nmX0⟩
  | 1, h => cases h; exact ⟨by decide, rfl, inW1, tyX1, tyX1_ok, nmX1⟩
  | 2, h => cases h; exact ⟨by decide, rfl, inW2, tyX2, tyX2_ok, nmX2⟩
  | 3, h => cases h; exact ⟨by decide, rfl, inW3, tyX3, tyX3_ok, nmX3⟩
  | 4, h => cases h; exact ⟨by decide, rfl, inW4, tyX4, tyX4_ok, nmX4⟩
  | 5, h => cases h; exact ⟨by decide, rfl, inW6, tyX6, tyX6_ok, nmX6⟩
  | k + 6, h => simp [vwCl] at h
theorem skc_no : ∀ a, a < 228 → SKc a ≠ 11 ∧ SKc a ≠ 12 := by decide +kernel
end
section
/-! what is checked of a code table, once and for all -/
def fldW (own : String) (idx b d ci : Nat) (isR : Bool) (desc : Option String) : Bool := match vwCl[ci]? with
  | some (_, T, N) => Nat.blt b N && (rfk ci b == isR) && (match lw_tbl[d % 4096]? with
    | some (.fieldLink o i ref n ds) => decide (o = own) && decide (i = idx) && decide (n = (T b).2.1) && decide (ds = (T b).2.2.1) && (decide (ref = (T b).1) || (match lw_tbl[d / 4096]? with
      | some (.sameField r2 o2 n2 d2) => decide (r2 = ref) && decide (o2 = (T b).1) && decide (n2 = (T b).2.1) && decide (d2 = (T b).2.2.1)
      | _ => false))
    | _ => false) && (match desc with
    | some q => decide ((T b).2.2.1 = q) && decide ((T b).2.2.2 = false)
    | none => true)
  | none => false
def inC (cps : Option (List Nat)) (pc : Nat) : Bool := match cps with
  | some q => decide (pc ∈ q)
  | none => true
def tgOK (pc : Nat) (off : Int) (b : Nat) : Bool := decide ((pc : Int) + off = (b : Int))
def chkI (own : String) (nL zc : Nat) (sw : List (List Nat)) (cal : List (Nat × Nat × Nat × Nat × Nat)) (cps : Option (List Nat)) (thw : List (Nat × Nat)) (pc len b c d : Nat) (x : Int32) : Instr → Bool
  | .iconst n => Nat.beq len 1 && decide (Int32.ofInt n = x)
  | .bipush n => Nat.beq len 2 && decide ((Int8.ofInt n).toInt32 = x)
  | .sipush n => Nat.beq len 3 && decide ((Int16.ofInt n).toInt32 = x)
  | .ldc_w k => Nat.beq len 3 && decide (lw_tbl[d]? = some (.constant own k x))
  | .lconst _ => Nat.beq len 1
  | .aconst_null => Nat.beq len 1
  | .iload_n k => Nat.beq len 1 && Nat.beq k b
  | .iload k => Nat.beq len 2 && Nat.beq k b
  | .aload_n k => Nat.beq len 1 && Nat.beq k b
  | .aload k => Nat.beq len 2 && Nat.beq k b
  | .istore_n k => Nat.beq len 1 && Nat.beq k b && Nat.blt b nL
  | .istore k => Nat.beq len 2 && Nat.beq k b && Nat.blt b nL
  | .astore_n k => Nat.beq len 1 && Nat.beq k b && Nat.blt b nL
  | .astore k => Nat.beq len 2 && Nat.beq k b && Nat.blt b nL
  | .iinc k n => Nat.beq len 3 && Nat.beq k b && decide (Int32.ofInt n = x) && Nat.blt b nL
  | .iadd => Nat.beq len 1
  | .isub => Nat.beq len 1
  | .imul => Nat.beq len 1
  | .iand => Nat.beq len 1
  | .ior => Nat.beq len 1
  | .ishl => Nat.beq len 1
  | .ishr => Nat.beq len 1
  | .iushr => Nat.beq len 1
  | .idiv => Nat.beq len 1
  | .irem => Nat.beq len 1
  | .ineg => Nat.beq len 1
  | .i2l => Nat.beq len 1
  | .lcmp => Nat.beq len 1
  | .dup => Nat.beq len 1
  | .dup2 => Nat.beq len 1
  | .pop => Nat.beq len 1
  | .ifnull off => Nat.beq len 3 && tgOK pc off b
  | .if_icmp _ off => Nat.beq len 3 && tgOK pc off b
  | .ifCond _ off => Nat.beq len 3 && tgOK pc off b
  | .goto off => Nat.beq len 3 && tgOK pc off b
  | .tableswitch dflt lo hi offs => decide (lo = 0) && decide (hi + 1 = (offs.size : Int)) && tgOK pc dflt b && decide (offs.toList.map (fun o => (pc : Int) + o) = (nthS sw c).map Int.ofNat) && Nat.blt offs.size 100
  | .getfield k => Nat.beq len 3 && (CS (c / 2)).all (fun ci => fldW own k b d ci (Nat.beq (c % 2) 1) none)
  | .putfield k => Nat.beq len 3 && (CS (c / 2)).all (fun ci => fldW own k b d ci false (some (match c % 2 with | 0 => "I" | _ => "Z")))
  | .iaload => Nat.beq len 1
  | .aaload => Nat.beq len 1
  | .iastore => Nat.beq len 1
  | .arraylength => Nat.beq len 1
  | .invokevirtual k => Nat.beq len 3 && decide ((0, k, b, c, d) ∈ cal) && inC cps pc
  | .invokestatic k => Nat.beq len 3 && decide ((1, k, b, c, d) ∈ cal) && inC cps pc
  | .new _ => decide ((pc, b) ∈ thw)
  | .ireturn => Nat.beq len 1 && Nat.beq c zc && Nat.blt zc 2
  | .areturn => Nat.beq len 1 && Nat.beq zc 2
  | .return_ => Nat.beq len 1 && Nat.beq zc 3
  | _ => false
def chkE (own : String) (cc : ByteArray) (nL zc : Nat) (sw : List (List Nat)) (cal : List (Nat × Nat × Nat × Nat × Nat)) (cps : Option (List Nat)) (thw : List (Nat × Nat)) (e : Nat × Ent) : Bool := match e with
  | (pc, _, i, len, b, c, d, x) => decide (decode cc pc = .ok (i, len)) && chkI own nL zc sw cal cps thw pc len b c d x i
theorem fldW_spec {own : String} {idx b d ci : Nat} {isR : Bool} {desc : Option String} (h : fldW own idx b d ci isR desc = true) : ∃ (C : String) (T : u_T) (N : Nat) (ref : String), vwCl[ci]? = some (C, T, N) ∧ b < N ∧ rfk ci b = isR ∧ Cond.fieldLink own idx ref (T b).2.1 (T b).2.2.1 ∈ WG ∧ (ref = (T b).1 ∨ Cond.sameField ref (T b).1 (T b).2.1 (T b).2.2.1 ∈ WG) ∧ ∀ q, desc = some q → (T b).2.2.1 = q ∧ (T b).2.2.2 = false := by
  unfold fldW at h
  cases e : vwCl[ci]? with
  | none => rw [e] at h; cases h
  | some r =>
    obtain ⟨C, T, N⟩ := r
    rw [e] at h
    simp only [Bool.and_eq_true, beq_iff_eq, Nat.blt_eq] at h
    obtain ⟨⟨⟨h1, h2⟩, h3⟩, h4⟩ := h
    cases e3 : lw_tbl[d % 4096]? with
    | none => rw [e3] at h3; cases h3
    | some w =>
      rw [e3] at h3
      cases w with
      | fieldLink o i ref n ds =>
        simp only [Bool.and_eq_true, decide_eq_true_eq, Bool.or_eq_true] at h3
        obtain ⟨⟨⟨⟨h5, h6⟩, h7⟩, h8⟩, h9⟩ := h3
        subst h5; subst h6; subst h7; subst h8
        refine ⟨C, T, N, ref, rfl, h1, h2, wg_in e3 rfl, ?_, ?_⟩
        · rcases h9 with q | q
          · exact Or.inl q
          · cases e4 : lw_tbl[d / 4096]? with
            | none => rw [e4] at q; cases q
            | some w2 =>
              rw [e4] at q
              cases w2 with
              | sameField r2 o2 n2 d2 =>
                simp only [Bool.and_eq_true, decide_eq_true_eq] at q
                obtain ⟨⟨⟨q1, q2⟩, q3⟩, q4⟩ := q
                subst q1; subst q2; subst q3; subst q4
                exact Or.inr (wg_in e4 rfl)
              | _ => cases q
        · intro q hq
          subst hq
          simp only [Bool.and_eq_true, decide_eq_true_eq] at h4
          exact h4
      | _ => cases h3
theorem trA_lt {base sb a : Nat} (h : a < 228) : trA base sb a = base + a := by
  unfold trA
  cases e : Nat.beq a 1000
  · rfl
  · have := Nat.eq_of_beq_eq_true e
    omega
theorem tr_ref {base sb a : Nat} (h : a < 228) : tr base sb (.ref a) = .ref (base + a) := by
  show Value.ref (trA base sb a) = _
  rw [trA_lt h]
theorem entE_obj {base : Nat} {dA : Nat → ClassId} {h : Hp} {a : Nat} (hc : SKc a < 10) : entE base dA h a = .inr (SKc a, (List.range (SKn a)).map (valE base h a (SKc a))) := by
  unfold entE
  rw [show Nat.blt (SKc a) 10 = true from Nat.blt_eq.mpr hc]
  rfl
theorem entE_int {base : Nat} {dA : Nat → ClassId} {h : Hp} {a : Nat} (hc : SKc a = 10 ∨ SKc a = 11) : entE base dA h a = .inl (dA (SKc a - 10), SKn a, .inl (fun j => rd h a j)) := by
  unfold entE
  rcases hc with q | q <;> rw [q] <;> rfl
theorem entE_lng {base : Nat} {dA : Nat → ClassId} {h : Hp} {a : Nat} (hc : SKc a = 12) : entE base dA h a = .inl (dA 2, SKn a, .inr (.inl (fun j => rdL h j))) := by
  unfold entE
  rw [hc]
  rfl
theorem entE_ref {base : Nat} {dA : Nat → ClassId} {h : Hp} {a : Nat} (h1 : 13 ≤ SKc a) : entE base dA h a = .inl (dA (SKc a - 10), SKn a, .inr (.inr (.inr (.inr (fun j => some (base + SKr a j)))))) := by
  unfold entE
  rw [show Nat.blt (SKc a) 10 = false from by rw [Bool.eq_false_iff]; intro z; have := Nat.blt_eq.mp z; omega, show Nat.blt (SKc a) 12 = false from by rw [Bool.eq_false_iff]; intro z; have := Nat.blt_eq.mp z; omega, show Nat.beq (SKc a) 12 = false from by rw [Bool.eq_false_iff]; intro z; have := Nat.eq_of_beq_eq_true z; omega]
  rfl
/-- a write is seen in its own cell alone -/
theorem rd_wr_ne {h : Hp} {a b k j : Nat} {x : Int32} (hb : b ≠ a) : rd (wr h a k x) b j = rd h b j := by
  show (if b = a ∧ j = k then x else h.1 b j) = h.1 b j
  rw [if_neg (fun q => hb q.1)]
theorem rd_wr_eq {h : Hp} {a k j : Nat} {x : Int32} : rd (wr h a k x) a j = if j = k then x else rd h a j := by
  show (if a = a ∧ j = k then x else h.1 a j) = _
  by_cases q : j = k
  · rw [if_pos ⟨rfl, q⟩, if_pos q]
  · rw [if_neg (fun z => q z.2), if_neg q]; rfl
theorem entE_wr {base : Nat} {dA : Nat → ClassId} {h : Hp} {a b k : Nat} {x : Int32} (hb : b ≠ a) : entE base dA (wr h a k x) b = entE base dA h b := by
  have h1 : (fun j => rd (wr h a k x) b j) = fun j => rd h b j := funext fun j => rd_wr_ne hb
  have h2 : valE base (wr h a k x) b (SKc b) = valE base h b (SKc b) := funext fun j => by unfold valE; rw [rd_wr_ne hb]
  have h3 : (fun j => rdL (wr h a k x) j) = fun j => rdL h j := rfl
  unfold entE
  rw [h1, h2, h3]
theorem entE_wrL {base : Nat} {dA : Nat → ClassId} {h : Hp} {b k : Nat} {x : Int64} (hb : SKc b ≠ 12) : entE base dA (wrL h k x) b = entE base dA h b := by
  unfold entE
  have h1 : Nat.beq (SKc b) 12 = false := by rw [Bool.eq_false_iff]; intro z; exact hb (Nat.eq_of_beq_eq_true z)
  rw [h1]
  rfl
theorem skc12 : ∀ a, a < 228 → SKc a = 12 → a = 227 := by decide +kernel
end
section
/-! one step of the abstract machine is the machine's -/
theorem bV_inv {r : (Option Value × Hp) ⊕ (Nat × Hp)} {x : Res} {k : Hp → Res} {kx : Nat → Hp → Res} (h : bV x k kx = some r) : (∃ g, x = some (.inl (none, g)) ∧ k g = some r) ∨ ∃ E g, x = some (.inr (E, g)) ∧ kx E g = some r := by
  rcases x with _ | ⟨_ | v, g⟩ | ⟨E, g⟩
  · cases h
  · exact Or.inl ⟨g, rfl, h⟩
  · cases h
  · exact Or.inr ⟨E, g, rfl, h⟩
theorem bI_inv {r : (Option Value × Hp) ⊕ (Nat × Hp)} {x : Res} {k : Int32 → Hp → Res} {kx : Nat → Hp → Res} (h : bI x k kx = some r) : (∃ v g, x = some (.inl (some (.int v), g)) ∧ k v g = some r) ∨ ∃ E g, x = some (.inr (E, g)) ∧ kx E g = some r := by
  rcases x with _ | ⟨_ | v, g⟩ | ⟨E, g⟩
  · cases h
  · cases h
  · cases v <;> first | exact Or.inl ⟨_, g, rfl, h⟩ | cases h
  · exact Or.inr ⟨E, g, rfl, h⟩
theorem bR_inv {r : (Option Value × Hp) ⊕ (Nat × Hp)} {x : Res} {k : Nat → Hp → Res} {kx : Nat → Hp → Res} (h : bR x k kx = some r) : (∃ v g, x = some (.inl (some (.ref v), g)) ∧ k v g = some r) ∨ ∃ E g, x = some (.inr (E, g)) ∧ kx E g = some r := by
  rcases x with _ | ⟨_ | v, g⟩ | ⟨E, g⟩
  · cases h
  · cases h
  · cases v <;> first | exact Or.inl ⟨_, g, rfl, h⟩ | cases h
  · exact Or.inr ⟨E, g, rfl, h⟩
/-- what comes of a call: its answer goes on, or what it throws is caught or goes out -/
theorem clK_inv {r : (Option Value × Hp) ⊕ (Nat × Hp)} {rk : Nat} {x : Res} {kV : Hp → Res} {kI : Int32 → Hp → Res} {kR : Nat → Hp → Res} {kx : Nat → Hp → Res} {K : List Value → Hp → Res} {t : List Value}
    (h : clK rk x kV kI kR kx = some r) (eV : ∀ g, kV g = K t g) (eI : ∀ v g, kI v g = K (.int v :: t) g) (eR : ∀ v g, kR v g = K (.ref v :: t) g) : (∃ (v : Option Value) (g : Hp), x = some (.inl (v, g)) ∧ K (v.toList ++ t) g = some r) ∨ ∃ E g, x = some (.inr (E, g)) ∧ kx E g = some r := by
  rcases rk with _ | _ | _
  · rcases bV_inv h with ⟨g, e1, e2⟩ | q
    · exact Or.inl ⟨none, g, e1, (eV g).symm.trans e2⟩
    · exact Or.inr q
  · rcases bI_inv h with ⟨v, g, e1, e2⟩ | q
    · exact Or.inl ⟨some (.int v), g, e1, (eI v g).symm.trans e2⟩
    · exact Or.inr q
  · rcases bR_inv h with ⟨v, g, e1, e2⟩ | q
    · exact Or.inl ⟨some (.ref v), g, e1, (eR v g).symm.trans e2⟩
    · exact Or.inr q
def insC (q : Nat × Nat × Nat × Nat × Nat) : Instr := match q.1 with
  | 0 => .invokevirtual q.2.1
  | _ => .invokestatic q.2.1
/-- a call at the place of such an instruction does what F says -/
def CallOK (SL : List StrT) (l : Launch) (R : Room) (own : String) (i : Instr) (n d : Nat) (F : Fn) (dc ds : Nat) : Prop :=
  ∀ (p : Program) (e : Env) (s : State) (m : MethodId) (args : Array Value) (below : List Frame) (meth : Method) (c : Code) (cc : ByteArray) (nL base sb : Nat) (D : va_G) (dA : Nat → ClassId) (Q : State → Prop) (H : Heap) (locs : List Loc) (cells slots pc : Nat) (ls : Array Slot) (rest vs : List Value) (h : Hp),
    Cx SL p s m args c cc nL own D dA → decode cc pc = .ok (i, 3) → ls.size = nL → vs.length = n → recv SKc CS vs d = true → (rest.map fun v => v.category).sum ≤ 8 →
    Wd base sb D dA h s H → va_S (Ab base) s.heap H locs → base ≤ s.heap.size → cells + dc ≤ R.cells → slots + ds ≤ R.slots → F vs h ≠ none →
    (∀ (v : Option Value) (g : Hp), F vs h = some (.inl (v, g)) → ∀ (H' : Heap) (locs' : List Loc), Wd base sb D dA g s H' → va_S (Ab base) s.heap H' locs' →
      W p l e R s m args below meth c H' locs' (cells + dc) (slots + ds) Q (F0 m (pc + 3) ls ((v.map (tr base sb)).toList ++ rest))) →
    (∀ (E : Nat) (g : Hp), F vs h = some (.inr (E, g)) → (cells + 1 ≤ R.cells ∧ slots + 6 ≤ R.slots) ∧ ∀ (H' : Heap) (locs' : List Loc) (q : Addr) (ce : Cell), Wd base sb D dA g s H' → va_S (Ab base) s.heap H' locs' → H'[q]? = some ce → ce.vm = .none → s.vm.findClass (EN E) = some ce.cls →
      vx_W p l e R s m args below meth c H' locs' (cells + 1) (slots + 6) Q (F0 m pc ls rest) q) →
    W p l e R s m args below meth c H locs cells slots Q (F0 m pc ls ((vs.map (tr base sb)).reverse ++ rest))
section STEP
variable {SL : List StrT} {p : Program} {l : Launch} {e : Env} {R : Room} {s : State} {m : MethodId} {args : Array Value} {below : List Frame} {meth : Method} {c : Code} {cc : ByteArray} {nL : Nat} {own : String} {base sb : Nat} {D : va_G} {dA : Nat → ClassId} {Q : State → Prop}
def Snd (p : Program) (l : Launch) (e : Env) (R : Room) (s : State) (m : MethodId) (args : Array Value) (below : List Frame) (meth : Method) (c : Code) (Q : State → Prop) (nL base sb : Nat) (D : va_G) (dA : Nat → ClassId) (C S dc ds n : Nat) (r : (Option Value × Hp) ⊕ (Nat × Hp)) (K : Kt) : Prop :=
  ∀ (pc : Nat) (lA stA : List Value) (h : Hp) (H : Heap) (locs : List Loc) (cells slots : Nat) (ls : Array Slot), K pc lA stA h = some r → LR base sb ls nL lA → Wd base sb D dA h s H → va_S (Ab base) s.heap H locs → cells + n * dc ≤ C → slots + n * ds ≤ S →
    W p l e R s m args below meth c H locs cells slots Q (F0 m pc ls (stA.map (tr base sb)))
/-- how a run may end -/
def Ends (p : Program) (l : Launch) (e : Env) (R : Room) (s : State) (m : MethodId) (args : Array Value) (below : List Frame) (meth : Method) (c : Code) (Q : State → Prop) (cc : ByteArray) (nL base sb : Nat) (D : va_G) (dA : Nat → ClassId) (C S zc : Nat) (hn : List (Nat × Int32)) (cps : Option (List Nat)) (thw : List (Nat × Nat)) (r : (Option Value × Hp) ⊕ (Nat × Hp)) : Prop :=
  (∀ (pc : Nat) (ls : Array Slot) (v : Int32) (h : Hp) (H : Heap) (locs : List Loc) (cells slots : Nat), r = .inl (some (.int v), h) → okZ zc v = true → zc < 2 → Wd base sb D dA h s H → va_S (Ab base) s.heap H locs → cells ≤ C → slots ≤ S → decode cc pc = .ok (.ireturn, 1) → W p l e R s m args below meth c H locs cells slots Q (F0 m pc ls [.int v])) ∧
  (∀ (pc : Nat) (ls : Array Slot) (v : Nat) (h : Hp) (H : Heap) (locs : List Loc) (cells slots : Nat), r = .inl (some (.ref v), h) → zc = 2 → Wd base sb D dA h s H → va_S (Ab base) s.heap H locs → cells ≤ C → slots ≤ S → decode cc pc = .ok (.areturn, 1) → W p l e R s m args below meth c H locs cells slots Q (F0 m pc ls [tr base sb (.ref v)])) ∧
  (∀ (pc : Nat) (ls : Array Slot) (h : Hp) (H : Heap) (locs : List Loc) (cells slots : Nat), r = .inl (none, h) → zc = 3 → Wd base sb D dA h s H → va_S (Ab base) s.heap H locs → cells ≤ C → slots ≤ S → decode cc pc = .ok (.return_, 1) → W p l e R s m args below meth c H locs cells slots Q (F0 m pc ls [])) ∧
  (∀ (pc b : Nat) (ls : Array Slot) (st : List Value) (h : Hp) (H : Heap) (locs : List Loc) (cells slots : Nat), (pc, b) ∈ thw → r = .inr (b, h) → Wd base sb D dA h s H → va_S (Ab base) s.heap H locs → ls.size = nL → (st.map fun v => v.category).sum ≤ 8 → cells ≤ C → slots ≤ S → W p l e R s m args below meth c H locs cells slots Q (F0 m pc ls st)) ∧
  (∀ (pc E : Nat) (cst : Int32) (ls : Array Slot) (st : List Value) (h : Hp) (H : Heap) (locs : List Loc) (cells slots : Nat) (q : Addr) (ce : Cell), lkp hn E = some cst → (∀ l, cps = some l → pc ∈ l) → r = .inl (some (.int cst), h) → Wd base sb D dA h s H → va_S (Ab base) s.heap H locs → ls.size = nL → lv_wf ls → cells ≤ C + 1 → slots ≤ S + 6 → H[q]? = some ce → ce.vm = .none → s.vm.findClass (EN E) = some ce.cls → vx_W p l e R s m args below meth c H locs cells slots Q (F0 m pc ls st) q) ∧
  (∀ (pc E : Nat) (ls : Array Slot) (st : List Value) (h : Hp) (H : Heap) (locs : List Loc) (cells slots : Nat) (q : Addr) (ce : Cell), hn = [] → r = .inr (E, h) → Wd base sb D dA h s H → va_S (Ab base) s.heap H locs → cells ≤ C + 1 → slots ≤ S + 6 → H[q]? = some ce → ce.vm = .none → s.vm.findClass (EN E) = some ce.cls → vx_W p l e R s m args below meth c H locs cells slots Q (F0 m pc ls st) q) ∧
  ((∃ q, r = .inr q) ∨ hn ≠ [] → C + 1 ≤ R.cells ∧ S + 6 ≤ R.slots)
theorem rI_inv {r : (Option Value × Hp) ⊕ (Nat × Hp)} {c9 : Nat} {st : List Value} {h : Hp} (q : rI c9 st h = some r) : ∃ v, st = [.int v] ∧ okZ c9 v = true ∧ Sum.inl (some (Value.int v), h) = r := by
  unfold rI at q
  split at q
  · obtain ⟨g1, g2⟩ := gd_inv q
    exact ⟨_, rfl, g1, Option.some.inj g2⟩
  · cases q
theorem rR_inv {r : (Option Value × Hp) ⊕ (Nat × Hp)} {st : List Value} {h : Hp} (q : rR st h = some r) : ∃ v, st = [.ref v] ∧ Sum.inl (some (Value.ref v), h) = r := by
  unfold rR at q
  split at q
  · exact ⟨_, rfl, Option.some.inj q⟩
  · cases q
theorem rV_inv {r : (Option Value × Hp) ⊕ (Nat × Hp)} {st : List Value} {h : Hp} (q : rV st h = some r) : st = [] ∧ Sum.inl (none, h) = r := by
  unfold rV at q
  split at q
  · exact ⟨rfl, Option.some.inj q⟩
  · cases q
/-- the script's own rows, in any heap that holds it -/
theorem va_sldH {b L : Nat} {xs : Nat → Int32} {pc : Nat} {ls : Array Slot} {rest : List Value} {H : Heap} {locs : List Loc} {cells slots : Nat} (hexec : p.tables.exec = Jvm.exec) (hb : c.code = cc) (hX : va_X b L xs s H) {i : Int32} (hin : vp_in i L) (hdg : decode cc pc = .ok (.iaload, 1))
    (kk : W p l e R s m args below meth c H locs cells slots Q (F0 m (pc + 1) ls (.int (xs i.toNatClampNeg) :: rest))) : W p l e R s m args below meth c H locs cells slots Q (F0 m pc ls (.int i :: .ref b :: rest)) := by
  obtain ⟨scr, h1, h2, h3, h4, h5⟩ := hX
  have hlt : i.toNatClampNeg < L := Nat.not_le.mp fun q => hin (Or.inr q)
  exact W.iald (v := .int (xs i.toNatClampNeg)) hexec hb h1 h2 h3 (by rw [h4]; exact hin) (h5 _ hlt) rfl rfl hdg kk
theorem va_slenH {b L : Nat} {xs : Nat → Int32} {pc : Nat} {ls : Array Slot} {rest : List Value} {H : Heap} {locs : List Loc} {cells slots : Nat} (hexec : p.tables.exec = Jvm.exec) (hb : c.code = cc) (hX : va_X b L xs s H) (hdg : decode cc pc = .ok (.arraylength, 1))
    (kk : W p l e R s m args below meth c H locs cells slots Q (F0 m (pc + 1) ls (.int (Int32.ofNat L) :: rest))) : W p l e R s m args below meth c H locs cells slots Q (F0 m pc ls (.ref b :: rest)) := by
  obtain ⟨scr, h1, h2, h3, h4, h5⟩ := hX
  exact W.alen (n := Int32.ofNat L) hexec hb h1 h2 (by rw [h4] <;> rfl) rfl rfl hdg kk
theorem call_snd {C S dc ds n zc : Nat} {r : (Option Value × Hp) ⊕ (Nat × Hp)} {hn : List (Nat × Int32)} {cps : Option (List Nat)} {thw : List (Nat × Nat)} {K : Kt}
    (G : Cx SL p s m args c cc nL own D dA) (hbs : base ≤ s.heap.size) (hC : C ≤ R.cells) (hS9 : S ≤ R.slots) (hK : Snd p l e R s m args below meth c Q nL base sb D dA C S dc ds n r K) {i : Instr} {c9 d pc : Nat} {F : Fn}
    (hcal : CallOK SL l R own i (c9 / 4) d F dc ds) (hE : Ends p l e R s m args below meth c Q cc nL base sb D dA C S zc hn cps thw r)
    (hdec : decode cc pc = .ok (i, 3)) (hcp : inC cps pc = true)
    {lA stA : List Value} {h : Hp} {H : Heap} {locs : List Loc} {cells slots : Nat} {ls : Array Slot}
    (hr : (popn (c9 / 4) stA [] fun as t => gd (recv SKc CS as d) (gd (Nat.ble (cats t) 8) (clK (c9 % 4) (F as h) (fun g => K (pc + 3) lA t g) (fun v g => K (pc + 3) lA (.int v :: t) g) (fun v g => K (pc + 3) lA (.ref v :: t) g) (hnk hn)))) = some r) (hL : LR base sb ls nL lA) (hW : Wd base sb D dA h s H) (hS : va_S (Ab base) s.heap H locs) (hc1 : cells + (n * dc + dc) ≤ C) (hc2 : slots + (n * ds + ds) ≤ S) :
    W p l e R s m args below meth c H locs cells slots Q (F0 m pc ls (stA.map (tr base sb))) := by
  obtain ⟨as, t, rfl, e2, e3, -⟩ := popn_inv hr
  rw [List.append_nil] at e3
  obtain ⟨g0, e3⟩ := gd_inv e3
  obtain ⟨g1, e3⟩ := gd_inv e3
  rw [List.map_append, List.map_reverse]
  have hinv := clK_inv (K := fun st g => K (pc + 3) lA st g) e3 (fun _ => rfl) (fun _ _ => rfl) (fun _ _ => rfl)
  refine hcal p e s m args below meth c cc nL base sb D dA Q H locs cells slots pc ls (t.map (tr base sb)) as h G hdec hL.1 e2 g0 (by rw [tr_cats]; exact Nat.ble_eq.mp g1) hW hS hbs (by omega) (by omega) ?_ ?_ ?_
  · rcases hinv with ⟨v, g, q, -⟩ | ⟨E, g, q, -⟩ <;> rw [q] <;> exact fun z => by cases z
  · intro v g q H' locs' hW' hS'
    rcases hinv with ⟨v2, g2, q2, q3⟩ | ⟨E, g2, q2, -⟩
    · cases q.symm.trans q2
      have q4 := hK _ _ _ _ H' locs' (cells + dc) (slots + ds) ls q3 hL hW' hS' (by omega) (by omega)
      cases v <;> exact q4
    · cases q.symm.trans q2
  · intro E g q
    rcases hinv with ⟨v2, g2, q2, q3⟩ | ⟨E2, g2, q2, q3⟩
    · cases q.symm.trans q2
    · cases q.symm.trans q2
      have hcps : ∀ l, cps = some l → pc ∈ l := fun l hl => by
        subst hl
        simpa [inC] using hcp
      cases hn with
      | nil =>
        have e10 : r = .inr (E, g) := (Option.some.inj q3).symm
        have e11 := hE.2.2.2.2.2.2 (Or.inl ⟨_, e10⟩)
        exact ⟨⟨by omega, by omega⟩, fun H' locs' q9 ce hW' hS' f1 f2 f3 => hE.2.2.2.2.2.1 pc E ls _ g H' locs' (cells + 1) (slots + 6) q9 ce rfl e10 hW' hS' (by omega) (by omega) f1 f2 f3⟩
      | cons hd tl =>
        have q4 : (match lkp (hd :: tl) E with
          | some c => rtn (some (.int c)) g
          | none => none) = some r := q3
        cases e9 : lkp (hd :: tl) E with
        | some cst =>
          rw [e9] at q4
          have e10 : r = .inl (some (.int cst), g) := (Option.some.inj q4).symm
          have e11 := hE.2.2.2.2.2.2 (Or.inr (by intro z; cases z))
          exact ⟨⟨by omega, by omega⟩, fun H' locs' q9 ce hW' hS' f1 f2 f3 => hE.2.2.2.2.1 pc E cst ls _ g H' locs' (cells + 1) (slots + 6) q9 ce e9 hcps e10 hW' hS' hL.1 hL.2.1 (by omega) (by omega) f1 f2 f3⟩
        | none =>
          rw [e9] at q4
          cases q4
theorem ne_big {a b : Nat} (h : a < 228) (hb : 228 ≤ b) : b ≠ a := by omega
theorem i32_nlt {x y : Int32} : ¬ x < y ↔ y ≤ x := by
  rw [Int32.lt_iff_toInt_lt, Int32.le_iff_toInt_le]
  omega
set_option maxHeartbeats 16000000 in
set_option maxRecDepth 100000 in
theorem stI_snd {C S dc ds n zc : Nat} {r : (Option Value × Hp) ⊕ (Nat × Hp)} {cl : List Fn} {hn : List (Nat × Int32)} {sw : List (List Nat)} {cal : List (Nat × Nat × Nat × Nat × Nat)} {cps : Option (List Nat)} {thw : List (Nat × Nat)} {K : Kt}
    (G : Cx SL p s m args c cc nL own D dA) (hbs : base ≤ s.heap.size) (hC : C ≤ R.cells) (hS9 : S ≤ R.slots) (hK : Snd p l e R s m args below meth c Q nL base sb D dA C S dc ds n r K)
    (hcal : ∀ q ∈ cal, CallOK SL l R own (insC q) (q.2.2.2.1 / 4) q.2.2.2.2 (nthF cl q.2.2.1) dc ds) (hE : Ends p l e R s m args below meth c Q cc nL base sb D dA C S zc hn cps thw r)
    {i : Instr} {len b c9 d pc : Nat} {x : Int32} (hdec : decode cc pc = .ok (i, len)) (hchk : chkI own nL zc sw cal cps thw pc len b c9 d x i = true)
    {lA stA : List Value} {h : Hp} {H : Heap} {locs : List Loc} {cells slots : Nat} {ls : Array Slot} (hr : stI SKc SKn SKr CS cl hn sw i len b c9 d x K pc lA stA h = some r) (hL : LR base sb ls nL lA) (hW : Wd base sb D dA h s H) (hS : va_S (Ab base) s.heap H locs) (hc1 : cells + (n + 1) * dc ≤ C) (hc2 : slots + (n + 1) * ds ≤ S) :
    W p l e R s m args below meth c H locs cells slots Q (F0 m pc ls (stA.map (tr base sb))) := by
  obtain ⟨hx, hb, hml, hown, hts, hKn, hEx⟩ := id G
  rw [Nat.add_mul, Nat.one_mul] at hc1 hc2
  have k1 : cells + n * dc ≤ C := by omega
  have k2 : slots + n * ds ≤ S := by omega
  have hD : va_D (Ab base) (wd base dA h) := wd_D
  cases i with
  | iconst z =>
    simp only [chkI, Bool.and_eq_true, Nat.beq_eq, decide_eq_true_eq] at hchk
    obtain ⟨rfl, rfl⟩ := hchk
    exact lv_iconst hx hb hdec rfl (hK _ _ _ _ _ _ _ _ _ hr hL hW hS k1 k2)
  | bipush z =>
    simp only [chkI, Bool.and_eq_true, Nat.beq_eq, decide_eq_true_eq] at hchk
    obtain ⟨rfl, rfl⟩ := hchk
    exact lv_bipush hx hb hdec rfl (hK _ _ _ _ _ _ _ _ _ hr hL hW hS k1 k2)
  | sipush z =>
    simp only [chkI, Bool.and_eq_true, Nat.beq_eq, decide_eq_true_eq] at hchk
    obtain ⟨rfl, rfl⟩ := hchk
    exact lv_sipush hx hb hdec rfl (hK _ _ _ _ _ _ _ _ _ hr hL hW hS k1 k2)
  | ldc_w z =>
    simp only [chkI, Bool.and_eq_true, Nat.beq_eq, decide_eq_true_eq] at hchk
    obtain ⟨rfl, h2⟩ := hchk
    exact lv_ldcw hx hb hown (hts _ (wg_in h2 rfl)) hdec (hK _ _ _ _ _ _ _ _ _ hr hL hW hS k1 k2)
  | lconst z =>
    simp only [chkI, Nat.beq_eq] at hchk
    subst hchk
    exact lv_lconst hx hb hdec rfl (hK _ _ _ _ _ _ _ _ _ hr hL hW hS k1 k2)
  | aconst_null =>
    simp only [chkI, Nat.beq_eq] at hchk
    subst hchk
    exact lv_null hx hb hdec (hK _ _ _ _ _ _ _ _ _ hr hL hW hS k1 k2)
  | iload_n z =>
    simp only [chkI, Bool.and_eq_true, Nat.beq_eq] at hchk
    obtain ⟨rfl, rfl⟩ := hchk
    obtain ⟨v, e1, hr⟩ := lI_inv hr
    exact lv_iload_n hx hb hdec rfl (hL.get (by intro q; cases q) e1) (hK _ _ _ _ _ _ _ _ _ hr hL hW hS k1 k2)
  | iload z =>
    simp only [chkI, Bool.and_eq_true, Nat.beq_eq] at hchk
    obtain ⟨rfl, rfl⟩ := hchk
    obtain ⟨v, e1, hr⟩ := lI_inv hr
    exact lv_iload hx hb hdec (hL.get (by intro q; cases q) e1) (hK _ _ _ _ _ _ _ _ _ hr hL hW hS k1 k2)
  | aload_n z =>
    simp only [chkI, Bool.and_eq_true, Nat.beq_eq] at hchk
    obtain ⟨rfl, rfl⟩ := hchk
    rcases lA_inv (v := nth lA z) (f := fun v => K (pc + 1) lA (v :: stA) h) hr with ⟨v, e1, hr⟩ | ⟨e1, hr⟩
    · exact lv_aload_n hx hb hdec rfl (hL.get (by intro q; cases q) e1) (hK _ _ _ _ _ _ _ _ _ hr hL hW hS k1 k2)
    · exact lv_aload_nN hx hb hdec rfl (hL.get (by intro q; cases q) e1) (hK _ _ _ _ _ _ _ _ _ hr hL hW hS k1 k2)
  | aload z =>
    simp only [chkI, Bool.and_eq_true, Nat.beq_eq] at hchk
    obtain ⟨rfl, rfl⟩ := hchk
    rcases lA_inv (v := nth lA z) (f := fun v => K (pc + 2) lA (v :: stA) h) hr with ⟨v, e1, hr⟩ | ⟨e1, hr⟩
    · exact lv_aload hx hb hdec (hL.get (by intro q; cases q) e1) (hK _ _ _ _ _ _ _ _ _ hr hL hW hS k1 k2)
    · exact lv_aloadN hx hb hdec (hL.get (by intro q; cases q) e1) (hK _ _ _ _ _ _ _ _ _ hr hL hW hS k1 k2)
  | istore_n z =>
    simp only [chkI, Bool.and_eq_true, Nat.beq_eq, Nat.blt_eq] at hchk
    obtain ⟨⟨rfl, rfl⟩, h3⟩ := hchk
    obtain ⟨v, t, rfl, hr⟩ := pI_inv hr
    exact lv_istore_n hx hb hdec rfl hL.has h3 rfl fun ls' h' => hK _ _ _ _ _ _ _ _ _ hr (hL.set rfl h') hW hS k1 k2
  | istore z =>
    simp only [chkI, Bool.and_eq_true, Nat.beq_eq, Nat.blt_eq] at hchk
    obtain ⟨⟨rfl, rfl⟩, h3⟩ := hchk
    obtain ⟨v, t, rfl, hr⟩ := pI_inv hr
    exact lv_istore hx hb hdec hL.has h3 rfl fun ls' h' => hK _ _ _ _ _ _ _ _ _ hr (hL.set rfl h') hW hS k1 k2
  | astore_n z =>
    simp only [chkI, Bool.and_eq_true, Nat.beq_eq, Nat.blt_eq] at hchk
    obtain ⟨⟨rfl, rfl⟩, h3⟩ := hchk
    rcases pA_inv (st := stA) (f := fun v t => K (pc + 1) (setn lA z v) t h) hr with ⟨v, t, rfl, hr⟩ | ⟨t, rfl, hr⟩
    · exact lv_astore_n hx hb hdec rfl hL.has h3 rfl fun ls' h' => hK _ _ _ _ _ _ _ _ _ hr (hL.set rfl h') hW hS k1 k2
    · exact lv_astore_nN hx hb hdec rfl hL.has h3 rfl fun ls' h' => hK _ _ _ _ _ _ _ _ _ hr (hL.set rfl h') hW hS k1 k2
  | astore z =>
    simp only [chkI, Bool.and_eq_true, Nat.beq_eq, Nat.blt_eq] at hchk
    obtain ⟨⟨rfl, rfl⟩, h3⟩ := hchk
    rcases pA_inv (st := stA) (f := fun v t => K (pc + 2) (setn lA z v) t h) hr with ⟨v, t, rfl, hr⟩ | ⟨t, rfl, hr⟩
    · exact lv_astore hx hb hdec hL.has h3 rfl fun ls' h' => hK _ _ _ _ _ _ _ _ _ hr (hL.set rfl h') hW hS k1 k2
    · exact lv_astoreN hx hb hdec hL.has h3 rfl fun ls' h' => hK _ _ _ _ _ _ _ _ _ hr (hL.set rfl h') hW hS k1 k2
  | iinc z w =>
    simp only [chkI, Bool.and_eq_true, Nat.beq_eq, Nat.blt_eq, decide_eq_true_eq] at hchk
    obtain ⟨⟨⟨rfl, rfl⟩, rfl⟩, h3⟩ := hchk
    obtain ⟨v, e1, hr⟩ := lI_inv hr
    obtain ⟨k, hk⟩ : ∃ k, (lrL base sb lA)[k]? = some (z, Value.int v) := by
      have h1 : (z, Value.int v) ∈ lrL base sb lA := by
        have h2 := nth_get (v := .int v) (by intro q; cases q) e1
        refine List.mem_filterMap.mpr ⟨z, List.mem_range.mpr (List.getElem?_eq_some_iff.mp h2).1, ?_⟩
        rw [h2]
        rfl
      exact List.getElem?_of_mem h1
    exact lv_iinc hx hb hdec hL.has hk rfl h3 rfl fun ls' h' => hK _ _ _ _ _ _ _ _ _ hr (hL.set (v := .int (v + Int32.ofInt w)) rfl h') hW hS k1 k2
  | iadd =>
    simp only [chkI, Nat.beq_eq] at hchk
    subst hchk
    obtain ⟨y, t, rfl, hr⟩ := pI_inv hr
    obtain ⟨v, t, rfl, hr⟩ := pI_inv hr
    exact lv_iadd hx hb hdec (hK _ _ _ _ _ _ _ _ _ hr hL hW hS k1 k2)
  | isub =>
    simp only [chkI, Nat.beq_eq] at hchk
    subst hchk
    obtain ⟨y, t, rfl, hr⟩ := pI_inv hr
    obtain ⟨v, t, rfl, hr⟩ := pI_inv hr
    exact lv_isub hx hb hdec (hK _ _ _ _ _ _ _ _ _ hr hL hW hS k1 k2)
  | imul =>
    simp only [chkI, Nat.beq_eq] at hchk
    subst hchk
    obtain ⟨y, t, rfl, hr⟩ := pI_inv hr
    obtain ⟨v, t, rfl, hr⟩ := pI_inv hr
    exact lv_imul hx hb hdec (hK _ _ _ _ _ _ _ _ _ hr hL hW hS k1 k2)
  | iand =>
    simp only [chkI, Nat.beq_eq] at hchk
    subst hchk
    obtain ⟨y, t, rfl, hr⟩ := pI_inv hr
    obtain ⟨v, t, rfl, hr⟩ := pI_inv hr
    exact lv_iand hx hb hdec (hK _ _ _ _ _ _ _ _ _ hr hL hW hS k1 k2)
  | ior =>
    simp only [chkI, Nat.beq_eq] at hchk
    subst hchk
    obtain ⟨y, t, rfl, hr⟩ := pI_inv hr
    obtain ⟨v, t, rfl, hr⟩ := pI_inv hr
    exact lv_ior hx hb hdec (hK _ _ _ _ _ _ _ _ _ hr hL hW hS k1 k2)
  | ishl =>
    simp only [chkI, Nat.beq_eq] at hchk
    subst hchk
    obtain ⟨y, t, rfl, hr⟩ := pI_inv hr
    obtain ⟨v, t, rfl, hr⟩ := pI_inv hr
    exact lv_ishl hx hb hdec (hK _ _ _ _ _ _ _ _ _ hr hL hW hS k1 k2)
  | ishr =>
    simp only [chkI, Nat.beq_eq] at hchk
    subst hchk
    obtain ⟨y, t, rfl, hr⟩ := pI_inv hr
    obtain ⟨v, t, rfl, hr⟩ := pI_inv hr
    exact lv_ishr hx hb hdec (hK _ _ _ _ _ _ _ _ _ hr hL hW hS k1 k2)
  | iushr =>
    simp only [chkI, Nat.beq_eq] at hchk
    subst hchk
    obtain ⟨y, t, rfl, hr⟩ := pI_inv hr
    obtain ⟨v, t, rfl, hr⟩ := pI_inv hr
    exact lv_iushr hx hb hdec rfl (hK _ _ _ _ _ _ _ _ _ hr hL hW hS k1 k2)
  | idiv =>
    simp only [chkI, Nat.beq_eq] at hchk
    subst hchk
    obtain ⟨y, t, rfl, hr⟩ := pI_inv hr
    obtain ⟨v, t, rfl, hr⟩ := pI_inv hr
    obtain ⟨hz, hr⟩ := gd_inv hr
    exact lv_idiv hx hb hdec (by simpa using hz) (hK _ _ _ _ _ _ _ _ _ hr hL hW hS k1 k2)
  | irem =>
    simp only [chkI, Nat.beq_eq] at hchk
    subst hchk
    obtain ⟨y, t, rfl, hr⟩ := pI_inv hr
    obtain ⟨v, t, rfl, hr⟩ := pI_inv hr
    obtain ⟨hz, hr⟩ := gd_inv hr
    exact lv_irem hx hb hdec (by simpa using hz) (hK _ _ _ _ _ _ _ _ _ hr hL hW hS k1 k2)
  | ineg =>
    simp only [chkI, Nat.beq_eq] at hchk
    subst hchk
    obtain ⟨v, t, rfl, hr⟩ := pI_inv hr
    exact lv_ineg hx hb hdec (hK _ _ _ _ _ _ _ _ _ hr hL hW hS k1 k2)
  | i2l =>
    simp only [chkI, Nat.beq_eq] at hchk
    subst hchk
    obtain ⟨v, t, rfl, hr⟩ := pI_inv hr
    exact lv_i2l hx hb hdec rfl (hK _ _ _ _ _ _ _ _ _ hr hL hW hS k1 k2)
  | lcmp =>
    simp only [chkI, Nat.beq_eq] at hchk
    subst hchk
    obtain ⟨y, t, rfl, hr⟩ := pL_inv hr
    obtain ⟨v, t, rfl, hr⟩ := pL_inv hr
    exact W.lcmp hx hb hdec (hK _ _ _ _ _ _ _ _ _ hr hL hW hS k1 k2)
  | dup =>
    simp only [chkI, Nat.beq_eq] at hchk
    subst hchk
    obtain ⟨v, t, rfl, hv, hr⟩ := p1_inv (st := stA) (f := fun v t => K (pc + 1) lA (v :: v :: t) h) hr
    exact lv_dup hx hb hdec (by rw [tr_cat]; exact hv) (hK _ _ _ _ _ _ _ _ _ hr hL hW hS k1 k2)
  | dup2 =>
    simp only [chkI, Nat.beq_eq] at hchk
    subst hchk
    obtain ⟨v, t, rfl, hv, hr⟩ := p1_inv (st := stA) (f := fun v t => p1 t (fun w t => K (pc + 1) lA (v :: w :: v :: w :: t) h)) hr
    obtain ⟨w, t, rfl, hw, hr⟩ := p1_inv (f := fun w t => K (pc + 1) lA (v :: w :: v :: w :: t) h) hr
    exact lv_dup2_11 hx hb hdec (by rw [tr_cat]; exact hv) (by rw [tr_cat]; exact hw) (hK _ _ _ _ _ _ _ _ _ hr hL hW hS k1 k2)
  | pop =>
    simp only [chkI, Nat.beq_eq] at hchk
    subst hchk
    obtain ⟨v, t, rfl, hv, hr⟩ := p1_inv (st := stA) (f := fun _ t => K (pc + 1) lA t h) hr
    exact lv_pop hx hb hdec (by rw [tr_cat]; exact hv) (hK _ _ _ _ _ _ _ _ _ hr hL hW hS k1 k2)
  | ifnull off =>
    simp only [chkI, Bool.and_eq_true, Nat.beq_eq, tgOK, decide_eq_true_eq] at hchk
    obtain ⟨rfl, h2⟩ := hchk
    rcases pN_inv hr with ⟨t, rfl, hr⟩ | ⟨v, t, rfl, hr⟩
    · exact lv_ifnullN hx hb hdec h2 (hK _ _ _ _ _ _ _ _ _ hr hL hW hS k1 k2)
    · exact lv_ifnull hx hb hdec (hK _ _ _ _ _ _ _ _ _ hr hL hW hS k1 k2)
  | if_icmp cnd off =>
    simp only [chkI, Bool.and_eq_true, Nat.beq_eq, tgOK, decide_eq_true_eq] at hchk
    obtain ⟨rfl, h2⟩ := hchk
    obtain ⟨y, t, rfl, hr⟩ := pI_inv hr
    obtain ⟨v, t, rfl, hr⟩ := pI_inv hr
    cases cnd with
    | eq => exact lv_icmp_eq hx hb hdec h2 (fun q => hK _ _ _ _ _ _ _ _ _ ((if_pos q).symm.trans hr) hL hW hS k1 k2) (fun q => hK _ _ _ _ _ _ _ _ _ ((if_neg q).symm.trans hr) hL hW hS k1 k2)
    | ne => exact lv_icmp_ne hx hb hdec h2 (fun q => hK _ _ _ _ _ _ _ _ _ ((if_neg q).symm.trans hr) hL hW hS k1 k2) (fun q => hK _ _ _ _ _ _ _ _ _ ((if_pos q).symm.trans hr) hL hW hS k1 k2)
    | lt => exact lv_icmp_lt hx hb hdec h2 (fun q => hK _ _ _ _ _ _ _ _ _ ((if_pos q).symm.trans hr) hL hW hS k1 k2) (fun q => hK _ _ _ _ _ _ _ _ _ ((if_neg q).symm.trans hr) hL hW hS k1 k2)
    | ge => exact lv_icmp_ge hx hb hdec h2 (fun q => hK _ _ _ _ _ _ _ _ _ ((if_neg (i32_nlt.mpr q)).symm.trans hr) hL hW hS k1 k2) (fun q => hK _ _ _ _ _ _ _ _ _ ((if_pos (Decidable.not_not.mp (fun z => q (i32_nlt.mp z)))).symm.trans hr) hL hW hS k1 k2)
    | gt => exact lv_icmp_gt hx hb hdec h2 (fun q => hK _ _ _ _ _ _ _ _ _ ((if_pos q).symm.trans hr) hL hW hS k1 k2) (fun q => hK _ _ _ _ _ _ _ _ _ ((if_neg q).symm.trans hr) hL hW hS k1 k2)
    | le => exact lv_icmp_le hx hb hdec h2 (fun q => hK _ _ _ _ _ _ _ _ _ ((if_neg (i32_nlt.mpr q)).symm.trans hr) hL hW hS k1 k2) (fun q => hK _ _ _ _ _ _ _ _ _ ((if_pos (Decidable.not_not.mp (fun z => q (i32_nlt.mp z)))).symm.trans hr) hL hW hS k1 k2)
  | ifCond cnd off =>
    simp only [chkI, Bool.and_eq_true, Nat.beq_eq, tgOK, decide_eq_true_eq] at hchk
    obtain ⟨rfl, h2⟩ := hchk
    obtain ⟨v, t, rfl, hr⟩ := pI_inv hr
    cases cnd with
    | eq => exact lv_if_eq hx hb hdec h2 (fun q => hK _ _ _ _ _ _ _ _ _ ((if_pos q).symm.trans hr) hL hW hS k1 k2) (fun q => hK _ _ _ _ _ _ _ _ _ ((if_neg q).symm.trans hr) hL hW hS k1 k2)
    | ne => exact lv_if_ne hx hb hdec h2 (fun q => hK _ _ _ _ _ _ _ _ _ ((if_neg q).symm.trans hr) hL hW hS k1 k2) (fun q => hK _ _ _ _ _ _ _ _ _ ((if_pos q).symm.trans hr) hL hW hS k1 k2)
    | lt => exact lv_if_lt hx hb hdec h2 (fun q => hK _ _ _ _ _ _ _ _ _ ((if_pos q).symm.trans hr) hL hW hS k1 k2) (fun q => hK _ _ _ _ _ _ _ _ _ ((if_neg q).symm.trans hr) hL hW hS k1 k2)
    | ge => exact lv_if_ge hx hb hdec h2 (fun q => hK _ _ _ _ _ _ _ _ _ ((if_neg (i32_nlt.mpr q)).symm.trans hr) hL hW hS k1 k2) (fun q => hK _ _ _ _ _ _ _ _ _ ((if_pos (Decidable.not_not.mp (fun z => q (i32_nlt.mp z)))).symm.trans hr) hL hW hS k1 k2)
    | gt => exact lv_if_gt hx hb hdec h2 (fun q => hK _ _ _ _ _ _ _ _ _ ((if_pos q).symm.trans hr) hL hW hS k1 k2) (fun q => hK _ _ _ _ _ _ _ _ _ ((if_neg q).symm.trans hr) hL hW hS k1 k2)
    | le => exact lv_if_le hx hb hdec h2 (fun q => hK _ _ _ _ _ _ _ _ _ ((if_neg (i32_nlt.mpr q)).symm.trans hr) hL hW hS k1 k2) (fun q => hK _ _ _ _ _ _ _ _ _ ((if_pos (Decidable.not_not.mp (fun z => q (i32_nlt.mp z)))).symm.trans hr) hL hW hS k1 k2)
  | goto off =>
    simp only [chkI, Bool.and_eq_true, Nat.beq_eq, tgOK, decide_eq_true_eq] at hchk
    obtain ⟨rfl, hchk⟩ := hchk
    exact lv_goto hx hb hdec hchk (hK _ _ _ _ _ _ _ _ _ hr hL hW hS k1 k2)
  | tableswitch dflt lo hi offs =>
    simp only [chkI, Bool.and_eq_true, tgOK, decide_eq_true_eq, Nat.blt_eq] at hchk
    obtain ⟨⟨⟨⟨rfl, h2⟩, h3⟩, h4⟩, h5⟩ := hchk
    obtain ⟨v, t, rfl, hr⟩ := pI_inv hr
    have h6 : (nthS sw c9).length = offs.size := by
      have q := congrArg List.length h4
      simpa using q.symm
    rcases swt_inv hr with ⟨j, tg, e1, e2, hr⟩ | ⟨e1, hr⟩
    · have hj : j < offs.size := by rw [← h6]; exact (List.getElem?_eq_some_iff.mp e1).1
      have hv : v.toInt = (j : Int) := by rw [e2, Nat.zero_add]; exact nI_toInt (n := j) (by omega)
      obtain ⟨o, ho⟩ : ∃ o, offs[j]? = some o := ⟨_, Array.getElem?_eq_getElem hj⟩
      have e3 : (pc : Int) + o = (tg : Int) := by
        have q := congrArg (fun z : List Int => z[j]?) h4
        simp only [List.getElem?_map, Array.getElem?_toList, ho, e1, Option.map_some, Option.some.injEq] at q
        exact q
      exact lv_tableIn hx hb hdec (by rw [hv]; omega) (by rw [hv]; omega) (by rw [hv]; simpa using ho) e3 (hK _ _ _ _ _ _ _ _ _ hr hL hW hS k1 k2)
    · refine lv_tableOut hx hb hdec ?_ h3 (hK _ _ _ _ _ _ _ _ _ hr hL hW hS k1 k2)
      rcases Int.lt_or_le v.toInt 0 with q | q
      · exact Or.inl q
      · refine Or.inr ?_
        rcases Int.lt_or_le hi v.toInt with q2 | q2
        · exact q2
        · exfalso
          have h7 : v.toInt.toNat < (nthS sw c9).length := by rw [h6]; omega
          refine e1 _ h7 ?_
          refine Int32.toInt_inj.mp ?_
          rw [Nat.zero_add, show (Int32.ofNat v.toInt.toNat).toInt = (v.toInt.toNat : Int) from nI_toInt (by omega)]
          omega
  | getfield k =>
    simp only [chkI, Bool.and_eq_true, Nat.beq_eq, List.all_eq_true] at hchk
    obtain ⟨rfl, h2⟩ := hchk
    obtain ⟨a, t, rfl, hr⟩ := pR_inv hr
    obtain ⟨g1, hr⟩ := gd_inv hr
    obtain ⟨C9, T9, N9, ref, f1, f2, f3, f4, f5, -⟩ := fldW_spec (h2 _ (memb_in g1))
    obtain ⟨q1, q2, q3, -⟩ := cl_ok f1
    have ha : a < 228 := SKc_lt (by omega)
    have hN : N9 = SKn a := by rw [← q2]; exact ncl_ok a ha (by omega)
    subst hN
    have he := wd_get (base := base) (dA := dA) (h := h) ha
    rw [entE_obj (by omega)] at he
    have hv : ((List.range (SKn a)).map (valE base h a (SKc a)))[b]? = some (valE base h a (SKc a) b) := by
      rw [List.getElem?_map, List.getElem?_range f2]
      rfl
    rw [List.map_cons, tr_ref ha]
    refine va_get (D := D) hx hb hts q3 hown hKn hW.1 a he f1 b f2 (hts _ f4) (fun x9 h9 => by
      rcases f5 with q | q
      · rw [q]; exact h9
      · exact u_same (hts _ q) x9 h9) hv hdec ?_
    unfold valE
    rw [f3]
    cases e8 : c9 % 2 with
    | zero =>
      rw [e8] at hr
      exact hK _ _ _ _ _ _ _ _ _ hr hL hW hS k1 k2
    | succ z =>
      have z0 : z = 0 := by have := Nat.mod_lt c9 (show 0 < 2 by decide); omega
      subst z0
      rw [e8] at hr
      have h9 : SKr a b < 228 := skr_ok a ha q1 b f2 (by rw [f3, e8]; rfl)
      have q := hK _ _ _ _ _ _ _ _ _ hr hL hW hS k1 k2
      rw [List.map_cons, tr_ref h9] at q
      exact q
  | putfield k =>
    simp only [chkI, Bool.and_eq_true, Nat.beq_eq, List.all_eq_true] at hchk
    obtain ⟨rfl, h2⟩ := hchk
    obtain ⟨v, t, rfl, hr⟩ := pI_inv hr
    obtain ⟨a, t, rfl, hr⟩ := pR_inv hr
    obtain ⟨g1, hr⟩ := gd_inv hr
    obtain ⟨g2, hr⟩ := gd_inv hr
    obtain ⟨C9, T9, N9, ref, f1, f2, f3, f4, f5, f6⟩ := fldW_spec (h2 _ (memb_in g1))
    obtain ⟨q1, q2, q3, ty0, q4, q5⟩ := cl_ok f1
    obtain ⟨f7, f8⟩ := f6 _ rfl
    have ha : a < 228 := SKc_lt (by omega)
    have hN : N9 = SKn a := by rw [← q2]; exact ncl_ok a ha (by omega)
    subst hN
    have he := wd_get (base := base) (dA := dA) (h := h) ha
    rw [entE_obj (by omega)] at he
    rw [List.map_cons, List.map_cons, tr_ref ha]
    have key : ∀ ty : FieldType, parseFieldDescriptor (T9 b).2.2.1 = some ty → narrow ty (.int v) = .int v → fits ty (.int v) = true → W p l e R s m args below meth c H locs cells slots Q (F0 m pc ls (.int v :: .ref (base + a) :: t.map (tr base sb))) := by
      intro ty hty hn1 hf1
      refine va_put (D := D) (v := .int v) hx hb hts q3 ty0 q4 q5 hown hKn hW.1 hD hS a he f1 b f2 (hts _ f4) (fun x9 h9 => by
        rcases f5 with q | q
        · rw [q]; exact h9
        · exact u_same (hts _ q) x9 h9) f8 hty hn1 hf1 (by simpa using f2) hdec (fun H1 locs1 hP1 hD1 hS1 => ?_)
      have hset : (wd base dA h).set a (base + a, .inr (SKc a, ((List.range (SKn a)).map (valE base h a (SKc a))).set b (.int v))) = wd base dA (wr h a b v) := by
        refine wd_set ha ?_ (fun b9 _ hne => entE_wr hne)
        rw [entE_obj (by omega)]
        congr 2
        apply List.ext_getElem?
        intro j
        by_cases hj : j < SKn a
        · rw [List.getElem?_map, List.getElem?_range hj]
          by_cases hjb : j = b
          · subst hjb
            rw [List.getElem?_set_self (by simpa using hj)]
            show some (valE base (wr h a j v) a (SKc a) j) = some (.int v)
            unfold valE
            rw [f3, rd_wr_eq, if_pos rfl]
            rfl
          · rw [List.getElem?_set_ne (Ne.symm hjb), List.getElem?_map, List.getElem?_range hj]
            show some (valE base (wr h a b v) a (SKc a) j) = some (valE base h a (SKc a) j)
            unfold valE
            rw [rd_wr_eq, if_neg hjb]
        · rw [List.getElem?_eq_none (by simpa using hj), List.getElem?_eq_none (by simpa using hj)]
      rw [hset] at hP1
      have hk9 : ∀ q : Nat, q < H.size → ¬ Ab base q → H1[q]? = H[q]? := by
        intro q hq1 hq2
        have hq3 : q < s.heap.size := by have hq5 : ¬ base ≤ q := hq2; omega
        rw [hS1.2.1 q hq3 hq2, hS.2.1 q hq3 hq2]
      exact hK _ _ _ _ _ _ _ _ _ hr hL (hW.put hP1 (rd_wr_ne (b := 1001) (ne_big ha (by decide))) (funext fun j => rd_wr_ne (b := 1000) (ne_big ha (by decide))) hk9) hS1 k1 k2
    cases e8 : c9 % 2 with
    | zero =>
      rw [e8] at f7
      exact key .int (by rw [f7]; rfl) rfl rfl
    | succ z =>
      rw [e8] at f7 g2
      have f7' : (T9 b).2.2.1 = "Z" := f7
      refine key .boolean (by rw [f7']; rfl) ?_ ?_
      · simp only [okZ, Bool.or_eq_true, decide_eq_true_eq] at g2
        rcases g2 with q | q <;> rw [q] <;> rfl
      · simp only [okZ, Bool.or_eq_true, decide_eq_true_eq] at g2
        rcases g2 with q | q <;> rw [q] <;> rfl
  | iaload =>
    simp only [chkI, Nat.beq_eq] at hchk
    subst hchk
    obtain ⟨j, t, rfl, hr⟩ := pI_inv hr
    obtain ⟨a, t, rfl, hr⟩ := pR_inv hr
    obtain ⟨g1, hr⟩ := gd_inv hr
    rw [Bool.and_eq_true] at g1
    obtain ⟨g1, g2⟩ := g1
    have g3 := memb_in g1
    simp only [List.mem_cons, List.not_mem_nil, or_false] at g3
    rcases g3 with g3 | g3
    · have ha : a < 228 := SKc_lt (by omega)
      have he := wd_get (base := base) (dA := dA) (h := h) ha
      rw [entE_int (Or.inl g3), g3] at he
      have al : alen SKn h a = SKn a := by
        unfold alen
        rw [show Nat.beq a SCRA = false from by rw [Bool.eq_false_iff]; intro z; exact ne_big ha (show 228 ≤ 1000 by decide) (Nat.eq_of_beq_eq_true z).symm]
        rfl
      rw [al] at g2
      rw [List.map_cons, List.map_cons, tr_ref ha]
      exact va_iald hx hb hKn hW.1 a 0 he rfl (inb_in g2) hdec (hK _ _ _ _ _ _ _ _ _ hr hL hW hS k1 k2)
    · have ha := SKc_18 g3
      subst ha
      have hbl : sb < s.heap.size := by have := hW.2.2.1; omega
      have g4 : inb j (rd h SCRB 0).toNatClampNeg = true := g2
      exact va_sldH hx hb hW.2.1 (inb_in g4) hdec (hK _ _ _ _ _ _ _ _ _ hr hL hW hS k1 k2)
  | aaload =>
    simp only [chkI, Nat.beq_eq] at hchk
    subst hchk
    obtain ⟨j, t, rfl, hr⟩ := pI_inv hr
    obtain ⟨a, t, rfl, hr⟩ := pR_inv hr
    obtain ⟨g1, hr⟩ := gd_inv hr
    rw [Bool.and_eq_true] at g1
    obtain ⟨g1, g2⟩ := g1
    have g3 := memb_in g1
    simp only [List.mem_cons, List.not_mem_nil, or_false] at g3
    have ha : a < 228 := SKc_lt (by omega)
    have he := wd_get (base := base) (dA := dA) (h := h) ha
    rw [entE_ref (by omega)] at he
    have hj : j.toNatClampNeg < SKn a := by
      have q := inb_in g2
      exact Nat.not_le.mp fun z => q (Or.inr z)
    have h9 : SKr a j.toNatClampNeg < 228 := skr_ok2 a ha (by omega) _ hj
    have q := hK _ _ _ _ _ _ _ _ _ hr hL hW hS k1 k2
    rw [List.map_cons, tr_ref h9] at q
    rw [List.map_cons, List.map_cons, tr_ref ha]
    rcases g3 with g3 | g3 | g3 | g3 | g3 <;> rw [g3] at he
    · exact va_aldq hx hb hKn hW.1 a 3 he rfl (inb_in g2) hdec q
    · exact va_aldq hx hb hKn hW.1 a 4 he rfl (inb_in g2) hdec q
    · exact va_aldq hx hb hKn hW.1 a 5 he rfl (inb_in g2) hdec q
    · exact va_aldq hx hb hKn hW.1 a 6 he rfl (inb_in g2) hdec q
    · exact va_aldq hx hb hKn hW.1 a 7 he rfl (inb_in g2) hdec q
  | iastore =>
    simp only [chkI, Nat.beq_eq] at hchk
    subst hchk
    obtain ⟨v, t, rfl, hr⟩ := pI_inv hr
    obtain ⟨j, t, rfl, hr⟩ := pI_inv hr
    obtain ⟨a, t, rfl, hr⟩ := pR_inv hr
    obtain ⟨g1, hr⟩ := gd_inv hr
    rw [Bool.and_eq_true, Nat.beq_eq] at g1
    obtain ⟨g3, g2⟩ := g1
    have ha : a < 228 := SKc_lt (by omega)
    have he := wd_get (base := base) (dA := dA) (h := h) ha
    rw [entE_int (Or.inl g3), g3] at he
    rw [List.map_cons, List.map_cons, List.map_cons, tr_ref ha]
    refine va_iast hx hb hKn hW.1 hD hS a 0 he rfl (inb_in g2) hdec (fun H1 locs1 hP1 hD1 hS1 => ?_)
    rw [wd_set (g := wr h a j.toNatClampNeg v) ha (by
      rw [entE_int (Or.inl g3), g3]
      congr 4
      funext q
      rw [rd_wr_eq]
      rfl) (fun b9 _ hne => entE_wr hne)] at hP1
    have hk9 : ∀ q : Nat, q < H.size → ¬ Ab base q → H1[q]? = H[q]? := by
      intro q hq1 hq2
      have hq3 : q < s.heap.size := by have hq5 : ¬ base ≤ q := hq2; omega
      rw [hS1.2.1 q hq3 hq2, hS.2.1 q hq3 hq2]
    exact hK _ _ _ _ _ _ _ _ _ hr hL (hW.put hP1 (rd_wr_ne (b := 1001) (ne_big ha (by decide))) (funext fun j => rd_wr_ne (b := 1000) (ne_big ha (by decide))) hk9) hS1 k1 k2
  | arraylength =>
    simp only [chkI, Nat.beq_eq] at hchk
    subst hchk
    obtain ⟨a, t, rfl, hr⟩ := pR_inv hr
    obtain ⟨g1, hr⟩ := gd_inv hr
    have g3 := memb_in g1
    simp only [List.mem_cons, List.not_mem_nil, or_false] at g3
    by_cases g4 : SKc a = 18
    · have ha := SKc_18 g4
      subst ha
      exact va_slenH hx hb hW.2.1 hdec (hK _ _ _ _ _ _ _ _ _ hr hL hW hS k1 k2)
    · have ha : a < 228 := SKc_lt (by omega)
      have he := wd_get (base := base) (dA := dA) (h := h) ha
      have al : alen SKn h a = SKn a := by
        unfold alen
        rw [show Nat.beq a SCRA = false from by rw [Bool.eq_false_iff]; intro z; exact ne_big ha (show 228 ≤ 1000 by decide) (Nat.eq_of_beq_eq_true z).symm]
        rfl
      rw [al] at hr
      have q := hK _ _ _ _ _ _ _ _ _ hr hL hW hS k1 k2
      rw [List.map_cons, tr_ref ha]
      rcases g3 with g3 | g3 | g3 | g3 | g3 | g3 | g3 | g3 | g3
      · rw [entE_int (Or.inl g3), g3] at he
        exact va_alen hx hb hKn hW.1 a 0 he rfl rfl hdec q
      · rw [entE_int (Or.inr g3), g3] at he
        exact va_alen hx hb hKn hW.1 a 1 he rfl rfl hdec q
      · rw [entE_lng g3] at he
        exact va_alen hx hb hKn hW.1 a 2 he rfl rfl hdec q
      · rw [entE_ref (by omega), g3] at he
        exact va_alen hx hb hKn hW.1 a 3 he rfl rfl hdec q
      · rw [entE_ref (by omega), g3] at he
        exact va_alen hx hb hKn hW.1 a 4 he rfl rfl hdec q
      · rw [entE_ref (by omega), g3] at he
        exact va_alen hx hb hKn hW.1 a 5 he rfl rfl hdec q
      · rw [entE_ref (by omega), g3] at he
        exact va_alen hx hb hKn hW.1 a 6 he rfl rfl hdec q
      · rw [entE_ref (by omega), g3] at he
        exact va_alen hx hb hKn hW.1 a 7 he rfl rfl hdec q
      · exact absurd g3 g4
  | new z =>
    simp only [chkI, decide_eq_true_eq] at hchk
    obtain ⟨g1, hr⟩ := gd_inv hr
    exact hE.2.2.2.1 pc b ls _ h H locs cells slots hchk (Option.some.inj hr).symm hW hS hL.1 (by rw [tr_cats]; exact Nat.ble_eq.mp g1) (by omega) (by omega)
  | ireturn =>
    simp only [chkI, Bool.and_eq_true, Nat.beq_eq, Nat.blt_eq] at hchk
    obtain ⟨⟨rfl, rfl⟩, h3⟩ := hchk
    obtain ⟨v, rfl, g2, g3⟩ := rI_inv hr
    exact hE.1 pc ls v h H locs cells slots g3.symm g2 h3 hW hS (by omega) (by omega) hdec
  | areturn =>
    simp only [chkI, Bool.and_eq_true, Nat.beq_eq] at hchk
    obtain ⟨rfl, h3⟩ := hchk
    obtain ⟨v, rfl, g3⟩ := rR_inv hr
    exact hE.2.1 pc ls v h H locs cells slots g3.symm h3 hW hS (by omega) (by omega) hdec
  | return_ =>
    simp only [chkI, Bool.and_eq_true, Nat.beq_eq] at hchk
    obtain ⟨rfl, h3⟩ := hchk
    obtain ⟨rfl, g3⟩ := rV_inv hr
    exact hE.2.2.1 pc ls h H locs cells slots g3.symm h3 hW hS (by omega) (by omega) hdec
  | invokevirtual z =>
    simp only [chkI, Bool.and_eq_true, Nat.beq_eq, decide_eq_true_eq] at hchk
    obtain ⟨⟨rfl, h2⟩, h3⟩ := hchk
    exact call_snd (i := .invokevirtual z) G hbs hC hS9 hK (hcal _ h2) hE hdec h3 hr hL hW hS hc1 hc2
  | invokestatic z =>
    simp only [chkI, Bool.and_eq_true, Nat.beq_eq, decide_eq_true_eq] at hchk
    obtain ⟨⟨rfl, h2⟩, h3⟩ := hchk
    exact call_snd (i := .invokestatic z) G hbs hC hS9 hK (hcal _ h2) hE hdec h3 hr hL hW hS hc1 hc2
  | _ => exact absurd hchk (by simp [chkI])
/-- any number of steps -/
theorem exN_snd {C S dc ds zc : Nat} {r : (Option Value × Hp) ⊕ (Nat × Hp)} {ft : Nat → Option Ent} {cl : List Fn} {hn : List (Nat × Int32)} {sw : List (List Nat)} {cal : List (Nat × Nat × Nat × Nat × Nat)} {cps : Option (List Nat)} {thw : List (Nat × Nat)}
    (G : Cx SL p s m args c cc nL own D dA) (hbs : base ≤ s.heap.size) (hC : C ≤ R.cells) (hS9 : S ≤ R.slots)
    (hft : ∀ pc q, ft pc = some q → chkE own cc nL zc sw cal cps thw (pc, q) = true)
    (hcal : ∀ q ∈ cal, CallOK SL l R own (insC q) (q.2.2.2.1 / 4) q.2.2.2.2 (nthF cl q.2.2.1) dc ds) (hE : Ends p l e R s m args below meth c Q cc nL base sb D dA C S zc hn cps thw r) :
    ∀ n, Snd p l e R s m args below meth c Q nL base sb D dA C S dc ds n r (exN SKc SKn SKr CS ft cl hn sw n) := by
  intro n
  induction n with
  | zero => intro pc lA stA h H locs cells slots ls hr; cases hr
  | succ n ih =>
    intro pc lA stA h H locs cells slots ls hr hL hW hS h1 h2
    have hr2 : stp SKc SKn SKr CS ft cl hn sw (exN SKc SKn SKr CS ft cl hn sw n) pc lA stA h = some r := hr
    unfold stp at hr2
    cases e9 : ft pc with
    | none => rw [e9] at hr2; cases hr2
    | some q =>
      rw [e9] at hr2
      obtain ⟨mk, i, len, b, c9, d, x⟩ := q
      have h3 := hft pc _ e9
      simp only [chkE, Bool.and_eq_true, decide_eq_true_eq] at h3
      exact stI_snd G hbs hC hS9 ih hcal hE h3.1 h3.2 hr2 (hL.kl mk) hW hS h1 h2
/-- .. and up to places where something else takes over -/
theorem itK_snd {C S dc ds zc : Nat} {r : (Option Value × Hp) ⊕ (Nat × Hp)} {ft : Nat → Option Ent} {cl : List Fn} {hn : List (Nat × Int32)} {sw : List (List Nat)} {cal : List (Nat × Nat × Nat × Nat × Nat)} {cps : Option (List Nat)} {thw : List (Nat × Nat)} {cuts : List Nat} {K : Kt} {n0 : Nat}
    (G : Cx SL p s m args c cc nL own D dA) (hbs : base ≤ s.heap.size) (hC : C ≤ R.cells) (hS9 : S ≤ R.slots)
    (hft : ∀ pc q, ft pc = some q → chkE own cc nL zc sw cal cps thw (pc, q) = true)
    (hcal : ∀ q ∈ cal, CallOK SL l R own (insC q) (q.2.2.2.1 / 4) q.2.2.2.2 (nthF cl q.2.2.1) dc ds) (hE : Ends p l e R s m args below meth c Q cc nL base sb D dA C S zc hn cps thw r)
    (hK : Snd p l e R s m args below meth c Q nL base sb D dA C S dc ds n0 r K) :
    ∀ n, Snd p l e R s m args below meth c Q nL base sb D dA C S dc ds (n0 + n) r (itK SKc SKn SKr CS ft cl hn sw cuts K n) := by
  intro n
  induction n with
  | zero => exact hK
  | succ n ih =>
    intro pc lA stA h H locs cells slots ls hr hL hW hS h1 h2
    have hr2 : stp SKc SKn SKr CS ft cl hn sw (fun pc2 ls2 st2 h2 => match memb pc2 cuts with
      | true => K pc2 (kl (msk ft pc2) ls2) st2 h2
      | false => itK SKc SKn SKr CS ft cl hn sw cuts K n pc2 ls2 st2 h2) pc lA stA h = some r := hr
    have hK2 : Snd p l e R s m args below meth c Q nL base sb D dA C S dc ds (n0 + n) r (fun pc2 ls2 st2 h2 => match memb pc2 cuts with
      | true => K pc2 (kl (msk ft pc2) ls2) st2 h2
      | false => itK SKc SKn SKr CS ft cl hn sw cuts K n pc2 ls2 st2 h2) := by
      intro pc lA stA h H locs cells slots ls hr hL hW hS h1 h2
      cases e9 : memb pc cuts with
      | true =>
        simp only [e9] at hr
        rw [Nat.add_mul] at h1 h2
        exact hK _ _ _ _ _ _ _ _ _ hr (hL.kl _) hW hS (by omega) (by omega)
      | false =>
        simp only [e9] at hr
        exact ih _ _ _ _ _ _ _ _ _ hr hL hW hS h1 h2
    unfold stp at hr2
    cases e9 : ft pc with
    | none => rw [e9] at hr2; cases hr2
    | some q =>
      rw [e9] at hr2
      obtain ⟨mk, i, len, b, c9, d, x⟩ := q
      have h3 := hft pc _ e9
      simp only [chkE, Bool.and_eq_true, decide_eq_true_eq] at h3
      exact stI_snd G hbs hC hS9 hK2 hcal hE h3.1 h3.2 hr2 (hL.kl mk) hW hS h1 h2
end STEP
end
section
/-! ===== BEGIN a method of a class above, found by the receiver, that may throw (follows va_callVU, va_runU of this kit) ===== -/
section
variable {p : Program} {l : Launch} {e : Env} {R : Room} {s : State} {m : MethodId} {args : Array Value} {below : List Frame} {meth : Method} {c : Code} {H : Heap} {locs : List Loc} {cells slots : Nat}
theorem vx_callVU {T : State} {locs : List Loc} {cells slots : Nat} (X : Stand p l e R s m args below meth c T locs cells slots) (hexec : p.tables.exec = Jvm.exec) {own C owner : String} {index : Nat} {x y : MethodName} {bytes : ByteArray} {maxL : Nat} {ret : Option FieldType}
    (hown : s.vm.findClass own = some m.cls) (hlink : (Cond.methodLink own index x).before args s = true) (hsame : (Cond.sameMethod x.cls owner x.name x.desc).before args s = true)
    (hd0 : va_Decl s ⟨owner, x.name, x.desc⟩) (howner : owner ≠ "java/lang/invoke/MethodHandle" ∧ owner ≠ "java/lang/invoke/VarHandle")
    (hsel : (Cond.selects C x y).before args s = true) (hinst : (Cond.instanceMethod y).before args s = true) (hcode : (Cond.code y bytes maxL ret).before args s = true)
    {W : Nat} {Pre : Pt → Array Value → Prop} {Post : Pt → Array Value → Option Value → Pt → Prop} {PostX : Pt → Array Value → Addr → Pt → Prop} (hK : vx_Back l R p e below s args y 3 W Pre Post PostX)
    {b : Addr} {cellB : Cell} (hcell : T.heap[b]? = some cellB) (hobj : cellB.vm.isStatics = false) (hcls : s.vm.findClass C = some cellB.cls)
    {g : JFrame} (hg : g.method = m) (hsize : g.locals.size = c.maxLocals) {argsL rest : List Value} (hlen : ∀ sig, parseMethodDescriptor x.desc = some sig → argsL.length = sig.parameters.length)
    (hstack : g.stack = argsL.reverse ++ .ref b :: rest) (hW : 2 * g.monitorRoom + (rest.map fun v => v.category).sum ≤ W) (hdg : decode c.code g.pc = .ok (.invokevirtual index, 3))
    (hpre : ∀ vm₁, s.WarmedH vm₁ → Pre ⟨T.setVm vm₁, locs, cells, slots⟩ (Value.ref b :: argsL).toArray) :
    (∃ (v : Option Value) (vm₁ : Vm) (B : Pt), s.WarmedH vm₁ ∧ Stand p l e R s m args below meth c B.U B.locs B.cells B.slots ∧ Post ⟨T.setVm vm₁, locs, cells, slots⟩ (Value.ref b :: argsL).toArray v B ∧
      ∀ target, Steps p.tables e below (B.U.setTop { g with pc := g.pc + 3, stack := v.toList ++ rest }) target → Steps p.tables e below (T.setTop g) target) ∨
    (∃ (q : Addr) (vm₁ : Vm) (B : Pt), s.WarmedH vm₁ ∧ Stand p l e R s m args below meth c B.U B.locs B.cells B.slots ∧ PostX ⟨T.setVm vm₁, locs, cells, slots⟩ (Value.ref b :: argsL).toArray q B ∧
      Steps p.tables e below (T.setTop g) ((B.U.setTop { g with stack := rest }).pushFrame (.throwing q))) := by
  obtain ⟨r0, r, hn, hrm, hstR, hsigR⟩ := hd0
  obtain ⟨cn, ck, r1, hcn, hck, hni, hf, hn1⟩ := Cond.sameMethod_found hsame
  cases hn.symm.trans hn1
  obtain ⟨mk, methM, hnamed, hmethM, -, habM⟩ := Cond.instanceMethod_spec hinst
  obtain ⟨c2, r2, m2, q1, q2, q3, q4, kP, hkP, hkPi⟩ := Cond.selects_spec hsel
  cases hcls.symm.trans q1
  cases hf.symm.trans q2
  cases hnamed.symm.trans q3
  have hselP : selectMethod e.platform s.vm cellB.cls r0 = .method mk := by rw [Launch.admits_selectMethod X.admits]; exact q4
  obtain ⟨vm₁, X₁, hstep₁⟩ := X.invokevirtualUp hexec hown hlink hsame howner hn hrm hstR (a := b) (cell := cellB) hcell
    (fun z h => by rw [h] at hobj; cases hobj) hselP hmethM habM hkP hkPi (g := g) hg (argsL := argsL) (rest := rest) (hlen _ hsigR) hstack hdg
  rcases hK m meth c ⟨T.setVm vm₁, locs, cells, slots⟩ { g with stack := rest } (.invokevirtual index) mk (Value.ref b :: argsL).toArray X₁ hg hsize hdg hW (X₁.named hnamed) (hpre vm₁ X₁.warmed) with ⟨v, B, X', hpost, hsteps⟩ | ⟨q, B, X', hpost, hsteps⟩
  · exact Or.inl ⟨v, vm₁, B, X₁.warmed, X', hpost, fun target h => hstep₁ _ fun acts => by rw [doInvoke_state]; exact hsteps.trans h⟩
  · exact Or.inr ⟨q, vm₁, B, X₁.warmed, X', hpost, hstep₁ _ fun acts => by rw [doInvoke_state]; exact hsteps⟩
theorem vx_runU {x y : MethodName} {bytes cc : ByteArray} {maxL nL mc ms n index : Nat} {ret : Option FieldType} {ws : List Cond} {rm : Room} {Pc : Array Value → State → Prop} {Qc : Array Value → State → Outcome → State → Prop} {XC : String → State → State → Prop} {free : Addr → Prop} {Ts : List Cond} {own C owner : String} {b : Addr} {As rest : List Value} {g : JFrame}
    (S : CallFix p m c cc nL s args Ts own) (hM : vx_Met l y ws rm Pc Qc XC mc ms free) (cw : va_CU R s args own C owner index x y bytes maxL ret ws rm mc ms n) (hp : PreV s H C b Pc As)
    (hg : g.method = m) (hn : As.length = n) (hsize : g.locals.size = nL) (hstack : g.stack = As.reverse ++ .ref b :: rest) (hW : 2 * g.monitorRoom + (rest.map fun v => v.category).sum ≤ 8) (hdg : decode cc g.pc = .ok (.invokevirtual index, 3)) (hf : cells + mc ≤ R.cells ∧ slots + ms ≤ R.slots) :
    vx_Run p l e R s m args below meth c H locs cells slots mc ms g rest (Qc (Value.ref b :: As).toArray) XC free := by
  obtain ⟨hrc, hrs, hfr, hlo, hws, hcw⟩ := cw.back
  have hini := cw.init
  have hK : vx_Back l R p e below s args y 3 8 (PreOf R mc ms Pc) (PostOf Qc mc ms free) (vx_Post XC mc ms free) := vx_back (bytes := bytes) (maxL := maxL) (ret := ret) hM hp.1 hrc hrs hfr hlo hws hcw (fun a' U hW => word_at hW (Or.inl (by first | rfl | simp [Cond.onTables, Cond.keeps, Cond.steady])) hini)
  obtain ⟨hx, hb, hml, ho, -⟩ := S
  obtain ⟨-, ⟨cellB, hcB, hoB, hclB⟩, hPc⟩ := hp
  intro T hT X
  rcases vx_callVU X hx (C := C) (owner := owner) (bytes := bytes) (maxL := maxL) (ret := ret) ho cw.link cw.same cw.decl cw.notMH cw.sel cw.inst cw.code hK (by rw [hT]; exact hcB) hoB hclB hg (hsize.trans hml.symm) (argsL := As) (rest := rest) (fun sig h => hn.trans (cw.len sig h)) hstack hW (by rw [hb]; exact hdg)
    (fun vm₁ hW₁ => ⟨hf.1, hf.2, hPc (T.setVm vm₁) hT hW₁⟩) with ⟨v, vm₁, ⟨U', l2, c2, s2⟩, hW₁, X', ⟨g', mk, t, L, e1, e2, hq, h1, hL, h2, h3⟩, st⟩ | ⟨q, vm₁, ⟨U', l2, c2, s2⟩, hW₁, X', ⟨g', mk, t, L, E, ce, e1, e2, hq, hce, hcv, hcl, h1, hL, h2, h3⟩, st⟩
  · dsimp only [Pt.U, Pt.locs, Pt.cells, Pt.slots] at X' e1 e2 h1 h2 h3 st
    subst h1; subst h2; subst h3
    exact Or.inl ⟨v, (T.setVm vm₁).calling g' mk (Value.ref b :: As).toArray, t, U', L, hT, X', hL, e1, e2, hq, st⟩
  · dsimp only [Pt.U, Pt.locs, Pt.cells, Pt.slots] at X' e1 e2 h1 h2 h3 st hcl
    subst h1; subst h2; subst h3
    exact Or.inr ⟨q, (T.setVm vm₁).calling g' mk (Value.ref b :: As).toArray, t, U', L, E, ce, hT, X', hL, e1, e2, hq, hce, hcv, vx_cls hW₁ hcl, st⟩
end
/-! ===== END ===== -/
/-! ===== contracts: a method does what its function says ===== -/
def rmc (dc : Nat) (r : (Option Value × Hp) ⊕ (Nat × Hp)) : Nat := match r with
  | .inl _ => dc
  | .inr _ => 1
def rms (ds : Nat) (r : (Option Value × Hp) ⊕ (Nat × Hp)) : Nat := match r with
  | .inl _ => ds
  | .inr _ => 6
def Pcw (SL : List StrT) (base sb : Nat) (D : va_G) (dA : Nat → ClassId) (vs : List Value) (h : Hp) : Array Value → State → Prop :=
  va_Pc (vs.map (tr base sb)) fun U => base ≤ U.heap.size ∧ Wd base sb D dA h U U.heap ∧ va_K D vwCl (tys dA) U ∧ Ex0 SL U
def Qcw (base sb : Nat) (D : va_G) (dA : Nat → ClassId) (r : (Option Value × Hp) ⊕ (Nat × Hp)) : Array Value → State → Outcome → State → Prop := fun _ st o t =>
  ∃ (v : Option Value) (g : Hp), r = .inl (v, g) ∧ o = .returned (v.map (tr base sb)) ∧ Wd base sb D dA g t t.heap ∧ va_F (Ab base) st t
def XCw (base sb : Nat) (D : va_G) (dA : Nat → ClassId) (r : (Option Value × Hp) ⊕ (Nat × Hp)) : String → State → State → Prop := fun X st t =>
  ∃ (E : Nat) (g : Hp), r = .inr (E, g) ∧ X = EN E ∧ Wd base sb D dA g t t.heap ∧ va_F (Ab base) st t
def Con (SL : List StrT) (l : Launch) (y : MethodName) (w0 : Jvm.Cond) (F : Fn) (fr lo dc ds : Nat) : Prop :=
  ∀ (base sb : Nat) (D : va_G) (dA : Nat → ClassId) (vs : List Value) (h : Hp) (r : (Option Value × Hp) ⊕ (Nat × Hp)), F vs h = some r →
    vx_Met l y (w0 :: WG) { frames := fr, cells := rmc dc r, slots := rms ds r, locals := lo } (Pcw SL base sb D dA vs h) (Qcw base sb D dA r) (XCw base sb D dA r) (rmc dc r) (rms ds r) (Ab base)
theorem Pcw_blind {SL : List StrT} {base sb : Nat} {D : va_G} {dA : Nat → ClassId} {vs : List Value} {h : Hp} : FrameBlind (Pcw SL base sb D dA vs h) := by
  intro a U g mk q
  obtain ⟨q1, q2, q3, q4, q5⟩ := q
  have hW : U.WarmedH (U.calling g mk a).vm := State.WarmedH.refl U
  exact ⟨q1, q2, q3.moved (u := U) (U := U.calling g mk a) (Vm.Alike.refl U.vm), va_K.moved (u := U) (U := U.calling g mk a) (Vm.Alike.refl U.vm) q4, Ex0.warm (s := U) (U := U.calling g mk a) hW q5⟩
section CALLS
variable {SL : List StrT} {p : Program} {l : Launch} {e : Env} {R : Room} {s : State} {m : MethodId} {args : Array Value} {below : List Frame} {meth : Method} {c : Code} {base sb : Nat} {D : va_G} {dA : Nat → ClassId} {Q : State → Prop} {H : Heap} {locs : List Loc} {cells slots : Nat}
theorem run_W {r : (Option Value × Hp) ⊕ (Nat × Hp)} {pc mc ms : Nat} {ls : Array Slot} {rest st0 : List Value} {a : Array Value} (hr : vx_Run p l e R s m args below meth c H locs cells slots mc ms (F0 m pc ls st0) rest (Qcw base sb D dA r a) (XCw base sb D dA r) (Ab base)) (hS : va_S (Ab base) s.heap H locs)
    (k1 : ∀ (v : Option Value) (g : Hp), r = .inl (v, g) → ∀ (H' : Heap) (locs' : List Loc), Wd base sb D dA g s H' → va_S (Ab base) s.heap H' locs' → W p l e R s m args below meth c H' locs' (cells + mc) (slots + ms) Q (F0 m (pc + 3) ls ((v.map (tr base sb)).toList ++ rest)))
    (k2 : ∀ (E : Nat) (g : Hp), r = .inr (E, g) → ∀ (H' : Heap) (locs' : List Loc) (q : Addr) (ce : Cell), Wd base sb D dA g s H' → va_S (Ab base) s.heap H' locs' → H'[q]? = some ce → ce.vm = .none → s.vm.findClass (EN E) = some ce.cls → vx_W p l e R s m args below meth c H' locs' (cells + mc) (slots + ms) Q (F0 m pc ls rest) q) :
    W p l e R s m args below meth c H locs cells slots Q (F0 m pc ls st0) := by
  intro T hT X
  rcases hr T hT X with ⟨v, st₀, t, T', L, h0, X', hL, e1, e2, ⟨v9, g, hr9, hv, hw, hF⟩, st⟩ | ⟨q, st₀, t, T', L, E, ce, h0, X', hL, e1, e2, ⟨E9, g, hr9, hE, hw, hF⟩, hce, hcv, hcl, st⟩
  · cases hv
    obtain ⟨j1, j2, j3⟩ := vx_keep h0 e1 hS (fun q _ h => h) (fun q h => h) hL hF
    have hw' : Wd base sb D dA g s T'.heap := by
      rw [e1]
      exact hw.moved (by rw [← e2]; exact X'.warmed.alike.symm)
    obtain ⟨t2, a1, b1⟩ := k1 v9 g hr9 T'.heap (locs ++ L) hw' j3 T' rfl X'
    exact ⟨t2, st t2 a1, b1⟩
  · subst hE
    obtain ⟨j1, j2, j3⟩ := vx_keep h0 e1 hS (fun q _ h => h) (fun q h => h) hL hF
    have hw' : Wd base sb D dA g s T'.heap := by
      rw [e1]
      exact hw.moved (by rw [← e2]; exact X'.warmed.alike.symm)
    obtain ⟨t2, a1, b1⟩ := k2 E9 g hr9 T'.heap (locs ++ L) q ce hw' j3 (by rw [e1]; exact hce) hcv hcl T' rfl X'
    exact ⟨t2, st.trans a1, b1⟩
theorem pcw_at {own : String} {nL : Nat} {cc : ByteArray} {vs : List Value} {h : Hp} (G : Cx SL p s m args c cc nL own D dA) (hbs : base ≤ s.heap.size) (hW : Wd base sb D dA h s H) (hS : va_S (Ab base) s.heap H locs) : ∀ U : State, U.heap = H → s.WarmedH U.vm → Pcw SL base sb D dA vs h (vs.map (tr base sb)).toArray U := by
  obtain ⟨-, -, -, -, -, hKn, hEx⟩ := G
  intro U hU hWm
  refine ⟨rfl, ?_, ?_, va_K.moved hWm.alike hKn, Ex0.warm hWm hEx⟩
  · rw [hU]; exact Nat.le_trans hbs hS.1
  · rw [hU]; exact hW.moved hWm.alike
end CALLS
theorem goodW {w : Jvm.Cond} (h : w ∈ WG) : (w.onTables && w.keeps) = true ∨ ∃ ty, w = .arrayClass ty := (wg_good w h).2
theorem goodWs {ws : List Jvm.Cond} (h : ∀ w ∈ ws, w ∈ WG) : GoodIn WG ws := fun w hw => ⟨h w hw, goodW (h w hw)⟩
/-- a method of an own class, called on an object of that very class -/
theorem callOK_V {SL : List StrT} {l : Launch} {own C : String} {index n d ci maxL fr lo dc ds : Nat} {y : MethodName} {bytes : ByteArray} {ret : Option FieldType} {F : Fn} {T : u_T} {N : Nat}
    (hcon : Con SL l y (.code y bytes maxL ret) F fr lo dc ds)
    (hw : ∀ w ∈ [Jvm.Cond.methodLink own index y, .instanceMethod y, .selects C y y, .initialized C, .code y bytes maxL ret], w ∈ WG)
    (hd : y.cls = C ∧ y.cls ≠ "java/lang/invoke/MethodHandle" ∧ y.cls ≠ "java/lang/invoke/VarHandle" ∧ (parseMethodDescriptor y.desc).map (fun d => d.parameters.length) = some n)
    (hci : vwCl[ci]? = some (C, T, N)) (hCS : CS d = [ci]) (hd9 : d ≠ 99) {R : Room} (hR : fr + 1 ≤ R.frames ∧ 8 + (maxL + 11) + lo ≤ R.locals) : CallOK SL l R own (.invokevirtual index) (n + 1) d F dc ds := by
  intro p e s m args below meth c cc nL base sb D dA Q H locs cells slots pc ls rest vs h G hdec hls hlen hrc hcat hW hS hbs hc1 hc2 hF k1 k2
  obtain ⟨hx, hb, hml, hown, hts, hKn, hEx⟩ := id G
  unfold recv at hrc
  rw [show Nat.beq d 99 = false from by rw [Bool.eq_false_iff]; intro z; exact hd9 (Nat.eq_of_beq_eq_true z)] at hrc
  rcases vs with _ | ⟨v, As⟩
  · cases hrc
  cases v with
  | ref a =>
    have g1 : memb (SKc a) (CS d) = true := hrc
    rw [hCS] at g1
    have g2 := memb_in g1
    simp only [List.mem_cons, List.not_mem_nil, or_false] at g2
    obtain ⟨q1, q2, -⟩ := cl_ok hci
    have ha : a < 228 := SKc_lt (by omega)
    have he := wd_get (base := base) (dA := dA) (h := h) ha
    rw [entE_obj (by omega), g2] at he
    obtain ⟨r, hr⟩ : ∃ r, F (.ref a :: As) h = some r := Option.ne_none_iff_exists'.mp hF
    have hlen2 : As.length = n := by simpa using hlen
    have hG2 : GoodIn WG (wsV own index C y (.code y bytes maxL ret :: WG)) := goodWs fun w hw9 => by
      simp only [wsV, List.mem_append, List.mem_cons, List.not_mem_nil, or_false] at hw9
      rcases hw9 with ((rfl | rfl | rfl | rfl) | (rfl | q))
      · exact hw _ (by simp)
      · exact hw _ (by simp)
      · exact hw _ (by simp)
      · exact hw _ (by simp)
      · exact hw _ (by simp)
      · exact q
    have hpre := pcw_at (vs := .ref a :: As) (h := h) G hbs hW hS
    rw [List.map_cons, tr_ref ha] at hpre ⊢
    have hf : cells + rmc dc r ≤ R.cells ∧ slots + rms ds r ≤ R.slots := by
      rcases r with r | ⟨E, g⟩
      · exact ⟨hc1, hc2⟩
      · exact (k2 E g hr).1
    rw [List.reverse_cons, List.append_assoc]
    refine run_W (r := r) (vx_runV (As := As.map (tr base sb)) (rest := rest) ⟨hx, hb, hml, hown, hts⟩ (hcon base sb D dA _ h r hr) (cwV n hts hG2 rfl rfl rfl hd hR) ⟨Pcw_blind, va_recv hKn hW.1 hci he, hpre⟩ rfl (by rw [List.length_map]; exact hlen2) hls rfl (by show 2 * 0 + _ ≤ 8; omega) hdec hf) hS ?_ ?_
    · intro v g hv H' locs' hW' hS'
      subst hv
      exact k1 v g hr H' locs' hW' hS'
    · intro E g hv H' locs' q ce hW' hS' f1 f2 f3
      subst hv
      exact (k2 E g hr).2 H' locs' q ce hW' hS' f1 f2 f3
  | _ => cases hrc
/-- an inherited method, by whatever name, called on an object of one of the three classes -/
theorem callOK_U {SL : List StrT} {l : Launch} {own owner : String} {index n d maxL fr lo dc ds : Nat} {x y : MethodName} {bytes : ByteArray} {ret : Option FieldType} {F : Fn}
    (hcon : Con SL l y (.code y bytes maxL ret) F fr lo dc ds)
    (hw : ∀ w ∈ [Jvm.Cond.methodLink own index x, .sameMethod x.cls owner x.name x.desc, .instanceMethod y, .initialized y.cls, .code y bytes maxL ret], w ∈ WG)
    (hyx : y = ⟨owner, x.name, x.desc⟩)
    (hd : owner ≠ "java/lang/invoke/MethodHandle" ∧ owner ≠ "java/lang/invoke/VarHandle" ∧ (parseMethodDescriptor x.desc).map (fun d => d.parameters.length) = some n)
    (hCS : ∀ ci ∈ CS d, ∃ (C : String) (T : u_T) (N : Nat), vwCl[ci]? = some (C, T, N) ∧ Jvm.Cond.selects C x y ∈ WG) (hd9 : d ≠ 99) {R : Room} (hR : fr + 1 ≤ R.frames ∧ 8 + (maxL + 11) + lo ≤ R.locals) : CallOK SL l R own (.invokevirtual index) (n + 1) d F dc ds := by
  intro p e s m args below meth c cc nL base sb D dA Q H locs cells slots pc ls rest vs h G hdec hls hlen hrc hcat hW hS hbs hc1 hc2 hF k1 k2
  obtain ⟨hx, hb, hml, hown, hts, hKn, hEx⟩ := id G
  unfold recv at hrc
  rw [show Nat.beq d 99 = false from by rw [Bool.eq_false_iff]; intro z; exact hd9 (Nat.eq_of_beq_eq_true z)] at hrc
  rcases vs with _ | ⟨v, As⟩
  · cases hrc
  cases v with
  | ref a =>
    have g1 : memb (SKc a) (CS d) = true := hrc
    obtain ⟨C, T, N, hci, hsel⟩ := hCS _ (memb_in g1)
    obtain ⟨q1, q2, -⟩ := cl_ok hci
    have ha : a < 228 := SKc_lt (by omega)
    have he := wd_get (base := base) (dA := dA) (h := h) ha
    rw [entE_obj (by omega)] at he
    obtain ⟨r, hr⟩ : ∃ r, F (.ref a :: As) h = some r := Option.ne_none_iff_exists'.mp hF
    have hlen2 : As.length = n := by simpa using hlen
    have hG2 : GoodIn WG (va_wsU own index C owner x y (.code y bytes maxL ret :: WG)) := goodWs fun w hw9 => by
      simp only [va_wsU, List.mem_append, List.mem_cons, List.not_mem_nil, or_false] at hw9
      rcases hw9 with ((rfl | rfl | rfl | rfl | rfl) | (rfl | q))
      · exact hw _ (by simp)
      · exact hw _ (by simp)
      · exact hsel
      · exact hw _ (by simp)
      · exact hw _ (by simp)
      · exact hw _ (by simp)
      · exact q
    have hpre := pcw_at (vs := .ref a :: As) (h := h) G hbs hW hS
    rw [List.map_cons, tr_ref ha] at hpre ⊢
    have hf : cells + rmc dc r ≤ R.cells ∧ slots + rms ds r ≤ R.slots := by
      rcases r with r | ⟨E, g⟩
      · exact ⟨hc1, hc2⟩
      · exact (k2 E g hr).1
    rw [List.reverse_cons, List.append_assoc]
    refine run_W (r := r) (vx_runU (As := As.map (tr base sb)) (rest := rest) ⟨hx, hb, hml, hown, hts⟩ (hcon base sb D dA _ h r hr) (va_cwU n hts hG2 rfl rfl rfl hyx hd hR) ⟨Pcw_blind, va_recv hKn hW.1 hci he, hpre⟩ rfl (by rw [List.length_map]; exact hlen2) hls rfl (by show 2 * 0 + _ ≤ 8; omega) hdec hf) hS ?_ ?_
    · intro v g hv H' locs' hW' hS'
      subst hv
      exact k1 v g hr H' locs' hW' hS'
    · intro E g hv H' locs' q ce hW' hS' f1 f2 f3
      subst hv
      exact (k2 E g hr).2 H' locs' q ce hW' hS' f1 f2 f3
  | _ => cases hrc
/-- a static method without a table -/
theorem callOK_S {SL : List StrT} {l : Launch} {own : String} {index n d maxL fr lo dc ds : Nat} {y : MethodName} {bytes : ByteArray} {ret : Option FieldType} {F : Fn}
    (hcon : Con SL l y (.code y bytes maxL ret) F fr lo dc ds)
    (hw : ∀ w ∈ [Jvm.Cond.methodLink own index y, .static y, .initialized y.cls, .code y bytes maxL ret], w ∈ WG)
    (hd : y.cls ≠ "java/lang/invoke/MethodHandle" ∧ y.cls ≠ "java/lang/invoke/VarHandle" ∧ (parseMethodDescriptor y.desc).map (fun d => d.parameters.length) = some n)
    {R : Room} (hR : fr + 1 ≤ R.frames ∧ 8 + (maxL + 11) + lo ≤ R.locals) : CallOK SL l R own (.invokestatic index) n d F dc ds := by
  intro p e s m args below meth c cc nL base sb D dA Q H locs cells slots pc ls rest vs h G hdec hls hlen hrc hcat hW hS hbs hc1 hc2 hF k1 k2
  obtain ⟨hx, hb, hml, hown, hts, hKn, hEx⟩ := id G
  obtain ⟨r, hr⟩ : ∃ r, F vs h = some r := Option.ne_none_iff_exists'.mp hF
  have hG2 : GoodIn WG (va_wsS own index y (.code y bytes maxL ret :: WG)) := goodWs fun w hw9 => by
    simp only [va_wsS, List.mem_append, List.mem_cons, List.not_mem_nil, or_false] at hw9
    rcases hw9 with ((rfl | rfl | rfl) | (rfl | q))
    · exact hw _ (by simp)
    · exact hw _ (by simp)
    · exact hw _ (by simp)
    · exact hw _ (by simp)
    · exact q
  have hpre := pcw_at (vs := vs) (h := h) G hbs hW hS
  have hf : cells + rmc dc r ≤ R.cells ∧ slots + rms ds r ≤ R.slots := by
    rcases r with r | ⟨E, g⟩
    · exact ⟨hc1, hc2⟩
    · exact (k2 E g hr).1
  refine run_W (r := r) (vx_runS (As := vs.map (tr base sb)) (rest := rest) ⟨hx, hb, hml, hown, hts⟩ (hcon base sb D dA _ h r hr) (va_cwS n hts hG2 rfl rfl rfl hd hR) ⟨Pcw_blind, hpre⟩ rfl (by rw [List.length_map]; exact hlen) hls rfl (by show 2 * 0 + _ ≤ 8; omega) hdec hf) hS ?_ ?_
  · intro v g hv H' locs' hW' hS'
    subst hv
    exact k1 v g hr H' locs' hW' hS'
  · intro E g hv H' locs' q ce hW' hS' f1 f2 f3
    subst hv
    exact (k2 E g hr).2 H' locs' q ce hW' hS' f1 f2 f3
/-- a static method with a table -/
theorem callOK_SX {SL : List StrT} {l : Launch} {own : String} {index n d maxL fr lo dc ds : Nat} {y : MethodName} {bytes : ByteArray} {ret : Option FieldType} {hh : List (Nat × Nat × Nat × Nat)} {F : Fn}
    (hcon : Con SL l y (.codeWith y bytes maxL ret hh) F fr lo dc ds)
    (hw : ∀ w ∈ [Jvm.Cond.methodLink own index y, .static y, .initialized y.cls, .codeWith y bytes maxL ret hh], w ∈ WG)
    (hd : y.cls ≠ "java/lang/invoke/MethodHandle" ∧ y.cls ≠ "java/lang/invoke/VarHandle" ∧ (parseMethodDescriptor y.desc).map (fun d => d.parameters.length) = some n)
    {R : Room} (hR : fr + 1 ≤ R.frames ∧ 8 + (maxL + 11) + lo ≤ R.locals) : CallOK SL l R own (.invokestatic index) n d F dc ds := by
  intro p e s m args below meth c cc nL base sb D dA Q H locs cells slots pc ls rest vs h G hdec hls hlen hrc hcat hW hS hbs hc1 hc2 hF k1 k2
  obtain ⟨hx, hb, hml, hown, hts, hKn, hEx⟩ := id G
  obtain ⟨r, hr⟩ : ∃ r, F vs h = some r := Option.ne_none_iff_exists'.mp hF
  have hG2 : GoodIn WG (va_wsS own index y (.codeWith y bytes maxL ret hh :: WG)) := goodWs fun w hw9 => by
    simp only [va_wsS, List.mem_append, List.mem_cons, List.not_mem_nil, or_false] at hw9
    rcases hw9 with ((rfl | rfl | rfl) | (rfl | q))
    · exact hw _ (by simp)
    · exact hw _ (by simp)
    · exact hw _ (by simp)
    · exact hw _ (by simp)
    · exact q
  have hpre := pcw_at (vs := vs) (h := h) G hbs hW hS
  have hf : cells + rmc dc r ≤ R.cells ∧ slots + rms ds r ≤ R.slots := by
    rcases r with r | ⟨E, g⟩
    · exact ⟨hc1, hc2⟩
    · exact (k2 E g hr).1
  refine run_W (r := r) (vx_runSX (hh := hh) (As := vs.map (tr base sb)) (rest := rest) ⟨hx, hb, hml, hown, hts⟩ (hcon base sb D dA _ h r hr) (vx_cwSW n hts hG2 rfl rfl rfl hd hR) ⟨Pcw_blind, hpre⟩ rfl (by rw [List.length_map]; exact hlen) hls rfl (by show 2 * 0 + _ ≤ 8; omega) hdec hf) hS ?_ ?_
  · intro v g hv H' locs' hW' hS'
    subst hv
    exact k1 v g hr H' locs' hW' hS'
  · intro E g hv H' locs' q ce hW' hS' f1 f2 f3
    subst hv
    exact (k2 E g hr).2 H' locs' q ce hW' hS' f1 f2 f3
end
section
/-! ===== contracts out of code tables ===== -/
def XNM : List String := ["java/lang/RuntimeException", "java/lang/Exception"]
def ThrOK (SL : List StrT) (own : String) (cc : ByteArray) (pc b : Nat) : Prop := ∃ (ik is ic : Nat) (text : String), (own, is, text) ∈ SL ∧ decode cc pc = .ok (.new ik, 3) ∧ decode cc (pc + 3) = .ok (.dup, 1) ∧
  ((decode cc (pc + 4) = .ok (.ldc is, 2) ∧ decode cc (pc + 6) = .ok (.invokespecial ic, 3) ∧ decode cc (pc + 9) = .ok (.athrow, 1)) ∨ (decode cc (pc + 4) = .ok (.ldc_w is, 3) ∧ decode cc (pc + 7) = .ok (.invokespecial ic, 3) ∧ decode cc (pc + 10) = .ok (.athrow, 1))) ∧
  Jvm.Cond.classLink own ik (EN b) ∈ WG ∧ Jvm.Cond.initialized (EN b) ∈ WG ∧ ∀ w ∈ vx_atS own ic (EN b) XNM, w ∈ WG ∨ w ∈ EXW
theorem EN_fit (b : Nat) : Bundle.fit (EN b) = true := by
  rcases b with _ | _ | b
  · decide +kernel
  · decide +kernel
  · show Bundle.fit "java/lang/IllegalStateException" = true
    decide +kernel
theorem XNM_fit : ∀ n ∈ XNM, Bundle.fit n = true := by
  intro n hn
  simp only [XNM, List.mem_cons, List.not_mem_nil, or_false] at hn
  rcases hn with rfl | rfl <;> decide +kernel
theorem wg_ot {w : Jvm.Cond} (h : w ∈ WG ∨ w ∈ EXW) : vx_ot w = true := by
  rcases h with h | h
  · unfold vx_ot
    rw [(List.mem_filter.mp h).2, Bool.or_true]
  · simp only [EXW, List.mem_cons, List.not_mem_nil, or_false] at h
    rcases h with rfl | rfl | rfl | rfl | rfl | rfl <;> rfl
theorem exw_at {U : State} {args : Array Value} {w : Jvm.Cond} (h : vz_C EXW U) (hw : w ∈ EXW) : w.before args U = true := by
  have h1 := h w hw
  simp only [EXW, List.mem_cons, List.not_mem_nil, or_false] at hw
  rcases hw with rfl | rfl | rfl | rfl | rfl | rfl <;> exact h1
theorem pad_get {v : Value} (hv : v ≠ .retAddr 0) : ∀ {n : Nat} {vs : List Value} {i : Nat}, (pad n vs)[i]? = some v → vs[i]? = some v
  | 0, vs, i, h => by simp [pad] at h
  | n + 1, [], 0, h => by
    have : Value.retAddr 0 = v := by simpa [pad] using h
    exact absurd this.symm hv
  | n + 1, [], i + 1, h => by
    have h1 : (pad n [])[i]? = some v := by simpa [pad] using h
    have h2 := pad_get hv h1
    simp at h2
  | n + 1, w :: t, 0, h => by simpa [pad] using h
  | n + 1, w :: t, i + 1, h => by
    rw [List.getElem?_cons_succ]
    exact pad_get hv (n := n) (by simpa [pad] using h)
theorem chkA_spec : ∀ {n : Nat} {vs : List Value}, chkA n vs = true → vs.length = n ∧ ∀ v ∈ vs, v.category = 1
  | 0, [], _ => ⟨rfl, fun _ h => nomatch h⟩
  | 0, _ :: _, h => by simp [chkA] at h
  | n + 1, [], h => by simp [chkA] at h
  | n + 1, v :: t, h => by
    cases v with
    | int x =>
      obtain ⟨h1, h2⟩ := chkA_spec (n := n) (vs := t) h
      exact ⟨by simp [h1], fun w hw => by rcases List.mem_cons.mp hw with q | q; (rw [q]; rfl); exact h2 w q⟩
    | ref x =>
      obtain ⟨h1, h2⟩ := chkA_spec (n := n) (vs := t) h
      exact ⟨by simp [h1], fun w hw => by rcases List.mem_cons.mp hw with q | q; (rw [q]; rfl); exact h2 w q⟩
    | _ => simp [chkA] at h
theorem lv_args_in : ∀ {vs : List Value} {k i : Nat} {v : Value}, (∀ w ∈ vs, w.category = 1) → vs[i]? = some v → (k + i, v) ∈ lv_args k vs
  | [], k, i, v, _, h => by simp at h
  | w :: t, k, 0, v, _, h => by
    have : w = v := by simpa using h
    rw [this]
    exact List.mem_cons_self
  | w :: t, k, i + 1, v, hc, h => by
    refine List.mem_cons_of_mem _ ?_
    have h1 := lv_args_in (k := k + 1) (fun z hz => hc z (List.mem_cons_of_mem _ hz)) (show t[i]? = some v by simpa using h)
    have h2 : (if w.category = 2 then k + 2 else k + 1) = k + 1 := by
      rw [if_neg]
      rw [hc w List.mem_cons_self]
      decide
    rw [h2]
    have h3 : k + 1 + i = k + (i + 1) := by omega
    rw [← h3]
    exact h1
theorem sl_len : ∀ {vs : List Value}, (∀ w ∈ vs, w.category = 1) → (lg_sl vs).length = vs.length
  | [], _ => rfl
  | v :: t, h => by
    have h1 := sl_len (vs := t) fun z hz => h z (List.mem_cons_of_mem _ hz)
    have h2 : lg_sl (v :: t) = .val v :: lg_sl t := by
      unfold lg_sl
      rw [List.flatMap_cons, if_neg (by rw [h v List.mem_cons_self]; decide)]
      rfl
    rw [h2, List.length_cons, List.length_cons, h1]
theorem LR.entry {base sb nL n : Nat} {vs : List Value} (hA : chkA n vs = true) (hn : n ≤ nL) : LR base sb ((lg_sl (vs.map (tr base sb)) ++ List.replicate (nL - (lg_sl (vs.map (tr base sb))).length) Slot.unset).toArray) nL (pad nL vs) := by
  obtain ⟨h1, h2⟩ := chkA_spec hA
  have h3 : ∀ w ∈ vs.map (tr base sb), w.category = 1 := fun w hw => by
    obtain ⟨v, hv, rfl⟩ := List.mem_map.mp hw
    rw [tr_cat]
    exact h2 v hv
  have h4 := lv_entry (vs.map (tr base sb)) (n := nL) (by rw [sl_len h3, List.length_map, h1]; exact hn)
  refine ⟨h4.1, h4.2.1, fun i v hi hv => ?_⟩
  have h5 := pad_get hv hi
  refine ⟨h2 v (List.mem_of_getElem? h5), ?_⟩
  have h6 : (vs.map (tr base sb))[i]? = some (tr base sb v) := by rw [List.getElem?_map, h5]; rfl
  have h7 := lv_args_in (k := 0) h3 h6
  rw [Nat.zero_add] at h7
  exact h4.2.2 _ h7
section BODY
variable {SL : List StrT} {p : Program} {l : Launch} {e : Env} {R : Room} {s : State} {m : MethodId} {args : Array Value} {below : List Frame} {meth : Method} {c : Code} {cc : ByteArray} {nL : Nat} {own : String} {base sb : Nat} {D : va_G} {dA : Nat → ClassId}
theorem wd_keep {h : Hp} {H : Heap} {t : State} (hW : Wd base sb D dA h s H) (hal : s.vm.Alike t.vm) (hz : H.size ≤ t.heap.size) (hk : ∀ q : Nat, q < H.size → t.heap[q]? = H[q]?) : Wd base sb D dA h t t.heap := by
  refine Wd.moved (u := s) hal ⟨?_, va_X.kept hW.2.1 (hk sb ?_), hW.2.2.1, hW.2.2.2.1.kept (fun a h1 _ => hk a h1), hW.2.2.2.2.kept (fun a h1 _ => hk a h1)⟩
  · exact va_P.kept hW.1 (fun k q hq => hk q.1 ((hW.1 k q hq).lt))
  · obtain ⟨scr, h1, -⟩ := hW.2.1
    exact (Array.getElem?_eq_some_iff.mp h1).1
theorem thr_W {Qc : Array Value → State → Outcome → State → Prop} {mc ms pc b : Nat} {r : (Option Value × Hp) ⊕ (Nat × Hp)} {h : Hp} {H : Heap} {locs : List Loc} {ls : Array Slot} {st : List Value}
    (G : Cx SL p s m args c cc nL own D dA) (hl : l.stackTraces = false) (hbs : base ≤ s.heap.size) (hE1 : Ex1 (Ab base) s s.heap) (ht : ThrOK SL own cc pc b) (hr : r = .inr (b, h)) (hW : Wd base sb D dA h s H) (hS : va_S (Ab base) s.heap H locs) (hls : ls.size = nL) (hcat : (st.map fun v => v.category).sum ≤ 8)
    (htab : ∀ x ∈ c.exceptionTable.toList, False) (hlocks : meth.locks = false) (hR1 : 6 ≤ R.frames) (hR2 : 90 ≤ R.locals) (hR3 : 1 ≤ R.cells) (hR4 : 6 ≤ R.slots) (hm : 1 ≤ mc) (hm2 : 6 ≤ ms) :
    W p l e R s m args below meth c H locs 0 0 (vx_MQ below Qc (XCw base sb D dA r) args s mc ms (Ab base)) (F0 m pc ls st) := by
  obtain ⟨hx, hb, hml, hown, hts, hKn, hEx⟩ := id G
  obtain ⟨ik, is, ic, text, hSL, d0, d3, hd, hk, hini, hat⟩ := ht
  obtain ⟨sa, hstr⟩ := hEx.2.2 _ hSL
  have hXC : ∀ t : State, s.vm.Alike t.vm → H.size ≤ t.heap.size → (∀ q : Nat, q < H.size → t.heap[q]? = H[q]?) → XCw base sb D dA r (EN b) s t := by
    intro t hal hz hkk
    refine ⟨b, h, hr, rfl, wd_keep hW hal hz hkk, Nat.le_trans hS.1 hz, fun q h1 h2 => ?_⟩
    rw [hkk q (Nat.lt_of_lt_of_le h1 hS.1)]
    exact hS.2.1 q h1 h2
  have hat' : ∀ w ∈ vx_atS own ic (EN b) XNM, w.before args s = true := fun w hw => by
    rcases hat w hw with q | q
    · exact hts w q
    · exact exw_at hEx.1 q
  have hgood : ∀ w ∈ Jvm.Cond.classLink own ik (EN b) :: Jvm.Cond.initialized (EN b) :: vx_atS own ic (EN b) XNM, vx_ot w = true := fun w hw => by
    rcases List.mem_cons.mp hw with q | hw
    · rw [q]; exact wg_ot (Or.inl hk)
    rcases List.mem_cons.mp hw with q | hw
    · rw [q]; exact wg_ot (Or.inl hini)
    · exact wg_ot (hat w hw)
  have hsz : ls.size = c.maxLocals := by rw [hml]; exact hls
  rcases hd with ⟨d4, d6, d9⟩ | ⟨d4, d7, d10⟩
  · exact vx_throwS hx hb hl hown (EN_fit b) XNM_fit (hts _ hk) (hts _ hini) hstr hat' hgood hE1.1 hE1.2 hS hsz d0 d3 d4 d6 d9 (fun x hx9 => (htab x hx9).elim) (by show 2 + 3 < R.frames; omega) (by show _ + (13 * (2 + 1) + 43) ≤ _; omega) (by omega) (by omega) hlocks hXC hS.2.2 (by omega) (by omega)
  · exact vx_throwSW hx hb hl hown (EN_fit b) XNM_fit (hts _ hk) (hts _ hini) hstr hat' hgood hE1.1 hE1.2 hS hsz d0 d3 d4 d7 d10 (fun x hx9 => (htab x hx9).elim) (by show 2 + 3 < R.frames; omega) (by show _ + (13 * (2 + 1) + 43) ≤ _; omega) (by omega) (by omega) hlocks hXC hS.2.2 (by omega) (by omega)
end BODY
/-- which answer a method has -/
def retOK (zc : Nat) (ret : Option FieldType) : Prop := match zc with
  | 0 => ret = some .int
  | 1 => ret = some .boolean
  | 2 => ∃ n, ret = some (.object n)
  | _ => ret = none
theorem nar_ok {zc : Nat} {ret : Option FieldType} {v : Int32} (h : retOK zc ret) (hz : zc < 2) (hv : okZ zc v = true) : ∃ ty, ret = some ty ∧ narrow ty (.int v) = .int v := by
  rcases zc with _ | _ | zc
  · exact ⟨.int, h, rfl⟩
  · refine ⟨.boolean, h, ?_⟩
    simp only [okZ, Bool.or_eq_true, decide_eq_true_eq] at hv
    rcases hv with q | q <;> rw [q] <;> rfl
  · omega
set_option maxHeartbeats 4000000 in
theorem con_of {SL : List StrT} {l : Launch} {own : String} {y : MethodName} {cc : ByteArray} {maxL n zc fr lo : Nat} {ret : Option FieldType} {T : List (Nat × Ent)} {cl : List Fn} {sw : List (List Nat)} {cal : List (Nat × Nat × Nat × Nat × Nat)} {thw : List (Nat × Nat)}
    (hl : l.stackTraces = false) (hy : plainName y.cls = true) (hcls : y.cls = own) (hn : n ≤ maxL) (hret : retOK zc ret) (hchk : T.all (chkE own cc maxL zc sw cal none thw) = true)
    (hcal : ∀ R : Room, R.frames = fr → R.locals = lo → ∀ q ∈ cal, CallOK SL l R own (insC q) (q.2.2.2.1 / 4) q.2.2.2.2 (nthF cl q.2.2.1) 0 0)
    (hthw : ∀ q ∈ thw, ThrOK SL own cc q.1 q.2 ∧ 6 ≤ fr ∧ 90 ≤ lo) :
    Con SL l y (.code y cc maxL ret) (fun as h => gd (chkA n as) (exL SKc SKn SKr CS (lkp T) cl [] sw 0 (pad maxL as) [] h)) fr lo 0 0 := by
  intro base sb D dA vs h r hr
  obtain ⟨hA, hr⟩ := gd_inv hr
  obtain ⟨n9, hr⟩ := exL_to SKc SKn SKr CS (lkp T) cl [] sw hr
  refine vx_ofW hy rfl ?_
  intro p e s m args below meth c s₁ B hml htab hv
  obtain ⟨rfl, hbs, hW, hKn, hEx⟩ := hv
  have hts : ∀ w ∈ WG, w.before (vs.map (tr base sb)).toArray s = true := fun w hw => atoms_spec (ws := Jvm.Cond.code y cc maxL ret :: WG) B.pre w (List.mem_cons_of_mem _ hw)
  have hown : s.vm.findClass own = some m.cls := by rw [← hcls]; exact findClass_of_methodNamed B.named
  have hlocks := B.notSynchronized
  have G : Cx SL p s m (vs.map (tr base sb)).toArray c cc maxL own D dA := ⟨B.exec, B.bytes, hml, hown, hts, hKn, hEx⟩
  have hE1 : Ex1 (Ab base) s s.heap := hW.2.2.2
  have hrt := B.returns
  rw [lg_entry_eq]
  refine exN_snd (C := 0) (S := 0) (dc := 0) (ds := 0) (zc := zc) (cps := none) (thw := thw) (r := r) (hn := []) G hbs (Nat.zero_le _) (Nat.zero_le _) (fun pc q hq => List.all_eq_true.mp hchk _ (lkp_mem hq)) (hcal _ rfl rfl) ?_ n9 0 (pad maxL vs) [] h s.heap [] 0 0 _ hr (LR.entry hA hn) hW va_S.rf (Nat.zero_le _) (Nat.zero_le _)
  refine ⟨?_, ?_, ?_, ?_, ?_, ?_, ?_⟩
  · intro pc ls v g H locs cells slots hr9 hz hz2 hW9 hS9 hc hs hd
    subst hr9
    have c0 : cells = 0 := by omega
    have s0 : slots = 0 := by omega
    subst c0; subst s0
    obtain ⟨ty, h1, h2⟩ := nar_ok hret hz2 hz
    exact vx_ret (W.zret (ty := ty) B.exec B.bytes (by rw [hrt]; exact h1) h2 (fun t ht hWm => ⟨some (.int v), g, rfl, rfl, by rw [ht]; exact hW9.moved hWm.alike, hS9.F ht⟩) hS9.2.2 hd)
  · intro pc ls v g H locs cells slots hr9 hz hW9 hS9 hc hs hd
    subst hr9
    have c0 : cells = 0 := by omega
    have s0 : slots = 0 := by omega
    subst c0; subst s0; subst hz
    obtain ⟨nm, h1⟩ := hret
    exact vx_ret (W.aret (rt := .object nm) B.exec B.bytes (by rw [hrt]; exact h1) (Or.inl ⟨nm, rfl⟩) (Or.inr ⟨_, rfl⟩) (fun t ht hWm => ⟨some (.ref v), g, rfl, rfl, by rw [ht]; exact hW9.moved hWm.alike, hS9.F ht⟩) hS9.2.2 hd)
  · intro pc ls g H locs cells slots hr9 hz hW9 hS9 hc hs hd
    subst hr9
    have c0 : cells = 0 := by omega
    have s0 : slots = 0 := by omega
    subst c0; subst s0; subst hz
    have h1 : ret = none := hret
    exact vx_ret (W.vret B.exec B.bytes (by rw [hrt]; exact h1) (fun t ht hWm => ⟨none, g, rfl, rfl, by rw [ht]; exact hW9.moved hWm.alike, hS9.F ht⟩) hS9.2.2 hd)
  · intro pc b ls st g H locs cells slots hb9 hr9 hW9 hS9 hls hcat hc hs
    have c0 : cells = 0 := by omega
    have s0 : slots = 0 := by omega
    subst c0; subst s0
    obtain ⟨h1, h2, h3⟩ := hthw _ hb9
    subst hr9
    exact thr_W G hl hbs hE1 h1 rfl hW9 hS9 hls hcat htab hlocks h2 h3 (Nat.le_refl 1) (Nat.le_refl 6) (Nat.le_refl 1) (Nat.le_refl 6)
  · intro pc E cst ls st g H locs cells slots q ce h1
    cases h1
  · intro pc E ls st g H locs cells slots q ce h1 hr9 hW9 hS9 hc hs f1 f2 f3
    subst hr9
    exact vx_out (fun x hx => (htab x hx).elim) hlocks f1 f2 f3 (fun t ht hal => ⟨E, g, rfl, rfl, by rw [ht]; exact hW9.moved hal, hS9.F ht⟩) hS9.2.2 hc hs
  · intro h1
    rcases h1 with ⟨q, rfl⟩ | h1
    · exact ⟨Nat.le_refl 1, Nat.le_refl 6⟩
    · exact absurd rfl h1
end
