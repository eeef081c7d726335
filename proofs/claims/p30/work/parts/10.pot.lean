/-! wrappers: a static method that catches what its one call throws, and says which it was -/
/-- a row: which throwable, the answer, the place of its handler, the pool's entry -/
abbrev HRow : Type := Nat × Int32 × Nat × Nat
def hh_of (a b : Nat) (L : List HRow) : List (Nat × Nat × Nat × Nat) := L.map fun q => (a, b, q.2.2.1, q.2.2.2)
def hn_of (L : List HRow) : List (Nat × Int32) := L.map fun q => (q.1, q.2.1)
/-- astore; iconst; ireturn -/
def chkH (cc : ByteArray) (nL zc : Nat) (q : HRow) : Bool := okZ zc q.2.1 && Nat.blt 0 q.1 && Nat.blt q.1 3 && !Nat.beq q.2.2.2 0 && (match decode cc q.2.2.1 with
  | .ok (.astore_n k, 1) => Nat.blt k.val nL && (match decode cc (q.2.2.1 + 1) with
    | .ok (.iconst n, 1) => decide (Int32.ofInt n = q.2.1) && decide (decode cc (q.2.2.1 + 2) = .ok (.ireturn, 1))
    | _ => false)
  | .ok (.astore k, 2) => Nat.blt k nL && (match decode cc (q.2.2.1 + 2) with
    | .ok (.sipush n, 3) => decide ((Int16.ofInt n).toInt32 = q.2.1) && decide (decode cc (q.2.2.1 + 5) = .ok (.ireturn, 1))
    | _ => false)
  | _ => false)
theorem lkp_split {E : Nat} {cst : Int32} : ∀ {L : List HRow}, lkp (hn_of L) E = some cst → ∃ (pre : List HRow) (hpc ct : Nat) (suf : List HRow), L = pre ++ (E, cst, hpc, ct) :: suf ∧ ∀ z ∈ pre, z.1 ≠ E
  | [], h => by cases h
  | (k, c0, hp, ct) :: t, h => by
    have h1 : cond (Nat.beq k E) (some c0) (lkp (hn_of t) E) = some cst := h
    cases e : Nat.beq k E with
    | true =>
      rw [e] at h1
      have e1 : c0 = cst := Option.some.inj h1
      have e2 := Nat.eq_of_beq_eq_true e
      subst e1; subst e2
      exact ⟨[], hp, ct, t, rfl, fun _ h => nomatch h⟩
    | false =>
      rw [e] at h1
      obtain ⟨pre, hpc, ct2, suf, e1, e2⟩ := lkp_split h1
      refine ⟨(k, c0, hp, ct) :: pre, hpc, ct2, suf, by rw [e1]; rfl, fun z hz => ?_⟩
      rcases List.mem_cons.mp hz with q | q
      · rw [q]
        intro z2
        have z3 : k = E := z2
        rw [z3, Nat.beq_refl] at e
        cases e
      · exact e2 z q
theorem exn_all {U : State} (h : EXN U) : ∀ a b : Nat, 0 < a → a < 3 → 0 < b → b < 3 → a ≠ b → va_Nc (EN a) (EN b) U := by
  obtain ⟨h1, h2⟩ := h
  intro a b ha0 ha hb0 hb hab
  match a, b, ha0, ha, hb0, hb, hab with
  | 0, _, z, _, _, _, _ => omega
  | _, 0, _, _, z, _, _ => omega
  | 1, 1, _, _, _, _, z => exact absurd rfl z
  | 1, 2, _, _, _, _, _ => exact h2
  | 2, 1, _, _, _, _, _ => exact h1
  | 2, 2, _, _, _, _, z => exact absurd rfl z
  | n + 3, _, _, z, _, _, _ => omega
  | _, n + 3, _, _, _, z, _ => omega
theorem exw_in : ∀ b, b < 3 → Jvm.Cond.castable (EN b) (EN b) ∈ EXW := by
  intro b hb
  match b, hb with
  | 0, _ => exact List.mem_cons_self
  | 1, _ => exact List.mem_cons_of_mem _ List.mem_cons_self
  | 2, _ => exact List.mem_cons_of_mem _ (List.mem_cons_of_mem _ List.mem_cons_self)
  | n + 3, z => omega
set_option maxHeartbeats 4000000 in
theorem con_ofH {SL : List StrT} {l : Launch} {own : String} {y : MethodName} {cc : ByteArray} {maxL n zc fr lo a b : Nat} {ret : Option FieldType} {T : List (Nat × Ent)} {cl : List Fn} {L : List HRow} {sw : List (List Nat)} {cal : List (Nat × Nat × Nat × Nat × Nat)} {cps : List Nat}
    (hy : plainName y.cls = true) (hcls : y.cls = own) (hn : n ≤ maxL) (hret : retOK zc ret) (hzc : zc < 2) (hL0 : L ≠ []) (hchk : T.all (chkE own cc maxL zc sw cal (some cps) []) = true)
    (hcps : ∀ pc ∈ cps, a ≤ pc ∧ pc < b) (hH : L.all (chkH cc maxL zc) = true) (hlk : ∀ q ∈ L, Jvm.Cond.classLink own q.2.2.2 (EN q.1) ∈ WG) (hcw : Jvm.Cond.codeWith y cc maxL ret (hh_of a b L) ∈ WG)
    (hcal : ∀ R : Room, R.frames = fr → R.locals = lo → ∀ q ∈ cal, CallOK SL l R own (insC q) (q.2.2.2.1 / 4) q.2.2.2.2 (nthF cl q.2.2.1) 0 0) :
    Con SL l y (.codeWith y cc maxL ret (hh_of a b L)) (fun as h => gd (chkA n as) (exL SKc SKn SKr CS (lkp T) cl (hn_of L) sw 0 (pad maxL as) [] h)) fr lo 1 6 := by
  intro base sb D dA vs h r hr
  obtain ⟨hA, hr⟩ := gd_inv hr
  obtain ⟨n9, hr⟩ := exL_to SKc SKn SKr CS (lkp T) cl (hn_of L) sw hr
  refine vx_ofWH hy rfl ?_
  intro p e s m args below meth c s₁ B hml hv
  obtain ⟨rfl, hbs, hW, hKn, hEx⟩ := hv
  have hts : ∀ w ∈ WG, w.before (vs.map (tr base sb)).toArray s = true := fun w hw => atoms_spec (ws := Jvm.Cond.codeWith y cc maxL ret (hh_of a b L) :: WG) B.pre w (List.mem_cons_of_mem _ hw)
  have hown : s.vm.findClass own = some m.cls := by rw [← hcls]; exact findClass_of_methodNamed B.named
  have hlocks := B.notSynchronized
  have G : Cx SL p s m (vs.map (tr base sb)).toArray c cc maxL own D dA := ⟨B.exec, B.bytes, hml, hown, hts, hKn, hEx⟩
  have hrt := B.returns
  have htab : c.exceptionTable.toList = tableOf (hh_of a b L) := vx_table (x := y) B (hts _ hcw)
  have hnn : hn_of L ≠ [] := by
    intro z
    rcases L with _ | ⟨q, L⟩
    · exact hL0 rfl
    · cases z
  rw [lg_entry_eq]
  refine exN_snd (C := 0) (S := 0) (dc := 0) (ds := 0) (zc := zc) (cps := some cps) (thw := []) (r := r) (hn := hn_of L) G hbs (Nat.zero_le _) (Nat.zero_le _) (fun pc q hq => List.all_eq_true.mp hchk _ (lkp_mem hq)) (hcal _ rfl rfl) ?_ n9 0 (pad maxL vs) [] h s.heap [] 0 0 _ hr (LR.entry hA hn) hW va_S.rf (Nat.zero_le _) (Nat.zero_le _)
  refine ⟨?_, ?_, ?_, ?_, ?_, ?_, ?_⟩
  · intro pc ls v g H locs cells slots hr9 hz hz2 hW9 hS9 hc hs hd
    subst hr9
    refine W.widen (k := 1) (n := 6) (by omega) (by omega) ?_
    obtain ⟨ty, y1, y2⟩ := nar_ok hret hz2 hz
    exact vx_ret (W.zret (ty := ty) B.exec B.bytes (by rw [hrt]; exact y1) y2 (fun t ht hWm => ⟨some (.int v), g, rfl, rfl, by rw [ht]; exact hW9.moved hWm.alike, hS9.F ht⟩) hS9.2.2 hd)
  · intro pc ls v g H locs cells slots hr9 hz
    omega
  · intro pc ls g H locs cells slots hr9 hz
    omega
  · intro pc b ls st g H locs cells slots hb9
    cases hb9
  · intro pc E cst ls st g H locs cells slots q ce h1 h2 hr9 hW9 hS9 hls hwf hc hs f1 f2 f3
    subst hr9
    obtain ⟨pre, hpc, ct, suf, e1, e2⟩ := lkp_split h1
    have hmem : (E, cst, hpc, ct) ∈ L := by rw [e1]; simp
    have h3 := List.all_eq_true.mp hH _ hmem
    have h4 := hlk _ hmem
    obtain ⟨hp1, hp2⟩ := hcps pc (h2 _ rfl)
    simp only [chkH, Bool.and_eq_true, Nat.blt_eq] at h3
    obtain ⟨⟨⟨⟨hz0, h50⟩, h5⟩, h6⟩, h7⟩ := h3
    obtain ⟨ty, y1, y2⟩ := nar_ok hret hzc hz0
    have hct : ct ≠ 0 := by
      intro z
      rw [z] at h6
      cases h6
    have hsplit : c.exceptionTable.toList = (tableOf (hh_of a b pre)) ++ ⟨a, b, hpc, ct⟩ :: tableOf (hh_of a b suf) := by
      rw [htab, e1]
      simp [tableOf, hh_of]
    refine vx_catch (own := own) (name := EN E) (E := EN E) hown _ _ _ hsplit ?_ ?_ hct (hts _ h4) (exw_at hEx.1 (exw_in E h5)) f1 f2 f3 ?_
    · intro z hz
      obtain ⟨z1, hz1, rfl⟩ := List.mem_map.mp hz
      obtain ⟨z2, hz2, rfl⟩ := List.mem_map.mp hz1
      have hz3 : z2 ∈ L := by rw [e1]; exact List.mem_append_left _ hz2
      have h8 := List.all_eq_true.mp hH _ hz3
      simp only [chkH, Bool.and_eq_true, Nat.blt_eq] at h8
      refine Or.inr ⟨?_, EN z2.1, hts _ (hlk _ hz3), exn_all hEx.2.1 _ _ h50 h5 h8.1.1.1.2 h8.1.1.2 (fun q => e2 z2 hz2 q.symm)⟩
      intro z
      have z9 : z2.2.2.2 = 0 := z
      rw [z9] at h8
      cases h8.1.2
    · show (decide (a ≤ pc) && decide (pc < b)) = true
      simp [hp1, hp2]
    · show W p l e _ s m _ below meth c H locs cells slots _ (F0 m hpc ls [.ref q])
      refine W.widen (k := 1) (n := 6) (by omega) (by omega) ?_
      have hls0 : lv_has ls maxL [] := ⟨hls, hwf, fun _ h => nomatch h⟩
      have fin : ∀ (pc9 : Nat) (ls9 : Array Slot), decode cc pc9 = .ok (.ireturn, 1) → W p l e (headSpec (Jvm.Cond.codeWith y cc maxL ret (hh_of a b L) :: WG) { frames := fr, cells := 1, slots := 6, locals := lo }).room s m (vs.map (tr base sb)).toArray below meth c H locs 1 6 (vx_MQ below (Qcw base sb D dA (.inl (some (.int cst), g))) (XCw base sb D dA (.inl (some (.int cst), g))) (vs.map (tr base sb)).toArray s 1 6 (Ab base)) (F0 m pc9 ls9 [.int cst]) := fun pc9 ls9 hd =>
        vx_ret (W.zret (ty := ty) B.exec B.bytes (by rw [hrt]; exact y1) y2 (fun t ht hWm => ⟨some (.int cst), g, rfl, rfl, by rw [ht]; exact hW9.moved hWm.alike, hS9.F ht⟩) hS9.2.2 hd)
      have h7' : (match decode cc hpc with
        | .ok (.astore_n k, 1) => Nat.blt k.val maxL && (match decode cc (hpc + 1) with
          | .ok (.iconst n, 1) => decide (Int32.ofInt n = cst) && decide (decode cc (hpc + 2) = .ok (.ireturn, 1))
          | _ => false)
        | .ok (.astore k, 2) => Nat.blt k maxL && (match decode cc (hpc + 2) with
          | .ok (.sipush n, 3) => decide ((Int16.ofInt n).toInt32 = cst) && decide (decode cc (hpc + 5) = .ok (.ireturn, 1))
          | _ => false)
        | _ => false) = true := h7
      split at h7'
      · rename_i k hk
        rw [Bool.and_eq_true, Nat.blt_eq] at h7'
        obtain ⟨g1, g2⟩ := h7'
        split at g2
        · rename_i n2 hn2
          simp only [Bool.and_eq_true, decide_eq_true_eq] at g2
          exact lv_astore_n B.exec B.bytes hk rfl hls0 g1 rfl (fun ls' _ => lv_iconst B.exec B.bytes hn2 g2.1 (fin _ _ g2.2))
        · cases g2
      · rename_i k hk
        rw [Bool.and_eq_true, Nat.blt_eq] at h7'
        obtain ⟨g1, g2⟩ := h7'
        split at g2
        · rename_i n2 hn2
          simp only [Bool.and_eq_true, decide_eq_true_eq] at g2
          exact lv_astore B.exec B.bytes hk hls0 g1 rfl (fun ls' _ => lv_sipush B.exec B.bytes hn2 g2.1 (fin _ _ g2.2))
        · cases g2
      · cases h7'
  · intro pc E ls st g H locs cells slots q ce h1
    exact absurd h1 hnn
  · intro h1
    rcases r with r | ⟨E, g⟩
    · exact ⟨Nat.le_refl 1, Nat.le_refl 6⟩
    · exact ⟨Nat.le_refl 1, Nat.le_refl 6⟩
/-! ===== methods that call what catches: their room is counted along their paths ===== -/
def sucI (sw : List (List Nat)) (pc len b c : Nat) : Instr → List Nat
  | .ifnull _ => [b, pc + len]
  | .if_icmp _ _ => [b, pc + len]
  | .ifCond _ _ => [b, pc + len]
  | .goto _ => [b]
  | .tableswitch _ _ _ _ => b :: nthS sw c
  | .ireturn => []
  | .areturn => []
  | .return_ => []
  | .new _ => []
  | _ => [pc + len]
theorem swt_congr {v : Int32} {k k2 : Nat → Res} {d : Res} : ∀ {ts : List Nat} {n : Nat}, (∀ t ∈ ts, k t = k2 t) → swt v n ts k d = swt v n ts k2 d
  | [], _, _ => rfl
  | t :: ts, n, h => by
    show (if v = Int32.ofNat n then k t else swt v (n + 1) ts k d) = if v = Int32.ofNat n then k2 t else swt v (n + 1) ts k2 d
    rw [h t List.mem_cons_self, swt_congr (fun z hz => h z (List.mem_cons_of_mem _ hz))]
section
variable (SKc SKn : Nat → Nat) (SKr : Nat → Nat → Nat) (CS : Nat → List Nat)
set_option maxHeartbeats 4000000 in
theorem stI_suc {cl : List Fn} {hn : List (Nat × Int32)} {sw : List (List Nat)} {i : Instr} {len b c d : Nat} {x : Int32} {K K2 : Kt} {pc : Nat} {ls st : List Value} {h : Hp} (hs : ∀ p ∈ sucI sw pc len b c i, ∀ ls st h, K p ls st h = K2 p ls st h) : stI SKc SKn SKr CS cl hn sw i len b c d x K pc ls st h = stI SKc SKn SKr CS cl hn sw i len b c d x K2 pc ls st h := by
  cases i with
  | tableswitch q1 q2 q3 q4 =>
    have hb := hs b (by simp [sucI])
    have ht : ∀ p ∈ nthS sw c, ∀ ls st h, K p ls st h = K2 p ls st h := fun p hp => hs p (by simp [sucI, hp])
    show pI st (fun v t => swt v 0 (nthS sw c) (fun tg => K tg ls t h) (K b ls t h)) = pI st (fun v t => swt v 0 (nthS sw c) (fun tg => K2 tg ls t h) (K2 b ls t h))
    congr 1
    funext v t
    rw [hb]
    exact swt_congr (fun p hp => ht p hp _ _ _)
  | goto q =>
    exact hs b (by simp [sucI]) _ _ _
  | ifnull q =>
    have hb := hs b (by simp [sucI])
    have hl := hs (pc + len) (by simp [sucI])
    simp only [stI, hb, hl]
  | if_icmp q q2 =>
    have hb := hs b (by simp [sucI])
    have hl := hs (pc + len) (by simp [sucI])
    simp only [stI, hb, hl]
  | ifCond q q2 =>
    have hb := hs b (by simp [sucI])
    have hl := hs (pc + len) (by simp [sucI])
    simp only [stI, hb, hl]
  | ireturn => rfl
  | areturn => rfl
  | return_ => rfl
  | new q => rfl
  | _ =>
    have hl := hs (pc + len) (by simp [sucI])
    simp only [stI, hl]
end
def costI (kst : Nat → Nat) (b : Nat) : Instr → Nat
  | .invokevirtual _ => kst b
  | .invokestatic _ => kst b
  | _ => 0
def potE (pot kst : Nat → Nat) (sw : List (List Nat)) (e : Nat × Ent) : Bool := match e with
  | (pc, _, i, len, b, c, _, _) => (sucI sw pc len b c i).all (fun p => Nat.ble (pot p + costI kst b i) (pot pc)) && Nat.ble (costI kst b i) (pot pc)
/-- by rows: so much ahead of such a place -/
def potL : List (Nat × Nat) → Nat → Nat
  | [], _ => 0
  | (p, v) :: t, pc => cond (Nat.blt pc p) v (potL t pc)
theorem chkI_cal {own : String} {nL zc : Nat} {sw : List (List Nat)} {cal cal2 : List (Nat × Nat × Nat × Nat × Nat)} {cps : Option (List Nat)} {thw : List (Nat × Nat)} {pc len b c d : Nat} {x : Int32} {i : Instr} (h : chkI own nL zc sw cal cps thw pc len b c d x i = true)
    (hv : ∀ k, i = .invokevirtual k → (0, k, b, c, d) ∈ cal → (0, k, b, c, d) ∈ cal2) (hs : ∀ k, i = .invokestatic k → (1, k, b, c, d) ∈ cal → (1, k, b, c, d) ∈ cal2) : chkI own nL zc sw cal2 cps thw pc len b c d x i = true := by
  cases i with
  | invokevirtual k =>
    simp only [chkI, Bool.and_eq_true, decide_eq_true_eq] at h ⊢
    exact ⟨⟨h.1.1, hv k rfl h.1.2⟩, h.2⟩
  | invokestatic k =>
    simp only [chkI, Bool.and_eq_true, decide_eq_true_eq] at h ⊢
    exact ⟨⟨h.1.1, hs k rfl h.1.2⟩, h.2⟩
  | _ => exact h
section POT
variable {SL : List StrT} {p : Program} {l : Launch} {e : Env} {R : Room} {s : State} {m : MethodId} {args : Array Value} {below : List Frame} {meth : Method} {c : Code} {cc : ByteArray} {nL : Nat} {own : String} {base sb : Nat} {D : va_G} {dA : Nat → ClassId} {Q : State → Prop}
theorem Ends.mono {C S C2 S2 zc : Nat} {hn : List (Nat × Int32)} {cps : Option (List Nat)} {thw : List (Nat × Nat)} {r : (Option Value × Hp) ⊕ (Nat × Hp)} (h : Ends p l e R s m args below meth c Q cc nL base sb D dA C S zc hn cps thw r) (h1 : C2 ≤ C) (h2 : S2 ≤ S) : Ends p l e R s m args below meth c Q cc nL base sb D dA C2 S2 zc hn cps thw r := by
  obtain ⟨e1, e2, e3, e4, e5, e6, e7⟩ := h
  refine ⟨?_, ?_, ?_, ?_, ?_, ?_, ?_⟩
  · intro pc ls v h H locs cells slots a1 a2 a3 a4 a5 a6 a7
    exact e1 pc ls v h H locs cells slots a1 a2 a3 a4 a5 (by omega) (by omega)
  · intro pc ls v h H locs cells slots a1 a2 a4 a5 a6 a7
    exact e2 pc ls v h H locs cells slots a1 a2 a4 a5 (by omega) (by omega)
  · intro pc ls h H locs cells slots a1 a2 a4 a5 a6 a7
    exact e3 pc ls h H locs cells slots a1 a2 a4 a5 (by omega) (by omega)
  · intro pc b ls st h H locs cells slots a1 a2 a3 a4 a5 a6 a7 a8
    exact e4 pc b ls st h H locs cells slots a1 a2 a3 a4 a5 a6 (by omega) (by omega)
  · intro pc E cst ls st h H locs cells slots q ce a1 a2 a3 a4 a5 a6 a7 a8 a9
    exact e5 pc E cst ls st h H locs cells slots q ce a1 a2 a3 a4 a5 a6 a7 (by omega) (by omega)
  · intro pc E ls st h H locs cells slots q ce a1 a2 a3 a4 a5 a6
    exact e6 pc E ls st h H locs cells slots q ce a1 a2 a3 a4 (by omega) (by omega)
  · intro q
    have := e7 q
    omega
theorem exP_snd {C S zc : Nat} {r : (Option Value × Hp) ⊕ (Nat × Hp)} {ft : Nat → Option Ent} {cl : List Fn} {hn : List (Nat × Int32)} {sw : List (List Nat)} {cal : List (Nat × Nat × Nat × Nat × Nat)} {cps : Option (List Nat)} {thw : List (Nat × Nat)} {pot kst : Nat → Nat}
    (G : Cx SL p s m args c cc nL own D dA) (hbs : base ≤ s.heap.size) (hC : C ≤ R.cells) (hS9 : S ≤ R.slots)
    (hft : ∀ pc q, ft pc = some q → chkE own cc nL zc sw cal cps thw (pc, q) = true) (hpt : ∀ pc q, ft pc = some q → potE pot kst sw (pc, q) = true)
    (hcal : ∀ q ∈ cal, CallOK SL l R own (insC q) (q.2.2.2.1 / 4) q.2.2.2.2 (nthF cl q.2.2.1) (kst q.2.2.1) (6 * kst q.2.2.1)) (hE : Ends p l e R s m args below meth c Q cc nL base sb D dA C S zc hn cps thw r) :
    ∀ (n pc : Nat) (lA stA : List Value) (h : Hp) (H : Heap) (locs : List Loc) (cells slots : Nat) (ls : Array Slot), exN SKc SKn SKr CS ft cl hn sw n pc lA stA h = some r → LR base sb ls nL lA → Wd base sb D dA h s H → va_S (Ab base) s.heap H locs → cells + pot pc ≤ C → slots + 6 * pot pc ≤ S →
      W p l e R s m args below meth c H locs cells slots Q (F0 m pc ls (stA.map (tr base sb))) := by
  intro n
  induction n with
  | zero => intro pc lA stA h H locs cells slots ls hr; cases hr
  | succ n ih =>
    intro pc lA stA h H locs cells slots ls hr hL hW hS h1 h2
    have hr2 : stp SKc SKn SKr CS ft cl hn sw (exN SKc SKn SKr CS ft cl hn sw n) pc lA stA h = some r := hr
    unfold stp at hr2
    cases e9 : ft pc with
    | none => rw [e9] at hr2; cases hr2
    | some q =>
      rw [e9] at hr2
      obtain ⟨mk, i, len, b, c9, d, x⟩ := q
      have h3 := hft pc _ e9
      simp only [chkE, Bool.and_eq_true, decide_eq_true_eq] at h3
      have h4 := hpt pc _ e9
      simp only [potE, Bool.and_eq_true, Nat.ble_eq] at h4
      obtain ⟨h4, h5⟩ := h4
      have h6 : ∀ z ∈ sucI sw pc len b c9 i, pot z ≤ pot pc - costI kst b i := by
        intro z hz
        have := Nat.ble_eq.mp (List.all_eq_true.mp h4 z hz)
        omega
      have hK2 : ∀ z ∈ sucI sw pc len b c9 i, ∀ ls st h, exN SKc SKn SKr CS ft cl hn sw n z ls st h = (fun (z : Nat) (ls st : List Value) (h : Hp) => if pot z ≤ pot pc - costI kst b i then exN SKc SKn SKr CS ft cl hn sw n z ls st h else (none : Res)) z ls st h := by
        intro z hz ls st h
        show _ = if pot z ≤ pot pc - costI kst b i then exN SKc SKn SKr CS ft cl hn sw n z ls st h else (none : Res)
        rw [if_pos (h6 z hz)]
      have hr3 : stI SKc SKn SKr CS cl hn sw i len b c9 d x (exN SKc SKn SKr CS ft cl hn sw n) pc (kl mk lA) stA h = some r := hr2
      rw [stI_suc SKc SKn SKr CS hK2] at hr3
      have hS2 : Snd p l e R s m args below meth c Q nL base sb D dA (C - (pot pc - costI kst b i)) (S - 6 * (pot pc - costI kst b i)) (costI kst b i) (6 * costI kst b i) 0 r (fun (z : Nat) (ls st : List Value) (h : Hp) => if pot z ≤ pot pc - costI kst b i then exN SKc SKn SKr CS ft cl hn sw n z ls st h else (none : Res)) := by
        intro pc2 lA2 stA2 g H2 locs2 cells2 slots2 ls2 hr4 hL2 hW2 hS2 j1 j2
        have hr5 : (if pot pc2 ≤ pot pc - costI kst b i then exN SKc SKn SKr CS ft cl hn sw n pc2 lA2 stA2 g else (none : Res)) = some r := hr4
        by_cases c1 : pot pc2 ≤ pot pc - costI kst b i
        · rw [if_pos c1] at hr5
          exact ih _ _ _ _ _ _ _ _ _ hr5 hL2 hW2 hS2 (by omega) (by omega)
        · rw [if_neg c1] at hr5
          cases hr5
      refine stI_snd (cal := cal.filter (fun q => decide (kst q.2.2.1 = costI kst b i))) (cps := cps) (thw := thw) (zc := zc) (n := 0) G hbs (Nat.le_trans (Nat.sub_le _ _) hC) (Nat.le_trans (Nat.sub_le _ _) hS9) hS2 (fun q hq => ?_) (hE.mono (Nat.sub_le _ _) (Nat.sub_le _ _)) h3.1 (chkI_cal h3.2 ?_ ?_) hr3 (hL.kl mk) hW hS (by omega) (by omega)
      · obtain ⟨q1, q2⟩ := List.mem_filter.mp hq
        have q3 := of_decide_eq_true q2
        have q4 := hcal q q1
        rw [q3] at q4
        exact q4
      · intro k hk hm
        refine List.mem_filter.mpr ⟨hm, decide_eq_true ?_⟩
        rw [hk]
        rfl
      · intro k hk hm
        refine List.mem_filter.mpr ⟨hm, decide_eq_true ?_⟩
        rw [hk]
        rfl
end POT
/-- what doesn't throw -/
def nxR (r : Res) : Res := match r with
  | some (.inl q) => some (.inl q)
  | _ => none
theorem nxR_r {v : Option Value} {h : Hp} : nxR (rtn v h) = rtn v h := rfl
theorem nxR_inv {x : Res} {r : (Option Value × Hp) ⊕ (Nat × Hp)} (h : nxR x = some r) : x = some r ∧ ∃ q, r = .inl q := by
  rcases x with _ | ⟨q⟩ | ⟨q⟩
  · cases h
  · cases h
    exact ⟨rfl, q, rfl⟩
  · cases h
set_option maxHeartbeats 4000000 in
theorem con_ofP {SL : List StrT} {l : Launch} {own : String} {y : MethodName} {cc : ByteArray} {maxL n zc fr lo C : Nat} {ret : Option FieldType} {T : List (Nat × Ent)} {cl : List Fn} {sw : List (List Nat)} {cal : List (Nat × Nat × Nat × Nat × Nat)} {pot kst : Nat → Nat}
    (hy : plainName y.cls = true) (hcls : y.cls = own) (hn : n ≤ maxL) (hret : retOK zc ret) (hchk : T.all (chkE own cc maxL zc sw cal none []) = true) (hpot : T.all (potE pot kst sw) = true) (hC : pot 0 = C)
    (hcal : ∀ R : Room, R.frames = fr → R.locals = lo → ∀ q ∈ cal, CallOK SL l R own (insC q) (q.2.2.2.1 / 4) q.2.2.2.2 (nthF cl q.2.2.1) (kst q.2.2.1) (6 * kst q.2.2.1)) :
    Con SL l y (.code y cc maxL ret) (fun as h => nxR (gd (chkA n as) (exL SKc SKn SKr CS (lkp T) cl [] sw 0 (pad maxL as) [] h))) fr lo C (6 * C) := by
  intro base sb D dA vs h r hr
  obtain ⟨hr, ⟨rq, rfl⟩⟩ := nxR_inv hr
  obtain ⟨hA, hr⟩ := gd_inv hr
  obtain ⟨n9, hr⟩ := exL_to SKc SKn SKr CS (lkp T) cl [] sw hr
  refine vx_ofW hy rfl ?_
  intro p e s m args below meth c s₁ B hml htab hv
  obtain ⟨rfl, hbs, hW, hKn, hEx⟩ := hv
  have hts : ∀ w ∈ WG, w.before (vs.map (tr base sb)).toArray s = true := fun w hw => atoms_spec (ws := Jvm.Cond.code y cc maxL ret :: WG) B.pre w (List.mem_cons_of_mem _ hw)
  have hown : s.vm.findClass own = some m.cls := by rw [← hcls]; exact findClass_of_methodNamed B.named
  have hlocks := B.notSynchronized
  have G : Cx SL p s m (vs.map (tr base sb)).toArray c cc maxL own D dA := ⟨B.exec, B.bytes, hml, hown, hts, hKn, hEx⟩
  have hrt := B.returns
  rw [lg_entry_eq]
  refine exP_snd (C := C) (S := 6 * C) (zc := zc) (cps := none) (thw := []) (r := .inl rq) (hn := []) (pot := pot) (kst := kst) (cal := cal) G hbs (Nat.le_refl C) (Nat.le_refl (6 * C)) (fun pc q hq => List.all_eq_true.mp hchk _ (lkp_mem hq)) (fun pc q hq => List.all_eq_true.mp hpot _ (lkp_mem hq)) (hcal _ rfl rfl) ?_ n9 0 (pad maxL vs) [] h s.heap [] 0 0 _ hr (LR.entry hA hn) hW va_S.rf (by omega) (by omega)
  refine ⟨?_, ?_, ?_, ?_, ?_, ?_, ?_⟩
  · intro pc ls v g H locs cells slots hr9 hz hz2 hW9 hS9 hc hs hd
    cases hr9
    obtain ⟨ty, h1, h2⟩ := nar_ok hret hz2 hz
    refine W.widen (k := C) (n := 6 * C) hc hs ?_
    exact vx_ret (W.zret (ty := ty) B.exec B.bytes (by rw [hrt]; exact h1) h2 (fun t ht hWm => ⟨some (.int v), g, rfl, rfl, by rw [ht]; exact hW9.moved hWm.alike, hS9.F ht⟩) hS9.2.2 hd)
  · intro pc ls v g H locs cells slots hr9 hz hW9 hS9 hc hs hd
    cases hr9
    subst hz
    obtain ⟨nm, h1⟩ := hret
    refine W.widen (k := C) (n := 6 * C) hc hs ?_
    exact vx_ret (W.aret (rt := .object nm) B.exec B.bytes (by rw [hrt]; exact h1) (Or.inl ⟨nm, rfl⟩) (Or.inr ⟨_, rfl⟩) (fun t ht hWm => ⟨some (.ref v), g, rfl, rfl, by rw [ht]; exact hW9.moved hWm.alike, hS9.F ht⟩) hS9.2.2 hd)
  · intro pc ls g H locs cells slots hr9 hz hW9 hS9 hc hs hd
    cases hr9
    subst hz
    have h1 : ret = none := hret
    refine W.widen (k := C) (n := 6 * C) hc hs ?_
    exact vx_ret (W.vret B.exec B.bytes (by rw [hrt]; exact h1) (fun t ht hWm => ⟨none, g, rfl, rfl, by rw [ht]; exact hW9.moved hWm.alike, hS9.F ht⟩) hS9.2.2 hd)
  · intro pc b ls st g H locs cells slots hb9
    cases hb9
  · intro pc E cst ls st g H locs cells slots q ce h1
    cases h1
  · intro pc E ls st g H locs cells slots q ce h1 hr9
    cases hr9
  · intro h1
    rcases h1 with ⟨q, hq⟩ | h1
    · cases hq
    · exact absurd rfl h1
