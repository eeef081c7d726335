/-! ===== the law, from its entry ===== -/
theorem callOK_up {SL : List StrT} {l : Launch} {R : Room} {own : String} {i : Instr} {n d : Nat} {F : Fn} (h : CallOK SL l R own i n d F 0 0) : CallOK SL l R own i n d F 1 6 := by
  intro p e s m args below meth c cc nL base sb D dA Q H locs cells slots pc ls rest vs hp G hdec hls hlen hrc hcat hW hS hbs hc1 hc2 hF k1 k2
  exact h p e s m args below meth c cc nL base sb D dA Q H locs cells slots pc ls rest vs hp G hdec hls hlen hrc hcat hW hS hbs (by omega) (by omega) hF (fun v g q H' locs' hW' hS' => W.widen (Nat.le_add_right _ _) (Nat.le_add_right _ _) (k1 v g q H' locs' hW' hS')) k2
theorem arrV_congr {cA : ClassId} {n : Nat} {f g : Nat → Value} (h : ∀ j, j < n → f j = g j) : arrV cA n f = arrV cA n g := by
  unfold arrV
  congr 2
  funext j
  exact h j.val j.isLt
theorem arrT_prim {args : Array Value} {s : State} {ty : FieldType} (hne : ∀ C, ty ≠ .object C) (h : (Cond.arrayClass ty).before args s = true) : ∃ cA, ArrOfT s cA ty ∧ va_RA s cA ty := by
  obtain ⟨c, k, comp, h1, h2, h3⟩ := Cond.arrayClass_spec h
  refine ⟨c, fun n z => ⟨fun k h => (by cases h), k, h2, comp, h3⟩, ?_⟩
  cases ty <;> first | exact h1 | exact absurd rfl (hne _)
theorem arrT_obj {args : Array Value} {s : State} {C : String} (h : (Cond.arrayOver (.object C)).before args s = true) : ∃ cA, ArrOfT s cA (.object C) ∧ va_RA s cA (.object C) := by
  obtain ⟨comp, c, k, h1, h2, h3, h4, h5⟩ := Cond.arrayOver_spec h
  exact ⟨c, fun n z => ⟨fun k h => (by cases h), k, h3, comp, h4⟩, k, comp, h3, h4, h1, h5⟩
def TYL : List FieldType := [.int, .int, .int, .object "SlotConference$Airport", .object "SlotConference$Rule", .object "SlotConference$Request", .object "SlotConference$Series", .object "SlotConference$Right"]
def instOK (ci : Nat) : Bool := match vwCl[ci]? with
  | some (C, _, N) => decide (Jvm.Cond.instantiable C N ∈ WG)
  | none => true
theorem instOK_all : (List.range 7).all instOK = true := by decide +kernel
theorem ao_in : ∀ C ∈ AOL, Jvm.Cond.arrayOver (.object C) ∈ lw_tbl := by decide +kernel
theorem nw_in : ∀ q ∈ NWL, Jvm.Cond.methodLinkNest q.1 q.2.1 q.2.2.1 q.2.2.2 ∈ lw_tbl := by decide +kernel
theorem exw_tbl : ∀ w ∈ EXW, w ∈ lw_tbl := by decide +kernel
theorem slt_tbl : ∀ q ∈ SLT, Jvm.Cond.stringRef q.1 q.2.1 q.2.2 ∈ lw_tbl := by decide +kernel
section WORLD
variable {s : State} {args : Array Value}
theorem law_K (hts : ∀ w ∈ lw_tbl, w.before args s = true) : ∃ (D : va_G) (dA : Nat → ClassId), va_K D vwCl (tys dA) s := by
  have hC : ∀ ci : Nat, ∃ p : ClassId × (Nat → Nat), ∀ q, vwCl[ci]? = some q → u_Kn s q.1 q.2.1 q.2.2 p.1 p.2 := by
    intro ci
    cases e : vwCl[ci]? with
    | none => exact ⟨(0, fun _ => 0), fun q h => by cases h⟩
    | some r =>
      obtain ⟨C, T, N⟩ := r
      obtain ⟨h1, h2, h3, -⟩ := cl_ok e
      have hi : Jvm.Cond.instantiable C N ∈ WG := by
        have h4 := (List.all_eq_true.mp instOK_all) ci (List.mem_range.mpr h1)
        unfold instOK at h4
        rw [e] at h4
        exact of_decide_eq_true h4
      obtain ⟨cC, iS, h5⟩ := u_known (C := C) (T := T) (N := N) (n := N) (ws := WG) (fun w hw => hts w (wg_tbl w hw)) h3 (hts _ (wg_tbl _ hi))
      exact ⟨(cC, iS), fun q hq => by cases hq; exact h5⟩
  obtain ⟨f, hf⟩ := Classical.axiomOfChoice hC
  have hA : ∀ k : Nat, ∃ cA : ClassId, ∀ ty, TYL[k]? = some ty → ArrOfT s cA ty ∧ va_RA s cA ty := by
    intro k
    have pr : ∀ ty : FieldType, (∃ cA, ArrOfT s cA ty ∧ va_RA s cA ty) → ∃ cA : ClassId, ∀ ty2, some ty = some ty2 → ArrOfT s cA ty2 ∧ va_RA s cA ty2 := by
      rintro ty ⟨cA, h⟩
      exact ⟨cA, fun ty2 h2 => by cases h2; exact h⟩
    match k with
    | 0 => exact pr .int (arrT_prim (fun C h => by cases h) (hts _ (wg_tbl _ arr_words)))
    | 1 => exact pr .int (arrT_prim (fun C h => by cases h) (hts _ (wg_tbl _ arr_words)))
    | 2 => exact pr .int (arrT_prim (fun C h => by cases h) (hts _ (wg_tbl _ arr_words)))
    | 3 => exact pr _ (arrT_obj (hts _ (ao_in _ (by simp [AOL]))))
    | 4 => exact pr _ (arrT_obj (hts _ (ao_in _ (by simp [AOL]))))
    | 5 => exact pr _ (arrT_obj (hts _ (ao_in _ (by simp [AOL]))))
    | 6 => exact pr _ (arrT_obj (hts _ (ao_in _ (by simp [AOL]))))
    | 7 => exact pr _ (arrT_obj (hts _ (ao_in _ (by simp [AOL]))))
    | k + 8 => exact ⟨0, fun ty h => by simp [TYL] at h⟩
  obtain ⟨dA, hdA⟩ := Classical.axiomOfChoice hA
  refine ⟨(fun c => (f c).1, fun c => (f c).2), dA, fun c q hq => hf c q hq, fun k q hq => ?_⟩
  match k, hq with
  | 0, hq => cases hq; exact hdA 0 _ rfl
  | 1, hq => cases hq; exact hdA 1 _ rfl
  | 2, hq => cases hq; exact hdA 2 _ rfl
  | 3, hq => cases hq; exact hdA 3 _ rfl
  | 4, hq => cases hq; exact hdA 4 _ rfl
  | 5, hq => cases hq; exact hdA 5 _ rfl
  | 6, hq => cases hq; exact hdA 6 _ rfl
  | 7, hq => cases hq; exact hdA 7 _ rfl
  | k + 8, hq => simp [tys] at hq
theorem law_N (hts : ∀ w ∈ lw_tbl, w.before args s = true) : CxN NWL s :=
  ⟨fun C hC => va_AO.of (hts _ (ao_in C hC)), fun q hq => va_Nw.of rfl (hts _ (nw_in q hq))⟩
theorem law_S (hts : ∀ w ∈ lw_tbl, w.before args s = true) : vz_S SLT s := by
  intro q hq
  have h := hts _ (slt_tbl q hq)
  have hcur : ∃ cur, s.vm.findClass q.1 = some cur := by
    have h2 : q.1 = "SlotConference" ∨ q.1 = "SlotConference$Airport" := by
      have : ∀ q ∈ SLT, q.1 = "SlotConference" ∨ q.1 = "SlotConference$Airport" := by decide +kernel
      exact this q hq
    rcases h2 with e | e
    · obtain ⟨cC, kC, hfc, -⟩ := Cond.instantiable_spec (hts (.instantiable "SlotConference" 15) (by decide +kernel))
      exact ⟨cC, by rw [e]; exact hfc⟩
    · obtain ⟨cC, kC, hfc, -⟩ := Cond.instantiable_spec (hts (.instantiable "SlotConference$Airport" 6) (by decide +kernel))
      exact ⟨cC, by rw [e]; exact hfc⟩
  obtain ⟨cur, hcur⟩ := hcur
  obtain ⟨k, cf, i, a, -, -, -, -, -, h6⟩ := Cond.stringRef_spec hcur h
  exact ⟨a, vk_R.of h h6⟩
theorem law_Ex0 (hts : ∀ w ∈ lw_tbl, w.before args s = true) (hg : (Jvm.Cond.and given_1 narrow_1).before args s = true) : Ex0 SLT s := by
  have hs := flat_of_before _ hg
  refine ⟨fun w hw => va_Nw.of ?_ (hts _ (exw_tbl w hw)), ⟨va_Nc.of (args := args) (hs _ (by decide +kernel)), va_Nc.of (args := args) (hs _ (by decide +kernel))⟩, law_S hts⟩
  simp only [EXW, List.mem_cons, List.not_mem_nil, or_false] at hw
  rcases hw with rfl | rfl | rfl | rfl | rfl | rfl <;> rfl
theorem law_Ex1 (hts : ∀ w ∈ lw_tbl, w.before args s = true) (hg : (Jvm.Cond.and given_1 narrow_1).before args s = true) : Ex1 (Ab s.heap.size) s s.heap := by
  have hs := flat_of_before _ hg
  have hA : ∀ a : Nat, a < s.heap.size → ¬ Ab s.heap.size a := fun a h h2 => absurd h2 (Nat.not_le.mpr h)
  exact ⟨vx_Zqof (hts _ (by decide +kernel)) (hts _ (by decide +kernel)) (hs _ (by decide +kernel)) hA, vx_Zqof (hts _ (by decide +kernel)) (hts _ (by decide +kernel)) (hs _ (by decide +kernel)) hA⟩
end WORLD
