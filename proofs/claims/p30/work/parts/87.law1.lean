set_option maxRecDepth 100000 in
theorem kC_L : CT_L.all (chkC RL code 6 [(148, 1, 0)]) = true := by decide +kernel
def CLC : List CF := [C_obj, C_X6]
theorem hcal_L {l : Launch} {R : Room} (h1 : R.frames = 18) (h2 : R.locals = 768) : ∀ q ∈ ([(148, 1, 0)] : List (Nat × Nat × Nat)), CallC NWL l R RL q.1 q.2.2 (nthC CLC q.2.1) := by
  intro q hq
  simp only [List.mem_cons, List.not_mem_nil, or_false] at hq
  rcases hq with rfl
  · exact callC_of (conC_X6) (by decide +kernel) rfl (by decide +kernel) (by rw [h1, h2]; decide)
theorem CLC_mono : ∀ F ∈ CLC, CMono F := fun F hF => by
  simp only [CLC, List.mem_cons, List.not_mem_nil, or_false] at hF
  rcases hF with rfl | rfl
  · exact cobj_mono
  · exact mC_X6
/-! from the law's entry to its loop -/
def h0L (xs : Nat → Int32) (L : Nat) : Hp := (fun a k => match Nat.beq a 1000 with
  | true => xs k
  | false => match Nat.beq a 1001 with
    | true => Int32.ofNat L
    | false => ini a k, fun _ => 0)
theorem h0L_in {xs : Nat → Int32} {L a k : Nat} (ha : a < 228) : rd (h0L xs L) a k = ini a k := by
  show (match Nat.beq a 1000 with
    | true => xs k
    | false => match Nat.beq a 1001 with
      | true => Int32.ofNat L
      | false => ini a k) = ini a k
  rw [show Nat.beq a 1000 = false from by rw [Bool.eq_false_iff]; intro z; exact ne_big ha (show 228 ≤ 1000 by decide) (Nat.eq_of_beq_eq_true z).symm, show Nat.beq a 1001 = false from by rw [Bool.eq_false_iff]; intro z; exact ne_big ha (show 228 ≤ 1001 by decide) (Nat.eq_of_beq_eq_true z).symm]
def iniOK (a : Nat) : Bool := Nat.blt (SKc a) 18 && ((List.range (SKn a)).all fun k => match (rfk (SKc a) k && Nat.blt (SKc a) 10) || Nat.ble 13 (SKc a) with
  | true => decide (ini a k = 1)
  | false => true)
theorem iniOK_all : (List.range 228).all iniOK = true := by decide +kernel
theorem ini_one {a k : Nat} (ha : a < 228) (hk : k < SKn a) (h : (rfk (SKc a) k = true ∧ SKc a < 10) ∨ 13 ≤ SKc a) : ini a k = 1 := by
  have h1 := (List.all_eq_true.mp iniOK_all) a (List.mem_range.mpr ha)
  unfold iniOK at h1
  rw [Bool.and_eq_true] at h1
  have h2 := (List.all_eq_true.mp h1.2) k (List.mem_range.mpr hk)
  have h3 : ((rfk (SKc a) k && Nat.blt (SKc a) 10) || Nat.ble 13 (SKc a)) = true := by
    rcases h with ⟨q1, q2⟩ | q
    · rw [q1, show Nat.blt (SKc a) 10 = true from Nat.blt_eq.mpr q2]
      rfl
    · rw [show Nat.ble 13 (SKc a) = true from Nat.ble_eq.mpr q]
      exact Bool.or_true _
  rw [h3] at h2
  exact of_decide_eq_true h2
theorem skc_18 {a : Nat} (ha : a < 228) : SKc a < 18 := by
  have h1 := (List.all_eq_true.mp iniOK_all) a (List.mem_range.mpr ha)
  unfold iniOK at h1
  rw [Bool.and_eq_true] at h1
  exact Nat.blt_eq.mp h1.1
theorem wd_start {base L : Nat} {D : va_G} {dA : Nat → ClassId} {g : CH} {H : Heap} {xs : Nat → Int32} (hP : va_P D vwCl (wdC base dA g) H) (hg : g.1 = 228) (hi : ∀ a, a < 228 → ∀ k, k < SKn a → g.2 a k = ini a k) : va_P D vwCl (wd base dA (h0L xs L)) H := by
  intro k q hq0
  obtain ⟨hk, hq1⟩ := wd_of hq0
  subst hq1
  clear hq0
  have h1 := hP k _ (wdC_get (by rw [hg]; exact hk))
  have h18 := skc_18 hk
  by_cases c1 : SKc k < 10
  · rw [entC_obj c1] at h1
    rw [entE_obj c1]
    have e : (List.range (SKn k)).map (valE base (h0L xs L) k (SKc k)) = (List.range (SKn k)).map (valC base g k (SKc k)) := by
      refine List.map_congr_left fun j hj => ?_
      have hj2 := List.mem_range.mp hj
      unfold valE valC
      rw [h0L_in hk, hi k hk j hj2]
      cases e9 : rfk (SKc k) j with
      | false => rfl
      | true =>
        rw [ini_one hk hj2 (Or.inl ⟨e9, c1⟩)]
        rfl
    rw [e]
    exact h1
  · by_cases c2 : SKc k < 12
    · have c3 : SKc k = 10 ∨ SKc k = 11 := by omega
      rw [entC_int c3] at h1
      rw [entE_int c3]
      have h2 : H[base + k]? = some (vp_cell (dA (SKc k - 10)) (SKn k, .inl (fun j => g.2 k j))) := h1
      show H[base + k]? = some (vp_cell (dA (SKc k - 10)) (SKn k, .inl (fun j => rd (h0L xs L) k j)))
      rw [h2, vp_cell_i, vp_cell_i]
      congr 1
      refine arrV_congr fun j hj => ?_
      rw [h0L_in hk, hi k hk j hj]
    · by_cases c4 : SKc k = 12
      · rw [entC_lng c4] at h1
        rw [entE_lng c4]
        exact h1
      · rw [entC_ref (by omega)] at h1
        rw [entE_ref (by omega)]
        have h2 : H[base + k]? = some (vp_cell (dA (SKc k - 10)) (SKn k, .inr (.inr (.inr (.inr (fun j => match decide (g.2 k j = 0) with
          | true => none
          | false => some (base + SKr k j))))))) := h1
        show H[base + k]? = some (vp_cell (dA (SKc k - 10)) (SKn k, .inr (.inr (.inr (.inr (fun j => some (base + SKr k j)))))))
        rw [h2, vp_cell_q, vp_cell_q]
        congr 1
        refine arrV_congr fun j hj => ?_
        rw [hi k hk j hj, ini_one hk hj (Or.inr (by omega))]
        rfl
theorem law_made : ∃ g : CH, exC (lkp CT_L) CLC 13 40 0 (pad 6 [.ref 1000]) [] hz0 = some ([.ref 1000, .ref 0, .ref 227, .retAddr 0, .retAddr 0, .retAddr 0], g) ∧ g.1 = 228 ∧ ∀ a, a < 228 → ∀ k, k < SKn a → g.2 a k = ini a k := by
  have h := law_begins
  unfold lawOK at h
  cases e : lawC hz0 with
  | none => rw [e] at h; cases h
  | some q =>
    obtain ⟨ls, g⟩ := q
    rw [e] at h
    simp only [Bool.and_eq_true, decide_eq_true_eq, Nat.beq_eq] at h
    obtain ⟨⟨h1, h2⟩, h3⟩ := h
    subst h1
    refine ⟨g, e, h2, fun a ha k hk => ?_⟩
    exact of_decide_eq_true ((List.all_eq_true.mp ((List.all_eq_true.mp h3) a (List.mem_range.mpr ha))) k (List.mem_range.mpr hk))
def noRP (i : Instr) : Bool := match i with
  | .return_ => false
  | .putfield _ => false
  | _ => true
theorem noRP_L : CT_L.all (fun e => noRP e.2.2.1) = true := by decide +kernel
theorem sl_228 : sl 228 ≤ 100000 := by decide +kernel
set_option maxHeartbeats 4000000 in
set_option maxRecDepth 100000 in
theorem law_from {p : Program} {l : Launch} {e : Env} {s : State} {m : MethodId} {below : List Frame} {meth : Method} {c : Code} {b L n : Nat} {xs : Nat → Int32} {Q : State → Prop} {g9 : Hp}
    (hx : p.tables.exec = Jvm.exec) (hb : c.code = code) (hml : c.maxLocals = 6) (hown : s.vm.findClass RL = some m.cls) (hts : ∀ w ∈ lw_tbl, w.before #[Value.ref b] s = true) (hX : va_X b L xs s s.heap) (hbl : b < s.heap.size) (hgv : (Jvm.Cond.and given_1 narrow_1).before #[Value.ref b] s = true) (hl : l.stackTraces = false) (hL : L ≤ 260)
    (hn : n ≤ 100000) (hp : f_L_law_13 n (h0L xs L) = some (.inl (some (.int 1), g9)))
    (hret : ∀ (pc : Nat) (ls : Array Slot) (H : Heap), decode code pc = .ok (.ireturn, 1) → W p l e room_1 s m #[Value.ref b] below meth c H [] 600052 7301782 Q (F0 m pc ls [.int 1])) :
    W p l e room_1 s m #[Value.ref b] below meth c s.heap [] 0 0 Q (entryFrame m ([Value.ref b] : List Value).toArray 6) := by
  obtain ⟨D, dA, hK⟩ := law_K hts
  have G1 : CxC NWL p s m #[Value.ref b] c code 6 RL D dA := ⟨hx, hb, hml, hown, fun w hw => hts w (wg_tbl w hw), hK, law_N hts⟩
  have G2 : Cx SLT p s m #[Value.ref b] c code 6 RL D dA := ⟨hx, hb, hml, hown, fun w hw => hts w (wg_tbl w hw), hK, law_Ex0 hts hgv⟩
  have hW0 : Wc s.heap.size D dA hz0 s.heap := ⟨fun k q h => by simp [wdC, hz0] at h, rfl, Nat.zero_le _⟩
  have hLR := LR.entry (base := s.heap.size) (sb := b) (nL := 6) (n := 1) (vs := [.ref 1000]) rfl (by decide)
  rw [show [Value.ref 1000].map (tr s.heap.size b) = [.ref b] from rfl] at hLR
  obtain ⟨g, hrun, hg1, hg2⟩ := law_made
  rw [lg_entry_eq]
  have hs1 := sl_228
  refine exC_snd (NW := NWL) (R := room_1) (sb := b) (ft := lkp CT_L) (cl := CLC) (stop := 13) (n0 := 0) (cal := [(148, 1, 0)]) (lsE := [.ref 1000, .ref 0, .ref 227, .retAddr 0, .retAddr 0, .retAddr 0]) (g := g) (nthC_mono CLC_mono) G1 (Nat.le_refl _) (by rw [hg1]; decide) (by rw [hg1]; exact Nat.le_trans (Nat.sub_le _ _) (Nat.le_trans hs1 (by decide))) (fun _ => trivial) (fun pc q hq => List.all_eq_true.mp kC_L _ (lkp_mem hq)) ?_ (hcal_L rfl rfl) ?_ 40 0 _ [] hz0 s.heap [] _ hrun (Nat.le_refl _) hLR hW0 va_S.rf
  · rintro ⟨pc, q, k, h1, h2⟩
    have h3 := List.all_eq_true.mp noRP_L _ (lkp_mem h1)
    obtain ⟨mk, i, q⟩ := q
    have h2' : i = .putfield k := h2
    subst h2'
    cases h3
  · refine ⟨fun ls H locs h9 hL9 hW9 hS9 => ?_, fun pc ls H locs _ _ _ ⟨q, h1, h2⟩ => ?_⟩
    · have hXH : va_X b L xs s H := va_X.kept hX (hS9.2.1 b hbl (Nat.not_le.mpr hbl))
      have hE1 := law_Ex1 hts hgv
      have hWd : Wd s.heap.size b D dA (h0L xs L) s H := by
        refine ⟨wd_start hW9.1 hg1 hg2, ?_, hbl, hE1.1.kept (fun q hq hA => hS9.2.1 q hq hA), hE1.2.kept (fun q hq hA => hS9.2.1 q hq hA)⟩
        rw [show (rd (h0L xs L) SCRB 0).toNatClampNeg = L from nI_clamp (n := L) (by omega)]
        exact hXH
      rw [hg1]
      refine exN_snd (C := 600052) (S := 7301782) (dc := 2) (ds := 12) (zc := 1) (cps := none) (thw := []) (hn := []) (sw := SW_L) (cal := CAL_L) (cl := CL_L) (ft := lk2 T_L_law) (r := .inl (some (.int 1), g9)) G2 (Nat.le_refl _) (by decide) (by decide) (fun pc q hq => by
        obtain ⟨t, h1, h2⟩ := lk2_mem hq
        exact List.all_eq_true.mp (kAll_L t h1) _ h2) (calls_L hl rfl rfl) ?_ n 13 _ [] (h0L xs L) H locs _ _ ls hp hL9 hWd hS9 (by omega) (by omega)
      refine ⟨?_, ?_, ?_, ?_, ?_, ?_, ?_⟩
      · intro pc ls v h H locs cells slots hr9 hz hz2 hW9 hS9 hc hs hd
        cases hr9
        exact va_forget (fun q hq => hS9.2.2 q hq) (W.widen hc hs (hret pc ls H hd))
      · intro pc ls v h H locs cells slots hr9
        cases hr9
      · intro pc ls h H locs cells slots hr9
        cases hr9
      · intro pc b9 ls st h H locs cells slots hb9
        cases hb9
      · intro pc E cst ls st h H locs cells slots q ce hb9
        cases hb9
      · intro pc E ls st h H locs cells slots q ce _ hr9
        cases hr9
      · rintro (⟨q, h⟩ | h)
        · cases h
        · exact absurd rfl h
    · have h3 := List.all_eq_true.mp noRP_L _ (lkp_mem h1)
      obtain ⟨mk, i, q⟩ := q
      have h2' : i = .return_ := h2
      subst h2'
      cases h3
