/-! at the law's beginning -/
def z0 (l : List (Nat × Nat × Nat × Nat)) : Bool := l.all fun q => decide (ini q.1 q.2.1 = ini q.2.2.1 q.2.2.2)
theorem z0_at {l : List (Nat × Nat × Nat × Nat)} (h : z0 l = true) {a k b j : Nat} (hm : (a, k, b, j) ∈ l) : ini a k = ini b j := of_decide_eq_true (List.all_eq_true.mp h _ hm)
theorem i0_S : ((List.range 60).all fun i => (List.range 13).all fun f => decide (ini (107 + i) f = ini (SA f) i)) = true := by decide +kernel
theorem i0_Q : ((List.range 60).all fun i => (List.range 14).all fun f => decide (ini (47 + i) f = ini (QA f) i)) = true := by decide +kernel
theorem i0_R : ((List.range 60).all fun i => (List.range 9).all fun f => decide (ini (167 + i) f = ini (RA f) i)) = true := by decide +kernel
theorem i0_G : ((List.range 10).all fun i => decide (ini 2 i = ini 235 i)) = true := by decide +kernel
theorem i0_A : ((List.range 4).all fun a => decide (ini (11 + 9 * a) 2 = ini 228 a) && decide (ini (11 + 9 * a) 3 = ini 232 a) && decide (ini (11 + 9 * a) 4 = ini 233 a) && decide (ini (11 + 9 * a) 5 = ini 234 a) && ((List.range 7).all fun d => decide (ini (13 + 9 * a) d = ini 273 (7 * a + d))) && ((List.range 6).all fun r => decide (ini (14 + 9 * a + r) 0 = ini 229 (6 * a + r)) && decide (ini (14 + 9 * a + r) 1 = ini 230 (6 * a + r)) && decide (ini (14 + 9 * a + r) 2 = ini 231 (6 * a + r)))) = true := by decide +kernel
theorem all2 {n m : Nat} {p : Nat → Nat → Bool} (h : ((List.range n).all fun i => (List.range m).all fun f => p i f) = true) {i f : Nat} (hi : i < n) (hf : f < m) : p i f = true := List.all_eq_true.mp (List.all_eq_true.mp h i (List.mem_range.mpr hi)) f (List.mem_range.mpr hf)
theorem inv_0 (xs : Nat → Int32) (L : Nat) : Inv (h0L xs L) := by
  have q1 : nq (h0L xs L) = 0 := by unfold nq; rw [h0L_in (by decide)]; decide
  have q2 : ns (h0L xs L) = 0 := by unfold ns; rw [h0L_in (by decide)]; decide
  have q3 : nr (h0L xs L) = 0 := by unfold nr; rw [h0L_in (by decide)]; decide
  have q4 : np (h0L xs L) = 0 := by unfold np; rw [h0L_in (by decide)]; decide
  refine ⟨?_, ?_, ?_, ?_, ?_, ?_, ?_, ?_, ?_, ?_, ?_, ?_, ?_⟩
  · refine ⟨?_, ?_, ?_, ?_, ?_⟩ <;> rw [h0L_in (by decide), h0L_in (by decide)] <;> decide
  · intro i hi f hf
    have q := sa_in f hf
    rw [h0L_in (by omega), h0L_in (by omega)]
    exact of_decide_eq_true (all2 i0_S hi hf)
  · intro i hi f hf _
    have q := qa_in f hf
    rw [h0L_in (by omega), h0L_in (by omega)]
    exact of_decide_eq_true (all2 i0_Q hi hf)
  · intro i hi f hf
    have q := ra_in f hf
    rw [h0L_in (by omega), h0L_in (by omega)]
    exact of_decide_eq_true (all2 i0_R hi hf)
  · intro a ha
    have q := List.all_eq_true.mp i0_A a (List.mem_range.mpr ha)
    simp only [Bool.and_eq_true, decide_eq_true_eq] at q
    obtain ⟨⟨⟨⟨⟨e1, e2⟩, e3⟩, e4⟩, e5⟩, e6⟩ := q
    refine ⟨?_, ?_, ?_, ?_, fun d hd => ?_, fun r hr => ⟨?_, ?_, ?_⟩⟩ <;> rw [h0L_in (by omega), h0L_in (by omega)]
    · exact e1
    · exact e2
    · exact e3
    · exact e4
    · exact of_decide_eq_true (List.all_eq_true.mp e5 d (List.mem_range.mpr hd))
    · have z := List.all_eq_true.mp e6 r (List.mem_range.mpr hr)
      simp only [Bool.and_eq_true, decide_eq_true_eq] at z
      exact z.1.1
    · have z := List.all_eq_true.mp e6 r (List.mem_range.mpr hr)
      simp only [Bool.and_eq_true, decide_eq_true_eq] at z
      exact z.1.2
    · have z := List.all_eq_true.mp e6 r (List.mem_range.mpr hr)
      simp only [Bool.and_eq_true, decide_eq_true_eq] at z
      exact z.2
  · intro c hc
    rw [h0L_in (by decide), h0L_in (by decide)]
    exact of_decide_eq_true (List.all_eq_true.mp i0_G c (List.mem_range.mpr hc))
  · intro i _ hi
    omega
  · unfold VN
    rw [q1, q2, q3, q4, h0L_in (by decide), h0L_in (by decide), h0L_in (by decide), h0L_in (by decide), h0L_in (by decide)]
    refine ⟨by decide, by decide, by decide, Nat.le_refl _, by decide, by decide, by decide, Nat.le_refl _, by decide⟩
  · intro a ha
    refine ⟨0, by decide, ?_, fun r hr => absurd hr (Nat.not_lt_zero r)⟩
    rw [h0L_in (by decide)]
    have : ∀ a, a < 4 → ini 228 a = nI 0 := by decide
    exact this a ha
  · intro i hi
    omega
  · intro i hi
    omega
  · intro i hi
    omega
  · exact ⟨fun p hp => by omega, fun i hi => by omega⟩
/-! counts -/
section COUNTS
variable {h : Hp} {x : Int32}
def goneF (h : Hp) (k : Nat) : Int32 := if rd h 272 k = 0 then 0 else 1
def areF (x : Int32) (h : Hp) (k : Nat) : Int32 := if rd h 254 k = x then 1 else 0
theorem gone_l (N : EqN h) (V : VN h) (S : EqS h) : ∀ (n k : Nat) (acc : Int32), k + n = ns h → f_X6_seriesThatAreGone_4 acc (nI k) h = rtn (some (.int (fsum (goneF h) k n acc))) h
  | 0, k, acc, e => by
    have h60 := V.s.1
    rw [e_X6_seriesThatAreGone_4, N.2.1, V.s.2, if_neg (nI_nlt (by omega) (by omega))]
    rfl
  | n + 1, k, acc, e => by
    have h60 := V.s.1
    have ih := fun acc => gone_l N V S n (k + 1) acc (by omega)
    obtain ⟨g0, g1, g2, g3, g4, g5, g6, g7, g8, g9, g10, g11, g12⟩ := S.g (k := k) (by omega)
    rw [e_X6_seriesThatAreGone_4, N.2.1, V.s.2, if_pos (nI_lt (by omega) (by omega)), seriesAt_s N V (by omega), bR_r, (okc_sr k (by omega)).1]
    simp only [gd_t, g12, e_X6_seriesThatAreGone_26, nI_1, ih]
    show _ = rtn (some (.int (fsum (goneF h) (k + 1) n (acc + goneF h k)))) h
    by_cases c1 : rd h 272 k = 0
    · simp [c1, show goneF h k = 0 by simp [goneF, c1]]
    · simp [c1, show goneF h k = 1 by simp [goneF, c1]]
theorem are_l (N : EqN h) (V : VN h) (S : EqQ h) : ∀ (n k : Nat) (acc : Int32), k + n = nq h → f_X6_requestsThatAre_4 x acc (nI k) h = rtn (some (.int (fsum (areF x h) k n acc))) h
  | 0, k, acc, e => by
    have h60 := V.q.1
    rw [e_X6_requestsThatAre_4, N.1, V.q.2, if_neg (nI_nlt (by omega) (by omega))]
    rfl
  | n + 1, k, acc, e => by
    have h60 := V.q.1
    have ih := fun acc => are_l N V S n (k + 1) acc (by omega)
    obtain ⟨g0, g1, g2, g3, g4, g5, g6, g7, g8, g9, g11, g12, g13⟩ := S.g (k := k) (by omega)
    rw [e_X6_requestsThatAre_4, N.1, V.q.2, if_pos (nI_lt (by omega) (by omega)), requestAt_s N V (by omega), bR_r, (okc_rq k (by omega)).1]
    simp only [gd_t, g9, e_X6_requestsThatAre_27, nI_1, ih]
    show _ = rtn (some (.int (fsum (areF x h) (k + 1) n (acc + areF x h k)))) h
    by_cases c1 : rd h 254 k = x
    · simp [c1, show areF x h k = 1 by simp [areF, c1]]
    · simp [c1, show areF x h k = 0 by simp [areF, c1]]
theorem countOf_l (V : VN h) : ∀ (n k : Nat) (acc : Int32), k + n = nq h → f_X7_countOf_4 x acc (nI k) h = rtn (some (.int (fsum (areF x h) k n acc))) h
  | 0, k, acc, e => by
    have h60 := V.q.1
    rw [e_X7_countOf_4, V.q.2, if_neg (nI_nlt (by omega) (by omega))]
    rfl
  | n + 1, k, acc, e => by
    have h60 := V.q.1
    have ih := fun acc => countOf_l V n (k + 1) acc (by omega)
    rw [e_X7_countOf_4, V.q.2, if_pos (nI_lt (by omega) (by omega))]
    simp only [inb_nI (j := k) (n := 60) (by omega) (by decide), gd_t, nI_clamp (n := k) (by omega), e_X7_countOf_28, nI_1, ih]
    show _ = rtn (some (.int (fsum (areF x h) (k + 1) n (acc + areF x h k)))) h
    by_cases c1 : rd h 254 k = x
    · simp [c1, show areF x h k = 1 by simp [areF, c1]]
    · simp [c1, show areF x h k = 0 by simp [areF, c1]]
theorem requestsThatAre_s (N : EqN h) (V : VN h) (S : EqQ h) : F_X6_requestsThatAre [.ref 0, .int x] h = rtn (some (.int (fsum (areF x h) 0 (nq h) 0))) h := by
  rw [e_X6_requestsThatAre_0]
  exact are_l N V S (nq h) 0 0 (by omega)
theorem countOf_s (V : VN h) : F_X7_countOf [.ref 227, .int x] h = rtn (some (.int (fsum (areF x h) 0 (nq h) 0))) h := by
  rw [e_X7_countOf_0]
  exact countOf_l V (nq h) 0 0 (by omega)
theorem seriesThatAreGone_s (N : EqN h) (V : VN h) (S : EqS h) : F_X6_seriesThatAreGone [.ref 0] h = rtn (some (.int (fsum (goneF h) 0 (ns h) 0))) h := by
  rw [e_X6_seriesThatAreGone_0]
  exact gone_l N V S (ns h) 0 0 (by omega)
/-- what the reference answers -/
def cntA (x : Int32) (h : Hp) : Int32 := if x = 0 then rd h 227 20 else if x < 4 then fsum (areF x h) 0 (nq h) 0 else if x = 4 then rd h 227 37 else fsum (goneF h) 0 (ns h) 0
theorem count_l (V : VN h) : ∀ (n k : Nat) (acc : Int32), k + n = ns h → f_X7_count_27 x acc (nI k) h = rtn (some (.int (if x = 0 then rd h 227 20 else if x < 4 then fsum (areF x h) 0 (nq h) 0 else if x = 4 then rd h 227 37 else fsum (goneF h) k n acc))) h
  | 0, k, acc, e => by
    have h60 := V.s.1
    rw [e_X7_count_27, V.s.2, if_neg (nI_nlt (by omega) (by omega)), countOf_s V, bI_r]
    by_cases c1 : x = 0
    · rw [if_pos c1, if_pos c1]
    · rw [if_neg c1, if_neg c1]
      by_cases c2 : x < 4
      · rw [if_pos c2, if_pos c2]
      · rw [if_neg c2, if_neg c2]
        by_cases c3 : x = 4
        · rw [if_pos c3, if_pos c3]
        · rw [if_neg c3, if_neg c3]
          rfl
  | n + 1, k, acc, e => by
    have h60 := V.s.1
    have ih := fun acc => count_l V n (k + 1) acc (by omega)
    rw [e_X7_count_27, V.s.2, if_pos (nI_lt (by omega) (by omega))]
    simp only [inb_nI (j := k) (n := 60) (by omega) (by decide), gd_t, nI_clamp (n := k) (by omega), e_X7_count_50, nI_1, ih, V.s.2]
    show _ = rtn (some (.int (if x = 0 then rd h 227 20 else if x < 4 then fsum (areF x h) 0 (nq h) 0 else if x = 4 then nI (ns h) else fsum (goneF h) (k + 1) n (acc + goneF h k)))) h
    by_cases c1 : rd h 272 k = 0
    · simp [c1, show goneF h k = 0 by simp [goneF, c1]]
    · simp [c1, show goneF h k = 1 by simp [goneF, c1]]
end COUNTS
theorem irg_cases5 {x : Int32} (e : irg x 0 5 = true) : x = 0 ∨ x = 1 ∨ x = 2 ∨ x = 3 ∨ x = 4 ∨ x = 5 := by
  obtain ⟨j, hj, rfl⟩ := irg_nI (n := 5) (by decide) e
  have : j = 0 ∨ j = 1 ∨ j = 2 ∨ j = 3 ∨ j = 4 ∨ j = 5 := by omega
  rcases this with rfl | rfl | rfl | rfl | rfl | rfl
  · exact Or.inl rfl
  · exact Or.inr (Or.inl rfl)
  · exact Or.inr (Or.inr (Or.inl rfl))
  · exact Or.inr (Or.inr (Or.inr (Or.inl rfl)))
  · exact Or.inr (Or.inr (Or.inr (Or.inr (Or.inl rfl))))
  · exact Or.inr (Or.inr (Or.inr (Or.inr (Or.inr rfl))))
section QV
variable {h : Hp} {x w : Int32} {v : Int64}
/-- the heap that a question leaves: the law's answer, the reference's word -/
def hq (h : Hp) (v : Int64) (w : Int32) : Hp := wr (wrL h 0 v) 227 0 w
theorem hq_rd {a k : Nat} (ha : a ≠ 227) : rd (hq h v w) a k = rd h a k := by
  unfold hq
  rw [rd_ne ha, rd_wrLx]
theorem hq_r7 {k : Nat} (hk : k ≠ 0) : rd (hq h v w) 227 k = rd h 227 k := by
  unfold hq
  rw [rd_nk hk, rd_wrLx]
theorem hq_inv (H : Inv h) : Inv (hq h v w) := (Inv.out H).quiet (Or.inl ⟨rfl, rfl⟩)
theorem hq_V (H : VN h) : VN (hq h v w) := VN.f (h := wrL h 0 v) H (by decide) (by omega)
theorem hq_scr : Scr h (hq h v w) := Scr.refl.l.w (by decide)
theorem hq_ns : ns (hq h v w) = ns h := by unfold ns; rw [hq_r7 (by decide)]
theorem hq_nq : nq (hq h v w) = nq h := by unfold nq; rw [hq_r7 (by decide)]
theorem hq_nr : nr (hq h v w) = nr h := by unfold nr; rw [hq_r7 (by decide)]
theorem hq_are : areF x (hq h v w) = areF x h := by funext k; unfold areF; rw [hq_rd (by decide)]
theorem hq_gone : goneF (hq h v w) = goneF h := by funext k; unfold goneF; rw [hq_rd (by decide)]
theorem hq_w : rd (hq h v w) 227 0 = w := rd_eqw
theorem hq_o : rdL (hq h v w) 0 = v := rfl
end QV
theorem sim_count : SimI Inv F_L_count F_X7_count 1 := by
  intro as h hl hR
  match as, hl with
  | [x], _ =>
    show ∃ (k v : Int32) (h1 h2 : Hp), F_L_count [.ref 0, .int x, .ref 275] h = rtn (some (.int k)) h1 ∧ F_X7_count [.ref 227, .int x] h1 = rtn (some (.int v)) h2 ∧ _
    have N := hR.1
    have S := hR.2.1
    have QQ := hR.2.2.1
    have V := hR.2.2.2.2.2.2.2.1
    cases c1 : irg x 0 5 with
    | false =>
      refine ⟨1, 0, h, wr h 227 0 1, ?_, ?_, rd_eqw, fun q => absurd q one_ne, hR.quiet (Or.inl ⟨rfl, rfl⟩), Scr.refl, Scr.refl.w (by decide)⟩
      · have ne : ∀ j : Nat, j ≤ 5 → x ≠ Int32.ofNat j := by
          rintro j hj rfl
          have : irg (Int32.ofNat j) 0 5 = true := by
            have : ∀ j, j ≤ 5 → irg (Int32.ofNat j) 0 5 = true := by decide
            exact this j hj
          rw [this] at c1
          cases c1
        rw [e_L_count_0, e_X6_count_0, if_neg (ne 0 (by decide)), if_neg (ne 1 (by decide)), if_neg (ne 2 (by decide)), if_neg (ne 3 (by decide)), if_neg (ne 4 (by decide)), if_neg (ne 5 (by decide)), bI_t]
        rfl
      · rw [e_X7_count_0, isIn_s, bI_r, c1, bi_f, if_pos rfl, e_X7_count_15, holds_n one_ne, bI_r, if_pos rfl]
    | true =>
      have hcls : F_X6_count [.ref 0, .int x] h = rtn (some (.int (cntA x h))) h := by
        rw [e_X6_count_0]
        simp only [requestsThatAre_s N V QQ, seriesThatAreGone_s N V S, bI_r, N.1, N.2.1]
        rcases irg_cases5 c1 with rfl | rfl | rfl | rfl | rfl | rfl <;> rfl
      refine ⟨0, cntA x h, wrL h 0 (Int32.toInt64 (cntA x h)), hq h (Int32.toInt64 (cntA x h)) 0, ?_, ?_, hq_w, fun _ => hq_o, hq_inv hR, Scr.refl.l, hq_scr⟩
      · rw [e_L_count_0, hcls, bI_r]
        rfl
      · rw [e_X7_count_0, isIn_s, bI_r, c1, bi_t, if_neg one_ne, e_X7_count_15, holds_0, bI_r, if_neg one_ne]
        show f_X7_count_27 x 0 (nI 0) (hq h (Int32.toInt64 (cntA x h)) 0) = _
        rw [count_l (hq_V V) (ns h) 0 0 (by rw [hq_ns]; omega), hq_r7 (by decide), hq_r7 (by decide), hq_nq, hq_are, hq_gone]
        rfl
