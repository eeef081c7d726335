theorem lt3 {x : Int32} : (2 : Int32) < x ↔ ¬ x < 3 := by
  rw [Int32.lt_iff_toInt_lt, Int32.lt_iff_toInt_lt]
  have e1 : (2 : Int32).toInt = 2 := by decide
  have e0 : (3 : Int32).toInt = 3 := by decide
  omega
theorem fly_c {h : Hp} (N : EqN h) (V : VN h) (S : EqS h) (hVS : VS h) {i w a : Nat} (hi : i < ns h) (hw : w < 20) (ha : a < 72) (hr : irg (nI w) (rd h 266 i) (rd h 267 i) = true) (o1 : rd h 272 i = 0) (o2 : rd h 270 i &&& ((1 : Int32) <<< (nI w &&& 31)) = 0) (off : Int32) (ho : off = rd h 271 i + (match irg (nI a) (rd h 265 i - 2) (rd h 265 i + 2) with | true => 0 | false => 1)) :
    ∃ h1, F_X6_fly [.ref 0, .int (nI i), .int (nI w), .int (nI a)] h = rtn (some (.int off)) h1 ∧ Fr (fun p k => p = 107 + i ∧ 10 ≤ k ∧ k ≤ 12) h h1 ∧ rd h1 (107 + i) 10 = (rd h 270 i ||| ((1 : Int32) <<< (nI w &&& 31))) ∧ rd h1 (107 + i) 11 = off ∧ rd h1 (107 + i) 12 = (if 2 < off then 1 else 0) := by
  have h60 := V.s.1
  obtain ⟨g0, g1, g2, g3, g4, g5, g6, g7, g8, g9, g10, g11, g12⟩ := S.g (k := i) (by omega)
  obtain ⟨b, hb, eb⟩ := irg_nI (n := 71) (by decide) (hVS i hi).2.2.1
  have hra : irg (nI a) 0 71 = true := by
    unfold irg
    rw [decide_eq_false (nI_pos (n := a) (by omega)), decide_eq_false (show ¬ (71 : Int32) < nI a from nI_nlt (a := 71) (b := a) (by omega) (by decide))]
    rfl
  have ok := (okc_sr i (by omega)).1
  generalize hB : (1 : Int32) <<< (nI w &&& 31) = B at o2 ⊢
  have hq := off_eq ha (show b < 72 by omega)
  rw [eb] at ho
  have st : F_X6_fly [.ref 0, .int (nI i), .int (nI w), .int (nI a)] h = (if 2 < (if 0 ≤ nI a - nI b then nI a - nI b else 0 - (nI a - nI b)) then f_X6_fly_101 (107 + i) (wr (wr h (107 + i) 10 (rd h 270 i ||| B)) (107 + i) 11 (rd h 271 i + 1)) else f_X6_fly_101 (107 + i) (wr h (107 + i) 10 (rd h 270 i ||| B))) := by
    rw [e_X6_fly_0, seriesAt_s N V hi, bR_r, ok]
    simp only [gd_t, requireRange_s, g4, g5, hr, hra, bV_r, weeksFromTo_1 (h := h) (w := w) hw, hB, bI_r, g12, g10]
    rw [if_pos o1, if_pos o2, rd_nk (show (3 : Nat) ≠ 10 by decide), g3, eb, rd_nk (show (11 : Nat) ≠ 10 by decide), g11]
  -- behind the count
  have fin : ∀ g : Hp, Fr (fun p k => p = 107 + i ∧ 10 ≤ k ∧ k ≤ 12) h g → rd g (107 + i) 10 = (rd h 270 i ||| B) → rd g (107 + i) 11 = off → rd g (107 + i) 12 = 0 → ∃ h1, f_X6_fly_101 (107 + i) g = rtn (some (.int off)) h1 ∧ Fr (fun p k => p = 107 + i ∧ 10 ≤ k ∧ k ≤ 12) h h1 ∧ rd h1 (107 + i) 10 = (rd h 270 i ||| B) ∧ rd h1 (107 + i) 11 = off ∧ rd h1 (107 + i) 12 = (if 2 < off then 1 else 0) := by
    intro g F q1 q2 q3
    rw [e_X6_fly_101, ok]
    simp only [gd_t]
    rw [q2]
    by_cases c : off < 3
    · refine ⟨g, ?_, F, q1, q2, ?_⟩
      · rw [if_pos c]
      · rw [if_neg (fun z => (lt3.mp z) c)]
        exact q3
    · refine ⟨wr g (107 + i) 12 1, ?_, F.w ⟨rfl, by decide, by decide⟩, ?_, ?_, ?_⟩
      · rw [if_neg c, rd_nk (by decide), q2]
      · rw [rd_nk (by decide)]
        exact q1
      · rw [rd_nk (by decide)]
        exact q2
      · rw [rd_eqw, if_pos (lt3.mpr c)]
  rw [st]
  cases c : irg (nI a) (nI b - 2) (nI b + 2) with
  | true =>
    rw [c, Bool.not_true] at hq
    rw [c] at ho
    rw [if_neg (of_decide_eq_false hq)]
    refine fin _ (Fr.refl.w ⟨rfl, by decide, by decide⟩) rd_eqw ?_ ?_
    · rw [rd_nk (by decide), g11, ho]
      exact (Int32.add_zero _).symm
    · rw [rd_nk (by decide), g12]
      exact o1
  | false =>
    rw [c, Bool.not_false] at hq
    rw [c] at ho
    rw [if_pos (of_decide_eq_true hq)]
    refine fin _ ((Fr.refl.w ⟨rfl, by decide, by decide⟩).w ⟨rfl, by decide, by decide⟩) ?_ ?_ ?_
    · rw [rd_nk (by decide), rd_eqw]
    · rw [rd_eqw, ho]
    · rw [rd_nk (by decide), rd_nk (by decide), g12]
      exact o1
