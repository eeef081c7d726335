theorem off_all : ((List.range 72).all fun a => (List.range 72).all fun b => (decide ((2 : Int32) < (if 0 ≤ nI a - nI b then nI a - nI b else 0 - (nI a - nI b))) == !irg (nI a) (nI b - 2) (nI b + 2))) = true := by decide +kernel
theorem off_eq {a b : Nat} (ha : a < 72) (hb : b < 72) : decide ((2 : Int32) < (if 0 ≤ nI a - nI b then nI a - nI b else 0 - (nI a - nI b))) = !irg (nI a) (nI b - 2) (nI b + 2) := by
  have q := all2 off_all ha hb
  exact eq_of_beq q
theorem bit_r1 {x : Int32} {w : Nat} (hw : w < 32) : ((x >>> (nI w &&& 31)) &&& 1 = 1) ↔ bt x w = true := by
  constructor
  · intro e
    have q := b_and (x >>> (nI w &&& 31)) 1 0
    rw [e, b_1 (by decide), b_sshr w hw x (by decide), if_pos (by omega), Nat.add_zero] at q
    simpa using q.symm
  · intro e
    apply b_ext
    intro i hi
    rw [b_and, b_1 hi]
    by_cases c : i = 0
    · subst c
      rw [b_sshr w hw x hi, if_pos (by omega), Nat.add_zero, e]
      rfl
    · rw [decide_eq_false c, Bool.and_false]
theorem bit_n1 {x : Int32} {w : Nat} (hw : w < 32) : (x &&& ((1 : Int32) <<< (nI w &&& 31)) = 0) ↔ ¬ ((x >>> (nI w &&& 31)) &&& 1 = 1) := by
  rw [bit_l hw, bit_r1 hw]
  cases bt x w <;> simp
/-- a number between two of 0..19 -/
theorem irg_w {y f l : Int32} (hf : irg f 0 19 = true) (hl : irg l f 19 = true) (e : irg y f l = true) : ∃ w : Nat, w < 20 ∧ y = nI w := by
  obtain ⟨f1, f2⟩ := irg_t hf
  obtain ⟨l1, l2⟩ := irg_t hl
  obtain ⟨y1, y2⟩ := irg_t e
  have h0 : irg y 0 19 = true := by
    unfold irg
    rw [Int32.lt_iff_toInt_lt] at f1 f2 l1 l2 y1 y2
    rw [decide_eq_false (show ¬ y < 0 by rw [Int32.lt_iff_toInt_lt]; omega), decide_eq_false (show ¬ 19 < y by rw [Int32.lt_iff_toInt_lt]; omega)]
    rfl
  obtain ⟨w, hw, rfl⟩ := irg_nI (n := 19) (by decide) h0
  exact ⟨w, by omega, rfl⟩
theorem nar_b : vp_nar .boolean 1 = 1 ∧ vp_nar .boolean 0 = 0 := by decide
