/-! bits (the first rows are pasted from kit/laws/BITS.to-paste) -/
def bt (x : Int32) (i : Nat) : Bool := x.toBitVec.getLsbD i
theorem b_ext {x y : Int32} (h : ∀ i, i < 32 → bt x i = bt y i) : x = y := Int32.toBitVec_inj.mp (BitVec.eq_of_getLsbD_eq (fun i hi => h i hi))
theorem b_or (x y : Int32) (i : Nat) : bt (x ||| y) i = (bt x i || bt y i) := by unfold bt; rw [Int32.toBitVec_or, BitVec.getLsbD_or]
theorem b_and (x y : Int32) (i : Nat) : bt (x &&& y) i = (bt x i && bt y i) := by unfold bt; rw [Int32.toBitVec_and, BitVec.getLsbD_and]
theorem b_xor (x y : Int32) (i : Nat) : bt (x ^^^ y) i = (bt x i ^^ bt y i) := by unfold bt; rw [Int32.toBitVec_xor, BitVec.getLsbD_xor]
theorem b_big {x : Int32} {i : Nat} (h : 32 ≤ i) : bt x i = false := BitVec.getLsbD_of_ge _ _ h
theorem b_255 (i : Nat) : bt 255 i = decide (i < 8) := by
  rcases Nat.lt_or_ge i 32 with h | h
  · exact (by decide +kernel : ∀ i, i < 32 → bt 255 i = decide (i < 8)) i h
  · rw [b_big h, decide_eq_false (by omega)]
theorem b_65535 (i : Nat) : bt 65535 i = decide (i < 16) := by
  rcases Nat.lt_or_ge i 32 with h | h
  · exact (by decide +kernel : ∀ i, i < 32 → bt 65535 i = decide (i < 16)) i h
  · rw [b_big h, decide_eq_false (by omega)]
theorem b_m1 : ∀ i, i < 32 → bt (-1) i = true := by decide +kernel
theorem b_0 (i : Nat) : bt 0 i = false := BitVec.getLsbD_zero
theorem s_l : ∀ n, n < 32 → ((nI n &&& 31).toBitVec.smod 32).toNat = n := by decide +kernel
theorem s_u : ∀ n, n < 32 → (((nI n).toUInt32 &&& Int32.toUInt32 31).toBitVec % 32).toNat = n := by decide +kernel
theorem b_shl (n : Nat) (hn : n < 32) (x : Int32) {i : Nat} (hi : i < 32) : bt (x <<< (nI n &&& 31)) i = (decide (n ≤ i) && bt x (i - n)) := by
  unfold bt
  rw [Int32.toBitVec_shiftLeft]
  show (x.toBitVec <<< ((nI n &&& 31).toBitVec.smod 32).toNat).getLsbD i = _
  rw [s_l n hn, BitVec.getLsbD_shiftLeft]
  rcases Nat.lt_or_ge i n with h | h
  · simp [h, Nat.not_le.mpr h]
  · simp [hi, h, Nat.not_lt.mpr h]
theorem b_ushr (n : Nat) (hn : n < 32) (x : Int32) (i : Nat) : bt ((x.toUInt32 >>> ((nI n).toUInt32 &&& Int32.toUInt32 31)).toInt32) i = bt x (n + i) := by
  show (x.toUInt32 >>> ((nI n).toUInt32 &&& Int32.toUInt32 31)).toBitVec.getLsbD i = x.toUInt32.toBitVec.getLsbD (n + i)
  rw [UInt32.toBitVec_shiftRight]
  show (x.toUInt32.toBitVec >>> (((nI n).toUInt32 &&& Int32.toUInt32 31).toBitVec % 32).toNat).getLsbD i = _
  rw [s_u n hn, BitVec.getLsbD_ushiftRight]
theorem b_sshr (n : Nat) (hn : n < 32) (x : Int32) {i : Nat} (hi : i < 32) : bt (x >>> (nI n &&& 31)) i = if n + i < 32 then bt x (n + i) else bt x 31 := by
  unfold bt
  rw [Int32.toBitVec_shiftRight]
  show (x.toBitVec.sshiftRight ((nI n &&& 31).toBitVec.smod 32).toNat).getLsbD i = _
  rw [s_l n hn, BitVec.getLsbD_sshiftRight, BitVec.msb_eq_getLsbD_last]
  simp [hi]
theorem b_1 {i : Nat} (hi : i < 32) : bt 1 i = decide (i = 0) := (by decide +kernel : ∀ i, i < 32 → bt 1 i = decide (i = 0)) i hi
theorem wk_one : ∀ w, w < 20 → ((1 <<< (((nI w - nI w) + 1) &&& 31)) - 1) <<< (nI w &&& 31) = (1 : Int32) <<< (nI w &&& 31) := by decide +kernel
theorem bit_l {x : Int32} {w : Nat} (hw : w < 32) : (x &&& ((1 : Int32) <<< (nI w &&& 31)) = 0) ↔ bt x w = false := by
  constructor
  · intro e
    have q := b_and x ((1 : Int32) <<< (nI w &&& 31)) w
    rw [e, b_0, b_shl w hw 1 hw, Nat.sub_self, b_1 (by decide)] at q
    simpa using q.symm
  · intro e
    apply b_ext
    intro i hi
    rw [b_and, b_0, b_shl w hw 1 hi]
    by_cases c : i = w
    · rw [c, e]
      rfl
    · by_cases c2 : w ≤ i
      · rw [b_1 (by omega), decide_eq_false (show ¬ i - w = 0 by omega)]
        simp
      · rw [decide_eq_false c2]
        simp
theorem bit_r {x : Int32} {w : Nat} (hw : w < 32) : ((x >>> (nI w &&& 31)) &&& 1 = 0) ↔ bt x w = false := by
  constructor
  · intro e
    have q := b_and (x >>> (nI w &&& 31)) 1 0
    rw [e, b_0, b_sshr w hw x (by decide), b_1 (by decide), if_pos (by omega), Nat.add_zero] at q
    simpa using q.symm
  · intro e
    apply b_ext
    intro i hi
    rw [b_and, b_0, b_1 hi]
    by_cases c : i = 0
    · subst c
      rw [b_sshr w hw x hi, if_pos (by omega), Nat.add_zero, e]
      rfl
    · rw [decide_eq_false c, Bool.and_false]
theorem bit_eq {x : Int32} {w : Nat} (hw : w < 32) : (x &&& ((1 : Int32) <<< (nI w &&& 31)) = 0) ↔ ((x >>> (nI w &&& 31)) &&& 1 = 0) := (bit_l hw).trans (bit_r hw).symm
theorem weeksFromTo_1 {h : Hp} {w : Nat} (hw : w < 20) : F_X6_weeksFromTo [.int (nI w), .int (nI w)] h = rtn (some (.int ((1 : Int32) <<< (nI w &&& 31)))) h := by
  rw [e_X6_weeksFromTo_0, wk_one w hw]
theorem skr_c : ∀ j, j < 4 → SKr (11 + 9 * j) 1 = 13 + 9 * j := by decide
theorem cls_a : ∀ j, j < 4 → memb (SKc (13 + 9 * j)) [10, 11, 12, 13, 14, 15, 16, 17, 18] = true ∧ memb (SKc (13 + 9 * j)) [10, 18] = true ∧ SKn (13 + 9 * j) = 7 ∧ Nat.beq (13 + 9 * j) 1000 = false ∧ Nat.beq (SKc (13 + 9 * j)) 10 = true := by decide
theorem alen_c {h : Hp} {j : Nat} (hj : j < 4) : alen SKn h (13 + 9 * j) = 7 := by
  obtain ⟨-, -, e1, e2, -⟩ := cls_a j hj
  unfold alen
  rw [e1]
  show cond (Nat.beq (13 + 9 * j) 1000) _ 7 = 7
  rw [e2]
  rfl
theorem closedWeeksOn_s {h : Hp} {j d : Nat} (hj : j < 4) (hd : d < 7) : F_X0_closedWeeksOn [.ref (11 + 9 * j), .int (nI d)] h = rtn (some (.int (rd h (13 + 9 * j) d))) h := by
  obtain ⟨e1, e2, e3, -, -⟩ := cls_a j hj
  rw [e_X0_closedWeeksOn_0, if_neg (nI_pos (n := d) (by omega)), okc_ap j hj, skr_c j hj, e1, e2, alen_c hj, if_pos (show nI d < Int32.ofNat 7 from nI_lt (a := d) (b := 7) hd (by decide)), inb_nI hd (by decide), nI_clamp (by omega)]
  rfl
theorem closeWeeksOn_s {h : Hp} {x : Int32} {j d : Nat} (hj : j < 4) (hd : d < 7) : F_X0_closeWeeksOn [.ref (11 + 9 * j), .int (nI d), .int x] h = rtn none (wr h (13 + 9 * j) d (rd h (13 + 9 * j) d ||| x)) := by
  obtain ⟨e1, e2, e3, -, e5⟩ := cls_a j hj
  rw [e_X0_closeWeeksOn_0, if_neg (nI_pos (n := d) (by omega)), okc_ap j hj, skr_c j hj, e1, e2, e3, e5, alen_c hj, if_pos (show nI d < Int32.ofNat 7 from nI_lt (a := d) (b := 7) hd (by decide)), inb_nI hd (by decide), nI_clamp (by omega)]
  rfl
