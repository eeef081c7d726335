/-! bits (the first rows are pasted from kit/laws/BITS.to-paste) -/
def bt (x : Int32) (i : Nat) : Bool := x.toBitVec.getLsbD i
theorem b_ext {x y : Int32} (h : ∀ i, i < 32 → bt x i = bt y i) : x = y := Int32.toBitVec_inj.mp (BitVec.eq_of_getLsbD_eq (fun i hi => h i hi))
theorem b_or (x y : Int32) (i : Nat) : bt (x ||| y) i = (bt x i || bt y i) := by unfold bt; rw [Int32.toBitVec_or, BitVec.getLsbD_or]
theorem b_and (x y : Int32) (i : Nat) : bt (x &&& y) i = (bt x i && bt y i) := by unfold bt; rw [Int32.toBitVec_and, BitVec.getLsbD_and]
theorem b_xor (x y : Int32) (i : Nat) : bt (x ^^^ y) i = (bt x i ^^ bt y i) := by unfold bt; rw [Int32.toBitVec_xor, BitVec.getLsbD_xor]
theorem b_big {x : Int32} {i : Nat} (h : 32 ≤ i) : bt x i = false := BitVec.getLsbD_of_ge _ _ h
theorem b_255 (i : Nat) : bt 255 i = decide (i < 8) := by
  rcases Nat.lt_or_ge i 32 with h | h
  · exact (by decide +kernel : ∀ i, i < 32 → bt 255 i = decide (i < 8)) i h
  · rw [b_big h, decide_eq_false (by omega)]
theorem b_65535 (i : Nat) : bt 65535 i = decide (i < 16) := by
  rcases Nat.lt_or_ge i 32 with h | h
  · exact (by decide +kernel : ∀ i, i < 32 → bt 65535 i = decide (i < 16)) i h
  · rw [b_big h, decide_eq_false (by omega)]
theorem b_m1 : ∀ i, i < 32 → bt (-1) i = true := by decide +kernel
theorem b_0 (i : Nat) : bt 0 i = false := BitVec.getLsbD_zero
theorem s_l : ∀ n, n < 32 → ((nI n &&& 31).toBitVec.smod 32).toNat = n := by decide +kernel
theorem s_u : ∀ n, n < 32 → (((nI n).toUInt32 &&& Int32.toUInt32 31).toBitVec % 32).toNat = n := by decide +kernel
theorem b_shl (n : Nat) (hn : n < 32) (x : Int32) {i : Nat} (hi : i < 32) : bt (x <<< (nI n &&& 31)) i = (decide (n ≤ i) && bt x (i - n)) := by
  unfold bt
  rw [Int32.toBitVec_shiftLeft]
  show (x.toBitVec <<< ((nI n &&& 31).toBitVec.smod 32).toNat).getLsbD i = _
  rw [s_l n hn, BitVec.getLsbD_shiftLeft]
  rcases Nat.lt_or_ge i n with h | h
  · simp [h, Nat.not_le.mpr h]
  · simp [hi, h, Nat.not_lt.mpr h]
theorem b_ushr (n : Nat) (hn : n < 32) (x : Int32) (i : Nat) : bt ((x.toUInt32 >>> ((nI n).toUInt32 &&& Int32.toUInt32 31)).toInt32) i = bt x (n + i) := by
  show (x.toUInt32 >>> ((nI n).toUInt32 &&& Int32.toUInt32 31)).toBitVec.getLsbD i = x.toUInt32.toBitVec.getLsbD (n + i)
  rw [UInt32.toBitVec_shiftRight]
  show (x.toUInt32.toBitVec >>> (((nI n).toUInt32 &&& Int32.toUInt32 31).toBitVec % 32).toNat).getLsbD i = _
  rw [s_u n hn, BitVec.getLsbD_ushiftRight]
theorem b_sshr (n : Nat) (hn : n < 32) (x : Int32) {i : Nat} (hi : i < 32) : bt (x >>> (nI n &&& 31)) i = if n + i < 32 then bt x (n + i) else bt x 31 := by
  unfold bt
  rw [Int32.toBitVec_shiftRight]
  show (x.toBitVec.sshiftRight ((nI n &&& 31).toBitVec.smod 32).toNat).getLsbD i = _
  rw [s_l n hn, BitVec.getLsbD_sshiftRight, BitVec.msb_eq_getLsbD_last]
  simp [hi]
theorem b_1 {i : Nat} (hi : i < 32) : bt 1 i = decide (i = 0) := (by decide +kernel : ∀ i, i < 32 → bt 1 i = decide (i = 0)) i hi
theorem wk_one : ∀ w, w < 20 → ((1 <<< (((nI w - nI w) + 1) &&& 31)) - 1) <<< (nI w &&& 31) = (1 : Int32) <<< (nI w &&& 31) := by decide +kernel
theorem bit_l {x : Int32} {w : Nat} (hw : w < 32) : (x &&& ((1 : Int32) <<< (nI w &&& 31)) = 0) ↔ bt x w = false := by
  constructor
  · intro e
    have q := b_and x ((1 : Int32) <<< (nI w &&& 31)) w
    rw [e, b_0, b_shl w hw 1 hw, Nat.sub_self, b_1 (by decide)] at q
    simpa using q.symm
  · intro e
    apply b_ext
    intro i hi
    rw [b_and, b_0, b_shl w hw 1 hi]
    by_cases c : i = w
    · rw [c, e]
      rfl
    · by_cases c2 : w ≤ i
      · rw [b_1 (by omega), decide_eq_false (show ¬ i - w = 0 by omega)]
        simp
      · rw [decide_eq_false c2]
        simp
theorem bit_r {x : Int32} {w : Nat} (hw : w < 32) : ((x >>> (nI w &&& 31)) &&& 1 = 0) ↔ bt x w = false := by
  constructor
  · intro e
    have q := b_and (x >>> (nI w &&& 31)) 1 0
    rw [e, b_0, b_sshr w hw x (by decide), b_1 (by decide), if_pos (by omega), Nat.add_zero] at q
    simpa using q.symm
  · intro e
    apply b_ext
    intro i hi
    rw [b_and, b_0, b_1 hi]
    by_cases c : i = 0
    · subst c
      rw [b_sshr w hw x hi, if_pos (by omega), Nat.add_zero, e]
      rfl
    · rw [decide_eq_false c, Bool.and_false]
theorem bit_eq {x : Int32} {w : Nat} (hw : w < 32) : (x &&& ((1 : Int32) <<< (nI w &&& 31)) = 0) ↔ ((x >>> (nI w &&& 31)) &&& 1 = 0) := (bit_l hw).trans (bit_r hw).symm
theorem weeksFromTo_1 {h : Hp} {w : Nat} (hw : w < 20) : F_X6_weeksFromTo [.int (nI w), .int (nI w)] h = rtn (some (.int ((1 : Int32) <<< (nI w &&& 31)))) h := by
  rw [e_X6_weeksFromTo_0, wk_one w hw]
theorem skr_c : ∀ j, j < 4 → SKr (11 + 9 * j) 1 = 13 + 9 * j := by decide
theorem cls_a : ∀ j, j < 4 → memb (SKc (13 + 9 * j)) [10, 11, 12, 13, 14, 15, 16, 17, 18] = true ∧ memb (SKc (13 + 9 * j)) [10, 18] = true ∧ SKn (13 + 9 * j) = 7 ∧ Nat.beq (13 + 9 * j) 1000 = false ∧ Nat.beq (SKc (13 + 9 * j)) 10 = true := by decide
theorem alen_c {h : Hp} {j : Nat} (hj : j < 4) : alen SKn h (13 + 9 * j) = 7 := by
  obtain ⟨-, -, e1, e2, -⟩ := cls_a j hj
  unfold alen
  rw [e1]
  show cond (Nat.beq (13 + 9 * j) 1000) _ 7 = 7
  rw [e2]
  rfl
theorem closedWeeksOn_s {h : Hp} {j d : Nat} (hj : j < 4) (hd : d < 7) : F_X0_closedWeeksOn [.ref (11 + 9 * j), .int (nI d)] h = rtn (some (.int (rd h (13 + 9 * j) d))) h := by
  obtain ⟨e1, e2, e3, -, -⟩ := cls_a j hj
  rw [e_X0_closedWeeksOn_0, if_neg (nI_pos (n := d) (by omega)), okc_ap j hj, skr_c j hj, e1, e2, alen_c hj, if_pos (show nI d < Int32.ofNat 7 from nI_lt (a := d) (b := 7) hd (by decide)), inb_nI hd (by decide), nI_clamp (by omega)]
  rfl
theorem closeWeeksOn_s {h : Hp} {x : Int32} {j d : Nat} (hj : j < 4) (hd : d < 7) : F_X0_closeWeeksOn [.ref (11 + 9 * j), .int (nI d), .int x] h = rtn none (wr h (13 + 9 * j) d (rd h (13 + 9 * j) d ||| x)) := by
  obtain ⟨e1, e2, e3, -, e5⟩ := cls_a j hj
  rw [e_X0_closeWeeksOn_0, if_neg (nI_pos (n := d) (by omega)), okc_ap j hj, skr_c j hj, e1, e2, e3, e5, alen_c hj, if_pos (show nI d < Int32.ofNat 7 from nI_lt (a := d) (b := 7) hd (by decide)), inb_nI hd (by decide), nI_clamp (by omega)]
  rfl
/-! how many bits: the class's formula, the reference's loop -/
section POP
variable {x : Int32} {a m A M n s k : Nat}
def us (x k : Int32) : Int32 := (x.toUInt32 >>> (Int32.toUInt32 k &&& Int32.toUInt32 31)).toInt32
def bcY (x : Int32) : Int32 := x - (us x 1 &&& 1431655765)
def bcZ (y : Int32) : Int32 := (y &&& 858993459) + (us y 2 &&& 858993459)
def bcW (z : Int32) : Int32 := (z + us z 4) &&& 252645135
def bcV (w : Int32) : Int32 := ((w + us w 8) + us (w + us w 8) 16) &&& 63
theorem bitCount_f {h : Hp} : F_J6_bitCount_0f7a4 [.int x] h = rtn (some (.int (bcV (bcW (bcZ (bcY x)))))) h := e_J6_bitCount_0f7a4_0 x h
theorem bt_nI (hn : n < 2 ^ 32) {i : Nat} (hi : i < 32) : bt (nI n) i = n.testBit i := by
  show (BitVec.ofNat 32 n).getLsbD i = _
  rw [BitVec.getLsbD_ofNat, decide_eq_true hi, Bool.true_and]
theorem nI_and (ha : a < 2 ^ 32) (hm : m < 2 ^ 32) : nI a &&& nI m = nI (a &&& m) := by
  apply b_ext
  intro i hi
  rw [b_and, bt_nI ha hi, bt_nI hm hi, bt_nI (Nat.lt_of_le_of_lt Nat.and_le_left ha) hi, Nat.testBit_and]
theorem nI_us (hn : n < 2 ^ 32) (hk : k < 32) : us (nI n) (nI k) = nI (n >>> k) := by
  apply b_ext
  intro i hi
  have q : bt (us (nI n) (nI k)) i = bt (nI n) (k + i) := b_ushr k hk (nI n) i
  have hs : n >>> k < 2 ^ 32 := Nat.lt_of_le_of_lt (Nat.shiftRight_le n k) hn
  rw [q, bt_nI hs hi, Nat.testBit_shiftRight]
  by_cases c : k + i < 32
  · rw [bt_nI hn c]
  · rw [b_big (by omega)]
    symm
    apply Nat.testBit_lt_two_pow
    exact Nat.lt_of_lt_of_le hn (Nat.pow_le_pow_right (by decide) (by omega))
theorem nI_subN (h : m ≤ a) : nI a - nI m = nI (a - m) := by
  have e : nI a = nI (a - m) + nI m := by rw [nI_add, Nat.sub_add_cancel h]
  rw [e, Int32.add_sub_cancel]
def stN (m5 m3 n : Nat) : Nat := ((n - ((n >>> 1) &&& m5)) &&& m3) + (((n - ((n >>> 1) &&& m5)) >>> 2) &&& m3)
theorem land16 (ha : a < 16) (hA : A < 16) : (16 * m + a) &&& (16 * M + A) = 16 * (m &&& M) + (a &&& A) := by
  apply Nat.eq_of_testBit_eq
  intro i
  have h3 : a &&& A < 2 ^ 4 := Nat.lt_of_le_of_lt Nat.and_le_left ha
  rw [Nat.testBit_and, show (16 : Nat) = 2 ^ 4 from rfl, Nat.testBit_two_pow_mul_add _ ha, Nat.testBit_two_pow_mul_add _ hA, Nat.testBit_two_pow_mul_add _ h3]
  by_cases c : i < 4
  · rw [if_pos c, if_pos c, if_pos c, Nat.testBit_and]
  · rw [if_neg c, if_neg c, if_neg c, Nat.testBit_and]
theorem sland16 (hs : s ≤ 4) (ha : a < 16) (hA : A < 2 ^ (4 - s)) : ((16 * m + a) >>> s) &&& (16 * M + A) = 16 * ((m >>> s) &&& M) + ((a >>> s) &&& A) := by
  apply Nat.eq_of_testBit_eq
  intro i
  have hA2 : A < 2 ^ 4 := Nat.lt_of_lt_of_le hA (Nat.pow_le_pow_right (by decide) (by omega))
  have h3 : (a >>> s) &&& A < 2 ^ 4 := Nat.lt_of_le_of_lt Nat.and_le_right hA2
  rw [Nat.testBit_and, Nat.testBit_shiftRight, show (16 : Nat) = 2 ^ 4 from rfl, Nat.testBit_two_pow_mul_add _ ha, Nat.testBit_two_pow_mul_add _ hA2, Nat.testBit_two_pow_mul_add _ h3]
  by_cases c : i < 4
  · rw [if_pos c, if_pos c, Nat.testBit_and, Nat.testBit_shiftRight]
    by_cases c2 : s + i < 4
    · rw [if_pos c2]
    · have e : A.testBit i = false := Nat.testBit_lt_two_pow (Nat.lt_of_lt_of_le hA (Nat.pow_le_pow_right (by decide) (by omega)))
      rw [e, Bool.and_false, Bool.and_false]
  · rw [if_neg c, if_neg c, if_neg (by omega), Nat.testBit_and, Nat.testBit_shiftRight, show s + i - 4 = s + (i - 4) by omega]
theorem nib_le : ∀ a, a < 16 → (a >>> 1) &&& 5 ≤ a := by decide
theorem st_step (ha : a < 16) : stN (16 * A + 5) (16 * M + 3) (16 * m + a) = 16 * stN A M m + stN 5 3 a := by
  have q1 := nib_le a ha
  have q2 : (m >>> 1) &&& A ≤ m := Nat.le_trans Nat.and_le_left (Nat.shiftRight_le m 1)
  have e : 16 * m + a - (16 * ((m >>> 1) &&& A) + ((a >>> 1) &&& 5)) = 16 * (m - ((m >>> 1) &&& A)) + (a - ((a >>> 1) &&& 5)) := by omega
  unfold stN
  rw [sland16 (by decide) ha (by decide), e, land16 (by omega) (by decide), sland16 (by decide) (by omega) (by decide)]
  omega
theorem st_top : ∀ a, a < 16 → stN 21845 13107 a = stN 5 3 a := by decide +kernel
theorem st_cnt : ∀ a, a < 16 → stN 5 3 a = cnt (fun i => a.testBit i) 4 ∧ stN 5 3 a < 5 := by decide +kernel
theorem cnt_add (f : Nat → Bool) (n : Nat) : ∀ k, cnt f (n + k) = cnt f n + cnt (fun i => f (n + i)) k
  | 0 => rfl
  | k + 1 => by
    show cnt f (n + k) + _ = cnt f n + (cnt (fun i => f (n + i)) k + _)
    rw [cnt_add f n k]
    exact Nat.add_assoc _ _ _
theorem cnt_ext {f g : Nat → Bool} : ∀ n, (∀ i, i < n → f i = g i) → cnt f n = cnt g n
  | 0, _ => rfl
  | n + 1, h => by
    unfold cnt
    rw [cnt_ext n (fun i hi => h i (by omega)), h n (by omega)]
theorem cnt_nib (ha : a < 16) : cnt (fun i => (16 * m + a).testBit i) (4 + k) = cnt (fun i => a.testBit i) 4 + cnt (fun i => m.testBit i) k := by
  rw [cnt_add]
  congr 1
  · apply cnt_ext
    intro i hi
    show (2 ^ 4 * m + a).testBit i = _
    rw [Nat.testBit_two_pow_mul_add _ ha, if_pos hi]
  · apply cnt_ext
    intro i hi
    show (2 ^ 4 * m + a).testBit (4 + i) = _
    rw [Nat.testBit_two_pow_mul_add _ ha, if_neg (by omega), show 4 + i - 4 = i by omega]
theorem rest_all : ((List.range 3125).all fun v => decide (bcV (bcW (nI (16 * (16 * (16 * (16 * (v / 625) + v / 125 % 5) + v / 25 % 5) + v / 5 % 5) + v % 5))) = nI (v / 625 + v / 125 % 5 + v / 25 % 5 + v / 5 % 5 + v % 5))) = true := by decide +kernel
theorem rest_s {d0 d1 d2 d3 d4 : Nat} (h0 : d0 < 5) (h1 : d1 < 5) (h2 : d2 < 5) (h3 : d3 < 5) (h4 : d4 < 5) : bcV (bcW (nI (16 * (16 * (16 * (16 * d4 + d3) + d2) + d1) + d0))) = nI (d4 + d3 + d2 + d1 + d0) := by
  have q := of_decide_eq_true (List.all_eq_true.mp rest_all (d0 + 5 * d1 + 25 * d2 + 125 * d3 + 625 * d4) (List.mem_range.mpr (by omega)))
  rw [show (d0 + 5 * d1 + 25 * d2 + 125 * d3 + 625 * d4) / 625 = d4 by omega, show (d0 + 5 * d1 + 25 * d2 + 125 * d3 + 625 * d4) / 125 % 5 = d3 by omega, show (d0 + 5 * d1 + 25 * d2 + 125 * d3 + 625 * d4) / 25 % 5 = d2 by omega, show (d0 + 5 * d1 + 25 * d2 + 125 * d3 + 625 * d4) / 5 % 5 = d1 by omega, show (d0 + 5 * d1 + 25 * d2 + 125 * d3 + 625 * d4) % 5 = d0 by omega] at q
  exact q
theorem bcZY (hn : n < 2 ^ 20) : bcZ (bcY (nI n)) = nI (stN 1431655765 858993459 n) := by
  have h32 : n < 2 ^ 32 := by omega
  have q1 : (n >>> 1) &&& 1431655765 ≤ n := Nat.le_trans Nat.and_le_left (Nat.shiftRight_le n 1)
  have e1 : bcY (nI n) = nI (n - ((n >>> 1) &&& 1431655765)) := by
    unfold bcY
    show nI n - (us (nI n) (nI 1) &&& nI 1431655765) = _
    rw [nI_us h32 (by decide), nI_and (Nat.lt_of_le_of_lt (Nat.shiftRight_le n 1) h32) (by decide), nI_subN q1]
  rw [e1]
  generalize hy : n - ((n >>> 1) &&& 1431655765) = y
  have hy32 : y < 2 ^ 32 := by omega
  unfold bcZ stN
  show (nI y &&& nI 858993459) + (us (nI y) (nI 2) &&& nI 858993459) = _
  rw [nI_us hy32 (by decide), nI_and hy32 (by decide), nI_and (Nat.lt_of_le_of_lt (Nat.shiftRight_le y 2) hy32) (by decide), nI_add, hy]
theorem bc_nI (hn : n < 2 ^ 20) : bcV (bcW (bcZ (bcY (nI n)))) = nI (cnt (fun i => n.testBit i) 20) := by
  obtain ⟨a0, a1, a2, a3, a4, h0, h1, h2, h3, h4, e⟩ : ∃ a0 a1 a2 a3 a4 : Nat, a0 < 16 ∧ a1 < 16 ∧ a2 < 16 ∧ a3 < 16 ∧ a4 < 16 ∧ n = 16 * (16 * (16 * (16 * a4 + a3) + a2) + a1) + a0 :=
    ⟨n % 16, n / 16 % 16, n / 256 % 16, n / 4096 % 16, n / 65536, by omega, by omega, by omega, by omega, by omega, by omega⟩
  have es : stN 1431655765 858993459 n = 16 * (16 * (16 * (16 * stN 5 3 a4 + stN 5 3 a3) + stN 5 3 a2) + stN 5 3 a1) + stN 5 3 a0 := by
    rw [e, show 1431655765 = 16 * 89478485 + 5 from rfl, show 858993459 = 16 * 53687091 + 3 from rfl, st_step h0, show 89478485 = 16 * 5592405 + 5 from rfl, show 53687091 = 16 * 3355443 + 3 from rfl, st_step h1, show 5592405 = 16 * 349525 + 5 from rfl, show 3355443 = 16 * 209715 + 3 from rfl, st_step h2, show 349525 = 16 * 21845 + 5 from rfl, show 209715 = 16 * 13107 + 3 from rfl, st_step h3, st_top a4 h4]
  rw [bcZY hn, es, rest_s (st_cnt a0 h0).2 (st_cnt a1 h1).2 (st_cnt a2 h2).2 (st_cnt a3 h3).2 (st_cnt a4 h4).2, (st_cnt a0 h0).1, (st_cnt a1 h1).1, (st_cnt a2 h2).1, (st_cnt a3 h3).1, (st_cnt a4 h4).1, e]
  congr 1
  rw [show 20 = 4 + 16 from rfl, cnt_nib h0, show 16 = 4 + 12 from rfl, cnt_nib h1, show 12 = 4 + 8 from rfl, cnt_nib h2, show 8 = 4 + 4 from rfl, cnt_nib h3]
  omega
theorem bc_s (hb : ∀ i, 20 ≤ i → bt x i = false) : bcV (bcW (bcZ (bcY x))) = nI (cnt (bt x) 20) := by
  have e : x = nI x.toBitVec.toNat := Int32.toBitVec_inj.mp (by
    show x.toBitVec = BitVec.ofNat 32 x.toBitVec.toNat
    rw [BitVec.ofNat_toNat, BitVec.setWidth_eq])
  have hn : x.toBitVec.toNat < 2 ^ 20 := Nat.lt_pow_two_of_testBit _ (fun i hi => hb i hi)
  rw [e, bc_nI hn]
  congr 1
  apply cnt_ext
  intro i hi
  rw [bt_nI (by omega) (by omega)]
end POP
theorem cnt_zero {f : Nat → Bool} : ∀ n, (∀ i, i < n → f i = false) → cnt f n = 0
  | 0, _ => rfl
  | n + 1, h => by
    unfold cnt
    rw [cnt_zero n (fun i hi => h i (by omega)), h n (by omega)]
    rfl
theorem mask_all : ((List.range 20).all fun f => (List.range 20).all fun l => (List.range 32).all fun w => decide (l < f) || (bt (((1 : Int32) <<< (((nI l - nI f) + 1) &&& 31) - 1) <<< (nI f &&& 31)) w == (decide (f ≤ w) && decide (w ≤ l)))) = true := by decide +kernel
theorem mask_s {f l w : Nat} (hfl : f ≤ l) (hl : l < 20) : bt (((1 : Int32) <<< (((nI l - nI f) + 1) &&& 31) - 1) <<< (nI f &&& 31)) w = (decide (f ≤ w) && decide (w ≤ l)) := by
  by_cases hw : w < 32
  · have q := List.all_eq_true.mp (all2 mask_all (show f < 20 by omega) hl) w (List.mem_range.mpr hw)
    rw [decide_eq_false (by omega), Bool.false_or] at q
    exact eq_of_beq q
  · rw [b_big (by omega), decide_eq_false (show ¬ w ≤ l by omega), Bool.and_false]
theorem irg_6 {x : Int32} (e : irg x 0 6 = true) : ∃ j : Nat, j < 7 ∧ x = nI j := by
  obtain ⟨j, h1, h2⟩ := irg_nI (n := 6) (by decide) e
  exact ⟨j, by omega, h2⟩
section USES
variable {h g : Hp} {i : Nat}
def ubX (h : Hp) (i : Nat) : Int32 := rd h (13 + 9 * (rd h (107 + i) 0).toNatClampNeg) (rd h (107 + i) 2).toNatClampNeg ||| rd h (107 + i) 10
def ubF (h : Hp) (i w : Nat) : Bool := bt (ubX h i) w && (decide ((rd h (107 + i) 4).toNatClampNeg ≤ w) && decide (w ≤ (rd h (107 + i) 5).toNatClampNeg))
def usd (h : Hp) (i : Nat) : Nat := cnt (ubF h i) 20
theorem weeksUsed_s (hi : i < 60) (S : SLT7 h (107 + i)) : F_X6_weeksUsed [.ref 0, .ref (107 + i)] h = rtn (some (.int (nI (usd h i)))) h := by
  obtain ⟨v1, -, v3, -, v5, v6, -⟩ := S
  obtain ⟨a, ha, ea⟩ := irg_3 v1
  obtain ⟨d, hd, ed⟩ := irg_6 v3
  obtain ⟨f, l, hfl, hl, ef, el⟩ := irg_fl v5 v6
  rw [e_X6_weeksUsed_0, (okc_sr i (by omega)).1]
  simp only [gd_t]
  rw [ea, airportAt_s ha, bR_r, okc_ap a ha, gd_t, ed, closedWeeksOn_s ha hd, bI_r, ef, el, e_X6_weeksFromTo_0, bI_r, bitCount_f, bI_r]
  congr 3
  have hX : ∀ w, bt ((rd h (13 + 9 * a) d ||| rd h (107 + i) 10) &&& (((1 : Int32) <<< (((nI l - nI f) + 1) &&& 31) - 1) <<< (nI f &&& 31))) w = ubF h i w := by
    intro w
    unfold ubF ubX
    rw [ea, ed, ef, el, nI_clamp (by omega), nI_clamp (by omega), nI_clamp (by omega), nI_clamp (by omega), b_and, mask_s hfl hl]
  rw [bc_s (fun w hw => by
    rw [hX]
    unfold ubF
    rw [el, nI_clamp (by omega), decide_eq_false (show ¬ w ≤ l by omega), Bool.and_false, Bool.and_false])]
  unfold usd
  congr 1
  exact cnt_ext 20 (fun w _ => hX w)
def wkS (h : Hp) (i : Nat) : Int32 := rd h (107 + i) 5 - rd h (107 + i) 4 + 1
def eaB (h : Hp) (i : Nat) : Bool := decide (rd h (107 + i) 12 = 0) && (!decide (wkS h i < 5) && !decide (nI (usd h i) * 100 < wkS h i * 80))
theorem earnsRight_s (hi : i < 60) (S : SLT7 h (107 + i)) : F_X6_earnsRight [.ref 0, .ref (107 + i)] h = rtn (some (.int (bi (eaB h i)))) h := by
  rw [e_X6_earnsRight_0, (okc_sr i (by omega)).1, e_X5_weeks_0, (okc_sr i (by omega)).2]
  simp only [gd_t, bI_r]
  rw [weeksUsed_s hi S, bI_r]
  show (if rd h (107 + i) 12 = 0 then if wkS h i < 5 then _ else if nI (usd h i) * 100 < wkS h i * 80 then _ else _ else _) = _
  unfold eaB
  by_cases c1 : rd h (107 + i) 12 = 0
  · by_cases c2 : wkS h i < 5
    · simp [c1, c2, bi]
    · by_cases c4 : nI (usd h i) * 100 < wkS h i * 80
      · simp [c1, c2, c4, bi]
      · simp [c1, c2, c4, bi]
  · simp [c1, bi]
theorem eaB_5 (S : SLT7 h (107 + i)) (e : eaB h i = true) : ∃ f l : Nat, f + 4 ≤ l ∧ l < 20 ∧ rd h (107 + i) 4 = nI f ∧ rd h (107 + i) 5 = nI l := by
  obtain ⟨f, l, hfl, hl, ef, el⟩ := irg_fl S.2.2.2.2.1 S.2.2.2.2.2.1
  refine ⟨f, l, ?_, hl, ef, el⟩
  unfold eaB wkS at e
  simp only [Bool.and_eq_true, Bool.not_eq_true', decide_eq_false_iff_not] at e
  have e2 := e.2.1
  rw [ef, el, nI_subN hfl, nI_1, show (5 : Int32) = nI 5 from rfl, nI_ltI (by omega) (by decide)] at e2
  omega
/-- what it hangs on -/
theorem eaB_c {h g : Hp} (e : ∀ k, rd g (107 + i) k = rd h (107 + i) k) (e2 : ∀ a d, a < 4 → rd g (13 + 9 * a) d = rd h (13 + 9 * a) d) (S : SLT7 h (107 + i)) : eaB g i = eaB h i := by
  obtain ⟨a, ha, ea⟩ := irg_3 S.1
  have q : usd g i = usd h i := by
    unfold usd
    apply cnt_ext
    intro w _
    unfold ubF ubX
    rw [e, e, e, e, e, ea, nI_clamp (by omega), e2 a _ ha]
  unfold eaB wkS
  rw [q, e, e, e]
end USES
