/-! how many bits: the class's formula, the reference's loop -/
section POP
variable {x : Int32} {a m A M n s k : Nat}
def us (x k : Int32) : Int32 := (x.toUInt32 >>> (Int32.toUInt32 k &&& Int32.toUInt32 31)).toInt32
def bcY (x : Int32) : Int32 := x - (us x 1 &&& 1431655765)
def bcZ (y : Int32) : Int32 := (y &&& 858993459) + (us y 2 &&& 858993459)
def bcW (z : Int32) : Int32 := (z + us z 4) &&& 252645135
def bcV (w : Int32) : Int32 := ((w + us w 8) + us (w + us w 8) 16) &&& 63
theorem bitCount_f {h : Hp} : F_J6_bitCount_0f7a4 [.int x] h = rtn (some (.int (bcV (bcW (bcZ (bcY x)))))) h := e_J6_bitCount_0f7a4_0 x h
theorem bt_nI (hn : n < 2 ^ 32) {i : Nat} (hi : i < 32) : bt (nI n) i = n.testBit i := by
  show (BitVec.ofNat 32 n).getLsbD i = _
  rw [BitVec.getLsbD_ofNat, decide_eq_true hi, Bool.true_and]
theorem nI_and (ha : a < 2 ^ 32) (hm : m < 2 ^ 32) : nI a &&& nI m = nI (a &&& m) := by
  apply b_ext
  intro i hi
  rw [b_and, bt_nI ha hi, bt_nI hm hi, bt_nI (Nat.lt_of_le_of_lt Nat.and_le_left ha) hi, Nat.testBit_and]
theorem nI_us (hn : n < 2 ^ 32) (hk : k < 32) : us (nI n) (nI k) = nI (n >>> k) := by
  apply b_ext
  intro i hi
  have q : bt (us (nI n) (nI k)) i = bt (nI n) (k + i) := b_ushr k hk (nI n) i
  have hs : n >>> k < 2 ^ 32 := Nat.lt_of_le_of_lt (Nat.shiftRight_le n k) hn
  rw [q, bt_nI hs hi, Nat.testBit_shiftRight]
  by_cases c : k + i < 32
  · rw [bt_nI hn c]
  · rw [b_big (by omega)]
    symm
    apply Nat.testBit_lt_two_pow
    exact Nat.lt_of_lt_of_le hn (Nat.pow_le_pow_right (by decide) (by omega))
theorem nI_subN (h : m ≤ a) : nI a - nI m = nI (a - m) := by
  have e : nI a = nI (a - m) + nI m := by rw [nI_add, Nat.sub_add_cancel h]
  rw [e, Int32.add_sub_cancel]
def stN (m5 m3 n : Nat) : Nat := ((n - ((n >>> 1) &&& m5)) &&& m3) + (((n - ((n >>> 1) &&& m5)) >>> 2) &&& m3)
theorem land16 (ha : a < 16) (hA : A < 16) : (16 * m + a) &&& (16 * M + A) = 16 * (m &&& M) + (a &&& A) := by
  apply Nat.eq_of_testBit_eq
  intro i
  have h3 : a &&& A < 2 ^ 4 := Nat.lt_of_le_of_lt Nat.and_le_left ha
  rw [Nat.testBit_and, show (16 : Nat) = 2 ^ 4 from rfl, Nat.testBit_two_pow_mul_add _ ha, Nat.testBit_two_pow_mul_add _ hA, Nat.testBit_two_pow_mul_add _ h3]
  by_cases c : i < 4
  · rw [if_pos c, if_pos c, if_pos c, Nat.testBit_and]
  · rw [if_neg c, if_neg c, if_neg c, Nat.testBit_and]
theorem sland16 (hs : s ≤ 4) (ha : a < 16) (hA : A < 2 ^ (4 - s)) : ((16 * m + a) >>> s) &&& (16 * M + A) = 16 * ((m >>> s) &&& M) + ((a >>> s) &&& A) := by
  apply Nat.eq_of_testBit_eq
  intro i
  have hA2 : A < 2 ^ 4 := Nat.lt_of_lt_of_le hA (Nat.pow_le_pow_right (by decide) (by omega))
  have h3 : (a >>> s) &&& A < 2 ^ 4 := Nat.lt_of_le_of_lt Nat.and_le_right hA2
  rw [Nat.testBit_and, Nat.testBit_shiftRight, show (16 : Nat) = 2 ^ 4 from rfl, Nat.testBit_two_pow_mul_add _ ha, Nat.testBit_two_pow_mul_add _ hA2, Nat.testBit_two_pow_mul_add _ h3]
  by_cases c : i < 4
  · rw [if_pos c, if_pos c, Nat.testBit_and, Nat.testBit_shiftRight]
    by_cases c2 : s + i < 4
    · rw [if_pos c2]
    · have e : A.testBit i = false := Nat.testBit_lt_two_pow (Nat.lt_of_lt_of_le hA (Nat.pow_le_pow_right (by decide) (by omega)))
      rw [e, Bool.and_false, Bool.and_false]
  · rw [if_neg c, if_neg c, if_neg (by omega), Nat.testBit_and, Nat.testBit_shiftRight, show s + i - 4 = s + (i - 4) by omega]
theorem nib_le : ∀ a, a < 16 → (a >>> 1) &&& 5 ≤ a := by decide
theorem st_step (ha : a < 16) : stN (16 * A + 5) (16 * M + 3) (16 * m + a) = 16 * stN A M m + stN 5 3 a := by
  have q1 := nib_le a ha
  have q2 : (m >>> 1) &&& A ≤ m := Nat.le_trans Nat.and_le_left (Nat.shiftRight_le m 1)
  have e : 16 * m + a - (16 * ((m >>> 1) &&& A) + ((a >>> 1) &&& 5)) = 16 * (m - ((m >>> 1) &&& A)) + (a - ((a >>> 1) &&& 5)) := by omega
  unfold stN
  rw [sland16 (by decide) ha (by decide), e, land16 (by omega) (by decide), sland16 (by decide) (by omega) (by decide)]
  omega
theorem st_top : ∀ a, a < 16 → stN 21845 13107 a = stN 5 3 a := by decide +kernel
theorem st_cnt : ∀ a, a < 16 → stN 5 3 a = cnt (fun i => a.testBit i) 4 ∧ stN 5 3 a < 5 := by decide +kernel
theorem cnt_add (f : Nat → Bool) (n : Nat) : ∀ k, cnt f (n + k) = cnt f n + cnt (fun i => f (n + i)) k
  | 0 => rfl
  | k + 1 => by
    show cnt f (n + k) + _ = cnt f n + (cnt (fun i => f (n + i)) k + _)
    rw [cnt_add f n k]
    exact Nat.add_assoc _ _ _
theorem cnt_ext {f g : Nat → Bool} : ∀ n, (∀ i, i < n → f i = g i) → cnt f n = cnt g n
  | 0, _ => rfl
  | n + 1, h => by
    unfold cnt
    rw [cnt_ext n (fun i hi => h i (by omega)), h n (by omega)]
theorem cnt_nib (ha : a < 16) : cnt (fun i => (16 * m + a).testBit i) (4 + k) = cnt (fun i => a.testBit i) 4 + cnt (fun i => m.testBit i) k := by
  rw [cnt_add]
  congr 1
  · apply cnt_ext
    intro i hi
    show (2 ^ 4 * m + a).testBit i = _
    rw [Nat.testBit_two_pow_mul_add _ ha, if_pos hi]
  · apply cnt_ext
    intro i hi
    show (2 ^ 4 * m + a).testBit (4 + i) = _
    rw [Nat.testBit_two_pow_mul_add _ ha, if_neg (by omega), show 4 + i - 4 = i by omega]
theorem rest_all : ((List.range 3125).all fun v => decide (bcV (bcW (nI (16 * (16 * (16 * (16 * (v / 625) + v / 125 % 5) + v / 25 % 5) + v / 5 % 5) + v % 5))) = nI (v / 625 + v / 125 % 5 + v / 25 % 5 + v / 5 % 5 + v % 5))) = true := by decide +kernel
theorem rest_s {d0 d1 d2 d3 d4 : Nat} (h0 : d0 < 5) (h1 : d1 < 5) (h2 : d2 < 5) (h3 : d3 < 5) (h4 : d4 < 5) : bcV (bcW (nI (16 * (16 * (16 * (16 * d4 + d3) + d2) + d1) + d0))) = nI (d4 + d3 + d2 + d1 + d0) := by
  have q := of_decide_eq_true (List.all_eq_true.mp rest_all (d0 + 5 * d1 + 25 * d2 + 125 * d3 + 625 * d4) (List.mem_range.mpr (by omega)))
  rw [show (d0 + 5 * d1 + 25 * d2 + 125 * d3 + 625 * d4) / 625 = d4 by omega, show (d0 + 5 * d1 + 25 * d2 + 125 * d3 + 625 * d4) / 125 % 5 = d3 by omega, show (d0 + 5 * d1 + 25 * d2 + 125 * d3 + 625 * d4) / 25 % 5 = d2 by omega, show (d0 + 5 * d1 + 25 * d2 + 125 * d3 + 625 * d4) / 5 % 5 = d1 by omega, show (d0 + 5 * d1 + 25 * d2 + 125 * d3 + 625 * d4) % 5 = d0 by omega] at q
  exact q
theorem bcZY (hn : n < 2 ^ 20) : bcZ (bcY (nI n)) = nI (stN 1431655765 858993459 n) := by
  have h32 : n < 2 ^ 32 := by omega
  have q1 : (n >>> 1) &&& 1431655765 ≤ n := Nat.le_trans Nat.and_le_left (Nat.shiftRight_le n 1)
  have e1 : bcY (nI n) = nI (n - ((n >>> 1) &&& 1431655765)) := by
    unfold bcY
    show nI n - (us (nI n) (nI 1) &&& nI 1431655765) = _
    rw [nI_us h32 (by decide), nI_and (Nat.lt_of_le_of_lt (Nat.shiftRight_le n 1) h32) (by decide), nI_subN q1]
  rw [e1]
  generalize hy : n - ((n >>> 1) &&& 1431655765) = y
  have hy32 : y < 2 ^ 32 := by omega
  unfold bcZ stN
  show (nI y &&& nI 858993459) + (us (nI y) (nI 2) &&& nI 858993459) = _
  rw [nI_us hy32 (by decide), nI_and hy32 (by decide), nI_and (Nat.lt_of_le_of_lt (Nat.shiftRight_le y 2) hy32) (by decide), nI_add, hy]
theorem bc_nI (hn : n < 2 ^ 20) : bcV (bcW (bcZ (bcY (nI n)))) = nI (cnt (fun i => n.testBit i) 20) := by
  obtain ⟨a0, a1, a2, a3, a4, h0, h1, h2, h3, h4, e⟩ : ∃ a0 a1 a2 a3 a4 : Nat, a0 < 16 ∧ a1 < 16 ∧ a2 < 16 ∧ a3 < 16 ∧ a4 < 16 ∧ n = 16 * (16 * (16 * (16 * a4 + a3) + a2) + a1) + a0 :=
    ⟨n % 16, n / 16 % 16, n / 256 % 16, n / 4096 % 16, n / 65536, by omega, by omega, by omega, by omega, by omega, by omega⟩
  have es : stN 1431655765 858993459 n = 16 * (16 * (16 * (16 * stN 5 3 a4 + stN 5 3 a3) + stN 5 3 a2) + stN 5 3 a1) + stN 5 3 a0 := by
    rw [e, show 1431655765 = 16 * 89478485 + 5 from rfl, show 858993459 = 16 * 53687091 + 3 from rfl, st_step h0, show 89478485 = 16 * 5592405 + 5 from rfl, show 53687091 = 16 * 3355443 + 3 from rfl, st_step h1, show 5592405 = 16 * 349525 + 5 from rfl, show 3355443 = 16 * 209715 + 3 from rfl, st_step h2, show 349525 = 16 * 21845 + 5 from rfl, show 209715 = 16 * 13107 + 3 from rfl, st_step h3, st_top a4 h4]
  rw [bcZY hn, es, rest_s (st_cnt a0 h0).2 (st_cnt a1 h1).2 (st_cnt a2 h2).2 (st_cnt a3 h3).2 (st_cnt a4 h4).2, (st_cnt a0 h0).1, (st_cnt a1 h1).1, (st_cnt a2 h2).1, (st_cnt a3 h3).1, (st_cnt a4 h4).1, e]
  congr 1
  rw [show 20 = 4 + 16 from rfl, cnt_nib h0, show 16 = 4 + 12 from rfl, cnt_nib h1, show 12 = 4 + 8 from rfl, cnt_nib h2, show 8 = 4 + 4 from rfl, cnt_nib h3]
  omega
theorem bc_s (hb : ∀ i, 20 ≤ i → bt x i = false) : bcV (bcW (bcZ (bcY x))) = nI (cnt (bt x) 20) := by
  have e : x = nI x.toBitVec.toNat := Int32.toBitVec_inj.mp (by
    show x.toBitVec = BitVec.ofNat 32 x.toBitVec.toNat
    rw [BitVec.ofNat_toNat, BitVec.setWidth_eq])
  have hn : x.toBitVec.toNat < 2 ^ 20 := Nat.lt_pow_two_of_testBit _ (fun i hi => hb i hi)
  rw [e, bc_nI hn]
  congr 1
  apply cnt_ext
  intro i hi
  rw [bt_nI (by omega) (by omega)]
end POP
