/-! the law's arithmetic: written numbers -/
section NUMS
variable {a : Nat}
theorem nd_2 : (!decide ((2 : Nat) = 0)) = true := rfl
theorem d_2 (ha : a < 2 ^ 31) : nI a / 2 = nI (a / 2) := pk_div (d := 2) ha (by decide) (by decide)
theorem m_2 (ha : a < 2 ^ 31) : nI a - nI a / 2 * 2 = nI (a % 2) := pk_rem (d := 2) ha (by decide) (by decide)
theorem nd_3 : (!decide ((3 : Nat) = 0)) = true := rfl
theorem d_3 (ha : a < 2 ^ 31) : nI a / 3 = nI (a / 3) := pk_div (d := 3) ha (by decide) (by decide)
theorem m_3 (ha : a < 2 ^ 31) : nI a - nI a / 3 * 3 = nI (a % 3) := pk_rem (d := 3) ha (by decide) (by decide)
theorem nd_5 : (!decide ((5 : Nat) = 0)) = true := rfl
theorem d_5 (ha : a < 2 ^ 31) : nI a / 5 = nI (a / 5) := pk_div (d := 5) ha (by decide) (by decide)
theorem m_5 (ha : a < 2 ^ 31) : nI a - nI a / 5 * 5 = nI (a % 5) := pk_rem (d := 5) ha (by decide) (by decide)
theorem nd_6 : (!decide ((6 : Nat) = 0)) = true := rfl
theorem d_6 (ha : a < 2 ^ 31) : nI a / 6 = nI (a / 6) := pk_div (d := 6) ha (by decide) (by decide)
theorem m_6 (ha : a < 2 ^ 31) : nI a - nI a / 6 * 6 = nI (a % 6) := pk_rem (d := 6) ha (by decide) (by decide)
theorem nd_7 : (!decide ((7 : Nat) = 0)) = true := rfl
theorem d_7 (ha : a < 2 ^ 31) : nI a / 7 = nI (a / 7) := pk_div (d := 7) ha (by decide) (by decide)
theorem m_7 (ha : a < 2 ^ 31) : nI a - nI a / 7 * 7 = nI (a % 7) := pk_rem (d := 7) ha (by decide) (by decide)
theorem nd_8 : (!decide ((8 : Nat) = 0)) = true := rfl
theorem d_8 (ha : a < 2 ^ 31) : nI a / 8 = nI (a / 8) := pk_div (d := 8) ha (by decide) (by decide)
theorem m_8 (ha : a < 2 ^ 31) : nI a - nI a / 8 * 8 = nI (a % 8) := pk_rem (d := 8) ha (by decide) (by decide)
theorem nd_9 : (!decide ((9 : Nat) = 0)) = true := rfl
theorem d_9 (ha : a < 2 ^ 31) : nI a / 9 = nI (a / 9) := pk_div (d := 9) ha (by decide) (by decide)
theorem m_9 (ha : a < 2 ^ 31) : nI a - nI a / 9 * 9 = nI (a % 9) := pk_rem (d := 9) ha (by decide) (by decide)
theorem nd_10 : (!decide ((10 : Nat) = 0)) = true := rfl
theorem d_10 (ha : a < 2 ^ 31) : nI a / 10 = nI (a / 10) := pk_div (d := 10) ha (by decide) (by decide)
theorem m_10 (ha : a < 2 ^ 31) : nI a - nI a / 10 * 10 = nI (a % 10) := pk_rem (d := 10) ha (by decide) (by decide)
theorem nd_12 : (!decide ((12 : Nat) = 0)) = true := rfl
theorem d_12 (ha : a < 2 ^ 31) : nI a / 12 = nI (a / 12) := pk_div (d := 12) ha (by decide) (by decide)
theorem m_12 (ha : a < 2 ^ 31) : nI a - nI a / 12 * 12 = nI (a % 12) := pk_rem (d := 12) ha (by decide) (by decide)
theorem nd_14 : (!decide ((14 : Nat) = 0)) = true := rfl
theorem d_14 (ha : a < 2 ^ 31) : nI a / 14 = nI (a / 14) := pk_div (d := 14) ha (by decide) (by decide)
theorem m_14 (ha : a < 2 ^ 31) : nI a - nI a / 14 * 14 = nI (a % 14) := pk_rem (d := 14) ha (by decide) (by decide)
theorem nd_18 : (!decide ((18 : Nat) = 0)) = true := rfl
theorem d_18 (ha : a < 2 ^ 31) : nI a / 18 = nI (a / 18) := pk_div (d := 18) ha (by decide) (by decide)
theorem m_18 (ha : a < 2 ^ 31) : nI a - nI a / 18 * 18 = nI (a % 18) := pk_rem (d := 18) ha (by decide) (by decide)
theorem nd_20 : (!decide ((20 : Nat) = 0)) = true := rfl
theorem d_20 (ha : a < 2 ^ 31) : nI a / 20 = nI (a / 20) := pk_div (d := 20) ha (by decide) (by decide)
theorem m_20 (ha : a < 2 ^ 31) : nI a - nI a / 20 * 20 = nI (a % 20) := pk_rem (d := 20) ha (by decide) (by decide)
theorem nd_22 : (!decide ((22 : Nat) = 0)) = true := rfl
theorem d_22 (ha : a < 2 ^ 31) : nI a / 22 = nI (a / 22) := pk_div (d := 22) ha (by decide) (by decide)
theorem m_22 (ha : a < 2 ^ 31) : nI a - nI a / 22 * 22 = nI (a % 22) := pk_rem (d := 22) ha (by decide) (by decide)
theorem nd_30 : (!decide ((30 : Nat) = 0)) = true := rfl
theorem d_30 (ha : a < 2 ^ 31) : nI a / 30 = nI (a / 30) := pk_div (d := 30) ha (by decide) (by decide)
theorem m_30 (ha : a < 2 ^ 31) : nI a - nI a / 30 * 30 = nI (a % 30) := pk_rem (d := 30) ha (by decide) (by decide)
theorem nd_60 : (!decide ((60 : Nat) = 0)) = true := rfl
theorem d_60 (ha : a < 2 ^ 31) : nI a / 60 = nI (a / 60) := pk_div (d := 60) ha (by decide) (by decide)
theorem m_60 (ha : a < 2 ^ 31) : nI a - nI a / 60 * 60 = nI (a % 60) := pk_rem (d := 60) ha (by decide) (by decide)
theorem nd_72 : (!decide ((72 : Nat) = 0)) = true := rfl
theorem d_72 (ha : a < 2 ^ 31) : nI a / 72 = nI (a / 72) := pk_div (d := 72) ha (by decide) (by decide)
theorem m_72 (ha : a < 2 ^ 31) : nI a - nI a / 72 * 72 = nI (a % 72) := pk_rem (d := 72) ha (by decide) (by decide)
theorem nd_120 : (!decide ((120 : Nat) = 0)) = true := rfl
theorem d_120 (ha : a < 2 ^ 31) : nI a / 120 = nI (a / 120) := pk_div (d := 120) ha (by decide) (by decide)
theorem m_120 (ha : a < 2 ^ 31) : nI a - nI a / 120 * 120 = nI (a % 120) := pk_rem (d := 120) ha (by decide) (by decide)
theorem nd_400 : (!decide ((400 : Nat) = 0)) = true := rfl
theorem d_400 (ha : a < 2 ^ 31) : nI a / 400 = nI (a / 400) := pk_div (d := 400) ha (by decide) (by decide)
theorem m_400 (ha : a < 2 ^ 31) : nI a - nI a / 400 * 400 = nI (a % 400) := pk_rem (d := 400) ha (by decide) (by decide)
theorem nd_1008 : (!decide ((1008 : Nat) = 0)) = true := rfl
theorem d_1008 (ha : a < 2 ^ 31) : nI a / 1008 = nI (a / 1008) := pk_div (d := 1008) ha (by decide) (by decide)
theorem m_1008 (ha : a < 2 ^ 31) : nI a - nI a / 1008 * 1008 = nI (a % 1008) := pk_rem (d := 1008) ha (by decide) (by decide)
theorem nd_12096 : (!decide ((12096 : Nat) = 0)) = true := rfl
theorem d_12096 (ha : a < 2 ^ 31) : nI a / 12096 = nI (a / 12096) := pk_div (d := 12096) ha (by decide) (by decide)
theorem m_12096 (ha : a < 2 ^ 31) : nI a - nI a / 12096 * 12096 = nI (a % 12096) := pk_rem (d := 12096) ha (by decide) (by decide)
theorem ib_0 : inb 0 18 = true := by decide
theorem tc_0 : ((0 : Int32).toNatClampNeg) = 0 := by decide
theorem ib_1 : inb 1 18 = true := by decide
theorem tc_1 : ((1 : Int32).toNatClampNeg) = 1 := by decide
theorem ib_2 : inb 2 18 = true := by decide
theorem tc_2 : ((2 : Int32).toNatClampNeg) = 2 := by decide
theorem ib_3 : inb 3 18 = true := by decide
theorem tc_3 : ((3 : Int32).toNatClampNeg) = 3 := by decide
theorem dv_lt {d : Nat} (ha : a < 2 ^ 31) : a / d < 2 ^ 31 := Nat.lt_of_le_of_lt (Nat.div_le_self a d) ha
theorem n200 (ha : a < 2 ^ 31) : nI a ≠ -200 := fun z => by
  have h1 := nI_pos (n := a) ha
  rw [z] at h1
  exact h1 (by decide)
end NUMS
/-- what holds between two steps of the law -/
def J (h : Hp) : Prop := Inv h ∧ DD h
def Good (r : Res) (h : Hp) : Prop := ∃ g, r = rtn (some (.int 1)) g ∧ J g ∧ Scr h g
section LAWA
variable {h g : Hp} {i j k n m a b r c s v : Nat} {x x1 x2 x3 x4 x5 x6 x7 x8 x9 : Int32}
theorem Good.of (H : J g) (S : Scr h g) : Good (rtn (some (.int 1)) g) h := ⟨g, rfl, H, S⟩
theorem bit_v {x : Int32} {w : Nat} (hw : w < 32) : (x >>> (nI w &&& 31)) &&& 1 = bi (bt x w) := by
  apply b_ext
  intro i hi
  rw [b_and, b_1 hi]
  by_cases c : i = 0
  · subst c
    rw [b_sshr w hw x hi, if_pos (by omega), Nat.add_zero]
    cases bt x w <;> simp [bi, b_0, b_1]
  · rw [decide_eq_false c, Bool.and_false]
    cases bt x w
    · exact (b_0 i).symm
    · rw [bi_t, b_1 hi, decide_eq_false c]
/-! who waits, who is offered, who is given -/
theorem areOrdered_l (I : Inv h) (e0 : rd h 227 0 = rd h 0 10) : ∀ (n k : Nat), k + n = nq h → f_L_areOrdered_5 1 (nI k) h = rtn (some (.int 1)) h
  | 0, k, e => by
    have h60 := I.1.1.q.1
    rw [e_L_areOrdered_5, ib_0, gd_t, tc_0, e0, I.1.1.q.2, if_neg (nI_nlt (by omega) (by omega))]
    rfl
  | n + 1, k, e => by
    have V := I.1.1
    have h60 := V.q.1
    have h61 := V.s.1
    have ih := areOrdered_l I e0 n (k + 1) (by omega)
    obtain ⟨t1, t2, t3, t4, t5⟩ := I.1.2.2.2.2.2.1 k (by omega)
    obtain ⟨v, q1, q2⟩ := ahead_s I (i := k) (by omega)
    rw [e_L_areOrdered_5, ib_0, gd_t, tc_0, e0, V.q.2, if_pos (nI_lt (by omega) (by omega)), if_neg one_ne, reqOf_0 V (by omega), bI_r, q1, bI_r]
    simp only [e_L_areOrdered_41, e_L_areOrdered_52, e_L_areOrdered_71, e_L_areOrdered_82, e_L_areOrdered_101, e_L_areOrdered_112, e_L_areOrdered_139, e_L_areOrdered_143, e_L_areOrdered_144, nI_1, reqOf_3 V (show k < nq h by omega), reqOf_2 V (show k < nq h by omega), bI_r, ih]
    obtain ⟨s, hs, es⟩ := irg_3 t1
    have hs4 : s = 0 ∨ s = 1 ∨ s = 2 ∨ s = 3 := by omega
    rcases hs4 with rfl | rfl | rfl | rfl
    · have es : rd h (47 + k) 9 = 0 := es
      rw [t3 (by rw [es]; decide), t4 (by rw [es]; decide), es, if_pos (q2.mpr (Or.inl es))]
      rfl
    · have es : rd h (47 + k) 9 = 1 := es
      obtain ⟨j, j1, j2, j3⟩ := t5 es
      have e8 : F_X6_seriesOf [.ref 0, .int (nI j), .int 8] h = rtn (some (.int (nI k))) h := (serOf_s V j1 8 (by decide)).trans (by rw [show nthN [8, 9, 0, 1, 2, 3, 4, 5, 7, 0, 11] 8 = 7 from rfl, j3])
      rw [t3 (by rw [es]; decide), j2, es, if_pos (q2.mpr (Or.inr es)), if_neg (nI_m1 (by omega))]
      simp only [e8, bI_r, eq_self, if_true, ih]
      rfl
    · have es : rd h (47 + k) 9 = 2 := es
      have hv : v ≠ -1 := fun z => by
        rcases q2.mp z with w | w <;> rw [es] at w <;> exact absurd w (by decide)
      have ho : rd h (47 + k) 12 ≠ -1 := fun z => by
        have w := t2 es
        rw [z] at w
        exact absurd w (by decide)
      rw [t4 (by rw [es]; decide), es, if_neg hv, if_neg ho]
      rfl
    · have es : rd h (47 + k) 9 = 3 := es
      have hv : v ≠ -1 := fun z => by
        rcases q2.mp z with w | w <;> rw [es] at w <;> exact absurd w (by decide)
      rw [t3 (by rw [es]; decide), t4 (by rw [es]; decide), es, if_neg hv]
      rfl
theorem areOrdered_s (I : Inv h) (e0 : rd h 227 0 = rd h 0 10) : F_L_areOrdered [.ref 0, .ref 227, .int x] h = rtn (some (.int 1)) h := by
  rw [e_L_areOrdered_0]
  exact areOrdered_l I e0 (nq h) 0 (by omega)
end LAWA
