/-! ===== what is left is arithmetic: the class's functions and the reference's, over the heap of numbers ===== -/
section BASE
variable {h : Hp} {x y : Int32} {E : Nat} {a k b j : Nat}
theorem gd_t (r : Res) : gd true r = r := rfl
theorem bI_r {f : Int32 → Hp → Res} {kx : Nat → Hp → Res} : bI (rtn (some (.int x)) h) f kx = f x h := rfl
theorem bI_t {f : Int32 → Hp → Res} {kx : Nat → Hp → Res} : bI (thr E h) f kx = kx E h := rfl
theorem bV_r {f : Hp → Res} {kx : Nat → Hp → Res} : bV (rtn none h) f kx = f h := rfl
theorem bV_t {f : Hp → Res} {kx : Nat → Hp → Res} : bV (thr E h) f kx = kx E h := rfl
theorem bR_r {f : Nat → Hp → Res} {kx : Nat → Hp → Res} : bR (rtn (some (.ref a)) h) f kx = f a h := rfl
theorem bR_t {f : Nat → Hp → Res} {kx : Nat → Hp → Res} : bR (thr E h) f kx = kx E h := rfl
theorem hnk_n : hnk [] E h = thr E h := rfl
theorem rd_wrx : rd (wr h a k x) b j = if b = a ∧ j = k then x else rd h b j := rfl
theorem rd_wrLx {v : Int64} : rd (wrL h k v) b j = rd h b j := rfl
theorem rdL_wrx : rdL (wr h a k x) j = rdL h j := rfl
theorem rdL_wrLx {v : Int64} : rdL (wrL h k v) j = if j = k then v else rdL h j := rfl
/-- a truth as a number -/
def bi (b : Bool) : Int32 := match b with
  | true => 1
  | false => 0
theorem bi_t : bi true = 1 := rfl
theorem bi_f : bi false = 0 := rfl
theorem bi_0 {b : Bool} : (bi b = 0) = (b = false) := by cases b <;> simp [bi]
theorem bi_1 {b : Bool} : (bi b = 1) = (b = true) := by cases b <;> simp [bi]
/-- in a range -/
def irg (x a b : Int32) : Bool := !decide (x < a) && !decide (b < x)
theorem irg_t {a b : Int32} (e : irg x a b = true) : ¬ x < a ∧ ¬ b < x := by
  unfold irg at e
  simpa using e
theorem irg_nI {n : Nat} (hn : n < 2 ^ 31) (e : irg x 0 (nI n) = true) : ∃ j : Nat, j ≤ n ∧ x = nI j := by
  obtain ⟨h0, h1⟩ := irg_t e
  obtain ⟨j, hj, rfl⟩ := nI_of h0
  refine ⟨j, ?_, rfl⟩
  have h2 : ¬ n < j := fun q => h1 (nI_lt q hj)
  omega
theorem inb_nI {n : Nat} (hj : j < n) (hn : n < 2 ^ 31) : inb (nI j) n = true := by
  unfold inb
  rw [nI_clamp (by omega), decide_eq_false (nI_pos (n := j) (by omega))]
  simpa using hj
theorem requireRange_s {a b : Int32} : F_X6_requireRange [.int x, .int a, .int b] h = (match irg x a b with
  | true => rtn none h
  | false => thr 1 h) := by
  rw [e_X6_requireRange_0]
  unfold irg
  by_cases c1 : x < a
  · simp [c1, e_X6_requireRange_10]
  · by_cases c2 : b < x
    · simp [c1, c2, e_X6_requireRange_10]
    · simp [c1, c2]
theorem isIn_s {a b : Int32} : F_X7_isIn [.int x, .int a, .int b] h = rtn (some (.int (bi (irg x a b)))) h := by
  rw [e_X7_isIn_0]
  unfold irg
  by_cases c1 : x < a
  · simp [c1, bi]
  · by_cases c2 : b < x
    · simp [c1, c2, bi]
    · simp [c1, c2, bi]
theorem isAirport_s : F_X7_isAirport [.int x] h = rtn (some (.int (bi (irg x 0 3)))) h := by
  rw [e_X7_isAirport_0, isIn_s, bI_r]
  cases irg x 0 3 <;> rfl
theorem isCarrier_s : F_X7_isCarrier [.int x] h = rtn (some (.int (bi (irg x 0 9)))) h := by
  rw [e_X7_isCarrier_0, isIn_s, bI_r]
  cases irg x 0 9 <;> rfl
theorem holds_s : F_X7_holds [.ref 227, .int x] h = rtn (some (.int (bi (decide (x = 0))))) (wr h 227 0 x) := by
  rw [e_X7_holds_0]
  by_cases c : x = 0
  · simp [c, bi]
  · simp [c, bi]
theorem thrown_s : F_X7_thrown [.ref 227] h = rtn (some (.int (rd h 227 0))) h := e_X7_thrown_0 h
theorem skr1 : ∀ j, j < 4 → SKr 1 j = 11 + 9 * j := by decide
theorem skr3 : ∀ j, j < 60 → SKr 3 j = 47 + j := by decide
theorem skr4 : ∀ j, j < 60 → SKr 4 j = 107 + j := by decide
theorem skr5 : ∀ j, j < 60 → SKr 5 j = 167 + j := by decide
theorem okc_ap : ∀ j, j < 4 → okc (11 + 9 * j) 2 = true := by decide
theorem okc_rq : ∀ j, j < 60 → okc (47 + j) 4 = true ∧ okc (47 + j) 7 = true := by decide
theorem okc_sr : ∀ j, j < 60 → okc (107 + j) 5 = true ∧ okc (107 + j) 7 = true := by decide
theorem okc_rt : ∀ j, j < 60 → okc (167 + j) 6 = true ∧ okc (167 + j) 7 = true := by decide
theorem irg_3 (e : irg x 0 3 = true) : ∃ j : Nat, j < 4 ∧ x = nI j := by
  obtain ⟨j, h1, h2⟩ := irg_nI (n := 3) (by decide) e
  exact ⟨j, by omega, h2⟩
theorem airportAt_s (hj : j < 4) : F_X6_airportAt [.ref 0, .int (nI j)] h = rtn (some (.ref (11 + 9 * j))) h := by
  rw [e_X6_airportAt_0, if_neg (nI_pos (n := j) (by omega)), if_pos (show nI j < 4 from nI_lt (b := 4) hj (by decide)), inb_nI hj (by decide), gd_t, nI_clamp (by omega), skr1 j hj]
theorem airportAt_n (e : irg x 0 3 = false) : F_X6_airportAt [.ref 0, .int x] h = thr 0 h := by
  rw [e_X6_airportAt_0, e_X6_airportAt_13]
  unfold irg at e
  by_cases c1 : x < 0
  · rw [if_pos c1]
  · rw [if_neg c1]
    have c2 : (3 : Int32) < x := by simpa [c1] using e
    rw [if_neg]
    rw [Int32.lt_iff_toInt_lt] at c2 ⊢
    have e3 : (3 : Int32).toInt = 3 := by decide
    have e4 : (4 : Int32).toInt = 4 := by decide
    omega
end BASE
/-! the class's rows are the reference's -/
def SA (f : Nat) : Nat := nthN [262, 263, 264, 265, 266, 267, 268, 269, 260, 261, 270, 271, 272] f
def QA (f : Nat) : Nat := nthN [246, 247, 248, 249, 250, 251, 252, 245, 253, 254, 255, 256, 257, 258] f
def RA (f : Nat) : Nat := nthN [237, 238, 239, 240, 241, 242, 243, 236, 244] f
def EqN (h : Hp) : Prop := rd h 0 10 = rd h 227 20 ∧ rd h 0 11 = rd h 227 37 ∧ rd h 0 12 = rd h 227 10 ∧ rd h 0 13 = rd h 227 36 ∧ rd h 0 14 = rd h 227 1
def EqS (h : Hp) : Prop := ∀ i, i < 60 → ∀ f, f < 13 → rd h (107 + i) f = rd h (SA f) i
def EqQ (h : Hp) : Prop := ∀ i, i < 60 → ∀ f, f < 14 → f ≠ 10 → rd h (47 + i) f = rd h (QA f) i
def EqR (h : Hp) : Prop := ∀ i, i < 60 → ∀ f, f < 9 → rd h (167 + i) f = rd h (RA f) i
def EqA (h : Hp) : Prop := ∀ a, a < 4 → rd h (11 + 9 * a) 2 = rd h 228 a ∧ rd h (11 + 9 * a) 3 = rd h 232 a ∧ rd h (11 + 9 * a) 4 = rd h 233 a ∧ rd h (11 + 9 * a) 5 = rd h 234 a ∧ (∀ d, d < 7 → rd h (13 + 9 * a) d = rd h 273 (7 * a + d)) ∧ ∀ r, r < 6 → rd h (14 + 9 * a + r) 0 = rd h 229 (6 * a + r) ∧ rd h (14 + 9 * a + r) 1 = rd h 230 (6 * a + r) ∧ rd h (14 + 9 * a + r) 2 = rd h 231 (6 * a + r)
def EqG (h : Hp) : Prop := ∀ c, c < 10 → rd h 2 c = rd h 235 c
