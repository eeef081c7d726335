/-! a turn of the law's loop from what the two say of one call -/
def Scr (h g : Hp) : Prop := (∀ j, rd g SCRA j = rd h SCRA j) ∧ rd g SCRB 0 = rd h SCRB 0
theorem cmp_self (v : Int64) : lg_cmp v v = 0 := by
  unfold lg_cmp
  simp
def SimI (R : Hp → Prop) (FL FM : Fn) (n : Nat) : Prop := ∀ (as : List Int32) (h : Hp), as.length = n → R h → ∃ (k v : Int32) (h1 h2 : Hp), FL (.ref 0 :: (as.map Value.int ++ [.ref 275])) h = rtn (some (.int k)) h1 ∧ FM (.ref 227 :: as.map Value.int) h1 = rtn (some (.int v)) h2 ∧ rd h2 227 0 = k ∧ (k = 0 → rdL h2 0 = Int32.toInt64 v) ∧ R h2 ∧ Scr h h1 ∧ Scr h h2
def SimB (R : Hp → Prop) (FL FM : Fn) (n : Nat) : Prop := ∀ (as : List Int32) (h : Hp), as.length = n → R h → ∃ (k v : Int32) (h1 h2 : Hp), FL (.ref 0 :: (as.map Value.int ++ [.ref 275])) h = rtn (some (.int k)) h1 ∧ FM (.ref 227 :: as.map Value.int) h1 = rtn (some (.int v)) h2 ∧ rd h2 227 0 = k ∧ (k = 0 → rdL h2 0 = if v = 0 then Int64.ofNat 0 else Int64.ofNat 1) ∧ R h2 ∧ Scr h h1 ∧ Scr h h2
def SimV (R : Hp → Prop) (FL FM : Fn) (n : Nat) : Prop := ∀ (as : List Int32) (h : Hp), as.length = n → R h → ∃ (k : Int32) (h1 h2 : Hp), FL (.ref 0 :: as.map Value.int) h = rtn (some (.int k)) h1 ∧ FM (.ref 227 :: as.map Value.int) h1 = rtn none h2 ∧ rd h2 227 0 = k ∧ R h2 ∧ Scr h h1 ∧ Scr h h2
def Sim0 (R : Hp → Prop) (FX FM : Fn) : Prop := ∀ h : Hp, R h → ∃ (v : Int32) (h1 h2 : Hp), FX [.ref 0] h = rtn (some (.int v)) h1 ∧ FM [.ref 227] h1 = rtn (some (.int v)) h2 ∧ R h2 ∧ Scr h h2
theorem cs_164 {R : Hp → Prop} (S : SimI R F_L_declare F_X7_declare 4) {x4 : Int32} {h : Hp} (hR : R h) (hin : inb (x4 + 1) (rd h SCRB 0).toNatClampNeg = true ∧ inb (x4 + 2) (rd h SCRB 0).toNatClampNeg = true ∧ inb (x4 + 3) (rd h SCRB 0).toNatClampNeg = true ∧ inb (x4 + 4) (rd h SCRB 0).toNatClampNeg = true ∧ inb (x4 + 5) (rd h SCRB 0).toNatClampNeg = true ∧ inb (x4 + 6) (rd h SCRB 0).toNatClampNeg = true ∧ inb (x4 + 7) (rd h SCRB 0).toNatClampNeg = true ∧ inb (x4 + 8) (rd h SCRB 0).toNatClampNeg = true ∧ inb (x4 + 9) (rd h SCRB 0).toNatClampNeg = true) : ∃ h2, R h2 ∧ Scr h h2 ∧ ∀ (n : Nat) (r : (Option Value × Hp) ⊕ (Nat × Hp)), f_L_law_23 n (x4 + 10) h2 = some r → f_L_law_164 (n + 65) x4 h = some r := by
  obtain ⟨i1, i2, i3, i4, i5, i6, i7, i8, i9⟩ := hin
  obtain ⟨k, v, h1, h2, e1, e2, e3, e4, e5, e6, e7⟩ := S [(rd h SCRA (x4 + 1).toNatClampNeg), (rd h SCRA (x4 + 2).toNatClampNeg), (rd h SCRA (x4 + 3).toNatClampNeg), (rd h SCRA (x4 + 4).toNatClampNeg)] h rfl hR
  refine ⟨h2, e5, e7, fun n r hr => ?_⟩
  have e1 : F_L_declare [.ref 0, .int (rd h SCRA (x4 + 1).toNatClampNeg), .int (rd h SCRA (x4 + 2).toNatClampNeg), .int (rd h SCRA (x4 + 3).toNatClampNeg), .int (rd h SCRA (x4 + 4).toNatClampNeg), .ref 275] h = rtn (some (.int k)) h1 := e1
  have e2 : F_X7_declare [.ref 227, .int (rd h SCRA (x4 + 1).toNatClampNeg), .int (rd h SCRA (x4 + 2).toNatClampNeg), .int (rd h SCRA (x4 + 3).toNatClampNeg), .int (rd h SCRA (x4 + 4).toNatClampNeg)] h1 = rtn (some (.int v)) h2 := e2
  have b1 := e_L_law_1988 (n := n) (x4 := x4) (h := h2) hr
  have b2 := e_L_law_253 (n := n + 2) (x4 := x4) (h := h2) b1
  have b3 := e_L_law_223 (n := n + 2 + 1) (x4 := x4) (x5 := k) (s0 := v) (h := h2) (r := r) (by
    rw [thrown_s, bI_r, if_pos e3]
    by_cases c : k = 0
    · rw [if_pos c, show inb 0 1 = true from rfl, gd_t, show rdL h2 (0 : Int32).toNatClampNeg = Int32.toInt64 v from e4 c, cmp_self, if_pos rfl]
      exact b2
    · rw [if_neg c]
      exact b2)
  have b4 := e_L_law_193 (n := n + 2 + 1 + 16) (x4 := x4) (s0 := k) (h := h1) (r := r) (by
    simp only [e6.1, e6.2, i1, i2, i3, i4, gd_t]
    rw [e2, bI_r]
    exact b3)
  exact e_L_law_164 (n := n + 2 + 1 + 16 + 23) (x4 := x4) (h := h) (by
    simp only [i1, i2, i3, i4, gd_t]
    rw [e1, bI_r]
    exact b4)
theorem cs_256 {R : Hp → Prop} (S : SimI R F_L_revise F_X7_revise 3) {x4 : Int32} {h : Hp} (hR : R h) (hin : inb (x4 + 1) (rd h SCRB 0).toNatClampNeg = true ∧ inb (x4 + 2) (rd h SCRB 0).toNatClampNeg = true ∧ inb (x4 + 3) (rd h SCRB 0).toNatClampNeg = true ∧ inb (x4 + 4) (rd h SCRB 0).toNatClampNeg = true ∧ inb (x4 + 5) (rd h SCRB 0).toNatClampNeg = true ∧ inb (x4 + 6) (rd h SCRB 0).toNatClampNeg = true ∧ inb (x4 + 7) (rd h SCRB 0).toNatClampNeg = true ∧ inb (x4 + 8) (rd h SCRB 0).toNatClampNeg = true ∧ inb (x4 + 9) (rd h SCRB 0).toNatClampNeg = true) : ∃ h2, R h2 ∧ Scr h h2 ∧ ∀ (n : Nat) (r : (Option Value × Hp) ⊕ (Nat × Hp)), f_L_law_23 n (x4 + 10) h2 = some r → f_L_law_256 (n + 55) x4 h = some r := by
  obtain ⟨i1, i2, i3, i4, i5, i6, i7, i8, i9⟩ := hin
  obtain ⟨k, v, h1, h2, e1, e2, e3, e4, e5, e6, e7⟩ := S [(rd h SCRA (x4 + 1).toNatClampNeg), (rd h SCRA (x4 + 2).toNatClampNeg), (rd h SCRA (x4 + 3).toNatClampNeg)] h rfl hR
  refine ⟨h2, e5, e7, fun n r hr => ?_⟩
  have e1 : F_L_revise [.ref 0, .int (rd h SCRA (x4 + 1).toNatClampNeg), .int (rd h SCRA (x4 + 2).toNatClampNeg), .int (rd h SCRA (x4 + 3).toNatClampNeg), .ref 275] h = rtn (some (.int k)) h1 := e1
  have e2 : F_X7_revise [.ref 227, .int (rd h SCRA (x4 + 1).toNatClampNeg), .int (rd h SCRA (x4 + 2).toNatClampNeg), .int (rd h SCRA (x4 + 3).toNatClampNeg)] h1 = rtn (some (.int v)) h2 := e2
  have b1 := e_L_law_1988 (n := n) (x4 := x4) (h := h2) hr
  have b2 := e_L_law_333 (n := n + 2) (x4 := x4) (h := h2) b1
  have b3 := e_L_law_303 (n := n + 2 + 1) (x4 := x4) (x5 := k) (s0 := v) (h := h2) (r := r) (by
    rw [thrown_s, bI_r, if_pos e3]
    by_cases c : k = 0
    · rw [if_pos c, show inb 0 1 = true from rfl, gd_t, show rdL h2 (0 : Int32).toNatClampNeg = Int32.toInt64 v from e4 c, cmp_self, if_pos rfl]
      exact b2
    · rw [if_neg c]
      exact b2)
  have b4 := e_L_law_279 (n := n + 2 + 1 + 16) (x4 := x4) (s0 := k) (h := h1) (r := r) (by
    simp only [e6.1, e6.2, i1, i2, i3, gd_t]
    rw [e2, bI_r]
    exact b3)
  exact e_L_law_256 (n := n + 2 + 1 + 16 + 18) (x4 := x4) (h := h) (by
    simp only [i1, i2, i3, gd_t]
    rw [e1, bI_r]
    exact b4)
theorem cs_336 {R : Hp → Prop} (S : SimV R F_L_curfew F_X7_curfew 3) {x4 : Int32} {h : Hp} (hR : R h) (hin : inb (x4 + 1) (rd h SCRB 0).toNatClampNeg = true ∧ inb (x4 + 2) (rd h SCRB 0).toNatClampNeg = true ∧ inb (x4 + 3) (rd h SCRB 0).toNatClampNeg = true ∧ inb (x4 + 4) (rd h SCRB 0).toNatClampNeg = true ∧ inb (x4 + 5) (rd h SCRB 0).toNatClampNeg = true ∧ inb (x4 + 6) (rd h SCRB 0).toNatClampNeg = true ∧ inb (x4 + 7) (rd h SCRB 0).toNatClampNeg = true ∧ inb (x4 + 8) (rd h SCRB 0).toNatClampNeg = true ∧ inb (x4 + 9) (rd h SCRB 0).toNatClampNeg = true) : ∃ h2, R h2 ∧ Scr h h2 ∧ ∀ (n : Nat) (r : (Option Value × Hp) ⊕ (Nat × Hp)), f_L_law_23 n (x4 + 10) h2 = some r → f_L_law_336 (n + 43) x4 h = some r := by
  obtain ⟨i1, i2, i3, i4, i5, i6, i7, i8, i9⟩ := hin
  obtain ⟨k, h1, h2, e1, e2, e3, e5, e6, e7⟩ := S [(rd h SCRA (x4 + 1).toNatClampNeg), (rd h SCRA (x4 + 2).toNatClampNeg), (rd h SCRA (x4 + 3).toNatClampNeg)] h rfl hR
  refine ⟨h2, e5, e7, fun n r hr => ?_⟩
  have e1 : F_L_curfew [.ref 0, .int (rd h SCRA (x4 + 1).toNatClampNeg), .int (rd h SCRA (x4 + 2).toNatClampNeg), .int (rd h SCRA (x4 + 3).toNatClampNeg)] h = rtn (some (.int k)) h1 := e1
  have e2 : F_X7_curfew [.ref 227, .int (rd h SCRA (x4 + 1).toNatClampNeg), .int (rd h SCRA (x4 + 2).toNatClampNeg), .int (rd h SCRA (x4 + 3).toNatClampNeg)] h1 = rtn none h2 := e2
  have b1 := e_L_law_1988 (n := n) (x4 := x4) (h := h2) hr
  have b4 := e_L_law_358 (n := n + 2) (x4 := x4) (s0 := k) (h := h1) (r := r) (by
    simp only [e6.1, e6.2, i1, i2, i3, gd_t]
    rw [e2, bV_r, thrown_s, bI_r, if_pos e3]
    exact b1)
  exact e_L_law_336 (n := n + 2 + 24) (x4 := x4) (h := h) (by
    simp only [i1, i2, i3, gd_t]
    rw [e1, bI_r]
    exact b4)
theorem cs_396 {R : Hp → Prop} (S : SimI R F_L_quota F_X7_quota 2) {x4 : Int32} {h : Hp} (hR : R h) (hin : inb (x4 + 1) (rd h SCRB 0).toNatClampNeg = true ∧ inb (x4 + 2) (rd h SCRB 0).toNatClampNeg = true ∧ inb (x4 + 3) (rd h SCRB 0).toNatClampNeg = true ∧ inb (x4 + 4) (rd h SCRB 0).toNatClampNeg = true ∧ inb (x4 + 5) (rd h SCRB 0).toNatClampNeg = true ∧ inb (x4 + 6) (rd h SCRB 0).toNatClampNeg = true ∧ inb (x4 + 7) (rd h SCRB 0).toNatClampNeg = true ∧ inb (x4 + 8) (rd h SCRB 0).toNatClampNeg = true ∧ inb (x4 + 9) (rd h SCRB 0).toNatClampNeg = true) : ∃ h2, R h2 ∧ Scr h h2 ∧ ∀ (n : Nat) (r : (Option Value × Hp) ⊕ (Nat × Hp)), f_L_law_23 n (x4 + 10) h2 = some r → f_L_law_396 (n + 45) x4 h = some r := by
  obtain ⟨i1, i2, i3, i4, i5, i6, i7, i8, i9⟩ := hin
  obtain ⟨k, v, h1, h2, e1, e2, e3, e4, e5, e6, e7⟩ := S [(rd h SCRA (x4 + 1).toNatClampNeg), (rd h SCRA (x4 + 2).toNatClampNeg)] h rfl hR
  refine ⟨h2, e5, e7, fun n r hr => ?_⟩
  have e1 : F_L_quota [.ref 0, .int (rd h SCRA (x4 + 1).toNatClampNeg), .int (rd h SCRA (x4 + 2).toNatClampNeg), .ref 275] h = rtn (some (.int k)) h1 := e1
  have e2 : F_X7_quota [.ref 227, .int (rd h SCRA (x4 + 1).toNatClampNeg), .int (rd h SCRA (x4 + 2).toNatClampNeg)] h1 = rtn (some (.int v)) h2 := e2
  have b1 := e_L_law_1988 (n := n) (x4 := x4) (h := h2) hr
  have b2 := e_L_law_461 (n := n + 2) (x4 := x4) (h := h2) b1
  have b3 := e_L_law_431 (n := n + 2 + 1) (x4 := x4) (x5 := k) (s0 := v) (h := h2) (r := r) (by
    rw [thrown_s, bI_r, if_pos e3]
    by_cases c : k = 0
    · rw [if_pos c, show inb 0 1 = true from rfl, gd_t, show rdL h2 (0 : Int32).toNatClampNeg = Int32.toInt64 v from e4 c, cmp_self, if_pos rfl]
      exact b2
    · rw [if_neg c]
      exact b2)
  have b4 := e_L_law_413 (n := n + 2 + 1 + 16) (x4 := x4) (s0 := k) (h := h1) (r := r) (by
    simp only [e6.1, e6.2, i1, i2, gd_t]
    rw [e2, bI_r]
    exact b3)
  exact e_L_law_396 (n := n + 2 + 1 + 16 + 13) (x4 := x4) (h := h) (by
    simp only [i1, i2, gd_t]
    rw [e1, bI_r]
    exact b4)
theorem cs_464 {R : Hp → Prop} (S : SimI R F_L_merge F_X7_merge 2) {x4 : Int32} {h : Hp} (hR : R h) (hin : inb (x4 + 1) (rd h SCRB 0).toNatClampNeg = true ∧ inb (x4 + 2) (rd h SCRB 0).toNatClampNeg = true ∧ inb (x4 + 3) (rd h SCRB 0).toNatClampNeg = true ∧ inb (x4 + 4) (rd h SCRB 0).toNatClampNeg = true ∧ inb (x4 + 5) (rd h SCRB 0).toNatClampNeg = true ∧ inb (x4 + 6) (rd h SCRB 0).toNatClampNeg = true ∧ inb (x4 + 7) (rd h SCRB 0).toNatClampNeg = true ∧ inb (x4 + 8) (rd h SCRB 0).toNatClampNeg = true ∧ inb (x4 + 9) (rd h SCRB 0).toNatClampNeg = true) : ∃ h2, R h2 ∧ Scr h h2 ∧ ∀ (n : Nat) (r : (Option Value × Hp) ⊕ (Nat × Hp)), f_L_law_23 n (x4 + 10) h2 = some r → f_L_law_464 (n + 45) x4 h = some r := by
  obtain ⟨i1, i2, i3, i4, i5, i6, i7, i8, i9⟩ := hin
  obtain ⟨k, v, h1, h2, e1, e2, e3, e4, e5, e6, e7⟩ := S [(rd h SCRA (x4 + 1).toNatClampNeg), (rd h SCRA (x4 + 2).toNatClampNeg)] h rfl hR
  refine ⟨h2, e5, e7, fun n r hr => ?_⟩
  have e1 : F_L_merge [.ref 0, .int (rd h SCRA (x4 + 1).toNatClampNeg), .int (rd h SCRA (x4 + 2).toNatClampNeg), .ref 275] h = rtn (some (.int k)) h1 := e1
  have e2 : F_X7_merge [.ref 227, .int (rd h SCRA (x4 + 1).toNatClampNeg), .int (rd h SCRA (x4 + 2).toNatClampNeg)] h1 = rtn (some (.int v)) h2 := e2
  have b1 := e_L_law_1988 (n := n) (x4 := x4) (h := h2) hr
  have b2 := e_L_law_529 (n := n + 2) (x4 := x4) (h := h2) b1
  have b3 := e_L_law_499 (n := n + 2 + 1) (x4 := x4) (x5 := k) (s0 := v) (h := h2) (r := r) (by
    rw [thrown_s, bI_r, if_pos e3]
    by_cases c : k = 0
    · rw [if_pos c, show inb 0 1 = true from rfl, gd_t, show rdL h2 (0 : Int32).toNatClampNeg = Int32.toInt64 v from e4 c, cmp_self, if_pos rfl]
      exact b2
    · rw [if_neg c]
      exact b2)
  have b4 := e_L_law_481 (n := n + 2 + 1 + 16) (x4 := x4) (s0 := k) (h := h1) (r := r) (by
    simp only [e6.1, e6.2, i1, i2, gd_t]
    rw [e2, bI_r]
    exact b3)
  exact e_L_law_464 (n := n + 2 + 1 + 16 + 13) (x4 := x4) (h := h) (by
    simp only [i1, i2, gd_t]
    rw [e1, bI_r]
    exact b4)
theorem cs_532 {R : Hp → Prop} (S : SimI R F_L_request F_X7_request 9) {x4 : Int32} {h : Hp} (hR : R h) (hin : inb (x4 + 1) (rd h SCRB 0).toNatClampNeg = true ∧ inb (x4 + 2) (rd h SCRB 0).toNatClampNeg = true ∧ inb (x4 + 3) (rd h SCRB 0).toNatClampNeg = true ∧ inb (x4 + 4) (rd h SCRB 0).toNatClampNeg = true ∧ inb (x4 + 5) (rd h SCRB 0).toNatClampNeg = true ∧ inb (x4 + 6) (rd h SCRB 0).toNatClampNeg = true ∧ inb (x4 + 7) (rd h SCRB 0).toNatClampNeg = true ∧ inb (x4 + 8) (rd h SCRB 0).toNatClampNeg = true ∧ inb (x4 + 9) (rd h SCRB 0).toNatClampNeg = true) : ∃ h2, R h2 ∧ Scr h h2 ∧ ∀ (n : Nat) (r : (Option Value × Hp) ⊕ (Nat × Hp)), f_L_law_23 n (x4 + 10) h2 = some r → f_L_law_532 (n + 115) x4 h = some r := by
  obtain ⟨i1, i2, i3, i4, i5, i6, i7, i8, i9⟩ := hin
  obtain ⟨k, v, h1, h2, e1, e2, e3, e4, e5, e6, e7⟩ := S [(rd h SCRA (x4 + 1).toNatClampNeg), (rd h SCRA (x4 + 2).toNatClampNeg), (rd h SCRA (x4 + 3).toNatClampNeg), (rd h SCRA (x4 + 4).toNatClampNeg), (rd h SCRA (x4 + 5).toNatClampNeg), (rd h SCRA (x4 + 6).toNatClampNeg), (rd h SCRA (x4 + 7).toNatClampNeg), (rd h SCRA (x4 + 8).toNatClampNeg), (rd h SCRA (x4 + 9).toNatClampNeg)] h rfl hR
  refine ⟨h2, e5, e7, fun n r hr => ?_⟩
  have e1 : F_L_request [.ref 0, .int (rd h SCRA (x4 + 1).toNatClampNeg), .int (rd h SCRA (x4 + 2).toNatClampNeg), .int (rd h SCRA (x4 + 3).toNatClampNeg), .int (rd h SCRA (x4 + 4).toNatClampNeg), .int (rd h SCRA (x4 + 5).toNatClampNeg), .int (rd h SCRA (x4 + 6).toNatClampNeg), .int (rd h SCRA (x4 + 7).toNatClampNeg), .int (rd h SCRA (x4 + 8).toNatClampNeg), .int (rd h SCRA (x4 + 9).toNatClampNeg), .ref 275] h = rtn (some (.int k)) h1 := e1
  have e2 : F_X7_request [.ref 227, .int (rd h SCRA (x4 + 1).toNatClampNeg), .int (rd h SCRA (x4 + 2).toNatClampNeg), .int (rd h SCRA (x4 + 3).toNatClampNeg), .int (rd h SCRA (x4 + 4).toNatClampNeg), .int (rd h SCRA (x4 + 5).toNatClampNeg), .int (rd h SCRA (x4 + 6).toNatClampNeg), .int (rd h SCRA (x4 + 7).toNatClampNeg), .int (rd h SCRA (x4 + 8).toNatClampNeg), .int (rd h SCRA (x4 + 9).toNatClampNeg)] h1 = rtn (some (.int v)) h2 := e2
  have b1 := e_L_law_1988 (n := n) (x4 := x4) (h := h2) hr
  have b2 := e_L_law_689 (n := n + 2) (x4 := x4) (h := h2) b1
  have b3 := e_L_law_659 (n := n + 2 + 1) (x4 := x4) (x5 := k) (s0 := v) (h := h2) (r := r) (by
    rw [thrown_s, bI_r, if_pos e3]
    by_cases c : k = 0
    · rw [if_pos c, show inb 0 1 = true from rfl, gd_t, show rdL h2 (0 : Int32).toNatClampNeg = Int32.toInt64 v from e4 c, cmp_self, if_pos rfl]
      exact b2
    · rw [if_neg c]
      exact b2)
  have b4 := e_L_law_595 (n := n + 2 + 1 + 16) (x4 := x4) (s0 := k) (h := h1) (r := r) (by
    simp only [e6.1, e6.2, i1, i2, i3, i4, i5, i6, i7, i8, i9, gd_t]
    rw [e2, bI_r]
    exact b3)
  exact e_L_law_532 (n := n + 2 + 1 + 16 + 48) (x4 := x4) (h := h) (by
    simp only [i1, i2, i3, i4, i5, i6, i7, i8, i9, gd_t]
    rw [e1, bI_r]
    exact b4)
theorem cs_692 {R : Hp → Prop} (S : SimV R F_L_link F_X7_link 2) {x4 : Int32} {h : Hp} (hR : R h) (hin : inb (x4 + 1) (rd h SCRB 0).toNatClampNeg = true ∧ inb (x4 + 2) (rd h SCRB 0).toNatClampNeg = true ∧ inb (x4 + 3) (rd h SCRB 0).toNatClampNeg = true ∧ inb (x4 + 4) (rd h SCRB 0).toNatClampNeg = true ∧ inb (x4 + 5) (rd h SCRB 0).toNatClampNeg = true ∧ inb (x4 + 6) (rd h SCRB 0).toNatClampNeg = true ∧ inb (x4 + 7) (rd h SCRB 0).toNatClampNeg = true ∧ inb (x4 + 8) (rd h SCRB 0).toNatClampNeg = true ∧ inb (x4 + 9) (rd h SCRB 0).toNatClampNeg = true) : ∃ h2, R h2 ∧ Scr h h2 ∧ ∀ (n : Nat) (r : (Option Value × Hp) ⊕ (Nat × Hp)), f_L_law_23 n (x4 + 10) h2 = some r → f_L_law_692 (n + 33) x4 h = some r := by
  obtain ⟨i1, i2, i3, i4, i5, i6, i7, i8, i9⟩ := hin
  obtain ⟨k, h1, h2, e1, e2, e3, e5, e6, e7⟩ := S [(rd h SCRA (x4 + 1).toNatClampNeg), (rd h SCRA (x4 + 2).toNatClampNeg)] h rfl hR
  refine ⟨h2, e5, e7, fun n r hr => ?_⟩
  have e1 : F_L_link [.ref 0, .int (rd h SCRA (x4 + 1).toNatClampNeg), .int (rd h SCRA (x4 + 2).toNatClampNeg)] h = rtn (some (.int k)) h1 := e1
  have e2 : F_X7_link [.ref 227, .int (rd h SCRA (x4 + 1).toNatClampNeg), .int (rd h SCRA (x4 + 2).toNatClampNeg)] h1 = rtn none h2 := e2
  have b1 := e_L_law_1988 (n := n) (x4 := x4) (h := h2) hr
  have b4 := e_L_law_708 (n := n + 2) (x4 := x4) (s0 := k) (h := h1) (r := r) (by
    simp only [e6.1, e6.2, i1, i2, gd_t]
    rw [e2, bV_r, thrown_s, bI_r, if_pos e3]
    exact b1)
  exact e_L_law_692 (n := n + 2 + 19) (x4 := x4) (h := h) (by
    simp only [i1, i2, gd_t]
    rw [e1, bI_r]
    exact b4)
theorem cs_740 {R : Hp → Prop} (S : SimI R F_L_confer F_X7_confer 0) {x4 : Int32} {h : Hp} (hR : R h) (hin : inb (x4 + 1) (rd h SCRB 0).toNatClampNeg = true ∧ inb (x4 + 2) (rd h SCRB 0).toNatClampNeg = true ∧ inb (x4 + 3) (rd h SCRB 0).toNatClampNeg = true ∧ inb (x4 + 4) (rd h SCRB 0).toNatClampNeg = true ∧ inb (x4 + 5) (rd h SCRB 0).toNatClampNeg = true ∧ inb (x4 + 6) (rd h SCRB 0).toNatClampNeg = true ∧ inb (x4 + 7) (rd h SCRB 0).toNatClampNeg = true ∧ inb (x4 + 8) (rd h SCRB 0).toNatClampNeg = true ∧ inb (x4 + 9) (rd h SCRB 0).toNatClampNeg = true) : ∃ h2, R h2 ∧ Scr h h2 ∧ ∀ (n : Nat) (r : (Option Value × Hp) ⊕ (Nat × Hp)), f_L_law_23 n (x4 + 10) h2 = some r → f_L_law_740 (n + 25) x4 h = some r := by
  obtain ⟨i1, i2, i3, i4, i5, i6, i7, i8, i9⟩ := hin
  obtain ⟨k, v, h1, h2, e1, e2, e3, e4, e5, e6, e7⟩ := S [] h rfl hR
  refine ⟨h2, e5, e7, fun n r hr => ?_⟩
  have e1 : F_L_confer [.ref 0, .ref 275] h = rtn (some (.int k)) h1 := e1
  have e2 : F_X7_confer [.ref 227] h1 = rtn (some (.int v)) h2 := e2
  have b1 := e_L_law_1988 (n := n) (x4 := x4) (h := h2) hr
  have b2 := e_L_law_781 (n := n + 2) (x4 := x4) (h := h2) b1
  have b3 := e_L_law_751 (n := n + 2 + 1) (x4 := x4) (x5 := k) (s0 := v) (h := h2) (r := r) (by
    rw [thrown_s, bI_r, if_pos e3]
    by_cases c : k = 0
    · rw [if_pos c, show inb 0 1 = true from rfl, gd_t, show rdL h2 (0 : Int32).toNatClampNeg = Int32.toInt64 v from e4 c, cmp_self, if_pos rfl]
      exact b2
    · rw [if_neg c]
      exact b2)
  have b4 := e_L_law_745 (n := n + 2 + 1 + 16) (x4 := x4) (s0 := k) (h := h1) (r := r) (by
    rw [e2, bI_r]
    exact b3)
  exact e_L_law_740 (n := n + 2 + 1 + 16 + 3) (x4 := x4) (h := h) (by
    rw [e1, bI_r]
    exact b4)
theorem cs_784 {R : Hp → Prop} (S : SimB R F_L_accept F_X7_accept 1) {x4 : Int32} {h : Hp} (hR : R h) (hin : inb (x4 + 1) (rd h SCRB 0).toNatClampNeg = true ∧ inb (x4 + 2) (rd h SCRB 0).toNatClampNeg = true ∧ inb (x4 + 3) (rd h SCRB 0).toNatClampNeg = true ∧ inb (x4 + 4) (rd h SCRB 0).toNatClampNeg = true ∧ inb (x4 + 5) (rd h SCRB 0).toNatClampNeg = true ∧ inb (x4 + 6) (rd h SCRB 0).toNatClampNeg = true ∧ inb (x4 + 7) (rd h SCRB 0).toNatClampNeg = true ∧ inb (x4 + 8) (rd h SCRB 0).toNatClampNeg = true ∧ inb (x4 + 9) (rd h SCRB 0).toNatClampNeg = true) : ∃ h2, R h2 ∧ Scr h h2 ∧ ∀ (n : Nat) (r : (Option Value × Hp) ⊕ (Nat × Hp)), f_L_law_23 n (x4 + 10) h2 = some r → f_L_law_784 (n + 37) x4 h = some r := by
  obtain ⟨i1, i2, i3, i4, i5, i6, i7, i8, i9⟩ := hin
  obtain ⟨k, v, h1, h2, e1, e2, e3, e4, e5, e6, e7⟩ := S [(rd h SCRA (x4 + 1).toNatClampNeg)] h rfl hR
  refine ⟨h2, e5, e7, fun n r hr => ?_⟩
  have e1 : F_L_accept [.ref 0, .int (rd h SCRA (x4 + 1).toNatClampNeg), .ref 275] h = rtn (some (.int k)) h1 := e1
  have e2 : F_X7_accept [.ref 227, .int (rd h SCRA (x4 + 1).toNatClampNeg)] h1 = rtn (some (.int v)) h2 := e2
  have b1 := e_L_law_1988 (n := n) (x4 := x4) (h := h2) hr
  have b2 := e_L_law_844 (n := n + 2) (x4 := x4) (h := h2) b1
  have bx : f_L_law_844 (n + 2 + 1 + 4) x4 h2 = some r := by
    have q : ∀ j, n + 2 + 1 ≤ j → f_L_law_844 j x4 h2 = some r := fun j hj => exN_le _ _ _ _ _ _ _ _ hj _ _ _ _ _ b2
    exact q _ (by omega)
  have b3 := e_L_law_807 (n := n + 2 + 1 + 4) (x4 := x4) (x5 := k) (s0 := v) (h := h2) (r := r) (by
    rw [thrown_s, bI_r, if_pos e3]
    by_cases c : k = 0
    · rw [if_pos c, show inb 0 1 = true from rfl, gd_t]
      have e9 := e4 c
      by_cases c2 : v = 0
      · rw [if_pos c2]
        rw [if_pos c2] at e9
        refine e_L_law_838 (n := n + 2 + 1) ?_
        rw [show rdL h2 (0 : Int32).toNatClampNeg = Int64.ofNat 0 from e9, cmp_self, if_pos rfl]
        exact b2
      · rw [if_neg c2]
        rw [if_neg c2] at e9
        refine e_L_law_838 (n := n + 2 + 1) ?_
        rw [show rdL h2 (0 : Int32).toNatClampNeg = Int64.ofNat 1 from e9, cmp_self, if_pos rfl]
        exact b2
    · rw [if_neg c]
      exact bx)
  have b4 := e_L_law_795 (n := n + 2 + 1 + 4 + 14) (x4 := x4) (s0 := k) (h := h1) (r := r) (by
    simp only [e6.1, e6.2, i1, gd_t]
    rw [e2, bI_r]
    exact b3)
  exact e_L_law_784 (n := n + 2 + 1 + 4 + 14 + 8) (x4 := x4) (h := h) (by
    simp only [i1, gd_t]
    rw [e1, bI_r]
    exact b4)
theorem cs_847 {R : Hp → Prop} (S : SimI R F_L_giveBack F_X7_giveBack 2) {x4 : Int32} {h : Hp} (hR : R h) (hin : inb (x4 + 1) (rd h SCRB 0).toNatClampNeg = true ∧ inb (x4 + 2) (rd h SCRB 0).toNatClampNeg = true ∧ inb (x4 + 3) (rd h SCRB 0).toNatClampNeg = true ∧ inb (x4 + 4) (rd h SCRB 0).toNatClampNeg = true ∧ inb (x4 + 5) (rd h SCRB 0).toNatClampNeg = true ∧ inb (x4 + 6) (rd h SCRB 0).toNatClampNeg = true ∧ inb (x4 + 7) (rd h SCRB 0).toNatClampNeg = true ∧ inb (x4 + 8) (rd h SCRB 0).toNatClampNeg = true ∧ inb (x4 + 9) (rd h SCRB 0).toNatClampNeg = true) : ∃ h2, R h2 ∧ Scr h h2 ∧ ∀ (n : Nat) (r : (Option Value × Hp) ⊕ (Nat × Hp)), f_L_law_23 n (x4 + 10) h2 = some r → f_L_law_847 (n + 45) x4 h = some r := by
  obtain ⟨i1, i2, i3, i4, i5, i6, i7, i8, i9⟩ := hin
  obtain ⟨k, v, h1, h2, e1, e2, e3, e4, e5, e6, e7⟩ := S [(rd h SCRA (x4 + 1).toNatClampNeg), (rd h SCRA (x4 + 2).toNatClampNeg)] h rfl hR
  refine ⟨h2, e5, e7, fun n r hr => ?_⟩
  have e1 : F_L_giveBack [.ref 0, .int (rd h SCRA (x4 + 1).toNatClampNeg), .int (rd h SCRA (x4 + 2).toNatClampNeg), .ref 275] h = rtn (some (.int k)) h1 := e1
  have e2 : F_X7_giveBack [.ref 227, .int (rd h SCRA (x4 + 1).toNatClampNeg), .int (rd h SCRA (x4 + 2).toNatClampNeg)] h1 = rtn (some (.int v)) h2 := e2
  have b1 := e_L_law_1988 (n := n) (x4 := x4) (h := h2) hr
  have b2 := e_L_law_912 (n := n + 2) (x4 := x4) (h := h2) b1
  have b3 := e_L_law_882 (n := n + 2 + 1) (x4 := x4) (x5 := k) (s0 := v) (h := h2) (r := r) (by
    rw [thrown_s, bI_r, if_pos e3]
    by_cases c : k = 0
    · rw [if_pos c, show inb 0 1 = true from rfl, gd_t, show rdL h2 (0 : Int32).toNatClampNeg = Int32.toInt64 v from e4 c, cmp_self, if_pos rfl]
      exact b2
    · rw [if_neg c]
      exact b2)
  have b4 := e_L_law_864 (n := n + 2 + 1 + 16) (x4 := x4) (s0 := k) (h := h1) (r := r) (by
    simp only [e6.1, e6.2, i1, i2, gd_t]
    rw [e2, bI_r]
    exact b3)
  exact e_L_law_847 (n := n + 2 + 1 + 16 + 13) (x4 := x4) (h := h) (by
    simp only [i1, i2, gd_t]
    rw [e1, bI_r]
    exact b4)
theorem cs_915 {R : Hp → Prop} (S : SimV R F_L_swap F_X7_swap 2) {x4 : Int32} {h : Hp} (hR : R h) (hin : inb (x4 + 1) (rd h SCRB 0).toNatClampNeg = true ∧ inb (x4 + 2) (rd h SCRB 0).toNatClampNeg = true ∧ inb (x4 + 3) (rd h SCRB 0).toNatClampNeg = true ∧ inb (x4 + 4) (rd h SCRB 0).toNatClampNeg = true ∧ inb (x4 + 5) (rd h SCRB 0).toNatClampNeg = true ∧ inb (x4 + 6) (rd h SCRB 0).toNatClampNeg = true ∧ inb (x4 + 7) (rd h SCRB 0).toNatClampNeg = true ∧ inb (x4 + 8) (rd h SCRB 0).toNatClampNeg = true ∧ inb (x4 + 9) (rd h SCRB 0).toNatClampNeg = true) : ∃ h2, R h2 ∧ Scr h h2 ∧ ∀ (n : Nat) (r : (Option Value × Hp) ⊕ (Nat × Hp)), f_L_law_23 n (x4 + 10) h2 = some r → f_L_law_915 (n + 33) x4 h = some r := by
  obtain ⟨i1, i2, i3, i4, i5, i6, i7, i8, i9⟩ := hin
  obtain ⟨k, h1, h2, e1, e2, e3, e5, e6, e7⟩ := S [(rd h SCRA (x4 + 1).toNatClampNeg), (rd h SCRA (x4 + 2).toNatClampNeg)] h rfl hR
  refine ⟨h2, e5, e7, fun n r hr => ?_⟩
  have e1 : F_L_swap [.ref 0, .int (rd h SCRA (x4 + 1).toNatClampNeg), .int (rd h SCRA (x4 + 2).toNatClampNeg)] h = rtn (some (.int k)) h1 := e1
  have e2 : F_X7_swap [.ref 227, .int (rd h SCRA (x4 + 1).toNatClampNeg), .int (rd h SCRA (x4 + 2).toNatClampNeg)] h1 = rtn none h2 := e2
  have b1 := e_L_law_1988 (n := n) (x4 := x4) (h := h2) hr
  have b4 := e_L_law_931 (n := n + 2) (x4 := x4) (s0 := k) (h := h1) (r := r) (by
    simp only [e6.1, e6.2, i1, i2, gd_t]
    rw [e2, bV_r, thrown_s, bI_r, if_pos e3]
    exact b1)
  exact e_L_law_915 (n := n + 2 + 19) (x4 := x4) (h := h) (by
    simp only [i1, i2, gd_t]
    rw [e1, bI_r]
    exact b4)
theorem cs_963 {R : Hp → Prop} (S : SimI R F_L_lease F_X7_lease 2) {x4 : Int32} {h : Hp} (hR : R h) (hin : inb (x4 + 1) (rd h SCRB 0).toNatClampNeg = true ∧ inb (x4 + 2) (rd h SCRB 0).toNatClampNeg = true ∧ inb (x4 + 3) (rd h SCRB 0).toNatClampNeg = true ∧ inb (x4 + 4) (rd h SCRB 0).toNatClampNeg = true ∧ inb (x4 + 5) (rd h SCRB 0).toNatClampNeg = true ∧ inb (x4 + 6) (rd h SCRB 0).toNatClampNeg = true ∧ inb (x4 + 7) (rd h SCRB 0).toNatClampNeg = true ∧ inb (x4 + 8) (rd h SCRB 0).toNatClampNeg = true ∧ inb (x4 + 9) (rd h SCRB 0).toNatClampNeg = true) : ∃ h2, R h2 ∧ Scr h h2 ∧ ∀ (n : Nat) (r : (Option Value × Hp) ⊕ (Nat × Hp)), f_L_law_23 n (x4 + 10) h2 = some r → f_L_law_963 (n + 45) x4 h = some r := by
  obtain ⟨i1, i2, i3, i4, i5, i6, i7, i8, i9⟩ := hin
  obtain ⟨k, v, h1, h2, e1, e2, e3, e4, e5, e6, e7⟩ := S [(rd h SCRA (x4 + 1).toNatClampNeg), (rd h SCRA (x4 + 2).toNatClampNeg)] h rfl hR
  refine ⟨h2, e5, e7, fun n r hr => ?_⟩
  have e1 : F_L_lease [.ref 0, .int (rd h SCRA (x4 + 1).toNatClampNeg), .int (rd h SCRA (x4 + 2).toNatClampNeg), .ref 275] h = rtn (some (.int k)) h1 := e1
  have e2 : F_X7_lease [.ref 227, .int (rd h SCRA (x4 + 1).toNatClampNeg), .int (rd h SCRA (x4 + 2).toNatClampNeg)] h1 = rtn (some (.int v)) h2 := e2
  have b1 := e_L_law_1988 (n := n) (x4 := x4) (h := h2) hr
  have b2 := e_L_law_1028 (n := n + 2) (x4 := x4) (h := h2) b1
  have b3 := e_L_law_998 (n := n + 2 + 1) (x4 := x4) (x5 := k) (s0 := v) (h := h2) (r := r) (by
    rw [thrown_s, bI_r, if_pos e3]
    by_cases c : k = 0
    · rw [if_pos c, show inb 0 1 = true from rfl, gd_t, show rdL h2 (0 : Int32).toNatClampNeg = Int32.toInt64 v from e4 c, cmp_self, if_pos rfl]
      exact b2
    · rw [if_neg c]
      exact b2)
  have b4 := e_L_law_980 (n := n + 2 + 1 + 16) (x4 := x4) (s0 := k) (h := h1) (r := r) (by
    simp only [e6.1, e6.2, i1, i2, gd_t]
    rw [e2, bI_r]
    exact b3)
  exact e_L_law_963 (n := n + 2 + 1 + 16 + 13) (x4 := x4) (h := h) (by
    simp only [i1, i2, gd_t]
    rw [e1, bI_r]
    exact b4)
theorem cs_1031 {R : Hp → Prop} (S : SimI R F_L_fly F_X7_fly 3) {x4 : Int32} {h : Hp} (hR : R h) (hin : inb (x4 + 1) (rd h SCRB 0).toNatClampNeg = true ∧ inb (x4 + 2) (rd h SCRB 0).toNatClampNeg = true ∧ inb (x4 + 3) (rd h SCRB 0).toNatClampNeg = true ∧ inb (x4 + 4) (rd h SCRB 0).toNatClampNeg = true ∧ inb (x4 + 5) (rd h SCRB 0).toNatClampNeg = true ∧ inb (x4 + 6) (rd h SCRB 0).toNatClampNeg = true ∧ inb (x4 + 7) (rd h SCRB 0).toNatClampNeg = true ∧ inb (x4 + 8) (rd h SCRB 0).toNatClampNeg = true ∧ inb (x4 + 9) (rd h SCRB 0).toNatClampNeg = true) : ∃ h2, R h2 ∧ Scr h h2 ∧ ∀ (n : Nat) (r : (Option Value × Hp) ⊕ (Nat × Hp)), f_L_law_23 n (x4 + 10) h2 = some r → f_L_law_1031 (n + 55) x4 h = some r := by
  obtain ⟨i1, i2, i3, i4, i5, i6, i7, i8, i9⟩ := hin
  obtain ⟨k, v, h1, h2, e1, e2, e3, e4, e5, e6, e7⟩ := S [(rd h SCRA (x4 + 1).toNatClampNeg), (rd h SCRA (x4 + 2).toNatClampNeg), (rd h SCRA (x4 + 3).toNatClampNeg)] h rfl hR
  refine ⟨h2, e5, e7, fun n r hr => ?_⟩
  have e1 : F_L_fly [.ref 0, .int (rd h SCRA (x4 + 1).toNatClampNeg), .int (rd h SCRA (x4 + 2).toNatClampNeg), .int (rd h SCRA (x4 + 3).toNatClampNeg), .ref 275] h = rtn (some (.int k)) h1 := e1
  have e2 : F_X7_fly [.ref 227, .int (rd h SCRA (x4 + 1).toNatClampNeg), .int (rd h SCRA (x4 + 2).toNatClampNeg), .int (rd h SCRA (x4 + 3).toNatClampNeg)] h1 = rtn (some (.int v)) h2 := e2
  have b1 := e_L_law_1988 (n := n) (x4 := x4) (h := h2) hr
  have b2 := e_L_law_1108 (n := n + 2) (x4 := x4) (h := h2) b1
  have b3 := e_L_law_1078 (n := n + 2 + 1) (x4 := x4) (x5 := k) (s0 := v) (h := h2) (r := r) (by
    rw [thrown_s, bI_r, if_pos e3]
    by_cases c : k = 0
    · rw [if_pos c, show inb 0 1 = true from rfl, gd_t, show rdL h2 (0 : Int32).toNatClampNeg = Int32.toInt64 v from e4 c, cmp_self, if_pos rfl]
      exact b2
    · rw [if_neg c]
      exact b2)
  have b4 := e_L_law_1054 (n := n + 2 + 1 + 16) (x4 := x4) (s0 := k) (h := h1) (r := r) (by
    simp only [e6.1, e6.2, i1, i2, i3, gd_t]
    rw [e2, bI_r]
    exact b3)
  exact e_L_law_1031 (n := n + 2 + 1 + 16 + 18) (x4 := x4) (h := h) (by
    simp only [i1, i2, i3, gd_t]
    rw [e1, bI_r]
    exact b4)
theorem cs_1111 {R : Hp → Prop} (S : SimB R F_L_close F_X7_close 3) {x4 : Int32} {h : Hp} (hR : R h) (hin : inb (x4 + 1) (rd h SCRB 0).toNatClampNeg = true ∧ inb (x4 + 2) (rd h SCRB 0).toNatClampNeg = true ∧ inb (x4 + 3) (rd h SCRB 0).toNatClampNeg = true ∧ inb (x4 + 4) (rd h SCRB 0).toNatClampNeg = true ∧ inb (x4 + 5) (rd h SCRB 0).toNatClampNeg = true ∧ inb (x4 + 6) (rd h SCRB 0).toNatClampNeg = true ∧ inb (x4 + 7) (rd h SCRB 0).toNatClampNeg = true ∧ inb (x4 + 8) (rd h SCRB 0).toNatClampNeg = true ∧ inb (x4 + 9) (rd h SCRB 0).toNatClampNeg = true) : ∃ h2, R h2 ∧ Scr h h2 ∧ ∀ (n : Nat) (r : (Option Value × Hp) ⊕ (Nat × Hp)), f_L_law_23 n (x4 + 10) h2 = some r → f_L_law_1111 (n + 57) x4 h = some r := by
  obtain ⟨i1, i2, i3, i4, i5, i6, i7, i8, i9⟩ := hin
  obtain ⟨k, v, h1, h2, e1, e2, e3, e4, e5, e6, e7⟩ := S [(rd h SCRA (x4 + 1).toNatClampNeg), (rd h SCRA (x4 + 2).toNatClampNeg), (rd h SCRA (x4 + 3).toNatClampNeg)] h rfl hR
  refine ⟨h2, e5, e7, fun n r hr => ?_⟩
  have e1 : F_L_close [.ref 0, .int (rd h SCRA (x4 + 1).toNatClampNeg), .int (rd h SCRA (x4 + 2).toNatClampNeg), .int (rd h SCRA (x4 + 3).toNatClampNeg), .ref 275] h = rtn (some (.int k)) h1 := e1
  have e2 : F_X7_close [.ref 227, .int (rd h SCRA (x4 + 1).toNatClampNeg), .int (rd h SCRA (x4 + 2).toNatClampNeg), .int (rd h SCRA (x4 + 3).toNatClampNeg)] h1 = rtn (some (.int v)) h2 := e2
  have b1 := e_L_law_1988 (n := n) (x4 := x4) (h := h2) hr
  have b2 := e_L_law_1195 (n := n + 2) (x4 := x4) (h := h2) b1
  have bx : f_L_law_1195 (n + 2 + 1 + 4) x4 h2 = some r := by
    have q : ∀ j, n + 2 + 1 ≤ j → f_L_law_1195 j x4 h2 = some r := fun j hj => exN_le _ _ _ _ _ _ _ _ hj _ _ _ _ _ b2
    exact q _ (by omega)
  have b3 := e_L_law_1158 (n := n + 2 + 1 + 4) (x4 := x4) (x5 := k) (s0 := v) (h := h2) (r := r) (by
    rw [thrown_s, bI_r, if_pos e3]
    by_cases c : k = 0
    · rw [if_pos c, show inb 0 1 = true from rfl, gd_t]
      have e9 := e4 c
      by_cases c2 : v = 0
      · rw [if_pos c2]
        rw [if_pos c2] at e9
        refine e_L_law_1189 (n := n + 2 + 1) ?_
        rw [show rdL h2 (0 : Int32).toNatClampNeg = Int64.ofNat 0 from e9, cmp_self, if_pos rfl]
        exact b2
      · rw [if_neg c2]
        rw [if_neg c2] at e9
        refine e_L_law_1189 (n := n + 2 + 1) ?_
        rw [show rdL h2 (0 : Int32).toNatClampNeg = Int64.ofNat 1 from e9, cmp_self, if_pos rfl]
        exact b2
    · rw [if_neg c]
      exact bx)
  have b4 := e_L_law_1134 (n := n + 2 + 1 + 4 + 14) (x4 := x4) (s0 := k) (h := h1) (r := r) (by
    simp only [e6.1, e6.2, i1, i2, i3, gd_t]
    rw [e2, bI_r]
    exact b3)
  exact e_L_law_1111 (n := n + 2 + 1 + 4 + 14 + 18) (x4 := x4) (h := h) (by
    simp only [i1, i2, i3, gd_t]
    rw [e1, bI_r]
    exact b4)
theorem cs_1198 {R : Hp → Prop} (S : SimI R F_L_end F_X7_end 0) {x4 : Int32} {h : Hp} (hR : R h) (hin : inb (x4 + 1) (rd h SCRB 0).toNatClampNeg = true ∧ inb (x4 + 2) (rd h SCRB 0).toNatClampNeg = true ∧ inb (x4 + 3) (rd h SCRB 0).toNatClampNeg = true ∧ inb (x4 + 4) (rd h SCRB 0).toNatClampNeg = true ∧ inb (x4 + 5) (rd h SCRB 0).toNatClampNeg = true ∧ inb (x4 + 6) (rd h SCRB 0).toNatClampNeg = true ∧ inb (x4 + 7) (rd h SCRB 0).toNatClampNeg = true ∧ inb (x4 + 8) (rd h SCRB 0).toNatClampNeg = true ∧ inb (x4 + 9) (rd h SCRB 0).toNatClampNeg = true) : ∃ h2, R h2 ∧ Scr h h2 ∧ ∀ (n : Nat) (r : (Option Value × Hp) ⊕ (Nat × Hp)), f_L_law_23 n (x4 + 10) h2 = some r → f_L_law_1198 (n + 25) x4 h = some r := by
  obtain ⟨i1, i2, i3, i4, i5, i6, i7, i8, i9⟩ := hin
  obtain ⟨k, v, h1, h2, e1, e2, e3, e4, e5, e6, e7⟩ := S [] h rfl hR
  refine ⟨h2, e5, e7, fun n r hr => ?_⟩
  have e1 : F_L_end [.ref 0, .ref 275] h = rtn (some (.int k)) h1 := e1
  have e2 : F_X7_end [.ref 227] h1 = rtn (some (.int v)) h2 := e2
  have b1 := e_L_law_1988 (n := n) (x4 := x4) (h := h2) hr
  have b2 := e_L_law_1239 (n := n + 2) (x4 := x4) (h := h2) b1
  have b3 := e_L_law_1209 (n := n + 2 + 1) (x4 := x4) (x5 := k) (s0 := v) (h := h2) (r := r) (by
    rw [thrown_s, bI_r, if_pos e3]
    by_cases c : k = 0
    · rw [if_pos c, show inb 0 1 = true from rfl, gd_t, show rdL h2 (0 : Int32).toNatClampNeg = Int32.toInt64 v from e4 c, cmp_self, if_pos rfl]
      exact b2
    · rw [if_neg c]
      exact b2)
  have b4 := e_L_law_1203 (n := n + 2 + 1 + 16) (x4 := x4) (s0 := k) (h := h1) (r := r) (by
    rw [e2, bI_r]
    exact b3)
  exact e_L_law_1198 (n := n + 2 + 1 + 16 + 3) (x4 := x4) (h := h) (by
    rw [e1, bI_r]
    exact b4)
theorem cs_1242 {R : Hp → Prop} (S : Sim0 R F_X6_season F_X7_season) {x4 : Int32} {h : Hp} (hR : R h) (hin : inb (x4 + 1) (rd h SCRB 0).toNatClampNeg = true ∧ inb (x4 + 2) (rd h SCRB 0).toNatClampNeg = true ∧ inb (x4 + 3) (rd h SCRB 0).toNatClampNeg = true ∧ inb (x4 + 4) (rd h SCRB 0).toNatClampNeg = true ∧ inb (x4 + 5) (rd h SCRB 0).toNatClampNeg = true ∧ inb (x4 + 6) (rd h SCRB 0).toNatClampNeg = true ∧ inb (x4 + 7) (rd h SCRB 0).toNatClampNeg = true ∧ inb (x4 + 8) (rd h SCRB 0).toNatClampNeg = true ∧ inb (x4 + 9) (rd h SCRB 0).toNatClampNeg = true) : ∃ h2, R h2 ∧ Scr h h2 ∧ ∀ (n : Nat) (r : (Option Value × Hp) ⊕ (Nat × Hp)), f_L_law_23 n (x4 + 10) h2 = some r → f_L_law_1242 (n + 9) x4 h = some r := by
  obtain ⟨i1, i2, i3, i4, i5, i6, i7, i8, i9⟩ := hin
  obtain ⟨v, h1, h2, e1, e2, e5, e7⟩ := S h hR
  refine ⟨h2, e5, e7, fun n r hr => ?_⟩
  have b1 := e_L_law_1988 (n := n) (x4 := x4) (h := h2) hr
  exact e_L_law_1242 (n := n + 2) (x4 := x4) (h := h) (by
    rw [e1, bI_r, e2, bI_r, if_pos rfl]
    exact b1)
theorem cs_1255 {R : Hp → Prop} (S : SimI R F_L_load F_X7_load 6) {x4 : Int32} {h : Hp} (hR : R h) (hin : inb (x4 + 1) (rd h SCRB 0).toNatClampNeg = true ∧ inb (x4 + 2) (rd h SCRB 0).toNatClampNeg = true ∧ inb (x4 + 3) (rd h SCRB 0).toNatClampNeg = true ∧ inb (x4 + 4) (rd h SCRB 0).toNatClampNeg = true ∧ inb (x4 + 5) (rd h SCRB 0).toNatClampNeg = true ∧ inb (x4 + 6) (rd h SCRB 0).toNatClampNeg = true ∧ inb (x4 + 7) (rd h SCRB 0).toNatClampNeg = true ∧ inb (x4 + 8) (rd h SCRB 0).toNatClampNeg = true ∧ inb (x4 + 9) (rd h SCRB 0).toNatClampNeg = true) : ∃ h2, R h2 ∧ Scr h h2 ∧ ∀ (n : Nat) (r : (Option Value × Hp) ⊕ (Nat × Hp)), f_L_law_23 n (x4 + 10) h2 = some r → f_L_law_1255 (n + 85) x4 h = some r := by
  obtain ⟨i1, i2, i3, i4, i5, i6, i7, i8, i9⟩ := hin
  obtain ⟨k, v, h1, h2, e1, e2, e3, e4, e5, e6, e7⟩ := S [(rd h SCRA (x4 + 1).toNatClampNeg), (rd h SCRA (x4 + 2).toNatClampNeg), (rd h SCRA (x4 + 3).toNatClampNeg), (rd h SCRA (x4 + 4).toNatClampNeg), (rd h SCRA (x4 + 5).toNatClampNeg), (rd h SCRA (x4 + 6).toNatClampNeg)] h rfl hR
  refine ⟨h2, e5, e7, fun n r hr => ?_⟩
  have e1 : F_L_load [.ref 0, .int (rd h SCRA (x4 + 1).toNatClampNeg), .int (rd h SCRA (x4 + 2).toNatClampNeg), .int (rd h SCRA (x4 + 3).toNatClampNeg), .int (rd h SCRA (x4 + 4).toNatClampNeg), .int (rd h SCRA (x4 + 5).toNatClampNeg), .int (rd h SCRA (x4 + 6).toNatClampNeg), .ref 275] h = rtn (some (.int k)) h1 := e1
  have e2 : F_X7_load [.ref 227, .int (rd h SCRA (x4 + 1).toNatClampNeg), .int (rd h SCRA (x4 + 2).toNatClampNeg), .int (rd h SCRA (x4 + 3).toNatClampNeg), .int (rd h SCRA (x4 + 4).toNatClampNeg), .int (rd h SCRA (x4 + 5).toNatClampNeg), .int (rd h SCRA (x4 + 6).toNatClampNeg)] h1 = rtn (some (.int v)) h2 := e2
  have b1 := e_L_law_1988 (n := n) (x4 := x4) (h := h2) hr
  have b2 := e_L_law_1370 (n := n + 2) (x4 := x4) (h := h2) b1
  have b3 := e_L_law_1340 (n := n + 2 + 1) (x4 := x4) (x5 := k) (s0 := v) (h := h2) (r := r) (by
    rw [thrown_s, bI_r, if_pos e3]
    by_cases c : k = 0
    · rw [if_pos c, show inb 0 1 = true from rfl, gd_t, show rdL h2 (0 : Int32).toNatClampNeg = Int32.toInt64 v from e4 c, cmp_self, if_pos rfl]
      exact b2
    · rw [if_neg c]
      exact b2)
  have b4 := e_L_law_1297 (n := n + 2 + 1 + 16) (x4 := x4) (s0 := k) (h := h1) (r := r) (by
    simp only [e6.1, e6.2, i1, i2, i3, i4, i5, i6, gd_t]
    rw [e2, bI_r]
    exact b3)
  exact e_L_law_1255 (n := n + 2 + 1 + 16 + 33) (x4 := x4) (h := h) (by
    simp only [i1, i2, i3, i4, i5, i6, gd_t]
    rw [e1, bI_r]
    exact b4)
theorem cs_1373 {R : Hp → Prop} (S : SimI R F_L_worst F_X7_worst 4) {x4 : Int32} {h : Hp} (hR : R h) (hin : inb (x4 + 1) (rd h SCRB 0).toNatClampNeg = true ∧ inb (x4 + 2) (rd h SCRB 0).toNatClampNeg = true ∧ inb (x4 + 3) (rd h SCRB 0).toNatClampNeg = true ∧ inb (x4 + 4) (rd h SCRB 0).toNatClampNeg = true ∧ inb (x4 + 5) (rd h SCRB 0).toNatClampNeg = true ∧ inb (x4 + 6) (rd h SCRB 0).toNatClampNeg = true ∧ inb (x4 + 7) (rd h SCRB 0).toNatClampNeg = true ∧ inb (x4 + 8) (rd h SCRB 0).toNatClampNeg = true ∧ inb (x4 + 9) (rd h SCRB 0).toNatClampNeg = true) : ∃ h2, R h2 ∧ Scr h h2 ∧ ∀ (n : Nat) (r : (Option Value × Hp) ⊕ (Nat × Hp)), f_L_law_23 n (x4 + 10) h2 = some r → f_L_law_1373 (n + 65) x4 h = some r := by
  obtain ⟨i1, i2, i3, i4, i5, i6, i7, i8, i9⟩ := hin
  obtain ⟨k, v, h1, h2, e1, e2, e3, e4, e5, e6, e7⟩ := S [(rd h SCRA (x4 + 1).toNatClampNeg), (rd h SCRA (x4 + 2).toNatClampNeg), (rd h SCRA (x4 + 3).toNatClampNeg), (rd h SCRA (x4 + 4).toNatClampNeg)] h rfl hR
  refine ⟨h2, e5, e7, fun n r hr => ?_⟩
  have e1 : F_L_worst [.ref 0, .int (rd h SCRA (x4 + 1).toNatClampNeg), .int (rd h SCRA (x4 + 2).toNatClampNeg), .int (rd h SCRA (x4 + 3).toNatClampNeg), .int (rd h SCRA (x4 + 4).toNatClampNeg), .ref 275] h = rtn (some (.int k)) h1 := e1
  have e2 : F_X7_worst [.ref 227, .int (rd h SCRA (x4 + 1).toNatClampNeg), .int (rd h SCRA (x4 + 2).toNatClampNeg), .int (rd h SCRA (x4 + 3).toNatClampNeg), .int (rd h SCRA (x4 + 4).toNatClampNeg)] h1 = rtn (some (.int v)) h2 := e2
  have b1 := e_L_law_1988 (n := n) (x4 := x4) (h := h2) hr
  have b2 := e_L_law_1462 (n := n + 2) (x4 := x4) (h := h2) b1
  have b3 := e_L_law_1432 (n := n + 2 + 1) (x4 := x4) (x5 := k) (s0 := v) (h := h2) (r := r) (by
    rw [thrown_s, bI_r, if_pos e3]
    by_cases c : k = 0
    · rw [if_pos c, show inb 0 1 = true from rfl, gd_t, show rdL h2 (0 : Int32).toNatClampNeg = Int32.toInt64 v from e4 c, cmp_self, if_pos rfl]
      exact b2
    · rw [if_neg c]
      exact b2)
  have b4 := e_L_law_1402 (n := n + 2 + 1 + 16) (x4 := x4) (s0 := k) (h := h1) (r := r) (by
    simp only [e6.1, e6.2, i1, i2, i3, i4, gd_t]
    rw [e2, bI_r]
    exact b3)
  exact e_L_law_1373 (n := n + 2 + 1 + 16 + 23) (x4 := x4) (h := h) (by
    simp only [i1, i2, i3, i4, gd_t]
    rw [e1, bI_r]
    exact b4)
theorem cs_1465 {R : Hp → Prop} (S : SimI R F_L_noise F_X7_noise 1) {x4 : Int32} {h : Hp} (hR : R h) (hin : inb (x4 + 1) (rd h SCRB 0).toNatClampNeg = true ∧ inb (x4 + 2) (rd h SCRB 0).toNatClampNeg = true ∧ inb (x4 + 3) (rd h SCRB 0).toNatClampNeg = true ∧ inb (x4 + 4) (rd h SCRB 0).toNatClampNeg = true ∧ inb (x4 + 5) (rd h SCRB 0).toNatClampNeg = true ∧ inb (x4 + 6) (rd h SCRB 0).toNatClampNeg = true ∧ inb (x4 + 7) (rd h SCRB 0).toNatClampNeg = true ∧ inb (x4 + 8) (rd h SCRB 0).toNatClampNeg = true ∧ inb (x4 + 9) (rd h SCRB 0).toNatClampNeg = true) : ∃ h2, R h2 ∧ Scr h h2 ∧ ∀ (n : Nat) (r : (Option Value × Hp) ⊕ (Nat × Hp)), f_L_law_23 n (x4 + 10) h2 = some r → f_L_law_1465 (n + 35) x4 h = some r := by
  obtain ⟨i1, i2, i3, i4, i5, i6, i7, i8, i9⟩ := hin
  obtain ⟨k, v, h1, h2, e1, e2, e3, e4, e5, e6, e7⟩ := S [(rd h SCRA (x4 + 1).toNatClampNeg)] h rfl hR
  refine ⟨h2, e5, e7, fun n r hr => ?_⟩
  have e1 : F_L_noise [.ref 0, .int (rd h SCRA (x4 + 1).toNatClampNeg), .ref 275] h = rtn (some (.int k)) h1 := e1
  have e2 : F_X7_noise [.ref 227, .int (rd h SCRA (x4 + 1).toNatClampNeg)] h1 = rtn (some (.int v)) h2 := e2
  have b1 := e_L_law_1988 (n := n) (x4 := x4) (h := h2) hr
  have b2 := e_L_law_1518 (n := n + 2) (x4 := x4) (h := h2) b1
  have b3 := e_L_law_1488 (n := n + 2 + 1) (x4 := x4) (x5 := k) (s0 := v) (h := h2) (r := r) (by
    rw [thrown_s, bI_r, if_pos e3]
    by_cases c : k = 0
    · rw [if_pos c, show inb 0 1 = true from rfl, gd_t, show rdL h2 (0 : Int32).toNatClampNeg = Int32.toInt64 v from e4 c, cmp_self, if_pos rfl]
      exact b2
    · rw [if_neg c]
      exact b2)
  have b4 := e_L_law_1476 (n := n + 2 + 1 + 16) (x4 := x4) (s0 := k) (h := h1) (r := r) (by
    simp only [e6.1, e6.2, i1, gd_t]
    rw [e2, bI_r]
    exact b3)
  exact e_L_law_1465 (n := n + 2 + 1 + 16 + 8) (x4 := x4) (h := h) (by
    simp only [i1, gd_t]
    rw [e1, bI_r]
    exact b4)
theorem cs_1521 {R : Hp → Prop} (S : SimI R F_L_requestOf F_X7_requestOf 2) {x4 : Int32} {h : Hp} (hR : R h) (hin : inb (x4 + 1) (rd h SCRB 0).toNatClampNeg = true ∧ inb (x4 + 2) (rd h SCRB 0).toNatClampNeg = true ∧ inb (x4 + 3) (rd h SCRB 0).toNatClampNeg = true ∧ inb (x4 + 4) (rd h SCRB 0).toNatClampNeg = true ∧ inb (x4 + 5) (rd h SCRB 0).toNatClampNeg = true ∧ inb (x4 + 6) (rd h SCRB 0).toNatClampNeg = true ∧ inb (x4 + 7) (rd h SCRB 0).toNatClampNeg = true ∧ inb (x4 + 8) (rd h SCRB 0).toNatClampNeg = true ∧ inb (x4 + 9) (rd h SCRB 0).toNatClampNeg = true) : ∃ h2, R h2 ∧ Scr h h2 ∧ ∀ (n : Nat) (r : (Option Value × Hp) ⊕ (Nat × Hp)), f_L_law_23 n (x4 + 10) h2 = some r → f_L_law_1521 (n + 45) x4 h = some r := by
  obtain ⟨i1, i2, i3, i4, i5, i6, i7, i8, i9⟩ := hin
  obtain ⟨k, v, h1, h2, e1, e2, e3, e4, e5, e6, e7⟩ := S [(rd h SCRA (x4 + 1).toNatClampNeg), (rd h SCRA (x4 + 2).toNatClampNeg)] h rfl hR
  refine ⟨h2, e5, e7, fun n r hr => ?_⟩
  have e1 : F_L_requestOf [.ref 0, .int (rd h SCRA (x4 + 1).toNatClampNeg), .int (rd h SCRA (x4 + 2).toNatClampNeg), .ref 275] h = rtn (some (.int k)) h1 := e1
  have e2 : F_X7_requestOf [.ref 227, .int (rd h SCRA (x4 + 1).toNatClampNeg), .int (rd h SCRA (x4 + 2).toNatClampNeg)] h1 = rtn (some (.int v)) h2 := e2
  have b1 := e_L_law_1988 (n := n) (x4 := x4) (h := h2) hr
  have b2 := e_L_law_1586 (n := n + 2) (x4 := x4) (h := h2) b1
  have b3 := e_L_law_1556 (n := n + 2 + 1) (x4 := x4) (x5 := k) (s0 := v) (h := h2) (r := r) (by
    rw [thrown_s, bI_r, if_pos e3]
    by_cases c : k = 0
    · rw [if_pos c, show inb 0 1 = true from rfl, gd_t, show rdL h2 (0 : Int32).toNatClampNeg = Int32.toInt64 v from e4 c, cmp_self, if_pos rfl]
      exact b2
    · rw [if_neg c]
      exact b2)
  have b4 := e_L_law_1538 (n := n + 2 + 1 + 16) (x4 := x4) (s0 := k) (h := h1) (r := r) (by
    simp only [e6.1, e6.2, i1, i2, gd_t]
    rw [e2, bI_r]
    exact b3)
  exact e_L_law_1521 (n := n + 2 + 1 + 16 + 13) (x4 := x4) (h := h) (by
    simp only [i1, i2, gd_t]
    rw [e1, bI_r]
    exact b4)
theorem cs_1589 {R : Hp → Prop} (S : SimI R F_L_ahead F_X7_ahead 1) {x4 : Int32} {h : Hp} (hR : R h) (hin : inb (x4 + 1) (rd h SCRB 0).toNatClampNeg = true ∧ inb (x4 + 2) (rd h SCRB 0).toNatClampNeg = true ∧ inb (x4 + 3) (rd h SCRB 0).toNatClampNeg = true ∧ inb (x4 + 4) (rd h SCRB 0).toNatClampNeg = true ∧ inb (x4 + 5) (rd h SCRB 0).toNatClampNeg = true ∧ inb (x4 + 6) (rd h SCRB 0).toNatClampNeg = true ∧ inb (x4 + 7) (rd h SCRB 0).toNatClampNeg = true ∧ inb (x4 + 8) (rd h SCRB 0).toNatClampNeg = true ∧ inb (x4 + 9) (rd h SCRB 0).toNatClampNeg = true) : ∃ h2, R h2 ∧ Scr h h2 ∧ ∀ (n : Nat) (r : (Option Value × Hp) ⊕ (Nat × Hp)), f_L_law_23 n (x4 + 10) h2 = some r → f_L_law_1589 (n + 35) x4 h = some r := by
  obtain ⟨i1, i2, i3, i4, i5, i6, i7, i8, i9⟩ := hin
  obtain ⟨k, v, h1, h2, e1, e2, e3, e4, e5, e6, e7⟩ := S [(rd h SCRA (x4 + 1).toNatClampNeg)] h rfl hR
  refine ⟨h2, e5, e7, fun n r hr => ?_⟩
  have e1 : F_L_ahead [.ref 0, .int (rd h SCRA (x4 + 1).toNatClampNeg), .ref 275] h = rtn (some (.int k)) h1 := e1
  have e2 : F_X7_ahead [.ref 227, .int (rd h SCRA (x4 + 1).toNatClampNeg)] h1 = rtn (some (.int v)) h2 := e2
  have b1 := e_L_law_1988 (n := n) (x4 := x4) (h := h2) hr
  have b2 := e_L_law_1642 (n := n + 2) (x4 := x4) (h := h2) b1
  have b3 := e_L_law_1612 (n := n + 2 + 1) (x4 := x4) (x5 := k) (s0 := v) (h := h2) (r := r) (by
    rw [thrown_s, bI_r, if_pos e3]
    by_cases c : k = 0
    · rw [if_pos c, show inb 0 1 = true from rfl, gd_t, show rdL h2 (0 : Int32).toNatClampNeg = Int32.toInt64 v from e4 c, cmp_self, if_pos rfl]
      exact b2
    · rw [if_neg c]
      exact b2)
  have b4 := e_L_law_1600 (n := n + 2 + 1 + 16) (x4 := x4) (s0 := k) (h := h1) (r := r) (by
    simp only [e6.1, e6.2, i1, gd_t]
    rw [e2, bI_r]
    exact b3)
  exact e_L_law_1589 (n := n + 2 + 1 + 16 + 8) (x4 := x4) (h := h) (by
    simp only [i1, gd_t]
    rw [e1, bI_r]
    exact b4)
theorem cs_1645 {R : Hp → Prop} (S : SimI R F_L_seriesOf F_X7_seriesOf 2) {x4 : Int32} {h : Hp} (hR : R h) (hin : inb (x4 + 1) (rd h SCRB 0).toNatClampNeg = true ∧ inb (x4 + 2) (rd h SCRB 0).toNatClampNeg = true ∧ inb (x4 + 3) (rd h SCRB 0).toNatClampNeg = true ∧ inb (x4 + 4) (rd h SCRB 0).toNatClampNeg = true ∧ inb (x4 + 5) (rd h SCRB 0).toNatClampNeg = true ∧ inb (x4 + 6) (rd h SCRB 0).toNatClampNeg = true ∧ inb (x4 + 7) (rd h SCRB 0).toNatClampNeg = true ∧ inb (x4 + 8) (rd h SCRB 0).toNatClampNeg = true ∧ inb (x4 + 9) (rd h SCRB 0).toNatClampNeg = true) : ∃ h2, R h2 ∧ Scr h h2 ∧ ∀ (n : Nat) (r : (Option Value × Hp) ⊕ (Nat × Hp)), f_L_law_23 n (x4 + 10) h2 = some r → f_L_law_1645 (n + 45) x4 h = some r := by
  obtain ⟨i1, i2, i3, i4, i5, i6, i7, i8, i9⟩ := hin
  obtain ⟨k, v, h1, h2, e1, e2, e3, e4, e5, e6, e7⟩ := S [(rd h SCRA (x4 + 1).toNatClampNeg), (rd h SCRA (x4 + 2).toNatClampNeg)] h rfl hR
  refine ⟨h2, e5, e7, fun n r hr => ?_⟩
  have e1 : F_L_seriesOf [.ref 0, .int (rd h SCRA (x4 + 1).toNatClampNeg), .int (rd h SCRA (x4 + 2).toNatClampNeg), .ref 275] h = rtn (some (.int k)) h1 := e1
  have e2 : F_X7_seriesOf [.ref 227, .int (rd h SCRA (x4 + 1).toNatClampNeg), .int (rd h SCRA (x4 + 2).toNatClampNeg)] h1 = rtn (some (.int v)) h2 := e2
  have b1 := e_L_law_1988 (n := n) (x4 := x4) (h := h2) hr
  have b2 := e_L_law_1710 (n := n + 2) (x4 := x4) (h := h2) b1
  have b3 := e_L_law_1680 (n := n + 2 + 1) (x4 := x4) (x5 := k) (s0 := v) (h := h2) (r := r) (by
    rw [thrown_s, bI_r, if_pos e3]
    by_cases c : k = 0
    · rw [if_pos c, show inb 0 1 = true from rfl, gd_t, show rdL h2 (0 : Int32).toNatClampNeg = Int32.toInt64 v from e4 c, cmp_self, if_pos rfl]
      exact b2
    · rw [if_neg c]
      exact b2)
  have b4 := e_L_law_1662 (n := n + 2 + 1 + 16) (x4 := x4) (s0 := k) (h := h1) (r := r) (by
    simp only [e6.1, e6.2, i1, i2, gd_t]
    rw [e2, bI_r]
    exact b3)
  exact e_L_law_1645 (n := n + 2 + 1 + 16 + 13) (x4 := x4) (h := h) (by
    simp only [i1, i2, gd_t]
    rw [e1, bI_r]
    exact b4)
theorem cs_1713 {R : Hp → Prop} (S : SimB R F_L_earns F_X7_earns 1) {x4 : Int32} {h : Hp} (hR : R h) (hin : inb (x4 + 1) (rd h SCRB 0).toNatClampNeg = true ∧ inb (x4 + 2) (rd h SCRB 0).toNatClampNeg = true ∧ inb (x4 + 3) (rd h SCRB 0).toNatClampNeg = true ∧ inb (x4 + 4) (rd h SCRB 0).toNatClampNeg = true ∧ inb (x4 + 5) (rd h SCRB 0).toNatClampNeg = true ∧ inb (x4 + 6) (rd h SCRB 0).toNatClampNeg = true ∧ inb (x4 + 7) (rd h SCRB 0).toNatClampNeg = true ∧ inb (x4 + 8) (rd h SCRB 0).toNatClampNeg = true ∧ inb (x4 + 9) (rd h SCRB 0).toNatClampNeg = true) : ∃ h2, R h2 ∧ Scr h h2 ∧ ∀ (n : Nat) (r : (Option Value × Hp) ⊕ (Nat × Hp)), f_L_law_23 n (x4 + 10) h2 = some r → f_L_law_1713 (n + 37) x4 h = some r := by
  obtain ⟨i1, i2, i3, i4, i5, i6, i7, i8, i9⟩ := hin
  obtain ⟨k, v, h1, h2, e1, e2, e3, e4, e5, e6, e7⟩ := S [(rd h SCRA (x4 + 1).toNatClampNeg)] h rfl hR
  refine ⟨h2, e5, e7, fun n r hr => ?_⟩
  have e1 : F_L_earns [.ref 0, .int (rd h SCRA (x4 + 1).toNatClampNeg), .ref 275] h = rtn (some (.int k)) h1 := e1
  have e2 : F_X7_earns [.ref 227, .int (rd h SCRA (x4 + 1).toNatClampNeg)] h1 = rtn (some (.int v)) h2 := e2
  have b1 := e_L_law_1988 (n := n) (x4 := x4) (h := h2) hr
  have b2 := e_L_law_1773 (n := n + 2) (x4 := x4) (h := h2) b1
  have bx : f_L_law_1773 (n + 2 + 1 + 4) x4 h2 = some r := by
    have q : ∀ j, n + 2 + 1 ≤ j → f_L_law_1773 j x4 h2 = some r := fun j hj => exN_le _ _ _ _ _ _ _ _ hj _ _ _ _ _ b2
    exact q _ (by omega)
  have b3 := e_L_law_1736 (n := n + 2 + 1 + 4) (x4 := x4) (x5 := k) (s0 := v) (h := h2) (r := r) (by
    rw [thrown_s, bI_r, if_pos e3]
    by_cases c : k = 0
    · rw [if_pos c, show inb 0 1 = true from rfl, gd_t]
      have e9 := e4 c
      by_cases c2 : v = 0
      · rw [if_pos c2]
        rw [if_pos c2] at e9
        refine e_L_law_1767 (n := n + 2 + 1) ?_
        rw [show rdL h2 (0 : Int32).toNatClampNeg = Int64.ofNat 0 from e9, cmp_self, if_pos rfl]
        exact b2
      · rw [if_neg c2]
        rw [if_neg c2] at e9
        refine e_L_law_1767 (n := n + 2 + 1) ?_
        rw [show rdL h2 (0 : Int32).toNatClampNeg = Int64.ofNat 1 from e9, cmp_self, if_pos rfl]
        exact b2
    · rw [if_neg c]
      exact bx)
  have b4 := e_L_law_1724 (n := n + 2 + 1 + 4 + 14) (x4 := x4) (s0 := k) (h := h1) (r := r) (by
    simp only [e6.1, e6.2, i1, gd_t]
    rw [e2, bI_r]
    exact b3)
  exact e_L_law_1713 (n := n + 2 + 1 + 4 + 14 + 8) (x4 := x4) (h := h) (by
    simp only [i1, gd_t]
    rw [e1, bI_r]
    exact b4)
theorem cs_1776 {R : Hp → Prop} (S : Sim0 R F_X6_rights F_X7_rights) {x4 : Int32} {h : Hp} (hR : R h) (hin : inb (x4 + 1) (rd h SCRB 0).toNatClampNeg = true ∧ inb (x4 + 2) (rd h SCRB 0).toNatClampNeg = true ∧ inb (x4 + 3) (rd h SCRB 0).toNatClampNeg = true ∧ inb (x4 + 4) (rd h SCRB 0).toNatClampNeg = true ∧ inb (x4 + 5) (rd h SCRB 0).toNatClampNeg = true ∧ inb (x4 + 6) (rd h SCRB 0).toNatClampNeg = true ∧ inb (x4 + 7) (rd h SCRB 0).toNatClampNeg = true ∧ inb (x4 + 8) (rd h SCRB 0).toNatClampNeg = true ∧ inb (x4 + 9) (rd h SCRB 0).toNatClampNeg = true) : ∃ h2, R h2 ∧ Scr h h2 ∧ ∀ (n : Nat) (r : (Option Value × Hp) ⊕ (Nat × Hp)), f_L_law_23 n (x4 + 10) h2 = some r → f_L_law_1776 (n + 9) x4 h = some r := by
  obtain ⟨i1, i2, i3, i4, i5, i6, i7, i8, i9⟩ := hin
  obtain ⟨v, h1, h2, e1, e2, e5, e7⟩ := S h hR
  refine ⟨h2, e5, e7, fun n r hr => ?_⟩
  have b1 := e_L_law_1988 (n := n) (x4 := x4) (h := h2) hr
  exact e_L_law_1776 (n := n + 2) (x4 := x4) (h := h) (by
    rw [e1, bI_r, e2, bI_r, if_pos rfl]
    exact b1)
theorem cs_1789 {R : Hp → Prop} (S : SimI R F_L_rightOf F_X7_rightOf 2) {x4 : Int32} {h : Hp} (hR : R h) (hin : inb (x4 + 1) (rd h SCRB 0).toNatClampNeg = true ∧ inb (x4 + 2) (rd h SCRB 0).toNatClampNeg = true ∧ inb (x4 + 3) (rd h SCRB 0).toNatClampNeg = true ∧ inb (x4 + 4) (rd h SCRB 0).toNatClampNeg = true ∧ inb (x4 + 5) (rd h SCRB 0).toNatClampNeg = true ∧ inb (x4 + 6) (rd h SCRB 0).toNatClampNeg = true ∧ inb (x4 + 7) (rd h SCRB 0).toNatClampNeg = true ∧ inb (x4 + 8) (rd h SCRB 0).toNatClampNeg = true ∧ inb (x4 + 9) (rd h SCRB 0).toNatClampNeg = true) : ∃ h2, R h2 ∧ Scr h h2 ∧ ∀ (n : Nat) (r : (Option Value × Hp) ⊕ (Nat × Hp)), f_L_law_23 n (x4 + 10) h2 = some r → f_L_law_1789 (n + 45) x4 h = some r := by
  obtain ⟨i1, i2, i3, i4, i5, i6, i7, i8, i9⟩ := hin
  obtain ⟨k, v, h1, h2, e1, e2, e3, e4, e5, e6, e7⟩ := S [(rd h SCRA (x4 + 1).toNatClampNeg), (rd h SCRA (x4 + 2).toNatClampNeg)] h rfl hR
  refine ⟨h2, e5, e7, fun n r hr => ?_⟩
  have e1 : F_L_rightOf [.ref 0, .int (rd h SCRA (x4 + 1).toNatClampNeg), .int (rd h SCRA (x4 + 2).toNatClampNeg), .ref 275] h = rtn (some (.int k)) h1 := e1
  have e2 : F_X7_rightOf [.ref 227, .int (rd h SCRA (x4 + 1).toNatClampNeg), .int (rd h SCRA (x4 + 2).toNatClampNeg)] h1 = rtn (some (.int v)) h2 := e2
  have b1 := e_L_law_1988 (n := n) (x4 := x4) (h := h2) hr
  have b2 := e_L_law_1854 (n := n + 2) (x4 := x4) (h := h2) b1
  have b3 := e_L_law_1824 (n := n + 2 + 1) (x4 := x4) (x5 := k) (s0 := v) (h := h2) (r := r) (by
    rw [thrown_s, bI_r, if_pos e3]
    by_cases c : k = 0
    · rw [if_pos c, show inb 0 1 = true from rfl, gd_t, show rdL h2 (0 : Int32).toNatClampNeg = Int32.toInt64 v from e4 c, cmp_self, if_pos rfl]
      exact b2
    · rw [if_neg c]
      exact b2)
  have b4 := e_L_law_1806 (n := n + 2 + 1 + 16) (x4 := x4) (s0 := k) (h := h1) (r := r) (by
    simp only [e6.1, e6.2, i1, i2, gd_t]
    rw [e2, bI_r]
    exact b3)
  exact e_L_law_1789 (n := n + 2 + 1 + 16 + 13) (x4 := x4) (h := h) (by
    simp only [i1, i2, gd_t]
    rw [e1, bI_r]
    exact b4)
theorem cs_1857 {R : Hp → Prop} (S : SimB R F_L_isNew F_X7_isNew 2) {x4 : Int32} {h : Hp} (hR : R h) (hin : inb (x4 + 1) (rd h SCRB 0).toNatClampNeg = true ∧ inb (x4 + 2) (rd h SCRB 0).toNatClampNeg = true ∧ inb (x4 + 3) (rd h SCRB 0).toNatClampNeg = true ∧ inb (x4 + 4) (rd h SCRB 0).toNatClampNeg = true ∧ inb (x4 + 5) (rd h SCRB 0).toNatClampNeg = true ∧ inb (x4 + 6) (rd h SCRB 0).toNatClampNeg = true ∧ inb (x4 + 7) (rd h SCRB 0).toNatClampNeg = true ∧ inb (x4 + 8) (rd h SCRB 0).toNatClampNeg = true ∧ inb (x4 + 9) (rd h SCRB 0).toNatClampNeg = true) : ∃ h2, R h2 ∧ Scr h h2 ∧ ∀ (n : Nat) (r : (Option Value × Hp) ⊕ (Nat × Hp)), f_L_law_23 n (x4 + 10) h2 = some r → f_L_law_1857 (n + 47) x4 h = some r := by
  obtain ⟨i1, i2, i3, i4, i5, i6, i7, i8, i9⟩ := hin
  obtain ⟨k, v, h1, h2, e1, e2, e3, e4, e5, e6, e7⟩ := S [(rd h SCRA (x4 + 1).toNatClampNeg), (rd h SCRA (x4 + 2).toNatClampNeg)] h rfl hR
  refine ⟨h2, e5, e7, fun n r hr => ?_⟩
  have e1 : F_L_isNew [.ref 0, .int (rd h SCRA (x4 + 1).toNatClampNeg), .int (rd h SCRA (x4 + 2).toNatClampNeg), .ref 275] h = rtn (some (.int k)) h1 := e1
  have e2 : F_X7_isNew [.ref 227, .int (rd h SCRA (x4 + 1).toNatClampNeg), .int (rd h SCRA (x4 + 2).toNatClampNeg)] h1 = rtn (some (.int v)) h2 := e2
  have b1 := e_L_law_1988 (n := n) (x4 := x4) (h := h2) hr
  have b2 := e_L_law_1929 (n := n + 2) (x4 := x4) (h := h2) b1
  have bx : f_L_law_1929 (n + 2 + 1 + 4) x4 h2 = some r := by
    have q : ∀ j, n + 2 + 1 ≤ j → f_L_law_1929 j x4 h2 = some r := fun j hj => exN_le _ _ _ _ _ _ _ _ hj _ _ _ _ _ b2
    exact q _ (by omega)
  have b3 := e_L_law_1892 (n := n + 2 + 1 + 4) (x4 := x4) (x5 := k) (s0 := v) (h := h2) (r := r) (by
    rw [thrown_s, bI_r, if_pos e3]
    by_cases c : k = 0
    · rw [if_pos c, show inb 0 1 = true from rfl, gd_t]
      have e9 := e4 c
      by_cases c2 : v = 0
      · rw [if_pos c2]
        rw [if_pos c2] at e9
        refine e_L_law_1923 (n := n + 2 + 1) ?_
        rw [show rdL h2 (0 : Int32).toNatClampNeg = Int64.ofNat 0 from e9, cmp_self, if_pos rfl]
        exact b2
      · rw [if_neg c2]
        rw [if_neg c2] at e9
        refine e_L_law_1923 (n := n + 2 + 1) ?_
        rw [show rdL h2 (0 : Int32).toNatClampNeg = Int64.ofNat 1 from e9, cmp_self, if_pos rfl]
        exact b2
    · rw [if_neg c]
      exact bx)
  have b4 := e_L_law_1874 (n := n + 2 + 1 + 4 + 14) (x4 := x4) (s0 := k) (h := h1) (r := r) (by
    simp only [e6.1, e6.2, i1, i2, gd_t]
    rw [e2, bI_r]
    exact b3)
  exact e_L_law_1857 (n := n + 2 + 1 + 4 + 14 + 13) (x4 := x4) (h := h) (by
    simp only [i1, i2, gd_t]
    rw [e1, bI_r]
    exact b4)
theorem cs_1932 {R : Hp → Prop} (S : SimI R F_L_count F_X7_count 1) {x4 : Int32} {h : Hp} (hR : R h) (hin : inb (x4 + 1) (rd h SCRB 0).toNatClampNeg = true ∧ inb (x4 + 2) (rd h SCRB 0).toNatClampNeg = true ∧ inb (x4 + 3) (rd h SCRB 0).toNatClampNeg = true ∧ inb (x4 + 4) (rd h SCRB 0).toNatClampNeg = true ∧ inb (x4 + 5) (rd h SCRB 0).toNatClampNeg = true ∧ inb (x4 + 6) (rd h SCRB 0).toNatClampNeg = true ∧ inb (x4 + 7) (rd h SCRB 0).toNatClampNeg = true ∧ inb (x4 + 8) (rd h SCRB 0).toNatClampNeg = true ∧ inb (x4 + 9) (rd h SCRB 0).toNatClampNeg = true) : ∃ h2, R h2 ∧ Scr h h2 ∧ ∀ (n : Nat) (r : (Option Value × Hp) ⊕ (Nat × Hp)), f_L_law_23 n (x4 + 10) h2 = some r → f_L_law_1932 (n + 35) x4 h = some r := by
  obtain ⟨i1, i2, i3, i4, i5, i6, i7, i8, i9⟩ := hin
  obtain ⟨k, v, h1, h2, e1, e2, e3, e4, e5, e6, e7⟩ := S [(rd h SCRA (x4 + 1).toNatClampNeg)] h rfl hR
  refine ⟨h2, e5, e7, fun n r hr => ?_⟩
  have e1 : F_L_count [.ref 0, .int (rd h SCRA (x4 + 1).toNatClampNeg), .ref 275] h = rtn (some (.int k)) h1 := e1
  have e2 : F_X7_count [.ref 227, .int (rd h SCRA (x4 + 1).toNatClampNeg)] h1 = rtn (some (.int v)) h2 := e2
  have b1 := e_L_law_1988 (n := n) (x4 := x4) (h := h2) hr
  have b2 := e_L_law_1985 (n := n + 2) (x4 := x4) (h := h2) b1
  have b3 := e_L_law_1955 (n := n + 2 + 1) (x4 := x4) (x5 := k) (s0 := v) (h := h2) (r := r) (by
    rw [thrown_s, bI_r, if_pos e3]
    by_cases c : k = 0
    · rw [if_pos c, show inb 0 1 = true from rfl, gd_t, show rdL h2 (0 : Int32).toNatClampNeg = Int32.toInt64 v from e4 c, cmp_self, if_pos rfl]
      exact b2
    · rw [if_neg c]
      exact b2)
  have b4 := e_L_law_1943 (n := n + 2 + 1 + 16) (x4 := x4) (s0 := k) (h := h1) (r := r) (by
    simp only [e6.1, e6.2, i1, gd_t]
    rw [e2, bI_r]
    exact b3)
  exact e_L_law_1932 (n := n + 2 + 1 + 16 + 8) (x4 := x4) (h := h) (by
    simp only [i1, gd_t]
    rw [e1, bI_r]
    exact b4)
def AllSim (R : Hp → Prop) : Prop := SimI R F_L_declare F_X7_declare 4 ∧ SimI R F_L_revise F_X7_revise 3 ∧ SimV R F_L_curfew F_X7_curfew 3 ∧ SimI R F_L_quota F_X7_quota 2 ∧ SimI R F_L_merge F_X7_merge 2 ∧ SimI R F_L_request F_X7_request 9 ∧ SimV R F_L_link F_X7_link 2 ∧ SimI R F_L_confer F_X7_confer 0 ∧ SimB R F_L_accept F_X7_accept 1 ∧ SimI R F_L_giveBack F_X7_giveBack 2 ∧ SimV R F_L_swap F_X7_swap 2 ∧ SimI R F_L_lease F_X7_lease 2 ∧ SimI R F_L_fly F_X7_fly 3 ∧ SimB R F_L_close F_X7_close 3 ∧ SimI R F_L_end F_X7_end 0 ∧ Sim0 R F_X6_season F_X7_season ∧ SimI R F_L_load F_X7_load 6 ∧ SimI R F_L_worst F_X7_worst 4 ∧ SimI R F_L_noise F_X7_noise 1 ∧ SimI R F_L_requestOf F_X7_requestOf 2 ∧ SimI R F_L_ahead F_X7_ahead 1 ∧ SimI R F_L_seriesOf F_X7_seriesOf 2 ∧ SimB R F_L_earns F_X7_earns 1 ∧ Sim0 R F_X6_rights F_X7_rights ∧ SimI R F_L_rightOf F_X7_rightOf 2 ∧ SimB R F_L_isNew F_X7_isNew 2 ∧ SimI R F_L_count F_X7_count 1
theorem f23_le {n k : Nat} {x : Int32} {h : Hp} {r : (Option Value × Hp) ⊕ (Nat × Hp)} (hk : n ≤ k) (e : f_L_law_23 n x h = some r) : f_L_law_23 k x h = some r := by
  unfold f_L_law_23 E_L_law at e ⊢
  exact exN_le SKc SKn SKr CS _ _ _ _ hk _ _ _ _ _ e
theorem tail_lt {L t : Nat} (h1 : L < 10 * t + 10) (hL : L ≤ 5120) (ht : t ≤ 600) : Int32.ofNat L - 10 < nI (10 * t) := by
  rw [Int32.lt_iff_toInt_lt]
  have e1 : (nI (10 * t)).toInt = ((10 * t : Nat) : Int) := nI_toInt (by omega)
  have e2 : (Int32.ofNat L).toInt = (L : Int) := nI_toInt (n := L) (by omega)
  rw [Int32.toInt_sub, e1, e2, show (10 : Int32).toInt = 10 from rfl]
  rw [Int.bmod_eq_of_le (by omega) (by omega)]
  omega
theorem tail_ge {L t : Nat} (h1 : 10 * t + 10 ≤ L) (hL : L ≤ 5120) : ¬ Int32.ofNat L - 10 < nI (10 * t) := by
  rw [Int32.lt_iff_toInt_lt]
  have e1 : (nI (10 * t)).toInt = ((10 * t : Nat) : Int) := nI_toInt (by omega)
  have e2 : (Int32.ofNat L).toInt = (L : Int) := nI_toInt (n := L) (by omega)
  rw [Int32.toInt_sub, e1, e2, show (10 : Int32).toInt = 10 from rfl]
  rw [Int.bmod_eq_of_le (by omega) (by omega)]
  omega
set_option maxHeartbeats 4000000 in
theorem law_turns {R : Hp → Prop} (A : AllSim R) {L : Nat} (hL : L ≤ 5120) : ∀ (m t : Nat) (h : Hp), R h → rd h SCRB 0 = nI L → L < 10 * t + 10 * m → t ≤ 600 → ∃ g, f_L_law_23 (200 * m + 12) (nI (10 * t)) h = some (.inl (some (.int 1), g)) := by
  obtain ⟨S0, S1, S2, S3, S4, S5, S6, S7, S8, S9, S10, S11, S12, S13, S14, S15, S16, S17, S18, S19, S20, S21, S22, S23, S24, S25, S26⟩ := A
  intro m
  induction m with
  | zero =>
    intro t h hR hs ht ht6
    refine ⟨h, e_L_law_23 (n := 200 * 0) ?_⟩
    rw [hs, nI_clamp (by omega), if_pos (tail_lt (by omega) (by omega) (by omega))]
    rfl
  | succ m ih =>
    intro t h hR hs ht ht6
    by_cases hc : L < 10 * t + 10
    · refine ⟨h, e_L_law_23 (n := 200 * (m + 1)) ?_⟩
      rw [hs, nI_clamp (by omega), if_pos (tail_lt (by omega) (by omega) (by omega))]
      rfl
    · have hin : inb (nI (10 * t) + 1) (rd h SCRB 0).toNatClampNeg = true ∧ inb (nI (10 * t) + 2) (rd h SCRB 0).toNatClampNeg = true ∧ inb (nI (10 * t) + 3) (rd h SCRB 0).toNatClampNeg = true ∧ inb (nI (10 * t) + 4) (rd h SCRB 0).toNatClampNeg = true ∧ inb (nI (10 * t) + 5) (rd h SCRB 0).toNatClampNeg = true ∧ inb (nI (10 * t) + 6) (rd h SCRB 0).toNatClampNeg = true ∧ inb (nI (10 * t) + 7) (rd h SCRB 0).toNatClampNeg = true ∧ inb (nI (10 * t) + 8) (rd h SCRB 0).toNatClampNeg = true ∧ inb (nI (10 * t) + 9) (rd h SCRB 0).toNatClampNeg = true := by
        rw [hs, nI_clamp (n := L) (by omega)]
        refine ⟨by rw [show nI (10 * t) + 1 = nI (10 * t + 1) from nI_add (10 * t) 1]; exact inb_nI (by omega) (by omega), by rw [show nI (10 * t) + 2 = nI (10 * t + 2) from nI_add (10 * t) 2]; exact inb_nI (by omega) (by omega), by rw [show nI (10 * t) + 3 = nI (10 * t + 3) from nI_add (10 * t) 3]; exact inb_nI (by omega) (by omega), by rw [show nI (10 * t) + 4 = nI (10 * t + 4) from nI_add (10 * t) 4]; exact inb_nI (by omega) (by omega), by rw [show nI (10 * t) + 5 = nI (10 * t + 5) from nI_add (10 * t) 5]; exact inb_nI (by omega) (by omega), by rw [show nI (10 * t) + 6 = nI (10 * t + 6) from nI_add (10 * t) 6]; exact inb_nI (by omega) (by omega), by rw [show nI (10 * t) + 7 = nI (10 * t + 7) from nI_add (10 * t) 7]; exact inb_nI (by omega) (by omega), by rw [show nI (10 * t) + 8 = nI (10 * t + 8) from nI_add (10 * t) 8]; exact inb_nI (by omega) (by omega), by rw [show nI (10 * t) + 9 = nI (10 * t + 9) from nI_add (10 * t) 9]; exact inb_nI (by omega) (by omega)⟩
      have up : ∀ (h2 : Hp) (j : Nat), j ≤ 200 → R h2 → Scr h h2 → ∃ g, f_L_law_23 (200 * m + (200 - j) + 12) (nI (10 * t) + 10) h2 = some (.inl (some (.int 1), g)) := by
        intro h2 j hj hR2 hS2
        obtain ⟨g, hg⟩ := ih (t + 1) h2 hR2 (by rw [hS2.2]; exact hs) (by omega) (by omega)
        refine ⟨g, ?_⟩
        have q : nI (10 * t) + 10 = nI (10 * (t + 1)) := nI_add (10 * t) 10
        rw [q]
        exact f23_le (show 200 * m + 12 ≤ 200 * m + (200 - j) + 12 by omega) hg
      have fin : ∀ (h2 : Hp) (tot pc : Nat) (f : Nat → Res), tot + 12 ≤ 200 → R h2 → Scr h h2 → (∀ (n : Nat) (r : (Option Value × Hp) ⊕ (Nat × Hp)), f_L_law_23 n (nI (10 * t) + 10) h2 = some r → f (n + tot) = some r) → ∃ g, f (200 * (m + 1)) = some (.inl (some (.int 1), g)) := by
        intro h2 tot pc f htot hR2 hS2 hf
        obtain ⟨g, hg⟩ := up h2 (tot + 12) htot hR2 hS2
        refine ⟨g, ?_⟩
        have q := hf _ _ hg
        rw [show 200 * m + (200 - (tot + 12)) + 12 + tot = 200 * (m + 1) by omega] at q
        exact q
      have go : ∃ g, (if ((rd h SCRA (nI (10 * t)).toNatClampNeg) &&& 31) = Int32.ofNat 0 then f_L_law_164 (200 * (m + 1)) (nI (10 * t)) h else if ((rd h SCRA (nI (10 * t)).toNatClampNeg) &&& 31) = Int32.ofNat 1 then f_L_law_256 (200 * (m + 1)) (nI (10 * t)) h else if ((rd h SCRA (nI (10 * t)).toNatClampNeg) &&& 31) = Int32.ofNat 2 then f_L_law_336 (200 * (m + 1)) (nI (10 * t)) h else if ((rd h SCRA (nI (10 * t)).toNatClampNeg) &&& 31) = Int32.ofNat 3 then f_L_law_396 (200 * (m + 1)) (nI (10 * t)) h else if ((rd h SCRA (nI (10 * t)).toNatClampNeg) &&& 31) = Int32.ofNat 4 then f_L_law_464 (200 * (m + 1)) (nI (10 * t)) h else if ((rd h SCRA (nI (10 * t)).toNatClampNeg) &&& 31) = Int32.ofNat 5 then f_L_law_532 (200 * (m + 1)) (nI (10 * t)) h else if ((rd h SCRA (nI (10 * t)).toNatClampNeg) &&& 31) = Int32.ofNat 6 then f_L_law_692 (200 * (m + 1)) (nI (10 * t)) h else if ((rd h SCRA (nI (10 * t)).toNatClampNeg) &&& 31) = Int32.ofNat 7 then f_L_law_740 (200 * (m + 1)) (nI (10 * t)) h else if ((rd h SCRA (nI (10 * t)).toNatClampNeg) &&& 31) = Int32.ofNat 8 then f_L_law_784 (200 * (m + 1)) (nI (10 * t)) h else if ((rd h SCRA (nI (10 * t)).toNatClampNeg) &&& 31) = Int32.ofNat 9 then f_L_law_847 (200 * (m + 1)) (nI (10 * t)) h else if ((rd h SCRA (nI (10 * t)).toNatClampNeg) &&& 31) = Int32.ofNat 10 then f_L_law_915 (200 * (m + 1)) (nI (10 * t)) h else if ((rd h SCRA (nI (10 * t)).toNatClampNeg) &&& 31) = Int32.ofNat 11 then f_L_law_963 (200 * (m + 1)) (nI (10 * t)) h else if ((rd h SCRA (nI (10 * t)).toNatClampNeg) &&& 31) = Int32.ofNat 12 then f_L_law_1031 (200 * (m + 1)) (nI (10 * t)) h else if ((rd h SCRA (nI (10 * t)).toNatClampNeg) &&& 31) = Int32.ofNat 13 then f_L_law_1111 (200 * (m + 1)) (nI (10 * t)) h else if ((rd h SCRA (nI (10 * t)).toNatClampNeg) &&& 31) = Int32.ofNat 14 then f_L_law_1198 (200 * (m + 1)) (nI (10 * t)) h else if ((rd h SCRA (nI (10 * t)).toNatClampNeg) &&& 31) = Int32.ofNat 15 then f_L_law_1242 (200 * (m + 1)) (nI (10 * t)) h else if ((rd h SCRA (nI (10 * t)).toNatClampNeg) &&& 31) = Int32.ofNat 16 then f_L_law_1255 (200 * (m + 1)) (nI (10 * t)) h else if ((rd h SCRA (nI (10 * t)).toNatClampNeg) &&& 31) = Int32.ofNat 17 then f_L_law_1373 (200 * (m + 1)) (nI (10 * t)) h else if ((rd h SCRA (nI (10 * t)).toNatClampNeg) &&& 31) = Int32.ofNat 18 then f_L_law_1465 (200 * (m + 1)) (nI (10 * t)) h else if ((rd h SCRA (nI (10 * t)).toNatClampNeg) &&& 31) = Int32.ofNat 19 then f_L_law_1521 (200 * (m + 1)) (nI (10 * t)) h else if ((rd h SCRA (nI (10 * t)).toNatClampNeg) &&& 31) = Int32.ofNat 20 then f_L_law_1589 (200 * (m + 1)) (nI (10 * t)) h else if ((rd h SCRA (nI (10 * t)).toNatClampNeg) &&& 31) = Int32.ofNat 21 then f_L_law_1645 (200 * (m + 1)) (nI (10 * t)) h else if ((rd h SCRA (nI (10 * t)).toNatClampNeg) &&& 31) = Int32.ofNat 22 then f_L_law_1713 (200 * (m + 1)) (nI (10 * t)) h else if ((rd h SCRA (nI (10 * t)).toNatClampNeg) &&& 31) = Int32.ofNat 23 then f_L_law_1776 (200 * (m + 1)) (nI (10 * t)) h else if ((rd h SCRA (nI (10 * t)).toNatClampNeg) &&& 31) = Int32.ofNat 24 then f_L_law_1789 (200 * (m + 1)) (nI (10 * t)) h else if ((rd h SCRA (nI (10 * t)).toNatClampNeg) &&& 31) = Int32.ofNat 25 then f_L_law_1857 (200 * (m + 1)) (nI (10 * t)) h else if ((rd h SCRA (nI (10 * t)).toNatClampNeg) &&& 31) = Int32.ofNat 26 then f_L_law_1932 (200 * (m + 1)) (nI (10 * t)) h else f_L_law_1988 (200 * (m + 1)) (nI (10 * t)) h) = some (.inl (some (.int 1), g)) := by
        by_cases c0 : ((rd h SCRA (nI (10 * t)).toNatClampNeg) &&& 31) = Int32.ofNat 0
        · rw [if_pos c0]
          obtain ⟨h2, a1, a2, a3⟩ := cs_164 S0 (x4 := nI (10 * t)) hR hin
          exact fin h2 65 0 (fun j => f_L_law_164 j (nI (10 * t)) h) (by decide) a1 a2 a3
        rw [if_neg c0]
        by_cases c1 : ((rd h SCRA (nI (10 * t)).toNatClampNeg) &&& 31) = Int32.ofNat 1
        · rw [if_pos c1]
          obtain ⟨h2, a1, a2, a3⟩ := cs_256 S1 (x4 := nI (10 * t)) hR hin
          exact fin h2 55 0 (fun j => f_L_law_256 j (nI (10 * t)) h) (by decide) a1 a2 a3
        rw [if_neg c1]
        by_cases c2 : ((rd h SCRA (nI (10 * t)).toNatClampNeg) &&& 31) = Int32.ofNat 2
        · rw [if_pos c2]
          obtain ⟨h2, a1, a2, a3⟩ := cs_336 S2 (x4 := nI (10 * t)) hR hin
          exact fin h2 43 0 (fun j => f_L_law_336 j (nI (10 * t)) h) (by decide) a1 a2 a3
        rw [if_neg c2]
        by_cases c3 : ((rd h SCRA (nI (10 * t)).toNatClampNeg) &&& 31) = Int32.ofNat 3
        · rw [if_pos c3]
          obtain ⟨h2, a1, a2, a3⟩ := cs_396 S3 (x4 := nI (10 * t)) hR hin
          exact fin h2 45 0 (fun j => f_L_law_396 j (nI (10 * t)) h) (by decide) a1 a2 a3
        rw [if_neg c3]
        by_cases c4 : ((rd h SCRA (nI (10 * t)).toNatClampNeg) &&& 31) = Int32.ofNat 4
        · rw [if_pos c4]
          obtain ⟨h2, a1, a2, a3⟩ := cs_464 S4 (x4 := nI (10 * t)) hR hin
          exact fin h2 45 0 (fun j => f_L_law_464 j (nI (10 * t)) h) (by decide) a1 a2 a3
        rw [if_neg c4]
        by_cases c5 : ((rd h SCRA (nI (10 * t)).toNatClampNeg) &&& 31) = Int32.ofNat 5
        · rw [if_pos c5]
          obtain ⟨h2, a1, a2, a3⟩ := cs_532 S5 (x4 := nI (10 * t)) hR hin
          exact fin h2 115 0 (fun j => f_L_law_532 j (nI (10 * t)) h) (by decide) a1 a2 a3
        rw [if_neg c5]
        by_cases c6 : ((rd h SCRA (nI (10 * t)).toNatClampNeg) &&& 31) = Int32.ofNat 6
        · rw [if_pos c6]
          obtain ⟨h2, a1, a2, a3⟩ := cs_692 S6 (x4 := nI (10 * t)) hR hin
          exact fin h2 33 0 (fun j => f_L_law_692 j (nI (10 * t)) h) (by decide) a1 a2 a3
        rw [if_neg c6]
        by_cases c7 : ((rd h SCRA (nI (10 * t)).toNatClampNeg) &&& 31) = Int32.ofNat 7
        · rw [if_pos c7]
          obtain ⟨h2, a1, a2, a3⟩ := cs_740 S7 (x4 := nI (10 * t)) hR hin
          exact fin h2 25 0 (fun j => f_L_law_740 j (nI (10 * t)) h) (by decide) a1 a2 a3
        rw [if_neg c7]
        by_cases c8 : ((rd h SCRA (nI (10 * t)).toNatClampNeg) &&& 31) = Int32.ofNat 8
        · rw [if_pos c8]
          obtain ⟨h2, a1, a2, a3⟩ := cs_784 S8 (x4 := nI (10 * t)) hR hin
          exact fin h2 37 0 (fun j => f_L_law_784 j (nI (10 * t)) h) (by decide) a1 a2 a3
        rw [if_neg c8]
        by_cases c9 : ((rd h SCRA (nI (10 * t)).toNatClampNeg) &&& 31) = Int32.ofNat 9
        · rw [if_pos c9]
          obtain ⟨h2, a1, a2, a3⟩ := cs_847 S9 (x4 := nI (10 * t)) hR hin
          exact fin h2 45 0 (fun j => f_L_law_847 j (nI (10 * t)) h) (by decide) a1 a2 a3
        rw [if_neg c9]
        by_cases c10 : ((rd h SCRA (nI (10 * t)).toNatClampNeg) &&& 31) = Int32.ofNat 10
        · rw [if_pos c10]
          obtain ⟨h2, a1, a2, a3⟩ := cs_915 S10 (x4 := nI (10 * t)) hR hin
          exact fin h2 33 0 (fun j => f_L_law_915 j (nI (10 * t)) h) (by decide) a1 a2 a3
        rw [if_neg c10]
        by_cases c11 : ((rd h SCRA (nI (10 * t)).toNatClampNeg) &&& 31) = Int32.ofNat 11
        · rw [if_pos c11]
          obtain ⟨h2, a1, a2, a3⟩ := cs_963 S11 (x4 := nI (10 * t)) hR hin
          exact fin h2 45 0 (fun j => f_L_law_963 j (nI (10 * t)) h) (by decide) a1 a2 a3
        rw [if_neg c11]
        by_cases c12 : ((rd h SCRA (nI (10 * t)).toNatClampNeg) &&& 31) = Int32.ofNat 12
        · rw [if_pos c12]
          obtain ⟨h2, a1, a2, a3⟩ := cs_1031 S12 (x4 := nI (10 * t)) hR hin
          exact fin h2 55 0 (fun j => f_L_law_1031 j (nI (10 * t)) h) (by decide) a1 a2 a3
        rw [if_neg c12]
        by_cases c13 : ((rd h SCRA (nI (10 * t)).toNatClampNeg) &&& 31) = Int32.ofNat 13
        · rw [if_pos c13]
          obtain ⟨h2, a1, a2, a3⟩ := cs_1111 S13 (x4 := nI (10 * t)) hR hin
          exact fin h2 57 0 (fun j => f_L_law_1111 j (nI (10 * t)) h) (by decide) a1 a2 a3
        rw [if_neg c13]
        by_cases c14 : ((rd h SCRA (nI (10 * t)).toNatClampNeg) &&& 31) = Int32.ofNat 14
        · rw [if_pos c14]
          obtain ⟨h2, a1, a2, a3⟩ := cs_1198 S14 (x4 := nI (10 * t)) hR hin
          exact fin h2 25 0 (fun j => f_L_law_1198 j (nI (10 * t)) h) (by decide) a1 a2 a3
        rw [if_neg c14]
        by_cases c15 : ((rd h SCRA (nI (10 * t)).toNatClampNeg) &&& 31) = Int32.ofNat 15
        · rw [if_pos c15]
          obtain ⟨h2, a1, a2, a3⟩ := cs_1242 S15 (x4 := nI (10 * t)) hR hin
          exact fin h2 9 0 (fun j => f_L_law_1242 j (nI (10 * t)) h) (by decide) a1 a2 a3
        rw [if_neg c15]
        by_cases c16 : ((rd h SCRA (nI (10 * t)).toNatClampNeg) &&& 31) = Int32.ofNat 16
        · rw [if_pos c16]
          obtain ⟨h2, a1, a2, a3⟩ := cs_1255 S16 (x4 := nI (10 * t)) hR hin
          exact fin h2 85 0 (fun j => f_L_law_1255 j (nI (10 * t)) h) (by decide) a1 a2 a3
        rw [if_neg c16]
        by_cases c17 : ((rd h SCRA (nI (10 * t)).toNatClampNeg) &&& 31) = Int32.ofNat 17
        · rw [if_pos c17]
          obtain ⟨h2, a1, a2, a3⟩ := cs_1373 S17 (x4 := nI (10 * t)) hR hin
          exact fin h2 65 0 (fun j => f_L_law_1373 j (nI (10 * t)) h) (by decide) a1 a2 a3
        rw [if_neg c17]
        by_cases c18 : ((rd h SCRA (nI (10 * t)).toNatClampNeg) &&& 31) = Int32.ofNat 18
        · rw [if_pos c18]
          obtain ⟨h2, a1, a2, a3⟩ := cs_1465 S18 (x4 := nI (10 * t)) hR hin
          exact fin h2 35 0 (fun j => f_L_law_1465 j (nI (10 * t)) h) (by decide) a1 a2 a3
        rw [if_neg c18]
        by_cases c19 : ((rd h SCRA (nI (10 * t)).toNatClampNeg) &&& 31) = Int32.ofNat 19
        · rw [if_pos c19]
          obtain ⟨h2, a1, a2, a3⟩ := cs_1521 S19 (x4 := nI (10 * t)) hR hin
          exact fin h2 45 0 (fun j => f_L_law_1521 j (nI (10 * t)) h) (by decide) a1 a2 a3
        rw [if_neg c19]
        by_cases c20 : ((rd h SCRA (nI (10 * t)).toNatClampNeg) &&& 31) = Int32.ofNat 20
        · rw [if_pos c20]
          obtain ⟨h2, a1, a2, a3⟩ := cs_1589 S20 (x4 := nI (10 * t)) hR hin
          exact fin h2 35 0 (fun j => f_L_law_1589 j (nI (10 * t)) h) (by decide) a1 a2 a3
        rw [if_neg c20]
        by_cases c21 : ((rd h SCRA (nI (10 * t)).toNatClampNeg) &&& 31) = Int32.ofNat 21
        · rw [if_pos c21]
          obtain ⟨h2, a1, a2, a3⟩ := cs_1645 S21 (x4 := nI (10 * t)) hR hin
          exact fin h2 45 0 (fun j => f_L_law_1645 j (nI (10 * t)) h) (by decide) a1 a2 a3
        rw [if_neg c21]
        by_cases c22 : ((rd h SCRA (nI (10 * t)).toNatClampNeg) &&& 31) = Int32.ofNat 22
        · rw [if_pos c22]
          obtain ⟨h2, a1, a2, a3⟩ := cs_1713 S22 (x4 := nI (10 * t)) hR hin
          exact fin h2 37 0 (fun j => f_L_law_1713 j (nI (10 * t)) h) (by decide) a1 a2 a3
        rw [if_neg c22]
        by_cases c23 : ((rd h SCRA (nI (10 * t)).toNatClampNeg) &&& 31) = Int32.ofNat 23
        · rw [if_pos c23]
          obtain ⟨h2, a1, a2, a3⟩ := cs_1776 S23 (x4 := nI (10 * t)) hR hin
          exact fin h2 9 0 (fun j => f_L_law_1776 j (nI (10 * t)) h) (by decide) a1 a2 a3
        rw [if_neg c23]
        by_cases c24 : ((rd h SCRA (nI (10 * t)).toNatClampNeg) &&& 31) = Int32.ofNat 24
        · rw [if_pos c24]
          obtain ⟨h2, a1, a2, a3⟩ := cs_1789 S24 (x4 := nI (10 * t)) hR hin
          exact fin h2 45 0 (fun j => f_L_law_1789 j (nI (10 * t)) h) (by decide) a1 a2 a3
        rw [if_neg c24]
        by_cases c25 : ((rd h SCRA (nI (10 * t)).toNatClampNeg) &&& 31) = Int32.ofNat 25
        · rw [if_pos c25]
          obtain ⟨h2, a1, a2, a3⟩ := cs_1857 S25 (x4 := nI (10 * t)) hR hin
          exact fin h2 47 0 (fun j => f_L_law_1857 j (nI (10 * t)) h) (by decide) a1 a2 a3
        rw [if_neg c25]
        by_cases c26 : ((rd h SCRA (nI (10 * t)).toNatClampNeg) &&& 31) = Int32.ofNat 26
        · rw [if_pos c26]
          obtain ⟨h2, a1, a2, a3⟩ := cs_1932 S26 (x4 := nI (10 * t)) hR hin
          exact fin h2 35 0 (fun j => f_L_law_1932 j (nI (10 * t)) h) (by decide) a1 a2 a3
        rw [if_neg c26]
        exact fin h 2 0 (fun j => f_L_law_1988 j (nI (10 * t)) h) (by decide) hR ⟨fun _ => rfl, rfl⟩ (fun n r hr => e_L_law_1988 hr)
      obtain ⟨g, hg⟩ := go
      refine ⟨g, e_L_law_23 (n := 200 * (m + 1)) ?_⟩
      rw [hs, nI_clamp (n := L) (by omega), if_neg (tail_ge (by omega) (by omega)), inb_nI (by omega) (by omega), gd_t]
      exact hg
theorem pure_of {R : Hp → Prop} (A : AllSim R) (h0 : ∀ (xs : Nat → Int32) (L : Nat), R (h0L xs L)) (xs : Nat → Int32) (L : Nat) (hL : L ≤ 5120) : ∃ (n : Nat) (g : Hp), n ≤ 500000 ∧ f_L_law_23 n 0 (h0L xs L) = some (.inl (some (.int 1), g)) := by
  obtain ⟨g, hg⟩ := law_turns A hL 520 0 (h0L xs L) (h0 xs L) rfl (by omega) (by omega)
  exact ⟨_, g, by decide, hg⟩
