/-! a request -/
theorem irg_m1 {x : Int32} {m : Nat} (hm : m ≤ 60) : irg x (-1) (nI m - 1) = (decide (x = -1) || ixs x m) := by
  by_cases c : x = -1
  · subst c
    rw [decide_eq_true rfl, Bool.true_or]
    have q : ∀ m, m < 61 → irg (-1) (-1) (nI m - 1) = true := by decide
    exact q m (by omega)
  · rw [decide_eq_false c, Bool.false_or]
    unfold ixs irg
    congr 1
    congr 1
    apply decide_eq_decide.mpr
    rw [Int32.lt_iff_toInt_lt, Int32.lt_iff_toInt_lt]
    have e1 : (-1 : Int32).toInt = -1 := by decide
    have e0 : (0 : Int32).toInt = 0 := by decide
    have ne : x.toInt ≠ -1 := fun z => c (Int32.toInt_inj.mp (z.trans e1.symm))
    omega
def slt (x3 x4 x5 x6 x7 x8 : Int32) : Bool := irg x3 0 1 && (irg x4 0 6 && (irg x5 0 71 && (irg x6 0 19 && (irg x7 x6 19 && irg x8 0 9))))
def rqA (h : Hp) (n : Nat) (x1 x2 x3 x4 x5 x6 x7 x8 x9 : Int32) : Hp := wr (wr (wr (wr (wr (wr (wr (wr (wr (wr (wr (wr (wr (wr (wr h 0 10 (nI (n + 1))) (47 + n) 0 x2) (47 + n) 1 x3) (47 + n) 2 x4) (47 + n) 3 x5) (47 + n) 4 x6) (47 + n) 5 x7) (47 + n) 6 x8) (47 + n) 7 x1) (47 + n) 8 x9) (47 + n) 9 0) (47 + n) 10 3) (47 + n) 11 (-1)) (47 + n) 12 (-1)) (47 + n) 13 (-1)
def rqM (m : Hp) (n : Nat) (x1 x2 x3 x4 x5 x6 x7 x8 x9 : Int32) : Hp := wr (wr (wr (wr (wr (wr (wr (wr (wr (wr (wr (wr (wr m 245 n x1) 246 n x2) 247 n x3) 248 n x4) 249 n x5) 250 n x6) 251 n x7) 252 n x8) 253 n x9) 254 n 0) 256 n (-1)) 257 n (-1)) 258 n (-1)
def clA (g : Hp) (x9 : Int32) (n : Nat) : Hp := if x9 = -1 then g else wr g (167 + x9.toNatClampNeg) 8 (nI n)
def clM (g : Hp) (x9 : Int32) (n : Nat) : Hp := if x9 = -1 then g else wr g 244 x9.toNatClampNeg (nI n)
def cai (h : Hp) (x1 x2 x3 x4 : Int32) (j : Nat) : Bool := decide (rd h 244 j = -1) && (decide (rd h 236 j = x1) && (decide (rd h 237 j = x2) && (decide (rd h 238 j = x3) && decide (rd h 239 j = x4))))
section REQ
variable {h g : Hp} {x1 x2 x3 x4 x5 x6 x7 x8 x9 : Int32} {i j k n p : Nat}
theorem requireSlot_s : F_X6_requireSlot [.int x3, .int x4, .int x5, .int x6, .int x7, .int x8] h = (match slt x3 x4 x5 x6 x7 x8 with
  | true => rtn none h
  | false => thr 1 h) := by
  rw [e_X6_requireSlot_0]
  simp only [requireRange_s]
  unfold slt
  cases irg x3 0 1 <;> cases irg x4 0 6 <;> cases irg x5 0 71 <;> cases irg x6 0 19 <;> cases irg x7 x6 19 <;> cases irg x8 0 9 <;> rfl
theorem mayBeClaimed_s (RR : EqR h) (hj : j < 60) : F_X2_mayBeClaimed [.ref (167 + j), .int x1, .int x2, .int x3, .int x4] h = rtn (some (.int (bi (cai h x1 x2 x3 x4 j)))) h := by
  obtain ⟨k0, k1, k2, k3, k4, k5, k6, k7, k8⟩ := RR.g (k := j) hj
  rw [e_X2_mayBeClaimed_0, (okc_rt j hj).1]
  simp only [gd_t]
  rw [k0, k1, k2, k7, k8]
  unfold cai
  by_cases c1 : rd h 244 j = -1
  · by_cases c2 : rd h 236 j = x1
    · by_cases c3 : rd h 237 j = x2
      · by_cases c4 : rd h 238 j = x3
        · by_cases c5 : rd h 239 j = x4
          · simp [c1, c2, c3, c4, c5, bi]
          · simp [c1, c2, c3, c4, c5, bi]
        · simp [c1, c2, c3, c4, bi]
      · simp [c1, c2, c3, bi]
    · simp [c1, c2, bi]
  · simp [c1, bi]
theorem mayClaim_s (hj : j < 60) : F_X7_mayClaim [.ref 227, .int (nI j), .int x1, .int x2, .int x3, .int x4] h = rtn (some (.int (bi (cai h x1 x2 x3 x4 j)))) h := by
  rw [e_X7_mayClaim_0, inb_nI hj (by decide), nI_clamp (by omega)]
  simp only [gd_t]
  unfold cai
  by_cases c1 : rd h 244 j = -1
  · by_cases c2 : rd h 236 j = x1
    · by_cases c3 : rd h 237 j = x2
      · by_cases c4 : rd h 238 j = x3
        · by_cases c5 : rd h 239 j = x4
          · simp [c1, c2, c3, c4, c5, bi]
          · simp [c1, c2, c3, c4, c5, bi]
        · simp [c1, c2, c3, c4, bi]
      · simp [c1, c2, c3, bi]
    · simp [c1, c2, bi]
  · simp [c1, bi]
/-- whether it can be -/
def can (h : Hp) (x1 x2 x3 x4 x9 : Int32) : Bool := decide (nq h < 60) && (decide (x9 = -1) || cai h x1 x2 x3 x4 x9.toNatClampNeg)
theorem requ_c (N : EqN h) (V : VN h) (RR : EqR h) (c1 : irg x1 0 9 = true) (c2 : irg x2 0 3 = true) (c9 : x9 = -1 ∨ ∃ j, j < nr h ∧ x9 = nI j) : F_X6_request [.ref 0, .int x1, .int x2, .int x3, .int x4, .int x5, .int x6, .int x7, .int x8, .int x9] h = (match slt x3 x4 x5 x6 x7 x8 with
  | false => thr 1 h
  | true => match can h x1 x2 x3 x4 x9 with
    | false => thr 2 h
    | true => rtn (some (.int (nI (nq h)))) (clA (rqA h (nq h) x1 x2 x3 x4 x5 x6 x7 x8 x9) x9 (nq h))) := by
  obtain ⟨cc, hcc, rfl⟩ := irg_9 c1
  obtain ⟨ap, hap, rfl⟩ := irg_3 c2
  have h60 := V.q.1
  have r60 := V.r.1
  have e10 : rd h 0 10 = nI (nq h) := N.1.trans V.q.2
  -- the making itself
  have mk : nq h < 60 → ∀ (z : Nat → Hp → Res), bR (F_X6_requestAt [.ref 0, .int (rd h 0 10)] (wr h 0 10 ((rd h 0 10) + 1))) z (hnk []) = z (47 + nq h) (wr h 0 10 (nI (nq h + 1))) := fun hn z => by
    rw [e10, nI_1, req_g (n := nq h + 1) rd_eqw (by omega) (by omega), bR_r]
  have ak : nq h < 60 → ∀ z : Hp → Res, bV (F_X1_ask [.ref (47 + nq h), .int (nI cc), .int x9] (wr (wr (wr (wr (wr (wr (wr (wr h 0 10 (nI (nq h + 1))) (47 + nq h) 0 (nI ap)) (47 + nq h) 1 x3) (47 + nq h) 2 x4) (47 + nq h) 3 x5) (47 + nq h) 4 x6) (47 + nq h) 5 x7) (47 + nq h) 6 x8)) z (hnk []) = z (rqA h (nq h) (nI cc) (nI ap) x3 x4 x5 x6 x7 x8 x9) := fun hn z => by
    rw [e_X1_ask_0, (okc_rq (nq h) hn).1]
    rfl
  rw [e_X6_request_0, groupAt_s hcc, bI_r, airportAt_s hap, bR_r]
  by_cases d : x9 = -1
  · rw [if_pos d, requireSlot_s]
    cases slt x3 x4 x5 x6 x7 x8 with
    | false => rfl
    | true =>
      simp only [bV_r]
      by_cases hn : nq h < 60
      · rw [if_pos (by rw [e10]; exact nI_lt (a := nq h) (b := 60) hn (by decide)), mk hn, (okc_rq (nq h) hn).1]
        simp only [gd_t]
        rw [ak hn]
        unfold can clA
        rw [decide_eq_true hn, decide_eq_true d, if_pos d, e10]
        rfl
      · rw [if_neg (by rw [e10]; exact nI_nlt (a := nq h) (b := 60) (by omega) (by omega))]
        unfold can
        rw [decide_eq_false hn]
        rfl
  · obtain ⟨j, hj, rfl⟩ := c9.resolve_left d
    rw [if_neg d, rightAt_s N V hj, bR_r, requireSlot_s]
    cases slt x3 x4 x5 x6 x7 x8 with
    | false => rfl
    | true =>
      simp only [bV_r]
      by_cases hn : nq h < 60
      · rw [if_pos (by rw [e10]; exact nI_lt (a := nq h) (b := 60) hn (by decide)), (okc_rt j (by omega)).1, gd_t, mayBeClaimed_s RR (by omega), bI_r]
        unfold can clA
        rw [decide_eq_true hn, decide_eq_false d, if_neg d, nI_clamp (by omega), Bool.false_or, Bool.true_and]
        cases cai h (nI cc) (nI ap) x3 x4 j with
        | false => rfl
        | true =>
          rw [bi_t, if_neg one_ne, mk hn, (okc_rq (nq h) hn).1]
          simp only [gd_t]
          rw [ak hn, e10]
      · rw [if_neg (by rw [e10]; exact nI_nlt (a := nq h) (b := 60) (by omega) (by omega))]
        unfold can
        rw [decide_eq_false hn]
        rfl
theorem requ_m (V : VN h) (c9 : (irg x1 0 9 && irg x2 0 3 && (decide (x9 = -1) || ixs x9 (nr h))) = true → x9 = -1 ∨ ∃ j, j < nr h ∧ x9 = nI j) : F_X7_request [.ref 227, .int x1, .int x2, .int x3, .int x4, .int x5, .int x6, .int x7, .int x8, .int x9] h = f_X7_request_171 x1 x2 x3 x4 x5 x6 x7 x8 x9 (match (irg x1 0 9 && irg x2 0 3 && (decide (x9 = -1) || ixs x9 (nr h))) with
  | false => 1
  | true => match slt x3 x4 x5 x6 x7 x8 with
    | false => 2
    | true => match can h x1 x2 x3 x4 x9 with
      | false => 3
      | true => 0) h := by
  have r60 := V.r.1
  have h60 := V.q.1
  have s34 : ∀ b : Bool, f_X7_request_34 x1 x2 x3 x4 x5 x6 x7 x8 x9 (bi b) h = f_X7_request_94 x1 x2 x3 x4 x5 x6 x7 x8 x9 (bi b) (bi (slt x3 x4 x5 x6 x7 x8)) h := fun b => by
    rw [e_X7_request_34]
    simp only [isIn_s, isDay_s, bI_r, e_X7_request_93]
    unfold slt
    cases irg x3 0 1 <;> cases irg x4 0 6 <;> cases irg x5 0 71 <;> cases irg x6 0 19 <;> cases irg x7 x6 19 <;> cases irg x8 0 9 <;> rfl
  have s0 : F_X7_request [.ref 227, .int x1, .int x2, .int x3, .int x4, .int x5, .int x6, .int x7, .int x8, .int x9] h = f_X7_request_34 x1 x2 x3 x4 x5 x6 x7 x8 x9 (bi (irg x1 0 9 && irg x2 0 3 && (decide (x9 = -1) || ixs x9 (nr h)))) h := by
    rw [e_X7_request_0]
    simp only [isCarrier_s, isAirport_s, isIn_s, bI_r, e_X7_request_33]
    rw [V.r.2, irg_m1 r60]
    cases irg x1 0 9 <;> cases irg x2 0 3 <;> cases (decide (x9 = -1) || ixs x9 (nr h)) <;> rfl
  rw [s0, s34]
  cases c : (irg x1 0 9 && irg x2 0 3 && (decide (x9 = -1) || ixs x9 (nr h))) with
  | false =>
    rw [e_X7_request_94, bi_f, if_pos rfl, e_X7_request_139, e_X7_request_140, if_pos rfl]
  | true =>
    have c9' := c9 c
    rw [e_X7_request_94, bi_t, if_neg one_ne]
    cases slt x3 x4 x5 x6 x7 x8 with
    | false =>
      rw [bi_f, if_pos rfl, e_X7_request_139, e_X7_request_140, if_neg one_ne, if_pos rfl]
    | true =>
      rw [bi_t, if_neg one_ne, V.q.2]
      unfold can
      by_cases hn : nq h < 60
      · rw [if_pos (show nI (nq h) < 60 from nI_lt (a := nq h) (b := 60) hn (by decide)), decide_eq_true hn, Bool.true_and]
        by_cases d : x9 = -1
        · rw [if_pos d, decide_eq_true d, Bool.true_or, e_X7_request_135, e_X7_request_140, if_neg one_ne, if_neg one_ne, if_neg one_ne]
        · obtain ⟨j, hj, rfl⟩ := c9'.resolve_left d
          rw [if_neg d, decide_eq_false d, Bool.false_or, mayClaim_s (by omega), bI_r, nI_clamp (by omega)]
          cases cai h x1 x2 x3 x4 j with
          | false => rw [bi_f, if_pos rfl, e_X7_request_139, e_X7_request_140, if_neg one_ne, if_neg one_ne, if_pos rfl]
          | true => rw [bi_t, if_neg one_ne, e_X7_request_135, e_X7_request_140, if_neg one_ne, if_neg one_ne, if_neg one_ne]
      · rw [if_neg (show ¬ nI (nq h) < 60 from nI_nlt (a := nq h) (b := 60) (by omega) (by omega)), decide_eq_false hn, e_X7_request_139, e_X7_request_140, if_neg one_ne, if_neg one_ne, if_pos rfl]
        rfl
theorem requ_g (V : VN h) (hn : nq h < 60) (c9 : x9 = -1 ∨ ∃ j, j < nr h ∧ x9 = nI j) : f_X7_request_171 x1 x2 x3 x4 x5 x6 x7 x8 x9 0 h = rtn (some (.int (nI (nq h)))) (wr (clM (rqM (wr h 227 0 0) (nq h) x1 x2 x3 x4 x5 x6 x7 x8 x9) x9 (nq h)) 227 20 (nI (nq h + 1))) := by
  have r60 := V.r.1
  have e20 : rd (wr h 227 0 0) 227 20 = nI (nq h) := by rw [rd_nk (by decide), V.q.2]
  rw [e_X7_request_171, holds_0, bI_r, if_neg one_ne, e20, inb_nI hn (by decide), nI_clamp (by omega)]
  simp only [gd_t, e_X7_request_310]
  unfold clM
  have o : ∀ g : Hp, rd (rqM (wr h 227 0 0) (nq h) x1 x2 x3 x4 x5 x6 x7 x8 x9) 227 20 = nI (nq h) := fun g => by
    unfold rqM
    rw [rd_ne (by decide), rd_ne (by decide), rd_ne (by decide), rd_ne (by decide), rd_ne (by decide), rd_ne (by decide), rd_ne (by decide), rd_ne (by decide), rd_ne (by decide), rd_ne (by decide), rd_ne (by decide), rd_ne (by decide), rd_ne (by decide), e20]
  by_cases d : x9 = -1
  · rw [if_pos d, if_pos d]
    show rtn _ (wr (rqM (wr h 227 0 0) (nq h) x1 x2 x3 x4 x5 x6 x7 x8 x9) 227 20 (rd (rqM (wr h 227 0 0) (nq h) x1 x2 x3 x4 x5 x6 x7 x8 x9) 227 20 + 1)) = _
    rw [o h, nI_1]
  · obtain ⟨j, hj, rfl⟩ := c9.resolve_left d
    rw [if_neg d, if_neg d, inb_nI (by omega) (by decide), gd_t]
    show rtn _ (wr (wr (rqM (wr h 227 0 0) (nq h) x1 x2 x3 x4 x5 x6 x7 x8 (nI j)) 244 (nI j).toNatClampNeg (nI (nq h))) 227 20 (rd (wr (rqM (wr h 227 0 0) (nq h) x1 x2 x3 x4 x5 x6 x7 x8 (nI j)) 244 (nI j).toNatClampNeg (nI (nq h))) 227 20 + 1)) = _
    rw [rd_ne (by decide), o h, nI_1]
end REQ
