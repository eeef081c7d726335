/-! those ahead in the queue -/
def wtg (x : Int32) : Bool := decide (x = 2) || decide (x = 3)
theorem wtg_t {x : Int32} : wtg x = true ↔ x = 2 ∨ x = 3 := by
  unfold wtg
  rw [Bool.or_eq_true, decide_eq_true_eq, decide_eq_true_eq]
section AHEAD
variable {h : Hp} {i j k p P : Nat}
theorem isInQueue_s (hk : k < 60) : F_X1_isInQueue [.ref (47 + k)] h = rtn (some (.int (bi (wtg (rd h (47 + k) 9))))) h := by
  rw [e_X1_isInQueue_0, (okc_rq k hk).1]
  simp only [gd_t]
  unfold wtg
  by_cases c1 : rd h (47 + k) 9 = 2
  · simp [c1, bi]
  · by_cases c2 : rd h (47 + k) 9 = 3
    · simp [c2, bi]
    · simp [c1, c2, bi]
theorem isWaiting_s (hk : k < 60) : F_X7_isWaiting [.ref 227, .int (nI k)] h = rtn (some (.int (bi (wtg (rd h 254 k))))) h := by
  rw [e_X7_isWaiting_0, inb_nI hk (by decide), nI_clamp (by omega)]
  simp only [gd_t]
  unfold wtg
  by_cases c1 : rd h 254 k = 2
  · simp [c1, bi]
  · by_cases c2 : rd h 254 k = 3
    · simp [c2, bi]
    · simp [c1, c2, bi]
/-- waits at the airport of i -/
def wal (h : Hp) (x : Int32) (k : Nat) : Bool := wtg (rd h 254 k) && decide (rd h 246 k = x)
def qat (h : Hp) (p : Nat) : Nat := (rd h 6 p).toNatClampNeg
def pla (h : Hp) (k : Nat) : Nat := (rd h 259 k).toNatClampNeg
theorem QU.pos (U : QU h) (V : VN h) (hk : k < nq h) (hw : wtg (rd h 254 k) = true) : pla h k < np h ∧ rd h 259 k = nI (pla h k) ∧ rd h 6 (pla h k) = nI k := by
  obtain ⟨p, z1, z2, z3⟩ := U.2 k hk (wtg_t.mp hw)
  have h60 : np h ≤ 60 := by
    have q1 := V.2.2.2.2.2.2.2.1
    have q2 := V.q.1
    omega
  have e : pla h k = p := by
    unfold pla
    rw [z3, nI_clamp (by omega)]
  rw [e]
  exact ⟨z1, z3, z2⟩
theorem VN.np60 (V : VN h) : np h ≤ 60 ∧ rd h 227 36 = nI (np h) := by
  have q1 := V.2.2.2.2.2.2.2.1
  have q2 := V.q.1
  exact ⟨by omega, V.2.2.2.2.2.2.1⟩
theorem QU.at (U : QU h) (V : VN h) (hp : p < np h) : qat h p < nq h ∧ rd h 6 p = nI (qat h p) ∧ pla h (qat h p) = p := by
  obtain ⟨k, z1, z2, z3, z4⟩ := U.1 p hp
  have h60 := V.q.1
  have n60 := V.np60.1
  have e : qat h p = k := by
    unfold qat
    rw [z2, nI_clamp (by omega)]
  rw [e]
  refine ⟨z1, z2, ?_⟩
  unfold pla
  rw [z3, nI_clamp (by omega)]
theorem que_cnt (U : QU h) (V : VN h) {x : Int32} : ∀ P, P ≤ np h → cnt (fun p => wal h x (qat h p)) P = cnt (fun k => wal h x k && decide (pla h k < P)) (nq h)
  | 0, _ => by
    symm
    exact cnt_zero _ (fun k hk => by rw [decide_eq_false (by omega), Bool.and_false])
  | P + 1, hP => by
    have ih := que_cnt U V (x := x) P (by omega)
    obtain ⟨q1, q2, q3⟩ := U.at V (show P < np h by omega)
    show cnt _ P + (match wal h x (qat h P) with | true => 1 | false => 0) = _
    rw [ih]
    have uni : ∀ k, k < nq h → wal h x k = true → pla h k = P → k = qat h P := by
      intro k hk hw e
      unfold wal at hw
      rw [Bool.and_eq_true] at hw
      obtain ⟨r1, r2, r3⟩ := U.pos V hk hw.1
      rw [e, q2] at r3
      have h60 := V.q.1
      exact (nI_inj (by omega) (by omega) r3).symm
    cases c : wal h x (qat h P) with
    | true =>
      rw [cnt_X (i := qat h P) (f := fun k => wal h x k && decide (pla h k < P + 1)) (nq h) q1 (by rw [c, q3, decide_eq_true (Nat.lt_succ_self P)]; rfl), cnt_X0 (i := qat h P) (f := fun k => wal h x k && decide (pla h k < P)) (nq h) (by rw [q3, decide_eq_false (Nat.lt_irrefl P), Bool.and_false])]
      show cnt _ (nq h) + 1 = _
      congr 1
      apply cnt_ext
      intro k hk
      by_cases ck : k = qat h P
      · rw [decide_eq_false (show ¬ (k ≠ qat h P) from fun z => z ck), Bool.and_false, Bool.and_false]
      · cases cw : wal h x k with
        | false => rfl
        | true =>
          have ne : pla h k ≠ P := fun z => ck (uni k hk cw z)
          rw [show decide (pla h k < P + 1) = decide (pla h k < P) from decide_eq_decide.mpr (by omega)]
    | false =>
      show cnt _ (nq h) + 0 = _
      rw [Nat.add_zero]
      apply cnt_ext
      intro k hk
      cases cw : wal h x k with
      | false => rfl
      | true =>
        have ne : pla h k ≠ P := fun z => by
          rw [uni k hk cw z] at cw
          rw [cw] at c
          cases c
        rw [show decide (pla h k < P + 1) = decide (pla h k < P) from decide_eq_decide.mpr (by omega)]
theorem ahead_c (N : EqN h) (Q : EqQ h) (V : VN h) (U : QU h) (hi : i < nq h) (hP : P < np h) (e6 : rd h 6 P = nI i) : ∀ (n p : Nat), p + n = P → f_X6_ahead_20 (nI i) (47 + i) (nI (cnt (fun p => wal h (rd h 246 i) (qat h p)) p)) (nI p) h = rtn (some (.int (nI (cnt (fun p => wal h (rd h 246 i) (qat h p)) P)))) h
  | 0, p, e => by
    have n60 := V.np60.1
    obtain rfl : p = P := by omega
    rw [e_X6_ahead_20, N.2.2.2.1, V.np60.2, if_pos (nI_lt hP (by omega)), if_pos (show nI p < 60 from nI_lt (a := p) (b := 60) (by omega) (by decide)), inb_nI (by omega) (by decide), gd_t, nI_clamp (by omega), if_pos e6]
  | n + 1, p, e => by
    have n60 := V.np60.1
    have h60 := V.q.1
    have ih := ahead_c N Q V U hi hP e6 n (p + 1) (by omega)
    obtain ⟨q1, q2, q3⟩ := U.at V (show p < np h by omega)
    obtain ⟨p1, p2, p3⟩ := U.at V hP
    have ne : ¬ rd h 6 p = nI i := fun z => by
      have e1 : qat h p = i := by unfold qat; rw [z, nI_clamp (by omega)]
      have e2 : qat h P = i := by unfold qat; rw [e6, nI_clamp (by omega)]
      rw [e1] at q3
      rw [e2] at p3
      omega
    obtain ⟨g0, g1, g2, g3, g4, g5, g6, g7, g8, g9, g11, g12, g13⟩ := Q.g (k := qat h p) (by omega)
    obtain ⟨k0, k1, k2, k3, k4, k5, k6, k7, k8, k9, k11, k12, k13⟩ := Q.g (k := i) (by omega)
    rw [e_X6_ahead_20, N.2.2.2.1, V.np60.2, if_pos (nI_lt (by omega) (by omega)), if_pos (show nI p < 60 from nI_lt (a := p) (b := 60) (by omega) (by decide)), inb_nI (by omega) (by decide), gd_t, nI_clamp (by omega), if_neg ne, gd_t, q2, requestAt_s N V q1, bR_r, (okc_rq _ (show qat h p < 60 by omega)).1, (okc_rq i (by omega)).1, gd_t, isInQueue_s (by omega), bI_r]
    simp only [gd_t]
    rw [g9, g0, k0]
    rw [show cnt (fun p => wal h (rd h 246 i) (qat h p)) (p + 1) = cnt (fun p => wal h (rd h 246 i) (qat h p)) p + (match wal h (rd h 246 i) (qat h p) with | true => 1 | false => 0) from rfl] at ih
    simp only [e_X6_ahead_86, nI_1]
    unfold wal at ih ⊢
    by_cases c1 : wtg (rd h 254 (qat h p)) = true
    · by_cases c2 : rd h 246 (qat h p) = rd h 246 i
      · rw [c1, decide_eq_true c2] at ih
        rw [c1, bi_t, if_neg one_ne, if_pos c2]
        exact ih
      · rw [c1, decide_eq_false c2] at ih
        rw [c1, bi_t, if_neg one_ne, if_neg c2]
        exact ih
    · rw [Bool.not_eq_true] at c1
      rw [c1] at ih
      rw [c1, bi_f, if_pos rfl]
      exact ih
def ahF (h : Hp) (i k : Nat) : Bool := wtg (rd h 254 k) && (decide (rd h 246 k = rd h 246 i) && decide (rd h 259 k < rd h 259 i))
theorem ahead_m (V : VN h) (hi : i < nq h) : ∀ (n k : Nat), k + n = nq h → f_X7_ahead_26 (nI i) (nI (cnt (ahF h i) k)) (nI k) h = rtn (some (.int (if wtg (rd h 254 i) = true then nI (cnt (ahF h i) (nq h)) else -1))) h
  | 0, k, e => by
    have h60 := V.q.1
    obtain rfl : k = nq h := by omega
    rw [e_X7_ahead_26, V.q.2, if_neg (nI_nlt (by omega) (by omega)), isWaiting_s (by omega), bI_r]
    cases c : wtg (rd h 254 i)
    · rfl
    · rfl
  | n + 1, k, e => by
    have h60 := V.q.1
    have ih := ahead_m V hi n (k + 1) (by omega)
    have e1 : nI (cnt (ahF h i) (k + 1)) = nI (cnt (ahF h i) k) + bi (ahF h i k) := by
      show nI (cnt (ahF h i) k + _) = _
      rw [← nI_add]
      cases ahF h i k <;> rfl
    rw [e1] at ih
    rw [e_X7_ahead_26, V.q.2, if_pos (nI_lt (by omega) (by omega)), isWaiting_s (by omega), bI_r, inb_nI (by omega) (by decide), inb_nI (by omega) (by decide), nI_clamp (by omega), nI_clamp (by omega)]
    simp only [gd_t, e_X7_ahead_77, e_X7_ahead_78, nI_1]
    unfold ahF at ih ⊢
    by_cases c1 : wtg (rd h 254 k) = true
    · by_cases c2 : rd h 246 k = rd h 246 i
      · by_cases c3 : rd h 259 k < rd h 259 i
        · rw [c1, decide_eq_true c2, decide_eq_true c3, show bi (true && (true && true)) = 1 from rfl, nI_1] at ih
          rw [c1, bi_t, if_neg one_ne, if_pos c2, if_pos c3]
          exact ih
        · rw [c1, decide_eq_true c2, decide_eq_false c3] at ih
          rw [c1, bi_t, if_neg one_ne, if_pos c2, if_neg c3]
          exact ih
      · rw [c1, decide_eq_false c2] at ih
        rw [c1, bi_t, if_neg one_ne, if_neg c2]
        exact ih
    · rw [Bool.not_eq_true] at c1
      rw [c1] at ih
      rw [c1, bi_f, if_pos rfl]
      exact ih
theorem hq_ahF {v : Int64} {w : Int32} : ahF (hq h v w) i = ahF h i := by
  funext k
  unfold ahF
  rw [hq_rd (by decide), hq_rd (by decide), hq_rd (by decide), hq_rd (by decide), hq_rd (by decide)]
end AHEAD
theorem sim_ahead : SimI Inv F_L_ahead F_X7_ahead 1 := by
  intro as h hl hR
  match as, hl with
  | [x], _ =>
    show ∃ (k v : Int32) (h1 h2 : Hp), F_L_ahead [.ref 0, .int x, .ref 275] h = rtn (some (.int k)) h1 ∧ F_X7_ahead [.ref 227, .int x] h1 = rtn (some (.int v)) h2 ∧ _
    have N := hR.1
    have QQ := hR.2.2.1
    have V := hR.2.2.2.2.2.2.2.1
    have U := hR.2.2.2.2.2.2.2.2.2.2.2.2
    have h60 := V.q.1
    cases c1 : ixs x (nq h) with
    | false =>
      refine ⟨1, 0, h, wr h 227 0 1, ?_, ?_, rd_eqw, fun q => absurd q one_ne, hR.quiet (Or.inl ⟨rfl, rfl⟩), Scr.refl, Scr.refl.w (by decide)⟩
      · rw [e_L_ahead_0, e_X6_ahead_0, requestAt_n N V c1]
        rfl
      · rw [e_X7_ahead_0, isRequest_s V, bI_r, c1, bi_f, if_pos rfl, e_X7_ahead_14, holds_n one_ne, bI_r, if_pos rfl]
    | true =>
      obtain ⟨i, hi, rfl⟩ := ixs_t V.q.1 c1
      obtain ⟨k0, k1, k2, k3, k4, k5, k6, k7, k8, k9, k11, k12, k13⟩ := QQ.g (k := i) (by omega)
      generalize hv : (if wtg (rd h 254 i) = true then nI (cnt (ahF h i) (nq h)) else -1) = v
      refine ⟨0, v, wrL h 0 (Int32.toInt64 v), hq h (Int32.toInt64 v) 0, ?_, ?_, hq_w, fun _ => hq_o, hq_inv hR, Scr.refl.l, hq_scr⟩
      · have hc : F_X6_ahead [.ref 0, .int (nI i)] h = rtn (some (.int v)) h := by
          rw [e_X6_ahead_0, requestAt_s N V hi, bR_r, (okc_rq i (by omega)).1, gd_t, isInQueue_s (by omega), bI_r, k9]
          cases c : wtg (rd h 254 i) with
          | false =>
            rw [c] at hv
            rw [bi_f, if_pos rfl, ← hv]
            rfl
          | true =>
            rw [c, if_pos rfl] at hv
            obtain ⟨p1, p2, p3⟩ := U.pos V hi c
            have q := ahead_c N QQ V U hi p1 p3 (pla h i) 0 (by omega)
            have q : f_X6_ahead_20 (nI i) (47 + i) 0 0 h = _ := q
            rw [bi_t, if_neg one_ne, q, ← hv, que_cnt U V _ (Nat.le_of_lt p1)]
            congr 4
            apply cnt_ext
            intro k hk
            unfold ahF wal
            cases cw : wtg (rd h 254 k) with
            | false => rfl
            | true =>
              obtain ⟨r1, r2, r3⟩ := U.pos V hk cw
              have n60 := V.np60.1
              rw [r2, p2, Bool.true_and, Bool.true_and]
              congr 1
              exact decide_eq_decide.mpr (nI_ltI (by omega) (by omega)).symm
        rw [e_L_ahead_0, hc, bI_r]
        rfl
      · have V2 : VN (wrL h 0 (Int32.toInt64 v)) := V
        rw [e_X7_ahead_0, isRequest_s V2, bI_r, show nq (wrL h 0 (Int32.toInt64 v)) = nq h from rfl, c1, bi_t, if_neg one_ne, e_X7_ahead_14, holds_0, bI_r, if_neg one_ne]
        show f_X7_ahead_26 (nI i) (nI (cnt (ahF (hq h (Int32.toInt64 v) 0) i) 0)) (nI 0) (hq h (Int32.toInt64 v) 0) = _
        rw [ahead_m (hq_V V) (by rw [hq_nq]; exact hi) (nq h) 0 (by rw [hq_nq]; omega), hq_ahF, hq_nq, hq_rd (by decide), hv]
