/-! the law asks -/
section ASKED
variable {h g : Hp} {i j k n m a b r c s v t f l q : Nat} {x x1 x2 x3 x4 x5 x6 x7 x8 x9 : Int32}
theorem asks_e : F_L_asks [.ref 0, .int x1, .int x2, .int x3, .int x4, .int x5, .int x6, .int x7, .int x8, .int x9] h = bI (F_X6_request [.ref 0, .int x1, .int x2, .int x3, .int x4, .int x5, .int x6, .int x7, .int x8, .int x9] h) (fun v g => rtn (some (.int v)) g) (hnk hn_L_asks) := e_L_asks_0 x1 x2 x3 x4 x5 x6 x7 x8 x9 h
/-- behind a request that stands -/
theorem Asd.J (H : J h) (hq : nq h < 60) (A : Asd h g x1 x2 x3 x4 x5 x6 x7 x8 x9) (Ig : Inv g) (en : nq g = nq h + 1) : J (wr g 227 0 (nI (nq h + 1))) ∧ Scr h (wr g 227 0 (nI (nq h + 1))) ∧ nq (wr g 227 0 (nI (nq h + 1))) = nq h + 1 := by
  obtain ⟨F, g0, -⟩ := A
  have q : ∀ a k, ¬ ((a = 0 ∧ k = 10) ∨ a = 47 + nq h ∨ (167 ≤ a ∧ a < 227 ∧ k = 8)) → rd g a k = rd h a k := fun a k z => F a k z
  obtain ⟨d1, d2, d3, d4, d5⟩ := H.2
  have F2 : Fr PO g (wr g 227 0 (nI (nq h + 1))) := Fr.refl.w (Or.inr (Or.inr rfl))
  refine ⟨⟨Ig.oth F2, ?_⟩, ?_, ?_⟩
  · refine ⟨?_, ?_, ?_, ?_, fun a ha => ⟨?_, fun r h6 hr => ?_⟩⟩
    · rw [rd_eqw, rd_ne (by decide), g0]
    · rw [rd_nk (by decide), rd_ne (by decide), q _ _ (by omega), q _ _ (by omega)]
      exact d2
    · rw [rd_nk (by decide), rd_ne (by decide), q _ _ (by omega), q _ _ (by omega)]
      exact d3
    · rw [rd_nk (by decide), rd_ne (by decide), q _ _ (by omega), q _ _ (by omega)]
      exact d4
    · rw [rd_nk (by omega), rd_ne (by omega), q _ _ (by omega), q _ _ (by omega)]
      exact (d5 a ha).1
    · rw [rd_ne (by omega), q _ _ (by omega)] at hr
      rw [rd_nk (by omega), rd_ne (by omega), q _ _ (by omega), q _ _ (by omega)]
      exact (d5 a ha).2 r h6 hr
  · exact Fr.scr (P := fun a _ => a < 1000) ((F.up fun a k z => by unfold PR at z; omega).trans (Fr.refl.w (by decide))) fun b k z => z
  · show (rd (wr g 227 0 (nI (nq h + 1))) 0 10).toNatClampNeg = nq h + 1
    rw [rd_ne (by decide), g0, nI_clamp (by omega)]
theorem as342 (I : Inv g) (hi : i < nq g) (h0 : rd g (47 + i) 9 = 0) (h2 : rd g (47 + i) 11 = -1) : f_L_isAsked_342 (nI i) g = rtn (some (.int 1)) g := by
  obtain ⟨v, q1, q2⟩ := ahead_s I hi
  rw [e_L_isAsked_342, q1, bI_r, if_pos (q2.mpr (Or.inl h0)), reqOf_2 I.1.1 hi, bI_r, h2, if_pos rfl]
/-- a request without a right -/
theorem as179n (H : J h) (ha : a < 2 ^ 31) (hb : b < 2 ^ 31) (hq : nq h < 60) (A : Asd h g (nI (a / 3 % 10)) (nI (a / 30 % 2)) x3 x4 x5 x6 x7 x8 (-1)) (Ig : Inv g) (en : nq g = nq h + 1) : Good (f_L_isAsked_179 (nI a) (nI b) (-1) (nI (nq h)) g) h := by
  obtain ⟨HJ, hS, eN⟩ := A.J H hq Ig en
  have e0 : rd g 227 0 = nI (nq h) := by
    rw [A.1 _ _ (by unfold PR; omega), H.2.1]
    exact H.1.1.1.q.2
  have k7 : rd g (47 + nq h) 7 = nI (a / 3 % 10) := A.2.2.2.2.2.2.2.2.2.1
  have k0 : rd g (47 + nq h) 0 = nI (a / 30 % 2) := A.2.2.1
  have k8 : rd g (47 + nq h) 8 = -1 := A.2.2.2.2.2.2.2.2.2.2.1
  have k9 : rd g (47 + nq h) 9 = 0 := A.2.2.2.2.2.2.2.2.2.2.2.1
  have k11 : rd g (47 + nq h) 11 = -1 := A.2.2.2.2.2.2.2.2.2.2.2.2.1
  have st : f_L_isAsked_179 (nI a) (nI b) (-1) (nI (nq h)) g = rtn (some (.int 1)) (wr g 227 0 (nI (nq h + 1))) := by
    rw [e_L_isAsked_179, if_neg (n200 (by omega)), ib_0, tc_0, e0, nI_1]
    simp only [gd_t]
    generalize hG : wr g 227 0 (nI (nq h + 1)) = G at HJ eN
    have w0 : rd G 227 0 = nI (nq h + 1) := by rw [← hG]; exact rd_eqw
    have w : ∀ k, rd G (47 + nq h) k = rd g (47 + nq h) k := fun k => by rw [← hG, rd_ne (by omega)]
    obtain ⟨⟨V, VA, S, X, Q, T, R, U⟩, P⟩ := id HJ.1
    have hi : nq h < nq G := by omega
    rw [reqOf_1 HJ.1 hi (by rw [w, k9]), bI_r, w0, nI_pred, if_pos rfl, reqOf_0 V hi, bI_r, w, k9, if_pos rfl, if_pos (by simp), nd_3, nd_10, nd_30, nd_2]
    simp only [gd_t]
    rw [d_3 ha, m_10 (dv_lt ha), d_30 ha, m_2 (dv_lt ha), isNew_s V S R (by omega) (by omega), bI_r]
    simp only [e_L_isAsked_289]
    have es : srt G (nq h) = (match nwB (rd G 2 (a / 3 % 10)) (nI (a / 30 % 2)) G with | true => 2 | false => 3) := by
      unfold srt
      rw [w, k8, if_pos rfl, w, k7, w, k0, nI_clamp (by omega)]
      cases nwB (rd G 2 (a / 3 % 10)) (nI (a / 30 % 2)) G <;> rfl
    rw [es, as342 HJ.1 hi (by rw [w, k9]) (by rw [w, k11])]
    cases nwB (rd G 2 (a / 3 % 10)) (nI (a / 30 % 2)) G
    · rfl
    · rfl
  exact ⟨_, st, HJ, hS⟩
/-- .. with one -/
theorem as179r (H : J h) (ha : a < 2 ^ 31) (hb : b < 2 ^ 31) (hq : nq h < 60) (hr : r < nr h) (A : Asd h g x1 x2 x3 x4 x5 (rd h (167 + r) 4) (rd h (167 + r) 5) (rd h (167 + r) 6) (nI r)) (e5 : x5 = if a % 3 = 1 then rd h (167 + r) 3 else nI (b / 14 % 72)) (ec : rd g (167 + r) 8 = nI (nq h)) (Ig : Inv g) (en : nq g = nq h + 1) : Good (f_L_isAsked_179 (nI a) (nI b) (nI r) (nI (nq h)) g) h := by
  have h61 := H.1.1.1.r.1
  obtain ⟨HJ, hS, eN⟩ := A.J H hq Ig en
  have e0 : rd g 227 0 = nI (nq h) := by
    rw [A.1 _ _ (by unfold PR; omega), H.2.1]
    exact H.1.1.1.q.2
  have qr : ∀ k, k ≠ 8 → rd g (167 + r) k = rd h (167 + r) k := fun k hk => A.1 _ _ (by unfold PR; omega)
  have enr : nr g = nr h := by unfold nr; rw [A.1 _ _ (by unfold PR; omega)]
  obtain ⟨-, -, -, -, -, k3, k4, k5, k6, -, k8, k9, k11, -⟩ := A
  have st : f_L_isAsked_179 (nI a) (nI b) (nI r) (nI (nq h)) g = rtn (some (.int 1)) (wr g 227 0 (nI (nq h + 1))) := by
    rw [e_L_isAsked_179, if_neg (n200 (by omega)), ib_0, tc_0, e0, nI_1]
    simp only [gd_t]
    generalize hG : wr g 227 0 (nI (nq h + 1)) = G at HJ eN
    have w0 : rd G 227 0 = nI (nq h + 1) := by rw [← hG]; exact rd_eqw
    have w : ∀ k, rd G (47 + nq h) k = rd g (47 + nq h) k := fun k => by rw [← hG, rd_ne (by omega)]
    have wr9 : ∀ k, rd G (167 + r) k = rd g (167 + r) k := fun k => by rw [← hG, rd_ne (by omega)]
    obtain ⟨⟨V, VA, S, X, Q, T, R, U⟩, P⟩ := id HJ.1
    have hi : nq h < nq G := by omega
    have hrG : r < nr G := by
      have : nr G = nr g := by unfold nr; rw [← hG, rd_ne (by decide)]
      omega
    rw [reqOf_1 HJ.1 hi (by rw [w, k9]), bI_r, w0, nI_pred, if_pos rfl, reqOf_0 V hi, bI_r, w, k9, if_pos rfl, if_neg (nI_m1 (by omega)), nd_3, nd_14, nd_72]
    simp only [gd_t]
    have hm1 : (nI (a % 3) = 1) ↔ a % 3 = 1 := nI_eq (b := 1) (by omega) (by decide)
    have es : srt G (nq h) = if x5 = rd h (167 + r) 3 then 0 else 1 := by
      unfold srt
      rw [w, k8, if_neg (nI_m1 (by omega)), nI_clamp (by omega), w, w, w, w, k3, k4, k5, k6, wr9, wr9, wr9, wr9, qr 3 (by decide), qr 4 (by decide), qr 5 (by decide), qr 6 (by decide)]
      by_cases c : x5 = rd h (167 + r) 3
      · simp [c]
      · simp [c]
    have r4 : F_X6_rightOf [.ref 0, .int (nI r), .int 4] G = rtn (some (.int (rd h (167 + r) 3))) G := (rgtOf_s V hrG 4 (by decide)).trans (by rw [show nthN [7, 0, 1, 2, 3, 4, 5, 6, 8] 4 = 3 from rfl, wr9, qr 3 (by decide)])
    have r8 : F_X6_rightOf [.ref 0, .int (nI r), .int 8] G = rtn (some (.int (nI (nq h)))) G := (rgtOf_s V hrG 8 (by decide)).trans (by rw [show nthN [7, 0, 1, 2, 3, 4, 5, 6, 8] 8 = 8 from rfl, wr9, ec])
    rw [m_3 ha, r4, bI_r, d_14 hb, m_72 (dv_lt hb)]
    simp only [e_L_isAsked_321, e_L_isAsked_326, r8, bI_r, eq_self, if_true]
    rw [as342 HJ.1 hi (by rw [w, k9]) (by rw [w, k11]), es]
    by_cases c : a % 3 = 1
    · rw [if_pos (hm1.mpr c)]
      rw [if_pos c] at e5
      rw [if_pos e5, if_pos rfl]
    · rw [if_neg (fun z => c (hm1.mp z))]
      rw [if_neg c] at e5
      by_cases c2 : x5 = rd h (167 + r) 3
      · rw [if_pos c2, if_pos (by rw [← c2, e5]), if_pos rfl]
      · rw [if_neg c2, if_neg (fun z => c2 (by rw [e5, z])), if_pos rfl]
  exact ⟨_, st, HJ, hS⟩
theorem lt_m (h0 : 0 < m) : n % m < m := Nat.mod_lt n h0
theorem isAsked_s (H : J h) (ha : a < 2 ^ 31) (hb : b < 2 ^ 31) : Good (F_L_isAsked [.ref 0, .ref 227, .int (nI a), .int (nI b)]  h) h := by
  obtain ⟨I, D⟩ := id H
  obtain ⟨⟨V, VA, S, X, Q, T, R, U⟩, P⟩ := id I
  have h60 := V.q.1
  have h61 := V.r.1
  have e0 : rd h 227 0 = nI (nq h) := D.1.trans V.q.2
  have e2 : rd h 227 2 = nI (nr h) := D.2.2.1.trans V.r.2
  have nxG : ∀ r : Res, Good r h → Good (nxR r) h := by
    rintro r ⟨g, rfl, q⟩
    exact ⟨g, rfl, q⟩
  -- without a right
  have none_ : Good (f_L_isAsked_23 (nI a) (nI b) (-1) h) h := by
    rw [e_L_isAsked_23, nd_1008, nd_12, if_pos rfl, nd_3, nd_10, nd_30, nd_2, nd_60, nd_7, nd_14, nd_72, nd_12096, nd_8, nd_120]
    simp only [gd_t]
    rw [d_3 ha, m_10 (dv_lt ha), d_30 ha, m_2 (dv_lt ha), d_60 ha, m_2 (dv_lt ha), m_7 hb, d_14 hb, m_72 (dv_lt hb), d_1008 hb, m_12 (dv_lt hb), d_12096 hb, m_8 (dv_lt hb), d_120 ha, m_10 (dv_lt ha), nI_add, asks_e]
    have c3 : irg (nI (a / 60 % 2)) 0 1 = true := nI_irg (n := 1) (by omega) (by decide)
    have c4 : irg (nI (b % 7)) 0 6 = true := nI_irg (n := 6) (by omega) (by decide)
    have c5 : irg (nI (b / 14 % 72)) 0 71 = true := nI_irg (n := 71) (by omega) (by decide)
    have c6 : irg (nI (b / 1008 % 12)) 0 19 = true := nI_irg (n := 19) (by omega) (by decide)
    have c7 : irg (nI (b / 1008 % 12 + b / 12096 % 8)) (nI (b / 1008 % 12)) 19 = true := irg_i (nI_nlt (by omega) (by omega)) (nI_nlt (b := b / 1008 % 12 + b / 12096 % 8) (a := 19) (by omega) (by decide))
    have c8 : irg (nI (a / 120 % 10)) 0 9 = true := nI_irg (n := 9) (by omega) (by decide)
    rcases request_0 (c := a / 3 % 10) (j := a / 30 % 2) V (by omega) (by omega) c3 c4 c5 c6 c7 c8 with ⟨q1, q2⟩ | ⟨q1, g, q2, q3⟩
    · rw [q2, bI_t, show hnk hn_L_asks 2 h = rtn (some (.int (-200))) h from rfl, bI_r, e_L_isAsked_179, if_pos rfl, ib_0, tc_0, e0, q1, gd_t, if_pos (show nI 60 = 60 from rfl)]
      exact Good.of H Scr.refl
    · rw [q2, bI_r, bI_r]
      obtain ⟨Ig, en⟩ := q3.inv I q1 (nI_irg (n := 3) (by omega) (by decide)) c3 c4 c5 c6 c7 c8 (nI_irg (n := 9) (by omega) (by decide)) (Or.inl rfl)
      exact as179n H ha hb q1 q3 Ig en
  refine (fun z => (by rw [e_L_isAsked_0]; exact nxG _ z)) ?_
  rw [ib_2, tc_2, e2, nd_3]
  simp only [gd_t]
  by_cases c : nI (nr h) = 0
  · rw [if_pos c, e_L_isAsked_12]
    exact none_
  · have hr0 : 0 < nr h := by
      rcases Nat.eq_zero_or_pos (nr h) with z | z
      · exact absurd (by rw [z]; rfl) c
      · exact z
    rw [if_neg c, m_3 ha]
    by_cases c1 : nI (a % 3) = 0
    · rw [if_pos c1, e_L_isAsked_12]
      exact none_
    · rw [if_neg c1, decide_eq_false c, Bool.not_false, gd_t, d_3 ha, pk_rem (dv_lt ha) hr0 (by omega)]
      have hr : a / 3 % nr h < nr h := lt_m hr0
      generalize a / 3 % nr h = r at hr
      obtain ⟨⟨s0, s1, s2, s3, s4, s5, s6⟩, s7⟩ := R r hr
      obtain ⟨c9, hc9, ec9⟩ := irg_9 s7
      obtain ⟨j9, hj9, ej9⟩ := irg_3 s0
      have rg : ∀ (f k : Nat), nthN [7, 0, 1, 2, 3, 4, 5, 6, 8] f = k → (f = 0 ∨ f = 1 ∨ f = 2 ∨ f = 3 ∨ f = 4 ∨ f = 5 ∨ f = 6 ∨ f = 7 ∨ f = 8) → F_X6_rightOf [.ref 0, .int (nI r), .int (nI f)] h = rtn (some (.int (rd h (167 + r) k))) h := fun f k hk hf => by
        rw [rgtOf_s V hr f hf, hk]
      have g0 : F_X6_rightOf [.ref 0, .int (nI r), .int 0] h = rtn (some (.int (nI c9))) h := (rg 0 7 rfl (by decide)).trans (by rw [ec9])
      have g1 : F_X6_rightOf [.ref 0, .int (nI r), .int 1] h = rtn (some (.int (nI j9))) h := (rg 1 0 rfl (by decide)).trans (by rw [ej9])
      have g2 : F_X6_rightOf [.ref 0, .int (nI r), .int 2] h = rtn (some (.int (rd h (167 + r) 1))) h := rg 2 1 rfl (by decide)
      have g3 : F_X6_rightOf [.ref 0, .int (nI r), .int 3] h = rtn (some (.int (rd h (167 + r) 2))) h := rg 3 2 rfl (by decide)
      have g4 : F_X6_rightOf [.ref 0, .int (nI r), .int 4] h = rtn (some (.int (rd h (167 + r) 3))) h := rg 4 3 rfl (by decide)
      have g5 : F_X6_rightOf [.ref 0, .int (nI r), .int 5] h = rtn (some (.int (rd h (167 + r) 4))) h := rg 5 4 rfl (by decide)
      have g6 : F_X6_rightOf [.ref 0, .int (nI r), .int 6] h = rtn (some (.int (rd h (167 + r) 5))) h := rg 6 5 rfl (by decide)
      have g7 : F_X6_rightOf [.ref 0, .int (nI r), .int 7] h = rtn (some (.int (rd h (167 + r) 6))) h := rg 7 6 rfl (by decide)
      have g8 : F_X6_rightOf [.ref 0, .int (nI r), .int 8] h = rtn (some (.int (rd h (167 + r) 8))) h := rg 8 8 rfl (by decide)
      have fin : ∀ x5 : Int32, irg x5 0 71 = true → (x5 = if a % 3 = 1 then rd h (167 + r) 3 else nI (b / 14 % 72)) → Good (f_L_isAsked_151 (nI a) (nI b) (nI r) x5 (rd h (167 + r) 2) (rd h (167 + r) 1) (nI j9) (nI c9) h) h := by
        intro x5 c5 e5
        rw [e_L_isAsked_151, g5, bI_r, g6, bI_r, g7, bI_r, asks_e]
        rcases request_r (x5 := x5) V hr ec9 ej9 rfl rfl hc9 hj9 s1 s2 c5 s4 s5 s6 with ⟨q1, q2⟩ | ⟨q1, g, q2, q3, q4⟩
        · rw [q2, bI_t, show hnk hn_L_asks 2 h = rtn (some (.int (-200))) h from rfl, bI_r, e_L_isAsked_179, if_pos rfl, ib_0, tc_0, e0, gd_t, if_neg (nI_m1 (by omega)), g8, bI_r]
          rcases q1 with q1 | q1
          · rw [q1, if_pos (show nI 60 = 60 from rfl)]
            exact Good.of H Scr.refl
          · rw [if_neg q1, ite_self]
            exact Good.of H Scr.refl
        · rw [q2, bI_r, bI_r]
          obtain ⟨Ig, en⟩ := q3.inv I q1 (by rw [← ej9]; exact s0) s1 s2 c5 s4 s5 s6 (by rw [← ec9]; exact s7) (Or.inr ⟨r, hr, rfl⟩)
          exact as179r H ha hb q1 hr q3 e5 q4 Ig en
      rw [e_L_isAsked_23, nd_1008, nd_12, if_neg (nI_m1 (by omega)), g0, nd_3, nd_14, nd_72]
      simp only [gd_t, bI_r]
      rw [g1, bI_r, g2, bI_r, g3, bI_r, m_3 ha]
      have hm1 : (nI (a % 3) = 1) ↔ a % 3 = 1 := nI_eq (b := 1) (by omega) (by decide)
      by_cases c3 : a % 3 = 1
      · rw [if_pos (hm1.mpr c3), g4, bI_r]
        exact fin _ s3 (by rw [if_pos c3])
      · rw [if_neg (fun z => c3 (hm1.mp z)), d_14 hb, m_72 (dv_lt hb)]
        exact fin _ (nI_irg (n := 71) (by omega) (by decide)) (by rw [if_neg c3])
end ASKED
