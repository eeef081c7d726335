section STEP4
variable {h g : Hp} {i j k n m a b r c s v t f l q w d o r1 r2 s1 s2 : Nat} {x x1 x2 x3 x4 x5 x6 x7 x8 x9 : Int32}
theorem Good.z {r : Res} {kx : Nat → Hp → Res} (H : Good r h) : Good (bI r (fun v g => gd (okZ 1 v) (rtn (some (.int v)) g)) kx) h := by
  obtain ⟨g, rfl, q⟩ := H
  exact ⟨g, rfl, q⟩
theorem Good.bb {r : Res} {kx : Nat → Hp → Res} (H : Good r h) : Good (bI r (fun v g => if v = 0 then rtn (some (.int 0)) g else rtn (some (.int 1)) g) kx) h := by
  obtain ⟨g, rfl, q⟩ := H
  exact ⟨g, rfl, q⟩
theorem l20 (z : Nat) : (20 : Int32) + nI z = nI (20 + z) := nI_add 20 z
theorem l1 (z : Nat) : (1 : Int32) + nI z = nI (z + 1) := by
  rw [Nat.add_comm]
  exact nI_add 1 z
theorem step401 (H : J h) (ha : a < 2 ^ 31) (hb : b < 2 ^ 31) : Good (f_L_step_401 (nI a) (nI b) h) h := by
  rw [e_L_step_401]
  exact (isAsked_s H ha hb).z
theorem step466 (H : J h) (hb : b < 2 ^ 31) : Good (f_L_step_466 (nI b) h) h := by
  rw [e_L_step_466, nd_2, nd_20, gd_t, gd_t, gd_t, m_2 hb, d_2 hb, m_20 (dv_lt hb), l1]
  exact (isHeld_s H (by omega) (by omega)).z
set_option maxHeartbeats 4000000 in
theorem step89 (H : J h) (ha : a < 2 ^ 31) (hb : b < 2 ^ 31) (hj : j < 2) (hw : w < 22) (hq : nq h = 0 → w = 4) (hr : nq h ≠ 0 → r1 < nq h ∧ r2 < nq h) (hs : ns h ≠ 0 → s1 < ns h ∧ s2 < ns h) : Good (f_L_step_89 (nI a) (nI b) (nI j) (nI r1) (nI r2) (nI s1) (nI s2) (nI w) h) h := by
  have V := H.1.1.1
  have h61 := V.s.1
  have e1 : rd h 227 1 = nI (ns h) := H.2.2.1.trans V.s.2
  have hc : w = 0 ∨ w = 1 ∨ w = 2 ∨ w = 3 ∨ w = 4 ∨ w = 5 ∨ w = 6 ∨ w = 7 ∨ w = 8 ∨ w = 9 ∨ w = 10 ∨ w = 11 ∨ w = 12 ∨ w = 13 ∨ w = 14 ∨ w = 15 ∨ w = 16 ∨ w = 17 ∨ w = 18 ∨ w = 19 ∨ w = 20 ∨ w = 21 := by omega
  rw [e_L_step_89]
  rcases hc with rfl | rfl | rfl | rfl | rfl | rfl | rfl | rfl | rfl | rfl | rfl | rfl | rfl | rfl | rfl | rfl | rfl | rfl | rfl | rfl | rfl | rfl
  · rw [if_pos (show nI 0 = Int32.ofNat 0 from rfl)]
    exact step188 H hj hb
  · rw [if_neg (show ¬ nI 1 = Int32.ofNat 0 by decide), if_pos (show nI 1 = Int32.ofNat 1 from rfl)]
    exact step188 H hj hb
  · rw [if_neg (show ¬ nI 2 = Int32.ofNat 0 by decide), if_neg (show ¬ nI 2 = Int32.ofNat 1 by decide), if_pos (show nI 2 = Int32.ofNat 2 from rfl)]
    simp only [nd_30, nd_9, nd_400, gd_t, m_30 hb, m_400 hb]
    simp only [d_30 hb, m_9 (dv_lt (d := 30) hb), nI_add, l20]
    exact stepC2 H hj hb
  · rw [if_neg (show ¬ nI 3 = Int32.ofNat 0 by decide), if_neg (show ¬ nI 3 = Int32.ofNat 1 by decide), if_neg (show ¬ nI 3 = Int32.ofNat 2 by decide), if_pos (show nI 3 = Int32.ofNat 3 from rfl)]
    simp only [nd_10, gd_t, m_10 ha, m_10 hb]
    exact stepC3 H (by omega) (by omega)
  · rw [if_neg (show ¬ nI 4 = Int32.ofNat 0 by decide), if_neg (show ¬ nI 4 = Int32.ofNat 1 by decide), if_neg (show ¬ nI 4 = Int32.ofNat 2 by decide), if_neg (show ¬ nI 4 = Int32.ofNat 3 by decide), if_pos (show nI 4 = Int32.ofNat 4 from rfl)]
    exact step401 H ha hb
  · rw [if_neg (show ¬ nI 5 = Int32.ofNat 0 by decide), if_neg (show ¬ nI 5 = Int32.ofNat 1 by decide), if_neg (show ¬ nI 5 = Int32.ofNat 2 by decide), if_neg (show ¬ nI 5 = Int32.ofNat 3 by decide), if_neg (show ¬ nI 5 = Int32.ofNat 4 by decide), if_pos (show nI 5 = Int32.ofNat 5 from rfl)]
    exact step401 H ha hb
  · rw [if_neg (show ¬ nI 6 = Int32.ofNat 0 by decide), if_neg (show ¬ nI 6 = Int32.ofNat 1 by decide), if_neg (show ¬ nI 6 = Int32.ofNat 2 by decide), if_neg (show ¬ nI 6 = Int32.ofNat 3 by decide), if_neg (show ¬ nI 6 = Int32.ofNat 4 by decide), if_neg (show ¬ nI 6 = Int32.ofNat 5 by decide), if_pos (show nI 6 = Int32.ofNat 6 from rfl)]
    exact step401 H ha hb
  · rw [if_neg (show ¬ nI 7 = Int32.ofNat 0 by decide), if_neg (show ¬ nI 7 = Int32.ofNat 1 by decide), if_neg (show ¬ nI 7 = Int32.ofNat 2 by decide), if_neg (show ¬ nI 7 = Int32.ofNat 3 by decide), if_neg (show ¬ nI 7 = Int32.ofNat 4 by decide), if_neg (show ¬ nI 7 = Int32.ofNat 5 by decide), if_neg (show ¬ nI 7 = Int32.ofNat 6 by decide), if_pos (show nI 7 = Int32.ofNat 7 from rfl)]
    exact step401 H ha hb
  · rw [if_neg (show ¬ nI 8 = Int32.ofNat 0 by decide), if_neg (show ¬ nI 8 = Int32.ofNat 1 by decide), if_neg (show ¬ nI 8 = Int32.ofNat 2 by decide), if_neg (show ¬ nI 8 = Int32.ofNat 3 by decide), if_neg (show ¬ nI 8 = Int32.ofNat 4 by decide), if_neg (show ¬ nI 8 = Int32.ofNat 5 by decide), if_neg (show ¬ nI 8 = Int32.ofNat 6 by decide), if_neg (show ¬ nI 8 = Int32.ofNat 7 by decide), if_pos (show nI 8 = Int32.ofNat 8 from rfl)]
    exact step401 H ha hb
  · rw [if_neg (show ¬ nI 9 = Int32.ofNat 0 by decide), if_neg (show ¬ nI 9 = Int32.ofNat 1 by decide), if_neg (show ¬ nI 9 = Int32.ofNat 2 by decide), if_neg (show ¬ nI 9 = Int32.ofNat 3 by decide), if_neg (show ¬ nI 9 = Int32.ofNat 4 by decide), if_neg (show ¬ nI 9 = Int32.ofNat 5 by decide), if_neg (show ¬ nI 9 = Int32.ofNat 6 by decide), if_neg (show ¬ nI 9 = Int32.ofNat 7 by decide), if_neg (show ¬ nI 9 = Int32.ofNat 8 by decide), if_pos (show nI 9 = Int32.ofNat 9 from rfl)]
    have z := hr (fun y => absurd (hq y) (by decide))
    exact stepC9 H z.1 z.2
  · rw [if_neg (show ¬ nI 10 = Int32.ofNat 0 by decide), if_neg (show ¬ nI 10 = Int32.ofNat 1 by decide), if_neg (show ¬ nI 10 = Int32.ofNat 2 by decide), if_neg (show ¬ nI 10 = Int32.ofNat 3 by decide), if_neg (show ¬ nI 10 = Int32.ofNat 4 by decide), if_neg (show ¬ nI 10 = Int32.ofNat 5 by decide), if_neg (show ¬ nI 10 = Int32.ofNat 6 by decide), if_neg (show ¬ nI 10 = Int32.ofNat 7 by decide), if_neg (show ¬ nI 10 = Int32.ofNat 8 by decide), if_neg (show ¬ nI 10 = Int32.ofNat 9 by decide), if_pos (show nI 10 = Int32.ofNat 10 from rfl)]
    exact step466 H hb
  · rw [if_neg (show ¬ nI 11 = Int32.ofNat 0 by decide), if_neg (show ¬ nI 11 = Int32.ofNat 1 by decide), if_neg (show ¬ nI 11 = Int32.ofNat 2 by decide), if_neg (show ¬ nI 11 = Int32.ofNat 3 by decide), if_neg (show ¬ nI 11 = Int32.ofNat 4 by decide), if_neg (show ¬ nI 11 = Int32.ofNat 5 by decide), if_neg (show ¬ nI 11 = Int32.ofNat 6 by decide), if_neg (show ¬ nI 11 = Int32.ofNat 7 by decide), if_neg (show ¬ nI 11 = Int32.ofNat 8 by decide), if_neg (show ¬ nI 11 = Int32.ofNat 9 by decide), if_neg (show ¬ nI 11 = Int32.ofNat 10 by decide), if_pos (show nI 11 = Int32.ofNat 11 from rfl)]
    exact step466 H hb
  · rw [if_neg (show ¬ nI 12 = Int32.ofNat 0 by decide), if_neg (show ¬ nI 12 = Int32.ofNat 1 by decide), if_neg (show ¬ nI 12 = Int32.ofNat 2 by decide), if_neg (show ¬ nI 12 = Int32.ofNat 3 by decide), if_neg (show ¬ nI 12 = Int32.ofNat 4 by decide), if_neg (show ¬ nI 12 = Int32.ofNat 5 by decide), if_neg (show ¬ nI 12 = Int32.ofNat 6 by decide), if_neg (show ¬ nI 12 = Int32.ofNat 7 by decide), if_neg (show ¬ nI 12 = Int32.ofNat 8 by decide), if_neg (show ¬ nI 12 = Int32.ofNat 9 by decide), if_neg (show ¬ nI 12 = Int32.ofNat 10 by decide), if_neg (show ¬ nI 12 = Int32.ofNat 11 by decide), if_pos (show nI 12 = Int32.ofNat 12 from rfl)]
    exact step466 H hb
  · rw [if_neg (show ¬ nI 13 = Int32.ofNat 0 by decide), if_neg (show ¬ nI 13 = Int32.ofNat 1 by decide), if_neg (show ¬ nI 13 = Int32.ofNat 2 by decide), if_neg (show ¬ nI 13 = Int32.ofNat 3 by decide), if_neg (show ¬ nI 13 = Int32.ofNat 4 by decide), if_neg (show ¬ nI 13 = Int32.ofNat 5 by decide), if_neg (show ¬ nI 13 = Int32.ofNat 6 by decide), if_neg (show ¬ nI 13 = Int32.ofNat 7 by decide), if_neg (show ¬ nI 13 = Int32.ofNat 8 by decide), if_neg (show ¬ nI 13 = Int32.ofNat 9 by decide), if_neg (show ¬ nI 13 = Int32.ofNat 10 by decide), if_neg (show ¬ nI 13 = Int32.ofNat 11 by decide), if_neg (show ¬ nI 13 = Int32.ofNat 12 by decide), if_pos (show nI 13 = Int32.ofNat 13 from rfl)]
    have z := hr (fun y => absurd (hq y) (by decide))
    rw [nd_7, nd_20, gd_t, gd_t, d_7 hb, m_20 (dv_lt hb)]
    exact (isTaken_s H z.1 (by omega)).z
  · rw [if_neg (show ¬ nI 14 = Int32.ofNat 0 by decide), if_neg (show ¬ nI 14 = Int32.ofNat 1 by decide), if_neg (show ¬ nI 14 = Int32.ofNat 2 by decide), if_neg (show ¬ nI 14 = Int32.ofNat 3 by decide), if_neg (show ¬ nI 14 = Int32.ofNat 4 by decide), if_neg (show ¬ nI 14 = Int32.ofNat 5 by decide), if_neg (show ¬ nI 14 = Int32.ofNat 6 by decide), if_neg (show ¬ nI 14 = Int32.ofNat 7 by decide), if_neg (show ¬ nI 14 = Int32.ofNat 8 by decide), if_neg (show ¬ nI 14 = Int32.ofNat 9 by decide), if_neg (show ¬ nI 14 = Int32.ofNat 10 by decide), if_neg (show ¬ nI 14 = Int32.ofNat 11 by decide), if_neg (show ¬ nI 14 = Int32.ofNat 12 by decide), if_neg (show ¬ nI 14 = Int32.ofNat 13 by decide), if_pos (show nI 14 = Int32.ofNat 14 from rfl)]
    rw [ib_1, tc_1, e1, gd_t]
    by_cases c : ns h = 0
    · rw [c, if_pos (show nI 0 = 0 from rfl)]
      exact Good.of H Scr.refl
    · rw [if_neg (nI_ne0 (by omega) (by omega)), nd_3, nd_20, nd_60]
      simp only [gd_t]
      rw [d_3 hb, m_20 (dv_lt hb), d_60 hb, m_20 (dv_lt hb)]
      exact (isBack_s H (hs c).1 (by omega) (by omega)).bb
  · rw [if_neg (show ¬ nI 15 = Int32.ofNat 0 by decide), if_neg (show ¬ nI 15 = Int32.ofNat 1 by decide), if_neg (show ¬ nI 15 = Int32.ofNat 2 by decide), if_neg (show ¬ nI 15 = Int32.ofNat 3 by decide), if_neg (show ¬ nI 15 = Int32.ofNat 4 by decide), if_neg (show ¬ nI 15 = Int32.ofNat 5 by decide), if_neg (show ¬ nI 15 = Int32.ofNat 6 by decide), if_neg (show ¬ nI 15 = Int32.ofNat 7 by decide), if_neg (show ¬ nI 15 = Int32.ofNat 8 by decide), if_neg (show ¬ nI 15 = Int32.ofNat 9 by decide), if_neg (show ¬ nI 15 = Int32.ofNat 10 by decide), if_neg (show ¬ nI 15 = Int32.ofNat 11 by decide), if_neg (show ¬ nI 15 = Int32.ofNat 12 by decide), if_neg (show ¬ nI 15 = Int32.ofNat 13 by decide), if_neg (show ¬ nI 15 = Int32.ofNat 14 by decide), if_pos (show nI 15 = Int32.ofNat 15 from rfl)]
    rw [ib_1, tc_1, e1, gd_t]
    by_cases c : ns h = 0
    · rw [c, if_pos (show nI 0 = 0 from rfl), e_L_step_555, ib_1, tc_1, e1, gd_t, c, if_pos (show nI 0 = 0 from rfl), e_L_step_574, ib_1, tc_1, e1, gd_t, c, if_pos (show nI 0 = 0 from rfl)]
      exact Good.of H Scr.refl
    · have q0 : F_X6_seriesOf [.ref 0, .int (nI s1), .int 0] h = rtn (some (.int (rd h (107 + s1) 8))) h := serOf_s V (hs c).1 0 (by decide)
      have q1 : F_X6_seriesOf [.ref 0, .int (nI s2), .int 1] h = rtn (some (.int (rd h (107 + s2) 9))) h := serOf_s V (hs c).2 1 (by decide)
      rw [if_neg (nI_ne0 (by omega) (by omega)), q0, bI_r, e_L_step_555, ib_1, tc_1, e1, gd_t, if_neg (nI_ne0 (by omega) (by omega)), q1, bI_r]
      exact stepC15 H (hs c).1 (hs c).2
  · rw [if_neg (show ¬ nI 16 = Int32.ofNat 0 by decide), if_neg (show ¬ nI 16 = Int32.ofNat 1 by decide), if_neg (show ¬ nI 16 = Int32.ofNat 2 by decide), if_neg (show ¬ nI 16 = Int32.ofNat 3 by decide), if_neg (show ¬ nI 16 = Int32.ofNat 4 by decide), if_neg (show ¬ nI 16 = Int32.ofNat 5 by decide), if_neg (show ¬ nI 16 = Int32.ofNat 6 by decide), if_neg (show ¬ nI 16 = Int32.ofNat 7 by decide), if_neg (show ¬ nI 16 = Int32.ofNat 8 by decide), if_neg (show ¬ nI 16 = Int32.ofNat 9 by decide), if_neg (show ¬ nI 16 = Int32.ofNat 10 by decide), if_neg (show ¬ nI 16 = Int32.ofNat 11 by decide), if_neg (show ¬ nI 16 = Int32.ofNat 12 by decide), if_neg (show ¬ nI 16 = Int32.ofNat 13 by decide), if_neg (show ¬ nI 16 = Int32.ofNat 14 by decide), if_neg (show ¬ nI 16 = Int32.ofNat 15 by decide), if_pos (show nI 16 = Int32.ofNat 16 from rfl)]
    rw [ib_1, tc_1, e1, gd_t]
    by_cases c : ns h = 0
    · rw [c, if_pos (show nI 0 = 0 from rfl), e_L_step_648, if_pos (by decide)]
      exact Good.of H Scr.refl
    · rw [if_neg (nI_ne0 (by omega) (by omega)), nd_10, gd_t, m_10 hb]
      exact stepC16 H (hs c).1 hb
  · rw [if_neg (show ¬ nI 17 = Int32.ofNat 0 by decide), if_neg (show ¬ nI 17 = Int32.ofNat 1 by decide), if_neg (show ¬ nI 17 = Int32.ofNat 2 by decide), if_neg (show ¬ nI 17 = Int32.ofNat 3 by decide), if_neg (show ¬ nI 17 = Int32.ofNat 4 by decide), if_neg (show ¬ nI 17 = Int32.ofNat 5 by decide), if_neg (show ¬ nI 17 = Int32.ofNat 6 by decide), if_neg (show ¬ nI 17 = Int32.ofNat 7 by decide), if_neg (show ¬ nI 17 = Int32.ofNat 8 by decide), if_neg (show ¬ nI 17 = Int32.ofNat 9 by decide), if_neg (show ¬ nI 17 = Int32.ofNat 10 by decide), if_neg (show ¬ nI 17 = Int32.ofNat 11 by decide), if_neg (show ¬ nI 17 = Int32.ofNat 12 by decide), if_neg (show ¬ nI 17 = Int32.ofNat 13 by decide), if_neg (show ¬ nI 17 = Int32.ofNat 14 by decide), if_neg (show ¬ nI 17 = Int32.ofNat 15 by decide), if_neg (show ¬ nI 17 = Int32.ofNat 16 by decide), if_pos (show nI 17 = Int32.ofNat 17 from rfl)]
    exact stepC17 H (fun c => (hs c).1) hb
  · rw [if_neg (show ¬ nI 18 = Int32.ofNat 0 by decide), if_neg (show ¬ nI 18 = Int32.ofNat 1 by decide), if_neg (show ¬ nI 18 = Int32.ofNat 2 by decide), if_neg (show ¬ nI 18 = Int32.ofNat 3 by decide), if_neg (show ¬ nI 18 = Int32.ofNat 4 by decide), if_neg (show ¬ nI 18 = Int32.ofNat 5 by decide), if_neg (show ¬ nI 18 = Int32.ofNat 6 by decide), if_neg (show ¬ nI 18 = Int32.ofNat 7 by decide), if_neg (show ¬ nI 18 = Int32.ofNat 8 by decide), if_neg (show ¬ nI 18 = Int32.ofNat 9 by decide), if_neg (show ¬ nI 18 = Int32.ofNat 10 by decide), if_neg (show ¬ nI 18 = Int32.ofNat 11 by decide), if_neg (show ¬ nI 18 = Int32.ofNat 12 by decide), if_neg (show ¬ nI 18 = Int32.ofNat 13 by decide), if_neg (show ¬ nI 18 = Int32.ofNat 14 by decide), if_neg (show ¬ nI 18 = Int32.ofNat 15 by decide), if_neg (show ¬ nI 18 = Int32.ofNat 16 by decide), if_neg (show ¬ nI 18 = Int32.ofNat 17 by decide), if_pos (show nI 18 = Int32.ofNat 18 from rfl)]
    exact stepC17 H (fun c => (hs c).1) hb
  · rw [if_neg (show ¬ nI 19 = Int32.ofNat 0 by decide), if_neg (show ¬ nI 19 = Int32.ofNat 1 by decide), if_neg (show ¬ nI 19 = Int32.ofNat 2 by decide), if_neg (show ¬ nI 19 = Int32.ofNat 3 by decide), if_neg (show ¬ nI 19 = Int32.ofNat 4 by decide), if_neg (show ¬ nI 19 = Int32.ofNat 5 by decide), if_neg (show ¬ nI 19 = Int32.ofNat 6 by decide), if_neg (show ¬ nI 19 = Int32.ofNat 7 by decide), if_neg (show ¬ nI 19 = Int32.ofNat 8 by decide), if_neg (show ¬ nI 19 = Int32.ofNat 9 by decide), if_neg (show ¬ nI 19 = Int32.ofNat 10 by decide), if_neg (show ¬ nI 19 = Int32.ofNat 11 by decide), if_neg (show ¬ nI 19 = Int32.ofNat 12 by decide), if_neg (show ¬ nI 19 = Int32.ofNat 13 by decide), if_neg (show ¬ nI 19 = Int32.ofNat 14 by decide), if_neg (show ¬ nI 19 = Int32.ofNat 15 by decide), if_neg (show ¬ nI 19 = Int32.ofNat 16 by decide), if_neg (show ¬ nI 19 = Int32.ofNat 17 by decide), if_neg (show ¬ nI 19 = Int32.ofNat 18 by decide), if_pos (show nI 19 = Int32.ofNat 19 from rfl)]
    simp only [nd_7, nd_20, gd_t, m_7 hb]
    simp only [d_7 hb, m_20 (dv_lt (d := 7) hb)]
    exact stepC19 H hj (by omega) (by omega)
  · rw [if_neg (show ¬ nI 20 = Int32.ofNat 0 by decide), if_neg (show ¬ nI 20 = Int32.ofNat 1 by decide), if_neg (show ¬ nI 20 = Int32.ofNat 2 by decide), if_neg (show ¬ nI 20 = Int32.ofNat 3 by decide), if_neg (show ¬ nI 20 = Int32.ofNat 4 by decide), if_neg (show ¬ nI 20 = Int32.ofNat 5 by decide), if_neg (show ¬ nI 20 = Int32.ofNat 6 by decide), if_neg (show ¬ nI 20 = Int32.ofNat 7 by decide), if_neg (show ¬ nI 20 = Int32.ofNat 8 by decide), if_neg (show ¬ nI 20 = Int32.ofNat 9 by decide), if_neg (show ¬ nI 20 = Int32.ofNat 10 by decide), if_neg (show ¬ nI 20 = Int32.ofNat 11 by decide), if_neg (show ¬ nI 20 = Int32.ofNat 12 by decide), if_neg (show ¬ nI 20 = Int32.ofNat 13 by decide), if_neg (show ¬ nI 20 = Int32.ofNat 14 by decide), if_neg (show ¬ nI 20 = Int32.ofNat 15 by decide), if_neg (show ¬ nI 20 = Int32.ofNat 16 by decide), if_neg (show ¬ nI 20 = Int32.ofNat 17 by decide), if_neg (show ¬ nI 20 = Int32.ofNat 18 by decide), if_neg (show ¬ nI 20 = Int32.ofNat 19 by decide), if_pos (show nI 20 = Int32.ofNat 20 from rfl)]
    rw [nd_3, gd_t, m_3 hb]
    by_cases c : b % 3 = 0
    · rw [c, if_neg (show ¬ (0 : Int32) < nI 0 by decide)]
      exact (isEnded_s H).bb
    · rw [if_pos (show (0 : Int32) < nI (b % 3) from nI_lt (a := 0) (by omega) (by omega))]
      exact Good.of H Scr.refl
  · rw [if_neg (show ¬ nI 21 = Int32.ofNat 0 by decide), if_neg (show ¬ nI 21 = Int32.ofNat 1 by decide), if_neg (show ¬ nI 21 = Int32.ofNat 2 by decide), if_neg (show ¬ nI 21 = Int32.ofNat 3 by decide), if_neg (show ¬ nI 21 = Int32.ofNat 4 by decide), if_neg (show ¬ nI 21 = Int32.ofNat 5 by decide), if_neg (show ¬ nI 21 = Int32.ofNat 6 by decide), if_neg (show ¬ nI 21 = Int32.ofNat 7 by decide), if_neg (show ¬ nI 21 = Int32.ofNat 8 by decide), if_neg (show ¬ nI 21 = Int32.ofNat 9 by decide), if_neg (show ¬ nI 21 = Int32.ofNat 10 by decide), if_neg (show ¬ nI 21 = Int32.ofNat 11 by decide), if_neg (show ¬ nI 21 = Int32.ofNat 12 by decide), if_neg (show ¬ nI 21 = Int32.ofNat 13 by decide), if_neg (show ¬ nI 21 = Int32.ofNat 14 by decide), if_neg (show ¬ nI 21 = Int32.ofNat 15 by decide), if_neg (show ¬ nI 21 = Int32.ofNat 16 by decide), if_neg (show ¬ nI 21 = Int32.ofNat 17 by decide), if_neg (show ¬ nI 21 = Int32.ofNat 18 by decide), if_neg (show ¬ nI 21 = Int32.ofNat 19 by decide), if_neg (show ¬ nI 21 = Int32.ofNat 20 by decide)]
    simp only [nd_7, nd_10, nd_20, gd_t, m_10 ha, m_7 hb]
    simp only [d_7 hb, m_20 (dv_lt (d := 7) hb)]
    exact stepC21 H (by omega) hj (by omega) (by omega)
theorem mod_i (hd : d < 2 ^ 31) (ha : a < 2 ^ 31) (h0 : 0 < d) : nI a - nI a / nI d * nI d = nI (a % d) := pk_rem ha h0 hd
theorem step_s (H : J h) (hw : w < 2 ^ 31) (ha : a < 2 ^ 31) (hb : b < 2 ^ 31) : Good (F_L_step [.ref 0, .ref 227, .int (nI w), .int (nI a), .int (nI b)] h) h := by
  have V := H.1.1.1
  have h60 := V.q.1
  have h61 := V.s.1
  have e0 : rd h 227 0 = nI (nq h) := H.2.1.trans V.q.2
  have e1 : rd h 227 1 = nI (ns h) := H.2.2.1.trans V.s.2
  have s20 : ∀ z : Nat, f_L_step_20 (nI w) (nI a) (nI b) (nI (a % 2)) (nI z) h = f_L_step_38 (nI w) (nI a) (nI b) (nI (a % 2)) (nI z) (nI (if nq h = 0 then 0 else b % nq h)) h := fun z => by
    rw [e_L_step_20, ib_0, tc_0, e0]
    simp only [gd_t]
    by_cases c : nq h = 0
    · rw [c, if_pos (show nI 0 = 0 from rfl), if_pos rfl]
      rfl
    · rw [if_neg (nI_ne0 (by omega) (by omega)), decide_eq_false (nI_ne0 (n := nq h) (by omega) (by omega)), Bool.not_false, gd_t, mod_i (by omega) hb (by omega), if_neg c]
  have s38 : ∀ z y : Nat, f_L_step_38 (nI w) (nI a) (nI b) (nI (a % 2)) (nI z) (nI y) h = f_L_step_55 (nI w) (nI a) (nI b) (nI (a % 2)) (nI z) (nI y) (nI (if ns h = 0 then 0 else a % ns h)) h := fun z y => by
    rw [e_L_step_38, ib_1, tc_1, e1]
    simp only [gd_t]
    by_cases c : ns h = 0
    · rw [c, if_pos (show nI 0 = 0 from rfl), if_pos rfl]
      rfl
    · rw [if_neg (nI_ne0 (by omega) (by omega)), decide_eq_false (nI_ne0 (n := ns h) (by omega) (by omega)), Bool.not_false, gd_t, mod_i (by omega) ha (by omega), if_neg c]
  have s55 : ∀ z y u : Nat, f_L_step_55 (nI w) (nI a) (nI b) (nI (a % 2)) (nI z) (nI y) (nI u) h = f_L_step_73 (nI w) (nI a) (nI b) (nI (a % 2)) (nI z) (nI y) (nI u) (nI (if ns h = 0 then 0 else b % ns h)) h := fun z y u => by
    rw [e_L_step_55, ib_1, tc_1, e1]
    simp only [gd_t]
    by_cases c : ns h = 0
    · rw [c, if_pos (show nI 0 = 0 from rfl), if_pos rfl]
      rfl
    · rw [if_neg (nI_ne0 (by omega) (by omega)), decide_eq_false (nI_ne0 (n := ns h) (by omega) (by omega)), Bool.not_false, gd_t, mod_i (by omega) hb (by omega), if_neg c]
  have s73 : ∀ z y u p : Nat, f_L_step_73 (nI w) (nI a) (nI b) (nI (a % 2)) (nI z) (nI y) (nI u) (nI p) h = f_L_step_89 (nI a) (nI b) (nI (a % 2)) (nI z) (nI y) (nI u) (nI p) (nI (if nq h = 0 then 4 else w % 22)) h := fun z y u p => by
    rw [e_L_step_73, ib_0, tc_0, e0, gd_t]
    by_cases c : nq h = 0
    · rw [c, if_pos (show nI 0 = 0 from rfl), if_pos rfl]
      rfl
    · rw [if_neg (nI_ne0 (by omega) (by omega)), if_neg c, nd_22, gd_t, m_22 hw]
  have s0 : F_L_step [.ref 0, .ref 227, .int (nI w), .int (nI a), .int (nI b)] h = nxR (f_L_step_20 (nI w) (nI a) (nI b) (nI (a % 2)) (nI (if nq h = 0 then 0 else a % nq h)) h) := by
    rw [e_L_step_0, nd_2, ib_0, tc_0, e0, m_2 ha]
    simp only [gd_t]
    by_cases c : nq h = 0
    · rw [c, if_pos (show nI 0 = 0 from rfl), if_pos rfl]
      rfl
    · rw [if_neg (nI_ne0 (by omega) (by omega)), decide_eq_false (nI_ne0 (n := nq h) (by omega) (by omega)), Bool.not_false, gd_t, mod_i (by omega) ha (by omega), if_neg c]
  rw [s0, s20, s38, s55, s73]
  refine Good.nx (step89 H ha hb (by omega) ?_ ?_ ?_ ?_)
  · by_cases c : nq h = 0
    · rw [if_pos c]
      decide
    · rw [if_neg c]
      exact Nat.mod_lt _ (by decide)
  · intro c
    rw [if_pos c]
  · intro c
    rw [if_neg c, if_neg c]
    exact ⟨Nat.mod_lt _ (by omega), Nat.mod_lt _ (by omega)⟩
  · intro c
    rw [if_neg c, if_neg c]
    exact ⟨Nat.mod_lt _ (by omega), Nat.mod_lt _ (by omega)⟩
end STEP4
