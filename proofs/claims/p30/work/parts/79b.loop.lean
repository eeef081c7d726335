/-! the law's loop over its steps -/
section LOOP
variable {h g : Hp} {k L S t : Nat} {x : Int32}
theorem draw_s (e : rd h SCRB 0 = nI L) (hL : L ≤ 260) (hk : k < L) : ∃ z : Nat, z < 2 ^ 31 ∧ F_L_draw [.ref 1000, .int (nI k)] h = rtn (some (.int (nI z))) h := by
  obtain ⟨z, hz, ez⟩ := pk_andE (rd h SCRA k) (m := 2147483647) 31 (by decide)
  refine ⟨z, hz, ?_⟩
  rw [e_L_draw_0, e, nI_clamp (n := L) (by omega), if_pos (show nI k < Int32.ofNat L from nI_lt (b := L) hk (by omega)), inb_nI hk (by omega), gd_t, nI_clamp (n := k) (by omega), ez]
theorem law132 {n : Nat} (H : J h) : f_L_law_132 (n + 10) 1 h = some (.inl (some (.int 1), h)) := by
  refine e_L_law_132 ?_
  rw [if_neg one_ne, areOrdered_s H.1 H.2.1, bI_r, if_neg one_ne]
  rfl
theorem law_turns (hL : L ≤ 260) (hS : 3 * S ≤ L) : ∀ (m t : Nat) (h : Hp), t + m = S → J h → rd h SCRB 0 = nI L → ∃ g, f_L_law_81 (30 * m + 40) 1 (nI S) (nI t) h = some (.inl (some (.int 1), g))
  | 0, t, h, e, H, hs => by
    refine ⟨h, e_L_law_81 (n := 10) ?_⟩
    rw [if_neg (nI_nlt (by omega) (by omega))]
    exact law132 (n := 0) H
  | m + 1, t, h, e, H, hs => by
    obtain ⟨z1, y1, d1⟩ := draw_s (k := 3 * t) hs hL (by omega)
    obtain ⟨z2, y2, d2⟩ := draw_s (k := 3 * t + 1) hs hL (by omega)
    obtain ⟨z3, y3, d3⟩ := draw_s (k := 3 * t + 2) hs hL (by omega)
    obtain ⟨g1, s1, s2, s3⟩ := step_s H y1 y2 y3
    obtain ⟨g, q⟩ := law_turns hL hS m (t + 1) g1 (by omega) s2 (by rw [s3.2]; exact hs)
    refine ⟨g, ?_⟩
    have e3 : (3 : Int32) * nI t = nI (3 * t) := pk_mul 3 t
    have e4 : nI (3 * t) + (2 : Int32) = nI (3 * t + 2) := nI_add (3 * t) 2
    rw [show 30 * (m + 1) + 40 = (30 * m + 40) + 30 by omega]
    refine e_L_law_81 ?_
    rw [if_pos (nI_lt (by omega) (by omega)), if_neg one_ne, e3, d1, bI_r, nI_1, d2, bI_r, e4, d3, bI_r, s1, bI_r, nI_1]
    exact q
theorem pure_of (hL : L ≤ 260) (H : J h) (hs : rd h SCRB 0 = nI L) (n0 : nq h = 0) (n1 : ns h = 0) (n2 : nr h = 0) (n3 : sn h = 0) : ∃ (n : Nat) (g : Hp), n ≤ 100000 ∧ f_L_law_13 n h = some (.inl (some (.int 1), g)) := by
  have V := H.1.1.1
  have k57 : ∃ (n : Nat) (g : Hp), n ≤ 9000 ∧ f_L_law_57 n 1 h = some (.inl (some (.int 1), g)) := by
    have go : ∀ S : Nat, 3 * S ≤ L → ∃ (n : Nat) (g : Hp), n ≤ 8900 ∧ f_L_law_76 n 1 (nI S) h = some (.inl (some (.int 1), g)) := by
      intro S hS
      obtain ⟨g, q⟩ := law_turns hL hS S 0 h (by omega) H hs
      exact ⟨(30 * S + 40) + 3, g, by omega, e_L_law_76 q⟩
    by_cases c : 80 < L / 3
    · obtain ⟨n, g, q1, q2⟩ := go 80 (by omega)
      refine ⟨n + 11, g, by omega, e_L_law_57 ?_⟩
      rw [hs, nI_clamp (n := L) (by omega), nd_3, gd_t, show Int32.ofNat L / 3 = nI (L / 3) from d_3 (a := L) (by omega), if_pos (show (80 : Int32) < nI (L / 3) from nI_lt (a := 80) c (by omega))]
      exact q2
    · obtain ⟨n, g, q1, q2⟩ := go (L / 3) (by omega)
      refine ⟨n + 11, g, by omega, e_L_law_57 ?_⟩
      rw [hs, nI_clamp (n := L) (by omega), nd_3, gd_t, gd_t, show Int32.ofNat L / 3 = nI (L / 3) from d_3 (a := L) (by omega), if_neg (show ¬ (80 : Int32) < nI (L / 3) from nI_nlt (a := 80) (by omega) (by decide))]
      exact q2
  obtain ⟨n, g, q1, q2⟩ := k57
  refine ⟨n + 21, g, by omega, e_L_law_13 ?_⟩
  have nw : F_X6_isNew [.ref 0, .int 3, .int 3] h = rtn (some (.int 1)) h := by
    have a3 : F_X6_airportAt [.ref 0, .int 3] h = rtn (some (.ref 38)) h := airportAt_s (j := 3) (by decide)
    have g3 : F_X6_groupAt [.ref 0, .int 3] h = rtn (some (.int (rd h 2 3))) h := groupAt_s (j := 3) (by decide)
    rw [e_X6_isNew_0, g3, bI_r, a3, bR_r, e_X6_isGroupNew_0, e_X6_isGroupNew_5, V.r.2, n2, if_neg (show ¬ (0 : Int32) < nI 0 by decide), e_X6_isGroupNew_56, V.s.2, n1, if_neg (show ¬ (0 : Int32) < nI 0 by decide), if_pos (by decide), bI_r]
    rfl
  have nz : F_X6_noise [.ref 0, .int 2] h = rtn (some (.int 0)) h := by
    have z := noise_s (j := 2) V H.1.1.2.2.1 (by decide)
    rw [n1] at z
    exact z
  rw [e_X6_season_0, bI_r, V.n.2, n3, if_pos (show nI 0 = 0 from rfl), e_X6_rights_0, bI_r, V.r.2, n2, if_pos (show nI 0 = 0 from rfl), count_0 V, bI_r, n0, if_pos (show nI 0 = 0 from rfl), nw, bI_r, if_neg one_ne, nz, bI_r, if_pos rfl]
  exact q2
end LOOP
