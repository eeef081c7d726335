section STEP3
variable {h g : Hp} {i j k n m a b r c s v t f l q w d o : Nat} {x x1 x2 x3 x4 x5 x6 x7 x8 x9 : Int32}
theorem lt32 {z N : Nat} (hz : z < N) (hN : N ≤ 400) : z < 2 ^ 31 := by omega
/-- curfews and quotas -/
theorem stepC2 (H : J h) (hj : j < 2) (hb : b < 2 ^ 31) : Good (bV (F_X6_curfew [.ref 0, .int (nI j), .int (nI (b % 30)), .int (nI (b % 30 + b / 30 % 9))] h) (fun h43 => bI (F_X6_quota [.ref 0, .int (nI j), .int (nI (20 + b % 400))] h43) (fun v45 h44 => if v45 < 0 then rtn (some (.int 0)) h44 else bI (F_X6_quota [.ref 0, .int (nI j), .int (nI (20 + b % 400))] h44) (fun v47 h46 => if v47 = nI (20 + b % 400) then rtn (some (.int 1)) h46 else rtn (some (.int 0)) h46) (hnk [])) (hnk [])) (hnk [])) h := by
  obtain ⟨g1, q1, q2, q3⟩ := curfew_s (j := j) (x2 := nI (b % 30)) (x3 := nI (b % 30 + b / 30 % 9)) H.1 (by omega) (nI_irg (n := 72) (by omega) (by decide)) (irg_i (nI_nlt (by omega) (by omega)) (nI_nlt (b := b % 30 + b / 30 % 9) (a := 72) (by omega) (by decide)))
  obtain ⟨H1, S1⟩ := H.airs q2 (q3.up fun a k z => ⟨by have := z.1; omega, by have := z.1; omega⟩) (fun b h1 h2 _ => q3 _ _ (by omega))
  obtain ⟨g2, r1, r2, r3, r4⟩ := quota_s (j := j) (x2 := nI (20 + b % 400)) H1.1 (by omega) (nI_irg (n := 9999) (by omega) (by decide))
  obtain ⟨H2, S2⟩ := H1.airs r2 (r3.up fun a k z => ⟨by have := z.1; omega, by have := z.1; omega⟩) (fun b h1 h2 _ => r3 _ _ (by omega))
  obtain ⟨g3, p1, p2, p3, p4⟩ := quota_s (j := j) (x2 := nI (20 + b % 400)) H2.1 (by omega) (nI_irg (n := 9999) (by omega) (by decide))
  obtain ⟨H3, S3⟩ := H2.airs p2 (p3.up fun a k z => ⟨by have := z.1; omega, by have := z.1; omega⟩) (fun b h1 h2 _ => p3 _ _ (by omega))
  obtain ⟨m, -, -, hq, -⟩ := H1.1.1.2.1 j (by omega)
  rw [q1, bV_r, r1, bI_r, if_neg hq, p1, bI_r, r4, if_pos rfl]
  exact Good.of H3 (S1.trans (S2.trans S3))
theorem J.grps (H : J h) (Ig : Inv g) (F : Fr (fun b _ => b = 2) h g) : J g ∧ Scr h g := ⟨⟨Ig, H.2.F (fun k => F _ _ (by omega)) (fun k _ _ => F _ _ (by omega)) fun a h1 h2 _ => F _ _ (by omega)⟩, F.scr fun b k z => by omega⟩
/-- groups -/
theorem acts_6 : F_L_acts [.ref 0, .int x1, .int x2, .int x3, .int 6] h = bI (F_X6_merge [.ref 0, .int x1, .int x2] h) (fun v g => rtn (some (.int v)) g) (hnk hn_L_acts) := by
  rw [e_L_acts_0, if_neg (by decide), if_neg (by decide), if_neg (by decide), if_neg (by decide), if_neg (by decide), if_neg (by decide), if_pos rfl]
theorem stepC3 (H : J h) (hc : c < 10) (hd : d < 10) : Good (bI (F_L_acts [.ref 0, .int (nI c), .int (nI d), .int 0, .int 6] h) (fun v40 h39 => if v40 < 0 then rtn (some (.int 1)) h39 else bI (F_L_acts [.ref 0, .int (nI d), .int (nI c), .int 0, .int 6] h39) (fun v42 h41 => if v42 = (-200) then rtn (some (.int 1)) h41 else rtn (some (.int 0)) h41) (hnk [])) (hnk [])) h := by
  rw [acts_6]
  rcases merge_s H.1 hc hd with ⟨q1, q2⟩ | ⟨v, g, q1, q2, q3, q4⟩
  · rw [q2, bI_t, hnk_acts, bI_r, if_pos (by decide)]
    exact Good.of H Scr.refl
  · obtain ⟨H2, S2⟩ := H.grps q2 q3
    rw [q1, bI_r, bI_r, acts_6, merge_n hc hd q4, bI_t, hnk_acts, bI_r, if_pos rfl, ite_self]
    exact Good.of H2 S2
theorem J.lnk (H : J h) (Ig : Inv g) (F : Fr (fun a k => 47 ≤ a ∧ a < 107 ∧ k = 13) h g) : J g ∧ Scr h g := ⟨⟨Ig, H.2.F (fun k => F _ _ (by omega)) (fun k _ _ => F _ _ (by omega)) fun a h1 h2 _ => F _ _ (by omega)⟩, F.scr fun b k z => by omega⟩
/-- links -/
theorem stepC9 (H : J h) (hi : i < nq h) (hj : j < nq h) : Good (bI (F_L_links [.ref 0, .int (nI i), .int (nI j)] h) (fun v32 h31 => if v32 = 0 then rtn (some (.int 1)) h31 else bI (F_X6_requestOf [.ref 0, .int (nI i), .int 4] h31) (fun v34 h33 => if v34 = nI j then bI (F_X6_requestOf [.ref 0, .int (nI j), .int 4] h33) (fun v36 h35 => if v36 = nI i then bI (F_L_links [.ref 0, .int (nI i), .int (nI j)] h35) (fun v38 h37 => if v38 = 0 then rtn (some (.int 1)) h37 else rtn (some (.int 0)) h37) (hnk []) else rtn (some (.int 0)) h35) (hnk []) else rtn (some (.int 0)) h33) (hnk [])) (hnk [])) h := by
  have h60 := H.1.1.1.q.1
  rw [links_e]
  rcases link_s H.1 hi hj with ⟨E, q1, q2⟩ | ⟨g, q1, q2, q3, q4, q5⟩
  · rw [q1, bV_t, (hnk_lk q2).1, bI_r, if_pos rfl]
    exact Good.of H Scr.refl
  · obtain ⟨H2, S2⟩ := H.lnk q2 q3
    have V := q2.1.1
    have em : nq g = nq h := by unfold nq; rw [q3 _ _ (by omega)]
    obtain ⟨E, r1, r2⟩ := link_n (i := i) (j := j) V (by omega) (by omega) (by rw [q4]; exact nI_m1 (by omega))
    rw [q1, bV_r, bI_r, if_neg one_ne, reqOf_4 V (by omega), bI_r, q4, if_pos rfl, reqOf_4 V (by omega), bI_r, q5, if_pos rfl, links_e, r1, bV_t, (hnk_lk r2).1, bI_r, if_pos rfl]
    exact Good.of H2 S2
/-- swaps -/
theorem stepC15 (H : J h) (hi : i < ns h) (hj : j < ns h) : Good (f_L_step_574 (nI i) (nI j) (rd h (107 + i) 8) (rd h (107 + j) 9) h) h := by
  have h61 := H.1.1.1.s.1
  have V := H.1.1.1
  rw [e_L_step_574, ib_1, tc_1, H.2.2.1, V.s.2, gd_t, if_neg (nI_ne0 (by omega) (by omega)), swaps_e]
  rcases swap_s H.1 hi hj with ⟨E, q1, q2⟩ | ⟨g, q1, q2, q3, q4, q5⟩
  · rw [q1, bV_t, (hnk_lk q2).2, bI_r, if_pos rfl]
    exact Good.of H Scr.refl
  · obtain ⟨H2, S2⟩ := H.srs q2 q3
    have Vg := q2.1.1
    have en : ns g = ns h := by unfold ns; rw [q3 _ _ (by unfold PS; omega)]
    have e0 : F_X6_seriesOf [.ref 0, .int (nI j), .int 0] g = rtn (some (.int (rd h (107 + i) 8))) g := (serOf_s Vg (show j < ns g by omega) 0 (by decide)).trans (by rw [show nthN [8, 9, 0, 1, 2, 3, 4, 5, 7, 0, 11] 0 = 8 from rfl, q4])
    have e1 : F_X6_seriesOf [.ref 0, .int (nI i), .int 1] g = rtn (some (.int (rd h (107 + j) 9))) g := (serOf_s Vg (show i < ns g by omega) 1 (by decide)).trans (by rw [show nthN [8, 9, 0, 1, 2, 3, 4, 5, 7, 0, 11] 1 = 9 from rfl, q5])
    rw [q1, bV_r, bI_r, if_neg one_ne, e0, bI_r, if_pos rfl, e1, bI_r, if_pos rfl]
    exact Good.of H2 S2
/-- leases -/
theorem stepC16 (H : J h) (hi : i < ns h) (hb : b < 2 ^ 31) : Good (bI (F_L_acts [.ref 0, .int (nI i), .int (nI (b % 10)), .int 0, .int 4] h) (fun v24 h23 => f_L_step_648 (nI b) (nI i) v24 h23) (hnk [])) h := by
  rw [e_L_acts_0, if_neg (by decide), if_neg (by decide), if_neg (by decide), if_neg (by decide), if_pos rfl]
  rcases lease_s (c := b % 10) H.1 hi (by omega) with q1 | ⟨v, g, q0, q1, q2, q3, q4⟩
  · rw [q1, bI_t, hnk_acts, bI_r, e_L_step_648, if_pos (by decide)]
    exact Good.of H Scr.refl
  · obtain ⟨H2, S2⟩ := H.srs q2 q3
    have Vg := q2.1.1
    have en : ns g = ns h := by unfold ns; rw [q3 _ _ (by unfold PS; omega)]
    have e1 : F_X6_seriesOf [.ref 0, .int (nI i), .int 1] g = rtn (some (.int (nI (b % 10)))) g := (serOf_s Vg (show i < ns g by omega) 1 (by decide)).trans (by rw [show nthN [8, 9, 0, 1, 2, 3, 4, 5, 7, 0, 11] 1 = 9 from rfl, q4])
    rw [q1, bI_r, bI_r, e_L_step_648, if_neg (nI_pos (by omega)), if_pos (show nI v < 10 from nI_lt (b := 10) q0 (by decide)), e1, bI_r, nd_10, gd_t, m_10 hb, if_pos rfl]
    exact Good.of H2 S2
theorem stepC17 (H : J h) (hi : ns h ≠ 0 → i < ns h) (hb : b < 2 ^ 31) : Good (f_L_step_683 (nI b) (nI i) h) h := by
  have h61 := H.1.1.1.s.1
  rw [e_L_step_683, ib_1, tc_1, H.2.2.1, H.1.1.1.s.2, gd_t]
  by_cases c : ns h = 0
  · rw [c, if_pos (show nI 0 = 0 from rfl)]
    exact Good.of H Scr.refl
  · obtain ⟨g, q1, q2⟩ := isFlown_s H (hi c) hb
    rw [if_neg (nI_ne0 (by omega) (by omega)), q1, bI_r, if_neg one_ne]
    exact ⟨g, rfl, q2⟩
/-- closed days -/
theorem stepC19 (H : J h) (hj : j < 2) (hd : d < 7) (hw : w < 20) : Good (bI (F_X6_close [.ref 0, .int (nI j), .int (nI d), .int (nI w)] h) (fun v20 h19 => if v20 = 0 then rtn (some (.int 1)) h19 else bI (F_X6_close [.ref 0, .int (nI j), .int (nI d), .int (nI w)] h19) (fun v22 h21 => if v22 = 0 then rtn (some (.int 1)) h21 else rtn (some (.int 0)) h21) (hnk [])) (hnk [])) h := by
  obtain ⟨b1, g1, q1, q2, q3, q4, q5⟩ := close_s H.1 (show j < 4 by omega) hd hw
  obtain ⟨H1, S1⟩ := H.airs q3 (q4.up fun a k z => ⟨by have := z.1; omega, by have := z.1; omega⟩) (fun b h1 h2 h3 => q4 _ _ (by omega))
  obtain ⟨b2, g2, r1, r2, r3, r4, r5⟩ := close_s H1.1 (show j < 4 by omega) hd hw
  obtain ⟨H2, S2⟩ := H1.airs r3 (r4.up fun a k z => ⟨by have := z.1; omega, by have := z.1; omega⟩) (fun b h1 h2 h3 => r4 _ _ (by omega))
  rw [q1, bI_r]
  cases b1 with
  | false =>
    rw [bi_f, if_pos rfl]
    exact Good.of H1 S1
  | true =>
    rw [bi_t, if_neg one_ne, r1, bI_r, r2, q5, Bool.not_true, bi_f, if_pos rfl]
    exact Good.of H2 (S1.trans S2)
/-- loads -/
theorem load_k (V : VN h) (S : VS h) : cnt (ldB x1 2 x3 x4 x5 x6 h) (ns h) = cnt (ldB x1 0 x3 x4 x5 x6 h) (ns h) + cnt (ldB x1 1 x3 x4 x5 x6 h) (ns h) := by
  refine cnt_two (ns h) fun i hi => ?_
  obtain ⟨k, hk, ek⟩ := irg_nI (n := 1) (by decide) (S i hi).1.2.1
  unfold ldB cB
  rw [ek]
  have hk2 : k = 0 ∨ k = 1 := by omega
  generalize decide (rd h (107 + i) 12 = 0) = c1
  generalize decide (rd h (107 + i) 0 = x1) = c2
  generalize decide (rd h (107 + i) 2 = x3) = c3
  generalize irg (rd h (107 + i) 3) x5 x6 = c4
  generalize irg x4 (rd h (107 + i) 4) (rd h (107 + i) 5) = c5
  rcases hk2 with rfl | rfl <;> cases c1 <;> cases c2 <;> cases c3 <;> cases c4 <;> cases c5 <;> decide
theorem load_t (V : VN h) (S : VS h) : cnt (ldB x1 2 x3 x4 0 71 h) (ns h) = cnt (ldB x1 2 x3 x4 0 30 h) (ns h) + cnt (ldB x1 2 x3 x4 31 71 h) (ns h) := by
  refine cnt_two (ns h) fun i hi => ?_
  obtain ⟨t, ht, et⟩ := irg_nI (n := 71) (by decide) (S i hi).1.2.2.2.1
  have e0 : irg (nI t) 0 71 = true := nI_irg (n := 71) ht (by decide)
  have e1 : irg (nI t) 0 30 = decide (t ≤ 30) := by
    unfold irg
    rw [decide_eq_false (nI_pos (by omega))]
    by_cases c : t ≤ 30
    · rw [decide_eq_true c, decide_eq_false (show ¬ (30 : Int32) < nI t from nI_nlt (b := t) (a := 30) (by omega) (by decide))]
      rfl
    · rw [decide_eq_false c, decide_eq_true (show (30 : Int32) < nI t from nI_lt (a := 30) (by omega) (by omega))]
      rfl
  have e2 : irg (nI t) 31 71 = !decide (t ≤ 30) := by
    unfold irg
    rw [decide_eq_false (show ¬ (71 : Int32) < nI t from nI_nlt (b := t) (a := 71) (by omega) (by decide))]
    by_cases c : t ≤ 30
    · rw [decide_eq_true c, decide_eq_true (show nI t < (31 : Int32) from nI_lt (b := 31) (by omega) (by decide))]
      rfl
    · rw [decide_eq_false c, decide_eq_false (show ¬ nI t < (31 : Int32) from nI_nlt (b := 31) (by omega) (by omega))]
      rfl
  unfold ldB cB
  rw [et, e0, e1, e2]
  generalize decide (rd h (107 + i) 12 = 0) = c1
  generalize decide (rd h (107 + i) 0 = x1) = c2
  generalize decide (rd h (107 + i) 2 = x3) = c3
  generalize decide (rd h (107 + i) 1 = 2) = c4
  generalize irg x4 (rd h (107 + i) 4) (rd h (107 + i) 5) = c5
  generalize decide (t ≤ 30) = c6
  cases c1 <;> cases c2 <;> cases c3 <;> cases c4 <;> cases c5 <;> cases c6 <;> decide
theorem stepC21 (H : J h) (hc : c < 10) (hj : j < 2) (hd : d < 7) (hw : w < 20) : Good (bI (F_X6_isNew [.ref 0, .int (nI c), .int (nI j)] h) (fun v2 h1 => bI (F_X6_isNew [.ref 0, .int (nI c), .int (nI j)] h1) (fun v4 h3 => if v2 = v4 then bI (F_X6_load [.ref 0, .int (nI j), .int 2, .int (nI d), .int (nI w), .int 0, .int 71] h3) (fun v6 h5 => bI (F_X6_load [.ref 0, .int (nI j), .int 0, .int (nI d), .int (nI w), .int 0, .int 71] h5) (fun v8 h7 => bI (F_X6_load [.ref 0, .int (nI j), .int 1, .int (nI d), .int (nI w), .int 0, .int 71] h7) (fun v10 h9 => if v6 = (v8 + v10) then bI (F_X6_load [.ref 0, .int (nI j), .int 2, .int (nI d), .int (nI w), .int 0, .int 30] h9) (fun v12 h11 => bI (F_X6_load [.ref 0, .int (nI j), .int 2, .int (nI d), .int (nI w), .int 31, .int 71] h11) (fun v14 h13 => bI (F_X6_load [.ref 0, .int (nI j), .int 2, .int (nI d), .int (nI w), .int 0, .int 71] h13) (fun v16 h15 => if (v12 + v14) = v16 then rtn (some (.int 1)) h15 else rtn (some (.int 0)) h15) (hnk [])) (hnk [])) (hnk []) else rtn (some (.int 0)) h9) (hnk [])) (hnk [])) (hnk []) else rtn (some (.int 0)) h3) (hnk [])) (hnk [])) h := by
  obtain ⟨⟨V, VA, S, X, Q, T, R, U⟩, P⟩ := id H.1
  have c3 : irg (nI d) 0 6 = true := nI_irg (n := 6) (by omega) (by decide)
  have c4 : irg (nI w) 0 19 = true := nI_irg (n := 19) (by omega) (by decide)
  have L : ∀ x2 x5 x6 : Int32, irg x2 0 2 = true → irg x5 0 71 = true → irg x6 x5 71 = true → F_X6_load [.ref 0, .int (nI j), .int x2, .int (nI d), .int (nI w), .int x5, .int x6] h = rtn (some (.int (nI (cnt (ldB (nI j) x2 (nI d) (nI w) x5 x6 h) (ns h))))) h := fun x2 x5 x6 k2 k5 k6 => load_s V (by omega) k2 c3 c4 k5 k6
  rw [isNew_s V S R hc (show j < 4 by omega), bI_r, isNew_s V S R hc (show j < 4 by omega), bI_r, if_pos rfl, L 2 0 71 (by decide) (by decide) (by decide), bI_r, L 0 0 71 (by decide) (by decide) (by decide), bI_r, L 1 0 71 (by decide) (by decide) (by decide), bI_r, nI_add, ← load_k V S, if_pos rfl, L 2 0 30 (by decide) (by decide) (by decide), bI_r, L 2 31 71 (by decide) (by decide) (by decide), bI_r, L 2 0 71 (by decide) (by decide) (by decide), bI_r, nI_add, ← load_t V S, if_pos rfl]
  exact Good.of H Scr.refl
end STEP3
