theorem sim_curfew : SimV Inv F_L_curfew F_X7_curfew 3 := by
  intro as h hl hR
  match as, hl with
  | [x, y, z], _ =>
    show ∃ (k : Int32) (h1 h2 : Hp), F_L_curfew [.ref 0, .int x, .int y, .int z] h = rtn (some (.int k)) h1 ∧ F_X7_curfew [.ref 227, .int x, .int y, .int z] h1 = rtn none h2 ∧ _
    have key : ∀ g : Hp, F_X7_curfew [.ref 227, .int x, .int y, .int z] g = f_X7_curfew_37 x y z (match irg x 0 3 with | false => 1 | true => match (irg y 0 72 && irg z y 72) with | true => 0 | false => 2) g := by
      intro g
      rw [e_X7_curfew_0]
      simp only [isAirport_s, isIn_s, bI_r, e_X7_curfew_36]
      cases irg x 0 3 <;> cases irg y 0 72 <;> cases irg z y 72 <;> simp [bi]
    cases c1 : irg x 0 3 with
    | false =>
      refine ⟨1, h, wr h 227 0 1, ?_, ?_, rd_eqw, hR.quiet (Or.inl ⟨rfl, rfl⟩), Scr.refl, Scr.refl.w (by decide)⟩
      · rw [e_L_curfew_0, e_X6_curfew_0, airportAt_n c1]
        rfl
      · rw [key, c1]
        show f_X7_curfew_37 x y z 1 h = _
        rw [e_X7_curfew_37, holds_n one_ne, bI_r, if_pos rfl]
    | true =>
      obtain ⟨j, hj, rfl⟩ := irg_3 c1
      cases c2 : (irg y 0 72 && irg z y 72) with
      | false =>
        refine ⟨2, h, wr h 227 0 2, ?_, ?_, rd_eqw, hR.quiet (Or.inl ⟨rfl, rfl⟩), Scr.refl, Scr.refl.w (by decide)⟩
        · rw [e_L_curfew_0, e_X6_curfew_0, airportAt_s hj, bR_r]
          simp only [requireRange_s]
          revert c2
          cases irg y 0 72 <;> cases irg z y 72 <;> intro c2 <;> first | rfl | cases c2
        · rw [key, c1, c2]
          show f_X7_curfew_37 (nI j) y z 2 h = _
          rw [e_X7_curfew_37, holds_n two_ne, bI_r, if_pos rfl]
      | true =>
        refine ⟨0, wr (wr h (11 + 9 * j) 3 y) (11 + 9 * j) 4 z, wr (wr (wr (wr (wr h (11 + 9 * j) 3 y) (11 + 9 * j) 4 z) 227 0 0) 232 j y) 233 j z, ?_, ?_, ?_, ?_, (Scr.refl.w (by omega)).w (by omega), ((((Scr.refl.w (by omega)).w (by omega)).w (by decide)).w (by decide)).w (by decide)⟩
        · rw [e_L_curfew_0, e_X6_curfew_0, airportAt_s hj, bR_r]
          simp only [Bool.and_eq_true] at c2
          simp only [requireRange_s, c2.1, c2.2, bV_r, okc_ap j hj, gd_t]
        · rw [key, c1, c2]
          show f_X7_curfew_37 (nI j) y z 0 _ = _
          rw [e_X7_curfew_37, holds_0, bI_r, if_neg one_ne, inb_nI hj (by decide), gd_t, gd_t, nI_clamp (by omega)]
        · rw [rd_ne (by decide), rd_ne (by decide), rd_eqw]
        · refine hR.airF (((((Fr.refl.w (Or.inl ⟨by omega, by omega⟩)).w (Or.inl ⟨by omega, by omega⟩)).w (Or.inr (Or.inr (Or.inr ⟨rfl, rfl⟩)))).w (Or.inr (Or.inl ⟨by decide, by decide⟩))).w (Or.inr (Or.inl ⟨by decide, by decide⟩))) ?_ ?_
          · intro b hb
            obtain ⟨q1, q2, q3, q4, q5, q6⟩ := hR.2.2.2.2.1 b hb
            refine ⟨?_, ?_, ?_, ?_, fun d hd => ?_, fun r hr => ⟨?_, ?_, ?_⟩⟩ <;> simp only [rd_wrx]
            · repeat rw [if_neg (by omega)]
              exact q1
            · by_cases c : b = j
              · subst c
                rw [if_neg (by omega), if_neg (by omega), if_neg (by omega), if_neg (by omega), if_pos (by simp), if_neg (by omega), if_pos (by simp)]
              · repeat rw [if_neg (by omega)]
                exact q2
            · by_cases c : b = j
              · subst c
                rw [if_neg (by omega), if_neg (by omega), if_neg (by omega), if_pos (by simp), if_pos (by simp)]
              · repeat rw [if_neg (by omega)]
                exact q3
            · repeat rw [if_neg (by omega)]
              exact q4
            · repeat rw [if_neg (by omega)]
              exact q5 d hd
            · repeat rw [if_neg (by omega)]
              exact (q6 r hr).1
            · repeat rw [if_neg (by omega)]
              exact (q6 r hr).2.1
            · repeat rw [if_neg (by omega)]
              exact (q6 r hr).2.2
          · exact VA.f (VA.f (VA.f (VA.f (VA.f (h := h) hR.2.2.2.2.2.2.2.2.1 (by omega)) (by omega)) (by omega)) (by omega)) (by omega)
theorem sim_rightOf : SimI Inv F_L_rightOf F_X7_rightOf 2 := by
  intro as h hl hR
  match as, hl with
  | [x, y], _ =>
    show ∃ (k v : Int32) (h1 h2 : Hp), F_L_rightOf [.ref 0, .int x, .int y, .ref 275] h = rtn (some (.int k)) h1 ∧ F_X7_rightOf [.ref 227, .int x, .int y] h1 = rtn (some (.int v)) h2 ∧ _
    have N := hR.1
    have RR := hR.2.2.2.1
    have V := hR.2.2.2.2.2.2.2.1
    have key : ∀ g : Hp, VN g → F_X7_rightOf [.ref 227, .int x, .int y] g = f_X7_rightOf_34 x y (match ixs x (nr g) with | false => 1 | true => match irg y 0 8 with | true => 0 | false => 2) g := by
      intro g hg
      rw [e_X7_rightOf_0, hg.r.2]
      simp only [isIn_s, bI_r]
      show (if bi (ixs x (nr g)) = 0 then _ else _) = _
      cases ixs x (nr g) <;> cases irg y 0 8 <;> simp [bi]
    cases c1 : ixs x (nr h) with
    | false =>
      refine ⟨1, 0, h, wr h 227 0 1, ?_, ?_, rd_eqw, fun q => absurd q one_ne, hR.quiet (Or.inl ⟨rfl, rfl⟩), Scr.refl, Scr.refl.w (by decide)⟩
      · rw [e_L_rightOf_0, e_X6_rightOf_0, rightAt_n N V c1]
        rfl
      · rw [key h V, c1]
        show f_X7_rightOf_34 x y 1 h = _
        rw [e_X7_rightOf_34, holds_n one_ne, bI_r, if_pos rfl]
    | true =>
      obtain ⟨j, hj, rfl⟩ := ixs_t V.r.1 c1
      have h60 := V.r.1
      obtain ⟨g0, g1, g2, g3, g4, g5, g6, g7, g8⟩ := RR.g (k := j) (by omega)
      cases c2 : irg y 0 8 with
      | false =>
        refine ⟨2, 0, h, wr h 227 0 2, ?_, ?_, rd_eqw, fun q => absurd q two_ne, hR.quiet (Or.inl ⟨rfl, rfl⟩), Scr.refl, Scr.refl.w (by decide)⟩
        · have ne : ∀ i : Nat, i ≤ 8 → y ≠ Int32.ofNat i := by
            rintro i hi rfl
            have : ∀ i, i ≤ 8 → irg (Int32.ofNat i) 0 8 = true := by decide
            rw [this i hi] at c2
            cases c2
          rw [e_L_rightOf_0, e_X6_rightOf_0, rightAt_s N V hj, bR_r, if_neg (ne 0 (by decide)), if_neg (ne 1 (by decide)), if_neg (ne 2 (by decide)), if_neg (ne 3 (by decide)), if_neg (ne 4 (by decide)), if_neg (ne 5 (by decide)), if_neg (ne 6 (by decide)), if_neg (ne 7 (by decide)), if_neg (ne 8 (by decide))]
          rfl
        · rw [key h V, c1, c2]
          show f_X7_rightOf_34 (nI j) y 2 h = _
          rw [e_X7_rightOf_34, holds_n two_ne, bI_r, if_pos rfl]
      | true =>
        obtain ⟨i, hi, rfl⟩ := irg_nI (n := 8) (by decide) c2
        have hi9 : i = 0 ∨ i = 1 ∨ i = 2 ∨ i = 3 ∨ i = 4 ∨ i = 5 ∨ i = 6 ∨ i = 7 ∨ i = 8 := by omega
        have mid : ∃ v, F_X6_rightOf [.ref 0, .int (nI j), .int (nI i)] h = rtn (some (.int v)) h ∧ ∀ w, f_X7_rightOf_34 (nI j) (nI i) 0 (wrL h 0 w) = rtn (some (.int v)) (hq h w 0) := by
          rw [e_X6_rightOf_0, rightAt_s N V hj, bR_r, (okc_rt j (by omega)).1]
          have em : ∀ w, f_X7_rightOf_34 (nI j) (nI i) 0 (wrL h 0 w) = f_X7_rightOf_34 (nI j) (nI i) 0 (wrL h 0 w) := fun _ => rfl
          simp only [gd_t, g0, g1, g2, g3, g4, g5, g6, g7, g8, e_X7_rightOf_34, holds_0, bI_r, inb_nI (j := j) (n := 60) (by omega) (by decide), nI_clamp (n := j) (by omega)]
          have er : ∀ w A, A ≠ 227 → rd (wr (wrL h 0 w) 227 0 0) A j = rd h A j := fun w A hA => hq_rd hA
          simp only [er _ _ (show 236 ≠ 227 by decide), er _ _ (show 237 ≠ 227 by decide), er _ _ (show 238 ≠ 227 by decide), er _ _ (show 239 ≠ 227 by decide), er _ _ (show 240 ≠ 227 by decide), er _ _ (show 241 ≠ 227 by decide), er _ _ (show 242 ≠ 227 by decide), er _ _ (show 243 ≠ 227 by decide), er _ _ (show 244 ≠ 227 by decide)]
          rcases hi9 with rfl | rfl | rfl | rfl | rfl | rfl | rfl | rfl | rfl
          · exact ⟨_, rfl, fun _ => rfl⟩
          · exact ⟨_, rfl, fun _ => rfl⟩
          · exact ⟨_, rfl, fun _ => rfl⟩
          · exact ⟨_, rfl, fun _ => rfl⟩
          · exact ⟨_, rfl, fun _ => rfl⟩
          · exact ⟨_, rfl, fun _ => rfl⟩
          · exact ⟨_, rfl, fun _ => rfl⟩
          · exact ⟨_, rfl, fun _ => rfl⟩
          · exact ⟨_, rfl, fun _ => rfl⟩
        obtain ⟨v, m1, m2⟩ := mid
        refine ⟨0, v, wrL h 0 (Int32.toInt64 v), hq h (Int32.toInt64 v) 0, ?_, ?_, hq_w, fun _ => hq_o, hq_inv hR, Scr.refl.l, hq_scr⟩
        · rw [e_L_rightOf_0, m1, bI_r]
          rfl
        · rw [key (wrL h 0 (Int32.toInt64 v)) V, show nr (wrL h 0 (Int32.toInt64 v)) = nr h from rfl, c1, c2]
          exact m2 _
