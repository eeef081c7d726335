theorem sim_declare : SimI Inv F_L_declare F_X7_declare 4 := by
  intro as h hl hR
  match as, hl with
  | [x, y, z, u], _ =>
    show ∃ (k v : Int32) (h1 h2 : Hp), F_L_declare [.ref 0, .int x, .int y, .int z, .int u, .ref 275] h = rtn (some (.int k)) h1 ∧ F_X7_declare [.ref 227, .int x, .int y, .int z, .int u] h1 = rtn (some (.int v)) h2 ∧ _
    have A := hR.2.2.2.2.1
    have hVA := hR.2.2.2.2.2.2.2.2.1
    have key : ∀ g : Hp, F_X7_declare [.ref 227, .int x, .int y, .int z, .int u] g = f_X7_declare_41 x y z u (bi (irg x 0 3)) (bi (irg y 0 2 && irg z 1 6 && irg u 0 20)) g := by
      intro g
      rw [e_X7_declare_0]
      simp only [isAirport_s, isIn_s, bI_r, e_X7_declare_40]
      cases irg y 0 2 <;> cases irg z 1 6 <;> cases irg u 0 20 <;> simp [bi]
    cases c1 : irg x 0 3 with
    | false =>
      refine ⟨1, 0, h, wr h 227 0 1, ?_, ?_, rd_eqw, fun q => absurd q one_ne, hR.quiet (Or.inl ⟨rfl, rfl⟩), Scr.refl, Scr.refl.w (by decide)⟩
      · rw [e_L_declare_0, e_X6_declare_0, airportAt_n c1]
        rfl
      · rw [key, c1, bi_f, e_X7_declare_41, if_pos rfl, e_X7_declare_78, holds_n one_ne, bI_r, if_pos rfl]
    | true =>
      obtain ⟨j, hj, rfl⟩ := irg_3 c1
      cases c2 : (irg y 0 2 && irg z 1 6 && irg u 0 20) with
      | false =>
        refine ⟨2, 0, h, wr h 227 0 2, ?_, ?_, rd_eqw, fun q => absurd q two_ne, hR.quiet (Or.inl ⟨rfl, rfl⟩), Scr.refl, Scr.refl.w (by decide)⟩
        · rw [e_L_declare_0, e_X6_declare_0, airportAt_s hj, bR_r]
          simp only [kindOr_s, requireRange_s]
          revert c2
          cases irg y 0 2 <;> cases irg z 1 6 <;> cases irg u 0 20 <;> intro c2 <;> first | rfl | cases c2
        · rw [key, c1, bi_t, c2, bi_f, e_X7_declare_41, if_neg one_ne, if_pos rfl, e_X7_declare_78, holds_n two_ne, bI_r, if_pos rfl]
      | true =>
        obtain ⟨m, hm, e1, e2⟩ := hVA j hj
        obtain ⟨a1, a2, a3, a4, a5, a6⟩ := A j hj
        have e3 : rd h (11 + 9 * j) 2 = nI m := a1.trans e1
        have c2' := c2
        simp only [Bool.and_eq_true] at c2'
        by_cases c3 : m = 6
        · subst c3
          refine ⟨3, 0, h, wr h 227 0 3, ?_, ?_, rd_eqw, fun q => absurd q three_ne, hR.quiet (Or.inl ⟨rfl, rfl⟩), Scr.refl, Scr.refl.w (by decide)⟩
          · rw [e_L_declare_0, e_X6_declare_0, airportAt_s hj, bR_r]
            simp only [kindOr_s, requireRange_s, c2'.1.1, c2'.1.2, c2'.2, bV_r, okc_ap j hj, gd_t, e3]
            rw [if_neg (show ¬ nI 6 < 6 by decide)]
            rfl
          · rw [key, c1, bi_t, c2, bi_t, e_X7_declare_41, if_neg one_ne, if_neg one_ne, inb_nI hj (by decide), gd_t, nI_clamp (by omega), e1, if_pos (show nI 6 = 6 from rfl), e_X7_declare_78, holds_n three_ne, bI_r, if_pos rfl]
        · have hm6 : m < 6 := by omega
          generalize hB : 14 + 9 * j + m = B
          generalize hK : 6 * j + m = K
          have hc : F_X6_declare [.ref 0, .int (nI j), .int y, .int z, .int u] h = rtn (some (.int (nI m))) (wr (wr (wr (wr h (11 + 9 * j) 2 (nI (m + 1))) B 0 y) B 1 z) B 2 u) := by
            rw [e_X6_declare_0, airportAt_s hj, bR_r]
            simp only [kindOr_s, requireRange_s, c2'.1.1, c2'.1.2, c2'.2, bV_r, okc_ap j hj, gd_t, e3]
            rw [if_pos (show nI m < 6 from nI_lt (b := 6) hm6 (by decide)), nI_1, ruleAt_s hj (h := wr h (11 + 9 * j) 2 (nI (m + 1))) (m := m + 1) rd_eqw (by omega) (Nat.lt_succ_self m), bR_r, (rul_b j hj m hm6).2, hB]
            rfl
          refine ⟨0, nI m, wrL (wr (wr (wr (wr h (11 + 9 * j) 2 (nI (m + 1))) B 0 y) B 1 z) B 2 u) 0 (Int32.toInt64 (nI m)), wr (wr (wr (wr (wr (wrL (wr (wr (wr (wr h (11 + 9 * j) 2 (nI (m + 1))) B 0 y) B 1 z) B 2 u) 0 (Int32.toInt64 (nI m))) 227 0 0) 229 K y) 230 K z) 231 K u) 228 j (nI (m + 1)), ?_, ?_, ?_, fun _ => rfl, ?_, ?_, ?_⟩
          · rw [e_L_declare_0, hc, bI_r]
            rfl
          · have e1' : rd (wr (wrL (wr (wr (wr (wr h (11 + 9 * j) 2 (nI (m + 1))) B 0 y) B 1 z) B 2 u) 0 (Int32.toInt64 (nI m))) 227 0 0) 228 j = nI m := by
              rw [rd_ne (by decide), rd_wrLx, rd_ne (by omega), rd_ne (by omega), rd_ne (by omega), rd_ne (by omega)]
              exact e1
            have e1'' : rd (wrL (wr (wr (wr (wr h (11 + 9 * j) 2 (nI (m + 1))) B 0 y) B 1 z) B 2 u) 0 (Int32.toInt64 (nI m))) 228 j = nI m := by
              rw [rd_wrLx, rd_ne (by omega), rd_ne (by omega), rd_ne (by omega), rd_ne (by omega)]
              exact e1
            rw [key, c1, bi_t, c2, bi_t, e_X7_declare_41, if_neg one_ne, if_neg one_ne, inb_nI hj (by decide), gd_t, nI_clamp (by omega), e1'', if_neg (show ¬ nI m = 6 from fun q => c3 ((nI_eq (a := m) (b := 6) (by omega) (by decide)).mp q)), e_X7_declare_78, holds_0, bI_r, if_neg one_ne, inb_nI hj (by decide), nI_clamp (n := j) (by omega), e1', rul_i j hj m hm6, hK, inb_nI (j := K) (n := 24) (by omega) (by decide), nI_clamp (n := K) (by omega), nI_1, rd_eqw, nI_pred]
            rfl
          · rw [rd_ne (by decide), rd_ne (by decide), rd_ne (by decide), rd_ne (by decide), rd_eqw]
          · refine hR.airF ((((((((((Fr.refl.w (Or.inl ⟨by omega, by omega⟩)).w (Or.inl ⟨by omega, by omega⟩)).w (Or.inl ⟨by omega, by omega⟩)).w (Or.inl ⟨by omega, by omega⟩)).l).w (Or.inr (Or.inr (Or.inr ⟨rfl, rfl⟩)))).w (Or.inr (Or.inl ⟨by decide, by decide⟩))).w (Or.inr (Or.inl ⟨by decide, by decide⟩))).w (Or.inr (Or.inl ⟨by decide, by decide⟩))).w (Or.inr (Or.inl ⟨by decide, by decide⟩))) ?_ ?_
            · intro b hb
              obtain ⟨q1, q2, q3, q4, q5, q6⟩ := hR.2.2.2.2.1 b hb
              refine ⟨?_, ?_, ?_, ?_, fun d hd => ?_, fun s hs => ⟨?_, ?_, ?_⟩⟩ <;> simp only [rd_wrx, rd_wrLx]
              · by_cases c : b = j
                · subst c
                  rw [if_neg (by omega), if_neg (by omega), if_neg (by omega), if_neg (by omega), if_neg (by omega), if_neg (by omega), if_neg (by omega), if_neg (by omega), if_pos (by simp), if_pos (by simp)]
                · repeat rw [if_neg (by omega)]
                  exact q1
              · repeat rw [if_neg (by omega)]
                exact q2
              · repeat rw [if_neg (by omega)]
                exact q3
              · repeat rw [if_neg (by omega)]
                exact q4
              · repeat rw [if_neg (by omega)]
                exact q5 d hd
              · by_cases c : b = j ∧ s = m
                · obtain ⟨rfl, rfl⟩ := c
                  rw [if_neg (by omega), if_neg (by omega), if_neg (by omega), if_neg (by omega), if_neg (by omega), if_neg (by omega), if_neg (by omega), if_pos (by simp; omega), if_neg (by omega), if_neg (by omega), if_neg (by omega), if_pos (by simp; omega)]
                · repeat rw [if_neg (by omega)]
                  exact (q6 s hs).1
              · by_cases c : b = j ∧ s = m
                · obtain ⟨rfl, rfl⟩ := c
                  rw [if_neg (by omega), if_neg (by omega), if_neg (by omega), if_neg (by omega), if_neg (by omega), if_neg (by omega), if_pos (by simp; omega), if_neg (by omega), if_neg (by omega), if_pos (by simp; omega)]
                · repeat rw [if_neg (by omega)]
                  exact (q6 s hs).2.1
              · by_cases c : b = j ∧ s = m
                · obtain ⟨rfl, rfl⟩ := c
                  rw [if_neg (by omega), if_neg (by omega), if_neg (by omega), if_neg (by omega), if_neg (by omega), if_pos (by simp; omega), if_neg (by omega), if_pos (by simp; omega)]
                · repeat rw [if_neg (by omega)]
                  exact (q6 s hs).2.2
            · intro b hb
              by_cases c : b = j
              · subst c
                refine ⟨m + 1, by omega, rd_eqw, fun s hs => ?_⟩
                by_cases c9 : s = m
                · subst c9
                  rw [hK, rd_ne (by decide), rd_ne (by decide), rd_ne (by decide), rd_eqw, rd_ne (by decide), rd_ne (by decide), rd_eqw, rd_ne (by decide), rd_eqw]
                  exact ⟨c2'.1.1, c2'.1.2, c2'.2⟩
                · obtain ⟨t1, t2, t3⟩ := e2 s (by omega)
                  refine ⟨?_, ?_, ?_⟩ <;> simp only [rd_wrx, rd_wrLx]
                  · repeat rw [if_neg (by omega)]
                    exact t1
                  · repeat rw [if_neg (by omega)]
                    exact t2
                  · repeat rw [if_neg (by omega)]
                    exact t3
              · obtain ⟨m9, hm9, f1, f2⟩ := hVA b hb
                refine ⟨m9, hm9, ?_, fun s hs => ?_⟩
                · simp only [rd_wrx, rd_wrLx]
                  repeat rw [if_neg (by omega)]
                  exact f1
                · obtain ⟨t1, t2, t3⟩ := f2 s hs
                  refine ⟨?_, ?_, ?_⟩ <;> simp only [rd_wrx, rd_wrLx]
                  · repeat rw [if_neg (by omega)]
                    exact t1
                  · repeat rw [if_neg (by omega)]
                    exact t2
                  · repeat rw [if_neg (by omega)]
                    exact t3
          · exact ((((Scr.refl.w (by omega)).w (by omega)).w (by omega)).w (by omega)).l
          · exact (((((((((Scr.refl.w (by omega)).w (by omega)).w (by omega)).w (by omega)).l).w (by decide)).w (by decide)).w (by decide)).w (by decide)).w (by decide)
