theorem rul_c : ∀ j, j < 4 → ∀ d, d < 7 → (7 : Int32) * nI j + nI d = nI (7 * j + d) := by decide
theorem okZ_01 : okZ 1 (1 : Int32) = true ∧ okZ 1 (0 : Int32) = true := by decide
theorem sim_close : SimB Inv F_L_close F_X7_close 3 := by
  intro as h hl hR
  match as, hl with
  | [x, y, z], _ =>
    show ∃ (k v : Int32) (h1 h2 : Hp), F_L_close [.ref 0, .int x, .int y, .int z, .ref 275] h = rtn (some (.int k)) h1 ∧ F_X7_close [.ref 227, .int x, .int y, .int z] h1 = rtn (some (.int v)) h2 ∧ _
    have A := hR.2.2.2.2.1
    have hVA := hR.2.2.2.2.2.2.2.2.1
    have key : ∀ g : Hp, F_X7_close [.ref 227, .int x, .int y, .int z] g = f_X7_close_25 x y z (match irg x 0 3 with | false => 1 | true => match (irg y 0 6 && irg z 0 19) with | true => 0 | false => 2) g := by
      intro g
      rw [e_X7_close_0]
      simp only [isAirport_s, isDay_s, bI_r]
      cases irg x 0 3 <;> cases irg y 0 6 <;> cases irg z 0 19 <;> simp [bi]
    cases c1 : irg x 0 3 with
    | false =>
      refine ⟨1, 0, h, wr h 227 0 1, ?_, ?_, rd_eqw, fun q => absurd q one_ne, hR.quiet (Or.inl ⟨rfl, rfl⟩), Scr.refl, Scr.refl.w (by decide)⟩
      · rw [e_L_close_0, e_X6_close_0, airportAt_n c1]
        rfl
      · rw [key, c1]
        show f_X7_close_25 x y z 1 h = _
        rw [e_X7_close_25, holds_n one_ne, bI_r, if_pos rfl]
    | true =>
      obtain ⟨j, hj, rfl⟩ := irg_3 c1
      cases c2 : (irg y 0 6 && irg z 0 19) with
      | false =>
        refine ⟨2, 0, h, wr h 227 0 2, ?_, ?_, rd_eqw, fun q => absurd q two_ne, hR.quiet (Or.inl ⟨rfl, rfl⟩), Scr.refl, Scr.refl.w (by decide)⟩
        · rw [e_L_close_0, e_X6_close_0, airportAt_s hj, bR_r]
          simp only [requireRange_s]
          revert c2
          cases irg y 0 6 <;> cases irg z 0 19 <;> intro c2 <;> first | rfl | cases c2
        · rw [key, c1, c2]
          show f_X7_close_25 (nI j) y z 2 h = _
          rw [e_X7_close_25, holds_n two_ne, bI_r, if_pos rfl]
      | true =>
        have c2' := c2
        rw [Bool.and_eq_true] at c2'
        obtain ⟨d, hd, rfl⟩ := irg_nI (n := 6) (by decide) c2'.1
        obtain ⟨w, hw, rfl⟩ := irg_nI (n := 19) (by decide) c2'.2
        obtain ⟨a1, a2, a3, a4, a5, a6⟩ := A j hj
        have e5 := a5 d (by omega)
        generalize hK : 7 * j + d = K at e5
        generalize hB : (1 : Int32) <<< (nI w &&& 31) = B
        have hbit : (rd h 273 K &&& B = 0) ↔ ((rd h 273 K >>> (nI w &&& 31)) &&& 1 = 0) := by
          rw [← hB]
          exact bit_eq (by omega)
        have hc : ∃ v : Int32, F_X6_close [.ref 0, .int (nI j), .int (nI d), .int (nI w)] h = rtn (some (.int v)) (wr h (13 + 9 * j) d (rd h 273 K ||| B)) ∧ (v = if (rd h 273 K >>> (nI w &&& 31)) &&& 1 = 0 then 1 else 0) := by
          rw [e_X6_close_0, airportAt_s hj, bR_r]
          simp only [requireRange_s, c2'.1, c2'.2, bV_r, weeksFromTo_1 (h := h) (w := w) (by omega), hB, bI_r, okc_ap j hj, gd_t, closedWeeksOn_s (h := h) hj (show d < 7 by omega), closeWeeksOn_s (h := h) hj (show d < 7 by omega), e5, e_X6_close_45]
          by_cases c : rd h 273 K &&& B = 0
          · rw [if_pos c, if_pos (hbit.mp c)]
            exact ⟨1, rfl, rfl⟩
          · rw [if_neg c, if_neg (fun q => c (hbit.mpr q))]
            exact ⟨0, rfl, rfl⟩
        obtain ⟨v, hc, hv⟩ := hc
        generalize ho : (if v = 0 then Int64.ofNat 0 else Int64.ofNat 1) = o
        have e273 : rd (wr (wrL (wr h (13 + 9 * j) d (rd h 273 K ||| B)) 0 o) 227 0 0) 273 K = rd h 273 K := by
          rw [rd_ne (by decide), rd_wrLx, rd_ne (by omega)]
        refine ⟨0, v, wrL (wr h (13 + 9 * j) d (rd h 273 K ||| B)) 0 o, wr (wr (wrL (wr h (13 + 9 * j) d (rd h 273 K ||| B)) 0 o) 227 0 0) 273 K (rd h 273 K ||| B), ?_, ?_, ?_, fun _ => ?_, ?_, (Scr.refl.w (by omega)).l, ((Scr.refl.w (by omega)).l.w (by decide)).w (by decide)⟩
        · rw [e_L_close_0, hc, bI_r, ← ho]
          by_cases c : v = 0
          · rw [if_pos c, if_pos c]
            rfl
          · rw [if_neg c, if_neg c]
            rfl
        · rw [key, c1, c2]
          show f_X7_close_25 (nI j) (nI d) (nI w) 0 _ = _
          rw [e_X7_close_25, holds_0, bI_r, if_neg one_ne, rul_c j hj d (by omega), hK, inb_nI (j := K) (n := 28) (by omega) (by decide), gd_t, nI_clamp (by omega), e273, hv]
          simp only [e_X7_close_60, inb_nI (j := K) (n := 28) (by omega) (by decide), gd_t, nI_clamp (n := K) (by omega), e273, hB, okZ_01.1, okZ_01.2]
          by_cases c : (rd h 273 K >>> (nI w &&& 31)) &&& 1 = 0
          · rw [if_pos c, if_pos c]
          · rw [if_neg c, if_neg c]
        · rw [rd_ne (by decide), rd_eqw]
        · rw [ho]
          rfl
        · refine hR.airF ((((Fr.refl.w (Or.inl ⟨by omega, by omega⟩)).l).w (Or.inr (Or.inr (Or.inr ⟨rfl, rfl⟩)))).w (Or.inr (Or.inr (Or.inl rfl)))) ?_ ?_
          · intro b hb
            obtain ⟨q1, q2, q3, q4, q5, q6⟩ := hR.2.2.2.2.1 b hb
            refine ⟨?_, ?_, ?_, ?_, fun e he => ?_, fun s hs => ⟨?_, ?_, ?_⟩⟩ <;> simp only [rd_wrx, rd_wrLx]
            · repeat rw [if_neg (by omega)]
              exact q1
            · repeat rw [if_neg (by omega)]
              exact q2
            · repeat rw [if_neg (by omega)]
              exact q3
            · repeat rw [if_neg (by omega)]
              exact q4
            · by_cases c : b = j ∧ e = d
              · obtain ⟨rfl, rfl⟩ := c
                rw [if_neg (by omega), if_neg (by omega), if_pos (by simp), if_pos (by simp; omega)]
              · repeat rw [if_neg (by omega)]
                exact q5 e he
            · repeat rw [if_neg (by omega)]
              exact (q6 s hs).1
            · repeat rw [if_neg (by omega)]
              exact (q6 s hs).2.1
            · repeat rw [if_neg (by omega)]
              exact (q6 s hs).2.2
          · exact VA.f (VA.f (h := wrL (wr h (13 + 9 * j) d (rd h 273 K ||| B)) 0 o) (VA.f (h := h) hVA (by omega)) (by omega)) (by omega)
