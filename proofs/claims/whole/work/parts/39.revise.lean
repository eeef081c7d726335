/-! rules -/
section RULES
variable {h : Hp} {x y : Int32} {j r m : Nat}
theorem skr_a : ∀ j, j < 4 → SKr (11 + 9 * j) 0 = 12 + 9 * j := by decide
theorem rul_a : ∀ j, j < 4 → memb (SKc (12 + 9 * j)) [10, 11, 12, 13, 14, 15, 16, 17, 18] = true ∧ memb (SKc (12 + 9 * j)) [13, 14, 15, 16, 17] = true ∧ SKn (12 + 9 * j) = 6 ∧ Nat.beq (12 + 9 * j) 1000 = false := by decide
theorem rul_b : ∀ j, j < 4 → ∀ r, r < 6 → SKr (12 + 9 * j) r = 14 + 9 * j + r ∧ okc (14 + 9 * j + r) 3 = true := by decide
theorem rul_i : ∀ j, j < 4 → ∀ r, r < 6 → (6 : Int32) * nI j + nI r = nI (6 * j + r) := by decide
theorem alen_a (hj : j < 4) : Int32.ofNat (alen SKn h (12 + 9 * j)) = 6 := by
  obtain ⟨-, -, e1, e2⟩ := rul_a j hj
  unfold alen
  rw [e1]
  show Int32.ofNat (cond (Nat.beq (12 + 9 * j) 1000) _ 6) = 6
  rw [e2]
  rfl
theorem ruleAt_s (hj : j < 4) (e : rd h (11 + 9 * j) 2 = nI m) (hm : m ≤ 6) (hr : r < m) : F_X0_ruleAt [.ref (11 + 9 * j), .int (nI r)] h = rtn (some (.ref (14 + 9 * j + r))) h := by
  obtain ⟨e1, e2, e3, -⟩ := rul_a j hj
  rw [e_X0_ruleAt_0, okc_ap j hj, e, if_neg (nI_pos (n := r) (by omega)), if_pos (nI_lt hr (by omega)), skr_a j hj, e1, alen_a hj, if_pos (show nI r < 6 from nI_lt (b := 6) (by omega) (by decide)), e2, e3, inb_nI (by omega) (by decide), nI_clamp (by omega), (rul_b j hj r (by omega)).1]
  rfl
theorem ruleAt_n (hj : j < 4) (e : rd h (11 + 9 * j) 2 = nI m) (hm : m ≤ 6) (c : ixs x m = false) : F_X0_ruleAt [.ref (11 + 9 * j), .int x] h = thr 0 h := by
  rw [e_X0_ruleAt_0, okc_ap j hj, e, e_X0_ruleAt_21]
  rcases ixs_f (by omega) c with c1 | c1
  · rw [if_pos c1]
  · by_cases c2 : x < 0
    · rw [if_pos c2]
    · rw [if_neg c2, if_neg c1]
      rfl
theorem isRule_s (hj : j < 4) (e : rd h 228 j = nI m) : F_X7_isRule [.ref 227, .int (nI j), .int x] h = rtn (some (.int (bi (ixs x m)))) h := by
  have q : irg (nI j) 0 3 = true := by
    have : ∀ j, j < 4 → irg (nI j) 0 3 = true := by decide
    exact this j hj
  rw [e_X7_isRule_0, isAirport_s, bI_r, q, bi_t, if_neg one_ne, inb_nI hj (by decide), gd_t, nI_clamp (by omega), e, isIn_s, bI_r]
  show (if bi (ixs x m) = 0 then _ else _) = _
  cases ixs x m <;> simp [bi]
theorem isRule_n (c : irg x 0 3 = false) : F_X7_isRule [.ref 227, .int x, .int y] h = rtn (some (.int 0)) h := by
  rw [e_X7_isRule_0, isAirport_s, bI_r, c, bi_f, if_pos rfl]
end RULES
theorem sim_revise : SimI Inv F_L_revise F_X7_revise 3 := by
  intro as h hl hR
  match as, hl with
  | [x, y, z], _ =>
    show ∃ (k v : Int32) (h1 h2 : Hp), F_L_revise [.ref 0, .int x, .int y, .int z, .ref 275] h = rtn (some (.int k)) h1 ∧ F_X7_revise [.ref 227, .int x, .int y, .int z] h1 = rtn (some (.int v)) h2 ∧ _
    have A := hR.2.2.2.2.1
    have hVA := hR.2.2.2.2.2.2.2.2.1
    cases c1 : irg x 0 3 with
    | false =>
      refine ⟨1, 0, h, wr h 227 0 1, ?_, ?_, rd_eqw, fun q => absurd q one_ne, hR.quiet (Or.inl ⟨rfl, rfl⟩), Scr.refl, Scr.refl.w (by decide)⟩
      · rw [e_L_revise_0, e_X6_revise_0, airportAt_n c1]
        rfl
      · rw [e_X7_revise_0, isRule_n c1, bI_r, if_pos rfl, e_X7_revise_29, holds_n one_ne, bI_r, if_pos rfl]
    | true =>
      obtain ⟨j, hj, rfl⟩ := irg_3 c1
      obtain ⟨m, hm, e1, e2⟩ := hVA j hj
      obtain ⟨a1, a2, a3, a4, a5, a6⟩ := A j hj
      have e3 : rd h (11 + 9 * j) 2 = nI m := a1.trans e1
      cases c2 : ixs y m with
      | false =>
        refine ⟨1, 0, h, wr h 227 0 1, ?_, ?_, rd_eqw, fun q => absurd q one_ne, hR.quiet (Or.inl ⟨rfl, rfl⟩), Scr.refl, Scr.refl.w (by decide)⟩
        · rw [e_L_revise_0, e_X6_revise_0, airportAt_s hj, bR_r, okc_ap j hj, gd_t, ruleAt_n hj e3 hm c2]
          rfl
        · rw [e_X7_revise_0, isRule_s hj e1, bI_r, c2, bi_f, if_pos rfl, e_X7_revise_29, holds_n one_ne, bI_r, if_pos rfl]
      | true =>
        obtain ⟨r, hr, rfl⟩ := ixs_t (by omega) c2
        cases c3 : irg z 0 20 with
        | false =>
          refine ⟨2, 0, h, wr h 227 0 2, ?_, ?_, rd_eqw, fun q => absurd q two_ne, hR.quiet (Or.inl ⟨rfl, rfl⟩), Scr.refl, Scr.refl.w (by decide)⟩
          · rw [e_L_revise_0, e_X6_revise_0, airportAt_s hj, bR_r, okc_ap j hj, gd_t, ruleAt_s hj e3 hm hr, bR_r, requireRange_s, c3]
            rfl
          · rw [e_X7_revise_0, isRule_s hj e1, bI_r, c2, bi_t, if_neg one_ne, isIn_s, bI_r, c3, bi_f, if_pos rfl, e_X7_revise_29, holds_n two_ne, bI_r, if_pos rfl]
        | true =>
          obtain ⟨r1, r2, r3⟩ := a6 r (by omega)
          refine ⟨0, rd h 231 (6 * j + r), wrL (wr h (14 + 9 * j + r) 2 z) 0 (Int32.toInt64 (rd h 231 (6 * j + r))), wr (wr (wrL (wr h (14 + 9 * j + r) 2 z) 0 (Int32.toInt64 (rd h 231 (6 * j + r)))) 227 0 0) 231 (6 * j + r) z, ?_, ?_, ?_, fun _ => rfl, ?_, (Scr.refl.w (by omega)).l, ((Scr.refl.w (by omega)).l.w (by decide)).w (by decide)⟩
          · rw [e_L_revise_0, e_X6_revise_0, airportAt_s hj, bR_r, okc_ap j hj, gd_t, ruleAt_s hj e3 hm hr, bR_r, requireRange_s, c3]
            show bI (gd (okc (14 + 9 * j + r) 3) (gd (okc (14 + 9 * j + r) 3) _)) _ _ = _
            rw [(rul_b j hj r (by omega)).2, gd_t, gd_t, bI_r, r3]
            rfl
          · have e1' : rd (wrL (wr h (14 + 9 * j + r) 2 z) 0 (Int32.toInt64 (rd h 231 (6 * j + r)))) 228 j = nI m := by
              rw [rd_wrLx, rd_ne (by omega)]
              exact e1
            rw [e_X7_revise_0, isRule_s hj e1', bI_r, c2, bi_t, if_neg one_ne, isIn_s, bI_r, c3, bi_t, if_neg one_ne, e_X7_revise_29, holds_0, bI_r, if_neg one_ne, rul_i j hj r (by omega), inb_nI (by omega) (by decide), gd_t, gd_t, nI_clamp (by omega)]
            congr 3
            rw [rd_ne (by decide), rd_wrLx, rd_ne (by omega)]
          · rw [rd_ne (by decide), rd_eqw]
          · refine hR.airF ((((Fr.refl.w (Or.inl ⟨by omega, by omega⟩)).l).w (Or.inr (Or.inr (Or.inr ⟨rfl, rfl⟩)))).w (Or.inr (Or.inl ⟨by decide, by decide⟩))) ?_ ?_
            · intro b hb
              obtain ⟨q1, q2, q3, q4, q5, q6⟩ := hR.2.2.2.2.1 b hb
              refine ⟨?_, ?_, ?_, ?_, fun d hd => ?_, fun s hs => ⟨?_, ?_, ?_⟩⟩ <;> simp only [rd_wrx, rd_wrLx]
              · repeat rw [if_neg (by omega)]
                exact q1
              · repeat rw [if_neg (by omega)]
                exact q2
              · repeat rw [if_neg (by omega)]
                exact q3
              · repeat rw [if_neg (by omega)]
                exact q4
              · repeat rw [if_neg (by omega)]
                exact q5 d hd
              · repeat rw [if_neg (by omega)]
                exact (q6 s hs).1
              · repeat rw [if_neg (by omega)]
                exact (q6 s hs).2.1
              · by_cases c : b = j ∧ s = r
                · obtain ⟨rfl, rfl⟩ := c
                  rw [if_neg (by omega), if_neg (by omega), if_pos (by simp), if_pos (by simp)]
                · rw [if_neg (by omega), if_neg (by omega), if_neg (by omega), if_neg (by omega), if_neg (by omega), if_neg (by omega)]
                  exact (q6 s hs).2.2
            · intro b hb
              obtain ⟨m9, hm9, f1, f2⟩ := hVA b hb
              refine ⟨m9, hm9, ?_, fun s hs => ?_⟩
              · simp only [rd_wrx, rd_wrLx]
                repeat rw [if_neg (by omega)]
                exact f1
              · obtain ⟨t1, t2, t3⟩ := f2 s hs
                refine ⟨?_, ?_, ?_⟩ <;> simp only [rd_wrx, rd_wrLx]
                · repeat rw [if_neg (by omega)]
                  exact t1
                · repeat rw [if_neg (by omega)]
                  exact t2
                · by_cases c : 6 * b + s = 6 * j + r
                  · rw [if_pos (by simpa using c)]
                    exact c3
                  · repeat rw [if_neg (by omega)]
                    exact t3
