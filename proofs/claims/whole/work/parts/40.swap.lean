theorem sim_swap : SimV Inv F_L_swap F_X7_swap 2 := by
  intro as h hl hR
  match as, hl with
  | [x, y], _ =>
    show ∃ (k : Int32) (h1 h2 : Hp), F_L_swap [.ref 0, .int x, .int y] h = rtn (some (.int k)) h1 ∧ F_X7_swap [.ref 227, .int x, .int y] h1 = rtn none h2 ∧ _
    have N := hR.1
    have S := hR.2.1
    have V := hR.2.2.2.2.2.2.2.1
    have hVS := hR.2.2.2.2.2.2.2.2.2.1
    have h60 := V.s.1
    have key : ∀ g : Hp, VN g → F_X7_swap [.ref 227, .int x, .int y] g = f_X7_swap_21 x y (bi (ixs x (ns g) && ixs y (ns g))) g := by
      intro g hg
      rw [e_X7_swap_0]
      simp only [isSeries_s hg, bI_r, e_X7_swap_20]
      cases ixs x (ns g) <;> cases ixs y (ns g) <;> simp [bi]
    cases c1 : (ixs x (ns h) && ixs y (ns h)) with
    | false =>
      refine ⟨1, h, wr h 227 0 1, ?_, ?_, rd_eqw, hR.quiet (Or.inl ⟨rfl, rfl⟩), Scr.refl, Scr.refl.w (by decide)⟩
      · rw [e_L_swap_0, e_X6_swap_0]
        cases c2 : ixs x (ns h) with
        | false =>
          rw [seriesAt_n N V c2]
          rfl
        | true =>
          obtain ⟨i, hi, rfl⟩ := ixs_t V.s.1 c2
          rw [c2, Bool.true_and] at c1
          rw [seriesAt_s N V hi, bR_r, seriesAt_n N V c1]
          rfl
      · rw [key h V, c1, bi_f, e_X7_swap_21, if_pos rfl, e_X7_swap_63, e_X7_swap_64, if_pos rfl, e_X7_swap_94, holds_n one_ne, bI_r, if_pos rfl]
    | true =>
      have c1' := c1
      rw [Bool.and_eq_true] at c1'
      obtain ⟨i, hi, rfl⟩ := ixs_t V.s.1 c1'.1
      obtain ⟨j, hj, rfl⟩ := ixs_t V.s.1 c1'.2
      obtain ⟨g0, g1, g2, g3, g4, g5, g6, g7, g8, g9, g10, g11, g12⟩ := S.g (k := i) (by omega)
      obtain ⟨k0, k1, k2, k3, k4, k5, k6, k7, k8, k9, k10, k11, k12⟩ := S.g (k := j) (by omega)
      by_cases cij : i = j
      · subst cij
        refine ⟨2, h, wr h 227 0 2, ?_, ?_, rd_eqw, hR.quiet (Or.inl ⟨rfl, rfl⟩), Scr.refl, Scr.refl.w (by decide)⟩
        · rw [e_L_swap_0, e_X6_swap_0, seriesAt_s N V hi, bR_r, seriesAt_s N V hi, bR_r, if_pos rfl]
          rfl
        · have q : f_X7_swap_21 (nI i) (nI i) 1 h = f_X7_swap_94 (nI i) (nI i) 2 h := by
            rw [e_X7_swap_21, if_neg one_ne, inb_nI (j := i) (n := 60) (by omega) (by decide)]
            simp only [gd_t, e_X7_swap_63, e_X7_swap_64]
            by_cases d1 : rd h 272 (nI i).toNatClampNeg = 0
            · simp [d1, one_ne]
            · simp [d1, one_ne]
          rw [key h V, c1, bi_t, q, e_X7_swap_94, holds_n two_ne, bI_r, if_pos rfl]
      · have nij : ¬ nI i = nI j := fun z => cij ((nI_eq (by omega) (by omega)).mp z)
        by_cases ok : rd h 272 i = 0 ∧ rd h 272 j = 0 ∧ rd h 262 i = rd h 262 j
        · obtain ⟨o1, o2, o3⟩ := ok
          have hc : F_X6_swap [.ref 0, .int (nI i), .int (nI j)] h = rtn none (wr (wr (wr (wr h (107 + i) 8 (rd h 260 j)) (107 + i) 9 (rd h 261 j)) (107 + j) 8 (rd h 260 i)) (107 + j) 9 (rd h 261 i)) := by
            rw [e_X6_swap_0, seriesAt_s N V hi, bR_r, seriesAt_s N V hj, bR_r, if_neg nij, (okc_sr i (by omega)).1, (okc_sr j (by omega)).1]
            simp only [gd_t]
            rw [g12, if_pos o1, k12, if_pos o2, g0, k0, if_pos o3, rd_ne (show 107 + j ≠ 107 + i by omega), k8, k9, g8, g9]
          generalize hh1 : wr (wr (wr (wr h (107 + i) 8 (rd h 260 j)) (107 + i) 9 (rd h 261 j)) (107 + j) 8 (rd h 260 i)) (107 + j) 9 (rd h 261 i) = h1 at hc
          have F1 : Fr (fun a k => 107 ≤ a ∧ a < 167) h h1 := by
            rw [← hh1]
            exact (((Fr.refl.w ⟨by omega, by omega⟩).w ⟨by omega, by omega⟩).w ⟨by omega, by omega⟩).w ⟨by omega, by omega⟩
          have rm : ∀ a k, 227 ≤ a → rd h1 a k = rd h a k := fun a k ha => F1 a k (by omega)
          have V1 : VN h1 := V.F F1 (fun k => by omega) (fun k _ => by omega)
          have n1 : ns h1 = ns h := ns_F F1 (by omega)
          refine ⟨0, h1, wr (wr (wr (wr (wr h1 227 0 0) 260 i (rd h 260 j)) 260 j (rd h 260 i)) 261 i (rd h 261 j)) 261 j (rd h 261 i), ?_, ?_, ?_, ?_, ?_, ?_⟩
          · rw [e_L_swap_0, hc]
            rfl
          · rw [key h1 V1, n1, c1, bi_t, e_X7_swap_21, if_neg one_ne, inb_nI (j := i) (n := 60) (by omega) (by decide), inb_nI (j := j) (n := 60) (by omega) (by decide), nI_clamp (n := i) (by omega), nI_clamp (n := j) (by omega)]
            simp only [gd_t]
            rw [rm _ _ (by decide), if_pos o1, rm _ _ (by decide), if_pos o2, rm _ _ (by decide), rm _ _ (by decide), if_pos o3, e_X7_swap_64, if_neg one_ne, if_neg nij, if_neg one_ne, e_X7_swap_94, holds_0, bI_r, if_neg one_ne, inb_nI (j := i) (n := 60) (by omega) (by decide), inb_nI (j := j) (n := 60) (by omega) (by decide), nI_clamp (n := i) (by omega), nI_clamp (n := j) (by omega)]
            simp only [gd_t]
            rw [rd_ne (a := 227) (b := 260) (by decide), rd_ne (a := 227) (b := 260) (by decide), rd_ne (a := 227) (b := 261) (by decide), rd_ne (a := 227) (b := 261) (by decide), rm _ _ (by decide), rm _ _ (by decide), rm _ _ (by decide), rm _ _ (by decide)]
          · rw [rd_ne (by decide), rd_ne (by decide), rd_ne (by decide), rd_ne (by decide), rd_eqw]
          · refine hR.serF ?_ ?_ ?_
            · rw [← hh1]
              exact (((((((((Fr.refl.w (Or.inl ⟨by omega, by omega⟩)).w (Or.inl ⟨by omega, by omega⟩)).w (Or.inl ⟨by omega, by omega⟩)).w (Or.inl ⟨by omega, by omega⟩)).w (Or.inr (Or.inr ⟨rfl, rfl⟩))).w (Or.inr (Or.inl ⟨by decide, by decide⟩))).w (Or.inr (Or.inl ⟨by decide, by decide⟩))).w (Or.inr (Or.inl ⟨by decide, by decide⟩))).w (Or.inr (Or.inl ⟨by decide, by decide⟩)))
            · intro q hq f hf
              have hs := S q hq f hf
              have hsa := sa_in f hf
              rw [rd_ne (by omega), rd_ne (by omega), rd_ne (by omega), rd_ne (by omega), rd_ne (by omega)]
              by_cases f8 : f = 8
              · subst f8
                show rd h1 (107 + q) 8 = rd (wr (wr (wr (wr (wr h1 227 0 0) 260 i (rd h 260 j)) 260 j (rd h 260 i)) 261 i (rd h 261 j)) 261 j (rd h 261 i)) 260 q
                have hs' : rd h (107 + q) 8 = rd h 260 q := hs
                rw [rd_ne (a := 261) (by decide), rd_ne (a := 261) (by decide), ← hh1, rd_nk (by decide)]
                by_cases qj : q = j
                · subst qj
                  rw [rd_eqw, rd_eqw]
                · rw [rd_ne (show 107 + q ≠ 107 + j by omega), rd_nk (by decide), rd_nk qj]
                  by_cases qi : q = i
                  · subst qi
                    rw [rd_eqw, rd_eqw]
                  · rw [rd_ne (show 107 + q ≠ 107 + i by omega), rd_nk qi, rd_ne (by decide), rd_ne (by omega), rd_ne (by omega), rd_ne (by omega), rd_ne (by omega)]
                    exact hs'
              · by_cases f9 : f = 9
                · subst f9
                  show rd h1 (107 + q) 9 = rd (wr (wr (wr (wr (wr h1 227 0 0) 260 i (rd h 260 j)) 260 j (rd h 260 i)) 261 i (rd h 261 j)) 261 j (rd h 261 i)) 261 q
                  have hs' : rd h (107 + q) 9 = rd h 261 q := hs
                  rw [← hh1]
                  by_cases qj : q = j
                  · subst qj
                    rw [rd_eqw, rd_eqw]
                  · rw [rd_ne (show 107 + q ≠ 107 + j by omega), rd_nk (show (9 : Nat) ≠ 8 by decide), rd_nk qj]
                    by_cases qi : q = i
                    · subst qi
                      rw [rd_eqw, rd_eqw]
                    · rw [rd_ne (show 107 + q ≠ 107 + i by omega), rd_nk (show (9 : Nat) ≠ 8 by decide), rd_nk qi, rd_ne (by decide), rd_ne (by decide), rd_ne (by decide), rd_ne (by omega), rd_ne (by omega), rd_ne (by omega), rd_ne (by omega)]
                      exact hs'
                · have s8 : SA f ≠ 260 := fun z => f8 (sa_inj f hf 8 (by decide) z)
                  have s9 : SA f ≠ 261 := fun z => f9 (sa_inj f hf 9 (by decide) z)
                  rw [rd_ne s9, rd_ne s9, rd_ne s8, rd_ne s8, rd_ne (by omega), ← hh1, rd_nk f9, rd_nk f8, rd_nk f9, rd_nk f8, rd_ne (by omega), rd_ne (by omega), rd_ne (by omega), rd_ne (by omega)]
                  exact hs
            · intro q hq
              have en : ns (wr (wr (wr (wr (wr h1 227 0 0) 260 i (rd h 260 j)) 260 j (rd h 260 i)) 261 i (rd h 261 j)) 261 j (rd h 261 i)) = ns h := by
                rw [ns_f (by omega), ns_f (by omega), ns_f (by omega), ns_f (by omega), ns_f (by omega), n1]
              rw [en] at hq
              obtain ⟨v1, v2, v3, v4, v5, v6⟩ := hVS q hq
              have o : ∀ a, 262 ≤ a → rd (wr (wr (wr (wr (wr h1 227 0 0) 260 i (rd h 260 j)) 260 j (rd h 260 i)) 261 i (rd h 261 j)) 261 j (rd h 261 i)) a q = rd h a q := fun a ha => by
                rw [rd_ne (by omega), rd_ne (by omega), rd_ne (by omega), rd_ne (by omega), rd_ne (by omega), rm _ _ (by omega)]
              rw [o 262 (by decide), o 264 (by decide), o 265 (by decide), o 266 (by decide), o 267 (by decide), rd_ne (a := 261) (by decide), rd_ne (a := 261) (by decide)]
              refine ⟨v1, v2, v3, v4, v5, ?_⟩
              by_cases qj : q = j
              · subst qj
                rw [rd_eqw]
                exact (hVS i hi).2.2.2.2.2
              · rw [rd_nk qj]
                by_cases qi : q = i
                · subst qi
                  rw [rd_eqw]
                  exact (hVS j hj).2.2.2.2.2
                · rw [rd_nk qi, rd_ne (by decide), rm _ _ (by decide)]
                  exact v6
          · rw [← hh1]
            exact (((Scr.refl.w (by omega)).w (by omega)).w (by omega)).w (by omega)
          · rw [← hh1]
            exact ((((((((Scr.refl.w (by omega)).w (by omega)).w (by omega)).w (by omega)).w (by decide)).w (by decide)).w (by decide)).w (by decide)).w (by decide)
        · refine ⟨3, h, wr h 227 0 3, ?_, ?_, rd_eqw, hR.quiet (Or.inl ⟨rfl, rfl⟩), Scr.refl, Scr.refl.w (by decide)⟩
          · rw [e_L_swap_0, e_X6_swap_0, seriesAt_s N V hi, bR_r, seriesAt_s N V hj, bR_r, if_neg nij, (okc_sr i (by omega)).1, (okc_sr j (by omega)).1]
            simp only [gd_t, g12, k12, g0, k0, e_X6_swap_55]
            by_cases o1 : rd h 272 i = 0
            · by_cases o2 : rd h 272 j = 0
              · by_cases o3 : rd h 262 i = rd h 262 j
                · exact absurd ⟨o1, o2, o3⟩ ok
                · rw [if_pos o1, if_pos o2, if_neg o3]
                  rfl
              · rw [if_pos o1, if_neg o2]
                rfl
            · rw [if_neg o1]
              rfl
          · have q : f_X7_swap_21 (nI i) (nI j) 1 h = f_X7_swap_94 (nI i) (nI j) 3 h := by
              rw [e_X7_swap_21, if_neg one_ne, inb_nI (j := i) (n := 60) (by omega) (by decide), inb_nI (j := j) (n := 60) (by omega) (by decide), nI_clamp (n := i) (by omega), nI_clamp (n := j) (by omega)]
              simp only [gd_t, e_X7_swap_63, e_X7_swap_64]
              by_cases o1 : rd h 272 i = 0
              · by_cases o2 : rd h 272 j = 0
                · by_cases o3 : rd h 262 i = rd h 262 j
                  · exact absurd ⟨o1, o2, o3⟩ ok
                  · simp [o1, o2, o3, nij, one_ne]
                · simp [o1, o2, nij, one_ne]
              · simp [o1, nij, one_ne]
            rw [key h V, c1, bi_t, q, e_X7_swap_94, holds_n three_ne, bI_r, if_pos rfl]
