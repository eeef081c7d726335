def PL (a k : Nat) : Prop := (47 ≤ a ∧ a < 107 ∧ k = 13) ∨ a = 258 ∨ (a = 227 ∧ k = 0)
theorem Inv.lnkF {h g : Hp} (H : Inv h) (F : Fr PL h g) (hQ : EqQ g) (hV : VQ g) : Inv g := by
  obtain ⟨b1, b2, b3, b4, b5, b6, b7, b8, b9, b10, b11, b12, b13⟩ := H
  refine ⟨b1.F F ?_ ?_, b2.F F ?_ ?_, hQ, b4.F F ?_ ?_, b5.F F ?_ ?_, b6.F F ?_ ?_, b7.F F ?_ ?_ ?_, b8.F F ?_ ?_, b9.F F ?_, b10.F F ?_ ?_, hV, b12.F F ?_ ?_, b13.F F ?_ ?_⟩
  all_goals (unfold PL; first | omega | (intros; omega) | (refine ⟨?_, ?_⟩ <;> omega) | (intro k; refine ⟨?_, ?_⟩ <;> omega) | (intro k; refine ⟨?_, ?_, ?_⟩ <;> omega))
theorem mayBeLinked_s {h : Hp} {k : Nat} (hk : k < 60) : F_X1_mayBeLinked [.ref (47 + k)] h = rtn (some (.int (bi (decide (rd h (47 + k) 13 = -1) && decide (rd h (47 + k) 9 = 0))))) h := by
  rw [e_X1_mayBeLinked_0, (okc_rq k hk).1]
  simp only [gd_t]
  by_cases c1 : rd h (47 + k) 13 = -1
  · by_cases c2 : rd h (47 + k) 9 = 0
    · simp [c1, c2, bi]
    · simp [c1, c2, bi]
  · simp [c1, bi]
theorem nI_m1 {q : Nat} (hq : q < 2 ^ 31) : nI q ≠ -1 := fun z => by
  have h1 := nI_pos (n := q) hq
  rw [z] at h1
  exact h1 (by decide)
theorem qa_inj : ∀ f, f < 14 → ∀ g, g < 14 → QA f = QA g → f = g := by decide
theorem sim_link : SimV Inv F_L_link F_X7_link 2 := by
  intro as h hl hR
  match as, hl with
  | [x, y], _ =>
    show ∃ (k : Int32) (h1 h2 : Hp), F_L_link [.ref 0, .int x, .int y] h = rtn (some (.int k)) h1 ∧ F_X7_link [.ref 227, .int x, .int y] h1 = rtn none h2 ∧ _
    have N := hR.1
    have S := hR.2.2.1
    have V := hR.2.2.2.2.2.2.2.1
    have hVQ := hR.2.2.2.2.2.2.2.2.2.2.1
    have h60 := V.q.1
    have key : ∀ g : Hp, VN g → F_X7_link [.ref 227, .int x, .int y] g = f_X7_link_21 x y (bi (ixs x (nq g) && ixs y (nq g))) g := by
      intro g hg
      rw [e_X7_link_0]
      simp only [isRequest_s hg, bI_r, e_X7_link_20]
      cases ixs x (nq g) <;> cases ixs y (nq g) <;> simp [bi]
    cases c1 : (ixs x (nq h) && ixs y (nq h)) with
    | false =>
      refine ⟨1, h, wr h 227 0 1, ?_, ?_, rd_eqw, hR.quiet (Or.inl ⟨rfl, rfl⟩), Scr.refl, Scr.refl.w (by decide)⟩
      · rw [e_L_link_0, e_X6_link_0]
        cases c2 : ixs x (nq h) with
        | false =>
          rw [requestAt_n N V c2]
          rfl
        | true =>
          obtain ⟨i, hi, rfl⟩ := ixs_t V.q.1 c2
          rw [c2, Bool.true_and] at c1
          rw [requestAt_s N V hi, bR_r, requestAt_n N V c1]
          rfl
      · rw [key h V, c1, bi_f, e_X7_link_21, if_pos rfl, e_X7_link_68, e_X7_link_69, if_pos rfl, e_X7_link_99, holds_n one_ne, bI_r, if_pos rfl]
    | true =>
      have c1' := c1
      rw [Bool.and_eq_true] at c1'
      obtain ⟨i, hi, rfl⟩ := ixs_t V.q.1 c1'.1
      obtain ⟨j, hj, rfl⟩ := ixs_t V.q.1 c1'.2
      obtain ⟨g0, g1, g2, g3, g4, g5, g6, g7, g8, g9, g11, g12, g13⟩ := S.g (k := i) (by omega)
      obtain ⟨k0, k1, k2, k3, k4, k5, k6, k7, k8, k9, k11, k12, k13⟩ := S.g (k := j) (by omega)
      by_cases cij : i = j
      · subst cij
        refine ⟨2, h, wr h 227 0 2, ?_, ?_, rd_eqw, hR.quiet (Or.inl ⟨rfl, rfl⟩), Scr.refl, Scr.refl.w (by decide)⟩
        · rw [e_L_link_0, e_X6_link_0, requestAt_s N V hi, bR_r, requestAt_s N V hi, bR_r, if_pos rfl]
          rfl
        · have q : f_X7_link_21 (nI i) (nI i) 1 h = f_X7_link_99 (nI i) (nI i) 2 h := by
            rw [e_X7_link_21, if_neg one_ne, inb_nI (j := i) (n := 60) (by omega) (by decide)]
            simp only [gd_t, e_X7_link_68, e_X7_link_69]
            by_cases d1 : rd h 258 (nI i).toNatClampNeg = -1
            · by_cases d2 : rd h 254 (nI i).toNatClampNeg = 0
              · simp [d1, d2, one_ne]
              · simp [d1, d2, one_ne]
            · simp [d1, one_ne]
          rw [key h V, c1, bi_t, q, e_X7_link_99, holds_n two_ne, bI_r, if_pos rfl]
      · have nij : ¬ nI i = nI j := fun z => cij ((nI_eq (by omega) (by omega)).mp z)
        by_cases ok : (rd h 258 i = -1 ∧ rd h 254 i = 0) ∧ rd h 258 j = -1 ∧ rd h 254 j = 0
        · obtain ⟨⟨o1, o2⟩, o3, o4⟩ := ok
          have hc : F_X6_link [.ref 0, .int (nI i), .int (nI j)] h = rtn none (wr (wr h (47 + i) 13 (nI j)) (47 + j) 13 (nI i)) := by
            rw [e_X6_link_0, requestAt_s N V hi, bR_r, requestAt_s N V hj, bR_r, if_neg nij, (okc_rq i (by omega)).1, (okc_rq j (by omega)).1]
            simp only [gd_t, mayBeLinked_s (h := h) (k := i) (by omega), mayBeLinked_s (h := h) (k := j) (by omega), bI_r, g13, g9, k13, k9, o1, o2, o3, o4]
            rfl
          generalize hh1 : wr (wr h (47 + i) 13 (nI j)) (47 + j) 13 (nI i) = h1 at hc
          have F1 : Fr (fun a k => 47 ≤ a ∧ a < 107) h h1 := by
            rw [← hh1]
            exact (Fr.refl.w ⟨by omega, by omega⟩).w ⟨by omega, by omega⟩
          have rm : ∀ a k, 227 ≤ a → rd h1 a k = rd h a k := fun a k ha => F1 a k (by omega)
          have V1 : VN h1 := V.F F1 (fun k => by omega) (fun k _ => by omega)
          have n1 : nq h1 = nq h := nq_F F1 (by omega)
          generalize hh2 : wr (wr (wr h1 227 0 0) 258 i (nI j)) 258 j (nI i) = h2
          have FF : Fr PL h h2 := by
            rw [← hh2, ← hh1]
            exact ((((Fr.refl.w (Or.inl ⟨by omega, by omega, rfl⟩)).w (Or.inl ⟨by omega, by omega, rfl⟩)).w (Or.inr (Or.inr ⟨rfl, rfl⟩))).w (Or.inr (Or.inl rfl))).w (Or.inr (Or.inl rfl))
          have v258 : ∀ q, rd h2 258 q = if q = j then nI i else if q = i then nI j else rd h 258 q := fun q => by
            rw [← hh2, rd_wrx, rd_wrx, rd_ne (by decide), rm _ _ (by decide)]
            by_cases qj : q = j
            · rw [if_pos ⟨rfl, qj⟩, if_pos qj]
            · rw [if_neg (fun z => qj z.2), if_neg qj]
              by_cases qi : q = i
              · rw [if_pos ⟨rfl, qi⟩, if_pos qi]
              · rw [if_neg (fun z => qi z.2), if_neg qi]
          refine ⟨0, h1, h2, ?_, ?_, ?_, ?_, ?_, ?_⟩
          · rw [e_L_link_0, hc]
            rfl
          · rw [key h1 V1, n1, c1, bi_t, e_X7_link_21, if_neg one_ne, inb_nI (j := i) (n := 60) (by omega) (by decide), inb_nI (j := j) (n := 60) (by omega) (by decide), nI_clamp (n := i) (by omega), nI_clamp (n := j) (by omega)]
            simp only [gd_t]
            rw [rm _ _ (by decide), if_pos o1, rm _ _ (by decide), if_pos o3, rm _ _ (by decide), if_pos o2, rm _ _ (by decide), if_pos o4, e_X7_link_69, if_neg one_ne, if_neg nij, if_neg one_ne, e_X7_link_99, holds_0, bI_r, if_neg one_ne, inb_nI (j := i) (n := 60) (by omega) (by decide), inb_nI (j := j) (n := 60) (by omega) (by decide), nI_clamp (n := i) (by omega), nI_clamp (n := j) (by omega)]
            simp only [gd_t]
            rw [hh2]
          · rw [← hh2, rd_ne (by decide), rd_ne (by decide), rd_eqw]
          · refine hR.lnkF FF ?_ ?_
            · intro q hq f hf hf2
              have hs := S q hq f hf hf2
              have hsa := qa_in f hf
              by_cases f13 : f = 13
              · subst f13
                show rd h2 (47 + q) 13 = rd h2 258 q
                have hs' : rd h (47 + q) 13 = rd h 258 q := hs
                rw [v258, ← hh2, rd_ne (by omega), rd_ne (by omega), rd_ne (by omega), ← hh1, rd_wrx, rd_wrx]
                by_cases qj : q = j
                · rw [if_pos ⟨by omega, rfl⟩, if_pos qj]
                · rw [if_neg (fun z => qj (by omega)), if_neg qj]
                  by_cases qi : q = i
                  · rw [if_pos ⟨by omega, rfl⟩, if_pos qi]
                  · rw [if_neg (fun z => qi (by omega)), if_neg qi]
                    exact hs'
              · have s9 : QA f ≠ 258 := fun z => f13 (qa_inj f hf 13 (by decide) z)
                rw [FF _ _ (fun z => by rcases z with z | z | z <;> omega), FF _ _ (fun z => by rcases z with z | z | z <;> omega)]
                exact hs
            · intro q hq
              rw [nq_F FF (by unfold PL; omega)] at hq
              rw [nq_F FF (by unfold PL; omega), nr_F FF (by unfold PL; omega)]
              have e : ∀ b k, 245 ≤ b → b < 258 → rd h2 b k = rd h b k := fun b k q1 q2 => FF _ _ (fun z => by rcases z with z | z | z <;> omega)
              simp only [e 246 _ (by decide) (by decide), e 248 _ (by decide) (by decide), e 249 _ (by decide) (by decide), e 250 _ (by decide) (by decide), e 251 _ (by decide) (by decide), e 245 _ (by decide) (by decide), e 253 _ (by decide) (by decide), e 254 _ (by decide) (by decide), e 257 _ (by decide) (by decide), e 256 _ (by decide) (by decide)]
              obtain ⟨v1, v2, v3, v4, v5, v6, v7, v8, v9, v10⟩ := hVQ q hq
              refine ⟨v1, v2, v3, v4, v5, v6, v7, v8, ?_, v10⟩
              by_cases qj : q = j
              · subst qj
                refine Or.inr ⟨i, hi, cij, ?_, ?_, by rw [o2, o4]⟩
                · rw [v258, if_pos rfl]
                · rw [v258, if_neg cij, if_pos rfl]
              · by_cases qi : q = i
                · subst qi
                  refine Or.inr ⟨j, hj, fun z => cij z.symm, ?_, ?_, by rw [o2, o4]⟩
                  · rw [v258, if_neg qj, if_pos rfl]
                  · rw [v258, if_pos rfl]
                · rcases v9 with w | ⟨p, w1, w2, w3, w4, w5⟩
                  · left
                    rw [v258, if_neg qj, if_neg qi]
                    exact w
                  · have pi : p ≠ i := fun z => nI_m1 (q := q) (by omega) (by rw [← w4, z]; exact o1)
                    have pj : p ≠ j := fun z => nI_m1 (q := q) (by omega) (by rw [← w4, z]; exact o3)
                    refine Or.inr ⟨p, w1, w2, ?_, ?_, w5⟩
                    · rw [v258, if_neg qj, if_neg qi]
                      exact w3
                    · rw [v258, if_neg pj, if_neg pi]
                      exact w4
          · rw [← hh1]
            exact (Scr.refl.w (by omega)).w (by omega)
          · rw [← hh2, ← hh1]
            exact ((((Scr.refl.w (by omega)).w (by omega)).w (by decide)).w (by decide)).w (by decide)
        · refine ⟨3, h, wr h 227 0 3, ?_, ?_, rd_eqw, hR.quiet (Or.inl ⟨rfl, rfl⟩), Scr.refl, Scr.refl.w (by decide)⟩
          · rw [e_L_link_0, e_X6_link_0, requestAt_s N V hi, bR_r, requestAt_s N V hj, bR_r, if_neg nij, (okc_rq i (by omega)).1, (okc_rq j (by omega)).1]
            simp only [gd_t, mayBeLinked_s (h := h) (k := i) (by omega), mayBeLinked_s (h := h) (k := j) (by omega), g13, g9, k13, k9, bI_r, e_X6_link_43]
            by_cases d1 : rd h 258 i = -1 ∧ rd h 254 i = 0
            · by_cases d2 : rd h 258 j = -1 ∧ rd h 254 j = 0
              · exact absurd ⟨d1, d2⟩ ok
              · have e2 : (decide (rd h 258 j = -1) && decide (rd h 254 j = 0)) = false := by
                  rw [Bool.eq_false_iff]
                  intro z
                  simp only [Bool.and_eq_true, decide_eq_true_eq] at z
                  exact d2 z
                rw [e2, bi_f, if_pos rfl]
                simp [d1.1, d1.2, bi]
                rfl
            · have e1 : (decide (rd h 258 i = -1) && decide (rd h 254 i = 0)) = false := by
                rw [Bool.eq_false_iff]
                intro z
                simp only [Bool.and_eq_true, decide_eq_true_eq] at z
                exact d1 z
              rw [e1, bi_f, if_pos rfl]
              rfl
          · have q : f_X7_link_21 (nI i) (nI j) 1 h = f_X7_link_99 (nI i) (nI j) 3 h := by
              rw [e_X7_link_21, if_neg one_ne, inb_nI (j := i) (n := 60) (by omega) (by decide), inb_nI (j := j) (n := 60) (by omega) (by decide), nI_clamp (n := i) (by omega), nI_clamp (n := j) (by omega)]
              simp only [gd_t, e_X7_link_68, e_X7_link_69]
              by_cases o1 : rd h 258 i = -1
              · by_cases o3 : rd h 258 j = -1
                · by_cases o2 : rd h 254 i = 0
                  · by_cases o4 : rd h 254 j = 0
                    · exact absurd ⟨⟨o1, o2⟩, o3, o4⟩ ok
                    · simp [o1, o2, o3, o4, nij, one_ne]
                  · simp [o1, o2, o3, nij, one_ne]
                · simp [o1, o3, nij, one_ne]
              · simp [o1, nij, one_ne]
            rw [key h V, c1, bi_t, q, e_X7_link_99, holds_n three_ne, bI_r, if_pos rfl]
