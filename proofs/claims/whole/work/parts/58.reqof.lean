theorem sim_requestOf : SimI Inv F_L_requestOf F_X7_requestOf 2 := by
  intro as h hl hR
  match as, hl with
  | [x, y], _ =>
    show ∃ (k v : Int32) (h1 h2 : Hp), F_L_requestOf [.ref 0, .int x, .int y, .ref 275] h = rtn (some (.int k)) h1 ∧ F_X7_requestOf [.ref 227, .int x, .int y] h1 = rtn (some (.int v)) h2 ∧ _
    obtain ⟨N, S, QQ, RR, A, G, T, V, hVA, hVS, hVQ, hVR, hQU⟩ := hR
    have hR : Inv h := ⟨N, S, QQ, RR, A, G, T, V, hVA, hVS, hVQ, hVR, hQU⟩
    have key : ∀ g : Hp, VN g → F_X7_requestOf [.ref 227, .int x, .int y] g = f_X7_requestOf_27 x y (match ixs x (nq g) with | false => 1 | true => match irg y 0 5 with | true => 0 | false => 2) g := by
      intro g hg
      rw [e_X7_requestOf_0, isRequest_s hg, bI_r]
      simp only [isIn_s, bI_r]
      cases ixs x (nq g) <;> cases irg y 0 5 <;> simp [bi]
    cases c1 : ixs x (nq h) with
    | false =>
      refine ⟨1, 0, h, wr h 227 0 1, ?_, ?_, rd_eqw, fun q => absurd q one_ne, hR.quiet (Or.inl ⟨rfl, rfl⟩), Scr.refl, Scr.refl.w (by decide)⟩
      · rw [e_L_requestOf_0, e_X6_requestOf_0, requestAt_n N V c1]
        rfl
      · rw [key h V, c1]
        show f_X7_requestOf_27 x y 1 h = _
        rw [e_X7_requestOf_27, holds_n one_ne, bI_r, if_pos rfl]
    | true =>
      obtain ⟨j, hj, rfl⟩ := ixs_t V.q.1 c1
      have h60 := V.q.1
      obtain ⟨g0, g1, g2, g3, g4, g5, g6, g7, g8, g9, g11, g12, g13⟩ := QQ.g (k := j) (by omega)
      cases c2 : irg y 0 5 with
      | false =>
        refine ⟨2, 0, h, wr h 227 0 2, ?_, ?_, rd_eqw, fun q => absurd q two_ne, hR.quiet (Or.inl ⟨rfl, rfl⟩), Scr.refl, Scr.refl.w (by decide)⟩
        · have ne : ∀ i : Nat, i ≤ 5 → y ≠ Int32.ofNat i := by
            rintro i hi rfl
            have : ∀ i, i ≤ 5 → irg (Int32.ofNat i) 0 5 = true := by decide
            rw [this i hi] at c2
            cases c2
          rw [e_L_requestOf_0, e_X6_requestOf_0, requestAt_s N V hj, bR_r, if_neg (ne 0 (by decide)), if_neg (ne 1 (by decide)), if_neg (ne 2 (by decide)), if_neg (ne 3 (by decide)), if_neg (ne 4 (by decide)), if_neg (ne 5 (by decide))]
          rfl
        · rw [key h V, c1, c2]
          show f_X7_requestOf_27 (nI j) y 2 h = _
          rw [e_X7_requestOf_27, holds_n two_ne, bI_r, if_pos rfl]
      | true =>
        obtain ⟨i, hi, rfl⟩ := irg_nI (n := 5) (by decide) c2
        have hi9 : i = 0 ∨ i = 1 ∨ i = 2 ∨ i = 3 ∨ i = 4 ∨ i = 5 := by omega
        have ij : inb (nI j) 60 = true := inb_nI (by omega) (by decide)
        have cj : (nI j).toNatClampNeg = j := nI_clamp (by omega)
        have fin : ∀ v g, Fr T10 h g → rdL g = rdL h → F_X6_requestOf [.ref 0, .int (nI j), .int (nI i)] h = rtn (some (.int v)) g → f_X7_requestOf_27 (nI j) (nI i) 0 (wrL g 0 (Int32.toInt64 v)) = rtn (some (.int v)) (hq g (Int32.toInt64 v) 0) → ∃ (k v : Int32) (h1 h2 : Hp), F_L_requestOf [.ref 0, .int (nI j), .int (nI i), .ref 275] h = rtn (some (.int k)) h1 ∧ F_X7_requestOf [.ref 227, .int (nI j), .int (nI i)] h1 = rtn (some (.int v)) h2 ∧ rd h2 227 0 = k ∧ (k = 0 → rdL h2 0 = Int32.toInt64 v) ∧ Inv h2 ∧ Scr h h1 ∧ Scr h h2 := by
          intro v g F1 F2 m1 m2
          have hg : Inv g := hR.quietF (fun p k hp => F1 p k (fun z => hp (Or.inl (by unfold T10 at z; omega))))
          have Sg : Scr h g := ⟨fun q => F1 SCRA q (show ¬ ((1000 : Nat) = 10) by decide), F1 SCRB 0 (show ¬ ((1001 : Nat) = 10) by decide)⟩
          have nqg : nq g = nq h := nq_F F1 (by unfold T10; decide)
          refine ⟨0, v, wrL g 0 (Int32.toInt64 v), hq g (Int32.toInt64 v) 0, ?_, ?_, hq_w, fun _ => hq_o, hq_inv hg, Sg.l, ⟨fun q => (hq_scr.1 q).trans (Sg.1 q), hq_scr.2.trans Sg.2⟩⟩
          · rw [e_L_requestOf_0, m1, bI_r]
            rfl
          · rw [key (wrL g 0 (Int32.toInt64 v)) hg.2.2.2.2.2.2.2.1, show nq (wrL g 0 (Int32.toInt64 v)) = nq g from rfl, nqg, c1, c2]
            exact m2
        by_cases i5 : i = 5
        · subst i5
          by_cases s1 : rd h 254 j = 1
          · refine fin 0 h Fr.refl rfl ?_ ?_
            · rw [e_X6_requestOf_0, requestAt_s N V hj, bR_r, (okc_rq j (by omega)).1]
              simp only [gd_t, g9, s1]
              rfl
            · rw [e_X7_requestOf_27, holds_0, bI_r, if_neg one_ne, ij, cj]
              show gd true (if rd (hq h _ 0) 254 j = 1 then _ else _) = _
              rw [hq_rd (by decide), s1]
              rfl
          · obtain ⟨v1, v2, v3, -⟩ := hVQ j hj
            obtain ⟨t, ht, et⟩ := irg_71 v3
            obtain ⟨x, a2, p1, p2, p3, p4⟩ := reason_h hR (Fr.refl : Fr PCl h h) hj ht
            refine fin x a2 p3 p4 ?_ ?_
            · rw [e_X6_requestOf_0, requestAt_s N V hj, bR_r, (okc_rq j (by omega)).1]
              simp only [gd_t]
              rw [g9, g3, et]
              show (if rd h 254 j = 1 then _ else bI (F_X6_reasonAgainst [.ref 0, .ref (47 + j), .int (nI t)] h) _ _) = _
              rw [if_neg s1, p1, bI_r]
            · have Fm : Fr PCl h (hq a2 (Int32.toInt64 x) 0) := fun p k hp => by
                unfold hq
                rw [rd_wrx, if_neg (fun z => hp (Or.inr z)), rd_wrLx, p3 p k (fun z => hp (Or.inl (by unfold T10 at z; omega)))]
              obtain ⟨x', a3, q1, q2, q3, q4⟩ := reason_h hR Fm hj ht
              obtain ⟨rfl, -⟩ := rtn_inj (q1.symm.trans p1)
              rw [e_X7_requestOf_27, holds_0, bI_r, if_neg one_ne, ij, cj]
              simp only [gd_t]
              show (if rd (hq a2 (Int32.toInt64 x') 0) 254 j = 1 then _ else bI (F_X7_reason [.ref 227, .int (nI j), .int (rd (hq a2 (Int32.toInt64 x') 0) 249 j)] (hq a2 (Int32.toInt64 x') 0)) _ _) = _
              rw [Fm 254 j (by unfold PCl; omega), Fm 249 j (by unfold PCl; omega), if_neg s1, et, q2, bI_r]
        · have mid : ∃ v, F_X6_requestOf [.ref 0, .int (nI j), .int (nI i)] h = rtn (some (.int v)) h ∧ ∀ w, f_X7_requestOf_27 (nI j) (nI i) 0 (wrL h 0 w) = rtn (some (.int v)) (hq h w 0) := by
            by_cases i1 : i = 1
            · subst i1
              by_cases s0 : rd h 254 j = 0
              · refine ⟨srt h j, ?_, fun w => ?_⟩
                · rw [e_X6_requestOf_0, requestAt_s N V hj, bR_r, (okc_rq j (by omega)).1]
                  simp only [gd_t, g9, s0]
                  show bI (F_X6_sortNow [.ref 0, .ref (47 + j)] h) _ _ = _
                  rw [sortNow_s N S QQ RR G V hVS hVQ hVR hj, bI_r]
                · rw [e_X7_requestOf_27, holds_0, bI_r, if_neg one_ne, ij, cj]
                  simp only [gd_t]
                  show (if rd (hq h w 0) 254 j = 0 then bI (F_X7_sortOf [.ref 227, .int (nI j)] (hq h w 0)) _ _ else _) = _
                  have hi := hq_inv (v := w) (w := 0) hR
                  rw [hq_rd (by decide), if_pos s0, sortOf_s hi.2.2.2.2.2.2.2.1 hi.2.2.2.2.2.2.2.2.2.1 hi.2.2.2.2.2.2.2.2.2.2.1 hi.2.2.2.2.2.2.2.2.2.2.2.1 (by rw [hq_nq]; exact hj), bI_r, hq_srt]
              · refine ⟨rd h 255 j, ?_, fun w => ?_⟩
                · rw [e_X6_requestOf_0, requestAt_s N V hj, bR_r, (okc_rq j (by omega)).1]
                  simp only [gd_t]
                  rw [g9]
                  show (if rd h 254 j = 0 then _ else rtn (some (.int (rd h (47 + j) 10))) h) = _
                  rw [if_neg s0, T j (by omega) hj s0]
                · rw [e_X7_requestOf_27, holds_0, bI_r, if_neg one_ne, ij, cj]
                  simp only [gd_t]
                  show (if rd (hq h w 0) 254 j = 0 then _ else rtn (some (.int (rd (hq h w 0) 255 j))) (hq h w 0)) = _
                  rw [hq_rd (by decide), hq_rd (by decide), if_neg s0]
            · rw [e_X6_requestOf_0, requestAt_s N V hj, bR_r, (okc_rq j (by omega)).1]
              have er : ∀ w A, A ≠ 227 → rd (wr (wrL h 0 w) 227 0 0) A j = rd h A j := fun w A hA => hq_rd hA
              simp only [gd_t, g9, g11, g12, g13, e_X7_requestOf_27, holds_0, bI_r, ij, cj, er _ _ (show 254 ≠ 227 by decide), er _ _ (show 256 ≠ 227 by decide), er _ _ (show 257 ≠ 227 by decide), er _ _ (show 258 ≠ 227 by decide)]
              have hi6 : i = 0 ∨ i = 2 ∨ i = 3 ∨ i = 4 := by omega
              rcases hi6 with rfl | rfl | rfl | rfl
              · exact ⟨_, rfl, fun _ => rfl⟩
              · exact ⟨_, rfl, fun _ => rfl⟩
              · exact ⟨_, rfl, fun _ => rfl⟩
              · exact ⟨_, rfl, fun _ => rfl⟩
          obtain ⟨v, m1, m2⟩ := mid
          exact fin v h Fr.refl rfl m1 (m2 _)
