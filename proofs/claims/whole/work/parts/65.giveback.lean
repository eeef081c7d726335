theorem J.ser {a m : Hp} {s f : Nat} {v : Int32} (H : J a m) (hs : s < 60) (hf : f = 5 ∨ f = 12) (hV : VS (wr m (SA f) s v)) : J (wr a (107 + s) f v) (wr m (SA f) s v) := by
  obtain ⟨⟨C1, C2, C3⟩, S, Q, A, V, hVA, hVS, hVQ, hU1, hU2⟩ := H
  have hsa : SA f = 267 ∨ SA f = 272 := by rcases hf with rfl | rfl <;> decide
  generalize hF : SA f = F at *
  have oa : ∀ p k, p ≠ 107 + s → rd (wr a (107 + s) f v) p k = rd a p k := fun p k hp => rd_ne hp
  have om : ∀ p k, p ≠ 267 → p ≠ 272 → rd (wr m F s v) p k = rd m p k := fun p k h1 h2 => rd_ne (by omega)
  have nq' : nq (wr m F s v) = nq m := by unfold nq; rw [om _ _ (by decide) (by decide)]
  have ns' : ns (wr m F s v) = ns m := by unfold ns; rw [om _ _ (by decide) (by decide)]
  have np' : np (wr m F s v) = np m := by unfold np; rw [om _ _ (by decide) (by decide)]
  refine ⟨⟨?_, ?_, ?_⟩, ?_, ?_, ?_, V.f (by omega) (by omega), hVA.f (by omega), hV, ?_, ?_, ?_⟩
  · rw [nq', oa _ _ (by omega)]; exact C1
  · rw [ns', oa _ _ (by omega)]; exact C2
  · rw [np', oa _ _ (by omega)]; exact C3
  · rw [← hF]
    exact SX.set S hs (by omega)
  · intro j hj g hg g10
    have q := qa_in g hg
    rw [oa _ _ (by omega), om _ _ (by omega) (by omega)]
    exact Q j hj g hg g10
  · exact A.F2 (fun p k h1 h2 => oa _ _ (by omega)) (fun p k h1 h2 => om _ _ (by omega) (by omega))
  · intro k hk
    rw [nq'] at hk
    rw [om _ _ (by decide) (by decide), om _ _ (by decide) (by decide), om _ _ (by decide) (by decide), om _ _ (by decide) (by decide), om _ _ (by decide) (by decide), om _ _ (by decide) (by decide), om _ _ (by decide) (by decide), om _ _ (by decide) (by decide), om _ _ (by decide) (by decide)]
    exact hVQ k hk
  · intro p hp
    rw [np'] at hp
    obtain ⟨k, z1, z2, z3, z4⟩ := hU1 p hp
    exact ⟨k, by rw [nq']; exact z1, by rw [oa _ _ (by omega)]; exact z2, by rw [om _ _ (by decide) (by decide)]; exact z3, by rw [om _ _ (by decide) (by decide)]; exact z4⟩
  · intro k hk hst
    rw [nq'] at hk
    rw [om _ _ (by decide) (by decide)] at hst
    obtain ⟨p, z1, z2, z3⟩ := hU2 k hk hst
    exact ⟨p, by rw [np']; exact z1, by rw [oa _ _ (by omega)]; exact z2, by rw [om _ _ (by decide) (by decide)]; exact z3⟩
theorem m1_lt : ∀ q, q ≤ 60 → ((-1 : Int32) < nI q ↔ 0 ≤ q) := by decide
theorem back_core {h m : Hp} {s f : Nat} {v : Int32} (H : Inv h) (F : Fr PCl h m) (hs : s < ns h) (hf : f = 5 ∨ f = 12) (hV : VS (wr m (SA f) s v)) : ∃ r a' m', f_X6_giveBack_61 (107 + s) (wr h (107 + s) f v) = rtn (some (.int r)) a' ∧ f_X7_giveBack_90 (nI s) (wr m (SA f) s v) = rtn (some (.int r)) m' ∧ J a' m' ∧ Fr PJc h a' ∧ Fr PJm m m' ∧ (∀ j, j < 60 → rd a' (47 + j) 10 = rd h (47 + j) 10) ∧ (∀ j, rd m' 255 j = rd m 255 j) ∧ (∀ j, j < nq m → (rd m' 254 j = 0 ↔ rd m 254 j = 0)) ∧ rdL a' = rdL h ∧ rdL m' = rdL m ∧ rd m' 227 0 = rd m 227 0 ∧ nq m' = nq m := by
  have V := H.2.2.2.2.2.2.2.1
  have s60 := V.s.1
  have J1 := (H.toJ F).ser (v := v) (show s < 60 by omega) hf hV
  have hsa : SA f = 267 ∨ SA f = 272 := by rcases hf with rfl | rfl <;> decide
  have o1 : ∀ p k, p ≠ 267 → p ≠ 272 → rd (wr m (SA f) s v) p k = rd m p k := fun p k h1 h2 => rd_ne (by omega)
  have nsm : ns m = ns h := ns_F F (by unfold PCl; omega)
  have e0 : rd (wr h (107 + s) f v) (107 + s) 0 = rd h 262 s := by
    rw [rd_nk (by omega)]
    exact H.2.1 s (by omega) 0 (by decide)
  have em : rd (wr m (SA f) s v) 262 s = rd h 262 s := by
    rw [o1 _ _ (by decide) (by decide), F 262 s (by unfold PCl; omega)]
  obtain ⟨x, n1, n2⟩ := next_s (ap := rd h 262 s) (p := 0) J1 m1_lt
  have np0 : np (wr m (SA f) s v) = np m := by unfold np; rw [o1 _ _ (by decide) (by decide)]
  have nq0 : nq (wr m (SA f) s v) = nq m := by unfold nq; rw [o1 _ _ (by decide) (by decide)]
  have ns0 : ns (wr m (SA f) s v) = ns m := by unfold ns; rw [o1 _ _ (by decide) (by decide)]
  obtain ⟨r, a', m', w1, w2, w3, w4, w5, w6, w7, w8, w9, w10, w11, w12⟩ := serve_l (s := s) (ap := rd h 262 s) (np m) 0 0 x _ _ (by omega) J1 n2 (by omega) em
  have w1 : f_X6_serveQueueAt_4 (rd h 262 s) 0 0 _ = _ := w1
  have w2 : f_X7_giveBack_106 (nI s) 0 x _ = _ := w2
  refine ⟨r, a', m', ?_, ?_, w3, fun p k hp => ?_, fun p k hp => ?_, fun j hj => ?_, fun j => ?_, fun j hj => ?_, w9, w10, ?_, w12.trans nq0⟩
  · rw [e_X6_giveBack_61, (okc_sr s (by omega)).1, gd_t, e0, e_X6_serveQueueAt_0, w1, bI_r]
  · rw [e_X7_giveBack_90, inb_nI (by omega) (by decide), gd_t, nI_clamp (by omega), em, n1, bI_r]
    exact w2
  · rw [w4 p k hp, rd_ne (fun z => hp (by unfold PJc; omega))]
  · rw [w5 p k hp, rd_ne (fun z => hp (by unfold PJm; omega))]
  · rcases w6 j with z | z
    · rw [z, rd_ne (by omega)]
    · omega
  · rw [w7, o1 _ _ (by decide) (by decide)]
  · rw [w8 j (by omega), o1 _ _ (by decide) (by decide)]
  · rw [w11, o1 _ _ (by decide) (by decide)]
theorem sim_giveBack : SimI Inv F_L_giveBack F_X7_giveBack 2 := by
  intro as h hl hR
  match as, hl with
  | [x, y], _ =>
    show ∃ (k v : Int32) (h1 h2 : Hp), F_L_giveBack [.ref 0, .int x, .int y, .ref 275] h = rtn (some (.int k)) h1 ∧ F_X7_giveBack [.ref 227, .int x, .int y] h1 = rtn (some (.int v)) h2 ∧ _
    have N := hR.1
    have S := hR.2.1
    have V := hR.2.2.2.2.2.2.2.1
    have hVS := hR.2.2.2.2.2.2.2.2.2.1
    have s60 := V.s.1
    cases c1 : ixs x (ns h) with
    | false =>
      refine ⟨1, 0, h, wr h 227 0 1, ?_, ?_, rd_eqw, fun q => absurd q one_ne, hR.quiet (Or.inl ⟨rfl, rfl⟩), Scr.refl, Scr.refl.w (by decide)⟩
      · rw [e_L_giveBack_0, e_X6_giveBack_0, seriesAt_n N V c1]
        rfl
      · rw [e_X7_giveBack_0, isSeries_s V, bI_r, c1, bi_f, if_pos rfl, e_X7_giveBack_53, holds_n one_ne, bI_r, if_pos rfl]
    | true =>
      obtain ⟨s, hs, rfl⟩ := ixs_t V.s.1 c1
      have is : inb (nI s) 60 = true := inb_nI (by omega) (by decide)
      have cs : (nI s).toNatClampNeg = s := nI_clamp (by omega)
      have ok := (okc_sr s (by omega)).1
      obtain ⟨g0, g1, g2, g3, g4, g5, g6, g7, g8, g9, g10, g11, g12⟩ := S.g (k := s) (by omega)
      cases c2 : irg y 0 19 with
      | false =>
        refine ⟨2, 0, h, wr h 227 0 2, ?_, ?_, rd_eqw, fun q => absurd q two_ne, hR.quiet (Or.inl ⟨rfl, rfl⟩), Scr.refl, Scr.refl.w (by decide)⟩
        · rw [e_L_giveBack_0, e_X6_giveBack_0, seriesAt_s N V hs, bR_r, requireRange_s, c2]
          rfl
        · rw [e_X7_giveBack_0, isSeries_s V, bI_r, c1, bi_t, if_neg one_ne, isIn_s, bI_r, c2, bi_f, if_pos rfl, e_X7_giveBack_53, holds_n two_ne, bI_r, if_pos rfl]
      | true =>
        obtain ⟨w, hw, rfl⟩ := irg_nI (n := 19) (by decide) c2
        obtain ⟨v1, v2, v3, v4, v5, v6⟩ := hVS s hs
        obtain ⟨f, l, hfl, hl, ef, el⟩ := irg_fl v4 v5
        by_cases ok3 : rd h 272 s = 0 ∧ w ≤ l
        · obtain ⟨o1, o2⟩ := ok3
          -- what is written: 5 the last week, or 12 that it is gone
          have main : ∀ (fd : Nat) (u : Int32), (fd = 5 ∨ fd = 12) → (∀ m, Fr PCl h m → VS (wr m (SA fd) s u)) → (∀ r, f_X6_giveBack_61 (107 + s) (wr h (107 + s) fd u) = r → F_X6_giveBack [.ref 0, .int (nI s), .int (nI w)] h = r) → (∀ g r, rd g 266 s = rd h 266 s → f_X7_giveBack_90 (nI s) (wr g (SA fd) s u) = r → (if (rd g 266 s) < nI w then gd true (f_X7_giveBack_90 (nI s) (wr g 267 s (nI w - 1))) else gd true (f_X7_giveBack_90 (nI s) (wr g 272 s (vp_nar .boolean 1)))) = r) → ∃ (k v : Int32) (h1 h2 : Hp), F_L_giveBack [.ref 0, .int (nI s), .int (nI w), .ref 275] h = rtn (some (.int k)) h1 ∧ F_X7_giveBack [.ref 227, .int (nI s), .int (nI w)] h1 = rtn (some (.int v)) h2 ∧ rd h2 227 0 = k ∧ (k = 0 → rdL h2 0 = Int32.toInt64 v) ∧ Inv h2 ∧ Scr h h1 ∧ Scr h h2 := by
            intro fd u hfd hV hcl hml
            obtain ⟨r, a', m', b1, -, -, b4, -, -, -, -, -⟩ := back_core (v := u) hR (Fr.refl : Fr PCl h h) hs hfd (hV h Fr.refl)
            have Fm := hq_F (o := Int32.toInt64 r) (w := 0) b4
            obtain ⟨r', a3, g, d1, d2, d3, d4, d5, d6, d7, d8, d9, d10, d11, d12⟩ := back_core (v := u) hR Fm hs hfd (hV _ Fm)
            obtain ⟨rfl, rfl⟩ := rtn_inj (d1.symm.trans b1)
            have V1 : VN (wrL a3 0 (Int32.toInt64 r')) := V.F (g := a3) b4 (by unfold PJc; omega) (by unfold PJc; intros; omega)
            have n1 : ns (wrL a3 0 (Int32.toInt64 r')) = ns h := ns_F (g := a3) b4 (by unfold PJc; omega)
            have n2 : nq (hq a3 (Int32.toInt64 r') 0) = nq h := nq_F Fm (by unfold PCl; omega)
            obtain ⟨w1, w2, w3⟩ := finJ hR b4 d5 d3 d6 (fun j => by rw [d7, Fm 255 j (by unfold PCl; omega)]) (fun j hj => by rw [d8 j (by omega), Fm 254 j (by unfold PCl; omega)])
            refine ⟨0, r', wrL a3 0 (Int32.toInt64 r'), g, ?_, ?_, ?_, fun _ => ?_, w1, w2, w3⟩
            · rw [e_L_giveBack_0, hcl _ d1, bI_r]
              rfl
            · rw [e_X7_giveBack_0, isSeries_s V1, bI_r, n1, c1, bi_t, if_neg one_ne, isIn_s, bI_r, c2, bi_t, if_neg one_ne, is, gd_t, gd_t, cs, rd_wrLx, b4 272 s (by unfold PJc; omega), if_pos o1, rd_wrLx, b4 267 s (by unfold PJc; omega), el, if_neg (nI_nlt (by omega) (by omega)), e_X7_giveBack_53, holds_0, bI_r, if_neg one_ne, is, gd_t, cs]
              exact hml (hq a3 (Int32.toInt64 r') 0) _ (Fm 266 s (by unfold PCl; omega)) d2
            · rw [d11]
              exact hq_w
            · rw [d10]
              exact hq_o
          by_cases c3 : f < w
          · refine main 5 (nI w - 1) (Or.inl rfl) ?_ ?_ ?_
            · intro m F k hk
              have nsm : ns (wr m (SA 5) s (nI w - 1)) = ns h := by
                unfold ns
                rw [rd_ne (show (227 : Nat) ≠ SA 5 by decide), F 227 37 (by unfold PCl; omega)]
              rw [nsm] at hk
              have o : ∀ p k, 228 ≤ p → p ≠ 267 → rd (wr m (SA 5) s (nI w - 1)) p k = rd h p k := fun p k h1 h2 => by
                rw [rd_ne (show p ≠ SA 5 from h2), F p k (by unfold PCl; omega)]
              rw [o 262 k (by decide) (by decide), o 264 k (by decide) (by decide), o 265 k (by decide) (by decide), o 266 k (by decide) (by decide), o 260 k (by decide) (by decide)]
              obtain ⟨u1, u2, u3, u4, u5, u6⟩ := hVS k hk
              by_cases ck : k = s
              · subst ck
                rw [show rd (wr m (SA 5) k (nI w - 1)) 267 k = nI w - 1 from rd_eqw]
                refine ⟨u1, u2, u3, u4, ?_, u6⟩
                rw [ef, show (1 : Int32) = nI 1 from rfl, nI_subN (by omega), show (19 : Int32) = nI 19 from rfl, irg_nn (by omega) (by omega) (by omega), decide_eq_true (show f ≤ w - 1 by omega), decide_eq_true (show w - 1 ≤ 19 by omega)]
                rfl
              · rw [show rd (wr m (SA 5) s (nI w - 1)) 267 k = rd m 267 k from rd_nk ck, F 267 k (by unfold PCl; omega)]
                exact ⟨u1, u2, u3, u4, u5, u6⟩
            · intro r hr
              rw [e_X6_giveBack_0, seriesAt_s N V hs, bR_r, requireRange_s, c2]
              show gd (okc (107 + s) 5) _ = _
              rw [ok]
              simp only [gd_t]
              rw [g12, if_pos o1, g5, el, if_neg (nI_nlt (by omega) (by omega)), g4, ef, if_pos (nI_lt c3 (by omega))]
              exact hr
            · intro g r h1 h2
              rw [h1, ef, if_pos (nI_lt c3 (by omega)), gd_t]
              exact h2
          · refine main 12 1 (Or.inr rfl) ?_ ?_ ?_
            · intro m F
              have hm : VS m := hVS.F F (by unfold PCl; intros; omega) (by unfold PCl; omega)
              exact hm.f (by decide) (fun z => absurd (show SA 12 = 227 from z.1) (by decide))
            · intro r hr
              rw [e_X6_giveBack_0, seriesAt_s N V hs, bR_r, requireRange_s, c2]
              show gd (okc (107 + s) 5) _ = _
              rw [ok]
              simp only [gd_t]
              rw [g12, if_pos o1, g5, el, if_neg (nI_nlt (by omega) (by omega)), g4, ef, if_neg (nI_nlt (by omega) (by omega))]
              exact hr
            · intro g r h1 h2
              rw [h1, ef, if_neg (nI_nlt (by omega) (by omega)), gd_t, nar_b.1]
              exact h2
        · refine ⟨3, 0, h, wr h 227 0 3, ?_, ?_, rd_eqw, fun q => absurd q three_ne, hR.quiet (Or.inl ⟨rfl, rfl⟩), Scr.refl, Scr.refl.w (by decide)⟩
          · rw [e_L_giveBack_0, e_X6_giveBack_0, seriesAt_s N V hs, bR_r, requireRange_s, c2]
            show bI (gd (okc (107 + s) 5) _) _ _ = _
            rw [ok]
            simp only [gd_t, e_X6_giveBack_28]
            rw [g12, g5]
            by_cases o1 : rd h 272 s = 0
            · have o2 : ¬ w ≤ l := fun z => ok3 ⟨o1, z⟩
              rw [if_pos o1, el, if_pos (nI_lt (by omega) (by omega))]
              rfl
            · rw [if_neg o1]
              rfl
          · rw [e_X7_giveBack_0, isSeries_s V, bI_r, c1, bi_t, if_neg one_ne, isIn_s, bI_r, c2, bi_t, if_neg one_ne, is, gd_t, gd_t, cs, e_X7_giveBack_48]
            have q : f_X7_giveBack_53 (nI s) (nI w) 3 h = rtn (some (.int 0)) (wr h 227 0 3) := by
              rw [e_X7_giveBack_53, holds_n three_ne, bI_r, if_pos rfl]
            by_cases o1 : rd h 272 s = 0
            · have o2 : ¬ w ≤ l := fun z => ok3 ⟨o1, z⟩
              rw [if_pos o1, el, if_pos (nI_lt (by omega) (by omega))]
              exact q
            · rw [if_neg o1]
              exact q
