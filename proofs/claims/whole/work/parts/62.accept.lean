theorem sim_accept : SimB Inv F_L_accept F_X7_accept 1 := by
  intro as h hl hR
  match as, hl with
  | [x], _ =>
    show ∃ (k v : Int32) (h1 h2 : Hp), F_L_accept [.ref 0, .int x, .ref 275] h = rtn (some (.int k)) h1 ∧ F_X7_accept [.ref 227, .int x] h1 = rtn (some (.int v)) h2 ∧ _
    have N := hR.1
    have QQ := hR.2.2.1
    have V := hR.2.2.2.2.2.2.2.1
    have hVQ := hR.2.2.2.2.2.2.2.2.2.2.1
    have h60 := V.q.1
    cases c1 : ixs x (nq h) with
    | false =>
      refine ⟨1, 0, h, wr h 227 0 1, ?_, ?_, rd_eqw, fun q => absurd q one_ne, hR.quiet (Or.inl ⟨rfl, rfl⟩), Scr.refl, Scr.refl.w (by decide)⟩
      · rw [e_L_accept_0, e_X6_accept_0, requestAt_n N V c1]
        rfl
      · rw [e_X7_accept_0, isRequest_s V, bI_r, c1, bi_f, if_pos rfl, e_X7_accept_30, holds_n one_ne, bI_r, if_pos rfl]
    | true =>
      obtain ⟨i, hi, rfl⟩ := ixs_t V.q.1 c1
      obtain ⟨g0, g1, g2, g3, g4, g5, g6, g7, g8, g9, g11, g12, g13⟩ := QQ.g (k := i) (by omega)
      have ii : inb (nI i) 60 = true := inb_nI (by omega) (by decide)
      have ci : (nI i).toNatClampNeg = i := nI_clamp (by omega)
      have oq := (okc_rq i (by omega)).1
      by_cases c2 : rd h 254 i = 2
      · obtain ⟨v1, v2, v3, v4, v5, v6, v7, v8, v9, v10, v11⟩ := hVQ i hi
        obtain ⟨t, ht, et⟩ := irg_71 (v10 c2)
        obtain ⟨y, a2, r1, r2, r3, r4, r5⟩ := (hR.toJ (Fr.refl : Fr PCl h h)).reason hi ht
        have F2 : Fr PJc h a2 := t10_F Fr.refl r3
        have cls : ∀ r : Res, (if y = 0 then bV (F_X6_give [.ref 0, .int (nI i), .int (nI t)] a2) (fun h5 => rtn (some (.int 1)) h5) (hnk []) else rtn (some (.int 0)) (wr (wr a2 (47 + i) 9 3) (47 + i) 12 (-1))) = r → F_X6_accept [.ref 0, .int (nI i)] h = r := fun r e => by
          rw [e_X6_accept_0, requestAt_s N V hi, bR_r, oq]
          simp only [gd_t]
          rw [g9, g12, if_pos c2, et, r1, bI_r]
          exact e
        -- the reference's side, behind whatever the class has done
        have mdl : ∀ a' o, Fr PJc h a' → ∀ r : Res, (if y = 0 then bV (F_X7_gives [.ref 227, .int (nI i), .int (nI t)] (hq a' o 0)) (fun h1 => rtn (some (.int 1)) h1) (hnk []) else rtn (some (.int 0)) (wr (wr (hq a' o 0) 254 i 3) 257 i (-1))) = r → F_X7_accept [.ref 227, .int (nI i)] (wrL a' 0 o) = r := fun a' o Fa r e => by
          have Fm := hq_F (o := o) (w := 0) Fa
          have J0 := hR.toJ Fm
          have V1 : VN (wrL a' 0 o) := V.F (g := a') Fa (by unfold PJc; omega) (by unfold PJc; intros; omega)
          have n1 : nq (wrL a' 0 o) = nq h := nq_F (g := a') Fa (by unfold PJc; omega)
          have n2 : nq (hq a' o 0) = nq h := nq_F Fm (by unfold PCl; omega)
          obtain ⟨y', a3, s1, s2, s3, s4, s5⟩ := J0.reason (by rw [n2]; exact hi) ht
          obtain ⟨rfl, -⟩ := rtn_inj (s1.symm.trans r1)
          have o257 : rd (hq a' o 0) 257 i = nI t := (Fm 257 i (by unfold PCl; omega)).trans et
          rw [e_X7_accept_0, isRequest_s V1, bI_r, n1, c1, bi_t, if_neg one_ne, ii, gd_t, ci, rd_wrLx, Fa 254 i (by unfold PJc; omega), if_pos c2, e_X7_accept_30, holds_0, bI_r, if_neg one_ne, ii, gd_t, ci]
          show bI (F_X7_reason [.ref 227, .int (nI i), .int (rd (hq a' o 0) 257 i)] (hq a' o 0)) _ _ = r
          rw [o257, s2, bI_r, ← e]
          by_cases c : y' = 0
          · rw [if_pos c, if_pos c, e_X7_accept_57, if_neg one_ne, ii, gd_t, ci, o257]
            rfl
          · rw [if_neg c, if_neg c, e_X7_accept_57, if_pos rfl, ii, gd_t, gd_t, ci]
            rfl
        by_cases c3 : y = 0
        · obtain ⟨p1, -, -, -, -, -⟩ := give_J (x := nI t) r5 hi (by rw [c2]; decide) (by rw [← et]; exact v10 c2)
          generalize ha3 : gvc a2 (ns h) i (nI t) = a3 at p1
          have hn : ns h < 60 := V.ns60 hi (by rw [c2]; decide)
          have F3 : Fr PJc h a3 := fun p k hp => by
            rw [← ha3, (gvc_F.resolve_right (fun q => q ⟨hn, by omega⟩)) p k hp, F2 p k hp]
          have Fm := hq_F (o := Int64.ofNat 1) (w := 0) F3
          have J0 := hR.toJ Fm
          have n2 : nq (hq a3 (Int64.ofNat 1) 0) = nq h := nq_F Fm (by unfold PCl; omega)
          have n3 : ns (hq a3 (Int64.ofNat 1) 0) = ns h := ns_F Fm (by unfold PCl; omega)
          have o254 : rd (hq a3 (Int64.ofNat 1) 0) 254 i = 2 := (Fm 254 i (by unfold PCl; omega)).trans c2
          obtain ⟨-, q2, q3, q4, q5, q6⟩ := give_J (x := nI t) (J0.t10 r3) (by rw [n2]; exact hi) (by rw [o254]; decide) (by rw [← et]; exact v10 c2)
          rw [n3] at q2 q3 q5
          rw [ha3] at q3
          generalize hg : gvm (hq a3 (Int64.ofNat 1) 0) (ns h) i (nI t) = g at q2 q3 q5
          have Fg : Fr PJm (hq a3 (Int64.ofNat 1) 0) g := by rw [← hg]; exact gvm_F
          obtain ⟨w1, w2, w3⟩ := finJ hR F3 Fg q3 (fun j hj => by
              rw [← ha3, gvc_o (by omega) (by omega) (by omega), r3 _ _ (by unfold T10; omega)]) (fun j => by
              rw [← hg, gvm_o (by omega) (by omega) (by omega)]
              exact Fm 255 j (by unfold PCl; omega)) (fun j hj => by
              rw [← hg]
              by_cases c : j = i
              · subst c
                rw [show rd (gvm (hq a3 (Int64.ofNat 1) 0) (ns h) j (nI t)) 254 j = 1 by simp [gvm, rd_wrx], c2]
                decide
              · rw [gvm_o (by omega) (by omega) (by omega), Fm 254 j (by unfold PCl; omega)])
          refine ⟨0, 1, wrL a3 0 (Int64.ofNat 1), g, ?_, mdl a3 _ F3 _ ?_, ?_, fun _ => ?_, w1, w2, w3⟩
          · rw [e_L_accept_0, cls (rtn (some (.int 1)) a3) (by rw [if_pos c3, p1, bV_r]), bI_r, if_neg one_ne]
            rfl
          · rw [if_pos c3, q2, bV_r]
          · rw [← hg, gvm_o (by omega) (by omega) (by omega)]
            exact hq_w
          · rw [← hg]
            rfl
        · generalize ha3 : wr (wr a2 (47 + i) 9 3) (47 + i) 12 (-1) = a3
          have F3 : Fr PJc h a3 := by
            rw [← ha3]
            exact (F2.w (by unfold PJc; omega)).w (by unfold PJc; omega)
          have Fm := hq_F (o := Int64.ofNat 0) (w := 0) F3
          have J0 := hR.toJ Fm
          have n2 : nq (hq a3 (Int64.ofNat 0) 0) = nq h := nq_F Fm (by unfold PCl; omega)
          have o254 : rd (hq a3 (Int64.ofNat 0) 0) 254 i = 2 := (Fm 254 i (by unfold PCl; omega)).trans c2
          have q3 := acc_J (J0.t10 r3) (by rw [n2]; exact hi) o254
          rw [ha3] at q3
          generalize hg : wr (wr (hq a3 (Int64.ofNat 0) 0) 254 i 3) 257 i (-1) = g at q3
          have Fg : Fr PJm (hq a3 (Int64.ofNat 0) 0) g := by
            rw [← hg]
            exact (Fr.refl.w (by unfold PJm; omega)).w (by unfold PJm; omega)
          obtain ⟨w1, w2, w3⟩ := finJ hR F3 Fg q3 (fun j hj => by
              rw [← ha3, rd_nk (by decide), rd_nk (by decide), r3 _ _ (by unfold T10; omega)]) (fun j => by
              rw [← hg, rd_ne (by decide), rd_ne (by decide)]
              exact Fm 255 j (by unfold PCl; omega)) (fun j hj => by
              rw [← hg, rd_ne (by decide)]
              by_cases c : j = i
              · subst c
                rw [rd_eqw, c2]
                decide
              · rw [rd_nk c, Fm 254 j (by unfold PCl; omega)])
          refine ⟨0, 0, wrL a3 0 (Int64.ofNat 0), g, ?_, mdl a3 _ F3 _ ?_, ?_, fun _ => ?_, w1, w2, w3⟩
          · rw [e_L_accept_0, cls (rtn (some (.int 0)) a3) (by rw [if_neg c3, ha3]), bI_r, if_pos rfl]
            rfl
          · rw [if_neg c3, hg]
          · rw [← hg, rd_ne (by decide), rd_ne (by decide)]
            exact hq_w
          · rw [← hg]
            rfl
      · refine ⟨2, 0, h, wr h 227 0 2, ?_, ?_, rd_eqw, fun q => absurd q two_ne, hR.quiet (Or.inl ⟨rfl, rfl⟩), Scr.refl, Scr.refl.w (by decide)⟩
        · rw [e_L_accept_0, e_X6_accept_0, requestAt_s N V hi, bR_r, oq, gd_t, g9, if_neg c2]
          rfl
        · rw [e_X7_accept_0, isRequest_s V, bI_r, c1, bi_t, if_neg one_ne, ii, gd_t, ci, if_neg c2, e_X7_accept_30, holds_n two_ne, bI_r, if_pos rfl]
