section DEC
variable {h a m : Hp} {x : Int32} {i j k t n p r T : Nat}
theorem are_cnt : fsum (areF x m) 0 n 0 = nI (cnt (fun k => decide (rd m 254 k = x)) n) := by
  have e : areF x m = fun k => bi (decide (rd m 254 k = x)) := funext fun k => by
    unfold areF
    by_cases c : rd m 254 k = x
    · rw [if_pos c, decide_eq_true c]
      rfl
    · rw [if_neg c, decide_eq_false c]
      rfl
  have q := fsum_cnt (p := fun k => decide (rd m 254 k = x)) n 0 0
  rw [e]
  rw [Nat.zero_add] at q
  have e2 : (fun j => decide (rd m 254 (0 + j) = x)) = fun k => decide (rd m 254 k = x) := funext fun j => by rw [Nat.zero_add]
  rw [e2] at q
  exact q
theorem pj1_c {a' : Hp} (F : Fr PJ1 a a') : (∀ j, rd a' 7 j = rd a 7 j) ∧ ∀ j, j < 60 → rd a' (47 + j) 10 = rd a (47 + j) 10 := ⟨fun j => F _ _ (by unfold PJ1; omega), fun j hj => F _ _ (by unfold PJ1; omega)⟩
theorem dec_l (hT : T ≤ 60) : ∀ (n j g : Nat) (a m : Hp), j + n = T → J a m → LKs m → (∀ j, j < T → ∃ r, r < nq m ∧ rd a 7 j = nI r ∧ rd m 274 j = nI r) → rd m 227 52 = nI T → ∃ (v : Nat) (a' m' : Hp), f_X6_confer_31 (nI T) (nI g) (nI j) a = rtn (some (.int (nI v))) a' ∧ f_X7_confer_34 x (nI j) m = rtn (some (.int (nI (gcn m') - x))) m' ∧ v + gcn m = gcn m' + g ∧ J a' m' ∧ LKs m' ∧ Fr PJ1 a a' ∧ Fr PM1 m m' ∧ rdL a' = rdL a ∧ rdL m' = rdL m
  | 0, j, g, a, m, e, H, K, E, e52 => by
    obtain rfl : j = T := by omega
    refine ⟨g, a, m, ?_, ?_, by omega, H, K, Fr.refl, Fr.refl, rfl, rfl⟩
    · rw [e_X6_confer_31, if_neg (nI_nlt (by omega) (by omega))]
    · rw [e_X7_confer_34, e52, if_neg (nI_nlt (by omega) (by omega)), countOf_s H.2.2.2.2.1, bI_r, are_cnt]
      rfl
  | n + 1, j, g, a, m, e, H, K, E, e52 => by
    obtain ⟨⟨C1, C2, C3⟩, S, Q, A, V, hVA, hVS, hVQ, hU1, hU2⟩ := id H
    have h60 := V.q.1
    obtain ⟨r, hr, e7, e274⟩ := E j (by omega)
    have okq := (okc_rq r (by omega)).1
    have ij : inb (nI j) 60 = true := inb_nI (by omega) (by decide)
    have cj : (nI j).toNatClampNeg = j := nI_clamp (by omega)
    have ir : inb (nI r) 60 = true := inb_nI (by omega) (by decide)
    have cr : (nI r).toNatClampNeg = r := nI_clamp (by omega)
    have q9 : rd a (47 + r) 9 = rd m 254 r := Q r (by omega) 9 (by decide) (by decide)
    have q13 : rd a (47 + r) 13 = rd m 258 r := Q r (by omega) 13 (by decide) (by decide)
    have cls : f_X6_confer_31 (nI T) (nI g) (nI j) a = (if rd m 254 r = 0 then (if rd m 258 r = -1 then bI (F_X6_decideAlone [.ref 0, .int (nI r)] a) (fun v4 h3 => f_X6_confer_31 (nI T) (nI g + v4) (nI (j + 1)) h3) (hnk []) else bI (F_X6_decidePair [.ref 0, .int (nI r), .int (rd m 258 r)] a) (fun v6 h5 => f_X6_confer_31 (nI T) (nI g + v6) (nI (j + 1)) h5) (hnk [])) else f_X6_confer_31 (nI T) (nI g) (nI (j + 1)) a) := by
      rw [e_X6_confer_31, if_pos (nI_lt (by omega) (by omega)), if_pos (show nI j < 60 from nI_lt (a := j) (b := 60) (by omega) (by decide)), ij, gd_t, cj, e7, req_g C1 h60 hr, bR_r, okq]
      simp only [gd_t, e_X6_confer_103, e_X6_confer_105, nI_1]
      rw [q9, q13, e7]
    have mdl : f_X7_confer_34 x (nI j) m = (if rd m 254 r = 0 then bV (F_X7_looksAt [.ref 227, .int (nI r)] m) (fun h1 => f_X7_confer_34 x (nI (j + 1)) h1) (hnk []) else f_X7_confer_34 x (nI (j + 1)) m) := by
      rw [e_X7_confer_34, e52, if_pos (nI_lt (by omega) (by omega)), ij, gd_t, cj, e274, ir, gd_t, cr, gd_t]
      simp only [e_X7_confer_66, nI_1]
    rw [cls, mdl]
    -- what comes behind a look
    have go : ∀ (u : Nat) (a1 m1 : Hp), J a1 m1 → LKs m1 → gcn m1 = gcn m + u → Fr PJ1 a a1 → Fr PM1 m m1 → rdL a1 = rdL a → rdL m1 = rdL m → ∃ (v : Nat) (a' m' : Hp), f_X6_confer_31 (nI T) (nI g + nI u) (nI (j + 1)) a1 = rtn (some (.int (nI v))) a' ∧ f_X7_confer_34 x (nI (j + 1)) m1 = rtn (some (.int (nI (gcn m') - x))) m' ∧ v + gcn m = gcn m' + g ∧ J a' m' ∧ LKs m' ∧ Fr PJ1 a a' ∧ Fr PM1 m m' ∧ rdL a' = rdL a ∧ rdL m' = rdL m := by
      intro u a1 m1 J1 K1 g1 Fa Fm z1 z2
      have nq1 : nq m1 = nq m := nq_F Fm (by unfold PM1; omega)
      obtain ⟨v, a', m', w1, w2, w3, w4, w5, w6, w7, w8, w9⟩ := dec_l hT n (j + 1) (g + u) a1 m1 (by omega) J1 K1 (fun i hi => by
        obtain ⟨s, s1, s2, s3⟩ := E i hi
        exact ⟨s, by rw [nq1]; exact s1, by rw [(pj1_c Fa).1]; exact s2, by rw [Fm 274 i (by unfold PM1; omega)]; exact s3⟩) (by rw [Fm 227 52 (by unfold PM1; omega)]; exact e52)
      refine ⟨v, a', m', ?_, w2, by omega, w4, w5, Fa.tr w6, Fm.tr w7, w8.trans z1, w9.trans z2⟩
      rw [nI_add]
      exact w1
    by_cases c : rd m 254 r = 0
    · rw [if_pos c, if_pos c]
      by_cases d : rd m 258 r = -1
      · rw [if_pos d]
        obtain ⟨b, a1, m1, p1, p2, p3, p4, p5, p6, p7, p8, p9⟩ := alone_J H K hr c d
        rw [p1, p2, bI_r, bV_r]
        cases b with
        | true =>
          rw [show bi true = nI 1 from rfl]
          exact go 1 a1 m1 p3 p4 p5 p6 p7 p8 p9
        | false =>
          rw [show bi false = nI 0 from rfl]
          exact go 0 a1 m1 p3 p4 p5 p6 p7 p8 p9
      · rw [if_neg d]
        obtain ⟨q, q1, q2, q3, q4, q5⟩ := (K r hr).resolve_left d
        obtain ⟨u, a1, m1, p1, p2, p3, p4, p5, p6, p7, p8, p9⟩ := pair_J H K hr q1 q2 c (q5.mp c) q3 q4
        rw [q3, p1, p2, bI_r, bV_r]
        exact go u a1 m1 p3 p4 p5 p6 p7 p8 p9
    · rw [if_neg c, if_neg c]
      obtain ⟨v, a', m', w⟩ := go 0 a m H K rfl Fr.refl Fr.refl rfl rfl
      rw [show nI g + nI 0 = nI g from by rw [nI_add, Nat.add_zero]] at w
      exact ⟨v, a', m', w⟩
theorem J.mv {a' m' : Hp} (H : J a m) (oa : ∀ p k, ¬ POc p k → rd a' p k = rd a p k) (om : ∀ p k, 227 ≤ p → ¬ (p = 255 ∨ p = 274 ∨ (p = 227 ∧ (k = 0 ∨ k = 52))) → rd m' p k = rd m p k) : J a' m' := by
  obtain ⟨⟨C1, C2, C3⟩, S, Q, A, V, hVA, hVS, hVQ, hU1, hU2⟩ := H
  have F : Fr (fun p k => p < 227 ∨ p = 255 ∨ p = 274 ∨ (p = 227 ∧ (k = 0 ∨ k = 52))) m m' := fun p k hp => om p k (by omega) (fun z => hp (Or.inr z))
  have nq' : nq m' = nq m := nq_F F (by omega)
  have ns' : ns m' = ns m := ns_F F (by omega)
  have np' : np m' = np m := np_F F (by omega)
  refine ⟨⟨?_, ?_, ?_⟩, ?_, ?_, ?_, V.F F (by intros; omega) (by intros; omega), hVA.F F (by intros; omega), hVS.F F (by intros; omega) (by omega), ?_, ?_, ?_⟩
  · rw [nq', oa _ _ (by unfold POc; omega)]; exact C1
  · rw [ns', oa _ _ (by unfold POc; omega)]; exact C2
  · rw [np', oa _ _ (by unfold POc; omega)]; exact C3
  · intro i hi f hf
    have q := sa_in f hf
    rw [oa _ _ (by unfold POc; omega), om _ _ (by omega) (by omega)]
    exact S i hi f hf
  · intro i hi f hf f10
    have q := qa_in f hf
    have q2 : QA f ≠ 255 := fun z => f10 (qa_inj f hf 10 (by decide) z)
    rw [oa _ _ (by unfold POc; omega), om _ _ (by omega) (by omega)]
    exact Q i hi f hf f10
  · exact A.F2 (fun p k h1 h2 => oa _ _ (by unfold POc; omega)) (fun p k h1 h2 => om _ _ (by omega) (by omega))
  · intro k hk
    rw [nq'] at hk
    rw [om 246 _ (by omega) (by omega), om 248 _ (by omega) (by omega), om 249 _ (by omega) (by omega), om 250 _ (by omega) (by omega), om 251 _ (by omega) (by omega), om 245 _ (by omega) (by omega), om 254 _ (by omega) (by omega), om 256 _ (by omega) (by omega), om 257 _ (by omega) (by omega)]
    exact hVQ k hk
  · intro p hp
    rw [np'] at hp
    obtain ⟨k, z1, z2, z3, z4⟩ := hU1 p hp
    exact ⟨k, by rw [nq']; exact z1, by rw [oa _ _ (by unfold POc; omega)]; exact z2, by rw [om _ _ (by omega) (by omega)]; exact z3, by rw [om _ _ (by omega) (by omega)]; exact z4⟩
  · intro k hk hst
    rw [nq'] at hk
    rw [om _ _ (by omega) (by omega)] at hst
    obtain ⟨p, z1, z2, z3⟩ := hU2 k hk hst
    exact ⟨p, by rw [np']; exact z1, by rw [oa _ _ (by unfold POc; omega)]; exact z2, by rw [om _ _ (by omega) (by omega)]; exact z3⟩
def PMx (p k : Nat) : Prop := PM1 p k ∨ p = 255 ∨ p = 274 ∨ (p = 227 ∧ k = 52)
theorem conf_core (H : Inv h) (Fm : Fr PSm h m) (h255 : ∀ j, rd m 255 j = rd h 255 j) (hc : fsum (areF 0 h) 0 (nq h) 0 ≠ 0) : ∃ (v : Nat) (a m3 : Hp), F_X6_confer [.ref 0] h = rtn (some (.int (nI v))) a ∧ bV (F_X7_sorts [.ref 227] m) (fun h5 => f_X7_confer_34 (nI (gcn h)) 0 h5) (hnk []) = rtn (some (.int (nI v))) m3 ∧ J a m3 ∧ LKs m3 ∧ (∀ i, i < nq h → rd a (47 + i) 10 = rd m3 255 i) ∧ Fr PJc h a ∧ Fr PMx m m3 ∧ rdL a = rdL h ∧ rdL m3 = rdL m ∧ nq m3 = nq h := by
  have V := H.2.2.2.2.2.2.2.1
  have h60 := V.q.1
  obtain ⟨a1, b1, b2, b3, b4⟩ := sortAll_l H (nq h) 0 h (by omega) Fr.refl (fun j hj => by omega) (fun j _ _ => rfl)
  have b1 : f_X6_sortAllAsked_2 0 h = rtn none a1 := b1
  obtain ⟨m1, c1, c2, c3, c4, c5⟩ := sorts_l H (nq h) 0 m (by omega) Fm (fun j hj => by omega) (fun j _ => h255 j)
  have c1 : f_X7_sorts_2 0 m = f_X7_sorts_52 0 (wr m1 227 52 0) := c1
  obtain ⟨T, a2, m2, d1, d2, d3, d4, d5, d6, d7, d8, d9, d10, d11⟩ := order_J (m := wr m1 227 52 0) H b2 b3 (c2.w (by unfold PSm; omega)) (fun j hj => by rw [rd_ne (by decide)]; exact c4 j hj) rd_eqw
  have nq2 : nq m2 = nq h := nq_F d6 (by unfold PSm; omega)
  have J2 : J a2 m2 := J.mv (H.toJ (Fr.refl : Fr PCl h h)) (fun p k hp => d9 p k hp) (fun p k h1 h2 => d6 p k (fun z => by unfold PSm at z; omega))
  have K2 : LKs m2 := LKs.of H nq2 (fun k hk => by rw [d6 254 k (by unfold PSm; omega)]) (fun k => d6 258 k (by unfold PSm; omega))
  have g2 : gcn m2 = gcn h := by
    unfold gcn
    rw [nq2]
    exact cnt_ext _ (fun k hk => by rw [d6 254 k (by unfold PSm; omega)])
  obtain ⟨v, a3, m3, w1, w2, w3, w4, w5, w6, w7, w8, w9⟩ := dec_l (x := nI (gcn h)) d3 T 0 0 a2 m2 (by omega) J2 K2 (fun j hj => by
    obtain ⟨r, r1, r2, r3⟩ := d4 j hj
    exact ⟨r, by rw [nq2]; exact r1, r2, r3⟩) d5
  have w1 : f_X6_confer_31 (nI T) 0 0 a2 = rtn (some (.int (nI v))) a3 := w1
  have w2 : f_X7_confer_34 (nI (gcn h)) 0 m2 = _ := w2
  have nq3 : nq m3 = nq h := (nq_F w7 (by unfold PM1; omega)).trans nq2
  refine ⟨v, a3, m3, ?_, ?_, w4, w5, fun i hi => ?_, fun p k hp => ?_, fun p k hp => ?_, ?_, ?_, nq3⟩
  · rw [e_X6_confer_0, requestsThatAre_s H.1 V H.2.2.1, bI_r, if_neg hc, e_X6_sortAllAsked_0, b1, bV_r, d1, bI_r]
    exact w1
  · rw [e_X7_sorts_0, c1, d2, bV_r, w2]
    congr 3
    rw [show gcn m3 = v + gcn h by omega, ← nI_add, Int32.add_sub_cancel]
  · rw [(pj1_c w6).2 i (by omega), d10 i hi, w7 255 i (by unfold PM1; omega), d7 255 i (by unfold POm; omega), rd_ne (by decide), c4 i hi]
  · rw [w6 p k (fun z => hp (by unfold PJ1 at z; unfold PJc; omega)), d9 p k (fun z => hp (by unfold POc at z; unfold PJc; omega))]
  · rw [w7 p k (fun z => hp (Or.inl z)), d7 p k (fun z => hp (by unfold POm at z; unfold PMx; omega)), rd_wrx, if_neg (fun z => hp (by unfold PMx; omega)), c3 p k (fun z => hp (Or.inr (Or.inl z)))]
  · rw [w8, d11, b4]
  · rw [w9, d8]
    show rdL m1 = rdL m
    exact c5
end DEC
theorem sim_confer : SimI Inv F_L_confer F_X7_confer 0 := by
  intro as h hl hR
  match as, hl with
  | [], _ =>
    show ∃ (k v : Int32) (h1 h2 : Hp), F_L_confer [.ref 0, .ref 275] h = rtn (some (.int k)) h1 ∧ F_X7_confer [.ref 227] h1 = rtn (some (.int v)) h2 ∧ _
    have N := hR.1
    have V := hR.2.2.2.2.2.2.2.1
    have QQ := hR.2.2.1
    have h60 := V.q.1
    by_cases hc : fsum (areF 0 h) 0 (nq h) 0 = 0
    · refine ⟨1, 0, h, wr h 227 0 1, ?_, ?_, rd_eqw, fun q => absurd q one_ne, hR.quiet (Or.inl ⟨rfl, rfl⟩), Scr.refl, Scr.refl.w (by decide)⟩
      · rw [e_L_confer_0, e_X6_confer_0, requestsThatAre_s N V QQ, bI_r, if_pos hc]
        rfl
      · rw [e_X7_confer_0, countOf_s V, bI_r, if_pos hc, e_X7_confer_14, holds_n one_ne, bI_r, if_pos rfl]
    · obtain ⟨v, a, m3, p1, -, -, -, -, p6, -, p8, -, -⟩ := conf_core (m := h) hR Fr.refl (fun j => rfl) hc
      have F0 : Fr PSm h (hq a (Int32.toInt64 (nI v)) 0) := fun p k hp => by
        unfold hq
        rw [rd_wrx, if_neg (fun z => hp (by unfold PSm; omega)), rd_wrLx, p6 p k (fun z => hp (by unfold PJc at z; unfold PSm; omega))]
      obtain ⟨v', a', g, q1, q2, q3, q4, q5, q6, q7, q8, q9, q10⟩ := conf_core hR F0 (fun j => by rw [hq_rd (by decide), p6 255 j (by unfold PJc; omega)]) hc
      obtain ⟨ev, rfl⟩ := rtn_inj (q1.symm.trans p1)
      rw [ev] at q2
      have V1 : VN (wrL a' 0 (Int32.toInt64 (nI v))) := V.F (g := a') p6 (by unfold PJc; omega) (by unfold PJc; intros; omega)
      have V0 : VN (hq a' (Int32.toInt64 (nI v)) 0) := hq_V (V.F p6 (by unfold PJc; omega) (by unfold PJc; intros; omega))
      have n1 : nq (wrL a' 0 (Int32.toInt64 (nI v))) = nq h := nq_F (g := a') p6 (by unfold PJc; omega)
      have n0 : nq (hq a' (Int32.toInt64 (nI v)) 0) = nq h := nq_F F0 (by unfold PSm; omega)
      have hcl : ∀ p k, p < 227 → rd g p k = rd a' p k := fun p k hp => by
        rw [q7 p k (by unfold PMx PM1; omega), hq_rd (by omega)]
      have Fg : ∀ p k, 227 ≤ p → ¬ PJm p k → rd g p k = rd h p k := fun p k h1 h2 => by
        rw [q7 p k (fun z => h2 (by unfold PMx PM1 at z; unfold PJm; omega))]
        unfold hq
        rw [rd_wrx, if_neg (fun z => h2 (by unfold PJm; omega)), rd_wrLx, p6 p k (by unfold PJc; omega)]
      refine ⟨0, nI v, wrL a' 0 (Int32.toInt64 (nI v)), g, ?_, ?_, ?_, fun _ => ?_, hR.ofJ p6 hcl Fg q3 (fun i _ hi _ => q5 i (by omega)) q4, ?_, ?_⟩
      · rw [e_L_confer_0, p1, bI_r]
        rfl
      · have ar : areF 0 (wrL a' 0 (Int32.toInt64 (nI v))) = areF 0 h := funext fun k => by
          unfold areF
          rw [rd_wrLx, p6 254 k (by unfold PJc; omega)]
        have gc : cnt (fun k => decide (rd (hq a' (Int32.toInt64 (nI v)) 0) 254 k = 1)) (nq h) = gcn h := by
          unfold gcn
          exact cnt_ext _ (fun k hk => by rw [F0 254 k (by unfold PSm; omega)])
        rw [e_X7_confer_0, countOf_s V1, bI_r, ar, n1, if_neg hc, e_X7_confer_14, holds_0, bI_r, if_neg one_ne]
        show bI (F_X7_countOf [.ref 227, .int 1] (hq a' (Int32.toInt64 (nI v)) 0)) _ _ = _
        rw [countOf_s V0, bI_r, are_cnt, n0, gc]
        exact q2
      · rw [q7 227 0 (by unfold PMx PM1; omega)]
        exact hq_w
      · rw [q9]
        exact hq_o
      · exact ⟨fun j => by rw [rd_wrLx]; exact p6 1000 j (by unfold PJc; omega), by rw [rd_wrLx]; exact p6 1001 0 (by unfold PJc; omega)⟩
      · exact ⟨fun j => Fg 1000 j (by decide) (by unfold PJm; omega), Fg 1001 0 (by decide) (by unfold PJm; omega)⟩
