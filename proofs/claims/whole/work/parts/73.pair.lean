section PAIR
variable {a m : Hp} {x s v : Int32} {i j k t n p r : Nat}
theorem rdL_gvm : rdL (gvm m n i x) = rdL m := funext fun q => by
  unfold gvm
  simp only [rdL_wrx]
/-- the latest series is taken back -/
theorem back_J (H : J a m) (hr : r < nq m) (hs : rd m 254 r ≠ 0) (hn : ns m = n + 1) : J (wr (wr a (47 + r) 11 (-1)) 0 11 (nI n)) (wr (wr m 227 37 (nI n)) 256 r (-1)) := by
  obtain ⟨⟨C1, C2, C3⟩, S, Q, A, V, hVA, hVS, hVQ, hU1, hU2⟩ := H
  have h60 := V.q.1
  have s60 := V.s.1
  have oa : ∀ p k, ¬ (p = 47 + r ∧ k = 11) → ¬ (p = 0 ∧ k = 11) → rd (wr (wr a (47 + r) 11 (-1)) 0 11 (nI n)) p k = rd a p k := fun p k h1 h2 => by
    rw [rd_wrx, if_neg h2, rd_wrx, if_neg h1]
  have om : ∀ p k, ¬ (p = 256 ∧ k = r) → ¬ (p = 227 ∧ k = 37) → rd (wr (wr m 227 37 (nI n)) 256 r (-1)) p k = rd m p k := fun p k h1 h2 => by
    rw [rd_wrx, if_neg h1, rd_wrx, if_neg h2]
  have e37 : rd (wr (wr m 227 37 (nI n)) 256 r (-1)) 227 37 = nI n := by rw [rd_ne (by decide), rd_eqw]
  have e11 : rd (wr (wr a (47 + r) 11 (-1)) 0 11 (nI n)) 0 11 = nI n := rd_eqw
  have q11 : rd (wr (wr a (47 + r) 11 (-1)) 0 11 (nI n)) (47 + r) 11 = -1 := by rw [rd_ne (by omega), rd_eqw]
  have q256 : rd (wr (wr m 227 37 (nI n)) 256 r (-1)) 256 r = -1 := rd_eqw
  generalize hm : wr (wr m 227 37 (nI n)) 256 r (-1) = m' at *
  generalize hA : wr (wr a (47 + r) 11 (-1)) 0 11 (nI n) = a' at *
  have nq' : nq m' = nq m := by unfold nq; rw [om _ _ (by omega) (by omega)]
  have ns' : ns m' = n := by unfold ns; rw [e37, nI_clamp (by omega)]
  have nr' : nr m' = nr m := by unfold nr; rw [om _ _ (by omega) (by omega)]
  have np' : np m' = np m := by unfold np; rw [om _ _ (by omega) (by omega)]
  have f1 : (fun k => !decide (rd m' 254 k = 1)) = fun k => !decide (rd m 254 k = 1) := funext fun k => by rw [om _ _ (by omega) (by omega)]
  have f2 : (fun k => decide (rd m' 254 k = 0)) = fun k => decide (rd m 254 k = 0) := funext fun k => by rw [om _ _ (by omega) (by omega)]
  refine ⟨⟨?_, ?_, ?_⟩, ?_, ?_, ?_, ?_, ?_, ?_, ?_, ?_, ?_⟩
  · rw [nq', oa _ _ (by omega) (by omega)]; exact C1
  · rw [ns', e11]
  · rw [np', oa _ _ (by omega) (by omega)]; exact C3
  · intro j hj f hf
    have q := sa_in f hf
    rw [oa _ _ (by omega) (by omega), om _ _ (by omega) (by omega)]
    exact S j hj f hf
  · intro j hj f hf f10
    have q := qa_in f hf
    by_cases c : j = r ∧ f = 11
    · obtain ⟨rfl, rfl⟩ := c
      exact q11.trans q256.symm
    · rw [oa _ _ (by omega) (by omega), om _ _ ?_ (by omega)]
      · exact Q j hj f hf f10
      · rintro ⟨z, rfl⟩
        exact c ⟨rfl, qa_inj f hf 11 (by decide) z⟩
  · exact A.F2 (fun p k h1 h2 => oa _ _ (by omega) (by omega)) (fun p k h1 h2 => om _ _ (by omega) (by omega))
  · obtain ⟨w1, w2, w3, w4, w5, w6, w7, w8, w9⟩ := V
    unfold VN
    rw [f1, f2, nq', ns', np', nr', e37, om _ _ (by omega) (by omega), om _ _ (by omega) (by omega), om _ _ (by omega) (by omega), om _ _ (by omega) (by omega)]
    exact ⟨w1, w2, rfl, by omega, w5, w6, w7, w8, w9⟩
  · intro b hb
    obtain ⟨m9, hm9, f1, f2⟩ := hVA b hb
    refine ⟨m9, hm9, ?_, fun r hr => ?_⟩
    · rw [om _ _ (by omega) (by omega)]
      exact f1
    · rw [om _ _ (by omega) (by omega), om _ _ (by omega) (by omega), om _ _ (by omega) (by omega)]
      exact f2 r hr
  · intro k hk
    rw [ns'] at hk
    rw [om _ _ (by omega) (by omega), om _ _ (by omega) (by omega), om _ _ (by omega) (by omega), om _ _ (by omega) (by omega), om _ _ (by omega) (by omega), om _ _ (by omega) (by omega)]
    exact hVS k (by omega)
  · intro k hk
    rw [nq'] at hk
    obtain ⟨z1, z2, z3, z4, z5, z6, z7, z8, z9⟩ := hVQ k hk
    rw [om 246 _ (by omega) (by omega), om 248 _ (by omega) (by omega), om 249 _ (by omega) (by omega), om 250 _ (by omega) (by omega), om 251 _ (by omega) (by omega), om 245 _ (by omega) (by omega), om 254 _ (by omega) (by omega), om 257 _ (by omega) (by omega)]
    refine ⟨z1, z2, z3, z4, z5, z6, z7, z8, fun q => ?_⟩
    have ne : k ≠ r := fun z => hs (by rw [← z]; exact q)
    rw [om 256 _ (by omega) (by omega)]
    exact z9 q
  · intro p hp
    rw [np'] at hp
    obtain ⟨k, z1, z2, z3, z4⟩ := hU1 p hp
    exact ⟨k, by rw [nq']; exact z1, by rw [oa _ _ (by omega) (by omega)]; exact z2, by rw [om _ _ (by omega) (by omega)]; exact z3, by rw [om _ _ (by omega) (by omega)]; exact z4⟩
  · intro k hk hst
    rw [nq'] at hk
    rw [om _ _ (by omega) (by omega)] at hst
    obtain ⟨p, z1, z2, z3⟩ := hU2 k hk hst
    exact ⟨p, by rw [np']; exact z1, by rw [oa _ _ (by omega) (by omega)]; exact z2, by rw [om _ _ (by omega) (by omega)]; exact z3⟩
/-- both wait -/
theorem both_wait (H : J a m) (hr : r < nq m) (hj : j < nq m) (hne : j ≠ r) (s1 : rd m 254 r = 0 ∨ rd m 254 r = 1) (sj : rd m 254 j = 0) (o1 : rd m 257 r = -1) (o2 : rd m 257 j = -1)
    (k1 : ns m + cnt (fun k => !decide (rd m 254 k = 1) && decide (k ≠ r)) (nq m) + 1 ≤ nq m) (k2 : np m + cnt (fun k => decide (rd m 254 k = 0) && decide (k ≠ r)) (nq m) + 1 ≤ nq m) (k3 : ∀ p, p < np m → rd a 6 p ≠ nI r) :
    ∃ a' m', f_X6_decidePair_22 (nI r) (nI j) a = rtn (some (.int 0)) a' ∧ bV (F_X7_waits [.ref 227, .int (nI r), .int 3] m) (fun h1 => bV (F_X7_waits [.ref 227, .int (nI j), .int 3] h1) (fun h2 => rtn none h2) (hnk [])) (hnk []) = rtn none m' ∧ J a' m' ∧ (∀ k, rd m' 254 k = if k = r ∨ k = j then 3 else rd m 254 k) ∧ Fr PJ1 a a' ∧ Fr PM1 m m' ∧ rdL a' = rdL a ∧ rdL m' = rdL m ∧ nq m' = nq m := by
  obtain ⟨⟨C1, C2, C3⟩, S, Q, A, V, hVA, hVS, hVQ, hU1, hU2⟩ := id H
  have h60 := V.q.1
  have p60 : np m < 60 := by omega
  obtain ⟨w1, w2, w3, w4⟩ := wait_J (v := -1) H hr (Or.inr rfl) (fun z => absurd z (by decide)) k1 k2 k3
  have sj' : rd (wtm m r 3 (-1) (np m)) 254 j = 0 := by rw [wtm_o (by omega) (by omega)]; exact sj
  obtain ⟨z1, z2, z3⟩ := w1.asked (by rw [w3]; exact hj) sj'
  obtain ⟨x1, x2, x3, x4⟩ := wait_J (v := -1) w1 (by rw [w3]; exact hj) (Or.inr rfl) (fun z => absurd z (by decide)) z1 z2 z3
  rw [w4] at x1 x2 x3 x4
  have p61 : np m + 1 < 60 := by
    have := w3
    omega
  have q12 : rd a (47 + r) 12 = -1 := (Q r (by omega) 12 (by decide) (by decide)).trans o1
  have q12j : rd a (47 + j) 12 = -1 := (Q j (by omega) 12 (by decide) (by decide)).trans o2
  have okr := (okc_rq r (by omega)).1
  have okj := (okc_rq j (by omega)).1
  refine ⟨wtc (wtc a r 3 (-1) (np m)) j 3 (-1) (np m + 1), wtm (wtm m r 3 (-1) (np m)) j 3 (-1) (np m + 1), ?_, ?_, x1, fun k => ?_, (wtc_1 (by omega)).tr (wtc_1 (by omega)), Fr.tr wtm_1 wtm_1, rfl, rfl, x3.trans w3⟩
  · have e1 : wtc a r 3 (-1) (np m) = wr (wr (wr a (47 + r) 9 3) 6 (np m) (nI r)) 0 13 (nI (np m + 1)) := by
      unfold wtc
      rw [wr_same q12]
    have e2 : wtc (wtc a r 3 (-1) (np m)) j 3 (-1) (np m + 1) = wr (wr (wr (wtc a r 3 (-1) (np m)) (47 + j) 9 3) 6 (np m + 1) (nI j)) 0 13 (nI (np m + 1 + 1)) := by
      show wr (wr (wr (wr (wtc a r 3 (-1) (np m)) (47 + j) 12 (-1)) (47 + j) 9 3) 6 (np m + 1) (nI j)) 0 13 (nI (np m + 1 + 1)) = _
      rw [wr_same (h := wtc a r 3 (-1) (np m)) (by rw [wtc_o (by omega) (by omega) (by omega)]; exact q12j)]
    rw [e2, e1, wr_comm (a := 0) (b := 47 + j) (by omega), wr_comm (a := 6) (b := 47 + j) (by omega)]
    rw [e_X6_decidePair_22, req_g C1 h60 hr, bR_r, okr, gd_t, req_g (n := nq m) (by rw [rd_ne (by omega)]; exact C1) h60 hj, bR_r, okj, gd_t, putq (p := np m) (by rw [rd_ne (by omega), rd_ne (by omega)]; exact C3) p60, bV_r, putq (p := np m + 1) rd_eqw p61, bV_r]
  · have e1 : wtm m r 3 (-1) (np m) = wr (wr (wr m 254 r 3) 259 r (nI (np m))) 227 36 (nI (np m + 1)) := by
      unfold wtm
      rw [wr_same o1]
    have e2 : wtm (wtm m r 3 (-1) (np m)) j 3 (-1) (np m + 1) = wr (wr (wr (wtm m r 3 (-1) (np m)) 254 j 3) 259 j (nI (np m + 1))) 227 36 (nI (np m + 1 + 1)) := by
      show wr (wr (wr (wr (wtm m r 3 (-1) (np m)) 257 j (-1)) 254 j 3) 259 j (nI (np m + 1))) 227 36 (nI (np m + 1 + 1)) = _
      rw [wr_same (h := wtm m r 3 (-1) (np m)) (by rw [wtm_o (by omega) (by omega)]; exact o2)]
    rw [e2, e1, waits_s (p := np m) V.np60.2 (by omega), bV_r, waits_s (p := np m + 1) rd_eqw (by omega), bV_r]
  · by_cases ck : k = j
    · subst ck
      rw [if_pos (Or.inr rfl)]
      simp [wtm, rd_wrx]
    · rw [wtm_o (by omega) (by omega)]
      by_cases cr : k = r
      · subst cr
        rw [if_pos (Or.inl rfl)]
        simp [wtm, rd_wrx]
      · rw [if_neg (by omega), wtm_o (by omega) (by omega)]
theorem gcn_3 {m' : Hp} (e : nq m' = nq m) (hne : j ≠ r) (h : ∀ k, k < nq m → rd m' 254 k = if k = r ∨ k = j then 3 else rd m 254 k) (h1 : rd m 254 r = 0) (h2 : rd m 254 j = 0) : gcn m' = gcn m := by
  unfold gcn
  rw [e]
  apply cnt_ext
  intro k hk
  rw [h k hk]
  by_cases c : k = r ∨ k = j
  · rw [if_pos c]
    rcases c with c | c
    · rw [c, h1]
      rfl
    · rw [c, h2]
      rfl
  · rw [if_neg c]
theorem pair_J (H : J a m) (K : LKs m) (hr : r < nq m) (hj : j < nq m) (hne : j ≠ r) (hs : rd m 254 r = 0) (sj : rd m 254 j = 0) (l1 : rd m 258 r = nI j) (l2 : rd m 258 j = nI r) : ∃ (v : Nat) (a' m' : Hp), F_X6_decidePair [.ref 0, .int (nI r), .int (nI j)] a = rtn (some (.int (nI v))) a' ∧ F_X7_looksAt [.ref 227, .int (nI r)] m = rtn none m' ∧ J a' m' ∧ LKs m' ∧ gcn m' = gcn m + v ∧ Fr PJ1 a a' ∧ Fr PM1 m m' ∧ rdL a' = rdL a ∧ rdL m' = rdL m := by
  obtain ⟨⟨C1, C2, C3⟩, S, Q, A, V, hVA, hVS, hVQ, hU1, hU2⟩ := id H
  have h60 := V.q.1
  have s60 := V.s.1
  obtain ⟨v1, v2, v3, v4, v5, v6, v7, v8, v9⟩ := hVQ r hr
  obtain ⟨u1, u2, u3, u4, u5, u6, u7, u8, u9⟩ := hVQ j hj
  have ir : inb (nI r) 60 = true := inb_nI (by omega) (by decide)
  have cr : (nI r).toNatClampNeg = r := nI_clamp (by omega)
  have ij : inb (nI j) 60 = true := inb_nI (by omega) (by decide)
  have cj : (nI j).toNatClampNeg = j := nI_clamp (by omega)
  have okq := (okc_rq r (by omega)).1
  have st1 : rd m 254 r ≠ 1 := by rw [hs]; decide
  have cl : ∀ x y, x < nq m → y < nq m → rd m 258 x = nI y → rd m 258 y = nI x → ((x = r ∨ x = j) ↔ (y = r ∨ y = j)) := fun x y hx hy e1 e2 => by
    have w : ∀ x y, x < nq m → y < nq m → rd m 258 x = nI y → (x = r ∨ x = j) → (y = r ∨ y = j) := fun x y hx hy e1 z => by
      rcases z with z | z
      · rw [z, l1] at e1
        exact Or.inr (nI_inj (by omega) (by omega) e1).symm
      · rw [z, l2] at e1
        exact Or.inl (nI_inj (by omega) (by omega) e1).symm
    exact ⟨w x y hx hy e1, w y x hy hx e2⟩
  obtain ⟨k1, k2, k3⟩ := H.asked hr hs
  obtain ⟨y, a2, t, et, ht, r2, r3, r4, r5, r6⟩ := fits_J H hr st1
  have md : F_X7_looksAt [.ref 227, .int (nI r)] m = bV (if y = 0 then f_X7_looksAtBoth_19 (nI r) (nI j) 1 m else f_X7_looksAtBoth_19 (nI r) (nI j) 0 m) (fun h4 => rtn none h4) (hnk []) := by
    rw [e_X7_looksAt_0, ir, gd_t, cr, l1, if_neg (nI_m1 (by omega)), gd_t, e_X7_looksAtBoth_0, ir, gd_t, cr, et, r2, bI_r]
  rw [md]
  -- both wait in the end, whatever was tried
  have dn : ∀ (b mb : Hp), J b mb → nq mb = nq m → (∀ k, k ≠ r → rd mb 254 k = rd m 254 k) → (rd mb 254 r = 0 ∨ rd mb 254 r = 1) → rd mb 257 r = -1 → rd mb 257 j = -1 → ns mb = ns m → np mb = np m → (∀ p, rd b 6 p = rd a 6 p) → (∀ k, rd mb 258 k = rd m 258 k) → ∃ a' m', f_X6_decidePair_22 (nI r) (nI j) b = rtn (some (.int 0)) a' ∧ bV (F_X7_waits [.ref 227, .int (nI r), .int 3] mb) (fun h1 => bV (F_X7_waits [.ref 227, .int (nI j), .int 3] h1) (fun h2 => rtn none h2) (hnk [])) (hnk []) = rtn none m' ∧ J a' m' ∧ LKs m' ∧ gcn m' = gcn m + 0 ∧ Fr PJ1 b a' ∧ Fr PM1 mb m' ∧ rdL a' = rdL b ∧ rdL m' = rdL mb := by
    intro b mb Jb e1 e2 e3 e4 e5 e6 e7 e8 e9
    obtain ⟨a', m', w1, w2, w3, w4, w5, w6, w7, w8, w9⟩ := both_wait Jb (by rw [e1]; exact hr) (by rw [e1]; exact hj) hne e3 (by rw [e2 j hne]; exact sj) e4 e5 (by
      rw [e6, e1, cnt_XX (i := r) (g := fun i => !decide (rd m 254 i = 1)) (nq m) (fun k hk => by rw [e2 k hk])]
      exact k1) (by
      rw [e7, e1, cnt_XX (i := r) (g := fun i => decide (rd m 254 i = 0)) (nq m) (fun k hk => by rw [e2 k hk])]
      exact k2) (fun p hp => by rw [e8]; exact k3 p (by omega))
    have o254 : ∀ k, rd m' 254 k = if k = r ∨ k = j then 3 else rd m 254 k := fun k => by
      rw [w4]
      by_cases c : k = r ∨ k = j
      · rw [if_pos c, if_pos c]
      · rw [if_neg c, if_neg c, e2 k (fun z => c (Or.inl z))]
    refine ⟨a', m', w1, w2, w3, ?_, ?_, w5, w6, w7, w8⟩
    · refine K.ch (w9.trans e1) (fun k => ?_) (fun k => k = r ∨ k = j) (fun k hk => ?_) (fun k hk => ?_) cl
      · rw [w6 258 k (by unfold PM1; omega), e9]
      · rw [o254, if_neg hk]
      · rw [o254, if_pos hk]
        decide
    · rw [Nat.add_zero]
      exact gcn_3 (w9.trans e1) hne (fun k _ => o254 k) hs sj
  rcases r6 with ⟨y0, c1⟩ | ⟨y0, c1, c2, c3, c4, c5, c6⟩
  · obtain ⟨a', m', w1, w2, w3, w4, w5, w6, w7, w8, w9⟩ := dn a2 m r5 rfl (fun k _ => rfl) (Or.inl hs) (v9 hs).2 (u9 sj).2 rfl rfl (fun p => r3 6 p (by unfold T10; omega)) (fun k => rfl)
    refine ⟨0, a', m', ?_, ?_, w3, w4, w5, (t10_1 r3).tr w6, w7, w8.trans r4, w9⟩
    · rw [e_X6_decidePair_0, c1, bI_r, if_pos rfl]
      exact w1
    · rw [if_neg y0, e_X7_looksAtBoth_19, if_pos rfl, e_X7_looksAtBoth_73, if_pos rfl, ir, gd_t, cr, wr_same (v9 hs).1, w2, bV_r]
  · have hn := V.ns60 hr st1
    have gvm_o' : ∀ p k, ¬ (260 ≤ p ∧ p ≤ 272 ∧ k = ns m) → ¬ ((p = 254 ∨ p = 256 ∨ p = 257) ∧ k = r) → ¬ (p = 227 ∧ k = 37) → rd (gvm m (ns m) r (nI t)) p k = rd m p k := fun p k h1 h2 h3 => gvm_o h1 h2 h3
    have e254r : rd (gvm m (ns m) r (nI t)) 254 r = 1 := by simp [gvm, rd_wrx]
    have e257r : rd (gvm m (ns m) r (nI t)) 257 r = -1 := by simp [gvm, rd_wrx]
    have e269 : rd (gvm m (ns m) r (nI t)) 269 (ns m) = nI r := by simp [gvm, rd_wrx]
    have egc := gcn_give (x := nI t) (n := ns m) hr st1
    have Fc1 : Fr PJ1 a (gvc a2 (ns m) r (nI t)) := (t10_1 r3).tr (gvc_1 hn (by omega))
    have Fm1 : Fr PM1 m (gvm m (ns m) r (nI t)) := gvm_1
    have zL : rdL (gvm m (ns m) r (nI t)) = rdL m := rdL_gvm
    have zA : rdL (gvc a2 (ns m) r (nI t)) = rdL a := r4
    have z6 : ∀ p, rd (gvc a2 (ns m) r (nI t)) 6 p = rd a 6 p := fun p => by rw [gvc_o (by omega) (by omega) (by omega), r3 6 p (by unfold T10; omega)]
    generalize hac : gvc a2 (ns m) r (nI t) = ac at *
    generalize hmc : gvm m (ns m) r (nI t) = mc at *
    have sj1 : rd mc 254 j = 0 := (gvm_o' 254 j (by omega) (by omega) (by omega)).trans sj
    have md2 : ∀ x, f_X7_looksAtBoth_19 (nI r) (nI j) 1 m = x ↔ gd (inb (nI j) 60) (bI (F_X7_reason [.ref 227, .int (nI j), .int (rd mc 249 j)] mc) (fun v3 h2 => if v3 = 0 then f_X7_looksAtBoth_54 (nI r) (nI j) 1 h2 else f_X7_looksAtBoth_54 (nI r) (nI j) 0 h2) (hnk [])) = x := fun x => by
      rw [e_X7_looksAtBoth_19, if_neg one_ne, ir, gd_t, cr, et, c2, bV_r, cj]
    obtain ⟨y2, a3, t2, et2, ht2, d2, d3, d4, d5, d6⟩ := fits_J c3 (by rw [c5]; exact hj) (show rd mc 254 j ≠ 1 by rw [sj1]; decide)
    have e37 : rd mc 227 37 = nI (ns m + 1) := by rw [c3.2.2.2.2.1.s.2, c4]
    have b19 : f_X7_looksAtBoth_19 (nI r) (nI j) 1 m = (if y2 = 0 then f_X7_looksAtBoth_73 (nI r) (nI j) 1 mc else f_X7_looksAtBoth_73 (nI r) (nI j) 0 (wr mc 227 37 (nI (ns m)))) := by
      rw [md2, ij, gd_t, et2, d2, bI_r]
      by_cases c : y2 = 0
      · rw [if_pos c, if_pos c, e_X7_looksAtBoth_54, if_neg one_ne, e_X7_looksAtBoth_69, e37, Int32.sub_zero, wr_same e37]
      · rw [if_neg c, if_neg c, e_X7_looksAtBoth_54, if_pos rfl, e_X7_looksAtBoth_69, e37, nI_pred]
    rw [if_pos y0, b19]
    have st2 : rd mc 254 j ≠ 1 := by rw [sj1]; decide
    rcases d6 with ⟨y20, g1⟩ | ⟨y20, g1, g2, g3, g4, g5, g6⟩
    · -- the first one's series is taken back
      have Jb := back_J d5 (by rw [c5]; exact hr) (show rd mc 254 r ≠ 0 by rw [e254r]; decide) c4
      have take : F_X6_takeLatestSeriesBack [.ref 0] a3 = rtn none (wr (wr a3 (47 + r) 11 (-1)) 0 11 (nI (ns m))) := by
        obtain ⟨⟨D1, D2, D3⟩, DS, -⟩ := d5
        rw [c4] at D2
        have e7 : rd a3 (107 + ns m) 7 = nI r := (DS (ns m) hn 7 (by decide)).trans e269
        rw [e_X6_takeLatestSeriesBack_0, D2, nI_pred, ser_g D2 (by omega) (Nat.lt_succ_self _), bR_r, (okc_sr (ns m) hn).1, gd_t, e7, req_g D1 (by rw [c5]; exact h60) (by rw [c5]; exact hr), bR_r, okq, gd_t]
      have ob : ∀ p k, ¬ (p = 256 ∧ k = r) → ¬ (p = 227 ∧ k = 37) → rd (wr (wr mc 227 37 (nI (ns m))) 256 r (-1)) p k = rd mc p k := fun p k h1 h2 => by
        rw [rd_wrx, if_neg h1, rd_wrx, if_neg h2]
      have hnb : ns (wr (wr mc 227 37 (nI (ns m))) 256 r (-1)) = ns m := by
        have e : rd (wr (wr mc 227 37 (nI (ns m))) 256 r (-1)) 227 37 = nI (ns m) := by rw [rd_ne (by decide), rd_eqw]
        show (rd (wr (wr mc 227 37 (nI (ns m))) 256 r (-1)) 227 37).toNatClampNeg = ns m
        rw [e, nI_clamp (by omega)]
      obtain ⟨a', m', w1, w2, w3, w4, w5, w6, w7, w8, w9⟩ := dn _ _ Jb (by unfold nq; rw [ob _ _ (by omega) (by omega)]; exact c5) (fun k hk => by rw [ob _ _ (by omega) (by omega), gvm_o' _ _ (by omega) (by omega) (by omega)]) (Or.inr (by rw [ob _ _ (by omega) (by omega)]; exact e254r)) (by rw [ob _ _ (by omega) (by omega)]; exact e257r) (by rw [ob _ _ (by omega) (by omega), gvm_o' _ _ (by omega) (by omega) (by omega)]; exact (u9 sj).2) hnb (by unfold np; rw [ob _ _ (by omega) (by omega)]; exact c6) (fun p => by rw [rd_ne (by omega), rd_ne (by omega), d3 6 p (by unfold T10; omega), z6]) (fun k => by rw [ob _ _ (by omega) (by omega), gvm_o' _ _ (by omega) (by omega) (by omega)])
      refine ⟨0, a', m', ?_, ?_, w3, w4, w5, ?_, ?_, ?_, ?_⟩
      · rw [e_X6_decidePair_0, c1, bI_r, if_neg one_ne, g1, bI_r, if_pos rfl, take, bV_r]
        exact w1
      · rw [if_neg y20, e_X7_looksAtBoth_73, if_pos rfl, ir, gd_t, cr, w2, bV_r]
      · have F5 : Fr PJ1 a3 (wr (wr a3 (47 + r) 11 (-1)) 0 11 (nI (ns m))) := (Fr.refl.w (by unfold PJ1; omega)).w (by unfold PJ1; omega)
        exact ((Fc1.tr (t10_1 d3)).tr F5).tr w6
      · have F5 : Fr PM1 mc (wr (wr mc 227 37 (nI (ns m))) 256 r (-1)) := (Fr.refl.w (by unfold PM1; omega)).w (by unfold PM1; omega)
        exact (Fm1.tr F5).tr w7
      · rw [w8]
        exact d4.trans zA
      · rw [w9]
        exact zL
    · have hn2 := c3.2.2.2.2.1.ns60 (by rw [c5]; exact hj) st2
      have o254 : ∀ k, ¬ (k = r ∨ k = j) → rd (gvm mc (ns mc) j (nI t2)) 254 k = rd m 254 k := fun k hk => by
        rw [gvm_o (by omega) (by omega) (by omega), gvm_o' _ _ (by omega) (by omega) (by omega)]
      refine ⟨2, gvc a3 (ns mc) j (nI t2), gvm mc (ns mc) j (nI t2), ?_, ?_, g3, ?_, ?_, (Fc1.tr (t10_1 d3)).tr (gvc_1 hn2 (by omega)), Fm1.tr gvm_1, ?_, ?_⟩
      · rw [e_X6_decidePair_0, c1, bI_r, if_neg one_ne, g1, bI_r, if_neg one_ne]
        rfl
      · rw [if_pos y20, e_X7_looksAtBoth_73, if_neg one_ne, ij, gd_t, cj, et2, g2, bV_r, bV_r]
      · refine K.ch (g5.trans c5) (fun k => ?_) (fun k => k = r ∨ k = j) (fun k hk => by rw [o254 k hk]) (fun k hk => ?_) cl
        · rw [gvm_o (by omega) (by omega) (by omega), gvm_o' _ _ (by omega) (by omega) (by omega)]
        · rcases hk with z | z
          · rw [z, gvm_o (by omega) (by omega) (by omega), e254r]
            decide
          · rw [z, show rd (gvm mc (ns mc) j (nI t2)) 254 j = 1 by simp [gvm, rd_wrx]]
            decide
      · have q := gcn_give (x := nI t2) (n := ns mc) (m := mc) (i := j) (by rw [c5]; exact hj) st2
        omega
      · show rdL a3 = rdL a
        rw [d4, zA]
      · exact (rdL_gvm (m := mc)).trans zL
end PAIR
