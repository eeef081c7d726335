/-! the queue is served -/
section SERVE
variable {a m : Hp} {x ap b : Int32} {i j k p q s t n : Nat}
theorem fits_J (H : J a m) (hi : i < nq m) (hs : rd m 254 i ≠ 1) : ∃ (y : Int32) (a2 : Hp) (t : Nat), rd m 249 i = nI t ∧ t < 72 ∧ F_X7_reason [.ref 227, .int (nI i), .int (nI t)] m = rtn (some (.int y)) m ∧ Fr T10 a a2 ∧ rdL a2 = rdL a ∧ J a2 m ∧ ((y ≠ 0 ∧ F_X6_giveIfItFits [.ref 0, .int (nI i)] a = rtn (some (.int 0)) a2) ∨ (y = 0 ∧ F_X6_giveIfItFits [.ref 0, .int (nI i)] a = rtn (some (.int 1)) (gvc a2 (ns m) i (nI t)) ∧ F_X7_gives [.ref 227, .int (nI i), .int (nI t)] m = rtn none (gvm m (ns m) i (nI t)) ∧ J (gvc a2 (ns m) i (nI t)) (gvm m (ns m) i (nI t)) ∧ ns (gvm m (ns m) i (nI t)) = ns m + 1 ∧ nq (gvm m (ns m) i (nI t)) = nq m ∧ np (gvm m (ns m) i (nI t)) = np m)) := by
  obtain ⟨⟨C1, C2, C3⟩, S, Q, A, V, hVA, hVS, hVQ, hU1, hU2⟩ := id H
  have h60 := V.q.1
  obtain ⟨v1, v2, v3, v4, v5, v6, v7, v8, v9⟩ := hVQ i hi
  obtain ⟨t, ht, et⟩ := irg_71 v3
  obtain ⟨y, a2, r1, r2, r3, r4, r5⟩ := H.reason hi ht
  have q3 : rd a (47 + i) 3 = nI t := (Q i (by omega) 3 (by decide) (by decide)).trans et
  refine ⟨y, a2, t, et, ht, r2, r3, r4, r5, ?_⟩
  have st : F_X6_giveIfItFits [.ref 0, .int (nI i)] a = (if y = 0 then bV (F_X6_give [.ref 0, .int (nI i), .int (nI t)] a2) (fun h5 => rtn (some (.int 1)) h5) (hnk []) else rtn (some (.int 0)) a2) := by
    rw [e_X6_giveIfItFits_0, req_g C1 h60 hi, bR_r, (okc_rq i (by omega)).1]
    simp only [gd_t]
    rw [q3, r1, bI_r, r3 (47 + i) 3 (by unfold T10; omega), q3]
  by_cases c : y = 0
  · right
    obtain ⟨p1, p2, p3, p4, p5, p6⟩ := give_J (x := nI t) r5 hi hs (et ▸ v3)
    refine ⟨c, ?_, p2, p3, p4, p5, p6⟩
    rw [st, if_pos c, p1, bV_r]
  · left
    refine ⟨c, ?_⟩
    rw [st, if_neg c]
/-- a place's request, a request's place -/
theorem J.pos (H : J a m) (hk : k < nq m) (hw : wtg (rd m 254 k) = true) : pla m k < np m ∧ rd m 259 k = nI (pla m k) ∧ rd a 6 (pla m k) = nI k := by
  obtain ⟨-, -, -, -, V, -, -, -, hU1, hU2⟩ := H
  obtain ⟨p, z1, z2, z3⟩ := hU2 k hk (wtg_t.mp hw)
  have n60 := V.np60.1
  have e : pla m k = p := by
    unfold pla
    rw [z3, nI_clamp (by omega)]
  rw [e]
  exact ⟨z1, z3, z2⟩
theorem J.at (H : J a m) (hp : p < np m) : qat a p < nq m ∧ rd a 6 p = nI (qat a p) ∧ pla m (qat a p) = p ∧ rd m 254 (qat a p) ≠ 0 ∧ rd m 259 (qat a p) = nI p := by
  obtain ⟨-, -, -, -, V, -, -, -, hU1, hU2⟩ := H
  obtain ⟨k, z1, z2, z3, z4⟩ := hU1 p hp
  have h60 := V.q.1
  have n60 := V.np60.1
  have e : qat a p = k := by
    unfold qat
    rw [z2, nI_clamp (by omega)]
  rw [e]
  refine ⟨z1, z2, ?_, z4, z3⟩
  unfold pla
  rw [z3, nI_clamp (by omega)]
/-- one that may be the next -/
def cnd (m : Hp) (ap : Int32) (p k : Nat) : Bool := wal m ap k && decide (p ≤ pla m k)
theorem next_l (H : J a m) (hb : ∀ q, q ≤ 60 → (b < nI q ↔ p ≤ q)) : ∀ (n k : Nat) (x : Int32), k + n = nq m → ((x = -1 ∧ ∀ j, j < k → cnd m ap p j = false) ∨ ∃ f, f < k ∧ x = nI f ∧ cnd m ap p f = true ∧ ∀ j, j < k → cnd m ap p j = true → pla m f ≤ pla m j) → ∃ y, f_X7_nextAt_5 ap b x (nI k) m = rtn (some (.int y)) m ∧ ((y = -1 ∧ ∀ j, j < nq m → cnd m ap p j = false) ∨ ∃ f, f < nq m ∧ y = nI f ∧ cnd m ap p f = true ∧ ∀ j, j < nq m → cnd m ap p j = true → pla m f ≤ pla m j)
  | 0, k, x, e, h => by
    have V := H.2.2.2.2.1
    have h60 := V.q.1
    obtain rfl : k = nq m := by omega
    refine ⟨x, ?_, h⟩
    rw [e_X7_nextAt_5, V.q.2, if_neg (nI_nlt (by omega) (by omega))]
  | n + 1, k, x, e, h => by
    have V := H.2.2.2.2.1
    have h60 := V.q.1
    have n60 := V.np60.1
    have ih := fun x => next_l H hb n (k + 1) x (by omega)
    have st : f_X7_nextAt_5 ap b x (nI k) m = (if cnd m ap p k = true then (if x = -1 then f_X7_nextAt_5 ap b (nI k) (nI (k + 1)) m else gd (inb x 60) (if rd m 259 k < rd m 259 x.toNatClampNeg then f_X7_nextAt_5 ap b (nI k) (nI (k + 1)) m else f_X7_nextAt_5 ap b x (nI (k + 1)) m)) else f_X7_nextAt_5 ap b x (nI (k + 1)) m) := by
      rw [e_X7_nextAt_5, V.q.2, if_pos (nI_lt (by omega) (by omega)), isWaiting_s (by omega), bI_r, inb_nI (by omega) (by decide), nI_clamp (by omega)]
      simp only [gd_t, e_X7_nextAt_49, e_X7_nextAt_50, e_X7_nextAt_78, e_X7_nextAt_83, e_X7_nextAt_84, nI_1, inb_nI (j := k) (n := 60) (by omega) (by decide), nI_clamp (n := k) (by omega)]
      unfold cnd wal
      cases c1 : wtg (rd m 254 k) with
      | false => simp [bi]
      | true =>
        obtain ⟨z1, z2, z3⟩ := H.pos (show k < nq m by omega) c1
        have e9 : (b < rd m 259 k) ↔ p ≤ pla m k := by
          rw [z2]
          exact hb _ (by omega)
        by_cases c2 : rd m 246 k = ap
        · by_cases c3 : p ≤ pla m k
          · have c4 := e9.mpr c3
            simp [bi, c2, c3, c4, one_ne]
          · have c4 : ¬ b < rd m 259 k := fun z => c3 (e9.mp z)
            simp [bi, c2, c3, c4]
        · simp [bi, c2]
    rw [st]
    cases c : cnd m ap p k with
    | false =>
      rw [if_neg (by decide)]
      apply ih
      rcases h with ⟨h1, h2⟩ | ⟨f, h1, h2, h3, h4⟩
      · refine Or.inl ⟨h1, fun j hj => ?_⟩
        by_cases cj : j = k
        · rw [cj]
          exact c
        · exact h2 j (by omega)
      · refine Or.inr ⟨f, by omega, h2, h3, fun j hj hc => ?_⟩
        by_cases cj : j = k
        · rw [cj, c] at hc
          cases hc
        · exact h4 j (by omega) hc
    | true =>
      rw [if_pos rfl]
      have wk : wtg (rd m 254 k) = true := by
        unfold cnd wal at c
        rw [Bool.and_eq_true, Bool.and_eq_true] at c
        exact c.1.1
      obtain ⟨z1, z2, z3⟩ := H.pos (show k < nq m by omega) wk
      rcases h with ⟨h1, h2⟩ | ⟨f, h1, h2, h3, h4⟩
      · rw [if_pos h1]
        apply ih
        refine Or.inr ⟨k, by omega, rfl, c, fun j hj hc => ?_⟩
        by_cases cj : j = k
        · rw [cj]
          exact Nat.le_refl _
        · rw [h2 j (by omega)] at hc
          cases hc
      · have wf : wtg (rd m 254 f) = true := by
          unfold cnd wal at h3
          rw [Bool.and_eq_true, Bool.and_eq_true] at h3
          exact h3.1.1
        obtain ⟨y1, y2, y3⟩ := H.pos (show f < nq m by omega) wf
        rw [if_neg (by rw [h2]; exact nI_m1 (by omega)), h2, inb_nI (by omega) (by decide), gd_t, nI_clamp (by omega), z2, y2]
        by_cases d : pla m k < pla m f
        · rw [if_pos (nI_lt d (by omega))]
          apply ih
          refine Or.inr ⟨k, by omega, rfl, c, fun j hj hc => ?_⟩
          by_cases cj : j = k
          · rw [cj]
            exact Nat.le_refl _
          · have := h4 j (by omega) hc
            omega
        · rw [if_neg (nI_nlt (by omega) (by omega))]
          apply ih
          refine Or.inr ⟨f, by omega, rfl, h3, fun j hj hc => ?_⟩
          by_cases cj : j = k
          · rw [cj]
            omega
          · exact h4 j (by omega) hc
def NX (a m : Hp) (ap : Int32) (p : Nat) (x : Int32) : Prop := (x = -1 ∧ ∀ q, p ≤ q → q < np m → wal m ap (qat a q) = false) ∨ ∃ q, p ≤ q ∧ q < np m ∧ x = nI (qat a q) ∧ wal m ap (qat a q) = true ∧ ∀ r, p ≤ r → r < q → wal m ap (qat a r) = false
theorem next_s (H : J a m) (hb : ∀ q, q ≤ 60 → (b < nI q ↔ p ≤ q)) : ∃ y, F_X7_nextAt [.ref 227, .int ap, .int b] m = rtn (some (.int y)) m ∧ NX a m ap p y := by
  have h60 := H.2.2.2.2.1.q.1
  obtain ⟨y, r1, r2⟩ := next_l (ap := ap) H hb (nq m) 0 (-1) (by omega) (Or.inl ⟨rfl, fun j hj => by omega⟩)
  refine ⟨y, ?_, ?_⟩
  · rw [e_X7_nextAt_0]
    exact r1
  · rcases r2 with ⟨h1, h2⟩ | ⟨f, h1, h2, h3, h4⟩
    · refine Or.inl ⟨h1, fun q q1 q2 => ?_⟩
      obtain ⟨z1, z2, z3, z4, z5⟩ := H.at q2
      have := h2 _ z1
      unfold cnd at this
      rw [z3, decide_eq_true q1, Bool.and_true] at this
      exact this
    · have h3' := h3
      unfold cnd at h3'
      rw [Bool.and_eq_true, decide_eq_true_eq] at h3'
      have wf : wtg (rd m 254 f) = true := by
        have := h3'.1
        unfold wal at this
        rw [Bool.and_eq_true] at this
        exact this.1
      obtain ⟨y1, y2, y3⟩ := H.pos h1 wf
      have ef : qat a (pla m f) = f := by
        unfold qat
        rw [y3, nI_clamp (by omega)]
      refine Or.inr ⟨pla m f, h3'.2, y1, by rw [ef]; exact h2, by rw [ef]; exact h3'.1, fun r r1 r2 => ?_⟩
      obtain ⟨z1, z2, z3, z4, z5⟩ := H.at (show r < np m by omega)
      cases c : wal m ap (qat a r) with
      | false => rfl
      | true =>
        have := h4 _ z1 (by unfold cnd; rw [c, z3, decide_eq_true r1]; rfl)
        omega
theorem serve_l : ∀ (n p g : Nat) (x : Int32) (a m : Hp), p + n = np m → J a m → NX a m ap p x → s < ns m → rd m 262 s = ap → ∃ v a' m', f_X6_serveQueueAt_4 ap (nI g) (nI p) a = rtn (some (.int v)) a' ∧ f_X7_giveBack_106 (nI s) (nI g) x m = rtn (some (.int v)) m' ∧ J a' m' ∧ Fr PJc a a' ∧ Fr PJm m m' ∧ (∀ j, rd a' (47 + j) 10 = rd a (47 + j) 10 ∨ 60 ≤ j) ∧ (∀ j, rd m' 255 j = rd m 255 j) ∧ (∀ j, j < nq m → (rd m' 254 j = 0 ↔ rd m 254 j = 0)) ∧ rdL a' = rdL a ∧ rdL m' = rdL m ∧ rd m' 227 0 = rd m 227 0 ∧ nq m' = nq m
  | 0, p, g, x, a, m, e, H, hx, hs, hap => by
    obtain ⟨⟨C1, C2, C3⟩, S, Q, A, V, hVA, hVS, hVQ, hU1, hU2⟩ := id H
    have n60 := V.np60.1
    have x1 : x = -1 := by
      rcases hx with h | ⟨q, q1, q2, -⟩
      · exact h.1
      · omega
    refine ⟨nI g, a, m, ?_, ?_, H, Fr.refl, Fr.refl, fun j => Or.inl rfl, fun j => rfl, fun j _ => Iff.rfl, rfl, rfl, rfl, rfl⟩
    · rw [e_X6_serveQueueAt_4, C3, if_neg (nI_nlt (by omega) (by omega))]
    · rw [e_X7_giveBack_106, if_pos x1]
  | n + 1, p, g, x, a, m, e, H, hx, hs, hap => by
    obtain ⟨⟨C1, C2, C3⟩, S, Q, A, V, hVA, hVS, hVQ, hU1, hU2⟩ := id H
    have n60 := V.np60.1
    have h60 := V.q.1
    have s60 := V.s.1
    obtain ⟨z1, z2, z3, z4, z5⟩ := H.at (show p < np m by omega)
    generalize hI : qat a p = i at z1 z2 z3 z4 z5
    have q0 : rd a (47 + i) 0 = rd m 246 i := Q i (by omega) 0 (by decide) (by decide)
    have q9 : rd a (47 + i) 9 = rd m 254 i := Q i (by omega) 9 (by decide) (by decide)
    have q13 : rd a (47 + i) 13 = rd m 258 i := Q i (by omega) 13 (by decide) (by decide)
    have st : f_X6_serveQueueAt_4 ap (nI g) (nI p) a = (if wal m ap i = true then (if rd m 258 i = -1 then bI (F_X6_giveIfItFits [.ref 0, .int (nI i)] a) (fun v6 h5 => if v6 = 0 then f_X6_serveQueueAt_4 ap (nI g) (nI (p + 1)) h5 else f_X6_serveQueueAt_4 ap (nI (g + 1)) (nI (p + 1)) h5) (hnk []) else f_X6_serveQueueAt_4 ap (nI g) (nI (p + 1)) a) else f_X6_serveQueueAt_4 ap (nI g) (nI (p + 1)) a) := by
      rw [e_X6_serveQueueAt_4, C3, if_pos (nI_lt (by omega) (by omega)), if_pos (show nI p < 60 from nI_lt (a := p) (b := 60) (by omega) (by decide)), inb_nI (by omega) (by decide), gd_t, nI_clamp (by omega), z2, req_g C1 h60 z1, bR_r, (okc_rq i (by omega)).1, gd_t, isInQueue_s (by omega), bI_r]
      simp only [gd_t, e_X6_serveQueueAt_75, nI_1]
      rw [q9, q0, q13, z2]
      unfold wal
      cases c1 : wtg (rd m 254 i) with
      | false => simp [bi]
      | true =>
        by_cases c2 : rd m 246 i = ap
        · by_cases c3 : rd m 258 i = -1
          · simp [bi, c2, c3, one_ne]
          · simp [bi, c2, c3, one_ne]
        · simp [bi, c2, one_ne]
    rw [st]
    cases c : wal m ap i with
    | false =>
      rw [if_neg (by decide)]
      refine serve_l n (p + 1) g x a m (by omega) H ?_ hs hap
      rcases hx with ⟨h1, h2⟩ | ⟨q, h1, h2, h3, h4, h5⟩
      · exact Or.inl ⟨h1, fun q q1 q2 => h2 q (by omega) q2⟩
      · refine Or.inr ⟨q, ?_, h2, h3, h4, fun r r1 r2 => h5 r (by omega) r2⟩
        by_cases d : q = p
        · rw [d, hI, c] at h4
          cases h4
        · omega
    | true =>
      rw [if_pos rfl]
      have ex : x = nI i := by
        rcases hx with ⟨h1, h2⟩ | ⟨q, h1, h2, h3, h4, h5⟩
        · have := h2 p (Nat.le_refl _) (by omega)
          rw [hI, c] at this
          cases this
        · by_cases d : q = p
          · rw [h3, d, hI]
          · have := h5 p (Nat.le_refl _) (by omega)
            rw [hI, c] at this
            cases this
      have wi : wtg (rd m 254 i) = true := by
        unfold wal at c
        rw [Bool.and_eq_true] at c
        exact c.1
      have hbn : ∀ q, q ≤ 60 → (nI p < nI q ↔ p + 1 ≤ q) := fun q hq => nI_ltI (by omega) (by omega)
      have st1 : rd m 254 i ≠ 1 := by
        rcases wtg_t.mp wi with z | z <;> rw [z] <;> decide
      have ii : inb (nI i) 60 = true := inb_nI (by omega) (by decide)
      have is : inb (nI s) 60 = true := inb_nI (by omega) (by decide)
      have ci : (nI i).toNatClampNeg = i := nI_clamp (by omega)
      have cs : (nI s).toNatClampNeg = s := nI_clamp (by omega)
      rw [ex, e_X7_giveBack_106, if_neg (nI_m1 (by omega)), ii, gd_t, gd_t, gd_t, ci, z5]
      have nxt : ∀ (g : Nat) (m' : Hp), rd m' 262 s = ap → f_X7_giveBack_164 (nI s) (nI g) (nI p) m' = bI (F_X7_nextAt [.ref 227, .int ap, .int (nI p)] m') (fun v2 h1 => f_X7_giveBack_106 (nI s) (nI g) v2 h1) (hnk []) := fun g m' h => by
        rw [e_X7_giveBack_164, is, gd_t, cs, h]
      by_cases d : rd m 258 i = -1
      · rw [if_pos d, if_pos d]
        obtain ⟨y, a2, t, et, ht, r2, r3, r4, r5, r6⟩ := fits_J H z1 st1
        rw [et, r2, bI_r]
        have Fc : Fr PJc a a2 := t10_F Fr.refl r3
        rcases r6 with ⟨y0, u1⟩ | ⟨y0, u1, u2, u3, u4, u5, u6⟩
        · obtain ⟨x', n1, n2⟩ := next_s (ap := ap) r5 hbn
          obtain ⟨v, a', m', w1, w2, w3, w4, w5, w6, w7, w8, w9, w10, w11, w12⟩ := serve_l n (p + 1) g x' a2 m (by omega) r5 n2 hs hap
          refine ⟨v, a', m', ?_, ?_, w3, fun p k hp => by rw [w4 p k hp, Fc p k hp], w5, fun j => ?_, w7, w8, by rw [w9, r4], w10, w11, w12⟩
          · rw [u1, bI_r, if_pos rfl]
            exact w1
          · rw [if_neg y0, nxt g m hap, n1, bI_r]
            exact w2
          · rcases w6 j with z | z
            · left
              rw [z, r3 _ _ (by unfold T10; omega)]
            · exact Or.inr z
        · generalize hc : gvc a2 (ns m) i (nI t) = ac at *
          have hn := V.ns60 z1 st1
          have Fg : Fr PJc a ac := fun p k hp => by
            rw [← hc, (gvc_F.resolve_right (fun q => q ⟨hn, by omega⟩)) p k hp, Fc p k hp]
          have Fgm : Fr PJm m (gvm m (ns m) i (nI t)) := gvm_F
          have hap' : rd (gvm m (ns m) i (nI t)) 262 s = ap := by rw [gvm_o (by omega) (by omega) (by omega), hap]
          have t10' : ∀ j, j < 60 → rd ac (47 + j) 10 = rd a (47 + j) 10 := fun j hj => by
            rw [← hc, gvc_o (by omega) (by omega) (by omega), r3 _ _ (by unfold T10; omega)]
          have z255 : ∀ j, rd (gvm m (ns m) i (nI t)) 255 j = rd m 255 j := fun j => gvm_o (by omega) (by omega) (by omega)
          have z254 : ∀ j, (rd (gvm m (ns m) i (nI t)) 254 j = 0 ↔ rd m 254 j = 0) := fun j => by
            by_cases cj : j = i
            · subst cj
              rw [show rd (gvm m (ns m) j (nI t)) 254 j = 1 by simp [gvm, rd_wrx]]
              exact ⟨fun q => absurd q (by decide), fun q => absurd q z4⟩
            · rw [gvm_o (by omega) (by omega) (by omega)]
          have z0 : rd (gvm m (ns m) i (nI t)) 227 0 = rd m 227 0 := gvm_o (by omega) (by omega) (by omega)
          have zL : rdL (gvm m (ns m) i (nI t)) = rdL m := rfl
          have zA : rdL ac = rdL a := by rw [← hc, ← r4]; rfl
          generalize hm : gvm m (ns m) i (nI t) = mc at *
          obtain ⟨x', n1, n2⟩ := next_s (ap := ap) u3 hbn
          obtain ⟨v, a', m', w1, w2, w3, w4, w5, w6, w7, w8, w9, w10, w11, w12⟩ := serve_l n (p + 1) (g + 1) x' ac mc (by omega) u3 n2 (by omega) hap'
          refine ⟨v, a', m', ?_, ?_, w3, fun p k hp => by rw [w4 p k hp, Fg p k hp], fun p k hp => by rw [w5 p k hp, Fgm p k hp], fun j => ?_, fun j => by rw [w7 j, z255 j], fun j hj => by rw [w8 j (by omega), z254 j], by rw [w9, zA], by rw [w10, zL], by rw [w11, z0], by rw [w12, u5]⟩
          · rw [u1, bI_r, if_neg one_ne]
            exact w1
          · rw [if_pos y0, gd_t, et, u2, bV_r, nI_1, nxt (g + 1) mc hap', n1, bI_r]
            exact w2
          · rcases w6 j with z | z
            · by_cases hj : j < 60
              · left
                rw [z, t10' j hj]
              · exact Or.inr (by omega)
            · exact Or.inr z
      · rw [if_neg d, if_neg d]
        obtain ⟨x', n1, n2⟩ := next_s (ap := ap) H hbn
        obtain ⟨v, a', m', w1, w2, w3⟩ := serve_l n (p + 1) g x' a m (by omega) H n2 hs hap
        refine ⟨v, a', m', w1, ?_, w3⟩
        rw [nxt g m hap, n1, bI_r]
        exact w2
end SERVE
