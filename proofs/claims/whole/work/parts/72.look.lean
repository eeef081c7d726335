/-! looking at one request -/
def PJ1 (p k : Nat) : Prop := (p = 0 ∧ (k = 11 ∨ k = 13)) ∨ p = 6 ∨ p = 10 ∨ (47 ≤ p ∧ p < 107 ∧ (k = 9 ∨ k = 11 ∨ k = 12)) ∨ (107 ≤ p ∧ p < 167)
def PM1 (p k : Nat) : Prop := (p = 227 ∧ (k = 36 ∨ k = 37)) ∨ p = 254 ∨ p = 256 ∨ p = 257 ∨ p = 259 ∨ (260 ≤ p ∧ p ≤ 272)
def gcn (m : Hp) : Nat := cnt (fun k => decide (rd m 254 k = 1)) (nq m)
section LOOK
variable {a m g : Hp} {x s v : Int32} {i j k t n p r d : Nat}
theorem Fr.tr {P : Nat → Nat → Prop} {h a b : Hp} (F1 : Fr P h a) (F2 : Fr P a b) : Fr P h b := fun p k hp => by rw [F2 p k hp, F1 p k hp]
theorem wr_same {h : Hp} {p k : Nat} (e : rd h p k = x) : wr h p k x = h := by
  refine Prod.ext (funext fun b => funext fun c => ?_) rfl
  show (if b = p ∧ c = k then x else h.1 b c) = h.1 b c
  by_cases z : b = p ∧ c = k
  · rw [if_pos z, z.1, z.2]
    exact e.symm
  · rw [if_neg z]
theorem gvc_1 (hn : n < 60) (hi : i < 60) : Fr PJ1 a (gvc a n i x) := fun p k hp => gvc_o (fun z => hp (by unfold PJ1; omega)) (fun z => hp (by unfold PJ1; omega)) (fun z => hp (by unfold PJ1; omega))
theorem gvm_1 : Fr PM1 m (gvm m n i x) := fun p k hp => gvm_o (fun z => hp (by unfold PM1; omega)) (fun z => hp (by unfold PM1; omega)) (fun z => hp (by unfold PM1; omega))
theorem wtc_1 (hi : i < 60) : Fr PJ1 a (wtc a i s v n) := fun p k hp => wtc_o (fun z => hp (by unfold PJ1; omega)) (fun z => hp (by unfold PJ1; omega)) (fun z => hp (by unfold PJ1; omega))
theorem wtm_1 : Fr PM1 m (wtm m i s v n) := fun p k hp => wtm_o (fun z => hp (by unfold PM1; omega)) (fun z => hp (by unfold PM1; omega))
theorem t10_1 {a2 : Hp} (F : Fr T10 a a2) : Fr PJ1 a a2 := fun p k hp => F p k (fun z => hp (by unfold T10 at z; unfold PJ1; omega))
theorem LKs.ch {m' : Hp} (H : LKs m) (e : nq m' = nq m) (o : ∀ k, rd m' 258 k = rd m 258 k) (D : Nat → Prop) (hz : ∀ k, ¬ D k → (rd m' 254 k = 0 ↔ rd m 254 k = 0)) (hd : ∀ k, D k → rd m' 254 k ≠ 0) (cl : ∀ i j, i < nq m → j < nq m → rd m 258 i = nI j → rd m 258 j = nI i → (D i ↔ D j)) : LKs m' := by
  intro i hi
  rw [e] at hi
  rw [o]
  rcases H i hi with w | ⟨j, w1, w2, w3, w4, w5⟩
  · exact Or.inl w
  · refine Or.inr ⟨j, by rw [e]; exact w1, w2, w3, by rw [o]; exact w4, ?_⟩
    have c := cl i j hi w1 w3 w4
    by_cases di : D i
    · have dj := c.mp di
      exact ⟨fun z => absurd z (hd i di), fun z => absurd z (hd j dj)⟩
    · have dj : ¬ D j := fun z => di (c.mpr z)
      rw [hz i di, hz j dj]
      exact w5
theorem gcn_give (hi : i < nq m) (hs : rd m 254 i ≠ 1) : gcn (gvm m n i x) = gcn m + 1 := by
  have nq' : nq (gvm m n i x) = nq m := by unfold nq; rw [gvm_o (by omega) (by omega) (by omega)]
  unfold gcn
  rw [nq', cnt_X (i := i) (nq m) hi (by rw [show rd (gvm m n i x) 254 i = 1 by simp [gvm, rd_wrx]]; rfl), cnt_X0 (i := i) (f := fun k => decide (rd m 254 k = 1)) (nq m) (by simpa using hs)]
  congr 1
  apply cnt_XX
  intro k hk
  rw [gvm_o (by omega) (by omega) (by omega)]
theorem gcn_wait (h1 : rd m 254 i ≠ 1) (hs : s ≠ 1) : gcn (wtm m i s v n) = gcn m := by
  have nq' : nq (wtm m i s v n) = nq m := by unfold nq; rw [wtm_o (by omega) (by omega)]
  unfold gcn
  rw [nq', cnt_X0 (i := i) (nq m) (by rw [show rd (wtm m i s v n) 254 i = s by simp [wtm, rd_wrx]]; simpa using hs), cnt_X0 (i := i) (f := fun k => decide (rd m 254 k = 1)) (nq m) (by simpa using h1)]
  apply cnt_XX
  intro k hk
  rw [wtm_o (by omega) (by omega)]
/-! the offers -/
theorem off_h : ∀ d, d < 4 → nI (2 * d) / 2 = nI d ∧ nI (2 * d) - nI (2 * d) / 2 * 2 = 0 ∧ nI (2 * d + 1) / 2 = nI d ∧ nI (2 * d + 1) - nI (2 * d + 1) / 2 * 2 ≠ 0 := by decide
theorem off_i : ((List.range 72).all fun t => (List.range 4).all fun d => (irg (nI t + -(nI d)) 0 71 == decide (d ≤ t)) && ((decide (nI t - nI d < 0) == decide (t < d)) && ((irg (nI t + nI d) 0 71 == decide (t + d < 72)) && (decide (nI t + nI d < 72) == decide (t + d < 72))))) = true := by decide +kernel
theorem off_k (ht : t < 72) (hd : d < 4) : irg (nI t + -(nI d)) 0 71 = decide (d ≤ t) ∧ (nI t - nI d < 0 ↔ t < d) ∧ irg (nI t + nI d) 0 71 = decide (t + d < 72) ∧ (nI t + nI d < 72 ↔ t + d < 72) := by
  have q := all2 off_i ht hd
  simp only [Bool.and_eq_true, beq_iff_eq] at q
  exact ⟨q.1, decide_eq_decide.mp q.2.1, q.2.2.1, decide_eq_decide.mp q.2.2.2⟩
theorem found_l (hr : r < 60) (h : rd m 257 r ≠ -1) : ∀ (n k : Nat), k + n = 8 → f_X7_looksAt_50 (nI r) (nI k) m = f_X7_looksAt_139 2 (nI r) m
  | 0, k, e => by
    rw [e_X7_looksAt_50, if_neg (show ¬ nI k < 8 from nI_nlt (a := k) (b := 8) (by omega) (by omega)), inb_nI hr (by decide), gd_t, nI_clamp (by omega), if_neg h]
  | n + 1, k, e => by
    have ih := found_l hr h n (k + 1) (by omega)
    have st : ∀ y z, f_X7_looksAt_78 (nI r) (nI k) y z m = f_X7_looksAt_139 2 (nI r) m := fun y z => by
      rw [e_X7_looksAt_78, inb_nI hr (by decide), gd_t, nI_clamp (by omega), if_neg h, e_X7_looksAt_116, nI_1]
      exact ih
    rw [e_X7_looksAt_50, if_pos (show nI k < 8 from nI_lt (a := k) (b := 8) (by omega) (by decide)), inb_nI hr (by decide)]
    simp only [st, ite_self]
    rfl
/-- what the looking for an offer gives, the class's and the reference's -/
def OffR (a m : Hp) (r : Nat) (R : Res) (M : Res) : Prop := ∃ v a', R = rtn (some (.int v)) a' ∧ Fr T10 a a' ∧ rdL a' = rdL a ∧ J a' m ∧ ((v = -1 ∧ M = f_X7_looksAt_139 3 (nI r) m) ∨ (irg v 0 71 = true ∧ M = f_X7_looksAt_139 2 (nI r) (wr m 257 r v)))
theorem OffR.pre {a2 : Hp} {R M : Res} (F : Fr T10 a a2) (e : rdL a2 = rdL a) (h : OffR a2 m r R M) : OffR a m r R M := by
  obtain ⟨v, a', h1, h2, h3, h4, h5⟩ := h
  exact ⟨v, a', h1, fun p k hp => by rw [h2 p k hp, F p k hp], h3.trans e, h4, h5⟩
theorem offer_l (hr : r < nq m) (et : rd m 249 r = nI t) (ht : t < 72) (h257 : rd m 257 r = -1) : ∀ (n d : Nat) (a : Hp), d + n = 4 → 1 ≤ d → J a m → OffR a m r (f_X6_timeToOffer_2 (47 + r) (nI d) a) (f_X7_looksAt_50 (nI r) (nI (2 * d)) m)
  | 0, d, a, e, hd, H => by
    have h60 := H.2.2.2.2.1.q.1
    refine ⟨-1, a, ?_, Fr.refl, rfl, H, Or.inl ⟨rfl, ?_⟩⟩
    · rw [e_X6_timeToOffer_2, if_pos (show 3 < nI d from nI_lt (a := 3) (by omega) (by omega))]
    · rw [e_X7_looksAt_50, if_neg (show ¬ nI (2 * d) < 8 from nI_nlt (a := 2 * d) (b := 8) (by omega) (by omega)), inb_nI (by omega) (by decide), gd_t, nI_clamp (by omega), if_pos h257]
  | n + 1, d, a, e, hd, H => by
    have h60 := H.2.2.2.2.1.q.1
    have ih := fun a => offer_l hr et ht h257 n (d + 1) a (by omega) (by omega)
    obtain ⟨o1, o2, o3, o4⟩ := off_h d (by omega)
    obtain ⟨k1, k2, k3, k4⟩ := off_k ht (show d < 4 by omega)
    have ir : inb (nI r) 60 = true := inb_nI (by omega) (by decide)
    have cr : (nI r).toNatClampNeg = r := nI_clamp (by omega)
    have okq := (okc_rq r (by omega)).1
    have e3 : ∀ a, J a m → rd a (47 + r) 3 = nI t := fun a H => (H.2.2.1 r (by omega) 3 (by decide) (by decide)).trans et
    -- an offer that fits ends the reference's loop
    have hit : ∀ (u k : Nat), k ≤ 8 → u < 72 → f_X7_looksAt_50 (nI r) (nI k) (wr m 257 r (nI u)) = f_X7_looksAt_139 2 (nI r) (wr m 257 r (nI u)) := fun u k hk hu => found_l (by omega) (by rw [rd_eqw]; exact nI_m1 (by omega)) (8 - k) k (by omega)
    have in71 : ∀ u, u < 72 → irg (nI u) 0 71 = true := by decide
    -- the second half: later by d
    have half : ∀ a, J a m → OffR a m r (f_X6_timeToOffer_29 (47 + r) (nI d) a) (f_X7_looksAt_50 (nI r) (nI (2 * d + 1)) m) := by
      intro a H
      have m1 : f_X7_looksAt_50 (nI r) (nI (2 * d + 1)) m = (if t + d < 72 then bI (F_X7_reason [.ref 227, .int (nI r), .int (nI (t + d))] m) (fun v4 h3 => if v4 = 0 then f_X7_looksAt_50 (nI r) (nI (2 * (d + 1))) (wr h3 257 r (nI (t + d))) else f_X7_looksAt_50 (nI r) (nI (2 * (d + 1))) h3) (hnk []) else f_X7_looksAt_50 (nI r) (nI (2 * (d + 1))) m) := by
        rw [e_X7_looksAt_50, if_pos (show nI (2 * d + 1) < 8 from nI_lt (a := 2 * d + 1) (b := 8) (by omega) (by decide)), ir, gd_t, cr, if_neg o4, o3, et]
        show gd true (gd true (f_X7_looksAt_78 (nI r) (nI (2 * d + 1)) (nI d) (nI t) m)) = _
        rw [gd_t, gd_t, e_X7_looksAt_78, ir, gd_t, cr, if_pos h257, isIn_s, bI_r, k3, nI_add]
        simp only [e_X7_looksAt_116, gd_t, nI_1]
        by_cases c : t + d < 72
        · rw [decide_eq_true c, bi_t, if_neg one_ne, if_pos c]
          rfl
        · rw [decide_eq_false c, bi_f, if_pos rfl, if_neg c]
          rfl
      have c1 : f_X6_timeToOffer_29 (47 + r) (nI d) a = (if t + d < 72 then bI (F_X6_reasonAgainst [.ref 0, .ref (47 + r), .int (nI (t + d))] a) (fun v2 h1 => if v2 = 0 then rtn (some (.int (nI (t + d)))) h1 else f_X6_timeToOffer_2 (47 + r) (nI (d + 1)) h1) (hnk []) else f_X6_timeToOffer_2 (47 + r) (nI (d + 1)) a) := by
        rw [e_X6_timeToOffer_29, okq, gd_t, e3 a H]
        simp only [e_X6_timeToOffer_57, nI_1]
        by_cases c : t + d < 72
        · rw [if_pos (k4.mpr c), if_pos c, nI_add]
        · rw [if_neg (fun z => c (k4.mp z)), if_neg c]
      rw [m1, c1]
      by_cases c : t + d < 72
      · rw [if_pos c, if_pos c]
        obtain ⟨y, a2, r1, r2, r3, r4, r5⟩ := H.reason hr c
        rw [r1, r2, bI_r, bI_r]
        by_cases y0 : y = 0
        · rw [if_pos y0, if_pos y0]
          exact ⟨nI (t + d), a2, rfl, r3, r4, r5, Or.inr ⟨in71 _ c, hit (t + d) (2 * (d + 1)) (by omega) c⟩⟩
        · rw [if_neg y0, if_neg y0]
          exact (ih a2 r5).pre r3 r4
      · rw [if_neg c, if_neg c]
        exact ih a H
    have m1 : f_X7_looksAt_50 (nI r) (nI (2 * d)) m = (if d ≤ t then bI (F_X7_reason [.ref 227, .int (nI r), .int (nI (t - d))] m) (fun v4 h3 => if v4 = 0 then f_X7_looksAt_50 (nI r) (nI (2 * d + 1)) (wr h3 257 r (nI (t - d))) else f_X7_looksAt_50 (nI r) (nI (2 * d + 1)) h3) (hnk []) else f_X7_looksAt_50 (nI r) (nI (2 * d + 1)) m) := by
      rw [e_X7_looksAt_50, if_pos (show nI (2 * d) < 8 from nI_lt (a := 2 * d) (b := 8) (by omega) (by decide)), ir, gd_t, cr, if_pos o2, o1, et]
      show gd true (gd true (f_X7_looksAt_78 (nI r) (nI (2 * d)) (-(nI d)) (nI t) m)) = _
      rw [gd_t, gd_t, e_X7_looksAt_78, ir, gd_t, cr, if_pos h257, isIn_s, bI_r, k1]
      simp only [e_X7_looksAt_116, gd_t, nI_1]
      by_cases c : d ≤ t
      · rw [decide_eq_true c, bi_t, if_neg one_ne, if_pos c, ← Int32.sub_eq_add_neg, nI_subN c]
      · rw [decide_eq_false c, bi_f, if_pos rfl, if_neg c]
    have c1 : f_X6_timeToOffer_2 (47 + r) (nI d) a = (if d ≤ t then bI (F_X6_reasonAgainst [.ref 0, .ref (47 + r), .int (nI (t - d))] a) (fun v2 h1 => if v2 = 0 then rtn (some (.int (nI (t - d)))) h1 else f_X6_timeToOffer_29 (47 + r) (nI d) h1) (hnk []) else f_X6_timeToOffer_29 (47 + r) (nI d) a) := by
      rw [e_X6_timeToOffer_2, if_neg (show ¬ 3 < nI d from nI_nlt (a := 3) (b := d) (by omega) (by omega)), okq, gd_t, e3 a H]
      by_cases c : d ≤ t
      · rw [if_neg (fun z => by have := k2.mp z; omega), if_pos c, nI_subN c]
      · rw [if_pos (k2.mpr (by omega)), if_neg c]
    rw [m1, c1]
    by_cases c : d ≤ t
    · rw [if_pos c, if_pos c]
      obtain ⟨y, a2, r1, r2, r3, r4, r5⟩ := H.reason hr (show t - d < 72 by omega)
      rw [r1, r2, bI_r, bI_r]
      by_cases y0 : y = 0
      · rw [if_pos y0, if_pos y0]
        exact ⟨nI (t - d), a2, rfl, r3, r4, r5, Or.inr ⟨in71 _ (by omega), hit (t - d) (2 * d + 1) (by omega) (by omega)⟩⟩
      · rw [if_neg y0, if_neg y0]
        exact (half a2 r5).pre r3 r4
    · rw [if_neg c, if_neg c]
      exact half a H
/-- an asked request is in nobody's queue, and there is room for it -/
theorem J.asked (H : J a m) (hr : r < nq m) (hs : rd m 254 r = 0) : (ns m + cnt (fun k => !decide (rd m 254 k = 1) && decide (k ≠ r)) (nq m) + 1 ≤ nq m) ∧ (np m + cnt (fun k => decide (rd m 254 k = 0) && decide (k ≠ r)) (nq m) + 1 ≤ nq m) ∧ (∀ p, p < np m → rd a 6 p ≠ nI r) := by
  obtain ⟨C, S, Q, A, V, hVA, hVS, hVQ, hU1, hU2⟩ := H
  have h60 := V.q.1
  obtain ⟨w1, w2, w3, w4, w5, w6, w7, w8, w9⟩ := V
  rw [cnt_X (i := r) (nq m) hr (by rw [hs]; rfl)] at w4
  rw [cnt_X (i := r) (nq m) hr (by rw [hs]; rfl)] at w8
  refine ⟨by omega, by omega, fun p hp z => ?_⟩
  obtain ⟨k, z1, z2, z3, z4⟩ := hU1 p hp
  have e := nI_inj (by omega) (by omega) (z2.symm.trans z)
  rw [e] at z4
  exact z4 hs
theorem alone_J (H : J a m) (K : LKs m) (hr : r < nq m) (hs : rd m 254 r = 0) (hl : rd m 258 r = -1) : ∃ (b : Bool) (a' m' : Hp), F_X6_decideAlone [.ref 0, .int (nI r)] a = rtn (some (.int (bi b))) a' ∧ F_X7_looksAt [.ref 227, .int (nI r)] m = rtn none m' ∧ J a' m' ∧ LKs m' ∧ gcn m' = gcn m + (match b with | true => 1 | false => 0) ∧ Fr PJ1 a a' ∧ Fr PM1 m m' ∧ rdL a' = rdL a ∧ rdL m' = rdL m := by
  obtain ⟨⟨C1, C2, C3⟩, S, Q, A, V, hVA, hVS, hVQ, hU1, hU2⟩ := id H
  have h60 := V.q.1
  obtain ⟨v1, v2, v3, v4, v5, v6, v7, v8, v9⟩ := hVQ r hr
  have ir : inb (nI r) 60 = true := inb_nI (by omega) (by decide)
  have cr : (nI r).toNatClampNeg = r := nI_clamp (by omega)
  have okq := (okc_rq r (by omega)).1
  have st1 : rd m 254 r ≠ 1 := by rw [hs]; decide
  have cl : ∀ i j, i < nq m → j < nq m → rd m 258 i = nI j → rd m 258 j = nI i → (i = r ↔ j = r) := fun i j hi hj e1 e2 => by
    constructor
    · intro z
      rw [z, hl] at e1
      exact absurd e1.symm (nI_m1 (by omega))
    · intro z
      rw [z, hl] at e2
      exact absurd e2.symm (nI_m1 (by omega))
  obtain ⟨y, a2, t, et, ht, r2, r3, r4, r5, r6⟩ := fits_J H hr st1
  have md : F_X7_looksAt [.ref 227, .int (nI r)] m = (if y = 0 then bV (F_X7_gives [.ref 227, .int (nI r), .int (nI t)] m) (fun h3 => rtn none h3) (hnk []) else f_X7_looksAt_50 (nI r) 2 m) := by
    rw [e_X7_looksAt_0, ir, gd_t, cr, if_pos hl, gd_t, et, r2, bI_r]
    by_cases c : y = 0
    · rw [if_pos c, if_pos c, gd_t, et]
    · rw [if_neg c, if_neg c]
  rcases r6 with ⟨y0, u1⟩ | ⟨y0, u1, u2, u3, u4, u5, u6⟩
  · -- an offer, or none
    obtain ⟨w, a3, p1, p2, p3, p4, p5⟩ := offer_l hr et ht (v9 hs).2 3 1 a2 (by omega) (by omega) r5
    have p1 : f_X6_timeToOffer_2 (47 + r) 1 a2 = rtn (some (.int w)) a3 := p1
    have p5 : (w = -1 ∧ f_X7_looksAt_50 (nI r) 2 m = f_X7_looksAt_139 3 (nI r) m) ∨ (irg w 0 71 = true ∧ f_X7_looksAt_50 (nI r) 2 m = f_X7_looksAt_139 2 (nI r) (wr m 257 r w)) := p5
    obtain ⟨k1, k2, k3⟩ := p4.asked hr hs
    have hp60 : np m < 60 := by omega
    have e13 : rd a3 0 13 = nI (np m) := p4.1.2.2
    have F3 : Fr PJ1 a a3 := (t10_1 r3).tr (t10_1 p2)
    -- both put it into the queue
    have fin : ∀ s : Int32, (s = 2 ∨ s = 3) → (s = 2 → irg w 0 71 = true) → f_X6_decideAlone_39 (nI r) s (47 + r) (wr a3 (47 + r) 12 w) = rtn (some (.int 0)) (wtc a3 r s w (np m)) ∧ f_X7_looksAt_139 s (nI r) (wr m 257 r w) = rtn none (wtm m r s w (np m)) ∧ J (wtc a3 r s w (np m)) (wtm m r s w (np m)) ∧ LKs (wtm m r s w (np m)) ∧ gcn (wtm m r s w (np m)) = gcn m + 0 := by
      intro s h1 h2
      obtain ⟨q1, q2, q3, q4⟩ := wait_J (v := w) p4 hr h1 h2 k1 k2 k3
      have s1 : s ≠ 1 := by rcases h1 with rfl | rfl <;> decide
      have s0 : s ≠ 0 := by rcases h1 with rfl | rfl <;> decide
      refine ⟨?_, ?_, q1, K.ch q3 (fun k => wtm_o (by omega) (by omega)) (fun k => k = r) (fun k hk => by rw [wtm_o (by omega) (by omega)]) (fun k hk => ?_) cl, gcn_wait st1 s1⟩
      · rw [e_X6_decideAlone_39, okq, gd_t, putq (p := np m) (by rw [rd_ne (by omega), rd_ne (by omega)]; exact e13) hp60, bV_r]
        rfl
      · rw [e_X7_looksAt_139, waits_s (p := np m) (by rw [rd_ne (by decide)]; exact V.np60.2) (by omega), bV_r]
        rfl
      · rw [hk, show rd (wtm m r s w (np m)) 254 r = s by simp [wtm, rd_wrx]]
        exact s0
    have cls : F_X6_decideAlone [.ref 0, .int (nI r)] a = (if w = -1 then f_X6_decideAlone_39 (nI r) 3 (47 + r) (wr a3 (47 + r) 12 w) else f_X6_decideAlone_39 (nI r) 2 (47 + r) (wr a3 (47 + r) 12 w)) := by
      rw [e_X6_decideAlone_0, u1, bI_r, if_pos rfl, req_g r5.1.1 h60 hr, bR_r, e_X6_timeToOffer_0, p1, bI_r, okq, gd_t, gd_t, rd_eqw]
    rw [cls, md, if_neg y0]
    rcases p5 with ⟨e1, e2⟩ | ⟨e1, e2⟩
    · obtain ⟨f1, f2, f3, f4, f5⟩ := fin 3 (Or.inr rfl) (fun z => absurd z (by decide))
      refine ⟨false, wtc a3 r 3 w (np m), wtm m r 3 w (np m), ?_, ?_, f3, f4, f5, F3.tr (wtc_1 (by omega)), wtm_1, ?_, rfl⟩
      · rw [if_pos e1, f1]
        rfl
      · rw [e2, ← f2, wr_same (by rw [(v9 hs).2, e1])]
      · show rdL a3 = rdL a
        rw [p3, r4]
    · have wne : w ≠ -1 := fun z => by
        rw [z] at e1
        exact absurd e1 (by decide)
      obtain ⟨f1, f2, f3, f4, f5⟩ := fin 2 (Or.inl rfl) (fun _ => e1)
      refine ⟨false, wtc a3 r 2 w (np m), wtm m r 2 w (np m), ?_, ?_, f3, f4, f5, F3.tr (wtc_1 (by omega)), wtm_1, ?_, rfl⟩
      · rw [if_neg wne, f1]
        rfl
      · rw [e2, ← f2]
      · show rdL a3 = rdL a
        rw [p3, r4]
  · have hn := V.ns60 hr st1
    refine ⟨true, _, _, ?_, ?_, u3, K.ch u5 (fun k => gvm_o (by omega) (by omega) (by omega)) (fun k => k = r) (fun k hk => by rw [gvm_o (by omega) (by omega) (by omega)]) (fun k hk => ?_) cl, gcn_give hr st1, (t10_1 r3).tr (gvc_1 hn (by omega)), gvm_1, ?_, rfl⟩
    · rw [e_X6_decideAlone_0, u1, bI_r, if_neg one_ne]
      rfl
    · rw [md, if_pos y0, u2, bV_r]
    · rw [hk, show rd (gvm m (ns m) r (nI t)) 254 r = 1 by simp [gvm, rd_wrx]]
      decide
    · show rdL a2 = rdL a
      exact r4
end LOOK
