section ALONE
variable {h g f : Hp} {x : Int32} {i j k n t a b m r s v p : Nat}
theorem tto_l : ∀ (n d : Nat) (a : Hp), d + n = 4 → 1 ≤ d → Inv0 a → i < nq a → ∃ v g, f_X6_timeToOffer_2 (47 + i) (nI d) a = rtn (some (.int v)) g ∧ Fr T10 a g ∧ (v = -1 ∨ irg v 0 71 = true)
  | 0, d, a, e, hd, I, hi => by
    refine ⟨-1, a, ?_, Fr.refl, Or.inl rfl⟩
    rw [e_X6_timeToOffer_2, if_pos (show (3 : Int32) < nI d from nI_lt (a := 3) (by omega) (by omega))]
  | n + 1, d, a, e, hd, I, hi => by
    have h60 := I.1.q.1
    have p29 : ∀ b, Inv0 b → i < nq b → ∃ v g, f_X6_timeToOffer_29 (47 + i) (nI d) b = rtn (some (.int v)) g ∧ Fr T10 b g ∧ (v = -1 ∨ irg v 0 71 = true) := by
      intro b J hj
      obtain ⟨t, ht, et⟩ := irg_nI (n := 71) (by decide) (J.2.2.2.2.1 i hj).1.2.2.2.1
      rw [e_X6_timeToOffer_29, (okc_rq i (by omega)).1, gd_t, et, nI_add]
      by_cases c : t + d < 72
      · rw [if_pos (show nI (t + d) < 72 from nI_lt (b := 72) c (by decide))]
        obtain ⟨x, b2, q1, q2, q3⟩ := reason_s (i := i) (t := t + d) J.1 J.2.1 J.2.2.1 (by omega) (J.2.2.2.2.1 i hj).1 c
        rw [q1, bI_r]
        by_cases cx : x = 0
        · rw [if_pos cx]
          exact ⟨_, b2, rfl, q2, Or.inr (nI_irg (n := 71) (by omega) (by decide))⟩
        · rw [if_neg cx, e_X6_timeToOffer_57, nI_1]
          have J2 := J.t10 q2
          have hj2 : i < nq b2 := by
            have : nq b2 = nq b := by unfold nq; rw [q2 _ _ (by unfold T10; omega)]
            omega
          obtain ⟨v, g, r1, r2, r3⟩ := tto_l n (d + 1) b2 (by omega) (by omega) J2 hj2
          exact ⟨v, g, r1, q2.trans r2, r3⟩
      · rw [if_neg (show ¬ nI (t + d) < 72 from nI_nlt (b := 72) (by omega) (by omega)), e_X6_timeToOffer_57, nI_1]
        exact tto_l n (d + 1) b (by omega) (by omega) J hj
    obtain ⟨t, ht, et⟩ := irg_nI (n := 71) (by decide) (I.2.2.2.2.1 i hi).1.2.2.2.1
    rw [e_X6_timeToOffer_2, if_neg (show ¬ (3 : Int32) < nI d from nI_nlt (b := d) (a := 3) (by omega) (by decide)), (okc_rq i (by omega)).1, gd_t, et]
    by_cases c : t < d
    · rw [if_pos (pk_sneg (by omega) c)]
      exact p29 a I hi
    · rw [pk_sub (by omega), if_neg (nI_pos (by omega))]
      obtain ⟨x, b2, q1, q2, q3⟩ := reason_s (i := i) (t := t - d) I.1 I.2.1 I.2.2.1 (by omega) (I.2.2.2.2.1 i hi).1 (by omega)
      rw [q1, bI_r]
      by_cases cx : x = 0
      · rw [if_pos cx]
        exact ⟨_, b2, rfl, q2, Or.inr (nI_irg (n := 71) (by omega) (by decide))⟩
      · rw [if_neg cx]
        have hj2 : i < nq b2 := by
          have : nq b2 = nq a := by unfold nq; rw [q2 _ _ (by unfold T10; omega)]
          omega
        obtain ⟨v, g, r1, r2, r3⟩ := p29 b2 (I.t10 q2) hj2
        exact ⟨v, g, r1, q2.trans r2, r3⟩
theorem timeToOffer_s (I : Inv0 h) (hi : i < nq h) : ∃ v g, F_X6_timeToOffer [.ref 0, .ref (47 + i)] h = rtn (some (.int v)) g ∧ Fr T10 h g ∧ (v = -1 ∨ irg v 0 71 = true) := by
  rw [e_X6_timeToOffer_0]
  exact tto_l 3 1 h rfl (Nat.le_refl _) I hi
theorem Grow.q (G : Grow h g) : nq g = nq h := by
  unfold nq
  rw [G.1 _ _ (by unfold PC; omega)]
theorem Grow.p13 (G : Grow h g) (hi : i < 60) : rd g (47 + i) 13 = rd h (47 + i) 13 := G.1 _ _ (by unfold PC; omega)
/-- partners are kept where no partner's state is changed -/
theorem VP.grow (H : VP h) (G : Grow h g) (h60 : nq h ≤ 60) (e : ∀ z, z < nq h → rd h (47 + z) 13 ≠ -1 → rd g (47 + z) 9 = rd h (47 + z) 9) : VP g :=
  H.F (G.1 _ _ (by unfold PC; omega)) (fun z hz => G.p13 (by omega)) fun z hz w => by rw [e z hz w]
/-- what one deciding does -/
def Dec (h g : Hp) (v : Nat) : Prop := Inv g ∧ Grow h g ∧ ns g = ns h + v ∧ ∀ z, z < nq h → rd h (47 + z) 9 ≠ 0 → rd g (47 + z) 9 = rd h (47 + z) 9
theorem decideAlone_s (I : Inv h) (hi : i < nq h) (h0 : rd h (47 + i) 9 = 0) (hp : rd h (47 + i) 13 = -1) : ∃ v g, v ≤ 1 ∧ F_X6_decideAlone [.ref 0, .int (nI i)] h = rtn (some (.int (nI v))) g ∧ Dec h g v ∧ rd g (47 + i) 9 ≠ 0 := by
  have V := I.1.1
  have h60 := V.q.1
  have hs : rd h (47 + i) 9 ≠ 1 := by rw [h0]; decide
  have hr := V.room hi hs
  rw [e_X6_decideAlone_0]
  rcases giveIfItFits_s I.1 hi hs with ⟨g1, q1, q2⟩ | ⟨g1, g, t, q1, q2, q3, q4, q5, q6, q7⟩
  · have I1 := I.1.t10 q2
    have em1 : nq g1 = nq h := (Grow.t10 q2).q
    obtain ⟨v, g2, r1, r2, r3⟩ := timeToOffer_s I1 (i := i) (by omega)
    rw [q1, bI_r, if_pos rfl, requestAt_s I1.1 (by omega), bR_r, r1, bI_r, (okc_rq i (by omega)).1]
    simp only [gd_t]
    rw [rd_eqw]
    have FT : Fr T10 h g2 := q2.trans r2
    have fin : ∀ s0 : Int32, ((s0 = 3 ∧ v = -1) ∨ (s0 = 2 ∧ irg v 0 71 = true)) → ∃ w g, w ≤ 1 ∧ f_X6_decideAlone_39 (nI i) s0 (47 + i) (wr g2 (47 + i) 12 v) = rtn (some (.int (nI w))) g ∧ Dec h g w ∧ rd g (47 + i) 9 ≠ 0 := by
      intro s0 hs0
      have F4 : Fr (fun a k => a = 10 ∨ (a = 47 + i ∧ (k = 9 ∨ k = 11 ∨ k = 12)) ∨ a = 107 + ns h) h (wr (wr g2 (47 + i) 12 v) (47 + i) 9 s0) := by
        have F10 : Fr (fun a k => a = 10 ∨ (a = 47 + i ∧ (k = 9 ∨ k = 11 ∨ k = 12)) ∨ a = 107 + ns h) h g2 := FT.up fun b k z => Or.inl z
        exact (F10.w (Or.inr (Or.inl ⟨rfl, Or.inr (Or.inr rfl)⟩))).w (Or.inr (Or.inl ⟨rfl, Or.inl rfl⟩))
      have e9 : rd (wr (wr g2 (47 + i) 12 v) (47 + i) 9 s0) (47 + i) 9 = s0 := rd_eqw
      have e12 : rd (wr (wr g2 (47 + i) 12 v) (47 + i) 9 s0) (47 + i) 12 = v := by rw [rd_nk (by decide), rd_eqw]
      have e11 : rd (wr (wr g2 (47 + i) 12 v) (47 + i) 9 s0) (47 + i) 11 = -1 := by
        rw [rd_nk (by decide), rd_nk (by decide), FT _ _ (by unfold T10; omega)]
        exact (I.1.2.2.2.2.2.1 i hi).2.2.2.1 hs
      generalize hg4 : wr (wr g2 (47 + i) 12 v) (47 + i) 9 s0 = g4 at F4 e9 e12 e11
      obtain ⟨I4, G4⟩ := wait_inv I.1 hi hs F4 e11 (by rw [e9, e12]; exact hs0)
      obtain ⟨g5, p1, p2⟩ := putInQueue_q (i := i) I4.1 (by rw [G4.q]; exact hi)
      have G5 := G4.trans (p2.grow I4.1)
      have e95 : ∀ z, z < 60 → rd g5 (47 + z) 9 = rd g4 (47 + z) 9 := fun z hz => p2.1 _ _ (by omega)
      have st : ∀ z, z < nq h → z ≠ i → rd g5 (47 + z) 9 = rd h (47 + z) 9 := fun z hz hzi => by rw [e95 z (by omega), F4 _ _ (by omega)]
      refine ⟨0, g5, by decide, ?_, ⟨⟨p2.inv I4, I.2.grow G5 h60 fun z hz w => st z hz fun c => w (by rw [c]; exact hp)⟩, G5, ?_, fun z hz w => st z hz fun c => w (by rw [c]; exact h0)⟩, ?_⟩
      · rw [e_X6_decideAlone_39, (okc_rq i (by omega)).1, gd_t, hg4, p1, bV_r]
        rfl
      · unfold ns
        rw [p2.1 _ _ (by omega), F4 _ _ (by omega)]
        rfl
      · rw [e95 i (by omega), e9]
        rcases hs0 with w | w <;> rw [w.1] <;> decide
    by_cases c : v = -1
    · rw [if_pos c]
      exact fin 3 (Or.inl ⟨rfl, c⟩)
    · rw [if_neg c]
      exact fin 2 (Or.inr ⟨rfl, r3.resolve_left c⟩)
  · have st : ∀ z, z < nq h → z ≠ i → rd g (47 + z) 9 = rd h (47 + z) 9 := fun z hz hzi => by
      rw [q4.1 _ _ (by unfold PG; omega), q2 _ _ (by unfold T10; omega)]
    refine ⟨1, g, Nat.le_refl _, ?_, ⟨⟨q5, I.2.grow q6 h60 fun z hz w => st z hz fun c => w (by rw [c]; exact hp)⟩, q6, q7, fun z hz w => st z hz fun c => w (by rw [c]; exact h0)⟩, ?_⟩
    · rw [q1, bI_r, if_neg one_ne]
      rfl
    · rw [q4.2.2.1]
      decide
theorem VP.pair (H : VP h) (G : Grow h g) (h60 : nq h ≤ 60) (hi : i < nq h) (hj : j < nq h) (ei : rd h (47 + i) 13 = nI j) (ej : rd h (47 + j) 13 = nI i) (e : ∀ z, z < nq h → z ≠ i → z ≠ j → rd g (47 + z) 9 = rd h (47 + z) 9) (gi : rd g (47 + i) 9 ≠ 0) (gj : rd g (47 + j) 9 ≠ 0) : VP g := by
  intro z hz
  rw [G.q] at hz
  rw [G.q, G.p13 (by omega)]
  rcases H z hz with w | ⟨y, y1, y2, y3, y4, y5⟩
  · exact Or.inl w
  · refine Or.inr ⟨y, y1, y2, y3, by rw [G.p13 (by omega)]; exact y4, ?_⟩
    by_cases ci : z = i
    · subst ci
      have : y = j := nI_inj (by omega) (by omega) (y3.symm.trans ei)
      subst this
      exact ⟨fun w => absurd w gi, fun w => absurd w gj⟩
    · by_cases cj : z = j
      · subst cj
        have : y = i := nI_inj (by omega) (by omega) (y3.symm.trans ej)
        subst this
        exact ⟨fun w => absurd w gj, fun w => absurd w gi⟩
      · have hyi : y ≠ i := by
          intro w
          subst w
          exact cj (nI_inj (by omega) (by omega) (y4.symm.trans ei))
        have hyj : y ≠ j := by
          intro w
          subst w
          exact ci (nI_inj (by omega) (by omega) (y4.symm.trans ej))
        rw [e z hz ci cj, e y y1 hyi hyj]
        exact y5
/-- both wait -/
theorem pair22 (I : Inv h) (hi : i < nq h) (hj : j < nq h) (hij : i ≠ j) (i0 : rd h (47 + i) 9 = 0) (j0 : rd h (47 + j) 9 = 0) (ei : rd h (47 + i) 13 = nI j) (ej : rd h (47 + j) 13 = nI i) {a : Hp} (F : Fr (fun a k => a = 10 ∨ (a = 47 + i ∧ (k = 9 ∨ k = 11 ∨ k = 12)) ∨ a = 107 + ns h) h a) (e11 : rd a (47 + i) 11 = -1) (e12 : rd a (47 + i) 12 = -1) : ∃ g, f_X6_decidePair_22 (nI i) (nI j) a = rtn (some (.int 0)) g ∧ Dec h g 0 ∧ rd g (47 + i) 9 ≠ 0 ∧ rd g (47 + j) 9 ≠ 0 := by
  have V := I.1.1
  have h60 := V.q.1
  have hsi : rd h (47 + i) 9 ≠ 1 := by rw [i0]; decide
  have hsj : rd h (47 + j) 9 ≠ 1 := by rw [j0]; decide
  have eq : rd a 0 10 = nI (nq h) := by rw [F _ _ (by omega)]; exact V.q.2
  have F1 : Fr (fun a k => a = 10 ∨ (a = 47 + i ∧ (k = 9 ∨ k = 11 ∨ k = 12)) ∨ a = 107 + ns h) h (wr a (47 + i) 9 3) := F.w (Or.inr (Or.inl ⟨rfl, Or.inl rfl⟩))
  have st0 : f_X6_decidePair_22 (nI i) (nI j) a = bV (F_X6_putInQueue [.ref 0, .int (nI i)] (wr (wr a (47 + i) 9 3) (47 + j) 9 3)) (fun h5 => bV (F_X6_putInQueue [.ref 0, .int (nI j)] h5) (fun h6 => rtn (some (.int 0)) h6) (hnk [])) (hnk []) := by
    rw [e_X6_decidePair_22, requestAt_n eq h60 hi, bR_r, (okc_rq i (by omega)).1, gd_t, requestAt_n (n := nq h) (h := wr a (47 + i) 9 3) (by rw [rd_ne (by omega)]; exact eq) h60 hj, bR_r, (okc_rq j (by omega)).1, gd_t]
  obtain ⟨I1, G1⟩ := wait_inv I.1 hi hsi F1 (by rw [rd_nk (by decide)]; exact e11) (Or.inl ⟨rd_eqw, by rw [rd_nk (by decide)]; exact e12⟩)
  have em1 := G1.q
  generalize hb1 : wr a (47 + i) 9 3 = b1 at F1 I1 G1 st0 em1
  have s1 : rd b1 (47 + i) 9 = 3 := by rw [← hb1]; exact rd_eqw
  have qj : ∀ k, rd b1 (47 + j) k = rd h (47 + j) k := fun k => F1 _ _ (by have := V.room hi hsi; omega)
  obtain ⟨I2, G2⟩ := wait_inv (g := wr b1 (47 + j) 9 3) I1 (i := j) (by omega) (by rw [qj]; exact hsj) (Fr.refl.w (Or.inr (Or.inl ⟨rfl, Or.inl rfl⟩))) (by rw [rd_nk (by decide), qj]; exact (I.1.2.2.2.2.2.1 j hj).2.2.2.1 hsj) (Or.inl ⟨rd_eqw, by rw [rd_nk (by decide), qj]; exact (I.1.2.2.2.2.2.1 j hj).2.2.1 (by rw [j0]; decide)⟩)
  generalize hb2 : wr b1 (47 + j) 9 3 = b2 at I2 G2 st0
  have G12 := G1.trans G2
  have s2i : rd b2 (47 + i) 9 = 3 := by rw [← hb2, rd_ne (by omega)]; exact s1
  have s2j : rd b2 (47 + j) 9 = 3 := by rw [← hb2]; exact rd_eqw
  have s2 : ∀ z, z < nq h → z ≠ i → z ≠ j → rd b2 (47 + z) 9 = rd h (47 + z) 9 := fun z hz c1 c2 => by
    rw [← hb2, rd_ne (by omega), F1 _ _ (by have := V.room hi hsi; omega)]
  obtain ⟨g3, p1, p2⟩ := putInQueue_q (i := i) I2.1 (by rw [G12.q]; exact hi)
  have I3 := p2.inv I2
  have G3 := G12.trans (p2.grow I2.1)
  obtain ⟨g4, r1, r2⟩ := putInQueue_q (i := j) I3.1 (by rw [G3.q]; exact hj)
  have I4 := r2.inv I3
  have G4 := G3.trans (r2.grow I3.1)
  have e9 : ∀ z, z < 60 → rd g4 (47 + z) 9 = rd b2 (47 + z) 9 := fun z hz => by rw [r2.1 _ _ (by omega), p2.1 _ _ (by omega)]
  have n3 : (3 : Int32) ≠ 0 := by decide
  have gi : rd g4 (47 + i) 9 ≠ 0 := by rw [e9 i (by omega), s2i]; exact n3
  have gj : rd g4 (47 + j) 9 ≠ 0 := by rw [e9 j (by omega), s2j]; exact n3
  refine ⟨g4, ?_, ⟨⟨I4, I.2.pair G4 h60 hi hj ei ej (fun z hz c1 c2 => by rw [e9 z (by omega), s2 z hz c1 c2]) gi gj⟩, G4, ?_, fun z hz w => ?_⟩, gi, gj⟩
  · rw [st0, p1, bV_r, r1, bV_r]
  · unfold ns
    rw [r2.1 _ _ (by omega), p2.1 _ _ (by omega), ← hb2, rd_ne (by omega), F1 _ _ (by omega)]
    rfl
  · rw [e9 z (by omega), s2 z hz (fun c => w (by rw [c]; exact i0)) (fun c => w (by rw [c]; exact j0))]
theorem decidePair_s (I : Inv h) (hi : i < nq h) (hj : j < nq h) (hij : i ≠ j) (i0 : rd h (47 + i) 9 = 0) (j0 : rd h (47 + j) 9 = 0) (ei : rd h (47 + i) 13 = nI j) (ej : rd h (47 + j) 13 = nI i) : ∃ v g, v ≤ 2 ∧ F_X6_decidePair [.ref 0, .int (nI i), .int (nI j)] h = rtn (some (.int (nI v))) g ∧ Dec h g v ∧ rd g (47 + i) 9 ≠ 0 ∧ rd g (47 + j) 9 ≠ 0 := by
  have V := I.1.1
  have h60 := V.q.1
  have hsi : rd h (47 + i) 9 ≠ 1 := by rw [i0]; decide
  have hsj : rd h (47 + j) 9 ≠ 1 := by rw [j0]; decide
  have hr := V.room hi hsi
  rw [e_X6_decidePair_0]
  rcases giveIfItFits_s I.1 hi hsi with ⟨g1, q1, q2⟩ | ⟨g1, g, t, q1, q2, q3, q4, q5, q6, q7⟩
  · rw [q1, bI_r, if_pos rfl]
    obtain ⟨g, r1, r2, r3, r4⟩ := pair22 I hi hj hij i0 j0 ei ej (a := g1) (q2.up fun b k z => Or.inl z) (by rw [q2 _ _ (by unfold T10; omega)]; exact (I.1.2.2.2.2.2.1 i hi).2.2.2.1 hsi) (by rw [q2 _ _ (by unfold T10; omega)]; exact (I.1.2.2.2.2.2.1 i hi).2.2.1 (by rw [i0]; decide))
    exact ⟨0, g, by decide, r1, r2, r3, r4⟩
  · rw [q1, bI_r, if_neg one_ne]
    have em := q6.q
    have qz : ∀ z k, z ≠ i → z < nq h → rd g (47 + z) k = rd h (47 + z) k := fun z k c hz => by
      rw [q4.1 _ _ (by unfold PG; omega), q2 _ _ (by unfold T10; omega)]
    have hsj1 : rd g (47 + j) 9 ≠ 1 := by rw [qz j 9 (fun c => hij c.symm) hj]; exact hsj
    rcases giveIfItFits_s q5 (i := j) (by omega) hsj1 with ⟨g3, p1, p2⟩ | ⟨g2, g3, t2, p1, p2, p3, p4, p5, p6, p7⟩
    · rw [p1, bI_r, if_pos rfl]
      have FPG : Fr (fun a k => a = 10 ∨ PG i (ns h) a k) h g3 := ((q2.up fun b k z => Or.inl z).trans (q4.1.up fun b k z => Or.inr z)).trans (p2.up fun b k z => Or.inl z)
      have e0 : rd g3 0 11 = nI (ns h + 1) := by rw [p2 _ _ (by unfold T10; omega)]; exact q4.2.1
      have e7 : rd g3 (107 + ns h) 7 = nI i := by rw [p2 _ _ (by unfold T10; omega)]; exact q4.2.2.2.2.2.2.2.1
      have e10 : rd g3 0 10 = nI (nq h) := by rw [FPG _ _ (by unfold PG; omega)]; exact V.q.2
      have tk : F_X6_takeLatestSeriesBack [.ref 0] g3 = rtn none (wr (wr g3 (47 + i) 11 (-1)) 0 11 (nI (ns h))) := by
        rw [e_X6_takeLatestSeriesBack_0, e0, nI_pred, seriesAt_n e0 (by omega) (by omega), bR_r, (okc_sr _ (by omega)).1, gd_t, e7, requestAt_n e10 h60 hi, bR_r, (okc_rq i (by omega)).1, gd_t]
      rw [tk, bV_r]
      obtain ⟨g4, r1, r2, r3, r4⟩ := pair22 I hi hj hij i0 j0 ei ej (a := wr (wr g3 (47 + i) 11 (-1)) 0 11 (nI (ns h))) (fun b k hb => by
        by_cases c : b = 0 ∧ k = 11
        · rw [c.1, c.2, rd_eqw]
          exact V.s.2.symm
        · rw [rd_wrx, if_neg c, rd_wrx, if_neg (by omega)]
          exact FPG b k (by unfold PG; omega)) (by rw [rd_ne (by omega), rd_eqw]) (by rw [rd_ne (by omega), rd_nk (by decide), p2 _ _ (by unfold T10; omega)]; exact q4.2.2.2.2.1)
      exact ⟨0, g4, by decide, r1, r2, r3, r4⟩
    · rw [p1, bI_r, if_neg one_ne]
      have G := q6.trans p6
      have qz3 : ∀ z k, z ≠ j → z < nq h → rd g3 (47 + z) k = rd g (47 + z) k := fun z k c hz => by
        rw [p4.1 _ _ (by unfold PG; omega), p2 _ _ (by unfold T10; omega)]
      have n1 : (1 : Int32) ≠ 0 := by decide
      have gi : rd g3 (47 + i) 9 ≠ 0 := by rw [qz3 i 9 hij hi, q4.2.2.1]; exact n1
      have gj : rd g3 (47 + j) 9 ≠ 0 := by rw [p4.2.2.1]; exact n1
      have st : ∀ z, z < nq h → z ≠ i → z ≠ j → rd g3 (47 + z) 9 = rd h (47 + z) 9 := fun z hz c1 c2 => by rw [qz3 z 9 c2 hz, qz z 9 c1 hz]
      refine ⟨2, g3, Nat.le_refl _, rfl, ⟨⟨p5, I.2.pair G h60 hi hj ei ej st gi gj⟩, G, by omega, fun z hz w => st z hz (fun c => w (by rw [c]; exact i0)) (fun c => w (by rw [c]; exact j0))⟩, gi, gj⟩
end ALONE
