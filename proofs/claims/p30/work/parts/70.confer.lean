/-! a conference -/
def PCC (a k : Nat) : Prop := PC a k ∨ P10 a k ∨ P789 a k
section CONFER
variable {h g f : Hp} {i j k n m p c : Nat}
theorem Dec.refl (I : Inv h) : Dec h h 0 := ⟨I, Grow.refl, rfl, fun _ _ _ => rfl⟩
theorem Dec.trans {u v : Nat} (H : Dec h g v) (G : Dec g f u) : Dec h f (v + u) := ⟨G.1, H.2.1.trans G.2.1, by rw [G.2.2.1, H.2.2.1, Nat.add_assoc], fun z hz w => by
  rw [G.2.2.2 z (by rw [H.2.1.q]; exact hz) (by rw [H.2.2.2 z hz w]; exact w), H.2.2.2 z hz w]⟩
/-- one request's turn -/
theorem turn_s (I : Inv h) (hi : i < nq h) (h0 : rd h (47 + i) 9 = 0) : ∃ v g, Dec h g v ∧ rd g (47 + i) 9 ≠ 0 ∧ ∀ (x1 x2 : Int32) (q : Nat), (if rd h (47 + i) 13 = -1 then bI (F_X6_decideAlone [.ref 0, .int (nI i)] h) (fun v4 h3 => f_X6_confer_103 x1 (nI q) v4 x2 h3) (hnk []) else bI (F_X6_decidePair [.ref 0, .int (nI i), .int (rd h (47 + i) 13)] h) (fun v6 h5 => f_X6_confer_103 x1 (nI q) v6 x2 h5) (hnk [])) = f_X6_confer_31 x1 (x2 + nI v) (nI (q + 1)) g := by
  have h60 := I.1.1.q.1
  rcases I.2 i hi with e | ⟨j, j1, j2, j3, j4, j5⟩
  · obtain ⟨v, g, q1, q2, q3, q4⟩ := decideAlone_s I hi h0 e
    refine ⟨v, g, q3, q4, fun x1 x2 q => ?_⟩
    rw [if_pos e, q2, bI_r, e_X6_confer_103, e_X6_confer_105, nI_1]
  · obtain ⟨v, g, q1, q2, q3, q4, q5⟩ := decidePair_s I hi j1 (fun z => j2 z.symm) h0 (j5.mp h0) j3 j4
    refine ⟨v, g, q3, q4, fun x1 x2 q => ?_⟩
    rw [if_neg (by rw [j3]; exact nI_m1 (by omega)), j3, q2, bI_r, e_X6_confer_103, e_X6_confer_105, nI_1]
theorem confer_l {m : Nat} (hm : m ≤ 60) : ∀ (n p c : Nat) (a : Hp), p + n = m → Inv a → (∀ z, z < m → ∃ y, y < nq a ∧ rd a 7 z = nI y) → ∃ v g, f_X6_confer_31 (nI m) (nI c) (nI p) a = rtn (some (.int (nI (c + v)))) g ∧ Dec a g v ∧ ∀ z y, p ≤ z → z < m → y < nq a → rd a 7 z = nI y → rd g (47 + y) 9 ≠ 0
  | 0, p, c, a, e, I, R => by
    refine ⟨0, a, ?_, Dec.refl I, fun z y h1 h2 => by omega⟩
    rw [e_X6_confer_31, if_neg (nI_nlt (by omega) (by omega))]
    rfl
  | n + 1, p, c, a, e, I, R => by
    have h60 := I.1.1.q.1
    obtain ⟨i, hi, ei⟩ := R p (by omega)
    rw [e_X6_confer_31, if_pos (nI_lt (by omega) (by omega)), if_pos (show nI p < 60 from nI_lt (b := 60) (by omega) (by decide)), inb_nI (by omega) (by decide), nI_clamp (n := p) (by omega), ei]
    simp only [gd_t]
    rw [requestAt_s I.1.1 hi, bR_r, (okc_rq i (by omega)).1]
    simp only [gd_t]
    have up : ∀ (v : Nat) (g1 : Hp), Dec a g1 v → rd g1 (47 + i) 9 ≠ 0 → ∃ w g, f_X6_confer_31 (nI m) (nI (c + v)) (nI (p + 1)) g1 = rtn (some (.int (nI (c + w)))) g ∧ Dec a g w ∧ ∀ z y, p ≤ z → z < m → y < nq a → rd a 7 z = nI y → rd g (47 + y) 9 ≠ 0 := by
      intro v g1 D hg
      have e7 : ∀ z, rd g1 7 z = rd a 7 z := fun z => D.2.1.1 _ _ (by unfold PC; omega)
      have em := D.2.1.q
      obtain ⟨w, g, q1, q2, q3⟩ := confer_l hm n (p + 1) (c + v) g1 (by omega) D.1 (fun z hz => by
        obtain ⟨y, y1, y2⟩ := R z hz
        exact ⟨y, by omega, by rw [e7]; exact y2⟩)
      refine ⟨v + w, g, by rw [q1, Nat.add_assoc], D.trans q2, fun z y h1 h2 h3 h4 => ?_⟩
      by_cases cz : z = p
      · subst cz
        have : y = i := nI_inj (by omega) (by omega) (h4.symm.trans ei)
        subst this
        rw [q2.2.2.2 y (by omega) hg]
        exact hg
      · exact q3 z y (by omega) h2 (by omega) (by rw [e7]; exact h4)
    by_cases h0 : rd a (47 + i) 9 = 0
    · rw [if_pos h0, ei]
      obtain ⟨v, g1, q1, q2, q3⟩ := turn_s I hi h0
      rw [q3, nI_add]
      exact up v g1 q1 q2
    · rw [if_neg h0, e_X6_confer_105, nI_1]
      exact up 0 a (Dec.refl I) h0
theorem confer_s (I : Inv h) : (cnt (stB 0 h) (nq h) = 0 ∧ F_X6_confer [.ref 0] h = thr 2 h) ∨ (0 < cnt (stB 0 h) (nq h) ∧ ∃ v g, F_X6_confer [.ref 0] h = rtn (some (.int (nI v))) g ∧ Inv g ∧ ns g = ns h + v ∧ nq g = nq h ∧ (∀ i, i < nq h → rd g (47 + i) 9 ≠ 0) ∧ (∀ i, i < nq h → rd h (47 + i) 9 ≠ 0 → rd g (47 + i) 9 = rd h (47 + i) 9) ∧ WK h g ∧ (∀ j, j < ns h → ∀ k, rd g (107 + j) k = rd h (107 + j) k) ∧ Fr PCC h g) := by
  have V := I.1.1
  have h60 := V.q.1
  have h61 := V.s.1
  have hc := cnt_le (f := stB 0 h) (nq h)
  rw [e_X6_confer_0, requestsThatAre_s V, bI_r]
  by_cases c : cnt (stB 0 h) (nq h) = 0
  · exact Or.inl ⟨c, by rw [c, if_pos (show nI 0 = 0 from rfl)]⟩
  · right
    refine ⟨by omega, ?_⟩
    rw [if_neg (nI_ne0 (by omega) (by omega))]
    obtain ⟨h1, q1, q2, q3, q4⟩ := sortAll_s I
    have r1 : ∀ a k, ¬ (47 ≤ a ∧ a < 107 ∧ k = 10) → rd h1 a k = rd h a k := fun a k z => q2 a k z
    have em1 : nq h1 = nq h := by unfold nq; rw [r1 _ _ (by omega)]
    obtain ⟨m, h2, p1, p2, p3, p4, p5⟩ := order_s q3.1.1 q3.1.2.2.2.2.1 (fun i hi h0 => q4 i (by omega) (by rw [← r1 _ _ (by omega)]; exact h0))
    have r2 : ∀ a k, ¬ (7 ≤ a ∧ a ≤ 9) → rd h2 a k = rd h1 a k := fun a k z => p3 a k z
    have em2 : nq h2 = nq h1 := by unfold nq; rw [r2 _ _ (by omega)]
    have I2 : Inv h2 := q3.oth (p3.up fun b k z => Or.inr (Or.inl ⟨z.1, Nat.le_trans z.2 (by decide)⟩))
    obtain ⟨v, g, s1, s2, s3⟩ := confer_l p2 m 0 0 h2 (by omega) I2 (fun z hz => by
      obtain ⟨y, y1, y2⟩ := p4 z hz
      exact ⟨y, by omega, y2⟩)
    have s1 : f_X6_confer_31 (nI m) 0 0 h2 = rtn (some (.int (nI (0 + v)))) g := s1
    have e9 : ∀ i, i < 60 → rd h2 (47 + i) 9 = rd h (47 + i) 9 := fun i hi => by rw [r2 _ _ (by omega), r1 _ _ (by omega)]
    have es : ∀ j k, j < 60 → rd h2 (107 + j) k = rd h (107 + j) k := fun j k hj => by rw [r2 _ _ (by omega), r1 _ _ (by omega)]
    have en : ns h2 = ns h := by unfold ns; rw [r2 _ _ (by omega), r1 _ _ (by omega)]
    have F2 : Fr PCC h h2 := (q2.up fun b k z => Or.inr (Or.inl z)).trans (p3.up fun b k z => Or.inr (Or.inr z))
    refine ⟨v, g, ?_, s2.1, by rw [s2.2.2.1, en], by rw [s2.2.1.q, em2, em1], fun i hi => ?_, fun i hi w => ?_, ?_, fun j hj k => ?_, F2.trans (s2.2.1.1.up fun b k z => Or.inl z)⟩
    · rw [q1, bV_r, p1, bI_r, s1, Nat.zero_add]
    · by_cases h0 : rd h (47 + i) 9 = 0
      · obtain ⟨z, z1, z2⟩ := p5 i (by omega) (by rw [r1 _ _ (by omega)]; exact h0)
        exact s3 z i (Nat.zero_le _) z1 (by omega) z2
      · rw [s2.2.2.2 i (by omega) (by rw [e9 i (by omega)]; exact h0), e9 i (by omega)]
        exact h0
    · rw [s2.2.2.2 i (by omega) (by rw [e9 i (by omega)]; exact w), e9 i (by omega)]
    · have w1 : WK h h2 := WK.same (by rw [r2 _ _ (by omega), r1 _ _ (by omega)]) (fun a k z1 z2 => by rw [r2 _ _ (by omega), r1 _ _ (by omega)]) (fun j k hj => es j k (by omega))
      exact w1.trans s2.2.1.2.2.2 fun a k z1 z2 => by rw [r2 _ _ (by omega), r1 _ _ (by omega)]
    · rw [s2.2.1.2.2.1 j (by omega) k, es j k (by omega)]
end CONFER
