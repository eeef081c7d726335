/-! what nobody looks at, by the frame -/
def PQt (p k : Nat) : Prop := (7 ≤ p ∧ p ≤ 10) ∨ p = 274 ∨ (p = 227 ∧ (k = 0 ∨ k = 52))
theorem Inv.quietF {h g : Hp} (H : Inv h) (F : Fr PQt h g) : Inv g := by
  obtain ⟨b1, b2, b3, b4, b5, b6, b7, b8, b9, b10, b11, b12, b13⟩ := H
  refine ⟨b1.F F ?_ ?_, b2.F F ?_ ?_, b3.F F ?_ ?_, b4.F F ?_ ?_, b5.F F ?_ ?_, b6.F F ?_ ?_, b7.F F ?_ ?_ ?_, b8.F F ?_ ?_, b9.F F ?_, b10.F F ?_ ?_, b11.F F ?_ ?_, b12.F F ?_ ?_, b13.F F ?_ ?_⟩
  all_goals (unfold PQt; first | omega | (intros; omega) | (refine ⟨?_, ?_⟩ <;> omega) | (intro k; refine ⟨?_, ?_⟩ <;> omega) | (intro k; refine ⟨?_, ?_, ?_⟩ <;> omega))
/-- the class's part in one heap, the reference's in another -/
def Tw (a m : Hp) : Prop := CN a m ∧ SX a m ∧ AX a m ∧ VN m ∧ VA m
def PCl (p k : Nat) : Prop := p < 227 ∨ (p = 227 ∧ k = 0)
theorem Tw.of {h m : Hp} (H : Inv h) (F : Fr PCl h m) : Tw h m := by
  obtain ⟨N, S, QQ, RR, A, G, T, V, hVA, hVS, hVQ, hVR, hQU⟩ := H
  have n1 : ns m = ns h := ns_F F (by unfold PCl; omega)
  refine ⟨⟨?_, ?_⟩, ?_, ?_, ?_, ?_⟩
  · rw [n1, N.2.1, V.s.2]
  · rw [n1]
    exact V.s.1
  · intro i hi f hf
    have q := sa_in f hf
    rw [F _ _ (by unfold PCl; omega)]
    exact S i hi f hf
  · intro b hb
    obtain ⟨q1, q2, q3, q4, q5, q6⟩ := A b hb
    refine ⟨?_, ?_, ?_, ?_, fun r hr => ⟨?_, ?_, ?_⟩⟩ <;> rw [F _ _ (by unfold PCl; omega)]
    · exact q1
    · exact q2
    · exact q3
    · exact q4
    · exact (q6 r hr).1
    · exact (q6 r hr).2.1
    · exact (q6 r hr).2.2
  · exact V.F F (by unfold PCl; omega) (by unfold PCl; intros; omega)
  · exact hVA.F F (by unfold PCl; intros; omega)
theorem Inv.VQ7 {h : Hp} (H : Inv h) {i : Nat} (hi : i < nq h) : VQ7 h i := by
  obtain ⟨q1, q2, q3, q4, q5, -⟩ := H.2.2.2.2.2.2.2.2.2.2.1 i hi
  exact ⟨q1, q4, q5⟩
theorem Inv.QX {h : Hp} (H : Inv h) {i : Nat} (hi : i < 60) : QX h h i := fun f hf => H.2.2.1 i hi f (by omega) (by omega)
theorem vq7_F {P : Nat → Nat → Prop} {h m : Hp} {i : Nat} (H : VQ7 h i) (F : Fr P h m) (h1 : ∀ p k, 246 ≤ p → p ≤ 251 → ¬ P p k) : VQ7 m i := by
  unfold VQ7
  rw [F 246 i (h1 _ _ (by decide) (by decide)), F 250 i (h1 _ _ (by decide) (by decide)), F 251 i (h1 _ _ (by decide) (by decide))]
  exact H
theorem QX.r {P : Nat → Nat → Prop} {a h m : Hp} {i : Nat} (H : QX a h i) (F : Fr P h m) (h1 : ∀ p k, 246 ≤ p → p ≤ 252 → ¬ P p k) : QX a m i := fun f hf => by
  have q : 246 ≤ QA f ∧ QA f ≤ 252 := (by decide : ∀ f, f < 7 → 246 ≤ QA f ∧ QA f ≤ 252) f hf
  rw [F _ _ (h1 _ _ q.1 q.2)]
  exact H f hf
/-- the reason in one heap -/
theorem reason_h {h m : Hp} (H : Inv h) (F : Fr PCl h m) {i t : Nat} (hi : i < nq h) (ht : t < 72) : ∃ x a2, F_X6_reasonAgainst [.ref 0, .ref (47 + i), .int (nI t)] h = rtn (some (.int x)) a2 ∧ F_X7_reason [.ref 227, .int (nI i), .int (nI t)] m = rtn (some (.int x)) m ∧ Fr T10 h a2 ∧ rdL a2 = rdL h := by
  obtain ⟨C, S, A, V, hVA⟩ := Tw.of H F
  have h60 := H.2.2.2.2.2.2.2.1.q.1
  exact reason_s C S A V hVA (by omega) ((H.QX (by omega)).r F (by unfold PCl; intros; omega)) (vq7_F (H.VQ7 hi) F (by unfold PCl; intros; omega)) ht
def srt (h : Hp) (i : Nat) : Int32 := if rd h 253 i = -1 then (match nwB (rd h 235 (rd h 245 i).toNatClampNeg) (rd h 246 i) h with | true => 2 | false => 3) else if rd h 249 i = rd h 240 (rd h 253 i).toNatClampNeg ∧ rd h 250 i = rd h 241 (rd h 253 i).toNatClampNeg ∧ rd h 251 i = rd h 242 (rd h 253 i).toNatClampNeg ∧ rd h 252 i = rd h 243 (rd h 253 i).toNatClampNeg then 0 else 1
theorem sortNow_s {h : Hp} {i : Nat} (N : EqN h) (S : EqS h) (QQ : EqQ h) (RR : EqR h) (G : EqG h) (V : VN h) (hVS : VS h) (hVQ : VQ h) (hVR : VR h) (hi : i < nq h) : F_X6_sortNow [.ref 0, .ref (47 + i)] h = rtn (some (.int (srt h i))) h := by
  have h60 := V.q.1
  have hr60 := V.r.1
  obtain ⟨g0, g1, g2, g3, g4, g5, g6, g7, g8, g9, g11, g12, g13⟩ := QQ.g (k := i) (by omega)
  obtain ⟨v1, v2, v3, v4, v5, v6, v7, v8, -⟩ := hVQ i hi
  obtain ⟨c, hc, ec⟩ := irg_9 v6
  have oq := (okc_rq i (by omega)).1
  rw [e_X6_sortNow_0, oq]
  simp only [gd_t]
  rw [g8, g7, ec, groupAt_s hc, bI_r]
  unfold srt
  by_cases d : rd h 253 i = -1
  · rw [if_pos d, if_pos d, e_X6_isGroupNew_0, g0, ec, nI_clamp (by omega), G c hc]
    have q := gn1_l (g := rd h 235 c) (x2 := rd h 246 i) N V S RR G hVS hVR (nr h) 0 0 (by omega)
    have q : f_X6_isGroupNew_5 (rd h 235 c) (rd h 246 i) 0 0 h = rtn (some (.int (bi (nwB (rd h 235 c) (rd h 246 i) h)))) h := q
    rw [q, bI_r]
    cases nwB (rd h 235 c) (rd h 246 i) h <;> rfl
  · obtain ⟨j, hj, ej⟩ := v7.resolve_left d
    obtain ⟨k0, k1, k2, k3, k4, k5, k6, k7, k8⟩ := RR.g (k := j) (by omega)
    rw [if_neg d, if_neg d, ej, rightAt_s N V hj, bR_r, nI_clamp (by omega), e_X5_isSameAs_0, (okc_rq i (by omega)).2, (okc_rt j (by omega)).2]
    simp only [gd_t]
    rw [g3, g4, g5, g6, k3, k4, k5, k6]
    by_cases c1 : rd h 249 i = rd h 240 j
    · by_cases c2 : rd h 250 i = rd h 241 j
      · by_cases c3 : rd h 251 i = rd h 242 j
        · by_cases c4 : rd h 252 i = rd h 243 j
          · simp [c1, c2, c3, c4, bI_r]
          · simp [c1, c2, c3, c4, bI_r]
        · simp [c1, c2, c3, bI_r]
      · simp [c1, c2, bI_r]
    · simp [c1, bI_r]
theorem sortOf_s {h : Hp} {i : Nat} (V : VN h) (hVS : VS h) (hVQ : VQ h) (hVR : VR h) (hi : i < nq h) : F_X7_sortOf [.ref 227, .int (nI i)] h = rtn (some (.int (srt h i))) h := by
  have h60 := V.q.1
  have hr60 := V.r.1
  obtain ⟨v1, v2, v3, v4, v5, v6, v7, v8, -⟩ := hVQ i hi
  obtain ⟨c, hc, ec⟩ := irg_9 v6
  have ii : inb (nI i) 60 = true := inb_nI (by omega) (by decide)
  have ci : (nI i).toNatClampNeg = i := nI_clamp (by omega)
  rw [e_X7_sortOf_0, ii, ci]
  simp only [gd_t]
  unfold srt
  by_cases d : rd h 253 i = -1
  · rw [if_pos d, if_pos d, ec, isNewAt_s hc V hVS hVR, bI_r, nI_clamp (by omega)]
    cases nwB (rd h 235 c) (rd h 246 i) h <;> rfl
  · obtain ⟨j, hj, ej⟩ := v7.resolve_left d
    rw [if_neg d, if_neg d, ej, nI_clamp (by omega), inb_nI (j := j) (by omega) (by decide)]
    simp only [gd_t, e_X7_sortOf_101, e_X7_sortOf_102]
    by_cases c1 : rd h 249 i = rd h 240 j
    · by_cases c2 : rd h 250 i = rd h 241 j
      · by_cases c3 : rd h 251 i = rd h 242 j
        · by_cases c4 : rd h 252 i = rd h 243 j
          · simp [c1, c2, c3, c4]
          · simp [c1, c2, c3, c4]
        · simp [c1, c2, c3]
      · simp [c1, c2]
    · simp [c1]
theorem hq_srt {h : Hp} {v : Int64} {w : Int32} {i : Nat} : srt (hq h v w) i = srt h i := by
  unfold srt
  rw [hq_nw, hq_rd (by decide), hq_rd (by decide), hq_rd (by decide), hq_rd (by decide), hq_rd (by decide), hq_rd (by decide), hq_rd (by decide), hq_rd (by decide), hq_rd (by decide), hq_rd (by decide), hq_rd (by decide), hq_rd (by decide)]
theorem irg_71 {x : Int32} (e : irg x 0 71 = true) : ∃ j : Nat, j < 72 ∧ x = nI j := by
  obtain ⟨j, h1, h2⟩ := irg_nI (n := 71) (by decide) e
  exact ⟨j, by omega, h2⟩
