/-! whether a carrier's group is new at an airport; of which sort a request is -/
section NEWS
variable {h : Hp} {g x x2 : Int32} {i j k c : Nat}
theorem ite_bi {p : Prop} [Decidable p] : (if p then rtn (some (.int 1)) h else rtn (some (.int 0)) h) = rtn (some (.int (bi (decide p)))) h := by
  by_cases c : p <;> simp [c, bi]
theorem gn2_l (V : VN h) (S : VS h) : ∀ (n k : Nat) (acc : Int32), k + n = ns h → ∃ b : Bool, f_X6_isGroupNew_56 g x2 acc (nI k) h = rtn (some (.int (bi b))) h
  | 0, k, acc, e => by
    have h60 := V.s.1
    refine ⟨decide (acc < 3), ?_⟩
    rw [e_X6_isGroupNew_56, V.s.2, if_neg (nI_nlt (by omega) (by omega)), ite_bi]
  | n + 1, k, acc, e => by
    have h60 := V.s.1
    obtain ⟨b1, e1⟩ := gn2_l V S n (k + 1) acc (by omega)
    obtain ⟨b2, e2⟩ := gn2_l V S n (k + 1) (acc + 1) (by omega)
    obtain ⟨j, hj, ej⟩ := irg_9 (S k (by omega)).2.1
    rw [e_X6_isGroupNew_56, V.s.2, if_pos (nI_lt (by omega) (by omega)), seriesAt_s V (by omega), bR_r, (okc_sr k (by omega)).1]
    simp only [gd_t, ej, groupAt_s hj, bI_r, e_X6_isGroupNew_106, nI_1, e1, e2]
    by_cases c1 : rd h (107 + k) 12 = 0
    · by_cases c2 : rd h (107 + k) 0 = x2
      · by_cases c3 : rd h 2 j = g
        · exact ⟨b2, by simp [c1, c2, c3]⟩
        · exact ⟨b1, by simp [c1, c2, c3]⟩
      · exact ⟨b1, by simp [c1, c2]⟩
    · exact ⟨b1, by simp [c1]⟩
theorem gn1_l (V : VN h) (S : VS h) (R : VR h) : ∀ (n k : Nat) (acc : Int32), k + n = nr h → ∃ b : Bool, f_X6_isGroupNew_5 g x2 acc (nI k) h = rtn (some (.int (bi b))) h
  | 0, k, acc, e => by
    have h60 := V.r.1
    obtain ⟨b, e1⟩ := gn2_l (g := g) (x2 := x2) V S (ns h) 0 acc (by omega)
    refine ⟨b, ?_⟩
    rw [e_X6_isGroupNew_5, V.r.2, if_neg (nI_nlt (by omega) (by omega))]
    exact e1
  | n + 1, k, acc, e => by
    have h60 := V.r.1
    obtain ⟨b1, e1⟩ := gn1_l V S R n (k + 1) acc (by omega)
    obtain ⟨b2, e2⟩ := gn1_l V S R n (k + 1) (acc + 1) (by omega)
    obtain ⟨j, hj, ej⟩ := irg_9 (R k (by omega)).2
    rw [e_X6_isGroupNew_5, V.r.2, if_pos (nI_lt (by omega) (by omega)), rightAt_s V (by omega), bR_r, (okc_rt k (by omega)).1]
    simp only [gd_t, ej, groupAt_s hj, bI_r, e_X6_isGroupNew_47, nI_1, e1, e2]
    by_cases c2 : rd h (167 + k) 0 = x2
    · by_cases c3 : rd h 2 j = g
      · exact ⟨b2, by simp [c2, c3]⟩
      · exact ⟨b1, by simp [c2, c3]⟩
    · exact ⟨b1, by simp [c2]⟩
theorem isGroupNew_s (V : VN h) (S : VS h) (R : VR h) : ∃ b : Bool, F_X6_isGroupNew [.ref 0, .int g, .int x2] h = rtn (some (.int (bi b))) h := by
  rw [e_X6_isGroupNew_0]
  exact gn1_l V S R (nr h) 0 0 (by omega)
/-- .. and what it is, as a truth -/
noncomputable def nwB (g x2 : Int32) (h : Hp) : Bool := @decide (F_X6_isGroupNew [.ref 0, .int g, .int x2] h = rtn (some (.int 1)) h) (Classical.propDecidable _)
theorem isGroupNew_b (V : VN h) (S : VS h) (R : VR h) : F_X6_isGroupNew [.ref 0, .int g, .int x2] h = rtn (some (.int (bi (nwB g x2 h)))) h := by
  obtain ⟨b, e⟩ := isGroupNew_s (g := g) (x2 := x2) V S R
  have q : nwB g x2 h = b := by
    unfold nwB
    cases b with
    | true => exact @decide_eq_true _ (Classical.propDecidable _) e
    | false =>
      refine @decide_eq_false _ (Classical.propDecidable _) fun z => ?_
      rw [e] at z
      have z2 : some (Sum.inl (some (Value.int 0), h)) = (some (Sum.inl (some (Value.int 1), h)) : Res) := z
      cases z2
  rw [q, e]
theorem isNew_s (V : VN h) (S : VS h) (R : VR h) (hc : c < 10) (hj : j < 4) : F_X6_isNew [.ref 0, .int (nI c), .int (nI j)] h = rtn (some (.int (bi (nwB (rd h 2 c) (nI j) h)))) h := by
  rw [e_X6_isNew_0, groupAt_s hc, bI_r, airportAt_s hj, bR_r, isGroupNew_b V S R, bI_r, okZ_bi, gd_t]
theorem isSameAs_s {a b : Nat} (ha : okc a 7 = true) (hb : okc b 7 = true) : F_X5_isSameAs [.ref a, .ref b] h = rtn (some (.int (bi (decide (rd h a 3 = rd h b 3) && decide (rd h a 4 = rd h b 4) && decide (rd h a 5 = rd h b 5) && decide (rd h a 6 = rd h b 6))))) h := by
  rw [e_X5_isSameAs_0, ha, hb]
  simp only [gd_t]
  by_cases c1 : rd h a 3 = rd h b 3
  · by_cases c2 : rd h a 4 = rd h b 4
    · by_cases c3 : rd h a 5 = rd h b 5
      · by_cases c4 : rd h a 6 = rd h b 6
        · simp [c1, c2, c3, c4, bi]
        · simp [c1, c2, c3, c4, bi]
      · simp [c1, c2, c3, bi]
    · simp [c1, c2, bi]
  · simp [c1, bi]
/-- the sort of a request as it stands -/
noncomputable def srt (h : Hp) (i : Nat) : Int32 := if rd h (47 + i) 8 = -1 then (match nwB (rd h 2 (rd h (47 + i) 7).toNatClampNeg) (rd h (47 + i) 0) h with | true => 2 | false => 3)
  else (match (decide (rd h (47 + i) 3 = rd h (167 + (rd h (47 + i) 8).toNatClampNeg) 3) && decide (rd h (47 + i) 4 = rd h (167 + (rd h (47 + i) 8).toNatClampNeg) 4) && decide (rd h (47 + i) 5 = rd h (167 + (rd h (47 + i) 8).toNatClampNeg) 5) && decide (rd h (47 + i) 6 = rd h (167 + (rd h (47 + i) 8).toNatClampNeg) 6)) with | true => 0 | false => 1)
theorem srt_4 : srt h i = 0 ∨ srt h i = 1 ∨ srt h i = 2 ∨ srt h i = 3 := by
  unfold srt
  by_cases c : rd h (47 + i) 8 = -1
  · rw [if_pos c]
    cases nwB (rd h 2 (rd h (47 + i) 7).toNatClampNeg) (rd h (47 + i) 0) h
    · exact Or.inr (Or.inr (Or.inr rfl))
    · exact Or.inr (Or.inr (Or.inl rfl))
  · rw [if_neg c]
    split
    · exact Or.inl rfl
    · exact Or.inr (Or.inl rfl)
theorem sortNow_s (V : VN h) (S : VS h) (R : VR h) (Q : VQ h) (hi : i < nq h) : F_X6_sortNow [.ref 0, .ref (47 + i)] h = rtn (some (.int (srt h i))) h := by
  have h60 := V.q.1
  have h61 := V.r.1
  obtain ⟨-, q7, q8⟩ := Q i hi
  obtain ⟨c, hc, ec⟩ := irg_9 q7
  rw [e_X6_sortNow_0, (okc_rq i (by omega)).1]
  simp only [gd_t]
  rw [ec, groupAt_s hc, bI_r, isGroupNew_b V S R, bI_r]
  unfold srt
  rw [ec, nI_clamp (by omega)]
  by_cases c1 : rd h (47 + i) 8 = -1
  · rw [if_pos c1, if_pos c1]
    cases nwB (rd h 2 c) (rd h (47 + i) 0) h
    · rw [bi_f, if_pos rfl]
    · rw [bi_t, if_neg one_ne]
  · rw [if_neg c1, if_neg c1]
    rcases q8 with q8 | ⟨j, hj, q8⟩
    · exact absurd q8 c1
    · rw [q8, rightAt_s V hj, bR_r, isSameAs_s (okc_rq i (by omega)).2 (okc_rt j (by omega)).2, bI_r, nI_clamp (by omega)]
      cases (decide (rd h (47 + i) 3 = rd h (167 + j) 3) && decide (rd h (47 + i) 4 = rd h (167 + j) 4) && decide (rd h (47 + i) 5 = rd h (167 + j) 5) && decide (rd h (47 + i) 6 = rd h (167 + j) 6))
      · rw [bi_f, if_pos rfl]
      · rw [bi_t, if_neg one_ne]
end NEWS
