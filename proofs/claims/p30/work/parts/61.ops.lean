/-! what is told of requests, series and rights; series that change hands, fly; days that close -/
section OPS2
variable {h g : Hp} {x x1 x2 x3 x4 y : Int32} {i j k m r s c d w t n : Nat}
theorem reqOf_0 (V : VN h) (hi : i < nq h) : F_X6_requestOf [.ref 0, .int (nI i), .int 0] h = rtn (some (.int (rd h (47 + i) 9))) h := by
  have h60 := V.q.1
  rw [e_X6_requestOf_0, requestAt_s V hi, bR_r, if_pos (by decide), (okc_rq i (by omega)).1]
  rfl
theorem reqOf_2 (V : VN h) (hi : i < nq h) : F_X6_requestOf [.ref 0, .int (nI i), .int 2] h = rtn (some (.int (rd h (47 + i) 11))) h := by
  have h60 := V.q.1
  rw [e_X6_requestOf_0, requestAt_s V hi, bR_r, if_neg (by decide), if_neg (by decide), if_pos (by decide), (okc_rq i (by omega)).1]
  rfl
theorem reqOf_3 (V : VN h) (hi : i < nq h) : F_X6_requestOf [.ref 0, .int (nI i), .int 3] h = rtn (some (.int (rd h (47 + i) 12))) h := by
  have h60 := V.q.1
  rw [e_X6_requestOf_0, requestAt_s V hi, bR_r, if_neg (by decide), if_neg (by decide), if_neg (by decide), if_pos (by decide), (okc_rq i (by omega)).1]
  rfl
theorem reqOf_4 (V : VN h) (hi : i < nq h) : F_X6_requestOf [.ref 0, .int (nI i), .int 4] h = rtn (some (.int (rd h (47 + i) 13))) h := by
  have h60 := V.q.1
  rw [e_X6_requestOf_0, requestAt_s V hi, bR_r, if_neg (by decide), if_neg (by decide), if_neg (by decide), if_neg (by decide), if_pos (by decide), (okc_rq i (by omega)).1]
  rfl
theorem reqOf_1 (I : Inv h) (hi : i < nq h) (h0 : rd h (47 + i) 9 = 0) : F_X6_requestOf [.ref 0, .int (nI i), .int 1] h = rtn (some (.int (srt h i))) h := by
  obtain ⟨⟨V, -, S, -, Q, -, R, -⟩, -⟩ := I
  have h60 := V.q.1
  rw [e_X6_requestOf_0, requestAt_s V hi, bR_r, if_neg (by decide), if_pos (by decide), (okc_rq i (by omega)).1]
  simp only [gd_t]
  rw [if_pos h0, sortNow_s V S R Q hi, bI_r]
theorem isInQueue_s (hi : i < 60) : F_X1_isInQueue [.ref (47 + i)] h = rtn (some (.int (bi (decide (rd h (47 + i) 9 = 2) || decide (rd h (47 + i) 9 = 3))))) h := by
  rw [e_X1_isInQueue_0, (okc_rq i hi).1]
  simp only [gd_t]
  by_cases c1 : rd h (47 + i) 9 = 2
  · simp [c1, bi]
  · by_cases c2 : rd h (47 + i) 9 = 3
    · simp [c2, bi]
    · simp [c1, c2, bi]
theorem ahead_l (V : VN h) (U : QU h) (hi : i < nq h) : ∀ (n p c : Nat), p + n = np h → c ≤ p → ∃ v : Nat, f_X6_ahead_20 (nI i) (47 + i) (nI c) (nI p) h = rtn (some (.int (nI v))) h ∧ v ≤ 60
  | 0, p, c, e, hc => by
    have h60 := V.p.1
    exact ⟨c, by rw [e_X6_ahead_20, V.p.2, if_neg (nI_nlt (by omega) (by omega))], by omega⟩
  | n + 1, p, c, e, hc => by
    have h60 := V.p.1
    have h61 := V.q.1
    obtain ⟨v1, q1, q2⟩ := ahead_l V U hi n (p + 1) c (by omega) (by omega)
    obtain ⟨v2, r1, r2⟩ := ahead_l V U hi n (p + 1) (c + 1) (by omega) (by omega)
    obtain ⟨j, hj, ej⟩ := U p (by omega)
    rw [e_X6_ahead_20, V.p.2, if_pos (nI_lt (by omega) (by omega)), if_pos (show nI p < 60 from nI_lt (b := 60) (by omega) (by decide)), inb_nI (by omega) (by decide), gd_t, gd_t, nI_clamp (by omega), ej]
    by_cases c0 : nI j = nI i
    · exact ⟨c, by rw [if_pos c0], by omega⟩
    · rw [if_neg c0, requestAt_s V hj, bR_r, (okc_rq j (by omega)).1, (okc_rq i (by omega)).1]
      simp only [gd_t]
      rw [isInQueue_s (by omega), bI_r]
      simp only [e_X6_ahead_86, nI_1]
      cases (decide (rd h (47 + j) 9 = 2) || decide (rd h (47 + j) 9 = 3)) with
      | false => exact ⟨v1, by rw [bi_f, if_pos rfl]; exact q1, q2⟩
      | true =>
        rw [bi_t, if_neg one_ne]
        by_cases c2 : rd h (47 + j) 0 = rd h (47 + i) 0
        · exact ⟨v2, by rw [if_pos c2]; exact r1, r2⟩
        · exact ⟨v1, by rw [if_neg c2]; exact q1, q2⟩
/-- how many are ahead: nobody is told so where a request doesn't wait -/
theorem ahead_s (I : Inv h) (hi : i < nq h) : ∃ v, F_X6_ahead [.ref 0, .int (nI i)] h = rtn (some (.int v)) h ∧ (v = -1 ↔ rd h (47 + i) 9 = 0 ∨ rd h (47 + i) 9 = 1) := by
  obtain ⟨⟨V, -, -, -, -, T, -, U⟩, -⟩ := I
  have h60 := V.q.1
  obtain ⟨s, hs, es⟩ := irg_3 (T i hi).1
  rw [e_X6_ahead_0, requestAt_s V hi, bR_r, (okc_rq i (by omega)).1, gd_t, isInQueue_s (by omega), bI_r, es]
  have e2 : (nI s = 2) ↔ s = 2 := nI_eq (b := 2) (by omega) (by decide)
  have e3 : (nI s = 3) ↔ s = 3 := nI_eq (b := 3) (by omega) (by decide)
  have e0 : (nI s = 0) ↔ s = 0 := nI_eq (b := 0) (by omega) (by decide)
  have e1 : (nI s = 1) ↔ s = 1 := nI_eq (b := 1) (by omega) (by decide)
  by_cases c : s = 2 ∨ s = 3
  · obtain ⟨v, q1, q2⟩ := ahead_l V U hi (np h) 0 0 (by omega) (Nat.le_refl _)
    have q1 : f_X6_ahead_20 (nI i) (47 + i) 0 0 h = rtn (some (.int (nI v))) h := q1
    refine ⟨nI v, ?_, ?_⟩
    · rw [show (decide (nI s = 2) || decide (nI s = 3)) = true by simpa [e2, e3] using c, bi_t, if_neg one_ne, q1]
    · constructor
      · intro z
        exact absurd z (nI_m1 (by omega))
      · rw [e0, e1]
        omega
  · refine ⟨-1, ?_, ?_⟩
    · rw [show (decide (nI s = 2) || decide (nI s = 3)) = false by simpa [e2, e3] using c, bi_f, if_pos rfl]
    · rw [e0, e1]
      exact ⟨fun _ => by omega, fun _ => rfl⟩
/-! series -/
theorem serOf_s (V : VN h) (hi : i < ns h) (f : Nat) (hf : f = 0 ∨ f = 1 ∨ f = 2 ∨ f = 3 ∨ f = 4 ∨ f = 5 ∨ f = 6 ∨ f = 7 ∨ f = 8 ∨ f = 10) : F_X6_seriesOf [.ref 0, .int (nI i), .int (nI f)] h = rtn (some (.int (rd h (107 + i) (nthN [8, 9, 0, 1, 2, 3, 4, 5, 7, 0, 11] f)))) h := by
  have h60 := V.s.1
  rw [e_X6_seriesOf_0, seriesAt_s V hi, bR_r, (okc_sr i (by omega)).1]
  simp only [gd_t]
  rcases hf with rfl | rfl | rfl | rfl | rfl | rfl | rfl | rfl | rfl | rfl
  · rw [if_pos (by decide)]; rfl
  · rw [if_neg (by decide), if_pos (by decide)]; rfl
  · rw [if_neg (by decide), if_neg (by decide), if_pos (by decide)]; rfl
  · rw [if_neg (by decide), if_neg (by decide), if_neg (by decide), if_pos (by decide)]; rfl
  · rw [if_neg (by decide), if_neg (by decide), if_neg (by decide), if_neg (by decide), if_pos (by decide)]; rfl
  · rw [if_neg (by decide), if_neg (by decide), if_neg (by decide), if_neg (by decide), if_neg (by decide), if_pos (by decide)]; rfl
  · rw [if_neg (by decide), if_neg (by decide), if_neg (by decide), if_neg (by decide), if_neg (by decide), if_neg (by decide), if_pos (by decide)]; rfl
  · rw [if_neg (by decide), if_neg (by decide), if_neg (by decide), if_neg (by decide), if_neg (by decide), if_neg (by decide), if_neg (by decide), if_pos (by decide)]; rfl
  · rw [if_neg (by decide), if_neg (by decide), if_neg (by decide), if_neg (by decide), if_neg (by decide), if_neg (by decide), if_neg (by decide), if_neg (by decide), if_pos (by decide)]; rfl
  · rw [if_neg (by decide), if_neg (by decide), if_neg (by decide), if_neg (by decide), if_neg (by decide), if_neg (by decide), if_neg (by decide), if_neg (by decide), if_neg (by decide), if_neg (by decide), if_pos (by decide)]; rfl
theorem serOf_9 (V : VN h) (S : VS h) (hi : i < ns h) : F_X6_seriesOf [.ref 0, .int (nI i), .int 9] h = rtn (some (.int (nI (usd h i)))) h := by
  have h60 := V.s.1
  rw [e_X6_seriesOf_0, seriesAt_s V hi, bR_r, weeksUsed_s (by omega) (S i hi).1]
  simp only [bI_r]
  rw [if_neg (by decide), if_neg (by decide), if_neg (by decide), if_neg (by decide), if_neg (by decide), if_neg (by decide), if_neg (by decide), if_neg (by decide), if_neg (by decide), if_pos (by decide)]
theorem serOf_11 (V : VN h) (S : VS h) (hi : i < ns h) : F_X6_seriesOf [.ref 0, .int (nI i), .int 11] h = rtn (some (.int (rd h (107 + i) 12))) h := by
  have h60 := V.s.1
  rw [e_X6_seriesOf_0, seriesAt_s V hi, bR_r, (okc_sr i (by omega)).1]
  simp only [gd_t]
  rw [if_neg (by decide), if_neg (by decide), if_neg (by decide), if_neg (by decide), if_neg (by decide), if_neg (by decide), if_neg (by decide), if_neg (by decide), if_neg (by decide), if_neg (by decide), if_neg (by decide), if_pos (by decide)]
  rcases (S i hi).2.2.2.1 with e | e
  · rw [if_pos e, e]
  · rw [if_neg (by rw [e]; decide), e]
theorem earns_s (V : VN h) (S : VS h) (hi : i < ns h) : F_X6_earns [.ref 0, .int (nI i)] h = rtn (some (.int (bi (eaB h i)))) h := by
  have h60 := V.s.1
  rw [e_X6_earns_0, seriesAt_s V hi, bR_r, earnsRight_s (by omega) (S i hi).1, bI_r, okZ_bi, gd_t]
/-! rights -/
theorem rgtOf_s (V : VN h) (hi : i < nr h) (f : Nat) (hf : f = 0 ∨ f = 1 ∨ f = 2 ∨ f = 3 ∨ f = 4 ∨ f = 5 ∨ f = 6 ∨ f = 7 ∨ f = 8) : F_X6_rightOf [.ref 0, .int (nI i), .int (nI f)] h = rtn (some (.int (rd h (167 + i) (nthN [7, 0, 1, 2, 3, 4, 5, 6, 8] f)))) h := by
  have h60 := V.r.1
  rw [e_X6_rightOf_0, rightAt_s V hi, bR_r, (okc_rt i (by omega)).1]
  simp only [gd_t]
  rcases hf with rfl | rfl | rfl | rfl | rfl | rfl | rfl | rfl | rfl
  · rw [if_pos (by decide)]; rfl
  · rw [if_neg (by decide), if_pos (by decide)]; rfl
  · rw [if_neg (by decide), if_neg (by decide), if_pos (by decide)]; rfl
  · rw [if_neg (by decide), if_neg (by decide), if_neg (by decide), if_pos (by decide)]; rfl
  · rw [if_neg (by decide), if_neg (by decide), if_neg (by decide), if_neg (by decide), if_pos (by decide)]; rfl
  · rw [if_neg (by decide), if_neg (by decide), if_neg (by decide), if_neg (by decide), if_neg (by decide), if_pos (by decide)]; rfl
  · rw [if_neg (by decide), if_neg (by decide), if_neg (by decide), if_neg (by decide), if_neg (by decide), if_neg (by decide), if_pos (by decide)]; rfl
  · rw [if_neg (by decide), if_neg (by decide), if_neg (by decide), if_neg (by decide), if_neg (by decide), if_neg (by decide), if_neg (by decide), if_pos (by decide)]; rfl
  · rw [if_neg (by decide), if_neg (by decide), if_neg (by decide), if_neg (by decide), if_neg (by decide), if_neg (by decide), if_neg (by decide), if_neg (by decide), if_pos (by decide)]; rfl
/-! series change hands -/
theorem VS.set {P : Nat → Nat → Prop} (S : VS h) (F : Fr P h g) (e0 : rd g 0 11 = rd h 0 11) (hP : ∀ a k, P a k → 107 ≤ a → k = 7 ∨ k = 8 ∨ k = 9 ∨ k = 10) (h8 : ∀ j, j < ns h → irg (rd g (107 + j) 8) 0 9 = true ∧ irg (rd g (107 + j) 9) 0 9 = true) : VS g := by
  intro i hi
  have hn : ns g = ns h := by unfold ns; rw [e0]
  rw [hn] at hi
  obtain ⟨h1, -, -, h4, h5⟩ := S i hi
  have q : ∀ k, k ≠ 7 → k ≠ 8 → k ≠ 9 → k ≠ 10 → rd g (107 + i) k = rd h (107 + i) k := fun k z1 z2 z3 z4 => F _ _ fun z => by
    have := hP _ _ z (by omega)
    omega
  refine ⟨h1.F fun k hk => q k (by omega) (by omega) (by omega) (by omega), (h8 i hi).1, (h8 i hi).2, ?_, ?_⟩
  · rw [q 12 (by decide) (by decide) (by decide) (by decide)]
    exact h4
  · rw [q 12 (by decide) (by decide) (by decide) (by decide), q 11 (by decide) (by decide) (by decide) (by decide)]
    exact h5
theorem lease_s (I : Inv h) (hi : i < ns h) (hc : c < 10) : F_X6_lease [.ref 0, .int (nI i), .int (nI c)] h = thr 2 h ∨ ∃ v g, v < 10 ∧ F_X6_lease [.ref 0, .int (nI i), .int (nI c)] h = rtn (some (.int (nI v))) g ∧ Inv g ∧ Fr PS h g ∧ rd g (107 + i) 9 = nI c := by
  have V := I.1.1
  have S := I.1.2.2.1
  have h60 := V.s.1
  rw [e_X6_lease_0, seriesAt_s V hi, bR_r, groupAt_s hc, bI_r, (okc_sr i (by omega)).1]
  simp only [gd_t]
  by_cases c0 : rd h (107 + i) 12 = 0
  · right
    rw [if_pos c0]
    obtain ⟨v, hv, ev⟩ := irg_9 (S i hi).2.2.1
    have F : Fr (fun a k => a = 107 + i ∧ k = 9) h (wr h (107 + i) 9 (nI c)) := Fr.refl.w ⟨rfl, rfl⟩
    have FS : Fr PS h (wr h (107 + i) 9 (nI c)) := F.up fun a k z => ⟨by have := z.1; omega, by have := z.1; omega⟩
    refine ⟨v, _, hv, by rw [ev], I.ser FS (S.set F (rd_ne (by omega)) (fun a k z _ => Or.inr (Or.inr (Or.inl z.2))) fun j hj => ⟨?_, ?_⟩) (fun j _ => rd_nk (by decide)), FS, rd_eqw⟩
    · rw [rd_nk (by decide)]
      exact (S j hj).2.1
    · by_cases cj : j = i
      · subst cj
        rw [rd_eqw]
        exact nI_irg (n := 9) (by omega) (by decide)
      · rw [rd_ne (by omega)]
        exact (S j hj).2.2.1
  · exact Or.inl (by rw [if_neg c0])
theorem swap_s (I : Inv h) (hi : i < ns h) (hj : j < ns h) : (∃ E, F_X6_swap [.ref 0, .int (nI i), .int (nI j)] h = thr E h ∧ (E = 1 ∨ E = 2)) ∨ ∃ g, F_X6_swap [.ref 0, .int (nI i), .int (nI j)] h = rtn none g ∧ Inv g ∧ Fr PS h g ∧ rd g (107 + j) 8 = rd h (107 + i) 8 ∧ rd g (107 + i) 9 = rd h (107 + j) 9 := by
  have V := I.1.1
  have S := I.1.2.2.1
  have h60 := V.s.1
  rw [e_X6_swap_0, seriesAt_s V hi, bR_r, seriesAt_s V hj, bR_r]
  by_cases e : nI i = nI j
  · exact Or.inl ⟨1, by rw [if_pos e], Or.inl rfl⟩
  · have hij : i ≠ j := fun z => e (by rw [z])
    rw [if_neg e, (okc_sr i (by omega)).1, (okc_sr j (by omega)).1]
    simp only [gd_t]
    by_cases c1 : rd h (107 + i) 12 = 0
    · by_cases c2 : rd h (107 + j) 12 = 0
      · by_cases c3 : rd h (107 + i) 0 = rd h (107 + j) 0
        · right
          rw [if_pos c1, if_pos c2, if_pos c3]
          have F : Fr (fun a k => 107 ≤ a ∧ a < 167 ∧ (k = 8 ∨ k = 9)) h (wr (wr (wr (wr h (107 + i) 8 (rd h (107 + j) 8)) (107 + i) 9 (rd (wr h (107 + i) 8 (rd h (107 + j) 8)) (107 + j) 9)) (107 + j) 8 (rd h (107 + i) 8)) (107 + j) 9 (rd h (107 + i) 9)) := (((Fr.refl.w ⟨by omega, by omega, Or.inl rfl⟩).w ⟨by omega, by omega, Or.inr rfl⟩).w ⟨by omega, by omega, Or.inl rfl⟩).w ⟨by omega, by omega, Or.inr rfl⟩
          have FS : Fr PS h (wr (wr (wr (wr h (107 + i) 8 (rd h (107 + j) 8)) (107 + i) 9 (rd (wr h (107 + i) 8 (rd h (107 + j) 8)) (107 + j) 9)) (107 + j) 8 (rd h (107 + i) 8)) (107 + j) 9 (rd h (107 + i) 9)) := F.up fun a k z => ⟨z.1, z.2.1⟩
          refine ⟨_, rfl, I.ser FS (S.set F (FS 0 11 (by unfold PS; omega)) (fun a k z _ => by omega) fun k hk => ?_) (fun k _ => F _ _ (by omega)), FS, ?_, ?_⟩
          · by_cases ki : k = i
            · subst ki
              simp only [rd_wrx]
              rw [if_neg (by omega), if_neg (by omega), if_neg (by omega), if_pos (by simp), if_neg (by omega), if_neg (by omega), if_pos (by simp), if_neg (by omega)]
              exact ⟨(S j hj).2.1, (S j hj).2.2.1⟩
            · by_cases kj : k = j
              · subst kj
                simp only [rd_wrx]
                rw [if_neg (by omega), if_pos (by simp), if_pos (by simp)]
                exact ⟨(S i hi).2.1, (S i hi).2.2.1⟩
              · simp only [rd_wrx]
                repeat rw [if_neg (by omega)]
                exact ⟨(S k hk).2.1, (S k hk).2.2.1⟩
          · simp only [rd_wrx]
            rw [if_neg (by omega), if_pos (by simp)]
          · simp only [rd_wrx]
            rw [if_neg (by omega), if_neg (by omega), if_pos (by simp), if_neg (by omega)]
        · exact Or.inl ⟨2, by rw [if_pos c1, if_pos c2, if_neg c3, e_X6_swap_55], Or.inr rfl⟩
      · exact Or.inl ⟨2, by rw [if_pos c1, if_neg c2, e_X6_swap_55], Or.inr rfl⟩
    · exact Or.inl ⟨2, by rw [if_neg c1, e_X6_swap_55], Or.inr rfl⟩
/-! closed days -/
theorem close_s (I : Inv h) (hj : j < 4) (hd : d < 7) (hw : w < 20) : ∃ b g, F_X6_close [.ref 0, .int (nI j), .int (nI d), .int (nI w)] h = rtn (some (.int (bi b))) g ∧ b = !bt (rd h (13 + 9 * j) d) w ∧ Inv g ∧ Fr (fun a k => a = 13 + 9 * j ∧ k = d) h g ∧ bt (rd g (13 + 9 * j) d) w = true := by
  have F : Fr (fun a k => a = 13 + 9 * j ∧ k = d) h (wr h (13 + 9 * j) d (rd h (13 + 9 * j) d ||| ((1 : Int32) <<< (nI w &&& 31)))) := Fr.refl.w ⟨rfl, rfl⟩
  refine ⟨!bt (rd h (13 + 9 * j) d) w, _, ?_, rfl, I.air (F.up fun a k z => ⟨by have := z.1; omega, by have := z.1; omega⟩) ?_, F, ?_⟩
  · rw [e_X6_close_0, airportAt_s hj, bR_r, rng_t (show irg (nI d) 0 6 = true from nI_irg (n := 6) (by omega) (by decide)), bV_r, rng_t (show irg (nI w) 0 19 = true from nI_irg (n := 19) (by omega) (by decide)), bV_r, weeksFromTo_1 hw, bI_r, okc_ap j hj, gd_t, closedWeeksOn_s hj hd, bI_r]
    simp only [e_X6_close_45, okc_ap j hj, gd_t, closeWeeksOn_s (h := h) hj hd, bV_r]
    cases e : bt (rd h (13 + 9 * j) d) w with
    | true =>
      rw [if_neg (fun z => by rw [(bit_l (by omega)).mp z] at e; cases e)]
      rfl
    | false =>
      rw [if_pos ((bit_l (by omega)).mpr e)]
      rfl
  · intro b hb
    obtain ⟨m9, hm9, z1, z3, z2⟩ := I.1.2.1 b hb
    refine ⟨m9, hm9, ?_, ?_, fun r hr => ?_⟩
    · rw [F _ _ (by omega)]
      exact z1
    · rw [F _ _ (by omega)]
      exact z3
    · rw [F _ _ (by omega), F _ _ (by omega), F _ _ (by omega)]
      exact z2 r hr
  · rw [rd_eqw, b_or, b_shl w (by omega) 1 (by omega), Nat.sub_self, b_1 (by decide)]
    simp
end OPS2
