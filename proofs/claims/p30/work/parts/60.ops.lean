/-! the small calls -/
def PA (a _k : Nat) : Prop := 11 ≤ a ∧ a < 47
def PO (a _k : Nat) : Prop := a = 2 ∨ (7 ≤ a ∧ a ≤ 10) ∨ a = 227
def PS (a _k : Nat) : Prop := 107 ≤ a ∧ a < 167
section OPS
variable {h g : Hp} {x x1 x2 x3 x4 y : Int32} {i j k m r s c d w t : Nat}
theorem Inv.air (I : Inv h) (F : Fr PA h g) (A : VA g) : Inv g := by
  obtain ⟨⟨b1, b2, b3, b4, b5, b6, b7, b8⟩, b9⟩ := I
  have q : ∀ a k, ¬ (11 ≤ a ∧ a < 47) → rd g a k = rd h a k := fun a k z => F a k z
  exact ⟨⟨b1.F (fun k _ _ => q _ _ (by omega)) (fun i hi => q _ _ (by omega)), A, b3.F (q _ _ (by omega)) (fun i k _ _ _ => q _ _ (by omega)), b4.F (q _ _ (by omega)) (q _ _ (by omega)) (fun i _ => q _ _ (by omega)) (fun i _ _ => ⟨q _ _ (by omega), q _ _ (by omega)⟩), b5.F (q _ _ (by omega)) (q _ _ (by omega)) (fun i k _ _ => q _ _ (by omega)), b6.F (q _ _ (by omega)) (q _ _ (by omega)) (fun i k _ _ => q _ _ (by omega)) (fun i _ => q _ _ (by omega)), b7.F (q _ _ (by omega)) (fun i k _ _ => q _ _ (by omega)), b8.F (q _ _ (by omega)) (q _ _ (by omega)) (fun p _ => q _ _ (by omega))⟩, b9.F (q _ _ (by omega)) (fun i _ => q _ _ (by omega)) (fun i _ _ => by rw [q _ _ (by omega)])⟩
theorem Inv.oth (I : Inv h) (F : Fr PO h g) : Inv g := by
  obtain ⟨⟨b1, b2, b3, b4, b5, b6, b7, b8⟩, b9⟩ := I
  have q : ∀ a k, ¬ (a = 2 ∨ (7 ≤ a ∧ a ≤ 10) ∨ a = 227) → rd g a k = rd h a k := fun a k z => F a k z
  have h1 := b1.q.1
  have h2 := b1.s.1
  have h3 := b1.r.1
  exact ⟨⟨b1.F (fun k _ _ => q _ _ (by omega)) (fun i hi => q _ _ (by omega)), b2.F (fun a k _ _ => q _ _ (by omega)), b3.F (q _ _ (by omega)) (fun i k _ _ _ => q _ _ (by omega)), b4.F (q _ _ (by omega)) (q _ _ (by omega)) (fun i _ => q _ _ (by omega)) (fun i _ _ => ⟨q _ _ (by omega), q _ _ (by omega)⟩), b5.F (q _ _ (by omega)) (q _ _ (by omega)) (fun i k _ _ => q _ _ (by omega)), b6.F (q _ _ (by omega)) (q _ _ (by omega)) (fun i k _ _ => q _ _ (by omega)) (fun i _ => q _ _ (by omega)), b7.F (q _ _ (by omega)) (fun i k _ _ => q _ _ (by omega)), b8.F (q _ _ (by omega)) (q _ _ (by omega)) (fun p _ => q _ _ (by omega))⟩, b9.F (q _ _ (by omega)) (fun i _ => q _ _ (by omega)) (fun i _ _ => by rw [q _ _ (by omega)])⟩
theorem Inv.ser (I : Inv h) (F : Fr PS h g) (S : VS g) (e7 : ∀ i, i < ns h → rd g (107 + i) 7 = rd h (107 + i) 7) : Inv g := by
  obtain ⟨⟨b1, b2, b3, b4, b5, b6, b7, b8⟩, b9⟩ := I
  have q : ∀ a k, ¬ (107 ≤ a ∧ a < 167) → rd g a k = rd h a k := fun a k z => F a k z
  have h1 := b1.q.1
  have h2 := b1.s.1
  have h3 := b1.r.1
  exact ⟨⟨b1.F (fun k _ _ => q _ _ (by omega)) (fun i hi => q _ _ (by omega)), b2.F (fun a k _ _ => q _ _ (by omega)), S, b4.F (q _ _ (by omega)) (q _ _ (by omega)) e7 (fun i _ _ => ⟨q _ _ (by omega), q _ _ (by omega)⟩), b5.F (q _ _ (by omega)) (q _ _ (by omega)) (fun i k _ _ => q _ _ (by omega)), b6.F (q _ _ (by omega)) (q _ _ (by omega)) (fun i k _ _ => q _ _ (by omega)) e7, b7.F (q _ _ (by omega)) (fun i k _ _ => q _ _ (by omega)), b8.F (q _ _ (by omega)) (q _ _ (by omega)) (fun p _ => q _ _ (by omega))⟩, b9.F (q _ _ (by omega)) (fun i _ => q _ _ (by omega)) (fun i _ _ => by rw [q _ _ (by omega)])⟩
theorem DD.F (D : DD h) (e : ∀ k, rd g 227 k = rd h 227 k) (e0 : ∀ k, 10 ≤ k → k ≤ 14 → rd g 0 k = rd h 0 k) (eA : ∀ a, 11 ≤ a → a < 47 → ¬ (a = 13 ∨ a = 22 ∨ a = 31 ∨ a = 40) → rd g a 2 = rd h a 2) : DD g := by
  obtain ⟨d1, d2, d3, d4, d5⟩ := D
  refine ⟨?_, ?_, ?_, ?_, fun a ha => ⟨?_, fun r h6 hr => ?_⟩⟩
  · rw [e, e0 10 (by decide) (by decide)]
    exact d1
  · rw [e, e0 11 (by decide) (by decide)]
    exact d2
  · rw [e, e0 12 (by decide) (by decide)]
    exact d3
  · rw [e, e0 14 (by decide) (by decide)]
    exact d4
  · rw [e, eA _ (by omega) (by omega) (by omega)]
    exact (d5 a ha).1
  · rw [eA _ (by omega) (by omega) (by omega)] at hr
    rw [e, eA _ (by omega) (by omega) (by omega)]
    exact (d5 a ha).2 r h6 hr
theorem hnk_acts : hnk hn_L_acts 2 h = rtn (some (.int (-200))) h := rfl
/-! airports -/
theorem declare_s (I : Inv h) (hj : j < 4) (c2 : irg x2 0 2 = true) (c3 : irg x3 1 6 = true) (c4 : irg x4 0 20 = true) (em : rd h (11 + 9 * j) 2 = nI m) (hm : m ≤ 6) : (m = 6 ∧ F_X6_declare [.ref 0, .int (nI j), .int x2, .int x3, .int x4] h = thr 2 h) ∨
    (m < 6 ∧ ∃ g, F_X6_declare [.ref 0, .int (nI j), .int x2, .int x3, .int x4] h = rtn (some (.int (nI m))) g ∧ Inv g ∧ Fr PA h g ∧ rd g (11 + 9 * j) 2 = nI (m + 1) ∧ rd g (14 + 9 * j + m) 2 = x4 ∧ (∀ b, b < 4 → b ≠ j → rd g (11 + 9 * b) 2 = rd h (11 + 9 * b) 2) ∧ ∀ b r, b < 4 → r < 6 → ¬ (b = j ∧ r = m) → rd g (14 + 9 * b + r) 2 = rd h (14 + 9 * b + r) 2) := by
  have e0 : F_X6_declare [.ref 0, .int (nI j), .int x2, .int x3, .int x4] h = (if nI m < 6 then bR (F_X0_ruleAt [.ref (11 + 9 * j), .int (nI m)] (wr h (11 + 9 * j) 2 (nI m + 1))) (fun v7 h6 => gd (okc v7 3) (gd (okc v7 3) (gd (okc v7 3) (rtn (some (.int (nI m))) (wr (wr (wr h6 v7 0 x2) v7 1 x3) v7 2 x4))))) (hnk []) else thr 2 h) := by
    rw [e_X6_declare_0, airportAt_s hj, bR_r, kindOr_t c2, bV_r, rng_t c3, bV_r, rng_t c4, bV_r, okc_ap j hj]
    simp only [gd_t]
    rw [em]
  by_cases c : m < 6
  · right
    refine ⟨c, wr (wr (wr (wr h (11 + 9 * j) 2 (nI (m + 1))) (14 + 9 * j + m) 0 x2) (14 + 9 * j + m) 1 x3) (14 + 9 * j + m) 2 x4, ?_, ?_, ?_, ?_, ?_, ?_, ?_⟩
    · rw [e0, if_pos (show nI m < 6 from nI_lt (b := 6) c (by decide)), nI_1, ruleAt_s (m := m + 1) hj rd_eqw (by omega) (by omega), bR_r, (rul_b j hj m c).2]
      rfl
    · refine I.air ((((Fr.refl.w ?_).w ?_).w ?_).w ?_) ?_
      · exact ⟨by omega, by omega⟩
      · exact ⟨by omega, by omega⟩
      · exact ⟨by omega, by omega⟩
      · exact ⟨by omega, by omega⟩
      · intro b hb
        obtain ⟨m9, hm9, z1, z3, z2⟩ := I.1.2.1 b hb
        by_cases cb : b = j
        · subst cb
          have e9 : m9 = m := nI_inj (by omega) (by omega) (z1.symm.trans em)
          subst e9
          refine ⟨m9 + 1, by omega, ?_, ?_, fun r hr => ?_⟩
          · simp only [rd_wrx]
            rw [if_neg (by omega), if_neg (by omega), if_neg (by omega), if_pos (by simp)]
          · simp only [rd_wrx]
            rw [if_neg (by omega), if_neg (by omega), if_neg (by omega), if_neg (by omega)]
            exact z3
          · by_cases cr : r = m9
            · subst cr
              simp only [rd_wrx]
              rw [if_neg (by omega), if_neg (by omega), if_pos (by simp), if_neg (by omega), if_pos (by simp), if_pos (by simp)]
              exact ⟨c2, c3, c4⟩
            · simp only [rd_wrx]
              repeat rw [if_neg (by omega)]
              exact z2 r (by omega)
        · refine ⟨m9, hm9, ?_, ?_, fun r hr => ?_⟩
          · simp only [rd_wrx]
            repeat rw [if_neg (by omega)]
            exact z1
          · simp only [rd_wrx]
            repeat rw [if_neg (by omega)]
            exact z3
          · simp only [rd_wrx]
            repeat rw [if_neg (by omega)]
            exact z2 r hr
    · refine ((((Fr.refl.w ?_).w ?_).w ?_).w ?_) <;> exact ⟨by omega, by omega⟩
    · simp only [rd_wrx]
      rw [if_neg (by omega), if_neg (by omega), if_neg (by omega), if_pos (by simp)]
    · exact rd_eqw
    · intro b hb hbj
      simp only [rd_wrx]
      repeat rw [if_neg (by omega)]
    · intro b r hb hr hbr
      simp only [rd_wrx]
      repeat rw [if_neg (by omega)]
  · left
    refine ⟨by omega, ?_⟩
    rw [e0, if_neg (show ¬ nI m < 6 from nI_nlt (b := 6) (by omega) (by omega))]
theorem curfew_s (I : Inv h) (hj : j < 4) (c2 : irg x2 0 72 = true) (c3 : irg x3 x2 72 = true) : ∃ g, F_X6_curfew [.ref 0, .int (nI j), .int x2, .int x3] h = rtn none g ∧ Inv g ∧ Fr (fun a k => a = 11 + 9 * j ∧ (k = 3 ∨ k = 4)) h g := by
  have F : Fr (fun a k => a = 11 + 9 * j ∧ (k = 3 ∨ k = 4)) h (wr (wr h (11 + 9 * j) 3 x2) (11 + 9 * j) 4 x3) := (Fr.refl.w ⟨rfl, Or.inl rfl⟩).w ⟨rfl, Or.inr rfl⟩
  refine ⟨_, ?_, I.air (F.up fun b k z => ⟨by have := z.1; omega, by have := z.1; omega⟩) ?_, F⟩
  · rw [e_X6_curfew_0, airportAt_s hj, bR_r, rng_t c2, bV_r, rng_t c3, bV_r, okc_ap j hj]
    rfl
  · intro b hb
    obtain ⟨m9, hm9, z1, z3, z2⟩ := I.1.2.1 b hb
    refine ⟨m9, hm9, ?_, ?_, fun r hr => ?_⟩
    · rw [F _ _ (by omega)]
      exact z1
    · rw [F _ _ (by omega)]
      exact z3
    · rw [F _ _ (by omega), F _ _ (by omega), F _ _ (by omega)]
      exact z2 r hr
theorem quota_s (I : Inv h) (hj : j < 4) (c2 : irg x2 0 9999 = true) : ∃ g, F_X6_quota [.ref 0, .int (nI j), .int x2] h = rtn (some (.int (rd h (11 + 9 * j) 5))) g ∧ Inv g ∧ Fr (fun a k => a = 11 + 9 * j ∧ k = 5) h g ∧ rd g (11 + 9 * j) 5 = x2 := by
  have F : Fr (fun a k => a = 11 + 9 * j ∧ k = 5) h (wr h (11 + 9 * j) 5 x2) := Fr.refl.w ⟨rfl, rfl⟩
  refine ⟨_, ?_, I.air (F.up fun b k z => ⟨by have := z.1; omega, by have := z.1; omega⟩) ?_, F, rd_eqw⟩
  · rw [e_X6_quota_0, airportAt_s hj, bR_r, rng_t c2, bV_r, okc_ap j hj]
    rfl
  · intro b hb
    obtain ⟨m9, hm9, z1, z3, z2⟩ := I.1.2.1 b hb
    refine ⟨m9, hm9, ?_, ?_, fun r hr => ?_⟩
    · rw [F _ _ (by omega)]
      exact z1
    · by_cases c : b = j
      · subst c
        rw [rd_eqw]
        exact (irg_t c2).1
      · rw [F _ _ (by omega)]
        exact z3
    · rw [F _ _ (by omega), F _ _ (by omega), F _ _ (by omega)]
      exact z2 r hr
/-! groups -/
theorem merge_l {kept left : Int32} : ∀ (n k : Nat) (v : Int32) (a : Hp), k + n = 10 → ∃ v2 g, f_X6_merge_35 kept left v (nI k) a = rtn (some (.int v2)) g ∧ Fr (fun b _ => b = 2) a g ∧ (∀ c, c < k → rd g 2 c = rd a 2 c) ∧ ∀ c, k ≤ c → c < 10 → rd g 2 c = if rd a 2 c = left then kept else rd a 2 c
  | 0, k, v, a, e => by
    refine ⟨v, a, ?_, Fr.refl, fun c _ => rfl, fun c h1 h2 => by omega⟩
    rw [e_X6_merge_35, if_neg (show ¬ nI k < 10 from nI_nlt (a := k) (b := 10) (by omega) (by omega))]
  | n + 1, k, v, a, e => by
    have ik : inb (nI k) 10 = true := inb_nI (by omega) (by decide)
    have ck : (nI k).toNatClampNeg = k := nI_clamp (by omega)
    have st : ∀ (b : Hp) (v : Int32), ∃ v3, f_X6_merge_65 kept left v (nI k) b = f_X6_merge_35 kept left v3 (nI (k + 1)) b := by
      intro b v
      rw [e_X6_merge_65, ik, ck, gd_t]
      simp only [e_X6_merge_79, nI_1]
      by_cases c : rd b 2 k = kept
      · exact ⟨v + 1, by rw [if_pos c]⟩
      · exact ⟨v, by rw [if_neg c]⟩
    rw [e_X6_merge_35, if_pos (show nI k < 10 from nI_lt (a := k) (b := 10) (by omega) (by decide)), ik, ck]
    simp only [gd_t]
    by_cases c : rd a 2 k = left
    · rw [if_pos c]
      obtain ⟨v3, e3⟩ := st (wr a 2 k kept) v
      obtain ⟨v2, g, q1, q2, q3, q4⟩ := merge_l n (k + 1) v3 (wr a 2 k kept) (by omega)
      refine ⟨v2, g, by rw [e3, q1], Fr.trans (Fr.w (P := fun b _ => b = 2) Fr.refl rfl) q2, fun z hz => ?_, fun z h1 h2 => ?_⟩
      · rw [q3 z (by omega), rd_nk (by omega)]
      · by_cases cz : z = k
        · subst cz
          rw [q3 z (by omega), rd_eqw, if_pos c]
        · rw [q4 z (by omega) h2, rd_nk cz]
    · rw [if_neg c]
      obtain ⟨v3, e3⟩ := st a v
      obtain ⟨v2, g, q1, q2, q3, q4⟩ := merge_l n (k + 1) v3 a (by omega)
      refine ⟨v2, g, by rw [e3, q1], q2, fun z hz => q3 z (by omega), fun z h1 h2 => ?_⟩
      by_cases cz : z = k
      · subst cz
        rw [q3 z (by omega), if_neg c]
      · exact q4 z (by omega) h2
theorem merge_s (I : Inv h) (hc : c < 10) (hd : d < 10) : (rd h 2 c = rd h 2 d ∧ F_X6_merge [.ref 0, .int (nI c), .int (nI d)] h = thr 2 h) ∨ ∃ v g, F_X6_merge [.ref 0, .int (nI c), .int (nI d)] h = rtn (some (.int v)) g ∧ Inv g ∧ Fr (fun b _ => b = 2) h g ∧ rd g 2 c = rd g 2 d := by
  rw [e_X6_merge_0, groupAt_s hc, bI_r, groupAt_s hd, bI_r]
  by_cases e : rd h 2 c = rd h 2 d
  · exact Or.inl ⟨e, by rw [if_pos e]⟩
  · right
    rw [if_neg e]
    obtain ⟨v2, g, q1, q2, q3, q4⟩ := merge_l (kept := rd h 2 c) (left := rd h 2 d) 10 0 0 h (by omega)
    refine ⟨v2, g, q1, I.oth (q2.up fun b _ z => Or.inl z), q2, ?_⟩
    rw [q4 c (Nat.zero_le _) hc, q4 d (Nat.zero_le _) hd, if_pos rfl, if_neg e]
theorem merge_n (hc : c < 10) (hd : d < 10) (e : rd h 2 c = rd h 2 d) : F_X6_merge [.ref 0, .int (nI d), .int (nI c)] h = thr 2 h := by
  rw [e_X6_merge_0, groupAt_s hd, bI_r, groupAt_s hc, bI_r, if_pos e.symm]
/-! requests that need one another -/
theorem mayBeLinked_s (hi : i < 60) : F_X1_mayBeLinked [.ref (47 + i)] h = rtn (some (.int (bi (decide (rd h (47 + i) 13 = -1) && decide (rd h (47 + i) 9 = 0))))) h := by
  rw [e_X1_mayBeLinked_0, (okc_rq i hi).1]
  simp only [gd_t]
  by_cases c1 : rd h (47 + i) 13 = -1
  · by_cases c2 : rd h (47 + i) 9 = 0
    · simp [c1, c2, bi]
    · simp [c1, c2, bi]
  · simp [c1, bi]
theorem link_n (V : VN h) (hi : i < nq h) (hj : j < nq h) (c : rd h (47 + i) 13 ≠ -1) : ∃ E, F_X6_link [.ref 0, .int (nI i), .int (nI j)] h = thr E h ∧ (E = 1 ∨ E = 2) := by
  have h60 := V.q.1
  rw [e_X6_link_0, requestAt_s V hi, bR_r, requestAt_s V hj, bR_r]
  by_cases e : nI i = nI j
  · exact ⟨1, by rw [if_pos e], Or.inl rfl⟩
  · refine ⟨2, ?_, Or.inr rfl⟩
    rw [if_neg e, (okc_rq i (by omega)).1, gd_t, mayBeLinked_s (by omega), bI_r, decide_eq_false c, Bool.false_and, bi_f, if_pos rfl, e_X6_link_43]
theorem link_s (I : Inv h) (hi : i < nq h) (hj : j < nq h) : (∃ E, F_X6_link [.ref 0, .int (nI i), .int (nI j)] h = thr E h ∧ (E = 1 ∨ E = 2)) ∨ ∃ g, F_X6_link [.ref 0, .int (nI i), .int (nI j)] h = rtn none g ∧ Inv g ∧ Fr (fun a k => 47 ≤ a ∧ a < 107 ∧ k = 13) h g ∧ rd g (47 + i) 13 = nI j ∧ rd g (47 + j) 13 = nI i := by
  have V := I.1.1
  have h60 := V.q.1
  rw [e_X6_link_0, requestAt_s V hi, bR_r, requestAt_s V hj, bR_r]
  by_cases e : nI i = nI j
  · exact Or.inl ⟨1, by rw [if_pos e], Or.inl rfl⟩
  · have hij : i ≠ j := fun z => e (by rw [z])
    rw [if_neg e, (okc_rq i (by omega)).1, (okc_rq j (by omega)).1]
    simp only [gd_t]
    rw [mayBeLinked_s (by omega), bI_r, mayBeLinked_s (by omega), bI_r]
    by_cases c1 : (decide (rd h (47 + i) 13 = -1) && decide (rd h (47 + i) 9 = 0)) = true
    · by_cases c2 : (decide (rd h (47 + j) 13 = -1) && decide (rd h (47 + j) 9 = 0)) = true
      · right
        rw [c1, c2, bi_t, if_neg one_ne, if_neg one_ne]
        simp only [Bool.and_eq_true, decide_eq_true_eq] at c1 c2
        have F : Fr (fun a k => 47 ≤ a ∧ a < 107 ∧ k = 13) h (wr (wr h (47 + i) 13 (nI j)) (47 + j) 13 (nI i)) := (Fr.refl.w ⟨by omega, by omega, rfl⟩).w ⟨by omega, by omega, rfl⟩
        refine ⟨_, rfl, ?_, F, by rw [rd_ne (by omega), rd_eqw], rd_eqw⟩
        obtain ⟨⟨b1, b2, b3, b4, b5, b6, b7, b8⟩, b9⟩ := I
        have h1 := b1.s.1
        have h3 := b1.r.1
        have q : ∀ a k, ¬ (47 ≤ a ∧ a < 107 ∧ k = 13) → rd (wr (wr h (47 + i) 13 (nI j)) (47 + j) 13 (nI i)) a k = rd h a k := fun a k z => F a k z
        refine ⟨⟨b1.F (fun k _ _ => q _ _ (by omega)) (fun i hi => q _ _ (by omega)), b2.F (fun a k _ _ => q _ _ (by omega)), b3.F (q _ _ (by omega)) (fun i k _ _ _ => q _ _ (by omega)), b4.F (q _ _ (by omega)) (q _ _ (by omega)) (fun i _ => q _ _ (by omega)) (fun i _ _ => ⟨q _ _ (by omega), q _ _ (by omega)⟩), b5.F (q _ _ (by omega)) (q _ _ (by omega)) (fun i k _ _ => q _ _ (by omega)), b6.F (q _ _ (by omega)) (q _ _ (by omega)) (fun i k _ _ => q _ _ (by omega)) (fun i _ => q _ _ (by omega)), b7.F (q _ _ (by omega)) (fun i k _ _ => q _ _ (by omega)), b8.F (q _ _ (by omega)) (q _ _ (by omega)) (fun p _ => q _ _ (by omega))⟩, ?_⟩
        intro a ha
        have em : nq (wr (wr h (47 + i) 13 (nI j)) (47 + j) 13 (nI i)) = nq h := by
          unfold nq
          rw [q _ _ (by omega)]
        rw [em] at ha ⊢
        by_cases ci : a = i
        · subst ci
          right
          refine ⟨j, hj, fun z => hij z.symm, by rw [rd_ne (by omega), rd_eqw], rd_eqw, ?_⟩
          rw [q _ _ (by omega), q _ _ (by omega), c1.2, c2.2]
        · by_cases cj : a = j
          · subst cj
            right
            refine ⟨i, hi, fun z => hij z, rd_eqw, by rw [rd_ne (by omega), rd_eqw], ?_⟩
            rw [q _ _ (by omega), q _ _ (by omega), c1.2, c2.2]
          · rw [rd_ne (by omega), rd_ne (by omega)]
            rcases b9 a ha with z | ⟨k, k1, k2, k3, k4, k5⟩
            · exact Or.inl z
            · right
              have ki : k ≠ i := by
                intro z
                subst z
                rw [c1.1] at k4
                exact nI_m1 (by omega) k4.symm
              have kj : k ≠ j := by
                intro z
                subst z
                rw [c2.1] at k4
                exact nI_m1 (by omega) k4.symm
              refine ⟨k, k1, k2, k3, by rw [rd_ne (by omega), rd_ne (by omega)]; exact k4, ?_⟩
              rw [q _ _ (by omega), q _ _ (by omega)]
              exact k5
      · left
        rw [Bool.not_eq_true] at c2
        exact ⟨2, by rw [c1, c2, bi_t, bi_f, if_neg one_ne, if_pos rfl, e_X6_link_43], Or.inr rfl⟩
    · left
      rw [Bool.not_eq_true] at c1
      exact ⟨2, by rw [c1, bi_f, if_pos rfl, e_X6_link_43], Or.inr rfl⟩
end OPS
