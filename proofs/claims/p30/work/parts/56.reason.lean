/-! why a request does not fit, and what it means that nothing is against it -/
theorem irg_16 {x : Int32} (e : irg x 1 6 = true) : ∃ l : Nat, 1 ≤ l ∧ l ≤ 6 ∧ x = nI l := by
  obtain ⟨h1, h2⟩ := irg_t e
  have h0 : ¬ x < 0 := fun z => h1 (by
    rw [Int32.lt_iff_toInt_lt] at z ⊢
    have e1 : (1 : Int32).toInt = 1 := by decide
    have e0 : (0 : Int32).toInt = 0 := by decide
    omega)
  obtain ⟨j, hj, rfl⟩ := nI_of h0
  refine ⟨j, ?_, ?_, rfl⟩
  · have q : ¬ j < 1 := fun z => h1 (nI_lt (b := 1) z (by decide))
    omega
  · have q : ¬ 6 < j := fun z => h2 (nI_lt (a := 6) z hj)
    omega
def FitR (h : Hp) (i t b r : Nat) : Prop := ¬ Brk h (rd h (14 + 9 * b + r) 0) (rd h (14 + 9 * b + r) 1).toNatClampNeg (rd h (14 + 9 * b + r) 2).toNatClampNeg (rd h (47 + i) 0) (rd h (47 + i) 1) (rd h (47 + i) 2) (rd h (47 + i) 4).toNatClampNeg (rd h (47 + i) 5).toNatClampNeg t
def Fits (h : Hp) (i t : Nat) : Prop := ∀ b m r, b < 4 → rd h (47 + i) 0 = nI b → rd h (11 + 9 * b) 2 = nI m → m ≤ 6 → r < m → FitR h i t b r
section REASON
variable {h : Hp} {x : Int32} {k i j t b : Nat}
theorem rules_l (V : VN h) (A : VA h) (hi : i < 60) (Q : SLT7 h (47 + i)) (hb : b < 4) (eb : rd h (47 + i) 0 = nI b) (ht : t < 72) {mm : Nat} (hm : mm ≤ 6) (em : rd h (11 + 9 * b) 2 = nI mm) : ∀ (n r : Nat) (a' : Hp), r + n = mm → Fr T10 h a' → ∃ x a2, f_X6_reasonAgainst_51 (47 + i) (nI t) (11 + 9 * b) (nI r) a' = rtn (some (.int x)) a2 ∧ Fr T10 h a2 ∧ (x = 0 → ∀ r2, r ≤ r2 → r2 < mm → FitR h i t b r2)
  | 0, r, a', e, F => by
    have e3 : rd a' (11 + 9 * b) 2 = nI mm := by rw [F _ _ (show ¬ (11 + 9 * b = 10) by omega), em]
    refine ⟨0, a', ?_, F, fun _ r2 h1 h2 => by omega⟩
    rw [e_X6_reasonAgainst_51, okc_ap b hb, gd_t, e3, if_neg (nI_nlt (by omega) (by omega))]
  | n + 1, r, a', e, F => by
    have e3 : rd a' (11 + 9 * b) 2 = nI mm := by rw [F _ _ (show ¬ (11 + 9 * b = 10) by omega), em]
    obtain ⟨m9, hm9, z1, -, z2⟩ := A b hb
    have e9 : m9 = mm := nI_inj (by omega) (by omega) (z1.symm.trans em)
    subst e9
    obtain ⟨t1, t2, t3⟩ := z2 r (by omega)
    obtain ⟨ln, hl1, hl6, el⟩ := irg_16 t2
    obtain ⟨M, hM, eM⟩ := irg_nI (n := 20) (by decide) t3
    obtain ⟨f, l, hfl, hl, ef, ew⟩ := irg_fl Q.2.2.2.2.1 Q.2.2.2.2.2.1
    obtain ⟨bb, a2, p1, p2, p3, -⟩ := wouldBreak_s (a := h) (m := h) (kd := rd h (14 + 9 * b + r) 0) (ln := ln) (M := M) (aq := rd h (47 + i) 0) (kq := rd h (47 + i) 1) (dq := rd h (47 + i) 2) (f := f) (l := l) (t := t) ⟨V.s.2, V.s.1⟩ (fun _ _ _ _ => rfl) hM hl (rul_b b hb r (by omega)).2 rfl el eM (by omega) (okc_rq i hi).2 (by omega) rfl rfl rfl ef ew hfl ht hl6 hl1 a' F
    rw [e_X6_reasonAgainst_51, okc_ap b hb, gd_t, e3, if_pos (nI_lt (by omega) (by omega)), gd_t, ruleAt_s hb e3 hm (by omega), bR_r, p1, bI_r]
    cases bb with
    | true =>
      refine ⟨10 + nI r, a2, by rw [bi_t, if_neg one_ne], p3, fun z => ?_⟩
      exfalso
      have z2 : nI (10 + r) = nI 0 := (nI_add 10 r).symm.trans z
      have z3 := nI_inj (by omega) (by omega) z2
      omega
    | false =>
      obtain ⟨x, a3, q1, q3, q4⟩ := rules_l V A hi Q hb eb ht hm em n (r + 1) a2 (by omega) p3
      refine ⟨x, a3, ?_, q3, fun z r2 h1 h2 => ?_⟩
      · rw [bi_f, if_pos rfl, nI_1]
        exact q1
      · by_cases c : r2 = r
        · subst c
          unfold FitR
          rw [el, eM, ef, ew, nI_clamp (by omega), nI_clamp (by omega), nI_clamp (by omega), nI_clamp (by omega)]
          intro z9
          have z8 := p2.mpr z9
          cases z8
        · exact q4 z r2 (by omega) h2
theorem reason_s (V : VN h) (A : VA h) (S : VS h) (hi : i < 60) (Q : SLT7 h (47 + i)) (ht : t < 72) : ∃ x a2, F_X6_reasonAgainst [.ref 0, .ref (47 + i), .int (nI t)] h = rtn (some (.int x)) a2 ∧ Fr T10 h a2 ∧ (x = 0 → Fits h i t) := by
  obtain ⟨b, hb, eb⟩ := irg_3 Q.1
  obtain ⟨mm, hm, em, -⟩ := A b hb
  obtain ⟨x, g, r1, r3, r4⟩ := rules_l (t := t) V A hi Q hb eb ht hm em mm 0 h (by omega) Fr.refl
  have r1 : f_X6_reasonAgainst_51 (47 + i) (nI t) (11 + 9 * b) 0 h = rtn (some (.int x)) g := r1
  have fit : x = 0 → Fits h i t := by
    intro z b2 m2 r hb2 eb2 em2 hm2 hr
    have e1 : b2 = b := nI_inj (by omega) (by omega) (eb2.symm.trans eb)
    subst e1
    have e2 : m2 = mm := nI_inj (by omega) (by omega) (em2.symm.trans em)
    subst e2
    exact r4 z r (Nat.zero_le _) hr
  have ok := (okc_rq i hi).2
  have tail : ∃ x a2, bI (F_X6_isByNight [.int (nI t)] h) (fun v6 h5 => if v6 = 0 then f_X6_reasonAgainst_48 (47 + i) (nI t) (11 + 9 * b) h5 else gd (okc (47 + i) 7) (bI (F_X6_noiseByNight [.ref 0, .int (rd h5 (47 + i) 0)] h5) (fun v8 h7 => gd (okc (47 + i) 7) (bI (F_X5_wholeNoise [.ref (47 + i)] h7) (fun v10 h9 => gd (okc (11 + 9 * b) 2) (if (rd h9 (11 + 9 * b) 5) < (v8 + v10) then rtn (some (.int 2)) h9 else f_X6_reasonAgainst_48 (47 + i) (nI t) (11 + 9 * b) h9)) (hnk []))) (hnk []))) (hnk []) = rtn (some (.int x)) a2 ∧ Fr T10 h a2 ∧ (x = 0 → Fits h i t) := by
    rw [isByNight_s, bI_r]
    cases ngt (nI t) with
    | false =>
      refine ⟨x, g, ?_, r3, fit⟩
      rw [bi_f, if_pos rfl, e_X6_reasonAgainst_48]
      exact r1
    | true =>
      obtain ⟨w, -, -, e9⟩ := wholeNoise_s ok Q
      rw [bi_t, if_neg one_ne, ok, okc_ap b hb]
      simp only [gd_t]
      rw [noiseByNight_s V S, bI_r, e9, bI_r]
      by_cases c : rd h (11 + 9 * b) 5 < nI (sumN (nzN (rd h (47 + i) 0) h) (ns h)) + nI w
      · exact ⟨2, h, by rw [if_pos c], Fr.refl, fun z => absurd z two_ne⟩
      · refine ⟨x, g, ?_, r3, fit⟩
        rw [if_neg c, e_X6_reasonAgainst_48]
        exact r1
  obtain ⟨y, g2, y1, y3, y4⟩ := tail
  rw [e_X6_reasonAgainst_0, ok, gd_t, eb, airportAt_s hb, bR_r, okc_ap b hb, gd_t, e_X0_bars_0, okc_ap b hb]
  simp only [gd_t]
  simp only [ok, okc_ap b hb, gd_t] at y1
  by_cases c1 : nI t < rd h (11 + 9 * b) 3
  · rw [if_pos c1, bI_r, if_pos rfl]
    exact ⟨y, g2, y1, y3, y4⟩
  · rw [if_neg c1]
    by_cases c2 : nI t < rd h (11 + 9 * b) 4
    · rw [if_pos c2, bI_r, if_neg one_ne]
      exact ⟨1, h, rfl, Fr.refl, fun z => absurd z one_ne⟩
    · rw [if_neg c2, bI_r, if_pos rfl]
      exact ⟨y, g2, y1, y3, y4⟩
end REASON
