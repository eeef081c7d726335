section REASON
variable {a m : Hp} {x : Int32} {k i j t b : Nat}
theorem noise2_l (C : CN a m) (S : SX a m) : ∀ (n k : Nat) (acc : Int32), k + n = ns m → f_X6_noiseByNight_4 x acc (nI k) a = rtn (some (.int (fsum (nzF x m) k n acc))) a
  | 0, k, acc, e => by
    have h60 := C.2
    rw [e_X6_noiseByNight_4, C.1, if_neg (nI_nlt (by omega) (by omega))]
    rfl
  | n + 1, k, acc, e => by
    have h60 := C.2
    have ih := fun acc => noise2_l C S n (k + 1) acc (by omega)
    obtain ⟨g0, g1, g2, g3, g4, g5, g6, g7, g8, g9, g10, g11, g12⟩ := S.g (k := k) (by omega)
    rw [e_X6_noiseByNight_4, C.1, if_pos (nI_lt (by omega) (by omega)), ser2 C (by omega), bR_r, (okc_sr k (by omega)).1]
    simp only [gd_t, g12, g0, g3, wholeNoise_s (h := a) (k := k) (by omega), isByNight_s, bI_r, g4, g5, g6, e_X6_noiseByNight_55, nI_1, ih]
    show _ = rtn (some (.int (fsum (nzF x m) (k + 1) n (acc + nzF x m k)))) a
    by_cases c1 : rd m 272 k = 0
    · by_cases c2 : rd m 262 k = x
      · cases c3 : ngt (rd m 265 k)
        · simp [c1, c2, c3, bi_f, show nzF x m k = 0 by simp [nzF, c1, c2, c3]]
        · simp [c1, c2, c3, bi_t, show nzF x m k = rd m 268 k * (rd m 267 k - rd m 266 k + 1) by simp [nzF, c1, c2, c3]]
      · simp [c1, c2, show nzF x m k = 0 by simp [nzF, c1, c2]]
    · simp [c1, show nzF x m k = 0 by simp [nzF, c1]]
theorem noise2_s (C : CN a m) (S : SX a m) : F_X6_noiseByNight [.ref 0, .int x] a = rtn (some (.int (fsum (nzF x m) 0 (ns m) 0))) a := by
  rw [e_X6_noiseByNight_0]
  exact noise2_l C S (ns m) 0 0 (by omega)
/-- the rows of a request, what is read of them for its fitting -/
def QX (a m : Hp) (i : Nat) : Prop := ∀ f, f < 7 → rd a (47 + i) f = rd m (QA f) i
def VQ7 (m : Hp) (i : Nat) : Prop := irg (rd m 246 i) 0 3 = true ∧ irg (rd m 250 i) 0 19 = true ∧ irg (rd m 251 i) (rd m 250 i) 19 = true
theorem rules_l (C : CN a m) (S : SX a m) (A : AX a m) (V : VN m) (hVA : VA m) (hi : i < 60) (hq : QX a m i) (hb : b < 4) (eb : rd m 246 i = nI b) (v4 : irg (rd m 250 i) 0 19 = true) (v5 : irg (rd m 251 i) (rd m 250 i) 19 = true) (ht : t < 72) {mm : Nat} (hm : mm ≤ 6) (em : rd m 228 b = nI mm) : ∀ (n r : Nat) (a' : Hp), r + n = mm → Fr T10 a a' → ∃ x a2, f_X6_reasonAgainst_51 (47 + i) (nI t) (11 + 9 * b) (nI r) a' = rtn (some (.int x)) a2 ∧ f_X7_reason_68 (nI i) (nI t) (nI b) (nI r) m = rtn (some (.int x)) m ∧ Fr T10 a a2 ∧ rdL a2 = rdL a'
  | 0, r, a', e, F => by
    have e3 : rd a' (11 + 9 * b) 2 = nI mm := by rw [F _ _ (show ¬ (11 + 9 * b = 10) by omega), (A b hb).1, em]
    refine ⟨0, a', ?_, ?_, F, rfl⟩
    · rw [e_X6_reasonAgainst_51, okc_ap b hb, gd_t, e3, if_neg (nI_nlt (by omega) (by omega))]
    · rw [e_X7_reason_68, inb_nI hb (by decide), gd_t, nI_clamp (by omega), em, if_neg (nI_nlt (by omega) (by omega))]
  | n + 1, r, a', e, F => by
    have e3 : rd a' (11 + 9 * b) 2 = nI mm := by rw [F _ _ (show ¬ (11 + 9 * b = 10) by omega), (A b hb).1, em]
    obtain ⟨m9, hm9, z1, z2⟩ := hVA b hb
    have e9 : m9 = mm := (nI_eq (by omega) (by omega)).mp (z1.symm.trans em)
    subst e9
    obtain ⟨t1, t2, t3⟩ := z2 r (by omega)
    obtain ⟨ln, hl1, hl6, el⟩ := irg_16 t2
    obtain ⟨M, hM, eM⟩ := irg_nI (n := 20) (by decide) t3
    obtain ⟨f, l, hfl, hl, ef, ew⟩ := irg_fl v4 v5
    obtain ⟨s0, s1, s2⟩ := (A b hb).2.2.2.2 r (by omega)
    obtain ⟨bb, a2, p1, p2, p3, p4⟩ := wouldBreak_s (kd := rd m 229 (6 * b + r)) (ln := ln) (M := M) (aq := rd m 246 i) (kq := rd m 247 i) (dq := rd m 248 i) (f := f) (l := l) (t := t) C S hM hl (rul_b b hb r (by omega)).2 s0 (s1.trans el) (s2.trans eM) (by omega) (okc_rq i hi).2 (by omega) (hq 0 (by decide)) (hq 1 (by decide)) (hq 2 (by decide)) ((hq 4 (by decide)).trans ef) ((hq 5 (by decide)).trans ew) hfl ht hl6 hl1 a' F
    obtain ⟨b2, u1, u2⟩ := breaks_s (q := 6 * b + r) (i := i) (t := t) (aq := rd m 246 i) (kq := rd m 247 i) (dq := rd m 248 i) (kd := rd m 229 (6 * b + r)) (ln := ln) (M := M) (f := f) (l := l) V (by omega) hi rfl rfl rfl rfl el eM hM ht hl6 hfl hl ef ew
    have eb2 : b2 = bb := by
      rw [Bool.eq_iff_iff, u2, p2]
    subst eb2
    rw [e_X6_reasonAgainst_51, okc_ap b hb, gd_t, e3, if_pos (nI_lt (by omega) (by omega)), gd_t, ruleAt_s hb e3 hm (by omega), bR_r, p1, bI_r, e_X7_reason_68, inb_nI hb (by decide), gd_t, nI_clamp (by omega), em, if_pos (nI_lt (by omega) (by omega)), rul_i b hb r (by omega), u1, bI_r]
    cases b2 with
    | true => exact ⟨10 + nI r, a2, by rw [bi_t, if_neg one_ne], by rw [bi_t, if_neg one_ne], p3, p4⟩
    | false =>
      obtain ⟨x, a3, q1, q2, q3, q4⟩ := rules_l C S A V hVA hi hq hb eb v4 v5 ht hm em n (r + 1) a2 (by clear p2 u2; omega) p3
      refine ⟨x, a3, ?_, ?_, q3, ?_⟩
      · rw [bi_f, if_pos rfl, nI_1]
        exact q1
      · rw [bi_f, if_pos rfl, nI_1]
        exact q2
      · rw [q4, p4]
theorem reason_s (C : CN a m) (S : SX a m) (A : AX a m) (V : VN m) (hVA : VA m) (hi : i < 60) (hq : QX a m i) (hv : VQ7 m i) (ht : t < 72) : ∃ x a2, F_X6_reasonAgainst [.ref 0, .ref (47 + i), .int (nI t)] a = rtn (some (.int x)) a2 ∧ F_X7_reason [.ref 227, .int (nI i), .int (nI t)] m = rtn (some (.int x)) m ∧ Fr T10 a a2 ∧ rdL a2 = rdL a := by
  obtain ⟨v1, v4, v5⟩ := hv
  obtain ⟨b, hb, eb⟩ := irg_3 v1
  obtain ⟨mm, hm, em, -⟩ := hVA b hb
  obtain ⟨a1, a2, a3, a4, a5⟩ := A b hb
  obtain ⟨x, g, r1, r2, r3, r4⟩ := rules_l (t := t) C S A V hVA hi hq hb eb v4 v5 ht hm em mm 0 a (by omega) Fr.refl
  have r1 : f_X6_reasonAgainst_51 (47 + i) (nI t) (11 + 9 * b) 0 a = rtn (some (.int x)) g := r1
  have r2 : f_X7_reason_68 (nI i) (nI t) (nI b) 0 m = rtn (some (.int x)) m := r2
  have ii : inb (nI i) 60 = true := inb_nI hi (by decide)
  have ib : inb (nI b) 4 = true := inb_nI hb (by decide)
  have ci : (nI i).toNatClampNeg = i := nI_clamp (by omega)
  have cb : (nI b).toNatClampNeg = b := nI_clamp (by omega)
  have q0 : rd a (47 + i) 0 = nI b := (hq 0 (by decide)).trans eb
  have q4 : rd a (47 + i) 4 = rd m 250 i := hq 4 (by decide)
  have q5 : rd a (47 + i) 5 = rd m 251 i := hq 5 (by decide)
  have q6 : rd a (47 + i) 6 = rd m 252 i := hq 6 (by decide)
  have ok := (okc_rq i hi).2
  -- behind the curfew
  have tail : ∃ x a2, bI (F_X6_isByNight [.int (nI t)] a) (fun v6 h5 => if v6 = 0 then f_X6_reasonAgainst_48 (47 + i) (nI t) (11 + 9 * b) h5 else gd (okc (47 + i) 7) (bI (F_X6_noiseByNight [.ref 0, .int (rd h5 (47 + i) 0)] h5) (fun v8 h7 => gd (okc (47 + i) 7) (bI (F_X5_wholeNoise [.ref (47 + i)] h7) (fun v10 h9 => gd (okc (11 + 9 * b) 2) (if (rd h9 (11 + 9 * b) 5) < (v8 + v10) then rtn (some (.int 2)) h9 else f_X6_reasonAgainst_48 (47 + i) (nI t) (11 + 9 * b) h9)) (hnk []))) (hnk []))) (hnk []) = rtn (some (.int x)) a2 ∧ f_X7_reason_29 (nI i) (nI t) (nI b) m = rtn (some (.int x)) m ∧ Fr T10 a a2 ∧ rdL a2 = rdL a := by
    rw [isByNight_s, bI_r, e_X7_reason_29, isNight_s, bI_r]
    cases ngt (nI t) with
    | false =>
      refine ⟨x, g, ?_, ?_, r3, r4⟩
      · rw [bi_f, if_pos rfl, e_X6_reasonAgainst_48]
        exact r1
      · rw [bi_f, if_pos rfl, e_X7_reason_65]
        exact r2
    | true =>
      rw [bi_t, if_neg one_ne, if_neg one_ne, ok, okc_ap b hb]
      simp only [gd_t]
      rw [q0, noise2_s C S, bI_r, e_X5_wholeNoise_0, ok, e_X5_weeks_0, ok]
      simp only [gd_t, bI_r]
      rw [q4, q5, q6, a4, noiseOf_s V, bI_r, ii, gd_t, e_X7_weeks_0, ii]
      simp only [gd_t, bI_r]
      rw [ib, gd_t, ci, cb]
      by_cases c : rd m 234 b < fsum (nzF (nI b) m) 0 (ns m) 0 + rd m 252 i * (rd m 251 i - rd m 250 i + 1)
      · exact ⟨2, a, by rw [if_pos c], by rw [if_pos c], Fr.refl, rfl⟩
      · refine ⟨x, g, ?_, ?_, r3, r4⟩
        · rw [if_neg c, e_X6_reasonAgainst_48]
          exact r1
        · rw [if_neg c, e_X7_reason_65]
          exact r2
  obtain ⟨y, g2, y1, y2, y3, y4⟩ := tail
  rw [e_X6_reasonAgainst_0, ok, gd_t, q0, airportAt_s hb, bR_r, okc_ap b hb, gd_t, e_X0_bars_0, okc_ap b hb]
  simp only [gd_t]
  rw [a2, a3, e_X7_reason_0, ii, ci, eb, ib, cb]
  simp only [gd_t]
  simp only [ok, okc_ap b hb, gd_t] at y1
  by_cases c1 : nI t < rd m 232 b
  · rw [if_pos c1, if_pos c1, bI_r, if_pos rfl]
    exact ⟨y, g2, y1, y2, y3, y4⟩
  · rw [if_neg c1, if_neg c1]
    by_cases c2 : nI t < rd m 233 b
    · rw [if_pos c2, if_pos c2, bI_r, if_neg one_ne]
      exact ⟨1, a, rfl, rfl, Fr.refl, rfl⟩
    · rw [if_neg c2, if_neg c2, bI_r, if_pos rfl]
      exact ⟨y, g2, y1, y2, y3, y4⟩
end REASON
