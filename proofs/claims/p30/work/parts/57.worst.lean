/-! the worst window of a rule -/
section WORST
variable {h : Hp} {x1 x3 x4 kd : Int32} {a q l r m : Nat}
theorem sub_lt {k : Nat} (hl : l ≤ 6) (hk : k ≤ 73) : ((72 : Int32) - nI l < nI k) ↔ 72 < k + l := by
  rw [Int32.lt_iff_toInt_lt, Int32.toInt_sub, nI_toInt (n := l) (by omega), nI_toInt (n := k) (by omega), show (72 : Int32).toInt = 72 from rfl, Int.bmod_eq_of_le (by omega) (by omega)]
  omega
theorem worst_l (V : VN h) (ho : okc a 3 = true) (el : rd h a 1 = nI l) (ek : rd h a 0 = kd) (hl : l ≤ 6) (hl1 : 1 ≤ l) : ∀ (n k w0 : Nat), k + l + n = 73 → w0 ≤ 60 → ∃ w, f_X6_worst_32 x1 x3 x4 a (nI w0) (nI k) h = rtn (some (.int (nI w))) h ∧ w ≤ 60 ∧ ∀ M, w ≤ M ↔ (w0 ≤ M ∧ ∀ s, k ≤ s → s + l ≤ 72 → cnt (ldB x1 kd x3 x4 (nI s) (nI s + nI l - 1) h) (ns h) ≤ M)
  | 0, k, w0, e, hw => by
    refine ⟨w0, ?_, hw, fun M => ⟨fun q => ⟨q, fun s h1 h2 => by omega⟩, fun q => q.1⟩⟩
    rw [e_X6_worst_32, ho, el, ek]
    simp only [gd_t]
    rw [if_pos ((sub_lt hl (by omega)).mpr (by omega))]
  | n + 1, k, w0, e, hw => by
    have h60 := V.s.1
    have hc := cnt_le (f := ldB x1 kd x3 x4 (nI k) (nI k + nI l - 1) h) (ns h)
    generalize hC : cnt (ldB x1 kd x3 x4 (nI k) (nI k + nI l - 1) h) (ns h) = C at hc
    obtain ⟨w, q1, q2, q3⟩ := worst_l V ho el ek hl hl1 n (k + 1) (if w0 < C then C else w0) (by omega) (by split <;> omega)
    refine ⟨w, ?_, q2, fun M => ?_⟩
    · rw [e_X6_worst_32, ho, el, ek]
      simp only [gd_t]
      rw [if_neg (fun z => by have := (sub_lt hl (by omega)).mp z; omega), slotsBetween_s V, bI_r, nI_1, hC]
      have e9 : (if nI w0 < nI C then nI C else nI w0) = nI (if w0 < C then C else w0) := by
        by_cases c : w0 < C
        · rw [if_pos c, if_pos (nI_lt c (by omega))]
        · rw [if_neg c, if_neg (nI_nlt (by omega) (by omega))]
      rw [e9]
      exact q1
    · rw [q3 M]
      constructor
      · rintro ⟨z1, z2⟩
        refine ⟨by revert z1; split <;> omega, fun s h1 h2 => ?_⟩
        by_cases c : s = k
        · subst c
          rw [hC]
          revert z1
          split <;> omega
        · exact z2 s (by omega) h2
      · rintro ⟨z1, z2⟩
        refine ⟨?_, fun s h1 h2 => z2 s (by omega) h2⟩
        have z3 := z2 k (Nat.le_refl _) (by omega)
        rw [hC] at z3
        split <;> omega
/-- no window of that rule, on that day of that week, has more than so many -/
def WP (h : Hp) (a r : Nat) (x3 x4 : Int32) (M : Nat) : Prop := ∀ s, s + (rd h (14 + 9 * a + r) 1).toNatClampNeg ≤ 72 → cnt (ldB (nI a) (rd h (14 + 9 * a + r) 0) x3 x4 (nI s) (nI s + rd h (14 + 9 * a + r) 1 - 1) h) (ns h) ≤ M
theorem worst_s (V : VN h) (A : VA h) (ha : a < 4) (em : rd h (11 + 9 * a) 2 = nI m) (hm : m ≤ 6) (hr : r < m) (c3 : irg x3 0 6 = true) (c4 : irg x4 0 19 = true) : ∃ w : Nat, F_X6_worst [.ref 0, .int (nI a), .int (nI r), .int x3, .int x4] h = rtn (some (.int (nI w))) h ∧ w ≤ 60 ∧ ∀ M, w ≤ M ↔ WP h a r x3 x4 M := by
  obtain ⟨m9, hm9, z1, -, z2⟩ := A a ha
  have e9 : m9 = m := nI_inj (by omega) (by omega) (z1.symm.trans em)
  subst e9
  obtain ⟨l, hl1, hl6, el⟩ := irg_16 (z2 r hr).2.1
  obtain ⟨w, q1, q2, q3⟩ := worst_l (x1 := nI a) (x3 := x3) (x4 := x4) V (rul_b a ha r (by omega)).2 el rfl hl6 hl1 (73 - l) 0 0 (by omega) (by omega)
  have q1 : f_X6_worst_32 (nI a) x3 x4 (14 + 9 * a + r) 0 0 h = rtn (some (.int (nI w))) h := q1
  refine ⟨w, ?_, q2, fun M => ?_⟩
  · rw [e_X6_worst_0, airportAt_s ha, bR_r, okc_ap a ha, gd_t, ruleAt_s ha em hm hr, bR_r, rng_t c3, bV_r, rng_t c4, bV_r]
    exact q1
  · rw [q3 M]
    unfold WP
    rw [el, nI_clamp (by omega)]
    constructor
    · rintro ⟨-, z⟩ s hs
      exact z s (Nat.zero_le _) hs
    · intro z
      exact ⟨Nat.zero_le _, fun s _ hs => z s hs⟩
end WORST
