/-- a rule would be broken -/
def Brk (m : Hp) (kd : Int32) (ln M : Nat) (aq kq dq : Int32) (f l t : Nat) : Prop := (kd = 2 ∨ kd = kq) ∧ ∃ v s : Nat, f ≤ v ∧ v ≤ l ∧ s ≤ t ∧ t < s + ln ∧ s + ln ≤ 72 ∧ M ≤ Lw aq kd dq (nI s) (nI s + nI ln - 1) m v (ns m)
section BRK
variable {a m : Hp} {aq kd kq dq to s x x2 y len : Int32} {R Q k M f l i j t ln q : Nat}
theorem beg_all : ((List.range 72).all fun t => (List.range 7).all fun ln => decide ((if 0 < ((nI t - nI ln) + 1) then ((nI t - nI ln) + 1) else 0) = nI (t + 1 - ln)) && decide ((if (72 - nI ln) < nI t then (72 - nI ln) else nI t) = nI (min t (72 - ln)))) = true := by decide +kernel
theorem beg_s (ht : t < 72) (hn : ln < 7) : (if 0 < ((nI t - nI ln) + 1) then ((nI t - nI ln) + 1) else 0) = nI (t + 1 - ln) ∧ (if (72 - nI ln) < nI t then (72 - nI ln) else nI t) = nI (min t (72 - ln)) := by
  have q := all2 beg_all ht hn
  rw [Bool.and_eq_true] at q
  exact ⟨of_decide_eq_true q.1, of_decide_eq_true q.2⟩
theorem wb40 (C : CN a m) (S : SX a m) (hM : M ≤ 20) (hl : l < 20) (oR : okc R 3 = true) (r0 : rd a R 0 = kd) (r1 : rd a R 1 = len) (r2 : rd a R 2 = nI M) (R10 : R ≠ 10) (oQ : okc Q 7 = true) (Q10 : Q ≠ 10) (q0 : rd a Q 0 = aq) (q2 : rd a Q 2 = dq) (q4 : rd a Q 4 = nI f) (q5 : rd a Q 5 = nI l) (hfl : f ≤ l) {e : Nat} (he : e < 72) : ∀ (n s : Nat) (a' : Hp), (s + n = e + 1 ∨ (n = 0 ∧ e < s ∧ s ≤ 72)) → Fr T10 a a' → ∃ b a2, f_X6_wouldBreak_40 R Q (nI e) (nI s) a' = rtn (some (.int (bi b))) a2 ∧ (b = true ↔ ∃ v u : Nat, f ≤ v ∧ v ≤ l ∧ s ≤ u ∧ u ≤ e ∧ M ≤ Lw aq kd dq (nI u) (nI u + len - 1) m v (ns m)) ∧ Fr T10 a a2 ∧ rdL a2 = rdL a'
  | 0, s, a', h, F => by
    refine ⟨false, a', ?_, ?_, F, rfl⟩
    · rw [e_X6_wouldBreak_40, if_pos (nI_lt (by omega) (by omega))]
      rfl
    · constructor
      · intro z
        cases z
      · rintro ⟨v, u, h1, h2, h3, h4, -⟩
        omega
  | n + 1, s, a', h, F => by
    have h' : s + 1 + n = e + 1 ∨ (n = 0 ∧ e < s + 1 ∧ s + 1 ≤ 72) := by omega
    obtain ⟨b, a2, t1, t2, t3, t4⟩ := winFull_s (x2 := nI s) C S hM hl oR r0 r1 r2 R10 oQ Q10 q0 q2 q4 q5 hfl a' F
    rw [e_X6_wouldBreak_40, if_neg (nI_nlt (by omega) (by omega)), t1, bI_r]
    cases b with
    | true =>
      refine ⟨true, a2, ?_, ?_, t3, t4⟩
      · rw [bi_t, if_neg one_ne]
      · have hs : s ≤ e := by omega
        obtain ⟨v, h1, h2, h3⟩ := t2.mp rfl
        exact ⟨fun _ => ⟨v, s, h1, h2, Nat.le_refl _, hs, h3⟩, fun _ => rfl⟩
    | false =>
      obtain ⟨b, a3, u1, u2, u3, u4⟩ := wb40 C S hM hl oR r0 r1 r2 R10 oQ Q10 q0 q2 q4 q5 hfl he n (s + 1) a2 h' t3
      refine ⟨b, a3, ?_, ?_, u3, ?_⟩
      · rw [bi_f, if_pos rfl, nI_1]
        exact u1
      · rw [u2]
        constructor
        · rintro ⟨v, u, h1, h2, h3, h4, h5⟩
          exact ⟨v, u, h1, h2, by omega, h4, h5⟩
        · rintro ⟨v, u, h1, h2, h3, h4, h5⟩
          refine ⟨v, u, h1, h2, ?_, h4, h5⟩
          by_cases c : u = s
          · subst c
            exact absurd (t2.mpr ⟨v, h1, h2, h5⟩) (by decide)
          · omega
      · rw [u4, t4]
theorem isFor_s (oR : okc R 3 = true) : F_X3_isFor [.ref R, .int x] a = rtn (some (.int (bi (decide (rd a R 0 = 2) || decide (rd a R 0 = x))))) a := by
  rw [e_X3_isFor_0, oR]
  simp only [gd_t]
  by_cases c1 : rd a R 0 = 2
  · simp [c1, bi]
  · by_cases c2 : rd a R 0 = x
    · simp [c1, c2, bi]
    · simp [c1, c2, bi]
theorem wouldBreak_s (C : CN a m) (S : SX a m) (hM : M ≤ 20) (hl : l < 20) (oR : okc R 3 = true) (r0 : rd a R 0 = kd) (r1 : rd a R 1 = nI ln) (r2 : rd a R 2 = nI M) (R10 : R ≠ 10) (oQ : okc Q 7 = true) (Q10 : Q ≠ 10) (q0 : rd a Q 0 = aq) (q1 : rd a Q 1 = kq) (q2 : rd a Q 2 = dq) (q4 : rd a Q 4 = nI f) (q5 : rd a Q 5 = nI l) (hfl : f ≤ l) (ht : t < 72) (hn : ln ≤ 6) (hn1 : 1 ≤ ln) (a' : Hp) (F : Fr T10 a a') : ∃ b a2, F_X6_wouldBreak [.ref 0, .ref R, .ref Q, .int (nI t)] a' = rtn (some (.int (bi b))) a2 ∧ (b = true ↔ Brk m kd ln M aq kq dq f l t) ∧ Fr T10 a a2 ∧ rdL a2 = rdL a' := by
  rw [e_X6_wouldBreak_0, oQ, oR, F Q 1 Q10, q1]
  simp only [gd_t]
  rw [isFor_s oR, bI_r, F R 0 R10, r0, F R 1 R10, r1, (beg_s ht (show ln < 7 by omega)).1, (beg_s ht (show ln < 7 by omega)).2]
  by_cases c : kd = 2 ∨ kd = kq
  · have e1 : (decide (kd = 2) || decide (kd = kq)) = true := by simpa using c
    rw [e1, bi_t, if_neg one_ne]
    obtain ⟨b, a2, u1, u2, u3, u4⟩ := wb40 C S hM hl oR r0 r1 r2 R10 oQ Q10 q0 q2 q4 q5 hfl (e := min t (72 - ln)) (by omega) (min t (72 - ln) + 1 - (t + 1 - ln)) (t + 1 - ln) a' (by omega) F
    refine ⟨b, a2, u1, ?_, u3, u4⟩
    rw [u2]
    constructor
    · rintro ⟨v, u, h1, h2, h3, h4, h5⟩
      exact ⟨c, v, u, h1, h2, by omega, by omega, by omega, h5⟩
    · rintro ⟨-, v, u, h1, h2, h3, h4, h5, h6⟩
      exact ⟨v, u, h1, h2, by omega, by omega, h6⟩
  · have e1 : (decide (kd = 2) || decide (kd = kq)) = false := by simpa using c
    rw [e1, bi_f, if_pos rfl]
    refine ⟨false, a', rfl, ?_, F, rfl⟩
    constructor
    · intro z
      cases z
    · rintro ⟨z, -⟩
      exact absurd z c
/-! the reference's -/
theorem fsum_cnt {p : Nat → Bool} : ∀ (n k c : Nat), fsum (fun j => bi (p j)) k n (nI c) = nI (c + cnt (fun j => p (k + j)) n)
  | 0, k, c => rfl
  | n + 1, k, c => by
    have e : nI c + bi (p k) = nI (c + (match p k with | true => 1 | false => 0)) := by
      rw [← nI_add]
      cases p k <;> rfl
    show fsum _ (k + 1) n (nI c + bi (p k)) = _
    rw [e, fsum_cnt n (k + 1)]
    congr 1
    rw [show n + 1 = 1 + n by omega, cnt_add, Nat.add_assoc]
    congr 1
    have e0 : cnt (fun j => p (k + j)) 1 = (match p k with | true => 1 | false => 0) := by
      show 0 + _ = _
      rw [Nat.zero_add]
      rfl
    rw [e0]
    congr 1
    apply cnt_ext
    intro z hz
    show p (k + 1 + z) = p (k + (1 + z))
    congr 1
    omega
theorem ld_n {v : Nat} : fsum (ldF aq kd dq (nI v) s to m) 0 (ns m) 0 = nI (Lw aq kd dq s to m v (ns m)) := by
  have q := fsum_cnt (p := ldB aq kd dq (nI v) s to m) (ns m) 0 0
  have e : (fun j => ldB aq kd dq (nI v) s to m (0 + j)) = ldB aq kd dq (nI v) s to m := funext fun j => by rw [Nat.zero_add]
  rw [Nat.zero_add, e] at q
  exact q
theorem win_c (ht : t < 72) (hn : ln ≤ 6) {u : Nat} (hu : t + 1 ≤ u) (hu2 : u ≤ t + ln + 1) : (nI t < nI u - nI ln ↔ t + ln < u) ∧ (nI u - nI ln < 0 ↔ u < ln) ∧ ((72 : Int32) < nI u - nI ln + nI ln ↔ 72 < u) ∧ nI u - nI ln + 1 = nI (u + 1) - nI ln := by
  have e : (nI u - nI ln).toInt = (u : Int) - ln := by
    rw [Int32.toInt_sub, nI_toInt (n := u) (by omega), nI_toInt (n := ln) (by omega), Int.bmod_eq_of_le (by omega) (by omega)]
  refine ⟨?_, ?_, ?_, ?_⟩
  · rw [Int32.lt_iff_toInt_lt, e, nI_toInt (n := t) (by omega)]
    omega
  · rw [Int32.lt_iff_toInt_lt, e, show (0 : Int32).toInt = 0 from rfl]
    omega
  · rw [Int32.sub_add_cancel]
    exact nI_ltI (a := 72) (by decide) (by omega)
  · rw [← nI_1, Int32.sub_eq_add_neg, Int32.sub_eq_add_neg, Int32.add_assoc, Int32.add_assoc, Int32.add_comm (-nI ln) 1]
theorem brk75 (V : VN m) (hq : q < 24) (hi : i < 60) (t0 : rd m 246 i = aq) (t1 : rd m 248 i = dq) (s0 : rd m 229 q = kd) (s2 : rd m 231 q = nI M) (hM : M ≤ 20) (ht : t < 72) (hn : ln ≤ 6) {w : Nat} : ∀ (n u : Nat), u + n = t + ln + 1 → t + 1 ≤ u → ∃ b, f_X7_breaks_75 (nI q) (nI i) (nI t) x 0 (nI ln) (nI w) (nI u - nI ln) m = f_X7_breaks_168 (nI q) (nI i) (nI t) x (bi b) (nI ln) (nI w) m ∧ (b = true ↔ ∃ s : Nat, u ≤ s + ln ∧ s ≤ t ∧ s + ln ≤ 72 ∧ M ≤ Lw aq kd dq (nI s) (nI s + nI ln - 1) m w (ns m))
  | 0, u, e, hu => by
    obtain ⟨w1, w2, w3, w4⟩ := win_c ht hn hu (by omega)
    refine ⟨false, ?_, ?_⟩
    · rw [e_X7_breaks_75, if_pos (w1.mpr (by omega))]
      rfl
    · constructor
      · intro z
        cases z
      · rintro ⟨s, h1, h2, h3, h4⟩
        omega
  | n + 1, u, e, hu => by
    obtain ⟨w1, w2, w3, w4⟩ := win_c ht hn hu (by omega)
    obtain ⟨b, r1, r2⟩ := brk75 V hq hi t0 t1 s0 s2 hM ht hn (w := w) n (u + 1) (by omega) (by omega)
    have iq : inb (nI q) 24 = true := inb_nI hq (by decide)
    have ii : inb (nI i) 60 = true := inb_nI hi (by decide)
    have cq : (nI q).toNatClampNeg = q := nI_clamp (by omega)
    have ci : (nI i).toNatClampNeg = i := nI_clamp (by omega)
    have no : (u < ln ∨ 72 < u) → (b = true ↔ ∃ s : Nat, u ≤ s + ln ∧ s ≤ t ∧ s + ln ≤ 72 ∧ M ≤ Lw aq kd dq (nI s) (nI s + nI ln - 1) m w (ns m)) := by
      intro hz
      rw [r2]
      constructor
      · rintro ⟨s, h1, h2, h3, h4⟩
        exact ⟨s, by omega, h2, h3, h4⟩
      · rintro ⟨s, h1, h2, h3, h4⟩
        exact ⟨s, by omega, h2, h3, h4⟩
    rw [e_X7_breaks_75, if_neg (fun z => by have := w1.mp z; omega), if_pos rfl]
    by_cases c1 : u < ln
    · refine ⟨b, ?_, no (Or.inl c1)⟩
      rw [if_pos (w2.mpr c1), e_X7_breaks_105, e_X7_breaks_106, if_pos rfl, e_X7_breaks_159, e_X7_breaks_160, w4]
      exact r1
    · rw [if_neg (fun z => c1 (w2.mp z))]
      by_cases c2 : 72 < u
      · refine ⟨b, ?_, no (Or.inr c2)⟩
        rw [if_pos (w3.mpr c2), e_X7_breaks_105, e_X7_breaks_106, if_pos rfl, e_X7_breaks_159, e_X7_breaks_160, w4]
        exact r1
      · have eu : nI u - nI ln = nI (u - ln) := nI_subN (by omega)
        have hle : Lw aq kd dq (nI (u - ln)) (nI (u - ln) + nI ln - 1) m w (ns m) ≤ ns m := cnt_le _ _
        have h60 := V.s.1
        rw [if_neg (fun z => c2 (w3.mp z)), e_X7_breaks_106, if_neg one_ne, iq, ii, cq, ci]
        simp only [gd_t]
        rw [t0, t1, s0, eu, loadOf_s V, bI_r, s2, ld_n]
        by_cases c3 : Lw aq kd dq (nI (u - ln)) (nI (u - ln) + nI ln - 1) m w (ns m) < M
        · refine ⟨b, ?_, ?_⟩
          · rw [if_pos (nI_lt c3 (by omega)), e_X7_breaks_159, e_X7_breaks_160, ← eu, w4]
            exact r1
          · rw [r2]
            constructor
            · rintro ⟨s, h1, h2, h3, h4⟩
              exact ⟨s, by omega, h2, h3, h4⟩
            · rintro ⟨s, h1, h2, h3, h4⟩
              refine ⟨s, ?_, h2, h3, h4⟩
              by_cases c : s = u - ln
              · subst c
                omega
              · omega
        · refine ⟨true, ?_, ?_⟩
          · rw [if_neg (nI_nlt (by omega) (by omega)), e_X7_breaks_160, e_X7_breaks_75, if_neg one_ne, ite_self]
            rfl
          · exact ⟨fun _ => ⟨u - ln, by omega, by omega, by omega, by omega⟩, fun _ => rfl⟩
theorem brk51 (V : VN m) (hq : q < 24) (hi : i < 60) (t0 : rd m 246 i = aq) (t1 : rd m 248 i = dq) (s0 : rd m 229 q = kd) (s2 : rd m 231 q = nI M) (hM : M ≤ 20) (ht : t < 72) (hn : ln ≤ 6) (hl : l < 20) (el : rd m 251 i = nI l) : ∀ (n w : Nat) (d : Bool), w + n = l + 1 → ∃ b, f_X7_breaks_51 (nI q) (nI i) (nI t) 1 (bi d) (nI ln) (nI w) m = rtn (some (.int (bi b))) m ∧ (b = true ↔ d = true ∨ ∃ v s : Nat, w ≤ v ∧ v ≤ l ∧ s ≤ t ∧ t < s + ln ∧ s + ln ≤ 72 ∧ M ≤ Lw aq kd dq (nI s) (nI s + nI ln - 1) m v (ns m))
  | 0, w, d, e => by
    refine ⟨d, ?_, ?_⟩
    · rw [e_X7_breaks_51, inb_nI hi (by decide), gd_t, nI_clamp (by omega), el, if_pos (nI_lt (by omega) (by omega)), okZ_bi, gd_t]
    · constructor
      · exact Or.inl
      · rintro (z | ⟨v, s, h1, h2, -⟩)
        · exact z
        · omega
  | n + 1, w, d, e => by
    rw [e_X7_breaks_51, inb_nI hi (by decide), gd_t, nI_clamp (by omega), el, if_neg (nI_nlt (by omega) (by omega)), if_neg one_ne]
    cases d with
    | true =>
      obtain ⟨b, r1, r2⟩ := brk51 V hq hi t0 t1 s0 s2 hM ht hn hl el n (w + 1) true (by omega)
      refine ⟨b, ?_, ?_⟩
      · rw [bi_t, e_X7_breaks_75, if_neg one_ne, ite_self, e_X7_breaks_168, nI_1]
        exact r1
      · rw [r2]
        exact ⟨fun _ => Or.inl rfl, fun _ => Or.inl rfl⟩
    | false =>
      obtain ⟨b0, p1, p2⟩ := brk75 (x := 1) V hq hi t0 t1 s0 s2 hM ht hn (w := w) ln (t + 1) (by omega) (Nat.le_refl _)
      obtain ⟨b, r1, r2⟩ := brk51 V hq hi t0 t1 s0 s2 hM ht hn hl el n (w + 1) b0 (by omega)
      refine ⟨b, ?_, ?_⟩
      · have e1 : nI t - nI ln + 1 = nI (t + 1) - nI ln := by
          rw [← nI_1, Int32.sub_eq_add_neg, Int32.sub_eq_add_neg, Int32.add_assoc, Int32.add_assoc, Int32.add_comm (-nI ln) 1]
        rw [bi_f, e1, p1, e_X7_breaks_168, nI_1]
        exact r1
      · rw [r2, p2]
        constructor
        · rintro (⟨s, h1, h2, h3, h4⟩ | ⟨v, s, h1, h2, h3, h4, h5, h6⟩)
          · exact Or.inr ⟨w, s, Nat.le_refl _, by omega, h2, by omega, h3, h4⟩
          · exact Or.inr ⟨v, s, by omega, h2, h3, h4, h5, h6⟩
        · rintro (z | ⟨v, s, h1, h2, h3, h4, h5, h6⟩)
          · cases z
          · by_cases c : v = w
            · subst c
              exact Or.inl ⟨s, by omega, h3, h5, h6⟩
            · exact Or.inr ⟨v, s, by omega, h2, h3, h4, h5, h6⟩
theorem breaks_s (V : VN m) (hq : q < 24) (hi : i < 60) (t0 : rd m 246 i = aq) (tk : rd m 247 i = kq) (t1 : rd m 248 i = dq) (s0 : rd m 229 q = kd) (s1 : rd m 230 q = nI ln) (s2 : rd m 231 q = nI M) (hM : M ≤ 20) (ht : t < 72) (hn : ln ≤ 6) (hfl : f ≤ l) (hl : l < 20) (ef : rd m 250 i = nI f) (el : rd m 251 i = nI l) : ∃ b, F_X7_breaks [.ref 227, .int (nI q), .int (nI i), .int (nI t)] m = rtn (some (.int (bi b))) m ∧ (b = true ↔ Brk m kd ln M aq kq dq f l t) := by
  have iq : inb (nI q) 24 = true := inb_nI hq (by decide)
  have ii : inb (nI i) 60 = true := inb_nI hi (by decide)
  have cq : (nI q).toNatClampNeg = q := nI_clamp (by omega)
  have ci : (nI i).toNatClampNeg = i := nI_clamp (by omega)
  have st : ∀ z, f_X7_breaks_30 (nI q) (nI i) (nI t) z m = f_X7_breaks_51 (nI q) (nI i) (nI t) z (bi false) (nI ln) (nI f) m := fun z => by
    rw [e_X7_breaks_30, iq, ii, cq, ci, s1, ef]
    rfl
  by_cases c : kd = 2 ∨ kd = kq
  · obtain ⟨b, r1, r2⟩ := brk51 V hq hi t0 t1 s0 s2 hM ht hn hl el (l + 1 - f) f false (by omega)
    refine ⟨b, ?_, ?_⟩
    · rw [e_X7_breaks_0, iq, ii, cq, ci, s0, tk]
      simp only [gd_t, e_X7_breaks_25]
      by_cases c1 : kd = 2
      · rw [if_pos c1, st]
        exact r1
      · rw [if_neg c1, if_pos (c.resolve_left c1), st]
        exact r1
    · rw [r2]
      constructor
      · rintro (z | z)
        · cases z
        · exact ⟨c, z⟩
      · exact fun z => Or.inr z.2
  · refine ⟨false, ?_, ?_⟩
    · rw [e_X7_breaks_0, iq, ii, cq, ci, s0, tk]
      simp only [gd_t, e_X7_breaks_25]
      rw [if_neg (fun z => c (Or.inl z)), if_neg (fun z => c (Or.inr z)), st, e_X7_breaks_51, ii, gd_t, ci, el, if_neg (nI_nlt (by omega) (by omega)), if_pos rfl, okZ_bi, gd_t]
    · constructor
      · intro z
        cases z
      · exact fun z => absurd z.1 c
end BRK
