/-! the worst window of a rule -/
def wst (x1 kd x3 x4 ln : Int32) (l : Nat) (h : Hp) : Nat → Nat → Int32 → Int32
  | 0, _, acc => acc
  | n + 1, k, acc => if 72 < k + l then acc else wst x1 kd x3 x4 ln l h n (k + 1) (if acc < fsum (ldF x1 kd x3 x4 (nI k) (nI k + ln - 1) h) 0 (ns h) 0 then fsum (ldF x1 kd x3 x4 (nI k) (nI k + ln - 1) h) 0 (ns h) 0 else acc)
section WORST
variable {h : Hp} {x1 x3 x4 kd : Int32} {a q l : Nat}
theorem sub_lt {k : Nat} (hl : l ≤ 6) (hk : k ≤ 73) : ((72 : Int32) - nI l < nI k) ↔ 72 < k + l := by
  rw [Int32.lt_iff_toInt_lt, Int32.toInt_sub, nI_toInt (n := l) (by omega), nI_toInt (n := k) (by omega), show (72 : Int32).toInt = 72 from rfl, Int.bmod_eq_of_le (by omega) (by omega)]
  omega
theorem add_lt {k : Nat} (hl : l ≤ 6) (hk : k ≤ 73) : ((72 : Int32) < nI k + nI l) ↔ 72 < k + l := by
  rw [nI_add]
  exact nI_ltI (a := 72) (by decide) (by omega)
theorem worst_c (N : EqN h) (V : VN h) (S : EqS h) (ho : okc a 3 = true) (el : rd h a 1 = nI l) (ek : rd h a 0 = kd) (hl : l ≤ 6) : ∀ (n k : Nat) (acc : Int32), k + n = 74 → k ≤ 73 → f_X6_worst_32 x1 x3 x4 a acc (nI k) h = rtn (some (.int (wst x1 kd x3 x4 (nI l) l h n k acc))) h ∨ (l = 0)
  | 0, k, acc, e, hk => by omega
  | n + 1, k, acc, e, hk => by
    by_cases l0 : l = 0
    · exact Or.inr l0
    left
    rw [e_X6_worst_32, ho, el, ek]
    simp only [gd_t]
    unfold wst
    by_cases c : 72 < k + l
    · rw [if_pos ((sub_lt hl hk).mpr c), if_pos c]
    · rw [if_neg (fun z => c ((sub_lt hl hk).mp z)), if_neg c, slotsBetween_s N V S, bI_r, nI_1]
      rcases worst_c N V S ho el ek hl n (k + 1) (if acc < fsum (ldF x1 kd x3 x4 (nI k) (nI k + nI l - 1) h) 0 (ns h) 0 then fsum (ldF x1 kd x3 x4 (nI k) (nI k + nI l - 1) h) 0 (ns h) 0 else acc) (by omega) (by omega) with w | w
      · exact w
      · exact absurd w l0
theorem worst_m (V : VN h) (hq : q < 24) (el : rd h 230 q = nI l) (ek : rd h 229 q = kd) (hl : l ≤ 6) : ∀ (n k : Nat) (acc : Int32), k + n = 74 → k ≤ 73 → f_X7_worst_50 x1 x3 x4 (nI q) acc (nI k) h = rtn (some (.int (wst x1 kd x3 x4 (nI l) l h n k acc))) h ∨ (l = 0)
  | 0, k, acc, e, hk => by omega
  | n + 1, k, acc, e, hk => by
    by_cases l0 : l = 0
    · exact Or.inr l0
    left
    rw [e_X7_worst_50, inb_nI hq (by decide), nI_clamp (by omega), el, ek]
    simp only [gd_t]
    unfold wst
    by_cases c : 72 < k + l
    · rw [if_pos ((add_lt hl hk).mpr c), if_pos c]
    · rw [if_neg (fun z => c ((add_lt hl hk).mp z)), if_neg c, loadOf_s V, bI_r]
      simp only [e_X7_worst_110, nI_1]
      rcases worst_m V hq el ek hl n (k + 1) (if acc < fsum (ldF x1 kd x3 x4 (nI k) (nI k + nI l - 1) h) 0 (ns h) 0 then fsum (ldF x1 kd x3 x4 (nI k) (nI k + nI l - 1) h) 0 (ns h) 0 else acc) (by omega) (by omega) with w | w
      · rw [← w]
        by_cases d : acc < fsum (ldF x1 kd x3 x4 (nI k) (nI k + nI l - 1) h) 0 (ns h) 0
        · rw [if_pos d, if_pos d]
        · rw [if_neg d, if_neg d]
      · exact absurd w l0
theorem hq_wst {v : Int64} {w ln : Int32} : ∀ (n k : Nat) (acc : Int32), wst x1 kd x3 x4 ln l (hq h v w) n k acc = wst x1 kd x3 x4 ln l h n k acc
  | 0, _, _ => rfl
  | n + 1, k, acc => by
    unfold wst
    rw [hq_ld, hq_ns]
    by_cases c : 72 < k + l
    · rw [if_pos c, if_pos c]
    · rw [if_neg c, if_neg c]
      exact hq_wst n (k + 1) _
end WORST
theorem irg_16 {x : Int32} (e : irg x 1 6 = true) : ∃ l : Nat, 1 ≤ l ∧ l ≤ 6 ∧ x = nI l := by
  obtain ⟨h1, h2⟩ := irg_t e
  have h0 : ¬ x < 0 := fun z => h1 (by
    rw [Int32.lt_iff_toInt_lt] at z ⊢
    have e1 : (1 : Int32).toInt = 1 := by decide
    have e0 : (0 : Int32).toInt = 0 := by decide
    omega)
  obtain ⟨j, hj, rfl⟩ := nI_of h0
  refine ⟨j, ?_, ?_, rfl⟩
  · have q : ¬ j < 1 := fun z => h1 (nI_lt (b := 1) z (by decide))
    omega
  · have q : ¬ 6 < j := fun z => h2 (nI_lt (a := 6) z hj)
    omega
theorem sim_worst : SimI Inv F_L_worst F_X7_worst 4 := by
  intro as h hl hR
  match as, hl with
  | [x, y, z, u], _ =>
    show ∃ (k v : Int32) (h1 h2 : Hp), F_L_worst [.ref 0, .int x, .int y, .int z, .int u, .ref 275] h = rtn (some (.int k)) h1 ∧ F_X7_worst [.ref 227, .int x, .int y, .int z, .int u] h1 = rtn (some (.int v)) h2 ∧ _
    have N := hR.1
    have S := hR.2.1
    have V := hR.2.2.2.2.2.2.2.1
    have A := hR.2.2.2.2.1
    have hVA := hR.2.2.2.2.2.2.2.2.1
    cases c1 : irg x 0 3 with
    | false =>
      refine ⟨1, 0, h, wr h 227 0 1, ?_, ?_, rd_eqw, fun q => absurd q one_ne, hR.quiet (Or.inl ⟨rfl, rfl⟩), Scr.refl, Scr.refl.w (by decide)⟩
      · rw [e_L_worst_0, e_X6_worst_0, airportAt_n c1]
        rfl
      · rw [e_X7_worst_0, isRule_n c1, bI_r, if_pos rfl, e_X7_worst_28, holds_n one_ne, bI_r, if_pos rfl]
    | true =>
      obtain ⟨j, hj, rfl⟩ := irg_3 c1
      obtain ⟨m, hm, e1, e2⟩ := hVA j hj
      obtain ⟨a1, a2, a3, a4, a5, a6⟩ := A j hj
      have e3 : rd h (11 + 9 * j) 2 = nI m := a1.trans e1
      cases c2 : ixs y m with
      | false =>
        refine ⟨1, 0, h, wr h 227 0 1, ?_, ?_, rd_eqw, fun q => absurd q one_ne, hR.quiet (Or.inl ⟨rfl, rfl⟩), Scr.refl, Scr.refl.w (by decide)⟩
        · rw [e_L_worst_0, e_X6_worst_0, airportAt_s hj, bR_r, okc_ap j hj, gd_t, ruleAt_n hj e3 hm c2]
          rfl
        · rw [e_X7_worst_0, isRule_s hj e1, bI_r, c2, bi_f, if_pos rfl, e_X7_worst_28, holds_n one_ne, bI_r, if_pos rfl]
      | true =>
        obtain ⟨r, hr, rfl⟩ := ixs_t (by omega) c2
        obtain ⟨r1, r2, r3⟩ := a6 r (by omega)
        obtain ⟨t1, t2, t3⟩ := e2 r hr
        obtain ⟨l, hl1, hl6, el⟩ := irg_16 t2
        cases c3 : (irg z 0 6 && irg u 0 19) with
        | false =>
          refine ⟨2, 0, h, wr h 227 0 2, ?_, ?_, rd_eqw, fun q => absurd q two_ne, hR.quiet (Or.inl ⟨rfl, rfl⟩), Scr.refl, Scr.refl.w (by decide)⟩
          · rw [e_L_worst_0, e_X6_worst_0, airportAt_s hj, bR_r, okc_ap j hj, gd_t, ruleAt_s hj e3 hm hr, bR_r]
            simp only [requireRange_s]
            revert c3
            cases irg z 0 6 <;> cases irg u 0 19 <;> intro c3 <;> first | rfl | cases c3
          · rw [e_X7_worst_0, isRule_s hj e1, bI_r, c2, bi_t, if_neg one_ne, isDay_s, bI_r, c3, bi_f, if_pos rfl, e_X7_worst_28, holds_n two_ne, bI_r, if_pos rfl]
        | true =>
          have hw := worst_c (x1 := nI j) (x3 := z) (x4 := u) N V S (rul_b j hj r (by omega)).2 (r2.trans el) (r1.trans rfl) hl6 74 0 0 (by omega) (by omega)
          rcases hw with hw | hw
          · generalize hv : wst (nI j) (rd h 229 (6 * j + r)) z u (nI l) l h 74 0 0 = v at hw
            have c3' := c3
            rw [Bool.and_eq_true] at c3'
            refine ⟨0, v, wrL h 0 (Int32.toInt64 v), hq h (Int32.toInt64 v) 0, ?_, ?_, hq_w, fun _ => hq_o, hq_inv hR, Scr.refl.l, hq_scr⟩
            · rw [e_L_worst_0, e_X6_worst_0, airportAt_s hj, bR_r, okc_ap j hj, gd_t, ruleAt_s hj e3 hm hr, bR_r]
              simp only [requireRange_s, c3'.1, c3'.2, bV_r]
              show bI (f_X6_worst_32 _ _ _ _ 0 (nI 0) h) _ _ = _
              rw [hw, bI_r]
              rfl
            · have e1' : rd (wrL h 0 (Int32.toInt64 v)) 228 j = nI m := e1
              rw [e_X7_worst_0, isRule_s hj e1', bI_r, c2, bi_t, if_neg one_ne, isDay_s, bI_r, c3, bi_t, if_neg one_ne, e_X7_worst_28, holds_0, bI_r, if_neg one_ne, rul_i j hj r (by omega)]
              show f_X7_worst_50 _ _ _ _ 0 (nI 0) (hq h (Int32.toInt64 v) 0) = _
              rcases worst_m (x1 := nI j) (x3 := z) (x4 := u) (kd := rd h 229 (6 * j + r)) (hq_V (v := Int32.toInt64 v) (w := 0) V) (q := 6 * j + r) (by omega) (l := l) (by rw [hq_rd (by decide)]; exact el) (by rw [hq_rd (by decide)]) hl6 74 0 0 (by omega) (by omega) with w | w
              · rw [w, hq_wst, hv]
              · omega
          · omega
