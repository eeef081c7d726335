/-! the end of a season -/
def cpy (h : Hp) (a b : Nat) : Hp := wr (wr (wr (wr (wr (wr (wr h a 0 (rd h b 0)) a 1 (rd h b 1)) a 2 (rd h b 2)) a 3 (rd h b 3)) a 4 (rd h b 4)) a 5 (rd h b 5)) a 6 (rd h b 6)
def RX (a b : Hp) : Prop := ∀ i, i < 60 → ∀ f, f < 9 → rd a (167 + i) f = rd b (RA f) i
section ENDS
variable {h : Hp} {a b p k i e : Nat} {x : Int32}
theorem cases7 {f : Nat} (hf : f < 7) : f = 0 ∨ f = 1 ∨ f = 2 ∨ f = 3 ∨ f = 4 ∨ f = 5 ∨ f = 6 := by omega
theorem cpy_in : ∀ f, f < 7 → rd (cpy h a b) a f = rd h b f := by
  intro f hf
  unfold cpy
  rcases cases7 hf with rfl | rfl | rfl | rfl | rfl | rfl | rfl <;> simp [rd_wrx]
theorem cpy_out (hp : p ≠ a ∨ 7 ≤ k) : rd (cpy h a b) p k = rd h p k := by
  unfold cpy
  simp only [rd_wrx]
  repeat rw [if_neg (by omega)]
theorem copyFrom_s (hne : b ≠ a) (oa : okc a 7 = true) (ob : okc b 7 = true) : F_X5_copyFrom [.ref a, .ref b] h = rtn none (cpy h a b) := by
  rw [e_X5_copyFrom_0, oa, ob]
  simp only [gd_t, rd_ne hne]
  rfl
def rbg (h : Hp) (e i : Nat) : Hp := wr (wr (cpy h (167 + e) (107 + i)) (167 + e) 7 (rd h (107 + i) 8)) (167 + e) 8 (-1)
theorem rbegin_s (he : e < 60) (hi : i < 60) : F_X2_begin [.ref (167 + e), .ref (107 + i)] h = rtn none (rbg h e i) := by
  rw [e_X2_begin_0, (okc_rt e he).1, gd_t, copyFrom_s (by omega) (okc_rt e he).2 (okc_sr i hi).2, bV_r, (okc_sr i hi).1, cpy_out (by omega)]
  rfl
def mrb (m : Hp) (e i : Nat) : Hp := wr (wr (wr (wr (wr (wr (wr (wr (wr m 236 e (rd m 260 i)) 237 e (rd m 262 i)) 238 e (rd m 263 i)) 239 e (rd m 264 i)) 240 e (rd m 265 i)) 241 e (rd m 266 i)) 242 e (rd m 267 i)) 243 e (rd m 268 i)) 244 e (-1)
theorem rbg_in : ∀ f, f < 7 → rd (rbg h e i) (167 + e) f = rd h (107 + i) f := by
  intro f hf
  unfold rbg
  rw [rd_nk (by omega), rd_nk (by omega), cpy_in f hf]
theorem rbg_out (hp : p ≠ 167 + e) : rd (rbg h e i) p k = rd h p k := by
  unfold rbg
  rw [rd_ne hp, rd_ne hp, cpy_out (Or.inl hp)]
theorem mrb_out (hp : ¬ (236 ≤ p ∧ p ≤ 244)) : rd (mrb h e i) p k = rd h p k := by
  unfold mrb
  simp only [rd_wrx]
  repeat rw [if_neg (by omega)]
theorem mrb_ne (hp : k ≠ e) : rd (mrb h e i) p k = rd h p k := by
  unfold mrb
  simp only [rd_wrx]
  repeat rw [if_neg (by omega)]
theorem mrb_in : ∀ f, f < 7 → rd (mrb h e i) (RA f) e = rd h (SA f) i := by
  intro f hf
  rcases cases7 hf with rfl | rfl | rfl | rfl | rfl | rfl | rfl
  · show rd (mrb h e i) 237 e = rd h 262 i
    simp [mrb, rd_wrx]
  · show rd (mrb h e i) 238 e = rd h 263 i
    simp [mrb, rd_wrx]
  · show rd (mrb h e i) 239 e = rd h 264 i
    simp [mrb, rd_wrx]
  · show rd (mrb h e i) 240 e = rd h 265 i
    simp [mrb, rd_wrx]
  · show rd (mrb h e i) 241 e = rd h 266 i
    simp [mrb, rd_wrx]
  · show rd (mrb h e i) 242 e = rd h 267 i
    simp [mrb, rd_wrx]
  · show rd (mrb h e i) 243 e = rd h 268 i
    simp [mrb, rd_wrx]
theorem RX.step {a m : Hp} (H : RX a m) (hS : ∀ f, f < 13 → rd a (107 + i) f = rd m (SA f) i) : RX (rbg a e i) (mrb m e i) := by
  intro j hj f hf
  by_cases c : j = e
  · subst c
    by_cases f7 : f < 7
    · rw [rbg_in f f7, mrb_in f f7]
      exact hS f (by omega)
    · have : f = 7 ∨ f = 8 := by omega
      rcases this with rfl | rfl
      · show rd (rbg a j i) (167 + j) 7 = rd (mrb m j i) 236 j
        rw [show rd (rbg a j i) (167 + j) 7 = rd a (107 + i) 8 by unfold rbg; rw [rd_nk (by decide), rd_eqw], show rd (mrb m j i) 236 j = rd m 260 i by simp [mrb, rd_wrx]]
        exact hS 8 (by decide)
      · show rd (rbg a j i) (167 + j) 8 = rd (mrb m j i) 244 j
        rw [show rd (rbg a j i) (167 + j) 8 = -1 by unfold rbg; rw [rd_eqw], show rd (mrb m j i) 244 j = -1 by simp [mrb, rd_wrx]]
  · rw [rbg_out (by omega), mrb_ne c]
    exact H j hj f hf
theorem eaB_eq {g : Hp} (hh : ∀ p k, 260 ≤ p → p ≤ 273 → rd g p k = rd h p k) : eaB g i = eaB h i := by
  have e1 : usd g i = usd h i := by
    unfold usd
    congr 1
    apply cnt_ext
    intro k hk
    unfold ubF ubX
    rw [hh 262 _ (by decide) (by decide), hh 264 _ (by decide) (by decide), hh 266 _ (by decide) (by decide), hh 267 _ (by decide) (by decide), hh 270 _ (by decide) (by decide), hh 273 _ (by decide) (by decide)]
  unfold eaB wkS
  rw [e1, hh 266 _ (by decide) (by decide), hh 267 _ (by decide) (by decide), hh 272 _ (by decide) (by decide)]
def PEc (p _k : Nat) : Prop := 167 ≤ p ∧ p < 227
def PEm (p k : Nat) : Prop := p < 227 ∨ (236 ≤ p ∧ p ≤ 244) ∨ (p = 227 ∧ k = 0)
def PRg (p _k : Nat) : Prop := 236 ≤ p ∧ p ≤ 244
theorem turn_l (N : EqN h) (V : VN h) (S : EqS h) (A : EqA h) (hVS : VS h) : ∀ (n k e : Nat) (a m : Hp), k + n = ns h → e ≤ k → Fr PEc h a → Fr PEm h m → RX a m → (∀ j, j < e → irg (rd m 236 j) 0 9 = true) → ∃ e2 a2 m2, e2 ≤ ns h ∧ f_X6_turnSeriesIntoRights_4 (nI e) (nI k) a = rtn (some (.int (nI e2))) a2 ∧ f_X7_end_27 (nI e) (nI k) m = f_X7_end_157 (nI e2) 0 m2 ∧ Fr PEc h a2 ∧ Fr PRg m m2 ∧ RX a2 m2 ∧ (∀ j, j < e2 → irg (rd m2 236 j) 0 9 = true) ∧ rdL a2 = rdL a ∧ rdL m2 = rdL m
  | 0, k, e, a, m, hk, he, Fa, Fm, X, hW => by
    have Na : EqN a := N.F Fa (by unfold PEc; omega) (by unfold PEc; intros; omega)
    have Va : VN a := V.F Fa (by unfold PEc; omega) (by unfold PEc; intros; omega)
    have Vm : VN m := V.F Fm (by unfold PEm; omega) (by unfold PEm; intros; omega)
    have na : ns a = ns h := ns_F Fa (by unfold PEc; omega)
    have nm : ns m = ns h := ns_F Fm (by unfold PEm; omega)
    have h60 := V.s.1
    refine ⟨e, a, m, by omega, ?_, ?_, Fa, Fr.refl, X, hW, rfl, rfl⟩
    · rw [e_X6_turnSeriesIntoRights_4, Na.2.1, Va.s.2, na, if_neg (nI_nlt (by omega) (by omega))]
    · rw [e_X7_end_27, Vm.s.2, nm, if_neg (nI_nlt (by omega) (by omega))]
  | n + 1, k, e, a, m, hk, he, Fa, Fm, X, hW => by
    have Na : EqN a := N.F Fa (by unfold PEc; omega) (by unfold PEc; intros; omega)
    have Va : VN a := V.F Fa (by unfold PEc; omega) (by unfold PEc; intros; omega)
    have Vm : VN m := V.F Fm (by unfold PEm; omega) (by unfold PEm; intros; omega)
    have Sa : EqS a := S.F Fa (by unfold PEc; intros; omega) (by unfold PEc; intros; omega)
    have Aa : EqA a := A.F Fa (by unfold PEc; intros; omega) (by unfold PEc; intros; omega)
    have hVa : VS a := hVS.F Fa (by unfold PEc; intros; omega) (by unfold PEc; intros; omega)
    have hVm : VS m := hVS.F Fm (by unfold PEm; intros; omega) (by unfold PEm; intros; omega)
    have na : ns a = ns h := ns_F Fa (by unfold PEc; omega)
    have nm : ns m = ns h := ns_F Fm (by unfold PEm; omega)
    have h60 := V.s.1
    have ea : eaB a k = eaB h k := eaB_eq (fun p q h1 h2 => Fa p q (by unfold PEc; omega))
    have em : eaB m k = eaB h k := eaB_eq (fun p q h1 h2 => Fm p q (by unfold PEm; omega))
    have le : nI e < 60 := nI_lt (a := e) (b := 60) (by omega) (by decide)
    have ie : inb (nI e) 60 = true := inb_nI (by omega) (by decide)
    have ik : inb (nI k) 60 = true := inb_nI (by omega) (by decide)
    have ce : (nI e).toNatClampNeg = e := nI_clamp (by omega)
    have ck : (nI k).toNatClampNeg = k := nI_clamp (by omega)
    rw [e_X6_turnSeriesIntoRights_4, Na.2.1, Va.s.2, na, if_pos (nI_lt (by omega) (by omega)), if_pos le, seriesAt_s Na Va (by omega), bR_r, earnsRight_s Va Sa Aa hVa (by omega), bI_r, ea, e_X7_end_27, Vm.s.2, nm, if_pos (nI_lt (by omega) (by omega)), isEarned_s Vm hVm (by omega), bI_r, em]
    cases c : eaB h k with
    | false =>
      obtain ⟨e2, a2, m2, r0, r1, r2, r3, r4, r5⟩ := turn_l N V S A hVS n (k + 1) e a m (by omega) (by omega) Fa Fm X hW
      refine ⟨e2, a2, m2, r0, ?_, ?_, r3, r4, r5⟩
      · rw [bi_f, if_pos rfl, e_X6_turnSeriesIntoRights_48, nI_1]
        exact r1
      · rw [bi_f, if_pos rfl, e_X7_end_149, nI_1]
        exact r2
    | true =>
      have Fm1 : Fr PRg m (mrb m e k) := fun p q hp => mrb_out hp
      obtain ⟨e2, a2, m2, r0, r1, r2, r3, r5, r6, r7, r8, r9⟩ := turn_l N V S A hVS n (k + 1) (e + 1) (rbg a e k) (mrb m e k) (by omega) (by omega)
        (fun p q hp => by
          rw [rbg_out (fun z => hp (by unfold PEc; omega))]
          exact Fa p q hp)
        (fun p q hp => by
          rw [Fm1 p q (fun z => hp (Or.inr (Or.inl z)))]
          exact Fm p q hp)
        (X.step (fun f hf => by
          have q := sa_in f hf
          rw [Sa k (by omega) f hf, Fa _ _ (by unfold PEc; omega), Fm _ _ (by unfold PEm; omega)]))
        (fun j hj => by
          by_cases cj : j = e
          · subst cj
            rw [show rd (mrb m j k) 236 j = rd m 260 k by simp [mrb, rd_wrx]]
            exact (hVm k (by omega)).2.2.2.2.2
          · rw [mrb_ne cj]
            exact hW j (by omega))
      refine ⟨e2, a2, m2, r0, ?_, ?_, r3, ?_, r6, r7, ?_, ?_⟩
      · rw [bi_t, if_neg one_ne, ie, gd_t, ce, skr5 e (by omega), (okc_rt e (by omega)).1, gd_t, rbegin_s (by omega) (by omega), bV_r, e_X6_turnSeriesIntoRights_48, nI_1, nI_1]
        exact r1
      · rw [bi_t, if_neg one_ne, ie, ik, ce, ck]
        simp only [gd_t]
        rw [e_X7_end_149, nI_1, nI_1]
        exact r2
      · intro p q hp
        rw [r5 p q hp, Fm1 p q hp]
      · rw [r8]
        rfl
      · rw [r9]
        rfl
theorem open_l {j : Nat} (hj : j < 4) : ∀ (n k : Nat) (a : Hp), k + n = 7 → (∀ d, d < k → rd a (13 + 9 * j) d = 0) → ∃ a2, f_X0_openAllDays_2 (11 + 9 * j) (nI k) a = rtn none a2 ∧ Fr (fun p _ => p = 13 + 9 * j) a a2 ∧ (∀ d, d < 7 → rd a2 (13 + 9 * j) d = 0) ∧ rdL a2 = rdL a
  | 0, k, a, hk, H => by
    obtain ⟨e1, e2, e3, -, e5⟩ := cls_a j hj
    refine ⟨a, ?_, Fr.refl, fun d hd => H d (by omega), rfl⟩
    rw [e_X0_openAllDays_2, okc_ap j hj, skr_c j hj, e1, alen_c hj, if_neg (show ¬ nI k < Int32.ofNat 7 from nI_nlt (a := k) (b := 7) (by omega) (by omega))]
    rfl
  | n + 1, k, a, hk, H => by
    obtain ⟨e1, e2, e3, -, e5⟩ := cls_a j hj
    obtain ⟨a2, r1, r2, r3, r4⟩ := open_l hj n (k + 1) (wr a (13 + 9 * j) k 0) (by omega) (fun d hd => by
      by_cases c : d = k
      · rw [c, rd_eqw]
      · rw [rd_nk c]
        exact H d (by omega))
    refine ⟨a2, ?_, fun p q hp => ?_, r3, ?_⟩
    · rw [e_X0_openAllDays_2, okc_ap j hj, skr_c j hj, e1, alen_c hj, if_pos (show nI k < Int32.ofNat 7 from nI_lt (a := k) (b := 7) (by omega) (by decide)), e3, e5, inb_nI (by omega) (by decide), nI_clamp (by omega), nI_1]
      exact r1
    · rw [r2 p q hp, rd_ne hp]
    · rw [r4]
      rfl
theorem end45_l : ∀ (n j : Nat) (a : Hp), j + n = 4 → (∀ i, i < j → ∀ d, d < 7 → rd a (13 + 9 * i) d = 0) → ∃ a2, f_X6_end_45 (nI j) a = rtn (some (.int (rd a2 0 12))) (wr a2 0 14 (rd a2 0 14 + 1)) ∧ Fr (fun p _ => ∃ i, i < 4 ∧ p = 13 + 9 * i) a a2 ∧ (∀ i, i < 4 → ∀ d, d < 7 → rd a2 (13 + 9 * i) d = 0) ∧ rdL a2 = rdL a
  | 0, j, a, hj, H => by
    refine ⟨a, ?_, Fr.refl, fun i hi => H i (by omega), rfl⟩
    rw [e_X6_end_45, if_neg (show ¬ nI j < 4 from nI_nlt (a := j) (b := 4) (by omega) (by omega))]
  | n + 1, j, a, hj, H => by
    obtain ⟨a1, r1, r2, r3, r4⟩ := open_l (j := j) (by omega) 7 0 a (by omega) (fun d hd => by omega)
    obtain ⟨a2, s1, s2, s3, s4⟩ := end45_l n (j + 1) a1 (by omega) (fun i hi d hd => by
      by_cases c : i = j
      · rw [c]
        exact r3 d hd
      · rw [r2 _ _ (show ¬ (13 + 9 * i = 13 + 9 * j) by omega)]
        exact H i (by omega) d hd)
    refine ⟨a2, ?_, fun p q hp => ?_, s3, ?_⟩
    · rw [e_X6_end_45, if_pos (show nI j < 4 from nI_lt (a := j) (b := 4) (by omega) (by decide)), airportAt_s (by omega), bR_r, okc_ap j (by omega), gd_t, e_X0_openAllDays_0]
      have r1 : f_X0_openAllDays_2 (11 + 9 * j) 0 a = rtn none a1 := r1
      rw [r1, bV_r, nI_1]
      exact s1
    · rw [s2 p q hp, r2 p q (fun z => hp ⟨j, by omega, z⟩)]
    · rw [s4, r4]
theorem end157_l : ∀ (n k : Nat) (m : Hp), k + n = 28 → (∀ d, d < k → rd m 273 d = 0) → ∃ m2, f_X7_end_157 x (nI k) m = rtn (some (.int x)) (wr (wr (wr (wr (wr m2 227 10 x) 227 20 0) 227 36 0) 227 37 0) 227 1 (rd m2 227 1 + 1)) ∧ Fr (fun p _ => p = 273) m m2 ∧ (∀ d, d < 28 → rd m2 273 d = 0) ∧ rdL m2 = rdL m
  | 0, k, m, hk, H => by
    refine ⟨m, ?_, Fr.refl, fun d hd => H d (by omega), rfl⟩
    rw [e_X7_end_157, if_neg (show ¬ nI k < 28 from nI_nlt (a := k) (b := 28) (by omega) (by omega))]
  | n + 1, k, m, hk, H => by
    obtain ⟨m2, r1, r2, r3, r4⟩ := end157_l n (k + 1) (wr m 273 k 0) (by omega) (fun d hd => by
      by_cases c : d = k
      · rw [c, rd_eqw]
      · rw [rd_nk c]
        exact H d (by omega))
    refine ⟨m2, ?_, fun p q hp => ?_, r3, ?_⟩
    · rw [e_X7_end_157, if_pos (show nI k < 28 from nI_lt (a := k) (b := 28) (by omega) (by decide)), inb_nI (by omega) (by decide), gd_t, nI_clamp (by omega), nI_1]
      exact r1
    · rw [r2 p q hp, rd_ne hp]
    · rw [r4]
      rfl
end ENDS
theorem season_20 {s : Int32} (e : irg s 0 20 = true) : (s < 20 ∧ s ≠ 20 ∧ irg (s + 1) 0 20 = true) ∨ (¬ s < 20 ∧ s = 20) := by
  obtain ⟨j, hj, rfl⟩ := irg_nI (n := 20) (by decide) e
  have q : ∀ j, j < 21 → (nI j < 20 ∧ nI j ≠ 20 ∧ irg (nI j + 1) 0 20 = true) ∨ (¬ nI j < 20 ∧ nI j = 20) := by decide
  exact q j (by omega)
