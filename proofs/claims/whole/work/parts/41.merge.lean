theorem merge_l {i : Nat} (hi : i < 10) {kept left : Int32} (hkl : kept ≠ left) : ∀ (n k : Nat) (acc : Int32) (a m : Hp), k + n = 10 → (∀ c, c < 10 → rd a 2 c = rd m 235 c) → rd m 235 i = kept → ∃ v a2 m2, f_X6_merge_35 kept left acc (nI k) a = rtn (some (.int v)) a2 ∧ f_X7_merge_71 (nI i) left acc (nI k) m = rtn (some (.int v)) m2 ∧ (∀ c, c < 10 → rd a2 2 c = rd m2 235 c) ∧ Fr (fun p _ => p = 2) a a2 ∧ Fr (fun p _ => p = 235) m m2 ∧ rdL a2 = rdL a ∧ rdL m2 = rdL m
  | 0, k, acc, a, m, e, H, hk => by
    refine ⟨acc, a, m, ?_, ?_, H, Fr.refl, Fr.refl, rfl, rfl⟩
    · rw [e_X6_merge_35, if_neg (show ¬ nI k < 10 from nI_nlt (a := k) (b := 10) (by omega) (by omega))]
    · rw [e_X7_merge_71, if_neg (show ¬ nI k < 10 from nI_nlt (a := k) (b := 10) (by omega) (by omega))]
  | n + 1, k, acc, a, m, e, H, hk => by
    have ik : inb (nI k) 10 = true := inb_nI (by omega) (by decide)
    have ii : inb (nI i) 10 = true := inb_nI hi (by decide)
    have ck : (nI k).toNatClampNeg = k := nI_clamp (by omega)
    have ci : (nI i).toNatClampNeg = i := nI_clamp (by omega)
    have lt : nI k < 10 := nI_lt (a := k) (b := 10) (by omega) (by decide)
    have hkk := H k (by omega)
    -- the cell's new value
    have step : ∀ s : Int32, (∀ c, c < 10 → rd (wr a 2 k s) 2 c = rd (wr m 235 k s) 235 c) := fun s c hc => by
      rw [rd_wrx, rd_wrx]
      by_cases c9 : c = k
      · rw [if_pos ⟨rfl, c9⟩, if_pos ⟨rfl, c9⟩]
      · rw [if_neg (fun z => c9 z.2), if_neg (fun z => c9 z.2)]
        exact H c hc
    by_cases c1 : rd m 235 k = left
    · have hik : i ≠ k := fun z => hkl (by rw [← hk, z]; exact c1)
      obtain ⟨v, a2, m2, r1, r2, r3, r4, r5, r6, r7⟩ := merge_l hi hkl n (k + 1) (acc + 1) (wr a 2 k kept) (wr m 235 k kept) (by omega) (step kept) (by rw [rd_nk hik]; exact hk)
      refine ⟨v, a2, m2, ?_, ?_, r3, ?_, ?_, ?_, ?_⟩
      · rw [e_X6_merge_35, if_pos lt, ik, gd_t, gd_t, ck, hkk, if_pos c1, e_X6_merge_65, ik, gd_t, ck, rd_eqw, if_pos rfl, e_X6_merge_79, nI_1]
        exact r1
      · rw [e_X7_merge_71, if_pos lt, ik, gd_t, ck, if_pos c1, ii, gd_t, ci, hk, e_X7_merge_112, ik, ii, gd_t, gd_t, gd_t, ck, ci, rd_eqw, rd_nk hik, hk, if_pos rfl, e_X7_merge_136, nI_1]
        exact r2
      · intro p q hp
        rw [r4 p q hp, rd_ne hp]
      · intro p q hp
        rw [r5 p q hp, rd_ne hp]
      · rw [r6]; rfl
      · rw [r7]; rfl
    · -- the reference writes what stood there
      have same : ∀ c, rd (wr m 235 k (rd m 235 k)) 235 c = rd m 235 c := fun c => by
        by_cases c9 : c = k
        · rw [c9, rd_eqw]
        · rw [rd_nk c9]
      by_cases c2 : rd m 235 k = kept
      · obtain ⟨v, a2, m2, r1, r2, r3, r4, r5, r6, r7⟩ := merge_l hi hkl n (k + 1) (acc + 1) a (wr m 235 k (rd m 235 k)) (by omega) (fun c hc => by rw [same]; exact H c hc) (by rw [same]; exact hk)
        refine ⟨v, a2, m2, ?_, ?_, r3, r4, ?_, r6, ?_⟩
        · rw [e_X6_merge_35, if_pos lt, ik, gd_t, ck, hkk, if_neg c1, e_X6_merge_65, ik, gd_t, ck, hkk, if_pos c2, e_X6_merge_79, nI_1]
          exact r1
        · rw [e_X7_merge_71, if_pos lt, ik, gd_t, ck, if_neg c1, gd_t, e_X7_merge_112, ik, ii, gd_t, gd_t, gd_t, ck, ci, same, same, hk, if_pos c2, e_X7_merge_136, nI_1]
          exact r2
        · intro p q hp
          rw [r5 p q hp, rd_ne hp]
        · rw [r7]; rfl
      · obtain ⟨v, a2, m2, r1, r2, r3, r4, r5, r6, r7⟩ := merge_l hi hkl n (k + 1) acc a (wr m 235 k (rd m 235 k)) (by omega) (fun c hc => by rw [same]; exact H c hc) (by rw [same]; exact hk)
        refine ⟨v, a2, m2, ?_, ?_, r3, r4, ?_, r6, ?_⟩
        · rw [e_X6_merge_35, if_pos lt, ik, gd_t, ck, hkk, if_neg c1, e_X6_merge_65, ik, gd_t, ck, hkk, if_neg c2, e_X6_merge_79, nI_1]
          exact r1
        · rw [e_X7_merge_71, if_pos lt, ik, gd_t, ck, if_neg c1, gd_t, e_X7_merge_112, ik, ii, gd_t, gd_t, gd_t, ck, ci, same, same, hk, if_neg c2, e_X7_merge_136, nI_1, Int32.add_zero]
          exact r2
        · intro p q hp
          rw [r5 p q hp, rd_ne hp]
        · rw [r7]; rfl
theorem sim_merge : SimI Inv F_L_merge F_X7_merge 2 := by
  intro as h hl hR
  match as, hl with
  | [x, y], _ =>
    show ∃ (k v : Int32) (h1 h2 : Hp), F_L_merge [.ref 0, .int x, .int y, .ref 275] h = rtn (some (.int k)) h1 ∧ F_X7_merge [.ref 227, .int x, .int y] h1 = rtn (some (.int v)) h2 ∧ _
    have G := hR.2.2.2.2.2.1
    have key : ∀ g : Hp, F_X7_merge [.ref 227, .int x, .int y] g = f_X7_merge_19 x y (bi (irg x 0 9 && irg y 0 9)) g := by
      intro g
      rw [e_X7_merge_0]
      simp only [isCarrier_s, bI_r, e_X7_merge_18]
      cases irg x 0 9 <;> cases irg y 0 9 <;> simp [bi]
    cases c1 : (irg x 0 9 && irg y 0 9) with
    | false =>
      refine ⟨1, 0, h, wr h 227 0 1, ?_, ?_, rd_eqw, fun q => absurd q one_ne, hR.quiet (Or.inl ⟨rfl, rfl⟩), Scr.refl, Scr.refl.w (by decide)⟩
      · rw [e_L_merge_0, e_X6_merge_0]
        cases c2 : irg x 0 9 with
        | false =>
          rw [groupAt_n c2]
          rfl
        | true =>
          obtain ⟨i, hi, rfl⟩ := irg_9 c2
          rw [c2, Bool.true_and] at c1
          rw [groupAt_s hi, bI_r, groupAt_n c1]
          rfl
      · rw [key, c1, bi_f, e_X7_merge_19, if_pos rfl, e_X7_merge_49, holds_n one_ne, bI_r, if_pos rfl]
    | true =>
      have c1' := c1
      rw [Bool.and_eq_true] at c1'
      obtain ⟨i, hi, rfl⟩ := irg_9 c1'.1
      obtain ⟨j, hj, rfl⟩ := irg_9 c1'.2
      by_cases c2 : rd h 235 i = rd h 235 j
      · refine ⟨2, 0, h, wr h 227 0 2, ?_, ?_, rd_eqw, fun q => absurd q two_ne, hR.quiet (Or.inl ⟨rfl, rfl⟩), Scr.refl, Scr.refl.w (by decide)⟩
        · rw [e_L_merge_0, e_X6_merge_0, groupAt_s hi, bI_r, groupAt_s hj, bI_r, G i hi, G j hj, if_pos c2]
          rfl
        · rw [key, c1, bi_t, e_X7_merge_19, if_neg one_ne, inb_nI hi (by decide), inb_nI hj (by decide), gd_t, gd_t, nI_clamp (by omega), nI_clamp (by omega), if_pos c2, e_X7_merge_49, holds_n two_ne, bI_r, if_pos rfl]
      · obtain ⟨v, a2, m0, r1, -, -, r4, -, -, -⟩ := merge_l hi c2 10 0 0 h h (by omega) G rfl
        obtain ⟨v', a3, m2, s1, s2, s3, s4, s5, s6, s7⟩ := merge_l hi c2 10 0 0 h (wr (wrL a2 0 (Int32.toInt64 v)) 227 0 0) (by omega) (fun c hc => by
          rw [rd_ne (by decide), rd_wrLx, r4 235 c (show ¬ ((235 : Nat) = 2) by decide)]
          exact G c hc) (by rw [rd_ne (by decide), rd_wrLx, r4 235 i (show ¬ ((235 : Nat) = 2) by decide)])
        have e9 : v' = v ∧ a3 = a2 := by
          have q := s1.symm.trans r1
          unfold rtn at q
          simp only [Option.some.injEq, Sum.inl.injEq, Prod.mk.injEq, Value.int.injEq] at q
          exact q
        obtain ⟨rfl, rfl⟩ := e9
        have F2 : Fr PG h m2 := by
          intro p q hp
          have p2 : p ≠ 2 := fun z => hp (Or.inl z)
          have p235 : p ≠ 235 := fun z => hp (Or.inr (Or.inl z))
          rw [s5 p q p235, rd_wrx]
          by_cases z : p = 227 ∧ q = 0
          · exact absurd (Or.inr (Or.inr z)) hp
          · rw [if_neg z, rd_wrLx, r4 p q p2]
        refine ⟨0, v', wrL a3 0 (Int32.toInt64 v'), m2, ?_, ?_, ?_, fun _ => ?_, ?_, ?_, ?_⟩
        · rw [e_L_merge_0, e_X6_merge_0, groupAt_s hi, bI_r, groupAt_s hj, bI_r, G i hi, G j hj, if_neg c2]
          show bI (f_X6_merge_35 _ _ 0 (nI 0) h) _ _ = _
          rw [s1, bI_r]
          rfl
        · rw [key, c1, bi_t, e_X7_merge_19, if_neg one_ne, inb_nI hi (by decide), inb_nI hj (by decide), gd_t, gd_t, nI_clamp (by omega), nI_clamp (by omega), rd_wrLx, rd_wrLx, r4 235 i (show ¬ ((235 : Nat) = 2) by decide), r4 235 j (show ¬ ((235 : Nat) = 2) by decide), if_neg c2, e_X7_merge_49, holds_0, bI_r, if_neg one_ne, inb_nI hj (by decide), gd_t, nI_clamp (by omega), rd_ne (by decide), rd_wrLx, r4 235 j (show ¬ ((235 : Nat) = 2) by decide)]
          exact s2
        · rw [s5 227 0 (show ¬ ((227 : Nat) = 235) by decide), rd_eqw]
        · rw [s7]
          rfl
        · refine hR.grpF F2 ?_
          intro c hc
          rw [s5 2 c (show ¬ ((2 : Nat) = 235) by decide), rd_ne (by decide), rd_wrLx]
          exact s3 c hc
        · exact ⟨fun q => by rw [rd_wrLx]; exact r4 SCRA q (show ¬ ((1000 : Nat) = 2) by decide), by rw [rd_wrLx]; exact r4 SCRB 0 (show ¬ ((1001 : Nat) = 2) by decide)⟩
        · exact ⟨fun q => F2 SCRA q (fun z => by rcases z with z | z | z; exact absurd z (by decide); exact absurd z (by decide); exact absurd z.1 (by decide)), F2 SCRB 0 (fun z => by rcases z with z | z | z; exact absurd z (by decide); exact absurd z (by decide); exact absurd z.1 (by decide))⟩
