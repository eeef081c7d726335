/-! the whole order -/
def POm (p k : Nat) : Prop := p = 274 ∨ (p = 227 ∧ k = 52)
def P7 (p _k : Nat) : Prop := p = 7
def SameO (h a m : Hp) (t : Nat) : Prop := ∀ j, j < t → ∃ r, r < nq h ∧ rd a 7 j = nI r ∧ rd m 274 j = nI r
section ORD
variable {h a m : Hp} {L : Nat → Nat → Nat} {NN C : Nat → Nat} {t s k i j : Nat}
theorem sel_l (H : Inv h) (O : AllO h L NN) (hs : s < 4) : ∀ (n : Nat) (m : Hp) (C : Nat → Nat) (t : Nat), C s + n = NN s → MO h m L NN C t → ∃ m' C', f_X7_sorts_59 (nI s) 1 m = f_X7_sorts_52 (nI (s + 1)) m' ∧ MO h m' L NN C' (t + n) ∧ C' s = NN s ∧ (∀ x, x ≠ s → C' x = C x) ∧ (∀ j, j < t → rd m' 274 j = rd m 274 j) ∧ (∀ e, C s ≤ e → e < NN s → rd m' 274 (t + (e - C s)) = nI (L s e)) ∧ Fr POm m m' ∧ rdL m' = rdL m
  | 0, m, C, t, e, M => by
    rcases orders_s H O M hs with ⟨c1, -⟩ | ⟨c1, c2⟩
    · omega
    · refine ⟨m, C, ?_, M, c1, fun x _ => rfl, fun j _ => rfl, fun e h1 h2 => by omega, Fr.refl, rfl⟩
      rw [e_X7_sorts_59, if_neg one_ne, c2, bI_r, e_X7_sorts_59, if_pos rfl, nI_1]
  | n + 1, m, C, t, e, M => by
    rcases orders_s H O M hs with ⟨c1, c2, c3⟩ | ⟨c1, -⟩
    · obtain ⟨m', C', r1, r2, r3, r4, r5, r6, r7, r8⟩ := sel_l H O hs n _ _ _ (show updN C s (C s + 1) s + n = NN s by unfold updN; rw [if_pos rfl]; omega) c3
      have us : updN C s (C s + 1) s = C s + 1 := by unfold updN; rw [if_pos rfl]
      refine ⟨m', C', ?_, by rw [show t + (n + 1) = t + 1 + n by omega]; exact r2, r3, fun x hx => ?_, fun j hj => ?_, fun e h1 h2 => ?_, fun p q hp => ?_, by rw [r8]; rfl⟩
      · rw [e_X7_sorts_59, if_neg one_ne, c2, bI_r]
        exact r1
      · rw [r4 x hx]
        unfold updN
        rw [if_neg hx]
      · rw [r5 j (by omega), rd_ne (by decide), rd_nk (by omega)]
      · by_cases ee : e = C s
        · rw [ee, Nat.sub_self, Nat.add_zero, r5 t (by omega), rd_ne (by decide), rd_eqw]
        · have := r6 e (by rw [us]; omega) h2
          rw [us, show t + 1 + (e - (C s + 1)) = t + (e - C s) by omega] at this
          exact this
      · rw [r7 p q hp, rd_wrx, if_neg (fun z => hp (Or.inr z)), rd_wrx, if_neg (fun z => hp (Or.inl z.1))]
    · omega
theorem idle_l {n2 n3 : Nat} (h2 : n2 ≤ 60) (h3 : n3 ≤ 60) : ∀ (n i : Nat), i + n = 60 → n2 ≤ i → n3 ≤ i → f_X6_putAskedInOrder_47 (nI t) (nI n2) (nI n3) (nI i) a = rtn (some (.int (nI t))) a
  | 0, i, e, h2, h3 => by
    rw [e_X6_putAskedInOrder_47, if_neg (show ¬ nI i < 60 from nI_nlt (a := i) (b := 60) (by omega) (by omega))]
  | n + 1, i, e, h2', h3' => by
    rw [e_X6_putAskedInOrder_47, if_pos (show nI i < 60 from nI_lt (a := i) (b := 60) (by omega) (by decide)), if_neg (nI_nlt (by omega) (by omega)), e_X6_putAskedInOrder_85, if_neg (nI_nlt (by omega) (by omega)), e_X6_putAskedInOrder_116, nI_1]
    exact idle_l h2 h3 n (i + 1) (by omega) (by omega) (by omega)
/-- one of a sort in its turn -/
theorem half_s (H : Inv h) (O : AllO h L NN) (M : MO h m L NN C t) (hs : s < 4) {row : Nat} (hrow : row ≠ 7) (hC : C s = min i (NN s)) (hr : ∀ c, c < NN s → rd a row c = nI (L s c)) (E : SameO h a m t) : ∃ (b : Bool) (t1 : Nat) (C1 : Nat → Nat) (m1 a1 : Hp), F_X7_orders [.ref 227, .int (nI s)] m = rtn (some (.int (bi b))) m1 ∧ MO h m1 L NN C1 t1 ∧ C1 s = min (i + 1) (NN s) ∧ (∀ x, x ≠ s → C1 x = C x) ∧ (b = true ↔ i < NN s) ∧ (i < NN s → t < 60 ∧ t1 = t + 1 ∧ a1 = wr a 7 t (rd a row i)) ∧ (¬ i < NN s → t1 = t ∧ a1 = a) ∧ SameO h a1 m1 t1 ∧ Fr POm m m1 ∧ rdL m1 = rdL m ∧ Fr P7 a a1 ∧ rdL a1 = rdL a := by
  rcases orders_s H O M hs with ⟨c1, c2, c3⟩ | ⟨c1, c2⟩
  · have hi : i < NN s := by omega
    have ci : C s = i := by omega
    rw [ci] at c2 c3
    refine ⟨true, t + 1, updN C s (i + 1), _, wr a 7 t (rd a row i), c2, c3, ?_, fun x hx => ?_, ⟨fun _ => hi, fun _ => rfl⟩, fun _ => ⟨sum_lt O M hs c1, rfl, rfl⟩, fun z => absurd hi z, fun j hj => ?_, fun p q hp => ?_, rfl, Fr.refl.w rfl, rfl⟩
    · unfold updN
      rw [if_pos rfl]
      omega
    · unfold updN
      rw [if_neg hx]
    · by_cases ej : j = t
      · subst ej
        refine ⟨L s i, (O.1 s hs).1 i hi |>.1, ?_, ?_⟩
        · rw [rd_eqw, hr i hi]
        · rw [rd_ne (by decide), rd_eqw]
      · obtain ⟨r, z1, z2, z3⟩ := E j (by omega)
        refine ⟨r, z1, ?_, ?_⟩
        · rw [rd_nk ej]
          exact z2
        · rw [rd_ne (by decide), rd_nk ej]
          exact z3
    · rw [rd_wrx, if_neg (fun z => hp (Or.inr z)), rd_wrx, if_neg (fun z => hp (Or.inl z.1))]
  · have hi : ¬ i < NN s := by omega
    exact ⟨false, t, C, m, a, c2, M, by omega, fun x _ => rfl, ⟨fun z => (by cases z), fun z => absurd z hi⟩, fun z => absurd z hi, fun _ => ⟨rfl, rfl⟩, E, Fr.refl, rfl, Fr.refl, rfl⟩
theorem inter_l (H : Inv h) (O : AllO h L NN) : ∀ (d i t : Nat) (C : Nat → Nat) (a m : Hp), NN 2 ≤ i + d → NN 3 ≤ i + d → i + d ≤ 60 → MO h m L NN C t → C 2 = min i (NN 2) → C 3 = min i (NN 3) → (∀ c, c < NN 2 → rd a 8 c = nI (L 2 c)) → (∀ c, c < NN 3 → rd a 9 c = nI (L 3 c)) → SameO h a m t → ∃ (T : Nat) (a' m' : Hp), f_X6_putAskedInOrder_47 (nI t) (nI (NN 2)) (nI (NN 3)) (nI i) a = rtn (some (.int (nI T))) a' ∧ f_X7_sorts_80 1 m = rtn none m' ∧ T ≤ 60 ∧ SameO h a' m' T ∧ rd m' 227 52 = nI T ∧ Fr PSm h m' ∧ Fr POm m m' ∧ rdL m' = rdL m ∧ Fr P7 a a' ∧ rdL a' = rdL a := by
  have hO := O.2
  -- the last look
  have stop : ∀ (i t : Nat) (C : Nat → Nat) (a m : Hp), i ≤ 60 → NN 2 ≤ i → NN 3 ≤ i → MO h m L NN C t → C 2 = min i (NN 2) → C 3 = min i (NN 3) → SameO h a m t → ∃ (T : Nat) (a' m' : Hp), f_X6_putAskedInOrder_47 (nI t) (nI (NN 2)) (nI (NN 3)) (nI i) a = rtn (some (.int (nI T))) a' ∧ f_X7_sorts_80 1 m = rtn none m' ∧ T ≤ 60 ∧ SameO h a' m' T ∧ rd m' 227 52 = nI T ∧ Fr PSm h m' ∧ Fr POm m m' ∧ rdL m' = rdL m ∧ Fr P7 a a' ∧ rdL a' = rdL a := by
    intro i t C a m hi h2 h3 M c2 c3 E
    refine ⟨t, a, m, idle_l (by omega) (by omega) (60 - i) i (by omega) h2 h3, ?_, sum_le O M, E, M.2.2.1, M.1, Fr.refl, rfl, Fr.refl, rfl⟩
    rcases orders_s H O M (show 2 < 4 by decide) with ⟨q1, -⟩ | ⟨-, q2⟩
    · omega
    · rcases orders_s H O M (show 3 < 4 by decide) with ⟨r1, -⟩ | ⟨-, r2⟩
      · omega
      · have q2 : F_X7_orders [.ref 227, .int 2] m = rtn (some (.int 0)) m := q2
        have r2 : F_X7_orders [.ref 227, .int 3] m = rtn (some (.int 0)) m := r2
        rw [e_X7_sorts_80, if_neg one_ne, q2, bI_r, r2, bI_r, if_pos rfl, if_pos rfl, e_X7_sorts_107, e_X7_sorts_80, if_pos rfl]
  intro d
  induction d with
  | zero =>
    intro i t C a m h2 h3 h60 M c2 c3 r8 r9 E
    exact stop i t C a m (by omega) (by omega) (by omega) M c2 c3 E
  | succ d ih =>
    intro i t C a m h2 h3 h60 M c2 c3 r8 r9 E
    by_cases done : NN 2 ≤ i ∧ NN 3 ≤ i
    · exact stop i t C a m (by omega) done.1 done.2 M c2 c3 E
    · obtain ⟨b1, t1, C1, m1, a1, p1, p2, p3, p4, p5, p6, p7, p8, p9, p10, p11, p12⟩ := half_s (i := i) (s := 2) (row := 8) H O M (by decide) (by decide) c2 r8 E
      obtain ⟨b2, t2, C2, m2, a2, q1, q2, q3, q4, q5, q6, q7, q8, q9, q10, q11, q12⟩ := half_s (i := i) (s := 3) (row := 9) (a := a1) H O p2 (by decide) (by decide) (by rw [p4 3 (by decide)]; exact c3) (fun c hc => by rw [p11 _ _ (show ¬ ((9 : Nat) = 7) by decide)]; exact r9 c hc) p8
      obtain ⟨T, a', m', w1, w2, w3, w4, w5, w6, w7, w8, w9, w10⟩ := ih (i + 1) t2 C2 a2 m2 (by omega) (by omega) (by omega) q2 (by rw [q4 2 (by decide)]; exact p3) q3 (fun c hc => by rw [q11 _ _ (show ¬ ((8 : Nat) = 7) by decide), p11 _ _ (show ¬ ((8 : Nat) = 7) by decide)]; exact r8 c hc) (fun c hc => by rw [q11 _ _ (show ¬ ((9 : Nat) = 7) by decide), p11 _ _ (show ¬ ((9 : Nat) = 7) by decide)]; exact r9 c hc) q8
      refine ⟨T, a', m', ?_, ?_, w3, w4, w5, w6, fun p z hp => by rw [w7 p z hp, q9 p z hp, p9 p z hp], by rw [w8, q10, p10], fun p z hp => by rw [w9 p z hp, q11 p z hp, p11 p z hp], by rw [w10, q12, p12]⟩
      · have s1 : f_X6_putAskedInOrder_47 (nI t) (nI (NN 2)) (nI (NN 3)) (nI i) a = f_X6_putAskedInOrder_85 (nI t1) (nI (NN 2)) (nI (NN 3)) (nI i) a1 := by
          rw [e_X6_putAskedInOrder_47, if_pos (show nI i < 60 from nI_lt (a := i) (b := 60) (by omega) (by decide))]
          by_cases ci : i < NN 2
          · obtain ⟨z1, z2, z3⟩ := p6 ci
            rw [if_pos (nI_lt ci (by omega)), if_pos (show nI t < 60 from nI_lt (a := t) (b := 60) z1 (by decide)), inb_nI (by omega) (by decide), inb_nI z1 (by decide), gd_t, gd_t, nI_clamp (by omega), nI_clamp (by omega), nI_1, z2, z3]
          · obtain ⟨z1, z2⟩ := p7 ci
            rw [if_neg (nI_nlt (by omega) (by omega)), z1, z2]
        have s2 : f_X6_putAskedInOrder_85 (nI t1) (nI (NN 2)) (nI (NN 3)) (nI i) a1 = f_X6_putAskedInOrder_47 (nI t2) (nI (NN 2)) (nI (NN 3)) (nI (i + 1)) a2 := by
          rw [e_X6_putAskedInOrder_85]
          simp only [e_X6_putAskedInOrder_116, nI_1]
          by_cases ci : i < NN 3
          · obtain ⟨z1, z2, z3⟩ := q6 ci
            rw [if_pos (nI_lt ci (by omega)), if_pos (show nI t1 < 60 from nI_lt (a := t1) (b := 60) z1 (by decide)), inb_nI (by omega) (by decide), inb_nI z1 (by decide), gd_t, gd_t, nI_clamp (by omega), nI_clamp (by omega), z2, z3]
          · obtain ⟨z1, z2⟩ := q7 ci
            rw [if_neg (nI_nlt (by omega) (by omega)), z1, z2]
        rw [s1, s2]
        exact w1
      · have p1 : F_X7_orders [.ref 227, .int 2] m = rtn (some (.int (bi b1))) m1 := p1
        have q1 : F_X7_orders [.ref 227, .int 3] m1 = rtn (some (.int (bi b2))) m2 := q1
        have or : b1 = true ∨ b2 = true := by
          rw [p5, q5]
          omega
        rw [e_X7_sorts_80, if_neg one_ne, p1, bI_r, q1, bI_r, e_X7_sorts_102, e_X7_sorts_107, e_X7_sorts_107]
        cases b2 with
        | true =>
          rw [bi_t, if_neg one_ne]
          exact w2
        | false =>
          rcases or with z | z
          · rw [z, bi_f, if_pos rfl, bi_t, if_neg one_ne]
            exact w2
          · cases z
theorem cnt4 {f0 f1 f2 f3 : Nat → Bool} (h01 : ∀ k, f0 k = true → f1 k = false ∧ f2 k = false ∧ f3 k = false) (h12 : ∀ k, f1 k = true → f2 k = false ∧ f3 k = false) (h23 : ∀ k, f2 k = true → f3 k = false) : ∀ n, cnt f0 n + cnt f1 n + cnt f2 n + cnt f3 n ≤ n
  | 0 => Nat.le_refl _
  | n + 1 => by
    have ih := cnt4 h01 h12 h23 n
    unfold cnt
    cases c0 : f0 n with
    | true =>
      obtain ⟨z1, z2, z3⟩ := h01 n c0
      rw [z1, z2, z3]
      show _ + 1 + (_ + 0) + (_ + 0) + (_ + 0) ≤ _
      omega
    | false =>
      cases c1 : f1 n with
      | true =>
        obtain ⟨z2, z3⟩ := h12 n c1
        rw [z2, z3]
        show _ + 0 + (_ + 1) + (_ + 0) + (_ + 0) ≤ _
        omega
      | false =>
        cases c2 : f2 n with
        | true =>
          rw [h23 n c2]
          show _ + 0 + (_ + 0) + (_ + 1) + (_ + 0) ≤ _
          omega
        | false =>
          cases c3 : f3 n
          · show _ + 0 + (_ + 0) + (_ + 0) + (_ + 0) ≤ _
            omega
          · show _ + 0 + (_ + 0) + (_ + 0) + (_ + 1) ≤ _
            omega
theorem asks_dis {s s' : Int32} (hne : s ≠ s') (e : asks h s k = true) : asks h s' k = false := by
  unfold asks at *
  rw [Bool.and_eq_true, decide_eq_true_eq, decide_eq_true_eq] at e
  rw [decide_eq_false (show ¬ so10 h k = s' from fun z => hne (e.2.symm.trans z)), Bool.and_false]
theorem order_J (H : Inv h) (F : Fr POc h a) (h10 : ∀ j, j < nq h → rd a (47 + j) 10 = so10 h j) (Fm : Fr PSm h m) (h255 : ∀ j, j < nq h → rd m 255 j = so10 h j) (h52 : rd m 227 52 = 0) : ∃ (T : Nat) (a' m' : Hp), F_X6_putAskedInOrder [.ref 0] a = rtn (some (.int (nI T))) a' ∧ f_X7_sorts_52 0 m = rtn none m' ∧ T ≤ 60 ∧ SameO h a' m' T ∧ rd m' 227 52 = nI T ∧ Fr PSm h m' ∧ Fr POm m m' ∧ rdL m' = rdL m ∧ Fr POc h a' ∧ (∀ j, j < nq h → rd a' (47 + j) 10 = so10 h j) ∧ rdL a' = rdL a := by
  have h60 := H.2.2.2.2.2.2.2.1.q.1
  have c4 := cnt4 (f0 := asks h (nI 0)) (f1 := asks h (nI 1)) (f2 := asks h (nI 2)) (f3 := asks h (nI 3)) (fun k e => ⟨asks_dis (by decide) e, asks_dis (by decide) e, asks_dis (by decide) e⟩) (fun k e => ⟨asks_dis (by decide) e, asks_dis (by decide) e⟩) (fun k e => asks_dis (by decide) e) (nq h)
  have e0 : ∀ s l, OL h s 0 0 l := fun s l => ⟨fun c hc => by omega, fun c d _ hd => by omega, fun k hk => by omega, rfl⟩
  have keep : ∀ {row st : Nat} {x y : Hp}, (row = 7 ∨ row = 8 ∨ row = 9) → Fr (PRow row st) x y → (∀ j, j < nq h → rd x (47 + j) 10 = so10 h j) → ∀ j, j < nq h → rd y (47 + j) 10 = so10 h j := fun hr Fxy hx j hj => by
    rw [Fxy _ _ (fun z => by have := z.1; omega)]
    exact hx j hj
  obtain ⟨n0, l0, a0, p1, p2, p3, p4, p5⟩ := add_l (s := nI 0) (row := 7) (st := 0) H (Or.inl rfl) (by omega) (nq h) 0 0 (fun _ => 0) a (by omega) F (e0 _ _) (fun c hc => by omega) h10
  have F0 := poc_row F (Or.inl rfl) p4
  have t0 := keep (Or.inl rfl) p4 h10
  have en0 := p2.2.2.2
  obtain ⟨n1, l1, a1, q1, q2, q3, q4, q5⟩ := add_l (s := nI 1) (row := 7) (st := n0) H (Or.inl rfl) (by omega) (nq h) 0 0 (fun _ => 0) a0 (by omega) F0 (e0 _ _) (fun c hc => by omega) t0
  have F1 := poc_row F0 (Or.inl rfl) q4
  have t1 := keep (Or.inl rfl) q4 t0
  have en1 := q2.2.2.2
  obtain ⟨n2, l2, a2, u1, u2, u3, u4, u5⟩ := add_l (s := nI 2) (row := 8) (st := 0) H (Or.inr (Or.inl rfl)) (by omega) (nq h) 0 0 (fun _ => 0) a1 (by omega) F1 (e0 _ _) (fun c hc => by omega) t1
  have F2 := poc_row F1 (Or.inr (Or.inl rfl)) u4
  have t2 := keep (Or.inr (Or.inl rfl)) u4 t1
  have en2 := u2.2.2.2
  obtain ⟨n3, l3, a3, v1, v2, v3, v4, v5⟩ := add_l (s := nI 3) (row := 9) (st := 0) H (Or.inr (Or.inr rfl)) (by omega) (nq h) 0 0 (fun _ => 0) a2 (by omega) F2 (e0 _ _) (fun c hc => by omega) t2
  have F3 := poc_row F2 (Or.inr (Or.inr rfl)) v4
  have t3 := keep (Or.inr (Or.inr rfl)) v4 t2
  have en3 := v2.2.2.2
  obtain ⟨L, hL0, hL1, hL2, hL3⟩ : ∃ L : Nat → Nat → Nat, L 0 = l0 ∧ L 1 = l1 ∧ L 2 = l2 ∧ L 3 = l3 := ⟨fun s => if s = 0 then l0 else if s = 1 then l1 else if s = 2 then l2 else l3, rfl, rfl, rfl, rfl⟩
  obtain ⟨NN, hN0, hN1, hN2, hN3⟩ : ∃ NN : Nat → Nat, NN 0 = n0 ∧ NN 1 = n1 ∧ NN 2 = n2 ∧ NN 3 = n3 := ⟨fun s => if s = 0 then n0 else if s = 1 then n1 else if s = 2 then n2 else n3, rfl, rfl, rfl, rfl⟩
  have O : AllO h L NN := by
    refine ⟨fun s hs => ?_, by omega⟩
    have : s = 0 ∨ s = 1 ∨ s = 2 ∨ s = 3 := by omega
    rcases this with rfl | rfl | rfl | rfl
    · rw [hL0, hN0]; exact p2
    · rw [hL1, hN1]; exact q2
    · rw [hL2, hN2]; exact u2
    · rw [hL3, hN3]; exact v2
  -- the reference's two first sorts
  have M0 : MO h m L NN (fun _ => 0) 0 := ⟨Fm, h255, h52, rfl, fun s _ => Nat.zero_le _, fun s _ c _ => ⟨fun ⟨j, hj, _⟩ => absurd hj (Nat.not_lt_zero j), fun z => absurd z (Nat.not_lt_zero c)⟩⟩
  obtain ⟨m1, C1, w1, w2, w3, w4, w5, w6, w7, w8⟩ := sel_l H O (show 0 < 4 by decide) (NN 0) m (fun _ => 0) 0 (by omega) M0
  obtain ⟨m2, C2, x1, x2, x3, x4, x5, x6, x7, x8⟩ := sel_l H O (show 1 < 4 by decide) (NN 1) m1 C1 _ (by rw [w4 1 (by decide)]; omega) w2
  have c12 : C1 1 = 0 := w4 1 (by decide)
  rw [c12] at x6
  have E2 : SameO h a3 m2 (0 + NN 0 + NN 1) := by
    intro j hj
    by_cases c : j < NN 0
    · refine ⟨l0 j, ?_, ?_, ?_⟩
      · exact (p2.1 j (by omega)).1
      · rw [v4 _ _ (fun z => absurd z.1 (by decide)), u4 _ _ (fun z => absurd z.1 (by decide)), q4 _ _ (fun z => by have := z.2; omega)]
        have := p3 j (by omega)
        rw [Nat.zero_add] at this
        exact this
      · rw [x5 j (by omega)]
        have := w6 j (Nat.zero_le _) c
        rw [show 0 + (j - 0) = j by omega, hL0] at this
        exact this
    · have hc : j - NN 0 < NN 1 := by omega
      refine ⟨l1 (j - NN 0), ?_, ?_, ?_⟩
      · exact (q2.1 _ (by omega)).1
      · rw [v4 _ _ (fun z => absurd z.1 (by decide)), u4 _ _ (fun z => absurd z.1 (by decide))]
        have := q3 (j - NN 0) (by omega)
        rw [show n0 + (j - NN 0) = j by omega] at this
        exact this
      · have := x6 (j - NN 0) (Nat.zero_le _) hc
        rw [show 0 + NN 0 + (j - NN 0 - 0) = j by omega, hL1] at this
        exact this
  obtain ⟨T, a', m', y1, y2, y3, y4, y5, y6, y7, y8, y9, y10⟩ := inter_l H O 60 0 (0 + NN 0 + NN 1) C2 a3 m2 (by omega) (by omega) (by omega) x2 (by rw [x4 2 (by decide), w4 2 (by decide)]; omega) (by rw [x4 3 (by decide), w4 3 (by decide)]; omega) (fun c hc => by
    rw [v4 _ _ (fun z => absurd z.1 (by decide)), hL2]
    have := u3 c (by omega)
    rw [Nat.zero_add] at this
    exact this) (fun c hc => by
    rw [hL3]
    have := v3 c (by omega)
    rw [Nat.zero_add] at this
    exact this) E2
  refine ⟨T, a', m', ?_, ?_, y3, y4, y5, y6, fun p z hp => by rw [y7 p z hp, x7 p z hp, w7 p z hp], by rw [y8, x8, w8], fun p z hp => ?_, fun j hj => ?_, by rw [y10, v5, u5, q5, p5]⟩
  · have p1 : f_X6_addAskedOf_6 0 7 0 0 0 a = rtn (some (.int (nI (0 + n0)))) a0 := p1
    have q1 : f_X6_addAskedOf_6 1 7 (nI n0) (nI n0) 0 a0 = rtn (some (.int (nI (n0 + n1)))) a1 := q1
    have u1 : f_X6_addAskedOf_6 2 8 0 0 0 a1 = rtn (some (.int (nI (0 + n2)))) a2 := u1
    have v1 : f_X6_addAskedOf_6 3 9 0 0 0 a2 = rtn (some (.int (nI (0 + n3)))) a3 := v1
    rw [Nat.zero_add] at p1 u1 v1
    rw [hN0, hN1, hN2, hN3, Nat.zero_add] at y1
    have y1 : f_X6_putAskedInOrder_47 (nI (n0 + n1)) (nI n2) (nI n3) 0 a3 = rtn (some (.int (nI T))) a' := y1
    rw [e_X6_putAskedInOrder_0, e_X6_addAskedOf_0, p1, bI_r, e_X6_addAskedOf_0, q1, bI_r, e_X6_addAskedOf_0, u1, bI_r, e_X6_addAskedOf_0, v1, bI_r]
    exact y1
  · have w1 : f_X7_sorts_59 0 1 m = f_X7_sorts_52 1 m1 := w1
    have x1 : f_X7_sorts_59 1 1 m1 = f_X7_sorts_52 2 m2 := x1
    rw [e_X7_sorts_52, if_neg (by decide), w1, e_X7_sorts_52, if_neg (by decide), x1, e_X7_sorts_52, if_pos (by decide)]
    exact y2
  · have z7 : ¬ P7 p z := fun q => hp (by unfold P7 at q; unfold POc; omega)
    rw [y9 p z z7]
    exact F3 p z hp
  · rw [y9 _ _ (show ¬ (47 + j = 7) by omega)]
    exact t3 j hj
end ORD
