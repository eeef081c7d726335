/-! those that are asked, put into a row -/
def asks (h : Hp) (s : Int32) (k : Nat) : Bool := decide (rd h (47 + k) 9 = 0) && decide (rd h (47 + k) 10 = s)
def P10 (a k : Nat) : Prop := 47 ≤ a ∧ a < 107 ∧ k = 10
def P789 (a _k : Nat) : Prop := 7 ≤ a ∧ a ≤ 9
def PRow (row st p q : Nat) : Prop := p = row ∧ st ≤ q
theorem cnt_4 {f g p q : Nat → Bool} : ∀ n, (∀ i, i < n → (f i = true → g i = false ∧ p i = false ∧ q i = false) ∧ (g i = true → p i = false ∧ q i = false) ∧ (p i = true → q i = false)) → cnt f n + cnt g n + cnt p n + cnt q n ≤ n
  | 0, _ => Nat.le_refl _
  | n + 1, h => by
    have ih := cnt_4 n fun i hi => h i (by omega)
    obtain ⟨h1, h2, h3⟩ := h n (by omega)
    rw [cnt_s, cnt_s, cnt_s, cnt_s]
    cases e1 : f n with
    | true =>
      obtain ⟨e2, e3, e4⟩ := h1 e1
      rw [e2, e3, e4]
      simp
      omega
    | false =>
      cases e2 : g n with
      | true =>
        obtain ⟨e3, e4⟩ := h2 e2
        rw [e3, e4]
        simp
        omega
      | false =>
        cases e3 : p n with
        | true =>
          rw [h3 e3]
          simp
          omega
        | false => cases q n <;> simp <;> omega
theorem cnt_last {f : Nat → Bool} {n : Nat} : ∀ d, cnt f (n + d) = cnt f n → ∀ i, n ≤ i → i < n + d → f i = false
  | 0, _, i, h1, h2 => by omega
  | d + 1, e, i, h1, h2 => by
    have e2 : cnt f (n + d + 1) = cnt f n := e
    have m1 := cnt_mono (p := f) (j := n) d
    rw [cnt_s] at e2
    cases e3 : f (n + d) with
    | true =>
      rw [e3] at e2
      simp at e2
      omega
    | false =>
      rw [e3] at e2
      by_cases c : i = n + d
      · rw [c]
        exact e3
      · exact cnt_last d e2 i h1 (by omega)
section ORDER
variable {h a : Hp} {s : Int32} {row st n k q W : Nat} {l : Nat → Nat}
theorem Inv.ten {g : Hp} (I : Inv h) (F : Fr P10 h g) : Inv g := by
  obtain ⟨⟨b1, b2, b3, b4, b5, b6, b7, b8⟩, b9⟩ := I
  have h1 := b1.q.1
  have h2 := b1.s.1
  have h3 := b1.r.1
  have q : ∀ a k, ¬ (47 ≤ a ∧ a < 107 ∧ k = 10) → rd g a k = rd h a k := fun a k z => F a k z
  exact ⟨⟨b1.F (fun k _ _ => q _ _ (by omega)) (fun i hi => q _ _ (by omega)), b2.F (fun a k _ _ => q _ _ (by omega)), b3.F (q _ _ (by omega)) (fun i k _ _ _ => q _ _ (by omega)), b4.F (q _ _ (by omega)) (q _ _ (by omega)) (fun i _ => q _ _ (by omega)) (fun i _ _ => ⟨q _ _ (by omega), q _ _ (by omega)⟩), b5.F (q _ _ (by omega)) (q _ _ (by omega)) (fun i k _ _ => q _ _ (by omega)), b6.F (q _ _ (by omega)) (q _ _ (by omega)) (fun i k _ _ => q _ _ (by omega)) (fun i _ => q _ _ (by omega)), b7.F (q _ _ (by omega)) (fun i k _ _ => q _ _ (by omega)), b8.F (q _ _ (by omega)) (q _ _ (by omega)) (fun p _ => q _ _ (by omega))⟩, b9.F (q _ _ (by omega)) (fun i _ => q _ _ (by omega)) (fun i _ _ => by rw [q _ _ (by omega)])⟩
theorem sortAll_l : ∀ (n k : Nat) (a : Hp), k + n = nq a → Inv a → ∃ g, f_X6_sortAllAsked_2 (nI k) a = rtn none g ∧ Fr (fun b j => 47 + k ≤ b ∧ b < 107 ∧ j = 10) a g ∧ ∀ i, k ≤ i → i < nq a → rd a (47 + i) 9 = 0 → rd g (47 + i) 10 = 0 ∨ rd g (47 + i) 10 = 1 ∨ rd g (47 + i) 10 = 2 ∨ rd g (47 + i) 10 = 3
  | 0, k, a, e, I => by
    have h60 := I.1.1.q.1
    refine ⟨a, ?_, Fr.refl, fun i h1 h2 => by omega⟩
    rw [e_X6_sortAllAsked_2, I.1.1.q.2, if_neg (nI_nlt (by omega) (by omega))]
  | n + 1, k, a, e, I => by
    have h60 := I.1.1.q.1
    rw [e_X6_sortAllAsked_2, I.1.1.q.2, if_pos (nI_lt (by omega) (by omega)), requestAt_s I.1.1 (by omega), bR_r, (okc_rq k (by omega)).1]
    simp only [gd_t]
    by_cases c : rd a (47 + k) 9 = 0
    · rw [if_pos c, sortNow_s I.1.1 I.1.2.2.1 I.1.2.2.2.2.2.2.1 I.1.2.2.2.2.1 (by omega), bI_r, e_X6_sortAllAsked_32, nI_1]
      have F1 : Fr P10 a (wr a (47 + k) 10 (srt a k)) := Fr.refl.w ⟨by omega, by omega, rfl⟩
      have em : nq (wr a (47 + k) 10 (srt a k)) = nq a := by unfold nq; rw [rd_ne (by omega)]
      obtain ⟨g, q1, q2, q3⟩ := sortAll_l n (k + 1) _ (by omega) (I.ten F1)
      refine ⟨g, q1, ?_, fun i h1 h2 h3 => ?_⟩
      · exact Fr.trans (Fr.w (P := fun b j => 47 + k ≤ b ∧ b < 107 ∧ j = 10) Fr.refl ⟨by omega, by omega, rfl⟩) (q2.up fun b j z => ⟨by omega, z.2⟩)
      · by_cases ci : i = k
        · subst ci
          rw [q2 _ _ (by omega), rd_eqw]
          exact srt_4
        · exact q3 i (by omega) (by omega) (by rw [rd_nk (by decide)]; exact h3)
    · rw [if_neg c, e_X6_sortAllAsked_32, nI_1]
      obtain ⟨g, q1, q2, q3⟩ := sortAll_l n (k + 1) a (by omega) I
      refine ⟨g, q1, q2.up fun b j z => ⟨by omega, z.2⟩, fun i h1 h2 h3 => ?_⟩
      by_cases ci : i = k
      · subst ci
        exact absurd h3 c
      · exact q3 i (by omega) h2 h3
theorem sortAll_s (I : Inv h) : ∃ g, F_X6_sortAllAsked [.ref 0] h = rtn none g ∧ Fr P10 h g ∧ Inv g ∧ ∀ i, i < nq h → rd h (47 + i) 9 = 0 → rd g (47 + i) 10 = 0 ∨ rd g (47 + i) 10 = 1 ∨ rd g (47 + i) 10 = 2 ∨ rd g (47 + i) 10 = 3 := by
  obtain ⟨g, q1, q2, q3⟩ := sortAll_l (nq h) 0 h (by omega) I
  have F : Fr P10 h g := q2.up fun b j z => ⟨by omega, z.2⟩
  refine ⟨g, ?_, F, I.ten F, fun i hi => q3 i (Nat.zero_le _) hi⟩
  rw [e_X6_sortAllAsked_0]
  exact q1
theorem row_k (hr : row = 7 ∨ row = 8 ∨ row = 9) : memb (SKc row) [10, 11, 12, 13, 14, 15, 16, 17, 18] = true ∧ memb (SKc row) [10, 18] = true ∧ Nat.beq (SKc row) 10 = true ∧ SKn row = 60 ∧ alen SKn a row = 60 := by
  have ha : ∀ r, Nat.beq r 1000 = false → SKn r = 60 → alen SKn a r = 60 := fun r h1 h2 => by
    unfold alen
    show cond (Nat.beq r 1000) _ (SKn r) = 60
    rw [h1, h2]
    rfl
  rcases hr with rfl | rfl | rfl
  · exact ⟨by decide, by decide, by decide, by decide, ha 7 (by decide) (by decide)⟩
  · exact ⟨by decide, by decide, by decide, by decide, ha 8 (by decide) (by decide)⟩
  · exact ⟨by decide, by decide, by decide, by decide, ha 9 (by decide) (by decide)⟩
theorem weeks_s (ok : okc k 7 = true) (S : SLT7 h k) : ∃ w : Nat, w ≤ 20 ∧ F_X5_weeks [.ref k] h = rtn (some (.int (nI w))) h := by
  obtain ⟨f, l, hfl, hl, ef, el⟩ := irg_fl S.2.2.2.2.1 S.2.2.2.2.2.1
  refine ⟨l - f + 1, by omega, ?_⟩
  rw [e_X5_weeks_0, ok, gd_t, gd_t, ef, el, pk_sub hfl, nI_1]
theorem ins_l (V : VN h) (Q : VQ h) (hr : row = 7 ∨ row = 8 ∨ row = 9) (hk : k < nq h) (hn : st + n < 60) (hl : ∀ c, c < n → l c < nq h) {W : Int32} : ∀ (q : Nat) (a : Hp), q ≤ n → Fr P789 h a → (∀ c, c < q → rd a row (st + c) = nI (l c)) → (∀ c, q ≤ c → c < n → rd a row (st + c + 1) = nI (l c)) → ∃ a' q', q' ≤ n ∧ f_X6_insertByWeeks_14 (nI k) row (nI st) W (nI (st + q)) a = rtn none a' ∧ (∀ c, c < q' → rd a' row (st + c) = nI (l c)) ∧ rd a' row (st + q') = nI k ∧ (∀ c, q' ≤ c → c < n → rd a' row (st + c + 1) = nI (l c)) ∧ Fr (PRow row st) a a' := by
  have h60 := V.q.1
  have put : ∀ (q : Nat) (a : Hp), q ≤ n → (∀ c, c < q → rd a row (st + c) = nI (l c)) → (∀ c, q ≤ c → c < n → rd a row (st + c + 1) = nI (l c)) → ∃ a' q', q' ≤ n ∧ f_X6_insertByWeeks_61 (nI k) row (nI (st + q)) a = rtn none a' ∧ (∀ c, c < q' → rd a' row (st + c) = nI (l c)) ∧ rd a' row (st + q') = nI k ∧ (∀ c, q' ≤ c → c < n → rd a' row (st + c + 1) = nI (l c)) ∧ Fr (PRow row st) a a' := by
    intro q a hq i1 i2
    obtain ⟨r1, r2, r3, r4, r5⟩ := row_k (a := a) hr
    refine ⟨wr a row (st + q) (nI k), q, hq, ?_, fun c hc => ?_, rd_eqw, fun c h1 h2 => ?_, Fr.refl.w ⟨rfl, by omega⟩⟩
    · rw [e_X6_insertByWeeks_61, if_neg (nI_pos (by omega)), r1, gd_t, r5, if_pos (show nI (st + q) < Int32.ofNat 60 from nI_lt (a := st + q) (b := 60) (by omega) (by decide)), r3, r4, inb_nI (by omega) (by decide), nI_clamp (by omega)]
      rfl
    · rw [rd_nk (by omega)]
      exact i1 c hc
    · rw [rd_nk (by omega)]
      exact i2 c h1 h2
  intro q
  induction q with
  | zero =>
    intro a hq F i1 i2
    obtain ⟨a', q', s1, s2, s3⟩ := put 0 a (Nat.zero_le _) i1 i2
    refine ⟨a', q', s1, ?_, s3⟩
    rw [e_X6_insertByWeeks_14, if_neg (show ¬ nI st < nI (st + 0) from nI_nlt (by omega) (by omega))]
    exact s2
  | succ q ih =>
    intro a hq F i1 i2
    obtain ⟨r1, r2, r3, r4, r5⟩ := row_k (a := a) hr
    have e10 : rd a 0 10 = nI (nq h) := by
      rw [F 0 10 (by unfold P789; omega)]
      exact V.q.2
    have hlq := hl q (by omega)
    have sl : SLT7 a (47 + l q) := (Q (l q) hlq).1.F fun z _ => F _ _ (by unfold P789; omega)
    obtain ⟨w, -, ew⟩ := weeks_s (okc_rq (l q) (by omega)).2 sl
    have ex : nI (st + (q + 1)) - 1 = nI (st + q) := nI_pred (st + q)
    rw [e_X6_insertByWeeks_14, if_pos (nI_lt (by omega) (by omega)), r1, gd_t, r5, if_pos (show nI (st + (q + 1)) < Int32.ofNat 60 from nI_lt (a := st + (q + 1)) (b := 60) (by omega) (by decide)), ex, r2, inb_nI (j := st + q) (n := 60) (by omega) (by decide), nI_clamp (n := st + q) (by omega), i1 q (by omega)]
    simp only [Bool.and_self, gd_t]
    rw [requestAt_n e10 h60 hlq, bR_r, (okc_rq _ (by omega)).1, gd_t, ew, bI_r]
    by_cases c : nI w < W
    · rw [if_pos c, r5, inb_nI (j := st + q) (n := 60) (by omega) (by decide), r3, r4, inb_nI (j := st + (q + 1)) (n := 60) (by omega) (by decide), nI_clamp (n := st + (q + 1)) (by omega), i1 q (by omega), show nI (st + (q + 1)) + (-1) = nI (st + q) from pk_m1 (st + q)]
      simp only [Bool.and_self, gd_t]
      have F2 : Fr P789 h (wr a row (st + (q + 1)) (nI (l q))) := F.w (by unfold P789; omega)
      obtain ⟨a', q', s1, s2, s3, s4, s5, s6⟩ := ih _ (by omega) F2 (fun c hc => by rw [rd_nk (by omega)]; exact i1 c (by omega)) (fun c h1 h2 => by
        by_cases cc : c = q
        · subst cc
          exact rd_eqw
        · rw [rd_nk (by omega)]
          exact i2 c (by omega) h2)
      exact ⟨a', q', s1, s2, s3, s4, s5, Fr.trans (Fr.w (P := PRow row st) Fr.refl ⟨rfl, by omega⟩) s6⟩
    · rw [if_neg c]
      exact put (q + 1) a hq i1 i2
/-- one more in the row -/
theorem ins_s (V : VN h) (Q : VQ h) (hr : row = 7 ∨ row = 8 ∨ row = 9) (hk : k < nq h) (hn : st + n < 60) (hl : ∀ c, c < n → l c < nq h) (F : Fr P789 h a) (i1 : ∀ c, c < n → rd a row (st + c) = nI (l c)) : ∃ (a' : Hp) (l2 : Nat → Nat), F_X6_insertByWeeks [.ref 0, .int (nI k), .ref row, .int (nI st), .int (nI (st + n))] a = rtn none a' ∧ (∀ c, c < n + 1 → rd a' row (st + c) = nI (l2 c) ∧ l2 c < nq h) ∧ (∃ c, c < n + 1 ∧ l2 c = k) ∧ (∀ d, d < n → ∃ c, c < n + 1 ∧ l2 c = l d) ∧ Fr (PRow row st) a a' := by
  have h60 := V.q.1
  have e10 : rd a 0 10 = nI (nq h) := by
    rw [F 0 10 (by unfold P789; omega)]
    exact V.q.2
  have sl : SLT7 a (47 + k) := (Q k hk).1.F fun z _ => F _ _ (by unfold P789; omega)
  obtain ⟨w, -, ew⟩ := weeks_s (okc_rq k (by omega)).2 sl
  obtain ⟨a', q', s1, s2, s3, s4, s5, s6⟩ := ins_l (W := nI w) V Q hr hk hn hl n a (Nat.le_refl _) F i1 (fun c h1 h2 => by omega)
  refine ⟨a', fun c => if c < q' then l c else if c = q' then k else l (c - 1), ?_, fun c hc => ?_, ⟨q', by omega, ?_⟩, fun d hd => ?_, s6⟩
  · rw [e_X6_insertByWeeks_0, requestAt_n e10 h60 hk, bR_r, (okc_rq _ (by omega)).1, gd_t, ew, bI_r]
    exact s2
  · show rd a' row (st + c) = nI (if c < q' then l c else if c = q' then k else l (c - 1)) ∧ (if c < q' then l c else if c = q' then k else l (c - 1)) < nq h
    by_cases c1 : c < q'
    · rw [if_pos c1]
      exact ⟨s3 c c1, hl c (by omega)⟩
    · rw [if_neg c1]
      by_cases c2 : c = q'
      · rw [if_pos c2, c2]
        exact ⟨s4, hk⟩
      · rw [if_neg c2]
        have z := s5 (c - 1) (by omega) (by omega)
        rw [show st + (c - 1) + 1 = st + c by omega] at z
        exact ⟨z, hl _ (by omega)⟩
  · show (if q' < q' then l q' else if q' = q' then k else l (q' - 1)) = k
    rw [if_neg (by omega), if_pos rfl]
  · by_cases c1 : d < q'
    · exact ⟨d, by omega, if_pos c1⟩
    · refine ⟨d + 1, by omega, ?_⟩
      show (if d + 1 < q' then l (d + 1) else if d + 1 = q' then k else l (d + 1 - 1)) = l d
      rw [if_neg (by omega), if_neg (by omega), Nat.add_sub_cancel]
theorem add_l (V : VN h) (Q : VQ h) (hr : row = 7 ∨ row = 8 ∨ row = 9) (hst : st + cnt (asks h s) (nq h) ≤ 60) : ∀ (n u : Nat) (a : Hp) (l : Nat → Nat), u + n = nq h → Fr P789 h a → (∀ c, c < cnt (asks h s) u → rd a row (st + c) = nI (l c) ∧ l c < nq h) → (∀ k, k < u → asks h s k = true → ∃ c, c < cnt (asks h s) u ∧ l c = k) → ∃ (a' : Hp) (l2 : Nat → Nat), f_X6_addAskedOf_6 s row (nI st) (nI (st + cnt (asks h s) u)) (nI u) a = rtn (some (.int (nI (st + cnt (asks h s) (nq h))))) a' ∧ (∀ c, c < cnt (asks h s) (nq h) → rd a' row (st + c) = nI (l2 c) ∧ l2 c < nq h) ∧ (∀ k, k < nq h → asks h s k = true → ∃ c, c < cnt (asks h s) (nq h) ∧ l2 c = k) ∧ Fr (PRow row st) a a'
  | 0, u, a, l, e, F, i1, i2 => by
    have h60 := V.q.1
    have eu : u = nq h := by omega
    subst eu
    refine ⟨a, l, ?_, i1, i2, Fr.refl⟩
    rw [e_X6_addAskedOf_6, F 0 10 (by unfold P789; omega), V.q.2, if_neg (nI_nlt (by omega) (by omega))]
  | n + 1, u, a, l, e, F, i1, i2 => by
    have h60 := V.q.1
    obtain ⟨r1, r2, r3, r4, r5⟩ := row_k (a := a) hr
    have e10 : rd a 0 10 = nI (nq h) := by
      rw [F 0 10 (by unfold P789; omega)]
      exact V.q.2
    have hmo := cnt_mono (p := asks h s) (j := u) (nq h - u)
    rw [show u + (nq h - u) = nq h by omega] at hmo
    rw [e_X6_addAskedOf_6, e10, if_pos (nI_lt (by omega) (by omega)), r1, gd_t, r5]
    by_cases c0 : st + cnt (asks h s) u < 60
    · rw [if_pos (show nI (st + cnt (asks h s) u) < Int32.ofNat 60 from nI_lt (b := 60) c0 (by decide)), requestAt_n e10 h60 (by omega), bR_r, (okc_rq u (by omega)).1]
      simp only [gd_t]
      rw [F _ _ (by unfold P789; omega), F _ _ (by unfold P789; omega)]
      have skip : asks h s u = false → ∃ (a' : Hp) (l2 : Nat → Nat), f_X6_addAskedOf_60 s row (nI st) (nI (st + cnt (asks h s) u)) (nI u) a = rtn (some (.int (nI (st + cnt (asks h s) (nq h))))) a' ∧ (∀ c, c < cnt (asks h s) (nq h) → rd a' row (st + c) = nI (l2 c) ∧ l2 c < nq h) ∧ (∀ k, k < nq h → asks h s k = true → ∃ c, c < cnt (asks h s) (nq h) ∧ l2 c = k) ∧ Fr (PRow row st) a a' := by
        intro eA
        have ih := add_l V Q hr hst n (u + 1) a l (by omega) F
        rw [cnt_f eA] at ih
        rw [e_X6_addAskedOf_60, nI_1]
        refine ih i1 fun k hk hk2 => ?_
        by_cases ck : k = u
        · subst ck
          rw [eA] at hk2
          cases hk2
        · exact i2 k (by omega) hk2
      by_cases c1 : rd h (47 + u) 9 = 0
      · rw [if_pos c1]
        by_cases c2 : rd h (47 + u) 10 = s
        · have eA : asks h s u = true := by unfold asks; simp [c1, c2]
          rw [if_pos c2]
          obtain ⟨a1, l1, t1, t2, t3, t4, t5⟩ := ins_s (k := u) V Q hr (by omega) c0 (fun c hc => (i1 c hc).2) F (fun c hc => (i1 c hc).1)
          have F2 : Fr P789 h a1 := F.trans (t5.up fun b k z => by have := z.1; unfold P789; omega)
          have ih := add_l V Q hr hst n (u + 1) a1 l1 (by omega) F2
          rw [cnt_t eA] at ih
          rw [t1, bV_r, e_X6_addAskedOf_60, nI_1, nI_1]
          obtain ⟨a2, l2, p1, p2, p3, p4⟩ := ih t2 fun k hk hk2 => by
            by_cases ck : k = u
            · subst ck
              exact t3
            · obtain ⟨d, d1, d2⟩ := i2 k (by omega) hk2
              obtain ⟨c, c3, c4⟩ := t4 d d1
              exact ⟨c, c3, c4.trans d2⟩
          exact ⟨a2, l2, p1, p2, p3, t5.trans p4⟩
        · rw [if_neg c2]
          exact skip (by unfold asks; simp [c2])
      · rw [if_neg c1]
        exact skip (by unfold asks; simp [c1])
    · -- the row is full: none is left
      rw [if_neg (show ¬ nI (st + cnt (asks h s) u) < Int32.ofNat 60 from nI_nlt (b := 60) (by omega) (by omega))]
      have eC : cnt (asks h s) (nq h) = cnt (asks h s) u := by omega
      have no := cnt_last (f := asks h s) (n := u) (nq h - u) (by rw [show u + (nq h - u) = nq h by omega]; exact eC)
      rw [eC]
      refine ⟨a, l, rfl, i1, fun k hk hk2 => ?_, Fr.refl⟩
      by_cases ck : k < u
      · exact i2 k ck hk2
      · rw [no k (by omega) (by omega)] at hk2
        cases hk2
theorem add_s (V : VN h) (Q : VQ h) (hr : row = 7 ∨ row = 8 ∨ row = 9) (hst : st + cnt (asks h s) (nq h) ≤ 60) (F : Fr P789 h a) : ∃ (a' : Hp) (l2 : Nat → Nat), F_X6_addAskedOf [.ref 0, .int s, .ref row, .int (nI st)] a = rtn (some (.int (nI (st + cnt (asks h s) (nq h))))) a' ∧ (∀ c, c < cnt (asks h s) (nq h) → rd a' row (st + c) = nI (l2 c) ∧ l2 c < nq h) ∧ (∀ k, k < nq h → asks h s k = true → ∃ c, c < cnt (asks h s) (nq h) ∧ l2 c = k) ∧ Fr (PRow row st) a a' := by
  rw [e_X6_addAskedOf_0]
  exact add_l V Q hr hst (nq h) 0 a (fun _ => 0) (by omega) F (fun c hc => absurd hc (Nat.not_lt_zero _)) (fun k hk => absurd hk (Nat.not_lt_zero _))
theorem mix_l {n2 n3 N : Nat} {l2 l3 : Nat → Nat} (hN : N ≤ 60) (h2 : n2 ≤ 60) (h3 : n3 ≤ 60) (b2 : ∀ c, c < n2 → l2 c < N) (b3 : ∀ c, c < n3 → l3 c < N) : ∀ (n i m : Nat) (a : Hp), i + n = 60 → m + (n2 - i) + (n3 - i) ≤ 60 → (∀ p, p < m → ∃ y, y < N ∧ rd a 7 p = nI y) → (∀ c, c < n2 → rd a 8 c = nI (l2 c)) → (∀ c, c < n3 → rd a 9 c = nI (l3 c)) → ∃ m2 a2, f_X6_putAskedInOrder_47 (nI m) (nI n2) (nI n3) (nI i) a = rtn (some (.int (nI m2))) a2 ∧ m ≤ m2 ∧ m2 ≤ 60 ∧ Fr (PRow 7 m) a a2 ∧ (∀ p, p < m2 → ∃ y, y < N ∧ rd a2 7 p = nI y) ∧ (∀ c, i ≤ c → c < n2 → ∃ p, p < m2 ∧ rd a2 7 p = nI (l2 c)) ∧ (∀ c, i ≤ c → c < n3 → ∃ p, p < m2 ∧ rd a2 7 p = nI (l3 c))
  | 0, i, m, a, e, hm, i1, i2, i3 => by
    refine ⟨m, a, ?_, Nat.le_refl _, by omega, Fr.refl, i1, fun c q1 q2 => by omega, fun c q1 q2 => by omega⟩
    rw [e_X6_putAskedInOrder_47, if_neg (show ¬ nI i < 60 from nI_nlt (a := i) (b := 60) (by omega) (by omega))]
  | n + 1, i, m, a, e, hm, i1, i2, i3 => by
    rw [e_X6_putAskedInOrder_47, if_pos (show nI i < 60 from nI_lt (a := i) (b := 60) (by omega) (by decide))]
    -- the second of the two
    have go : ∀ (m1 : Nat) (b : Hp), m ≤ m1 → m1 + (n2 - (i + 1)) + (n3 - i) ≤ 60 → Fr (PRow 7 m) a b → (∀ p, p < m1 → ∃ y, y < N ∧ rd b 7 p = nI y) → (i < n2 → ∃ p, p < m1 ∧ rd b 7 p = nI (l2 i)) → ∃ m2 a2, f_X6_putAskedInOrder_85 (nI m1) (nI n2) (nI n3) (nI i) b = rtn (some (.int (nI m2))) a2 ∧ m ≤ m2 ∧ m2 ≤ 60 ∧ Fr (PRow 7 m) a a2 ∧ (∀ p, p < m2 → ∃ y, y < N ∧ rd a2 7 p = nI y) ∧ (∀ c, i ≤ c → c < n2 → ∃ p, p < m2 ∧ rd a2 7 p = nI (l2 c)) ∧ (∀ c, i ≤ c → c < n3 → ∃ p, p < m2 ∧ rd a2 7 p = nI (l3 c)) := by
      intro m1 b hm1 hm2 F j1 j2
      have fin : ∀ (m3 : Nat) (d : Hp), m1 ≤ m3 → m3 + (n2 - (i + 1)) + (n3 - (i + 1)) ≤ 60 → Fr (PRow 7 m) a d → (∀ p, p < m3 → ∃ y, y < N ∧ rd d 7 p = nI y) → (i < n2 → ∃ p, p < m3 ∧ rd d 7 p = nI (l2 i)) → (i < n3 → ∃ p, p < m3 ∧ rd d 7 p = nI (l3 i)) → ∃ m2 a2, f_X6_putAskedInOrder_116 (nI m3) (nI n2) (nI n3) (nI i) d = rtn (some (.int (nI m2))) a2 ∧ m ≤ m2 ∧ m2 ≤ 60 ∧ Fr (PRow 7 m) a a2 ∧ (∀ p, p < m2 → ∃ y, y < N ∧ rd a2 7 p = nI y) ∧ (∀ c, i ≤ c → c < n2 → ∃ p, p < m2 ∧ rd a2 7 p = nI (l2 c)) ∧ (∀ c, i ≤ c → c < n3 → ∃ p, p < m2 ∧ rd a2 7 p = nI (l3 c)) := by
        intro m3 d hm3 hm4 Fd k1 k2 k3
        obtain ⟨m2, a2, q1, q2, q3, q4, q5, q6, q7⟩ := mix_l hN h2 h3 b2 b3 n (i + 1) m3 d (by omega) hm4 k1 (fun c hc => by rw [Fd _ _ (by unfold PRow; omega)]; exact i2 c hc) (fun c hc => by rw [Fd _ _ (by unfold PRow; omega)]; exact i3 c hc)
        rw [e_X6_putAskedInOrder_116, nI_1]
        refine ⟨m2, a2, q1, by omega, q3, Fd.trans (q4.up fun x y z => ⟨z.1, by have := z.2; omega⟩), q5, fun c c1 c2 => ?_, fun c c1 c2 => ?_⟩
        · by_cases cc : c = i
          · subst cc
            obtain ⟨p, p1, p2⟩ := k2 c2
            exact ⟨p, by omega, by rw [q4 _ _ (by unfold PRow; omega)]; exact p2⟩
          · exact q6 c (by omega) c2
        · by_cases cc : c = i
          · subst cc
            obtain ⟨p, p1, p2⟩ := k3 c2
            exact ⟨p, by omega, by rw [q4 _ _ (by unfold PRow; omega)]; exact p2⟩
          · exact q7 c (by omega) c2
      rw [e_X6_putAskedInOrder_85]
      by_cases c : i < n3
      · rw [if_pos (nI_lt c (by omega)), if_pos (show nI m1 < 60 from nI_lt (b := 60) (by omega) (by decide)), inb_nI (j := i) (n := 60) (by omega) (by decide), inb_nI (j := m1) (n := 60) (by omega) (by decide), gd_t, gd_t, nI_clamp (n := i) (by omega), nI_clamp (n := m1) (by omega), nI_1, F _ _ (by unfold PRow; omega), i3 i c]
        refine fin (m1 + 1) _ (by omega) (by omega) (F.w ⟨rfl, by omega⟩) (fun p hp => ?_) (fun z => ?_) (fun _ => ⟨m1, by omega, rd_eqw⟩)
        · by_cases cp : p = m1
          · subst cp
            exact ⟨l3 i, b3 i c, rd_eqw⟩
          · rw [rd_nk cp]
            exact j1 p (by omega)
        · obtain ⟨p, p1, p2⟩ := j2 z
          exact ⟨p, by omega, by rw [rd_nk (by omega)]; exact p2⟩
      · rw [if_neg (nI_nlt (by omega) (by omega))]
        exact fin m1 b (Nat.le_refl _) (by omega) F j1 j2 (fun z => absurd z c)
    by_cases c : i < n2
    · rw [if_pos (nI_lt c (by omega)), if_pos (show nI m < 60 from nI_lt (b := 60) (by omega) (by decide)), inb_nI (j := i) (n := 60) (by omega) (by decide), inb_nI (j := m) (n := 60) (by omega) (by decide), gd_t, gd_t, nI_clamp (n := i) (by omega), nI_clamp (n := m) (by omega), nI_1, i2 i c]
      refine go (m + 1) _ (by omega) (by omega) (Fr.refl.w ⟨rfl, by omega⟩) (fun p hp => ?_) (fun _ => ⟨m, by omega, rd_eqw⟩)
      by_cases cp : p = m
      · subst cp
        exact ⟨l2 i, b2 i c, rd_eqw⟩
      · rw [rd_nk cp]
        exact i1 p (by omega)
    · rw [if_neg (nI_nlt (by omega) (by omega))]
      exact go m a (Nat.le_refl _) (by omega) Fr.refl i1 (fun z => absurd z c)
/-- all that are asked stand in the row -/
theorem order_s (V : VN h) (Q : VQ h) (hs : ∀ i, i < nq h → rd h (47 + i) 9 = 0 → rd h (47 + i) 10 = 0 ∨ rd h (47 + i) 10 = 1 ∨ rd h (47 + i) 10 = 2 ∨ rd h (47 + i) 10 = 3) : ∃ m g, F_X6_putAskedInOrder [.ref 0] h = rtn (some (.int (nI m))) g ∧ m ≤ 60 ∧ Fr P789 h g ∧ (∀ p, p < m → ∃ y, y < nq h ∧ rd g 7 p = nI y) ∧ ∀ k, k < nq h → rd h (47 + k) 9 = 0 → ∃ p, p < m ∧ rd g 7 p = nI k := by
  have h60 := V.q.1
  have sum := cnt_4 (f := asks h 0) (g := asks h 1) (p := asks h 2) (q := asks h 3) (nq h) fun i hi => by
    unfold asks
    cases decide (rd h (47 + i) 9 = 0)
    · simp
    · simp only [Bool.true_and, decide_eq_true_eq, decide_eq_false_iff_not]
      refine ⟨fun e => ?_, fun e => ?_, fun e => ?_⟩ <;> rw [e] <;> decide
  obtain ⟨a1, l0, s1, s2, s3, s4⟩ := add_s (h := h) (s := 0) (row := 7) (st := 0) (a := h) V Q (Or.inl rfl) (by omega) Fr.refl
  rw [Nat.zero_add] at s1
  have F1 : Fr P789 h a1 := s4.up fun b k z => by have := z.1; unfold P789; omega
  obtain ⟨a2, l1, t1, t2, t3, t4⟩ := add_s (h := h) (s := 1) (row := 7) (st := cnt (asks h 0) (nq h)) (a := a1) V Q (Or.inl rfl) (by omega) F1
  have F2 : Fr P789 h a2 := F1.trans (t4.up fun b k z => by have := z.1; unfold P789; omega)
  obtain ⟨a3, l2, u1, u2, u3, u4⟩ := add_s (h := h) (s := 2) (row := 8) (st := 0) (a := a2) V Q (Or.inr (Or.inl rfl)) (by omega) F2
  rw [Nat.zero_add] at u1
  have F3 : Fr P789 h a3 := F2.trans (u4.up fun b k z => by have := z.1; unfold P789; omega)
  obtain ⟨a4, l3, v1, v2, v3, v4⟩ := add_s (h := h) (s := 3) (row := 9) (st := 0) (a := a3) V Q (Or.inr (Or.inr rfl)) (by omega) F3
  rw [Nat.zero_add] at v1
  have F4 : Fr P789 h a4 := F3.trans (v4.up fun b k z => by have := z.1; unfold P789; omega)
  generalize cnt (asks h 0) (nq h) = n0 at sum s1 s2 s3 t1 t2 t3 t4
  generalize cnt (asks h 1) (nq h) = n1 at sum t1 t2 t3
  generalize cnt (asks h 2) (nq h) = n2 at sum u1 u2 u3
  generalize cnt (asks h 3) (nq h) = n3 at sum v1 v2 v3
  have r7 : ∀ p, p < n0 + n1 → ∃ y, y < nq h ∧ rd a4 7 p = nI y := by
    intro p hp
    rw [v4 _ _ (by unfold PRow; omega), u4 _ _ (by unfold PRow; omega)]
    by_cases c : p < n0
    · rw [t4 _ _ (by unfold PRow; omega)]
      have z := s2 p c
      rw [Nat.zero_add] at z
      exact ⟨l0 p, z.2, z.1⟩
    · have z := t2 (p - n0) (by omega)
      rw [show n0 + (p - n0) = p by omega] at z
      exact ⟨_, z.2, z.1⟩
  obtain ⟨m2, g, q1, q2, q3, q4, q5, q6, q7⟩ := mix_l (n2 := n2) (n3 := n3) (N := nq h) (l2 := l2) (l3 := l3) h60 (by omega) (by omega) (fun c hc => (u2 c hc).2) (fun c hc => (v2 c hc).2) 60 0 (n0 + n1) a4 rfl (by omega) r7 (fun c hc => by
    rw [v4 _ _ (by unfold PRow; omega)]
    have z := (u2 c hc).1
    rw [Nat.zero_add] at z
    exact z) (fun c hc => by
    have z := (v2 c hc).1
    rw [Nat.zero_add] at z
    exact z)
  have q1 : f_X6_putAskedInOrder_47 (nI (n0 + n1)) (nI n2) (nI n3) 0 a4 = rtn (some (.int (nI m2))) g := q1
  refine ⟨m2, g, ?_, q3, F4.trans (q4.up fun b k z => by have := z.1; unfold P789; omega), q5, fun k hk h0 => ?_⟩
  · rw [e_X6_putAskedInOrder_0]
    have s1' : F_X6_addAskedOf [.ref 0, .int 0, .ref 7, .int 0] h = rtn (some (.int (nI n0))) a1 := s1
    have u1' : F_X6_addAskedOf [.ref 0, .int 2, .ref 8, .int 0] a2 = rtn (some (.int (nI n2))) a3 := u1
    have v1' : F_X6_addAskedOf [.ref 0, .int 3, .ref 9, .int 0] a3 = rtn (some (.int (nI n3))) a4 := v1
    rw [s1', bI_r, t1, bI_r, u1', bI_r, v1', bI_r]
    exact q1
  · have ask : ∀ s, rd h (47 + k) 10 = s → asks h s k = true := fun s e => by unfold asks; simp [h0, e]
    have low : ∀ p, p < n0 + n1 → rd g 7 p = rd a2 7 p := fun p hp => by
      rw [q4 _ _ (by unfold PRow; omega), v4 _ _ (by unfold PRow; omega), u4 _ _ (by unfold PRow; omega)]
    rcases hs k hk h0 with e | e | e | e
    · obtain ⟨c, c1, c2⟩ := s3 k hk (ask 0 e)
      have z := (s2 c c1).1
      rw [Nat.zero_add] at z
      exact ⟨c, by omega, by rw [low c (by omega), t4 _ _ (by unfold PRow; omega), z, c2]⟩
    · obtain ⟨c, c1, c2⟩ := t3 k hk (ask 1 e)
      exact ⟨n0 + c, by omega, by rw [low _ (by omega), (t2 c c1).1, c2]⟩
    · obtain ⟨c, c1, c2⟩ := u3 k hk (ask 2 e)
      obtain ⟨p, p1, p2⟩ := q6 c (Nat.zero_le _) c1
      exact ⟨p, p1, by rw [p2, c2]⟩
    · obtain ⟨c, c1, c2⟩ := v3 k hk (ask 3 e)
      obtain ⟨p, p1, p2⟩ := q7 c (Nat.zero_le _) c1
      exact ⟨p, p1, by rw [p2, c2]⟩
end ORDER
