/-! those of one sort, in their order: how the class puts them into a row -/
def wN (h : Hp) (k : Nat) : Nat := (rd h 251 k).toNatClampNeg - (rd h 250 k).toNatClampNeg + 1
def ahd (h : Hp) (i j : Nat) : Prop := wN h j < wN h i ∨ (wN h i = wN h j ∧ i < j)
def asks (h : Hp) (s : Int32) (k : Nat) : Bool := decide (rd h 254 k = 0) && decide (so10 h k = s)
def OL (h : Hp) (s : Int32) (u n : Nat) (l : Nat → Nat) : Prop := (∀ c, c < n → l c < u ∧ asks h s (l c) = true) ∧ (∀ c d, c < d → d < n → ahd h (l c) (l d)) ∧ (∀ k, k < u → asks h s k = true → ∃ c, c < n ∧ l c = k) ∧ n = cnt (asks h s) u
def PRow (row st p q : Nat) : Prop := p = row ∧ st ≤ q
section INS
variable {h a : Hp} {s : Int32} {row st n k q W : Nat} {l : Nat → Nat}
theorem wN_s (H : Inv h) (hk : k < nq h) : rd h 251 k - rd h 250 k + 1 = nI (wN h k) ∧ wN h k ≤ 20 := by
  obtain ⟨v1, v2, v3, v4, v5, -⟩ := H.2.2.2.2.2.2.2.2.2.2.1 k hk
  obtain ⟨f, l, hfl, hl, ef, el⟩ := irg_fl v4 v5
  unfold wN
  rw [ef, el, nI_clamp (by omega), nI_clamp (by omega), nI_subN hfl, nI_1]
  exact ⟨rfl, by omega⟩
theorem row_k (hr : row = 7 ∨ row = 8 ∨ row = 9) : memb (SKc row) [10, 11, 12, 13, 14, 15, 16, 17, 18] = true ∧ memb (SKc row) [10, 18] = true ∧ Nat.beq (SKc row) 10 = true ∧ SKn row = 60 ∧ alen SKn a row = 60 := by
  have ha : ∀ r, Nat.beq r 1000 = false → SKn r = 60 → alen SKn a r = 60 := fun r h1 h2 => by
    unfold alen
    show cond (Nat.beq r 1000) _ (SKn r) = 60
    rw [h1, h2]
    rfl
  rcases hr with rfl | rfl | rfl
  · exact ⟨by decide, by decide, by decide, by decide, ha 7 (by decide) (by decide)⟩
  · exact ⟨by decide, by decide, by decide, by decide, ha 8 (by decide) (by decide)⟩
  · exact ⟨by decide, by decide, by decide, by decide, ha 9 (by decide) (by decide)⟩
theorem nI_m (m : Nat) : nI (m + 1) + (-1) = nI m := by
  rw [← nI_1, Int32.add_assoc, show (1 : Int32) + (-1) = 0 by decide, Int32.add_zero]
theorem poc_row (F : Fr POc h a) {a' : Hp} (hr : row = 7 ∨ row = 8 ∨ row = 9) (F2 : Fr (PRow row st) a a') : Fr POc h a' := fun p q hp => by
  rw [F2 p q (fun z => hp (by have := z.1; unfold POc; omega)), F p q hp]
theorem wk_c (H : Inv h) (F : Fr POc h a) (hk : k < nq h) : F_X5_weeks [.ref (47 + k)] a = rtn (some (.int (nI (wN h k)))) a := by
  have h60 := H.2.2.2.2.2.2.2.1.q.1
  rw [e_X5_weeks_0, (okc_rq k (by omega)).2, gd_t, gd_t, F _ _ (by unfold POc; omega), F _ _ (by unfold POc; omega)]
  have e5 : rd h (47 + k) 5 = rd h 251 k := H.2.2.1 k (by omega) 5 (by decide) (by decide)
  have e4 : rd h (47 + k) 4 = rd h 250 k := H.2.2.1 k (by omega) 4 (by decide) (by decide)
  rw [e5, e4, (wN_s H hk).1]
theorem ins_l (H : Inv h) (hr : row = 7 ∨ row = 8 ∨ row = 9) (hk : k < nq h) (hn : st + n < 60) (hl : ∀ c, c < n → l c < nq h) (hW : W ≤ 20) : ∀ (q : Nat) (a : Hp), q ≤ n → Fr POc h a → (∀ c, c < q → rd a row (st + c) = nI (l c)) → (∀ c, q ≤ c → c < n → rd a row (st + c + 1) = nI (l c)) → (∀ c, q ≤ c → c < n → wN h (l c) < W) → ∃ a' q', q' ≤ n ∧ f_X6_insertByWeeks_14 (nI k) row (nI st) (nI W) (nI (st + q)) a = rtn none a' ∧ (∀ c, c < q' → rd a' row (st + c) = nI (l c)) ∧ rd a' row (st + q') = nI k ∧ (∀ c, q' ≤ c → c < n → rd a' row (st + c + 1) = nI (l c)) ∧ (q' = 0 ∨ W ≤ wN h (l (q' - 1))) ∧ (∀ c, q' ≤ c → c < n → wN h (l c) < W) ∧ Fr (PRow row st) a a' ∧ rdL a' = rdL a := by
  have h60 := H.2.2.2.2.2.2.2.1.q.1
  -- the request gets its cell
  have put : ∀ (q : Nat) (a : Hp), q ≤ n → (∀ c, c < q → rd a row (st + c) = nI (l c)) → (∀ c, q ≤ c → c < n → rd a row (st + c + 1) = nI (l c)) → (∀ c, q ≤ c → c < n → wN h (l c) < W) → (q = 0 ∨ W ≤ wN h (l (q - 1))) → ∃ a' q', q' ≤ n ∧ f_X6_insertByWeeks_61 (nI k) row (nI (st + q)) a = rtn none a' ∧ (∀ c, c < q' → rd a' row (st + c) = nI (l c)) ∧ rd a' row (st + q') = nI k ∧ (∀ c, q' ≤ c → c < n → rd a' row (st + c + 1) = nI (l c)) ∧ (q' = 0 ∨ W ≤ wN h (l (q' - 1))) ∧ (∀ c, q' ≤ c → c < n → wN h (l c) < W) ∧ Fr (PRow row st) a a' ∧ rdL a' = rdL a := by
    intro q a hq i1 i2 i3 i4
    obtain ⟨r1, r2, r3, r4, r5⟩ := row_k (a := a) hr
    refine ⟨wr a row (st + q) (nI k), q, hq, ?_, fun c hc => ?_, rd_eqw, fun c h1 h2 => ?_, i4, i3, Fr.refl.w ⟨rfl, by omega⟩, rfl⟩
    · rw [e_X6_insertByWeeks_61, if_neg (nI_pos (by omega)), r1, gd_t, r5, if_pos (show nI (st + q) < Int32.ofNat 60 from nI_lt (a := st + q) (b := 60) (by omega) (by decide)), r3, r4, inb_nI (by omega) (by decide), nI_clamp (by omega)]
      rfl
    · rw [rd_nk (by omega)]
      exact i1 c hc
    · rw [rd_nk (by omega)]
      exact i2 c h1 h2
  intro q
  induction q with
  | zero =>
    intro a hq F i1 i2 i3
    obtain ⟨a', q', s1, s2, s3⟩ := put 0 a (Nat.zero_le _) i1 i2 i3 (Or.inl rfl)
    refine ⟨a', q', s1, ?_, s3⟩
    rw [e_X6_insertByWeeks_14, if_neg (show ¬ nI st < nI (st + 0) from nI_nlt (by omega) (by omega))]
    exact s2
  | succ q ih =>
    intro a hq F i1 i2 i3
    obtain ⟨r1, r2, r3, r4, r5⟩ := row_k (a := a) hr
    have e10 : rd a 0 10 = nI (nq h) := by
      rw [F 0 10 (by unfold POc; omega), H.1.1, H.2.2.2.2.2.2.2.1.q.2]
    have eq1 : nI (st + (q + 1)) - 1 = nI (st + q) := nI_pred (st + q)
    have st1 : f_X6_insertByWeeks_14 (nI k) row (nI st) (nI W) (nI (st + (q + 1))) a = (if nI (wN h (l q)) < nI W then f_X6_insertByWeeks_14 (nI k) row (nI st) (nI W) (nI (st + q)) (wr a row (st + (q + 1)) (nI (l q))) else f_X6_insertByWeeks_61 (nI k) row (nI (st + (q + 1))) a) := by
      rw [e_X6_insertByWeeks_14, if_pos (nI_lt (by omega) (by omega)), r1, gd_t, r5, if_pos (show nI (st + (q + 1)) < Int32.ofNat 60 from nI_lt (a := st + (q + 1)) (b := 60) (by omega) (by decide)), r2, eq1, inb_nI (by omega) (by decide), Bool.true_and, gd_t, nI_clamp (by omega), i1 q (by omega), req_g e10 h60 (hl q (by omega)), bR_r, (okc_rq (l q) (by have := hl q (by omega); omega)).1, gd_t, wk_c H F (hl q (by omega)), bI_r, r5, inb_nI (by omega) (by decide), r3, r4, inb_nI (by omega) (by decide), nI_clamp (by omega), i1 q (by omega), show nI (st + (q + 1)) + (-1) = nI (st + q) from nI_m (st + q)]
      rfl
    rw [st1]
    have hw := (wN_s H (hl q (by omega))).2
    by_cases c : wN h (l q) < W
    · rw [if_pos (nI_lt c (by omega))]
      obtain ⟨a', q', s1, s2, s3, s4, s5, s6, s7, s8, s9⟩ := ih (wr a row (st + (q + 1)) (nI (l q))) (by omega) (F.w (by unfold POc; omega)) (fun c hc => by
        rw [rd_nk (by omega)]
        exact i1 c (by omega)) (fun d h1 h2 => by
        by_cases cq : d = q
        · rw [cq, show st + q + 1 = st + (q + 1) by omega, rd_eqw]
        · rw [rd_nk (by omega)]
          exact i2 d (by omega) h2) (fun d h1 h2 => by
        by_cases cq : d = q
        · subst cq
          exact c
        · exact i3 d (by omega) h2)
      refine ⟨a', q', s1, s2, s3, s4, s5, s6, s7, fun p z hp => ?_, by rw [s9]; rfl⟩
      rw [s8 p z hp, rd_wrx, if_neg (fun y => hp ⟨y.1, by omega⟩)]
    · rw [if_neg (nI_nlt (by omega) (by omega))]
      exact put (q + 1) a hq i1 i2 i3 (Or.inr (by show W ≤ wN h (l (q + 1 - 1)); rw [Nat.add_sub_cancel]; omega))
theorem ahd_trans {i j k : Nat} (h1 : ahd h i j) (h2 : ahd h j k) : ahd h i k := by
  unfold ahd at *
  omega
/-- the row with one more -/
def insL (l : Nat → Nat) (q k : Nat) (c : Nat) : Nat := if c < q then l c else if c = q then k else l (c - 1)
theorem OL.ins (O : OL h s k n l) (hk : asks h s k = true) (hq : q ≤ n) (h1 : q = 0 ∨ wN h k ≤ wN h (l (q - 1))) (h2 : ∀ c, q ≤ c → c < n → wN h (l c) < wN h k) : OL h s (k + 1) (n + 1) (insL l q k) := by
  obtain ⟨o1, o2, o3, o4⟩ := O
  have pre : ∀ c, c < q → wN h k ≤ wN h (l c) := by
    intro c hc
    rcases h1 with z | z
    · omega
    · by_cases e : c = q - 1
      · rw [e]
        exact z
      · have := o2 c (q - 1) (by omega) (by omega)
        unfold ahd at this
        omega
  refine ⟨?_, ?_, ?_, ?_⟩
  · intro c hc
    unfold insL
    by_cases c1 : c < q
    · rw [if_pos c1]
      obtain ⟨z1, z2⟩ := o1 c (by omega)
      exact ⟨by omega, z2⟩
    · rw [if_neg c1]
      by_cases c2 : c = q
      · rw [if_pos c2]
        exact ⟨by omega, hk⟩
      · rw [if_neg c2]
        obtain ⟨z1, z2⟩ := o1 (c - 1) (by omega)
        exact ⟨by omega, z2⟩
  · intro c d hcd hd
    unfold insL
    by_cases d1 : d < q
    · rw [if_pos d1, if_pos (by omega)]
      exact o2 c d hcd (by omega)
    · rw [if_neg d1]
      by_cases d2 : d = q
      · rw [if_pos d2, if_pos (by omega)]
        have q1 := pre c (by omega)
        have q2 := (o1 c (by omega)).1
        unfold ahd
        omega
      · rw [if_neg d2]
        by_cases c1 : c < q
        · rw [if_pos c1]
          exact o2 c (d - 1) (by omega) (by omega)
        · rw [if_neg c1]
          by_cases c2 : c = q
          · rw [if_pos c2]
            have q1 := h2 (d - 1) (by omega) (by omega)
            unfold ahd
            omega
          · rw [if_neg c2]
            exact o2 (c - 1) (d - 1) (by omega) (by omega)
  · intro j hj hs
    by_cases cj : j = k
    · refine ⟨q, by omega, ?_⟩
      unfold insL
      rw [if_neg (by omega), if_pos rfl, cj]
    · obtain ⟨c, z1, z2⟩ := o3 j (by omega) hs
      by_cases c1 : c < q
      · refine ⟨c, by omega, ?_⟩
        unfold insL
        rw [if_pos c1]
        exact z2
      · refine ⟨c + 1, by omega, ?_⟩
        unfold insL
        rw [if_neg (by omega), if_neg (by omega)]
        exact z2
  · show n + 1 = cnt _ k + (match asks h s k with | true => 1 | false => 0)
    rw [hk, o4]
theorem OL.skip (O : OL h s k n l) (hk : asks h s k = false) : OL h s (k + 1) n l := by
  obtain ⟨o1, o2, o3, o4⟩ := O
  refine ⟨fun c hc => ⟨by have := (o1 c hc).1; omega, (o1 c hc).2⟩, o2, ?_, ?_⟩
  · intro j hj hs
    by_cases cj : j = k
    · rw [cj, hk] at hs
      cases hs
    · exact o3 j (by omega) hs
  · show n = cnt _ k + (match asks h s k with | true => 1 | false => 0)
    rw [hk, o4]
    rfl
theorem cnt_none {f : Nat → Bool} {k n : Nat} (e : cnt f n ≤ cnt f k) (hkn : k ≤ n) : ∀ j, k ≤ j → j < n → f j = false := by
  intro j h1 h2
  cases c : f j with
  | false => rfl
  | true =>
    have q1 := cnt_mono (p := f) (j := k) (j - k)
    have q2 := cnt_mono (p := f) (j := j + 1) (n - (j + 1))
    rw [show k + (j - k) = j by omega] at q1
    rw [show j + 1 + (n - (j + 1)) = n by omega] at q2
    have q3 : cnt f (j + 1) = cnt f j + 1 := by
      show cnt f j + (match f j with | true => 1 | false => 0) = _
      rw [c]
    omega
theorem add_l (H : Inv h) (hr : row = 7 ∨ row = 8 ∨ row = 9) (hst : st + cnt (asks h s) (nq h) ≤ 60) : ∀ (n' k nk : Nat) (l : Nat → Nat) (a : Hp), k + n' = nq h → Fr POc h a → OL h s k nk l → (∀ c, c < nk → rd a row (st + c) = nI (l c)) → (∀ j, j < nq h → rd a (47 + j) 10 = so10 h j) → ∃ nn l' a', f_X6_addAskedOf_6 s row (nI st) (nI (st + nk)) (nI k) a = rtn (some (.int (nI (st + nn)))) a' ∧ OL h s (nq h) nn l' ∧ (∀ c, c < nn → rd a' row (st + c) = nI (l' c)) ∧ Fr (PRow row st) a a' ∧ rdL a' = rdL a
  | 0, k, nk, l, a, e, F, O, hrow, h10 => by
    have h60 := H.2.2.2.2.2.2.2.1.q.1
    have e10 : rd a 0 10 = nI (nq h) := by
      rw [F 0 10 (by unfold POc; omega), H.1.1, H.2.2.2.2.2.2.2.1.q.2]
    obtain rfl : k = nq h := by omega
    refine ⟨nk, l, a, ?_, O, hrow, Fr.refl, rfl⟩
    rw [e_X6_addAskedOf_6, e10, if_neg (nI_nlt (by omega) (by omega))]
  | n' + 1, k, nk, l, a, e, F, O, hrow, h10 => by
    have h60 := H.2.2.2.2.2.2.2.1.q.1
    have e10 : rd a 0 10 = nI (nq h) := by
      rw [F 0 10 (by unfold POc; omega), H.1.1, H.2.2.2.2.2.2.2.1.q.2]
    obtain ⟨r1, r2, r3, r4, r5⟩ := row_k (a := a) hr
    have hmono := cnt_mono (p := asks h s) (j := k) (nq h - k)
    rw [show k + (nq h - k) = nq h by omega] at hmono
    have ek := O.2.2.2
    by_cases full : st + nk < 60
    · have e9 : rd a (47 + k) 9 = rd h 254 k := by
        rw [F _ _ (by unfold POc; omega)]
        exact H.2.2.1 k (by omega) 9 (by decide) (by decide)
      have st1 : f_X6_addAskedOf_6 s row (nI st) (nI (st + nk)) (nI k) a = (if asks h s k = true then bV (F_X6_insertByWeeks [.ref 0, .int (nI k), .ref row, .int (nI st), .int (nI (st + nk))] a) (fun h3 => f_X6_addAskedOf_6 s row (nI st) (nI (st + nk + 1)) (nI (k + 1)) h3) (hnk []) else f_X6_addAskedOf_6 s row (nI st) (nI (st + nk)) (nI (k + 1)) a) := by
        rw [e_X6_addAskedOf_6, e10, if_pos (nI_lt (by omega) (by omega)), r1, gd_t, r5, if_pos (show nI (st + nk) < Int32.ofNat 60 from nI_lt (a := st + nk) (b := 60) full (by decide)), req_g e10 h60 (by omega), bR_r, (okc_rq k (by omega)).1]
        simp only [gd_t, e_X6_addAskedOf_60, nI_1]
        rw [e9, h10 k (by omega)]
        unfold asks
        by_cases c1 : rd h 254 k = 0
        · by_cases c2 : so10 h k = s
          · simp [c1, c2]
          · simp [c1, c2]
        · simp [c1]
      rw [st1]
      cases c : asks h s k with
      | false =>
        rw [if_neg (by decide)]
        exact add_l H hr hst n' (k + 1) nk l a (by omega) F (O.skip c) hrow h10
      | true =>
        rw [if_pos rfl]
        have hw := wN_s H (show k < nq h by omega)
        obtain ⟨a1, q, s1, s2, s3, s4, s5, s6, s7, s8, s9⟩ := ins_l (l := l) (W := wN h k) (k := k) H hr (by omega) full (fun c hc => by have := (O.1 c hc).1; omega) hw.2 nk a (Nat.le_refl _) F hrow (fun c h1 h2 => by omega) (fun c h1 h2 => by omega)
        have F1 := poc_row F hr s8
        obtain ⟨nn, l', a', t1, t2, t3, t4, t5⟩ := add_l H hr hst n' (k + 1) (nk + 1) (insL l q k) a1 (by omega) F1 (O.ins c s1 s6 s7) (fun d hd => by
          unfold insL
          by_cases d1 : d < q
          · rw [if_pos d1]
            exact s3 d d1
          · rw [if_neg d1]
            by_cases d2 : d = q
            · rw [if_pos d2, d2]
              exact s4
            · rw [if_neg d2]
              have := s5 (d - 1) (by omega) (by omega)
              rw [show st + (d - 1) + 1 = st + d by omega] at this
              exact this) (fun j hj => by
          rw [s8 _ _ (fun z => by have := z.1; omega)]
          exact h10 j hj)
        refine ⟨nn, l', a', ?_, t2, t3, fun p z hp => by rw [t4 p z hp, s8 p z hp], by rw [t5, s9]⟩
        rw [e_X6_insertByWeeks_0, req_g e10 h60 (by omega), bR_r, (okc_rq k (by omega)).1, gd_t, wk_c H F (by omega), bI_r, s2, bV_r]
        exact t1
    · refine ⟨nk, l, a, ?_, ⟨fun c hc => ⟨by have := (O.1 c hc).1; omega, (O.1 c hc).2⟩, O.2.1, ?_, by omega⟩, hrow, Fr.refl, rfl⟩
      · rw [e_X6_addAskedOf_6, e10, if_pos (nI_lt (by omega) (by omega)), r1, gd_t, r5, if_neg (show ¬ nI (st + nk) < Int32.ofNat 60 from nI_nlt (a := st + nk) (b := 60) (by omega) (by omega))]
      · intro j hj hs
        by_cases cj : j < k
        · exact O.2.2.1 j cj hs
        · have := cnt_none (f := asks h s) (k := k) (n := nq h) (by omega) (by omega) j (by omega) hj
          rw [this] at hs
          cases hs
end INS
