/-! a new request; a season's end -/
def PR (n a k : Nat) : Prop := (a = 0 ∧ k = 10) ∨ a = 47 + n ∨ (167 ≤ a ∧ a < 227 ∧ k = 8)
section ASK
variable {h g f : Hp} {x x1 x2 x3 x4 x5 x6 x7 x8 x9 : Int32} {i j k n t a b m r s v p w c e : Nat}
/-- a request of such numbers -/
def Asd (h g : Hp) (x1 x2 x3 x4 x5 x6 x7 x8 x9 : Int32) : Prop := Fr (PR (nq h)) h g ∧ rd g 0 10 = nI (nq h + 1) ∧ rd g (47 + nq h) 0 = x2 ∧ rd g (47 + nq h) 1 = x3 ∧ rd g (47 + nq h) 2 = x4 ∧ rd g (47 + nq h) 3 = x5 ∧ rd g (47 + nq h) 4 = x6 ∧ rd g (47 + nq h) 5 = x7 ∧ rd g (47 + nq h) 6 = x8 ∧ rd g (47 + nq h) 7 = x1 ∧ rd g (47 + nq h) 8 = x9 ∧ rd g (47 + nq h) 9 = 0 ∧ rd g (47 + nq h) 11 = -1 ∧ rd g (47 + nq h) 12 = -1 ∧ rd g (47 + nq h) 13 = -1
theorem slot_t (c3 : irg x3 0 1 = true) (c4 : irg x4 0 6 = true) (c5 : irg x5 0 71 = true) (c6 : irg x6 0 19 = true) (c7 : irg x7 x6 19 = true) (c8 : irg x8 0 9 = true) : F_X6_requireSlot [.int x3, .int x4, .int x5, .int x6, .int x7, .int x8] h = rtn none h := by
  rw [e_X6_requireSlot_0]
  simp only [rng_t c3, rng_t c4, rng_t c5, rng_t c6, rng_t c7, rng_t c8, bV_r]
theorem Asd.inv (I : Inv h) (hq : nq h < 60) (A : Asd h g x1 x2 x3 x4 x5 x6 x7 x8 x9) (c2 : irg x2 0 3 = true) (c3 : irg x3 0 1 = true) (c4 : irg x4 0 6 = true) (c5 : irg x5 0 71 = true) (c6 : irg x6 0 19 = true) (c7 : irg x7 x6 19 = true) (c8 : irg x8 0 9 = true) (c1 : irg x1 0 9 = true) (c9 : x9 = -1 ∨ ∃ j, j < nr h ∧ x9 = nI j) : Inv g ∧ nq g = nq h + 1 := by
  obtain ⟨F, g0, a0, a1, a2, a3, a4, a5, a6, a7, a8, a9, a11, a12, a13⟩ := A
  obtain ⟨⟨b1, b2, b3, b4, b5, b6, b7, b8⟩, b9⟩ := I
  have h61 := b1.s.1
  have h62 := b1.r.1
  have hsq : ns h ≤ nq h := by
    rw [b1.2.2.2.1]
    exact cnt_le _
  have q : ∀ a k, ¬ ((a = 0 ∧ k = 10) ∨ a = 47 + nq h ∨ (167 ≤ a ∧ a < 227 ∧ k = 8)) → rd g a k = rd h a k := fun a k z => F a k z
  have em : nq g = nq h + 1 := by
    unfold nq at g0 ⊢
    rw [g0, nI_clamp (by unfold nq at hq; omega)]
  have en : ns g = ns h := by unfold ns; rw [q _ _ (by omega)]
  have er : nr g = nr h := by unfold nr; rw [q _ _ (by omega)]
  have ep : np g = np h := by unfold np; rw [q _ _ (by omega)]
  have es : sn g = sn h := by unfold sn; rw [q _ _ (by omega)]
  refine ⟨⟨⟨?_, b2.F (fun a k _ _ => q _ _ (by omega)), b3.F (q _ _ (by omega)) (fun z k _ _ _ => q _ _ (by omega)), ?_, ?_, ?_, b7.F (q _ _ (by omega)) (fun z k _ _ => q _ _ (by omega)), ?_⟩, ?_⟩, em⟩
  · obtain ⟨v1, v2, v3, v4, v5, v6, v7, v8, v9, v10⟩ := b1
    unfold VN
    rw [em, en, er, ep, es, q 0 11 (by omega), q 0 12 (by omega), q 0 13 (by omega), q 0 14 (by omega)]
    refine ⟨g0, by omega, v3, ?_, v5, v6, v7, v8, v9, v10⟩
    rw [cnt_f (show stB 1 g (nq h) = false from decide_eq_false (by rw [a9]; decide)), v4]
    exact cnt_congr fun z hz => by unfold stB; rw [q _ _ (by omega)]
  · intro z hz
    rw [en] at hz
    rw [em]
    obtain ⟨y, y1, y2, y3, y4⟩ := b4 z hz
    exact ⟨y, by omega, by rw [q _ _ (by omega)]; exact y2, by rw [q _ _ (by omega)]; exact y3, by rw [q _ _ (by omega)]; exact y4⟩
  · intro z hz
    rw [em] at hz
    rw [er]
    by_cases c : z = nq h
    · subst c
      refine ⟨?_, by rw [a7]; exact c1, by rw [a8]; exact c9⟩
      unfold SLT7
      rw [a0, a1, a2, a3, a4, a5, a6]
      exact ⟨c2, c3, c4, c5, c6, c7, c8⟩
    · obtain ⟨t1, t2, t3⟩ := b5 z (by omega)
      exact ⟨t1.F fun k _ => q _ _ (by omega), by rw [q _ _ (by omega)]; exact t2, by rw [q _ _ (by omega)]; exact t3⟩
  · intro z hz
    rw [em] at hz
    rw [en]
    by_cases c : z = nq h
    · subst c
      rw [a9, a12, a11]
      exact ⟨by decide, fun w => absurd w (by decide), fun _ => rfl, fun _ => rfl, fun w => absurd w (by decide)⟩
    · obtain ⟨t1, t2, t3, t4, t5⟩ := b6 z (by omega)
      rw [q _ 9 (by omega), q _ 12 (by omega), q _ 11 (by omega)]
      refine ⟨t1, t2, t3, t4, fun w => ?_⟩
      obtain ⟨y, y1, y2, y3⟩ := t5 w
      exact ⟨y, y1, y2, by rw [q _ _ (by omega)]; exact y3⟩
  · intro z hz
    rw [ep] at hz
    rw [em]
    obtain ⟨y, y1, y2⟩ := b8 z hz
    exact ⟨y, by omega, by rw [q _ _ (by omega)]; exact y2⟩
  · intro z hz
    rw [em] at hz
    rw [em]
    by_cases c : z = nq h
    · subst c
      exact Or.inl a13
    · rw [q _ _ (by omega)]
      rcases b9 z (by omega) with w | ⟨y, y1, y2, y3, y4, y5⟩
      · exact Or.inl w
      · refine Or.inr ⟨y, by omega, y2, y3, by rw [q _ _ (by omega)]; exact y4, ?_⟩
        rw [q _ _ (by omega), q _ _ (by omega)]
        exact y5
/-- the writing of it -/
theorem ask_w (hq : nq h < 60) : F_X1_ask [.ref (47 + nq h), .int x1, .int x9] h = rtn none (wr (wr (wr (wr (wr (wr (wr h (47 + nq h) 7 x1) (47 + nq h) 8 x9) (47 + nq h) 9 0) (47 + nq h) 10 3) (47 + nq h) 11 (-1)) (47 + nq h) 12 (-1)) (47 + nq h) 13 (-1)) := by
  rw [e_X1_ask_0, (okc_rq _ hq).1]
  rfl
theorem ask_z {n : Nat} (hq : n < 60) : F_X1_ask [.ref (47 + n), .int x1, .int x9] h = rtn none (wr (wr (wr (wr (wr (wr (wr h (47 + n) 7 x1) (47 + n) 8 x9) (47 + n) 9 0) (47 + n) 10 3) (47 + n) 11 (-1)) (47 + n) 12 (-1)) (47 + n) 13 (-1)) := by
  rw [e_X1_ask_0, (okc_rq _ hq).1]
  rfl
def askW (h : Hp) (n : Nat) (x1 x2 x3 x4 x5 x6 x7 x8 x9 : Int32) : Hp := wr (wr (wr (wr (wr (wr (wr (wr (wr (wr (wr (wr (wr (wr (wr h 0 10 (nI (n + 1))) (47 + n) 0 x2) (47 + n) 1 x3) (47 + n) 2 x4) (47 + n) 3 x5) (47 + n) 4 x6) (47 + n) 5 x7) (47 + n) 6 x8) (47 + n) 7 x1) (47 + n) 8 x9) (47 + n) 9 0) (47 + n) 10 3) (47 + n) 11 (-1)) (47 + n) 12 (-1)) (47 + n) 13 (-1)
theorem askW_s (hq : nq h < 60) : Asd h (askW h (nq h) x1 x2 x3 x4 x5 x6 x7 x8 x9) x1 x2 x3 x4 x5 x6 x7 x8 x9 := by
  unfold askW
  refine ⟨?_, ?_, ?_, ?_, ?_, ?_, ?_, ?_, ?_, ?_, ?_, ?_, ?_, ?_, ?_⟩
  · intro b k hb
    unfold PR at hb
    simp only [rd_wrx]
    repeat rw [if_neg (by omega)]
  · simp only [rd_wrx]
    repeat rw [if_neg (by omega)]
    rw [if_pos (by simp)]
  all_goals simp [rd_wrx]
theorem Asd.claim (A : Asd h g x1 x2 x3 x4 x5 x6 x7 x8 x9) (hq : nq h < 60) (hr : r < 60) : Asd h (wr g (167 + r) 8 x) x1 x2 x3 x4 x5 x6 x7 x8 x9 := by
  obtain ⟨F, g0, a0, a1, a2, a3, a4, a5, a6, a7, a8, a9, a11, a12, a13⟩ := A
  refine ⟨F.w (Or.inr (Or.inr ⟨by omega, by omega, rfl⟩)), ?_, ?_, ?_, ?_, ?_, ?_, ?_, ?_, ?_, ?_, ?_, ?_, ?_, ?_⟩ <;> rw [rd_ne (by omega)] <;> assumption
theorem request_0 (V : VN h) (hc : c < 10) (hj : j < 4) (c3 : irg x3 0 1 = true) (c4 : irg x4 0 6 = true) (c5 : irg x5 0 71 = true) (c6 : irg x6 0 19 = true) (c7 : irg x7 x6 19 = true) (c8 : irg x8 0 9 = true) : (nq h = 60 ∧ F_X6_request [.ref 0, .int (nI c), .int (nI j), .int x3, .int x4, .int x5, .int x6, .int x7, .int x8, .int (-1)] h = thr 2 h) ∨
    (nq h < 60 ∧ ∃ g, F_X6_request [.ref 0, .int (nI c), .int (nI j), .int x3, .int x4, .int x5, .int x6, .int x7, .int x8, .int (-1)] h = rtn (some (.int (nI (nq h)))) g ∧ Asd h g (nI c) (nI j) x3 x4 x5 x6 x7 x8 (-1)) := by
  have h60 := V.q.1
  rw [e_X6_request_0, groupAt_s hc, bI_r, airportAt_s hj, bR_r, if_pos rfl, slot_t c3 c4 c5 c6 c7 c8, bV_r, V.q.2]
  by_cases hq : nq h < 60
  · right
    refine ⟨hq, askW h (nq h) (nI c) (nI j) x3 x4 x5 x6 x7 x8 (-1), ?_, askW_s hq⟩
    rw [if_pos (show nI (nq h) < 60 from nI_lt (b := 60) hq (by decide)), nI_1, requestAt_n (n := nq h + 1) rd_eqw (by omega) (by omega), bR_r, (okc_rq _ hq).1]
    simp only [gd_t]
    rw [ask_z hq, bV_r]
    rfl
  · left
    exact ⟨by omega, by rw [if_neg (show ¬ nI (nq h) < 60 from nI_nlt (b := 60) (by omega) (by omega))]⟩
theorem mayBeClaimed_s (hr : r < 60) (e7 : rd h (167 + r) 7 = x1) (e0 : rd h (167 + r) 0 = x2) (e1 : rd h (167 + r) 1 = x3) (e2 : rd h (167 + r) 2 = x4) : F_X2_mayBeClaimed [.ref (167 + r), .int x1, .int x2, .int x3, .int x4] h = rtn (some (.int (bi (decide (rd h (167 + r) 8 = -1))))) h := by
  rw [e_X2_mayBeClaimed_0, (okc_rt r hr).1]
  simp only [gd_t]
  rw [if_pos e7, if_pos e0, if_pos e1, if_pos e2]
  by_cases c : rd h (167 + r) 8 = -1
  · simp [c, bi]
  · simp [c, bi]
theorem request_r (V : VN h) (hr : r < nr h) (e7 : rd h (167 + r) 7 = nI c) (e0 : rd h (167 + r) 0 = nI j) (e1 : rd h (167 + r) 1 = x3) (e2 : rd h (167 + r) 2 = x4) (hc : c < 10) (hj : j < 4) (c3 : irg x3 0 1 = true) (c4 : irg x4 0 6 = true) (c5 : irg x5 0 71 = true) (c6 : irg x6 0 19 = true) (c7 : irg x7 x6 19 = true) (c8 : irg x8 0 9 = true) : ((nq h = 60 ∨ rd h (167 + r) 8 ≠ -1) ∧ F_X6_request [.ref 0, .int (nI c), .int (nI j), .int x3, .int x4, .int x5, .int x6, .int x7, .int x8, .int (nI r)] h = thr 2 h) ∨
    (nq h < 60 ∧ ∃ g, F_X6_request [.ref 0, .int (nI c), .int (nI j), .int x3, .int x4, .int x5, .int x6, .int x7, .int x8, .int (nI r)] h = rtn (some (.int (nI (nq h)))) g ∧ Asd h g (nI c) (nI j) x3 x4 x5 x6 x7 x8 (nI r) ∧ rd g (167 + r) 8 = nI (nq h)) := by
  have h60 := V.q.1
  have h61 := V.r.1
  rw [e_X6_request_0, groupAt_s hc, bI_r, airportAt_s hj, bR_r, if_neg (nI_m1 (by omega)), rightAt_s V hr, bR_r, slot_t c3 c4 c5 c6 c7 c8, bV_r, V.q.2]
  by_cases hq : nq h < 60
  · rw [if_pos (show nI (nq h) < 60 from nI_lt (b := 60) hq (by decide)), (okc_rt r (by omega)).1]
    simp only [gd_t]
    rw [mayBeClaimed_s (by omega) e7 e0 e1 e2, bI_r]
    by_cases c9 : rd h (167 + r) 8 = -1
    · right
      refine ⟨hq, wr (askW h (nq h) (nI c) (nI j) x3 x4 x5 x6 x7 x8 (nI r)) (167 + r) 8 (nI (nq h)), ?_, (askW_s hq).claim hq (by omega), rd_eqw⟩
      rw [decide_eq_true c9, bi_t, if_neg one_ne, V.q.2, nI_1, requestAt_n (n := nq h + 1) rd_eqw (by omega) (by omega), bR_r, (okc_rq _ hq).1]
      simp only [gd_t]
      rw [ask_z hq, bV_r]
      rfl
    · left
      exact ⟨Or.inr c9, by rw [decide_eq_false c9, bi_f, if_pos rfl]⟩
  · left
    exact ⟨Or.inl (by omega), by rw [if_neg (show ¬ nI (nq h) < 60 from nI_nlt (b := 60) (by omega) (by omega))]⟩
/-! the season's end -/
theorem begin_s (he : e < 60) (hk : k < 60) : ∃ g, F_X2_begin [.ref (167 + e), .ref (107 + k)] h = rtn none g ∧ Fr (fun a _ => a = 167 + e) h g ∧ (∀ z, z < 7 → rd g (167 + e) z = rd h (107 + k) z) ∧ rd g (167 + e) 7 = rd h (107 + k) 8 ∧ rd g (167 + e) 8 = -1 := by
  obtain ⟨g1, c1, c2, c3⟩ := copyFrom_s (h := h) (a := 167 + e) (b := 107 + k) (okc_rt e he).2 (okc_sr k hk).2 (by omega)
  refine ⟨wr (wr g1 (167 + e) 7 (rd h (107 + k) 8)) (167 + e) 8 (-1), ?_, ?_, fun z hz => ?_, ?_, rd_eqw⟩
  · rw [e_X2_begin_0, (okc_rt e he).1, (okc_sr k hk).1, c1]
    simp only [gd_t, bV_r]
    rw [c2 _ _ (by omega)]
  · have F0 : Fr (fun a _ => a = 167 + e) h g1 := c2.up fun b k z => z.1
    exact (F0.w rfl).w rfl
  · rw [rd_nk (by omega), rd_nk (by omega)]
    exact c3 z hz
  · rw [rd_nk (by decide), rd_eqw]
/-- rights as they are made -/
def Rts (g : Hp) (e : Nat) : Prop := ∀ y, y < e → SLT7 g (167 + y) ∧ irg (rd g (167 + y) 7) 0 9 = true ∧ rd g (167 + y) 8 = -1 ∧ ∃ f l : Nat, f + 4 ≤ l ∧ l < 20 ∧ rd g (167 + y) 4 = nI f ∧ rd g (167 + y) 5 = nI l
theorem turn_l (V : VN h) (S : VS h) : ∀ (n k : Nat) (a : Hp), k + n = ns h → Fr (fun b _ => 167 ≤ b ∧ b < 227) h a → Rts a (cnt (eaB h) k) → ∃ g, f_X6_turnSeriesIntoRights_4 (nI (cnt (eaB h) k)) (nI k) a = rtn (some (.int (nI (cnt (eaB h) (ns h))))) g ∧ Fr (fun b _ => 167 ≤ b ∧ b < 227) h g ∧ Rts g (cnt (eaB h) (ns h))
  | 0, k, a, e, F, R => by
    have h60 := V.s.1
    have ek : k = ns h := by omega
    subst ek
    refine ⟨a, ?_, F, R⟩
    rw [e_X6_turnSeriesIntoRights_4, F _ _ (by omega), V.s.2, if_neg (nI_nlt (by omega) (by omega))]
  | n + 1, k, a, e, F, R => by
    have h60 := V.s.1
    have hc := cnt_le (f := eaB h) k
    have es : rd a 0 11 = nI (ns h) := by rw [F _ _ (by omega)]; exact V.s.2
    have eb : eaB a k = eaB h k := eaB_c (fun z => F _ _ (by omega)) (fun b d hb => F _ _ (by omega)) (S k (by omega)).1
    have sl : SLT7 a (107 + k) := (S k (by omega)).1.F fun z hz => F _ _ (by omega)
    rw [e_X6_turnSeriesIntoRights_4, es, if_pos (nI_lt (by omega) (by omega)), if_pos (show nI (cnt (eaB h) k) < 60 from nI_lt (b := 60) (by omega) (by decide)), seriesAt_n es h60 (by omega), bR_r, earnsRight_s (by omega) sl, bI_r, eb, inb_nI (by omega) (by decide), gd_t, nI_clamp (by omega), skr5 _ (by omega), (okc_rt _ (by omega)).1, gd_t]
    simp only [e_X6_turnSeriesIntoRights_48, nI_1]
    cases eE : eaB h k with
    | false =>
      rw [bi_f, if_pos rfl]
      have ih := turn_l V S n (k + 1) a (by omega) F
      rw [cnt_f eE] at ih
      exact ih R
    | true =>
      rw [bi_t, if_neg one_ne]
      obtain ⟨g1, c1, c2, c3, c4, c5⟩ := begin_s (h := a) (e := cnt (eaB h) k) (k := k) (by omega) (by omega)
      rw [c1, bV_r]
      have ih := turn_l V S n (k + 1) g1 (by omega) (F.trans (c2.up fun b z hz => ⟨by omega, by omega⟩))
      rw [cnt_t eE] at ih
      refine ih fun y hy => ?_
      by_cases cy : y = cnt (eaB h) k
      · subst cy
        obtain ⟨f, l, q1, q2, q3, q4⟩ := eaB_5 (S k (by omega)).1 eE
        refine ⟨sl.F c3, ?_, c5, f, l, q1, q2, ?_, ?_⟩
        · rw [c4, F _ _ (by omega)]
          exact (S k (by omega)).2.1
        · rw [c3 4 (by decide), F _ _ (by omega)]
          exact q3
        · rw [c3 5 (by decide), F _ _ (by omega)]
          exact q4
      · obtain ⟨q1, q2, q3, q4⟩ := R y (by omega)
        have q : ∀ z, rd g1 (167 + y) z = rd a (167 + y) z := fun z => c2 _ _ (by omega)
        refine ⟨q1.F fun z _ => q z, ?_, ?_, ?_⟩
        · rw [q]
          exact q2
        · rw [q]
          exact q3
        · rw [q, q]
          exact q4
theorem open_l (hb : b < 4) : ∀ (n d : Nat) (a : Hp), d + n = 7 → ∃ g, f_X0_openAllDays_2 (11 + 9 * b) (nI d) a = rtn none g ∧ Fr (fun z _ => z = 13 + 9 * b) a g
  | 0, d, a, e => by
    obtain ⟨e1, e2, e3, -, e5⟩ := cls_a b hb
    refine ⟨a, ?_, Fr.refl⟩
    rw [e_X0_openAllDays_2, okc_ap b hb, skr_c b hb, e1, alen_c hb]
    simp only [gd_t]
    rw [if_neg (show ¬ nI d < Int32.ofNat 7 from nI_nlt (a := d) (b := 7) (by omega) (by omega))]
  | n + 1, d, a, e => by
    obtain ⟨e1, e2, e3, -, e5⟩ := cls_a b hb
    obtain ⟨g, q1, q2⟩ := open_l hb n (d + 1) (wr a (13 + 9 * b) d 0) (by omega)
    refine ⟨g, ?_, Fr.trans (Fr.w (P := fun z _ => z = 13 + 9 * b) Fr.refl rfl) q2⟩
    rw [e_X0_openAllDays_2, okc_ap b hb, skr_c b hb, e1, alen_c hb]
    simp only [gd_t]
    rw [if_pos (show nI d < Int32.ofNat 7 from nI_lt (a := d) (b := 7) (by omega) (by decide)), e5, e3, inb_nI (by omega) (by decide), nI_clamp (by omega), nI_1]
    exact q1
def PD (a _k : Nat) : Prop := a = 13 ∨ a = 22 ∨ a = 31 ∨ a = 40
theorem end_l : ∀ (n b : Nat) (a : Hp), b + n = 4 → ∃ g, f_X6_end_45 (nI b) a = rtn (some (.int (rd a 0 12))) (wr g 0 14 (rd a 0 14 + 1)) ∧ Fr PD a g
  | 0, b, a, e => by
    refine ⟨a, ?_, Fr.refl⟩
    rw [e_X6_end_45, if_neg (show ¬ nI b < 4 from nI_nlt (a := b) (b := 4) (by omega) (by omega))]
  | n + 1, b, a, e => by
    obtain ⟨g1, q1, q2⟩ := open_l (b := b) (by omega) 7 0 a rfl
    have q1 : f_X0_openAllDays_2 (11 + 9 * b) 0 a = rtn none g1 := q1
    obtain ⟨g, r1, r2⟩ := end_l n (b + 1) g1 (by omega)
    have q2' : Fr PD a g1 := q2.up fun z k hz => by unfold PD; omega
    refine ⟨g, ?_, q2'.trans r2⟩
    rw [e_X6_end_45, if_pos (show nI b < 4 from nI_lt (a := b) (b := 4) (by omega) (by decide)), airportAt_s (by omega), bR_r, okc_ap b (by omega), gd_t, e_X0_openAllDays_0, q1, bV_r, nI_1, r1, q2 _ _ (by omega), q2 _ _ (by omega)]
theorem end_n (V : VN h) (hs : sn h = 20) : F_X6_end [.ref 0] h = thr 2 h := by
  rw [e_X6_end_0, V.n.2, hs, if_neg (by decide)]
def PE (a k : Nat) : Prop := (a = 0 ∧ 10 ≤ k ∧ k ≤ 14) ∨ (167 ≤ a ∧ a < 227) ∨ PD a k
theorem end_s (I : Inv h) (hs : sn h < 20) : ∃ g, F_X6_end [.ref 0] h = rtn (some (.int (nI (cnt (eaB h) (ns h))))) g ∧ Inv g ∧ Fr PE h g ∧ nq g = 0 ∧ ns g = 0 ∧ nr g = cnt (eaB h) (ns h) ∧ sn g = sn h + 1 ∧ Rts g (cnt (eaB h) (ns h)) := by
  obtain ⟨⟨V, A, S, X, Q, T, R, U⟩, P⟩ := I
  have h60 := V.s.1
  have hc := cnt_le (f := eaB h) (ns h)
  obtain ⟨g1, q1, q2, q3⟩ := turn_l V S (ns h) 0 h (by omega) Fr.refl (fun y hy => absurd hy (Nat.not_lt_zero _))
  have q1 : f_X6_turnSeriesIntoRights_4 0 0 h = rtn (some (.int (nI (cnt (eaB h) (ns h))))) g1 := q1
  generalize hE : cnt (eaB h) (ns h) = E at q1 q2 q3 hc
  obtain ⟨g2, r1, r2⟩ := end_l 4 0 (wr (wr (wr (wr g1 0 12 (nI E)) 0 10 0) 0 11 0) 0 13 0) rfl
  have r1 : f_X6_end_45 0 (wr (wr (wr (wr g1 0 12 (nI E)) 0 10 0) 0 11 0) 0 13 0) = rtn (some (.int (rd (wr (wr (wr (wr g1 0 12 (nI E)) 0 10 0) 0 11 0) 0 13 0) 0 12))) (wr g2 0 14 (rd (wr (wr (wr (wr g1 0 12 (nI E)) 0 10 0) 0 11 0) 0 13 0) 0 14 + 1)) := r1
  have w12 : rd (wr (wr (wr (wr g1 0 12 (nI E)) 0 10 0) 0 11 0) 0 13 0) 0 12 = nI E := by
    rw [rd_nk (by decide), rd_nk (by decide), rd_nk (by decide), rd_eqw]
  have w14 : rd (wr (wr (wr (wr g1 0 12 (nI E)) 0 10 0) 0 11 0) 0 13 0) 0 14 = nI (sn h) := by
    rw [rd_nk (by decide), rd_nk (by decide), rd_nk (by decide), rd_nk (by decide), q2 _ _ (by omega)]
    exact V.n.2
  rw [w12, w14, nI_1] at r1
  have F1 : Fr PE h (wr (wr (wr (wr g1 0 12 (nI E)) 0 10 0) 0 11 0) 0 13 0) := by
    have F0 : Fr PE h g1 := q2.up fun b k z => Or.inr (Or.inl z)
    exact (((F0.w (Or.inl ⟨rfl, by decide, by decide⟩)).w (Or.inl ⟨rfl, by decide, by decide⟩)).w (Or.inl ⟨rfl, by decide, by decide⟩)).w (Or.inl ⟨rfl, by decide, by decide⟩)
  have F : Fr PE h (wr g2 0 14 (nI (sn h + 1))) := (F1.trans (r2.up fun b k z => Or.inr (Or.inr z))).w (Or.inl ⟨rfl, by decide, by decide⟩)
  have c0 : ∀ k, k ≠ 14 → rd (wr g2 0 14 (nI (sn h + 1))) 0 k = rd (wr (wr (wr (wr g1 0 12 (nI E)) 0 10 0) 0 11 0) 0 13 0) 0 k := fun k hk => by
    rw [rd_nk hk, r2 _ _ (by unfold PD; omega)]
  have c10 : rd (wr g2 0 14 (nI (sn h + 1))) 0 10 = nI 0 := by rw [c0 10 (by decide), rd_nk (by decide), rd_nk (by decide), rd_eqw]; rfl
  have c11 : rd (wr g2 0 14 (nI (sn h + 1))) 0 11 = nI 0 := by rw [c0 11 (by decide), rd_nk (by decide), rd_eqw]; rfl
  have c12 : rd (wr g2 0 14 (nI (sn h + 1))) 0 12 = nI E := by rw [c0 12 (by decide), w12]
  have c13 : rd (wr g2 0 14 (nI (sn h + 1))) 0 13 = nI 0 := by rw [c0 13 (by decide), rd_eqw]; rfl
  have c14 : rd (wr g2 0 14 (nI (sn h + 1))) 0 14 = nI (sn h + 1) := rd_eqw
  have cr : ∀ y k, rd (wr g2 0 14 (nI (sn h + 1))) (167 + y) k = rd g1 (167 + y) k := fun y k => by
    rw [rd_ne (by omega), r2 _ _ (by unfold PD; omega), rd_ne (by omega), rd_ne (by omega), rd_ne (by omega), rd_ne (by omega)]
  generalize hG : wr g2 0 14 (nI (sn h + 1)) = G at F c10 c11 c12 c13 c14 cr r1
  have dq : nq G = 0 := by unfold nq; rw [c10]; decide
  have ds : ns G = 0 := by unfold ns; rw [c11]; decide
  have dp : np G = 0 := by unfold np; rw [c13]; decide
  have dr : nr G = E := by unfold nr; rw [c12, nI_clamp (by omega)]
  have dn : sn G = sn h + 1 := by unfold sn at c14 ⊢; rw [c14, nI_clamp (by unfold sn at hs; omega)]
  have RG : Rts G E := fun y hy => by
    obtain ⟨z1, z2, z3, z4⟩ := q3 y hy
    refine ⟨z1.F fun k _ => cr y k, by rw [cr]; exact z2, by rw [cr]; exact z3, by rw [cr, cr]; exact z4⟩
  refine ⟨G, ?_, ⟨⟨?_, ?_, ?_, ?_, ?_, ?_, ?_, ?_⟩, ?_⟩, F, dq, ds, dr, dn, RG⟩
  · rw [e_X6_end_0, V.n.2, if_pos (show nI (sn h) < 20 from nI_lt (b := 20) hs (by decide)), e_X6_turnSeriesIntoRights_0, q1, bI_r, r1]
  · unfold VN
    rw [dq, ds, dp, dr, dn]
    exact ⟨c10, by decide, c11, rfl, c12, by omega, c13, by decide, c14, by omega⟩
  · intro b hb
    obtain ⟨m, hm, z1, z2, z3⟩ := A b hb
    have q : ∀ a k, 11 ≤ a → a < 47 → ¬ (a = 13 ∨ a = 22 ∨ a = 31 ∨ a = 40) → rd G a k = rd h a k := fun a k h1 h2 h3 => F _ _ (by unfold PE PD; omega)
    refine ⟨m, hm, ?_, ?_, fun r hr => ?_⟩
    · rw [q _ _ (by omega) (by omega) (by omega)]
      exact z1
    · rw [q _ _ (by omega) (by omega) (by omega)]
      exact z2
    · rw [q _ _ (by omega) (by omega) (by omega), q _ _ (by omega) (by omega) (by omega), q _ _ (by omega) (by omega) (by omega)]
      exact z3 r hr
  · intro z hz
    omega
  · intro z hz
    omega
  · intro z hz
    omega
  · intro z hz
    omega
  · intro z hz
    rw [dr] at hz
    exact ⟨(RG z hz).1, (RG z hz).2.1⟩
  · intro z hz
    omega
  · intro z hz
    omega
end ASK
