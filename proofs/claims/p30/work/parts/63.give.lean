/-! a series is given -/
theorem cnt_lt {f : Nat → Bool} {i : Nat} : ∀ {n : Nat}, i < n → f i = false → cnt f n < n
  | 0, h, _ => absurd h (Nat.not_lt_zero _)
  | n + 1, h, e => by
    by_cases c : i = n
    · subst c
      rw [cnt_f e]
      have := cnt_le (f := f) i
      omega
    · have q := cnt_lt (n := n) (by omega) e
      rw [cnt_s]
      cases f n <;> simp <;> omega
theorem cnt_upd {f g : Nat → Bool} {i : Nat} : ∀ {n : Nat}, i < n → (∀ j, j < n → j ≠ i → g j = f j) → f i = false → g i = true → cnt g n = cnt f n + 1
  | 0, h, _, _, _ => absurd h (Nat.not_lt_zero _)
  | n + 1, h, e, e1, e2 => by
    by_cases c : i = n
    · subst c
      rw [cnt_f e1, cnt_t e2, cnt_congr (f := g) (g := f) fun j hj => e j (by omega) (by omega)]
    · have q := cnt_upd (n := n) (by omega) (fun j hj hji => e j (by omega) hji) e1 e2
      rw [cnt_s, cnt_s, q, e n (by omega) (by omega)]
      omega
def PG (i n a k : Nat) : Prop := a = 107 + n ∨ (a = 0 ∧ k = 11) ∨ (a = 47 + i ∧ (k = 9 ∨ k = 11 ∨ k = 12))
section GIVE
variable {h g : Hp} {x : Int32} {i j k n t a b m r s v M : Nat}
theorem copyFrom_s (ha : okc a 7 = true) (hb : okc b 7 = true) (hab : a ≠ b) : ∃ g, F_X5_copyFrom [.ref a, .ref b] h = rtn none g ∧ Fr (fun p k => p = a ∧ k < 7) h g ∧ ∀ k, k < 7 → rd g a k = rd h b k := by
  refine ⟨wr (wr (wr (wr (wr (wr (wr h a 0 (rd h b 0)) a 1 (rd h b 1)) a 2 (rd h b 2)) a 3 (rd h b 3)) a 4 (rd h b 4)) a 5 (rd h b 5)) a 6 (rd h b 6), ?_, ?_, ?_⟩
  · rw [e_X5_copyFrom_0, ha, hb]
    simp only [gd_t]
    simp only [rd_ne (Ne.symm hab)]
  · exact (((((((Fr.refl.w ⟨rfl, by decide⟩).w ⟨rfl, by decide⟩).w ⟨rfl, by decide⟩).w ⟨rfl, by decide⟩).w ⟨rfl, by decide⟩).w ⟨rfl, by decide⟩).w ⟨rfl, by decide⟩)
  · intro k hk
    match k, hk with
    | 0, _ => rw [rd_nk (by decide), rd_nk (by decide), rd_nk (by decide), rd_nk (by decide), rd_nk (by decide), rd_nk (by decide), rd_eqw]
    | 1, _ => rw [rd_nk (by decide), rd_nk (by decide), rd_nk (by decide), rd_nk (by decide), rd_nk (by decide), rd_eqw]
    | 2, _ => rw [rd_nk (by decide), rd_nk (by decide), rd_nk (by decide), rd_nk (by decide), rd_eqw]
    | 3, _ => rw [rd_nk (by decide), rd_nk (by decide), rd_nk (by decide), rd_eqw]
    | 4, _ => rw [rd_nk (by decide), rd_nk (by decide), rd_eqw]
    | 5, _ => rw [rd_nk (by decide), rd_eqw]
    | 6, _ => rw [rd_eqw]
    | n + 7, z => omega
/-- what a giving leaves -/
def Gvn (h g : Hp) (i n t : Nat) : Prop := Fr (PG i n) h g ∧ rd g 0 11 = nI (n + 1) ∧ rd g (47 + i) 9 = 1 ∧ rd g (47 + i) 11 = nI n ∧ rd g (47 + i) 12 = -1 ∧ (∀ k, k < 7 → k ≠ 3 → rd g (107 + n) k = rd h (47 + i) k) ∧ rd g (107 + n) 3 = nI t ∧ rd g (107 + n) 7 = nI i ∧ rd g (107 + n) 8 = rd h (47 + i) 7 ∧ rd g (107 + n) 9 = rd h (47 + i) 7 ∧ rd g (107 + n) 11 = 0 ∧ rd g (107 + n) 12 = 0
theorem give_g (eq : rd h 0 10 = nI m) (hm : m ≤ 60) (hi : i < m) (en : rd h 0 11 = nI n) (hn : n < 60) : ∃ g, F_X6_give [.ref 0, .int (nI i), .int (nI t)] h = rtn none g ∧ Gvn h g i n t := by
  obtain ⟨g1, c1, c2, c3⟩ := copyFrom_s (h := wr h 0 11 (nI (n + 1))) (a := 107 + n) (b := 47 + i) (okc_sr n hn).2 (okc_rq i (by omega)).2 (by omega)
  have q7 : rd g1 (47 + i) 7 = rd h (47 + i) 7 := by rw [c2 _ _ (by omega), rd_ne (by omega)]
  refine ⟨wr (wr (wr (wr (wr (wr (wr (wr (wr (wr g1 (107 + n) 3 (nI t)) (107 + n) 7 (nI i)) (107 + n) 8 (rd h (47 + i) 7)) (107 + n) 9 (rd h (47 + i) 7)) (107 + n) 10 0) (107 + n) 11 0) (107 + n) 12 0) (47 + i) 9 1) (47 + i) 11 (nI n)) (47 + i) 12 (-1), ?_, ?_⟩
  · rw [e_X6_give_0, requestAt_n eq hm hi, bR_r, en, nI_1, seriesAt_n (n := n + 1) rd_eqw (by omega) (by omega), bR_r, (okc_sr n hn).1, (okc_rq i (by omega)).1]
    simp only [gd_t]
    rw [e_X4_begin_0, (okc_sr n hn).1, (okc_rq i (by omega)).1]
    simp only [gd_t]
    rw [c1, bV_r, bV_r]
    rw [rd_ne (a := 107 + n) (by omega), rd_ne (a := 107 + n) (by omega), q7, rd_ne (a := 107 + n) (by omega), rd_ne (a := 107 + n) (by omega), rd_ne (a := 107 + n) (by omega), q7]
  · refine ⟨?_, ?_, ?_, ?_, ?_, ?_, ?_, ?_, ?_, ?_, ?_, ?_⟩
    · have F0 : Fr (PG i n) h g1 := (Fr.refl.w (Or.inr (Or.inl ⟨rfl, rfl⟩))).trans (c2.up fun b k z => Or.inl z.1)
      exact ((((((((((F0.w (Or.inl rfl)).w (Or.inl rfl)).w (Or.inl rfl)).w (Or.inl rfl)).w (Or.inl rfl)).w (Or.inl rfl)).w (Or.inl rfl)).w (Or.inr (Or.inr ⟨rfl, Or.inl rfl⟩))).w (Or.inr (Or.inr ⟨rfl, Or.inr (Or.inl rfl)⟩))).w (Or.inr (Or.inr ⟨rfl, Or.inr (Or.inr rfl)⟩)))
    · simp only [rd_wrx]
      repeat rw [if_neg (by omega)]
      rw [c2 _ _ (by omega), rd_eqw]
    · simp only [rd_wrx]
      rw [if_neg (by omega), if_neg (by omega), if_pos (by simp)]
    · simp only [rd_wrx]
      rw [if_neg (by omega), if_pos (by simp)]
    · exact rd_eqw
    · intro k hk hk3
      simp only [rd_wrx]
      repeat rw [if_neg (by omega)]
      rw [c3 k hk, rd_ne (by omega)]
    · simp only [rd_wrx]
      rw [if_neg (by omega), if_neg (by omega), if_neg (by omega), if_neg (by omega), if_neg (by omega), if_neg (by omega), if_neg (by omega), if_neg (by omega), if_neg (by omega), if_pos (by simp)]
    · simp only [rd_wrx]
      rw [if_neg (by omega), if_neg (by omega), if_neg (by omega), if_neg (by omega), if_neg (by omega), if_neg (by omega), if_neg (by omega), if_neg (by omega), if_pos (by simp)]
    · simp only [rd_wrx]
      rw [if_neg (by omega), if_neg (by omega), if_neg (by omega), if_neg (by omega), if_neg (by omega), if_neg (by omega), if_neg (by omega), if_pos (by simp)]
    · simp only [rd_wrx]
      rw [if_neg (by omega), if_neg (by omega), if_neg (by omega), if_neg (by omega), if_neg (by omega), if_neg (by omega), if_pos (by simp)]
    · simp only [rd_wrx]
      rw [if_neg (by omega), if_neg (by omega), if_neg (by omega), if_neg (by omega), if_pos (by simp)]
    · simp only [rd_wrx]
      rw [if_neg (by omega), if_neg (by omega), if_neg (by omega), if_pos (by simp)]
theorem VN.room (V : VN h) (hi : i < nq h) (hs : rd h (47 + i) 9 ≠ 1) : ns h < nq h := by
  rw [V.2.2.2.1]
  exact cnt_lt hi (decide_eq_false hs)
/-- what holds, holds on -/
theorem Gvn.inv (I : Inv0 h) (hi : i < nq h) (hs : rd h (47 + i) 9 ≠ 1) (ht : t < 72) (G : Gvn h g i (ns h) t) : Inv0 g ∧ ns g = ns h + 1 := by
  obtain ⟨b1, b2, b3, b4, b5, b6, b7, b8⟩ := I
  have hr := b1.room hi hs
  have h60 := b1.q.1
  have h61 := b1.r.1
  obtain ⟨F, g0, g1, g2, g3, g4, g5, g6, g7, g8, g9, g10⟩ := G
  have q : ∀ a k, ¬ (a = 107 + ns h ∨ (a = 0 ∧ k = 11) ∨ (a = 47 + i ∧ (k = 9 ∨ k = 11 ∨ k = 12))) → rd g a k = rd h a k := fun a k z => F a k z
  have en : ns g = ns h + 1 := by
    unfold ns at g0 ⊢
    rw [g0, nI_clamp (by unfold ns at hr; omega)]
  have em : nq g = nq h := by
    unfold nq
    rw [q _ _ (by omega)]
  have er : nr g = nr h := by
    unfold nr
    rw [q _ _ (by omega)]
  refine ⟨⟨?_, b2.F (fun a k _ _ => q _ _ (by omega)), ?_, ?_, b5.F (q _ _ (by omega)) (q _ _ (by omega)) (fun z k hz hk => q _ _ (by omega)), ?_, b7.F (q _ _ (by omega)) (fun z k hz _ => q _ _ (by omega)), b8.F (q _ _ (by omega)) (q _ _ (by omega)) (fun p _ => q _ _ (by omega))⟩, en⟩
  · obtain ⟨v1, v2, v3, v4, v5, v6, v7, v8, v9, v10⟩ := b1
    have ep : np g = np h := by
      unfold np
      rw [q _ _ (by omega)]
    have es : sn g = sn h := by
      unfold sn
      rw [q _ _ (by omega)]
    unfold VN
    rw [em, en, er, ep, es, q _ _ (by omega), q 0 12 (by omega), q 0 13 (by omega), q 0 14 (by omega)]
    refine ⟨v1, v2, g0, ?_, v5, v6, v7, v8, v9, v10⟩
    rw [cnt_upd (f := stB 1 h) (g := stB 1 g) hi (fun z hz hzi => by unfold stB; rw [q _ _ (by omega)]) (decide_eq_false hs) (decide_eq_true g1), v4]
  · intro z hz
    rw [en] at hz
    by_cases c : z = ns h
    · subst c
      obtain ⟨s0, s7, s8⟩ := b5 i hi
      refine ⟨?_, by rw [g7]; exact s7, by rw [g8]; exact s7, Or.inl g10, fun _ => by rw [g9]; decide⟩
      obtain ⟨t0, t1, t2, t3, t4, t5, t6⟩ := s0
      unfold SLT7
      rw [g4 0 (by decide) (by decide), g4 1 (by decide) (by decide), g4 2 (by decide) (by decide), g5, g4 4 (by decide) (by decide), g4 5 (by decide) (by decide), g4 6 (by decide) (by decide)]
      exact ⟨t0, t1, t2, nI_irg (n := 71) (by omega) (by decide), t4, t5, t6⟩
    · obtain ⟨s0, s1, s2, s3, s4⟩ := b3 z (by omega)
      refine ⟨s0.F fun k hk => q _ _ (by omega), by rw [q _ _ (by omega)]; exact s1, by rw [q _ _ (by omega)]; exact s2, by rw [q _ _ (by omega)]; exact s3, ?_⟩
      rw [q _ _ (by omega), q _ _ (by omega)]
      exact s4
  · intro z hz
    rw [en] at hz
    rw [em]
    by_cases c : z = ns h
    · subst c
      exact ⟨i, hi, g6, g1, g2⟩
    · obtain ⟨y, y1, y2, y3, y4⟩ := b4 z (by omega)
      have hyi : y ≠ i := fun w => hs (by rw [← w]; exact y3)
      exact ⟨y, y1, by rw [q _ _ (by omega)]; exact y2, by rw [q _ _ (by omega)]; exact y3, by rw [q _ _ (by omega)]; exact y4⟩
  · intro z hz
    rw [em] at hz
    rw [en]
    by_cases c : z = i
    · subst c
      rw [g1, g2, g3]
      exact ⟨by decide, fun w => absurd w (by decide), fun _ => rfl, fun w => absurd rfl w, fun _ => ⟨ns h, by omega, rfl, g6⟩⟩
    · obtain ⟨t1, t2, t3, t4, t5⟩ := b6 z hz
      rw [q _ 9 (by omega), q _ 12 (by omega), q _ 11 (by omega)]
      refine ⟨t1, t2, t3, t4, fun w => ?_⟩
      obtain ⟨y, y1, y2, y3⟩ := t5 w
      exact ⟨y, by omega, y2, by rw [q _ _ (by omega)]; exact y3⟩
/-- windows that are kept -/
def WK (h g : Hp) : Prop := ∀ a r m x3 v, a < 4 → r < m → m ≤ 6 → rd h (11 + 9 * a) 2 = nI m → v < 20 → WP h a r x3 (nI v) (rd h (14 + 9 * a + r) 2).toNatClampNeg → WP g a r x3 (nI v) (rd h (14 + 9 * a + r) 2).toNatClampNeg
theorem Gvn.wk (I : Inv0 h) (hi : i < nq h) (hs : rd h (47 + i) 9 ≠ 1) (ht : t < 72) (hf : Fits h i t) (G : Gvn h g i (ns h) t) : WK h g := by
  have en := (G.inv I hi hs ht).2
  obtain ⟨b1, b2, b3, b4, b5, b6, b7, b8⟩ := I
  have hr := b1.room hi hs
  have h60 := b1.q.1
  obtain ⟨F, g0, g1, g2, g3, g4, g5, g6, g7, g8, g9, g10⟩ := G
  have q : ∀ a k, ¬ (a = 107 + ns h ∨ (a = 0 ∧ k = 11) ∨ (a = 47 + i ∧ (k = 9 ∨ k = 11 ∨ k = 12))) → rd g a k = rd h a k := fun a k z => F a k z
  intro a r m x3 v ha hrm hm em hv W s hsl
  rw [q _ 1 (by omega)] at hsl
  have w0 := W s hsl
  rw [en, q _ 0 (by omega), q _ 1 (by omega)]
  have e1 : cnt (ldB (nI a) (rd h (14 + 9 * a + r) 0) x3 (nI v) (nI s) (nI s + rd h (14 + 9 * a + r) 1 - 1) g) (ns h) = cnt (ldB (nI a) (rd h (14 + 9 * a + r) 0) x3 (nI v) (nI s) (nI s + rd h (14 + 9 * a + r) 1 - 1) h) (ns h) := cnt_congr fun z hz => by
    unfold ldB cB
    rw [q _ _ (by omega), q _ _ (by omega), q _ _ (by omega), q _ _ (by omega), q _ _ (by omega), q _ _ (by omega), q _ _ (by omega)]
  cases e2 : ldB (nI a) (rd h (14 + 9 * a + r) 0) x3 (nI v) (nI s) (nI s + rd h (14 + 9 * a + r) 1 - 1) g (ns h) with
  | false =>
    rw [cnt_f e2, e1]
    exact w0
  | true =>
    rw [cnt_t e2, e1]
    unfold ldB cB at e2
    simp only [Bool.and_eq_true, Bool.or_eq_true, decide_eq_true_eq] at e2
    obtain ⟨⟨⟨⟨⟨k1, k2⟩, k3⟩, k4⟩, k5⟩, k6⟩ := e2
    rw [g4 0 (by decide) (by decide)] at k2
    rw [g4 2 (by decide) (by decide)] at k3
    rw [g4 1 (by decide) (by decide)] at k4
    rw [g5] at k5
    rw [g4 4 (by decide) (by decide), g4 5 (by decide) (by decide)] at k6
    obtain ⟨m9, hm9, z1, -, z2⟩ := b2 a ha
    have e9 : m9 = m := nI_inj (by omega) (by omega) (z1.symm.trans em)
    subst e9
    obtain ⟨ln, hl1, hl6, el⟩ := irg_16 (z2 r hrm).2.1
    obtain ⟨f, l, hfl, hl, ef, ew⟩ := irg_fl (b5 i hi).1.2.2.2.2.1 (b5 i hi).1.2.2.2.2.2.1
    have hF := hf a m9 r ha k2 em hm hrm
    unfold FitR at hF
    rw [el, nI_clamp (by omega)] at hsl
    rw [el] at k5 hF w0 ⊢
    rw [ef, ew] at k6 hF
    rw [nI_clamp (by omega), nI_clamp (by omega), nI_clamp (by omega)] at hF
    have e8 : nI s + nI ln - 1 = nI (s + ln - 1) := by
      rw [nI_add, show s + ln = (s + ln - 1) + 1 by omega, nI_pred]
      rfl
    have k5' := k5
    rw [e8] at k5'
    obtain ⟨p1, p2⟩ := irg_t k5'
    have p1' : s ≤ t := by
      have : ¬ t < s := fun z => p1 (nI_lt z (by omega))
      omega
    have p2' : t < s + ln := by
      have : ¬ s + ln - 1 < t := fun z => p2 (nI_lt z (by omega))
      omega
    obtain ⟨p3, p4⟩ := irg_t k6
    have p3' : f ≤ v := by
      have : ¬ v < f := fun z => p3 (nI_lt z (by omega))
      omega
    have p4' : v ≤ l := by
      have : ¬ l < v := fun z => p4 (nI_lt z (by omega))
      omega
    have hlt : cnt (ldB (nI a) (rd h (14 + 9 * a + r) 0) x3 (nI v) (nI s) (nI s + nI ln - 1) h) (ns h) < (rd h (14 + 9 * a + r) 2).toNatClampNeg := by
      apply Nat.lt_of_not_le
      intro z
      apply hF
      refine ⟨k4.imp id Eq.symm, v, s, p3', p4', p1', p2', hsl, ?_⟩
      unfold Lw
      rw [k2, k3]
      exact z
    omega
end GIVE
