/-! what a conference decides, what is accepted, who is served -/
/-- what a deciding may write -/
def PC (a k : Nat) : Prop := (a = 0 ∧ (k = 11 ∨ k = 13)) ∨ (47 ≤ a ∧ a < 107 ∧ (k = 9 ∨ k = 11 ∨ k = 12)) ∨ (107 ≤ a ∧ a < 167) ∨ a = 6 ∨ a = 10
def Grow (h g : Hp) : Prop := Fr PC h g ∧ ns h ≤ ns g ∧ (∀ j, j < ns h → ∀ k, rd g (107 + j) k = rd h (107 + j) k) ∧ WK h g
section DECIDE
variable {h g f : Hp} {x : Int32} {i j k n t a b m r s v p : Nat}
theorem WK.refl : WK h h := fun _ _ _ _ _ _ _ _ _ _ W => W
theorem WK.trans (H : WK h g) (G : WK g f) (e : ∀ a k, 11 ≤ a → a < 47 → rd g a k = rd h a k) : WK h f := by
  intro a r m x3 v ha hr hm em hv W
  have w1 := H a r m x3 v ha hr hm em hv W
  have w2 := G a r m x3 v ha hr hm (by rw [e _ _ (by omega) (by omega)]; exact em) hv
  rw [e _ _ (by omega) (by omega)] at w2
  exact w2 w1
/-- a change that no window sees -/
theorem WK.same (e0 : rd g 0 11 = rd h 0 11) (e : ∀ a k, 11 ≤ a → a < 47 → rd g a k = rd h a k) (e2 : ∀ j k, j < ns h → rd g (107 + j) k = rd h (107 + j) k) : WK h g := by
  intro a r m x3 v ha hr hm em hv W s hs
  have en : ns g = ns h := by
    unfold ns
    rw [e0]
  rw [e _ _ (by omega) (by omega)] at hs
  have w := W s hs
  rw [en, e _ _ (by omega) (by omega), e _ _ (by omega) (by omega)]
  rw [cnt_congr (g := ldB (nI a) (rd h (14 + 9 * a + r) 0) x3 (nI v) (nI s) (nI s + rd h (14 + 9 * a + r) 1 - 1) h) fun z hz => by
    unfold ldB cB
    rw [e2 z _ hz, e2 z _ hz, e2 z _ hz, e2 z _ hz, e2 z _ hz, e2 z _ hz, e2 z _ hz]]
  exact w
theorem Grow.refl : Grow h h := ⟨Fr.refl, Nat.le_refl _, fun _ _ _ => rfl, WK.refl⟩
theorem Grow.trans (H : Grow h g) (G : Grow g f) : Grow h f := by
  obtain ⟨h1, h2, h3, h4⟩ := H
  obtain ⟨g1, g2, g3, g4⟩ := G
  exact ⟨h1.trans g1, Nat.le_trans h2 g2, fun j hj k => (g3 j (by omega) k).trans (h3 j hj k), h4.trans g4 fun a k q1 q2 => h1 _ _ (by unfold PC; omega)⟩
/-- .. by what changes no series that counts -/
theorem Grow.same (F : Fr PC h g) (e0 : rd g 0 11 = rd h 0 11) (e2 : ∀ j k, j < ns h → rd g (107 + j) k = rd h (107 + j) k) : Grow h g :=
  ⟨F, by unfold ns; rw [e0]; exact Nat.le_refl _, fun j hj k => e2 j k hj, WK.same e0 (fun a k q1 q2 => F _ _ (by unfold PC; omega)) e2⟩
theorem Gvn.grow (I : Inv0 h) (hi : i < nq h) (hs : rd h (47 + i) 9 ≠ 1) (ht : t < 72) (hf : Fits h i t) (G : Gvn h g i (ns h) t) : Grow h g := by
  have h60 := I.1.q.1
  have hr := I.1.room hi hs
  have en := (G.inv I hi hs ht).2
  have hw := G.wk I hi hs ht hf
  refine ⟨G.1.up fun b k z => ?_, by omega, fun j hj k => G.1 _ _ ?_, hw⟩
  · rcases z with z | z | z
    · exact Or.inr (Or.inr (Or.inl ⟨by omega, by omega⟩))
    · exact Or.inl ⟨z.1, Or.inl z.2⟩
    · exact Or.inr (Or.inl ⟨by omega, by omega, z.2⟩)
  · unfold PG
    omega
theorem Inv0.t10 (I : Inv0 h) (F : Fr T10 h g) : Inv0 g := by
  obtain ⟨b1, b2, b3, b4, b5, b6, b7, b8⟩ := I
  have q : ∀ a k, ¬ a = 10 → rd g a k = rd h a k := fun a k z => F a k z
  exact ⟨b1.F (fun k _ _ => q _ _ (by omega)) (fun i hi => q _ _ (by omega)), b2.F (fun a k _ _ => q _ _ (by omega)), b3.F (q _ _ (by omega)) (fun i k _ _ _ => q _ _ (by omega)), b4.F (q _ _ (by omega)) (q _ _ (by omega)) (fun i _ => q _ _ (by omega)) (fun i _ _ => ⟨q _ _ (by omega), q _ _ (by omega)⟩), b5.F (q _ _ (by omega)) (q _ _ (by omega)) (fun i k _ _ => q _ _ (by omega)), b6.F (q _ _ (by omega)) (q _ _ (by omega)) (fun i k _ _ => q _ _ (by omega)) (fun i _ => q _ _ (by omega)), b7.F (q _ _ (by omega)) (fun i k _ _ => q _ _ (by omega)), b8.F (q _ _ (by omega)) (q _ _ (by omega)) (fun p _ => q _ _ (by omega))⟩
theorem Grow.t10 (F : Fr T10 h g) : Grow h g := Grow.same (F.up fun b k z => Or.inr (Or.inr (Or.inr (Or.inr z)))) (F _ _ (by unfold T10; omega)) fun j k _ => F _ _ (by unfold T10; omega)
theorem Fits.t10 (F : Fr T10 h g) (H : Fits h i t) : Fits g i t := by
  have q : ∀ a k, ¬ a = 10 → rd g a k = rd h a k := fun a k z => F a k z
  have en : ns g = ns h := by unfold ns; rw [q _ _ (by omega)]
  intro b m r hb eb em hm hr
  rw [q _ _ (by omega)] at eb em
  have w := H b m r hb eb em hm hr
  unfold FitR Brk Lw at w ⊢
  rw [en, q _ _ (by omega), q _ _ (by omega), q _ _ (by omega), q _ _ (by omega), q _ _ (by omega), q _ _ (by omega), q _ _ (by omega), q _ _ (by omega)]
  have e : ∀ x1 kd x3 x4 s to, ldB x1 kd x3 x4 s to g = ldB x1 kd x3 x4 s to h := fun x1 kd x3 x4 s to => funext fun z => by
    unfold ldB cB
    rw [q _ _ (by omega), q _ _ (by omega), q _ _ (by omega), q _ _ (by omega), q _ _ (by omega), q _ _ (by omega), q _ _ (by omega)]
  simp only [e]
  exact w
/-- what is given, or not -/
theorem giveIfItFits_s (I : Inv0 h) (hi : i < nq h) (hs : rd h (47 + i) 9 ≠ 1) : (∃ g, F_X6_giveIfItFits [.ref 0, .int (nI i)] h = rtn (some (.int 0)) g ∧ Fr T10 h g) ∨
    ∃ g1 g t, F_X6_giveIfItFits [.ref 0, .int (nI i)] h = rtn (some (.int 1)) g ∧ Fr T10 h g1 ∧ t < 72 ∧ Gvn g1 g i (ns h) t ∧ Inv0 g ∧ Grow h g ∧ ns g = ns h + 1 := by
  have V := I.1
  have h60 := V.q.1
  obtain ⟨t, ht, et⟩ := irg_nI (n := 71) (by decide) (I.2.2.2.2.1 i hi).1.2.2.2.1
  obtain ⟨x, g1, q1, q2, q3⟩ := reason_s (i := i) (t := t) V I.2.1 I.2.2.1 (by omega) (I.2.2.2.2.1 i hi).1 (by omega)
  have q : ∀ a k, ¬ a = 10 → rd g1 a k = rd h a k := fun a k z => q2 a k z
  rw [e_X6_giveIfItFits_0, requestAt_s V hi, bR_r, (okc_rq i (by omega)).1]
  simp only [gd_t]
  rw [et, q1, bI_r]
  by_cases c : x = 0
  · right
    have I1 := I.t10 q2
    have em : nq g1 = nq h := by unfold nq; rw [q _ _ (by omega)]
    have en : ns g1 = ns h := by unfold ns; rw [q _ _ (by omega)]
    have hr := V.room hi hs
    obtain ⟨g, p1, p2⟩ := give_g (h := g1) (i := i) (n := ns h) (t := t) (m := nq g1) I1.1.q.2 I1.1.q.1 (by omega) (by rw [q _ _ (by omega)]; exact V.s.2) (by omega)
    have p2' := p2
    rw [← en] at p2'
    have hs1 : rd g1 (47 + i) 9 ≠ 1 := by rw [q _ _ (by omega)]; exact hs
    refine ⟨g1, g, t, ?_, q2, by omega, p2, (p2'.inv I1 (by omega) hs1 (by omega)).1, (Grow.t10 q2).trans (p2'.grow I1 (by omega) hs1 (by omega) (Fits.t10 q2 (q3 c))), by rw [(p2'.inv I1 (by omega) hs1 (by omega)).2, en]⟩
    rw [if_pos c, q _ _ (by omega), et, p1, bV_r]
  · left
    refine ⟨g1, ?_, q2⟩
    rw [if_neg c]
/-! the row of those that wait -/
theorem putInQueue_s (ep : rd h 0 13 = nI p) (hp : p ≤ 60) : ∃ g, F_X6_putInQueue [.ref 0, .int x] h = rtn none g ∧ Fr (fun a k => a = 6 ∨ (a = 0 ∧ k = 13)) h g ∧ ((p = 60 ∧ g = h) ∨ (p < 60 ∧ rd g 0 13 = nI (p + 1) ∧ rd g 6 p = x ∧ ∀ z, z ≠ p → rd g 6 z = rd h 6 z)) := by
  by_cases c : p < 60
  · refine ⟨wr (wr h 6 p x) 0 13 (nI (p + 1)), ?_, (Fr.refl.w (Or.inl rfl)).w (Or.inr ⟨rfl, rfl⟩), Or.inr ⟨c, rd_eqw, by rw [rd_ne (by decide), rd_eqw], fun z hz => by rw [rd_ne (by decide), rd_nk hz]⟩⟩
    rw [e_X6_putInQueue_0, ep, if_pos (show nI p < 60 from nI_lt (b := 60) c (by decide)), inb_nI c (by decide), gd_t, nI_clamp (by omega), nI_1]
  · refine ⟨h, ?_, Fr.refl, Or.inl ⟨by omega, rfl⟩⟩
    rw [e_X6_putInQueue_0, ep, if_neg (show ¬ nI p < 60 from nI_nlt (b := 60) (by omega) (by omega))]
/-- the row grows by one that is a request -/
def Quo (h g : Hp) : Prop := Fr (fun a k => a = 6 ∨ (a = 0 ∧ k = 13)) h g ∧ rd g 0 13 = nI (np g) ∧ np g ≤ 60 ∧ (∀ z, z < np g → rd g 6 z = rd h 6 z ∧ z < np h ∨ ∃ y, y < nq h ∧ rd g 6 z = nI y)
theorem putInQueue_q (V : VN h) (hi : i < nq h) : ∃ g, F_X6_putInQueue [.ref 0, .int (nI i)] h = rtn none g ∧ Quo h g := by
  have h60 := V.p.1
  obtain ⟨g, q1, q2, q3⟩ := putInQueue_s (x := nI i) V.p.2 h60
  refine ⟨g, q1, q2, ?_⟩
  rcases q3 with ⟨z1, rfl⟩ | ⟨z1, z2, z3, z4⟩
  · exact ⟨V.p.2, h60, fun z hz => Or.inl ⟨rfl, hz⟩⟩
  · have en : np g = np h + 1 := by
      unfold np at z2 ⊢
      rw [z2, nI_clamp (by unfold np at z1; omega)]
    rw [en]
    refine ⟨z2, by omega, fun z hz => ?_⟩
    by_cases c : z = np h
    · exact Or.inr ⟨i, hi, by rw [c]; exact z3⟩
    · exact Or.inl ⟨z4 z c, by omega⟩
theorem Quo.inv (I : Inv0 h) (Q : Quo h g) : Inv0 g := by
  obtain ⟨b1, b2, b3, b4, b5, b6, b7, b8⟩ := I
  obtain ⟨F, q1, q2, q3⟩ := Q
  have q : ∀ a k, ¬ (a = 6 ∨ (a = 0 ∧ k = 13)) → rd g a k = rd h a k := fun a k z => F a k z
  have em : nq g = nq h := by unfold nq; rw [q _ _ (by omega)]
  refine ⟨?_, b2.F (fun a k _ _ => q _ _ (by omega)), b3.F (q _ _ (by omega)) (fun i k _ _ _ => q _ _ (by omega)), b4.F (q _ _ (by omega)) (q _ _ (by omega)) (fun i _ => q _ _ (by omega)) (fun i _ _ => ⟨q _ _ (by omega), q _ _ (by omega)⟩), b5.F (q _ _ (by omega)) (q _ _ (by omega)) (fun i k _ _ => q _ _ (by omega)), b6.F (q _ _ (by omega)) (q _ _ (by omega)) (fun i k _ _ => q _ _ (by omega)) (fun i _ => q _ _ (by omega)), b7.F (q _ _ (by omega)) (fun i k _ _ => q _ _ (by omega)), ?_⟩
  · obtain ⟨v1, v2, v3, v4, v5, v6, v7, v8, v9, v10⟩ := b1
    have en : ns g = ns h := by unfold ns; rw [q _ _ (by omega)]
    have er : nr g = nr h := by unfold nr; rw [q _ _ (by omega)]
    have es : sn g = sn h := by unfold sn; rw [q _ _ (by omega)]
    unfold VN
    rw [em, en, er, es, q 0 10 (by omega), q 0 11 (by omega), q 0 12 (by omega), q 0 14 (by omega)]
    refine ⟨v1, v2, v3, ?_, v5, v6, q1, q2, v9, v10⟩
    rw [v4]
    exact cnt_congr fun z hz => by unfold stB; rw [q _ _ (by omega)]
  · intro z hz
    rw [em]
    rcases q3 z hz with ⟨w1, w2⟩ | w
    · rw [w1]
      exact b8 z w2
    · exact w
theorem Quo.grow (V : VN h) (Q : Quo h g) : Grow h g := by
  have h60 := V.s.1
  exact Grow.same (Q.1.up fun b k z => by unfold PC; omega) (Q.1 _ _ (by omega)) fun j k hj => Q.1 _ _ (by omega)
/-- a request that waits, or is offered a time -/
theorem wait_inv (I : Inv0 h) (hi : i < nq h) (hs : rd h (47 + i) 9 ≠ 1) (F : Fr (fun a k => a = 10 ∨ (a = 47 + i ∧ (k = 9 ∨ k = 11 ∨ k = 12)) ∨ a = 107 + ns h) h g) (e11 : rd g (47 + i) 11 = -1) (e : (rd g (47 + i) 9 = 3 ∧ rd g (47 + i) 12 = -1) ∨ (rd g (47 + i) 9 = 2 ∧ irg (rd g (47 + i) 12) 0 71 = true)) : Inv0 g ∧ Grow h g := by
  have G : Grow h g := by
    have h60 := I.1.q.1
    have hr := I.1.room hi hs
    exact Grow.same (F.up fun b k z => by unfold PC; omega) (F _ _ (by omega)) fun j k hj => F _ _ (by omega)
  refine ⟨?_, G⟩
  obtain ⟨b1, b2, b3, b4, b5, b6, b7, b8⟩ := I
  have hr := b1.room hi hs
  have h60 := b1.q.1
  have h61 := b1.r.1
  have q : ∀ a k, ¬ (a = 10 ∨ (a = 47 + i ∧ (k = 9 ∨ k = 11 ∨ k = 12)) ∨ a = 107 + ns h) → rd g a k = rd h a k := fun a k z => F a k z
  have e9 : rd g (47 + i) 9 ≠ 1 := by
    rcases e with e | e <;> rw [e.1] <;> decide
  have em : nq g = nq h := by unfold nq; rw [q _ _ (by omega)]
  have en : ns g = ns h := by unfold ns; rw [q _ _ (by omega)]
  refine ⟨?_, b2.F (fun a k _ _ => q _ _ (by omega)), b3.F (q _ _ (by omega)) (fun z k _ _ _ => q _ _ (by omega)), b4.F (q _ _ (by omega)) (q _ _ (by omega)) (fun z _ => q _ _ (by omega)) (fun z hz hz1 => ?_), b5.F (q _ _ (by omega)) (q _ _ (by omega)) (fun z k _ _ => q _ _ (by omega)), ?_, b7.F (q _ _ (by omega)) (fun z k _ _ => q _ _ (by omega)), b8.F (q _ _ (by omega)) (q _ _ (by omega)) (fun p _ => q _ _ (by omega))⟩
  · obtain ⟨v1, v2, v3, v4, v5, v6, v7, v8, v9, v10⟩ := b1
    have er : nr g = nr h := by unfold nr; rw [q _ _ (by omega)]
    have es : sn g = sn h := by unfold sn; rw [q _ _ (by omega)]
    have ep : np g = np h := by unfold np; rw [q _ _ (by omega)]
    unfold VN
    rw [em, en, er, es, ep, q 0 10 (by omega), q 0 11 (by omega), q 0 12 (by omega), q 0 13 (by omega), q 0 14 (by omega)]
    refine ⟨v1, v2, v3, ?_, v5, v6, v7, v8, v9, v10⟩
    rw [v4]
    exact cnt_congr fun z hz => by
      unfold stB
      by_cases c : z = i
      · subst c
        rw [decide_eq_false hs, decide_eq_false e9]
      · rw [q _ _ (by omega)]
  · have hzi : z ≠ i := fun w => hs (by rw [← w]; exact hz1)
    exact ⟨q _ _ (by omega), q _ _ (by omega)⟩
  · intro z hz
    rw [em] at hz
    rw [en]
    by_cases c : z = i
    · subst c
      rcases e with ⟨w1, w2⟩ | ⟨w1, w2⟩
      · rw [w1, w2]
        exact ⟨by decide, fun w => absurd w (by decide), fun _ => rfl, fun _ => e11, fun w => absurd w (by decide)⟩
      · rw [w1]
        exact ⟨by decide, fun _ => w2, fun w => absurd rfl w, fun _ => e11, fun w => absurd w (by decide)⟩
    · obtain ⟨t1, t2, t3, t4, t5⟩ := b6 z hz
      rw [q _ 9 (by omega), q _ 12 (by omega), q _ 11 (by omega)]
      refine ⟨t1, t2, t3, t4, fun w => ?_⟩
      obtain ⟨y, y1, y2, y3⟩ := t5 w
      exact ⟨y, y1, y2, by rw [q _ _ (by omega)]; exact y3⟩
end DECIDE
