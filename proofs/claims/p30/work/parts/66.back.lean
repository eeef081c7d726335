/-! accepted offers, slots given back, those that are served; a new request; a season's end -/
section BACK
variable {h g f : Hp} {x : Int32} {i j k n t a b m r s v p w c : Nat}
theorem accept_n (V : VN h) (hi : i < nq h) (h2 : rd h (47 + i) 9 ≠ 2) : F_X6_accept [.ref 0, .int (nI i)] h = thr 2 h := by
  have h60 := V.q.1
  rw [e_X6_accept_0, requestAt_s V hi, bR_r, (okc_rq i (by omega)).1, gd_t, if_neg h2]
/-- partners are kept where nobody's state comes to be asked, or was -/
theorem VP.non (H : VP h) (h60 : nq h ≤ 60) (e1 : rd g 0 10 = rd h 0 10) (e : ∀ z, z < nq h → rd g (47 + z) 13 = rd h (47 + z) 13) (e9 : ∀ z, z < nq h → (rd g (47 + z) 9 = 0 ↔ rd h (47 + z) 9 = 0)) : VP g := H.F e1 e fun z hz _ => e9 z hz
theorem accept_s (I : Inv h) (hi : i < nq h) (h2 : rd h (47 + i) 9 = 2) : (∃ g, F_X6_accept [.ref 0, .int (nI i)] h = rtn (some (.int 1)) g ∧ Inv g ∧ Grow h g ∧ ns g = ns h + 1 ∧ rd g (47 + i) 9 = 1 ∧ rd g (47 + i) 12 = -1 ∧ rd g (47 + i) 11 = nI (ns h) ∧ rd g (107 + ns h) 3 = rd h (47 + i) 12) ∨
    ∃ g, F_X6_accept [.ref 0, .int (nI i)] h = rtn (some (.int 0)) g ∧ Inv g ∧ Grow h g ∧ ns g = ns h ∧ rd g (47 + i) 9 = 3 ∧ rd g (47 + i) 12 = -1 := by
  have V := I.1.1
  have h60 := V.q.1
  have hs : rd h (47 + i) 9 ≠ 1 := by rw [h2]; decide
  have hr := V.room hi hs
  obtain ⟨t, ht, et⟩ := irg_nI (n := 71) (by decide) ((I.1.2.2.2.2.2.1 i hi).2.1 h2)
  obtain ⟨x, g1, q1, q2, q3⟩ := reason_s (i := i) (t := t) V I.1.2.1 I.1.2.2.1 (by omega) (I.1.2.2.2.2.1 i hi).1 (by omega)
  have q : ∀ a k, ¬ a = 10 → rd g1 a k = rd h a k := fun a k z => q2 a k z
  rw [e_X6_accept_0, requestAt_s V hi, bR_r, (okc_rq i (by omega)).1]
  simp only [gd_t]
  rw [if_pos h2, et, q1, bI_r]
  by_cases cx : x = 0
  · left
    have I1 := I.1.t10 q2
    have em : nq g1 = nq h := (Grow.t10 q2).q
    have en : ns g1 = ns h := by unfold ns; rw [q _ _ (by omega)]
    obtain ⟨g, p1, p2⟩ := give_g (h := g1) (i := i) (n := ns h) (t := t) (m := nq g1) I1.1.q.2 I1.1.q.1 (by omega) (by rw [q _ _ (by omega)]; exact V.s.2) (by omega)
    have p2' := p2
    rw [← en] at p2'
    have hs1 : rd g1 (47 + i) 9 ≠ 1 := by rw [q _ _ (by omega)]; exact hs
    have G := (Grow.t10 q2).trans (p2'.grow I1 (by omega) hs1 (by omega) (Fits.t10 q2 (q3 cx)))
    refine ⟨g, by rw [if_pos cx, p1, bV_r], ⟨(p2'.inv I1 (by omega) hs1 (by omega)).1, I.2.non h60 (G.1 _ _ (by unfold PC; omega)) (fun z hz => G.p13 (by omega)) fun z hz => ?_⟩, G, by rw [(p2'.inv I1 (by omega) hs1 (by omega)).2, en], p2.2.2.1, p2.2.2.2.2.1, p2.2.2.2.1, p2.2.2.2.2.2.2.1⟩
    by_cases c : z = i
    · subst c
      rw [p2.2.2.1, h2]
      decide
    · rw [p2.1 _ _ (by unfold PG; omega), q _ _ (by omega)]
  · right
    have F : Fr (fun a k => a = 10 ∨ (a = 47 + i ∧ (k = 9 ∨ k = 11 ∨ k = 12)) ∨ a = 107 + ns h) h (wr (wr g1 (47 + i) 9 3) (47 + i) 12 (-1)) := by
      have F10 : Fr (fun a k => a = 10 ∨ (a = 47 + i ∧ (k = 9 ∨ k = 11 ∨ k = 12)) ∨ a = 107 + ns h) h g1 := q2.up fun b k z => Or.inl z
      exact (F10.w (Or.inr (Or.inl ⟨rfl, Or.inl rfl⟩))).w (Or.inr (Or.inl ⟨rfl, Or.inr (Or.inr rfl)⟩))
    have e9 : rd (wr (wr g1 (47 + i) 9 3) (47 + i) 12 (-1)) (47 + i) 9 = 3 := by rw [rd_nk (by decide), rd_eqw]
    have e12 : rd (wr (wr g1 (47 + i) 9 3) (47 + i) 12 (-1)) (47 + i) 12 = -1 := rd_eqw
    obtain ⟨I2, G⟩ := wait_inv I.1 hi hs F (by rw [rd_nk (by decide), rd_nk (by decide), q _ _ (by omega)]; exact (I.1.2.2.2.2.2.1 i hi).2.2.2.1 hs) (Or.inl ⟨e9, e12⟩)
    refine ⟨_, by rw [if_neg cx], ⟨I2, I.2.non h60 (G.1 _ _ (by unfold PC; omega)) (fun z hz => G.p13 (by omega)) fun z hz => ?_⟩, G, ?_, e9, e12⟩
    · by_cases c : z = i
      · subst c
        rw [e9, h2]
        decide
      · rw [F _ _ (by omega)]
    · unfold ns
      rw [F _ _ (by omega)]
/-- what a serving does: none is asked that wasn't, none comes to wait -/
def Srv (h g : Hp) (v : Nat) : Prop := Inv g ∧ Grow h g ∧ ns g = ns h + v ∧ ∀ z, z < nq h → (rd g (47 + z) 9 = 0 ↔ rd h (47 + z) 9 = 0)
theorem Srv.refl (I : Inv h) : Srv h h 0 := ⟨I, Grow.refl, rfl, fun _ _ => Iff.rfl⟩
theorem Srv.trans {u : Nat} (H : Srv h g v) (G : Srv g f u) : Srv h f (v + u) := ⟨G.1, H.2.1.trans G.2.1, by rw [G.2.2.1, H.2.2.1, Nat.add_assoc], fun z hz => (G.2.2.2 z (by rw [H.2.1.q]; exact hz)).trans (H.2.2.2 z hz)⟩
theorem serve_l {x : Int32} : ∀ (n p c : Nat) (a : Hp), p + n = np a → Inv a → ∃ c2 g, f_X6_serveQueueAt_4 x (nI c) (nI p) a = rtn (some (.int (nI (c + c2)))) g ∧ Srv a g c2
  | 0, p, c, a, e, I => by
    have h60 := I.1.1.p.1
    exact ⟨0, a, by rw [e_X6_serveQueueAt_4, I.1.1.p.2, if_neg (nI_nlt (by omega) (by omega))]; rfl, Srv.refl I⟩
  | n + 1, p, c, a, e, I => by
    have V := I.1.1
    have h60 := V.p.1
    have h61 := V.q.1
    obtain ⟨j, hj, ej⟩ := I.1.2.2.2.2.2.2.2 p (by omega)
    have go : ∃ c2 g, f_X6_serveQueueAt_75 x (nI c) (nI p) a = rtn (some (.int (nI (c + c2)))) g ∧ Srv a g c2 := by
      rw [e_X6_serveQueueAt_75, nI_1]
      exact serve_l n (p + 1) c a (by omega) I
    rw [e_X6_serveQueueAt_4, V.p.2, if_pos (nI_lt (by omega) (by omega)), if_pos (show nI p < 60 from nI_lt (b := 60) (by omega) (by decide)), inb_nI (by omega) (by decide), nI_clamp (by omega), ej]
    simp only [gd_t]
    rw [requestAt_s V hj, bR_r, (okc_rq j (by omega)).1]
    simp only [gd_t]
    rw [isInQueue_s (by omega), bI_r]
    cases hq : (decide (rd a (47 + j) 9 = 2) || decide (rd a (47 + j) 9 = 3)) with
    | false =>
      rw [bi_f, if_pos rfl]
      exact go
    | true =>
      rw [bi_t, if_neg one_ne]
      by_cases c1 : rd a (47 + j) 0 = x
      · rw [if_pos c1]
        by_cases c2 : rd a (47 + j) 13 = -1
        · rw [if_pos c2, ej]
          simp only [Bool.or_eq_true, decide_eq_true_eq] at hq
          have hs : rd a (47 + j) 9 ≠ 1 := by rcases hq with z | z <;> rw [z] <;> decide
          have h0 : rd a (47 + j) 9 ≠ 0 := by rcases hq with z | z <;> rw [z] <;> decide
          have hr := V.room hj hs
          rcases giveIfItFits_s I.1 hj hs with ⟨g1, q1, q2⟩ | ⟨g1, g, t, q1, q2, q3, q4, q5, q6, q7⟩
          · rw [q1, bI_r, if_pos rfl, e_X6_serveQueueAt_75, nI_1]
            have G := Grow.t10 q2
            have st : ∀ z, z < nq a → (rd g1 (47 + z) 9 = 0 ↔ rd a (47 + z) 9 = 0) := fun z hz => by rw [q2 _ _ (by unfold T10; omega)]
            have S1 : Srv a g1 0 := ⟨⟨I.1.t10 q2, I.2.non h61 (G.1 _ _ (by unfold PC; omega)) (fun z hz => G.p13 (by omega)) st⟩, G, by unfold ns; rw [q2 _ _ (by unfold T10; omega)]; rfl, st⟩
            have ep : np g1 = np a := by unfold np; rw [q2 _ _ (by unfold T10; omega)]
            obtain ⟨c3, g, r1, r2⟩ := serve_l (x := x) n (p + 1) c g1 (by omega) S1.1
            exact ⟨c3, g, r1, by have := S1.trans r2; rw [Nat.zero_add] at this; exact this⟩
          · rw [q1, bI_r, if_neg one_ne, e_X6_serveQueueAt_75, nI_1, nI_1]
            have st : ∀ z, z < nq a → (rd g (47 + z) 9 = 0 ↔ rd a (47 + z) 9 = 0) := fun z hz => by
              by_cases cz : z = j
              · subst cz
                rw [q4.2.2.1]
                exact ⟨fun w => absurd w (by decide), fun w => absurd w h0⟩
              · rw [q4.1 _ _ (by unfold PG; omega), q2 _ _ (by unfold T10; omega)]
            have S1 : Srv a g 1 := ⟨⟨q5, I.2.non h61 (q6.1 _ _ (by unfold PC; omega)) (fun z hz => q6.p13 (by omega)) st⟩, q6, q7, st⟩
            have ep : np g = np a := by
              unfold np
              rw [q4.1 _ _ (by unfold PG; omega), q2 _ _ (by unfold T10; omega)]
            obtain ⟨c3, g2, r1, r2⟩ := serve_l (x := x) n (p + 1) (c + 1) g (by omega) S1.1
            refine ⟨1 + c3, g2, ?_, S1.trans r2⟩
            rw [← Nat.add_assoc]
            exact r1
        · rw [if_neg c2]
          exact go
      · rw [if_neg c1]
        exact go
theorem giveBack_n (V : VN h) (hi : i < ns h) (hw : w < 20) (el : rd h (107 + i) 5 = nI n) (hn : n < 20) (hb : rd h (107 + i) 12 ≠ 0 ∨ n < w) : F_X6_giveBack [.ref 0, .int (nI i), .int (nI w)] h = thr 2 h := by
  have h60 := V.s.1
  rw [e_X6_giveBack_0, seriesAt_s V hi, bR_r, rng_t (show irg (nI w) 0 19 = true from nI_irg (n := 19) (by omega) (by decide)), bV_r, (okc_sr i (by omega)).1]
  simp only [gd_t]
  by_cases c : rd h (107 + i) 12 = 0
  · rw [if_pos c, el, if_pos (nI_lt (hb.resolve_left (fun z => z c)) (by omega)), e_X6_giveBack_28]
  · rw [if_neg c, e_X6_giveBack_28]
/-- a series given back from a week on: it is gone, or ends ahead of it -/
theorem giveBack_s (I : Inv h) (hi : i < ns h) (hw : w < 20) (ef : rd h (107 + i) 4 = nI m) (el : rd h (107 + i) 5 = nI n) (hmn : m ≤ n) (hn : n < 20) (h0 : rd h (107 + i) 12 = 0) (hnw : w ≤ n) : ∃ v g, F_X6_giveBack [.ref 0, .int (nI i), .int (nI w)] h = rtn (some (.int (nI v))) g ∧ Inv g ∧ ns g = ns h + v ∧ nq g = nq h ∧ (∀ z, z < nq h → (rd g (47 + z) 9 = 0 ↔ rd h (47 + z) 9 = 0)) ∧ rd g (107 + i) 12 = (if w ≤ m then 1 else 0) ∧ rd g (107 + i) 5 = (if w ≤ m then nI n else nI (w - 1)) ∧ Fr PC h g := by
  have V := I.1.1
  have S := I.1.2.2.1
  have h60 := V.s.1
  obtain ⟨y, hy, ey⟩ := irg_3 (S i hi).1.1
  -- behind the writing
  have go : ∀ (k : Nat) (x : Int32), (k = 12 ∧ x = 1 ∨ k = 5 ∧ x = nI (w - 1) ∧ m < w) → ∃ v g, f_X6_giveBack_61 (107 + i) (wr h (107 + i) k x) = rtn (some (.int (nI v))) g ∧ Srv (wr h (107 + i) k x) g v ∧ Inv (wr h (107 + i) k x) := by
    intro k x hk
    have F : Fr PS h (wr h (107 + i) k x) := Fr.refl.w ⟨by omega, by omega⟩
    have I1 : Inv (wr h (107 + i) k x) := by
      refine I.ser F (fun z hz => ?_) (fun z _ => rd_nk (by omega))
      have en : ns (wr h (107 + i) k x) = ns h := by unfold ns; rw [rd_ne (by omega)]
      rw [en] at hz
      obtain ⟨s1, s2, s3, s4, s5⟩ := S z hz
      by_cases cz : z = i
      · subst cz
        rcases hk with ⟨rfl, rfl⟩ | ⟨rfl, rfl, hmw⟩
        · refine ⟨s1.F fun k hk => rd_nk (by omega), by rw [rd_nk (by decide)]; exact s2, by rw [rd_nk (by decide)]; exact s3, Or.inr rd_eqw, fun w9 => ?_⟩
          rw [rd_eqw] at w9
          exact absurd w9 one_ne
        · refine ⟨?_, by rw [rd_nk (by decide)]; exact s2, by rw [rd_nk (by decide)]; exact s3, by rw [rd_nk (by decide)]; exact s4, by rw [rd_nk (by decide), rd_nk (by decide)]; exact s5⟩
          obtain ⟨u0, u1, u2, u3, u4, u5, u6⟩ := s1
          unfold SLT7
          rw [rd_nk (j := 0) (by decide), rd_nk (j := 1) (by decide), rd_nk (j := 2) (by decide), rd_nk (j := 3) (by decide), rd_nk (j := 4) (by decide), rd_eqw, rd_nk (j := 6) (by decide)]
          refine ⟨u0, u1, u2, u3, u4, ?_, u6⟩
          rw [ef]
          exact irg_i (nI_nlt (by omega) (by omega)) (nI_nlt (b := w - 1) (a := 19) (by omega) (by omega))
      · refine ⟨s1.F fun k hk => rd_ne (by omega), ?_⟩
        rw [rd_ne (by omega), rd_ne (by omega), rd_ne (by omega), rd_ne (by omega)]
        exact ⟨s2, s3, s4, s5⟩
    obtain ⟨c2, g, q1, q2⟩ := serve_l (x := nI y) (np (wr h (107 + i) k x)) 0 0 _ (by omega) I1
    have q1 : f_X6_serveQueueAt_4 (nI y) 0 0 (wr h (107 + i) k x) = rtn (some (.int (nI (0 + c2)))) g := q1
    refine ⟨c2, g, ?_, q2, I1⟩
    rw [e_X6_giveBack_61, (okc_sr i (by omega)).1, gd_t, rd_nk (by omega), ey, e_X6_serveQueueAt_0, q1, bI_r, Nat.zero_add]
  rw [e_X6_giveBack_0, seriesAt_s V hi, bR_r, rng_t (show irg (nI w) 0 19 = true from nI_irg (n := 19) (by omega) (by decide)), bV_r, (okc_sr i (by omega)).1]
  simp only [gd_t]
  rw [if_pos h0, el, if_neg (nI_nlt hnw (by omega)), ef]
  have com : ∀ (k : Nat) (x : Int32) (v : Nat) (g : Hp), Srv (wr h (107 + i) k x) g v → k ≠ 9 → ns g = ns h + v ∧ nq g = nq h ∧ (∀ z, z < nq h → (rd g (47 + z) 9 = 0 ↔ rd h (47 + z) 9 = 0)) ∧ (∀ k2, rd g (107 + i) k2 = rd (wr h (107 + i) k x) (107 + i) k2) ∧ Fr PC h g := by
    intro k x v g Q hk9
    have h61 := V.q.1
    have en : ns (wr h (107 + i) k x) = ns h := by unfold ns; rw [rd_ne (by omega)]
    have em : nq (wr h (107 + i) k x) = nq h := by unfold nq; rw [rd_ne (by omega)]
    refine ⟨by rw [Q.2.2.1, en], by rw [Q.2.1.q, em], fun z hz => ?_, fun k2 => Q.2.1.2.2.1 i (by omega) k2, ?_⟩
    · rw [Q.2.2.2 z (by omega), rd_ne (by omega)]
    · exact Fr.trans (Fr.w (P := PC) Fr.refl (Or.inr (Or.inr (Or.inl ⟨by omega, by omega⟩)))) Q.2.1.1
  by_cases c : w ≤ m
  · rw [if_neg (nI_nlt c (by omega))]
    obtain ⟨v, g, q1, q2, -⟩ := go 12 1 (Or.inl ⟨rfl, rfl⟩)
    obtain ⟨p1, p2, p3, p4, p5⟩ := com 12 1 v g q2 (by decide)
    exact ⟨v, g, q1, q2.1, p1, p2, p3, by rw [p4, rd_eqw, if_pos c], by rw [p4, rd_nk (by decide), if_pos c, el], p5⟩
  · rw [if_pos (nI_lt (by omega) (by omega))]
    have e8 : nI w - 1 = nI (w - 1) := by
      rw [show w = (w - 1) + 1 by omega, nI_pred]
      rfl
    rw [e8]
    obtain ⟨v, g, q1, q2, -⟩ := go 5 (nI (w - 1)) (Or.inr ⟨rfl, rfl, by omega⟩)
    obtain ⟨p1, p2, p3, p4, p5⟩ := com 5 (nI (w - 1)) v g q2 (by decide)
    exact ⟨v, g, q1, q2.1, p1, p2, p3, by rw [p4, rd_nk (by decide), if_neg c, h0], by rw [p4, rd_eqw, if_neg c], p5⟩
end BACK
