/-! calls that write: all but some cells stay -/
def Fr (P : Nat → Nat → Prop) (h g : Hp) : Prop := ∀ a k, ¬ P a k → rd g a k = rd h a k
section FRS
variable {P : Nat → Nat → Prop} {h g : Hp} {a k : Nat} {x : Int32}
theorem Fr.refl : Fr P h h := fun _ _ _ => rfl
theorem Fr.w (F : Fr P h g) (hp : P a k) : Fr P h (wr g a k x) := by
  intro b j hb
  rw [rd_wrx]
  by_cases c : b = a ∧ j = k
  · exact absurd hp (by rw [c.1, c.2] at hb; exact hb)
  · rw [if_neg c]
    exact F b j hb
theorem Fr.l {v : Int64} (F : Fr P h g) : Fr P h (wrL g k v) := F
theorem EqN.F (H : EqN h) (F : Fr P h g) (h1 : ∀ k, 10 ≤ k → k ≤ 14 → ¬ P 0 k) (h2 : ∀ k, k = 20 ∨ k = 37 ∨ k = 10 ∨ k = 36 ∨ k = 1 → ¬ P 227 k) : EqN g := by
  unfold EqN
  rw [F 0 10 (h1 10 (by decide) (by decide)), F 0 11 (h1 11 (by decide) (by decide)), F 0 12 (h1 12 (by decide) (by decide)), F 0 13 (h1 13 (by decide) (by decide)), F 0 14 (h1 14 (by decide) (by decide)), F 227 20 (h2 20 (by decide)), F 227 37 (h2 37 (by decide)), F 227 10 (h2 10 (by decide)), F 227 36 (h2 36 (by decide)), F 227 1 (h2 1 (by decide))]
  exact H
theorem EqS.F (H : EqS h) (F : Fr P h g) (h1 : ∀ a k, 107 ≤ a → a < 167 → ¬ P a k) (h2 : ∀ a k, 260 ≤ a → a ≤ 272 → ¬ P a k) : EqS g := by
  intro i hi f hf
  have q := sa_in f hf
  rw [F _ _ (h1 _ _ (by omega) (by omega)), F _ _ (h2 _ _ q.1 q.2)]
  exact H i hi f hf
theorem EqQ.F (H : EqQ h) (F : Fr P h g) (h1 : ∀ a k, 47 ≤ a → a < 107 → ¬ P a k) (h2 : ∀ a k, 245 ≤ a → a ≤ 258 → ¬ P a k) : EqQ g := by
  intro i hi f hf hf2
  have q := qa_in f hf
  rw [F _ _ (h1 _ _ (by omega) (by omega)), F _ _ (h2 _ _ q.1 q.2)]
  exact H i hi f hf hf2
theorem EqR.F (H : EqR h) (F : Fr P h g) (h1 : ∀ a k, 167 ≤ a → a < 227 → ¬ P a k) (h2 : ∀ a k, 236 ≤ a → a ≤ 244 → ¬ P a k) : EqR g := by
  intro i hi f hf
  have q := ra_in f hf
  rw [F _ _ (h1 _ _ (by omega) (by omega)), F _ _ (h2 _ _ q.1 q.2)]
  exact H i hi f hf
theorem EqA.F (H : EqA h) (F : Fr P h g) (h1 : ∀ a k, 11 ≤ a → a < 47 → ¬ P a k) (h2 : ∀ a k, (228 ≤ a ∧ a ≤ 234) ∨ a = 273 → ¬ P a k) : EqA g := by
  intro b hb
  obtain ⟨e1, e2, e3, e4, e5, e6⟩ := H b hb
  refine ⟨?_, ?_, ?_, ?_, fun d hd => ?_, fun r hr => ⟨?_, ?_, ?_⟩⟩ <;> rw [F _ _ (h1 _ _ (by omega) (by omega)), F _ _ (h2 _ _ (by omega))]
  · exact e1
  · exact e2
  · exact e3
  · exact e4
  · exact e5 d hd
  · exact (e6 r hr).1
  · exact (e6 r hr).2.1
  · exact (e6 r hr).2.2
theorem EqG.F (H : EqG h) (F : Fr P h g) (h1 : ∀ k, ¬ P 2 k) (h2 : ∀ k, ¬ P 235 k) : EqG g := by
  intro c hc
  rw [F _ _ (h1 c), F _ _ (h2 c)]
  exact H c hc
theorem nq_F (F : Fr P h g) (h2 : ¬ P 227 20) : nq g = nq h := by unfold nq; rw [F _ _ h2]
theorem ns_F (F : Fr P h g) (h2 : ¬ P 227 37) : ns g = ns h := by unfold ns; rw [F _ _ h2]
theorem nr_F (F : Fr P h g) (h2 : ¬ P 227 10) : nr g = nr h := by unfold nr; rw [F _ _ h2]
theorem np_F (F : Fr P h g) (h2 : ¬ P 227 36) : np g = np h := by unfold np; rw [F _ _ h2]
theorem EqT.F (H : EqT h) (F : Fr P h g) (h1 : ∀ a, 47 ≤ a → a < 107 → ¬ P a 10) (h2 : ∀ k, ¬ P 254 k ∧ ¬ P 255 k) (h3 : ¬ P 227 20) : EqT g := by
  intro i h60 hi
  rw [nq_F F h3] at hi
  rw [F _ _ (h2 i).1, F _ _ (h2 i).2, F _ _ (h1 _ (by omega) (by omega))]
  exact H i h60 hi
theorem VN.F (H : VN h) (F : Fr P h g) (h1 : ∀ k, ¬ P 254 k) (h2 : ∀ k, k = 20 ∨ k = 37 ∨ k = 10 ∨ k = 36 ∨ k = 1 → ¬ P 227 k) : VN g := by
  have e2 : ∀ i, rd g 254 i = rd h 254 i := fun i => F _ _ (h1 i)
  unfold VN
  simp only [e2]
  rw [nq_F F (h2 20 (by decide)), ns_F F (h2 37 (by decide)), nr_F F (h2 10 (by decide)), np_F F (h2 36 (by decide)), F 227 20 (h2 20 (by decide)), F 227 37 (h2 37 (by decide)), F 227 10 (h2 10 (by decide)), F 227 36 (h2 36 (by decide)), F 227 1 (h2 1 (by decide))]
  exact H
theorem VA.F (H : VA h) (F : Fr P h g) (h1 : ∀ a k, 228 ≤ a → a ≤ 231 → ¬ P a k) : VA g := by
  intro b hb
  obtain ⟨m, hm, e1, e2⟩ := H b hb
  refine ⟨m, hm, ?_, fun r hr => ?_⟩
  · rw [F _ _ (h1 _ _ (by decide) (by decide))]
    exact e1
  · rw [F _ _ (h1 _ _ (by decide) (by decide)), F _ _ (h1 _ _ (by decide) (by decide)), F _ _ (h1 _ _ (by decide) (by decide))]
    exact e2 r hr
theorem VS.F (H : VS h) (F : Fr P h g) (h1 : ∀ a k, 260 ≤ a → a ≤ 267 → a ≠ 261 → ¬ P a k) (h2 : ¬ P 227 37) : VS g := by
  intro i hi
  rw [ns_F F h2] at hi
  rw [F _ _ (h1 262 i (by decide) (by decide) (by decide)), F _ _ (h1 264 i (by decide) (by decide) (by decide)), F _ _ (h1 265 i (by decide) (by decide) (by decide)), F _ _ (h1 266 i (by decide) (by decide) (by decide)), F _ _ (h1 267 i (by decide) (by decide) (by decide)), F _ _ (h1 260 i (by decide) (by decide) (by decide))]
  exact H i hi
theorem VR.F (H : VR h) (F : Fr P h g) (h1 : ∀ k, ¬ P 236 k) (h2 : ¬ P 227 10) : VR g := by
  intro i hi
  rw [nr_F F h2] at hi
  rw [F _ _ (h1 i)]
  exact H i hi
theorem VQ.F (H : VQ h) (F : Fr P h g) (h1 : ∀ a k, 245 ≤ a → a ≤ 258 → ¬ P a k) (h2 : ¬ P 227 20 ∧ ¬ P 227 10) : VQ g := by
  intro i hi
  rw [nq_F F h2.1] at hi
  rw [nq_F F h2.1, nr_F F h2.2]
  have e : ∀ b j, 245 ≤ b → b ≤ 258 → rd g b j = rd h b j := fun b j q1 q2 => F _ _ (h1 b j q1 q2)
  simp only [e 246 _ (by decide) (by decide), e 248 _ (by decide) (by decide), e 249 _ (by decide) (by decide), e 250 _ (by decide) (by decide), e 251 _ (by decide) (by decide), e 245 _ (by decide) (by decide), e 253 _ (by decide) (by decide), e 254 _ (by decide) (by decide), e 258 _ (by decide) (by decide), e 257 _ (by decide) (by decide), e 256 _ (by decide) (by decide)]
  exact H i hi
theorem QU.F (H : QU h) (F : Fr P h g) (h1 : ∀ k, ¬ P 6 k ∧ ¬ P 259 k ∧ ¬ P 254 k) (h2 : ¬ P 227 20 ∧ ¬ P 227 36) : QU g := by
  have e1 : ∀ j, rd g 6 j = rd h 6 j := fun j => F _ _ (h1 j).1
  have e2 : ∀ j, rd g 259 j = rd h 259 j := fun j => F _ _ (h1 j).2.1
  have e3 : ∀ j, rd g 254 j = rd h 254 j := fun j => F _ _ (h1 j).2.2
  unfold QU
  rw [nq_F F h2.1, np_F F h2.2]
  simp only [e1, e2, e3]
  exact H
end FRS
/-- what a call may write that changes series alone; airports alone; groups alone -/
def PS (a k : Nat) : Prop := (107 ≤ a ∧ a < 167) ∨ (260 ≤ a ∧ a ≤ 272) ∨ (a = 227 ∧ k = 0)
def PA (a k : Nat) : Prop := (11 ≤ a ∧ a < 47) ∨ (228 ≤ a ∧ a ≤ 234) ∨ a = 273 ∨ (a = 227 ∧ k = 0)
def PG (a k : Nat) : Prop := a = 2 ∨ a = 235 ∨ (a = 227 ∧ k = 0)
theorem Inv.serF {h g : Hp} (H : Inv h) (F : Fr PS h g) (hS : EqS g) (hV : VS g) : Inv g := by
  obtain ⟨b1, b2, b3, b4, b5, b6, b7, b8, b9, b10, b11, b12, b13⟩ := H
  refine ⟨b1.F F ?_ ?_, hS, b3.F F ?_ ?_, b4.F F ?_ ?_, b5.F F ?_ ?_, b6.F F ?_ ?_, b7.F F ?_ ?_ ?_, b8.F F ?_ ?_, b9.F F ?_, hV, b11.F F ?_ ?_, b12.F F ?_ ?_, b13.F F ?_ ?_⟩
  all_goals (unfold PS; first | omega | (intros; omega) | (refine ⟨?_, ?_⟩ <;> omega) | (intro k; refine ⟨?_, ?_⟩ <;> omega) | (intro k; refine ⟨?_, ?_, ?_⟩ <;> omega))
theorem Inv.airF {h g : Hp} (H : Inv h) (F : Fr PA h g) (hA : EqA g) (hV : VA g) : Inv g := by
  obtain ⟨b1, b2, b3, b4, b5, b6, b7, b8, b9, b10, b11, b12, b13⟩ := H
  refine ⟨b1.F F ?_ ?_, b2.F F ?_ ?_, b3.F F ?_ ?_, b4.F F ?_ ?_, hA, b6.F F ?_ ?_, b7.F F ?_ ?_ ?_, b8.F F ?_ ?_, hV, b10.F F ?_ ?_, b11.F F ?_ ?_, b12.F F ?_ ?_, b13.F F ?_ ?_⟩
  all_goals (unfold PA; first | omega | (intros; omega) | (refine ⟨?_, ?_⟩ <;> omega) | (intro k; refine ⟨?_, ?_⟩ <;> omega) | (intro k; refine ⟨?_, ?_, ?_⟩ <;> omega))
theorem Inv.grpF {h g : Hp} (H : Inv h) (F : Fr PG h g) (hG : EqG g) : Inv g := by
  obtain ⟨b1, b2, b3, b4, b5, b6, b7, b8, b9, b10, b11, b12, b13⟩ := H
  refine ⟨b1.F F ?_ ?_, b2.F F ?_ ?_, b3.F F ?_ ?_, b4.F F ?_ ?_, b5.F F ?_ ?_, hG, b7.F F ?_ ?_ ?_, b8.F F ?_ ?_, b9.F F ?_, b10.F F ?_ ?_, b11.F F ?_ ?_, b12.F F ?_ ?_, b13.F F ?_ ?_⟩
  all_goals (unfold PG; first | omega | (intros; omega) | (refine ⟨?_, ?_⟩ <;> omega) | (intro k; refine ⟨?_, ?_⟩ <;> omega) | (intro k; refine ⟨?_, ?_, ?_⟩ <;> omega))
/-! the class's series in one heap, the reference's in another -/
def SX (a b : Hp) : Prop := ∀ i, i < 60 → ∀ f, f < 13 → rd a (107 + i) f = rd b (SA f) i
section SXS
variable {a b : Hp} {p k i f : Nat} {x : Int32} {v : Int64}
theorem SX.l (H : SX a b) (h1 : ¬ (107 ≤ p ∧ p < 167)) : SX (wr a p k x) b := fun i hi f hf => by
  rw [rd_ne (by omega)]
  exact H i hi f hf
theorem SX.r (H : SX a b) (h1 : ¬ (260 ≤ p ∧ p ≤ 272)) : SX a (wr b p k x) := fun i hi f hf => by
  have q := sa_in f hf
  rw [rd_ne (a := p) (by omega)]
  exact H i hi f hf
theorem SX.ll (H : SX a b) : SX (wrL a k v) b := H
theorem SX.rl (H : SX a b) : SX a (wrL b k v) := H
theorem sa_inj : ∀ f, f < 13 → ∀ g, g < 13 → SA f = SA g → f = g := by decide
theorem SX.set (H : SX a b) (hi : i < 60) (hf : f < 13) : SX (wr a (107 + i) f x) (wr b (SA f) i x) := fun j hj g hg => by
  rw [rd_wrx, rd_wrx]
  by_cases c : j = i ∧ g = f
  · rw [if_pos ⟨by omega, c.2⟩, if_pos ⟨by rw [c.2], c.1⟩]
  · rw [if_neg (fun z => c ⟨by omega, z.2⟩), if_neg (fun z => c ⟨z.2, sa_inj g hg f hf z.1⟩)]
    exact H j hj g hg
end SXS
theorem sim_lease : SimI Inv F_L_lease F_X7_lease 2 := by
  intro as h hl hR
  match as, hl with
  | [x, y], _ =>
    show ∃ (k v : Int32) (h1 h2 : Hp), F_L_lease [.ref 0, .int x, .int y, .ref 275] h = rtn (some (.int k)) h1 ∧ F_X7_lease [.ref 227, .int x, .int y] h1 = rtn (some (.int v)) h2 ∧ _
    have N := hR.1
    have S := hR.2.1
    have V := hR.2.2.2.2.2.2.2.1
    have hVS := hR.2.2.2.2.2.2.2.2.2.1
    have key : ∀ g : Hp, VN g → F_X7_lease [.ref 227, .int x, .int y] g = f_X7_lease_20 x y (bi (ixs x (ns g) && irg y 0 9)) g := by
      intro g hg
      rw [e_X7_lease_0]
      simp only [isSeries_s hg, isCarrier_s, bI_r, e_X7_lease_19]
      cases ixs x (ns g) <;> cases irg y 0 9 <;> simp [bi]
    cases c1 : (ixs x (ns h) && irg y 0 9) with
    | false =>
      refine ⟨1, 0, h, wr h 227 0 1, ?_, ?_, rd_eqw, fun q => absurd q one_ne, hR.quiet (Or.inl ⟨rfl, rfl⟩), Scr.refl, Scr.refl.w (by decide)⟩
      · rw [e_L_lease_0, e_X6_lease_0]
        cases c2 : ixs x (ns h) with
        | false =>
          rw [seriesAt_n N V c2]
          rfl
        | true =>
          obtain ⟨i, hi, rfl⟩ := ixs_t V.s.1 c2
          rw [c2, Bool.true_and] at c1
          rw [seriesAt_s N V hi, bR_r, groupAt_n c1]
          rfl
      · rw [key h V, c1, bi_f, e_X7_lease_20, if_pos rfl, e_X7_lease_44, holds_n one_ne, bI_r, if_pos rfl]
    | true =>
      have c1' := c1
      rw [Bool.and_eq_true] at c1'
      obtain ⟨i, hi, rfl⟩ := ixs_t V.s.1 c1'.1
      obtain ⟨j, hj, rfl⟩ := irg_9 c1'.2
      have h60 := V.s.1
      obtain ⟨g0, g1, g2, g3, g4, g5, g6, g7, g8, g9, g10, g11, g12⟩ := S.g (k := i) (by omega)
      by_cases c3 : rd h 272 i = 0
      · refine ⟨0, rd h 261 i, wrL (wr h (107 + i) 9 (nI j)) 0 (Int32.toInt64 (rd h 261 i)), wr (wr (wrL (wr h (107 + i) 9 (nI j)) 0 (Int32.toInt64 (rd h 261 i))) 227 0 0) 261 i (nI j), ?_, ?_, ?_, fun _ => rfl, ?_, (Scr.refl.w (by omega)).l, ((Scr.refl.w (by omega)).l.w (by decide)).w (by decide)⟩
        · rw [e_L_lease_0, e_X6_lease_0, seriesAt_s N V hi, bR_r, groupAt_s hj, bI_r, (okc_sr i (by omega)).1]
          simp only [gd_t]
          rw [g12, if_pos c3, g9, bI_r]
          rfl
        · have V2 : VN (wrL (wr h (107 + i) 9 (nI j)) 0 (Int32.toInt64 (rd h 261 i))) := VN.f (h := h) V (by omega) (by omega)
          have n2 : ns (wrL (wr h (107 + i) 9 (nI j)) 0 (Int32.toInt64 (rd h 261 i))) = ns h := ns_f (h := h) (by omega)
          rw [key _ V2, n2, c1, bi_t, e_X7_lease_20, if_neg one_ne, inb_nI (by omega) (by decide), gd_t, nI_clamp (by omega), if_pos (by rw [rd_wrLx, rd_ne (by omega)]; exact c3), e_X7_lease_44, holds_0, bI_r, if_neg one_ne, inb_nI (by omega) (by decide), gd_t, gd_t, nI_clamp (by omega)]
          congr 3
          rw [rd_ne (by decide), rd_wrLx, rd_ne (by omega)]
        · rw [rd_ne (by decide), rd_eqw]
        · refine hR.serF ((((Fr.refl.w (Or.inl ⟨by omega, by omega⟩)).l).w (Or.inr (Or.inr ⟨rfl, rfl⟩))).w (Or.inr (Or.inl ⟨by decide, by decide⟩))) ?_ ?_
          · exact SX.l (SX.l (SX.ll (SX.set (f := 9) (SX.r (SX.rl (SX.r (show SX h h from S) (by omega))) (by omega)) (by omega) (by decide))) (by omega)) (by omega)
          · exact hVS.F (P := fun a k => (107 ≤ a ∧ a < 167) ∨ a = 261 ∨ (a = 227 ∧ k = 0)) ((((Fr.refl.w (Or.inl ⟨by omega, by omega⟩)).l).w (Or.inr (Or.inr ⟨rfl, rfl⟩))).w (Or.inr (Or.inl rfl))) (fun a k q1 q2 q3 z => by rcases z with z | z | z <;> omega) (fun z => by rcases z with z | z | z <;> omega)
      · refine ⟨2, 0, h, wr h 227 0 2, ?_, ?_, rd_eqw, fun q => absurd q two_ne, hR.quiet (Or.inl ⟨rfl, rfl⟩), Scr.refl, Scr.refl.w (by decide)⟩
        · rw [e_L_lease_0, e_X6_lease_0, seriesAt_s N V hi, bR_r, groupAt_s hj, bI_r, (okc_sr i (by omega)).1]
          simp only [gd_t]
          rw [g12, if_neg c3]
          rfl
        · rw [key h V, c1, bi_t, e_X7_lease_20, if_neg one_ne, inb_nI (by omega) (by decide), gd_t, nI_clamp (by omega), if_neg c3, e_X7_lease_44, holds_n two_ne, bI_r, if_pos rfl]
