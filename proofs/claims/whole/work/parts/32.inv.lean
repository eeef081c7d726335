/-! what holds between two calls -/
def nq (h : Hp) : Nat := (rd h 227 20).toNatClampNeg
def ns (h : Hp) : Nat := (rd h 227 37).toNatClampNeg
def nr (h : Hp) : Nat := (rd h 227 10).toNatClampNeg
def np (h : Hp) : Nat := (rd h 227 36).toNatClampNeg
/-- how many of the first n are so -/
def cnt (f : Nat → Bool) : Nat → Nat
  | 0 => 0
  | n + 1 => cnt f n + (match f n with | true => 1 | false => 0)
def EqT (h : Hp) : Prop := ∀ i, i < 60 → i < nq h → rd h 254 i ≠ 0 → rd h (47 + i) 10 = rd h 255 i
def VN (h : Hp) : Prop := rd h 227 20 = nI (nq h) ∧ nq h ≤ 60 ∧ rd h 227 37 = nI (ns h) ∧ ns h + cnt (fun i => !decide (rd h 254 i = 1)) (nq h) ≤ nq h ∧ rd h 227 10 = nI (nr h) ∧ nr h ≤ 60 ∧ rd h 227 36 = nI (np h) ∧ np h + cnt (fun i => decide (rd h 254 i = 0)) (nq h) ≤ nq h ∧ irg (rd h 227 1) 0 20 = true
def VA (h : Hp) : Prop := ∀ a, a < 4 → ∃ m : Nat, m ≤ 6 ∧ rd h 228 a = nI m ∧ ∀ r, r < m → irg (rd h 229 (6 * a + r)) 0 2 = true ∧ irg (rd h 230 (6 * a + r)) 1 6 = true ∧ irg (rd h 231 (6 * a + r)) 0 20 = true
def VS (h : Hp) : Prop := ∀ i, i < ns h → irg (rd h 262 i) 0 3 = true ∧ irg (rd h 264 i) 0 6 = true ∧ irg (rd h 265 i) 0 71 = true ∧ irg (rd h 266 i) 0 19 = true ∧ irg (rd h 267 i) (rd h 266 i) 19 = true ∧ irg (rd h 260 i) 0 9 = true
def VQ (h : Hp) : Prop := ∀ i, i < nq h → irg (rd h 246 i) 0 3 = true ∧ irg (rd h 248 i) 0 6 = true ∧ irg (rd h 249 i) 0 71 = true ∧ irg (rd h 250 i) 0 19 = true ∧ irg (rd h 251 i) (rd h 250 i) 19 = true ∧ irg (rd h 245 i) 0 9 = true ∧ (rd h 253 i = -1 ∨ ∃ j, j < nr h ∧ rd h 253 i = nI j) ∧ irg (rd h 254 i) 0 3 = true ∧ (rd h 258 i = -1 ∨ ∃ j, j < nq h ∧ j ≠ i ∧ rd h 258 i = nI j ∧ rd h 258 j = nI i ∧ (rd h 254 i = 0 ↔ rd h 254 j = 0)) ∧ (rd h 254 i = 2 → irg (rd h 257 i) 0 71 = true) ∧ (rd h 254 i = 0 → rd h 256 i = -1 ∧ rd h 257 i = -1)
def VR (h : Hp) : Prop := ∀ i, i < nr h → irg (rd h 236 i) 0 9 = true
def QU (h : Hp) : Prop := (∀ p, p < np h → ∃ i, i < nq h ∧ rd h 6 p = nI i ∧ rd h 259 i = nI p ∧ rd h 254 i ≠ 0) ∧ ∀ i, i < nq h → (rd h 254 i = 2 ∨ rd h 254 i = 3) → ∃ p, p < np h ∧ rd h 6 p = nI i ∧ rd h 259 i = nI p
def Inv (h : Hp) : Prop := EqN h ∧ EqS h ∧ EqQ h ∧ EqR h ∧ EqA h ∧ EqG h ∧ EqT h ∧ VN h ∧ VA h ∧ VS h ∧ VQ h ∧ VR h ∧ QU h
section FRAME
variable {h : Hp} {a k : Nat} {x : Int32}
theorem rd_ne {b j : Nat} (hb : b ≠ a) : rd (wr h a k x) b j = rd h b j := by rw [rd_wrx, if_neg (fun q => hb q.1)]
theorem rd_nk {b j : Nat} (hb : j ≠ k) : rd (wr h a k x) b j = rd h b j := by rw [rd_wrx, if_neg (fun q => hb q.2)]
theorem rd_eqw : rd (wr h a k x) a k = x := by rw [rd_wrx, if_pos ⟨rfl, rfl⟩]
theorem sa_in : ∀ f, f < 13 → 260 ≤ SA f ∧ SA f ≤ 272 := by decide
theorem qa_in : ∀ f, f < 14 → 245 ≤ QA f ∧ QA f ≤ 258 := by decide
theorem ra_in : ∀ f, f < 9 → 236 ≤ RA f ∧ RA f ≤ 244 := by decide
theorem EqN.f (H : EqN h) (h1 : ¬ (a = 0 ∧ 10 ≤ k ∧ k ≤ 14)) (h2 : ¬ (a = 227 ∧ (k = 20 ∨ k = 37 ∨ k = 10 ∨ k = 36 ∨ k = 1))) : EqN (wr h a k x) := by
  obtain ⟨e1, e2, e3, e4, e5⟩ := H
  unfold EqN
  simp only [rd_wrx]
  refine ⟨?_, ?_, ?_, ?_, ?_⟩ <;> (rw [if_neg (by omega), if_neg (by omega)]; assumption)
theorem EqS.f (H : EqS h) (h1 : ¬ (107 ≤ a ∧ a < 167)) (h2 : ¬ (260 ≤ a ∧ a ≤ 272)) : EqS (wr h a k x) := by
  intro i hi f hf
  have q := sa_in f hf
  rw [rd_ne (by omega), rd_ne (by omega)]
  exact H i hi f hf
theorem EqQ.f (H : EqQ h) (h1 : ¬ (47 ≤ a ∧ a < 107)) (h2 : ¬ (245 ≤ a ∧ a ≤ 258)) : EqQ (wr h a k x) := by
  intro i hi f hf hf2
  have q := qa_in f hf
  rw [rd_ne (by omega), rd_ne (by omega)]
  exact H i hi f hf hf2
theorem EqR.f (H : EqR h) (h1 : ¬ (167 ≤ a ∧ a < 227)) (h2 : ¬ (236 ≤ a ∧ a ≤ 244)) : EqR (wr h a k x) := by
  intro i hi f hf
  have q := ra_in f hf
  rw [rd_ne (by omega), rd_ne (by omega)]
  exact H i hi f hf
theorem EqA.f (H : EqA h) (h1 : ¬ (11 ≤ a ∧ a < 47)) (h2 : ¬ (228 ≤ a ∧ a ≤ 234)) (h3 : a ≠ 273) : EqA (wr h a k x) := by
  intro b hb
  obtain ⟨e1, e2, e3, e4, e5, e6⟩ := H b hb
  refine ⟨?_, ?_, ?_, ?_, fun d hd => ?_, fun r hr => ⟨?_, ?_, ?_⟩⟩ <;> rw [rd_ne (by omega), rd_ne (by omega)]
  · exact e1
  · exact e2
  · exact e3
  · exact e4
  · exact e5 d hd
  · exact (e6 r hr).1
  · exact (e6 r hr).2.1
  · exact (e6 r hr).2.2
theorem EqG.f (H : EqG h) (h1 : a ≠ 2) (h2 : a ≠ 235) : EqG (wr h a k x) := by
  intro c hc
  rw [rd_ne (Ne.symm h1), rd_ne (Ne.symm h2)]
  exact H c hc
theorem nq_f (h2 : ¬ (a = 227 ∧ k = 20)) : nq (wr h a k x) = nq h := by
  unfold nq
  rw [rd_wrx, if_neg (by omega)]
theorem ns_f (h2 : ¬ (a = 227 ∧ k = 37)) : ns (wr h a k x) = ns h := by
  unfold ns
  rw [rd_wrx, if_neg (by omega)]
theorem nr_f (h2 : ¬ (a = 227 ∧ k = 10)) : nr (wr h a k x) = nr h := by
  unfold nr
  rw [rd_wrx, if_neg (by omega)]
theorem np_f (h2 : ¬ (a = 227 ∧ k = 36)) : np (wr h a k x) = np h := by
  unfold np
  rw [rd_wrx, if_neg (by omega)]
theorem EqT.f (H : EqT h) (h1 : ¬ (47 ≤ a ∧ a < 107 ∧ k = 10)) (h2 : a ≠ 254 ∧ a ≠ 255 ∧ ¬ (a = 227 ∧ k = 20)) : EqT (wr h a k x) := by
  intro i h60 hi
  rw [nq_f h2.2.2] at hi
  rw [rd_ne (Ne.symm h2.1), rd_ne (Ne.symm h2.2.1)]
  intro hs
  rw [rd_wrx]
  by_cases c : 47 + i = a ∧ 10 = k
  · rw [if_pos c]
    exact absurd ⟨by omega, by omega, by omega⟩ (fun z : 47 ≤ a ∧ a < 107 ∧ k = 10 => h1 z)
  · rw [if_neg c]
    exact H i h60 hi hs
theorem VA.f (H : VA h) (h1 : ¬ (228 ≤ a ∧ a ≤ 231)) : VA (wr h a k x) := by
  intro b hb
  obtain ⟨m, hm, e1, e2⟩ := H b hb
  refine ⟨m, hm, ?_, fun r hr => ?_⟩
  · rw [rd_ne (by omega)]
    exact e1
  · rw [rd_ne (by omega), rd_ne (by omega), rd_ne (by omega)]
    exact e2 r hr
theorem VS.f (H : VS h) (h1 : ¬ (260 ≤ a ∧ a ≤ 267)) (h2 : ¬ (a = 227 ∧ k = 37)) : VS (wr h a k x) := by
  intro i hi
  rw [ns_f h2] at hi
  rw [rd_ne (by omega), rd_ne (by omega), rd_ne (by omega), rd_ne (by omega), rd_ne (by omega), rd_ne (by omega)]
  exact H i hi
theorem VR.f (H : VR h) (h1 : a ≠ 236) (h2 : ¬ (a = 227 ∧ k = 10)) : VR (wr h a k x) := by
  intro i hi
  rw [nr_f h2] at hi
  rw [rd_ne (by omega)]
  exact H i hi
theorem VN.f (H : VN h) (h1 : a ≠ 254) (h2 : ¬ (a = 227 ∧ (k = 20 ∨ k = 37 ∨ k = 10 ∨ k = 36 ∨ k = 1))) : VN (wr h a k x) := by
  have e : (fun i => rd (wr h a k x) 254 i) = fun i => rd h 254 i := funext fun i => rd_ne (Ne.symm h1)
  have e2 : ∀ i, rd (wr h a k x) 254 i = rd h 254 i := fun i => rd_ne (Ne.symm h1)
  unfold VN
  simp only [e2]
  rw [nq_f (by omega), ns_f (by omega), nr_f (by omega), np_f (by omega)]
  simp only [rd_wrx]
  rw [if_neg (by omega), if_neg (by omega), if_neg (by omega), if_neg (by omega), if_neg (by omega)]
  exact H
theorem VQ.f (H : VQ h) (h1 : ¬ (245 ≤ a ∧ a ≤ 258)) (h2 : ¬ (a = 227 ∧ (k = 20 ∨ k = 10))) : VQ (wr h a k x) := by
  intro i hi
  rw [nq_f (by omega)] at hi
  rw [nq_f (by omega), nr_f (by omega)]
  have e : ∀ b j, 245 ≤ b → b ≤ 258 → rd (wr h a k x) b j = rd h b j := fun b j q1 q2 => rd_ne (by omega)
  simp only [e 246 _ (by decide) (by decide), e 248 _ (by decide) (by decide), e 249 _ (by decide) (by decide), e 250 _ (by decide) (by decide), e 251 _ (by decide) (by decide), e 245 _ (by decide) (by decide), e 253 _ (by decide) (by decide), e 254 _ (by decide) (by decide), e 258 _ (by decide) (by decide), e 257 _ (by decide) (by decide), e 256 _ (by decide) (by decide)]
  exact H i hi
theorem QU.f (H : QU h) (h1 : a ≠ 6 ∧ a ≠ 259 ∧ a ≠ 254) (h2 : ¬ (a = 227 ∧ (k = 20 ∨ k = 36))) : QU (wr h a k x) := by
  have e1 : ∀ j, rd (wr h a k x) 6 j = rd h 6 j := fun j => rd_ne (Ne.symm h1.1)
  have e2 : ∀ j, rd (wr h a k x) 259 j = rd h 259 j := fun j => rd_ne (Ne.symm h1.2.1)
  have e3 : ∀ j, rd (wr h a k x) 254 j = rd h 254 j := fun j => rd_ne (Ne.symm h1.2.2)
  unfold QU
  rw [nq_f (by omega), np_f (by omega)]
  simp only [e1, e2, e3]
  exact H
/-- what nobody looks at: the reference's word of the latest throw, the law's answer, the class's row of weeks and its rows of the order -/
theorem Inv.quiet (H : Inv h) (ha : (a = 227 ∧ k = 0) ∨ (7 ≤ a ∧ a ≤ 10) ∨ a = 274 ∨ (a = 227 ∧ k = 52)) : Inv (wr h a k x) := by
  obtain ⟨c1, c2, c3, c4, c5, c6, c7, c8, c9, c10, c11, c12, c13⟩ := H
  exact ⟨c1.f (by omega) (by omega), c2.f (by omega) (by omega), c3.f (by omega) (by omega), c4.f (by omega) (by omega), c5.f (by omega) (by omega) (by omega), c6.f (by omega) (by omega), c7.f (by omega) ⟨by omega, by omega, by omega⟩, c8.f (by omega) (by omega), c9.f (by omega), c10.f (by omega) (by omega), c11.f (by omega) (by omega), c12.f (by omega) (by omega), c13.f ⟨by omega, by omega, by omega⟩ (by omega)⟩
theorem Inv.out {v : Int64} (H : Inv h) : Inv (wrL h k v) := H
theorem Scr.refl : Scr h h := ⟨fun _ => rfl, rfl⟩
theorem Scr.w {g : Hp} (H : Scr h g) (ha : a < 1000) : Scr h (wr g a k x) := ⟨fun j => by rw [rd_ne (show SCRA ≠ a from fun q => by have : (1000 : Nat) = a := q; omega)]; exact H.1 j, by rw [rd_ne (show SCRB ≠ a from fun q => by have : (1001 : Nat) = a := q; omega)]; exact H.2⟩
theorem Scr.l {g : Hp} {v : Int64} (H : Scr h g) : Scr h (wrL g k v) := H
end FRAME
theorem sim_season : Sim0 Inv F_X6_season F_X7_season := by
  intro h hR
  refine ⟨rd h 227 1, h, wr h 227 0 0, ?_, e_X7_season_0 h, hR.quiet (Or.inl ⟨rfl, rfl⟩), Scr.refl.w (by decide)⟩
  rw [e_X6_season_0, hR.1.2.2.2.2]
theorem sim_rights : Sim0 Inv F_X6_rights F_X7_rights := by
  intro h hR
  refine ⟨rd h 227 10, h, wr h 227 0 0, ?_, e_X7_rights_0 h, hR.quiet (Or.inl ⟨rfl, rfl⟩), Scr.refl.w (by decide)⟩
  rw [e_X6_rights_0, hR.1.2.2.1]
