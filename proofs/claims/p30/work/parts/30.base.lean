/-! ===== what is left is arithmetic: the class's functions over the heap of numbers ===== -/
section BASE
variable {h : Hp} {x y : Int32} {E : Nat} {a k b j : Nat}
theorem gd_t (r : Res) : gd true r = r := rfl
theorem bI_r {f : Int32 → Hp → Res} {kx : Nat → Hp → Res} : bI (rtn (some (.int x)) h) f kx = f x h := rfl
theorem bI_t {f : Int32 → Hp → Res} {kx : Nat → Hp → Res} : bI (thr E h) f kx = kx E h := rfl
theorem bV_r {f : Hp → Res} {kx : Nat → Hp → Res} : bV (rtn none h) f kx = f h := rfl
theorem bV_t {f : Hp → Res} {kx : Nat → Hp → Res} : bV (thr E h) f kx = kx E h := rfl
theorem bR_r {f : Nat → Hp → Res} {kx : Nat → Hp → Res} : bR (rtn (some (.ref a)) h) f kx = f a h := rfl
theorem bR_t {f : Nat → Hp → Res} {kx : Nat → Hp → Res} : bR (thr E h) f kx = kx E h := rfl
theorem hnk_n : hnk [] E h = thr E h := rfl
theorem rd_wrx : rd (wr h a k x) b j = if b = a ∧ j = k then x else rd h b j := rfl
theorem rd_ne (hb : b ≠ a) : rd (wr h a k x) b j = rd h b j := by rw [rd_wrx, if_neg (fun q => hb q.1)]
theorem rd_nk (hb : j ≠ k) : rd (wr h a k x) b j = rd h b j := by rw [rd_wrx, if_neg (fun q => hb q.2)]
theorem rd_eqw : rd (wr h a k x) a k = x := by rw [rd_wrx, if_pos ⟨rfl, rfl⟩]
/-- a truth as a number -/
def bi (b : Bool) : Int32 := match b with
  | true => 1
  | false => 0
theorem bi_t : bi true = 1 := rfl
theorem bi_f : bi false = 0 := rfl
theorem bi_0 {b : Bool} : (bi b = 0) = (b = false) := by cases b <;> simp [bi]
theorem bi_1 {b : Bool} : (bi b = 1) = (b = true) := by cases b <;> simp [bi]
theorem okZ_bi {b : Bool} : okZ 1 (bi b) = true := by cases b <;> rfl
theorem one_ne : (1 : Int32) ≠ 0 := by decide
theorem two_ne : (2 : Int32) ≠ 0 := by decide
theorem three_ne : (3 : Int32) ≠ 0 := by decide
/-- in a range -/
def irg (x a b : Int32) : Bool := !decide (x < a) && !decide (b < x)
theorem irg_t {a b : Int32} (e : irg x a b = true) : ¬ x < a ∧ ¬ b < x := by
  unfold irg at e
  simpa using e
theorem irg_i {a b : Int32} (e1 : ¬ x < a) (e2 : ¬ b < x) : irg x a b = true := by
  unfold irg
  simp [e1, e2]
theorem irg_nI {n : Nat} (hn : n < 2 ^ 31) (e : irg x 0 (nI n) = true) : ∃ j : Nat, j ≤ n ∧ x = nI j := by
  obtain ⟨h0, h1⟩ := irg_t e
  obtain ⟨j, hj, rfl⟩ := nI_of h0
  refine ⟨j, ?_, rfl⟩
  have h2 : ¬ n < j := fun q => h1 (nI_lt q hj)
  omega
theorem nI_irg {j n : Nat} (hj : j ≤ n) (hn : n < 2 ^ 31) : irg (nI j) 0 (nI n) = true := irg_i (nI_pos (by omega)) (nI_nlt hj hn)
theorem inb_nI {n : Nat} (hj : j < n) (hn : n < 2 ^ 31) : inb (nI j) n = true := by
  unfold inb
  rw [nI_clamp (by omega), decide_eq_false (nI_pos (n := j) (by omega))]
  simpa using hj
theorem nI_inj {a b : Nat} (ha : a < 2 ^ 31) (hb : b < 2 ^ 31) (q : nI a = nI b) : a = b := (nI_eq ha hb).mp q
theorem nI_m1 {q : Nat} (hq : q < 2 ^ 31) : nI q ≠ -1 := fun z => by
  have h1 := nI_pos (n := q) hq
  rw [z] at h1
  exact h1 (by decide)
theorem requireRange_s {a b : Int32} : F_X6_requireRange [.int x, .int a, .int b] h = (match irg x a b with
  | true => rtn none h
  | false => thr 1 h) := by
  rw [e_X6_requireRange_0]
  unfold irg
  by_cases c1 : x < a
  · simp [c1, e_X6_requireRange_10]
  · by_cases c2 : b < x
    · simp [c1, c2, e_X6_requireRange_10]
    · simp [c1, c2]
theorem rng_t {a b : Int32} (e : irg x a b = true) : F_X6_requireRange [.int x, .int a, .int b] h = rtn none h := by
  rw [requireRange_s, e]
theorem kindOr_t (e : irg x 0 2 = true) : F_X6_requireKindOrEither [.int x] h = rtn none h := by
  rw [e_X6_requireKindOrEither_0, rng_t e]
  rfl
theorem skr1 : ∀ j, j < 4 → SKr 1 j = 11 + 9 * j := by decide
theorem skr3 : ∀ j, j < 60 → SKr 3 j = 47 + j := by decide
theorem skr4 : ∀ j, j < 60 → SKr 4 j = 107 + j := by decide
theorem skr5 : ∀ j, j < 60 → SKr 5 j = 167 + j := by decide
theorem okc_ap : ∀ j, j < 4 → okc (11 + 9 * j) 2 = true := by decide
theorem okc_rq : ∀ j, j < 60 → okc (47 + j) 4 = true ∧ okc (47 + j) 7 = true := by decide
theorem okc_sr : ∀ j, j < 60 → okc (107 + j) 5 = true ∧ okc (107 + j) 7 = true := by decide
theorem okc_rt : ∀ j, j < 60 → okc (167 + j) 6 = true ∧ okc (167 + j) 7 = true := by decide
theorem irg_3 (e : irg x 0 3 = true) : ∃ j : Nat, j < 4 ∧ x = nI j := by
  obtain ⟨j, h1, h2⟩ := irg_nI (n := 3) (by decide) e
  exact ⟨j, by omega, h2⟩
theorem irg_9 (e : irg x 0 9 = true) : ∃ j : Nat, j < 10 ∧ x = nI j := by
  obtain ⟨j, h1, h2⟩ := irg_nI (n := 9) (by decide) e
  exact ⟨j, by omega, h2⟩
theorem airportAt_s (hj : j < 4) : F_X6_airportAt [.ref 0, .int (nI j)] h = rtn (some (.ref (11 + 9 * j))) h := by
  rw [e_X6_airportAt_0, if_neg (nI_pos (n := j) (by omega)), if_pos (show nI j < 4 from nI_lt (b := 4) hj (by decide)), inb_nI hj (by decide), gd_t, nI_clamp (by omega), skr1 j hj]
theorem groupAt_s (hj : j < 10) : F_X6_groupAt [.ref 0, .int (nI j)] h = rtn (some (.int (rd h 2 j))) h := by
  rw [e_X6_groupAt_0, if_neg (nI_pos (n := j) (by omega)), if_pos (show nI j < 10 from nI_lt (b := 10) hj (by decide)), inb_nI hj (by decide), gd_t, nI_clamp (by omega)]
end BASE
/-! what holds between two calls -/
def nq (h : Hp) : Nat := (rd h 0 10).toNatClampNeg
def ns (h : Hp) : Nat := (rd h 0 11).toNatClampNeg
def nr (h : Hp) : Nat := (rd h 0 12).toNatClampNeg
def np (h : Hp) : Nat := (rd h 0 13).toNatClampNeg
def sn (h : Hp) : Nat := (rd h 0 14).toNatClampNeg
/-- how many of the first n are so -/
def cnt (f : Nat → Bool) : Nat → Nat
  | 0 => 0
  | n + 1 => cnt f n + (match f n with | true => 1 | false => 0)
theorem tnc_lt (x : Int32) : x.toNatClampNeg < 2 ^ 31 := by
  have h1 := Int32.toInt_lt x
  unfold Int32.toNatClampNeg
  omega
def stB (x : Int32) (h : Hp) (i : Nat) : Bool := decide (rd h (47 + i) 9 = x)
def VN (h : Hp) : Prop := rd h 0 10 = nI (nq h) ∧ nq h ≤ 60 ∧ rd h 0 11 = nI (ns h) ∧ ns h = cnt (stB 1 h) (nq h) ∧ rd h 0 12 = nI (nr h) ∧ nr h ≤ 60 ∧ rd h 0 13 = nI (np h) ∧ np h ≤ 60 ∧ rd h 0 14 = nI (sn h) ∧ sn h ≤ 20
def VA (h : Hp) : Prop := ∀ a, a < 4 → ∃ m : Nat, m ≤ 6 ∧ rd h (11 + 9 * a) 2 = nI m ∧ ¬ rd h (11 + 9 * a) 5 < 0 ∧ ∀ r, r < m → irg (rd h (14 + 9 * a + r) 0) 0 2 = true ∧ irg (rd h (14 + 9 * a + r) 1) 1 6 = true ∧ irg (rd h (14 + 9 * a + r) 2) 0 20 = true
/-- the seven numbers of a slot -/
def SLT7 (h : Hp) (b : Nat) : Prop := irg (rd h b 0) 0 3 = true ∧ irg (rd h b 1) 0 1 = true ∧ irg (rd h b 2) 0 6 = true ∧ irg (rd h b 3) 0 71 = true ∧ irg (rd h b 4) 0 19 = true ∧ irg (rd h b 5) (rd h b 4) 19 = true ∧ irg (rd h b 6) 0 9 = true
def VS (h : Hp) : Prop := ∀ i, i < ns h → SLT7 h (107 + i) ∧ irg (rd h (107 + i) 8) 0 9 = true ∧ irg (rd h (107 + i) 9) 0 9 = true ∧ (rd h (107 + i) 12 = 0 ∨ rd h (107 + i) 12 = 1) ∧ (rd h (107 + i) 12 = 0 → irg (rd h (107 + i) 11) 0 2 = true)
def VX (h : Hp) : Prop := ∀ i, i < ns h → ∃ j, j < nq h ∧ rd h (107 + i) 7 = nI j ∧ rd h (47 + j) 9 = 1 ∧ rd h (47 + j) 11 = nI i
def VQ (h : Hp) : Prop := ∀ i, i < nq h → SLT7 h (47 + i) ∧ irg (rd h (47 + i) 7) 0 9 = true ∧ (rd h (47 + i) 8 = -1 ∨ ∃ j, j < nr h ∧ rd h (47 + i) 8 = nI j)
def VT (h : Hp) : Prop := ∀ i, i < nq h → irg (rd h (47 + i) 9) 0 3 = true ∧ (rd h (47 + i) 9 = 2 → irg (rd h (47 + i) 12) 0 71 = true) ∧ (rd h (47 + i) 9 ≠ 2 → rd h (47 + i) 12 = -1) ∧ (rd h (47 + i) 9 ≠ 1 → rd h (47 + i) 11 = -1) ∧ (rd h (47 + i) 9 = 1 → ∃ j, j < ns h ∧ rd h (47 + i) 11 = nI j ∧ rd h (107 + j) 7 = nI i)
def VP (h : Hp) : Prop := ∀ i, i < nq h → rd h (47 + i) 13 = -1 ∨ ∃ j, j < nq h ∧ j ≠ i ∧ rd h (47 + i) 13 = nI j ∧ rd h (47 + j) 13 = nI i ∧ (rd h (47 + i) 9 = 0 ↔ rd h (47 + j) 9 = 0)
def VR (h : Hp) : Prop := ∀ i, i < nr h → SLT7 h (167 + i) ∧ irg (rd h (167 + i) 7) 0 9 = true
def QU (h : Hp) : Prop := ∀ p, p < np h → ∃ i, i < nq h ∧ rd h 6 p = nI i
/-- all but the partners, whose states are apart while two are decided -/
def Inv0 (h : Hp) : Prop := VN h ∧ VA h ∧ VS h ∧ VX h ∧ VQ h ∧ VT h ∧ VR h ∧ QU h
def Inv (h : Hp) : Prop := Inv0 h ∧ VP h
/-- the law's own numbers -/
def DD (h : Hp) : Prop := rd h 227 0 = rd h 0 10 ∧ rd h 227 1 = rd h 0 11 ∧ rd h 227 2 = rd h 0 12 ∧ rd h 227 3 = rd h 0 14 ∧ ∀ a, a < 2 → rd h 227 (4 + a) = rd h (11 + 9 * a) 2 ∧ ∀ r, r < 6 → r < (rd h (11 + 9 * a) 2).toNatClampNeg → rd h 227 (6 + 6 * a + r) = rd h (14 + 9 * a + r) 2
def Scr (h g : Hp) : Prop := (∀ j, rd g SCRA j = rd h SCRA j) ∧ rd g SCRB 0 = rd h SCRB 0
/-- all but such cells is as it was -/
def Fr (P : Nat → Nat → Prop) (a b : Hp) : Prop := ∀ x k, ¬ P x k → rd b x k = rd a x k
section FRS
variable {P P2 : Nat → Nat → Prop} {h g f : Hp} {a k : Nat} {x : Int32}
theorem Fr.refl : Fr P h h := fun _ _ _ => rfl
theorem Fr.w (F : Fr P h g) (hP : P a k) : Fr P h (wr g a k x) := fun b j hb => by
  rw [rd_wrx, if_neg (fun z => hb (by rw [z.1, z.2]; exact hP))]
  exact F b j hb
theorem Fr.trans (F : Fr P h g) (G : Fr P g f) : Fr P h f := fun b j hb => (G b j hb).trans (F b j hb)
theorem Fr.up (F : Fr P h g) (hP : ∀ b j, P b j → P2 b j) : Fr P2 h g := fun b j hb => F b j fun z => hb (hP b j z)
theorem Fr.scr (F : Fr P h g) (hP : ∀ b j, P b j → b < 1000) : Scr h g := ⟨fun j => F _ _ fun z => by have := hP _ _ z; exact absurd this (by decide), F _ _ fun z => by have := hP _ _ z; exact absurd this (by decide)⟩
theorem Scr.refl : Scr h h := ⟨fun _ => rfl, rfl⟩
theorem Scr.trans (F : Scr h g) (G : Scr g f) : Scr h f := ⟨fun j => (G.1 j).trans (F.1 j), G.2.trans F.2⟩
theorem cnt_congr {f g : Nat → Bool} : ∀ {n : Nat}, (∀ i, i < n → f i = g i) → cnt f n = cnt g n
  | 0, _ => rfl
  | n + 1, h => by
    show cnt f n + _ = cnt g n + _
    rw [cnt_congr fun i hi => h i (by omega), h n (by omega)]
theorem cnt_le {f : Nat → Bool} : ∀ n, cnt f n ≤ n
  | 0 => Nat.le_refl _
  | n + 1 => by
    have := cnt_le (f := f) n
    show cnt f n + (match f n with | true => 1 | false => 0) ≤ n + 1
    cases f n <;> simp <;> omega
theorem SLT7.F {b c : Nat} (H : SLT7 h b) (e : ∀ k, k < 7 → rd g c k = rd h b k) : SLT7 g c := by
  unfold SLT7
  rw [e 0 (by decide), e 1 (by decide), e 2 (by decide), e 3 (by decide), e 4 (by decide), e 5 (by decide), e 6 (by decide)]
  exact H
/-! what a part of it hangs on -/
theorem VN.F (H : VN h) (e0 : ∀ k, 10 ≤ k → k ≤ 14 → rd g 0 k = rd h 0 k) (e9 : ∀ i, i < nq h → rd g (47 + i) 9 = rd h (47 + i) 9) : VN g := by
  have q : cnt (stB 1 g) (nq h) = cnt (stB 1 h) (nq h) := cnt_congr fun i hi => by unfold stB; rw [e9 i hi]
  unfold VN nq ns nr np sn
  rw [e0 10 (by decide) (by decide), e0 11 (by decide) (by decide), e0 12 (by decide) (by decide), e0 13 (by decide) (by decide), e0 14 (by decide) (by decide)]
  obtain ⟨h1, h2, h3, h4, h5⟩ := H
  exact ⟨h1, h2, h3, h4.trans q.symm, h5⟩
theorem VA.F (H : VA h) (e : ∀ a k, 11 ≤ a → a < 47 → rd g a k = rd h a k) : VA g := by
  intro b hb
  obtain ⟨m, hm, e1, e2, e3⟩ := H b hb
  refine ⟨m, hm, ?_, ?_, fun r hr => ?_⟩
  · rw [e _ _ (by omega) (by omega)]
    exact e1
  · rw [e _ _ (by omega) (by omega)]
    exact e2
  · rw [e _ _ (by omega) (by omega), e _ _ (by omega) (by omega), e _ _ (by omega) (by omega)]
    exact e3 r hr
theorem VS.F (H : VS h) (e0 : rd g 0 11 = rd h 0 11) (e : ∀ i k, i < ns h → k ≠ 10 → k ≠ 7 → rd g (107 + i) k = rd h (107 + i) k) : VS g := by
  intro i hi
  have hn : ns g = ns h := by unfold ns; rw [e0]
  rw [hn] at hi
  obtain ⟨h1, h2⟩ := H i hi
  refine ⟨h1.F fun k hk => e i k hi (by omega) (by omega), ?_⟩
  rw [e i 8 hi (by decide) (by decide), e i 9 hi (by decide) (by decide), e i 12 hi (by decide) (by decide), e i 11 hi (by decide) (by decide)]
  exact h2
theorem VX.F (H : VX h) (e0 : rd g 0 11 = rd h 0 11) (e1 : rd g 0 10 = rd h 0 10) (e : ∀ i, i < ns h → rd g (107 + i) 7 = rd h (107 + i) 7) (e2 : ∀ i, i < nq h → rd h (47 + i) 9 = 1 → rd g (47 + i) 9 = rd h (47 + i) 9 ∧ rd g (47 + i) 11 = rd h (47 + i) 11) : VX g := by
  intro i hi
  have hn : ns g = ns h := by unfold ns; rw [e0]
  have hm : nq g = nq h := by unfold nq; rw [e1]
  rw [hn] at hi
  obtain ⟨j, h1, h2, h3, h4⟩ := H i hi
  refine ⟨j, by rw [hm]; exact h1, by rw [e i hi]; exact h2, by rw [(e2 j h1 h3).1]; exact h3, by rw [(e2 j h1 h3).2]; exact h4⟩
theorem VQ.F (H : VQ h) (e1 : rd g 0 10 = rd h 0 10) (e2 : rd g 0 12 = rd h 0 12) (e : ∀ i k, i < nq h → k < 9 → rd g (47 + i) k = rd h (47 + i) k) : VQ g := by
  intro i hi
  have hm : nq g = nq h := by unfold nq; rw [e1]
  have hr : nr g = nr h := by unfold nr; rw [e2]
  rw [hm] at hi
  obtain ⟨h1, h2⟩ := H i hi
  refine ⟨h1.F fun k hk => e i k hi (by omega), ?_⟩
  rw [e i 7 hi (by decide), e i 8 hi (by decide), hr]
  exact h2
theorem VT.F (H : VT h) (e1 : rd g 0 10 = rd h 0 10) (e2 : rd g 0 11 = rd h 0 11) (e : ∀ i k, i < nq h → k = 9 ∨ k = 11 ∨ k = 12 → rd g (47 + i) k = rd h (47 + i) k) (e3 : ∀ i, i < ns h → rd g (107 + i) 7 = rd h (107 + i) 7) : VT g := by
  intro i hi
  have hm : nq g = nq h := by unfold nq; rw [e1]
  have hn : ns g = ns h := by unfold ns; rw [e2]
  rw [hm] at hi
  obtain ⟨h1, h2, h3, h4, h5⟩ := H i hi
  rw [e i 9 hi (by decide), e i 12 hi (by decide), e i 11 hi (by decide), hn]
  refine ⟨h1, h2, h3, h4, fun q => ?_⟩
  obtain ⟨j, j1, j2, j3⟩ := h5 q
  exact ⟨j, j1, j2, by rw [e3 j j1]; exact j3⟩
theorem nq_lt {i : Nat} (hi : i < nq h) : i < 2 ^ 31 := by
  have h1 : nq h < 2 ^ 31 := tnc_lt _
  omega
theorem VP.F (H : VP h) (e1 : rd g 0 10 = rd h 0 10) (e : ∀ i, i < nq h → rd g (47 + i) 13 = rd h (47 + i) 13) (e9 : ∀ i, i < nq h → rd h (47 + i) 13 ≠ -1 → (rd g (47 + i) 9 = 0 ↔ rd h (47 + i) 9 = 0)) : VP g := by
  intro i hi
  have hm : nq g = nq h := by unfold nq; rw [e1]
  rw [hm] at hi
  rw [e i hi, hm]
  rcases H i hi with q | ⟨j, j1, j2, j3, j4, j5⟩
  · exact Or.inl q
  · refine Or.inr ⟨j, j1, j2, j3, by rw [e j j1]; exact j4, ?_⟩
    rw [e9 i hi (by rw [j3]; exact nI_m1 (nq_lt j1)), e9 j j1 (by rw [j4]; exact nI_m1 (nq_lt hi))]
    exact j5
theorem VR.F (H : VR h) (e2 : rd g 0 12 = rd h 0 12) (e : ∀ i k, i < nr h → k < 8 → rd g (167 + i) k = rd h (167 + i) k) : VR g := by
  intro i hi
  have hr : nr g = nr h := by unfold nr; rw [e2]
  rw [hr] at hi
  obtain ⟨h1, h2⟩ := H i hi
  refine ⟨h1.F fun k hk => e i k hi (by omega), ?_⟩
  rw [e i 7 hi (by decide)]
  exact h2
theorem QU.F (H : QU h) (e1 : rd g 0 10 = rd h 0 10) (e2 : rd g 0 13 = rd h 0 13) (e : ∀ p, p < np h → rd g 6 p = rd h 6 p) : QU g := by
  intro p hp
  have hm : nq g = nq h := by unfold nq; rw [e1]
  have hn : np g = np h := by unfold np; rw [e2]
  rw [hn] at hp
  rw [hm, e p hp]
  exact H p hp
end FRS
