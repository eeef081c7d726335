/-! how the reference selects them -/
def updN (C : Nat → Nat) (s v x : Nat) : Nat := if x = s then v else C x
def MO (h m : Hp) (L : Nat → Nat → Nat) (NN C : Nat → Nat) (t : Nat) : Prop := Fr PSm h m ∧ (∀ j, j < nq h → rd m 255 j = so10 h j) ∧ rd m 227 52 = nI t ∧ t = C 0 + C 1 + C 2 + C 3 ∧ (∀ s, s < 4 → C s ≤ NN s) ∧ ∀ s, s < 4 → ∀ c, c < NN s → ((∃ j, j < t ∧ rd m 274 j = nI (L s c)) ↔ c < C s)
def AllO (h : Hp) (L : Nat → Nat → Nat) (NN : Nat → Nat) : Prop := (∀ s, s < 4 → OL h (nI s) (nq h) (NN s) (L s)) ∧ NN 0 + NN 1 + NN 2 + NN 3 ≤ 60
section SEL
variable {h m : Hp} {L : Nat → Nat → Nat} {NN C : Nat → Nat} {t s k i j : Nat}
theorem isOrd_l (e52 : rd m 227 52 = nI t) (ht : t ≤ 60) : ∀ (n j : Nat) (b : Bool), j + n = t → (b = true ↔ ∃ z, z < j ∧ rd m 274 z = nI k) → ∃ b', f_X7_isOrdered_4 (nI k) (bi b) (nI j) m = rtn (some (.int (bi b'))) m ∧ (b' = true ↔ ∃ z, z < t ∧ rd m 274 z = nI k)
  | 0, j, b, e, hb => by
    obtain rfl : j = t := by omega
    refine ⟨b, ?_, hb⟩
    rw [e_X7_isOrdered_4, e52, if_neg (nI_nlt (by omega) (by omega)), okZ_bi, gd_t]
  | n + 1, j, b, e, hb => by
    rw [e_X7_isOrdered_4, e52, if_pos (nI_lt (by omega) (by omega)), inb_nI (by omega) (by decide), gd_t, nI_clamp (by omega), e_X7_isOrdered_26]
    simp only [e_X7_isOrdered_31, nI_1]
    cases b with
    | true =>
      rw [bi_t, if_neg one_ne]
      exact isOrd_l e52 ht n (j + 1) true (by omega) ⟨fun _ => by
        obtain ⟨z, z1, z2⟩ := hb.mp rfl
        exact ⟨z, by omega, z2⟩, fun _ => rfl⟩
    | false =>
      rw [bi_f, if_pos rfl]
      by_cases c : rd m 274 j = nI k
      · rw [if_pos c]
        exact isOrd_l e52 ht n (j + 1) true (by omega) ⟨fun _ => ⟨j, by omega, c⟩, fun _ => rfl⟩
      · rw [if_neg c]
        refine isOrd_l e52 ht n (j + 1) false (by omega) ⟨fun z => (by cases z), ?_⟩
        rintro ⟨z, z1, z2⟩
        by_cases cz : z = j
        · rw [cz] at z2
          exact absurd z2 c
        · exact hb.mpr ⟨z, by omega, z2⟩
theorem isOrd_s (e52 : rd m 227 52 = nI t) (ht : t ≤ 60) : ∃ b, F_X7_isOrdered [.ref 227, .int (nI k)] m = rtn (some (.int (bi b))) m ∧ (b = true ↔ ∃ z, z < t ∧ rd m 274 z = nI k) := by
  obtain ⟨b, h1, h2⟩ := isOrd_l (k := k) e52 ht t 0 false (by omega) ⟨fun z => (by cases z), fun ⟨z, z1, _⟩ => by omega⟩
  exact ⟨b, by rw [e_X7_isOrdered_0]; exact h1, h2⟩
theorem wk_m (H : Inv h) (F : Fr PSm h m) (hk : k < nq h) : F_X7_weeks [.ref 227, .int (nI k)] m = rtn (some (.int (nI (wN h k)))) m := by
  have h60 := H.2.2.2.2.2.2.2.1.q.1
  rw [e_X7_weeks_0, inb_nI (by omega) (by decide), gd_t, gd_t, nI_clamp (by omega), F 251 k (by unfold PSm; omega), F 250 k (by unfold PSm; omega), (wN_s H hk).1]
theorem isAhead_s (H : Inv h) (F : Fr PSm h m) (hi : i < nq h) (hj : j < nq h) : F_X7_isAhead [.ref 227, .int (nI i), .int (nI j)] m = rtn (some (.int (if wN h j < wN h i then 1 else if wN h i = wN h j then if i < j then 1 else 0 else 0))) m := by
  have h60 := H.2.2.2.2.2.2.2.1.q.1
  have w1 := (wN_s H hi).2
  have w2 := (wN_s H hj).2
  rw [e_X7_isAhead_0, wk_m H F hi, bI_r, wk_m H F hj, bI_r, wk_m H F hi, bI_r, wk_m H F hj, bI_r]
  by_cases c1 : wN h j < wN h i
  · rw [if_pos (nI_lt c1 (by omega)), if_pos c1]
  · rw [if_neg (nI_nlt (by omega) (by omega)), if_neg c1]
    by_cases c2 : wN h i = wN h j
    · rw [if_pos (by rw [c2]), if_pos c2]
      by_cases c3 : i < j
      · rw [if_pos (nI_lt c3 (by omega)), if_pos c3]
      · rw [if_neg (nI_nlt (by omega) (by omega)), if_neg c3]
    · rw [if_neg (fun z => c2 (nI_inj (by omega) (by omega) z)), if_neg c2]
theorem isAhead_b (H : Inv h) (F : Fr PSm h m) (hi : i < nq h) (hj : j < nq h) : ∃ b, F_X7_isAhead [.ref 227, .int (nI i), .int (nI j)] m = rtn (some (.int (bi b))) m ∧ (b = true ↔ ahd h i j) := by
  rw [isAhead_s H F hi hj]
  unfold ahd
  by_cases c1 : wN h j < wN h i
  · exact ⟨true, by rw [if_pos c1]; rfl, ⟨fun _ => Or.inl c1, fun _ => rfl⟩⟩
  · rw [if_neg c1]
    by_cases c2 : wN h i = wN h j
    · rw [if_pos c2]
      by_cases c3 : i < j
      · exact ⟨true, by rw [if_pos c3]; rfl, ⟨fun _ => Or.inr ⟨c2, c3⟩, fun _ => rfl⟩⟩
      · exact ⟨false, by rw [if_neg c3]; rfl, ⟨fun z => (by cases z), fun z => by omega⟩⟩
    · exact ⟨false, by rw [if_neg c2]; rfl, ⟨fun z => (by cases z), fun z => by omega⟩⟩
def cand (h m : Hp) (t s k : Nat) : Prop := asks h (nI s) k = true ∧ ¬ ∃ z, z < t ∧ rd m 274 z = nI k
theorem first_l (H : Inv h) (M : MO h m L NN C t) (ht : t ≤ 60) : ∀ (n k : Nat) (x : Int32), k + n = nq h → ((x = -1 ∧ ∀ j, j < k → ¬ cand h m t s j) ∨ ∃ f, f < k ∧ x = nI f ∧ cand h m t s f ∧ ∀ j, j < k → cand h m t s j → j ≠ f → ahd h f j) → ∃ y, f_X7_firstOf_4 (nI s) x (nI k) m = rtn (some (.int y)) m ∧ ((y = -1 ∧ ∀ j, j < nq h → ¬ cand h m t s j) ∨ ∃ f, f < nq h ∧ y = nI f ∧ cand h m t s f ∧ ∀ j, j < nq h → cand h m t s j → j ≠ f → ahd h f j)
  | 0, k, x, e, hx => by
    have V := H.2.2.2.2.2.2.2.1
    have h60 := V.q.1
    obtain ⟨F, m2, m3, m4, m5, m6⟩ := M
    obtain rfl : k = nq h := by omega
    refine ⟨x, ?_, hx⟩
    rw [e_X7_firstOf_4, F 227 20 (by unfold PSm; omega), V.q.2, if_neg (nI_nlt (by omega) (by omega))]
  | n + 1, k, x, e, hx => by
    have V := H.2.2.2.2.2.2.2.1
    have h60 := V.q.1
    have ih := fun x => first_l H M ht n (k + 1) x (by omega)
    obtain ⟨F, m2, m3, m4, m5, m6⟩ := M
    obtain ⟨bo, o1, o2⟩ := isOrd_s (k := k) m3 ht
    have st : ∃ b : Bool, (b = true ↔ cand h m t s k) ∧ f_X7_firstOf_4 (nI s) x (nI k) m = (if b = true then (if x = -1 then f_X7_firstOf_4 (nI s) (nI k) (nI (k + 1)) m else bI (F_X7_isAhead [.ref 227, .int (nI k), .int x] m) (fun v2 h1 => if v2 = 0 then f_X7_firstOf_4 (nI s) x (nI (k + 1)) h1 else f_X7_firstOf_4 (nI s) (nI k) (nI (k + 1)) h1) (hnk [])) else f_X7_firstOf_4 (nI s) x (nI (k + 1)) m) := by
      rw [e_X7_firstOf_4, F 227 20 (by unfold PSm; omega), V.q.2, if_pos (nI_lt (by omega) (by omega)), inb_nI (by omega) (by decide), gd_t, nI_clamp (by omega), gd_t, F 254 k (by unfold PSm; omega), m2 k (by omega), o1, bI_r]
      simp only [e_X7_firstOf_43, e_X7_firstOf_44, e_X7_firstOf_65, e_X7_firstOf_69, e_X7_firstOf_70, nI_1]
      by_cases c1 : rd h 254 k = 0
      · by_cases c2 : so10 h k = nI s
        · have ha : asks h (nI s) k = true := by
            unfold asks
            rw [decide_eq_true c1, decide_eq_true c2]
            rfl
          cases bo with
          | true =>
            refine ⟨false, ⟨fun z => (by cases z), fun z => absurd (o2.mp rfl) z.2⟩, ?_⟩
            simp [c1, c2, bi]
          | false =>
            refine ⟨true, ⟨fun _ => ⟨ha, fun z => (by have := o2.mpr z; cases this)⟩, fun _ => rfl⟩, ?_⟩
            simp [c1, c2, bi, one_ne]
        · refine ⟨false, ⟨fun z => (by cases z), fun z => ?_⟩, ?_⟩
          · have := z.1
            unfold asks at this
            rw [decide_eq_false c2, Bool.and_false] at this
            cases this
          · simp [c1, c2]
      · refine ⟨false, ⟨fun z => (by cases z), fun z => ?_⟩, ?_⟩
        · have := z.1
          unfold asks at this
          rw [decide_eq_false c1, Bool.false_and] at this
          cases this
        · simp [c1]
    obtain ⟨b, hb, st⟩ := st
    rw [st]
    cases b with
    | false =>
      have nc : ¬ cand h m t s k := fun z => (by have := hb.mpr z; cases this)
      rw [if_neg (by decide)]
      apply ih
      rcases hx with ⟨h1, h2⟩ | ⟨f, h1, h2, h3, h4⟩
      · refine Or.inl ⟨h1, fun j hj => ?_⟩
        by_cases cj : j = k
        · rw [cj]
          exact nc
        · exact h2 j (by omega)
      · refine Or.inr ⟨f, by omega, h2, h3, fun j hj hc hne => ?_⟩
        by_cases cj : j = k
        · rw [cj] at hc
          exact absurd hc nc
        · exact h4 j (by omega) hc hne
    | true =>
      have yc := hb.mp rfl
      rw [if_pos rfl]
      rcases hx with ⟨h1, h2⟩ | ⟨f, h1, h2, h3, h4⟩
      · rw [if_pos h1]
        apply ih
        refine Or.inr ⟨k, by omega, rfl, yc, fun j hj hc hne => ?_⟩
        exact absurd hc (h2 j (by omega))
      · obtain ⟨ba, p1, p2⟩ := isAhead_b H F (show k < nq h by omega) (show f < nq h by omega)
        rw [h2, if_neg (nI_m1 (by omega)), p1, bI_r]
        cases ba with
        | true =>
          have ka := p2.mp rfl
          rw [bi_t, if_neg one_ne]
          apply ih
          refine Or.inr ⟨k, by omega, rfl, yc, fun j hj hc hne => ?_⟩
          by_cases cj : j = f
          · rw [cj]
            exact ka
          · exact ahd_trans ka (h4 j (by omega) hc cj)
        | false =>
          have nka : ¬ ahd h k f := fun z => (by have := p2.mpr z; cases this)
          rw [bi_f, if_pos rfl]
          apply ih
          refine Or.inr ⟨f, by omega, rfl, h3, fun j hj hc hne => ?_⟩
          by_cases cj : j = k
          · rw [cj]
            unfold ahd at *
            omega
          · exact h4 j (by omega) hc hne
theorem ahd_irr : ¬ (ahd h i j ∧ ahd h j i) := by
  unfold ahd
  omega
theorem sum_le (O : AllO h L NN) (M : MO h m L NN C t) : t ≤ 60 := by
  obtain ⟨F, m2, m3, m4, m5, m6⟩ := M
  have := m5 0 (by decide)
  have := m5 1 (by decide)
  have := m5 2 (by decide)
  have := m5 3 (by decide)
  have := O.2
  omega
theorem sum_lt (O : AllO h L NN) (M : MO h m L NN C t) (hs : s < 4) (hc : C s < NN s) : t < 60 := by
  obtain ⟨F, m2, m3, m4, m5, m6⟩ := M
  have := m5 0 (by decide)
  have := m5 1 (by decide)
  have := m5 2 (by decide)
  have := m5 3 (by decide)
  have := O.2
  have : s = 0 ∨ s = 1 ∨ s = 2 ∨ s = 3 := by omega
  rcases this with rfl | rfl | rfl | rfl <;> omega
theorem first_s (H : Inv h) (O : AllO h L NN) (M : MO h m L NN C t) (hs : s < 4) : F_X7_firstOf [.ref 227, .int (nI s)] m = rtn (some (.int (if C s < NN s then nI (L s (C s)) else -1))) m := by
  have ht := sum_le O M
  obtain ⟨y, r1, r2⟩ := first_l (s := s) H M ht (nq h) 0 (-1) (by omega) (Or.inl ⟨rfl, fun j hj => by omega⟩)
  obtain ⟨F, m2, m3, m4, m5, m6⟩ := M
  obtain ⟨o1, o2, o3, o4⟩ := O.1 s hs
  rw [e_X7_firstOf_0]
  have r1 : f_X7_firstOf_4 (nI s) (-1) 0 m = rtn (some (.int y)) m := r1
  rw [r1]
  congr 3
  have cn : ∀ c, c < NN s → C s ≤ c → cand h m t s (L s c) := fun c h1 h2 => ⟨(o1 c h1).2, fun z => by have := (m6 s hs c h1).mp z; omega⟩
  by_cases c : C s < NN s
  · rw [if_pos c]
    have hc := cn (C s) c (Nat.le_refl _)
    rcases r2 with ⟨h1, h2⟩ | ⟨f, h1, h2, h3, h4⟩
    · exact absurd hc (h2 _ (o1 _ c).1)
    · rw [h2]
      congr 1
      obtain ⟨d, d1, d2⟩ := o3 f h1 h3.1
      have hd : C s ≤ d := by
        rcases Nat.lt_or_ge d (C s) with z | z
        · exact absurd ((m6 s hs d d1).mpr z) (by rw [d2]; exact h3.2)
        · exact z
      by_cases e : d = C s
      · rw [← d2, e]
      · have a1 := o2 (C s) d (by omega) d1
        rw [d2] at a1
        have ne : L s (C s) ≠ f := fun z => by
          rw [z] at a1
          exact ahd_irr ⟨a1, a1⟩
        exact absurd ⟨a1, h4 _ (o1 _ c).1 hc ne⟩ ahd_irr
  · rw [if_neg c]
    rcases r2 with ⟨h1, h2⟩ | ⟨f, h1, h2, h3, h4⟩
    · exact h1
    · obtain ⟨d, d1, d2⟩ := o3 f h1 h3.1
      have := (m6 s hs d d1).mpr (by omega)
      rw [d2] at this
      exact absurd this h3.2
theorem updN_sum {v : Nat} (hs : s < 4) : updN C s (C s + 1) 0 + updN C s (C s + 1) 1 + updN C s (C s + 1) 2 + updN C s (C s + 1) 3 = C 0 + C 1 + C 2 + C 3 + 1 := by
  have : s = 0 ∨ s = 1 ∨ s = 2 ∨ s = 3 := by omega
  unfold updN
  rcases this with rfl | rfl | rfl | rfl <;> simp <;> omega
theorem orders_s (H : Inv h) (O : AllO h L NN) (M : MO h m L NN C t) (hs : s < 4) : (C s < NN s ∧ F_X7_orders [.ref 227, .int (nI s)] m = rtn (some (.int 1)) (wr (wr m 274 t (nI (L s (C s)))) 227 52 (nI (t + 1))) ∧ MO h (wr (wr m 274 t (nI (L s (C s)))) 227 52 (nI (t + 1))) L NN (updN C s (C s + 1)) (t + 1)) ∨ (C s = NN s ∧ F_X7_orders [.ref 227, .int (nI s)] m = rtn (some (.int 0)) m) := by
  have hf := first_s H O M hs
  have h60 := H.2.2.2.2.2.2.2.1.q.1
  by_cases c : C s < NN s
  · left
    have ht := sum_lt O M hs c
    obtain ⟨F, m2, m3, m4, m5, m6⟩ := M
    obtain ⟨o1, o2, o3, o4⟩ := O.1 s hs
    have hlt := (o1 (C s) c).1
    rw [if_pos c] at hf
    refine ⟨c, ?_, (F.w (by unfold PSm; omega)).w (by unfold PSm; omega), fun j hj => ?_, rd_eqw, ?_, ?_, ?_⟩
    · rw [e_X7_orders_0, hf, bI_r, if_neg (nI_m1 (by omega)), m3, inb_nI ht (by decide), gd_t, nI_clamp (by omega), e_X7_orders_31, if_neg (nI_m1 (by omega)), nI_1]
    · rw [rd_ne (by decide), rd_ne (by decide)]
      exact m2 j hj
    · rw [updN_sum (v := 0) hs]
      omega
    · intro x hx
      unfold updN
      by_cases e : x = s
      · rw [if_pos e, e]
        exact c
      · rw [if_neg e]
        exact m5 x hx
    · intro x hx d hd
      have hxo := O.1 x hx
      have hdl := (hxo.1 d hd).1
      -- the new entry is that of s at C s alone
      have same : nI (L s (C s)) = nI (L x d) → x = s ∧ d = C s := by
        intro z
        have z := nI_inj (by omega) (by omega) z
        have a1 := (o1 (C s) c).2
        have a2 := (hxo.1 d hd).2
        rw [← z] at a2
        unfold asks at a1 a2
        rw [Bool.and_eq_true, decide_eq_true_eq, decide_eq_true_eq] at a1 a2
        have e := nI_inj (by omega) (by omega) (a2.2.symm.trans a1.2)
        subst e
        refine ⟨rfl, ?_⟩
        rcases Nat.lt_trichotomy d (C x) with q | q | q
        · have := o2 d (C x) q c
          rw [z] at this
          exact absurd ⟨this, this⟩ ahd_irr
        · exact q
        · have := o2 (C x) d q hd
          rw [z] at this
          exact absurd ⟨this, this⟩ ahd_irr
      have o274 : ∀ j, rd (wr (wr m 274 t (nI (L s (C s)))) 227 52 (nI (t + 1))) 274 j = if j = t then nI (L s (C s)) else rd m 274 j := fun j => by
        rw [rd_ne (by decide), rd_wrx]
        by_cases e : j = t
        · rw [if_pos ⟨rfl, e⟩, if_pos e]
        · rw [if_neg (fun z => e z.2), if_neg e]
      unfold updN
      constructor
      · rintro ⟨j, hj, hz⟩
        rw [o274] at hz
        by_cases e : j = t
        · rw [if_pos e] at hz
          obtain ⟨rfl, rfl⟩ := same hz
          rw [if_pos rfl]
          omega
        · rw [if_neg e] at hz
          have := (m6 x hx d hd).mp ⟨j, by omega, hz⟩
          by_cases ex : x = s
          · subst ex
            rw [if_pos rfl]
            omega
          · rw [if_neg ex]
            exact this
      · intro hz
        by_cases ex : x = s ∧ d = C s
        · obtain ⟨rfl, rfl⟩ := ex
          exact ⟨t, by omega, by rw [o274, if_pos rfl]⟩
        · have hz' : d < C x := by
            by_cases e : x = s
            · subst e
              rw [if_pos rfl] at hz
              have : d ≠ C x := fun q => ex ⟨rfl, q⟩
              omega
            · rw [if_neg e] at hz
              exact hz
          obtain ⟨j, z1, z2⟩ := (m6 x hx d hd).mpr hz'
          exact ⟨j, by omega, by rw [o274, if_neg (by omega)]; exact z2⟩
  · right
    have e : C s = NN s := by
      have := M.2.2.2.2.1 s hs
      omega
    rw [if_neg c] at hf
    refine ⟨e, ?_⟩
    rw [e_X7_orders_0, hf, bI_r, if_pos rfl, e_X7_orders_31, if_pos rfl]
end SEL
