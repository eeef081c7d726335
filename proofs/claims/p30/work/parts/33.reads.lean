/-! what the class reads of its rows -/
theorem all2 {n m : Nat} {p : Nat → Nat → Bool} (h : ((List.range n).all fun i => (List.range m).all fun f => p i f) = true) {i f : Nat} (hi : i < n) (hf : f < m) : p i f = true := List.all_eq_true.mp (List.all_eq_true.mp h i (List.mem_range.mpr hi)) f (List.mem_range.mpr hf)
section READS
variable {h : Hp} {x y x1 x2 x3 x4 x5 x6 : Int32} {i j k : Nat}
theorem VN.q (H : VN h) : nq h ≤ 60 ∧ rd h 0 10 = nI (nq h) := ⟨H.2.1, H.1⟩
theorem VN.s (H : VN h) : ns h ≤ 60 ∧ rd h 0 11 = nI (ns h) := ⟨by
  have h1 := cnt_le (f := stB 1 h) (nq h)
  have h2 := H.2.2.2.1
  have h3 := H.2.1
  omega, H.2.2.1⟩
theorem VN.r (H : VN h) : nr h ≤ 60 ∧ rd h 0 12 = nI (nr h) := ⟨H.2.2.2.2.2.1, H.2.2.2.2.1⟩
theorem VN.p (H : VN h) : np h ≤ 60 ∧ rd h 0 13 = nI (np h) := ⟨H.2.2.2.2.2.2.2.1, H.2.2.2.2.2.2.1⟩
theorem VN.n (H : VN h) : sn h ≤ 20 ∧ rd h 0 14 = nI (sn h) := ⟨H.2.2.2.2.2.2.2.2.2, H.2.2.2.2.2.2.2.2.1⟩
theorem seriesAt_n {n : Nat} (e : rd h 0 11 = nI n) (hn : n ≤ 60) (hj : j < n) : F_X6_seriesAt [.ref 0, .int (nI j)] h = rtn (some (.ref (107 + j))) h := by
  rw [e_X6_seriesAt_0, e, if_neg (nI_pos (n := j) (by omega)), if_pos (nI_lt hj (by omega)), if_pos (show nI j < 60 from nI_lt (b := 60) (by omega) (by decide)), inb_nI (by omega) (by decide), gd_t, nI_clamp (by omega), skr4 j (by omega)]
theorem requestAt_n {n : Nat} (e : rd h 0 10 = nI n) (hn : n ≤ 60) (hj : j < n) : F_X6_requestAt [.ref 0, .int (nI j)] h = rtn (some (.ref (47 + j))) h := by
  rw [e_X6_requestAt_0, e, if_neg (nI_pos (n := j) (by omega)), if_pos (nI_lt hj (by omega)), if_pos (show nI j < 60 from nI_lt (b := 60) (by omega) (by decide)), inb_nI (by omega) (by decide), gd_t, nI_clamp (by omega), skr3 j (by omega)]
theorem rightAt_n {n : Nat} (e : rd h 0 12 = nI n) (hn : n ≤ 60) (hj : j < n) : F_X6_rightAt [.ref 0, .int (nI j)] h = rtn (some (.ref (167 + j))) h := by
  rw [e_X6_rightAt_0, e, if_neg (nI_pos (n := j) (by omega)), if_pos (nI_lt hj (by omega)), if_pos (show nI j < 60 from nI_lt (b := 60) (by omega) (by decide)), inb_nI (by omega) (by decide), gd_t, nI_clamp (by omega), skr5 j (by omega)]
theorem seriesAt_s (V : VN h) (hj : j < ns h) : F_X6_seriesAt [.ref 0, .int (nI j)] h = rtn (some (.ref (107 + j))) h := seriesAt_n V.s.2 V.s.1 hj
theorem requestAt_s (V : VN h) (hj : j < nq h) : F_X6_requestAt [.ref 0, .int (nI j)] h = rtn (some (.ref (47 + j))) h := requestAt_n V.q.2 V.q.1 hj
theorem rightAt_s (V : VN h) (hj : j < nr h) : F_X6_rightAt [.ref 0, .int (nI j)] h = rtn (some (.ref (167 + j))) h := rightAt_n V.r.2 V.r.1 hj
theorem rul_b : ∀ b, b < 4 → ∀ r, r < 6 → SKr (SKr (11 + 9 * b) 0) r = 14 + 9 * b + r ∧ okc (14 + 9 * b + r) 3 = true := by decide
theorem rul_c : ∀ b, b < 4 → memb (SKc (SKr (11 + 9 * b) 0)) [10, 11, 12, 13, 14, 15, 16, 17, 18] = true ∧ memb (SKc (SKr (11 + 9 * b) 0)) [13, 14, 15, 16, 17] = true ∧ SKn (SKr (11 + 9 * b) 0) = 6 ∧ Nat.beq (SKr (11 + 9 * b) 0) 1000 = false := by decide
theorem ruleAt_s {b r m : Nat} (hb : b < 4) (em : rd h (11 + 9 * b) 2 = nI m) (hm : m ≤ 6) (hr : r < m) : F_X0_ruleAt [.ref (11 + 9 * b), .int (nI r)] h = rtn (some (.ref (14 + 9 * b + r))) h := by
  obtain ⟨c1, c2, c3, c4⟩ := rul_c b hb
  have al : alen SKn h (SKr (11 + 9 * b) 0) = 6 := by
    unfold alen
    rw [c4]
    exact c3
  rw [e_X0_ruleAt_0, if_neg (nI_pos (n := r) (by omega)), okc_ap b hb]
  simp only [gd_t]
  rw [em, if_pos (nI_lt hr (by omega)), c1, gd_t, al, if_pos (show nI r < Int32.ofNat 6 from nI_lt (b := 6) (by omega) (by decide)), c2, c3, inb_nI (show r < 6 by omega) (by decide)]
  show rtn (some (.ref (SKr (SKr (11 + 9 * b) 0) (nI r).toNatClampNeg))) h = _
  rw [nI_clamp (by omega), (rul_b b hb r (by omega)).1]
/-! sums -/
theorem cnt_s {f : Nat → Bool} {n : Nat} : cnt f (n + 1) = cnt f n + (match f n with | true => 1 | false => 0) := rfl
theorem cnt_t {f : Nat → Bool} {n : Nat} (e : f n = true) : cnt f (n + 1) = cnt f n + 1 := by rw [cnt_s, e]
theorem cnt_f {f : Nat → Bool} {n : Nat} (e : f n = false) : cnt f (n + 1) = cnt f n := by
  rw [cnt_s, e]
  rfl
theorem bi_nI {b : Bool} {c : Nat} : nI c + bi b = nI (c + (match b with | true => 1 | false => 0)) := by
  cases b
  · exact nI_add c 0
  · exact nI_add c 1
theorem requestsThatAre_l {v : Int32} (V : VN h) : ∀ (n k : Nat), k + n = nq h → f_X6_requestsThatAre_4 v (nI (cnt (stB v h) k)) (nI k) h = rtn (some (.int (nI (cnt (stB v h) (nq h))))) h
  | 0, k, e => by
    have h60 := V.q.1
    rw [e_X6_requestsThatAre_4, V.q.2, if_neg (nI_nlt (by omega) (by omega)), show k = nq h by omega]
  | n + 1, k, e => by
    have h60 := V.q.1
    have ih := requestsThatAre_l (v := v) V n (k + 1) (by omega)
    rw [e_X6_requestsThatAre_4, V.q.2, if_pos (nI_lt (by omega) (by omega)), requestAt_s V (by omega), bR_r, (okc_rq k (by omega)).1]
    simp only [gd_t, e_X6_requestsThatAre_27, nI_1]
    by_cases c : rd h (47 + k) 9 = v
    · rw [cnt_t (show stB v h k = true from decide_eq_true c)] at ih
      rw [if_pos c]
      exact ih
    · rw [cnt_f (show stB v h k = false from decide_eq_false c)] at ih
      rw [if_neg c]
      exact ih
theorem requestsThatAre_s {v : Int32} (V : VN h) : F_X6_requestsThatAre [.ref 0, .int v] h = rtn (some (.int (nI (cnt (stB v h) (nq h))))) h := by
  rw [e_X6_requestsThatAre_0]
  exact requestsThatAre_l V (nq h) 0 (by omega)
theorem count_0 (V : VN h) : F_X6_count [.ref 0, .int 0] h = rtn (some (.int (nI (nq h)))) h := by
  rw [e_X6_count_0, V.q.2]
  rfl
theorem count_4 (V : VN h) : F_X6_count [.ref 0, .int 4] h = rtn (some (.int (nI (ns h)))) h := by
  rw [e_X6_count_0, V.s.2]
  rfl
theorem count_1 (V : VN h) : F_X6_count [.ref 0, .int 1] h = rtn (some (.int (nI (cnt (stB 1 h) (nq h))))) h := by
  rw [e_X6_count_0, if_neg (by decide), if_pos (by decide), requestsThatAre_s V, bI_r]
theorem count_2 (V : VN h) : F_X6_count [.ref 0, .int 2] h = rtn (some (.int (nI (cnt (stB 2 h) (nq h))))) h := by
  rw [e_X6_count_0, if_neg (by decide), if_neg (by decide), if_pos (by decide), requestsThatAre_s V, bI_r]
theorem count_3 (V : VN h) : F_X6_count [.ref 0, .int 3] h = rtn (some (.int (nI (cnt (stB 3 h) (nq h))))) h := by
  rw [e_X6_count_0, if_neg (by decide), if_neg (by decide), if_neg (by decide), if_pos (by decide), requestsThatAre_s V, bI_r]
/-! slots -/
theorem isOn_s (hk : k < 60) : F_X4_isOn [.ref (107 + k), .int x1, .int x2, .int x3] h = rtn (some (.int (bi (decide (rd h (107 + k) 12 = 0) && decide (rd h (107 + k) 0 = x1) && decide (rd h (107 + k) 2 = x3) && (decide (x2 = 2) || decide (rd h (107 + k) 1 = x2)))))) h := by
  rw [e_X4_isOn_0, (okc_sr k hk).1]
  simp only [gd_t]
  by_cases c1 : rd h (107 + k) 12 = 0
  · by_cases c2 : rd h (107 + k) 0 = x1
    · by_cases c3 : rd h (107 + k) 2 = x3
      · by_cases c4 : x2 = 2
        · simp [c1, c2, c3, c4, bi]
        · by_cases c5 : rd h (107 + k) 1 = x2
          · simp [c1, c2, c3, c5, bi]
          · simp [c1, c2, c3, c4, c5, bi]
      · simp [c1, c2, c3, bi]
    · simp [c1, c2, bi]
  · simp [c1, bi]
theorem lastsIn_s {a : Nat} (ha : okc a 7 = true) : F_X5_lastsIn [.ref a, .int x1] h = rtn (some (.int (bi (irg x1 (rd h a 4) (rd h a 5))))) h := by
  rw [e_X5_lastsIn_0, ha]
  simp only [gd_t]
  unfold irg
  by_cases c1 : x1 < rd h a 4
  · simp [c1, bi]
  · by_cases c2 : rd h a 5 < x1
    · simp [c1, c2, bi]
    · simp [c1, c2, bi]
theorem isBetween_s (hk : k < 60) : F_X4_isBetween [.ref (107 + k), .int x1, .int x2] h = rtn (some (.int (bi (irg (rd h (107 + k) 3) x1 x2)))) h := by
  rw [e_X4_isBetween_0, (okc_sr k hk).1]
  simp only [gd_t]
  unfold irg
  by_cases c1 : rd h (107 + k) 3 < x1
  · simp [c1, bi]
  · by_cases c2 : x2 < rd h (107 + k) 3
    · simp [c1, c2, bi]
    · simp [c1, c2, bi]
/-- a series on a weekday of an airport, of a kind, between two times -/
def cB (x1 kd x3 s to : Int32) (h : Hp) (k : Nat) : Bool := decide (rd h (107 + k) 12 = 0) && decide (rd h (107 + k) 0 = x1) && decide (rd h (107 + k) 2 = x3) && (decide (kd = 2) || decide (rd h (107 + k) 1 = kd)) && irg (rd h (107 + k) 3) s to
/-- .. in a week -/
def ldB (x1 kd x3 x4 s to : Int32) (h : Hp) (k : Nat) : Bool := cB x1 kd x3 s to h k && irg x4 (rd h (107 + k) 4) (rd h (107 + k) 5)
theorem slots_l (V : VN h) : ∀ (n k : Nat), k + n = ns h → f_X6_slotsBetween_6 x1 x2 x3 x4 x5 x6 (nI (cnt (ldB x1 x2 x3 x4 x5 x6 h) k)) (nI k) h = rtn (some (.int (nI (cnt (ldB x1 x2 x3 x4 x5 x6 h) (ns h))))) h
  | 0, k, e => by
    have h60 := V.s.1
    rw [e_X6_slotsBetween_6, V.s.2, if_neg (nI_nlt (by omega) (by omega)), show k = ns h by omega]
  | n + 1, k, e => by
    have h60 := V.s.1
    have ih := slots_l V n (k + 1) (by omega)
    rw [e_X6_slotsBetween_6, V.s.2, if_pos (nI_lt (by omega) (by omega)), seriesAt_s V (by omega), bR_r, (okc_sr k (by omega)).1]
    simp only [gd_t, isOn_s (h := h) (k := k) (by omega), lastsIn_s (h := h) (okc_sr k (by omega)).2, isBetween_s (h := h) (k := k) (by omega), bI_r, e_X6_slotsBetween_59, nI_1]
    rw [cnt_s] at ih
    have hf : ldB x1 x2 x3 x4 x5 x6 h k = ((decide (rd h (107 + k) 12 = 0) && decide (rd h (107 + k) 0 = x1) && decide (rd h (107 + k) 2 = x3) && (decide (x2 = 2) || decide (rd h (107 + k) 1 = x2))) && irg (rd h (107 + k) 3) x5 x6 && irg x4 (rd h (107 + k) 4) (rd h (107 + k) 5)) := rfl
    rw [hf] at ih
    revert ih
    generalize (decide (rd h (107 + k) 12 = 0) && decide (rd h (107 + k) 0 = x1) && decide (rd h (107 + k) 2 = x3) && (decide (x2 = 2) || decide (rd h (107 + k) 1 = x2))) = b1
    generalize irg x4 (rd h (107 + k) 4) (rd h (107 + k) 5) = b2
    generalize irg (rd h (107 + k) 3) x5 x6 = b3
    intro ih
    cases b1 <;> cases b2 <;> cases b3 <;> simpa [bi] using ih
theorem slotsBetween_s (V : VN h) : F_X6_slotsBetween [.ref 0, .int x1, .int x2, .int x3, .int x4, .int x5, .int x6] h = rtn (some (.int (nI (cnt (ldB x1 x2 x3 x4 x5 x6 h) (ns h))))) h := by
  rw [e_X6_slotsBetween_0]
  exact slots_l V (ns h) 0 (by omega)
theorem load_s (V : VN h) (hj : j < 4) (c2 : irg x2 0 2 = true) (c3 : irg x3 0 6 = true) (c4 : irg x4 0 19 = true) (c5 : irg x5 0 71 = true) (c6 : irg x6 x5 71 = true) : F_X6_load [.ref 0, .int (nI j), .int x2, .int x3, .int x4, .int x5, .int x6] h = rtn (some (.int (nI (cnt (ldB (nI j) x2 x3 x4 x5 x6 h) (ns h))))) h := by
  rw [e_X6_load_0, airportAt_s hj, bR_r, kindOr_t c2, bV_r, rng_t c3, bV_r, rng_t c4, bV_r, rng_t c5, bV_r, rng_t c6, bV_r, slotsBetween_s V, bI_r]
/-! noise of the night -/
def ngt (x : Int32) : Bool := decide (x < 18) || decide (65 < x)
theorem isByNight_s : F_X6_isByNight [.int x] h = rtn (some (.int (bi (ngt x)))) h := by
  rw [e_X6_isByNight_0]
  unfold ngt
  by_cases c1 : x < 18
  · simp [c1, bi]
  · by_cases c2 : 65 < x
    · simp [c1, c2, bi]
    · simp [c1, c2, bi]
/-- what a series adds -/
def nzN (x : Int32) (h : Hp) (k : Nat) : Nat := if rd h (107 + k) 12 = 0 ∧ rd h (107 + k) 0 = x ∧ ngt (rd h (107 + k) 3) = true then (rd h (107 + k) 6).toNatClampNeg * ((rd h (107 + k) 5).toNatClampNeg - (rd h (107 + k) 4).toNatClampNeg + 1) else 0
def sumN (f : Nat → Nat) : Nat → Nat
  | 0 => 0
  | n + 1 => sumN f n + f n
theorem sumN_mono {f : Nat → Nat} {a : Nat} : ∀ b, sumN f a ≤ sumN f (a + b)
  | 0 => Nat.le_refl _
  | b + 1 => Nat.le_trans (sumN_mono b) (Nat.le_add_right _ _)
theorem sumN_congr {f g : Nat → Nat} : ∀ {n : Nat}, (∀ i, i < n → f i = g i) → sumN f n = sumN g n
  | 0, _ => rfl
  | n + 1, h => by
    show sumN f n + _ = sumN g n + _
    rw [sumN_congr fun i hi => h i (by omega), h n (by omega)]
theorem sumN_le {f : Nat → Nat} {B : Nat} : ∀ {n : Nat}, (∀ i, i < n → f i ≤ B) → sumN f n ≤ n * B
  | 0, _ => Nat.zero_le _
  | n + 1, h => by
    have h1 := sumN_le (n := n) fun i hi => h i (by omega)
    have h2 := h n (by omega)
    rw [Nat.add_mul]
    show sumN f n + f n ≤ _
    omega
/-- first and last of a slot -/
theorem irg_fl {x y : Int32} (e1 : irg x 0 19 = true) (e2 : irg y x 19 = true) : ∃ f l : Nat, f ≤ l ∧ l < 20 ∧ x = nI f ∧ y = nI l := by
  obtain ⟨f, hf, rfl⟩ := irg_nI (n := 19) (by decide) e1
  obtain ⟨h1, h2⟩ := irg_t e2
  have h3 : ¬ y < 0 := by
    intro q
    apply h1
    rw [Int32.lt_iff_toInt_lt] at q ⊢
    rw [nI_toInt (n := f) (by omega)]
    have : (0 : Int32).toInt = 0 := by decide
    omega
  obtain ⟨l, hl, rfl⟩ := nI_of h3
  have h4 : ¬ 19 < l := fun q => h2 (nI_lt (a := 19) q hl)
  have h5 : ¬ l < f := fun q => h1 (nI_lt q (by omega))
  exact ⟨f, l, by omega, by omega, rfl, rfl⟩
theorem wholeNoise_s {a : Nat} (ok : okc a 7 = true) (H : SLT7 h a) : ∃ w : Nat, w ≤ 180 ∧ w = (rd h a 6).toNatClampNeg * ((rd h a 5).toNatClampNeg - (rd h a 4).toNatClampNeg + 1) ∧ F_X5_wholeNoise [.ref a] h = rtn (some (.int (nI w))) h := by
  obtain ⟨f, l, hfl, hl, ef, el⟩ := irg_fl H.2.2.2.2.1 H.2.2.2.2.2.1
  obtain ⟨q, hq, eq⟩ := irg_nI (n := 9) (by decide) H.2.2.2.2.2.2
  refine ⟨q * (l - f + 1), ?_, ?_, ?_⟩
  · have h1 : l - f + 1 ≤ 20 := by omega
    exact Nat.mul_le_mul hq h1
  · rw [ef, el, eq, nI_clamp (by omega), nI_clamp (by omega), nI_clamp (by omega)]
  · rw [e_X5_wholeNoise_0, ok, gd_t, gd_t, e_X5_weeks_0, ok, gd_t, gd_t, bI_r, ef, el, eq, pk_sub hfl, nI_1, pk_mul]
theorem nzN_le (S : VS h) (hk : k < ns h) : nzN x h k ≤ 180 := by
  unfold nzN
  by_cases c : rd h (107 + k) 12 = 0 ∧ rd h (107 + k) 0 = x ∧ ngt (rd h (107 + k) 3) = true
  · rw [if_pos c]
    obtain ⟨f, l, hfl, hl, ef, el⟩ := irg_fl (S k hk).1.2.2.2.2.1 (S k hk).1.2.2.2.2.2.1
    obtain ⟨q, hq, eq⟩ := irg_nI (n := 9) (by decide) (S k hk).1.2.2.2.2.2.2
    rw [ef, el, eq, nI_clamp (by omega), nI_clamp (by omega), nI_clamp (by omega)]
    exact Nat.mul_le_mul hq (show l - f + 1 ≤ 20 by omega)
  · rw [if_neg c]
    exact Nat.zero_le _
theorem noise_l (V : VN h) (S : VS h) : ∀ (n k : Nat), k + n = ns h → f_X6_noiseByNight_4 x (nI (sumN (nzN x h) k)) (nI k) h = rtn (some (.int (nI (sumN (nzN x h) (ns h))))) h
  | 0, k, e => by
    have h60 := V.s.1
    rw [e_X6_noiseByNight_4, V.s.2, if_neg (nI_nlt (by omega) (by omega)), show k = ns h by omega]
  | n + 1, k, e => by
    have h60 := V.s.1
    have ih := noise_l V S n (k + 1) (by omega)
    obtain ⟨w, hw, ew, e9⟩ := wholeNoise_s (okc_sr k (by omega)).2 (S k (by omega)).1
    rw [e_X6_noiseByNight_4, V.s.2, if_pos (nI_lt (by omega) (by omega)), seriesAt_s V (by omega), bR_r, (okc_sr k (by omega)).1]
    simp only [gd_t, e9, isByNight_s, bI_r, e_X6_noiseByNight_55, nI_1, nI_add]
    have es : sumN (nzN x h) (k + 1) = sumN (nzN x h) k + nzN x h k := rfl
    rw [es] at ih
    by_cases c1 : rd h (107 + k) 12 = 0
    · by_cases c2 : rd h (107 + k) 0 = x
      · cases c3 : ngt (rd h (107 + k) 3)
        · rw [show nzN x h k = 0 by unfold nzN; rw [if_neg (by rw [c3]; simp)]] at ih
          rw [if_pos c1, if_pos c2, bi_f, if_pos rfl]
          exact ih
        · rw [show nzN x h k = w by unfold nzN; rw [if_pos ⟨c1, c2, c3⟩, ew]] at ih
          rw [if_pos c1, if_pos c2, bi_t, if_neg one_ne]
          exact ih
      · rw [show nzN x h k = 0 by unfold nzN; rw [if_neg (fun z => c2 z.2.1)]] at ih
        rw [if_pos c1, if_neg c2]
        exact ih
    · rw [show nzN x h k = 0 by unfold nzN; rw [if_neg (fun z => c1 z.1)]] at ih
      rw [if_neg c1]
      exact ih
theorem noiseByNight_s (V : VN h) (S : VS h) : F_X6_noiseByNight [.ref 0, .int x] h = rtn (some (.int (nI (sumN (nzN x h) (ns h))))) h := by
  rw [e_X6_noiseByNight_0]
  exact noise_l V S (ns h) 0 (by omega)
theorem noise_s (V : VN h) (S : VS h) (hj : j < 4) : F_X6_noise [.ref 0, .int (nI j)] h = rtn (some (.int (nI (sumN (nzN (nI j) h) (ns h))))) h := by
  rw [e_X6_noise_0, airportAt_s hj, bR_r, noiseByNight_s V S, bI_r]
theorem noise_le (V : VN h) (S : VS h) : sumN (nzN x h) (ns h) ≤ 10800 := by
  have h1 := sumN_le (f := nzN x h) (B := 180) (n := ns h) fun i hi => nzN_le S hi
  have h2 := V.s.1
  omega
end READS
