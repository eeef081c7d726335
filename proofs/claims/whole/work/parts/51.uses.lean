/-! weeks used; what earns a right -/
theorem cnt_zero {f : Nat → Bool} : ∀ n, (∀ i, i < n → f i = false) → cnt f n = 0
  | 0, _ => rfl
  | n + 1, h => by
    unfold cnt
    rw [cnt_zero n (fun i hi => h i (by omega)), h n (by omega)]
    rfl
theorem cnt_le (f : Nat → Bool) : ∀ n, cnt f n ≤ n
  | 0 => Nat.le_refl _
  | n + 1 => by
    have q := cnt_le f n
    unfold cnt
    cases f n <;> simp <;> omega
theorem mask_all : ((List.range 20).all fun f => (List.range 20).all fun l => (List.range 32).all fun w => decide (l < f) || (bt (((1 : Int32) <<< (((nI l - nI f) + 1) &&& 31) - 1) <<< (nI f &&& 31)) w == (decide (f ≤ w) && decide (w ≤ l)))) = true := by decide +kernel
theorem mask_s {f l w : Nat} (hfl : f ≤ l) (hl : l < 20) : bt (((1 : Int32) <<< (((nI l - nI f) + 1) &&& 31) - 1) <<< (nI f &&& 31)) w = (decide (f ≤ w) && decide (w ≤ l)) := by
  by_cases hw : w < 32
  · have q := List.all_eq_true.mp (all2 mask_all (show f < 20 by omega) hl) w (List.mem_range.mpr hw)
    rw [decide_eq_false (by omega), Bool.false_or] at q
    exact eq_of_beq q
  · rw [b_big (by omega), decide_eq_false (show ¬ w ≤ l by omega), Bool.and_false]
theorem irg_fl {f l : Int32} (hf : irg f 0 19 = true) (hl : irg l f 19 = true) : ∃ a b : Nat, a ≤ b ∧ b < 20 ∧ f = nI a ∧ l = nI b := by
  obtain ⟨a, ha, rfl⟩ := irg_nI (n := 19) (by decide) hf
  have e : irg l (nI a) l = true := by
    obtain ⟨l1, l2⟩ := irg_t hl
    unfold irg
    rw [decide_eq_false l1, decide_eq_false (show ¬ l < l by rw [Int32.lt_iff_toInt_lt]; omega)]
    rfl
  obtain ⟨b, hb, rfl⟩ := irg_w hf hl e
  obtain ⟨l1, l2⟩ := irg_t hl
  refine ⟨a, b, ?_, by omega, rfl, rfl⟩
  have q : ¬ b < a := fun z => l1 (nI_lt z (by omega))
  omega
section USES
variable {h : Hp} {i : Nat} {v : Int64} {w : Int32}
def ubX (h : Hp) (i : Nat) : Int32 := rd h 270 i ||| rd h 273 (7 * (rd h 262 i).toNatClampNeg + (rd h 264 i).toNatClampNeg)
def ubF (h : Hp) (i w : Nat) : Bool := bt (ubX h i) w && (decide ((rd h 266 i).toNatClampNeg ≤ w) && decide (w ≤ (rd h 267 i).toNatClampNeg))
def usd (h : Hp) (i : Nat) : Int32 := nI (cnt (ubF h i) 20)
theorem bit_v {x : Int32} {w : Nat} (hw : w < 32) : (x >>> (nI w &&& 31)) &&& 1 = bi (bt x w) := by
  cases e : bt x w with
  | true => exact (bit_r1 hw).mpr e
  | false => exact (bit_r hw).mpr e
theorem usedOf_l {f l : Nat} (hi : i < 60) (el : rd h 267 i = nI l) (ef : rd h 266 i = nI f) (hl : l < 20) : ∀ (n w : Nat), w + n = l + 1 → f ≤ w → f_X7_usedOf_39 (nI i) (ubX h i) (nI (cnt (ubF h i) w)) (nI w) h = rtn (some (.int (usd h i))) h
  | 0, w, e, hw => by
    rw [e_X7_usedOf_39, inb_nI hi (by decide), gd_t, nI_clamp (by omega), el, if_pos (nI_lt (by omega) (by omega))]
    congr 3
    unfold usd
    congr 1
    rw [show 20 = w + (20 - w) by omega, cnt_add, cnt_zero (20 - w) (fun j hj => by
      show ubF h i (w + j) = false
      unfold ubF
      rw [el, nI_clamp (by omega), decide_eq_false (show ¬ w + j ≤ l by omega), Bool.and_false, Bool.and_false])]
    rfl
  | n + 1, w, e, hw => by
    have ih := usedOf_l hi el ef hl n (w + 1) (by omega) (by omega)
    rw [e_X7_usedOf_39, inb_nI hi (by decide), gd_t, nI_clamp (by omega), el, if_neg (nI_nlt (by omega) (by omega)), bit_v (by omega), nI_1]
    have e1 : nI (cnt (ubF h i) w) + bi (bt (ubX h i) w) = nI (cnt (ubF h i) (w + 1)) := by
      have e2 : ubF h i w = bt (ubX h i) w := by
        unfold ubF
        rw [el, ef, nI_clamp (by omega), nI_clamp (by omega), decide_eq_true hw, decide_eq_true (show w ≤ l by omega), Bool.and_self, Bool.and_true]
      show _ = nI (cnt (ubF h i) w + _)
      rw [← e2, ← nI_add]
      cases ubF h i w <;> rfl
    rw [e1]
    exact ih
theorem day_i : ∀ a, a < 4 → ∀ d, d < 7 → (7 : Int32) * nI a + nI d = nI (7 * a + d) := by decide
theorem irg_6 {x : Int32} (e : irg x 0 6 = true) : ∃ j : Nat, j < 7 ∧ x = nI j := by
  obtain ⟨j, h1, h2⟩ := irg_nI (n := 6) (by decide) e
  exact ⟨j, by omega, h2⟩
theorem usedOf_s (V : VN h) (hVS : VS h) (hi : i < ns h) : F_X7_usedOf [.ref 227, .int (nI i)] h = rtn (some (.int (usd h i))) h := by
  have h60 := V.s.1
  obtain ⟨v1, v2, v3, v4, v5, v6⟩ := hVS i hi
  obtain ⟨a, ha, ea⟩ := irg_3 v1
  obtain ⟨d, hd, ed⟩ := irg_6 v2
  obtain ⟨f, l, hfl, hl, ef, el⟩ := irg_fl v4 v5
  have hX : rd h 270 i ||| rd h 273 (7 * a + d) = ubX h i := by
    unfold ubX
    rw [ea, ed, nI_clamp (by omega), nI_clamp (by omega)]
  rw [e_X7_usedOf_0, inb_nI (by omega) (by decide), nI_clamp (by omega), ea, ed, day_i a ha d hd, inb_nI (by omega) (by decide), nI_clamp (by omega)]
  simp only [gd_t]
  rw [hX, ef]
  have q := usedOf_l (h := h) (i := i) (by omega) el ef hl (l + 1 - f) f (by omega) (Nat.le_refl _)
  rw [cnt_zero f (fun j hj => by
    unfold ubF
    rw [ef, nI_clamp (by omega), decide_eq_false (show ¬ f ≤ j by omega), Bool.false_and, Bool.and_false])] at q
  exact q
theorem weeksUsed_s (V : VN h) (S : EqS h) (A : EqA h) (hVS : VS h) (hi : i < ns h) : F_X6_weeksUsed [.ref 0, .ref (107 + i)] h = rtn (some (.int (usd h i))) h := by
  have h60 := V.s.1
  obtain ⟨v1, v2, v3, v4, v5, v6⟩ := hVS i hi
  obtain ⟨a, ha, ea⟩ := irg_3 v1
  obtain ⟨d, hd, ed⟩ := irg_6 v2
  obtain ⟨f, l, hfl, hl, ef, el⟩ := irg_fl v4 v5
  obtain ⟨g0, g1, g2, g3, g4, g5, g6, g7, g8, g9, g10, g11, g12⟩ := S.g (k := i) (by omega)
  obtain ⟨a1, a2, a3, a4, a5, a6⟩ := A a ha
  rw [e_X6_weeksUsed_0, (okc_sr i (by omega)).1]
  simp only [gd_t]
  rw [g0, ea, airportAt_s ha, bR_r, okc_ap a ha, gd_t, g2, ed, closedWeeksOn_s ha hd, bI_r, g4, g5, g10, ef, el, e_X6_weeksFromTo_0, bI_r, bitCount_f, bI_r, a5 d hd]
  congr 3
  have hX : ∀ w, bt ((rd h 273 (7 * a + d) ||| rd h 270 i) &&& (((1 : Int32) <<< (((nI l - nI f) + 1) &&& 31) - 1) <<< (nI f &&& 31))) w = ubF h i w := by
    intro w
    unfold ubF ubX
    rw [ea, ed, ef, el, nI_clamp (by omega), nI_clamp (by omega), nI_clamp (by omega), nI_clamp (by omega), b_and, mask_s hfl hl, b_or, b_or, Bool.or_comm]
  rw [bc_s (fun w hw => by
    rw [hX]
    unfold ubF
    rw [el, nI_clamp (by omega), decide_eq_false (show ¬ w ≤ l by omega), Bool.and_false, Bool.and_false])]
  unfold usd
  congr 1
  exact cnt_ext 20 (fun w _ => hX w)
def wkS (h : Hp) (i : Nat) : Int32 := rd h 267 i - rd h 266 i + 1
def eaB (h : Hp) (i : Nat) : Bool := decide (rd h 272 i = 0) && (!decide (wkS h i < 5) && !decide (100 * usd h i < 80 * wkS h i))
theorem wkS_5 (hVS : VS h) (hi : i < ns h) : (4 < wkS h i) ↔ ¬ wkS h i < 5 := by
  obtain ⟨v1, v2, v3, v4, v5, v6⟩ := hVS i hi
  obtain ⟨f, l, hfl, hl, ef, el⟩ := irg_fl v4 v5
  unfold wkS
  rw [el, ef, nI_subN hfl, nI_1, show (4 : Int32) = nI 4 from rfl, show (5 : Int32) = nI 5 from rfl, nI_ltI (by decide) (by omega), nI_ltI (by omega) (by decide)]
  omega
theorem isEarned_s (V : VN h) (hVS : VS h) (hi : i < ns h) : F_X7_isEarned [.ref 227, .int (nI i)] h = rtn (some (.int (bi (eaB h i)))) h := by
  have h60 := V.s.1
  rw [e_X7_isEarned_0, inb_nI (by omega) (by decide), nI_clamp (by omega), usedOf_s V hVS hi, bI_r]
  simp only [gd_t]
  show (if rd h 272 i = 0 then if 4 < wkS h i then if 100 * usd h i < 80 * wkS h i then _ else _ else _ else _) = _
  unfold eaB
  have q := wkS_5 hVS hi
  by_cases c1 : rd h 272 i = 0
  · by_cases c2 : wkS h i < 5
    · have c3 : ¬ 4 < wkS h i := fun z => (q.mp z) c2
      simp [c1, c2, c3, bi]
    · have c3 : 4 < wkS h i := q.mpr c2
      by_cases c4 : 100 * usd h i < 80 * wkS h i
      · simp [c1, c2, c3, c4, bi]
      · simp [c1, c2, c3, c4, bi]
  · simp [c1, bi]
theorem earnsRight_s (V : VN h) (S : EqS h) (A : EqA h) (hVS : VS h) (hi : i < ns h) : F_X6_earnsRight [.ref 0, .ref (107 + i)] h = rtn (some (.int (bi (eaB h i)))) h := by
  have h60 := V.s.1
  obtain ⟨g0, g1, g2, g3, g4, g5, g6, g7, g8, g9, g10, g11, g12⟩ := S.g (k := i) (by omega)
  rw [e_X6_earnsRight_0, (okc_sr i (by omega)).1, e_X5_weeks_0, (okc_sr i (by omega)).2]
  simp only [gd_t, bI_r, g4, g5, g12]
  rw [weeksUsed_s V S A hVS hi, bI_r]
  show (if rd h 272 i = 0 then if wkS h i < 5 then _ else if usd h i * 100 < wkS h i * 80 then _ else _ else _) = _
  rw [Int32.mul_comm (usd h i), Int32.mul_comm (wkS h i)]
  unfold eaB
  by_cases c1 : rd h 272 i = 0
  · by_cases c2 : wkS h i < 5
    · simp [c1, c2, bi]
    · by_cases c4 : 100 * usd h i < 80 * wkS h i
      · simp [c1, c2, c4, bi]
      · simp [c1, c2, c4, bi]
  · simp [c1, bi]
theorem hq_usd : usd (hq h v w) i = usd h i := by
  unfold usd
  refine congrArg nI (cnt_ext 20 (fun k hk => ?_))
  unfold ubF ubX
  rw [hq_rd (by decide), hq_rd (by decide), hq_rd (by decide), hq_rd (by decide), hq_rd (by decide), hq_rd (by decide)]
theorem hq_eaB : eaB (hq h v w) i = eaB h i := by
  unfold eaB wkS
  rw [hq_usd, hq_rd (by decide), hq_rd (by decide), hq_rd (by decide)]
end USES
theorem sim_earns : SimB Inv F_L_earns F_X7_earns 1 := by
  intro as h hl hR
  match as, hl with
  | [x], _ =>
    show ∃ (k v : Int32) (h1 h2 : Hp), F_L_earns [.ref 0, .int x, .ref 275] h = rtn (some (.int k)) h1 ∧ F_X7_earns [.ref 227, .int x] h1 = rtn (some (.int v)) h2 ∧ _
    have N := hR.1
    have S := hR.2.1
    have A := hR.2.2.2.2.1
    have V := hR.2.2.2.2.2.2.2.1
    have hVS := hR.2.2.2.2.2.2.2.2.2.1
    cases c1 : ixs x (ns h) with
    | false =>
      refine ⟨1, 0, h, wr h 227 0 1, ?_, ?_, rd_eqw, fun q => absurd q one_ne, hR.quiet (Or.inl ⟨rfl, rfl⟩), Scr.refl, Scr.refl.w (by decide)⟩
      · rw [e_L_earns_0, e_X6_earns_0, seriesAt_n N V c1]
        rfl
      · rw [e_X7_earns_0, isSeries_s V, bI_r, c1, bi_f, if_pos rfl, e_X7_earns_14, holds_n one_ne, bI_r, if_pos rfl]
    | true =>
      obtain ⟨i, hi, rfl⟩ := ixs_t V.s.1 c1
      generalize ho : (match eaB h i with | true => Int64.ofNat 1 | false => Int64.ofNat 0) = o
      refine ⟨0, bi (eaB h i), wrL h 0 o, hq h o 0, ?_, ?_, hq_w, fun _ => ?_, hq_inv hR, Scr.refl.l, hq_scr⟩
      · rw [e_L_earns_0, e_X6_earns_0, seriesAt_s N V hi, bR_r, earnsRight_s V S A hVS hi, bI_r, okZ_bi, gd_t, bI_r, ← ho]
        cases eaB h i <;> rfl
      · have V2 : VN (wrL h 0 o) := V
        rw [e_X7_earns_0, isSeries_s V2, bI_r, show ns (wrL h 0 o) = ns h from rfl, c1, bi_t, if_neg one_ne, e_X7_earns_14, holds_0, bI_r, if_neg one_ne]
        show bI (F_X7_isEarned _ (hq h o 0)) _ _ = _
        rw [isEarned_s (hq_V V) (hq_inv hR).2.2.2.2.2.2.2.2.2.1 (by rw [hq_ns]; exact hi), bI_r, hq_eaB]
        cases eaB h i <;> rfl
      · rw [hq_o, ← ho]
        cases eaB h i <;> rfl
theorem sim_seriesOf : SimI Inv F_L_seriesOf F_X7_seriesOf 2 := by
  intro as h hl hR
  match as, hl with
  | [x, y], _ =>
    show ∃ (k v : Int32) (h1 h2 : Hp), F_L_seriesOf [.ref 0, .int x, .int y, .ref 275] h = rtn (some (.int k)) h1 ∧ F_X7_seriesOf [.ref 227, .int x, .int y] h1 = rtn (some (.int v)) h2 ∧ _
    have N := hR.1
    have S := hR.2.1
    have A := hR.2.2.2.2.1
    have V := hR.2.2.2.2.2.2.2.1
    have hVS := hR.2.2.2.2.2.2.2.2.2.1
    have key : ∀ g : Hp, VN g → F_X7_seriesOf [.ref 227, .int x, .int y] g = f_X7_seriesOf_28 x y (match ixs x (ns g) with | false => 1 | true => match irg y 0 11 with | true => 0 | false => 2) g := by
      intro g hg
      rw [e_X7_seriesOf_0, isSeries_s hg, bI_r]
      simp only [isIn_s, bI_r]
      cases ixs x (ns g) <;> cases irg y 0 11 <;> simp [bi]
    cases c1 : ixs x (ns h) with
    | false =>
      refine ⟨1, 0, h, wr h 227 0 1, ?_, ?_, rd_eqw, fun q => absurd q one_ne, hR.quiet (Or.inl ⟨rfl, rfl⟩), Scr.refl, Scr.refl.w (by decide)⟩
      · rw [e_L_seriesOf_0, e_X6_seriesOf_0, seriesAt_n N V c1]
        rfl
      · rw [key h V, c1]
        show f_X7_seriesOf_28 x y 1 h = _
        rw [e_X7_seriesOf_28, holds_n one_ne, bI_r, if_pos rfl]
    | true =>
      obtain ⟨j, hj, rfl⟩ := ixs_t V.s.1 c1
      have h60 := V.s.1
      obtain ⟨g0, g1, g2, g3, g4, g5, g6, g7, g8, g9, g10, g11, g12⟩ := S.g (k := j) (by omega)
      cases c2 : irg y 0 11 with
      | false =>
        refine ⟨2, 0, h, wr h 227 0 2, ?_, ?_, rd_eqw, fun q => absurd q two_ne, hR.quiet (Or.inl ⟨rfl, rfl⟩), Scr.refl, Scr.refl.w (by decide)⟩
        · have ne : ∀ i : Nat, i ≤ 11 → y ≠ Int32.ofNat i := by
            rintro i hi rfl
            have : ∀ i, i ≤ 11 → irg (Int32.ofNat i) 0 11 = true := by decide
            rw [this i hi] at c2
            cases c2
          rw [e_L_seriesOf_0, e_X6_seriesOf_0, seriesAt_s N V hj, bR_r, if_neg (ne 0 (by decide)), if_neg (ne 1 (by decide)), if_neg (ne 2 (by decide)), if_neg (ne 3 (by decide)), if_neg (ne 4 (by decide)), if_neg (ne 5 (by decide)), if_neg (ne 6 (by decide)), if_neg (ne 7 (by decide)), if_neg (ne 8 (by decide)), if_neg (ne 9 (by decide)), if_neg (ne 10 (by decide)), if_neg (ne 11 (by decide))]
          rfl
        · rw [key h V, c1, c2]
          show f_X7_seriesOf_28 (nI j) y 2 h = _
          rw [e_X7_seriesOf_28, holds_n two_ne, bI_r, if_pos rfl]
      | true =>
        obtain ⟨i, hi, rfl⟩ := irg_nI (n := 11) (by decide) c2
        have hi9 : i = 0 ∨ i = 1 ∨ i = 2 ∨ i = 3 ∨ i = 4 ∨ i = 5 ∨ i = 6 ∨ i = 7 ∨ i = 8 ∨ i = 9 ∨ i = 10 ∨ i = 11 := by omega
        have mid : ∃ v, F_X6_seriesOf [.ref 0, .int (nI j), .int (nI i)] h = rtn (some (.int v)) h ∧ ∀ w, f_X7_seriesOf_28 (nI j) (nI i) 0 (wrL h 0 w) = rtn (some (.int v)) (hq h w 0) := by
          rw [e_X6_seriesOf_0, seriesAt_s N V hj, bR_r, (okc_sr j (by omega)).1]
          simp only [gd_t, g0, g1, g2, g3, g4, g5, g7, g8, g9, g11, g12, weeksUsed_s V S A hVS hj, e_X7_seriesOf_28, holds_0, bI_r, inb_nI (j := j) (n := 60) (by omega) (by decide), nI_clamp (n := j) (by omega)]
          have er : ∀ w A, A ≠ 227 → rd (wr (wrL h 0 w) 227 0 0) A j = rd h A j := fun w A hA => hq_rd hA
          have eu : ∀ w, F_X7_usedOf [.ref 227, .int (nI j)] (wr (wrL h 0 w) 227 0 0) = rtn (some (.int (usd h j))) (hq h w 0) := fun w => by
            show F_X7_usedOf [.ref 227, .int (nI j)] (hq h w 0) = _
            rw [usedOf_s (hq_V V) (hq_inv hR).2.2.2.2.2.2.2.2.2.1 (by rw [hq_ns]; exact hj), hq_usd]
          simp only [eu, bI_r, er _ _ (show 260 ≠ 227 by decide), er _ _ (show 261 ≠ 227 by decide), er _ _ (show 262 ≠ 227 by decide), er _ _ (show 263 ≠ 227 by decide), er _ _ (show 264 ≠ 227 by decide), er _ _ (show 265 ≠ 227 by decide), er _ _ (show 266 ≠ 227 by decide), er _ _ (show 267 ≠ 227 by decide), er _ _ (show 269 ≠ 227 by decide), er _ _ (show 271 ≠ 227 by decide), er _ _ (show 272 ≠ 227 by decide)]
          rcases hi9 with rfl | rfl | rfl | rfl | rfl | rfl | rfl | rfl | rfl | rfl | rfl | rfl
          · exact ⟨_, rfl, fun _ => rfl⟩
          · exact ⟨_, rfl, fun _ => rfl⟩
          · exact ⟨_, rfl, fun _ => rfl⟩
          · exact ⟨_, rfl, fun _ => rfl⟩
          · exact ⟨_, rfl, fun _ => rfl⟩
          · exact ⟨_, rfl, fun _ => rfl⟩
          · exact ⟨_, rfl, fun _ => rfl⟩
          · exact ⟨_, rfl, fun _ => rfl⟩
          · exact ⟨_, rfl, fun _ => rfl⟩
          · exact ⟨_, rfl, fun _ => rfl⟩
          · exact ⟨_, rfl, fun _ => rfl⟩
          · by_cases c : rd h 272 j = 0
            · simp only [c, if_pos]
              exact ⟨_, rfl, fun _ => rfl⟩
            · simp only [c, if_false]
              exact ⟨_, rfl, fun _ => rfl⟩
        obtain ⟨v, m1, m2⟩ := mid
        refine ⟨0, v, wrL h 0 (Int32.toInt64 v), hq h (Int32.toInt64 v) 0, ?_, ?_, hq_w, fun _ => hq_o, hq_inv hR, Scr.refl.l, hq_scr⟩
        · rw [e_L_seriesOf_0, m1, bI_r]
          rfl
        · rw [key (wrL h 0 (Int32.toInt64 v)) V, show ns (wrL h 0 (Int32.toInt64 v)) = ns h from rfl, c1, c2]
          exact m2 _
