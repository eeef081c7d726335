/-! flights -/
theorem cnt_one {f g : Nat → Bool} {w : Nat} : ∀ n, (∀ i, i < n → i ≠ w → f i = g i) → (f w = true → g w = true) → cnt f n ≤ cnt g n ∧ cnt g n ≤ cnt f n + 1 ∧ (n ≤ w → cnt g n = cnt f n)
  | 0, _, _ => ⟨Nat.le_refl _, Nat.zero_le _, fun _ => rfl⟩
  | n + 1, h1, h2 => by
    obtain ⟨q1, q2, q3⟩ := cnt_one n (fun i hi => h1 i (by omega)) h2
    rw [cnt_s, cnt_s]
    by_cases c : n = w
    · subst c
      have q4 := q3 (Nat.le_refl _)
      cases e1 : f n with
      | true => rw [h2 e1]; exact ⟨by simp; omega, by simp; omega, fun z => by omega⟩
      | false => cases e2 : g n <;> exact ⟨by simp; omega, by simp; omega, fun z => by omega⟩
    · rw [h1 n (by omega) c]
      exact ⟨by omega, by omega, fun z => by rw [q3 (by omega)]⟩
section FLY
variable {h g : Hp} {i w t f l : Nat}
theorem irg_fw (h1 : f ≤ w) (h2 : w ≤ l) (hl : l < 20) : irg (nI w) (nI f) (nI l) = true := irg_i (nI_nlt h1 (by omega)) (nI_nlt h2 (by omega))
theorem fly_n (V : VN h) (hi : i < ns h) (ef : rd h (107 + i) 4 = nI f) (el : rd h (107 + i) 5 = nI l) (hl : l < 20) (h1 : f ≤ w) (h2 : w ≤ l) (ht : t < 72) (hb : rd h (107 + i) 12 ≠ 0 ∨ bt (rd h (107 + i) 10) w = true) : F_X6_fly [.ref 0, .int (nI i), .int (nI w), .int (nI t)] h = thr 2 h := by
  have h60 := V.s.1
  rw [e_X6_fly_0, seriesAt_s V hi, bR_r, (okc_sr i (by omega)).1]
  simp only [gd_t]
  rw [ef, el, rng_t (irg_fw h1 h2 hl), bV_r, rng_t (show irg (nI t) 0 71 = true from nI_irg (n := 71) (by omega) (by decide)), bV_r, weeksFromTo_1 (by omega), bI_r]
  by_cases c : rd h (107 + i) 12 = 0
  · rcases hb with z | z
    · exact absurd c z
    · rw [if_pos c, if_neg (fun q => by rw [(bit_l (by omega)).mp q] at z; cases z), e_X6_fly_54]
  · rw [if_neg c, e_X6_fly_54]
theorem fly_s (I : Inv h) (hi : i < ns h) (ef : rd h (107 + i) 4 = nI f) (el : rd h (107 + i) 5 = nI l) (hl : l < 20) (h1 : f ≤ w) (h2 : w ≤ l) (ht : t < 72) : F_X6_fly [.ref 0, .int (nI i), .int (nI w), .int (nI t)] h = thr 2 h ∨
    ∃ o o2 g, rd h (107 + i) 12 = 0 ∧ rd h (107 + i) 11 = nI o ∧ o ≤ 2 ∧ (o2 = o ∨ o2 = o + 1) ∧ F_X6_fly [.ref 0, .int (nI i), .int (nI w), .int (nI t)] h = rtn (some (.int (nI o2))) g ∧ Inv g ∧ Fr PS h g ∧ rd g (107 + i) 11 = nI o2 ∧ rd g (107 + i) 12 = (if o2 = 3 then 1 else 0) ∧ usd h i ≤ usd g i ∧ usd g i ≤ usd h i + 1 ∧ F_X6_fly [.ref 0, .int (nI i), .int (nI w), .int (nI t)] g = thr 2 g := by
  have V := I.1.1
  have S := I.1.2.2.1
  have h60 := V.s.1
  by_cases c1 : rd h (107 + i) 12 = 0
  · cases c2 : bt (rd h (107 + i) 10) w with
    | true => exact Or.inl (fly_n V hi ef el hl h1 h2 ht (Or.inr c2))
    | false =>
      right
      obtain ⟨o, ho, eo⟩ := irg_nI (n := 2) (by decide) ((S i hi).2.2.2.2 c1)
      -- what it comes to
      have fin : ∀ (o2 : Nat) (g : Hp), (o2 = o ∨ o2 = o + 1) → F_X6_fly [.ref 0, .int (nI i), .int (nI w), .int (nI t)] h = rtn (some (.int (nI o2))) g → Fr (fun a k => a = 107 + i ∧ (k = 10 ∨ k = 11 ∨ k = 12)) h g → rd g (107 + i) 10 = (rd h (107 + i) 10 ||| ((1 : Int32) <<< (nI w &&& 31))) → rd g (107 + i) 11 = nI o2 → rd g (107 + i) 12 = (if o2 = 3 then 1 else 0) →
          ∃ o o2 g, rd h (107 + i) 12 = 0 ∧ rd h (107 + i) 11 = nI o ∧ o ≤ 2 ∧ (o2 = o ∨ o2 = o + 1) ∧ F_X6_fly [.ref 0, .int (nI i), .int (nI w), .int (nI t)] h = rtn (some (.int (nI o2))) g ∧ Inv g ∧ Fr PS h g ∧ rd g (107 + i) 11 = nI o2 ∧ rd g (107 + i) 12 = (if o2 = 3 then 1 else 0) ∧ usd h i ≤ usd g i ∧ usd g i ≤ usd h i + 1 ∧ F_X6_fly [.ref 0, .int (nI i), .int (nI w), .int (nI t)] g = thr 2 g := by
        intro o2 g p1 p2 F p4 p5 p6
        have FS : Fr PS h g := F.up fun a k z => ⟨by have := z.1; omega, by have := z.1; omega⟩
        have q : ∀ a k, ¬ (a = 107 + i ∧ (k = 10 ∨ k = 11 ∨ k = 12)) → rd g a k = rd h a k := fun a k z => F a k z
        have hn : ns g = ns h := by unfold ns; rw [q _ _ (by omega)]
        have Ig : Inv g := by
          refine I.ser FS (fun j hj => ?_) (fun j _ => q _ _ (by omega))
          rw [hn] at hj
          obtain ⟨s1, s2, s3, s4, s5⟩ := S j hj
          refine ⟨s1.F fun k hk => q _ _ (by omega), by rw [q _ _ (by omega)]; exact s2, by rw [q _ _ (by omega)]; exact s3, ?_, ?_⟩
          · by_cases cj : j = i
            · subst cj
              rw [p6]
              split
              · exact Or.inr rfl
              · exact Or.inl rfl
            · rw [q _ _ (by omega)]
              exact s4
          · by_cases cj : j = i
            · subst cj
              rw [p6, p5]
              intro z
              by_cases c3 : o2 = 3
              · rw [if_pos c3] at z
                exact absurd z one_ne
              · exact nI_irg (n := 2) (by omega) (by decide)
            · rw [q _ _ (by omega), q _ _ (by omega)]
              exact s5
        have hu : ∀ v, v < 32 → ubF g i v = (bt (ubX h i ||| ((1 : Int32) <<< (nI w &&& 31))) v && (decide (f ≤ v) && decide (v ≤ l))) := by
          intro v hv
          obtain ⟨a, ha, ea⟩ := irg_3 (S i hi).1.1
          unfold ubF ubX
          rw [q (107 + i) 0 (by omega), q (107 + i) 2 (by omega), p4, q (107 + i) 4 (by omega), q (107 + i) 5 (by omega), ea, nI_clamp (by omega), q (13 + 9 * a) _ (by omega), ef, el, nI_clamp (by omega), nI_clamp (by omega)]
          simp only [b_or, Bool.or_assoc]
        have hu0 : ∀ v, ubF h i v = (bt (ubX h i) v && (decide (f ≤ v) && decide (v ≤ l))) := by
          intro v
          unfold ubF
          rw [ef, el, nI_clamp (by omega), nI_clamp (by omega)]
        have hc := cnt_one (f := ubF h i) (g := ubF g i) (w := w) 20 (fun v hv hvw => by
          rw [hu v (by omega), hu0 v, b_or, b_shl w (by omega) 1 (by omega)]
          by_cases c : w ≤ v
          · rw [b_1 (by omega), decide_eq_false (show ¬ v - w = 0 by omega), Bool.and_false, Bool.or_false]
          · rw [decide_eq_false c, Bool.false_and, Bool.or_false]) (fun z => by
          rw [hu0 w, Bool.and_eq_true] at z
          rw [hu w (by omega), b_or, z.1, z.2]
          rfl)
        refine ⟨o, o2, g, c1, eo, ho, p1, p2, Ig, FS, p5, p6, hc.1, hc.2.1, ?_⟩
        refine fly_n Ig.1.1 (by rw [hn]; exact hi) (by rw [q _ _ (by omega)]; exact ef) (by rw [q _ _ (by omega)]; exact el) hl h1 h2 ht (Or.inr ?_)
        rw [p4, b_or, b_shl w (by omega) 1 (by omega), Nat.sub_self, b_1 (by decide)]
        simp
      have step : F_X6_fly [.ref 0, .int (nI i), .int (nI w), .int (nI t)] h = f_X6_fly_101 (107 + i) (wr h (107 + i) 10 (rd h (107 + i) 10 ||| ((1 : Int32) <<< (nI w &&& 31)))) ∨ F_X6_fly [.ref 0, .int (nI i), .int (nI w), .int (nI t)] h = f_X6_fly_101 (107 + i) (wr (wr h (107 + i) 10 (rd h (107 + i) 10 ||| ((1 : Int32) <<< (nI w &&& 31)))) (107 + i) 11 (nI (o + 1))) := by
        rw [e_X6_fly_0, seriesAt_s V hi, bR_r, (okc_sr i (by omega)).1]
        simp only [gd_t]
        rw [ef, el, rng_t (irg_fw h1 h2 hl), bV_r, rng_t (show irg (nI t) 0 71 = true from nI_irg (n := 71) (by omega) (by decide)), bV_r, weeksFromTo_1 (by omega), bI_r, if_pos c1, if_pos ((bit_l (by omega)).mpr c2), rd_nk (j := 11) (by decide), eo, nI_1]
        split
        · split
          · exact Or.inr rfl
          · exact Or.inl rfl
        · split
          · exact Or.inr rfl
          · exact Or.inl rfl
      rcases step with e | e
      · refine fin o _ (Or.inl rfl) ?_ (Fr.refl.w ⟨rfl, Or.inl rfl⟩) rd_eqw (by rw [rd_nk (by decide)]; exact eo) (by rw [rd_nk (by decide), if_neg (by omega)]; exact c1)
        rw [e, e_X6_fly_101, (okc_sr i (by omega)).1]
        simp only [gd_t]
        rw [rd_nk (j := 11) (by decide), eo, if_pos (show nI o < 3 from nI_lt (b := 3) (by omega) (by decide))]
      · by_cases c3 : o + 1 = 3
        · refine fin (o + 1) (wr (wr (wr h (107 + i) 10 (rd h (107 + i) 10 ||| ((1 : Int32) <<< (nI w &&& 31)))) (107 + i) 11 (nI (o + 1))) (107 + i) 12 1) (Or.inr rfl) ?_ (((Fr.refl.w ⟨rfl, Or.inl rfl⟩).w ⟨rfl, Or.inr (Or.inl rfl)⟩).w ⟨rfl, Or.inr (Or.inr rfl)⟩) (by rw [rd_nk (by decide), rd_nk (by decide), rd_eqw]) (by rw [rd_nk (by decide), rd_eqw]) (by rw [rd_eqw, if_pos c3])
          rw [e, e_X6_fly_101, (okc_sr i (by omega)).1]
          simp only [gd_t]
          rw [rd_eqw, if_neg (show ¬ nI (o + 1) < 3 from nI_nlt (b := 3) (by omega) (by omega)), rd_nk (j := 11) (by decide), rd_eqw]
        · refine fin (o + 1) (wr (wr h (107 + i) 10 (rd h (107 + i) 10 ||| ((1 : Int32) <<< (nI w &&& 31)))) (107 + i) 11 (nI (o + 1))) (Or.inr rfl) ?_ ((Fr.refl.w ⟨rfl, Or.inl rfl⟩).w ⟨rfl, Or.inr (Or.inl rfl)⟩) (by rw [rd_nk (by decide), rd_eqw]) rd_eqw (by rw [rd_nk (by decide), rd_nk (by decide), if_neg c3]; exact c1)
          rw [e, e_X6_fly_101, (okc_sr i (by omega)).1]
          simp only [gd_t]
          rw [rd_eqw, if_pos (show nI (o + 1) < 3 from nI_lt (b := 3) (by omega) (by decide))]
  · exact Or.inl (fly_n V hi ef el hl h1 h2 ht (Or.inl c1))
end FLY
