/-! the steps of the law -/
theorem cnt_two {f g p : Nat → Bool} : ∀ n, (∀ i, i < n → (f i = true ∧ g i = true ∧ p i = false) ∨ (f i = true ∧ g i = false ∧ p i = true) ∨ (f i = false ∧ g i = false ∧ p i = false)) → cnt f n = cnt g n + cnt p n
  | 0, _ => rfl
  | n + 1, h => by
    have ih := cnt_two n fun i hi => h i (by omega)
    rw [cnt_s, cnt_s, cnt_s]
    rcases h n (by omega) with ⟨e0, e1, e2⟩ | ⟨e0, e1, e2⟩ | ⟨e0, e1, e2⟩ <;> rw [e0, e1, e2] <;> simp <;> omega
section STEP2
variable {h g : Hp} {i j k n m a b r c s v t f l q w d o : Nat} {x x1 x2 x3 x4 x5 x6 x7 x8 x9 : Int32}
/-! a season's end -/
theorem ended_l (V : VN h) (S : VS h) (e1 : rd h 227 1 = rd h 0 11) : ∀ (n k : Nat), k + n = ns h → f_L_isEnded_4 (nI (cnt (eaB h) k)) (nI k) h = f_L_isEnded_4 (nI (cnt (eaB h) (ns h))) (nI (ns h)) h
  | 0, k, e => by rw [show k = ns h by omega]
  | n + 1, k, e => by
    have h61 := V.s.1
    have ih := ended_l V S e1 n (k + 1) (by omega)
    rw [e_L_isEnded_4, ib_1, tc_1, e1, V.s.2, gd_t, if_pos (nI_lt (by omega) (by omega)), earns_s V S (by omega), bI_r]
    simp only [e_L_isEnded_25, nI_1]
    cases eE : eaB h k with
    | false =>
      rw [cnt_f eE] at ih
      rw [bi_f, if_pos rfl, show nI (cnt (eaB h) k) + 0 = nI (cnt (eaB h) k) from Int32.add_zero _]
      exact ih
    | true =>
      rw [cnt_t eE] at ih
      rw [bi_t, if_neg one_ne]
      exact ih
theorem ended_2 (V : VN g) (R : Rts g c) (hc : c ≤ 60) (er : nr g = c) : ∀ (n k : Nat), k + n = c → f_L_isEnded_149 (nI c) 1 (nI k) g = rtn (some (.int 1)) g
  | 0, k, e => by
    rw [e_L_isEnded_149, if_neg (nI_nlt (by omega) (by omega))]
    rfl
  | n + 1, k, e => by
    have ih := ended_2 V R hc er n (k + 1) (by omega)
    obtain ⟨-, -, q3, f, l, q4, q5, q6, q7⟩ := R k (by omega)
    have r6 : F_X6_rightOf [.ref 0, .int (nI k), .int 6] g = rtn (some (.int (nI l))) g := (rgtOf_s V (show k < nr g by omega) 6 (by decide)).trans (by rw [show nthN [7, 0, 1, 2, 3, 4, 5, 6, 8] 6 = 5 from rfl, q7])
    have r5 : F_X6_rightOf [.ref 0, .int (nI k), .int 5] g = rtn (some (.int (nI f))) g := (rgtOf_s V (show k < nr g by omega) 5 (by decide)).trans (by rw [show nthN [7, 0, 1, 2, 3, 4, 5, 6, 8] 5 = 4 from rfl, q6])
    have r8 : F_X6_rightOf [.ref 0, .int (nI k), .int 8] g = rtn (some (.int (-1))) g := (rgtOf_s V (show k < nr g by omega) 8 (by decide)).trans (by rw [show nthN [7, 0, 1, 2, 3, 4, 5, 6, 8] 8 = 8 from rfl, q3])
    rw [e_L_isEnded_149, if_pos (nI_lt (by omega) (by omega)), if_neg one_ne, r6, bI_r, r5, bI_r, nI_subN (by omega), if_neg (show ¬ nI (l - f) < 4 from nI_nlt (b := 4) (by omega) (by omega)), r8, bI_r, if_pos rfl, e_L_isEnded_197, nI_1]
    exact ih
theorem isEnded_s (H : J h) : Good (F_L_isEnded [.ref 0, .ref 227] h) h := by
  obtain ⟨I, D⟩ := id H
  have V := I.1.1
  have S := I.1.2.2.1
  have h60 := V.q.1
  have h61 := V.s.1
  have hs := V.n.1
  have e3 : rd h 227 3 = nI (sn h) := D.2.2.2.1.trans V.n.2
  have l1 : f_L_isEnded_4 0 0 h = f_L_isEnded_4 (nI (cnt (eaB h) (ns h))) (nI (ns h)) h := ended_l V S D.2.1 (ns h) 0 (by omega)
  have hc := cnt_le (f := eaB h) (ns h)
  rw [e_L_isEnded_0]
  refine Good.nx ?_
  rw [l1, e_L_isEnded_4, ib_1, tc_1, D.2.1, V.s.2, gd_t, if_neg (nI_nlt (Nat.le_refl _) (by omega)), e_L_acts_0, if_neg (by decide), if_neg (by decide), if_neg (by decide), if_neg (by decide), if_neg (by decide), if_neg (by decide), if_neg (by decide)]
  by_cases c : sn h < 20
  · obtain ⟨g, q1, q2, q3, q4, q5, q6, q7, q8⟩ := end_s I c
    generalize cnt (eaB h) (ns h) = E at q1 q6 q8 hc
    rw [q1, bI_r, bI_r, if_neg (n200 (by omega)), ib_0, ib_2, ib_3, tc_0, tc_2, tc_3, if_pos rfl]
    simp only [gd_t]
    have w3 : rd (wr (wr (wr g 227 0 0) 227 1 0) 227 2 (nI E)) 227 3 = nI (sn h) := by
      rw [rd_nk (by decide), rd_nk (by decide), rd_nk (by decide), q3 _ _ (by unfold PE PD; omega)]
      exact e3
    rw [w3, nI_1]
    have F2 : Fr PO g (wr (wr (wr (wr g 227 0 0) 227 1 0) 227 2 (nI E)) 227 3 (nI (sn h + 1))) := (((Fr.refl.w (Or.inr (Or.inr rfl))).w (Or.inr (Or.inr rfl))).w (Or.inr (Or.inr rfl))).w (Or.inr (Or.inr rfl))
    have IG := q2.oth F2
    have g0 : rd (wr (wr (wr (wr g 227 0 0) 227 1 0) 227 2 (nI E)) 227 3 (nI (sn h + 1))) 227 0 = 0 := by rw [rd_nk (by decide), rd_nk (by decide), rd_nk (by decide), rd_eqw]
    have g1 : rd (wr (wr (wr (wr g 227 0 0) 227 1 0) 227 2 (nI E)) 227 3 (nI (sn h + 1))) 227 1 = 0 := by rw [rd_nk (by decide), rd_nk (by decide), rd_eqw]
    have g2 : rd (wr (wr (wr (wr g 227 0 0) 227 1 0) 227 2 (nI E)) 227 3 (nI (sn h + 1))) 227 2 = nI E := by rw [rd_nk (by decide), rd_eqw]
    have g3 : rd (wr (wr (wr (wr g 227 0 0) 227 1 0) 227 2 (nI E)) 227 3 (nI (sn h + 1))) 227 3 = nI (sn h + 1) := rd_eqw
    have w0 : ∀ a k, a ≠ 227 → rd (wr (wr (wr (wr g 227 0 0) 227 1 0) 227 2 (nI E)) 227 3 (nI (sn h + 1))) a k = rd g a k := fun a k z => by rw [rd_ne z, rd_ne z, rd_ne z, rd_ne z]
    have wk : ∀ k, 4 ≤ k → rd (wr (wr (wr (wr g 227 0 0) 227 1 0) 227 2 (nI E)) 227 3 (nI (sn h + 1))) 227 k = rd g 227 k := fun k z => by rw [rd_nk (by omega), rd_nk (by omega), rd_nk (by omega), rd_nk (by omega)]
    have SG : Scr h (wr (wr (wr (wr g 227 0 0) 227 1 0) 227 2 (nI E)) 227 3 (nI (sn h + 1))) := Fr.scr (P := fun a _ => a < 1000) ((q3.up fun a k z => by unfold PE PD at z; omega).trans ((((Fr.refl.w (by decide)).w (by decide)).w (by decide)).w (by decide))) fun b k z => z
    generalize hG : wr (wr (wr (wr g 227 0 0) 227 1 0) 227 2 (nI E)) 227 3 (nI (sn h + 1)) = G at IG g0 g1 g2 g3 w0 wk SG
    have VG := IG.1.1
    have aq : nq G = 0 := by rw [← q4]; unfold nq; rw [w0 _ _ (by omega)]
    have as : ns G = 0 := by rw [← q5]; unfold ns; rw [w0 _ _ (by omega)]
    have ar : nr G = E := by rw [← q6]; unfold nr; rw [w0 _ _ (by omega)]
    have an : sn G = sn h + 1 := by rw [← q7]; unfold sn; rw [w0 _ _ (by omega)]
    have RG : Rts G E := fun y hy => by
      obtain ⟨z1, z2, z3, z4⟩ := q8 y hy
      refine ⟨z1.F fun k _ => w0 _ _ (by omega), ?_, ?_, ?_⟩
      · rw [w0 _ _ (by omega)]; exact z2
      · rw [w0 _ _ (by omega)]; exact z3
      · rw [w0 _ _ (by omega), w0 _ _ (by omega)]; exact z4
    have DG : DD G := by
      obtain ⟨d1, d2, d3, d4, d5⟩ := D
      have p : ∀ a k, 11 ≤ a → a < 47 → ¬ (a = 13 ∨ a = 22 ∨ a = 31 ∨ a = 40) → rd G a k = rd h a k := fun a k y1 y2 y3 => by rw [w0 a k (by omega), q3 _ _ (by unfold PE PD; omega)]
      have p2 : ∀ k, 4 ≤ k → rd G 227 k = rd h 227 k := fun k y => by rw [wk k y, q3 _ _ (by unfold PE PD; omega)]
      refine ⟨?_, ?_, ?_, ?_, fun a ha => ⟨?_, fun r h6 hr => ?_⟩⟩
      · rw [g0, VG.q.2, aq]; rfl
      · rw [g1, VG.s.2, as]; rfl
      · rw [g2, VG.r.2, ar]
      · rw [g3, VG.n.2, an]
      · rw [p2 _ (by omega), p _ _ (by omega) (by omega) (by omega)]
        exact (d5 a ha).1
      · rw [p _ _ (by omega) (by omega) (by omega)] at hr
        rw [p2 _ (by omega), p _ _ (by omega) (by omega) (by omega)]
        exact (d5 a ha).2 r h6 hr
    have l2 : f_L_isEnded_149 (nI E) 1 0 G = rtn (some (.int 1)) G := ended_2 VG RG (by omega) ar E 0 (by omega)
    rw [e_X6_rights_0, bI_r, VG.r.2, ar, if_pos rfl, e_X6_season_0, bI_r, g3, VG.n.2, an, if_pos rfl, count_0 VG, bI_r, aq, if_pos (show nI 0 = 0 from rfl), count_4 VG, bI_r, as, if_pos (show nI 0 = 0 from rfl), show F_X6_noise [.ref 0, .int 0] G = rtn (some (.int (nI (sumN (nzN (nI 0) G) (ns G))))) G from noise_s (j := 0) VG IG.1.2.2.1 (by decide), bI_r, as, if_pos (show nI (sumN (nzN (nI 0) G) 0) = 0 from rfl), e_L_isEnded_144, l2]
    exact Good.of ⟨IG, DG⟩ SG
  · have e20 : sn h = 20 := by omega
    rw [end_n V e20, bI_t, hnk_acts, bI_r, if_pos rfl, ib_3, tc_3, gd_t, e3, e20, if_pos (show nI 20 = 20 from rfl), e_X6_season_0, bI_r, V.n.2, e20, if_pos (show nI 20 = 20 from rfl)]
    exact Good.of H Scr.refl
/-! each of the law's kinds of steps -/
theorem links_e : F_L_links [.ref 0, .int x1, .int x2] h = bV (F_X6_link [.ref 0, .int x1, .int x2] h) (fun g => rtn (some (.int 1)) g) (hnk hn_L_links) := e_L_links_0 x1 x2 h
theorem swaps_e : F_L_swaps [.ref 0, .int x1, .int x2] h = bV (F_X6_swap [.ref 0, .int x1, .int x2] h) (fun g => rtn (some (.int 1)) g) (hnk hn_L_swaps) := e_L_swaps_0 x1 x2 h
theorem hnk_lk {E : Nat} (hE : E = 1 ∨ E = 2) : hnk hn_L_links E h = rtn (some (.int 0)) h ∧ hnk hn_L_swaps E h = rtn (some (.int 0)) h := by
  rcases hE with rfl | rfl <;> exact ⟨rfl, rfl⟩
theorem step188 (H : J h) (hj : j < 2) (hb : b < 2 ^ 31) : Good (f_L_step_188 (nI b) (nI j) h) h := by
  obtain ⟨I, D⟩ := id H
  obtain ⟨m, hm, em, ed, eM⟩ := D.rows I.1.2.1 hj
  rw [e_L_step_188, nd_18, gd_t, d_18 hb, e_L_acts_0, if_pos rfl, nd_3, nd_6, nd_5]
  simp only [gd_t]
  rw [m_3 hb, d_3 hb, m_6 (dv_lt hb), m_5 (dv_lt hb), show (1 : Int32) + nI (b / 3 % 6) = nI (1 + b / 3 % 6) from nI_add 1 _, (rows_s hj (show 0 < 6 by decide)).1]
  rcases declare_s I (show j < 4 by omega) (nI_irg (j := b % 3) (n := 2) (by omega) (by decide)) (irg_i (nI_nlt (b := 1) (a := 1 + b / 3 % 6) (by omega) (by omega)) (nI_nlt (b := 1 + b / 3 % 6) (a := 6) (by omega) (by decide))) (nI_irg (j := b / 18 % 5) (n := 20) (by omega) (by decide)) em hm with ⟨q1, q2⟩ | ⟨q1, g, q2, q3, q4, q5, q6, q7, q8⟩
  · rw [q2, bI_t, hnk_acts, bI_r, if_pos rfl, inb_nI (by omega) (by decide), gd_t, nI_clamp (by omega), ed, q1, if_pos (show nI 6 = 6 from rfl)]
    exact Good.of H Scr.refl
  · rw [q2, bI_r, bI_r, if_neg (n200 (by omega)), (rows_s hj q1).2, inb_nI (j := 4 + j) (by omega) (by decide), inb_nI (j := 6 + 6 * j + m) (by omega) (by decide), nI_clamp (n := 4 + j) (by omega), nI_clamp (n := 6 + 6 * j + m) (by omega)]
    simp only [gd_t]
    have qf : ∀ a k, ¬ (11 ≤ a ∧ a < 47) → rd g a k = rd h a k := fun a k z => q4 a k z
    rw [rd_nk (k := 6 + 6 * j + m) (j := 4 + j) (by omega), qf 227 (4 + j) (by omega), ed, nI_1, rd_eqw, nI_pred, if_pos rfl]
    have F2 : Fr PO g (wr (wr g 227 (6 + 6 * j + m) (nI (b / 18 % 5))) 227 (4 + j) (nI (m + 1))) := (Fr.refl.w (Or.inr (Or.inr rfl))).w (Or.inr (Or.inr rfl))
    have SG : Scr h (wr (wr g 227 (6 + 6 * j + m) (nI (b / 18 % 5))) 227 (4 + j) (nI (m + 1))) := Fr.scr (P := fun a _ => a < 1000) ((q4.up fun a k z => by unfold PA at z; omega).trans ((Fr.refl.w (by decide)).w (by decide))) fun b k z => z
    refine Good.of ⟨q3.oth F2, ?_⟩ SG
    obtain ⟨d1, d2, d3, d4, d5⟩ := D
    refine ⟨?_, ?_, ?_, ?_, fun a ha => ⟨?_, fun r h6 hr => ?_⟩⟩
    · rw [rd_nk (by omega), rd_nk (by omega), rd_ne (by decide), rd_ne (by decide), qf _ _ (by omega), qf _ _ (by omega)]
      exact d1
    · rw [rd_nk (by omega), rd_nk (by omega), rd_ne (by decide), rd_ne (by decide), qf _ _ (by omega), qf _ _ (by omega)]
      exact d2
    · rw [rd_nk (by omega), rd_nk (by omega), rd_ne (by decide), rd_ne (by decide), qf _ _ (by omega), qf _ _ (by omega)]
      exact d3
    · rw [rd_nk (by omega), rd_nk (by omega), rd_ne (by decide), rd_ne (by decide), qf _ _ (by omega), qf _ _ (by omega)]
      exact d4
    · rw [rd_ne (a := 227) (b := 11 + 9 * a) (by omega), rd_ne (a := 227) (b := 11 + 9 * a) (by omega)]
      by_cases c : a = j
      · subst c
        rw [rd_eqw, q5]
      · rw [rd_nk (by omega), rd_nk (by omega), qf _ _ (by omega), q7 a (by omega) c]
        exact (d5 a ha).1
    · rw [rd_ne (a := 227) (b := 11 + 9 * a) (by omega), rd_ne (a := 227) (b := 11 + 9 * a) (by omega)] at hr
      rw [rd_ne (a := 227) (b := 14 + 9 * a + r) (by omega), rd_ne (a := 227) (b := 14 + 9 * a + r) (by omega), rd_nk (k := 4 + j) (by omega)]
      by_cases c : a = j ∧ r = m
      · obtain ⟨rfl, rfl⟩ := c
        rw [rd_eqw, q6]
      · rw [rd_nk (by omega), qf _ _ (by omega), q8 a r (by omega) h6 c]
        refine (d5 a ha).2 r h6 ?_
        by_cases ca : a = j
        · subst ca
          rw [q5, nI_clamp (by omega)] at hr
          rw [em, nI_clamp (by omega)]
          omega
        · rw [q7 a (by omega) ca] at hr
          exact hr
theorem J.airs (H : J h) (Ig : Inv g) (F : Fr PA h g) (e2 : ∀ b, 11 ≤ b → b < 47 → ¬ (b = 13 ∨ b = 22 ∨ b = 31 ∨ b = 40) → rd g b 2 = rd h b 2) : J g ∧ Scr h g := ⟨⟨Ig, H.2.F (fun k => F _ _ (by unfold PA; omega)) (fun k _ _ => F _ _ (by unfold PA; omega)) e2⟩, F.scr fun b k z => by have := z.2; omega⟩
end STEP2
