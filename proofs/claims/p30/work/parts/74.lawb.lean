/-! the law accepts, gives back, flies -/
section LAWB
variable {h g : Hp} {i j k n m a b r c s v t f l q w d o : Nat} {x x1 x2 x3 x4 x5 x6 x7 x8 x9 : Int32}
theorem Good.nx {r : Res} (H : Good r h) : Good (nxR r) h := by
  obtain ⟨g, rfl, q⟩ := H
  exact ⟨g, rfl, q⟩
/-- the law's number of series follows the class's -/
theorem J.ser (H : J h) (Ig : Inv g) (F : Fr PCC h g) : J (wr g 227 1 (nI (ns g))) ∧ Scr h (wr g 227 1 (nI (ns g))) := by
  have F2 : Fr PO g (wr g 227 1 (nI (ns g))) := Fr.refl.w (Or.inr (Or.inr rfl))
  have IG := Ig.oth F2
  have q : ∀ a k, ¬ PCC a k → rd g a k = rd h a k := fun a k z => F a k z
  have w1 : rd (wr g 227 1 (nI (ns g))) 227 1 = nI (ns g) := rd_eqw
  have w0 : ∀ a k, ¬ (a = 227 ∧ k = 1) → rd (wr g 227 1 (nI (ns g))) a k = rd g a k := fun a k z => by rw [rd_wrx, if_neg z]
  refine ⟨⟨IG, ?_⟩, Fr.scr (P := fun a _ => a < 1000) ((F.up fun a k z => by unfold PCC PC P10 P789 at z; omega).trans (Fr.refl.w (by decide))) fun b k z => z⟩
  generalize hG : wr g 227 1 (nI (ns g)) = G at w1 w0
  obtain ⟨d1, d2, d3, d4, d5⟩ := H.2
  have p : ∀ a k, ¬ (a = 227 ∧ k = 1) → ¬ PCC a k → rd G a k = rd h a k := fun a k y1 y2 => by rw [w0 a k y1, q a k y2]
  refine ⟨?_, ?_, ?_, ?_, fun a ha => ⟨?_, fun r h6 hr => ?_⟩⟩
  · rw [p _ _ (by omega) (by unfold PCC PC P10 P789; omega), p _ _ (by omega) (by unfold PCC PC P10 P789; omega)]
    exact d1
  · rw [w1, w0 _ _ (by omega)]
    exact Ig.1.1.s.2.symm
  · rw [p _ _ (by omega) (by unfold PCC PC P10 P789; omega), p _ _ (by omega) (by unfold PCC PC P10 P789; omega)]
    exact d3
  · rw [p _ _ (by omega) (by unfold PCC PC P10 P789; omega), p _ _ (by omega) (by unfold PCC PC P10 P789; omega)]
    exact d4
  · rw [p _ _ (by omega) (by unfold PCC PC P10 P789; omega), p _ _ (by omega) (by unfold PCC PC P10 P789; omega)]
    exact (d5 a ha).1
  · rw [p _ _ (by omega) (by unfold PCC PC P10 P789; omega)] at hr
    rw [p _ _ (by omega) (by unfold PCC PC P10 P789; omega), p _ _ (by omega) (by unfold PCC PC P10 P789; omega)]
    exact (d5 a ha).2 r h6 hr
theorem taken122 (H : J g) : f_L_isTaken_122 (nI c) g = if nI c < 0 then rtn (some (.int 0)) g else rtn (some (.int 1)) g := by
  have V := H.1.1.1
  rw [e_L_isTaken_122, count_4 V, bI_r, ib_1, tc_1, gd_t, H.2.2.1, V.s.2, if_pos rfl]
theorem isTaken_s (H : J h) (hi : i < nq h) (hc : c < 2 ^ 31) : Good (F_L_isTaken [.ref 0, .ref 227, .int (nI i), .int (nI c)] h) h := by
  obtain ⟨I, D⟩ := id H
  have V := I.1.1
  have h60 := V.q.1
  have h61 := V.s.1
  have T := I.1.2.2.2.2.2.1
  have e1 : rd h 227 1 = nI (ns h) := D.2.1.trans V.s.2
  rw [e_L_isTaken_0]
  refine Good.nx ?_
  rw [reqOf_0 V hi, bI_r, reqOf_3 V hi, bI_r, e_L_acts_0, if_neg (by decide), if_neg (by decide), if_pos rfl]
  by_cases h2 : rd h (47 + i) 9 = 2
  · have hs : rd h (47 + i) 9 ≠ 1 := by rw [h2]; decide
    have hr := V.room hi hs
    rcases accept_s I hi h2 with ⟨g, q1, q2, q3, q4, q5, q6, q7, q8⟩ | ⟨g, q1, q2, q3, q4, q5, q6⟩
    · have F : Fr PCC h g := q3.1.up fun b k z => Or.inl z
      obtain ⟨HJ, hS⟩ := H.ser q2 F
      have e1g : rd g 227 1 = nI (ns h) := by rw [F _ _ (by unfold PCC PC P10 P789; omega)]; exact e1
      rw [q1, bI_r, if_neg one_ne, bI_r, if_neg (by decide), ib_1, tc_1, e1g, nI_1, ← q4]
      simp only [gd_t]
      rw [if_pos h2]
      have w0 : ∀ a k, a ≠ 227 → rd (wr g 227 1 (nI (ns g))) a k = rd g a k := fun a k z => rd_ne z
      generalize hG : wr g 227 1 (nI (ns g)) = G at HJ hS w0
      have VG := HJ.1.1.1
      have eqG : nq G = nq h := by
        have := q3.q
        unfold nq at this ⊢
        rw [w0 _ _ (by omega), this]
      have esG : ns G = ns h + 1 := by
        rw [← q4]
        unfold ns
        rw [w0 _ _ (by omega)]
      have e5 : F_X6_seriesOf [.ref 0, .int (nI (ns h)), .int 5] G = rtn (some (.int (rd h (47 + i) 12))) G := (serOf_s VG (by omega) 5 (by decide)).trans (by rw [show nthN [8, 9, 0, 1, 2, 3, 4, 5, 7, 0, 11] 5 = 3 from rfl, w0 _ _ (by omega), q8])
      rw [reqOf_0 VG (by omega), bI_r, if_pos (by simp), w0 _ _ (by omega), q5, e_L_isTaken_88, if_pos rfl, reqOf_3 VG (by omega), bI_r, w0 _ _ (by omega), q6, if_pos rfl, if_neg one_ne, reqOf_2 VG (by omega), bI_r, w0 _ _ (by omega), q7, e5, bI_r, if_pos rfl, taken122 HJ, if_neg (nI_pos hc)]
      exact Good.of HJ hS
    · have F : Fr PCC h g := q3.1.up fun b k z => Or.inl z
      obtain ⟨HJ, hS⟩ := H.ser q2 F
      have e1g : rd g 227 1 = nI (ns h) := by rw [F _ _ (by unfold PCC PC P10 P789; omega)]; exact e1
      rw [q1, bI_r, if_pos rfl, bI_r, if_neg (by decide), ib_1, tc_1, e1g, show nI (ns h) + 0 = nI (ns g) by rw [q4]; exact Int32.add_zero _]
      simp only [gd_t]
      rw [if_pos h2]
      have w0 : ∀ a k, a ≠ 227 → rd (wr g 227 1 (nI (ns g))) a k = rd g a k := fun a k z => rd_ne z
      generalize hG : wr g 227 1 (nI (ns g)) = G at HJ hS w0
      have VG := HJ.1.1.1
      have eqG : nq G = nq h := by
        have := q3.q
        unfold nq at this ⊢
        rw [w0 _ _ (by omega), this]
      rw [reqOf_0 VG (by omega), bI_r, if_neg (by decide), w0 _ _ (by omega), q5, e_L_isTaken_88, if_pos rfl, reqOf_3 VG (by omega), bI_r, w0 _ _ (by omega), q6, if_pos rfl, if_pos rfl, taken122 HJ, if_neg (nI_pos hc)]
      exact Good.of HJ hS
  · rw [accept_n V hi h2, bI_t, hnk_acts, bI_r, if_pos rfl, if_neg h2, reqOf_0 V hi, bI_r, if_pos rfl]
    exact Good.of H Scr.refl
/-! slots given back -/
theorem isBack_s (H : J h) (hi : i < ns h) (hw : w < 20) (hc : c < 2 ^ 31) : Good (F_L_isBack [.ref 0, .ref 227, .int (nI i), .int (nI w), .int (nI c)] h) h := by
  obtain ⟨I, D⟩ := id H
  have V := I.1.1
  have S := I.1.2.2.1
  have h60 := V.q.1
  have h61 := V.s.1
  have hsum := states_s I.1.2.2.2.2.2.1
  have n1 : ns h = cnt (stB 1 h) (nq h) := V.2.2.2.1
  obtain ⟨f, l, hfl, hl, ef, el⟩ := irg_fl (S i hi).1.2.2.2.2.1 (S i hi).1.2.2.2.2.2.1
  have e1 : rd h 227 1 = nI (ns h) := D.2.1.trans V.s.2
  have s6 : ∀ (G : Hp), VN G → i < ns G → F_X6_seriesOf [.ref 0, .int (nI i), .int 6] G = rtn (some (.int (rd G (107 + i) 4))) G := fun G VG hG => serOf_s VG hG 6 (by decide)
  have s7 : ∀ (G : Hp), VN G → i < ns G → F_X6_seriesOf [.ref 0, .int (nI i), .int 7] G = rtn (some (.int (rd G (107 + i) 5))) G := fun G VG hG => serOf_s VG hG 7 (by decide)
  rw [e_L_isBack_0]
  refine Good.nx ?_
  rw [serOf_11 V S hi, bI_r, s6 h V hi, bI_r, s7 h V hi, bI_r, count_2 V, bI_r, count_3 V, bI_r, e_L_acts_0, if_neg (by decide), if_neg (by decide), if_neg (by decide), if_pos rfl, ef, el, nI_add]
  have same : f_L_isBack_70 (nI (cnt (stB 2 h) (nq h) + cnt (stB 3 h) (nq h))) h = rtn (some (.int 1)) h := by
    rw [e_L_isBack_70, count_2 V, bI_r, count_3 V, bI_r, nI_add, if_pos rfl]
  by_cases c1 : rd h (107 + i) 12 ≠ 0 ∨ l < w
  · rw [giveBack_n V hi hw el hl c1, bI_t, hnk_acts, bI_r, if_pos rfl]
    rcases c1 with z | z
    · rw [if_pos ((S i hi).2.2.2.1.resolve_left z), same]
      exact Good.of H Scr.refl
    · rw [if_pos (nI_lt z (by omega)), same, ite_self]
      exact Good.of H Scr.refl
  · have h0 : rd h (107 + i) 12 = 0 := Decidable.not_not.mp fun z => c1 (Or.inl z)
    have hlw : w ≤ l := by
      have : ¬ l < w := fun z => c1 (Or.inr z)
      omega
    obtain ⟨v, g, q1, q2, q3, q4, q5, q6, q7, q8⟩ := giveBack_s I hi hw ef el hfl hl h0 hlw
    have F : Fr PCC h g := q8.up fun b k z => Or.inl z
    obtain ⟨HJ, hS⟩ := H.ser q2 F
    have e1g : rd g 227 1 = nI (ns h) := by rw [F _ _ (by unfold PCC PC P10 P789; omega)]; exact e1
    have hng := q2.1.1.s.1
    rw [q1, bI_r, bI_r, if_neg (n200 (by omega)), ib_1, tc_1, e1g, nI_add, ← q3]
    simp only [gd_t]
    rw [if_pos h0]
    have w0 : ∀ a k, a ≠ 227 → rd (wr g 227 1 (nI (ns g))) a k = rd g a k := fun a k z => rd_ne z
    generalize hG : wr g 227 1 (nI (ns g)) = G at HJ hS w0
    have VG := HJ.1.1.1
    have SG := HJ.1.1.2.2.1
    have eqG : nq G = nq h := by
      unfold nq at q4 ⊢
      rw [w0 _ _ (by omega), q4]
    have esG : ns G = ns g := by unfold ns; rw [w0 _ _ (by omega)]
    have n2 : ns G = cnt (stB 1 G) (nq G) := VG.2.2.2.1
    have hsG := states_s HJ.1.1.2.2.2.2.2.1
    have c0 : cnt (stB 0 G) (nq G) = cnt (stB 0 h) (nq h) := by
      rw [eqG]
      refine cnt_congr fun z hz => ?_
      unfold stB
      rw [w0 _ _ (by omega)]
      exact decide_eq_decide.mpr (q5 z hz)
    rw [serOf_11 VG SG (by omega), bI_r, w0 _ _ (by omega), q6]
    have fin : ∀ u : Int32, f_L_isBack_147 (nI c) (nI (cnt (stB 2 h) (nq h) + cnt (stB 3 h) (nq h))) (nI v) u u G = rtn (some (.int 1)) G := fun u => by
      rw [e_L_isBack_147, if_pos rfl, count_2 VG, bI_r, count_3 VG, bI_r, nI_add, nI_subN (by omega), if_pos (show nI (cnt (stB 2 G) (nq G) + cnt (stB 3 G) (nq G)) = nI (cnt (stB 2 h) (nq h) + cnt (stB 3 h) (nq h) - v) by congr 1; omega), count_4 VG, bI_r, ib_1, tc_1, gd_t, HJ.2.2.1, VG.s.2, if_pos rfl, if_neg (nI_pos hc)]
    by_cases cw : w ≤ f
    · rw [if_pos cw, if_neg (nI_nlt cw (by omega)), e_L_isBack_123, if_pos rfl, s7 G VG (by omega), bI_r, w0 _ _ (by omega), q7, if_pos cw, if_neg (nI_nlt cw (by omega)), fin]
      exact Good.of HJ hS
    · have e8 : nI w - 1 = nI (w - 1) := by
        rw [show w = (w - 1) + 1 by omega, nI_pred]
        rfl
      rw [if_neg cw, if_pos (nI_lt (by omega) (by omega)), e_L_isBack_123, if_pos rfl, s7 G VG (by omega), bI_r, w0 _ _ (by omega), q7, if_neg cw, if_pos (nI_lt (by omega) (by omega)), e8, fin]
      exact Good.of HJ hS
/-! flights -/
theorem J.srs (H : J h) (Ig : Inv g) (F : Fr PS h g) : J g ∧ Scr h g := ⟨⟨Ig, H.2.F (fun k => F _ _ (by unfold PS; omega)) (fun k _ _ => F _ _ (by unfold PS; omega)) fun a h1 h2 _ => F _ _ (by unfold PS; omega)⟩, F.scr fun b k z => by have := z.2; omega⟩
theorem isFlown_s (H : J h) (hi : i < ns h) (hb : b < 2 ^ 31) : Good (F_L_isFlown [.ref 0, .int (nI i), .int (nI b)] h) h := by
  obtain ⟨I, D⟩ := id H
  have V := I.1.1
  have S := I.1.2.2.1
  have h61 := V.s.1
  obtain ⟨f, l, hfl, hl, ef, el⟩ := irg_fl (S i hi).1.2.2.2.2.1 (S i hi).1.2.2.2.2.2.1
  obtain ⟨t0, ht0, et⟩ := irg_nI (n := 71) (by decide) (S i hi).1.2.2.2.1
  have so : ∀ (G : Hp) (z k : Nat), VN G → i < ns G → (z = 0 ∨ z = 1 ∨ z = 2 ∨ z = 3 ∨ z = 4 ∨ z = 5 ∨ z = 6 ∨ z = 7 ∨ z = 8 ∨ z = 10) → nthN [8, 9, 0, 1, 2, 3, 4, 5, 7, 0, 11] z = k → F_X6_seriesOf [.ref 0, .int (nI i), .int (nI z)] G = rtn (some (.int (rd G (107 + i) k))) G := fun G z k VG hG hz hk => by rw [serOf_s VG hG z hz, hk]
  have s6 : F_X6_seriesOf [.ref 0, .int (nI i), .int 6] h = rtn (some (.int (nI f))) h := (so h 6 4 V hi (by decide) rfl).trans (by rw [ef])
  have s7 : F_X6_seriesOf [.ref 0, .int (nI i), .int 7] h = rtn (some (.int (nI l))) h := (so h 7 5 V hi (by decide) rfl).trans (by rw [el])
  have s5 : F_X6_seriesOf [.ref 0, .int (nI i), .int 5] h = rtn (some (.int (nI t0))) h := (so h 5 3 V hi (by decide) rfl).trans (by rw [et])
  have s10 : ∀ G, VN G → i < ns G → F_X6_seriesOf [.ref 0, .int (nI i), .int 10] G = rtn (some (.int (rd G (107 + i) 11))) G := fun G VG hG => so G 10 11 VG hG (by decide) rfl
  rw [e_L_isFlown_0]
  refine Good.nx ?_
  have hw : f + b % (l - f + 1) ≤ l := by
    have := Nat.mod_lt b (show 0 < l - f + 1 by omega)
    omega
  have ht : (t0 + b / 20 % 9) % 72 < 72 := Nat.mod_lt _ (by decide)
  have hn : nI (l - f + 1) ≠ 0 := nI_ne0 (by omega) (by omega)
  rw [s6, bI_r, s7, bI_r, nI_subN hfl, nI_1, decide_eq_false hn, Bool.not_false, gd_t, s5, bI_r, nd_20, nd_9, nd_72]
  simp only [gd_t]
  rw [serOf_9 V S hi, bI_r, s10 h V hi, bI_r, serOf_11 V S hi, bI_r, pk_rem hb (by omega) (by omega), nI_add, d_20 hb, m_9 (dv_lt hb), nI_add, m_72 (show t0 + b / 20 % 9 < 2 ^ 31 by omega)]
  have hfw : f ≤ f + b % (l - f + 1) := Nat.le_add_right _ _
  generalize f + b % (l - f + 1) = w at hw hfw
  generalize (t0 + b / 20 % 9) % 72 = t at ht
  have hu := cnt_le (f := ubF h i) 20
  have ac : ∀ G, F_L_acts [.ref 0, .int (nI i), .int (nI w), .int (nI t), .int 5] G = bI (F_X6_fly [.ref 0, .int (nI i), .int (nI w), .int (nI t)] G) (fun v12 h11 => rtn (some (.int v12)) h11) (hnk hn_L_acts) := fun G => by
    rw [e_L_acts_0, if_neg (by decide), if_neg (by decide), if_neg (by decide), if_neg (by decide), if_neg (by decide), if_pos rfl]
  rw [ac h]
  rcases fly_s I hi ef el hl hfw hw ht with q1 | ⟨o, o2, g, q1, q2, q3, q4, q5, q6, q7, q8, q9, q10, q11, q12⟩
  · rw [q1, bI_t, hnk_acts, bI_r, if_pos rfl, s10 h V hi, bI_r, if_pos rfl, serOf_9 V S hi, bI_r, if_pos rfl, serOf_11 V S hi, bI_r, if_pos rfl]
    exact Good.of H Scr.refl
  · obtain ⟨HJ, hS⟩ := H.srs q6 q7
    have Vg := q6.1.1
    have Sg := q6.1.2.2.1
    have en : ns g = ns h := by unfold ns; rw [q7 _ _ (by unfold PS; omega)]
    have hu1 : usd h i = cnt (ubF h i) 20 := rfl
    have fin : f_L_isFlown_154 (nI i) (nI w) (nI t) (nI (usd h i)) (nI o2) g = rtn (some (.int 1)) g := by
      rw [e_L_isFlown_154, s10 g Vg (by omega), bI_r, q8, if_pos rfl, serOf_9 Vg Sg (by omega), bI_r, if_neg (nI_nlt q10 (by omega)), serOf_9 Vg Sg (by omega), bI_r, nI_1, if_neg (nI_nlt q11 (by omega)), serOf_11 Vg Sg (by omega), bI_r, q9]
      simp only [e_L_isFlown_210, ac g, q12, bI_t, hnk_acts, bI_r]
      have e3 : (nI o2 = 3) ↔ o2 = 3 := nI_eq (b := 3) (by omega) (by decide)
      by_cases c3 : o2 = 3
      · rw [if_pos (e3.mpr c3), if_pos c3, if_pos rfl, if_pos trivial]
      · rw [if_neg (fun z => c3 (e3.mp z)), if_neg c3, if_pos rfl, if_pos trivial]
    rw [q5, bI_r, bI_r, if_neg (n200 (by omega)), if_pos q1, q2, fin]
    by_cases c2 : nI o2 = nI o
    · rw [if_pos c2]
      exact Good.of HJ hS
    · have e4 : o2 = o + 1 := by
        rcases q4 with z | z
        · exact absurd (by rw [z]) c2
        · exact z
      rw [if_neg c2, nI_1, e4, if_pos rfl]
      exact Good.of HJ hS
end LAWB
