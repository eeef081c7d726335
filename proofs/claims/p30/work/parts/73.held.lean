/-! the law holds a conference -/
theorem cnt_part {f0 f1 f2 f3 : Nat → Bool} : ∀ n, (∀ i, i < n → (f0 i = true ∧ f1 i = false ∧ f2 i = false ∧ f3 i = false) ∨ (f0 i = false ∧ f1 i = true ∧ f2 i = false ∧ f3 i = false) ∨ (f0 i = false ∧ f1 i = false ∧ f2 i = true ∧ f3 i = false) ∨ (f0 i = false ∧ f1 i = false ∧ f2 i = false ∧ f3 i = true)) → cnt f0 n + cnt f1 n + cnt f2 n + cnt f3 n = n
  | 0, _ => rfl
  | n + 1, h => by
    have ih := cnt_part n fun i hi => h i (by omega)
    rw [cnt_s, cnt_s, cnt_s, cnt_s]
    rcases h n (by omega) with ⟨e0, e1, e2, e3⟩ | ⟨e0, e1, e2, e3⟩ | ⟨e0, e1, e2, e3⟩ | ⟨e0, e1, e2, e3⟩ <;> rw [e0, e1, e2, e3] <;> simp <;> omega
theorem cnt_or {f g p : Nat → Bool} : ∀ n, (∀ i, i < n → f i = true → g i = true ∨ p i = true) → cnt f n ≤ cnt g n + cnt p n
  | 0, _ => Nat.le_refl _
  | n + 1, h => by
    have ih := cnt_or n fun i hi => h i (by omega)
    rw [cnt_s, cnt_s, cnt_s]
    cases e : f n with
    | false =>
      simp
      omega
    | true =>
      rcases h n (by omega) e with e2 | e2 <;> rw [e2] <;> simp <;> omega
section HELD
variable {h g : Hp} {i j k n m a b r c s v t f l q w d : Nat} {x x1 x2 x3 x4 x5 x6 x7 x8 x9 x10 x11 : Int32}
theorem states_s (T : VT h) : cnt (stB 0 h) (nq h) + cnt (stB 1 h) (nq h) + cnt (stB 2 h) (nq h) + cnt (stB 3 h) (nq h) = nq h := by
  refine cnt_part (nq h) fun i hi => ?_
  obtain ⟨s, hs, es⟩ := irg_3 (T i hi).1
  unfold stB
  rw [es]
  have hs4 : s = 0 ∨ s = 1 ∨ s = 2 ∨ s = 3 := by omega
  rcases hs4 with rfl | rfl | rfl | rfl <;> decide
theorem rows_s (hj : j < 2) (hk : k < 6) : (4 : Int32) + nI j = nI (4 + j) ∧ (6 + (6 : Int32) * nI j) + nI k = nI (6 + 6 * j + k) := by
  refine ⟨nI_add 4 j, ?_⟩
  have e1 : (6 : Int32) * nI j = nI (6 * j) := pk_mul 6 j
  rw [e1]
  have e2 : (6 : Int32) + nI (6 * j) = nI (6 + 6 * j) := nI_add 6 (6 * j)
  rw [e2, nI_add]
/-- the rules of one of the law's two airports -/
theorem DD.rows (A : VA h) (D : DD h) (hj : j < 2) : ∃ m, m ≤ 6 ∧ rd h (11 + 9 * j) 2 = nI m ∧ rd h 227 (4 + j) = nI m ∧ ∀ r, r < m → ∃ M, M ≤ 20 ∧ rd h 227 (6 + 6 * j + r) = nI M ∧ rd h (14 + 9 * j + r) 2 = nI M := by
  obtain ⟨m, hm, em, -, hr⟩ := A j (by omega)
  obtain ⟨-, -, -, -, d5⟩ := D
  refine ⟨m, hm, em, (d5 j hj).1.trans em, fun r hrm => ?_⟩
  obtain ⟨M, hM, eM⟩ := irg_nI (n := 20) (by decide) (hr r hrm).2.2
  exact ⟨M, hM, ((d5 j hj).2 r (by omega) (by rw [em, nI_clamp (by omega)]; exact hrm)).trans eM, eM⟩
theorem held_l1 (H : J h) (hj : j < 2) (hd : d < 7) (hw : w < 20) (hm : m ≤ 6) (em : rd h (11 + 9 * j) 2 = nI m) (ed : rd h 227 (4 + j) = nI m) (eM : ∀ r, r < m → ∃ M, M ≤ 20 ∧ rd h 227 (6 + 6 * j + r) = nI M ∧ rd h (14 + 9 * j + r) 2 = nI M) : ∀ (n k : Nat) (B : Int32), k + n = m → (∀ z, z < k → (bt B z = true ∨ WP h j z (nI d) (nI w) (rd h (14 + 9 * j + z) 2).toNatClampNeg)) → ∃ B2, f_L_isHeld_18 (nI j) (nI (w + 1)) (nI d) 1 B (nI k) h = f_L_isHeld_18 (nI j) (nI (w + 1)) (nI d) 1 B2 (nI m) h ∧ ∀ z, z < m → (bt B2 z = true ∨ WP h j z (nI d) (nI w) (rd h (14 + 9 * j + z) 2).toNatClampNeg)
  | 0, k, B, e, hB => by
    have ek : k = m := by omega
    subst ek
    exact ⟨B, rfl, hB⟩
  | n + 1, k, B, e, hB => by
    obtain ⟨M, hM, e1, e2⟩ := eM k (by omega)
    obtain ⟨wv, q1, q2, q3⟩ := worst_s (x3 := nI d) (x4 := nI w) H.1.1.1 H.1.1.2.1 (show j < 4 by omega) em hm (show k < m by omega) (nI_irg (n := 6) (by omega) (by decide)) (nI_irg (n := 19) (by omega) (by decide))
    have st : ∀ B3 : Int32, (∀ z, z < k + 1 → (bt B3 z = true ∨ WP h j z (nI d) (nI w) (rd h (14 + 9 * j + z) 2).toNatClampNeg)) → ∃ B2, f_L_isHeld_18 (nI j) (nI (w + 1)) (nI d) 1 B3 (nI (k + 1)) h = f_L_isHeld_18 (nI j) (nI (w + 1)) (nI d) 1 B2 (nI m) h ∧ ∀ z, z < m → (bt B2 z = true ∨ WP h j z (nI d) (nI w) (rd h (14 + 9 * j + z) 2).toNatClampNeg) := fun B3 hB3 => held_l1 H hj hd hw hm em ed eM n (k + 1) B3 (by omega) hB3
    have ex : f_L_isHeld_18 (nI j) (nI (w + 1)) (nI d) 1 B (nI k) h = if nI M < nI wv then f_L_isHeld_18 (nI j) (nI (w + 1)) (nI d) 1 (B ||| (1 <<< (nI k &&& 31))) (nI (k + 1)) h else f_L_isHeld_18 (nI j) (nI (w + 1)) (nI d) 1 (B ||| 0) (nI (k + 1)) h := by
      rw [e_L_isHeld_18, (rows_s hj (show k < 6 by omega)).1, inb_nI (by omega) (by decide), gd_t, nI_clamp (by omega), ed, if_pos (nI_lt (by omega) (by omega)), nI_pred, q1, bI_r, (rows_s hj (show k < 6 by omega)).2, inb_nI (by omega) (by decide), gd_t, nI_clamp (by omega), e1]
      simp only [e_L_isHeld_69, nI_1]
    rw [ex]
    by_cases c : M < wv
    · rw [if_pos (nI_lt c (by omega))]
      refine st _ fun z hz => ?_
      by_cases cz : z = k
      · subst cz
        left
        rw [b_or, b_shl z (by omega) 1 (by omega), Nat.sub_self, b_1 (by decide)]
        simp
      · rcases hB z (by omega) with p | p
        · left
          rw [b_or, p]
          rfl
        · exact Or.inr p
    · rw [if_neg (nI_nlt (by omega) (by omega))]
      refine st _ fun z hz => ?_
      by_cases cz : z = k
      · subst cz
        right
        rw [e2, nI_clamp (by omega)]
        exact (q3 M).mp (by omega)
      · rcases hB z (by omega) with p | p
        · left
          rw [b_or, p]
          rfl
        · exact Or.inr p
theorem held_l2 (I : Inv g) (hj : j < 2) (hd : d < 7) (hw : w < 20) (hm : m ≤ 6) {B : Int32} (em : rd g (11 + 9 * j) 2 = nI m) (ed : rd g 227 (4 + j) = nI m) (eM : ∀ r, r < m → ∃ M, M ≤ 20 ∧ rd g 227 (6 + 6 * j + r) = nI M ∧ rd g (14 + 9 * j + r) 2 = nI M) (hB : ∀ z, z < m → (bt B z = true ∨ WP g j z (nI d) (nI w) (rd g (14 + 9 * j + z) 2).toNatClampNeg)) : ∀ (n k : Nat), k + n = m → f_L_isHeld_159 (nI j) (nI (w + 1)) (nI d) 1 B x8 x9 x10 x11 (nI k) g = f_L_isHeld_225 (nI j) 1 x8 x9 x10 x11 g
  | 0, k, e => by
    rw [e_L_isHeld_159, (rows_s hj (show 0 < 6 by decide)).1, inb_nI (by omega) (by decide), gd_t, nI_clamp (by omega), ed, if_neg (nI_nlt (by omega) (by omega))]
  | n + 1, k, e => by
    have ih := held_l2 I hj hd hw hm em ed eM hB n (k + 1) (by omega)
    obtain ⟨M, hM, e1, e2⟩ := eM k (by omega)
    obtain ⟨wv, q1, q2, q3⟩ := worst_s (x3 := nI d) (x4 := nI w) I.1.1 I.1.2.1 (show j < 4 by omega) em hm (show k < m by omega) (nI_irg (n := 6) (by omega) (by decide)) (nI_irg (n := 19) (by omega) (by decide))
    rw [e_L_isHeld_159, (rows_s hj (show k < 6 by omega)).1, inb_nI (by omega) (by decide), gd_t, nI_clamp (by omega), ed, if_pos (nI_lt (by omega) (by omega)), if_neg one_ne, bit_v (by omega)]
    cases eB : bt B k with
    | true =>
      rw [bi_t, if_pos rfl, e_L_isHeld_212, e_L_isHeld_217, nI_1]
      exact ih
    | false =>
      have p := (hB k (by omega)).resolve_left (by rw [eB]; decide)
      rw [e2, nI_clamp (by omega)] at p
      have p2 := (q3 M).mpr p
      rw [bi_f, if_neg (by decide), nI_pred, q1, bI_r, (rows_s hj (show k < 6 by omega)).2, inb_nI (by omega) (by decide), gd_t, nI_clamp (by omega), e1, if_neg (nI_nlt p2 (by omega)), e_L_isHeld_212, e_L_isHeld_217, nI_1]
      exact ih
theorem isHeld_s (H : J h) (hj : j < 2) (hw : w < 20) : Good (F_L_isHeld [.ref 0, .ref 227, .int (nI j), .int (nI (w + 1))] h) h := by
  obtain ⟨I, D⟩ := id H
  have V := I.1.1
  have h60 := V.q.1
  have h61 := V.s.1
  have T := I.1.2.2.2.2.2.1
  have hsum := states_s T
  obtain ⟨m, hm, em, ed, eM⟩ := D.rows I.1.2.1 hj
  have nxG : ∀ r : Res, Good r h → Good (nxR r) h := by
    rintro r ⟨g, rfl, q⟩
    exact ⟨g, rfl, q⟩
  rw [e_L_isHeld_0]
  refine nxG _ ?_
  rw [nd_7, gd_t, m_7 (show w + 1 < 2 ^ 31 by omega)]
  have hd : (w + 1) % 7 < 7 := Nat.mod_lt _ (by decide)
  generalize (w + 1) % 7 = d at hd
  obtain ⟨B, l1, l2⟩ := held_l1 H hj hd hw hm em ed eM m 0 0 (by omega) (fun z hz => absurd hz (Nat.not_lt_zero _))
  have l1 : f_L_isHeld_18 (nI j) (nI (w + 1)) (nI d) 1 0 0 h = f_L_isHeld_18 (nI j) (nI (w + 1)) (nI d) 1 B (nI m) h := l1
  have eA : nI (nq h) - nI (cnt (stB 1 h) (nq h)) - nI (cnt (stB 2 h) (nq h)) - nI (cnt (stB 3 h) (nq h)) = nI (cnt (stB 0 h) (nq h)) := by
    rw [nI_subN (by omega), nI_subN (by omega), nI_subN (by omega)]
    congr 1
    omega
  rw [l1, e_L_isHeld_18, (rows_s hj (show 0 < 6 by decide)).1, inb_nI (by omega) (by decide), gd_t, nI_clamp (by omega), ed, if_neg (nI_nlt (Nat.le_refl _) (by omega)), noise_s V I.1.2.2.1 (by omega), bI_r, count_0 V, bI_r, count_1 V, bI_r, count_2 V, bI_r, count_3 V, bI_r, count_1 V, bI_r, eA, e_L_acts_0, if_neg (by decide), if_pos rfl]
  have hn0 := noise_le (x := nI j) V I.1.2.2.1
  rcases confer_s I with ⟨c0, q1⟩ | ⟨c0, v, g, q1, q2, q3, q4, q5, q6, q7, q8, q9⟩
  · rw [q1, bI_t, hnk_acts, bI_r, if_pos rfl, c0, if_pos (show nI 0 = 0 from rfl), count_1 V, bI_r, if_pos rfl]
    exact Good.of H Scr.refl
  · have q : ∀ a k, ¬ PCC a k → rd g a k = rd h a k := fun a k z => q9 a k z
    have Vg := q2.1.1
    have hv : cnt (stB 1 g) (nq h) ≤ cnt (stB 1 h) (nq h) + cnt (stB 0 h) (nq h) := cnt_or (nq h) fun i hi e => by
      unfold stB at e ⊢
      simp only [decide_eq_true_eq] at e ⊢
      by_cases z : rd h (47 + i) 9 = 0
      · exact Or.inr z
      · rw [q6 i hi z] at e
        exact Or.inl e
    have n1 : ns h = cnt (stB 1 h) (nq h) := V.2.2.2.1
    have n2 : ns g = cnt (stB 1 g) (nq g) := Vg.2.2.2.1
    rw [q4] at n2
    have hv2 : v ≤ cnt (stB 0 h) (nq h) := by omega
    rw [q1, bI_r, bI_r, if_neg (n200 (by omega))]
    have emg : rd g (11 + 9 * j) 2 = nI m := by rw [q _ _ (by unfold PCC PC P10 P789; omega)]; exact em
    have edg : rd g 227 (4 + j) = nI m := by rw [q _ _ (by unfold PCC PC P10 P789; omega)]; exact ed
    have eMg : ∀ r, r < m → ∃ M, M ≤ 20 ∧ rd g 227 (6 + 6 * j + r) = nI M ∧ rd g (14 + 9 * j + r) 2 = nI M := fun r hr => by
      obtain ⟨M, z1, z2, z3⟩ := eM r hr
      exact ⟨M, z1, by rw [q _ _ (by unfold PCC PC P10 P789; omega)]; exact z2, by rw [q _ _ (by unfold PCC PC P10 P789; omega)]; exact z3⟩
    have hB : ∀ z, z < m → (bt B z = true ∨ WP g j z (nI d) (nI w) (rd g (14 + 9 * j + z) 2).toNatClampNeg) := fun z hz => by
      rcases l2 z hz with p | p
      · exact Or.inl p
      · right
        rw [q (14 + 9 * j + z) 2 (by unfold PCC PC P10 P789; omega)]
        exact q7 j z m (nI d) w (by omega) hz hm em hw p
    have l3 := held_l2 (x8 := nI (sumN (nzN (nI j) h) (ns h))) (x9 := nI (cnt (stB 0 h) (nq h))) (x10 := nI (cnt (stB 1 h) (nq h))) (x11 := nI v) q2 hj hd hw hm emg edg eMg hB m 0 (by omega)
    have l3 : f_L_isHeld_159 (nI j) (nI (w + 1)) (nI d) 1 B (nI (sumN (nzN (nI j) h) (ns h))) (nI (cnt (stB 0 h) (nq h))) (nI (cnt (stB 1 h) (nq h))) (nI v) 0 g = f_L_isHeld_225 (nI j) 1 (nI (sumN (nzN (nI j) h) (ns h))) (nI (cnt (stB 0 h) (nq h))) (nI (cnt (stB 1 h) (nq h))) (nI v) g := l3
    have e1 : rd g 227 1 = nI (ns h) := by
      rw [q _ _ (by unfold PCC PC P10 P789; omega), D.2.1]
      exact V.s.2
    rw [l3, e_L_isHeld_225, ib_1, tc_1, e1, nI_add, ← q3]
    simp only [gd_t]
    rw [if_neg one_ne, if_pos (show (0 : Int32) < nI (cnt (stB 0 h) (nq h)) from nI_lt (a := 0) c0 (by omega)), if_neg (nI_nlt hv2 (by omega))]
    have F2 : Fr PO g (wr g 227 1 (nI (ns g))) := Fr.refl.w (Or.inr (Or.inr rfl))
    have IG := q2.oth F2
    have w1 : rd (wr g 227 1 (nI (ns g))) 227 1 = nI (ns g) := rd_eqw
    have w0 : ∀ a k, ¬ (a = 227 ∧ k = 1) → rd (wr g 227 1 (nI (ns g))) a k = rd g a k := fun a k z => by rw [rd_wrx, if_neg z]
    have SG : Scr h (wr g 227 1 (nI (ns g))) := Fr.scr (P := fun a _ => a < 1000) ((q9.up fun a k z => by unfold PCC PC P10 P789 at z; omega).trans (Fr.refl.w (by decide))) fun b k z => z
    generalize hG : wr g 227 1 (nI (ns g)) = G at IG w1 w0 SG
    have VG := IG.1.1
    have eqG : nq G = nq h := by unfold nq at q4 ⊢; rw [w0 _ _ (by omega), q4]
    have esG : ns G = ns g := by unfold ns; rw [w0 _ _ (by omega)]
    have n3 : ns G = cnt (stB 1 G) (nq G) := VG.2.2.2.1
    have hsG := states_s IG.1.2.2.2.2.2.1
    have z0 : cnt (stB 0 G) (nq G) = 0 := cnt_zero (nq G) fun i hi => by
      unfold stB
      rw [w0 _ _ (by omega)]
      exact decide_eq_false (q5 i (by omega))
    have DG : DD G := by
      obtain ⟨d1, d2, d3, d4, d5⟩ := D
      have p : ∀ a k, ¬ (a = 227 ∧ k = 1) → ¬ PCC a k → rd G a k = rd h a k := fun a k y1 y2 => by rw [w0 a k y1, q a k y2]
      refine ⟨?_, ?_, ?_, ?_, fun a ha => ⟨?_, fun r h6 hr => ?_⟩⟩
      · rw [p _ _ (by omega) (by unfold PCC PC P10 P789; omega), p _ _ (by omega) (by unfold PCC PC P10 P789; omega)]
        exact d1
      · rw [w1, w0 _ _ (by omega)]
        exact Vg.s.2.symm
      · rw [p _ _ (by omega) (by unfold PCC PC P10 P789; omega), p _ _ (by omega) (by unfold PCC PC P10 P789; omega)]
        exact d3
      · rw [p _ _ (by omega) (by unfold PCC PC P10 P789; omega), p _ _ (by omega) (by unfold PCC PC P10 P789; omega)]
        exact d4
      · rw [p _ _ (by omega) (by unfold PCC PC P10 P789; omega), p _ _ (by omega) (by unfold PCC PC P10 P789; omega)]
        exact (d5 a ha).1
      · rw [p _ _ (by omega) (by unfold PCC PC P10 P789; omega)] at hr
        rw [p _ _ (by omega) (by unfold PCC PC P10 P789; omega), p _ _ (by omega) (by unfold PCC PC P10 P789; omega)]
        exact (d5 a ha).2 r h6 hr
    have hnz : sumN (nzN (nI j) h) (ns h) ≤ sumN (nzN (nI j) G) (ns G) := by
      have c1 : sumN (nzN (nI j) h) (ns h) = sumN (nzN (nI j) G) (ns h) := sumN_congr fun i hi => by
        unfold nzN
        have y : ∀ k, rd G (107 + i) k = rd h (107 + i) k := fun k => by rw [w0 _ _ (by omega), q8 i hi k]
        rw [y, y, y, y, y, y]
      have c2 := sumN_mono (f := nzN (nI j) G) (a := ns h) v
      rw [c1, esG, q3]
      exact c2
    have hnG := noise_le (x := nI j) VG IG.1.2.2.1
    rw [count_1 VG, bI_r, if_pos (show nI (cnt (stB 1 G) (nq G)) = nI (cnt (stB 1 h) (nq h)) + nI v by rw [nI_add, ← n3, esG, q3, n1]), count_4 VG, bI_r, w1, esG, if_pos rfl, count_0 VG, bI_r, count_1 VG, bI_r, count_2 VG, bI_r, count_3 VG, bI_r, if_pos (show nI (nq G) = nI (cnt (stB 1 G) (nq G)) + nI (cnt (stB 2 G) (nq G)) + nI (cnt (stB 3 G) (nq G)) by rw [nI_add, nI_add]; congr 1; omega), noise_s VG IG.1.2.2.1 (by omega), bI_r, if_neg (nI_nlt hnz (by omega)), areOrdered_s IG DG.1, bI_r, if_neg one_ne]
    exact Good.of ⟨IG, DG⟩ SG
end HELD
