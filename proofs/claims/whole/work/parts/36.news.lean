/-! whether a carrier's group is new at an airport; rights told -/
section NEWS
variable {h : Hp} {g x x2 : Int32} {k c : Nat}
def rhF (g x2 : Int32) (h : Hp) (k : Nat) : Int32 := if rd h 237 k = x2 then if rd h 235 (rd h 236 k).toNatClampNeg = g then 1 else 0 else 0
def shF (g x2 : Int32) (h : Hp) (k : Nat) : Int32 := if rd h 272 k = 0 then if rd h 262 k = x2 then if rd h 235 (rd h 260 k).toNatClampNeg = g then 1 else 0 else 0 else 0
def nwB (g x2 : Int32) (h : Hp) : Bool := decide (fsum (shF g x2 h) 0 (ns h) (fsum (rhF g x2 h) 0 (nr h) 0) < 3)
theorem ite_bi {p : Prop} [Decidable p] : (if p then rtn (some (.int 1)) h else rtn (some (.int 0)) h) = rtn (some (.int (bi (decide p)))) h := by
  by_cases c : p <;> simp [c, bi]
theorem gn2_l (N : EqN h) (V : VN h) (S : EqS h) (G : EqG h) (VV : VS h) : ∀ (n k : Nat) (acc : Int32), k + n = ns h → f_X6_isGroupNew_56 g x2 acc (nI k) h = rtn (some (.int (bi (decide (fsum (shF g x2 h) k n acc < 3))))) h
  | 0, k, acc, e => by
    have h60 := V.s.1
    rw [e_X6_isGroupNew_56, N.2.1, V.s.2, if_neg (nI_nlt (by omega) (by omega)), ite_bi]
    rfl
  | n + 1, k, acc, e => by
    have h60 := V.s.1
    have ih := fun acc => gn2_l N V S G VV n (k + 1) acc (by omega)
    obtain ⟨g0, g1, g2, g3, g4, g5, g6, g7, g8, g9, g10, g11, g12⟩ := S.g (k := k) (by omega)
    obtain ⟨j, hj, ej⟩ := irg_9 (VV k (by omega)).2.2.2.2.2
    rw [e_X6_isGroupNew_56, N.2.1, V.s.2, if_pos (nI_lt (by omega) (by omega)), seriesAt_s N V (by omega), bR_r, (okc_sr k (by omega)).1]
    simp only [gd_t, g12, g0, g8, ej, groupAt_s hj, bI_r, G j hj, e_X6_isGroupNew_106, nI_1, ih]
    show _ = rtn (some (.int (bi (decide (fsum (shF g x2 h) (k + 1) n (acc + shF g x2 h k) < 3))))) h
    have hf : shF g x2 h k = if rd h 272 k = 0 then if rd h 262 k = x2 then if rd h 235 j = g then 1 else 0 else 0 else 0 := by
      unfold shF
      rw [ej, nI_clamp (by omega)]
    rw [hf]
    by_cases c1 : rd h 272 k = 0
    · by_cases c2 : rd h 262 k = x2
      · by_cases c3 : rd h 235 j = g
        · simp [c1, c2, c3]
        · simp [c1, c2, c3]
      · simp [c1, c2]
    · simp [c1]
theorem gn1_l (N : EqN h) (V : VN h) (S : EqS h) (RR : EqR h) (G : EqG h) (VV : VS h) (VW : VR h) : ∀ (n k : Nat) (acc : Int32), k + n = nr h → f_X6_isGroupNew_5 g x2 acc (nI k) h = rtn (some (.int (bi (decide (fsum (shF g x2 h) 0 (ns h) (fsum (rhF g x2 h) k n acc) < 3))))) h
  | 0, k, acc, e => by
    have h60 := V.r.1
    rw [e_X6_isGroupNew_5, N.2.2.1, V.r.2, if_neg (nI_nlt (by omega) (by omega))]
    exact gn2_l N V S G VV (ns h) 0 acc (by omega)
  | n + 1, k, acc, e => by
    have h60 := V.r.1
    have ih := fun acc => gn1_l N V S RR G VV VW n (k + 1) acc (by omega)
    obtain ⟨g0, g1, g2, g3, g4, g5, g6, g7, g8⟩ := RR.g (k := k) (by omega)
    obtain ⟨j, hj, ej⟩ := irg_9 (VW k (by omega))
    rw [e_X6_isGroupNew_5, N.2.2.1, V.r.2, if_pos (nI_lt (by omega) (by omega)), rightAt_s N V (by omega), bR_r, (okc_rt k (by omega)).1]
    simp only [gd_t, g0, g7, ej, groupAt_s hj, bI_r, G j hj, e_X6_isGroupNew_47, nI_1, ih]
    show _ = rtn (some (.int (bi (decide (fsum (shF g x2 h) 0 (ns h) (fsum (rhF g x2 h) (k + 1) n (acc + rhF g x2 h k)) < 3))))) h
    have hf : rhF g x2 h k = if rd h 237 k = x2 then if rd h 235 j = g then 1 else 0 else 0 := by
      unfold rhF
      rw [ej, nI_clamp (by omega)]
    rw [hf]
    by_cases c2 : rd h 237 k = x2
    · by_cases c3 : rd h 235 j = g
      · simp [c2, c3]
      · simp [c2, c3]
    · simp [c2]
theorem na2_l (hc : c < 10) (V : VN h) (VV : VS h) : ∀ (n k : Nat) (acc : Int32), k + n = ns h → f_X7_isNewAt_63 (nI c) x2 acc (nI k) h = rtn (some (.int (bi (decide (fsum (shF (rd h 235 c) x2 h) k n acc < 3))))) h
  | 0, k, acc, e => by
    have h60 := V.s.1
    rw [e_X7_isNewAt_63, V.s.2, if_neg (nI_nlt (by omega) (by omega)), ite_bi]
    rfl
  | n + 1, k, acc, e => by
    have h60 := V.s.1
    have ih := fun acc => na2_l hc V VV n (k + 1) acc (by omega)
    obtain ⟨j, hj, ej⟩ := irg_9 (VV k (by omega)).2.2.2.2.2
    rw [e_X7_isNewAt_63, V.s.2, if_pos (nI_lt (by omega) (by omega))]
    simp only [inb_nI (j := k) (n := 60) (by omega) (by decide), inb_nI (j := c) (n := 10) hc (by decide), gd_t, nI_clamp (n := k) (by omega), nI_clamp (n := c) (by omega), ej, inb_nI (j := j) (n := 10) hj (by decide), nI_clamp (n := j) (by omega), e_X7_isNewAt_119, e_X7_isNewAt_120, nI_1, ih]
    show _ = rtn (some (.int (bi (decide (fsum (shF (rd h 235 c) x2 h) (k + 1) n (acc + shF (rd h 235 c) x2 h k) < 3))))) h
    have hf : shF (rd h 235 c) x2 h k = if rd h 272 k = 0 then if rd h 262 k = x2 then if rd h 235 j = rd h 235 c then 1 else 0 else 0 else 0 := by
      unfold shF
      rw [ej, nI_clamp (by omega)]
    rw [hf]
    by_cases c1 : rd h 272 k = 0
    · by_cases c2 : rd h 262 k = x2
      · by_cases c3 : rd h 235 j = rd h 235 c
        · simp [c1, c2, c3]
        · simp [c1, c2, c3]
      · simp [c1, c2]
    · simp [c1]
theorem na1_l (hc : c < 10) (V : VN h) (VV : VS h) (VW : VR h) : ∀ (n k : Nat) (acc : Int32), k + n = nr h → f_X7_isNewAt_5 (nI c) x2 acc (nI k) h = rtn (some (.int (bi (decide (fsum (shF (rd h 235 c) x2 h) 0 (ns h) (fsum (rhF (rd h 235 c) x2 h) k n acc) < 3))))) h
  | 0, k, acc, e => by
    have h60 := V.r.1
    rw [e_X7_isNewAt_5, V.r.2, if_neg (nI_nlt (by omega) (by omega))]
    exact na2_l hc V VV (ns h) 0 acc (by omega)
  | n + 1, k, acc, e => by
    have h60 := V.r.1
    have ih := fun acc => na1_l hc V VV VW n (k + 1) acc (by omega)
    obtain ⟨j, hj, ej⟩ := irg_9 (VW k (by omega))
    rw [e_X7_isNewAt_5, V.r.2, if_pos (nI_lt (by omega) (by omega))]
    simp only [inb_nI (j := k) (n := 60) (by omega) (by decide), inb_nI (j := c) (n := 10) hc (by decide), gd_t, nI_clamp (n := k) (by omega), nI_clamp (n := c) (by omega), ej, inb_nI (j := j) (n := 10) hj (by decide), nI_clamp (n := j) (by omega), e_X7_isNewAt_51, e_X7_isNewAt_52, nI_1, ih]
    show _ = rtn (some (.int (bi (decide (fsum (shF (rd h 235 c) x2 h) 0 (ns h) (fsum (rhF (rd h 235 c) x2 h) (k + 1) n (acc + rhF (rd h 235 c) x2 h k)) < 3))))) h
    have hf : rhF (rd h 235 c) x2 h k = if rd h 237 k = x2 then if rd h 235 j = rd h 235 c then 1 else 0 else 0 := by
      unfold rhF
      rw [ej, nI_clamp (by omega)]
    rw [hf]
    by_cases c2 : rd h 237 k = x2
    · by_cases c3 : rd h 235 j = rd h 235 c
      · simp [c2, c3]
      · simp [c2, c3]
    · simp [c2]
theorem isGroupNew_s (H : Inv h) : F_X6_isGroupNew [.ref 0, .int g, .int x2] h = rtn (some (.int (bi (nwB g x2 h)))) h := by
  obtain ⟨b1, b2, b3, b4, b5, b6, b7, b8, b9, b10, b11, b12, b13⟩ := H
  rw [e_X6_isGroupNew_0]
  exact gn1_l b1 b8 b2 b4 b6 b10 b12 (nr h) 0 0 (by omega)
theorem isNewAt_s (hc : c < 10) (V : VN h) (VV : VS h) (VW : VR h) : F_X7_isNewAt [.ref 227, .int (nI c), .int x2] h = rtn (some (.int (bi (nwB (rd h 235 c) x2 h)))) h := by
  rw [e_X7_isNewAt_0]
  exact na1_l hc V VV VW (nr h) 0 0 (by omega)
theorem hq_nw {v : Int64} {w : Int32} : nwB g x2 (hq h v w) = nwB g x2 h := by
  have e1 : shF g x2 (hq h v w) = shF g x2 h := by funext k; unfold shF; rw [hq_rd (by decide), hq_rd (by decide), hq_rd (by decide), hq_rd (by decide)]
  have e2 : rhF g x2 (hq h v w) = rhF g x2 h := by funext k; unfold rhF; rw [hq_rd (by decide), hq_rd (by decide), hq_rd (by decide)]
  unfold nwB
  rw [e1, e2, hq_ns, hq_nr]
end NEWS
theorem sim_isNew : SimB Inv F_L_isNew F_X7_isNew 2 := by
  intro as h hl hR
  match as, hl with
  | [x, y], _ =>
    show ∃ (k v : Int32) (h1 h2 : Hp), F_L_isNew [.ref 0, .int x, .int y, .ref 275] h = rtn (some (.int k)) h1 ∧ F_X7_isNew [.ref 227, .int x, .int y] h1 = rtn (some (.int v)) h2 ∧ _
    have key : ∀ g : Hp, F_X7_isNew [.ref 227, .int x, .int y] g = f_X7_isNew_20 x y (bi (!(irg x 0 9 && irg y 0 3))) g := by
      intro g
      rw [e_X7_isNew_0]
      simp only [isCarrier_s, isAirport_s, bI_r, e_X7_isNew_19]
      cases irg x 0 9 <;> cases irg y 0 3 <;> simp [bi]
    cases c1 : (irg x 0 9 && irg y 0 3) with
    | false =>
      refine ⟨1, 0, h, wr h 227 0 1, ?_, ?_, rd_eqw, fun q => absurd q one_ne, hR.quiet (Or.inl ⟨rfl, rfl⟩), Scr.refl, Scr.refl.w (by decide)⟩
      · rw [e_L_isNew_0, e_X6_isNew_0]
        cases c2 : irg x 0 9 with
        | false =>
          rw [groupAt_n c2]
          rfl
        | true =>
          obtain ⟨i, hi, rfl⟩ := irg_9 c2
          rw [c2, Bool.true_and] at c1
          rw [groupAt_s hi, bI_r, airportAt_n c1]
          rfl
      · rw [key, c1, Bool.not_false, bi_t, e_X7_isNew_20, holds_n one_ne, bI_r, if_pos rfl]
    | true =>
      rw [Bool.and_eq_true] at c1
      obtain ⟨i, hi, rfl⟩ := irg_9 c1.1
      obtain ⟨j, hj, rfl⟩ := irg_3 c1.2
      have G := hR.2.2.2.2.2.1 i hi
      refine ⟨0, bi (nwB (rd h 235 i) (nI j) h), wrL h 0 (if bi (nwB (rd h 235 i) (nI j) h) = 0 then Int64.ofNat 0 else Int64.ofNat 1), hq h (if bi (nwB (rd h 235 i) (nI j) h) = 0 then Int64.ofNat 0 else Int64.ofNat 1) 0, ?_, ?_, hq_w, fun _ => hq_o, hq_inv hR, Scr.refl.l, hq_scr⟩
      · rw [e_L_isNew_0, e_X6_isNew_0, groupAt_s hi, bI_r, airportAt_s hj, bR_r, isGroupNew_s hR, bI_r, okZ_bi, gd_t, bI_r, G]
        cases nwB (rd h 235 i) (nI j) h <;> rfl
      · rw [key, c1.1, c1.2]
        show f_X7_isNew_20 _ _ 0 _ = _
        rw [e_X7_isNew_20, holds_0, bI_r, if_neg one_ne]
        show bI (F_X7_isNewAt _ (hq h _ 0)) _ _ = _
        obtain ⟨b1, b2, b3, b4, b5, b6, b7, b8, b9, b10, b11, b12, b13⟩ := hq_inv (v := if bi (nwB (rd h 235 i) (nI j) h) = 0 then Int64.ofNat 0 else Int64.ofNat 1) (w := 0) hR
        rw [isNewAt_s hi b8 b10 b12, bI_r, hq_rd (by decide), hq_nw]
        cases nwB (rd h 235 i) (nI j) h <;> rfl
