/-! slots of a week between two times -/
section LOADS
variable {h : Hp} {x1 x2 x3 x4 x5 x6 : Int32} {k : Nat}
theorem bi_ne {b : Bool} : (bi b = 0) = (b = false) := bi_0
theorem isOn_s (hk : k < 60) : F_X4_isOn [.ref (107 + k), .int x1, .int x2, .int x3] h = rtn (some (.int (bi (decide (rd h (107 + k) 12 = 0) && decide (rd h (107 + k) 0 = x1) && decide (rd h (107 + k) 2 = x3) && (decide (x2 = 2) || decide (rd h (107 + k) 1 = x2)))))) h := by
  rw [e_X4_isOn_0, (okc_sr k hk).1]
  simp only [gd_t]
  by_cases c1 : rd h (107 + k) 12 = 0
  · by_cases c2 : rd h (107 + k) 0 = x1
    · by_cases c3 : rd h (107 + k) 2 = x3
      · by_cases c4 : x2 = 2
        · simp [c1, c2, c3, c4, bi]
        · by_cases c5 : rd h (107 + k) 1 = x2
          · simp [c1, c2, c3, c5, bi]
          · simp [c1, c2, c3, c4, c5, bi]
      · simp [c1, c2, c3, bi]
    · simp [c1, c2, bi]
  · simp [c1, bi]
theorem lastsIn_s {a : Nat} (ha : okc a 7 = true) : F_X5_lastsIn [.ref a, .int x1] h = rtn (some (.int (bi (irg x1 (rd h a 4) (rd h a 5))))) h := by
  rw [e_X5_lastsIn_0, ha]
  simp only [gd_t]
  unfold irg
  by_cases c1 : x1 < rd h a 4
  · simp [c1, bi]
  · by_cases c2 : rd h a 5 < x1
    · simp [c1, c2, bi]
    · simp [c1, c2, bi]
theorem isBetween_s (hk : k < 60) : F_X4_isBetween [.ref (107 + k), .int x1, .int x2] h = rtn (some (.int (bi (irg (rd h (107 + k) 3) x1 x2)))) h := by
  rw [e_X4_isBetween_0, (okc_sr k hk).1]
  simp only [gd_t]
  unfold irg
  by_cases c1 : rd h (107 + k) 3 < x1
  · simp [c1, bi]
  · by_cases c2 : x2 < rd h (107 + k) 3
    · simp [c1, c2, bi]
    · simp [c1, c2, bi]
def thB (x1 x2 x3 : Int32) (h : Hp) (k : Nat) : Bool := decide (rd h 272 k = 0) && decide (rd h 262 k = x1) && decide (rd h 264 k = x2) && irg x3 (rd h 266 k) (rd h 267 k)
theorem isThere_s (hk : k < 60) : F_X7_isThere [.ref 227, .int (nI k), .int x1, .int x2, .int x3] h = rtn (some (.int (bi (thB x1 x2 x3 h k)))) h := by
  rw [e_X7_isThere_0]
  simp only [inb_nI (j := k) (n := 60) hk (by decide), gd_t, nI_clamp (n := k) (by omega), isIn_s, bI_r]
  unfold thB
  by_cases c1 : rd h 272 k = 0
  · by_cases c2 : rd h 262 k = x1
    · by_cases c3 : rd h 264 k = x2
      · cases c4 : irg x3 (rd h 266 k) (rd h 267 k) <;> simp [c1, c2, c3, c4, bi]
      · simp [c1, c2, c3, bi]
    · simp [c1, c2, bi]
  · simp [c1, bi]
def ldB (x1 x2 x3 x4 x5 x6 : Int32) (h : Hp) (k : Nat) : Bool := thB x1 x3 x4 h k && irg (rd h 265 k) x5 x6 && (decide (x2 = 2) || decide (rd h 263 k = x2))
def ldF (x1 x2 x3 x4 x5 x6 : Int32) (h : Hp) (k : Nat) : Int32 := bi (ldB x1 x2 x3 x4 x5 x6 h k)
theorem slots_l (N : EqN h) (V : VN h) (S : EqS h) : ∀ (n k : Nat) (acc : Int32), k + n = ns h → f_X6_slotsBetween_6 x1 x2 x3 x4 x5 x6 acc (nI k) h = rtn (some (.int (fsum (ldF x1 x2 x3 x4 x5 x6 h) k n acc))) h
  | 0, k, acc, e => by
    have h60 := V.s.1
    rw [e_X6_slotsBetween_6, N.2.1, V.s.2, if_neg (nI_nlt (by omega) (by omega))]
    rfl
  | n + 1, k, acc, e => by
    have h60 := V.s.1
    have ih := fun acc => slots_l N V S n (k + 1) acc (by omega)
    obtain ⟨g0, g1, g2, g3, g4, g5, g6, g7, g8, g9, g10, g11, g12⟩ := S.g (k := k) (by omega)
    rw [e_X6_slotsBetween_6, N.2.1, V.s.2, if_pos (nI_lt (by omega) (by omega)), seriesAt_s N V (by omega), bR_r, (okc_sr k (by omega)).1]
    simp only [gd_t, isOn_s (h := h) (k := k) (by omega), lastsIn_s (h := h) (okc_sr k (by omega)).2, isBetween_s (h := h) (k := k) (by omega), bI_r, g0, g1, g2, g3, g4, g5, g12, e_X6_slotsBetween_59, nI_1, ih]
    show _ = rtn (some (.int (fsum (ldF x1 x2 x3 x4 x5 x6 h) (k + 1) n (acc + ldF x1 x2 x3 x4 x5 x6 h k)))) h
    have hf : ldF x1 x2 x3 x4 x5 x6 h k = bi (decide (rd h 272 k = 0) && decide (rd h 262 k = x1) && decide (rd h 264 k = x3) && (decide (x2 = 2) || decide (rd h 263 k = x2)) && irg x4 (rd h 266 k) (rd h 267 k) && irg (rd h 265 k) x5 x6) := by
      unfold ldF ldB thB
      congr 1
      cases decide (rd h 272 k = 0) <;> cases decide (rd h 262 k = x1) <;> cases decide (rd h 264 k = x3) <;> cases irg x4 (rd h 266 k) (rd h 267 k) <;> cases irg (rd h 265 k) x5 x6 <;> cases (decide (x2 = 2) || decide (rd h 263 k = x2)) <;> rfl
    rw [hf]
    generalize (decide (rd h 272 k = 0) && decide (rd h 262 k = x1) && decide (rd h 264 k = x3) && (decide (x2 = 2) || decide (rd h 263 k = x2))) = b1
    generalize irg x4 (rd h 266 k) (rd h 267 k) = b2
    generalize irg (rd h 265 k) x5 x6 = b3
    cases b1 <;> cases b2 <;> cases b3 <;> simp [bi]
theorem loadOf_l (V : VN h) : ∀ (n k : Nat) (acc : Int32), k + n = ns h → f_X7_loadOf_6 x1 x2 x3 x4 x5 x6 acc (nI k) h = rtn (some (.int (fsum (ldF x1 x2 x3 x4 x5 x6 h) k n acc))) h
  | 0, k, acc, e => by
    have h60 := V.s.1
    rw [e_X7_loadOf_6, V.s.2, if_neg (nI_nlt (by omega) (by omega))]
    rfl
  | n + 1, k, acc, e => by
    have h60 := V.s.1
    have ih := fun acc => loadOf_l V n (k + 1) acc (by omega)
    rw [e_X7_loadOf_6, V.s.2, if_pos (nI_lt (by omega) (by omega)), isThere_s (by omega), bI_r]
    simp only [inb_nI (j := k) (n := 60) (by omega) (by decide), gd_t, nI_clamp (n := k) (by omega), isIn_s, bI_r, e_X7_loadOf_61, e_X7_loadOf_65, e_X7_loadOf_66, e_X7_loadOf_80, nI_1, ih]
    show _ = rtn (some (.int (fsum (ldF x1 x2 x3 x4 x5 x6 h) (k + 1) n (acc + ldF x1 x2 x3 x4 x5 x6 h k)))) h
    unfold ldF ldB
    generalize thB x1 x3 x4 h k = b1
    generalize irg (rd h 265 k) x5 x6 = b2
    by_cases c4 : x2 = 2
    · cases b1 <;> cases b2 <;> simp [bi, c4]
    · by_cases c5 : rd h 263 k = x2
      · cases b1 <;> cases b2 <;> simp [bi, c5]
      · cases b1 <;> cases b2 <;> simp [bi, c4, c5]
theorem slotsBetween_s (N : EqN h) (V : VN h) (S : EqS h) : F_X6_slotsBetween [.ref 0, .int x1, .int x2, .int x3, .int x4, .int x5, .int x6] h = rtn (some (.int (fsum (ldF x1 x2 x3 x4 x5 x6 h) 0 (ns h) 0))) h := by
  rw [e_X6_slotsBetween_0]
  exact slots_l N V S (ns h) 0 0 (by omega)
theorem loadOf_s (V : VN h) : F_X7_loadOf [.ref 227, .int x1, .int x2, .int x3, .int x4, .int x5, .int x6] h = rtn (some (.int (fsum (ldF x1 x2 x3 x4 x5 x6 h) 0 (ns h) 0))) h := by
  rw [e_X7_loadOf_0]
  exact loadOf_l V (ns h) 0 0 (by omega)
theorem hq_ld {v : Int64} {w : Int32} : ldF x1 x2 x3 x4 x5 x6 (hq h v w) = ldF x1 x2 x3 x4 x5 x6 h := by
  funext k
  unfold ldF ldB thB
  rw [hq_rd (by decide), hq_rd (by decide), hq_rd (by decide), hq_rd (by decide), hq_rd (by decide), hq_rd (by decide), hq_rd (by decide)]
theorem isDay_s : F_X7_isDay [.int x1, .int x2] h = rtn (some (.int (bi (irg x1 0 6 && irg x2 0 19)))) h := by
  rw [e_X7_isDay_0]
  simp only [isIn_s, bI_r]
  cases irg x1 0 6 <;> cases irg x2 0 19 <;> simp [bi]
theorem kindOr_s : F_X6_requireKindOrEither [.int x1] h = (match irg x1 0 2 with
  | true => rtn none h
  | false => thr 1 h) := by
  rw [e_X6_requireKindOrEither_0, requireRange_s]
  cases irg x1 0 2 <;> rfl
end LOADS
theorem sim_load : SimI Inv F_L_load F_X7_load 6 := by
  intro as h hl hR
  match as, hl with
  | [x1, x2, x3, x4, x5, x6], _ =>
    show ∃ (k v : Int32) (h1 h2 : Hp), F_L_load [.ref 0, .int x1, .int x2, .int x3, .int x4, .int x5, .int x6, .ref 275] h = rtn (some (.int k)) h1 ∧ F_X7_load [.ref 227, .int x1, .int x2, .int x3, .int x4, .int x5, .int x6] h1 = rtn (some (.int v)) h2 ∧ _
    have N := hR.1
    have S := hR.2.1
    have V := hR.2.2.2.2.2.2.2.1
    have key : ∀ g : Hp, F_X7_load [.ref 227, .int x1, .int x2, .int x3, .int x4, .int x5, .int x6] g = f_X7_load_46 x1 x2 x3 x4 x5 x6 (bi (irg x2 0 2 && irg x3 0 6 && irg x4 0 19 && irg x5 0 71 && irg x6 x5 71)) g := by
      intro g
      rw [e_X7_load_0]
      simp only [isIn_s, isDay_s, bI_r, e_X7_load_45]
      cases irg x2 0 2 <;> cases irg x3 0 6 <;> cases irg x4 0 19 <;> cases irg x5 0 71 <;> cases irg x6 x5 71 <;> simp [bi]
    cases c1 : irg x1 0 3 with
    | false =>
      refine ⟨1, 0, h, wr h 227 0 1, ?_, ?_, rd_eqw, fun q => absurd q one_ne, hR.quiet (Or.inl ⟨rfl, rfl⟩), Scr.refl, Scr.refl.w (by decide)⟩
      · rw [e_L_load_0, e_X6_load_0, airportAt_n c1, bR_t, hnk_n, bI_t]
        rfl
      · rw [key, e_X7_load_46, isAirport_s, bI_r, c1, bi_f, if_pos rfl, e_X7_load_70, holds_n one_ne, bI_r, if_pos rfl]
    | true =>
      obtain ⟨j, hj, rfl⟩ := irg_3 c1
      cases c2 : (irg x2 0 2 && irg x3 0 6 && irg x4 0 19 && irg x5 0 71 && irg x6 x5 71) with
      | false =>
        refine ⟨2, 0, h, wr h 227 0 2, ?_, ?_, rd_eqw, fun q => absurd q two_ne, hR.quiet (Or.inl ⟨rfl, rfl⟩), Scr.refl, Scr.refl.w (by decide)⟩
        · rw [e_L_load_0, e_X6_load_0, airportAt_s hj, bR_r]
          simp only [kindOr_s, requireRange_s]
          revert c2
          cases irg x2 0 2 <;> cases irg x3 0 6 <;> cases irg x4 0 19 <;> cases irg x5 0 71 <;> cases irg x6 x5 71 <;> intro c2 <;> first | rfl | cases c2
        · rw [key, c2, e_X7_load_46, isAirport_s, bI_r, c1, bi_t, if_neg one_ne, bi_f, if_pos rfl, e_X7_load_70, holds_n two_ne, bI_r, if_pos rfl]
      | true =>
        refine ⟨0, fsum (ldF (nI j) x2 x3 x4 x5 x6 h) 0 (ns h) 0, wrL h 0 (Int32.toInt64 (fsum (ldF (nI j) x2 x3 x4 x5 x6 h) 0 (ns h) 0)), hq h (Int32.toInt64 (fsum (ldF (nI j) x2 x3 x4 x5 x6 h) 0 (ns h) 0)) 0, ?_, ?_, hq_w, fun _ => hq_o, hq_inv hR, Scr.refl.l, hq_scr⟩
        · rw [e_L_load_0, e_X6_load_0, airportAt_s hj, bR_r]
          simp only [Bool.and_eq_true] at c2
          simp only [kindOr_s, requireRange_s, c2.2, c2.1.2, c2.1.1.2, c2.1.1.1.2, c2.1.1.1.1, bV_r, slotsBetween_s N V S, bI_r]
          rfl
        · rw [key, c2, e_X7_load_46, isAirport_s, bI_r, c1, bi_t, if_neg one_ne, if_neg one_ne, e_X7_load_70, holds_0, bI_r, if_neg one_ne]
          show bI (F_X7_loadOf _ (hq h _ 0)) _ _ = _
          rw [loadOf_s (hq_V V), bI_r, hq_ns, hq_ld]
