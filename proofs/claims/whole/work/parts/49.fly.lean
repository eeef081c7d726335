theorem fly_m {g : Hp} (V : VN g) {i w a : Nat} (hi : i < ns g) (hr : irg (nI w) (rd g 266 i) (rd g 267 i) = true) (hra : irg (nI a) 0 71 = true) (o1 : rd g 272 i = 0) (o2 : ¬ ((rd g 270 i >>> (nI w &&& 31)) &&& 1 = 1)) (off : Int32) (ho : off = rd g 271 i + (match irg (nI a) (rd g 265 i - 2) (rd g 265 i + 2) with | true => 0 | false => 1)) :
    F_X7_fly [.ref 227, .int (nI i), .int (nI w), .int (nI a)] g = rtn (some (.int off)) (wr (wr (wr (wr g 227 0 0) 270 i (rd g 270 i ||| ((1 : Int32) <<< (nI w &&& 31)))) 271 i off) 272 i (if 2 < off then 1 else 0)) := by
  have h60 := V.s.1
  have ii : inb (nI i) 60 = true := inb_nI (by omega) (by decide)
  have ci : (nI i).toNatClampNeg = i := nI_clamp (by omega)
  rw [e_X7_fly_0, isSeries_s V, bI_r, ixs_nI h60 hi, bi_t, if_neg one_ne]
  simp only [ii, ci, gd_t, isIn_s, bI_r, hr, hra, bi_t]
  rw [if_neg one_ne, if_neg one_ne, e_X7_fly_46, if_neg one_ne, if_neg one_ne, ii, ci]
  simp only [gd_t]
  rw [if_pos o1, if_neg o2, e_X7_fly_95, holds_0, bI_r, if_neg one_ne]
  simp only [ii, ci, gd_t, isIn_s, bI_r, e_X7_fly_150, rd_ne (show (265 : Nat) ≠ 227 by decide), rd_ne (show (270 : Nat) ≠ 227 by decide), rd_ne (show (271 : Nat) ≠ 227 by decide), rd_eqw, nar_b.1, nar_b.2]
  cases c : irg (nI a) (rd g 265 i - 2) (rd g 265 i + 2) with
  | true =>
    rw [c] at ho
    have ho : off = rd g 271 i + 0 := ho
    rw [bi_t, if_neg one_ne, ← ho]
    by_cases d : 2 < off
    · rw [if_pos d, if_pos d]
    · rw [if_neg d, if_neg d]
  | false =>
    rw [c] at ho
    have ho : off = rd g 271 i + 1 := ho
    rw [bi_f, if_pos rfl, ← ho]
    by_cases d : 2 < off
    · rw [if_pos d, if_pos d]
    · rw [if_neg d, if_neg d]
theorem sim_fly : SimI Inv F_L_fly F_X7_fly 3 := by
  intro as h hl hR
  match as, hl with
  | [x, y, z], _ =>
    show ∃ (k v : Int32) (h1 h2 : Hp), F_L_fly [.ref 0, .int x, .int y, .int z, .ref 275] h = rtn (some (.int k)) h1 ∧ F_X7_fly [.ref 227, .int x, .int y, .int z] h1 = rtn (some (.int v)) h2 ∧ _
    have N := hR.1
    have S := hR.2.1
    have V := hR.2.2.2.2.2.2.2.1
    have hVS := hR.2.2.2.2.2.2.2.2.2.1
    have h60 := V.s.1
    cases c1 : ixs x (ns h) with
    | false =>
      refine ⟨1, 0, h, wr h 227 0 1, ?_, ?_, rd_eqw, fun q => absurd q one_ne, hR.quiet (Or.inl ⟨rfl, rfl⟩), Scr.refl, Scr.refl.w (by decide)⟩
      · rw [e_L_fly_0, e_X6_fly_0, seriesAt_n N V c1]
        rfl
      · rw [e_X7_fly_0, isSeries_s V, bI_r, c1, bi_f, if_pos rfl, e_X7_fly_45, e_X7_fly_46, if_pos rfl, e_X7_fly_95, holds_n one_ne, bI_r, if_pos rfl]
    | true =>
      obtain ⟨i, hi, rfl⟩ := ixs_t V.s.1 c1
      obtain ⟨g0, g1, g2, g3, g4, g5, g6, g7, g8, g9, g10, g11, g12⟩ := S.g (k := i) (by omega)
      have ii : inb (nI i) 60 = true := inb_nI (by omega) (by decide)
      have ci : (nI i).toNatClampNeg = i := nI_clamp (by omega)
      have ok := (okc_sr i (by omega)).1
      cases c2 : (irg y (rd h 266 i) (rd h 267 i) && irg z 0 71) with
      | false =>
        refine ⟨2, 0, h, wr h 227 0 2, ?_, ?_, rd_eqw, fun q => absurd q two_ne, hR.quiet (Or.inl ⟨rfl, rfl⟩), Scr.refl, Scr.refl.w (by decide)⟩
        · rw [e_L_fly_0, e_X6_fly_0, seriesAt_s N V hi, bR_r, ok]
          simp only [gd_t, requireRange_s, g4, g5]
          revert c2
          cases irg y (rd h 266 i) (rd h 267 i) <;> cases irg z 0 71 <;> intro c2 <;> first | rfl | cases c2
        · have q : F_X7_fly [.ref 227, .int (nI i), .int y, .int z] h = f_X7_fly_95 (nI i) y z 2 h := by
            rw [e_X7_fly_0, isSeries_s V, bI_r, c1, bi_t, if_neg one_ne]
            simp only [ii, ci, gd_t, isIn_s, bI_r, e_X7_fly_45, e_X7_fly_46]
            revert c2
            cases irg y (rd h 266 i) (rd h 267 i) <;> cases irg z 0 71 <;> intro c2 <;> first | (simp [bi, one_ne]; done) | cases c2
          rw [q, e_X7_fly_95, holds_n two_ne, bI_r, if_pos rfl]
      | true =>
        have c2' := c2
        rw [Bool.and_eq_true] at c2'
        obtain ⟨v1, v2, v3, v4, v5, v6⟩ := hVS i hi
        obtain ⟨w, hw, rfl⟩ := irg_w v4 v5 c2'.1
        obtain ⟨a, ha, rfl⟩ := irg_nI (n := 71) (by decide) c2'.2
        by_cases c3 : rd h 272 i = 0 ∧ ¬ ((rd h 270 i >>> (nI w &&& 31)) &&& 1 = 1)
        · obtain ⟨o1, o2⟩ := c3
          obtain ⟨off, ho⟩ : ∃ off : Int32, off = rd h 271 i + (match irg (nI a) (rd h 265 i - 2) (rd h 265 i + 2) with | true => 0 | false => 1) := ⟨_, rfl⟩
          obtain ⟨h1, hc, F1, p10, p11, p12⟩ := fly_c N V S hVS hi hw (show a < 72 by omega) c2'.1 o1 ((bit_n1 (by omega)).mpr o2) off ho
          have rm : ∀ p k, 227 ≤ p → rd (wrL h1 0 (Int32.toInt64 off)) p k = rd h p k := fun p k hp => F1 p k (fun q => by omega)
          have V1 : VN (wrL h1 0 (Int32.toInt64 off)) := V.F (g := h1) F1 (fun k q => by omega) (fun k _ q => by omega)
          have n1 : ns (wrL h1 0 (Int32.toInt64 off)) = ns h := ns_F (g := h1) F1 (fun q => by omega)
          have hm := fly_m V1 (i := i) (w := w) (a := a) (by rw [n1]; exact hi) (by rw [rm _ _ (by decide), rm _ _ (by decide)]; exact c2'.1) c2'.2 (by rw [rm _ _ (by decide)]; exact o1) (by rw [rm _ _ (by decide)]; exact o2) off (by rw [rm _ _ (by decide), rm _ _ (by decide)]; exact ho)
          rw [rm 270 i (by decide)] at hm
          generalize hB : (rd h 270 i ||| ((1 : Int32) <<< (nI w &&& 31))) = FB at hm p10
          generalize hG : (if 2 < off then (1 : Int32) else 0) = gn at hm p12
          generalize hh2 : wr (wr (wr (wr (wrL h1 0 (Int32.toInt64 off)) 227 0 0) 270 i FB) 271 i off) 272 i gn = h2 at hm
          have F2 : Fr (fun p k => (107 ≤ p ∧ p < 167) ∨ p = 270 ∨ p = 271 ∨ p = 272 ∨ (p = 227 ∧ k = 0)) h h2 := by
            rw [← hh2]
            have F0 : Fr (fun p k => (107 ≤ p ∧ p < 167) ∨ p = 270 ∨ p = 271 ∨ p = 272 ∨ (p = 227 ∧ k = 0)) h (wrL h1 0 (Int32.toInt64 off)) := fun p k hp => F1 p k (fun q => hp (Or.inl (by omega)))
            exact (((F0.w (Or.inr (Or.inr (Or.inr (Or.inr ⟨rfl, rfl⟩))))).w (Or.inr (Or.inl rfl))).w (Or.inr (Or.inr (Or.inl rfl)))).w (Or.inr (Or.inr (Or.inr (Or.inl rfl))))
          refine ⟨0, off, wrL h1 0 (Int32.toInt64 off), h2, ?_, hm, ?_, fun _ => ?_, ?_, ?_, ?_⟩
          · rw [e_L_fly_0, hc, bI_r]
            rfl
          · rw [← hh2, rd_ne (by decide), rd_ne (by decide), rd_ne (by decide), rd_eqw]
          · rw [← hh2]
            rfl
          · refine hR.serF (fun p k hp => F2 p k (fun q => hp (by unfold PS; omega))) ?_ (hVS.F F2 (fun p k q1 q2 q3 q => by omega) (fun q => by omega))
            intro q hq f hf
            have hs := S q hq f hf
            have hsa := sa_in f hf
            have lft : ∀ k, rd h2 (107 + q) k = rd h1 (107 + q) k := fun k => by
              rw [← hh2, rd_ne (by omega), rd_ne (by omega), rd_ne (by omega), rd_ne (by omega), rd_wrLx]
            have rgt : ∀ p, 228 ≤ p → p ≠ 270 → p ≠ 271 → p ≠ 272 → rd h2 p q = rd h p q := fun p q1 q2 q3 q4 => F2 p q (fun z => by omega)
            rw [lft]
            by_cases qi : q = i
            · subst qi
              by_cases f10 : f = 10
              · subst f10
                rw [p10, show SA 10 = 270 from rfl, ← hh2, rd_ne (by decide), rd_ne (by decide), rd_eqw]
              · by_cases f11 : f = 11
                · subst f11
                  rw [p11, show SA 11 = 271 from rfl, ← hh2, rd_ne (by decide), rd_eqw]
                · by_cases f12 : f = 12
                  · subst f12
                    rw [p12, show SA 12 = 272 from rfl, ← hh2, rd_eqw]
                  · rw [F1 _ _ (fun z => by omega), rgt _ (by omega) (fun z => f10 (sa_inj f hf 10 (by decide) z)) (fun z => f11 (sa_inj f hf 11 (by decide) z)) (fun z => f12 (sa_inj f hf 12 (by decide) z))]
                    exact hs
            · rw [F1 _ _ (fun z => by omega)]
              have o : rd h2 (SA f) q = rd h (SA f) q := by
                rw [← hh2, rd_nk qi, rd_nk qi, rd_nk qi, rd_ne (by omega)]
                exact rm _ _ (by omega)
              rw [o]
              exact hs
          · exact ⟨fun q => F1 SCRA q (fun z => by have : (1000 : Nat) = 107 + i := z.1; omega), F1 SCRB 0 (fun z => by have : (1001 : Nat) = 107 + i := z.1; omega)⟩
          · exact ⟨fun q => F2 SCRA q (fun z => by rcases z with z | z | z | z | z; exact absurd z.2 (by decide); exact absurd z (by decide); exact absurd z (by decide); exact absurd z (by decide); exact absurd z.1 (by decide)), F2 SCRB 0 (fun z => by rcases z with z | z | z | z | z; exact absurd z.2 (by decide); exact absurd z (by decide); exact absurd z (by decide); exact absurd z (by decide); exact absurd z.1 (by decide))⟩
        · refine ⟨3, 0, h, wr h 227 0 3, ?_, ?_, rd_eqw, fun q => absurd q three_ne, hR.quiet (Or.inl ⟨rfl, rfl⟩), Scr.refl, Scr.refl.w (by decide)⟩
          · rw [e_L_fly_0, e_X6_fly_0, seriesAt_s N V hi, bR_r, ok]
            simp only [gd_t, requireRange_s, g4, g5, c2'.1, c2'.2, bV_r, weeksFromTo_1 (h := h) (w := w) hw, bI_r, g12, g10, e_X6_fly_54]
            by_cases o1 : rd h 272 i = 0
            · have o2 : ¬ (rd h 270 i &&& ((1 : Int32) <<< (nI w &&& 31)) = 0) := fun q => c3 ⟨o1, (bit_n1 (by omega)).mp q⟩
              rw [if_pos o1, if_neg o2]
              rfl
            · rw [if_neg o1]
              rfl
          · have q : F_X7_fly [.ref 227, .int (nI i), .int (nI w), .int (nI a)] h = f_X7_fly_95 (nI i) (nI w) (nI a) 3 h := by
              rw [e_X7_fly_0, isSeries_s V, bI_r, c1, bi_t, if_neg one_ne]
              simp only [ii, ci, gd_t, isIn_s, bI_r, c2'.1, c2'.2, bi_t, e_X7_fly_90]
              rw [if_neg one_ne, if_neg one_ne, e_X7_fly_46, if_neg one_ne, if_neg one_ne, ii, ci]
              simp only [gd_t, e_X7_fly_90]
              by_cases o1 : rd h 272 i = 0
              · have o2 : (rd h 270 i >>> (nI w &&& 31)) &&& 1 = 1 := Decidable.not_not.mp (fun q => c3 ⟨o1, q⟩)
                rw [if_pos o1, if_pos o2]
              · rw [if_neg o1]
            rw [q, e_X7_fly_95, holds_n three_ne, bI_r, if_pos rfl]
