section REQ2
variable {h g m : Hp} {x1 x2 x3 x4 x5 x6 x7 x8 x9 : Int32} {i j k n p : Nat}
theorem clA_r : rd (clA g x9 n) p k = if x9 ≠ -1 ∧ p = 167 + x9.toNatClampNeg ∧ k = 8 then nI n else rd g p k := by
  unfold clA
  by_cases d : x9 = -1
  · rw [if_pos d, if_neg (fun z => z.1 d)]
  · rw [if_neg d, rd_wrx]
    by_cases e : p = 167 + x9.toNatClampNeg ∧ k = 8
    · rw [if_pos e, if_pos ⟨d, e⟩]
    · rw [if_neg e, if_neg (fun z => e z.2)]
theorem clM_r : rd (clM g x9 n) p k = if x9 ≠ -1 ∧ p = 244 ∧ k = x9.toNatClampNeg then nI n else rd g p k := by
  unfold clM
  by_cases d : x9 = -1
  · rw [if_pos d, if_neg (fun z => z.1 d)]
  · rw [if_neg d, rd_wrx]
    by_cases e : p = 244 ∧ k = x9.toNatClampNeg
    · rw [if_pos e, if_pos ⟨d, e⟩]
    · rw [if_neg e, if_neg (fun z => e z.2)]
theorem rqA_o (h1 : p ≠ 47 + n) (h2 : ¬ (p = 0 ∧ k = 10)) : rd (rqA h n x1 x2 x3 x4 x5 x6 x7 x8 x9) p k = rd h p k := by
  unfold rqA
  rw [rd_ne h1, rd_ne h1, rd_ne h1, rd_ne h1, rd_ne h1, rd_ne h1, rd_ne h1, rd_ne h1, rd_ne h1, rd_ne h1, rd_ne h1, rd_ne h1, rd_ne h1, rd_ne h1, rd_wrx, if_neg h2]
theorem rqA_10 : rd (rqA h n x1 x2 x3 x4 x5 x6 x7 x8 x9) 0 10 = nI (n + 1) := by
  unfold rqA
  have h1 : 0 ≠ 47 + n := by omega
  rw [rd_ne h1, rd_ne h1, rd_ne h1, rd_ne h1, rd_ne h1, rd_ne h1, rd_ne h1, rd_ne h1, rd_ne h1, rd_ne h1, rd_ne h1, rd_ne h1, rd_ne h1, rd_ne h1, rd_eqw]
theorem rqM_o (h1 : ¬ (245 ≤ p ∧ p ≤ 258 ∧ p ≠ 255 ∧ k = n)) : rd (rqM m n x1 x2 x3 x4 x5 x6 x7 x8 x9) p k = rd m p k := by
  unfold rqM
  simp only [rd_wrx]
  repeat rw [if_neg (by omega)]
theorem rq_AM : ∀ f, f < 14 → f ≠ 10 → rd (rqA h n x1 x2 x3 x4 x5 x6 x7 x8 x9) (47 + n) f = rd (rqM m n x1 x2 x3 x4 x5 x6 x7 x8 x9) (QA f) n := by
  intro f hf f10
  have : f = 0 ∨ f = 1 ∨ f = 2 ∨ f = 3 ∨ f = 4 ∨ f = 5 ∨ f = 6 ∨ f = 7 ∨ f = 8 ∨ f = 9 ∨ f = 11 ∨ f = 12 ∨ f = 13 := by omega
  rcases this with rfl | rfl | rfl | rfl | rfl | rfl | rfl | rfl | rfl | rfl | rfl | rfl | rfl
  · show _ = rd (rqM m n x1 x2 x3 x4 x5 x6 x7 x8 x9) 246 n
    simp [rqA, rqM, rd_wrx]
  · show _ = rd (rqM m n x1 x2 x3 x4 x5 x6 x7 x8 x9) 247 n
    simp [rqA, rqM, rd_wrx]
  · show _ = rd (rqM m n x1 x2 x3 x4 x5 x6 x7 x8 x9) 248 n
    simp [rqA, rqM, rd_wrx]
  · show _ = rd (rqM m n x1 x2 x3 x4 x5 x6 x7 x8 x9) 249 n
    simp [rqA, rqM, rd_wrx]
  · show _ = rd (rqM m n x1 x2 x3 x4 x5 x6 x7 x8 x9) 250 n
    simp [rqA, rqM, rd_wrx]
  · show _ = rd (rqM m n x1 x2 x3 x4 x5 x6 x7 x8 x9) 251 n
    simp [rqA, rqM, rd_wrx]
  · show _ = rd (rqM m n x1 x2 x3 x4 x5 x6 x7 x8 x9) 252 n
    simp [rqA, rqM, rd_wrx]
  · show _ = rd (rqM m n x1 x2 x3 x4 x5 x6 x7 x8 x9) 245 n
    simp [rqA, rqM, rd_wrx]
  · show _ = rd (rqM m n x1 x2 x3 x4 x5 x6 x7 x8 x9) 253 n
    simp [rqA, rqM, rd_wrx]
  · show _ = rd (rqM m n x1 x2 x3 x4 x5 x6 x7 x8 x9) 254 n
    simp [rqA, rqM, rd_wrx]
  · show _ = rd (rqM m n x1 x2 x3 x4 x5 x6 x7 x8 x9) 256 n
    simp [rqA, rqM, rd_wrx]
  · show _ = rd (rqM m n x1 x2 x3 x4 x5 x6 x7 x8 x9) 257 n
    simp [rqA, rqM, rd_wrx]
  · show _ = rd (rqM m n x1 x2 x3 x4 x5 x6 x7 x8 x9) 258 n
    simp [rqA, rqM, rd_wrx]
end REQ2
theorem sim_request : SimI Inv F_L_request F_X7_request 9 := by
  intro as h hl hR
  match as, hl with
  | [x1, x2, x3, x4, x5, x6, x7, x8, x9], _ =>
    show ∃ (k v : Int32) (h1 h2 : Hp), F_L_request [.ref 0, .int x1, .int x2, .int x3, .int x4, .int x5, .int x6, .int x7, .int x8, .int x9, .ref 275] h = rtn (some (.int k)) h1 ∧ F_X7_request [.ref 227, .int x1, .int x2, .int x3, .int x4, .int x5, .int x6, .int x7, .int x8, .int x9] h1 = rtn (some (.int v)) h2 ∧ _
    obtain ⟨N, S, QQ, RR, A, G, T, V, hVA, hVS, hVQ, hVR, hQU⟩ := hR
    have hR : Inv h := ⟨N, S, QQ, RR, A, G, T, V, hVA, hVS, hVQ, hVR, hQU⟩
    have r60 := V.r.1
    have h60 := V.q.1
    have cv : (irg x1 0 9 && irg x2 0 3 && (decide (x9 = -1) || ixs x9 (nr h))) = true → x9 = -1 ∨ ∃ j, j < nr h ∧ x9 = nI j := by
      intro z
      rw [Bool.and_eq_true, Bool.or_eq_true, decide_eq_true_eq] at z
      rcases z.2 with z | z
      · exact Or.inl z
      · exact Or.inr (ixs_t r60 z)
    cases c : (irg x1 0 9 && irg x2 0 3 && (decide (x9 = -1) || ixs x9 (nr h))) with
    | false =>
      refine ⟨1, 0, h, wr h 227 0 1, ?_, ?_, rd_eqw, fun q => absurd q one_ne, hR.quiet (Or.inl ⟨rfl, rfl⟩), Scr.refl, Scr.refl.w (by decide)⟩
      · rw [e_L_request_0, e_X6_request_0]
        cases d1 : irg x1 0 9 with
        | false =>
          rw [groupAt_n d1]
          rfl
        | true =>
          obtain ⟨cc, hcc, rfl⟩ := irg_9 d1
          rw [groupAt_s hcc, bI_r]
          cases d2 : irg x2 0 3 with
          | false =>
            rw [airportAt_n d2]
            rfl
          | true =>
            obtain ⟨ap, hap, rfl⟩ := irg_3 d2
            rw [airportAt_s hap, bR_r]
            rw [d1, d2, Bool.true_and, Bool.true_and, Bool.or_eq_false_iff, decide_eq_false_iff_not] at c
            rw [if_neg c.1, rightAt_n N V c.2]
            rfl
      · rw [requ_m V cv, c]
        show f_X7_request_171 x1 x2 x3 x4 x5 x6 x7 x8 x9 1 h = _
        rw [e_X7_request_171, holds_n one_ne, bI_r, if_pos rfl]
    | true =>
      have c9 := cv c
      have c' := c
      rw [Bool.and_eq_true, Bool.and_eq_true] at c'
      obtain ⟨⟨d1, d2⟩, d3⟩ := c'
      have hc := requ_c (x3 := x3) (x4 := x4) (x5 := x5) (x6 := x6) (x7 := x7) (x8 := x8) N V RR d1 d2 c9
      cases c2 : slt x3 x4 x5 x6 x7 x8 with
      | false =>
        rw [c2] at hc
        refine ⟨2, 0, h, wr h 227 0 2, ?_, ?_, rd_eqw, fun q => absurd q two_ne, hR.quiet (Or.inl ⟨rfl, rfl⟩), Scr.refl, Scr.refl.w (by decide)⟩
        · rw [e_L_request_0, hc]
          rfl
        · rw [requ_m V cv, c, c2]
          show f_X7_request_171 x1 x2 x3 x4 x5 x6 x7 x8 x9 2 h = _
          rw [e_X7_request_171, holds_n two_ne, bI_r, if_pos rfl]
      | true =>
        rw [c2] at hc
        cases c3 : can h x1 x2 x3 x4 x9 with
        | false =>
          rw [c3] at hc
          refine ⟨3, 0, h, wr h 227 0 3, ?_, ?_, rd_eqw, fun q => absurd q three_ne, hR.quiet (Or.inl ⟨rfl, rfl⟩), Scr.refl, Scr.refl.w (by decide)⟩
          · rw [e_L_request_0, hc]
            rfl
          · rw [requ_m V cv, c, c2, c3]
            show f_X7_request_171 x1 x2 x3 x4 x5 x6 x7 x8 x9 3 h = _
            rw [e_X7_request_171, holds_n three_ne, bI_r, if_pos rfl]
        | true =>
          rw [c3] at hc
          have hc : F_X6_request [.ref 0, .int x1, .int x2, .int x3, .int x4, .int x5, .int x6, .int x7, .int x8, .int x9] h = rtn (some (.int (nI (nq h)))) (clA (rqA h (nq h) x1 x2 x3 x4 x5 x6 x7 x8 x9) x9 (nq h)) := hc
          have hn : nq h < 60 := by
            have := c3
            unfold can at this
            rw [Bool.and_eq_true, decide_eq_true_eq] at this
            exact this.1
          have hx9 : x9 ≠ -1 → x9.toNatClampNeg < nr h ∧ x9 = nI x9.toNatClampNeg := fun z => by
            obtain ⟨j, hj, rfl⟩ := c9.resolve_left z
            rw [nI_clamp (by omega)]
            exact ⟨hj, rfl⟩
          generalize hN : nq h = n at *
          generalize ha : clA (rqA h n x1 x2 x3 x4 x5 x6 x7 x8 x9) x9 n = a at hc
          have a_o : ∀ p k, p ≠ 47 + n → ¬ (p = 0 ∧ k = 10) → ¬ (167 ≤ p ∧ p < 227 ∧ k = 8) → rd a p k = rd h p k := fun p k h1 h2 h3 => by
            rw [← ha, clA_r, if_neg (fun z => h3 (by have := hx9 z.1; omega)), rqA_o h1 h2]
          have V1 : VN (wrL a 0 (Int32.toInt64 (nI n))) := by
            have F : Fr (fun p k => p = 47 + n ∨ (p = 0 ∧ k = 10) ∨ (167 ≤ p ∧ p < 227 ∧ k = 8)) h a := fun p k hp => a_o p k (fun z => hp (Or.inl z)) (fun z => hp (Or.inr (Or.inl z))) (fun z => hp (Or.inr (Or.inr z)))
            exact V.F (g := a) F (fun k z => by omega) (fun k _ z => by omega)
          have nq1 : nq (wrL a 0 (Int32.toInt64 (nI n))) = n := by
            unfold nq
            rw [rd_wrLx, a_o 227 20 (by omega) (by omega) (by omega)]
            exact hN
          have nr1 : nr (wrL a 0 (Int32.toInt64 (nI n))) = nr h := by
            unfold nr
            rw [rd_wrLx, a_o 227 10 (by omega) (by omega) (by omega)]
          have can1 : can (wrL a 0 (Int32.toInt64 (nI n))) x1 x2 x3 x4 x9 = can h x1 x2 x3 x4 x9 := by
            unfold can cai
            rw [nq1, hN, rd_wrLx, rd_wrLx, rd_wrLx, rd_wrLx, rd_wrLx, a_o 244 _ (by omega) (by omega) (by omega), a_o 236 _ (by omega) (by omega) (by omega), a_o 237 _ (by omega) (by omega) (by omega), a_o 238 _ (by omega) (by omega) (by omega), a_o 239 _ (by omega) (by omega) (by omega)]
          have hm := requ_m (x1 := x1) (x2 := x2) (x3 := x3) (x4 := x4) (x5 := x5) (x6 := x6) (x7 := x7) (x8 := x8) (x9 := x9) V1 (by rw [nr1]; exact cv)
          rw [nr1, c, c2, can1, c3] at hm
          have hm : F_X7_request [.ref 227, .int x1, .int x2, .int x3, .int x4, .int x5, .int x6, .int x7, .int x8, .int x9] (wrL a 0 (Int32.toInt64 (nI n))) = f_X7_request_171 x1 x2 x3 x4 x5 x6 x7 x8 x9 0 (wrL a 0 (Int32.toInt64 (nI n))) := hm
          have hg := requ_g (x1 := x1) (x2 := x2) (x3 := x3) (x4 := x4) (x5 := x5) (x6 := x6) (x7 := x7) (x8 := x8) (x9 := x9) V1 (by rw [nq1]; exact hn) (by rw [nr1]; exact c9)
          rw [nq1] at hg
          generalize hm0 : wr (wrL a 0 (Int32.toInt64 (nI n))) 227 0 0 = m0 at hg
          have m0_o : ∀ p k, ¬ (p = 227 ∧ k = 0) → rd m0 p k = rd a p k := fun p k hp => by
            rw [← hm0, rd_wrx, if_neg hp, rd_wrLx]
          generalize hH : wr (clM (rqM m0 n x1 x2 x3 x4 x5 x6 x7 x8 x9) x9 n) 227 20 (nI (n + 1)) = H at hg
          have H_o : ∀ p k, ¬ (p = 227 ∧ (k = 0 ∨ k = 20)) → p ≠ 244 → ¬ (245 ≤ p ∧ p ≤ 258 ∧ p ≠ 255 ∧ k = n) → rd H p k = rd a p k := fun p k h1 h2 h3 => by
            rw [← hH, rd_wrx, if_neg (fun z => h1 ⟨z.1, Or.inr z.2⟩), clM_r, if_neg (fun z => h2 z.2.1), rqM_o h3, m0_o p k (fun z => h1 ⟨z.1, Or.inl z.2⟩)]
          have H_n : ∀ f, f < 14 → f ≠ 10 → rd H (QA f) n = rd (rqM m0 n x1 x2 x3 x4 x5 x6 x7 x8 x9) (QA f) n := fun f hf _ => by
            have q := qa_in f hf
            rw [← hH, rd_ne (by omega), clM_r, if_neg (fun z => by omega)]
          have B1 : ∀ p k, p < 227 → p ≠ 47 + n → ¬ (p = 0 ∧ k = 10) → ¬ (167 ≤ p ∧ k = 8) → rd H p k = rd h p k := fun p k h1 h2 h3 h4 => by
            rw [H_o p k (by omega) (by omega) (by omega), a_o p k h2 h3 (by omega)]
          have B4 : ∀ p k, 227 ≤ p → ¬ (p = 227 ∧ (k = 0 ∨ k = 20)) → p ≠ 244 → ¬ (245 ≤ p ∧ p ≤ 258 ∧ p ≠ 255 ∧ k = n) → rd H p k = rd h p k := fun p k h1 h2 h3 h4 => by
            rw [H_o p k h2 h3 h4, a_o p k (by omega) (by omega) (by omega)]
          have B2 : rd H 0 10 = nI (n + 1) := by
            rw [H_o 0 10 (by omega) (by omega) (by omega), ← ha, clA_r, if_neg (fun z => by omega), rqA_10]
          have B20 : rd H 227 20 = nI (n + 1) := by rw [← hH, rd_eqw]
          have B0 : rd H 227 0 = 0 := by
            rw [← hH, rd_nk (by decide), clM_r, if_neg (fun z => by omega), rqM_o (by omega), ← hm0, rd_eqw]
          have B3 : ∀ f, f < 14 → f ≠ 10 → rd H (47 + n) f = rd H (QA f) n := fun f hf f10 => by
            rw [H_n f hf f10, H_o (47 + n) f (by omega) (by omega) (by omega), ← ha, clA_r, if_neg (fun z => by have := hx9 z.1; omega)]
            exact rq_AM f hf f10
          have nqH : nq H = n + 1 := by
            unfold nq
            rw [B20, nI_clamp (by omega)]
          have nsH : ns H = ns h := by unfold ns; rw [B4 227 37 (by decide) (by omega) (by decide) (by omega)]
          have npH : np H = np h := by unfold np; rw [B4 227 36 (by decide) (by omega) (by decide) (by omega)]
          have nrH : nr H = nr h := by unfold nr; rw [B4 227 10 (by decide) (by omega) (by decide) (by omega)]
          have v246 : rd H 246 n = x2 := (H_n 0 (by decide) (by decide)).trans (show rd (rqM m0 n x1 x2 x3 x4 x5 x6 x7 x8 x9) 246 n = x2 by simp [rqM, rd_wrx])
          have v248 : rd H 248 n = x4 := (H_n 2 (by decide) (by decide)).trans (show rd (rqM m0 n x1 x2 x3 x4 x5 x6 x7 x8 x9) 248 n = x4 by simp [rqM, rd_wrx])
          have v249 : rd H 249 n = x5 := (H_n 3 (by decide) (by decide)).trans (show rd (rqM m0 n x1 x2 x3 x4 x5 x6 x7 x8 x9) 249 n = x5 by simp [rqM, rd_wrx])
          have v250 : rd H 250 n = x6 := (H_n 4 (by decide) (by decide)).trans (show rd (rqM m0 n x1 x2 x3 x4 x5 x6 x7 x8 x9) 250 n = x6 by simp [rqM, rd_wrx])
          have v251 : rd H 251 n = x7 := (H_n 5 (by decide) (by decide)).trans (show rd (rqM m0 n x1 x2 x3 x4 x5 x6 x7 x8 x9) 251 n = x7 by simp [rqM, rd_wrx])
          have v245 : rd H 245 n = x1 := (H_n 7 (by decide) (by decide)).trans (show rd (rqM m0 n x1 x2 x3 x4 x5 x6 x7 x8 x9) 245 n = x1 by simp [rqM, rd_wrx])
          have v253 : rd H 253 n = x9 := (H_n 8 (by decide) (by decide)).trans (show rd (rqM m0 n x1 x2 x3 x4 x5 x6 x7 x8 x9) 253 n = x9 by simp [rqM, rd_wrx])
          have v254 : rd H 254 n = 0 := (H_n 9 (by decide) (by decide)).trans (show rd (rqM m0 n x1 x2 x3 x4 x5 x6 x7 x8 x9) 254 n = 0 by simp [rqM, rd_wrx])
          have v256 : rd H 256 n = -1 := (H_n 11 (by decide) (by decide)).trans (show rd (rqM m0 n x1 x2 x3 x4 x5 x6 x7 x8 x9) 256 n = -1 by simp [rqM, rd_wrx])
          have v257 : rd H 257 n = -1 := (H_n 12 (by decide) (by decide)).trans (show rd (rqM m0 n x1 x2 x3 x4 x5 x6 x7 x8 x9) 257 n = -1 by simp [rqM, rd_wrx])
          have v258 : rd H 258 n = -1 := (H_n 13 (by decide) (by decide)).trans (show rd (rqM m0 n x1 x2 x3 x4 x5 x6 x7 x8 x9) 258 n = -1 by simp [rqM, rd_wrx])
          have old : ∀ p k, 245 ≤ p → p ≤ 259 → k ≠ n → rd H p k = rd h p k := fun p k h1 h2 h3 => B4 p k (by omega) (by omega) (by omega) (by omega)
          refine ⟨0, nI n, wrL a 0 (Int32.toInt64 (nI n)), H, ?_, ?_, B0, fun _ => ?_, ?_, ?_, ?_⟩
          · rw [e_L_request_0, hc, bI_r]
            rfl
          · rw [hm]
            exact hg
          · rw [← hH, ← hm0]
            unfold clM rqM
            by_cases d : x9 = -1
            · rw [if_pos d]
              rfl
            · rw [if_neg d]
              rfl
          · refine ⟨?_, ?_, ?_, ?_, ?_, ?_, ?_, ?_, ?_, ?_, ?_, ?_, ?_⟩
            · refine ⟨B2.trans B20.symm, ?_, ?_, ?_, ?_⟩
              · rw [B1 0 11 (by decide) (by omega) (by omega) (by omega), B4 227 37 (by decide) (by omega) (by decide) (by omega)]
                exact N.2.1
              · rw [B1 0 12 (by decide) (by omega) (by omega) (by omega), B4 227 10 (by decide) (by omega) (by decide) (by omega)]
                exact N.2.2.1
              · rw [B1 0 13 (by decide) (by omega) (by omega) (by omega), B4 227 36 (by decide) (by omega) (by decide) (by omega)]
                exact N.2.2.2.1
              · rw [B1 0 14 (by decide) (by omega) (by omega) (by omega), B4 227 1 (by decide) (by omega) (by decide) (by omega)]
                exact N.2.2.2.2
            · intro i hi f hf
              have q := sa_in f hf
              rw [B1 _ _ (by omega) (by omega) (by omega) (by omega), B4 _ _ (by omega) (by omega) (by omega) (by omega)]
              exact S i hi f hf
            · intro i hi f hf f10
              by_cases ci : i = n
              · subst ci
                exact B3 f hf f10
              · have q := qa_in f hf
                rw [B1 _ _ (by omega) (by omega) (by omega) (by omega), old _ _ (by omega) (by omega) ci]
                exact QQ i hi f hf f10
            · intro i hi f hf
              have q := ra_in f hf
              by_cases f8 : f = 8
              · subst f8
                show rd H (167 + i) 8 = rd H 244 i
                rw [H_o (167 + i) 8 (by omega) (by omega) (by omega), ← ha, clA_r, rqA_o (by omega) (by omega), ← hH, rd_ne (by decide), clM_r, rqM_o (by omega), m0_o _ _ (by omega), a_o 244 i (by omega) (by omega) (by omega)]
                by_cases d : x9 ≠ -1 ∧ i = x9.toNatClampNeg
                · rw [if_pos ⟨d.1, by omega, rfl⟩, if_pos ⟨d.1, rfl, d.2⟩]
                · rw [if_neg (fun z => d ⟨z.1, by omega⟩), if_neg (fun z => d ⟨z.1, z.2.2⟩)]
                  exact RR i hi 8 (by decide)
              · have qr : RA f ≠ 244 := fun z => f8 ((by decide : ∀ f, f < 9 → RA f = 244 → f = 8) f hf z)
                rw [B1 _ _ (by omega) (by omega) (by omega) (by omega), B4 _ _ (by omega) (by omega) qr (by omega)]
                exact RR i hi f hf
            · intro b hb
              obtain ⟨q1, q2, q3, q4, q5, q6⟩ := A b hb
              refine ⟨?_, ?_, ?_, ?_, fun d hd => ?_, fun r hr => ⟨?_, ?_, ?_⟩⟩ <;> rw [B1 _ _ (by omega) (by omega) (by omega) (by omega), B4 _ _ (by omega) (by omega) (by omega) (by omega)]
              · exact q1
              · exact q2
              · exact q3
              · exact q4
              · exact q5 d hd
              · exact (q6 r hr).1
              · exact (q6 r hr).2.1
              · exact (q6 r hr).2.2
            · intro cc hcc
              rw [B1 _ _ (by decide) (by omega) (by omega) (by omega), B4 _ _ (by decide) (by omega) (by decide) (by omega)]
              exact G cc hcc
            · intro i hi hi2 hs
              rw [nqH] at hi2
              have ci : i ≠ n := fun z => hs (by rw [z]; exact v254)
              rw [old 254 i (by decide) (by decide) ci] at hs
              rw [B1 _ _ (by omega) (by omega) (by omega) (by omega), old 255 i (by decide) (by decide) ci]
              exact T i hi (by omega) hs
            · obtain ⟨w1, w2, w3, w4, w5, w6, w7, w8, w9⟩ := V
              unfold VN
              rw [nqH, nsH, nrH, npH, B20, B4 227 37 (by decide) (by omega) (by decide) (by omega), B4 227 10 (by decide) (by omega) (by decide) (by omega), B4 227 36 (by decide) (by omega) (by decide) (by omega), B4 227 1 (by decide) (by omega) (by decide) (by omega)]
              rw [hN] at w4 w8
              refine ⟨rfl, by omega, w3, ?_, w5, w6, w7, ?_, w9⟩
              · show ns h + (cnt (fun i => !decide (rd H 254 i = 1)) n + (match !decide (rd H 254 n = 1) with | true => 1 | false => 0)) ≤ n + 1
                rw [v254, cnt_ext (g := fun i => !decide (rd h 254 i = 1)) n (fun i hi => by rw [old 254 i (by decide) (by decide) (by omega)])]
                show ns h + (_ + 1) ≤ n + 1
                omega
              · show np h + (cnt (fun i => decide (rd H 254 i = 0)) n + (match decide (rd H 254 n = 0) with | true => 1 | false => 0)) ≤ n + 1
                rw [v254, cnt_ext (g := fun i => decide (rd h 254 i = 0)) n (fun i hi => by rw [old 254 i (by decide) (by decide) (by omega)])]
                show np h + (_ + 1) ≤ n + 1
                omega
            · intro b hb
              obtain ⟨m9, hm9, f1, f2⟩ := hVA b hb
              refine ⟨m9, hm9, ?_, fun s hs => ?_⟩
              · rw [B4 _ _ (by omega) (by omega) (by omega) (by omega)]
                exact f1
              · rw [B4 _ _ (by omega) (by omega) (by omega) (by omega), B4 _ _ (by omega) (by omega) (by omega) (by omega), B4 _ _ (by omega) (by omega) (by omega) (by omega)]
                exact f2 s hs
            · intro i hi
              rw [nsH] at hi
              rw [B4 262 _ (by omega) (by omega) (by omega) (by omega), B4 264 _ (by omega) (by omega) (by omega) (by omega), B4 265 _ (by omega) (by omega) (by omega) (by omega), B4 266 _ (by omega) (by omega) (by omega) (by omega), B4 267 _ (by omega) (by omega) (by omega) (by omega), B4 260 _ (by omega) (by omega) (by omega) (by omega)]
              exact hVS i hi
            · intro i hi
              rw [nqH] at hi
              by_cases ci : i = n
              · subst ci
                rw [v246, v248, v249, v250, v251, v245, v253, v254, v256, v257, v258, nrH]
                have sl := c2
                unfold slt at sl
                simp only [Bool.and_eq_true] at sl
                obtain ⟨s1, s2, s3, s4, s5, s6⟩ := sl
                exact ⟨d2, s2, s3, s4, s5, d1, c9, by decide, Or.inl rfl, fun z => absurd z (by decide), fun _ => ⟨rfl, rfl⟩⟩
              · obtain ⟨v1, v2, v3, v4, v5, v6, v7, v8, v9, v10, v11⟩ := hVQ i (by omega)
                rw [old 246 i (by decide) (by decide) ci, old 248 i (by decide) (by decide) ci, old 249 i (by decide) (by decide) ci, old 250 i (by decide) (by decide) ci, old 251 i (by decide) (by decide) ci, old 245 i (by decide) (by decide) ci, old 253 i (by decide) (by decide) ci, old 254 i (by decide) (by decide) ci, old 256 i (by decide) (by decide) ci, old 257 i (by decide) (by decide) ci, old 258 i (by decide) (by decide) ci, nrH]
                refine ⟨v1, v2, v3, v4, v5, v6, v7, v8, ?_, v10, v11⟩
                rcases v9 with z | ⟨j, z1, z2, z3, z4, z5⟩
                · exact Or.inl z
                · have cj : j ≠ n := by omega
                  exact Or.inr ⟨j, by omega, z2, z3, by rw [old 258 j (by decide) (by decide) cj]; exact z4, by rw [old 254 j (by decide) (by decide) cj]; exact z5⟩
            · intro i hi
              rw [nrH] at hi
              rw [B4 236 i (by decide) (by omega) (by decide) (by omega)]
              exact hVR i hi
            · constructor
              · intro p hp
                rw [npH] at hp
                obtain ⟨k, z1, z2, z3, z4⟩ := hQU.1 p hp
                have ck : k ≠ n := by omega
                exact ⟨k, by omega, by rw [B1 _ _ (by decide) (by omega) (by omega) (by omega)]; exact z2, by rw [old 259 k (by decide) (by decide) ck]; exact z3, by rw [old 254 k (by decide) (by decide) ck]; exact z4⟩
              · intro k hk hst
                rw [nqH] at hk
                have ck : k ≠ n := fun z => by
                  rw [z, v254] at hst
                  rcases hst with q | q <;> exact absurd q (by decide)
                rw [old 254 k (by decide) (by decide) ck] at hst
                obtain ⟨p, z1, z2, z3⟩ := hQU.2 k (by omega) hst
                exact ⟨p, by omega, by rw [B1 _ _ (by decide) (by omega) (by omega) (by omega)]; exact z2, by rw [old 259 k (by decide) (by decide) ck]; exact z3⟩
          · exact ⟨fun q => by rw [rd_wrLx]; exact a_o 1000 q (by omega) (by omega) (by omega), by rw [rd_wrLx]; exact a_o 1001 0 (by omega) (by omega) (by omega)⟩
          · exact ⟨fun q => B4 1000 q (by decide) (by omega) (by decide) (by omega), B4 1001 0 (by decide) (by omega) (by decide) (by omega)⟩
