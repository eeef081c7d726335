theorem rtn_inj {v w : Int32} {g g' : Hp} (q : rtn (some (.int v)) g = rtn (some (.int w)) g') : v = w ∧ g = g' := by
  unfold rtn at q
  simp only [Option.some.injEq, Sum.inl.injEq, Prod.mk.injEq, Value.int.injEq] at q
  exact q
theorem nI_inj {a b : Nat} (ha : a < 2 ^ 31) (hb : b < 2 ^ 31) (q : nI a = nI b) : a = b := (nI_eq ha hb).mp q
theorem sim_end : SimI Inv F_L_end F_X7_end 0 := by
  intro as h hl hR
  match as, hl with
  | [], _ =>
    show ∃ (k v : Int32) (h1 h2 : Hp), F_L_end [.ref 0, .ref 275] h = rtn (some (.int k)) h1 ∧ F_X7_end [.ref 227] h1 = rtn (some (.int v)) h2 ∧ _
    obtain ⟨N, S, QQ, RR, A, G, T, V, hVA, hVS, hVQ, hVR, hQU⟩ := hR
    have hR : Inv h := ⟨N, S, QQ, RR, A, G, T, V, hVA, hVS, hVQ, hVR, hQU⟩
    have h60 := V.s.1
    rcases season_20 V.2.2.2.2.2.2.2.2 with ⟨c1, c2, c3⟩ | ⟨c1, c2⟩
    · obtain ⟨e2, a2, m0, r0, r1, -, r3, -, -, -, r8, -⟩ := turn_l N V S A hVS (ns h) 0 0 h h (by omega) (Nat.le_refl _) Fr.refl Fr.refl RR (fun j hj => by omega)
      have r1 : f_X6_turnSeriesIntoRights_4 0 0 h = rtn (some (.int (nI e2))) a2 := r1
      generalize ha3 : wr (wr (wr (wr a2 0 12 (nI e2)) 0 10 0) 0 11 0) 0 13 0 = a3
      obtain ⟨a4, s1, s2, s3, s4⟩ := end45_l 4 0 a3 (by omega) (fun i hi => by omega)
      have s1 : f_X6_end_45 0 a3 = rtn (some (.int (rd a4 0 12))) (wr a4 0 14 (rd a4 0 14 + 1)) := s1
      have no0 : ∀ k : Nat, rd a4 0 k = rd a3 0 k := fun k => s2 0 k (fun ⟨i, hi, z⟩ => by omega)
      have e12 : rd a4 0 12 = nI e2 := by
        rw [no0, ← ha3]
        simp [rd_wrx]
      have e14 : rd a4 0 14 = rd h 227 1 := by
        rw [no0, ← ha3]
        simp only [rd_wrx]
        repeat rw [if_neg (by omega)]
        rw [r3 0 14 (by unfold PEc; omega), N.2.2.2.2]
      rw [e12, e14] at s1
      generalize ha5 : wr a4 0 14 (rd h 227 1 + 1) = a5 at s1
      generalize hm : wr (wrL a5 0 (Int32.toInt64 (nI e2))) 227 0 0 = m
      have a4a2 : ∀ p k, p ≠ 0 → (∀ i, i < 4 → p ≠ 13 + 9 * i) → rd a5 p k = rd a2 p k := fun p k h0 h1 => by
        rw [← ha5, rd_ne h0, s2 p k (fun ⟨i, hi, z⟩ => h1 i hi z), ← ha3, rd_ne h0, rd_ne h0, rd_ne h0, rd_ne h0]
      have ma5 : ∀ p k, ¬ (p = 227 ∧ k = 0) → rd m p k = rd a5 p k := fun p k hp => by
        rw [← hm, rd_wrx, if_neg hp, rd_wrLx]
      have Fm : Fr PEm h m := fun p k hp => by
        have q1 : ¬ p < 227 := fun z => hp (Or.inl z)
        rw [ma5 p k (fun z => hp (Or.inr (Or.inr z))), a4a2 p k (by omega) (fun i hi => by omega), r3 p k (by unfold PEc; omega)]
      have Xm : RX h m := fun i hi f hf => by
        have q := ra_in f hf
        rw [RR i hi f hf, ma5 _ _ (by omega), a4a2 _ _ (by omega) (fun i hi => by omega), r3 _ _ (by unfold PEc; omega)]
      obtain ⟨e3, a6, m2, t0, t1, t2, t3, t5, t6, t7, t8, t9⟩ := turn_l N V S A hVS (ns h) 0 0 h m (by omega) (Nat.le_refl _) Fr.refl Fm Xm (fun j hj => by omega)
      obtain ⟨q1, rfl⟩ := rtn_inj (t1.symm.trans r1)
      obtain rfl := nI_inj (by omega) (by omega) q1
      obtain ⟨m3, u1, u2, u3, u4⟩ := end157_l (x := nI e3) 28 0 m2 (by omega) (fun d hd => by omega)
      generalize hH : wr (wr (wr (wr (wr m3 227 10 (nI e3)) 227 20 0) 227 36 0) 227 37 0) 227 1 (rd m3 227 1 + 1) = H at u1
      have H3 : ∀ p k, p ≠ 227 → p ≠ 273 → rd H p k = rd m2 p k := fun p k h1 h2 => by
        rw [← hH, rd_ne h1, rd_ne h1, rd_ne h1, rd_ne h1, rd_ne h1, u2 p k h2]
      have H4 : ∀ p k, p ≠ 227 → p ≠ 273 → ¬ (236 ≤ p ∧ p ≤ 244) → rd H p k = rd a5 p k := fun p k h1 h2 h3 => by
        rw [H3 p k h1 h2, t5 p k h3, ma5 p k (by omega)]
      have A1 : ∀ p k, p < 227 → p ≠ 0 → (∀ i, i < 4 → p ≠ 13 + 9 * i) → rd H p k = rd a6 p k := fun p k h1 h2 h3 => by
        rw [H4 p k (by omega) (by omega) (by omega), a4a2 p k h2 h3]
      have A1h : ∀ p k, p < 167 → p ≠ 0 → (∀ i, i < 4 → p ≠ 13 + 9 * i) → rd H p k = rd h p k := fun p k h1 h2 h3 => by
        rw [A1 p k (by omega) h2 h3, r3 p k (by unfold PEc; omega)]
      have A2 : ∀ i, i < 4 → ∀ d, d < 7 → rd H (13 + 9 * i) d = 0 := fun i hi d hd => by
        rw [H4 _ _ (by omega) (by omega) (by omega), ← ha5, rd_ne (by omega)]
        exact s3 i hi d hd
      have A4 : ∀ p k, 228 ≤ p → p ≠ 273 → ¬ (236 ≤ p ∧ p ≤ 244) → rd H p k = rd h p k := fun p k h1 h2 h3 => by
        rw [H4 p k (by omega) h2 h3, a4a2 p k (by omega) (fun i hi => by omega), r3 p k (by unfold PEc; omega)]
      have A5 : ∀ d, d < 28 → rd H 273 d = 0 := fun d hd => by
        rw [← hH, rd_ne (by decide), rd_ne (by decide), rd_ne (by decide), rd_ne (by decide), rd_ne (by decide)]
        exact u3 d hd
      have z0 : ∀ k, rd H 0 k = rd a5 0 k := fun k => H4 0 k (by decide) (by decide) (by decide)
      have z10 : rd H 0 10 = 0 := by
        rw [z0, ← ha5, rd_nk (by decide), no0, ← ha3]
        simp [rd_wrx]
      have z11 : rd H 0 11 = 0 := by
        rw [z0, ← ha5, rd_nk (by decide), no0, ← ha3]
        simp [rd_wrx]
      have z13 : rd H 0 13 = 0 := by
        rw [z0, ← ha5, rd_nk (by decide), no0, ← ha3]
        simp [rd_wrx]
      have z12 : rd H 0 12 = nI e3 := by
        rw [z0, ← ha5, rd_nk (by decide)]
        exact e12
      have z14 : rd H 0 14 = rd h 227 1 + 1 := by
        rw [z0, ← ha5, rd_eqw]
      have y1 : rd m3 227 1 = rd h 227 1 := by
        rw [u2 227 1 (show ¬ ((227 : Nat) = 273) by decide), t5 227 1 (show ¬ (236 ≤ (227 : Nat) ∧ (227 : Nat) ≤ 244) by decide), ma5 227 1 (by decide), a4a2 227 1 (by decide) (fun i hi => by omega), r3 227 1 (by unfold PEc; omega)]
      have w10 : rd H 227 10 = nI e3 := by
        rw [← hH]
        simp [rd_wrx]
      have w20 : rd H 227 20 = 0 := by
        rw [← hH]
        simp [rd_wrx]
      have w36 : rd H 227 36 = 0 := by
        rw [← hH]
        simp [rd_wrx]
      have w37 : rd H 227 37 = 0 := by
        rw [← hH]
        simp [rd_wrx]
      have w1 : rd H 227 1 = rd h 227 1 + 1 := by
        rw [← hH, rd_eqw, y1]
      have w0 : rd H 227 0 = 0 := by
        rw [← hH, rd_nk (by decide), rd_nk (by decide), rd_nk (by decide), rd_nk (by decide), rd_nk (by decide), u2 227 0 (show ¬ ((227 : Nat) = 273) by decide), t5 227 0 (show ¬ (236 ≤ (227 : Nat) ∧ (227 : Nat) ≤ 244) by decide), ← hm, rd_eqw]
      have nqH : nq H = 0 := by unfold nq; rw [w20]; rfl
      have nsH : ns H = 0 := by unfold ns; rw [w37]; rfl
      have npH : np H = 0 := by unfold np; rw [w36]; rfl
      have nrH : nr H = e3 := by unfold nr; rw [w10, nI_clamp (by omega)]
      refine ⟨0, nI e3, wrL a5 0 (Int32.toInt64 (nI e3)), H, ?_, ?_, w0, fun _ => ?_, ?_, ?_, ?_⟩
      · rw [e_L_end_0, e_X6_end_0, N.2.2.2.2, if_pos c1, e_X6_turnSeriesIntoRights_0, r1, bI_r, ha3, s1, bI_r]
        rfl
      · have y2 : rd (wrL a5 0 (Int32.toInt64 (nI e3))) 227 1 = rd h 227 1 := by
          rw [rd_wrLx, a4a2 227 1 (by decide) (fun i hi => by omega), r3 227 1 (by unfold PEc; omega)]
        rw [e_X7_end_0, y2, if_neg c2, e_X7_end_15, holds_0, bI_r, if_neg one_ne, hm]
        have t2 : f_X7_end_27 0 0 m = f_X7_end_157 (nI e3) 0 m2 := t2
        rw [t2]
        exact u1
      · rw [← hH]
        show rdL m3 0 = _
        rw [u4, t9, ← hm]
        rfl
      · refine ⟨?_, ?_, ?_, ?_, ?_, ?_, ?_, ?_, ?_, ?_, ?_, ?_, ?_⟩
        · exact ⟨z10.trans w20.symm, z11.trans w37.symm, z12.trans w10.symm, z13.trans w36.symm, z14.trans w1.symm⟩
        · intro i hi f hf
          have q := sa_in f hf
          rw [A1h _ _ (by omega) (by omega) (fun i hi => by omega), A4 _ _ (by omega) (by omega) (by omega)]
          exact S i hi f hf
        · intro i hi f hf hf2
          have q := qa_in f hf
          rw [A1h _ _ (by omega) (by omega) (fun i hi => by omega), A4 _ _ (by omega) (by omega) (by omega)]
          exact QQ i hi f hf hf2
        · intro i hi f hf
          have q := ra_in f hf
          rw [A1 _ _ (by omega) (by omega) (fun i hi => by omega), H3 _ _ (by omega) (by omega)]
          exact t6 i hi f hf
        · intro b hb
          obtain ⟨q1, q2, q3, q4, q5, q6⟩ := A b hb
          refine ⟨?_, ?_, ?_, ?_, fun d hd => ?_, fun r hr => ⟨?_, ?_, ?_⟩⟩
          · rw [A1h _ _ (by omega) (by omega) (fun i hi => by omega), A4 _ _ (by omega) (by omega) (by omega)]
            exact q1
          · rw [A1h _ _ (by omega) (by omega) (fun i hi => by omega), A4 _ _ (by omega) (by omega) (by omega)]
            exact q2
          · rw [A1h _ _ (by omega) (by omega) (fun i hi => by omega), A4 _ _ (by omega) (by omega) (by omega)]
            exact q3
          · rw [A1h _ _ (by omega) (by omega) (fun i hi => by omega), A4 _ _ (by omega) (by omega) (by omega)]
            exact q4
          · rw [A2 b hb d hd, A5 _ (by omega)]
          · rw [A1h _ _ (by omega) (by omega) (fun i hi => by omega), A4 _ _ (by omega) (by omega) (by omega)]
            exact (q6 r hr).1
          · rw [A1h _ _ (by omega) (by omega) (fun i hi => by omega), A4 _ _ (by omega) (by omega) (by omega)]
            exact (q6 r hr).2.1
          · rw [A1h _ _ (by omega) (by omega) (fun i hi => by omega), A4 _ _ (by omega) (by omega) (by omega)]
            exact (q6 r hr).2.2
        · intro c hc
          rw [A1h _ _ (by omega) (by omega) (fun i hi => by omega), A4 _ _ (by omega) (by omega) (by omega)]
          exact G c hc
        · intro i hi hi2
          omega
        · unfold VN
          rw [nqH, nsH, nrH, npH, w20, w37, w10, w36, w1]
          exact ⟨rfl, by decide, rfl, Nat.le_refl _, rfl, by omega, rfl, Nat.le_refl _, c3⟩
        · intro b hb
          obtain ⟨m9, hm9, f1, f2⟩ := hVA b hb
          refine ⟨m9, hm9, ?_, fun s hs => ?_⟩
          · rw [A4 _ _ (by omega) (by omega) (by omega)]
            exact f1
          · rw [A4 _ _ (by omega) (by omega) (by omega), A4 _ _ (by omega) (by omega) (by omega), A4 _ _ (by omega) (by omega) (by omega)]
            exact f2 s hs
        · intro i hi
          omega
        · intro i hi
          omega
        · intro i hi
          rw [H3 _ _ (by decide) (by decide)]
          exact t7 i (by omega)
        · exact ⟨fun p hp => by omega, fun i hi => by omega⟩
      · refine ⟨fun j => ?_, ?_⟩
        · rw [rd_wrLx, a4a2 _ _ (show SCRA ≠ 0 by decide) (fun i hi => by show (1000 : Nat) ≠ _; omega), r3 _ _ (show ¬ (167 ≤ (1000 : Nat) ∧ (1000 : Nat) < 227) by decide)]
        · rw [rd_wrLx, a4a2 _ _ (show SCRB ≠ 0 by decide) (fun i hi => by show (1001 : Nat) ≠ _; omega), r3 _ _ (show ¬ (167 ≤ (1001 : Nat) ∧ (1001 : Nat) < 227) by decide)]
      · exact ⟨fun j => A4 1000 j (by decide) (by decide) (by decide), A4 1001 0 (by decide) (by decide) (by decide)⟩
    · refine ⟨1, 0, h, wr h 227 0 1, ?_, ?_, rd_eqw, fun q => absurd q one_ne, hR.quiet (Or.inl ⟨rfl, rfl⟩), Scr.refl, Scr.refl.w (by decide)⟩
      · rw [e_L_end_0, e_X6_end_0, N.2.2.2.2, if_neg c1]
        rfl
      · rw [e_X7_end_0, if_pos c2, e_X7_end_15, holds_n one_ne, bI_r, if_pos rfl]
