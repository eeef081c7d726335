section JI
variable {h g a m : Hp} {x s v : Int32} {i j k t n p : Nat}
theorem Inv.toJ (H : Inv h) (F : Fr PCl h m) : J h m := by
  obtain ⟨N, S, QQ, RR, A, G, T, V, hVA, hVS, hVQ, hVR, hQU⟩ := H
  have H : Inv h := ⟨N, S, QQ, RR, A, G, T, V, hVA, hVS, hVQ, hVR, hQU⟩
  obtain ⟨C, S', A', V', hVA'⟩ := Tw.of H F
  have nq' : nq m = nq h := nq_F F (by unfold PCl; omega)
  have ns' : ns m = ns h := ns_F F (by unfold PCl; omega)
  have np' : np m = np h := np_F F (by unfold PCl; omega)
  have o : ∀ p k, 228 ≤ p → rd m p k = rd h p k := fun p k hp => F p k (by unfold PCl; omega)
  refine ⟨⟨?_, C.1, ?_⟩, S', ?_, A', V', hVA', ?_, ?_, ?_, ?_⟩
  · rw [nq', N.1, V.q.2]
  · rw [np', N.2.2.2.1, V.2.2.2.2.2.2.1]
  · intro i hi f hf f10
    have q := qa_in f hf
    rw [o _ _ (by omega)]
    exact QQ i hi f hf f10
  · exact hVS.F F (by unfold PCl; intros; omega) (by unfold PCl; omega)
  · intro i hi
    rw [nq'] at hi
    obtain ⟨v1, v2, v3, v4, v5, v6, v7, v8, v9, v10, v11⟩ := hVQ i hi
    rw [o _ _ (by decide), o _ _ (by decide), o _ _ (by decide), o _ _ (by decide), o _ _ (by decide), o _ _ (by decide), o _ _ (by decide), o _ _ (by decide), o _ _ (by decide)]
    exact ⟨v1, v2, v3, v4, v5, v6, v8, v10, v11⟩
  · intro p hp
    rw [np'] at hp
    obtain ⟨k, z1, z2, z3, z4⟩ := hQU.1 p hp
    exact ⟨k, by rw [nq']; exact z1, z2, by rw [o _ _ (by decide)]; exact z3, by rw [o _ _ (by decide)]; exact z4⟩
  · intro k hk hst
    rw [nq'] at hk
    rw [o _ _ (by decide)] at hst
    obtain ⟨p, z1, z2, z3⟩ := hQU.2 k hk hst
    exact ⟨p, by rw [np']; exact z1, z2, by rw [o _ _ (by decide)]; exact z3⟩
def LKs (g : Hp) : Prop := ∀ i, i < nq g → rd g 258 i = -1 ∨ ∃ j, j < nq g ∧ j ≠ i ∧ rd g 258 i = nI j ∧ rd g 258 j = nI i ∧ (rd g 254 i = 0 ↔ rd g 254 j = 0)
theorem Inv.ofJ (H : Inv h) (Fa : Fr PJc h a) (hc : ∀ p k, p < 227 → rd g p k = rd a p k) (Fm : ∀ p k, 227 ≤ p → ¬ PJm p k → rd g p k = rd h p k) (Jg : J a g) (T2 : ∀ i, i < 60 → i < nq g → rd g 254 i ≠ 0 → rd a (47 + i) 10 = rd g 255 i) (L : LKs g) : Inv g := by
  obtain ⟨N, S, QQ, RR, A, G, T, V, hVA, hVS, hVQ, hVR, hQU⟩ := H
  obtain ⟨⟨C1, C2, C3⟩, S2, Q2, A2, V2, hVA2, hVS2, hVQ2, hU1, hU2⟩ := Jg
  have ca : ∀ p k, p < 227 → ¬ PJc p k → rd g p k = rd h p k := fun p k h1 h2 => by rw [hc p k h1, Fa p k h2]
  have nq' : nq g = nq h := by unfold nq; rw [Fm 227 20 (by decide) (by unfold PJm; omega)]
  have nr' : nr g = nr h := by unfold nr; rw [Fm 227 10 (by decide) (by unfold PJm; omega)]
  refine ⟨⟨?_, ?_, ?_, ?_, ?_⟩, ?_, ?_, ?_, ?_, ?_, ?_, V2, hVA2, hVS2, ?_, ?_, ?_, ?_⟩
  · rw [hc _ _ (by decide), C1, V2.q.2]
  · rw [hc _ _ (by decide), C2, V2.s.2]
  · rw [ca _ _ (by decide) (by unfold PJc; omega), Fm 227 10 (by decide) (by unfold PJm; omega)]
    exact N.2.2.1
  · rw [hc _ _ (by decide), C3, V2.2.2.2.2.2.2.1]
  · rw [ca _ _ (by decide) (by unfold PJc; omega), Fm 227 1 (by decide) (by unfold PJm; omega)]
    exact N.2.2.2.2
  · intro i hi f hf
    rw [hc _ _ (by omega)]
    exact S2 i hi f hf
  · intro i hi f hf f10
    rw [hc _ _ (by omega)]
    exact Q2 i hi f hf f10
  · intro i hi f hf
    have q := ra_in f hf
    rw [ca _ _ (by omega) (by unfold PJc; omega), Fm _ _ (by omega) (by unfold PJm; omega)]
    exact RR i hi f hf
  · intro b hb
    obtain ⟨q1, q2, q3, q4, q5, q6⟩ := A b hb
    refine ⟨?_, ?_, ?_, ?_, fun d hd => ?_, fun r hr => ⟨?_, ?_, ?_⟩⟩ <;> rw [ca _ _ (by omega) (by unfold PJc; omega), Fm _ _ (by omega) (by unfold PJm; omega)]
    · exact q1
    · exact q2
    · exact q3
    · exact q4
    · exact q5 d hd
    · exact (q6 r hr).1
    · exact (q6 r hr).2.1
    · exact (q6 r hr).2.2
  · intro c hc2
    rw [ca _ _ (by decide) (by unfold PJc; omega), Fm _ _ (by decide) (by unfold PJm; omega)]
    exact G c hc2
  · intro i h60 hi hs
    rw [hc _ _ (by omega)]
    exact T2 i h60 hi hs
  · intro i hi
    obtain ⟨v1, v2, v3, v4, v5, v6, v7, v8, v9⟩ := hVQ2 i hi
    obtain ⟨-, -, -, -, -, -, u7, -⟩ := hVQ i (by omega)
    refine ⟨v1, v2, v3, v4, v5, v6, ?_, v7, L i hi, v8, v9⟩
    rw [nr', Fm 253 i (by decide) (by unfold PJm; omega)]
    exact u7
  · intro i hi
    rw [nr'] at hi
    rw [Fm 236 i (by decide) (by unfold PJm; omega)]
    exact hVR i hi
  · intro p hp
    obtain ⟨k, z1, z2, z3, z4⟩ := hU1 p hp
    exact ⟨k, z1, by rw [hc _ _ (by decide)]; exact z2, z3, z4⟩
  · intro k hk hst
    obtain ⟨p, z1, z2, z3⟩ := hU2 k hk hst
    exact ⟨p, z1, by rw [hc _ _ (by decide)]; exact z2, z3⟩
theorem J.t10 {a2 : Hp} (H : J a m) (F : Fr T10 a a2) : J a2 m := by
  obtain ⟨⟨C1, C2, C3⟩, S, Q, A, V, hVA, hVS, hVQ, hU1, hU2⟩ := H
  have o : ∀ p k, p ≠ 10 → rd a2 p k = rd a p k := fun p k hp => F p k hp
  refine ⟨⟨?_, ?_, ?_⟩, ?_, ?_, ?_, V, hVA, hVS, hVQ, ?_, ?_⟩
  · rw [o _ _ (by decide)]; exact C1
  · rw [o _ _ (by decide)]; exact C2
  · rw [o _ _ (by decide)]; exact C3
  · intro i hi f hf
    rw [o _ _ (by omega)]
    exact S i hi f hf
  · intro i hi f hf f10
    rw [o _ _ (by omega)]
    exact Q i hi f hf f10
  · exact A.F2 (fun p k h1 h2 => o _ _ (by omega)) (fun p k h1 h2 => rfl)
  · intro p hp
    obtain ⟨k, z1, z2, z3, z4⟩ := hU1 p hp
    exact ⟨k, z1, by rw [o _ _ (by decide)]; exact z2, z3, z4⟩
  · intro k hk hst
    obtain ⟨p, z1, z2, z3⟩ := hU2 k hk hst
    exact ⟨p, z1, by rw [o _ _ (by decide)]; exact z2, z3⟩
/-- the reason for a request, whatever was given and taken before -/
theorem J.reason (H : J a m) (hi : i < nq m) (ht : t < 72) : ∃ x a2, F_X6_reasonAgainst [.ref 0, .ref (47 + i), .int (nI t)] a = rtn (some (.int x)) a2 ∧ F_X7_reason [.ref 227, .int (nI i), .int (nI t)] m = rtn (some (.int x)) m ∧ Fr T10 a a2 ∧ rdL a2 = rdL a ∧ J a2 m := by
  have H0 := H
  obtain ⟨⟨C1, C2, C3⟩, S, Q, A, V, hVA, hVS, hVQ, hU1, hU2⟩ := H
  obtain ⟨v1, v2, v3, v4, v5, v6, v7, v8, v9⟩ := hVQ i hi
  have h60 := V.q.1
  obtain ⟨x, a2, r1, r2, r3, r4⟩ := reason_s (t := t) ⟨C2, V.s.1⟩ S A V hVA (show i < 60 by omega) (fun f hf => Q i (by omega) f (by omega) (by omega)) ⟨v1, v4, v5⟩ ht
  exact ⟨x, a2, r1, r2, r3, r4, H0.t10 r3⟩
/-- an offer that does not fit any more -/
theorem acc_J (H : J a m) (hi : i < nq m) (hs : rd m 254 i = 2) : J (wr (wr a (47 + i) 9 3) (47 + i) 12 (-1)) (wr (wr m 254 i 3) 257 i (-1)) := by
  obtain ⟨⟨C1, C2, C3⟩, S, Q, A, V, hVA, hVS, hVQ, hU1, hU2⟩ := H
  have h60 := V.q.1
  have oa : ∀ p k, ¬ (p = 47 + i ∧ (k = 9 ∨ k = 12)) → rd (wr (wr a (47 + i) 9 3) (47 + i) 12 (-1)) p k = rd a p k := fun p k hp => by
    rw [rd_wrx, if_neg (by omega), rd_wrx, if_neg (by omega)]
  have om : ∀ p k, ¬ ((p = 254 ∨ p = 257) ∧ k = i) → rd (wr (wr m 254 i 3) 257 i (-1)) p k = rd m p k := fun p k hp => by
    rw [rd_wrx, if_neg (by omega), rd_wrx, if_neg (by omega)]
  have o254 : ∀ k, rd (wr (wr m 254 i 3) 257 i (-1)) 254 k = if k = i then 3 else rd m 254 k := fun k => by
    rw [rd_ne (by decide), rd_wrx]
    by_cases c : k = i
    · rw [if_pos ⟨rfl, c⟩, if_pos c]
    · rw [if_neg (fun z => c z.2), if_neg c]
  have f1 : (fun k => !decide (rd (wr (wr m 254 i 3) 257 i (-1)) 254 k = 1)) = fun k => !decide (rd m 254 k = 1) := funext fun k => by
    rw [o254]
    by_cases c : k = i
    · rw [if_pos c, c, hs]
      rfl
    · rw [if_neg c]
  have f2 : (fun k => decide (rd (wr (wr m 254 i 3) 257 i (-1)) 254 k = 0)) = fun k => decide (rd m 254 k = 0) := funext fun k => by
    rw [o254]
    by_cases c : k = i
    · rw [if_pos c, c, hs]
      rfl
    · rw [if_neg c]
  generalize hm : wr (wr m 254 i 3) 257 i (-1) = m' at *
  generalize hA : wr (wr a (47 + i) 9 3) (47 + i) 12 (-1) = a' at *
  have nq' : nq m' = nq m := by unfold nq; rw [om _ _ (by omega)]
  have ns' : ns m' = ns m := by unfold ns; rw [om _ _ (by omega)]
  have nr' : nr m' = nr m := by unfold nr; rw [om _ _ (by omega)]
  have np' : np m' = np m := by unfold np; rw [om _ _ (by omega)]
  refine ⟨⟨?_, ?_, ?_⟩, ?_, ?_, ?_, ?_, ?_, ?_, ?_, ?_, ?_⟩
  · rw [nq', oa _ _ (by omega)]; exact C1
  · rw [ns', oa _ _ (by omega)]; exact C2
  · rw [np', oa _ _ (by omega)]; exact C3
  · intro j hj f hf
    have q := sa_in f hf
    rw [oa _ _ (by omega), om _ _ (by omega)]
    exact S j hj f hf
  · intro j hj f hf f10
    have q := qa_in f hf
    by_cases c : j = i ∧ (f = 9 ∨ f = 12)
    · obtain ⟨rfl, c⟩ := c
      rcases c with rfl | rfl
      · show _ = rd m' 254 j
        rw [o254, if_pos rfl, ← hA, rd_nk (by decide), rd_eqw]
      · show _ = rd m' 257 j
        rw [← hm, rd_eqw, ← hA, rd_eqw]
    · rw [oa _ _ (by omega), om _ _ ?_]
      · exact Q j hj f hf f10
      · rintro ⟨z, rfl⟩
        refine c ⟨rfl, ?_⟩
        rcases z with z | z
        · exact Or.inl (qa_inj f hf 9 (by decide) z)
        · exact Or.inr (qa_inj f hf 12 (by decide) z)
  · exact A.F2 (fun p k h1 h2 => oa _ _ (by omega)) (fun p k h1 h2 => om _ _ (by omega))
  · unfold VN
    rw [f1, f2, nq', ns', np', nr', om _ _ (by omega), om _ _ (by omega), om _ _ (by omega), om _ _ (by omega), om _ _ (by omega)]
    exact V
  · intro b hb
    obtain ⟨m9, hm9, f1, f2⟩ := hVA b hb
    refine ⟨m9, hm9, ?_, fun r hr => ?_⟩
    · rw [om _ _ (by omega)]
      exact f1
    · rw [om _ _ (by omega), om _ _ (by omega), om _ _ (by omega)]
      exact f2 r hr
  · intro k hk
    rw [ns'] at hk
    rw [om _ _ (by omega), om _ _ (by omega), om _ _ (by omega), om _ _ (by omega), om _ _ (by omega), om _ _ (by omega)]
    exact hVS k hk
  · intro k hk
    rw [nq'] at hk
    obtain ⟨z1, z2, z3, z4, z5, z6, z7, z8, z9⟩ := hVQ k hk
    rw [om _ _ (by omega), om _ _ (by omega), om _ _ (by omega), om _ _ (by omega), om _ _ (by omega), om _ _ (by omega), om 256 _ (by omega), o254]
    by_cases c : k = i
    · rw [if_pos c]
      exact ⟨z1, z2, z3, z4, z5, z6, by decide, fun q => absurd q (by decide), fun q => absurd q (by decide)⟩
    · rw [if_neg c, om 257 _ (by omega)]
      exact ⟨z1, z2, z3, z4, z5, z6, z7, z8, z9⟩
  · intro p hp
    rw [np'] at hp
    obtain ⟨k, z1, z2, z3, z4⟩ := hU1 p hp
    refine ⟨k, by rw [nq']; exact z1, by rw [oa _ _ (by omega)]; exact z2, by rw [om _ _ (by omega)]; exact z3, ?_⟩
    rw [o254]
    by_cases c : k = i
    · rw [if_pos c]
      decide
    · rw [if_neg c]
      exact z4
  · intro k hk hst
    rw [nq'] at hk
    have hst' : rd m 254 k = 2 ∨ rd m 254 k = 3 := by
      rw [o254] at hst
      by_cases c : k = i
      · exact Or.inl (by rw [c]; exact hs)
      · rw [if_neg c] at hst
        exact hst
    obtain ⟨p, z1, z2, z3⟩ := hU2 k hk hst'
    exact ⟨p, by rw [np']; exact z1, by rw [oa _ _ (by omega)]; exact z2, by rw [om _ _ (by omega)]; exact z3⟩
theorem LKs.of (H : Inv h) (e : nq g = nq h) (z : ∀ k, k < nq h → (rd g 254 k = 0 ↔ rd h 254 k = 0)) (o : ∀ k, rd g 258 k = rd h 258 k) : LKs g := by
  intro i hi
  rw [e] at hi
  obtain ⟨-, -, -, -, -, -, -, -, v9, -⟩ := H.2.2.2.2.2.2.2.2.2.2.1 i hi
  rw [o]
  rcases v9 with w | ⟨j, w1, w2, w3, w4, w5⟩
  · exact Or.inl w
  · exact Or.inr ⟨j, by rw [e]; exact w1, w2, w3, by rw [o]; exact w4, by rw [z i hi, z j w1]; exact w5⟩
/-- what is left when the two have run: the class to a, the reference then to g -/
theorem finJ {o : Int64} (H : Inv h) (Fa : Fr PJc h a) (Fg : Fr PJm (hq a o 0) g) (Jg : J a g) (t1 : ∀ i, i < 60 → rd a (47 + i) 10 = rd h (47 + i) 10) (t2 : ∀ i, rd g 255 i = rd h 255 i) (z : ∀ k, k < nq h → (rd g 254 k = 0 ↔ rd h 254 k = 0)) : Inv g ∧ Scr h (wrL a 0 o) ∧ Scr h g := by
  have hc : ∀ p k, p < 227 → rd g p k = rd a p k := fun p k hp => by
    rw [Fg p k (by unfold PJm; omega), hq_rd (by omega)]
  have Fm : ∀ p k, 227 ≤ p → ¬ PJm p k → rd g p k = rd h p k := fun p k h1 h2 => by
    rw [Fg p k h2]
    unfold hq
    rw [rd_wrx, if_neg (fun z => h2 (Or.inl ⟨z.1, Or.inl z.2⟩)), rd_wrLx, Fa p k (by unfold PJc; omega)]
  have nq' : nq g = nq h := by unfold nq; rw [Fm 227 20 (by decide) (by unfold PJm; omega)]
  refine ⟨H.ofJ Fa hc Fm Jg (fun i h60 hi hs => ?_) (LKs.of H nq' z (fun k => Fm 258 k (by decide) (by unfold PJm; omega))), ?_, ?_⟩
  · rw [nq'] at hi
    rw [t1 i h60, t2]
    exact H.2.2.2.2.2.2.1 i h60 hi (fun q => hs ((z i hi).mpr q))
  · exact ⟨fun j => by rw [rd_wrLx]; exact Fa 1000 j (by unfold PJc; omega), by rw [rd_wrLx]; exact Fa 1001 0 (by unfold PJc; omega)⟩
  · exact ⟨fun j => Fm 1000 j (by decide) (by unfold PJm; omega), Fm 1001 0 (by decide) (by unfold PJm; omega)⟩
theorem hq_F {o : Int64} {w : Int32} (Fa : Fr PJc h a) : Fr PCl h (hq a o w) := fun p k hp => by
  unfold hq
  rw [rd_wrx, if_neg (fun z => hp (Or.inr z)), rd_wrLx, Fa p k (fun z => hp (Or.inl (by unfold PJc at z; omega)))]
theorem t10_F {a2 : Hp} (Fa : Fr PJc h a) (F : Fr T10 a a2) : Fr PJc h a2 := fun p k hp => by
  rw [F p k (fun z => hp (by unfold T10 at z; unfold PJc; omega)), Fa p k hp]
end JI
