section JP
variable {a m : Hp} {x s v : Int32} {i j k t n p : Nat}
theorem AX.F2 {a' m' : Hp} (A : AX a m) (ha : ∀ p k, 11 ≤ p → p < 47 → rd a' p k = rd a p k) (hm : ∀ p k, 228 ≤ p → p ≤ 234 → rd m' p k = rd m p k) : AX a' m' := by
  intro b hb
  obtain ⟨q1, q2, q3, q4, q6⟩ := A b hb
  refine ⟨?_, ?_, ?_, ?_, fun r hr => ⟨?_, ?_, ?_⟩⟩ <;> rw [ha _ _ (by omega) (by omega), hm _ _ (by omega) (by omega)]
  · exact q1
  · exact q2
  · exact q3
  · exact q4
  · exact (q6 r hr).1
  · exact (q6 r hr).2.1
  · exact (q6 r hr).2.2
theorem gvc_F : Fr PJc a (gvc a n i x) ∨ ¬ (n < 60 ∧ i < 60) := by
  by_cases c : n < 60 ∧ i < 60
  · left
    intro p k hp
    exact gvc_o (fun z => hp (by unfold PJc; omega)) (fun z => hp (by unfold PJc; omega)) (fun z => hp (by unfold PJc; omega))
  · exact Or.inr c
theorem gvm_F : Fr PJm m (gvm m n i x) := fun p k hp => gvm_o (fun z => hp (by unfold PJm; omega)) (fun z => hp (by unfold PJm; omega)) (fun z => hp (by unfold PJm; omega))
theorem VN.ns60 (V : VN m) (hi : i < nq m) (hs : rd m 254 i ≠ 1) : ns m < 60 := by
  have q := V.2.2.2.1
  have q2 := V.2.1
  rw [cnt_X (i := i) (nq m) hi (by simpa using hs)] at q
  omega
theorem give_J (H : J a m) (hi : i < nq m) (hs : rd m 254 i ≠ 1) (hx : irg x 0 71 = true) :
    F_X6_give [.ref 0, .int (nI i), .int x] a = rtn none (gvc a (ns m) i x) ∧ F_X7_gives [.ref 227, .int (nI i), .int x] m = rtn none (gvm m (ns m) i x) ∧ J (gvc a (ns m) i x) (gvm m (ns m) i x) ∧ ns (gvm m (ns m) i x) = ns m + 1 ∧ nq (gvm m (ns m) i x) = nq m ∧ np (gvm m (ns m) i x) = np m := by
  obtain ⟨⟨C1, C2, C3⟩, S, Q, A, V, hVA, hVS, hVQ, hU1, hU2⟩ := H
  have h60 := V.q.1
  have hn := V.ns60 hi hs
  generalize hN : ns m = N at *
  have e37 : rd m 227 37 = nI N := hN ▸ V.s.2
  have hv := hVQ i hi
  have o254 : ∀ k, rd (gvm m N i x) 254 k = if k = i then 1 else rd m 254 k := fun k => by
    by_cases c : k = i
    · subst c
      rw [if_pos rfl]
      simp [gvm, rd_wrx]
    · rw [if_neg c]
      exact gvm_o (by omega) (by omega) (by omega)
  have nq' : nq (gvm m N i x) = nq m := by unfold nq; rw [gvm_o (by omega) (by omega) (by omega)]
  have np' : np (gvm m N i x) = np m := by unfold np; rw [gvm_o (by omega) (by omega) (by omega)]
  have nr' : nr (gvm m N i x) = nr m := by unfold nr; rw [gvm_o (by omega) (by omega) (by omega)]
  have ns' : ns (gvm m N i x) = N + 1 := by unfold ns; rw [gvm_37, nI_clamp (by omega)]
  have eq37 : rd (gvm m N i x) 227 37 = nI (N + 1) := gvm_37
  refine ⟨give_c C1 h60 hi C2 hn, give_m e37 hn (by omega), ⟨⟨?_, ?_, ?_⟩, gv_S S Q (by omega) hn, gv_Q Q (by omega) hn, ?_, ?_, ?_, ?_, ?_, ?_, ?_⟩, ns', nq', np'⟩
  · rw [nq', gvc_o (by omega) (by omega) (by omega)]
    exact C1
  · rw [ns', gvc_11]
  · rw [np', gvc_o (by omega) (by omega) (by omega)]
    exact C3
  · exact A.F2 (fun p k h1 h2 => gvc_o (by omega) (by omega) (by omega)) (fun p k h1 h2 => gvm_o (by omega) (by omega) (by omega))
  · obtain ⟨w1, w2, w3, w4, w5, w6, w7, w8, w9⟩ := V
    unfold VN
    rw [nq', ns', np', nr', eq37, gvm_o (by omega) (by omega) (by omega), gvm_o (by omega) (by omega) (by omega), gvm_o (by omega) (by omega) (by omega), gvm_o (by omega) (by omega) (by omega)]
    rw [hN] at w4
    refine ⟨w1, w2, rfl, ?_, w5, w6, w7, ?_, w9⟩
    · rw [cnt_X (i := i) (nq m) hi (by simpa using hs)] at w4
      rw [cnt_X0 (i := i) (nq m) (by rw [o254, if_pos rfl]; rfl), cnt_XX (i := i) (g := fun i => !decide (rd m 254 i = 1)) (nq m) (fun k hk => by rw [o254, if_neg hk])]
      omega
    · rw [cnt_X0 (i := i) (nq m) (by rw [o254, if_pos rfl]; rfl), cnt_XX (i := i) (g := fun i => decide (rd m 254 i = 0)) (nq m) (fun k hk => by rw [o254, if_neg hk])]
      by_cases c : rd m 254 i = 0
      · rw [cnt_X (i := i) (nq m) hi (by simpa using c)] at w8
        omega
      · rw [cnt_X0 (i := i) (nq m) (by simpa using c)] at w8
        exact w8
  · exact hVA.F gvm_F (by unfold PJm; omega)
  · intro k hk
    rw [ns'] at hk
    by_cases c : k = N
    · subst c
      rw [show rd (gvm m k i x) 262 k = rd m 246 i by simp [gvm, rd_wrx], show rd (gvm m k i x) 264 k = rd m 248 i by simp [gvm, rd_wrx], show rd (gvm m k i x) 265 k = x by simp [gvm, rd_wrx], show rd (gvm m k i x) 266 k = rd m 250 i by simp [gvm, rd_wrx], show rd (gvm m k i x) 267 k = rd m 251 i by simp [gvm, rd_wrx], show rd (gvm m k i x) 260 k = rd m 245 i by simp [gvm, rd_wrx]]
      obtain ⟨z1, z2, z3, z4, z5, z6, -⟩ := hv
      exact ⟨z1, z2, hx, z4, z5, z6⟩
    · rw [gvm_o (by omega) (by omega) (by omega), gvm_o (by omega) (by omega) (by omega), gvm_o (by omega) (by omega) (by omega), gvm_o (by omega) (by omega) (by omega), gvm_o (by omega) (by omega) (by omega), gvm_o (by omega) (by omega) (by omega)]
      exact hVS k (by omega)
  · intro k hk
    rw [nq'] at hk
    obtain ⟨z1, z2, z3, z4, z5, z6, z7, z8, z9⟩ := hVQ k hk
    rw [gvm_o (by omega) (by omega) (by omega), gvm_o (by omega) (by omega) (by omega), gvm_o (by omega) (by omega) (by omega), gvm_o (by omega) (by omega) (by omega), gvm_o (by omega) (by omega) (by omega), gvm_o (by omega) (by omega) (by omega), o254]
    by_cases c : k = i
    · rw [if_pos c]
      exact ⟨z1, z2, z3, z4, z5, z6, by decide, fun q => absurd q (by decide), fun q => absurd q (by decide)⟩
    · rw [if_neg c, gvm_o (by omega) (by omega) (by omega), gvm_o (by omega) (by omega) (by omega)]
      exact ⟨z1, z2, z3, z4, z5, z6, z7, z8, z9⟩
  · intro p hp
    rw [np'] at hp
    obtain ⟨k, z1, z2, z3, z4⟩ := hU1 p hp
    refine ⟨k, by rw [nq']; exact z1, ?_, ?_, ?_⟩
    · rw [gvc_o (by omega) (by omega) (by omega)]
      exact z2
    · rw [gvm_o (by omega) (by omega) (by omega)]
      exact z3
    · rw [o254]
      by_cases c : k = i
      · rw [if_pos c]
        decide
      · rw [if_neg c]
        exact z4
  · intro k hk hst
    rw [nq'] at hk
    rw [o254] at hst
    by_cases c : k = i
    · rw [if_pos c] at hst
      rcases hst with z | z <;> exact absurd z (by decide)
    · rw [if_neg c] at hst
      obtain ⟨p, z1, z2, z3⟩ := hU2 k hk hst
      refine ⟨p, by rw [np']; exact z1, ?_, ?_⟩
      · rw [gvc_o (by omega) (by omega) (by omega)]
        exact z2
      · rw [gvm_o (by omega) (by omega) (by omega)]
        exact z3
/-- a request begins to wait -/
def wtc (a : Hp) (i : Nat) (s v : Int32) (p : Nat) : Hp := wr (wr (wr (wr a (47 + i) 12 v) (47 + i) 9 s) 6 p (nI i)) 0 13 (nI (p + 1))
def wtm (m : Hp) (i : Nat) (s v : Int32) (p : Nat) : Hp := wr (wr (wr (wr m 257 i v) 254 i s) 259 i (nI p)) 227 36 (nI (p + 1))
theorem wtc_o (h1 : ¬ (p = 47 + i ∧ (k = 9 ∨ k = 12))) (h2 : ¬ (p = 6 ∧ k = n)) (h3 : ¬ (p = 0 ∧ k = 13)) : rd (wtc a i s v n) p k = rd a p k := by
  unfold wtc
  simp only [rd_wrx]
  repeat rw [if_neg (by omega)]
theorem wtm_o (h1 : ¬ ((p = 254 ∨ p = 257 ∨ p = 259) ∧ k = i)) (h2 : ¬ (p = 227 ∧ k = 36)) : rd (wtm m i s v n) p k = rd m p k := by
  unfold wtm
  simp only [rd_wrx]
  repeat rw [if_neg (by omega)]
theorem putq (e : rd a 0 13 = nI p) (hp : p < 60) : F_X6_putInQueue [.ref 0, .int x] a = rtn none (wr (wr a 6 p x) 0 13 (nI (p + 1))) := by
  rw [e_X6_putInQueue_0, e, if_pos (show nI p < 60 from nI_lt (a := p) (b := 60) hp (by decide)), inb_nI hp (by decide), gd_t, nI_clamp (by omega), nI_1]
theorem waits_s (e : rd m 227 36 = nI p) (hi : i < 60) : F_X7_waits [.ref 227, .int (nI i), .int s] m = rtn none (wr (wr (wr m 254 i s) 259 i (nI p)) 227 36 (nI (p + 1))) := by
  rw [e_X7_waits_0, e, inb_nI hi (by decide), nI_clamp (by omega), nI_1]
  rfl
theorem wait_J (H : J a m) (hi : i < nq m) (hs : s = 2 ∨ s = 3) (hv : s = 2 → irg v 0 71 = true)
    (k1 : ns m + cnt (fun k => !decide (rd m 254 k = 1) && decide (k ≠ i)) (nq m) + 1 ≤ nq m) (k2 : np m + cnt (fun k => decide (rd m 254 k = 0) && decide (k ≠ i)) (nq m) + 1 ≤ nq m) (k3 : ∀ p, p < np m → rd a 6 p ≠ nI i) :
    J (wtc a i s v (np m)) (wtm m i s v (np m)) ∧ ns (wtm m i s v (np m)) = ns m ∧ nq (wtm m i s v (np m)) = nq m ∧ np (wtm m i s v (np m)) = np m + 1 := by
  obtain ⟨⟨C1, C2, C3⟩, S, Q, A, V, hVA, hVS, hVQ, hU1, hU2⟩ := H
  have h60 := V.q.1
  have hp60 : np m < 60 := by omega
  generalize hN : np m = N at *
  have o254 : ∀ k, rd (wtm m i s v N) 254 k = if k = i then s else rd m 254 k := fun k => by
    by_cases c : k = i
    · subst c
      rw [if_pos rfl]
      simp [wtm, rd_wrx]
    · rw [if_neg c]
      exact wtm_o (by omega) (by omega)
  have o257 : ∀ k, rd (wtm m i s v N) 257 k = if k = i then v else rd m 257 k := fun k => by
    by_cases c : k = i
    · subst c
      rw [if_pos rfl]
      simp [wtm, rd_wrx]
    · rw [if_neg c]
      exact wtm_o (by omega) (by omega)
  have o259 : ∀ k, rd (wtm m i s v N) 259 k = if k = i then nI N else rd m 259 k := fun k => by
    by_cases c : k = i
    · subst c
      rw [if_pos rfl]
      simp [wtm, rd_wrx]
    · rw [if_neg c]
      exact wtm_o (by omega) (by omega)
  have o6 : ∀ k, rd (wtc a i s v N) 6 k = if k = N then nI i else rd a 6 k := fun k => by
    by_cases c : k = N
    · subst c
      rw [if_pos rfl]
      simp [wtc, rd_wrx]
    · rw [if_neg c]
      exact wtc_o (by omega) (by omega) (by omega)
  have e36 : rd (wtm m i s v N) 227 36 = nI (N + 1) := by simp [wtm, rd_wrx]
  have nq' : nq (wtm m i s v N) = nq m := by unfold nq; rw [wtm_o (by omega) (by omega)]
  have ns' : ns (wtm m i s v N) = ns m := by unfold ns; rw [wtm_o (by omega) (by omega)]
  have nr' : nr (wtm m i s v N) = nr m := by unfold nr; rw [wtm_o (by omega) (by omega)]
  have np' : np (wtm m i s v N) = N + 1 := by unfold np; rw [e36, nI_clamp (by omega)]
  have s0 : s ≠ 0 := by rcases hs with rfl | rfl <;> decide
  have s1 : s ≠ 1 := by rcases hs with rfl | rfl <;> decide
  refine ⟨⟨⟨?_, ?_, ?_⟩, ?_, ?_, ?_, ?_, ?_, ?_, ?_, ?_, ?_⟩, ns', nq', np'⟩
  · rw [nq', wtc_o (by omega) (by omega) (by omega)]
    exact C1
  · rw [ns', wtc_o (by omega) (by omega) (by omega)]
    exact C2
  · rw [np']
    simp [wtc, rd_wrx]
  · intro j hj f hf
    have q := sa_in f hf
    rw [wtc_o (by omega) (by omega) (by omega), wtm_o (by omega) (by omega)]
    exact S j hj f hf
  · intro j hj f hf f10
    have q := qa_in f hf
    by_cases c : j = i ∧ (f = 9 ∨ f = 12)
    · obtain ⟨rfl, c⟩ := c
      rcases c with rfl | rfl
      · show _ = rd (wtm m j s v N) 254 j
        rw [o254, if_pos rfl]
        simp [wtc, rd_wrx]
        intro z
        omega
      · show _ = rd (wtm m j s v N) 257 j
        rw [o257, if_pos rfl]
        simp [wtc, rd_wrx]
        intro z
        omega
    · rw [wtc_o (by omega) (by omega) (by omega), wtm_o ?_ (by omega)]
      · exact Q j hj f hf f10
      · rintro ⟨z, rfl⟩
        refine c ⟨rfl, ?_⟩
        rcases z with z | z | z
        · exact Or.inl (qa_inj f hf 9 (by decide) z)
        · exact Or.inr (qa_inj f hf 12 (by decide) z)
        · omega
  · exact A.F2 (fun p k h1 h2 => wtc_o (by omega) (by omega) (by omega)) (fun p k h1 h2 => wtm_o (by omega) (by omega))
  · obtain ⟨w1, w2, w3, w4, w5, w6, w7, w8, w9⟩ := V
    unfold VN
    rw [nq', ns', np', nr', e36, wtm_o (by omega) (by omega), wtm_o (by omega) (by omega), wtm_o (by omega) (by omega), wtm_o (by omega) (by omega)]
    refine ⟨w1, w2, w3, ?_, w5, w6, rfl, ?_, w9⟩
    · rw [cnt_X (i := i) (nq m) hi (by rw [o254, if_pos rfl]; simpa using s1), cnt_XX (i := i) (g := fun i => !decide (rd m 254 i = 1)) (nq m) (fun k hk => by rw [o254, if_neg hk])]
      omega
    · rw [cnt_X0 (i := i) (nq m) (by rw [o254, if_pos rfl]; simpa using s0), cnt_XX (i := i) (g := fun i => decide (rd m 254 i = 0)) (nq m) (fun k hk => by rw [o254, if_neg hk])]
      omega
  · intro b hb
    obtain ⟨m9, hm9, f1, f2⟩ := hVA b hb
    refine ⟨m9, hm9, ?_, fun r hr => ?_⟩
    · rw [wtm_o (by omega) (by omega)]
      exact f1
    · rw [wtm_o (by omega) (by omega), wtm_o (by omega) (by omega), wtm_o (by omega) (by omega)]
      exact f2 r hr
  · intro k hk
    rw [ns'] at hk
    rw [wtm_o (by omega) (by omega), wtm_o (by omega) (by omega), wtm_o (by omega) (by omega), wtm_o (by omega) (by omega), wtm_o (by omega) (by omega), wtm_o (by omega) (by omega)]
    exact hVS k hk
  · intro k hk
    rw [nq'] at hk
    obtain ⟨z1, z2, z3, z4, z5, z6, z7, z8, z9⟩ := hVQ k hk
    rw [wtm_o (by omega) (by omega), wtm_o (by omega) (by omega), wtm_o (by omega) (by omega), wtm_o (by omega) (by omega), wtm_o (by omega) (by omega), wtm_o (by omega) (by omega), wtm_o (p := 256) (by omega) (by omega), o254, o257]
    by_cases c : k = i
    · rw [if_pos c, if_pos c]
      refine ⟨z1, z2, z3, z4, z5, z6, ?_, hv, fun q => absurd q s0⟩
      rcases hs with rfl | rfl <;> decide
    · rw [if_neg c, if_neg c]
      exact ⟨z1, z2, z3, z4, z5, z6, z7, z8, z9⟩
  · intro p hp
    rw [np'] at hp
    by_cases c : p = N
    · subst c
      refine ⟨i, by rw [nq']; exact hi, ?_, ?_, ?_⟩
      · rw [o6, if_pos rfl]
      · rw [o259, if_pos rfl]
      · rw [o254, if_pos rfl]
        exact s0
    · obtain ⟨k, z1, z2, z3, z4⟩ := hU1 p (by omega)
      have ki : k ≠ i := fun z => k3 p (by omega) (by rw [z2, z])
      refine ⟨k, by rw [nq']; exact z1, ?_, ?_, ?_⟩
      · rw [o6, if_neg c]
        exact z2
      · rw [o259, if_neg ki]
        exact z3
      · rw [o254, if_neg ki]
        exact z4
  · intro k hk hst
    rw [nq'] at hk
    by_cases c : k = i
    · subst c
      refine ⟨N, by rw [np']; omega, ?_, ?_⟩
      · rw [o6, if_pos rfl]
      · rw [o259, if_pos rfl]
    · rw [o254, if_neg c] at hst
      obtain ⟨p, z1, z2, z3⟩ := hU2 k hk hst
      refine ⟨p, by rw [np']; omega, ?_, ?_⟩
      · rw [o6, if_neg (by omega)]
        exact z2
      · rw [o259, if_neg c]
        exact z3
end JP
