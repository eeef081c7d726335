/-! the conference: sorting all that are asked -/
def POc (p k : Nat) : Prop := (7 ≤ p ∧ p ≤ 10) ∨ (47 ≤ p ∧ p < 107 ∧ k = 10)
def PSm (p k : Nat) : Prop := p < 227 ∨ p = 255 ∨ p = 274 ∨ (p = 227 ∧ (k = 0 ∨ k = 52))
def P255 (p _k : Nat) : Prop := p = 255
section SORTALL
variable {h g : Hp} {i j k n : Nat}
theorem srt_F {P : Nat → Nat → Prop} (F : Fr P h g) (h1 : ∀ p k, 235 ≤ p → p ≤ 272 → p ≠ 255 → ¬ P p k) (h2 : ¬ P 227 37 ∧ ¬ P 227 10) : srt g i = srt h i := by
  have o : ∀ p k, 235 ≤ p → p ≤ 272 → p ≠ 255 → rd g p k = rd h p k := fun p k a b c => F p k (h1 p k a b c)
  have e1 : ∀ x y, nwB x y g = nwB x y h := fun x y => by
    unfold nwB
    rw [ns_F F h2.1, nr_F F h2.2]
    have f1 : shF x y g = shF x y h := funext fun k => by
      unfold shF
      rw [o 272 _ (by decide) (by decide) (by decide), o 262 _ (by decide) (by decide) (by decide), o 260 _ (by decide) (by decide) (by decide), o 235 _ (by decide) (by decide) (by decide)]
    have f2 : rhF x y g = rhF x y h := funext fun k => by
      unfold rhF
      rw [o 237 _ (by decide) (by decide) (by decide), o 236 _ (by decide) (by decide) (by decide), o 235 _ (by decide) (by decide) (by decide)]
    rw [f1, f2]
  unfold srt
  rw [e1, o 253 _ (by decide) (by decide) (by decide), o 245 _ (by decide) (by decide) (by decide), o 235 _ (by decide) (by decide) (by decide), o 246 _ (by decide) (by decide) (by decide), o 249 _ (by decide) (by decide) (by decide), o 240 _ (by decide) (by decide) (by decide), o 250 _ (by decide) (by decide) (by decide), o 241 _ (by decide) (by decide) (by decide), o 251 _ (by decide) (by decide) (by decide), o 242 _ (by decide) (by decide) (by decide), o 252 _ (by decide) (by decide) (by decide), o 243 _ (by decide) (by decide) (by decide)]
/-- a request's row 10 behind the sorting -/
def so10 (h : Hp) (j : Nat) : Int32 := if rd h 254 j = 0 then srt h j else rd h 255 j
theorem sortAll_l (H : Inv h) : ∀ (n k : Nat) (a : Hp), k + n = nq h → Fr POc h a → (∀ j, j < k → rd a (47 + j) 10 = so10 h j) → (∀ j, k ≤ j → j < 60 → rd a (47 + j) 10 = rd h (47 + j) 10) → ∃ a', f_X6_sortAllAsked_2 (nI k) a = rtn none a' ∧ Fr POc h a' ∧ (∀ j, j < nq h → rd a' (47 + j) 10 = so10 h j) ∧ rdL a' = rdL a
  | 0, k, a, e, F, h1, h2 => by
    have N := H.1
    have V := H.2.2.2.2.2.2.2.1
    have h60 := V.q.1
    refine ⟨a, ?_, F, fun j hj => h1 j (by omega), rfl⟩
    rw [e_X6_sortAllAsked_2, F 0 10 (by unfold POc; omega), N.1, V.q.2, if_neg (nI_nlt (by omega) (by omega))]
  | n + 1, k, a, e, F, h1, h2 => by
    obtain ⟨N, S, QQ, RR, A, G, T, V, hVA, hVS, hVQ, hVR, hQU⟩ := id H
    have h60 := V.q.1
    have Na : EqN a := N.F F (by unfold POc; intros; omega) (by unfold POc; intros; omega)
    have Va : VN a := V.F F (by unfold POc; intros; omega) (by unfold POc; intros; omega)
    have Sa : EqS a := S.F F (by unfold POc; intros; omega) (by unfold POc; intros; omega)
    have Qa : EqQ a := fun i hi f hf f10 => by
      have q := qa_in f hf
      rw [F _ _ (by unfold POc; omega), F _ _ (by unfold POc; omega)]
      exact QQ i hi f hf f10
    have Ra : EqR a := RR.F F (by unfold POc; intros; omega) (by unfold POc; intros; omega)
    have Ga : EqG a := G.F F (by unfold POc; intros; omega) (by unfold POc; intros; omega)
    have VSa : VS a := hVS.F F (by unfold POc; intros; omega) (by unfold POc; omega)
    have VQa : VQ a := hVQ.F F (by unfold POc; intros; omega) (by unfold POc; omega)
    have VRa : VR a := hVR.F F (by unfold POc; intros; omega) (by unfold POc; omega)
    have nqa : nq a = nq h := nq_F F (by unfold POc; omega)
    obtain ⟨g0, g1, g2, g3, g4, g5, g6, g7, g8, g9, g11, g12, g13⟩ := Qa.g (k := k) (by omega)
    have e254 : rd a 254 k = rd h 254 k := F _ _ (by unfold POc; omega)
    have es : srt a k = srt h k := srt_F F (by unfold POc; intros; omega) (by unfold POc; omega)
    rw [e_X6_sortAllAsked_2, Na.1, Va.q.2, if_pos (nI_lt (by omega) (by omega)), requestAt_s Na Va (by omega), bR_r, (okc_rq k (by omega)).1]
    simp only [gd_t, e_X6_sortAllAsked_32, nI_1]
    rw [g9, e254]
    by_cases c : rd h 254 k = 0
    · rw [if_pos c, sortNow_s Na Sa Qa Ra Ga Va VSa VQa VRa (by omega), bI_r, es]
      obtain ⟨a', r1, r2, r3, r4⟩ := sortAll_l H n (k + 1) (wr a (47 + k) 10 (srt h k)) (by omega) (F.w (by unfold POc; omega)) (fun j hj => by
        by_cases cj : j = k
        · subst cj
          rw [rd_eqw]
          unfold so10
          rw [if_pos c]
        · rw [rd_ne (by omega)]
          exact h1 j (by omega)) (fun j hj hj2 => by
        rw [rd_ne (by omega)]
        exact h2 j (by omega) hj2)
      exact ⟨a', r1, r2, r3, by rw [r4]; rfl⟩
    · rw [if_neg c]
      exact sortAll_l H n (k + 1) a (by omega) F (fun j hj => by
        by_cases cj : j = k
        · subst cj
          rw [h2 j (Nat.le_refl _) (by omega), T j (by omega) (by omega) c]
          unfold so10
          rw [if_neg c]
        · exact h1 j (by omega)) (fun j hj hj2 => h2 j (by omega) hj2)
theorem sorts_l (H : Inv h) : ∀ (n k : Nat) (m : Hp), k + n = nq h → Fr PSm h m → (∀ j, j < k → rd m 255 j = so10 h j) → (∀ j, k ≤ j → rd m 255 j = rd h 255 j) → ∃ m', f_X7_sorts_2 (nI k) m = f_X7_sorts_52 0 (wr m' 227 52 0) ∧ Fr PSm h m' ∧ Fr P255 m m' ∧ (∀ j, j < nq h → rd m' 255 j = so10 h j) ∧ rdL m' = rdL m
  | 0, k, m, e, F, h1, h2 => by
    have V := H.2.2.2.2.2.2.2.1
    have h60 := V.q.1
    refine ⟨m, ?_, F, Fr.refl, fun j hj => h1 j (by omega), rfl⟩
    rw [e_X7_sorts_2, F 227 20 (by unfold PSm; omega), V.q.2, if_neg (nI_nlt (by omega) (by omega))]
  | n + 1, k, m, e, F, h1, h2 => by
    obtain ⟨N, S, QQ, RR, A, G, T, V, hVA, hVS, hVQ, hVR, hQU⟩ := id H
    have h60 := V.q.1
    have Vm : VN m := V.F F (by unfold PSm; intros; omega) (by unfold PSm; intros; omega)
    have VSm : VS m := hVS.F F (by unfold PSm; intros; omega) (by unfold PSm; omega)
    have VRm : VR m := hVR.F F (by unfold PSm; intros; omega) (by unfold PSm; omega)
    have nqm : nq m = nq h := nq_F F (by unfold PSm; omega)
    have nrm : nr m = nr h := nr_F F (by unfold PSm; omega)
    have o : ∀ p k, 228 ≤ p → p ≠ 255 → p ≠ 274 → rd m p k = rd h p k := fun p k a b c => F p k (by unfold PSm; omega)
    have VQm' : VQ m := fun i hi => by
      rw [nqm] at hi
      rw [nqm, nrm]
      have e : ∀ b j, 245 ≤ b → b ≤ 258 → b ≠ 255 → rd m b j = rd h b j := fun b j q1 q2 q3 => o b j (by omega) q3 (by omega)
      simp only [e 246 _ (by decide) (by decide) (by decide), e 248 _ (by decide) (by decide) (by decide), e 249 _ (by decide) (by decide) (by decide), e 250 _ (by decide) (by decide) (by decide), e 251 _ (by decide) (by decide) (by decide), e 245 _ (by decide) (by decide) (by decide), e 253 _ (by decide) (by decide) (by decide), e 254 _ (by decide) (by decide) (by decide), e 258 _ (by decide) (by decide) (by decide), e 257 _ (by decide) (by decide) (by decide), e 256 _ (by decide) (by decide) (by decide)]
      exact hVQ i hi
    have es : srt m k = srt h k := srt_F F (by unfold PSm; intros; omega) (by unfold PSm; omega)
    have e254 : rd m 254 k = rd h 254 k := o _ _ (by decide) (by decide) (by decide)
    have ik : inb (nI k) 60 = true := inb_nI (by omega) (by decide)
    have ck : (nI k).toNatClampNeg = k := nI_clamp (by omega)
    have st : f_X7_sorts_2 (nI k) m = f_X7_sorts_2 (nI (k + 1)) (wr m 255 k (so10 h k)) := by
      rw [e_X7_sorts_2, F 227 20 (by unfold PSm; omega), V.q.2, if_pos (nI_lt (by omega) (by omega)), ik, gd_t, ck, e254]
      unfold so10
      by_cases c : rd h 254 k = 0
      · rw [if_pos c, if_pos c, sortOf_s Vm VSm VQm' VRm (by omega), bI_r, es, e_X7_sorts_38, ik, gd_t, ck, nI_1]
      · rw [if_neg c, if_neg c, gd_t, e_X7_sorts_38, ik, gd_t, ck, nI_1, h2 k (Nat.le_refl _)]
    obtain ⟨m', r1, r2, r3, r4, r5⟩ := sorts_l H n (k + 1) (wr m 255 k (so10 h k)) (by omega) (F.w (by unfold PSm; omega)) (fun j hj => by
      by_cases cj : j = k
      · subst cj
        rw [rd_eqw]
      · rw [rd_nk cj]
        exact h1 j (by omega)) (fun j hj => by
      rw [rd_nk (by omega)]
      exact h2 j (by omega))
    refine ⟨m', st.trans r1, r2, fun p q hp => ?_, r4, by rw [r5]; rfl⟩
    rw [r3 p q hp, rd_ne hp]
end SORTALL
