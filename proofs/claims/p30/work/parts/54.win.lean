/-! why a request does not fit: a heap that has changed in its row of weeks alone, and the one ahead of it -/
def CN (a m : Hp) : Prop := rd a 0 11 = nI (ns m) ∧ ns m ≤ 60
def SX (a b : Hp) : Prop := ∀ i, i < 60 → ∀ f, f < 13 → rd a (107 + i) f = rd b (107 + i) f
def T10 (p _k : Nat) : Prop := p = 10
section WIN
variable {a m : Hp} {aq kd kq dq to s x x2 y len : Int32} {R Q k M f l i j : Nat}
theorem SX.g (S : SX a m) (hk : k < 60) : rd a (107 + k) 0 = rd m (107 + k) 0 ∧ rd a (107 + k) 1 = rd m (107 + k) 1 ∧ rd a (107 + k) 2 = rd m (107 + k) 2 ∧ rd a (107 + k) 3 = rd m (107 + k) 3 ∧ rd a (107 + k) 4 = rd m (107 + k) 4 ∧ rd a (107 + k) 5 = rd m (107 + k) 5 ∧ rd a (107 + k) 6 = rd m (107 + k) 6 ∧ rd a (107 + k) 7 = rd m (107 + k) 7 ∧ rd a (107 + k) 8 = rd m (107 + k) 8 ∧ rd a (107 + k) 9 = rd m (107 + k) 9 ∧ rd a (107 + k) 10 = rd m (107 + k) 10 ∧ rd a (107 + k) 11 = rd m (107 + k) 11 ∧ rd a (107 + k) 12 = rd m (107 + k) 12 :=
  ⟨S k hk 0 (by decide), S k hk 1 (by decide), S k hk 2 (by decide), S k hk 3 (by decide), S k hk 4 (by decide), S k hk 5 (by decide), S k hk 6 (by decide), S k hk 7 (by decide), S k hk 8 (by decide), S k hk 9 (by decide), S k hk 10 (by decide), S k hk 11 (by decide), S k hk 12 (by decide)⟩
theorem ser2 (C : CN a m) (hj : j < ns m) : F_X6_seriesAt [.ref 0, .int (nI j)] a = rtn (some (.ref (107 + j))) a := by
  have h60 := C.2
  rw [e_X6_seriesAt_0, C.1, if_neg (nI_pos (n := j) (by omega)), if_pos (nI_lt hj (by omega)), if_pos (show nI j < 60 from nI_lt (b := 60) (by omega) (by decide)), inb_nI (by omega) (by decide), gd_t, nI_clamp (by omega), skr4 j (by omega)]
theorem ldB_c : ldB aq kd dq x s to m k = (cB aq kd dq s to m k && irg x (rd m (107 + k) 4) (rd m (107 + k) 5)) := rfl
def Lw (aq kd dq s to : Int32) (m : Hp) (v j : Nat) : Nat := cnt (ldB aq kd dq (nI v) s to m) j
def cW (aq kd dq s to : Int32) (m : Hp) (f l v j : Nat) : Nat := if f ≤ v ∧ v ≤ l then Lw aq kd dq s to m v j else 0
theorem Lw_t {v : Nat} (e : ldB aq kd dq (nI v) s to m k = true) : Lw aq kd dq s to m v (k + 1) = Lw aq kd dq s to m v k + 1 := by
  unfold Lw
  show cnt _ k + _ = _
  rw [e]
theorem Lw_f {v : Nat} (e : ldB aq kd dq (nI v) s to m k = false) : Lw aq kd dq s to m v (k + 1) = Lw aq kd dq s to m v k := by
  unfold Lw
  show cnt _ k + _ = _
  rw [e]
  rfl
theorem cnt_mono {p : Nat → Bool} {j : Nat} : ∀ n, cnt p j ≤ cnt p (j + n)
  | 0 => Nat.le_refl _
  | n + 1 => Nat.le_trans (cnt_mono n) (Nat.le_add_right _ _)
theorem cW_f {v : Nat} (e : ldB aq kd dq (nI v) s to m k = false) : cW aq kd dq s to m f l v (k + 1) = cW aq kd dq s to m f l v k := by
  unfold cW
  rw [Lw_f e]
theorem irg_nn {w : Nat} (hw : w < 100) (hf : f < 100) (hl : l < 100) : irg (nI w) (nI f) (nI l) = (decide (f ≤ w) && decide (w ≤ l)) := by
  unfold irg
  have e1 : decide (nI w < nI f) = !decide (f ≤ w) := by
    by_cases c : f ≤ w
    · rw [decide_eq_true c, decide_eq_false (nI_nlt c (by omega))]
      rfl
    · rw [decide_eq_false c, decide_eq_true (nI_lt (by omega) (by omega))]
      rfl
  have e2 : decide (nI l < nI w) = !decide (w ≤ l) := by
    by_cases c : w ≤ l
    · rw [decide_eq_true c, decide_eq_false (nI_nlt c (by omega))]
      rfl
    · rw [decide_eq_false c, decide_eq_true (nI_lt (by omega) (by omega))]
      rfl
  rw [e1, e2, Bool.not_not, Bool.not_not]
theorem win104 (S : SX a m) (hk : k < 60) (hM : M ≤ 20) (hl : l < 20) (oR : okc R 3 = true) (r2 : rd a R 2 = nI M) (R10 : R ≠ 10) (oQ : okc Q 7 = true) (Q10 : Q ≠ 10) (q4 : rd a Q 4 = nI f) (q5 : rd a Q 5 = nI l) (hfl : f ≤ l) (hc : cB aq kd dq s to m k = true) (H3 : ∀ v, f ≤ v → v ≤ l → Lw aq kd dq s to m v k < M) :
    ∀ (n w : Nat) (a' : Hp), w + n = 20 → Fr T10 a a' → (∀ v, v < 20 → rd a' 10 v = nI (cW aq kd dq s to m f l v (if v < w then k + 1 else k))) → (∀ v, v < w → f ≤ v → v ≤ l → Lw aq kd dq s to m v (k + 1) < M) →
      (∃ a2, f_X6_isWindowFull_104 R x2 Q (nI k) (107 + k) 1 (nI w) a' = rtn (some (.int 1)) a2 ∧ Fr T10 a a2 ∧ rdL a2 = rdL a' ∧ ∃ v, f ≤ v ∧ v ≤ l ∧ M ≤ Lw aq kd dq s to m v (k + 1)) ∨
      (∃ a2, f_X6_isWindowFull_104 R x2 Q (nI k) (107 + k) 1 (nI w) a' = f_X6_isWindowFull_171 R x2 Q (nI k) a2 ∧ Fr T10 a a2 ∧ rdL a2 = rdL a' ∧ (∀ v, v < 20 → rd a2 10 v = nI (cW aq kd dq s to m f l v (k + 1))) ∧ ∀ v, v < 20 → f ≤ v → v ≤ l → Lw aq kd dq s to m v (k + 1) < M)
  | 0, w, a', e, F, H, H2 => by
    right
    refine ⟨a', ?_, F, rfl, fun v hv => ?_, fun v hv => H2 v (by omega)⟩
    · rw [e_X6_isWindowFull_104, if_neg one_ne, if_neg (show ¬ nI w < 20 from nI_nlt (a := w) (b := 20) (by omega) (by omega))]
    · have q := H v hv
      rw [if_pos (show v < w by omega)] at q
      exact q
  | n + 1, w, a', e, F, H, H2 => by
    have ih := win104 S hk hM hl oR r2 R10 oQ Q10 q4 q5 hfl hc H3 n (w + 1)
    obtain ⟨g0, g1, g2, g3, g4, g5, g6, g7, g8, g9, g10, g11, g12⟩ := S.g hk
    have es : ∀ q, rd a' (107 + k) q = rd a (107 + k) q := fun q => F _ _ (show ¬ (107 + k = 10) by omega)
    have iw : inb (nI w) 20 = true := inb_nI (by omega) (by decide)
    have cw : (nI w).toNatClampNeg = w := nI_clamp (by omega)
    have st : f_X6_isWindowFull_104 R x2 Q (nI k) (107 + k) 1 (nI w) a' = (if bi (irg (nI w) (rd m (107 + k) 4) (rd m (107 + k) 5)) = 0 then f_X6_isWindowFull_104 R x2 Q (nI k) (107 + k) 1 (nI (w + 1)) a' else if bi (irg (nI w) (nI f) (nI l)) = 0 then f_X6_isWindowFull_104 R x2 Q (nI k) (107 + k) 1 (nI (w + 1)) a' else if rd a' 10 w + 1 < nI M then f_X6_isWindowFull_104 R x2 Q (nI k) (107 + k) 1 (nI (w + 1)) (wr a' 10 w (rd a' 10 w + 1)) else rtn (some (.int 1)) (wr a' 10 w (rd a' 10 w + 1))) := by
      rw [e_X6_isWindowFull_104, if_neg one_ne, if_pos (show nI w < 20 from nI_lt (a := w) (b := 20) (by omega) (by decide)), (okc_sr k hk).1, gd_t, lastsIn_s (okc_sr k hk).2, bI_r, es, es, g4, g5, oQ, gd_t, lastsIn_s oQ, bI_r, F Q 4 Q10, F Q 5 Q10, q4, q5, iw, oR, cw]
      simp only [gd_t]
      rw [rd_eqw, rd_ne R10, F R 2 R10, r2]
      simp only [e_X6_isWindowFull_165, nI_1]
    rw [st]
    -- no slot in this week by this series: nothing changes
    have skip : cW aq kd dq s to m f l w (k + 1) = cW aq kd dq s to m f l w k → (f ≤ w → w ≤ l → Lw aq kd dq s to m w (k + 1) < M) → (∃ a2, f_X6_isWindowFull_104 R x2 Q (nI k) (107 + k) 1 (nI (w + 1)) a' = rtn (some (.int 1)) a2 ∧ Fr T10 a a2 ∧ rdL a2 = rdL a' ∧ ∃ v, f ≤ v ∧ v ≤ l ∧ M ≤ Lw aq kd dq s to m v (k + 1)) ∨
      (∃ a2, f_X6_isWindowFull_104 R x2 Q (nI k) (107 + k) 1 (nI (w + 1)) a' = f_X6_isWindowFull_171 R x2 Q (nI k) a2 ∧ Fr T10 a a2 ∧ rdL a2 = rdL a' ∧ (∀ v, v < 20 → rd a2 10 v = nI (cW aq kd dq s to m f l v (k + 1))) ∧ ∀ v, v < 20 → f ≤ v → v ≤ l → Lw aq kd dq s to m v (k + 1) < M) := by
      intro z1 z2
      refine ih a' (by omega) F (fun v hv => ?_) (fun v hv h1 h2 => ?_)
      · rw [H v hv]
        by_cases c : v = w
        · subst c
          rw [if_neg (by omega), if_pos (by omega), z1]
        · by_cases c2 : v < w
          · rw [if_pos c2, if_pos (by omega)]
          · rw [if_neg c2, if_neg (by omega)]
      · by_cases c : v = w
        · subst c
          exact z2 h1 h2
        · exact H2 v (by omega) h1 h2
    cases c1 : irg (nI w) (rd m (107 + k) 4) (rd m (107 + k) 5) with
    | false =>
      have e1 : ldB aq kd dq (nI w) s to m k = false := by rw [ldB_c, c1, Bool.and_false]
      rw [bi_f, if_pos rfl]
      exact skip (cW_f e1) (fun h1 h2 => by rw [Lw_f e1]; exact H3 w h1 h2)
    | true =>
      have e1 : ldB aq kd dq (nI w) s to m k = true := by rw [ldB_c, c1, hc]; rfl
      rw [bi_t, if_neg one_ne, irg_nn (by omega) (by omega) (by omega)]
      by_cases c2 : f ≤ w ∧ w ≤ l
      · rw [decide_eq_true c2.1, decide_eq_true c2.2]
        have e2 : rd a' 10 w + 1 = nI (Lw aq kd dq s to m w (k + 1)) := by
          rw [H w (by omega), if_neg (by omega), Lw_t e1, ← nI_1]
          unfold cW
          rw [if_pos c2]
        have hlt : Lw aq kd dq s to m w (k + 1) ≤ k + 1 := cnt_le _
        rw [e2, Bool.and_self, bi_t, if_neg one_ne]
        by_cases c3 : Lw aq kd dq s to m w (k + 1) < M
        · rw [if_pos (nI_lt c3 (by omega))]
          rcases ih (wr a' 10 w (nI (Lw aq kd dq s to m w (k + 1)))) (by omega) (F.w rfl) (fun v hv => by
            by_cases c : v = w
            · subst c
              rw [rd_eqw, if_pos (by omega)]
              unfold cW
              rw [if_pos c2]
            · rw [rd_nk c, H v hv]
              by_cases c4 : v < w
              · rw [if_pos c4, if_pos (by omega)]
              · rw [if_neg c4, if_neg (by omega)]) (fun v hv h1 h2 => by
            by_cases c : v = w
            · subst c
              exact c3
            · exact H2 v (by omega) h1 h2) with ⟨a2, t1, t2, t3, t4⟩ | ⟨a2, t1, t2, t3, t4⟩
          · exact Or.inl ⟨a2, t1, t2, t3, t4⟩
          · exact Or.inr ⟨a2, t1, t2, t3, t4⟩
        · rw [if_neg (nI_nlt (by omega) (by omega))]
          exact Or.inl ⟨_, rfl, F.w rfl, rfl, w, c2.1, c2.2, by omega⟩
      · have e3 : (decide (f ≤ w) && decide (w ≤ l)) = false := by
          rw [Bool.eq_false_iff]
          intro z
          rw [Bool.and_eq_true, decide_eq_true_eq, decide_eq_true_eq] at z
          exact c2 z
        rw [e3, bi_f, if_pos rfl]
        refine skip ?_ (fun h1 h2 => absurd ⟨h1, h2⟩ c2)
        unfold cW
        rw [if_neg c2, if_neg c2]
theorem cB_f (hc : cB aq kd dq s to m k = false) (v : Nat) : ldB aq kd dq (nI v) s to m k = false := by rw [ldB_c, hc, Bool.false_and]
theorem win40 (C : CN a m) (S : SX a m) (hM : M ≤ 20) (hl : l < 20) (oR : okc R 3 = true) (r0 : rd a R 0 = kd) (r1 : rd a R 1 = len) (r2 : rd a R 2 = nI M) (R10 : R ≠ 10) (oQ : okc Q 7 = true) (Q10 : Q ≠ 10) (q0 : rd a Q 0 = aq) (q2 : rd a Q 2 = dq) (q4 : rd a Q 4 = nI f) (q5 : rd a Q 5 = nI l) (hfl : f ≤ l) (ht : x2 + len - 1 = to) :
    ∀ (n k : Nat) (a' : Hp), k + n = ns m → Fr T10 a a' → (∀ v, v < 20 → rd a' 10 v = nI (cW aq kd dq x2 to m f l v k)) → (∀ v, f ≤ v → v ≤ l → Lw aq kd dq x2 to m v k < M) →
      ∃ b a2, f_X6_isWindowFull_40 R x2 Q (nI k) a' = rtn (some (.int (bi b))) a2 ∧ (b = true ↔ ∃ v, f ≤ v ∧ v ≤ l ∧ M ≤ Lw aq kd dq x2 to m v (ns m)) ∧ Fr T10 a a2 ∧ rdL a2 = rdL a'
  | 0, k, a', e, F, H, H2 => by
    have h60 := C.2
    refine ⟨false, a', ?_, ?_, F, rfl⟩
    · rw [e_X6_isWindowFull_40, F 0 11 (show ¬ ((0 : Nat) = 10) by decide), C.1, if_neg (nI_nlt (by omega) (by omega))]
      rfl
    · constructor
      · intro z
        cases z
      · rintro ⟨v, h1, h2, h3⟩
        have q := H2 v h1 h2
        rw [show k = ns m by omega] at q
        omega
  | n + 1, k, a', e, F, H, H2 => by
    have h60 := C.2
    have C' : CN a' m := ⟨by rw [F 0 11 (show ¬ ((0 : Nat) = 10) by decide)]; exact C.1, C.2⟩
    have ih := win40 C S hM hl oR r0 r1 r2 R10 oQ Q10 q0 q2 q4 q5 hfl ht n (k + 1)
    obtain ⟨g0, g1, g2, g3, g4, g5, g6, g7, g8, g9, g10, g11, g12⟩ := S.g (k := k) (by omega)
    have es : ∀ q, rd a' (107 + k) q = rd a (107 + k) q := fun q => F _ _ (show ¬ (107 + k = 10) by omega)
    have st : f_X6_isWindowFull_40 R x2 Q (nI k) a' = (if bi (cB aq kd dq x2 to m k) = 0 then f_X6_isWindowFull_104 R x2 Q (nI k) (107 + k) 0 0 a' else f_X6_isWindowFull_104 R x2 Q (nI k) (107 + k) 1 (nI 0) a') := by
      rw [e_X6_isWindowFull_40, C'.1, if_pos (nI_lt (by omega) (by omega)), ser2 C' (by omega), bR_r, oQ, oR, (okc_sr k (by omega)).1]
      simp only [gd_t]
      rw [F Q 0 Q10, F R 0 R10, F Q 2 Q10, q0, r0, q2, isOn_s (by omega), bI_r, F R 1 R10, r1, ht, isBetween_s (by omega), bI_r, es, es, es, es, es, g0, g1, g2, g3, g12]
      simp only [e_X6_isWindowFull_98, e_X6_isWindowFull_99]
      unfold cB
      generalize (decide (rd m (107 + k) 12 = 0) && decide (rd m (107 + k) 0 = aq) && decide (rd m (107 + k) 2 = dq) && (decide (kd = 2) || decide (rd m (107 + k) 1 = kd))) = b1
      generalize irg (rd m (107 + k) 3) x2 to = b2
      cases b1 <;> cases b2 <;> simp [bi, show nI 0 = 0 from rfl]
    rw [st]
    cases hc : cB aq kd dq x2 to m k with
    | false =>
      rw [bi_f, if_pos rfl, e_X6_isWindowFull_104, if_pos rfl, e_X6_isWindowFull_171, nI_1]
      refine ih a' (by omega) F (fun v hv => ?_) (fun v h1 h2 => ?_)
      · rw [H v hv, cW_f (cB_f hc v)]
      · rw [Lw_f (cB_f hc v)]
        exact H2 v h1 h2
    | true =>
      rw [bi_t, if_neg one_ne]
      rcases win104 (x2 := x2) S (k := k) (by omega) hM hl oR r2 R10 oQ Q10 q4 q5 hfl hc H2 20 0 a' (by omega) F (fun v hv => by rw [if_neg (by omega)]; exact H v hv) (fun v hv => by omega) with ⟨a2, t1, t2, t3, v, t4, t5, t6⟩ | ⟨a2, t1, t2, t3, t4, t5⟩
      · refine ⟨true, a2, t1, ?_, t2, t3⟩
        refine ⟨fun _ => ⟨v, t4, t5, Nat.le_trans t6 ?_⟩, fun _ => rfl⟩
        have q := cnt_mono (p := ldB aq kd dq (nI v) x2 to m) (j := k + 1) (ns m - (k + 1))
        rw [show k + 1 + (ns m - (k + 1)) = ns m by omega] at q
        exact q
      · obtain ⟨b, a3, u1, u2, u3, u4⟩ := ih a2 (by omega) t2 t4 (fun v h1 h2 => t5 v (by omega) h1 h2)
        refine ⟨b, a3, ?_, u2, u3, ?_⟩
        · rw [t1, e_X6_isWindowFull_171, nI_1]
          exact u1
        · rw [u4, t3]
theorem win13 (R10 : R ≠ 10) : ∀ (n w : Nat) (a' : Hp), w + n = 20 → Fr T10 a a' → (∀ v, v < w → rd a' 10 v = 0) → ∃ a2, f_X6_isWindowFull_13 R x2 Q (nI w) a' = f_X6_isWindowFull_40 R x2 Q 0 a2 ∧ Fr T10 a a2 ∧ (∀ v, v < 20 → rd a2 10 v = 0) ∧ rdL a2 = rdL a'
  | 0, w, a', e, F, H => by
    refine ⟨a', ?_, F, fun v hv => H v (by omega), rfl⟩
    rw [e_X6_isWindowFull_13, if_neg (show ¬ nI w < 20 from nI_nlt (a := w) (b := 20) (by omega) (by omega))]
  | n + 1, w, a', e, F, H => by
    obtain ⟨a2, t1, t2, t3, t4⟩ := win13 R10 n (w + 1) (wr a' 10 w 0) (by omega) (F.w rfl) (fun v hv => by
      by_cases c : v = w
      · rw [c, rd_eqw]
      · rw [rd_nk c]
        exact H v (by omega))
    refine ⟨a2, ?_, t2, t3, ?_⟩
    · rw [e_X6_isWindowFull_13, if_pos (show nI w < 20 from nI_lt (a := w) (b := 20) (by omega) (by decide)), inb_nI (by omega) (by decide), gd_t, nI_clamp (by omega), nI_1]
      exact t1
    · rw [t4]
      rfl
theorem winFull_s (C : CN a m) (S : SX a m) (hM : M ≤ 20) (hl : l < 20) (oR : okc R 3 = true) (r0 : rd a R 0 = kd) (r1 : rd a R 1 = len) (r2 : rd a R 2 = nI M) (R10 : R ≠ 10) (oQ : okc Q 7 = true) (Q10 : Q ≠ 10) (q0 : rd a Q 0 = aq) (q2 : rd a Q 2 = dq) (q4 : rd a Q 4 = nI f) (q5 : rd a Q 5 = nI l) (hfl : f ≤ l) (a' : Hp) (F : Fr T10 a a') :
    ∃ b a2, F_X6_isWindowFull [.ref 0, .ref R, .int x2, .ref Q] a' = rtn (some (.int (bi b))) a2 ∧ (b = true ↔ ∃ v, f ≤ v ∧ v ≤ l ∧ M ≤ Lw aq kd dq x2 (x2 + len - 1) m v (ns m)) ∧ Fr T10 a a2 ∧ rdL a2 = rdL a' := by
  rw [e_X6_isWindowFull_0, oR, gd_t, F R 2 R10, r2]
  by_cases c : M = 0
  · subst c
    refine ⟨true, a', ?_, ?_, F, rfl⟩
    · rw [if_pos (show nI 0 < 1 by decide)]
      rfl
    · exact ⟨fun _ => ⟨f, Nat.le_refl _, hfl, Nat.zero_le _⟩, fun _ => rfl⟩
  · rw [if_neg (show ¬ nI M < 1 from nI_nlt (a := M) (b := 1) (by omega) (by omega))]
    obtain ⟨a2, t1, t2, t3, t4⟩ := win13 (a := a) (x2 := x2) (Q := Q) R10 20 0 a' (by omega) F (fun v hv => by omega)
    have t1 : f_X6_isWindowFull_13 R x2 Q 0 a' = f_X6_isWindowFull_40 R x2 Q 0 a2 := t1
    have z : ∀ v, Lw aq kd dq x2 (x2 + len - 1) m v 0 = 0 := fun v => rfl
    obtain ⟨b, a3, u1, u2, u3, u4⟩ := win40 C S hM hl oR r0 r1 r2 R10 oQ Q10 q0 q2 q4 q5 hfl rfl (ns m) 0 a2 (by omega) t2 (fun v hv => by
      rw [t3 v hv]
      unfold cW
      rw [z, ite_self]
      rfl) (fun v h1 h2 => by rw [z]; omega)
    refine ⟨b, a3, ?_, u2, u3, ?_⟩
    · rw [t1]
      exact u1
    · rw [u4, t4]
end WIN
/-- a rule would be broken -/
def Brk (m : Hp) (kd : Int32) (ln M : Nat) (aq kq dq : Int32) (f l t : Nat) : Prop := (kd = 2 ∨ kd = kq) ∧ ∃ v s : Nat, f ≤ v ∧ v ≤ l ∧ s ≤ t ∧ t < s + ln ∧ s + ln ≤ 72 ∧ M ≤ Lw aq kd dq (nI s) (nI s + nI ln - 1) m v (ns m)
section BRK
variable {a m : Hp} {aq kd kq dq to s x x2 y len : Int32} {R Q k M f l i j t ln q : Nat}
theorem beg_all : ((List.range 72).all fun t => (List.range 7).all fun ln => decide ((if 0 < ((nI t - nI ln) + 1) then ((nI t - nI ln) + 1) else 0) = nI (t + 1 - ln)) && decide ((if (72 - nI ln) < nI t then (72 - nI ln) else nI t) = nI (min t (72 - ln)))) = true := by decide +kernel
theorem beg_s (ht : t < 72) (hn : ln < 7) : (if 0 < ((nI t - nI ln) + 1) then ((nI t - nI ln) + 1) else 0) = nI (t + 1 - ln) ∧ (if (72 - nI ln) < nI t then (72 - nI ln) else nI t) = nI (min t (72 - ln)) := by
  have q := all2 beg_all ht hn
  rw [Bool.and_eq_true] at q
  exact ⟨of_decide_eq_true q.1, of_decide_eq_true q.2⟩
theorem wb40 (C : CN a m) (S : SX a m) (hM : M ≤ 20) (hl : l < 20) (oR : okc R 3 = true) (r0 : rd a R 0 = kd) (r1 : rd a R 1 = len) (r2 : rd a R 2 = nI M) (R10 : R ≠ 10) (oQ : okc Q 7 = true) (Q10 : Q ≠ 10) (q0 : rd a Q 0 = aq) (q2 : rd a Q 2 = dq) (q4 : rd a Q 4 = nI f) (q5 : rd a Q 5 = nI l) (hfl : f ≤ l) {e : Nat} (he : e < 72) : ∀ (n s : Nat) (a' : Hp), (s + n = e + 1 ∨ (n = 0 ∧ e < s ∧ s ≤ 72)) → Fr T10 a a' → ∃ b a2, f_X6_wouldBreak_40 R Q (nI e) (nI s) a' = rtn (some (.int (bi b))) a2 ∧ (b = true ↔ ∃ v u : Nat, f ≤ v ∧ v ≤ l ∧ s ≤ u ∧ u ≤ e ∧ M ≤ Lw aq kd dq (nI u) (nI u + len - 1) m v (ns m)) ∧ Fr T10 a a2 ∧ rdL a2 = rdL a'
  | 0, s, a', h, F => by
    refine ⟨false, a', ?_, ?_, F, rfl⟩
    · rw [e_X6_wouldBreak_40, if_pos (nI_lt (by omega) (by omega))]
      rfl
    · constructor
      · intro z
        cases z
      · rintro ⟨v, u, h1, h2, h3, h4, -⟩
        omega
  | n + 1, s, a', h, F => by
    have h' : s + 1 + n = e + 1 ∨ (n = 0 ∧ e < s + 1 ∧ s + 1 ≤ 72) := by omega
    obtain ⟨b, a2, t1, t2, t3, t4⟩ := winFull_s (x2 := nI s) C S hM hl oR r0 r1 r2 R10 oQ Q10 q0 q2 q4 q5 hfl a' F
    rw [e_X6_wouldBreak_40, if_neg (nI_nlt (by omega) (by omega)), t1, bI_r]
    cases b with
    | true =>
      refine ⟨true, a2, ?_, ?_, t3, t4⟩
      · rw [bi_t, if_neg one_ne]
      · have hs : s ≤ e := by omega
        obtain ⟨v, h1, h2, h3⟩ := t2.mp rfl
        exact ⟨fun _ => ⟨v, s, h1, h2, Nat.le_refl _, hs, h3⟩, fun _ => rfl⟩
    | false =>
      obtain ⟨b, a3, u1, u2, u3, u4⟩ := wb40 C S hM hl oR r0 r1 r2 R10 oQ Q10 q0 q2 q4 q5 hfl he n (s + 1) a2 h' t3
      refine ⟨b, a3, ?_, ?_, u3, ?_⟩
      · rw [bi_f, if_pos rfl, nI_1]
        exact u1
      · rw [u2]
        constructor
        · rintro ⟨v, u, h1, h2, h3, h4, h5⟩
          exact ⟨v, u, h1, h2, by omega, h4, h5⟩
        · rintro ⟨v, u, h1, h2, h3, h4, h5⟩
          refine ⟨v, u, h1, h2, ?_, h4, h5⟩
          by_cases c : u = s
          · subst c
            exact absurd (t2.mpr ⟨v, h1, h2, h5⟩) (by decide)
          · omega
      · rw [u4, t4]
theorem isFor_s (oR : okc R 3 = true) : F_X3_isFor [.ref R, .int x] a = rtn (some (.int (bi (decide (rd a R 0 = 2) || decide (rd a R 0 = x))))) a := by
  rw [e_X3_isFor_0, oR]
  simp only [gd_t]
  by_cases c1 : rd a R 0 = 2
  · simp [c1, bi]
  · by_cases c2 : rd a R 0 = x
    · simp [c1, c2, bi]
    · simp [c1, c2, bi]
theorem wouldBreak_s (C : CN a m) (S : SX a m) (hM : M ≤ 20) (hl : l < 20) (oR : okc R 3 = true) (r0 : rd a R 0 = kd) (r1 : rd a R 1 = nI ln) (r2 : rd a R 2 = nI M) (R10 : R ≠ 10) (oQ : okc Q 7 = true) (Q10 : Q ≠ 10) (q0 : rd a Q 0 = aq) (q1 : rd a Q 1 = kq) (q2 : rd a Q 2 = dq) (q4 : rd a Q 4 = nI f) (q5 : rd a Q 5 = nI l) (hfl : f ≤ l) (ht : t < 72) (hn : ln ≤ 6) (hn1 : 1 ≤ ln) (a' : Hp) (F : Fr T10 a a') : ∃ b a2, F_X6_wouldBreak [.ref 0, .ref R, .ref Q, .int (nI t)] a' = rtn (some (.int (bi b))) a2 ∧ (b = true ↔ Brk m kd ln M aq kq dq f l t) ∧ Fr T10 a a2 ∧ rdL a2 = rdL a' := by
  rw [e_X6_wouldBreak_0, oQ, oR, F Q 1 Q10, q1]
  simp only [gd_t]
  rw [isFor_s oR, bI_r, F R 0 R10, r0, F R 1 R10, r1, (beg_s ht (show ln < 7 by omega)).1, (beg_s ht (show ln < 7 by omega)).2]
  by_cases c : kd = 2 ∨ kd = kq
  · have e1 : (decide (kd = 2) || decide (kd = kq)) = true := by simpa using c
    rw [e1, bi_t, if_neg one_ne]
    obtain ⟨b, a2, u1, u2, u3, u4⟩ := wb40 C S hM hl oR r0 r1 r2 R10 oQ Q10 q0 q2 q4 q5 hfl (e := min t (72 - ln)) (by omega) (min t (72 - ln) + 1 - (t + 1 - ln)) (t + 1 - ln) a' (by omega) F
    refine ⟨b, a2, u1, ?_, u3, u4⟩
    rw [u2]
    constructor
    · rintro ⟨v, u, h1, h2, h3, h4, h5⟩
      exact ⟨c, v, u, h1, h2, by omega, by omega, by omega, h5⟩
    · rintro ⟨-, v, u, h1, h2, h3, h4, h5, h6⟩
      exact ⟨v, u, h1, h2, by omega, by omega, h6⟩
  · have e1 : (decide (kd = 2) || decide (kd = kq)) = false := by simpa using c
    rw [e1, bi_f, if_pos rfl]
    refine ⟨false, a', rfl, ?_, F, rfl⟩
    constructor
    · intro z
      cases z
    · rintro ⟨z, -⟩
      exact absurd z c
end BRK
