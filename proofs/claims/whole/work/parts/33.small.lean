/-! the small calls -/
def ixs (x : Int32) (m : Nat) : Bool := irg x 0 (nI m - 1)
theorem pred_lt {x : Int32} {m : Nat} (hm : m ≤ 60) : (nI m - 1 < x) ↔ ¬ x < nI m := by
  rw [Int32.lt_iff_toInt_lt, Int32.lt_iff_toInt_lt, Int32.toInt_sub, nI_toInt (n := m) (by omega), show (1 : Int32).toInt = 1 from rfl, Int.bmod_eq_of_le (by omega) (by omega)]
  omega
theorem ixs_t {x : Int32} {m : Nat} (hm : m ≤ 60) (e : ixs x m = true) : ∃ j, j < m ∧ x = nI j := by
  obtain ⟨h0, h1⟩ := irg_t e
  rw [pred_lt hm, Decidable.not_not] at h1
  obtain ⟨j, hj, rfl⟩ := nI_of h0
  exact ⟨j, (nI_ltI hj (by omega)).mp h1, rfl⟩
theorem ixs_f {x : Int32} {m : Nat} (hm : m ≤ 60) (e : ixs x m = false) : x < 0 ∨ ¬ x < nI m := by
  unfold ixs irg at e
  by_cases c : x < 0
  · exact Or.inl c
  · right
    rw [← pred_lt hm]
    simpa [c] using e
theorem ixs_nI {j m : Nat} (hm : m ≤ 60) (hj : j < m) : ixs (nI j) m = true := by
  unfold ixs irg
  rw [decide_eq_false (nI_pos (n := j) (by omega)), decide_eq_false (fun q => (pred_lt hm).mp q (nI_lt hj (by omega)))]
  rfl
section SMALL
variable {h : Hp} {x y : Int32} {j : Nat}
theorem VN.s (H : VN h) : ns h ≤ 60 ∧ rd h 227 37 = nI (ns h) := ⟨by have := H.2.2.2.1; have := H.2.1; omega, H.2.2.1⟩
theorem VN.q (H : VN h) : nq h ≤ 60 ∧ rd h 227 20 = nI (nq h) := ⟨H.2.1, H.1⟩
theorem VN.r (H : VN h) : nr h ≤ 60 ∧ rd h 227 10 = nI (nr h) := ⟨H.2.2.2.2.2.1, H.2.2.2.2.1⟩
theorem holds_n (hx : x ≠ 0) : F_X7_holds [.ref 227, .int x] h = rtn (some (.int 0)) (wr h 227 0 x) := by
  rw [holds_s, decide_eq_false hx]
  rfl
theorem holds_0 : F_X7_holds [.ref 227, .int 0] h = rtn (some (.int 1)) (wr h 227 0 0) := by
  rw [holds_s]
  rfl
theorem okZ_bi {b : Bool} : okZ 1 (bi b) = true := by cases b <;> rfl
theorem isSeries_s (V : VN h) : F_X7_isSeries [.ref 227, .int x] h = rtn (some (.int (bi (ixs x (ns h))))) h := by
  rw [e_X7_isSeries_0, isIn_s, bI_r, okZ_bi, gd_t, V.s.2]
  rfl
theorem isRequest_s (V : VN h) : F_X7_isRequest [.ref 227, .int x] h = rtn (some (.int (bi (ixs x (nq h))))) h := by
  rw [e_X7_isRequest_0, isIn_s, bI_r, okZ_bi, gd_t, V.q.2]
  rfl
theorem seriesAt_s (N : EqN h) (V : VN h) (hj : j < ns h) : F_X6_seriesAt [.ref 0, .int (nI j)] h = rtn (some (.ref (107 + j))) h := by
  have h60 := V.s.1
  rw [e_X6_seriesAt_0, N.2.1, V.s.2, if_neg (nI_pos (n := j) (by omega)), if_pos (nI_lt hj (by omega)), if_pos (show nI j < 60 from nI_lt (b := 60) (by omega) (by decide)), inb_nI (by omega) (by decide), gd_t, nI_clamp (by omega), skr4 j (by omega)]
theorem seriesAt_n (N : EqN h) (V : VN h) (e : ixs x (ns h) = false) : F_X6_seriesAt [.ref 0, .int x] h = thr 0 h := by
  rw [e_X6_seriesAt_0, e_X6_seriesAt_21, N.2.1, V.s.2]
  rcases ixs_f V.s.1 e with c | c
  · rw [if_pos c]
  · by_cases c1 : x < 0
    · rw [if_pos c1]
    · rw [if_neg c1, if_neg c]
theorem requestAt_s (N : EqN h) (V : VN h) (hj : j < nq h) : F_X6_requestAt [.ref 0, .int (nI j)] h = rtn (some (.ref (47 + j))) h := by
  have h60 := V.q.1
  rw [e_X6_requestAt_0, N.1, V.q.2, if_neg (nI_pos (n := j) (by omega)), if_pos (nI_lt hj (by omega)), if_pos (show nI j < 60 from nI_lt (b := 60) (by omega) (by decide)), inb_nI (by omega) (by decide), gd_t, nI_clamp (by omega), skr3 j (by omega)]
theorem requestAt_n (N : EqN h) (V : VN h) (e : ixs x (nq h) = false) : F_X6_requestAt [.ref 0, .int x] h = thr 0 h := by
  rw [e_X6_requestAt_0, e_X6_requestAt_21, N.1, V.q.2]
  rcases ixs_f V.q.1 e with c | c
  · rw [if_pos c]
  · by_cases c1 : x < 0
    · rw [if_pos c1]
    · rw [if_neg c1, if_neg c]
theorem rightAt_s (N : EqN h) (V : VN h) (hj : j < nr h) : F_X6_rightAt [.ref 0, .int (nI j)] h = rtn (some (.ref (167 + j))) h := by
  have h60 := V.r.1
  rw [e_X6_rightAt_0, N.2.2.1, V.r.2, if_neg (nI_pos (n := j) (by omega)), if_pos (nI_lt hj (by omega)), if_pos (show nI j < 60 from nI_lt (b := 60) (by omega) (by decide)), inb_nI (by omega) (by decide), gd_t, nI_clamp (by omega), skr5 j (by omega)]
theorem rightAt_n (N : EqN h) (V : VN h) (e : ixs x (nr h) = false) : F_X6_rightAt [.ref 0, .int x] h = thr 0 h := by
  rw [e_X6_rightAt_0, e_X6_rightAt_21, N.2.2.1, V.r.2]
  rcases ixs_f V.r.1 e with c | c
  · rw [if_pos c]
  · by_cases c1 : x < 0
    · rw [if_pos c1]
    · rw [if_neg c1, if_neg c]
theorem groupAt_s (hj : j < 10) : F_X6_groupAt [.ref 0, .int (nI j)] h = rtn (some (.int (rd h 2 j))) h := by
  rw [e_X6_groupAt_0, if_neg (nI_pos (n := j) (by omega)), if_pos (show nI j < 10 from nI_lt (b := 10) hj (by decide)), inb_nI hj (by decide), gd_t, nI_clamp (by omega)]
theorem irg_9 (e : irg x 0 9 = true) : ∃ j : Nat, j < 10 ∧ x = nI j := by
  obtain ⟨j, h1, h2⟩ := irg_nI (n := 9) (by decide) e
  exact ⟨j, by omega, h2⟩
theorem groupAt_n (e : irg x 0 9 = false) : F_X6_groupAt [.ref 0, .int x] h = thr 0 h := by
  rw [e_X6_groupAt_0, e_X6_groupAt_13]
  unfold irg at e
  by_cases c1 : x < 0
  · rw [if_pos c1]
  · rw [if_neg c1]
    have c2 : (9 : Int32) < x := by simpa [c1] using e
    rw [if_neg]
    rw [Int32.lt_iff_toInt_lt] at c2 ⊢
    have e3 : (9 : Int32).toInt = 9 := by decide
    have e4 : (10 : Int32).toInt = 10 := by decide
    omega
end SMALL
theorem one_ne : (1 : Int32) ≠ 0 := by decide
theorem two_ne : (2 : Int32) ≠ 0 := by decide
theorem three_ne : (3 : Int32) ≠ 0 := by decide
theorem sim_quota : SimI Inv F_L_quota F_X7_quota 2 := by
  intro as h hl hR
  match as, hl with
  | [x, y], _ =>
    show ∃ (k v : Int32) (h1 h2 : Hp), F_L_quota [.ref 0, .int x, .int y, .ref 275] h = rtn (some (.int k)) h1 ∧ F_X7_quota [.ref 227, .int x, .int y] h1 = rtn (some (.int v)) h2 ∧ _
    cases c1 : irg x 0 3 with
    | false =>
      refine ⟨1, 0, h, wr h 227 0 1, ?_, ?_, rd_eqw, fun q => absurd q one_ne, hR.quiet (Or.inl ⟨rfl, rfl⟩), Scr.refl, Scr.refl.w (by decide)⟩
      · rw [e_L_quota_0, e_X6_quota_0, airportAt_n c1, bR_t, hnk_n, bI_t]
        rfl
      · rw [e_X7_quota_0, isAirport_s, bI_r, c1, bi_f, if_pos rfl, e_X7_quota_28, holds_n one_ne, bI_r, if_pos rfl]
    | true =>
      obtain ⟨j, hj, rfl⟩ := irg_3 c1
      cases c2 : irg y 0 9999 with
      | false =>
        refine ⟨2, 0, h, wr h 227 0 2, ?_, ?_, rd_eqw, fun q => absurd q two_ne, hR.quiet (Or.inl ⟨rfl, rfl⟩), Scr.refl, Scr.refl.w (by decide)⟩
        · rw [e_L_quota_0, e_X6_quota_0, airportAt_s hj, bR_r, requireRange_s, c2]
          rfl
        · rw [e_X7_quota_0, isAirport_s, bI_r, c1, bi_t, if_neg one_ne, isIn_s, bI_r, c2, bi_f, if_pos rfl, e_X7_quota_28, holds_n two_ne, bI_r, if_pos rfl]
      | true =>
        obtain ⟨a1, a2, a3, a4, a5, a6⟩ := hR.2.2.2.2.1 j hj
        refine ⟨0, rd h 234 j, wrL (wr h (11 + 9 * j) 5 y) 0 (Int32.toInt64 (rd h 234 j)), wr (wr (wrL (wr h (11 + 9 * j) 5 y) 0 (Int32.toInt64 (rd h 234 j))) 227 0 0) 234 j y, ?_, ?_, ?_, fun _ => ?_, ?_, (Scr.refl.w (by omega)).l, ((Scr.refl.w (by omega)).l.w (by decide)).w (by decide)⟩
        · rw [e_L_quota_0, e_X6_quota_0, airportAt_s hj, bR_r, requireRange_s, c2]
          show bI (gd (okc (11 + 9 * j) 2) (gd (okc (11 + 9 * j) 2) _)) _ _ = _
          rw [okc_ap j hj, gd_t, gd_t, bI_r, show inb 0 1 = true from rfl, gd_t, a4]
          rfl
        · rw [e_X7_quota_0, isAirport_s, bI_r, c1, bi_t, if_neg one_ne, isIn_s, bI_r, c2, bi_t, if_neg one_ne, e_X7_quota_28, holds_0, bI_r, if_neg one_ne, inb_nI hj (by decide), gd_t, gd_t, nI_clamp (by omega)]
          congr 3
          rw [rd_ne (by decide), rd_wrLx, rd_ne (by omega)]
        · rw [rd_ne (by decide), rd_eqw]
        · rfl
        · obtain ⟨b1, b2, b3, b4, b5, b6, b7, b8, b9, b10, b11, b12, b13⟩ := hR
          refine ⟨?_, ?_, ?_, ?_, ?_, ?_, ?_, ?_, ?_, ?_, ?_, ?_, ?_⟩
          · exact ((b1.f (by omega) (by omega)).f (k := 0) (by omega) (by omega)).f (by omega) (by omega)
          · exact ((b2.f (by omega) (by omega)).f (by omega) (by omega)).f (by omega) (by omega)
          · exact ((b3.f (by omega) (by omega)).f (by omega) (by omega)).f (by omega) (by omega)
          · exact ((b4.f (by omega) (by omega)).f (by omega) (by omega)).f (by omega) (by omega)
          · intro b hb
            obtain ⟨q1, q2, q3, q4, q5, q6⟩ := b5 b hb
            refine ⟨?_, ?_, ?_, ?_, fun d hd => ?_, fun r hr => ⟨?_, ?_, ?_⟩⟩ <;> simp only [rd_wrx, rd_wrLx]
            · rw [if_neg (by omega), if_neg (by omega), if_neg (by omega), if_neg (by omega), if_neg (by omega), if_neg (by omega)]; exact q1
            · rw [if_neg (by omega), if_neg (by omega), if_neg (by omega), if_neg (by omega), if_neg (by omega), if_neg (by omega)]; exact q2
            · rw [if_neg (by omega), if_neg (by omega), if_neg (by omega), if_neg (by omega), if_neg (by omega), if_neg (by omega)]; exact q3
            · by_cases c : b = j
              · subst c
                rw [if_neg (by omega), if_neg (by omega), if_pos (by simp), if_pos (by simp)]
              · rw [if_neg (by omega), if_neg (by omega), if_neg (by omega), if_neg (by omega), if_neg (by omega), if_neg (by omega)]; exact q4
            · rw [if_neg (by omega), if_neg (by omega), if_neg (by omega), if_neg (by omega), if_neg (by omega), if_neg (by omega)]; exact q5 d hd
            · rw [if_neg (by omega), if_neg (by omega), if_neg (by omega), if_neg (by omega), if_neg (by omega), if_neg (by omega)]; exact (q6 r hr).1
            · rw [if_neg (by omega), if_neg (by omega), if_neg (by omega), if_neg (by omega), if_neg (by omega), if_neg (by omega)]; exact (q6 r hr).2.1
            · rw [if_neg (by omega), if_neg (by omega), if_neg (by omega), if_neg (by omega), if_neg (by omega), if_neg (by omega)]; exact (q6 r hr).2.2
          · exact ((b6.f (by omega) (by omega)).f (by omega) (by omega)).f (by omega) (by omega)
          · exact ((b7.f (by omega) ⟨by omega, by omega, by omega⟩).f (k := 0) (by omega) ⟨by omega, by omega, by omega⟩).f (by omega) ⟨by omega, by omega, by omega⟩
          · exact ((b8.f (by omega) (by omega)).f (k := 0) (by omega) (by omega)).f (by omega) (by omega)
          · exact ((b9.f (by omega)).f (by omega)).f (by omega)
          · exact ((b10.f (by omega) (by omega)).f (k := 0) (by omega) (by omega)).f (by omega) (by omega)
          · exact ((b11.f (by omega) (by omega)).f (k := 0) (by omega) (by omega)).f (by omega) (by omega)
          · exact ((b12.f (by omega) (by omega)).f (k := 0) (by omega) (by omega)).f (by omega) (by omega)
          · exact ((b13.f ⟨by omega, by omega, by omega⟩ (by omega)).f (k := 0) ⟨by omega, by omega, by omega⟩ (by omega)).f ⟨by omega, by omega, by omega⟩ (by omega)
/-! sums over the rows -/
def fsum (f : Nat → Int32) : Nat → Nat → Int32 → Int32
  | _, 0, acc => acc
  | k, n + 1, acc => fsum f (k + 1) n (acc + f k)
theorem fsum_congr {f g : Nat → Int32} : ∀ (n k : Nat) (acc : Int32), (∀ j, k ≤ j → j < k + n → f j = g j) → fsum f k n acc = fsum g k n acc
  | 0, _, _, _ => rfl
  | n + 1, k, acc, h => by
    show fsum f (k + 1) n (acc + f k) = fsum g (k + 1) n (acc + g k)
    rw [h k (Nat.le_refl _) (by omega)]
    exact fsum_congr n (k + 1) _ fun j h1 h2 => h j (by omega) (by omega)
def ngt (x : Int32) : Bool := decide (x < 18) || decide (65 < x)
section SUMS
variable {h : Hp} {x y : Int32} {k : Nat}
theorem isByNight_s : F_X6_isByNight [.int x] h = rtn (some (.int (bi (ngt x)))) h := by
  rw [e_X6_isByNight_0]
  unfold ngt
  by_cases c1 : x < 18
  · simp [c1, bi]
  · by_cases c2 : 65 < x
    · simp [c1, c2, bi]
    · simp [c1, c2, bi]
theorem isNight_s : F_X7_isNight [.int x] h = rtn (some (.int (bi (ngt x)))) h := by
  rw [e_X7_isNight_0]
  unfold ngt
  by_cases c1 : x < 18
  · simp [c1, bi]
  · by_cases c2 : 65 < x
    · simp [c1, c2, bi]
    · simp [c1, c2, bi]
theorem EqS.g (S : EqS h) (hk : k < 60) : rd h (107 + k) 0 = rd h 262 k ∧ rd h (107 + k) 1 = rd h 263 k ∧ rd h (107 + k) 2 = rd h 264 k ∧ rd h (107 + k) 3 = rd h 265 k ∧ rd h (107 + k) 4 = rd h 266 k ∧ rd h (107 + k) 5 = rd h 267 k ∧ rd h (107 + k) 6 = rd h 268 k ∧ rd h (107 + k) 7 = rd h 269 k ∧ rd h (107 + k) 8 = rd h 260 k ∧ rd h (107 + k) 9 = rd h 261 k ∧ rd h (107 + k) 10 = rd h 270 k ∧ rd h (107 + k) 11 = rd h 271 k ∧ rd h (107 + k) 12 = rd h 272 k :=
  ⟨S k hk 0 (by decide), S k hk 1 (by decide), S k hk 2 (by decide), S k hk 3 (by decide), S k hk 4 (by decide), S k hk 5 (by decide), S k hk 6 (by decide), S k hk 7 (by decide), S k hk 8 (by decide), S k hk 9 (by decide), S k hk 10 (by decide), S k hk 11 (by decide), S k hk 12 (by decide)⟩
theorem EqQ.g (S : EqQ h) (hk : k < 60) : rd h (47 + k) 0 = rd h 246 k ∧ rd h (47 + k) 1 = rd h 247 k ∧ rd h (47 + k) 2 = rd h 248 k ∧ rd h (47 + k) 3 = rd h 249 k ∧ rd h (47 + k) 4 = rd h 250 k ∧ rd h (47 + k) 5 = rd h 251 k ∧ rd h (47 + k) 6 = rd h 252 k ∧ rd h (47 + k) 7 = rd h 245 k ∧ rd h (47 + k) 8 = rd h 253 k ∧ rd h (47 + k) 9 = rd h 254 k ∧ rd h (47 + k) 11 = rd h 256 k ∧ rd h (47 + k) 12 = rd h 257 k ∧ rd h (47 + k) 13 = rd h 258 k :=
  ⟨S k hk 0 (by decide) (by decide), S k hk 1 (by decide) (by decide), S k hk 2 (by decide) (by decide), S k hk 3 (by decide) (by decide), S k hk 4 (by decide) (by decide), S k hk 5 (by decide) (by decide), S k hk 6 (by decide) (by decide), S k hk 7 (by decide) (by decide), S k hk 8 (by decide) (by decide), S k hk 9 (by decide) (by decide), S k hk 11 (by decide) (by decide), S k hk 12 (by decide) (by decide), S k hk 13 (by decide) (by decide)⟩
theorem EqR.g (S : EqR h) (hk : k < 60) : rd h (167 + k) 0 = rd h 237 k ∧ rd h (167 + k) 1 = rd h 238 k ∧ rd h (167 + k) 2 = rd h 239 k ∧ rd h (167 + k) 3 = rd h 240 k ∧ rd h (167 + k) 4 = rd h 241 k ∧ rd h (167 + k) 5 = rd h 242 k ∧ rd h (167 + k) 6 = rd h 243 k ∧ rd h (167 + k) 7 = rd h 236 k ∧ rd h (167 + k) 8 = rd h 244 k :=
  ⟨S k hk 0 (by decide), S k hk 1 (by decide), S k hk 2 (by decide), S k hk 3 (by decide), S k hk 4 (by decide), S k hk 5 (by decide), S k hk 6 (by decide), S k hk 7 (by decide), S k hk 8 (by decide)⟩
def nzF (x : Int32) (h : Hp) (k : Nat) : Int32 := if rd h 272 k = 0 then if rd h 262 k = x then if ngt (rd h 265 k) = true then rd h 268 k * (rd h 267 k - rd h 266 k + 1) else 0 else 0 else 0
theorem wholeNoise_s (hk : k < 60) : F_X5_wholeNoise [.ref (107 + k)] h = rtn (some (.int (rd h (107 + k) 6 * (rd h (107 + k) 5 - rd h (107 + k) 4 + 1)))) h := by
  rw [e_X5_wholeNoise_0, (okc_sr k hk).2, gd_t, gd_t, e_X5_weeks_0, (okc_sr k hk).2, gd_t, gd_t, bI_r]
theorem noiseByNight_l (N : EqN h) (V : VN h) (S : EqS h) : ∀ (n k : Nat) (acc : Int32), k + n = ns h → f_X6_noiseByNight_4 x acc (nI k) h = rtn (some (.int (fsum (nzF x h) k n acc))) h
  | 0, k, acc, e => by
    have h60 := V.s.1
    rw [e_X6_noiseByNight_4, N.2.1, V.s.2, if_neg (nI_nlt (by omega) (by omega))]
    rfl
  | n + 1, k, acc, e => by
    have h60 := V.s.1
    have ih := fun acc => noiseByNight_l N V S n (k + 1) acc (by omega)
    obtain ⟨g0, g1, g2, g3, g4, g5, g6, g7, g8, g9, g10, g11, g12⟩ := S.g (k := k) (by omega)
    rw [e_X6_noiseByNight_4, N.2.1, V.s.2, if_pos (nI_lt (by omega) (by omega)), seriesAt_s N V (by omega), bR_r, (okc_sr k (by omega)).1]
    simp only [gd_t, g12, g0, g3, wholeNoise_s (h := h) (k := k) (by omega), isByNight_s, bI_r, g4, g5, g6, e_X6_noiseByNight_55, nI_1, ih]
    show _ = rtn (some (.int (fsum (nzF x h) (k + 1) n (acc + nzF x h k)))) h
    by_cases c1 : rd h 272 k = 0
    · by_cases c2 : rd h 262 k = x
      · cases c3 : ngt (rd h 265 k)
        · simp [c1, c2, c3, bi_f, show nzF x h k = 0 by simp [nzF, c1, c2, c3]]
        · simp [c1, c2, c3, bi_t, show nzF x h k = rd h 268 k * (rd h 267 k - rd h 266 k + 1) by simp [nzF, c1, c2, c3]]
      · simp [c1, c2, show nzF x h k = 0 by simp [nzF, c1, c2]]
    · simp [c1, show nzF x h k = 0 by simp [nzF, c1]]
theorem noiseOf_l (V : VN h) : ∀ (n k : Nat) (acc : Int32), k + n = ns h → f_X7_noiseOf_4 x acc (nI k) h = rtn (some (.int (fsum (nzF x h) k n acc))) h
  | 0, k, acc, e => by
    have h60 := V.s.1
    rw [e_X7_noiseOf_4, V.s.2, if_neg (nI_nlt (by omega) (by omega))]
    rfl
  | n + 1, k, acc, e => by
    have h60 := V.s.1
    have ih := fun acc => noiseOf_l V n (k + 1) acc (by omega)
    rw [e_X7_noiseOf_4, V.s.2, if_pos (nI_lt (by omega) (by omega))]
    simp only [inb_nI (j := k) (n := 60) (by omega) (by decide), gd_t, nI_clamp (n := k) (by omega), isNight_s, bI_r, e_X7_noiseOf_47, e_X7_noiseOf_48, e_X7_noiseOf_82, nI_1, ih]
    show _ = rtn (some (.int (fsum (nzF x h) (k + 1) n (acc + nzF x h k)))) h
    by_cases c1 : rd h 272 k = 0
    · by_cases c2 : rd h 262 k = x
      · cases c3 : ngt (rd h 265 k)
        · simp [c1, c2, c3, bi_f, show nzF x h k = 0 by simp [nzF, c1, c2, c3]]
        · simp [c1, c2, c3, bi_t, show nzF x h k = rd h 268 k * (rd h 267 k - rd h 266 k + 1) by simp [nzF, c1, c2, c3]]
      · simp [c1, c2, show nzF x h k = 0 by simp [nzF, c1, c2]]
    · simp [c1, show nzF x h k = 0 by simp [nzF, c1]]
theorem noiseByNight_s (N : EqN h) (V : VN h) (S : EqS h) : F_X6_noiseByNight [.ref 0, .int x] h = rtn (some (.int (fsum (nzF x h) 0 (ns h) 0))) h := by
  rw [e_X6_noiseByNight_0]
  exact noiseByNight_l N V S (ns h) 0 0 (by omega)
theorem noiseOf_s (V : VN h) : F_X7_noiseOf [.ref 227, .int x] h = rtn (some (.int (fsum (nzF x h) 0 (ns h) 0))) h := by
  rw [e_X7_noiseOf_0]
  exact noiseOf_l V (ns h) 0 0 (by omega)
/-- what the reference sees of its rows doesn't hang on its word, nor on the law's answer -/
theorem nzF_w {v : Int64} {w : Int32} : nzF x (wr (wrL h 0 v) 227 0 w) = nzF x h := by
  funext k
  unfold nzF
  simp only [rd_ne (show 272 ≠ 227 by decide), rd_ne (show 262 ≠ 227 by decide), rd_ne (show 265 ≠ 227 by decide), rd_ne (show 268 ≠ 227 by decide), rd_ne (show 267 ≠ 227 by decide), rd_ne (show 266 ≠ 227 by decide), rd_wrLx]
end SUMS
theorem sim_noise : SimI Inv F_L_noise F_X7_noise 1 := by
  intro as h hl hR
  match as, hl with
  | [x], _ =>
    show ∃ (k v : Int32) (h1 h2 : Hp), F_L_noise [.ref 0, .int x, .ref 275] h = rtn (some (.int k)) h1 ∧ F_X7_noise [.ref 227, .int x] h1 = rtn (some (.int v)) h2 ∧ _
    have N := hR.1
    have S := hR.2.1
    have V := hR.2.2.2.2.2.2.2.1
    cases c1 : irg x 0 3 with
    | false =>
      refine ⟨1, 0, h, wr h 227 0 1, ?_, ?_, rd_eqw, fun q => absurd q one_ne, hR.quiet (Or.inl ⟨rfl, rfl⟩), Scr.refl, Scr.refl.w (by decide)⟩
      · rw [e_L_noise_0, e_X6_noise_0, airportAt_n c1, bR_t, hnk_n, bI_t]
        rfl
      · rw [e_X7_noise_0, isAirport_s, bI_r, c1, bi_f, if_pos rfl, e_X7_noise_13, holds_n one_ne, bI_r, if_pos rfl]
    | true =>
      obtain ⟨j, hj, rfl⟩ := irg_3 c1
      refine ⟨0, fsum (nzF (nI j) h) 0 (ns h) 0, wrL h 0 (Int32.toInt64 (fsum (nzF (nI j) h) 0 (ns h) 0)), wr (wrL h 0 (Int32.toInt64 (fsum (nzF (nI j) h) 0 (ns h) 0))) 227 0 0, ?_, ?_, rd_eqw, fun _ => rfl, (Inv.out hR).quiet (Or.inl ⟨rfl, rfl⟩), Scr.refl.l, Scr.refl.l.w (by decide)⟩
      · rw [e_L_noise_0, e_X6_noise_0, airportAt_s hj, bR_r, noiseByNight_s N V S, bI_r, bI_r]
        rfl
      · have V2 : VN (wr (wrL h 0 (Int32.toInt64 (fsum (nzF (nI j) h) 0 (ns h) 0))) 227 0 0) := VN.f (h := wrL h 0 _) V (by decide) (by omega)
        rw [e_X7_noise_0, isAirport_s, bI_r, c1, bi_t, if_neg one_ne, e_X7_noise_13, holds_0, bI_r, if_neg one_ne, noiseOf_s V2, bI_r, nzF_w, ns_f (by omega)]
        rfl
