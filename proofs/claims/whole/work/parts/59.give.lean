/-! giving and waiting: the class's part in one heap, the reference's in another -/
def QXX (a m : Hp) : Prop := ∀ i, i < 60 → ∀ f, f < 14 → f ≠ 10 → rd a (47 + i) f = rd m (QA f) i
def CX (a m : Hp) : Prop := rd a 0 10 = nI (nq m) ∧ rd a 0 11 = nI (ns m) ∧ rd a 0 13 = nI (np m)
def VQm (m : Hp) : Prop := ∀ i, i < nq m → irg (rd m 246 i) 0 3 = true ∧ irg (rd m 248 i) 0 6 = true ∧ irg (rd m 249 i) 0 71 = true ∧ irg (rd m 250 i) 0 19 = true ∧ irg (rd m 251 i) (rd m 250 i) 19 = true ∧ irg (rd m 245 i) 0 9 = true ∧ irg (rd m 254 i) 0 3 = true ∧ (rd m 254 i = 2 → irg (rd m 257 i) 0 71 = true) ∧ (rd m 254 i = 0 → rd m 256 i = -1 ∧ rd m 257 i = -1)
def QU2 (a m : Hp) : Prop := (∀ p, p < np m → ∃ i, i < nq m ∧ rd a 6 p = nI i ∧ rd m 259 i = nI p ∧ rd m 254 i ≠ 0) ∧ ∀ i, i < nq m → (rd m 254 i = 2 ∨ rd m 254 i = 3) → ∃ p, p < np m ∧ rd a 6 p = nI i ∧ rd m 259 i = nI p
def J (a m : Hp) : Prop := CX a m ∧ SX a m ∧ QXX a m ∧ AX a m ∧ VN m ∧ VA m ∧ VS m ∧ VQm m ∧ QU2 a m
/-- what the class may write, what the reference may write -/
def PJc (p k : Nat) : Prop := (p = 0 ∧ (k = 11 ∨ k = 13)) ∨ (6 ≤ p ∧ p ≤ 10) ∨ (47 ≤ p ∧ p < 107 ∧ 9 ≤ k ∧ k ≤ 12) ∨ (107 ≤ p ∧ p < 167)
def PJm (p k : Nat) : Prop := (p = 227 ∧ (k = 0 ∨ k = 36 ∨ k = 37 ∨ k = 52)) ∨ (254 ≤ p ∧ p ≤ 257) ∨ p = 259 ∨ (260 ≤ p ∧ p ≤ 272) ∨ p = 274
section JS
variable {a m : Hp} {x : Int32} {i j k t n p : Nat}
theorem wr_comm {h : Hp} {a b k j : Nat} {x y : Int32} (hne : ¬ (a = b ∧ k = j)) : wr (wr h a k x) b j y = wr (wr h b j y) a k x := by
  refine Prod.ext (funext fun p => funext fun q => ?_) rfl
  show (if p = b ∧ q = j then y else if p = a ∧ q = k then x else h.1 p q) = if p = a ∧ q = k then x else if p = b ∧ q = j then y else h.1 p q
  by_cases c1 : p = b ∧ q = j
  · by_cases c2 : p = a ∧ q = k
    · exact absurd ⟨c2.1.symm.trans c1.1, c2.2.symm.trans c1.2⟩ hne
    · rw [if_pos c1, if_neg c2, if_pos c1]
  · rw [if_neg c1, if_neg c1]
theorem req_g (e : rd a 0 10 = nI n) (hn : n ≤ 60) (hj : j < n) : F_X6_requestAt [.ref 0, .int (nI j)] a = rtn (some (.ref (47 + j))) a := by
  rw [e_X6_requestAt_0, e, if_neg (nI_pos (n := j) (by omega)), if_pos (nI_lt hj (by omega)), if_pos (show nI j < 60 from nI_lt (b := 60) (by omega) (by decide)), inb_nI (by omega) (by decide), gd_t, nI_clamp (by omega), skr3 j (by omega)]
theorem ser_g (e : rd a 0 11 = nI n) (hn : n ≤ 60) (hj : j < n) : F_X6_seriesAt [.ref 0, .int (nI j)] a = rtn (some (.ref (107 + j))) a := by
  rw [e_X6_seriesAt_0, e, if_neg (nI_pos (n := j) (by omega)), if_pos (nI_lt hj (by omega)), if_pos (show nI j < 60 from nI_lt (b := 60) (by omega) (by decide)), inb_nI (by omega) (by decide), gd_t, nI_clamp (by omega), skr4 j (by omega)]
/-- the class's heap behind a giving -/
def gvc (a : Hp) (n i : Nat) (t : Int32) : Hp := wr (wr (wr (wr (wr (wr (wr (wr (wr (wr (cpy (wr a 0 11 (nI (n + 1))) (107 + n) (47 + i)) (107 + n) 3 t) (107 + n) 7 (nI i)) (107 + n) 8 (rd a (47 + i) 7)) (107 + n) 9 (rd a (47 + i) 7)) (107 + n) 10 0) (107 + n) 11 0) (107 + n) 12 0) (47 + i) 9 1) (47 + i) 11 (nI n)) (47 + i) 12 (-1)
theorem give_c (e1 : rd a 0 10 = nI k) (hk : k ≤ 60) (hi : i < k) (e2 : rd a 0 11 = nI n) (hn : n < 60) : F_X6_give [.ref 0, .int (nI i), .int x] a = rtn none (gvc a n i x) := by
  rw [e_X6_give_0, req_g e1 hk hi, bR_r, e2, nI_1, ser_g (n := n + 1) rd_eqw (by omega) (by omega), bR_r, (okc_sr n hn).1, gd_t, e_X4_begin_0, (okc_sr n hn).1, gd_t, copyFrom_s (by omega) (okc_sr n hn).2 (okc_rq i (by omega)).2, bV_r, (okc_rq i (by omega)).1]
  simp only [gd_t, bV_r]
  rw [rd_ne (show 47 + i ≠ 107 + n by omega), rd_ne (show 47 + i ≠ 107 + n by omega), rd_ne (show 47 + i ≠ 107 + n by omega), rd_ne (show 47 + i ≠ 107 + n by omega), rd_ne (show 47 + i ≠ 107 + n by omega), cpy_out (Or.inl (by omega)), rd_ne (show 47 + i ≠ 0 by omega)]
  rfl
/-- the reference's -/
def gvm (m : Hp) (n i : Nat) (t : Int32) : Hp := wr (wr (wr (wr (wr (wr (wr (wr (wr (wr (wr (wr (wr (wr (wr (wr (wr m 227 37 (nI (n + 1))) 260 n (rd m 245 i)) 261 n (rd m 245 i)) 262 n (rd m 246 i)) 263 n (rd m 247 i)) 264 n (rd m 248 i)) 265 n t) 266 n (rd m 250 i)) 267 n (rd m 251 i)) 268 n (rd m 252 i)) 269 n (nI i)) 270 n 0) 271 n 0) 272 n 0) 254 i 1) 256 i (nI n)) 257 i (-1)
theorem give_m (e2 : rd m 227 37 = nI n) (hn : n < 60) (hi : i < 60) : F_X7_gives [.ref 227, .int (nI i), .int x] m = rtn none (gvm m n i x) := by
  rw [e_X7_gives_0, e2, inb_nI hi (by decide), inb_nI hn (by decide), nI_clamp (by omega), nI_clamp (by omega), nI_1]
  rfl
theorem gvc_o (h1 : p ≠ 107 + n) (h2 : ¬ (p = 47 + i ∧ (k = 9 ∨ k = 11 ∨ k = 12))) (h3 : ¬ (p = 0 ∧ k = 11)) : rd (gvc a n i x) p k = rd a p k := by
  unfold gvc
  rw [rd_wrx, if_neg (by omega), rd_wrx, if_neg (by omega), rd_wrx, if_neg (by omega), rd_ne h1, rd_ne h1, rd_ne h1, rd_ne h1, rd_ne h1, rd_ne h1, rd_ne h1, cpy_out (Or.inl h1), rd_wrx, if_neg h3]
theorem gvm_o (h1 : ¬ (260 ≤ p ∧ p ≤ 272 ∧ k = n)) (h2 : ¬ ((p = 254 ∨ p = 256 ∨ p = 257) ∧ k = i)) (h3 : ¬ (p = 227 ∧ k = 37)) : rd (gvm m n i x) p k = rd m p k := by
  unfold gvm
  simp only [rd_wrx]
  repeat rw [if_neg (by omega)]
theorem gvc_11 : rd (gvc a n i x) 0 11 = nI (n + 1) := by
  unfold gvc
  rw [rd_ne (by omega), rd_ne (by omega), rd_ne (by omega), rd_ne (by omega), rd_ne (by omega), rd_ne (by omega), rd_ne (by omega), rd_ne (by omega), rd_ne (by omega), rd_ne (by omega), cpy_out (Or.inl (by omega)), rd_eqw]
theorem gvm_37 : rd (gvm m n i x) 227 37 = nI (n + 1) := by simp [gvm, rd_wrx]
theorem gv_S (S : SX a m) (Q : QXX a m) (hi : i < 60) (hn : n < 60) : SX (gvc a n i x) (gvm m n i x) := by
  intro j hj f hf
  by_cases c : j = n
  · subst c
    have ne : ¬ (107 + j = 47 + i) := by omega
    have n0 : ¬ (47 + i = 0) := by omega
    have q0 := Q i hi 0 (by decide) (by decide)
    have q1 := Q i hi 1 (by decide) (by decide)
    have q2 := Q i hi 2 (by decide) (by decide)
    have q4 := Q i hi 4 (by decide) (by decide)
    have q5 := Q i hi 5 (by decide) (by decide)
    have q6 := Q i hi 6 (by decide) (by decide)
    have q7 := Q i hi 7 (by decide) (by decide)
    have : f = 0 ∨ f = 1 ∨ f = 2 ∨ f = 3 ∨ f = 4 ∨ f = 5 ∨ f = 6 ∨ f = 7 ∨ f = 8 ∨ f = 9 ∨ f = 10 ∨ f = 11 ∨ f = 12 := by omega
    rcases this with rfl | rfl | rfl | rfl | rfl | rfl | rfl | rfl | rfl | rfl | rfl | rfl | rfl
    · show _ = rd (gvm m j i x) 262 j
      simp [gvc, gvm, cpy, rd_wrx, ne, n0]
      exact q0
    · show _ = rd (gvm m j i x) 263 j
      simp [gvc, gvm, cpy, rd_wrx, ne, n0]
      exact q1
    · show _ = rd (gvm m j i x) 264 j
      simp [gvc, gvm, cpy, rd_wrx, ne, n0]
      exact q2
    · show _ = rd (gvm m j i x) 265 j
      simp [gvc, gvm, cpy, rd_wrx, ne, n0]
    · show _ = rd (gvm m j i x) 266 j
      simp [gvc, gvm, cpy, rd_wrx, ne, n0]
      exact q4
    · show _ = rd (gvm m j i x) 267 j
      simp [gvc, gvm, cpy, rd_wrx, ne, n0]
      exact q5
    · show _ = rd (gvm m j i x) 268 j
      simp [gvc, gvm, cpy, rd_wrx, ne, n0]
      exact q6
    · show _ = rd (gvm m j i x) 269 j
      simp [gvc, gvm, cpy, rd_wrx, ne, n0]
    · show _ = rd (gvm m j i x) 260 j
      simp [gvc, gvm, cpy, rd_wrx, ne, n0]
      exact q7
    · show _ = rd (gvm m j i x) 261 j
      simp [gvc, gvm, cpy, rd_wrx, ne, n0]
      exact q7
    · show _ = rd (gvm m j i x) 270 j
      simp [gvc, gvm, cpy, rd_wrx, ne, n0]
    · show _ = rd (gvm m j i x) 271 j
      simp [gvc, gvm, cpy, rd_wrx, ne, n0]
    · show _ = rd (gvm m j i x) 272 j
      simp [gvc, gvm, cpy, rd_wrx, ne, n0]
  · have q := sa_in f hf
    rw [gvc_o (by omega) (by omega) (by omega), gvm_o (by omega) (by omega) (by omega)]
    exact S j hj f hf
theorem gv_Q (Q : QXX a m) (hi : i < 60) (hn : n < 60) : QXX (gvc a n i x) (gvm m n i x) := by
  intro j hj f hf f10
  have q := qa_in f hf
  by_cases c : j = i ∧ (f = 9 ∨ f = 11 ∨ f = 12)
  · obtain ⟨rfl, c⟩ := c
    rcases c with rfl | rfl | rfl
    · show _ = rd (gvm m n j x) 254 j
      simp [gvc, gvm, cpy, rd_wrx]
    · show _ = rd (gvm m n j x) 256 j
      simp [gvc, gvm, cpy, rd_wrx]
    · show _ = rd (gvm m n j x) 257 j
      simp [gvc, gvm, cpy, rd_wrx]
  · rw [gvc_o (by omega) (by omega) (by omega), gvm_o (by omega) ?_ (by omega)]
    · exact Q j hj f hf f10
    · rintro ⟨z, rfl⟩
      refine c ⟨rfl, ?_⟩
      rcases z with z | z | z
      · exact Or.inl (qa_inj f hf 9 (by decide) z)
      · exact Or.inr (Or.inl (qa_inj f hf 11 (by decide) z))
      · exact Or.inr (Or.inr (qa_inj f hf 12 (by decide) z))
/-- counting without one -/
theorem cnt_X {f : Nat → Bool} : ∀ n, i < n → f i = true → cnt f n = cnt (fun k => f k && decide (k ≠ i)) n + 1
  | 0, h, _ => by omega
  | n + 1, h, e => by
    unfold cnt
    by_cases c : i = n
    · subst c
      have q : cnt f i = cnt (fun k => f k && decide (k ≠ i)) i := cnt_ext i (fun k hk => by rw [decide_eq_true (show k ≠ i by omega), Bool.and_true])
      rw [q]
      show _ + _ = _ + (match (f i && decide (i ≠ i)) with | true => 1 | false => 0) + 1
      rw [e, decide_eq_false (show ¬ (i ≠ i) from fun z => z rfl), Bool.and_false]
      rfl
    · rw [cnt_X n (by omega) e]
      show _ + 1 + (match f n with | true => 1 | false => 0) = _ + (match (f n && decide (n ≠ i)) with | true => 1 | false => 0) + 1
      rw [decide_eq_true (show n ≠ i by omega), Bool.and_true]
      exact Nat.add_right_comm _ _ _
theorem cnt_X0 {f : Nat → Bool} (n : Nat) (e : f i = false) : cnt f n = cnt (fun k => f k && decide (k ≠ i)) n := by
  apply cnt_ext
  intro k hk
  by_cases c : k = i
  · rw [c, e]
    rfl
  · rw [decide_eq_true (show k ≠ i from c), Bool.and_true]
theorem cnt_XX {f g : Nat → Bool} (n : Nat) (e : ∀ k, k ≠ i → f k = g k) : cnt (fun k => f k && decide (k ≠ i)) n = cnt (fun k => g k && decide (k ≠ i)) n := by
  apply cnt_ext
  intro k hk
  by_cases c : k = i
  · rw [decide_eq_false (show ¬ (k ≠ i) from fun z => z c), Bool.and_false, Bool.and_false]
  · rw [e k c]
end JS
