/-! the law's own runs are counted: its steps, with the room that each may take -/
theorem stp_up {ft : Nat → Option Ent} {cl : List Fn} {hn : List (Nat × Int32)} {sw : List (List Nat)} {K K' : Kt} (hK : ∀ (pc : Nat) (ls st : List Value) (h : Hp) (r : (Option Value × Hp) ⊕ (Nat × Hp)), K pc ls st h = some r → K' pc ls st h = some r) {pc : Nat} {ls st : List Value} {h : Hp} {r : (Option Value × Hp) ⊕ (Nat × Hp)} (e : stp SKc SKn SKr CS ft cl hn sw K pc ls st h = some r) : stp SKc SKn SKr CS ft cl hn sw K' pc ls st h = some r := by
  rcases stp_l2 SKc SKn SKr CS ft cl hn sw pc ls st h with ⟨p2, l2, s2, h2, q⟩ | ⟨r2, q⟩
  · rw [q] at e ⊢
    exact hK _ _ _ _ _ e
  · rw [q] at e ⊢
    exact e
theorem exN_kl {ft : Nat → Option Ent} {cl : List Fn} {hn : List (Nat × Int32)} {sw : List (List Nat)} (n pc : Nat) (ls st : List Value) (h : Hp) : exN SKc SKn SKr CS ft cl hn sw n pc (kl (msk ft pc) ls) st h = exN SKc SKn SKr CS ft cl hn sw n pc ls st h := by
  cases n with
  | zero => rfl
  | succ n =>
    show stp SKc SKn SKr CS ft cl hn sw _ pc _ st h = stp SKc SKn SKr CS ft cl hn sw _ pc ls st h
    unfold stp msk
    rcases ft pc with _ | ⟨m, i, len, b, c, d, x⟩
    · rfl
    · show stI SKc SKn SKr CS cl hn sw i len b c d x _ pc (kl m (kl m ls)) st h = _
      rw [kl_kl]
theorem exN_it {ft : Nat → Option Ent} {cl : List Fn} {hn : List (Nat × Int32)} {sw : List (List Nat)} {cuts : List Nat} {n : Nat} : ∀ (k pc : Nat) (ls st : List Value) (h : Hp) (r : (Option Value × Hp) ⊕ (Nat × Hp)), itK SKc SKn SKr CS ft cl hn sw cuts (exN SKc SKn SKr CS ft cl hn sw n) k pc ls st h = some r → exN SKc SKn SKr CS ft cl hn sw (n + k) pc ls st h = some r := by
  intro k
  induction k with
  | zero => intro pc ls st h r e; exact e
  | succ k ih =>
    intro pc ls st h r e
    show stp SKc SKn SKr CS ft cl hn sw (exN SKc SKn SKr CS ft cl hn sw (n + k)) pc ls st h = some r
    refine stp_up (K := fun pc2 ls2 st2 h2 => match memb pc2 cuts with
      | true => exN SKc SKn SKr CS ft cl hn sw n pc2 (kl (msk ft pc2) ls2) st2 h2
      | false => itK SKc SKn SKr CS ft cl hn sw cuts (exN SKc SKn SKr CS ft cl hn sw n) k pc2 ls2 st2 h2) (fun pc2 ls2 st2 h2 r2 e2 => ?_) e
    cases e9 : memb pc2 cuts with
    | true =>
      simp only [e9] at e2
      rw [exN_kl] at e2
      exact exN_le SKc SKn SKr CS ft cl hn sw (Nat.le_add_right n k) _ _ _ _ _ e2
    | false =>
      simp only [e9] at e2
      exact ih _ _ _ _ _ e2
def T_L_law_0 : List (Nat × Ent) := [(13, ([], .aload_n 1, 1, 1, 0, 0, 0)),
  (14, ([], .invokevirtual 142, 3, 0, 5, 0, 0)),
  (17, ([], .ifCond .ne 39, 3, 56, 0, 0, 0)),
  (20, ([], .aload_n 1, 1, 1, 0, 0, 0)),
  (21, ([], .invokevirtual 145, 3, 1, 5, 0, 0)),
  (24, ([], .ifCond .ne 32, 3, 56, 0, 0, 0)),
  (27, ([], .aload_n 1, 1, 1, 0, 0, 0)),
  (28, ([], .iconst 0, 1, 0, 0, 0, 0)),
  (29, ([], .invokevirtual 132, 3, 2, 9, 0, 0)),
  (32, ([], .ifCond .ne 24, 3, 56, 0, 0, 0)),
  (35, ([], .aload_n 1, 1, 1, 0, 0, 0)),
  (36, ([], .iconst 3, 1, 0, 0, 0, 3)),
  (37, ([], .iconst 3, 1, 0, 0, 0, 3)),
  (38, ([], .invokevirtual 107, 3, 3, 13, 0, 0)),
  (41, ([], .ifCond .eq 15, 3, 56, 0, 0, 0)),
  (44, ([], .aload_n 1, 1, 1, 0, 0, 0)),
  (45, ([], .iconst 2, 1, 0, 0, 0, 2)),
  (46, ([], .invokevirtual 129, 3, 4, 9, 0, 0)),
  (49, ([], .ifCond .ne 7, 3, 56, 0, 0, 0)),
  (52, ([], .iconst 1, 1, 0, 0, 0, 1)),
  (53, ([], .goto 4, 3, 57, 0, 0, 0)),
  (56, ([false, false, false, true, true, true], .iconst 0, 1, 0, 0, 0, 0)),
  (57, ([false, false, false, true, true, true], .istore_n 3, 1, 3, 0, 0, 0)),
  (58, ([], .aload_n 0, 1, 0, 0, 0, 0)),
  (59, ([], .arraylength, 1, 0, 0, 0, 0)),
  (60, ([], .iconst 3, 1, 0, 0, 0, 3)),
  (61, ([], .idiv, 1, 0, 0, 0, 0)),
  (62, ([], .bipush 80, 2, 0, 0, 0, 80))]
def T_L_law_1 : List (Nat × Ent) := [(64, ([], .if_icmp .le 8, 3, 72, 0, 0, 0)),
  (67, ([], .bipush 80, 2, 0, 0, 0, 80)),
  (69, ([], .goto 7, 3, 76, 0, 0, 0)),
  (72, ([], .aload_n 0, 1, 0, 0, 0, 0)),
  (73, ([], .arraylength, 1, 0, 0, 0, 0)),
  (74, ([], .iconst 3, 1, 0, 0, 0, 3)),
  (75, ([], .idiv, 1, 0, 0, 0, 0)),
  (76, ([false, false, false, false, true, true], .istore 4, 2, 4, 0, 0, 0)),
  (78, ([], .iconst 0, 1, 0, 0, 0, 0)),
  (79, ([], .istore 5, 2, 5, 0, 0, 0)),
  (81, ([false, false, false, false, false, false], .iload 5, 2, 5, 0, 0, 0)),
  (83, ([], .iload 4, 2, 4, 0, 0, 0)),
  (85, ([], .if_icmp .ge 47, 3, 132, 0, 0, 0)),
  (88, ([], .iload_n 3, 1, 3, 0, 0, 0)),
  (89, ([], .ifCond .eq 43, 3, 132, 0, 0, 0)),
  (92, ([], .aload_n 1, 1, 1, 0, 0, 0)),
  (93, ([], .aload_n 2, 1, 2, 0, 0, 0)),
  (94, ([], .aload_n 0, 1, 0, 0, 0, 0)),
  (95, ([], .iconst 3, 1, 0, 0, 0, 3)),
  (96, ([], .iload 5, 2, 5, 0, 0, 0)),
  (98, ([], .imul, 1, 0, 0, 0, 0)),
  (99, ([], .invokestatic 149, 3, 5, 9, 99, 0)),
  (102, ([], .aload_n 0, 1, 0, 0, 0, 0)),
  (103, ([], .iconst 3, 1, 0, 0, 0, 3)),
  (104, ([], .iload 5, 2, 5, 0, 0, 0)),
  (106, ([], .imul, 1, 0, 0, 0, 0)),
  (107, ([], .iconst 1, 1, 0, 0, 0, 1)),
  (108, ([], .iadd, 1, 0, 0, 0, 0)),
  (109, ([], .invokestatic 149, 3, 5, 9, 99, 0)),
  (112, ([], .aload_n 0, 1, 0, 0, 0, 0)),
  (113, ([], .iconst 3, 1, 0, 0, 0, 3)),
  (114, ([], .iload 5, 2, 5, 0, 0, 0)),
  (116, ([], .imul, 1, 0, 0, 0, 0)),
  (117, ([], .iconst 2, 1, 0, 0, 0, 2)),
  (118, ([], .iadd, 1, 0, 0, 0, 0)),
  (119, ([], .invokestatic 149, 3, 5, 9, 99, 0)),
  (122, ([], .invokestatic 153, 3, 6, 21, 99, 0)),
  (125, ([], .istore_n 3, 1, 3, 0, 0, 0)),
  (126, ([], .iinc 5 1, 3, 5, 0, 0, 1))]
def T_L_law_2 : List (Nat × Ent) := [(129, ([], .goto (-48), 3, 81, 0, 0, 0)),
  (132, ([true, false, false, false, true, true], .iload_n 3, 1, 3, 0, 0, 0)),
  (133, ([], .ifCond .eq 16, 3, 149, 0, 0, 0)),
  (136, ([], .aload_n 1, 1, 1, 0, 0, 0)),
  (137, ([], .aload_n 2, 1, 2, 0, 0, 0)),
  (138, ([], .iconst 0, 1, 0, 0, 0, 0)),
  (139, ([], .invokestatic 135, 3, 7, 13, 99, 0)),
  (142, ([], .ifCond .eq 7, 3, 149, 0, 0, 0)),
  (145, ([], .iconst 1, 1, 0, 0, 0, 1)),
  (146, ([], .goto 4, 3, 150, 0, 0, 0)),
  (149, ([], .iconst 0, 1, 0, 0, 0, 0)),
  (150, ([], .ireturn, 1, 0, 1, 0, 0))]
def T_L_law : List (List (Nat × Ent)) := [T_L_law_0, T_L_law_1, T_L_law_2]
noncomputable def E_L_law (n : Nat) : Kt := exN SKc SKn SKr CS (lk2 T_L_law) [F_X6_season, F_X6_rights, F_X6_count, F_X6_isNew, F_X6_noise, F_L_draw, F_L_step, F_L_areOrdered] [] [] n
noncomputable def f_L_law_13 (n : Nat) (h : Hp) : Res := E_L_law n 13 [.ref 1000, .ref 0, .ref 227, .retAddr 0, .retAddr 0, .retAddr 0] [] h
noncomputable def f_L_law_56 (n : Nat) (h : Hp) : Res := E_L_law n 56 [.ref 1000, .ref 0, .ref 227, .retAddr 0, .retAddr 0, .retAddr 0] [] h
noncomputable def f_L_law_57 (n : Nat) (s0 : Int32) (h : Hp) : Res := E_L_law n 57 [.ref 1000, .ref 0, .ref 227, .retAddr 0, .retAddr 0, .retAddr 0] [.int s0] h
noncomputable def f_L_law_76 (n : Nat) (x3 : Int32) (s0 : Int32) (h : Hp) : Res := E_L_law n 76 [.ref 1000, .ref 0, .ref 227, .int x3, .retAddr 0, .retAddr 0] [.int s0] h
noncomputable def f_L_law_81 (n : Nat) (x3 : Int32) (x4 : Int32) (x5 : Int32) (h : Hp) : Res := E_L_law n 81 [.ref 1000, .ref 0, .ref 227, .int x3, .int x4, .int x5] [] h
noncomputable def f_L_law_132 (n : Nat) (x3 : Int32) (h : Hp) : Res := E_L_law n 132 [.retAddr 0, .ref 0, .ref 227, .int x3, .retAddr 0, .retAddr 0] [] h
set_option maxRecDepth 100000 in
set_option maxHeartbeats 4000000 in
theorem e_L_law_13 {n : Nat} {h : Hp} {r : (Option Value × Hp) ⊕ (Nat × Hp)} (e : (bI (F_X6_season [.ref 0] h) (fun v2 h1 => if v2 = 0 then bI (F_X6_rights [.ref 0] h1) (fun v4 h3 => if v4 = 0 then bI (F_X6_count [.ref 0, .int 0] h3) (fun v6 h5 => if v6 = 0 then bI (F_X6_isNew [.ref 0, .int 3, .int 3] h5) (fun v8 h7 => if v8 = 0 then f_L_law_56 n h7 else bI (F_X6_noise [.ref 0, .int 2] h7) (fun v10 h9 => if v10 = 0 then f_L_law_57 n 1 h9 else f_L_law_56 n h9) (hnk [])) (hnk []) else f_L_law_56 n h5) (hnk []) else f_L_law_56 n h3) (hnk []) else f_L_law_56 n h1) (hnk [])) = some r) : f_L_law_13 (n + 21) h = some r :=
  exN_it (ft := (lk2 T_L_law)) (cl := [F_X6_season, F_X6_rights, F_X6_count, F_X6_isNew, F_X6_noise, F_L_draw, F_L_step, F_L_areOrdered]) (hn := []) (sw := []) (cuts := [56, 57, 76, 81, 132]) 21 13 [.ref 1000, .ref 0, .ref 227, .retAddr 0, .retAddr 0, .retAddr 0] [] h r e
set_option maxRecDepth 100000 in
set_option maxHeartbeats 4000000 in
theorem e_L_law_56 {n : Nat} {h : Hp} {r : (Option Value × Hp) ⊕ (Nat × Hp)} (e : (f_L_law_57 n 0 h) = some r) : f_L_law_56 (n + 1) h = some r :=
  exN_it (ft := (lk2 T_L_law)) (cl := [F_X6_season, F_X6_rights, F_X6_count, F_X6_isNew, F_X6_noise, F_L_draw, F_L_step, F_L_areOrdered]) (hn := []) (sw := []) (cuts := [56, 57, 76, 81, 132]) 1 56 [.ref 1000, .ref 0, .ref 227, .retAddr 0, .retAddr 0, .retAddr 0] [] h r e
set_option maxRecDepth 100000 in
set_option maxHeartbeats 4000000 in
theorem e_L_law_57 {n : Nat} {s0 : Int32} {h : Hp} {r : (Option Value × Hp) ⊕ (Nat × Hp)} (e : (gd (!decide (3 = 0)) (if 80 < ((Int32.ofNat (rd h SCRB 0).toNatClampNeg) / 3) then f_L_law_76 n s0 80 h else gd (!decide (3 = 0)) (f_L_law_76 n s0 ((Int32.ofNat (rd h SCRB 0).toNatClampNeg) / 3) h))) = some r) : f_L_law_57 (n + 11) s0 h = some r :=
  exN_it (ft := (lk2 T_L_law)) (cl := [F_X6_season, F_X6_rights, F_X6_count, F_X6_isNew, F_X6_noise, F_L_draw, F_L_step, F_L_areOrdered]) (hn := []) (sw := []) (cuts := [56, 57, 76, 81, 132]) 11 57 [.ref 1000, .ref 0, .ref 227, .retAddr 0, .retAddr 0, .retAddr 0] [.int s0] h r e
set_option maxRecDepth 100000 in
set_option maxHeartbeats 4000000 in
theorem e_L_law_76 {n : Nat} {x3 : Int32} {s0 : Int32} {h : Hp} {r : (Option Value × Hp) ⊕ (Nat × Hp)} (e : (f_L_law_81 n x3 s0 0 h) = some r) : f_L_law_76 (n + 3) x3 s0 h = some r :=
  exN_it (ft := (lk2 T_L_law)) (cl := [F_X6_season, F_X6_rights, F_X6_count, F_X6_isNew, F_X6_noise, F_L_draw, F_L_step, F_L_areOrdered]) (hn := []) (sw := []) (cuts := [56, 57, 76, 81, 132]) 3 76 [.ref 1000, .ref 0, .ref 227, .int x3, .retAddr 0, .retAddr 0] [.int s0] h r e
set_option maxRecDepth 100000 in
set_option maxHeartbeats 4000000 in
theorem e_L_law_81 {n : Nat} {x3 : Int32} {x4 : Int32} {x5 : Int32} {h : Hp} {r : (Option Value × Hp) ⊕ (Nat × Hp)} (e : (if x5 < x4 then if x3 = 0 then f_L_law_132 n x3 h else bI (F_L_draw [.ref 1000, .int (3 * x5)] h) (fun v2 h1 => bI (F_L_draw [.ref 1000, .int ((3 * x5) + 1)] h1) (fun v4 h3 => bI (F_L_draw [.ref 1000, .int ((3 * x5) + 2)] h3) (fun v6 h5 => bI (F_L_step [.ref 0, .ref 227, .int v2, .int v4, .int v6] h5) (fun v8 h7 => f_L_law_81 n v8 x4 (x5 + 1) h7) (hnk [])) (hnk [])) (hnk [])) (hnk []) else f_L_law_132 n x3 h) = some r) : f_L_law_81 (n + 30) x3 x4 x5 h = some r :=
  exN_it (ft := (lk2 T_L_law)) (cl := [F_X6_season, F_X6_rights, F_X6_count, F_X6_isNew, F_X6_noise, F_L_draw, F_L_step, F_L_areOrdered]) (hn := []) (sw := []) (cuts := [56, 57, 76, 81, 132]) 30 81 [.ref 1000, .ref 0, .ref 227, .int x3, .int x4, .int x5] [] h r e
set_option maxRecDepth 100000 in
set_option maxHeartbeats 4000000 in
theorem e_L_law_132 {n : Nat} {x3 : Int32} {h : Hp} {r : (Option Value × Hp) ⊕ (Nat × Hp)} (e : (if x3 = 0 then rtn (some (.int 0)) h else bI (F_L_areOrdered [.ref 0, .ref 227, .int 0] h) (fun v2 h1 => if v2 = 0 then rtn (some (.int 0)) h1 else rtn (some (.int 1)) h1) (hnk [])) = some r) : f_L_law_132 (n + 10) x3 h = some r :=
  exN_it (ft := (lk2 T_L_law)) (cl := [F_X6_season, F_X6_rights, F_X6_count, F_X6_isNew, F_X6_noise, F_L_draw, F_L_step, F_L_areOrdered]) (hn := []) (sw := []) (cuts := [56, 57, 76, 81, 132]) 10 132 [.retAddr 0, .ref 0, .ref 227, .int x3, .retAddr 0, .retAddr 0] [] h r e
