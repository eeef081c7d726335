def T_X0_ruleAt : List (Nat × Ent) := [(0, ([], .iload_n 1, 1, 1, 0, 0, 0)),
  (1, ([], .ifCond .lt 20, 3, 21, 0, 0, 0)),
  (4, ([], .iload_n 1, 1, 1, 0, 0, 0)),
  (5, ([], .aload_n 0, 1, 0, 0, 0, 0)),
  (6, ([], .getfield 26, 3, 2, 4, 88, 0)),
  (9, ([], .if_icmp .ge 12, 3, 21, 0, 0, 0)),
  (12, ([], .iload_n 1, 1, 1, 0, 0, 0)),
  (13, ([], .aload_n 0, 1, 0, 0, 0, 0)),
  (14, ([], .getfield 11, 3, 0, 5, 86, 0)),
  (17, ([], .arraylength, 1, 0, 0, 0, 0)),
  (18, ([], .if_icmp .lt 13, 3, 31, 0, 0, 0)),
  (21, ([true, true], .new 29, 3, 0, 0, 0, 0)),
  (31, ([], .aload_n 0, 1, 0, 0, 0, 0)),
  (32, ([], .getfield 11, 3, 0, 5, 86, 0)),
  (35, ([], .iload_n 1, 1, 1, 0, 0, 0)),
  (36, ([], .aaload, 1, 0, 0, 0, 0)),
  (37, ([], .areturn, 1, 0, 0, 0, 0))]
noncomputable def E_X0_ruleAt : Kt := exL SKc SKn SKr CS (lkp T_X0_ruleAt) [] [] []
noncomputable def F_X0_ruleAt : Fn := fun as h => gd (chkA 2 as) (E_X0_ruleAt 0 (pad 2 as) [] h)
noncomputable def f_X0_ruleAt_21 (h : Hp) : Res := E_X0_ruleAt 21 [.retAddr 0, .retAddr 0] [] h
set_option maxRecDepth 100000 in
set_option maxHeartbeats 4000000 in
theorem e_X0_ruleAt_0 (a0 : Nat) (x1 : Int32) (h : Hp) : F_X0_ruleAt [.ref a0, .int x1] h = if x1 < 0 then f_X0_ruleAt_21 h else gd (okc a0 2) (if x1 < (rd h a0 2) then gd (okc a0 2) (gd (memb (SKc (SKr a0 0)) [10, 11, 12, 13, 14, 15, 16, 17, 18]) (if x1 < (Int32.ofNat (alen SKn h (SKr a0 0))) then gd (okc a0 2) (gd (memb (SKc (SKr a0 0)) [13, 14, 15, 16, 17] && inb x1 (SKn (SKr a0 0))) (rtn (some (.ref (SKr (SKr a0 0) x1.toNatClampNeg))) h)) else f_X0_ruleAt_21 h)) else f_X0_ruleAt_21 h) :=
  (exL_it SKc SKn SKr CS (lkp T_X0_ruleAt) [] [] [] [21] 16 0 [.ref a0, .int x1] [] h).trans rfl
set_option maxRecDepth 100000 in
set_option maxHeartbeats 4000000 in
theorem e_X0_ruleAt_21 (h : Hp) : f_X0_ruleAt_21 h = thr 0 h :=
  (exL_it SKc SKn SKr CS (lkp T_X0_ruleAt) [] [] [] [21] 1 21 [.retAddr 0, .retAddr 0] [] h).trans rfl

def T_X0_bars : List (Nat × Ent) := [(0, ([], .iload_n 1, 1, 1, 0, 0, 0)),
  (1, ([], .aload_n 0, 1, 0, 0, 0, 0)),
  (2, ([], .getfield 36, 3, 3, 4, 90, 0)),
  (5, ([], .if_icmp .lt 15, 3, 20, 0, 0, 0)),
  (8, ([], .iload_n 1, 1, 1, 0, 0, 0)),
  (9, ([], .aload_n 0, 1, 0, 0, 0, 0)),
  (10, ([], .getfield 39, 3, 4, 4, 92, 0)),
  (13, ([], .if_icmp .ge 7, 3, 20, 0, 0, 0)),
  (16, ([], .iconst 1, 1, 0, 0, 0, 1)),
  (17, ([], .goto 4, 3, 21, 0, 0, 0)),
  (20, ([], .iconst 0, 1, 0, 0, 0, 0)),
  (21, ([], .ireturn, 1, 0, 1, 0, 0))]
noncomputable def E_X0_bars : Kt := exL SKc SKn SKr CS (lkp T_X0_bars) [] [] []
noncomputable def F_X0_bars : Fn := fun as h => gd (chkA 2 as) (E_X0_bars 0 (pad 2 as) [] h)
set_option maxRecDepth 100000 in
set_option maxHeartbeats 4000000 in
theorem e_X0_bars_0 (a0 : Nat) (x1 : Int32) (h : Hp) : F_X0_bars [.ref a0, .int x1] h = gd (okc a0 2) (if x1 < (rd h a0 3) then rtn (some (.int 0)) h else gd (okc a0 2) (if x1 < (rd h a0 4) then rtn (some (.int 1)) h else rtn (some (.int 0)) h)) :=
  (exL_it SKc SKn SKr CS (lkp T_X0_bars) [] [] [] [] 11 0 [.ref a0, .int x1] [] h).trans rfl

def T_X0_closedWeeksOn : List (Nat × Ent) := [(0, ([], .iload_n 1, 1, 1, 0, 0, 0)),
  (1, ([], .ifCond .lt 21, 3, 22, 0, 0, 0)),
  (4, ([], .iload_n 1, 1, 1, 0, 0, 0)),
  (5, ([], .aload_n 0, 1, 0, 0, 0, 0)),
  (6, ([], .getfield 17, 3, 1, 5, 87, 0)),
  (9, ([], .arraylength, 1, 0, 0, 0, 0)),
  (10, ([], .if_icmp .ge 12, 3, 22, 0, 0, 0)),
  (13, ([], .aload_n 0, 1, 0, 0, 0, 0)),
  (14, ([], .getfield 17, 3, 1, 5, 87, 0)),
  (17, ([], .iload_n 1, 1, 1, 0, 0, 0)),
  (18, ([], .iaload, 1, 0, 0, 0, 0)),
  (19, ([], .goto 4, 3, 23, 0, 0, 0)),
  (22, ([], .iconst 0, 1, 0, 0, 0, 0)),
  (23, ([], .ireturn, 1, 0, 0, 0, 0))]
noncomputable def E_X0_closedWeeksOn : Kt := exL SKc SKn SKr CS (lkp T_X0_closedWeeksOn) [] [] []
noncomputable def F_X0_closedWeeksOn : Fn := fun as h => gd (chkA 2 as) (E_X0_closedWeeksOn 0 (pad 2 as) [] h)
set_option maxRecDepth 100000 in
set_option maxHeartbeats 4000000 in
theorem e_X0_closedWeeksOn_0 (a0 : Nat) (x1 : Int32) (h : Hp) : F_X0_closedWeeksOn [.ref a0, .int x1] h = if x1 < 0 then rtn (some (.int 0)) h else gd (okc a0 2) (gd (memb (SKc (SKr a0 1)) [10, 11, 12, 13, 14, 15, 16, 17, 18]) (if x1 < (Int32.ofNat (alen SKn h (SKr a0 1))) then gd (okc a0 2) (gd (memb (SKc (SKr a0 1)) [10, 18] && inb x1 (alen SKn h (SKr a0 1))) (rtn (some (.int (rd h (SKr a0 1) x1.toNatClampNeg))) h)) else rtn (some (.int 0)) h)) :=
  (exL_it SKc SKn SKr CS (lkp T_X0_closedWeeksOn) [] [] [] [] 13 0 [.ref a0, .int x1] [] h).trans rfl

def T_X0_closeWeeksOn : List (Nat × Ent) := [(0, ([], .iload_n 1, 1, 1, 0, 0, 0)),
  (1, ([], .ifCond .lt 22, 3, 23, 0, 0, 0)),
  (4, ([], .iload_n 1, 1, 1, 0, 0, 0)),
  (5, ([], .aload_n 0, 1, 0, 0, 0, 0)),
  (6, ([], .getfield 17, 3, 1, 5, 87, 0)),
  (9, ([], .arraylength, 1, 0, 0, 0, 0)),
  (10, ([], .if_icmp .ge 13, 3, 23, 0, 0, 0)),
  (13, ([], .aload_n 0, 1, 0, 0, 0, 0)),
  (14, ([], .getfield 17, 3, 1, 5, 87, 0)),
  (17, ([], .iload_n 1, 1, 1, 0, 0, 0)),
  (18, ([], .dup2, 1, 0, 0, 0, 0)),
  (19, ([], .iaload, 1, 0, 0, 0, 0)),
  (20, ([], .iload_n 2, 1, 2, 0, 0, 0)),
  (21, ([], .ior, 1, 0, 0, 0, 0)),
  (22, ([], .iastore, 1, 0, 0, 0, 0)),
  (23, ([], .return_, 1, 0, 0, 0, 0))]
noncomputable def E_X0_closeWeeksOn : Kt := exL SKc SKn SKr CS (lkp T_X0_closeWeeksOn) [] [] []
noncomputable def F_X0_closeWeeksOn : Fn := fun as h => gd (chkA 3 as) (E_X0_closeWeeksOn 0 (pad 3 as) [] h)
set_option maxRecDepth 100000 in
set_option maxHeartbeats 4000000 in
theorem e_X0_closeWeeksOn_0 (a0 : Nat) (x1 : Int32) (x2 : Int32) (h : Hp) : F_X0_closeWeeksOn [.ref a0, .int x1, .int x2] h = if x1 < 0 then rtn none h else gd (okc a0 2) (gd (memb (SKc (SKr a0 1)) [10, 11, 12, 13, 14, 15, 16, 17, 18]) (if x1 < (Int32.ofNat (alen SKn h (SKr a0 1))) then gd (okc a0 2) (gd (memb (SKc (SKr a0 1)) [10, 18] && inb x1 (alen SKn h (SKr a0 1))) (gd (Nat.beq (SKc (SKr a0 1)) 10 && inb x1 (SKn (SKr a0 1))) (rtn none (wr h (SKr a0 1) x1.toNatClampNeg ((rd h (SKr a0 1) x1.toNatClampNeg) ||| x2))))) else rtn none h)) :=
  (exL_it SKc SKn SKr CS (lkp T_X0_closeWeeksOn) [] [] [] [] 16 0 [.ref a0, .int x1, .int x2] [] h).trans rfl

def T_X0_openAllDays : List (Nat × Ent) := [(0, ([], .iconst 0, 1, 0, 0, 0, 0)),
  (1, ([], .istore_n 1, 1, 1, 0, 0, 0)),
  (2, ([false, false], .iload_n 1, 1, 1, 0, 0, 0)),
  (3, ([], .aload_n 0, 1, 0, 0, 0, 0)),
  (4, ([], .getfield 17, 3, 1, 5, 87, 0)),
  (7, ([], .arraylength, 1, 0, 0, 0, 0)),
  (8, ([], .if_icmp .ge 16, 3, 24, 0, 0, 0)),
  (11, ([], .aload_n 0, 1, 0, 0, 0, 0)),
  (12, ([], .getfield 17, 3, 1, 5, 87, 0)),
  (15, ([], .iload_n 1, 1, 1, 0, 0, 0)),
  (16, ([], .iconst 0, 1, 0, 0, 0, 0)),
  (17, ([], .iastore, 1, 0, 0, 0, 0)),
  (18, ([], .iinc 1 1, 3, 1, 0, 0, 1)),
  (21, ([], .goto (-19), 3, 2, 0, 0, 0)),
  (24, ([], .return_, 1, 0, 0, 0, 0))]
noncomputable def E_X0_openAllDays : Kt := exL SKc SKn SKr CS (lkp T_X0_openAllDays) [] [] []
noncomputable def F_X0_openAllDays : Fn := fun as h => gd (chkA 1 as) (E_X0_openAllDays 0 (pad 2 as) [] h)
noncomputable def f_X0_openAllDays_2 (a0 : Nat) (x1 : Int32) (h : Hp) : Res := E_X0_openAllDays 2 [.ref a0, .int x1] [] h
set_option maxRecDepth 100000 in
set_option maxHeartbeats 4000000 in
theorem e_X0_openAllDays_0 (a0 : Nat) (h : Hp) : F_X0_openAllDays [.ref a0] h = f_X0_openAllDays_2 a0 0 h :=
  (exL_it SKc SKn SKr CS (lkp T_X0_openAllDays) [] [] [] [2] 2 0 [.ref a0, .retAddr 0] [] h).trans rfl
set_option maxRecDepth 100000 in
set_option maxHeartbeats 4000000 in
theorem e_X0_openAllDays_2 (a0 : Nat) (x1 : Int32) (h : Hp) : f_X0_openAllDays_2 a0 x1 h = gd (okc a0 2) (gd (memb (SKc (SKr a0 1)) [10, 11, 12, 13, 14, 15, 16, 17, 18]) (if x1 < (Int32.ofNat (alen SKn h (SKr a0 1))) then gd (okc a0 2) (gd (Nat.beq (SKc (SKr a0 1)) 10 && inb x1 (SKn (SKr a0 1))) (f_X0_openAllDays_2 a0 (x1 + 1) (wr h (SKr a0 1) x1.toNatClampNeg 0))) else rtn none h)) :=
  (exL_it SKc SKn SKr CS (lkp T_X0_openAllDays) [] [] [] [2] 12 2 [.ref a0, .int x1] [] h).trans rfl

def T_X1_ask : List (Nat × Ent) := [(0, ([], .aload_n 0, 1, 0, 0, 0, 0)),
  (1, ([], .iload_n 1, 1, 1, 0, 0, 0)),
  (2, ([], .putfield 9, 3, 7, 8, 117, 0)),
  (5, ([], .aload_n 0, 1, 0, 0, 0, 0)),
  (6, ([], .iload_n 2, 1, 2, 0, 0, 0)),
  (7, ([], .putfield 15, 3, 8, 8, 120, 0)),
  (10, ([], .aload_n 0, 1, 0, 0, 0, 0)),
  (11, ([], .iconst 0, 1, 0, 0, 0, 0)),
  (12, ([], .putfield 18, 3, 9, 8, 122, 0)),
  (15, ([], .aload_n 0, 1, 0, 0, 0, 0)),
  (16, ([], .iconst 3, 1, 0, 0, 0, 3)),
  (17, ([], .putfield 21, 3, 10, 8, 124, 0)),
  (20, ([], .aload_n 0, 1, 0, 0, 0, 0)),
  (21, ([], .iconst (-1), 1, 0, 0, 0, (-1))),
  (22, ([], .putfield 24, 3, 11, 8, 126, 0)),
  (25, ([], .aload_n 0, 1, 0, 0, 0, 0)),
  (26, ([], .iconst (-1), 1, 0, 0, 0, (-1))),
  (27, ([], .putfield 27, 3, 12, 8, 128, 0)),
  (30, ([], .aload_n 0, 1, 0, 0, 0, 0)),
  (31, ([], .iconst (-1), 1, 0, 0, 0, (-1))),
  (32, ([], .putfield 30, 3, 13, 8, 130, 0)),
  (35, ([], .return_, 1, 0, 0, 0, 0))]
noncomputable def E_X1_ask : Kt := exL SKc SKn SKr CS (lkp T_X1_ask) [] [] []
noncomputable def F_X1_ask : Fn := fun as h => gd (chkA 3 as) (E_X1_ask 0 (pad 3 as) [] h)
set_option maxRecDepth 100000 in
set_option maxHeartbeats 4000000 in
theorem e_X1_ask_0 (a0 : Nat) (x1 : Int32) (x2 : Int32) (h : Hp) : F_X1_ask [.ref a0, .int x1, .int x2] h = gd (okc a0 4) (gd (okc a0 4) (gd (okc a0 4) (gd (okc a0 4) (gd (okc a0 4) (gd (okc a0 4) (gd (okc a0 4) (rtn none (wr (wr (wr (wr (wr (wr (wr h a0 7 x1) a0 8 x2) a0 9 0) a0 10 3) a0 11 (-1)) a0 12 (-1)) a0 13 (-1))))))))) :=
  (exL_it SKc SKn SKr CS (lkp T_X1_ask) [] [] [] [] 22 0 [.ref a0, .int x1, .int x2] [] h).trans rfl

def T_X1_mayBeLinked : List (Nat × Ent) := [(0, ([], .aload_n 0, 1, 0, 0, 0, 0)),
  (1, ([], .getfield 30, 3, 13, 8, 130, 0)),
  (4, ([], .iconst (-1), 1, 0, 0, 0, (-1))),
  (5, ([], .if_icmp .ne 14, 3, 19, 0, 0, 0)),
  (8, ([], .aload_n 0, 1, 0, 0, 0, 0)),
  (9, ([], .getfield 18, 3, 9, 8, 122, 0)),
  (12, ([], .ifCond .ne 7, 3, 19, 0, 0, 0)),
  (15, ([], .iconst 1, 1, 0, 0, 0, 1)),
  (16, ([], .goto 4, 3, 20, 0, 0, 0)),
  (19, ([], .iconst 0, 1, 0, 0, 0, 0)),
  (20, ([], .ireturn, 1, 0, 1, 0, 0))]
noncomputable def E_X1_mayBeLinked : Kt := exL SKc SKn SKr CS (lkp T_X1_mayBeLinked) [] [] []
noncomputable def F_X1_mayBeLinked : Fn := fun as h => gd (chkA 1 as) (E_X1_mayBeLinked 0 (pad 1 as) [] h)
set_option maxRecDepth 100000 in
set_option maxHeartbeats 4000000 in
theorem e_X1_mayBeLinked_0 (a0 : Nat) (h : Hp) : F_X1_mayBeLinked [.ref a0] h = gd (okc a0 4) (if (rd h a0 13) = (-1) then gd (okc a0 4) (if (rd h a0 9) = 0 then rtn (some (.int 1)) h else rtn (some (.int 0)) h) else rtn (some (.int 0)) h) :=
  (exL_it SKc SKn SKr CS (lkp T_X1_mayBeLinked) [] [] [] [] 10 0 [.ref a0] [] h).trans rfl

def T_X1_isInQueue : List (Nat × Ent) := [(0, ([], .aload_n 0, 1, 0, 0, 0, 0)),
  (1, ([], .getfield 18, 3, 9, 8, 122, 0)),
  (4, ([], .iconst 2, 1, 0, 0, 0, 2)),
  (5, ([], .if_icmp .eq 11, 3, 16, 0, 0, 0)),
  (8, ([], .aload_n 0, 1, 0, 0, 0, 0)),
  (9, ([], .getfield 18, 3, 9, 8, 122, 0)),
  (12, ([], .iconst 3, 1, 0, 0, 0, 3)),
  (13, ([], .if_icmp .ne 7, 3, 20, 0, 0, 0)),
  (16, ([], .iconst 1, 1, 0, 0, 0, 1)),
  (17, ([], .goto 4, 3, 21, 0, 0, 0)),
  (20, ([], .iconst 0, 1, 0, 0, 0, 0)),
  (21, ([], .ireturn, 1, 0, 1, 0, 0))]
noncomputable def E_X1_isInQueue : Kt := exL SKc SKn SKr CS (lkp T_X1_isInQueue) [] [] []
noncomputable def F_X1_isInQueue : Fn := fun as h => gd (chkA 1 as) (E_X1_isInQueue 0 (pad 1 as) [] h)
set_option maxRecDepth 100000 in
set_option maxHeartbeats 4000000 in
theorem e_X1_isInQueue_0 (a0 : Nat) (h : Hp) : F_X1_isInQueue [.ref a0] h = gd (okc a0 4) (if (rd h a0 9) = 2 then rtn (some (.int 1)) h else gd (okc a0 4) (if (rd h a0 9) = 3 then rtn (some (.int 1)) h else rtn (some (.int 0)) h)) :=
  (exL_it SKc SKn SKr CS (lkp T_X1_isInQueue) [] [] [] [] 11 0 [.ref a0] [] h).trans rfl

def T_X5_copyFrom : List (Nat × Ent) := [(0, ([], .aload_n 0, 1, 0, 0, 0, 0)),
  (1, ([], .aload_n 1, 1, 1, 0, 0, 0)),
  (2, ([], .getfield 26, 3, 0, 14, 136, 0)),
  (5, ([], .putfield 26, 3, 0, 14, 136, 0)),
  (8, ([], .aload_n 0, 1, 0, 0, 0, 0)),
  (9, ([], .aload_n 1, 1, 1, 0, 0, 0)),
  (10, ([], .getfield 29, 3, 1, 14, 146, 0)),
  (13, ([], .putfield 29, 3, 1, 14, 146, 0)),
  (16, ([], .aload_n 0, 1, 0, 0, 0, 0)),
  (17, ([], .aload_n 1, 1, 1, 0, 0, 0)),
  (18, ([], .getfield 32, 3, 2, 14, 156, 0)),
  (21, ([], .putfield 32, 3, 2, 14, 156, 0)),
  (24, ([], .aload_n 0, 1, 0, 0, 0, 0)),
  (25, ([], .aload_n 1, 1, 1, 0, 0, 0)),
  (26, ([], .getfield 23, 3, 3, 14, 164, 0)),
  (29, ([], .putfield 23, 3, 3, 14, 164, 0)),
  (32, ([], .aload_n 0, 1, 0, 0, 0, 0)),
  (33, ([], .aload_n 1, 1, 1, 0, 0, 0)),
  (34, ([], .getfield 13, 3, 4, 14, 170, 0)),
  (37, ([], .putfield 13, 3, 4, 14, 170, 0)),
  (40, ([], .aload_n 0, 1, 0, 0, 0, 0)),
  (41, ([], .aload_n 1, 1, 1, 0, 0, 0)),
  (42, ([], .getfield 7, 3, 5, 14, 177, 0)),
  (45, ([], .putfield 7, 3, 5, 14, 177, 0)),
  (48, ([], .aload_n 0, 1, 0, 0, 0, 0)),
  (49, ([], .aload_n 1, 1, 1, 0, 0, 0)),
  (50, ([], .getfield 16, 3, 6, 14, 184, 0)),
  (53, ([], .putfield 16, 3, 6, 14, 184, 0)),
  (56, ([], .return_, 1, 0, 0, 0, 0))]
noncomputable def E_X5_copyFrom : Kt := exL SKc SKn SKr CS (lkp T_X5_copyFrom) [] [] []
noncomputable def F_X5_copyFrom : Fn := fun as h => gd (chkA 2 as) (E_X5_copyFrom 0 (pad 2 as) [] h)
set_option maxRecDepth 100000 in
set_option maxHeartbeats 4000000 in
theorem e_X5_copyFrom_0 (a0 : Nat) (a1 : Nat) (h : Hp) : F_X5_copyFrom [.ref a0, .ref a1] h = gd (okc a1 7) (gd (okc a0 7) (gd (okc a1 7) (gd (okc a0 7) (gd (okc a1 7) (gd (okc a0 7) (gd (okc a1 7) (gd (okc a0 7) (gd (okc a1 7) (gd (okc a0 7) (gd (okc a1 7) (gd (okc a0 7) (gd (okc a1 7) (gd (okc a0 7) (rtn none (wr (wr (wr (wr (wr (wr (wr h a0 0 (rd h a1 0)) a0 1 (rd (wr h a0 0 (rd h a1 0)) a1 1)) a0 2 (rd (wr (wr h a0 0 (rd h a1 0)) a0 1 (rd (wr h a0 0 (rd h a1 0)) a1 1)) a1 2)) a0 3 (rd (wr (wr (wr h a0 0 (rd h a1 0)) a0 1 (rd (wr h a0 0 (rd h a1 0)) a1 1)) a0 2 (rd (wr (wr h a0 0 (rd h a1 0)) a0 1 (rd (wr h a0 0 (rd h a1 0)) a1 1)) a1 2)) a1 3)) a0 4 (rd (wr (wr (wr (wr h a0 0 (rd h a1 0)) a0 1 (rd (wr h a0 0 (rd h a1 0)) a1 1)) a0 2 (rd (wr (wr h a0 0 (rd h a1 0)) a0 1 (rd (wr h a0 0 (rd h a1 0)) a1 1)) a1 2)) a0 3 (rd (wr (wr (wr h a0 0 (rd h a1 0)) a0 1 (rd (wr h a0 0 (rd h a1 0)) a1 1)) a0 2 (rd (wr (wr h a0 0 (rd h a1 0)) a0 1 (rd (wr h a0 0 (rd h a1 0)) a1 1)) a1 2)) a1 3)) a1 4)) a0 5 (rd (wr (wr (wr (wr (wr h a0 0 (rd h a1 0)) a0 1 (rd (wr h a0 0 (rd h a1 0)) a1 1)) a0 2 (rd (wr (wr h a0 0 (rd h a1 0)) a0 1 (rd (wr h a0 0 (rd h a1 0)) a1 1)) a1 2)) a0 3 (rd (wr (wr (wr h a0 0 (rd h a1 0)) a0 1 (rd (wr h a0 0 (rd h a1 0)) a1 1)) a0 2 (rd (wr (wr h a0 0 (rd h a1 0)) a0 1 (rd (wr h a0 0 (rd h a1 0)) a1 1)) a1 2)) a1 3)) a0 4 (rd (wr (wr (wr (wr h a0 0 (rd h a1 0)) a0 1 (rd (wr h a0 0 (rd h a1 0)) a1 1)) a0 2 (rd (wr (wr h a0 0 (rd h a1 0)) a0 1 (rd (wr h a0 0 (rd h a1 0)) a1 1)) a1 2)) a0 3 (rd (wr (wr (wr h a0 0 (rd h a1 0)) a0 1 (rd (wr h a0 0 (rd h a1 0)) a1 1)) a0 2 (rd (wr (wr h a0 0 (rd h a1 0)) a0 1 (rd (wr h a0 0 (rd h a1 0)) a1 1)) a1 2)) a1 3)) a1 4)) a1 5)) a0 6 (rd (wr (wr (wr (wr (wr (wr h a0 0 (rd h a1 0)) a0 1 (rd (wr h a0 0 (rd h a1 0)) a1 1)) a0 2 (rd (wr (wr h a0 0 (rd h a1 0)) a0 1 (rd (wr h a0 0 (rd h a1 0)) a1 1)) a1 2)) a0 3 (rd (wr (wr (wr h a0 0 (rd h a1 0)) a0 1 (rd (wr h a0 0 (rd h a1 0)) a1 1)) a0 2 (rd (wr (wr h a0 0 (rd h a1 0)) a0 1 (rd (wr h a0 0 (rd h a1 0)) a1 1)) a1 2)) a1 3)) a0 4 (rd (wr (wr (wr (wr h a0 0 (rd h a1 0)) a0 1 (rd (wr h a0 0 (rd h a1 0)) a1 1)) a0 2 (rd (wr (wr h a0 0 (rd h a1 0)) a0 1 (rd (wr h a0 0 (rd h a1 0)) a1 1)) a1 2)) a0 3 (rd (wr (wr (wr h a0 0 (rd h a1 0)) a0 1 (rd (wr h a0 0 (rd h a1 0)) a1 1)) a0 2 (rd (wr (wr h a0 0 (rd h a1 0)) a0 1 (rd (wr h a0 0 (rd h a1 0)) a1 1)) a1 2)) a1 3)) a1 4)) a0 5 (rd (wr (wr (wr (wr (wr h a0 0 (rd h a1 0)) a0 1 (rd (wr h a0 0 (rd h a1 0)) a1 1)) a0 2 (rd (wr (wr h a0 0 (rd h a1 0)) a0 1 (rd (wr h a0 0 (rd h a1 0)) a1 1)) a1 2)) a0 3 (rd (wr (wr (wr h a0 0 (rd h a1 0)) a0 1 (rd (wr h a0 0 (rd h a1 0)) a1 1)) a0 2 (rd (wr (wr h a0 0 (rd h a1 0)) a0 1 (rd (wr h a0 0 (rd h a1 0)) a1 1)) a1 2)) a1 3)) a0 4 (rd (wr (wr (wr (wr h a0 0 (rd h a1 0)) a0 1 (rd (wr h a0 0 (rd h a1 0)) a1 1)) a0 2 (rd (wr (wr h a0 0 (rd h a1 0)) a0 1 (rd (wr h a0 0 (rd h a1 0)) a1 1)) a1 2)) a0 3 (rd (wr (wr (wr h a0 0 (rd h a1 0)) a0 1 (rd (wr h a0 0 (rd h a1 0)) a1 1)) a0 2 (rd (wr (wr h a0 0 (rd h a1 0)) a0 1 (rd (wr h a0 0 (rd h a1 0)) a1 1)) a1 2)) a1 3)) a1 4)) a1 5)) a1 6)))))))))))))))) :=
  (exL_it SKc SKn SKr CS (lkp T_X5_copyFrom) [] [] [] [] 29 0 [.ref a0, .ref a1] [] h).trans rfl

def T_X2_begin : List (Nat × Ent) := [(0, ([], .aload_n 0, 1, 0, 0, 0, 0)),
  (1, ([], .aload_n 1, 1, 1, 0, 0, 0)),
  (2, ([], .invokevirtual 9, 3, 0, 8, 6, 0)),
  (5, ([], .aload_n 0, 1, 0, 0, 0, 0)),
  (6, ([], .aload_n 1, 1, 1, 0, 0, 0)),
  (7, ([], .getfield 15, 3, 8, 10, 225, 0)),
  (10, ([], .putfield 21, 3, 7, 12, 261, 0)),
  (13, ([], .aload_n 0, 1, 0, 0, 0, 0)),
  (14, ([], .iconst (-1), 1, 0, 0, 0, (-1))),
  (15, ([], .putfield 24, 3, 8, 12, 263, 0)),
  (18, ([], .return_, 1, 0, 0, 0, 0))]
noncomputable def E_X2_begin : Kt := exL SKc SKn SKr CS (lkp T_X2_begin) [F_X5_copyFrom] [] []
noncomputable def F_X2_begin : Fn := fun as h => gd (chkA 2 as) (E_X2_begin 0 (pad 2 as) [] h)
set_option maxRecDepth 100000 in
set_option maxHeartbeats 4000000 in
theorem e_X2_begin_0 (a0 : Nat) (a1 : Nat) (h : Hp) : F_X2_begin [.ref a0, .ref a1] h = gd (okc a0 6) (bV (F_X5_copyFrom [.ref a0, .ref a1] h) (fun h1 => gd (okc a1 5) (gd (okc a0 6) (gd (okc a0 6) (rtn none (wr (wr h1 a0 7 (rd h1 a1 8)) a0 8 (-1)))))) (hnk [])) :=
  (exL_it SKc SKn SKr CS (lkp T_X2_begin) [F_X5_copyFrom] [] [] [] 11 0 [.ref a0, .ref a1] [] h).trans rfl

def T_X2_mayBeClaimed : List (Nat × Ent) := [(0, ([], .aload_n 0, 1, 0, 0, 0, 0)),
  (1, ([], .getfield 24, 3, 8, 12, 263, 0)),
  (4, ([], .iconst (-1), 1, 0, 0, 0, (-1))),
  (5, ([], .if_icmp .ne 40, 3, 45, 0, 0, 0)),
  (8, ([], .aload_n 0, 1, 0, 0, 0, 0)),
  (9, ([], .getfield 21, 3, 7, 12, 261, 0)),
  (12, ([], .iload_n 1, 1, 1, 0, 0, 0)),
  (13, ([], .if_icmp .ne 32, 3, 45, 0, 0, 0)),
  (16, ([], .aload_n 0, 1, 0, 0, 0, 0)),
  (17, ([], .getfield 27, 3, 0, 12, 553094, 0)),
  (20, ([], .iload_n 2, 1, 2, 0, 0, 0)),
  (21, ([], .if_icmp .ne 24, 3, 45, 0, 0, 0)),
  (24, ([], .aload_n 0, 1, 0, 0, 0, 0)),
  (25, ([], .getfield 30, 3, 1, 12, 585870, 0)),
  (28, ([], .iload_n 3, 1, 3, 0, 0, 0)),
  (29, ([], .if_icmp .ne 16, 3, 45, 0, 0, 0)),
  (32, ([], .aload_n 0, 1, 0, 0, 0, 0)),
  (33, ([], .getfield 33, 3, 2, 12, 635034, 0)),
  (36, ([], .iload 4, 2, 4, 0, 0, 0)),
  (38, ([], .if_icmp .ne 7, 3, 45, 0, 0, 0)),
  (41, ([], .iconst 1, 1, 0, 0, 0, 1)),
  (42, ([], .goto 4, 3, 46, 0, 0, 0)),
  (45, ([], .iconst 0, 1, 0, 0, 0, 0)),
  (46, ([], .ireturn, 1, 0, 1, 0, 0))]
noncomputable def E_X2_mayBeClaimed : Kt := exL SKc SKn SKr CS (lkp T_X2_mayBeClaimed) [] [] []
noncomputable def F_X2_mayBeClaimed : Fn := fun as h => gd (chkA 5 as) (E_X2_mayBeClaimed 0 (pad 5 as) [] h)
set_option maxRecDepth 100000 in
set_option maxHeartbeats 4000000 in
theorem e_X2_mayBeClaimed_0 (a0 : Nat) (x1 : Int32) (x2 : Int32) (x3 : Int32) (x4 : Int32) (h : Hp) : F_X2_mayBeClaimed [.ref a0, .int x1, .int x2, .int x3, .int x4] h = gd (okc a0 6) (if (rd h a0 8) = (-1) then gd (okc a0 6) (if (rd h a0 7) = x1 then gd (okc a0 6) (if (rd h a0 0) = x2 then gd (okc a0 6) (if (rd h a0 1) = x3 then gd (okc a0 6) (if (rd h a0 2) = x4 then rtn (some (.int 1)) h else rtn (some (.int 0)) h) else rtn (some (.int 0)) h) else rtn (some (.int 0)) h) else rtn (some (.int 0)) h) else rtn (some (.int 0)) h) :=
  (exL_it SKc SKn SKr CS (lkp T_X2_mayBeClaimed) [] [] [] [] 23 0 [.ref a0, .int x1, .int x2, .int x3, .int x4] [] h).trans rfl

def T_X3_isFor : List (Nat × Ent) := [(0, ([], .aload_n 0, 1, 0, 0, 0, 0)),
  (1, ([], .getfield 9, 3, 0, 6, 74, 0)),
  (4, ([], .iconst 2, 1, 0, 0, 0, 2)),
  (5, ([], .if_icmp .eq 11, 3, 16, 0, 0, 0)),
  (8, ([], .aload_n 0, 1, 0, 0, 0, 0)),
  (9, ([], .getfield 9, 3, 0, 6, 74, 0)),
  (12, ([], .iload_n 1, 1, 1, 0, 0, 0)),
  (13, ([], .if_icmp .ne 7, 3, 20, 0, 0, 0)),
  (16, ([], .iconst 1, 1, 0, 0, 0, 1)),
  (17, ([], .goto 4, 3, 21, 0, 0, 0)),
  (20, ([], .iconst 0, 1, 0, 0, 0, 0)),
  (21, ([], .ireturn, 1, 0, 1, 0, 0))]
noncomputable def E_X3_isFor : Kt := exL SKc SKn SKr CS (lkp T_X3_isFor) [] [] []
noncomputable def F_X3_isFor : Fn := fun as h => gd (chkA 2 as) (E_X3_isFor 0 (pad 2 as) [] h)
set_option maxRecDepth 100000 in
set_option maxHeartbeats 4000000 in
theorem e_X3_isFor_0 (a0 : Nat) (x1 : Int32) (h : Hp) : F_X3_isFor [.ref a0, .int x1] h = gd (okc a0 3) (if (rd h a0 0) = 2 then rtn (some (.int 1)) h else gd (okc a0 3) (if (rd h a0 0) = x1 then rtn (some (.int 1)) h else rtn (some (.int 0)) h)) :=
  (exL_it SKc SKn SKr CS (lkp T_X3_isFor) [] [] [] [] 11 0 [.ref a0, .int x1] [] h).trans rfl

def T_X4_begin : List (Nat × Ent) := [(0, ([], .aload_n 0, 1, 0, 0, 0, 0)),
  (1, ([], .aload_n 1, 1, 1, 0, 0, 0)),
  (2, ([], .invokevirtual 9, 3, 0, 8, 5, 0)),
  (5, ([], .aload_n 0, 1, 0, 0, 0, 0)),
  (6, ([], .iload_n 3, 1, 3, 0, 0, 0)),
  (7, ([], .putfield 15, 3, 3, 10, 667810, 0)),
  (10, ([], .aload_n 0, 1, 0, 0, 0, 0)),
  (11, ([], .iload_n 2, 1, 2, 0, 0, 0)),
  (12, ([], .putfield 19, 3, 7, 10, 223, 0)),
  (15, ([], .aload_n 0, 1, 0, 0, 0, 0)),
  (16, ([], .aload_n 1, 1, 1, 0, 0, 0)),
  (17, ([], .getfield 22, 3, 7, 8, 118, 0)),
  (20, ([], .putfield 27, 3, 8, 10, 226, 0)),
  (23, ([], .aload_n 0, 1, 0, 0, 0, 0)),
  (24, ([], .aload_n 1, 1, 1, 0, 0, 0)),
  (25, ([], .getfield 22, 3, 7, 8, 118, 0)),
  (28, ([], .putfield 30, 3, 9, 10, 228, 0)),
  (31, ([], .aload_n 0, 1, 0, 0, 0, 0)),
  (32, ([], .iconst 0, 1, 0, 0, 0, 0)),
  (33, ([], .putfield 33, 3, 10, 10, 230, 0)),
  (36, ([], .aload_n 0, 1, 0, 0, 0, 0)),
  (37, ([], .iconst 0, 1, 0, 0, 0, 0)),
  (38, ([], .putfield 36, 3, 11, 10, 232, 0)),
  (41, ([], .aload_n 0, 1, 0, 0, 0, 0)),
  (42, ([], .iconst 0, 1, 0, 0, 0, 0)),
  (43, ([], .putfield 39, 3, 12, 11, 234, 0)),
  (46, ([], .return_, 1, 0, 0, 0, 0))]
noncomputable def E_X4_begin : Kt := exL SKc SKn SKr CS (lkp T_X4_begin) [F_X5_copyFrom] [] []
noncomputable def F_X4_begin : Fn := fun as h => gd (chkA 4 as) (E_X4_begin 0 (pad 4 as) [] h)
set_option maxRecDepth 100000 in
set_option maxHeartbeats 4000000 in
theorem e_X4_begin_0 (a0 : Nat) (a1 : Nat) (x2 : Int32) (x3 : Int32) (h : Hp) : F_X4_begin [.ref a0, .ref a1, .int x2, .int x3] h = gd (okc a0 5) (bV (F_X5_copyFrom [.ref a0, .ref a1] h) (fun h1 => gd (okc a0 5) (gd (okc a0 5) (gd (okc a1 4) (gd (okc a0 5) (gd (okc a1 4) (gd (okc a0 5) (gd (okc a0 5) (gd (okc a0 5) (gd (okc a0 5) (rtn none (wr (wr (wr (wr (wr (wr (wr h1 a0 3 x3) a0 7 x2) a0 8 (rd (wr (wr h1 a0 3 x3) a0 7 x2) a1 7)) a0 9 (rd (wr (wr (wr h1 a0 3 x3) a0 7 x2) a0 8 (rd (wr (wr h1 a0 3 x3) a0 7 x2) a1 7)) a1 7)) a0 10 0) a0 11 0) a0 12 0))))))))))) (hnk [])) :=
  (exL_it SKc SKn SKr CS (lkp T_X4_begin) [F_X5_copyFrom] [] [] [] 27 0 [.ref a0, .ref a1, .int x2, .int x3] [] h).trans rfl

def T_X4_isOn : List (Nat × Ent) := [(0, ([], .aload_n 0, 1, 0, 0, 0, 0)),
  (1, ([], .getfield 39, 3, 12, 10, 234, 0)),
  (4, ([], .ifCond .ne 36, 3, 40, 0, 0, 0)),
  (7, ([], .aload_n 0, 1, 0, 0, 0, 0)),
  (8, ([], .getfield 43, 3, 0, 10, 544900, 0)),
  (11, ([], .iload_n 1, 1, 1, 0, 0, 0)),
  (12, ([], .if_icmp .ne 28, 3, 40, 0, 0, 0)),
  (15, ([], .aload_n 0, 1, 0, 0, 0, 0)),
  (16, ([], .getfield 46, 3, 2, 10, 626840, 0)),
  (19, ([], .iload_n 3, 1, 3, 0, 0, 0)),
  (20, ([], .if_icmp .ne 20, 3, 40, 0, 0, 0)),
  (23, ([], .iload_n 2, 1, 2, 0, 0, 0)),
  (24, ([], .iconst 2, 1, 0, 0, 0, 2)),
  (25, ([], .if_icmp .eq 11, 3, 36, 0, 0, 0)),
  (28, ([], .aload_n 0, 1, 0, 0, 0, 0)),
  (29, ([], .getfield 49, 3, 1, 10, 594064, 0)),
  (32, ([], .iload_n 2, 1, 2, 0, 0, 0)),
  (33, ([], .if_icmp .ne 7, 3, 40, 0, 0, 0)),
  (36, ([], .iconst 1, 1, 0, 0, 0, 1)),
  (37, ([], .goto 4, 3, 41, 0, 0, 0)),
  (40, ([], .iconst 0, 1, 0, 0, 0, 0)),
  (41, ([], .ireturn, 1, 0, 1, 0, 0))]
noncomputable def E_X4_isOn : Kt := exL SKc SKn SKr CS (lkp T_X4_isOn) [] [] []
noncomputable def F_X4_isOn : Fn := fun as h => gd (chkA 4 as) (E_X4_isOn 0 (pad 4 as) [] h)
set_option maxRecDepth 100000 in
set_option maxHeartbeats 4000000 in
theorem e_X4_isOn_0 (a0 : Nat) (x1 : Int32) (x2 : Int32) (x3 : Int32) (h : Hp) : F_X4_isOn [.ref a0, .int x1, .int x2, .int x3] h = gd (okc a0 5) (if (rd h a0 12) = 0 then gd (okc a0 5) (if (rd h a0 0) = x1 then gd (okc a0 5) (if (rd h a0 2) = x3 then if x2 = 2 then rtn (some (.int 1)) h else gd (okc a0 5) (if (rd h a0 1) = x2 then rtn (some (.int 1)) h else rtn (some (.int 0)) h) else rtn (some (.int 0)) h) else rtn (some (.int 0)) h) else rtn (some (.int 0)) h) :=
  (exL_it SKc SKn SKr CS (lkp T_X4_isOn) [] [] [] [] 21 0 [.ref a0, .int x1, .int x2, .int x3] [] h).trans rfl

def T_X4_isBetween : List (Nat × Ent) := [(0, ([], .aload_n 0, 1, 0, 0, 0, 0)),
  (1, ([], .getfield 15, 3, 3, 10, 667810, 0)),
  (4, ([], .iload_n 1, 1, 1, 0, 0, 0)),
  (5, ([], .if_icmp .lt 15, 3, 20, 0, 0, 0)),
  (8, ([], .aload_n 0, 1, 0, 0, 0, 0)),
  (9, ([], .getfield 15, 3, 3, 10, 667810, 0)),
  (12, ([], .iload_n 2, 1, 2, 0, 0, 0)),
  (13, ([], .if_icmp .gt 7, 3, 20, 0, 0, 0)),
  (16, ([], .iconst 1, 1, 0, 0, 0, 1)),
  (17, ([], .goto 4, 3, 21, 0, 0, 0)),
  (20, ([], .iconst 0, 1, 0, 0, 0, 0)),
  (21, ([], .ireturn, 1, 0, 1, 0, 0))]
noncomputable def E_X4_isBetween : Kt := exL SKc SKn SKr CS (lkp T_X4_isBetween) [] [] []
noncomputable def F_X4_isBetween : Fn := fun as h => gd (chkA 3 as) (E_X4_isBetween 0 (pad 3 as) [] h)
set_option maxRecDepth 100000 in
set_option maxHeartbeats 4000000 in
theorem e_X4_isBetween_0 (a0 : Nat) (x1 : Int32) (x2 : Int32) (h : Hp) : F_X4_isBetween [.ref a0, .int x1, .int x2] h = gd (okc a0 5) (if (rd h a0 3) < x1 then rtn (some (.int 0)) h else gd (okc a0 5) (if x2 < (rd h a0 3) then rtn (some (.int 0)) h else rtn (some (.int 1)) h)) :=
  (exL_it SKc SKn SKr CS (lkp T_X4_isBetween) [] [] [] [] 11 0 [.ref a0, .int x1, .int x2] [] h).trans rfl

def T_X5_weeks : List (Nat × Ent) := [(0, ([], .aload_n 0, 1, 0, 0, 0, 0)),
  (1, ([], .getfield 7, 3, 5, 14, 177, 0)),
  (4, ([], .aload_n 0, 1, 0, 0, 0, 0)),
  (5, ([], .getfield 13, 3, 4, 14, 170, 0)),
  (8, ([], .isub, 1, 0, 0, 0, 0)),
  (9, ([], .iconst 1, 1, 0, 0, 0, 1)),
  (10, ([], .iadd, 1, 0, 0, 0, 0)),
  (11, ([], .ireturn, 1, 0, 0, 0, 0))]
noncomputable def E_X5_weeks : Kt := exL SKc SKn SKr CS (lkp T_X5_weeks) [] [] []
noncomputable def F_X5_weeks : Fn := fun as h => gd (chkA 1 as) (E_X5_weeks 0 (pad 1 as) [] h)
set_option maxRecDepth 100000 in
set_option maxHeartbeats 4000000 in
theorem e_X5_weeks_0 (a0 : Nat) (h : Hp) : F_X5_weeks [.ref a0] h = gd (okc a0 7) (gd (okc a0 7) (rtn (some (.int (((rd h a0 5) - (rd h a0 4)) + 1))) h)) :=
  (exL_it SKc SKn SKr CS (lkp T_X5_weeks) [] [] [] [] 8 0 [.ref a0] [] h).trans rfl

def T_X5_wholeNoise : List (Nat × Ent) := [(0, ([], .aload_n 0, 1, 0, 0, 0, 0)),
  (1, ([], .getfield 16, 3, 6, 14, 184, 0)),
  (4, ([], .aload_n 0, 1, 0, 0, 0, 0)),
  (5, ([], .invokevirtual 19, 3, 0, 5, 7, 0)),
  (8, ([], .imul, 1, 0, 0, 0, 0)),
  (9, ([], .ireturn, 1, 0, 0, 0, 0))]
noncomputable def E_X5_wholeNoise : Kt := exL SKc SKn SKr CS (lkp T_X5_wholeNoise) [F_X5_weeks] [] []
noncomputable def F_X5_wholeNoise : Fn := fun as h => gd (chkA 1 as) (E_X5_wholeNoise 0 (pad 1 as) [] h)
set_option maxRecDepth 100000 in
set_option maxHeartbeats 4000000 in
theorem e_X5_wholeNoise_0 (a0 : Nat) (h : Hp) : F_X5_wholeNoise [.ref a0] h = gd (okc a0 7) (gd (okc a0 7) (bI (F_X5_weeks [.ref a0] h) (fun v2 h1 => rtn (some (.int ((rd h a0 6) * v2))) h1) (hnk []))) :=
  (exL_it SKc SKn SKr CS (lkp T_X5_wholeNoise) [F_X5_weeks] [] [] [] 6 0 [.ref a0] [] h).trans rfl

def T_X5_lastsIn : List (Nat × Ent) := [(0, ([], .iload_n 1, 1, 1, 0, 0, 0)),
  (1, ([], .aload_n 0, 1, 0, 0, 0, 0)),
  (2, ([], .getfield 13, 3, 4, 14, 170, 0)),
  (5, ([], .if_icmp .lt 15, 3, 20, 0, 0, 0)),
  (8, ([], .iload_n 1, 1, 1, 0, 0, 0)),
  (9, ([], .aload_n 0, 1, 0, 0, 0, 0)),
  (10, ([], .getfield 7, 3, 5, 14, 177, 0)),
  (13, ([], .if_icmp .gt 7, 3, 20, 0, 0, 0)),
  (16, ([], .iconst 1, 1, 0, 0, 0, 1)),
  (17, ([], .goto 4, 3, 21, 0, 0, 0)),
  (20, ([], .iconst 0, 1, 0, 0, 0, 0)),
  (21, ([], .ireturn, 1, 0, 1, 0, 0))]
noncomputable def E_X5_lastsIn : Kt := exL SKc SKn SKr CS (lkp T_X5_lastsIn) [] [] []
noncomputable def F_X5_lastsIn : Fn := fun as h => gd (chkA 2 as) (E_X5_lastsIn 0 (pad 2 as) [] h)
set_option maxRecDepth 100000 in
set_option maxHeartbeats 4000000 in
theorem e_X5_lastsIn_0 (a0 : Nat) (x1 : Int32) (h : Hp) : F_X5_lastsIn [.ref a0, .int x1] h = gd (okc a0 7) (if x1 < (rd h a0 4) then rtn (some (.int 0)) h else gd (okc a0 7) (if (rd h a0 5) < x1 then rtn (some (.int 0)) h else rtn (some (.int 1)) h)) :=
  (exL_it SKc SKn SKr CS (lkp T_X5_lastsIn) [] [] [] [] 11 0 [.ref a0, .int x1] [] h).trans rfl

def T_X5_isSameAs : List (Nat × Ent) := [(0, ([], .aload_n 0, 1, 0, 0, 0, 0)),
  (1, ([], .getfield 23, 3, 3, 14, 164, 0)),
  (4, ([], .aload_n 1, 1, 1, 0, 0, 0)),
  (5, ([], .getfield 23, 3, 3, 14, 164, 0)),
  (8, ([], .if_icmp .ne 40, 3, 48, 0, 0, 0)),
  (11, ([], .aload_n 0, 1, 0, 0, 0, 0)),
  (12, ([], .getfield 13, 3, 4, 14, 170, 0)),
  (15, ([], .aload_n 1, 1, 1, 0, 0, 0)),
  (16, ([], .getfield 13, 3, 4, 14, 170, 0)),
  (19, ([], .if_icmp .ne 29, 3, 48, 0, 0, 0)),
  (22, ([], .aload_n 0, 1, 0, 0, 0, 0)),
  (23, ([], .getfield 7, 3, 5, 14, 177, 0)),
  (26, ([], .aload_n 1, 1, 1, 0, 0, 0)),
  (27, ([], .getfield 7, 3, 5, 14, 177, 0)),
  (30, ([], .if_icmp .ne 18, 3, 48, 0, 0, 0)),
  (33, ([], .aload_n 0, 1, 0, 0, 0, 0)),
  (34, ([], .getfield 16, 3, 6, 14, 184, 0)),
  (37, ([], .aload_n 1, 1, 1, 0, 0, 0)),
  (38, ([], .getfield 16, 3, 6, 14, 184, 0)),
  (41, ([], .if_icmp .ne 7, 3, 48, 0, 0, 0)),
  (44, ([], .iconst 1, 1, 0, 0, 0, 1)),
  (45, ([], .goto 4, 3, 49, 0, 0, 0)),
  (48, ([], .iconst 0, 1, 0, 0, 0, 0)),
  (49, ([], .ireturn, 1, 0, 1, 0, 0))]
noncomputable def E_X5_isSameAs : Kt := exL SKc SKn SKr CS (lkp T_X5_isSameAs) [] [] []
noncomputable def F_X5_isSameAs : Fn := fun as h => gd (chkA 2 as) (E_X5_isSameAs 0 (pad 2 as) [] h)
set_option maxRecDepth 100000 in
set_option maxHeartbeats 4000000 in
theorem e_X5_isSameAs_0 (a0 : Nat) (a1 : Nat) (h : Hp) : F_X5_isSameAs [.ref a0, .ref a1] h = gd (okc a0 7) (gd (okc a1 7) (if (rd h a0 3) = (rd h a1 3) then gd (okc a0 7) (gd (okc a1 7) (if (rd h a0 4) = (rd h a1 4) then gd (okc a0 7) (gd (okc a1 7) (if (rd h a0 5) = (rd h a1 5) then gd (okc a0 7) (gd (okc a1 7) (if (rd h a0 6) = (rd h a1 6) then rtn (some (.int 1)) h else rtn (some (.int 0)) h)) else rtn (some (.int 0)) h)) else rtn (some (.int 0)) h)) else rtn (some (.int 0)) h)) :=
  (exL_it SKc SKn SKr CS (lkp T_X5_isSameAs) [] [] [] [] 23 0 [.ref a0, .ref a1] [] h).trans rfl

def T_X6_airportAt : List (Nat × Ent) := [(0, ([], .iload_n 1, 1, 1, 0, 0, 0)),
  (1, ([], .ifCond .lt 12, 3, 13, 0, 0, 0)),
  (4, ([], .iload_n 1, 1, 1, 0, 0, 0)),
  (5, ([], .aload_n 0, 1, 0, 0, 0, 0)),
  (6, ([], .getfield 11, 3, 0, 1, 277, 0)),
  (9, ([], .arraylength, 1, 0, 0, 0, 0)),
  (10, ([], .if_icmp .lt 14, 3, 24, 0, 0, 0)),
  (13, ([true, true], .new 339, 3, 0, 0, 0, 0)),
  (24, ([], .aload_n 0, 1, 0, 0, 0, 0)),
  (25, ([], .getfield 11, 3, 0, 1, 277, 0)),
  (28, ([], .iload_n 1, 1, 1, 0, 0, 0)),
  (29, ([], .aaload, 1, 0, 0, 0, 0)),
  (30, ([], .areturn, 1, 0, 0, 0, 0))]
noncomputable def E_X6_airportAt : Kt := exL SKc SKn SKr CS (lkp T_X6_airportAt) [] [] []
noncomputable def F_X6_airportAt : Fn := fun as h => gd (chkA 2 as) (E_X6_airportAt 0 (pad 2 as) [] h)
noncomputable def f_X6_airportAt_13 (h : Hp) : Res := E_X6_airportAt 13 [.retAddr 0, .retAddr 0] [] h
set_option maxRecDepth 100000 in
set_option maxHeartbeats 4000000 in
theorem e_X6_airportAt_0 (x1 : Int32) (h : Hp) : F_X6_airportAt [.ref 0, .int x1] h = if x1 < 0 then f_X6_airportAt_13 h else if x1 < 4 then gd (inb x1 4) (rtn (some (.ref (SKr 1 x1.toNatClampNeg))) h) else f_X6_airportAt_13 h :=
  (exL_it SKc SKn SKr CS (lkp T_X6_airportAt) [] [] [] [13] 12 0 [.ref 0, .int x1] [] h).trans rfl
set_option maxRecDepth 100000 in
set_option maxHeartbeats 4000000 in
theorem e_X6_airportAt_13 (h : Hp) : f_X6_airportAt_13 h = thr 0 h :=
  (exL_it SKc SKn SKr CS (lkp T_X6_airportAt) [] [] [] [13] 1 13 [.retAddr 0, .retAddr 0] [] h).trans rfl

def T_X6_requireRange : List (Nat × Ent) := [(0, ([], .iload_n 0, 1, 0, 0, 0, 0)),
  (1, ([], .iload_n 1, 1, 1, 0, 0, 0)),
  (2, ([], .if_icmp .lt 8, 3, 10, 0, 0, 0)),
  (5, ([], .iload_n 0, 1, 0, 0, 0, 0)),
  (6, ([], .iload_n 2, 1, 2, 0, 0, 0)),
  (7, ([], .if_icmp .le 14, 3, 21, 0, 0, 0)),
  (10, ([true, true, true], .new 158, 3, 1, 0, 0, 0)),
  (21, ([], .return_, 1, 0, 0, 0, 0))]
noncomputable def E_X6_requireRange : Kt := exL SKc SKn SKr CS (lkp T_X6_requireRange) [] [] []
noncomputable def F_X6_requireRange : Fn := fun as h => gd (chkA 3 as) (E_X6_requireRange 0 (pad 3 as) [] h)
noncomputable def f_X6_requireRange_10 (h : Hp) : Res := E_X6_requireRange 10 [.retAddr 0, .retAddr 0, .retAddr 0] [] h
set_option maxRecDepth 100000 in
set_option maxHeartbeats 4000000 in
theorem e_X6_requireRange_0 (x0 : Int32) (x1 : Int32) (x2 : Int32) (h : Hp) : F_X6_requireRange [.int x0, .int x1, .int x2] h = if x0 < x1 then f_X6_requireRange_10 h else if x2 < x0 then f_X6_requireRange_10 h else rtn none h :=
  (exL_it SKc SKn SKr CS (lkp T_X6_requireRange) [] [] [] [10] 7 0 [.int x0, .int x1, .int x2] [] h).trans rfl
set_option maxRecDepth 100000 in
set_option maxHeartbeats 4000000 in
theorem e_X6_requireRange_10 (h : Hp) : f_X6_requireRange_10 h = thr 1 h :=
  (exL_it SKc SKn SKr CS (lkp T_X6_requireRange) [] [] [] [10] 1 10 [.retAddr 0, .retAddr 0, .retAddr 0] [] h).trans rfl

def T_X6_requireKindOrEither : List (Nat × Ent) := [(0, ([], .iload_n 0, 1, 0, 0, 0, 0)),
  (1, ([], .iconst 0, 1, 0, 0, 0, 0)),
  (2, ([], .iconst 2, 1, 0, 0, 0, 2)),
  (3, ([], .invokestatic 64, 3, 0, 12, 99, 0)),
  (6, ([], .return_, 1, 0, 0, 0, 0))]
noncomputable def E_X6_requireKindOrEither : Kt := exL SKc SKn SKr CS (lkp T_X6_requireKindOrEither) [F_X6_requireRange] [] []
noncomputable def F_X6_requireKindOrEither : Fn := fun as h => gd (chkA 1 as) (E_X6_requireKindOrEither 0 (pad 1 as) [] h)
set_option maxRecDepth 100000 in
set_option maxHeartbeats 4000000 in
theorem e_X6_requireKindOrEither_0 (x0 : Int32) (h : Hp) : F_X6_requireKindOrEither [.int x0] h = bV (F_X6_requireRange [.int x0, .int 0, .int 2] h) (fun h1 => rtn none h1) (hnk []) :=
  (exL_it SKc SKn SKr CS (lkp T_X6_requireKindOrEither) [F_X6_requireRange] [] [] [] 5 0 [.int x0] [] h).trans rfl

def T_X6_declare : List (Nat × Ent) := [(0, ([], .aload_n 0, 1, 0, 0, 0, 0)),
  (1, ([], .iload_n 1, 1, 1, 0, 0, 0)),
  (2, ([], .invokevirtual 56, 3, 0, 10, 0, 0)),
  (5, ([], .astore 5, 2, 5, 0, 0, 0)),
  (7, ([], .iload_n 2, 1, 2, 0, 0, 0)),
  (8, ([], .invokestatic 60, 3, 1, 4, 99, 0)),
  (11, ([], .iload_n 3, 1, 3, 0, 0, 0)),
  (12, ([], .iconst 1, 1, 0, 0, 0, 1)),
  (13, ([], .bipush 6, 2, 0, 0, 0, 6)),
  (15, ([], .invokestatic 64, 3, 2, 12, 99, 0)),
  (18, ([], .iload 4, 2, 4, 0, 0, 0)),
  (20, ([], .iconst 0, 1, 0, 0, 0, 0)),
  (21, ([], .bipush 20, 2, 0, 0, 0, 20)),
  (23, ([], .invokestatic 64, 3, 2, 12, 99, 0)),
  (26, ([], .aload 5, 2, 5, 0, 0, 0)),
  (28, ([], .getfield 68, 3, 2, 4, 89, 0)),
  (31, ([], .bipush 6, 2, 0, 0, 0, 6)),
  (33, ([], .if_icmp .lt 13, 3, 46, 0, 0, 0)),
  (36, ([], .new 72, 3, 2, 0, 0, 0)),
  (46, ([], .aload 5, 2, 5, 0, 0, 0)),
  (48, ([], .getfield 68, 3, 2, 4, 89, 0)),
  (51, ([], .istore 6, 2, 6, 0, 0, 0)),
  (53, ([], .aload 5, 2, 5, 0, 0, 0)),
  (55, ([], .iload 6, 2, 6, 0, 0, 0)),
  (57, ([], .iconst 1, 1, 0, 0, 0, 1)),
  (58, ([], .iadd, 1, 0, 0, 0, 0)),
  (59, ([], .putfield 68, 3, 2, 4, 89, 0)),
  (62, ([], .aload 5, 2, 5, 0, 0, 0)),
  (64, ([], .iload 6, 2, 6, 0, 0, 0)),
  (66, ([], .invokevirtual 79, 3, 3, 10, 2, 0)),
  (69, ([], .astore 7, 2, 7, 0, 0, 0)),
  (71, ([], .aload 7, 2, 7, 0, 0, 0)),
  (73, ([], .iload_n 2, 1, 2, 0, 0, 0)),
  (74, ([], .putfield 83, 3, 0, 6, 75, 0)),
  (77, ([], .aload 7, 2, 7, 0, 0, 0)),
  (79, ([], .iload_n 3, 1, 3, 0, 0, 0)),
  (80, ([], .putfield 88, 3, 1, 6, 76, 0)),
  (83, ([], .aload 7, 2, 7, 0, 0, 0)),
  (85, ([], .iload 4, 2, 4, 0, 0, 0)),
  (87, ([], .putfield 91, 3, 2, 6, 77, 0)),
  (90, ([], .iload 6, 2, 6, 0, 0, 0)),
  (92, ([], .ireturn, 1, 0, 0, 0, 0))]
noncomputable def E_X6_declare : Kt := exL SKc SKn SKr CS (lkp T_X6_declare) [F_X6_airportAt, F_X6_requireKindOrEither, F_X6_requireRange, F_X0_ruleAt] [] []
noncomputable def F_X6_declare : Fn := fun as h => gd (chkA 5 as) (E_X6_declare 0 (pad 8 as) [] h)
set_option maxRecDepth 100000 in
set_option maxHeartbeats 4000000 in
theorem e_X6_declare_0 (x1 : Int32) (x2 : Int32) (x3 : Int32) (x4 : Int32) (h : Hp) : F_X6_declare [.ref 0, .int x1, .int x2, .int x3, .int x4] h = bR (F_X6_airportAt [.ref 0, .int x1] h) (fun v2 h1 => bV (F_X6_requireKindOrEither [.int x2] h1) (fun h3 => bV (F_X6_requireRange [.int x3, .int 1, .int 6] h3) (fun h4 => bV (F_X6_requireRange [.int x4, .int 0, .int 20] h4) (fun h5 => gd (okc v2 2) (if (rd h5 v2 2) < 6 then gd (okc v2 2) (gd (okc v2 2) (gd (okc v2 2) (bR (F_X0_ruleAt [.ref v2, .int (rd h5 v2 2)] (wr h5 v2 2 ((rd h5 v2 2) + 1))) (fun v7 h6 => gd (okc v7 3) (gd (okc v7 3) (gd (okc v7 3) (rtn (some (.int (rd h5 v2 2))) (wr (wr (wr h6 v7 0 x2) v7 1 x3) v7 2 x4))))) (hnk [])))) else thr 2 h5)) (hnk [])) (hnk [])) (hnk [])) (hnk []) :=
  (exL_it SKc SKn SKr CS (lkp T_X6_declare) [F_X6_airportAt, F_X6_requireKindOrEither, F_X6_requireRange, F_X0_ruleAt] [] [] [] 41 0 [.ref 0, .int x1, .int x2, .int x3, .int x4, .retAddr 0, .retAddr 0, .retAddr 0] [] h).trans rfl

def T_X6_curfew : List (Nat × Ent) := [(0, ([], .aload_n 0, 1, 0, 0, 0, 0)),
  (1, ([], .iload_n 1, 1, 1, 0, 0, 0)),
  (2, ([], .invokevirtual 56, 3, 0, 10, 0, 0)),
  (5, ([], .astore 4, 2, 4, 0, 0, 0)),
  (7, ([], .iload_n 2, 1, 2, 0, 0, 0)),
  (8, ([], .iconst 0, 1, 0, 0, 0, 0)),
  (9, ([], .bipush 72, 2, 0, 0, 0, 72)),
  (11, ([], .invokestatic 64, 3, 1, 12, 99, 0)),
  (14, ([], .iload_n 3, 1, 3, 0, 0, 0)),
  (15, ([], .iload_n 2, 1, 2, 0, 0, 0)),
  (16, ([], .bipush 72, 2, 0, 0, 0, 72)),
  (18, ([], .invokestatic 64, 3, 1, 12, 99, 0)),
  (21, ([], .aload 4, 2, 4, 0, 0, 0)),
  (23, ([], .iload_n 2, 1, 2, 0, 0, 0)),
  (24, ([], .putfield 94, 3, 3, 4, 91, 0)),
  (27, ([], .aload 4, 2, 4, 0, 0, 0)),
  (29, ([], .iload_n 3, 1, 3, 0, 0, 0)),
  (30, ([], .putfield 97, 3, 4, 4, 93, 0)),
  (33, ([], .return_, 1, 0, 0, 0, 0))]
noncomputable def E_X6_curfew : Kt := exL SKc SKn SKr CS (lkp T_X6_curfew) [F_X6_airportAt, F_X6_requireRange] [] []
noncomputable def F_X6_curfew : Fn := fun as h => gd (chkA 4 as) (E_X6_curfew 0 (pad 5 as) [] h)
set_option maxRecDepth 100000 in
set_option maxHeartbeats 4000000 in
theorem e_X6_curfew_0 (x1 : Int32) (x2 : Int32) (x3 : Int32) (h : Hp) : F_X6_curfew [.ref 0, .int x1, .int x2, .int x3] h = bR (F_X6_airportAt [.ref 0, .int x1] h) (fun v2 h1 => bV (F_X6_requireRange [.int x2, .int 0, .int 72] h1) (fun h3 => bV (F_X6_requireRange [.int x3, .int x2, .int 72] h3) (fun h4 => gd (okc v2 2) (gd (okc v2 2) (rtn none (wr (wr h4 v2 3 x2) v2 4 x3)))) (hnk [])) (hnk [])) (hnk []) :=
  (exL_it SKc SKn SKr CS (lkp T_X6_curfew) [F_X6_airportAt, F_X6_requireRange] [] [] [] 19 0 [.ref 0, .int x1, .int x2, .int x3, .retAddr 0] [] h).trans rfl

def T_X6_quota : List (Nat × Ent) := [(0, ([], .aload_n 0, 1, 0, 0, 0, 0)),
  (1, ([], .iload_n 1, 1, 1, 0, 0, 0)),
  (2, ([], .invokevirtual 56, 3, 0, 10, 0, 0)),
  (5, ([], .astore_n 3, 1, 3, 0, 0, 0)),
  (6, ([], .iload_n 2, 1, 2, 0, 0, 0)),
  (7, ([], .iconst 0, 1, 0, 0, 0, 0)),
  (8, ([], .sipush 9999, 3, 0, 0, 0, 9999)),
  (11, ([], .invokestatic 64, 3, 1, 12, 99, 0)),
  (14, ([], .aload_n 3, 1, 3, 0, 0, 0)),
  (15, ([], .getfield 100, 3, 5, 4, 95, 0)),
  (18, ([], .istore 4, 2, 4, 0, 0, 0)),
  (20, ([], .aload_n 3, 1, 3, 0, 0, 0)),
  (21, ([], .iload_n 2, 1, 2, 0, 0, 0)),
  (22, ([], .putfield 100, 3, 5, 4, 95, 0)),
  (25, ([], .iload 4, 2, 4, 0, 0, 0)),
  (27, ([], .ireturn, 1, 0, 0, 0, 0))]
noncomputable def E_X6_quota : Kt := exL SKc SKn SKr CS (lkp T_X6_quota) [F_X6_airportAt, F_X6_requireRange] [] []
noncomputable def F_X6_quota : Fn := fun as h => gd (chkA 3 as) (E_X6_quota 0 (pad 5 as) [] h)
set_option maxRecDepth 100000 in
set_option maxHeartbeats 4000000 in
theorem e_X6_quota_0 (x1 : Int32) (x2 : Int32) (h : Hp) : F_X6_quota [.ref 0, .int x1, .int x2] h = bR (F_X6_airportAt [.ref 0, .int x1] h) (fun v2 h1 => bV (F_X6_requireRange [.int x2, .int 0, .int 9999] h1) (fun h3 => gd (okc v2 2) (gd (okc v2 2) (rtn (some (.int (rd h3 v2 5))) (wr h3 v2 5 x2)))) (hnk [])) (hnk []) :=
  (exL_it SKc SKn SKr CS (lkp T_X6_quota) [F_X6_airportAt, F_X6_requireRange] [] [] [] 16 0 [.ref 0, .int x1, .int x2, .retAddr 0, .retAddr 0] [] h).trans rfl

def T_X6_groupAt : List (Nat × Ent) := [(0, ([], .iload_n 1, 1, 1, 0, 0, 0)),
  (1, ([], .ifCond .lt 12, 3, 13, 0, 0, 0)),
  (4, ([], .iload_n 1, 1, 1, 0, 0, 0)),
  (5, ([], .aload_n 0, 1, 0, 0, 0, 0)),
  (6, ([], .getfield 15, 3, 1, 1, 278, 0)),
  (9, ([], .arraylength, 1, 0, 0, 0, 0)),
  (10, ([], .if_icmp .lt 14, 3, 24, 0, 0, 0)),
  (13, ([true, true], .new 339, 3, 0, 0, 0, 0)),
  (24, ([], .aload_n 0, 1, 0, 0, 0, 0)),
  (25, ([], .getfield 15, 3, 1, 1, 278, 0)),
  (28, ([], .iload_n 1, 1, 1, 0, 0, 0)),
  (29, ([], .iaload, 1, 0, 0, 0, 0)),
  (30, ([], .ireturn, 1, 0, 0, 0, 0))]
noncomputable def E_X6_groupAt : Kt := exL SKc SKn SKr CS (lkp T_X6_groupAt) [] [] []
noncomputable def F_X6_groupAt : Fn := fun as h => gd (chkA 2 as) (E_X6_groupAt 0 (pad 2 as) [] h)
noncomputable def f_X6_groupAt_13 (h : Hp) : Res := E_X6_groupAt 13 [.retAddr 0, .retAddr 0] [] h
set_option maxRecDepth 100000 in
set_option maxHeartbeats 4000000 in
theorem e_X6_groupAt_0 (x1 : Int32) (h : Hp) : F_X6_groupAt [.ref 0, .int x1] h = if x1 < 0 then f_X6_groupAt_13 h else if x1 < 10 then gd (inb x1 10) (rtn (some (.int (rd h 2 x1.toNatClampNeg))) h) else f_X6_groupAt_13 h :=
  (exL_it SKc SKn SKr CS (lkp T_X6_groupAt) [] [] [] [13] 12 0 [.ref 0, .int x1] [] h).trans rfl
set_option maxRecDepth 100000 in
set_option maxHeartbeats 4000000 in
theorem e_X6_groupAt_13 (h : Hp) : f_X6_groupAt_13 h = thr 0 h :=
  (exL_it SKc SKn SKr CS (lkp T_X6_groupAt) [] [] [] [13] 1 13 [.retAddr 0, .retAddr 0] [] h).trans rfl

def T_X6_merge : List (Nat × Ent) := [(0, ([], .aload_n 0, 1, 0, 0, 0, 0)),
  (1, ([], .iload_n 1, 1, 1, 0, 0, 0)),
  (2, ([], .invokevirtual 103, 3, 0, 9, 0, 0)),
  (5, ([], .istore_n 3, 1, 3, 0, 0, 0)),
  (6, ([], .aload_n 0, 1, 0, 0, 0, 0)),
  (7, ([], .iload_n 2, 1, 2, 0, 0, 0)),
  (8, ([], .invokevirtual 103, 3, 0, 9, 0, 0)),
  (11, ([], .istore 4, 2, 4, 0, 0, 0)),
  (13, ([], .iload_n 3, 1, 3, 0, 0, 0)),
  (14, ([], .iload 4, 2, 4, 0, 0, 0)),
  (16, ([], .if_icmp .ne 13, 3, 29, 0, 0, 0)),
  (19, ([], .new 72, 3, 2, 0, 0, 0)),
  (29, ([], .iconst 0, 1, 0, 0, 0, 0)),
  (30, ([], .istore 5, 2, 5, 0, 0, 0)),
  (32, ([], .iconst 0, 1, 0, 0, 0, 0)),
  (33, ([], .istore 6, 2, 6, 0, 0, 0)),
  (35, ([false, true, true, false, false, false, false], .iload 6, 2, 6, 0, 0, 0)),
  (37, ([], .aload_n 0, 1, 0, 0, 0, 0)),
  (38, ([], .getfield 15, 3, 1, 1, 278, 0)),
  (41, ([], .arraylength, 1, 0, 0, 0, 0)),
  (42, ([], .if_icmp .ge 43, 3, 85, 0, 0, 0)),
  (45, ([], .aload_n 0, 1, 0, 0, 0, 0)),
  (46, ([], .getfield 15, 3, 1, 1, 278, 0)),
  (49, ([], .iload 6, 2, 6, 0, 0, 0)),
  (51, ([], .iaload, 1, 0, 0, 0, 0)),
  (52, ([], .iload 4, 2, 4, 0, 0, 0)),
  (54, ([], .if_icmp .ne 11, 3, 65, 0, 0, 0)),
  (57, ([], .aload_n 0, 1, 0, 0, 0, 0)),
  (58, ([], .getfield 15, 3, 1, 1, 278, 0)),
  (61, ([], .iload 6, 2, 6, 0, 0, 0)),
  (63, ([], .iload_n 3, 1, 3, 0, 0, 0)),
  (64, ([], .iastore, 1, 0, 0, 0, 0)),
  (65, ([false, true, true, false, false, false, false], .aload_n 0, 1, 0, 0, 0, 0)),
  (66, ([], .getfield 15, 3, 1, 1, 278, 0)),
  (69, ([], .iload 6, 2, 6, 0, 0, 0)),
  (71, ([], .iaload, 1, 0, 0, 0, 0)),
  (72, ([], .iload_n 3, 1, 3, 0, 0, 0)),
  (73, ([], .if_icmp .ne 6, 3, 79, 0, 0, 0)),
  (76, ([], .iinc 5 1, 3, 5, 0, 0, 1)),
  (79, ([false, true, true, false, false, false, false], .iinc 6 1, 3, 6, 0, 0, 1)),
  (82, ([], .goto (-47), 3, 35, 0, 0, 0)),
  (85, ([], .iload 5, 2, 5, 0, 0, 0)),
  (87, ([], .ireturn, 1, 0, 0, 0, 0))]
noncomputable def E_X6_merge : Kt := exL SKc SKn SKr CS (lkp T_X6_merge) [F_X6_groupAt] [] []
noncomputable def F_X6_merge : Fn := fun as h => gd (chkA 3 as) (E_X6_merge 0 (pad 7 as) [] h)
noncomputable def f_X6_merge_35 (x3 : Int32) (x4 : Int32) (x5 : Int32) (x6 : Int32) (h : Hp) : Res := E_X6_merge 35 [.ref 0, .retAddr 0, .retAddr 0, .int x3, .int x4, .int x5, .int x6] [] h
noncomputable def f_X6_merge_65 (x3 : Int32) (x4 : Int32) (x5 : Int32) (x6 : Int32) (h : Hp) : Res := E_X6_merge 65 [.ref 0, .retAddr 0, .retAddr 0, .int x3, .int x4, .int x5, .int x6] [] h
noncomputable def f_X6_merge_79 (x3 : Int32) (x4 : Int32) (x5 : Int32) (x6 : Int32) (h : Hp) : Res := E_X6_merge 79 [.ref 0, .retAddr 0, .retAddr 0, .int x3, .int x4, .int x5, .int x6] [] h
set_option maxRecDepth 100000 in
set_option maxHeartbeats 4000000 in
theorem e_X6_merge_0 (x1 : Int32) (x2 : Int32) (h : Hp) : F_X6_merge [.ref 0, .int x1, .int x2] h = bI (F_X6_groupAt [.ref 0, .int x1] h) (fun v2 h1 => bI (F_X6_groupAt [.ref 0, .int x2] h1) (fun v4 h3 => if v2 = v4 then thr 2 h3 else f_X6_merge_35 v2 v4 0 0 h3) (hnk [])) (hnk []) :=
  (exL_it SKc SKn SKr CS (lkp T_X6_merge) [F_X6_groupAt] [] [] [35, 65, 79] 15 0 [.ref 0, .int x1, .int x2, .retAddr 0, .retAddr 0, .retAddr 0, .retAddr 0] [] h).trans rfl
set_option maxRecDepth 100000 in
set_option maxHeartbeats 4000000 in
theorem e_X6_merge_35 (x3 : Int32) (x4 : Int32) (x5 : Int32) (x6 : Int32) (h : Hp) : f_X6_merge_35 x3 x4 x5 x6 h = if x6 < 10 then gd (inb x6 10) (if (rd h 2 x6.toNatClampNeg) = x4 then gd (inb x6 10) (f_X6_merge_65 x3 x4 x5 x6 (wr h 2 x6.toNatClampNeg x3)) else f_X6_merge_65 x3 x4 x5 x6 h) else rtn (some (.int x5)) h :=
  (exL_it SKc SKn SKr CS (lkp T_X6_merge) [F_X6_groupAt] [] [] [35, 65, 79] 16 35 [.ref 0, .retAddr 0, .retAddr 0, .int x3, .int x4, .int x5, .int x6] [] h).trans rfl
set_option maxRecDepth 100000 in
set_option maxHeartbeats 4000000 in
theorem e_X6_merge_65 (x3 : Int32) (x4 : Int32) (x5 : Int32) (x6 : Int32) (h : Hp) : f_X6_merge_65 x3 x4 x5 x6 h = gd (inb x6 10) (if (rd h 2 x6.toNatClampNeg) = x3 then f_X6_merge_79 x3 x4 (x5 + 1) x6 h else f_X6_merge_79 x3 x4 x5 x6 h) :=
  (exL_it SKc SKn SKr CS (lkp T_X6_merge) [F_X6_groupAt] [] [] [35, 65, 79] 7 65 [.ref 0, .retAddr 0, .retAddr 0, .int x3, .int x4, .int x5, .int x6] [] h).trans rfl
set_option maxRecDepth 100000 in
set_option maxHeartbeats 4000000 in
theorem e_X6_merge_79 (x3 : Int32) (x4 : Int32) (x5 : Int32) (x6 : Int32) (h : Hp) : f_X6_merge_79 x3 x4 x5 x6 h = f_X6_merge_35 x3 x4 x5 (x6 + 1) h :=
  (exL_it SKc SKn SKr CS (lkp T_X6_merge) [F_X6_groupAt] [] [] [35, 65, 79] 2 79 [.ref 0, .retAddr 0, .retAddr 0, .int x3, .int x4, .int x5, .int x6] [] h).trans rfl

def T_X6_rightAt : List (Nat × Ent) := [(0, ([], .iload_n 1, 1, 1, 0, 0, 0)),
  (1, ([], .ifCond .lt 20, 3, 21, 0, 0, 0)),
  (4, ([], .iload_n 1, 1, 1, 0, 0, 0)),
  (5, ([], .aload_n 0, 1, 0, 0, 0, 0)),
  (6, ([], .getfield 265, 3, 12, 0, 289, 0)),
  (9, ([], .if_icmp .ge 12, 3, 21, 0, 0, 0)),
  (12, ([], .iload_n 1, 1, 1, 0, 0, 0)),
  (13, ([], .aload_n 0, 1, 0, 0, 0, 0)),
  (14, ([], .getfield 33, 3, 4, 1, 281, 0)),
  (17, ([], .arraylength, 1, 0, 0, 0, 0)),
  (18, ([], .if_icmp .lt 14, 3, 32, 0, 0, 0)),
  (21, ([true, true], .new 339, 3, 0, 0, 0, 0)),
  (32, ([], .aload_n 0, 1, 0, 0, 0, 0)),
  (33, ([], .getfield 33, 3, 4, 1, 281, 0)),
  (36, ([], .iload_n 1, 1, 1, 0, 0, 0)),
  (37, ([], .aaload, 1, 0, 0, 0, 0)),
  (38, ([], .areturn, 1, 0, 0, 0, 0))]
noncomputable def E_X6_rightAt : Kt := exL SKc SKn SKr CS (lkp T_X6_rightAt) [] [] []
noncomputable def F_X6_rightAt : Fn := fun as h => gd (chkA 2 as) (E_X6_rightAt 0 (pad 2 as) [] h)
noncomputable def f_X6_rightAt_21 (h : Hp) : Res := E_X6_rightAt 21 [.retAddr 0, .retAddr 0] [] h
set_option maxRecDepth 100000 in
set_option maxHeartbeats 4000000 in
theorem e_X6_rightAt_0 (x1 : Int32) (h : Hp) : F_X6_rightAt [.ref 0, .int x1] h = if x1 < 0 then f_X6_rightAt_21 h else if x1 < (rd h 0 12) then if x1 < 60 then gd (inb x1 60) (rtn (some (.ref (SKr 5 x1.toNatClampNeg))) h) else f_X6_rightAt_21 h else f_X6_rightAt_21 h :=
  (exL_it SKc SKn SKr CS (lkp T_X6_rightAt) [] [] [] [21] 16 0 [.ref 0, .int x1] [] h).trans rfl
set_option maxRecDepth 100000 in
set_option maxHeartbeats 4000000 in
theorem e_X6_rightAt_21 (h : Hp) : f_X6_rightAt_21 h = thr 0 h :=
  (exL_it SKc SKn SKr CS (lkp T_X6_rightAt) [] [] [] [21] 1 21 [.retAddr 0, .retAddr 0] [] h).trans rfl

def T_X6_requireSlot : List (Nat × Ent) := [(0, ([], .iload_n 0, 1, 0, 0, 0, 0)),
  (1, ([], .iconst 0, 1, 0, 0, 0, 0)),
  (2, ([], .iconst 1, 1, 0, 0, 0, 1)),
  (3, ([], .invokestatic 64, 3, 0, 12, 99, 0)),
  (6, ([], .iload_n 1, 1, 1, 0, 0, 0)),
  (7, ([], .iconst 0, 1, 0, 0, 0, 0)),
  (8, ([], .bipush 6, 2, 0, 0, 0, 6)),
  (10, ([], .invokestatic 64, 3, 0, 12, 99, 0)),
  (13, ([], .iload_n 2, 1, 2, 0, 0, 0)),
  (14, ([], .iconst 0, 1, 0, 0, 0, 0)),
  (15, ([], .bipush 71, 2, 0, 0, 0, 71)),
  (17, ([], .invokestatic 64, 3, 0, 12, 99, 0)),
  (20, ([], .iload_n 3, 1, 3, 0, 0, 0)),
  (21, ([], .iconst 0, 1, 0, 0, 0, 0)),
  (22, ([], .bipush 19, 2, 0, 0, 0, 19)),
  (24, ([], .invokestatic 64, 3, 0, 12, 99, 0)),
  (27, ([], .iload 4, 2, 4, 0, 0, 0)),
  (29, ([], .iload_n 3, 1, 3, 0, 0, 0)),
  (30, ([], .bipush 19, 2, 0, 0, 0, 19)),
  (32, ([], .invokestatic 64, 3, 0, 12, 99, 0)),
  (35, ([], .iload 5, 2, 5, 0, 0, 0)),
  (37, ([], .iconst 0, 1, 0, 0, 0, 0)),
  (38, ([], .bipush 9, 2, 0, 0, 0, 9)),
  (40, ([], .invokestatic 64, 3, 0, 12, 99, 0)),
  (43, ([], .return_, 1, 0, 0, 0, 0))]
noncomputable def E_X6_requireSlot : Kt := exL SKc SKn SKr CS (lkp T_X6_requireSlot) [F_X6_requireRange] [] []
noncomputable def F_X6_requireSlot : Fn := fun as h => gd (chkA 6 as) (E_X6_requireSlot 0 (pad 6 as) [] h)
set_option maxRecDepth 100000 in
set_option maxHeartbeats 4000000 in
theorem e_X6_requireSlot_0 (x0 : Int32) (x1 : Int32) (x2 : Int32) (x3 : Int32) (x4 : Int32) (x5 : Int32) (h : Hp) : F_X6_requireSlot [.int x0, .int x1, .int x2, .int x3, .int x4, .int x5] h = bV (F_X6_requireRange [.int x0, .int 0, .int 1] h) (fun h1 => bV (F_X6_requireRange [.int x1, .int 0, .int 6] h1) (fun h2 => bV (F_X6_requireRange [.int x2, .int 0, .int 71] h2) (fun h3 => bV (F_X6_requireRange [.int x3, .int 0, .int 19] h3) (fun h4 => bV (F_X6_requireRange [.int x4, .int x3, .int 19] h4) (fun h5 => bV (F_X6_requireRange [.int x5, .int 0, .int 9] h5) (fun h6 => rtn none h6) (hnk [])) (hnk [])) (hnk [])) (hnk [])) (hnk [])) (hnk []) :=
  (exL_it SKc SKn SKr CS (lkp T_X6_requireSlot) [F_X6_requireRange] [] [] [] 25 0 [.int x0, .int x1, .int x2, .int x3, .int x4, .int x5] [] h).trans rfl

def T_X6_requestAt : List (Nat × Ent) := [(0, ([], .iload_n 1, 1, 1, 0, 0, 0)),
  (1, ([], .ifCond .lt 20, 3, 21, 0, 0, 0)),
  (4, ([], .iload_n 1, 1, 1, 0, 0, 0)),
  (5, ([], .aload_n 0, 1, 0, 0, 0, 0)),
  (6, ([], .getfield 117, 3, 10, 0, 287, 0)),
  (9, ([], .if_icmp .ge 12, 3, 21, 0, 0, 0)),
  (12, ([], .iload_n 1, 1, 1, 0, 0, 0)),
  (13, ([], .aload_n 0, 1, 0, 0, 0, 0)),
  (14, ([], .getfield 21, 3, 2, 1, 279, 0)),
  (17, ([], .arraylength, 1, 0, 0, 0, 0)),
  (18, ([], .if_icmp .lt 14, 3, 32, 0, 0, 0)),
  (21, ([true, true], .new 339, 3, 0, 0, 0, 0)),
  (32, ([], .aload_n 0, 1, 0, 0, 0, 0)),
  (33, ([], .getfield 21, 3, 2, 1, 279, 0)),
  (36, ([], .iload_n 1, 1, 1, 0, 0, 0)),
  (37, ([], .aaload, 1, 0, 0, 0, 0)),
  (38, ([], .areturn, 1, 0, 0, 0, 0))]
noncomputable def E_X6_requestAt : Kt := exL SKc SKn SKr CS (lkp T_X6_requestAt) [] [] []
noncomputable def F_X6_requestAt : Fn := fun as h => gd (chkA 2 as) (E_X6_requestAt 0 (pad 2 as) [] h)
noncomputable def f_X6_requestAt_21 (h : Hp) : Res := E_X6_requestAt 21 [.retAddr 0, .retAddr 0] [] h
set_option maxRecDepth 100000 in
set_option maxHeartbeats 4000000 in
theorem e_X6_requestAt_0 (x1 : Int32) (h : Hp) : F_X6_requestAt [.ref 0, .int x1] h = if x1 < 0 then f_X6_requestAt_21 h else if x1 < (rd h 0 10) then if x1 < 60 then gd (inb x1 60) (rtn (some (.ref (SKr 3 x1.toNatClampNeg))) h) else f_X6_requestAt_21 h else f_X6_requestAt_21 h :=
  (exL_it SKc SKn SKr CS (lkp T_X6_requestAt) [] [] [] [21] 16 0 [.ref 0, .int x1] [] h).trans rfl
set_option maxRecDepth 100000 in
set_option maxHeartbeats 4000000 in
theorem e_X6_requestAt_21 (h : Hp) : f_X6_requestAt_21 h = thr 0 h :=
  (exL_it SKc SKn SKr CS (lkp T_X6_requestAt) [] [] [] [21] 1 21 [.retAddr 0, .retAddr 0] [] h).trans rfl

def T_X6_request : List (Nat × Ent) := [(0, ([], .aload_n 0, 1, 0, 0, 0, 0)),
  (1, ([], .iload_n 1, 1, 1, 0, 0, 0)),
  (2, ([], .invokevirtual 103, 3, 0, 9, 0, 0)),
  (5, ([], .pop, 1, 0, 0, 0, 0)),
  (6, ([], .aload_n 0, 1, 0, 0, 0, 0)),
  (7, ([], .iload_n 2, 1, 2, 0, 0, 0)),
  (8, ([], .invokevirtual 56, 3, 1, 10, 0, 0)),
  (11, ([], .pop, 1, 0, 0, 0, 0)),
  (12, ([], .iload 9, 2, 9, 0, 0, 0)),
  (14, ([], .iconst (-1), 1, 0, 0, 0, (-1))),
  (15, ([], .if_icmp .ne 7, 3, 22, 0, 0, 0)),
  (18, ([], .aconst_null, 1, 0, 0, 0, 0)),
  (19, ([], .goto 9, 3, 28, 0, 0, 0)),
  (22, ([], .aload_n 0, 1, 0, 0, 0, 0)),
  (23, ([], .iload 9, 2, 9, 0, 0, 0)),
  (25, ([], .invokevirtual 109, 3, 2, 10, 0, 0)),
  (28, ([], .astore 10, 2, 10, 0, 0, 0)),
  (30, ([], .iload_n 3, 1, 3, 0, 0, 0)),
  (31, ([], .iload 4, 2, 4, 0, 0, 0)),
  (33, ([], .iload 5, 2, 5, 0, 0, 0)),
  (35, ([], .iload 6, 2, 6, 0, 0, 0)),
  (37, ([], .iload 7, 2, 7, 0, 0, 0)),
  (39, ([], .iload 8, 2, 8, 0, 0, 0)),
  (41, ([], .invokestatic 113, 3, 3, 24, 99, 0)),
  (44, ([], .aload_n 0, 1, 0, 0, 0, 0)),
  (45, ([], .getfield 117, 3, 10, 0, 287, 0)),
  (48, ([], .bipush 60, 2, 0, 0, 0, 60)),
  (50, ([], .if_icmp .lt 13, 3, 63, 0, 0, 0)),
  (53, ([], .new 72, 3, 2, 0, 0, 0)),
  (63, ([], .aload 10, 2, 10, 0, 0, 0)),
  (65, ([], .ifnull 26, 3, 91, 0, 0, 0)),
  (68, ([], .aload 10, 2, 10, 0, 0, 0)),
  (70, ([], .iload_n 1, 1, 1, 0, 0, 0)),
  (71, ([], .iload_n 2, 1, 2, 0, 0, 0)),
  (72, ([], .iload_n 3, 1, 3, 0, 0, 0)),
  (73, ([], .iload 4, 2, 4, 0, 0, 0)),
  (75, ([], .invokevirtual 122, 3, 4, 21, 6, 0)),
  (78, ([], .ifCond .ne 13, 3, 91, 0, 0, 0)),
  (81, ([], .new 72, 3, 2, 0, 0, 0)),
  (91, ([], .aload_n 0, 1, 0, 0, 0, 0)),
  (92, ([], .getfield 117, 3, 10, 0, 287, 0)),
  (95, ([], .istore 11, 2, 11, 0, 0, 0)),
  (97, ([], .aload_n 0, 1, 0, 0, 0, 0)),
  (98, ([], .iload 11, 2, 11, 0, 0, 0)),
  (100, ([], .iconst 1, 1, 0, 0, 0, 1)),
  (101, ([], .iadd, 1, 0, 0, 0, 0)),
  (102, ([], .putfield 117, 3, 10, 0, 287, 0)),
  (105, ([], .aload_n 0, 1, 0, 0, 0, 0)),
  (106, ([], .iload 11, 2, 11, 0, 0, 0)),
  (108, ([], .invokevirtual 128, 3, 5, 10, 0, 0)),
  (111, ([], .astore 12, 2, 12, 0, 0, 0)),
  (113, ([], .aload 12, 2, 12, 0, 0, 0)),
  (115, ([], .iload_n 2, 1, 2, 0, 0, 0)),
  (116, ([], .putfield 132, 3, 0, 8, 565385, 0)),
  (119, ([], .aload 12, 2, 12, 0, 0, 0)),
  (121, ([], .iload_n 3, 1, 3, 0, 0, 0)),
  (122, ([], .putfield 135, 3, 1, 8, 606355, 0)),
  (125, ([], .aload 12, 2, 12, 0, 0, 0)),
  (127, ([], .iload 4, 2, 4, 0, 0, 0)),
  (129, ([], .putfield 136, 3, 2, 8, 647325, 0)),
  (132, ([], .aload 12, 2, 12, 0, 0, 0)),
  (134, ([], .iload 5, 2, 5, 0, 0, 0)),
  (136, ([], .putfield 139, 3, 3, 8, 680101, 0)),
  (139, ([], .aload 12, 2, 12, 0, 0, 0)),
  (141, ([], .iload 6, 2, 6, 0, 0, 0)),
  (143, ([], .putfield 142, 3, 4, 8, 704683, 0)),
  (146, ([], .aload 12, 2, 12, 0, 0, 0)),
  (148, ([], .iload 7, 2, 7, 0, 0, 0)),
  (150, ([], .putfield 145, 3, 5, 8, 733362, 0)),
  (153, ([], .aload 12, 2, 12, 0, 0, 0)),
  (155, ([], .iload 8, 2, 8, 0, 0, 0)),
  (157, ([], .putfield 148, 3, 6, 8, 762041, 0)),
  (160, ([], .aload 12, 2, 12, 0, 0, 0)),
  (162, ([], .iload_n 1, 1, 1, 0, 0, 0)),
  (163, ([], .iload 9, 2, 9, 0, 0, 0)),
  (165, ([], .invokevirtual 151, 3, 6, 12, 4, 0)),
  (168, ([], .aload 10, 2, 10, 0, 0, 0)),
  (170, ([], .ifnull 10, 3, 180, 0, 0, 0)),
  (173, ([], .aload 10, 2, 10, 0, 0, 0)),
  (175, ([], .iload 11, 2, 11, 0, 0, 0)),
  (177, ([], .putfield 155, 3, 8, 12, 264, 0)),
  (180, ([], .iload 11, 2, 11, 0, 0, 0)),
  (182, ([], .ireturn, 1, 0, 0, 0, 0))]
noncomputable def E_X6_request : Kt := exL SKc SKn SKr CS (lkp T_X6_request) [F_X6_groupAt, F_X6_airportAt, F_X6_rightAt, F_X6_requireSlot, F_X2_mayBeClaimed, F_X6_requestAt, F_X1_ask] [] []
noncomputable def F_X6_request : Fn := fun as h => gd (chkA 10 as) (E_X6_request 0 (pad 13 as) [] h)
set_option maxRecDepth 100000 in
set_option maxHeartbeats 4000000 in
theorem e_X6_request_0 (x1 : Int32) (x2 : Int32) (x3 : Int32) (x4 : Int32) (x5 : Int32) (x6 : Int32) (x7 : Int32) (x8 : Int32) (x9 : Int32) (h : Hp) : F_X6_request [.ref 0, .int x1, .int x2, .int x3, .int x4, .int x5, .int x6, .int x7, .int x8, .int x9] h = bI (F_X6_groupAt [.ref 0, .int x1] h) (fun v2 h1 => bR (F_X6_airportAt [.ref 0, .int x2] h1) (fun v4 h3 => if x9 = (-1) then bV (F_X6_requireSlot [.int x3, .int x4, .int x5, .int x6, .int x7, .int x8] h3) (fun h5 => if (rd h5 0 10) < 60 then bR (F_X6_requestAt [.ref 0, .int (rd h5 0 10)] (wr h5 0 10 ((rd h5 0 10) + 1))) (fun v7 h6 => gd (okc v7 4) (gd (okc v7 4) (gd (okc v7 4) (gd (okc v7 4) (gd (okc v7 4) (gd (okc v7 4) (gd (okc v7 4) (gd (okc v7 4) (bV (F_X1_ask [.ref v7, .int x1, .int x9] (wr (wr (wr (wr (wr (wr (wr h6 v7 0 x2) v7 1 x3) v7 2 x4) v7 3 x5) v7 4 x6) v7 5 x7) v7 6 x8)) (fun h8 => rtn (some (.int (rd h5 0 10))) h8) (hnk [])))))))))) (hnk []) else thr 2 h5) (hnk []) else bR (F_X6_rightAt [.ref 0, .int x9] h3) (fun v10 h9 => bV (F_X6_requireSlot [.int x3, .int x4, .int x5, .int x6, .int x7, .int x8] h9) (fun h11 => if (rd h11 0 10) < 60 then gd (okc v10 6) (bI (F_X2_mayBeClaimed [.ref v10, .int x1, .int x2, .int x3, .int x4] h11) (fun v13 h12 => if v13 = 0 then thr 2 h12 else bR (F_X6_requestAt [.ref 0, .int (rd h12 0 10)] (wr h12 0 10 ((rd h12 0 10) + 1))) (fun v15 h14 => gd (okc v15 4) (gd (okc v15 4) (gd (okc v15 4) (gd (okc v15 4) (gd (okc v15 4) (gd (okc v15 4) (gd (okc v15 4) (gd (okc v15 4) (bV (F_X1_ask [.ref v15, .int x1, .int x9] (wr (wr (wr (wr (wr (wr (wr h14 v15 0 x2) v15 1 x3) v15 2 x4) v15 3 x5) v15 4 x6) v15 5 x7) v15 6 x8)) (fun h16 => gd (okc v10 6) (rtn (some (.int (rd h12 0 10))) (wr h16 v10 8 (rd h12 0 10)))) (hnk [])))))))))) (hnk [])) (hnk [])) else thr 2 h11) (hnk [])) (hnk [])) (hnk [])) (hnk []) :=
  (exL_it SKc SKn SKr CS (lkp T_X6_request) [F_X6_groupAt, F_X6_airportAt, F_X6_rightAt, F_X6_requireSlot, F_X2_mayBeClaimed, F_X6_requestAt, F_X1_ask] [] [] [] 79 0 [.ref 0, .int x1, .int x2, .int x3, .int x4, .int x5, .int x6, .int x7, .int x8, .int x9, .retAddr 0, .retAddr 0, .retAddr 0] [] h).trans rfl

def T_X6_link : List (Nat × Ent) := [(0, ([], .aload_n 0, 1, 0, 0, 0, 0)),
  (1, ([], .iload_n 1, 1, 1, 0, 0, 0)),
  (2, ([], .invokevirtual 128, 3, 0, 10, 0, 0)),
  (5, ([], .astore_n 3, 1, 3, 0, 0, 0)),
  (6, ([], .aload_n 0, 1, 0, 0, 0, 0)),
  (7, ([], .iload_n 2, 1, 2, 0, 0, 0)),
  (8, ([], .invokevirtual 128, 3, 0, 10, 0, 0)),
  (11, ([], .astore 4, 2, 4, 0, 0, 0)),
  (13, ([], .iload_n 1, 1, 1, 0, 0, 0)),
  (14, ([], .iload_n 2, 1, 2, 0, 0, 0)),
  (15, ([], .if_icmp .ne 13, 3, 28, 0, 0, 0)),
  (18, ([], .new 158, 3, 1, 0, 0, 0)),
  (28, ([], .aload_n 3, 1, 3, 0, 0, 0)),
  (29, ([], .invokevirtual 163, 3, 1, 5, 4, 0)),
  (32, ([], .ifCond .eq 11, 3, 43, 0, 0, 0)),
  (35, ([], .aload 4, 2, 4, 0, 0, 0)),
  (37, ([], .invokevirtual 163, 3, 1, 5, 4, 0)),
  (40, ([], .ifCond .ne 13, 3, 53, 0, 0, 0)),
  (43, ([true, true, true, true, true], .new 72, 3, 2, 0, 0, 0)),
  (53, ([], .aload_n 3, 1, 3, 0, 0, 0)),
  (54, ([], .iload_n 2, 1, 2, 0, 0, 0)),
  (55, ([], .putfield 169, 3, 13, 8, 131, 0)),
  (58, ([], .aload 4, 2, 4, 0, 0, 0)),
  (60, ([], .iload_n 1, 1, 1, 0, 0, 0)),
  (61, ([], .putfield 169, 3, 13, 8, 131, 0)),
  (64, ([], .return_, 1, 0, 0, 0, 0))]
noncomputable def E_X6_link : Kt := exL SKc SKn SKr CS (lkp T_X6_link) [F_X6_requestAt, F_X1_mayBeLinked] [] []
noncomputable def F_X6_link : Fn := fun as h => gd (chkA 3 as) (E_X6_link 0 (pad 5 as) [] h)
noncomputable def f_X6_link_43 (h : Hp) : Res := E_X6_link 43 [.retAddr 0, .retAddr 0, .retAddr 0, .retAddr 0, .retAddr 0] [] h
set_option maxRecDepth 100000 in
set_option maxHeartbeats 4000000 in
theorem e_X6_link_0 (x1 : Int32) (x2 : Int32) (h : Hp) : F_X6_link [.ref 0, .int x1, .int x2] h = bR (F_X6_requestAt [.ref 0, .int x1] h) (fun v2 h1 => bR (F_X6_requestAt [.ref 0, .int x2] h1) (fun v4 h3 => if x1 = x2 then thr 1 h3 else gd (okc v2 4) (bI (F_X1_mayBeLinked [.ref v2] h3) (fun v6 h5 => if v6 = 0 then f_X6_link_43 h5 else gd (okc v4 4) (bI (F_X1_mayBeLinked [.ref v4] h5) (fun v8 h7 => if v8 = 0 then f_X6_link_43 h7 else gd (okc v2 4) (gd (okc v4 4) (rtn none (wr (wr h7 v2 13 x2) v4 13 x1)))) (hnk []))) (hnk []))) (hnk [])) (hnk []) :=
  (exL_it SKc SKn SKr CS (lkp T_X6_link) [F_X6_requestAt, F_X1_mayBeLinked] [] [] [43] 24 0 [.ref 0, .int x1, .int x2, .retAddr 0, .retAddr 0] [] h).trans rfl
set_option maxRecDepth 100000 in
set_option maxHeartbeats 4000000 in
theorem e_X6_link_43 (h : Hp) : f_X6_link_43 h = thr 2 h :=
  (exL_it SKc SKn SKr CS (lkp T_X6_link) [F_X6_requestAt, F_X1_mayBeLinked] [] [] [43] 1 43 [.retAddr 0, .retAddr 0, .retAddr 0, .retAddr 0, .retAddr 0] [] h).trans rfl

def T_X6_requestsThatAre : List (Nat × Ent) := [(0, ([], .iconst 0, 1, 0, 0, 0, 0)),
  (1, ([], .istore_n 2, 1, 2, 0, 0, 0)),
  (2, ([], .iconst 0, 1, 0, 0, 0, 0)),
  (3, ([], .istore_n 3, 1, 3, 0, 0, 0)),
  (4, ([false, false, false, false], .iload_n 3, 1, 3, 0, 0, 0)),
  (5, ([], .aload_n 0, 1, 0, 0, 0, 0)),
  (6, ([], .getfield 117, 3, 10, 0, 287, 0)),
  (9, ([], .if_icmp .ge 24, 3, 33, 0, 0, 0)),
  (12, ([], .aload_n 0, 1, 0, 0, 0, 0)),
  (13, ([], .iload_n 3, 1, 3, 0, 0, 0)),
  (14, ([], .invokevirtual 128, 3, 0, 10, 0, 0)),
  (17, ([], .getfield 184, 3, 9, 8, 123, 0)),
  (20, ([], .iload_n 1, 1, 1, 0, 0, 0)),
  (21, ([], .if_icmp .ne 6, 3, 27, 0, 0, 0)),
  (24, ([], .iinc 2 1, 3, 2, 0, 0, 1)),
  (27, ([false, false, false, false], .iinc 3 1, 3, 3, 0, 0, 1)),
  (30, ([], .goto (-26), 3, 4, 0, 0, 0)),
  (33, ([], .iload_n 2, 1, 2, 0, 0, 0)),
  (34, ([], .ireturn, 1, 0, 0, 0, 0))]
noncomputable def E_X6_requestsThatAre : Kt := exL SKc SKn SKr CS (lkp T_X6_requestsThatAre) [F_X6_requestAt] [] []
noncomputable def F_X6_requestsThatAre : Fn := fun as h => gd (chkA 2 as) (E_X6_requestsThatAre 0 (pad 4 as) [] h)
noncomputable def f_X6_requestsThatAre_4 (x1 : Int32) (x2 : Int32) (x3 : Int32) (h : Hp) : Res := E_X6_requestsThatAre 4 [.ref 0, .int x1, .int x2, .int x3] [] h
noncomputable def f_X6_requestsThatAre_27 (x1 : Int32) (x2 : Int32) (x3 : Int32) (h : Hp) : Res := E_X6_requestsThatAre 27 [.ref 0, .int x1, .int x2, .int x3] [] h
set_option maxRecDepth 100000 in
set_option maxHeartbeats 4000000 in
theorem e_X6_requestsThatAre_0 (x1 : Int32) (h : Hp) : F_X6_requestsThatAre [.ref 0, .int x1] h = f_X6_requestsThatAre_4 x1 0 0 h :=
  (exL_it SKc SKn SKr CS (lkp T_X6_requestsThatAre) [F_X6_requestAt] [] [] [4, 27] 4 0 [.ref 0, .int x1, .retAddr 0, .retAddr 0] [] h).trans rfl
set_option maxRecDepth 100000 in
set_option maxHeartbeats 4000000 in
theorem e_X6_requestsThatAre_4 (x1 : Int32) (x2 : Int32) (x3 : Int32) (h : Hp) : f_X6_requestsThatAre_4 x1 x2 x3 h = if x3 < (rd h 0 10) then bR (F_X6_requestAt [.ref 0, .int x3] h) (fun v2 h1 => gd (okc v2 4) (if (rd h1 v2 9) = x1 then f_X6_requestsThatAre_27 x1 (x2 + 1) x3 h1 else f_X6_requestsThatAre_27 x1 x2 x3 h1)) (hnk []) else rtn (some (.int x2)) h :=
  (exL_it SKc SKn SKr CS (lkp T_X6_requestsThatAre) [F_X6_requestAt] [] [] [4, 27] 11 4 [.ref 0, .int x1, .int x2, .int x3] [] h).trans rfl
set_option maxRecDepth 100000 in
set_option maxHeartbeats 4000000 in
theorem e_X6_requestsThatAre_27 (x1 : Int32) (x2 : Int32) (x3 : Int32) (h : Hp) : f_X6_requestsThatAre_27 x1 x2 x3 h = f_X6_requestsThatAre_4 x1 x2 (x3 + 1) h :=
  (exL_it SKc SKn SKr CS (lkp T_X6_requestsThatAre) [F_X6_requestAt] [] [] [4, 27] 2 27 [.ref 0, .int x1, .int x2, .int x3] [] h).trans rfl

def T_X6_seriesAt : List (Nat × Ent) := [(0, ([], .iload_n 1, 1, 1, 0, 0, 0)),
  (1, ([], .ifCond .lt 20, 3, 21, 0, 0, 0)),
  (4, ([], .iload_n 1, 1, 1, 0, 0, 0)),
  (5, ([], .aload_n 0, 1, 0, 0, 0, 0)),
  (6, ([], .getfield 268, 3, 11, 0, 288, 0)),
  (9, ([], .if_icmp .ge 12, 3, 21, 0, 0, 0)),
  (12, ([], .iload_n 1, 1, 1, 0, 0, 0)),
  (13, ([], .aload_n 0, 1, 0, 0, 0, 0)),
  (14, ([], .getfield 27, 3, 3, 1, 280, 0)),
  (17, ([], .arraylength, 1, 0, 0, 0, 0)),
  (18, ([], .if_icmp .lt 14, 3, 32, 0, 0, 0)),
  (21, ([true, true], .new 339, 3, 0, 0, 0, 0)),
  (32, ([], .aload_n 0, 1, 0, 0, 0, 0)),
  (33, ([], .getfield 27, 3, 3, 1, 280, 0)),
  (36, ([], .iload_n 1, 1, 1, 0, 0, 0)),
  (37, ([], .aaload, 1, 0, 0, 0, 0)),
  (38, ([], .areturn, 1, 0, 0, 0, 0))]
noncomputable def E_X6_seriesAt : Kt := exL SKc SKn SKr CS (lkp T_X6_seriesAt) [] [] []
noncomputable def F_X6_seriesAt : Fn := fun as h => gd (chkA 2 as) (E_X6_seriesAt 0 (pad 2 as) [] h)
noncomputable def f_X6_seriesAt_21 (h : Hp) : Res := E_X6_seriesAt 21 [.retAddr 0, .retAddr 0] [] h
set_option maxRecDepth 100000 in
set_option maxHeartbeats 4000000 in
theorem e_X6_seriesAt_0 (x1 : Int32) (h : Hp) : F_X6_seriesAt [.ref 0, .int x1] h = if x1 < 0 then f_X6_seriesAt_21 h else if x1 < (rd h 0 11) then if x1 < 60 then gd (inb x1 60) (rtn (some (.ref (SKr 4 x1.toNatClampNeg))) h) else f_X6_seriesAt_21 h else f_X6_seriesAt_21 h :=
  (exL_it SKc SKn SKr CS (lkp T_X6_seriesAt) [] [] [] [21] 16 0 [.ref 0, .int x1] [] h).trans rfl
set_option maxRecDepth 100000 in
set_option maxHeartbeats 4000000 in
theorem e_X6_seriesAt_21 (h : Hp) : f_X6_seriesAt_21 h = thr 0 h :=
  (exL_it SKc SKn SKr CS (lkp T_X6_seriesAt) [] [] [] [21] 1 21 [.retAddr 0, .retAddr 0] [] h).trans rfl

def T_X6_isGroupNew : List (Nat × Ent) := [(0, ([], .iconst 0, 1, 0, 0, 0, 0)),
  (1, ([], .istore_n 3, 1, 3, 0, 0, 0)),
  (2, ([], .iconst 0, 1, 0, 0, 0, 0)),
  (3, ([], .istore 4, 2, 4, 0, 0, 0)),
  (5, ([false, false, false, false, false, true], .iload 4, 2, 4, 0, 0, 0)),
  (7, ([], .aload_n 0, 1, 0, 0, 0, 0)),
  (8, ([], .getfield 265, 3, 12, 0, 289, 0)),
  (11, ([], .if_icmp .ge 42, 3, 53, 0, 0, 0)),
  (14, ([], .aload_n 0, 1, 0, 0, 0, 0)),
  (15, ([], .iload 4, 2, 4, 0, 0, 0)),
  (17, ([], .invokevirtual 109, 3, 0, 10, 0, 0)),
  (20, ([], .astore 5, 2, 5, 0, 0, 0)),
  (22, ([], .aload 5, 2, 5, 0, 0, 0)),
  (24, ([], .getfield 319, 3, 0, 12, 553100, 0)),
  (27, ([], .iload_n 2, 1, 2, 0, 0, 0)),
  (28, ([], .if_icmp .ne 19, 3, 47, 0, 0, 0)),
  (31, ([], .aload_n 0, 1, 0, 0, 0, 0)),
  (32, ([], .aload 5, 2, 5, 0, 0, 0)),
  (34, ([], .getfield 316, 3, 7, 12, 262, 0)),
  (37, ([], .invokevirtual 103, 3, 1, 9, 0, 0)),
  (40, ([], .iload_n 1, 1, 1, 0, 0, 0)),
  (41, ([], .if_icmp .ne 6, 3, 47, 0, 0, 0)),
  (44, ([], .iinc 3 1, 3, 3, 0, 0, 1)),
  (47, ([false, false, false, false, false, true], .iinc 4 1, 3, 4, 0, 0, 1)),
  (50, ([], .goto (-45), 3, 5, 0, 0, 0)),
  (53, ([], .iconst 0, 1, 0, 0, 0, 0)),
  (54, ([], .istore 4, 2, 4, 0, 0, 0)),
  (56, ([false, false, false, false, false, true], .iload 4, 2, 4, 0, 0, 0)),
  (58, ([], .aload_n 0, 1, 0, 0, 0, 0)),
  (59, ([], .getfield 268, 3, 11, 0, 288, 0)),
  (62, ([], .if_icmp .ge 50, 3, 112, 0, 0, 0)),
  (65, ([], .aload_n 0, 1, 0, 0, 0, 0)),
  (66, ([], .iload 4, 2, 4, 0, 0, 0)),
  (68, ([], .invokevirtual 206, 3, 2, 10, 0, 0)),
  (71, ([], .astore 5, 2, 5, 0, 0, 0)),
  (73, ([], .aload 5, 2, 5, 0, 0, 0)),
  (75, ([], .getfield 210, 3, 12, 10, 235, 0)),
  (78, ([], .ifCond .ne 28, 3, 106, 0, 0, 0)),
  (81, ([], .aload 5, 2, 5, 0, 0, 0)),
  (83, ([], .getfield 218, 3, 0, 10, 544907, 0)),
  (86, ([], .iload_n 2, 1, 2, 0, 0, 0)),
  (87, ([], .if_icmp .ne 19, 3, 106, 0, 0, 0)),
  (90, ([], .aload_n 0, 1, 0, 0, 0, 0)),
  (91, ([], .aload 5, 2, 5, 0, 0, 0)),
  (93, ([], .getfield 226, 3, 8, 10, 227, 0)),
  (96, ([], .invokevirtual 103, 3, 1, 9, 0, 0)),
  (99, ([], .iload_n 1, 1, 1, 0, 0, 0)),
  (100, ([], .if_icmp .ne 6, 3, 106, 0, 0, 0)),
  (103, ([], .iinc 3 1, 3, 3, 0, 0, 1)),
  (106, ([false, false, false, false, false, true], .iinc 4 1, 3, 4, 0, 0, 1)),
  (109, ([], .goto (-53), 3, 56, 0, 0, 0)),
  (112, ([], .iload_n 3, 1, 3, 0, 0, 0)),
  (113, ([], .iconst 3, 1, 0, 0, 0, 3)),
  (114, ([], .if_icmp .ge 7, 3, 121, 0, 0, 0)),
  (117, ([], .iconst 1, 1, 0, 0, 0, 1)),
  (118, ([], .goto 4, 3, 122, 0, 0, 0)),
  (121, ([], .iconst 0, 1, 0, 0, 0, 0)),
  (122, ([], .ireturn, 1, 0, 1, 0, 0))]
noncomputable def E_X6_isGroupNew : Kt := exL SKc SKn SKr CS (lkp T_X6_isGroupNew) [F_X6_rightAt, F_X6_groupAt, F_X6_seriesAt] [] []
noncomputable def F_X6_isGroupNew : Fn := fun as h => gd (chkA 3 as) (E_X6_isGroupNew 0 (pad 6 as) [] h)
noncomputable def f_X6_isGroupNew_5 (x1 : Int32) (x2 : Int32) (x3 : Int32) (x4 : Int32) (h : Hp) : Res := E_X6_isGroupNew 5 [.ref 0, .int x1, .int x2, .int x3, .int x4, .retAddr 0] [] h
noncomputable def f_X6_isGroupNew_47 (x1 : Int32) (x2 : Int32) (x3 : Int32) (x4 : Int32) (h : Hp) : Res := E_X6_isGroupNew 47 [.ref 0, .int x1, .int x2, .int x3, .int x4, .retAddr 0] [] h
noncomputable def f_X6_isGroupNew_56 (x1 : Int32) (x2 : Int32) (x3 : Int32) (x4 : Int32) (h : Hp) : Res := E_X6_isGroupNew 56 [.ref 0, .int x1, .int x2, .int x3, .int x4, .retAddr 0] [] h
noncomputable def f_X6_isGroupNew_106 (x1 : Int32) (x2 : Int32) (x3 : Int32) (x4 : Int32) (h : Hp) : Res := E_X6_isGroupNew 106 [.ref 0, .int x1, .int x2, .int x3, .int x4, .retAddr 0] [] h
set_option maxRecDepth 100000 in
set_option maxHeartbeats 4000000 in
theorem e_X6_isGroupNew_0 (x1 : Int32) (x2 : Int32) (h : Hp) : F_X6_isGroupNew [.ref 0, .int x1, .int x2] h = f_X6_isGroupNew_5 x1 x2 0 0 h :=
  (exL_it SKc SKn SKr CS (lkp T_X6_isGroupNew) [F_X6_rightAt, F_X6_groupAt, F_X6_seriesAt] [] [] [5, 47, 56, 106] 4 0 [.ref 0, .int x1, .int x2, .retAddr 0, .retAddr 0, .retAddr 0] [] h).trans rfl
set_option maxRecDepth 100000 in
set_option maxHeartbeats 4000000 in
theorem e_X6_isGroupNew_5 (x1 : Int32) (x2 : Int32) (x3 : Int32) (x4 : Int32) (h : Hp) : f_X6_isGroupNew_5 x1 x2 x3 x4 h = if x4 < (rd h 0 12) then bR (F_X6_rightAt [.ref 0, .int x4] h) (fun v2 h1 => gd (okc v2 6) (if (rd h1 v2 0) = x2 then gd (okc v2 6) (bI (F_X6_groupAt [.ref 0, .int (rd h1 v2 7)] h1) (fun v4 h3 => if v4 = x1 then f_X6_isGroupNew_47 x1 x2 (x3 + 1) x4 h3 else f_X6_isGroupNew_47 x1 x2 x3 x4 h3) (hnk [])) else f_X6_isGroupNew_47 x1 x2 x3 x4 h1)) (hnk []) else f_X6_isGroupNew_56 x1 x2 x3 0 h :=
  (exL_it SKc SKn SKr CS (lkp T_X6_isGroupNew) [F_X6_rightAt, F_X6_groupAt, F_X6_seriesAt] [] [] [5, 47, 56, 106] 19 5 [.ref 0, .int x1, .int x2, .int x3, .int x4, .retAddr 0] [] h).trans rfl
set_option maxRecDepth 100000 in
set_option maxHeartbeats 4000000 in
theorem e_X6_isGroupNew_47 (x1 : Int32) (x2 : Int32) (x3 : Int32) (x4 : Int32) (h : Hp) : f_X6_isGroupNew_47 x1 x2 x3 x4 h = f_X6_isGroupNew_5 x1 x2 x3 (x4 + 1) h :=
  (exL_it SKc SKn SKr CS (lkp T_X6_isGroupNew) [F_X6_rightAt, F_X6_groupAt, F_X6_seriesAt] [] [] [5, 47, 56, 106] 2 47 [.ref 0, .int x1, .int x2, .int x3, .int x4, .retAddr 0] [] h).trans rfl
set_option maxRecDepth 100000 in
set_option maxHeartbeats 4000000 in
theorem e_X6_isGroupNew_56 (x1 : Int32) (x2 : Int32) (x3 : Int32) (x4 : Int32) (h : Hp) : f_X6_isGroupNew_56 x1 x2 x3 x4 h = if x4 < (rd h 0 11) then bR (F_X6_seriesAt [.ref 0, .int x4] h) (fun v2 h1 => gd (okc v2 5) (if (rd h1 v2 12) = 0 then gd (okc v2 5) (if (rd h1 v2 0) = x2 then gd (okc v2 5) (bI (F_X6_groupAt [.ref 0, .int (rd h1 v2 8)] h1) (fun v4 h3 => if v4 = x1 then f_X6_isGroupNew_106 x1 x2 (x3 + 1) x4 h3 else f_X6_isGroupNew_106 x1 x2 x3 x4 h3) (hnk [])) else f_X6_isGroupNew_106 x1 x2 x3 x4 h1) else f_X6_isGroupNew_106 x1 x2 x3 x4 h1)) (hnk []) else if x3 < 3 then rtn (some (.int 1)) h else rtn (some (.int 0)) h :=
  (exL_it SKc SKn SKr CS (lkp T_X6_isGroupNew) [F_X6_rightAt, F_X6_groupAt, F_X6_seriesAt] [] [] [5, 47, 56, 106] 22 56 [.ref 0, .int x1, .int x2, .int x3, .int x4, .retAddr 0] [] h).trans rfl
set_option maxRecDepth 100000 in
set_option maxHeartbeats 4000000 in
theorem e_X6_isGroupNew_106 (x1 : Int32) (x2 : Int32) (x3 : Int32) (x4 : Int32) (h : Hp) : f_X6_isGroupNew_106 x1 x2 x3 x4 h = f_X6_isGroupNew_56 x1 x2 x3 (x4 + 1) h :=
  (exL_it SKc SKn SKr CS (lkp T_X6_isGroupNew) [F_X6_rightAt, F_X6_groupAt, F_X6_seriesAt] [] [] [5, 47, 56, 106] 2 106 [.ref 0, .int x1, .int x2, .int x3, .int x4, .retAddr 0] [] h).trans rfl

def T_X6_sortNow : List (Nat × Ent) := [(0, ([], .aload_n 1, 1, 1, 0, 0, 0)),
  (1, ([], .getfield 393, 3, 8, 8, 121, 0)),
  (4, ([], .iconst (-1), 1, 0, 0, 0, (-1))),
  (5, ([], .if_icmp .eq 24, 3, 29, 0, 0, 0)),
  (8, ([], .aload_n 1, 1, 1, 0, 0, 0)),
  (9, ([], .aload_n 0, 1, 0, 0, 0, 0)),
  (10, ([], .aload_n 1, 1, 1, 0, 0, 0)),
  (11, ([], .getfield 393, 3, 8, 8, 121, 0)),
  (14, ([], .invokevirtual 109, 3, 2, 10, 0, 0)),
  (17, ([], .invokevirtual 396, 3, 3, 9, 4, 0)),
  (20, ([], .ifCond .eq 7, 3, 27, 0, 0, 0)),
  (23, ([], .iconst 0, 1, 0, 0, 0, 0)),
  (24, ([], .goto 4, 3, 28, 0, 0, 0)),
  (27, ([], .iconst 1, 1, 0, 0, 0, 1)),
  (28, ([], .ireturn, 1, 0, 0, 0, 0)),
  (29, ([], .aload_n 0, 1, 0, 0, 0, 0)),
  (30, ([], .aload_n 0, 1, 0, 0, 0, 0)),
  (31, ([], .aload_n 1, 1, 1, 0, 0, 0)),
  (32, ([], .getfield 400, 3, 7, 8, 119, 0)),
  (35, ([], .invokevirtual 103, 3, 0, 9, 0, 0)),
  (38, ([], .aload_n 1, 1, 1, 0, 0, 0)),
  (39, ([], .getfield 132, 3, 0, 8, 565385, 0)),
  (42, ([], .invokevirtual 328, 3, 1, 13, 0, 0)),
  (45, ([], .ifCond .eq 7, 3, 52, 0, 0, 0)),
  (48, ([], .iconst 2, 1, 0, 0, 0, 2)),
  (49, ([], .goto 4, 3, 53, 0, 0, 0)),
  (52, ([], .iconst 3, 1, 0, 0, 0, 3)),
  (53, ([], .ireturn, 1, 0, 0, 0, 0))]
noncomputable def E_X6_sortNow : Kt := exL SKc SKn SKr CS (lkp T_X6_sortNow) [F_X6_groupAt, F_X6_isGroupNew, F_X6_rightAt, F_X5_isSameAs] [] []
noncomputable def F_X6_sortNow : Fn := fun as h => gd (chkA 2 as) (E_X6_sortNow 0 (pad 2 as) [] h)
set_option maxRecDepth 100000 in
set_option maxHeartbeats 4000000 in
theorem e_X6_sortNow_0 (a1 : Nat) (h : Hp) : F_X6_sortNow [.ref 0, .ref a1] h = gd (okc a1 4) (if (rd h a1 8) = (-1) then gd (okc a1 4) (bI (F_X6_groupAt [.ref 0, .int (rd h a1 7)] h) (fun v2 h1 => gd (okc a1 4) (bI (F_X6_isGroupNew [.ref 0, .int v2, .int (rd h1 a1 0)] h1) (fun v4 h3 => if v4 = 0 then rtn (some (.int 3)) h3 else rtn (some (.int 2)) h3) (hnk []))) (hnk [])) else gd (okc a1 4) (bR (F_X6_rightAt [.ref 0, .int (rd h a1 8)] h) (fun v6 h5 => gd (okc a1 4) (bI (F_X5_isSameAs [.ref a1, .ref v6] h5) (fun v8 h7 => if v8 = 0 then rtn (some (.int 1)) h7 else rtn (some (.int 0)) h7) (hnk []))) (hnk []))) :=
  (exL_it SKc SKn SKr CS (lkp T_X6_sortNow) [F_X6_groupAt, F_X6_isGroupNew, F_X6_rightAt, F_X5_isSameAs] [] [] [] 16 0 [.ref 0, .ref a1] [] h).trans rfl

def T_X6_sortAllAsked : List (Nat × Ent) := [(0, ([], .iconst 0, 1, 0, 0, 0, 0)),
  (1, ([], .istore_n 1, 1, 1, 0, 0, 0)),
  (2, ([false, false, true], .iload_n 1, 1, 1, 0, 0, 0)),
  (3, ([], .aload_n 0, 1, 0, 0, 0, 0)),
  (4, ([], .getfield 117, 3, 10, 0, 287, 0)),
  (7, ([], .if_icmp .ge 31, 3, 38, 0, 0, 0)),
  (10, ([], .aload_n 0, 1, 0, 0, 0, 0)),
  (11, ([], .iload_n 1, 1, 1, 0, 0, 0)),
  (12, ([], .invokevirtual 128, 3, 0, 10, 0, 0)),
  (15, ([], .astore_n 2, 1, 2, 0, 0, 0)),
  (16, ([], .aload_n 2, 1, 2, 0, 0, 0)),
  (17, ([], .getfield 184, 3, 9, 8, 123, 0)),
  (20, ([], .ifCond .ne 12, 3, 32, 0, 0, 0)),
  (23, ([], .aload_n 2, 1, 2, 0, 0, 0)),
  (24, ([], .aload_n 0, 1, 0, 0, 0, 0)),
  (25, ([], .aload_n 2, 1, 2, 0, 0, 0)),
  (26, ([], .invokevirtual 287, 3, 1, 9, 0, 0)),
  (29, ([], .putfield 291, 3, 10, 8, 125, 0)),
  (32, ([false, false, true], .iinc 1 1, 3, 1, 0, 0, 1)),
  (35, ([], .goto (-33), 3, 2, 0, 0, 0)),
  (38, ([], .return_, 1, 0, 0, 0, 0))]
noncomputable def E_X6_sortAllAsked : Kt := exL SKc SKn SKr CS (lkp T_X6_sortAllAsked) [F_X6_requestAt, F_X6_sortNow] [] []
noncomputable def F_X6_sortAllAsked : Fn := fun as h => gd (chkA 1 as) (E_X6_sortAllAsked 0 (pad 3 as) [] h)
noncomputable def f_X6_sortAllAsked_2 (x1 : Int32) (h : Hp) : Res := E_X6_sortAllAsked 2 [.ref 0, .int x1, .retAddr 0] [] h
noncomputable def f_X6_sortAllAsked_32 (x1 : Int32) (h : Hp) : Res := E_X6_sortAllAsked 32 [.ref 0, .int x1, .retAddr 0] [] h
set_option maxRecDepth 100000 in
set_option maxHeartbeats 4000000 in
theorem e_X6_sortAllAsked_0 (h : Hp) : F_X6_sortAllAsked [.ref 0] h = f_X6_sortAllAsked_2 0 h :=
  (exL_it SKc SKn SKr CS (lkp T_X6_sortAllAsked) [F_X6_requestAt, F_X6_sortNow] [] [] [2, 32] 2 0 [.ref 0, .retAddr 0, .retAddr 0] [] h).trans rfl
set_option maxRecDepth 100000 in
set_option maxHeartbeats 4000000 in
theorem e_X6_sortAllAsked_2 (x1 : Int32) (h : Hp) : f_X6_sortAllAsked_2 x1 h = if x1 < (rd h 0 10) then bR (F_X6_requestAt [.ref 0, .int x1] h) (fun v2 h1 => gd (okc v2 4) (if (rd h1 v2 9) = 0 then bI (F_X6_sortNow [.ref 0, .ref v2] h1) (fun v4 h3 => gd (okc v2 4) (f_X6_sortAllAsked_32 x1 (wr h3 v2 10 v4))) (hnk []) else f_X6_sortAllAsked_32 x1 h1)) (hnk []) else rtn none h :=
  (exL_it SKc SKn SKr CS (lkp T_X6_sortAllAsked) [F_X6_requestAt, F_X6_sortNow] [] [] [2, 32] 16 2 [.ref 0, .int x1, .retAddr 0] [] h).trans rfl
set_option maxRecDepth 100000 in
set_option maxHeartbeats 4000000 in
theorem e_X6_sortAllAsked_32 (x1 : Int32) (h : Hp) : f_X6_sortAllAsked_32 x1 h = f_X6_sortAllAsked_2 (x1 + 1) h :=
  (exL_it SKc SKn SKr CS (lkp T_X6_sortAllAsked) [F_X6_requestAt, F_X6_sortNow] [] [] [2, 32] 2 32 [.ref 0, .int x1, .retAddr 0] [] h).trans rfl

def T_X6_insertByWeeks : List (Nat × Ent) := [(0, ([], .aload_n 0, 1, 0, 0, 0, 0)),
  (1, ([], .iload_n 1, 1, 1, 0, 0, 0)),
  (2, ([], .invokevirtual 128, 3, 0, 10, 0, 0)),
  (5, ([], .invokevirtual 409, 3, 1, 5, 4, 0)),
  (8, ([], .istore 5, 2, 5, 0, 0, 0)),
  (10, ([], .iload 4, 2, 4, 0, 0, 0)),
  (12, ([], .istore 6, 2, 6, 0, 0, 0)),
  (14, ([false, false, false, false, true, false, false], .iload 6, 2, 6, 0, 0, 0)),
  (16, ([], .iload_n 3, 1, 3, 0, 0, 0)),
  (17, ([], .if_icmp .le 44, 3, 61, 0, 0, 0)),
  (20, ([], .iload 6, 2, 6, 0, 0, 0)),
  (22, ([], .aload_n 2, 1, 2, 0, 0, 0)),
  (23, ([], .arraylength, 1, 0, 0, 0, 0)),
  (24, ([], .if_icmp .ge 37, 3, 61, 0, 0, 0)),
  (27, ([], .aload_n 0, 1, 0, 0, 0, 0)),
  (28, ([], .aload_n 2, 1, 2, 0, 0, 0)),
  (29, ([], .iload 6, 2, 6, 0, 0, 0)),
  (31, ([], .iconst 1, 1, 0, 0, 0, 1)),
  (32, ([], .isub, 1, 0, 0, 0, 0)),
  (33, ([], .iaload, 1, 0, 0, 0, 0)),
  (34, ([], .invokevirtual 128, 3, 0, 10, 0, 0)),
  (37, ([], .invokevirtual 409, 3, 1, 5, 4, 0)),
  (40, ([], .iload 5, 2, 5, 0, 0, 0)),
  (42, ([], .if_icmp .ge 19, 3, 61, 0, 0, 0)),
  (45, ([], .aload_n 2, 1, 2, 0, 0, 0)),
  (46, ([], .iload 6, 2, 6, 0, 0, 0)),
  (48, ([], .aload_n 2, 1, 2, 0, 0, 0)),
  (49, ([], .iload 6, 2, 6, 0, 0, 0)),
  (51, ([], .iconst 1, 1, 0, 0, 0, 1)),
  (52, ([], .isub, 1, 0, 0, 0, 0)),
  (53, ([], .iaload, 1, 0, 0, 0, 0)),
  (54, ([], .iastore, 1, 0, 0, 0, 0)),
  (55, ([], .iinc 6 (-1), 3, 6, 0, 0, (-1))),
  (58, ([], .goto (-44), 3, 14, 0, 0, 0)),
  (61, ([true, false, false, true, true, true, false], .iload 6, 2, 6, 0, 0, 0)),
  (63, ([], .ifCond .lt 15, 3, 78, 0, 0, 0)),
  (66, ([], .iload 6, 2, 6, 0, 0, 0)),
  (68, ([], .aload_n 2, 1, 2, 0, 0, 0)),
  (69, ([], .arraylength, 1, 0, 0, 0, 0)),
  (70, ([], .if_icmp .ge 8, 3, 78, 0, 0, 0)),
  (73, ([], .aload_n 2, 1, 2, 0, 0, 0)),
  (74, ([], .iload 6, 2, 6, 0, 0, 0)),
  (76, ([], .iload_n 1, 1, 1, 0, 0, 0)),
  (77, ([], .iastore, 1, 0, 0, 0, 0)),
  (78, ([], .return_, 1, 0, 0, 0, 0))]
noncomputable def E_X6_insertByWeeks : Kt := exL SKc SKn SKr CS (lkp T_X6_insertByWeeks) [F_X6_requestAt, F_X5_weeks] [] []
noncomputable def F_X6_insertByWeeks : Fn := fun as h => gd (chkA 5 as) (E_X6_insertByWeeks 0 (pad 7 as) [] h)
noncomputable def f_X6_insertByWeeks_14 (x1 : Int32) (a2 : Nat) (x3 : Int32) (x5 : Int32) (x6 : Int32) (h : Hp) : Res := E_X6_insertByWeeks 14 [.ref 0, .int x1, .ref a2, .int x3, .retAddr 0, .int x5, .int x6] [] h
noncomputable def f_X6_insertByWeeks_61 (x1 : Int32) (a2 : Nat) (x6 : Int32) (h : Hp) : Res := E_X6_insertByWeeks 61 [.retAddr 0, .int x1, .ref a2, .retAddr 0, .retAddr 0, .retAddr 0, .int x6] [] h
set_option maxRecDepth 100000 in
set_option maxHeartbeats 4000000 in
theorem e_X6_insertByWeeks_0 (x1 : Int32) (a2 : Nat) (x3 : Int32) (x4 : Int32) (h : Hp) : F_X6_insertByWeeks [.ref 0, .int x1, .ref a2, .int x3, .int x4] h = bR (F_X6_requestAt [.ref 0, .int x1] h) (fun v2 h1 => gd (okc v2 4) (bI (F_X5_weeks [.ref v2] h1) (fun v4 h3 => f_X6_insertByWeeks_14 x1 a2 x3 v4 x4 h3) (hnk []))) (hnk []) :=
  (exL_it SKc SKn SKr CS (lkp T_X6_insertByWeeks) [F_X6_requestAt, F_X5_weeks] [] [] [14, 61] 7 0 [.ref 0, .int x1, .ref a2, .int x3, .int x4, .retAddr 0, .retAddr 0] [] h).trans rfl
set_option maxRecDepth 100000 in
set_option maxHeartbeats 4000000 in
theorem e_X6_insertByWeeks_14 (x1 : Int32) (a2 : Nat) (x3 : Int32) (x5 : Int32) (x6 : Int32) (h : Hp) : f_X6_insertByWeeks_14 x1 a2 x3 x5 x6 h = if x3 < x6 then gd (memb (SKc a2) [10, 11, 12, 13, 14, 15, 16, 17, 18]) (if x6 < (Int32.ofNat (alen SKn h a2)) then gd (memb (SKc a2) [10, 18] && inb (x6 - 1) (alen SKn h a2)) (bR (F_X6_requestAt [.ref 0, .int (rd h a2 ((x6 - 1).toNatClampNeg))] h) (fun v2 h1 => gd (okc v2 4) (bI (F_X5_weeks [.ref v2] h1) (fun v4 h3 => if v4 < x5 then gd (memb (SKc a2) [10, 18] && inb (x6 - 1) (alen SKn h3 a2)) (gd (Nat.beq (SKc a2) 10 && inb x6 (SKn a2)) (f_X6_insertByWeeks_14 x1 a2 x3 x5 (x6 + (-1)) (wr h3 a2 x6.toNatClampNeg (rd h3 a2 ((x6 - 1).toNatClampNeg))))) else f_X6_insertByWeeks_61 x1 a2 x6 h3) (hnk []))) (hnk [])) else f_X6_insertByWeeks_61 x1 a2 x6 h) else f_X6_insertByWeeks_61 x1 a2 x6 h :=
  (exL_it SKc SKn SKr CS (lkp T_X6_insertByWeeks) [F_X6_requestAt, F_X5_weeks] [] [] [14, 61] 27 14 [.ref 0, .int x1, .ref a2, .int x3, .retAddr 0, .int x5, .int x6] [] h).trans rfl
set_option maxRecDepth 100000 in
set_option maxHeartbeats 4000000 in
theorem e_X6_insertByWeeks_61 (x1 : Int32) (a2 : Nat) (x6 : Int32) (h : Hp) : f_X6_insertByWeeks_61 x1 a2 x6 h = if x6 < 0 then rtn none h else gd (memb (SKc a2) [10, 11, 12, 13, 14, 15, 16, 17, 18]) (if x6 < (Int32.ofNat (alen SKn h a2)) then gd (Nat.beq (SKc a2) 10 && inb x6 (SKn a2)) (rtn none (wr h a2 x6.toNatClampNeg x1)) else rtn none h) :=
  (exL_it SKc SKn SKr CS (lkp T_X6_insertByWeeks) [F_X6_requestAt, F_X5_weeks] [] [] [14, 61] 11 61 [.retAddr 0, .int x1, .ref a2, .retAddr 0, .retAddr 0, .retAddr 0, .int x6] [] h).trans rfl

def T_X6_addAskedOf : List (Nat × Ent) := [(0, ([], .iload_n 3, 1, 3, 0, 0, 0)),
  (1, ([], .istore 4, 2, 4, 0, 0, 0)),
  (3, ([], .iconst 0, 1, 0, 0, 0, 0)),
  (4, ([], .istore 5, 2, 5, 0, 0, 0)),
  (6, ([false, false, false, false, false, false, true], .iload 5, 2, 5, 0, 0, 0)),
  (8, ([], .aload_n 0, 1, 0, 0, 0, 0)),
  (9, ([], .getfield 117, 3, 10, 0, 287, 0)),
  (12, ([], .if_icmp .ge 54, 3, 66, 0, 0, 0)),
  (15, ([], .iload 4, 2, 4, 0, 0, 0)),
  (17, ([], .aload_n 2, 1, 2, 0, 0, 0)),
  (18, ([], .arraylength, 1, 0, 0, 0, 0)),
  (19, ([], .if_icmp .ge 47, 3, 66, 0, 0, 0)),
  (22, ([], .aload_n 0, 1, 0, 0, 0, 0)),
  (23, ([], .iload 5, 2, 5, 0, 0, 0)),
  (25, ([], .invokevirtual 128, 3, 0, 10, 0, 0)),
  (28, ([], .astore 6, 2, 6, 0, 0, 0)),
  (30, ([], .aload 6, 2, 6, 0, 0, 0)),
  (32, ([], .getfield 184, 3, 9, 8, 123, 0)),
  (35, ([], .ifCond .ne 25, 3, 60, 0, 0, 0)),
  (38, ([], .aload 6, 2, 6, 0, 0, 0)),
  (40, ([], .getfield 291, 3, 10, 8, 125, 0)),
  (43, ([], .iload_n 1, 1, 1, 0, 0, 0)),
  (44, ([], .if_icmp .ne 16, 3, 60, 0, 0, 0)),
  (47, ([], .aload_n 0, 1, 0, 0, 0, 0)),
  (48, ([], .iload 5, 2, 5, 0, 0, 0)),
  (50, ([], .aload_n 2, 1, 2, 0, 0, 0)),
  (51, ([], .iload_n 3, 1, 3, 0, 0, 0)),
  (52, ([], .iload 4, 2, 4, 0, 0, 0)),
  (54, ([], .invokevirtual 405, 3, 1, 20, 0, 0)),
  (57, ([], .iinc 4 1, 3, 4, 0, 0, 1)),
  (60, ([false, false, false, false, false, false, true], .iinc 5 1, 3, 5, 0, 0, 1)),
  (63, ([], .goto (-57), 3, 6, 0, 0, 0)),
  (66, ([], .iload 4, 2, 4, 0, 0, 0)),
  (68, ([], .ireturn, 1, 0, 0, 0, 0))]
noncomputable def E_X6_addAskedOf : Kt := exL SKc SKn SKr CS (lkp T_X6_addAskedOf) [F_X6_requestAt, F_X6_insertByWeeks] [] []
noncomputable def F_X6_addAskedOf : Fn := fun as h => gd (chkA 4 as) (E_X6_addAskedOf 0 (pad 7 as) [] h)
noncomputable def f_X6_addAskedOf_6 (x1 : Int32) (a2 : Nat) (x3 : Int32) (x4 : Int32) (x5 : Int32) (h : Hp) : Res := E_X6_addAskedOf 6 [.ref 0, .int x1, .ref a2, .int x3, .int x4, .int x5, .retAddr 0] [] h
noncomputable def f_X6_addAskedOf_60 (x1 : Int32) (a2 : Nat) (x3 : Int32) (x4 : Int32) (x5 : Int32) (h : Hp) : Res := E_X6_addAskedOf 60 [.ref 0, .int x1, .ref a2, .int x3, .int x4, .int x5, .retAddr 0] [] h
set_option maxRecDepth 100000 in
set_option maxHeartbeats 4000000 in
theorem e_X6_addAskedOf_0 (x1 : Int32) (a2 : Nat) (x3 : Int32) (h : Hp) : F_X6_addAskedOf [.ref 0, .int x1, .ref a2, .int x3] h = f_X6_addAskedOf_6 x1 a2 x3 x3 0 h :=
  (exL_it SKc SKn SKr CS (lkp T_X6_addAskedOf) [F_X6_requestAt, F_X6_insertByWeeks] [] [] [6, 60] 4 0 [.ref 0, .int x1, .ref a2, .int x3, .retAddr 0, .retAddr 0, .retAddr 0] [] h).trans rfl
set_option maxRecDepth 100000 in
set_option maxHeartbeats 4000000 in
theorem e_X6_addAskedOf_6 (x1 : Int32) (a2 : Nat) (x3 : Int32) (x4 : Int32) (x5 : Int32) (h : Hp) : f_X6_addAskedOf_6 x1 a2 x3 x4 x5 h = if x5 < (rd h 0 10) then gd (memb (SKc a2) [10, 11, 12, 13, 14, 15, 16, 17, 18]) (if x4 < (Int32.ofNat (alen SKn h a2)) then bR (F_X6_requestAt [.ref 0, .int x5] h) (fun v2 h1 => gd (okc v2 4) (if (rd h1 v2 9) = 0 then gd (okc v2 4) (if (rd h1 v2 10) = x1 then bV (F_X6_insertByWeeks [.ref 0, .int x5, .ref a2, .int x3, .int x4] h1) (fun h3 => f_X6_addAskedOf_60 x1 a2 x3 (x4 + 1) x5 h3) (hnk []) else f_X6_addAskedOf_60 x1 a2 x3 x4 x5 h1) else f_X6_addAskedOf_60 x1 a2 x3 x4 x5 h1)) (hnk []) else rtn (some (.int x4)) h) else rtn (some (.int x4)) h :=
  (exL_it SKc SKn SKr CS (lkp T_X6_addAskedOf) [F_X6_requestAt, F_X6_insertByWeeks] [] [] [6, 60] 26 6 [.ref 0, .int x1, .ref a2, .int x3, .int x4, .int x5, .retAddr 0] [] h).trans rfl
set_option maxRecDepth 100000 in
set_option maxHeartbeats 4000000 in
theorem e_X6_addAskedOf_60 (x1 : Int32) (a2 : Nat) (x3 : Int32) (x4 : Int32) (x5 : Int32) (h : Hp) : f_X6_addAskedOf_60 x1 a2 x3 x4 x5 h = f_X6_addAskedOf_6 x1 a2 x3 x4 (x5 + 1) h :=
  (exL_it SKc SKn SKr CS (lkp T_X6_addAskedOf) [F_X6_requestAt, F_X6_insertByWeeks] [] [] [6, 60] 2 60 [.ref 0, .int x1, .ref a2, .int x3, .int x4, .int x5, .retAddr 0] [] h).trans rfl

def T_X6_putAskedInOrder : List (Nat × Ent) := [(0, ([], .aload_n 0, 1, 0, 0, 0, 0)),
  (1, ([], .iconst 0, 1, 0, 0, 0, 0)),
  (2, ([], .aload_n 0, 1, 0, 0, 0, 0)),
  (3, ([], .getfield 40, 3, 6, 1, 283, 0)),
  (6, ([], .iconst 0, 1, 0, 0, 0, 0)),
  (7, ([], .invokevirtual 401, 3, 0, 17, 0, 0)),
  (10, ([], .istore_n 1, 1, 1, 0, 0, 0)),
  (11, ([], .aload_n 0, 1, 0, 0, 0, 0)),
  (12, ([], .iconst 1, 1, 0, 0, 0, 1)),
  (13, ([], .aload_n 0, 1, 0, 0, 0, 0)),
  (14, ([], .getfield 40, 3, 6, 1, 283, 0)),
  (17, ([], .iload_n 1, 1, 1, 0, 0, 0)),
  (18, ([], .invokevirtual 401, 3, 0, 17, 0, 0)),
  (21, ([], .istore_n 1, 1, 1, 0, 0, 0)),
  (22, ([], .aload_n 0, 1, 0, 0, 0, 0)),
  (23, ([], .iconst 2, 1, 0, 0, 0, 2)),
  (24, ([], .aload_n 0, 1, 0, 0, 0, 0)),
  (25, ([], .getfield 43, 3, 7, 1, 284, 0)),
  (28, ([], .iconst 0, 1, 0, 0, 0, 0)),
  (29, ([], .invokevirtual 401, 3, 0, 17, 0, 0)),
  (32, ([], .istore_n 2, 1, 2, 0, 0, 0)),
  (33, ([], .aload_n 0, 1, 0, 0, 0, 0)),
  (34, ([], .iconst 3, 1, 0, 0, 0, 3)),
  (35, ([], .aload_n 0, 1, 0, 0, 0, 0)),
  (36, ([], .getfield 46, 3, 8, 1, 285, 0)),
  (39, ([], .iconst 0, 1, 0, 0, 0, 0)),
  (40, ([], .invokevirtual 401, 3, 0, 17, 0, 0)),
  (43, ([], .istore_n 3, 1, 3, 0, 0, 0)),
  (44, ([], .iconst 0, 1, 0, 0, 0, 0)),
  (45, ([], .istore 4, 2, 4, 0, 0, 0)),
  (47, ([false, false, false, false, false], .iload 4, 2, 4, 0, 0, 0)),
  (49, ([], .bipush 60, 2, 0, 0, 0, 60)),
  (51, ([], .if_icmp .ge 71, 3, 122, 0, 0, 0)),
  (54, ([], .iload 4, 2, 4, 0, 0, 0)),
  (56, ([], .iload_n 2, 1, 2, 0, 0, 0)),
  (57, ([], .if_icmp .ge 28, 3, 85, 0, 0, 0)),
  (60, ([], .iload_n 1, 1, 1, 0, 0, 0)),
  (61, ([], .aload_n 0, 1, 0, 0, 0, 0)),
  (62, ([], .getfield 40, 3, 6, 1, 283, 0)),
  (65, ([], .arraylength, 1, 0, 0, 0, 0)),
  (66, ([], .if_icmp .ge 19, 3, 85, 0, 0, 0)),
  (69, ([], .aload_n 0, 1, 0, 0, 0, 0)),
  (70, ([], .getfield 40, 3, 6, 1, 283, 0)),
  (73, ([], .iload_n 1, 1, 1, 0, 0, 0)),
  (74, ([], .aload_n 0, 1, 0, 0, 0, 0)),
  (75, ([], .getfield 43, 3, 7, 1, 284, 0)),
  (78, ([], .iload 4, 2, 4, 0, 0, 0)),
  (80, ([], .iaload, 1, 0, 0, 0, 0)),
  (81, ([], .iastore, 1, 0, 0, 0, 0)),
  (82, ([], .iinc 1 1, 3, 1, 0, 0, 1)),
  (85, ([false, false, false, false, false], .iload 4, 2, 4, 0, 0, 0)),
  (87, ([], .iload_n 3, 1, 3, 0, 0, 0)),
  (88, ([], .if_icmp .ge 28, 3, 116, 0, 0, 0)),
  (91, ([], .iload_n 1, 1, 1, 0, 0, 0)),
  (92, ([], .aload_n 0, 1, 0, 0, 0, 0)),
  (93, ([], .getfield 40, 3, 6, 1, 283, 0)),
  (96, ([], .arraylength, 1, 0, 0, 0, 0)),
  (97, ([], .if_icmp .ge 19, 3, 116, 0, 0, 0)),
  (100, ([], .aload_n 0, 1, 0, 0, 0, 0)),
  (101, ([], .getfield 40, 3, 6, 1, 283, 0)),
  (104, ([], .iload_n 1, 1, 1, 0, 0, 0)),
  (105, ([], .aload_n 0, 1, 0, 0, 0, 0)),
  (106, ([], .getfield 46, 3, 8, 1, 285, 0)),
  (109, ([], .iload 4, 2, 4, 0, 0, 0)),
  (111, ([], .iaload, 1, 0, 0, 0, 0)),
  (112, ([], .iastore, 1, 0, 0, 0, 0)),
  (113, ([], .iinc 1 1, 3, 1, 0, 0, 1)),
  (116, ([false, false, false, false, false], .iinc 4 1, 3, 4, 0, 0, 1)),
  (119, ([], .goto (-72), 3, 47, 0, 0, 0)),
  (122, ([], .iload_n 1, 1, 1, 0, 0, 0)),
  (123, ([], .ireturn, 1, 0, 0, 0, 0))]
noncomputable def E_X6_putAskedInOrder : Kt := exL SKc SKn SKr CS (lkp T_X6_putAskedInOrder) [F_X6_addAskedOf] [] []
noncomputable def F_X6_putAskedInOrder : Fn := fun as h => gd (chkA 1 as) (E_X6_putAskedInOrder 0 (pad 5 as) [] h)
noncomputable def f_X6_putAskedInOrder_47 (x1 : Int32) (x2 : Int32) (x3 : Int32) (x4 : Int32) (h : Hp) : Res := E_X6_putAskedInOrder 47 [.ref 0, .int x1, .int x2, .int x3, .int x4] [] h
noncomputable def f_X6_putAskedInOrder_85 (x1 : Int32) (x2 : Int32) (x3 : Int32) (x4 : Int32) (h : Hp) : Res := E_X6_putAskedInOrder 85 [.ref 0, .int x1, .int x2, .int x3, .int x4] [] h
noncomputable def f_X6_putAskedInOrder_116 (x1 : Int32) (x2 : Int32) (x3 : Int32) (x4 : Int32) (h : Hp) : Res := E_X6_putAskedInOrder 116 [.ref 0, .int x1, .int x2, .int x3, .int x4] [] h
set_option maxRecDepth 100000 in
set_option maxHeartbeats 4000000 in
theorem e_X6_putAskedInOrder_0 (h : Hp) : F_X6_putAskedInOrder [.ref 0] h = bI (F_X6_addAskedOf [.ref 0, .int 0, .ref 7, .int 0] h) (fun v2 h1 => bI (F_X6_addAskedOf [.ref 0, .int 1, .ref 7, .int v2] h1) (fun v4 h3 => bI (F_X6_addAskedOf [.ref 0, .int 2, .ref 8, .int 0] h3) (fun v6 h5 => bI (F_X6_addAskedOf [.ref 0, .int 3, .ref 9, .int 0] h5) (fun v8 h7 => f_X6_putAskedInOrder_47 v4 v6 v8 0 h7) (hnk [])) (hnk [])) (hnk [])) (hnk []) :=
  (exL_it SKc SKn SKr CS (lkp T_X6_putAskedInOrder) [F_X6_addAskedOf] [] [] [47, 85, 116] 30 0 [.ref 0, .retAddr 0, .retAddr 0, .retAddr 0, .retAddr 0] [] h).trans rfl
set_option maxRecDepth 100000 in
set_option maxHeartbeats 4000000 in
theorem e_X6_putAskedInOrder_47 (x1 : Int32) (x2 : Int32) (x3 : Int32) (x4 : Int32) (h : Hp) : f_X6_putAskedInOrder_47 x1 x2 x3 x4 h = if x4 < 60 then if x4 < x2 then if x1 < 60 then gd (inb x4 60) (gd (inb x1 60) (f_X6_putAskedInOrder_85 (x1 + 1) x2 x3 x4 (wr h 7 x1.toNatClampNeg (rd h 8 x4.toNatClampNeg)))) else f_X6_putAskedInOrder_85 x1 x2 x3 x4 h else f_X6_putAskedInOrder_85 x1 x2 x3 x4 h else rtn (some (.int x1)) h :=
  (exL_it SKc SKn SKr CS (lkp T_X6_putAskedInOrder) [F_X6_addAskedOf] [] [] [47, 85, 116] 20 47 [.ref 0, .int x1, .int x2, .int x3, .int x4] [] h).trans rfl
set_option maxRecDepth 100000 in
set_option maxHeartbeats 4000000 in
theorem e_X6_putAskedInOrder_85 (x1 : Int32) (x2 : Int32) (x3 : Int32) (x4 : Int32) (h : Hp) : f_X6_putAskedInOrder_85 x1 x2 x3 x4 h = if x4 < x3 then if x1 < 60 then gd (inb x4 60) (gd (inb x1 60) (f_X6_putAskedInOrder_116 (x1 + 1) x2 x3 x4 (wr h 7 x1.toNatClampNeg (rd h 9 x4.toNatClampNeg)))) else f_X6_putAskedInOrder_116 x1 x2 x3 x4 h else f_X6_putAskedInOrder_116 x1 x2 x3 x4 h :=
  (exL_it SKc SKn SKr CS (lkp T_X6_putAskedInOrder) [F_X6_addAskedOf] [] [] [47, 85, 116] 17 85 [.ref 0, .int x1, .int x2, .int x3, .int x4] [] h).trans rfl
set_option maxRecDepth 100000 in
set_option maxHeartbeats 4000000 in
theorem e_X6_putAskedInOrder_116 (x1 : Int32) (x2 : Int32) (x3 : Int32) (x4 : Int32) (h : Hp) : f_X6_putAskedInOrder_116 x1 x2 x3 x4 h = f_X6_putAskedInOrder_47 x1 x2 x3 (x4 + 1) h :=
  (exL_it SKc SKn SKr CS (lkp T_X6_putAskedInOrder) [F_X6_addAskedOf] [] [] [47, 85, 116] 2 116 [.ref 0, .int x1, .int x2, .int x3, .int x4] [] h).trans rfl

def T_X6_isByNight : List (Nat × Ent) := [(0, ([], .iload_n 0, 1, 0, 0, 0, 0)),
  (1, ([], .bipush 18, 2, 0, 0, 0, 18)),
  (3, ([], .if_icmp .lt 9, 3, 12, 0, 0, 0)),
  (6, ([], .iload_n 0, 1, 0, 0, 0, 0)),
  (7, ([], .bipush 65, 2, 0, 0, 0, 65)),
  (9, ([], .if_icmp .le 7, 3, 16, 0, 0, 0)),
  (12, ([], .iconst 1, 1, 0, 0, 0, 1)),
  (13, ([], .goto 4, 3, 17, 0, 0, 0)),
  (16, ([], .iconst 0, 1, 0, 0, 0, 0)),
  (17, ([], .ireturn, 1, 0, 1, 0, 0))]
noncomputable def E_X6_isByNight : Kt := exL SKc SKn SKr CS (lkp T_X6_isByNight) [] [] []
noncomputable def F_X6_isByNight : Fn := fun as h => gd (chkA 1 as) (E_X6_isByNight 0 (pad 1 as) [] h)
set_option maxRecDepth 100000 in
set_option maxHeartbeats 4000000 in
theorem e_X6_isByNight_0 (x0 : Int32) (h : Hp) : F_X6_isByNight [.int x0] h = if x0 < 18 then rtn (some (.int 1)) h else if 65 < x0 then rtn (some (.int 1)) h else rtn (some (.int 0)) h :=
  (exL_it SKc SKn SKr CS (lkp T_X6_isByNight) [] [] [] [] 9 0 [.int x0] [] h).trans rfl

def T_X6_noiseByNight : List (Nat × Ent) := [(0, ([], .iconst 0, 1, 0, 0, 0, 0)),
  (1, ([], .istore_n 2, 1, 2, 0, 0, 0)),
  (2, ([], .iconst 0, 1, 0, 0, 0, 0)),
  (3, ([], .istore_n 3, 1, 3, 0, 0, 0)),
  (4, ([false, false, false, false, true], .iload_n 3, 1, 3, 0, 0, 0)),
  (5, ([], .aload_n 0, 1, 0, 0, 0, 0)),
  (6, ([], .getfield 268, 3, 11, 0, 288, 0)),
  (9, ([], .if_icmp .ge 52, 3, 61, 0, 0, 0)),
  (12, ([], .aload_n 0, 1, 0, 0, 0, 0)),
  (13, ([], .iload_n 3, 1, 3, 0, 0, 0)),
  (14, ([], .invokevirtual 206, 3, 0, 10, 0, 0)),
  (17, ([], .astore 4, 2, 4, 0, 0, 0)),
  (19, ([], .aload 4, 2, 4, 0, 0, 0)),
  (21, ([], .getfield 210, 3, 12, 10, 235, 0)),
  (24, ([], .ifCond .ne 31, 3, 55, 0, 0, 0)),
  (27, ([], .aload 4, 2, 4, 0, 0, 0)),
  (29, ([], .getfield 218, 3, 0, 10, 544907, 0)),
  (32, ([], .iload_n 1, 1, 1, 0, 0, 0)),
  (33, ([], .if_icmp .ne 22, 3, 55, 0, 0, 0)),
  (36, ([], .aload 4, 2, 4, 0, 0, 0)),
  (38, ([], .getfield 242, 3, 3, 10, 667815, 0)),
  (41, ([], .invokestatic 359, 3, 1, 5, 99, 0)),
  (44, ([], .ifCond .eq 11, 3, 55, 0, 0, 0)),
  (47, ([], .iload_n 2, 1, 2, 0, 0, 0)),
  (48, ([], .aload 4, 2, 4, 0, 0, 0)),
  (50, ([], .invokevirtual 392, 3, 2, 5, 5, 0)),
  (53, ([], .iadd, 1, 0, 0, 0, 0)),
  (54, ([], .istore_n 2, 1, 2, 0, 0, 0)),
  (55, ([false, false, false, false, true], .iinc 3 1, 3, 3, 0, 0, 1)),
  (58, ([], .goto (-54), 3, 4, 0, 0, 0)),
  (61, ([], .iload_n 2, 1, 2, 0, 0, 0)),
  (62, ([], .ireturn, 1, 0, 0, 0, 0))]
noncomputable def E_X6_noiseByNight : Kt := exL SKc SKn SKr CS (lkp T_X6_noiseByNight) [F_X6_seriesAt, F_X6_isByNight, F_X5_wholeNoise] [] []
noncomputable def F_X6_noiseByNight : Fn := fun as h => gd (chkA 2 as) (E_X6_noiseByNight 0 (pad 5 as) [] h)
noncomputable def f_X6_noiseByNight_4 (x1 : Int32) (x2 : Int32) (x3 : Int32) (h : Hp) : Res := E_X6_noiseByNight 4 [.ref 0, .int x1, .int x2, .int x3, .retAddr 0] [] h
noncomputable def f_X6_noiseByNight_55 (x1 : Int32) (x2 : Int32) (x3 : Int32) (h : Hp) : Res := E_X6_noiseByNight 55 [.ref 0, .int x1, .int x2, .int x3, .retAddr 0] [] h
set_option maxRecDepth 100000 in
set_option maxHeartbeats 4000000 in
theorem e_X6_noiseByNight_0 (x1 : Int32) (h : Hp) : F_X6_noiseByNight [.ref 0, .int x1] h = f_X6_noiseByNight_4 x1 0 0 h :=
  (exL_it SKc SKn SKr CS (lkp T_X6_noiseByNight) [F_X6_seriesAt, F_X6_isByNight, F_X5_wholeNoise] [] [] [4, 55] 4 0 [.ref 0, .int x1, .retAddr 0, .retAddr 0, .retAddr 0] [] h).trans rfl
set_option maxRecDepth 100000 in
set_option maxHeartbeats 4000000 in
theorem e_X6_noiseByNight_4 (x1 : Int32) (x2 : Int32) (x3 : Int32) (h : Hp) : f_X6_noiseByNight_4 x1 x2 x3 h = if x3 < (rd h 0 11) then bR (F_X6_seriesAt [.ref 0, .int x3] h) (fun v2 h1 => gd (okc v2 5) (if (rd h1 v2 12) = 0 then gd (okc v2 5) (if (rd h1 v2 0) = x1 then gd (okc v2 5) (bI (F_X6_isByNight [.int (rd h1 v2 3)] h1) (fun v4 h3 => if v4 = 0 then f_X6_noiseByNight_55 x1 x2 x3 h3 else gd (okc v2 5) (bI (F_X5_wholeNoise [.ref v2] h3) (fun v6 h5 => f_X6_noiseByNight_55 x1 (x2 + v6) x3 h5) (hnk []))) (hnk [])) else f_X6_noiseByNight_55 x1 x2 x3 h1) else f_X6_noiseByNight_55 x1 x2 x3 h1)) (hnk []) else rtn (some (.int x2)) h :=
  (exL_it SKc SKn SKr CS (lkp T_X6_noiseByNight) [F_X6_seriesAt, F_X6_isByNight, F_X5_wholeNoise] [] [] [4, 55] 24 4 [.ref 0, .int x1, .int x2, .int x3, .retAddr 0] [] h).trans rfl
set_option maxRecDepth 100000 in
set_option maxHeartbeats 4000000 in
theorem e_X6_noiseByNight_55 (x1 : Int32) (x2 : Int32) (x3 : Int32) (h : Hp) : f_X6_noiseByNight_55 x1 x2 x3 h = f_X6_noiseByNight_4 x1 x2 (x3 + 1) h :=
  (exL_it SKc SKn SKr CS (lkp T_X6_noiseByNight) [F_X6_seriesAt, F_X6_isByNight, F_X5_wholeNoise] [] [] [4, 55] 2 55 [.ref 0, .int x1, .int x2, .int x3, .retAddr 0] [] h).trans rfl

def T_X6_isWindowFull : List (Nat × Ent) := [(0, ([], .aload_n 1, 1, 1, 0, 0, 0)),
  (1, ([], .getfield 91, 3, 2, 6, 77, 0)),
  (4, ([], .iconst 1, 1, 0, 0, 0, 1)),
  (5, ([], .if_icmp .ge 5, 3, 10, 0, 0, 0)),
  (8, ([], .iconst 1, 1, 0, 0, 0, 1)),
  (9, ([], .ireturn, 1, 0, 1, 0, 0)),
  (10, ([], .iconst 0, 1, 0, 0, 0, 0)),
  (11, ([], .istore 4, 2, 4, 0, 0, 0)),
  (13, ([false, false, false, false, false, true, true, true], .iload 4, 2, 4, 0, 0, 0)),
  (15, ([], .aload_n 0, 1, 0, 0, 0, 0)),
  (16, ([], .getfield 49, 3, 9, 1, 286, 0)),
  (19, ([], .arraylength, 1, 0, 0, 0, 0)),
  (20, ([], .if_icmp .ge 17, 3, 37, 0, 0, 0)),
  (23, ([], .aload_n 0, 1, 0, 0, 0, 0)),
  (24, ([], .getfield 49, 3, 9, 1, 286, 0)),
  (27, ([], .iload 4, 2, 4, 0, 0, 0)),
  (29, ([], .iconst 0, 1, 0, 0, 0, 0)),
  (30, ([], .iastore, 1, 0, 0, 0, 0)),
  (31, ([], .iinc 4 1, 3, 4, 0, 0, 1)),
  (34, ([], .goto (-21), 3, 13, 0, 0, 0)),
  (37, ([], .iconst 0, 1, 0, 0, 0, 0)),
  (38, ([], .istore 4, 2, 4, 0, 0, 0)),
  (40, ([false, false, false, false, false, true, true, true], .iload 4, 2, 4, 0, 0, 0)),
  (42, ([], .aload_n 0, 1, 0, 0, 0, 0)),
  (43, ([], .getfield 268, 3, 11, 0, 288, 0)),
  (46, ([], .if_icmp .ge 131, 3, 177, 0, 0, 0)),
  (49, ([], .aload_n 0, 1, 0, 0, 0, 0)),
  (50, ([], .iload 4, 2, 4, 0, 0, 0)),
  (52, ([], .invokevirtual 206, 3, 0, 10, 0, 0)),
  (55, ([], .astore 5, 2, 5, 0, 0, 0)),
  (57, ([], .aload 5, 2, 5, 0, 0, 0)),
  (59, ([], .aload_n 3, 1, 3, 0, 0, 0)),
  (60, ([], .getfield 352, 3, 0, 14, 141, 0)),
  (63, ([], .aload_n 1, 1, 1, 0, 0, 0)),
  (64, ([], .getfield 83, 3, 0, 6, 75, 0)),
  (67, ([], .aload_n 3, 1, 3, 0, 0, 0)),
  (68, ([], .getfield 380, 3, 2, 14, 161, 0)),
  (71, ([], .invokevirtual 381, 3, 1, 17, 5, 0)),
  (74, ([], .ifCond .eq 24, 3, 98, 0, 0, 0)),
  (77, ([], .aload 5, 2, 5, 0, 0, 0)),
  (79, ([], .iload_n 2, 1, 2, 0, 0, 0)),
  (80, ([], .iload_n 2, 1, 2, 0, 0, 0)),
  (81, ([], .aload_n 1, 1, 1, 0, 0, 0)),
  (82, ([], .getfield 88, 3, 1, 6, 76, 0)),
  (85, ([], .iadd, 1, 0, 0, 0, 0)),
  (86, ([], .iconst 1, 1, 0, 0, 0, 1)),
  (87, ([], .isub, 1, 0, 0, 0, 0)),
  (88, ([], .invokevirtual 385, 3, 2, 13, 5, 0)),
  (91, ([], .ifCond .eq 7, 3, 98, 0, 0, 0)),
  (94, ([], .iconst 1, 1, 0, 0, 0, 1)),
  (95, ([], .goto 4, 3, 99, 0, 0, 0)),
  (98, ([false, false, false, false, false, false, true, true], .iconst 0, 1, 0, 0, 0, 0)),
  (99, ([false, false, false, false, false, false, true, true], .istore 6, 2, 6, 0, 0, 0)),
  (101, ([], .iconst 0, 1, 0, 0, 0, 0)),
  (102, ([], .istore 7, 2, 7, 0, 0, 0)),
  (104, ([false, false, false, false, false, false, false, false], .iload 6, 2, 6, 0, 0, 0)),
  (106, ([], .ifCond .eq 65, 3, 171, 0, 0, 0)),
  (109, ([], .iload 7, 2, 7, 0, 0, 0)),
  (111, ([], .aload_n 0, 1, 0, 0, 0, 0)),
  (112, ([], .getfield 49, 3, 9, 1, 286, 0)),
  (115, ([], .arraylength, 1, 0, 0, 0, 0)),
  (116, ([], .if_icmp .ge 55, 3, 171, 0, 0, 0)),
  (119, ([], .aload 5, 2, 5, 0, 0, 0)),
  (121, ([], .iload 7, 2, 7, 0, 0, 0)),
  (123, ([], .invokevirtual 388, 3, 3, 9, 5, 0)),
  (126, ([], .ifCond .eq 39, 3, 165, 0, 0, 0)),
  (129, ([], .aload_n 3, 1, 3, 0, 0, 0)),
  (130, ([], .iload 7, 2, 7, 0, 0, 0)),
  (132, ([], .invokevirtual 391, 3, 3, 9, 7, 0)),
  (135, ([], .ifCond .eq 30, 3, 165, 0, 0, 0)),
  (138, ([], .aload_n 0, 1, 0, 0, 0, 0)),
  (139, ([], .getfield 49, 3, 9, 1, 286, 0)),
  (142, ([], .iload 7, 2, 7, 0, 0, 0)),
  (144, ([], .dup2, 1, 0, 0, 0, 0)),
  (145, ([], .iaload, 1, 0, 0, 0, 0)),
  (146, ([], .iconst 1, 1, 0, 0, 0, 1)),
  (147, ([], .iadd, 1, 0, 0, 0, 0)),
  (148, ([], .iastore, 1, 0, 0, 0, 0)),
  (149, ([], .aload_n 0, 1, 0, 0, 0, 0)),
  (150, ([], .getfield 49, 3, 9, 1, 286, 0)),
  (153, ([], .iload 7, 2, 7, 0, 0, 0)),
  (155, ([], .iaload, 1, 0, 0, 0, 0)),
  (156, ([], .aload_n 1, 1, 1, 0, 0, 0)),
  (157, ([], .getfield 91, 3, 2, 6, 77, 0)),
  (160, ([], .if_icmp .lt 5, 3, 165, 0, 0, 0)),
  (163, ([], .iconst 1, 1, 0, 0, 0, 1)),
  (164, ([], .ireturn, 1, 0, 1, 0, 0)),
  (165, ([false, false, false, false, false, false, false, false], .iinc 7 1, 3, 7, 0, 0, 1)),
  (168, ([], .goto (-64), 3, 104, 0, 0, 0)),
  (171, ([false, false, false, false, false, true, true, true], .iinc 4 1, 3, 4, 0, 0, 1)),
  (174, ([], .goto (-134), 3, 40, 0, 0, 0)),
  (177, ([], .iconst 0, 1, 0, 0, 0, 0)),
  (178, ([], .ireturn, 1, 0, 1, 0, 0))]
noncomputable def E_X6_isWindowFull : Kt := exL SKc SKn SKr CS (lkp T_X6_isWindowFull) [F_X6_seriesAt, F_X4_isOn, F_X4_isBetween, F_X5_lastsIn] [] []
noncomputable def F_X6_isWindowFull : Fn := fun as h => gd (chkA 4 as) (E_X6_isWindowFull 0 (pad 8 as) [] h)
noncomputable def f_X6_isWindowFull_13 (a1 : Nat) (x2 : Int32) (a3 : Nat) (x4 : Int32) (h : Hp) : Res := E_X6_isWindowFull 13 [.ref 0, .ref a1, .int x2, .ref a3, .int x4, .retAddr 0, .retAddr 0, .retAddr 0] [] h
noncomputable def f_X6_isWindowFull_40 (a1 : Nat) (x2 : Int32) (a3 : Nat) (x4 : Int32) (h : Hp) : Res := E_X6_isWindowFull 40 [.ref 0, .ref a1, .int x2, .ref a3, .int x4, .retAddr 0, .retAddr 0, .retAddr 0] [] h
noncomputable def f_X6_isWindowFull_98 (a1 : Nat) (x2 : Int32) (a3 : Nat) (x4 : Int32) (a5 : Nat) (h : Hp) : Res := E_X6_isWindowFull 98 [.ref 0, .ref a1, .int x2, .ref a3, .int x4, .ref a5, .retAddr 0, .retAddr 0] [] h
noncomputable def f_X6_isWindowFull_99 (a1 : Nat) (x2 : Int32) (a3 : Nat) (x4 : Int32) (a5 : Nat) (s0 : Int32) (h : Hp) : Res := E_X6_isWindowFull 99 [.ref 0, .ref a1, .int x2, .ref a3, .int x4, .ref a5, .retAddr 0, .retAddr 0] [.int s0] h
noncomputable def f_X6_isWindowFull_104 (a1 : Nat) (x2 : Int32) (a3 : Nat) (x4 : Int32) (a5 : Nat) (x6 : Int32) (x7 : Int32) (h : Hp) : Res := E_X6_isWindowFull 104 [.ref 0, .ref a1, .int x2, .ref a3, .int x4, .ref a5, .int x6, .int x7] [] h
noncomputable def f_X6_isWindowFull_165 (a1 : Nat) (x2 : Int32) (a3 : Nat) (x4 : Int32) (a5 : Nat) (x6 : Int32) (x7 : Int32) (h : Hp) : Res := E_X6_isWindowFull 165 [.ref 0, .ref a1, .int x2, .ref a3, .int x4, .ref a5, .int x6, .int x7] [] h
noncomputable def f_X6_isWindowFull_171 (a1 : Nat) (x2 : Int32) (a3 : Nat) (x4 : Int32) (h : Hp) : Res := E_X6_isWindowFull 171 [.ref 0, .ref a1, .int x2, .ref a3, .int x4, .retAddr 0, .retAddr 0, .retAddr 0] [] h
set_option maxRecDepth 100000 in
set_option maxHeartbeats 4000000 in
theorem e_X6_isWindowFull_0 (a1 : Nat) (x2 : Int32) (a3 : Nat) (h : Hp) : F_X6_isWindowFull [.ref 0, .ref a1, .int x2, .ref a3] h = gd (okc a1 3) (if (rd h a1 2) < 1 then rtn (some (.int 1)) h else f_X6_isWindowFull_13 a1 x2 a3 0 h) :=
  (exL_it SKc SKn SKr CS (lkp T_X6_isWindowFull) [F_X6_seriesAt, F_X4_isOn, F_X4_isBetween, F_X5_lastsIn] [] [] [13, 40, 98, 99, 104, 165, 171] 6 0 [.ref 0, .ref a1, .int x2, .ref a3, .retAddr 0, .retAddr 0, .retAddr 0, .retAddr 0] [] h).trans rfl
set_option maxRecDepth 100000 in
set_option maxHeartbeats 4000000 in
theorem e_X6_isWindowFull_13 (a1 : Nat) (x2 : Int32) (a3 : Nat) (x4 : Int32) (h : Hp) : f_X6_isWindowFull_13 a1 x2 a3 x4 h = if x4 < 20 then gd (inb x4 20) (f_X6_isWindowFull_13 a1 x2 a3 (x4 + 1) (wr h 10 x4.toNatClampNeg 0)) else f_X6_isWindowFull_40 a1 x2 a3 0 h :=
  (exL_it SKc SKn SKr CS (lkp T_X6_isWindowFull) [F_X6_seriesAt, F_X4_isOn, F_X4_isBetween, F_X5_lastsIn] [] [] [13, 40, 98, 99, 104, 165, 171] 12 13 [.ref 0, .ref a1, .int x2, .ref a3, .int x4, .retAddr 0, .retAddr 0, .retAddr 0] [] h).trans rfl
set_option maxRecDepth 100000 in
set_option maxHeartbeats 4000000 in
theorem e_X6_isWindowFull_40 (a1 : Nat) (x2 : Int32) (a3 : Nat) (x4 : Int32) (h : Hp) : f_X6_isWindowFull_40 a1 x2 a3 x4 h = if x4 < (rd h 0 11) then bR (F_X6_seriesAt [.ref 0, .int x4] h) (fun v2 h1 => gd (okc a3 7) (gd (okc a1 3) (gd (okc a3 7) (gd (okc v2 5) (bI (F_X4_isOn [.ref v2, .int (rd h1 a3 0), .int (rd h1 a1 0), .int (rd h1 a3 2)] h1) (fun v4 h3 => if v4 = 0 then f_X6_isWindowFull_98 a1 x2 a3 x4 v2 h3 else gd (okc a1 3) (gd (okc v2 5) (bI (F_X4_isBetween [.ref v2, .int x2, .int ((x2 + (rd h3 a1 1)) - 1)] h3) (fun v6 h5 => if v6 = 0 then f_X6_isWindowFull_98 a1 x2 a3 x4 v2 h5 else f_X6_isWindowFull_99 a1 x2 a3 x4 v2 1 h5) (hnk [])))) (hnk [])))))) (hnk []) else rtn (some (.int 0)) h :=
  (exL_it SKc SKn SKr CS (lkp T_X6_isWindowFull) [F_X6_seriesAt, F_X4_isOn, F_X4_isBetween, F_X5_lastsIn] [] [] [13, 40, 98, 99, 104, 165, 171] 29 40 [.ref 0, .ref a1, .int x2, .ref a3, .int x4, .retAddr 0, .retAddr 0, .retAddr 0] [] h).trans rfl
set_option maxRecDepth 100000 in
set_option maxHeartbeats 4000000 in
theorem e_X6_isWindowFull_98 (a1 : Nat) (x2 : Int32) (a3 : Nat) (x4 : Int32) (a5 : Nat) (h : Hp) : f_X6_isWindowFull_98 a1 x2 a3 x4 a5 h = f_X6_isWindowFull_99 a1 x2 a3 x4 a5 0 h :=
  (exL_it SKc SKn SKr CS (lkp T_X6_isWindowFull) [F_X6_seriesAt, F_X4_isOn, F_X4_isBetween, F_X5_lastsIn] [] [] [13, 40, 98, 99, 104, 165, 171] 1 98 [.ref 0, .ref a1, .int x2, .ref a3, .int x4, .ref a5, .retAddr 0, .retAddr 0] [] h).trans rfl
set_option maxRecDepth 100000 in
set_option maxHeartbeats 4000000 in
theorem e_X6_isWindowFull_99 (a1 : Nat) (x2 : Int32) (a3 : Nat) (x4 : Int32) (a5 : Nat) (s0 : Int32) (h : Hp) : f_X6_isWindowFull_99 a1 x2 a3 x4 a5 s0 h = f_X6_isWindowFull_104 a1 x2 a3 x4 a5 s0 0 h :=
  (exL_it SKc SKn SKr CS (lkp T_X6_isWindowFull) [F_X6_seriesAt, F_X4_isOn, F_X4_isBetween, F_X5_lastsIn] [] [] [13, 40, 98, 99, 104, 165, 171] 3 99 [.ref 0, .ref a1, .int x2, .ref a3, .int x4, .ref a5, .retAddr 0, .retAddr 0] [.int s0] h).trans rfl
set_option maxRecDepth 100000 in
set_option maxHeartbeats 4000000 in
theorem e_X6_isWindowFull_104 (a1 : Nat) (x2 : Int32) (a3 : Nat) (x4 : Int32) (a5 : Nat) (x6 : Int32) (x7 : Int32) (h : Hp) : f_X6_isWindowFull_104 a1 x2 a3 x4 a5 x6 x7 h = if x6 = 0 then f_X6_isWindowFull_171 a1 x2 a3 x4 h else if x7 < 20 then gd (okc a5 5) (bI (F_X5_lastsIn [.ref a5, .int x7] h) (fun v2 h1 => if v2 = 0 then f_X6_isWindowFull_165 a1 x2 a3 x4 a5 x6 x7 h1 else gd (okc a3 7) (bI (F_X5_lastsIn [.ref a3, .int x7] h1) (fun v4 h3 => if v4 = 0 then f_X6_isWindowFull_165 a1 x2 a3 x4 a5 x6 x7 h3 else gd (inb x7 20) (gd (inb x7 20) (gd (inb x7 20) (gd (okc a1 3) (if (rd (wr h3 10 x7.toNatClampNeg ((rd h3 10 x7.toNatClampNeg) + 1)) 10 x7.toNatClampNeg) < (rd (wr h3 10 x7.toNatClampNeg ((rd h3 10 x7.toNatClampNeg) + 1)) a1 2) then f_X6_isWindowFull_165 a1 x2 a3 x4 a5 x6 x7 (wr h3 10 x7.toNatClampNeg ((rd h3 10 x7.toNatClampNeg) + 1)) else rtn (some (.int 1)) (wr h3 10 x7.toNatClampNeg ((rd h3 10 x7.toNatClampNeg) + 1))))))) (hnk []))) (hnk [])) else f_X6_isWindowFull_171 a1 x2 a3 x4 h :=
  (exL_it SKc SKn SKr CS (lkp T_X6_isWindowFull) [F_X6_seriesAt, F_X4_isOn, F_X4_isBetween, F_X5_lastsIn] [] [] [13, 40, 98, 99, 104, 165, 171] 32 104 [.ref 0, .ref a1, .int x2, .ref a3, .int x4, .ref a5, .int x6, .int x7] [] h).trans rfl
set_option maxRecDepth 100000 in
set_option maxHeartbeats 4000000 in
theorem e_X6_isWindowFull_165 (a1 : Nat) (x2 : Int32) (a3 : Nat) (x4 : Int32) (a5 : Nat) (x6 : Int32) (x7 : Int32) (h : Hp) : f_X6_isWindowFull_165 a1 x2 a3 x4 a5 x6 x7 h = f_X6_isWindowFull_104 a1 x2 a3 x4 a5 x6 (x7 + 1) h :=
  (exL_it SKc SKn SKr CS (lkp T_X6_isWindowFull) [F_X6_seriesAt, F_X4_isOn, F_X4_isBetween, F_X5_lastsIn] [] [] [13, 40, 98, 99, 104, 165, 171] 2 165 [.ref 0, .ref a1, .int x2, .ref a3, .int x4, .ref a5, .int x6, .int x7] [] h).trans rfl
set_option maxRecDepth 100000 in
set_option maxHeartbeats 4000000 in
theorem e_X6_isWindowFull_171 (a1 : Nat) (x2 : Int32) (a3 : Nat) (x4 : Int32) (h : Hp) : f_X6_isWindowFull_171 a1 x2 a3 x4 h = f_X6_isWindowFull_40 a1 x2 a3 (x4 + 1) h :=
  (exL_it SKc SKn SKr CS (lkp T_X6_isWindowFull) [F_X6_seriesAt, F_X4_isOn, F_X4_isBetween, F_X5_lastsIn] [] [] [13, 40, 98, 99, 104, 165, 171] 2 171 [.ref 0, .ref a1, .int x2, .ref a3, .int x4, .retAddr 0, .retAddr 0, .retAddr 0] [] h).trans rfl

def T_X6_wouldBreak : List (Nat × Ent) := [(0, ([], .aload_n 1, 1, 1, 0, 0, 0)),
  (1, ([], .aload_n 2, 1, 2, 0, 0, 0)),
  (2, ([], .getfield 369, 3, 1, 14, 151, 0)),
  (5, ([], .invokevirtual 370, 3, 0, 9, 3, 0)),
  (8, ([], .ifCond .ne 5, 3, 13, 0, 0, 0)),
  (11, ([], .iconst 0, 1, 0, 0, 0, 0)),
  (12, ([], .ireturn, 1, 0, 1, 0, 0)),
  (13, ([], .iload_n 3, 1, 3, 0, 0, 0)),
  (14, ([], .bipush 72, 2, 0, 0, 0, 72)),
  (16, ([], .aload_n 1, 1, 1, 0, 0, 0)),
  (17, ([], .getfield 88, 3, 1, 6, 76, 0)),
  (20, ([], .isub, 1, 0, 0, 0, 0)),
  (21, ([], .invokestatic 373, 3, 1, 9, 99, 0)),
  (24, ([], .istore 4, 2, 4, 0, 0, 0)),
  (26, ([], .iconst 0, 1, 0, 0, 0, 0)),
  (27, ([], .iload_n 3, 1, 3, 0, 0, 0)),
  (28, ([], .aload_n 1, 1, 1, 0, 0, 0)),
  (29, ([], .getfield 88, 3, 1, 6, 76, 0)),
  (32, ([], .isub, 1, 0, 0, 0, 0)),
  (33, ([], .iconst 1, 1, 0, 0, 0, 1)),
  (34, ([], .iadd, 1, 0, 0, 0, 0)),
  (35, ([], .invokestatic 281, 3, 2, 9, 99, 0)),
  (38, ([], .istore 5, 2, 5, 0, 0, 0)),
  (40, ([false, false, false, true, false, false], .iload 5, 2, 5, 0, 0, 0)),
  (42, ([], .iload 4, 2, 4, 0, 0, 0)),
  (44, ([], .if_icmp .gt 22, 3, 66, 0, 0, 0)),
  (47, ([], .aload_n 0, 1, 0, 0, 0, 0)),
  (48, ([], .aload_n 1, 1, 1, 0, 0, 0)),
  (49, ([], .iload 5, 2, 5, 0, 0, 0)),
  (51, ([], .aload_n 2, 1, 2, 0, 0, 0)),
  (52, ([], .invokevirtual 376, 3, 3, 17, 0, 0)),
  (55, ([], .ifCond .eq 5, 3, 60, 0, 0, 0)),
  (58, ([], .iconst 1, 1, 0, 0, 0, 1)),
  (59, ([], .ireturn, 1, 0, 1, 0, 0)),
  (60, ([], .iinc 5 1, 3, 5, 0, 0, 1)),
  (63, ([], .goto (-23), 3, 40, 0, 0, 0)),
  (66, ([], .iconst 0, 1, 0, 0, 0, 0)),
  (67, ([], .ireturn, 1, 0, 1, 0, 0))]
noncomputable def E_X6_wouldBreak : Kt := exL SKc SKn SKr CS (lkp T_X6_wouldBreak) [F_X3_isFor, F_mmin, F_mmax, F_X6_isWindowFull] [] []
noncomputable def F_X6_wouldBreak : Fn := fun as h => gd (chkA 4 as) (E_X6_wouldBreak 0 (pad 6 as) [] h)
noncomputable def f_X6_wouldBreak_40 (a1 : Nat) (a2 : Nat) (x4 : Int32) (x5 : Int32) (h : Hp) : Res := E_X6_wouldBreak 40 [.ref 0, .ref a1, .ref a2, .retAddr 0, .int x4, .int x5] [] h
set_option maxRecDepth 100000 in
set_option maxHeartbeats 4000000 in
theorem e_X6_wouldBreak_0 (a1 : Nat) (a2 : Nat) (x3 : Int32) (h : Hp) : F_X6_wouldBreak [.ref 0, .ref a1, .ref a2, .int x3] h = gd (okc a2 7) (gd (okc a1 3) (bI (F_X3_isFor [.ref a1, .int (rd h a2 1)] h) (fun v2 h1 => if v2 = 0 then rtn (some (.int 0)) h1 else gd (okc a1 3) (gd (okc a1 3) (f_X6_wouldBreak_40 a1 a2 (if (72 - (rd h1 a1 1)) < x3 then (72 - (rd h1 a1 1)) else x3) (if 0 < ((x3 - (rd h1 a1 1)) + 1) then ((x3 - (rd h1 a1 1)) + 1) else 0) h1))) (hnk []))) :=
  (exL_it SKc SKn SKr CS (lkp T_X6_wouldBreak) [F_X3_isFor, F_mmin, F_mmax, F_X6_isWindowFull] [] [] [40] 21 0 [.ref 0, .ref a1, .ref a2, .int x3, .retAddr 0, .retAddr 0] [] h).trans rfl
set_option maxRecDepth 100000 in
set_option maxHeartbeats 4000000 in
theorem e_X6_wouldBreak_40 (a1 : Nat) (a2 : Nat) (x4 : Int32) (x5 : Int32) (h : Hp) : f_X6_wouldBreak_40 a1 a2 x4 x5 h = if x4 < x5 then rtn (some (.int 0)) h else bI (F_X6_isWindowFull [.ref 0, .ref a1, .int x5, .ref a2] h) (fun v2 h1 => if v2 = 0 then f_X6_wouldBreak_40 a1 a2 x4 (x5 + 1) h1 else rtn (some (.int 1)) h1) (hnk []) :=
  (exL_it SKc SKn SKr CS (lkp T_X6_wouldBreak) [F_X3_isFor, F_mmin, F_mmax, F_X6_isWindowFull] [] [] [40] 11 40 [.ref 0, .ref a1, .ref a2, .retAddr 0, .int x4, .int x5] [] h).trans rfl

def T_X6_reasonAgainst : List (Nat × Ent) := [(0, ([], .aload_n 0, 1, 0, 0, 0, 0)),
  (1, ([], .aload_n 1, 1, 1, 0, 0, 0)),
  (2, ([], .getfield 352, 3, 0, 14, 141, 0)),
  (5, ([], .invokevirtual 56, 3, 0, 10, 0, 0)),
  (8, ([], .astore_n 3, 1, 3, 0, 0, 0)),
  (9, ([], .aload_n 3, 1, 3, 0, 0, 0)),
  (10, ([], .iload_n 2, 1, 2, 0, 0, 0)),
  (11, ([], .invokevirtual 355, 3, 1, 9, 2, 0)),
  (14, ([], .ifCond .eq 5, 3, 19, 0, 0, 0)),
  (17, ([], .iconst 1, 1, 0, 0, 0, 1)),
  (18, ([], .ireturn, 1, 0, 0, 0, 0)),
  (19, ([], .iload_n 2, 1, 2, 0, 0, 0)),
  (20, ([], .invokestatic 359, 3, 2, 5, 99, 0)),
  (23, ([], .ifCond .eq 25, 3, 48, 0, 0, 0)),
  (26, ([], .aload_n 0, 1, 0, 0, 0, 0)),
  (27, ([], .aload_n 1, 1, 1, 0, 0, 0)),
  (28, ([], .getfield 352, 3, 0, 14, 141, 0)),
  (31, ([], .invokevirtual 284, 3, 3, 9, 0, 0)),
  (34, ([], .aload_n 1, 1, 1, 0, 0, 0)),
  (35, ([], .invokevirtual 362, 3, 4, 5, 7, 0)),
  (38, ([], .iadd, 1, 0, 0, 0, 0)),
  (39, ([], .aload_n 3, 1, 3, 0, 0, 0)),
  (40, ([], .getfield 100, 3, 5, 4, 95, 0)),
  (43, ([], .if_icmp .le 5, 3, 48, 0, 0, 0)),
  (46, ([], .iconst 2, 1, 0, 0, 0, 2)),
  (47, ([], .ireturn, 1, 0, 0, 0, 0)),
  (48, ([false, false, false, false, true], .iconst 0, 1, 0, 0, 0, 0)),
  (49, ([], .istore 4, 2, 4, 0, 0, 0)),
  (51, ([false, false, false, false, false], .iload 4, 2, 4, 0, 0, 0)),
  (53, ([], .aload_n 3, 1, 3, 0, 0, 0)),
  (54, ([], .getfield 68, 3, 2, 4, 89, 0)),
  (57, ([], .if_icmp .ge 30, 3, 87, 0, 0, 0)),
  (60, ([], .aload_n 0, 1, 0, 0, 0, 0)),
  (61, ([], .aload_n 3, 1, 3, 0, 0, 0)),
  (62, ([], .iload 4, 2, 4, 0, 0, 0)),
  (64, ([], .invokevirtual 79, 3, 5, 10, 2, 0)),
  (67, ([], .aload_n 1, 1, 1, 0, 0, 0)),
  (68, ([], .iload_n 2, 1, 2, 0, 0, 0)),
  (69, ([], .invokevirtual 365, 3, 6, 17, 0, 0)),
  (72, ([], .ifCond .eq 9, 3, 81, 0, 0, 0)),
  (75, ([], .bipush 10, 2, 0, 0, 0, 10)),
  (77, ([], .iload 4, 2, 4, 0, 0, 0)),
  (79, ([], .iadd, 1, 0, 0, 0, 0)),
  (80, ([], .ireturn, 1, 0, 0, 0, 0)),
  (81, ([], .iinc 4 1, 3, 4, 0, 0, 1)),
  (84, ([], .goto (-33), 3, 51, 0, 0, 0)),
  (87, ([], .iconst 0, 1, 0, 0, 0, 0)),
  (88, ([], .ireturn, 1, 0, 0, 0, 0))]
noncomputable def E_X6_reasonAgainst : Kt := exL SKc SKn SKr CS (lkp T_X6_reasonAgainst) [F_X6_airportAt, F_X0_bars, F_X6_isByNight, F_X6_noiseByNight, F_X5_wholeNoise, F_X0_ruleAt, F_X6_wouldBreak] [] []
noncomputable def F_X6_reasonAgainst : Fn := fun as h => gd (chkA 3 as) (E_X6_reasonAgainst 0 (pad 5 as) [] h)
noncomputable def f_X6_reasonAgainst_48 (a1 : Nat) (x2 : Int32) (a3 : Nat) (h : Hp) : Res := E_X6_reasonAgainst 48 [.ref 0, .ref a1, .int x2, .ref a3, .retAddr 0] [] h
noncomputable def f_X6_reasonAgainst_51 (a1 : Nat) (x2 : Int32) (a3 : Nat) (x4 : Int32) (h : Hp) : Res := E_X6_reasonAgainst 51 [.ref 0, .ref a1, .int x2, .ref a3, .int x4] [] h
set_option maxRecDepth 100000 in
set_option maxHeartbeats 4000000 in
theorem e_X6_reasonAgainst_0 (a1 : Nat) (x2 : Int32) (h : Hp) : F_X6_reasonAgainst [.ref 0, .ref a1, .int x2] h = gd (okc a1 7) (bR (F_X6_airportAt [.ref 0, .int (rd h a1 0)] h) (fun v2 h1 => gd (okc v2 2) (bI (F_X0_bars [.ref v2, .int x2] h1) (fun v4 h3 => if v4 = 0 then bI (F_X6_isByNight [.int x2] h3) (fun v6 h5 => if v6 = 0 then f_X6_reasonAgainst_48 a1 x2 v2 h5 else gd (okc a1 7) (bI (F_X6_noiseByNight [.ref 0, .int (rd h5 a1 0)] h5) (fun v8 h7 => gd (okc a1 7) (bI (F_X5_wholeNoise [.ref a1] h7) (fun v10 h9 => gd (okc v2 2) (if (rd h9 v2 5) < (v8 + v10) then rtn (some (.int 2)) h9 else f_X6_reasonAgainst_48 a1 x2 v2 h9)) (hnk []))) (hnk []))) (hnk []) else rtn (some (.int 1)) h3) (hnk []))) (hnk [])) :=
  (exL_it SKc SKn SKr CS (lkp T_X6_reasonAgainst) [F_X6_airportAt, F_X0_bars, F_X6_isByNight, F_X6_noiseByNight, F_X5_wholeNoise, F_X0_ruleAt, F_X6_wouldBreak] [] [] [48, 51] 24 0 [.ref 0, .ref a1, .int x2, .retAddr 0, .retAddr 0] [] h).trans rfl
set_option maxRecDepth 100000 in
set_option maxHeartbeats 4000000 in
theorem e_X6_reasonAgainst_48 (a1 : Nat) (x2 : Int32) (a3 : Nat) (h : Hp) : f_X6_reasonAgainst_48 a1 x2 a3 h = f_X6_reasonAgainst_51 a1 x2 a3 0 h :=
  (exL_it SKc SKn SKr CS (lkp T_X6_reasonAgainst) [F_X6_airportAt, F_X0_bars, F_X6_isByNight, F_X6_noiseByNight, F_X5_wholeNoise, F_X0_ruleAt, F_X6_wouldBreak] [] [] [48, 51] 2 48 [.ref 0, .ref a1, .int x2, .ref a3, .retAddr 0] [] h).trans rfl
set_option maxRecDepth 100000 in
set_option maxHeartbeats 4000000 in
theorem e_X6_reasonAgainst_51 (a1 : Nat) (x2 : Int32) (a3 : Nat) (x4 : Int32) (h : Hp) : f_X6_reasonAgainst_51 a1 x2 a3 x4 h = gd (okc a3 2) (if x4 < (rd h a3 2) then gd (okc a3 2) (bR (F_X0_ruleAt [.ref a3, .int x4] h) (fun v2 h1 => bI (F_X6_wouldBreak [.ref 0, .ref v2, .ref a1, .int x2] h1) (fun v4 h3 => if v4 = 0 then f_X6_reasonAgainst_51 a1 x2 a3 (x4 + 1) h3 else rtn (some (.int (10 + x4))) h3) (hnk [])) (hnk [])) else rtn (some (.int 0)) h) :=
  (exL_it SKc SKn SKr CS (lkp T_X6_reasonAgainst) [F_X6_airportAt, F_X0_bars, F_X6_isByNight, F_X6_noiseByNight, F_X5_wholeNoise, F_X0_ruleAt, F_X6_wouldBreak] [] [] [48, 51] 16 51 [.ref 0, .ref a1, .int x2, .ref a3, .int x4] [] h).trans rfl

def T_X6_give : List (Nat × Ent) := [(0, ([], .aload_n 0, 1, 0, 0, 0, 0)),
  (1, ([], .iload_n 1, 1, 1, 0, 0, 0)),
  (2, ([], .invokevirtual 128, 3, 0, 10, 0, 0)),
  (5, ([], .astore_n 3, 1, 3, 0, 0, 0)),
  (6, ([], .aload_n 0, 1, 0, 0, 0, 0)),
  (7, ([], .getfield 268, 3, 11, 0, 288, 0)),
  (10, ([], .istore 4, 2, 4, 0, 0, 0)),
  (12, ([], .aload_n 0, 1, 0, 0, 0, 0)),
  (13, ([], .iload 4, 2, 4, 0, 0, 0)),
  (15, ([], .iconst 1, 1, 0, 0, 0, 1)),
  (16, ([], .iadd, 1, 0, 0, 0, 0)),
  (17, ([], .putfield 268, 3, 11, 0, 288, 0)),
  (20, ([], .aload_n 0, 1, 0, 0, 0, 0)),
  (21, ([], .iload 4, 2, 4, 0, 0, 0)),
  (23, ([], .invokevirtual 206, 3, 1, 10, 0, 0)),
  (26, ([], .aload_n 3, 1, 3, 0, 0, 0)),
  (27, ([], .iload_n 1, 1, 1, 0, 0, 0)),
  (28, ([], .iload_n 2, 1, 2, 0, 0, 0)),
  (29, ([], .invokevirtual 424, 3, 2, 16, 5, 0)),
  (32, ([], .aload_n 3, 1, 3, 0, 0, 0)),
  (33, ([], .iconst 1, 1, 0, 0, 0, 1)),
  (34, ([], .putfield 184, 3, 9, 8, 123, 0)),
  (37, ([], .aload_n 3, 1, 3, 0, 0, 0)),
  (38, ([], .iload 4, 2, 4, 0, 0, 0)),
  (40, ([], .putfield 294, 3, 11, 8, 127, 0)),
  (43, ([], .aload_n 3, 1, 3, 0, 0, 0)),
  (44, ([], .iconst (-1), 1, 0, 0, 0, (-1))),
  (45, ([], .putfield 196, 3, 12, 8, 129, 0)),
  (48, ([], .return_, 1, 0, 0, 0, 0))]
noncomputable def E_X6_give : Kt := exL SKc SKn SKr CS (lkp T_X6_give) [F_X6_requestAt, F_X6_seriesAt, F_X4_begin] [] []
noncomputable def F_X6_give : Fn := fun as h => gd (chkA 3 as) (E_X6_give 0 (pad 5 as) [] h)
set_option maxRecDepth 100000 in
set_option maxHeartbeats 4000000 in
theorem e_X6_give_0 (x1 : Int32) (x2 : Int32) (h : Hp) : F_X6_give [.ref 0, .int x1, .int x2] h = bR (F_X6_requestAt [.ref 0, .int x1] h) (fun v2 h1 => bR (F_X6_seriesAt [.ref 0, .int (rd h1 0 11)] (wr h1 0 11 ((rd h1 0 11) + 1))) (fun v4 h3 => gd (okc v4 5) (bV (F_X4_begin [.ref v4, .ref v2, .int x1, .int x2] h3) (fun h5 => gd (okc v2 4) (gd (okc v2 4) (gd (okc v2 4) (rtn none (wr (wr (wr h5 v2 9 1) v2 11 (rd h1 0 11)) v2 12 (-1)))))) (hnk []))) (hnk [])) (hnk []) :=
  (exL_it SKc SKn SKr CS (lkp T_X6_give) [F_X6_requestAt, F_X6_seriesAt, F_X4_begin] [] [] [] 29 0 [.ref 0, .int x1, .int x2, .retAddr 0, .retAddr 0] [] h).trans rfl

def T_X6_giveIfItFits : List (Nat × Ent) := [(0, ([], .aload_n 0, 1, 0, 0, 0, 0)),
  (1, ([], .iload_n 1, 1, 1, 0, 0, 0)),
  (2, ([], .invokevirtual 128, 3, 0, 10, 0, 0)),
  (5, ([], .astore_n 2, 1, 2, 0, 0, 0)),
  (6, ([], .aload_n 0, 1, 0, 0, 0, 0)),
  (7, ([], .aload_n 2, 1, 2, 0, 0, 0)),
  (8, ([], .aload_n 2, 1, 2, 0, 0, 0)),
  (9, ([], .getfield 139, 3, 3, 8, 680101, 0)),
  (12, ([], .invokevirtual 199, 3, 1, 13, 0, 0)),
  (15, ([], .ifCond .eq 5, 3, 20, 0, 0, 0)),
  (18, ([], .iconst 0, 1, 0, 0, 0, 0)),
  (19, ([], .ireturn, 1, 0, 1, 0, 0)),
  (20, ([], .aload_n 0, 1, 0, 0, 0, 0)),
  (21, ([], .iload_n 1, 1, 1, 0, 0, 0)),
  (22, ([], .aload_n 2, 1, 2, 0, 0, 0)),
  (23, ([], .getfield 139, 3, 3, 8, 680101, 0)),
  (26, ([], .invokevirtual 203, 3, 2, 12, 0, 0)),
  (29, ([], .iconst 1, 1, 0, 0, 0, 1)),
  (30, ([], .ireturn, 1, 0, 1, 0, 0))]
noncomputable def E_X6_giveIfItFits : Kt := exL SKc SKn SKr CS (lkp T_X6_giveIfItFits) [F_X6_requestAt, F_X6_reasonAgainst, F_X6_give] [] []
noncomputable def F_X6_giveIfItFits : Fn := fun as h => gd (chkA 2 as) (E_X6_giveIfItFits 0 (pad 3 as) [] h)
set_option maxRecDepth 100000 in
set_option maxHeartbeats 4000000 in
theorem e_X6_giveIfItFits_0 (x1 : Int32) (h : Hp) : F_X6_giveIfItFits [.ref 0, .int x1] h = bR (F_X6_requestAt [.ref 0, .int x1] h) (fun v2 h1 => gd (okc v2 4) (bI (F_X6_reasonAgainst [.ref 0, .ref v2, .int (rd h1 v2 3)] h1) (fun v4 h3 => if v4 = 0 then gd (okc v2 4) (bV (F_X6_give [.ref 0, .int x1, .int (rd h3 v2 3)] h3) (fun h5 => rtn (some (.int 1)) h5) (hnk [])) else rtn (some (.int 0)) h3) (hnk []))) (hnk []) :=
  (exL_it SKc SKn SKr CS (lkp T_X6_giveIfItFits) [F_X6_requestAt, F_X6_reasonAgainst, F_X6_give] [] [] [] 17 0 [.ref 0, .int x1, .retAddr 0] [] h).trans rfl

def T_X6_timeToOffer : List (Nat × Ent) := [(0, ([], .iconst 1, 1, 0, 0, 0, 1)),
  (1, ([], .istore_n 2, 1, 2, 0, 0, 0)),
  (2, ([false, false, false, true, true], .iload_n 2, 1, 2, 0, 0, 0)),
  (3, ([], .iconst 3, 1, 0, 0, 0, 3)),
  (4, ([], .if_icmp .gt 59, 3, 63, 0, 0, 0)),
  (7, ([], .aload_n 1, 1, 1, 0, 0, 0)),
  (8, ([], .getfield 139, 3, 3, 8, 680101, 0)),
  (11, ([], .iload_n 2, 1, 2, 0, 0, 0)),
  (12, ([], .isub, 1, 0, 0, 0, 0)),
  (13, ([], .istore_n 3, 1, 3, 0, 0, 0)),
  (14, ([], .iload_n 3, 1, 3, 0, 0, 0)),
  (15, ([], .ifCond .lt 14, 3, 29, 0, 0, 0)),
  (18, ([], .aload_n 0, 1, 0, 0, 0, 0)),
  (19, ([], .aload_n 1, 1, 1, 0, 0, 0)),
  (20, ([], .iload_n 3, 1, 3, 0, 0, 0)),
  (21, ([], .invokevirtual 199, 3, 0, 13, 0, 0)),
  (24, ([], .ifCond .ne 5, 3, 29, 0, 0, 0)),
  (27, ([], .iload_n 3, 1, 3, 0, 0, 0)),
  (28, ([], .ireturn, 1, 0, 0, 0, 0)),
  (29, ([false, false, false, true, true], .aload_n 1, 1, 1, 0, 0, 0)),
  (30, ([], .getfield 139, 3, 3, 8, 680101, 0)),
  (33, ([], .iload_n 2, 1, 2, 0, 0, 0)),
  (34, ([], .iadd, 1, 0, 0, 0, 0)),
  (35, ([], .istore 4, 2, 4, 0, 0, 0)),
  (37, ([], .iload 4, 2, 4, 0, 0, 0)),
  (39, ([], .bipush 72, 2, 0, 0, 0, 72)),
  (41, ([], .if_icmp .ge 16, 3, 57, 0, 0, 0)),
  (44, ([], .aload_n 0, 1, 0, 0, 0, 0)),
  (45, ([], .aload_n 1, 1, 1, 0, 0, 0)),
  (46, ([], .iload 4, 2, 4, 0, 0, 0)),
  (48, ([], .invokevirtual 199, 3, 0, 13, 0, 0)),
  (51, ([], .ifCond .ne 6, 3, 57, 0, 0, 0)),
  (54, ([], .iload 4, 2, 4, 0, 0, 0)),
  (56, ([], .ireturn, 1, 0, 0, 0, 0)),
  (57, ([false, false, false, true, true], .iinc 2 1, 3, 2, 0, 0, 1)),
  (60, ([], .goto (-58), 3, 2, 0, 0, 0)),
  (63, ([], .iconst (-1), 1, 0, 0, 0, (-1))),
  (64, ([], .ireturn, 1, 0, 0, 0, 0))]
noncomputable def E_X6_timeToOffer : Kt := exL SKc SKn SKr CS (lkp T_X6_timeToOffer) [F_X6_reasonAgainst] [] []
noncomputable def F_X6_timeToOffer : Fn := fun as h => gd (chkA 2 as) (E_X6_timeToOffer 0 (pad 5 as) [] h)
noncomputable def f_X6_timeToOffer_2 (a1 : Nat) (x2 : Int32) (h : Hp) : Res := E_X6_timeToOffer 2 [.ref 0, .ref a1, .int x2, .retAddr 0, .retAddr 0] [] h
noncomputable def f_X6_timeToOffer_29 (a1 : Nat) (x2 : Int32) (h : Hp) : Res := E_X6_timeToOffer 29 [.ref 0, .ref a1, .int x2, .retAddr 0, .retAddr 0] [] h
noncomputable def f_X6_timeToOffer_57 (a1 : Nat) (x2 : Int32) (h : Hp) : Res := E_X6_timeToOffer 57 [.ref 0, .ref a1, .int x2, .retAddr 0, .retAddr 0] [] h
set_option maxRecDepth 100000 in
set_option maxHeartbeats 4000000 in
theorem e_X6_timeToOffer_0 (a1 : Nat) (h : Hp) : F_X6_timeToOffer [.ref 0, .ref a1] h = f_X6_timeToOffer_2 a1 1 h :=
  (exL_it SKc SKn SKr CS (lkp T_X6_timeToOffer) [F_X6_reasonAgainst] [] [] [2, 29, 57] 2 0 [.ref 0, .ref a1, .retAddr 0, .retAddr 0, .retAddr 0] [] h).trans rfl
set_option maxRecDepth 100000 in
set_option maxHeartbeats 4000000 in
theorem e_X6_timeToOffer_2 (a1 : Nat) (x2 : Int32) (h : Hp) : f_X6_timeToOffer_2 a1 x2 h = if 3 < x2 then rtn (some (.int (-1))) h else gd (okc a1 4) (if ((rd h a1 3) - x2) < 0 then f_X6_timeToOffer_29 a1 x2 h else bI (F_X6_reasonAgainst [.ref 0, .ref a1, .int ((rd h a1 3) - x2)] h) (fun v2 h1 => if v2 = 0 then rtn (some (.int ((rd h a1 3) - x2))) h1 else f_X6_timeToOffer_29 a1 x2 h1) (hnk [])) :=
  (exL_it SKc SKn SKr CS (lkp T_X6_timeToOffer) [F_X6_reasonAgainst] [] [] [2, 29, 57] 17 2 [.ref 0, .ref a1, .int x2, .retAddr 0, .retAddr 0] [] h).trans rfl
set_option maxRecDepth 100000 in
set_option maxHeartbeats 4000000 in
theorem e_X6_timeToOffer_29 (a1 : Nat) (x2 : Int32) (h : Hp) : f_X6_timeToOffer_29 a1 x2 h = gd (okc a1 4) (if ((rd h a1 3) + x2) < 72 then bI (F_X6_reasonAgainst [.ref 0, .ref a1, .int ((rd h a1 3) + x2)] h) (fun v2 h1 => if v2 = 0 then rtn (some (.int ((rd h a1 3) + x2))) h1 else f_X6_timeToOffer_57 a1 x2 h1) (hnk []) else f_X6_timeToOffer_57 a1 x2 h) :=
  (exL_it SKc SKn SKr CS (lkp T_X6_timeToOffer) [F_X6_reasonAgainst] [] [] [2, 29, 57] 15 29 [.ref 0, .ref a1, .int x2, .retAddr 0, .retAddr 0] [] h).trans rfl
set_option maxRecDepth 100000 in
set_option maxHeartbeats 4000000 in
theorem e_X6_timeToOffer_57 (a1 : Nat) (x2 : Int32) (h : Hp) : f_X6_timeToOffer_57 a1 x2 h = f_X6_timeToOffer_2 a1 (x2 + 1) h :=
  (exL_it SKc SKn SKr CS (lkp T_X6_timeToOffer) [F_X6_reasonAgainst] [] [] [2, 29, 57] 2 57 [.ref 0, .ref a1, .int x2, .retAddr 0, .retAddr 0] [] h).trans rfl

def T_X6_putInQueue : List (Nat × Ent) := [(0, ([], .aload_n 0, 1, 0, 0, 0, 0)),
  (1, ([], .getfield 271, 3, 13, 0, 290, 0)),
  (4, ([], .aload_n 0, 1, 0, 0, 0, 0)),
  (5, ([], .getfield 37, 3, 5, 1, 282, 0)),
  (8, ([], .arraylength, 1, 0, 0, 0, 0)),
  (9, ([], .if_icmp .ge 23, 3, 32, 0, 0, 0)),
  (12, ([], .aload_n 0, 1, 0, 0, 0, 0)),
  (13, ([], .getfield 37, 3, 5, 1, 282, 0)),
  (16, ([], .aload_n 0, 1, 0, 0, 0, 0)),
  (17, ([], .getfield 271, 3, 13, 0, 290, 0)),
  (20, ([], .iload_n 1, 1, 1, 0, 0, 0)),
  (21, ([], .iastore, 1, 0, 0, 0, 0)),
  (22, ([], .aload_n 0, 1, 0, 0, 0, 0)),
  (23, ([], .dup, 1, 0, 0, 0, 0)),
  (24, ([], .getfield 271, 3, 13, 0, 290, 0)),
  (27, ([], .iconst 1, 1, 0, 0, 0, 1)),
  (28, ([], .iadd, 1, 0, 0, 0, 0)),
  (29, ([], .putfield 271, 3, 13, 0, 290, 0)),
  (32, ([], .return_, 1, 0, 0, 0, 0))]
noncomputable def E_X6_putInQueue : Kt := exL SKc SKn SKr CS (lkp T_X6_putInQueue) [] [] []
noncomputable def F_X6_putInQueue : Fn := fun as h => gd (chkA 2 as) (E_X6_putInQueue 0 (pad 2 as) [] h)
set_option maxRecDepth 100000 in
set_option maxHeartbeats 4000000 in
theorem e_X6_putInQueue_0 (x1 : Int32) (h : Hp) : F_X6_putInQueue [.ref 0, .int x1] h = if (rd h 0 13) < 60 then gd (inb (rd h 0 13) 60) (rtn none (wr (wr h 6 ((rd h 0 13).toNatClampNeg) x1) 0 13 ((rd h 0 13) + 1))) else rtn none h :=
  (exL_it SKc SKn SKr CS (lkp T_X6_putInQueue) [] [] [] [] 19 0 [.ref 0, .int x1] [] h).trans rfl

def T_X6_decideAlone : List (Nat × Ent) := [(0, ([], .aload_n 0, 1, 0, 0, 0, 0)),
  (1, ([], .iload_n 1, 1, 1, 0, 0, 0)),
  (2, ([], .invokevirtual 412, 3, 0, 9, 0, 0)),
  (5, ([], .ifCond .eq 5, 3, 10, 0, 0, 0)),
  (8, ([], .iconst 1, 1, 0, 0, 0, 1)),
  (9, ([], .ireturn, 1, 0, 0, 0, 0)),
  (10, ([], .aload_n 0, 1, 0, 0, 0, 0)),
  (11, ([], .iload_n 1, 1, 1, 0, 0, 0)),
  (12, ([], .invokevirtual 128, 3, 1, 10, 0, 0)),
  (15, ([], .astore_n 2, 1, 2, 0, 0, 0)),
  (16, ([], .aload_n 2, 1, 2, 0, 0, 0)),
  (17, ([], .aload_n 0, 1, 0, 0, 0, 0)),
  (18, ([], .aload_n 2, 1, 2, 0, 0, 0)),
  (19, ([], .invokevirtual 415, 3, 2, 9, 0, 0)),
  (22, ([], .putfield 196, 3, 12, 8, 129, 0)),
  (25, ([], .aload_n 2, 1, 2, 0, 0, 0)),
  (26, ([], .aload_n 2, 1, 2, 0, 0, 0)),
  (27, ([], .getfield 196, 3, 12, 8, 129, 0)),
  (30, ([], .iconst (-1), 1, 0, 0, 0, (-1))),
  (31, ([], .if_icmp .ne 7, 3, 38, 0, 0, 0)),
  (34, ([], .iconst 3, 1, 0, 0, 0, 3)),
  (35, ([], .goto 4, 3, 39, 0, 0, 0)),
  (38, ([], .iconst 2, 1, 0, 0, 0, 2)),
  (39, ([false, false, true], .putfield 184, 3, 9, 8, 123, 0)),
  (42, ([], .aload_n 0, 1, 0, 0, 0, 0)),
  (43, ([], .iload_n 1, 1, 1, 0, 0, 0)),
  (44, ([], .invokevirtual 418, 3, 3, 8, 0, 0)),
  (47, ([], .iconst 0, 1, 0, 0, 0, 0)),
  (48, ([], .ireturn, 1, 0, 0, 0, 0))]
noncomputable def E_X6_decideAlone : Kt := exL SKc SKn SKr CS (lkp T_X6_decideAlone) [F_X6_giveIfItFits, F_X6_requestAt, F_X6_timeToOffer, F_X6_putInQueue] [] []
noncomputable def F_X6_decideAlone : Fn := fun as h => gd (chkA 2 as) (E_X6_decideAlone 0 (pad 3 as) [] h)
noncomputable def f_X6_decideAlone_39 (x1 : Int32) (s0 : Int32) (t1 : Nat) (h : Hp) : Res := E_X6_decideAlone 39 [.ref 0, .int x1, .retAddr 0] [.int s0, .ref t1] h
set_option maxRecDepth 100000 in
set_option maxHeartbeats 4000000 in
theorem e_X6_decideAlone_0 (x1 : Int32) (h : Hp) : F_X6_decideAlone [.ref 0, .int x1] h = bI (F_X6_giveIfItFits [.ref 0, .int x1] h) (fun v2 h1 => if v2 = 0 then bR (F_X6_requestAt [.ref 0, .int x1] h1) (fun v4 h3 => bI (F_X6_timeToOffer [.ref 0, .ref v4] h3) (fun v6 h5 => gd (okc v4 4) (gd (okc v4 4) (if (rd (wr h5 v4 12 v6) v4 12) = (-1) then f_X6_decideAlone_39 x1 3 v4 (wr h5 v4 12 v6) else f_X6_decideAlone_39 x1 2 v4 (wr h5 v4 12 v6)))) (hnk [])) (hnk []) else rtn (some (.int 1)) h1) (hnk []) :=
  (exL_it SKc SKn SKr CS (lkp T_X6_decideAlone) [F_X6_giveIfItFits, F_X6_requestAt, F_X6_timeToOffer, F_X6_putInQueue] [] [] [39] 20 0 [.ref 0, .int x1, .retAddr 0] [] h).trans rfl
set_option maxRecDepth 100000 in
set_option maxHeartbeats 4000000 in
theorem e_X6_decideAlone_39 (x1 : Int32) (s0 : Int32) (t1 : Nat) (h : Hp) : f_X6_decideAlone_39 x1 s0 t1 h = gd (okc t1 4) (bV (F_X6_putInQueue [.ref 0, .int x1] (wr h t1 9 s0)) (fun h1 => rtn (some (.int 0)) h1) (hnk [])) :=
  (exL_it SKc SKn SKr CS (lkp T_X6_decideAlone) [F_X6_giveIfItFits, F_X6_requestAt, F_X6_timeToOffer, F_X6_putInQueue] [] [] [39] 6 39 [.ref 0, .int x1, .retAddr 0] [.int s0, .ref t1] h).trans rfl

def T_X6_takeLatestSeriesBack : List (Nat × Ent) := [(0, ([], .aload_n 0, 1, 0, 0, 0, 0)),
  (1, ([], .getfield 268, 3, 11, 0, 288, 0)),
  (4, ([], .iconst 1, 1, 0, 0, 0, 1)),
  (5, ([], .isub, 1, 0, 0, 0, 0)),
  (6, ([], .istore_n 1, 1, 1, 0, 0, 0)),
  (7, ([], .aload_n 0, 1, 0, 0, 0, 0)),
  (8, ([], .aload_n 0, 1, 0, 0, 0, 0)),
  (9, ([], .iload_n 1, 1, 1, 0, 0, 0)),
  (10, ([], .invokevirtual 206, 3, 0, 10, 0, 0)),
  (13, ([], .getfield 303, 3, 7, 10, 224, 0)),
  (16, ([], .invokevirtual 128, 3, 1, 10, 0, 0)),
  (19, ([], .iconst (-1), 1, 0, 0, 0, (-1))),
  (20, ([], .putfield 294, 3, 11, 8, 127, 0)),
  (23, ([], .aload_n 0, 1, 0, 0, 0, 0)),
  (24, ([], .iload_n 1, 1, 1, 0, 0, 0)),
  (25, ([], .putfield 268, 3, 11, 0, 288, 0)),
  (28, ([], .return_, 1, 0, 0, 0, 0))]
noncomputable def E_X6_takeLatestSeriesBack : Kt := exL SKc SKn SKr CS (lkp T_X6_takeLatestSeriesBack) [F_X6_seriesAt, F_X6_requestAt] [] []
noncomputable def F_X6_takeLatestSeriesBack : Fn := fun as h => gd (chkA 1 as) (E_X6_takeLatestSeriesBack 0 (pad 2 as) [] h)
set_option maxRecDepth 100000 in
set_option maxHeartbeats 4000000 in
theorem e_X6_takeLatestSeriesBack_0 (h : Hp) : F_X6_takeLatestSeriesBack [.ref 0] h = bR (F_X6_seriesAt [.ref 0, .int ((rd h 0 11) - 1)] h) (fun v2 h1 => gd (okc v2 5) (bR (F_X6_requestAt [.ref 0, .int (rd h1 v2 7)] h1) (fun v4 h3 => gd (okc v4 4) (rtn none (wr (wr h3 v4 11 (-1)) 0 11 ((rd h 0 11) - 1)))) (hnk []))) (hnk []) :=
  (exL_it SKc SKn SKr CS (lkp T_X6_takeLatestSeriesBack) [F_X6_seriesAt, F_X6_requestAt] [] [] [] 17 0 [.ref 0, .retAddr 0] [] h).trans rfl

def T_X6_decidePair : List (Nat × Ent) := [(0, ([], .aload_n 0, 1, 0, 0, 0, 0)),
  (1, ([], .iload_n 1, 1, 1, 0, 0, 0)),
  (2, ([], .invokevirtual 412, 3, 0, 9, 0, 0)),
  (5, ([], .ifCond .eq 17, 3, 22, 0, 0, 0)),
  (8, ([], .aload_n 0, 1, 0, 0, 0, 0)),
  (9, ([], .iload_n 2, 1, 2, 0, 0, 0)),
  (10, ([], .invokevirtual 412, 3, 0, 9, 0, 0)),
  (13, ([], .ifCond .eq 5, 3, 18, 0, 0, 0)),
  (16, ([], .iconst 2, 1, 0, 0, 0, 2)),
  (17, ([], .ireturn, 1, 0, 0, 0, 0)),
  (18, ([], .aload_n 0, 1, 0, 0, 0, 0)),
  (19, ([], .invokevirtual 421, 3, 1, 4, 0, 0)),
  (22, ([false, false, false], .aload_n 0, 1, 0, 0, 0, 0)),
  (23, ([], .iload_n 1, 1, 1, 0, 0, 0)),
  (24, ([], .invokevirtual 128, 3, 2, 10, 0, 0)),
  (27, ([], .iconst 3, 1, 0, 0, 0, 3)),
  (28, ([], .putfield 184, 3, 9, 8, 123, 0)),
  (31, ([], .aload_n 0, 1, 0, 0, 0, 0)),
  (32, ([], .iload_n 2, 1, 2, 0, 0, 0)),
  (33, ([], .invokevirtual 128, 3, 2, 10, 0, 0)),
  (36, ([], .iconst 3, 1, 0, 0, 0, 3)),
  (37, ([], .putfield 184, 3, 9, 8, 123, 0)),
  (40, ([], .aload_n 0, 1, 0, 0, 0, 0)),
  (41, ([], .iload_n 1, 1, 1, 0, 0, 0)),
  (42, ([], .invokevirtual 418, 3, 3, 8, 0, 0)),
  (45, ([], .aload_n 0, 1, 0, 0, 0, 0)),
  (46, ([], .iload_n 2, 1, 2, 0, 0, 0)),
  (47, ([], .invokevirtual 418, 3, 3, 8, 0, 0)),
  (50, ([], .iconst 0, 1, 0, 0, 0, 0)),
  (51, ([], .ireturn, 1, 0, 0, 0, 0))]
noncomputable def E_X6_decidePair : Kt := exL SKc SKn SKr CS (lkp T_X6_decidePair) [F_X6_giveIfItFits, F_X6_takeLatestSeriesBack, F_X6_requestAt, F_X6_putInQueue] [] []
noncomputable def F_X6_decidePair : Fn := fun as h => gd (chkA 3 as) (E_X6_decidePair 0 (pad 3 as) [] h)
noncomputable def f_X6_decidePair_22 (x1 : Int32) (x2 : Int32) (h : Hp) : Res := E_X6_decidePair 22 [.ref 0, .int x1, .int x2] [] h
set_option maxRecDepth 100000 in
set_option maxHeartbeats 4000000 in
theorem e_X6_decidePair_0 (x1 : Int32) (x2 : Int32) (h : Hp) : F_X6_decidePair [.ref 0, .int x1, .int x2] h = bI (F_X6_giveIfItFits [.ref 0, .int x1] h) (fun v2 h1 => if v2 = 0 then f_X6_decidePair_22 x1 x2 h1 else bI (F_X6_giveIfItFits [.ref 0, .int x2] h1) (fun v4 h3 => if v4 = 0 then bV (F_X6_takeLatestSeriesBack [.ref 0] h3) (fun h5 => f_X6_decidePair_22 x1 x2 h5) (hnk []) else rtn (some (.int 2)) h3) (hnk [])) (hnk []) :=
  (exL_it SKc SKn SKr CS (lkp T_X6_decidePair) [F_X6_giveIfItFits, F_X6_takeLatestSeriesBack, F_X6_requestAt, F_X6_putInQueue] [] [] [22] 10 0 [.ref 0, .int x1, .int x2] [] h).trans rfl
set_option maxRecDepth 100000 in
set_option maxHeartbeats 4000000 in
theorem e_X6_decidePair_22 (x1 : Int32) (x2 : Int32) (h : Hp) : f_X6_decidePair_22 x1 x2 h = bR (F_X6_requestAt [.ref 0, .int x1] h) (fun v2 h1 => gd (okc v2 4) (bR (F_X6_requestAt [.ref 0, .int x2] (wr h1 v2 9 3)) (fun v4 h3 => gd (okc v4 4) (bV (F_X6_putInQueue [.ref 0, .int x1] (wr h3 v4 9 3)) (fun h5 => bV (F_X6_putInQueue [.ref 0, .int x2] h5) (fun h6 => rtn (some (.int 0)) h6) (hnk [])) (hnk []))) (hnk []))) (hnk []) :=
  (exL_it SKc SKn SKr CS (lkp T_X6_decidePair) [F_X6_giveIfItFits, F_X6_takeLatestSeriesBack, F_X6_requestAt, F_X6_putInQueue] [] [] [22] 18 22 [.ref 0, .int x1, .int x2] [] h).trans rfl

def T_X6_confer : List (Nat × Ent) := [(0, ([], .aload_n 0, 1, 0, 0, 0, 0)),
  (1, ([], .iconst 0, 1, 0, 0, 0, 0)),
  (2, ([], .invokevirtual 172, 3, 0, 9, 0, 0)),
  (5, ([], .ifCond .ne 13, 3, 18, 0, 0, 0)),
  (8, ([], .new 72, 3, 2, 0, 0, 0)),
  (18, ([], .aload_n 0, 1, 0, 0, 0, 0)),
  (19, ([], .invokevirtual 177, 3, 1, 4, 0, 0)),
  (22, ([], .aload_n 0, 1, 0, 0, 0, 0)),
  (23, ([], .invokevirtual 180, 3, 2, 5, 0, 0)),
  (26, ([], .istore_n 1, 1, 1, 0, 0, 0)),
  (27, ([], .iconst 0, 1, 0, 0, 0, 0)),
  (28, ([], .istore_n 2, 1, 2, 0, 0, 0)),
  (29, ([], .iconst 0, 1, 0, 0, 0, 0)),
  (30, ([], .istore_n 3, 1, 3, 0, 0, 0)),
  (31, ([false, false, false, false, true], .iload_n 3, 1, 3, 0, 0, 0)),
  (32, ([], .iload_n 1, 1, 1, 0, 0, 0)),
  (33, ([], .if_icmp .ge 78, 3, 111, 0, 0, 0)),
  (36, ([], .iload_n 3, 1, 3, 0, 0, 0)),
  (37, ([], .aload_n 0, 1, 0, 0, 0, 0)),
  (38, ([], .getfield 40, 3, 6, 1, 283, 0)),
  (41, ([], .arraylength, 1, 0, 0, 0, 0)),
  (42, ([], .if_icmp .ge 69, 3, 111, 0, 0, 0)),
  (45, ([], .aload_n 0, 1, 0, 0, 0, 0)),
  (46, ([], .aload_n 0, 1, 0, 0, 0, 0)),
  (47, ([], .getfield 40, 3, 6, 1, 283, 0)),
  (50, ([], .iload_n 3, 1, 3, 0, 0, 0)),
  (51, ([], .iaload, 1, 0, 0, 0, 0)),
  (52, ([], .invokevirtual 128, 3, 3, 10, 0, 0)),
  (55, ([], .astore 4, 2, 4, 0, 0, 0)),
  (57, ([], .aload 4, 2, 4, 0, 0, 0)),
  (59, ([], .getfield 184, 3, 9, 8, 123, 0)),
  (62, ([], .ifCond .ne 43, 3, 105, 0, 0, 0)),
  (65, ([], .iload_n 2, 1, 2, 0, 0, 0)),
  (66, ([], .aload 4, 2, 4, 0, 0, 0)),
  (68, ([], .getfield 169, 3, 13, 8, 131, 0)),
  (71, ([], .iconst (-1), 1, 0, 0, 0, (-1))),
  (72, ([], .if_icmp .ne 16, 3, 88, 0, 0, 0)),
  (75, ([], .aload_n 0, 1, 0, 0, 0, 0)),
  (76, ([], .aload_n 0, 1, 0, 0, 0, 0)),
  (77, ([], .getfield 40, 3, 6, 1, 283, 0)),
  (80, ([], .iload_n 3, 1, 3, 0, 0, 0)),
  (81, ([], .iaload, 1, 0, 0, 0, 0)),
  (82, ([], .invokevirtual 187, 3, 4, 9, 0, 0)),
  (85, ([], .goto 18, 3, 103, 0, 0, 0)),
  (88, ([], .aload_n 0, 1, 0, 0, 0, 0)),
  (89, ([], .aload_n 0, 1, 0, 0, 0, 0)),
  (90, ([], .getfield 40, 3, 6, 1, 283, 0)),
  (93, ([], .iload_n 3, 1, 3, 0, 0, 0)),
  (94, ([], .iaload, 1, 0, 0, 0, 0)),
  (95, ([], .aload 4, 2, 4, 0, 0, 0)),
  (97, ([], .getfield 169, 3, 13, 8, 131, 0)),
  (100, ([], .invokevirtual 190, 3, 5, 13, 0, 0)),
  (103, ([false, false, true, false, true], .iadd, 1, 0, 0, 0, 0)),
  (104, ([], .istore_n 2, 1, 2, 0, 0, 0)),
  (105, ([false, false, false, false, true], .iinc 3 1, 3, 3, 0, 0, 1)),
  (108, ([], .goto (-77), 3, 31, 0, 0, 0)),
  (111, ([], .iload_n 2, 1, 2, 0, 0, 0)),
  (112, ([], .ireturn, 1, 0, 0, 0, 0))]
noncomputable def E_X6_confer : Kt := exL SKc SKn SKr CS (lkp T_X6_confer) [F_X6_requestsThatAre, F_X6_sortAllAsked, F_X6_putAskedInOrder, F_X6_requestAt, F_X6_decideAlone, F_X6_decidePair] [] []
noncomputable def F_X6_confer : Fn := fun as h => gd (chkA 1 as) (E_X6_confer 0 (pad 5 as) [] h)
noncomputable def f_X6_confer_31 (x1 : Int32) (x2 : Int32) (x3 : Int32) (h : Hp) : Res := E_X6_confer 31 [.ref 0, .int x1, .int x2, .int x3, .retAddr 0] [] h
noncomputable def f_X6_confer_103 (x1 : Int32) (x3 : Int32) (s0 : Int32) (s1 : Int32) (h : Hp) : Res := E_X6_confer 103 [.ref 0, .int x1, .retAddr 0, .int x3, .retAddr 0] [.int s0, .int s1] h
noncomputable def f_X6_confer_105 (x1 : Int32) (x2 : Int32) (x3 : Int32) (h : Hp) : Res := E_X6_confer 105 [.ref 0, .int x1, .int x2, .int x3, .retAddr 0] [] h
set_option maxRecDepth 100000 in
set_option maxHeartbeats 4000000 in
theorem e_X6_confer_0 (h : Hp) : F_X6_confer [.ref 0] h = bI (F_X6_requestsThatAre [.ref 0, .int 0] h) (fun v2 h1 => if v2 = 0 then thr 2 h1 else bV (F_X6_sortAllAsked [.ref 0] h1) (fun h3 => bI (F_X6_putAskedInOrder [.ref 0] h3) (fun v5 h4 => f_X6_confer_31 v5 0 0 h4) (hnk [])) (hnk [])) (hnk []) :=
  (exL_it SKc SKn SKr CS (lkp T_X6_confer) [F_X6_requestsThatAre, F_X6_sortAllAsked, F_X6_putAskedInOrder, F_X6_requestAt, F_X6_decideAlone, F_X6_decidePair] [] [] [31, 103, 105] 13 0 [.ref 0, .retAddr 0, .retAddr 0, .retAddr 0, .retAddr 0] [] h).trans rfl
set_option maxRecDepth 100000 in
set_option maxHeartbeats 4000000 in
theorem e_X6_confer_31 (x1 : Int32) (x2 : Int32) (x3 : Int32) (h : Hp) : f_X6_confer_31 x1 x2 x3 h = if x3 < x1 then if x3 < 60 then gd (inb x3 60) (bR (F_X6_requestAt [.ref 0, .int (rd h 7 x3.toNatClampNeg)] h) (fun v2 h1 => gd (okc v2 4) (if (rd h1 v2 9) = 0 then gd (okc v2 4) (if (rd h1 v2 13) = (-1) then gd (inb x3 60) (bI (F_X6_decideAlone [.ref 0, .int (rd h1 7 x3.toNatClampNeg)] h1) (fun v4 h3 => f_X6_confer_103 x1 x3 v4 x2 h3) (hnk [])) else gd (inb x3 60) (gd (okc v2 4) (bI (F_X6_decidePair [.ref 0, .int (rd h1 7 x3.toNatClampNeg), .int (rd h1 v2 13)] h1) (fun v6 h5 => f_X6_confer_103 x1 x3 v6 x2 h5) (hnk [])))) else f_X6_confer_105 x1 x2 x3 h1)) (hnk [])) else rtn (some (.int x2)) h else rtn (some (.int x2)) h :=
  (exL_it SKc SKn SKr CS (lkp T_X6_confer) [F_X6_requestsThatAre, F_X6_sortAllAsked, F_X6_putAskedInOrder, F_X6_requestAt, F_X6_decideAlone, F_X6_decidePair] [] [] [31, 103, 105] 31 31 [.ref 0, .int x1, .int x2, .int x3, .retAddr 0] [] h).trans rfl
set_option maxRecDepth 100000 in
set_option maxHeartbeats 4000000 in
theorem e_X6_confer_103 (x1 : Int32) (x3 : Int32) (s0 : Int32) (s1 : Int32) (h : Hp) : f_X6_confer_103 x1 x3 s0 s1 h = f_X6_confer_105 x1 (s1 + s0) x3 h :=
  (exL_it SKc SKn SKr CS (lkp T_X6_confer) [F_X6_requestsThatAre, F_X6_sortAllAsked, F_X6_putAskedInOrder, F_X6_requestAt, F_X6_decideAlone, F_X6_decidePair] [] [] [31, 103, 105] 2 103 [.ref 0, .int x1, .retAddr 0, .int x3, .retAddr 0] [.int s0, .int s1] h).trans rfl
set_option maxRecDepth 100000 in
set_option maxHeartbeats 4000000 in
theorem e_X6_confer_105 (x1 : Int32) (x2 : Int32) (x3 : Int32) (h : Hp) : f_X6_confer_105 x1 x2 x3 h = f_X6_confer_31 x1 x2 (x3 + 1) h :=
  (exL_it SKc SKn SKr CS (lkp T_X6_confer) [F_X6_requestsThatAre, F_X6_sortAllAsked, F_X6_putAskedInOrder, F_X6_requestAt, F_X6_decideAlone, F_X6_decidePair] [] [] [31, 103, 105] 2 105 [.ref 0, .int x1, .int x2, .int x3, .retAddr 0] [] h).trans rfl

def T_X6_accept : List (Nat × Ent) := [(0, ([], .aload_n 0, 1, 0, 0, 0, 0)),
  (1, ([], .iload_n 1, 1, 1, 0, 0, 0)),
  (2, ([], .invokevirtual 128, 3, 0, 10, 0, 0)),
  (5, ([], .astore_n 2, 1, 2, 0, 0, 0)),
  (6, ([], .aload_n 2, 1, 2, 0, 0, 0)),
  (7, ([], .getfield 184, 3, 9, 8, 123, 0)),
  (10, ([], .iconst 2, 1, 0, 0, 0, 2)),
  (11, ([], .if_icmp .eq 13, 3, 24, 0, 0, 0)),
  (14, ([], .new 72, 3, 2, 0, 0, 0)),
  (24, ([], .aload_n 2, 1, 2, 0, 0, 0)),
  (25, ([], .getfield 196, 3, 12, 8, 129, 0)),
  (28, ([], .istore_n 3, 1, 3, 0, 0, 0)),
  (29, ([], .aload_n 0, 1, 0, 0, 0, 0)),
  (30, ([], .aload_n 2, 1, 2, 0, 0, 0)),
  (31, ([], .iload_n 3, 1, 3, 0, 0, 0)),
  (32, ([], .invokevirtual 199, 3, 1, 13, 0, 0)),
  (35, ([], .ifCond .ne 11, 3, 46, 0, 0, 0)),
  (38, ([], .aload_n 0, 1, 0, 0, 0, 0)),
  (39, ([], .iload_n 1, 1, 1, 0, 0, 0)),
  (40, ([], .iload_n 3, 1, 3, 0, 0, 0)),
  (41, ([], .invokevirtual 203, 3, 2, 12, 0, 0)),
  (44, ([], .iconst 1, 1, 0, 0, 0, 1)),
  (45, ([], .ireturn, 1, 0, 1, 0, 0)),
  (46, ([], .aload_n 2, 1, 2, 0, 0, 0)),
  (47, ([], .iconst 3, 1, 0, 0, 0, 3)),
  (48, ([], .putfield 184, 3, 9, 8, 123, 0)),
  (51, ([], .aload_n 2, 1, 2, 0, 0, 0)),
  (52, ([], .iconst (-1), 1, 0, 0, 0, (-1))),
  (53, ([], .putfield 196, 3, 12, 8, 129, 0)),
  (56, ([], .iconst 0, 1, 0, 0, 0, 0)),
  (57, ([], .ireturn, 1, 0, 1, 0, 0))]
noncomputable def E_X6_accept : Kt := exL SKc SKn SKr CS (lkp T_X6_accept) [F_X6_requestAt, F_X6_reasonAgainst, F_X6_give] [] []
noncomputable def F_X6_accept : Fn := fun as h => gd (chkA 2 as) (E_X6_accept 0 (pad 4 as) [] h)
set_option maxRecDepth 100000 in
set_option maxHeartbeats 4000000 in
theorem e_X6_accept_0 (x1 : Int32) (h : Hp) : F_X6_accept [.ref 0, .int x1] h = bR (F_X6_requestAt [.ref 0, .int x1] h) (fun v2 h1 => gd (okc v2 4) (if (rd h1 v2 9) = 2 then gd (okc v2 4) (bI (F_X6_reasonAgainst [.ref 0, .ref v2, .int (rd h1 v2 12)] h1) (fun v4 h3 => if v4 = 0 then bV (F_X6_give [.ref 0, .int x1, .int (rd h1 v2 12)] h3) (fun h5 => rtn (some (.int 1)) h5) (hnk []) else gd (okc v2 4) (gd (okc v2 4) (rtn (some (.int 0)) (wr (wr h3 v2 9 3) v2 12 (-1))))) (hnk [])) else thr 2 h1)) (hnk []) :=
  (exL_it SKc SKn SKr CS (lkp T_X6_accept) [F_X6_requestAt, F_X6_reasonAgainst, F_X6_give] [] [] [] 24 0 [.ref 0, .int x1, .retAddr 0, .retAddr 0] [] h).trans rfl

def T_X6_serveQueueAt : List (Nat × Ent) := [(0, ([], .iconst 0, 1, 0, 0, 0, 0)),
  (1, ([], .istore_n 2, 1, 2, 0, 0, 0)),
  (2, ([], .iconst 0, 1, 0, 0, 0, 0)),
  (3, ([], .istore_n 3, 1, 3, 0, 0, 0)),
  (4, ([false, false, false, false, true], .iload_n 3, 1, 3, 0, 0, 0)),
  (5, ([], .aload_n 0, 1, 0, 0, 0, 0)),
  (6, ([], .getfield 271, 3, 13, 0, 290, 0)),
  (9, ([], .if_icmp .ge 72, 3, 81, 0, 0, 0)),
  (12, ([], .iload_n 3, 1, 3, 0, 0, 0)),
  (13, ([], .aload_n 0, 1, 0, 0, 0, 0)),
  (14, ([], .getfield 37, 3, 5, 1, 282, 0)),
  (17, ([], .arraylength, 1, 0, 0, 0, 0)),
  (18, ([], .if_icmp .ge 63, 3, 81, 0, 0, 0)),
  (21, ([], .aload_n 0, 1, 0, 0, 0, 0)),
  (22, ([], .aload_n 0, 1, 0, 0, 0, 0)),
  (23, ([], .getfield 37, 3, 5, 1, 282, 0)),
  (26, ([], .iload_n 3, 1, 3, 0, 0, 0)),
  (27, ([], .iaload, 1, 0, 0, 0, 0)),
  (28, ([], .invokevirtual 128, 3, 0, 10, 0, 0)),
  (31, ([], .astore 4, 2, 4, 0, 0, 0)),
  (33, ([], .aload 4, 2, 4, 0, 0, 0)),
  (35, ([], .invokevirtual 298, 3, 1, 5, 4, 0)),
  (38, ([], .ifCond .eq 37, 3, 75, 0, 0, 0)),
  (41, ([], .aload 4, 2, 4, 0, 0, 0)),
  (43, ([], .getfield 132, 3, 0, 8, 565385, 0)),
  (46, ([], .iload_n 1, 1, 1, 0, 0, 0)),
  (47, ([], .if_icmp .ne 28, 3, 75, 0, 0, 0)),
  (50, ([], .aload 4, 2, 4, 0, 0, 0)),
  (52, ([], .getfield 169, 3, 13, 8, 131, 0)),
  (55, ([], .iconst (-1), 1, 0, 0, 0, (-1))),
  (56, ([], .if_icmp .ne 19, 3, 75, 0, 0, 0)),
  (59, ([], .aload_n 0, 1, 0, 0, 0, 0)),
  (60, ([], .aload_n 0, 1, 0, 0, 0, 0)),
  (61, ([], .getfield 37, 3, 5, 1, 282, 0)),
  (64, ([], .iload_n 3, 1, 3, 0, 0, 0)),
  (65, ([], .iaload, 1, 0, 0, 0, 0)),
  (66, ([], .invokevirtual 412, 3, 2, 9, 0, 0)),
  (69, ([], .ifCond .eq 6, 3, 75, 0, 0, 0)),
  (72, ([], .iinc 2 1, 3, 2, 0, 0, 1)),
  (75, ([false, false, false, false, true], .iinc 3 1, 3, 3, 0, 0, 1)),
  (78, ([], .goto (-74), 3, 4, 0, 0, 0)),
  (81, ([], .iload_n 2, 1, 2, 0, 0, 0)),
  (82, ([], .ireturn, 1, 0, 0, 0, 0))]
noncomputable def E_X6_serveQueueAt : Kt := exL SKc SKn SKr CS (lkp T_X6_serveQueueAt) [F_X6_requestAt, F_X1_isInQueue, F_X6_giveIfItFits] [] []
noncomputable def F_X6_serveQueueAt : Fn := fun as h => gd (chkA 2 as) (E_X6_serveQueueAt 0 (pad 5 as) [] h)
noncomputable def f_X6_serveQueueAt_4 (x1 : Int32) (x2 : Int32) (x3 : Int32) (h : Hp) : Res := E_X6_serveQueueAt 4 [.ref 0, .int x1, .int x2, .int x3, .retAddr 0] [] h
noncomputable def f_X6_serveQueueAt_75 (x1 : Int32) (x2 : Int32) (x3 : Int32) (h : Hp) : Res := E_X6_serveQueueAt 75 [.ref 0, .int x1, .int x2, .int x3, .retAddr 0] [] h
set_option maxRecDepth 100000 in
set_option maxHeartbeats 4000000 in
theorem e_X6_serveQueueAt_0 (x1 : Int32) (h : Hp) : F_X6_serveQueueAt [.ref 0, .int x1] h = f_X6_serveQueueAt_4 x1 0 0 h :=
  (exL_it SKc SKn SKr CS (lkp T_X6_serveQueueAt) [F_X6_requestAt, F_X1_isInQueue, F_X6_giveIfItFits] [] [] [4, 75] 4 0 [.ref 0, .int x1, .retAddr 0, .retAddr 0, .retAddr 0] [] h).trans rfl
set_option maxRecDepth 100000 in
set_option maxHeartbeats 4000000 in
theorem e_X6_serveQueueAt_4 (x1 : Int32) (x2 : Int32) (x3 : Int32) (h : Hp) : f_X6_serveQueueAt_4 x1 x2 x3 h = if x3 < (rd h 0 13) then if x3 < 60 then gd (inb x3 60) (bR (F_X6_requestAt [.ref 0, .int (rd h 6 x3.toNatClampNeg)] h) (fun v2 h1 => gd (okc v2 4) (bI (F_X1_isInQueue [.ref v2] h1) (fun v4 h3 => if v4 = 0 then f_X6_serveQueueAt_75 x1 x2 x3 h3 else gd (okc v2 4) (if (rd h3 v2 0) = x1 then gd (okc v2 4) (if (rd h3 v2 13) = (-1) then gd (inb x3 60) (bI (F_X6_giveIfItFits [.ref 0, .int (rd h3 6 x3.toNatClampNeg)] h3) (fun v6 h5 => if v6 = 0 then f_X6_serveQueueAt_75 x1 x2 x3 h5 else f_X6_serveQueueAt_75 x1 (x2 + 1) x3 h5) (hnk [])) else f_X6_serveQueueAt_75 x1 x2 x3 h3) else f_X6_serveQueueAt_75 x1 x2 x3 h3)) (hnk []))) (hnk [])) else rtn (some (.int x2)) h else rtn (some (.int x2)) h :=
  (exL_it SKc SKn SKr CS (lkp T_X6_serveQueueAt) [F_X6_requestAt, F_X1_isInQueue, F_X6_giveIfItFits] [] [] [4, 75] 35 4 [.ref 0, .int x1, .int x2, .int x3, .retAddr 0] [] h).trans rfl
set_option maxRecDepth 100000 in
set_option maxHeartbeats 4000000 in
theorem e_X6_serveQueueAt_75 (x1 : Int32) (x2 : Int32) (x3 : Int32) (h : Hp) : f_X6_serveQueueAt_75 x1 x2 x3 h = f_X6_serveQueueAt_4 x1 x2 (x3 + 1) h :=
  (exL_it SKc SKn SKr CS (lkp T_X6_serveQueueAt) [F_X6_requestAt, F_X1_isInQueue, F_X6_giveIfItFits] [] [] [4, 75] 2 75 [.ref 0, .int x1, .int x2, .int x3, .retAddr 0] [] h).trans rfl

def T_X6_giveBack : List (Nat × Ent) := [(0, ([], .aload_n 0, 1, 0, 0, 0, 0)),
  (1, ([], .iload_n 1, 1, 1, 0, 0, 0)),
  (2, ([], .invokevirtual 206, 3, 0, 10, 0, 0)),
  (5, ([], .astore_n 3, 1, 3, 0, 0, 0)),
  (6, ([], .iload_n 2, 1, 2, 0, 0, 0)),
  (7, ([], .iconst 0, 1, 0, 0, 0, 0)),
  (8, ([], .bipush 19, 2, 0, 0, 0, 19)),
  (10, ([], .invokestatic 64, 3, 1, 12, 99, 0)),
  (13, ([], .aload_n 3, 1, 3, 0, 0, 0)),
  (14, ([], .getfield 210, 3, 12, 10, 235, 0)),
  (17, ([], .ifCond .ne 11, 3, 28, 0, 0, 0)),
  (20, ([], .aload_n 3, 1, 3, 0, 0, 0)),
  (21, ([], .getfield 214, 3, 5, 10, 741556, 0)),
  (24, ([], .iload_n 2, 1, 2, 0, 0, 0)),
  (25, ([], .if_icmp .ge 13, 3, 38, 0, 0, 0)),
  (28, ([true, true, true, true], .new 72, 3, 2, 0, 0, 0)),
  (38, ([], .iload_n 2, 1, 2, 0, 0, 0)),
  (39, ([], .aload_n 3, 1, 3, 0, 0, 0)),
  (40, ([], .getfield 217, 3, 4, 10, 712877, 0)),
  (43, ([], .if_icmp .gt 11, 3, 54, 0, 0, 0)),
  (46, ([], .aload_n 3, 1, 3, 0, 0, 0)),
  (47, ([], .iconst 1, 1, 0, 0, 0, 1)),
  (48, ([], .putfield 210, 3, 12, 11, 235, 0)),
  (51, ([], .goto 10, 3, 61, 0, 0, 0)),
  (54, ([], .aload_n 3, 1, 3, 0, 0, 0)),
  (55, ([], .iload_n 2, 1, 2, 0, 0, 0)),
  (56, ([], .iconst 1, 1, 0, 0, 0, 1)),
  (57, ([], .isub, 1, 0, 0, 0, 0)),
  (58, ([], .putfield 214, 3, 5, 10, 741556, 0)),
  (61, ([false, true, true, false], .aload_n 0, 1, 0, 0, 0, 0)),
  (62, ([], .aload_n 3, 1, 3, 0, 0, 0)),
  (63, ([], .getfield 218, 3, 0, 10, 544907, 0)),
  (66, ([], .invokevirtual 219, 3, 2, 9, 0, 0)),
  (69, ([], .ireturn, 1, 0, 0, 0, 0))]
noncomputable def E_X6_giveBack : Kt := exL SKc SKn SKr CS (lkp T_X6_giveBack) [F_X6_seriesAt, F_X6_requireRange, F_X6_serveQueueAt] [] []
noncomputable def F_X6_giveBack : Fn := fun as h => gd (chkA 3 as) (E_X6_giveBack 0 (pad 4 as) [] h)
noncomputable def f_X6_giveBack_28 (h : Hp) : Res := E_X6_giveBack 28 [.retAddr 0, .retAddr 0, .retAddr 0, .retAddr 0] [] h
noncomputable def f_X6_giveBack_61 (a3 : Nat) (h : Hp) : Res := E_X6_giveBack 61 [.ref 0, .retAddr 0, .retAddr 0, .ref a3] [] h
set_option maxRecDepth 100000 in
set_option maxHeartbeats 4000000 in
theorem e_X6_giveBack_0 (x1 : Int32) (x2 : Int32) (h : Hp) : F_X6_giveBack [.ref 0, .int x1, .int x2] h = bR (F_X6_seriesAt [.ref 0, .int x1] h) (fun v2 h1 => bV (F_X6_requireRange [.int x2, .int 0, .int 19] h1) (fun h3 => gd (okc v2 5) (if (rd h3 v2 12) = 0 then gd (okc v2 5) (if (rd h3 v2 5) < x2 then f_X6_giveBack_28 h3 else gd (okc v2 5) (if (rd h3 v2 4) < x2 then gd (okc v2 5) (f_X6_giveBack_61 v2 (wr h3 v2 5 (x2 - 1))) else gd (okc v2 5) (f_X6_giveBack_61 v2 (wr h3 v2 12 1)))) else f_X6_giveBack_28 h3)) (hnk [])) (hnk []) :=
  (exL_it SKc SKn SKr CS (lkp T_X6_giveBack) [F_X6_seriesAt, F_X6_requireRange, F_X6_serveQueueAt] [] [] [28, 61] 24 0 [.ref 0, .int x1, .int x2, .retAddr 0] [] h).trans rfl
set_option maxRecDepth 100000 in
set_option maxHeartbeats 4000000 in
theorem e_X6_giveBack_28 (h : Hp) : f_X6_giveBack_28 h = thr 2 h :=
  (exL_it SKc SKn SKr CS (lkp T_X6_giveBack) [F_X6_seriesAt, F_X6_requireRange, F_X6_serveQueueAt] [] [] [28, 61] 1 28 [.retAddr 0, .retAddr 0, .retAddr 0, .retAddr 0] [] h).trans rfl
set_option maxRecDepth 100000 in
set_option maxHeartbeats 4000000 in
theorem e_X6_giveBack_61 (a3 : Nat) (h : Hp) : f_X6_giveBack_61 a3 h = gd (okc a3 5) (bI (F_X6_serveQueueAt [.ref 0, .int (rd h a3 0)] h) (fun v2 h1 => rtn (some (.int v2)) h1) (hnk [])) :=
  (exL_it SKc SKn SKr CS (lkp T_X6_giveBack) [F_X6_seriesAt, F_X6_requireRange, F_X6_serveQueueAt] [] [] [28, 61] 5 61 [.ref 0, .retAddr 0, .retAddr 0, .ref a3] [] h).trans rfl

def T_X6_swap : List (Nat × Ent) := [(0, ([], .aload_n 0, 1, 0, 0, 0, 0)),
  (1, ([], .iload_n 1, 1, 1, 0, 0, 0)),
  (2, ([], .invokevirtual 206, 3, 0, 10, 0, 0)),
  (5, ([], .astore_n 3, 1, 3, 0, 0, 0)),
  (6, ([], .aload_n 0, 1, 0, 0, 0, 0)),
  (7, ([], .iload_n 2, 1, 2, 0, 0, 0)),
  (8, ([], .invokevirtual 206, 3, 0, 10, 0, 0)),
  (11, ([], .astore 4, 2, 4, 0, 0, 0)),
  (13, ([], .iload_n 1, 1, 1, 0, 0, 0)),
  (14, ([], .iload_n 2, 1, 2, 0, 0, 0)),
  (15, ([], .if_icmp .ne 13, 3, 28, 0, 0, 0)),
  (18, ([], .new 158, 3, 1, 0, 0, 0)),
  (28, ([], .aload_n 3, 1, 3, 0, 0, 0)),
  (29, ([], .getfield 210, 3, 12, 10, 235, 0)),
  (32, ([], .ifCond .ne 23, 3, 55, 0, 0, 0)),
  (35, ([], .aload 4, 2, 4, 0, 0, 0)),
  (37, ([], .getfield 210, 3, 12, 10, 235, 0)),
  (40, ([], .ifCond .ne 15, 3, 55, 0, 0, 0)),
  (43, ([], .aload_n 3, 1, 3, 0, 0, 0)),
  (44, ([], .getfield 218, 3, 0, 10, 544907, 0)),
  (47, ([], .aload 4, 2, 4, 0, 0, 0)),
  (49, ([], .getfield 218, 3, 0, 10, 544907, 0)),
  (52, ([], .if_icmp .eq 13, 3, 65, 0, 0, 0)),
  (55, ([true, true, true, true, true, true, true], .new 72, 3, 2, 0, 0, 0)),
  (65, ([], .aload_n 3, 1, 3, 0, 0, 0)),
  (66, ([], .getfield 226, 3, 8, 10, 227, 0)),
  (69, ([], .istore 5, 2, 5, 0, 0, 0)),
  (71, ([], .aload_n 3, 1, 3, 0, 0, 0)),
  (72, ([], .getfield 229, 3, 9, 10, 229, 0)),
  (75, ([], .istore 6, 2, 6, 0, 0, 0)),
  (77, ([], .aload_n 3, 1, 3, 0, 0, 0)),
  (78, ([], .aload 4, 2, 4, 0, 0, 0)),
  (80, ([], .getfield 226, 3, 8, 10, 227, 0)),
  (83, ([], .putfield 226, 3, 8, 10, 227, 0)),
  (86, ([], .aload_n 3, 1, 3, 0, 0, 0)),
  (87, ([], .aload 4, 2, 4, 0, 0, 0)),
  (89, ([], .getfield 229, 3, 9, 10, 229, 0)),
  (92, ([], .putfield 229, 3, 9, 10, 229, 0)),
  (95, ([], .aload 4, 2, 4, 0, 0, 0)),
  (97, ([], .iload 5, 2, 5, 0, 0, 0)),
  (99, ([], .putfield 226, 3, 8, 10, 227, 0)),
  (102, ([], .aload 4, 2, 4, 0, 0, 0)),
  (104, ([], .iload 6, 2, 6, 0, 0, 0)),
  (106, ([], .putfield 229, 3, 9, 10, 229, 0)),
  (109, ([], .return_, 1, 0, 0, 0, 0))]
noncomputable def E_X6_swap : Kt := exL SKc SKn SKr CS (lkp T_X6_swap) [F_X6_seriesAt] [] []
noncomputable def F_X6_swap : Fn := fun as h => gd (chkA 3 as) (E_X6_swap 0 (pad 7 as) [] h)
noncomputable def f_X6_swap_55 (h : Hp) : Res := E_X6_swap 55 [.retAddr 0, .retAddr 0, .retAddr 0, .retAddr 0, .retAddr 0, .retAddr 0, .retAddr 0] [] h
set_option maxRecDepth 100000 in
set_option maxHeartbeats 4000000 in
theorem e_X6_swap_0 (x1 : Int32) (x2 : Int32) (h : Hp) : F_X6_swap [.ref 0, .int x1, .int x2] h = bR (F_X6_seriesAt [.ref 0, .int x1] h) (fun v2 h1 => bR (F_X6_seriesAt [.ref 0, .int x2] h1) (fun v4 h3 => if x1 = x2 then thr 1 h3 else gd (okc v2 5) (if (rd h3 v2 12) = 0 then gd (okc v4 5) (if (rd h3 v4 12) = 0 then gd (okc v2 5) (gd (okc v4 5) (if (rd h3 v2 0) = (rd h3 v4 0) then gd (okc v2 5) (gd (okc v2 5) (gd (okc v4 5) (gd (okc v2 5) (gd (okc v4 5) (gd (okc v2 5) (gd (okc v4 5) (gd (okc v4 5) (rtn none (wr (wr (wr (wr h3 v2 8 (rd h3 v4 8)) v2 9 (rd (wr h3 v2 8 (rd h3 v4 8)) v4 9)) v4 8 (rd h3 v2 8)) v4 9 (rd h3 v2 9)))))))))) else f_X6_swap_55 h3)) else f_X6_swap_55 h3) else f_X6_swap_55 h3)) (hnk [])) (hnk []) :=
  (exL_it SKc SKn SKr CS (lkp T_X6_swap) [F_X6_seriesAt] [] [] [55] 43 0 [.ref 0, .int x1, .int x2, .retAddr 0, .retAddr 0, .retAddr 0, .retAddr 0] [] h).trans rfl
set_option maxRecDepth 100000 in
set_option maxHeartbeats 4000000 in
theorem e_X6_swap_55 (h : Hp) : f_X6_swap_55 h = thr 2 h :=
  (exL_it SKc SKn SKr CS (lkp T_X6_swap) [F_X6_seriesAt] [] [] [55] 1 55 [.retAddr 0, .retAddr 0, .retAddr 0, .retAddr 0, .retAddr 0, .retAddr 0, .retAddr 0] [] h).trans rfl

def T_X6_lease : List (Nat × Ent) := [(0, ([], .aload_n 0, 1, 0, 0, 0, 0)),
  (1, ([], .iload_n 1, 1, 1, 0, 0, 0)),
  (2, ([], .invokevirtual 206, 3, 0, 10, 0, 0)),
  (5, ([], .astore_n 3, 1, 3, 0, 0, 0)),
  (6, ([], .aload_n 0, 1, 0, 0, 0, 0)),
  (7, ([], .iload_n 2, 1, 2, 0, 0, 0)),
  (8, ([], .invokevirtual 103, 3, 1, 9, 0, 0)),
  (11, ([], .pop, 1, 0, 0, 0, 0)),
  (12, ([], .aload_n 3, 1, 3, 0, 0, 0)),
  (13, ([], .getfield 210, 3, 12, 10, 235, 0)),
  (16, ([], .ifCond .eq 13, 3, 29, 0, 0, 0)),
  (19, ([], .new 72, 3, 2, 0, 0, 0)),
  (29, ([], .aload_n 3, 1, 3, 0, 0, 0)),
  (30, ([], .getfield 229, 3, 9, 10, 229, 0)),
  (33, ([], .istore 4, 2, 4, 0, 0, 0)),
  (35, ([], .aload_n 3, 1, 3, 0, 0, 0)),
  (36, ([], .iload_n 2, 1, 2, 0, 0, 0)),
  (37, ([], .putfield 229, 3, 9, 10, 229, 0)),
  (40, ([], .iload 4, 2, 4, 0, 0, 0)),
  (42, ([], .ireturn, 1, 0, 0, 0, 0))]
noncomputable def E_X6_lease : Kt := exL SKc SKn SKr CS (lkp T_X6_lease) [F_X6_seriesAt, F_X6_groupAt] [] []
noncomputable def F_X6_lease : Fn := fun as h => gd (chkA 3 as) (E_X6_lease 0 (pad 5 as) [] h)
set_option maxRecDepth 100000 in
set_option maxHeartbeats 4000000 in
theorem e_X6_lease_0 (x1 : Int32) (x2 : Int32) (h : Hp) : F_X6_lease [.ref 0, .int x1, .int x2] h = bR (F_X6_seriesAt [.ref 0, .int x1] h) (fun v2 h1 => bI (F_X6_groupAt [.ref 0, .int x2] h1) (fun v4 h3 => gd (okc v2 5) (if (rd h3 v2 12) = 0 then gd (okc v2 5) (gd (okc v2 5) (rtn (some (.int (rd h3 v2 9))) (wr h3 v2 9 x2))) else thr 2 h3)) (hnk [])) (hnk []) :=
  (exL_it SKc SKn SKr CS (lkp T_X6_lease) [F_X6_seriesAt, F_X6_groupAt] [] [] [] 19 0 [.ref 0, .int x1, .int x2, .retAddr 0, .retAddr 0] [] h).trans rfl

def T_X6_weeksFromTo : List (Nat × Ent) := [(0, ([], .iconst 1, 1, 0, 0, 0, 1)),
  (1, ([], .iload_n 1, 1, 1, 0, 0, 0)),
  (2, ([], .iload_n 0, 1, 0, 0, 0, 0)),
  (3, ([], .isub, 1, 0, 0, 0, 0)),
  (4, ([], .iconst 1, 1, 0, 0, 0, 1)),
  (5, ([], .iadd, 1, 0, 0, 0, 0)),
  (6, ([], .ishl, 1, 0, 0, 0, 0)),
  (7, ([], .iconst 1, 1, 0, 0, 0, 1)),
  (8, ([], .isub, 1, 0, 0, 0, 0)),
  (9, ([], .iload_n 0, 1, 0, 0, 0, 0)),
  (10, ([], .ishl, 1, 0, 0, 0, 0)),
  (11, ([], .ireturn, 1, 0, 0, 0, 0))]
noncomputable def E_X6_weeksFromTo : Kt := exL SKc SKn SKr CS (lkp T_X6_weeksFromTo) [] [] []
noncomputable def F_X6_weeksFromTo : Fn := fun as h => gd (chkA 2 as) (E_X6_weeksFromTo 0 (pad 2 as) [] h)
set_option maxRecDepth 100000 in
set_option maxHeartbeats 4000000 in
theorem e_X6_weeksFromTo_0 (x0 : Int32) (x1 : Int32) (h : Hp) : F_X6_weeksFromTo [.int x0, .int x1] h = rtn (some (.int (((1 <<< (((x1 - x0) + 1) &&& 31)) - 1) <<< (x0 &&& 31)))) h :=
  (exL_it SKc SKn SKr CS (lkp T_X6_weeksFromTo) [] [] [] [] 12 0 [.int x0, .int x1] [] h).trans rfl

def T_X6_fly : List (Nat × Ent) := [(0, ([], .aload_n 0, 1, 0, 0, 0, 0)),
  (1, ([], .iload_n 1, 1, 1, 0, 0, 0)),
  (2, ([], .invokevirtual 206, 3, 0, 10, 0, 0)),
  (5, ([], .astore 4, 2, 4, 0, 0, 0)),
  (7, ([], .iload_n 2, 1, 2, 0, 0, 0)),
  (8, ([], .aload 4, 2, 4, 0, 0, 0)),
  (10, ([], .getfield 217, 3, 4, 10, 712877, 0)),
  (13, ([], .aload 4, 2, 4, 0, 0, 0)),
  (15, ([], .getfield 214, 3, 5, 10, 741556, 0)),
  (18, ([], .invokestatic 64, 3, 1, 12, 99, 0)),
  (21, ([], .iload_n 3, 1, 3, 0, 0, 0)),
  (22, ([], .iconst 0, 1, 0, 0, 0, 0)),
  (23, ([], .bipush 71, 2, 0, 0, 0, 71)),
  (25, ([], .invokestatic 64, 3, 1, 12, 99, 0)),
  (28, ([], .iload_n 2, 1, 2, 0, 0, 0)),
  (29, ([], .iload_n 2, 1, 2, 0, 0, 0)),
  (30, ([], .invokestatic 234, 3, 2, 9, 99, 0)),
  (33, ([], .istore 5, 2, 5, 0, 0, 0)),
  (35, ([], .aload 4, 2, 4, 0, 0, 0)),
  (37, ([], .getfield 210, 3, 12, 10, 235, 0)),
  (40, ([], .ifCond .ne 14, 3, 54, 0, 0, 0)),
  (43, ([], .aload 4, 2, 4, 0, 0, 0)),
  (45, ([], .getfield 237, 3, 10, 10, 231, 0)),
  (48, ([], .iload 5, 2, 5, 0, 0, 0)),
  (50, ([], .iand, 1, 0, 0, 0, 0)),
  (51, ([], .ifCond .eq 13, 3, 64, 0, 0, 0)),
  (54, ([true, true, true, true, true, true], .new 72, 3, 2, 0, 0, 0)),
  (64, ([], .aload 4, 2, 4, 0, 0, 0)),
  (66, ([], .dup, 1, 0, 0, 0, 0)),
  (67, ([], .getfield 237, 3, 10, 10, 231, 0)),
  (70, ([], .iload 5, 2, 5, 0, 0, 0)),
  (72, ([], .ior, 1, 0, 0, 0, 0)),
  (73, ([], .putfield 237, 3, 10, 10, 231, 0)),
  (76, ([], .iload_n 3, 1, 3, 0, 0, 0)),
  (77, ([], .aload 4, 2, 4, 0, 0, 0)),
  (79, ([], .getfield 242, 3, 3, 10, 667815, 0)),
  (82, ([], .isub, 1, 0, 0, 0, 0)),
  (83, ([], .invokestatic 243, 3, 3, 5, 99, 0)),
  (86, ([], .iconst 2, 1, 0, 0, 0, 2)),
  (87, ([], .if_icmp .le 14, 3, 101, 0, 0, 0)),
  (90, ([], .aload 4, 2, 4, 0, 0, 0)),
  (92, ([], .dup, 1, 0, 0, 0, 0)),
  (93, ([], .getfield 248, 3, 11, 10, 233, 0)),
  (96, ([], .iconst 1, 1, 0, 0, 0, 1)),
  (97, ([], .iadd, 1, 0, 0, 0, 0)),
  (98, ([], .putfield 248, 3, 11, 10, 233, 0)),
  (101, ([true, true, true, true, false, true], .aload 4, 2, 4, 0, 0, 0)),
  (103, ([], .getfield 248, 3, 11, 10, 233, 0)),
  (106, ([], .iconst 3, 1, 0, 0, 0, 3)),
  (107, ([], .if_icmp .lt 9, 3, 116, 0, 0, 0)),
  (110, ([], .aload 4, 2, 4, 0, 0, 0)),
  (112, ([], .iconst 1, 1, 0, 0, 0, 1)),
  (113, ([], .putfield 210, 3, 12, 11, 235, 0)),
  (116, ([], .aload 4, 2, 4, 0, 0, 0)),
  (118, ([], .getfield 248, 3, 11, 10, 233, 0)),
  (121, ([], .ireturn, 1, 0, 0, 0, 0))]
noncomputable def E_X6_fly : Kt := exL SKc SKn SKr CS (lkp T_X6_fly) [F_X6_seriesAt, F_X6_requireRange, F_X6_weeksFromTo, F_mabs] [] []
noncomputable def F_X6_fly : Fn := fun as h => gd (chkA 4 as) (E_X6_fly 0 (pad 6 as) [] h)
noncomputable def f_X6_fly_54 (h : Hp) : Res := E_X6_fly 54 [.retAddr 0, .retAddr 0, .retAddr 0, .retAddr 0, .retAddr 0, .retAddr 0] [] h
noncomputable def f_X6_fly_101 (a4 : Nat) (h : Hp) : Res := E_X6_fly 101 [.retAddr 0, .retAddr 0, .retAddr 0, .retAddr 0, .ref a4, .retAddr 0] [] h
set_option maxRecDepth 100000 in
set_option maxHeartbeats 4000000 in
theorem e_X6_fly_0 (x1 : Int32) (x2 : Int32) (x3 : Int32) (h : Hp) : F_X6_fly [.ref 0, .int x1, .int x2, .int x3] h = bR (F_X6_seriesAt [.ref 0, .int x1] h) (fun v2 h1 => gd (okc v2 5) (gd (okc v2 5) (bV (F_X6_requireRange [.int x2, .int (rd h1 v2 4), .int (rd h1 v2 5)] h1) (fun h3 => bV (F_X6_requireRange [.int x3, .int 0, .int 71] h3) (fun h4 => bI (F_X6_weeksFromTo [.int x2, .int x2] h4) (fun v6 h5 => gd (okc v2 5) (if (rd h5 v2 12) = 0 then gd (okc v2 5) (if ((rd h5 v2 10) &&& v6) = 0 then gd (okc v2 5) (gd (okc v2 5) (gd (okc v2 5) (if 2 < (if 0 ≤ (x3 - (rd (wr h5 v2 10 ((rd h5 v2 10) ||| v6)) v2 3)) then (x3 - (rd (wr h5 v2 10 ((rd h5 v2 10) ||| v6)) v2 3)) else 0 - (x3 - (rd (wr h5 v2 10 ((rd h5 v2 10) ||| v6)) v2 3))) then gd (okc v2 5) (gd (okc v2 5) (f_X6_fly_101 v2 (wr (wr h5 v2 10 ((rd h5 v2 10) ||| v6)) v2 11 ((rd (wr h5 v2 10 ((rd h5 v2 10) ||| v6)) v2 11) + 1)))) else f_X6_fly_101 v2 (wr h5 v2 10 ((rd h5 v2 10) ||| v6))))) else f_X6_fly_54 h5) else f_X6_fly_54 h5)) (hnk [])) (hnk [])) (hnk [])))) (hnk []) :=
  (exL_it SKc SKn SKr CS (lkp T_X6_fly) [F_X6_seriesAt, F_X6_requireRange, F_X6_weeksFromTo, F_mabs] [] [] [54, 101] 45 0 [.ref 0, .int x1, .int x2, .int x3, .retAddr 0, .retAddr 0] [] h).trans rfl
set_option maxRecDepth 100000 in
set_option maxHeartbeats 4000000 in
theorem e_X6_fly_54 (h : Hp) : f_X6_fly_54 h = thr 2 h :=
  (exL_it SKc SKn SKr CS (lkp T_X6_fly) [F_X6_seriesAt, F_X6_requireRange, F_X6_weeksFromTo, F_mabs] [] [] [54, 101] 1 54 [.retAddr 0, .retAddr 0, .retAddr 0, .retAddr 0, .retAddr 0, .retAddr 0] [] h).trans rfl
set_option maxRecDepth 100000 in
set_option maxHeartbeats 4000000 in
theorem e_X6_fly_101 (a4 : Nat) (h : Hp) : f_X6_fly_101 a4 h = gd (okc a4 5) (if (rd h a4 11) < 3 then gd (okc a4 5) (rtn (some (.int (rd h a4 11))) h) else gd (okc a4 5) (gd (okc a4 5) (rtn (some (.int (rd (wr h a4 12 1) a4 11))) (wr h a4 12 1)))) :=
  (exL_it SKc SKn SKr CS (lkp T_X6_fly) [F_X6_seriesAt, F_X6_requireRange, F_X6_weeksFromTo, F_mabs] [] [] [54, 101] 10 101 [.retAddr 0, .retAddr 0, .retAddr 0, .retAddr 0, .ref a4, .retAddr 0] [] h).trans rfl

def T_X6_close : List (Nat × Ent) := [(0, ([], .aload_n 0, 1, 0, 0, 0, 0)),
  (1, ([], .iload_n 1, 1, 1, 0, 0, 0)),
  (2, ([], .invokevirtual 56, 3, 0, 10, 0, 0)),
  (5, ([], .astore 4, 2, 4, 0, 0, 0)),
  (7, ([], .iload_n 2, 1, 2, 0, 0, 0)),
  (8, ([], .iconst 0, 1, 0, 0, 0, 0)),
  (9, ([], .bipush 6, 2, 0, 0, 0, 6)),
  (11, ([], .invokestatic 64, 3, 1, 12, 99, 0)),
  (14, ([], .iload_n 3, 1, 3, 0, 0, 0)),
  (15, ([], .iconst 0, 1, 0, 0, 0, 0)),
  (16, ([], .bipush 19, 2, 0, 0, 0, 19)),
  (18, ([], .invokestatic 64, 3, 1, 12, 99, 0)),
  (21, ([], .iload_n 3, 1, 3, 0, 0, 0)),
  (22, ([], .iload_n 3, 1, 3, 0, 0, 0)),
  (23, ([], .invokestatic 234, 3, 2, 9, 99, 0)),
  (26, ([], .istore 5, 2, 5, 0, 0, 0)),
  (28, ([], .aload 4, 2, 4, 0, 0, 0)),
  (30, ([], .iload_n 2, 1, 2, 0, 0, 0)),
  (31, ([], .invokevirtual 251, 3, 3, 9, 2, 0)),
  (34, ([], .iload 5, 2, 5, 0, 0, 0)),
  (36, ([], .iand, 1, 0, 0, 0, 0)),
  (37, ([], .ifCond .ne 7, 3, 44, 0, 0, 0)),
  (40, ([], .iconst 1, 1, 0, 0, 0, 1)),
  (41, ([], .goto 4, 3, 45, 0, 0, 0)),
  (44, ([], .iconst 0, 1, 0, 0, 0, 0)),
  (45, ([true, true, false, true, false, false, true], .istore 6, 2, 6, 0, 0, 0)),
  (47, ([], .aload 4, 2, 4, 0, 0, 0)),
  (49, ([], .iload_n 2, 1, 2, 0, 0, 0)),
  (50, ([], .iload 5, 2, 5, 0, 0, 0)),
  (52, ([], .invokevirtual 254, 3, 4, 12, 2, 0)),
  (55, ([], .iload 6, 2, 6, 0, 0, 0)),
  (57, ([], .ireturn, 1, 0, 1, 0, 0))]
noncomputable def E_X6_close : Kt := exL SKc SKn SKr CS (lkp T_X6_close) [F_X6_airportAt, F_X6_requireRange, F_X6_weeksFromTo, F_X0_closedWeeksOn, F_X0_closeWeeksOn] [] []
noncomputable def F_X6_close : Fn := fun as h => gd (chkA 4 as) (E_X6_close 0 (pad 7 as) [] h)
noncomputable def f_X6_close_45 (x2 : Int32) (a4 : Nat) (x5 : Int32) (s0 : Int32) (h : Hp) : Res := E_X6_close 45 [.retAddr 0, .retAddr 0, .int x2, .retAddr 0, .ref a4, .int x5, .retAddr 0] [.int s0] h
set_option maxRecDepth 100000 in
set_option maxHeartbeats 4000000 in
theorem e_X6_close_0 (x1 : Int32) (x2 : Int32) (x3 : Int32) (h : Hp) : F_X6_close [.ref 0, .int x1, .int x2, .int x3] h = bR (F_X6_airportAt [.ref 0, .int x1] h) (fun v2 h1 => bV (F_X6_requireRange [.int x2, .int 0, .int 6] h1) (fun h3 => bV (F_X6_requireRange [.int x3, .int 0, .int 19] h3) (fun h4 => bI (F_X6_weeksFromTo [.int x3, .int x3] h4) (fun v6 h5 => gd (okc v2 2) (bI (F_X0_closedWeeksOn [.ref v2, .int x2] h5) (fun v8 h7 => if (v8 &&& v6) = 0 then f_X6_close_45 x2 v2 v6 1 h7 else f_X6_close_45 x2 v2 v6 0 h7) (hnk []))) (hnk [])) (hnk [])) (hnk [])) (hnk []) :=
  (exL_it SKc SKn SKr CS (lkp T_X6_close) [F_X6_airportAt, F_X6_requireRange, F_X6_weeksFromTo, F_X0_closedWeeksOn, F_X0_closeWeeksOn] [] [] [45] 24 0 [.ref 0, .int x1, .int x2, .int x3, .retAddr 0, .retAddr 0, .retAddr 0] [] h).trans rfl
set_option maxRecDepth 100000 in
set_option maxHeartbeats 4000000 in
theorem e_X6_close_45 (x2 : Int32) (a4 : Nat) (x5 : Int32) (s0 : Int32) (h : Hp) : f_X6_close_45 x2 a4 x5 s0 h = gd (okc a4 2) (bV (F_X0_closeWeeksOn [.ref a4, .int x2, .int x5] h) (fun h1 => gd (okZ 1 s0) (rtn (some (.int s0)) h1)) (hnk [])) :=
  (exL_it SKc SKn SKr CS (lkp T_X6_close) [F_X6_airportAt, F_X6_requireRange, F_X6_weeksFromTo, F_X0_closedWeeksOn, F_X0_closeWeeksOn] [] [] [45] 7 45 [.retAddr 0, .retAddr 0, .int x2, .retAddr 0, .ref a4, .int x5, .retAddr 0] [.int s0] h).trans rfl

def T_J6_bitCount_0f7a4 : List (Nat × Ent) := [(0, ([], .iload_n 0, 1, 0, 0, 0, 0)),
  (1, ([], .iload_n 0, 1, 0, 0, 0, 0)),
  (2, ([], .iconst 1, 1, 0, 0, 0, 1)),
  (3, ([], .iushr, 1, 0, 0, 0, 0)),
  (4, ([], .ldc_w 265, 3, 0, 0, 711, 1431655765)),
  (7, ([], .iand, 1, 0, 0, 0, 0)),
  (8, ([], .isub, 1, 0, 0, 0, 0)),
  (9, ([], .istore_n 0, 1, 0, 0, 0, 0)),
  (10, ([], .iload_n 0, 1, 0, 0, 0, 0)),
  (11, ([], .ldc_w 266, 3, 0, 0, 712, 858993459)),
  (14, ([], .iand, 1, 0, 0, 0, 0)),
  (15, ([], .iload_n 0, 1, 0, 0, 0, 0)),
  (16, ([], .iconst 2, 1, 0, 0, 0, 2)),
  (17, ([], .iushr, 1, 0, 0, 0, 0)),
  (18, ([], .ldc_w 266, 3, 0, 0, 712, 858993459)),
  (21, ([], .iand, 1, 0, 0, 0, 0)),
  (22, ([], .iadd, 1, 0, 0, 0, 0)),
  (23, ([], .istore_n 0, 1, 0, 0, 0, 0)),
  (24, ([], .iload_n 0, 1, 0, 0, 0, 0)),
  (25, ([], .iload_n 0, 1, 0, 0, 0, 0)),
  (26, ([], .iconst 4, 1, 0, 0, 0, 4)),
  (27, ([], .iushr, 1, 0, 0, 0, 0)),
  (28, ([], .iadd, 1, 0, 0, 0, 0)),
  (29, ([], .ldc_w 267, 3, 0, 0, 713, 252645135)),
  (32, ([], .iand, 1, 0, 0, 0, 0)),
  (33, ([], .istore_n 0, 1, 0, 0, 0, 0)),
  (34, ([], .iload_n 0, 1, 0, 0, 0, 0)),
  (35, ([], .iload_n 0, 1, 0, 0, 0, 0)),
  (36, ([], .bipush 8, 2, 0, 0, 0, 8)),
  (38, ([], .iushr, 1, 0, 0, 0, 0)),
  (39, ([], .iadd, 1, 0, 0, 0, 0)),
  (40, ([], .istore_n 0, 1, 0, 0, 0, 0)),
  (41, ([], .iload_n 0, 1, 0, 0, 0, 0)),
  (42, ([], .iload_n 0, 1, 0, 0, 0, 0)),
  (43, ([], .bipush 16, 2, 0, 0, 0, 16)),
  (45, ([], .iushr, 1, 0, 0, 0, 0)),
  (46, ([], .iadd, 1, 0, 0, 0, 0)),
  (47, ([], .istore_n 0, 1, 0, 0, 0, 0)),
  (48, ([], .iload_n 0, 1, 0, 0, 0, 0)),
  (49, ([], .bipush 63, 2, 0, 0, 0, 63)),
  (51, ([], .iand, 1, 0, 0, 0, 0)),
  (52, ([], .ireturn, 1, 0, 0, 0, 0))]
noncomputable def E_J6_bitCount_0f7a4 : Kt := exL SKc SKn SKr CS (lkp T_J6_bitCount_0f7a4) [] [] []
noncomputable def F_J6_bitCount_0f7a4 : Fn := fun as h => gd (chkA 1 as) (E_J6_bitCount_0f7a4 0 (pad 1 as) [] h)
set_option maxRecDepth 100000 in
set_option maxHeartbeats 4000000 in
theorem e_J6_bitCount_0f7a4_0 (x0 : Int32) (h : Hp) : F_J6_bitCount_0f7a4 [.int x0] h = rtn (some (.int ((((((((x0 - (((x0.toUInt32 >>> (Int32.toUInt32 1 &&& Int32.toUInt32 31)).toInt32) &&& 1431655765)) &&& 858993459) + ((((x0 - (((x0.toUInt32 >>> (Int32.toUInt32 1 &&& Int32.toUInt32 31)).toInt32) &&& 1431655765)).toUInt32 >>> (Int32.toUInt32 2 &&& Int32.toUInt32 31)).toInt32) &&& 858993459)) + (((((x0 - (((x0.toUInt32 >>> (Int32.toUInt32 1 &&& Int32.toUInt32 31)).toInt32) &&& 1431655765)) &&& 858993459) + ((((x0 - (((x0.toUInt32 >>> (Int32.toUInt32 1 &&& Int32.toUInt32 31)).toInt32) &&& 1431655765)).toUInt32 >>> (Int32.toUInt32 2 &&& Int32.toUInt32 31)).toInt32) &&& 858993459)).toUInt32 >>> (Int32.toUInt32 4 &&& Int32.toUInt32 31)).toInt32)) &&& 252645135) + (((((((x0 - (((x0.toUInt32 >>> (Int32.toUInt32 1 &&& Int32.toUInt32 31)).toInt32) &&& 1431655765)) &&& 858993459) + ((((x0 - (((x0.toUInt32 >>> (Int32.toUInt32 1 &&& Int32.toUInt32 31)).toInt32) &&& 1431655765)).toUInt32 >>> (Int32.toUInt32 2 &&& Int32.toUInt32 31)).toInt32) &&& 858993459)) + (((((x0 - (((x0.toUInt32 >>> (Int32.toUInt32 1 &&& Int32.toUInt32 31)).toInt32) &&& 1431655765)) &&& 858993459) + ((((x0 - (((x0.toUInt32 >>> (Int32.toUInt32 1 &&& Int32.toUInt32 31)).toInt32) &&& 1431655765)).toUInt32 >>> (Int32.toUInt32 2 &&& Int32.toUInt32 31)).toInt32) &&& 858993459)).toUInt32 >>> (Int32.toUInt32 4 &&& Int32.toUInt32 31)).toInt32)) &&& 252645135).toUInt32 >>> (Int32.toUInt32 8 &&& Int32.toUInt32 31)).toInt32)) + ((((((((x0 - (((x0.toUInt32 >>> (Int32.toUInt32 1 &&& Int32.toUInt32 31)).toInt32) &&& 1431655765)) &&& 858993459) + ((((x0 - (((x0.toUInt32 >>> (Int32.toUInt32 1 &&& Int32.toUInt32 31)).toInt32) &&& 1431655765)).toUInt32 >>> (Int32.toUInt32 2 &&& Int32.toUInt32 31)).toInt32) &&& 858993459)) + (((((x0 - (((x0.toUInt32 >>> (Int32.toUInt32 1 &&& Int32.toUInt32 31)).toInt32) &&& 1431655765)) &&& 858993459) + ((((x0 - (((x0.toUInt32 >>> (Int32.toUInt32 1 &&& Int32.toUInt32 31)).toInt32) &&& 1431655765)).toUInt32 >>> (Int32.toUInt32 2 &&& Int32.toUInt32 31)).toInt32) &&& 858993459)).toUInt32 >>> (Int32.toUInt32 4 &&& Int32.toUInt32 31)).toInt32)) &&& 252645135) + (((((((x0 - (((x0.toUInt32 >>> (Int32.toUInt32 1 &&& Int32.toUInt32 31)).toInt32) &&& 1431655765)) &&& 858993459) + ((((x0 - (((x0.toUInt32 >>> (Int32.toUInt32 1 &&& Int32.toUInt32 31)).toInt32) &&& 1431655765)).toUInt32 >>> (Int32.toUInt32 2 &&& Int32.toUInt32 31)).toInt32) &&& 858993459)) + (((((x0 - (((x0.toUInt32 >>> (Int32.toUInt32 1 &&& Int32.toUInt32 31)).toInt32) &&& 1431655765)) &&& 858993459) + ((((x0 - (((x0.toUInt32 >>> (Int32.toUInt32 1 &&& Int32.toUInt32 31)).toInt32) &&& 1431655765)).toUInt32 >>> (Int32.toUInt32 2 &&& Int32.toUInt32 31)).toInt32) &&& 858993459)).toUInt32 >>> (Int32.toUInt32 4 &&& Int32.toUInt32 31)).toInt32)) &&& 252645135).toUInt32 >>> (Int32.toUInt32 8 &&& Int32.toUInt32 31)).toInt32)).toUInt32 >>> (Int32.toUInt32 16 &&& Int32.toUInt32 31)).toInt32)) &&& 63))) h :=
  (exL_it SKc SKn SKr CS (lkp T_J6_bitCount_0f7a4) [] [] [] [] 42 0 [.int x0] [] h).trans rfl

def T_X6_weeksUsed : List (Nat × Ent) := [(0, ([], .aload_n 0, 1, 0, 0, 0, 0)),
  (1, ([], .aload_n 1, 1, 1, 0, 0, 0)),
  (2, ([], .getfield 218, 3, 0, 10, 544907, 0)),
  (5, ([], .invokevirtual 56, 3, 0, 10, 0, 0)),
  (8, ([], .aload_n 1, 1, 1, 0, 0, 0)),
  (9, ([], .getfield 302, 3, 2, 10, 626847, 0)),
  (12, ([], .invokevirtual 251, 3, 1, 9, 2, 0)),
  (15, ([], .istore_n 2, 1, 2, 0, 0, 0)),
  (16, ([], .iload_n 2, 1, 2, 0, 0, 0)),
  (17, ([], .aload_n 1, 1, 1, 0, 0, 0)),
  (18, ([], .getfield 237, 3, 10, 10, 231, 0)),
  (21, ([], .ior, 1, 0, 0, 0, 0)),
  (22, ([], .aload_n 1, 1, 1, 0, 0, 0)),
  (23, ([], .getfield 217, 3, 4, 10, 712877, 0)),
  (26, ([], .aload_n 1, 1, 1, 0, 0, 0)),
  (27, ([], .getfield 214, 3, 5, 10, 741556, 0)),
  (30, ([], .invokestatic 234, 3, 2, 9, 99, 0)),
  (33, ([], .iand, 1, 0, 0, 0, 0)),
  (34, ([], .invokestatic 428, 3, 3, 5, 99, 0)),
  (37, ([], .ireturn, 1, 0, 0, 0, 0))]
noncomputable def E_X6_weeksUsed : Kt := exL SKc SKn SKr CS (lkp T_X6_weeksUsed) [F_X6_airportAt, F_X0_closedWeeksOn, F_X6_weeksFromTo, F_J6_bitCount_0f7a4] [] []
noncomputable def F_X6_weeksUsed : Fn := fun as h => gd (chkA 2 as) (E_X6_weeksUsed 0 (pad 3 as) [] h)
set_option maxRecDepth 100000 in
set_option maxHeartbeats 4000000 in
theorem e_X6_weeksUsed_0 (a1 : Nat) (h : Hp) : F_X6_weeksUsed [.ref 0, .ref a1] h = gd (okc a1 5) (bR (F_X6_airportAt [.ref 0, .int (rd h a1 0)] h) (fun v2 h1 => gd (okc a1 5) (gd (okc v2 2) (bI (F_X0_closedWeeksOn [.ref v2, .int (rd h1 a1 2)] h1) (fun v4 h3 => gd (okc a1 5) (gd (okc a1 5) (gd (okc a1 5) (bI (F_X6_weeksFromTo [.int (rd h3 a1 4), .int (rd h3 a1 5)] h3) (fun v6 h5 => bI (F_J6_bitCount_0f7a4 [.int ((v4 ||| (rd h3 a1 10)) &&& v6)] h5) (fun v8 h7 => rtn (some (.int v8)) h7) (hnk [])) (hnk []))))) (hnk [])))) (hnk [])) :=
  (exL_it SKc SKn SKr CS (lkp T_X6_weeksUsed) [F_X6_airportAt, F_X0_closedWeeksOn, F_X6_weeksFromTo, F_J6_bitCount_0f7a4] [] [] [] 20 0 [.ref 0, .ref a1, .retAddr 0] [] h).trans rfl

def T_X6_earnsRight : List (Nat × Ent) := [(0, ([], .aload_n 1, 1, 1, 0, 0, 0)),
  (1, ([], .invokevirtual 433, 3, 0, 5, 5, 0)),
  (4, ([], .istore_n 2, 1, 2, 0, 0, 0)),
  (5, ([], .aload_n 1, 1, 1, 0, 0, 0)),
  (6, ([], .getfield 210, 3, 12, 10, 235, 0)),
  (9, ([], .ifCond .ne 27, 3, 36, 0, 0, 0)),
  (12, ([], .iload_n 2, 1, 2, 0, 0, 0)),
  (13, ([], .iconst 5, 1, 0, 0, 0, 5)),
  (14, ([], .if_icmp .lt 22, 3, 36, 0, 0, 0)),
  (17, ([], .aload_n 0, 1, 0, 0, 0, 0)),
  (18, ([], .aload_n 1, 1, 1, 0, 0, 0)),
  (19, ([], .invokevirtual 306, 3, 1, 9, 0, 0)),
  (22, ([], .bipush 100, 2, 0, 0, 0, 100)),
  (24, ([], .imul, 1, 0, 0, 0, 0)),
  (25, ([], .iload_n 2, 1, 2, 0, 0, 0)),
  (26, ([], .bipush 80, 2, 0, 0, 0, 80)),
  (28, ([], .imul, 1, 0, 0, 0, 0)),
  (29, ([], .if_icmp .lt 7, 3, 36, 0, 0, 0)),
  (32, ([], .iconst 1, 1, 0, 0, 0, 1)),
  (33, ([], .goto 4, 3, 37, 0, 0, 0)),
  (36, ([], .iconst 0, 1, 0, 0, 0, 0)),
  (37, ([], .ireturn, 1, 0, 1, 0, 0))]
noncomputable def E_X6_earnsRight : Kt := exL SKc SKn SKr CS (lkp T_X6_earnsRight) [F_X5_weeks, F_X6_weeksUsed] [] []
noncomputable def F_X6_earnsRight : Fn := fun as h => gd (chkA 2 as) (E_X6_earnsRight 0 (pad 3 as) [] h)
set_option maxRecDepth 100000 in
set_option maxHeartbeats 4000000 in
theorem e_X6_earnsRight_0 (a1 : Nat) (h : Hp) : F_X6_earnsRight [.ref 0, .ref a1] h = gd (okc a1 5) (bI (F_X5_weeks [.ref a1] h) (fun v2 h1 => gd (okc a1 5) (if (rd h1 a1 12) = 0 then if v2 < 5 then rtn (some (.int 0)) h1 else bI (F_X6_weeksUsed [.ref 0, .ref a1] h1) (fun v4 h3 => if (v4 * 100) < (v2 * 80) then rtn (some (.int 0)) h3 else rtn (some (.int 1)) h3) (hnk []) else rtn (some (.int 0)) h1)) (hnk [])) :=
  (exL_it SKc SKn SKr CS (lkp T_X6_earnsRight) [F_X5_weeks, F_X6_weeksUsed] [] [] [] 21 0 [.ref 0, .ref a1, .retAddr 0] [] h).trans rfl

def T_X6_turnSeriesIntoRights : List (Nat × Ent) := [(0, ([], .iconst 0, 1, 0, 0, 0, 0)),
  (1, ([], .istore_n 1, 1, 1, 0, 0, 0)),
  (2, ([], .iconst 0, 1, 0, 0, 0, 0)),
  (3, ([], .istore_n 2, 1, 2, 0, 0, 0)),
  (4, ([false, false, false, true], .iload_n 2, 1, 2, 0, 0, 0)),
  (5, ([], .aload_n 0, 1, 0, 0, 0, 0)),
  (6, ([], .getfield 268, 3, 11, 0, 288, 0)),
  (9, ([], .if_icmp .ge 45, 3, 54, 0, 0, 0)),
  (12, ([], .iload_n 1, 1, 1, 0, 0, 0)),
  (13, ([], .aload_n 0, 1, 0, 0, 0, 0)),
  (14, ([], .getfield 33, 3, 4, 1, 281, 0)),
  (17, ([], .arraylength, 1, 0, 0, 0, 0)),
  (18, ([], .if_icmp .ge 36, 3, 54, 0, 0, 0)),
  (21, ([], .aload_n 0, 1, 0, 0, 0, 0)),
  (22, ([], .iload_n 2, 1, 2, 0, 0, 0)),
  (23, ([], .invokevirtual 206, 3, 0, 10, 0, 0)),
  (26, ([], .astore_n 3, 1, 3, 0, 0, 0)),
  (27, ([], .aload_n 0, 1, 0, 0, 0, 0)),
  (28, ([], .aload_n 3, 1, 3, 0, 0, 0)),
  (29, ([], .invokevirtual 312, 3, 1, 9, 0, 0)),
  (32, ([], .ifCond .eq 16, 3, 48, 0, 0, 0)),
  (35, ([], .aload_n 0, 1, 0, 0, 0, 0)),
  (36, ([], .getfield 33, 3, 4, 1, 281, 0)),
  (39, ([], .iload_n 1, 1, 1, 0, 0, 0)),
  (40, ([], .aaload, 1, 0, 0, 0, 0)),
  (41, ([], .aload_n 3, 1, 3, 0, 0, 0)),
  (42, ([], .invokevirtual 434, 3, 2, 8, 6, 0)),
  (45, ([], .iinc 1 1, 3, 1, 0, 0, 1)),
  (48, ([false, false, false, true], .iinc 2 1, 3, 2, 0, 0, 1)),
  (51, ([], .goto (-47), 3, 4, 0, 0, 0)),
  (54, ([], .iload_n 1, 1, 1, 0, 0, 0)),
  (55, ([], .ireturn, 1, 0, 0, 0, 0))]
noncomputable def E_X6_turnSeriesIntoRights : Kt := exL SKc SKn SKr CS (lkp T_X6_turnSeriesIntoRights) [F_X6_seriesAt, F_X6_earnsRight, F_X2_begin] [] []
noncomputable def F_X6_turnSeriesIntoRights : Fn := fun as h => gd (chkA 1 as) (E_X6_turnSeriesIntoRights 0 (pad 4 as) [] h)
noncomputable def f_X6_turnSeriesIntoRights_4 (x1 : Int32) (x2 : Int32) (h : Hp) : Res := E_X6_turnSeriesIntoRights 4 [.ref 0, .int x1, .int x2, .retAddr 0] [] h
noncomputable def f_X6_turnSeriesIntoRights_48 (x1 : Int32) (x2 : Int32) (h : Hp) : Res := E_X6_turnSeriesIntoRights 48 [.ref 0, .int x1, .int x2, .retAddr 0] [] h
set_option maxRecDepth 100000 in
set_option maxHeartbeats 4000000 in
theorem e_X6_turnSeriesIntoRights_0 (h : Hp) : F_X6_turnSeriesIntoRights [.ref 0] h = f_X6_turnSeriesIntoRights_4 0 0 h :=
  (exL_it SKc SKn SKr CS (lkp T_X6_turnSeriesIntoRights) [F_X6_seriesAt, F_X6_earnsRight, F_X2_begin] [] [] [4, 48] 4 0 [.ref 0, .retAddr 0, .retAddr 0, .retAddr 0] [] h).trans rfl
set_option maxRecDepth 100000 in
set_option maxHeartbeats 4000000 in
theorem e_X6_turnSeriesIntoRights_4 (x1 : Int32) (x2 : Int32) (h : Hp) : f_X6_turnSeriesIntoRights_4 x1 x2 h = if x2 < (rd h 0 11) then if x1 < 60 then bR (F_X6_seriesAt [.ref 0, .int x2] h) (fun v2 h1 => bI (F_X6_earnsRight [.ref 0, .ref v2] h1) (fun v4 h3 => if v4 = 0 then f_X6_turnSeriesIntoRights_48 x1 x2 h3 else gd (inb x1 60) (gd (okc (SKr 5 x1.toNatClampNeg) 6) (bV (F_X2_begin [.ref (SKr 5 x1.toNatClampNeg), .ref v2] h3) (fun h5 => f_X6_turnSeriesIntoRights_48 (x1 + 1) x2 h5) (hnk [])))) (hnk [])) (hnk []) else rtn (some (.int x1)) h else rtn (some (.int x1)) h :=
  (exL_it SKc SKn SKr CS (lkp T_X6_turnSeriesIntoRights) [F_X6_seriesAt, F_X6_earnsRight, F_X2_begin] [] [] [4, 48] 24 4 [.ref 0, .int x1, .int x2, .retAddr 0] [] h).trans rfl
set_option maxRecDepth 100000 in
set_option maxHeartbeats 4000000 in
theorem e_X6_turnSeriesIntoRights_48 (x1 : Int32) (x2 : Int32) (h : Hp) : f_X6_turnSeriesIntoRights_48 x1 x2 h = f_X6_turnSeriesIntoRights_4 x1 (x2 + 1) h :=
  (exL_it SKc SKn SKr CS (lkp T_X6_turnSeriesIntoRights) [F_X6_seriesAt, F_X6_earnsRight, F_X2_begin] [] [] [4, 48] 2 48 [.ref 0, .int x1, .int x2, .retAddr 0] [] h).trans rfl

def T_X6_end : List (Nat × Ent) := [(0, ([], .aload_n 0, 1, 0, 0, 0, 0)),
  (1, ([], .getfield 257, 3, 14, 0, 291, 0)),
  (4, ([], .bipush 20, 2, 0, 0, 0, 20)),
  (6, ([], .if_icmp .lt 14, 3, 20, 0, 0, 0)),
  (9, ([], .new 72, 3, 2, 0, 0, 0)),
  (20, ([], .aload_n 0, 1, 0, 0, 0, 0)),
  (21, ([], .aload_n 0, 1, 0, 0, 0, 0)),
  (22, ([], .invokevirtual 262, 3, 0, 5, 0, 0)),
  (25, ([], .putfield 265, 3, 12, 0, 289, 0)),
  (28, ([], .aload_n 0, 1, 0, 0, 0, 0)),
  (29, ([], .iconst 0, 1, 0, 0, 0, 0)),
  (30, ([], .putfield 117, 3, 10, 0, 287, 0)),
  (33, ([], .aload_n 0, 1, 0, 0, 0, 0)),
  (34, ([], .iconst 0, 1, 0, 0, 0, 0)),
  (35, ([], .putfield 268, 3, 11, 0, 288, 0)),
  (38, ([], .aload_n 0, 1, 0, 0, 0, 0)),
  (39, ([], .iconst 0, 1, 0, 0, 0, 0)),
  (40, ([], .putfield 271, 3, 13, 0, 290, 0)),
  (43, ([], .iconst 0, 1, 0, 0, 0, 0)),
  (44, ([], .istore_n 1, 1, 1, 0, 0, 0)),
  (45, ([false, false], .iload_n 1, 1, 1, 0, 0, 0)),
  (46, ([], .aload_n 0, 1, 0, 0, 0, 0)),
  (47, ([], .getfield 11, 3, 0, 1, 277, 0)),
  (50, ([], .arraylength, 1, 0, 0, 0, 0)),
  (51, ([], .if_icmp .ge 17, 3, 68, 0, 0, 0)),
  (54, ([], .aload_n 0, 1, 0, 0, 0, 0)),
  (55, ([], .iload_n 1, 1, 1, 0, 0, 0)),
  (56, ([], .invokevirtual 56, 3, 1, 10, 0, 0)),
  (59, ([], .invokevirtual 274, 3, 2, 4, 2, 0)),
  (62, ([], .iinc 1 1, 3, 1, 0, 0, 1)),
  (65, ([], .goto (-20), 3, 45, 0, 0, 0)),
  (68, ([], .aload_n 0, 1, 0, 0, 0, 0)),
  (69, ([], .dup, 1, 0, 0, 0, 0)),
  (70, ([], .getfield 257, 3, 14, 0, 291, 0)),
  (73, ([], .iconst 1, 1, 0, 0, 0, 1)),
  (74, ([], .iadd, 1, 0, 0, 0, 0)),
  (75, ([], .putfield 257, 3, 14, 0, 291, 0)),
  (78, ([], .aload_n 0, 1, 0, 0, 0, 0)),
  (79, ([], .getfield 265, 3, 12, 0, 289, 0)),
  (82, ([], .ireturn, 1, 0, 0, 0, 0))]
noncomputable def E_X6_end : Kt := exL SKc SKn SKr CS (lkp T_X6_end) [F_X6_turnSeriesIntoRights, F_X6_airportAt, F_X0_openAllDays] [] []
noncomputable def F_X6_end : Fn := fun as h => gd (chkA 1 as) (E_X6_end 0 (pad 2 as) [] h)
noncomputable def f_X6_end_45 (x1 : Int32) (h : Hp) : Res := E_X6_end 45 [.ref 0, .int x1] [] h
set_option maxRecDepth 100000 in
set_option maxHeartbeats 4000000 in
theorem e_X6_end_0 (h : Hp) : F_X6_end [.ref 0] h = if (rd h 0 14) < 20 then bI (F_X6_turnSeriesIntoRights [.ref 0] h) (fun v2 h1 => f_X6_end_45 0 (wr (wr (wr (wr h1 0 12 v2) 0 10 0) 0 11 0) 0 13 0)) (hnk []) else thr 2 h :=
  (exL_it SKc SKn SKr CS (lkp T_X6_end) [F_X6_turnSeriesIntoRights, F_X6_airportAt, F_X0_openAllDays] [] [] [45] 19 0 [.ref 0, .retAddr 0] [] h).trans rfl
set_option maxRecDepth 100000 in
set_option maxHeartbeats 4000000 in
theorem e_X6_end_45 (x1 : Int32) (h : Hp) : f_X6_end_45 x1 h = if x1 < 4 then bR (F_X6_airportAt [.ref 0, .int x1] h) (fun v2 h1 => gd (okc v2 2) (bV (F_X0_openAllDays [.ref v2] h1) (fun h3 => f_X6_end_45 (x1 + 1) h3) (hnk []))) (hnk []) else rtn (some (.int (rd h 0 12))) (wr h 0 14 ((rd h 0 14) + 1)) :=
  (exL_it SKc SKn SKr CS (lkp T_X6_end) [F_X6_turnSeriesIntoRights, F_X6_airportAt, F_X0_openAllDays] [] [] [45] 14 45 [.ref 0, .int x1] [] h).trans rfl

def T_X6_season : List (Nat × Ent) := [(0, ([], .aload_n 0, 1, 0, 0, 0, 0)),
  (1, ([], .getfield 257, 3, 14, 0, 291, 0)),
  (4, ([], .ireturn, 1, 0, 0, 0, 0))]
noncomputable def E_X6_season : Kt := exL SKc SKn SKr CS (lkp T_X6_season) [] [] []
noncomputable def F_X6_season : Fn := fun as h => gd (chkA 1 as) (E_X6_season 0 (pad 1 as) [] h)
set_option maxRecDepth 100000 in
set_option maxHeartbeats 4000000 in
theorem e_X6_season_0 (h : Hp) : F_X6_season [.ref 0] h = rtn (some (.int (rd h 0 14))) h :=
  (exL_it SKc SKn SKr CS (lkp T_X6_season) [] [] [] [] 3 0 [.ref 0] [] h).trans rfl

def T_X6_slotsBetween : List (Nat × Ent) := [(0, ([], .iconst 0, 1, 0, 0, 0, 0)),
  (1, ([], .istore 7, 2, 7, 0, 0, 0)),
  (3, ([], .iconst 0, 1, 0, 0, 0, 0)),
  (4, ([], .istore 8, 2, 8, 0, 0, 0)),
  (6, ([false, false, false, false, false, false, false, false, false, true], .iload 8, 2, 8, 0, 0, 0)),
  (8, ([], .aload_n 0, 1, 0, 0, 0, 0)),
  (9, ([], .getfield 268, 3, 11, 0, 288, 0)),
  (12, ([], .if_icmp .ge 53, 3, 65, 0, 0, 0)),
  (15, ([], .aload_n 0, 1, 0, 0, 0, 0)),
  (16, ([], .iload 8, 2, 8, 0, 0, 0)),
  (18, ([], .invokevirtual 206, 3, 0, 10, 0, 0)),
  (21, ([], .astore 9, 2, 9, 0, 0, 0)),
  (23, ([], .aload 9, 2, 9, 0, 0, 0)),
  (25, ([], .iload_n 1, 1, 1, 0, 0, 0)),
  (26, ([], .iload_n 2, 1, 2, 0, 0, 0)),
  (27, ([], .iload_n 3, 1, 3, 0, 0, 0)),
  (28, ([], .invokevirtual 381, 3, 1, 17, 5, 0)),
  (31, ([], .ifCond .eq 28, 3, 59, 0, 0, 0)),
  (34, ([], .aload 9, 2, 9, 0, 0, 0)),
  (36, ([], .iload 4, 2, 4, 0, 0, 0)),
  (38, ([], .invokevirtual 388, 3, 2, 9, 5, 0)),
  (41, ([], .ifCond .eq 18, 3, 59, 0, 0, 0)),
  (44, ([], .aload 9, 2, 9, 0, 0, 0)),
  (46, ([], .iload 5, 2, 5, 0, 0, 0)),
  (48, ([], .iload 6, 2, 6, 0, 0, 0)),
  (50, ([], .invokevirtual 385, 3, 3, 13, 5, 0)),
  (53, ([], .ifCond .eq 6, 3, 59, 0, 0, 0)),
  (56, ([], .iinc 7 1, 3, 7, 0, 0, 1)),
  (59, ([false, false, false, false, false, false, false, false, false, true], .iinc 8 1, 3, 8, 0, 0, 1)),
  (62, ([], .goto (-56), 3, 6, 0, 0, 0)),
  (65, ([], .iload 7, 2, 7, 0, 0, 0)),
  (67, ([], .ireturn, 1, 0, 0, 0, 0))]
noncomputable def E_X6_slotsBetween : Kt := exL SKc SKn SKr CS (lkp T_X6_slotsBetween) [F_X6_seriesAt, F_X4_isOn, F_X5_lastsIn, F_X4_isBetween] [] []
noncomputable def F_X6_slotsBetween : Fn := fun as h => gd (chkA 7 as) (E_X6_slotsBetween 0 (pad 10 as) [] h)
noncomputable def f_X6_slotsBetween_6 (x1 : Int32) (x2 : Int32) (x3 : Int32) (x4 : Int32) (x5 : Int32) (x6 : Int32) (x7 : Int32) (x8 : Int32) (h : Hp) : Res := E_X6_slotsBetween 6 [.ref 0, .int x1, .int x2, .int x3, .int x4, .int x5, .int x6, .int x7, .int x8, .retAddr 0] [] h
noncomputable def f_X6_slotsBetween_59 (x1 : Int32) (x2 : Int32) (x3 : Int32) (x4 : Int32) (x5 : Int32) (x6 : Int32) (x7 : Int32) (x8 : Int32) (h : Hp) : Res := E_X6_slotsBetween 59 [.ref 0, .int x1, .int x2, .int x3, .int x4, .int x5, .int x6, .int x7, .int x8, .retAddr 0] [] h
set_option maxRecDepth 100000 in
set_option maxHeartbeats 4000000 in
theorem e_X6_slotsBetween_0 (x1 : Int32) (x2 : Int32) (x3 : Int32) (x4 : Int32) (x5 : Int32) (x6 : Int32) (h : Hp) : F_X6_slotsBetween [.ref 0, .int x1, .int x2, .int x3, .int x4, .int x5, .int x6] h = f_X6_slotsBetween_6 x1 x2 x3 x4 x5 x6 0 0 h :=
  (exL_it SKc SKn SKr CS (lkp T_X6_slotsBetween) [F_X6_seriesAt, F_X4_isOn, F_X5_lastsIn, F_X4_isBetween] [] [] [6, 59] 4 0 [.ref 0, .int x1, .int x2, .int x3, .int x4, .int x5, .int x6, .retAddr 0, .retAddr 0, .retAddr 0] [] h).trans rfl
set_option maxRecDepth 100000 in
set_option maxHeartbeats 4000000 in
theorem e_X6_slotsBetween_6 (x1 : Int32) (x2 : Int32) (x3 : Int32) (x4 : Int32) (x5 : Int32) (x6 : Int32) (x7 : Int32) (x8 : Int32) (h : Hp) : f_X6_slotsBetween_6 x1 x2 x3 x4 x5 x6 x7 x8 h = if x8 < (rd h 0 11) then bR (F_X6_seriesAt [.ref 0, .int x8] h) (fun v2 h1 => gd (okc v2 5) (bI (F_X4_isOn [.ref v2, .int x1, .int x2, .int x3] h1) (fun v4 h3 => if v4 = 0 then f_X6_slotsBetween_59 x1 x2 x3 x4 x5 x6 x7 x8 h3 else gd (okc v2 5) (bI (F_X5_lastsIn [.ref v2, .int x4] h3) (fun v6 h5 => if v6 = 0 then f_X6_slotsBetween_59 x1 x2 x3 x4 x5 x6 x7 x8 h5 else gd (okc v2 5) (bI (F_X4_isBetween [.ref v2, .int x5, .int x6] h5) (fun v8 h7 => if v8 = 0 then f_X6_slotsBetween_59 x1 x2 x3 x4 x5 x6 x7 x8 h7 else f_X6_slotsBetween_59 x1 x2 x3 x4 x5 x6 (x7 + 1) x8 h7) (hnk []))) (hnk []))) (hnk []))) (hnk []) else rtn (some (.int x7)) h :=
  (exL_it SKc SKn SKr CS (lkp T_X6_slotsBetween) [F_X6_seriesAt, F_X4_isOn, F_X5_lastsIn, F_X4_isBetween] [] [] [6, 59] 24 6 [.ref 0, .int x1, .int x2, .int x3, .int x4, .int x5, .int x6, .int x7, .int x8, .retAddr 0] [] h).trans rfl
set_option maxRecDepth 100000 in
set_option maxHeartbeats 4000000 in
theorem e_X6_slotsBetween_59 (x1 : Int32) (x2 : Int32) (x3 : Int32) (x4 : Int32) (x5 : Int32) (x6 : Int32) (x7 : Int32) (x8 : Int32) (h : Hp) : f_X6_slotsBetween_59 x1 x2 x3 x4 x5 x6 x7 x8 h = f_X6_slotsBetween_6 x1 x2 x3 x4 x5 x6 x7 (x8 + 1) h :=
  (exL_it SKc SKn SKr CS (lkp T_X6_slotsBetween) [F_X6_seriesAt, F_X4_isOn, F_X5_lastsIn, F_X4_isBetween] [] [] [6, 59] 2 59 [.ref 0, .int x1, .int x2, .int x3, .int x4, .int x5, .int x6, .int x7, .int x8, .retAddr 0] [] h).trans rfl

def T_X6_load : List (Nat × Ent) := [(0, ([], .aload_n 0, 1, 0, 0, 0, 0)),
  (1, ([], .iload_n 1, 1, 1, 0, 0, 0)),
  (2, ([], .invokevirtual 56, 3, 0, 10, 0, 0)),
  (5, ([], .pop, 1, 0, 0, 0, 0)),
  (6, ([], .iload_n 2, 1, 2, 0, 0, 0)),
  (7, ([], .invokestatic 60, 3, 1, 4, 99, 0)),
  (10, ([], .iload_n 3, 1, 3, 0, 0, 0)),
  (11, ([], .iconst 0, 1, 0, 0, 0, 0)),
  (12, ([], .bipush 6, 2, 0, 0, 0, 6)),
  (14, ([], .invokestatic 64, 3, 2, 12, 99, 0)),
  (17, ([], .iload 4, 2, 4, 0, 0, 0)),
  (19, ([], .iconst 0, 1, 0, 0, 0, 0)),
  (20, ([], .bipush 19, 2, 0, 0, 0, 19)),
  (22, ([], .invokestatic 64, 3, 2, 12, 99, 0)),
  (25, ([], .iload 5, 2, 5, 0, 0, 0)),
  (27, ([], .iconst 0, 1, 0, 0, 0, 0)),
  (28, ([], .bipush 71, 2, 0, 0, 0, 71)),
  (30, ([], .invokestatic 64, 3, 2, 12, 99, 0)),
  (33, ([], .iload 6, 2, 6, 0, 0, 0)),
  (35, ([], .iload 5, 2, 5, 0, 0, 0)),
  (37, ([], .bipush 71, 2, 0, 0, 0, 71)),
  (39, ([], .invokestatic 64, 3, 2, 12, 99, 0)),
  (42, ([], .aload_n 0, 1, 0, 0, 0, 0)),
  (43, ([], .iload_n 1, 1, 1, 0, 0, 0)),
  (44, ([], .iload_n 2, 1, 2, 0, 0, 0)),
  (45, ([], .iload_n 3, 1, 3, 0, 0, 0)),
  (46, ([], .iload 4, 2, 4, 0, 0, 0)),
  (48, ([], .iload 5, 2, 5, 0, 0, 0)),
  (50, ([], .iload 6, 2, 6, 0, 0, 0)),
  (52, ([], .invokevirtual 277, 3, 3, 29, 0, 0)),
  (55, ([], .ireturn, 1, 0, 0, 0, 0))]
noncomputable def E_X6_load : Kt := exL SKc SKn SKr CS (lkp T_X6_load) [F_X6_airportAt, F_X6_requireKindOrEither, F_X6_requireRange, F_X6_slotsBetween] [] []
noncomputable def F_X6_load : Fn := fun as h => gd (chkA 7 as) (E_X6_load 0 (pad 7 as) [] h)
set_option maxRecDepth 100000 in
set_option maxHeartbeats 4000000 in
theorem e_X6_load_0 (x1 : Int32) (x2 : Int32) (x3 : Int32) (x4 : Int32) (x5 : Int32) (x6 : Int32) (h : Hp) : F_X6_load [.ref 0, .int x1, .int x2, .int x3, .int x4, .int x5, .int x6] h = bR (F_X6_airportAt [.ref 0, .int x1] h) (fun v2 h1 => bV (F_X6_requireKindOrEither [.int x2] h1) (fun h3 => bV (F_X6_requireRange [.int x3, .int 0, .int 6] h3) (fun h4 => bV (F_X6_requireRange [.int x4, .int 0, .int 19] h4) (fun h5 => bV (F_X6_requireRange [.int x5, .int 0, .int 71] h5) (fun h6 => bV (F_X6_requireRange [.int x6, .int x5, .int 71] h6) (fun h7 => bI (F_X6_slotsBetween [.ref 0, .int x1, .int x2, .int x3, .int x4, .int x5, .int x6] h7) (fun v9 h8 => rtn (some (.int v9)) h8) (hnk [])) (hnk [])) (hnk [])) (hnk [])) (hnk [])) (hnk [])) (hnk []) :=
  (exL_it SKc SKn SKr CS (lkp T_X6_load) [F_X6_airportAt, F_X6_requireKindOrEither, F_X6_requireRange, F_X6_slotsBetween] [] [] [] 31 0 [.ref 0, .int x1, .int x2, .int x3, .int x4, .int x5, .int x6] [] h).trans rfl

def T_X6_worst : List (Nat × Ent) := [(0, ([], .aload_n 0, 1, 0, 0, 0, 0)),
  (1, ([], .iload_n 1, 1, 1, 0, 0, 0)),
  (2, ([], .invokevirtual 56, 3, 0, 10, 0, 0)),
  (5, ([], .iload_n 2, 1, 2, 0, 0, 0)),
  (6, ([], .invokevirtual 79, 3, 1, 10, 2, 0)),
  (9, ([], .astore 5, 2, 5, 0, 0, 0)),
  (11, ([], .iload_n 3, 1, 3, 0, 0, 0)),
  (12, ([], .iconst 0, 1, 0, 0, 0, 0)),
  (13, ([], .bipush 6, 2, 0, 0, 0, 6)),
  (15, ([], .invokestatic 64, 3, 2, 12, 99, 0)),
  (18, ([], .iload 4, 2, 4, 0, 0, 0)),
  (20, ([], .iconst 0, 1, 0, 0, 0, 0)),
  (21, ([], .bipush 19, 2, 0, 0, 0, 19)),
  (23, ([], .invokestatic 64, 3, 2, 12, 99, 0)),
  (26, ([], .iconst 0, 1, 0, 0, 0, 0)),
  (27, ([], .istore 6, 2, 6, 0, 0, 0)),
  (29, ([], .iconst 0, 1, 0, 0, 0, 0)),
  (30, ([], .istore 7, 2, 7, 0, 0, 0)),
  (32, ([false, false, true, false, false, false, false, false, true], .iload 7, 2, 7, 0, 0, 0)),
  (34, ([], .bipush 72, 2, 0, 0, 0, 72)),
  (36, ([], .aload 5, 2, 5, 0, 0, 0)),
  (38, ([], .getfield 88, 3, 1, 6, 76, 0)),
  (41, ([], .isub, 1, 0, 0, 0, 0)),
  (42, ([], .if_icmp .gt 45, 3, 87, 0, 0, 0)),
  (45, ([], .iload 7, 2, 7, 0, 0, 0)),
  (47, ([], .aload 5, 2, 5, 0, 0, 0)),
  (49, ([], .getfield 88, 3, 1, 6, 76, 0)),
  (52, ([], .iadd, 1, 0, 0, 0, 0)),
  (53, ([], .iconst 1, 1, 0, 0, 0, 1)),
  (54, ([], .isub, 1, 0, 0, 0, 0)),
  (55, ([], .istore 8, 2, 8, 0, 0, 0)),
  (57, ([], .iload 6, 2, 6, 0, 0, 0)),
  (59, ([], .aload_n 0, 1, 0, 0, 0, 0)),
  (60, ([], .iload_n 1, 1, 1, 0, 0, 0)),
  (61, ([], .aload 5, 2, 5, 0, 0, 0)),
  (63, ([], .getfield 83, 3, 0, 6, 75, 0)),
  (66, ([], .iload_n 3, 1, 3, 0, 0, 0)),
  (67, ([], .iload 4, 2, 4, 0, 0, 0)),
  (69, ([], .iload 7, 2, 7, 0, 0, 0)),
  (71, ([], .iload 8, 2, 8, 0, 0, 0)),
  (73, ([], .invokevirtual 277, 3, 3, 29, 0, 0)),
  (76, ([], .invokestatic 281, 3, 4, 9, 99, 0)),
  (79, ([], .istore 6, 2, 6, 0, 0, 0)),
  (81, ([], .iinc 7 1, 3, 7, 0, 0, 1)),
  (84, ([], .goto (-52), 3, 32, 0, 0, 0)),
  (87, ([], .iload 6, 2, 6, 0, 0, 0)),
  (89, ([], .ireturn, 1, 0, 0, 0, 0))]
noncomputable def E_X6_worst : Kt := exL SKc SKn SKr CS (lkp T_X6_worst) [F_X6_airportAt, F_X0_ruleAt, F_X6_requireRange, F_X6_slotsBetween, F_mmax] [] []
noncomputable def F_X6_worst : Fn := fun as h => gd (chkA 5 as) (E_X6_worst 0 (pad 9 as) [] h)
noncomputable def f_X6_worst_32 (x1 : Int32) (x3 : Int32) (x4 : Int32) (a5 : Nat) (x6 : Int32) (x7 : Int32) (h : Hp) : Res := E_X6_worst 32 [.ref 0, .int x1, .retAddr 0, .int x3, .int x4, .ref a5, .int x6, .int x7, .retAddr 0] [] h
set_option maxRecDepth 100000 in
set_option maxHeartbeats 4000000 in
theorem e_X6_worst_0 (x1 : Int32) (x2 : Int32) (x3 : Int32) (x4 : Int32) (h : Hp) : F_X6_worst [.ref 0, .int x1, .int x2, .int x3, .int x4] h = bR (F_X6_airportAt [.ref 0, .int x1] h) (fun v2 h1 => gd (okc v2 2) (bR (F_X0_ruleAt [.ref v2, .int x2] h1) (fun v4 h3 => bV (F_X6_requireRange [.int x3, .int 0, .int 6] h3) (fun h5 => bV (F_X6_requireRange [.int x4, .int 0, .int 19] h5) (fun h6 => f_X6_worst_32 x1 x3 x4 v4 0 0 h6) (hnk [])) (hnk [])) (hnk []))) (hnk []) :=
  (exL_it SKc SKn SKr CS (lkp T_X6_worst) [F_X6_airportAt, F_X0_ruleAt, F_X6_requireRange, F_X6_slotsBetween, F_mmax] [] [] [32] 18 0 [.ref 0, .int x1, .int x2, .int x3, .int x4, .retAddr 0, .retAddr 0, .retAddr 0, .retAddr 0] [] h).trans rfl
set_option maxRecDepth 100000 in
set_option maxHeartbeats 4000000 in
theorem e_X6_worst_32 (x1 : Int32) (x3 : Int32) (x4 : Int32) (a5 : Nat) (x6 : Int32) (x7 : Int32) (h : Hp) : f_X6_worst_32 x1 x3 x4 a5 x6 x7 h = gd (okc a5 3) (if (72 - (rd h a5 1)) < x7 then rtn (some (.int x6)) h else gd (okc a5 3) (gd (okc a5 3) (bI (F_X6_slotsBetween [.ref 0, .int x1, .int (rd h a5 0), .int x3, .int x4, .int x7, .int ((x7 + (rd h a5 1)) - 1)] h) (fun v2 h1 => f_X6_worst_32 x1 x3 x4 a5 (if x6 < v2 then v2 else x6) (x7 + 1) h1) (hnk [])))) :=
  (exL_it SKc SKn SKr CS (lkp T_X6_worst) [F_X6_airportAt, F_X0_ruleAt, F_X6_requireRange, F_X6_slotsBetween, F_mmax] [] [] [32] 27 32 [.ref 0, .int x1, .retAddr 0, .int x3, .int x4, .ref a5, .int x6, .int x7, .retAddr 0] [] h).trans rfl

def T_X6_noise : List (Nat × Ent) := [(0, ([], .aload_n 0, 1, 0, 0, 0, 0)),
  (1, ([], .iload_n 1, 1, 1, 0, 0, 0)),
  (2, ([], .invokevirtual 56, 3, 0, 10, 0, 0)),
  (5, ([], .pop, 1, 0, 0, 0, 0)),
  (6, ([], .aload_n 0, 1, 0, 0, 0, 0)),
  (7, ([], .iload_n 1, 1, 1, 0, 0, 0)),
  (8, ([], .invokevirtual 284, 3, 1, 9, 0, 0)),
  (11, ([], .ireturn, 1, 0, 0, 0, 0))]
noncomputable def E_X6_noise : Kt := exL SKc SKn SKr CS (lkp T_X6_noise) [F_X6_airportAt, F_X6_noiseByNight] [] []
noncomputable def F_X6_noise : Fn := fun as h => gd (chkA 2 as) (E_X6_noise 0 (pad 2 as) [] h)
set_option maxRecDepth 100000 in
set_option maxHeartbeats 4000000 in
theorem e_X6_noise_0 (x1 : Int32) (h : Hp) : F_X6_noise [.ref 0, .int x1] h = bR (F_X6_airportAt [.ref 0, .int x1] h) (fun v2 h1 => bI (F_X6_noiseByNight [.ref 0, .int x1] h1) (fun v4 h3 => rtn (some (.int v4)) h3) (hnk [])) (hnk []) :=
  (exL_it SKc SKn SKr CS (lkp T_X6_noise) [F_X6_airportAt, F_X6_noiseByNight] [] [] [] 8 0 [.ref 0, .int x1] [] h).trans rfl

def T_X6_requestOf : List (Nat × Ent) := [(0, ([], .aload_n 0, 1, 0, 0, 0, 0)),
  (1, ([], .iload_n 1, 1, 1, 0, 0, 0)),
  (2, ([], .invokevirtual 128, 3, 0, 10, 0, 0)),
  (5, ([], .astore_n 3, 1, 3, 0, 0, 0)),
  (6, ([], .iload_n 2, 1, 2, 0, 0, 0)),
  (7, ([], .tableswitch 99 0 5 #[37, 42, 62, 67, 72, 77], 37, 106, 0, 0, 0)),
  (44, ([], .aload_n 3, 1, 3, 0, 0, 0)),
  (45, ([], .getfield 184, 3, 9, 8, 123, 0)),
  (48, ([], .ireturn, 1, 0, 0, 0, 0)),
  (49, ([], .aload_n 3, 1, 3, 0, 0, 0)),
  (50, ([], .getfield 184, 3, 9, 8, 123, 0)),
  (53, ([], .ifCond .ne 11, 3, 64, 0, 0, 0)),
  (56, ([], .aload_n 0, 1, 0, 0, 0, 0)),
  (57, ([], .aload_n 3, 1, 3, 0, 0, 0)),
  (58, ([], .invokevirtual 287, 3, 2, 9, 0, 0)),
  (61, ([], .goto 7, 3, 68, 0, 0, 0)),
  (64, ([], .aload_n 3, 1, 3, 0, 0, 0)),
  (65, ([], .getfield 291, 3, 10, 8, 125, 0)),
  (68, ([], .ireturn, 1, 0, 0, 0, 0)),
  (69, ([], .aload_n 3, 1, 3, 0, 0, 0)),
  (70, ([], .getfield 294, 3, 11, 8, 127, 0)),
  (73, ([], .ireturn, 1, 0, 0, 0, 0)),
  (74, ([], .aload_n 3, 1, 3, 0, 0, 0)),
  (75, ([], .getfield 196, 3, 12, 8, 129, 0)),
  (78, ([], .ireturn, 1, 0, 0, 0, 0)),
  (79, ([], .aload_n 3, 1, 3, 0, 0, 0)),
  (80, ([], .getfield 169, 3, 13, 8, 131, 0)),
  (83, ([], .ireturn, 1, 0, 0, 0, 0)),
  (84, ([], .aload_n 3, 1, 3, 0, 0, 0)),
  (85, ([], .getfield 184, 3, 9, 8, 123, 0)),
  (88, ([], .iconst 1, 1, 0, 0, 0, 1)),
  (89, ([], .if_icmp .ne 7, 3, 96, 0, 0, 0)),
  (92, ([], .iconst 0, 1, 0, 0, 0, 0)),
  (93, ([], .goto 12, 3, 105, 0, 0, 0)),
  (96, ([], .aload_n 0, 1, 0, 0, 0, 0)),
  (97, ([], .aload_n 3, 1, 3, 0, 0, 0)),
  (98, ([], .aload_n 3, 1, 3, 0, 0, 0)),
  (99, ([], .getfield 139, 3, 3, 8, 680101, 0)),
  (102, ([], .invokevirtual 199, 3, 1, 13, 0, 0)),
  (105, ([], .ireturn, 1, 0, 0, 0, 0)),
  (106, ([], .new 158, 3, 1, 0, 0, 0))]
noncomputable def E_X6_requestOf : Kt := exL SKc SKn SKr CS (lkp T_X6_requestOf) [F_X6_requestAt, F_X6_reasonAgainst, F_X6_sortNow] [] [[44, 49, 69, 74, 79, 84]]
noncomputable def F_X6_requestOf : Fn := fun as h => gd (chkA 3 as) (E_X6_requestOf 0 (pad 4 as) [] h)
set_option maxRecDepth 100000 in
set_option maxHeartbeats 4000000 in
theorem e_X6_requestOf_0 (x1 : Int32) (x2 : Int32) (h : Hp) : F_X6_requestOf [.ref 0, .int x1, .int x2] h = bR (F_X6_requestAt [.ref 0, .int x1] h) (fun v2 h1 => if x2 = Int32.ofNat 0 then gd (okc v2 4) (rtn (some (.int (rd h1 v2 9))) h1) else if x2 = Int32.ofNat 1 then gd (okc v2 4) (if (rd h1 v2 9) = 0 then bI (F_X6_sortNow [.ref 0, .ref v2] h1) (fun v6 h5 => rtn (some (.int v6)) h5) (hnk []) else gd (okc v2 4) (rtn (some (.int (rd h1 v2 10))) h1)) else if x2 = Int32.ofNat 2 then gd (okc v2 4) (rtn (some (.int (rd h1 v2 11))) h1) else if x2 = Int32.ofNat 3 then gd (okc v2 4) (rtn (some (.int (rd h1 v2 12))) h1) else if x2 = Int32.ofNat 4 then gd (okc v2 4) (rtn (some (.int (rd h1 v2 13))) h1) else if x2 = Int32.ofNat 5 then gd (okc v2 4) (if (rd h1 v2 9) = 1 then rtn (some (.int 0)) h1 else gd (okc v2 4) (bI (F_X6_reasonAgainst [.ref 0, .ref v2, .int (rd h1 v2 3)] h1) (fun v4 h3 => rtn (some (.int v4)) h3) (hnk []))) else thr 1 h1) (hnk []) :=
  (exL_it SKc SKn SKr CS (lkp T_X6_requestOf) [F_X6_requestAt, F_X6_reasonAgainst, F_X6_sortNow] [] [[44, 49, 69, 74, 79, 84]] [] 16 0 [.ref 0, .int x1, .int x2, .retAddr 0] [] h).trans rfl

def T_X6_ahead : List (Nat × Ent) := [(0, ([], .aload_n 0, 1, 0, 0, 0, 0)),
  (1, ([], .iload_n 1, 1, 1, 0, 0, 0)),
  (2, ([], .invokevirtual 128, 3, 0, 10, 0, 0)),
  (5, ([], .astore_n 2, 1, 2, 0, 0, 0)),
  (6, ([], .aload_n 2, 1, 2, 0, 0, 0)),
  (7, ([], .invokevirtual 298, 3, 1, 5, 4, 0)),
  (10, ([], .ifCond .ne 5, 3, 15, 0, 0, 0)),
  (13, ([], .iconst (-1), 1, 0, 0, 0, (-1))),
  (14, ([], .ireturn, 1, 0, 0, 0, 0)),
  (15, ([], .iconst 0, 1, 0, 0, 0, 0)),
  (16, ([], .istore_n 3, 1, 3, 0, 0, 0)),
  (17, ([], .iconst 0, 1, 0, 0, 0, 0)),
  (18, ([], .istore 4, 2, 4, 0, 0, 0)),
  (20, ([false, false, false, false, false, true], .iload 4, 2, 4, 0, 0, 0)),
  (22, ([], .aload_n 0, 1, 0, 0, 0, 0)),
  (23, ([], .getfield 271, 3, 13, 0, 290, 0)),
  (26, ([], .if_icmp .ge 66, 3, 92, 0, 0, 0)),
  (29, ([], .iload 4, 2, 4, 0, 0, 0)),
  (31, ([], .aload_n 0, 1, 0, 0, 0, 0)),
  (32, ([], .getfield 37, 3, 5, 1, 282, 0)),
  (35, ([], .arraylength, 1, 0, 0, 0, 0)),
  (36, ([], .if_icmp .ge 56, 3, 92, 0, 0, 0)),
  (39, ([], .aload_n 0, 1, 0, 0, 0, 0)),
  (40, ([], .getfield 37, 3, 5, 1, 282, 0)),
  (43, ([], .iload 4, 2, 4, 0, 0, 0)),
  (45, ([], .iaload, 1, 0, 0, 0, 0)),
  (46, ([], .iload_n 1, 1, 1, 0, 0, 0)),
  (47, ([], .if_icmp .eq 45, 3, 92, 0, 0, 0)),
  (50, ([], .aload_n 0, 1, 0, 0, 0, 0)),
  (51, ([], .aload_n 0, 1, 0, 0, 0, 0)),
  (52, ([], .getfield 37, 3, 5, 1, 282, 0)),
  (55, ([], .iload 4, 2, 4, 0, 0, 0)),
  (57, ([], .iaload, 1, 0, 0, 0, 0)),
  (58, ([], .invokevirtual 128, 3, 0, 10, 0, 0)),
  (61, ([], .astore 5, 2, 5, 0, 0, 0)),
  (63, ([], .aload 5, 2, 5, 0, 0, 0)),
  (65, ([], .invokevirtual 298, 3, 1, 5, 4, 0)),
  (68, ([], .ifCond .eq 18, 3, 86, 0, 0, 0)),
  (71, ([], .aload 5, 2, 5, 0, 0, 0)),
  (73, ([], .getfield 132, 3, 0, 8, 565385, 0)),
  (76, ([], .aload_n 2, 1, 2, 0, 0, 0)),
  (77, ([], .getfield 132, 3, 0, 8, 565385, 0)),
  (80, ([], .if_icmp .ne 6, 3, 86, 0, 0, 0)),
  (83, ([], .iinc 3 1, 3, 3, 0, 0, 1)),
  (86, ([false, false, false, false, false, true], .iinc 4 1, 3, 4, 0, 0, 1)),
  (89, ([], .goto (-69), 3, 20, 0, 0, 0)),
  (92, ([], .iload_n 3, 1, 3, 0, 0, 0)),
  (93, ([], .ireturn, 1, 0, 0, 0, 0))]
noncomputable def E_X6_ahead : Kt := exL SKc SKn SKr CS (lkp T_X6_ahead) [F_X6_requestAt, F_X1_isInQueue] [] []
noncomputable def F_X6_ahead : Fn := fun as h => gd (chkA 2 as) (E_X6_ahead 0 (pad 6 as) [] h)
noncomputable def f_X6_ahead_20 (x1 : Int32) (a2 : Nat) (x3 : Int32) (x4 : Int32) (h : Hp) : Res := E_X6_ahead 20 [.ref 0, .int x1, .ref a2, .int x3, .int x4, .retAddr 0] [] h
noncomputable def f_X6_ahead_86 (x1 : Int32) (a2 : Nat) (x3 : Int32) (x4 : Int32) (h : Hp) : Res := E_X6_ahead 86 [.ref 0, .int x1, .ref a2, .int x3, .int x4, .retAddr 0] [] h
set_option maxRecDepth 100000 in
set_option maxHeartbeats 4000000 in
theorem e_X6_ahead_0 (x1 : Int32) (h : Hp) : F_X6_ahead [.ref 0, .int x1] h = bR (F_X6_requestAt [.ref 0, .int x1] h) (fun v2 h1 => gd (okc v2 4) (bI (F_X1_isInQueue [.ref v2] h1) (fun v4 h3 => if v4 = 0 then rtn (some (.int (-1))) h3 else f_X6_ahead_20 x1 v2 0 0 h3) (hnk []))) (hnk []) :=
  (exL_it SKc SKn SKr CS (lkp T_X6_ahead) [F_X6_requestAt, F_X1_isInQueue] [] [] [20, 86] 11 0 [.ref 0, .int x1, .retAddr 0, .retAddr 0, .retAddr 0, .retAddr 0] [] h).trans rfl
set_option maxRecDepth 100000 in
set_option maxHeartbeats 4000000 in
theorem e_X6_ahead_20 (x1 : Int32) (a2 : Nat) (x3 : Int32) (x4 : Int32) (h : Hp) : f_X6_ahead_20 x1 a2 x3 x4 h = if x4 < (rd h 0 13) then if x4 < 60 then gd (inb x4 60) (if (rd h 6 x4.toNatClampNeg) = x1 then rtn (some (.int x3)) h else gd (inb x4 60) (bR (F_X6_requestAt [.ref 0, .int (rd h 6 x4.toNatClampNeg)] h) (fun v2 h1 => gd (okc v2 4) (bI (F_X1_isInQueue [.ref v2] h1) (fun v4 h3 => if v4 = 0 then f_X6_ahead_86 x1 a2 x3 x4 h3 else gd (okc v2 4) (gd (okc a2 4) (if (rd h3 v2 0) = (rd h3 a2 0) then f_X6_ahead_86 x1 a2 (x3 + 1) x4 h3 else f_X6_ahead_86 x1 a2 x3 x4 h3))) (hnk []))) (hnk []))) else rtn (some (.int x3)) h else rtn (some (.int x3)) h :=
  (exL_it SKc SKn SKr CS (lkp T_X6_ahead) [F_X6_requestAt, F_X1_isInQueue] [] [] [20, 86] 31 20 [.ref 0, .int x1, .ref a2, .int x3, .int x4, .retAddr 0] [] h).trans rfl
set_option maxRecDepth 100000 in
set_option maxHeartbeats 4000000 in
theorem e_X6_ahead_86 (x1 : Int32) (a2 : Nat) (x3 : Int32) (x4 : Int32) (h : Hp) : f_X6_ahead_86 x1 a2 x3 x4 h = f_X6_ahead_20 x1 a2 x3 (x4 + 1) h :=
  (exL_it SKc SKn SKr CS (lkp T_X6_ahead) [F_X6_requestAt, F_X1_isInQueue] [] [] [20, 86] 2 86 [.ref 0, .int x1, .ref a2, .int x3, .int x4, .retAddr 0] [] h).trans rfl

def T_X6_seriesOf : List (Nat × Ent) := [(0, ([], .aload_n 0, 1, 0, 0, 0, 0)),
  (1, ([], .iload_n 1, 1, 1, 0, 0, 0)),
  (2, ([], .invokevirtual 206, 3, 0, 10, 0, 0)),
  (5, ([], .astore_n 3, 1, 3, 0, 0, 0)),
  (6, ([], .iload_n 2, 1, 2, 0, 0, 0)),
  (7, ([], .tableswitch 130 0 11 #[61, 66, 71, 76, 81, 86, 91, 96, 101, 106, 112, 117], 61, 137, 0, 0, 0)),
  (68, ([], .aload_n 3, 1, 3, 0, 0, 0)),
  (69, ([], .getfield 226, 3, 8, 10, 227, 0)),
  (72, ([], .ireturn, 1, 0, 0, 0, 0)),
  (73, ([], .aload_n 3, 1, 3, 0, 0, 0)),
  (74, ([], .getfield 229, 3, 9, 10, 229, 0)),
  (77, ([], .ireturn, 1, 0, 0, 0, 0)),
  (78, ([], .aload_n 3, 1, 3, 0, 0, 0)),
  (79, ([], .getfield 218, 3, 0, 10, 544907, 0)),
  (82, ([], .ireturn, 1, 0, 0, 0, 0)),
  (83, ([], .aload_n 3, 1, 3, 0, 0, 0)),
  (84, ([], .getfield 301, 3, 1, 10, 594069, 0)),
  (87, ([], .ireturn, 1, 0, 0, 0, 0)),
  (88, ([], .aload_n 3, 1, 3, 0, 0, 0)),
  (89, ([], .getfield 302, 3, 2, 10, 626847, 0)),
  (92, ([], .ireturn, 1, 0, 0, 0, 0)),
  (93, ([], .aload_n 3, 1, 3, 0, 0, 0)),
  (94, ([], .getfield 242, 3, 3, 10, 667815, 0)),
  (97, ([], .ireturn, 1, 0, 0, 0, 0)),
  (98, ([], .aload_n 3, 1, 3, 0, 0, 0)),
  (99, ([], .getfield 217, 3, 4, 10, 712877, 0)),
  (102, ([], .ireturn, 1, 0, 0, 0, 0)),
  (103, ([], .aload_n 3, 1, 3, 0, 0, 0)),
  (104, ([], .getfield 214, 3, 5, 10, 741556, 0)),
  (107, ([], .ireturn, 1, 0, 0, 0, 0)),
  (108, ([], .aload_n 3, 1, 3, 0, 0, 0)),
  (109, ([], .getfield 303, 3, 7, 10, 224, 0)),
  (112, ([], .ireturn, 1, 0, 0, 0, 0)),
  (113, ([], .aload_n 0, 1, 0, 0, 0, 0)),
  (114, ([], .aload_n 3, 1, 3, 0, 0, 0)),
  (115, ([], .invokevirtual 306, 3, 1, 9, 0, 0)),
  (118, ([], .ireturn, 1, 0, 0, 0, 0)),
  (119, ([], .aload_n 3, 1, 3, 0, 0, 0)),
  (120, ([], .getfield 248, 3, 11, 10, 233, 0)),
  (123, ([], .ireturn, 1, 0, 0, 0, 0)),
  (124, ([], .aload_n 3, 1, 3, 0, 0, 0)),
  (125, ([], .getfield 210, 3, 12, 10, 235, 0)),
  (128, ([], .ifCond .eq 7, 3, 135, 0, 0, 0)),
  (131, ([], .iconst 1, 1, 0, 0, 0, 1)),
  (132, ([], .goto 4, 3, 136, 0, 0, 0)),
  (135, ([], .iconst 0, 1, 0, 0, 0, 0)),
  (136, ([], .ireturn, 1, 0, 0, 0, 0)),
  (137, ([], .new 158, 3, 1, 0, 0, 0))]
noncomputable def E_X6_seriesOf : Kt := exL SKc SKn SKr CS (lkp T_X6_seriesOf) [F_X6_seriesAt, F_X6_weeksUsed] [] [[68, 73, 78, 83, 88, 93, 98, 103, 108, 113, 119, 124]]
noncomputable def F_X6_seriesOf : Fn := fun as h => gd (chkA 3 as) (E_X6_seriesOf 0 (pad 4 as) [] h)
set_option maxRecDepth 100000 in
set_option maxHeartbeats 4000000 in
theorem e_X6_seriesOf_0 (x1 : Int32) (x2 : Int32) (h : Hp) : F_X6_seriesOf [.ref 0, .int x1, .int x2] h = bR (F_X6_seriesAt [.ref 0, .int x1] h) (fun v2 h1 => if x2 = Int32.ofNat 0 then gd (okc v2 5) (rtn (some (.int (rd h1 v2 8))) h1) else if x2 = Int32.ofNat 1 then gd (okc v2 5) (rtn (some (.int (rd h1 v2 9))) h1) else if x2 = Int32.ofNat 2 then gd (okc v2 5) (rtn (some (.int (rd h1 v2 0))) h1) else if x2 = Int32.ofNat 3 then gd (okc v2 5) (rtn (some (.int (rd h1 v2 1))) h1) else if x2 = Int32.ofNat 4 then gd (okc v2 5) (rtn (some (.int (rd h1 v2 2))) h1) else if x2 = Int32.ofNat 5 then gd (okc v2 5) (rtn (some (.int (rd h1 v2 3))) h1) else if x2 = Int32.ofNat 6 then gd (okc v2 5) (rtn (some (.int (rd h1 v2 4))) h1) else if x2 = Int32.ofNat 7 then gd (okc v2 5) (rtn (some (.int (rd h1 v2 5))) h1) else if x2 = Int32.ofNat 8 then gd (okc v2 5) (rtn (some (.int (rd h1 v2 7))) h1) else if x2 = Int32.ofNat 9 then bI (F_X6_weeksUsed [.ref 0, .ref v2] h1) (fun v4 h3 => rtn (some (.int v4)) h3) (hnk []) else if x2 = Int32.ofNat 10 then gd (okc v2 5) (rtn (some (.int (rd h1 v2 11))) h1) else if x2 = Int32.ofNat 11 then gd (okc v2 5) (if (rd h1 v2 12) = 0 then rtn (some (.int 0)) h1 else rtn (some (.int 1)) h1) else thr 1 h1) (hnk []) :=
  (exL_it SKc SKn SKr CS (lkp T_X6_seriesOf) [F_X6_seriesAt, F_X6_weeksUsed] [] [[68, 73, 78, 83, 88, 93, 98, 103, 108, 113, 119, 124]] [] 12 0 [.ref 0, .int x1, .int x2, .retAddr 0] [] h).trans rfl

def T_X6_earns : List (Nat × Ent) := [(0, ([], .aload_n 0, 1, 0, 0, 0, 0)),
  (1, ([], .aload_n 0, 1, 0, 0, 0, 0)),
  (2, ([], .iload_n 1, 1, 1, 0, 0, 0)),
  (3, ([], .invokevirtual 206, 3, 0, 10, 0, 0)),
  (6, ([], .invokevirtual 312, 3, 1, 9, 0, 0)),
  (9, ([], .ireturn, 1, 0, 1, 0, 0))]
noncomputable def E_X6_earns : Kt := exL SKc SKn SKr CS (lkp T_X6_earns) [F_X6_seriesAt, F_X6_earnsRight] [] []
noncomputable def F_X6_earns : Fn := fun as h => gd (chkA 2 as) (E_X6_earns 0 (pad 2 as) [] h)
set_option maxRecDepth 100000 in
set_option maxHeartbeats 4000000 in
theorem e_X6_earns_0 (x1 : Int32) (h : Hp) : F_X6_earns [.ref 0, .int x1] h = bR (F_X6_seriesAt [.ref 0, .int x1] h) (fun v2 h1 => bI (F_X6_earnsRight [.ref 0, .ref v2] h1) (fun v4 h3 => gd (okZ 1 v4) (rtn (some (.int v4)) h3)) (hnk [])) (hnk []) :=
  (exL_it SKc SKn SKr CS (lkp T_X6_earns) [F_X6_seriesAt, F_X6_earnsRight] [] [] [] 6 0 [.ref 0, .int x1] [] h).trans rfl

def T_X6_rights : List (Nat × Ent) := [(0, ([], .aload_n 0, 1, 0, 0, 0, 0)),
  (1, ([], .getfield 265, 3, 12, 0, 289, 0)),
  (4, ([], .ireturn, 1, 0, 0, 0, 0))]
noncomputable def E_X6_rights : Kt := exL SKc SKn SKr CS (lkp T_X6_rights) [] [] []
noncomputable def F_X6_rights : Fn := fun as h => gd (chkA 1 as) (E_X6_rights 0 (pad 1 as) [] h)
set_option maxRecDepth 100000 in
set_option maxHeartbeats 4000000 in
theorem e_X6_rights_0 (h : Hp) : F_X6_rights [.ref 0] h = rtn (some (.int (rd h 0 12))) h :=
  (exL_it SKc SKn SKr CS (lkp T_X6_rights) [] [] [] [] 3 0 [.ref 0] [] h).trans rfl

def T_X6_rightOf : List (Nat × Ent) := [(0, ([], .aload_n 0, 1, 0, 0, 0, 0)),
  (1, ([], .iload_n 1, 1, 1, 0, 0, 0)),
  (2, ([], .invokevirtual 109, 3, 0, 10, 0, 0)),
  (5, ([], .astore_n 3, 1, 3, 0, 0, 0)),
  (6, ([], .iload_n 2, 1, 2, 0, 0, 0)),
  (7, ([], .tableswitch 94 0 8 #[49, 54, 59, 64, 69, 74, 79, 84, 89], 49, 101, 0, 0, 0)),
  (56, ([], .aload_n 3, 1, 3, 0, 0, 0)),
  (57, ([], .getfield 316, 3, 7, 12, 262, 0)),
  (60, ([], .ireturn, 1, 0, 0, 0, 0)),
  (61, ([], .aload_n 3, 1, 3, 0, 0, 0)),
  (62, ([], .getfield 319, 3, 0, 12, 553100, 0)),
  (65, ([], .ireturn, 1, 0, 0, 0, 0)),
  (66, ([], .aload_n 3, 1, 3, 0, 0, 0)),
  (67, ([], .getfield 320, 3, 1, 12, 585878, 0)),
  (70, ([], .ireturn, 1, 0, 0, 0, 0)),
  (71, ([], .aload_n 3, 1, 3, 0, 0, 0)),
  (72, ([], .getfield 321, 3, 2, 12, 635040, 0)),
  (75, ([], .ireturn, 1, 0, 0, 0, 0)),
  (76, ([], .aload_n 3, 1, 3, 0, 0, 0)),
  (77, ([], .getfield 322, 3, 3, 12, 692392, 0)),
  (80, ([], .ireturn, 1, 0, 0, 0, 0)),
  (81, ([], .aload_n 3, 1, 3, 0, 0, 0)),
  (82, ([], .getfield 323, 3, 4, 12, 721071, 0)),
  (85, ([], .ireturn, 1, 0, 0, 0, 0)),
  (86, ([], .aload_n 3, 1, 3, 0, 0, 0)),
  (87, ([], .getfield 324, 3, 5, 12, 749750, 0)),
  (90, ([], .ireturn, 1, 0, 0, 0, 0)),
  (91, ([], .aload_n 3, 1, 3, 0, 0, 0)),
  (92, ([], .getfield 325, 3, 6, 12, 770235, 0)),
  (95, ([], .ireturn, 1, 0, 0, 0, 0)),
  (96, ([], .aload_n 3, 1, 3, 0, 0, 0)),
  (97, ([], .getfield 155, 3, 8, 12, 264, 0)),
  (100, ([], .ireturn, 1, 0, 0, 0, 0)),
  (101, ([], .new 158, 3, 1, 0, 0, 0))]
noncomputable def E_X6_rightOf : Kt := exL SKc SKn SKr CS (lkp T_X6_rightOf) [F_X6_rightAt] [] [[56, 61, 66, 71, 76, 81, 86, 91, 96]]
noncomputable def F_X6_rightOf : Fn := fun as h => gd (chkA 3 as) (E_X6_rightOf 0 (pad 4 as) [] h)
set_option maxRecDepth 100000 in
set_option maxHeartbeats 4000000 in
theorem e_X6_rightOf_0 (x1 : Int32) (x2 : Int32) (h : Hp) : F_X6_rightOf [.ref 0, .int x1, .int x2] h = bR (F_X6_rightAt [.ref 0, .int x1] h) (fun v2 h1 => if x2 = Int32.ofNat 0 then gd (okc v2 6) (rtn (some (.int (rd h1 v2 7))) h1) else if x2 = Int32.ofNat 1 then gd (okc v2 6) (rtn (some (.int (rd h1 v2 0))) h1) else if x2 = Int32.ofNat 2 then gd (okc v2 6) (rtn (some (.int (rd h1 v2 1))) h1) else if x2 = Int32.ofNat 3 then gd (okc v2 6) (rtn (some (.int (rd h1 v2 2))) h1) else if x2 = Int32.ofNat 4 then gd (okc v2 6) (rtn (some (.int (rd h1 v2 3))) h1) else if x2 = Int32.ofNat 5 then gd (okc v2 6) (rtn (some (.int (rd h1 v2 4))) h1) else if x2 = Int32.ofNat 6 then gd (okc v2 6) (rtn (some (.int (rd h1 v2 5))) h1) else if x2 = Int32.ofNat 7 then gd (okc v2 6) (rtn (some (.int (rd h1 v2 6))) h1) else if x2 = Int32.ofNat 8 then gd (okc v2 6) (rtn (some (.int (rd h1 v2 8))) h1) else thr 1 h1) (hnk []) :=
  (exL_it SKc SKn SKr CS (lkp T_X6_rightOf) [F_X6_rightAt] [] [[56, 61, 66, 71, 76, 81, 86, 91, 96]] [] 9 0 [.ref 0, .int x1, .int x2, .retAddr 0] [] h).trans rfl

def T_X6_isNew : List (Nat × Ent) := [(0, ([], .aload_n 0, 1, 0, 0, 0, 0)),
  (1, ([], .iload_n 1, 1, 1, 0, 0, 0)),
  (2, ([], .invokevirtual 103, 3, 0, 9, 0, 0)),
  (5, ([], .istore_n 3, 1, 3, 0, 0, 0)),
  (6, ([], .aload_n 0, 1, 0, 0, 0, 0)),
  (7, ([], .iload_n 2, 1, 2, 0, 0, 0)),
  (8, ([], .invokevirtual 56, 3, 1, 10, 0, 0)),
  (11, ([], .pop, 1, 0, 0, 0, 0)),
  (12, ([], .aload_n 0, 1, 0, 0, 0, 0)),
  (13, ([], .iload_n 3, 1, 3, 0, 0, 0)),
  (14, ([], .iload_n 2, 1, 2, 0, 0, 0)),
  (15, ([], .invokevirtual 328, 3, 2, 13, 0, 0)),
  (18, ([], .ireturn, 1, 0, 1, 0, 0))]
noncomputable def E_X6_isNew : Kt := exL SKc SKn SKr CS (lkp T_X6_isNew) [F_X6_groupAt, F_X6_airportAt, F_X6_isGroupNew] [] []
noncomputable def F_X6_isNew : Fn := fun as h => gd (chkA 3 as) (E_X6_isNew 0 (pad 4 as) [] h)
set_option maxRecDepth 100000 in
set_option maxHeartbeats 4000000 in
theorem e_X6_isNew_0 (x1 : Int32) (x2 : Int32) (h : Hp) : F_X6_isNew [.ref 0, .int x1, .int x2] h = bI (F_X6_groupAt [.ref 0, .int x1] h) (fun v2 h1 => bR (F_X6_airportAt [.ref 0, .int x2] h1) (fun v4 h3 => bI (F_X6_isGroupNew [.ref 0, .int v2, .int x2] h3) (fun v6 h5 => gd (okZ 1 v6) (rtn (some (.int v6)) h5)) (hnk [])) (hnk [])) (hnk []) :=
  (exL_it SKc SKn SKr CS (lkp T_X6_isNew) [F_X6_groupAt, F_X6_airportAt, F_X6_isGroupNew] [] [] [] 13 0 [.ref 0, .int x1, .int x2, .retAddr 0] [] h).trans rfl

def T_X6_seriesThatAreGone : List (Nat × Ent) := [(0, ([], .iconst 0, 1, 0, 0, 0, 0)),
  (1, ([], .istore_n 1, 1, 1, 0, 0, 0)),
  (2, ([], .iconst 0, 1, 0, 0, 0, 0)),
  (3, ([], .istore_n 2, 1, 2, 0, 0, 0)),
  (4, ([false, false, false], .iload_n 2, 1, 2, 0, 0, 0)),
  (5, ([], .aload_n 0, 1, 0, 0, 0, 0)),
  (6, ([], .getfield 268, 3, 11, 0, 288, 0)),
  (9, ([], .if_icmp .ge 23, 3, 32, 0, 0, 0)),
  (12, ([], .aload_n 0, 1, 0, 0, 0, 0)),
  (13, ([], .iload_n 2, 1, 2, 0, 0, 0)),
  (14, ([], .invokevirtual 206, 3, 0, 10, 0, 0)),
  (17, ([], .getfield 210, 3, 12, 10, 235, 0)),
  (20, ([], .ifCond .eq 6, 3, 26, 0, 0, 0)),
  (23, ([], .iinc 1 1, 3, 1, 0, 0, 1)),
  (26, ([false, false, false], .iinc 2 1, 3, 2, 0, 0, 1)),
  (29, ([], .goto (-25), 3, 4, 0, 0, 0)),
  (32, ([], .iload_n 1, 1, 1, 0, 0, 0)),
  (33, ([], .ireturn, 1, 0, 0, 0, 0))]
noncomputable def E_X6_seriesThatAreGone : Kt := exL SKc SKn SKr CS (lkp T_X6_seriesThatAreGone) [F_X6_seriesAt] [] []
noncomputable def F_X6_seriesThatAreGone : Fn := fun as h => gd (chkA 1 as) (E_X6_seriesThatAreGone 0 (pad 3 as) [] h)
noncomputable def f_X6_seriesThatAreGone_4 (x1 : Int32) (x2 : Int32) (h : Hp) : Res := E_X6_seriesThatAreGone 4 [.ref 0, .int x1, .int x2] [] h
noncomputable def f_X6_seriesThatAreGone_26 (x1 : Int32) (x2 : Int32) (h : Hp) : Res := E_X6_seriesThatAreGone 26 [.ref 0, .int x1, .int x2] [] h
set_option maxRecDepth 100000 in
set_option maxHeartbeats 4000000 in
theorem e_X6_seriesThatAreGone_0 (h : Hp) : F_X6_seriesThatAreGone [.ref 0] h = f_X6_seriesThatAreGone_4 0 0 h :=
  (exL_it SKc SKn SKr CS (lkp T_X6_seriesThatAreGone) [F_X6_seriesAt] [] [] [4, 26] 4 0 [.ref 0, .retAddr 0, .retAddr 0] [] h).trans rfl
set_option maxRecDepth 100000 in
set_option maxHeartbeats 4000000 in
theorem e_X6_seriesThatAreGone_4 (x1 : Int32) (x2 : Int32) (h : Hp) : f_X6_seriesThatAreGone_4 x1 x2 h = if x2 < (rd h 0 11) then bR (F_X6_seriesAt [.ref 0, .int x2] h) (fun v2 h1 => gd (okc v2 5) (if (rd h1 v2 12) = 0 then f_X6_seriesThatAreGone_26 x1 x2 h1 else f_X6_seriesThatAreGone_26 (x1 + 1) x2 h1)) (hnk []) else rtn (some (.int x1)) h :=
  (exL_it SKc SKn SKr CS (lkp T_X6_seriesThatAreGone) [F_X6_seriesAt] [] [] [4, 26] 10 4 [.ref 0, .int x1, .int x2] [] h).trans rfl
set_option maxRecDepth 100000 in
set_option maxHeartbeats 4000000 in
theorem e_X6_seriesThatAreGone_26 (x1 : Int32) (x2 : Int32) (h : Hp) : f_X6_seriesThatAreGone_26 x1 x2 h = f_X6_seriesThatAreGone_4 x1 (x2 + 1) h :=
  (exL_it SKc SKn SKr CS (lkp T_X6_seriesThatAreGone) [F_X6_seriesAt] [] [] [4, 26] 2 26 [.ref 0, .int x1, .int x2] [] h).trans rfl

def T_X6_count : List (Nat × Ent) := [(0, ([], .iload_n 1, 1, 1, 0, 0, 0)),
  (1, ([], .tableswitch 72 0 5 #[39, 44, 50, 56, 62, 67], 39, 73, 0, 0, 0)),
  (40, ([], .aload_n 0, 1, 0, 0, 0, 0)),
  (41, ([], .getfield 117, 3, 10, 0, 287, 0)),
  (44, ([], .ireturn, 1, 0, 0, 0, 0)),
  (45, ([], .aload_n 0, 1, 0, 0, 0, 0)),
  (46, ([], .iconst 1, 1, 0, 0, 0, 1)),
  (47, ([], .invokevirtual 172, 3, 1, 9, 0, 0)),
  (50, ([], .ireturn, 1, 0, 0, 0, 0)),
  (51, ([], .aload_n 0, 1, 0, 0, 0, 0)),
  (52, ([], .iconst 2, 1, 0, 0, 0, 2)),
  (53, ([], .invokevirtual 172, 3, 1, 9, 0, 0)),
  (56, ([], .ireturn, 1, 0, 0, 0, 0)),
  (57, ([], .aload_n 0, 1, 0, 0, 0, 0)),
  (58, ([], .iconst 3, 1, 0, 0, 0, 3)),
  (59, ([], .invokevirtual 172, 3, 1, 9, 0, 0)),
  (62, ([], .ireturn, 1, 0, 0, 0, 0)),
  (63, ([], .aload_n 0, 1, 0, 0, 0, 0)),
  (64, ([], .getfield 268, 3, 11, 0, 288, 0)),
  (67, ([], .ireturn, 1, 0, 0, 0, 0)),
  (68, ([], .aload_n 0, 1, 0, 0, 0, 0)),
  (69, ([], .invokevirtual 332, 3, 0, 5, 0, 0)),
  (72, ([], .ireturn, 1, 0, 0, 0, 0)),
  (73, ([], .new 158, 3, 1, 0, 0, 0))]
noncomputable def E_X6_count : Kt := exL SKc SKn SKr CS (lkp T_X6_count) [F_X6_seriesThatAreGone, F_X6_requestsThatAre] [] [[40, 45, 51, 57, 63, 68]]
noncomputable def F_X6_count : Fn := fun as h => gd (chkA 2 as) (E_X6_count 0 (pad 2 as) [] h)
set_option maxRecDepth 100000 in
set_option maxHeartbeats 4000000 in
theorem e_X6_count_0 (x1 : Int32) (h : Hp) : F_X6_count [.ref 0, .int x1] h = if x1 = Int32.ofNat 0 then rtn (some (.int (rd h 0 10))) h else if x1 = Int32.ofNat 1 then bI (F_X6_requestsThatAre [.ref 0, .int 1] h) (fun v8 h7 => rtn (some (.int v8)) h7) (hnk []) else if x1 = Int32.ofNat 2 then bI (F_X6_requestsThatAre [.ref 0, .int 2] h) (fun v6 h5 => rtn (some (.int v6)) h5) (hnk []) else if x1 = Int32.ofNat 3 then bI (F_X6_requestsThatAre [.ref 0, .int 3] h) (fun v4 h3 => rtn (some (.int v4)) h3) (hnk []) else if x1 = Int32.ofNat 4 then rtn (some (.int (rd h 0 11))) h else if x1 = Int32.ofNat 5 then bI (F_X6_seriesThatAreGone [.ref 0] h) (fun v2 h1 => rtn (some (.int v2)) h1) (hnk []) else thr 1 h :=
  (exL_it SKc SKn SKr CS (lkp T_X6_count) [F_X6_seriesThatAreGone, F_X6_requestsThatAre] [] [[40, 45, 51, 57, 63, 68]] [] 6 0 [.ref 0, .int x1] [] h).trans rfl
