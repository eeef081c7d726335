def T_X7_thrown : List (Nat × Ent) := [(0, ([], .aload_n 0, 1, 0, 0, 0, 0)),
  (1, ([], .getfield 152, 3, 0, 2, 908, 0)),
  (4, ([], .ireturn, 1, 0, 0, 0, 0))]
noncomputable def E_X7_thrown : Kt := exL SKc SKn SKr CS (lkp T_X7_thrown) [] [] []
noncomputable def F_X7_thrown : Fn := fun as h => gd (chkA 1 as) (E_X7_thrown 0 (pad 1 as) [] h)
set_option maxRecDepth 100000 in
set_option maxHeartbeats 4000000 in
theorem e_X7_thrown_0 (h : Hp) : F_X7_thrown [.ref 227] h = rtn (some (.int (rd h 227 0))) h :=
  (exL_it SKc SKn SKr CS (lkp T_X7_thrown) [] [] [] [] 3 0 [.ref 227] [] h).trans rfl

def T_X7_holds : List (Nat × Ent) := [(0, ([], .aload_n 0, 1, 0, 0, 0, 0)),
  (1, ([], .iload_n 1, 1, 1, 0, 0, 0)),
  (2, ([], .putfield 152, 3, 0, 2, 908, 0)),
  (5, ([], .iload_n 1, 1, 1, 0, 0, 0)),
  (6, ([], .ifCond .ne 7, 3, 13, 0, 0, 0)),
  (9, ([], .iconst 1, 1, 0, 0, 0, 1)),
  (10, ([], .goto 4, 3, 14, 0, 0, 0)),
  (13, ([], .iconst 0, 1, 0, 0, 0, 0)),
  (14, ([], .ireturn, 1, 0, 1, 0, 0))]
noncomputable def E_X7_holds : Kt := exL SKc SKn SKr CS (lkp T_X7_holds) [] [] []
noncomputable def F_X7_holds : Fn := fun as h => gd (chkA 2 as) (E_X7_holds 0 (pad 2 as) [] h)
set_option maxRecDepth 100000 in
set_option maxHeartbeats 4000000 in
theorem e_X7_holds_0 (x1 : Int32) (h : Hp) : F_X7_holds [.ref 227, .int x1] h = if x1 = 0 then rtn (some (.int 1)) (wr h 227 0 x1) else rtn (some (.int 0)) (wr h 227 0 x1) :=
  (exL_it SKc SKn SKr CS (lkp T_X7_holds) [] [] [] [] 8 0 [.ref 227, .int x1] [] h).trans rfl

def T_X7_isIn : List (Nat × Ent) := [(0, ([], .iload_n 0, 1, 0, 0, 0, 0)),
  (1, ([], .iload_n 1, 1, 1, 0, 0, 0)),
  (2, ([], .if_icmp .lt 12, 3, 14, 0, 0, 0)),
  (5, ([], .iload_n 0, 1, 0, 0, 0, 0)),
  (6, ([], .iload_n 2, 1, 2, 0, 0, 0)),
  (7, ([], .if_icmp .gt 7, 3, 14, 0, 0, 0)),
  (10, ([], .iconst 1, 1, 0, 0, 0, 1)),
  (11, ([], .goto 4, 3, 15, 0, 0, 0)),
  (14, ([], .iconst 0, 1, 0, 0, 0, 0)),
  (15, ([], .ireturn, 1, 0, 1, 0, 0))]
noncomputable def E_X7_isIn : Kt := exL SKc SKn SKr CS (lkp T_X7_isIn) [] [] []
noncomputable def F_X7_isIn : Fn := fun as h => gd (chkA 3 as) (E_X7_isIn 0 (pad 3 as) [] h)
set_option maxRecDepth 100000 in
set_option maxHeartbeats 4000000 in
theorem e_X7_isIn_0 (x0 : Int32) (x1 : Int32) (x2 : Int32) (h : Hp) : F_X7_isIn [.int x0, .int x1, .int x2] h = if x0 < x1 then rtn (some (.int 0)) h else if x2 < x0 then rtn (some (.int 0)) h else rtn (some (.int 1)) h :=
  (exL_it SKc SKn SKr CS (lkp T_X7_isIn) [] [] [] [] 9 0 [.int x0, .int x1, .int x2] [] h).trans rfl

def T_X7_isAirport : List (Nat × Ent) := [(0, ([], .iload_n 0, 1, 0, 0, 0, 0)),
  (1, ([], .iconst 0, 1, 0, 0, 0, 0)),
  (2, ([], .iconst 3, 1, 0, 0, 0, 3)),
  (3, ([], .invokestatic 156, 3, 0, 13, 99, 0)),
  (6, ([], .ireturn, 1, 0, 1, 0, 0))]
noncomputable def E_X7_isAirport : Kt := exL SKc SKn SKr CS (lkp T_X7_isAirport) [F_X7_isIn] [] []
noncomputable def F_X7_isAirport : Fn := fun as h => gd (chkA 1 as) (E_X7_isAirport 0 (pad 1 as) [] h)
set_option maxRecDepth 100000 in
set_option maxHeartbeats 4000000 in
theorem e_X7_isAirport_0 (x0 : Int32) (h : Hp) : F_X7_isAirport [.int x0] h = bI (F_X7_isIn [.int x0, .int 0, .int 3] h) (fun v2 h1 => gd (okZ 1 v2) (rtn (some (.int v2)) h1)) (hnk []) :=
  (exL_it SKc SKn SKr CS (lkp T_X7_isAirport) [F_X7_isIn] [] [] [] 5 0 [.int x0] [] h).trans rfl

def T_X7_isCarrier : List (Nat × Ent) := [(0, ([], .iload_n 0, 1, 0, 0, 0, 0)),
  (1, ([], .iconst 0, 1, 0, 0, 0, 0)),
  (2, ([], .bipush 9, 2, 0, 0, 0, 9)),
  (4, ([], .invokestatic 156, 3, 0, 13, 99, 0)),
  (7, ([], .ireturn, 1, 0, 1, 0, 0))]
noncomputable def E_X7_isCarrier : Kt := exL SKc SKn SKr CS (lkp T_X7_isCarrier) [F_X7_isIn] [] []
noncomputable def F_X7_isCarrier : Fn := fun as h => gd (chkA 1 as) (E_X7_isCarrier 0 (pad 1 as) [] h)
set_option maxRecDepth 100000 in
set_option maxHeartbeats 4000000 in
theorem e_X7_isCarrier_0 (x0 : Int32) (h : Hp) : F_X7_isCarrier [.int x0] h = bI (F_X7_isIn [.int x0, .int 0, .int 9] h) (fun v2 h1 => gd (okZ 1 v2) (rtn (some (.int v2)) h1)) (hnk []) :=
  (exL_it SKc SKn SKr CS (lkp T_X7_isCarrier) [F_X7_isIn] [] [] [] 5 0 [.int x0] [] h).trans rfl

def T_X7_isRule : List (Nat × Ent) := [(0, ([], .iload_n 1, 1, 1, 0, 0, 0)),
  (1, ([], .invokestatic 160, 3, 0, 5, 99, 0)),
  (4, ([], .ifCond .eq 23, 3, 27, 0, 0, 0)),
  (7, ([], .iload_n 2, 1, 2, 0, 0, 0)),
  (8, ([], .iconst 0, 1, 0, 0, 0, 0)),
  (9, ([], .aload_n 0, 1, 0, 0, 0, 0)),
  (10, ([], .getfield 7, 3, 2, 3, 910, 0)),
  (13, ([], .iload_n 1, 1, 1, 0, 0, 0)),
  (14, ([], .iaload, 1, 0, 0, 0, 0)),
  (15, ([], .iconst 1, 1, 0, 0, 0, 1)),
  (16, ([], .isub, 1, 0, 0, 0, 0)),
  (17, ([], .invokestatic 156, 3, 1, 13, 99, 0)),
  (20, ([], .ifCond .eq 7, 3, 27, 0, 0, 0)),
  (23, ([], .iconst 1, 1, 0, 0, 0, 1)),
  (24, ([], .goto 4, 3, 28, 0, 0, 0)),
  (27, ([], .iconst 0, 1, 0, 0, 0, 0)),
  (28, ([], .ireturn, 1, 0, 1, 0, 0))]
noncomputable def E_X7_isRule : Kt := exL SKc SKn SKr CS (lkp T_X7_isRule) [F_X7_isAirport, F_X7_isIn] [] []
noncomputable def F_X7_isRule : Fn := fun as h => gd (chkA 3 as) (E_X7_isRule 0 (pad 3 as) [] h)
set_option maxRecDepth 100000 in
set_option maxHeartbeats 4000000 in
theorem e_X7_isRule_0 (x1 : Int32) (x2 : Int32) (h : Hp) : F_X7_isRule [.ref 227, .int x1, .int x2] h = bI (F_X7_isAirport [.int x1] h) (fun v2 h1 => if v2 = 0 then rtn (some (.int 0)) h1 else gd (inb x1 4) (bI (F_X7_isIn [.int x2, .int 0, .int ((rd h1 228 x1.toNatClampNeg) - 1)] h1) (fun v4 h3 => if v4 = 0 then rtn (some (.int 0)) h3 else rtn (some (.int 1)) h3) (hnk []))) (hnk []) :=
  (exL_it SKc SKn SKr CS (lkp T_X7_isRule) [F_X7_isAirport, F_X7_isIn] [] [] [] 16 0 [.ref 227, .int x1, .int x2] [] h).trans rfl

def T_X7_isRequest : List (Nat × Ent) := [(0, ([], .iload_n 1, 1, 1, 0, 0, 0)),
  (1, ([], .iconst 0, 1, 0, 0, 0, 0)),
  (2, ([], .aload_n 0, 1, 0, 0, 0, 0)),
  (3, ([], .getfield 164, 3, 20, 2, 928, 0)),
  (6, ([], .iconst 1, 1, 0, 0, 0, 1)),
  (7, ([], .isub, 1, 0, 0, 0, 0)),
  (8, ([], .invokestatic 156, 3, 0, 13, 99, 0)),
  (11, ([], .ireturn, 1, 0, 1, 0, 0))]
noncomputable def E_X7_isRequest : Kt := exL SKc SKn SKr CS (lkp T_X7_isRequest) [F_X7_isIn] [] []
noncomputable def F_X7_isRequest : Fn := fun as h => gd (chkA 2 as) (E_X7_isRequest 0 (pad 2 as) [] h)
set_option maxRecDepth 100000 in
set_option maxHeartbeats 4000000 in
theorem e_X7_isRequest_0 (x1 : Int32) (h : Hp) : F_X7_isRequest [.ref 227, .int x1] h = bI (F_X7_isIn [.int x1, .int 0, .int ((rd h 227 20) - 1)] h) (fun v2 h1 => gd (okZ 1 v2) (rtn (some (.int v2)) h1)) (hnk []) :=
  (exL_it SKc SKn SKr CS (lkp T_X7_isRequest) [F_X7_isIn] [] [] [] 8 0 [.ref 227, .int x1] [] h).trans rfl

def T_X7_isSeries : List (Nat × Ent) := [(0, ([], .iload_n 1, 1, 1, 0, 0, 0)),
  (1, ([], .iconst 0, 1, 0, 0, 0, 0)),
  (2, ([], .aload_n 0, 1, 0, 0, 0, 0)),
  (3, ([], .getfield 167, 3, 37, 2, 945, 0)),
  (6, ([], .iconst 1, 1, 0, 0, 0, 1)),
  (7, ([], .isub, 1, 0, 0, 0, 0)),
  (8, ([], .invokestatic 156, 3, 0, 13, 99, 0)),
  (11, ([], .ireturn, 1, 0, 1, 0, 0))]
noncomputable def E_X7_isSeries : Kt := exL SKc SKn SKr CS (lkp T_X7_isSeries) [F_X7_isIn] [] []
noncomputable def F_X7_isSeries : Fn := fun as h => gd (chkA 2 as) (E_X7_isSeries 0 (pad 2 as) [] h)
set_option maxRecDepth 100000 in
set_option maxHeartbeats 4000000 in
theorem e_X7_isSeries_0 (x1 : Int32) (h : Hp) : F_X7_isSeries [.ref 227, .int x1] h = bI (F_X7_isIn [.int x1, .int 0, .int ((rd h 227 37) - 1)] h) (fun v2 h1 => gd (okZ 1 v2) (rtn (some (.int v2)) h1)) (hnk []) :=
  (exL_it SKc SKn SKr CS (lkp T_X7_isSeries) [F_X7_isIn] [] [] [] 8 0 [.ref 227, .int x1] [] h).trans rfl

def T_X7_isDay : List (Nat × Ent) := [(0, ([], .iload_n 0, 1, 0, 0, 0, 0)),
  (1, ([], .iconst 0, 1, 0, 0, 0, 0)),
  (2, ([], .bipush 6, 2, 0, 0, 0, 6)),
  (4, ([], .invokestatic 156, 3, 0, 13, 99, 0)),
  (7, ([], .ifCond .eq 17, 3, 24, 0, 0, 0)),
  (10, ([], .iload_n 1, 1, 1, 0, 0, 0)),
  (11, ([], .iconst 0, 1, 0, 0, 0, 0)),
  (12, ([], .bipush 19, 2, 0, 0, 0, 19)),
  (14, ([], .invokestatic 156, 3, 0, 13, 99, 0)),
  (17, ([], .ifCond .eq 7, 3, 24, 0, 0, 0)),
  (20, ([], .iconst 1, 1, 0, 0, 0, 1)),
  (21, ([], .goto 4, 3, 25, 0, 0, 0)),
  (24, ([], .iconst 0, 1, 0, 0, 0, 0)),
  (25, ([], .ireturn, 1, 0, 1, 0, 0))]
noncomputable def E_X7_isDay : Kt := exL SKc SKn SKr CS (lkp T_X7_isDay) [F_X7_isIn] [] []
noncomputable def F_X7_isDay : Fn := fun as h => gd (chkA 2 as) (E_X7_isDay 0 (pad 2 as) [] h)
set_option maxRecDepth 100000 in
set_option maxHeartbeats 4000000 in
theorem e_X7_isDay_0 (x0 : Int32) (x1 : Int32) (h : Hp) : F_X7_isDay [.int x0, .int x1] h = bI (F_X7_isIn [.int x0, .int 0, .int 6] h) (fun v2 h1 => if v2 = 0 then rtn (some (.int 0)) h1 else bI (F_X7_isIn [.int x1, .int 0, .int 19] h1) (fun v4 h3 => if v4 = 0 then rtn (some (.int 0)) h3 else rtn (some (.int 1)) h3) (hnk [])) (hnk []) :=
  (exL_it SKc SKn SKr CS (lkp T_X7_isDay) [F_X7_isIn] [] [] [] 13 0 [.int x0, .int x1] [] h).trans rfl

def T_X7_declare : List (Nat × Ent) := [(0, ([], .iload_n 1, 1, 1, 0, 0, 0)),
  (1, ([], .invokestatic 160, 3, 0, 5, 99, 0)),
  (4, ([], .istore 5, 2, 5, 0, 0, 0)),
  (6, ([], .iload_n 2, 1, 2, 0, 0, 0)),
  (7, ([], .iconst 0, 1, 0, 0, 0, 0)),
  (8, ([], .iconst 2, 1, 0, 0, 0, 2)),
  (9, ([], .invokestatic 156, 3, 1, 13, 99, 0)),
  (12, ([], .ifCond .eq 28, 3, 40, 0, 0, 0)),
  (15, ([], .iload_n 3, 1, 3, 0, 0, 0)),
  (16, ([], .iconst 1, 1, 0, 0, 0, 1)),
  (17, ([], .bipush 6, 2, 0, 0, 0, 6)),
  (19, ([], .invokestatic 156, 3, 1, 13, 99, 0)),
  (22, ([], .ifCond .eq 18, 3, 40, 0, 0, 0)),
  (25, ([], .iload 4, 2, 4, 0, 0, 0)),
  (27, ([], .iconst 0, 1, 0, 0, 0, 0)),
  (28, ([], .bipush 20, 2, 0, 0, 0, 20)),
  (30, ([], .invokestatic 156, 3, 1, 13, 99, 0)),
  (33, ([], .ifCond .eq 7, 3, 40, 0, 0, 0)),
  (36, ([], .iconst 1, 1, 0, 0, 0, 1)),
  (37, ([], .goto 4, 3, 41, 0, 0, 0)),
  (40, ([false, false, false, false, false, false, true, true], .iconst 0, 1, 0, 0, 0, 0)),
  (41, ([false, false, false, false, false, false, true, true], .istore 6, 2, 6, 0, 0, 0)),
  (43, ([], .aload_n 0, 1, 0, 0, 0, 0)),
  (44, ([], .iload 5, 2, 5, 0, 0, 0)),
  (46, ([], .ifCond .ne 7, 3, 53, 0, 0, 0)),
  (49, ([], .iconst 1, 1, 0, 0, 0, 1)),
  (50, ([], .goto 28, 3, 78, 0, 0, 0)),
  (53, ([], .iload 6, 2, 6, 0, 0, 0)),
  (55, ([], .ifCond .ne 7, 3, 62, 0, 0, 0)),
  (58, ([], .iconst 2, 1, 0, 0, 0, 2)),
  (59, ([], .goto 19, 3, 78, 0, 0, 0)),
  (62, ([], .aload_n 0, 1, 0, 0, 0, 0)),
  (63, ([], .getfield 7, 3, 2, 3, 910, 0)),
  (66, ([], .iload_n 1, 1, 1, 0, 0, 0)),
  (67, ([], .iaload, 1, 0, 0, 0, 0)),
  (68, ([], .bipush 6, 2, 0, 0, 0, 6)),
  (70, ([], .if_icmp .ne 7, 3, 77, 0, 0, 0)),
  (73, ([], .iconst 3, 1, 0, 0, 0, 3)),
  (74, ([], .goto 4, 3, 78, 0, 0, 0)),
  (77, ([], .iconst 0, 1, 0, 0, 0, 0)),
  (78, ([false, false, false, false, false, true, true, true], .invokevirtual 170, 3, 2, 9, 1, 0)),
  (81, ([], .ifCond .ne 5, 3, 86, 0, 0, 0)),
  (84, ([], .iconst 0, 1, 0, 0, 0, 0)),
  (85, ([], .ireturn, 1, 0, 0, 0, 0)),
  (86, ([], .bipush 6, 2, 0, 0, 0, 6)),
  (88, ([], .iload_n 1, 1, 1, 0, 0, 0)),
  (89, ([], .imul, 1, 0, 0, 0, 0)),
  (90, ([], .aload_n 0, 1, 0, 0, 0, 0)),
  (91, ([], .getfield 7, 3, 2, 3, 910, 0)),
  (94, ([], .iload_n 1, 1, 1, 0, 0, 0)),
  (95, ([], .iaload, 1, 0, 0, 0, 0)),
  (96, ([], .iadd, 1, 0, 0, 0, 0)),
  (97, ([], .istore 7, 2, 7, 0, 0, 0)),
  (99, ([], .aload_n 0, 1, 0, 0, 0, 0)),
  (100, ([], .getfield 13, 3, 3, 3, 911, 0)),
  (103, ([], .iload 7, 2, 7, 0, 0, 0)),
  (105, ([], .iload_n 2, 1, 2, 0, 0, 0)),
  (106, ([], .iastore, 1, 0, 0, 0, 0)),
  (107, ([], .aload_n 0, 1, 0, 0, 0, 0)),
  (108, ([], .getfield 16, 3, 4, 3, 912, 0)),
  (111, ([], .iload 7, 2, 7, 0, 0, 0)),
  (113, ([], .iload_n 3, 1, 3, 0, 0, 0)),
  (114, ([], .iastore, 1, 0, 0, 0, 0)),
  (115, ([], .aload_n 0, 1, 0, 0, 0, 0)),
  (116, ([], .getfield 19, 3, 5, 3, 913, 0)),
  (119, ([], .iload 7, 2, 7, 0, 0, 0)),
  (121, ([], .iload 4, 2, 4, 0, 0, 0)),
  (123, ([], .iastore, 1, 0, 0, 0, 0)),
  (124, ([], .aload_n 0, 1, 0, 0, 0, 0)),
  (125, ([], .getfield 7, 3, 2, 3, 910, 0)),
  (128, ([], .iload_n 1, 1, 1, 0, 0, 0)),
  (129, ([], .dup2, 1, 0, 0, 0, 0)),
  (130, ([], .iaload, 1, 0, 0, 0, 0)),
  (131, ([], .iconst 1, 1, 0, 0, 0, 1)),
  (132, ([], .iadd, 1, 0, 0, 0, 0)),
  (133, ([], .iastore, 1, 0, 0, 0, 0)),
  (134, ([], .aload_n 0, 1, 0, 0, 0, 0)),
  (135, ([], .getfield 7, 3, 2, 3, 910, 0)),
  (138, ([], .iload_n 1, 1, 1, 0, 0, 0)),
  (139, ([], .iaload, 1, 0, 0, 0, 0)),
  (140, ([], .iconst 1, 1, 0, 0, 0, 1)),
  (141, ([], .isub, 1, 0, 0, 0, 0)),
  (142, ([], .ireturn, 1, 0, 0, 0, 0))]
noncomputable def E_X7_declare : Kt := exL SKc SKn SKr CS (lkp T_X7_declare) [F_X7_isAirport, F_X7_isIn, F_X7_holds] [] []
noncomputable def F_X7_declare : Fn := fun as h => gd (chkA 5 as) (E_X7_declare 0 (pad 8 as) [] h)
noncomputable def f_X7_declare_40 (x1 : Int32) (x2 : Int32) (x3 : Int32) (x4 : Int32) (x5 : Int32) (h : Hp) : Res := E_X7_declare 40 [.ref 227, .int x1, .int x2, .int x3, .int x4, .int x5, .retAddr 0, .retAddr 0] [] h
noncomputable def f_X7_declare_41 (x1 : Int32) (x2 : Int32) (x3 : Int32) (x4 : Int32) (x5 : Int32) (s0 : Int32) (h : Hp) : Res := E_X7_declare 41 [.ref 227, .int x1, .int x2, .int x3, .int x4, .int x5, .retAddr 0, .retAddr 0] [.int s0] h
noncomputable def f_X7_declare_78 (x1 : Int32) (x2 : Int32) (x3 : Int32) (x4 : Int32) (s0 : Int32) (h : Hp) : Res := E_X7_declare 78 [.ref 227, .int x1, .int x2, .int x3, .int x4, .retAddr 0, .retAddr 0, .retAddr 0] [.int s0, .ref 227] h
set_option maxRecDepth 100000 in
set_option maxHeartbeats 4000000 in
theorem e_X7_declare_0 (x1 : Int32) (x2 : Int32) (x3 : Int32) (x4 : Int32) (h : Hp) : F_X7_declare [.ref 227, .int x1, .int x2, .int x3, .int x4] h = bI (F_X7_isAirport [.int x1] h) (fun v2 h1 => bI (F_X7_isIn [.int x2, .int 0, .int 2] h1) (fun v4 h3 => if v4 = 0 then f_X7_declare_40 x1 x2 x3 x4 v2 h3 else bI (F_X7_isIn [.int x3, .int 1, .int 6] h3) (fun v6 h5 => if v6 = 0 then f_X7_declare_40 x1 x2 x3 x4 v2 h5 else bI (F_X7_isIn [.int x4, .int 0, .int 20] h5) (fun v8 h7 => if v8 = 0 then f_X7_declare_40 x1 x2 x3 x4 v2 h7 else f_X7_declare_41 x1 x2 x3 x4 v2 1 h7) (hnk [])) (hnk [])) (hnk [])) (hnk []) :=
  (exL_it SKc SKn SKr CS (lkp T_X7_declare) [F_X7_isAirport, F_X7_isIn, F_X7_holds] [] [] [40, 41, 78] 20 0 [.ref 227, .int x1, .int x2, .int x3, .int x4, .retAddr 0, .retAddr 0, .retAddr 0] [] h).trans rfl
set_option maxRecDepth 100000 in
set_option maxHeartbeats 4000000 in
theorem e_X7_declare_40 (x1 : Int32) (x2 : Int32) (x3 : Int32) (x4 : Int32) (x5 : Int32) (h : Hp) : f_X7_declare_40 x1 x2 x3 x4 x5 h = f_X7_declare_41 x1 x2 x3 x4 x5 0 h :=
  (exL_it SKc SKn SKr CS (lkp T_X7_declare) [F_X7_isAirport, F_X7_isIn, F_X7_holds] [] [] [40, 41, 78] 1 40 [.ref 227, .int x1, .int x2, .int x3, .int x4, .int x5, .retAddr 0, .retAddr 0] [] h).trans rfl
set_option maxRecDepth 100000 in
set_option maxHeartbeats 4000000 in
theorem e_X7_declare_41 (x1 : Int32) (x2 : Int32) (x3 : Int32) (x4 : Int32) (x5 : Int32) (s0 : Int32) (h : Hp) : f_X7_declare_41 x1 x2 x3 x4 x5 s0 h = if x5 = 0 then f_X7_declare_78 x1 x2 x3 x4 1 h else if s0 = 0 then f_X7_declare_78 x1 x2 x3 x4 2 h else gd (inb x1 4) (if (rd h 228 x1.toNatClampNeg) = 6 then f_X7_declare_78 x1 x2 x3 x4 3 h else f_X7_declare_78 x1 x2 x3 x4 0 h) :=
  (exL_it SKc SKn SKr CS (lkp T_X7_declare) [F_X7_isAirport, F_X7_isIn, F_X7_holds] [] [] [40, 41, 78] 14 41 [.ref 227, .int x1, .int x2, .int x3, .int x4, .int x5, .retAddr 0, .retAddr 0] [.int s0] h).trans rfl
set_option maxRecDepth 100000 in
set_option maxHeartbeats 4000000 in
theorem e_X7_declare_78 (x1 : Int32) (x2 : Int32) (x3 : Int32) (x4 : Int32) (s0 : Int32) (h : Hp) : f_X7_declare_78 x1 x2 x3 x4 s0 h = bI (F_X7_holds [.ref 227, .int s0] h) (fun v2 h1 => if v2 = 0 then rtn (some (.int 0)) h1 else gd (inb x1 4) (gd (inb ((6 * x1) + (rd h1 228 x1.toNatClampNeg)) 24) (gd (inb ((6 * x1) + (rd h1 228 x1.toNatClampNeg)) 24) (gd (inb ((6 * x1) + (rd h1 228 x1.toNatClampNeg)) 24) (gd (inb x1 4) (gd (inb x1 4) (gd (inb x1 4) (rtn (some (.int ((rd (wr (wr (wr (wr h1 229 (((6 * x1) + (rd h1 228 x1.toNatClampNeg)).toNatClampNeg) x2) 230 (((6 * x1) + (rd h1 228 x1.toNatClampNeg)).toNatClampNeg) x3) 231 (((6 * x1) + (rd h1 228 x1.toNatClampNeg)).toNatClampNeg) x4) 228 x1.toNatClampNeg ((rd h1 228 x1.toNatClampNeg) + 1)) 228 x1.toNatClampNeg) - 1))) (wr (wr (wr (wr h1 229 (((6 * x1) + (rd h1 228 x1.toNatClampNeg)).toNatClampNeg) x2) 230 (((6 * x1) + (rd h1 228 x1.toNatClampNeg)).toNatClampNeg) x3) 231 (((6 * x1) + (rd h1 228 x1.toNatClampNeg)).toNatClampNeg) x4) 228 x1.toNatClampNeg ((rd h1 228 x1.toNatClampNeg) + 1)))))))))) (hnk []) :=
  (exL_it SKc SKn SKr CS (lkp T_X7_declare) [F_X7_isAirport, F_X7_isIn, F_X7_holds] [] [] [40, 41, 78] 41 78 [.ref 227, .int x1, .int x2, .int x3, .int x4, .retAddr 0, .retAddr 0, .retAddr 0] [.int s0, .ref 227] h).trans rfl

def T_X7_revise : List (Nat × Ent) := [(0, ([], .aload_n 0, 1, 0, 0, 0, 0)),
  (1, ([], .aload_n 0, 1, 0, 0, 0, 0)),
  (2, ([], .iload_n 1, 1, 1, 0, 0, 0)),
  (3, ([], .iload_n 2, 1, 2, 0, 0, 0)),
  (4, ([], .invokevirtual 173, 3, 0, 13, 1, 0)),
  (7, ([], .ifCond .ne 7, 3, 14, 0, 0, 0)),
  (10, ([], .iconst 1, 1, 0, 0, 0, 1)),
  (11, ([], .goto 18, 3, 29, 0, 0, 0)),
  (14, ([], .iload_n 3, 1, 3, 0, 0, 0)),
  (15, ([], .iconst 0, 1, 0, 0, 0, 0)),
  (16, ([], .bipush 20, 2, 0, 0, 0, 20)),
  (18, ([], .invokestatic 156, 3, 1, 13, 99, 0)),
  (21, ([], .ifCond .eq 7, 3, 28, 0, 0, 0)),
  (24, ([], .iconst 0, 1, 0, 0, 0, 0)),
  (25, ([], .goto 4, 3, 29, 0, 0, 0)),
  (28, ([], .iconst 2, 1, 0, 0, 0, 2)),
  (29, ([false, false, false, false, true], .invokevirtual 170, 3, 2, 9, 1, 0)),
  (32, ([], .ifCond .ne 5, 3, 37, 0, 0, 0)),
  (35, ([], .iconst 0, 1, 0, 0, 0, 0)),
  (36, ([], .ireturn, 1, 0, 0, 0, 0)),
  (37, ([], .aload_n 0, 1, 0, 0, 0, 0)),
  (38, ([], .getfield 19, 3, 5, 3, 913, 0)),
  (41, ([], .bipush 6, 2, 0, 0, 0, 6)),
  (43, ([], .iload_n 1, 1, 1, 0, 0, 0)),
  (44, ([], .imul, 1, 0, 0, 0, 0)),
  (45, ([], .iload_n 2, 1, 2, 0, 0, 0)),
  (46, ([], .iadd, 1, 0, 0, 0, 0)),
  (47, ([], .iaload, 1, 0, 0, 0, 0)),
  (48, ([], .istore 4, 2, 4, 0, 0, 0)),
  (50, ([], .aload_n 0, 1, 0, 0, 0, 0)),
  (51, ([], .getfield 19, 3, 5, 3, 913, 0)),
  (54, ([], .bipush 6, 2, 0, 0, 0, 6)),
  (56, ([], .iload_n 1, 1, 1, 0, 0, 0)),
  (57, ([], .imul, 1, 0, 0, 0, 0)),
  (58, ([], .iload_n 2, 1, 2, 0, 0, 0)),
  (59, ([], .iadd, 1, 0, 0, 0, 0)),
  (60, ([], .iload_n 3, 1, 3, 0, 0, 0)),
  (61, ([], .iastore, 1, 0, 0, 0, 0)),
  (62, ([], .iload 4, 2, 4, 0, 0, 0)),
  (64, ([], .ireturn, 1, 0, 0, 0, 0))]
noncomputable def E_X7_revise : Kt := exL SKc SKn SKr CS (lkp T_X7_revise) [F_X7_isRule, F_X7_isIn, F_X7_holds] [] []
noncomputable def F_X7_revise : Fn := fun as h => gd (chkA 4 as) (E_X7_revise 0 (pad 5 as) [] h)
noncomputable def f_X7_revise_29 (x1 : Int32) (x2 : Int32) (x3 : Int32) (s0 : Int32) (h : Hp) : Res := E_X7_revise 29 [.ref 227, .int x1, .int x2, .int x3, .retAddr 0] [.int s0, .ref 227] h
set_option maxRecDepth 100000 in
set_option maxHeartbeats 4000000 in
theorem e_X7_revise_0 (x1 : Int32) (x2 : Int32) (x3 : Int32) (h : Hp) : F_X7_revise [.ref 227, .int x1, .int x2, .int x3] h = bI (F_X7_isRule [.ref 227, .int x1, .int x2] h) (fun v2 h1 => if v2 = 0 then f_X7_revise_29 x1 x2 x3 1 h1 else bI (F_X7_isIn [.int x3, .int 0, .int 20] h1) (fun v4 h3 => if v4 = 0 then f_X7_revise_29 x1 x2 x3 2 h3 else f_X7_revise_29 x1 x2 x3 0 h3) (hnk [])) (hnk []) :=
  (exL_it SKc SKn SKr CS (lkp T_X7_revise) [F_X7_isRule, F_X7_isIn, F_X7_holds] [] [] [29] 13 0 [.ref 227, .int x1, .int x2, .int x3, .retAddr 0] [] h).trans rfl
set_option maxRecDepth 100000 in
set_option maxHeartbeats 4000000 in
theorem e_X7_revise_29 (x1 : Int32) (x2 : Int32) (x3 : Int32) (s0 : Int32) (h : Hp) : f_X7_revise_29 x1 x2 x3 s0 h = bI (F_X7_holds [.ref 227, .int s0] h) (fun v2 h1 => if v2 = 0 then rtn (some (.int 0)) h1 else gd (inb ((6 * x1) + x2) 24) (gd (inb ((6 * x1) + x2) 24) (rtn (some (.int (rd h1 231 (((6 * x1) + x2).toNatClampNeg)))) (wr h1 231 (((6 * x1) + x2).toNatClampNeg) x3)))) (hnk []) :=
  (exL_it SKc SKn SKr CS (lkp T_X7_revise) [F_X7_isRule, F_X7_isIn, F_X7_holds] [] [] [29] 22 29 [.ref 227, .int x1, .int x2, .int x3, .retAddr 0] [.int s0, .ref 227] h).trans rfl

def T_X7_curfew : List (Nat × Ent) := [(0, ([], .aload_n 0, 1, 0, 0, 0, 0)),
  (1, ([], .iload_n 1, 1, 1, 0, 0, 0)),
  (2, ([], .invokestatic 160, 3, 0, 5, 99, 0)),
  (5, ([], .ifCond .ne 7, 3, 12, 0, 0, 0)),
  (8, ([], .iconst 1, 1, 0, 0, 0, 1)),
  (9, ([], .goto 28, 3, 37, 0, 0, 0)),
  (12, ([], .iload_n 2, 1, 2, 0, 0, 0)),
  (13, ([], .iconst 0, 1, 0, 0, 0, 0)),
  (14, ([], .bipush 72, 2, 0, 0, 0, 72)),
  (16, ([], .invokestatic 156, 3, 1, 13, 99, 0)),
  (19, ([], .ifCond .eq 17, 3, 36, 0, 0, 0)),
  (22, ([], .iload_n 3, 1, 3, 0, 0, 0)),
  (23, ([], .iload_n 2, 1, 2, 0, 0, 0)),
  (24, ([], .bipush 72, 2, 0, 0, 0, 72)),
  (26, ([], .invokestatic 156, 3, 1, 13, 99, 0)),
  (29, ([], .ifCond .eq 7, 3, 36, 0, 0, 0)),
  (32, ([], .iconst 0, 1, 0, 0, 0, 0)),
  (33, ([], .goto 4, 3, 37, 0, 0, 0)),
  (36, ([false, false, false, false], .iconst 2, 1, 0, 0, 0, 2)),
  (37, ([false, false, false, false], .invokevirtual 170, 3, 2, 9, 1, 0)),
  (40, ([], .ifCond .eq 17, 3, 57, 0, 0, 0)),
  (43, ([], .aload_n 0, 1, 0, 0, 0, 0)),
  (44, ([], .getfield 22, 3, 6, 3, 914, 0)),
  (47, ([], .iload_n 1, 1, 1, 0, 0, 0)),
  (48, ([], .iload_n 2, 1, 2, 0, 0, 0)),
  (49, ([], .iastore, 1, 0, 0, 0, 0)),
  (50, ([], .aload_n 0, 1, 0, 0, 0, 0)),
  (51, ([], .getfield 25, 3, 7, 3, 915, 0)),
  (54, ([], .iload_n 1, 1, 1, 0, 0, 0)),
  (55, ([], .iload_n 3, 1, 3, 0, 0, 0)),
  (56, ([], .iastore, 1, 0, 0, 0, 0)),
  (57, ([], .return_, 1, 0, 0, 0, 0))]
noncomputable def E_X7_curfew : Kt := exL SKc SKn SKr CS (lkp T_X7_curfew) [F_X7_isAirport, F_X7_isIn, F_X7_holds] [] []
noncomputable def F_X7_curfew : Fn := fun as h => gd (chkA 4 as) (E_X7_curfew 0 (pad 4 as) [] h)
noncomputable def f_X7_curfew_36 (x1 : Int32) (x2 : Int32) (x3 : Int32) (h : Hp) : Res := E_X7_curfew 36 [.ref 227, .int x1, .int x2, .int x3] [.ref 227] h
noncomputable def f_X7_curfew_37 (x1 : Int32) (x2 : Int32) (x3 : Int32) (s0 : Int32) (h : Hp) : Res := E_X7_curfew 37 [.ref 227, .int x1, .int x2, .int x3] [.int s0, .ref 227] h
set_option maxRecDepth 100000 in
set_option maxHeartbeats 4000000 in
theorem e_X7_curfew_0 (x1 : Int32) (x2 : Int32) (x3 : Int32) (h : Hp) : F_X7_curfew [.ref 227, .int x1, .int x2, .int x3] h = bI (F_X7_isAirport [.int x1] h) (fun v2 h1 => if v2 = 0 then f_X7_curfew_37 x1 x2 x3 1 h1 else bI (F_X7_isIn [.int x2, .int 0, .int 72] h1) (fun v4 h3 => if v4 = 0 then f_X7_curfew_36 x1 x2 x3 h3 else bI (F_X7_isIn [.int x3, .int x2, .int 72] h3) (fun v6 h5 => if v6 = 0 then f_X7_curfew_36 x1 x2 x3 h5 else f_X7_curfew_37 x1 x2 x3 0 h5) (hnk [])) (hnk [])) (hnk []) :=
  (exL_it SKc SKn SKr CS (lkp T_X7_curfew) [F_X7_isAirport, F_X7_isIn, F_X7_holds] [] [] [36, 37] 16 0 [.ref 227, .int x1, .int x2, .int x3] [] h).trans rfl
set_option maxRecDepth 100000 in
set_option maxHeartbeats 4000000 in
theorem e_X7_curfew_36 (x1 : Int32) (x2 : Int32) (x3 : Int32) (h : Hp) : f_X7_curfew_36 x1 x2 x3 h = f_X7_curfew_37 x1 x2 x3 2 h :=
  (exL_it SKc SKn SKr CS (lkp T_X7_curfew) [F_X7_isAirport, F_X7_isIn, F_X7_holds] [] [] [36, 37] 1 36 [.ref 227, .int x1, .int x2, .int x3] [.ref 227] h).trans rfl
set_option maxRecDepth 100000 in
set_option maxHeartbeats 4000000 in
theorem e_X7_curfew_37 (x1 : Int32) (x2 : Int32) (x3 : Int32) (s0 : Int32) (h : Hp) : f_X7_curfew_37 x1 x2 x3 s0 h = bI (F_X7_holds [.ref 227, .int s0] h) (fun v2 h1 => if v2 = 0 then rtn none h1 else gd (inb x1 4) (gd (inb x1 4) (rtn none (wr (wr h1 232 x1.toNatClampNeg x2) 233 x1.toNatClampNeg x3)))) (hnk []) :=
  (exL_it SKc SKn SKr CS (lkp T_X7_curfew) [F_X7_isAirport, F_X7_isIn, F_X7_holds] [] [] [36, 37] 13 37 [.ref 227, .int x1, .int x2, .int x3] [.int s0, .ref 227] h).trans rfl

def T_X7_quota : List (Nat × Ent) := [(0, ([], .aload_n 0, 1, 0, 0, 0, 0)),
  (1, ([], .iload_n 1, 1, 1, 0, 0, 0)),
  (2, ([], .invokestatic 160, 3, 0, 5, 99, 0)),
  (5, ([], .ifCond .ne 7, 3, 12, 0, 0, 0)),
  (8, ([], .iconst 1, 1, 0, 0, 0, 1)),
  (9, ([], .goto 19, 3, 28, 0, 0, 0)),
  (12, ([], .iload_n 2, 1, 2, 0, 0, 0)),
  (13, ([], .iconst 0, 1, 0, 0, 0, 0)),
  (14, ([], .sipush 9999, 3, 0, 0, 0, 9999)),
  (17, ([], .invokestatic 156, 3, 1, 13, 99, 0)),
  (20, ([], .ifCond .eq 7, 3, 27, 0, 0, 0)),
  (23, ([], .iconst 0, 1, 0, 0, 0, 0)),
  (24, ([], .goto 4, 3, 28, 0, 0, 0)),
  (27, ([], .iconst 2, 1, 0, 0, 0, 2)),
  (28, ([false, false, false, true], .invokevirtual 170, 3, 2, 9, 1, 0)),
  (31, ([], .ifCond .ne 5, 3, 36, 0, 0, 0)),
  (34, ([], .iconst 0, 1, 0, 0, 0, 0)),
  (35, ([], .ireturn, 1, 0, 0, 0, 0)),
  (36, ([], .aload_n 0, 1, 0, 0, 0, 0)),
  (37, ([], .getfield 28, 3, 8, 3, 916, 0)),
  (40, ([], .iload_n 1, 1, 1, 0, 0, 0)),
  (41, ([], .iaload, 1, 0, 0, 0, 0)),
  (42, ([], .istore_n 3, 1, 3, 0, 0, 0)),
  (43, ([], .aload_n 0, 1, 0, 0, 0, 0)),
  (44, ([], .getfield 28, 3, 8, 3, 916, 0)),
  (47, ([], .iload_n 1, 1, 1, 0, 0, 0)),
  (48, ([], .iload_n 2, 1, 2, 0, 0, 0)),
  (49, ([], .iastore, 1, 0, 0, 0, 0)),
  (50, ([], .iload_n 3, 1, 3, 0, 0, 0)),
  (51, ([], .ireturn, 1, 0, 0, 0, 0))]
noncomputable def E_X7_quota : Kt := exL SKc SKn SKr CS (lkp T_X7_quota) [F_X7_isAirport, F_X7_isIn, F_X7_holds] [] []
noncomputable def F_X7_quota : Fn := fun as h => gd (chkA 3 as) (E_X7_quota 0 (pad 4 as) [] h)
noncomputable def f_X7_quota_28 (x1 : Int32) (x2 : Int32) (s0 : Int32) (h : Hp) : Res := E_X7_quota 28 [.ref 227, .int x1, .int x2, .retAddr 0] [.int s0, .ref 227] h
set_option maxRecDepth 100000 in
set_option maxHeartbeats 4000000 in
theorem e_X7_quota_0 (x1 : Int32) (x2 : Int32) (h : Hp) : F_X7_quota [.ref 227, .int x1, .int x2] h = bI (F_X7_isAirport [.int x1] h) (fun v2 h1 => if v2 = 0 then f_X7_quota_28 x1 x2 1 h1 else bI (F_X7_isIn [.int x2, .int 0, .int 9999] h1) (fun v4 h3 => if v4 = 0 then f_X7_quota_28 x1 x2 2 h3 else f_X7_quota_28 x1 x2 0 h3) (hnk [])) (hnk []) :=
  (exL_it SKc SKn SKr CS (lkp T_X7_quota) [F_X7_isAirport, F_X7_isIn, F_X7_holds] [] [] [28] 11 0 [.ref 227, .int x1, .int x2, .retAddr 0] [] h).trans rfl
set_option maxRecDepth 100000 in
set_option maxHeartbeats 4000000 in
theorem e_X7_quota_28 (x1 : Int32) (x2 : Int32) (s0 : Int32) (h : Hp) : f_X7_quota_28 x1 x2 s0 h = bI (F_X7_holds [.ref 227, .int s0] h) (fun v2 h1 => if v2 = 0 then rtn (some (.int 0)) h1 else gd (inb x1 4) (gd (inb x1 4) (rtn (some (.int (rd h1 234 x1.toNatClampNeg))) (wr h1 234 x1.toNatClampNeg x2)))) (hnk []) :=
  (exL_it SKc SKn SKr CS (lkp T_X7_quota) [F_X7_isAirport, F_X7_isIn, F_X7_holds] [] [] [28] 14 28 [.ref 227, .int x1, .int x2, .retAddr 0] [.int s0, .ref 227] h).trans rfl

def T_X7_merge : List (Nat × Ent) := [(0, ([], .iload_n 1, 1, 1, 0, 0, 0)),
  (1, ([], .invokestatic 177, 3, 0, 5, 99, 0)),
  (4, ([], .ifCond .eq 14, 3, 18, 0, 0, 0)),
  (7, ([], .iload_n 2, 1, 2, 0, 0, 0)),
  (8, ([], .invokestatic 177, 3, 0, 5, 99, 0)),
  (11, ([], .ifCond .eq 7, 3, 18, 0, 0, 0)),
  (14, ([], .iconst 1, 1, 0, 0, 0, 1)),
  (15, ([], .goto 4, 3, 19, 0, 0, 0)),
  (18, ([false, false, false, true, true, true, true], .iconst 0, 1, 0, 0, 0, 0)),
  (19, ([false, false, false, true, true, true, true], .istore_n 3, 1, 3, 0, 0, 0)),
  (20, ([], .aload_n 0, 1, 0, 0, 0, 0)),
  (21, ([], .iload_n 3, 1, 3, 0, 0, 0)),
  (22, ([], .ifCond .ne 7, 3, 29, 0, 0, 0)),
  (25, ([], .iconst 1, 1, 0, 0, 0, 1)),
  (26, ([], .goto 23, 3, 49, 0, 0, 0)),
  (29, ([], .aload_n 0, 1, 0, 0, 0, 0)),
  (30, ([], .getfield 31, 3, 9, 3, 917, 0)),
  (33, ([], .iload_n 1, 1, 1, 0, 0, 0)),
  (34, ([], .iaload, 1, 0, 0, 0, 0)),
  (35, ([], .aload_n 0, 1, 0, 0, 0, 0)),
  (36, ([], .getfield 31, 3, 9, 3, 917, 0)),
  (39, ([], .iload_n 2, 1, 2, 0, 0, 0)),
  (40, ([], .iaload, 1, 0, 0, 0, 0)),
  (41, ([], .if_icmp .ne 7, 3, 48, 0, 0, 0)),
  (44, ([], .iconst 2, 1, 0, 0, 0, 2)),
  (45, ([], .goto 4, 3, 49, 0, 0, 0)),
  (48, ([], .iconst 0, 1, 0, 0, 0, 0)),
  (49, ([false, false, false, true, true, true, true], .invokevirtual 170, 3, 1, 9, 1, 0)),
  (52, ([], .ifCond .ne 5, 3, 57, 0, 0, 0)),
  (55, ([], .iconst 0, 1, 0, 0, 0, 0)),
  (56, ([], .ireturn, 1, 0, 0, 0, 0)),
  (57, ([], .aload_n 0, 1, 0, 0, 0, 0)),
  (58, ([], .getfield 31, 3, 9, 3, 917, 0)),
  (61, ([], .iload_n 2, 1, 2, 0, 0, 0)),
  (62, ([], .iaload, 1, 0, 0, 0, 0)),
  (63, ([], .istore 4, 2, 4, 0, 0, 0)),
  (65, ([], .iconst 0, 1, 0, 0, 0, 0)),
  (66, ([], .istore 5, 2, 5, 0, 0, 0)),
  (68, ([], .iconst 0, 1, 0, 0, 0, 0)),
  (69, ([], .istore 6, 2, 6, 0, 0, 0)),
  (71, ([false, false, true, true, false, false, false], .iload 6, 2, 6, 0, 0, 0)),
  (73, ([], .bipush 10, 2, 0, 0, 0, 10)),
  (75, ([], .if_icmp .ge 70, 3, 145, 0, 0, 0)),
  (78, ([], .aload_n 0, 1, 0, 0, 0, 0)),
  (79, ([], .getfield 31, 3, 9, 3, 917, 0)),
  (82, ([], .iload 6, 2, 6, 0, 0, 0)),
  (84, ([], .aload_n 0, 1, 0, 0, 0, 0)),
  (85, ([], .getfield 31, 3, 9, 3, 917, 0)),
  (88, ([], .iload 6, 2, 6, 0, 0, 0)),
  (90, ([], .iaload, 1, 0, 0, 0, 0)),
  (91, ([], .iload 4, 2, 4, 0, 0, 0)),
  (93, ([], .if_icmp .ne 12, 3, 105, 0, 0, 0)),
  (96, ([], .aload_n 0, 1, 0, 0, 0, 0)),
  (97, ([], .getfield 31, 3, 9, 3, 917, 0)),
  (100, ([], .iload_n 1, 1, 1, 0, 0, 0)),
  (101, ([], .iaload, 1, 0, 0, 0, 0)),
  (102, ([], .goto 10, 3, 112, 0, 0, 0)),
  (105, ([], .aload_n 0, 1, 0, 0, 0, 0)),
  (106, ([], .getfield 31, 3, 9, 3, 917, 0)),
  (109, ([], .iload 6, 2, 6, 0, 0, 0)),
  (111, ([], .iaload, 1, 0, 0, 0, 0)),
  (112, ([false, false, true, true, false, false, false], .iastore, 1, 0, 0, 0, 0)),
  (113, ([], .iload 5, 2, 5, 0, 0, 0)),
  (115, ([], .aload_n 0, 1, 0, 0, 0, 0)),
  (116, ([], .getfield 31, 3, 9, 3, 917, 0)),
  (119, ([], .iload 6, 2, 6, 0, 0, 0)),
  (121, ([], .iaload, 1, 0, 0, 0, 0)),
  (122, ([], .aload_n 0, 1, 0, 0, 0, 0)),
  (123, ([], .getfield 31, 3, 9, 3, 917, 0)),
  (126, ([], .iload_n 1, 1, 1, 0, 0, 0)),
  (127, ([], .iaload, 1, 0, 0, 0, 0)),
  (128, ([], .if_icmp .ne 7, 3, 135, 0, 0, 0)),
  (131, ([], .iconst 1, 1, 0, 0, 0, 1)),
  (132, ([], .goto 4, 3, 136, 0, 0, 0)),
  (135, ([], .iconst 0, 1, 0, 0, 0, 0)),
  (136, ([false, false, true, true, false, true, false], .iadd, 1, 0, 0, 0, 0)),
  (137, ([], .istore 5, 2, 5, 0, 0, 0)),
  (139, ([], .iinc 6 1, 3, 6, 0, 0, 1)),
  (142, ([], .goto (-71), 3, 71, 0, 0, 0)),
  (145, ([], .iload 5, 2, 5, 0, 0, 0)),
  (147, ([], .ireturn, 1, 0, 0, 0, 0))]
noncomputable def E_X7_merge : Kt := exL SKc SKn SKr CS (lkp T_X7_merge) [F_X7_isCarrier, F_X7_holds] [] []
noncomputable def F_X7_merge : Fn := fun as h => gd (chkA 3 as) (E_X7_merge 0 (pad 7 as) [] h)
noncomputable def f_X7_merge_18 (x1 : Int32) (x2 : Int32) (h : Hp) : Res := E_X7_merge 18 [.ref 227, .int x1, .int x2, .retAddr 0, .retAddr 0, .retAddr 0, .retAddr 0] [] h
noncomputable def f_X7_merge_19 (x1 : Int32) (x2 : Int32) (s0 : Int32) (h : Hp) : Res := E_X7_merge 19 [.ref 227, .int x1, .int x2, .retAddr 0, .retAddr 0, .retAddr 0, .retAddr 0] [.int s0] h
noncomputable def f_X7_merge_49 (x1 : Int32) (x2 : Int32) (s0 : Int32) (h : Hp) : Res := E_X7_merge 49 [.ref 227, .int x1, .int x2, .retAddr 0, .retAddr 0, .retAddr 0, .retAddr 0] [.int s0, .ref 227] h
noncomputable def f_X7_merge_71 (x1 : Int32) (x4 : Int32) (x5 : Int32) (x6 : Int32) (h : Hp) : Res := E_X7_merge 71 [.ref 227, .int x1, .retAddr 0, .retAddr 0, .int x4, .int x5, .int x6] [] h
noncomputable def f_X7_merge_112 (x1 : Int32) (x4 : Int32) (x5 : Int32) (x6 : Int32) (s0 : Int32) (s1 : Int32) (h : Hp) : Res := E_X7_merge 112 [.ref 227, .int x1, .retAddr 0, .retAddr 0, .int x4, .int x5, .int x6] [.int s0, .int s1, .ref 235] h
noncomputable def f_X7_merge_136 (x1 : Int32) (x4 : Int32) (x6 : Int32) (s0 : Int32) (s1 : Int32) (h : Hp) : Res := E_X7_merge 136 [.ref 227, .int x1, .retAddr 0, .retAddr 0, .int x4, .retAddr 0, .int x6] [.int s0, .int s1] h
set_option maxRecDepth 100000 in
set_option maxHeartbeats 4000000 in
theorem e_X7_merge_0 (x1 : Int32) (x2 : Int32) (h : Hp) : F_X7_merge [.ref 227, .int x1, .int x2] h = bI (F_X7_isCarrier [.int x1] h) (fun v2 h1 => if v2 = 0 then f_X7_merge_18 x1 x2 h1 else bI (F_X7_isCarrier [.int x2] h1) (fun v4 h3 => if v4 = 0 then f_X7_merge_18 x1 x2 h3 else f_X7_merge_19 x1 x2 1 h3) (hnk [])) (hnk []) :=
  (exL_it SKc SKn SKr CS (lkp T_X7_merge) [F_X7_isCarrier, F_X7_holds] [] [] [18, 19, 49, 71, 112, 136] 8 0 [.ref 227, .int x1, .int x2, .retAddr 0, .retAddr 0, .retAddr 0, .retAddr 0] [] h).trans rfl
set_option maxRecDepth 100000 in
set_option maxHeartbeats 4000000 in
theorem e_X7_merge_18 (x1 : Int32) (x2 : Int32) (h : Hp) : f_X7_merge_18 x1 x2 h = f_X7_merge_19 x1 x2 0 h :=
  (exL_it SKc SKn SKr CS (lkp T_X7_merge) [F_X7_isCarrier, F_X7_holds] [] [] [18, 19, 49, 71, 112, 136] 1 18 [.ref 227, .int x1, .int x2, .retAddr 0, .retAddr 0, .retAddr 0, .retAddr 0] [] h).trans rfl
set_option maxRecDepth 100000 in
set_option maxHeartbeats 4000000 in
theorem e_X7_merge_19 (x1 : Int32) (x2 : Int32) (s0 : Int32) (h : Hp) : f_X7_merge_19 x1 x2 s0 h = if s0 = 0 then f_X7_merge_49 x1 x2 1 h else gd (inb x1 10) (gd (inb x2 10) (if (rd h 235 x1.toNatClampNeg) = (rd h 235 x2.toNatClampNeg) then f_X7_merge_49 x1 x2 2 h else f_X7_merge_49 x1 x2 0 h)) :=
  (exL_it SKc SKn SKr CS (lkp T_X7_merge) [F_X7_isCarrier, F_X7_holds] [] [] [18, 19, 49, 71, 112, 136] 15 19 [.ref 227, .int x1, .int x2, .retAddr 0, .retAddr 0, .retAddr 0, .retAddr 0] [.int s0] h).trans rfl
set_option maxRecDepth 100000 in
set_option maxHeartbeats 4000000 in
theorem e_X7_merge_49 (x1 : Int32) (x2 : Int32) (s0 : Int32) (h : Hp) : f_X7_merge_49 x1 x2 s0 h = bI (F_X7_holds [.ref 227, .int s0] h) (fun v2 h1 => if v2 = 0 then rtn (some (.int 0)) h1 else gd (inb x2 10) (f_X7_merge_71 x1 (rd h1 235 x2.toNatClampNeg) 0 0 h1)) (hnk []) :=
  (exL_it SKc SKn SKr CS (lkp T_X7_merge) [F_X7_isCarrier, F_X7_holds] [] [] [18, 19, 49, 71, 112, 136] 11 49 [.ref 227, .int x1, .int x2, .retAddr 0, .retAddr 0, .retAddr 0, .retAddr 0] [.int s0, .ref 227] h).trans rfl
set_option maxRecDepth 100000 in
set_option maxHeartbeats 4000000 in
theorem e_X7_merge_71 (x1 : Int32) (x4 : Int32) (x5 : Int32) (x6 : Int32) (h : Hp) : f_X7_merge_71 x1 x4 x5 x6 h = if x6 < 10 then gd (inb x6 10) (if (rd h 235 x6.toNatClampNeg) = x4 then gd (inb x1 10) (f_X7_merge_112 x1 x4 x5 x6 (rd h 235 x1.toNatClampNeg) x6 h) else gd (inb x6 10) (f_X7_merge_112 x1 x4 x5 x6 (rd h 235 x6.toNatClampNeg) x6 h)) else rtn (some (.int x5)) h :=
  (exL_it SKc SKn SKr CS (lkp T_X7_merge) [F_X7_isCarrier, F_X7_holds] [] [] [18, 19, 49, 71, 112, 136] 17 71 [.ref 227, .int x1, .retAddr 0, .retAddr 0, .int x4, .int x5, .int x6] [] h).trans rfl
set_option maxRecDepth 100000 in
set_option maxHeartbeats 4000000 in
theorem e_X7_merge_112 (x1 : Int32) (x4 : Int32) (x5 : Int32) (x6 : Int32) (s0 : Int32) (s1 : Int32) (h : Hp) : f_X7_merge_112 x1 x4 x5 x6 s0 s1 h = gd (inb s1 10) (gd (inb x6 10) (gd (inb x1 10) (if (rd (wr h 235 s1.toNatClampNeg s0) 235 x6.toNatClampNeg) = (rd (wr h 235 s1.toNatClampNeg s0) 235 x1.toNatClampNeg) then f_X7_merge_136 x1 x4 x6 1 x5 (wr h 235 s1.toNatClampNeg s0) else f_X7_merge_136 x1 x4 x6 0 x5 (wr h 235 s1.toNatClampNeg s0)))) :=
  (exL_it SKc SKn SKr CS (lkp T_X7_merge) [F_X7_isCarrier, F_X7_holds] [] [] [18, 19, 49, 71, 112, 136] 13 112 [.ref 227, .int x1, .retAddr 0, .retAddr 0, .int x4, .int x5, .int x6] [.int s0, .int s1, .ref 235] h).trans rfl
set_option maxRecDepth 100000 in
set_option maxHeartbeats 4000000 in
theorem e_X7_merge_136 (x1 : Int32) (x4 : Int32) (x6 : Int32) (s0 : Int32) (s1 : Int32) (h : Hp) : f_X7_merge_136 x1 x4 x6 s0 s1 h = f_X7_merge_71 x1 x4 (s1 + s0) (x6 + 1) h :=
  (exL_it SKc SKn SKr CS (lkp T_X7_merge) [F_X7_isCarrier, F_X7_holds] [] [] [18, 19, 49, 71, 112, 136] 4 136 [.ref 227, .int x1, .retAddr 0, .retAddr 0, .int x4, .retAddr 0, .int x6] [.int s0, .int s1] h).trans rfl

def T_X7_isNight : List (Nat × Ent) := [(0, ([], .iload_n 0, 1, 0, 0, 0, 0)),
  (1, ([], .bipush 18, 2, 0, 0, 0, 18)),
  (3, ([], .if_icmp .lt 9, 3, 12, 0, 0, 0)),
  (6, ([], .iload_n 0, 1, 0, 0, 0, 0)),
  (7, ([], .bipush 65, 2, 0, 0, 0, 65)),
  (9, ([], .if_icmp .le 7, 3, 16, 0, 0, 0)),
  (12, ([], .iconst 1, 1, 0, 0, 0, 1)),
  (13, ([], .goto 4, 3, 17, 0, 0, 0)),
  (16, ([], .iconst 0, 1, 0, 0, 0, 0)),
  (17, ([], .ireturn, 1, 0, 1, 0, 0))]
noncomputable def E_X7_isNight : Kt := exL SKc SKn SKr CS (lkp T_X7_isNight) [] [] []
noncomputable def F_X7_isNight : Fn := fun as h => gd (chkA 1 as) (E_X7_isNight 0 (pad 1 as) [] h)
set_option maxRecDepth 100000 in
set_option maxHeartbeats 4000000 in
theorem e_X7_isNight_0 (x0 : Int32) (h : Hp) : F_X7_isNight [.int x0] h = if x0 < 18 then rtn (some (.int 1)) h else if 65 < x0 then rtn (some (.int 1)) h else rtn (some (.int 0)) h :=
  (exL_it SKc SKn SKr CS (lkp T_X7_isNight) [] [] [] [] 9 0 [.int x0] [] h).trans rfl

def T_X7_isThere : List (Nat × Ent) := [(0, ([], .aload_n 0, 1, 0, 0, 0, 0)),
  (1, ([], .getfield 142, 3, 50, 3, 958, 0)),
  (4, ([], .iload_n 1, 1, 1, 0, 0, 0)),
  (5, ([], .baload, 1, 0, 0, 0, 0)),
  (6, ([], .ifCond .ne 47, 3, 53, 0, 0, 0)),
  (9, ([], .aload_n 0, 1, 0, 0, 0, 0)),
  (10, ([], .getfield 112, 3, 40, 3, 948, 0)),
  (13, ([], .iload_n 1, 1, 1, 0, 0, 0)),
  (14, ([], .iaload, 1, 0, 0, 0, 0)),
  (15, ([], .iload_n 2, 1, 2, 0, 0, 0)),
  (16, ([], .if_icmp .ne 37, 3, 53, 0, 0, 0)),
  (19, ([], .aload_n 0, 1, 0, 0, 0, 0)),
  (20, ([], .getfield 118, 3, 42, 3, 950, 0)),
  (23, ([], .iload_n 1, 1, 1, 0, 0, 0)),
  (24, ([], .iaload, 1, 0, 0, 0, 0)),
  (25, ([], .iload_n 3, 1, 3, 0, 0, 0)),
  (26, ([], .if_icmp .ne 27, 3, 53, 0, 0, 0)),
  (29, ([], .iload 4, 2, 4, 0, 0, 0)),
  (31, ([], .aload_n 0, 1, 0, 0, 0, 0)),
  (32, ([], .getfield 124, 3, 44, 3, 952, 0)),
  (35, ([], .iload_n 1, 1, 1, 0, 0, 0)),
  (36, ([], .iaload, 1, 0, 0, 0, 0)),
  (37, ([], .aload_n 0, 1, 0, 0, 0, 0)),
  (38, ([], .getfield 127, 3, 45, 3, 953, 0)),
  (41, ([], .iload_n 1, 1, 1, 0, 0, 0)),
  (42, ([], .iaload, 1, 0, 0, 0, 0)),
  (43, ([], .invokestatic 156, 3, 0, 13, 99, 0)),
  (46, ([], .ifCond .eq 7, 3, 53, 0, 0, 0)),
  (49, ([], .iconst 1, 1, 0, 0, 0, 1)),
  (50, ([], .goto 4, 3, 54, 0, 0, 0)),
  (53, ([], .iconst 0, 1, 0, 0, 0, 0)),
  (54, ([], .ireturn, 1, 0, 1, 0, 0))]
noncomputable def E_X7_isThere : Kt := exL SKc SKn SKr CS (lkp T_X7_isThere) [F_X7_isIn] [] []
noncomputable def F_X7_isThere : Fn := fun as h => gd (chkA 5 as) (E_X7_isThere 0 (pad 5 as) [] h)
set_option maxRecDepth 100000 in
set_option maxHeartbeats 4000000 in
theorem e_X7_isThere_0 (x1 : Int32) (x2 : Int32) (x3 : Int32) (x4 : Int32) (h : Hp) : F_X7_isThere [.ref 227, .int x1, .int x2, .int x3, .int x4] h = gd (inb x1 60) (if (rd h 272 x1.toNatClampNeg) = 0 then gd (inb x1 60) (if (rd h 262 x1.toNatClampNeg) = x2 then gd (inb x1 60) (if (rd h 264 x1.toNatClampNeg) = x3 then gd (inb x1 60) (gd (inb x1 60) (bI (F_X7_isIn [.int x4, .int (rd h 266 x1.toNatClampNeg), .int (rd h 267 x1.toNatClampNeg)] h) (fun v2 h1 => if v2 = 0 then rtn (some (.int 0)) h1 else rtn (some (.int 1)) h1) (hnk []))) else rtn (some (.int 0)) h) else rtn (some (.int 0)) h) else rtn (some (.int 0)) h) :=
  (exL_it SKc SKn SKr CS (lkp T_X7_isThere) [F_X7_isIn] [] [] [] 31 0 [.ref 227, .int x1, .int x2, .int x3, .int x4] [] h).trans rfl

def T_X7_loadOf : List (Nat × Ent) := [(0, ([], .iconst 0, 1, 0, 0, 0, 0)),
  (1, ([], .istore 7, 2, 7, 0, 0, 0)),
  (3, ([], .iconst 0, 1, 0, 0, 0, 0)),
  (4, ([], .istore 8, 2, 8, 0, 0, 0)),
  (6, ([false, false, false, false, false, false, false, false, false, true], .iload 8, 2, 8, 0, 0, 0)),
  (8, ([], .aload_n 0, 1, 0, 0, 0, 0)),
  (9, ([], .getfield 167, 3, 37, 2, 945, 0)),
  (12, ([], .if_icmp .ge 77, 3, 89, 0, 0, 0)),
  (15, ([], .aload_n 0, 1, 0, 0, 0, 0)),
  (16, ([], .iload 8, 2, 8, 0, 0, 0)),
  (18, ([], .iload_n 1, 1, 1, 0, 0, 0)),
  (19, ([], .iload_n 3, 1, 3, 0, 0, 0)),
  (20, ([], .iload 4, 2, 4, 0, 0, 0)),
  (22, ([], .invokevirtual 180, 3, 0, 21, 1, 0)),
  (25, ([], .ifCond .eq 40, 3, 65, 0, 0, 0)),
  (28, ([], .aload_n 0, 1, 0, 0, 0, 0)),
  (29, ([], .getfield 121, 3, 43, 3, 951, 0)),
  (32, ([], .iload 8, 2, 8, 0, 0, 0)),
  (34, ([], .iaload, 1, 0, 0, 0, 0)),
  (35, ([], .iload 5, 2, 5, 0, 0, 0)),
  (37, ([], .iload 6, 2, 6, 0, 0, 0)),
  (39, ([], .invokestatic 156, 3, 1, 13, 99, 0)),
  (42, ([], .ifCond .eq 23, 3, 65, 0, 0, 0)),
  (45, ([], .iload_n 2, 1, 2, 0, 0, 0)),
  (46, ([], .iconst 2, 1, 0, 0, 0, 2)),
  (47, ([], .if_icmp .eq 14, 3, 61, 0, 0, 0)),
  (50, ([], .aload_n 0, 1, 0, 0, 0, 0)),
  (51, ([], .getfield 115, 3, 41, 3, 949, 0)),
  (54, ([], .iload 8, 2, 8, 0, 0, 0)),
  (56, ([], .iaload, 1, 0, 0, 0, 0)),
  (57, ([], .iload_n 2, 1, 2, 0, 0, 0)),
  (58, ([], .if_icmp .ne 7, 3, 65, 0, 0, 0)),
  (61, ([false, false, false, false, false, false, false, false, false, true], .iconst 1, 1, 0, 0, 0, 1)),
  (62, ([], .goto 4, 3, 66, 0, 0, 0)),
  (65, ([false, false, false, false, false, false, false, false, false, true], .iconst 0, 1, 0, 0, 0, 0)),
  (66, ([false, false, false, false, false, false, false, false, false, true], .istore 9, 2, 9, 0, 0, 0)),
  (68, ([], .iload 7, 2, 7, 0, 0, 0)),
  (70, ([], .iload 9, 2, 9, 0, 0, 0)),
  (72, ([], .ifCond .eq 7, 3, 79, 0, 0, 0)),
  (75, ([], .iconst 1, 1, 0, 0, 0, 1)),
  (76, ([], .goto 4, 3, 80, 0, 0, 0)),
  (79, ([], .iconst 0, 1, 0, 0, 0, 0)),
  (80, ([false, false, false, false, false, false, false, true, false, true], .iadd, 1, 0, 0, 0, 0)),
  (81, ([], .istore 7, 2, 7, 0, 0, 0)),
  (83, ([], .iinc 8 1, 3, 8, 0, 0, 1)),
  (86, ([], .goto (-80), 3, 6, 0, 0, 0)),
  (89, ([], .iload 7, 2, 7, 0, 0, 0)),
  (91, ([], .ireturn, 1, 0, 0, 0, 0))]
noncomputable def E_X7_loadOf : Kt := exL SKc SKn SKr CS (lkp T_X7_loadOf) [F_X7_isThere, F_X7_isIn] [] []
noncomputable def F_X7_loadOf : Fn := fun as h => gd (chkA 7 as) (E_X7_loadOf 0 (pad 10 as) [] h)
noncomputable def f_X7_loadOf_6 (x1 : Int32) (x2 : Int32) (x3 : Int32) (x4 : Int32) (x5 : Int32) (x6 : Int32) (x7 : Int32) (x8 : Int32) (h : Hp) : Res := E_X7_loadOf 6 [.ref 227, .int x1, .int x2, .int x3, .int x4, .int x5, .int x6, .int x7, .int x8, .retAddr 0] [] h
noncomputable def f_X7_loadOf_61 (x1 : Int32) (x2 : Int32) (x3 : Int32) (x4 : Int32) (x5 : Int32) (x6 : Int32) (x7 : Int32) (x8 : Int32) (h : Hp) : Res := E_X7_loadOf 61 [.ref 227, .int x1, .int x2, .int x3, .int x4, .int x5, .int x6, .int x7, .int x8, .retAddr 0] [] h
noncomputable def f_X7_loadOf_65 (x1 : Int32) (x2 : Int32) (x3 : Int32) (x4 : Int32) (x5 : Int32) (x6 : Int32) (x7 : Int32) (x8 : Int32) (h : Hp) : Res := E_X7_loadOf 65 [.ref 227, .int x1, .int x2, .int x3, .int x4, .int x5, .int x6, .int x7, .int x8, .retAddr 0] [] h
noncomputable def f_X7_loadOf_66 (x1 : Int32) (x2 : Int32) (x3 : Int32) (x4 : Int32) (x5 : Int32) (x6 : Int32) (x7 : Int32) (x8 : Int32) (s0 : Int32) (h : Hp) : Res := E_X7_loadOf 66 [.ref 227, .int x1, .int x2, .int x3, .int x4, .int x5, .int x6, .int x7, .int x8, .retAddr 0] [.int s0] h
noncomputable def f_X7_loadOf_80 (x1 : Int32) (x2 : Int32) (x3 : Int32) (x4 : Int32) (x5 : Int32) (x6 : Int32) (x8 : Int32) (s0 : Int32) (s1 : Int32) (h : Hp) : Res := E_X7_loadOf 80 [.ref 227, .int x1, .int x2, .int x3, .int x4, .int x5, .int x6, .retAddr 0, .int x8, .retAddr 0] [.int s0, .int s1] h
set_option maxRecDepth 100000 in
set_option maxHeartbeats 4000000 in
theorem e_X7_loadOf_0 (x1 : Int32) (x2 : Int32) (x3 : Int32) (x4 : Int32) (x5 : Int32) (x6 : Int32) (h : Hp) : F_X7_loadOf [.ref 227, .int x1, .int x2, .int x3, .int x4, .int x5, .int x6] h = f_X7_loadOf_6 x1 x2 x3 x4 x5 x6 0 0 h :=
  (exL_it SKc SKn SKr CS (lkp T_X7_loadOf) [F_X7_isThere, F_X7_isIn] [] [] [6, 61, 65, 66, 80] 4 0 [.ref 227, .int x1, .int x2, .int x3, .int x4, .int x5, .int x6, .retAddr 0, .retAddr 0, .retAddr 0] [] h).trans rfl
set_option maxRecDepth 100000 in
set_option maxHeartbeats 4000000 in
theorem e_X7_loadOf_6 (x1 : Int32) (x2 : Int32) (x3 : Int32) (x4 : Int32) (x5 : Int32) (x6 : Int32) (x7 : Int32) (x8 : Int32) (h : Hp) : f_X7_loadOf_6 x1 x2 x3 x4 x5 x6 x7 x8 h = if x8 < (rd h 227 37) then bI (F_X7_isThere [.ref 227, .int x8, .int x1, .int x3, .int x4] h) (fun v2 h1 => if v2 = 0 then f_X7_loadOf_65 x1 x2 x3 x4 x5 x6 x7 x8 h1 else gd (inb x8 60) (bI (F_X7_isIn [.int (rd h1 265 x8.toNatClampNeg), .int x5, .int x6] h1) (fun v4 h3 => if v4 = 0 then f_X7_loadOf_65 x1 x2 x3 x4 x5 x6 x7 x8 h3 else if x2 = 2 then f_X7_loadOf_61 x1 x2 x3 x4 x5 x6 x7 x8 h3 else gd (inb x8 60) (if (rd h3 263 x8.toNatClampNeg) = x2 then f_X7_loadOf_61 x1 x2 x3 x4 x5 x6 x7 x8 h3 else f_X7_loadOf_65 x1 x2 x3 x4 x5 x6 x7 x8 h3)) (hnk []))) (hnk []) else rtn (some (.int x7)) h :=
  (exL_it SKc SKn SKr CS (lkp T_X7_loadOf) [F_X7_isThere, F_X7_isIn] [] [] [6, 61, 65, 66, 80] 28 6 [.ref 227, .int x1, .int x2, .int x3, .int x4, .int x5, .int x6, .int x7, .int x8, .retAddr 0] [] h).trans rfl
set_option maxRecDepth 100000 in
set_option maxHeartbeats 4000000 in
theorem e_X7_loadOf_61 (x1 : Int32) (x2 : Int32) (x3 : Int32) (x4 : Int32) (x5 : Int32) (x6 : Int32) (x7 : Int32) (x8 : Int32) (h : Hp) : f_X7_loadOf_61 x1 x2 x3 x4 x5 x6 x7 x8 h = f_X7_loadOf_66 x1 x2 x3 x4 x5 x6 x7 x8 1 h :=
  (exL_it SKc SKn SKr CS (lkp T_X7_loadOf) [F_X7_isThere, F_X7_isIn] [] [] [6, 61, 65, 66, 80] 2 61 [.ref 227, .int x1, .int x2, .int x3, .int x4, .int x5, .int x6, .int x7, .int x8, .retAddr 0] [] h).trans rfl
set_option maxRecDepth 100000 in
set_option maxHeartbeats 4000000 in
theorem e_X7_loadOf_65 (x1 : Int32) (x2 : Int32) (x3 : Int32) (x4 : Int32) (x5 : Int32) (x6 : Int32) (x7 : Int32) (x8 : Int32) (h : Hp) : f_X7_loadOf_65 x1 x2 x3 x4 x5 x6 x7 x8 h = f_X7_loadOf_66 x1 x2 x3 x4 x5 x6 x7 x8 0 h :=
  (exL_it SKc SKn SKr CS (lkp T_X7_loadOf) [F_X7_isThere, F_X7_isIn] [] [] [6, 61, 65, 66, 80] 1 65 [.ref 227, .int x1, .int x2, .int x3, .int x4, .int x5, .int x6, .int x7, .int x8, .retAddr 0] [] h).trans rfl
set_option maxRecDepth 100000 in
set_option maxHeartbeats 4000000 in
theorem e_X7_loadOf_66 (x1 : Int32) (x2 : Int32) (x3 : Int32) (x4 : Int32) (x5 : Int32) (x6 : Int32) (x7 : Int32) (x8 : Int32) (s0 : Int32) (h : Hp) : f_X7_loadOf_66 x1 x2 x3 x4 x5 x6 x7 x8 s0 h = if s0 = 0 then f_X7_loadOf_80 x1 x2 x3 x4 x5 x6 x8 0 x7 h else f_X7_loadOf_80 x1 x2 x3 x4 x5 x6 x8 1 x7 h :=
  (exL_it SKc SKn SKr CS (lkp T_X7_loadOf) [F_X7_isThere, F_X7_isIn] [] [] [6, 61, 65, 66, 80] 6 66 [.ref 227, .int x1, .int x2, .int x3, .int x4, .int x5, .int x6, .int x7, .int x8, .retAddr 0] [.int s0] h).trans rfl
set_option maxRecDepth 100000 in
set_option maxHeartbeats 4000000 in
theorem e_X7_loadOf_80 (x1 : Int32) (x2 : Int32) (x3 : Int32) (x4 : Int32) (x5 : Int32) (x6 : Int32) (x8 : Int32) (s0 : Int32) (s1 : Int32) (h : Hp) : f_X7_loadOf_80 x1 x2 x3 x4 x5 x6 x8 s0 s1 h = f_X7_loadOf_6 x1 x2 x3 x4 x5 x6 (s1 + s0) (x8 + 1) h :=
  (exL_it SKc SKn SKr CS (lkp T_X7_loadOf) [F_X7_isThere, F_X7_isIn] [] [] [6, 61, 65, 66, 80] 4 80 [.ref 227, .int x1, .int x2, .int x3, .int x4, .int x5, .int x6, .retAddr 0, .int x8, .retAddr 0] [.int s0, .int s1] h).trans rfl

def T_X7_noiseOf : List (Nat × Ent) := [(0, ([], .iconst 0, 1, 0, 0, 0, 0)),
  (1, ([], .istore_n 2, 1, 2, 0, 0, 0)),
  (2, ([], .iconst 0, 1, 0, 0, 0, 0)),
  (3, ([], .istore_n 3, 1, 3, 0, 0, 0)),
  (4, ([false, false, false, false, true], .iload_n 3, 1, 3, 0, 0, 0)),
  (5, ([], .aload_n 0, 1, 0, 0, 0, 0)),
  (6, ([], .getfield 167, 3, 37, 2, 945, 0)),
  (9, ([], .if_icmp .ge 81, 3, 90, 0, 0, 0)),
  (12, ([], .aload_n 0, 1, 0, 0, 0, 0)),
  (13, ([], .getfield 142, 3, 50, 3, 958, 0)),
  (16, ([], .iload_n 3, 1, 3, 0, 0, 0)),
  (17, ([], .baload, 1, 0, 0, 0, 0)),
  (18, ([], .ifCond .ne 29, 3, 47, 0, 0, 0)),
  (21, ([], .aload_n 0, 1, 0, 0, 0, 0)),
  (22, ([], .getfield 112, 3, 40, 3, 948, 0)),
  (25, ([], .iload_n 3, 1, 3, 0, 0, 0)),
  (26, ([], .iaload, 1, 0, 0, 0, 0)),
  (27, ([], .iload_n 1, 1, 1, 0, 0, 0)),
  (28, ([], .if_icmp .ne 19, 3, 47, 0, 0, 0)),
  (31, ([], .aload_n 0, 1, 0, 0, 0, 0)),
  (32, ([], .getfield 121, 3, 43, 3, 951, 0)),
  (35, ([], .iload_n 3, 1, 3, 0, 0, 0)),
  (36, ([], .iaload, 1, 0, 0, 0, 0)),
  (37, ([], .invokestatic 184, 3, 0, 5, 99, 0)),
  (40, ([], .ifCond .eq 7, 3, 47, 0, 0, 0)),
  (43, ([], .iconst 1, 1, 0, 0, 0, 1)),
  (44, ([], .goto 4, 3, 48, 0, 0, 0)),
  (47, ([false, false, false, false, true], .iconst 0, 1, 0, 0, 0, 0)),
  (48, ([false, false, false, false, true], .istore 4, 2, 4, 0, 0, 0)),
  (50, ([], .iload_n 2, 1, 2, 0, 0, 0)),
  (51, ([], .iload 4, 2, 4, 0, 0, 0)),
  (53, ([], .ifCond .eq 28, 3, 81, 0, 0, 0)),
  (56, ([], .aload_n 0, 1, 0, 0, 0, 0)),
  (57, ([], .getfield 130, 3, 46, 3, 954, 0)),
  (60, ([], .iload_n 3, 1, 3, 0, 0, 0)),
  (61, ([], .iaload, 1, 0, 0, 0, 0)),
  (62, ([], .aload_n 0, 1, 0, 0, 0, 0)),
  (63, ([], .getfield 127, 3, 45, 3, 953, 0)),
  (66, ([], .iload_n 3, 1, 3, 0, 0, 0)),
  (67, ([], .iaload, 1, 0, 0, 0, 0)),
  (68, ([], .aload_n 0, 1, 0, 0, 0, 0)),
  (69, ([], .getfield 124, 3, 44, 3, 952, 0)),
  (72, ([], .iload_n 3, 1, 3, 0, 0, 0)),
  (73, ([], .iaload, 1, 0, 0, 0, 0)),
  (74, ([], .isub, 1, 0, 0, 0, 0)),
  (75, ([], .iconst 1, 1, 0, 0, 0, 1)),
  (76, ([], .iadd, 1, 0, 0, 0, 0)),
  (77, ([], .imul, 1, 0, 0, 0, 0)),
  (78, ([], .goto 4, 3, 82, 0, 0, 0)),
  (81, ([], .iconst 0, 1, 0, 0, 0, 0)),
  (82, ([false, false, true, false, true], .iadd, 1, 0, 0, 0, 0)),
  (83, ([], .istore_n 2, 1, 2, 0, 0, 0)),
  (84, ([], .iinc 3 1, 3, 3, 0, 0, 1)),
  (87, ([], .goto (-83), 3, 4, 0, 0, 0)),
  (90, ([], .iload_n 2, 1, 2, 0, 0, 0)),
  (91, ([], .ireturn, 1, 0, 0, 0, 0))]
noncomputable def E_X7_noiseOf : Kt := exL SKc SKn SKr CS (lkp T_X7_noiseOf) [F_X7_isNight] [] []
noncomputable def F_X7_noiseOf : Fn := fun as h => gd (chkA 2 as) (E_X7_noiseOf 0 (pad 5 as) [] h)
noncomputable def f_X7_noiseOf_4 (x1 : Int32) (x2 : Int32) (x3 : Int32) (h : Hp) : Res := E_X7_noiseOf 4 [.ref 227, .int x1, .int x2, .int x3, .retAddr 0] [] h
noncomputable def f_X7_noiseOf_47 (x1 : Int32) (x2 : Int32) (x3 : Int32) (h : Hp) : Res := E_X7_noiseOf 47 [.ref 227, .int x1, .int x2, .int x3, .retAddr 0] [] h
noncomputable def f_X7_noiseOf_48 (x1 : Int32) (x2 : Int32) (x3 : Int32) (s0 : Int32) (h : Hp) : Res := E_X7_noiseOf 48 [.ref 227, .int x1, .int x2, .int x3, .retAddr 0] [.int s0] h
noncomputable def f_X7_noiseOf_82 (x1 : Int32) (x3 : Int32) (s0 : Int32) (s1 : Int32) (h : Hp) : Res := E_X7_noiseOf 82 [.ref 227, .int x1, .retAddr 0, .int x3, .retAddr 0] [.int s0, .int s1] h
set_option maxRecDepth 100000 in
set_option maxHeartbeats 4000000 in
theorem e_X7_noiseOf_0 (x1 : Int32) (h : Hp) : F_X7_noiseOf [.ref 227, .int x1] h = f_X7_noiseOf_4 x1 0 0 h :=
  (exL_it SKc SKn SKr CS (lkp T_X7_noiseOf) [F_X7_isNight] [] [] [4, 47, 48, 82] 4 0 [.ref 227, .int x1, .retAddr 0, .retAddr 0, .retAddr 0] [] h).trans rfl
set_option maxRecDepth 100000 in
set_option maxHeartbeats 4000000 in
theorem e_X7_noiseOf_4 (x1 : Int32) (x2 : Int32) (x3 : Int32) (h : Hp) : f_X7_noiseOf_4 x1 x2 x3 h = if x3 < (rd h 227 37) then gd (inb x3 60) (if (rd h 272 x3.toNatClampNeg) = 0 then gd (inb x3 60) (if (rd h 262 x3.toNatClampNeg) = x1 then gd (inb x3 60) (bI (F_X7_isNight [.int (rd h 265 x3.toNatClampNeg)] h) (fun v2 h1 => if v2 = 0 then f_X7_noiseOf_47 x1 x2 x3 h1 else f_X7_noiseOf_48 x1 x2 x3 1 h1) (hnk [])) else f_X7_noiseOf_47 x1 x2 x3 h) else f_X7_noiseOf_47 x1 x2 x3 h) else rtn (some (.int x2)) h :=
  (exL_it SKc SKn SKr CS (lkp T_X7_noiseOf) [F_X7_isNight] [] [] [4, 47, 48, 82] 23 4 [.ref 227, .int x1, .int x2, .int x3, .retAddr 0] [] h).trans rfl
set_option maxRecDepth 100000 in
set_option maxHeartbeats 4000000 in
theorem e_X7_noiseOf_47 (x1 : Int32) (x2 : Int32) (x3 : Int32) (h : Hp) : f_X7_noiseOf_47 x1 x2 x3 h = f_X7_noiseOf_48 x1 x2 x3 0 h :=
  (exL_it SKc SKn SKr CS (lkp T_X7_noiseOf) [F_X7_isNight] [] [] [4, 47, 48, 82] 1 47 [.ref 227, .int x1, .int x2, .int x3, .retAddr 0] [] h).trans rfl
set_option maxRecDepth 100000 in
set_option maxHeartbeats 4000000 in
theorem e_X7_noiseOf_48 (x1 : Int32) (x2 : Int32) (x3 : Int32) (s0 : Int32) (h : Hp) : f_X7_noiseOf_48 x1 x2 x3 s0 h = if s0 = 0 then f_X7_noiseOf_82 x1 x3 0 x2 h else gd (inb x3 60) (gd (inb x3 60) (gd (inb x3 60) (f_X7_noiseOf_82 x1 x3 ((rd h 268 x3.toNatClampNeg) * (((rd h 267 x3.toNatClampNeg) - (rd h 266 x3.toNatClampNeg)) + 1)) x2 h))) :=
  (exL_it SKc SKn SKr CS (lkp T_X7_noiseOf) [F_X7_isNight] [] [] [4, 47, 48, 82] 21 48 [.ref 227, .int x1, .int x2, .int x3, .retAddr 0] [.int s0] h).trans rfl
set_option maxRecDepth 100000 in
set_option maxHeartbeats 4000000 in
theorem e_X7_noiseOf_82 (x1 : Int32) (x3 : Int32) (s0 : Int32) (s1 : Int32) (h : Hp) : f_X7_noiseOf_82 x1 x3 s0 s1 h = f_X7_noiseOf_4 x1 (s1 + s0) (x3 + 1) h :=
  (exL_it SKc SKn SKr CS (lkp T_X7_noiseOf) [F_X7_isNight] [] [] [4, 47, 48, 82] 4 82 [.ref 227, .int x1, .retAddr 0, .int x3, .retAddr 0] [.int s0, .int s1] h).trans rfl

def T_X7_breaks : List (Nat × Ent) := [(0, ([], .aload_n 0, 1, 0, 0, 0, 0)),
  (1, ([], .getfield 13, 3, 3, 3, 911, 0)),
  (4, ([], .iload_n 1, 1, 1, 0, 0, 0)),
  (5, ([], .iaload, 1, 0, 0, 0, 0)),
  (6, ([], .iconst 2, 1, 0, 0, 0, 2)),
  (7, ([], .if_icmp .eq 18, 3, 25, 0, 0, 0)),
  (10, ([], .aload_n 0, 1, 0, 0, 0, 0)),
  (11, ([], .getfield 13, 3, 3, 3, 911, 0)),
  (14, ([], .iload_n 1, 1, 1, 0, 0, 0)),
  (15, ([], .iaload, 1, 0, 0, 0, 0)),
  (16, ([], .aload_n 0, 1, 0, 0, 0, 0)),
  (17, ([], .getfield 67, 3, 23, 3, 931, 0)),
  (20, ([], .iload_n 2, 1, 2, 0, 0, 0)),
  (21, ([], .iaload, 1, 0, 0, 0, 0)),
  (22, ([], .if_icmp .ne 7, 3, 29, 0, 0, 0)),
  (25, ([false, false, false, false, true, true, true, true, true, true], .iconst 1, 1, 0, 0, 0, 1)),
  (26, ([], .goto 4, 3, 30, 0, 0, 0)),
  (29, ([], .iconst 0, 1, 0, 0, 0, 0)),
  (30, ([false, false, false, false, true, true, true, true, true, true], .istore 4, 2, 4, 0, 0, 0)),
  (32, ([], .iconst 0, 1, 0, 0, 0, 0)),
  (33, ([], .istore 5, 2, 5, 0, 0, 0)),
  (35, ([], .aload_n 0, 1, 0, 0, 0, 0)),
  (36, ([], .getfield 16, 3, 4, 3, 912, 0)),
  (39, ([], .iload_n 1, 1, 1, 0, 0, 0)),
  (40, ([], .iaload, 1, 0, 0, 0, 0)),
  (41, ([], .istore 6, 2, 6, 0, 0, 0)),
  (43, ([], .aload_n 0, 1, 0, 0, 0, 0)),
  (44, ([], .getfield 76, 3, 26, 3, 934, 0)),
  (47, ([], .iload_n 2, 1, 2, 0, 0, 0)),
  (48, ([], .iaload, 1, 0, 0, 0, 0)),
  (49, ([], .istore 7, 2, 7, 0, 0, 0)),
  (51, ([false, false, false, false, false, false, false, false, true, true], .iload 7, 2, 7, 0, 0, 0)),
  (53, ([], .aload_n 0, 1, 0, 0, 0, 0)),
  (54, ([], .getfield 79, 3, 27, 3, 935, 0)),
  (57, ([], .iload_n 2, 1, 2, 0, 0, 0)),
  (58, ([], .iaload, 1, 0, 0, 0, 0)),
  (59, ([], .if_icmp .gt 115, 3, 174, 0, 0, 0)),
  (62, ([], .iload 4, 2, 4, 0, 0, 0)),
  (64, ([], .ifCond .eq 110, 3, 174, 0, 0, 0)),
  (67, ([], .iload_n 3, 1, 3, 0, 0, 0)),
  (68, ([], .iload 6, 2, 6, 0, 0, 0)),
  (70, ([], .isub, 1, 0, 0, 0, 0)),
  (71, ([], .iconst 1, 1, 0, 0, 0, 1)),
  (72, ([], .iadd, 1, 0, 0, 0, 0)),
  (73, ([], .istore 8, 2, 8, 0, 0, 0)),
  (75, ([false, false, false, false, false, false, false, false, false, true], .iload 8, 2, 8, 0, 0, 0)),
  (77, ([], .iload_n 3, 1, 3, 0, 0, 0)),
  (78, ([], .if_icmp .gt 90, 3, 168, 0, 0, 0)),
  (81, ([], .iload 5, 2, 5, 0, 0, 0)),
  (83, ([], .ifCond .ne 85, 3, 168, 0, 0, 0)),
  (86, ([], .iload 8, 2, 8, 0, 0, 0)),
  (88, ([], .ifCond .lt 17, 3, 105, 0, 0, 0)),
  (91, ([], .iload 8, 2, 8, 0, 0, 0)),
  (93, ([], .iload 6, 2, 6, 0, 0, 0)),
  (95, ([], .iadd, 1, 0, 0, 0, 0)),
  (96, ([], .bipush 72, 2, 0, 0, 0, 72)),
  (98, ([], .if_icmp .gt 7, 3, 105, 0, 0, 0)),
  (101, ([], .iconst 1, 1, 0, 0, 0, 1)),
  (102, ([], .goto 4, 3, 106, 0, 0, 0)),
  (105, ([false, false, false, false, false, true, false, false, false, true], .iconst 0, 1, 0, 0, 0, 0)),
  (106, ([false, false, false, false, false, true, false, false, false, true], .istore 9, 2, 9, 0, 0, 0)),
  (108, ([], .iload 9, 2, 9, 0, 0, 0)),
  (110, ([], .ifCond .eq 49, 3, 159, 0, 0, 0)),
  (113, ([], .aload_n 0, 1, 0, 0, 0, 0)),
  (114, ([], .aload_n 0, 1, 0, 0, 0, 0)),
  (115, ([], .getfield 64, 3, 22, 3, 930, 0)),
  (118, ([], .iload_n 2, 1, 2, 0, 0, 0)),
  (119, ([], .iaload, 1, 0, 0, 0, 0)),
  (120, ([], .aload_n 0, 1, 0, 0, 0, 0)),
  (121, ([], .getfield 13, 3, 3, 3, 911, 0)),
  (124, ([], .iload_n 1, 1, 1, 0, 0, 0)),
  (125, ([], .iaload, 1, 0, 0, 0, 0)),
  (126, ([], .aload_n 0, 1, 0, 0, 0, 0)),
  (127, ([], .getfield 70, 3, 24, 3, 932, 0)),
  (130, ([], .iload_n 2, 1, 2, 0, 0, 0)),
  (131, ([], .iaload, 1, 0, 0, 0, 0)),
  (132, ([], .iload 7, 2, 7, 0, 0, 0)),
  (134, ([], .iload 8, 2, 8, 0, 0, 0)),
  (136, ([], .iload 8, 2, 8, 0, 0, 0)),
  (138, ([], .iload 6, 2, 6, 0, 0, 0)),
  (140, ([], .iadd, 1, 0, 0, 0, 0)),
  (141, ([], .iconst 1, 1, 0, 0, 0, 1)),
  (142, ([], .isub, 1, 0, 0, 0, 0)),
  (143, ([], .invokevirtual 187, 3, 0, 29, 1, 0)),
  (146, ([], .aload_n 0, 1, 0, 0, 0, 0)),
  (147, ([], .getfield 19, 3, 5, 3, 913, 0)),
  (150, ([], .iload_n 1, 1, 1, 0, 0, 0)),
  (151, ([], .iaload, 1, 0, 0, 0, 0)),
  (152, ([], .if_icmp .lt 7, 3, 159, 0, 0, 0)),
  (155, ([], .iconst 1, 1, 0, 0, 0, 1)),
  (156, ([], .goto 4, 3, 160, 0, 0, 0)),
  (159, ([false, false, false, false, false, true, false, false, false, true], .iconst 0, 1, 0, 0, 0, 0)),
  (160, ([false, false, false, false, false, true, false, false, false, true], .istore 5, 2, 5, 0, 0, 0)),
  (162, ([], .iinc 8 1, 3, 8, 0, 0, 1)),
  (165, ([], .goto (-90), 3, 75, 0, 0, 0)),
  (168, ([false, false, false, false, false, false, false, false, true, true], .iinc 7 1, 3, 7, 0, 0, 1)),
  (171, ([], .goto (-120), 3, 51, 0, 0, 0)),
  (174, ([], .iload 5, 2, 5, 0, 0, 0)),
  (176, ([], .ireturn, 1, 0, 1, 0, 0))]
noncomputable def E_X7_breaks : Kt := exL SKc SKn SKr CS (lkp T_X7_breaks) [F_X7_loadOf] [] []
noncomputable def F_X7_breaks : Fn := fun as h => gd (chkA 4 as) (E_X7_breaks 0 (pad 10 as) [] h)
noncomputable def f_X7_breaks_25 (x1 : Int32) (x2 : Int32) (x3 : Int32) (h : Hp) : Res := E_X7_breaks 25 [.ref 227, .int x1, .int x2, .int x3, .retAddr 0, .retAddr 0, .retAddr 0, .retAddr 0, .retAddr 0, .retAddr 0] [] h
noncomputable def f_X7_breaks_30 (x1 : Int32) (x2 : Int32) (x3 : Int32) (s0 : Int32) (h : Hp) : Res := E_X7_breaks 30 [.ref 227, .int x1, .int x2, .int x3, .retAddr 0, .retAddr 0, .retAddr 0, .retAddr 0, .retAddr 0, .retAddr 0] [.int s0] h
noncomputable def f_X7_breaks_51 (x1 : Int32) (x2 : Int32) (x3 : Int32) (x4 : Int32) (x5 : Int32) (x6 : Int32) (x7 : Int32) (h : Hp) : Res := E_X7_breaks 51 [.ref 227, .int x1, .int x2, .int x3, .int x4, .int x5, .int x6, .int x7, .retAddr 0, .retAddr 0] [] h
noncomputable def f_X7_breaks_75 (x1 : Int32) (x2 : Int32) (x3 : Int32) (x4 : Int32) (x5 : Int32) (x6 : Int32) (x7 : Int32) (x8 : Int32) (h : Hp) : Res := E_X7_breaks 75 [.ref 227, .int x1, .int x2, .int x3, .int x4, .int x5, .int x6, .int x7, .int x8, .retAddr 0] [] h
noncomputable def f_X7_breaks_105 (x1 : Int32) (x2 : Int32) (x3 : Int32) (x4 : Int32) (x6 : Int32) (x7 : Int32) (x8 : Int32) (h : Hp) : Res := E_X7_breaks 105 [.ref 227, .int x1, .int x2, .int x3, .int x4, .retAddr 0, .int x6, .int x7, .int x8, .retAddr 0] [] h
noncomputable def f_X7_breaks_106 (x1 : Int32) (x2 : Int32) (x3 : Int32) (x4 : Int32) (x6 : Int32) (x7 : Int32) (x8 : Int32) (s0 : Int32) (h : Hp) : Res := E_X7_breaks 106 [.ref 227, .int x1, .int x2, .int x3, .int x4, .retAddr 0, .int x6, .int x7, .int x8, .retAddr 0] [.int s0] h
noncomputable def f_X7_breaks_159 (x1 : Int32) (x2 : Int32) (x3 : Int32) (x4 : Int32) (x6 : Int32) (x7 : Int32) (x8 : Int32) (h : Hp) : Res := E_X7_breaks 159 [.ref 227, .int x1, .int x2, .int x3, .int x4, .retAddr 0, .int x6, .int x7, .int x8, .retAddr 0] [] h
noncomputable def f_X7_breaks_160 (x1 : Int32) (x2 : Int32) (x3 : Int32) (x4 : Int32) (x6 : Int32) (x7 : Int32) (x8 : Int32) (s0 : Int32) (h : Hp) : Res := E_X7_breaks 160 [.ref 227, .int x1, .int x2, .int x3, .int x4, .retAddr 0, .int x6, .int x7, .int x8, .retAddr 0] [.int s0] h
noncomputable def f_X7_breaks_168 (x1 : Int32) (x2 : Int32) (x3 : Int32) (x4 : Int32) (x5 : Int32) (x6 : Int32) (x7 : Int32) (h : Hp) : Res := E_X7_breaks 168 [.ref 227, .int x1, .int x2, .int x3, .int x4, .int x5, .int x6, .int x7, .retAddr 0, .retAddr 0] [] h
set_option maxRecDepth 100000 in
set_option maxHeartbeats 4000000 in
theorem e_X7_breaks_0 (x1 : Int32) (x2 : Int32) (x3 : Int32) (h : Hp) : F_X7_breaks [.ref 227, .int x1, .int x2, .int x3] h = gd (inb x1 24) (if (rd h 229 x1.toNatClampNeg) = 2 then f_X7_breaks_25 x1 x2 x3 h else gd (inb x1 24) (gd (inb x2 60) (if (rd h 229 x1.toNatClampNeg) = (rd h 247 x2.toNatClampNeg) then f_X7_breaks_25 x1 x2 x3 h else f_X7_breaks_30 x1 x2 x3 0 h))) :=
  (exL_it SKc SKn SKr CS (lkp T_X7_breaks) [F_X7_loadOf] [] [] [25, 30, 51, 75, 105, 106, 159, 160, 168] 16 0 [.ref 227, .int x1, .int x2, .int x3, .retAddr 0, .retAddr 0, .retAddr 0, .retAddr 0, .retAddr 0, .retAddr 0] [] h).trans rfl
set_option maxRecDepth 100000 in
set_option maxHeartbeats 4000000 in
theorem e_X7_breaks_25 (x1 : Int32) (x2 : Int32) (x3 : Int32) (h : Hp) : f_X7_breaks_25 x1 x2 x3 h = f_X7_breaks_30 x1 x2 x3 1 h :=
  (exL_it SKc SKn SKr CS (lkp T_X7_breaks) [F_X7_loadOf] [] [] [25, 30, 51, 75, 105, 106, 159, 160, 168] 2 25 [.ref 227, .int x1, .int x2, .int x3, .retAddr 0, .retAddr 0, .retAddr 0, .retAddr 0, .retAddr 0, .retAddr 0] [] h).trans rfl
set_option maxRecDepth 100000 in
set_option maxHeartbeats 4000000 in
theorem e_X7_breaks_30 (x1 : Int32) (x2 : Int32) (x3 : Int32) (s0 : Int32) (h : Hp) : f_X7_breaks_30 x1 x2 x3 s0 h = gd (inb x1 24) (gd (inb x2 60) (f_X7_breaks_51 x1 x2 x3 s0 0 (rd h 230 x1.toNatClampNeg) (rd h 250 x2.toNatClampNeg) h)) :=
  (exL_it SKc SKn SKr CS (lkp T_X7_breaks) [F_X7_loadOf] [] [] [25, 30, 51, 75, 105, 106, 159, 160, 168] 13 30 [.ref 227, .int x1, .int x2, .int x3, .retAddr 0, .retAddr 0, .retAddr 0, .retAddr 0, .retAddr 0, .retAddr 0] [.int s0] h).trans rfl
set_option maxRecDepth 100000 in
set_option maxHeartbeats 4000000 in
theorem e_X7_breaks_51 (x1 : Int32) (x2 : Int32) (x3 : Int32) (x4 : Int32) (x5 : Int32) (x6 : Int32) (x7 : Int32) (h : Hp) : f_X7_breaks_51 x1 x2 x3 x4 x5 x6 x7 h = gd (inb x2 60) (if (rd h 251 x2.toNatClampNeg) < x7 then gd (okZ 1 x5) (rtn (some (.int x5)) h) else if x4 = 0 then gd (okZ 1 x5) (rtn (some (.int x5)) h) else f_X7_breaks_75 x1 x2 x3 x4 x5 x6 x7 ((x3 - x6) + 1) h) :=
  (exL_it SKc SKn SKr CS (lkp T_X7_breaks) [F_X7_loadOf] [] [] [25, 30, 51, 75, 105, 106, 159, 160, 168] 14 51 [.ref 227, .int x1, .int x2, .int x3, .int x4, .int x5, .int x6, .int x7, .retAddr 0, .retAddr 0] [] h).trans rfl
set_option maxRecDepth 100000 in
set_option maxHeartbeats 4000000 in
theorem e_X7_breaks_75 (x1 : Int32) (x2 : Int32) (x3 : Int32) (x4 : Int32) (x5 : Int32) (x6 : Int32) (x7 : Int32) (x8 : Int32) (h : Hp) : f_X7_breaks_75 x1 x2 x3 x4 x5 x6 x7 x8 h = if x3 < x8 then f_X7_breaks_168 x1 x2 x3 x4 x5 x6 x7 h else if x5 = 0 then if x8 < 0 then f_X7_breaks_105 x1 x2 x3 x4 x6 x7 x8 h else if 72 < (x8 + x6) then f_X7_breaks_105 x1 x2 x3 x4 x6 x7 x8 h else f_X7_breaks_106 x1 x2 x3 x4 x6 x7 x8 1 h else f_X7_breaks_168 x1 x2 x3 x4 x5 x6 x7 h :=
  (exL_it SKc SKn SKr CS (lkp T_X7_breaks) [F_X7_loadOf] [] [] [25, 30, 51, 75, 105, 106, 159, 160, 168] 14 75 [.ref 227, .int x1, .int x2, .int x3, .int x4, .int x5, .int x6, .int x7, .int x8, .retAddr 0] [] h).trans rfl
set_option maxRecDepth 100000 in
set_option maxHeartbeats 4000000 in
theorem e_X7_breaks_105 (x1 : Int32) (x2 : Int32) (x3 : Int32) (x4 : Int32) (x6 : Int32) (x7 : Int32) (x8 : Int32) (h : Hp) : f_X7_breaks_105 x1 x2 x3 x4 x6 x7 x8 h = f_X7_breaks_106 x1 x2 x3 x4 x6 x7 x8 0 h :=
  (exL_it SKc SKn SKr CS (lkp T_X7_breaks) [F_X7_loadOf] [] [] [25, 30, 51, 75, 105, 106, 159, 160, 168] 1 105 [.ref 227, .int x1, .int x2, .int x3, .int x4, .retAddr 0, .int x6, .int x7, .int x8, .retAddr 0] [] h).trans rfl
set_option maxRecDepth 100000 in
set_option maxHeartbeats 4000000 in
theorem e_X7_breaks_106 (x1 : Int32) (x2 : Int32) (x3 : Int32) (x4 : Int32) (x6 : Int32) (x7 : Int32) (x8 : Int32) (s0 : Int32) (h : Hp) : f_X7_breaks_106 x1 x2 x3 x4 x6 x7 x8 s0 h = if s0 = 0 then f_X7_breaks_159 x1 x2 x3 x4 x6 x7 x8 h else gd (inb x2 60) (gd (inb x1 24) (gd (inb x2 60) (bI (F_X7_loadOf [.ref 227, .int (rd h 246 x2.toNatClampNeg), .int (rd h 229 x1.toNatClampNeg), .int (rd h 248 x2.toNatClampNeg), .int x7, .int x8, .int ((x8 + x6) - 1)] h) (fun v2 h1 => gd (inb x1 24) (if v2 < (rd h1 231 x1.toNatClampNeg) then f_X7_breaks_159 x1 x2 x3 x4 x6 x7 x8 h1 else f_X7_breaks_160 x1 x2 x3 x4 x6 x7 x8 1 h1)) (hnk [])))) :=
  (exL_it SKc SKn SKr CS (lkp T_X7_breaks) [F_X7_loadOf] [] [] [25, 30, 51, 75, 105, 106, 159, 160, 168] 31 106 [.ref 227, .int x1, .int x2, .int x3, .int x4, .retAddr 0, .int x6, .int x7, .int x8, .retAddr 0] [.int s0] h).trans rfl
set_option maxRecDepth 100000 in
set_option maxHeartbeats 4000000 in
theorem e_X7_breaks_159 (x1 : Int32) (x2 : Int32) (x3 : Int32) (x4 : Int32) (x6 : Int32) (x7 : Int32) (x8 : Int32) (h : Hp) : f_X7_breaks_159 x1 x2 x3 x4 x6 x7 x8 h = f_X7_breaks_160 x1 x2 x3 x4 x6 x7 x8 0 h :=
  (exL_it SKc SKn SKr CS (lkp T_X7_breaks) [F_X7_loadOf] [] [] [25, 30, 51, 75, 105, 106, 159, 160, 168] 1 159 [.ref 227, .int x1, .int x2, .int x3, .int x4, .retAddr 0, .int x6, .int x7, .int x8, .retAddr 0] [] h).trans rfl
set_option maxRecDepth 100000 in
set_option maxHeartbeats 4000000 in
theorem e_X7_breaks_160 (x1 : Int32) (x2 : Int32) (x3 : Int32) (x4 : Int32) (x6 : Int32) (x7 : Int32) (x8 : Int32) (s0 : Int32) (h : Hp) : f_X7_breaks_160 x1 x2 x3 x4 x6 x7 x8 s0 h = f_X7_breaks_75 x1 x2 x3 x4 s0 x6 x7 (x8 + 1) h :=
  (exL_it SKc SKn SKr CS (lkp T_X7_breaks) [F_X7_loadOf] [] [] [25, 30, 51, 75, 105, 106, 159, 160, 168] 3 160 [.ref 227, .int x1, .int x2, .int x3, .int x4, .retAddr 0, .int x6, .int x7, .int x8, .retAddr 0] [.int s0] h).trans rfl
set_option maxRecDepth 100000 in
set_option maxHeartbeats 4000000 in
theorem e_X7_breaks_168 (x1 : Int32) (x2 : Int32) (x3 : Int32) (x4 : Int32) (x5 : Int32) (x6 : Int32) (x7 : Int32) (h : Hp) : f_X7_breaks_168 x1 x2 x3 x4 x5 x6 x7 h = f_X7_breaks_51 x1 x2 x3 x4 x5 x6 (x7 + 1) h :=
  (exL_it SKc SKn SKr CS (lkp T_X7_breaks) [F_X7_loadOf] [] [] [25, 30, 51, 75, 105, 106, 159, 160, 168] 2 168 [.ref 227, .int x1, .int x2, .int x3, .int x4, .int x5, .int x6, .int x7, .retAddr 0, .retAddr 0] [] h).trans rfl

def T_X7_weeks : List (Nat × Ent) := [(0, ([], .aload_n 0, 1, 0, 0, 0, 0)),
  (1, ([], .getfield 79, 3, 27, 3, 935, 0)),
  (4, ([], .iload_n 1, 1, 1, 0, 0, 0)),
  (5, ([], .iaload, 1, 0, 0, 0, 0)),
  (6, ([], .aload_n 0, 1, 0, 0, 0, 0)),
  (7, ([], .getfield 76, 3, 26, 3, 934, 0)),
  (10, ([], .iload_n 1, 1, 1, 0, 0, 0)),
  (11, ([], .iaload, 1, 0, 0, 0, 0)),
  (12, ([], .isub, 1, 0, 0, 0, 0)),
  (13, ([], .iconst 1, 1, 0, 0, 0, 1)),
  (14, ([], .iadd, 1, 0, 0, 0, 0)),
  (15, ([], .ireturn, 1, 0, 0, 0, 0))]
noncomputable def E_X7_weeks : Kt := exL SKc SKn SKr CS (lkp T_X7_weeks) [] [] []
noncomputable def F_X7_weeks : Fn := fun as h => gd (chkA 2 as) (E_X7_weeks 0 (pad 2 as) [] h)
set_option maxRecDepth 100000 in
set_option maxHeartbeats 4000000 in
theorem e_X7_weeks_0 (x1 : Int32) (h : Hp) : F_X7_weeks [.ref 227, .int x1] h = gd (inb x1 60) (gd (inb x1 60) (rtn (some (.int (((rd h 251 x1.toNatClampNeg) - (rd h 250 x1.toNatClampNeg)) + 1))) h)) :=
  (exL_it SKc SKn SKr CS (lkp T_X7_weeks) [] [] [] [] 12 0 [.ref 227, .int x1] [] h).trans rfl

def T_X7_reason : List (Nat × Ent) := [(0, ([], .aload_n 0, 1, 0, 0, 0, 0)),
  (1, ([], .getfield 64, 3, 22, 3, 930, 0)),
  (4, ([], .iload_n 1, 1, 1, 0, 0, 0)),
  (5, ([], .iaload, 1, 0, 0, 0, 0)),
  (6, ([], .istore_n 3, 1, 3, 0, 0, 0)),
  (7, ([], .iload_n 2, 1, 2, 0, 0, 0)),
  (8, ([], .aload_n 0, 1, 0, 0, 0, 0)),
  (9, ([], .getfield 22, 3, 6, 3, 914, 0)),
  (12, ([], .iload_n 3, 1, 3, 0, 0, 0)),
  (13, ([], .iaload, 1, 0, 0, 0, 0)),
  (14, ([], .if_icmp .lt 15, 3, 29, 0, 0, 0)),
  (17, ([], .iload_n 2, 1, 2, 0, 0, 0)),
  (18, ([], .aload_n 0, 1, 0, 0, 0, 0)),
  (19, ([], .getfield 25, 3, 7, 3, 915, 0)),
  (22, ([], .iload_n 3, 1, 3, 0, 0, 0)),
  (23, ([], .iaload, 1, 0, 0, 0, 0)),
  (24, ([], .if_icmp .ge 5, 3, 29, 0, 0, 0)),
  (27, ([], .iconst 1, 1, 0, 0, 0, 1)),
  (28, ([], .ireturn, 1, 0, 0, 0, 0)),
  (29, ([false, false, false, false, true], .iload_n 2, 1, 2, 0, 0, 0)),
  (30, ([], .invokestatic 184, 3, 0, 5, 99, 0)),
  (33, ([], .ifCond .eq 32, 3, 65, 0, 0, 0)),
  (36, ([], .aload_n 0, 1, 0, 0, 0, 0)),
  (37, ([], .iload_n 3, 1, 3, 0, 0, 0)),
  (38, ([], .invokevirtual 191, 3, 1, 9, 1, 0)),
  (41, ([], .aload_n 0, 1, 0, 0, 0, 0)),
  (42, ([], .getfield 82, 3, 28, 3, 936, 0)),
  (45, ([], .iload_n 1, 1, 1, 0, 0, 0)),
  (46, ([], .iaload, 1, 0, 0, 0, 0)),
  (47, ([], .aload_n 0, 1, 0, 0, 0, 0)),
  (48, ([], .iload_n 1, 1, 1, 0, 0, 0)),
  (49, ([], .invokevirtual 195, 3, 2, 9, 1, 0)),
  (52, ([], .imul, 1, 0, 0, 0, 0)),
  (53, ([], .iadd, 1, 0, 0, 0, 0)),
  (54, ([], .aload_n 0, 1, 0, 0, 0, 0)),
  (55, ([], .getfield 28, 3, 8, 3, 916, 0)),
  (58, ([], .iload_n 3, 1, 3, 0, 0, 0)),
  (59, ([], .iaload, 1, 0, 0, 0, 0)),
  (60, ([], .if_icmp .le 5, 3, 65, 0, 0, 0)),
  (63, ([], .iconst 2, 1, 0, 0, 0, 2)),
  (64, ([], .ireturn, 1, 0, 0, 0, 0)),
  (65, ([false, false, false, false, true], .iconst 0, 1, 0, 0, 0, 0)),
  (66, ([], .istore 4, 2, 4, 0, 0, 0)),
  (68, ([false, false, false, false, false], .iload 4, 2, 4, 0, 0, 0)),
  (70, ([], .aload_n 0, 1, 0, 0, 0, 0)),
  (71, ([], .getfield 7, 3, 2, 3, 910, 0)),
  (74, ([], .iload_n 3, 1, 3, 0, 0, 0)),
  (75, ([], .iaload, 1, 0, 0, 0, 0)),
  (76, ([], .if_icmp .ge 31, 3, 107, 0, 0, 0)),
  (79, ([], .aload_n 0, 1, 0, 0, 0, 0)),
  (80, ([], .bipush 6, 2, 0, 0, 0, 6)),
  (82, ([], .iload_n 3, 1, 3, 0, 0, 0)),
  (83, ([], .imul, 1, 0, 0, 0, 0)),
  (84, ([], .iload 4, 2, 4, 0, 0, 0)),
  (86, ([], .iadd, 1, 0, 0, 0, 0)),
  (87, ([], .iload_n 1, 1, 1, 0, 0, 0)),
  (88, ([], .iload_n 2, 1, 2, 0, 0, 0)),
  (89, ([], .invokevirtual 198, 3, 3, 17, 1, 0)),
  (92, ([], .ifCond .eq 9, 3, 101, 0, 0, 0)),
  (95, ([], .bipush 10, 2, 0, 0, 0, 10)),
  (97, ([], .iload 4, 2, 4, 0, 0, 0)),
  (99, ([], .iadd, 1, 0, 0, 0, 0)),
  (100, ([], .ireturn, 1, 0, 0, 0, 0)),
  (101, ([], .iinc 4 1, 3, 4, 0, 0, 1)),
  (104, ([], .goto (-36), 3, 68, 0, 0, 0)),
  (107, ([], .iconst 0, 1, 0, 0, 0, 0)),
  (108, ([], .ireturn, 1, 0, 0, 0, 0))]
noncomputable def E_X7_reason : Kt := exL SKc SKn SKr CS (lkp T_X7_reason) [F_X7_isNight, F_X7_noiseOf, F_X7_weeks, F_X7_breaks] [] []
noncomputable def F_X7_reason : Fn := fun as h => gd (chkA 3 as) (E_X7_reason 0 (pad 5 as) [] h)
noncomputable def f_X7_reason_29 (x1 : Int32) (x2 : Int32) (x3 : Int32) (h : Hp) : Res := E_X7_reason 29 [.ref 227, .int x1, .int x2, .int x3, .retAddr 0] [] h
noncomputable def f_X7_reason_65 (x1 : Int32) (x2 : Int32) (x3 : Int32) (h : Hp) : Res := E_X7_reason 65 [.ref 227, .int x1, .int x2, .int x3, .retAddr 0] [] h
noncomputable def f_X7_reason_68 (x1 : Int32) (x2 : Int32) (x3 : Int32) (x4 : Int32) (h : Hp) : Res := E_X7_reason 68 [.ref 227, .int x1, .int x2, .int x3, .int x4] [] h
set_option maxRecDepth 100000 in
set_option maxHeartbeats 4000000 in
theorem e_X7_reason_0 (x1 : Int32) (x2 : Int32) (h : Hp) : F_X7_reason [.ref 227, .int x1, .int x2] h = gd (inb x1 60) (gd (inb (rd h 246 x1.toNatClampNeg) 4) (if x2 < (rd h 232 ((rd h 246 x1.toNatClampNeg).toNatClampNeg)) then f_X7_reason_29 x1 x2 (rd h 246 x1.toNatClampNeg) h else gd (inb (rd h 246 x1.toNatClampNeg) 4) (if x2 < (rd h 233 ((rd h 246 x1.toNatClampNeg).toNatClampNeg)) then rtn (some (.int 1)) h else f_X7_reason_29 x1 x2 (rd h 246 x1.toNatClampNeg) h))) :=
  (exL_it SKc SKn SKr CS (lkp T_X7_reason) [F_X7_isNight, F_X7_noiseOf, F_X7_weeks, F_X7_breaks] [] [] [29, 65, 68] 19 0 [.ref 227, .int x1, .int x2, .retAddr 0, .retAddr 0] [] h).trans rfl
set_option maxRecDepth 100000 in
set_option maxHeartbeats 4000000 in
theorem e_X7_reason_29 (x1 : Int32) (x2 : Int32) (x3 : Int32) (h : Hp) : f_X7_reason_29 x1 x2 x3 h = bI (F_X7_isNight [.int x2] h) (fun v2 h1 => if v2 = 0 then f_X7_reason_65 x1 x2 x3 h1 else bI (F_X7_noiseOf [.ref 227, .int x3] h1) (fun v4 h3 => gd (inb x1 60) (bI (F_X7_weeks [.ref 227, .int x1] h3) (fun v6 h5 => gd (inb x3 4) (if (rd h5 234 x3.toNatClampNeg) < (v4 + ((rd h3 252 x1.toNatClampNeg) * v6)) then rtn (some (.int 2)) h5 else f_X7_reason_65 x1 x2 x3 h5)) (hnk []))) (hnk [])) (hnk []) :=
  (exL_it SKc SKn SKr CS (lkp T_X7_reason) [F_X7_isNight, F_X7_noiseOf, F_X7_weeks, F_X7_breaks] [] [] [29, 65, 68] 22 29 [.ref 227, .int x1, .int x2, .int x3, .retAddr 0] [] h).trans rfl
set_option maxRecDepth 100000 in
set_option maxHeartbeats 4000000 in
theorem e_X7_reason_65 (x1 : Int32) (x2 : Int32) (x3 : Int32) (h : Hp) : f_X7_reason_65 x1 x2 x3 h = f_X7_reason_68 x1 x2 x3 0 h :=
  (exL_it SKc SKn SKr CS (lkp T_X7_reason) [F_X7_isNight, F_X7_noiseOf, F_X7_weeks, F_X7_breaks] [] [] [29, 65, 68] 2 65 [.ref 227, .int x1, .int x2, .int x3, .retAddr 0] [] h).trans rfl
set_option maxRecDepth 100000 in
set_option maxHeartbeats 4000000 in
theorem e_X7_reason_68 (x1 : Int32) (x2 : Int32) (x3 : Int32) (x4 : Int32) (h : Hp) : f_X7_reason_68 x1 x2 x3 x4 h = gd (inb x3 4) (if x4 < (rd h 228 x3.toNatClampNeg) then bI (F_X7_breaks [.ref 227, .int ((6 * x3) + x4), .int x1, .int x2] h) (fun v2 h1 => if v2 = 0 then f_X7_reason_68 x1 x2 x3 (x4 + 1) h1 else rtn (some (.int (10 + x4))) h1) (hnk []) else rtn (some (.int 0)) h) :=
  (exL_it SKc SKn SKr CS (lkp T_X7_reason) [F_X7_isNight, F_X7_noiseOf, F_X7_weeks, F_X7_breaks] [] [] [29, 65, 68] 20 68 [.ref 227, .int x1, .int x2, .int x3, .int x4] [] h).trans rfl

def T_X7_isNewAt : List (Nat × Ent) := [(0, ([], .iconst 0, 1, 0, 0, 0, 0)),
  (1, ([], .istore_n 3, 1, 3, 0, 0, 0)),
  (2, ([], .iconst 0, 1, 0, 0, 0, 0)),
  (3, ([], .istore 4, 2, 4, 0, 0, 0)),
  (5, ([false, false, false, false, false], .iload 4, 2, 4, 0, 0, 0)),
  (7, ([], .aload_n 0, 1, 0, 0, 0, 0)),
  (8, ([], .getfield 201, 3, 10, 2, 918, 0)),
  (11, ([], .if_icmp .ge 49, 3, 60, 0, 0, 0)),
  (14, ([], .iload_n 3, 1, 3, 0, 0, 0)),
  (15, ([], .aload_n 0, 1, 0, 0, 0, 0)),
  (16, ([], .getfield 37, 3, 12, 3, 920, 0)),
  (19, ([], .iload 4, 2, 4, 0, 0, 0)),
  (21, ([], .iaload, 1, 0, 0, 0, 0)),
  (22, ([], .iload_n 2, 1, 2, 0, 0, 0)),
  (23, ([], .if_icmp .ne 28, 3, 51, 0, 0, 0)),
  (26, ([], .aload_n 0, 1, 0, 0, 0, 0)),
  (27, ([], .getfield 31, 3, 9, 3, 917, 0)),
  (30, ([], .aload_n 0, 1, 0, 0, 0, 0)),
  (31, ([], .getfield 34, 3, 11, 3, 919, 0)),
  (34, ([], .iload 4, 2, 4, 0, 0, 0)),
  (36, ([], .iaload, 1, 0, 0, 0, 0)),
  (37, ([], .iaload, 1, 0, 0, 0, 0)),
  (38, ([], .aload_n 0, 1, 0, 0, 0, 0)),
  (39, ([], .getfield 31, 3, 9, 3, 917, 0)),
  (42, ([], .iload_n 1, 1, 1, 0, 0, 0)),
  (43, ([], .iaload, 1, 0, 0, 0, 0)),
  (44, ([], .if_icmp .ne 7, 3, 51, 0, 0, 0)),
  (47, ([], .iconst 1, 1, 0, 0, 0, 1)),
  (48, ([], .goto 4, 3, 52, 0, 0, 0)),
  (51, ([false, false, false, true, false], .iconst 0, 1, 0, 0, 0, 0)),
  (52, ([false, false, false, true, false], .iadd, 1, 0, 0, 0, 0)),
  (53, ([], .istore_n 3, 1, 3, 0, 0, 0)),
  (54, ([], .iinc 4 1, 3, 4, 0, 0, 1)),
  (57, ([], .goto (-52), 3, 5, 0, 0, 0)),
  (60, ([], .iconst 0, 1, 0, 0, 0, 0)),
  (61, ([], .istore 4, 2, 4, 0, 0, 0)),
  (63, ([false, false, false, false, false], .iload 4, 2, 4, 0, 0, 0)),
  (65, ([], .aload_n 0, 1, 0, 0, 0, 0)),
  (66, ([], .getfield 167, 3, 37, 2, 945, 0)),
  (69, ([], .if_icmp .ge 59, 3, 128, 0, 0, 0)),
  (72, ([], .iload_n 3, 1, 3, 0, 0, 0)),
  (73, ([], .aload_n 0, 1, 0, 0, 0, 0)),
  (74, ([], .getfield 142, 3, 50, 3, 958, 0)),
  (77, ([], .iload 4, 2, 4, 0, 0, 0)),
  (79, ([], .baload, 1, 0, 0, 0, 0)),
  (80, ([], .ifCond .ne 39, 3, 119, 0, 0, 0)),
  (83, ([], .aload_n 0, 1, 0, 0, 0, 0)),
  (84, ([], .getfield 112, 3, 40, 3, 948, 0)),
  (87, ([], .iload 4, 2, 4, 0, 0, 0)),
  (89, ([], .iaload, 1, 0, 0, 0, 0)),
  (90, ([], .iload_n 2, 1, 2, 0, 0, 0)),
  (91, ([], .if_icmp .ne 28, 3, 119, 0, 0, 0)),
  (94, ([], .aload_n 0, 1, 0, 0, 0, 0)),
  (95, ([], .getfield 31, 3, 9, 3, 917, 0)),
  (98, ([], .aload_n 0, 1, 0, 0, 0, 0)),
  (99, ([], .getfield 106, 3, 38, 3, 946, 0)),
  (102, ([], .iload 4, 2, 4, 0, 0, 0)),
  (104, ([], .iaload, 1, 0, 0, 0, 0)),
  (105, ([], .iaload, 1, 0, 0, 0, 0)),
  (106, ([], .aload_n 0, 1, 0, 0, 0, 0)),
  (107, ([], .getfield 31, 3, 9, 3, 917, 0)),
  (110, ([], .iload_n 1, 1, 1, 0, 0, 0)),
  (111, ([], .iaload, 1, 0, 0, 0, 0)),
  (112, ([], .if_icmp .ne 7, 3, 119, 0, 0, 0)),
  (115, ([], .iconst 1, 1, 0, 0, 0, 1)),
  (116, ([], .goto 4, 3, 120, 0, 0, 0)),
  (119, ([false, false, false, true, false], .iconst 0, 1, 0, 0, 0, 0)),
  (120, ([false, false, false, true, false], .iadd, 1, 0, 0, 0, 0)),
  (121, ([], .istore_n 3, 1, 3, 0, 0, 0)),
  (122, ([], .iinc 4 1, 3, 4, 0, 0, 1)),
  (125, ([], .goto (-62), 3, 63, 0, 0, 0)),
  (128, ([], .iload_n 3, 1, 3, 0, 0, 0)),
  (129, ([], .iconst 3, 1, 0, 0, 0, 3)),
  (130, ([], .if_icmp .ge 7, 3, 137, 0, 0, 0)),
  (133, ([], .iconst 1, 1, 0, 0, 0, 1)),
  (134, ([], .goto 4, 3, 138, 0, 0, 0)),
  (137, ([], .iconst 0, 1, 0, 0, 0, 0)),
  (138, ([], .ireturn, 1, 0, 1, 0, 0))]
noncomputable def E_X7_isNewAt : Kt := exL SKc SKn SKr CS (lkp T_X7_isNewAt) [] [] []
noncomputable def F_X7_isNewAt : Fn := fun as h => gd (chkA 3 as) (E_X7_isNewAt 0 (pad 5 as) [] h)
noncomputable def f_X7_isNewAt_5 (x1 : Int32) (x2 : Int32) (x3 : Int32) (x4 : Int32) (h : Hp) : Res := E_X7_isNewAt 5 [.ref 227, .int x1, .int x2, .int x3, .int x4] [] h
noncomputable def f_X7_isNewAt_51 (x1 : Int32) (x2 : Int32) (x4 : Int32) (s0 : Int32) (h : Hp) : Res := E_X7_isNewAt 51 [.ref 227, .int x1, .int x2, .retAddr 0, .int x4] [.int s0] h
noncomputable def f_X7_isNewAt_52 (x1 : Int32) (x2 : Int32) (x4 : Int32) (s0 : Int32) (s1 : Int32) (h : Hp) : Res := E_X7_isNewAt 52 [.ref 227, .int x1, .int x2, .retAddr 0, .int x4] [.int s0, .int s1] h
noncomputable def f_X7_isNewAt_63 (x1 : Int32) (x2 : Int32) (x3 : Int32) (x4 : Int32) (h : Hp) : Res := E_X7_isNewAt 63 [.ref 227, .int x1, .int x2, .int x3, .int x4] [] h
noncomputable def f_X7_isNewAt_119 (x1 : Int32) (x2 : Int32) (x4 : Int32) (s0 : Int32) (h : Hp) : Res := E_X7_isNewAt 119 [.ref 227, .int x1, .int x2, .retAddr 0, .int x4] [.int s0] h
noncomputable def f_X7_isNewAt_120 (x1 : Int32) (x2 : Int32) (x4 : Int32) (s0 : Int32) (s1 : Int32) (h : Hp) : Res := E_X7_isNewAt 120 [.ref 227, .int x1, .int x2, .retAddr 0, .int x4] [.int s0, .int s1] h
set_option maxRecDepth 100000 in
set_option maxHeartbeats 4000000 in
theorem e_X7_isNewAt_0 (x1 : Int32) (x2 : Int32) (h : Hp) : F_X7_isNewAt [.ref 227, .int x1, .int x2] h = f_X7_isNewAt_5 x1 x2 0 0 h :=
  (exL_it SKc SKn SKr CS (lkp T_X7_isNewAt) [] [] [] [5, 51, 52, 63, 119, 120] 4 0 [.ref 227, .int x1, .int x2, .retAddr 0, .retAddr 0] [] h).trans rfl
set_option maxRecDepth 100000 in
set_option maxHeartbeats 4000000 in
theorem e_X7_isNewAt_5 (x1 : Int32) (x2 : Int32) (x3 : Int32) (x4 : Int32) (h : Hp) : f_X7_isNewAt_5 x1 x2 x3 x4 h = if x4 < (rd h 227 10) then gd (inb x4 60) (if (rd h 237 x4.toNatClampNeg) = x2 then gd (inb x4 60) (gd (inb (rd h 236 x4.toNatClampNeg) 10) (gd (inb x1 10) (if (rd h 235 ((rd h 236 x4.toNatClampNeg).toNatClampNeg)) = (rd h 235 x1.toNatClampNeg) then f_X7_isNewAt_52 x1 x2 x4 1 x3 h else f_X7_isNewAt_51 x1 x2 x4 x3 h))) else f_X7_isNewAt_51 x1 x2 x4 x3 h) else f_X7_isNewAt_63 x1 x2 x3 0 h :=
  (exL_it SKc SKn SKr CS (lkp T_X7_isNewAt) [] [] [] [5, 51, 52, 63, 119, 120] 25 5 [.ref 227, .int x1, .int x2, .int x3, .int x4] [] h).trans rfl
set_option maxRecDepth 100000 in
set_option maxHeartbeats 4000000 in
theorem e_X7_isNewAt_51 (x1 : Int32) (x2 : Int32) (x4 : Int32) (s0 : Int32) (h : Hp) : f_X7_isNewAt_51 x1 x2 x4 s0 h = f_X7_isNewAt_52 x1 x2 x4 0 s0 h :=
  (exL_it SKc SKn SKr CS (lkp T_X7_isNewAt) [] [] [] [5, 51, 52, 63, 119, 120] 1 51 [.ref 227, .int x1, .int x2, .retAddr 0, .int x4] [.int s0] h).trans rfl
set_option maxRecDepth 100000 in
set_option maxHeartbeats 4000000 in
theorem e_X7_isNewAt_52 (x1 : Int32) (x2 : Int32) (x4 : Int32) (s0 : Int32) (s1 : Int32) (h : Hp) : f_X7_isNewAt_52 x1 x2 x4 s0 s1 h = f_X7_isNewAt_5 x1 x2 (s1 + s0) (x4 + 1) h :=
  (exL_it SKc SKn SKr CS (lkp T_X7_isNewAt) [] [] [] [5, 51, 52, 63, 119, 120] 4 52 [.ref 227, .int x1, .int x2, .retAddr 0, .int x4] [.int s0, .int s1] h).trans rfl
set_option maxRecDepth 100000 in
set_option maxHeartbeats 4000000 in
theorem e_X7_isNewAt_63 (x1 : Int32) (x2 : Int32) (x3 : Int32) (x4 : Int32) (h : Hp) : f_X7_isNewAt_63 x1 x2 x3 x4 h = if x4 < (rd h 227 37) then gd (inb x4 60) (if (rd h 272 x4.toNatClampNeg) = 0 then gd (inb x4 60) (if (rd h 262 x4.toNatClampNeg) = x2 then gd (inb x4 60) (gd (inb (rd h 260 x4.toNatClampNeg) 10) (gd (inb x1 10) (if (rd h 235 ((rd h 260 x4.toNatClampNeg).toNatClampNeg)) = (rd h 235 x1.toNatClampNeg) then f_X7_isNewAt_120 x1 x2 x4 1 x3 h else f_X7_isNewAt_119 x1 x2 x4 x3 h))) else f_X7_isNewAt_119 x1 x2 x4 x3 h) else f_X7_isNewAt_119 x1 x2 x4 x3 h) else if x3 < 3 then rtn (some (.int 1)) h else rtn (some (.int 0)) h :=
  (exL_it SKc SKn SKr CS (lkp T_X7_isNewAt) [] [] [] [5, 51, 52, 63, 119, 120] 30 63 [.ref 227, .int x1, .int x2, .int x3, .int x4] [] h).trans rfl
set_option maxRecDepth 100000 in
set_option maxHeartbeats 4000000 in
theorem e_X7_isNewAt_119 (x1 : Int32) (x2 : Int32) (x4 : Int32) (s0 : Int32) (h : Hp) : f_X7_isNewAt_119 x1 x2 x4 s0 h = f_X7_isNewAt_120 x1 x2 x4 0 s0 h :=
  (exL_it SKc SKn SKr CS (lkp T_X7_isNewAt) [] [] [] [5, 51, 52, 63, 119, 120] 1 119 [.ref 227, .int x1, .int x2, .retAddr 0, .int x4] [.int s0] h).trans rfl
set_option maxRecDepth 100000 in
set_option maxHeartbeats 4000000 in
theorem e_X7_isNewAt_120 (x1 : Int32) (x2 : Int32) (x4 : Int32) (s0 : Int32) (s1 : Int32) (h : Hp) : f_X7_isNewAt_120 x1 x2 x4 s0 s1 h = f_X7_isNewAt_63 x1 x2 (s1 + s0) (x4 + 1) h :=
  (exL_it SKc SKn SKr CS (lkp T_X7_isNewAt) [] [] [] [5, 51, 52, 63, 119, 120] 4 120 [.ref 227, .int x1, .int x2, .retAddr 0, .int x4] [.int s0, .int s1] h).trans rfl

def T_X7_sortOf : List (Nat × Ent) := [(0, ([], .aload_n 0, 1, 0, 0, 0, 0)),
  (1, ([], .getfield 85, 3, 29, 3, 937, 0)),
  (4, ([], .iload_n 1, 1, 1, 0, 0, 0)),
  (5, ([], .iaload, 1, 0, 0, 0, 0)),
  (6, ([], .istore_n 2, 1, 2, 0, 0, 0)),
  (7, ([], .iload_n 2, 1, 2, 0, 0, 0)),
  (8, ([], .iconst (-1), 1, 0, 0, 0, (-1))),
  (9, ([], .if_icmp .ne 28, 3, 37, 0, 0, 0)),
  (12, ([], .aload_n 0, 1, 0, 0, 0, 0)),
  (13, ([], .aload_n 0, 1, 0, 0, 0, 0)),
  (14, ([], .getfield 61, 3, 21, 3, 929, 0)),
  (17, ([], .iload_n 1, 1, 1, 0, 0, 0)),
  (18, ([], .iaload, 1, 0, 0, 0, 0)),
  (19, ([], .aload_n 0, 1, 0, 0, 0, 0)),
  (20, ([], .getfield 64, 3, 22, 3, 930, 0)),
  (23, ([], .iload_n 1, 1, 1, 0, 0, 0)),
  (24, ([], .iaload, 1, 0, 0, 0, 0)),
  (25, ([], .invokevirtual 204, 3, 0, 13, 1, 0)),
  (28, ([], .ifCond .eq 7, 3, 35, 0, 0, 0)),
  (31, ([], .iconst 2, 1, 0, 0, 0, 2)),
  (32, ([], .goto 4, 3, 36, 0, 0, 0)),
  (35, ([], .iconst 3, 1, 0, 0, 0, 3)),
  (36, ([], .ireturn, 1, 0, 0, 0, 0)),
  (37, ([], .aload_n 0, 1, 0, 0, 0, 0)),
  (38, ([], .getfield 73, 3, 25, 3, 933, 0)),
  (41, ([], .iload_n 1, 1, 1, 0, 0, 0)),
  (42, ([], .iaload, 1, 0, 0, 0, 0)),
  (43, ([], .aload_n 0, 1, 0, 0, 0, 0)),
  (44, ([], .getfield 46, 3, 15, 3, 923, 0)),
  (47, ([], .iload_n 2, 1, 2, 0, 0, 0)),
  (48, ([], .iaload, 1, 0, 0, 0, 0)),
  (49, ([], .if_icmp .ne 52, 3, 101, 0, 0, 0)),
  (52, ([], .aload_n 0, 1, 0, 0, 0, 0)),
  (53, ([], .getfield 76, 3, 26, 3, 934, 0)),
  (56, ([], .iload_n 1, 1, 1, 0, 0, 0)),
  (57, ([], .iaload, 1, 0, 0, 0, 0)),
  (58, ([], .aload_n 0, 1, 0, 0, 0, 0)),
  (59, ([], .getfield 49, 3, 16, 3, 924, 0)),
  (62, ([], .iload_n 2, 1, 2, 0, 0, 0)),
  (63, ([], .iaload, 1, 0, 0, 0, 0)),
  (64, ([], .if_icmp .ne 37, 3, 101, 0, 0, 0)),
  (67, ([], .aload_n 0, 1, 0, 0, 0, 0)),
  (68, ([], .getfield 79, 3, 27, 3, 935, 0)),
  (71, ([], .iload_n 1, 1, 1, 0, 0, 0)),
  (72, ([], .iaload, 1, 0, 0, 0, 0)),
  (73, ([], .aload_n 0, 1, 0, 0, 0, 0)),
  (74, ([], .getfield 52, 3, 17, 3, 925, 0)),
  (77, ([], .iload_n 2, 1, 2, 0, 0, 0)),
  (78, ([], .iaload, 1, 0, 0, 0, 0)),
  (79, ([], .if_icmp .ne 22, 3, 101, 0, 0, 0)),
  (82, ([], .aload_n 0, 1, 0, 0, 0, 0)),
  (83, ([], .getfield 82, 3, 28, 3, 936, 0)),
  (86, ([], .iload_n 1, 1, 1, 0, 0, 0)),
  (87, ([], .iaload, 1, 0, 0, 0, 0)),
  (88, ([], .aload_n 0, 1, 0, 0, 0, 0)),
  (89, ([], .getfield 55, 3, 18, 3, 926, 0)),
  (92, ([], .iload_n 2, 1, 2, 0, 0, 0)),
  (93, ([], .iaload, 1, 0, 0, 0, 0)),
  (94, ([], .if_icmp .ne 7, 3, 101, 0, 0, 0)),
  (97, ([], .iconst 1, 1, 0, 0, 0, 1)),
  (98, ([], .goto 4, 3, 102, 0, 0, 0)),
  (101, ([true, true, true, true], .iconst 0, 1, 0, 0, 0, 0)),
  (102, ([true, true, true, true], .istore_n 3, 1, 3, 0, 0, 0)),
  (103, ([], .iload_n 3, 1, 3, 0, 0, 0)),
  (104, ([], .ifCond .eq 7, 3, 111, 0, 0, 0)),
  (107, ([], .iconst 0, 1, 0, 0, 0, 0)),
  (108, ([], .goto 4, 3, 112, 0, 0, 0)),
  (111, ([], .iconst 1, 1, 0, 0, 0, 1)),
  (112, ([], .ireturn, 1, 0, 0, 0, 0))]
noncomputable def E_X7_sortOf : Kt := exL SKc SKn SKr CS (lkp T_X7_sortOf) [F_X7_isNewAt] [] []
noncomputable def F_X7_sortOf : Fn := fun as h => gd (chkA 2 as) (E_X7_sortOf 0 (pad 4 as) [] h)
noncomputable def f_X7_sortOf_101 (h : Hp) : Res := E_X7_sortOf 101 [.retAddr 0, .retAddr 0, .retAddr 0, .retAddr 0] [] h
noncomputable def f_X7_sortOf_102 (s0 : Int32) (h : Hp) : Res := E_X7_sortOf 102 [.retAddr 0, .retAddr 0, .retAddr 0, .retAddr 0] [.int s0] h
set_option maxRecDepth 100000 in
set_option maxHeartbeats 4000000 in
theorem e_X7_sortOf_0 (x1 : Int32) (h : Hp) : F_X7_sortOf [.ref 227, .int x1] h = gd (inb x1 60) (if (rd h 253 x1.toNatClampNeg) = (-1) then gd (inb x1 60) (gd (inb x1 60) (bI (F_X7_isNewAt [.ref 227, .int (rd h 245 x1.toNatClampNeg), .int (rd h 246 x1.toNatClampNeg)] h) (fun v2 h1 => if v2 = 0 then rtn (some (.int 3)) h1 else rtn (some (.int 2)) h1) (hnk []))) else gd (inb x1 60) (gd (inb (rd h 253 x1.toNatClampNeg) 60) (if (rd h 249 x1.toNatClampNeg) = (rd h 240 ((rd h 253 x1.toNatClampNeg).toNatClampNeg)) then gd (inb x1 60) (gd (inb (rd h 253 x1.toNatClampNeg) 60) (if (rd h 250 x1.toNatClampNeg) = (rd h 241 ((rd h 253 x1.toNatClampNeg).toNatClampNeg)) then gd (inb x1 60) (gd (inb (rd h 253 x1.toNatClampNeg) 60) (if (rd h 251 x1.toNatClampNeg) = (rd h 242 ((rd h 253 x1.toNatClampNeg).toNatClampNeg)) then gd (inb x1 60) (gd (inb (rd h 253 x1.toNatClampNeg) 60) (if (rd h 252 x1.toNatClampNeg) = (rd h 243 ((rd h 253 x1.toNatClampNeg).toNatClampNeg)) then f_X7_sortOf_102 1 h else f_X7_sortOf_101 h)) else f_X7_sortOf_101 h)) else f_X7_sortOf_101 h)) else f_X7_sortOf_101 h))) :=
  (exL_it SKc SKn SKr CS (lkp T_X7_sortOf) [F_X7_isNewAt] [] [] [101, 102] 46 0 [.ref 227, .int x1, .retAddr 0, .retAddr 0] [] h).trans rfl
set_option maxRecDepth 100000 in
set_option maxHeartbeats 4000000 in
theorem e_X7_sortOf_101 (h : Hp) : f_X7_sortOf_101 h = f_X7_sortOf_102 0 h :=
  (exL_it SKc SKn SKr CS (lkp T_X7_sortOf) [F_X7_isNewAt] [] [] [101, 102] 1 101 [.retAddr 0, .retAddr 0, .retAddr 0, .retAddr 0] [] h).trans rfl
set_option maxRecDepth 100000 in
set_option maxHeartbeats 4000000 in
theorem e_X7_sortOf_102 (s0 : Int32) (h : Hp) : f_X7_sortOf_102 s0 h = if s0 = 0 then rtn (some (.int 1)) h else rtn (some (.int 0)) h :=
  (exL_it SKc SKn SKr CS (lkp T_X7_sortOf) [F_X7_isNewAt] [] [] [101, 102] 6 102 [.retAddr 0, .retAddr 0, .retAddr 0, .retAddr 0] [.int s0] h).trans rfl

def T_X7_mayClaim : List (Nat × Ent) := [(0, ([], .aload_n 0, 1, 0, 0, 0, 0)),
  (1, ([], .getfield 58, 3, 19, 3, 927, 0)),
  (4, ([], .iload_n 1, 1, 1, 0, 0, 0)),
  (5, ([], .iaload, 1, 0, 0, 0, 0)),
  (6, ([], .iconst (-1), 1, 0, 0, 0, (-1))),
  (7, ([], .if_icmp .ne 49, 3, 56, 0, 0, 0)),
  (10, ([], .aload_n 0, 1, 0, 0, 0, 0)),
  (11, ([], .getfield 34, 3, 11, 3, 919, 0)),
  (14, ([], .iload_n 1, 1, 1, 0, 0, 0)),
  (15, ([], .iaload, 1, 0, 0, 0, 0)),
  (16, ([], .iload_n 2, 1, 2, 0, 0, 0)),
  (17, ([], .if_icmp .ne 39, 3, 56, 0, 0, 0)),
  (20, ([], .aload_n 0, 1, 0, 0, 0, 0)),
  (21, ([], .getfield 37, 3, 12, 3, 920, 0)),
  (24, ([], .iload_n 1, 1, 1, 0, 0, 0)),
  (25, ([], .iaload, 1, 0, 0, 0, 0)),
  (26, ([], .iload_n 3, 1, 3, 0, 0, 0)),
  (27, ([], .if_icmp .ne 29, 3, 56, 0, 0, 0)),
  (30, ([], .aload_n 0, 1, 0, 0, 0, 0)),
  (31, ([], .getfield 40, 3, 13, 3, 921, 0)),
  (34, ([], .iload_n 1, 1, 1, 0, 0, 0)),
  (35, ([], .iaload, 1, 0, 0, 0, 0)),
  (36, ([], .iload 4, 2, 4, 0, 0, 0)),
  (38, ([], .if_icmp .ne 18, 3, 56, 0, 0, 0)),
  (41, ([], .aload_n 0, 1, 0, 0, 0, 0)),
  (42, ([], .getfield 43, 3, 14, 3, 922, 0)),
  (45, ([], .iload_n 1, 1, 1, 0, 0, 0)),
  (46, ([], .iaload, 1, 0, 0, 0, 0)),
  (47, ([], .iload 5, 2, 5, 0, 0, 0)),
  (49, ([], .if_icmp .ne 7, 3, 56, 0, 0, 0)),
  (52, ([], .iconst 1, 1, 0, 0, 0, 1)),
  (53, ([], .goto 4, 3, 57, 0, 0, 0)),
  (56, ([], .iconst 0, 1, 0, 0, 0, 0)),
  (57, ([], .ireturn, 1, 0, 1, 0, 0))]
noncomputable def E_X7_mayClaim : Kt := exL SKc SKn SKr CS (lkp T_X7_mayClaim) [] [] []
noncomputable def F_X7_mayClaim : Fn := fun as h => gd (chkA 6 as) (E_X7_mayClaim 0 (pad 6 as) [] h)
set_option maxRecDepth 100000 in
set_option maxHeartbeats 4000000 in
theorem e_X7_mayClaim_0 (x1 : Int32) (x2 : Int32) (x3 : Int32) (x4 : Int32) (x5 : Int32) (h : Hp) : F_X7_mayClaim [.ref 227, .int x1, .int x2, .int x3, .int x4, .int x5] h = gd (inb x1 60) (if (rd h 244 x1.toNatClampNeg) = (-1) then gd (inb x1 60) (if (rd h 236 x1.toNatClampNeg) = x2 then gd (inb x1 60) (if (rd h 237 x1.toNatClampNeg) = x3 then gd (inb x1 60) (if (rd h 238 x1.toNatClampNeg) = x4 then gd (inb x1 60) (if (rd h 239 x1.toNatClampNeg) = x5 then rtn (some (.int 1)) h else rtn (some (.int 0)) h) else rtn (some (.int 0)) h) else rtn (some (.int 0)) h) else rtn (some (.int 0)) h) else rtn (some (.int 0)) h) :=
  (exL_it SKc SKn SKr CS (lkp T_X7_mayClaim) [] [] [] [] 33 0 [.ref 227, .int x1, .int x2, .int x3, .int x4, .int x5] [] h).trans rfl

def T_X7_request : List (Nat × Ent) := [(0, ([], .iload_n 1, 1, 1, 0, 0, 0)),
  (1, ([], .invokestatic 177, 3, 0, 5, 99, 0)),
  (4, ([], .ifCond .eq 29, 3, 33, 0, 0, 0)),
  (7, ([], .iload_n 2, 1, 2, 0, 0, 0)),
  (8, ([], .invokestatic 160, 3, 1, 5, 99, 0)),
  (11, ([], .ifCond .eq 22, 3, 33, 0, 0, 0)),
  (14, ([], .iload 9, 2, 9, 0, 0, 0)),
  (16, ([], .iconst (-1), 1, 0, 0, 0, (-1))),
  (17, ([], .aload_n 0, 1, 0, 0, 0, 0)),
  (18, ([], .getfield 201, 3, 10, 2, 918, 0)),
  (21, ([], .iconst 1, 1, 0, 0, 0, 1)),
  (22, ([], .isub, 1, 0, 0, 0, 0)),
  (23, ([], .invokestatic 156, 3, 2, 13, 99, 0)),
  (26, ([], .ifCond .eq 7, 3, 33, 0, 0, 0)),
  (29, ([], .iconst 1, 1, 0, 0, 0, 1)),
  (30, ([], .goto 4, 3, 34, 0, 0, 0)),
  (33, ([false, false, false, false, false, false, false, false, false, false, true, true, true, true], .iconst 0, 1, 0, 0, 0, 0)),
  (34, ([false, false, false, false, false, false, false, false, false, false, true, true, true, true], .istore 10, 2, 10, 0, 0, 0)),
  (36, ([], .iload_n 3, 1, 3, 0, 0, 0)),
  (37, ([], .iconst 0, 1, 0, 0, 0, 0)),
  (38, ([], .iconst 1, 1, 0, 0, 0, 1)),
  (39, ([], .invokestatic 156, 3, 2, 13, 99, 0)),
  (42, ([], .ifCond .eq 51, 3, 93, 0, 0, 0)),
  (45, ([], .iload 4, 2, 4, 0, 0, 0)),
  (47, ([], .iload 6, 2, 6, 0, 0, 0)),
  (49, ([], .invokestatic 207, 3, 3, 9, 99, 0)),
  (52, ([], .ifCond .eq 41, 3, 93, 0, 0, 0)),
  (55, ([], .iload 5, 2, 5, 0, 0, 0)),
  (57, ([], .iconst 0, 1, 0, 0, 0, 0)),
  (58, ([], .bipush 71, 2, 0, 0, 0, 71)),
  (60, ([], .invokestatic 156, 3, 2, 13, 99, 0)),
  (63, ([], .ifCond .eq 30, 3, 93, 0, 0, 0)),
  (66, ([], .iload 7, 2, 7, 0, 0, 0)),
  (68, ([], .iload 6, 2, 6, 0, 0, 0)),
  (70, ([], .bipush 19, 2, 0, 0, 0, 19)),
  (72, ([], .invokestatic 156, 3, 2, 13, 99, 0)),
  (75, ([], .ifCond .eq 18, 3, 93, 0, 0, 0)),
  (78, ([], .iload 8, 2, 8, 0, 0, 0)),
  (80, ([], .iconst 0, 1, 0, 0, 0, 0)),
  (81, ([], .bipush 9, 2, 0, 0, 0, 9)),
  (83, ([], .invokestatic 156, 3, 2, 13, 99, 0)),
  (86, ([], .ifCond .eq 7, 3, 93, 0, 0, 0)),
  (89, ([], .iconst 1, 1, 0, 0, 0, 1)),
  (90, ([], .goto 4, 3, 94, 0, 0, 0)),
  (93, ([false, false, false, false, false, false, false, false, false, false, false, true, true, true], .iconst 0, 1, 0, 0, 0, 0)),
  (94, ([false, false, false, false, false, false, false, false, false, false, false, true, true, true], .istore 11, 2, 11, 0, 0, 0)),
  (96, ([], .iload 10, 2, 10, 0, 0, 0)),
  (98, ([], .ifCond .eq 41, 3, 139, 0, 0, 0)),
  (101, ([], .iload 11, 2, 11, 0, 0, 0)),
  (103, ([], .ifCond .eq 36, 3, 139, 0, 0, 0)),
  (106, ([], .aload_n 0, 1, 0, 0, 0, 0)),
  (107, ([], .getfield 164, 3, 20, 2, 928, 0)),
  (110, ([], .bipush 60, 2, 0, 0, 0, 60)),
  (112, ([], .if_icmp .ge 27, 3, 139, 0, 0, 0)),
  (115, ([], .iload 9, 2, 9, 0, 0, 0)),
  (117, ([], .iconst (-1), 1, 0, 0, 0, (-1))),
  (118, ([], .if_icmp .eq 17, 3, 135, 0, 0, 0)),
  (121, ([], .aload_n 0, 1, 0, 0, 0, 0)),
  (122, ([], .iload 9, 2, 9, 0, 0, 0)),
  (124, ([], .iload_n 1, 1, 1, 0, 0, 0)),
  (125, ([], .iload_n 2, 1, 2, 0, 0, 0)),
  (126, ([], .iload_n 3, 1, 3, 0, 0, 0)),
  (127, ([], .iload 4, 2, 4, 0, 0, 0)),
  (129, ([], .invokevirtual 210, 3, 4, 25, 1, 0)),
  (132, ([], .ifCond .eq 7, 3, 139, 0, 0, 0)),
  (135, ([false, false, false, false, false, false, false, false, false, false, false, false, true, true], .iconst 1, 1, 0, 0, 0, 1)),
  (136, ([], .goto 4, 3, 140, 0, 0, 0)),
  (139, ([false, false, false, false, false, false, false, false, false, false, false, false, true, true], .iconst 0, 1, 0, 0, 0, 0)),
  (140, ([false, false, false, false, false, false, false, false, false, false, false, false, true, true], .istore 12, 2, 12, 0, 0, 0)),
  (142, ([], .aload_n 0, 1, 0, 0, 0, 0)),
  (143, ([], .iload 10, 2, 10, 0, 0, 0)),
  (145, ([], .ifCond .ne 7, 3, 152, 0, 0, 0)),
  (148, ([], .iconst 1, 1, 0, 0, 0, 1)),
  (149, ([], .goto 22, 3, 171, 0, 0, 0)),
  (152, ([], .iload 11, 2, 11, 0, 0, 0)),
  (154, ([], .ifCond .ne 7, 3, 161, 0, 0, 0)),
  (157, ([], .iconst 2, 1, 0, 0, 0, 2)),
  (158, ([], .goto 13, 3, 171, 0, 0, 0)),
  (161, ([], .iload 12, 2, 12, 0, 0, 0)),
  (163, ([], .ifCond .eq 7, 3, 170, 0, 0, 0)),
  (166, ([], .iconst 0, 1, 0, 0, 0, 0)),
  (167, ([], .goto 4, 3, 171, 0, 0, 0)),
  (170, ([], .iconst 3, 1, 0, 0, 0, 3)),
  (171, ([false, false, false, false, false, false, false, false, false, false, true, true, true, true], .invokevirtual 170, 3, 5, 9, 1, 0)),
  (174, ([], .ifCond .ne 5, 3, 179, 0, 0, 0)),
  (177, ([], .iconst 0, 1, 0, 0, 0, 0)),
  (178, ([], .ireturn, 1, 0, 0, 0, 0)),
  (179, ([], .aload_n 0, 1, 0, 0, 0, 0)),
  (180, ([], .getfield 164, 3, 20, 2, 928, 0)),
  (183, ([], .istore 13, 2, 13, 0, 0, 0)),
  (185, ([], .aload_n 0, 1, 0, 0, 0, 0)),
  (186, ([], .getfield 61, 3, 21, 3, 929, 0)),
  (189, ([], .iload 13, 2, 13, 0, 0, 0)),
  (191, ([], .iload_n 1, 1, 1, 0, 0, 0)),
  (192, ([], .iastore, 1, 0, 0, 0, 0)),
  (193, ([], .aload_n 0, 1, 0, 0, 0, 0)),
  (194, ([], .getfield 64, 3, 22, 3, 930, 0)),
  (197, ([], .iload 13, 2, 13, 0, 0, 0)),
  (199, ([], .iload_n 2, 1, 2, 0, 0, 0)),
  (200, ([], .iastore, 1, 0, 0, 0, 0)),
  (201, ([], .aload_n 0, 1, 0, 0, 0, 0)),
  (202, ([], .getfield 67, 3, 23, 3, 931, 0)),
  (205, ([], .iload 13, 2, 13, 0, 0, 0)),
  (207, ([], .iload_n 3, 1, 3, 0, 0, 0)),
  (208, ([], .iastore, 1, 0, 0, 0, 0)),
  (209, ([], .aload_n 0, 1, 0, 0, 0, 0)),
  (210, ([], .getfield 70, 3, 24, 3, 932, 0)),
  (213, ([], .iload 13, 2, 13, 0, 0, 0)),
  (215, ([], .iload 4, 2, 4, 0, 0, 0)),
  (217, ([], .iastore, 1, 0, 0, 0, 0)),
  (218, ([], .aload_n 0, 1, 0, 0, 0, 0)),
  (219, ([], .getfield 73, 3, 25, 3, 933, 0)),
  (222, ([], .iload 13, 2, 13, 0, 0, 0)),
  (224, ([], .iload 5, 2, 5, 0, 0, 0)),
  (226, ([], .iastore, 1, 0, 0, 0, 0)),
  (227, ([], .aload_n 0, 1, 0, 0, 0, 0)),
  (228, ([], .getfield 76, 3, 26, 3, 934, 0)),
  (231, ([], .iload 13, 2, 13, 0, 0, 0)),
  (233, ([], .iload 6, 2, 6, 0, 0, 0)),
  (235, ([], .iastore, 1, 0, 0, 0, 0)),
  (236, ([], .aload_n 0, 1, 0, 0, 0, 0)),
  (237, ([], .getfield 79, 3, 27, 3, 935, 0)),
  (240, ([], .iload 13, 2, 13, 0, 0, 0)),
  (242, ([], .iload 7, 2, 7, 0, 0, 0)),
  (244, ([], .iastore, 1, 0, 0, 0, 0)),
  (245, ([], .aload_n 0, 1, 0, 0, 0, 0)),
  (246, ([], .getfield 82, 3, 28, 3, 936, 0)),
  (249, ([], .iload 13, 2, 13, 0, 0, 0)),
  (251, ([], .iload 8, 2, 8, 0, 0, 0)),
  (253, ([], .iastore, 1, 0, 0, 0, 0)),
  (254, ([], .aload_n 0, 1, 0, 0, 0, 0)),
  (255, ([], .getfield 85, 3, 29, 3, 937, 0)),
  (258, ([], .iload 13, 2, 13, 0, 0, 0)),
  (260, ([], .iload 9, 2, 9, 0, 0, 0)),
  (262, ([], .iastore, 1, 0, 0, 0, 0)),
  (263, ([], .aload_n 0, 1, 0, 0, 0, 0)),
  (264, ([], .getfield 88, 3, 30, 3, 938, 0)),
  (267, ([], .iload 13, 2, 13, 0, 0, 0)),
  (269, ([], .iconst 0, 1, 0, 0, 0, 0)),
  (270, ([], .iastore, 1, 0, 0, 0, 0)),
  (271, ([], .aload_n 0, 1, 0, 0, 0, 0)),
  (272, ([], .getfield 94, 3, 32, 3, 940, 0)),
  (275, ([], .iload 13, 2, 13, 0, 0, 0)),
  (277, ([], .iconst (-1), 1, 0, 0, 0, (-1))),
  (278, ([], .iastore, 1, 0, 0, 0, 0)),
  (279, ([], .aload_n 0, 1, 0, 0, 0, 0)),
  (280, ([], .getfield 97, 3, 33, 3, 941, 0)),
  (283, ([], .iload 13, 2, 13, 0, 0, 0)),
  (285, ([], .iconst (-1), 1, 0, 0, 0, (-1))),
  (286, ([], .iastore, 1, 0, 0, 0, 0)),
  (287, ([], .aload_n 0, 1, 0, 0, 0, 0)),
  (288, ([], .getfield 100, 3, 34, 3, 942, 0)),
  (291, ([], .iload 13, 2, 13, 0, 0, 0)),
  (293, ([], .iconst (-1), 1, 0, 0, 0, (-1))),
  (294, ([], .iastore, 1, 0, 0, 0, 0)),
  (295, ([], .iload 9, 2, 9, 0, 0, 0)),
  (297, ([], .iconst (-1), 1, 0, 0, 0, (-1))),
  (298, ([], .if_icmp .eq 12, 3, 310, 0, 0, 0)),
  (301, ([], .aload_n 0, 1, 0, 0, 0, 0)),
  (302, ([], .getfield 58, 3, 19, 3, 927, 0)),
  (305, ([], .iload 9, 2, 9, 0, 0, 0)),
  (307, ([], .iload 13, 2, 13, 0, 0, 0)),
  (309, ([], .iastore, 1, 0, 0, 0, 0)),
  (310, ([false, true, true, true, true, true, true, true, true, true, true, true, true, false], .aload_n 0, 1, 0, 0, 0, 0)),
  (311, ([], .dup, 1, 0, 0, 0, 0)),
  (312, ([], .getfield 164, 3, 20, 2, 928, 0)),
  (315, ([], .iconst 1, 1, 0, 0, 0, 1)),
  (316, ([], .iadd, 1, 0, 0, 0, 0)),
  (317, ([], .putfield 164, 3, 20, 2, 928, 0)),
  (320, ([], .iload 13, 2, 13, 0, 0, 0)),
  (322, ([], .ireturn, 1, 0, 0, 0, 0))]
noncomputable def E_X7_request : Kt := exL SKc SKn SKr CS (lkp T_X7_request) [F_X7_isCarrier, F_X7_isAirport, F_X7_isIn, F_X7_isDay, F_X7_mayClaim, F_X7_holds] [] []
noncomputable def F_X7_request : Fn := fun as h => gd (chkA 10 as) (E_X7_request 0 (pad 14 as) [] h)
noncomputable def f_X7_request_33 (x1 : Int32) (x2 : Int32) (x3 : Int32) (x4 : Int32) (x5 : Int32) (x6 : Int32) (x7 : Int32) (x8 : Int32) (x9 : Int32) (h : Hp) : Res := E_X7_request 33 [.ref 227, .int x1, .int x2, .int x3, .int x4, .int x5, .int x6, .int x7, .int x8, .int x9, .retAddr 0, .retAddr 0, .retAddr 0, .retAddr 0] [] h
noncomputable def f_X7_request_34 (x1 : Int32) (x2 : Int32) (x3 : Int32) (x4 : Int32) (x5 : Int32) (x6 : Int32) (x7 : Int32) (x8 : Int32) (x9 : Int32) (s0 : Int32) (h : Hp) : Res := E_X7_request 34 [.ref 227, .int x1, .int x2, .int x3, .int x4, .int x5, .int x6, .int x7, .int x8, .int x9, .retAddr 0, .retAddr 0, .retAddr 0, .retAddr 0] [.int s0] h
noncomputable def f_X7_request_93 (x1 : Int32) (x2 : Int32) (x3 : Int32) (x4 : Int32) (x5 : Int32) (x6 : Int32) (x7 : Int32) (x8 : Int32) (x9 : Int32) (x10 : Int32) (h : Hp) : Res := E_X7_request 93 [.ref 227, .int x1, .int x2, .int x3, .int x4, .int x5, .int x6, .int x7, .int x8, .int x9, .int x10, .retAddr 0, .retAddr 0, .retAddr 0] [] h
noncomputable def f_X7_request_94 (x1 : Int32) (x2 : Int32) (x3 : Int32) (x4 : Int32) (x5 : Int32) (x6 : Int32) (x7 : Int32) (x8 : Int32) (x9 : Int32) (x10 : Int32) (s0 : Int32) (h : Hp) : Res := E_X7_request 94 [.ref 227, .int x1, .int x2, .int x3, .int x4, .int x5, .int x6, .int x7, .int x8, .int x9, .int x10, .retAddr 0, .retAddr 0, .retAddr 0] [.int s0] h
noncomputable def f_X7_request_135 (x1 : Int32) (x2 : Int32) (x3 : Int32) (x4 : Int32) (x5 : Int32) (x6 : Int32) (x7 : Int32) (x8 : Int32) (x9 : Int32) (x10 : Int32) (x11 : Int32) (h : Hp) : Res := E_X7_request 135 [.ref 227, .int x1, .int x2, .int x3, .int x4, .int x5, .int x6, .int x7, .int x8, .int x9, .int x10, .int x11, .retAddr 0, .retAddr 0] [] h
noncomputable def f_X7_request_139 (x1 : Int32) (x2 : Int32) (x3 : Int32) (x4 : Int32) (x5 : Int32) (x6 : Int32) (x7 : Int32) (x8 : Int32) (x9 : Int32) (x10 : Int32) (x11 : Int32) (h : Hp) : Res := E_X7_request 139 [.ref 227, .int x1, .int x2, .int x3, .int x4, .int x5, .int x6, .int x7, .int x8, .int x9, .int x10, .int x11, .retAddr 0, .retAddr 0] [] h
noncomputable def f_X7_request_140 (x1 : Int32) (x2 : Int32) (x3 : Int32) (x4 : Int32) (x5 : Int32) (x6 : Int32) (x7 : Int32) (x8 : Int32) (x9 : Int32) (x10 : Int32) (x11 : Int32) (s0 : Int32) (h : Hp) : Res := E_X7_request 140 [.ref 227, .int x1, .int x2, .int x3, .int x4, .int x5, .int x6, .int x7, .int x8, .int x9, .int x10, .int x11, .retAddr 0, .retAddr 0] [.int s0] h
noncomputable def f_X7_request_171 (x1 : Int32) (x2 : Int32) (x3 : Int32) (x4 : Int32) (x5 : Int32) (x6 : Int32) (x7 : Int32) (x8 : Int32) (x9 : Int32) (s0 : Int32) (h : Hp) : Res := E_X7_request 171 [.ref 227, .int x1, .int x2, .int x3, .int x4, .int x5, .int x6, .int x7, .int x8, .int x9, .retAddr 0, .retAddr 0, .retAddr 0, .retAddr 0] [.int s0, .ref 227] h
noncomputable def f_X7_request_310 (x13 : Int32) (h : Hp) : Res := E_X7_request 310 [.ref 227, .retAddr 0, .retAddr 0, .retAddr 0, .retAddr 0, .retAddr 0, .retAddr 0, .retAddr 0, .retAddr 0, .retAddr 0, .retAddr 0, .retAddr 0, .retAddr 0, .int x13] [] h
set_option maxRecDepth 100000 in
set_option maxHeartbeats 4000000 in
theorem e_X7_request_0 (x1 : Int32) (x2 : Int32) (x3 : Int32) (x4 : Int32) (x5 : Int32) (x6 : Int32) (x7 : Int32) (x8 : Int32) (x9 : Int32) (h : Hp) : F_X7_request [.ref 227, .int x1, .int x2, .int x3, .int x4, .int x5, .int x6, .int x7, .int x8, .int x9] h = bI (F_X7_isCarrier [.int x1] h) (fun v2 h1 => if v2 = 0 then f_X7_request_33 x1 x2 x3 x4 x5 x6 x7 x8 x9 h1 else bI (F_X7_isAirport [.int x2] h1) (fun v4 h3 => if v4 = 0 then f_X7_request_33 x1 x2 x3 x4 x5 x6 x7 x8 x9 h3 else bI (F_X7_isIn [.int x9, .int (-1), .int ((rd h3 227 10) - 1)] h3) (fun v6 h5 => if v6 = 0 then f_X7_request_33 x1 x2 x3 x4 x5 x6 x7 x8 x9 h5 else f_X7_request_34 x1 x2 x3 x4 x5 x6 x7 x8 x9 1 h5) (hnk [])) (hnk [])) (hnk []) :=
  (exL_it SKc SKn SKr CS (lkp T_X7_request) [F_X7_isCarrier, F_X7_isAirport, F_X7_isIn, F_X7_isDay, F_X7_mayClaim, F_X7_holds] [] [] [33, 34, 93, 94, 135, 139, 140, 171, 310] 16 0 [.ref 227, .int x1, .int x2, .int x3, .int x4, .int x5, .int x6, .int x7, .int x8, .int x9, .retAddr 0, .retAddr 0, .retAddr 0, .retAddr 0] [] h).trans rfl
set_option maxRecDepth 100000 in
set_option maxHeartbeats 4000000 in
theorem e_X7_request_33 (x1 : Int32) (x2 : Int32) (x3 : Int32) (x4 : Int32) (x5 : Int32) (x6 : Int32) (x7 : Int32) (x8 : Int32) (x9 : Int32) (h : Hp) : f_X7_request_33 x1 x2 x3 x4 x5 x6 x7 x8 x9 h = f_X7_request_34 x1 x2 x3 x4 x5 x6 x7 x8 x9 0 h :=
  (exL_it SKc SKn SKr CS (lkp T_X7_request) [F_X7_isCarrier, F_X7_isAirport, F_X7_isIn, F_X7_isDay, F_X7_mayClaim, F_X7_holds] [] [] [33, 34, 93, 94, 135, 139, 140, 171, 310] 1 33 [.ref 227, .int x1, .int x2, .int x3, .int x4, .int x5, .int x6, .int x7, .int x8, .int x9, .retAddr 0, .retAddr 0, .retAddr 0, .retAddr 0] [] h).trans rfl
set_option maxRecDepth 100000 in
set_option maxHeartbeats 4000000 in
theorem e_X7_request_34 (x1 : Int32) (x2 : Int32) (x3 : Int32) (x4 : Int32) (x5 : Int32) (x6 : Int32) (x7 : Int32) (x8 : Int32) (x9 : Int32) (s0 : Int32) (h : Hp) : f_X7_request_34 x1 x2 x3 x4 x5 x6 x7 x8 x9 s0 h = bI (F_X7_isIn [.int x3, .int 0, .int 1] h) (fun v2 h1 => if v2 = 0 then f_X7_request_93 x1 x2 x3 x4 x5 x6 x7 x8 x9 s0 h1 else bI (F_X7_isDay [.int x4, .int x6] h1) (fun v4 h3 => if v4 = 0 then f_X7_request_93 x1 x2 x3 x4 x5 x6 x7 x8 x9 s0 h3 else bI (F_X7_isIn [.int x5, .int 0, .int 71] h3) (fun v6 h5 => if v6 = 0 then f_X7_request_93 x1 x2 x3 x4 x5 x6 x7 x8 x9 s0 h5 else bI (F_X7_isIn [.int x7, .int x6, .int 19] h5) (fun v8 h7 => if v8 = 0 then f_X7_request_93 x1 x2 x3 x4 x5 x6 x7 x8 x9 s0 h7 else bI (F_X7_isIn [.int x8, .int 0, .int 9] h7) (fun v10 h9 => if v10 = 0 then f_X7_request_93 x1 x2 x3 x4 x5 x6 x7 x8 x9 s0 h9 else f_X7_request_94 x1 x2 x3 x4 x5 x6 x7 x8 x9 s0 1 h9) (hnk [])) (hnk [])) (hnk [])) (hnk [])) (hnk []) :=
  (exL_it SKc SKn SKr CS (lkp T_X7_request) [F_X7_isCarrier, F_X7_isAirport, F_X7_isIn, F_X7_isDay, F_X7_mayClaim, F_X7_holds] [] [] [33, 34, 93, 94, 135, 139, 140, 171, 310] 27 34 [.ref 227, .int x1, .int x2, .int x3, .int x4, .int x5, .int x6, .int x7, .int x8, .int x9, .retAddr 0, .retAddr 0, .retAddr 0, .retAddr 0] [.int s0] h).trans rfl
set_option maxRecDepth 100000 in
set_option maxHeartbeats 4000000 in
theorem e_X7_request_93 (x1 : Int32) (x2 : Int32) (x3 : Int32) (x4 : Int32) (x5 : Int32) (x6 : Int32) (x7 : Int32) (x8 : Int32) (x9 : Int32) (x10 : Int32) (h : Hp) : f_X7_request_93 x1 x2 x3 x4 x5 x6 x7 x8 x9 x10 h = f_X7_request_94 x1 x2 x3 x4 x5 x6 x7 x8 x9 x10 0 h :=
  (exL_it SKc SKn SKr CS (lkp T_X7_request) [F_X7_isCarrier, F_X7_isAirport, F_X7_isIn, F_X7_isDay, F_X7_mayClaim, F_X7_holds] [] [] [33, 34, 93, 94, 135, 139, 140, 171, 310] 1 93 [.ref 227, .int x1, .int x2, .int x3, .int x4, .int x5, .int x6, .int x7, .int x8, .int x9, .int x10, .retAddr 0, .retAddr 0, .retAddr 0] [] h).trans rfl
set_option maxRecDepth 100000 in
set_option maxHeartbeats 4000000 in
theorem e_X7_request_94 (x1 : Int32) (x2 : Int32) (x3 : Int32) (x4 : Int32) (x5 : Int32) (x6 : Int32) (x7 : Int32) (x8 : Int32) (x9 : Int32) (x10 : Int32) (s0 : Int32) (h : Hp) : f_X7_request_94 x1 x2 x3 x4 x5 x6 x7 x8 x9 x10 s0 h = if x10 = 0 then f_X7_request_139 x1 x2 x3 x4 x5 x6 x7 x8 x9 x10 s0 h else if s0 = 0 then f_X7_request_139 x1 x2 x3 x4 x5 x6 x7 x8 x9 x10 s0 h else if (rd h 227 20) < 60 then if x9 = (-1) then f_X7_request_135 x1 x2 x3 x4 x5 x6 x7 x8 x9 x10 s0 h else bI (F_X7_mayClaim [.ref 227, .int x9, .int x1, .int x2, .int x3, .int x4] h) (fun v2 h1 => if v2 = 0 then f_X7_request_139 x1 x2 x3 x4 x5 x6 x7 x8 x9 x10 s0 h1 else f_X7_request_135 x1 x2 x3 x4 x5 x6 x7 x8 x9 x10 s0 h1) (hnk []) else f_X7_request_139 x1 x2 x3 x4 x5 x6 x7 x8 x9 x10 s0 h :=
  (exL_it SKc SKn SKr CS (lkp T_X7_request) [F_X7_isCarrier, F_X7_isAirport, F_X7_isIn, F_X7_isDay, F_X7_mayClaim, F_X7_holds] [] [] [33, 34, 93, 94, 135, 139, 140, 171, 310] 20 94 [.ref 227, .int x1, .int x2, .int x3, .int x4, .int x5, .int x6, .int x7, .int x8, .int x9, .int x10, .retAddr 0, .retAddr 0, .retAddr 0] [.int s0] h).trans rfl
set_option maxRecDepth 100000 in
set_option maxHeartbeats 4000000 in
theorem e_X7_request_135 (x1 : Int32) (x2 : Int32) (x3 : Int32) (x4 : Int32) (x5 : Int32) (x6 : Int32) (x7 : Int32) (x8 : Int32) (x9 : Int32) (x10 : Int32) (x11 : Int32) (h : Hp) : f_X7_request_135 x1 x2 x3 x4 x5 x6 x7 x8 x9 x10 x11 h = f_X7_request_140 x1 x2 x3 x4 x5 x6 x7 x8 x9 x10 x11 1 h :=
  (exL_it SKc SKn SKr CS (lkp T_X7_request) [F_X7_isCarrier, F_X7_isAirport, F_X7_isIn, F_X7_isDay, F_X7_mayClaim, F_X7_holds] [] [] [33, 34, 93, 94, 135, 139, 140, 171, 310] 2 135 [.ref 227, .int x1, .int x2, .int x3, .int x4, .int x5, .int x6, .int x7, .int x8, .int x9, .int x10, .int x11, .retAddr 0, .retAddr 0] [] h).trans rfl
set_option maxRecDepth 100000 in
set_option maxHeartbeats 4000000 in
theorem e_X7_request_139 (x1 : Int32) (x2 : Int32) (x3 : Int32) (x4 : Int32) (x5 : Int32) (x6 : Int32) (x7 : Int32) (x8 : Int32) (x9 : Int32) (x10 : Int32) (x11 : Int32) (h : Hp) : f_X7_request_139 x1 x2 x3 x4 x5 x6 x7 x8 x9 x10 x11 h = f_X7_request_140 x1 x2 x3 x4 x5 x6 x7 x8 x9 x10 x11 0 h :=
  (exL_it SKc SKn SKr CS (lkp T_X7_request) [F_X7_isCarrier, F_X7_isAirport, F_X7_isIn, F_X7_isDay, F_X7_mayClaim, F_X7_holds] [] [] [33, 34, 93, 94, 135, 139, 140, 171, 310] 1 139 [.ref 227, .int x1, .int x2, .int x3, .int x4, .int x5, .int x6, .int x7, .int x8, .int x9, .int x10, .int x11, .retAddr 0, .retAddr 0] [] h).trans rfl
set_option maxRecDepth 100000 in
set_option maxHeartbeats 4000000 in
theorem e_X7_request_140 (x1 : Int32) (x2 : Int32) (x3 : Int32) (x4 : Int32) (x5 : Int32) (x6 : Int32) (x7 : Int32) (x8 : Int32) (x9 : Int32) (x10 : Int32) (x11 : Int32) (s0 : Int32) (h : Hp) : f_X7_request_140 x1 x2 x3 x4 x5 x6 x7 x8 x9 x10 x11 s0 h = if x10 = 0 then f_X7_request_171 x1 x2 x3 x4 x5 x6 x7 x8 x9 1 h else if x11 = 0 then f_X7_request_171 x1 x2 x3 x4 x5 x6 x7 x8 x9 2 h else if s0 = 0 then f_X7_request_171 x1 x2 x3 x4 x5 x6 x7 x8 x9 3 h else f_X7_request_171 x1 x2 x3 x4 x5 x6 x7 x8 x9 0 h :=
  (exL_it SKc SKn SKr CS (lkp T_X7_request) [F_X7_isCarrier, F_X7_isAirport, F_X7_isIn, F_X7_isDay, F_X7_mayClaim, F_X7_holds] [] [] [33, 34, 93, 94, 135, 139, 140, 171, 310] 10 140 [.ref 227, .int x1, .int x2, .int x3, .int x4, .int x5, .int x6, .int x7, .int x8, .int x9, .int x10, .int x11, .retAddr 0, .retAddr 0] [.int s0] h).trans rfl
set_option maxRecDepth 100000 in
set_option maxHeartbeats 4000000 in
theorem e_X7_request_171 (x1 : Int32) (x2 : Int32) (x3 : Int32) (x4 : Int32) (x5 : Int32) (x6 : Int32) (x7 : Int32) (x8 : Int32) (x9 : Int32) (s0 : Int32) (h : Hp) : f_X7_request_171 x1 x2 x3 x4 x5 x6 x7 x8 x9 s0 h = bI (F_X7_holds [.ref 227, .int s0] h) (fun v2 h1 => if v2 = 0 then rtn (some (.int 0)) h1 else gd (inb (rd h1 227 20) 60) (gd (inb (rd h1 227 20) 60) (gd (inb (rd h1 227 20) 60) (gd (inb (rd h1 227 20) 60) (gd (inb (rd h1 227 20) 60) (gd (inb (rd h1 227 20) 60) (gd (inb (rd h1 227 20) 60) (gd (inb (rd h1 227 20) 60) (gd (inb (rd h1 227 20) 60) (gd (inb (rd h1 227 20) 60) (gd (inb (rd h1 227 20) 60) (gd (inb (rd h1 227 20) 60) (gd (inb (rd h1 227 20) 60) (if x9 = (-1) then f_X7_request_310 (rd h1 227 20) (wr (wr (wr (wr (wr (wr (wr (wr (wr (wr (wr (wr (wr h1 245 ((rd h1 227 20).toNatClampNeg) x1) 246 ((rd h1 227 20).toNatClampNeg) x2) 247 ((rd h1 227 20).toNatClampNeg) x3) 248 ((rd h1 227 20).toNatClampNeg) x4) 249 ((rd h1 227 20).toNatClampNeg) x5) 250 ((rd h1 227 20).toNatClampNeg) x6) 251 ((rd h1 227 20).toNatClampNeg) x7) 252 ((rd h1 227 20).toNatClampNeg) x8) 253 ((rd h1 227 20).toNatClampNeg) x9) 254 ((rd h1 227 20).toNatClampNeg) 0) 256 ((rd h1 227 20).toNatClampNeg) (-1)) 257 ((rd h1 227 20).toNatClampNeg) (-1)) 258 ((rd h1 227 20).toNatClampNeg) (-1)) else gd (inb x9 60) (f_X7_request_310 (rd h1 227 20) (wr (wr (wr (wr (wr (wr (wr (wr (wr (wr (wr (wr (wr (wr h1 245 ((rd h1 227 20).toNatClampNeg) x1) 246 ((rd h1 227 20).toNatClampNeg) x2) 247 ((rd h1 227 20).toNatClampNeg) x3) 248 ((rd h1 227 20).toNatClampNeg) x4) 249 ((rd h1 227 20).toNatClampNeg) x5) 250 ((rd h1 227 20).toNatClampNeg) x6) 251 ((rd h1 227 20).toNatClampNeg) x7) 252 ((rd h1 227 20).toNatClampNeg) x8) 253 ((rd h1 227 20).toNatClampNeg) x9) 254 ((rd h1 227 20).toNatClampNeg) 0) 256 ((rd h1 227 20).toNatClampNeg) (-1)) 257 ((rd h1 227 20).toNatClampNeg) (-1)) 258 ((rd h1 227 20).toNatClampNeg) (-1)) 244 x9.toNatClampNeg (rd h1 227 20))))))))))))))))) (hnk []) :=
  (exL_it SKc SKn SKr CS (lkp T_X7_request) [F_X7_isCarrier, F_X7_isAirport, F_X7_isIn, F_X7_isDay, F_X7_mayClaim, F_X7_holds] [] [] [33, 34, 93, 94, 135, 139, 140, 171, 310] 78 171 [.ref 227, .int x1, .int x2, .int x3, .int x4, .int x5, .int x6, .int x7, .int x8, .int x9, .retAddr 0, .retAddr 0, .retAddr 0, .retAddr 0] [.int s0, .ref 227] h).trans rfl
set_option maxRecDepth 100000 in
set_option maxHeartbeats 4000000 in
theorem e_X7_request_310 (x13 : Int32) (h : Hp) : f_X7_request_310 x13 h = rtn (some (.int x13)) (wr h 227 20 ((rd h 227 20) + 1)) :=
  (exL_it SKc SKn SKr CS (lkp T_X7_request) [F_X7_isCarrier, F_X7_isAirport, F_X7_isIn, F_X7_isDay, F_X7_mayClaim, F_X7_holds] [] [] [33, 34, 93, 94, 135, 139, 140, 171, 310] 8 310 [.ref 227, .retAddr 0, .retAddr 0, .retAddr 0, .retAddr 0, .retAddr 0, .retAddr 0, .retAddr 0, .retAddr 0, .retAddr 0, .retAddr 0, .retAddr 0, .retAddr 0, .int x13] [] h).trans rfl

def T_X7_link : List (Nat × Ent) := [(0, ([], .aload_n 0, 1, 0, 0, 0, 0)),
  (1, ([], .iload_n 1, 1, 1, 0, 0, 0)),
  (2, ([], .invokevirtual 214, 3, 0, 9, 1, 0)),
  (5, ([], .ifCond .eq 15, 3, 20, 0, 0, 0)),
  (8, ([], .aload_n 0, 1, 0, 0, 0, 0)),
  (9, ([], .iload_n 2, 1, 2, 0, 0, 0)),
  (10, ([], .invokevirtual 214, 3, 0, 9, 1, 0)),
  (13, ([], .ifCond .eq 7, 3, 20, 0, 0, 0)),
  (16, ([], .iconst 1, 1, 0, 0, 0, 1)),
  (17, ([], .goto 4, 3, 21, 0, 0, 0)),
  (20, ([false, false, false, true, true], .iconst 0, 1, 0, 0, 0, 0)),
  (21, ([false, false, false, true, true], .istore_n 3, 1, 3, 0, 0, 0)),
  (22, ([], .iload_n 3, 1, 3, 0, 0, 0)),
  (23, ([], .ifCond .eq 45, 3, 68, 0, 0, 0)),
  (26, ([], .aload_n 0, 1, 0, 0, 0, 0)),
  (27, ([], .getfield 100, 3, 34, 3, 942, 0)),
  (30, ([], .iload_n 1, 1, 1, 0, 0, 0)),
  (31, ([], .iaload, 1, 0, 0, 0, 0)),
  (32, ([], .iconst (-1), 1, 0, 0, 0, (-1))),
  (33, ([], .if_icmp .ne 35, 3, 68, 0, 0, 0)),
  (36, ([], .aload_n 0, 1, 0, 0, 0, 0)),
  (37, ([], .getfield 100, 3, 34, 3, 942, 0)),
  (40, ([], .iload_n 2, 1, 2, 0, 0, 0)),
  (41, ([], .iaload, 1, 0, 0, 0, 0)),
  (42, ([], .iconst (-1), 1, 0, 0, 0, (-1))),
  (43, ([], .if_icmp .ne 25, 3, 68, 0, 0, 0)),
  (46, ([], .aload_n 0, 1, 0, 0, 0, 0)),
  (47, ([], .getfield 88, 3, 30, 3, 938, 0)),
  (50, ([], .iload_n 1, 1, 1, 0, 0, 0)),
  (51, ([], .iaload, 1, 0, 0, 0, 0)),
  (52, ([], .ifCond .ne 16, 3, 68, 0, 0, 0)),
  (55, ([], .aload_n 0, 1, 0, 0, 0, 0)),
  (56, ([], .getfield 88, 3, 30, 3, 938, 0)),
  (59, ([], .iload_n 2, 1, 2, 0, 0, 0)),
  (60, ([], .iaload, 1, 0, 0, 0, 0)),
  (61, ([], .ifCond .ne 7, 3, 68, 0, 0, 0)),
  (64, ([], .iconst 1, 1, 0, 0, 0, 1)),
  (65, ([], .goto 4, 3, 69, 0, 0, 0)),
  (68, ([false, false, false, false, true], .iconst 0, 1, 0, 0, 0, 0)),
  (69, ([false, false, false, false, true], .istore 4, 2, 4, 0, 0, 0)),
  (71, ([], .aload_n 0, 1, 0, 0, 0, 0)),
  (72, ([], .iload_n 3, 1, 3, 0, 0, 0)),
  (73, ([], .ifCond .ne 7, 3, 80, 0, 0, 0)),
  (76, ([], .iconst 1, 1, 0, 0, 0, 1)),
  (77, ([], .goto 22, 3, 99, 0, 0, 0)),
  (80, ([], .iload_n 1, 1, 1, 0, 0, 0)),
  (81, ([], .iload_n 2, 1, 2, 0, 0, 0)),
  (82, ([], .if_icmp .ne 7, 3, 89, 0, 0, 0)),
  (85, ([], .iconst 2, 1, 0, 0, 0, 2)),
  (86, ([], .goto 13, 3, 99, 0, 0, 0)),
  (89, ([], .iload 4, 2, 4, 0, 0, 0)),
  (91, ([], .ifCond .eq 7, 3, 98, 0, 0, 0)),
  (94, ([], .iconst 0, 1, 0, 0, 0, 0)),
  (95, ([], .goto 4, 3, 99, 0, 0, 0)),
  (98, ([], .iconst 3, 1, 0, 0, 0, 3)),
  (99, ([false, false, false, true, true], .invokevirtual 170, 3, 1, 9, 1, 0)),
  (102, ([], .ifCond .eq 17, 3, 119, 0, 0, 0)),
  (105, ([], .aload_n 0, 1, 0, 0, 0, 0)),
  (106, ([], .getfield 100, 3, 34, 3, 942, 0)),
  (109, ([], .iload_n 1, 1, 1, 0, 0, 0)),
  (110, ([], .iload_n 2, 1, 2, 0, 0, 0)),
  (111, ([], .iastore, 1, 0, 0, 0, 0)),
  (112, ([], .aload_n 0, 1, 0, 0, 0, 0)),
  (113, ([], .getfield 100, 3, 34, 3, 942, 0)),
  (116, ([], .iload_n 2, 1, 2, 0, 0, 0)),
  (117, ([], .iload_n 1, 1, 1, 0, 0, 0)),
  (118, ([], .iastore, 1, 0, 0, 0, 0)),
  (119, ([], .return_, 1, 0, 0, 0, 0))]
noncomputable def E_X7_link : Kt := exL SKc SKn SKr CS (lkp T_X7_link) [F_X7_isRequest, F_X7_holds] [] []
noncomputable def F_X7_link : Fn := fun as h => gd (chkA 3 as) (E_X7_link 0 (pad 5 as) [] h)
noncomputable def f_X7_link_20 (x1 : Int32) (x2 : Int32) (h : Hp) : Res := E_X7_link 20 [.ref 227, .int x1, .int x2, .retAddr 0, .retAddr 0] [] h
noncomputable def f_X7_link_21 (x1 : Int32) (x2 : Int32) (s0 : Int32) (h : Hp) : Res := E_X7_link 21 [.ref 227, .int x1, .int x2, .retAddr 0, .retAddr 0] [.int s0] h
noncomputable def f_X7_link_68 (x1 : Int32) (x2 : Int32) (x3 : Int32) (h : Hp) : Res := E_X7_link 68 [.ref 227, .int x1, .int x2, .int x3, .retAddr 0] [] h
noncomputable def f_X7_link_69 (x1 : Int32) (x2 : Int32) (x3 : Int32) (s0 : Int32) (h : Hp) : Res := E_X7_link 69 [.ref 227, .int x1, .int x2, .int x3, .retAddr 0] [.int s0] h
noncomputable def f_X7_link_99 (x1 : Int32) (x2 : Int32) (s0 : Int32) (h : Hp) : Res := E_X7_link 99 [.ref 227, .int x1, .int x2, .retAddr 0, .retAddr 0] [.int s0, .ref 227] h
set_option maxRecDepth 100000 in
set_option maxHeartbeats 4000000 in
theorem e_X7_link_0 (x1 : Int32) (x2 : Int32) (h : Hp) : F_X7_link [.ref 227, .int x1, .int x2] h = bI (F_X7_isRequest [.ref 227, .int x1] h) (fun v2 h1 => if v2 = 0 then f_X7_link_20 x1 x2 h1 else bI (F_X7_isRequest [.ref 227, .int x2] h1) (fun v4 h3 => if v4 = 0 then f_X7_link_20 x1 x2 h3 else f_X7_link_21 x1 x2 1 h3) (hnk [])) (hnk []) :=
  (exL_it SKc SKn SKr CS (lkp T_X7_link) [F_X7_isRequest, F_X7_holds] [] [] [20, 21, 68, 69, 99] 10 0 [.ref 227, .int x1, .int x2, .retAddr 0, .retAddr 0] [] h).trans rfl
set_option maxRecDepth 100000 in
set_option maxHeartbeats 4000000 in
theorem e_X7_link_20 (x1 : Int32) (x2 : Int32) (h : Hp) : f_X7_link_20 x1 x2 h = f_X7_link_21 x1 x2 0 h :=
  (exL_it SKc SKn SKr CS (lkp T_X7_link) [F_X7_isRequest, F_X7_holds] [] [] [20, 21, 68, 69, 99] 1 20 [.ref 227, .int x1, .int x2, .retAddr 0, .retAddr 0] [] h).trans rfl
set_option maxRecDepth 100000 in
set_option maxHeartbeats 4000000 in
theorem e_X7_link_21 (x1 : Int32) (x2 : Int32) (s0 : Int32) (h : Hp) : f_X7_link_21 x1 x2 s0 h = if s0 = 0 then f_X7_link_68 x1 x2 s0 h else gd (inb x1 60) (if (rd h 258 x1.toNatClampNeg) = (-1) then gd (inb x2 60) (if (rd h 258 x2.toNatClampNeg) = (-1) then gd (inb x1 60) (if (rd h 254 x1.toNatClampNeg) = 0 then gd (inb x2 60) (if (rd h 254 x2.toNatClampNeg) = 0 then f_X7_link_69 x1 x2 s0 1 h else f_X7_link_68 x1 x2 s0 h) else f_X7_link_68 x1 x2 s0 h) else f_X7_link_68 x1 x2 s0 h) else f_X7_link_68 x1 x2 s0 h) :=
  (exL_it SKc SKn SKr CS (lkp T_X7_link) [F_X7_isRequest, F_X7_holds] [] [] [20, 21, 68, 69, 99] 27 21 [.ref 227, .int x1, .int x2, .retAddr 0, .retAddr 0] [.int s0] h).trans rfl
set_option maxRecDepth 100000 in
set_option maxHeartbeats 4000000 in
theorem e_X7_link_68 (x1 : Int32) (x2 : Int32) (x3 : Int32) (h : Hp) : f_X7_link_68 x1 x2 x3 h = f_X7_link_69 x1 x2 x3 0 h :=
  (exL_it SKc SKn SKr CS (lkp T_X7_link) [F_X7_isRequest, F_X7_holds] [] [] [20, 21, 68, 69, 99] 1 68 [.ref 227, .int x1, .int x2, .int x3, .retAddr 0] [] h).trans rfl
set_option maxRecDepth 100000 in
set_option maxHeartbeats 4000000 in
theorem e_X7_link_69 (x1 : Int32) (x2 : Int32) (x3 : Int32) (s0 : Int32) (h : Hp) : f_X7_link_69 x1 x2 x3 s0 h = if x3 = 0 then f_X7_link_99 x1 x2 1 h else if x1 = x2 then f_X7_link_99 x1 x2 2 h else if s0 = 0 then f_X7_link_99 x1 x2 3 h else f_X7_link_99 x1 x2 0 h :=
  (exL_it SKc SKn SKr CS (lkp T_X7_link) [F_X7_isRequest, F_X7_holds] [] [] [20, 21, 68, 69, 99] 11 69 [.ref 227, .int x1, .int x2, .int x3, .retAddr 0] [.int s0] h).trans rfl
set_option maxRecDepth 100000 in
set_option maxHeartbeats 4000000 in
theorem e_X7_link_99 (x1 : Int32) (x2 : Int32) (s0 : Int32) (h : Hp) : f_X7_link_99 x1 x2 s0 h = bI (F_X7_holds [.ref 227, .int s0] h) (fun v2 h1 => if v2 = 0 then rtn none h1 else gd (inb x1 60) (gd (inb x2 60) (rtn none (wr (wr h1 258 x1.toNatClampNeg x2) 258 x2.toNatClampNeg x1)))) (hnk []) :=
  (exL_it SKc SKn SKr CS (lkp T_X7_link) [F_X7_isRequest, F_X7_holds] [] [] [20, 21, 68, 69, 99] 13 99 [.ref 227, .int x1, .int x2, .retAddr 0, .retAddr 0] [.int s0, .ref 227] h).trans rfl

def T_X7_gives : List (Nat × Ent) := [(0, ([], .aload_n 0, 1, 0, 0, 0, 0)),
  (1, ([], .getfield 167, 3, 37, 2, 945, 0)),
  (4, ([], .istore_n 3, 1, 3, 0, 0, 0)),
  (5, ([], .aload_n 0, 1, 0, 0, 0, 0)),
  (6, ([], .dup, 1, 0, 0, 0, 0)),
  (7, ([], .getfield 167, 3, 37, 2, 945, 0)),
  (10, ([], .iconst 1, 1, 0, 0, 0, 1)),
  (11, ([], .iadd, 1, 0, 0, 0, 0)),
  (12, ([], .putfield 167, 3, 37, 2, 945, 0)),
  (15, ([], .aload_n 0, 1, 0, 0, 0, 0)),
  (16, ([], .getfield 106, 3, 38, 3, 946, 0)),
  (19, ([], .iload_n 3, 1, 3, 0, 0, 0)),
  (20, ([], .aload_n 0, 1, 0, 0, 0, 0)),
  (21, ([], .getfield 61, 3, 21, 3, 929, 0)),
  (24, ([], .iload_n 1, 1, 1, 0, 0, 0)),
  (25, ([], .iaload, 1, 0, 0, 0, 0)),
  (26, ([], .iastore, 1, 0, 0, 0, 0)),
  (27, ([], .aload_n 0, 1, 0, 0, 0, 0)),
  (28, ([], .getfield 109, 3, 39, 3, 947, 0)),
  (31, ([], .iload_n 3, 1, 3, 0, 0, 0)),
  (32, ([], .aload_n 0, 1, 0, 0, 0, 0)),
  (33, ([], .getfield 61, 3, 21, 3, 929, 0)),
  (36, ([], .iload_n 1, 1, 1, 0, 0, 0)),
  (37, ([], .iaload, 1, 0, 0, 0, 0)),
  (38, ([], .iastore, 1, 0, 0, 0, 0)),
  (39, ([], .aload_n 0, 1, 0, 0, 0, 0)),
  (40, ([], .getfield 112, 3, 40, 3, 948, 0)),
  (43, ([], .iload_n 3, 1, 3, 0, 0, 0)),
  (44, ([], .aload_n 0, 1, 0, 0, 0, 0)),
  (45, ([], .getfield 64, 3, 22, 3, 930, 0)),
  (48, ([], .iload_n 1, 1, 1, 0, 0, 0)),
  (49, ([], .iaload, 1, 0, 0, 0, 0)),
  (50, ([], .iastore, 1, 0, 0, 0, 0)),
  (51, ([], .aload_n 0, 1, 0, 0, 0, 0)),
  (52, ([], .getfield 115, 3, 41, 3, 949, 0)),
  (55, ([], .iload_n 3, 1, 3, 0, 0, 0)),
  (56, ([], .aload_n 0, 1, 0, 0, 0, 0)),
  (57, ([], .getfield 67, 3, 23, 3, 931, 0)),
  (60, ([], .iload_n 1, 1, 1, 0, 0, 0)),
  (61, ([], .iaload, 1, 0, 0, 0, 0)),
  (62, ([], .iastore, 1, 0, 0, 0, 0)),
  (63, ([], .aload_n 0, 1, 0, 0, 0, 0)),
  (64, ([], .getfield 118, 3, 42, 3, 950, 0)),
  (67, ([], .iload_n 3, 1, 3, 0, 0, 0)),
  (68, ([], .aload_n 0, 1, 0, 0, 0, 0)),
  (69, ([], .getfield 70, 3, 24, 3, 932, 0)),
  (72, ([], .iload_n 1, 1, 1, 0, 0, 0)),
  (73, ([], .iaload, 1, 0, 0, 0, 0)),
  (74, ([], .iastore, 1, 0, 0, 0, 0)),
  (75, ([], .aload_n 0, 1, 0, 0, 0, 0)),
  (76, ([], .getfield 121, 3, 43, 3, 951, 0)),
  (79, ([], .iload_n 3, 1, 3, 0, 0, 0)),
  (80, ([], .iload_n 2, 1, 2, 0, 0, 0)),
  (81, ([], .iastore, 1, 0, 0, 0, 0)),
  (82, ([], .aload_n 0, 1, 0, 0, 0, 0)),
  (83, ([], .getfield 124, 3, 44, 3, 952, 0)),
  (86, ([], .iload_n 3, 1, 3, 0, 0, 0)),
  (87, ([], .aload_n 0, 1, 0, 0, 0, 0)),
  (88, ([], .getfield 76, 3, 26, 3, 934, 0)),
  (91, ([], .iload_n 1, 1, 1, 0, 0, 0)),
  (92, ([], .iaload, 1, 0, 0, 0, 0)),
  (93, ([], .iastore, 1, 0, 0, 0, 0)),
  (94, ([], .aload_n 0, 1, 0, 0, 0, 0)),
  (95, ([], .getfield 127, 3, 45, 3, 953, 0)),
  (98, ([], .iload_n 3, 1, 3, 0, 0, 0)),
  (99, ([], .aload_n 0, 1, 0, 0, 0, 0)),
  (100, ([], .getfield 79, 3, 27, 3, 935, 0)),
  (103, ([], .iload_n 1, 1, 1, 0, 0, 0)),
  (104, ([], .iaload, 1, 0, 0, 0, 0)),
  (105, ([], .iastore, 1, 0, 0, 0, 0)),
  (106, ([], .aload_n 0, 1, 0, 0, 0, 0)),
  (107, ([], .getfield 130, 3, 46, 3, 954, 0)),
  (110, ([], .iload_n 3, 1, 3, 0, 0, 0)),
  (111, ([], .aload_n 0, 1, 0, 0, 0, 0)),
  (112, ([], .getfield 82, 3, 28, 3, 936, 0)),
  (115, ([], .iload_n 1, 1, 1, 0, 0, 0)),
  (116, ([], .iaload, 1, 0, 0, 0, 0)),
  (117, ([], .iastore, 1, 0, 0, 0, 0)),
  (118, ([], .aload_n 0, 1, 0, 0, 0, 0)),
  (119, ([], .getfield 133, 3, 47, 3, 955, 0)),
  (122, ([], .iload_n 3, 1, 3, 0, 0, 0)),
  (123, ([], .iload_n 1, 1, 1, 0, 0, 0)),
  (124, ([], .iastore, 1, 0, 0, 0, 0)),
  (125, ([], .aload_n 0, 1, 0, 0, 0, 0)),
  (126, ([], .getfield 136, 3, 48, 3, 956, 0)),
  (129, ([], .iload_n 3, 1, 3, 0, 0, 0)),
  (130, ([], .iconst 0, 1, 0, 0, 0, 0)),
  (131, ([], .iastore, 1, 0, 0, 0, 0)),
  (132, ([], .aload_n 0, 1, 0, 0, 0, 0)),
  (133, ([], .getfield 139, 3, 49, 3, 957, 0)),
  (136, ([], .iload_n 3, 1, 3, 0, 0, 0)),
  (137, ([], .iconst 0, 1, 0, 0, 0, 0)),
  (138, ([], .iastore, 1, 0, 0, 0, 0)),
  (139, ([], .aload_n 0, 1, 0, 0, 0, 0)),
  (140, ([], .getfield 142, 3, 50, 3, 958, 0)),
  (143, ([], .iload_n 3, 1, 3, 0, 0, 0)),
  (144, ([], .iconst 0, 1, 0, 0, 0, 0)),
  (145, ([], .bastore, 1, 0, 0, 0, 0)),
  (146, ([], .aload_n 0, 1, 0, 0, 0, 0)),
  (147, ([], .getfield 88, 3, 30, 3, 938, 0)),
  (150, ([], .iload_n 1, 1, 1, 0, 0, 0)),
  (151, ([], .iconst 1, 1, 0, 0, 0, 1)),
  (152, ([], .iastore, 1, 0, 0, 0, 0)),
  (153, ([], .aload_n 0, 1, 0, 0, 0, 0)),
  (154, ([], .getfield 94, 3, 32, 3, 940, 0)),
  (157, ([], .iload_n 1, 1, 1, 0, 0, 0)),
  (158, ([], .iload_n 3, 1, 3, 0, 0, 0)),
  (159, ([], .iastore, 1, 0, 0, 0, 0)),
  (160, ([], .aload_n 0, 1, 0, 0, 0, 0)),
  (161, ([], .getfield 97, 3, 33, 3, 941, 0)),
  (164, ([], .iload_n 1, 1, 1, 0, 0, 0)),
  (165, ([], .iconst (-1), 1, 0, 0, 0, (-1))),
  (166, ([], .iastore, 1, 0, 0, 0, 0)),
  (167, ([], .return_, 1, 0, 0, 0, 0))]
noncomputable def E_X7_gives : Kt := exL SKc SKn SKr CS (lkp T_X7_gives) [] [] []
noncomputable def F_X7_gives : Fn := fun as h => gd (chkA 3 as) (E_X7_gives 0 (pad 4 as) [] h)
set_option maxRecDepth 100000 in
set_option maxHeartbeats 4000000 in
theorem e_X7_gives_0 (x1 : Int32) (x2 : Int32) (h : Hp) : F_X7_gives [.ref 227, .int x1, .int x2] h = gd (inb x1 60) (gd (inb (rd h 227 37) 60) (gd (inb x1 60) (gd (inb (rd h 227 37) 60) (gd (inb x1 60) (gd (inb (rd h 227 37) 60) (gd (inb x1 60) (gd (inb (rd h 227 37) 60) (gd (inb x1 60) (gd (inb (rd h 227 37) 60) (gd (inb (rd h 227 37) 60) (gd (inb x1 60) (gd (inb (rd h 227 37) 60) (gd (inb x1 60) (gd (inb (rd h 227 37) 60) (gd (inb x1 60) (gd (inb (rd h 227 37) 60) (gd (inb (rd h 227 37) 60) (gd (inb (rd h 227 37) 60) (gd (inb (rd h 227 37) 60) (gd (inb (rd h 227 37) 60) (gd (inb x1 60) (gd (inb x1 60) (gd (inb x1 60) (rtn none (wr (wr (wr (wr (wr (wr (wr (wr (wr (wr (wr (wr (wr (wr (wr (wr (wr h 227 37 ((rd h 227 37) + 1)) 260 ((rd h 227 37).toNatClampNeg) (rd h 245 x1.toNatClampNeg)) 261 ((rd h 227 37).toNatClampNeg) (rd h 245 x1.toNatClampNeg)) 262 ((rd h 227 37).toNatClampNeg) (rd h 246 x1.toNatClampNeg)) 263 ((rd h 227 37).toNatClampNeg) (rd h 247 x1.toNatClampNeg)) 264 ((rd h 227 37).toNatClampNeg) (rd h 248 x1.toNatClampNeg)) 265 ((rd h 227 37).toNatClampNeg) x2) 266 ((rd h 227 37).toNatClampNeg) (rd h 250 x1.toNatClampNeg)) 267 ((rd h 227 37).toNatClampNeg) (rd h 251 x1.toNatClampNeg)) 268 ((rd h 227 37).toNatClampNeg) (rd h 252 x1.toNatClampNeg)) 269 ((rd h 227 37).toNatClampNeg) x1) 270 ((rd h 227 37).toNatClampNeg) 0) 271 ((rd h 227 37).toNatClampNeg) 0) 272 ((rd h 227 37).toNatClampNeg) (vp_nar .boolean 0)) 254 x1.toNatClampNeg 1) 256 x1.toNatClampNeg (rd h 227 37)) 257 x1.toNatClampNeg (-1)))))))))))))))))))))))))) :=
  (exL_it SKc SKn SKr CS (lkp T_X7_gives) [] [] [] [] 114 0 [.ref 227, .int x1, .int x2, .retAddr 0] [] h).trans rfl

def T_X7_waits : List (Nat × Ent) := [(0, ([], .aload_n 0, 1, 0, 0, 0, 0)),
  (1, ([], .getfield 88, 3, 30, 3, 938, 0)),
  (4, ([], .iload_n 1, 1, 1, 0, 0, 0)),
  (5, ([], .iload_n 2, 1, 2, 0, 0, 0)),
  (6, ([], .iastore, 1, 0, 0, 0, 0)),
  (7, ([], .aload_n 0, 1, 0, 0, 0, 0)),
  (8, ([], .getfield 103, 3, 35, 3, 943, 0)),
  (11, ([], .iload_n 1, 1, 1, 0, 0, 0)),
  (12, ([], .aload_n 0, 1, 0, 0, 0, 0)),
  (13, ([], .getfield 217, 3, 36, 2, 944, 0)),
  (16, ([], .iastore, 1, 0, 0, 0, 0)),
  (17, ([], .aload_n 0, 1, 0, 0, 0, 0)),
  (18, ([], .dup, 1, 0, 0, 0, 0)),
  (19, ([], .getfield 217, 3, 36, 2, 944, 0)),
  (22, ([], .iconst 1, 1, 0, 0, 0, 1)),
  (23, ([], .iadd, 1, 0, 0, 0, 0)),
  (24, ([], .putfield 217, 3, 36, 2, 944, 0)),
  (27, ([], .return_, 1, 0, 0, 0, 0))]
noncomputable def E_X7_waits : Kt := exL SKc SKn SKr CS (lkp T_X7_waits) [] [] []
noncomputable def F_X7_waits : Fn := fun as h => gd (chkA 3 as) (E_X7_waits 0 (pad 3 as) [] h)
set_option maxRecDepth 100000 in
set_option maxHeartbeats 4000000 in
theorem e_X7_waits_0 (x1 : Int32) (x2 : Int32) (h : Hp) : F_X7_waits [.ref 227, .int x1, .int x2] h = gd (inb x1 60) (gd (inb x1 60) (rtn none (wr (wr (wr h 254 x1.toNatClampNeg x2) 259 x1.toNatClampNeg (rd h 227 36)) 227 36 ((rd h 227 36) + 1)))) :=
  (exL_it SKc SKn SKr CS (lkp T_X7_waits) [] [] [] [] 18 0 [.ref 227, .int x1, .int x2] [] h).trans rfl

def T_X7_isAhead : List (Nat × Ent) := [(0, ([], .aload_n 0, 1, 0, 0, 0, 0)),
  (1, ([], .iload_n 1, 1, 1, 0, 0, 0)),
  (2, ([], .invokevirtual 195, 3, 0, 9, 1, 0)),
  (5, ([], .aload_n 0, 1, 0, 0, 0, 0)),
  (6, ([], .iload_n 2, 1, 2, 0, 0, 0)),
  (7, ([], .invokevirtual 195, 3, 0, 9, 1, 0)),
  (10, ([], .if_icmp .gt 21, 3, 31, 0, 0, 0)),
  (13, ([], .aload_n 0, 1, 0, 0, 0, 0)),
  (14, ([], .iload_n 1, 1, 1, 0, 0, 0)),
  (15, ([], .invokevirtual 195, 3, 0, 9, 1, 0)),
  (18, ([], .aload_n 0, 1, 0, 0, 0, 0)),
  (19, ([], .iload_n 2, 1, 2, 0, 0, 0)),
  (20, ([], .invokevirtual 195, 3, 0, 9, 1, 0)),
  (23, ([], .if_icmp .ne 12, 3, 35, 0, 0, 0)),
  (26, ([], .iload_n 1, 1, 1, 0, 0, 0)),
  (27, ([], .iload_n 2, 1, 2, 0, 0, 0)),
  (28, ([], .if_icmp .ge 7, 3, 35, 0, 0, 0)),
  (31, ([], .iconst 1, 1, 0, 0, 0, 1)),
  (32, ([], .goto 4, 3, 36, 0, 0, 0)),
  (35, ([], .iconst 0, 1, 0, 0, 0, 0)),
  (36, ([], .ireturn, 1, 0, 1, 0, 0))]
noncomputable def E_X7_isAhead : Kt := exL SKc SKn SKr CS (lkp T_X7_isAhead) [F_X7_weeks] [] []
noncomputable def F_X7_isAhead : Fn := fun as h => gd (chkA 3 as) (E_X7_isAhead 0 (pad 3 as) [] h)
set_option maxRecDepth 100000 in
set_option maxHeartbeats 4000000 in
theorem e_X7_isAhead_0 (x1 : Int32) (x2 : Int32) (h : Hp) : F_X7_isAhead [.ref 227, .int x1, .int x2] h = bI (F_X7_weeks [.ref 227, .int x1] h) (fun v2 h1 => bI (F_X7_weeks [.ref 227, .int x2] h1) (fun v4 h3 => if v4 < v2 then rtn (some (.int 1)) h3 else bI (F_X7_weeks [.ref 227, .int x1] h3) (fun v6 h5 => bI (F_X7_weeks [.ref 227, .int x2] h5) (fun v8 h7 => if v6 = v8 then if x1 < x2 then rtn (some (.int 1)) h7 else rtn (some (.int 0)) h7 else rtn (some (.int 0)) h7) (hnk [])) (hnk [])) (hnk [])) (hnk []) :=
  (exL_it SKc SKn SKr CS (lkp T_X7_isAhead) [F_X7_weeks] [] [] [] 20 0 [.ref 227, .int x1, .int x2] [] h).trans rfl

def T_X7_isOrdered : List (Nat × Ent) := [(0, ([], .iconst 0, 1, 0, 0, 0, 0)),
  (1, ([], .istore_n 2, 1, 2, 0, 0, 0)),
  (2, ([], .iconst 0, 1, 0, 0, 0, 0)),
  (3, ([], .istore_n 3, 1, 3, 0, 0, 0)),
  (4, ([false, false, false, false], .iload_n 3, 1, 3, 0, 0, 0)),
  (5, ([], .aload_n 0, 1, 0, 0, 0, 0)),
  (6, ([], .getfield 226, 3, 52, 2, 960, 0)),
  (9, ([], .if_icmp .ge 29, 3, 38, 0, 0, 0)),
  (12, ([], .iload_n 2, 1, 2, 0, 0, 0)),
  (13, ([], .ifCond .ne 13, 3, 26, 0, 0, 0)),
  (16, ([], .aload_n 0, 1, 0, 0, 0, 0)),
  (17, ([], .getfield 149, 3, 53, 3, 961, 0)),
  (20, ([], .iload_n 3, 1, 3, 0, 0, 0)),
  (21, ([], .iaload, 1, 0, 0, 0, 0)),
  (22, ([], .iload_n 1, 1, 1, 0, 0, 0)),
  (23, ([], .if_icmp .ne 7, 3, 30, 0, 0, 0)),
  (26, ([false, false, true, false], .iconst 1, 1, 0, 0, 0, 1)),
  (27, ([], .goto 4, 3, 31, 0, 0, 0)),
  (30, ([], .iconst 0, 1, 0, 0, 0, 0)),
  (31, ([false, false, true, false], .istore_n 2, 1, 2, 0, 0, 0)),
  (32, ([], .iinc 3 1, 3, 3, 0, 0, 1)),
  (35, ([], .goto (-31), 3, 4, 0, 0, 0)),
  (38, ([], .iload_n 2, 1, 2, 0, 0, 0)),
  (39, ([], .ireturn, 1, 0, 1, 0, 0))]
noncomputable def E_X7_isOrdered : Kt := exL SKc SKn SKr CS (lkp T_X7_isOrdered) [] [] []
noncomputable def F_X7_isOrdered : Fn := fun as h => gd (chkA 2 as) (E_X7_isOrdered 0 (pad 4 as) [] h)
noncomputable def f_X7_isOrdered_4 (x1 : Int32) (x2 : Int32) (x3 : Int32) (h : Hp) : Res := E_X7_isOrdered 4 [.ref 227, .int x1, .int x2, .int x3] [] h
noncomputable def f_X7_isOrdered_26 (x1 : Int32) (x3 : Int32) (h : Hp) : Res := E_X7_isOrdered 26 [.ref 227, .int x1, .retAddr 0, .int x3] [] h
noncomputable def f_X7_isOrdered_31 (x1 : Int32) (x3 : Int32) (s0 : Int32) (h : Hp) : Res := E_X7_isOrdered 31 [.ref 227, .int x1, .retAddr 0, .int x3] [.int s0] h
set_option maxRecDepth 100000 in
set_option maxHeartbeats 4000000 in
theorem e_X7_isOrdered_0 (x1 : Int32) (h : Hp) : F_X7_isOrdered [.ref 227, .int x1] h = f_X7_isOrdered_4 x1 0 0 h :=
  (exL_it SKc SKn SKr CS (lkp T_X7_isOrdered) [] [] [] [4, 26, 31] 4 0 [.ref 227, .int x1, .retAddr 0, .retAddr 0] [] h).trans rfl
set_option maxRecDepth 100000 in
set_option maxHeartbeats 4000000 in
theorem e_X7_isOrdered_4 (x1 : Int32) (x2 : Int32) (x3 : Int32) (h : Hp) : f_X7_isOrdered_4 x1 x2 x3 h = if x3 < (rd h 227 52) then if x2 = 0 then gd (inb x3 60) (if (rd h 274 x3.toNatClampNeg) = x1 then f_X7_isOrdered_26 x1 x3 h else f_X7_isOrdered_31 x1 x3 0 h) else f_X7_isOrdered_26 x1 x3 h else gd (okZ 1 x2) (rtn (some (.int x2)) h) :=
  (exL_it SKc SKn SKr CS (lkp T_X7_isOrdered) [] [] [] [4, 26, 31] 13 4 [.ref 227, .int x1, .int x2, .int x3] [] h).trans rfl
set_option maxRecDepth 100000 in
set_option maxHeartbeats 4000000 in
theorem e_X7_isOrdered_26 (x1 : Int32) (x3 : Int32) (h : Hp) : f_X7_isOrdered_26 x1 x3 h = f_X7_isOrdered_31 x1 x3 1 h :=
  (exL_it SKc SKn SKr CS (lkp T_X7_isOrdered) [] [] [] [4, 26, 31] 2 26 [.ref 227, .int x1, .retAddr 0, .int x3] [] h).trans rfl
set_option maxRecDepth 100000 in
set_option maxHeartbeats 4000000 in
theorem e_X7_isOrdered_31 (x1 : Int32) (x3 : Int32) (s0 : Int32) (h : Hp) : f_X7_isOrdered_31 x1 x3 s0 h = f_X7_isOrdered_4 x1 s0 (x3 + 1) h :=
  (exL_it SKc SKn SKr CS (lkp T_X7_isOrdered) [] [] [] [4, 26, 31] 3 31 [.ref 227, .int x1, .retAddr 0, .int x3] [.int s0] h).trans rfl

def T_X7_firstOf : List (Nat × Ent) := [(0, ([], .iconst (-1), 1, 0, 0, 0, (-1))),
  (1, ([], .istore_n 2, 1, 2, 0, 0, 0)),
  (2, ([], .iconst 0, 1, 0, 0, 0, 0)),
  (3, ([], .istore_n 3, 1, 3, 0, 0, 0)),
  (4, ([false, false, false, false, true], .iload_n 3, 1, 3, 0, 0, 0)),
  (5, ([], .aload_n 0, 1, 0, 0, 0, 0)),
  (6, ([], .getfield 164, 3, 20, 2, 928, 0)),
  (9, ([], .if_icmp .ge 68, 3, 77, 0, 0, 0)),
  (12, ([], .aload_n 0, 1, 0, 0, 0, 0)),
  (13, ([], .getfield 88, 3, 30, 3, 938, 0)),
  (16, ([], .iload_n 3, 1, 3, 0, 0, 0)),
  (17, ([], .iaload, 1, 0, 0, 0, 0)),
  (18, ([], .ifCond .ne 25, 3, 43, 0, 0, 0)),
  (21, ([], .aload_n 0, 1, 0, 0, 0, 0)),
  (22, ([], .getfield 91, 3, 31, 3, 939, 0)),
  (25, ([], .iload_n 3, 1, 3, 0, 0, 0)),
  (26, ([], .iaload, 1, 0, 0, 0, 0)),
  (27, ([], .iload_n 1, 1, 1, 0, 0, 0)),
  (28, ([], .if_icmp .ne 15, 3, 43, 0, 0, 0)),
  (31, ([], .aload_n 0, 1, 0, 0, 0, 0)),
  (32, ([], .iload_n 3, 1, 3, 0, 0, 0)),
  (33, ([], .invokevirtual 220, 3, 0, 9, 1, 0)),
  (36, ([], .ifCond .ne 7, 3, 43, 0, 0, 0)),
  (39, ([], .iconst 1, 1, 0, 0, 0, 1)),
  (40, ([], .goto 4, 3, 44, 0, 0, 0)),
  (43, ([false, false, false, false, true], .iconst 0, 1, 0, 0, 0, 0)),
  (44, ([false, false, false, false, true], .istore 4, 2, 4, 0, 0, 0)),
  (46, ([], .iload 4, 2, 4, 0, 0, 0)),
  (48, ([], .ifCond .eq 21, 3, 69, 0, 0, 0)),
  (51, ([], .iload_n 2, 1, 2, 0, 0, 0)),
  (52, ([], .iconst (-1), 1, 0, 0, 0, (-1))),
  (53, ([], .if_icmp .eq 12, 3, 65, 0, 0, 0)),
  (56, ([], .aload_n 0, 1, 0, 0, 0, 0)),
  (57, ([], .iload_n 3, 1, 3, 0, 0, 0)),
  (58, ([], .iload_n 2, 1, 2, 0, 0, 0)),
  (59, ([], .invokevirtual 223, 3, 1, 13, 1, 0)),
  (62, ([], .ifCond .eq 7, 3, 69, 0, 0, 0)),
  (65, ([false, false, true, false, true], .iload_n 3, 1, 3, 0, 0, 0)),
  (66, ([], .goto 4, 3, 70, 0, 0, 0)),
  (69, ([false, false, false, false, true], .iload_n 2, 1, 2, 0, 0, 0)),
  (70, ([false, false, true, false, true], .istore_n 2, 1, 2, 0, 0, 0)),
  (71, ([], .iinc 3 1, 3, 3, 0, 0, 1)),
  (74, ([], .goto (-70), 3, 4, 0, 0, 0)),
  (77, ([], .iload_n 2, 1, 2, 0, 0, 0)),
  (78, ([], .ireturn, 1, 0, 0, 0, 0))]
noncomputable def E_X7_firstOf : Kt := exL SKc SKn SKr CS (lkp T_X7_firstOf) [F_X7_isOrdered, F_X7_isAhead] [] []
noncomputable def F_X7_firstOf : Fn := fun as h => gd (chkA 2 as) (E_X7_firstOf 0 (pad 5 as) [] h)
noncomputable def f_X7_firstOf_4 (x1 : Int32) (x2 : Int32) (x3 : Int32) (h : Hp) : Res := E_X7_firstOf 4 [.ref 227, .int x1, .int x2, .int x3, .retAddr 0] [] h
noncomputable def f_X7_firstOf_43 (x1 : Int32) (x2 : Int32) (x3 : Int32) (h : Hp) : Res := E_X7_firstOf 43 [.ref 227, .int x1, .int x2, .int x3, .retAddr 0] [] h
noncomputable def f_X7_firstOf_44 (x1 : Int32) (x2 : Int32) (x3 : Int32) (s0 : Int32) (h : Hp) : Res := E_X7_firstOf 44 [.ref 227, .int x1, .int x2, .int x3, .retAddr 0] [.int s0] h
noncomputable def f_X7_firstOf_65 (x1 : Int32) (x3 : Int32) (h : Hp) : Res := E_X7_firstOf 65 [.ref 227, .int x1, .retAddr 0, .int x3, .retAddr 0] [] h
noncomputable def f_X7_firstOf_69 (x1 : Int32) (x2 : Int32) (x3 : Int32) (h : Hp) : Res := E_X7_firstOf 69 [.ref 227, .int x1, .int x2, .int x3, .retAddr 0] [] h
noncomputable def f_X7_firstOf_70 (x1 : Int32) (x3 : Int32) (s0 : Int32) (h : Hp) : Res := E_X7_firstOf 70 [.ref 227, .int x1, .retAddr 0, .int x3, .retAddr 0] [.int s0] h
set_option maxRecDepth 100000 in
set_option maxHeartbeats 4000000 in
theorem e_X7_firstOf_0 (x1 : Int32) (h : Hp) : F_X7_firstOf [.ref 227, .int x1] h = f_X7_firstOf_4 x1 (-1) 0 h :=
  (exL_it SKc SKn SKr CS (lkp T_X7_firstOf) [F_X7_isOrdered, F_X7_isAhead] [] [] [4, 43, 44, 65, 69, 70] 4 0 [.ref 227, .int x1, .retAddr 0, .retAddr 0, .retAddr 0] [] h).trans rfl
set_option maxRecDepth 100000 in
set_option maxHeartbeats 4000000 in
theorem e_X7_firstOf_4 (x1 : Int32) (x2 : Int32) (x3 : Int32) (h : Hp) : f_X7_firstOf_4 x1 x2 x3 h = if x3 < (rd h 227 20) then gd (inb x3 60) (if (rd h 254 x3.toNatClampNeg) = 0 then gd (inb x3 60) (if (rd h 255 x3.toNatClampNeg) = x1 then bI (F_X7_isOrdered [.ref 227, .int x3] h) (fun v2 h1 => if v2 = 0 then f_X7_firstOf_44 x1 x2 x3 1 h1 else f_X7_firstOf_43 x1 x2 x3 h1) (hnk []) else f_X7_firstOf_43 x1 x2 x3 h) else f_X7_firstOf_43 x1 x2 x3 h) else rtn (some (.int x2)) h :=
  (exL_it SKc SKn SKr CS (lkp T_X7_firstOf) [F_X7_isOrdered, F_X7_isAhead] [] [] [4, 43, 44, 65, 69, 70] 21 4 [.ref 227, .int x1, .int x2, .int x3, .retAddr 0] [] h).trans rfl
set_option maxRecDepth 100000 in
set_option maxHeartbeats 4000000 in
theorem e_X7_firstOf_43 (x1 : Int32) (x2 : Int32) (x3 : Int32) (h : Hp) : f_X7_firstOf_43 x1 x2 x3 h = f_X7_firstOf_44 x1 x2 x3 0 h :=
  (exL_it SKc SKn SKr CS (lkp T_X7_firstOf) [F_X7_isOrdered, F_X7_isAhead] [] [] [4, 43, 44, 65, 69, 70] 1 43 [.ref 227, .int x1, .int x2, .int x3, .retAddr 0] [] h).trans rfl
set_option maxRecDepth 100000 in
set_option maxHeartbeats 4000000 in
theorem e_X7_firstOf_44 (x1 : Int32) (x2 : Int32) (x3 : Int32) (s0 : Int32) (h : Hp) : f_X7_firstOf_44 x1 x2 x3 s0 h = if s0 = 0 then f_X7_firstOf_69 x1 x2 x3 h else if x2 = (-1) then f_X7_firstOf_65 x1 x3 h else bI (F_X7_isAhead [.ref 227, .int x3, .int x2] h) (fun v2 h1 => if v2 = 0 then f_X7_firstOf_69 x1 x2 x3 h1 else f_X7_firstOf_65 x1 x3 h1) (hnk []) :=
  (exL_it SKc SKn SKr CS (lkp T_X7_firstOf) [F_X7_isOrdered, F_X7_isAhead] [] [] [4, 43, 44, 65, 69, 70] 11 44 [.ref 227, .int x1, .int x2, .int x3, .retAddr 0] [.int s0] h).trans rfl
set_option maxRecDepth 100000 in
set_option maxHeartbeats 4000000 in
theorem e_X7_firstOf_65 (x1 : Int32) (x3 : Int32) (h : Hp) : f_X7_firstOf_65 x1 x3 h = f_X7_firstOf_70 x1 x3 x3 h :=
  (exL_it SKc SKn SKr CS (lkp T_X7_firstOf) [F_X7_isOrdered, F_X7_isAhead] [] [] [4, 43, 44, 65, 69, 70] 2 65 [.ref 227, .int x1, .retAddr 0, .int x3, .retAddr 0] [] h).trans rfl
set_option maxRecDepth 100000 in
set_option maxHeartbeats 4000000 in
theorem e_X7_firstOf_69 (x1 : Int32) (x2 : Int32) (x3 : Int32) (h : Hp) : f_X7_firstOf_69 x1 x2 x3 h = f_X7_firstOf_70 x1 x3 x2 h :=
  (exL_it SKc SKn SKr CS (lkp T_X7_firstOf) [F_X7_isOrdered, F_X7_isAhead] [] [] [4, 43, 44, 65, 69, 70] 1 69 [.ref 227, .int x1, .int x2, .int x3, .retAddr 0] [] h).trans rfl
set_option maxRecDepth 100000 in
set_option maxHeartbeats 4000000 in
theorem e_X7_firstOf_70 (x1 : Int32) (x3 : Int32) (s0 : Int32) (h : Hp) : f_X7_firstOf_70 x1 x3 s0 h = f_X7_firstOf_4 x1 s0 (x3 + 1) h :=
  (exL_it SKc SKn SKr CS (lkp T_X7_firstOf) [F_X7_isOrdered, F_X7_isAhead] [] [] [4, 43, 44, 65, 69, 70] 3 70 [.ref 227, .int x1, .retAddr 0, .int x3, .retAddr 0] [.int s0] h).trans rfl

def T_X7_orders : List (Nat × Ent) := [(0, ([], .aload_n 0, 1, 0, 0, 0, 0)),
  (1, ([], .iload_n 1, 1, 1, 0, 0, 0)),
  (2, ([], .invokevirtual 229, 3, 0, 9, 1, 0)),
  (5, ([], .istore_n 2, 1, 2, 0, 0, 0)),
  (6, ([], .iload_n 2, 1, 2, 0, 0, 0)),
  (7, ([], .iconst (-1), 1, 0, 0, 0, (-1))),
  (8, ([], .if_icmp .eq 23, 3, 31, 0, 0, 0)),
  (11, ([], .aload_n 0, 1, 0, 0, 0, 0)),
  (12, ([], .getfield 149, 3, 53, 3, 961, 0)),
  (15, ([], .aload_n 0, 1, 0, 0, 0, 0)),
  (16, ([], .getfield 226, 3, 52, 2, 960, 0)),
  (19, ([], .iload_n 2, 1, 2, 0, 0, 0)),
  (20, ([], .iastore, 1, 0, 0, 0, 0)),
  (21, ([], .aload_n 0, 1, 0, 0, 0, 0)),
  (22, ([], .dup, 1, 0, 0, 0, 0)),
  (23, ([], .getfield 226, 3, 52, 2, 960, 0)),
  (26, ([], .iconst 1, 1, 0, 0, 0, 1)),
  (27, ([], .iadd, 1, 0, 0, 0, 0)),
  (28, ([], .putfield 226, 3, 52, 2, 960, 0)),
  (31, ([true, true, false], .iload_n 2, 1, 2, 0, 0, 0)),
  (32, ([], .iconst (-1), 1, 0, 0, 0, (-1))),
  (33, ([], .if_icmp .eq 7, 3, 40, 0, 0, 0)),
  (36, ([], .iconst 1, 1, 0, 0, 0, 1)),
  (37, ([], .goto 4, 3, 41, 0, 0, 0)),
  (40, ([], .iconst 0, 1, 0, 0, 0, 0)),
  (41, ([], .ireturn, 1, 0, 1, 0, 0))]
noncomputable def E_X7_orders : Kt := exL SKc SKn SKr CS (lkp T_X7_orders) [F_X7_firstOf] [] []
noncomputable def F_X7_orders : Fn := fun as h => gd (chkA 2 as) (E_X7_orders 0 (pad 3 as) [] h)
noncomputable def f_X7_orders_31 (x2 : Int32) (h : Hp) : Res := E_X7_orders 31 [.retAddr 0, .retAddr 0, .int x2] [] h
set_option maxRecDepth 100000 in
set_option maxHeartbeats 4000000 in
theorem e_X7_orders_0 (x1 : Int32) (h : Hp) : F_X7_orders [.ref 227, .int x1] h = bI (F_X7_firstOf [.ref 227, .int x1] h) (fun v2 h1 => if v2 = (-1) then f_X7_orders_31 v2 h1 else gd (inb (rd h1 227 52) 60) (f_X7_orders_31 v2 (wr (wr h1 274 ((rd h1 227 52).toNatClampNeg) v2) 227 52 ((rd h1 227 52) + 1)))) (hnk []) :=
  (exL_it SKc SKn SKr CS (lkp T_X7_orders) [F_X7_firstOf] [] [] [31] 19 0 [.ref 227, .int x1, .retAddr 0] [] h).trans rfl
set_option maxRecDepth 100000 in
set_option maxHeartbeats 4000000 in
theorem e_X7_orders_31 (x2 : Int32) (h : Hp) : f_X7_orders_31 x2 h = if x2 = (-1) then rtn (some (.int 0)) h else rtn (some (.int 1)) h :=
  (exL_it SKc SKn SKr CS (lkp T_X7_orders) [F_X7_firstOf] [] [] [31] 6 31 [.retAddr 0, .retAddr 0, .int x2] [] h).trans rfl

def T_X7_sorts : List (Nat × Ent) := [(0, ([], .iconst 0, 1, 0, 0, 0, 0)),
  (1, ([], .istore_n 1, 1, 1, 0, 0, 0)),
  (2, ([false, false, true], .iload_n 1, 1, 1, 0, 0, 0)),
  (3, ([], .aload_n 0, 1, 0, 0, 0, 0)),
  (4, ([], .getfield 164, 3, 20, 2, 928, 0)),
  (7, ([], .if_icmp .ge 38, 3, 45, 0, 0, 0)),
  (10, ([], .aload_n 0, 1, 0, 0, 0, 0)),
  (11, ([], .getfield 91, 3, 31, 3, 939, 0)),
  (14, ([], .iload_n 1, 1, 1, 0, 0, 0)),
  (15, ([], .aload_n 0, 1, 0, 0, 0, 0)),
  (16, ([], .getfield 88, 3, 30, 3, 938, 0)),
  (19, ([], .iload_n 1, 1, 1, 0, 0, 0)),
  (20, ([], .iaload, 1, 0, 0, 0, 0)),
  (21, ([], .ifCond .ne 11, 3, 32, 0, 0, 0)),
  (24, ([], .aload_n 0, 1, 0, 0, 0, 0)),
  (25, ([], .iload_n 1, 1, 1, 0, 0, 0)),
  (26, ([], .invokevirtual 232, 3, 0, 9, 1, 0)),
  (29, ([], .goto 9, 3, 38, 0, 0, 0)),
  (32, ([], .aload_n 0, 1, 0, 0, 0, 0)),
  (33, ([], .getfield 91, 3, 31, 3, 939, 0)),
  (36, ([], .iload_n 1, 1, 1, 0, 0, 0)),
  (37, ([], .iaload, 1, 0, 0, 0, 0)),
  (38, ([false, false, true], .iastore, 1, 0, 0, 0, 0)),
  (39, ([], .iinc 1 1, 3, 1, 0, 0, 1)),
  (42, ([], .goto (-40), 3, 2, 0, 0, 0)),
  (45, ([], .aload_n 0, 1, 0, 0, 0, 0)),
  (46, ([], .iconst 0, 1, 0, 0, 0, 0)),
  (47, ([], .putfield 226, 3, 52, 2, 960, 0)),
  (50, ([], .iconst 0, 1, 0, 0, 0, 0)),
  (51, ([], .istore_n 1, 1, 1, 0, 0, 0)),
  (52, ([false, false, true], .iload_n 1, 1, 1, 0, 0, 0)),
  (53, ([], .iconst 1, 1, 0, 0, 0, 1)),
  (54, ([], .if_icmp .gt 24, 3, 78, 0, 0, 0)),
  (57, ([], .iconst 1, 1, 0, 0, 0, 1)),
  (58, ([], .istore_n 2, 1, 2, 0, 0, 0)),
  (59, ([false, false, false], .iload_n 2, 1, 2, 0, 0, 0)),
  (60, ([], .ifCond .eq 12, 3, 72, 0, 0, 0)),
  (63, ([], .aload_n 0, 1, 0, 0, 0, 0)),
  (64, ([], .iload_n 1, 1, 1, 0, 0, 0)),
  (65, ([], .invokevirtual 235, 3, 1, 9, 1, 0)),
  (68, ([], .istore_n 2, 1, 2, 0, 0, 0)),
  (69, ([], .goto (-10), 3, 59, 0, 0, 0)),
  (72, ([], .iinc 1 1, 3, 1, 0, 0, 1)),
  (75, ([], .goto (-23), 3, 52, 0, 0, 0)),
  (78, ([], .iconst 1, 1, 0, 0, 0, 1)),
  (79, ([], .istore_n 1, 1, 1, 0, 0, 0)),
  (80, ([false, false, true], .iload_n 1, 1, 1, 0, 0, 0)),
  (81, ([], .ifCond .eq 30, 3, 111, 0, 0, 0)),
  (84, ([], .aload_n 0, 1, 0, 0, 0, 0)),
  (85, ([], .iconst 2, 1, 0, 0, 0, 2)),
  (86, ([], .invokevirtual 235, 3, 1, 9, 1, 0)),
  (89, ([], .istore_n 2, 1, 2, 0, 0, 0)),
  (90, ([], .aload_n 0, 1, 0, 0, 0, 0)),
  (91, ([], .iconst 3, 1, 0, 0, 0, 3)),
  (92, ([], .invokevirtual 235, 3, 1, 9, 1, 0)),
  (95, ([], .ifCond .ne 7, 3, 102, 0, 0, 0)),
  (98, ([], .iload_n 2, 1, 2, 0, 0, 0)),
  (99, ([], .ifCond .eq 7, 3, 106, 0, 0, 0)),
  (102, ([false, true, true], .iconst 1, 1, 0, 0, 0, 1)),
  (103, ([], .goto 4, 3, 107, 0, 0, 0)),
  (106, ([], .iconst 0, 1, 0, 0, 0, 0)),
  (107, ([false, true, true], .istore_n 1, 1, 1, 0, 0, 0)),
  (108, ([], .goto (-28), 3, 80, 0, 0, 0)),
  (111, ([], .return_, 1, 0, 0, 0, 0))]
noncomputable def E_X7_sorts : Kt := exL SKc SKn SKr CS (lkp T_X7_sorts) [F_X7_sortOf, F_X7_orders] [] []
noncomputable def F_X7_sorts : Fn := fun as h => gd (chkA 1 as) (E_X7_sorts 0 (pad 3 as) [] h)
noncomputable def f_X7_sorts_2 (x1 : Int32) (h : Hp) : Res := E_X7_sorts 2 [.ref 227, .int x1, .retAddr 0] [] h
noncomputable def f_X7_sorts_38 (x1 : Int32) (s0 : Int32) (s1 : Int32) (h : Hp) : Res := E_X7_sorts 38 [.ref 227, .int x1, .retAddr 0] [.int s0, .int s1, .ref 255] h
noncomputable def f_X7_sorts_52 (x1 : Int32) (h : Hp) : Res := E_X7_sorts 52 [.ref 227, .int x1, .retAddr 0] [] h
noncomputable def f_X7_sorts_59 (x1 : Int32) (x2 : Int32) (h : Hp) : Res := E_X7_sorts 59 [.ref 227, .int x1, .int x2] [] h
noncomputable def f_X7_sorts_80 (x1 : Int32) (h : Hp) : Res := E_X7_sorts 80 [.ref 227, .int x1, .retAddr 0] [] h
noncomputable def f_X7_sorts_102 (h : Hp) : Res := E_X7_sorts 102 [.ref 227, .retAddr 0, .retAddr 0] [] h
noncomputable def f_X7_sorts_107 (s0 : Int32) (h : Hp) : Res := E_X7_sorts 107 [.ref 227, .retAddr 0, .retAddr 0] [.int s0] h
set_option maxRecDepth 100000 in
set_option maxHeartbeats 4000000 in
theorem e_X7_sorts_0 (h : Hp) : F_X7_sorts [.ref 227] h = f_X7_sorts_2 0 h :=
  (exL_it SKc SKn SKr CS (lkp T_X7_sorts) [F_X7_sortOf, F_X7_orders] [] [] [2, 38, 52, 59, 80, 102, 107] 2 0 [.ref 227, .retAddr 0, .retAddr 0] [] h).trans rfl
set_option maxRecDepth 100000 in
set_option maxHeartbeats 4000000 in
theorem e_X7_sorts_2 (x1 : Int32) (h : Hp) : f_X7_sorts_2 x1 h = if x1 < (rd h 227 20) then gd (inb x1 60) (if (rd h 254 x1.toNatClampNeg) = 0 then bI (F_X7_sortOf [.ref 227, .int x1] h) (fun v2 h1 => f_X7_sorts_38 x1 v2 x1 h1) (hnk []) else gd (inb x1 60) (f_X7_sorts_38 x1 (rd h 255 x1.toNatClampNeg) x1 h)) else f_X7_sorts_52 0 (wr h 227 52 0) :=
  (exL_it SKc SKn SKr CS (lkp T_X7_sorts) [F_X7_sortOf, F_X7_orders] [] [] [2, 38, 52, 59, 80, 102, 107] 16 2 [.ref 227, .int x1, .retAddr 0] [] h).trans rfl
set_option maxRecDepth 100000 in
set_option maxHeartbeats 4000000 in
theorem e_X7_sorts_38 (x1 : Int32) (s0 : Int32) (s1 : Int32) (h : Hp) : f_X7_sorts_38 x1 s0 s1 h = gd (inb s1 60) (f_X7_sorts_2 (x1 + 1) (wr h 255 s1.toNatClampNeg s0)) :=
  (exL_it SKc SKn SKr CS (lkp T_X7_sorts) [F_X7_sortOf, F_X7_orders] [] [] [2, 38, 52, 59, 80, 102, 107] 3 38 [.ref 227, .int x1, .retAddr 0] [.int s0, .int s1, .ref 255] h).trans rfl
set_option maxRecDepth 100000 in
set_option maxHeartbeats 4000000 in
theorem e_X7_sorts_52 (x1 : Int32) (h : Hp) : f_X7_sorts_52 x1 h = if 1 < x1 then f_X7_sorts_80 1 h else f_X7_sorts_59 x1 1 h :=
  (exL_it SKc SKn SKr CS (lkp T_X7_sorts) [F_X7_sortOf, F_X7_orders] [] [] [2, 38, 52, 59, 80, 102, 107] 5 52 [.ref 227, .int x1, .retAddr 0] [] h).trans rfl
set_option maxRecDepth 100000 in
set_option maxHeartbeats 4000000 in
theorem e_X7_sorts_59 (x1 : Int32) (x2 : Int32) (h : Hp) : f_X7_sorts_59 x1 x2 h = if x2 = 0 then f_X7_sorts_52 (x1 + 1) h else bI (F_X7_orders [.ref 227, .int x1] h) (fun v2 h1 => f_X7_sorts_59 x1 v2 h1) (hnk []) :=
  (exL_it SKc SKn SKr CS (lkp T_X7_sorts) [F_X7_sortOf, F_X7_orders] [] [] [2, 38, 52, 59, 80, 102, 107] 7 59 [.ref 227, .int x1, .int x2] [] h).trans rfl
set_option maxRecDepth 100000 in
set_option maxHeartbeats 4000000 in
theorem e_X7_sorts_80 (x1 : Int32) (h : Hp) : f_X7_sorts_80 x1 h = if x1 = 0 then rtn none h else bI (F_X7_orders [.ref 227, .int 2] h) (fun v2 h1 => bI (F_X7_orders [.ref 227, .int 3] h1) (fun v4 h3 => if v4 = 0 then if v2 = 0 then f_X7_sorts_107 0 h3 else f_X7_sorts_102 h3 else f_X7_sorts_102 h3) (hnk [])) (hnk []) :=
  (exL_it SKc SKn SKr CS (lkp T_X7_sorts) [F_X7_sortOf, F_X7_orders] [] [] [2, 38, 52, 59, 80, 102, 107] 13 80 [.ref 227, .int x1, .retAddr 0] [] h).trans rfl
set_option maxRecDepth 100000 in
set_option maxHeartbeats 4000000 in
theorem e_X7_sorts_102 (h : Hp) : f_X7_sorts_102 h = f_X7_sorts_107 1 h :=
  (exL_it SKc SKn SKr CS (lkp T_X7_sorts) [F_X7_sortOf, F_X7_orders] [] [] [2, 38, 52, 59, 80, 102, 107] 2 102 [.ref 227, .retAddr 0, .retAddr 0] [] h).trans rfl
set_option maxRecDepth 100000 in
set_option maxHeartbeats 4000000 in
theorem e_X7_sorts_107 (s0 : Int32) (h : Hp) : f_X7_sorts_107 s0 h = f_X7_sorts_80 s0 h :=
  (exL_it SKc SKn SKr CS (lkp T_X7_sorts) [F_X7_sortOf, F_X7_orders] [] [] [2, 38, 52, 59, 80, 102, 107] 2 107 [.ref 227, .retAddr 0, .retAddr 0] [.int s0] h).trans rfl

def T_X7_looksAtBoth : List (Nat × Ent) := [(0, ([], .aload_n 0, 1, 0, 0, 0, 0)),
  (1, ([], .iload_n 1, 1, 1, 0, 0, 0)),
  (2, ([], .aload_n 0, 1, 0, 0, 0, 0)),
  (3, ([], .getfield 73, 3, 25, 3, 933, 0)),
  (6, ([], .iload_n 1, 1, 1, 0, 0, 0)),
  (7, ([], .iaload, 1, 0, 0, 0, 0)),
  (8, ([], .invokevirtual 238, 3, 0, 13, 1, 0)),
  (11, ([], .ifCond .ne 7, 3, 18, 0, 0, 0)),
  (14, ([], .iconst 1, 1, 0, 0, 0, 1)),
  (15, ([], .goto 4, 3, 19, 0, 0, 0)),
  (18, ([], .iconst 0, 1, 0, 0, 0, 0)),
  (19, ([false, false, false, true], .istore_n 3, 1, 3, 0, 0, 0)),
  (20, ([], .iload_n 3, 1, 3, 0, 0, 0)),
  (21, ([], .ifCond .eq 52, 3, 73, 0, 0, 0)),
  (24, ([], .aload_n 0, 1, 0, 0, 0, 0)),
  (25, ([], .iload_n 1, 1, 1, 0, 0, 0)),
  (26, ([], .aload_n 0, 1, 0, 0, 0, 0)),
  (27, ([], .getfield 73, 3, 25, 3, 933, 0)),
  (30, ([], .iload_n 1, 1, 1, 0, 0, 0)),
  (31, ([], .iaload, 1, 0, 0, 0, 0)),
  (32, ([], .invokevirtual 242, 3, 1, 12, 1, 0)),
  (35, ([], .aload_n 0, 1, 0, 0, 0, 0)),
  (36, ([], .iload_n 2, 1, 2, 0, 0, 0)),
  (37, ([], .aload_n 0, 1, 0, 0, 0, 0)),
  (38, ([], .getfield 73, 3, 25, 3, 933, 0)),
  (41, ([], .iload_n 2, 1, 2, 0, 0, 0)),
  (42, ([], .iaload, 1, 0, 0, 0, 0)),
  (43, ([], .invokevirtual 238, 3, 0, 13, 1, 0)),
  (46, ([], .ifCond .ne 7, 3, 53, 0, 0, 0)),
  (49, ([], .iconst 1, 1, 0, 0, 0, 1)),
  (50, ([], .goto 4, 3, 54, 0, 0, 0)),
  (53, ([], .iconst 0, 1, 0, 0, 0, 0)),
  (54, ([false, false, false, true], .istore_n 3, 1, 3, 0, 0, 0)),
  (55, ([], .aload_n 0, 1, 0, 0, 0, 0)),
  (56, ([], .dup, 1, 0, 0, 0, 0)),
  (57, ([], .getfield 167, 3, 37, 2, 945, 0)),
  (60, ([], .iload_n 3, 1, 3, 0, 0, 0)),
  (61, ([], .ifCond .eq 7, 3, 68, 0, 0, 0)),
  (64, ([], .iconst 0, 1, 0, 0, 0, 0)),
  (65, ([], .goto 4, 3, 69, 0, 0, 0)),
  (68, ([], .iconst 1, 1, 0, 0, 0, 1)),
  (69, ([false, false, false, false], .isub, 1, 0, 0, 0, 0)),
  (70, ([], .putfield 167, 3, 37, 2, 945, 0)),
  (73, ([false, false, false, false], .iload_n 3, 1, 3, 0, 0, 0)),
  (74, ([], .ifCond .eq 15, 3, 89, 0, 0, 0)),
  (77, ([], .aload_n 0, 1, 0, 0, 0, 0)),
  (78, ([], .iload_n 2, 1, 2, 0, 0, 0)),
  (79, ([], .aload_n 0, 1, 0, 0, 0, 0)),
  (80, ([], .getfield 73, 3, 25, 3, 933, 0)),
  (83, ([], .iload_n 2, 1, 2, 0, 0, 0)),
  (84, ([], .iaload, 1, 0, 0, 0, 0)),
  (85, ([], .invokevirtual 242, 3, 1, 12, 1, 0)),
  (88, ([], .return_, 1, 0, 0, 0, 0)),
  (89, ([], .aload_n 0, 1, 0, 0, 0, 0)),
  (90, ([], .getfield 94, 3, 32, 3, 940, 0)),
  (93, ([], .iload_n 1, 1, 1, 0, 0, 0)),
  (94, ([], .iconst (-1), 1, 0, 0, 0, (-1))),
  (95, ([], .iastore, 1, 0, 0, 0, 0)),
  (96, ([], .aload_n 0, 1, 0, 0, 0, 0)),
  (97, ([], .iload_n 1, 1, 1, 0, 0, 0)),
  (98, ([], .iconst 3, 1, 0, 0, 0, 3)),
  (99, ([], .invokevirtual 246, 3, 2, 12, 1, 0)),
  (102, ([], .aload_n 0, 1, 0, 0, 0, 0)),
  (103, ([], .iload_n 2, 1, 2, 0, 0, 0)),
  (104, ([], .iconst 3, 1, 0, 0, 0, 3)),
  (105, ([], .invokevirtual 246, 3, 2, 12, 1, 0)),
  (108, ([], .return_, 1, 0, 0, 0, 0))]
noncomputable def E_X7_looksAtBoth : Kt := exL SKc SKn SKr CS (lkp T_X7_looksAtBoth) [F_X7_reason, F_X7_gives, F_X7_waits] [] []
noncomputable def F_X7_looksAtBoth : Fn := fun as h => gd (chkA 3 as) (E_X7_looksAtBoth 0 (pad 4 as) [] h)
noncomputable def f_X7_looksAtBoth_19 (x1 : Int32) (x2 : Int32) (s0 : Int32) (h : Hp) : Res := E_X7_looksAtBoth 19 [.ref 227, .int x1, .int x2, .retAddr 0] [.int s0] h
noncomputable def f_X7_looksAtBoth_54 (x1 : Int32) (x2 : Int32) (s0 : Int32) (h : Hp) : Res := E_X7_looksAtBoth 54 [.ref 227, .int x1, .int x2, .retAddr 0] [.int s0] h
noncomputable def f_X7_looksAtBoth_69 (x1 : Int32) (x2 : Int32) (x3 : Int32) (s0 : Int32) (s1 : Int32) (h : Hp) : Res := E_X7_looksAtBoth 69 [.ref 227, .int x1, .int x2, .int x3] [.int s0, .int s1, .ref 227] h
noncomputable def f_X7_looksAtBoth_73 (x1 : Int32) (x2 : Int32) (x3 : Int32) (h : Hp) : Res := E_X7_looksAtBoth 73 [.ref 227, .int x1, .int x2, .int x3] [] h
set_option maxRecDepth 100000 in
set_option maxHeartbeats 4000000 in
theorem e_X7_looksAtBoth_0 (x1 : Int32) (x2 : Int32) (h : Hp) : F_X7_looksAtBoth [.ref 227, .int x1, .int x2] h = gd (inb x1 60) (bI (F_X7_reason [.ref 227, .int x1, .int (rd h 249 x1.toNatClampNeg)] h) (fun v2 h1 => if v2 = 0 then f_X7_looksAtBoth_19 x1 x2 1 h1 else f_X7_looksAtBoth_19 x1 x2 0 h1) (hnk [])) :=
  (exL_it SKc SKn SKr CS (lkp T_X7_looksAtBoth) [F_X7_reason, F_X7_gives, F_X7_waits] [] [] [19, 54, 69, 73] 10 0 [.ref 227, .int x1, .int x2, .retAddr 0] [] h).trans rfl
set_option maxRecDepth 100000 in
set_option maxHeartbeats 4000000 in
theorem e_X7_looksAtBoth_19 (x1 : Int32) (x2 : Int32) (s0 : Int32) (h : Hp) : f_X7_looksAtBoth_19 x1 x2 s0 h = if s0 = 0 then f_X7_looksAtBoth_73 x1 x2 s0 h else gd (inb x1 60) (bV (F_X7_gives [.ref 227, .int x1, .int (rd h 249 x1.toNatClampNeg)] h) (fun h1 => gd (inb x2 60) (bI (F_X7_reason [.ref 227, .int x2, .int (rd h1 249 x2.toNatClampNeg)] h1) (fun v3 h2 => if v3 = 0 then f_X7_looksAtBoth_54 x1 x2 1 h2 else f_X7_looksAtBoth_54 x1 x2 0 h2) (hnk []))) (hnk [])) :=
  (exL_it SKc SKn SKr CS (lkp T_X7_looksAtBoth) [F_X7_reason, F_X7_gives, F_X7_waits] [] [] [19, 54, 69, 73] 20 19 [.ref 227, .int x1, .int x2, .retAddr 0] [.int s0] h).trans rfl
set_option maxRecDepth 100000 in
set_option maxHeartbeats 4000000 in
theorem e_X7_looksAtBoth_54 (x1 : Int32) (x2 : Int32) (s0 : Int32) (h : Hp) : f_X7_looksAtBoth_54 x1 x2 s0 h = if s0 = 0 then f_X7_looksAtBoth_69 x1 x2 s0 1 (rd h 227 37) h else f_X7_looksAtBoth_69 x1 x2 s0 0 (rd h 227 37) h :=
  (exL_it SKc SKn SKr CS (lkp T_X7_looksAtBoth) [F_X7_reason, F_X7_gives, F_X7_waits] [] [] [19, 54, 69, 73] 8 54 [.ref 227, .int x1, .int x2, .retAddr 0] [.int s0] h).trans rfl
set_option maxRecDepth 100000 in
set_option maxHeartbeats 4000000 in
theorem e_X7_looksAtBoth_69 (x1 : Int32) (x2 : Int32) (x3 : Int32) (s0 : Int32) (s1 : Int32) (h : Hp) : f_X7_looksAtBoth_69 x1 x2 x3 s0 s1 h = f_X7_looksAtBoth_73 x1 x2 x3 (wr h 227 37 (s1 - s0)) :=
  (exL_it SKc SKn SKr CS (lkp T_X7_looksAtBoth) [F_X7_reason, F_X7_gives, F_X7_waits] [] [] [19, 54, 69, 73] 2 69 [.ref 227, .int x1, .int x2, .int x3] [.int s0, .int s1, .ref 227] h).trans rfl
set_option maxRecDepth 100000 in
set_option maxHeartbeats 4000000 in
theorem e_X7_looksAtBoth_73 (x1 : Int32) (x2 : Int32) (x3 : Int32) (h : Hp) : f_X7_looksAtBoth_73 x1 x2 x3 h = if x3 = 0 then gd (inb x1 60) (bV (F_X7_waits [.ref 227, .int x1, .int 3] (wr h 256 x1.toNatClampNeg (-1))) (fun h1 => bV (F_X7_waits [.ref 227, .int x2, .int 3] h1) (fun h2 => rtn none h2) (hnk [])) (hnk [])) else gd (inb x2 60) (bV (F_X7_gives [.ref 227, .int x2, .int (rd h 249 x2.toNatClampNeg)] h) (fun h3 => rtn none h3) (hnk [])) :=
  (exL_it SKc SKn SKr CS (lkp T_X7_looksAtBoth) [F_X7_reason, F_X7_gives, F_X7_waits] [] [] [19, 54, 69, 73] 16 73 [.ref 227, .int x1, .int x2, .int x3] [] h).trans rfl

def T_X7_looksAt : List (Nat × Ent) := [(0, ([], .aload_n 0, 1, 0, 0, 0, 0)),
  (1, ([], .getfield 100, 3, 34, 3, 942, 0)),
  (4, ([], .iload_n 1, 1, 1, 0, 0, 0)),
  (5, ([], .iaload, 1, 0, 0, 0, 0)),
  (6, ([], .iconst (-1), 1, 0, 0, 0, (-1))),
  (7, ([], .if_icmp .eq 15, 3, 22, 0, 0, 0)),
  (10, ([], .aload_n 0, 1, 0, 0, 0, 0)),
  (11, ([], .iload_n 1, 1, 1, 0, 0, 0)),
  (12, ([], .aload_n 0, 1, 0, 0, 0, 0)),
  (13, ([], .getfield 100, 3, 34, 3, 942, 0)),
  (16, ([], .iload_n 1, 1, 1, 0, 0, 0)),
  (17, ([], .iaload, 1, 0, 0, 0, 0)),
  (18, ([], .invokevirtual 249, 3, 2, 12, 1, 0)),
  (21, ([], .return_, 1, 0, 0, 0, 0)),
  (22, ([], .aload_n 0, 1, 0, 0, 0, 0)),
  (23, ([], .iload_n 1, 1, 1, 0, 0, 0)),
  (24, ([], .aload_n 0, 1, 0, 0, 0, 0)),
  (25, ([], .getfield 73, 3, 25, 3, 933, 0)),
  (28, ([], .iload_n 1, 1, 1, 0, 0, 0)),
  (29, ([], .iaload, 1, 0, 0, 0, 0)),
  (30, ([], .invokevirtual 238, 3, 0, 13, 1, 0)),
  (33, ([], .ifCond .ne 15, 3, 48, 0, 0, 0)),
  (36, ([], .aload_n 0, 1, 0, 0, 0, 0)),
  (37, ([], .iload_n 1, 1, 1, 0, 0, 0)),
  (38, ([], .aload_n 0, 1, 0, 0, 0, 0)),
  (39, ([], .getfield 73, 3, 25, 3, 933, 0)),
  (42, ([], .iload_n 1, 1, 1, 0, 0, 0)),
  (43, ([], .iaload, 1, 0, 0, 0, 0)),
  (44, ([], .invokevirtual 242, 3, 1, 12, 1, 0)),
  (47, ([], .return_, 1, 0, 0, 0, 0)),
  (48, ([], .iconst 2, 1, 0, 0, 0, 2)),
  (49, ([], .istore_n 2, 1, 2, 0, 0, 0)),
  (50, ([false, false, false, true], .iload_n 2, 1, 2, 0, 0, 0)),
  (51, ([], .bipush 8, 2, 0, 0, 0, 8)),
  (53, ([], .if_icmp .ge 69, 3, 122, 0, 0, 0)),
  (56, ([], .aload_n 0, 1, 0, 0, 0, 0)),
  (57, ([], .getfield 73, 3, 25, 3, 933, 0)),
  (60, ([], .iload_n 1, 1, 1, 0, 0, 0)),
  (61, ([], .iaload, 1, 0, 0, 0, 0)),
  (62, ([], .iload_n 2, 1, 2, 0, 0, 0)),
  (63, ([], .iconst 2, 1, 0, 0, 0, 2)),
  (64, ([], .irem, 1, 0, 0, 0, 0)),
  (65, ([], .ifCond .ne 10, 3, 75, 0, 0, 0)),
  (68, ([], .iload_n 2, 1, 2, 0, 0, 0)),
  (69, ([], .iconst 2, 1, 0, 0, 0, 2)),
  (70, ([], .idiv, 1, 0, 0, 0, 0)),
  (71, ([], .ineg, 1, 0, 0, 0, 0)),
  (72, ([], .goto 6, 3, 78, 0, 0, 0)),
  (75, ([], .iload_n 2, 1, 2, 0, 0, 0)),
  (76, ([], .iconst 2, 1, 0, 0, 0, 2)),
  (77, ([], .idiv, 1, 0, 0, 0, 0)),
  (78, ([false, false, false, true], .iadd, 1, 0, 0, 0, 0)),
  (79, ([], .istore_n 3, 1, 3, 0, 0, 0)),
  (80, ([], .aload_n 0, 1, 0, 0, 0, 0)),
  (81, ([], .getfield 97, 3, 33, 3, 941, 0)),
  (84, ([], .iload_n 1, 1, 1, 0, 0, 0)),
  (85, ([], .iaload, 1, 0, 0, 0, 0)),
  (86, ([], .iconst (-1), 1, 0, 0, 0, (-1))),
  (87, ([], .if_icmp .ne 29, 3, 116, 0, 0, 0)),
  (90, ([], .iload_n 3, 1, 3, 0, 0, 0)),
  (91, ([], .iconst 0, 1, 0, 0, 0, 0)),
  (92, ([], .bipush 71, 2, 0, 0, 0, 71)),
  (94, ([], .invokestatic 156, 3, 4, 13, 99, 0)),
  (97, ([], .ifCond .eq 19, 3, 116, 0, 0, 0)),
  (100, ([], .aload_n 0, 1, 0, 0, 0, 0)),
  (101, ([], .iload_n 1, 1, 1, 0, 0, 0)),
  (102, ([], .iload_n 3, 1, 3, 0, 0, 0)),
  (103, ([], .invokevirtual 238, 3, 0, 13, 1, 0)),
  (106, ([], .ifCond .ne 10, 3, 116, 0, 0, 0)),
  (109, ([], .aload_n 0, 1, 0, 0, 0, 0)),
  (110, ([], .getfield 97, 3, 33, 3, 941, 0)),
  (113, ([], .iload_n 1, 1, 1, 0, 0, 0)),
  (114, ([], .iload_n 3, 1, 3, 0, 0, 0)),
  (115, ([], .iastore, 1, 0, 0, 0, 0)),
  (116, ([false, false, false, true], .iinc 2 1, 3, 2, 0, 0, 1)),
  (119, ([], .goto (-69), 3, 50, 0, 0, 0)),
  (122, ([], .aload_n 0, 1, 0, 0, 0, 0)),
  (123, ([], .iload_n 1, 1, 1, 0, 0, 0)),
  (124, ([], .aload_n 0, 1, 0, 0, 0, 0)),
  (125, ([], .getfield 97, 3, 33, 3, 941, 0)),
  (128, ([], .iload_n 1, 1, 1, 0, 0, 0)),
  (129, ([], .iaload, 1, 0, 0, 0, 0)),
  (130, ([], .iconst (-1), 1, 0, 0, 0, (-1))),
  (131, ([], .if_icmp .ne 7, 3, 138, 0, 0, 0)),
  (134, ([], .iconst 3, 1, 0, 0, 0, 3)),
  (135, ([], .goto 4, 3, 139, 0, 0, 0)),
  (138, ([], .iconst 2, 1, 0, 0, 0, 2)),
  (139, ([true, true, true, true], .invokevirtual 246, 3, 3, 12, 1, 0)),
  (142, ([], .return_, 1, 0, 0, 0, 0))]
noncomputable def E_X7_looksAt : Kt := exL SKc SKn SKr CS (lkp T_X7_looksAt) [F_X7_reason, F_X7_gives, F_X7_looksAtBoth, F_X7_waits, F_X7_isIn] [] []
noncomputable def F_X7_looksAt : Fn := fun as h => gd (chkA 2 as) (E_X7_looksAt 0 (pad 4 as) [] h)
noncomputable def f_X7_looksAt_50 (x1 : Int32) (x2 : Int32) (h : Hp) : Res := E_X7_looksAt 50 [.ref 227, .int x1, .int x2, .retAddr 0] [] h
noncomputable def f_X7_looksAt_78 (x1 : Int32) (x2 : Int32) (s0 : Int32) (s1 : Int32) (h : Hp) : Res := E_X7_looksAt 78 [.ref 227, .int x1, .int x2, .retAddr 0] [.int s0, .int s1] h
noncomputable def f_X7_looksAt_116 (x1 : Int32) (x2 : Int32) (h : Hp) : Res := E_X7_looksAt 116 [.ref 227, .int x1, .int x2, .retAddr 0] [] h
noncomputable def f_X7_looksAt_139 (s0 : Int32) (s1 : Int32) (h : Hp) : Res := E_X7_looksAt 139 [.retAddr 0, .retAddr 0, .retAddr 0, .retAddr 0] [.int s0, .int s1, .ref 227] h
set_option maxRecDepth 100000 in
set_option maxHeartbeats 4000000 in
theorem e_X7_looksAt_0 (x1 : Int32) (h : Hp) : F_X7_looksAt [.ref 227, .int x1] h = gd (inb x1 60) (if (rd h 258 x1.toNatClampNeg) = (-1) then gd (inb x1 60) (bI (F_X7_reason [.ref 227, .int x1, .int (rd h 249 x1.toNatClampNeg)] h) (fun v2 h1 => if v2 = 0 then gd (inb x1 60) (bV (F_X7_gives [.ref 227, .int x1, .int (rd h1 249 x1.toNatClampNeg)] h1) (fun h3 => rtn none h3) (hnk [])) else f_X7_looksAt_50 x1 2 h1) (hnk [])) else gd (inb x1 60) (bV (F_X7_looksAtBoth [.ref 227, .int x1, .int (rd h 258 x1.toNatClampNeg)] h) (fun h4 => rtn none h4) (hnk []))) :=
  (exL_it SKc SKn SKr CS (lkp T_X7_looksAt) [F_X7_reason, F_X7_gives, F_X7_looksAtBoth, F_X7_waits, F_X7_isIn] [] [] [50, 78, 116, 139] 22 0 [.ref 227, .int x1, .retAddr 0, .retAddr 0] [] h).trans rfl
set_option maxRecDepth 100000 in
set_option maxHeartbeats 4000000 in
theorem e_X7_looksAt_50 (x1 : Int32) (x2 : Int32) (h : Hp) : f_X7_looksAt_50 x1 x2 h = if x2 < 8 then gd (inb x1 60) (gd (!decide (2 = 0)) (if (x2 - x2 / 2 * 2) = 0 then gd (!decide (2 = 0)) (f_X7_looksAt_78 x1 x2 (-(x2 / 2)) (rd h 249 x1.toNatClampNeg) h) else gd (!decide (2 = 0)) (f_X7_looksAt_78 x1 x2 (x2 / 2) (rd h 249 x1.toNatClampNeg) h))) else gd (inb x1 60) (if (rd h 257 x1.toNatClampNeg) = (-1) then f_X7_looksAt_139 3 x1 h else f_X7_looksAt_139 2 x1 h) :=
  (exL_it SKc SKn SKr CS (lkp T_X7_looksAt) [F_X7_reason, F_X7_gives, F_X7_looksAtBoth, F_X7_waits, F_X7_isIn] [] [] [50, 78, 116, 139] 16 50 [.ref 227, .int x1, .int x2, .retAddr 0] [] h).trans rfl
set_option maxRecDepth 100000 in
set_option maxHeartbeats 4000000 in
theorem e_X7_looksAt_78 (x1 : Int32) (x2 : Int32) (s0 : Int32) (s1 : Int32) (h : Hp) : f_X7_looksAt_78 x1 x2 s0 s1 h = gd (inb x1 60) (if (rd h 257 x1.toNatClampNeg) = (-1) then bI (F_X7_isIn [.int (s1 + s0), .int 0, .int 71] h) (fun v2 h1 => if v2 = 0 then f_X7_looksAt_116 x1 x2 h1 else bI (F_X7_reason [.ref 227, .int x1, .int (s1 + s0)] h1) (fun v4 h3 => if v4 = 0 then gd (inb x1 60) (f_X7_looksAt_116 x1 x2 (wr h3 257 x1.toNatClampNeg (s1 + s0))) else f_X7_looksAt_116 x1 x2 h3) (hnk [])) (hnk []) else f_X7_looksAt_116 x1 x2 h) :=
  (exL_it SKc SKn SKr CS (lkp T_X7_looksAt) [F_X7_reason, F_X7_gives, F_X7_looksAtBoth, F_X7_waits, F_X7_isIn] [] [] [50, 78, 116, 139] 23 78 [.ref 227, .int x1, .int x2, .retAddr 0] [.int s0, .int s1] h).trans rfl
set_option maxRecDepth 100000 in
set_option maxHeartbeats 4000000 in
theorem e_X7_looksAt_116 (x1 : Int32) (x2 : Int32) (h : Hp) : f_X7_looksAt_116 x1 x2 h = f_X7_looksAt_50 x1 (x2 + 1) h :=
  (exL_it SKc SKn SKr CS (lkp T_X7_looksAt) [F_X7_reason, F_X7_gives, F_X7_looksAtBoth, F_X7_waits, F_X7_isIn] [] [] [50, 78, 116, 139] 2 116 [.ref 227, .int x1, .int x2, .retAddr 0] [] h).trans rfl
set_option maxRecDepth 100000 in
set_option maxHeartbeats 4000000 in
theorem e_X7_looksAt_139 (s0 : Int32) (s1 : Int32) (h : Hp) : f_X7_looksAt_139 s0 s1 h = bV (F_X7_waits [.ref 227, .int s1, .int s0] h) (fun h1 => rtn none h1) (hnk []) :=
  (exL_it SKc SKn SKr CS (lkp T_X7_looksAt) [F_X7_reason, F_X7_gives, F_X7_looksAtBoth, F_X7_waits, F_X7_isIn] [] [] [50, 78, 116, 139] 2 139 [.retAddr 0, .retAddr 0, .retAddr 0, .retAddr 0] [.int s0, .int s1, .ref 227] h).trans rfl

def T_X7_countOf : List (Nat × Ent) := [(0, ([], .iconst 0, 1, 0, 0, 0, 0)),
  (1, ([], .istore_n 2, 1, 2, 0, 0, 0)),
  (2, ([], .iconst 0, 1, 0, 0, 0, 0)),
  (3, ([], .istore_n 3, 1, 3, 0, 0, 0)),
  (4, ([false, false, false, false], .iload_n 3, 1, 3, 0, 0, 0)),
  (5, ([], .aload_n 0, 1, 0, 0, 0, 0)),
  (6, ([], .getfield 164, 3, 20, 2, 928, 0)),
  (9, ([], .if_icmp .ge 27, 3, 36, 0, 0, 0)),
  (12, ([], .iload_n 2, 1, 2, 0, 0, 0)),
  (13, ([], .aload_n 0, 1, 0, 0, 0, 0)),
  (14, ([], .getfield 88, 3, 30, 3, 938, 0)),
  (17, ([], .iload_n 3, 1, 3, 0, 0, 0)),
  (18, ([], .iaload, 1, 0, 0, 0, 0)),
  (19, ([], .iload_n 1, 1, 1, 0, 0, 0)),
  (20, ([], .if_icmp .ne 7, 3, 27, 0, 0, 0)),
  (23, ([], .iconst 1, 1, 0, 0, 0, 1)),
  (24, ([], .goto 4, 3, 28, 0, 0, 0)),
  (27, ([], .iconst 0, 1, 0, 0, 0, 0)),
  (28, ([false, false, true, false], .iadd, 1, 0, 0, 0, 0)),
  (29, ([], .istore_n 2, 1, 2, 0, 0, 0)),
  (30, ([], .iinc 3 1, 3, 3, 0, 0, 1)),
  (33, ([], .goto (-29), 3, 4, 0, 0, 0)),
  (36, ([], .iload_n 2, 1, 2, 0, 0, 0)),
  (37, ([], .ireturn, 1, 0, 0, 0, 0))]
noncomputable def E_X7_countOf : Kt := exL SKc SKn SKr CS (lkp T_X7_countOf) [] [] []
noncomputable def F_X7_countOf : Fn := fun as h => gd (chkA 2 as) (E_X7_countOf 0 (pad 4 as) [] h)
noncomputable def f_X7_countOf_4 (x1 : Int32) (x2 : Int32) (x3 : Int32) (h : Hp) : Res := E_X7_countOf 4 [.ref 227, .int x1, .int x2, .int x3] [] h
noncomputable def f_X7_countOf_28 (x1 : Int32) (x3 : Int32) (s0 : Int32) (s1 : Int32) (h : Hp) : Res := E_X7_countOf 28 [.ref 227, .int x1, .retAddr 0, .int x3] [.int s0, .int s1] h
set_option maxRecDepth 100000 in
set_option maxHeartbeats 4000000 in
theorem e_X7_countOf_0 (x1 : Int32) (h : Hp) : F_X7_countOf [.ref 227, .int x1] h = f_X7_countOf_4 x1 0 0 h :=
  (exL_it SKc SKn SKr CS (lkp T_X7_countOf) [] [] [] [4, 28] 4 0 [.ref 227, .int x1, .retAddr 0, .retAddr 0] [] h).trans rfl
set_option maxRecDepth 100000 in
set_option maxHeartbeats 4000000 in
theorem e_X7_countOf_4 (x1 : Int32) (x2 : Int32) (x3 : Int32) (h : Hp) : f_X7_countOf_4 x1 x2 x3 h = if x3 < (rd h 227 20) then gd (inb x3 60) (if (rd h 254 x3.toNatClampNeg) = x1 then f_X7_countOf_28 x1 x3 1 x2 h else f_X7_countOf_28 x1 x3 0 x2 h) else rtn (some (.int x2)) h :=
  (exL_it SKc SKn SKr CS (lkp T_X7_countOf) [] [] [] [4, 28] 13 4 [.ref 227, .int x1, .int x2, .int x3] [] h).trans rfl
set_option maxRecDepth 100000 in
set_option maxHeartbeats 4000000 in
theorem e_X7_countOf_28 (x1 : Int32) (x3 : Int32) (s0 : Int32) (s1 : Int32) (h : Hp) : f_X7_countOf_28 x1 x3 s0 s1 h = f_X7_countOf_4 x1 (s1 + s0) (x3 + 1) h :=
  (exL_it SKc SKn SKr CS (lkp T_X7_countOf) [] [] [] [4, 28] 4 28 [.ref 227, .int x1, .retAddr 0, .int x3] [.int s0, .int s1] h).trans rfl

def T_X7_confer : List (Nat × Ent) := [(0, ([], .aload_n 0, 1, 0, 0, 0, 0)),
  (1, ([], .aload_n 0, 1, 0, 0, 0, 0)),
  (2, ([], .iconst 0, 1, 0, 0, 0, 0)),
  (3, ([], .invokevirtual 252, 3, 0, 9, 1, 0)),
  (6, ([], .ifCond .ne 7, 3, 13, 0, 0, 0)),
  (9, ([], .iconst 1, 1, 0, 0, 0, 1)),
  (10, ([], .goto 4, 3, 14, 0, 0, 0)),
  (13, ([], .iconst 0, 1, 0, 0, 0, 0)),
  (14, ([false, true, true], .invokevirtual 170, 3, 1, 9, 1, 0)),
  (17, ([], .ifCond .ne 5, 3, 22, 0, 0, 0)),
  (20, ([], .iconst 0, 1, 0, 0, 0, 0)),
  (21, ([], .ireturn, 1, 0, 0, 0, 0)),
  (22, ([], .aload_n 0, 1, 0, 0, 0, 0)),
  (23, ([], .iconst 1, 1, 0, 0, 0, 1)),
  (24, ([], .invokevirtual 252, 3, 0, 9, 1, 0)),
  (27, ([], .istore_n 1, 1, 1, 0, 0, 0)),
  (28, ([], .aload_n 0, 1, 0, 0, 0, 0)),
  (29, ([], .invokevirtual 255, 3, 2, 4, 1, 0)),
  (32, ([], .iconst 0, 1, 0, 0, 0, 0)),
  (33, ([], .istore_n 2, 1, 2, 0, 0, 0)),
  (34, ([false, false, false], .iload_n 2, 1, 2, 0, 0, 0)),
  (35, ([], .aload_n 0, 1, 0, 0, 0, 0)),
  (36, ([], .getfield 226, 3, 52, 2, 960, 0)),
  (39, ([], .if_icmp .ge 33, 3, 72, 0, 0, 0)),
  (42, ([], .aload_n 0, 1, 0, 0, 0, 0)),
  (43, ([], .getfield 88, 3, 30, 3, 938, 0)),
  (46, ([], .aload_n 0, 1, 0, 0, 0, 0)),
  (47, ([], .getfield 149, 3, 53, 3, 961, 0)),
  (50, ([], .iload_n 2, 1, 2, 0, 0, 0)),
  (51, ([], .iaload, 1, 0, 0, 0, 0)),
  (52, ([], .iaload, 1, 0, 0, 0, 0)),
  (53, ([], .ifCond .ne 13, 3, 66, 0, 0, 0)),
  (56, ([], .aload_n 0, 1, 0, 0, 0, 0)),
  (57, ([], .aload_n 0, 1, 0, 0, 0, 0)),
  (58, ([], .getfield 149, 3, 53, 3, 961, 0)),
  (61, ([], .iload_n 2, 1, 2, 0, 0, 0)),
  (62, ([], .iaload, 1, 0, 0, 0, 0)),
  (63, ([], .invokevirtual 258, 3, 3, 8, 1, 0)),
  (66, ([false, false, false], .iinc 2 1, 3, 2, 0, 0, 1)),
  (69, ([], .goto (-35), 3, 34, 0, 0, 0)),
  (72, ([], .aload_n 0, 1, 0, 0, 0, 0)),
  (73, ([], .iconst 1, 1, 0, 0, 0, 1)),
  (74, ([], .invokevirtual 252, 3, 0, 9, 1, 0)),
  (77, ([], .iload_n 1, 1, 1, 0, 0, 0)),
  (78, ([], .isub, 1, 0, 0, 0, 0)),
  (79, ([], .ireturn, 1, 0, 0, 0, 0))]
noncomputable def E_X7_confer : Kt := exL SKc SKn SKr CS (lkp T_X7_confer) [F_X7_countOf, F_X7_holds, F_X7_sorts, F_X7_looksAt] [] []
noncomputable def F_X7_confer : Fn := fun as h => gd (chkA 1 as) (E_X7_confer 0 (pad 3 as) [] h)
noncomputable def f_X7_confer_14 (s0 : Int32) (h : Hp) : Res := E_X7_confer 14 [.ref 227, .retAddr 0, .retAddr 0] [.int s0, .ref 227] h
noncomputable def f_X7_confer_34 (x1 : Int32) (x2 : Int32) (h : Hp) : Res := E_X7_confer 34 [.ref 227, .int x1, .int x2] [] h
noncomputable def f_X7_confer_66 (x1 : Int32) (x2 : Int32) (h : Hp) : Res := E_X7_confer 66 [.ref 227, .int x1, .int x2] [] h
set_option maxRecDepth 100000 in
set_option maxHeartbeats 4000000 in
theorem e_X7_confer_0 (h : Hp) : F_X7_confer [.ref 227] h = bI (F_X7_countOf [.ref 227, .int 0] h) (fun v2 h1 => if v2 = 0 then f_X7_confer_14 1 h1 else f_X7_confer_14 0 h1) (hnk []) :=
  (exL_it SKc SKn SKr CS (lkp T_X7_confer) [F_X7_countOf, F_X7_holds, F_X7_sorts, F_X7_looksAt] [] [] [14, 34, 66] 7 0 [.ref 227, .retAddr 0, .retAddr 0] [] h).trans rfl
set_option maxRecDepth 100000 in
set_option maxHeartbeats 4000000 in
theorem e_X7_confer_14 (s0 : Int32) (h : Hp) : f_X7_confer_14 s0 h = bI (F_X7_holds [.ref 227, .int s0] h) (fun v2 h1 => if v2 = 0 then rtn (some (.int 0)) h1 else bI (F_X7_countOf [.ref 227, .int 1] h1) (fun v4 h3 => bV (F_X7_sorts [.ref 227] h3) (fun h5 => f_X7_confer_34 v4 0 h5) (hnk [])) (hnk [])) (hnk []) :=
  (exL_it SKc SKn SKr CS (lkp T_X7_confer) [F_X7_countOf, F_X7_holds, F_X7_sorts, F_X7_looksAt] [] [] [14, 34, 66] 10 14 [.ref 227, .retAddr 0, .retAddr 0] [.int s0, .ref 227] h).trans rfl
set_option maxRecDepth 100000 in
set_option maxHeartbeats 4000000 in
theorem e_X7_confer_34 (x1 : Int32) (x2 : Int32) (h : Hp) : f_X7_confer_34 x1 x2 h = if x2 < (rd h 227 52) then gd (inb x2 60) (gd (inb (rd h 274 x2.toNatClampNeg) 60) (if (rd h 254 ((rd h 274 x2.toNatClampNeg).toNatClampNeg)) = 0 then gd (inb x2 60) (bV (F_X7_looksAt [.ref 227, .int (rd h 274 x2.toNatClampNeg)] h) (fun h1 => f_X7_confer_66 x1 x2 h1) (hnk [])) else f_X7_confer_66 x1 x2 h)) else bI (F_X7_countOf [.ref 227, .int 1] h) (fun v3 h2 => rtn (some (.int (v3 - x1))) h2) (hnk []) :=
  (exL_it SKc SKn SKr CS (lkp T_X7_confer) [F_X7_countOf, F_X7_holds, F_X7_sorts, F_X7_looksAt] [] [] [14, 34, 66] 18 34 [.ref 227, .int x1, .int x2] [] h).trans rfl
set_option maxRecDepth 100000 in
set_option maxHeartbeats 4000000 in
theorem e_X7_confer_66 (x1 : Int32) (x2 : Int32) (h : Hp) : f_X7_confer_66 x1 x2 h = f_X7_confer_34 x1 (x2 + 1) h :=
  (exL_it SKc SKn SKr CS (lkp T_X7_confer) [F_X7_countOf, F_X7_holds, F_X7_sorts, F_X7_looksAt] [] [] [14, 34, 66] 2 66 [.ref 227, .int x1, .int x2] [] h).trans rfl

def T_X7_accept : List (Nat × Ent) := [(0, ([], .aload_n 0, 1, 0, 0, 0, 0)),
  (1, ([], .iload_n 1, 1, 1, 0, 0, 0)),
  (2, ([], .invokevirtual 214, 3, 0, 9, 1, 0)),
  (5, ([], .istore_n 2, 1, 2, 0, 0, 0)),
  (6, ([], .aload_n 0, 1, 0, 0, 0, 0)),
  (7, ([], .iload_n 2, 1, 2, 0, 0, 0)),
  (8, ([], .ifCond .ne 7, 3, 15, 0, 0, 0)),
  (11, ([], .iconst 1, 1, 0, 0, 0, 1)),
  (12, ([], .goto 18, 3, 30, 0, 0, 0)),
  (15, ([], .aload_n 0, 1, 0, 0, 0, 0)),
  (16, ([], .getfield 88, 3, 30, 3, 938, 0)),
  (19, ([], .iload_n 1, 1, 1, 0, 0, 0)),
  (20, ([], .iaload, 1, 0, 0, 0, 0)),
  (21, ([], .iconst 2, 1, 0, 0, 0, 2)),
  (22, ([], .if_icmp .ne 7, 3, 29, 0, 0, 0)),
  (25, ([], .iconst 0, 1, 0, 0, 0, 0)),
  (26, ([], .goto 4, 3, 30, 0, 0, 0)),
  (29, ([], .iconst 2, 1, 0, 0, 0, 2)),
  (30, ([false, false, true, true], .invokevirtual 170, 3, 1, 9, 1, 0)),
  (33, ([], .ifCond .ne 5, 3, 38, 0, 0, 0)),
  (36, ([], .iconst 0, 1, 0, 0, 0, 0)),
  (37, ([], .ireturn, 1, 0, 1, 0, 0)),
  (38, ([], .aload_n 0, 1, 0, 0, 0, 0)),
  (39, ([], .iload_n 1, 1, 1, 0, 0, 0)),
  (40, ([], .aload_n 0, 1, 0, 0, 0, 0)),
  (41, ([], .getfield 97, 3, 33, 3, 941, 0)),
  (44, ([], .iload_n 1, 1, 1, 0, 0, 0)),
  (45, ([], .iaload, 1, 0, 0, 0, 0)),
  (46, ([], .invokevirtual 238, 3, 2, 13, 1, 0)),
  (49, ([], .ifCond .ne 7, 3, 56, 0, 0, 0)),
  (52, ([], .iconst 1, 1, 0, 0, 0, 1)),
  (53, ([], .goto 4, 3, 57, 0, 0, 0)),
  (56, ([], .iconst 0, 1, 0, 0, 0, 0)),
  (57, ([false, false, true, true], .istore_n 3, 1, 3, 0, 0, 0)),
  (58, ([], .iload_n 3, 1, 3, 0, 0, 0)),
  (59, ([], .ifCond .eq 17, 3, 76, 0, 0, 0)),
  (62, ([], .aload_n 0, 1, 0, 0, 0, 0)),
  (63, ([], .iload_n 1, 1, 1, 0, 0, 0)),
  (64, ([], .aload_n 0, 1, 0, 0, 0, 0)),
  (65, ([], .getfield 97, 3, 33, 3, 941, 0)),
  (68, ([], .iload_n 1, 1, 1, 0, 0, 0)),
  (69, ([], .iaload, 1, 0, 0, 0, 0)),
  (70, ([], .invokevirtual 242, 3, 3, 12, 1, 0)),
  (73, ([], .goto 17, 3, 90, 0, 0, 0)),
  (76, ([], .aload_n 0, 1, 0, 0, 0, 0)),
  (77, ([], .getfield 88, 3, 30, 3, 938, 0)),
  (80, ([], .iload_n 1, 1, 1, 0, 0, 0)),
  (81, ([], .iconst 3, 1, 0, 0, 0, 3)),
  (82, ([], .iastore, 1, 0, 0, 0, 0)),
  (83, ([], .aload_n 0, 1, 0, 0, 0, 0)),
  (84, ([], .getfield 97, 3, 33, 3, 941, 0)),
  (87, ([], .iload_n 1, 1, 1, 0, 0, 0)),
  (88, ([], .iconst (-1), 1, 0, 0, 0, (-1))),
  (89, ([], .iastore, 1, 0, 0, 0, 0)),
  (90, ([], .iload_n 3, 1, 3, 0, 0, 0)),
  (91, ([], .ireturn, 1, 0, 1, 0, 0))]
noncomputable def E_X7_accept : Kt := exL SKc SKn SKr CS (lkp T_X7_accept) [F_X7_isRequest, F_X7_holds, F_X7_reason, F_X7_gives] [] []
noncomputable def F_X7_accept : Fn := fun as h => gd (chkA 2 as) (E_X7_accept 0 (pad 4 as) [] h)
noncomputable def f_X7_accept_30 (x1 : Int32) (s0 : Int32) (h : Hp) : Res := E_X7_accept 30 [.ref 227, .int x1, .retAddr 0, .retAddr 0] [.int s0, .ref 227] h
noncomputable def f_X7_accept_57 (x1 : Int32) (s0 : Int32) (h : Hp) : Res := E_X7_accept 57 [.ref 227, .int x1, .retAddr 0, .retAddr 0] [.int s0] h
set_option maxRecDepth 100000 in
set_option maxHeartbeats 4000000 in
theorem e_X7_accept_0 (x1 : Int32) (h : Hp) : F_X7_accept [.ref 227, .int x1] h = bI (F_X7_isRequest [.ref 227, .int x1] h) (fun v2 h1 => if v2 = 0 then f_X7_accept_30 x1 1 h1 else gd (inb x1 60) (if (rd h1 254 x1.toNatClampNeg) = 2 then f_X7_accept_30 x1 0 h1 else f_X7_accept_30 x1 2 h1)) (hnk []) :=
  (exL_it SKc SKn SKr CS (lkp T_X7_accept) [F_X7_isRequest, F_X7_holds, F_X7_reason, F_X7_gives] [] [] [30, 57] 15 0 [.ref 227, .int x1, .retAddr 0, .retAddr 0] [] h).trans rfl
set_option maxRecDepth 100000 in
set_option maxHeartbeats 4000000 in
theorem e_X7_accept_30 (x1 : Int32) (s0 : Int32) (h : Hp) : f_X7_accept_30 x1 s0 h = bI (F_X7_holds [.ref 227, .int s0] h) (fun v2 h1 => if v2 = 0 then rtn (some (.int 0)) h1 else gd (inb x1 60) (bI (F_X7_reason [.ref 227, .int x1, .int (rd h1 257 x1.toNatClampNeg)] h1) (fun v4 h3 => if v4 = 0 then f_X7_accept_57 x1 1 h3 else f_X7_accept_57 x1 0 h3) (hnk []))) (hnk []) :=
  (exL_it SKc SKn SKr CS (lkp T_X7_accept) [F_X7_isRequest, F_X7_holds, F_X7_reason, F_X7_gives] [] [] [30, 57] 12 30 [.ref 227, .int x1, .retAddr 0, .retAddr 0] [.int s0, .ref 227] h).trans rfl
set_option maxRecDepth 100000 in
set_option maxHeartbeats 4000000 in
theorem e_X7_accept_57 (x1 : Int32) (s0 : Int32) (h : Hp) : f_X7_accept_57 x1 s0 h = if s0 = 0 then gd (inb x1 60) (gd (inb x1 60) (gd (okZ 1 s0) (rtn (some (.int s0)) (wr (wr h 254 x1.toNatClampNeg 3) 257 x1.toNatClampNeg (-1))))) else gd (inb x1 60) (bV (F_X7_gives [.ref 227, .int x1, .int (rd h 257 x1.toNatClampNeg)] h) (fun h1 => gd (okZ 1 s0) (rtn (some (.int s0)) h1)) (hnk [])) :=
  (exL_it SKc SKn SKr CS (lkp T_X7_accept) [F_X7_isRequest, F_X7_holds, F_X7_reason, F_X7_gives] [] [] [30, 57] 15 57 [.ref 227, .int x1, .retAddr 0, .retAddr 0] [.int s0] h).trans rfl

def T_X7_isWaiting : List (Nat × Ent) := [(0, ([], .aload_n 0, 1, 0, 0, 0, 0)),
  (1, ([], .getfield 88, 3, 30, 3, 938, 0)),
  (4, ([], .iload_n 1, 1, 1, 0, 0, 0)),
  (5, ([], .iaload, 1, 0, 0, 0, 0)),
  (6, ([], .iconst 2, 1, 0, 0, 0, 2)),
  (7, ([], .if_icmp .eq 13, 3, 20, 0, 0, 0)),
  (10, ([], .aload_n 0, 1, 0, 0, 0, 0)),
  (11, ([], .getfield 88, 3, 30, 3, 938, 0)),
  (14, ([], .iload_n 1, 1, 1, 0, 0, 0)),
  (15, ([], .iaload, 1, 0, 0, 0, 0)),
  (16, ([], .iconst 3, 1, 0, 0, 0, 3)),
  (17, ([], .if_icmp .ne 7, 3, 24, 0, 0, 0)),
  (20, ([], .iconst 1, 1, 0, 0, 0, 1)),
  (21, ([], .goto 4, 3, 25, 0, 0, 0)),
  (24, ([], .iconst 0, 1, 0, 0, 0, 0)),
  (25, ([], .ireturn, 1, 0, 1, 0, 0))]
noncomputable def E_X7_isWaiting : Kt := exL SKc SKn SKr CS (lkp T_X7_isWaiting) [] [] []
noncomputable def F_X7_isWaiting : Fn := fun as h => gd (chkA 2 as) (E_X7_isWaiting 0 (pad 2 as) [] h)
set_option maxRecDepth 100000 in
set_option maxHeartbeats 4000000 in
theorem e_X7_isWaiting_0 (x1 : Int32) (h : Hp) : F_X7_isWaiting [.ref 227, .int x1] h = gd (inb x1 60) (if (rd h 254 x1.toNatClampNeg) = 2 then rtn (some (.int 1)) h else gd (inb x1 60) (if (rd h 254 x1.toNatClampNeg) = 3 then rtn (some (.int 1)) h else rtn (some (.int 0)) h)) :=
  (exL_it SKc SKn SKr CS (lkp T_X7_isWaiting) [] [] [] [] 15 0 [.ref 227, .int x1] [] h).trans rfl

def T_X7_nextAt : List (Nat × Ent) := [(0, ([], .iconst (-1), 1, 0, 0, 0, (-1))),
  (1, ([], .istore_n 3, 1, 3, 0, 0, 0)),
  (2, ([], .iconst 0, 1, 0, 0, 0, 0)),
  (3, ([], .istore 4, 2, 4, 0, 0, 0)),
  (5, ([false, false, false, false, false, true], .iload 4, 2, 4, 0, 0, 0)),
  (7, ([], .aload_n 0, 1, 0, 0, 0, 0)),
  (8, ([], .getfield 164, 3, 20, 2, 928, 0)),
  (11, ([], .if_icmp .ge 80, 3, 91, 0, 0, 0)),
  (14, ([], .aload_n 0, 1, 0, 0, 0, 0)),
  (15, ([], .iload 4, 2, 4, 0, 0, 0)),
  (17, ([], .invokevirtual 262, 3, 0, 9, 1, 0)),
  (20, ([], .ifCond .eq 29, 3, 49, 0, 0, 0)),
  (23, ([], .aload_n 0, 1, 0, 0, 0, 0)),
  (24, ([], .getfield 64, 3, 22, 3, 930, 0)),
  (27, ([], .iload 4, 2, 4, 0, 0, 0)),
  (29, ([], .iaload, 1, 0, 0, 0, 0)),
  (30, ([], .iload_n 1, 1, 1, 0, 0, 0)),
  (31, ([], .if_icmp .ne 18, 3, 49, 0, 0, 0)),
  (34, ([], .aload_n 0, 1, 0, 0, 0, 0)),
  (35, ([], .getfield 103, 3, 35, 3, 943, 0)),
  (38, ([], .iload 4, 2, 4, 0, 0, 0)),
  (40, ([], .iaload, 1, 0, 0, 0, 0)),
  (41, ([], .iload_n 2, 1, 2, 0, 0, 0)),
  (42, ([], .if_icmp .le 7, 3, 49, 0, 0, 0)),
  (45, ([], .iconst 1, 1, 0, 0, 0, 1)),
  (46, ([], .goto 4, 3, 50, 0, 0, 0)),
  (49, ([false, false, false, false, false, true], .iconst 0, 1, 0, 0, 0, 0)),
  (50, ([false, false, false, false, false, true], .istore 5, 2, 5, 0, 0, 0)),
  (52, ([], .iload 5, 2, 5, 0, 0, 0)),
  (54, ([], .ifCond .eq 29, 3, 83, 0, 0, 0)),
  (57, ([], .iload_n 3, 1, 3, 0, 0, 0)),
  (58, ([], .iconst (-1), 1, 0, 0, 0, (-1))),
  (59, ([], .if_icmp .eq 19, 3, 78, 0, 0, 0)),
  (62, ([], .aload_n 0, 1, 0, 0, 0, 0)),
  (63, ([], .getfield 103, 3, 35, 3, 943, 0)),
  (66, ([], .iload 4, 2, 4, 0, 0, 0)),
  (68, ([], .iaload, 1, 0, 0, 0, 0)),
  (69, ([], .aload_n 0, 1, 0, 0, 0, 0)),
  (70, ([], .getfield 103, 3, 35, 3, 943, 0)),
  (73, ([], .iload_n 3, 1, 3, 0, 0, 0)),
  (74, ([], .iaload, 1, 0, 0, 0, 0)),
  (75, ([], .if_icmp .ge 8, 3, 83, 0, 0, 0)),
  (78, ([false, false, false, true, false, true], .iload 4, 2, 4, 0, 0, 0)),
  (80, ([], .goto 4, 3, 84, 0, 0, 0)),
  (83, ([false, false, false, false, false, true], .iload_n 3, 1, 3, 0, 0, 0)),
  (84, ([false, false, false, true, false, true], .istore_n 3, 1, 3, 0, 0, 0)),
  (85, ([], .iinc 4 1, 3, 4, 0, 0, 1)),
  (88, ([], .goto (-83), 3, 5, 0, 0, 0)),
  (91, ([], .iload_n 3, 1, 3, 0, 0, 0)),
  (92, ([], .ireturn, 1, 0, 0, 0, 0))]
noncomputable def E_X7_nextAt : Kt := exL SKc SKn SKr CS (lkp T_X7_nextAt) [F_X7_isWaiting] [] []
noncomputable def F_X7_nextAt : Fn := fun as h => gd (chkA 3 as) (E_X7_nextAt 0 (pad 6 as) [] h)
noncomputable def f_X7_nextAt_5 (x1 : Int32) (x2 : Int32) (x3 : Int32) (x4 : Int32) (h : Hp) : Res := E_X7_nextAt 5 [.ref 227, .int x1, .int x2, .int x3, .int x4, .retAddr 0] [] h
noncomputable def f_X7_nextAt_49 (x1 : Int32) (x2 : Int32) (x3 : Int32) (x4 : Int32) (h : Hp) : Res := E_X7_nextAt 49 [.ref 227, .int x1, .int x2, .int x3, .int x4, .retAddr 0] [] h
noncomputable def f_X7_nextAt_50 (x1 : Int32) (x2 : Int32) (x3 : Int32) (x4 : Int32) (s0 : Int32) (h : Hp) : Res := E_X7_nextAt 50 [.ref 227, .int x1, .int x2, .int x3, .int x4, .retAddr 0] [.int s0] h
noncomputable def f_X7_nextAt_78 (x1 : Int32) (x2 : Int32) (x4 : Int32) (h : Hp) : Res := E_X7_nextAt 78 [.ref 227, .int x1, .int x2, .retAddr 0, .int x4, .retAddr 0] [] h
noncomputable def f_X7_nextAt_83 (x1 : Int32) (x2 : Int32) (x3 : Int32) (x4 : Int32) (h : Hp) : Res := E_X7_nextAt 83 [.ref 227, .int x1, .int x2, .int x3, .int x4, .retAddr 0] [] h
noncomputable def f_X7_nextAt_84 (x1 : Int32) (x2 : Int32) (x4 : Int32) (s0 : Int32) (h : Hp) : Res := E_X7_nextAt 84 [.ref 227, .int x1, .int x2, .retAddr 0, .int x4, .retAddr 0] [.int s0] h
set_option maxRecDepth 100000 in
set_option maxHeartbeats 4000000 in
theorem e_X7_nextAt_0 (x1 : Int32) (x2 : Int32) (h : Hp) : F_X7_nextAt [.ref 227, .int x1, .int x2] h = f_X7_nextAt_5 x1 x2 (-1) 0 h :=
  (exL_it SKc SKn SKr CS (lkp T_X7_nextAt) [F_X7_isWaiting] [] [] [5, 49, 50, 78, 83, 84] 4 0 [.ref 227, .int x1, .int x2, .retAddr 0, .retAddr 0, .retAddr 0] [] h).trans rfl
set_option maxRecDepth 100000 in
set_option maxHeartbeats 4000000 in
theorem e_X7_nextAt_5 (x1 : Int32) (x2 : Int32) (x3 : Int32) (x4 : Int32) (h : Hp) : f_X7_nextAt_5 x1 x2 x3 x4 h = if x4 < (rd h 227 20) then bI (F_X7_isWaiting [.ref 227, .int x4] h) (fun v2 h1 => if v2 = 0 then f_X7_nextAt_49 x1 x2 x3 x4 h1 else gd (inb x4 60) (if (rd h1 246 x4.toNatClampNeg) = x1 then gd (inb x4 60) (if x2 < (rd h1 259 x4.toNatClampNeg) then f_X7_nextAt_50 x1 x2 x3 x4 1 h1 else f_X7_nextAt_49 x1 x2 x3 x4 h1) else f_X7_nextAt_49 x1 x2 x3 x4 h1)) (hnk []) else rtn (some (.int x3)) h :=
  (exL_it SKc SKn SKr CS (lkp T_X7_nextAt) [F_X7_isWaiting] [] [] [5, 49, 50, 78, 83, 84] 22 5 [.ref 227, .int x1, .int x2, .int x3, .int x4, .retAddr 0] [] h).trans rfl
set_option maxRecDepth 100000 in
set_option maxHeartbeats 4000000 in
theorem e_X7_nextAt_49 (x1 : Int32) (x2 : Int32) (x3 : Int32) (x4 : Int32) (h : Hp) : f_X7_nextAt_49 x1 x2 x3 x4 h = f_X7_nextAt_50 x1 x2 x3 x4 0 h :=
  (exL_it SKc SKn SKr CS (lkp T_X7_nextAt) [F_X7_isWaiting] [] [] [5, 49, 50, 78, 83, 84] 1 49 [.ref 227, .int x1, .int x2, .int x3, .int x4, .retAddr 0] [] h).trans rfl
set_option maxRecDepth 100000 in
set_option maxHeartbeats 4000000 in
theorem e_X7_nextAt_50 (x1 : Int32) (x2 : Int32) (x3 : Int32) (x4 : Int32) (s0 : Int32) (h : Hp) : f_X7_nextAt_50 x1 x2 x3 x4 s0 h = if s0 = 0 then f_X7_nextAt_83 x1 x2 x3 x4 h else if x3 = (-1) then f_X7_nextAt_78 x1 x2 x4 h else gd (inb x4 60) (gd (inb x3 60) (if (rd h 259 x4.toNatClampNeg) < (rd h 259 x3.toNatClampNeg) then f_X7_nextAt_78 x1 x2 x4 h else f_X7_nextAt_83 x1 x2 x3 x4 h)) :=
  (exL_it SKc SKn SKr CS (lkp T_X7_nextAt) [F_X7_isWaiting] [] [] [5, 49, 50, 78, 83, 84] 15 50 [.ref 227, .int x1, .int x2, .int x3, .int x4, .retAddr 0] [.int s0] h).trans rfl
set_option maxRecDepth 100000 in
set_option maxHeartbeats 4000000 in
theorem e_X7_nextAt_78 (x1 : Int32) (x2 : Int32) (x4 : Int32) (h : Hp) : f_X7_nextAt_78 x1 x2 x4 h = f_X7_nextAt_84 x1 x2 x4 x4 h :=
  (exL_it SKc SKn SKr CS (lkp T_X7_nextAt) [F_X7_isWaiting] [] [] [5, 49, 50, 78, 83, 84] 2 78 [.ref 227, .int x1, .int x2, .retAddr 0, .int x4, .retAddr 0] [] h).trans rfl
set_option maxRecDepth 100000 in
set_option maxHeartbeats 4000000 in
theorem e_X7_nextAt_83 (x1 : Int32) (x2 : Int32) (x3 : Int32) (x4 : Int32) (h : Hp) : f_X7_nextAt_83 x1 x2 x3 x4 h = f_X7_nextAt_84 x1 x2 x4 x3 h :=
  (exL_it SKc SKn SKr CS (lkp T_X7_nextAt) [F_X7_isWaiting] [] [] [5, 49, 50, 78, 83, 84] 1 83 [.ref 227, .int x1, .int x2, .int x3, .int x4, .retAddr 0] [] h).trans rfl
set_option maxRecDepth 100000 in
set_option maxHeartbeats 4000000 in
theorem e_X7_nextAt_84 (x1 : Int32) (x2 : Int32) (x4 : Int32) (s0 : Int32) (h : Hp) : f_X7_nextAt_84 x1 x2 x4 s0 h = f_X7_nextAt_5 x1 x2 s0 (x4 + 1) h :=
  (exL_it SKc SKn SKr CS (lkp T_X7_nextAt) [F_X7_isWaiting] [] [] [5, 49, 50, 78, 83, 84] 3 84 [.ref 227, .int x1, .int x2, .retAddr 0, .int x4, .retAddr 0] [.int s0] h).trans rfl

def T_X7_giveBack : List (Nat × Ent) := [(0, ([], .aload_n 0, 1, 0, 0, 0, 0)),
  (1, ([], .iload_n 1, 1, 1, 0, 0, 0)),
  (2, ([], .invokevirtual 265, 3, 0, 9, 1, 0)),
  (5, ([], .istore_n 3, 1, 3, 0, 0, 0)),
  (6, ([], .aload_n 0, 1, 0, 0, 0, 0)),
  (7, ([], .iload_n 3, 1, 3, 0, 0, 0)),
  (8, ([], .ifCond .ne 7, 3, 15, 0, 0, 0)),
  (11, ([], .iconst 1, 1, 0, 0, 0, 1)),
  (12, ([], .goto 41, 3, 53, 0, 0, 0)),
  (15, ([], .iload_n 2, 1, 2, 0, 0, 0)),
  (16, ([], .iconst 0, 1, 0, 0, 0, 0)),
  (17, ([], .bipush 19, 2, 0, 0, 0, 19)),
  (19, ([], .invokestatic 156, 3, 1, 13, 99, 0)),
  (22, ([], .ifCond .ne 7, 3, 29, 0, 0, 0)),
  (25, ([], .iconst 2, 1, 0, 0, 0, 2)),
  (26, ([], .goto 27, 3, 53, 0, 0, 0)),
  (29, ([], .aload_n 0, 1, 0, 0, 0, 0)),
  (30, ([], .getfield 142, 3, 50, 3, 958, 0)),
  (33, ([], .iload_n 1, 1, 1, 0, 0, 0)),
  (34, ([], .baload, 1, 0, 0, 0, 0)),
  (35, ([], .ifCond .ne 13, 3, 48, 0, 0, 0)),
  (38, ([], .aload_n 0, 1, 0, 0, 0, 0)),
  (39, ([], .getfield 127, 3, 45, 3, 953, 0)),
  (42, ([], .iload_n 1, 1, 1, 0, 0, 0)),
  (43, ([], .iaload, 1, 0, 0, 0, 0)),
  (44, ([], .iload_n 2, 1, 2, 0, 0, 0)),
  (45, ([], .if_icmp .ge 7, 3, 52, 0, 0, 0)),
  (48, ([false, false, false, true, true, true, true], .iconst 3, 1, 0, 0, 0, 3)),
  (49, ([], .goto 4, 3, 53, 0, 0, 0)),
  (52, ([], .iconst 0, 1, 0, 0, 0, 0)),
  (53, ([false, false, false, true, true, true, true], .invokevirtual 170, 3, 2, 9, 1, 0)),
  (56, ([], .ifCond .ne 5, 3, 61, 0, 0, 0)),
  (59, ([], .iconst 0, 1, 0, 0, 0, 0)),
  (60, ([], .ireturn, 1, 0, 0, 0, 0)),
  (61, ([], .iload_n 2, 1, 2, 0, 0, 0)),
  (62, ([], .aload_n 0, 1, 0, 0, 0, 0)),
  (63, ([], .getfield 124, 3, 44, 3, 952, 0)),
  (66, ([], .iload_n 1, 1, 1, 0, 0, 0)),
  (67, ([], .iaload, 1, 0, 0, 0, 0)),
  (68, ([], .if_icmp .gt 13, 3, 81, 0, 0, 0)),
  (71, ([], .aload_n 0, 1, 0, 0, 0, 0)),
  (72, ([], .getfield 142, 3, 50, 3, 958, 0)),
  (75, ([], .iload_n 1, 1, 1, 0, 0, 0)),
  (76, ([], .iconst 1, 1, 0, 0, 0, 1)),
  (77, ([], .bastore, 1, 0, 0, 0, 0)),
  (78, ([], .goto 12, 3, 90, 0, 0, 0)),
  (81, ([], .aload_n 0, 1, 0, 0, 0, 0)),
  (82, ([], .getfield 127, 3, 45, 3, 953, 0)),
  (85, ([], .iload_n 1, 1, 1, 0, 0, 0)),
  (86, ([], .iload_n 2, 1, 2, 0, 0, 0)),
  (87, ([], .iconst 1, 1, 0, 0, 0, 1)),
  (88, ([], .isub, 1, 0, 0, 0, 0)),
  (89, ([], .iastore, 1, 0, 0, 0, 0)),
  (90, ([false, false, true, true, true, true, true], .iconst 0, 1, 0, 0, 0, 0)),
  (91, ([], .istore 4, 2, 4, 0, 0, 0)),
  (93, ([], .aload_n 0, 1, 0, 0, 0, 0)),
  (94, ([], .aload_n 0, 1, 0, 0, 0, 0)),
  (95, ([], .getfield 112, 3, 40, 3, 948, 0)),
  (98, ([], .iload_n 1, 1, 1, 0, 0, 0)),
  (99, ([], .iaload, 1, 0, 0, 0, 0)),
  (100, ([], .iconst (-1), 1, 0, 0, 0, (-1))),
  (101, ([], .invokevirtual 268, 3, 3, 13, 1, 0)),
  (104, ([], .istore 5, 2, 5, 0, 0, 0)),
  (106, ([false, false, true, true, false, false, true], .iload 5, 2, 5, 0, 0, 0)),
  (108, ([], .iconst (-1), 1, 0, 0, 0, (-1))),
  (109, ([], .if_icmp .eq 72, 3, 181, 0, 0, 0)),
  (112, ([], .aload_n 0, 1, 0, 0, 0, 0)),
  (113, ([], .getfield 103, 3, 35, 3, 943, 0)),
  (116, ([], .iload 5, 2, 5, 0, 0, 0)),
  (118, ([], .iaload, 1, 0, 0, 0, 0)),
  (119, ([], .istore 6, 2, 6, 0, 0, 0)),
  (121, ([], .aload_n 0, 1, 0, 0, 0, 0)),
  (122, ([], .getfield 100, 3, 34, 3, 942, 0)),
  (125, ([], .iload 5, 2, 5, 0, 0, 0)),
  (127, ([], .iaload, 1, 0, 0, 0, 0)),
  (128, ([], .iconst (-1), 1, 0, 0, 0, (-1))),
  (129, ([], .if_icmp .ne 35, 3, 164, 0, 0, 0)),
  (132, ([], .aload_n 0, 1, 0, 0, 0, 0)),
  (133, ([], .iload 5, 2, 5, 0, 0, 0)),
  (135, ([], .aload_n 0, 1, 0, 0, 0, 0)),
  (136, ([], .getfield 73, 3, 25, 3, 933, 0)),
  (139, ([], .iload 5, 2, 5, 0, 0, 0)),
  (141, ([], .iaload, 1, 0, 0, 0, 0)),
  (142, ([], .invokevirtual 238, 3, 4, 13, 1, 0)),
  (145, ([], .ifCond .ne 19, 3, 164, 0, 0, 0)),
  (148, ([], .aload_n 0, 1, 0, 0, 0, 0)),
  (149, ([], .iload 5, 2, 5, 0, 0, 0)),
  (151, ([], .aload_n 0, 1, 0, 0, 0, 0)),
  (152, ([], .getfield 73, 3, 25, 3, 933, 0)),
  (155, ([], .iload 5, 2, 5, 0, 0, 0)),
  (157, ([], .iaload, 1, 0, 0, 0, 0)),
  (158, ([], .invokevirtual 242, 3, 5, 12, 1, 0)),
  (161, ([], .iinc 4 1, 3, 4, 0, 0, 1)),
  (164, ([false, false, true, true, false, true, false], .aload_n 0, 1, 0, 0, 0, 0)),
  (165, ([], .aload_n 0, 1, 0, 0, 0, 0)),
  (166, ([], .getfield 112, 3, 40, 3, 948, 0)),
  (169, ([], .iload_n 1, 1, 1, 0, 0, 0)),
  (170, ([], .iaload, 1, 0, 0, 0, 0)),
  (171, ([], .iload 6, 2, 6, 0, 0, 0)),
  (173, ([], .invokevirtual 268, 3, 3, 13, 1, 0)),
  (176, ([], .istore 5, 2, 5, 0, 0, 0)),
  (178, ([], .goto (-72), 3, 106, 0, 0, 0)),
  (181, ([], .iload 4, 2, 4, 0, 0, 0)),
  (183, ([], .ireturn, 1, 0, 0, 0, 0))]
noncomputable def E_X7_giveBack : Kt := exL SKc SKn SKr CS (lkp T_X7_giveBack) [F_X7_isSeries, F_X7_isIn, F_X7_holds, F_X7_nextAt, F_X7_reason, F_X7_gives] [] []
noncomputable def F_X7_giveBack : Fn := fun as h => gd (chkA 3 as) (E_X7_giveBack 0 (pad 7 as) [] h)
noncomputable def f_X7_giveBack_48 (x1 : Int32) (x2 : Int32) (h : Hp) : Res := E_X7_giveBack 48 [.ref 227, .int x1, .int x2, .retAddr 0, .retAddr 0, .retAddr 0, .retAddr 0] [.ref 227] h
noncomputable def f_X7_giveBack_53 (x1 : Int32) (x2 : Int32) (s0 : Int32) (h : Hp) : Res := E_X7_giveBack 53 [.ref 227, .int x1, .int x2, .retAddr 0, .retAddr 0, .retAddr 0, .retAddr 0] [.int s0, .ref 227] h
noncomputable def f_X7_giveBack_90 (x1 : Int32) (h : Hp) : Res := E_X7_giveBack 90 [.ref 227, .int x1, .retAddr 0, .retAddr 0, .retAddr 0, .retAddr 0, .retAddr 0] [] h
noncomputable def f_X7_giveBack_106 (x1 : Int32) (x4 : Int32) (x5 : Int32) (h : Hp) : Res := E_X7_giveBack 106 [.ref 227, .int x1, .retAddr 0, .retAddr 0, .int x4, .int x5, .retAddr 0] [] h
noncomputable def f_X7_giveBack_164 (x1 : Int32) (x4 : Int32) (x6 : Int32) (h : Hp) : Res := E_X7_giveBack 164 [.ref 227, .int x1, .retAddr 0, .retAddr 0, .int x4, .retAddr 0, .int x6] [] h
set_option maxRecDepth 100000 in
set_option maxHeartbeats 4000000 in
theorem e_X7_giveBack_0 (x1 : Int32) (x2 : Int32) (h : Hp) : F_X7_giveBack [.ref 227, .int x1, .int x2] h = bI (F_X7_isSeries [.ref 227, .int x1] h) (fun v2 h1 => if v2 = 0 then f_X7_giveBack_53 x1 x2 1 h1 else bI (F_X7_isIn [.int x2, .int 0, .int 19] h1) (fun v4 h3 => if v4 = 0 then f_X7_giveBack_53 x1 x2 2 h3 else gd (inb x1 60) (if (rd h3 272 x1.toNatClampNeg) = 0 then gd (inb x1 60) (if (rd h3 267 x1.toNatClampNeg) < x2 then f_X7_giveBack_48 x1 x2 h3 else f_X7_giveBack_53 x1 x2 0 h3) else f_X7_giveBack_48 x1 x2 h3)) (hnk [])) (hnk []) :=
  (exL_it SKc SKn SKr CS (lkp T_X7_giveBack) [F_X7_isSeries, F_X7_isIn, F_X7_holds, F_X7_nextAt, F_X7_reason, F_X7_gives] [] [] [48, 53, 90, 106, 164] 24 0 [.ref 227, .int x1, .int x2, .retAddr 0, .retAddr 0, .retAddr 0, .retAddr 0] [] h).trans rfl
set_option maxRecDepth 100000 in
set_option maxHeartbeats 4000000 in
theorem e_X7_giveBack_48 (x1 : Int32) (x2 : Int32) (h : Hp) : f_X7_giveBack_48 x1 x2 h = f_X7_giveBack_53 x1 x2 3 h :=
  (exL_it SKc SKn SKr CS (lkp T_X7_giveBack) [F_X7_isSeries, F_X7_isIn, F_X7_holds, F_X7_nextAt, F_X7_reason, F_X7_gives] [] [] [48, 53, 90, 106, 164] 2 48 [.ref 227, .int x1, .int x2, .retAddr 0, .retAddr 0, .retAddr 0, .retAddr 0] [.ref 227] h).trans rfl
set_option maxRecDepth 100000 in
set_option maxHeartbeats 4000000 in
theorem e_X7_giveBack_53 (x1 : Int32) (x2 : Int32) (s0 : Int32) (h : Hp) : f_X7_giveBack_53 x1 x2 s0 h = bI (F_X7_holds [.ref 227, .int s0] h) (fun v2 h1 => if v2 = 0 then rtn (some (.int 0)) h1 else gd (inb x1 60) (if (rd h1 266 x1.toNatClampNeg) < x2 then gd (inb x1 60) (f_X7_giveBack_90 x1 (wr h1 267 x1.toNatClampNeg (x2 - 1))) else gd (inb x1 60) (f_X7_giveBack_90 x1 (wr h1 272 x1.toNatClampNeg (vp_nar .boolean 1))))) (hnk []) :=
  (exL_it SKc SKn SKr CS (lkp T_X7_giveBack) [F_X7_isSeries, F_X7_isIn, F_X7_holds, F_X7_nextAt, F_X7_reason, F_X7_gives] [] [] [48, 53, 90, 106, 164] 15 53 [.ref 227, .int x1, .int x2, .retAddr 0, .retAddr 0, .retAddr 0, .retAddr 0] [.int s0, .ref 227] h).trans rfl
set_option maxRecDepth 100000 in
set_option maxHeartbeats 4000000 in
theorem e_X7_giveBack_90 (x1 : Int32) (h : Hp) : f_X7_giveBack_90 x1 h = gd (inb x1 60) (bI (F_X7_nextAt [.ref 227, .int (rd h 262 x1.toNatClampNeg), .int (-1)] h) (fun v2 h1 => f_X7_giveBack_106 x1 0 v2 h1) (hnk [])) :=
  (exL_it SKc SKn SKr CS (lkp T_X7_giveBack) [F_X7_isSeries, F_X7_isIn, F_X7_holds, F_X7_nextAt, F_X7_reason, F_X7_gives] [] [] [48, 53, 90, 106, 164] 10 90 [.ref 227, .int x1, .retAddr 0, .retAddr 0, .retAddr 0, .retAddr 0, .retAddr 0] [] h).trans rfl
set_option maxRecDepth 100000 in
set_option maxHeartbeats 4000000 in
theorem e_X7_giveBack_106 (x1 : Int32) (x4 : Int32) (x5 : Int32) (h : Hp) : f_X7_giveBack_106 x1 x4 x5 h = if x5 = (-1) then rtn (some (.int x4)) h else gd (inb x5 60) (gd (inb x5 60) (if (rd h 258 x5.toNatClampNeg) = (-1) then gd (inb x5 60) (bI (F_X7_reason [.ref 227, .int x5, .int (rd h 249 x5.toNatClampNeg)] h) (fun v2 h1 => if v2 = 0 then gd (inb x5 60) (bV (F_X7_gives [.ref 227, .int x5, .int (rd h1 249 x5.toNatClampNeg)] h1) (fun h3 => f_X7_giveBack_164 x1 (x4 + 1) (rd h 259 x5.toNatClampNeg) h3) (hnk [])) else f_X7_giveBack_164 x1 x4 (rd h 259 x5.toNatClampNeg) h1) (hnk [])) else f_X7_giveBack_164 x1 x4 (rd h 259 x5.toNatClampNeg) h)) :=
  (exL_it SKc SKn SKr CS (lkp T_X7_giveBack) [F_X7_isSeries, F_X7_isIn, F_X7_holds, F_X7_nextAt, F_X7_reason, F_X7_gives] [] [] [48, 53, 90, 106, 164] 30 106 [.ref 227, .int x1, .retAddr 0, .retAddr 0, .int x4, .int x5, .retAddr 0] [] h).trans rfl
set_option maxRecDepth 100000 in
set_option maxHeartbeats 4000000 in
theorem e_X7_giveBack_164 (x1 : Int32) (x4 : Int32) (x6 : Int32) (h : Hp) : f_X7_giveBack_164 x1 x4 x6 h = gd (inb x1 60) (bI (F_X7_nextAt [.ref 227, .int (rd h 262 x1.toNatClampNeg), .int x6] h) (fun v2 h1 => f_X7_giveBack_106 x1 x4 v2 h1) (hnk [])) :=
  (exL_it SKc SKn SKr CS (lkp T_X7_giveBack) [F_X7_isSeries, F_X7_isIn, F_X7_holds, F_X7_nextAt, F_X7_reason, F_X7_gives] [] [] [48, 53, 90, 106, 164] 9 164 [.ref 227, .int x1, .retAddr 0, .retAddr 0, .int x4, .retAddr 0, .int x6] [] h).trans rfl

def T_X7_swap : List (Nat × Ent) := [(0, ([], .aload_n 0, 1, 0, 0, 0, 0)),
  (1, ([], .iload_n 1, 1, 1, 0, 0, 0)),
  (2, ([], .invokevirtual 265, 3, 0, 9, 1, 0)),
  (5, ([], .ifCond .eq 15, 3, 20, 0, 0, 0)),
  (8, ([], .aload_n 0, 1, 0, 0, 0, 0)),
  (9, ([], .iload_n 2, 1, 2, 0, 0, 0)),
  (10, ([], .invokevirtual 265, 3, 0, 9, 1, 0)),
  (13, ([], .ifCond .eq 7, 3, 20, 0, 0, 0)),
  (16, ([], .iconst 1, 1, 0, 0, 0, 1)),
  (17, ([], .goto 4, 3, 21, 0, 0, 0)),
  (20, ([false, false, false, true, true, true], .iconst 0, 1, 0, 0, 0, 0)),
  (21, ([false, false, false, true, true, true], .istore_n 3, 1, 3, 0, 0, 0)),
  (22, ([], .iload_n 3, 1, 3, 0, 0, 0)),
  (23, ([], .ifCond .eq 40, 3, 63, 0, 0, 0)),
  (26, ([], .aload_n 0, 1, 0, 0, 0, 0)),
  (27, ([], .getfield 142, 3, 50, 3, 958, 0)),
  (30, ([], .iload_n 1, 1, 1, 0, 0, 0)),
  (31, ([], .baload, 1, 0, 0, 0, 0)),
  (32, ([], .ifCond .ne 31, 3, 63, 0, 0, 0)),
  (35, ([], .aload_n 0, 1, 0, 0, 0, 0)),
  (36, ([], .getfield 142, 3, 50, 3, 958, 0)),
  (39, ([], .iload_n 2, 1, 2, 0, 0, 0)),
  (40, ([], .baload, 1, 0, 0, 0, 0)),
  (41, ([], .ifCond .ne 22, 3, 63, 0, 0, 0)),
  (44, ([], .aload_n 0, 1, 0, 0, 0, 0)),
  (45, ([], .getfield 112, 3, 40, 3, 948, 0)),
  (48, ([], .iload_n 1, 1, 1, 0, 0, 0)),
  (49, ([], .iaload, 1, 0, 0, 0, 0)),
  (50, ([], .aload_n 0, 1, 0, 0, 0, 0)),
  (51, ([], .getfield 112, 3, 40, 3, 948, 0)),
  (54, ([], .iload_n 2, 1, 2, 0, 0, 0)),
  (55, ([], .iaload, 1, 0, 0, 0, 0)),
  (56, ([], .if_icmp .ne 7, 3, 63, 0, 0, 0)),
  (59, ([], .iconst 1, 1, 0, 0, 0, 1)),
  (60, ([], .goto 4, 3, 64, 0, 0, 0)),
  (63, ([false, false, false, false, true, true], .iconst 0, 1, 0, 0, 0, 0)),
  (64, ([false, false, false, false, true, true], .istore 4, 2, 4, 0, 0, 0)),
  (66, ([], .aload_n 0, 1, 0, 0, 0, 0)),
  (67, ([], .iload_n 3, 1, 3, 0, 0, 0)),
  (68, ([], .ifCond .ne 7, 3, 75, 0, 0, 0)),
  (71, ([], .iconst 1, 1, 0, 0, 0, 1)),
  (72, ([], .goto 22, 3, 94, 0, 0, 0)),
  (75, ([], .iload_n 1, 1, 1, 0, 0, 0)),
  (76, ([], .iload_n 2, 1, 2, 0, 0, 0)),
  (77, ([], .if_icmp .ne 7, 3, 84, 0, 0, 0)),
  (80, ([], .iconst 2, 1, 0, 0, 0, 2)),
  (81, ([], .goto 13, 3, 94, 0, 0, 0)),
  (84, ([], .iload 4, 2, 4, 0, 0, 0)),
  (86, ([], .ifCond .eq 7, 3, 93, 0, 0, 0)),
  (89, ([], .iconst 0, 1, 0, 0, 0, 0)),
  (90, ([], .goto 4, 3, 94, 0, 0, 0)),
  (93, ([], .iconst 3, 1, 0, 0, 0, 3)),
  (94, ([false, false, false, true, true, true], .invokevirtual 170, 3, 1, 9, 1, 0)),
  (97, ([], .ifCond .eq 59, 3, 156, 0, 0, 0)),
  (100, ([], .aload_n 0, 1, 0, 0, 0, 0)),
  (101, ([], .getfield 106, 3, 38, 3, 946, 0)),
  (104, ([], .iload_n 1, 1, 1, 0, 0, 0)),
  (105, ([], .iaload, 1, 0, 0, 0, 0)),
  (106, ([], .istore 5, 2, 5, 0, 0, 0)),
  (108, ([], .aload_n 0, 1, 0, 0, 0, 0)),
  (109, ([], .getfield 106, 3, 38, 3, 946, 0)),
  (112, ([], .iload_n 1, 1, 1, 0, 0, 0)),
  (113, ([], .aload_n 0, 1, 0, 0, 0, 0)),
  (114, ([], .getfield 106, 3, 38, 3, 946, 0)),
  (117, ([], .iload_n 2, 1, 2, 0, 0, 0)),
  (118, ([], .iaload, 1, 0, 0, 0, 0)),
  (119, ([], .iastore, 1, 0, 0, 0, 0)),
  (120, ([], .aload_n 0, 1, 0, 0, 0, 0)),
  (121, ([], .getfield 106, 3, 38, 3, 946, 0)),
  (124, ([], .iload_n 2, 1, 2, 0, 0, 0)),
  (125, ([], .iload 5, 2, 5, 0, 0, 0)),
  (127, ([], .iastore, 1, 0, 0, 0, 0)),
  (128, ([], .aload_n 0, 1, 0, 0, 0, 0)),
  (129, ([], .getfield 109, 3, 39, 3, 947, 0)),
  (132, ([], .iload_n 1, 1, 1, 0, 0, 0)),
  (133, ([], .iaload, 1, 0, 0, 0, 0)),
  (134, ([], .istore 5, 2, 5, 0, 0, 0)),
  (136, ([], .aload_n 0, 1, 0, 0, 0, 0)),
  (137, ([], .getfield 109, 3, 39, 3, 947, 0)),
  (140, ([], .iload_n 1, 1, 1, 0, 0, 0)),
  (141, ([], .aload_n 0, 1, 0, 0, 0, 0)),
  (142, ([], .getfield 109, 3, 39, 3, 947, 0)),
  (145, ([], .iload_n 2, 1, 2, 0, 0, 0)),
  (146, ([], .iaload, 1, 0, 0, 0, 0)),
  (147, ([], .iastore, 1, 0, 0, 0, 0)),
  (148, ([], .aload_n 0, 1, 0, 0, 0, 0)),
  (149, ([], .getfield 109, 3, 39, 3, 947, 0)),
  (152, ([], .iload_n 2, 1, 2, 0, 0, 0)),
  (153, ([], .iload 5, 2, 5, 0, 0, 0)),
  (155, ([], .iastore, 1, 0, 0, 0, 0)),
  (156, ([], .return_, 1, 0, 0, 0, 0))]
noncomputable def E_X7_swap : Kt := exL SKc SKn SKr CS (lkp T_X7_swap) [F_X7_isSeries, F_X7_holds] [] []
noncomputable def F_X7_swap : Fn := fun as h => gd (chkA 3 as) (E_X7_swap 0 (pad 6 as) [] h)
noncomputable def f_X7_swap_20 (x1 : Int32) (x2 : Int32) (h : Hp) : Res := E_X7_swap 20 [.ref 227, .int x1, .int x2, .retAddr 0, .retAddr 0, .retAddr 0] [] h
noncomputable def f_X7_swap_21 (x1 : Int32) (x2 : Int32) (s0 : Int32) (h : Hp) : Res := E_X7_swap 21 [.ref 227, .int x1, .int x2, .retAddr 0, .retAddr 0, .retAddr 0] [.int s0] h
noncomputable def f_X7_swap_63 (x1 : Int32) (x2 : Int32) (x3 : Int32) (h : Hp) : Res := E_X7_swap 63 [.ref 227, .int x1, .int x2, .int x3, .retAddr 0, .retAddr 0] [] h
noncomputable def f_X7_swap_64 (x1 : Int32) (x2 : Int32) (x3 : Int32) (s0 : Int32) (h : Hp) : Res := E_X7_swap 64 [.ref 227, .int x1, .int x2, .int x3, .retAddr 0, .retAddr 0] [.int s0] h
noncomputable def f_X7_swap_94 (x1 : Int32) (x2 : Int32) (s0 : Int32) (h : Hp) : Res := E_X7_swap 94 [.ref 227, .int x1, .int x2, .retAddr 0, .retAddr 0, .retAddr 0] [.int s0, .ref 227] h
set_option maxRecDepth 100000 in
set_option maxHeartbeats 4000000 in
theorem e_X7_swap_0 (x1 : Int32) (x2 : Int32) (h : Hp) : F_X7_swap [.ref 227, .int x1, .int x2] h = bI (F_X7_isSeries [.ref 227, .int x1] h) (fun v2 h1 => if v2 = 0 then f_X7_swap_20 x1 x2 h1 else bI (F_X7_isSeries [.ref 227, .int x2] h1) (fun v4 h3 => if v4 = 0 then f_X7_swap_20 x1 x2 h3 else f_X7_swap_21 x1 x2 1 h3) (hnk [])) (hnk []) :=
  (exL_it SKc SKn SKr CS (lkp T_X7_swap) [F_X7_isSeries, F_X7_holds] [] [] [20, 21, 63, 64, 94] 10 0 [.ref 227, .int x1, .int x2, .retAddr 0, .retAddr 0, .retAddr 0] [] h).trans rfl
set_option maxRecDepth 100000 in
set_option maxHeartbeats 4000000 in
theorem e_X7_swap_20 (x1 : Int32) (x2 : Int32) (h : Hp) : f_X7_swap_20 x1 x2 h = f_X7_swap_21 x1 x2 0 h :=
  (exL_it SKc SKn SKr CS (lkp T_X7_swap) [F_X7_isSeries, F_X7_holds] [] [] [20, 21, 63, 64, 94] 1 20 [.ref 227, .int x1, .int x2, .retAddr 0, .retAddr 0, .retAddr 0] [] h).trans rfl
set_option maxRecDepth 100000 in
set_option maxHeartbeats 4000000 in
theorem e_X7_swap_21 (x1 : Int32) (x2 : Int32) (s0 : Int32) (h : Hp) : f_X7_swap_21 x1 x2 s0 h = if s0 = 0 then f_X7_swap_63 x1 x2 s0 h else gd (inb x1 60) (if (rd h 272 x1.toNatClampNeg) = 0 then gd (inb x2 60) (if (rd h 272 x2.toNatClampNeg) = 0 then gd (inb x1 60) (gd (inb x2 60) (if (rd h 262 x1.toNatClampNeg) = (rd h 262 x2.toNatClampNeg) then f_X7_swap_64 x1 x2 s0 1 h else f_X7_swap_63 x1 x2 s0 h)) else f_X7_swap_63 x1 x2 s0 h) else f_X7_swap_63 x1 x2 s0 h) :=
  (exL_it SKc SKn SKr CS (lkp T_X7_swap) [F_X7_isSeries, F_X7_holds] [] [] [20, 21, 63, 64, 94] 24 21 [.ref 227, .int x1, .int x2, .retAddr 0, .retAddr 0, .retAddr 0] [.int s0] h).trans rfl
set_option maxRecDepth 100000 in
set_option maxHeartbeats 4000000 in
theorem e_X7_swap_63 (x1 : Int32) (x2 : Int32) (x3 : Int32) (h : Hp) : f_X7_swap_63 x1 x2 x3 h = f_X7_swap_64 x1 x2 x3 0 h :=
  (exL_it SKc SKn SKr CS (lkp T_X7_swap) [F_X7_isSeries, F_X7_holds] [] [] [20, 21, 63, 64, 94] 1 63 [.ref 227, .int x1, .int x2, .int x3, .retAddr 0, .retAddr 0] [] h).trans rfl
set_option maxRecDepth 100000 in
set_option maxHeartbeats 4000000 in
theorem e_X7_swap_64 (x1 : Int32) (x2 : Int32) (x3 : Int32) (s0 : Int32) (h : Hp) : f_X7_swap_64 x1 x2 x3 s0 h = if x3 = 0 then f_X7_swap_94 x1 x2 1 h else if x1 = x2 then f_X7_swap_94 x1 x2 2 h else if s0 = 0 then f_X7_swap_94 x1 x2 3 h else f_X7_swap_94 x1 x2 0 h :=
  (exL_it SKc SKn SKr CS (lkp T_X7_swap) [F_X7_isSeries, F_X7_holds] [] [] [20, 21, 63, 64, 94] 11 64 [.ref 227, .int x1, .int x2, .int x3, .retAddr 0, .retAddr 0] [.int s0] h).trans rfl
set_option maxRecDepth 100000 in
set_option maxHeartbeats 4000000 in
theorem e_X7_swap_94 (x1 : Int32) (x2 : Int32) (s0 : Int32) (h : Hp) : f_X7_swap_94 x1 x2 s0 h = bI (F_X7_holds [.ref 227, .int s0] h) (fun v2 h1 => if v2 = 0 then rtn none h1 else gd (inb x1 60) (gd (inb x2 60) (gd (inb x1 60) (gd (inb x2 60) (gd (inb x1 60) (gd (inb x2 60) (gd (inb x1 60) (gd (inb x2 60) (rtn none (wr (wr (wr (wr h1 260 x1.toNatClampNeg (rd h1 260 x2.toNatClampNeg)) 260 x2.toNatClampNeg (rd h1 260 x1.toNatClampNeg)) 261 x1.toNatClampNeg (rd h1 261 x2.toNatClampNeg)) 261 x2.toNatClampNeg (rd h1 261 x1.toNatClampNeg))))))))))) (hnk []) :=
  (exL_it SKc SKn SKr CS (lkp T_X7_swap) [F_X7_isSeries, F_X7_holds] [] [] [20, 21, 63, 64, 94] 39 94 [.ref 227, .int x1, .int x2, .retAddr 0, .retAddr 0, .retAddr 0] [.int s0, .ref 227] h).trans rfl

def T_X7_lease : List (Nat × Ent) := [(0, ([], .aload_n 0, 1, 0, 0, 0, 0)),
  (1, ([], .iload_n 1, 1, 1, 0, 0, 0)),
  (2, ([], .invokevirtual 265, 3, 0, 9, 1, 0)),
  (5, ([], .ifCond .eq 14, 3, 19, 0, 0, 0)),
  (8, ([], .iload_n 2, 1, 2, 0, 0, 0)),
  (9, ([], .invokestatic 177, 3, 1, 5, 99, 0)),
  (12, ([], .ifCond .eq 7, 3, 19, 0, 0, 0)),
  (15, ([], .iconst 1, 1, 0, 0, 0, 1)),
  (16, ([], .goto 4, 3, 20, 0, 0, 0)),
  (19, ([false, false, false, true, true], .iconst 0, 1, 0, 0, 0, 0)),
  (20, ([false, false, false, true, true], .istore_n 3, 1, 3, 0, 0, 0)),
  (21, ([], .aload_n 0, 1, 0, 0, 0, 0)),
  (22, ([], .iload_n 3, 1, 3, 0, 0, 0)),
  (23, ([], .ifCond .ne 7, 3, 30, 0, 0, 0)),
  (26, ([], .iconst 1, 1, 0, 0, 0, 1)),
  (27, ([], .goto 17, 3, 44, 0, 0, 0)),
  (30, ([], .aload_n 0, 1, 0, 0, 0, 0)),
  (31, ([], .getfield 142, 3, 50, 3, 958, 0)),
  (34, ([], .iload_n 1, 1, 1, 0, 0, 0)),
  (35, ([], .baload, 1, 0, 0, 0, 0)),
  (36, ([], .ifCond .eq 7, 3, 43, 0, 0, 0)),
  (39, ([], .iconst 2, 1, 0, 0, 0, 2)),
  (40, ([], .goto 4, 3, 44, 0, 0, 0)),
  (43, ([], .iconst 0, 1, 0, 0, 0, 0)),
  (44, ([false, false, false, true, true], .invokevirtual 170, 3, 2, 9, 1, 0)),
  (47, ([], .ifCond .ne 5, 3, 52, 0, 0, 0)),
  (50, ([], .iconst 0, 1, 0, 0, 0, 0)),
  (51, ([], .ireturn, 1, 0, 0, 0, 0)),
  (52, ([], .aload_n 0, 1, 0, 0, 0, 0)),
  (53, ([], .getfield 109, 3, 39, 3, 947, 0)),
  (56, ([], .iload_n 1, 1, 1, 0, 0, 0)),
  (57, ([], .iaload, 1, 0, 0, 0, 0)),
  (58, ([], .istore 4, 2, 4, 0, 0, 0)),
  (60, ([], .aload_n 0, 1, 0, 0, 0, 0)),
  (61, ([], .getfield 109, 3, 39, 3, 947, 0)),
  (64, ([], .iload_n 1, 1, 1, 0, 0, 0)),
  (65, ([], .iload_n 2, 1, 2, 0, 0, 0)),
  (66, ([], .iastore, 1, 0, 0, 0, 0)),
  (67, ([], .iload 4, 2, 4, 0, 0, 0)),
  (69, ([], .ireturn, 1, 0, 0, 0, 0))]
noncomputable def E_X7_lease : Kt := exL SKc SKn SKr CS (lkp T_X7_lease) [F_X7_isSeries, F_X7_isCarrier, F_X7_holds] [] []
noncomputable def F_X7_lease : Fn := fun as h => gd (chkA 3 as) (E_X7_lease 0 (pad 5 as) [] h)
noncomputable def f_X7_lease_19 (x1 : Int32) (x2 : Int32) (h : Hp) : Res := E_X7_lease 19 [.ref 227, .int x1, .int x2, .retAddr 0, .retAddr 0] [] h
noncomputable def f_X7_lease_20 (x1 : Int32) (x2 : Int32) (s0 : Int32) (h : Hp) : Res := E_X7_lease 20 [.ref 227, .int x1, .int x2, .retAddr 0, .retAddr 0] [.int s0] h
noncomputable def f_X7_lease_44 (x1 : Int32) (x2 : Int32) (s0 : Int32) (h : Hp) : Res := E_X7_lease 44 [.ref 227, .int x1, .int x2, .retAddr 0, .retAddr 0] [.int s0, .ref 227] h
set_option maxRecDepth 100000 in
set_option maxHeartbeats 4000000 in
theorem e_X7_lease_0 (x1 : Int32) (x2 : Int32) (h : Hp) : F_X7_lease [.ref 227, .int x1, .int x2] h = bI (F_X7_isSeries [.ref 227, .int x1] h) (fun v2 h1 => if v2 = 0 then f_X7_lease_19 x1 x2 h1 else bI (F_X7_isCarrier [.int x2] h1) (fun v4 h3 => if v4 = 0 then f_X7_lease_19 x1 x2 h3 else f_X7_lease_20 x1 x2 1 h3) (hnk [])) (hnk []) :=
  (exL_it SKc SKn SKr CS (lkp T_X7_lease) [F_X7_isSeries, F_X7_isCarrier, F_X7_holds] [] [] [19, 20, 44] 9 0 [.ref 227, .int x1, .int x2, .retAddr 0, .retAddr 0] [] h).trans rfl
set_option maxRecDepth 100000 in
set_option maxHeartbeats 4000000 in
theorem e_X7_lease_19 (x1 : Int32) (x2 : Int32) (h : Hp) : f_X7_lease_19 x1 x2 h = f_X7_lease_20 x1 x2 0 h :=
  (exL_it SKc SKn SKr CS (lkp T_X7_lease) [F_X7_isSeries, F_X7_isCarrier, F_X7_holds] [] [] [19, 20, 44] 1 19 [.ref 227, .int x1, .int x2, .retAddr 0, .retAddr 0] [] h).trans rfl
set_option maxRecDepth 100000 in
set_option maxHeartbeats 4000000 in
theorem e_X7_lease_20 (x1 : Int32) (x2 : Int32) (s0 : Int32) (h : Hp) : f_X7_lease_20 x1 x2 s0 h = if s0 = 0 then f_X7_lease_44 x1 x2 1 h else gd (inb x1 60) (if (rd h 272 x1.toNatClampNeg) = 0 then f_X7_lease_44 x1 x2 0 h else f_X7_lease_44 x1 x2 2 h) :=
  (exL_it SKc SKn SKr CS (lkp T_X7_lease) [F_X7_isSeries, F_X7_isCarrier, F_X7_holds] [] [] [19, 20, 44] 11 20 [.ref 227, .int x1, .int x2, .retAddr 0, .retAddr 0] [.int s0] h).trans rfl
set_option maxRecDepth 100000 in
set_option maxHeartbeats 4000000 in
theorem e_X7_lease_44 (x1 : Int32) (x2 : Int32) (s0 : Int32) (h : Hp) : f_X7_lease_44 x1 x2 s0 h = bI (F_X7_holds [.ref 227, .int s0] h) (fun v2 h1 => if v2 = 0 then rtn (some (.int 0)) h1 else gd (inb x1 60) (gd (inb x1 60) (rtn (some (.int (rd h1 261 x1.toNatClampNeg))) (wr h1 261 x1.toNatClampNeg x2)))) (hnk []) :=
  (exL_it SKc SKn SKr CS (lkp T_X7_lease) [F_X7_isSeries, F_X7_isCarrier, F_X7_holds] [] [] [19, 20, 44] 14 44 [.ref 227, .int x1, .int x2, .retAddr 0, .retAddr 0] [.int s0, .ref 227] h).trans rfl

def T_X7_fly : List (Nat × Ent) := [(0, ([], .aload_n 0, 1, 0, 0, 0, 0)),
  (1, ([], .iload_n 1, 1, 1, 0, 0, 0)),
  (2, ([], .invokevirtual 265, 3, 0, 9, 1, 0)),
  (5, ([], .istore 4, 2, 4, 0, 0, 0)),
  (7, ([], .iload 4, 2, 4, 0, 0, 0)),
  (9, ([], .ifCond .eq 36, 3, 45, 0, 0, 0)),
  (12, ([], .iload_n 2, 1, 2, 0, 0, 0)),
  (13, ([], .aload_n 0, 1, 0, 0, 0, 0)),
  (14, ([], .getfield 124, 3, 44, 3, 952, 0)),
  (17, ([], .iload_n 1, 1, 1, 0, 0, 0)),
  (18, ([], .iaload, 1, 0, 0, 0, 0)),
  (19, ([], .aload_n 0, 1, 0, 0, 0, 0)),
  (20, ([], .getfield 127, 3, 45, 3, 953, 0)),
  (23, ([], .iload_n 1, 1, 1, 0, 0, 0)),
  (24, ([], .iaload, 1, 0, 0, 0, 0)),
  (25, ([], .invokestatic 156, 3, 1, 13, 99, 0)),
  (28, ([], .ifCond .eq 17, 3, 45, 0, 0, 0)),
  (31, ([], .iload_n 3, 1, 3, 0, 0, 0)),
  (32, ([], .iconst 0, 1, 0, 0, 0, 0)),
  (33, ([], .bipush 71, 2, 0, 0, 0, 71)),
  (35, ([], .invokestatic 156, 3, 1, 13, 99, 0)),
  (38, ([], .ifCond .eq 7, 3, 45, 0, 0, 0)),
  (41, ([], .iconst 1, 1, 0, 0, 0, 1)),
  (42, ([], .goto 4, 3, 46, 0, 0, 0)),
  (45, ([false, false, false, false, false, true], .iconst 0, 1, 0, 0, 0, 0)),
  (46, ([false, false, false, false, false, true], .istore 5, 2, 5, 0, 0, 0)),
  (48, ([], .aload_n 0, 1, 0, 0, 0, 0)),
  (49, ([], .iload 4, 2, 4, 0, 0, 0)),
  (51, ([], .ifCond .ne 7, 3, 58, 0, 0, 0)),
  (54, ([], .iconst 1, 1, 0, 0, 0, 1)),
  (55, ([], .goto 40, 3, 95, 0, 0, 0)),
  (58, ([], .iload 5, 2, 5, 0, 0, 0)),
  (60, ([], .ifCond .ne 7, 3, 67, 0, 0, 0)),
  (63, ([], .iconst 2, 1, 0, 0, 0, 2)),
  (64, ([], .goto 31, 3, 95, 0, 0, 0)),
  (67, ([], .aload_n 0, 1, 0, 0, 0, 0)),
  (68, ([], .getfield 142, 3, 50, 3, 958, 0)),
  (71, ([], .iload_n 1, 1, 1, 0, 0, 0)),
  (72, ([], .baload, 1, 0, 0, 0, 0)),
  (73, ([], .ifCond .ne 17, 3, 90, 0, 0, 0)),
  (76, ([], .aload_n 0, 1, 0, 0, 0, 0)),
  (77, ([], .getfield 136, 3, 48, 3, 956, 0)),
  (80, ([], .iload_n 1, 1, 1, 0, 0, 0)),
  (81, ([], .iaload, 1, 0, 0, 0, 0)),
  (82, ([], .iload_n 2, 1, 2, 0, 0, 0)),
  (83, ([], .ishr, 1, 0, 0, 0, 0)),
  (84, ([], .iconst 1, 1, 0, 0, 0, 1)),
  (85, ([], .iand, 1, 0, 0, 0, 0)),
  (86, ([], .iconst 1, 1, 0, 0, 0, 1)),
  (87, ([], .if_icmp .ne 7, 3, 94, 0, 0, 0)),
  (90, ([false, false, false, false, true, true], .iconst 3, 1, 0, 0, 0, 3)),
  (91, ([], .goto 4, 3, 95, 0, 0, 0)),
  (94, ([], .iconst 0, 1, 0, 0, 0, 0)),
  (95, ([false, false, false, false, true, true], .invokevirtual 170, 3, 2, 9, 1, 0)),
  (98, ([], .ifCond .ne 5, 3, 103, 0, 0, 0)),
  (101, ([], .iconst 0, 1, 0, 0, 0, 0)),
  (102, ([], .ireturn, 1, 0, 0, 0, 0)),
  (103, ([], .aload_n 0, 1, 0, 0, 0, 0)),
  (104, ([], .getfield 136, 3, 48, 3, 956, 0)),
  (107, ([], .iload_n 1, 1, 1, 0, 0, 0)),
  (108, ([], .dup2, 1, 0, 0, 0, 0)),
  (109, ([], .iaload, 1, 0, 0, 0, 0)),
  (110, ([], .iconst 1, 1, 0, 0, 0, 1)),
  (111, ([], .iload_n 2, 1, 2, 0, 0, 0)),
  (112, ([], .ishl, 1, 0, 0, 0, 0)),
  (113, ([], .ior, 1, 0, 0, 0, 0)),
  (114, ([], .iastore, 1, 0, 0, 0, 0)),
  (115, ([], .aload_n 0, 1, 0, 0, 0, 0)),
  (116, ([], .getfield 139, 3, 49, 3, 957, 0)),
  (119, ([], .iload_n 1, 1, 1, 0, 0, 0)),
  (120, ([], .dup2, 1, 0, 0, 0, 0)),
  (121, ([], .iaload, 1, 0, 0, 0, 0)),
  (122, ([], .iload_n 3, 1, 3, 0, 0, 0)),
  (123, ([], .aload_n 0, 1, 0, 0, 0, 0)),
  (124, ([], .getfield 121, 3, 43, 3, 951, 0)),
  (127, ([], .iload_n 1, 1, 1, 0, 0, 0)),
  (128, ([], .iaload, 1, 0, 0, 0, 0)),
  (129, ([], .iconst 2, 1, 0, 0, 0, 2)),
  (130, ([], .isub, 1, 0, 0, 0, 0)),
  (131, ([], .aload_n 0, 1, 0, 0, 0, 0)),
  (132, ([], .getfield 121, 3, 43, 3, 951, 0)),
  (135, ([], .iload_n 1, 1, 1, 0, 0, 0)),
  (136, ([], .iaload, 1, 0, 0, 0, 0)),
  (137, ([], .iconst 2, 1, 0, 0, 0, 2)),
  (138, ([], .iadd, 1, 0, 0, 0, 0)),
  (139, ([], .invokestatic 156, 3, 1, 13, 99, 0)),
  (142, ([], .ifCond .eq 7, 3, 149, 0, 0, 0)),
  (145, ([], .iconst 0, 1, 0, 0, 0, 0)),
  (146, ([], .goto 4, 3, 150, 0, 0, 0)),
  (149, ([], .iconst 1, 1, 0, 0, 0, 1)),
  (150, ([false, false, true, true, true, true], .iadd, 1, 0, 0, 0, 0)),
  (151, ([], .iastore, 1, 0, 0, 0, 0)),
  (152, ([], .aload_n 0, 1, 0, 0, 0, 0)),
  (153, ([], .getfield 142, 3, 50, 3, 958, 0)),
  (156, ([], .iload_n 1, 1, 1, 0, 0, 0)),
  (157, ([], .aload_n 0, 1, 0, 0, 0, 0)),
  (158, ([], .getfield 139, 3, 49, 3, 957, 0)),
  (161, ([], .iload_n 1, 1, 1, 0, 0, 0)),
  (162, ([], .iaload, 1, 0, 0, 0, 0)),
  (163, ([], .iconst 2, 1, 0, 0, 0, 2)),
  (164, ([], .if_icmp .le 7, 3, 171, 0, 0, 0)),
  (167, ([], .iconst 1, 1, 0, 0, 0, 1)),
  (168, ([], .goto 4, 3, 172, 0, 0, 0)),
  (171, ([], .iconst 0, 1, 0, 0, 0, 0)),
  (172, ([], .bastore, 1, 0, 0, 0, 0)),
  (173, ([], .aload_n 0, 1, 0, 0, 0, 0)),
  (174, ([], .getfield 139, 3, 49, 3, 957, 0)),
  (177, ([], .iload_n 1, 1, 1, 0, 0, 0)),
  (178, ([], .iaload, 1, 0, 0, 0, 0)),
  (179, ([], .ireturn, 1, 0, 0, 0, 0))]
noncomputable def E_X7_fly : Kt := exL SKc SKn SKr CS (lkp T_X7_fly) [F_X7_isSeries, F_X7_isIn, F_X7_holds] [] []
noncomputable def F_X7_fly : Fn := fun as h => gd (chkA 4 as) (E_X7_fly 0 (pad 6 as) [] h)
noncomputable def f_X7_fly_45 (x1 : Int32) (x2 : Int32) (x3 : Int32) (x4 : Int32) (h : Hp) : Res := E_X7_fly 45 [.ref 227, .int x1, .int x2, .int x3, .int x4, .retAddr 0] [] h
noncomputable def f_X7_fly_46 (x1 : Int32) (x2 : Int32) (x3 : Int32) (x4 : Int32) (s0 : Int32) (h : Hp) : Res := E_X7_fly 46 [.ref 227, .int x1, .int x2, .int x3, .int x4, .retAddr 0] [.int s0] h
noncomputable def f_X7_fly_90 (x1 : Int32) (x2 : Int32) (x3 : Int32) (h : Hp) : Res := E_X7_fly 90 [.ref 227, .int x1, .int x2, .int x3, .retAddr 0, .retAddr 0] [.ref 227] h
noncomputable def f_X7_fly_95 (x1 : Int32) (x2 : Int32) (x3 : Int32) (s0 : Int32) (h : Hp) : Res := E_X7_fly 95 [.ref 227, .int x1, .int x2, .int x3, .retAddr 0, .retAddr 0] [.int s0, .ref 227] h
noncomputable def f_X7_fly_150 (x1 : Int32) (s0 : Int32) (s1 : Int32) (s2 : Int32) (h : Hp) : Res := E_X7_fly 150 [.ref 227, .int x1, .retAddr 0, .retAddr 0, .retAddr 0, .retAddr 0] [.int s0, .int s1, .int s2, .ref 271] h
set_option maxRecDepth 100000 in
set_option maxHeartbeats 4000000 in
theorem e_X7_fly_0 (x1 : Int32) (x2 : Int32) (x3 : Int32) (h : Hp) : F_X7_fly [.ref 227, .int x1, .int x2, .int x3] h = bI (F_X7_isSeries [.ref 227, .int x1] h) (fun v2 h1 => if v2 = 0 then f_X7_fly_45 x1 x2 x3 v2 h1 else gd (inb x1 60) (gd (inb x1 60) (bI (F_X7_isIn [.int x2, .int (rd h1 266 x1.toNatClampNeg), .int (rd h1 267 x1.toNatClampNeg)] h1) (fun v4 h3 => if v4 = 0 then f_X7_fly_45 x1 x2 x3 v2 h3 else bI (F_X7_isIn [.int x3, .int 0, .int 71] h3) (fun v6 h5 => if v6 = 0 then f_X7_fly_45 x1 x2 x3 v2 h5 else f_X7_fly_46 x1 x2 x3 v2 1 h5) (hnk [])) (hnk [])))) (hnk []) :=
  (exL_it SKc SKn SKr CS (lkp T_X7_fly) [F_X7_isSeries, F_X7_isIn, F_X7_holds] [] [] [45, 46, 90, 95, 150] 24 0 [.ref 227, .int x1, .int x2, .int x3, .retAddr 0, .retAddr 0] [] h).trans rfl
set_option maxRecDepth 100000 in
set_option maxHeartbeats 4000000 in
theorem e_X7_fly_45 (x1 : Int32) (x2 : Int32) (x3 : Int32) (x4 : Int32) (h : Hp) : f_X7_fly_45 x1 x2 x3 x4 h = f_X7_fly_46 x1 x2 x3 x4 0 h :=
  (exL_it SKc SKn SKr CS (lkp T_X7_fly) [F_X7_isSeries, F_X7_isIn, F_X7_holds] [] [] [45, 46, 90, 95, 150] 1 45 [.ref 227, .int x1, .int x2, .int x3, .int x4, .retAddr 0] [] h).trans rfl
set_option maxRecDepth 100000 in
set_option maxHeartbeats 4000000 in
theorem e_X7_fly_46 (x1 : Int32) (x2 : Int32) (x3 : Int32) (x4 : Int32) (s0 : Int32) (h : Hp) : f_X7_fly_46 x1 x2 x3 x4 s0 h = if x4 = 0 then f_X7_fly_95 x1 x2 x3 1 h else if s0 = 0 then f_X7_fly_95 x1 x2 x3 2 h else gd (inb x1 60) (if (rd h 272 x1.toNatClampNeg) = 0 then gd (inb x1 60) (if (((rd h 270 x1.toNatClampNeg) >>> (x2 &&& 31)) &&& 1) = 1 then f_X7_fly_90 x1 x2 x3 h else f_X7_fly_95 x1 x2 x3 0 h) else f_X7_fly_90 x1 x2 x3 h) :=
  (exL_it SKc SKn SKr CS (lkp T_X7_fly) [F_X7_isSeries, F_X7_isIn, F_X7_holds] [] [] [45, 46, 90, 95, 150] 22 46 [.ref 227, .int x1, .int x2, .int x3, .int x4, .retAddr 0] [.int s0] h).trans rfl
set_option maxRecDepth 100000 in
set_option maxHeartbeats 4000000 in
theorem e_X7_fly_90 (x1 : Int32) (x2 : Int32) (x3 : Int32) (h : Hp) : f_X7_fly_90 x1 x2 x3 h = f_X7_fly_95 x1 x2 x3 3 h :=
  (exL_it SKc SKn SKr CS (lkp T_X7_fly) [F_X7_isSeries, F_X7_isIn, F_X7_holds] [] [] [45, 46, 90, 95, 150] 2 90 [.ref 227, .int x1, .int x2, .int x3, .retAddr 0, .retAddr 0] [.ref 227] h).trans rfl
set_option maxRecDepth 100000 in
set_option maxHeartbeats 4000000 in
theorem e_X7_fly_95 (x1 : Int32) (x2 : Int32) (x3 : Int32) (s0 : Int32) (h : Hp) : f_X7_fly_95 x1 x2 x3 s0 h = bI (F_X7_holds [.ref 227, .int s0] h) (fun v2 h1 => if v2 = 0 then rtn (some (.int 0)) h1 else gd (inb x1 60) (gd (inb x1 60) (gd (inb x1 60) (gd (inb x1 60) (gd (inb x1 60) (bI (F_X7_isIn [.int x3, .int ((rd h1 265 x1.toNatClampNeg) - 2), .int ((rd h1 265 x1.toNatClampNeg) + 2)] (wr h1 270 x1.toNatClampNeg ((rd h1 270 x1.toNatClampNeg) ||| (1 <<< (x2 &&& 31))))) (fun v4 h3 => if v4 = 0 then f_X7_fly_150 x1 1 (rd h1 271 x1.toNatClampNeg) x1 h3 else f_X7_fly_150 x1 0 (rd h1 271 x1.toNatClampNeg) x1 h3) (hnk []))))))) (hnk []) :=
  (exL_it SKc SKn SKr CS (lkp T_X7_fly) [F_X7_isSeries, F_X7_isIn, F_X7_holds] [] [] [45, 46, 90, 95, 150] 34 95 [.ref 227, .int x1, .int x2, .int x3, .retAddr 0, .retAddr 0] [.int s0, .ref 227] h).trans rfl
set_option maxRecDepth 100000 in
set_option maxHeartbeats 4000000 in
theorem e_X7_fly_150 (x1 : Int32) (s0 : Int32) (s1 : Int32) (s2 : Int32) (h : Hp) : f_X7_fly_150 x1 s0 s1 s2 h = gd (inb s2 60) (gd (inb x1 60) (if 2 < (rd (wr h 271 s2.toNatClampNeg (s1 + s0)) 271 x1.toNatClampNeg) then gd (inb x1 60) (gd (inb x1 60) (rtn (some (.int (rd (wr h 271 s2.toNatClampNeg (s1 + s0)) 271 x1.toNatClampNeg))) (wr (wr h 271 s2.toNatClampNeg (s1 + s0)) 272 x1.toNatClampNeg (vp_nar .boolean 1)))) else gd (inb x1 60) (gd (inb x1 60) (rtn (some (.int (rd (wr h 271 s2.toNatClampNeg (s1 + s0)) 271 x1.toNatClampNeg))) (wr (wr h 271 s2.toNatClampNeg (s1 + s0)) 272 x1.toNatClampNeg (vp_nar .boolean 0)))))) :=
  (exL_it SKc SKn SKr CS (lkp T_X7_fly) [F_X7_isSeries, F_X7_isIn, F_X7_holds] [] [] [45, 46, 90, 95, 150] 19 150 [.ref 227, .int x1, .retAddr 0, .retAddr 0, .retAddr 0, .retAddr 0] [.int s0, .int s1, .int s2, .ref 271] h).trans rfl

def T_X7_close : List (Nat × Ent) := [(0, ([], .aload_n 0, 1, 0, 0, 0, 0)),
  (1, ([], .iload_n 1, 1, 1, 0, 0, 0)),
  (2, ([], .invokestatic 160, 3, 0, 5, 99, 0)),
  (5, ([], .ifCond .ne 7, 3, 12, 0, 0, 0)),
  (8, ([], .iconst 1, 1, 0, 0, 0, 1)),
  (9, ([], .goto 16, 3, 25, 0, 0, 0)),
  (12, ([], .iload_n 2, 1, 2, 0, 0, 0)),
  (13, ([], .iload_n 3, 1, 3, 0, 0, 0)),
  (14, ([], .invokestatic 207, 3, 1, 9, 99, 0)),
  (17, ([], .ifCond .eq 7, 3, 24, 0, 0, 0)),
  (20, ([], .iconst 0, 1, 0, 0, 0, 0)),
  (21, ([], .goto 4, 3, 25, 0, 0, 0)),
  (24, ([], .iconst 2, 1, 0, 0, 0, 2)),
  (25, ([false, false, false, false, true, true], .invokevirtual 170, 3, 2, 9, 1, 0)),
  (28, ([], .ifCond .ne 5, 3, 33, 0, 0, 0)),
  (31, ([], .iconst 0, 1, 0, 0, 0, 0)),
  (32, ([], .ireturn, 1, 0, 1, 0, 0)),
  (33, ([], .bipush 7, 2, 0, 0, 0, 7)),
  (35, ([], .iload_n 1, 1, 1, 0, 0, 0)),
  (36, ([], .imul, 1, 0, 0, 0, 0)),
  (37, ([], .iload_n 2, 1, 2, 0, 0, 0)),
  (38, ([], .iadd, 1, 0, 0, 0, 0)),
  (39, ([], .istore 4, 2, 4, 0, 0, 0)),
  (41, ([], .aload_n 0, 1, 0, 0, 0, 0)),
  (42, ([], .getfield 146, 3, 51, 3, 959, 0)),
  (45, ([], .iload 4, 2, 4, 0, 0, 0)),
  (47, ([], .iaload, 1, 0, 0, 0, 0)),
  (48, ([], .iload_n 3, 1, 3, 0, 0, 0)),
  (49, ([], .ishr, 1, 0, 0, 0, 0)),
  (50, ([], .iconst 1, 1, 0, 0, 0, 1)),
  (51, ([], .iand, 1, 0, 0, 0, 0)),
  (52, ([], .ifCond .ne 7, 3, 59, 0, 0, 0)),
  (55, ([], .iconst 1, 1, 0, 0, 0, 1)),
  (56, ([], .goto 4, 3, 60, 0, 0, 0)),
  (59, ([], .iconst 0, 1, 0, 0, 0, 0)),
  (60, ([false, true, true, false, false, true], .istore 5, 2, 5, 0, 0, 0)),
  (62, ([], .aload_n 0, 1, 0, 0, 0, 0)),
  (63, ([], .getfield 146, 3, 51, 3, 959, 0)),
  (66, ([], .iload 4, 2, 4, 0, 0, 0)),
  (68, ([], .dup2, 1, 0, 0, 0, 0)),
  (69, ([], .iaload, 1, 0, 0, 0, 0)),
  (70, ([], .iconst 1, 1, 0, 0, 0, 1)),
  (71, ([], .iload_n 3, 1, 3, 0, 0, 0)),
  (72, ([], .ishl, 1, 0, 0, 0, 0)),
  (73, ([], .ior, 1, 0, 0, 0, 0)),
  (74, ([], .iastore, 1, 0, 0, 0, 0)),
  (75, ([], .iload 5, 2, 5, 0, 0, 0)),
  (77, ([], .ireturn, 1, 0, 1, 0, 0))]
noncomputable def E_X7_close : Kt := exL SKc SKn SKr CS (lkp T_X7_close) [F_X7_isAirport, F_X7_isDay, F_X7_holds] [] []
noncomputable def F_X7_close : Fn := fun as h => gd (chkA 4 as) (E_X7_close 0 (pad 6 as) [] h)
noncomputable def f_X7_close_25 (x1 : Int32) (x2 : Int32) (x3 : Int32) (s0 : Int32) (h : Hp) : Res := E_X7_close 25 [.ref 227, .int x1, .int x2, .int x3, .retAddr 0, .retAddr 0] [.int s0, .ref 227] h
noncomputable def f_X7_close_60 (x3 : Int32) (x4 : Int32) (s0 : Int32) (h : Hp) : Res := E_X7_close 60 [.ref 227, .retAddr 0, .retAddr 0, .int x3, .int x4, .retAddr 0] [.int s0] h
set_option maxRecDepth 100000 in
set_option maxHeartbeats 4000000 in
theorem e_X7_close_0 (x1 : Int32) (x2 : Int32) (x3 : Int32) (h : Hp) : F_X7_close [.ref 227, .int x1, .int x2, .int x3] h = bI (F_X7_isAirport [.int x1] h) (fun v2 h1 => if v2 = 0 then f_X7_close_25 x1 x2 x3 1 h1 else bI (F_X7_isDay [.int x2, .int x3] h1) (fun v4 h3 => if v4 = 0 then f_X7_close_25 x1 x2 x3 2 h3 else f_X7_close_25 x1 x2 x3 0 h3) (hnk [])) (hnk []) :=
  (exL_it SKc SKn SKr CS (lkp T_X7_close) [F_X7_isAirport, F_X7_isDay, F_X7_holds] [] [] [25, 60] 10 0 [.ref 227, .int x1, .int x2, .int x3, .retAddr 0, .retAddr 0] [] h).trans rfl
set_option maxRecDepth 100000 in
set_option maxHeartbeats 4000000 in
theorem e_X7_close_25 (x1 : Int32) (x2 : Int32) (x3 : Int32) (s0 : Int32) (h : Hp) : f_X7_close_25 x1 x2 x3 s0 h = bI (F_X7_holds [.ref 227, .int s0] h) (fun v2 h1 => if v2 = 0 then rtn (some (.int 0)) h1 else gd (inb ((7 * x1) + x2) 28) (if (((rd h1 273 (((7 * x1) + x2).toNatClampNeg)) >>> (x3 &&& 31)) &&& 1) = 0 then f_X7_close_60 x3 ((7 * x1) + x2) 1 h1 else f_X7_close_60 x3 ((7 * x1) + x2) 0 h1)) (hnk []) :=
  (exL_it SKc SKn SKr CS (lkp T_X7_close) [F_X7_isAirport, F_X7_isDay, F_X7_holds] [] [] [25, 60] 19 25 [.ref 227, .int x1, .int x2, .int x3, .retAddr 0, .retAddr 0] [.int s0, .ref 227] h).trans rfl
set_option maxRecDepth 100000 in
set_option maxHeartbeats 4000000 in
theorem e_X7_close_60 (x3 : Int32) (x4 : Int32) (s0 : Int32) (h : Hp) : f_X7_close_60 x3 x4 s0 h = gd (inb x4 28) (gd (inb x4 28) (gd (okZ 1 s0) (rtn (some (.int s0)) (wr h 273 x4.toNatClampNeg ((rd h 273 x4.toNatClampNeg) ||| (1 <<< (x3 &&& 31))))))) :=
  (exL_it SKc SKn SKr CS (lkp T_X7_close) [F_X7_isAirport, F_X7_isDay, F_X7_holds] [] [] [25, 60] 13 60 [.ref 227, .retAddr 0, .retAddr 0, .int x3, .int x4, .retAddr 0] [.int s0] h).trans rfl

def T_X7_usedOf : List (Nat × Ent) := [(0, ([], .aload_n 0, 1, 0, 0, 0, 0)),
  (1, ([], .getfield 136, 3, 48, 3, 956, 0)),
  (4, ([], .iload_n 1, 1, 1, 0, 0, 0)),
  (5, ([], .iaload, 1, 0, 0, 0, 0)),
  (6, ([], .aload_n 0, 1, 0, 0, 0, 0)),
  (7, ([], .getfield 146, 3, 51, 3, 959, 0)),
  (10, ([], .bipush 7, 2, 0, 0, 0, 7)),
  (12, ([], .aload_n 0, 1, 0, 0, 0, 0)),
  (13, ([], .getfield 112, 3, 40, 3, 948, 0)),
  (16, ([], .iload_n 1, 1, 1, 0, 0, 0)),
  (17, ([], .iaload, 1, 0, 0, 0, 0)),
  (18, ([], .imul, 1, 0, 0, 0, 0)),
  (19, ([], .aload_n 0, 1, 0, 0, 0, 0)),
  (20, ([], .getfield 118, 3, 42, 3, 950, 0)),
  (23, ([], .iload_n 1, 1, 1, 0, 0, 0)),
  (24, ([], .iaload, 1, 0, 0, 0, 0)),
  (25, ([], .iadd, 1, 0, 0, 0, 0)),
  (26, ([], .iaload, 1, 0, 0, 0, 0)),
  (27, ([], .ior, 1, 0, 0, 0, 0)),
  (28, ([], .istore_n 2, 1, 2, 0, 0, 0)),
  (29, ([], .iconst 0, 1, 0, 0, 0, 0)),
  (30, ([], .istore_n 3, 1, 3, 0, 0, 0)),
  (31, ([], .aload_n 0, 1, 0, 0, 0, 0)),
  (32, ([], .getfield 124, 3, 44, 3, 952, 0)),
  (35, ([], .iload_n 1, 1, 1, 0, 0, 0)),
  (36, ([], .iaload, 1, 0, 0, 0, 0)),
  (37, ([], .istore 4, 2, 4, 0, 0, 0)),
  (39, ([false, false, false, false, false], .iload 4, 2, 4, 0, 0, 0)),
  (41, ([], .aload_n 0, 1, 0, 0, 0, 0)),
  (42, ([], .getfield 127, 3, 45, 3, 953, 0)),
  (45, ([], .iload_n 1, 1, 1, 0, 0, 0)),
  (46, ([], .iaload, 1, 0, 0, 0, 0)),
  (47, ([], .if_icmp .gt 18, 3, 65, 0, 0, 0)),
  (50, ([], .iload_n 3, 1, 3, 0, 0, 0)),
  (51, ([], .iload_n 2, 1, 2, 0, 0, 0)),
  (52, ([], .iload 4, 2, 4, 0, 0, 0)),
  (54, ([], .ishr, 1, 0, 0, 0, 0)),
  (55, ([], .iconst 1, 1, 0, 0, 0, 1)),
  (56, ([], .iand, 1, 0, 0, 0, 0)),
  (57, ([], .iadd, 1, 0, 0, 0, 0)),
  (58, ([], .istore_n 3, 1, 3, 0, 0, 0)),
  (59, ([], .iinc 4 1, 3, 4, 0, 0, 1)),
  (62, ([], .goto (-23), 3, 39, 0, 0, 0)),
  (65, ([], .iload_n 3, 1, 3, 0, 0, 0)),
  (66, ([], .ireturn, 1, 0, 0, 0, 0))]
noncomputable def E_X7_usedOf : Kt := exL SKc SKn SKr CS (lkp T_X7_usedOf) [] [] []
noncomputable def F_X7_usedOf : Fn := fun as h => gd (chkA 2 as) (E_X7_usedOf 0 (pad 5 as) [] h)
noncomputable def f_X7_usedOf_39 (x1 : Int32) (x2 : Int32) (x3 : Int32) (x4 : Int32) (h : Hp) : Res := E_X7_usedOf 39 [.ref 227, .int x1, .int x2, .int x3, .int x4] [] h
set_option maxRecDepth 100000 in
set_option maxHeartbeats 4000000 in
theorem e_X7_usedOf_0 (x1 : Int32) (h : Hp) : F_X7_usedOf [.ref 227, .int x1] h = gd (inb x1 60) (gd (inb x1 60) (gd (inb x1 60) (gd (inb ((7 * (rd h 262 x1.toNatClampNeg)) + (rd h 264 x1.toNatClampNeg)) 28) (gd (inb x1 60) (f_X7_usedOf_39 x1 ((rd h 270 x1.toNatClampNeg) ||| (rd h 273 (((7 * (rd h 262 x1.toNatClampNeg)) + (rd h 264 x1.toNatClampNeg)).toNatClampNeg))) 0 (rd h 266 x1.toNatClampNeg) h))))) :=
  (exL_it SKc SKn SKr CS (lkp T_X7_usedOf) [] [] [] [39] 27 0 [.ref 227, .int x1, .retAddr 0, .retAddr 0, .retAddr 0] [] h).trans rfl
set_option maxRecDepth 100000 in
set_option maxHeartbeats 4000000 in
theorem e_X7_usedOf_39 (x1 : Int32) (x2 : Int32) (x3 : Int32) (x4 : Int32) (h : Hp) : f_X7_usedOf_39 x1 x2 x3 x4 h = gd (inb x1 60) (if (rd h 267 x1.toNatClampNeg) < x4 then rtn (some (.int x3)) h else f_X7_usedOf_39 x1 x2 (x3 + ((x2 >>> (x4 &&& 31)) &&& 1)) (x4 + 1) h) :=
  (exL_it SKc SKn SKr CS (lkp T_X7_usedOf) [] [] [] [39] 16 39 [.ref 227, .int x1, .int x2, .int x3, .int x4] [] h).trans rfl

def T_X7_isEarned : List (Nat × Ent) := [(0, ([], .aload_n 0, 1, 0, 0, 0, 0)),
  (1, ([], .getfield 127, 3, 45, 3, 953, 0)),
  (4, ([], .iload_n 1, 1, 1, 0, 0, 0)),
  (5, ([], .iaload, 1, 0, 0, 0, 0)),
  (6, ([], .aload_n 0, 1, 0, 0, 0, 0)),
  (7, ([], .getfield 124, 3, 44, 3, 952, 0)),
  (10, ([], .iload_n 1, 1, 1, 0, 0, 0)),
  (11, ([], .iaload, 1, 0, 0, 0, 0)),
  (12, ([], .isub, 1, 0, 0, 0, 0)),
  (13, ([], .iconst 1, 1, 0, 0, 0, 1)),
  (14, ([], .iadd, 1, 0, 0, 0, 0)),
  (15, ([], .istore_n 2, 1, 2, 0, 0, 0)),
  (16, ([], .aload_n 0, 1, 0, 0, 0, 0)),
  (17, ([], .getfield 142, 3, 50, 3, 958, 0)),
  (20, ([], .iload_n 1, 1, 1, 0, 0, 0)),
  (21, ([], .baload, 1, 0, 0, 0, 0)),
  (22, ([], .ifCond .ne 27, 3, 49, 0, 0, 0)),
  (25, ([], .iload_n 2, 1, 2, 0, 0, 0)),
  (26, ([], .iconst 4, 1, 0, 0, 0, 4)),
  (27, ([], .if_icmp .le 22, 3, 49, 0, 0, 0)),
  (30, ([], .bipush 100, 2, 0, 0, 0, 100)),
  (32, ([], .aload_n 0, 1, 0, 0, 0, 0)),
  (33, ([], .iload_n 1, 1, 1, 0, 0, 0)),
  (34, ([], .invokevirtual 271, 3, 0, 9, 1, 0)),
  (37, ([], .imul, 1, 0, 0, 0, 0)),
  (38, ([], .bipush 80, 2, 0, 0, 0, 80)),
  (40, ([], .iload_n 2, 1, 2, 0, 0, 0)),
  (41, ([], .imul, 1, 0, 0, 0, 0)),
  (42, ([], .if_icmp .lt 7, 3, 49, 0, 0, 0)),
  (45, ([], .iconst 1, 1, 0, 0, 0, 1)),
  (46, ([], .goto 4, 3, 50, 0, 0, 0)),
  (49, ([], .iconst 0, 1, 0, 0, 0, 0)),
  (50, ([], .ireturn, 1, 0, 1, 0, 0))]
noncomputable def E_X7_isEarned : Kt := exL SKc SKn SKr CS (lkp T_X7_isEarned) [F_X7_usedOf] [] []
noncomputable def F_X7_isEarned : Fn := fun as h => gd (chkA 2 as) (E_X7_isEarned 0 (pad 3 as) [] h)
set_option maxRecDepth 100000 in
set_option maxHeartbeats 4000000 in
theorem e_X7_isEarned_0 (x1 : Int32) (h : Hp) : F_X7_isEarned [.ref 227, .int x1] h = gd (inb x1 60) (gd (inb x1 60) (gd (inb x1 60) (if (rd h 272 x1.toNatClampNeg) = 0 then if 4 < (((rd h 267 x1.toNatClampNeg) - (rd h 266 x1.toNatClampNeg)) + 1) then bI (F_X7_usedOf [.ref 227, .int x1] h) (fun v2 h1 => if (100 * v2) < (80 * (((rd h 267 x1.toNatClampNeg) - (rd h 266 x1.toNatClampNeg)) + 1)) then rtn (some (.int 0)) h1 else rtn (some (.int 1)) h1) (hnk []) else rtn (some (.int 0)) h else rtn (some (.int 0)) h))) :=
  (exL_it SKc SKn SKr CS (lkp T_X7_isEarned) [F_X7_usedOf] [] [] [] 32 0 [.ref 227, .int x1, .retAddr 0] [] h).trans rfl

def T_X7_end : List (Nat × Ent) := [(0, ([], .aload_n 0, 1, 0, 0, 0, 0)),
  (1, ([], .aload_n 0, 1, 0, 0, 0, 0)),
  (2, ([], .getfield 274, 3, 1, 2, 909, 0)),
  (5, ([], .bipush 20, 2, 0, 0, 0, 20)),
  (7, ([], .if_icmp .ne 7, 3, 14, 0, 0, 0)),
  (10, ([], .iconst 1, 1, 0, 0, 0, 1)),
  (11, ([], .goto 4, 3, 15, 0, 0, 0)),
  (14, ([], .iconst 0, 1, 0, 0, 0, 0)),
  (15, ([false, true, true], .invokevirtual 170, 3, 0, 9, 1, 0)),
  (18, ([], .ifCond .ne 5, 3, 23, 0, 0, 0)),
  (21, ([], .iconst 0, 1, 0, 0, 0, 0)),
  (22, ([], .ireturn, 1, 0, 0, 0, 0)),
  (23, ([], .iconst 0, 1, 0, 0, 0, 0)),
  (24, ([], .istore_n 1, 1, 1, 0, 0, 0)),
  (25, ([], .iconst 0, 1, 0, 0, 0, 0)),
  (26, ([], .istore_n 2, 1, 2, 0, 0, 0)),
  (27, ([false, false, false], .iload_n 2, 1, 2, 0, 0, 0)),
  (28, ([], .aload_n 0, 1, 0, 0, 0, 0)),
  (29, ([], .getfield 167, 3, 37, 2, 945, 0)),
  (32, ([], .if_icmp .ge 123, 3, 155, 0, 0, 0)),
  (35, ([], .aload_n 0, 1, 0, 0, 0, 0)),
  (36, ([], .iload_n 2, 1, 2, 0, 0, 0)),
  (37, ([], .invokevirtual 277, 3, 1, 9, 1, 0)),
  (40, ([], .ifCond .eq 109, 3, 149, 0, 0, 0)),
  (43, ([], .aload_n 0, 1, 0, 0, 0, 0)),
  (44, ([], .getfield 34, 3, 11, 3, 919, 0)),
  (47, ([], .iload_n 1, 1, 1, 0, 0, 0)),
  (48, ([], .aload_n 0, 1, 0, 0, 0, 0)),
  (49, ([], .getfield 106, 3, 38, 3, 946, 0)),
  (52, ([], .iload_n 2, 1, 2, 0, 0, 0)),
  (53, ([], .iaload, 1, 0, 0, 0, 0)),
  (54, ([], .iastore, 1, 0, 0, 0, 0)),
  (55, ([], .aload_n 0, 1, 0, 0, 0, 0)),
  (56, ([], .getfield 37, 3, 12, 3, 920, 0)),
  (59, ([], .iload_n 1, 1, 1, 0, 0, 0)),
  (60, ([], .aload_n 0, 1, 0, 0, 0, 0)),
  (61, ([], .getfield 112, 3, 40, 3, 948, 0)),
  (64, ([], .iload_n 2, 1, 2, 0, 0, 0)),
  (65, ([], .iaload, 1, 0, 0, 0, 0)),
  (66, ([], .iastore, 1, 0, 0, 0, 0)),
  (67, ([], .aload_n 0, 1, 0, 0, 0, 0)),
  (68, ([], .getfield 40, 3, 13, 3, 921, 0)),
  (71, ([], .iload_n 1, 1, 1, 0, 0, 0)),
  (72, ([], .aload_n 0, 1, 0, 0, 0, 0)),
  (73, ([], .getfield 115, 3, 41, 3, 949, 0)),
  (76, ([], .iload_n 2, 1, 2, 0, 0, 0)),
  (77, ([], .iaload, 1, 0, 0, 0, 0)),
  (78, ([], .iastore, 1, 0, 0, 0, 0)),
  (79, ([], .aload_n 0, 1, 0, 0, 0, 0)),
  (80, ([], .getfield 43, 3, 14, 3, 922, 0)),
  (83, ([], .iload_n 1, 1, 1, 0, 0, 0)),
  (84, ([], .aload_n 0, 1, 0, 0, 0, 0)),
  (85, ([], .getfield 118, 3, 42, 3, 950, 0)),
  (88, ([], .iload_n 2, 1, 2, 0, 0, 0)),
  (89, ([], .iaload, 1, 0, 0, 0, 0)),
  (90, ([], .iastore, 1, 0, 0, 0, 0)),
  (91, ([], .aload_n 0, 1, 0, 0, 0, 0)),
  (92, ([], .getfield 46, 3, 15, 3, 923, 0)),
  (95, ([], .iload_n 1, 1, 1, 0, 0, 0)),
  (96, ([], .aload_n 0, 1, 0, 0, 0, 0)),
  (97, ([], .getfield 121, 3, 43, 3, 951, 0)),
  (100, ([], .iload_n 2, 1, 2, 0, 0, 0)),
  (101, ([], .iaload, 1, 0, 0, 0, 0)),
  (102, ([], .iastore, 1, 0, 0, 0, 0)),
  (103, ([], .aload_n 0, 1, 0, 0, 0, 0)),
  (104, ([], .getfield 49, 3, 16, 3, 924, 0)),
  (107, ([], .iload_n 1, 1, 1, 0, 0, 0)),
  (108, ([], .aload_n 0, 1, 0, 0, 0, 0)),
  (109, ([], .getfield 124, 3, 44, 3, 952, 0)),
  (112, ([], .iload_n 2, 1, 2, 0, 0, 0)),
  (113, ([], .iaload, 1, 0, 0, 0, 0)),
  (114, ([], .iastore, 1, 0, 0, 0, 0)),
  (115, ([], .aload_n 0, 1, 0, 0, 0, 0)),
  (116, ([], .getfield 52, 3, 17, 3, 925, 0)),
  (119, ([], .iload_n 1, 1, 1, 0, 0, 0)),
  (120, ([], .aload_n 0, 1, 0, 0, 0, 0)),
  (121, ([], .getfield 127, 3, 45, 3, 953, 0)),
  (124, ([], .iload_n 2, 1, 2, 0, 0, 0)),
  (125, ([], .iaload, 1, 0, 0, 0, 0)),
  (126, ([], .iastore, 1, 0, 0, 0, 0)),
  (127, ([], .aload_n 0, 1, 0, 0, 0, 0)),
  (128, ([], .getfield 55, 3, 18, 3, 926, 0)),
  (131, ([], .iload_n 1, 1, 1, 0, 0, 0)),
  (132, ([], .aload_n 0, 1, 0, 0, 0, 0)),
  (133, ([], .getfield 130, 3, 46, 3, 954, 0)),
  (136, ([], .iload_n 2, 1, 2, 0, 0, 0)),
  (137, ([], .iaload, 1, 0, 0, 0, 0)),
  (138, ([], .iastore, 1, 0, 0, 0, 0)),
  (139, ([], .aload_n 0, 1, 0, 0, 0, 0)),
  (140, ([], .getfield 58, 3, 19, 3, 927, 0)),
  (143, ([], .iload_n 1, 1, 1, 0, 0, 0)),
  (144, ([], .iconst (-1), 1, 0, 0, 0, (-1))),
  (145, ([], .iastore, 1, 0, 0, 0, 0)),
  (146, ([], .iinc 1 1, 3, 1, 0, 0, 1)),
  (149, ([false, false, false], .iinc 2 1, 3, 2, 0, 0, 1)),
  (152, ([], .goto (-125), 3, 27, 0, 0, 0)),
  (155, ([], .iconst 0, 1, 0, 0, 0, 0)),
  (156, ([], .istore_n 2, 1, 2, 0, 0, 0)),
  (157, ([false, false, false], .iload_n 2, 1, 2, 0, 0, 0)),
  (158, ([], .bipush 28, 2, 0, 0, 0, 28)),
  (160, ([], .if_icmp .ge 16, 3, 176, 0, 0, 0)),
  (163, ([], .aload_n 0, 1, 0, 0, 0, 0)),
  (164, ([], .getfield 146, 3, 51, 3, 959, 0)),
  (167, ([], .iload_n 2, 1, 2, 0, 0, 0)),
  (168, ([], .iconst 0, 1, 0, 0, 0, 0)),
  (169, ([], .iastore, 1, 0, 0, 0, 0)),
  (170, ([], .iinc 2 1, 3, 2, 0, 0, 1)),
  (173, ([], .goto (-16), 3, 157, 0, 0, 0)),
  (176, ([], .aload_n 0, 1, 0, 0, 0, 0)),
  (177, ([], .iload_n 1, 1, 1, 0, 0, 0)),
  (178, ([], .putfield 201, 3, 10, 2, 918, 0)),
  (181, ([], .aload_n 0, 1, 0, 0, 0, 0)),
  (182, ([], .iconst 0, 1, 0, 0, 0, 0)),
  (183, ([], .putfield 164, 3, 20, 2, 928, 0)),
  (186, ([], .aload_n 0, 1, 0, 0, 0, 0)),
  (187, ([], .iconst 0, 1, 0, 0, 0, 0)),
  (188, ([], .putfield 217, 3, 36, 2, 944, 0)),
  (191, ([], .aload_n 0, 1, 0, 0, 0, 0)),
  (192, ([], .iconst 0, 1, 0, 0, 0, 0)),
  (193, ([], .putfield 167, 3, 37, 2, 945, 0)),
  (196, ([], .aload_n 0, 1, 0, 0, 0, 0)),
  (197, ([], .dup, 1, 0, 0, 0, 0)),
  (198, ([], .getfield 274, 3, 1, 2, 909, 0)),
  (201, ([], .iconst 1, 1, 0, 0, 0, 1)),
  (202, ([], .iadd, 1, 0, 0, 0, 0)),
  (203, ([], .putfield 274, 3, 1, 2, 909, 0)),
  (206, ([], .aload_n 0, 1, 0, 0, 0, 0)),
  (207, ([], .getfield 201, 3, 10, 2, 918, 0)),
  (210, ([], .ireturn, 1, 0, 0, 0, 0))]
noncomputable def E_X7_end : Kt := exL SKc SKn SKr CS (lkp T_X7_end) [F_X7_holds, F_X7_isEarned] [] []
noncomputable def F_X7_end : Fn := fun as h => gd (chkA 1 as) (E_X7_end 0 (pad 3 as) [] h)
noncomputable def f_X7_end_15 (s0 : Int32) (h : Hp) : Res := E_X7_end 15 [.ref 227, .retAddr 0, .retAddr 0] [.int s0, .ref 227] h
noncomputable def f_X7_end_27 (x1 : Int32) (x2 : Int32) (h : Hp) : Res := E_X7_end 27 [.ref 227, .int x1, .int x2] [] h
noncomputable def f_X7_end_149 (x1 : Int32) (x2 : Int32) (h : Hp) : Res := E_X7_end 149 [.ref 227, .int x1, .int x2] [] h
noncomputable def f_X7_end_157 (x1 : Int32) (x2 : Int32) (h : Hp) : Res := E_X7_end 157 [.ref 227, .int x1, .int x2] [] h
set_option maxRecDepth 100000 in
set_option maxHeartbeats 4000000 in
theorem e_X7_end_0 (h : Hp) : F_X7_end [.ref 227] h = if (rd h 227 1) = 20 then f_X7_end_15 1 h else f_X7_end_15 0 h :=
  (exL_it SKc SKn SKr CS (lkp T_X7_end) [F_X7_holds, F_X7_isEarned] [] [] [15, 27, 149, 157] 7 0 [.ref 227, .retAddr 0, .retAddr 0] [] h).trans rfl
set_option maxRecDepth 100000 in
set_option maxHeartbeats 4000000 in
theorem e_X7_end_15 (s0 : Int32) (h : Hp) : f_X7_end_15 s0 h = bI (F_X7_holds [.ref 227, .int s0] h) (fun v2 h1 => if v2 = 0 then rtn (some (.int 0)) h1 else f_X7_end_27 0 0 h1) (hnk []) :=
  (exL_it SKc SKn SKr CS (lkp T_X7_end) [F_X7_holds, F_X7_isEarned] [] [] [15, 27, 149, 157] 6 15 [.ref 227, .retAddr 0, .retAddr 0] [.int s0, .ref 227] h).trans rfl
set_option maxRecDepth 100000 in
set_option maxHeartbeats 4000000 in
theorem e_X7_end_27 (x1 : Int32) (x2 : Int32) (h : Hp) : f_X7_end_27 x1 x2 h = if x2 < (rd h 227 37) then bI (F_X7_isEarned [.ref 227, .int x2] h) (fun v2 h1 => if v2 = 0 then f_X7_end_149 x1 x2 h1 else gd (inb x2 60) (gd (inb x1 60) (gd (inb x2 60) (gd (inb x1 60) (gd (inb x2 60) (gd (inb x1 60) (gd (inb x2 60) (gd (inb x1 60) (gd (inb x2 60) (gd (inb x1 60) (gd (inb x2 60) (gd (inb x1 60) (gd (inb x2 60) (gd (inb x1 60) (gd (inb x2 60) (gd (inb x1 60) (gd (inb x1 60) (f_X7_end_149 (x1 + 1) x2 (wr (wr (wr (wr (wr (wr (wr (wr (wr h1 236 x1.toNatClampNeg (rd h1 260 x2.toNatClampNeg)) 237 x1.toNatClampNeg (rd h1 262 x2.toNatClampNeg)) 238 x1.toNatClampNeg (rd h1 263 x2.toNatClampNeg)) 239 x1.toNatClampNeg (rd h1 264 x2.toNatClampNeg)) 240 x1.toNatClampNeg (rd h1 265 x2.toNatClampNeg)) 241 x1.toNatClampNeg (rd h1 266 x2.toNatClampNeg)) 242 x1.toNatClampNeg (rd h1 267 x2.toNatClampNeg)) 243 x1.toNatClampNeg (rd h1 268 x2.toNatClampNeg)) 244 x1.toNatClampNeg (-1)))))))))))))))))))) (hnk []) else f_X7_end_157 x1 0 h :=
  (exL_it SKc SKn SKr CS (lkp T_X7_end) [F_X7_holds, F_X7_isEarned] [] [] [15, 27, 149, 157] 78 27 [.ref 227, .int x1, .int x2] [] h).trans rfl
set_option maxRecDepth 100000 in
set_option maxHeartbeats 4000000 in
theorem e_X7_end_149 (x1 : Int32) (x2 : Int32) (h : Hp) : f_X7_end_149 x1 x2 h = f_X7_end_27 x1 (x2 + 1) h :=
  (exL_it SKc SKn SKr CS (lkp T_X7_end) [F_X7_holds, F_X7_isEarned] [] [] [15, 27, 149, 157] 2 149 [.ref 227, .int x1, .int x2] [] h).trans rfl
set_option maxRecDepth 100000 in
set_option maxHeartbeats 4000000 in
theorem e_X7_end_157 (x1 : Int32) (x2 : Int32) (h : Hp) : f_X7_end_157 x1 x2 h = if x2 < 28 then gd (inb x2 28) (f_X7_end_157 x1 (x2 + 1) (wr h 273 x2.toNatClampNeg 0)) else rtn (some (.int x1)) (wr (wr (wr (wr (wr h 227 10 x1) 227 20 0) 227 36 0) 227 37 0) 227 1 ((rd h 227 1) + 1)) :=
  (exL_it SKc SKn SKr CS (lkp T_X7_end) [F_X7_holds, F_X7_isEarned] [] [] [15, 27, 149, 157] 24 157 [.ref 227, .int x1, .int x2] [] h).trans rfl

def T_X7_season : List (Nat × Ent) := [(0, ([], .aload_n 0, 1, 0, 0, 0, 0)),
  (1, ([], .iconst 0, 1, 0, 0, 0, 0)),
  (2, ([], .putfield 152, 3, 0, 2, 908, 0)),
  (5, ([], .aload_n 0, 1, 0, 0, 0, 0)),
  (6, ([], .getfield 274, 3, 1, 2, 909, 0)),
  (9, ([], .ireturn, 1, 0, 0, 0, 0))]
noncomputable def E_X7_season : Kt := exL SKc SKn SKr CS (lkp T_X7_season) [] [] []
noncomputable def F_X7_season : Fn := fun as h => gd (chkA 1 as) (E_X7_season 0 (pad 1 as) [] h)
set_option maxRecDepth 100000 in
set_option maxHeartbeats 4000000 in
theorem e_X7_season_0 (h : Hp) : F_X7_season [.ref 227] h = rtn (some (.int (rd h 227 1))) (wr h 227 0 0) :=
  (exL_it SKc SKn SKr CS (lkp T_X7_season) [] [] [] [] 6 0 [.ref 227] [] h).trans rfl

def T_X7_load : List (Nat × Ent) := [(0, ([], .iload_n 2, 1, 2, 0, 0, 0)),
  (1, ([], .iconst 0, 1, 0, 0, 0, 0)),
  (2, ([], .iconst 2, 1, 0, 0, 0, 2)),
  (3, ([], .invokestatic 156, 3, 0, 13, 99, 0)),
  (6, ([], .ifCond .eq 39, 3, 45, 0, 0, 0)),
  (9, ([], .iload_n 3, 1, 3, 0, 0, 0)),
  (10, ([], .iload 4, 2, 4, 0, 0, 0)),
  (12, ([], .invokestatic 207, 3, 1, 9, 99, 0)),
  (15, ([], .ifCond .eq 30, 3, 45, 0, 0, 0)),
  (18, ([], .iload 5, 2, 5, 0, 0, 0)),
  (20, ([], .iconst 0, 1, 0, 0, 0, 0)),
  (21, ([], .bipush 71, 2, 0, 0, 0, 71)),
  (23, ([], .invokestatic 156, 3, 0, 13, 99, 0)),
  (26, ([], .ifCond .eq 19, 3, 45, 0, 0, 0)),
  (29, ([], .iload 6, 2, 6, 0, 0, 0)),
  (31, ([], .iload 5, 2, 5, 0, 0, 0)),
  (33, ([], .bipush 71, 2, 0, 0, 0, 71)),
  (35, ([], .invokestatic 156, 3, 0, 13, 99, 0)),
  (38, ([], .ifCond .eq 7, 3, 45, 0, 0, 0)),
  (41, ([], .iconst 1, 1, 0, 0, 0, 1)),
  (42, ([], .goto 4, 3, 46, 0, 0, 0)),
  (45, ([false, false, false, false, false, false, false, true], .iconst 0, 1, 0, 0, 0, 0)),
  (46, ([false, false, false, false, false, false, false, true], .istore 7, 2, 7, 0, 0, 0)),
  (48, ([], .aload_n 0, 1, 0, 0, 0, 0)),
  (49, ([], .iload_n 1, 1, 1, 0, 0, 0)),
  (50, ([], .invokestatic 160, 3, 2, 5, 99, 0)),
  (53, ([], .ifCond .ne 7, 3, 60, 0, 0, 0)),
  (56, ([], .iconst 1, 1, 0, 0, 0, 1)),
  (57, ([], .goto 13, 3, 70, 0, 0, 0)),
  (60, ([], .iload 7, 2, 7, 0, 0, 0)),
  (62, ([], .ifCond .eq 7, 3, 69, 0, 0, 0)),
  (65, ([], .iconst 0, 1, 0, 0, 0, 0)),
  (66, ([], .goto 4, 3, 70, 0, 0, 0)),
  (69, ([], .iconst 2, 1, 0, 0, 0, 2)),
  (70, ([false, false, false, false, false, false, false, true], .invokevirtual 170, 3, 3, 9, 1, 0)),
  (73, ([], .ifCond .eq 19, 3, 92, 0, 0, 0)),
  (76, ([], .aload_n 0, 1, 0, 0, 0, 0)),
  (77, ([], .iload_n 1, 1, 1, 0, 0, 0)),
  (78, ([], .iload_n 2, 1, 2, 0, 0, 0)),
  (79, ([], .iload_n 3, 1, 3, 0, 0, 0)),
  (80, ([], .iload 4, 2, 4, 0, 0, 0)),
  (82, ([], .iload 5, 2, 5, 0, 0, 0)),
  (84, ([], .iload 6, 2, 6, 0, 0, 0)),
  (86, ([], .invokevirtual 187, 3, 4, 29, 1, 0)),
  (89, ([], .goto 4, 3, 93, 0, 0, 0)),
  (92, ([], .iconst 0, 1, 0, 0, 0, 0)),
  (93, ([], .ireturn, 1, 0, 0, 0, 0))]
noncomputable def E_X7_load : Kt := exL SKc SKn SKr CS (lkp T_X7_load) [F_X7_isIn, F_X7_isDay, F_X7_isAirport, F_X7_holds, F_X7_loadOf] [] []
noncomputable def F_X7_load : Fn := fun as h => gd (chkA 7 as) (E_X7_load 0 (pad 8 as) [] h)
noncomputable def f_X7_load_45 (x1 : Int32) (x2 : Int32) (x3 : Int32) (x4 : Int32) (x5 : Int32) (x6 : Int32) (h : Hp) : Res := E_X7_load 45 [.ref 227, .int x1, .int x2, .int x3, .int x4, .int x5, .int x6, .retAddr 0] [] h
noncomputable def f_X7_load_46 (x1 : Int32) (x2 : Int32) (x3 : Int32) (x4 : Int32) (x5 : Int32) (x6 : Int32) (s0 : Int32) (h : Hp) : Res := E_X7_load 46 [.ref 227, .int x1, .int x2, .int x3, .int x4, .int x5, .int x6, .retAddr 0] [.int s0] h
noncomputable def f_X7_load_70 (x1 : Int32) (x2 : Int32) (x3 : Int32) (x4 : Int32) (x5 : Int32) (x6 : Int32) (s0 : Int32) (h : Hp) : Res := E_X7_load 70 [.ref 227, .int x1, .int x2, .int x3, .int x4, .int x5, .int x6, .retAddr 0] [.int s0, .ref 227] h
set_option maxRecDepth 100000 in
set_option maxHeartbeats 4000000 in
theorem e_X7_load_0 (x1 : Int32) (x2 : Int32) (x3 : Int32) (x4 : Int32) (x5 : Int32) (x6 : Int32) (h : Hp) : F_X7_load [.ref 227, .int x1, .int x2, .int x3, .int x4, .int x5, .int x6] h = bI (F_X7_isIn [.int x2, .int 0, .int 2] h) (fun v2 h1 => if v2 = 0 then f_X7_load_45 x1 x2 x3 x4 x5 x6 h1 else bI (F_X7_isDay [.int x3, .int x4] h1) (fun v4 h3 => if v4 = 0 then f_X7_load_45 x1 x2 x3 x4 x5 x6 h3 else bI (F_X7_isIn [.int x5, .int 0, .int 71] h3) (fun v6 h5 => if v6 = 0 then f_X7_load_45 x1 x2 x3 x4 x5 x6 h5 else bI (F_X7_isIn [.int x6, .int x5, .int 71] h5) (fun v8 h7 => if v8 = 0 then f_X7_load_45 x1 x2 x3 x4 x5 x6 h7 else f_X7_load_46 x1 x2 x3 x4 x5 x6 1 h7) (hnk [])) (hnk [])) (hnk [])) (hnk []) :=
  (exL_it SKc SKn SKr CS (lkp T_X7_load) [F_X7_isIn, F_X7_isDay, F_X7_isAirport, F_X7_holds, F_X7_loadOf] [] [] [45, 46, 70] 21 0 [.ref 227, .int x1, .int x2, .int x3, .int x4, .int x5, .int x6, .retAddr 0] [] h).trans rfl
set_option maxRecDepth 100000 in
set_option maxHeartbeats 4000000 in
theorem e_X7_load_45 (x1 : Int32) (x2 : Int32) (x3 : Int32) (x4 : Int32) (x5 : Int32) (x6 : Int32) (h : Hp) : f_X7_load_45 x1 x2 x3 x4 x5 x6 h = f_X7_load_46 x1 x2 x3 x4 x5 x6 0 h :=
  (exL_it SKc SKn SKr CS (lkp T_X7_load) [F_X7_isIn, F_X7_isDay, F_X7_isAirport, F_X7_holds, F_X7_loadOf] [] [] [45, 46, 70] 1 45 [.ref 227, .int x1, .int x2, .int x3, .int x4, .int x5, .int x6, .retAddr 0] [] h).trans rfl
set_option maxRecDepth 100000 in
set_option maxHeartbeats 4000000 in
theorem e_X7_load_46 (x1 : Int32) (x2 : Int32) (x3 : Int32) (x4 : Int32) (x5 : Int32) (x6 : Int32) (s0 : Int32) (h : Hp) : f_X7_load_46 x1 x2 x3 x4 x5 x6 s0 h = bI (F_X7_isAirport [.int x1] h) (fun v2 h1 => if v2 = 0 then f_X7_load_70 x1 x2 x3 x4 x5 x6 1 h1 else if s0 = 0 then f_X7_load_70 x1 x2 x3 x4 x5 x6 2 h1 else f_X7_load_70 x1 x2 x3 x4 x5 x6 0 h1) (hnk []) :=
  (exL_it SKc SKn SKr CS (lkp T_X7_load) [F_X7_isIn, F_X7_isDay, F_X7_isAirport, F_X7_holds, F_X7_loadOf] [] [] [45, 46, 70] 9 46 [.ref 227, .int x1, .int x2, .int x3, .int x4, .int x5, .int x6, .retAddr 0] [.int s0] h).trans rfl
set_option maxRecDepth 100000 in
set_option maxHeartbeats 4000000 in
theorem e_X7_load_70 (x1 : Int32) (x2 : Int32) (x3 : Int32) (x4 : Int32) (x5 : Int32) (x6 : Int32) (s0 : Int32) (h : Hp) : f_X7_load_70 x1 x2 x3 x4 x5 x6 s0 h = bI (F_X7_holds [.ref 227, .int s0] h) (fun v2 h1 => if v2 = 0 then rtn (some (.int 0)) h1 else bI (F_X7_loadOf [.ref 227, .int x1, .int x2, .int x3, .int x4, .int x5, .int x6] h1) (fun v4 h3 => rtn (some (.int v4)) h3) (hnk [])) (hnk []) :=
  (exL_it SKc SKn SKr CS (lkp T_X7_load) [F_X7_isIn, F_X7_isDay, F_X7_isAirport, F_X7_holds, F_X7_loadOf] [] [] [45, 46, 70] 12 70 [.ref 227, .int x1, .int x2, .int x3, .int x4, .int x5, .int x6, .retAddr 0] [.int s0, .ref 227] h).trans rfl

def T_X7_worst : List (Nat × Ent) := [(0, ([], .aload_n 0, 1, 0, 0, 0, 0)),
  (1, ([], .aload_n 0, 1, 0, 0, 0, 0)),
  (2, ([], .iload_n 1, 1, 1, 0, 0, 0)),
  (3, ([], .iload_n 2, 1, 2, 0, 0, 0)),
  (4, ([], .invokevirtual 173, 3, 0, 13, 1, 0)),
  (7, ([], .ifCond .ne 7, 3, 14, 0, 0, 0)),
  (10, ([], .iconst 1, 1, 0, 0, 0, 1)),
  (11, ([], .goto 17, 3, 28, 0, 0, 0)),
  (14, ([], .iload_n 3, 1, 3, 0, 0, 0)),
  (15, ([], .iload 4, 2, 4, 0, 0, 0)),
  (17, ([], .invokestatic 207, 3, 1, 9, 99, 0)),
  (20, ([], .ifCond .eq 7, 3, 27, 0, 0, 0)),
  (23, ([], .iconst 0, 1, 0, 0, 0, 0)),
  (24, ([], .goto 4, 3, 28, 0, 0, 0)),
  (27, ([], .iconst 2, 1, 0, 0, 0, 2)),
  (28, ([false, false, false, false, false, true, true, true, true], .invokevirtual 170, 3, 2, 9, 1, 0)),
  (31, ([], .ifCond .ne 5, 3, 36, 0, 0, 0)),
  (34, ([], .iconst 0, 1, 0, 0, 0, 0)),
  (35, ([], .ireturn, 1, 0, 0, 0, 0)),
  (36, ([], .bipush 6, 2, 0, 0, 0, 6)),
  (38, ([], .iload_n 1, 1, 1, 0, 0, 0)),
  (39, ([], .imul, 1, 0, 0, 0, 0)),
  (40, ([], .iload_n 2, 1, 2, 0, 0, 0)),
  (41, ([], .iadd, 1, 0, 0, 0, 0)),
  (42, ([], .istore 5, 2, 5, 0, 0, 0)),
  (44, ([], .iconst 0, 1, 0, 0, 0, 0)),
  (45, ([], .istore 6, 2, 6, 0, 0, 0)),
  (47, ([], .iconst 0, 1, 0, 0, 0, 0)),
  (48, ([], .istore 7, 2, 7, 0, 0, 0)),
  (50, ([false, false, true, false, false, false, false, false, true], .iload 7, 2, 7, 0, 0, 0)),
  (52, ([], .aload_n 0, 1, 0, 0, 0, 0)),
  (53, ([], .getfield 16, 3, 4, 3, 912, 0)),
  (56, ([], .iload 5, 2, 5, 0, 0, 0)),
  (58, ([], .iaload, 1, 0, 0, 0, 0)),
  (59, ([], .iadd, 1, 0, 0, 0, 0)),
  (60, ([], .bipush 72, 2, 0, 0, 0, 72)),
  (62, ([], .if_icmp .gt 56, 3, 118, 0, 0, 0)),
  (65, ([], .aload_n 0, 1, 0, 0, 0, 0)),
  (66, ([], .iload_n 1, 1, 1, 0, 0, 0)),
  (67, ([], .aload_n 0, 1, 0, 0, 0, 0)),
  (68, ([], .getfield 13, 3, 3, 3, 911, 0)),
  (71, ([], .iload 5, 2, 5, 0, 0, 0)),
  (73, ([], .iaload, 1, 0, 0, 0, 0)),
  (74, ([], .iload_n 3, 1, 3, 0, 0, 0)),
  (75, ([], .iload 4, 2, 4, 0, 0, 0)),
  (77, ([], .iload 7, 2, 7, 0, 0, 0)),
  (79, ([], .iload 7, 2, 7, 0, 0, 0)),
  (81, ([], .aload_n 0, 1, 0, 0, 0, 0)),
  (82, ([], .getfield 16, 3, 4, 3, 912, 0)),
  (85, ([], .iload 5, 2, 5, 0, 0, 0)),
  (87, ([], .iaload, 1, 0, 0, 0, 0)),
  (88, ([], .iadd, 1, 0, 0, 0, 0)),
  (89, ([], .iconst 1, 1, 0, 0, 0, 1)),
  (90, ([], .isub, 1, 0, 0, 0, 0)),
  (91, ([], .invokevirtual 187, 3, 3, 29, 1, 0)),
  (94, ([], .istore 8, 2, 8, 0, 0, 0)),
  (96, ([], .iload 8, 2, 8, 0, 0, 0)),
  (98, ([], .iload 6, 2, 6, 0, 0, 0)),
  (100, ([], .if_icmp .le 8, 3, 108, 0, 0, 0)),
  (103, ([], .iload 8, 2, 8, 0, 0, 0)),
  (105, ([], .goto 5, 3, 110, 0, 0, 0)),
  (108, ([], .iload 6, 2, 6, 0, 0, 0)),
  (110, ([false, false, true, false, false, false, true, false, true], .istore 6, 2, 6, 0, 0, 0)),
  (112, ([], .iinc 7 1, 3, 7, 0, 0, 1)),
  (115, ([], .goto (-65), 3, 50, 0, 0, 0)),
  (118, ([], .iload 6, 2, 6, 0, 0, 0)),
  (120, ([], .ireturn, 1, 0, 0, 0, 0))]
noncomputable def E_X7_worst : Kt := exL SKc SKn SKr CS (lkp T_X7_worst) [F_X7_isRule, F_X7_isDay, F_X7_holds, F_X7_loadOf] [] []
noncomputable def F_X7_worst : Fn := fun as h => gd (chkA 5 as) (E_X7_worst 0 (pad 9 as) [] h)
noncomputable def f_X7_worst_28 (x1 : Int32) (x2 : Int32) (x3 : Int32) (x4 : Int32) (s0 : Int32) (h : Hp) : Res := E_X7_worst 28 [.ref 227, .int x1, .int x2, .int x3, .int x4, .retAddr 0, .retAddr 0, .retAddr 0, .retAddr 0] [.int s0, .ref 227] h
noncomputable def f_X7_worst_50 (x1 : Int32) (x3 : Int32) (x4 : Int32) (x5 : Int32) (x6 : Int32) (x7 : Int32) (h : Hp) : Res := E_X7_worst 50 [.ref 227, .int x1, .retAddr 0, .int x3, .int x4, .int x5, .int x6, .int x7, .retAddr 0] [] h
noncomputable def f_X7_worst_110 (x1 : Int32) (x3 : Int32) (x4 : Int32) (x5 : Int32) (x7 : Int32) (s0 : Int32) (h : Hp) : Res := E_X7_worst 110 [.ref 227, .int x1, .retAddr 0, .int x3, .int x4, .int x5, .retAddr 0, .int x7, .retAddr 0] [.int s0] h
set_option maxRecDepth 100000 in
set_option maxHeartbeats 4000000 in
theorem e_X7_worst_0 (x1 : Int32) (x2 : Int32) (x3 : Int32) (x4 : Int32) (h : Hp) : F_X7_worst [.ref 227, .int x1, .int x2, .int x3, .int x4] h = bI (F_X7_isRule [.ref 227, .int x1, .int x2] h) (fun v2 h1 => if v2 = 0 then f_X7_worst_28 x1 x2 x3 x4 1 h1 else bI (F_X7_isDay [.int x3, .int x4] h1) (fun v4 h3 => if v4 = 0 then f_X7_worst_28 x1 x2 x3 x4 2 h3 else f_X7_worst_28 x1 x2 x3 x4 0 h3) (hnk [])) (hnk []) :=
  (exL_it SKc SKn SKr CS (lkp T_X7_worst) [F_X7_isRule, F_X7_isDay, F_X7_holds, F_X7_loadOf] [] [] [28, 50, 110] 12 0 [.ref 227, .int x1, .int x2, .int x3, .int x4, .retAddr 0, .retAddr 0, .retAddr 0, .retAddr 0] [] h).trans rfl
set_option maxRecDepth 100000 in
set_option maxHeartbeats 4000000 in
theorem e_X7_worst_28 (x1 : Int32) (x2 : Int32) (x3 : Int32) (x4 : Int32) (s0 : Int32) (h : Hp) : f_X7_worst_28 x1 x2 x3 x4 s0 h = bI (F_X7_holds [.ref 227, .int s0] h) (fun v2 h1 => if v2 = 0 then rtn (some (.int 0)) h1 else f_X7_worst_50 x1 x3 x4 ((6 * x1) + x2) 0 0 h1) (hnk []) :=
  (exL_it SKc SKn SKr CS (lkp T_X7_worst) [F_X7_isRule, F_X7_isDay, F_X7_holds, F_X7_loadOf] [] [] [28, 50, 110] 12 28 [.ref 227, .int x1, .int x2, .int x3, .int x4, .retAddr 0, .retAddr 0, .retAddr 0, .retAddr 0] [.int s0, .ref 227] h).trans rfl
set_option maxRecDepth 100000 in
set_option maxHeartbeats 4000000 in
theorem e_X7_worst_50 (x1 : Int32) (x3 : Int32) (x4 : Int32) (x5 : Int32) (x6 : Int32) (x7 : Int32) (h : Hp) : f_X7_worst_50 x1 x3 x4 x5 x6 x7 h = gd (inb x5 24) (if 72 < (x7 + (rd h 230 x5.toNatClampNeg)) then rtn (some (.int x6)) h else gd (inb x5 24) (gd (inb x5 24) (bI (F_X7_loadOf [.ref 227, .int x1, .int (rd h 229 x5.toNatClampNeg), .int x3, .int x4, .int x7, .int ((x7 + (rd h 230 x5.toNatClampNeg)) - 1)] h) (fun v2 h1 => if x6 < v2 then f_X7_worst_110 x1 x3 x4 x5 x7 v2 h1 else f_X7_worst_110 x1 x3 x4 x5 x7 x6 h1) (hnk [])))) :=
  (exL_it SKc SKn SKr CS (lkp T_X7_worst) [F_X7_isRule, F_X7_isDay, F_X7_holds, F_X7_loadOf] [] [] [28, 50, 110] 32 50 [.ref 227, .int x1, .retAddr 0, .int x3, .int x4, .int x5, .int x6, .int x7, .retAddr 0] [] h).trans rfl
set_option maxRecDepth 100000 in
set_option maxHeartbeats 4000000 in
theorem e_X7_worst_110 (x1 : Int32) (x3 : Int32) (x4 : Int32) (x5 : Int32) (x7 : Int32) (s0 : Int32) (h : Hp) : f_X7_worst_110 x1 x3 x4 x5 x7 s0 h = f_X7_worst_50 x1 x3 x4 x5 s0 (x7 + 1) h :=
  (exL_it SKc SKn SKr CS (lkp T_X7_worst) [F_X7_isRule, F_X7_isDay, F_X7_holds, F_X7_loadOf] [] [] [28, 50, 110] 3 110 [.ref 227, .int x1, .retAddr 0, .int x3, .int x4, .int x5, .retAddr 0, .int x7, .retAddr 0] [.int s0] h).trans rfl

def T_X7_noise : List (Nat × Ent) := [(0, ([], .aload_n 0, 1, 0, 0, 0, 0)),
  (1, ([], .iload_n 1, 1, 1, 0, 0, 0)),
  (2, ([], .invokestatic 160, 3, 0, 5, 99, 0)),
  (5, ([], .ifCond .eq 7, 3, 12, 0, 0, 0)),
  (8, ([], .iconst 0, 1, 0, 0, 0, 0)),
  (9, ([], .goto 4, 3, 13, 0, 0, 0)),
  (12, ([], .iconst 1, 1, 0, 0, 0, 1)),
  (13, ([false, false], .invokevirtual 170, 3, 1, 9, 1, 0)),
  (16, ([], .ifCond .eq 11, 3, 27, 0, 0, 0)),
  (19, ([], .aload_n 0, 1, 0, 0, 0, 0)),
  (20, ([], .iload_n 1, 1, 1, 0, 0, 0)),
  (21, ([], .invokevirtual 191, 3, 2, 9, 1, 0)),
  (24, ([], .goto 4, 3, 28, 0, 0, 0)),
  (27, ([], .iconst 0, 1, 0, 0, 0, 0)),
  (28, ([], .ireturn, 1, 0, 0, 0, 0))]
noncomputable def E_X7_noise : Kt := exL SKc SKn SKr CS (lkp T_X7_noise) [F_X7_isAirport, F_X7_holds, F_X7_noiseOf] [] []
noncomputable def F_X7_noise : Fn := fun as h => gd (chkA 2 as) (E_X7_noise 0 (pad 2 as) [] h)
noncomputable def f_X7_noise_13 (x1 : Int32) (s0 : Int32) (h : Hp) : Res := E_X7_noise 13 [.ref 227, .int x1] [.int s0, .ref 227] h
set_option maxRecDepth 100000 in
set_option maxHeartbeats 4000000 in
theorem e_X7_noise_0 (x1 : Int32) (h : Hp) : F_X7_noise [.ref 227, .int x1] h = bI (F_X7_isAirport [.int x1] h) (fun v2 h1 => if v2 = 0 then f_X7_noise_13 x1 1 h1 else f_X7_noise_13 x1 0 h1) (hnk []) :=
  (exL_it SKc SKn SKr CS (lkp T_X7_noise) [F_X7_isAirport, F_X7_holds, F_X7_noiseOf] [] [] [13] 6 0 [.ref 227, .int x1] [] h).trans rfl
set_option maxRecDepth 100000 in
set_option maxHeartbeats 4000000 in
theorem e_X7_noise_13 (x1 : Int32) (s0 : Int32) (h : Hp) : f_X7_noise_13 x1 s0 h = bI (F_X7_holds [.ref 227, .int s0] h) (fun v2 h1 => if v2 = 0 then rtn (some (.int 0)) h1 else bI (F_X7_noiseOf [.ref 227, .int x1] h1) (fun v4 h3 => rtn (some (.int v4)) h3) (hnk [])) (hnk []) :=
  (exL_it SKc SKn SKr CS (lkp T_X7_noise) [F_X7_isAirport, F_X7_holds, F_X7_noiseOf] [] [] [13] 7 13 [.ref 227, .int x1] [.int s0, .ref 227] h).trans rfl

def T_X7_requestOf : List (Nat × Ent) := [(0, ([], .aload_n 0, 1, 0, 0, 0, 0)),
  (1, ([], .aload_n 0, 1, 0, 0, 0, 0)),
  (2, ([], .iload_n 1, 1, 1, 0, 0, 0)),
  (3, ([], .invokevirtual 214, 3, 0, 9, 1, 0)),
  (6, ([], .ifCond .ne 7, 3, 13, 0, 0, 0)),
  (9, ([], .iconst 1, 1, 0, 0, 0, 1)),
  (10, ([], .goto 17, 3, 27, 0, 0, 0)),
  (13, ([], .iload_n 2, 1, 2, 0, 0, 0)),
  (14, ([], .iconst 0, 1, 0, 0, 0, 0)),
  (15, ([], .iconst 5, 1, 0, 0, 0, 5)),
  (16, ([], .invokestatic 156, 3, 1, 13, 99, 0)),
  (19, ([], .ifCond .eq 7, 3, 26, 0, 0, 0)),
  (22, ([], .iconst 0, 1, 0, 0, 0, 0)),
  (23, ([], .goto 4, 3, 27, 0, 0, 0)),
  (26, ([], .iconst 2, 1, 0, 0, 0, 2)),
  (27, ([false, false, false], .invokevirtual 170, 3, 2, 9, 1, 0)),
  (30, ([], .ifCond .ne 5, 3, 35, 0, 0, 0)),
  (33, ([], .iconst 0, 1, 0, 0, 0, 0)),
  (34, ([], .ireturn, 1, 0, 0, 0, 0)),
  (35, ([], .iload_n 2, 1, 2, 0, 0, 0)),
  (36, ([], .iconst 3, 1, 0, 0, 0, 3)),
  (37, ([], .if_icmp .ge 54, 3, 91, 0, 0, 0)),
  (40, ([], .iload_n 2, 1, 2, 0, 0, 0)),
  (41, ([], .ifCond .ne 12, 3, 53, 0, 0, 0)),
  (44, ([], .aload_n 0, 1, 0, 0, 0, 0)),
  (45, ([], .getfield 88, 3, 30, 3, 938, 0)),
  (48, ([], .iload_n 1, 1, 1, 0, 0, 0)),
  (49, ([], .iaload, 1, 0, 0, 0, 0)),
  (50, ([], .goto 40, 3, 90, 0, 0, 0)),
  (53, ([], .iload_n 2, 1, 2, 0, 0, 0)),
  (54, ([], .iconst 2, 1, 0, 0, 0, 2)),
  (55, ([], .if_icmp .ne 12, 3, 67, 0, 0, 0)),
  (58, ([], .aload_n 0, 1, 0, 0, 0, 0)),
  (59, ([], .getfield 94, 3, 32, 3, 940, 0)),
  (62, ([], .iload_n 1, 1, 1, 0, 0, 0)),
  (63, ([], .iaload, 1, 0, 0, 0, 0)),
  (64, ([], .goto 26, 3, 90, 0, 0, 0)),
  (67, ([], .aload_n 0, 1, 0, 0, 0, 0)),
  (68, ([], .getfield 88, 3, 30, 3, 938, 0)),
  (71, ([], .iload_n 1, 1, 1, 0, 0, 0)),
  (72, ([], .iaload, 1, 0, 0, 0, 0)),
  (73, ([], .ifCond .ne 11, 3, 84, 0, 0, 0)),
  (76, ([], .aload_n 0, 1, 0, 0, 0, 0)),
  (77, ([], .iload_n 1, 1, 1, 0, 0, 0)),
  (78, ([], .invokevirtual 232, 3, 3, 9, 1, 0)),
  (81, ([], .goto 9, 3, 90, 0, 0, 0)),
  (84, ([], .aload_n 0, 1, 0, 0, 0, 0)),
  (85, ([], .getfield 91, 3, 31, 3, 939, 0)),
  (88, ([], .iload_n 1, 1, 1, 0, 0, 0)),
  (89, ([], .iaload, 1, 0, 0, 0, 0)),
  (90, ([], .ireturn, 1, 0, 0, 0, 0)),
  (91, ([], .iload_n 2, 1, 2, 0, 0, 0)),
  (92, ([], .iconst 3, 1, 0, 0, 0, 3)),
  (93, ([], .if_icmp .ne 12, 3, 105, 0, 0, 0)),
  (96, ([], .aload_n 0, 1, 0, 0, 0, 0)),
  (97, ([], .getfield 97, 3, 33, 3, 941, 0)),
  (100, ([], .iload_n 1, 1, 1, 0, 0, 0)),
  (101, ([], .iaload, 1, 0, 0, 0, 0)),
  (102, ([], .goto 42, 3, 144, 0, 0, 0)),
  (105, ([], .iload_n 2, 1, 2, 0, 0, 0)),
  (106, ([], .iconst 4, 1, 0, 0, 0, 4)),
  (107, ([], .if_icmp .ne 12, 3, 119, 0, 0, 0)),
  (110, ([], .aload_n 0, 1, 0, 0, 0, 0)),
  (111, ([], .getfield 100, 3, 34, 3, 942, 0)),
  (114, ([], .iload_n 1, 1, 1, 0, 0, 0)),
  (115, ([], .iaload, 1, 0, 0, 0, 0)),
  (116, ([], .goto 28, 3, 144, 0, 0, 0)),
  (119, ([], .aload_n 0, 1, 0, 0, 0, 0)),
  (120, ([], .getfield 88, 3, 30, 3, 938, 0)),
  (123, ([], .iload_n 1, 1, 1, 0, 0, 0)),
  (124, ([], .iaload, 1, 0, 0, 0, 0)),
  (125, ([], .iconst 1, 1, 0, 0, 0, 1)),
  (126, ([], .if_icmp .ne 7, 3, 133, 0, 0, 0)),
  (129, ([], .iconst 0, 1, 0, 0, 0, 0)),
  (130, ([], .goto 14, 3, 144, 0, 0, 0)),
  (133, ([], .aload_n 0, 1, 0, 0, 0, 0)),
  (134, ([], .iload_n 1, 1, 1, 0, 0, 0)),
  (135, ([], .aload_n 0, 1, 0, 0, 0, 0)),
  (136, ([], .getfield 73, 3, 25, 3, 933, 0)),
  (139, ([], .iload_n 1, 1, 1, 0, 0, 0)),
  (140, ([], .iaload, 1, 0, 0, 0, 0)),
  (141, ([], .invokevirtual 238, 3, 4, 13, 1, 0)),
  (144, ([], .ireturn, 1, 0, 0, 0, 0))]
noncomputable def E_X7_requestOf : Kt := exL SKc SKn SKr CS (lkp T_X7_requestOf) [F_X7_isRequest, F_X7_isIn, F_X7_holds, F_X7_sortOf, F_X7_reason] [] []
noncomputable def F_X7_requestOf : Fn := fun as h => gd (chkA 3 as) (E_X7_requestOf 0 (pad 3 as) [] h)
noncomputable def f_X7_requestOf_27 (x1 : Int32) (x2 : Int32) (s0 : Int32) (h : Hp) : Res := E_X7_requestOf 27 [.ref 227, .int x1, .int x2] [.int s0, .ref 227] h
set_option maxRecDepth 100000 in
set_option maxHeartbeats 4000000 in
theorem e_X7_requestOf_0 (x1 : Int32) (x2 : Int32) (h : Hp) : F_X7_requestOf [.ref 227, .int x1, .int x2] h = bI (F_X7_isRequest [.ref 227, .int x1] h) (fun v2 h1 => if v2 = 0 then f_X7_requestOf_27 x1 x2 1 h1 else bI (F_X7_isIn [.int x2, .int 0, .int 5] h1) (fun v4 h3 => if v4 = 0 then f_X7_requestOf_27 x1 x2 2 h3 else f_X7_requestOf_27 x1 x2 0 h3) (hnk [])) (hnk []) :=
  (exL_it SKc SKn SKr CS (lkp T_X7_requestOf) [F_X7_isRequest, F_X7_isIn, F_X7_holds, F_X7_sortOf, F_X7_reason] [] [] [27] 12 0 [.ref 227, .int x1, .int x2] [] h).trans rfl
set_option maxRecDepth 100000 in
set_option maxHeartbeats 4000000 in
theorem e_X7_requestOf_27 (x1 : Int32) (x2 : Int32) (s0 : Int32) (h : Hp) : f_X7_requestOf_27 x1 x2 s0 h = bI (F_X7_holds [.ref 227, .int s0] h) (fun v2 h1 => if v2 = 0 then rtn (some (.int 0)) h1 else if x2 < 3 then if x2 = 0 then gd (inb x1 60) (rtn (some (.int (rd h1 254 x1.toNatClampNeg))) h1) else if x2 = 2 then gd (inb x1 60) (rtn (some (.int (rd h1 256 x1.toNatClampNeg))) h1) else gd (inb x1 60) (if (rd h1 254 x1.toNatClampNeg) = 0 then bI (F_X7_sortOf [.ref 227, .int x1] h1) (fun v4 h3 => rtn (some (.int v4)) h3) (hnk []) else gd (inb x1 60) (rtn (some (.int (rd h1 255 x1.toNatClampNeg))) h1)) else if x2 = 3 then gd (inb x1 60) (rtn (some (.int (rd h1 257 x1.toNatClampNeg))) h1) else if x2 = 4 then gd (inb x1 60) (rtn (some (.int (rd h1 258 x1.toNatClampNeg))) h1) else gd (inb x1 60) (if (rd h1 254 x1.toNatClampNeg) = 1 then rtn (some (.int 0)) h1 else gd (inb x1 60) (bI (F_X7_reason [.ref 227, .int x1, .int (rd h1 249 x1.toNatClampNeg)] h1) (fun v6 h5 => rtn (some (.int v6)) h5) (hnk [])))) (hnk []) :=
  (exL_it SKc SKn SKr CS (lkp T_X7_requestOf) [F_X7_isRequest, F_X7_isIn, F_X7_holds, F_X7_sortOf, F_X7_reason] [] [] [27] 25 27 [.ref 227, .int x1, .int x2] [.int s0, .ref 227] h).trans rfl

def T_X7_ahead : List (Nat × Ent) := [(0, ([], .aload_n 0, 1, 0, 0, 0, 0)),
  (1, ([], .aload_n 0, 1, 0, 0, 0, 0)),
  (2, ([], .iload_n 1, 1, 1, 0, 0, 0)),
  (3, ([], .invokevirtual 214, 3, 0, 9, 1, 0)),
  (6, ([], .ifCond .eq 7, 3, 13, 0, 0, 0)),
  (9, ([], .iconst 0, 1, 0, 0, 0, 0)),
  (10, ([], .goto 4, 3, 14, 0, 0, 0)),
  (13, ([], .iconst 1, 1, 0, 0, 0, 1)),
  (14, ([false, false, true, true], .invokevirtual 170, 3, 1, 9, 1, 0)),
  (17, ([], .ifCond .ne 5, 3, 22, 0, 0, 0)),
  (20, ([], .iconst 0, 1, 0, 0, 0, 0)),
  (21, ([], .ireturn, 1, 0, 0, 0, 0)),
  (22, ([], .iconst 0, 1, 0, 0, 0, 0)),
  (23, ([], .istore_n 2, 1, 2, 0, 0, 0)),
  (24, ([], .iconst 0, 1, 0, 0, 0, 0)),
  (25, ([], .istore_n 3, 1, 3, 0, 0, 0)),
  (26, ([false, false, false, false], .iload_n 3, 1, 3, 0, 0, 0)),
  (27, ([], .aload_n 0, 1, 0, 0, 0, 0)),
  (28, ([], .getfield 164, 3, 20, 2, 928, 0)),
  (31, ([], .if_icmp .ge 55, 3, 86, 0, 0, 0)),
  (34, ([], .iload_n 2, 1, 2, 0, 0, 0)),
  (35, ([], .aload_n 0, 1, 0, 0, 0, 0)),
  (36, ([], .iload_n 3, 1, 3, 0, 0, 0)),
  (37, ([], .invokevirtual 262, 3, 2, 9, 1, 0)),
  (40, ([], .ifCond .eq 37, 3, 77, 0, 0, 0)),
  (43, ([], .aload_n 0, 1, 0, 0, 0, 0)),
  (44, ([], .getfield 64, 3, 22, 3, 930, 0)),
  (47, ([], .iload_n 3, 1, 3, 0, 0, 0)),
  (48, ([], .iaload, 1, 0, 0, 0, 0)),
  (49, ([], .aload_n 0, 1, 0, 0, 0, 0)),
  (50, ([], .getfield 64, 3, 22, 3, 930, 0)),
  (53, ([], .iload_n 1, 1, 1, 0, 0, 0)),
  (54, ([], .iaload, 1, 0, 0, 0, 0)),
  (55, ([], .if_icmp .ne 22, 3, 77, 0, 0, 0)),
  (58, ([], .aload_n 0, 1, 0, 0, 0, 0)),
  (59, ([], .getfield 103, 3, 35, 3, 943, 0)),
  (62, ([], .iload_n 3, 1, 3, 0, 0, 0)),
  (63, ([], .iaload, 1, 0, 0, 0, 0)),
  (64, ([], .aload_n 0, 1, 0, 0, 0, 0)),
  (65, ([], .getfield 103, 3, 35, 3, 943, 0)),
  (68, ([], .iload_n 1, 1, 1, 0, 0, 0)),
  (69, ([], .iaload, 1, 0, 0, 0, 0)),
  (70, ([], .if_icmp .ge 7, 3, 77, 0, 0, 0)),
  (73, ([], .iconst 1, 1, 0, 0, 0, 1)),
  (74, ([], .goto 4, 3, 78, 0, 0, 0)),
  (77, ([false, false, true, false], .iconst 0, 1, 0, 0, 0, 0)),
  (78, ([false, false, true, false], .iadd, 1, 0, 0, 0, 0)),
  (79, ([], .istore_n 2, 1, 2, 0, 0, 0)),
  (80, ([], .iinc 3 1, 3, 3, 0, 0, 1)),
  (83, ([], .goto (-57), 3, 26, 0, 0, 0)),
  (86, ([], .aload_n 0, 1, 0, 0, 0, 0)),
  (87, ([], .iload_n 1, 1, 1, 0, 0, 0)),
  (88, ([], .invokevirtual 262, 3, 2, 9, 1, 0)),
  (91, ([], .ifCond .eq 7, 3, 98, 0, 0, 0)),
  (94, ([], .iload_n 2, 1, 2, 0, 0, 0)),
  (95, ([], .goto 4, 3, 99, 0, 0, 0)),
  (98, ([], .iconst (-1), 1, 0, 0, 0, (-1))),
  (99, ([], .ireturn, 1, 0, 0, 0, 0))]
noncomputable def E_X7_ahead : Kt := exL SKc SKn SKr CS (lkp T_X7_ahead) [F_X7_isRequest, F_X7_holds, F_X7_isWaiting] [] []
noncomputable def F_X7_ahead : Fn := fun as h => gd (chkA 2 as) (E_X7_ahead 0 (pad 4 as) [] h)
noncomputable def f_X7_ahead_14 (x1 : Int32) (s0 : Int32) (h : Hp) : Res := E_X7_ahead 14 [.ref 227, .int x1, .retAddr 0, .retAddr 0] [.int s0, .ref 227] h
noncomputable def f_X7_ahead_26 (x1 : Int32) (x2 : Int32) (x3 : Int32) (h : Hp) : Res := E_X7_ahead 26 [.ref 227, .int x1, .int x2, .int x3] [] h
noncomputable def f_X7_ahead_77 (x1 : Int32) (x3 : Int32) (s0 : Int32) (h : Hp) : Res := E_X7_ahead 77 [.ref 227, .int x1, .retAddr 0, .int x3] [.int s0] h
noncomputable def f_X7_ahead_78 (x1 : Int32) (x3 : Int32) (s0 : Int32) (s1 : Int32) (h : Hp) : Res := E_X7_ahead 78 [.ref 227, .int x1, .retAddr 0, .int x3] [.int s0, .int s1] h
set_option maxRecDepth 100000 in
set_option maxHeartbeats 4000000 in
theorem e_X7_ahead_0 (x1 : Int32) (h : Hp) : F_X7_ahead [.ref 227, .int x1] h = bI (F_X7_isRequest [.ref 227, .int x1] h) (fun v2 h1 => if v2 = 0 then f_X7_ahead_14 x1 1 h1 else f_X7_ahead_14 x1 0 h1) (hnk []) :=
  (exL_it SKc SKn SKr CS (lkp T_X7_ahead) [F_X7_isRequest, F_X7_holds, F_X7_isWaiting] [] [] [14, 26, 77, 78] 7 0 [.ref 227, .int x1, .retAddr 0, .retAddr 0] [] h).trans rfl
set_option maxRecDepth 100000 in
set_option maxHeartbeats 4000000 in
theorem e_X7_ahead_14 (x1 : Int32) (s0 : Int32) (h : Hp) : f_X7_ahead_14 x1 s0 h = bI (F_X7_holds [.ref 227, .int s0] h) (fun v2 h1 => if v2 = 0 then rtn (some (.int 0)) h1 else f_X7_ahead_26 x1 0 0 h1) (hnk []) :=
  (exL_it SKc SKn SKr CS (lkp T_X7_ahead) [F_X7_isRequest, F_X7_holds, F_X7_isWaiting] [] [] [14, 26, 77, 78] 6 14 [.ref 227, .int x1, .retAddr 0, .retAddr 0] [.int s0, .ref 227] h).trans rfl
set_option maxRecDepth 100000 in
set_option maxHeartbeats 4000000 in
theorem e_X7_ahead_26 (x1 : Int32) (x2 : Int32) (x3 : Int32) (h : Hp) : f_X7_ahead_26 x1 x2 x3 h = if x3 < (rd h 227 20) then bI (F_X7_isWaiting [.ref 227, .int x3] h) (fun v2 h1 => if v2 = 0 then f_X7_ahead_77 x1 x3 x2 h1 else gd (inb x3 60) (gd (inb x1 60) (if (rd h1 246 x3.toNatClampNeg) = (rd h1 246 x1.toNatClampNeg) then gd (inb x3 60) (gd (inb x1 60) (if (rd h1 259 x3.toNatClampNeg) < (rd h1 259 x1.toNatClampNeg) then f_X7_ahead_78 x1 x3 1 x2 h1 else f_X7_ahead_77 x1 x3 x2 h1)) else f_X7_ahead_77 x1 x3 x2 h1))) (hnk []) else bI (F_X7_isWaiting [.ref 227, .int x1] h) (fun v4 h3 => if v4 = 0 then rtn (some (.int (-1))) h3 else rtn (some (.int x2)) h3) (hnk []) :=
  (exL_it SKc SKn SKr CS (lkp T_X7_ahead) [F_X7_isRequest, F_X7_holds, F_X7_isWaiting] [] [] [14, 26, 77, 78] 29 26 [.ref 227, .int x1, .int x2, .int x3] [] h).trans rfl
set_option maxRecDepth 100000 in
set_option maxHeartbeats 4000000 in
theorem e_X7_ahead_77 (x1 : Int32) (x3 : Int32) (s0 : Int32) (h : Hp) : f_X7_ahead_77 x1 x3 s0 h = f_X7_ahead_78 x1 x3 0 s0 h :=
  (exL_it SKc SKn SKr CS (lkp T_X7_ahead) [F_X7_isRequest, F_X7_holds, F_X7_isWaiting] [] [] [14, 26, 77, 78] 1 77 [.ref 227, .int x1, .retAddr 0, .int x3] [.int s0] h).trans rfl
set_option maxRecDepth 100000 in
set_option maxHeartbeats 4000000 in
theorem e_X7_ahead_78 (x1 : Int32) (x3 : Int32) (s0 : Int32) (s1 : Int32) (h : Hp) : f_X7_ahead_78 x1 x3 s0 s1 h = f_X7_ahead_26 x1 (s1 + s0) (x3 + 1) h :=
  (exL_it SKc SKn SKr CS (lkp T_X7_ahead) [F_X7_isRequest, F_X7_holds, F_X7_isWaiting] [] [] [14, 26, 77, 78] 4 78 [.ref 227, .int x1, .retAddr 0, .int x3] [.int s0, .int s1] h).trans rfl

def T_X7_seriesOf : List (Nat × Ent) := [(0, ([], .aload_n 0, 1, 0, 0, 0, 0)),
  (1, ([], .aload_n 0, 1, 0, 0, 0, 0)),
  (2, ([], .iload_n 1, 1, 1, 0, 0, 0)),
  (3, ([], .invokevirtual 265, 3, 0, 9, 1, 0)),
  (6, ([], .ifCond .ne 7, 3, 13, 0, 0, 0)),
  (9, ([], .iconst 1, 1, 0, 0, 0, 1)),
  (10, ([], .goto 18, 3, 28, 0, 0, 0)),
  (13, ([], .iload_n 2, 1, 2, 0, 0, 0)),
  (14, ([], .iconst 0, 1, 0, 0, 0, 0)),
  (15, ([], .bipush 11, 2, 0, 0, 0, 11)),
  (17, ([], .invokestatic 156, 3, 1, 13, 99, 0)),
  (20, ([], .ifCond .eq 7, 3, 27, 0, 0, 0)),
  (23, ([], .iconst 0, 1, 0, 0, 0, 0)),
  (24, ([], .goto 4, 3, 28, 0, 0, 0)),
  (27, ([], .iconst 2, 1, 0, 0, 0, 2)),
  (28, ([false, false, false], .invokevirtual 170, 3, 2, 9, 1, 0)),
  (31, ([], .ifCond .ne 5, 3, 36, 0, 0, 0)),
  (34, ([], .iconst 0, 1, 0, 0, 0, 0)),
  (35, ([], .ireturn, 1, 0, 0, 0, 0)),
  (36, ([], .iload_n 2, 1, 2, 0, 0, 0)),
  (37, ([], .iconst 4, 1, 0, 0, 0, 4)),
  (38, ([], .if_icmp .ge 51, 3, 89, 0, 0, 0)),
  (41, ([], .iload_n 2, 1, 2, 0, 0, 0)),
  (42, ([], .ifCond .ne 12, 3, 54, 0, 0, 0)),
  (45, ([], .aload_n 0, 1, 0, 0, 0, 0)),
  (46, ([], .getfield 106, 3, 38, 3, 946, 0)),
  (49, ([], .iload_n 1, 1, 1, 0, 0, 0)),
  (50, ([], .iaload, 1, 0, 0, 0, 0)),
  (51, ([], .goto 37, 3, 88, 0, 0, 0)),
  (54, ([], .iload_n 2, 1, 2, 0, 0, 0)),
  (55, ([], .iconst 1, 1, 0, 0, 0, 1)),
  (56, ([], .if_icmp .ne 12, 3, 68, 0, 0, 0)),
  (59, ([], .aload_n 0, 1, 0, 0, 0, 0)),
  (60, ([], .getfield 109, 3, 39, 3, 947, 0)),
  (63, ([], .iload_n 1, 1, 1, 0, 0, 0)),
  (64, ([], .iaload, 1, 0, 0, 0, 0)),
  (65, ([], .goto 23, 3, 88, 0, 0, 0)),
  (68, ([], .iload_n 2, 1, 2, 0, 0, 0)),
  (69, ([], .iconst 2, 1, 0, 0, 0, 2)),
  (70, ([], .if_icmp .ne 12, 3, 82, 0, 0, 0)),
  (73, ([], .aload_n 0, 1, 0, 0, 0, 0)),
  (74, ([], .getfield 112, 3, 40, 3, 948, 0)),
  (77, ([], .iload_n 1, 1, 1, 0, 0, 0)),
  (78, ([], .iaload, 1, 0, 0, 0, 0)),
  (79, ([], .goto 9, 3, 88, 0, 0, 0)),
  (82, ([], .aload_n 0, 1, 0, 0, 0, 0)),
  (83, ([], .getfield 115, 3, 41, 3, 949, 0)),
  (86, ([], .iload_n 1, 1, 1, 0, 0, 0)),
  (87, ([], .iaload, 1, 0, 0, 0, 0)),
  (88, ([], .ireturn, 1, 0, 0, 0, 0)),
  (89, ([], .iload_n 2, 1, 2, 0, 0, 0)),
  (90, ([], .bipush 8, 2, 0, 0, 0, 8)),
  (92, ([], .if_icmp .ge 53, 3, 145, 0, 0, 0)),
  (95, ([], .iload_n 2, 1, 2, 0, 0, 0)),
  (96, ([], .iconst 4, 1, 0, 0, 0, 4)),
  (97, ([], .if_icmp .ne 12, 3, 109, 0, 0, 0)),
  (100, ([], .aload_n 0, 1, 0, 0, 0, 0)),
  (101, ([], .getfield 118, 3, 42, 3, 950, 0)),
  (104, ([], .iload_n 1, 1, 1, 0, 0, 0)),
  (105, ([], .iaload, 1, 0, 0, 0, 0)),
  (106, ([], .goto 38, 3, 144, 0, 0, 0)),
  (109, ([], .iload_n 2, 1, 2, 0, 0, 0)),
  (110, ([], .iconst 5, 1, 0, 0, 0, 5)),
  (111, ([], .if_icmp .ne 12, 3, 123, 0, 0, 0)),
  (114, ([], .aload_n 0, 1, 0, 0, 0, 0)),
  (115, ([], .getfield 121, 3, 43, 3, 951, 0)),
  (118, ([], .iload_n 1, 1, 1, 0, 0, 0)),
  (119, ([], .iaload, 1, 0, 0, 0, 0)),
  (120, ([], .goto 24, 3, 144, 0, 0, 0)),
  (123, ([], .iload_n 2, 1, 2, 0, 0, 0)),
  (124, ([], .bipush 6, 2, 0, 0, 0, 6)),
  (126, ([], .if_icmp .ne 12, 3, 138, 0, 0, 0)),
  (129, ([], .aload_n 0, 1, 0, 0, 0, 0)),
  (130, ([], .getfield 124, 3, 44, 3, 952, 0)),
  (133, ([], .iload_n 1, 1, 1, 0, 0, 0)),
  (134, ([], .iaload, 1, 0, 0, 0, 0)),
  (135, ([], .goto 9, 3, 144, 0, 0, 0)),
  (138, ([], .aload_n 0, 1, 0, 0, 0, 0)),
  (139, ([], .getfield 127, 3, 45, 3, 953, 0)),
  (142, ([], .iload_n 1, 1, 1, 0, 0, 0)),
  (143, ([], .iaload, 1, 0, 0, 0, 0)),
  (144, ([], .ireturn, 1, 0, 0, 0, 0)),
  (145, ([], .iload_n 2, 1, 2, 0, 0, 0)),
  (146, ([], .bipush 8, 2, 0, 0, 0, 8)),
  (148, ([], .if_icmp .ne 12, 3, 160, 0, 0, 0)),
  (151, ([], .aload_n 0, 1, 0, 0, 0, 0)),
  (152, ([], .getfield 133, 3, 47, 3, 955, 0)),
  (155, ([], .iload_n 1, 1, 1, 0, 0, 0)),
  (156, ([], .iaload, 1, 0, 0, 0, 0)),
  (157, ([], .goto 46, 3, 203, 0, 0, 0)),
  (160, ([], .iload_n 2, 1, 2, 0, 0, 0)),
  (161, ([], .bipush 9, 2, 0, 0, 0, 9)),
  (163, ([], .if_icmp .ne 11, 3, 174, 0, 0, 0)),
  (166, ([], .aload_n 0, 1, 0, 0, 0, 0)),
  (167, ([], .iload_n 1, 1, 1, 0, 0, 0)),
  (168, ([], .invokevirtual 271, 3, 3, 9, 1, 0)),
  (171, ([], .goto 32, 3, 203, 0, 0, 0)),
  (174, ([], .iload_n 2, 1, 2, 0, 0, 0)),
  (175, ([], .bipush 10, 2, 0, 0, 0, 10)),
  (177, ([], .if_icmp .ne 12, 3, 189, 0, 0, 0)),
  (180, ([], .aload_n 0, 1, 0, 0, 0, 0)),
  (181, ([], .getfield 139, 3, 49, 3, 957, 0)),
  (184, ([], .iload_n 1, 1, 1, 0, 0, 0)),
  (185, ([], .iaload, 1, 0, 0, 0, 0)),
  (186, ([], .goto 17, 3, 203, 0, 0, 0)),
  (189, ([], .aload_n 0, 1, 0, 0, 0, 0)),
  (190, ([], .getfield 142, 3, 50, 3, 958, 0)),
  (193, ([], .iload_n 1, 1, 1, 0, 0, 0)),
  (194, ([], .baload, 1, 0, 0, 0, 0)),
  (195, ([], .ifCond .eq 7, 3, 202, 0, 0, 0)),
  (198, ([], .iconst 1, 1, 0, 0, 0, 1)),
  (199, ([], .goto 4, 3, 203, 0, 0, 0)),
  (202, ([], .iconst 0, 1, 0, 0, 0, 0)),
  (203, ([], .ireturn, 1, 0, 0, 0, 0))]
noncomputable def E_X7_seriesOf : Kt := exL SKc SKn SKr CS (lkp T_X7_seriesOf) [F_X7_isSeries, F_X7_isIn, F_X7_holds, F_X7_usedOf] [] []
noncomputable def F_X7_seriesOf : Fn := fun as h => gd (chkA 3 as) (E_X7_seriesOf 0 (pad 3 as) [] h)
noncomputable def f_X7_seriesOf_28 (x1 : Int32) (x2 : Int32) (s0 : Int32) (h : Hp) : Res := E_X7_seriesOf 28 [.ref 227, .int x1, .int x2] [.int s0, .ref 227] h
set_option maxRecDepth 100000 in
set_option maxHeartbeats 4000000 in
theorem e_X7_seriesOf_0 (x1 : Int32) (x2 : Int32) (h : Hp) : F_X7_seriesOf [.ref 227, .int x1, .int x2] h = bI (F_X7_isSeries [.ref 227, .int x1] h) (fun v2 h1 => if v2 = 0 then f_X7_seriesOf_28 x1 x2 1 h1 else bI (F_X7_isIn [.int x2, .int 0, .int 11] h1) (fun v4 h3 => if v4 = 0 then f_X7_seriesOf_28 x1 x2 2 h3 else f_X7_seriesOf_28 x1 x2 0 h3) (hnk [])) (hnk []) :=
  (exL_it SKc SKn SKr CS (lkp T_X7_seriesOf) [F_X7_isSeries, F_X7_isIn, F_X7_holds, F_X7_usedOf] [] [] [28] 12 0 [.ref 227, .int x1, .int x2] [] h).trans rfl
set_option maxRecDepth 100000 in
set_option maxHeartbeats 4000000 in
theorem e_X7_seriesOf_28 (x1 : Int32) (x2 : Int32) (s0 : Int32) (h : Hp) : f_X7_seriesOf_28 x1 x2 s0 h = bI (F_X7_holds [.ref 227, .int s0] h) (fun v2 h1 => if v2 = 0 then rtn (some (.int 0)) h1 else if x2 < 4 then if x2 = 0 then gd (inb x1 60) (rtn (some (.int (rd h1 260 x1.toNatClampNeg))) h1) else if x2 = 1 then gd (inb x1 60) (rtn (some (.int (rd h1 261 x1.toNatClampNeg))) h1) else if x2 = 2 then gd (inb x1 60) (rtn (some (.int (rd h1 262 x1.toNatClampNeg))) h1) else gd (inb x1 60) (rtn (some (.int (rd h1 263 x1.toNatClampNeg))) h1) else if x2 < 8 then if x2 = 4 then gd (inb x1 60) (rtn (some (.int (rd h1 264 x1.toNatClampNeg))) h1) else if x2 = 5 then gd (inb x1 60) (rtn (some (.int (rd h1 265 x1.toNatClampNeg))) h1) else if x2 = 6 then gd (inb x1 60) (rtn (some (.int (rd h1 266 x1.toNatClampNeg))) h1) else gd (inb x1 60) (rtn (some (.int (rd h1 267 x1.toNatClampNeg))) h1) else if x2 = 8 then gd (inb x1 60) (rtn (some (.int (rd h1 269 x1.toNatClampNeg))) h1) else if x2 = 9 then bI (F_X7_usedOf [.ref 227, .int x1] h1) (fun v4 h3 => rtn (some (.int v4)) h3) (hnk []) else if x2 = 10 then gd (inb x1 60) (rtn (some (.int (rd h1 271 x1.toNatClampNeg))) h1) else gd (inb x1 60) (if (rd h1 272 x1.toNatClampNeg) = 0 then rtn (some (.int 0)) h1 else rtn (some (.int 1)) h1)) (hnk []) :=
  (exL_it SKc SKn SKr CS (lkp T_X7_seriesOf) [F_X7_isSeries, F_X7_isIn, F_X7_holds, F_X7_usedOf] [] [] [28] 25 28 [.ref 227, .int x1, .int x2] [.int s0, .ref 227] h).trans rfl

def T_X7_earns : List (Nat × Ent) := [(0, ([], .aload_n 0, 1, 0, 0, 0, 0)),
  (1, ([], .aload_n 0, 1, 0, 0, 0, 0)),
  (2, ([], .iload_n 1, 1, 1, 0, 0, 0)),
  (3, ([], .invokevirtual 265, 3, 0, 9, 1, 0)),
  (6, ([], .ifCond .eq 7, 3, 13, 0, 0, 0)),
  (9, ([], .iconst 0, 1, 0, 0, 0, 0)),
  (10, ([], .goto 4, 3, 14, 0, 0, 0)),
  (13, ([], .iconst 1, 1, 0, 0, 0, 1)),
  (14, ([false, false], .invokevirtual 170, 3, 1, 9, 1, 0)),
  (17, ([], .ifCond .eq 15, 3, 32, 0, 0, 0)),
  (20, ([], .aload_n 0, 1, 0, 0, 0, 0)),
  (21, ([], .iload_n 1, 1, 1, 0, 0, 0)),
  (22, ([], .invokevirtual 277, 3, 2, 9, 1, 0)),
  (25, ([], .ifCond .eq 7, 3, 32, 0, 0, 0)),
  (28, ([], .iconst 1, 1, 0, 0, 0, 1)),
  (29, ([], .goto 4, 3, 33, 0, 0, 0)),
  (32, ([], .iconst 0, 1, 0, 0, 0, 0)),
  (33, ([], .ireturn, 1, 0, 1, 0, 0))]
noncomputable def E_X7_earns : Kt := exL SKc SKn SKr CS (lkp T_X7_earns) [F_X7_isSeries, F_X7_holds, F_X7_isEarned] [] []
noncomputable def F_X7_earns : Fn := fun as h => gd (chkA 2 as) (E_X7_earns 0 (pad 2 as) [] h)
noncomputable def f_X7_earns_14 (x1 : Int32) (s0 : Int32) (h : Hp) : Res := E_X7_earns 14 [.ref 227, .int x1] [.int s0, .ref 227] h
set_option maxRecDepth 100000 in
set_option maxHeartbeats 4000000 in
theorem e_X7_earns_0 (x1 : Int32) (h : Hp) : F_X7_earns [.ref 227, .int x1] h = bI (F_X7_isSeries [.ref 227, .int x1] h) (fun v2 h1 => if v2 = 0 then f_X7_earns_14 x1 1 h1 else f_X7_earns_14 x1 0 h1) (hnk []) :=
  (exL_it SKc SKn SKr CS (lkp T_X7_earns) [F_X7_isSeries, F_X7_holds, F_X7_isEarned] [] [] [14] 7 0 [.ref 227, .int x1] [] h).trans rfl
set_option maxRecDepth 100000 in
set_option maxHeartbeats 4000000 in
theorem e_X7_earns_14 (x1 : Int32) (s0 : Int32) (h : Hp) : f_X7_earns_14 x1 s0 h = bI (F_X7_holds [.ref 227, .int s0] h) (fun v2 h1 => if v2 = 0 then rtn (some (.int 0)) h1 else bI (F_X7_isEarned [.ref 227, .int x1] h1) (fun v4 h3 => if v4 = 0 then rtn (some (.int 0)) h3 else rtn (some (.int 1)) h3) (hnk [])) (hnk []) :=
  (exL_it SKc SKn SKr CS (lkp T_X7_earns) [F_X7_isSeries, F_X7_holds, F_X7_isEarned] [] [] [14] 9 14 [.ref 227, .int x1] [.int s0, .ref 227] h).trans rfl

def T_X7_rights : List (Nat × Ent) := [(0, ([], .aload_n 0, 1, 0, 0, 0, 0)),
  (1, ([], .iconst 0, 1, 0, 0, 0, 0)),
  (2, ([], .putfield 152, 3, 0, 2, 908, 0)),
  (5, ([], .aload_n 0, 1, 0, 0, 0, 0)),
  (6, ([], .getfield 201, 3, 10, 2, 918, 0)),
  (9, ([], .ireturn, 1, 0, 0, 0, 0))]
noncomputable def E_X7_rights : Kt := exL SKc SKn SKr CS (lkp T_X7_rights) [] [] []
noncomputable def F_X7_rights : Fn := fun as h => gd (chkA 1 as) (E_X7_rights 0 (pad 1 as) [] h)
set_option maxRecDepth 100000 in
set_option maxHeartbeats 4000000 in
theorem e_X7_rights_0 (h : Hp) : F_X7_rights [.ref 227] h = rtn (some (.int (rd h 227 10))) (wr h 227 0 0) :=
  (exL_it SKc SKn SKr CS (lkp T_X7_rights) [] [] [] [] 6 0 [.ref 227] [] h).trans rfl

def T_X7_rightOf : List (Nat × Ent) := [(0, ([], .aload_n 0, 1, 0, 0, 0, 0)),
  (1, ([], .iload_n 1, 1, 1, 0, 0, 0)),
  (2, ([], .iconst 0, 1, 0, 0, 0, 0)),
  (3, ([], .aload_n 0, 1, 0, 0, 0, 0)),
  (4, ([], .getfield 201, 3, 10, 2, 918, 0)),
  (7, ([], .iconst 1, 1, 0, 0, 0, 1)),
  (8, ([], .isub, 1, 0, 0, 0, 0)),
  (9, ([], .invokestatic 156, 3, 0, 13, 99, 0)),
  (12, ([], .ifCond .ne 7, 3, 19, 0, 0, 0)),
  (15, ([], .iconst 1, 1, 0, 0, 0, 1)),
  (16, ([], .goto 18, 3, 34, 0, 0, 0)),
  (19, ([], .iload_n 2, 1, 2, 0, 0, 0)),
  (20, ([], .iconst 0, 1, 0, 0, 0, 0)),
  (21, ([], .bipush 8, 2, 0, 0, 0, 8)),
  (23, ([], .invokestatic 156, 3, 0, 13, 99, 0)),
  (26, ([], .ifCond .eq 7, 3, 33, 0, 0, 0)),
  (29, ([], .iconst 0, 1, 0, 0, 0, 0)),
  (30, ([], .goto 4, 3, 34, 0, 0, 0)),
  (33, ([], .iconst 2, 1, 0, 0, 0, 2)),
  (34, ([false, false, false], .invokevirtual 170, 3, 1, 9, 1, 0)),
  (37, ([], .ifCond .ne 5, 3, 42, 0, 0, 0)),
  (40, ([], .iconst 0, 1, 0, 0, 0, 0)),
  (41, ([], .ireturn, 1, 0, 0, 0, 0)),
  (42, ([], .iload_n 2, 1, 2, 0, 0, 0)),
  (43, ([], .iconst 4, 1, 0, 0, 0, 4)),
  (44, ([], .if_icmp .ge 51, 3, 95, 0, 0, 0)),
  (47, ([], .iload_n 2, 1, 2, 0, 0, 0)),
  (48, ([], .ifCond .ne 12, 3, 60, 0, 0, 0)),
  (51, ([], .aload_n 0, 1, 0, 0, 0, 0)),
  (52, ([], .getfield 34, 3, 11, 3, 919, 0)),
  (55, ([], .iload_n 1, 1, 1, 0, 0, 0)),
  (56, ([], .iaload, 1, 0, 0, 0, 0)),
  (57, ([], .goto 37, 3, 94, 0, 0, 0)),
  (60, ([], .iload_n 2, 1, 2, 0, 0, 0)),
  (61, ([], .iconst 1, 1, 0, 0, 0, 1)),
  (62, ([], .if_icmp .ne 12, 3, 74, 0, 0, 0)),
  (65, ([], .aload_n 0, 1, 0, 0, 0, 0)),
  (66, ([], .getfield 37, 3, 12, 3, 920, 0)),
  (69, ([], .iload_n 1, 1, 1, 0, 0, 0)),
  (70, ([], .iaload, 1, 0, 0, 0, 0)),
  (71, ([], .goto 23, 3, 94, 0, 0, 0)),
  (74, ([], .iload_n 2, 1, 2, 0, 0, 0)),
  (75, ([], .iconst 2, 1, 0, 0, 0, 2)),
  (76, ([], .if_icmp .ne 12, 3, 88, 0, 0, 0)),
  (79, ([], .aload_n 0, 1, 0, 0, 0, 0)),
  (80, ([], .getfield 40, 3, 13, 3, 921, 0)),
  (83, ([], .iload_n 1, 1, 1, 0, 0, 0)),
  (84, ([], .iaload, 1, 0, 0, 0, 0)),
  (85, ([], .goto 9, 3, 94, 0, 0, 0)),
  (88, ([], .aload_n 0, 1, 0, 0, 0, 0)),
  (89, ([], .getfield 43, 3, 14, 3, 922, 0)),
  (92, ([], .iload_n 1, 1, 1, 0, 0, 0)),
  (93, ([], .iaload, 1, 0, 0, 0, 0)),
  (94, ([], .ireturn, 1, 0, 0, 0, 0)),
  (95, ([], .iload_n 2, 1, 2, 0, 0, 0)),
  (96, ([], .iconst 4, 1, 0, 0, 0, 4)),
  (97, ([], .if_icmp .ne 12, 3, 109, 0, 0, 0)),
  (100, ([], .aload_n 0, 1, 0, 0, 0, 0)),
  (101, ([], .getfield 46, 3, 15, 3, 923, 0)),
  (104, ([], .iload_n 1, 1, 1, 0, 0, 0)),
  (105, ([], .iaload, 1, 0, 0, 0, 0)),
  (106, ([], .goto 53, 3, 159, 0, 0, 0)),
  (109, ([], .iload_n 2, 1, 2, 0, 0, 0)),
  (110, ([], .iconst 5, 1, 0, 0, 0, 5)),
  (111, ([], .if_icmp .ne 12, 3, 123, 0, 0, 0)),
  (114, ([], .aload_n 0, 1, 0, 0, 0, 0)),
  (115, ([], .getfield 49, 3, 16, 3, 924, 0)),
  (118, ([], .iload_n 1, 1, 1, 0, 0, 0)),
  (119, ([], .iaload, 1, 0, 0, 0, 0)),
  (120, ([], .goto 39, 3, 159, 0, 0, 0)),
  (123, ([], .iload_n 2, 1, 2, 0, 0, 0)),
  (124, ([], .bipush 6, 2, 0, 0, 0, 6)),
  (126, ([], .if_icmp .ne 12, 3, 138, 0, 0, 0)),
  (129, ([], .aload_n 0, 1, 0, 0, 0, 0)),
  (130, ([], .getfield 52, 3, 17, 3, 925, 0)),
  (133, ([], .iload_n 1, 1, 1, 0, 0, 0)),
  (134, ([], .iaload, 1, 0, 0, 0, 0)),
  (135, ([], .goto 24, 3, 159, 0, 0, 0)),
  (138, ([], .iload_n 2, 1, 2, 0, 0, 0)),
  (139, ([], .bipush 7, 2, 0, 0, 0, 7)),
  (141, ([], .if_icmp .ne 12, 3, 153, 0, 0, 0)),
  (144, ([], .aload_n 0, 1, 0, 0, 0, 0)),
  (145, ([], .getfield 55, 3, 18, 3, 926, 0)),
  (148, ([], .iload_n 1, 1, 1, 0, 0, 0)),
  (149, ([], .iaload, 1, 0, 0, 0, 0)),
  (150, ([], .goto 9, 3, 159, 0, 0, 0)),
  (153, ([], .aload_n 0, 1, 0, 0, 0, 0)),
  (154, ([], .getfield 58, 3, 19, 3, 927, 0)),
  (157, ([], .iload_n 1, 1, 1, 0, 0, 0)),
  (158, ([], .iaload, 1, 0, 0, 0, 0)),
  (159, ([], .ireturn, 1, 0, 0, 0, 0))]
noncomputable def E_X7_rightOf : Kt := exL SKc SKn SKr CS (lkp T_X7_rightOf) [F_X7_isIn, F_X7_holds] [] []
noncomputable def F_X7_rightOf : Fn := fun as h => gd (chkA 3 as) (E_X7_rightOf 0 (pad 3 as) [] h)
noncomputable def f_X7_rightOf_34 (x1 : Int32) (x2 : Int32) (s0 : Int32) (h : Hp) : Res := E_X7_rightOf 34 [.ref 227, .int x1, .int x2] [.int s0, .ref 227] h
set_option maxRecDepth 100000 in
set_option maxHeartbeats 4000000 in
theorem e_X7_rightOf_0 (x1 : Int32) (x2 : Int32) (h : Hp) : F_X7_rightOf [.ref 227, .int x1, .int x2] h = bI (F_X7_isIn [.int x1, .int 0, .int ((rd h 227 10) - 1)] h) (fun v2 h1 => if v2 = 0 then f_X7_rightOf_34 x1 x2 1 h1 else bI (F_X7_isIn [.int x2, .int 0, .int 8] h1) (fun v4 h3 => if v4 = 0 then f_X7_rightOf_34 x1 x2 2 h3 else f_X7_rightOf_34 x1 x2 0 h3) (hnk [])) (hnk []) :=
  (exL_it SKc SKn SKr CS (lkp T_X7_rightOf) [F_X7_isIn, F_X7_holds] [] [] [34] 16 0 [.ref 227, .int x1, .int x2] [] h).trans rfl
set_option maxRecDepth 100000 in
set_option maxHeartbeats 4000000 in
theorem e_X7_rightOf_34 (x1 : Int32) (x2 : Int32) (s0 : Int32) (h : Hp) : f_X7_rightOf_34 x1 x2 s0 h = bI (F_X7_holds [.ref 227, .int s0] h) (fun v2 h1 => if v2 = 0 then rtn (some (.int 0)) h1 else if x2 < 4 then if x2 = 0 then gd (inb x1 60) (rtn (some (.int (rd h1 236 x1.toNatClampNeg))) h1) else if x2 = 1 then gd (inb x1 60) (rtn (some (.int (rd h1 237 x1.toNatClampNeg))) h1) else if x2 = 2 then gd (inb x1 60) (rtn (some (.int (rd h1 238 x1.toNatClampNeg))) h1) else gd (inb x1 60) (rtn (some (.int (rd h1 239 x1.toNatClampNeg))) h1) else if x2 = 4 then gd (inb x1 60) (rtn (some (.int (rd h1 240 x1.toNatClampNeg))) h1) else if x2 = 5 then gd (inb x1 60) (rtn (some (.int (rd h1 241 x1.toNatClampNeg))) h1) else if x2 = 6 then gd (inb x1 60) (rtn (some (.int (rd h1 242 x1.toNatClampNeg))) h1) else if x2 = 7 then gd (inb x1 60) (rtn (some (.int (rd h1 243 x1.toNatClampNeg))) h1) else gd (inb x1 60) (rtn (some (.int (rd h1 244 x1.toNatClampNeg))) h1)) (hnk []) :=
  (exL_it SKc SKn SKr CS (lkp T_X7_rightOf) [F_X7_isIn, F_X7_holds] [] [] [34] 23 34 [.ref 227, .int x1, .int x2] [.int s0, .ref 227] h).trans rfl

def T_X7_isNew : List (Nat × Ent) := [(0, ([], .aload_n 0, 1, 0, 0, 0, 0)),
  (1, ([], .iload_n 1, 1, 1, 0, 0, 0)),
  (2, ([], .invokestatic 177, 3, 0, 5, 99, 0)),
  (5, ([], .ifCond .eq 14, 3, 19, 0, 0, 0)),
  (8, ([], .iload_n 2, 1, 2, 0, 0, 0)),
  (9, ([], .invokestatic 160, 3, 1, 5, 99, 0)),
  (12, ([], .ifCond .eq 7, 3, 19, 0, 0, 0)),
  (15, ([], .iconst 0, 1, 0, 0, 0, 0)),
  (16, ([], .goto 4, 3, 20, 0, 0, 0)),
  (19, ([false, false, false], .iconst 1, 1, 0, 0, 0, 1)),
  (20, ([false, false, false], .invokevirtual 170, 3, 2, 9, 1, 0)),
  (23, ([], .ifCond .eq 16, 3, 39, 0, 0, 0)),
  (26, ([], .aload_n 0, 1, 0, 0, 0, 0)),
  (27, ([], .iload_n 1, 1, 1, 0, 0, 0)),
  (28, ([], .iload_n 2, 1, 2, 0, 0, 0)),
  (29, ([], .invokevirtual 204, 3, 3, 13, 1, 0)),
  (32, ([], .ifCond .eq 7, 3, 39, 0, 0, 0)),
  (35, ([], .iconst 1, 1, 0, 0, 0, 1)),
  (36, ([], .goto 4, 3, 40, 0, 0, 0)),
  (39, ([], .iconst 0, 1, 0, 0, 0, 0)),
  (40, ([], .ireturn, 1, 0, 1, 0, 0))]
noncomputable def E_X7_isNew : Kt := exL SKc SKn SKr CS (lkp T_X7_isNew) [F_X7_isCarrier, F_X7_isAirport, F_X7_holds, F_X7_isNewAt] [] []
noncomputable def F_X7_isNew : Fn := fun as h => gd (chkA 3 as) (E_X7_isNew 0 (pad 3 as) [] h)
noncomputable def f_X7_isNew_19 (x1 : Int32) (x2 : Int32) (h : Hp) : Res := E_X7_isNew 19 [.ref 227, .int x1, .int x2] [.ref 227] h
noncomputable def f_X7_isNew_20 (x1 : Int32) (x2 : Int32) (s0 : Int32) (h : Hp) : Res := E_X7_isNew 20 [.ref 227, .int x1, .int x2] [.int s0, .ref 227] h
set_option maxRecDepth 100000 in
set_option maxHeartbeats 4000000 in
theorem e_X7_isNew_0 (x1 : Int32) (x2 : Int32) (h : Hp) : F_X7_isNew [.ref 227, .int x1, .int x2] h = bI (F_X7_isCarrier [.int x1] h) (fun v2 h1 => if v2 = 0 then f_X7_isNew_19 x1 x2 h1 else bI (F_X7_isAirport [.int x2] h1) (fun v4 h3 => if v4 = 0 then f_X7_isNew_19 x1 x2 h3 else f_X7_isNew_20 x1 x2 0 h3) (hnk [])) (hnk []) :=
  (exL_it SKc SKn SKr CS (lkp T_X7_isNew) [F_X7_isCarrier, F_X7_isAirport, F_X7_holds, F_X7_isNewAt] [] [] [19, 20] 9 0 [.ref 227, .int x1, .int x2] [] h).trans rfl
set_option maxRecDepth 100000 in
set_option maxHeartbeats 4000000 in
theorem e_X7_isNew_19 (x1 : Int32) (x2 : Int32) (h : Hp) : f_X7_isNew_19 x1 x2 h = f_X7_isNew_20 x1 x2 1 h :=
  (exL_it SKc SKn SKr CS (lkp T_X7_isNew) [F_X7_isCarrier, F_X7_isAirport, F_X7_holds, F_X7_isNewAt] [] [] [19, 20] 1 19 [.ref 227, .int x1, .int x2] [.ref 227] h).trans rfl
set_option maxRecDepth 100000 in
set_option maxHeartbeats 4000000 in
theorem e_X7_isNew_20 (x1 : Int32) (x2 : Int32) (s0 : Int32) (h : Hp) : f_X7_isNew_20 x1 x2 s0 h = bI (F_X7_holds [.ref 227, .int s0] h) (fun v2 h1 => if v2 = 0 then rtn (some (.int 0)) h1 else bI (F_X7_isNewAt [.ref 227, .int x1, .int x2] h1) (fun v4 h3 => if v4 = 0 then rtn (some (.int 0)) h3 else rtn (some (.int 1)) h3) (hnk [])) (hnk []) :=
  (exL_it SKc SKn SKr CS (lkp T_X7_isNew) [F_X7_isCarrier, F_X7_isAirport, F_X7_holds, F_X7_isNewAt] [] [] [19, 20] 10 20 [.ref 227, .int x1, .int x2] [.int s0, .ref 227] h).trans rfl

def T_X7_count : List (Nat × Ent) := [(0, ([], .aload_n 0, 1, 0, 0, 0, 0)),
  (1, ([], .iload_n 1, 1, 1, 0, 0, 0)),
  (2, ([], .iconst 0, 1, 0, 0, 0, 0)),
  (3, ([], .iconst 5, 1, 0, 0, 0, 5)),
  (4, ([], .invokestatic 156, 3, 0, 13, 99, 0)),
  (7, ([], .ifCond .eq 7, 3, 14, 0, 0, 0)),
  (10, ([], .iconst 0, 1, 0, 0, 0, 0)),
  (11, ([], .goto 4, 3, 15, 0, 0, 0)),
  (14, ([], .iconst 1, 1, 0, 0, 0, 1)),
  (15, ([false, false, true, true], .invokevirtual 170, 3, 1, 9, 1, 0)),
  (18, ([], .ifCond .ne 5, 3, 23, 0, 0, 0)),
  (21, ([], .iconst 0, 1, 0, 0, 0, 0)),
  (22, ([], .ireturn, 1, 0, 0, 0, 0)),
  (23, ([], .iconst 0, 1, 0, 0, 0, 0)),
  (24, ([], .istore_n 2, 1, 2, 0, 0, 0)),
  (25, ([], .iconst 0, 1, 0, 0, 0, 0)),
  (26, ([], .istore_n 3, 1, 3, 0, 0, 0)),
  (27, ([false, false, false, false], .iload_n 3, 1, 3, 0, 0, 0)),
  (28, ([], .aload_n 0, 1, 0, 0, 0, 0)),
  (29, ([], .getfield 167, 3, 37, 2, 945, 0)),
  (32, ([], .if_icmp .ge 26, 3, 58, 0, 0, 0)),
  (35, ([], .iload_n 2, 1, 2, 0, 0, 0)),
  (36, ([], .aload_n 0, 1, 0, 0, 0, 0)),
  (37, ([], .getfield 142, 3, 50, 3, 958, 0)),
  (40, ([], .iload_n 3, 1, 3, 0, 0, 0)),
  (41, ([], .baload, 1, 0, 0, 0, 0)),
  (42, ([], .ifCond .eq 7, 3, 49, 0, 0, 0)),
  (45, ([], .iconst 1, 1, 0, 0, 0, 1)),
  (46, ([], .goto 4, 3, 50, 0, 0, 0)),
  (49, ([], .iconst 0, 1, 0, 0, 0, 0)),
  (50, ([false, false, true, false], .iadd, 1, 0, 0, 0, 0)),
  (51, ([], .istore_n 2, 1, 2, 0, 0, 0)),
  (52, ([], .iinc 3 1, 3, 3, 0, 0, 1)),
  (55, ([], .goto (-28), 3, 27, 0, 0, 0)),
  (58, ([], .iload_n 1, 1, 1, 0, 0, 0)),
  (59, ([], .ifCond .ne 10, 3, 69, 0, 0, 0)),
  (62, ([], .aload_n 0, 1, 0, 0, 0, 0)),
  (63, ([], .getfield 164, 3, 20, 2, 928, 0)),
  (66, ([], .goto 29, 3, 95, 0, 0, 0)),
  (69, ([], .iload_n 1, 1, 1, 0, 0, 0)),
  (70, ([], .iconst 4, 1, 0, 0, 0, 4)),
  (71, ([], .if_icmp .ge 11, 3, 82, 0, 0, 0)),
  (74, ([], .aload_n 0, 1, 0, 0, 0, 0)),
  (75, ([], .iload_n 1, 1, 1, 0, 0, 0)),
  (76, ([], .invokevirtual 252, 3, 2, 9, 1, 0)),
  (79, ([], .goto 16, 3, 95, 0, 0, 0)),
  (82, ([], .iload_n 1, 1, 1, 0, 0, 0)),
  (83, ([], .iconst 4, 1, 0, 0, 0, 4)),
  (84, ([], .if_icmp .ne 10, 3, 94, 0, 0, 0)),
  (87, ([], .aload_n 0, 1, 0, 0, 0, 0)),
  (88, ([], .getfield 167, 3, 37, 2, 945, 0)),
  (91, ([], .goto 4, 3, 95, 0, 0, 0)),
  (94, ([], .iload_n 2, 1, 2, 0, 0, 0)),
  (95, ([], .ireturn, 1, 0, 0, 0, 0))]
noncomputable def E_X7_count : Kt := exL SKc SKn SKr CS (lkp T_X7_count) [F_X7_isIn, F_X7_holds, F_X7_countOf] [] []
noncomputable def F_X7_count : Fn := fun as h => gd (chkA 2 as) (E_X7_count 0 (pad 4 as) [] h)
noncomputable def f_X7_count_15 (x1 : Int32) (s0 : Int32) (h : Hp) : Res := E_X7_count 15 [.ref 227, .int x1, .retAddr 0, .retAddr 0] [.int s0, .ref 227] h
noncomputable def f_X7_count_27 (x1 : Int32) (x2 : Int32) (x3 : Int32) (h : Hp) : Res := E_X7_count 27 [.ref 227, .int x1, .int x2, .int x3] [] h
noncomputable def f_X7_count_50 (x1 : Int32) (x3 : Int32) (s0 : Int32) (s1 : Int32) (h : Hp) : Res := E_X7_count 50 [.ref 227, .int x1, .retAddr 0, .int x3] [.int s0, .int s1] h
set_option maxRecDepth 100000 in
set_option maxHeartbeats 4000000 in
theorem e_X7_count_0 (x1 : Int32) (h : Hp) : F_X7_count [.ref 227, .int x1] h = bI (F_X7_isIn [.int x1, .int 0, .int 5] h) (fun v2 h1 => if v2 = 0 then f_X7_count_15 x1 1 h1 else f_X7_count_15 x1 0 h1) (hnk []) :=
  (exL_it SKc SKn SKr CS (lkp T_X7_count) [F_X7_isIn, F_X7_holds, F_X7_countOf] [] [] [15, 27, 50] 8 0 [.ref 227, .int x1, .retAddr 0, .retAddr 0] [] h).trans rfl
set_option maxRecDepth 100000 in
set_option maxHeartbeats 4000000 in
theorem e_X7_count_15 (x1 : Int32) (s0 : Int32) (h : Hp) : f_X7_count_15 x1 s0 h = bI (F_X7_holds [.ref 227, .int s0] h) (fun v2 h1 => if v2 = 0 then rtn (some (.int 0)) h1 else f_X7_count_27 x1 0 0 h1) (hnk []) :=
  (exL_it SKc SKn SKr CS (lkp T_X7_count) [F_X7_isIn, F_X7_holds, F_X7_countOf] [] [] [15, 27, 50] 6 15 [.ref 227, .int x1, .retAddr 0, .retAddr 0] [.int s0, .ref 227] h).trans rfl
set_option maxRecDepth 100000 in
set_option maxHeartbeats 4000000 in
theorem e_X7_count_27 (x1 : Int32) (x2 : Int32) (x3 : Int32) (h : Hp) : f_X7_count_27 x1 x2 x3 h = if x3 < (rd h 227 37) then gd (inb x3 60) (if (rd h 272 x3.toNatClampNeg) = 0 then f_X7_count_50 x1 x3 0 x2 h else f_X7_count_50 x1 x3 1 x2 h) else if x1 = 0 then rtn (some (.int (rd h 227 20))) h else if x1 < 4 then bI (F_X7_countOf [.ref 227, .int x1] h) (fun v2 h1 => rtn (some (.int v2)) h1) (hnk []) else if x1 = 4 then rtn (some (.int (rd h 227 37))) h else rtn (some (.int x2)) h :=
  (exL_it SKc SKn SKr CS (lkp T_X7_count) [F_X7_isIn, F_X7_holds, F_X7_countOf] [] [] [15, 27, 50] 16 27 [.ref 227, .int x1, .int x2, .int x3] [] h).trans rfl
set_option maxRecDepth 100000 in
set_option maxHeartbeats 4000000 in
theorem e_X7_count_50 (x1 : Int32) (x3 : Int32) (s0 : Int32) (s1 : Int32) (h : Hp) : f_X7_count_50 x1 x3 s0 s1 h = f_X7_count_27 x1 (s1 + s0) (x3 + 1) h :=
  (exL_it SKc SKn SKr CS (lkp T_X7_count) [F_X7_isIn, F_X7_holds, F_X7_countOf] [] [] [15, 27, 50] 4 50 [.ref 227, .int x1, .retAddr 0, .int x3] [.int s0, .int s1] h).trans rfl
