def T_L_declare : List (Nat × Ent) := [(0, ([], .aload 5, 2, 5, 0, 0, 0)),
  (2, ([], .iconst 0, 1, 0, 0, 0, 0)),
  (3, ([], .aload_n 0, 1, 0, 0, 0, 0)),
  (4, ([], .iload_n 1, 1, 1, 0, 0, 0)),
  (5, ([], .iload_n 2, 1, 2, 0, 0, 0)),
  (6, ([], .iload_n 3, 1, 3, 0, 0, 0)),
  (7, ([], .iload 4, 2, 4, 0, 0, 0)),
  (9, ([], .invokevirtual 7, 3, 0, 21, 0, 0)),
  (12, ([], .i2l, 1, 0, 0, 0, 0)),
  (13, ([], .lastore, 1, 0, 0, 0, 0)),
  (14, ([], .goto 15, 3, 29, 0, 0, 0)),
  (29, ([], .iconst 0, 1, 0, 0, 0, 0)),
  (30, ([], .ireturn, 1, 0, 0, 0, 0))]
def hn_L_declare : List (Nat × Int32) := [(0, 1), (1, 2), (2, 3)]
noncomputable def E_L_declare : Kt := exL SKc SKn SKr CS (lkp T_L_declare) [F_X6_declare] hn_L_declare []
noncomputable def F_L_declare : Fn := fun as h => gd (chkA 6 as) (E_L_declare 0 (pad 7 as) [] h)
set_option maxRecDepth 100000 in
set_option maxHeartbeats 4000000 in
theorem e_L_declare_0 (x1 : Int32) (x2 : Int32) (x3 : Int32) (x4 : Int32) (h : Hp) : F_L_declare [.ref 0, .int x1, .int x2, .int x3, .int x4, .ref 275] h = bI (F_X6_declare [.ref 0, .int x1, .int x2, .int x3, .int x4] h) (fun v2 h1 => gd (inb 0 1) (rtn (some (.int 0)) (wrL h1 ((0 : Int32).toNatClampNeg) (Int32.toInt64 v2)))) (hnk hn_L_declare) :=
  (exL_it SKc SKn SKr CS (lkp T_L_declare) [F_X6_declare] hn_L_declare [] [] 13 0 [.ref 0, .int x1, .int x2, .int x3, .int x4, .ref 275, .retAddr 0] [] h).trans rfl

def T_L_revise : List (Nat × Ent) := [(0, ([], .aload 4, 2, 4, 0, 0, 0)),
  (2, ([], .iconst 0, 1, 0, 0, 0, 0)),
  (3, ([], .aload_n 0, 1, 0, 0, 0, 0)),
  (4, ([], .iload_n 1, 1, 1, 0, 0, 0)),
  (5, ([], .iload_n 2, 1, 2, 0, 0, 0)),
  (6, ([], .iload_n 3, 1, 3, 0, 0, 0)),
  (7, ([], .invokevirtual 19, 3, 0, 17, 0, 0)),
  (10, ([], .i2l, 1, 0, 0, 0, 0)),
  (11, ([], .lastore, 1, 0, 0, 0, 0)),
  (12, ([], .goto 11, 3, 23, 0, 0, 0)),
  (23, ([], .iconst 0, 1, 0, 0, 0, 0)),
  (24, ([], .ireturn, 1, 0, 0, 0, 0))]
def hn_L_revise : List (Nat × Int32) := [(0, 1), (1, 2)]
noncomputable def E_L_revise : Kt := exL SKc SKn SKr CS (lkp T_L_revise) [F_X6_revise] hn_L_revise []
noncomputable def F_L_revise : Fn := fun as h => gd (chkA 5 as) (E_L_revise 0 (pad 6 as) [] h)
set_option maxRecDepth 100000 in
set_option maxHeartbeats 4000000 in
theorem e_L_revise_0 (x1 : Int32) (x2 : Int32) (x3 : Int32) (h : Hp) : F_L_revise [.ref 0, .int x1, .int x2, .int x3, .ref 275] h = bI (F_X6_revise [.ref 0, .int x1, .int x2, .int x3] h) (fun v2 h1 => gd (inb 0 1) (rtn (some (.int 0)) (wrL h1 ((0 : Int32).toNatClampNeg) (Int32.toInt64 v2)))) (hnk hn_L_revise) :=
  (exL_it SKc SKn SKr CS (lkp T_L_revise) [F_X6_revise] hn_L_revise [] [] 12 0 [.ref 0, .int x1, .int x2, .int x3, .ref 275, .retAddr 0] [] h).trans rfl

def T_L_curfew : List (Nat × Ent) := [(0, ([], .aload_n 0, 1, 0, 0, 0, 0)),
  (1, ([], .iload_n 1, 1, 1, 0, 0, 0)),
  (2, ([], .iload_n 2, 1, 2, 0, 0, 0)),
  (3, ([], .iload_n 3, 1, 3, 0, 0, 0)),
  (4, ([], .invokevirtual 23, 3, 0, 16, 0, 0)),
  (7, ([], .goto 11, 3, 18, 0, 0, 0)),
  (18, ([], .iconst 0, 1, 0, 0, 0, 0)),
  (19, ([], .ireturn, 1, 0, 0, 0, 0))]
def hn_L_curfew : List (Nat × Int32) := [(0, 1), (1, 2)]
noncomputable def E_L_curfew : Kt := exL SKc SKn SKr CS (lkp T_L_curfew) [F_X6_curfew] hn_L_curfew []
noncomputable def F_L_curfew : Fn := fun as h => gd (chkA 4 as) (E_L_curfew 0 (pad 5 as) [] h)
set_option maxRecDepth 100000 in
set_option maxHeartbeats 4000000 in
theorem e_L_curfew_0 (x1 : Int32) (x2 : Int32) (x3 : Int32) (h : Hp) : F_L_curfew [.ref 0, .int x1, .int x2, .int x3] h = bV (F_X6_curfew [.ref 0, .int x1, .int x2, .int x3] h) (fun h1 => rtn (some (.int 0)) h1) (hnk hn_L_curfew) :=
  (exL_it SKc SKn SKr CS (lkp T_L_curfew) [F_X6_curfew] hn_L_curfew [] [] 8 0 [.ref 0, .int x1, .int x2, .int x3, .retAddr 0] [] h).trans rfl

def T_L_quota : List (Nat × Ent) := [(0, ([], .aload_n 3, 1, 3, 0, 0, 0)),
  (1, ([], .iconst 0, 1, 0, 0, 0, 0)),
  (2, ([], .aload_n 0, 1, 0, 0, 0, 0)),
  (3, ([], .iload_n 1, 1, 1, 0, 0, 0)),
  (4, ([], .iload_n 2, 1, 2, 0, 0, 0)),
  (5, ([], .invokevirtual 27, 3, 0, 13, 0, 0)),
  (8, ([], .i2l, 1, 0, 0, 0, 0)),
  (9, ([], .lastore, 1, 0, 0, 0, 0)),
  (10, ([], .goto 11, 3, 21, 0, 0, 0)),
  (21, ([], .iconst 0, 1, 0, 0, 0, 0)),
  (22, ([], .ireturn, 1, 0, 0, 0, 0))]
def hn_L_quota : List (Nat × Int32) := [(0, 1), (1, 2)]
noncomputable def E_L_quota : Kt := exL SKc SKn SKr CS (lkp T_L_quota) [F_X6_quota] hn_L_quota []
noncomputable def F_L_quota : Fn := fun as h => gd (chkA 4 as) (E_L_quota 0 (pad 5 as) [] h)
set_option maxRecDepth 100000 in
set_option maxHeartbeats 4000000 in
theorem e_L_quota_0 (x1 : Int32) (x2 : Int32) (h : Hp) : F_L_quota [.ref 0, .int x1, .int x2, .ref 275] h = bI (F_X6_quota [.ref 0, .int x1, .int x2] h) (fun v2 h1 => gd (inb 0 1) (rtn (some (.int 0)) (wrL h1 ((0 : Int32).toNatClampNeg) (Int32.toInt64 v2)))) (hnk hn_L_quota) :=
  (exL_it SKc SKn SKr CS (lkp T_L_quota) [F_X6_quota] hn_L_quota [] [] 11 0 [.ref 0, .int x1, .int x2, .ref 275, .retAddr 0] [] h).trans rfl

def T_L_merge : List (Nat × Ent) := [(0, ([], .aload_n 3, 1, 3, 0, 0, 0)),
  (1, ([], .iconst 0, 1, 0, 0, 0, 0)),
  (2, ([], .aload_n 0, 1, 0, 0, 0, 0)),
  (3, ([], .iload_n 1, 1, 1, 0, 0, 0)),
  (4, ([], .iload_n 2, 1, 2, 0, 0, 0)),
  (5, ([], .invokevirtual 31, 3, 0, 13, 0, 0)),
  (8, ([], .i2l, 1, 0, 0, 0, 0)),
  (9, ([], .lastore, 1, 0, 0, 0, 0)),
  (10, ([], .goto 11, 3, 21, 0, 0, 0)),
  (21, ([], .iconst 0, 1, 0, 0, 0, 0)),
  (22, ([], .ireturn, 1, 0, 0, 0, 0))]
def hn_L_merge : List (Nat × Int32) := [(0, 1), (2, 2)]
noncomputable def E_L_merge : Kt := exL SKc SKn SKr CS (lkp T_L_merge) [F_X6_merge] hn_L_merge []
noncomputable def F_L_merge : Fn := fun as h => gd (chkA 4 as) (E_L_merge 0 (pad 5 as) [] h)
set_option maxRecDepth 100000 in
set_option maxHeartbeats 4000000 in
theorem e_L_merge_0 (x1 : Int32) (x2 : Int32) (h : Hp) : F_L_merge [.ref 0, .int x1, .int x2, .ref 275] h = bI (F_X6_merge [.ref 0, .int x1, .int x2] h) (fun v2 h1 => gd (inb 0 1) (rtn (some (.int 0)) (wrL h1 ((0 : Int32).toNatClampNeg) (Int32.toInt64 v2)))) (hnk hn_L_merge) :=
  (exL_it SKc SKn SKr CS (lkp T_L_merge) [F_X6_merge] hn_L_merge [] [] 11 0 [.ref 0, .int x1, .int x2, .ref 275, .retAddr 0] [] h).trans rfl

def T_L_request : List (Nat × Ent) := [(0, ([], .aload 10, 2, 10, 0, 0, 0)),
  (2, ([], .iconst 0, 1, 0, 0, 0, 0)),
  (3, ([], .aload_n 0, 1, 0, 0, 0, 0)),
  (4, ([], .iload_n 1, 1, 1, 0, 0, 0)),
  (5, ([], .iload_n 2, 1, 2, 0, 0, 0)),
  (6, ([], .iload_n 3, 1, 3, 0, 0, 0)),
  (7, ([], .iload 4, 2, 4, 0, 0, 0)),
  (9, ([], .iload 5, 2, 5, 0, 0, 0)),
  (11, ([], .iload 6, 2, 6, 0, 0, 0)),
  (13, ([], .iload 7, 2, 7, 0, 0, 0)),
  (15, ([], .iload 8, 2, 8, 0, 0, 0)),
  (17, ([], .iload 9, 2, 9, 0, 0, 0)),
  (19, ([], .invokevirtual 34, 3, 0, 41, 0, 0)),
  (22, ([], .i2l, 1, 0, 0, 0, 0)),
  (23, ([], .lastore, 1, 0, 0, 0, 0)),
  (24, ([], .goto 15, 3, 39, 0, 0, 0)),
  (39, ([], .iconst 0, 1, 0, 0, 0, 0)),
  (40, ([], .ireturn, 1, 0, 0, 0, 0))]
def hn_L_request : List (Nat × Int32) := [(0, 1), (1, 2), (2, 3)]
noncomputable def E_L_request : Kt := exL SKc SKn SKr CS (lkp T_L_request) [F_X6_request] hn_L_request []
noncomputable def F_L_request : Fn := fun as h => gd (chkA 11 as) (E_L_request 0 (pad 12 as) [] h)
set_option maxRecDepth 100000 in
set_option maxHeartbeats 4000000 in
theorem e_L_request_0 (x1 : Int32) (x2 : Int32) (x3 : Int32) (x4 : Int32) (x5 : Int32) (x6 : Int32) (x7 : Int32) (x8 : Int32) (x9 : Int32) (h : Hp) : F_L_request [.ref 0, .int x1, .int x2, .int x3, .int x4, .int x5, .int x6, .int x7, .int x8, .int x9, .ref 275] h = bI (F_X6_request [.ref 0, .int x1, .int x2, .int x3, .int x4, .int x5, .int x6, .int x7, .int x8, .int x9] h) (fun v2 h1 => gd (inb 0 1) (rtn (some (.int 0)) (wrL h1 ((0 : Int32).toNatClampNeg) (Int32.toInt64 v2)))) (hnk hn_L_request) :=
  (exL_it SKc SKn SKr CS (lkp T_L_request) [F_X6_request] hn_L_request [] [] 18 0 [.ref 0, .int x1, .int x2, .int x3, .int x4, .int x5, .int x6, .int x7, .int x8, .int x9, .ref 275, .retAddr 0] [] h).trans rfl

def T_L_link : List (Nat × Ent) := [(0, ([], .aload_n 0, 1, 0, 0, 0, 0)),
  (1, ([], .iload_n 1, 1, 1, 0, 0, 0)),
  (2, ([], .iload_n 2, 1, 2, 0, 0, 0)),
  (3, ([], .invokevirtual 38, 3, 0, 12, 0, 0)),
  (6, ([], .goto 12, 3, 18, 0, 0, 0)),
  (18, ([], .iconst 0, 1, 0, 0, 0, 0)),
  (19, ([], .ireturn, 1, 0, 0, 0, 0))]
def hn_L_link : List (Nat × Int32) := [(0, 1), (1, 2), (2, 3)]
noncomputable def E_L_link : Kt := exL SKc SKn SKr CS (lkp T_L_link) [F_X6_link] hn_L_link []
noncomputable def F_L_link : Fn := fun as h => gd (chkA 3 as) (E_L_link 0 (pad 4 as) [] h)
set_option maxRecDepth 100000 in
set_option maxHeartbeats 4000000 in
theorem e_L_link_0 (x1 : Int32) (x2 : Int32) (h : Hp) : F_L_link [.ref 0, .int x1, .int x2] h = bV (F_X6_link [.ref 0, .int x1, .int x2] h) (fun h1 => rtn (some (.int 0)) h1) (hnk hn_L_link) :=
  (exL_it SKc SKn SKr CS (lkp T_L_link) [F_X6_link] hn_L_link [] [] 7 0 [.ref 0, .int x1, .int x2, .retAddr 0] [] h).trans rfl

def T_L_confer : List (Nat × Ent) := [(0, ([], .aload_n 1, 1, 1, 0, 0, 0)),
  (1, ([], .iconst 0, 1, 0, 0, 0, 0)),
  (2, ([], .aload_n 0, 1, 0, 0, 0, 0)),
  (3, ([], .invokevirtual 42, 3, 0, 5, 0, 0)),
  (6, ([], .i2l, 1, 0, 0, 0, 0)),
  (7, ([], .lastore, 1, 0, 0, 0, 0)),
  (8, ([], .goto 6, 3, 14, 0, 0, 0)),
  (14, ([], .iconst 0, 1, 0, 0, 0, 0)),
  (15, ([], .ireturn, 1, 0, 0, 0, 0))]
def hn_L_confer : List (Nat × Int32) := [(2, 1)]
noncomputable def E_L_confer : Kt := exL SKc SKn SKr CS (lkp T_L_confer) [F_X6_confer] hn_L_confer []
noncomputable def F_L_confer : Fn := fun as h => gd (chkA 2 as) (E_L_confer 0 (pad 3 as) [] h)
set_option maxRecDepth 100000 in
set_option maxHeartbeats 4000000 in
theorem e_L_confer_0 (h : Hp) : F_L_confer [.ref 0, .ref 275] h = bI (F_X6_confer [.ref 0] h) (fun v2 h1 => gd (inb 0 1) (rtn (some (.int 0)) (wrL h1 ((0 : Int32).toNatClampNeg) (Int32.toInt64 v2)))) (hnk hn_L_confer) :=
  (exL_it SKc SKn SKr CS (lkp T_L_confer) [F_X6_confer] hn_L_confer [] [] 9 0 [.ref 0, .ref 275, .retAddr 0] [] h).trans rfl

def T_L_accept : List (Nat × Ent) := [(0, ([], .aload_n 2, 1, 2, 0, 0, 0)),
  (1, ([], .iconst 0, 1, 0, 0, 0, 0)),
  (2, ([], .aload_n 0, 1, 0, 0, 0, 0)),
  (3, ([], .iload_n 1, 1, 1, 0, 0, 0)),
  (4, ([], .invokevirtual 46, 3, 0, 9, 0, 0)),
  (7, ([], .ifCond .eq 7, 3, 14, 0, 0, 0)),
  (10, ([], .lconst 1, 1, 0, 0, 0, 0)),
  (11, ([], .goto 4, 3, 15, 0, 0, 0)),
  (14, ([], .lconst 0, 1, 0, 0, 0, 0)),
  (15, ([], .lastore, 1, 0, 0, 0, 0)),
  (16, ([], .goto 9, 3, 25, 0, 0, 0)),
  (25, ([], .iconst 0, 1, 0, 0, 0, 0)),
  (26, ([], .ireturn, 1, 0, 0, 0, 0))]
def hn_L_accept : List (Nat × Int32) := [(0, 1), (2, 2)]
noncomputable def E_L_accept : Kt := exL SKc SKn SKr CS (lkp T_L_accept) [F_X6_accept] hn_L_accept []
noncomputable def F_L_accept : Fn := fun as h => gd (chkA 3 as) (E_L_accept 0 (pad 4 as) [] h)
set_option maxRecDepth 100000 in
set_option maxHeartbeats 4000000 in
theorem e_L_accept_0 (x1 : Int32) (h : Hp) : F_L_accept [.ref 0, .int x1, .ref 275] h = bI (F_X6_accept [.ref 0, .int x1] h) (fun v2 h1 => if v2 = 0 then gd (inb 0 1) (rtn (some (.int 0)) (wrL h1 ((0 : Int32).toNatClampNeg) (Int64.ofNat 0))) else gd (inb 0 1) (rtn (some (.int 0)) (wrL h1 ((0 : Int32).toNatClampNeg) (Int64.ofNat 1)))) (hnk hn_L_accept) :=
  (exL_it SKc SKn SKr CS (lkp T_L_accept) [F_X6_accept] hn_L_accept [] [] 12 0 [.ref 0, .int x1, .ref 275, .retAddr 0] [] h).trans rfl

def T_L_giveBack : List (Nat × Ent) := [(0, ([], .aload_n 3, 1, 3, 0, 0, 0)),
  (1, ([], .iconst 0, 1, 0, 0, 0, 0)),
  (2, ([], .aload_n 0, 1, 0, 0, 0, 0)),
  (3, ([], .iload_n 1, 1, 1, 0, 0, 0)),
  (4, ([], .iload_n 2, 1, 2, 0, 0, 0)),
  (5, ([], .invokevirtual 50, 3, 0, 13, 0, 0)),
  (8, ([], .i2l, 1, 0, 0, 0, 0)),
  (9, ([], .lastore, 1, 0, 0, 0, 0)),
  (10, ([], .goto 15, 3, 25, 0, 0, 0)),
  (25, ([], .iconst 0, 1, 0, 0, 0, 0)),
  (26, ([], .ireturn, 1, 0, 0, 0, 0))]
def hn_L_giveBack : List (Nat × Int32) := [(0, 1), (1, 2), (2, 3)]
noncomputable def E_L_giveBack : Kt := exL SKc SKn SKr CS (lkp T_L_giveBack) [F_X6_giveBack] hn_L_giveBack []
noncomputable def F_L_giveBack : Fn := fun as h => gd (chkA 4 as) (E_L_giveBack 0 (pad 5 as) [] h)
set_option maxRecDepth 100000 in
set_option maxHeartbeats 4000000 in
theorem e_L_giveBack_0 (x1 : Int32) (x2 : Int32) (h : Hp) : F_L_giveBack [.ref 0, .int x1, .int x2, .ref 275] h = bI (F_X6_giveBack [.ref 0, .int x1, .int x2] h) (fun v2 h1 => gd (inb 0 1) (rtn (some (.int 0)) (wrL h1 ((0 : Int32).toNatClampNeg) (Int32.toInt64 v2)))) (hnk hn_L_giveBack) :=
  (exL_it SKc SKn SKr CS (lkp T_L_giveBack) [F_X6_giveBack] hn_L_giveBack [] [] 11 0 [.ref 0, .int x1, .int x2, .ref 275, .retAddr 0] [] h).trans rfl

def T_L_swap : List (Nat × Ent) := [(0, ([], .aload_n 0, 1, 0, 0, 0, 0)),
  (1, ([], .iload_n 1, 1, 1, 0, 0, 0)),
  (2, ([], .iload_n 2, 1, 2, 0, 0, 0)),
  (3, ([], .invokevirtual 53, 3, 0, 12, 0, 0)),
  (6, ([], .goto 12, 3, 18, 0, 0, 0)),
  (18, ([], .iconst 0, 1, 0, 0, 0, 0)),
  (19, ([], .ireturn, 1, 0, 0, 0, 0))]
def hn_L_swap : List (Nat × Int32) := [(0, 1), (1, 2), (2, 3)]
noncomputable def E_L_swap : Kt := exL SKc SKn SKr CS (lkp T_L_swap) [F_X6_swap] hn_L_swap []
noncomputable def F_L_swap : Fn := fun as h => gd (chkA 3 as) (E_L_swap 0 (pad 4 as) [] h)
set_option maxRecDepth 100000 in
set_option maxHeartbeats 4000000 in
theorem e_L_swap_0 (x1 : Int32) (x2 : Int32) (h : Hp) : F_L_swap [.ref 0, .int x1, .int x2] h = bV (F_X6_swap [.ref 0, .int x1, .int x2] h) (fun h1 => rtn (some (.int 0)) h1) (hnk hn_L_swap) :=
  (exL_it SKc SKn SKr CS (lkp T_L_swap) [F_X6_swap] hn_L_swap [] [] 7 0 [.ref 0, .int x1, .int x2, .retAddr 0] [] h).trans rfl

def T_L_lease : List (Nat × Ent) := [(0, ([], .aload_n 3, 1, 3, 0, 0, 0)),
  (1, ([], .iconst 0, 1, 0, 0, 0, 0)),
  (2, ([], .aload_n 0, 1, 0, 0, 0, 0)),
  (3, ([], .iload_n 1, 1, 1, 0, 0, 0)),
  (4, ([], .iload_n 2, 1, 2, 0, 0, 0)),
  (5, ([], .invokevirtual 56, 3, 0, 13, 0, 0)),
  (8, ([], .i2l, 1, 0, 0, 0, 0)),
  (9, ([], .lastore, 1, 0, 0, 0, 0)),
  (10, ([], .goto 11, 3, 21, 0, 0, 0)),
  (21, ([], .iconst 0, 1, 0, 0, 0, 0)),
  (22, ([], .ireturn, 1, 0, 0, 0, 0))]
def hn_L_lease : List (Nat × Int32) := [(0, 1), (2, 2)]
noncomputable def E_L_lease : Kt := exL SKc SKn SKr CS (lkp T_L_lease) [F_X6_lease] hn_L_lease []
noncomputable def F_L_lease : Fn := fun as h => gd (chkA 4 as) (E_L_lease 0 (pad 5 as) [] h)
set_option maxRecDepth 100000 in
set_option maxHeartbeats 4000000 in
theorem e_L_lease_0 (x1 : Int32) (x2 : Int32) (h : Hp) : F_L_lease [.ref 0, .int x1, .int x2, .ref 275] h = bI (F_X6_lease [.ref 0, .int x1, .int x2] h) (fun v2 h1 => gd (inb 0 1) (rtn (some (.int 0)) (wrL h1 ((0 : Int32).toNatClampNeg) (Int32.toInt64 v2)))) (hnk hn_L_lease) :=
  (exL_it SKc SKn SKr CS (lkp T_L_lease) [F_X6_lease] hn_L_lease [] [] 11 0 [.ref 0, .int x1, .int x2, .ref 275, .retAddr 0] [] h).trans rfl

def T_L_fly : List (Nat × Ent) := [(0, ([], .aload 4, 2, 4, 0, 0, 0)),
  (2, ([], .iconst 0, 1, 0, 0, 0, 0)),
  (3, ([], .aload_n 0, 1, 0, 0, 0, 0)),
  (4, ([], .iload_n 1, 1, 1, 0, 0, 0)),
  (5, ([], .iload_n 2, 1, 2, 0, 0, 0)),
  (6, ([], .iload_n 3, 1, 3, 0, 0, 0)),
  (7, ([], .invokevirtual 59, 3, 0, 17, 0, 0)),
  (10, ([], .i2l, 1, 0, 0, 0, 0)),
  (11, ([], .lastore, 1, 0, 0, 0, 0)),
  (12, ([], .goto 15, 3, 27, 0, 0, 0)),
  (27, ([], .iconst 0, 1, 0, 0, 0, 0)),
  (28, ([], .ireturn, 1, 0, 0, 0, 0))]
def hn_L_fly : List (Nat × Int32) := [(0, 1), (1, 2), (2, 3)]
noncomputable def E_L_fly : Kt := exL SKc SKn SKr CS (lkp T_L_fly) [F_X6_fly] hn_L_fly []
noncomputable def F_L_fly : Fn := fun as h => gd (chkA 5 as) (E_L_fly 0 (pad 6 as) [] h)
set_option maxRecDepth 100000 in
set_option maxHeartbeats 4000000 in
theorem e_L_fly_0 (x1 : Int32) (x2 : Int32) (x3 : Int32) (h : Hp) : F_L_fly [.ref 0, .int x1, .int x2, .int x3, .ref 275] h = bI (F_X6_fly [.ref 0, .int x1, .int x2, .int x3] h) (fun v2 h1 => gd (inb 0 1) (rtn (some (.int 0)) (wrL h1 ((0 : Int32).toNatClampNeg) (Int32.toInt64 v2)))) (hnk hn_L_fly) :=
  (exL_it SKc SKn SKr CS (lkp T_L_fly) [F_X6_fly] hn_L_fly [] [] 12 0 [.ref 0, .int x1, .int x2, .int x3, .ref 275, .retAddr 0] [] h).trans rfl

def T_L_close : List (Nat × Ent) := [(0, ([], .aload 4, 2, 4, 0, 0, 0)),
  (2, ([], .iconst 0, 1, 0, 0, 0, 0)),
  (3, ([], .aload_n 0, 1, 0, 0, 0, 0)),
  (4, ([], .iload_n 1, 1, 1, 0, 0, 0)),
  (5, ([], .iload_n 2, 1, 2, 0, 0, 0)),
  (6, ([], .iload_n 3, 1, 3, 0, 0, 0)),
  (7, ([], .invokevirtual 62, 3, 0, 17, 0, 0)),
  (10, ([], .ifCond .eq 7, 3, 17, 0, 0, 0)),
  (13, ([], .lconst 1, 1, 0, 0, 0, 0)),
  (14, ([], .goto 4, 3, 18, 0, 0, 0)),
  (17, ([], .lconst 0, 1, 0, 0, 0, 0)),
  (18, ([], .lastore, 1, 0, 0, 0, 0)),
  (19, ([], .goto 11, 3, 30, 0, 0, 0)),
  (30, ([], .iconst 0, 1, 0, 0, 0, 0)),
  (31, ([], .ireturn, 1, 0, 0, 0, 0))]
def hn_L_close : List (Nat × Int32) := [(0, 1), (1, 2)]
noncomputable def E_L_close : Kt := exL SKc SKn SKr CS (lkp T_L_close) [F_X6_close] hn_L_close []
noncomputable def F_L_close : Fn := fun as h => gd (chkA 5 as) (E_L_close 0 (pad 6 as) [] h)
set_option maxRecDepth 100000 in
set_option maxHeartbeats 4000000 in
theorem e_L_close_0 (x1 : Int32) (x2 : Int32) (x3 : Int32) (h : Hp) : F_L_close [.ref 0, .int x1, .int x2, .int x3, .ref 275] h = bI (F_X6_close [.ref 0, .int x1, .int x2, .int x3] h) (fun v2 h1 => if v2 = 0 then gd (inb 0 1) (rtn (some (.int 0)) (wrL h1 ((0 : Int32).toNatClampNeg) (Int64.ofNat 0))) else gd (inb 0 1) (rtn (some (.int 0)) (wrL h1 ((0 : Int32).toNatClampNeg) (Int64.ofNat 1)))) (hnk hn_L_close) :=
  (exL_it SKc SKn SKr CS (lkp T_L_close) [F_X6_close] hn_L_close [] [] 14 0 [.ref 0, .int x1, .int x2, .int x3, .ref 275, .retAddr 0] [] h).trans rfl

def T_L_end : List (Nat × Ent) := [(0, ([], .aload_n 1, 1, 1, 0, 0, 0)),
  (1, ([], .iconst 0, 1, 0, 0, 0, 0)),
  (2, ([], .aload_n 0, 1, 0, 0, 0, 0)),
  (3, ([], .invokevirtual 66, 3, 0, 5, 0, 0)),
  (6, ([], .i2l, 1, 0, 0, 0, 0)),
  (7, ([], .lastore, 1, 0, 0, 0, 0)),
  (8, ([], .goto 6, 3, 14, 0, 0, 0)),
  (14, ([], .iconst 0, 1, 0, 0, 0, 0)),
  (15, ([], .ireturn, 1, 0, 0, 0, 0))]
def hn_L_end : List (Nat × Int32) := [(2, 1)]
noncomputable def E_L_end : Kt := exL SKc SKn SKr CS (lkp T_L_end) [F_X6_end] hn_L_end []
noncomputable def F_L_end : Fn := fun as h => gd (chkA 2 as) (E_L_end 0 (pad 3 as) [] h)
set_option maxRecDepth 100000 in
set_option maxHeartbeats 4000000 in
theorem e_L_end_0 (h : Hp) : F_L_end [.ref 0, .ref 275] h = bI (F_X6_end [.ref 0] h) (fun v2 h1 => gd (inb 0 1) (rtn (some (.int 0)) (wrL h1 ((0 : Int32).toNatClampNeg) (Int32.toInt64 v2)))) (hnk hn_L_end) :=
  (exL_it SKc SKn SKr CS (lkp T_L_end) [F_X6_end] hn_L_end [] [] 9 0 [.ref 0, .ref 275, .retAddr 0] [] h).trans rfl

def T_L_load : List (Nat × Ent) := [(0, ([], .aload 7, 2, 7, 0, 0, 0)),
  (2, ([], .iconst 0, 1, 0, 0, 0, 0)),
  (3, ([], .aload_n 0, 1, 0, 0, 0, 0)),
  (4, ([], .iload_n 1, 1, 1, 0, 0, 0)),
  (5, ([], .iload_n 2, 1, 2, 0, 0, 0)),
  (6, ([], .iload_n 3, 1, 3, 0, 0, 0)),
  (7, ([], .iload 4, 2, 4, 0, 0, 0)),
  (9, ([], .iload 5, 2, 5, 0, 0, 0)),
  (11, ([], .iload 6, 2, 6, 0, 0, 0)),
  (13, ([], .invokevirtual 69, 3, 0, 29, 0, 0)),
  (16, ([], .i2l, 1, 0, 0, 0, 0)),
  (17, ([], .lastore, 1, 0, 0, 0, 0)),
  (18, ([], .goto 11, 3, 29, 0, 0, 0)),
  (29, ([], .iconst 0, 1, 0, 0, 0, 0)),
  (30, ([], .ireturn, 1, 0, 0, 0, 0))]
def hn_L_load : List (Nat × Int32) := [(0, 1), (1, 2)]
noncomputable def E_L_load : Kt := exL SKc SKn SKr CS (lkp T_L_load) [F_X6_load] hn_L_load []
noncomputable def F_L_load : Fn := fun as h => gd (chkA 8 as) (E_L_load 0 (pad 9 as) [] h)
set_option maxRecDepth 100000 in
set_option maxHeartbeats 4000000 in
theorem e_L_load_0 (x1 : Int32) (x2 : Int32) (x3 : Int32) (x4 : Int32) (x5 : Int32) (x6 : Int32) (h : Hp) : F_L_load [.ref 0, .int x1, .int x2, .int x3, .int x4, .int x5, .int x6, .ref 275] h = bI (F_X6_load [.ref 0, .int x1, .int x2, .int x3, .int x4, .int x5, .int x6] h) (fun v2 h1 => gd (inb 0 1) (rtn (some (.int 0)) (wrL h1 ((0 : Int32).toNatClampNeg) (Int32.toInt64 v2)))) (hnk hn_L_load) :=
  (exL_it SKc SKn SKr CS (lkp T_L_load) [F_X6_load] hn_L_load [] [] 15 0 [.ref 0, .int x1, .int x2, .int x3, .int x4, .int x5, .int x6, .ref 275, .retAddr 0] [] h).trans rfl

def T_L_worst : List (Nat × Ent) := [(0, ([], .aload 5, 2, 5, 0, 0, 0)),
  (2, ([], .iconst 0, 1, 0, 0, 0, 0)),
  (3, ([], .aload_n 0, 1, 0, 0, 0, 0)),
  (4, ([], .iload_n 1, 1, 1, 0, 0, 0)),
  (5, ([], .iload_n 2, 1, 2, 0, 0, 0)),
  (6, ([], .iload_n 3, 1, 3, 0, 0, 0)),
  (7, ([], .iload 4, 2, 4, 0, 0, 0)),
  (9, ([], .invokevirtual 73, 3, 0, 21, 0, 0)),
  (12, ([], .i2l, 1, 0, 0, 0, 0)),
  (13, ([], .lastore, 1, 0, 0, 0, 0)),
  (14, ([], .goto 11, 3, 25, 0, 0, 0)),
  (25, ([], .iconst 0, 1, 0, 0, 0, 0)),
  (26, ([], .ireturn, 1, 0, 0, 0, 0))]
def hn_L_worst : List (Nat × Int32) := [(0, 1), (1, 2)]
noncomputable def E_L_worst : Kt := exL SKc SKn SKr CS (lkp T_L_worst) [F_X6_worst] hn_L_worst []
noncomputable def F_L_worst : Fn := fun as h => gd (chkA 6 as) (E_L_worst 0 (pad 7 as) [] h)
set_option maxRecDepth 100000 in
set_option maxHeartbeats 4000000 in
theorem e_L_worst_0 (x1 : Int32) (x2 : Int32) (x3 : Int32) (x4 : Int32) (h : Hp) : F_L_worst [.ref 0, .int x1, .int x2, .int x3, .int x4, .ref 275] h = bI (F_X6_worst [.ref 0, .int x1, .int x2, .int x3, .int x4] h) (fun v2 h1 => gd (inb 0 1) (rtn (some (.int 0)) (wrL h1 ((0 : Int32).toNatClampNeg) (Int32.toInt64 v2)))) (hnk hn_L_worst) :=
  (exL_it SKc SKn SKr CS (lkp T_L_worst) [F_X6_worst] hn_L_worst [] [] 13 0 [.ref 0, .int x1, .int x2, .int x3, .int x4, .ref 275, .retAddr 0] [] h).trans rfl

def T_L_noise : List (Nat × Ent) := [(0, ([], .aload_n 2, 1, 2, 0, 0, 0)),
  (1, ([], .iconst 0, 1, 0, 0, 0, 0)),
  (2, ([], .aload_n 0, 1, 0, 0, 0, 0)),
  (3, ([], .iload_n 1, 1, 1, 0, 0, 0)),
  (4, ([], .invokevirtual 76, 3, 0, 9, 0, 0)),
  (7, ([], .i2l, 1, 0, 0, 0, 0)),
  (8, ([], .lastore, 1, 0, 0, 0, 0)),
  (9, ([], .goto 6, 3, 15, 0, 0, 0)),
  (15, ([], .iconst 0, 1, 0, 0, 0, 0)),
  (16, ([], .ireturn, 1, 0, 0, 0, 0))]
def hn_L_noise : List (Nat × Int32) := [(0, 1)]
noncomputable def E_L_noise : Kt := exL SKc SKn SKr CS (lkp T_L_noise) [F_X6_noise] hn_L_noise []
noncomputable def F_L_noise : Fn := fun as h => gd (chkA 3 as) (E_L_noise 0 (pad 4 as) [] h)
set_option maxRecDepth 100000 in
set_option maxHeartbeats 4000000 in
theorem e_L_noise_0 (x1 : Int32) (h : Hp) : F_L_noise [.ref 0, .int x1, .ref 275] h = bI (F_X6_noise [.ref 0, .int x1] h) (fun v2 h1 => gd (inb 0 1) (rtn (some (.int 0)) (wrL h1 ((0 : Int32).toNatClampNeg) (Int32.toInt64 v2)))) (hnk hn_L_noise) :=
  (exL_it SKc SKn SKr CS (lkp T_L_noise) [F_X6_noise] hn_L_noise [] [] 10 0 [.ref 0, .int x1, .ref 275, .retAddr 0] [] h).trans rfl

def T_L_requestOf : List (Nat × Ent) := [(0, ([], .aload_n 3, 1, 3, 0, 0, 0)),
  (1, ([], .iconst 0, 1, 0, 0, 0, 0)),
  (2, ([], .aload_n 0, 1, 0, 0, 0, 0)),
  (3, ([], .iload_n 1, 1, 1, 0, 0, 0)),
  (4, ([], .iload_n 2, 1, 2, 0, 0, 0)),
  (5, ([], .invokevirtual 80, 3, 0, 13, 0, 0)),
  (8, ([], .i2l, 1, 0, 0, 0, 0)),
  (9, ([], .lastore, 1, 0, 0, 0, 0)),
  (10, ([], .goto 11, 3, 21, 0, 0, 0)),
  (21, ([], .iconst 0, 1, 0, 0, 0, 0)),
  (22, ([], .ireturn, 1, 0, 0, 0, 0))]
def hn_L_requestOf : List (Nat × Int32) := [(0, 1), (1, 2)]
noncomputable def E_L_requestOf : Kt := exL SKc SKn SKr CS (lkp T_L_requestOf) [F_X6_requestOf] hn_L_requestOf []
noncomputable def F_L_requestOf : Fn := fun as h => gd (chkA 4 as) (E_L_requestOf 0 (pad 5 as) [] h)
set_option maxRecDepth 100000 in
set_option maxHeartbeats 4000000 in
theorem e_L_requestOf_0 (x1 : Int32) (x2 : Int32) (h : Hp) : F_L_requestOf [.ref 0, .int x1, .int x2, .ref 275] h = bI (F_X6_requestOf [.ref 0, .int x1, .int x2] h) (fun v2 h1 => gd (inb 0 1) (rtn (some (.int 0)) (wrL h1 ((0 : Int32).toNatClampNeg) (Int32.toInt64 v2)))) (hnk hn_L_requestOf) :=
  (exL_it SKc SKn SKr CS (lkp T_L_requestOf) [F_X6_requestOf] hn_L_requestOf [] [] 11 0 [.ref 0, .int x1, .int x2, .ref 275, .retAddr 0] [] h).trans rfl

def T_L_ahead : List (Nat × Ent) := [(0, ([], .aload_n 2, 1, 2, 0, 0, 0)),
  (1, ([], .iconst 0, 1, 0, 0, 0, 0)),
  (2, ([], .aload_n 0, 1, 0, 0, 0, 0)),
  (3, ([], .iload_n 1, 1, 1, 0, 0, 0)),
  (4, ([], .invokevirtual 83, 3, 0, 9, 0, 0)),
  (7, ([], .i2l, 1, 0, 0, 0, 0)),
  (8, ([], .lastore, 1, 0, 0, 0, 0)),
  (9, ([], .goto 6, 3, 15, 0, 0, 0)),
  (15, ([], .iconst 0, 1, 0, 0, 0, 0)),
  (16, ([], .ireturn, 1, 0, 0, 0, 0))]
def hn_L_ahead : List (Nat × Int32) := [(0, 1)]
noncomputable def E_L_ahead : Kt := exL SKc SKn SKr CS (lkp T_L_ahead) [F_X6_ahead] hn_L_ahead []
noncomputable def F_L_ahead : Fn := fun as h => gd (chkA 3 as) (E_L_ahead 0 (pad 4 as) [] h)
set_option maxRecDepth 100000 in
set_option maxHeartbeats 4000000 in
theorem e_L_ahead_0 (x1 : Int32) (h : Hp) : F_L_ahead [.ref 0, .int x1, .ref 275] h = bI (F_X6_ahead [.ref 0, .int x1] h) (fun v2 h1 => gd (inb 0 1) (rtn (some (.int 0)) (wrL h1 ((0 : Int32).toNatClampNeg) (Int32.toInt64 v2)))) (hnk hn_L_ahead) :=
  (exL_it SKc SKn SKr CS (lkp T_L_ahead) [F_X6_ahead] hn_L_ahead [] [] 10 0 [.ref 0, .int x1, .ref 275, .retAddr 0] [] h).trans rfl

def T_L_seriesOf : List (Nat × Ent) := [(0, ([], .aload_n 3, 1, 3, 0, 0, 0)),
  (1, ([], .iconst 0, 1, 0, 0, 0, 0)),
  (2, ([], .aload_n 0, 1, 0, 0, 0, 0)),
  (3, ([], .iload_n 1, 1, 1, 0, 0, 0)),
  (4, ([], .iload_n 2, 1, 2, 0, 0, 0)),
  (5, ([], .invokevirtual 86, 3, 0, 13, 0, 0)),
  (8, ([], .i2l, 1, 0, 0, 0, 0)),
  (9, ([], .lastore, 1, 0, 0, 0, 0)),
  (10, ([], .goto 11, 3, 21, 0, 0, 0)),
  (21, ([], .iconst 0, 1, 0, 0, 0, 0)),
  (22, ([], .ireturn, 1, 0, 0, 0, 0))]
def hn_L_seriesOf : List (Nat × Int32) := [(0, 1), (1, 2)]
noncomputable def E_L_seriesOf : Kt := exL SKc SKn SKr CS (lkp T_L_seriesOf) [F_X6_seriesOf] hn_L_seriesOf []
noncomputable def F_L_seriesOf : Fn := fun as h => gd (chkA 4 as) (E_L_seriesOf 0 (pad 5 as) [] h)
set_option maxRecDepth 100000 in
set_option maxHeartbeats 4000000 in
theorem e_L_seriesOf_0 (x1 : Int32) (x2 : Int32) (h : Hp) : F_L_seriesOf [.ref 0, .int x1, .int x2, .ref 275] h = bI (F_X6_seriesOf [.ref 0, .int x1, .int x2] h) (fun v2 h1 => gd (inb 0 1) (rtn (some (.int 0)) (wrL h1 ((0 : Int32).toNatClampNeg) (Int32.toInt64 v2)))) (hnk hn_L_seriesOf) :=
  (exL_it SKc SKn SKr CS (lkp T_L_seriesOf) [F_X6_seriesOf] hn_L_seriesOf [] [] 11 0 [.ref 0, .int x1, .int x2, .ref 275, .retAddr 0] [] h).trans rfl

def T_L_earns : List (Nat × Ent) := [(0, ([], .aload_n 2, 1, 2, 0, 0, 0)),
  (1, ([], .iconst 0, 1, 0, 0, 0, 0)),
  (2, ([], .aload_n 0, 1, 0, 0, 0, 0)),
  (3, ([], .iload_n 1, 1, 1, 0, 0, 0)),
  (4, ([], .invokevirtual 89, 3, 0, 9, 0, 0)),
  (7, ([], .ifCond .eq 7, 3, 14, 0, 0, 0)),
  (10, ([], .lconst 1, 1, 0, 0, 0, 0)),
  (11, ([], .goto 4, 3, 15, 0, 0, 0)),
  (14, ([], .lconst 0, 1, 0, 0, 0, 0)),
  (15, ([], .lastore, 1, 0, 0, 0, 0)),
  (16, ([], .goto 6, 3, 22, 0, 0, 0)),
  (22, ([], .iconst 0, 1, 0, 0, 0, 0)),
  (23, ([], .ireturn, 1, 0, 0, 0, 0))]
def hn_L_earns : List (Nat × Int32) := [(0, 1)]
noncomputable def E_L_earns : Kt := exL SKc SKn SKr CS (lkp T_L_earns) [F_X6_earns] hn_L_earns []
noncomputable def F_L_earns : Fn := fun as h => gd (chkA 3 as) (E_L_earns 0 (pad 4 as) [] h)
set_option maxRecDepth 100000 in
set_option maxHeartbeats 4000000 in
theorem e_L_earns_0 (x1 : Int32) (h : Hp) : F_L_earns [.ref 0, .int x1, .ref 275] h = bI (F_X6_earns [.ref 0, .int x1] h) (fun v2 h1 => if v2 = 0 then gd (inb 0 1) (rtn (some (.int 0)) (wrL h1 ((0 : Int32).toNatClampNeg) (Int64.ofNat 0))) else gd (inb 0 1) (rtn (some (.int 0)) (wrL h1 ((0 : Int32).toNatClampNeg) (Int64.ofNat 1)))) (hnk hn_L_earns) :=
  (exL_it SKc SKn SKr CS (lkp T_L_earns) [F_X6_earns] hn_L_earns [] [] 12 0 [.ref 0, .int x1, .ref 275, .retAddr 0] [] h).trans rfl

def T_L_rightOf : List (Nat × Ent) := [(0, ([], .aload_n 3, 1, 3, 0, 0, 0)),
  (1, ([], .iconst 0, 1, 0, 0, 0, 0)),
  (2, ([], .aload_n 0, 1, 0, 0, 0, 0)),
  (3, ([], .iload_n 1, 1, 1, 0, 0, 0)),
  (4, ([], .iload_n 2, 1, 2, 0, 0, 0)),
  (5, ([], .invokevirtual 92, 3, 0, 13, 0, 0)),
  (8, ([], .i2l, 1, 0, 0, 0, 0)),
  (9, ([], .lastore, 1, 0, 0, 0, 0)),
  (10, ([], .goto 11, 3, 21, 0, 0, 0)),
  (21, ([], .iconst 0, 1, 0, 0, 0, 0)),
  (22, ([], .ireturn, 1, 0, 0, 0, 0))]
def hn_L_rightOf : List (Nat × Int32) := [(0, 1), (1, 2)]
noncomputable def E_L_rightOf : Kt := exL SKc SKn SKr CS (lkp T_L_rightOf) [F_X6_rightOf] hn_L_rightOf []
noncomputable def F_L_rightOf : Fn := fun as h => gd (chkA 4 as) (E_L_rightOf 0 (pad 5 as) [] h)
set_option maxRecDepth 100000 in
set_option maxHeartbeats 4000000 in
theorem e_L_rightOf_0 (x1 : Int32) (x2 : Int32) (h : Hp) : F_L_rightOf [.ref 0, .int x1, .int x2, .ref 275] h = bI (F_X6_rightOf [.ref 0, .int x1, .int x2] h) (fun v2 h1 => gd (inb 0 1) (rtn (some (.int 0)) (wrL h1 ((0 : Int32).toNatClampNeg) (Int32.toInt64 v2)))) (hnk hn_L_rightOf) :=
  (exL_it SKc SKn SKr CS (lkp T_L_rightOf) [F_X6_rightOf] hn_L_rightOf [] [] 11 0 [.ref 0, .int x1, .int x2, .ref 275, .retAddr 0] [] h).trans rfl

def T_L_isNew : List (Nat × Ent) := [(0, ([], .aload_n 3, 1, 3, 0, 0, 0)),
  (1, ([], .iconst 0, 1, 0, 0, 0, 0)),
  (2, ([], .aload_n 0, 1, 0, 0, 0, 0)),
  (3, ([], .iload_n 1, 1, 1, 0, 0, 0)),
  (4, ([], .iload_n 2, 1, 2, 0, 0, 0)),
  (5, ([], .invokevirtual 95, 3, 0, 13, 0, 0)),
  (8, ([], .ifCond .eq 7, 3, 15, 0, 0, 0)),
  (11, ([], .lconst 1, 1, 0, 0, 0, 0)),
  (12, ([], .goto 4, 3, 16, 0, 0, 0)),
  (15, ([], .lconst 0, 1, 0, 0, 0, 0)),
  (16, ([], .lastore, 1, 0, 0, 0, 0)),
  (17, ([], .goto 7, 3, 24, 0, 0, 0)),
  (24, ([], .iconst 0, 1, 0, 0, 0, 0)),
  (25, ([], .ireturn, 1, 0, 0, 0, 0))]
def hn_L_isNew : List (Nat × Int32) := [(0, 1)]
noncomputable def E_L_isNew : Kt := exL SKc SKn SKr CS (lkp T_L_isNew) [F_X6_isNew] hn_L_isNew []
noncomputable def F_L_isNew : Fn := fun as h => gd (chkA 4 as) (E_L_isNew 0 (pad 5 as) [] h)
set_option maxRecDepth 100000 in
set_option maxHeartbeats 4000000 in
theorem e_L_isNew_0 (x1 : Int32) (x2 : Int32) (h : Hp) : F_L_isNew [.ref 0, .int x1, .int x2, .ref 275] h = bI (F_X6_isNew [.ref 0, .int x1, .int x2] h) (fun v2 h1 => if v2 = 0 then gd (inb 0 1) (rtn (some (.int 0)) (wrL h1 ((0 : Int32).toNatClampNeg) (Int64.ofNat 0))) else gd (inb 0 1) (rtn (some (.int 0)) (wrL h1 ((0 : Int32).toNatClampNeg) (Int64.ofNat 1)))) (hnk hn_L_isNew) :=
  (exL_it SKc SKn SKr CS (lkp T_L_isNew) [F_X6_isNew] hn_L_isNew [] [] 13 0 [.ref 0, .int x1, .int x2, .ref 275, .retAddr 0] [] h).trans rfl

def T_L_count : List (Nat × Ent) := [(0, ([], .aload_n 2, 1, 2, 0, 0, 0)),
  (1, ([], .iconst 0, 1, 0, 0, 0, 0)),
  (2, ([], .aload_n 0, 1, 0, 0, 0, 0)),
  (3, ([], .iload_n 1, 1, 1, 0, 0, 0)),
  (4, ([], .invokevirtual 99, 3, 0, 9, 0, 0)),
  (7, ([], .i2l, 1, 0, 0, 0, 0)),
  (8, ([], .lastore, 1, 0, 0, 0, 0)),
  (9, ([], .goto 6, 3, 15, 0, 0, 0)),
  (15, ([], .iconst 0, 1, 0, 0, 0, 0)),
  (16, ([], .ireturn, 1, 0, 0, 0, 0))]
def hn_L_count : List (Nat × Int32) := [(1, 1)]
noncomputable def E_L_count : Kt := exL SKc SKn SKr CS (lkp T_L_count) [F_X6_count] hn_L_count []
noncomputable def F_L_count : Fn := fun as h => gd (chkA 3 as) (E_L_count 0 (pad 4 as) [] h)
set_option maxRecDepth 100000 in
set_option maxHeartbeats 4000000 in
theorem e_L_count_0 (x1 : Int32) (h : Hp) : F_L_count [.ref 0, .int x1, .ref 275] h = bI (F_X6_count [.ref 0, .int x1] h) (fun v2 h1 => gd (inb 0 1) (rtn (some (.int 0)) (wrL h1 ((0 : Int32).toNatClampNeg) (Int32.toInt64 v2)))) (hnk hn_L_count) :=
  (exL_it SKc SKn SKr CS (lkp T_L_count) [F_X6_count] hn_L_count [] [] 10 0 [.ref 0, .int x1, .ref 275, .retAddr 0] [] h).trans rfl
