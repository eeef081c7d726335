/-! ===== the constructors, and the law's beginning: a second small machine; references are written once, as planned ===== -/
abbrev CH : Type := Nat × (Nat → Nat → Int32)
def cw (h : CH) (a k : Nat) (x : Int32) : CH := (h.1, fun b j => match Nat.beq b a && Nat.beq j k with
  | true => x
  | false => h.2 b j)
def cn (h : CH) : CH := (h.1 + 1, fun b j => match Nat.beq b h.1 with
  | true => 0
  | false => h.2 b j)
abbrev CF : Type := Nat → CH → Option CH
def nthC : List CF → Nat → CF
  | [], _ => fun _ _ => none
  | f :: _, 0 => f
  | _ :: t, n + 1 => nthC t n
def cty : ArrayType → Nat
  | .int => 10
  | .boolean => 11
  | .long => 12
  | _ => 98
def exC (ft : Nat → Option Ent) (cl : List CF) (stop : Nat) : Nat → Nat → List Value → List Value → CH → Option (List Value × CH)
  | 0, _, _, _, _ => none
  | f + 1, pc, ls, st, h => cond (Nat.beq pc stop) (match st with
    | [] => cond (Nat.blt stop 90000) (some (ls, h)) none
    | _ => none) (match ft pc with
    | none => none
    | some (_, i, len, b, c, d, x) => match i, st with
      | .iconst _, st => exC ft cl stop f (pc + len) ls (.int x :: st) h
      | .bipush _, st => exC ft cl stop f (pc + len) ls (.int x :: st) h
      | .sipush _, st => exC ft cl stop f (pc + len) ls (.int x :: st) h
      | .iload_n _, st => match nth ls b with
        | .int v => exC ft cl stop f (pc + len) ls (.int v :: st) h
        | _ => none
      | .aload_n _, st => match nth ls b with
        | .ref v => exC ft cl stop f (pc + len) ls (.ref v :: st) h
        | _ => none
      | .istore_n _, .int v :: t => exC ft cl stop f (pc + len) (setn ls b (.int v)) t h
      | .istore _, .int v :: t => exC ft cl stop f (pc + len) (setn ls b (.int v)) t h
      | .astore_n _, .ref v :: t => exC ft cl stop f (pc + len) (setn ls b (.ref v)) t h
      | .iinc _ _, st => match nth ls b with
        | .int v => exC ft cl stop f (pc + len) (setn ls b (.int (v + x))) st h
        | _ => none
      | .goto _, st => exC ft cl stop f b ls st h
      | .if_icmp .ge _, .int y :: .int v :: t => match decide (v < y) with
        | true => exC ft cl stop f (pc + len) ls t h
        | false => exC ft cl stop f b ls t h
      | .dup, .ref v :: t => exC ft cl stop f (pc + len) ls (.ref v :: .ref v :: t) h
      | .getfield _, .ref a :: t => match Nat.blt a h.1 && Nat.beq (SKc a) c && !decide (h.2 a b = 0) with
        | true => exC ft cl stop f (pc + len) ls (.ref (SKr a b) :: t) h
        | false => none
      | .putfield _, .int v :: .ref a :: t => match Nat.blt a h.1 && Nat.beq (SKc a) c && !rfk c b with
        | true => exC ft cl stop f (pc + len) ls t (cw h a b v)
        | false => none
      | .putfield _, .ref v :: .ref a :: t => match Nat.blt a h.1 && Nat.beq (SKc a) c && rfk c b && Nat.beq (SKr a b) v with
        | true => exC ft cl stop f (pc + len) ls t (cw h a b 1)
        | false => none
      | .arraylength, .ref a :: t => match Nat.blt a h.1 && Nat.ble 10 (SKc a) && Nat.ble (SKc a) 17 with
        | true => exC ft cl stop f (pc + len) ls (.int (Int32.ofNat (SKn a)) :: t) h
        | false => none
      | .iastore, .int v :: .int j :: .ref a :: t => match Nat.blt a h.1 && Nat.beq (SKc a) 10 && inb j (SKn a) with
        | true => exC ft cl stop f (pc + len) ls t (cw h a j.toNatClampNeg v)
        | false => none
      | .aastore, .ref v :: .int j :: .ref a :: t => match Nat.blt a h.1 && Nat.blt v h.1 && Nat.beq (SKc a) b && Nat.ble 13 b && Nat.ble b 17 && Nat.beq (SKc v) c && inb j (SKn a) && Nat.beq (SKr a j.toNatClampNeg) v with
        | true => exC ft cl stop f (pc + len) ls t (cw h a j.toNatClampNeg 1)
        | false => none
      | .newarray ty, .int v :: t => match Nat.blt h.1 228 && Nat.beq (SKc h.1) (cty ty) && Nat.ble (cty ty) 12 && decide (v = Int32.ofNat (SKn h.1)) with
        | true => exC ft cl stop f (pc + len) ls (.ref h.1 :: t) (cn h)
        | false => none
      | .anewarray _, .int v :: t => match Nat.blt h.1 228 && Nat.beq (SKc h.1) b && Nat.ble 13 b && Nat.ble b 17 && decide (v = Int32.ofNat (SKn h.1)) with
        | true => exC ft cl stop f (pc + len) ls (.ref h.1 :: t) (cn h)
        | false => none
      | .new _, st => match Nat.blt h.1 228 && Nat.beq (SKc h.1) b && Nat.blt b 7 with
        | true => exC ft cl stop f (pc + len) ls (.ref h.1 :: st) (cn h)
        | false => none
      | .invokespecial _, .ref a :: t => match Nat.ble (cats t) 8 && Nat.blt a h.1 && memb (SKc a) (CS d) with
        | true => (match nthC cl b a h with
          | some g => exC ft cl stop f (pc + len) ls t g
          | none => none)
        | false => none
      | .return_, [] => some (ls, h)
      | _, _ => none)
/-- Object's own constructor -/
def C_obj : CF := fun _ h => some h
def ctor (T : List (Nat × Ent)) (cl : List CF) (maxL f : Nat) : CF := fun a h => match exC (lkp T) cl 99999 f 0 (pad maxL [.ref a]) [] h with
  | some (_, g) => some g
  | none => none
def CT_X5 : List (Nat × Ent) := [(0, ([], .aload_n 0, 1, 0, 0, 0, 0)),
  (1, ([], .invokespecial 1, 3, 0, 0, 7, 0)),
  (4, ([], .return_, 1, 0, 0, 0, 0))]
def C_X5 : CF := ctor CT_X5 [C_obj] 1 5
def CT_X1 : List (Nat × Ent) := [(0, ([], .aload_n 0, 1, 0, 0, 0, 0)),
  (1, ([], .invokespecial 3, 3, 1, 0, 4, 0)),
  (4, ([], .return_, 1, 0, 0, 0, 0))]
def C_X1 : CF := ctor CT_X1 [C_obj, C_X5] 1 5
def CT_X2 : List (Nat × Ent) := [(0, ([], .aload_n 0, 1, 0, 0, 0, 0)),
  (1, ([], .invokespecial 3, 3, 1, 0, 6, 0)),
  (4, ([], .return_, 1, 0, 0, 0, 0))]
def C_X2 : CF := ctor CT_X2 [C_obj, C_X5] 1 5
def CT_X3 : List (Nat × Ent) := [(0, ([], .aload_n 0, 1, 0, 0, 0, 0)),
  (1, ([], .invokespecial 3, 3, 0, 0, 3, 0)),
  (4, ([], .return_, 1, 0, 0, 0, 0))]
def C_X3 : CF := ctor CT_X3 [C_obj] 1 5
def CT_X4 : List (Nat × Ent) := [(0, ([], .aload_n 0, 1, 0, 0, 0, 0)),
  (1, ([], .invokespecial 3, 3, 1, 0, 5, 0)),
  (4, ([], .return_, 1, 0, 0, 0, 0))]
def C_X4 : CF := ctor CT_X4 [C_obj, C_X5] 1 5
def CT_X0 : List (Nat × Ent) := [(0, ([], .aload_n 0, 1, 0, 0, 0, 0)),
  (1, ([], .invokespecial 3, 3, 0, 0, 2, 0)),
  (4, ([], .aload_n 0, 1, 0, 0, 0, 0)),
  (5, ([], .bipush 6, 2, 0, 0, 0, 6)),
  (7, ([], .anewarray 9, 3, 14, 0, 0, 0)),
  (10, ([], .putfield 11, 3, 0, 0, 86, 0)),
  (13, ([], .aload_n 0, 1, 0, 0, 0, 0)),
  (14, ([], .bipush 7, 2, 0, 0, 0, 7)),
  (16, ([], .newarray .int, 2, 0, 0, 0, 0)),
  (18, ([], .putfield 17, 3, 1, 0, 87, 0)),
  (21, ([], .aload_n 0, 1, 0, 0, 0, 0)),
  (22, ([], .sipush 9999, 3, 0, 0, 0, 9999)),
  (25, ([], .putfield 21, 3, 5, 0, 94, 0)),
  (28, ([], .iconst 0, 1, 0, 0, 0, 0)),
  (29, ([], .istore_n 1, 1, 1, 0, 0, 0)),
  (30, ([], .iload_n 1, 1, 1, 0, 0, 0)),
  (31, ([], .aload_n 0, 1, 0, 0, 0, 0)),
  (32, ([], .getfield 11, 3, 0, 0, 86, 0)),
  (35, ([], .arraylength, 1, 0, 0, 0, 0)),
  (36, ([], .if_icmp .ge 22, 3, 58, 0, 0, 0)),
  (39, ([], .aload_n 0, 1, 0, 0, 0, 0)),
  (40, ([], .getfield 11, 3, 0, 0, 86, 0)),
  (43, ([], .iload_n 1, 1, 1, 0, 0, 0)),
  (44, ([], .new 9, 3, 3, 0, 0, 0)),
  (47, ([], .dup, 1, 0, 0, 0, 0)),
  (48, ([], .invokespecial 25, 3, 1, 0, 3, 0)),
  (51, ([], .aastore, 1, 14, 3, 0, 0)),
  (52, ([], .iinc 1 1, 3, 1, 0, 0, 1)),
  (55, ([], .goto (-25), 3, 30, 0, 0, 0)),
  (58, ([], .return_, 1, 0, 0, 0, 0))]
def C_X0 : CF := ctor CT_X0 [C_obj, C_X3] 2 200
def CT_X6 : List (Nat × Ent) := [(0, ([], .aload_n 0, 1, 0, 0, 0, 0)),
  (1, ([], .invokespecial 1, 3, 0, 0, 0, 0)),
  (4, ([], .aload_n 0, 1, 0, 0, 0, 0)),
  (5, ([], .iconst 4, 1, 0, 0, 0, 4)),
  (6, ([], .anewarray 9, 3, 13, 0, 0, 0)),
  (9, ([], .putfield 11, 3, 0, 5, 277, 0)),
  (12, ([], .aload_n 0, 1, 0, 0, 0, 0)),
  (13, ([], .bipush 10, 2, 0, 0, 0, 10)),
  (15, ([], .newarray .int, 2, 0, 0, 0, 0)),
  (17, ([], .putfield 15, 3, 1, 5, 278, 0)),
  (20, ([], .aload_n 0, 1, 0, 0, 0, 0)),
  (21, ([], .bipush 60, 2, 0, 0, 0, 60)),
  (23, ([], .anewarray 19, 3, 15, 0, 0, 0)),
  (26, ([], .putfield 21, 3, 2, 5, 279, 0)),
  (29, ([], .aload_n 0, 1, 0, 0, 0, 0)),
  (30, ([], .bipush 60, 2, 0, 0, 0, 60)),
  (32, ([], .anewarray 25, 3, 16, 0, 0, 0)),
  (35, ([], .putfield 27, 3, 3, 5, 280, 0)),
  (38, ([], .aload_n 0, 1, 0, 0, 0, 0)),
  (39, ([], .bipush 60, 2, 0, 0, 0, 60)),
  (41, ([], .anewarray 31, 3, 17, 0, 0, 0)),
  (44, ([], .putfield 33, 3, 4, 5, 281, 0)),
  (47, ([], .aload_n 0, 1, 0, 0, 0, 0)),
  (48, ([], .bipush 60, 2, 0, 0, 0, 60)),
  (50, ([], .newarray .int, 2, 0, 0, 0, 0)),
  (52, ([], .putfield 37, 3, 5, 5, 282, 0)),
  (55, ([], .aload_n 0, 1, 0, 0, 0, 0)),
  (56, ([], .bipush 60, 2, 0, 0, 0, 60)),
  (58, ([], .newarray .int, 2, 0, 0, 0, 0)),
  (60, ([], .putfield 40, 3, 6, 5, 283, 0)),
  (63, ([], .aload_n 0, 1, 0, 0, 0, 0)),
  (64, ([], .bipush 60, 2, 0, 0, 0, 60)),
  (66, ([], .newarray .int, 2, 0, 0, 0, 0)),
  (68, ([], .putfield 43, 3, 7, 5, 284, 0)),
  (71, ([], .aload_n 0, 1, 0, 0, 0, 0)),
  (72, ([], .bipush 60, 2, 0, 0, 0, 60)),
  (74, ([], .newarray .int, 2, 0, 0, 0, 0)),
  (76, ([], .putfield 46, 3, 8, 5, 285, 0)),
  (79, ([], .aload_n 0, 1, 0, 0, 0, 0)),
  (80, ([], .bipush 20, 2, 0, 0, 0, 20)),
  (82, ([], .newarray .int, 2, 0, 0, 0, 0)),
  (84, ([], .putfield 49, 3, 9, 5, 286, 0)),
  (87, ([], .iconst 0, 1, 0, 0, 0, 0)),
  (88, ([], .istore_n 1, 1, 1, 0, 0, 0)),
  (89, ([], .iload_n 1, 1, 1, 0, 0, 0)),
  (90, ([], .aload_n 0, 1, 0, 0, 0, 0)),
  (91, ([], .getfield 11, 3, 0, 5, 277, 0)),
  (94, ([], .arraylength, 1, 0, 0, 0, 0)),
  (95, ([], .if_icmp .ge 22, 3, 117, 0, 0, 0)),
  (98, ([], .aload_n 0, 1, 0, 0, 0, 0)),
  (99, ([], .getfield 11, 3, 0, 5, 277, 0)),
  (102, ([], .iload_n 1, 1, 1, 0, 0, 0)),
  (103, ([], .new 9, 3, 0, 0, 0, 0)),
  (106, ([], .dup, 1, 0, 0, 0, 0)),
  (107, ([], .invokespecial 52, 3, 1, 0, 2, 0)),
  (110, ([], .aastore, 1, 13, 0, 0, 0)),
  (111, ([], .iinc 1 1, 3, 1, 0, 0, 1)),
  (114, ([], .goto (-25), 3, 89, 0, 0, 0)),
  (117, ([], .iconst 0, 1, 0, 0, 0, 0)),
  (118, ([], .istore_n 1, 1, 1, 0, 0, 0)),
  (119, ([], .iload_n 1, 1, 1, 0, 0, 0)),
  (120, ([], .aload_n 0, 1, 0, 0, 0, 0)),
  (121, ([], .getfield 15, 3, 1, 5, 278, 0)),
  (124, ([], .arraylength, 1, 0, 0, 0, 0)),
  (125, ([], .if_icmp .ge 16, 3, 141, 0, 0, 0)),
  (128, ([], .aload_n 0, 1, 0, 0, 0, 0)),
  (129, ([], .getfield 15, 3, 1, 5, 278, 0)),
  (132, ([], .iload_n 1, 1, 1, 0, 0, 0)),
  (133, ([], .iload_n 1, 1, 1, 0, 0, 0)),
  (134, ([], .iastore, 1, 0, 0, 0, 0)),
  (135, ([], .iinc 1 1, 3, 1, 0, 0, 1)),
  (138, ([], .goto (-19), 3, 119, 0, 0, 0)),
  (141, ([], .iconst 0, 1, 0, 0, 0, 0)),
  (142, ([], .istore_n 1, 1, 1, 0, 0, 0)),
  (143, ([], .iload_n 1, 1, 1, 0, 0, 0)),
  (144, ([], .aload_n 0, 1, 0, 0, 0, 0)),
  (145, ([], .getfield 21, 3, 2, 5, 279, 0)),
  (148, ([], .arraylength, 1, 0, 0, 0, 0)),
  (149, ([], .if_icmp .ge 22, 3, 171, 0, 0, 0)),
  (152, ([], .aload_n 0, 1, 0, 0, 0, 0)),
  (153, ([], .getfield 21, 3, 2, 5, 279, 0)),
  (156, ([], .iload_n 1, 1, 1, 0, 0, 0)),
  (157, ([], .new 19, 3, 1, 0, 0, 0)),
  (160, ([], .dup, 1, 0, 0, 0, 0)),
  (161, ([], .invokespecial 53, 3, 2, 0, 4, 0)),
  (164, ([], .aastore, 1, 15, 1, 0, 0)),
  (165, ([], .iinc 1 1, 3, 1, 0, 0, 1)),
  (168, ([], .goto (-25), 3, 143, 0, 0, 0)),
  (171, ([], .iconst 0, 1, 0, 0, 0, 0)),
  (172, ([], .istore_n 1, 1, 1, 0, 0, 0)),
  (173, ([], .iload_n 1, 1, 1, 0, 0, 0)),
  (174, ([], .aload_n 0, 1, 0, 0, 0, 0)),
  (175, ([], .getfield 27, 3, 3, 5, 280, 0)),
  (178, ([], .arraylength, 1, 0, 0, 0, 0)),
  (179, ([], .if_icmp .ge 22, 3, 201, 0, 0, 0)),
  (182, ([], .aload_n 0, 1, 0, 0, 0, 0)),
  (183, ([], .getfield 27, 3, 3, 5, 280, 0)),
  (186, ([], .iload_n 1, 1, 1, 0, 0, 0)),
  (187, ([], .new 25, 3, 4, 0, 0, 0)),
  (190, ([], .dup, 1, 0, 0, 0, 0)),
  (191, ([], .invokespecial 54, 3, 3, 0, 5, 0)),
  (194, ([], .aastore, 1, 16, 4, 0, 0)),
  (195, ([], .iinc 1 1, 3, 1, 0, 0, 1)),
  (198, ([], .goto (-25), 3, 173, 0, 0, 0)),
  (201, ([], .iconst 0, 1, 0, 0, 0, 0)),
  (202, ([], .istore_n 1, 1, 1, 0, 0, 0)),
  (203, ([], .iload_n 1, 1, 1, 0, 0, 0)),
  (204, ([], .aload_n 0, 1, 0, 0, 0, 0)),
  (205, ([], .getfield 33, 3, 4, 5, 281, 0)),
  (208, ([], .arraylength, 1, 0, 0, 0, 0)),
  (209, ([], .if_icmp .ge 22, 3, 231, 0, 0, 0)),
  (212, ([], .aload_n 0, 1, 0, 0, 0, 0)),
  (213, ([], .getfield 33, 3, 4, 5, 281, 0)),
  (216, ([], .iload_n 1, 1, 1, 0, 0, 0)),
  (217, ([], .new 31, 3, 2, 0, 0, 0)),
  (220, ([], .dup, 1, 0, 0, 0, 0)),
  (221, ([], .invokespecial 55, 3, 4, 0, 6, 0)),
  (224, ([], .aastore, 1, 17, 2, 0, 0)),
  (225, ([], .iinc 1 1, 3, 1, 0, 0, 1)),
  (228, ([], .goto (-25), 3, 203, 0, 0, 0)),
  (231, ([], .return_, 1, 0, 0, 0, 0))]
def C_X6 : CF := ctor CT_X6 [C_obj, C_X0, C_X1, C_X4, C_X2] 2 4000
def CT_L : List (Nat × Ent) := [(0, ([], .new 11, 3, 5, 0, 0, 0)),
  (3, ([], .dup, 1, 0, 0, 0, 0)),
  (4, ([], .invokespecial 148, 3, 1, 0, 0, 0)),
  (7, ([], .astore_n 1, 1, 1, 0, 0, 0)),
  (8, ([], .bipush 18, 2, 0, 0, 0, 18)),
  (10, ([], .newarray .int, 2, 0, 0, 0, 0)),
  (12, ([], .astore_n 2, 1, 2, 0, 0, 0))]
def hz0 : CH := (0, fun _ _ => 0)
def lawC (h : CH) : Option (List Value × CH) := exC (lkp CT_L) [C_obj, C_X6] 13 40 0 (pad 6 [.ref 1000]) [] h
/-- what stands where in the end -/
def ini (a k : Nat) : Int32 := match Nat.beq a 2 with
  | true => Int32.ofNat k
  | false => match (rfk (SKc a) k && Nat.blt (SKc a) 7) || (Nat.ble 13 (SKc a) && Nat.ble (SKc a) 17) with
    | true => 1
    | false => match Nat.beq (SKc a) 0 && Nat.beq k 5 with
      | true => 9999
      | false => 0
def lawOK (r : Option (List Value × CH)) : Bool := match r with
  | some (ls, g) => decide (ls = [.ref 1000, .ref 0, .ref 227, .retAddr 0, .retAddr 0, .retAddr 0]) && Nat.beq g.1 228 && (List.range 228).all fun a => (List.range (SKn a)).all fun k => decide (g.2 a k = ini a k)
  | none => false
set_option maxRecDepth 1000000 in
theorem law_begins : lawOK (lawC hz0) = true := by decide +kernel
