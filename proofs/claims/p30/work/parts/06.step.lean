/-! what is checked of a code table, once and for all -/
def fldW (own : String) (idx b d ci : Nat) (isR : Bool) (desc : Option String) : Bool := match vwCl[ci]? with
  | some (_, T, N) => Nat.blt b N && (rfk ci b == isR) && (match lw_tbl[d % 4096]? with
    | some (.fieldLink o i ref n ds) => decide (o = own) && decide (i = idx) && decide (n = (T b).2.1) && decide (ds = (T b).2.2.1) && (decide (ref = (T b).1) || (match lw_tbl[d / 4096]? with
      | some (.sameField r2 o2 n2 d2) => decide (r2 = ref) && decide (o2 = (T b).1) && decide (n2 = (T b).2.1) && decide (d2 = (T b).2.2.1)
      | _ => false))
    | _ => false) && (match desc with
    | some q => decide ((T b).2.2.1 = q) && decide ((T b).2.2.2 = false)
    | none => true)
  | none => false
def inC (cps : Option (List Nat)) (pc : Nat) : Bool := match cps with
  | some q => decide (pc ∈ q)
  | none => true
def tgOK (pc : Nat) (off : Int) (b : Nat) : Bool := decide ((pc : Int) + off = (b : Int))
def chkI (own : String) (nL zc : Nat) (sw : List (List Nat)) (cal : List (Nat × Nat × Nat × Nat × Nat)) (cps : Option (List Nat)) (thw : List (Nat × Nat)) (pc len b c d : Nat) (x : Int32) : Instr → Bool
  | .iconst n => Nat.beq len 1 && decide (Int32.ofInt n = x)
  | .bipush n => Nat.beq len 2 && decide ((Int8.ofInt n).toInt32 = x)
  | .sipush n => Nat.beq len 3 && decide ((Int16.ofInt n).toInt32 = x)
  | .ldc k => Nat.beq len 2 && decide (lw_tbl[d]? = some (.constant own k x))
  | .ldc_w k => Nat.beq len 3 && decide (lw_tbl[d]? = some (.constant own k x))
  | .lconst _ => Nat.beq len 1
  | .aconst_null => Nat.beq len 1
  | .iload_n k => Nat.beq len 1 && Nat.beq k b
  | .iload k => Nat.beq len 2 && Nat.beq k b
  | .aload_n k => Nat.beq len 1 && Nat.beq k b
  | .aload k => Nat.beq len 2 && Nat.beq k b
  | .istore_n k => Nat.beq len 1 && Nat.beq k b && Nat.blt b nL
  | .istore k => Nat.beq len 2 && Nat.beq k b && Nat.blt b nL
  | .astore_n k => Nat.beq len 1 && Nat.beq k b && Nat.blt b nL
  | .astore k => Nat.beq len 2 && Nat.beq k b && Nat.blt b nL
  | .iinc k n => Nat.beq len 3 && Nat.beq k b && decide (Int32.ofInt n = x) && Nat.blt b nL
  | .iadd => Nat.beq len 1
  | .isub => Nat.beq len 1
  | .imul => Nat.beq len 1
  | .iand => Nat.beq len 1
  | .ior => Nat.beq len 1
  | .ishl => Nat.beq len 1
  | .ishr => Nat.beq len 1
  | .iushr => Nat.beq len 1
  | .idiv => Nat.beq len 1
  | .irem => Nat.beq len 1
  | .ineg => Nat.beq len 1
  | .i2l => Nat.beq len 1
  | .lcmp => Nat.beq len 1
  | .dup => Nat.beq len 1
  | .dup2 => Nat.beq len 1
  | .pop => Nat.beq len 1
  | .ifnull off => Nat.beq len 3 && tgOK pc off b
  | .if_icmp _ off => Nat.beq len 3 && tgOK pc off b
  | .ifCond _ off => Nat.beq len 3 && tgOK pc off b
  | .goto off => Nat.beq len 3 && tgOK pc off b
  | .tableswitch dflt lo hi offs => decide (lo = 0) && decide (hi + 1 = (offs.size : Int)) && tgOK pc dflt b && decide (offs.toList.map (fun o => (pc : Int) + o) = (nthS sw c).map Int.ofNat) && Nat.blt offs.size 100
  | .getfield k => Nat.beq len 3 && (CS (c / 2)).all (fun ci => fldW own k b d ci (Nat.beq (c % 2) 1) none)
  | .putfield k => Nat.beq len 3 && (CS (c / 2)).all (fun ci => fldW own k b d ci false (some (match c % 2 with | 0 => "I" | _ => "Z")))
  | .iaload => Nat.beq len 1
  | .aaload => Nat.beq len 1
  | .iastore => Nat.beq len 1
  | .arraylength => Nat.beq len 1
  | .invokevirtual k => Nat.beq len 3 && decide ((0, k, b, c, d) ∈ cal) && inC cps pc
  | .invokestatic k => Nat.beq len 3 && decide ((1, k, b, c, d) ∈ cal) && inC cps pc
  | .new _ => decide ((pc, b) ∈ thw)
  | .ireturn => Nat.beq len 1 && Nat.beq c zc && Nat.blt zc 2
  | .areturn => Nat.beq len 1 && Nat.beq zc 2
  | .return_ => Nat.beq len 1 && Nat.beq zc 3
  | _ => false
def chkE (own : String) (cc : ByteArray) (nL zc : Nat) (sw : List (List Nat)) (cal : List (Nat × Nat × Nat × Nat × Nat)) (cps : Option (List Nat)) (thw : List (Nat × Nat)) (e : Nat × Ent) : Bool := match e with
  | (pc, _, i, len, b, c, d, x) => decide (decode cc pc = .ok (i, len)) && chkI own nL zc sw cal cps thw pc len b c d x i
theorem fldW_spec {own : String} {idx b d ci : Nat} {isR : Bool} {desc : Option String} (h : fldW own idx b d ci isR desc = true) : ∃ (C : String) (T : u_T) (N : Nat) (ref : String), vwCl[ci]? = some (C, T, N) ∧ b < N ∧ rfk ci b = isR ∧ Cond.fieldLink own idx ref (T b).2.1 (T b).2.2.1 ∈ WG ∧ (ref = (T b).1 ∨ Cond.sameField ref (T b).1 (T b).2.1 (T b).2.2.1 ∈ WG) ∧ ∀ q, desc = some q → (T b).2.2.1 = q ∧ (T b).2.2.2 = false := by
  unfold fldW at h
  cases e : vwCl[ci]? with
  | none => rw [e] at h; cases h
  | some r =>
    obtain ⟨C, T, N⟩ := r
    rw [e] at h
    simp only [Bool.and_eq_true, beq_iff_eq, Nat.blt_eq] at h
    obtain ⟨⟨⟨h1, h2⟩, h3⟩, h4⟩ := h
    cases e3 : lw_tbl[d % 4096]? with
    | none => rw [e3] at h3; cases h3
    | some w =>
      rw [e3] at h3
      cases w with
      | fieldLink o i ref n ds =>
        simp only [Bool.and_eq_true, decide_eq_true_eq, Bool.or_eq_true] at h3
        obtain ⟨⟨⟨⟨h5, h6⟩, h7⟩, h8⟩, h9⟩ := h3
        subst h5; subst h6; subst h7; subst h8
        refine ⟨C, T, N, ref, rfl, h1, h2, wg_in e3 rfl, ?_, ?_⟩
        · rcases h9 with q | q
          · exact Or.inl q
          · cases e4 : lw_tbl[d / 4096]? with
            | none => rw [e4] at q; cases q
            | some w2 =>
              rw [e4] at q
              cases w2 with
              | sameField r2 o2 n2 d2 =>
                simp only [Bool.and_eq_true, decide_eq_true_eq] at q
                obtain ⟨⟨⟨q1, q2⟩, q3⟩, q4⟩ := q
                subst q1; subst q2; subst q3; subst q4
                exact Or.inr (wg_in e4 rfl)
              | _ => cases q
        · intro q hq
          subst hq
          simp only [Bool.and_eq_true, decide_eq_true_eq] at h4
          exact h4
      | _ => cases h3
theorem trA_lt {base sb a : Nat} (h : a < 228) : trA base sb a = base + a := by
  unfold trA
  cases e : Nat.beq a 1000
  · rfl
  · have := Nat.eq_of_beq_eq_true e
    omega
theorem tr_ref {base sb a : Nat} (h : a < 228) : tr base sb (.ref a) = .ref (base + a) := by
  show Value.ref (trA base sb a) = _
  rw [trA_lt h]
theorem entE_obj {base : Nat} {dA : Nat → ClassId} {h : Hp} {a : Nat} (hc : SKc a < 10) : entE base dA h a = .inr (SKc a, (List.range (SKn a)).map (valE base h a (SKc a))) := by
  unfold entE
  rw [show Nat.blt (SKc a) 10 = true from Nat.blt_eq.mpr hc]
  rfl
theorem entE_int {base : Nat} {dA : Nat → ClassId} {h : Hp} {a : Nat} (hc : SKc a = 10 ∨ SKc a = 11) : entE base dA h a = .inl (dA (SKc a - 10), SKn a, .inl (fun j => rd h a j)) := by
  unfold entE
  rcases hc with q | q <;> rw [q] <;> rfl
theorem entE_lng {base : Nat} {dA : Nat → ClassId} {h : Hp} {a : Nat} (hc : SKc a = 12) : entE base dA h a = .inl (dA 2, SKn a, .inr (.inl (fun j => rdL h j))) := by
  unfold entE
  rw [hc]
  rfl
theorem entE_ref {base : Nat} {dA : Nat → ClassId} {h : Hp} {a : Nat} (h1 : 13 ≤ SKc a) : entE base dA h a = .inl (dA (SKc a - 10), SKn a, .inr (.inr (.inr (.inr (fun j => some (base + SKr a j)))))) := by
  unfold entE
  rw [show Nat.blt (SKc a) 10 = false from by rw [Bool.eq_false_iff]; intro z; have := Nat.blt_eq.mp z; omega, show Nat.blt (SKc a) 12 = false from by rw [Bool.eq_false_iff]; intro z; have := Nat.blt_eq.mp z; omega, show Nat.beq (SKc a) 12 = false from by rw [Bool.eq_false_iff]; intro z; have := Nat.eq_of_beq_eq_true z; omega]
  rfl
/-- a write is seen in its own cell alone -/
theorem rd_wr_ne {h : Hp} {a b k j : Nat} {x : Int32} (hb : b ≠ a) : rd (wr h a k x) b j = rd h b j := by
  show (if b = a ∧ j = k then x else h.1 b j) = h.1 b j
  rw [if_neg (fun q => hb q.1)]
theorem rd_wr_eq {h : Hp} {a k j : Nat} {x : Int32} : rd (wr h a k x) a j = if j = k then x else rd h a j := by
  show (if a = a ∧ j = k then x else h.1 a j) = _
  by_cases q : j = k
  · rw [if_pos ⟨rfl, q⟩, if_pos q]
  · rw [if_neg (fun z => q z.2), if_neg q]; rfl
theorem entE_wr {base : Nat} {dA : Nat → ClassId} {h : Hp} {a b k : Nat} {x : Int32} (hb : b ≠ a) : entE base dA (wr h a k x) b = entE base dA h b := by
  have h1 : (fun j => rd (wr h a k x) b j) = fun j => rd h b j := funext fun j => rd_wr_ne hb
  have h2 : valE base (wr h a k x) b (SKc b) = valE base h b (SKc b) := funext fun j => by unfold valE; rw [rd_wr_ne hb]
  have h3 : (fun j => rdL (wr h a k x) j) = fun j => rdL h j := rfl
  unfold entE
  rw [h1, h2, h3]
theorem entE_wrL {base : Nat} {dA : Nat → ClassId} {h : Hp} {b k : Nat} {x : Int64} (hb : SKc b ≠ 12) : entE base dA (wrL h k x) b = entE base dA h b := by
  unfold entE
  have h1 : Nat.beq (SKc b) 12 = false := by rw [Bool.eq_false_iff]; intro z; exact hb (Nat.eq_of_beq_eq_true z)
  rw [h1]
  rfl
theorem skc12 : ∀ a, a < 228 → SKc a = 12 → a = 227 := by decide +kernel
