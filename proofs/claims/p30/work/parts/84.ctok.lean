/-! the contracts of the constructors -/
def NWL : List NRow := [(RX0, 25, yX3_init, RX6), (RX6, 53, yX1_init, RX6), (RX1, 3, yX5_init, RX6), (RX6, 54, yX4_init, RX6), (RX4, 3, yX5_init, RX6), (RX6, 55, yX2_init, RX6), (RX2, 3, yX5_init, RX6)]
set_option maxRecDepth 100000 in
theorem kC_X5 : CT_X5.all (chkC RX5 cX5_init 1 [(1, 0, 7)]) = true := by decide +kernel
theorem mC_X5 : CMono C_X5 := ctor_mono (nthC_mono (fun F hF => by
  simp only [List.mem_cons, List.not_mem_nil, or_false] at hF
  rcases hF with rfl
  all_goals first | exact cobj_mono ))
set_option maxRecDepth 100000 in
theorem conC_X5 {l : Launch} {d : Nat} : ConC NWL l yX5_init cX5_init 1 C_X5 d 1 20 :=
  conC_of (own := RX5) (cal := [(1, 0, 7)]) rfl rfl (by decide +kernel) (by decide) (fun F hF => by
    simp only [List.mem_cons, List.not_mem_nil, or_false] at hF
    rcases hF with rfl
    all_goals first | exact cobj_mono ) kC_X5 (fun R h1 h2 q hq => by
    simp only [List.mem_cons, List.not_mem_nil, or_false] at hq
    rcases hq with rfl
    · exact callC_obj (by decide +kernel) (by rw [h1, h2]; decide))
set_option maxRecDepth 100000 in
theorem kC_X1 : CT_X1.all (chkC RX1 cX1_init 1 [(3, 1, 4)]) = true := by decide +kernel
theorem mC_X1 : CMono C_X1 := ctor_mono (nthC_mono (fun F hF => by
  simp only [List.mem_cons, List.not_mem_nil, or_false] at hF
  rcases hF with rfl | rfl
  all_goals first | exact cobj_mono | exact mC_X5 ))
set_option maxRecDepth 100000 in
theorem conC_X1 {l : Launch} {d : Nat} : ConC NWL l yX1_init cX1_init 1 C_X1 d 2 40 :=
  conC_of (own := RX1) (cal := [(3, 1, 4)]) rfl rfl (by decide +kernel) (by decide) (fun F hF => by
    simp only [List.mem_cons, List.not_mem_nil, or_false] at hF
    rcases hF with rfl | rfl
    all_goals first | exact cobj_mono | exact mC_X5 ) kC_X1 (fun R h1 h2 q hq => by
    simp only [List.mem_cons, List.not_mem_nil, or_false] at hq
    rcases hq with rfl
    · exact callC_nest (host := RX6) (conC_X5) (by decide +kernel) (by decide +kernel) rfl (by decide +kernel) (by rw [h1, h2]; decide))
set_option maxRecDepth 100000 in
theorem kC_X2 : CT_X2.all (chkC RX2 cX2_init 1 [(3, 1, 6)]) = true := by decide +kernel
theorem mC_X2 : CMono C_X2 := ctor_mono (nthC_mono (fun F hF => by
  simp only [List.mem_cons, List.not_mem_nil, or_false] at hF
  rcases hF with rfl | rfl
  all_goals first | exact cobj_mono | exact mC_X5 ))
set_option maxRecDepth 100000 in
theorem conC_X2 {l : Launch} {d : Nat} : ConC NWL l yX2_init cX2_init 1 C_X2 d 2 40 :=
  conC_of (own := RX2) (cal := [(3, 1, 6)]) rfl rfl (by decide +kernel) (by decide) (fun F hF => by
    simp only [List.mem_cons, List.not_mem_nil, or_false] at hF
    rcases hF with rfl | rfl
    all_goals first | exact cobj_mono | exact mC_X5 ) kC_X2 (fun R h1 h2 q hq => by
    simp only [List.mem_cons, List.not_mem_nil, or_false] at hq
    rcases hq with rfl
    · exact callC_nest (host := RX6) (conC_X5) (by decide +kernel) (by decide +kernel) rfl (by decide +kernel) (by rw [h1, h2]; decide))
set_option maxRecDepth 100000 in
theorem kC_X3 : CT_X3.all (chkC RX3 cX3_init 1 [(3, 0, 3)]) = true := by decide +kernel
theorem mC_X3 : CMono C_X3 := ctor_mono (nthC_mono (fun F hF => by
  simp only [List.mem_cons, List.not_mem_nil, or_false] at hF
  rcases hF with rfl
  all_goals first | exact cobj_mono ))
set_option maxRecDepth 100000 in
theorem conC_X3 {l : Launch} {d : Nat} : ConC NWL l yX3_init cX3_init 1 C_X3 d 1 20 :=
  conC_of (own := RX3) (cal := [(3, 0, 3)]) rfl rfl (by decide +kernel) (by decide) (fun F hF => by
    simp only [List.mem_cons, List.not_mem_nil, or_false] at hF
    rcases hF with rfl
    all_goals first | exact cobj_mono ) kC_X3 (fun R h1 h2 q hq => by
    simp only [List.mem_cons, List.not_mem_nil, or_false] at hq
    rcases hq with rfl
    · exact callC_obj (by decide +kernel) (by rw [h1, h2]; decide))
set_option maxRecDepth 100000 in
theorem kC_X4 : CT_X4.all (chkC RX4 cX4_init 1 [(3, 1, 5)]) = true := by decide +kernel
theorem mC_X4 : CMono C_X4 := ctor_mono (nthC_mono (fun F hF => by
  simp only [List.mem_cons, List.not_mem_nil, or_false] at hF
  rcases hF with rfl | rfl
  all_goals first | exact cobj_mono | exact mC_X5 ))
set_option maxRecDepth 100000 in
theorem conC_X4 {l : Launch} {d : Nat} : ConC NWL l yX4_init cX4_init 1 C_X4 d 2 40 :=
  conC_of (own := RX4) (cal := [(3, 1, 5)]) rfl rfl (by decide +kernel) (by decide) (fun F hF => by
    simp only [List.mem_cons, List.not_mem_nil, or_false] at hF
    rcases hF with rfl | rfl
    all_goals first | exact cobj_mono | exact mC_X5 ) kC_X4 (fun R h1 h2 q hq => by
    simp only [List.mem_cons, List.not_mem_nil, or_false] at hq
    rcases hq with rfl
    · exact callC_nest (host := RX6) (conC_X5) (by decide +kernel) (by decide +kernel) rfl (by decide +kernel) (by rw [h1, h2]; decide))
set_option maxRecDepth 100000 in
theorem kC_X0 : CT_X0.all (chkC RX0 cX0_init 2 [(3, 0, 2), (25, 1, 3)]) = true := by decide +kernel
theorem mC_X0 : CMono C_X0 := ctor_mono (nthC_mono (fun F hF => by
  simp only [List.mem_cons, List.not_mem_nil, or_false] at hF
  rcases hF with rfl | rfl
  all_goals first | exact cobj_mono | exact mC_X3 ))
set_option maxRecDepth 100000 in
theorem conC_X0 {l : Launch} {d : Nat} : ConC NWL l yX0_init cX0_init 2 C_X0 d 2 40 :=
  conC_of (own := RX0) (cal := [(3, 0, 2), (25, 1, 3)]) rfl rfl (by decide +kernel) (by decide) (fun F hF => by
    simp only [List.mem_cons, List.not_mem_nil, or_false] at hF
    rcases hF with rfl | rfl
    all_goals first | exact cobj_mono | exact mC_X3 ) kC_X0 (fun R h1 h2 q hq => by
    simp only [List.mem_cons, List.not_mem_nil, or_false] at hq
    rcases hq with rfl | rfl
    · exact callC_obj (by decide +kernel) (by rw [h1, h2]; decide)
    · exact callC_nest (host := RX6) (conC_X3) (by decide +kernel) (by decide +kernel) rfl (by decide +kernel) (by rw [h1, h2]; decide))
set_option maxRecDepth 100000 in
theorem kC_X6 : CT_X6.all (chkC RX6 cX6_init 2 [(1, 0, 0), (52, 1, 2), (53, 2, 4), (54, 3, 5), (55, 4, 6)]) = true := by decide +kernel
theorem mC_X6 : CMono C_X6 := ctor_mono (nthC_mono (fun F hF => by
  simp only [List.mem_cons, List.not_mem_nil, or_false] at hF
  rcases hF with rfl | rfl | rfl | rfl | rfl
  all_goals first | exact cobj_mono | exact mC_X0 | exact mC_X1 | exact mC_X4 | exact mC_X2 ))
set_option maxRecDepth 100000 in
theorem conC_X6 {l : Launch} {d : Nat} : ConC NWL l yX6_init cX6_init 2 C_X6 d 3 61 :=
  conC_of (own := RX6) (cal := [(1, 0, 0), (52, 1, 2), (53, 2, 4), (54, 3, 5), (55, 4, 6)]) rfl rfl (by decide +kernel) (by decide) (fun F hF => by
    simp only [List.mem_cons, List.not_mem_nil, or_false] at hF
    rcases hF with rfl | rfl | rfl | rfl | rfl
    all_goals first | exact cobj_mono | exact mC_X0 | exact mC_X1 | exact mC_X4 | exact mC_X2 ) kC_X6 (fun R h1 h2 q hq => by
    simp only [List.mem_cons, List.not_mem_nil, or_false] at hq
    rcases hq with rfl | rfl | rfl | rfl | rfl
    · exact callC_obj (by decide +kernel) (by rw [h1, h2]; decide)
    · exact callC_of (conC_X0) (by decide +kernel) rfl (by decide +kernel) (by rw [h1, h2]; decide)
    · exact callC_nest (host := RX6) (conC_X1) (by decide +kernel) (by decide +kernel) rfl (by decide +kernel) (by rw [h1, h2]; decide)
    · exact callC_nest (host := RX6) (conC_X4) (by decide +kernel) (by decide +kernel) rfl (by decide +kernel) (by rw [h1, h2]; decide)
    · exact callC_nest (host := RX6) (conC_X2) (by decide +kernel) (by decide +kernel) rfl (by decide +kernel) (by rw [h1, h2]; decide))
