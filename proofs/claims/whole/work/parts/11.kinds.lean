def kBec (k : Int32) (z : Bool) (mv sp : Int32) : Bool := if k = 1 then z || decide (sp ≤ mv) else if k = 2 then z && !decide (sp ≤ mv) else if k = 3 then z != decide (sp ≤ mv) else if k = 4 then decide (mv < sp + 3) && (z || decide (sp ≤ mv)) else decide (sp ≤ mv)
def kad (a : Nat → Nat) (k : Int32) : Nat := if k = 1 then a 1 else if k = 2 then a 2 else if k = 3 then a 3 else if k = 4 then a 4 else a 0
theorem pf_X3_7 : PF RX3 7 yX1_becomes cX1_becomes 4 (some .boolean) 3 := ⟨goodIn_gtA (fun z hz => by
  simp only [List.mem_cons, List.not_mem_nil, or_false] at hz
  rcases hz with rfl | rfl | rfl | rfl | rfl
  · exact (gt_of (w := .methodLink RX3 7 yX1_becomes) 603 (by decide +kernel) rfl)
  · exact (gt_of (w := .sameMethod "OneBell$Door" "OneBell$Door" "becomes" "(ZII)Z") 599 (by decide +kernel) rfl)
  · exact (gt_of (w := .superclass RX3 RX1) 136 (by decide +kernel) rfl)
  · exact (gt_of (w := .instanceMethod yX1_becomes) 597 (by decide +kernel) rfl)
  · exact (gt_of (w := .initialized RX1) 4 (by decide +kernel) rfl)) cd_X1_becomes, by decide +kernel⟩
theorem pf_X4_7 : PF RX4 7 yX1_becomes cX1_becomes 4 (some .boolean) 3 := ⟨goodIn_gtA (fun z hz => by
  simp only [List.mem_cons, List.not_mem_nil, or_false] at hz
  rcases hz with rfl | rfl | rfl | rfl | rfl
  · exact (gt_of (w := .methodLink RX4 7 yX1_becomes) 607 (by decide +kernel) rfl)
  · exact (gt_of (w := .sameMethod "OneBell$Door" "OneBell$Door" "becomes" "(ZII)Z") 599 (by decide +kernel) rfl)
  · exact (gt_of (w := .superclass RX4 RX1) 143 (by decide +kernel) rfl)
  · exact (gt_of (w := .instanceMethod yX1_becomes) 597 (by decide +kernel) rfl)
  · exact (gt_of (w := .initialized RX1) 4 (by decide +kernel) rfl)) cd_X1_becomes, by decide +kernel⟩
theorem pf_X7_9 : PF RX7 9 yX3_becomes cX3_becomes 4 (some .boolean) 3 := ⟨goodIn_gtA (fun z hz => by
  simp only [List.mem_cons, List.not_mem_nil, or_false] at hz
  rcases hz with rfl | rfl | rfl | rfl | rfl
  · exact (gt_of (w := .methodLink RX7 9 yX3_becomes) 611 (by decide +kernel) rfl)
  · exact (gt_of (w := .sameMethod "OneBell$Latch" "OneBell$Latch" "becomes" "(ZII)Z") 1272 (by decide +kernel) rfl)
  · exact (gt_of (w := .superclass RX7 RX3) 157 (by decide +kernel) rfl)
  · exact (gt_of (w := .instanceMethod yX3_becomes) 601 (by decide +kernel) rfl)
  · exact (gt_of (w := .initialized RX3) 5 (by decide +kernel) rfl)) cd_X3_becomes, by decide +kernel⟩
theorem pf_X10_7 : PF RX10 7 yX3_becomes cX3_becomes 4 (some .boolean) 3 := ⟨goodIn_gtA (fun z hz => by
  simp only [List.mem_cons, List.not_mem_nil, or_false] at hz
  rcases hz with rfl | rfl | rfl | rfl | rfl
  · exact (gt_of (w := .methodLink RX10 7 yX3_becomes) 615 (by decide +kernel) rfl)
  · exact (gt_of (w := .sameMethod "OneBell$Latch" "OneBell$Latch" "becomes" "(ZII)Z") 1272 (by decide +kernel) rfl)
  · exact (gt_of (w := .superclass RX10 RX3) 150 (by decide +kernel) rfl)
  · exact (gt_of (w := .instanceMethod yX3_becomes) 601 (by decide +kernel) rfl)
  · exact (gt_of (w := .initialized RX3) 5 (by decide +kernel) rfl)) cd_X3_becomes, by decide +kernel⟩
theorem uf_X8_63_X3 : UF RX8 63 3 yX1_becomes yX3_becomes cX3_becomes 4 (some .boolean) 3 := ⟨TX3, 0, "OneBell$Door", cX1_becomes, 4, some .boolean, rfl, goodIn_gtA (fun z hz => by
  simp only [List.mem_cons, List.not_mem_nil, or_false] at hz
  rcases hz with rfl | rfl | rfl | rfl | rfl | rfl
  · exact (gt_of (w := .methodLink RX8 63 yX1_becomes) 596 (by decide +kernel) rfl)
  · exact (gt_of (w := .sameMethod "OneBell$Door" "OneBell$Door" "becomes" "(ZII)Z") 599 (by decide +kernel) rfl)
  · exact (gt_of (w := .instanceMethod ⟨"OneBell$Door", "becomes", "(ZII)Z"⟩) 597 (by decide +kernel) rfl)
  · exact (gt_of (w := .selects RX3 yX1_becomes yX3_becomes) 600 (by decide +kernel) rfl)
  · exact (gt_of (w := .instanceMethod yX3_becomes) 601 (by decide +kernel) rfl)
  · exact (gt_of (w := .initialized RX3) 5 (by decide +kernel) rfl)) cd_X3_becomes, cd_X1_becomes, by decide +kernel⟩
theorem uf_X8_63_X4 : UF RX8 63 4 yX1_becomes yX4_becomes cX4_becomes 4 (some .boolean) 3 := ⟨TX4, 0, "OneBell$Door", cX1_becomes, 4, some .boolean, rfl, goodIn_gtA (fun z hz => by
  simp only [List.mem_cons, List.not_mem_nil, or_false] at hz
  rcases hz with rfl | rfl | rfl | rfl | rfl | rfl
  · exact (gt_of (w := .methodLink RX8 63 yX1_becomes) 596 (by decide +kernel) rfl)
  · exact (gt_of (w := .sameMethod "OneBell$Door" "OneBell$Door" "becomes" "(ZII)Z") 599 (by decide +kernel) rfl)
  · exact (gt_of (w := .instanceMethod ⟨"OneBell$Door", "becomes", "(ZII)Z"⟩) 597 (by decide +kernel) rfl)
  · exact (gt_of (w := .selects RX4 yX1_becomes yX4_becomes) 604 (by decide +kernel) rfl)
  · exact (gt_of (w := .instanceMethod yX4_becomes) 605 (by decide +kernel) rfl)
  · exact (gt_of (w := .initialized RX4) 6 (by decide +kernel) rfl)) cd_X4_becomes, cd_X1_becomes, by decide +kernel⟩
theorem uf_X8_63_X10 : UF RX8 63 10 yX1_becomes yX10_becomes cX10_becomes 4 (some .boolean) 3 := ⟨TX10, 0, "OneBell$Door", cX1_becomes, 4, some .boolean, rfl, goodIn_gtA (fun z hz => by
  simp only [List.mem_cons, List.not_mem_nil, or_false] at hz
  rcases hz with rfl | rfl | rfl | rfl | rfl | rfl
  · exact (gt_of (w := .methodLink RX8 63 yX1_becomes) 596 (by decide +kernel) rfl)
  · exact (gt_of (w := .sameMethod "OneBell$Door" "OneBell$Door" "becomes" "(ZII)Z") 599 (by decide +kernel) rfl)
  · exact (gt_of (w := .instanceMethod ⟨"OneBell$Door", "becomes", "(ZII)Z"⟩) 597 (by decide +kernel) rfl)
  · exact (gt_of (w := .selects RX10 yX1_becomes yX10_becomes) 612 (by decide +kernel) rfl)
  · exact (gt_of (w := .instanceMethod yX10_becomes) 613 (by decide +kernel) rfl)
  · exact (gt_of (w := .initialized RX10) 7 (by decide +kernel) rfl)) cd_X10_becomes, cd_X1_becomes, by decide +kernel⟩
theorem uf_X8_63_X7 : UF RX8 63 7 yX1_becomes yX7_becomes cX7_becomes 4 (some .boolean) 3 := ⟨TX7, 0, "OneBell$Door", cX1_becomes, 4, some .boolean, rfl, goodIn_gtA (fun z hz => by
  simp only [List.mem_cons, List.not_mem_nil, or_false] at hz
  rcases hz with rfl | rfl | rfl | rfl | rfl | rfl
  · exact (gt_of (w := .methodLink RX8 63 yX1_becomes) 596 (by decide +kernel) rfl)
  · exact (gt_of (w := .sameMethod "OneBell$Door" "OneBell$Door" "becomes" "(ZII)Z") 599 (by decide +kernel) rfl)
  · exact (gt_of (w := .instanceMethod ⟨"OneBell$Door", "becomes", "(ZII)Z"⟩) 597 (by decide +kernel) rfl)
  · exact (gt_of (w := .selects RX7 yX1_becomes yX7_becomes) 608 (by decide +kernel) rfl)
  · exact (gt_of (w := .instanceMethod yX7_becomes) 609 (by decide +kernel) rfl)
  · exact (gt_of (w := .initialized RX7) 8 (by decide +kernel) rfl)) cd_X7_becomes, cd_X1_becomes, by decide +kernel⟩
theorem vb_X8_63 : VF RX8 63 1 yX1_becomes cX1_becomes 4 (some .boolean) 3 := VF.mk rfl (by decide +kernel) (gt_of (w := .methodLink RX8 63 yX1_becomes) 596 (by decide +kernel) rfl) (gt_of (w := .instanceMethod yX1_becomes) 597 (by decide +kernel) rfl) (gt_of (w := .selects RX1 yX1_becomes yX1_becomes) 598 (by decide +kernel) rfl) (gt_of (w := .initialized RX1) 4 (by decide +kernel) rfl) cd_X1_becomes
theorem uf_X6_78_X3 : UF RX6 78 3 yX1_becomes yX3_becomes cX3_becomes 4 (some .boolean) 3 := ⟨TX3, 0, "OneBell$Door", cX1_becomes, 4, some .boolean, rfl, goodIn_gtA (fun z hz => by
  simp only [List.mem_cons, List.not_mem_nil, or_false] at hz
  rcases hz with rfl | rfl | rfl | rfl | rfl | rfl
  · exact (gt_of (w := .methodLink RX6 78 yX1_becomes) 779 (by decide +kernel) rfl)
  · exact (gt_of (w := .sameMethod "OneBell$Door" "OneBell$Door" "becomes" "(ZII)Z") 599 (by decide +kernel) rfl)
  · exact (gt_of (w := .instanceMethod ⟨"OneBell$Door", "becomes", "(ZII)Z"⟩) 597 (by decide +kernel) rfl)
  · exact (gt_of (w := .selects RX3 yX1_becomes yX3_becomes) 600 (by decide +kernel) rfl)
  · exact (gt_of (w := .instanceMethod yX3_becomes) 601 (by decide +kernel) rfl)
  · exact (gt_of (w := .initialized RX3) 5 (by decide +kernel) rfl)) cd_X3_becomes, cd_X1_becomes, by decide +kernel⟩
theorem uf_X6_78_X4 : UF RX6 78 4 yX1_becomes yX4_becomes cX4_becomes 4 (some .boolean) 3 := ⟨TX4, 0, "OneBell$Door", cX1_becomes, 4, some .boolean, rfl, goodIn_gtA (fun z hz => by
  simp only [List.mem_cons, List.not_mem_nil, or_false] at hz
  rcases hz with rfl | rfl | rfl | rfl | rfl | rfl
  · exact (gt_of (w := .methodLink RX6 78 yX1_becomes) 779 (by decide +kernel) rfl)
  · exact (gt_of (w := .sameMethod "OneBell$Door" "OneBell$Door" "becomes" "(ZII)Z") 599 (by decide +kernel) rfl)
  · exact (gt_of (w := .instanceMethod ⟨"OneBell$Door", "becomes", "(ZII)Z"⟩) 597 (by decide +kernel) rfl)
  · exact (gt_of (w := .selects RX4 yX1_becomes yX4_becomes) 604 (by decide +kernel) rfl)
  · exact (gt_of (w := .instanceMethod yX4_becomes) 605 (by decide +kernel) rfl)
  · exact (gt_of (w := .initialized RX4) 6 (by decide +kernel) rfl)) cd_X4_becomes, cd_X1_becomes, by decide +kernel⟩
theorem uf_X6_78_X10 : UF RX6 78 10 yX1_becomes yX10_becomes cX10_becomes 4 (some .boolean) 3 := ⟨TX10, 0, "OneBell$Door", cX1_becomes, 4, some .boolean, rfl, goodIn_gtA (fun z hz => by
  simp only [List.mem_cons, List.not_mem_nil, or_false] at hz
  rcases hz with rfl | rfl | rfl | rfl | rfl | rfl
  · exact (gt_of (w := .methodLink RX6 78 yX1_becomes) 779 (by decide +kernel) rfl)
  · exact (gt_of (w := .sameMethod "OneBell$Door" "OneBell$Door" "becomes" "(ZII)Z") 599 (by decide +kernel) rfl)
  · exact (gt_of (w := .instanceMethod ⟨"OneBell$Door", "becomes", "(ZII)Z"⟩) 597 (by decide +kernel) rfl)
  · exact (gt_of (w := .selects RX10 yX1_becomes yX10_becomes) 612 (by decide +kernel) rfl)
  · exact (gt_of (w := .instanceMethod yX10_becomes) 613 (by decide +kernel) rfl)
  · exact (gt_of (w := .initialized RX10) 7 (by decide +kernel) rfl)) cd_X10_becomes, cd_X1_becomes, by decide +kernel⟩
theorem uf_X6_78_X7 : UF RX6 78 7 yX1_becomes yX7_becomes cX7_becomes 4 (some .boolean) 3 := ⟨TX7, 0, "OneBell$Door", cX1_becomes, 4, some .boolean, rfl, goodIn_gtA (fun z hz => by
  simp only [List.mem_cons, List.not_mem_nil, or_false] at hz
  rcases hz with rfl | rfl | rfl | rfl | rfl | rfl
  · exact (gt_of (w := .methodLink RX6 78 yX1_becomes) 779 (by decide +kernel) rfl)
  · exact (gt_of (w := .sameMethod "OneBell$Door" "OneBell$Door" "becomes" "(ZII)Z") 599 (by decide +kernel) rfl)
  · exact (gt_of (w := .instanceMethod ⟨"OneBell$Door", "becomes", "(ZII)Z"⟩) 597 (by decide +kernel) rfl)
  · exact (gt_of (w := .selects RX7 yX1_becomes yX7_becomes) 608 (by decide +kernel) rfl)
  · exact (gt_of (w := .instanceMethod yX7_becomes) 609 (by decide +kernel) rfl)
  · exact (gt_of (w := .initialized RX7) 8 (by decide +kernel) rfl)) cd_X7_becomes, cd_X1_becomes, by decide +kernel⟩
theorem vb_X6_78 : VF RX6 78 1 yX1_becomes cX1_becomes 4 (some .boolean) 3 := VF.mk rfl (by decide +kernel) (gt_of (w := .methodLink RX6 78 yX1_becomes) 779 (by decide +kernel) rfl) (gt_of (w := .instanceMethod yX1_becomes) 597 (by decide +kernel) rfl) (gt_of (w := .selects RX1 yX1_becomes yX1_becomes) 598 (by decide +kernel) rfl) (gt_of (w := .initialized RX1) 4 (by decide +kernel) rfl) cd_X1_becomes
def f_X1_becomes  (z1 : Bool) (x2 : Int32) (x3 : Int32) : Option (Bool) :=
  if x2 < x3 then (some (false)) else (some (true))
set_option maxRecDepth 100000 in
set_option maxHeartbeats 4000000 in
theorem c_X1_becomes (l : Launch) (G : GG) (o_t : Nat)  {z1 : Bool} {x2 : Int32} {x3 : Int32} {res : Bool} (hf : f_X1_becomes z1 x2 x3 = some res) : MI l yX1_becomes cX1_becomes 4 (some .boolean) 1 [.ref o_t, .int (b2i z1), .int x2, .int x3] G [] (b2i res) [] := by
  unfold f_X1_becomes at hf
  refine MI.intro (by decide) rfl (Nat.le_of_ble_eq_true rfl) (fun p e s m args below meth c A ls C h hl => ?_)
  have C : MC RX1 cX1_becomes 4 (some .boolean) G A p s m args meth c := C
  have hl : lv_has ls 4 [(0, .ref o_t), (1, .int (b2i z1)), (2, .int x2), (3, .int x3)] := hl
  refine lv_iload_n C.hx C.hb dX1_becomes_0 rfl (lv_at hl 2 rfl) ?_
  refine lv_iload_n C.hx C.hb dX1_becomes_1 rfl (lv_at hl 3 rfl) ?_
  refine lv_icmp_lt (tgt := 9) C.hx C.hb dX1_becomes_2 (by decide) (fun zc1 => ?_) (fun zc1 => ?_)
  · replace hf := it_t zc1 hf
    refine lv_iconst (v := 0) C.hx C.hb dX1_becomes_9 (by decide) ?_
    obtain rfl := Option.some.inj hf
    exact g_ret_z (b := false) C h rfl rfl rfl dX1_becomes_10
  · replace hf := it_f zc1 hf
    refine lv_iconst (v := 1) C.hx C.hb dX1_becomes_5 (by decide) ?_
    refine lv_goto (tgt := 10) C.hx C.hb dX1_becomes_6 (by decide) ?_
    obtain rfl := Option.some.inj hf
    exact g_ret_z (b := true) C h rfl rfl rfl dX1_becomes_10

def f_X3_becomes (z1 : Bool) (x2 x3 : Int32) : Option Bool :=
  if (b2i z1) = 0 then ((f_X1_becomes z1 x2 x3).bind fun zr2 => if (b2i zr2) = 0 then (some (false)) else (some (true))) else (some (true))
set_option maxRecDepth 100000 in
set_option maxHeartbeats 4000000 in
theorem c_X3_becomes (l : Launch) (G : GG) (o_k : Nat) (a_k : Nat → Nat) {o_t j ci : Nat} {q : vw_C} (hcq : vwCl[ci]? = some q) (hcc : (uX2 G o_k a_k)[j]? = some (o_t, .inr (ci, []))) {z1 : Bool} {x2 x3 : Int32} {res : Bool} (hf : f_X3_becomes z1 x2 x3 = some res) : MI l yX3_becomes cX3_becomes 4 (some .boolean) 2 [.ref o_t, .int (b2i z1), .int x2, .int x3] G [uX2 G o_k a_k] (b2i res) [uX2 G o_k a_k] := by
  unfold f_X3_becomes at hf
  refine MI.intro (by decide) rfl (Nat.le_of_ble_eq_true rfl) (fun p e s m args below meth c A ls C h hl => ?_)
  have C : MC RX3 cX3_becomes 4 (some .boolean) G A p s m args meth c := C
  have hl : lv_has ls 4 [(0, .ref o_t), (1, .int (b2i z1)), (2, .int x2), (3, .int x3)] := hl
  refine lv_iload_n C.hx C.hb dX3_becomes_0 rfl (lv_at hl 1 rfl) ?_
  refine lv_if_ne (tgt := 14) C.hx C.hb dX3_becomes_1 (by decide) (fun zc1 => ?_) (fun zc1 => ?_)
  · replace hf := it_f zc1 hf
    refine lv_iconst (v := 1) C.hx C.hb dX3_becomes_14 (by decide) ?_
    refine lv_goto (tgt := 19) C.hx C.hb dX3_becomes_15 (by decide) ?_
    obtain rfl := Option.some.inj hf
    exact g_ret_z (b := true) C h rfl rfl rfl dX3_becomes_19
  · replace hf := it_t zc1 hf
    refine lv_aload_n C.hx C.hb dX3_becomes_4 rfl (lv_at hl 0 rfl) ?_
    refine lv_iload_n C.hx C.hb dX3_becomes_5 rfl (lv_at hl 1 rfl) ?_
    refine lv_iload_n C.hx C.hb dX3_becomes_6 rfl (lv_at hl 2 rfl) ?_
    refine lv_iload_n C.hx C.hb dX3_becomes_7 rfl (lv_at hl 3 rfl) ?_
    obtain ⟨zr2, zq3, hf⟩ := bd_some hf
    have zm4 := c_X1_becomes l G o_t (hf := zq3)
    refine g_goI C h zm4.1 (is := []) rfl rfl (g_runP C h (is := []) rfl rfl (As := [.int (b2i z1), .int x2, .int x3]) (rest := []) (zm4.2 _) pf_X3_7 0 j rfl hcq hcc hl.1 rfl rfl (Nat.le_of_ble_eq_true rfl) dX3_becomes_8 ⟨Nat.le_of_ble_eq_true rfl, Nat.le_of_ble_eq_true rfl⟩ ⟨Nat.le_refl _, Nat.le_refl _⟩) (us2 := [uX2 G o_k a_k]) rfl (fun H locs h => ?_)
    refine lv_if_eq (tgt := 18) C.hx C.hb dX3_becomes_11 (by decide) (fun zc5 => ?_) (fun zc5 => ?_)
    · replace hf := it_t zc5 hf
      refine lv_iconst (v := 0) C.hx C.hb dX3_becomes_18 (by decide) ?_
      obtain rfl := Option.some.inj hf
      exact g_ret_z (b := false) C h rfl rfl rfl dX3_becomes_19
    · replace hf := it_f zc5 hf
      refine lv_iconst (v := 1) C.hx C.hb dX3_becomes_14 (by decide) ?_
      refine lv_goto (tgt := 19) C.hx C.hb dX3_becomes_15 (by decide) ?_
      obtain rfl := Option.some.inj hf
      exact g_ret_z (b := true) C h rfl rfl rfl dX3_becomes_19
def f_X4_becomes (z1 : Bool) (x2 x3 : Int32) : Option Bool :=
  if (b2i z1) = 0 then (some (false)) else ((f_X1_becomes z1 x2 x3).bind fun zr2 => if (b2i zr2) = 0 then (some (true)) else (some (false)))
set_option maxRecDepth 100000 in
set_option maxHeartbeats 4000000 in
theorem c_X4_becomes (l : Launch) (G : GG) (o_k : Nat) (a_k : Nat → Nat) {o_t j ci : Nat} {q : vw_C} (hcq : vwCl[ci]? = some q) (hcc : (uX2 G o_k a_k)[j]? = some (o_t, .inr (ci, []))) {z1 : Bool} {x2 x3 : Int32} {res : Bool} (hf : f_X4_becomes z1 x2 x3 = some res) : MI l yX4_becomes cX4_becomes 4 (some .boolean) 2 [.ref o_t, .int (b2i z1), .int x2, .int x3] G [uX2 G o_k a_k] (b2i res) [uX2 G o_k a_k] := by
  unfold f_X4_becomes at hf
  refine MI.intro (by decide) rfl (Nat.le_of_ble_eq_true rfl) (fun p e s m args below meth c A ls C h hl => ?_)
  have C : MC RX4 cX4_becomes 4 (some .boolean) G A p s m args meth c := C
  have hl : lv_has ls 4 [(0, .ref o_t), (1, .int (b2i z1)), (2, .int x2), (3, .int x3)] := hl
  refine lv_iload_n C.hx C.hb dX4_becomes_0 rfl (lv_at hl 1 rfl) ?_
  refine lv_if_eq (tgt := 18) C.hx C.hb dX4_becomes_1 (by decide) (fun zc1 => ?_) (fun zc1 => ?_)
  · replace hf := it_t zc1 hf
    refine lv_iconst (v := 0) C.hx C.hb dX4_becomes_18 (by decide) ?_
    obtain rfl := Option.some.inj hf
    exact g_ret_z (b := false) C h rfl rfl rfl dX4_becomes_19
  · replace hf := it_f zc1 hf
    refine lv_aload_n C.hx C.hb dX4_becomes_4 rfl (lv_at hl 0 rfl) ?_
    refine lv_iload_n C.hx C.hb dX4_becomes_5 rfl (lv_at hl 1 rfl) ?_
    refine lv_iload_n C.hx C.hb dX4_becomes_6 rfl (lv_at hl 2 rfl) ?_
    refine lv_iload_n C.hx C.hb dX4_becomes_7 rfl (lv_at hl 3 rfl) ?_
    obtain ⟨zr2, zq3, hf⟩ := bd_some hf
    have zm4 := c_X1_becomes l G o_t (hf := zq3)
    refine g_goI C h zm4.1 (is := []) rfl rfl (g_runP C h (is := []) rfl rfl (As := [.int (b2i z1), .int x2, .int x3]) (rest := []) (zm4.2 _) pf_X4_7 0 j rfl hcq hcc hl.1 rfl rfl (Nat.le_of_ble_eq_true rfl) dX4_becomes_8 ⟨Nat.le_of_ble_eq_true rfl, Nat.le_of_ble_eq_true rfl⟩ ⟨Nat.le_refl _, Nat.le_refl _⟩) (us2 := [uX2 G o_k a_k]) rfl (fun H locs h => ?_)
    refine lv_if_ne (tgt := 18) C.hx C.hb dX4_becomes_11 (by decide) (fun zc5 => ?_) (fun zc5 => ?_)
    · replace hf := it_f zc5 hf
      refine lv_iconst (v := 0) C.hx C.hb dX4_becomes_18 (by decide) ?_
      obtain rfl := Option.some.inj hf
      exact g_ret_z (b := false) C h rfl rfl rfl dX4_becomes_19
    · replace hf := it_t zc5 hf
      refine lv_iconst (v := 1) C.hx C.hb dX4_becomes_14 (by decide) ?_
      refine lv_goto (tgt := 19) C.hx C.hb dX4_becomes_15 (by decide) ?_
      obtain rfl := Option.some.inj hf
      exact g_ret_z (b := true) C h rfl rfl rfl dX4_becomes_19
def f_X7_becomes (z1 : Bool) (x2 x3 : Int32) : Option Bool :=
  if (x3 + 3) ≤ x2 then (some (false)) else ((f_X3_becomes z1 x2 x3).bind fun zr2 => if (b2i zr2) = 0 then (some (false)) else (some (true)))
set_option maxRecDepth 100000 in
set_option maxHeartbeats 4000000 in
theorem c_X7_becomes (l : Launch) (G : GG) (o_k : Nat) (a_k : Nat → Nat) {o_t j ci : Nat} {q : vw_C} (hcq : vwCl[ci]? = some q) (hcc : (uX2 G o_k a_k)[j]? = some (o_t, .inr (ci, []))) {z1 : Bool} {x2 x3 : Int32} {res : Bool} (hf : f_X7_becomes z1 x2 x3 = some res) : MI l yX7_becomes cX7_becomes 4 (some .boolean) 3 [.ref o_t, .int (b2i z1), .int x2, .int x3] G [uX2 G o_k a_k] (b2i res) [uX2 G o_k a_k] := by
  unfold f_X7_becomes at hf
  refine MI.intro (by decide) rfl (Nat.le_of_ble_eq_true rfl) (fun p e s m args below meth c A ls C h hl => ?_)
  have C : MC RX7 cX7_becomes 4 (some .boolean) G A p s m args meth c := C
  have hl : lv_has ls 4 [(0, .ref o_t), (1, .int (b2i z1)), (2, .int x2), (3, .int x3)] := hl
  refine lv_iload_n C.hx C.hb dX7_becomes_0 rfl (lv_at hl 2 rfl) ?_
  refine lv_iload_n C.hx C.hb dX7_becomes_1 rfl (lv_at hl 3 rfl) ?_
  refine lv_iconst (v := 3) C.hx C.hb dX7_becomes_2 (by decide) ?_
  refine lv_iadd C.hx C.hb dX7_becomes_3 ?_
  refine lv_icmp_ge (tgt := 21) C.hx C.hb dX7_becomes_4 (by decide) (fun zc1 => ?_) (fun zc1 => ?_)
  · replace hf := it_t zc1 hf
    refine lv_iconst (v := 0) C.hx C.hb dX7_becomes_21 (by decide) ?_
    obtain rfl := Option.some.inj hf
    exact g_ret_z (b := false) C h rfl rfl rfl dX7_becomes_22
  · replace hf := it_f zc1 hf
    refine lv_aload_n C.hx C.hb dX7_becomes_7 rfl (lv_at hl 0 rfl) ?_
    refine lv_iload_n C.hx C.hb dX7_becomes_8 rfl (lv_at hl 1 rfl) ?_
    refine lv_iload_n C.hx C.hb dX7_becomes_9 rfl (lv_at hl 2 rfl) ?_
    refine lv_iload_n C.hx C.hb dX7_becomes_10 rfl (lv_at hl 3 rfl) ?_
    obtain ⟨zr2, zq3, hf⟩ := bd_some hf
    have zm4 := c_X3_becomes l G o_k a_k hcq hcc (hf := zq3)
    refine g_goI C h zm4.1 (is := [0]) rfl rfl (g_runP C h (is := [0]) rfl rfl (As := [.int (b2i z1), .int x2, .int x3]) (rest := []) (zm4.2 _) pf_X7_9 0 j rfl hcq hcc hl.1 rfl rfl (Nat.le_of_ble_eq_true rfl) dX7_becomes_11 ⟨Nat.le_of_ble_eq_true rfl, Nat.le_of_ble_eq_true rfl⟩ ⟨Nat.le_refl _, Nat.le_refl _⟩) (us2 := [uX2 G o_k a_k]) rfl (fun H locs h => ?_)
    refine lv_if_eq (tgt := 21) C.hx C.hb dX7_becomes_14 (by decide) (fun zc5 => ?_) (fun zc5 => ?_)
    · replace hf := it_t zc5 hf
      refine lv_iconst (v := 0) C.hx C.hb dX7_becomes_21 (by decide) ?_
      obtain rfl := Option.some.inj hf
      exact g_ret_z (b := false) C h rfl rfl rfl dX7_becomes_22
    · replace hf := it_f zc5 hf
      refine lv_iconst (v := 1) C.hx C.hb dX7_becomes_17 (by decide) ?_
      refine lv_goto (tgt := 22) C.hx C.hb dX7_becomes_18 (by decide) ?_
      obtain rfl := Option.some.inj hf
      exact g_ret_z (b := true) C h rfl rfl rfl dX7_becomes_22
def f_X10_becomes (z1 : Bool) (x2 x3 : Int32) : Option Bool :=
  (f_X3_becomes false x2 x3).bind fun zr1 => if (b2i z1) = (b2i zr1) then (some (false)) else (some (true))
set_option maxRecDepth 100000 in
set_option maxHeartbeats 4000000 in
theorem c_X10_becomes (l : Launch) (G : GG) (o_k : Nat) (a_k : Nat → Nat) {o_t j ci : Nat} {q : vw_C} (hcq : vwCl[ci]? = some q) (hcc : (uX2 G o_k a_k)[j]? = some (o_t, .inr (ci, []))) {z1 : Bool} {x2 x3 : Int32} {res : Bool} (hf : f_X10_becomes z1 x2 x3 = some res) : MI l yX10_becomes cX10_becomes 4 (some .boolean) 3 [.ref o_t, .int (b2i z1), .int x2, .int x3] G [uX2 G o_k a_k] (b2i res) [uX2 G o_k a_k] := by
  unfold f_X10_becomes at hf
  refine MI.intro (by decide) rfl (Nat.le_of_ble_eq_true rfl) (fun p e s m args below meth c A ls C h hl => ?_)
  have C : MC RX10 cX10_becomes 4 (some .boolean) G A p s m args meth c := C
  have hl : lv_has ls 4 [(0, .ref o_t), (1, .int (b2i z1)), (2, .int x2), (3, .int x3)] := hl
  refine lv_iload_n C.hx C.hb dX10_becomes_0 rfl (lv_at hl 1 rfl) ?_
  refine lv_aload_n C.hx C.hb dX10_becomes_1 rfl (lv_at hl 0 rfl) ?_
  refine lv_iconst (v := 0) C.hx C.hb dX10_becomes_2 (by decide) ?_
  refine lv_iload_n C.hx C.hb dX10_becomes_3 rfl (lv_at hl 2 rfl) ?_
  refine lv_iload_n C.hx C.hb dX10_becomes_4 rfl (lv_at hl 3 rfl) ?_
  obtain ⟨zr1, zq2, hf⟩ := bd_some hf
  have zm3 := c_X3_becomes l G o_k a_k hcq hcc (hf := zq2)
  refine g_goI C h zm3.1 (is := [0]) rfl rfl (g_runP C h (is := [0]) rfl rfl (As := [.int 0, .int x2, .int x3]) (rest := [.int (b2i z1)]) (zm3.2 _) pf_X10_7 0 j rfl hcq hcc hl.1 rfl rfl (Nat.le_of_ble_eq_true rfl) dX10_becomes_5 ⟨Nat.le_of_ble_eq_true rfl, Nat.le_of_ble_eq_true rfl⟩ ⟨Nat.le_refl _, Nat.le_refl _⟩) (us2 := [uX2 G o_k a_k]) rfl (fun H locs h => ?_)
  refine lv_icmp_eq (tgt := 15) C.hx C.hb dX10_becomes_8 (by decide) (fun zc4 => ?_) (fun zc4 => ?_)
  · replace hf := it_t zc4 hf
    refine lv_iconst (v := 0) C.hx C.hb dX10_becomes_15 (by decide) ?_
    obtain rfl := Option.some.inj hf
    exact g_ret_z (b := false) C h rfl rfl rfl dX10_becomes_16
  · replace hf := it_f zc4 hf
    refine lv_iconst (v := 1) C.hx C.hb dX10_becomes_11 (by decide) ?_
    refine lv_goto (tgt := 16) C.hx C.hb dX10_becomes_12 (by decide) ?_
    obtain rfl := Option.some.inj hf
    exact g_ret_z (b := true) C h rfl rfl rfl dX10_becomes_16
theorem kb_0 (z : Bool) (mv sp : Int32) : f_X1_becomes z mv sp = some (decide (sp ≤ mv)) := by
  unfold f_X1_becomes
  by_cases h : mv < sp
  · rw [if_pos h, decide_eq_false (by rw [Int32.not_le]; exact h)]
  · rw [if_neg h, decide_eq_true (Int32.not_lt.mp h)]
theorem b2i_z (b : Bool) : b2i b = 0 ↔ b = false := by cases b <;> decide
theorem kb_1 (z : Bool) (mv sp : Int32) : f_X3_becomes z mv sp = some (z || decide (sp ≤ mv)) := by
  unfold f_X3_becomes
  rw [kb_0]
  cases z <;> cases decide (sp ≤ mv) <;> rfl
theorem kb_2 (z : Bool) (mv sp : Int32) : f_X4_becomes z mv sp = some (z && !decide (sp ≤ mv)) := by
  unfold f_X4_becomes
  rw [kb_0]
  cases z <;> cases decide (sp ≤ mv) <;> rfl
theorem kb_3 (z : Bool) (mv sp : Int32) : f_X10_becomes z mv sp = some (z != decide (sp ≤ mv)) := by
  unfold f_X10_becomes
  rw [kb_1]
  cases z <;> cases decide (sp ≤ mv) <;> rfl
theorem kb_4 (z : Bool) (mv sp : Int32) : f_X7_becomes z mv sp = some (decide (mv < sp + 3) && (z || decide (sp ≤ mv))) := by
  unfold f_X7_becomes
  rw [kb_1]
  by_cases h : (sp + 3) ≤ mv
  · rw [if_pos h, decide_eq_false (p := mv < sp + 3) (by rw [Int32.not_lt]; exact h)]; rfl
  · rw [if_neg h, decide_eq_true (p := mv < sp + 3) (Int32.not_le.mp h)]
    cases z <;> cases decide (sp ≤ mv) <;> rfl
def BF (own : String) (index : Nat) : Prop := UF own index 3 yX1_becomes yX3_becomes cX3_becomes 4 (some .boolean) 3 ∧ UF own index 4 yX1_becomes yX4_becomes cX4_becomes 4 (some .boolean) 3 ∧ UF own index 10 yX1_becomes yX10_becomes cX10_becomes 4 (some .boolean) 3 ∧ UF own index 7 yX1_becomes yX7_becomes cX7_becomes 4 (some .boolean) 3 ∧ VF own index 1 yX1_becomes cX1_becomes 4 (some .boolean) 3
theorem bf_X8_63 : BF RX8 63 := ⟨uf_X8_63_X3, uf_X8_63_X4, uf_X8_63_X10, uf_X8_63_X7, vb_X8_63⟩
theorem bf_X6_78 : BF RX6 78 := ⟨uf_X6_78_X3, uf_X6_78_X4, uf_X6_78_X10, uf_X6_78_X7, vb_X6_78⟩
theorem set_same {α : Type} {us : List α} {i : Nat} {u : α} (h : us[i]? = some u) : us.set i u = us := by
  apply List.ext_getElem?
  intro j
  by_cases hj : i = j
  · subst hj
    rw [List.getElem?_set_self (List.getElem?_eq_some_iff.mp h).1, h]
  · rw [List.getElem?_set_ne hj]
set_option maxRecDepth 100000 in
set_option maxHeartbeats 4000000 in
theorem g_becomes {own : String} {cc : ByteArray} {nL : Nat} {rt : Option FieldType} {G : GG} {A : Nat → Prop} {p : Program} {l : Launch} {e : Env} {R : Room} {s : State} {m : MethodId} {args : Array Value} {below : List Frame} {meth : Method} {c : Code} {H : Heap} {locs : List Loc} {cells slots : Nat} {Q : State → Prop} {pc : Nat} {ls : Array Slot} {rest : List Value} {us : List va_W} {o : Nat} {a : Nat → Nat} (C : MC own cc nL rt G A p s m args meth c) (h : HP G A s us H locs) {index : Nat} (bf : BF own index) (i : Nat) (hu : us[i]? = some (uX2 G o a)) {k mv sp : Int32} {z : Bool} (hsize : ls.size = nL) (hW : (rest.map fun v => v.category).sum ≤ 8) (hdg : decode cc pc = .ok (.invokevirtual index, 3)) (hR : 4 ≤ R.frames ∧ 203 ≤ R.locals ∧ cells ≤ R.cells ∧ slots ≤ R.slots)
    (kk : ∀ (H1 : Heap) (locs1 : List Loc), HP G A s us H1 locs1 → W p l e R s m args below meth c H1 locs1 cells slots Q (F0 m (pc + 3) ls (.int (b2i (kBec k z mv sp)) :: rest))) : W p l e R s m args below meth c H locs cells slots Q (F0 m pc ls (.int sp :: .int mv :: .int (b2i z) :: .ref (kad a k) :: rest)) := by
  have hC : [i].map (fun i => us[i]?) = [uX2 G o a].map some := by simp only [List.map_cons, List.map_nil, hu]
  have hus : rpU us [i] [uX2 G o a] = us := set_same hu
  unfold kad
  unfold kBec at kk
  by_cases k1 : k = 1
  · rw [if_pos k1]; rw [if_pos k1] at kk
    have hM := c_X3_becomes l G o a (j := 2) (ci := 3) rfl rfl (kb_1 z mv sp)
    exact g_goI C h hM.1 (is := [i]) rfl hC (g_runU C h (is := [i]) rfl hC (As := [.int (b2i z), .int mv, .int sp]) (rest := rest) (hM.2 _) bf.1 i 2 hu rfl hsize rfl rfl hW hdg ⟨by omega, by omega⟩ hR.2.2) hus kk
  rw [if_neg k1]; rw [if_neg k1] at kk
  by_cases k2 : k = 2
  · rw [if_pos k2]; rw [if_pos k2] at kk
    have hM := c_X4_becomes l G o a (j := 3) (ci := 4) rfl rfl (kb_2 z mv sp)
    exact g_goI C h hM.1 (is := [i]) rfl hC (g_runU C h (is := [i]) rfl hC (As := [.int (b2i z), .int mv, .int sp]) (rest := rest) (hM.2 _) bf.2.1 i 3 hu rfl hsize rfl rfl hW hdg ⟨by omega, by omega⟩ hR.2.2) hus kk
  rw [if_neg k2]; rw [if_neg k2] at kk
  by_cases k3 : k = 3
  · rw [if_pos k3]; rw [if_pos k3] at kk
    have hM := c_X10_becomes l G o a (j := 4) (ci := 10) rfl rfl (kb_3 z mv sp)
    exact g_goI C h hM.1 (is := [i]) rfl hC (g_runU C h (is := [i]) rfl hC (As := [.int (b2i z), .int mv, .int sp]) (rest := rest) (hM.2 _) bf.2.2.1 i 4 hu rfl hsize rfl rfl hW hdg ⟨by omega, by omega⟩ hR.2.2) hus kk
  rw [if_neg k3]; rw [if_neg k3] at kk
  by_cases k4 : k = 4
  · rw [if_pos k4]; rw [if_pos k4] at kk
    have hM := c_X7_becomes l G o a (j := 5) (ci := 7) rfl rfl (kb_4 z mv sp)
    exact g_goI C h hM.1 (is := [i]) rfl hC (g_runU C h (is := [i]) rfl hC (As := [.int (b2i z), .int mv, .int sp]) (rest := rest) (hM.2 _) bf.2.2.2.1 i 5 hu rfl hsize rfl rfl hW hdg ⟨by omega, by omega⟩ hR.2.2) hus kk
  rw [if_neg k4]; rw [if_neg k4] at kk
  have hM := c_X1_becomes l G (a 0) (kb_0 z mv sp)
  exact g_goI C h hM.1 (is := []) rfl rfl (g_runV C h (is := []) rfl rfl (As := [.int (b2i z), .int mv, .int sp]) (rest := rest) (hM.2 _) bf.2.2.2.2 i 1 hu rfl hsize rfl rfl hW hdg ⟨by omega, by omega⟩ hR.2.2) rfl kk
set_option maxRecDepth 100000 in
set_option maxHeartbeats 4000000 in
theorem c_X2_ofNumber (l : Launch) (G : GG) (o_t : Nat) (a_t : Nat → Nat) (x1 : Int32) : MR l yX2_ofNumber cX2_ofNumber 2 (some (.object "OneBell$Door")) 1 [.ref o_t, .int x1] G [uX2 G o_t a_t] (kad a_t x1) [uX2 G o_t a_t] := by
  obtain ⟨res, hf⟩ : ∃ res, (if x1 = 1 then some (a_t 1) else if x1 = 2 then some (a_t 2) else if x1 = 3 then some (a_t 3) else if x1 = 4 then some (a_t 4) else some (a_t 0)) = some res := by
    by_cases k1 : x1 = 1
    · exact ⟨_, if_pos k1⟩
    rw [if_neg k1]
    by_cases k2 : x1 = 2
    · exact ⟨_, if_pos k2⟩
    rw [if_neg k2]
    by_cases k3 : x1 = 3
    · exact ⟨_, if_pos k3⟩
    rw [if_neg k3]
    by_cases k4 : x1 = 4
    · exact ⟨_, if_pos k4⟩
    exact ⟨_, if_neg k4⟩
  have hres : kad a_t x1 = res := by
    have e := hf
    unfold kad
    by_cases k1 : x1 = 1
    · rw [if_pos k1] at e ⊢; exact Option.some.inj e
    rw [if_neg k1] at e ⊢
    by_cases k2 : x1 = 2
    · rw [if_pos k2] at e ⊢; exact Option.some.inj e
    rw [if_neg k2] at e ⊢
    by_cases k3 : x1 = 3
    · rw [if_pos k3] at e ⊢; exact Option.some.inj e
    rw [if_neg k3] at e ⊢
    by_cases k4 : x1 = 4
    · rw [if_pos k4] at e ⊢; exact Option.some.inj e
    rw [if_neg k4] at e ⊢; exact Option.some.inj e
  rw [hres]
  clear hres
  refine MR.intro (by decide) rfl (Nat.le_of_ble_eq_true rfl) (fun p e s m args below meth c A ls C h hl => ?_)
  have C : MC RX2 cX2_ofNumber 2 (some (.object "OneBell$Door")) G A p s m args meth c := C
  have hl : lv_has ls 2 [(0, .ref o_t), (1, .int x1)] := hl
  refine lv_iload_n C.hx C.hb dX2_ofNumber_0 rfl (lv_at hl 1 rfl) ?_
  by_cases zc1 : x1 = 1
  · replace hf := it_t zc1 hf
    refine lv_tableIn (tgt := 32) (off := 31) C.hx C.hb dX2_ofNumber_1 (by rw [zc1]; decide) (by rw [zc1]; decide) (by rw [zc1]; rfl) (by decide) ?_
    refine lv_aload_n C.hx C.hb dX2_ofNumber_32 rfl (lv_at hl 0 rfl) ?_
    refine g_get C h fl_X2_19 0 0 rfl rfl (v := .ref (a_t 1)) rfl dX2_ofNumber_33 ?_
    cases hf
    exact g_ret_a C h rfl rfl dX2_ofNumber_36
  replace hf := it_f zc1 hf
  by_cases zc2 : x1 = 2
  · replace hf := it_t zc2 hf
    refine lv_tableIn (tgt := 37) (off := 36) C.hx C.hb dX2_ofNumber_1 (by rw [zc2]; decide) (by rw [zc2]; decide) (by rw [zc2]; rfl) (by decide) ?_
    refine lv_aload_n C.hx C.hb dX2_ofNumber_37 rfl (lv_at hl 0 rfl) ?_
    refine g_get C h fl_X2_26 0 0 rfl rfl (v := .ref (a_t 2)) rfl dX2_ofNumber_38 ?_
    cases hf
    exact g_ret_a C h rfl rfl dX2_ofNumber_41
  replace hf := it_f zc2 hf
  by_cases zc3 : x1 = 3
  · replace hf := it_t zc3 hf
    refine lv_tableIn (tgt := 42) (off := 41) C.hx C.hb dX2_ofNumber_1 (by rw [zc3]; decide) (by rw [zc3]; decide) (by rw [zc3]; rfl) (by decide) ?_
    refine lv_aload_n C.hx C.hb dX2_ofNumber_42 rfl (lv_at hl 0 rfl) ?_
    refine g_get C h fl_X2_33 0 0 rfl rfl (v := .ref (a_t 3)) rfl dX2_ofNumber_43 ?_
    cases hf
    exact g_ret_a C h rfl rfl dX2_ofNumber_46
  replace hf := it_f zc3 hf
  by_cases zc4 : x1 = 4
  · replace hf := it_t zc4 hf
    refine lv_tableIn (tgt := 47) (off := 46) C.hx C.hb dX2_ofNumber_1 (by rw [zc4]; decide) (by rw [zc4]; decide) (by rw [zc4]; rfl) (by decide) ?_
    refine lv_aload_n C.hx C.hb dX2_ofNumber_47 rfl (lv_at hl 0 rfl) ?_
    refine g_get C h fl_X2_40 0 0 rfl rfl (v := .ref (a_t 4)) rfl dX2_ofNumber_48 ?_
    cases hf
    exact g_ret_a C h rfl rfl dX2_ofNumber_51
  replace hf := it_f zc4 hf
  refine lv_tableOut (tgt := 52) C.hx C.hb dX2_ofNumber_1 (by have ezc1 := lv_neT (a := 1) zc1 (by decide); have ezc2 := lv_neT (a := 2) zc2 (by decide); have ezc3 := lv_neT (a := 3) zc3 (by decide); have ezc4 := lv_neT (a := 4) zc4 (by decide); omega) (by decide) ?_
  refine lv_aload_n C.hx C.hb dX2_ofNumber_52 rfl (lv_at hl 0 rfl) ?_
  refine g_get C h fl_X2_10 0 0 rfl rfl (v := .ref (a_t 0)) rfl dX2_ofNumber_53 ?_
  cases hf
  exact g_ret_a C h rfl rfl dX2_ofNumber_56
