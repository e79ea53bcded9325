def uX0 (G : GG) (o : Nat) (a : Nat → Nat) (v : US) : va_W := [(o, .inr (0, [.ref (a 0), .int (v.1 1), .ref (a 2), .ref (a 3), .ref (a 4), .int (v.1 5), .ref (a 6), .ref (a 7), .ref (a 8), .ref (a 9), .ref (a 10), .ref (a 11), .ref (a 12), .int (v.1 13), .int (v.1 14), .ref (a 15)])), (a 2, .inl (G.2.1 0, 5, .inl (v.2.2 2))), (a 3, .inl (G.2.1 0, 5, .inl (v.2.2 3))), (a 4, .inl (G.2.1 0, 5, .inl (v.2.2 4))), (a 6, .inl (G.2.1 0, 5, .inl (v.2.2 6))), (a 7, .inl (G.2.1 0, 5, .inl (v.2.2 7))), (a 8, .inl (G.2.1 0, 32, .inl (v.2.2 8))), (a 9, .inl (G.2.1 0, 32, .inl (v.2.2 9))), (a 10, .inl (G.2.1 0, 32, .inl (v.2.2 10))), (a 11, .inl (G.2.1 0, 32, .inl (v.2.2 11))), (a 12, .inl (G.2.1 0, 32, .inl (v.2.2 12))), (a 15, .inl (G.2.1 0, 32, .inl (v.2.2 15)))]
def uX5 (G : GG) (o : Nat) (a : Nat → Nat) (v : US) : va_W := [(o, .inr (5, [.ref (a 0), .int (v.1 1), .int (v.1 2), .ref (a 3), .int (v.1 4), .int (v.1 5), .int (v.1 6), .int (v.1 7), .ref (a 8)])), (a 8, .inl (G.2.1 0, 4, .inl (v.2.2 8)))]
def uX6 (G : GG) (o : Nat) (a : Nat → Nat) (v : US) : va_W := [(o, .inr (6, [.ref (a 0), .int (v.1 1), .int (v.1 2), .ref (a 3), .ref (a 4), .ref (a 5), .ref (a 6), .ref (a 7), .ref (a 8)])), (a 3, .inl (G.2.1 0, 4, .inl (v.2.2 3))), (a 4, .inl (G.2.1 1, 4, .inl (v.2.2 4))), (a 5, .inl (G.2.1 0, 20, .inl (v.2.2 5))), (a 6, .inl (G.2.1 0, 25, .inl (v.2.2 6))), (a 7, .inl (G.2.1 0, 25, .inl (v.2.2 7))), (a 8, .inl (G.2.1 0, 5, .inl (v.2.2 8)))]
def uX8 (_ : GG) (o : Nat) (a : Nat → Nat) (v : US) : va_W := [(o, .inr (8, [.ref (a 0), .int (v.1 1), .int (v.1 2), .int (v.1 3), .int (v.1 4), .int (v.1 5), .int (v.1 6), .int (v.1 7)]))]
def uX9 (G : GG) (o : Nat) (a : Nat → Nat) (v : US) : va_W := [(o, .inr (9, [.int (v.1 0), .ref (a 1), .ref (a 2), .ref (a 3), .ref (a 4), .int (v.1 5), .int (v.1 6), .int (v.1 7), .int (v.1 8), .ref (a 9), .ref (a 10), .int (v.1 11), .ref (a 12), .ref (a 13), .ref (a 14), .int (v.1 15), .ref (a 16)])), (a 1, .inl (G.2.1 0, 5, .inl (v.2.2 1))), (a 2, .inl (G.2.1 0, 5, .inl (v.2.2 2))), (a 3, .inl (G.2.1 0, 5, .inl (v.2.2 3))), (a 4, .inl (G.2.1 0, 5, .inl (v.2.2 4))), (a 9, .inl (G.2.1 0, 5, .inl (v.2.2 9))), (a 10, .inl (G.2.1 0, 5, .inl (v.2.2 10))), (a 12, .inl (G.2.1 0, 4, .inl (v.2.2 12))), (a 13, .inl (G.2.1 0, 4, .inl (v.2.2 13))), (a 14, .inl (G.2.1 0, 4, .inl (v.2.2 14))), (a 16, .inl (G.2.1 0, 10, .inl (v.2.2 16)))]
def uX11 (_ : GG) (o : Nat) (a : Nat → Nat) (v : US) : va_W := [(o, .inr (11, [.ref (a 0), .ref (a 1), .ref (a 2), .int (v.1 3), .long (v.2.1 4), .long (v.2.1 5), .int (v.1 6), .int (v.1 7), .int (v.1 8), .ref (a 9), .ref (a 10), .ref (a 11), .ref (a 12)]))]
def uX12 (G : GG) (o : Nat) (a : Nat → Nat) (v : US) : va_W := [(o, .inr (12, [.ref (a 0), .ref (a 1), .ref (a 2), .ref (a 3), .long (v.2.1 4), .long (v.2.1 5), .ref (a 6), .int (v.1 7), .int (v.1 8), .int (v.1 9), .int (v.1 10), .int (v.1 11), .ref (a 12), .ref (a 13), .int (v.1 14), .ref (a 15), .ref (a 16), .int (v.1 17), .int (v.1 18), .int (v.1 19), .int (v.1 20), .int (v.1 21), .ref (a 22), .ref (a 23)])), (a 1, .inl (G.2.1 0, 126, .inl (v.2.2 1))), (a 2, .inl (G.2.1 1, 2, .inl (v.2.2 2))), (a 3, .inl (G.2.1 0, 3, .inl (v.2.2 3))), (a 6, .inl (G.2.1 0, 5, .inl (v.2.2 6))), (a 12, .inl (G.2.1 0, 5, .inl (v.2.2 12))), (a 13, .inl (G.2.1 0, 5, .inl (v.2.2 13))), (a 15, .inl (G.2.1 0, 32, .inl (v.2.2 15))), (a 16, .inl (G.2.1 0, 200, .inl (v.2.2 16))), (a 23, .inl (G.2.1 0, 4, .inl (v.2.2 23)))]
def uX2 (_ : GG) (o : Nat) (a : Nat → Nat) : va_W := [(o, .inr (2, [.ref (a 0), .ref (a 1), .ref (a 2), .ref (a 3), .ref (a 4)])), (a 0, .inr (1, [])), (a 1, .inr (3, [])), (a 2, .inr (4, [])), (a 3, .inr (10, [])), (a 4, .inr (7, []))]
def uA (G : GG) (n o : Nat) (f : Nat → Int32) : va_W := [(o, .inl (G.2.1 0, n, .inl f))]
theorem fc_X0 : FC 0 RX0 TX0 16 tyX0 := ⟨rfl, fun w hw => by
  have h : ∀ w ∈ u_ws RX0 TX0 16, w ∈ tables_1 ∧ goodWord w = true := by decide +kernel
  exact List.mem_filter.mpr ⟨List.mem_append_right _ (h w hw).1, (h w hw).2⟩, tyX0_ok, nmX0⟩
theorem fc_X1 : FC 1 RX1 TX1 0 tyX1 := ⟨rfl, fun w hw => by
  have h : ∀ w ∈ u_ws RX1 TX1 0, w ∈ tables_1 ∧ goodWord w = true := by decide +kernel
  exact List.mem_filter.mpr ⟨List.mem_append_right _ (h w hw).1, (h w hw).2⟩, tyX1_ok, nmX1⟩
theorem fc_X2 : FC 2 RX2 TX2 5 tyX2 := ⟨rfl, fun w hw => by
  have h : ∀ w ∈ u_ws RX2 TX2 5, w ∈ tables_1 ∧ goodWord w = true := by decide +kernel
  exact List.mem_filter.mpr ⟨List.mem_append_right _ (h w hw).1, (h w hw).2⟩, tyX2_ok, nmX2⟩
theorem fc_X3 : FC 3 RX3 TX3 0 tyX3 := ⟨rfl, fun w hw => by
  have h : ∀ w ∈ u_ws RX3 TX3 0, w ∈ tables_1 ∧ goodWord w = true := by decide +kernel
  exact List.mem_filter.mpr ⟨List.mem_append_right _ (h w hw).1, (h w hw).2⟩, tyX3_ok, nmX3⟩
theorem fc_X4 : FC 4 RX4 TX4 0 tyX4 := ⟨rfl, fun w hw => by
  have h : ∀ w ∈ u_ws RX4 TX4 0, w ∈ tables_1 ∧ goodWord w = true := by decide +kernel
  exact List.mem_filter.mpr ⟨List.mem_append_right _ (h w hw).1, (h w hw).2⟩, tyX4_ok, nmX4⟩
theorem fc_X5 : FC 5 RX5 TX5 9 tyX5 := ⟨rfl, fun w hw => by
  have h : ∀ w ∈ u_ws RX5 TX5 9, w ∈ tables_1 ∧ goodWord w = true := by decide +kernel
  exact List.mem_filter.mpr ⟨List.mem_append_right _ (h w hw).1, (h w hw).2⟩, tyX5_ok, nmX5⟩
theorem fc_X6 : FC 6 RX6 TX6 9 tyX6 := ⟨rfl, fun w hw => by
  have h : ∀ w ∈ u_ws RX6 TX6 9, w ∈ tables_1 ∧ goodWord w = true := by decide +kernel
  exact List.mem_filter.mpr ⟨List.mem_append_right _ (h w hw).1, (h w hw).2⟩, tyX6_ok, nmX6⟩
theorem fc_X7 : FC 7 RX7 TX7 0 tyX7 := ⟨rfl, fun w hw => by
  have h : ∀ w ∈ u_ws RX7 TX7 0, w ∈ tables_1 ∧ goodWord w = true := by decide +kernel
  exact List.mem_filter.mpr ⟨List.mem_append_right _ (h w hw).1, (h w hw).2⟩, tyX7_ok, nmX7⟩
theorem fc_X8 : FC 8 RX8 TX8 8 tyX8 := ⟨rfl, fun w hw => by
  have h : ∀ w ∈ u_ws RX8 TX8 8, w ∈ tables_1 ∧ goodWord w = true := by decide +kernel
  exact List.mem_filter.mpr ⟨List.mem_append_right _ (h w hw).1, (h w hw).2⟩, tyX8_ok, nmX8⟩
theorem fc_X9 : FC 9 RX9 TX9 17 tyX9 := ⟨rfl, fun w hw => by
  have h : ∀ w ∈ u_ws RX9 TX9 17, w ∈ tables_1 ∧ goodWord w = true := by decide +kernel
  exact List.mem_filter.mpr ⟨List.mem_append_right _ (h w hw).1, (h w hw).2⟩, tyX9_ok, nmX9⟩
theorem fc_X10 : FC 10 RX10 TX10 0 tyX10 := ⟨rfl, fun w hw => by
  have h : ∀ w ∈ u_ws RX10 TX10 0, w ∈ tables_1 ∧ goodWord w = true := by decide +kernel
  exact List.mem_filter.mpr ⟨List.mem_append_right _ (h w hw).1, (h w hw).2⟩, tyX10_ok, nmX10⟩
theorem fc_X11 : FC 11 RX11 TX11 13 tyX11 := ⟨rfl, fun w hw => by
  have h : ∀ w ∈ u_ws RX11 TX11 13, w ∈ tables_1 ∧ goodWord w = true := by decide +kernel
  exact List.mem_filter.mpr ⟨List.mem_append_right _ (h w hw).1, (h w hw).2⟩, tyX11_ok, nmX11⟩
theorem fc_X12 : FC 12 RX12 TX12 24 tyX12 := ⟨rfl, fun w hw => by
  have h : ∀ w ∈ u_ws RX12 TX12 24, w ∈ tables_1 ∧ goodWord w = true := by decide +kernel
  exact List.mem_filter.mpr ⟨List.mem_append_right _ (h w hw).1, (h w hw).2⟩, tyX12_ok, nmX12⟩
theorem fl_X11_12 : FL RX11 12 11 0 := FL.mk fc_X11 (by decide) (gt_of (w := .fieldLink RX11 12 "OneBell" "now" "LOneBell$Village;") 342 (by decide +kernel) rfl)
theorem fl_X11_16 : FL RX11 16 11 1 := FL.mk fc_X11 (by decide) (gt_of (w := .fieldLink RX11 16 "OneBell" "images" "[LOneBell$Village;") 343 (by decide +kernel) rfl)
theorem fl_X11_20 : FL RX11 20 11 2 := FL.mk fc_X11 (by decide) (gt_of (w := .fieldLink RX11 20 "OneBell" "text" "[I") 344 (by decide +kernel) rfl)
theorem fl_X11_24 : FL RX11 24 11 3 := FL.mk fc_X11 (by decide) (gt_of (w := .fieldLink RX11 24 "OneBell" "length" "I") 345 (by decide +kernel) rfl)
theorem fp_X11_24 : FP RX11 24 11 3 .int := FP.mk fc_X11 (by decide) (gt_of (w := .fieldLink RX11 24 "OneBell" "length" "I") 345 (by decide +kernel) rfl) rfl rfl
theorem fl_X11_28 : FL RX11 28 11 4 := FL.mk fc_X11 (by decide) (gt_of (w := .fieldLink RX11 28 "OneBell" "above" "J") 346 (by decide +kernel) rfl)
theorem fp_X11_28 : FP RX11 28 11 4 .long := FP.mk fc_X11 (by decide) (gt_of (w := .fieldLink RX11 28 "OneBell" "above" "J") 346 (by decide +kernel) rfl) rfl rfl
theorem fl_X11_32 : FL RX11 32 11 5 := FL.mk fc_X11 (by decide) (gt_of (w := .fieldLink RX11 32 "OneBell" "below" "J") 347 (by decide +kernel) rfl)
theorem fp_X11_32 : FP RX11 32 11 5 .long := FP.mk fc_X11 (by decide) (gt_of (w := .fieldLink RX11 32 "OneBell" "below" "J") 347 (by decide +kernel) rfl) rfl rfl
theorem fl_X11_35 : FL RX11 35 11 6 := FL.mk fc_X11 (by decide) (gt_of (w := .fieldLink RX11 35 "OneBell" "bads" "I") 348 (by decide +kernel) rfl)
theorem fp_X11_35 : FP RX11 35 11 6 .int := FP.mk fc_X11 (by decide) (gt_of (w := .fieldLink RX11 35 "OneBell" "bads" "I") 348 (by decide +kernel) rfl) rfl rfl
theorem fl_X11_38 : FL RX11 38 11 7 := FL.mk fc_X11 (by decide) (gt_of (w := .fieldLink RX11 38 "OneBell" "nos" "I") 349 (by decide +kernel) rfl)
theorem fp_X11_38 : FP RX11 38 11 7 .int := FP.mk fc_X11 (by decide) (gt_of (w := .fieldLink RX11 38 "OneBell" "nos" "I") 349 (by decide +kernel) rfl) rfl rfl
theorem fl_X11_41 : FL RX11 41 11 8 := FL.mk fc_X11 (by decide) (gt_of (w := .fieldLink RX11 41 "OneBell" "fulls" "I") 350 (by decide +kernel) rfl)
theorem fp_X11_41 : FP RX11 41 11 8 .int := FP.mk fc_X11 (by decide) (gt_of (w := .fieldLink RX11 41 "OneBell" "fulls" "I") 350 (by decide +kernel) rfl) rfl rfl
theorem fl_X11_52 : FL RX11 52 11 9 := FL.mk fc_X11 (by decide) (gt_of (w := .fieldLink RX11 52 "OneBell" "swing" "LOneBell$Swing;") 351 (by decide +kernel) rfl)
theorem fl_X11_61 : FL RX11 61 11 10 := FL.mk fc_X11 (by decide) (gt_of (w := .fieldLink RX11 61 "OneBell" "day" "LOneBell$Day;") 352 (by decide +kernel) rfl)
theorem fl_X11_68 : FL RX11 68 11 11 := FL.mk fc_X11 (by decide) (gt_of (w := .fieldLink RX11 68 "OneBell" "search" "LOneBell$SlackSearch;") 353 (by decide +kernel) rfl)
theorem fl_X11_75 : FL RX11 75 11 12 := FL.mk fc_X11 (by decide) (gt_of (w := .fieldLink RX11 75 "OneBell" "reader" "LOneBell$Reader;") 354 (by decide +kernel) rfl)
theorem fl_X11_87 : FL RX11 87 9 0 := FL.mk fc_X9 (by decide) (gt_of (w := .fieldLink RX11 87 "OneBell$Village" "things" "I") 38 (by decide +kernel) rfl)
theorem fp_X11_87 : FP RX11 87 9 0 .int := FP.mk fc_X9 (by decide) (gt_of (w := .fieldLink RX11 87 "OneBell$Village" "things" "I") 38 (by decide +kernel) rfl) rfl rfl
theorem fl_X11_102 : FL RX11 102 9 5 := FL.mk fc_X9 (by decide) (gt_of (w := .fieldLink RX11 102 "OneBell$Village" "whole" "I") 50 (by decide +kernel) rfl)
theorem fp_X11_102 : FP RX11 102 9 5 .int := FP.mk fc_X9 (by decide) (gt_of (w := .fieldLink RX11 102 "OneBell$Village" "whole" "I") 50 (by decide +kernel) rfl) rfl rfl
theorem fl_X11_112 : FL RX11 112 9 6 := FL.mk fc_X9 (by decide) (gt_of (w := .fieldLink RX11 112 "OneBell$Village" "damp" "I") 54 (by decide +kernel) rfl)
theorem fp_X11_112 : FP RX11 112 9 6 .int := FP.mk fc_X9 (by decide) (gt_of (w := .fieldLink RX11 112 "OneBell$Village" "damp" "I") 54 (by decide +kernel) rfl) rfl rfl
theorem fl_X11_119 : FL RX11 119 5 2 := FL.mk fc_X5 (by decide) (gt_of (w := .fieldLink RX11 119 "OneBell$Reader" "start" "I") 316 (by decide +kernel) rfl)
theorem fp_X11_119 : FP RX11 119 5 2 .int := FP.mk fc_X5 (by decide) (gt_of (w := .fieldLink RX11 119 "OneBell$Reader" "start" "I") 316 (by decide +kernel) rfl) rfl rfl
theorem fl_X11_122 : FL RX11 122 5 0 := FL.mk fc_X5 (by decide) (gt_of (w := .fieldLink RX11 122 "OneBell$Reader" "draft" "LOneBell$Village;") 312 (by decide +kernel) rfl)
theorem fl_X11_129 : FL RX11 129 5 1 := FL.mk fc_X5 (by decide) (gt_of (w := .fieldLink RX11 129 "OneBell$Reader" "items" "I") 314 (by decide +kernel) rfl)
theorem fp_X11_129 : FP RX11 129 5 1 .int := FP.mk fc_X5 (by decide) (gt_of (w := .fieldLink RX11 129 "OneBell$Reader" "items" "I") 314 (by decide +kernel) rfl) rfl rfl
theorem fl_X11_142 : FL RX11 142 9 7 := FL.mk fc_X9 (by decide) (gt_of (w := .fieldLink RX11 142 "OneBell$Village" "open" "I") 58 (by decide +kernel) rfl)
theorem fp_X11_142 : FP RX11 142 9 7 .int := FP.mk fc_X9 (by decide) (gt_of (w := .fieldLink RX11 142 "OneBell$Village" "open" "I") 58 (by decide +kernel) rfl) rfl rfl
theorem fl_X11_152 : FL RX11 152 9 15 := FL.mk fc_X9 (by decide) (gt_of (w := .fieldLink RX11 152 "OneBell$Village" "pasts" "I") 78 (by decide +kernel) rfl)
theorem fp_X11_152 : FP RX11 152 9 15 .int := FP.mk fc_X9 (by decide) (gt_of (w := .fieldLink RX11 152 "OneBell$Village" "pasts" "I") 78 (by decide +kernel) rfl) rfl rfl
theorem fl_X11_158 : FL RX11 158 9 8 := FL.mk fc_X9 (by decide) (gt_of (w := .fieldLink RX11 158 "OneBell$Village" "errands" "I") 62 (by decide +kernel) rfl)
theorem fp_X11_158 : FP RX11 158 9 8 .int := FP.mk fc_X9 (by decide) (gt_of (w := .fieldLink RX11 158 "OneBell$Village" "errands" "I") 62 (by decide +kernel) rfl) rfl rfl
theorem fl_X11_168 : FL RX11 168 0 5 := FL.mk fc_X0 (by decide) (gt_of (w := .fieldLink RX11 168 "OneBell$Day" "leastHarm" "I") 219 (by decide +kernel) rfl)
theorem fp_X11_168 : FP RX11 168 0 5 .int := FP.mk fc_X0 (by decide) (gt_of (w := .fieldLink RX11 168 "OneBell$Day" "leastHarm" "I") 219 (by decide +kernel) rfl) rfl rfl
theorem fl_X11_171 : FL RX11 171 0 6 := FL.mk fc_X0 (by decide) (gt_of (w := .fieldLink RX11 171 "OneBell$Day" "bestRow" "[I") 221 (by decide +kernel) rfl)
theorem fl_X11_180 : FL RX11 180 0 8 := FL.mk fc_X0 (by decide) (gt_of (w := .fieldLink RX11 180 "OneBell$Day" "steps" "[I") 224 (by decide +kernel) rfl)
theorem fl_X11_207 : FL RX11 207 9 11 := FL.mk fc_X9 (by decide) (gt_of (w := .fieldLink RX11 207 "OneBell$Village" "rules" "I") 70 (by decide +kernel) rfl)
theorem fp_X11_207 : FP RX11 207 9 11 .int := FP.mk fc_X9 (by decide) (gt_of (w := .fieldLink RX11 207 "OneBell$Village" "rules" "I") 70 (by decide +kernel) rfl) rfl rfl
theorem fl_X11_220 : FL RX11 220 6 8 := FL.mk fc_X6 (by decide) (gt_of (w := .fieldLink RX11 220 "OneBell$SlackSearch" "row" "[I") 282 (by decide +kernel) rfl)
theorem fl_X11_232 : FL RX11 232 0 13 := FL.mk fc_X0 (by decide) (gt_of (w := .fieldLink RX11 232 "OneBell$Day" "shareAbove" "I") 230 (by decide +kernel) rfl)
theorem fp_X11_232 : FP RX11 232 0 13 .int := FP.mk fc_X0 (by decide) (gt_of (w := .fieldLink RX11 232 "OneBell$Day" "shareAbove" "I") 230 (by decide +kernel) rfl) rfl rfl
theorem fl_X11_235 : FL RX11 235 0 14 := FL.mk fc_X0 (by decide) (gt_of (w := .fieldLink RX11 235 "OneBell$Day" "shareBelow" "I") 232 (by decide +kernel) rfl)
theorem fp_X11_235 : FP RX11 235 0 14 .int := FP.mk fc_X0 (by decide) (gt_of (w := .fieldLink RX11 235 "OneBell$Day" "shareBelow" "I") 232 (by decide +kernel) rfl) rfl rfl
theorem fl_X0_9 : FL RX0 9 0 1 := FL.mk fc_X0 (by decide) (gt_of (w := .fieldLink RX0 9 "OneBell$Day" "errands" "I") 214 (by decide +kernel) rfl)
theorem fp_X0_9 : FP RX0 9 0 1 .int := FP.mk fc_X0 (by decide) (gt_of (w := .fieldLink RX0 9 "OneBell$Day" "errands" "I") 214 (by decide +kernel) rfl) rfl rfl
theorem fl_X0_15 : FL RX0 15 0 2 := FL.mk fc_X0 (by decide) (gt_of (w := .fieldLink RX0 15 "OneBell$Day" "counting" "[I") 215 (by decide +kernel) rfl)
theorem fl_X0_19 : FL RX0 19 0 3 := FL.mk fc_X0 (by decide) (gt_of (w := .fieldLink RX0 19 "OneBell$Day" "turned" "[I") 216 (by decide +kernel) rfl)
theorem fl_X0_22 : FL RX0 22 0 4 := FL.mk fc_X0 (by decide) (gt_of (w := .fieldLink RX0 22 "OneBell$Day" "rings" "[I") 217 (by decide +kernel) rfl)
theorem fl_X0_25 : FL RX0 25 0 5 := FL.mk fc_X0 (by decide) (gt_of (w := .fieldLink RX0 25 "OneBell$Day" "leastHarm" "I") 218 (by decide +kernel) rfl)
theorem fp_X0_25 : FP RX0 25 0 5 .int := FP.mk fc_X0 (by decide) (gt_of (w := .fieldLink RX0 25 "OneBell$Day" "leastHarm" "I") 218 (by decide +kernel) rfl) rfl rfl
theorem fl_X0_28 : FL RX0 28 0 6 := FL.mk fc_X0 (by decide) (gt_of (w := .fieldLink RX0 28 "OneBell$Day" "bestRow" "[I") 220 (by decide +kernel) rfl)
theorem fl_X0_31 : FL RX0 31 0 7 := FL.mk fc_X0 (by decide) (gt_of (w := .fieldLink RX0 31 "OneBell$Day" "row" "[I") 222 (by decide +kernel) rfl)
theorem fl_X0_34 : FL RX0 34 0 8 := FL.mk fc_X0 (by decide) (gt_of (w := .fieldLink RX0 34 "OneBell$Day" "steps" "[I") 223 (by decide +kernel) rfl)
theorem fl_X0_37 : FL RX0 37 0 9 := FL.mk fc_X0 (by decide) (gt_of (w := .fieldLink RX0 37 "OneBell$Day" "cameFrom" "[I") 225 (by decide +kernel) rfl)
theorem fl_X0_40 : FL RX0 40 0 10 := FL.mk fc_X0 (by decide) (gt_of (w := .fieldLink RX0 40 "OneBell$Day" "cameBy" "[I") 226 (by decide +kernel) rfl)
theorem fl_X0_43 : FL RX0 43 0 11 := FL.mk fc_X0 (by decide) (gt_of (w := .fieldLink RX0 43 "OneBell$Day" "waiting" "[I") 227 (by decide +kernel) rfl)
theorem fl_X0_46 : FL RX0 46 0 12 := FL.mk fc_X0 (by decide) (gt_of (w := .fieldLink RX0 46 "OneBell$Day" "ends" "[I") 228 (by decide +kernel) rfl)
theorem fl_X0_49 : FL RX0 49 0 13 := FL.mk fc_X0 (by decide) (gt_of (w := .fieldLink RX0 49 "OneBell$Day" "shareAbove" "I") 229 (by decide +kernel) rfl)
theorem fp_X0_49 : FP RX0 49 0 13 .int := FP.mk fc_X0 (by decide) (gt_of (w := .fieldLink RX0 49 "OneBell$Day" "shareAbove" "I") 229 (by decide +kernel) rfl) rfl rfl
theorem fl_X0_52 : FL RX0 52 0 14 := FL.mk fc_X0 (by decide) (gt_of (w := .fieldLink RX0 52 "OneBell$Day" "shareBelow" "I") 231 (by decide +kernel) rfl)
theorem fp_X0_52 : FP RX0 52 0 14 .int := FP.mk fc_X0 (by decide) (gt_of (w := .fieldLink RX0 52 "OneBell$Day" "shareBelow" "I") 231 (by decide +kernel) rfl) rfl rfl
theorem fl_X0_55 : FL RX0 55 0 15 := FL.mk fc_X0 (by decide) (gt_of (w := .fieldLink RX0 55 "OneBell$Day" "harmOfRopes" "[I") 233 (by decide +kernel) rfl)
theorem fl_X0_58 : FL RX0 58 0 0 := FL.mk fc_X0 (by decide) (gt_of (w := .fieldLink RX0 58 "OneBell$Day" "swing" "LOneBell$Swing;") 213 (by decide +kernel) rfl)
theorem fl_X0_62 : FL RX0 62 9 8 := FL.mk fc_X9 (by decide) (gt_of (w := .fieldLink RX0 62 "OneBell$Village" "errands" "I") 60 (by decide +kernel) rfl)
theorem fp_X0_62 : FP RX0 62 9 8 .int := FP.mk fc_X9 (by decide) (gt_of (w := .fieldLink RX0 62 "OneBell$Village" "errands" "I") 60 (by decide +kernel) rfl) rfl rfl
theorem fl_X0_65 : FL RX0 65 9 9 := FL.mk fc_X9 (by decide) (gt_of (w := .fieldLink RX0 65 "OneBell$Village" "errandThing" "[I") 64 (by decide +kernel) rfl)
theorem fl_X0_68 : FL RX0 68 9 10 := FL.mk fc_X9 (by decide) (gt_of (w := .fieldLink RX0 68 "OneBell$Village" "errandInches" "[I") 66 (by decide +kernel) rfl)
theorem fl_X0_77 : FL RX0 77 8 6 := FL.mk fc_X8 (by decide) (gt_of (w := .fieldLink RX0 77 "OneBell$Swing" "counting" "I") 187 (by decide +kernel) rfl)
theorem fp_X0_77 : FP RX0 77 8 6 .int := FP.mk fc_X8 (by decide) (gt_of (w := .fieldLink RX0 77 "OneBell$Swing" "counting" "I") 187 (by decide +kernel) rfl) rfl rfl
theorem fl_X0_79 : FL RX0 79 8 7 := FL.mk fc_X8 (by decide) (gt_of (w := .fieldLink RX0 79 "OneBell$Swing" "turned" "I") 189 (by decide +kernel) rfl)
theorem fp_X0_79 : FP RX0 79 8 7 .int := FP.mk fc_X8 (by decide) (gt_of (w := .fieldLink RX0 79 "OneBell$Swing" "turned" "I") 189 (by decide +kernel) rfl) rfl rfl
theorem fl_X0_84 : FL RX0 84 9 5 := FL.mk fc_X9 (by decide) (gt_of (w := .fieldLink RX0 84 "OneBell$Village" "whole" "I") 51 (by decide +kernel) rfl)
theorem fp_X0_84 : FP RX0 84 9 5 .int := FP.mk fc_X9 (by decide) (gt_of (w := .fieldLink RX0 84 "OneBell$Village" "whole" "I") 51 (by decide +kernel) rfl) rfl rfl
theorem fl_X0_92 : FL RX0 92 9 7 := FL.mk fc_X9 (by decide) (gt_of (w := .fieldLink RX0 92 "OneBell$Village" "open" "I") 57 (by decide +kernel) rfl)
theorem fp_X0_92 : FP RX0 92 9 7 .int := FP.mk fc_X9 (by decide) (gt_of (w := .fieldLink RX0 92 "OneBell$Village" "open" "I") 57 (by decide +kernel) rfl) rfl rfl
theorem fl_X0_117 : FL RX0 117 9 0 := FL.mk fc_X9 (by decide) (gt_of (w := .fieldLink RX0 117 "OneBell$Village" "things" "I") 40 (by decide +kernel) rfl)
theorem fp_X0_117 : FP RX0 117 9 0 .int := FP.mk fc_X9 (by decide) (gt_of (w := .fieldLink RX0 117 "OneBell$Village" "things" "I") 40 (by decide +kernel) rfl) rfl rfl
theorem fl_X2_10 : FL RX2 10 2 0 := FL.mk fc_X2 (by decide) (gt_of (w := .fieldLink RX2 10 "OneBell$Kinds" "door" "LOneBell$Door;") 158 (by decide +kernel) rfl)
theorem fl_X2_19 : FL RX2 19 2 1 := FL.mk fc_X2 (by decide) (gt_of (w := .fieldLink RX2 19 "OneBell$Kinds" "latch" "LOneBell$Latch;") 159 (by decide +kernel) rfl)
theorem fl_X2_26 : FL RX2 26 2 2 := FL.mk fc_X2 (by decide) (gt_of (w := .fieldLink RX2 26 "OneBell$Kinds" "lid" "LOneBell$Lid;") 160 (by decide +kernel) rfl)
theorem fl_X2_33 : FL RX2 33 2 3 := FL.mk fc_X2 (by decide) (gt_of (w := .fieldLink RX2 33 "OneBell$Kinds" "wheel" "LOneBell$Wheel;") 161 (by decide +kernel) rfl)
theorem fl_X2_40 : FL RX2 40 2 4 := FL.mk fc_X2 (by decide) (gt_of (w := .fieldLink RX2 40 "OneBell$Kinds" "sluice" "LOneBell$Sluice;") 162 (by decide +kernel) rfl)
theorem fl_X5_12 : FL RX5 12 5 0 := FL.mk fc_X5 (by decide) (gt_of (w := .fieldLink RX5 12 "OneBell$Reader" "draft" "LOneBell$Village;") 311 (by decide +kernel) rfl)
theorem fl_X5_18 : FL RX5 18 5 1 := FL.mk fc_X5 (by decide) (gt_of (w := .fieldLink RX5 18 "OneBell$Reader" "items" "I") 313 (by decide +kernel) rfl)
theorem fp_X5_18 : FP RX5 18 5 1 .int := FP.mk fc_X5 (by decide) (gt_of (w := .fieldLink RX5 18 "OneBell$Reader" "items" "I") 313 (by decide +kernel) rfl) rfl rfl
theorem fl_X5_22 : FL RX5 22 5 2 := FL.mk fc_X5 (by decide) (gt_of (w := .fieldLink RX5 22 "OneBell$Reader" "start" "I") 315 (by decide +kernel) rfl)
theorem fp_X5_22 : FP RX5 22 5 2 .int := FP.mk fc_X5 (by decide) (gt_of (w := .fieldLink RX5 22 "OneBell$Reader" "start" "I") 315 (by decide +kernel) rfl) rfl rfl
theorem fl_X5_25 : FL RX5 25 5 3 := FL.mk fc_X5 (by decide) (gt_of (w := .fieldLink RX5 25 "OneBell$Reader" "text" "[I") 317 (by decide +kernel) rfl)
theorem fp_X5_25 : FP RX5 25 5 3 (.array .int) := FP.mk fc_X5 (by decide) (gt_of (w := .fieldLink RX5 25 "OneBell$Reader" "text" "[I") 317 (by decide +kernel) rfl) rfl rfl
theorem fl_X5_29 : FL RX5 29 5 4 := FL.mk fc_X5 (by decide) (gt_of (w := .fieldLink RX5 29 "OneBell$Reader" "length" "I") 318 (by decide +kernel) rfl)
theorem fp_X5_29 : FP RX5 29 5 4 .int := FP.mk fc_X5 (by decide) (gt_of (w := .fieldLink RX5 29 "OneBell$Reader" "length" "I") 318 (by decide +kernel) rfl) rfl rfl
theorem fl_X5_32 : FL RX5 32 5 5 := FL.mk fc_X5 (by decide) (gt_of (w := .fieldLink RX5 32 "OneBell$Reader" "at" "I") 319 (by decide +kernel) rfl)
theorem fp_X5_32 : FP RX5 32 5 5 .int := FP.mk fc_X5 (by decide) (gt_of (w := .fieldLink RX5 32 "OneBell$Reader" "at" "I") 319 (by decide +kernel) rfl) rfl rfl
theorem fl_X5_35 : FL RX5 35 5 6 := FL.mk fc_X5 (by decide) (gt_of (w := .fieldLink RX5 35 "OneBell$Reader" "token" "I") 320 (by decide +kernel) rfl)
theorem fp_X5_35 : FP RX5 35 5 6 .int := FP.mk fc_X5 (by decide) (gt_of (w := .fieldLink RX5 35 "OneBell$Reader" "token" "I") 320 (by decide +kernel) rfl) rfl rfl
theorem fl_X5_38 : FL RX5 38 5 7 := FL.mk fc_X5 (by decide) (gt_of (w := .fieldLink RX5 38 "OneBell$Reader" "number" "I") 321 (by decide +kernel) rfl)
theorem fp_X5_38 : FP RX5 38 5 7 .int := FP.mk fc_X5 (by decide) (gt_of (w := .fieldLink RX5 38 "OneBell$Reader" "number" "I") 321 (by decide +kernel) rfl) rfl rfl
theorem fl_X5_41 : FL RX5 41 5 8 := FL.mk fc_X5 (by decide) (gt_of (w := .fieldLink RX5 41 "OneBell$Reader" "numbers" "[I") 322 (by decide +kernel) rfl)
theorem fl_X5_92 : FL RX5 92 9 0 := FL.mk fc_X9 (by decide) (gt_of (w := .fieldLink RX5 92 "OneBell$Village" "things" "I") 39 (by decide +kernel) rfl)
theorem fp_X5_92 : FP RX5 92 9 0 .int := FP.mk fc_X9 (by decide) (gt_of (w := .fieldLink RX5 92 "OneBell$Village" "things" "I") 39 (by decide +kernel) rfl) rfl rfl
theorem fl_X5_103 : FL RX5 103 9 5 := FL.mk fc_X9 (by decide) (gt_of (w := .fieldLink RX5 103 "OneBell$Village" "whole" "I") 52 (by decide +kernel) rfl)
theorem fp_X5_103 : FP RX5 103 9 5 .int := FP.mk fc_X9 (by decide) (gt_of (w := .fieldLink RX5 103 "OneBell$Village" "whole" "I") 52 (by decide +kernel) rfl) rfl rfl
theorem fl_X5_110 : FL RX5 110 9 6 := FL.mk fc_X9 (by decide) (gt_of (w := .fieldLink RX5 110 "OneBell$Village" "damp" "I") 55 (by decide +kernel) rfl)
theorem fp_X5_110 : FP RX5 110 9 6 .int := FP.mk fc_X9 (by decide) (gt_of (w := .fieldLink RX5 110 "OneBell$Village" "damp" "I") 55 (by decide +kernel) rfl) rfl rfl
theorem fl_X5_112 : FL RX5 112 9 8 := FL.mk fc_X9 (by decide) (gt_of (w := .fieldLink RX5 112 "OneBell$Village" "errands" "I") 61 (by decide +kernel) rfl)
theorem fp_X5_112 : FP RX5 112 9 8 .int := FP.mk fc_X9 (by decide) (gt_of (w := .fieldLink RX5 112 "OneBell$Village" "errands" "I") 61 (by decide +kernel) rfl) rfl rfl
theorem fl_X5_119 : FL RX5 119 9 11 := FL.mk fc_X9 (by decide) (gt_of (w := .fieldLink RX5 119 "OneBell$Village" "rules" "I") 69 (by decide +kernel) rfl)
theorem fp_X5_119 : FP RX5 119 9 11 .int := FP.mk fc_X9 (by decide) (gt_of (w := .fieldLink RX5 119 "OneBell$Village" "rules" "I") 69 (by decide +kernel) rfl) rfl rfl
theorem fl_X6_11 : FL RX6 11 6 1 := FL.mk fc_X6 (by decide) (gt_of (w := .fieldLink RX6 11 "OneBell$SlackSearch" "things" "I") 274 (by decide +kernel) rfl)
theorem fp_X6_11 : FP RX6 11 6 1 .int := FP.mk fc_X6 (by decide) (gt_of (w := .fieldLink RX6 11 "OneBell$SlackSearch" "things" "I") 274 (by decide +kernel) rfl) rfl rfl
theorem fl_X6_15 : FL RX6 15 6 2 := FL.mk fc_X6 (by decide) (gt_of (w := .fieldLink RX6 15 "OneBell$SlackSearch" "rules" "I") 275 (by decide +kernel) rfl)
theorem fp_X6_15 : FP RX6 15 6 2 .int := FP.mk fc_X6 (by decide) (gt_of (w := .fieldLink RX6 15 "OneBell$SlackSearch" "rules" "I") 275 (by decide +kernel) rfl) rfl rfl
theorem fl_X6_18 : FL RX6 18 6 3 := FL.mk fc_X6 (by decide) (gt_of (w := .fieldLink RX6 18 "OneBell$SlackSearch" "pulled" "[I") 276 (by decide +kernel) rfl)
theorem fl_X6_22 : FL RX6 22 6 4 := FL.mk fc_X6 (by decide) (gt_of (w := .fieldLink RX6 22 "OneBell$SlackSearch" "canBe" "[Z") 277 (by decide +kernel) rfl)
theorem fl_X6_26 : FL RX6 26 6 5 := FL.mk fc_X6 (by decide) (gt_of (w := .fieldLink RX6 26 "OneBell$SlackSearch" "sumsByRule" "[I") 278 (by decide +kernel) rfl)
theorem fl_X6_29 : FL RX6 29 6 6 := FL.mk fc_X6 (by decide) (gt_of (w := .fieldLink RX6 29 "OneBell$SlackSearch" "sumsByPair" "[I") 279 (by decide +kernel) rfl)
theorem fl_X6_32 : FL RX6 32 6 7 := FL.mk fc_X6 (by decide) (gt_of (w := .fieldLink RX6 32 "OneBell$SlackSearch" "left" "[I") 280 (by decide +kernel) rfl)
theorem fl_X6_35 : FL RX6 35 6 8 := FL.mk fc_X6 (by decide) (gt_of (w := .fieldLink RX6 35 "OneBell$SlackSearch" "row" "[I") 281 (by decide +kernel) rfl)
theorem fl_X6_38 : FL RX6 38 6 0 := FL.mk fc_X6 (by decide) (gt_of (w := .fieldLink RX6 38 "OneBell$SlackSearch" "kinds" "LOneBell$Kinds;") 273 (by decide +kernel) rfl)
theorem fl_X6_42 : FL RX6 42 9 0 := FL.mk fc_X9 (by decide) (gt_of (w := .fieldLink RX6 42 "OneBell$Village" "things" "I") 36 (by decide +kernel) rfl)
theorem fp_X6_42 : FP RX6 42 9 0 .int := FP.mk fc_X9 (by decide) (gt_of (w := .fieldLink RX6 42 "OneBell$Village" "things" "I") 36 (by decide +kernel) rfl) rfl rfl
theorem fl_X6_45 : FL RX6 45 9 11 := FL.mk fc_X9 (by decide) (gt_of (w := .fieldLink RX6 45 "OneBell$Village" "rules" "I") 68 (by decide +kernel) rfl)
theorem fp_X6_45 : FP RX6 45 9 11 .int := FP.mk fc_X9 (by decide) (gt_of (w := .fieldLink RX6 45 "OneBell$Village" "rules" "I") 68 (by decide +kernel) rfl) rfl rfl
theorem fl_X6_46 : FL RX6 46 9 12 := FL.mk fc_X9 (by decide) (gt_of (w := .fieldLink RX6 46 "OneBell$Village" "ruleThing" "[I") 72 (by decide +kernel) rfl)
theorem fl_X6_57 : FL RX6 57 9 13 := FL.mk fc_X9 (by decide) (gt_of (w := .fieldLink RX6 57 "OneBell$Village" "ruleInches" "[I") 74 (by decide +kernel) rfl)
theorem fl_X6_66 : FL RX6 66 9 1 := FL.mk fc_X9 (by decide) (gt_of (w := .fieldLink RX6 66 "OneBell$Village" "kind" "[I") 43 (by decide +kernel) rfl)
theorem fl_X6_75 : FL RX6 75 9 3 := FL.mk fc_X9 (by decide) (gt_of (w := .fieldLink RX6 75 "OneBell$Village" "stop" "[I") 47 (by decide +kernel) rfl)
theorem fl_X6_84 : FL RX6 84 9 14 := FL.mk fc_X9 (by decide) (gt_of (w := .fieldLink RX6 84 "OneBell$Village" "ruleSet" "[I") 76 (by decide +kernel) rfl)
theorem fl_X8_9 : FL RX8 9 8 1 := FL.mk fc_X8 (by decide) (gt_of (w := .fieldLink RX8 9 "OneBell$Swing" "first" "I") 181 (by decide +kernel) rfl)
theorem fp_X8_9 : FP RX8 9 8 1 .int := FP.mk fc_X8 (by decide) (gt_of (w := .fieldLink RX8 9 "OneBell$Swing" "first" "I") 181 (by decide +kernel) rfl) rfl rfl
theorem fl_X8_15 : FL RX8 15 8 2 := FL.mk fc_X8 (by decide) (gt_of (w := .fieldLink RX8 15 "OneBell$Swing" "firstInches" "I") 182 (by decide +kernel) rfl)
theorem fp_X8_15 : FP RX8 15 8 2 .int := FP.mk fc_X8 (by decide) (gt_of (w := .fieldLink RX8 15 "OneBell$Swing" "firstInches" "I") 182 (by decide +kernel) rfl) rfl rfl
theorem fl_X8_18 : FL RX8 18 8 3 := FL.mk fc_X8 (by decide) (gt_of (w := .fieldLink RX8 18 "OneBell$Swing" "second" "I") 183 (by decide +kernel) rfl)
theorem fp_X8_18 : FP RX8 18 8 3 .int := FP.mk fc_X8 (by decide) (gt_of (w := .fieldLink RX8 18 "OneBell$Swing" "second" "I") 183 (by decide +kernel) rfl) rfl rfl
theorem fl_X8_21 : FL RX8 21 8 4 := FL.mk fc_X8 (by decide) (gt_of (w := .fieldLink RX8 21 "OneBell$Swing" "secondInches" "I") 184 (by decide +kernel) rfl)
theorem fp_X8_21 : FP RX8 21 8 4 .int := FP.mk fc_X8 (by decide) (gt_of (w := .fieldLink RX8 21 "OneBell$Swing" "secondInches" "I") 184 (by decide +kernel) rfl) rfl rfl
theorem fl_X8_24 : FL RX8 24 8 5 := FL.mk fc_X8 (by decide) (gt_of (w := .fieldLink RX8 24 "OneBell$Swing" "travel" "I") 185 (by decide +kernel) rfl)
theorem fp_X8_24 : FP RX8 24 8 5 .int := FP.mk fc_X8 (by decide) (gt_of (w := .fieldLink RX8 24 "OneBell$Swing" "travel" "I") 185 (by decide +kernel) rfl) rfl rfl
theorem fl_X8_27 : FL RX8 27 8 6 := FL.mk fc_X8 (by decide) (gt_of (w := .fieldLink RX8 27 "OneBell$Swing" "counting" "I") 186 (by decide +kernel) rfl)
theorem fp_X8_27 : FP RX8 27 8 6 .int := FP.mk fc_X8 (by decide) (gt_of (w := .fieldLink RX8 27 "OneBell$Swing" "counting" "I") 186 (by decide +kernel) rfl) rfl rfl
theorem fl_X8_30 : FL RX8 30 8 7 := FL.mk fc_X8 (by decide) (gt_of (w := .fieldLink RX8 30 "OneBell$Swing" "turned" "I") 188 (by decide +kernel) rfl)
theorem fp_X8_30 : FP RX8 30 8 7 .int := FP.mk fc_X8 (by decide) (gt_of (w := .fieldLink RX8 30 "OneBell$Swing" "turned" "I") 188 (by decide +kernel) rfl) rfl rfl
theorem fl_X8_33 : FL RX8 33 8 0 := FL.mk fc_X8 (by decide) (gt_of (w := .fieldLink RX8 33 "OneBell$Swing" "kinds" "LOneBell$Kinds;") 180 (by decide +kernel) rfl)
theorem fl_X8_41 : FL RX8 41 9 0 := FL.mk fc_X9 (by decide) (gt_of (w := .fieldLink RX8 41 "OneBell$Village" "things" "I") 37 (by decide +kernel) rfl)
theorem fp_X8_41 : FP RX8 41 9 0 .int := FP.mk fc_X9 (by decide) (gt_of (w := .fieldLink RX8 41 "OneBell$Village" "things" "I") 37 (by decide +kernel) rfl) rfl rfl
theorem fl_X8_46 : FL RX8 46 9 1 := FL.mk fc_X9 (by decide) (gt_of (w := .fieldLink RX8 46 "OneBell$Village" "kind" "[I") 42 (by decide +kernel) rfl)
theorem fl_X8_60 : FL RX8 60 9 3 := FL.mk fc_X9 (by decide) (gt_of (w := .fieldLink RX8 60 "OneBell$Village" "stop" "[I") 46 (by decide +kernel) rfl)
theorem fl_X9_9 : FL RX9 9 9 0 := FL.mk fc_X9 (by decide) (gt_of (w := .fieldLink RX9 9 "OneBell$Village" "things" "I") 35 (by decide +kernel) rfl)
theorem fp_X9_9 : FP RX9 9 9 0 .int := FP.mk fc_X9 (by decide) (gt_of (w := .fieldLink RX9 9 "OneBell$Village" "things" "I") 35 (by decide +kernel) rfl) rfl rfl
theorem fl_X9_15 : FL RX9 15 9 1 := FL.mk fc_X9 (by decide) (gt_of (w := .fieldLink RX9 15 "OneBell$Village" "kind" "[I") 41 (by decide +kernel) rfl)
theorem fl_X9_19 : FL RX9 19 9 2 := FL.mk fc_X9 (by decide) (gt_of (w := .fieldLink RX9 19 "OneBell$Village" "slack" "[I") 44 (by decide +kernel) rfl)
theorem fl_X9_22 : FL RX9 22 9 3 := FL.mk fc_X9 (by decide) (gt_of (w := .fieldLink RX9 22 "OneBell$Village" "stop" "[I") 45 (by decide +kernel) rfl)
theorem fl_X9_25 : FL RX9 25 9 4 := FL.mk fc_X9 (by decide) (gt_of (w := .fieldLink RX9 25 "OneBell$Village" "harm" "[I") 48 (by decide +kernel) rfl)
theorem fl_X9_28 : FL RX9 28 9 5 := FL.mk fc_X9 (by decide) (gt_of (w := .fieldLink RX9 28 "OneBell$Village" "whole" "I") 49 (by decide +kernel) rfl)
theorem fp_X9_28 : FP RX9 28 9 5 .int := FP.mk fc_X9 (by decide) (gt_of (w := .fieldLink RX9 28 "OneBell$Village" "whole" "I") 49 (by decide +kernel) rfl) rfl rfl
theorem fl_X9_31 : FL RX9 31 9 6 := FL.mk fc_X9 (by decide) (gt_of (w := .fieldLink RX9 31 "OneBell$Village" "damp" "I") 53 (by decide +kernel) rfl)
theorem fp_X9_31 : FP RX9 31 9 6 .int := FP.mk fc_X9 (by decide) (gt_of (w := .fieldLink RX9 31 "OneBell$Village" "damp" "I") 53 (by decide +kernel) rfl) rfl rfl
theorem fl_X9_34 : FL RX9 34 9 7 := FL.mk fc_X9 (by decide) (gt_of (w := .fieldLink RX9 34 "OneBell$Village" "open" "I") 56 (by decide +kernel) rfl)
theorem fp_X9_34 : FP RX9 34 9 7 .int := FP.mk fc_X9 (by decide) (gt_of (w := .fieldLink RX9 34 "OneBell$Village" "open" "I") 56 (by decide +kernel) rfl) rfl rfl
theorem fl_X9_37 : FL RX9 37 9 8 := FL.mk fc_X9 (by decide) (gt_of (w := .fieldLink RX9 37 "OneBell$Village" "errands" "I") 59 (by decide +kernel) rfl)
theorem fp_X9_37 : FP RX9 37 9 8 .int := FP.mk fc_X9 (by decide) (gt_of (w := .fieldLink RX9 37 "OneBell$Village" "errands" "I") 59 (by decide +kernel) rfl) rfl rfl
theorem fl_X9_40 : FL RX9 40 9 9 := FL.mk fc_X9 (by decide) (gt_of (w := .fieldLink RX9 40 "OneBell$Village" "errandThing" "[I") 63 (by decide +kernel) rfl)
theorem fl_X9_43 : FL RX9 43 9 10 := FL.mk fc_X9 (by decide) (gt_of (w := .fieldLink RX9 43 "OneBell$Village" "errandInches" "[I") 65 (by decide +kernel) rfl)
theorem fl_X9_46 : FL RX9 46 9 11 := FL.mk fc_X9 (by decide) (gt_of (w := .fieldLink RX9 46 "OneBell$Village" "rules" "I") 67 (by decide +kernel) rfl)
theorem fp_X9_46 : FP RX9 46 9 11 .int := FP.mk fc_X9 (by decide) (gt_of (w := .fieldLink RX9 46 "OneBell$Village" "rules" "I") 67 (by decide +kernel) rfl) rfl rfl
theorem fl_X9_49 : FL RX9 49 9 12 := FL.mk fc_X9 (by decide) (gt_of (w := .fieldLink RX9 49 "OneBell$Village" "ruleThing" "[I") 71 (by decide +kernel) rfl)
theorem fl_X9_52 : FL RX9 52 9 13 := FL.mk fc_X9 (by decide) (gt_of (w := .fieldLink RX9 52 "OneBell$Village" "ruleInches" "[I") 73 (by decide +kernel) rfl)
theorem fl_X9_55 : FL RX9 55 9 14 := FL.mk fc_X9 (by decide) (gt_of (w := .fieldLink RX9 55 "OneBell$Village" "ruleSet" "[I") 75 (by decide +kernel) rfl)
theorem fl_X9_58 : FL RX9 58 9 15 := FL.mk fc_X9 (by decide) (gt_of (w := .fieldLink RX9 58 "OneBell$Village" "pasts" "I") 77 (by decide +kernel) rfl)
theorem fp_X9_58 : FP RX9 58 9 15 .int := FP.mk fc_X9 (by decide) (gt_of (w := .fieldLink RX9 58 "OneBell$Village" "pasts" "I") 77 (by decide +kernel) rfl) rfl rfl
theorem fl_X9_61 : FL RX9 61 9 16 := FL.mk fc_X9 (by decide) (gt_of (w := .fieldLink RX9 61 "OneBell$Village" "past" "[I") 79 (by decide +kernel) rfl)
theorem fl_X12_7 : FL RX12 7 12 0 := FL.mk fc_X12 (by decide) (gt_of (w := .fieldLink RX12 7 "OneBellModel" "now" "[I") 883 (by decide +kernel) rfl)
theorem fl_X12_13 : FL RX12 13 12 1 := FL.mk fc_X12 (by decide) (gt_of (w := .fieldLink RX12 13 "OneBellModel" "kept" "[I") 884 (by decide +kernel) rfl)
theorem fl_X12_16 : FL RX12 16 12 2 := FL.mk fc_X12 (by decide) (gt_of (w := .fieldLink RX12 16 "OneBellModel" "isKept" "[Z") 885 (by decide +kernel) rfl)
theorem fl_X12_20 : FL RX12 20 12 3 := FL.mk fc_X12 (by decide) (gt_of (w := .fieldLink RX12 20 "OneBellModel" "refused" "[I") 886 (by decide +kernel) rfl)
theorem fl_X12_23 : FL RX12 23 12 5 := FL.mk fc_X12 (by decide) (gt_of (w := .fieldLink RX12 23 "OneBellModel" "below" "J") 888 (by decide +kernel) rfl)
theorem fp_X12_23 : FP RX12 23 12 5 .long := FP.mk fc_X12 (by decide) (gt_of (w := .fieldLink RX12 23 "OneBellModel" "below" "J") 888 (by decide +kernel) rfl) rfl rfl
theorem fl_X12_27 : FL RX12 27 12 6 := FL.mk fc_X12 (by decide) (gt_of (w := .fieldLink RX12 27 "OneBellModel" "slacks" "[I") 889 (by decide +kernel) rfl)
theorem fl_X12_30 : FL RX12 30 12 12 := FL.mk fc_X12 (by decide) (gt_of (w := .fieldLink RX12 30 "OneBellModel" "row" "[I") 895 (by decide +kernel) rfl)
theorem fl_X12_33 : FL RX12 33 12 13 := FL.mk fc_X12 (by decide) (gt_of (w := .fieldLink RX12 33 "OneBellModel" "bestRow" "[I") 896 (by decide +kernel) rfl)
theorem fl_X12_36 : FL RX12 36 12 15 := FL.mk fc_X12 (by decide) (gt_of (w := .fieldLink RX12 36 "OneBellModel" "far" "[I") 898 (by decide +kernel) rfl)
theorem fl_X12_39 : FL RX12 39 12 16 := FL.mk fc_X12 (by decide) (gt_of (w := .fieldLink RX12 39 "OneBellModel" "bytes" "[I") 899 (by decide +kernel) rfl)
theorem fl_X12_42 : FL RX12 42 12 22 := FL.mk fc_X12 (by decide) (gt_of (w := .fieldLink RX12 42 "OneBellModel" "next" "[I") 905 (by decide +kernel) rfl)
theorem fl_X12_45 : FL RX12 45 12 23 := FL.mk fc_X12 (by decide) (gt_of (w := .fieldLink RX12 45 "OneBellModel" "values" "[I") 906 (by decide +kernel) rfl)
theorem fl_X12_89 : FL RX12 89 12 7 := FL.mk fc_X12 (by decide) (gt_of (w := .fieldLink RX12 89 "OneBellModel" "whole" "I") 890 (by decide +kernel) rfl)
theorem fp_X12_89 : FP RX12 89 12 7 .int := FP.mk fc_X12 (by decide) (gt_of (w := .fieldLink RX12 89 "OneBellModel" "whole" "I") 890 (by decide +kernel) rfl) rfl rfl
theorem fl_X12_93 : FL RX12 93 12 8 := FL.mk fc_X12 (by decide) (gt_of (w := .fieldLink RX12 93 "OneBellModel" "first" "I") 891 (by decide +kernel) rfl)
theorem fp_X12_93 : FP RX12 93 12 8 .int := FP.mk fc_X12 (by decide) (gt_of (w := .fieldLink RX12 93 "OneBellModel" "first" "I") 891 (by decide +kernel) rfl) rfl rfl
theorem fl_X12_96 : FL RX12 96 12 9 := FL.mk fc_X12 (by decide) (gt_of (w := .fieldLink RX12 96 "OneBellModel" "firstBy" "I") 892 (by decide +kernel) rfl)
theorem fp_X12_96 : FP RX12 96 12 9 .int := FP.mk fc_X12 (by decide) (gt_of (w := .fieldLink RX12 96 "OneBellModel" "firstBy" "I") 892 (by decide +kernel) rfl) rfl rfl
theorem fl_X12_99 : FL RX12 99 12 10 := FL.mk fc_X12 (by decide) (gt_of (w := .fieldLink RX12 99 "OneBellModel" "second" "I") 893 (by decide +kernel) rfl)
theorem fp_X12_99 : FP RX12 99 12 10 .int := FP.mk fc_X12 (by decide) (gt_of (w := .fieldLink RX12 99 "OneBellModel" "second" "I") 893 (by decide +kernel) rfl) rfl rfl
theorem fl_X12_102 : FL RX12 102 12 11 := FL.mk fc_X12 (by decide) (gt_of (w := .fieldLink RX12 102 "OneBellModel" "secondBy" "I") 894 (by decide +kernel) rfl)
theorem fp_X12_102 : FP RX12 102 12 11 .int := FP.mk fc_X12 (by decide) (gt_of (w := .fieldLink RX12 102 "OneBellModel" "secondBy" "I") 894 (by decide +kernel) rfl) rfl rfl
theorem fl_X12_146 : FL RX12 146 12 14 := FL.mk fc_X12 (by decide) (gt_of (w := .fieldLink RX12 146 "OneBellModel" "least" "I") 897 (by decide +kernel) rfl)
theorem fp_X12_146 : FP RX12 146 12 14 .int := FP.mk fc_X12 (by decide) (gt_of (w := .fieldLink RX12 146 "OneBellModel" "least" "I") 897 (by decide +kernel) rfl) rfl rfl
theorem fl_X12_183 : FL RX12 183 12 4 := FL.mk fc_X12 (by decide) (gt_of (w := .fieldLink RX12 183 "OneBellModel" "above" "J") 887 (by decide +kernel) rfl)
theorem fp_X12_183 : FP RX12 183 12 4 .long := FP.mk fc_X12 (by decide) (gt_of (w := .fieldLink RX12 183 "OneBellModel" "above" "J") 887 (by decide +kernel) rfl) rfl rfl
theorem fl_X12_188 : FL RX12 188 12 17 := FL.mk fc_X12 (by decide) (gt_of (w := .fieldLink RX12 188 "OneBellModel" "bytesLong" "I") 900 (by decide +kernel) rfl)
theorem fp_X12_188 : FP RX12 188 12 17 .int := FP.mk fc_X12 (by decide) (gt_of (w := .fieldLink RX12 188 "OneBellModel" "bytesLong" "I") 900 (by decide +kernel) rfl) rfl rfl
theorem fl_X12_201 : FL RX12 201 12 18 := FL.mk fc_X12 (by decide) (gt_of (w := .fieldLink RX12 201 "OneBellModel" "tokenAt" "I") 901 (by decide +kernel) rfl)
theorem fp_X12_201 : FP RX12 201 12 18 .int := FP.mk fc_X12 (by decide) (gt_of (w := .fieldLink RX12 201 "OneBellModel" "tokenAt" "I") 901 (by decide +kernel) rfl) rfl rfl
theorem fl_X12_204 : FL RX12 204 12 19 := FL.mk fc_X12 (by decide) (gt_of (w := .fieldLink RX12 204 "OneBellModel" "tokenLong" "I") 902 (by decide +kernel) rfl)
theorem fp_X12_204 : FP RX12 204 12 19 .int := FP.mk fc_X12 (by decide) (gt_of (w := .fieldLink RX12 204 "OneBellModel" "tokenLong" "I") 902 (by decide +kernel) rfl) rfl rfl
theorem fl_X12_207 : FL RX12 207 12 20 := FL.mk fc_X12 (by decide) (gt_of (w := .fieldLink RX12 207 "OneBellModel" "token" "I") 903 (by decide +kernel) rfl)
theorem fp_X12_207 : FP RX12 207 12 20 .int := FP.mk fc_X12 (by decide) (gt_of (w := .fieldLink RX12 207 "OneBellModel" "token" "I") 903 (by decide +kernel) rfl) rfl rfl
theorem fl_X12_210 : FL RX12 210 12 21 := FL.mk fc_X12 (by decide) (gt_of (w := .fieldLink RX12 210 "OneBellModel" "value" "I") 904 (by decide +kernel) rfl)
theorem fp_X12_210 : FP RX12 210 12 21 .int := FP.mk fc_X12 (by decide) (gt_of (w := .fieldLink RX12 210 "OneBellModel" "value" "I") 904 (by decide +kernel) rfl) rfl rfl
theorem cd_X11_init : Cond.code yX11_init cX11_init 2 none ∈ gt := gt_of 25 (by decide +kernel) rfl
theorem cd_X11_bad : Cond.code yX11_bad cX11_bad 2 (some .int) ∈ gt := gt_of 392 (by decide +kernel) rfl
theorem cd_X11_both : Cond.code yX11_both cX11_both 5 (some .int) ∈ gt := gt_of 636 (by decide +kernel) rfl
theorem cd_X11_clear : Cond.code yX11_clear cX11_clear 2 (some .int) ∈ gt := gt_of 428 (by decide +kernel) rfl
theorem cd_X11_code : Cond.code yX11_code cX11_code 4 (some .int) ∈ gt := gt_of 700 (by decide +kernel) rfl
theorem cd_X11_count : Cond.code yX11_count cX11_count 2 (some .int) ∈ gt := gt_of 860 (by decide +kernel) rfl
theorem cd_X11_cuts : Cond.code yX11_cuts cX11_cuts 2 (some .int) ∈ gt := gt_of 741 (by decide +kernel) rfl
theorem cd_X11_damp : Cond.code yX11_damp cX11_damp 3 (some .int) ∈ gt := gt_of 420 (by decide +kernel) rfl
theorem cd_X11_digest : Cond.code yX11_digest cX11_digest 4 (some .long) ∈ gt := gt_of 869 (by decide +kernel) rfl
theorem cd_X11_doSwing : Cond.code yX11_doSwing cX11_doSwing 1 (some .int) ∈ gt := gt_of 620 (by decide +kernel) rfl
theorem cd_X11_drop : Cond.code yX11_drop cX11_drop 1 (some .int) ∈ gt := gt_of 666 (by decide +kernel) rfl
theorem cd_X11_errand : Cond.code yX11_errand cX11_errand 3 (some .int) ∈ gt := gt_of 661 (by decide +kernel) rfl
theorem cd_X11_free : Cond.code yX11_free cX11_free 2 (some .int) ∈ gt := gt_of 764 (by decide +kernel) rfl
theorem cd_X11_from : Cond.code yX11_from cX11_from 3 (some .int) ∈ gt := gt_of 852 (by decide +kernel) rfl
theorem cd_X11_giveUp : Cond.code yX11_giveUp cX11_giveUp 1 (some .int) ∈ gt := gt_of 813 (by decide +kernel) rfl
theorem cd_X11_has : Cond.code yX11_has cX11_has 2 (some .boolean) ∈ gt := gt_of 412 (by decide +kernel) rfl
theorem cd_X11_heard : Cond.code yX11_heard cX11_heard 2 (some .int) ∈ gt := gt_of 732 (by decide +kernel) rfl
theorem cd_X11_howMany : Cond.code yX11_howMany cX11_howMany 2 (some .int) ∈ gt := gt_of 864 (by decide +kernel) rfl
theorem cd_X11_image : Cond.code yX11_image cX11_image 2 (some .int) ∈ gt := gt_of 848 (by decide +kernel) rfl
theorem cd_X11_isPull : Cond.code yX11_isPull cX11_isPull 3 (some .boolean) ∈ gt := gt_of 571 (by decide +kernel) rfl
theorem cd_X11_keepFraction : Cond.code yX11_keepFraction cX11_keepFraction 7 none ∈ gt := gt_of 837 (by decide +kernel) rfl
theorem cd_X11_moves : Cond.code yX11_moves cX11_moves 4 (some .int) ∈ gt := gt_of 648 (by decide +kernel) rfl
theorem cd_X11_open : Cond.code yX11_open cX11_open 1 (some .int) ∈ gt := gt_of 644 (by decide +kernel) rfl
theorem cd_X11_order : Cond.code yX11_order cX11_order 2 (some .int) ∈ gt := gt_of 670 (by decide +kernel) rfl
theorem cd_X11_part : Cond.code yX11_part cX11_part 2 (some .long) ∈ gt := gt_of 844 (by decide +kernel) rfl
theorem cd_X11_pull : Cond.code yX11_pull cX11_pull 3 (some .int) ∈ gt := gt_of 567 (by decide +kernel) rfl
theorem cd_X11_read : Cond.code yX11_read cX11_read 2 (some .int) ∈ gt := gt_of 432 (by decide +kernel) rfl
theorem cd_X11_refusedNow : Cond.code yX11_refusedNow cX11_refusedNow 1 (some .int) ∈ gt := gt_of 416 (by decide +kernel) rfl
theorem cd_X11_rope : Cond.code yX11_rope cX11_rope 3 (some .int) ∈ gt := gt_of 404 (by decide +kernel) rfl
theorem cd_X11_rule : Cond.code yX11_rule cX11_rule 4 (some .int) ∈ gt := gt_of 759 (by decide +kernel) rfl
theorem cd_X11_share : Cond.code yX11_share cX11_share 2 (some .int) ∈ gt := gt_of 823 (by decide +kernel) rfl
theorem cd_X11_slack : Cond.code yX11_slack cX11_slack 2 (some .int) ∈ gt := gt_of 768 (by decide +kernel) rfl
theorem cd_X11_status : Cond.code yX11_status cX11_status 2 (some .int) ∈ gt := gt_of 856 (by decide +kernel) rfl
theorem cd_X11_thing : Cond.code yX11_thing cX11_thing 6 (some .int) ∈ gt := gt_of 385 (by decide +kernel) rfl
theorem cd_X11_tooMany : Cond.code yX11_tooMany cX11_tooMany 1 (some .int) ∈ gt := gt_of 396 (by decide +kernel) rfl
theorem cd_X11_type : Cond.code yX11_type cX11_type 5 (some .int) ∈ gt := gt_of 424 (by decide +kernel) rfl
theorem cd_X11_undo : Cond.code yX11_undo cX11_undo 1 (some .int) ∈ gt := gt_of 653 (by decide +kernel) rfl
theorem cd_X11_who : Cond.code yX11_who cX11_who 3 (some .int) ∈ gt := gt_of 716 (by decide +kernel) rfl
theorem cd_X11_within : Cond.code yX11_within cX11_within 3 (some .boolean) ∈ gt := gt_of 388 (by decide +kernel) rfl
theorem cd_X11_would : Cond.code yX11_would cX11_would 3 (some .int) ∈ gt := gt_of 640 (by decide +kernel) rfl
theorem cd_X0_init : Cond.code yX0_init cX0_init 2 none ∈ gt := gt_of 211 (by decide +kernel) rfl
theorem cd_X0_anyOpens : Cond.code yX0_anyOpens cX0_anyOpens 4 (some .boolean) ∈ gt := gt_of 755 (by decide +kernel) rfl
theorem cd_X0_behind : Cond.code yX0_behind cX0_behind 3 (some .int) ∈ gt := gt_of 691 (by decide +kernel) rfl
theorem cd_X0_fewestCuts : Cond.code yX0_fewestCuts cX0_fewestCuts 6 (some .int) ∈ gt := gt_of 745 (by decide +kernel) rfl
theorem cd_X0_findCodes : Cond.code yX0_findCodes cX0_findCodes 7 none ∈ gt := gt_of 708 (by decide +kernel) rfl
theorem cd_X0_findEnds : Cond.code yX0_findEnds cX0_findEnds 4 none ∈ gt := gt_of 720 (by decide +kernel) rfl
theorem cd_X0_findHarmOfRopes : Cond.code yX0_findHarmOfRopes cX0_findHarmOfRopes 5 none ∈ gt := gt_of 827 (by decide +kernel) rfl
theorem cd_X0_findOrder : Cond.code yX0_findOrder cX0_findOrder 2 none ∈ gt := gt_of 674 (by decide +kernel) rfl
theorem cd_X0_findRest : Cond.code yX0_findRest cX0_findRest 9 none ∈ gt := gt_of 685 (by decide +kernel) rfl
theorem cd_X0_howManyEndAt : Cond.code yX0_howManyEndAt cX0_howManyEndAt 4 (some .int) ∈ gt := gt_of 724 (by decide +kernel) rfl
theorem cd_X0_leastThatEndsAt : Cond.code yX0_leastThatEndsAt cX0_leastThatEndsAt 3 (some .int) ∈ gt := gt_of 728 (by decide +kernel) rfl
theorem cd_X0_look : Cond.code yX0_look cX0_look 4 none ∈ gt := gt_of 678 (by decide +kernel) rfl
theorem cd_X0_stepTo : Cond.code yX0_stepTo cX0_stepTo 5 (some .int) ∈ gt := gt_of 712 (by decide +kernel) rfl
theorem cd_X0_thatRing : Cond.code yX0_thatRing cX0_thatRing 4 (some .int) ∈ gt := gt_of 737 (by decide +kernel) rfl
theorem cd_X0_weighShare : Cond.code yX0_weighShare cX0_weighShare 6 none ∈ gt := gt_of 831 (by decide +kernel) rfl
theorem cd_X1_init : Cond.code yX1_init cX1_init 1 none ∈ gt := gt_of 127 (by decide +kernel) rfl
theorem cd_X1_becomes : Cond.code yX1_becomes cX1_becomes 4 (some .boolean) ∈ gt := gt_of 616 (by decide +kernel) rfl
theorem cd_X2_init : Cond.code yX2_init cX2_init 1 none ∈ gt := gt_of 121 (by decide +kernel) rfl
theorem cd_X2_ofNumber : Cond.code yX2_ofNumber cX2_ofNumber 2 (some (.object "OneBell$Door")) ∈ gt := gt_of 591 (by decide +kernel) rfl
theorem cd_X3_init : Cond.code yX3_init cX3_init 1 none ∈ gt := gt_of 134 (by decide +kernel) rfl
theorem cd_X3_becomes : Cond.code yX3_becomes cX3_becomes 4 (some .boolean) ∈ gt := gt_of 602 (by decide +kernel) rfl
theorem cd_X4_init : Cond.code yX4_init cX4_init 1 none ∈ gt := gt_of 141 (by decide +kernel) rfl
theorem cd_X4_becomes : Cond.code yX4_becomes cX4_becomes 4 (some .boolean) ∈ gt := gt_of 606 (by decide +kernel) rfl
theorem cd_X5_init : Cond.code yX5_init cX5_init 1 none ∈ gt := gt_of 307 (by decide +kernel) rfl
theorem cd_X5_endOfRun : Cond.code yX5_endOfRun cX5_endOfRun 5 (some .int) ∈ gt := gt_of 451 (by decide +kernel) rfl
theorem cd_X5_isWord : Cond.code yX5_isWord cX5_isWord 3 (some .boolean) ∈ gt := gt_of 464 (by decide +kernel) rfl
theorem cd_X5_nextToken : Cond.code yX5_nextToken cX5_nextToken 1 none ∈ gt := gt_of 447 (by decide +kernel) rfl
theorem cd_X5_takeFigures : Cond.code yX5_takeFigures cX5_takeFigures 2 none ∈ gt := gt_of 455 (by decide +kernel) rfl
theorem cd_X5_takes : Cond.code yX5_takes cX5_takes 4 (some .boolean) ∈ gt := gt_of 436 (by decide +kernel) rfl
theorem cd_X5_takesCut : Cond.code yX5_takesCut cX5_takesCut 1 (some .boolean) ∈ gt := gt_of 527 (by decide +kernel) rfl
theorem cd_X5_takesDamp : Cond.code yX5_takesDamp cX5_takesDamp 1 (some .boolean) ∈ gt := gt_of 533 (by decide +kernel) rfl
theorem cd_X5_takesEndOfItem : Cond.code yX5_takesEndOfItem cX5_takesEndOfItem 1 (some .boolean) ∈ gt := gt_of 555 (by decide +kernel) rfl
theorem cd_X5_takesErrand : Cond.code yX5_takesErrand cX5_takesErrand 2 (some .boolean) ∈ gt := gt_of 538 (by decide +kernel) rfl
theorem cd_X5_takesItem : Cond.code yX5_takesItem cX5_takesItem 1 (some .boolean) ∈ gt := gt_of 459 (by decide +kernel) rfl
theorem cd_X5_takesNumber : Cond.code yX5_takesNumber cX5_takesNumber 4 (some .boolean) ∈ gt := gt_of 520 (by decide +kernel) rfl
theorem cd_X5_takesRule : Cond.code yX5_takesRule cX5_takesRule 2 (some .boolean) ∈ gt := gt_of 547 (by decide +kernel) rfl
theorem cd_X5_takesThing : Cond.code yX5_takesThing cX5_takesThing 2 (some .boolean) ∈ gt := gt_of 516 (by decide +kernel) rfl
theorem cd_X6_init : Cond.code yX6_init cX6_init 2 none ∈ gt := gt_of 271 (by decide +kernel) rfl
theorem cd_X6_fewestGivenUp : Cond.code yX6_fewestGivenUp cX6_fewestGivenUp 4 (some .int) ∈ gt := gt_of 817 (by decide +kernel) rfl
theorem cd_X6_fitsFrom : Cond.code yX6_fitsFrom cX6_fitsFrom 4 (some .boolean) ∈ gt := gt_of 805 (by decide +kernel) rfl
theorem cd_X6_fitsWithout : Cond.code yX6_fitsWithout cX6_fitsWithout 3 (some .boolean) ∈ gt := gt_of 788 (by decide +kernel) rfl
theorem cd_X6_fittedBySome : Cond.code yX6_fittedBySome cX6_fittedBySome 6 (some .int) ∈ gt := gt_of 801 (by decide +kernel) rfl
theorem cd_X6_isSo : Cond.code yX6_isSo cX6_isSo 7 (some .boolean) ∈ gt := gt_of 776 (by decide +kernel) rfl
theorem cd_X6_learn : Cond.code yX6_learn cX6_learn 5 none ∈ gt := gt_of 772 (by decide +kernel) rfl
theorem cd_X6_leavesSome : Cond.code yX6_leavesSome cX6_leavesSome 6 (some .boolean) ∈ gt := gt_of 809 (by decide +kernel) rfl
theorem cd_X6_narrowPairs : Cond.code yX6_narrowPairs cX6_narrowPairs 5 none ∈ gt := gt_of 793 (by decide +kernel) rfl
theorem cd_X6_strikesOut : Cond.code yX6_strikesOut cX6_strikesOut 5 (some .boolean) ∈ gt := gt_of 797 (by decide +kernel) rfl
theorem cd_X6_sumsFor : Cond.code yX6_sumsFor cX6_sumsFor 6 (some .int) ∈ gt := gt_of 784 (by decide +kernel) rfl
theorem cd_X7_init : Cond.code yX7_init cX7_init 1 none ∈ gt := gt_of 155 (by decide +kernel) rfl
theorem cd_X7_becomes : Cond.code yX7_becomes cX7_becomes 4 (some .boolean) ∈ gt := gt_of 610 (by decide +kernel) rfl
theorem cd_X8_init : Cond.code yX8_init cX8_init 2 none ∈ gt := gt_of 178 (by decide +kernel) rfl
theorem cd_X8_behind : Cond.code yX8_behind cX8_behind 2 (some .int) ∈ gt := gt_of 628 (by decide +kernel) rfl
theorem cd_X8_by : Cond.code yX8_by cX8_by 12 none ∈ gt := gt_of 575 (by decide +kernel) rfl
theorem cd_X8_moveOf : Cond.code yX8_moveOf cX8_moveOf 4 (some .int) ∈ gt := gt_of 595 (by decide +kernel) rfl
theorem cd_X8_rings : Cond.code yX8_rings cX8_rings 1 (some .int) ∈ gt := gt_of 632 (by decide +kernel) rfl
theorem cd_X8_travelBy : Cond.code yX8_travelBy cX8_travelBy 4 (some .int) ∈ gt := gt_of 578 (by decide +kernel) rfl
theorem cd_X9_init : Cond.code yX9_init cX9_init 1 none ∈ gt := gt_of 33 (by decide +kernel) rfl
theorem cd_X9_addErrand : Cond.code yX9_addErrand cX9_addErrand 3 none ∈ gt := gt_of 542 (by decide +kernel) rfl
theorem cd_X9_addRule : Cond.code yX9_addRule cX9_addRule 4 none ∈ gt := gt_of 551 (by decide +kernel) rfl
theorem cd_X9_addThing : Cond.code yX9_addThing cX9_addThing 5 none ∈ gt := gt_of 400 (by decide +kernel) rfl
theorem cd_X9_becomeEmpty : Cond.code yX9_becomeEmpty cX9_becomeEmpty 1 none ∈ gt := gt_of 443 (by decide +kernel) rfl
theorem cd_X9_becomeLike : Cond.code yX9_becomeLike cX9_becomeLike 2 none ∈ gt := gt_of 559 (by decide +kernel) rfl
theorem cd_X9_goBack : Cond.code yX9_goBack cX9_goBack 1 none ∈ gt := gt_of 657 (by decide +kernel) rfl
theorem cd_X9_harmOf : Cond.code yX9_harmOf cX9_harmOf 4 (some .int) ∈ gt := gt_of 695 (by decide +kernel) rfl
theorem cd_X9_hasSet : Cond.code yX9_hasSet cX9_hasSet 2 (some .boolean) ∈ gt := gt_of 704 (by decide +kernel) rfl
theorem cd_X9_hasThing : Cond.code yX9_hasThing cX9_hasThing 2 (some .boolean) ∈ gt := gt_of 408 (by decide +kernel) rfl
theorem cd_X9_mixInto : Cond.code yX9_mixInto cX9_mixInto 6 (some .long) ∈ gt := gt_of 875 (by decide +kernel) rfl
theorem cd_X9_remember : Cond.code yX9_remember cX9_remember 1 none ∈ gt := gt_of 624 (by decide +kernel) rfl
theorem cd_X9_slackInDamp : Cond.code yX9_slackInDamp cX9_slackInDamp 2 (some .int) ∈ gt := gt_of 583 (by decide +kernel) rfl
theorem cd_X10_init : Cond.code yX10_init cX10_init 1 none ∈ gt := gt_of 148 (by decide +kernel) rfl
theorem cd_X10_becomes : Cond.code yX10_becomes cX10_becomes 4 (some .boolean) ∈ gt := gt_of 614 (by decide +kernel) rfl
theorem cd_X12_init : Cond.code yX12_init cX12_init 1 none ∈ gt := gt_of 881 (by decide +kernel) rfl
theorem cd_X12_all : Cond.code yX12_all cX12_all 1 (some .int) ∈ gt := gt_of 1112 (by decide +kernel) rfl
theorem cd_X12_bad : Cond.code yX12_bad cX12_bad 2 (some .int) ∈ gt := gt_of 968 (by decide +kernel) rfl
theorem cd_X12_behind : Cond.code yX12_behind cX12_behind 8 (some .int) ∈ gt := gt_of 1032 (by decide +kernel) rfl
theorem cd_X12_bits : Cond.code yX12_bits cX12_bits 3 (some .int) ∈ gt := gt_of 1088 (by decide +kernel) rfl
theorem cd_X12_both : Cond.code yX12_both cX12_both 5 (some .int) ∈ gt := gt_of 1048 (by decide +kernel) rfl
theorem cd_X12_clear : Cond.code yX12_clear cX12_clear 2 (some .int) ∈ gt := gt_of 1180 (by decide +kernel) rfl
theorem cd_X12_code : Cond.code yX12_code cX12_code 7 (some .int) ∈ gt := gt_of 1104 (by decide +kernel) rfl
theorem cd_X12_count : Cond.code yX12_count cX12_count 2 (some .int) ∈ gt := gt_of 1255 (by decide +kernel) rfl
theorem cd_X12_counted : Cond.code yX12_counted cX12_counted 2 (some .int) ∈ gt := gt_of 1260 (by decide +kernel) rfl
theorem cd_X12_cuts : Cond.code yX12_cuts cX12_cuts 7 (some .int) ∈ gt := gt_of 1128 (by decide +kernel) rfl
theorem cd_X12_damp : Cond.code yX12_damp cX12_damp 3 (some .int) ∈ gt := gt_of 999 (by decide +kernel) rfl
theorem cd_X12_digest : Cond.code yX12_digest cX12_digest 4 (some .long) ∈ gt := gt_of 1264 (by decide +kernel) rfl
theorem cd_X12_doErrand : Cond.code yX12_doErrand cX12_doErrand 3 (some .int) ∈ gt := gt_of 1096 (by decide +kernel) rfl
theorem cd_X12_drop : Cond.code yX12_drop cX12_drop 1 (some .int) ∈ gt := gt_of 1076 (by decide +kernel) rfl
theorem cd_X12_errand : Cond.code yX12_errand cX12_errand 4 (some .int) ∈ gt := gt_of 1068 (by decide +kernel) rfl
theorem cd_X12_errands : Cond.code yX12_errands cX12_errands 1 (some .int) ∈ gt := gt_of 1072 (by decide +kernel) rfl
theorem cd_X12_factorial : Cond.code yX12_factorial cX12_factorial 3 (some .int) ∈ gt := gt_of 1166 (by decide +kernel) rfl
theorem cd_X12_findFar : Cond.code yX12_findFar cX12_findFar 6 none ∈ gt := gt_of 1116 (by decide +kernel) rfl
theorem cd_X12_findSlacks : Cond.code yX12_findSlacks cX12_findSlacks 6 (some .boolean) ∈ gt := gt_of 1151 (by decide +kernel) rfl
theorem cd_X12_free : Cond.code yX12_free cX12_free 2 (some .int) ∈ gt := gt_of 1143 (by decide +kernel) rfl
theorem cd_X12_from : Cond.code yX12_from cX12_from 3 (some .int) ∈ gt := gt_of 1246 (by decide +kernel) rfl
theorem cd_X12_full : Cond.code yX12_full cX12_full 1 (some .int) ∈ gt := gt_of 976 (by decide +kernel) rfl
theorem cd_X12_giveUp : Cond.code yX12_giveUp cX12_giveUp 4 (some .int) ∈ gt := gt_of 1159 (by decide +kernel) rfl
theorem cd_X12_goOn : Cond.code yX12_goOn cX12_goOn 1 none ∈ gt := gt_of 1214 (by decide +kernel) rfl
theorem cd_X12_goPull : Cond.code yX12_goPull cX12_goPull 2 (some .int) ∈ gt := gt_of 1028 (by decide +kernel) rfl
theorem cd_X12_harmBy : Cond.code yX12_harmBy cX12_harmBy 4 (some .int) ∈ gt := gt_of 1170 (by decide +kernel) rfl
theorem cd_X12_harmOf : Cond.code yX12_harmOf cX12_harmOf 4 (some .int) ∈ gt := gt_of 1100 (by decide +kernel) rfl
theorem cd_X12_harmOfRow : Cond.code yX12_harmOfRow cX12_harmOfRow 5 (some .int) ∈ gt := gt_of 1092 (by decide +kernel) rfl
theorem cd_X12_heard : Cond.code yX12_heard cX12_heard 4 (some .int) ∈ gt := gt_of 1124 (by decide +kernel) rfl
theorem cd_X12_image : Cond.code yX12_image cX12_image 3 (some .int) ∈ gt := gt_of 1242 (by decide +kernel) rfl
theorem cd_X12_in : Cond.code yX12_in cX12_in 6 (some .boolean) ∈ gt := gt_of 963 (by decide +kernel) rfl
theorem cd_X12_isFigure : Cond.code yX12_isFigure cX12_isFigure 1 (some .boolean) ∈ gt := gt_of 1196 (by decide +kernel) rfl
theorem cd_X12_isPull : Cond.code yX12_isPull cX12_isPull 3 (some .boolean) ∈ gt := gt_of 1007 (by decide +kernel) rfl
theorem cd_X12_isSet : Cond.code yX12_isSet cX12_isSet 2 (some .boolean) ∈ gt := gt_of 1108 (by decide +kernel) rfl
theorem cd_X12_isSmall : Cond.code yX12_isSmall cX12_isSmall 1 (some .boolean) ∈ gt := gt_of 1191 (by decide +kernel) rfl
theorem cd_X12_isSo : Cond.code yX12_isSo cX12_isSo 4 (some .boolean) ∈ gt := gt_of 1155 (by decide +kernel) rfl
theorem cd_X12_isThing : Cond.code yX12_isThing cX12_isThing 2 (some .boolean) ∈ gt := gt_of 987 (by decide +kernel) rfl
theorem cd_X12_isWord : Cond.code yX12_isWord cX12_isWord 10 (some .boolean) ∈ gt := gt_of 1206 (by decide +kernel) rfl
theorem cd_X12_layOrder : Cond.code yX12_layOrder cX12_layOrder 5 (some .boolean) ∈ gt := gt_of 1085 (by decide +kernel) rfl
theorem cd_X12_layRule : Cond.code yX12_layRule cX12_layRule 5 none ∈ gt := gt_of 1139 (by decide +kernel) rfl
theorem cd_X12_layThing : Cond.code yX12_layThing cX12_layThing 6 none ∈ gt := gt_of 979 (by decide +kernel) rfl
theorem cd_X12_look : Cond.code yX12_look cX12_look 5 none ∈ gt := gt_of 1188 (by decide +kernel) rfl
theorem cd_X12_moveOf : Cond.code yX12_moveOf cX12_moveOf 3 (some .int) ∈ gt := gt_of 1036 (by decide +kernel) rfl
theorem cd_X12_moves : Cond.code yX12_moves cX12_moves 4 (some .int) ∈ gt := gt_of 1060 (by decide +kernel) rfl
theorem cd_X12_no : Cond.code yX12_no cX12_no 2 (some .int) ∈ gt := gt_of 995 (by decide +kernel) rfl
theorem cd_X12_of : Cond.code yX12_of cX12_of 3 (some .int) ∈ gt := gt_of 991 (by decide +kernel) rfl
theorem cd_X12_onePull : Cond.code yX12_onePull cX12_onePull 3 none ∈ gt := gt_of 1024 (by decide +kernel) rfl
theorem cd_X12_open : Cond.code yX12_open cX12_open 1 (some .int) ∈ gt := gt_of 1056 (by decide +kernel) rfl
theorem cd_X12_order : Cond.code yX12_order cX12_order 6 (some .int) ∈ gt := gt_of 1080 (by decide +kernel) rfl
theorem cd_X12_part : Cond.code yX12_part cX12_part 2 (some .long) ∈ gt := gt_of 1238 (by decide +kernel) rfl
theorem cd_X12_pull : Cond.code yX12_pull cX12_pull 3 (some .int) ∈ gt := gt_of 1003 (by decide +kernel) rfl
theorem cd_X12_read : Cond.code yX12_read cX12_read 3 (some .int) ∈ gt := gt_of 1184 (by decide +kernel) rfl
theorem cd_X12_readsCut : Cond.code yX12_readsCut cX12_readsCut 1 (some .boolean) ∈ gt := gt_of 1222 (by decide +kernel) rfl
theorem cd_X12_readsErrand : Cond.code yX12_readsErrand cX12_readsErrand 2 (some .boolean) ∈ gt := gt_of 1226 (by decide +kernel) rfl
theorem cd_X12_readsItem : Cond.code yX12_readsItem cX12_readsItem 2 (some .boolean) ∈ gt := gt_of 1202 (by decide +kernel) rfl
theorem cd_X12_readsRule : Cond.code yX12_readsRule cX12_readsRule 1 (some .boolean) ∈ gt := gt_of 1234 (by decide +kernel) rfl
theorem cd_X12_readsThing : Cond.code yX12_readsThing cX12_readsThing 1 (some .boolean) ∈ gt := gt_of 1210 (by decide +kernel) rfl
theorem cd_X12_rope : Cond.code yX12_rope cX12_rope 4 (some .int) ∈ gt := gt_of 983 (by decide +kernel) rfl
theorem cd_X12_rule : Cond.code yX12_rule cX12_rule 5 (some .int) ∈ gt := gt_of 1132 (by decide +kernel) rfl
theorem cd_X12_rules : Cond.code yX12_rules cX12_rules 1 (some .int) ∈ gt := gt_of 1136 (by decide +kernel) rfl
theorem cd_X12_share : Cond.code yX12_share cX12_share 11 (some .int) ∈ gt := gt_of 1163 (by decide +kernel) rfl
theorem cd_X12_slack : Cond.code yX12_slack cX12_slack 2 (some .int) ∈ gt := gt_of 1147 (by decide +kernel) rfl
theorem cd_X12_status : Cond.code yX12_status cX12_status 2 (some .int) ∈ gt := gt_of 1250 (by decide +kernel) rfl
theorem cd_X12_sums : Cond.code yX12_sums cX12_sums 8 (some .long) ∈ gt := gt_of 1270 (by decide +kernel) rfl
theorem cd_X12_takeNow : Cond.code yX12_takeNow cX12_takeNow 1 none ∈ gt := gt_of 1012 (by decide +kernel) rfl
theorem cd_X12_takeSlacks : Cond.code yX12_takeSlacks cX12_takeSlacks 4 none ∈ gt := gt_of 1016 (by decide +kernel) rfl
theorem cd_X12_takes : Cond.code yX12_takes cX12_takes 4 (some .boolean) ∈ gt := gt_of 1218 (by decide +kernel) rfl
theorem cd_X12_takesPull : Cond.code yX12_takesPull cX12_takesPull 1 (some .boolean) ∈ gt := gt_of 1230 (by decide +kernel) rfl
theorem cd_X12_thing : Cond.code yX12_thing cX12_thing 5 (some .int) ∈ gt := gt_of 959 (by decide +kernel) rfl
theorem cd_X12_things : Cond.code yX12_things cX12_things 1 (some .int) ∈ gt := gt_of 972 (by decide +kernel) rfl
theorem cd_X12_travel : Cond.code yX12_travel cX12_travel 1 (some .int) ∈ gt := gt_of 1040 (by decide +kernel) rfl
theorem cd_X12_travelOf : Cond.code yX12_travelOf cX12_travelOf 3 (some .int) ∈ gt := gt_of 1044 (by decide +kernel) rfl
theorem cd_X12_type : Cond.code yX12_type cX12_type 5 (some .int) ∈ gt := gt_of 1174 (by decide +kernel) rfl
theorem cd_X12_undo : Cond.code yX12_undo cX12_undo 1 (some .int) ∈ gt := gt_of 1064 (by decide +kernel) rfl
theorem cd_X12_who : Cond.code yX12_who cX12_who 8 (some .int) ∈ gt := gt_of 1120 (by decide +kernel) rfl
theorem cd_X12_wholeNow : Cond.code yX12_wholeNow cX12_wholeNow 3 (some .int) ∈ gt := gt_of 1020 (by decide +kernel) rfl
theorem cd_X12_would : Cond.code yX12_would cX12_would 3 (some .int) ∈ gt := gt_of 1052 (by decide +kernel) rfl
theorem cd_J6_bitCount_0f7a4 : Cond.code yJ6_bitCount_0f7a4 cJ6_bitCount_0f7a4 1 (some .int) ∈ gt := gt_of 748 (by decide +kernel) rfl
theorem cd_J9_abs_0f7a4 : Cond.code yJ9_abs_0f7a4 cJ9_abs_0f7a4 1 (some .int) ∈ gt := gt_of 840 (by decide +kernel) rfl
theorem cd_J9_max_7cf53 : Cond.code yJ9_max_7cf53 cJ9_max_7cf53 2 (some .int) ∈ gt := gt_of 586 (by decide +kernel) rfl
theorem cd_J9_min_7cf53 : Cond.code yJ9_min_7cf53 cJ9_min_7cf53 2 (some .int) ∈ gt := gt_of 439 (by decide +kernel) rfl
theorem cd_J0_charAt_5068e : Cond.code yJ0_charAt_5068e cJ0_charAt_5068e 2 (some .char) ∈ gt := gt_of 478 (by decide +kernel) rfl
theorem cd_J0_checkIndex_df160 : Cond.code yJ0_checkIndex_df160 cJ0_checkIndex_df160 2 none ∈ gt := gt_of 488 (by decide +kernel) rfl
theorem cd_J0_coder_7d493 : Cond.code yJ0_coder_7d493 cJ0_coder_7d493 1 (some .byte) ∈ gt := gt_of 472 (by decide +kernel) rfl
theorem cd_J0_isLatin1_aae02 : Cond.code yJ0_isLatin1_aae02 cJ0_isLatin1_aae02 1 (some .boolean) ∈ gt := gt_of 482 (by decide +kernel) rfl
theorem cd_J0_length_8abf5 : Cond.code yJ0_length_8abf5 cJ0_length_8abf5 1 (some .int) ∈ gt := gt_of 468 (by decide +kernel) rfl
theorem cd_J1_charAt_3b067 : Cond.code yJ1_charAt_3b067 cJ1_charAt_3b067 2 (some .char) ∈ gt := gt_of 485 (by decide +kernel) rfl
theorem cd_J2_charAt_3b067 : Cond.code yJ2_charAt_3b067 cJ2_charAt_3b067 2 (some .char) ∈ gt := gt_of 496 (by decide +kernel) rfl
theorem cd_J2_checkIndex_2214a : Cond.code yJ2_checkIndex_2214a cJ2_checkIndex_2214a 2 none ∈ gt := gt_of 499 (by decide +kernel) rfl
theorem cd_J2_getChar_3b067 : Cond.code yJ2_getChar_3b067 cJ2_getChar_3b067 2 (some .char) ∈ gt := gt_of 506 (by decide +kernel) rfl
theorem cd_J2_length_9d52b : Cond.code yJ2_length_9d52b cJ2_length_9d52b 1 (some .int) ∈ gt := gt_of 502 (by decide +kernel) rfl
theorem cd_J3_checkIndex_8e157 : Cond.code yJ3_checkIndex_8e157 cJ3_checkIndex_8e157 3 (some .int) ∈ gt := gt_of 493 (by decide +kernel) rfl
theorem sf_X11_79 : SF RX11 79 yX11_within cX11_within 3 (some .boolean) 3 := SF.mk (by decide +kernel) (gt_of (w := .methodLink RX11 79 yX11_within) 386 (by decide +kernel) rfl) (gt_of (w := .static yX11_within) 387 (by decide +kernel) rfl) (gt_of (w := .initialized RX11) 1 (by decide +kernel) rfl) cd_X11_within
theorem vf_X11_83 : VF RX11 83 11 yX11_bad cX11_bad 2 (some .int) 1 := VF.mk rfl (by decide +kernel) (gt_of (w := .methodLink RX11 83 yX11_bad) 389 (by decide +kernel) rfl) (gt_of (w := .instanceMethod yX11_bad) 391 (by decide +kernel) rfl) (gt_sel (w := .selects RX11 yX11_bad yX11_bad) 0 (by decide +kernel) rfl) (gt_of (w := .initialized RX11) 1 (by decide +kernel) rfl) cd_X11_bad
theorem vf_X11_90 : VF RX11 90 11 yX11_tooMany cX11_tooMany 1 (some .int) 0 := VF.mk rfl (by decide +kernel) (gt_of (w := .methodLink RX11 90 yX11_tooMany) 393 (by decide +kernel) rfl) (gt_of (w := .instanceMethod yX11_tooMany) 395 (by decide +kernel) rfl) (gt_sel (w := .selects RX11 yX11_tooMany yX11_tooMany) 1 (by decide +kernel) rfl) (gt_of (w := .initialized RX11) 1 (by decide +kernel) rfl) cd_X11_tooMany
theorem vf_X11_94 : VF RX11 94 9 yX9_addThing cX9_addThing 5 none 4 := VF.mk rfl (by decide +kernel) (gt_of (w := .methodLink RX11 94 yX9_addThing) 397 (by decide +kernel) rfl) (gt_of (w := .instanceMethod yX9_addThing) 398 (by decide +kernel) rfl) (gt_of (w := .selects RX9 yX9_addThing yX9_addThing) 399 (by decide +kernel) rfl) (gt_of (w := .initialized RX9) 2 (by decide +kernel) rfl) cd_X9_addThing
theorem vf_X11_98 : VF RX11 98 9 yX9_hasThing cX9_hasThing 2 (some .boolean) 1 := VF.mk rfl (by decide +kernel) (gt_of (w := .methodLink RX11 98 yX9_hasThing) 405 (by decide +kernel) rfl) (gt_of (w := .instanceMethod yX9_hasThing) 406 (by decide +kernel) rfl) (gt_of (w := .selects RX9 yX9_hasThing yX9_hasThing) 407 (by decide +kernel) rfl) (gt_of (w := .initialized RX9) 2 (by decide +kernel) rfl) cd_X9_hasThing
theorem sf_X11_105 : SF RX11 105 yX11_has cX11_has 2 (some .boolean) 2 := SF.mk (by decide +kernel) (gt_of (w := .methodLink RX11 105 yX11_has) 410 (by decide +kernel) rfl) (gt_of (w := .static yX11_has) 411 (by decide +kernel) rfl) (gt_of (w := .initialized RX11) 1 (by decide +kernel) rfl) cd_X11_has
theorem vf_X11_109 : VF RX11 109 11 yX11_refusedNow cX11_refusedNow 1 (some .int) 0 := VF.mk rfl (by decide +kernel) (gt_of (w := .methodLink RX11 109 yX11_refusedNow) 413 (by decide +kernel) rfl) (gt_of (w := .instanceMethod yX11_refusedNow) 415 (by decide +kernel) rfl) (gt_sel (w := .selects RX11 yX11_refusedNow yX11_refusedNow) 2 (by decide +kernel) rfl) (gt_of (w := .initialized RX11) 1 (by decide +kernel) rfl) cd_X11_refusedNow
theorem vf_X11_115 : VF RX11 115 5 yX5_takes cX5_takes 4 (some .boolean) 2 := VF.mk rfl (by decide +kernel) (gt_of (w := .methodLink RX11 115 yX5_takes) 433 (by decide +kernel) rfl) (gt_of (w := .instanceMethod yX5_takes) 434 (by decide +kernel) rfl) (gt_of (w := .selects RX5 yX5_takes yX5_takes) 435 (by decide +kernel) rfl) (gt_of (w := .initialized RX5) 12 (by decide +kernel) rfl) cd_X5_takes
theorem vf_X11_125 : VF RX11 125 9 yX9_becomeLike cX9_becomeLike 2 none 1 := VF.mk rfl (by decide +kernel) (gt_of (w := .methodLink RX11 125 yX9_becomeLike) 556 (by decide +kernel) rfl) (gt_of (w := .instanceMethod yX9_becomeLike) 557 (by decide +kernel) rfl) (gt_of (w := .selects RX9 yX9_becomeLike yX9_becomeLike) 558 (by decide +kernel) rfl) (gt_of (w := .initialized RX9) 2 (by decide +kernel) rfl) cd_X9_becomeLike
theorem vf_X11_132 : VF RX11 132 11 yX11_isPull cX11_isPull 3 (some .boolean) 2 := VF.mk rfl (by decide +kernel) (gt_of (w := .methodLink RX11 132 yX11_isPull) 568 (by decide +kernel) rfl) (gt_of (w := .instanceMethod yX11_isPull) 570 (by decide +kernel) rfl) (gt_sel (w := .selects RX11 yX11_isPull yX11_isPull) 15 (by decide +kernel) rfl) (gt_of (w := .initialized RX11) 1 (by decide +kernel) rfl) cd_X11_isPull
theorem vf_X11_135 : VF RX11 135 8 yX8_by cX8_by 12 none 6 := VF.mk rfl (by decide +kernel) (gt_of (w := .methodLink RX11 135 yX8_by) 572 (by decide +kernel) rfl) (gt_of (w := .instanceMethod yX8_by) 573 (by decide +kernel) rfl) (gt_of (w := .selects RX8 yX8_by yX8_by) 574 (by decide +kernel) rfl) (gt_of (w := .initialized RX8) 9 (by decide +kernel) rfl) cd_X8_by
theorem vf_X11_139 : VF RX11 139 11 yX11_doSwing cX11_doSwing 1 (some .int) 0 := VF.mk rfl (by decide +kernel) (gt_of (w := .methodLink RX11 139 yX11_doSwing) 617 (by decide +kernel) rfl) (gt_of (w := .instanceMethod yX11_doSwing) 619 (by decide +kernel) rfl) (gt_sel (w := .selects RX11 yX11_doSwing yX11_doSwing) 16 (by decide +kernel) rfl) (gt_of (w := .initialized RX11) 1 (by decide +kernel) rfl) cd_X11_doSwing
theorem vf_X11_145 : VF RX11 145 8 yX8_behind cX8_behind 2 (some .int) 1 := VF.mk rfl (by decide +kernel) (gt_of (w := .methodLink RX11 145 yX8_behind) 625 (by decide +kernel) rfl) (gt_of (w := .instanceMethod yX8_behind) 626 (by decide +kernel) rfl) (gt_of (w := .selects RX8 yX8_behind yX8_behind) 627 (by decide +kernel) rfl) (gt_of (w := .initialized RX8) 9 (by decide +kernel) rfl) cd_X8_behind
theorem vf_X11_148 : VF RX11 148 8 yX8_moveOf cX8_moveOf 4 (some .int) 3 := VF.mk rfl (by decide +kernel) (gt_of (w := .methodLink RX11 148 yX8_moveOf) 649 (by decide +kernel) rfl) (gt_of (w := .instanceMethod yX8_moveOf) 593 (by decide +kernel) rfl) (gt_of (w := .selects RX8 yX8_moveOf yX8_moveOf) 594 (by decide +kernel) rfl) (gt_of (w := .initialized RX8) 9 (by decide +kernel) rfl) cd_X8_moveOf
theorem vf_X11_155 : VF RX11 155 9 yX9_goBack cX9_goBack 1 none 0 := VF.mk rfl (by decide +kernel) (gt_of (w := .methodLink RX11 155 yX9_goBack) 654 (by decide +kernel) rfl) (gt_of (w := .instanceMethod yX9_goBack) 655 (by decide +kernel) rfl) (gt_of (w := .selects RX9 yX9_goBack yX9_goBack) 656 (by decide +kernel) rfl) (gt_of (w := .initialized RX9) 2 (by decide +kernel) rfl) cd_X9_goBack
theorem vf_X11_161 : VF RX11 161 9 yX9_addErrand cX9_addErrand 3 none 2 := VF.mk rfl (by decide +kernel) (gt_of (w := .methodLink RX11 161 yX9_addErrand) 662 (by decide +kernel) rfl) (gt_of (w := .instanceMethod yX9_addErrand) 540 (by decide +kernel) rfl) (gt_of (w := .selects RX9 yX9_addErrand yX9_addErrand) 541 (by decide +kernel) rfl) (gt_of (w := .initialized RX9) 2 (by decide +kernel) rfl) cd_X9_addErrand
theorem vf_X11_165 : VF RX11 165 0 yX0_findOrder cX0_findOrder 2 none 1 := VF.mk rfl (by decide +kernel) (gt_of (w := .methodLink RX11 165 yX0_findOrder) 671 (by decide +kernel) rfl) (gt_of (w := .instanceMethod yX0_findOrder) 672 (by decide +kernel) rfl) (gt_of (w := .selects RX0 yX0_findOrder yX0_findOrder) 673 (by decide +kernel) rfl) (gt_of (w := .initialized RX0) 10 (by decide +kernel) rfl) cd_X0_findOrder
theorem vf_X11_174 : VF RX11 174 9 yX9_hasSet cX9_hasSet 2 (some .boolean) 1 := VF.mk rfl (by decide +kernel) (gt_of (w := .methodLink RX11 174 yX9_hasSet) 701 (by decide +kernel) rfl) (gt_of (w := .instanceMethod yX9_hasSet) 702 (by decide +kernel) rfl) (gt_of (w := .selects RX9 yX9_hasSet yX9_hasSet) 703 (by decide +kernel) rfl) (gt_of (w := .initialized RX9) 2 (by decide +kernel) rfl) cd_X9_hasSet
theorem vf_X11_177 : VF RX11 177 0 yX0_findCodes cX0_findCodes 7 none 1 := VF.mk rfl (by decide +kernel) (gt_of (w := .methodLink RX11 177 yX0_findCodes) 705 (by decide +kernel) rfl) (gt_of (w := .instanceMethod yX0_findCodes) 706 (by decide +kernel) rfl) (gt_of (w := .selects RX0 yX0_findCodes yX0_findCodes) 707 (by decide +kernel) rfl) (gt_of (w := .initialized RX0) 10 (by decide +kernel) rfl) cd_X0_findCodes
theorem vf_X11_183 : VF RX11 183 0 yX0_stepTo cX0_stepTo 5 (some .int) 2 := VF.mk rfl (by decide +kernel) (gt_of (w := .methodLink RX11 183 yX0_stepTo) 709 (by decide +kernel) rfl) (gt_of (w := .instanceMethod yX0_stepTo) 710 (by decide +kernel) rfl) (gt_of (w := .selects RX0 yX0_stepTo yX0_stepTo) 711 (by decide +kernel) rfl) (gt_of (w := .initialized RX0) 10 (by decide +kernel) rfl) cd_X0_stepTo
theorem vf_X11_187 : VF RX11 187 0 yX0_findEnds cX0_findEnds 4 none 1 := VF.mk rfl (by decide +kernel) (gt_of (w := .methodLink RX11 187 yX0_findEnds) 717 (by decide +kernel) rfl) (gt_of (w := .instanceMethod yX0_findEnds) 718 (by decide +kernel) rfl) (gt_of (w := .selects RX0 yX0_findEnds yX0_findEnds) 719 (by decide +kernel) rfl) (gt_of (w := .initialized RX0) 10 (by decide +kernel) rfl) cd_X0_findEnds
theorem vf_X11_190 : VF RX11 190 0 yX0_howManyEndAt cX0_howManyEndAt 4 (some .int) 1 := VF.mk rfl (by decide +kernel) (gt_of (w := .methodLink RX11 190 yX0_howManyEndAt) 721 (by decide +kernel) rfl) (gt_of (w := .instanceMethod yX0_howManyEndAt) 722 (by decide +kernel) rfl) (gt_of (w := .selects RX0 yX0_howManyEndAt yX0_howManyEndAt) 723 (by decide +kernel) rfl) (gt_of (w := .initialized RX0) 10 (by decide +kernel) rfl) cd_X0_howManyEndAt
theorem vf_X11_193 : VF RX11 193 0 yX0_leastThatEndsAt cX0_leastThatEndsAt 3 (some .int) 1 := VF.mk rfl (by decide +kernel) (gt_of (w := .methodLink RX11 193 yX0_leastThatEndsAt) 725 (by decide +kernel) rfl) (gt_of (w := .instanceMethod yX0_leastThatEndsAt) 726 (by decide +kernel) rfl) (gt_of (w := .selects RX0 yX0_leastThatEndsAt yX0_leastThatEndsAt) 727 (by decide +kernel) rfl) (gt_of (w := .initialized RX0) 10 (by decide +kernel) rfl) cd_X0_leastThatEndsAt
theorem vf_X11_196 : VF RX11 196 0 yX0_look cX0_look 4 none 2 := VF.mk rfl (by decide +kernel) (gt_of (w := .methodLink RX11 196 yX0_look) 733 (by decide +kernel) rfl) (gt_of (w := .instanceMethod yX0_look) 676 (by decide +kernel) rfl) (gt_of (w := .selects RX0 yX0_look yX0_look) 677 (by decide +kernel) rfl) (gt_of (w := .initialized RX0) 10 (by decide +kernel) rfl) cd_X0_look
theorem vf_X11_200 : VF RX11 200 0 yX0_thatRing cX0_thatRing 4 (some .int) 1 := VF.mk rfl (by decide +kernel) (gt_of (w := .methodLink RX11 200 yX0_thatRing) 734 (by decide +kernel) rfl) (gt_of (w := .instanceMethod yX0_thatRing) 735 (by decide +kernel) rfl) (gt_of (w := .selects RX0 yX0_thatRing yX0_thatRing) 736 (by decide +kernel) rfl) (gt_of (w := .initialized RX0) 10 (by decide +kernel) rfl) cd_X0_thatRing
theorem vf_X11_203 : VF RX11 203 0 yX0_fewestCuts cX0_fewestCuts 6 (some .int) 2 := VF.mk rfl (by decide +kernel) (gt_of (w := .methodLink RX11 203 yX0_fewestCuts) 742 (by decide +kernel) rfl) (gt_of (w := .instanceMethod yX0_fewestCuts) 743 (by decide +kernel) rfl) (gt_of (w := .selects RX0 yX0_fewestCuts yX0_fewestCuts) 744 (by decide +kernel) rfl) (gt_of (w := .initialized RX0) 10 (by decide +kernel) rfl) cd_X0_fewestCuts
theorem vf_X11_210 : VF RX11 210 9 yX9_addRule cX9_addRule 4 none 3 := VF.mk rfl (by decide +kernel) (gt_of (w := .methodLink RX11 210 yX9_addRule) 760 (by decide +kernel) rfl) (gt_of (w := .instanceMethod yX9_addRule) 549 (by decide +kernel) rfl) (gt_of (w := .selects RX9 yX9_addRule yX9_addRule) 550 (by decide +kernel) rfl) (gt_of (w := .initialized RX9) 2 (by decide +kernel) rfl) cd_X9_addRule
theorem vf_X11_214 : VF RX11 214 6 yX6_learn cX6_learn 5 none 1 := VF.mk rfl (by decide +kernel) (gt_of (w := .methodLink RX11 214 yX6_learn) 769 (by decide +kernel) rfl) (gt_of (w := .instanceMethod yX6_learn) 770 (by decide +kernel) rfl) (gt_of (w := .selects RX6 yX6_learn yX6_learn) 771 (by decide +kernel) rfl) (gt_of (w := .initialized RX6) 11 (by decide +kernel) rfl) cd_X6_learn
theorem vf_X11_217 : VF RX11 217 6 yX6_fitsWithout cX6_fitsWithout 3 (some .boolean) 1 := VF.mk rfl (by decide +kernel) (gt_of (w := .methodLink RX11 217 yX6_fitsWithout) 785 (by decide +kernel) rfl) (gt_of (w := .instanceMethod yX6_fitsWithout) 786 (by decide +kernel) rfl) (gt_of (w := .selects RX6 yX6_fitsWithout yX6_fitsWithout) 787 (by decide +kernel) rfl) (gt_of (w := .initialized RX6) 11 (by decide +kernel) rfl) cd_X6_fitsWithout
theorem vf_X11_223 : VF RX11 223 6 yX6_fewestGivenUp cX6_fewestGivenUp 4 (some .int) 0 := VF.mk rfl (by decide +kernel) (gt_of (w := .methodLink RX11 223 yX6_fewestGivenUp) 814 (by decide +kernel) rfl) (gt_of (w := .instanceMethod yX6_fewestGivenUp) 815 (by decide +kernel) rfl) (gt_of (w := .selects RX6 yX6_fewestGivenUp yX6_fewestGivenUp) 816 (by decide +kernel) rfl) (gt_of (w := .initialized RX6) 11 (by decide +kernel) rfl) cd_X6_fewestGivenUp
theorem vf_X11_226 : VF RX11 226 0 yX0_findHarmOfRopes cX0_findHarmOfRopes 5 none 1 := VF.mk rfl (by decide +kernel) (gt_of (w := .methodLink RX11 226 yX0_findHarmOfRopes) 824 (by decide +kernel) rfl) (gt_of (w := .instanceMethod yX0_findHarmOfRopes) 825 (by decide +kernel) rfl) (gt_of (w := .selects RX0 yX0_findHarmOfRopes yX0_findHarmOfRopes) 826 (by decide +kernel) rfl) (gt_of (w := .initialized RX0) 10 (by decide +kernel) rfl) cd_X0_findHarmOfRopes
theorem vf_X11_229 : VF RX11 229 0 yX0_weighShare cX0_weighShare 6 none 2 := VF.mk rfl (by decide +kernel) (gt_of (w := .methodLink RX11 229 yX0_weighShare) 828 (by decide +kernel) rfl) (gt_of (w := .instanceMethod yX0_weighShare) 829 (by decide +kernel) rfl) (gt_of (w := .selects RX0 yX0_weighShare yX0_weighShare) 830 (by decide +kernel) rfl) (gt_of (w := .initialized RX0) 10 (by decide +kernel) rfl) cd_X0_weighShare
theorem vf_X11_238 : VF RX11 238 11 yX11_keepFraction cX11_keepFraction 7 none 2 := VF.mk rfl (by decide +kernel) (gt_of (w := .methodLink RX11 238 yX11_keepFraction) 834 (by decide +kernel) rfl) (gt_of (w := .instanceMethod yX11_keepFraction) 836 (by decide +kernel) rfl) (gt_sel (w := .selects RX11 yX11_keepFraction yX11_keepFraction) 27 (by decide +kernel) rfl) (gt_of (w := .initialized RX11) 1 (by decide +kernel) rfl) cd_X11_keepFraction
theorem vf_X11_241 : VF RX11 241 11 yX11_howMany cX11_howMany 2 (some .int) 1 := VF.mk rfl (by decide +kernel) (gt_of (w := .methodLink RX11 241 yX11_howMany) 861 (by decide +kernel) rfl) (gt_of (w := .instanceMethod yX11_howMany) 863 (by decide +kernel) rfl) (gt_sel (w := .selects RX11 yX11_howMany yX11_howMany) 28 (by decide +kernel) rfl) (gt_of (w := .initialized RX11) 1 (by decide +kernel) rfl) cd_X11_howMany
theorem vf_X11_248 : VF RX11 248 9 yX9_mixInto cX9_mixInto 6 (some .long) 1 := VF.mk rfl (by decide +kernel) (gt_of (w := .methodLink RX11 248 yX9_mixInto) 872 (by decide +kernel) rfl) (gt_of (w := .instanceMethod yX9_mixInto) 873 (by decide +kernel) rfl) (gt_of (w := .selects RX9 yX9_mixInto yX9_mixInto) 874 (by decide +kernel) rfl) (gt_of (w := .initialized RX9) 2 (by decide +kernel) rfl) cd_X9_mixInto
theorem vf_X11_252 : VF RX11 252 9 yX9_remember cX9_remember 1 none 0 := VF.mk rfl (by decide +kernel) (gt_of (w := .methodLink RX11 252 yX9_remember) 621 (by decide +kernel) rfl) (gt_of (w := .instanceMethod yX9_remember) 622 (by decide +kernel) rfl) (gt_of (w := .selects RX9 yX9_remember yX9_remember) 623 (by decide +kernel) rfl) (gt_of (w := .initialized RX9) 2 (by decide +kernel) rfl) cd_X9_remember
theorem vf_X11_255 : VF RX11 255 8 yX8_rings cX8_rings 1 (some .int) 0 := VF.mk rfl (by decide +kernel) (gt_of (w := .methodLink RX11 255 yX8_rings) 629 (by decide +kernel) rfl) (gt_of (w := .instanceMethod yX8_rings) 630 (by decide +kernel) rfl) (gt_of (w := .selects RX8 yX8_rings yX8_rings) 631 (by decide +kernel) rfl) (gt_of (w := .initialized RX8) 9 (by decide +kernel) rfl) cd_X8_rings
theorem tf_X11_258 : TF RX11 258 yJ6_bitCount_0f7a4 cJ6_bitCount_0f7a4 1 (some .int) 1 := TF.mk (by decide +kernel) (gt_of (w := .methodLink RX11 258 yJ6_bitCount_0f7a4) 865 (by decide +kernel) rfl) (gt_of (w := .static yJ6_bitCount_0f7a4) 747 (by decide +kernel) rfl) (gt_of (w := .initialized RJ6) 20 (by decide +kernel) rfl) cd_J6_bitCount_0f7a4
theorem tf_X11_263 : TF RX11 263 yJ9_abs_0f7a4 cJ9_abs_0f7a4 1 (some .int) 1 := TF.mk (by decide +kernel) (gt_of (w := .methodLink RX11 263 yJ9_abs_0f7a4) 838 (by decide +kernel) rfl) (gt_of (w := .static yJ9_abs_0f7a4) 839 (by decide +kernel) rfl) (gt_of (w := .initialized RJ9) 14 (by decide +kernel) rfl) cd_J9_abs_0f7a4
theorem vf_X0_71 : VF RX0 71 8 yX8_by cX8_by 12 none 6 := VF.mk rfl (by decide +kernel) (gt_of (w := .methodLink RX0 71 yX8_by) 679 (by decide +kernel) rfl) (gt_of (w := .instanceMethod yX8_by) 573 (by decide +kernel) rfl) (gt_of (w := .selects RX8 yX8_by yX8_by) 574 (by decide +kernel) rfl) (gt_of (w := .initialized RX8) 9 (by decide +kernel) rfl) cd_X8_by
theorem vf_X0_81 : VF RX0 81 8 yX8_rings cX8_rings 1 (some .int) 0 := VF.mk rfl (by decide +kernel) (gt_of (w := .methodLink RX0 81 yX8_rings) 680 (by decide +kernel) rfl) (gt_of (w := .instanceMethod yX8_rings) 630 (by decide +kernel) rfl) (gt_of (w := .selects RX8 yX8_rings yX8_rings) 631 (by decide +kernel) rfl) (gt_of (w := .initialized RX8) 9 (by decide +kernel) rfl) cd_X8_rings
theorem vf_X0_87 : VF RX0 87 0 yX0_look cX0_look 4 none 2 := VF.mk rfl (by decide +kernel) (gt_of (w := .methodLink RX0 87 yX0_look) 675 (by decide +kernel) rfl) (gt_of (w := .instanceMethod yX0_look) 676 (by decide +kernel) rfl) (gt_of (w := .selects RX0 yX0_look yX0_look) 677 (by decide +kernel) rfl) (gt_of (w := .initialized RX0) 10 (by decide +kernel) rfl) cd_X0_look
theorem vf_X0_95 : VF RX0 95 0 yX0_findRest cX0_findRest 9 none 5 := VF.mk rfl (by decide +kernel) (gt_of (w := .methodLink RX0 95 yX0_findRest) 682 (by decide +kernel) rfl) (gt_of (w := .instanceMethod yX0_findRest) 684 (by decide +kernel) rfl) (gt_sel (w := .selects RX0 yX0_findRest yX0_findRest) 17 (by decide +kernel) rfl) (gt_of (w := .initialized RX0) 10 (by decide +kernel) rfl) cd_X0_findRest
theorem vf_X0_109 : VF RX0 109 0 yX0_behind cX0_behind 3 (some .int) 2 := VF.mk rfl (by decide +kernel) (gt_of (w := .methodLink RX0 109 yX0_behind) 688 (by decide +kernel) rfl) (gt_of (w := .instanceMethod yX0_behind) 690 (by decide +kernel) rfl) (gt_sel (w := .selects RX0 yX0_behind yX0_behind) 18 (by decide +kernel) rfl) (gt_of (w := .initialized RX0) 10 (by decide +kernel) rfl) cd_X0_behind
theorem vf_X0_113 : VF RX0 113 9 yX9_harmOf cX9_harmOf 4 (some .int) 1 := VF.mk rfl (by decide +kernel) (gt_of (w := .methodLink RX0 113 yX9_harmOf) 692 (by decide +kernel) rfl) (gt_of (w := .instanceMethod yX9_harmOf) 693 (by decide +kernel) rfl) (gt_of (w := .selects RX9 yX9_harmOf yX9_harmOf) 694 (by decide +kernel) rfl) (gt_of (w := .initialized RX9) 2 (by decide +kernel) rfl) cd_X9_harmOf
theorem tf_X0_120 : TF RX0 120 yJ6_bitCount_0f7a4 cJ6_bitCount_0f7a4 1 (some .int) 1 := TF.mk (by decide +kernel) (gt_of (w := .methodLink RX0 120 yJ6_bitCount_0f7a4) 746 (by decide +kernel) rfl) (gt_of (w := .static yJ6_bitCount_0f7a4) 747 (by decide +kernel) rfl) (gt_of (w := .initialized RJ6) 20 (by decide +kernel) rfl) cd_J6_bitCount_0f7a4
theorem vf_X0_125 : VF RX0 125 0 yX0_anyOpens cX0_anyOpens 4 (some .boolean) 2 := VF.mk rfl (by decide +kernel) (gt_of (w := .methodLink RX0 125 yX0_anyOpens) 752 (by decide +kernel) rfl) (gt_of (w := .instanceMethod yX0_anyOpens) 754 (by decide +kernel) rfl) (gt_sel (w := .selects RX0 yX0_anyOpens yX0_anyOpens) 19 (by decide +kernel) rfl) (gt_of (w := .initialized RX0) 10 (by decide +kernel) rfl) cd_X0_anyOpens
theorem tf_X5_44 : TF RX5 44 yJ9_min_7cf53 cJ9_min_7cf53 2 (some .int) 2 := TF.mk (by decide +kernel) (gt_of (w := .methodLink RX5 44 yJ9_min_7cf53) 437 (by decide +kernel) rfl) (gt_of (w := .static yJ9_min_7cf53) 438 (by decide +kernel) rfl) (gt_of (w := .initialized RJ9) 14 (by decide +kernel) rfl) cd_J9_min_7cf53
theorem vf_X5_50 : VF RX5 50 9 yX9_becomeEmpty cX9_becomeEmpty 1 none 0 := VF.mk rfl (by decide +kernel) (gt_of (w := .methodLink RX5 50 yX9_becomeEmpty) 440 (by decide +kernel) rfl) (gt_of (w := .instanceMethod yX9_becomeEmpty) 441 (by decide +kernel) rfl) (gt_of (w := .selects RX9 yX9_becomeEmpty yX9_becomeEmpty) 442 (by decide +kernel) rfl) (gt_of (w := .initialized RX9) 2 (by decide +kernel) rfl) cd_X9_becomeEmpty
theorem vf_X5_53 : VF RX5 53 5 yX5_nextToken cX5_nextToken 1 none 0 := VF.mk rfl (by decide +kernel) (gt_of (w := .methodLink RX5 53 yX5_nextToken) 444 (by decide +kernel) rfl) (gt_of (w := .instanceMethod yX5_nextToken) 446 (by decide +kernel) rfl) (gt_sel (w := .selects RX5 yX5_nextToken yX5_nextToken) 3 (by decide +kernel) rfl) (gt_of (w := .initialized RX5) 12 (by decide +kernel) rfl) cd_X5_nextToken
theorem vf_X5_56 : VF RX5 56 5 yX5_takesItem cX5_takesItem 1 (some .boolean) 0 := VF.mk rfl (by decide +kernel) (gt_of (w := .methodLink RX5 56 yX5_takesItem) 456 (by decide +kernel) rfl) (gt_of (w := .instanceMethod yX5_takesItem) 458 (by decide +kernel) rfl) (gt_sel (w := .selects RX5 yX5_takesItem yX5_takesItem) 6 (by decide +kernel) rfl) (gt_of (w := .initialized RX5) 12 (by decide +kernel) rfl) cd_X5_takesItem
theorem vf_X5_60 : VF RX5 60 5 yX5_takesEndOfItem cX5_takesEndOfItem 1 (some .boolean) 0 := VF.mk rfl (by decide +kernel) (gt_of (w := .methodLink RX5 60 yX5_takesEndOfItem) 552 (by decide +kernel) rfl) (gt_of (w := .instanceMethod yX5_takesEndOfItem) 554 (by decide +kernel) rfl) (gt_sel (w := .selects RX5 yX5_takesEndOfItem yX5_takesEndOfItem) 14 (by decide +kernel) rfl) (gt_of (w := .initialized RX5) 12 (by decide +kernel) rfl) cd_X5_takesEndOfItem
theorem vf_X5_65 : VF RX5 65 5 yX5_isWord cX5_isWord 3 (some .boolean) 1 := VF.mk rfl (by decide +kernel) (gt_of (w := .methodLink RX5 65 yX5_isWord) 461 (by decide +kernel) rfl) (gt_of (w := .instanceMethod yX5_isWord) 463 (by decide +kernel) rfl) (gt_sel (w := .selects RX5 yX5_isWord yX5_isWord) 7 (by decide +kernel) rfl) (gt_of (w := .initialized RX5) 12 (by decide +kernel) rfl) cd_X5_isWord
theorem vf_X5_69 : VF RX5 69 5 yX5_takesThing cX5_takesThing 2 (some .boolean) 0 := VF.mk rfl (by decide +kernel) (gt_of (w := .methodLink RX5 69 yX5_takesThing) 513 (by decide +kernel) rfl) (gt_of (w := .instanceMethod yX5_takesThing) 515 (by decide +kernel) rfl) (gt_sel (w := .selects RX5 yX5_takesThing yX5_takesThing) 8 (by decide +kernel) rfl) (gt_of (w := .initialized RX5) 12 (by decide +kernel) rfl) cd_X5_takesThing
theorem vf_X5_74 : VF RX5 74 5 yX5_takesCut cX5_takesCut 1 (some .boolean) 0 := VF.mk rfl (by decide +kernel) (gt_of (w := .methodLink RX5 74 yX5_takesCut) 524 (by decide +kernel) rfl) (gt_of (w := .instanceMethod yX5_takesCut) 526 (by decide +kernel) rfl) (gt_sel (w := .selects RX5 yX5_takesCut yX5_takesCut) 10 (by decide +kernel) rfl) (gt_of (w := .initialized RX5) 12 (by decide +kernel) rfl) cd_X5_takesCut
theorem vf_X5_79 : VF RX5 79 5 yX5_takesDamp cX5_takesDamp 1 (some .boolean) 0 := VF.mk rfl (by decide +kernel) (gt_of (w := .methodLink RX5 79 yX5_takesDamp) 530 (by decide +kernel) rfl) (gt_of (w := .instanceMethod yX5_takesDamp) 532 (by decide +kernel) rfl) (gt_sel (w := .selects RX5 yX5_takesDamp yX5_takesDamp) 11 (by decide +kernel) rfl) (gt_of (w := .initialized RX5) 12 (by decide +kernel) rfl) cd_X5_takesDamp
theorem vf_X5_84 : VF RX5 84 5 yX5_takesErrand cX5_takesErrand 2 (some .boolean) 0 := VF.mk rfl (by decide +kernel) (gt_of (w := .methodLink RX5 84 yX5_takesErrand) 535 (by decide +kernel) rfl) (gt_of (w := .instanceMethod yX5_takesErrand) 537 (by decide +kernel) rfl) (gt_sel (w := .selects RX5 yX5_takesErrand yX5_takesErrand) 12 (by decide +kernel) rfl) (gt_of (w := .initialized RX5) 12 (by decide +kernel) rfl) cd_X5_takesErrand
theorem vf_X5_89 : VF RX5 89 5 yX5_takesRule cX5_takesRule 2 (some .boolean) 0 := VF.mk rfl (by decide +kernel) (gt_of (w := .methodLink RX5 89 yX5_takesRule) 544 (by decide +kernel) rfl) (gt_of (w := .instanceMethod yX5_takesRule) 546 (by decide +kernel) rfl) (gt_sel (w := .selects RX5 yX5_takesRule yX5_takesRule) 13 (by decide +kernel) rfl) (gt_of (w := .initialized RX5) 12 (by decide +kernel) rfl) cd_X5_takesRule
theorem vf_X5_95 : VF RX5 95 5 yX5_takesNumber cX5_takesNumber 4 (some .boolean) 3 := VF.mk rfl (by decide +kernel) (gt_of (w := .methodLink RX5 95 yX5_takesNumber) 517 (by decide +kernel) rfl) (gt_of (w := .instanceMethod yX5_takesNumber) 519 (by decide +kernel) rfl) (gt_sel (w := .selects RX5 yX5_takesNumber yX5_takesNumber) 9 (by decide +kernel) rfl) (gt_of (w := .initialized RX5) 12 (by decide +kernel) rfl) cd_X5_takesNumber
theorem vf_X5_99 : VF RX5 99 9 yX9_addThing cX9_addThing 5 none 4 := VF.mk rfl (by decide +kernel) (gt_of (w := .methodLink RX5 99 yX9_addThing) 522 (by decide +kernel) rfl) (gt_of (w := .instanceMethod yX9_addThing) 398 (by decide +kernel) rfl) (gt_of (w := .selects RX9 yX9_addThing yX9_addThing) 399 (by decide +kernel) rfl) (gt_of (w := .initialized RX9) 2 (by decide +kernel) rfl) cd_X9_addThing
theorem vf_X5_115 : VF RX5 115 9 yX9_addErrand cX9_addErrand 3 none 2 := VF.mk rfl (by decide +kernel) (gt_of (w := .methodLink RX5 115 yX9_addErrand) 539 (by decide +kernel) rfl) (gt_of (w := .instanceMethod yX9_addErrand) 540 (by decide +kernel) rfl) (gt_of (w := .selects RX9 yX9_addErrand yX9_addErrand) 541 (by decide +kernel) rfl) (gt_of (w := .initialized RX9) 2 (by decide +kernel) rfl) cd_X9_addErrand
theorem vf_X5_122 : VF RX5 122 9 yX9_addRule cX9_addRule 4 none 3 := VF.mk rfl (by decide +kernel) (gt_of (w := .methodLink RX5 122 yX9_addRule) 548 (by decide +kernel) rfl) (gt_of (w := .instanceMethod yX9_addRule) 549 (by decide +kernel) rfl) (gt_of (w := .selects RX9 yX9_addRule yX9_addRule) 550 (by decide +kernel) rfl) (gt_of (w := .initialized RX9) 2 (by decide +kernel) rfl) cd_X9_addRule
theorem vf_X5_129 : VF RX5 129 5 yX5_endOfRun cX5_endOfRun 5 (some .int) 3 := VF.mk rfl (by decide +kernel) (gt_of (w := .methodLink RX5 129 yX5_endOfRun) 448 (by decide +kernel) rfl) (gt_of (w := .instanceMethod yX5_endOfRun) 450 (by decide +kernel) rfl) (gt_sel (w := .selects RX5 yX5_endOfRun yX5_endOfRun) 4 (by decide +kernel) rfl) (gt_of (w := .initialized RX5) 12 (by decide +kernel) rfl) cd_X5_endOfRun
theorem vf_X5_133 : VF RX5 133 5 yX5_takeFigures cX5_takeFigures 2 none 0 := VF.mk rfl (by decide +kernel) (gt_of (w := .methodLink RX5 133 yX5_takeFigures) 452 (by decide +kernel) rfl) (gt_of (w := .instanceMethod yX5_takeFigures) 454 (by decide +kernel) rfl) (gt_sel (w := .selects RX5 yX5_takeFigures yX5_takeFigures) 5 (by decide +kernel) rfl) (gt_of (w := .initialized RX5) 12 (by decide +kernel) rfl) cd_X5_takeFigures
theorem vf_X6_49 : VF RX6 49 6 yX6_isSo cX6_isSo 7 (some .boolean) 4 := VF.mk rfl (by decide +kernel) (gt_of (w := .methodLink RX6 49 yX6_isSo) 773 (by decide +kernel) rfl) (gt_of (w := .instanceMethod yX6_isSo) 775 (by decide +kernel) rfl) (gt_sel (w := .selects RX6 yX6_isSo yX6_isSo) 20 (by decide +kernel) rfl) (gt_of (w := .initialized RX6) 11 (by decide +kernel) rfl) cd_X6_isSo
theorem vf_X6_53 : VF RX6 53 6 yX6_sumsFor cX6_sumsFor 6 (some .int) 3 := VF.mk rfl (by decide +kernel) (gt_of (w := .methodLink RX6 53 yX6_sumsFor) 781 (by decide +kernel) rfl) (gt_of (w := .instanceMethod yX6_sumsFor) 783 (by decide +kernel) rfl) (gt_sel (w := .selects RX6 yX6_sumsFor yX6_sumsFor) 21 (by decide +kernel) rfl) (gt_of (w := .initialized RX6) 11 (by decide +kernel) rfl) cd_X6_sumsFor
theorem tf_X6_60 : TF RX6 60 yJ9_max_7cf53 cJ9_max_7cf53 2 (some .int) 2 := TF.mk (by decide +kernel) (gt_of (w := .methodLink RX6 60 yJ9_max_7cf53) 777 (by decide +kernel) rfl) (gt_of (w := .static yJ9_max_7cf53) 585 (by decide +kernel) rfl) (gt_of (w := .initialized RJ9) 14 (by decide +kernel) rfl) cd_J9_max_7cf53
theorem vf_X6_69 : VF RX6 69 2 yX2_ofNumber cX2_ofNumber 2 (some (.object "OneBell$Door")) 1 := VF.mk rfl (by decide +kernel) (gt_of (w := .methodLink RX6 69 yX2_ofNumber) 778 (by decide +kernel) rfl) (gt_of (w := .instanceMethod yX2_ofNumber) 589 (by decide +kernel) rfl) (gt_of (w := .selects RX2 yX2_ofNumber yX2_ofNumber) 590 (by decide +kernel) rfl) (gt_of (w := .initialized RX2) 3 (by decide +kernel) rfl) cd_X2_ofNumber
theorem tf_X6_91 : TF RX6 91 yJ6_bitCount_0f7a4 cJ6_bitCount_0f7a4 1 (some .int) 1 := TF.mk (by decide +kernel) (gt_of (w := .methodLink RX6 91 yJ6_bitCount_0f7a4) 818 (by decide +kernel) rfl) (gt_of (w := .static yJ6_bitCount_0f7a4) 747 (by decide +kernel) rfl) (gt_of (w := .initialized RJ6) 20 (by decide +kernel) rfl) cd_J6_bitCount_0f7a4
theorem vf_X6_97 : VF RX6 97 6 yX6_fitsWithout cX6_fitsWithout 3 (some .boolean) 1 := VF.mk rfl (by decide +kernel) (gt_of (w := .methodLink RX6 97 yX6_fitsWithout) 819 (by decide +kernel) rfl) (gt_of (w := .instanceMethod yX6_fitsWithout) 786 (by decide +kernel) rfl) (gt_of (w := .selects RX6 yX6_fitsWithout yX6_fitsWithout) 787 (by decide +kernel) rfl) (gt_of (w := .initialized RX6) 11 (by decide +kernel) rfl) cd_X6_fitsWithout
theorem vf_X6_102 : VF RX6 102 6 yX6_narrowPairs cX6_narrowPairs 5 none 1 := VF.mk rfl (by decide +kernel) (gt_of (w := .methodLink RX6 102 yX6_narrowPairs) 790 (by decide +kernel) rfl) (gt_of (w := .instanceMethod yX6_narrowPairs) 792 (by decide +kernel) rfl) (gt_sel (w := .selects RX6 yX6_narrowPairs yX6_narrowPairs) 22 (by decide +kernel) rfl) (gt_of (w := .initialized RX6) 11 (by decide +kernel) rfl) cd_X6_narrowPairs
theorem vf_X6_106 : VF RX6 106 6 yX6_strikesOut cX6_strikesOut 5 (some .boolean) 0 := VF.mk rfl (by decide +kernel) (gt_of (w := .methodLink RX6 106 yX6_strikesOut) 794 (by decide +kernel) rfl) (gt_of (w := .instanceMethod yX6_strikesOut) 796 (by decide +kernel) rfl) (gt_sel (w := .selects RX6 yX6_strikesOut yX6_strikesOut) 23 (by decide +kernel) rfl) (gt_of (w := .initialized RX6) 11 (by decide +kernel) rfl) cd_X6_strikesOut
theorem vf_X6_110 : VF RX6 110 6 yX6_fitsFrom cX6_fitsFrom 4 (some .boolean) 1 := VF.mk rfl (by decide +kernel) (gt_of (w := .methodLink RX6 110 yX6_fitsFrom) 802 (by decide +kernel) rfl) (gt_of (w := .instanceMethod yX6_fitsFrom) 804 (by decide +kernel) rfl) (gt_sel (w := .selects RX6 yX6_fitsFrom yX6_fitsFrom) 25 (by decide +kernel) rfl) (gt_of (w := .initialized RX6) 11 (by decide +kernel) rfl) cd_X6_fitsFrom
theorem vf_X6_113 : VF RX6 113 6 yX6_fittedBySome cX6_fittedBySome 6 (some .int) 1 := VF.mk rfl (by decide +kernel) (gt_of (w := .methodLink RX6 113 yX6_fittedBySome) 798 (by decide +kernel) rfl) (gt_of (w := .instanceMethod yX6_fittedBySome) 800 (by decide +kernel) rfl) (gt_sel (w := .selects RX6 yX6_fittedBySome yX6_fittedBySome) 24 (by decide +kernel) rfl) (gt_of (w := .initialized RX6) 11 (by decide +kernel) rfl) cd_X6_fittedBySome
theorem vf_X6_116 : VF RX6 116 6 yX6_leavesSome cX6_leavesSome 6 (some .boolean) 2 := VF.mk rfl (by decide +kernel) (gt_of (w := .methodLink RX6 116 yX6_leavesSome) 806 (by decide +kernel) rfl) (gt_of (w := .instanceMethod yX6_leavesSome) 808 (by decide +kernel) rfl) (gt_sel (w := .selects RX6 yX6_leavesSome yX6_leavesSome) 26 (by decide +kernel) rfl) (gt_of (w := .initialized RX6) 11 (by decide +kernel) rfl) cd_X6_leavesSome
theorem sf_X8_37 : SF RX8 37 yX8_travelBy cX8_travelBy 4 (some .int) 4 := SF.mk (by decide +kernel) (gt_of (w := .methodLink RX8 37 yX8_travelBy) 576 (by decide +kernel) rfl) (gt_of (w := .static yX8_travelBy) 577 (by decide +kernel) rfl) (gt_of (w := .initialized RX8) 9 (by decide +kernel) rfl) cd_X8_travelBy
theorem vf_X8_50 : VF RX8 50 2 yX2_ofNumber cX2_ofNumber 2 (some (.object "OneBell$Door")) 1 := VF.mk rfl (by decide +kernel) (gt_of (w := .methodLink RX8 50 yX2_ofNumber) 588 (by decide +kernel) rfl) (gt_of (w := .instanceMethod yX2_ofNumber) 589 (by decide +kernel) rfl) (gt_of (w := .selects RX2 yX2_ofNumber yX2_ofNumber) 590 (by decide +kernel) rfl) (gt_of (w := .initialized RX2) 3 (by decide +kernel) rfl) cd_X2_ofNumber
theorem vf_X8_56 : VF RX8 56 8 yX8_moveOf cX8_moveOf 4 (some .int) 3 := VF.mk rfl (by decide +kernel) (gt_of (w := .methodLink RX8 56 yX8_moveOf) 592 (by decide +kernel) rfl) (gt_of (w := .instanceMethod yX8_moveOf) 593 (by decide +kernel) rfl) (gt_of (w := .selects RX8 yX8_moveOf yX8_moveOf) 594 (by decide +kernel) rfl) (gt_of (w := .initialized RX8) 9 (by decide +kernel) rfl) cd_X8_moveOf
theorem vf_X8_73 : VF RX8 73 9 yX9_slackInDamp cX9_slackInDamp 2 (some .int) 1 := VF.mk rfl (by decide +kernel) (gt_of (w := .methodLink RX8 73 yX9_slackInDamp) 580 (by decide +kernel) rfl) (gt_of (w := .instanceMethod yX9_slackInDamp) 581 (by decide +kernel) rfl) (gt_of (w := .selects RX9 yX9_slackInDamp yX9_slackInDamp) 582 (by decide +kernel) rfl) (gt_of (w := .initialized RX9) 2 (by decide +kernel) rfl) cd_X9_slackInDamp
theorem tf_X8_77 : TF RX8 77 yJ9_max_7cf53 cJ9_max_7cf53 2 (some .int) 2 := TF.mk (by decide +kernel) (gt_of (w := .methodLink RX8 77 yJ9_max_7cf53) 587 (by decide +kernel) rfl) (gt_of (w := .static yJ9_max_7cf53) 585 (by decide +kernel) rfl) (gt_of (w := .initialized RJ9) 14 (by decide +kernel) rfl) cd_J9_max_7cf53
theorem tf_X9_74 : TF RX9 74 yJ9_max_7cf53 cJ9_max_7cf53 2 (some .int) 2 := TF.mk (by decide +kernel) (gt_of (w := .methodLink RX9 74 yJ9_max_7cf53) 584 (by decide +kernel) rfl) (gt_of (w := .static yJ9_max_7cf53) 585 (by decide +kernel) rfl) (gt_of (w := .initialized RJ9) 14 (by decide +kernel) rfl) cd_J9_max_7cf53
theorem vf_X12_48 : VF RX12 48 12 yX12_things cX12_things 1 (some .int) 0 := VF.mk rfl (by decide +kernel) (gt_of (w := .methodLink RX12 48 yX12_things) 969 (by decide +kernel) rfl) (gt_of (w := .instanceMethod yX12_things) 971 (by decide +kernel) rfl) (gt_sel (w := .selects RX12 yX12_things yX12_things) 30 (by decide +kernel) rfl) (gt_of (w := .initialized RX12) 13 (by decide +kernel) rfl) cd_X12_things
theorem sf_X12_52 : SF RX12 52 yX12_in cX12_in 6 (some .boolean) 3 := SF.mk (by decide +kernel) (gt_of (w := .methodLink RX12 52 yX12_in) 961 (by decide +kernel) rfl) (gt_of (w := .static yX12_in) 962 (by decide +kernel) rfl) (gt_of (w := .initialized RX12) 13 (by decide +kernel) rfl) cd_X12_in
theorem vf_X12_60 : VF RX12 60 12 yX12_bad cX12_bad 2 (some .int) 1 := VF.mk rfl (by decide +kernel) (gt_of (w := .methodLink RX12 60 yX12_bad) 965 (by decide +kernel) rfl) (gt_of (w := .instanceMethod yX12_bad) 967 (by decide +kernel) rfl) (gt_sel (w := .selects RX12 yX12_bad yX12_bad) 29 (by decide +kernel) rfl) (gt_of (w := .initialized RX12) 13 (by decide +kernel) rfl) cd_X12_bad
theorem vf_X12_64 : VF RX12 64 12 yX12_full cX12_full 1 (some .int) 0 := VF.mk rfl (by decide +kernel) (gt_of (w := .methodLink RX12 64 yX12_full) 973 (by decide +kernel) rfl) (gt_of (w := .instanceMethod yX12_full) 975 (by decide +kernel) rfl) (gt_sel (w := .selects RX12 yX12_full yX12_full) 31 (by decide +kernel) rfl) (gt_of (w := .initialized RX12) 13 (by decide +kernel) rfl) cd_X12_full
theorem sf_X12_67 : SF RX12 67 yX12_layThing cX12_layThing 6 none 5 := SF.mk (by decide +kernel) (gt_of (w := .methodLink RX12 67 yX12_layThing) 977 (by decide +kernel) rfl) (gt_of (w := .static yX12_layThing) 978 (by decide +kernel) rfl) (gt_of (w := .initialized RX12) 13 (by decide +kernel) rfl) cd_X12_layThing
theorem vf_X12_71 : VF RX12 71 12 yX12_isThing cX12_isThing 2 (some .boolean) 1 := VF.mk rfl (by decide +kernel) (gt_of (w := .methodLink RX12 71 yX12_isThing) 984 (by decide +kernel) rfl) (gt_of (w := .instanceMethod yX12_isThing) 986 (by decide +kernel) rfl) (gt_sel (w := .selects RX12 yX12_isThing yX12_isThing) 32 (by decide +kernel) rfl) (gt_of (w := .initialized RX12) 13 (by decide +kernel) rfl) cd_X12_isThing
theorem vf_X12_75 : VF RX12 75 12 yX12_of cX12_of 3 (some .int) 2 := VF.mk rfl (by decide +kernel) (gt_of (w := .methodLink RX12 75 yX12_of) 988 (by decide +kernel) rfl) (gt_of (w := .instanceMethod yX12_of) 990 (by decide +kernel) rfl) (gt_sel (w := .selects RX12 yX12_of yX12_of) 33 (by decide +kernel) rfl) (gt_of (w := .initialized RX12) 13 (by decide +kernel) rfl) cd_X12_of
theorem vf_X12_79 : VF RX12 79 12 yX12_no cX12_no 2 (some .int) 1 := VF.mk rfl (by decide +kernel) (gt_of (w := .methodLink RX12 79 yX12_no) 992 (by decide +kernel) rfl) (gt_of (w := .instanceMethod yX12_no) 994 (by decide +kernel) rfl) (gt_sel (w := .selects RX12 yX12_no yX12_no) 34 (by decide +kernel) rfl) (gt_of (w := .initialized RX12) 13 (by decide +kernel) rfl) cd_X12_no
theorem vf_X12_82 : VF RX12 82 12 yX12_takeSlacks cX12_takeSlacks 4 none 1 := VF.mk rfl (by decide +kernel) (gt_of (w := .methodLink RX12 82 yX12_takeSlacks) 1013 (by decide +kernel) rfl) (gt_of (w := .instanceMethod yX12_takeSlacks) 1015 (by decide +kernel) rfl) (gt_sel (w := .selects RX12 yX12_takeSlacks yX12_takeSlacks) 37 (by decide +kernel) rfl) (gt_of (w := .initialized RX12) 13 (by decide +kernel) rfl) cd_X12_takeSlacks
theorem vf_X12_86 : VF RX12 86 12 yX12_wholeNow cX12_wholeNow 3 (some .int) 0 := VF.mk rfl (by decide +kernel) (gt_of (w := .methodLink RX12 86 yX12_wholeNow) 1017 (by decide +kernel) rfl) (gt_of (w := .instanceMethod yX12_wholeNow) 1019 (by decide +kernel) rfl) (gt_sel (w := .selects RX12 yX12_wholeNow yX12_wholeNow) 38 (by decide +kernel) rfl) (gt_of (w := .initialized RX12) 13 (by decide +kernel) rfl) cd_X12_wholeNow
theorem vf_X12_105 : VF RX12 105 12 yX12_travelOf cX12_travelOf 3 (some .int) 2 := VF.mk rfl (by decide +kernel) (gt_of (w := .methodLink RX12 105 yX12_travelOf) 1041 (by decide +kernel) rfl) (gt_of (w := .instanceMethod yX12_travelOf) 1043 (by decide +kernel) rfl) (gt_sel (w := .selects RX12 yX12_travelOf yX12_travelOf) 44 (by decide +kernel) rfl) (gt_of (w := .initialized RX12) 13 (by decide +kernel) rfl) cd_X12_travelOf
theorem vf_X12_108 : VF RX12 108 12 yX12_travel cX12_travel 1 (some .int) 0 := VF.mk rfl (by decide +kernel) (gt_of (w := .methodLink RX12 108 yX12_travel) 1037 (by decide +kernel) rfl) (gt_of (w := .instanceMethod yX12_travel) 1039 (by decide +kernel) rfl) (gt_sel (w := .selects RX12 yX12_travel yX12_travel) 43 (by decide +kernel) rfl) (gt_of (w := .initialized RX12) 13 (by decide +kernel) rfl) cd_X12_travel
theorem vf_X12_111 : VF RX12 111 12 yX12_moveOf cX12_moveOf 3 (some .int) 1 := VF.mk rfl (by decide +kernel) (gt_of (w := .methodLink RX12 111 yX12_moveOf) 1033 (by decide +kernel) rfl) (gt_of (w := .instanceMethod yX12_moveOf) 1035 (by decide +kernel) rfl) (gt_sel (w := .selects RX12 yX12_moveOf yX12_moveOf) 42 (by decide +kernel) rfl) (gt_of (w := .initialized RX12) 13 (by decide +kernel) rfl) cd_X12_moveOf
theorem vf_X12_114 : VF RX12 114 12 yX12_behind cX12_behind 8 (some .int) 1 := VF.mk rfl (by decide +kernel) (gt_of (w := .methodLink RX12 114 yX12_behind) 1029 (by decide +kernel) rfl) (gt_of (w := .instanceMethod yX12_behind) 1031 (by decide +kernel) rfl) (gt_sel (w := .selects RX12 yX12_behind yX12_behind) 41 (by decide +kernel) rfl) (gt_of (w := .initialized RX12) 13 (by decide +kernel) rfl) cd_X12_behind
theorem vf_X12_119 : VF RX12 119 12 yX12_isPull cX12_isPull 3 (some .boolean) 2 := VF.mk rfl (by decide +kernel) (gt_of (w := .methodLink RX12 119 yX12_isPull) 1004 (by decide +kernel) rfl) (gt_of (w := .instanceMethod yX12_isPull) 1006 (by decide +kernel) rfl) (gt_sel (w := .selects RX12 yX12_isPull yX12_isPull) 35 (by decide +kernel) rfl) (gt_of (w := .initialized RX12) 13 (by decide +kernel) rfl) cd_X12_isPull
theorem vf_X12_123 : VF RX12 123 12 yX12_takeNow cX12_takeNow 1 none 0 := VF.mk rfl (by decide +kernel) (gt_of (w := .methodLink RX12 123 yX12_takeNow) 1009 (by decide +kernel) rfl) (gt_of (w := .instanceMethod yX12_takeNow) 1011 (by decide +kernel) rfl) (gt_sel (w := .selects RX12 yX12_takeNow yX12_takeNow) 36 (by decide +kernel) rfl) (gt_of (w := .initialized RX12) 13 (by decide +kernel) rfl) cd_X12_takeNow
theorem vf_X12_126 : VF RX12 126 12 yX12_onePull cX12_onePull 3 none 2 := VF.mk rfl (by decide +kernel) (gt_of (w := .methodLink RX12 126 yX12_onePull) 1021 (by decide +kernel) rfl) (gt_of (w := .instanceMethod yX12_onePull) 1023 (by decide +kernel) rfl) (gt_sel (w := .selects RX12 yX12_onePull yX12_onePull) 39 (by decide +kernel) rfl) (gt_of (w := .initialized RX12) 13 (by decide +kernel) rfl) cd_X12_onePull
theorem vf_X12_130 : VF RX12 130 12 yX12_goPull cX12_goPull 2 (some .int) 0 := VF.mk rfl (by decide +kernel) (gt_of (w := .methodLink RX12 130 yX12_goPull) 1025 (by decide +kernel) rfl) (gt_of (w := .instanceMethod yX12_goPull) 1027 (by decide +kernel) rfl) (gt_sel (w := .selects RX12 yX12_goPull yX12_goPull) 40 (by decide +kernel) rfl) (gt_of (w := .initialized RX12) 13 (by decide +kernel) rfl) cd_X12_goPull
theorem vf_X12_133 : VF RX12 133 12 yX12_errands cX12_errands 1 (some .int) 0 := VF.mk rfl (by decide +kernel) (gt_of (w := .methodLink RX12 133 yX12_errands) 1069 (by decide +kernel) rfl) (gt_of (w := .instanceMethod yX12_errands) 1071 (by decide +kernel) rfl) (gt_sel (w := .selects RX12 yX12_errands yX12_errands) 45 (by decide +kernel) rfl) (gt_of (w := .initialized RX12) 13 (by decide +kernel) rfl) cd_X12_errands
theorem sf_X12_136 : SF RX12 136 yX12_bits cX12_bits 3 (some .int) 1 := SF.mk (by decide +kernel) (gt_of (w := .methodLink RX12 136 yX12_bits) 1086 (by decide +kernel) rfl) (gt_of (w := .static yX12_bits) 1087 (by decide +kernel) rfl) (gt_of (w := .initialized RX12) 13 (by decide +kernel) rfl) cd_X12_bits
theorem vf_X12_139 : VF RX12 139 12 yX12_doErrand cX12_doErrand 3 (some .int) 2 := VF.mk rfl (by decide +kernel) (gt_of (w := .methodLink RX12 139 yX12_doErrand) 1093 (by decide +kernel) rfl) (gt_of (w := .instanceMethod yX12_doErrand) 1095 (by decide +kernel) rfl) (gt_sel (w := .selects RX12 yX12_doErrand yX12_doErrand) 48 (by decide +kernel) rfl) (gt_of (w := .initialized RX12) 13 (by decide +kernel) rfl) cd_X12_doErrand
theorem vf_X12_142 : VF RX12 142 12 yX12_harmOf cX12_harmOf 4 (some .int) 1 := VF.mk rfl (by decide +kernel) (gt_of (w := .methodLink RX12 142 yX12_harmOf) 1097 (by decide +kernel) rfl) (gt_of (w := .instanceMethod yX12_harmOf) 1099 (by decide +kernel) rfl) (gt_sel (w := .selects RX12 yX12_harmOf yX12_harmOf) 49 (by decide +kernel) rfl) (gt_of (w := .initialized RX12) 13 (by decide +kernel) rfl) cd_X12_harmOf
theorem vf_X12_149 : VF RX12 149 12 yX12_layOrder cX12_layOrder 5 (some .boolean) 1 := VF.mk rfl (by decide +kernel) (gt_of (w := .methodLink RX12 149 yX12_layOrder) 1082 (by decide +kernel) rfl) (gt_of (w := .instanceMethod yX12_layOrder) 1084 (by decide +kernel) rfl) (gt_sel (w := .selects RX12 yX12_layOrder yX12_layOrder) 46 (by decide +kernel) rfl) (gt_of (w := .initialized RX12) 13 (by decide +kernel) rfl) cd_X12_layOrder
theorem vf_X12_152 : VF RX12 152 12 yX12_harmOfRow cX12_harmOfRow 5 (some .int) 0 := VF.mk rfl (by decide +kernel) (gt_of (w := .methodLink RX12 152 yX12_harmOfRow) 1089 (by decide +kernel) rfl) (gt_of (w := .instanceMethod yX12_harmOfRow) 1091 (by decide +kernel) rfl) (gt_sel (w := .selects RX12 yX12_harmOfRow yX12_harmOfRow) 47 (by decide +kernel) rfl) (gt_of (w := .initialized RX12) 13 (by decide +kernel) rfl) cd_X12_harmOfRow
theorem vf_X12_155 : VF RX12 155 12 yX12_all cX12_all 1 (some .int) 0 := VF.mk rfl (by decide +kernel) (gt_of (w := .methodLink RX12 155 yX12_all) 1109 (by decide +kernel) rfl) (gt_of (w := .instanceMethod yX12_all) 1111 (by decide +kernel) rfl) (gt_sel (w := .selects RX12 yX12_all yX12_all) 51 (by decide +kernel) rfl) (gt_of (w := .initialized RX12) 13 (by decide +kernel) rfl) cd_X12_all
theorem vf_X12_158 : VF RX12 158 12 yX12_isSet cX12_isSet 2 (some .boolean) 1 := VF.mk rfl (by decide +kernel) (gt_of (w := .methodLink RX12 158 yX12_isSet) 1105 (by decide +kernel) rfl) (gt_of (w := .instanceMethod yX12_isSet) 1107 (by decide +kernel) rfl) (gt_sel (w := .selects RX12 yX12_isSet yX12_isSet) 50 (by decide +kernel) rfl) (gt_of (w := .initialized RX12) 13 (by decide +kernel) rfl) cd_X12_isSet
theorem vf_X12_161 : VF RX12 161 12 yX12_findFar cX12_findFar 6 none 1 := VF.mk rfl (by decide +kernel) (gt_of (w := .methodLink RX12 161 yX12_findFar) 1113 (by decide +kernel) rfl) (gt_of (w := .instanceMethod yX12_findFar) 1115 (by decide +kernel) rfl) (gt_sel (w := .selects RX12 yX12_findFar yX12_findFar) 52 (by decide +kernel) rfl) (gt_of (w := .initialized RX12) 13 (by decide +kernel) rfl) cd_X12_findFar
theorem vf_X12_164 : VF RX12 164 12 yX12_rules cX12_rules 1 (some .int) 0 := VF.mk rfl (by decide +kernel) (gt_of (w := .methodLink RX12 164 yX12_rules) 1133 (by decide +kernel) rfl) (gt_of (w := .instanceMethod yX12_rules) 1135 (by decide +kernel) rfl) (gt_sel (w := .selects RX12 yX12_rules yX12_rules) 53 (by decide +kernel) rfl) (gt_of (w := .initialized RX12) 13 (by decide +kernel) rfl) cd_X12_rules
theorem sf_X12_167 : SF RX12 167 yX12_layRule cX12_layRule 5 none 4 := SF.mk (by decide +kernel) (gt_of (w := .methodLink RX12 167 yX12_layRule) 1137 (by decide +kernel) rfl) (gt_of (w := .static yX12_layRule) 1138 (by decide +kernel) rfl) (gt_of (w := .initialized RX12) 13 (by decide +kernel) rfl) cd_X12_layRule
theorem vf_X12_171 : VF RX12 171 12 yX12_isSo cX12_isSo 4 (some .boolean) 1 := VF.mk rfl (by decide +kernel) (gt_of (w := .methodLink RX12 171 yX12_isSo) 1152 (by decide +kernel) rfl) (gt_of (w := .instanceMethod yX12_isSo) 1154 (by decide +kernel) rfl) (gt_sel (w := .selects RX12 yX12_isSo yX12_isSo) 55 (by decide +kernel) rfl) (gt_of (w := .initialized RX12) 13 (by decide +kernel) rfl) cd_X12_isSo
theorem vf_X12_174 : VF RX12 174 12 yX12_findSlacks cX12_findSlacks 6 (some .boolean) 1 := VF.mk rfl (by decide +kernel) (gt_of (w := .methodLink RX12 174 yX12_findSlacks) 1148 (by decide +kernel) rfl) (gt_of (w := .instanceMethod yX12_findSlacks) 1150 (by decide +kernel) rfl) (gt_sel (w := .selects RX12 yX12_findSlacks yX12_findSlacks) 54 (by decide +kernel) rfl) (gt_of (w := .initialized RX12) 13 (by decide +kernel) rfl) cd_X12_findSlacks
theorem sf_X12_177 : SF RX12 177 yX12_factorial cX12_factorial 3 (some .int) 1 := SF.mk (by decide +kernel) (gt_of (w := .methodLink RX12 177 yX12_factorial) 1164 (by decide +kernel) rfl) (gt_of (w := .static yX12_factorial) 1165 (by decide +kernel) rfl) (gt_of (w := .initialized RX12) 13 (by decide +kernel) rfl) cd_X12_factorial
theorem vf_X12_180 : VF RX12 180 12 yX12_harmBy cX12_harmBy 4 (some .int) 1 := VF.mk rfl (by decide +kernel) (gt_of (w := .methodLink RX12 180 yX12_harmBy) 1167 (by decide +kernel) rfl) (gt_of (w := .instanceMethod yX12_harmBy) 1169 (by decide +kernel) rfl) (gt_sel (w := .selects RX12 yX12_harmBy yX12_harmBy) 56 (by decide +kernel) rfl) (gt_of (w := .initialized RX12) 13 (by decide +kernel) rfl) cd_X12_harmBy
theorem sf_X12_213 : SF RX12 213 yX12_isSmall cX12_isSmall 1 (some .boolean) 1 := SF.mk (by decide +kernel) (gt_of (w := .methodLink RX12 213 yX12_isSmall) 1189 (by decide +kernel) rfl) (gt_of (w := .static yX12_isSmall) 1190 (by decide +kernel) rfl) (gt_of (w := .initialized RX12) 13 (by decide +kernel) rfl) cd_X12_isSmall
theorem sf_X12_216 : SF RX12 216 yX12_isFigure cX12_isFigure 1 (some .boolean) 1 := SF.mk (by decide +kernel) (gt_of (w := .methodLink RX12 216 yX12_isFigure) 1194 (by decide +kernel) rfl) (gt_of (w := .static yX12_isFigure) 1195 (by decide +kernel) rfl) (gt_of (w := .initialized RX12) 13 (by decide +kernel) rfl) cd_X12_isFigure
theorem vf_X12_219 : VF RX12 219 12 yX12_look cX12_look 5 none 1 := VF.mk rfl (by decide +kernel) (gt_of (w := .methodLink RX12 219 yX12_look) 1185 (by decide +kernel) rfl) (gt_of (w := .instanceMethod yX12_look) 1187 (by decide +kernel) rfl) (gt_sel (w := .selects RX12 yX12_look yX12_look) 57 (by decide +kernel) rfl) (gt_of (w := .initialized RX12) 13 (by decide +kernel) rfl) cd_X12_look
theorem vf_X12_222 : VF RX12 222 12 yX12_goOn cX12_goOn 1 none 0 := VF.mk rfl (by decide +kernel) (gt_of (w := .methodLink RX12 222 yX12_goOn) 1211 (by decide +kernel) rfl) (gt_of (w := .instanceMethod yX12_goOn) 1213 (by decide +kernel) rfl) (gt_sel (w := .selects RX12 yX12_goOn yX12_goOn) 61 (by decide +kernel) rfl) (gt_of (w := .initialized RX12) 13 (by decide +kernel) rfl) cd_X12_goOn
theorem vf_X12_225 : VF RX12 225 12 yX12_takes cX12_takes 4 (some .boolean) 3 := VF.mk rfl (by decide +kernel) (gt_of (w := .methodLink RX12 225 yX12_takes) 1215 (by decide +kernel) rfl) (gt_of (w := .instanceMethod yX12_takes) 1217 (by decide +kernel) rfl) (gt_sel (w := .selects RX12 yX12_takes yX12_takes) 62 (by decide +kernel) rfl) (gt_of (w := .initialized RX12) 13 (by decide +kernel) rfl) cd_X12_takes
theorem vf_X12_229 : VF RX12 229 12 yX12_takesPull cX12_takesPull 1 (some .boolean) 0 := VF.mk rfl (by decide +kernel) (gt_of (w := .methodLink RX12 229 yX12_takesPull) 1227 (by decide +kernel) rfl) (gt_of (w := .instanceMethod yX12_takesPull) 1229 (by decide +kernel) rfl) (gt_sel (w := .selects RX12 yX12_takesPull yX12_takesPull) 65 (by decide +kernel) rfl) (gt_of (w := .initialized RX12) 13 (by decide +kernel) rfl) cd_X12_takesPull
theorem vf_X12_233 : VF RX12 233 12 yX12_isWord cX12_isWord 10 (some .boolean) 6 := VF.mk rfl (by decide +kernel) (gt_of (w := .methodLink RX12 233 yX12_isWord) 1203 (by decide +kernel) rfl) (gt_of (w := .instanceMethod yX12_isWord) 1205 (by decide +kernel) rfl) (gt_sel (w := .selects RX12 yX12_isWord yX12_isWord) 59 (by decide +kernel) rfl) (gt_of (w := .initialized RX12) 13 (by decide +kernel) rfl) cd_X12_isWord
theorem vf_X12_237 : VF RX12 237 12 yX12_readsThing cX12_readsThing 1 (some .boolean) 0 := VF.mk rfl (by decide +kernel) (gt_of (w := .methodLink RX12 237 yX12_readsThing) 1207 (by decide +kernel) rfl) (gt_of (w := .instanceMethod yX12_readsThing) 1209 (by decide +kernel) rfl) (gt_sel (w := .selects RX12 yX12_readsThing yX12_readsThing) 60 (by decide +kernel) rfl) (gt_of (w := .initialized RX12) 13 (by decide +kernel) rfl) cd_X12_readsThing
theorem vf_X12_240 : VF RX12 240 12 yX12_readsCut cX12_readsCut 1 (some .boolean) 0 := VF.mk rfl (by decide +kernel) (gt_of (w := .methodLink RX12 240 yX12_readsCut) 1219 (by decide +kernel) rfl) (gt_of (w := .instanceMethod yX12_readsCut) 1221 (by decide +kernel) rfl) (gt_sel (w := .selects RX12 yX12_readsCut yX12_readsCut) 63 (by decide +kernel) rfl) (gt_of (w := .initialized RX12) 13 (by decide +kernel) rfl) cd_X12_readsCut
theorem vf_X12_243 : VF RX12 243 12 yX12_readsErrand cX12_readsErrand 2 (some .boolean) 0 := VF.mk rfl (by decide +kernel) (gt_of (w := .methodLink RX12 243 yX12_readsErrand) 1223 (by decide +kernel) rfl) (gt_of (w := .instanceMethod yX12_readsErrand) 1225 (by decide +kernel) rfl) (gt_sel (w := .selects RX12 yX12_readsErrand yX12_readsErrand) 64 (by decide +kernel) rfl) (gt_of (w := .initialized RX12) 13 (by decide +kernel) rfl) cd_X12_readsErrand
theorem vf_X12_246 : VF RX12 246 12 yX12_readsRule cX12_readsRule 1 (some .boolean) 0 := VF.mk rfl (by decide +kernel) (gt_of (w := .methodLink RX12 246 yX12_readsRule) 1231 (by decide +kernel) rfl) (gt_of (w := .instanceMethod yX12_readsRule) 1233 (by decide +kernel) rfl) (gt_sel (w := .selects RX12 yX12_readsRule yX12_readsRule) 66 (by decide +kernel) rfl) (gt_of (w := .initialized RX12) 13 (by decide +kernel) rfl) cd_X12_readsRule
theorem vf_X12_249 : VF RX12 249 12 yX12_readsItem cX12_readsItem 2 (some .boolean) 0 := VF.mk rfl (by decide +kernel) (gt_of (w := .methodLink RX12 249 yX12_readsItem) 1199 (by decide +kernel) rfl) (gt_of (w := .instanceMethod yX12_readsItem) 1201 (by decide +kernel) rfl) (gt_sel (w := .selects RX12 yX12_readsItem yX12_readsItem) 58 (by decide +kernel) rfl) (gt_of (w := .initialized RX12) 13 (by decide +kernel) rfl) cd_X12_readsItem
theorem vf_X12_256 : VF RX12 256 12 yX12_counted cX12_counted 2 (some .int) 1 := VF.mk rfl (by decide +kernel) (gt_of (w := .methodLink RX12 256 yX12_counted) 1257 (by decide +kernel) rfl) (gt_of (w := .instanceMethod yX12_counted) 1259 (by decide +kernel) rfl) (gt_sel (w := .selects RX12 yX12_counted yX12_counted) 67 (by decide +kernel) rfl) (gt_of (w := .initialized RX12) 13 (by decide +kernel) rfl) cd_X12_counted
theorem vf_X12_263 : VF RX12 263 12 yX12_sums cX12_sums 8 (some .long) 3 := VF.mk rfl (by decide +kernel) (gt_of (w := .methodLink RX12 263 yX12_sums) 1267 (by decide +kernel) rfl) (gt_of (w := .instanceMethod yX12_sums) 1269 (by decide +kernel) rfl) (gt_sel (w := .selects RX12 yX12_sums yX12_sums) 68 (by decide +kernel) rfl) (gt_of (w := .initialized RX12) 13 (by decide +kernel) rfl) cd_X12_sums
theorem tf_J0_495 : TF RJ0 495 yJ1_charAt_3b067 cJ1_charAt_3b067 2 (some .char) 2 := TF.mk (by decide +kernel) (gt_of (w := .methodLink RJ0 495 yJ1_charAt_3b067) 483 (by decide +kernel) rfl) (gt_of (w := .static yJ1_charAt_3b067) 484 (by decide +kernel) rfl) (gt_of (w := .initialized RJ1) 16 (by decide +kernel) rfl) cd_J1_charAt_3b067
theorem tf_J0_498 : TF RJ0 498 yJ2_charAt_3b067 cJ2_charAt_3b067 2 (some .char) 2 := TF.mk (by decide +kernel) (gt_of (w := .methodLink RJ0 498 yJ2_charAt_3b067) 494 (by decide +kernel) rfl) (gt_of (w := .static yJ2_charAt_3b067) 495 (by decide +kernel) rfl) (gt_of (w := .initialized RJ2) 18 (by decide +kernel) rfl) cd_J2_charAt_3b067
theorem tf_J0_1059 : TF RJ0 1059 yJ3_checkIndex_8e157 cJ3_checkIndex_8e157 3 (some .int) 3 := TF.mk (by decide +kernel) (gt_of (w := .methodLink RJ0 1059 yJ3_checkIndex_8e157) 491 (by decide +kernel) rfl) (gt_of (w := .static yJ3_checkIndex_8e157) 492 (by decide +kernel) rfl) (gt_of (w := .initialized RJ3) 17 (by decide +kernel) rfl) cd_J3_checkIndex_8e157
theorem tf_J1_9 : TF RJ1 9 yJ0_checkIndex_df160 cJ0_checkIndex_df160 2 none 2 := TF.mk (by decide +kernel) (gt_of (w := .methodLink RJ1 9 yJ0_checkIndex_df160) 486 (by decide +kernel) rfl) (gt_of (w := .static yJ0_checkIndex_df160) 487 (by decide +kernel) rfl) (gt_of (w := .initialized RJ0) 15 (by decide +kernel) rfl) cd_J0_checkIndex_df160
theorem sf_J2_48 : SF RJ2 48 yJ2_length_9d52b cJ2_length_9d52b 1 (some .int) 1 := SF.mk (by decide +kernel) (gt_of (w := .methodLink RJ2 48 yJ2_length_9d52b) 500 (by decide +kernel) rfl) (gt_of (w := .static yJ2_length_9d52b) 501 (by decide +kernel) rfl) (gt_of (w := .initialized RJ2) 18 (by decide +kernel) rfl) cd_J2_length_9d52b
theorem sf_J2_67 : SF RJ2 67 yJ2_checkIndex_2214a cJ2_checkIndex_2214a 2 none 2 := SF.mk (by decide +kernel) (gt_of (w := .methodLink RJ2 67 yJ2_checkIndex_2214a) 497 (by decide +kernel) rfl) (gt_of (w := .static yJ2_checkIndex_2214a) 498 (by decide +kernel) rfl) (gt_of (w := .initialized RJ2) 18 (by decide +kernel) rfl) cd_J2_checkIndex_2214a
theorem sf_J2_71 : SF RJ2 71 yJ2_getChar_3b067 cJ2_getChar_3b067 2 (some .char) 2 := SF.mk (by decide +kernel) (gt_of (w := .methodLink RJ2 71 yJ2_getChar_3b067) 504 (by decide +kernel) rfl) (gt_of (w := .static yJ2_getChar_3b067) 505 (by decide +kernel) rfl) (gt_of (w := .initialized RJ2) 18 (by decide +kernel) rfl) cd_J2_getChar_3b067
theorem tf_J2_414 : TF RJ2 414 yJ0_checkIndex_df160 cJ0_checkIndex_df160 2 none 2 := TF.mk (by decide +kernel) (gt_of (w := .methodLink RJ2 414 yJ0_checkIndex_df160) 503 (by decide +kernel) rfl) (gt_of (w := .static yJ0_checkIndex_df160) 487 (by decide +kernel) rfl) (gt_of (w := .initialized RJ0) 15 (by decide +kernel) rfl) cd_J0_checkIndex_df160
theorem nf_X0_105 : NF RX0 105 yX11_has cX11_has 2 (some .boolean) 2 := ⟨by decide +kernel, (gt_of (w := .static yX11_has) 411 (by decide +kernel) rfl), (gt_of (w := .initialized RX11) 1 (by decide +kernel) rfl), by decide +kernel, goodIn_gt cd_X11_has⟩
theorem nf_X5_106 : NF RX5 106 yX11_has cX11_has 2 (some .boolean) 2 := ⟨by decide +kernel, (gt_of (w := .static yX11_has) 411 (by decide +kernel) rfl), (gt_of (w := .initialized RX11) 1 (by decide +kernel) rfl), by decide +kernel, goodIn_gt cd_X11_has⟩
theorem nf_X5_126 : NF RX5 126 yX11_within cX11_within 3 (some .boolean) 3 := ⟨by decide +kernel, (gt_of (w := .static yX11_within) 387 (by decide +kernel) rfl), (gt_of (w := .initialized RX11) 1 (by decide +kernel) rfl), by decide +kernel, goodIn_gt cd_X11_within⟩
theorem nf_X6_87 : NF RX6 87 yX11_has cX11_has 2 (some .boolean) 2 := ⟨by decide +kernel, (gt_of (w := .static yX11_has) 411 (by decide +kernel) rfl), (gt_of (w := .initialized RX11) 1 (by decide +kernel) rfl), by decide +kernel, goodIn_gt cd_X11_has⟩
theorem nf_X8_69 : NF RX8 69 yX11_has cX11_has 2 (some .boolean) 2 := ⟨by decide +kernel, (gt_of (w := .static yX11_has) 411 (by decide +kernel) rfl), (gt_of (w := .initialized RX11) 1 (by decide +kernel) rfl), by decide +kernel, goodIn_gt cd_X11_has⟩
theorem nf_X9_70 : NF RX9 70 yX11_within cX11_within 3 (some .boolean) 3 := ⟨by decide +kernel, (gt_of (w := .static yX11_within) 387 (by decide +kernel) rfl), (gt_of (w := .initialized RX11) 1 (by decide +kernel) rfl), by decide +kernel, goodIn_gt cd_X11_within⟩
theorem nf_X9_80 : NF RX9 80 yX11_has cX11_has 2 (some .boolean) 2 := ⟨by decide +kernel, (gt_of (w := .static yX11_has) 411 (by decide +kernel) rfl), (gt_of (w := .initialized RX11) 1 (by decide +kernel) rfl), by decide +kernel, goodIn_gt cd_X11_has⟩
theorem cw_X11_244 : Cond.constantLong RX11 244 (773) ∈ gt := gt_of 870 (by decide +kernel) rfl
theorem cw_X11_246 : Cond.constantLong RX11 246 (31) ∈ gt := gt_of 871 (by decide +kernel) rfl
theorem cw_X0_91 : Cond.constant RX0 91 (1000000) ∈ gt := gt_of 681 (by decide +kernel) rfl
theorem cw_X6_101 : Cond.constant RX6 101 (524287) ∈ gt := gt_of 789 (by decide +kernel) rfl
theorem cw_X9_84 : Cond.constantLong RX9 84 (31) ∈ gt := gt_of 876 (by decide +kernel) rfl
theorem cw_X12_56 : Cond.constantLong RX12 56 (4) ∈ gt := gt_of 960 (by decide +kernel) rfl
theorem cw_X12_58 : Cond.constantLong RX12 58 (9) ∈ gt := gt_of 964 (by decide +kernel) rfl
theorem cw_X12_117 : Cond.constantLong RX12 117 (20) ∈ gt := gt_of 1008 (by decide +kernel) rfl
theorem cw_X12_145 : Cond.constant RX12 145 (100000) ∈ gt := gt_of 1081 (by decide +kernel) rfl
theorem cw_X12_186 : Cond.constantLong RX12 186 (8) ∈ gt := gt_of 1175 (by decide +kernel) rfl
theorem cw_X12_191 : Cond.constantLong RX12 191 (255) ∈ gt := gt_of 1176 (by decide +kernel) rfl
theorem cw_X12_193 : Cond.constantLong RX12 193 (97) ∈ gt := gt_of 1192 (by decide +kernel) rfl
theorem cw_X12_195 : Cond.constantLong RX12 195 (122) ∈ gt := gt_of 1193 (by decide +kernel) rfl
theorem cw_X12_197 : Cond.constantLong RX12 197 (48) ∈ gt := gt_of 1197 (by decide +kernel) rfl
theorem cw_X12_199 : Cond.constantLong RX12 199 (57) ∈ gt := gt_of 1198 (by decide +kernel) rfl
theorem cw_X12_252 : Cond.constantLong RX12 252 (2) ∈ gt := gt_of 1251 (by decide +kernel) rfl
theorem cw_X12_254 : Cond.constantLong RX12 254 (6) ∈ gt := gt_of 1256 (by decide +kernel) rfl
theorem cw_X12_259 : Cond.constantLong RX12 259 (31) ∈ gt := gt_of 1266 (by decide +kernel) rfl
theorem cw_X12_261 : Cond.constantLong RX12 261 (773) ∈ gt := gt_of 1265 (by decide +kernel) rfl
theorem cw_J6_265 : Cond.constant RJ6 265 (1431655765) ∈ gt := gt_of 749 (by decide +kernel) rfl
theorem cw_J6_266 : Cond.constant RJ6 266 (858993459) ∈ gt := gt_of 750 (by decide +kernel) rfl
theorem cw_J6_267 : Cond.constant RJ6 267 (252645135) ∈ gt := gt_of 751 (by decide +kernel) rfl
theorem ms_max : Cond.static Lib.Math.max.name ∈ gt := gt_of 585 (by decide +kernel) rfl
theorem mc_max : Cond.code Lib.Math.max.name Lib.Math.max.code 2 (some .int) ∈ gt := gt_of 586 (by decide +kernel) rfl
theorem ms_min : Cond.static Lib.Math.min.name ∈ gt := gt_of 438 (by decide +kernel) rfl
theorem mc_min : Cond.code Lib.Math.min.name Lib.Math.min.code 2 (some .int) ∈ gt := gt_of 439 (by decide +kernel) rfl
theorem ms_abs : Cond.static Lib.Math.abs.name ∈ gt := gt_of 839 (by decide +kernel) rfl
theorem mc_abs : Cond.code Lib.Math.abs.name Lib.Math.abs.code 1 (some .int) ∈ gt := gt_of 840 (by decide +kernel) rfl
theorem mi_math : Cond.initialized "java/lang/Math" ∈ gt := gt_of 14 (by decide +kernel) rfl
theorem ac_s : Cond.static arraycopyName ∈ gt := gt_of 561 (by decide +kernel) rfl
theorem ac_n : Cond.native arraycopyName ∈ gt := gt_of 562 (by decide +kernel) rfl
theorem ac_i : Cond.initialized "java/lang/System" ∈ gt := gt_of 19 (by decide +kernel) rfl
theorem ml_X11_263 : Cond.methodLink RX11 263 Lib.Math.abs.name ∈ gt := gt_of 838 (by decide +kernel) rfl
theorem ml_X0_99 : Cond.methodLink RX0 99 arraycopyName ∈ gt := gt_of 686 (by decide +kernel) rfl
theorem ml_X5_44 : Cond.methodLink RX5 44 Lib.Math.min.name ∈ gt := gt_of 437 (by decide +kernel) rfl
theorem ml_X6_60 : Cond.methodLink RX6 60 Lib.Math.max.name ∈ gt := gt_of 777 (by decide +kernel) rfl
theorem ml_X8_77 : Cond.methodLink RX8 77 Lib.Math.max.name ∈ gt := gt_of 587 (by decide +kernel) rfl
theorem ml_X9_64 : Cond.methodLink RX9 64 arraycopyName ∈ gt := gt_of 560 (by decide +kernel) rfl
theorem ml_X9_74 : Cond.methodLink RX9 74 Lib.Math.max.name ∈ gt := gt_of 584 (by decide +kernel) rfl
