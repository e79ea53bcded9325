def f_J6_bitCount_0f7a4  (x0 : Int32) : Option (Int32) :=
  some ((((((((x0 - (((x0.toUInt32 >>> ((1 : Int32).toUInt32 &&& Int32.toUInt32 31)).toInt32) &&& 1431655765)) &&& 858993459) + ((((x0 - (((x0.toUInt32 >>> ((1 : Int32).toUInt32 &&& Int32.toUInt32 31)).toInt32) &&& 1431655765)).toUInt32 >>> ((2 : Int32).toUInt32 &&& Int32.toUInt32 31)).toInt32) &&& 858993459)) + (((((x0 - (((x0.toUInt32 >>> ((1 : Int32).toUInt32 &&& Int32.toUInt32 31)).toInt32) &&& 1431655765)) &&& 858993459) + ((((x0 - (((x0.toUInt32 >>> ((1 : Int32).toUInt32 &&& Int32.toUInt32 31)).toInt32) &&& 1431655765)).toUInt32 >>> ((2 : Int32).toUInt32 &&& Int32.toUInt32 31)).toInt32) &&& 858993459)).toUInt32 >>> ((4 : Int32).toUInt32 &&& Int32.toUInt32 31)).toInt32)) &&& 252645135) + (((((((x0 - (((x0.toUInt32 >>> ((1 : Int32).toUInt32 &&& Int32.toUInt32 31)).toInt32) &&& 1431655765)) &&& 858993459) + ((((x0 - (((x0.toUInt32 >>> ((1 : Int32).toUInt32 &&& Int32.toUInt32 31)).toInt32) &&& 1431655765)).toUInt32 >>> ((2 : Int32).toUInt32 &&& Int32.toUInt32 31)).toInt32) &&& 858993459)) + (((((x0 - (((x0.toUInt32 >>> ((1 : Int32).toUInt32 &&& Int32.toUInt32 31)).toInt32) &&& 1431655765)) &&& 858993459) + ((((x0 - (((x0.toUInt32 >>> ((1 : Int32).toUInt32 &&& Int32.toUInt32 31)).toInt32) &&& 1431655765)).toUInt32 >>> ((2 : Int32).toUInt32 &&& Int32.toUInt32 31)).toInt32) &&& 858993459)).toUInt32 >>> ((4 : Int32).toUInt32 &&& Int32.toUInt32 31)).toInt32)) &&& 252645135).toUInt32 >>> ((8 : Int32).toUInt32 &&& Int32.toUInt32 31)).toInt32)) + ((((((((x0 - (((x0.toUInt32 >>> ((1 : Int32).toUInt32 &&& Int32.toUInt32 31)).toInt32) &&& 1431655765)) &&& 858993459) + ((((x0 - (((x0.toUInt32 >>> ((1 : Int32).toUInt32 &&& Int32.toUInt32 31)).toInt32) &&& 1431655765)).toUInt32 >>> ((2 : Int32).toUInt32 &&& Int32.toUInt32 31)).toInt32) &&& 858993459)) + (((((x0 - (((x0.toUInt32 >>> ((1 : Int32).toUInt32 &&& Int32.toUInt32 31)).toInt32) &&& 1431655765)) &&& 858993459) + ((((x0 - (((x0.toUInt32 >>> ((1 : Int32).toUInt32 &&& Int32.toUInt32 31)).toInt32) &&& 1431655765)).toUInt32 >>> ((2 : Int32).toUInt32 &&& Int32.toUInt32 31)).toInt32) &&& 858993459)).toUInt32 >>> ((4 : Int32).toUInt32 &&& Int32.toUInt32 31)).toInt32)) &&& 252645135) + (((((((x0 - (((x0.toUInt32 >>> ((1 : Int32).toUInt32 &&& Int32.toUInt32 31)).toInt32) &&& 1431655765)) &&& 858993459) + ((((x0 - (((x0.toUInt32 >>> ((1 : Int32).toUInt32 &&& Int32.toUInt32 31)).toInt32) &&& 1431655765)).toUInt32 >>> ((2 : Int32).toUInt32 &&& Int32.toUInt32 31)).toInt32) &&& 858993459)) + (((((x0 - (((x0.toUInt32 >>> ((1 : Int32).toUInt32 &&& Int32.toUInt32 31)).toInt32) &&& 1431655765)) &&& 858993459) + ((((x0 - (((x0.toUInt32 >>> ((1 : Int32).toUInt32 &&& Int32.toUInt32 31)).toInt32) &&& 1431655765)).toUInt32 >>> ((2 : Int32).toUInt32 &&& Int32.toUInt32 31)).toInt32) &&& 858993459)).toUInt32 >>> ((4 : Int32).toUInt32 &&& Int32.toUInt32 31)).toInt32)) &&& 252645135).toUInt32 >>> ((8 : Int32).toUInt32 &&& Int32.toUInt32 31)).toInt32)).toUInt32 >>> ((16 : Int32).toUInt32 &&& Int32.toUInt32 31)).toInt32)) &&& 63)
set_option maxRecDepth 100000 in
set_option maxHeartbeats 4000000 in
theorem c_J6_bitCount_0f7a4 (l : Launch) (G : GG)  {x0 : Int32} {res : Int32} (hf : f_J6_bitCount_0f7a4 x0 = some res) : MI l yJ6_bitCount_0f7a4 cJ6_bitCount_0f7a4 1 (some .int) 1 [.int x0] G [] res [] := by
  unfold f_J6_bitCount_0f7a4 at hf
  refine MI.intro (by decide) rfl (Nat.le_of_ble_eq_true rfl) (fun p e s m args below meth c A ls C h hl => ?_)
  have C : MC RJ6 cJ6_bitCount_0f7a4 1 (some .int) G A p s m args meth c := C
  have hl : lv_has ls 1 [(0, .int x0)] := hl
  refine lv_iload_n C.hx C.hb dJ6_bitCount_0f7a4_0 rfl (lv_at hl 0 rfl) ?_
  refine lv_iload_n C.hx C.hb dJ6_bitCount_0f7a4_1 rfl (lv_at hl 0 rfl) ?_
  refine lv_iconst (v := 1) C.hx C.hb dJ6_bitCount_0f7a4_2 (by decide) ?_
  refine lv_iushr C.hx C.hb dJ6_bitCount_0f7a4_3 rfl ?_
  refine lv_ldcw C.hx C.hb C.hown (C.hts _ cw_J6_265) dJ6_bitCount_0f7a4_4 ?_
  refine lv_iand C.hx C.hb dJ6_bitCount_0f7a4_7 ?_
  refine lv_isub C.hx C.hb dJ6_bitCount_0f7a4_8 ?_
  refine lv_istore_n (lv' := [(0, .int (x0 - (((x0.toUInt32 >>> ((1 : Int32).toUInt32 &&& Int32.toUInt32 31)).toInt32) &&& 1431655765)))]) C.hx C.hb dJ6_bitCount_0f7a4_9 rfl hl (by decide) rfl (fun ls hl => ?_)
  refine lv_iload_n C.hx C.hb dJ6_bitCount_0f7a4_10 rfl (lv_at hl 0 rfl) ?_
  refine lv_ldcw C.hx C.hb C.hown (C.hts _ cw_J6_266) dJ6_bitCount_0f7a4_11 ?_
  refine lv_iand C.hx C.hb dJ6_bitCount_0f7a4_14 ?_
  refine lv_iload_n C.hx C.hb dJ6_bitCount_0f7a4_15 rfl (lv_at hl 0 rfl) ?_
  refine lv_iconst (v := 2) C.hx C.hb dJ6_bitCount_0f7a4_16 (by decide) ?_
  refine lv_iushr C.hx C.hb dJ6_bitCount_0f7a4_17 rfl ?_
  refine lv_ldcw C.hx C.hb C.hown (C.hts _ cw_J6_266) dJ6_bitCount_0f7a4_18 ?_
  refine lv_iand C.hx C.hb dJ6_bitCount_0f7a4_21 ?_
  refine lv_iadd C.hx C.hb dJ6_bitCount_0f7a4_22 ?_
  refine lv_istore_n (lv' := [(0, .int (((x0 - (((x0.toUInt32 >>> ((1 : Int32).toUInt32 &&& Int32.toUInt32 31)).toInt32) &&& 1431655765)) &&& 858993459) + ((((x0 - (((x0.toUInt32 >>> ((1 : Int32).toUInt32 &&& Int32.toUInt32 31)).toInt32) &&& 1431655765)).toUInt32 >>> ((2 : Int32).toUInt32 &&& Int32.toUInt32 31)).toInt32) &&& 858993459)))]) C.hx C.hb dJ6_bitCount_0f7a4_23 rfl hl (by decide) rfl (fun ls hl => ?_)
  refine lv_iload_n C.hx C.hb dJ6_bitCount_0f7a4_24 rfl (lv_at hl 0 rfl) ?_
  refine lv_iload_n C.hx C.hb dJ6_bitCount_0f7a4_25 rfl (lv_at hl 0 rfl) ?_
  refine lv_iconst (v := 4) C.hx C.hb dJ6_bitCount_0f7a4_26 (by decide) ?_
  refine lv_iushr C.hx C.hb dJ6_bitCount_0f7a4_27 rfl ?_
  refine lv_iadd C.hx C.hb dJ6_bitCount_0f7a4_28 ?_
  refine lv_ldcw C.hx C.hb C.hown (C.hts _ cw_J6_267) dJ6_bitCount_0f7a4_29 ?_
  refine lv_iand C.hx C.hb dJ6_bitCount_0f7a4_32 ?_
  refine lv_istore_n (lv' := [(0, .int (((((x0 - (((x0.toUInt32 >>> ((1 : Int32).toUInt32 &&& Int32.toUInt32 31)).toInt32) &&& 1431655765)) &&& 858993459) + ((((x0 - (((x0.toUInt32 >>> ((1 : Int32).toUInt32 &&& Int32.toUInt32 31)).toInt32) &&& 1431655765)).toUInt32 >>> ((2 : Int32).toUInt32 &&& Int32.toUInt32 31)).toInt32) &&& 858993459)) + (((((x0 - (((x0.toUInt32 >>> ((1 : Int32).toUInt32 &&& Int32.toUInt32 31)).toInt32) &&& 1431655765)) &&& 858993459) + ((((x0 - (((x0.toUInt32 >>> ((1 : Int32).toUInt32 &&& Int32.toUInt32 31)).toInt32) &&& 1431655765)).toUInt32 >>> ((2 : Int32).toUInt32 &&& Int32.toUInt32 31)).toInt32) &&& 858993459)).toUInt32 >>> ((4 : Int32).toUInt32 &&& Int32.toUInt32 31)).toInt32)) &&& 252645135))]) C.hx C.hb dJ6_bitCount_0f7a4_33 rfl hl (by decide) rfl (fun ls hl => ?_)
  refine lv_iload_n C.hx C.hb dJ6_bitCount_0f7a4_34 rfl (lv_at hl 0 rfl) ?_
  refine lv_iload_n C.hx C.hb dJ6_bitCount_0f7a4_35 rfl (lv_at hl 0 rfl) ?_
  refine lv_bipush (v := 8) C.hx C.hb dJ6_bitCount_0f7a4_36 (by decide) ?_
  refine lv_iushr C.hx C.hb dJ6_bitCount_0f7a4_38 rfl ?_
  refine lv_iadd C.hx C.hb dJ6_bitCount_0f7a4_39 ?_
  refine lv_istore_n (lv' := [(0, .int ((((((x0 - (((x0.toUInt32 >>> ((1 : Int32).toUInt32 &&& Int32.toUInt32 31)).toInt32) &&& 1431655765)) &&& 858993459) + ((((x0 - (((x0.toUInt32 >>> ((1 : Int32).toUInt32 &&& Int32.toUInt32 31)).toInt32) &&& 1431655765)).toUInt32 >>> ((2 : Int32).toUInt32 &&& Int32.toUInt32 31)).toInt32) &&& 858993459)) + (((((x0 - (((x0.toUInt32 >>> ((1 : Int32).toUInt32 &&& Int32.toUInt32 31)).toInt32) &&& 1431655765)) &&& 858993459) + ((((x0 - (((x0.toUInt32 >>> ((1 : Int32).toUInt32 &&& Int32.toUInt32 31)).toInt32) &&& 1431655765)).toUInt32 >>> ((2 : Int32).toUInt32 &&& Int32.toUInt32 31)).toInt32) &&& 858993459)).toUInt32 >>> ((4 : Int32).toUInt32 &&& Int32.toUInt32 31)).toInt32)) &&& 252645135) + (((((((x0 - (((x0.toUInt32 >>> ((1 : Int32).toUInt32 &&& Int32.toUInt32 31)).toInt32) &&& 1431655765)) &&& 858993459) + ((((x0 - (((x0.toUInt32 >>> ((1 : Int32).toUInt32 &&& Int32.toUInt32 31)).toInt32) &&& 1431655765)).toUInt32 >>> ((2 : Int32).toUInt32 &&& Int32.toUInt32 31)).toInt32) &&& 858993459)) + (((((x0 - (((x0.toUInt32 >>> ((1 : Int32).toUInt32 &&& Int32.toUInt32 31)).toInt32) &&& 1431655765)) &&& 858993459) + ((((x0 - (((x0.toUInt32 >>> ((1 : Int32).toUInt32 &&& Int32.toUInt32 31)).toInt32) &&& 1431655765)).toUInt32 >>> ((2 : Int32).toUInt32 &&& Int32.toUInt32 31)).toInt32) &&& 858993459)).toUInt32 >>> ((4 : Int32).toUInt32 &&& Int32.toUInt32 31)).toInt32)) &&& 252645135).toUInt32 >>> ((8 : Int32).toUInt32 &&& Int32.toUInt32 31)).toInt32)))]) C.hx C.hb dJ6_bitCount_0f7a4_40 rfl hl (by decide) rfl (fun ls hl => ?_)
  refine lv_iload_n C.hx C.hb dJ6_bitCount_0f7a4_41 rfl (lv_at hl 0 rfl) ?_
  refine lv_iload_n C.hx C.hb dJ6_bitCount_0f7a4_42 rfl (lv_at hl 0 rfl) ?_
  refine lv_bipush (v := 16) C.hx C.hb dJ6_bitCount_0f7a4_43 (by decide) ?_
  refine lv_iushr C.hx C.hb dJ6_bitCount_0f7a4_45 rfl ?_
  refine lv_iadd C.hx C.hb dJ6_bitCount_0f7a4_46 ?_
  refine lv_istore_n (lv' := [(0, .int (((((((x0 - (((x0.toUInt32 >>> ((1 : Int32).toUInt32 &&& Int32.toUInt32 31)).toInt32) &&& 1431655765)) &&& 858993459) + ((((x0 - (((x0.toUInt32 >>> ((1 : Int32).toUInt32 &&& Int32.toUInt32 31)).toInt32) &&& 1431655765)).toUInt32 >>> ((2 : Int32).toUInt32 &&& Int32.toUInt32 31)).toInt32) &&& 858993459)) + (((((x0 - (((x0.toUInt32 >>> ((1 : Int32).toUInt32 &&& Int32.toUInt32 31)).toInt32) &&& 1431655765)) &&& 858993459) + ((((x0 - (((x0.toUInt32 >>> ((1 : Int32).toUInt32 &&& Int32.toUInt32 31)).toInt32) &&& 1431655765)).toUInt32 >>> ((2 : Int32).toUInt32 &&& Int32.toUInt32 31)).toInt32) &&& 858993459)).toUInt32 >>> ((4 : Int32).toUInt32 &&& Int32.toUInt32 31)).toInt32)) &&& 252645135) + (((((((x0 - (((x0.toUInt32 >>> ((1 : Int32).toUInt32 &&& Int32.toUInt32 31)).toInt32) &&& 1431655765)) &&& 858993459) + ((((x0 - (((x0.toUInt32 >>> ((1 : Int32).toUInt32 &&& Int32.toUInt32 31)).toInt32) &&& 1431655765)).toUInt32 >>> ((2 : Int32).toUInt32 &&& Int32.toUInt32 31)).toInt32) &&& 858993459)) + (((((x0 - (((x0.toUInt32 >>> ((1 : Int32).toUInt32 &&& Int32.toUInt32 31)).toInt32) &&& 1431655765)) &&& 858993459) + ((((x0 - (((x0.toUInt32 >>> ((1 : Int32).toUInt32 &&& Int32.toUInt32 31)).toInt32) &&& 1431655765)).toUInt32 >>> ((2 : Int32).toUInt32 &&& Int32.toUInt32 31)).toInt32) &&& 858993459)).toUInt32 >>> ((4 : Int32).toUInt32 &&& Int32.toUInt32 31)).toInt32)) &&& 252645135).toUInt32 >>> ((8 : Int32).toUInt32 &&& Int32.toUInt32 31)).toInt32)) + ((((((((x0 - (((x0.toUInt32 >>> ((1 : Int32).toUInt32 &&& Int32.toUInt32 31)).toInt32) &&& 1431655765)) &&& 858993459) + ((((x0 - (((x0.toUInt32 >>> ((1 : Int32).toUInt32 &&& Int32.toUInt32 31)).toInt32) &&& 1431655765)).toUInt32 >>> ((2 : Int32).toUInt32 &&& Int32.toUInt32 31)).toInt32) &&& 858993459)) + (((((x0 - (((x0.toUInt32 >>> ((1 : Int32).toUInt32 &&& Int32.toUInt32 31)).toInt32) &&& 1431655765)) &&& 858993459) + ((((x0 - (((x0.toUInt32 >>> ((1 : Int32).toUInt32 &&& Int32.toUInt32 31)).toInt32) &&& 1431655765)).toUInt32 >>> ((2 : Int32).toUInt32 &&& Int32.toUInt32 31)).toInt32) &&& 858993459)).toUInt32 >>> ((4 : Int32).toUInt32 &&& Int32.toUInt32 31)).toInt32)) &&& 252645135) + (((((((x0 - (((x0.toUInt32 >>> ((1 : Int32).toUInt32 &&& Int32.toUInt32 31)).toInt32) &&& 1431655765)) &&& 858993459) + ((((x0 - (((x0.toUInt32 >>> ((1 : Int32).toUInt32 &&& Int32.toUInt32 31)).toInt32) &&& 1431655765)).toUInt32 >>> ((2 : Int32).toUInt32 &&& Int32.toUInt32 31)).toInt32) &&& 858993459)) + (((((x0 - (((x0.toUInt32 >>> ((1 : Int32).toUInt32 &&& Int32.toUInt32 31)).toInt32) &&& 1431655765)) &&& 858993459) + ((((x0 - (((x0.toUInt32 >>> ((1 : Int32).toUInt32 &&& Int32.toUInt32 31)).toInt32) &&& 1431655765)).toUInt32 >>> ((2 : Int32).toUInt32 &&& Int32.toUInt32 31)).toInt32) &&& 858993459)).toUInt32 >>> ((4 : Int32).toUInt32 &&& Int32.toUInt32 31)).toInt32)) &&& 252645135).toUInt32 >>> ((8 : Int32).toUInt32 &&& Int32.toUInt32 31)).toInt32)).toUInt32 >>> ((16 : Int32).toUInt32 &&& Int32.toUInt32 31)).toInt32)))]) C.hx C.hb dJ6_bitCount_0f7a4_47 rfl hl (by decide) rfl (fun ls hl => ?_)
  refine lv_iload_n C.hx C.hb dJ6_bitCount_0f7a4_48 rfl (lv_at hl 0 rfl) ?_
  refine lv_bipush (v := 63) C.hx C.hb dJ6_bitCount_0f7a4_49 (by decide) ?_
  refine lv_iand C.hx C.hb dJ6_bitCount_0f7a4_51 ?_
  obtain rfl := Option.some.inj hf
  exact g_ret_i C h rfl rfl dJ6_bitCount_0f7a4_52

def f_X0_behind (v_t : US) (x1 : Int32) (x2 : Int32) : Option (Int32) :=
  if x1 < 0 ∨ 5 ≤ x1.toNatClampNeg then none else (if x1 < 0 ∨ 5 ≤ x1.toNatClampNeg then none else (some ((x2 &&& ((v_t.2.2 2) x1.toNatClampNeg)) ^^^ ((v_t.2.2 3) x1.toNatClampNeg))))
set_option maxRecDepth 100000 in
set_option maxHeartbeats 4000000 in
theorem c_X0_behind (l : Launch) (G : GG) (o_t : Nat) (a_t : Nat → Nat) {v_t : US} {x1 : Int32} {x2 : Int32} {res : Int32} (hf : f_X0_behind v_t x1 x2 = some res) : MI l yX0_behind cX0_behind 3 (some .int) 1 [.ref o_t, .int x1, .int x2] G [uX0 G o_t a_t v_t] res [uX0 G o_t a_t v_t] := by
  unfold f_X0_behind at hf
  refine MI.intro (by decide) rfl (Nat.le_of_ble_eq_true rfl) (fun p e s m args below meth c A ls C h hl => ?_)
  have C : MC RX0 cX0_behind 3 (some .int) G A p s m args meth c := C
  have hl : lv_has ls 3 [(0, .ref o_t), (1, .int x1), (2, .int x2)] := hl
  refine lv_iload_n C.hx C.hb dX0_behind_0 rfl (lv_at hl 2 rfl) ?_
  refine lv_aload_n C.hx C.hb dX0_behind_1 rfl (lv_at hl 0 rfl) ?_
  refine g_get C h fl_X0_15 0 0 rfl rfl (v := .ref (a_t 2)) rfl dX0_behind_2 ?_
  refine lv_iload_n C.hx C.hb dX0_behind_5 rfl (lv_at hl 1 rfl) ?_
  obtain ⟨zi1, hf⟩ := ck_some hf
  refine g_iald C h 0 1 rfl rfl (f := v_t.2.2 2) zi1 dX0_behind_6 ?_
  refine lv_iand C.hx C.hb dX0_behind_7 ?_
  refine lv_aload_n C.hx C.hb dX0_behind_8 rfl (lv_at hl 0 rfl) ?_
  refine g_get C h fl_X0_19 0 0 rfl rfl (v := .ref (a_t 3)) rfl dX0_behind_9 ?_
  refine lv_iload_n C.hx C.hb dX0_behind_12 rfl (lv_at hl 1 rfl) ?_
  obtain ⟨zi2, hf⟩ := ck_some hf
  refine g_iald C h 0 2 rfl rfl (f := v_t.2.2 3) zi2 dX0_behind_13 ?_
  refine lv_ixor C.hx C.hb dX0_behind_14 ?_
  obtain rfl := Option.some.inj hf
  exact g_ret_i C h rfl rfl dX0_behind_15

def b_X0_anyOpens_2 (N : Nat) (g2 : US → Int32 → Int32 → Int32 → Option (Bool)) (v_t : US) (y1 : Int32) (y2 : Int32) (y3 : Int32) : Option (Bool) :=
  if (v_t.1 1) ≤ y3 then (some (false)) else ((f_X0_behind v_t y3 y2).bind fun zr2 => if (zr2 &&& y1) = 0 then (g2 v_t y1 y2 (y3 + 1)) else (some (true)))
def f_X0_anyOpens_2 (N : Nat)  : Nat → US → Int32 → Int32 → Int32 → Option (Bool)
  | 0 => fun _ _ _ _ => none
  | k + 1 => fun q0 q1 q2 q3 => b_X0_anyOpens_2 N  (f_X0_anyOpens_2 N  k) q0 q1 q2 q3
def f_X0_anyOpens (N : Nat) (v_t : US) (x1 : Int32) (x2 : Int32) : Option (Bool) :=
  f_X0_anyOpens_2 N N v_t x1 x2 0
set_option maxRecDepth 100000 in
set_option maxHeartbeats 4000000 in
theorem w_X0_anyOpens_2 {p : Program} {l : Launch} {e : Env} {s : State} {m : MethodId} {args : Array Value} {below : List Frame} {meth : Method} {c : Code} {G : GG} {A : Nat → Prop} {o_t : Nat} {a_t : Nat → Nat} {N : Nat} {g2 : US → Int32 → Int32 → Int32 → Option (Bool)} {v_t : US} {y1 : Int32} {y2 : Int32} {y3 : Int32} {res : Bool} (C : MC RX0 cX0_anyOpens 4 (some .boolean) G A p s m args meth c) (hg2 : ∀ {v_t : US} {y1 : Int32} {y2 : Int32} {y3 : Int32}, g2 v_t y1 y2 y3 = some res → ∀ {H : Heap} {locs : List Loc} {ls : Array Slot}, HP G A s [uX0 G o_t a_t v_t] H locs → lv_has ls 4 [(0, .ref o_t), (1, .int y1), (2, .int y2), (3, .int y3)] → W p l e (rmm 2) s m args below meth c H locs 0 0 (QI below G A args s (b2i res) [uX0 G o_t a_t v_t]) (F0 m 2 ls [])) (hf : b_X0_anyOpens_2 N g2 v_t y1 y2 y3 = some res) {H : Heap} {locs : List Loc} {ls : Array Slot} (h : HP G A s [uX0 G o_t a_t v_t] H locs) (hl : lv_has ls 4 [(0, .ref o_t), (1, .int y1), (2, .int y2), (3, .int y3)]) : W p l e (rmm 2) s m args below meth c H locs 0 0 (QI below G A args s (b2i res) [uX0 G o_t a_t v_t]) (F0 m 2 ls []) := by
  unfold b_X0_anyOpens_2 at hf
  refine lv_iload_n C.hx C.hb dX0_anyOpens_2 rfl (lv_at hl 3 rfl) ?_
  refine lv_aload_n C.hx C.hb dX0_anyOpens_3 rfl (lv_at hl 0 rfl) ?_
  refine g_get C h fl_X0_9 0 0 rfl rfl (v := .int (v_t.1 1)) rfl dX0_anyOpens_4 ?_
  refine lv_icmp_ge (tgt := 29) C.hx C.hb dX0_anyOpens_7 (by decide) (fun zc1 => ?_) (fun zc1 => ?_)
  · replace hf := it_t zc1 hf
    refine lv_iconst (v := 0) C.hx C.hb dX0_anyOpens_29 (by decide) ?_
    obtain rfl := Option.some.inj hf
    exact g_ret_z (b := false) C h rfl rfl rfl dX0_anyOpens_30
  · replace hf := it_f zc1 hf
    refine lv_aload_n C.hx C.hb dX0_anyOpens_10 rfl (lv_at hl 0 rfl) ?_
    refine lv_iload_n C.hx C.hb dX0_anyOpens_11 rfl (lv_at hl 3 rfl) ?_
    refine lv_iload_n C.hx C.hb dX0_anyOpens_12 rfl (lv_at hl 2 rfl) ?_
    obtain ⟨zr2, zq3, hf⟩ := bd_some hf
    have zm4 := c_X0_behind l G o_t a_t (hf := zq3)
    refine g_goI C h zm4.1 (is := [0]) rfl rfl (g_runV C h (is := [0]) rfl rfl (As := [.int y3, .int y2]) (rest := []) (zm4.2 _) vf_X0_109 0 0 rfl rfl hl.1 rfl rfl (Nat.le_of_ble_eq_true rfl) dX0_anyOpens_13 ⟨Nat.le_of_ble_eq_true rfl, Nat.le_of_ble_eq_true rfl⟩ ⟨Nat.le_refl _, Nat.le_refl _⟩) (us2 := [uX0 G o_t a_t v_t]) rfl (fun H locs h => ?_)
    refine lv_iload_n C.hx C.hb dX0_anyOpens_16 rfl (lv_at hl 1 rfl) ?_
    refine lv_iand C.hx C.hb dX0_anyOpens_17 ?_
    refine lv_if_eq (tgt := 23) C.hx C.hb dX0_anyOpens_18 (by decide) (fun zc5 => ?_) (fun zc5 => ?_)
    · replace hf := it_t zc5 hf
      refine lv_iinc (v := y3 + 1) (lv' := [(3, .int (y3 + 1)), (0, .ref o_t), (1, .int y1), (2, .int y2)]) C.hx C.hb dX0_anyOpens_23 hl (k := 3) rfl rfl (by decide) rfl (fun ls hl => ?_)
      refine lv_goto (tgt := 2) C.hx C.hb dX0_anyOpens_26 (by decide) ?_
      exact hg2 hf h (lv_sub hl [1, 2, 3, 0] rfl)
    · replace hf := it_f zc5 hf
      refine lv_iconst (v := 1) C.hx C.hb dX0_anyOpens_21 (by decide) ?_
      obtain rfl := Option.some.inj hf
      exact g_ret_z (b := true) C h rfl rfl rfl dX0_anyOpens_22
set_option maxRecDepth 100000 in
set_option maxHeartbeats 4000000 in
theorem l_X0_anyOpens_2 {p : Program} {l : Launch} {e : Env} {s : State} {m : MethodId} {args : Array Value} {below : List Frame} {meth : Method} {c : Code} {G : GG} {A : Nat → Prop} {o_t : Nat} {a_t : Nat → Nat} {N : Nat}  {res : Bool} (C : MC RX0 cX0_anyOpens 4 (some .boolean) G A p s m args meth c)  : ∀ (k : Nat) {v_t : US} {y1 : Int32} {y2 : Int32} {y3 : Int32}, f_X0_anyOpens_2 N k v_t y1 y2 y3 = some res → ∀ {H : Heap} {locs : List Loc} {ls : Array Slot}, HP G A s [uX0 G o_t a_t v_t] H locs → lv_has ls 4 [(0, .ref o_t), (1, .int y1), (2, .int y2), (3, .int y3)] → W p l e (rmm 2) s m args below meth c H locs 0 0 (QI below G A args s (b2i res) [uX0 G o_t a_t v_t]) (F0 m 2 ls []) := by
  intro k
  induction k with
  | zero => intros; contradiction
  | succ k ih =>
    intro v_t y1 y2 y3 hf H locs ls h hl
    exact w_X0_anyOpens_2 (N := N) C ih hf h hl
set_option maxRecDepth 100000 in
set_option maxHeartbeats 4000000 in
theorem c_X0_anyOpens (l : Launch) (G : GG) (o_t : Nat) (a_t : Nat → Nat) (N : Nat) {v_t : US} {x1 : Int32} {x2 : Int32} {res : Bool} (hf : f_X0_anyOpens N v_t x1 x2 = some res) : MI l yX0_anyOpens cX0_anyOpens 4 (some .boolean) 2 [.ref o_t, .int x1, .int x2] G [uX0 G o_t a_t v_t] (b2i res) [uX0 G o_t a_t v_t] := by
  unfold f_X0_anyOpens at hf
  refine MI.intro (by decide) rfl (Nat.le_of_ble_eq_true rfl) (fun p e s m args below meth c A ls C h hl => ?_)
  have C : MC RX0 cX0_anyOpens 4 (some .boolean) G A p s m args meth c := C
  have hl : lv_has ls 4 [(0, .ref o_t), (1, .int x1), (2, .int x2)] := hl
  refine lv_iconst (v := 0) C.hx C.hb dX0_anyOpens_0 (by decide) ?_
  refine lv_istore_n (lv' := [(3, .int 0), (0, .ref o_t), (1, .int x1), (2, .int x2)]) C.hx C.hb dX0_anyOpens_1 rfl hl (by decide) rfl (fun ls hl => ?_)
  exact l_X0_anyOpens_2 C N hf h (lv_sub hl [1, 2, 3, 0] rfl)

def b_X0_look_10 (N : Nat) (g10 : US → US → US → Int32 → Int32 → Option (US × US)) (v_t : US) (v_p1 : US) (v_t_swing : US) (y2 : Int32) (y3 : Int32) : Option (US × US) :=
  if (v_t.1 1) ≤ y3 then (some (v_t, v_t_swing)) else (if y3 < 0 ∨ 5 ≤ y3.toNatClampNeg then none else (if y3 < 0 ∨ 5 ≤ y3.toNatClampNeg then none else ((f_X8_by N v_t_swing v_p1 y2 ((v_p1.2.2 9) y3.toNatClampNeg) ((v_p1.2.2 10) y3.toNatClampNeg) (-1) 0).bind fun zr4 => if y3 < 0 ∨ 5 ≤ y3.toNatClampNeg then none else (bnd (upa v_t 2 y3.toNatClampNeg (zr4.1 6)) fun zw8 => if y3 < 0 ∨ 5 ≤ y3.toNatClampNeg then none else ((f_X8_rings zr4).bind fun zr10 => bnd (upa zw8 3 y3.toNatClampNeg (zr4.1 7)) fun zw13 => if y3 < 0 ∨ 5 ≤ y3.toNatClampNeg then none else (g10 (upa zw13 4 y3.toNatClampNeg zr10) v_p1 zr4 y2 (y3 + 1)))))))
def f_X0_look_10 (N : Nat)  : Nat → US → US → US → Int32 → Int32 → Option (US × US)
  | 0 => fun _ _ _ _ _ => none
  | k + 1 => fun q0 q1 q2 q3 q4 => b_X0_look_10 N  (f_X0_look_10 N  k) q0 q1 q2 q3 q4
def f_X0_look (N : Nat) (v_t : US) (v_p1 : US) (v_t_swing : US) (x2 : Int32) : Option (US × US) :=
  f_X0_look_10 N N (upi v_t 1 (v_p1.1 8)) v_p1 v_t_swing x2 0
set_option maxRecDepth 100000 in
set_option maxHeartbeats 4000000 in
theorem w_X0_look_10 {p : Program} {l : Launch} {e : Env} {s : State} {m : MethodId} {args : Array Value} {below : List Frame} {meth : Method} {c : Code} {G : GG} {A : Nat → Prop} {o_t o_p1 : Nat} {a_p1 a_t a_t_swing a_t_swing_kinds : Nat → Nat} {N : Nat} {g10 : US → US → US → Int32 → Int32 → Option (US × US)} {v_t : US} {v_p1 : US} {v_t_swing : US} {y2 : Int32} {y3 : Int32} {res : US × US} (C : MC RX0 cX0_look 4 none G A p s m args meth c) (hg10 : ∀ {v_t : US} {v_p1 : US} {v_t_swing : US} {y2 : Int32} {y3 : Int32}, g10 v_t v_p1 v_t_swing y2 y3 = some res → ∀ {H : Heap} {locs : List Loc} {ls : Array Slot}, HP G A s [uX0 G o_t a_t v_t, uX9 G o_p1 a_p1 v_p1, uX8 G (a_t 0) a_t_swing v_t_swing, uX2 G (a_t_swing 0) a_t_swing_kinds] H locs → lv_has ls 4 [(0, .ref o_t), (1, .ref o_p1), (2, .int y2), (3, .int y3)] → W p l e (rmm 5) s m args below meth c H locs 0 0 (QV below G A args s  [uX0 G o_t a_t res.1, uX9 G o_p1 a_p1 v_p1, uX8 G (a_t 0) a_t_swing res.2, uX2 G (a_t_swing 0) a_t_swing_kinds]) (F0 m 10 ls [])) (hf : b_X0_look_10 N g10 v_t v_p1 v_t_swing y2 y3 = some res) {H : Heap} {locs : List Loc} {ls : Array Slot} (h : HP G A s [uX0 G o_t a_t v_t, uX9 G o_p1 a_p1 v_p1, uX8 G (a_t 0) a_t_swing v_t_swing, uX2 G (a_t_swing 0) a_t_swing_kinds] H locs) (hl : lv_has ls 4 [(0, .ref o_t), (1, .ref o_p1), (2, .int y2), (3, .int y3)]) : W p l e (rmm 5) s m args below meth c H locs 0 0 (QV below G A args s  [uX0 G o_t a_t res.1, uX9 G o_p1 a_p1 v_p1, uX8 G (a_t 0) a_t_swing res.2, uX2 G (a_t_swing 0) a_t_swing_kinds]) (F0 m 10 ls []) := by
  unfold b_X0_look_10 at hf
  refine lv_iload_n C.hx C.hb dX0_look_10 rfl (lv_at hl 3 rfl) ?_
  refine lv_aload_n C.hx C.hb dX0_look_11 rfl (lv_at hl 0 rfl) ?_
  refine g_get C h fl_X0_9 0 0 rfl rfl (v := .int (v_t.1 1)) rfl dX0_look_12 ?_
  refine lv_icmp_ge (tgt := 86) C.hx C.hb dX0_look_15 (by decide) (fun zc1 => ?_) (fun zc1 => ?_)
  · replace hf := it_t zc1 hf
    obtain rfl := Option.some.inj hf
    exact g_ret_v C h rfl dX0_look_86
  · replace hf := it_f zc1 hf
    refine lv_aload_n C.hx C.hb dX0_look_18 rfl (lv_at hl 0 rfl) ?_
    refine g_get C h fl_X0_58 0 0 rfl rfl (v := .ref (a_t 0)) rfl dX0_look_19 ?_
    refine lv_aload_n C.hx C.hb dX0_look_22 rfl (lv_at hl 1 rfl) ?_
    refine lv_iload_n C.hx C.hb dX0_look_23 rfl (lv_at hl 2 rfl) ?_
    refine lv_aload_n C.hx C.hb dX0_look_24 rfl (lv_at hl 1 rfl) ?_
    refine g_get C h fl_X0_65 1 0 rfl rfl (v := .ref (a_p1 9)) rfl dX0_look_25 ?_
    refine lv_iload_n C.hx C.hb dX0_look_28 rfl (lv_at hl 3 rfl) ?_
    obtain ⟨zi2, hf⟩ := ck_some hf
    refine g_iald C h 1 5 rfl rfl (f := v_p1.2.2 9) zi2 dX0_look_29 ?_
    refine lv_aload_n C.hx C.hb dX0_look_30 rfl (lv_at hl 1 rfl) ?_
    refine g_get C h fl_X0_68 1 0 rfl rfl (v := .ref (a_p1 10)) rfl dX0_look_31 ?_
    refine lv_iload_n C.hx C.hb dX0_look_34 rfl (lv_at hl 3 rfl) ?_
    obtain ⟨zi3, hf⟩ := ck_some hf
    refine g_iald C h 1 6 rfl rfl (f := v_p1.2.2 10) zi3 dX0_look_35 ?_
    refine lv_iconst (v := (-1)) C.hx C.hb dX0_look_36 (by decide) ?_
    refine lv_iconst (v := 0) C.hx C.hb dX0_look_37 (by decide) ?_
    obtain ⟨zr4, zq5, hf⟩ := bd_some hf
    have zm6 := c_X8_by l G (a_t 0) o_p1 a_p1 a_t_swing a_t_swing_kinds N (hf := zq5)
    refine g_goV C h zm6.1 (is := [2, 1, 3]) rfl rfl (g_runV C h (is := [2, 1, 3]) rfl rfl (As := [.ref o_p1, .int y2, .int ((v_p1.2.2 9) y3.toNatClampNeg), .int ((v_p1.2.2 10) y3.toNatClampNeg), .int (-1), .int 0]) (rest := []) (zm6.2 _) vf_X0_71 2 0 rfl rfl hl.1 rfl rfl (Nat.le_of_ble_eq_true rfl) dX0_look_38 ⟨Nat.le_of_ble_eq_true rfl, Nat.le_of_ble_eq_true rfl⟩ ⟨Nat.le_refl _, Nat.le_refl _⟩) (us2 := [uX0 G o_t a_t v_t, uX9 G o_p1 a_p1 v_p1, uX8 G (a_t 0) a_t_swing zr4, uX2 G (a_t_swing 0) a_t_swing_kinds]) rfl (fun H locs h => ?_)
    refine lv_aload_n C.hx C.hb dX0_look_41 rfl (lv_at hl 0 rfl) ?_
    refine g_get C h fl_X0_15 0 0 rfl rfl (v := .ref (a_t 2)) rfl dX0_look_42 ?_
    refine lv_iload_n C.hx C.hb dX0_look_45 rfl (lv_at hl 3 rfl) ?_
    refine lv_aload_n C.hx C.hb dX0_look_46 rfl (lv_at hl 0 rfl) ?_
    refine g_get C h fl_X0_58 0 0 rfl rfl (v := .ref (a_t 0)) rfl dX0_look_47 ?_
    refine g_get C h fl_X0_77 2 0 rfl rfl (v := .int (zr4.1 6)) rfl dX0_look_50 ?_
    obtain ⟨zi7, hf⟩ := ck_some hf
    refine g_iast C h 0 1 rfl rfl (f := v_t.2.2 2) zi7 dX0_look_53 (u' := uX0 G o_t a_t (upa v_t 2 y3.toNatClampNeg (zr4.1 6))) (us' := [uX0 G o_t a_t (upa v_t 2 y3.toNatClampNeg (zr4.1 6)), uX9 G o_p1 a_p1 v_p1, uX8 G (a_t 0) a_t_swing zr4, uX2 G (a_t_swing 0) a_t_swing_kinds]) rfl rfl (fun H locs h => ?_)
    refine lv_aload_n C.hx C.hb dX0_look_54 rfl (lv_at hl 0 rfl) ?_
    refine g_get C h fl_X0_19 0 0 rfl rfl (v := .ref (a_t 3)) rfl dX0_look_55 ?_
    refine lv_iload_n C.hx C.hb dX0_look_58 rfl (lv_at hl 3 rfl) ?_
    refine lv_aload_n C.hx C.hb dX0_look_59 rfl (lv_at hl 0 rfl) ?_
    refine g_get C h fl_X0_58 0 0 rfl rfl (v := .ref (a_t 0)) rfl dX0_look_60 ?_
    refine g_get C h fl_X0_79 2 0 rfl rfl (v := .int (zr4.1 7)) rfl dX0_look_63 ?_
    obtain ⟨zw8, hzw8, hf⟩ := bnd_some hf
    rw [← hzw8] at h
    obtain ⟨zi9, hf⟩ := ck_some hf
    refine g_iast C h 0 2 rfl rfl (f := zw8.2.2 3) zi9 dX0_look_66 (u' := uX0 G o_t a_t (upa zw8 3 y3.toNatClampNeg (zr4.1 7))) (us' := [uX0 G o_t a_t (upa zw8 3 y3.toNatClampNeg (zr4.1 7)), uX9 G o_p1 a_p1 v_p1, uX8 G (a_t 0) a_t_swing zr4, uX2 G (a_t_swing 0) a_t_swing_kinds]) rfl rfl (fun H locs h => ?_)
    refine lv_aload_n C.hx C.hb dX0_look_67 rfl (lv_at hl 0 rfl) ?_
    refine g_get C h fl_X0_22 0 0 rfl rfl (v := .ref (a_t 4)) rfl dX0_look_68 ?_
    refine lv_iload_n C.hx C.hb dX0_look_71 rfl (lv_at hl 3 rfl) ?_
    refine lv_aload_n C.hx C.hb dX0_look_72 rfl (lv_at hl 0 rfl) ?_
    refine g_get C h fl_X0_58 0 0 rfl rfl (v := .ref (a_t 0)) rfl dX0_look_73 ?_
    obtain ⟨zr10, zq11, hf⟩ := bd_some hf
    have zm12 := c_X8_rings l G (a_t 0) a_t_swing (hf := zq11)
    refine g_goI C h zm12.1 (is := [2]) rfl rfl (g_runV C h (is := [2]) rfl rfl (As := []) (rest := [.int y3, .ref (a_t 4)]) (zm12.2 _) vf_X0_81 2 0 rfl rfl hl.1 rfl rfl (Nat.le_of_ble_eq_true rfl) dX0_look_76 ⟨Nat.le_of_ble_eq_true rfl, Nat.le_of_ble_eq_true rfl⟩ ⟨Nat.le_refl _, Nat.le_refl _⟩) (us2 := [uX0 G o_t a_t (upa zw8 3 y3.toNatClampNeg (zr4.1 7)), uX9 G o_p1 a_p1 v_p1, uX8 G (a_t 0) a_t_swing zr4, uX2 G (a_t_swing 0) a_t_swing_kinds]) rfl (fun H locs h => ?_)
    obtain ⟨zw13, hzw13, hf⟩ := bnd_some hf
    rw [← hzw13] at h
    obtain ⟨zi14, hf⟩ := ck_some hf
    refine g_iast C h 0 3 rfl rfl (f := zw13.2.2 4) zi14 dX0_look_79 (u' := uX0 G o_t a_t (upa zw13 4 y3.toNatClampNeg zr10)) (us' := [uX0 G o_t a_t (upa zw13 4 y3.toNatClampNeg zr10), uX9 G o_p1 a_p1 v_p1, uX8 G (a_t 0) a_t_swing zr4, uX2 G (a_t_swing 0) a_t_swing_kinds]) rfl rfl (fun H locs h => ?_)
    refine lv_iinc (v := y3 + 1) (lv' := [(3, .int (y3 + 1)), (0, .ref o_t), (1, .ref o_p1), (2, .int y2)]) C.hx C.hb dX0_look_80 hl (k := 3) rfl rfl (by decide) rfl (fun ls hl => ?_)
    refine lv_goto (tgt := 10) C.hx C.hb dX0_look_83 (by decide) ?_
    exact hg10 hf h (lv_sub hl [1, 2, 3, 0] rfl)
set_option maxRecDepth 100000 in
set_option maxHeartbeats 4000000 in
theorem l_X0_look_10 {p : Program} {l : Launch} {e : Env} {s : State} {m : MethodId} {args : Array Value} {below : List Frame} {meth : Method} {c : Code} {G : GG} {A : Nat → Prop} {o_t o_p1 : Nat} {a_p1 a_t a_t_swing a_t_swing_kinds : Nat → Nat} {N : Nat}  {res : US × US} (C : MC RX0 cX0_look 4 none G A p s m args meth c)  : ∀ (k : Nat) {v_t : US} {v_p1 : US} {v_t_swing : US} {y2 : Int32} {y3 : Int32}, f_X0_look_10 N k v_t v_p1 v_t_swing y2 y3 = some res → ∀ {H : Heap} {locs : List Loc} {ls : Array Slot}, HP G A s [uX0 G o_t a_t v_t, uX9 G o_p1 a_p1 v_p1, uX8 G (a_t 0) a_t_swing v_t_swing, uX2 G (a_t_swing 0) a_t_swing_kinds] H locs → lv_has ls 4 [(0, .ref o_t), (1, .ref o_p1), (2, .int y2), (3, .int y3)] → W p l e (rmm 5) s m args below meth c H locs 0 0 (QV below G A args s  [uX0 G o_t a_t res.1, uX9 G o_p1 a_p1 v_p1, uX8 G (a_t 0) a_t_swing res.2, uX2 G (a_t_swing 0) a_t_swing_kinds]) (F0 m 10 ls []) := by
  intro k
  induction k with
  | zero => intros; contradiction
  | succ k ih =>
    intro v_t v_p1 v_t_swing y2 y3 hf H locs ls h hl
    exact w_X0_look_10 (N := N) C ih hf h hl
set_option maxRecDepth 100000 in
set_option maxHeartbeats 4000000 in
theorem c_X0_look (l : Launch) (G : GG) (o_t o_p1 : Nat) (a_p1 a_t a_t_swing a_t_swing_kinds : Nat → Nat) (N : Nat) {v_t : US} {v_p1 : US} {v_t_swing : US} {x2 : Int32} {res : US × US} (hf : f_X0_look N v_t v_p1 v_t_swing x2 = some res) : MV l yX0_look cX0_look 4 none 5 [.ref o_t, .ref o_p1, .int x2] G [uX0 G o_t a_t v_t, uX9 G o_p1 a_p1 v_p1, uX8 G (a_t 0) a_t_swing v_t_swing, uX2 G (a_t_swing 0) a_t_swing_kinds]  [uX0 G o_t a_t res.1, uX9 G o_p1 a_p1 v_p1, uX8 G (a_t 0) a_t_swing res.2, uX2 G (a_t_swing 0) a_t_swing_kinds] := by
  unfold f_X0_look at hf
  refine MV.intro (by decide) rfl (Nat.le_of_ble_eq_true rfl) (fun p e s m args below meth c A ls C h hl => ?_)
  have C : MC RX0 cX0_look 4 none G A p s m args meth c := C
  have hl : lv_has ls 4 [(0, .ref o_t), (1, .ref o_p1), (2, .int x2)] := hl
  refine lv_aload_n C.hx C.hb dX0_look_0 rfl (lv_at hl 0 rfl) ?_
  refine lv_aload_n C.hx C.hb dX0_look_1 rfl (lv_at hl 1 rfl) ?_
  refine g_get C h fl_X0_62 1 0 rfl rfl (v := .int (v_p1.1 8)) rfl dX0_look_2 ?_
  refine g_put C h fp_X0_9 0 0 rfl rfl rfl rfl (Nat.le_of_ble_eq_true rfl) dX0_look_5 (u' := uX0 G o_t a_t (upi v_t 1 (v_p1.1 8))) (us' := [uX0 G o_t a_t (upi v_t 1 (v_p1.1 8)), uX9 G o_p1 a_p1 v_p1, uX8 G (a_t 0) a_t_swing v_t_swing, uX2 G (a_t_swing 0) a_t_swing_kinds]) rfl rfl (fun H locs h => ?_)
  refine lv_iconst (v := 0) C.hx C.hb dX0_look_8 (by decide) ?_
  refine lv_istore_n (lv' := [(3, .int 0), (0, .ref o_t), (1, .ref o_p1), (2, .int x2)]) C.hx C.hb dX0_look_9 rfl hl (by decide) rfl (fun ls hl => ?_)
  exact l_X0_look_10 C N hf h (lv_sub hl [1, 2, 3, 0] rfl)

def b_X0_fewestCuts_9 (N : Nat) (g9 : US → US → US → Int32 → Int32 → Int32 → Int32 → Option (Int32 × US × US)) (v_t : US) (v_p1 : US) (v_t_swing : US) (y2 : Int32) (y3 : Int32) (y4 : Int32) (y5 : Int32) : Option (Int32 × US × US) :=
  if (1 <<< ((v_p1.1 0) &&& 31)) ≤ y5 then (some (y3, v_t, v_t_swing)) else (if (y5 &&& ((v_p1.1 5) ^^^ (-1))) = 0 then ((f_J6_bitCount_0f7a4 y5).bind fun zr3 => if zr3 < y4 then ((f_X0_look N v_t v_p1 v_t_swing ((v_p1.1 5) &&& (y5 ^^^ (-1)))).bind fun zr7 => (f_X0_anyOpens N zr7.1 (y2 &&& ((v_p1.1 7) ^^^ (-1))) (v_p1.1 7)).bind fun zr10 => if (b2i zr10) = 0 then ((f_J6_bitCount_0f7a4 y5).bind fun zr14 => g9 zr7.1 v_p1 zr7.2 y2 y5 zr14 (y5 + 1)) else (g9 zr7.1 v_p1 zr7.2 y2 y3 y4 (y5 + 1))) else (g9 v_t v_p1 v_t_swing y2 y3 y4 (y5 + 1))) else (g9 v_t v_p1 v_t_swing y2 y3 y4 (y5 + 1)))
def f_X0_fewestCuts_9 (N : Nat)  : Nat → US → US → US → Int32 → Int32 → Int32 → Int32 → Option (Int32 × US × US)
  | 0 => fun _ _ _ _ _ _ _ => none
  | k + 1 => fun q0 q1 q2 q3 q4 q5 q6 => b_X0_fewestCuts_9 N  (f_X0_fewestCuts_9 N  k) q0 q1 q2 q3 q4 q5 q6
def f_X0_fewestCuts (N : Nat) (v_t : US) (v_p1 : US) (v_t_swing : US) (x2 : Int32) : Option (Int32 × US × US) :=
  f_X0_fewestCuts_9 N N v_t v_p1 v_t_swing x2 (-1) 6 0
set_option maxRecDepth 100000 in
set_option maxHeartbeats 4000000 in
theorem w_X0_fewestCuts_9 {p : Program} {l : Launch} {e : Env} {s : State} {m : MethodId} {args : Array Value} {below : List Frame} {meth : Method} {c : Code} {G : GG} {A : Nat → Prop} {o_t o_p1 : Nat} {a_p1 a_t a_t_swing a_t_swing_kinds : Nat → Nat} {N : Nat} {g9 : US → US → US → Int32 → Int32 → Int32 → Int32 → Option (Int32 × US × US)} {v_t : US} {v_p1 : US} {v_t_swing : US} {y2 : Int32} {y3 : Int32} {y4 : Int32} {y5 : Int32} {res : Int32 × US × US} (C : MC RX0 cX0_fewestCuts 6 (some .int) G A p s m args meth c) (hg9 : ∀ {v_t : US} {v_p1 : US} {v_t_swing : US} {y2 : Int32} {y3 : Int32} {y4 : Int32} {y5 : Int32}, g9 v_t v_p1 v_t_swing y2 y3 y4 y5 = some res → ∀ {H : Heap} {locs : List Loc} {ls : Array Slot}, HP G A s [uX0 G o_t a_t v_t, uX9 G o_p1 a_p1 v_p1, uX8 G (a_t 0) a_t_swing v_t_swing, uX2 G (a_t_swing 0) a_t_swing_kinds] H locs → lv_has ls 6 [(0, .ref o_t), (1, .ref o_p1), (2, .int y2), (3, .int y3), (4, .int y4), (5, .int y5)] → W p l e (rmm 6) s m args below meth c H locs 0 0 (QI below G A args s res.1 [uX0 G o_t a_t res.2.1, uX9 G o_p1 a_p1 v_p1, uX8 G (a_t 0) a_t_swing res.2.2, uX2 G (a_t_swing 0) a_t_swing_kinds]) (F0 m 9 ls [])) (hf : b_X0_fewestCuts_9 N g9 v_t v_p1 v_t_swing y2 y3 y4 y5 = some res) {H : Heap} {locs : List Loc} {ls : Array Slot} (h : HP G A s [uX0 G o_t a_t v_t, uX9 G o_p1 a_p1 v_p1, uX8 G (a_t 0) a_t_swing v_t_swing, uX2 G (a_t_swing 0) a_t_swing_kinds] H locs) (hl : lv_has ls 6 [(0, .ref o_t), (1, .ref o_p1), (2, .int y2), (3, .int y3), (4, .int y4), (5, .int y5)]) : W p l e (rmm 6) s m args below meth c H locs 0 0 (QI below G A args s res.1 [uX0 G o_t a_t res.2.1, uX9 G o_p1 a_p1 v_p1, uX8 G (a_t 0) a_t_swing res.2.2, uX2 G (a_t_swing 0) a_t_swing_kinds]) (F0 m 9 ls []) := by
  unfold b_X0_fewestCuts_9 at hf
  refine lv_iload C.hx C.hb dX0_fewestCuts_9 (lv_at hl 5 rfl) ?_
  refine lv_iconst (v := 1) C.hx C.hb dX0_fewestCuts_11 (by decide) ?_
  refine lv_aload_n C.hx C.hb dX0_fewestCuts_12 rfl (lv_at hl 1 rfl) ?_
  refine g_get C h fl_X0_117 1 0 rfl rfl (v := .int (v_p1.1 0)) rfl dX0_fewestCuts_13 ?_
  refine lv_ishl C.hx C.hb dX0_fewestCuts_16 ?_
  refine lv_icmp_ge (tgt := 97) C.hx C.hb dX0_fewestCuts_17 (by decide) (fun zc1 => ?_) (fun zc1 => ?_)
  · replace hf := it_t zc1 hf
    refine lv_iload_n C.hx C.hb dX0_fewestCuts_97 rfl (lv_at hl 3 rfl) ?_
    obtain rfl := Option.some.inj hf
    exact g_ret_i C h rfl rfl dX0_fewestCuts_98
  · replace hf := it_f zc1 hf
    refine lv_iload C.hx C.hb dX0_fewestCuts_20 (lv_at hl 5 rfl) ?_
    refine lv_aload_n C.hx C.hb dX0_fewestCuts_22 rfl (lv_at hl 1 rfl) ?_
    refine g_get C h fl_X0_84 1 0 rfl rfl (v := .int (v_p1.1 5)) rfl dX0_fewestCuts_23 ?_
    refine lv_iconst (v := (-1)) C.hx C.hb dX0_fewestCuts_26 (by decide) ?_
    refine lv_ixor C.hx C.hb dX0_fewestCuts_27 ?_
    refine lv_iand C.hx C.hb dX0_fewestCuts_28 ?_
    refine lv_if_ne (tgt := 91) C.hx C.hb dX0_fewestCuts_29 (by decide) (fun zc2 => ?_) (fun zc2 => ?_)
    · replace hf := it_f zc2 hf
      refine lv_iinc (v := y5 + 1) (lv' := [(5, .int (y5 + 1)), (0, .ref o_t), (1, .ref o_p1), (2, .int y2), (3, .int y3), (4, .int y4)]) C.hx C.hb dX0_fewestCuts_91 hl (k := 5) rfl rfl (by decide) rfl (fun ls hl => ?_)
      refine lv_goto (tgt := 9) C.hx C.hb dX0_fewestCuts_94 (by decide) ?_
      exact hg9 hf h (lv_sub hl [1, 2, 3, 4, 5, 0] rfl)
    · replace hf := it_t zc2 hf
      refine lv_iload C.hx C.hb dX0_fewestCuts_32 (lv_at hl 5 rfl) ?_
      obtain ⟨zr3, zq4, hf⟩ := bd_some hf
      have zm5 := c_J6_bitCount_0f7a4 l G  (hf := zq4)
      refine g_goI C h zm5.1 (is := []) rfl rfl (g_runT C h (is := []) rfl rfl (As := [.int y5]) (rest := []) (zm5.2 _) tf_X0_120 hl.1 rfl rfl (Nat.le_of_ble_eq_true rfl) dX0_fewestCuts_34 ⟨Nat.le_of_ble_eq_true rfl, Nat.le_of_ble_eq_true rfl⟩ ⟨Nat.le_refl _, Nat.le_refl _⟩) (us2 := [uX0 G o_t a_t v_t, uX9 G o_p1 a_p1 v_p1, uX8 G (a_t 0) a_t_swing v_t_swing, uX2 G (a_t_swing 0) a_t_swing_kinds]) rfl (fun H locs h => ?_)
      refine lv_iload C.hx C.hb dX0_fewestCuts_37 (lv_at hl 4 rfl) ?_
      refine lv_icmp_lt (tgt := 45) C.hx C.hb dX0_fewestCuts_39 (by decide) (fun zc6 => ?_) (fun zc6 => ?_)
      · replace hf := it_t zc6 hf
        refine lv_aload_n C.hx C.hb dX0_fewestCuts_45 rfl (lv_at hl 0 rfl) ?_
        refine lv_aload_n C.hx C.hb dX0_fewestCuts_46 rfl (lv_at hl 1 rfl) ?_
        refine lv_aload_n C.hx C.hb dX0_fewestCuts_47 rfl (lv_at hl 1 rfl) ?_
        refine g_get C h fl_X0_84 1 0 rfl rfl (v := .int (v_p1.1 5)) rfl dX0_fewestCuts_48 ?_
        refine lv_iload C.hx C.hb dX0_fewestCuts_51 (lv_at hl 5 rfl) ?_
        refine lv_iconst (v := (-1)) C.hx C.hb dX0_fewestCuts_53 (by decide) ?_
        refine lv_ixor C.hx C.hb dX0_fewestCuts_54 ?_
        refine lv_iand C.hx C.hb dX0_fewestCuts_55 ?_
        obtain ⟨zr7, zq8, hf⟩ := bd_some hf
        have zm9 := c_X0_look l G o_t o_p1 a_p1 a_t a_t_swing a_t_swing_kinds N (hf := zq8)
        refine g_goV C h zm9.1 (is := [0, 1, 2, 3]) rfl rfl (g_runV C h (is := [0, 1, 2, 3]) rfl rfl (As := [.ref o_p1, .int ((v_p1.1 5) &&& (y5 ^^^ (-1)))]) (rest := []) (zm9.2 _) vf_X0_87 0 0 rfl rfl hl.1 rfl rfl (Nat.le_of_ble_eq_true rfl) dX0_fewestCuts_56 ⟨Nat.le_of_ble_eq_true rfl, Nat.le_of_ble_eq_true rfl⟩ ⟨Nat.le_refl _, Nat.le_refl _⟩) (us2 := [uX0 G o_t a_t zr7.1, uX9 G o_p1 a_p1 v_p1, uX8 G (a_t 0) a_t_swing zr7.2, uX2 G (a_t_swing 0) a_t_swing_kinds]) rfl (fun H locs h => ?_)
        refine lv_aload_n C.hx C.hb dX0_fewestCuts_59 rfl (lv_at hl 0 rfl) ?_
        refine lv_iload_n C.hx C.hb dX0_fewestCuts_60 rfl (lv_at hl 2 rfl) ?_
        refine lv_aload_n C.hx C.hb dX0_fewestCuts_61 rfl (lv_at hl 1 rfl) ?_
        refine g_get C h fl_X0_92 1 0 rfl rfl (v := .int (v_p1.1 7)) rfl dX0_fewestCuts_62 ?_
        refine lv_iconst (v := (-1)) C.hx C.hb dX0_fewestCuts_65 (by decide) ?_
        refine lv_ixor C.hx C.hb dX0_fewestCuts_66 ?_
        refine lv_iand C.hx C.hb dX0_fewestCuts_67 ?_
        refine lv_aload_n C.hx C.hb dX0_fewestCuts_68 rfl (lv_at hl 1 rfl) ?_
        refine g_get C h fl_X0_92 1 0 rfl rfl (v := .int (v_p1.1 7)) rfl dX0_fewestCuts_69 ?_
        obtain ⟨zr10, zq11, hf⟩ := bd_some hf
        have zm12 := c_X0_anyOpens l G o_t a_t N (hf := zq11)
        refine g_goI C h zm12.1 (is := [0]) rfl rfl (g_runV C h (is := [0]) rfl rfl (As := [.int (y2 &&& ((v_p1.1 7) ^^^ (-1))), .int (v_p1.1 7)]) (rest := []) (zm12.2 _) vf_X0_125 0 0 rfl rfl hl.1 rfl rfl (Nat.le_of_ble_eq_true rfl) dX0_fewestCuts_72 ⟨Nat.le_of_ble_eq_true rfl, Nat.le_of_ble_eq_true rfl⟩ ⟨Nat.le_refl _, Nat.le_refl _⟩) (us2 := [uX0 G o_t a_t zr7.1, uX9 G o_p1 a_p1 v_p1, uX8 G (a_t 0) a_t_swing zr7.2, uX2 G (a_t_swing 0) a_t_swing_kinds]) rfl (fun H locs h => ?_)
        refine lv_if_eq (tgt := 81) C.hx C.hb dX0_fewestCuts_75 (by decide) (fun zc13 => ?_) (fun zc13 => ?_)
        · replace hf := it_t zc13 hf
          refine lv_iload C.hx C.hb dX0_fewestCuts_81 (lv_at hl 5 rfl) ?_
          refine lv_istore_n (lv' := [(3, .int y5), (0, .ref o_t), (1, .ref o_p1), (2, .int y2), (4, .int y4), (5, .int y5)]) C.hx C.hb dX0_fewestCuts_83 rfl hl (by decide) rfl (fun ls hl => ?_)
          refine lv_iload C.hx C.hb dX0_fewestCuts_84 (lv_at hl 5 rfl) ?_
          obtain ⟨zr14, zq15, hf⟩ := bd_some hf
          have zm16 := c_J6_bitCount_0f7a4 l G  (hf := zq15)
          refine g_goI C h zm16.1 (is := []) rfl rfl (g_runT C h (is := []) rfl rfl (As := [.int y5]) (rest := []) (zm16.2 _) tf_X0_120 hl.1 rfl rfl (Nat.le_of_ble_eq_true rfl) dX0_fewestCuts_86 ⟨Nat.le_of_ble_eq_true rfl, Nat.le_of_ble_eq_true rfl⟩ ⟨Nat.le_refl _, Nat.le_refl _⟩) (us2 := [uX0 G o_t a_t zr7.1, uX9 G o_p1 a_p1 v_p1, uX8 G (a_t 0) a_t_swing zr7.2, uX2 G (a_t_swing 0) a_t_swing_kinds]) rfl (fun H locs h => ?_)
          refine lv_istore (lv' := [(4, .int zr14), (3, .int y5), (0, .ref o_t), (1, .ref o_p1), (2, .int y2), (5, .int y5)]) C.hx C.hb dX0_fewestCuts_89 hl (by decide) rfl (fun ls hl => ?_)
          refine lv_iinc (v := y5 + 1) (lv' := [(5, .int (y5 + 1)), (4, .int zr14), (3, .int y5), (0, .ref o_t), (1, .ref o_p1), (2, .int y2)]) C.hx C.hb dX0_fewestCuts_91 hl (k := 5) rfl rfl (by decide) rfl (fun ls hl => ?_)
          refine lv_goto (tgt := 9) C.hx C.hb dX0_fewestCuts_94 (by decide) ?_
          exact hg9 hf h (lv_sub hl [3, 4, 5, 2, 1, 0] rfl)
        · replace hf := it_f zc13 hf
          refine lv_goto (tgt := 91) C.hx C.hb dX0_fewestCuts_78 (by decide) ?_
          refine lv_iinc (v := y5 + 1) (lv' := [(5, .int (y5 + 1)), (0, .ref o_t), (1, .ref o_p1), (2, .int y2), (3, .int y3), (4, .int y4)]) C.hx C.hb dX0_fewestCuts_91 hl (k := 5) rfl rfl (by decide) rfl (fun ls hl => ?_)
          refine lv_goto (tgt := 9) C.hx C.hb dX0_fewestCuts_94 (by decide) ?_
          exact hg9 hf h (lv_sub hl [1, 2, 3, 4, 5, 0] rfl)
      · replace hf := it_f zc6 hf
        refine lv_goto (tgt := 91) C.hx C.hb dX0_fewestCuts_42 (by decide) ?_
        refine lv_iinc (v := y5 + 1) (lv' := [(5, .int (y5 + 1)), (0, .ref o_t), (1, .ref o_p1), (2, .int y2), (3, .int y3), (4, .int y4)]) C.hx C.hb dX0_fewestCuts_91 hl (k := 5) rfl rfl (by decide) rfl (fun ls hl => ?_)
        refine lv_goto (tgt := 9) C.hx C.hb dX0_fewestCuts_94 (by decide) ?_
        exact hg9 hf h (lv_sub hl [1, 2, 3, 4, 5, 0] rfl)
set_option maxRecDepth 100000 in
set_option maxHeartbeats 4000000 in
theorem l_X0_fewestCuts_9 {p : Program} {l : Launch} {e : Env} {s : State} {m : MethodId} {args : Array Value} {below : List Frame} {meth : Method} {c : Code} {G : GG} {A : Nat → Prop} {o_t o_p1 : Nat} {a_p1 a_t a_t_swing a_t_swing_kinds : Nat → Nat} {N : Nat}  {res : Int32 × US × US} (C : MC RX0 cX0_fewestCuts 6 (some .int) G A p s m args meth c)  : ∀ (k : Nat) {v_t : US} {v_p1 : US} {v_t_swing : US} {y2 : Int32} {y3 : Int32} {y4 : Int32} {y5 : Int32}, f_X0_fewestCuts_9 N k v_t v_p1 v_t_swing y2 y3 y4 y5 = some res → ∀ {H : Heap} {locs : List Loc} {ls : Array Slot}, HP G A s [uX0 G o_t a_t v_t, uX9 G o_p1 a_p1 v_p1, uX8 G (a_t 0) a_t_swing v_t_swing, uX2 G (a_t_swing 0) a_t_swing_kinds] H locs → lv_has ls 6 [(0, .ref o_t), (1, .ref o_p1), (2, .int y2), (3, .int y3), (4, .int y4), (5, .int y5)] → W p l e (rmm 6) s m args below meth c H locs 0 0 (QI below G A args s res.1 [uX0 G o_t a_t res.2.1, uX9 G o_p1 a_p1 v_p1, uX8 G (a_t 0) a_t_swing res.2.2, uX2 G (a_t_swing 0) a_t_swing_kinds]) (F0 m 9 ls []) := by
  intro k
  induction k with
  | zero => intros; contradiction
  | succ k ih =>
    intro v_t v_p1 v_t_swing y2 y3 y4 y5 hf H locs ls h hl
    exact w_X0_fewestCuts_9 (N := N) C ih hf h hl
set_option maxRecDepth 100000 in
set_option maxHeartbeats 4000000 in
theorem c_X0_fewestCuts (l : Launch) (G : GG) (o_t o_p1 : Nat) (a_p1 a_t a_t_swing a_t_swing_kinds : Nat → Nat) (N : Nat) {v_t : US} {v_p1 : US} {v_t_swing : US} {x2 : Int32} {res : Int32 × US × US} (hf : f_X0_fewestCuts N v_t v_p1 v_t_swing x2 = some res) : MI l yX0_fewestCuts cX0_fewestCuts 6 (some .int) 6 [.ref o_t, .ref o_p1, .int x2] G [uX0 G o_t a_t v_t, uX9 G o_p1 a_p1 v_p1, uX8 G (a_t 0) a_t_swing v_t_swing, uX2 G (a_t_swing 0) a_t_swing_kinds] res.1 [uX0 G o_t a_t res.2.1, uX9 G o_p1 a_p1 v_p1, uX8 G (a_t 0) a_t_swing res.2.2, uX2 G (a_t_swing 0) a_t_swing_kinds] := by
  unfold f_X0_fewestCuts at hf
  refine MI.intro (by decide) rfl (Nat.le_of_ble_eq_true rfl) (fun p e s m args below meth c A ls C h hl => ?_)
  have C : MC RX0 cX0_fewestCuts 6 (some .int) G A p s m args meth c := C
  have hl : lv_has ls 6 [(0, .ref o_t), (1, .ref o_p1), (2, .int x2)] := hl
  refine lv_iconst (v := (-1)) C.hx C.hb dX0_fewestCuts_0 (by decide) ?_
  refine lv_istore_n (lv' := [(3, .int (-1)), (0, .ref o_t), (1, .ref o_p1), (2, .int x2)]) C.hx C.hb dX0_fewestCuts_1 rfl hl (by decide) rfl (fun ls hl => ?_)
  refine lv_bipush (v := 6) C.hx C.hb dX0_fewestCuts_2 (by decide) ?_
  refine lv_istore (lv' := [(4, .int 6), (3, .int (-1)), (0, .ref o_t), (1, .ref o_p1), (2, .int x2)]) C.hx C.hb dX0_fewestCuts_4 hl (by decide) rfl (fun ls hl => ?_)
  refine lv_iconst (v := 0) C.hx C.hb dX0_fewestCuts_6 (by decide) ?_
  refine lv_istore (lv' := [(5, .int 0), (4, .int 6), (3, .int (-1)), (0, .ref o_t), (1, .ref o_p1), (2, .int x2)]) C.hx C.hb dX0_fewestCuts_7 hl (by decide) rfl (fun ls hl => ?_)
  exact l_X0_fewestCuts_9 C N hf h (lv_sub hl [3, 4, 5, 2, 1, 0] rfl)

def b_X0_findCodes_76 (N : Nat) (g54 : US → US → US → Int32 → Int32 → Option (US × US)) (g76 : US → US → US → Int32 → Int32 → Int32 → Int32 → Option (US × US)) (v_t : US) (v_p1 : US) (v_t_swing : US) (y2 : Int32) (y3 : Int32) (y4 : Int32) (y5 : Int32) : Option (US × US) :=
  if (v_t.1 1) ≤ y5 then (g54 v_t v_p1 v_t_swing y2 (y3 + 1)) else ((f_X0_behind v_t y5 y4).bind fun zr2 => if zr2 < 0 ∨ 32 ≤ zr2.toNatClampNeg then none else (if ((v_t.2.2 8) zr2.toNatClampNeg) = (-1) then (if y2 < 32 then (if y4 < 0 ∨ 32 ≤ y4.toNatClampNeg then none else (if zr2 < 0 ∨ 32 ≤ zr2.toNatClampNeg then none else (bnd (upa v_t 8 zr2.toNatClampNeg (((v_t.2.2 8) y4.toNatClampNeg) + 1)) fun zw10 => if zr2 < 0 ∨ 32 ≤ zr2.toNatClampNeg then none else (bnd (upa zw10 9 zr2.toNatClampNeg y4) fun zw12 => if zr2 < 0 ∨ 32 ≤ zr2.toNatClampNeg then none else (bnd (upa zw12 10 zr2.toNatClampNeg y5) fun zw14 => if y2 < 0 ∨ 32 ≤ y2.toNatClampNeg then none else (g76 (upa zw14 11 y2.toNatClampNeg zr2) v_p1 v_t_swing (y2 + 1) y3 y4 (y5 + 1))))))) else (g76 v_t v_p1 v_t_swing y2 y3 y4 (y5 + 1))) else (g76 v_t v_p1 v_t_swing y2 y3 y4 (y5 + 1))))
def f_X0_findCodes_76 (N : Nat) (g54 : US → US → US → Int32 → Int32 → Option (US × US)) : Nat → US → US → US → Int32 → Int32 → Int32 → Int32 → Option (US × US)
  | 0 => fun _ _ _ _ _ _ _ => none
  | k + 1 => fun q0 q1 q2 q3 q4 q5 q6 => b_X0_findCodes_76 N g54 (f_X0_findCodes_76 N g54 k) q0 q1 q2 q3 q4 q5 q6
def b_X0_findCodes_54 (N : Nat) (g54 : US → US → US → Int32 → Int32 → Option (US × US)) (v_t : US) (v_p1 : US) (v_t_swing : US) (y2 : Int32) (y3 : Int32) : Option (US × US) :=
  if y2 ≤ y3 then (some (v_t, v_t_swing)) else (if 32 ≤ y3 then (some (v_t, v_t_swing)) else (if y3 < 0 ∨ 32 ≤ y3.toNatClampNeg then none else (f_X0_findCodes_76 N g54 N v_t v_p1 v_t_swing y2 y3 ((v_t.2.2 11) y3.toNatClampNeg) 0)))
def f_X0_findCodes_54 (N : Nat)  : Nat → US → US → US → Int32 → Int32 → Option (US × US)
  | 0 => fun _ _ _ _ _ => none
  | k + 1 => fun q0 q1 q2 q3 q4 => b_X0_findCodes_54 N  (f_X0_findCodes_54 N  k) q0 q1 q2 q3 q4
def b_X0_findCodes_11 (N : Nat) (g11 : US → US → US → Int32 → Option (US × US)) (v_t : US) (v_p1 : US) (v_t_swing : US) (y2 : Int32) : Option (US × US) :=
  if 32 ≤ y2 then (if (v_p1.1 7) < 0 ∨ 32 ≤ (v_p1.1 7).toNatClampNeg then none else (bnd (upa v_t 8 ((v_p1.1 7).toNatClampNeg) 0) fun zw3 => if (0 : Int32) < 0 ∨ 32 ≤ (0 : Int32).toNatClampNeg then none else (f_X0_findCodes_54 N N (upa zw3 11 ((0 : Int32).toNatClampNeg) (v_p1.1 7)) v_p1 v_t_swing 1 0))) else (if y2 < 0 ∨ 32 ≤ y2.toNatClampNeg then none else (g11 (upa v_t 8 y2.toNatClampNeg (-1)) v_p1 v_t_swing (y2 + 1)))
def f_X0_findCodes_11 (N : Nat)  : Nat → US → US → US → Int32 → Option (US × US)
  | 0 => fun _ _ _ _ => none
  | k + 1 => fun q0 q1 q2 q3 => b_X0_findCodes_11 N  (f_X0_findCodes_11 N  k) q0 q1 q2 q3
def f_X0_findCodes (N : Nat) (v_t : US) (v_p1 : US) (v_t_swing : US)  : Option (US × US) :=
  (f_X0_look N v_t v_p1 v_t_swing (v_p1.1 5)).bind fun zr1 => f_X0_findCodes_11 N N zr1.1 v_p1 zr1.2 0
set_option maxRecDepth 100000 in
set_option maxHeartbeats 4000000 in
theorem w_X0_findCodes_76 {p : Program} {l : Launch} {e : Env} {s : State} {m : MethodId} {args : Array Value} {below : List Frame} {meth : Method} {c : Code} {G : GG} {A : Nat → Prop} {o_t o_p1 : Nat} {a_p1 a_t a_t_swing a_t_swing_kinds : Nat → Nat} {N : Nat} {g54 : US → US → US → Int32 → Int32 → Option (US × US)} {g76 : US → US → US → Int32 → Int32 → Int32 → Int32 → Option (US × US)} {v_t : US} {v_p1 : US} {v_t_swing : US} {y2 : Int32} {y3 : Int32} {y4 : Int32} {y5 : Int32} {res : US × US} (C : MC RX0 cX0_findCodes 7 none G A p s m args meth c) (hg54 : ∀ {v_t : US} {v_p1 : US} {v_t_swing : US} {y2 : Int32} {y3 : Int32}, g54 v_t v_p1 v_t_swing y2 y3 = some res → ∀ {H : Heap} {locs : List Loc} {ls : Array Slot}, HP G A s [uX0 G o_t a_t v_t, uX9 G o_p1 a_p1 v_p1, uX8 G (a_t 0) a_t_swing v_t_swing, uX2 G (a_t_swing 0) a_t_swing_kinds] H locs → lv_has ls 7 [(0, .ref o_t), (2, .int y2), (3, .int y3)] → W p l e (rmm 6) s m args below meth c H locs 0 0 (QV below G A args s  [uX0 G o_t a_t res.1, uX9 G o_p1 a_p1 v_p1, uX8 G (a_t 0) a_t_swing res.2, uX2 G (a_t_swing 0) a_t_swing_kinds]) (F0 m 54 ls [])) (hg76 : ∀ {v_t : US} {v_p1 : US} {v_t_swing : US} {y2 : Int32} {y3 : Int32} {y4 : Int32} {y5 : Int32}, g76 v_t v_p1 v_t_swing y2 y3 y4 y5 = some res → ∀ {H : Heap} {locs : List Loc} {ls : Array Slot}, HP G A s [uX0 G o_t a_t v_t, uX9 G o_p1 a_p1 v_p1, uX8 G (a_t 0) a_t_swing v_t_swing, uX2 G (a_t_swing 0) a_t_swing_kinds] H locs → lv_has ls 7 [(0, .ref o_t), (2, .int y2), (3, .int y3), (4, .int y4), (5, .int y5)] → W p l e (rmm 6) s m args below meth c H locs 0 0 (QV below G A args s  [uX0 G o_t a_t res.1, uX9 G o_p1 a_p1 v_p1, uX8 G (a_t 0) a_t_swing res.2, uX2 G (a_t_swing 0) a_t_swing_kinds]) (F0 m 76 ls [])) (hf : b_X0_findCodes_76 N g54 g76 v_t v_p1 v_t_swing y2 y3 y4 y5 = some res) {H : Heap} {locs : List Loc} {ls : Array Slot} (h : HP G A s [uX0 G o_t a_t v_t, uX9 G o_p1 a_p1 v_p1, uX8 G (a_t 0) a_t_swing v_t_swing, uX2 G (a_t_swing 0) a_t_swing_kinds] H locs) (hl : lv_has ls 7 [(0, .ref o_t), (2, .int y2), (3, .int y3), (4, .int y4), (5, .int y5)]) : W p l e (rmm 6) s m args below meth c H locs 0 0 (QV below G A args s  [uX0 G o_t a_t res.1, uX9 G o_p1 a_p1 v_p1, uX8 G (a_t 0) a_t_swing res.2, uX2 G (a_t_swing 0) a_t_swing_kinds]) (F0 m 76 ls []) := by
  unfold b_X0_findCodes_76 at hf
  refine lv_iload C.hx C.hb dX0_findCodes_76 (lv_at hl 4 rfl) ?_
  refine lv_aload_n C.hx C.hb dX0_findCodes_78 rfl (lv_at hl 0 rfl) ?_
  refine g_get C h fl_X0_9 0 0 rfl rfl (v := .int (v_t.1 1)) rfl dX0_findCodes_79 ?_
  refine lv_icmp_ge (tgt := 166) C.hx C.hb dX0_findCodes_82 (by decide) (fun zc1 => ?_) (fun zc1 => ?_)
  · replace hf := it_t zc1 hf
    refine lv_iinc (v := y3 + 1) (lv' := [(3, .int (y3 + 1)), (0, .ref o_t), (2, .int y2), (4, .int y4), (5, .int y5)]) C.hx C.hb dX0_findCodes_166 hl (k := 2) rfl rfl (by decide) rfl (fun ls hl => ?_)
    refine lv_goto (tgt := 54) C.hx C.hb dX0_findCodes_169 (by decide) ?_
    exact hg54 hf h (lv_sub hl [1, 2, 0] rfl)
  · replace hf := it_f zc1 hf
    refine lv_aload_n C.hx C.hb dX0_findCodes_85 rfl (lv_at hl 0 rfl) ?_
    refine lv_iload C.hx C.hb dX0_findCodes_86 (lv_at hl 4 rfl) ?_
    refine lv_iload C.hx C.hb dX0_findCodes_88 (lv_at hl 3 rfl) ?_
    obtain ⟨zr2, zq3, hf⟩ := bd_some hf
    have zm4 := c_X0_behind l G o_t a_t (hf := zq3)
    refine g_goI C h zm4.1 (is := [0]) rfl rfl (g_runV C h (is := [0]) rfl rfl (As := [.int y5, .int y4]) (rest := []) (zm4.2 _) vf_X0_109 0 0 rfl rfl hl.1 rfl rfl (Nat.le_of_ble_eq_true rfl) dX0_findCodes_90 ⟨Nat.le_of_ble_eq_true rfl, Nat.le_of_ble_eq_true rfl⟩ ⟨Nat.le_refl _, Nat.le_refl _⟩) (us2 := [uX0 G o_t a_t v_t, uX9 G o_p1 a_p1 v_p1, uX8 G (a_t 0) a_t_swing v_t_swing, uX2 G (a_t_swing 0) a_t_swing_kinds]) rfl (fun H locs h => ?_)
    refine lv_istore (lv' := [(6, .int zr2), (0, .ref o_t), (2, .int y2), (3, .int y3), (4, .int y4), (5, .int y5)]) C.hx C.hb dX0_findCodes_93 hl (by decide) rfl (fun ls hl => ?_)
    refine lv_aload_n C.hx C.hb dX0_findCodes_95 rfl (lv_at hl 1 rfl) ?_
    refine g_get C h fl_X0_34 0 0 rfl rfl (v := .ref (a_t 8)) rfl dX0_findCodes_96 ?_
    refine lv_iload C.hx C.hb dX0_findCodes_99 (lv_at hl 0 rfl) ?_
    obtain ⟨zi5, hf⟩ := ck_some hf
    refine g_iald C h 0 6 rfl rfl (f := v_t.2.2 8) zi5 dX0_findCodes_101 ?_
    refine lv_iconst (v := (-1)) C.hx C.hb dX0_findCodes_102 (by decide) ?_
    refine lv_icmp_ne (tgt := 160) C.hx C.hb dX0_findCodes_103 (by decide) (fun zc6 => ?_) (fun zc6 => ?_)
    · replace hf := it_f zc6 hf
      refine lv_iinc (v := y5 + 1) (lv' := [(5, .int (y5 + 1)), (6, .int zr2), (0, .ref o_t), (2, .int y2), (3, .int y3), (4, .int y4)]) C.hx C.hb dX0_findCodes_160 hl (k := 5) rfl rfl (by decide) rfl (fun ls hl => ?_)
      refine lv_goto (tgt := 76) C.hx C.hb dX0_findCodes_163 (by decide) ?_
      exact hg76 hf h (lv_sub hl [2, 3, 4, 5, 0] rfl)
    · replace hf := it_t zc6 hf
      refine lv_iload_n C.hx C.hb dX0_findCodes_106 rfl (lv_at hl 2 rfl) ?_
      refine lv_bipush (v := 32) C.hx C.hb dX0_findCodes_107 (by decide) ?_
      refine lv_icmp_lt (tgt := 115) C.hx C.hb dX0_findCodes_109 (by decide) (fun zc7 => ?_) (fun zc7 => ?_)
      · replace hf := it_t zc7 hf
        refine lv_aload_n C.hx C.hb dX0_findCodes_115 rfl (lv_at hl 1 rfl) ?_
        refine g_get C h fl_X0_34 0 0 rfl rfl (v := .ref (a_t 8)) rfl dX0_findCodes_116 ?_
        refine lv_iload C.hx C.hb dX0_findCodes_119 (lv_at hl 0 rfl) ?_
        refine lv_aload_n C.hx C.hb dX0_findCodes_121 rfl (lv_at hl 1 rfl) ?_
        refine g_get C h fl_X0_34 0 0 rfl rfl (v := .ref (a_t 8)) rfl dX0_findCodes_122 ?_
        refine lv_iload C.hx C.hb dX0_findCodes_125 (lv_at hl 4 rfl) ?_
        obtain ⟨zi8, hf⟩ := ck_some hf
        refine g_iald C h 0 6 rfl rfl (f := v_t.2.2 8) zi8 dX0_findCodes_127 ?_
        refine lv_iconst (v := 1) C.hx C.hb dX0_findCodes_128 (by decide) ?_
        refine lv_iadd C.hx C.hb dX0_findCodes_129 ?_
        obtain ⟨zi9, hf⟩ := ck_some hf
        refine g_iast C h 0 6 rfl rfl (f := v_t.2.2 8) zi9 dX0_findCodes_130 (u' := uX0 G o_t a_t (upa v_t 8 zr2.toNatClampNeg (((v_t.2.2 8) y4.toNatClampNeg) + 1))) (us' := [uX0 G o_t a_t (upa v_t 8 zr2.toNatClampNeg (((v_t.2.2 8) y4.toNatClampNeg) + 1)), uX9 G o_p1 a_p1 v_p1, uX8 G (a_t 0) a_t_swing v_t_swing, uX2 G (a_t_swing 0) a_t_swing_kinds]) rfl rfl (fun H locs h => ?_)
        refine lv_aload_n C.hx C.hb dX0_findCodes_131 rfl (lv_at hl 1 rfl) ?_
        refine g_get C h fl_X0_37 0 0 rfl rfl (v := .ref (a_t 9)) rfl dX0_findCodes_132 ?_
        refine lv_iload C.hx C.hb dX0_findCodes_135 (lv_at hl 0 rfl) ?_
        refine lv_iload C.hx C.hb dX0_findCodes_137 (lv_at hl 4 rfl) ?_
        obtain ⟨zw10, hzw10, hf⟩ := bnd_some hf
        rw [← hzw10] at h
        obtain ⟨zi11, hf⟩ := ck_some hf
        refine g_iast C h 0 7 rfl rfl (f := zw10.2.2 9) zi11 dX0_findCodes_139 (u' := uX0 G o_t a_t (upa zw10 9 zr2.toNatClampNeg y4)) (us' := [uX0 G o_t a_t (upa zw10 9 zr2.toNatClampNeg y4), uX9 G o_p1 a_p1 v_p1, uX8 G (a_t 0) a_t_swing v_t_swing, uX2 G (a_t_swing 0) a_t_swing_kinds]) rfl rfl (fun H locs h => ?_)
        refine lv_aload_n C.hx C.hb dX0_findCodes_140 rfl (lv_at hl 1 rfl) ?_
        refine g_get C h fl_X0_40 0 0 rfl rfl (v := .ref (a_t 10)) rfl dX0_findCodes_141 ?_
        refine lv_iload C.hx C.hb dX0_findCodes_144 (lv_at hl 0 rfl) ?_
        refine lv_iload C.hx C.hb dX0_findCodes_146 (lv_at hl 5 rfl) ?_
        obtain ⟨zw12, hzw12, hf⟩ := bnd_some hf
        rw [← hzw12] at h
        obtain ⟨zi13, hf⟩ := ck_some hf
        refine g_iast C h 0 8 rfl rfl (f := zw12.2.2 10) zi13 dX0_findCodes_148 (u' := uX0 G o_t a_t (upa zw12 10 zr2.toNatClampNeg y5)) (us' := [uX0 G o_t a_t (upa zw12 10 zr2.toNatClampNeg y5), uX9 G o_p1 a_p1 v_p1, uX8 G (a_t 0) a_t_swing v_t_swing, uX2 G (a_t_swing 0) a_t_swing_kinds]) rfl rfl (fun H locs h => ?_)
        refine lv_aload_n C.hx C.hb dX0_findCodes_149 rfl (lv_at hl 1 rfl) ?_
        refine g_get C h fl_X0_43 0 0 rfl rfl (v := .ref (a_t 11)) rfl dX0_findCodes_150 ?_
        refine lv_iload_n C.hx C.hb dX0_findCodes_153 rfl (lv_at hl 2 rfl) ?_
        refine lv_iload C.hx C.hb dX0_findCodes_154 (lv_at hl 0 rfl) ?_
        obtain ⟨zw14, hzw14, hf⟩ := bnd_some hf
        rw [← hzw14] at h
        obtain ⟨zi15, hf⟩ := ck_some hf
        refine g_iast C h 0 9 rfl rfl (f := zw14.2.2 11) zi15 dX0_findCodes_156 (u' := uX0 G o_t a_t (upa zw14 11 y2.toNatClampNeg zr2)) (us' := [uX0 G o_t a_t (upa zw14 11 y2.toNatClampNeg zr2), uX9 G o_p1 a_p1 v_p1, uX8 G (a_t 0) a_t_swing v_t_swing, uX2 G (a_t_swing 0) a_t_swing_kinds]) rfl rfl (fun H locs h => ?_)
        refine lv_iinc (v := y2 + 1) (lv' := [(2, .int (y2 + 1)), (6, .int zr2), (0, .ref o_t), (3, .int y3), (4, .int y4), (5, .int y5)]) C.hx C.hb dX0_findCodes_157 hl (k := 2) rfl rfl (by decide) rfl (fun ls hl => ?_)
        refine lv_iinc (v := y5 + 1) (lv' := [(5, .int (y5 + 1)), (2, .int (y2 + 1)), (6, .int zr2), (0, .ref o_t), (3, .int y3), (4, .int y4)]) C.hx C.hb dX0_findCodes_160 hl (k := 5) rfl rfl (by decide) rfl (fun ls hl => ?_)
        refine lv_goto (tgt := 76) C.hx C.hb dX0_findCodes_163 (by decide) ?_
        exact hg76 hf h (lv_sub hl [3, 1, 4, 5, 0] rfl)
      · replace hf := it_f zc7 hf
        refine lv_goto (tgt := 160) C.hx C.hb dX0_findCodes_112 (by decide) ?_
        refine lv_iinc (v := y5 + 1) (lv' := [(5, .int (y5 + 1)), (6, .int zr2), (0, .ref o_t), (2, .int y2), (3, .int y3), (4, .int y4)]) C.hx C.hb dX0_findCodes_160 hl (k := 5) rfl rfl (by decide) rfl (fun ls hl => ?_)
        refine lv_goto (tgt := 76) C.hx C.hb dX0_findCodes_163 (by decide) ?_
        exact hg76 hf h (lv_sub hl [2, 3, 4, 5, 0] rfl)
set_option maxRecDepth 100000 in
set_option maxHeartbeats 4000000 in
theorem l_X0_findCodes_76 {p : Program} {l : Launch} {e : Env} {s : State} {m : MethodId} {args : Array Value} {below : List Frame} {meth : Method} {c : Code} {G : GG} {A : Nat → Prop} {o_t o_p1 : Nat} {a_p1 a_t a_t_swing a_t_swing_kinds : Nat → Nat} {N : Nat} {g54 : US → US → US → Int32 → Int32 → Option (US × US)} {res : US × US} (C : MC RX0 cX0_findCodes 7 none G A p s m args meth c) (hg54 : ∀ {v_t : US} {v_p1 : US} {v_t_swing : US} {y2 : Int32} {y3 : Int32}, g54 v_t v_p1 v_t_swing y2 y3 = some res → ∀ {H : Heap} {locs : List Loc} {ls : Array Slot}, HP G A s [uX0 G o_t a_t v_t, uX9 G o_p1 a_p1 v_p1, uX8 G (a_t 0) a_t_swing v_t_swing, uX2 G (a_t_swing 0) a_t_swing_kinds] H locs → lv_has ls 7 [(0, .ref o_t), (2, .int y2), (3, .int y3)] → W p l e (rmm 6) s m args below meth c H locs 0 0 (QV below G A args s  [uX0 G o_t a_t res.1, uX9 G o_p1 a_p1 v_p1, uX8 G (a_t 0) a_t_swing res.2, uX2 G (a_t_swing 0) a_t_swing_kinds]) (F0 m 54 ls [])) : ∀ (k : Nat) {v_t : US} {v_p1 : US} {v_t_swing : US} {y2 : Int32} {y3 : Int32} {y4 : Int32} {y5 : Int32}, f_X0_findCodes_76 N g54 k v_t v_p1 v_t_swing y2 y3 y4 y5 = some res → ∀ {H : Heap} {locs : List Loc} {ls : Array Slot}, HP G A s [uX0 G o_t a_t v_t, uX9 G o_p1 a_p1 v_p1, uX8 G (a_t 0) a_t_swing v_t_swing, uX2 G (a_t_swing 0) a_t_swing_kinds] H locs → lv_has ls 7 [(0, .ref o_t), (2, .int y2), (3, .int y3), (4, .int y4), (5, .int y5)] → W p l e (rmm 6) s m args below meth c H locs 0 0 (QV below G A args s  [uX0 G o_t a_t res.1, uX9 G o_p1 a_p1 v_p1, uX8 G (a_t 0) a_t_swing res.2, uX2 G (a_t_swing 0) a_t_swing_kinds]) (F0 m 76 ls []) := by
  intro k
  induction k with
  | zero => intros; contradiction
  | succ k ih =>
    intro v_t v_p1 v_t_swing y2 y3 y4 y5 hf H locs ls h hl
    exact w_X0_findCodes_76 (N := N) C hg54 ih hf h hl
set_option maxRecDepth 100000 in
set_option maxHeartbeats 4000000 in
theorem w_X0_findCodes_54 {p : Program} {l : Launch} {e : Env} {s : State} {m : MethodId} {args : Array Value} {below : List Frame} {meth : Method} {c : Code} {G : GG} {A : Nat → Prop} {o_t o_p1 : Nat} {a_p1 a_t a_t_swing a_t_swing_kinds : Nat → Nat} {N : Nat} {g54 : US → US → US → Int32 → Int32 → Option (US × US)} {v_t : US} {v_p1 : US} {v_t_swing : US} {y2 : Int32} {y3 : Int32} {res : US × US} (C : MC RX0 cX0_findCodes 7 none G A p s m args meth c) (hg54 : ∀ {v_t : US} {v_p1 : US} {v_t_swing : US} {y2 : Int32} {y3 : Int32}, g54 v_t v_p1 v_t_swing y2 y3 = some res → ∀ {H : Heap} {locs : List Loc} {ls : Array Slot}, HP G A s [uX0 G o_t a_t v_t, uX9 G o_p1 a_p1 v_p1, uX8 G (a_t 0) a_t_swing v_t_swing, uX2 G (a_t_swing 0) a_t_swing_kinds] H locs → lv_has ls 7 [(0, .ref o_t), (2, .int y2), (3, .int y3)] → W p l e (rmm 6) s m args below meth c H locs 0 0 (QV below G A args s  [uX0 G o_t a_t res.1, uX9 G o_p1 a_p1 v_p1, uX8 G (a_t 0) a_t_swing res.2, uX2 G (a_t_swing 0) a_t_swing_kinds]) (F0 m 54 ls [])) (hf : b_X0_findCodes_54 N g54 v_t v_p1 v_t_swing y2 y3 = some res) {H : Heap} {locs : List Loc} {ls : Array Slot} (h : HP G A s [uX0 G o_t a_t v_t, uX9 G o_p1 a_p1 v_p1, uX8 G (a_t 0) a_t_swing v_t_swing, uX2 G (a_t_swing 0) a_t_swing_kinds] H locs) (hl : lv_has ls 7 [(0, .ref o_t), (2, .int y2), (3, .int y3)]) : W p l e (rmm 6) s m args below meth c H locs 0 0 (QV below G A args s  [uX0 G o_t a_t res.1, uX9 G o_p1 a_p1 v_p1, uX8 G (a_t 0) a_t_swing res.2, uX2 G (a_t_swing 0) a_t_swing_kinds]) (F0 m 54 ls []) := by
  unfold b_X0_findCodes_54 at hf
  refine lv_iload_n C.hx C.hb dX0_findCodes_54 rfl (lv_at hl 2 rfl) ?_
  refine lv_iload_n C.hx C.hb dX0_findCodes_55 rfl (lv_at hl 1 rfl) ?_
  refine lv_icmp_ge (tgt := 172) C.hx C.hb dX0_findCodes_56 (by decide) (fun zc1 => ?_) (fun zc1 => ?_)
  · replace hf := it_t zc1 hf
    obtain rfl := Option.some.inj hf
    exact g_ret_v C h rfl dX0_findCodes_172
  · replace hf := it_f zc1 hf
    refine lv_iload_n C.hx C.hb dX0_findCodes_59 rfl (lv_at hl 2 rfl) ?_
    refine lv_bipush (v := 32) C.hx C.hb dX0_findCodes_60 (by decide) ?_
    refine lv_icmp_ge (tgt := 172) C.hx C.hb dX0_findCodes_62 (by decide) (fun zc2 => ?_) (fun zc2 => ?_)
    · replace hf := it_t zc2 hf
      obtain rfl := Option.some.inj hf
      exact g_ret_v C h rfl dX0_findCodes_172
    · replace hf := it_f zc2 hf
      refine lv_aload_n C.hx C.hb dX0_findCodes_65 rfl (lv_at hl 0 rfl) ?_
      refine g_get C h fl_X0_43 0 0 rfl rfl (v := .ref (a_t 11)) rfl dX0_findCodes_66 ?_
      refine lv_iload_n C.hx C.hb dX0_findCodes_69 rfl (lv_at hl 2 rfl) ?_
      obtain ⟨zi3, hf⟩ := ck_some hf
      refine g_iald C h 0 9 rfl rfl (f := v_t.2.2 11) zi3 dX0_findCodes_70 ?_
      refine lv_istore (lv' := [(4, .int ((v_t.2.2 11) y3.toNatClampNeg)), (0, .ref o_t), (2, .int y2), (3, .int y3)]) C.hx C.hb dX0_findCodes_71 hl (by decide) rfl (fun ls hl => ?_)
      refine lv_iconst (v := 0) C.hx C.hb dX0_findCodes_73 (by decide) ?_
      refine lv_istore (lv' := [(5, .int 0), (4, .int ((v_t.2.2 11) y3.toNatClampNeg)), (0, .ref o_t), (2, .int y2), (3, .int y3)]) C.hx C.hb dX0_findCodes_74 hl (by decide) rfl (fun ls hl => ?_)
      exact l_X0_findCodes_76 C hg54 N hf h (lv_sub hl [2, 3, 4, 1, 0] rfl)
set_option maxRecDepth 100000 in
set_option maxHeartbeats 4000000 in
theorem l_X0_findCodes_54 {p : Program} {l : Launch} {e : Env} {s : State} {m : MethodId} {args : Array Value} {below : List Frame} {meth : Method} {c : Code} {G : GG} {A : Nat → Prop} {o_t o_p1 : Nat} {a_p1 a_t a_t_swing a_t_swing_kinds : Nat → Nat} {N : Nat}  {res : US × US} (C : MC RX0 cX0_findCodes 7 none G A p s m args meth c)  : ∀ (k : Nat) {v_t : US} {v_p1 : US} {v_t_swing : US} {y2 : Int32} {y3 : Int32}, f_X0_findCodes_54 N k v_t v_p1 v_t_swing y2 y3 = some res → ∀ {H : Heap} {locs : List Loc} {ls : Array Slot}, HP G A s [uX0 G o_t a_t v_t, uX9 G o_p1 a_p1 v_p1, uX8 G (a_t 0) a_t_swing v_t_swing, uX2 G (a_t_swing 0) a_t_swing_kinds] H locs → lv_has ls 7 [(0, .ref o_t), (2, .int y2), (3, .int y3)] → W p l e (rmm 6) s m args below meth c H locs 0 0 (QV below G A args s  [uX0 G o_t a_t res.1, uX9 G o_p1 a_p1 v_p1, uX8 G (a_t 0) a_t_swing res.2, uX2 G (a_t_swing 0) a_t_swing_kinds]) (F0 m 54 ls []) := by
  intro k
  induction k with
  | zero => intros; contradiction
  | succ k ih =>
    intro v_t v_p1 v_t_swing y2 y3 hf H locs ls h hl
    exact w_X0_findCodes_54 (N := N) C ih hf h hl
set_option maxRecDepth 100000 in
set_option maxHeartbeats 4000000 in
theorem w_X0_findCodes_11 {p : Program} {l : Launch} {e : Env} {s : State} {m : MethodId} {args : Array Value} {below : List Frame} {meth : Method} {c : Code} {G : GG} {A : Nat → Prop} {o_t o_p1 : Nat} {a_p1 a_t a_t_swing a_t_swing_kinds : Nat → Nat} {N : Nat} {g11 : US → US → US → Int32 → Option (US × US)} {v_t : US} {v_p1 : US} {v_t_swing : US} {y2 : Int32} {res : US × US} (C : MC RX0 cX0_findCodes 7 none G A p s m args meth c) (hg11 : ∀ {v_t : US} {v_p1 : US} {v_t_swing : US} {y2 : Int32}, g11 v_t v_p1 v_t_swing y2 = some res → ∀ {H : Heap} {locs : List Loc} {ls : Array Slot}, HP G A s [uX0 G o_t a_t v_t, uX9 G o_p1 a_p1 v_p1, uX8 G (a_t 0) a_t_swing v_t_swing, uX2 G (a_t_swing 0) a_t_swing_kinds] H locs → lv_has ls 7 [(0, .ref o_t), (1, .ref o_p1), (2, .int y2)] → W p l e (rmm 6) s m args below meth c H locs 0 0 (QV below G A args s  [uX0 G o_t a_t res.1, uX9 G o_p1 a_p1 v_p1, uX8 G (a_t 0) a_t_swing res.2, uX2 G (a_t_swing 0) a_t_swing_kinds]) (F0 m 11 ls [])) (hf : b_X0_findCodes_11 N g11 v_t v_p1 v_t_swing y2 = some res) {H : Heap} {locs : List Loc} {ls : Array Slot} (h : HP G A s [uX0 G o_t a_t v_t, uX9 G o_p1 a_p1 v_p1, uX8 G (a_t 0) a_t_swing v_t_swing, uX2 G (a_t_swing 0) a_t_swing_kinds] H locs) (hl : lv_has ls 7 [(0, .ref o_t), (1, .ref o_p1), (2, .int y2)]) : W p l e (rmm 6) s m args below meth c H locs 0 0 (QV below G A args s  [uX0 G o_t a_t res.1, uX9 G o_p1 a_p1 v_p1, uX8 G (a_t 0) a_t_swing res.2, uX2 G (a_t_swing 0) a_t_swing_kinds]) (F0 m 11 ls []) := by
  unfold b_X0_findCodes_11 at hf
  refine lv_iload_n C.hx C.hb dX0_findCodes_11 rfl (lv_at hl 2 rfl) ?_
  refine lv_bipush (v := 32) C.hx C.hb dX0_findCodes_12 (by decide) ?_
  refine lv_icmp_ge (tgt := 30) C.hx C.hb dX0_findCodes_14 (by decide) (fun zc1 => ?_) (fun zc1 => ?_)
  · replace hf := it_t zc1 hf
    refine lv_aload_n C.hx C.hb dX0_findCodes_30 rfl (lv_at hl 0 rfl) ?_
    refine g_get C h fl_X0_34 0 0 rfl rfl (v := .ref (a_t 8)) rfl dX0_findCodes_31 ?_
    refine lv_aload_n C.hx C.hb dX0_findCodes_34 rfl (lv_at hl 1 rfl) ?_
    refine g_get C h fl_X0_92 1 0 rfl rfl (v := .int (v_p1.1 7)) rfl dX0_findCodes_35 ?_
    refine lv_iconst (v := 0) C.hx C.hb dX0_findCodes_38 (by decide) ?_
    obtain ⟨zi2, hf⟩ := ck_some hf
    refine g_iast C h 0 6 rfl rfl (f := v_t.2.2 8) zi2 dX0_findCodes_39 (u' := uX0 G o_t a_t (upa v_t 8 ((v_p1.1 7).toNatClampNeg) 0)) (us' := [uX0 G o_t a_t (upa v_t 8 ((v_p1.1 7).toNatClampNeg) 0), uX9 G o_p1 a_p1 v_p1, uX8 G (a_t 0) a_t_swing v_t_swing, uX2 G (a_t_swing 0) a_t_swing_kinds]) rfl rfl (fun H locs h => ?_)
    refine lv_aload_n C.hx C.hb dX0_findCodes_40 rfl (lv_at hl 0 rfl) ?_
    refine g_get C h fl_X0_43 0 0 rfl rfl (v := .ref (a_t 11)) rfl dX0_findCodes_41 ?_
    refine lv_iconst (v := 0) C.hx C.hb dX0_findCodes_44 (by decide) ?_
    refine lv_aload_n C.hx C.hb dX0_findCodes_45 rfl (lv_at hl 1 rfl) ?_
    refine g_get C h fl_X0_92 1 0 rfl rfl (v := .int (v_p1.1 7)) rfl dX0_findCodes_46 ?_
    obtain ⟨zw3, hzw3, hf⟩ := bnd_some hf
    rw [← hzw3] at h
    obtain ⟨zi4, hf⟩ := ck_some hf
    refine g_iast C h 0 9 rfl rfl (f := zw3.2.2 11) zi4 dX0_findCodes_49 (u' := uX0 G o_t a_t (upa zw3 11 ((0 : Int32).toNatClampNeg) (v_p1.1 7))) (us' := [uX0 G o_t a_t (upa zw3 11 ((0 : Int32).toNatClampNeg) (v_p1.1 7)), uX9 G o_p1 a_p1 v_p1, uX8 G (a_t 0) a_t_swing v_t_swing, uX2 G (a_t_swing 0) a_t_swing_kinds]) rfl rfl (fun H locs h => ?_)
    refine lv_iconst (v := 1) C.hx C.hb dX0_findCodes_50 (by decide) ?_
    refine lv_istore_n (lv' := [(2, .int 1), (0, .ref o_t), (1, .ref o_p1)]) C.hx C.hb dX0_findCodes_51 rfl hl (by decide) rfl (fun ls hl => ?_)
    refine lv_iconst (v := 0) C.hx C.hb dX0_findCodes_52 (by decide) ?_
    refine lv_istore_n (lv' := [(3, .int 0), (2, .int 1), (0, .ref o_t), (1, .ref o_p1)]) C.hx C.hb dX0_findCodes_53 rfl hl (by decide) rfl (fun ls hl => ?_)
    exact l_X0_findCodes_54 C N hf h (lv_sub hl [2, 1, 0] rfl)
  · replace hf := it_f zc1 hf
    refine lv_aload_n C.hx C.hb dX0_findCodes_17 rfl (lv_at hl 0 rfl) ?_
    refine g_get C h fl_X0_34 0 0 rfl rfl (v := .ref (a_t 8)) rfl dX0_findCodes_18 ?_
    refine lv_iload_n C.hx C.hb dX0_findCodes_21 rfl (lv_at hl 2 rfl) ?_
    refine lv_iconst (v := (-1)) C.hx C.hb dX0_findCodes_22 (by decide) ?_
    obtain ⟨zi5, hf⟩ := ck_some hf
    refine g_iast C h 0 6 rfl rfl (f := v_t.2.2 8) zi5 dX0_findCodes_23 (u' := uX0 G o_t a_t (upa v_t 8 y2.toNatClampNeg (-1))) (us' := [uX0 G o_t a_t (upa v_t 8 y2.toNatClampNeg (-1)), uX9 G o_p1 a_p1 v_p1, uX8 G (a_t 0) a_t_swing v_t_swing, uX2 G (a_t_swing 0) a_t_swing_kinds]) rfl rfl (fun H locs h => ?_)
    refine lv_iinc (v := y2 + 1) (lv' := [(2, .int (y2 + 1)), (0, .ref o_t), (1, .ref o_p1)]) C.hx C.hb dX0_findCodes_24 hl (k := 2) rfl rfl (by decide) rfl (fun ls hl => ?_)
    refine lv_goto (tgt := 11) C.hx C.hb dX0_findCodes_27 (by decide) ?_
    exact hg11 hf h (lv_sub hl [1, 2, 0] rfl)
set_option maxRecDepth 100000 in
set_option maxHeartbeats 4000000 in
theorem l_X0_findCodes_11 {p : Program} {l : Launch} {e : Env} {s : State} {m : MethodId} {args : Array Value} {below : List Frame} {meth : Method} {c : Code} {G : GG} {A : Nat → Prop} {o_t o_p1 : Nat} {a_p1 a_t a_t_swing a_t_swing_kinds : Nat → Nat} {N : Nat}  {res : US × US} (C : MC RX0 cX0_findCodes 7 none G A p s m args meth c)  : ∀ (k : Nat) {v_t : US} {v_p1 : US} {v_t_swing : US} {y2 : Int32}, f_X0_findCodes_11 N k v_t v_p1 v_t_swing y2 = some res → ∀ {H : Heap} {locs : List Loc} {ls : Array Slot}, HP G A s [uX0 G o_t a_t v_t, uX9 G o_p1 a_p1 v_p1, uX8 G (a_t 0) a_t_swing v_t_swing, uX2 G (a_t_swing 0) a_t_swing_kinds] H locs → lv_has ls 7 [(0, .ref o_t), (1, .ref o_p1), (2, .int y2)] → W p l e (rmm 6) s m args below meth c H locs 0 0 (QV below G A args s  [uX0 G o_t a_t res.1, uX9 G o_p1 a_p1 v_p1, uX8 G (a_t 0) a_t_swing res.2, uX2 G (a_t_swing 0) a_t_swing_kinds]) (F0 m 11 ls []) := by
  intro k
  induction k with
  | zero => intros; contradiction
  | succ k ih =>
    intro v_t v_p1 v_t_swing y2 hf H locs ls h hl
    exact w_X0_findCodes_11 (N := N) C ih hf h hl
set_option maxRecDepth 100000 in
set_option maxHeartbeats 4000000 in
theorem c_X0_findCodes (l : Launch) (G : GG) (o_t o_p1 : Nat) (a_p1 a_t a_t_swing a_t_swing_kinds : Nat → Nat) (N : Nat) {v_t : US} {v_p1 : US} {v_t_swing : US}  {res : US × US} (hf : f_X0_findCodes N v_t v_p1 v_t_swing = some res) : MV l yX0_findCodes cX0_findCodes 7 none 6 [.ref o_t, .ref o_p1] G [uX0 G o_t a_t v_t, uX9 G o_p1 a_p1 v_p1, uX8 G (a_t 0) a_t_swing v_t_swing, uX2 G (a_t_swing 0) a_t_swing_kinds]  [uX0 G o_t a_t res.1, uX9 G o_p1 a_p1 v_p1, uX8 G (a_t 0) a_t_swing res.2, uX2 G (a_t_swing 0) a_t_swing_kinds] := by
  unfold f_X0_findCodes at hf
  refine MV.intro (by decide) rfl (Nat.le_of_ble_eq_true rfl) (fun p e s m args below meth c A ls C h hl => ?_)
  have C : MC RX0 cX0_findCodes 7 none G A p s m args meth c := C
  have hl : lv_has ls 7 [(0, .ref o_t), (1, .ref o_p1)] := hl
  refine lv_aload_n C.hx C.hb dX0_findCodes_0 rfl (lv_at hl 0 rfl) ?_
  refine lv_aload_n C.hx C.hb dX0_findCodes_1 rfl (lv_at hl 1 rfl) ?_
  refine lv_aload_n C.hx C.hb dX0_findCodes_2 rfl (lv_at hl 1 rfl) ?_
  refine g_get C h fl_X0_84 1 0 rfl rfl (v := .int (v_p1.1 5)) rfl dX0_findCodes_3 ?_
  obtain ⟨zr1, zq2, hf⟩ := bd_some hf
  have zm3 := c_X0_look l G o_t o_p1 a_p1 a_t a_t_swing a_t_swing_kinds N (hf := zq2)
  refine g_goV C h zm3.1 (is := [0, 1, 2, 3]) rfl rfl (g_runV C h (is := [0, 1, 2, 3]) rfl rfl (As := [.ref o_p1, .int (v_p1.1 5)]) (rest := []) (zm3.2 _) vf_X0_87 0 0 rfl rfl hl.1 rfl rfl (Nat.le_of_ble_eq_true rfl) dX0_findCodes_6 ⟨Nat.le_of_ble_eq_true rfl, Nat.le_of_ble_eq_true rfl⟩ ⟨Nat.le_refl _, Nat.le_refl _⟩) (us2 := [uX0 G o_t a_t zr1.1, uX9 G o_p1 a_p1 v_p1, uX8 G (a_t 0) a_t_swing zr1.2, uX2 G (a_t_swing 0) a_t_swing_kinds]) rfl (fun H locs h => ?_)
  refine lv_iconst (v := 0) C.hx C.hb dX0_findCodes_9 (by decide) ?_
  refine lv_istore_n (lv' := [(2, .int 0), (0, .ref o_t), (1, .ref o_p1)]) C.hx C.hb dX0_findCodes_10 rfl hl (by decide) rfl (fun ls hl => ?_)
  exact l_X0_findCodes_11 C N hf h (lv_sub hl [1, 2, 0] rfl)

def b_X0_findEnds_31 (N : Nat) (g21 : US → US → US → Int32 → Option (US × US)) (g31 : US → US → US → Int32 → Int32 → Option (US × US)) (v_t : US) (v_p1 : US) (v_t_swing : US) (y2 : Int32) (y3 : Int32) : Option (US × US) :=
  if (1 <<< (y2 &&& 31)) ≤ y3 then (g21 v_t v_p1 v_t_swing (y2 + 1)) else (if y3 < 0 ∨ 32 ≤ y3.toNatClampNeg then none else ((f_X0_behind v_t y2 ((v_t.2.2 12) y3.toNatClampNeg)).bind fun zr3 => if (y3 ||| (1 <<< (y2 &&& 31))) < 0 ∨ 32 ≤ (y3 ||| (1 <<< (y2 &&& 31))).toNatClampNeg then none else (g31 (upa v_t 12 ((y3 ||| (1 <<< (y2 &&& 31))).toNatClampNeg) zr3) v_p1 v_t_swing y2 (y3 + 1))))
def f_X0_findEnds_31 (N : Nat) (g21 : US → US → US → Int32 → Option (US × US)) : Nat → US → US → US → Int32 → Int32 → Option (US × US)
  | 0 => fun _ _ _ _ _ => none
  | k + 1 => fun q0 q1 q2 q3 q4 => b_X0_findEnds_31 N g21 (f_X0_findEnds_31 N g21 k) q0 q1 q2 q3 q4
def b_X0_findEnds_21 (N : Nat) (g21 : US → US → US → Int32 → Option (US × US)) (v_t : US) (v_p1 : US) (v_t_swing : US) (y2 : Int32) : Option (US × US) :=
  if (v_t.1 1) ≤ y2 then (some (v_t, v_t_swing)) else (f_X0_findEnds_31 N g21 N v_t v_p1 v_t_swing y2 0)
def f_X0_findEnds_21 (N : Nat)  : Nat → US → US → US → Int32 → Option (US × US)
  | 0 => fun _ _ _ _ => none
  | k + 1 => fun q0 q1 q2 q3 => b_X0_findEnds_21 N  (f_X0_findEnds_21 N  k) q0 q1 q2 q3
def f_X0_findEnds (N : Nat) (v_t : US) (v_p1 : US) (v_t_swing : US)  : Option (US × US) :=
  (f_X0_look N v_t v_p1 v_t_swing (v_p1.1 5)).bind fun zr1 => if (0 : Int32) < 0 ∨ 32 ≤ (0 : Int32).toNatClampNeg then none else (f_X0_findEnds_21 N N (upa zr1.1 12 ((0 : Int32).toNatClampNeg) (v_p1.1 7)) v_p1 zr1.2 0)
set_option maxRecDepth 100000 in
set_option maxHeartbeats 4000000 in
theorem w_X0_findEnds_31 {p : Program} {l : Launch} {e : Env} {s : State} {m : MethodId} {args : Array Value} {below : List Frame} {meth : Method} {c : Code} {G : GG} {A : Nat → Prop} {o_t o_p1 : Nat} {a_p1 a_t a_t_swing a_t_swing_kinds : Nat → Nat} {N : Nat} {g21 : US → US → US → Int32 → Option (US × US)} {g31 : US → US → US → Int32 → Int32 → Option (US × US)} {v_t : US} {v_p1 : US} {v_t_swing : US} {y2 : Int32} {y3 : Int32} {res : US × US} (C : MC RX0 cX0_findEnds 4 none G A p s m args meth c) (hg21 : ∀ {v_t : US} {v_p1 : US} {v_t_swing : US} {y2 : Int32}, g21 v_t v_p1 v_t_swing y2 = some res → ∀ {H : Heap} {locs : List Loc} {ls : Array Slot}, HP G A s [uX0 G o_t a_t v_t, uX9 G o_p1 a_p1 v_p1, uX8 G (a_t 0) a_t_swing v_t_swing, uX2 G (a_t_swing 0) a_t_swing_kinds] H locs → lv_has ls 4 [(0, .ref o_t), (2, .int y2)] → W p l e (rmm 6) s m args below meth c H locs 0 0 (QV below G A args s  [uX0 G o_t a_t res.1, uX9 G o_p1 a_p1 v_p1, uX8 G (a_t 0) a_t_swing res.2, uX2 G (a_t_swing 0) a_t_swing_kinds]) (F0 m 21 ls [])) (hg31 : ∀ {v_t : US} {v_p1 : US} {v_t_swing : US} {y2 : Int32} {y3 : Int32}, g31 v_t v_p1 v_t_swing y2 y3 = some res → ∀ {H : Heap} {locs : List Loc} {ls : Array Slot}, HP G A s [uX0 G o_t a_t v_t, uX9 G o_p1 a_p1 v_p1, uX8 G (a_t 0) a_t_swing v_t_swing, uX2 G (a_t_swing 0) a_t_swing_kinds] H locs → lv_has ls 4 [(0, .ref o_t), (2, .int y2), (3, .int y3)] → W p l e (rmm 6) s m args below meth c H locs 0 0 (QV below G A args s  [uX0 G o_t a_t res.1, uX9 G o_p1 a_p1 v_p1, uX8 G (a_t 0) a_t_swing res.2, uX2 G (a_t_swing 0) a_t_swing_kinds]) (F0 m 31 ls [])) (hf : b_X0_findEnds_31 N g21 g31 v_t v_p1 v_t_swing y2 y3 = some res) {H : Heap} {locs : List Loc} {ls : Array Slot} (h : HP G A s [uX0 G o_t a_t v_t, uX9 G o_p1 a_p1 v_p1, uX8 G (a_t 0) a_t_swing v_t_swing, uX2 G (a_t_swing 0) a_t_swing_kinds] H locs) (hl : lv_has ls 4 [(0, .ref o_t), (2, .int y2), (3, .int y3)]) : W p l e (rmm 6) s m args below meth c H locs 0 0 (QV below G A args s  [uX0 G o_t a_t res.1, uX9 G o_p1 a_p1 v_p1, uX8 G (a_t 0) a_t_swing res.2, uX2 G (a_t_swing 0) a_t_swing_kinds]) (F0 m 31 ls []) := by
  unfold b_X0_findEnds_31 at hf
  refine lv_iload_n C.hx C.hb dX0_findEnds_31 rfl (lv_at hl 2 rfl) ?_
  refine lv_iconst (v := 1) C.hx C.hb dX0_findEnds_32 (by decide) ?_
  refine lv_iload_n C.hx C.hb dX0_findEnds_33 rfl (lv_at hl 1 rfl) ?_
  refine lv_ishl C.hx C.hb dX0_findEnds_34 ?_
  refine lv_icmp_ge (tgt := 65) C.hx C.hb dX0_findEnds_35 (by decide) (fun zc1 => ?_) (fun zc1 => ?_)
  · replace hf := it_t zc1 hf
    refine lv_iinc (v := y2 + 1) (lv' := [(2, .int (y2 + 1)), (0, .ref o_t), (3, .int y3)]) C.hx C.hb dX0_findEnds_65 hl (k := 1) rfl rfl (by decide) rfl (fun ls hl => ?_)
    refine lv_goto (tgt := 21) C.hx C.hb dX0_findEnds_68 (by decide) ?_
    exact hg21 hf h (lv_sub hl [1, 0] rfl)
  · replace hf := it_f zc1 hf
    refine lv_aload_n C.hx C.hb dX0_findEnds_38 rfl (lv_at hl 0 rfl) ?_
    refine g_get C h fl_X0_46 0 0 rfl rfl (v := .ref (a_t 12)) rfl dX0_findEnds_39 ?_
    refine lv_iload_n C.hx C.hb dX0_findEnds_42 rfl (lv_at hl 2 rfl) ?_
    refine lv_iconst (v := 1) C.hx C.hb dX0_findEnds_43 (by decide) ?_
    refine lv_iload_n C.hx C.hb dX0_findEnds_44 rfl (lv_at hl 1 rfl) ?_
    refine lv_ishl C.hx C.hb dX0_findEnds_45 ?_
    refine lv_ior C.hx C.hb dX0_findEnds_46 ?_
    refine lv_aload_n C.hx C.hb dX0_findEnds_47 rfl (lv_at hl 0 rfl) ?_
    refine lv_iload_n C.hx C.hb dX0_findEnds_48 rfl (lv_at hl 1 rfl) ?_
    refine lv_aload_n C.hx C.hb dX0_findEnds_49 rfl (lv_at hl 0 rfl) ?_
    refine g_get C h fl_X0_46 0 0 rfl rfl (v := .ref (a_t 12)) rfl dX0_findEnds_50 ?_
    refine lv_iload_n C.hx C.hb dX0_findEnds_53 rfl (lv_at hl 2 rfl) ?_
    obtain ⟨zi2, hf⟩ := ck_some hf
    refine g_iald C h 0 10 rfl rfl (f := v_t.2.2 12) zi2 dX0_findEnds_54 ?_
    obtain ⟨zr3, zq4, hf⟩ := bd_some hf
    have zm5 := c_X0_behind l G o_t a_t (hf := zq4)
    refine g_goI C h zm5.1 (is := [0]) rfl rfl (g_runV C h (is := [0]) rfl rfl (As := [.int y2, .int ((v_t.2.2 12) y3.toNatClampNeg)]) (rest := [.int (y3 ||| (1 <<< (y2 &&& 31))), .ref (a_t 12)]) (zm5.2 _) vf_X0_109 0 0 rfl rfl hl.1 rfl rfl (Nat.le_of_ble_eq_true rfl) dX0_findEnds_55 ⟨Nat.le_of_ble_eq_true rfl, Nat.le_of_ble_eq_true rfl⟩ ⟨Nat.le_refl _, Nat.le_refl _⟩) (us2 := [uX0 G o_t a_t v_t, uX9 G o_p1 a_p1 v_p1, uX8 G (a_t 0) a_t_swing v_t_swing, uX2 G (a_t_swing 0) a_t_swing_kinds]) rfl (fun H locs h => ?_)
    obtain ⟨zi6, hf⟩ := ck_some hf
    refine g_iast C h 0 10 rfl rfl (f := v_t.2.2 12) zi6 dX0_findEnds_58 (u' := uX0 G o_t a_t (upa v_t 12 ((y3 ||| (1 <<< (y2 &&& 31))).toNatClampNeg) zr3)) (us' := [uX0 G o_t a_t (upa v_t 12 ((y3 ||| (1 <<< (y2 &&& 31))).toNatClampNeg) zr3), uX9 G o_p1 a_p1 v_p1, uX8 G (a_t 0) a_t_swing v_t_swing, uX2 G (a_t_swing 0) a_t_swing_kinds]) rfl rfl (fun H locs h => ?_)
    refine lv_iinc (v := y3 + 1) (lv' := [(3, .int (y3 + 1)), (0, .ref o_t), (2, .int y2)]) C.hx C.hb dX0_findEnds_59 hl (k := 2) rfl rfl (by decide) rfl (fun ls hl => ?_)
    refine lv_goto (tgt := 31) C.hx C.hb dX0_findEnds_62 (by decide) ?_
    exact hg31 hf h (lv_sub hl [1, 2, 0] rfl)
set_option maxRecDepth 100000 in
set_option maxHeartbeats 4000000 in
theorem l_X0_findEnds_31 {p : Program} {l : Launch} {e : Env} {s : State} {m : MethodId} {args : Array Value} {below : List Frame} {meth : Method} {c : Code} {G : GG} {A : Nat → Prop} {o_t o_p1 : Nat} {a_p1 a_t a_t_swing a_t_swing_kinds : Nat → Nat} {N : Nat} {g21 : US → US → US → Int32 → Option (US × US)} {res : US × US} (C : MC RX0 cX0_findEnds 4 none G A p s m args meth c) (hg21 : ∀ {v_t : US} {v_p1 : US} {v_t_swing : US} {y2 : Int32}, g21 v_t v_p1 v_t_swing y2 = some res → ∀ {H : Heap} {locs : List Loc} {ls : Array Slot}, HP G A s [uX0 G o_t a_t v_t, uX9 G o_p1 a_p1 v_p1, uX8 G (a_t 0) a_t_swing v_t_swing, uX2 G (a_t_swing 0) a_t_swing_kinds] H locs → lv_has ls 4 [(0, .ref o_t), (2, .int y2)] → W p l e (rmm 6) s m args below meth c H locs 0 0 (QV below G A args s  [uX0 G o_t a_t res.1, uX9 G o_p1 a_p1 v_p1, uX8 G (a_t 0) a_t_swing res.2, uX2 G (a_t_swing 0) a_t_swing_kinds]) (F0 m 21 ls [])) : ∀ (k : Nat) {v_t : US} {v_p1 : US} {v_t_swing : US} {y2 : Int32} {y3 : Int32}, f_X0_findEnds_31 N g21 k v_t v_p1 v_t_swing y2 y3 = some res → ∀ {H : Heap} {locs : List Loc} {ls : Array Slot}, HP G A s [uX0 G o_t a_t v_t, uX9 G o_p1 a_p1 v_p1, uX8 G (a_t 0) a_t_swing v_t_swing, uX2 G (a_t_swing 0) a_t_swing_kinds] H locs → lv_has ls 4 [(0, .ref o_t), (2, .int y2), (3, .int y3)] → W p l e (rmm 6) s m args below meth c H locs 0 0 (QV below G A args s  [uX0 G o_t a_t res.1, uX9 G o_p1 a_p1 v_p1, uX8 G (a_t 0) a_t_swing res.2, uX2 G (a_t_swing 0) a_t_swing_kinds]) (F0 m 31 ls []) := by
  intro k
  induction k with
  | zero => intros; contradiction
  | succ k ih =>
    intro v_t v_p1 v_t_swing y2 y3 hf H locs ls h hl
    exact w_X0_findEnds_31 (N := N) C hg21 ih hf h hl
set_option maxRecDepth 100000 in
set_option maxHeartbeats 4000000 in
theorem w_X0_findEnds_21 {p : Program} {l : Launch} {e : Env} {s : State} {m : MethodId} {args : Array Value} {below : List Frame} {meth : Method} {c : Code} {G : GG} {A : Nat → Prop} {o_t o_p1 : Nat} {a_p1 a_t a_t_swing a_t_swing_kinds : Nat → Nat} {N : Nat} {g21 : US → US → US → Int32 → Option (US × US)} {v_t : US} {v_p1 : US} {v_t_swing : US} {y2 : Int32} {res : US × US} (C : MC RX0 cX0_findEnds 4 none G A p s m args meth c) (hg21 : ∀ {v_t : US} {v_p1 : US} {v_t_swing : US} {y2 : Int32}, g21 v_t v_p1 v_t_swing y2 = some res → ∀ {H : Heap} {locs : List Loc} {ls : Array Slot}, HP G A s [uX0 G o_t a_t v_t, uX9 G o_p1 a_p1 v_p1, uX8 G (a_t 0) a_t_swing v_t_swing, uX2 G (a_t_swing 0) a_t_swing_kinds] H locs → lv_has ls 4 [(0, .ref o_t), (2, .int y2)] → W p l e (rmm 6) s m args below meth c H locs 0 0 (QV below G A args s  [uX0 G o_t a_t res.1, uX9 G o_p1 a_p1 v_p1, uX8 G (a_t 0) a_t_swing res.2, uX2 G (a_t_swing 0) a_t_swing_kinds]) (F0 m 21 ls [])) (hf : b_X0_findEnds_21 N g21 v_t v_p1 v_t_swing y2 = some res) {H : Heap} {locs : List Loc} {ls : Array Slot} (h : HP G A s [uX0 G o_t a_t v_t, uX9 G o_p1 a_p1 v_p1, uX8 G (a_t 0) a_t_swing v_t_swing, uX2 G (a_t_swing 0) a_t_swing_kinds] H locs) (hl : lv_has ls 4 [(0, .ref o_t), (2, .int y2)]) : W p l e (rmm 6) s m args below meth c H locs 0 0 (QV below G A args s  [uX0 G o_t a_t res.1, uX9 G o_p1 a_p1 v_p1, uX8 G (a_t 0) a_t_swing res.2, uX2 G (a_t_swing 0) a_t_swing_kinds]) (F0 m 21 ls []) := by
  unfold b_X0_findEnds_21 at hf
  refine lv_iload_n C.hx C.hb dX0_findEnds_21 rfl (lv_at hl 1 rfl) ?_
  refine lv_aload_n C.hx C.hb dX0_findEnds_22 rfl (lv_at hl 0 rfl) ?_
  refine g_get C h fl_X0_9 0 0 rfl rfl (v := .int (v_t.1 1)) rfl dX0_findEnds_23 ?_
  refine lv_icmp_ge (tgt := 71) C.hx C.hb dX0_findEnds_26 (by decide) (fun zc1 => ?_) (fun zc1 => ?_)
  · replace hf := it_t zc1 hf
    obtain rfl := Option.some.inj hf
    exact g_ret_v C h rfl dX0_findEnds_71
  · replace hf := it_f zc1 hf
    refine lv_iconst (v := 0) C.hx C.hb dX0_findEnds_29 (by decide) ?_
    refine lv_istore_n (lv' := [(3, .int 0), (0, .ref o_t), (2, .int y2)]) C.hx C.hb dX0_findEnds_30 rfl hl (by decide) rfl (fun ls hl => ?_)
    exact l_X0_findEnds_31 C hg21 N hf h (lv_sub hl [1, 2, 0] rfl)
set_option maxRecDepth 100000 in
set_option maxHeartbeats 4000000 in
theorem l_X0_findEnds_21 {p : Program} {l : Launch} {e : Env} {s : State} {m : MethodId} {args : Array Value} {below : List Frame} {meth : Method} {c : Code} {G : GG} {A : Nat → Prop} {o_t o_p1 : Nat} {a_p1 a_t a_t_swing a_t_swing_kinds : Nat → Nat} {N : Nat}  {res : US × US} (C : MC RX0 cX0_findEnds 4 none G A p s m args meth c)  : ∀ (k : Nat) {v_t : US} {v_p1 : US} {v_t_swing : US} {y2 : Int32}, f_X0_findEnds_21 N k v_t v_p1 v_t_swing y2 = some res → ∀ {H : Heap} {locs : List Loc} {ls : Array Slot}, HP G A s [uX0 G o_t a_t v_t, uX9 G o_p1 a_p1 v_p1, uX8 G (a_t 0) a_t_swing v_t_swing, uX2 G (a_t_swing 0) a_t_swing_kinds] H locs → lv_has ls 4 [(0, .ref o_t), (2, .int y2)] → W p l e (rmm 6) s m args below meth c H locs 0 0 (QV below G A args s  [uX0 G o_t a_t res.1, uX9 G o_p1 a_p1 v_p1, uX8 G (a_t 0) a_t_swing res.2, uX2 G (a_t_swing 0) a_t_swing_kinds]) (F0 m 21 ls []) := by
  intro k
  induction k with
  | zero => intros; contradiction
  | succ k ih =>
    intro v_t v_p1 v_t_swing y2 hf H locs ls h hl
    exact w_X0_findEnds_21 (N := N) C ih hf h hl
set_option maxRecDepth 100000 in
set_option maxHeartbeats 4000000 in
theorem c_X0_findEnds (l : Launch) (G : GG) (o_t o_p1 : Nat) (a_p1 a_t a_t_swing a_t_swing_kinds : Nat → Nat) (N : Nat) {v_t : US} {v_p1 : US} {v_t_swing : US}  {res : US × US} (hf : f_X0_findEnds N v_t v_p1 v_t_swing = some res) : MV l yX0_findEnds cX0_findEnds 4 none 6 [.ref o_t, .ref o_p1] G [uX0 G o_t a_t v_t, uX9 G o_p1 a_p1 v_p1, uX8 G (a_t 0) a_t_swing v_t_swing, uX2 G (a_t_swing 0) a_t_swing_kinds]  [uX0 G o_t a_t res.1, uX9 G o_p1 a_p1 v_p1, uX8 G (a_t 0) a_t_swing res.2, uX2 G (a_t_swing 0) a_t_swing_kinds] := by
  unfold f_X0_findEnds at hf
  refine MV.intro (by decide) rfl (Nat.le_of_ble_eq_true rfl) (fun p e s m args below meth c A ls C h hl => ?_)
  have C : MC RX0 cX0_findEnds 4 none G A p s m args meth c := C
  have hl : lv_has ls 4 [(0, .ref o_t), (1, .ref o_p1)] := hl
  refine lv_aload_n C.hx C.hb dX0_findEnds_0 rfl (lv_at hl 0 rfl) ?_
  refine lv_aload_n C.hx C.hb dX0_findEnds_1 rfl (lv_at hl 1 rfl) ?_
  refine lv_aload_n C.hx C.hb dX0_findEnds_2 rfl (lv_at hl 1 rfl) ?_
  refine g_get C h fl_X0_84 1 0 rfl rfl (v := .int (v_p1.1 5)) rfl dX0_findEnds_3 ?_
  obtain ⟨zr1, zq2, hf⟩ := bd_some hf
  have zm3 := c_X0_look l G o_t o_p1 a_p1 a_t a_t_swing a_t_swing_kinds N (hf := zq2)
  refine g_goV C h zm3.1 (is := [0, 1, 2, 3]) rfl rfl (g_runV C h (is := [0, 1, 2, 3]) rfl rfl (As := [.ref o_p1, .int (v_p1.1 5)]) (rest := []) (zm3.2 _) vf_X0_87 0 0 rfl rfl hl.1 rfl rfl (Nat.le_of_ble_eq_true rfl) dX0_findEnds_6 ⟨Nat.le_of_ble_eq_true rfl, Nat.le_of_ble_eq_true rfl⟩ ⟨Nat.le_refl _, Nat.le_refl _⟩) (us2 := [uX0 G o_t a_t zr1.1, uX9 G o_p1 a_p1 v_p1, uX8 G (a_t 0) a_t_swing zr1.2, uX2 G (a_t_swing 0) a_t_swing_kinds]) rfl (fun H locs h => ?_)
  refine lv_aload_n C.hx C.hb dX0_findEnds_9 rfl (lv_at hl 0 rfl) ?_
  refine g_get C h fl_X0_46 0 0 rfl rfl (v := .ref (a_t 12)) rfl dX0_findEnds_10 ?_
  refine lv_iconst (v := 0) C.hx C.hb dX0_findEnds_13 (by decide) ?_
  refine lv_aload_n C.hx C.hb dX0_findEnds_14 rfl (lv_at hl 1 rfl) ?_
  refine g_get C h fl_X0_92 1 0 rfl rfl (v := .int (v_p1.1 7)) rfl dX0_findEnds_15 ?_
  obtain ⟨zi4, hf⟩ := ck_some hf
  refine g_iast C h 0 10 rfl rfl (f := zr1.1.2.2 12) zi4 dX0_findEnds_18 (u' := uX0 G o_t a_t (upa zr1.1 12 ((0 : Int32).toNatClampNeg) (v_p1.1 7))) (us' := [uX0 G o_t a_t (upa zr1.1 12 ((0 : Int32).toNatClampNeg) (v_p1.1 7)), uX9 G o_p1 a_p1 v_p1, uX8 G (a_t 0) a_t_swing zr1.2, uX2 G (a_t_swing 0) a_t_swing_kinds]) rfl rfl (fun H locs h => ?_)
  refine lv_iconst (v := 0) C.hx C.hb dX0_findEnds_19 (by decide) ?_
  refine lv_istore_n (lv' := [(2, .int 0), (0, .ref o_t), (1, .ref o_p1)]) C.hx C.hb dX0_findEnds_20 rfl hl (by decide) rfl (fun ls hl => ?_)
  exact l_X0_findEnds_21 C N hf h (lv_sub hl [1, 0] rfl)

def b_X0_findHarmOfRopes_23 (N : Nat) (g2 : US → US → US → Int32 → Option (US × US)) (g23 : US → US → US → Int32 → Int32 → Int32 → Option (US × US)) (v_t : US) (v_p1 : US) (v_t_swing : US) (y2 : Int32) (y3 : Int32) (y4 : Int32) : Option (US × US) :=
  if (v_t.1 1) ≤ y4 then (if y2 < 0 ∨ 32 ≤ y2.toNatClampNeg then none else (g2 (upa v_t 15 y2.toNatClampNeg y3) v_p1 v_t_swing (y2 + 1))) else ((f_X0_behind v_t y4 0).bind fun zr3 => (f_X9_harmOf N v_p1 zr3).bind fun zr6 => g23 v_t v_p1 v_t_swing y2 (y3 + zr6) (y4 + 1))
def f_X0_findHarmOfRopes_23 (N : Nat) (g2 : US → US → US → Int32 → Option (US × US)) : Nat → US → US → US → Int32 → Int32 → Int32 → Option (US × US)
  | 0 => fun _ _ _ _ _ _ => none
  | k + 1 => fun q0 q1 q2 q3 q4 q5 => b_X0_findHarmOfRopes_23 N g2 (f_X0_findHarmOfRopes_23 N g2 k) q0 q1 q2 q3 q4 q5
def b_X0_findHarmOfRopes_2 (N : Nat) (g2 : US → US → US → Int32 → Option (US × US)) (v_t : US) (v_p1 : US) (v_t_swing : US) (y2 : Int32) : Option (US × US) :=
  if (1 <<< ((v_p1.1 0) &&& 31)) ≤ y2 then (some (v_t, v_t_swing)) else ((f_X0_look N v_t v_p1 v_t_swing y2).bind fun zr2 => f_X0_findHarmOfRopes_23 N g2 N zr2.1 v_p1 zr2.2 y2 0 0)
def f_X0_findHarmOfRopes_2 (N : Nat)  : Nat → US → US → US → Int32 → Option (US × US)
  | 0 => fun _ _ _ _ => none
  | k + 1 => fun q0 q1 q2 q3 => b_X0_findHarmOfRopes_2 N  (f_X0_findHarmOfRopes_2 N  k) q0 q1 q2 q3
def f_X0_findHarmOfRopes (N : Nat) (v_t : US) (v_p1 : US) (v_t_swing : US)  : Option (US × US) :=
  f_X0_findHarmOfRopes_2 N N v_t v_p1 v_t_swing 0
set_option maxRecDepth 100000 in
set_option maxHeartbeats 4000000 in
theorem w_X0_findHarmOfRopes_23 {p : Program} {l : Launch} {e : Env} {s : State} {m : MethodId} {args : Array Value} {below : List Frame} {meth : Method} {c : Code} {G : GG} {A : Nat → Prop} {o_t o_p1 : Nat} {a_p1 a_t a_t_swing a_t_swing_kinds : Nat → Nat} {N : Nat} {g2 : US → US → US → Int32 → Option (US × US)} {g23 : US → US → US → Int32 → Int32 → Int32 → Option (US × US)} {v_t : US} {v_p1 : US} {v_t_swing : US} {y2 : Int32} {y3 : Int32} {y4 : Int32} {res : US × US} (C : MC RX0 cX0_findHarmOfRopes 5 none G A p s m args meth c) (hg2 : ∀ {v_t : US} {v_p1 : US} {v_t_swing : US} {y2 : Int32}, g2 v_t v_p1 v_t_swing y2 = some res → ∀ {H : Heap} {locs : List Loc} {ls : Array Slot}, HP G A s [uX0 G o_t a_t v_t, uX9 G o_p1 a_p1 v_p1, uX8 G (a_t 0) a_t_swing v_t_swing, uX2 G (a_t_swing 0) a_t_swing_kinds] H locs → lv_has ls 5 [(0, .ref o_t), (1, .ref o_p1), (2, .int y2)] → W p l e (rmm 6) s m args below meth c H locs 0 0 (QV below G A args s  [uX0 G o_t a_t res.1, uX9 G o_p1 a_p1 v_p1, uX8 G (a_t 0) a_t_swing res.2, uX2 G (a_t_swing 0) a_t_swing_kinds]) (F0 m 2 ls [])) (hg23 : ∀ {v_t : US} {v_p1 : US} {v_t_swing : US} {y2 : Int32} {y3 : Int32} {y4 : Int32}, g23 v_t v_p1 v_t_swing y2 y3 y4 = some res → ∀ {H : Heap} {locs : List Loc} {ls : Array Slot}, HP G A s [uX0 G o_t a_t v_t, uX9 G o_p1 a_p1 v_p1, uX8 G (a_t 0) a_t_swing v_t_swing, uX2 G (a_t_swing 0) a_t_swing_kinds] H locs → lv_has ls 5 [(0, .ref o_t), (1, .ref o_p1), (2, .int y2), (3, .int y3), (4, .int y4)] → W p l e (rmm 6) s m args below meth c H locs 0 0 (QV below G A args s  [uX0 G o_t a_t res.1, uX9 G o_p1 a_p1 v_p1, uX8 G (a_t 0) a_t_swing res.2, uX2 G (a_t_swing 0) a_t_swing_kinds]) (F0 m 23 ls [])) (hf : b_X0_findHarmOfRopes_23 N g2 g23 v_t v_p1 v_t_swing y2 y3 y4 = some res) {H : Heap} {locs : List Loc} {ls : Array Slot} (h : HP G A s [uX0 G o_t a_t v_t, uX9 G o_p1 a_p1 v_p1, uX8 G (a_t 0) a_t_swing v_t_swing, uX2 G (a_t_swing 0) a_t_swing_kinds] H locs) (hl : lv_has ls 5 [(0, .ref o_t), (1, .ref o_p1), (2, .int y2), (3, .int y3), (4, .int y4)]) : W p l e (rmm 6) s m args below meth c H locs 0 0 (QV below G A args s  [uX0 G o_t a_t res.1, uX9 G o_p1 a_p1 v_p1, uX8 G (a_t 0) a_t_swing res.2, uX2 G (a_t_swing 0) a_t_swing_kinds]) (F0 m 23 ls []) := by
  unfold b_X0_findHarmOfRopes_23 at hf
  refine lv_iload C.hx C.hb dX0_findHarmOfRopes_23 (lv_at hl 4 rfl) ?_
  refine lv_aload_n C.hx C.hb dX0_findHarmOfRopes_25 rfl (lv_at hl 0 rfl) ?_
  refine g_get C h fl_X0_9 0 0 rfl rfl (v := .int (v_t.1 1)) rfl dX0_findHarmOfRopes_26 ?_
  refine lv_icmp_ge (tgt := 52) C.hx C.hb dX0_findHarmOfRopes_29 (by decide) (fun zc1 => ?_) (fun zc1 => ?_)
  · replace hf := it_t zc1 hf
    refine lv_aload_n C.hx C.hb dX0_findHarmOfRopes_52 rfl (lv_at hl 0 rfl) ?_
    refine g_get C h fl_X0_55 0 0 rfl rfl (v := .ref (a_t 15)) rfl dX0_findHarmOfRopes_53 ?_
    refine lv_iload_n C.hx C.hb dX0_findHarmOfRopes_56 rfl (lv_at hl 2 rfl) ?_
    refine lv_iload_n C.hx C.hb dX0_findHarmOfRopes_57 rfl (lv_at hl 3 rfl) ?_
    obtain ⟨zi2, hf⟩ := ck_some hf
    refine g_iast C h 0 11 rfl rfl (f := v_t.2.2 15) zi2 dX0_findHarmOfRopes_58 (u' := uX0 G o_t a_t (upa v_t 15 y2.toNatClampNeg y3)) (us' := [uX0 G o_t a_t (upa v_t 15 y2.toNatClampNeg y3), uX9 G o_p1 a_p1 v_p1, uX8 G (a_t 0) a_t_swing v_t_swing, uX2 G (a_t_swing 0) a_t_swing_kinds]) rfl rfl (fun H locs h => ?_)
    refine lv_iinc (v := y2 + 1) (lv' := [(2, .int (y2 + 1)), (0, .ref o_t), (1, .ref o_p1), (3, .int y3), (4, .int y4)]) C.hx C.hb dX0_findHarmOfRopes_59 hl (k := 2) rfl rfl (by decide) rfl (fun ls hl => ?_)
    refine lv_goto (tgt := 2) C.hx C.hb dX0_findHarmOfRopes_62 (by decide) ?_
    exact hg2 hf h (lv_sub hl [1, 2, 0] rfl)
  · replace hf := it_f zc1 hf
    refine lv_iload_n C.hx C.hb dX0_findHarmOfRopes_32 rfl (lv_at hl 3 rfl) ?_
    refine lv_aload_n C.hx C.hb dX0_findHarmOfRopes_33 rfl (lv_at hl 1 rfl) ?_
    refine lv_aload_n C.hx C.hb dX0_findHarmOfRopes_34 rfl (lv_at hl 0 rfl) ?_
    refine lv_iload C.hx C.hb dX0_findHarmOfRopes_35 (lv_at hl 4 rfl) ?_
    refine lv_iconst (v := 0) C.hx C.hb dX0_findHarmOfRopes_37 (by decide) ?_
    obtain ⟨zr3, zq4, hf⟩ := bd_some hf
    have zm5 := c_X0_behind l G o_t a_t (hf := zq4)
    refine g_goI C h zm5.1 (is := [0]) rfl rfl (g_runV C h (is := [0]) rfl rfl (As := [.int y4, .int 0]) (rest := [.ref o_p1, .int y3]) (zm5.2 _) vf_X0_109 0 0 rfl rfl hl.1 rfl rfl (Nat.le_of_ble_eq_true rfl) dX0_findHarmOfRopes_38 ⟨Nat.le_of_ble_eq_true rfl, Nat.le_of_ble_eq_true rfl⟩ ⟨Nat.le_refl _, Nat.le_refl _⟩) (us2 := [uX0 G o_t a_t v_t, uX9 G o_p1 a_p1 v_p1, uX8 G (a_t 0) a_t_swing v_t_swing, uX2 G (a_t_swing 0) a_t_swing_kinds]) rfl (fun H locs h => ?_)
    obtain ⟨zr6, zq7, hf⟩ := bd_some hf
    have zm8 := c_X9_harmOf l G o_p1 a_p1 N (hf := zq7)
    refine g_goI C h zm8.1 (is := [1]) rfl rfl (g_runV C h (is := [1]) rfl rfl (As := [.int zr3]) (rest := [.int y3]) (zm8.2 _) vf_X0_113 1 0 rfl rfl hl.1 rfl rfl (Nat.le_of_ble_eq_true rfl) dX0_findHarmOfRopes_41 ⟨Nat.le_of_ble_eq_true rfl, Nat.le_of_ble_eq_true rfl⟩ ⟨Nat.le_refl _, Nat.le_refl _⟩) (us2 := [uX0 G o_t a_t v_t, uX9 G o_p1 a_p1 v_p1, uX8 G (a_t 0) a_t_swing v_t_swing, uX2 G (a_t_swing 0) a_t_swing_kinds]) rfl (fun H locs h => ?_)
    refine lv_iadd C.hx C.hb dX0_findHarmOfRopes_44 ?_
    refine lv_istore_n (lv' := [(3, .int (y3 + zr6)), (0, .ref o_t), (1, .ref o_p1), (2, .int y2), (4, .int y4)]) C.hx C.hb dX0_findHarmOfRopes_45 rfl hl (by decide) rfl (fun ls hl => ?_)
    refine lv_iinc (v := y4 + 1) (lv' := [(4, .int (y4 + 1)), (3, .int (y3 + zr6)), (0, .ref o_t), (1, .ref o_p1), (2, .int y2)]) C.hx C.hb dX0_findHarmOfRopes_46 hl (k := 4) rfl rfl (by decide) rfl (fun ls hl => ?_)
    refine lv_goto (tgt := 23) C.hx C.hb dX0_findHarmOfRopes_49 (by decide) ?_
    exact hg23 hf h (lv_sub hl [2, 3, 4, 1, 0] rfl)
set_option maxRecDepth 100000 in
set_option maxHeartbeats 4000000 in
theorem l_X0_findHarmOfRopes_23 {p : Program} {l : Launch} {e : Env} {s : State} {m : MethodId} {args : Array Value} {below : List Frame} {meth : Method} {c : Code} {G : GG} {A : Nat → Prop} {o_t o_p1 : Nat} {a_p1 a_t a_t_swing a_t_swing_kinds : Nat → Nat} {N : Nat} {g2 : US → US → US → Int32 → Option (US × US)} {res : US × US} (C : MC RX0 cX0_findHarmOfRopes 5 none G A p s m args meth c) (hg2 : ∀ {v_t : US} {v_p1 : US} {v_t_swing : US} {y2 : Int32}, g2 v_t v_p1 v_t_swing y2 = some res → ∀ {H : Heap} {locs : List Loc} {ls : Array Slot}, HP G A s [uX0 G o_t a_t v_t, uX9 G o_p1 a_p1 v_p1, uX8 G (a_t 0) a_t_swing v_t_swing, uX2 G (a_t_swing 0) a_t_swing_kinds] H locs → lv_has ls 5 [(0, .ref o_t), (1, .ref o_p1), (2, .int y2)] → W p l e (rmm 6) s m args below meth c H locs 0 0 (QV below G A args s  [uX0 G o_t a_t res.1, uX9 G o_p1 a_p1 v_p1, uX8 G (a_t 0) a_t_swing res.2, uX2 G (a_t_swing 0) a_t_swing_kinds]) (F0 m 2 ls [])) : ∀ (k : Nat) {v_t : US} {v_p1 : US} {v_t_swing : US} {y2 : Int32} {y3 : Int32} {y4 : Int32}, f_X0_findHarmOfRopes_23 N g2 k v_t v_p1 v_t_swing y2 y3 y4 = some res → ∀ {H : Heap} {locs : List Loc} {ls : Array Slot}, HP G A s [uX0 G o_t a_t v_t, uX9 G o_p1 a_p1 v_p1, uX8 G (a_t 0) a_t_swing v_t_swing, uX2 G (a_t_swing 0) a_t_swing_kinds] H locs → lv_has ls 5 [(0, .ref o_t), (1, .ref o_p1), (2, .int y2), (3, .int y3), (4, .int y4)] → W p l e (rmm 6) s m args below meth c H locs 0 0 (QV below G A args s  [uX0 G o_t a_t res.1, uX9 G o_p1 a_p1 v_p1, uX8 G (a_t 0) a_t_swing res.2, uX2 G (a_t_swing 0) a_t_swing_kinds]) (F0 m 23 ls []) := by
  intro k
  induction k with
  | zero => intros; contradiction
  | succ k ih =>
    intro v_t v_p1 v_t_swing y2 y3 y4 hf H locs ls h hl
    exact w_X0_findHarmOfRopes_23 (N := N) C hg2 ih hf h hl
set_option maxRecDepth 100000 in
set_option maxHeartbeats 4000000 in
theorem w_X0_findHarmOfRopes_2 {p : Program} {l : Launch} {e : Env} {s : State} {m : MethodId} {args : Array Value} {below : List Frame} {meth : Method} {c : Code} {G : GG} {A : Nat → Prop} {o_t o_p1 : Nat} {a_p1 a_t a_t_swing a_t_swing_kinds : Nat → Nat} {N : Nat} {g2 : US → US → US → Int32 → Option (US × US)} {v_t : US} {v_p1 : US} {v_t_swing : US} {y2 : Int32} {res : US × US} (C : MC RX0 cX0_findHarmOfRopes 5 none G A p s m args meth c) (hg2 : ∀ {v_t : US} {v_p1 : US} {v_t_swing : US} {y2 : Int32}, g2 v_t v_p1 v_t_swing y2 = some res → ∀ {H : Heap} {locs : List Loc} {ls : Array Slot}, HP G A s [uX0 G o_t a_t v_t, uX9 G o_p1 a_p1 v_p1, uX8 G (a_t 0) a_t_swing v_t_swing, uX2 G (a_t_swing 0) a_t_swing_kinds] H locs → lv_has ls 5 [(0, .ref o_t), (1, .ref o_p1), (2, .int y2)] → W p l e (rmm 6) s m args below meth c H locs 0 0 (QV below G A args s  [uX0 G o_t a_t res.1, uX9 G o_p1 a_p1 v_p1, uX8 G (a_t 0) a_t_swing res.2, uX2 G (a_t_swing 0) a_t_swing_kinds]) (F0 m 2 ls [])) (hf : b_X0_findHarmOfRopes_2 N g2 v_t v_p1 v_t_swing y2 = some res) {H : Heap} {locs : List Loc} {ls : Array Slot} (h : HP G A s [uX0 G o_t a_t v_t, uX9 G o_p1 a_p1 v_p1, uX8 G (a_t 0) a_t_swing v_t_swing, uX2 G (a_t_swing 0) a_t_swing_kinds] H locs) (hl : lv_has ls 5 [(0, .ref o_t), (1, .ref o_p1), (2, .int y2)]) : W p l e (rmm 6) s m args below meth c H locs 0 0 (QV below G A args s  [uX0 G o_t a_t res.1, uX9 G o_p1 a_p1 v_p1, uX8 G (a_t 0) a_t_swing res.2, uX2 G (a_t_swing 0) a_t_swing_kinds]) (F0 m 2 ls []) := by
  unfold b_X0_findHarmOfRopes_2 at hf
  refine lv_iload_n C.hx C.hb dX0_findHarmOfRopes_2 rfl (lv_at hl 2 rfl) ?_
  refine lv_iconst (v := 1) C.hx C.hb dX0_findHarmOfRopes_3 (by decide) ?_
  refine lv_aload_n C.hx C.hb dX0_findHarmOfRopes_4 rfl (lv_at hl 1 rfl) ?_
  refine g_get C h fl_X0_117 1 0 rfl rfl (v := .int (v_p1.1 0)) rfl dX0_findHarmOfRopes_5 ?_
  refine lv_ishl C.hx C.hb dX0_findHarmOfRopes_8 ?_
  refine lv_icmp_ge (tgt := 65) C.hx C.hb dX0_findHarmOfRopes_9 (by decide) (fun zc1 => ?_) (fun zc1 => ?_)
  · replace hf := it_t zc1 hf
    obtain rfl := Option.some.inj hf
    exact g_ret_v C h rfl dX0_findHarmOfRopes_65
  · replace hf := it_f zc1 hf
    refine lv_aload_n C.hx C.hb dX0_findHarmOfRopes_12 rfl (lv_at hl 0 rfl) ?_
    refine lv_aload_n C.hx C.hb dX0_findHarmOfRopes_13 rfl (lv_at hl 1 rfl) ?_
    refine lv_iload_n C.hx C.hb dX0_findHarmOfRopes_14 rfl (lv_at hl 2 rfl) ?_
    obtain ⟨zr2, zq3, hf⟩ := bd_some hf
    have zm4 := c_X0_look l G o_t o_p1 a_p1 a_t a_t_swing a_t_swing_kinds N (hf := zq3)
    refine g_goV C h zm4.1 (is := [0, 1, 2, 3]) rfl rfl (g_runV C h (is := [0, 1, 2, 3]) rfl rfl (As := [.ref o_p1, .int y2]) (rest := []) (zm4.2 _) vf_X0_87 0 0 rfl rfl hl.1 rfl rfl (Nat.le_of_ble_eq_true rfl) dX0_findHarmOfRopes_15 ⟨Nat.le_of_ble_eq_true rfl, Nat.le_of_ble_eq_true rfl⟩ ⟨Nat.le_refl _, Nat.le_refl _⟩) (us2 := [uX0 G o_t a_t zr2.1, uX9 G o_p1 a_p1 v_p1, uX8 G (a_t 0) a_t_swing zr2.2, uX2 G (a_t_swing 0) a_t_swing_kinds]) rfl (fun H locs h => ?_)
    refine lv_iconst (v := 0) C.hx C.hb dX0_findHarmOfRopes_18 (by decide) ?_
    refine lv_istore_n (lv' := [(3, .int 0), (0, .ref o_t), (1, .ref o_p1), (2, .int y2)]) C.hx C.hb dX0_findHarmOfRopes_19 rfl hl (by decide) rfl (fun ls hl => ?_)
    refine lv_iconst (v := 0) C.hx C.hb dX0_findHarmOfRopes_20 (by decide) ?_
    refine lv_istore (lv' := [(4, .int 0), (3, .int 0), (0, .ref o_t), (1, .ref o_p1), (2, .int y2)]) C.hx C.hb dX0_findHarmOfRopes_21 hl (by decide) rfl (fun ls hl => ?_)
    exact l_X0_findHarmOfRopes_23 C hg2 N hf h (lv_sub hl [2, 3, 4, 1, 0] rfl)
set_option maxRecDepth 100000 in
set_option maxHeartbeats 4000000 in
theorem l_X0_findHarmOfRopes_2 {p : Program} {l : Launch} {e : Env} {s : State} {m : MethodId} {args : Array Value} {below : List Frame} {meth : Method} {c : Code} {G : GG} {A : Nat → Prop} {o_t o_p1 : Nat} {a_p1 a_t a_t_swing a_t_swing_kinds : Nat → Nat} {N : Nat}  {res : US × US} (C : MC RX0 cX0_findHarmOfRopes 5 none G A p s m args meth c)  : ∀ (k : Nat) {v_t : US} {v_p1 : US} {v_t_swing : US} {y2 : Int32}, f_X0_findHarmOfRopes_2 N k v_t v_p1 v_t_swing y2 = some res → ∀ {H : Heap} {locs : List Loc} {ls : Array Slot}, HP G A s [uX0 G o_t a_t v_t, uX9 G o_p1 a_p1 v_p1, uX8 G (a_t 0) a_t_swing v_t_swing, uX2 G (a_t_swing 0) a_t_swing_kinds] H locs → lv_has ls 5 [(0, .ref o_t), (1, .ref o_p1), (2, .int y2)] → W p l e (rmm 6) s m args below meth c H locs 0 0 (QV below G A args s  [uX0 G o_t a_t res.1, uX9 G o_p1 a_p1 v_p1, uX8 G (a_t 0) a_t_swing res.2, uX2 G (a_t_swing 0) a_t_swing_kinds]) (F0 m 2 ls []) := by
  intro k
  induction k with
  | zero => intros; contradiction
  | succ k ih =>
    intro v_t v_p1 v_t_swing y2 hf H locs ls h hl
    exact w_X0_findHarmOfRopes_2 (N := N) C ih hf h hl
set_option maxRecDepth 100000 in
set_option maxHeartbeats 4000000 in
theorem c_X0_findHarmOfRopes (l : Launch) (G : GG) (o_t o_p1 : Nat) (a_p1 a_t a_t_swing a_t_swing_kinds : Nat → Nat) (N : Nat) {v_t : US} {v_p1 : US} {v_t_swing : US}  {res : US × US} (hf : f_X0_findHarmOfRopes N v_t v_p1 v_t_swing = some res) : MV l yX0_findHarmOfRopes cX0_findHarmOfRopes 5 none 6 [.ref o_t, .ref o_p1] G [uX0 G o_t a_t v_t, uX9 G o_p1 a_p1 v_p1, uX8 G (a_t 0) a_t_swing v_t_swing, uX2 G (a_t_swing 0) a_t_swing_kinds]  [uX0 G o_t a_t res.1, uX9 G o_p1 a_p1 v_p1, uX8 G (a_t 0) a_t_swing res.2, uX2 G (a_t_swing 0) a_t_swing_kinds] := by
  unfold f_X0_findHarmOfRopes at hf
  refine MV.intro (by decide) rfl (Nat.le_of_ble_eq_true rfl) (fun p e s m args below meth c A ls C h hl => ?_)
  have C : MC RX0 cX0_findHarmOfRopes 5 none G A p s m args meth c := C
  have hl : lv_has ls 5 [(0, .ref o_t), (1, .ref o_p1)] := hl
  refine lv_iconst (v := 0) C.hx C.hb dX0_findHarmOfRopes_0 (by decide) ?_
  refine lv_istore_n (lv' := [(2, .int 0), (0, .ref o_t), (1, .ref o_p1)]) C.hx C.hb dX0_findHarmOfRopes_1 rfl hl (by decide) rfl (fun ls hl => ?_)
  exact l_X0_findHarmOfRopes_2 C N hf h (lv_sub hl [1, 2, 0] rfl)

def b_X0_findRest_32 (N : Nat) (grec : US → US → Int32 → Int32 → Int32 → Int32 → Option (US)) (g32 : US → US → Int32 → Int32 → Int32 → Int32 → Int32 → Option (US)) (v_t : US) (v_p1 : US) (y2 : Int32) (y3 : Int32) (y4 : Int32) (y5 : Int32) (y6 : Int32) : Option (US) :=
  if (v_t.1 1) ≤ y6 then (some (v_t)) else ((f_X11_has y3 y6).bind fun zr2 => if (b2i zr2) = 0 then ((f_X0_behind v_t y6 y4).bind fun zr6 => (f_X9_harmOf N v_p1 (zr6 &&& (y4 ^^^ (-1)))).bind fun zr9 => if (y5 + zr9) < (v_t.1 5) then (if y2 < 0 ∨ 5 ≤ y2.toNatClampNeg then none else ((grec (upa v_t 7 y2.toNatClampNeg y6) v_p1 (y2 + 1) (y3 ||| (1 <<< (y6 &&& 31))) zr6 (y5 + zr9)).bind fun zr14 => g32 zr14 v_p1 y2 y3 y4 y5 (y6 + 1))) else (g32 v_t v_p1 y2 y3 y4 y5 (y6 + 1))) else (g32 v_t v_p1 y2 y3 y4 y5 (y6 + 1)))
def f_X0_findRest_32 (N : Nat) (grec : US → US → Int32 → Int32 → Int32 → Int32 → Option (US))  : Nat → US → US → Int32 → Int32 → Int32 → Int32 → Int32 → Option (US)
  | 0 => fun _ _ _ _ _ _ _ => none
  | k + 1 => fun q0 q1 q2 q3 q4 q5 q6 => b_X0_findRest_32 N grec  (f_X0_findRest_32 N grec  k) q0 q1 q2 q3 q4 q5 q6
def b_X0_findRest (N : Nat) (grec : US → US → Int32 → Int32 → Int32 → Int32 → Option (US)) (v_t : US) (v_p1 : US) (x2 : Int32) (x3 : Int32) (x4 : Int32) (x5 : Int32) : Option (US) :=
  if x2 < (v_t.1 1) then (f_X0_findRest_32 N grec N v_t v_p1 x2 x3 x4 x5 0) else (bnd (upi v_t 5 x5) fun zw2 => some (upr zw2 6 (va_cpy (zw2.2.2 7) (zw2.2.2 6) 0 0 5)))
def f_X0_findRest (N : Nat) : Nat → US → US → Int32 → Int32 → Int32 → Int32 → Option (US)
  | 0 => fun _ _ _ _ _ _ => none
  | k + 1 => fun q0 q1 q2 q3 q4 q5 => b_X0_findRest N (f_X0_findRest N k) q0 q1 q2 q3 q4 q5
set_option maxRecDepth 100000 in
set_option maxHeartbeats 4000000 in
theorem w_X0_findRest_32 {p : Program} {l : Launch} {e : Env} {s : State} {m : MethodId} {args : Array Value} {below : List Frame} {meth : Method} {c : Code} {G : GG} {A : Nat → Prop} {o_t o_p1 : Nat} {a_p1 a_t : Nat → Nat} {dp : Nat} {N : Nat} {grec : US → US → Int32 → Int32 → Int32 → Int32 → Option (US)} {g32 : US → US → Int32 → Int32 → Int32 → Int32 → Int32 → Option (US)} {v_t : US} {v_p1 : US} {y2 : Int32} {y3 : Int32} {y4 : Int32} {y5 : Int32} {y6 : Int32} {res : US} (C : MC RX0 cX0_findRest 9 none G A p s m args meth c) (hgrec : ∀ {v_t : US} {v_p1 : US} {x2 : Int32} {x3 : Int32} {x4 : Int32} {x5 : Int32} {res : US}, grec v_t v_p1 x2 x3 x4 x5 = some res → MV l yX0_findRest cX0_findRest 9 none (3 + dp) [.ref o_t, .ref o_p1, .int x2, .int x3, .int x4, .int x5] G [uX0 G o_t a_t v_t, uX9 G o_p1 a_p1 v_p1]  [uX0 G o_t a_t res, uX9 G o_p1 a_p1 v_p1]) (hg32 : ∀ {v_t : US} {v_p1 : US} {y2 : Int32} {y3 : Int32} {y4 : Int32} {y5 : Int32} {y6 : Int32}, g32 v_t v_p1 y2 y3 y4 y5 y6 = some res → ∀ {H : Heap} {locs : List Loc} {ls : Array Slot}, HP G A s [uX0 G o_t a_t v_t, uX9 G o_p1 a_p1 v_p1] H locs → lv_has ls 9 [(0, .ref o_t), (1, .ref o_p1), (2, .int y2), (3, .int y3), (4, .int y4), (5, .int y5), (6, .int y6)] → W p l e (rmm (3 + (dp + 1))) s m args below meth c H locs 0 0 (QV below G A args s  [uX0 G o_t a_t res, uX9 G o_p1 a_p1 v_p1]) (F0 m 32 ls [])) (hf : b_X0_findRest_32 N grec g32 v_t v_p1 y2 y3 y4 y5 y6 = some res) {H : Heap} {locs : List Loc} {ls : Array Slot} (h : HP G A s [uX0 G o_t a_t v_t, uX9 G o_p1 a_p1 v_p1] H locs) (hl : lv_has ls 9 [(0, .ref o_t), (1, .ref o_p1), (2, .int y2), (3, .int y3), (4, .int y4), (5, .int y5), (6, .int y6)]) : W p l e (rmm (3 + (dp + 1))) s m args below meth c H locs 0 0 (QV below G A args s  [uX0 G o_t a_t res, uX9 G o_p1 a_p1 v_p1]) (F0 m 32 ls []) := by
  unfold b_X0_findRest_32 at hf
  refine lv_iload C.hx C.hb dX0_findRest_32 (lv_at hl 6 rfl) ?_
  refine lv_aload_n C.hx C.hb dX0_findRest_34 rfl (lv_at hl 0 rfl) ?_
  refine g_get C h fl_X0_9 0 0 rfl rfl (v := .int (v_t.1 1)) rfl dX0_findRest_35 ?_
  refine lv_icmp_ge (tgt := 123) C.hx C.hb dX0_findRest_38 (by decide) (fun zc1 => ?_) (fun zc1 => ?_)
  · replace hf := it_t zc1 hf
    obtain rfl := Option.some.inj hf
    exact g_ret_v C h rfl dX0_findRest_123
  · replace hf := it_f zc1 hf
    refine lv_iload_n C.hx C.hb dX0_findRest_41 rfl (lv_at hl 3 rfl) ?_
    refine lv_iload C.hx C.hb dX0_findRest_42 (lv_at hl 6 rfl) ?_
    obtain ⟨zr2, zq3, hf⟩ := bd_some hf
    have zm4 := c_X11_has l G  (hf := zq3)
    refine g_goI C h zm4.1 (is := []) rfl rfl (g_runN C h (is := []) rfl rfl (As := [.int y3, .int y6]) (rest := []) (zm4.2 _) nf_X0_105 hl.1 rfl rfl (Nat.le_of_ble_eq_true rfl) dX0_findRest_44 ⟨by simp only [rmm]; omega, by simp only [rmm]; omega⟩ ⟨Nat.le_refl _, Nat.le_refl _⟩) (us2 := [uX0 G o_t a_t v_t, uX9 G o_p1 a_p1 v_p1]) rfl (fun H locs h => ?_)
    refine lv_if_eq (tgt := 53) C.hx C.hb dX0_findRest_47 (by decide) (fun zc5 => ?_) (fun zc5 => ?_)
    · replace hf := it_t zc5 hf
      refine lv_aload_n C.hx C.hb dX0_findRest_53 rfl (lv_at hl 0 rfl) ?_
      refine lv_iload C.hx C.hb dX0_findRest_54 (lv_at hl 6 rfl) ?_
      refine lv_iload C.hx C.hb dX0_findRest_56 (lv_at hl 4 rfl) ?_
      obtain ⟨zr6, zq7, hf⟩ := bd_some hf
      have zm8 := c_X0_behind l G o_t a_t (hf := zq7)
      refine g_goI C h zm8.1 (is := [0]) rfl rfl (g_runV C h (is := [0]) rfl rfl (As := [.int y6, .int y4]) (rest := []) (zm8.2 _) vf_X0_109 0 0 rfl rfl hl.1 rfl rfl (Nat.le_of_ble_eq_true rfl) dX0_findRest_58 ⟨by simp only [rmm]; omega, by simp only [rmm]; omega⟩ ⟨Nat.le_refl _, Nat.le_refl _⟩) (us2 := [uX0 G o_t a_t v_t, uX9 G o_p1 a_p1 v_p1]) rfl (fun H locs h => ?_)
      refine lv_istore (lv' := [(7, .int zr6), (0, .ref o_t), (1, .ref o_p1), (2, .int y2), (3, .int y3), (4, .int y4), (5, .int y5), (6, .int y6)]) C.hx C.hb dX0_findRest_61 hl (by decide) rfl (fun ls hl => ?_)
      refine lv_iload C.hx C.hb dX0_findRest_63 (lv_at hl 6 rfl) ?_
      refine lv_aload_n C.hx C.hb dX0_findRest_65 rfl (lv_at hl 2 rfl) ?_
      refine lv_iload C.hx C.hb dX0_findRest_66 (lv_at hl 0 rfl) ?_
      refine lv_iload C.hx C.hb dX0_findRest_68 (lv_at hl 5 rfl) ?_
      refine lv_iconst (v := (-1)) C.hx C.hb dX0_findRest_70 (by decide) ?_
      refine lv_ixor C.hx C.hb dX0_findRest_71 ?_
      refine lv_iand C.hx C.hb dX0_findRest_72 ?_
      obtain ⟨zr9, zq10, hf⟩ := bd_some hf
      have zm11 := c_X9_harmOf l G o_p1 a_p1 N (hf := zq10)
      refine g_goI C h zm11.1 (is := [1]) rfl rfl (g_runV C h (is := [1]) rfl rfl (As := [.int (zr6 &&& (y4 ^^^ (-1)))]) (rest := [.int y5]) (zm11.2 _) vf_X0_113 1 0 rfl rfl hl.1 rfl rfl (Nat.le_of_ble_eq_true rfl) dX0_findRest_73 ⟨by simp only [rmm]; omega, by simp only [rmm]; omega⟩ ⟨Nat.le_refl _, Nat.le_refl _⟩) (us2 := [uX0 G o_t a_t v_t, uX9 G o_p1 a_p1 v_p1]) rfl (fun H locs h => ?_)
      refine lv_iadd C.hx C.hb dX0_findRest_76 ?_
      refine lv_istore (lv' := [(8, .int (y5 + zr9)), (7, .int zr6), (0, .ref o_t), (1, .ref o_p1), (2, .int y2), (3, .int y3), (4, .int y4), (5, .int y5), (6, .int y6)]) C.hx C.hb dX0_findRest_77 hl (by decide) rfl (fun ls hl => ?_)
      refine lv_iload C.hx C.hb dX0_findRest_79 (lv_at hl 0 rfl) ?_
      refine lv_aload_n C.hx C.hb dX0_findRest_81 rfl (lv_at hl 2 rfl) ?_
      refine g_get C h fl_X0_25 0 0 rfl rfl (v := .int (v_t.1 5)) rfl dX0_findRest_82 ?_
      refine lv_icmp_lt (tgt := 91) C.hx C.hb dX0_findRest_85 (by decide) (fun zc12 => ?_) (fun zc12 => ?_)
      · replace hf := it_t zc12 hf
        refine lv_aload_n C.hx C.hb dX0_findRest_91 rfl (lv_at hl 2 rfl) ?_
        refine g_get C h fl_X0_31 0 0 rfl rfl (v := .ref (a_t 7)) rfl dX0_findRest_92 ?_
        refine lv_iload_n C.hx C.hb dX0_findRest_95 rfl (lv_at hl 4 rfl) ?_
        refine lv_iload C.hx C.hb dX0_findRest_96 (lv_at hl 8 rfl) ?_
        obtain ⟨zi13, hf⟩ := ck_some hf
        refine g_iast C h 0 5 rfl rfl (f := v_t.2.2 7) zi13 dX0_findRest_98 (u' := uX0 G o_t a_t (upa v_t 7 y2.toNatClampNeg y6)) (us' := [uX0 G o_t a_t (upa v_t 7 y2.toNatClampNeg y6), uX9 G o_p1 a_p1 v_p1]) rfl rfl (fun H locs h => ?_)
        refine lv_aload_n C.hx C.hb dX0_findRest_99 rfl (lv_at hl 2 rfl) ?_
        refine lv_aload_n C.hx C.hb dX0_findRest_100 rfl (lv_at hl 3 rfl) ?_
        refine lv_iload_n C.hx C.hb dX0_findRest_101 rfl (lv_at hl 4 rfl) ?_
        refine lv_iconst (v := 1) C.hx C.hb dX0_findRest_102 (by decide) ?_
        refine lv_iadd C.hx C.hb dX0_findRest_103 ?_
        refine lv_iload_n C.hx C.hb dX0_findRest_104 rfl (lv_at hl 5 rfl) ?_
        refine lv_iconst (v := 1) C.hx C.hb dX0_findRest_105 (by decide) ?_
        refine lv_iload C.hx C.hb dX0_findRest_106 (lv_at hl 8 rfl) ?_
        refine lv_ishl C.hx C.hb dX0_findRest_108 ?_
        refine lv_ior C.hx C.hb dX0_findRest_109 ?_
        refine lv_iload C.hx C.hb dX0_findRest_110 (lv_at hl 1 rfl) ?_
        refine lv_iload C.hx C.hb dX0_findRest_112 (lv_at hl 0 rfl) ?_
        obtain ⟨zr14, zq15, hf⟩ := bd_some hf
        have zm16 := hgrec zq15
        refine g_goV C h zm16.1 (is := [0, 1]) rfl rfl (g_runV C h (is := [0, 1]) rfl rfl (As := [.ref o_p1, .int (y2 + 1), .int (y3 ||| (1 <<< (y6 &&& 31))), .int zr6, .int (y5 + zr9)]) (rest := []) (zm16.2 _) vf_X0_95 0 0 rfl rfl hl.1 rfl rfl (Nat.le_of_ble_eq_true rfl) dX0_findRest_114 ⟨by simp only [rmm]; omega, by simp only [rmm]; omega⟩ ⟨Nat.le_refl _, Nat.le_refl _⟩) (us2 := [uX0 G o_t a_t zr14, uX9 G o_p1 a_p1 v_p1]) rfl (fun H locs h => ?_)
        refine lv_iinc (v := y6 + 1) (lv' := [(6, .int (y6 + 1)), (8, .int (y5 + zr9)), (7, .int zr6), (0, .ref o_t), (1, .ref o_p1), (2, .int y2), (3, .int y3), (4, .int y4), (5, .int y5)]) C.hx C.hb dX0_findRest_117 hl (k := 8) rfl rfl (by decide) rfl (fun ls hl => ?_)
        refine lv_goto (tgt := 32) C.hx C.hb dX0_findRest_120 (by decide) ?_
        exact hg32 hf h (lv_sub hl [3, 4, 5, 6, 7, 8, 0] rfl)
      · replace hf := it_f zc12 hf
        refine lv_goto (tgt := 117) C.hx C.hb dX0_findRest_88 (by decide) ?_
        refine lv_iinc (v := y6 + 1) (lv' := [(6, .int (y6 + 1)), (8, .int (y5 + zr9)), (7, .int zr6), (0, .ref o_t), (1, .ref o_p1), (2, .int y2), (3, .int y3), (4, .int y4), (5, .int y5)]) C.hx C.hb dX0_findRest_117 hl (k := 8) rfl rfl (by decide) rfl (fun ls hl => ?_)
        refine lv_goto (tgt := 32) C.hx C.hb dX0_findRest_120 (by decide) ?_
        exact hg32 hf h (lv_sub hl [3, 4, 5, 6, 7, 8, 0] rfl)
    · replace hf := it_f zc5 hf
      refine lv_goto (tgt := 117) C.hx C.hb dX0_findRest_50 (by decide) ?_
      refine lv_iinc (v := y6 + 1) (lv' := [(6, .int (y6 + 1)), (0, .ref o_t), (1, .ref o_p1), (2, .int y2), (3, .int y3), (4, .int y4), (5, .int y5)]) C.hx C.hb dX0_findRest_117 hl (k := 6) rfl rfl (by decide) rfl (fun ls hl => ?_)
      refine lv_goto (tgt := 32) C.hx C.hb dX0_findRest_120 (by decide) ?_
      exact hg32 hf h (lv_sub hl [1, 2, 3, 4, 5, 6, 0] rfl)
set_option maxRecDepth 100000 in
set_option maxHeartbeats 4000000 in
theorem l_X0_findRest_32 {p : Program} {l : Launch} {e : Env} {s : State} {m : MethodId} {args : Array Value} {below : List Frame} {meth : Method} {c : Code} {G : GG} {A : Nat → Prop} {o_t o_p1 : Nat} {a_p1 a_t : Nat → Nat} {dp : Nat} {N : Nat} {grec : US → US → Int32 → Int32 → Int32 → Int32 → Option (US)}  {res : US} (C : MC RX0 cX0_findRest 9 none G A p s m args meth c) (hgrec : ∀ {v_t : US} {v_p1 : US} {x2 : Int32} {x3 : Int32} {x4 : Int32} {x5 : Int32} {res : US}, grec v_t v_p1 x2 x3 x4 x5 = some res → MV l yX0_findRest cX0_findRest 9 none (3 + dp) [.ref o_t, .ref o_p1, .int x2, .int x3, .int x4, .int x5] G [uX0 G o_t a_t v_t, uX9 G o_p1 a_p1 v_p1]  [uX0 G o_t a_t res, uX9 G o_p1 a_p1 v_p1])  : ∀ (k : Nat) {v_t : US} {v_p1 : US} {y2 : Int32} {y3 : Int32} {y4 : Int32} {y5 : Int32} {y6 : Int32}, f_X0_findRest_32 N grec k v_t v_p1 y2 y3 y4 y5 y6 = some res → ∀ {H : Heap} {locs : List Loc} {ls : Array Slot}, HP G A s [uX0 G o_t a_t v_t, uX9 G o_p1 a_p1 v_p1] H locs → lv_has ls 9 [(0, .ref o_t), (1, .ref o_p1), (2, .int y2), (3, .int y3), (4, .int y4), (5, .int y5), (6, .int y6)] → W p l e (rmm (3 + (dp + 1))) s m args below meth c H locs 0 0 (QV below G A args s  [uX0 G o_t a_t res, uX9 G o_p1 a_p1 v_p1]) (F0 m 32 ls []) := by
  intro k
  induction k with
  | zero => intros; contradiction
  | succ k ih =>
    intro v_t v_p1 y2 y3 y4 y5 y6 hf H locs ls h hl
    exact w_X0_findRest_32 (N := N) C hgrec ih hf h hl
set_option maxRecDepth 100000 in
set_option maxHeartbeats 4000000 in
theorem c_X0_findRest (l : Launch) (G : GG) (o_t o_p1 : Nat) (a_p1 a_t : Nat → Nat) (N : Nat) : ∀ (dp : Nat) {v_t : US} {v_p1 : US} {x2 : Int32} {x3 : Int32} {x4 : Int32} {x5 : Int32} {res : US}, f_X0_findRest N dp v_t v_p1 x2 x3 x4 x5 = some res → MV l yX0_findRest cX0_findRest 9 none (3 + dp) [.ref o_t, .ref o_p1, .int x2, .int x3, .int x4, .int x5] G [uX0 G o_t a_t v_t, uX9 G o_p1 a_p1 v_p1]  [uX0 G o_t a_t res, uX9 G o_p1 a_p1 v_p1] := by
  intro dp
  induction dp with
  | zero => intros; contradiction
  | succ dp ih =>
    intro v_t v_p1 x2 x3 x4 x5 res hf
    have hf : b_X0_findRest N (f_X0_findRest N dp) v_t v_p1 x2 x3 x4 x5 = some res := hf
    have hgrec := @ih
    unfold b_X0_findRest at hf
    refine MV.intro (by decide) rfl (Nat.le_of_ble_eq_true rfl) (fun p e s m args below meth c A ls C h hl => ?_)
    have C : MC RX0 cX0_findRest 9 none G A p s m args meth c := C
    have hl : lv_has ls 9 [(0, .ref o_t), (1, .ref o_p1), (2, .int x2), (3, .int x3), (4, .int x4), (5, .int x5)] := hl
    refine lv_iload_n C.hx C.hb dX0_findRest_0 rfl (lv_at hl 2 rfl) ?_
    refine lv_aload_n C.hx C.hb dX0_findRest_1 rfl (lv_at hl 0 rfl) ?_
    refine g_get C h fl_X0_9 0 0 rfl rfl (v := .int (v_t.1 1)) rfl dX0_findRest_2 ?_
    refine lv_icmp_lt (tgt := 29) C.hx C.hb dX0_findRest_5 (by decide) (fun zc1 => ?_) (fun zc1 => ?_)
    · replace hf := it_t zc1 hf
      refine lv_iconst (v := 0) C.hx C.hb dX0_findRest_29 (by decide) ?_
      refine lv_istore (lv' := [(6, .int 0), (0, .ref o_t), (1, .ref o_p1), (2, .int x2), (3, .int x3), (4, .int x4), (5, .int x5)]) C.hx C.hb dX0_findRest_30 hl (by decide) rfl (fun ls hl => ?_)
      exact l_X0_findRest_32 C hgrec N hf h (lv_sub hl [1, 2, 3, 4, 5, 6, 0] rfl)
    · replace hf := it_f zc1 hf
      refine lv_aload_n C.hx C.hb dX0_findRest_8 rfl (lv_at hl 0 rfl) ?_
      refine lv_iload C.hx C.hb dX0_findRest_9 (lv_at hl 5 rfl) ?_
      refine g_put C h fp_X0_25 0 0 rfl rfl rfl rfl (Nat.le_of_ble_eq_true rfl) dX0_findRest_11 (u' := uX0 G o_t a_t (upi v_t 5 x5)) (us' := [uX0 G o_t a_t (upi v_t 5 x5), uX9 G o_p1 a_p1 v_p1]) rfl rfl (fun H locs h => ?_)
      refine lv_aload_n C.hx C.hb dX0_findRest_14 rfl (lv_at hl 0 rfl) ?_
      refine g_get C h fl_X0_31 0 0 rfl rfl (v := .ref (a_t 7)) rfl dX0_findRest_15 ?_
      refine lv_iconst (v := 0) C.hx C.hb dX0_findRest_18 (by decide) ?_
      refine lv_aload_n C.hx C.hb dX0_findRest_19 rfl (lv_at hl 0 rfl) ?_
      refine g_get C h fl_X0_28 0 0 rfl rfl (v := .ref (a_t 6)) rfl dX0_findRest_20 ?_
      refine lv_iconst (v := 0) C.hx C.hb dX0_findRest_23 (by decide) ?_
      refine lv_iconst (v := 5) C.hx C.hb dX0_findRest_24 (by decide) ?_
      obtain ⟨zw2, hzw2, hf⟩ := bnd_some hf
      rw [← hzw2] at h
      refine g_copy C h hl.1 ml_X0_99 ac_n ac_s ac_i 0 5 0 4 rfl rfl (f := zw2.2.2 7) (g := zw2.2.2 6) rfl rfl 0 0 5 (by decide) (Nat.le_of_ble_eq_true rfl) (Nat.le_of_ble_eq_true rfl) (by simp only [rmm]; omega) (Nat.le_trans (m := 60) (by decide) (by simp only [rmm]; omega)) dX0_findRest_25 (u' := uX0 G o_t a_t (upr zw2 6 (va_cpy (zw2.2.2 7) (zw2.2.2 6) 0 0 5))) (us' := [uX0 G o_t a_t (upr zw2 6 (va_cpy (zw2.2.2 7) (zw2.2.2 6) 0 0 5)), uX9 G o_p1 a_p1 v_p1]) rfl rfl (fun H locs h => ?_)
      obtain rfl := Option.some.inj hf
      exact g_ret_v C h rfl dX0_findRest_28

def f_X0_findOrder (N : Nat) (v_t : US) (v_p1 : US) (v_t_swing : US)  : Option (US × US) :=
  (f_X0_look N v_t v_p1 v_t_swing (v_p1.1 5)).bind fun zr1 => (f_X0_findRest N 6 (upi zr1.1 5 1000000) v_p1 0 0 (v_p1.1 7) 0).bind fun zr4 => some (zr4, zr1.2)
set_option maxRecDepth 100000 in
set_option maxHeartbeats 4000000 in
theorem c_X0_findOrder (l : Launch) (G : GG) (o_t o_p1 : Nat) (a_p1 a_t a_t_swing a_t_swing_kinds : Nat → Nat) (N : Nat) {v_t : US} {v_p1 : US} {v_t_swing : US}  {res : US × US} (hf : f_X0_findOrder N v_t v_p1 v_t_swing = some res) : MV l yX0_findOrder cX0_findOrder 2 none 10 [.ref o_t, .ref o_p1] G [uX0 G o_t a_t v_t, uX9 G o_p1 a_p1 v_p1, uX8 G (a_t 0) a_t_swing v_t_swing, uX2 G (a_t_swing 0) a_t_swing_kinds]  [uX0 G o_t a_t res.1, uX9 G o_p1 a_p1 v_p1, uX8 G (a_t 0) a_t_swing res.2, uX2 G (a_t_swing 0) a_t_swing_kinds] := by
  unfold f_X0_findOrder at hf
  refine MV.intro (by decide) rfl (Nat.le_of_ble_eq_true rfl) (fun p e s m args below meth c A ls C h hl => ?_)
  have C : MC RX0 cX0_findOrder 2 none G A p s m args meth c := C
  have hl : lv_has ls 2 [(0, .ref o_t), (1, .ref o_p1)] := hl
  refine lv_aload_n C.hx C.hb dX0_findOrder_0 rfl (lv_at hl 0 rfl) ?_
  refine lv_aload_n C.hx C.hb dX0_findOrder_1 rfl (lv_at hl 1 rfl) ?_
  refine lv_aload_n C.hx C.hb dX0_findOrder_2 rfl (lv_at hl 1 rfl) ?_
  refine g_get C h fl_X0_84 1 0 rfl rfl (v := .int (v_p1.1 5)) rfl dX0_findOrder_3 ?_
  obtain ⟨zr1, zq2, hf⟩ := bd_some hf
  have zm3 := c_X0_look l G o_t o_p1 a_p1 a_t a_t_swing a_t_swing_kinds N (hf := zq2)
  refine g_goV C h zm3.1 (is := [0, 1, 2, 3]) rfl rfl (g_runV C h (is := [0, 1, 2, 3]) rfl rfl (As := [.ref o_p1, .int (v_p1.1 5)]) (rest := []) (zm3.2 _) vf_X0_87 0 0 rfl rfl hl.1 rfl rfl (Nat.le_of_ble_eq_true rfl) dX0_findOrder_6 ⟨Nat.le_of_ble_eq_true rfl, Nat.le_of_ble_eq_true rfl⟩ ⟨Nat.le_refl _, Nat.le_refl _⟩) (us2 := [uX0 G o_t a_t zr1.1, uX9 G o_p1 a_p1 v_p1, uX8 G (a_t 0) a_t_swing zr1.2, uX2 G (a_t_swing 0) a_t_swing_kinds]) rfl (fun H locs h => ?_)
  refine lv_aload_n C.hx C.hb dX0_findOrder_9 rfl (lv_at hl 0 rfl) ?_
  refine lv_ldc C.hx C.hb C.hown (C.hts _ cw_X0_91) dX0_findOrder_10 ?_
  refine g_put C h fp_X0_25 0 0 rfl rfl rfl rfl (Nat.le_of_ble_eq_true rfl) dX0_findOrder_12 (u' := uX0 G o_t a_t (upi zr1.1 5 1000000)) (us' := [uX0 G o_t a_t (upi zr1.1 5 1000000), uX9 G o_p1 a_p1 v_p1, uX8 G (a_t 0) a_t_swing zr1.2, uX2 G (a_t_swing 0) a_t_swing_kinds]) rfl rfl (fun H locs h => ?_)
  refine lv_aload_n C.hx C.hb dX0_findOrder_15 rfl (lv_at hl 0 rfl) ?_
  refine lv_aload_n C.hx C.hb dX0_findOrder_16 rfl (lv_at hl 1 rfl) ?_
  refine lv_iconst (v := 0) C.hx C.hb dX0_findOrder_17 (by decide) ?_
  refine lv_iconst (v := 0) C.hx C.hb dX0_findOrder_18 (by decide) ?_
  refine lv_aload_n C.hx C.hb dX0_findOrder_19 rfl (lv_at hl 1 rfl) ?_
  refine g_get C h fl_X0_92 1 0 rfl rfl (v := .int (v_p1.1 7)) rfl dX0_findOrder_20 ?_
  refine lv_iconst (v := 0) C.hx C.hb dX0_findOrder_23 (by decide) ?_
  obtain ⟨zr4, zq5, hf⟩ := bd_some hf
  have zm6 := c_X0_findRest l G o_t o_p1 a_p1 a_t N 6 zq5
  refine g_goV C h zm6.1 (is := [0, 1]) rfl rfl (g_runV C h (is := [0, 1]) rfl rfl (As := [.ref o_p1, .int 0, .int 0, .int (v_p1.1 7), .int 0]) (rest := []) (zm6.2 _) vf_X0_95 0 0 rfl rfl hl.1 rfl rfl (Nat.le_of_ble_eq_true rfl) dX0_findOrder_24 ⟨Nat.le_of_ble_eq_true rfl, Nat.le_of_ble_eq_true rfl⟩ ⟨Nat.le_refl _, Nat.le_refl _⟩) (us2 := [uX0 G o_t a_t zr4, uX9 G o_p1 a_p1 v_p1, uX8 G (a_t 0) a_t_swing zr1.2, uX2 G (a_t_swing 0) a_t_swing_kinds]) rfl (fun H locs h => ?_)
  obtain rfl := Option.some.inj hf
  exact g_ret_v C h rfl dX0_findOrder_27

def b_X0_howManyEndAt_4 (N : Nat) (g4 : US → Int32 → Int32 → Int32 → Option (Int32)) (v_t : US) (y1 : Int32) (y2 : Int32) (y3 : Int32) : Option (Int32) :=
  if (1 <<< ((v_t.1 1) &&& 31)) ≤ y3 then (some (y2)) else (if y3 < 0 ∨ 32 ≤ y3.toNatClampNeg then none else (if ((v_t.2.2 12) y3.toNatClampNeg) = y1 then (g4 v_t y1 (y2 + 1) (y3 + 1)) else (g4 v_t y1 y2 (y3 + 1))))
def f_X0_howManyEndAt_4 (N : Nat)  : Nat → US → Int32 → Int32 → Int32 → Option (Int32)
  | 0 => fun _ _ _ _ => none
  | k + 1 => fun q0 q1 q2 q3 => b_X0_howManyEndAt_4 N  (f_X0_howManyEndAt_4 N  k) q0 q1 q2 q3
def f_X0_howManyEndAt (N : Nat) (v_t : US) (x1 : Int32) : Option (Int32) :=
  f_X0_howManyEndAt_4 N N v_t x1 0 0
set_option maxRecDepth 100000 in
set_option maxHeartbeats 4000000 in
theorem w_X0_howManyEndAt_4 {p : Program} {l : Launch} {e : Env} {s : State} {m : MethodId} {args : Array Value} {below : List Frame} {meth : Method} {c : Code} {G : GG} {A : Nat → Prop} {o_t : Nat} {a_t : Nat → Nat} {N : Nat} {g4 : US → Int32 → Int32 → Int32 → Option (Int32)} {v_t : US} {y1 : Int32} {y2 : Int32} {y3 : Int32} {res : Int32} (C : MC RX0 cX0_howManyEndAt 4 (some .int) G A p s m args meth c) (hg4 : ∀ {v_t : US} {y1 : Int32} {y2 : Int32} {y3 : Int32}, g4 v_t y1 y2 y3 = some res → ∀ {H : Heap} {locs : List Loc} {ls : Array Slot}, HP G A s [uX0 G o_t a_t v_t] H locs → lv_has ls 4 [(0, .ref o_t), (1, .int y1), (2, .int y2), (3, .int y3)] → W p l e (rmm 1) s m args below meth c H locs 0 0 (QI below G A args s res [uX0 G o_t a_t v_t]) (F0 m 4 ls [])) (hf : b_X0_howManyEndAt_4 N g4 v_t y1 y2 y3 = some res) {H : Heap} {locs : List Loc} {ls : Array Slot} (h : HP G A s [uX0 G o_t a_t v_t] H locs) (hl : lv_has ls 4 [(0, .ref o_t), (1, .int y1), (2, .int y2), (3, .int y3)]) : W p l e (rmm 1) s m args below meth c H locs 0 0 (QI below G A args s res [uX0 G o_t a_t v_t]) (F0 m 4 ls []) := by
  unfold b_X0_howManyEndAt_4 at hf
  refine lv_iload_n C.hx C.hb dX0_howManyEndAt_4 rfl (lv_at hl 3 rfl) ?_
  refine lv_iconst (v := 1) C.hx C.hb dX0_howManyEndAt_5 (by decide) ?_
  refine lv_aload_n C.hx C.hb dX0_howManyEndAt_6 rfl (lv_at hl 0 rfl) ?_
  refine g_get C h fl_X0_9 0 0 rfl rfl (v := .int (v_t.1 1)) rfl dX0_howManyEndAt_7 ?_
  refine lv_ishl C.hx C.hb dX0_howManyEndAt_10 ?_
  refine lv_icmp_ge (tgt := 33) C.hx C.hb dX0_howManyEndAt_11 (by decide) (fun zc1 => ?_) (fun zc1 => ?_)
  · replace hf := it_t zc1 hf
    refine lv_iload_n C.hx C.hb dX0_howManyEndAt_33 rfl (lv_at hl 2 rfl) ?_
    obtain rfl := Option.some.inj hf
    exact g_ret_i C h rfl rfl dX0_howManyEndAt_34
  · replace hf := it_f zc1 hf
    refine lv_aload_n C.hx C.hb dX0_howManyEndAt_14 rfl (lv_at hl 0 rfl) ?_
    refine g_get C h fl_X0_46 0 0 rfl rfl (v := .ref (a_t 12)) rfl dX0_howManyEndAt_15 ?_
    refine lv_iload_n C.hx C.hb dX0_howManyEndAt_18 rfl (lv_at hl 3 rfl) ?_
    obtain ⟨zi2, hf⟩ := ck_some hf
    refine g_iald C h 0 10 rfl rfl (f := v_t.2.2 12) zi2 dX0_howManyEndAt_19 ?_
    refine lv_iload_n C.hx C.hb dX0_howManyEndAt_20 rfl (lv_at hl 1 rfl) ?_
    refine lv_icmp_ne (tgt := 27) C.hx C.hb dX0_howManyEndAt_21 (by decide) (fun zc3 => ?_) (fun zc3 => ?_)
    · replace hf := it_f zc3 hf
      refine lv_iinc (v := y3 + 1) (lv' := [(3, .int (y3 + 1)), (0, .ref o_t), (1, .int y1), (2, .int y2)]) C.hx C.hb dX0_howManyEndAt_27 hl (k := 3) rfl rfl (by decide) rfl (fun ls hl => ?_)
      refine lv_goto (tgt := 4) C.hx C.hb dX0_howManyEndAt_30 (by decide) ?_
      exact hg4 hf h (lv_sub hl [1, 2, 3, 0] rfl)
    · replace hf := it_t zc3 hf
      refine lv_iinc (v := y2 + 1) (lv' := [(2, .int (y2 + 1)), (0, .ref o_t), (1, .int y1), (3, .int y3)]) C.hx C.hb dX0_howManyEndAt_24 hl (k := 2) rfl rfl (by decide) rfl (fun ls hl => ?_)
      refine lv_iinc (v := y3 + 1) (lv' := [(3, .int (y3 + 1)), (2, .int (y2 + 1)), (0, .ref o_t), (1, .int y1)]) C.hx C.hb dX0_howManyEndAt_27 hl (k := 3) rfl rfl (by decide) rfl (fun ls hl => ?_)
      refine lv_goto (tgt := 4) C.hx C.hb dX0_howManyEndAt_30 (by decide) ?_
      exact hg4 hf h (lv_sub hl [2, 3, 1, 0] rfl)
set_option maxRecDepth 100000 in
set_option maxHeartbeats 4000000 in
theorem l_X0_howManyEndAt_4 {p : Program} {l : Launch} {e : Env} {s : State} {m : MethodId} {args : Array Value} {below : List Frame} {meth : Method} {c : Code} {G : GG} {A : Nat → Prop} {o_t : Nat} {a_t : Nat → Nat} {N : Nat}  {res : Int32} (C : MC RX0 cX0_howManyEndAt 4 (some .int) G A p s m args meth c)  : ∀ (k : Nat) {v_t : US} {y1 : Int32} {y2 : Int32} {y3 : Int32}, f_X0_howManyEndAt_4 N k v_t y1 y2 y3 = some res → ∀ {H : Heap} {locs : List Loc} {ls : Array Slot}, HP G A s [uX0 G o_t a_t v_t] H locs → lv_has ls 4 [(0, .ref o_t), (1, .int y1), (2, .int y2), (3, .int y3)] → W p l e (rmm 1) s m args below meth c H locs 0 0 (QI below G A args s res [uX0 G o_t a_t v_t]) (F0 m 4 ls []) := by
  intro k
  induction k with
  | zero => intros; contradiction
  | succ k ih =>
    intro v_t y1 y2 y3 hf H locs ls h hl
    exact w_X0_howManyEndAt_4 (N := N) C ih hf h hl
set_option maxRecDepth 100000 in
set_option maxHeartbeats 4000000 in
theorem c_X0_howManyEndAt (l : Launch) (G : GG) (o_t : Nat) (a_t : Nat → Nat) (N : Nat) {v_t : US} {x1 : Int32} {res : Int32} (hf : f_X0_howManyEndAt N v_t x1 = some res) : MI l yX0_howManyEndAt cX0_howManyEndAt 4 (some .int) 1 [.ref o_t, .int x1] G [uX0 G o_t a_t v_t] res [uX0 G o_t a_t v_t] := by
  unfold f_X0_howManyEndAt at hf
  refine MI.intro (by decide) rfl (Nat.le_of_ble_eq_true rfl) (fun p e s m args below meth c A ls C h hl => ?_)
  have C : MC RX0 cX0_howManyEndAt 4 (some .int) G A p s m args meth c := C
  have hl : lv_has ls 4 [(0, .ref o_t), (1, .int x1)] := hl
  refine lv_iconst (v := 0) C.hx C.hb dX0_howManyEndAt_0 (by decide) ?_
  refine lv_istore_n (lv' := [(2, .int 0), (0, .ref o_t), (1, .int x1)]) C.hx C.hb dX0_howManyEndAt_1 rfl hl (by decide) rfl (fun ls hl => ?_)
  refine lv_iconst (v := 0) C.hx C.hb dX0_howManyEndAt_2 (by decide) ?_
  refine lv_istore_n (lv' := [(3, .int 0), (2, .int 0), (0, .ref o_t), (1, .int x1)]) C.hx C.hb dX0_howManyEndAt_3 rfl hl (by decide) rfl (fun ls hl => ?_)
  exact l_X0_howManyEndAt_4 C N hf h (lv_sub hl [2, 3, 1, 0] rfl)

def b_X0_leastThatEndsAt_2 (N : Nat) (g2 : US → Int32 → Int32 → Option (Int32)) (v_t : US) (y1 : Int32) (y2 : Int32) : Option (Int32) :=
  if (1 <<< ((v_t.1 1) &&& 31)) ≤ y2 then (some ((-1))) else (if y2 < 0 ∨ 32 ≤ y2.toNatClampNeg then none else (if ((v_t.2.2 12) y2.toNatClampNeg) = y1 then (some (y2)) else (g2 v_t y1 (y2 + 1))))
def f_X0_leastThatEndsAt_2 (N : Nat)  : Nat → US → Int32 → Int32 → Option (Int32)
  | 0 => fun _ _ _ => none
  | k + 1 => fun q0 q1 q2 => b_X0_leastThatEndsAt_2 N  (f_X0_leastThatEndsAt_2 N  k) q0 q1 q2
def f_X0_leastThatEndsAt (N : Nat) (v_t : US) (x1 : Int32) : Option (Int32) :=
  f_X0_leastThatEndsAt_2 N N v_t x1 0
set_option maxRecDepth 100000 in
set_option maxHeartbeats 4000000 in
theorem w_X0_leastThatEndsAt_2 {p : Program} {l : Launch} {e : Env} {s : State} {m : MethodId} {args : Array Value} {below : List Frame} {meth : Method} {c : Code} {G : GG} {A : Nat → Prop} {o_t : Nat} {a_t : Nat → Nat} {N : Nat} {g2 : US → Int32 → Int32 → Option (Int32)} {v_t : US} {y1 : Int32} {y2 : Int32} {res : Int32} (C : MC RX0 cX0_leastThatEndsAt 3 (some .int) G A p s m args meth c) (hg2 : ∀ {v_t : US} {y1 : Int32} {y2 : Int32}, g2 v_t y1 y2 = some res → ∀ {H : Heap} {locs : List Loc} {ls : Array Slot}, HP G A s [uX0 G o_t a_t v_t] H locs → lv_has ls 3 [(0, .ref o_t), (1, .int y1), (2, .int y2)] → W p l e (rmm 1) s m args below meth c H locs 0 0 (QI below G A args s res [uX0 G o_t a_t v_t]) (F0 m 2 ls [])) (hf : b_X0_leastThatEndsAt_2 N g2 v_t y1 y2 = some res) {H : Heap} {locs : List Loc} {ls : Array Slot} (h : HP G A s [uX0 G o_t a_t v_t] H locs) (hl : lv_has ls 3 [(0, .ref o_t), (1, .int y1), (2, .int y2)]) : W p l e (rmm 1) s m args below meth c H locs 0 0 (QI below G A args s res [uX0 G o_t a_t v_t]) (F0 m 2 ls []) := by
  unfold b_X0_leastThatEndsAt_2 at hf
  refine lv_iload_n C.hx C.hb dX0_leastThatEndsAt_2 rfl (lv_at hl 2 rfl) ?_
  refine lv_iconst (v := 1) C.hx C.hb dX0_leastThatEndsAt_3 (by decide) ?_
  refine lv_aload_n C.hx C.hb dX0_leastThatEndsAt_4 rfl (lv_at hl 0 rfl) ?_
  refine g_get C h fl_X0_9 0 0 rfl rfl (v := .int (v_t.1 1)) rfl dX0_leastThatEndsAt_5 ?_
  refine lv_ishl C.hx C.hb dX0_leastThatEndsAt_8 ?_
  refine lv_icmp_ge (tgt := 30) C.hx C.hb dX0_leastThatEndsAt_9 (by decide) (fun zc1 => ?_) (fun zc1 => ?_)
  · replace hf := it_t zc1 hf
    refine lv_iconst (v := (-1)) C.hx C.hb dX0_leastThatEndsAt_30 (by decide) ?_
    obtain rfl := Option.some.inj hf
    exact g_ret_i C h rfl rfl dX0_leastThatEndsAt_31
  · replace hf := it_f zc1 hf
    refine lv_aload_n C.hx C.hb dX0_leastThatEndsAt_12 rfl (lv_at hl 0 rfl) ?_
    refine g_get C h fl_X0_46 0 0 rfl rfl (v := .ref (a_t 12)) rfl dX0_leastThatEndsAt_13 ?_
    refine lv_iload_n C.hx C.hb dX0_leastThatEndsAt_16 rfl (lv_at hl 2 rfl) ?_
    obtain ⟨zi2, hf⟩ := ck_some hf
    refine g_iald C h 0 10 rfl rfl (f := v_t.2.2 12) zi2 dX0_leastThatEndsAt_17 ?_
    refine lv_iload_n C.hx C.hb dX0_leastThatEndsAt_18 rfl (lv_at hl 1 rfl) ?_
    refine lv_icmp_ne (tgt := 24) C.hx C.hb dX0_leastThatEndsAt_19 (by decide) (fun zc3 => ?_) (fun zc3 => ?_)
    · replace hf := it_f zc3 hf
      refine lv_iinc (v := y2 + 1) (lv' := [(2, .int (y2 + 1)), (0, .ref o_t), (1, .int y1)]) C.hx C.hb dX0_leastThatEndsAt_24 hl (k := 2) rfl rfl (by decide) rfl (fun ls hl => ?_)
      refine lv_goto (tgt := 2) C.hx C.hb dX0_leastThatEndsAt_27 (by decide) ?_
      exact hg2 hf h (lv_sub hl [1, 2, 0] rfl)
    · replace hf := it_t zc3 hf
      refine lv_iload_n C.hx C.hb dX0_leastThatEndsAt_22 rfl (lv_at hl 2 rfl) ?_
      obtain rfl := Option.some.inj hf
      exact g_ret_i C h rfl rfl dX0_leastThatEndsAt_23
set_option maxRecDepth 100000 in
set_option maxHeartbeats 4000000 in
theorem l_X0_leastThatEndsAt_2 {p : Program} {l : Launch} {e : Env} {s : State} {m : MethodId} {args : Array Value} {below : List Frame} {meth : Method} {c : Code} {G : GG} {A : Nat → Prop} {o_t : Nat} {a_t : Nat → Nat} {N : Nat}  {res : Int32} (C : MC RX0 cX0_leastThatEndsAt 3 (some .int) G A p s m args meth c)  : ∀ (k : Nat) {v_t : US} {y1 : Int32} {y2 : Int32}, f_X0_leastThatEndsAt_2 N k v_t y1 y2 = some res → ∀ {H : Heap} {locs : List Loc} {ls : Array Slot}, HP G A s [uX0 G o_t a_t v_t] H locs → lv_has ls 3 [(0, .ref o_t), (1, .int y1), (2, .int y2)] → W p l e (rmm 1) s m args below meth c H locs 0 0 (QI below G A args s res [uX0 G o_t a_t v_t]) (F0 m 2 ls []) := by
  intro k
  induction k with
  | zero => intros; contradiction
  | succ k ih =>
    intro v_t y1 y2 hf H locs ls h hl
    exact w_X0_leastThatEndsAt_2 (N := N) C ih hf h hl
set_option maxRecDepth 100000 in
set_option maxHeartbeats 4000000 in
theorem c_X0_leastThatEndsAt (l : Launch) (G : GG) (o_t : Nat) (a_t : Nat → Nat) (N : Nat) {v_t : US} {x1 : Int32} {res : Int32} (hf : f_X0_leastThatEndsAt N v_t x1 = some res) : MI l yX0_leastThatEndsAt cX0_leastThatEndsAt 3 (some .int) 1 [.ref o_t, .int x1] G [uX0 G o_t a_t v_t] res [uX0 G o_t a_t v_t] := by
  unfold f_X0_leastThatEndsAt at hf
  refine MI.intro (by decide) rfl (Nat.le_of_ble_eq_true rfl) (fun p e s m args below meth c A ls C h hl => ?_)
  have C : MC RX0 cX0_leastThatEndsAt 3 (some .int) G A p s m args meth c := C
  have hl : lv_has ls 3 [(0, .ref o_t), (1, .int x1)] := hl
  refine lv_iconst (v := 0) C.hx C.hb dX0_leastThatEndsAt_0 (by decide) ?_
  refine lv_istore_n (lv' := [(2, .int 0), (0, .ref o_t), (1, .int x1)]) C.hx C.hb dX0_leastThatEndsAt_1 rfl hl (by decide) rfl (fun ls hl => ?_)
  exact l_X0_leastThatEndsAt_2 C N hf h (lv_sub hl [1, 2, 0] rfl)

def b_X0_stepTo_12 (N : Nat) (g12 : US → Int32 → Int32 → Int32 → Option (Int32)) (v_t : US) (y2 : Int32) (y3 : Int32) (y4 : Int32) : Option (Int32) :=
  if y4 ≤ y2 then (if y3 < 0 ∨ 32 ≤ y3.toNatClampNeg then none else (some ((v_t.2.2 10) y3.toNatClampNeg))) else (if y3 < 0 ∨ 32 ≤ y3.toNatClampNeg then none else (g12 v_t y2 ((v_t.2.2 9) y3.toNatClampNeg) (y4 + (-1))))
def f_X0_stepTo_12 (N : Nat)  : Nat → US → Int32 → Int32 → Int32 → Option (Int32)
  | 0 => fun _ _ _ _ => none
  | k + 1 => fun q0 q1 q2 q3 => b_X0_stepTo_12 N  (f_X0_stepTo_12 N  k) q0 q1 q2 q3
def f_X0_stepTo (N : Nat) (v_t : US) (x1 : Int32) (x2 : Int32) : Option (Int32) :=
  if x1 < 0 ∨ 32 ≤ x1.toNatClampNeg then none else (f_X0_stepTo_12 N N v_t x2 x1 (((v_t.2.2 8) x1.toNatClampNeg) - 1))
set_option maxRecDepth 100000 in
set_option maxHeartbeats 4000000 in
theorem w_X0_stepTo_12 {p : Program} {l : Launch} {e : Env} {s : State} {m : MethodId} {args : Array Value} {below : List Frame} {meth : Method} {c : Code} {G : GG} {A : Nat → Prop} {o_t : Nat} {a_t : Nat → Nat} {N : Nat} {g12 : US → Int32 → Int32 → Int32 → Option (Int32)} {v_t : US} {y2 : Int32} {y3 : Int32} {y4 : Int32} {res : Int32} (C : MC RX0 cX0_stepTo 5 (some .int) G A p s m args meth c) (hg12 : ∀ {v_t : US} {y2 : Int32} {y3 : Int32} {y4 : Int32}, g12 v_t y2 y3 y4 = some res → ∀ {H : Heap} {locs : List Loc} {ls : Array Slot}, HP G A s [uX0 G o_t a_t v_t] H locs → lv_has ls 5 [(0, .ref o_t), (2, .int y2), (3, .int y3), (4, .int y4)] → W p l e (rmm 1) s m args below meth c H locs 0 0 (QI below G A args s res [uX0 G o_t a_t v_t]) (F0 m 12 ls [])) (hf : b_X0_stepTo_12 N g12 v_t y2 y3 y4 = some res) {H : Heap} {locs : List Loc} {ls : Array Slot} (h : HP G A s [uX0 G o_t a_t v_t] H locs) (hl : lv_has ls 5 [(0, .ref o_t), (2, .int y2), (3, .int y3), (4, .int y4)]) : W p l e (rmm 1) s m args below meth c H locs 0 0 (QI below G A args s res [uX0 G o_t a_t v_t]) (F0 m 12 ls []) := by
  unfold b_X0_stepTo_12 at hf
  refine lv_iload C.hx C.hb dX0_stepTo_12 (lv_at hl 3 rfl) ?_
  refine lv_iload_n C.hx C.hb dX0_stepTo_14 rfl (lv_at hl 1 rfl) ?_
  refine lv_icmp_le (tgt := 31) C.hx C.hb dX0_stepTo_15 (by decide) (fun zc1 => ?_) (fun zc1 => ?_)
  · replace hf := it_t zc1 hf
    refine lv_aload_n C.hx C.hb dX0_stepTo_31 rfl (lv_at hl 0 rfl) ?_
    refine g_get C h fl_X0_40 0 0 rfl rfl (v := .ref (a_t 10)) rfl dX0_stepTo_32 ?_
    refine lv_iload_n C.hx C.hb dX0_stepTo_35 rfl (lv_at hl 2 rfl) ?_
    obtain ⟨zi2, hf⟩ := ck_some hf
    refine g_iald C h 0 8 rfl rfl (f := v_t.2.2 10) zi2 dX0_stepTo_36 ?_
    obtain rfl := Option.some.inj hf
    exact g_ret_i C h rfl rfl dX0_stepTo_37
  · replace hf := it_f zc1 hf
    refine lv_aload_n C.hx C.hb dX0_stepTo_18 rfl (lv_at hl 0 rfl) ?_
    refine g_get C h fl_X0_37 0 0 rfl rfl (v := .ref (a_t 9)) rfl dX0_stepTo_19 ?_
    refine lv_iload_n C.hx C.hb dX0_stepTo_22 rfl (lv_at hl 2 rfl) ?_
    obtain ⟨zi3, hf⟩ := ck_some hf
    refine g_iald C h 0 7 rfl rfl (f := v_t.2.2 9) zi3 dX0_stepTo_23 ?_
    refine lv_istore_n (lv' := [(3, .int ((v_t.2.2 9) y3.toNatClampNeg)), (0, .ref o_t), (2, .int y2), (4, .int y4)]) C.hx C.hb dX0_stepTo_24 rfl hl (by decide) rfl (fun ls hl => ?_)
    refine lv_iinc (v := y4 + (-1)) (lv' := [(4, .int (y4 + (-1))), (3, .int ((v_t.2.2 9) y3.toNatClampNeg)), (0, .ref o_t), (2, .int y2)]) C.hx C.hb dX0_stepTo_25 hl (k := 3) rfl rfl (by decide) rfl (fun ls hl => ?_)
    refine lv_goto (tgt := 12) C.hx C.hb dX0_stepTo_28 (by decide) ?_
    exact hg12 hf h (lv_sub hl [2, 3, 1, 0] rfl)
set_option maxRecDepth 100000 in
set_option maxHeartbeats 4000000 in
theorem l_X0_stepTo_12 {p : Program} {l : Launch} {e : Env} {s : State} {m : MethodId} {args : Array Value} {below : List Frame} {meth : Method} {c : Code} {G : GG} {A : Nat → Prop} {o_t : Nat} {a_t : Nat → Nat} {N : Nat}  {res : Int32} (C : MC RX0 cX0_stepTo 5 (some .int) G A p s m args meth c)  : ∀ (k : Nat) {v_t : US} {y2 : Int32} {y3 : Int32} {y4 : Int32}, f_X0_stepTo_12 N k v_t y2 y3 y4 = some res → ∀ {H : Heap} {locs : List Loc} {ls : Array Slot}, HP G A s [uX0 G o_t a_t v_t] H locs → lv_has ls 5 [(0, .ref o_t), (2, .int y2), (3, .int y3), (4, .int y4)] → W p l e (rmm 1) s m args below meth c H locs 0 0 (QI below G A args s res [uX0 G o_t a_t v_t]) (F0 m 12 ls []) := by
  intro k
  induction k with
  | zero => intros; contradiction
  | succ k ih =>
    intro v_t y2 y3 y4 hf H locs ls h hl
    exact w_X0_stepTo_12 (N := N) C ih hf h hl
set_option maxRecDepth 100000 in
set_option maxHeartbeats 4000000 in
theorem c_X0_stepTo (l : Launch) (G : GG) (o_t : Nat) (a_t : Nat → Nat) (N : Nat) {v_t : US} {x1 : Int32} {x2 : Int32} {res : Int32} (hf : f_X0_stepTo N v_t x1 x2 = some res) : MI l yX0_stepTo cX0_stepTo 5 (some .int) 1 [.ref o_t, .int x1, .int x2] G [uX0 G o_t a_t v_t] res [uX0 G o_t a_t v_t] := by
  unfold f_X0_stepTo at hf
  refine MI.intro (by decide) rfl (Nat.le_of_ble_eq_true rfl) (fun p e s m args below meth c A ls C h hl => ?_)
  have C : MC RX0 cX0_stepTo 5 (some .int) G A p s m args meth c := C
  have hl : lv_has ls 5 [(0, .ref o_t), (1, .int x1), (2, .int x2)] := hl
  refine lv_iload_n C.hx C.hb dX0_stepTo_0 rfl (lv_at hl 1 rfl) ?_
  refine lv_istore_n (lv' := [(3, .int x1), (0, .ref o_t), (1, .int x1), (2, .int x2)]) C.hx C.hb dX0_stepTo_1 rfl hl (by decide) rfl (fun ls hl => ?_)
  refine lv_aload_n C.hx C.hb dX0_stepTo_2 rfl (lv_at hl 1 rfl) ?_
  refine g_get C h fl_X0_34 0 0 rfl rfl (v := .ref (a_t 8)) rfl dX0_stepTo_3 ?_
  refine lv_iload_n C.hx C.hb dX0_stepTo_6 rfl (lv_at hl 2 rfl) ?_
  obtain ⟨zi1, hf⟩ := ck_some hf
  refine g_iald C h 0 6 rfl rfl (f := v_t.2.2 8) zi1 dX0_stepTo_7 ?_
  refine lv_iconst (v := 1) C.hx C.hb dX0_stepTo_8 (by decide) ?_
  refine lv_isub C.hx C.hb dX0_stepTo_9 ?_
  refine lv_istore (lv' := [(4, .int (((v_t.2.2 8) x1.toNatClampNeg) - 1)), (3, .int x1), (0, .ref o_t), (1, .int x1), (2, .int x2)]) C.hx C.hb dX0_stepTo_10 hl (by decide) rfl (fun ls hl => ?_)
  exact l_X0_stepTo_12 C N hf h (lv_sub hl [2, 4, 1, 0] rfl)

def b_X0_thatRing_4 (N : Nat) (g4 : US → Int32 → Int32 → Int32 → Option (Int32)) (v_t : US) (y1 : Int32) (y2 : Int32) (y3 : Int32) : Option (Int32) :=
  if (v_t.1 1) ≤ y3 then (some (y2)) else (if y3 < 0 ∨ 5 ≤ y3.toNatClampNeg then none else (if ((v_t.2.2 4) y3.toNatClampNeg) = y1 then (g4 v_t y1 (y2 ||| (1 <<< (y3 &&& 31))) (y3 + 1)) else (g4 v_t y1 y2 (y3 + 1))))
def f_X0_thatRing_4 (N : Nat)  : Nat → US → Int32 → Int32 → Int32 → Option (Int32)
  | 0 => fun _ _ _ _ => none
  | k + 1 => fun q0 q1 q2 q3 => b_X0_thatRing_4 N  (f_X0_thatRing_4 N  k) q0 q1 q2 q3
def f_X0_thatRing (N : Nat) (v_t : US) (x1 : Int32) : Option (Int32) :=
  f_X0_thatRing_4 N N v_t x1 0 0
set_option maxRecDepth 100000 in
set_option maxHeartbeats 4000000 in
theorem w_X0_thatRing_4 {p : Program} {l : Launch} {e : Env} {s : State} {m : MethodId} {args : Array Value} {below : List Frame} {meth : Method} {c : Code} {G : GG} {A : Nat → Prop} {o_t : Nat} {a_t : Nat → Nat} {N : Nat} {g4 : US → Int32 → Int32 → Int32 → Option (Int32)} {v_t : US} {y1 : Int32} {y2 : Int32} {y3 : Int32} {res : Int32} (C : MC RX0 cX0_thatRing 4 (some .int) G A p s m args meth c) (hg4 : ∀ {v_t : US} {y1 : Int32} {y2 : Int32} {y3 : Int32}, g4 v_t y1 y2 y3 = some res → ∀ {H : Heap} {locs : List Loc} {ls : Array Slot}, HP G A s [uX0 G o_t a_t v_t] H locs → lv_has ls 4 [(0, .ref o_t), (1, .int y1), (2, .int y2), (3, .int y3)] → W p l e (rmm 1) s m args below meth c H locs 0 0 (QI below G A args s res [uX0 G o_t a_t v_t]) (F0 m 4 ls [])) (hf : b_X0_thatRing_4 N g4 v_t y1 y2 y3 = some res) {H : Heap} {locs : List Loc} {ls : Array Slot} (h : HP G A s [uX0 G o_t a_t v_t] H locs) (hl : lv_has ls 4 [(0, .ref o_t), (1, .int y1), (2, .int y2), (3, .int y3)]) : W p l e (rmm 1) s m args below meth c H locs 0 0 (QI below G A args s res [uX0 G o_t a_t v_t]) (F0 m 4 ls []) := by
  unfold b_X0_thatRing_4 at hf
  refine lv_iload_n C.hx C.hb dX0_thatRing_4 rfl (lv_at hl 3 rfl) ?_
  refine lv_aload_n C.hx C.hb dX0_thatRing_5 rfl (lv_at hl 0 rfl) ?_
  refine g_get C h fl_X0_9 0 0 rfl rfl (v := .int (v_t.1 1)) rfl dX0_thatRing_6 ?_
  refine lv_icmp_ge (tgt := 34) C.hx C.hb dX0_thatRing_9 (by decide) (fun zc1 => ?_) (fun zc1 => ?_)
  · replace hf := it_t zc1 hf
    refine lv_iload_n C.hx C.hb dX0_thatRing_34 rfl (lv_at hl 2 rfl) ?_
    obtain rfl := Option.some.inj hf
    exact g_ret_i C h rfl rfl dX0_thatRing_35
  · replace hf := it_f zc1 hf
    refine lv_aload_n C.hx C.hb dX0_thatRing_12 rfl (lv_at hl 0 rfl) ?_
    refine g_get C h fl_X0_22 0 0 rfl rfl (v := .ref (a_t 4)) rfl dX0_thatRing_13 ?_
    refine lv_iload_n C.hx C.hb dX0_thatRing_16 rfl (lv_at hl 3 rfl) ?_
    obtain ⟨zi2, hf⟩ := ck_some hf
    refine g_iald C h 0 3 rfl rfl (f := v_t.2.2 4) zi2 dX0_thatRing_17 ?_
    refine lv_iload_n C.hx C.hb dX0_thatRing_18 rfl (lv_at hl 1 rfl) ?_
    refine lv_icmp_ne (tgt := 28) C.hx C.hb dX0_thatRing_19 (by decide) (fun zc3 => ?_) (fun zc3 => ?_)
    · replace hf := it_f zc3 hf
      refine lv_iinc (v := y3 + 1) (lv' := [(3, .int (y3 + 1)), (0, .ref o_t), (1, .int y1), (2, .int y2)]) C.hx C.hb dX0_thatRing_28 hl (k := 3) rfl rfl (by decide) rfl (fun ls hl => ?_)
      refine lv_goto (tgt := 4) C.hx C.hb dX0_thatRing_31 (by decide) ?_
      exact hg4 hf h (lv_sub hl [1, 2, 3, 0] rfl)
    · replace hf := it_t zc3 hf
      refine lv_iload_n C.hx C.hb dX0_thatRing_22 rfl (lv_at hl 2 rfl) ?_
      refine lv_iconst (v := 1) C.hx C.hb dX0_thatRing_23 (by decide) ?_
      refine lv_iload_n C.hx C.hb dX0_thatRing_24 rfl (lv_at hl 3 rfl) ?_
      refine lv_ishl C.hx C.hb dX0_thatRing_25 ?_
      refine lv_ior C.hx C.hb dX0_thatRing_26 ?_
      refine lv_istore_n (lv' := [(2, .int (y2 ||| (1 <<< (y3 &&& 31)))), (0, .ref o_t), (1, .int y1), (3, .int y3)]) C.hx C.hb dX0_thatRing_27 rfl hl (by decide) rfl (fun ls hl => ?_)
      refine lv_iinc (v := y3 + 1) (lv' := [(3, .int (y3 + 1)), (2, .int (y2 ||| (1 <<< (y3 &&& 31)))), (0, .ref o_t), (1, .int y1)]) C.hx C.hb dX0_thatRing_28 hl (k := 3) rfl rfl (by decide) rfl (fun ls hl => ?_)
      refine lv_goto (tgt := 4) C.hx C.hb dX0_thatRing_31 (by decide) ?_
      exact hg4 hf h (lv_sub hl [2, 3, 1, 0] rfl)
set_option maxRecDepth 100000 in
set_option maxHeartbeats 4000000 in
theorem l_X0_thatRing_4 {p : Program} {l : Launch} {e : Env} {s : State} {m : MethodId} {args : Array Value} {below : List Frame} {meth : Method} {c : Code} {G : GG} {A : Nat → Prop} {o_t : Nat} {a_t : Nat → Nat} {N : Nat}  {res : Int32} (C : MC RX0 cX0_thatRing 4 (some .int) G A p s m args meth c)  : ∀ (k : Nat) {v_t : US} {y1 : Int32} {y2 : Int32} {y3 : Int32}, f_X0_thatRing_4 N k v_t y1 y2 y3 = some res → ∀ {H : Heap} {locs : List Loc} {ls : Array Slot}, HP G A s [uX0 G o_t a_t v_t] H locs → lv_has ls 4 [(0, .ref o_t), (1, .int y1), (2, .int y2), (3, .int y3)] → W p l e (rmm 1) s m args below meth c H locs 0 0 (QI below G A args s res [uX0 G o_t a_t v_t]) (F0 m 4 ls []) := by
  intro k
  induction k with
  | zero => intros; contradiction
  | succ k ih =>
    intro v_t y1 y2 y3 hf H locs ls h hl
    exact w_X0_thatRing_4 (N := N) C ih hf h hl
set_option maxRecDepth 100000 in
set_option maxHeartbeats 4000000 in
theorem c_X0_thatRing (l : Launch) (G : GG) (o_t : Nat) (a_t : Nat → Nat) (N : Nat) {v_t : US} {x1 : Int32} {res : Int32} (hf : f_X0_thatRing N v_t x1 = some res) : MI l yX0_thatRing cX0_thatRing 4 (some .int) 1 [.ref o_t, .int x1] G [uX0 G o_t a_t v_t] res [uX0 G o_t a_t v_t] := by
  unfold f_X0_thatRing at hf
  refine MI.intro (by decide) rfl (Nat.le_of_ble_eq_true rfl) (fun p e s m args below meth c A ls C h hl => ?_)
  have C : MC RX0 cX0_thatRing 4 (some .int) G A p s m args meth c := C
  have hl : lv_has ls 4 [(0, .ref o_t), (1, .int x1)] := hl
  refine lv_iconst (v := 0) C.hx C.hb dX0_thatRing_0 (by decide) ?_
  refine lv_istore_n (lv' := [(2, .int 0), (0, .ref o_t), (1, .int x1)]) C.hx C.hb dX0_thatRing_1 rfl hl (by decide) rfl (fun ls hl => ?_)
  refine lv_iconst (v := 0) C.hx C.hb dX0_thatRing_2 (by decide) ?_
  refine lv_istore_n (lv' := [(3, .int 0), (2, .int 0), (0, .ref o_t), (1, .int x1)]) C.hx C.hb dX0_thatRing_3 rfl hl (by decide) rfl (fun ls hl => ?_)
  exact l_X0_thatRing_4 C N hf h (lv_sub hl [2, 3, 1, 0] rfl)

def b_X0_weighShare_16 (N : Nat) (g16 : US → Int32 → Int32 → Int32 → Option (US)) (v_t : US) (y1 : Int32) (y2 : Int32) (y3 : Int32) : Option (US) :=
  if (1 <<< (y1 &&& 31)) ≤ y3 then (some (v_t)) else ((f_X11_has y3 y2).bind fun zr2 => if (b2i zr2) = 0 then ((f_J6_bitCount_0f7a4 y3).bind fun zr6 => if zr6 < 0 ∨ 6 ≤ zr6.toNatClampNeg then none else (if ((y1 - 1) - zr6) < 0 ∨ 6 ≤ ((y1 - 1) - zr6).toNatClampNeg then none else (if (y3 ||| (1 <<< (y2 &&& 31))) < 0 ∨ 32 ≤ (y3 ||| (1 <<< (y2 &&& 31))).toNatClampNeg then none else (if y3 < 0 ∨ 32 ≤ y3.toNatClampNeg then none else (g16 (upi v_t 13 ((v_t.1 13) + (((facL.getD zr6.toNatClampNeg 0) * (facL.getD ((y1 - 1) - zr6).toNatClampNeg 0)) * (((v_t.2.2 15) (y3 ||| (1 <<< (y2 &&& 31))).toNatClampNeg) - ((v_t.2.2 15) y3.toNatClampNeg))))) y1 y2 (y3 + 1)))))) else (g16 v_t y1 y2 (y3 + 1)))
def f_X0_weighShare_16 (N : Nat)  : Nat → US → Int32 → Int32 → Int32 → Option (US)
  | 0 => fun _ _ _ _ => none
  | k + 1 => fun q0 q1 q2 q3 => b_X0_weighShare_16 N  (f_X0_weighShare_16 N  k) q0 q1 q2 q3
def f_X0_weighShare (N : Nat) (v_t : US) (x1 : Int32) (x2 : Int32) : Option (US) :=
  if x1 < 0 ∨ 6 ≤ x1.toNatClampNeg then none else (bnd (upi v_t 13 0) fun zw2 => f_X0_weighShare_16 N N (upi zw2 14 (facL.getD x1.toNatClampNeg 0)) x1 x2 0)
set_option maxRecDepth 100000 in
set_option maxHeartbeats 4000000 in
theorem w_X0_weighShare_16 {p : Program} {l : Launch} {e : Env} {s : State} {m : MethodId} {args : Array Value} {below : List Frame} {meth : Method} {c : Code} {G : GG} {A : Nat → Prop} {o_t : Nat} {a_t : Nat → Nat} {N : Nat} {g16 : US → Int32 → Int32 → Int32 → Option (US)} {v_t : US} {y1 : Int32} {y2 : Int32} {y3 : Int32} {res : US} (C : MC RX0 cX0_weighShare 6 none G A p s m args meth c) (hg16 : ∀ {v_t : US} {y1 : Int32} {y2 : Int32} {y3 : Int32}, g16 v_t y1 y2 y3 = some res → ∀ {H : Heap} {locs : List Loc} {ls : Array Slot}, HP G A s [uX0 G o_t a_t v_t] H locs → lv_has ls 6 [(0, .ref o_t), (1, .int y1), (2, .int y2), (3, .int y3)] → W p l e (rmm 2) s m args below meth c H locs 0 0 (QV below G A args s  [uX0 G o_t a_t res]) (F0 m 16 ls [])) (hf : b_X0_weighShare_16 N g16 v_t y1 y2 y3 = some res) {H : Heap} {locs : List Loc} {ls : Array Slot} (h : HP G A s [uX0 G o_t a_t v_t] H locs) (hl : lv_has ls 6 [(0, .ref o_t), (1, .int y1), (2, .int y2), (3, .int y3)]) : W p l e (rmm 2) s m args below meth c H locs 0 0 (QV below G A args s  [uX0 G o_t a_t res]) (F0 m 16 ls []) := by
  unfold b_X0_weighShare_16 at hf
  refine lv_iload_n C.hx C.hb dX0_weighShare_16 rfl (lv_at hl 3 rfl) ?_
  refine lv_iconst (v := 1) C.hx C.hb dX0_weighShare_17 (by decide) ?_
  refine lv_iload_n C.hx C.hb dX0_weighShare_18 rfl (lv_at hl 1 rfl) ?_
  refine lv_ishl C.hx C.hb dX0_weighShare_19 ?_
  refine lv_icmp_ge (tgt := 94) C.hx C.hb dX0_weighShare_20 (by decide) (fun zc1 => ?_) (fun zc1 => ?_)
  · replace hf := it_t zc1 hf
    obtain rfl := Option.some.inj hf
    exact g_ret_v C h rfl dX0_weighShare_94
  · replace hf := it_f zc1 hf
    refine lv_iload_n C.hx C.hb dX0_weighShare_23 rfl (lv_at hl 3 rfl) ?_
    refine lv_iload_n C.hx C.hb dX0_weighShare_24 rfl (lv_at hl 2 rfl) ?_
    obtain ⟨zr2, zq3, hf⟩ := bd_some hf
    have zm4 := c_X11_has l G  (hf := zq3)
    refine g_goI C h zm4.1 (is := []) rfl rfl (g_runN C h (is := []) rfl rfl (As := [.int y3, .int y2]) (rest := []) (zm4.2 _) nf_X0_105 hl.1 rfl rfl (Nat.le_of_ble_eq_true rfl) dX0_weighShare_25 ⟨Nat.le_of_ble_eq_true rfl, Nat.le_of_ble_eq_true rfl⟩ ⟨Nat.le_refl _, Nat.le_refl _⟩) (us2 := [uX0 G o_t a_t v_t]) rfl (fun H locs h => ?_)
    refine lv_if_eq (tgt := 34) C.hx C.hb dX0_weighShare_28 (by decide) (fun zc5 => ?_) (fun zc5 => ?_)
    · replace hf := it_t zc5 hf
      refine lv_iload_n C.hx C.hb dX0_weighShare_34 rfl (lv_at hl 3 rfl) ?_
      obtain ⟨zr6, zq7, hf⟩ := bd_some hf
      have zm8 := c_J6_bitCount_0f7a4 l G  (hf := zq7)
      refine g_goI C h zm8.1 (is := []) rfl rfl (g_runT C h (is := []) rfl rfl (As := [.int y3]) (rest := []) (zm8.2 _) tf_X0_120 hl.1 rfl rfl (Nat.le_of_ble_eq_true rfl) dX0_weighShare_35 ⟨Nat.le_of_ble_eq_true rfl, Nat.le_of_ble_eq_true rfl⟩ ⟨Nat.le_refl _, Nat.le_refl _⟩) (us2 := [uX0 G o_t a_t v_t]) rfl (fun H locs h => ?_)
      refine lv_istore (lv' := [(4, .int zr6), (0, .ref o_t), (1, .int y1), (2, .int y2), (3, .int y3)]) C.hx C.hb dX0_weighShare_38 hl (by decide) rfl (fun ls hl => ?_)
      refine va_gets C.hx C.hb C.sx.1 h.2.2 C.hown (C.hts _ fs_X0_128) (fun _ h9 => h9) dX0_weighShare_40 ?_
      refine lv_iload C.hx C.hb dX0_weighShare_43 (lv_at hl 0 rfl) ?_
      obtain ⟨zi9, hf⟩ := ck_some hf
      refine va_ti C.hx C.hb C.sx.2.1 h.2.2 zi9 rfl dX0_weighShare_45 ?_
      refine va_gets C.hx C.hb C.sx.1 h.2.2 C.hown (C.hts _ fs_X0_128) (fun _ h9 => h9) dX0_weighShare_46 ?_
      refine lv_iload_n C.hx C.hb dX0_weighShare_49 rfl (lv_at hl 2 rfl) ?_
      refine lv_iconst (v := 1) C.hx C.hb dX0_weighShare_50 (by decide) ?_
      refine lv_isub C.hx C.hb dX0_weighShare_51 ?_
      refine lv_iload C.hx C.hb dX0_weighShare_52 (lv_at hl 0 rfl) ?_
      refine lv_isub C.hx C.hb dX0_weighShare_54 ?_
      obtain ⟨zi10, hf⟩ := ck_some hf
      refine va_ti C.hx C.hb C.sx.2.1 h.2.2 zi10 rfl dX0_weighShare_55 ?_
      refine lv_imul C.hx C.hb dX0_weighShare_56 ?_
      refine lv_istore (lv' := [(5, .int ((facL.getD zr6.toNatClampNeg 0) * (facL.getD ((y1 - 1) - zr6).toNatClampNeg 0))), (4, .int zr6), (0, .ref o_t), (1, .int y1), (2, .int y2), (3, .int y3)]) C.hx C.hb dX0_weighShare_57 hl (by decide) rfl (fun ls hl => ?_)
      refine lv_aload_n C.hx C.hb dX0_weighShare_59 rfl (lv_at hl 2 rfl) ?_
      refine lv_dup C.hx C.hb dX0_weighShare_60 rfl ?_
      refine g_get C h fl_X0_49 0 0 rfl rfl (v := .int (v_t.1 13)) rfl dX0_weighShare_61 ?_
      refine lv_iload C.hx C.hb dX0_weighShare_64 (lv_at hl 0 rfl) ?_
      refine lv_aload_n C.hx C.hb dX0_weighShare_66 rfl (lv_at hl 2 rfl) ?_
      refine g_get C h fl_X0_55 0 0 rfl rfl (v := .ref (a_t 15)) rfl dX0_weighShare_67 ?_
      refine lv_iload_n C.hx C.hb dX0_weighShare_70 rfl (lv_at hl 5 rfl) ?_
      refine lv_iconst (v := 1) C.hx C.hb dX0_weighShare_71 (by decide) ?_
      refine lv_iload_n C.hx C.hb dX0_weighShare_72 rfl (lv_at hl 4 rfl) ?_
      refine lv_ishl C.hx C.hb dX0_weighShare_73 ?_
      refine lv_ior C.hx C.hb dX0_weighShare_74 ?_
      obtain ⟨zi11, hf⟩ := ck_some hf
      refine g_iald C h 0 11 rfl rfl (f := v_t.2.2 15) zi11 dX0_weighShare_75 ?_
      refine lv_aload_n C.hx C.hb dX0_weighShare_76 rfl (lv_at hl 2 rfl) ?_
      refine g_get C h fl_X0_55 0 0 rfl rfl (v := .ref (a_t 15)) rfl dX0_weighShare_77 ?_
      refine lv_iload_n C.hx C.hb dX0_weighShare_80 rfl (lv_at hl 5 rfl) ?_
      obtain ⟨zi12, hf⟩ := ck_some hf
      refine g_iald C h 0 11 rfl rfl (f := v_t.2.2 15) zi12 dX0_weighShare_81 ?_
      refine lv_isub C.hx C.hb dX0_weighShare_82 ?_
      refine lv_imul C.hx C.hb dX0_weighShare_83 ?_
      refine lv_iadd C.hx C.hb dX0_weighShare_84 ?_
      refine g_put C h fp_X0_49 0 0 rfl rfl rfl rfl (Nat.le_of_ble_eq_true rfl) dX0_weighShare_85 (u' := uX0 G o_t a_t (upi v_t 13 ((v_t.1 13) + (((facL.getD zr6.toNatClampNeg 0) * (facL.getD ((y1 - 1) - zr6).toNatClampNeg 0)) * (((v_t.2.2 15) (y3 ||| (1 <<< (y2 &&& 31))).toNatClampNeg) - ((v_t.2.2 15) y3.toNatClampNeg)))))) (us' := [uX0 G o_t a_t (upi v_t 13 ((v_t.1 13) + (((facL.getD zr6.toNatClampNeg 0) * (facL.getD ((y1 - 1) - zr6).toNatClampNeg 0)) * (((v_t.2.2 15) (y3 ||| (1 <<< (y2 &&& 31))).toNatClampNeg) - ((v_t.2.2 15) y3.toNatClampNeg)))))]) rfl rfl (fun H locs h => ?_)
      refine lv_iinc (v := y3 + 1) (lv' := [(3, .int (y3 + 1)), (5, .int ((facL.getD zr6.toNatClampNeg 0) * (facL.getD ((y1 - 1) - zr6).toNatClampNeg 0))), (4, .int zr6), (0, .ref o_t), (1, .int y1), (2, .int y2)]) C.hx C.hb dX0_weighShare_88 hl (k := 5) rfl rfl (by decide) rfl (fun ls hl => ?_)
      refine lv_goto (tgt := 16) C.hx C.hb dX0_weighShare_91 (by decide) ?_
      exact hg16 hf h (lv_sub hl [3, 4, 5, 0] rfl)
    · replace hf := it_f zc5 hf
      refine lv_goto (tgt := 88) C.hx C.hb dX0_weighShare_31 (by decide) ?_
      refine lv_iinc (v := y3 + 1) (lv' := [(3, .int (y3 + 1)), (0, .ref o_t), (1, .int y1), (2, .int y2)]) C.hx C.hb dX0_weighShare_88 hl (k := 3) rfl rfl (by decide) rfl (fun ls hl => ?_)
      refine lv_goto (tgt := 16) C.hx C.hb dX0_weighShare_91 (by decide) ?_
      exact hg16 hf h (lv_sub hl [1, 2, 3, 0] rfl)
set_option maxRecDepth 100000 in
set_option maxHeartbeats 4000000 in
theorem l_X0_weighShare_16 {p : Program} {l : Launch} {e : Env} {s : State} {m : MethodId} {args : Array Value} {below : List Frame} {meth : Method} {c : Code} {G : GG} {A : Nat → Prop} {o_t : Nat} {a_t : Nat → Nat} {N : Nat}  {res : US} (C : MC RX0 cX0_weighShare 6 none G A p s m args meth c)  : ∀ (k : Nat) {v_t : US} {y1 : Int32} {y2 : Int32} {y3 : Int32}, f_X0_weighShare_16 N k v_t y1 y2 y3 = some res → ∀ {H : Heap} {locs : List Loc} {ls : Array Slot}, HP G A s [uX0 G o_t a_t v_t] H locs → lv_has ls 6 [(0, .ref o_t), (1, .int y1), (2, .int y2), (3, .int y3)] → W p l e (rmm 2) s m args below meth c H locs 0 0 (QV below G A args s  [uX0 G o_t a_t res]) (F0 m 16 ls []) := by
  intro k
  induction k with
  | zero => intros; contradiction
  | succ k ih =>
    intro v_t y1 y2 y3 hf H locs ls h hl
    exact w_X0_weighShare_16 (N := N) C ih hf h hl
set_option maxRecDepth 100000 in
set_option maxHeartbeats 4000000 in
theorem c_X0_weighShare (l : Launch) (G : GG) (o_t : Nat) (a_t : Nat → Nat) (N : Nat) {v_t : US} {x1 : Int32} {x2 : Int32} {res : US} (hf : f_X0_weighShare N v_t x1 x2 = some res) : MV l yX0_weighShare cX0_weighShare 6 none 2 [.ref o_t, .int x1, .int x2] G [uX0 G o_t a_t v_t]  [uX0 G o_t a_t res] := by
  unfold f_X0_weighShare at hf
  refine MV.intro (by decide) rfl (Nat.le_of_ble_eq_true rfl) (fun p e s m args below meth c A ls C h hl => ?_)
  have C : MC RX0 cX0_weighShare 6 none G A p s m args meth c := C
  have hl : lv_has ls 6 [(0, .ref o_t), (1, .int x1), (2, .int x2)] := hl
  refine lv_aload_n C.hx C.hb dX0_weighShare_0 rfl (lv_at hl 0 rfl) ?_
  refine lv_iconst (v := 0) C.hx C.hb dX0_weighShare_1 (by decide) ?_
  refine g_put C h fp_X0_49 0 0 rfl rfl rfl rfl (Nat.le_of_ble_eq_true rfl) dX0_weighShare_2 (u' := uX0 G o_t a_t (upi v_t 13 0)) (us' := [uX0 G o_t a_t (upi v_t 13 0)]) rfl rfl (fun H locs h => ?_)
  refine lv_aload_n C.hx C.hb dX0_weighShare_5 rfl (lv_at hl 0 rfl) ?_
  refine va_gets C.hx C.hb C.sx.1 h.2.2 C.hown (C.hts _ fs_X0_128) (fun _ h9 => h9) dX0_weighShare_6 ?_
  refine lv_iload_n C.hx C.hb dX0_weighShare_9 rfl (lv_at hl 1 rfl) ?_
  obtain ⟨zi1, hf⟩ := ck_some hf
  refine va_ti C.hx C.hb C.sx.2.1 h.2.2 zi1 rfl dX0_weighShare_10 ?_
  obtain ⟨zw2, hzw2, hf⟩ := bnd_some hf
  rw [← hzw2] at h
  refine g_put C h fp_X0_52 0 0 rfl rfl rfl rfl (Nat.le_of_ble_eq_true rfl) dX0_weighShare_11 (u' := uX0 G o_t a_t (upi zw2 14 (facL.getD x1.toNatClampNeg 0))) (us' := [uX0 G o_t a_t (upi zw2 14 (facL.getD x1.toNatClampNeg 0))]) rfl rfl (fun H locs h => ?_)
  refine lv_iconst (v := 0) C.hx C.hb dX0_weighShare_14 (by decide) ?_
  refine lv_istore_n (lv' := [(3, .int 0), (0, .ref o_t), (1, .int x1), (2, .int x2)]) C.hx C.hb dX0_weighShare_15 rfl hl (by decide) rfl (fun ls hl => ?_)
  exact l_X0_weighShare_16 C N hf h (lv_sub hl [1, 2, 3, 0] rfl)
