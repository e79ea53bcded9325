section KSTR
variable {own : String} {cc : ByteArray} {nL : Nat} {rt : Option FieldType} {G : GG} {A : Nat → Prop} {p : Program} {l : Launch} {e : Env} {R : Room} {s : State} {m : MethodId} {args : Array Value} {below : List Frame} {meth : Method} {c : Code} {H : Heap} {locs : List Loc} {cells slots : Nat} {Q : State → Prop} {pc : Nat} {ls : Array Slot} {rest st0 : List Value} {us us' us2 uc uc' : List va_W} {is : List Nat}
theorem g_ret_n {ty : FieldType} (C : MC own cc nL (some ty) G A p s m args meth c) (h : HP G A s us H locs) {x r : Int32} (hn : narrow ty (.int x) = .int x) (hr : x = r) (hus : us = us') (hdg : decode cc pc = .ok (.ireturn, 1)) : W p l e R s m args below meth c H locs 0 0 (QI below G A args s r us') (F0 m pc ls [.int x]) := by
  subst hr; subst hus
  exact W.zret C.hx C.hb C.hr hn (fun t ht _ => ⟨⟨x, (), rfl, rfl, at_H ht h.1⟩, h.2.2.F ht⟩) h.2.2.2.2 hdg C.hk
def VS (own : String) (index : Nat) (y : MethodName) (bytes : ByteArray) (maxL : Nat) (ret : Option FieldType) (n : Nat) : Prop := (y.cls ≠ "java/lang/invoke/MethodHandle" ∧ y.cls ≠ "java/lang/invoke/VarHandle" ∧ (parseMethodDescriptor y.desc).map (fun d => d.parameters.length) = some n) ∧ GoodIn gt (wsV own index y.cls y (wdm y bytes maxL ret))
variable {y : MethodName} {bytes : ByteArray} {maxL index n ci d dd b : Nat} {ret : Option FieldType} {As : List Value} {Qc : Array Value → State → Outcome → State → Prop} {free : Addr → Prop}
theorem g_runR (C : MC own cc nL rt G A p s m args meth c) (h : HP G A s us H locs) (hn : va_nd is = true) (hC : is.map (fun i => us[i]?) = uc.map some) (hM : Met l y (wdm y bytes maxL ret) (rmm d) (va_Pc (.ref b :: As) (CP G uc H.size)) Qc 0 0 free) (vf : VS own index y bytes maxL ret n) (hrecv : ∃ cell : Cell, H[b]? = some cell ∧ cell.vm.isStatics = false ∧ s.vm.findClass y.cls = some cell.cls) (hsize : ls.size = nL) (hln : As.length = n) (hst : st0 = As.reverse ++ .ref b :: rest) (hW : (rest.map fun v => v.category).sum ≤ 8) (hdg : decode cc pc = .ok (.invokevirtual index, 3)) (hR : d + 1 ≤ R.frames ∧ 8 + (maxL + 11) + 60 * d ≤ R.locals) (hf : cells ≤ R.cells ∧ slots ≤ R.slots) :
    va_Run p l e R s m args below meth c H locs cells slots 0 0 (F0 m pc ls st0) rest (Qc (Value.ref b :: As).toArray) free :=
  va_runV C.fix hM (cwV n C.hts vf.2 rfl rfl rfl ⟨rfl, vf.1⟩ hR) ⟨CP.blind, hrecv, g_pre C h hn hC⟩ rfl hln hsize hst (lv_room hW) hdg hf
end KSTR
theorem VS.mk {own : String} {index : Nat} {y : MethodName} {bytes : ByteArray} {maxL : Nat} {ret : Option FieldType} {n : Nat} (hd : y.cls ≠ "java/lang/invoke/MethodHandle" ∧ y.cls ≠ "java/lang/invoke/VarHandle" ∧ (parseMethodDescriptor y.desc).map (fun d => d.parameters.length) = some n) (h1 : Cond.methodLink own index y ∈ gt) (h2 : Cond.instanceMethod y ∈ gt) (h3 : Cond.selects y.cls y y ∈ gt) (h4 : Cond.initialized y.cls ∈ gt) (h5 : Cond.code y bytes maxL ret ∈ gt) : VS own index y bytes maxL ret n :=
  ⟨hd, goodIn_gtA (fun z hz => by
    simp only [List.mem_cons, List.not_mem_nil, or_false] at hz
    rcases hz with rfl | rfl | rfl | rfl <;> assumption) h5⟩
theorem vs_X5_136 : VS RX5 136 yJ0_length_8abf5 cJ0_length_8abf5 1 (some .int) 0 := VS.mk (by decide +kernel) (gt_of (w := .methodLink RX5 136 yJ0_length_8abf5) 465 (by decide +kernel) rfl) (gt_of (w := .instanceMethod yJ0_length_8abf5) 466 (by decide +kernel) rfl) (gt_of (w := .selects RJ0 yJ0_length_8abf5 yJ0_length_8abf5) 467 (by decide +kernel) rfl) (gt_of (w := .initialized RJ0) 15 (by decide +kernel) rfl) cd_J0_length_8abf5
theorem vs_X5_141 : VS RX5 141 yJ0_charAt_5068e cJ0_charAt_5068e 2 (some .char) 1 := VS.mk (by decide +kernel) (gt_of (w := .methodLink RX5 141 yJ0_charAt_5068e) 475 (by decide +kernel) rfl) (gt_of (w := .instanceMethod yJ0_charAt_5068e) 476 (by decide +kernel) rfl) (gt_of (w := .selects RJ0 yJ0_charAt_5068e yJ0_charAt_5068e) 477 (by decide +kernel) rfl) (gt_of (w := .initialized RJ0) 15 (by decide +kernel) rfl) cd_J0_charAt_5068e
theorem vs_J0_335 : VS RJ0 335 yJ0_coder_7d493 cJ0_coder_7d493 1 (some .byte) 0 := VS.mk (by decide +kernel) (gt_of (w := .methodLink RJ0 335 yJ0_coder_7d493) 469 (by decide +kernel) rfl) (gt_of (w := .instanceMethod yJ0_coder_7d493) 470 (by decide +kernel) rfl) (gt_of (w := .selects RJ0 yJ0_coder_7d493 yJ0_coder_7d493) 471 (by decide +kernel) rfl) (gt_of (w := .initialized RJ0) 15 (by decide +kernel) rfl) cd_J0_coder_7d493
theorem vs_J0_492 : VS RJ0 492 yJ0_isLatin1_aae02 cJ0_isLatin1_aae02 1 (some .boolean) 0 := VS.mk (by decide +kernel) (gt_of (w := .methodLink RJ0 492 yJ0_isLatin1_aae02) 479 (by decide +kernel) rfl) (gt_of (w := .instanceMethod yJ0_isLatin1_aae02) 480 (by decide +kernel) rfl) (gt_of (w := .selects RJ0 yJ0_isLatin1_aae02 yJ0_isLatin1_aae02) 481 (by decide +kernel) rfl) (gt_of (w := .initialized RJ0) 15 (by decide +kernel) rfl) cd_J0_isLatin1_aae02
theorem fj_9 : Cond.fieldLink RJ0 9 "java/lang/String" "value" "[B" ∈ gt := gt_of 1273 (by decide +kernel) rfl
theorem fj_15 : Cond.fieldLink RJ0 15 "java/lang/String" "coder" "B" ∈ gt := gt_of 1274 (by decide +kernel) rfl
theorem fj_38 : Cond.fieldLink RJ0 38 "java/lang/String" "COMPACT_STRINGS" "Z" ∈ gt := gt_of 473 (by decide +kernel) rfl
theorem fj_1053 : Cond.fieldLink RJ0 1053 "jdk/internal/util/Preconditions" "SIOOBE_FORMATTER" "Ljava/util/function/BiFunction;" ∈ gt := gt_of 489 (by decide +kernel) rfl
def slen (k : Nat) : Int32 := Int32.ofNat (strLen.getD k 0)
def sch (k : Nat) (i : Int32) : Int32 := (((strByt.getD k []).getD i.toNatClampNeg 0 &&& 255).toUInt32 % 65536).toInt32
theorem kl_some {α : Type} {k : Nat} {x : Option α} {b : α} (h : (if 5 ≤ k then none else x) = some b) : k < 5 ∧ x = some b := by
  by_cases hc : 5 ≤ k
  · rw [if_pos hc] at h; cases h
  · rw [if_neg hc] at h; exact ⟨Nat.not_le.mp hc, h⟩
set_option maxRecDepth 100000 in
set_option maxHeartbeats 4000000 in
theorem c_J3_checkIndex (l : Launch) (G : GG) {x0 x1 : Int32} {fm : Value} (hfm : fm = .null ∨ ∃ t, fm = .ref t) (h0 : ¬ x0 < 0) (h1 : x0 < x1) : MI l yJ3_checkIndex_8e157 cJ3_checkIndex_8e157 3 (some .int) 1 [.int x0, .int x1, fm] G [] x0 [] := by
  refine MI.intro (by decide) rfl (by rcases hfm with rfl | ⟨t, rfl⟩ <;> exact Nat.le_of_ble_eq_true rfl) (fun p e s m args below meth c A ls C h hl => ?_)
  have C : MC RJ3 cJ3_checkIndex_8e157 3 (some .int) G A p s m args meth c := C
  have hl : lv_has ls 3 [(0, .int x0), (1, .int x1), (2, fm)] := by rcases hfm with rfl | ⟨t, rfl⟩ <;> exact hl
  refine lv_iload_n C.hx C.hb dJ3_checkIndex_8e157_0 rfl (lv_at hl 0 rfl) ?_
  refine lv_if_lt (tgt := 9) C.hx C.hb dJ3_checkIndex_8e157_1 (by decide) (fun hc => absurd hc h0) (fun _ => ?_)
  refine lv_iload_n C.hx C.hb dJ3_checkIndex_8e157_4 rfl (lv_at hl 0 rfl) ?_
  refine lv_iload_n C.hx C.hb dJ3_checkIndex_8e157_5 rfl (lv_at hl 1 rfl) ?_
  refine lv_icmp_lt (tgt := 16) C.hx C.hb dJ3_checkIndex_8e157_6 (by decide) (fun _ => ?_) (fun hc => absurd h1 hc)
  refine lv_iload_n C.hx C.hb dJ3_checkIndex_8e157_16 rfl (lv_at hl 0 rfl) ?_
  exact g_ret_i C h rfl rfl dJ3_checkIndex_8e157_17
set_option maxRecDepth 100000 in
set_option maxHeartbeats 4000000 in
theorem c_J0_checkIndex (l : Launch) (G : GG) {x0 x1 : Int32} (h0 : ¬ x0 < 0) (h1 : x0 < x1) : MV l yJ0_checkIndex_df160 cJ0_checkIndex_df160 2 none 2 [.int x0, .int x1] G [] [] := by
  refine MV.intro (by decide) rfl (Nat.le_of_ble_eq_true rfl) (fun p e s m args below meth c A ls C h hl => ?_)
  have C : MC RJ0 cJ0_checkIndex_df160 2 none G A p s m args meth c := C
  have hl : lv_has ls 2 [(0, .int x0), (1, .int x1)] := hl
  refine lv_iload_n C.hx C.hb dJ0_checkIndex_df160_0 rfl (lv_at hl 0 rfl) ?_
  refine lv_iload_n C.hx C.hb dJ0_checkIndex_df160_1 rfl (lv_at hl 1 rfl) ?_
  rcases C.sx.2.2.2.2 with hz | ⟨t, hz⟩
  · refine va_gets C.hx C.hb hz h.2.2 C.hown (C.hts _ fj_1053) (fun _ h9 => h9) dJ0_checkIndex_df160_2 ?_
    have hM := c_J3_checkIndex l G (fm := .null) (Or.inl rfl) h0 h1
    refine g_goI C h hM.1 (is := []) rfl rfl (g_runT C h (is := []) rfl rfl (As := [.int x0, .int x1, .null]) (rest := []) (hM.2 _) tf_J0_1059 hl.1 rfl rfl (Nat.le_of_ble_eq_true rfl) dJ0_checkIndex_df160_5 ⟨Nat.le_of_ble_eq_true rfl, Nat.le_of_ble_eq_true rfl⟩ ⟨Nat.le_refl _, Nat.le_refl _⟩) (us2 := []) rfl (fun H locs h => ?_)
    refine lv_pop C.hx C.hb dJ0_checkIndex_df160_8 rfl ?_
    exact g_ret_v C h rfl dJ0_checkIndex_df160_9
  · refine va_gets C.hx C.hb hz h.2.2 C.hown (C.hts _ fj_1053) (fun _ h9 => h9) dJ0_checkIndex_df160_2 ?_
    have hM := c_J3_checkIndex l G (fm := .ref t) (Or.inr ⟨t, rfl⟩) h0 h1
    refine g_goI C h hM.1 (is := []) rfl rfl (g_runT C h (is := []) rfl rfl (As := [.int x0, .int x1, .ref t]) (rest := []) (hM.2 _) tf_J0_1059 hl.1 rfl rfl (Nat.le_of_ble_eq_true rfl) dJ0_checkIndex_df160_5 ⟨Nat.le_of_ble_eq_true rfl, Nat.le_of_ble_eq_true rfl⟩ ⟨Nat.le_refl _, Nat.le_refl _⟩) (us2 := []) rfl (fun H locs h => ?_)
    refine lv_pop C.hx C.hb dJ0_checkIndex_df160_8 rfl ?_
    exact g_ret_v C h rfl dJ0_checkIndex_df160_9
set_option maxRecDepth 100000 in
set_option maxHeartbeats 4000000 in
theorem c_J0_coder (l : Launch) (G : GG) {k : Nat} (hk : k < 5) : MI l yJ0_coder_7d493 cJ0_coder_7d493 1 (some .byte) 1 [.ref (G.2.2 (10 + k))] G [] 0 [] := by
  refine MI.intro (by decide) rfl (Nat.le_of_ble_eq_true rfl) (fun p e s m args below meth c A ls C h hl => ?_)
  have C : MC RJ0 cJ0_coder_7d493 1 (some .byte) G A p s m args meth c := C
  have hl : lv_has ls 1 [(0, .ref (G.2.2 (10 + k)))] := hl
  refine va_gets C.hx C.hb C.sx.2.2.2.1 h.2.2 C.hown (C.hts _ fj_38) (fun _ h9 => h9) dJ0_coder_7d493_0 ?_
  refine lv_if_eq (tgt := 13) C.hx C.hb dJ0_coder_7d493_3 (by decide) (fun hc => absurd hc (by decide)) (fun _ => ?_)
  refine lv_aload_n C.hx C.hb dJ0_coder_7d493_6 rfl (lv_at hl 0 rfl) ?_
  refine vk_getf C.hx C.hb (C.sx.2.2.1.1 k hk).2.1 h.2.2 C.hown (C.hts _ fj_15) (fun _ h9 => h9) dJ0_coder_7d493_7 ?_
  refine lv_goto (tgt := 14) C.hx C.hb dJ0_coder_7d493_10 (by decide) ?_
  exact g_ret_n C h (by decide) rfl rfl dJ0_coder_7d493_14
set_option maxRecDepth 100000 in
set_option maxHeartbeats 4000000 in
theorem c_J0_isLatin1 (l : Launch) (G : GG) {k : Nat} (hk : k < 5) : MI l yJ0_isLatin1_aae02 cJ0_isLatin1_aae02 1 (some .boolean) 1 [.ref (G.2.2 (10 + k))] G [] 1 [] := by
  refine MI.intro (by decide) rfl (Nat.le_of_ble_eq_true rfl) (fun p e s m args below meth c A ls C h hl => ?_)
  have C : MC RJ0 cJ0_isLatin1_aae02 1 (some .boolean) G A p s m args meth c := C
  have hl : lv_has ls 1 [(0, .ref (G.2.2 (10 + k)))] := hl
  refine va_gets C.hx C.hb C.sx.2.2.2.1 h.2.2 C.hown (C.hts _ fj_38) (fun _ h9 => h9) dJ0_isLatin1_aae02_0 ?_
  refine lv_if_eq (tgt := 17) C.hx C.hb dJ0_isLatin1_aae02_3 (by decide) (fun hc => absurd hc (by decide)) (fun _ => ?_)
  refine lv_aload_n C.hx C.hb dJ0_isLatin1_aae02_6 rfl (lv_at hl 0 rfl) ?_
  refine vk_getf C.hx C.hb (C.sx.2.2.1.1 k hk).2.1 h.2.2 C.hown (C.hts _ fj_15) (fun _ h9 => h9) dJ0_isLatin1_aae02_7 ?_
  refine lv_if_ne (tgt := 17) C.hx C.hb dJ0_isLatin1_aae02_10 (by decide) (fun hc => absurd rfl hc) (fun _ => ?_)
  refine lv_iconst (v := 1) C.hx C.hb dJ0_isLatin1_aae02_13 (by decide) ?_
  refine lv_goto (tgt := 18) C.hx C.hb dJ0_isLatin1_aae02_14 (by decide) ?_
  exact g_ret_n C h (by decide) rfl rfl dJ0_isLatin1_aae02_18
theorem slen_lt {k : Nat} {i : Int32} (hk : k < 5) (hi : vp_in i (strLen.getD k 0)) : ¬ i < 0 ∧ i < slen k := by
  have hn : strLen.getD k 0 < 2 ^ 31 := by
    match k, hk with
    | 0, _ => decide
    | 1, _ => decide
    | 2, _ => decide
    | 3, _ => decide
    | 4, _ => decide
  obtain ⟨j, hj, rfl⟩ := vp_in_of hi hn
  exact ⟨nI_pos (by omega), nI_lt hj hn⟩
set_option maxRecDepth 100000 in
set_option maxHeartbeats 4000000 in
theorem c_J1_charAt (l : Launch) (G : GG) {k : Nat} {i : Int32} (hk : k < 5) (hi : vp_in i (strLen.getD k 0)) : MI l yJ1_charAt_3b067 cJ1_charAt_3b067 2 (some .char) 3 [.ref (G.2.2 (20 + k)), .int i] G [] (sch k i) [] := by
  refine MI.intro (by decide) rfl (Nat.le_of_ble_eq_true rfl) (fun p e s m args below meth c A ls C h hl => ?_)
  have C : MC RJ1 cJ1_charAt_3b067 2 (some .char) G A p s m args meth c := C
  have hl : lv_has ls 2 [(0, .ref (G.2.2 (20 + k))), (1, .int i)] := hl
  have hT := (C.sx.2.2.1.1 k hk).2.2.2
  refine lv_iload_n C.hx C.hb dJ1_charAt_3b067_0 rfl (lv_at hl 1 rfl) ?_
  refine lv_aload_n C.hx C.hb dJ1_charAt_3b067_1 rfl (lv_at hl 0 rfl) ?_
  refine va_tlen C.hx C.hb hT h.2.2 (v := slen k) rfl dJ1_charAt_3b067_2 ?_
  have hM := c_J0_checkIndex l G (slen_lt hk hi).1 (slen_lt hk hi).2
  refine g_goV C h hM.1 (is := []) rfl rfl (g_runT C h (is := []) rfl rfl (As := [.int i, .int (slen k)]) (rest := []) (hM.2 _) tf_J1_9 hl.1 rfl rfl (Nat.le_of_ble_eq_true rfl) dJ1_charAt_3b067_3 ⟨Nat.le_of_ble_eq_true rfl, Nat.le_of_ble_eq_true rfl⟩ ⟨Nat.le_refl _, Nat.le_refl _⟩) (us2 := []) rfl (fun H locs h => ?_)
  refine lv_aload_n C.hx C.hb dJ1_charAt_3b067_6 rfl (lv_at hl 0 rfl) ?_
  refine lv_iload_n C.hx C.hb dJ1_charAt_3b067_7 rfl (lv_at hl 1 rfl) ?_
  refine va_tb C.hx C.hb hT h.2.2 hi rfl dJ1_charAt_3b067_8 ?_
  refine lv_sipush (v := 255) C.hx C.hb dJ1_charAt_3b067_9 (by decide) ?_
  refine lv_iand C.hx C.hb dJ1_charAt_3b067_12 ?_
  refine lv_i2c C.hx C.hb dJ1_charAt_3b067_13 (v := sch k i) rfl ?_
  exact g_ret_n C h (pk_nc _) rfl rfl dJ1_charAt_3b067_14
set_option maxRecDepth 100000 in
set_option maxHeartbeats 4000000 in
theorem c_J0_length (l : Launch) (G : GG) {k : Nat} (hk : k < 5) : MI l yJ0_length_8abf5 cJ0_length_8abf5 1 (some .int) 2 [.ref (G.2.2 (10 + k))] G [] (slen k) [] := by
  refine MI.intro (by decide) rfl (Nat.le_of_ble_eq_true rfl) (fun p e s m args below meth c A ls C h hl => ?_)
  have C : MC RJ0 cJ0_length_8abf5 1 (some .int) G A p s m args meth c := C
  have hl : lv_has ls 1 [(0, .ref (G.2.2 (10 + k)))] := hl
  refine lv_aload_n C.hx C.hb dJ0_length_8abf5_0 rfl (lv_at hl 0 rfl) ?_
  refine vk_getf C.hx C.hb (C.sx.2.2.1.1 k hk).2.2.1 h.2.2 C.hown (C.hts _ fj_9) (fun _ h9 => h9) dJ0_length_8abf5_1 ?_
  refine va_tlen C.hx C.hb (C.sx.2.2.1.1 k hk).2.2.2 h.2.2 (v := slen k) rfl dJ0_length_8abf5_4 ?_
  refine lv_aload_n C.hx C.hb dJ0_length_8abf5_5 rfl (lv_at hl 0 rfl) ?_
  have hM := c_J0_coder l G hk
  refine g_goI C h hM.1 (is := []) rfl rfl (g_runR C h (is := []) rfl rfl (As := []) (rest := [.int (slen k)]) (hM.2 _) vs_J0_335 (by exact vk_recv (i := k) C.sx.2.2.1 hk h.2.2) hl.1 rfl rfl (Nat.le_of_ble_eq_true rfl) dJ0_length_8abf5_6 ⟨Nat.le_of_ble_eq_true rfl, Nat.le_of_ble_eq_true rfl⟩ ⟨Nat.le_refl _, Nat.le_refl _⟩) (us2 := []) rfl (fun H locs h => ?_)
  refine lv_ishr C.hx C.hb dJ0_length_8abf5_9 ?_
  exact g_ret_i C h (by exact sb_shr0 _) rfl dJ0_length_8abf5_10
set_option maxRecDepth 100000 in
set_option maxHeartbeats 4000000 in
theorem c_J0_charAt (l : Launch) (G : GG) {k : Nat} {i : Int32} (hk : k < 5) (hi : vp_in i (strLen.getD k 0)) : MI l yJ0_charAt_5068e cJ0_charAt_5068e 2 (some .char) 4 [.ref (G.2.2 (10 + k)), .int i] G [] (sch k i) [] := by
  refine MI.intro (by decide) rfl (Nat.le_of_ble_eq_true rfl) (fun p e s m args below meth c A ls C h hl => ?_)
  have C : MC RJ0 cJ0_charAt_5068e 2 (some .char) G A p s m args meth c := C
  have hl : lv_has ls 2 [(0, .ref (G.2.2 (10 + k))), (1, .int i)] := hl
  refine lv_aload_n C.hx C.hb dJ0_charAt_5068e_0 rfl (lv_at hl 0 rfl) ?_
  have hM := c_J0_isLatin1 l G hk
  refine g_goI C h hM.1 (is := []) rfl rfl (g_runR C h (is := []) rfl rfl (As := []) (rest := []) (hM.2 _) vs_J0_492 (by exact vk_recv (i := k) C.sx.2.2.1 hk h.2.2) hl.1 rfl rfl (Nat.le_of_ble_eq_true rfl) dJ0_charAt_5068e_1 ⟨Nat.le_of_ble_eq_true rfl, Nat.le_of_ble_eq_true rfl⟩ ⟨Nat.le_refl _, Nat.le_refl _⟩) (us2 := []) rfl (fun H locs h => ?_)
  refine lv_if_eq (tgt := 16) C.hx C.hb dJ0_charAt_5068e_4 (by decide) (fun hc => absurd hc (by decide)) (fun _ => ?_)
  refine lv_aload_n C.hx C.hb dJ0_charAt_5068e_7 rfl (lv_at hl 0 rfl) ?_
  refine vk_getf C.hx C.hb (C.sx.2.2.1.1 k hk).2.2.1 h.2.2 C.hown (C.hts _ fj_9) (fun _ h9 => h9) dJ0_charAt_5068e_8 ?_
  refine lv_iload_n C.hx C.hb dJ0_charAt_5068e_11 rfl (lv_at hl 1 rfl) ?_
  have hM2 := c_J1_charAt l G hk hi
  refine g_goI C h hM2.1 (is := []) rfl rfl (g_runT C h (is := []) rfl rfl (As := [.ref (G.2.2 (20 + k)), .int i]) (rest := []) (hM2.2 _) tf_J0_495 hl.1 rfl rfl (Nat.le_of_ble_eq_true rfl) dJ0_charAt_5068e_12 ⟨Nat.le_of_ble_eq_true rfl, Nat.le_of_ble_eq_true rfl⟩ ⟨Nat.le_refl _, Nat.le_refl _⟩) (us2 := []) rfl (fun H locs h => ?_)
  exact g_ret_n C h (pk_nc _) rfl rfl dJ0_charAt_5068e_15
def upn (a : Nat → Nat) (k x : Nat) : Nat → Nat := fun j => if j = k then x else a j
