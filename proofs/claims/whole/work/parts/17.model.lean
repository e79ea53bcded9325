def f_X12_things (v_t : US) (v_t_now : Nat → Int32)  : Option (Int32) :=
  if (0 : Int32) < 0 ∨ 63 ≤ (0 : Int32).toNatClampNeg then none else (some (v_t_now (0 : Int32).toNatClampNeg))
set_option maxRecDepth 100000 in
set_option maxHeartbeats 4000000 in
theorem c_X12_things (l : Launch) (G : GG) (o_t : Nat) (a_t : Nat → Nat) {v_t : US} {v_t_now : Nat → Int32}  {res : Int32} (hf : f_X12_things v_t v_t_now = some res) : MI l yX12_things cX12_things 1 (some .int) 1 [.ref o_t] G [uX12 G o_t a_t v_t, uA G 63 (a_t 0) v_t_now] res [uX12 G o_t a_t v_t, uA G 63 (a_t 0) v_t_now] := by
  unfold f_X12_things at hf
  refine MI.intro (by decide) rfl (Nat.le_of_ble_eq_true rfl) (fun p e s m args below meth c A ls C h hl => ?_)
  have C : MC RX12 cX12_things 1 (some .int) G A p s m args meth c := C
  have hl : lv_has ls 1 [(0, .ref o_t)] := hl
  refine lv_aload_n C.hx C.hb dX12_things_0 rfl (lv_at hl 0 rfl) ?_
  refine g_get C h fl_X12_7 0 0 rfl rfl (v := .ref (a_t 0)) rfl dX12_things_1 ?_
  refine lv_iconst (v := 0) C.hx C.hb dX12_things_4 (by decide) ?_
  obtain ⟨zi1, hf⟩ := ck_some hf
  refine g_iald C h 1 0 rfl rfl (f := v_t_now) zi1 dX12_things_5 ?_
  obtain rfl := Option.some.inj hf
  exact g_ret_i C h rfl rfl dX12_things_6

def f_X12_all (v_t : US) (v_t_now : Nat → Int32)  : Option (Int32) :=
  (f_X12_things v_t v_t_now).bind fun zr1 => some ((1 <<< (zr1 &&& 31)) - 1)
set_option maxRecDepth 100000 in
set_option maxHeartbeats 4000000 in
theorem c_X12_all (l : Launch) (G : GG) (o_t : Nat) (a_t : Nat → Nat) {v_t : US} {v_t_now : Nat → Int32}  {res : Int32} (hf : f_X12_all v_t v_t_now = some res) : MI l yX12_all cX12_all 1 (some .int) 2 [.ref o_t] G [uX12 G o_t a_t v_t, uA G 63 (a_t 0) v_t_now] res [uX12 G o_t a_t v_t, uA G 63 (a_t 0) v_t_now] := by
  unfold f_X12_all at hf
  refine MI.intro (by decide) rfl (Nat.le_of_ble_eq_true rfl) (fun p e s m args below meth c A ls C h hl => ?_)
  have C : MC RX12 cX12_all 1 (some .int) G A p s m args meth c := C
  have hl : lv_has ls 1 [(0, .ref o_t)] := hl
  refine lv_iconst (v := 1) C.hx C.hb dX12_all_0 (by decide) ?_
  refine lv_aload_n C.hx C.hb dX12_all_1 rfl (lv_at hl 0 rfl) ?_
  obtain ⟨zr1, zq2, hf⟩ := bd_some hf
  have zm3 := c_X12_things l G o_t a_t (hf := zq2)
  refine g_goI C h zm3.1 (is := [0, 1]) rfl rfl (g_runV C h (is := [0, 1]) rfl rfl (As := []) (rest := [.int 1]) (zm3.2 _) vf_X12_48 0 0 rfl rfl hl.1 rfl rfl (Nat.le_of_ble_eq_true rfl) dX12_all_2 ⟨Nat.le_of_ble_eq_true rfl, Nat.le_of_ble_eq_true rfl⟩ ⟨Nat.le_refl _, Nat.le_refl _⟩) (us2 := [uX12 G o_t a_t v_t, uA G 63 (a_t 0) v_t_now]) rfl (fun H locs h => ?_)
  refine lv_ishl C.hx C.hb dX12_all_5 ?_
  refine lv_iconst (v := 1) C.hx C.hb dX12_all_6 (by decide) ?_
  refine lv_isub C.hx C.hb dX12_all_7 ?_
  obtain rfl := Option.some.inj hf
  exact g_ret_i C h rfl rfl dX12_all_8

def f_X12_bad (v_t : US) (x1 : Int32) : Option (Int32 × US) :=
  if (0 : Int32) < 0 ∨ 3 ≤ (0 : Int32).toNatClampNeg then none else (if (0 : Int32) < 0 ∨ 3 ≤ (0 : Int32).toNatClampNeg then none else (some (x1, upa v_t 3 ((0 : Int32).toNatClampNeg) (((v_t.2.2 3) (0 : Int32).toNatClampNeg) + 1))))
set_option maxRecDepth 100000 in
set_option maxHeartbeats 4000000 in
theorem c_X12_bad (l : Launch) (G : GG) (o_t : Nat) (a_t : Nat → Nat) {v_t : US} {x1 : Int32} {res : Int32 × US} (hf : f_X12_bad v_t x1 = some res) : MI l yX12_bad cX12_bad 2 (some .int) 1 [.ref o_t, .int x1] G [uX12 G o_t a_t v_t] res.1 [uX12 G o_t a_t res.2] := by
  unfold f_X12_bad at hf
  refine MI.intro (by decide) rfl (Nat.le_of_ble_eq_true rfl) (fun p e s m args below meth c A ls C h hl => ?_)
  have C : MC RX12 cX12_bad 2 (some .int) G A p s m args meth c := C
  have hl : lv_has ls 2 [(0, .ref o_t), (1, .int x1)] := hl
  refine lv_aload_n C.hx C.hb dX12_bad_0 rfl (lv_at hl 0 rfl) ?_
  refine g_get C h fl_X12_20 0 0 rfl rfl (v := .ref (a_t 3)) rfl dX12_bad_1 ?_
  refine lv_iconst (v := 0) C.hx C.hb dX12_bad_4 (by decide) ?_
  refine lv_dup2_11 C.hx C.hb dX12_bad_5 rfl rfl ?_
  obtain ⟨zi1, hf⟩ := ck_some hf
  refine g_iald C h 0 3 rfl rfl (f := v_t.2.2 3) zi1 dX12_bad_6 ?_
  refine lv_iconst (v := 1) C.hx C.hb dX12_bad_7 (by decide) ?_
  refine lv_iadd C.hx C.hb dX12_bad_8 ?_
  obtain ⟨zi2, hf⟩ := ck_some hf
  refine g_iast C h 0 3 rfl rfl (f := v_t.2.2 3) zi2 dX12_bad_9 (u' := uX12 G o_t a_t (upa v_t 3 ((0 : Int32).toNatClampNeg) (((v_t.2.2 3) (0 : Int32).toNatClampNeg) + 1))) (us' := [uX12 G o_t a_t (upa v_t 3 ((0 : Int32).toNatClampNeg) (((v_t.2.2 3) (0 : Int32).toNatClampNeg) + 1))]) rfl rfl (fun H locs h => ?_)
  refine lv_iload_n C.hx C.hb dX12_bad_10 rfl (lv_at hl 1 rfl) ?_
  obtain rfl := Option.some.inj hf
  exact g_ret_i C h rfl rfl dX12_bad_11

def f_X12_travelOf (v_t : US) (x1 : Int32) (x2 : Int32) : Option (Int32) :=
  if x1 = (-1) then (some (0)) else (if (((v_t.1 7) >>> (x1 &&& 31)) &&& 1) = 0 then (some (0)) else (if x1 < 0 ∨ 5 ≤ x1.toNatClampNeg then none else (if ((v_t.2.2 6) x1.toNatClampNeg) ≤ x2 then (if x1 < 0 ∨ 5 ≤ x1.toNatClampNeg then none else (some (x2 - ((v_t.2.2 6) x1.toNatClampNeg)))) else (some (0)))))
set_option maxRecDepth 100000 in
set_option maxHeartbeats 4000000 in
theorem c_X12_travelOf (l : Launch) (G : GG) (o_t : Nat) (a_t : Nat → Nat) {v_t : US} {x1 : Int32} {x2 : Int32} {res : Int32} (hf : f_X12_travelOf v_t x1 x2 = some res) : MI l yX12_travelOf cX12_travelOf 3 (some .int) 1 [.ref o_t, .int x1, .int x2] G [uX12 G o_t a_t v_t] res [uX12 G o_t a_t v_t] := by
  unfold f_X12_travelOf at hf
  refine MI.intro (by decide) rfl (Nat.le_of_ble_eq_true rfl) (fun p e s m args below meth c A ls C h hl => ?_)
  have C : MC RX12 cX12_travelOf 3 (some .int) G A p s m args meth c := C
  have hl : lv_has ls 3 [(0, .ref o_t), (1, .int x1), (2, .int x2)] := hl
  refine lv_iload_n C.hx C.hb dX12_travelOf_0 rfl (lv_at hl 1 rfl) ?_
  refine lv_iconst (v := (-1)) C.hx C.hb dX12_travelOf_1 (by decide) ?_
  refine lv_icmp_eq (tgt := 26) C.hx C.hb dX12_travelOf_2 (by decide) (fun zc1 => ?_) (fun zc1 => ?_)
  · replace hf := it_t zc1 hf
    refine lv_iconst (v := 0) C.hx C.hb dX12_travelOf_26 (by decide) ?_
    refine lv_goto (tgt := 38) C.hx C.hb dX12_travelOf_27 (by decide) ?_
    obtain rfl := Option.some.inj hf
    exact g_ret_i C h rfl rfl dX12_travelOf_38
  · replace hf := it_f zc1 hf
    refine lv_aload_n C.hx C.hb dX12_travelOf_5 rfl (lv_at hl 0 rfl) ?_
    refine g_get C h fl_X12_89 0 0 rfl rfl (v := .int (v_t.1 7)) rfl dX12_travelOf_6 ?_
    refine lv_iload_n C.hx C.hb dX12_travelOf_9 rfl (lv_at hl 1 rfl) ?_
    refine lv_ishr C.hx C.hb dX12_travelOf_10 ?_
    refine lv_iconst (v := 1) C.hx C.hb dX12_travelOf_11 (by decide) ?_
    refine lv_iand C.hx C.hb dX12_travelOf_12 ?_
    refine lv_if_eq (tgt := 26) C.hx C.hb dX12_travelOf_13 (by decide) (fun zc2 => ?_) (fun zc2 => ?_)
    · replace hf := it_t zc2 hf
      refine lv_iconst (v := 0) C.hx C.hb dX12_travelOf_26 (by decide) ?_
      refine lv_goto (tgt := 38) C.hx C.hb dX12_travelOf_27 (by decide) ?_
      obtain rfl := Option.some.inj hf
      exact g_ret_i C h rfl rfl dX12_travelOf_38
    · replace hf := it_f zc2 hf
      refine lv_iload_n C.hx C.hb dX12_travelOf_16 rfl (lv_at hl 2 rfl) ?_
      refine lv_aload_n C.hx C.hb dX12_travelOf_17 rfl (lv_at hl 0 rfl) ?_
      refine g_get C h fl_X12_27 0 0 rfl rfl (v := .ref (a_t 6)) rfl dX12_travelOf_18 ?_
      refine lv_iload_n C.hx C.hb dX12_travelOf_21 rfl (lv_at hl 1 rfl) ?_
      obtain ⟨zi3, hf⟩ := ck_some hf
      refine g_iald C h 0 4 rfl rfl (f := v_t.2.2 6) zi3 dX12_travelOf_22 ?_
      refine lv_icmp_ge (tgt := 30) C.hx C.hb dX12_travelOf_23 (by decide) (fun zc4 => ?_) (fun zc4 => ?_)
      · replace hf := it_t zc4 hf
        refine lv_iload_n C.hx C.hb dX12_travelOf_30 rfl (lv_at hl 2 rfl) ?_
        refine lv_aload_n C.hx C.hb dX12_travelOf_31 rfl (lv_at hl 0 rfl) ?_
        refine g_get C h fl_X12_27 0 0 rfl rfl (v := .ref (a_t 6)) rfl dX12_travelOf_32 ?_
        refine lv_iload_n C.hx C.hb dX12_travelOf_35 rfl (lv_at hl 1 rfl) ?_
        obtain ⟨zi5, hf⟩ := ck_some hf
        refine g_iald C h 0 4 rfl rfl (f := v_t.2.2 6) zi5 dX12_travelOf_36 ?_
        refine lv_isub C.hx C.hb dX12_travelOf_37 ?_
        obtain rfl := Option.some.inj hf
        exact g_ret_i C h rfl rfl dX12_travelOf_38
      · replace hf := it_f zc4 hf
        refine lv_iconst (v := 0) C.hx C.hb dX12_travelOf_26 (by decide) ?_
        refine lv_goto (tgt := 38) C.hx C.hb dX12_travelOf_27 (by decide) ?_
        obtain rfl := Option.some.inj hf
        exact g_ret_i C h rfl rfl dX12_travelOf_38

def f_X12_travel (v_t : US)  : Option (Int32) :=
  (f_X12_travelOf v_t (v_t.1 8) (v_t.1 9)).bind fun zr1 => (f_X12_travelOf v_t (v_t.1 10) (v_t.1 11)).bind fun zr4 => some (zr1 + zr4)
set_option maxRecDepth 100000 in
set_option maxHeartbeats 4000000 in
theorem c_X12_travel (l : Launch) (G : GG) (o_t : Nat) (a_t : Nat → Nat) {v_t : US}  {res : Int32} (hf : f_X12_travel v_t = some res) : MI l yX12_travel cX12_travel 1 (some .int) 2 [.ref o_t] G [uX12 G o_t a_t v_t] res [uX12 G o_t a_t v_t] := by
  unfold f_X12_travel at hf
  refine MI.intro (by decide) rfl (Nat.le_of_ble_eq_true rfl) (fun p e s m args below meth c A ls C h hl => ?_)
  have C : MC RX12 cX12_travel 1 (some .int) G A p s m args meth c := C
  have hl : lv_has ls 1 [(0, .ref o_t)] := hl
  refine lv_aload_n C.hx C.hb dX12_travel_0 rfl (lv_at hl 0 rfl) ?_
  refine lv_aload_n C.hx C.hb dX12_travel_1 rfl (lv_at hl 0 rfl) ?_
  refine g_get C h fl_X12_93 0 0 rfl rfl (v := .int (v_t.1 8)) rfl dX12_travel_2 ?_
  refine lv_aload_n C.hx C.hb dX12_travel_5 rfl (lv_at hl 0 rfl) ?_
  refine g_get C h fl_X12_96 0 0 rfl rfl (v := .int (v_t.1 9)) rfl dX12_travel_6 ?_
  obtain ⟨zr1, zq2, hf⟩ := bd_some hf
  have zm3 := c_X12_travelOf l G o_t a_t (hf := zq2)
  refine g_goI C h zm3.1 (is := [0]) rfl rfl (g_runV C h (is := [0]) rfl rfl (As := [.int (v_t.1 8), .int (v_t.1 9)]) (rest := []) (zm3.2 _) vf_X12_105 0 0 rfl rfl hl.1 rfl rfl (Nat.le_of_ble_eq_true rfl) dX12_travel_9 ⟨Nat.le_of_ble_eq_true rfl, Nat.le_of_ble_eq_true rfl⟩ ⟨Nat.le_refl _, Nat.le_refl _⟩) (us2 := [uX12 G o_t a_t v_t]) rfl (fun H locs h => ?_)
  refine lv_aload_n C.hx C.hb dX12_travel_12 rfl (lv_at hl 0 rfl) ?_
  refine lv_aload_n C.hx C.hb dX12_travel_13 rfl (lv_at hl 0 rfl) ?_
  refine g_get C h fl_X12_99 0 0 rfl rfl (v := .int (v_t.1 10)) rfl dX12_travel_14 ?_
  refine lv_aload_n C.hx C.hb dX12_travel_17 rfl (lv_at hl 0 rfl) ?_
  refine g_get C h fl_X12_102 0 0 rfl rfl (v := .int (v_t.1 11)) rfl dX12_travel_18 ?_
  obtain ⟨zr4, zq5, hf⟩ := bd_some hf
  have zm6 := c_X12_travelOf l G o_t a_t (hf := zq5)
  refine g_goI C h zm6.1 (is := [0]) rfl rfl (g_runV C h (is := [0]) rfl rfl (As := [.int (v_t.1 10), .int (v_t.1 11)]) (rest := [.int zr1]) (zm6.2 _) vf_X12_105 0 0 rfl rfl hl.1 rfl rfl (Nat.le_of_ble_eq_true rfl) dX12_travel_21 ⟨Nat.le_of_ble_eq_true rfl, Nat.le_of_ble_eq_true rfl⟩ ⟨Nat.le_refl _, Nat.le_refl _⟩) (us2 := [uX12 G o_t a_t v_t]) rfl (fun H locs h => ?_)
  refine lv_iadd C.hx C.hb dX12_travel_24 ?_
  obtain rfl := Option.some.inj hf
  exact g_ret_i C h rfl rfl dX12_travel_25

def f_X12_moveOf (v_t : US) (x1 : Int32) : Option (Int32) :=
  if x1 = (v_t.1 8) then (some (v_t.1 9)) else (if x1 = (v_t.1 10) then (some (v_t.1 11)) else ((f_X12_travel v_t).bind fun zr3 => if x1 < 0 ∨ 5 ≤ x1.toNatClampNeg then none else (if (zr3 - ((v_t.2.2 6) x1.toNatClampNeg)) < 0 then (some (0)) else (if (((v_t.1 7) >>> (x1 &&& 31)) &&& 1) = 0 then (some (0)) else (some (zr3 - ((v_t.2.2 6) x1.toNatClampNeg)))))))
set_option maxRecDepth 100000 in
set_option maxHeartbeats 4000000 in
theorem c_X12_moveOf (l : Launch) (G : GG) (o_t : Nat) (a_t : Nat → Nat) {v_t : US} {x1 : Int32} {res : Int32} (hf : f_X12_moveOf v_t x1 = some res) : MI l yX12_moveOf cX12_moveOf 3 (some .int) 3 [.ref o_t, .int x1] G [uX12 G o_t a_t v_t] res [uX12 G o_t a_t v_t] := by
  unfold f_X12_moveOf at hf
  refine MI.intro (by decide) rfl (Nat.le_of_ble_eq_true rfl) (fun p e s m args below meth c A ls C h hl => ?_)
  have C : MC RX12 cX12_moveOf 3 (some .int) G A p s m args meth c := C
  have hl : lv_has ls 3 [(0, .ref o_t), (1, .int x1)] := hl
  refine lv_iload_n C.hx C.hb dX12_moveOf_0 rfl (lv_at hl 1 rfl) ?_
  refine lv_aload_n C.hx C.hb dX12_moveOf_1 rfl (lv_at hl 0 rfl) ?_
  refine g_get C h fl_X12_93 0 0 rfl rfl (v := .int (v_t.1 8)) rfl dX12_moveOf_2 ?_
  refine lv_icmp_ne (tgt := 13) C.hx C.hb dX12_moveOf_5 (by decide) (fun zc1 => ?_) (fun zc1 => ?_)
  · replace hf := it_f zc1 hf
    refine lv_iload_n C.hx C.hb dX12_moveOf_13 rfl (lv_at hl 1 rfl) ?_
    refine lv_aload_n C.hx C.hb dX12_moveOf_14 rfl (lv_at hl 0 rfl) ?_
    refine g_get C h fl_X12_99 0 0 rfl rfl (v := .int (v_t.1 10)) rfl dX12_moveOf_15 ?_
    refine lv_icmp_ne (tgt := 26) C.hx C.hb dX12_moveOf_18 (by decide) (fun zc2 => ?_) (fun zc2 => ?_)
    · replace hf := it_f zc2 hf
      refine lv_aload_n C.hx C.hb dX12_moveOf_26 rfl (lv_at hl 0 rfl) ?_
      obtain ⟨zr3, zq4, hf⟩ := bd_some hf
      have zm5 := c_X12_travel l G o_t a_t (hf := zq4)
      refine g_goI C h zm5.1 (is := [0]) rfl rfl (g_runV C h (is := [0]) rfl rfl (As := []) (rest := []) (zm5.2 _) vf_X12_108 0 0 rfl rfl hl.1 rfl rfl (Nat.le_of_ble_eq_true rfl) dX12_moveOf_27 ⟨Nat.le_of_ble_eq_true rfl, Nat.le_of_ble_eq_true rfl⟩ ⟨Nat.le_refl _, Nat.le_refl _⟩) (us2 := [uX12 G o_t a_t v_t]) rfl (fun H locs h => ?_)
      refine lv_aload_n C.hx C.hb dX12_moveOf_30 rfl (lv_at hl 0 rfl) ?_
      refine g_get C h fl_X12_27 0 0 rfl rfl (v := .ref (a_t 6)) rfl dX12_moveOf_31 ?_
      refine lv_iload_n C.hx C.hb dX12_moveOf_34 rfl (lv_at hl 1 rfl) ?_
      obtain ⟨zi6, hf⟩ := ck_some hf
      refine g_iald C h 0 4 rfl rfl (f := v_t.2.2 6) zi6 dX12_moveOf_35 ?_
      refine lv_isub C.hx C.hb dX12_moveOf_36 ?_
      refine lv_istore_n (lv' := [(2, .int (zr3 - ((v_t.2.2 6) x1.toNatClampNeg))), (0, .ref o_t), (1, .int x1)]) C.hx C.hb dX12_moveOf_37 rfl hl (by decide) rfl (fun ls hl => ?_)
      refine lv_iload_n C.hx C.hb dX12_moveOf_38 rfl (lv_at hl 0 rfl) ?_
      refine lv_if_lt (tgt := 53) C.hx C.hb dX12_moveOf_39 (by decide) (fun zc7 => ?_) (fun zc7 => ?_)
      · replace hf := it_t zc7 hf
        refine lv_iconst (v := 0) C.hx C.hb dX12_moveOf_53 (by decide) ?_
        refine lv_goto (tgt := 58) C.hx C.hb dX12_moveOf_54 (by decide) ?_
        obtain rfl := Option.some.inj hf
        exact g_ret_i C h rfl rfl dX12_moveOf_58
      · replace hf := it_f zc7 hf
        refine lv_aload_n C.hx C.hb dX12_moveOf_42 rfl (lv_at hl 1 rfl) ?_
        refine g_get C h fl_X12_89 0 0 rfl rfl (v := .int (v_t.1 7)) rfl dX12_moveOf_43 ?_
        refine lv_iload_n C.hx C.hb dX12_moveOf_46 rfl (lv_at hl 2 rfl) ?_
        refine lv_ishr C.hx C.hb dX12_moveOf_47 ?_
        refine lv_iconst (v := 1) C.hx C.hb dX12_moveOf_48 (by decide) ?_
        refine lv_iand C.hx C.hb dX12_moveOf_49 ?_
        refine lv_if_ne (tgt := 57) C.hx C.hb dX12_moveOf_50 (by decide) (fun zc8 => ?_) (fun zc8 => ?_)
        · replace hf := it_f zc8 hf
          refine lv_iload_n C.hx C.hb dX12_moveOf_57 rfl (lv_at hl 0 rfl) ?_
          obtain rfl := Option.some.inj hf
          exact g_ret_i C h rfl rfl dX12_moveOf_58
        · replace hf := it_t zc8 hf
          refine lv_iconst (v := 0) C.hx C.hb dX12_moveOf_53 (by decide) ?_
          refine lv_goto (tgt := 58) C.hx C.hb dX12_moveOf_54 (by decide) ?_
          obtain rfl := Option.some.inj hf
          exact g_ret_i C h rfl rfl dX12_moveOf_58
    · replace hf := it_t zc2 hf
      refine lv_aload_n C.hx C.hb dX12_moveOf_21 rfl (lv_at hl 0 rfl) ?_
      refine g_get C h fl_X12_102 0 0 rfl rfl (v := .int (v_t.1 11)) rfl dX12_moveOf_22 ?_
      obtain rfl := Option.some.inj hf
      exact g_ret_i C h rfl rfl dX12_moveOf_25
  · replace hf := it_t zc1 hf
    refine lv_aload_n C.hx C.hb dX12_moveOf_8 rfl (lv_at hl 0 rfl) ?_
    refine g_get C h fl_X12_96 0 0 rfl rfl (v := .int (v_t.1 9)) rfl dX12_moveOf_9 ?_
    obtain rfl := Option.some.inj hf
    exact g_ret_i C h rfl rfl dX12_moveOf_12

def f_X12_of (v_t : US) (v_t_now : Nat → Int32) (x1 : Int32) (x2 : Int32) : Option (Int32) :=
  if ((1 + (5 * x1)) + x2) < 0 ∨ 63 ≤ ((1 + (5 * x1)) + x2).toNatClampNeg then none else (some (v_t_now ((1 + (5 * x1)) + x2).toNatClampNeg))
set_option maxRecDepth 100000 in
set_option maxHeartbeats 4000000 in
theorem c_X12_of (l : Launch) (G : GG) (o_t : Nat) (a_t : Nat → Nat) {v_t : US} {v_t_now : Nat → Int32} {x1 : Int32} {x2 : Int32} {res : Int32} (hf : f_X12_of v_t v_t_now x1 x2 = some res) : MI l yX12_of cX12_of 3 (some .int) 1 [.ref o_t, .int x1, .int x2] G [uX12 G o_t a_t v_t, uA G 63 (a_t 0) v_t_now] res [uX12 G o_t a_t v_t, uA G 63 (a_t 0) v_t_now] := by
  unfold f_X12_of at hf
  refine MI.intro (by decide) rfl (Nat.le_of_ble_eq_true rfl) (fun p e s m args below meth c A ls C h hl => ?_)
  have C : MC RX12 cX12_of 3 (some .int) G A p s m args meth c := C
  have hl : lv_has ls 3 [(0, .ref o_t), (1, .int x1), (2, .int x2)] := hl
  refine lv_aload_n C.hx C.hb dX12_of_0 rfl (lv_at hl 0 rfl) ?_
  refine g_get C h fl_X12_7 0 0 rfl rfl (v := .ref (a_t 0)) rfl dX12_of_1 ?_
  refine lv_iconst (v := 1) C.hx C.hb dX12_of_4 (by decide) ?_
  refine lv_iconst (v := 5) C.hx C.hb dX12_of_5 (by decide) ?_
  refine lv_iload_n C.hx C.hb dX12_of_6 rfl (lv_at hl 1 rfl) ?_
  refine lv_imul C.hx C.hb dX12_of_7 ?_
  refine lv_iadd C.hx C.hb dX12_of_8 ?_
  refine lv_iload_n C.hx C.hb dX12_of_9 rfl (lv_at hl 2 rfl) ?_
  refine lv_iadd C.hx C.hb dX12_of_10 ?_
  obtain ⟨zi1, hf⟩ := ck_some hf
  refine g_iald C h 1 0 rfl rfl (f := v_t_now) zi1 dX12_of_11 ?_
  obtain rfl := Option.some.inj hf
  exact g_ret_i C h rfl rfl dX12_of_12

def b_X12_behind_182 (N : Nat) (g4 : US → (Nat → Int32) → Int32 → Int32 → Int32 → Option (Int32)) (v_t : US) (v_t_now : Nat → Int32) (y1 : Int32) (y2 : Int32) (y3 : Int32) (y7 : Int32) : Option (Int32) :=
  if y7 = 0 then (g4 v_t v_t_now y1 (y2 ||| 0) (y3 + 1)) else (g4 v_t v_t_now y1 (y2 ||| (1 <<< (y3 &&& 31))) (y3 + 1))
def b_X12_behind_107 (N : Nat) (g4 : US → (Nat → Int32) → Int32 → Int32 → Int32 → Option (Int32)) (v_t : US) (v_t_now : Nat → Int32) (y1 : Int32) (y2 : Int32) (y3 : Int32) (s0 : Int32) : Option (Int32) :=
  b_X12_behind_182 N g4 v_t v_t_now y1 y2 y3 s0
def b_X12_behind_102 (N : Nat) (g4 : US → (Nat → Int32) → Int32 → Int32 → Int32 → Option (Int32)) (v_t : US) (v_t_now : Nat → Int32) (y1 : Int32) (y2 : Int32) (y3 : Int32) : Option (Int32) :=
  b_X12_behind_107 N g4 v_t v_t_now y1 y2 y3 1
def b_X12_behind_127 (N : Nat) (g4 : US → (Nat → Int32) → Int32 → Int32 → Int32 → Option (Int32)) (v_t : US) (v_t_now : Nat → Int32) (y1 : Int32) (y2 : Int32) (y3 : Int32) (s0 : Int32) : Option (Int32) :=
  b_X12_behind_182 N g4 v_t v_t_now y1 y2 y3 s0
def b_X12_behind_126 (N : Nat) (g4 : US → (Nat → Int32) → Int32 → Int32 → Int32 → Option (Int32)) (v_t : US) (v_t_now : Nat → Int32) (y1 : Int32) (y2 : Int32) (y3 : Int32) : Option (Int32) :=
  b_X12_behind_127 N g4 v_t v_t_now y1 y2 y3 0
def b_X12_behind_144 (N : Nat) (g4 : US → (Nat → Int32) → Int32 → Int32 → Int32 → Option (Int32)) (v_t : US) (v_t_now : Nat → Int32) (y1 : Int32) (y2 : Int32) (y3 : Int32) (s0 : Int32) : Option (Int32) :=
  b_X12_behind_182 N g4 v_t v_t_now y1 y2 y3 s0
def b_X12_behind_177 (N : Nat) (g4 : US → (Nat → Int32) → Int32 → Int32 → Int32 → Option (Int32)) (v_t : US) (v_t_now : Nat → Int32) (y1 : Int32) (y2 : Int32) (y3 : Int32) (s0 : Int32) : Option (Int32) :=
  b_X12_behind_182 N g4 v_t v_t_now y1 y2 y3 s0
def b_X12_behind_176 (N : Nat) (g4 : US → (Nat → Int32) → Int32 → Int32 → Int32 → Option (Int32)) (v_t : US) (v_t_now : Nat → Int32) (y1 : Int32) (y2 : Int32) (y3 : Int32) : Option (Int32) :=
  b_X12_behind_177 N g4 v_t v_t_now y1 y2 y3 0
def b_X12_behind_159 (N : Nat) (g4 : US → (Nat → Int32) → Int32 → Int32 → Int32 → Option (Int32)) (v_t : US) (v_t_now : Nat → Int32) (y1 : Int32) (y2 : Int32) (y3 : Int32) (y5 : Int32) : Option (Int32) :=
  (f_X12_of v_t v_t_now y3 2).bind fun zr1 => if (zr1 + 3) ≤ y5 then (b_X12_behind_176 N g4 v_t v_t_now y1 y2 y3) else (b_X12_behind_177 N g4 v_t v_t_now y1 y2 y3 1)
def b_X12_behind_51 (N : Nat) (g4 : US → (Nat → Int32) → Int32 → Int32 → Int32 → Option (Int32)) (v_t : US) (v_t_now : Nat → Int32) (y1 : Int32) (y2 : Int32) (y3 : Int32) (y4 : Int32) (y5 : Int32) (s0 : Int32) : Option (Int32) :=
  (f_X12_of v_t v_t_now y3 0).bind fun zr1 => if zr1 = 1 then (if y4 = 0 then (if s0 = 0 then (b_X12_behind_107 N g4 v_t v_t_now y1 y2 y3 0) else (b_X12_behind_102 N g4 v_t v_t_now y1 y2 y3)) else (b_X12_behind_102 N g4 v_t v_t_now y1 y2 y3)) else (if zr1 = 2 then (if y4 = 0 then (b_X12_behind_126 N g4 v_t v_t_now y1 y2 y3) else (if s0 = 0 then (b_X12_behind_127 N g4 v_t v_t_now y1 y2 y3 1) else (b_X12_behind_126 N g4 v_t v_t_now y1 y2 y3))) else (if zr1 = 3 then (if s0 = y4 then (b_X12_behind_144 N g4 v_t v_t_now y1 y2 y3 0) else (b_X12_behind_144 N g4 v_t v_t_now y1 y2 y3 1)) else (if zr1 = 4 then (if y4 = 0 then (if s0 = 0 then (b_X12_behind_176 N g4 v_t v_t_now y1 y2 y3) else (b_X12_behind_159 N g4 v_t v_t_now y1 y2 y3 y5)) else (b_X12_behind_159 N g4 v_t v_t_now y1 y2 y3 y5)) else (b_X12_behind_182 N g4 v_t v_t_now y1 y2 y3 s0))))
def b_X12_behind_26 (N : Nat) (g4 : US → (Nat → Int32) → Int32 → Int32 → Int32 → Option (Int32)) (v_t : US) (v_t_now : Nat → Int32) (y1 : Int32) (y2 : Int32) (y3 : Int32) (s0 : Int32) : Option (Int32) :=
  (f_X12_moveOf v_t y3).bind fun zr1 => (f_X12_of v_t v_t_now y3 2).bind fun zr4 => if zr1 < zr4 then (b_X12_behind_51 N g4 v_t v_t_now y1 y2 y3 s0 zr1 0) else (b_X12_behind_51 N g4 v_t v_t_now y1 y2 y3 s0 zr1 1)
def b_X12_behind_4 (N : Nat) (g4 : US → (Nat → Int32) → Int32 → Int32 → Int32 → Option (Int32)) (v_t : US) (v_t_now : Nat → Int32) (y1 : Int32) (y2 : Int32) (y3 : Int32) : Option (Int32) :=
  (f_X12_things v_t v_t_now).bind fun zr1 => if zr1 ≤ y3 then (some (y2)) else (if ((y1 >>> (y3 &&& 31)) &&& 1) = 1 then (b_X12_behind_26 N g4 v_t v_t_now y1 y2 y3 1) else (b_X12_behind_26 N g4 v_t v_t_now y1 y2 y3 0))
def f_X12_behind_4 (N : Nat)  : Nat → US → (Nat → Int32) → Int32 → Int32 → Int32 → Option (Int32)
  | 0 => fun _ _ _ _ _ => none
  | k + 1 => fun q0 q1 q2 q3 q4 => b_X12_behind_4 N  (f_X12_behind_4 N  k) q0 q1 q2 q3 q4
def f_X12_behind (N : Nat) (v_t : US) (v_t_now : Nat → Int32) (x1 : Int32) : Option (Int32) :=
  f_X12_behind_4 N N v_t v_t_now x1 0 0
set_option maxRecDepth 100000 in
set_option maxHeartbeats 4000000 in
theorem w_X12_behind_182 {p : Program} {l : Launch} {e : Env} {s : State} {m : MethodId} {args : Array Value} {below : List Frame} {meth : Method} {c : Code} {G : GG} {A : Nat → Prop} {o_t : Nat} {a_t : Nat → Nat} {N : Nat} {g4 : US → (Nat → Int32) → Int32 → Int32 → Int32 → Option (Int32)} {v_t : US} {v_t_now : Nat → Int32} {y1 : Int32} {y2 : Int32} {y3 : Int32} {y7 : Int32} {res : Int32} (C : MC RX12 cX12_behind 8 (some .int) G A p s m args meth c) (hg4 : ∀ {v_t : US} {v_t_now : Nat → Int32} {y1 : Int32} {y2 : Int32} {y3 : Int32}, g4 v_t v_t_now y1 y2 y3 = some res → ∀ {H : Heap} {locs : List Loc} {ls : Array Slot}, HP G A s [uX12 G o_t a_t v_t, uA G 63 (a_t 0) v_t_now] H locs → lv_has ls 8 [(0, .ref o_t), (1, .int y1), (2, .int y2), (3, .int y3)] → W p l e (rmm 4) s m args below meth c H locs 0 0 (QI below G A args s res [uX12 G o_t a_t v_t, uA G 63 (a_t 0) v_t_now]) (F0 m 4 ls [])) (hf : b_X12_behind_182 N g4 v_t v_t_now y1 y2 y3 y7 = some res) {H : Heap} {locs : List Loc} {ls : Array Slot} (h : HP G A s [uX12 G o_t a_t v_t, uA G 63 (a_t 0) v_t_now] H locs) (hl : lv_has ls 8 [(0, .ref o_t), (1, .int y1), (2, .int y2), (3, .int y3), (7, .int y7)]) : W p l e (rmm 4) s m args below meth c H locs 0 0 (QI below G A args s res [uX12 G o_t a_t v_t, uA G 63 (a_t 0) v_t_now]) (F0 m 182 ls []) := by
  unfold b_X12_behind_182 at hf
  refine lv_iload_n C.hx C.hb dX12_behind_182 rfl (lv_at hl 2 rfl) ?_
  refine lv_iload C.hx C.hb dX12_behind_183 (lv_at hl 4 rfl) ?_
  refine lv_if_eq (tgt := 194) C.hx C.hb dX12_behind_185 (by decide) (fun zc1 => ?_) (fun zc1 => ?_)
  · replace hf := it_t zc1 hf
    refine lv_iconst (v := 0) C.hx C.hb dX12_behind_194 (by decide) ?_
    refine lv_ior C.hx C.hb dX12_behind_195 ?_
    refine lv_istore_n (lv' := [(2, .int (y2 ||| 0)), (0, .ref o_t), (1, .int y1), (3, .int y3), (7, .int y7)]) C.hx C.hb dX12_behind_196 rfl hl (by decide) rfl (fun ls hl => ?_)
    refine lv_iinc (v := y3 + 1) (lv' := [(3, .int (y3 + 1)), (2, .int (y2 ||| 0)), (0, .ref o_t), (1, .int y1), (7, .int y7)]) C.hx C.hb dX12_behind_197 hl (k := 3) rfl rfl (by decide) rfl (fun ls hl => ?_)
    refine lv_goto (tgt := 4) C.hx C.hb dX12_behind_200 (by decide) ?_
    exact hg4 hf h (lv_sub hl [2, 3, 1, 0] rfl)
  · replace hf := it_f zc1 hf
    refine lv_iconst (v := 1) C.hx C.hb dX12_behind_188 (by decide) ?_
    refine lv_iload_n C.hx C.hb dX12_behind_189 rfl (lv_at hl 3 rfl) ?_
    refine lv_ishl C.hx C.hb dX12_behind_190 ?_
    refine lv_goto (tgt := 195) C.hx C.hb dX12_behind_191 (by decide) ?_
    refine lv_ior C.hx C.hb dX12_behind_195 ?_
    refine lv_istore_n (lv' := [(2, .int (y2 ||| (1 <<< (y3 &&& 31)))), (0, .ref o_t), (1, .int y1), (3, .int y3), (7, .int y7)]) C.hx C.hb dX12_behind_196 rfl hl (by decide) rfl (fun ls hl => ?_)
    refine lv_iinc (v := y3 + 1) (lv' := [(3, .int (y3 + 1)), (2, .int (y2 ||| (1 <<< (y3 &&& 31)))), (0, .ref o_t), (1, .int y1), (7, .int y7)]) C.hx C.hb dX12_behind_197 hl (k := 3) rfl rfl (by decide) rfl (fun ls hl => ?_)
    refine lv_goto (tgt := 4) C.hx C.hb dX12_behind_200 (by decide) ?_
    exact hg4 hf h (lv_sub hl [2, 3, 1, 0] rfl)
set_option maxRecDepth 100000 in
set_option maxHeartbeats 4000000 in
theorem w_X12_behind_107 {p : Program} {l : Launch} {e : Env} {s : State} {m : MethodId} {args : Array Value} {below : List Frame} {meth : Method} {c : Code} {G : GG} {A : Nat → Prop} {o_t : Nat} {a_t : Nat → Nat} {N : Nat} {g4 : US → (Nat → Int32) → Int32 → Int32 → Int32 → Option (Int32)} {v_t : US} {v_t_now : Nat → Int32} {y1 : Int32} {y2 : Int32} {y3 : Int32} {s0 : Int32} {res : Int32} (C : MC RX12 cX12_behind 8 (some .int) G A p s m args meth c) (hg4 : ∀ {v_t : US} {v_t_now : Nat → Int32} {y1 : Int32} {y2 : Int32} {y3 : Int32}, g4 v_t v_t_now y1 y2 y3 = some res → ∀ {H : Heap} {locs : List Loc} {ls : Array Slot}, HP G A s [uX12 G o_t a_t v_t, uA G 63 (a_t 0) v_t_now] H locs → lv_has ls 8 [(0, .ref o_t), (1, .int y1), (2, .int y2), (3, .int y3)] → W p l e (rmm 4) s m args below meth c H locs 0 0 (QI below G A args s res [uX12 G o_t a_t v_t, uA G 63 (a_t 0) v_t_now]) (F0 m 4 ls [])) (hf : b_X12_behind_107 N g4 v_t v_t_now y1 y2 y3 s0 = some res) {H : Heap} {locs : List Loc} {ls : Array Slot} (h : HP G A s [uX12 G o_t a_t v_t, uA G 63 (a_t 0) v_t_now] H locs) (hl : lv_has ls 8 [(0, .ref o_t), (1, .int y1), (2, .int y2), (3, .int y3)]) : W p l e (rmm 4) s m args below meth c H locs 0 0 (QI below G A args s res [uX12 G o_t a_t v_t, uA G 63 (a_t 0) v_t_now]) (F0 m 107 ls [.int s0]) := by
  unfold b_X12_behind_107 at hf
  refine lv_istore (lv' := [(7, .int s0), (0, .ref o_t), (1, .int y1), (2, .int y2), (3, .int y3)]) C.hx C.hb dX12_behind_107 hl (by decide) rfl (fun ls hl => ?_)
  refine lv_goto (tgt := 182) C.hx C.hb dX12_behind_109 (by decide) ?_
  exact w_X12_behind_182 C hg4 hf h (lv_sub hl [1, 2, 3, 4, 0] rfl)
set_option maxRecDepth 100000 in
set_option maxHeartbeats 4000000 in
theorem w_X12_behind_102 {p : Program} {l : Launch} {e : Env} {s : State} {m : MethodId} {args : Array Value} {below : List Frame} {meth : Method} {c : Code} {G : GG} {A : Nat → Prop} {o_t : Nat} {a_t : Nat → Nat} {N : Nat} {g4 : US → (Nat → Int32) → Int32 → Int32 → Int32 → Option (Int32)} {v_t : US} {v_t_now : Nat → Int32} {y1 : Int32} {y2 : Int32} {y3 : Int32} {res : Int32} (C : MC RX12 cX12_behind 8 (some .int) G A p s m args meth c) (hg4 : ∀ {v_t : US} {v_t_now : Nat → Int32} {y1 : Int32} {y2 : Int32} {y3 : Int32}, g4 v_t v_t_now y1 y2 y3 = some res → ∀ {H : Heap} {locs : List Loc} {ls : Array Slot}, HP G A s [uX12 G o_t a_t v_t, uA G 63 (a_t 0) v_t_now] H locs → lv_has ls 8 [(0, .ref o_t), (1, .int y1), (2, .int y2), (3, .int y3)] → W p l e (rmm 4) s m args below meth c H locs 0 0 (QI below G A args s res [uX12 G o_t a_t v_t, uA G 63 (a_t 0) v_t_now]) (F0 m 4 ls [])) (hf : b_X12_behind_102 N g4 v_t v_t_now y1 y2 y3 = some res) {H : Heap} {locs : List Loc} {ls : Array Slot} (h : HP G A s [uX12 G o_t a_t v_t, uA G 63 (a_t 0) v_t_now] H locs) (hl : lv_has ls 8 [(0, .ref o_t), (1, .int y1), (2, .int y2), (3, .int y3)]) : W p l e (rmm 4) s m args below meth c H locs 0 0 (QI below G A args s res [uX12 G o_t a_t v_t, uA G 63 (a_t 0) v_t_now]) (F0 m 102 ls []) := by
  unfold b_X12_behind_102 at hf
  refine lv_iconst (v := 1) C.hx C.hb dX12_behind_102 (by decide) ?_
  refine lv_goto (tgt := 107) C.hx C.hb dX12_behind_103 (by decide) ?_
  exact w_X12_behind_107 C hg4 hf h (lv_sub hl [0, 1, 2, 3] rfl)
set_option maxRecDepth 100000 in
set_option maxHeartbeats 4000000 in
theorem w_X12_behind_127 {p : Program} {l : Launch} {e : Env} {s : State} {m : MethodId} {args : Array Value} {below : List Frame} {meth : Method} {c : Code} {G : GG} {A : Nat → Prop} {o_t : Nat} {a_t : Nat → Nat} {N : Nat} {g4 : US → (Nat → Int32) → Int32 → Int32 → Int32 → Option (Int32)} {v_t : US} {v_t_now : Nat → Int32} {y1 : Int32} {y2 : Int32} {y3 : Int32} {s0 : Int32} {res : Int32} (C : MC RX12 cX12_behind 8 (some .int) G A p s m args meth c) (hg4 : ∀ {v_t : US} {v_t_now : Nat → Int32} {y1 : Int32} {y2 : Int32} {y3 : Int32}, g4 v_t v_t_now y1 y2 y3 = some res → ∀ {H : Heap} {locs : List Loc} {ls : Array Slot}, HP G A s [uX12 G o_t a_t v_t, uA G 63 (a_t 0) v_t_now] H locs → lv_has ls 8 [(0, .ref o_t), (1, .int y1), (2, .int y2), (3, .int y3)] → W p l e (rmm 4) s m args below meth c H locs 0 0 (QI below G A args s res [uX12 G o_t a_t v_t, uA G 63 (a_t 0) v_t_now]) (F0 m 4 ls [])) (hf : b_X12_behind_127 N g4 v_t v_t_now y1 y2 y3 s0 = some res) {H : Heap} {locs : List Loc} {ls : Array Slot} (h : HP G A s [uX12 G o_t a_t v_t, uA G 63 (a_t 0) v_t_now] H locs) (hl : lv_has ls 8 [(0, .ref o_t), (1, .int y1), (2, .int y2), (3, .int y3)]) : W p l e (rmm 4) s m args below meth c H locs 0 0 (QI below G A args s res [uX12 G o_t a_t v_t, uA G 63 (a_t 0) v_t_now]) (F0 m 127 ls [.int s0]) := by
  unfold b_X12_behind_127 at hf
  refine lv_istore (lv' := [(7, .int s0), (0, .ref o_t), (1, .int y1), (2, .int y2), (3, .int y3)]) C.hx C.hb dX12_behind_127 hl (by decide) rfl (fun ls hl => ?_)
  refine lv_goto (tgt := 182) C.hx C.hb dX12_behind_129 (by decide) ?_
  exact w_X12_behind_182 C hg4 hf h (lv_sub hl [1, 2, 3, 4, 0] rfl)
set_option maxRecDepth 100000 in
set_option maxHeartbeats 4000000 in
theorem w_X12_behind_126 {p : Program} {l : Launch} {e : Env} {s : State} {m : MethodId} {args : Array Value} {below : List Frame} {meth : Method} {c : Code} {G : GG} {A : Nat → Prop} {o_t : Nat} {a_t : Nat → Nat} {N : Nat} {g4 : US → (Nat → Int32) → Int32 → Int32 → Int32 → Option (Int32)} {v_t : US} {v_t_now : Nat → Int32} {y1 : Int32} {y2 : Int32} {y3 : Int32} {res : Int32} (C : MC RX12 cX12_behind 8 (some .int) G A p s m args meth c) (hg4 : ∀ {v_t : US} {v_t_now : Nat → Int32} {y1 : Int32} {y2 : Int32} {y3 : Int32}, g4 v_t v_t_now y1 y2 y3 = some res → ∀ {H : Heap} {locs : List Loc} {ls : Array Slot}, HP G A s [uX12 G o_t a_t v_t, uA G 63 (a_t 0) v_t_now] H locs → lv_has ls 8 [(0, .ref o_t), (1, .int y1), (2, .int y2), (3, .int y3)] → W p l e (rmm 4) s m args below meth c H locs 0 0 (QI below G A args s res [uX12 G o_t a_t v_t, uA G 63 (a_t 0) v_t_now]) (F0 m 4 ls [])) (hf : b_X12_behind_126 N g4 v_t v_t_now y1 y2 y3 = some res) {H : Heap} {locs : List Loc} {ls : Array Slot} (h : HP G A s [uX12 G o_t a_t v_t, uA G 63 (a_t 0) v_t_now] H locs) (hl : lv_has ls 8 [(0, .ref o_t), (1, .int y1), (2, .int y2), (3, .int y3)]) : W p l e (rmm 4) s m args below meth c H locs 0 0 (QI below G A args s res [uX12 G o_t a_t v_t, uA G 63 (a_t 0) v_t_now]) (F0 m 126 ls []) := by
  unfold b_X12_behind_126 at hf
  refine lv_iconst (v := 0) C.hx C.hb dX12_behind_126 (by decide) ?_
  exact w_X12_behind_127 C hg4 hf h (lv_sub hl [0, 1, 2, 3] rfl)
set_option maxRecDepth 100000 in
set_option maxHeartbeats 4000000 in
theorem w_X12_behind_144 {p : Program} {l : Launch} {e : Env} {s : State} {m : MethodId} {args : Array Value} {below : List Frame} {meth : Method} {c : Code} {G : GG} {A : Nat → Prop} {o_t : Nat} {a_t : Nat → Nat} {N : Nat} {g4 : US → (Nat → Int32) → Int32 → Int32 → Int32 → Option (Int32)} {v_t : US} {v_t_now : Nat → Int32} {y1 : Int32} {y2 : Int32} {y3 : Int32} {s0 : Int32} {res : Int32} (C : MC RX12 cX12_behind 8 (some .int) G A p s m args meth c) (hg4 : ∀ {v_t : US} {v_t_now : Nat → Int32} {y1 : Int32} {y2 : Int32} {y3 : Int32}, g4 v_t v_t_now y1 y2 y3 = some res → ∀ {H : Heap} {locs : List Loc} {ls : Array Slot}, HP G A s [uX12 G o_t a_t v_t, uA G 63 (a_t 0) v_t_now] H locs → lv_has ls 8 [(0, .ref o_t), (1, .int y1), (2, .int y2), (3, .int y3)] → W p l e (rmm 4) s m args below meth c H locs 0 0 (QI below G A args s res [uX12 G o_t a_t v_t, uA G 63 (a_t 0) v_t_now]) (F0 m 4 ls [])) (hf : b_X12_behind_144 N g4 v_t v_t_now y1 y2 y3 s0 = some res) {H : Heap} {locs : List Loc} {ls : Array Slot} (h : HP G A s [uX12 G o_t a_t v_t, uA G 63 (a_t 0) v_t_now] H locs) (hl : lv_has ls 8 [(0, .ref o_t), (1, .int y1), (2, .int y2), (3, .int y3)]) : W p l e (rmm 4) s m args below meth c H locs 0 0 (QI below G A args s res [uX12 G o_t a_t v_t, uA G 63 (a_t 0) v_t_now]) (F0 m 144 ls [.int s0]) := by
  unfold b_X12_behind_144 at hf
  refine lv_istore (lv' := [(7, .int s0), (0, .ref o_t), (1, .int y1), (2, .int y2), (3, .int y3)]) C.hx C.hb dX12_behind_144 hl (by decide) rfl (fun ls hl => ?_)
  refine lv_goto (tgt := 182) C.hx C.hb dX12_behind_146 (by decide) ?_
  exact w_X12_behind_182 C hg4 hf h (lv_sub hl [1, 2, 3, 4, 0] rfl)
set_option maxRecDepth 100000 in
set_option maxHeartbeats 4000000 in
theorem w_X12_behind_177 {p : Program} {l : Launch} {e : Env} {s : State} {m : MethodId} {args : Array Value} {below : List Frame} {meth : Method} {c : Code} {G : GG} {A : Nat → Prop} {o_t : Nat} {a_t : Nat → Nat} {N : Nat} {g4 : US → (Nat → Int32) → Int32 → Int32 → Int32 → Option (Int32)} {v_t : US} {v_t_now : Nat → Int32} {y1 : Int32} {y2 : Int32} {y3 : Int32} {s0 : Int32} {res : Int32} (C : MC RX12 cX12_behind 8 (some .int) G A p s m args meth c) (hg4 : ∀ {v_t : US} {v_t_now : Nat → Int32} {y1 : Int32} {y2 : Int32} {y3 : Int32}, g4 v_t v_t_now y1 y2 y3 = some res → ∀ {H : Heap} {locs : List Loc} {ls : Array Slot}, HP G A s [uX12 G o_t a_t v_t, uA G 63 (a_t 0) v_t_now] H locs → lv_has ls 8 [(0, .ref o_t), (1, .int y1), (2, .int y2), (3, .int y3)] → W p l e (rmm 4) s m args below meth c H locs 0 0 (QI below G A args s res [uX12 G o_t a_t v_t, uA G 63 (a_t 0) v_t_now]) (F0 m 4 ls [])) (hf : b_X12_behind_177 N g4 v_t v_t_now y1 y2 y3 s0 = some res) {H : Heap} {locs : List Loc} {ls : Array Slot} (h : HP G A s [uX12 G o_t a_t v_t, uA G 63 (a_t 0) v_t_now] H locs) (hl : lv_has ls 8 [(0, .ref o_t), (1, .int y1), (2, .int y2), (3, .int y3)]) : W p l e (rmm 4) s m args below meth c H locs 0 0 (QI below G A args s res [uX12 G o_t a_t v_t, uA G 63 (a_t 0) v_t_now]) (F0 m 177 ls [.int s0]) := by
  unfold b_X12_behind_177 at hf
  refine lv_istore (lv' := [(7, .int s0), (0, .ref o_t), (1, .int y1), (2, .int y2), (3, .int y3)]) C.hx C.hb dX12_behind_177 hl (by decide) rfl (fun ls hl => ?_)
  refine lv_goto (tgt := 182) C.hx C.hb dX12_behind_179 (by decide) ?_
  exact w_X12_behind_182 C hg4 hf h (lv_sub hl [1, 2, 3, 4, 0] rfl)
set_option maxRecDepth 100000 in
set_option maxHeartbeats 4000000 in
theorem w_X12_behind_176 {p : Program} {l : Launch} {e : Env} {s : State} {m : MethodId} {args : Array Value} {below : List Frame} {meth : Method} {c : Code} {G : GG} {A : Nat → Prop} {o_t : Nat} {a_t : Nat → Nat} {N : Nat} {g4 : US → (Nat → Int32) → Int32 → Int32 → Int32 → Option (Int32)} {v_t : US} {v_t_now : Nat → Int32} {y1 : Int32} {y2 : Int32} {y3 : Int32} {res : Int32} (C : MC RX12 cX12_behind 8 (some .int) G A p s m args meth c) (hg4 : ∀ {v_t : US} {v_t_now : Nat → Int32} {y1 : Int32} {y2 : Int32} {y3 : Int32}, g4 v_t v_t_now y1 y2 y3 = some res → ∀ {H : Heap} {locs : List Loc} {ls : Array Slot}, HP G A s [uX12 G o_t a_t v_t, uA G 63 (a_t 0) v_t_now] H locs → lv_has ls 8 [(0, .ref o_t), (1, .int y1), (2, .int y2), (3, .int y3)] → W p l e (rmm 4) s m args below meth c H locs 0 0 (QI below G A args s res [uX12 G o_t a_t v_t, uA G 63 (a_t 0) v_t_now]) (F0 m 4 ls [])) (hf : b_X12_behind_176 N g4 v_t v_t_now y1 y2 y3 = some res) {H : Heap} {locs : List Loc} {ls : Array Slot} (h : HP G A s [uX12 G o_t a_t v_t, uA G 63 (a_t 0) v_t_now] H locs) (hl : lv_has ls 8 [(0, .ref o_t), (1, .int y1), (2, .int y2), (3, .int y3)]) : W p l e (rmm 4) s m args below meth c H locs 0 0 (QI below G A args s res [uX12 G o_t a_t v_t, uA G 63 (a_t 0) v_t_now]) (F0 m 176 ls []) := by
  unfold b_X12_behind_176 at hf
  refine lv_iconst (v := 0) C.hx C.hb dX12_behind_176 (by decide) ?_
  exact w_X12_behind_177 C hg4 hf h (lv_sub hl [0, 1, 2, 3] rfl)
set_option maxRecDepth 100000 in
set_option maxHeartbeats 4000000 in
theorem w_X12_behind_159 {p : Program} {l : Launch} {e : Env} {s : State} {m : MethodId} {args : Array Value} {below : List Frame} {meth : Method} {c : Code} {G : GG} {A : Nat → Prop} {o_t : Nat} {a_t : Nat → Nat} {N : Nat} {g4 : US → (Nat → Int32) → Int32 → Int32 → Int32 → Option (Int32)} {v_t : US} {v_t_now : Nat → Int32} {y1 : Int32} {y2 : Int32} {y3 : Int32} {y5 : Int32} {res : Int32} (C : MC RX12 cX12_behind 8 (some .int) G A p s m args meth c) (hg4 : ∀ {v_t : US} {v_t_now : Nat → Int32} {y1 : Int32} {y2 : Int32} {y3 : Int32}, g4 v_t v_t_now y1 y2 y3 = some res → ∀ {H : Heap} {locs : List Loc} {ls : Array Slot}, HP G A s [uX12 G o_t a_t v_t, uA G 63 (a_t 0) v_t_now] H locs → lv_has ls 8 [(0, .ref o_t), (1, .int y1), (2, .int y2), (3, .int y3)] → W p l e (rmm 4) s m args below meth c H locs 0 0 (QI below G A args s res [uX12 G o_t a_t v_t, uA G 63 (a_t 0) v_t_now]) (F0 m 4 ls [])) (hf : b_X12_behind_159 N g4 v_t v_t_now y1 y2 y3 y5 = some res) {H : Heap} {locs : List Loc} {ls : Array Slot} (h : HP G A s [uX12 G o_t a_t v_t, uA G 63 (a_t 0) v_t_now] H locs) (hl : lv_has ls 8 [(0, .ref o_t), (1, .int y1), (2, .int y2), (3, .int y3), (5, .int y5)]) : W p l e (rmm 4) s m args below meth c H locs 0 0 (QI below G A args s res [uX12 G o_t a_t v_t, uA G 63 (a_t 0) v_t_now]) (F0 m 159 ls []) := by
  unfold b_X12_behind_159 at hf
  refine lv_iload C.hx C.hb dX12_behind_159 (lv_at hl 4 rfl) ?_
  refine lv_aload_n C.hx C.hb dX12_behind_161 rfl (lv_at hl 0 rfl) ?_
  refine lv_iload_n C.hx C.hb dX12_behind_162 rfl (lv_at hl 3 rfl) ?_
  refine lv_iconst (v := 2) C.hx C.hb dX12_behind_163 (by decide) ?_
  obtain ⟨zr1, zq2, hf⟩ := bd_some hf
  have zm3 := c_X12_of l G o_t a_t (hf := zq2)
  refine g_goI C h zm3.1 (is := [0, 1]) rfl rfl (g_runV C h (is := [0, 1]) rfl rfl (As := [.int y3, .int 2]) (rest := [.int y5]) (zm3.2 _) vf_X12_75 0 0 rfl rfl hl.1 rfl rfl (Nat.le_of_ble_eq_true rfl) dX12_behind_164 ⟨Nat.le_of_ble_eq_true rfl, Nat.le_of_ble_eq_true rfl⟩ ⟨Nat.le_refl _, Nat.le_refl _⟩) (us2 := [uX12 G o_t a_t v_t, uA G 63 (a_t 0) v_t_now]) rfl (fun H locs h => ?_)
  refine lv_iconst (v := 3) C.hx C.hb dX12_behind_167 (by decide) ?_
  refine lv_iadd C.hx C.hb dX12_behind_168 ?_
  refine lv_icmp_ge (tgt := 176) C.hx C.hb dX12_behind_169 (by decide) (fun zc4 => ?_) (fun zc4 => ?_)
  · replace hf := it_t zc4 hf
    exact w_X12_behind_176 C hg4 hf h (lv_sub hl [0, 1, 2, 3] rfl)
  · replace hf := it_f zc4 hf
    refine lv_iconst (v := 1) C.hx C.hb dX12_behind_172 (by decide) ?_
    refine lv_goto (tgt := 177) C.hx C.hb dX12_behind_173 (by decide) ?_
    exact w_X12_behind_177 C hg4 hf h (lv_sub hl [0, 1, 2, 3] rfl)
set_option maxRecDepth 100000 in
set_option maxHeartbeats 4000000 in
theorem w_X12_behind_51 {p : Program} {l : Launch} {e : Env} {s : State} {m : MethodId} {args : Array Value} {below : List Frame} {meth : Method} {c : Code} {G : GG} {A : Nat → Prop} {o_t : Nat} {a_t : Nat → Nat} {N : Nat} {g4 : US → (Nat → Int32) → Int32 → Int32 → Int32 → Option (Int32)} {v_t : US} {v_t_now : Nat → Int32} {y1 : Int32} {y2 : Int32} {y3 : Int32} {y4 : Int32} {y5 : Int32} {s0 : Int32} {res : Int32} (C : MC RX12 cX12_behind 8 (some .int) G A p s m args meth c) (hg4 : ∀ {v_t : US} {v_t_now : Nat → Int32} {y1 : Int32} {y2 : Int32} {y3 : Int32}, g4 v_t v_t_now y1 y2 y3 = some res → ∀ {H : Heap} {locs : List Loc} {ls : Array Slot}, HP G A s [uX12 G o_t a_t v_t, uA G 63 (a_t 0) v_t_now] H locs → lv_has ls 8 [(0, .ref o_t), (1, .int y1), (2, .int y2), (3, .int y3)] → W p l e (rmm 4) s m args below meth c H locs 0 0 (QI below G A args s res [uX12 G o_t a_t v_t, uA G 63 (a_t 0) v_t_now]) (F0 m 4 ls [])) (hf : b_X12_behind_51 N g4 v_t v_t_now y1 y2 y3 y4 y5 s0 = some res) {H : Heap} {locs : List Loc} {ls : Array Slot} (h : HP G A s [uX12 G o_t a_t v_t, uA G 63 (a_t 0) v_t_now] H locs) (hl : lv_has ls 8 [(0, .ref o_t), (1, .int y1), (2, .int y2), (3, .int y3), (4, .int y4), (5, .int y5)]) : W p l e (rmm 4) s m args below meth c H locs 0 0 (QI below G A args s res [uX12 G o_t a_t v_t, uA G 63 (a_t 0) v_t_now]) (F0 m 51 ls [.int s0]) := by
  unfold b_X12_behind_51 at hf
  refine lv_istore (lv' := [(6, .int s0), (0, .ref o_t), (1, .int y1), (2, .int y2), (3, .int y3), (4, .int y4), (5, .int y5)]) C.hx C.hb dX12_behind_51 hl (by decide) rfl (fun ls hl => ?_)
  refine lv_iload C.hx C.hb dX12_behind_53 (lv_at hl 0 rfl) ?_
  refine lv_istore (lv' := [(7, .int s0), (6, .int s0), (0, .ref o_t), (1, .int y1), (2, .int y2), (3, .int y3), (4, .int y4), (5, .int y5)]) C.hx C.hb dX12_behind_55 hl (by decide) rfl (fun ls hl => ?_)
  refine lv_aload_n C.hx C.hb dX12_behind_57 rfl (lv_at hl 2 rfl) ?_
  refine lv_iload_n C.hx C.hb dX12_behind_58 rfl (lv_at hl 5 rfl) ?_
  refine lv_iconst (v := 0) C.hx C.hb dX12_behind_59 (by decide) ?_
  obtain ⟨zr1, zq2, hf⟩ := bd_some hf
  have zm3 := c_X12_of l G o_t a_t (hf := zq2)
  refine g_goI C h zm3.1 (is := [0, 1]) rfl rfl (g_runV C h (is := [0, 1]) rfl rfl (As := [.int y3, .int 0]) (rest := []) (zm3.2 _) vf_X12_75 0 0 rfl rfl hl.1 rfl rfl (Nat.le_of_ble_eq_true rfl) dX12_behind_60 ⟨Nat.le_of_ble_eq_true rfl, Nat.le_of_ble_eq_true rfl⟩ ⟨Nat.le_refl _, Nat.le_refl _⟩) (us2 := [uX12 G o_t a_t v_t, uA G 63 (a_t 0) v_t_now]) rfl (fun H locs h => ?_)
  by_cases zc4 : zr1 = 1
  · replace hf := it_t zc4 hf
    refine lv_tableIn (tgt := 92) (off := 29) C.hx C.hb dX12_behind_63 (by rw [zc4]; decide) (by rw [zc4]; decide) (by rw [zc4]; rfl) (by decide) ?_
    refine lv_iload C.hx C.hb dX12_behind_92 (lv_at hl 6 rfl) ?_
    refine lv_if_ne (tgt := 102) C.hx C.hb dX12_behind_94 (by decide) (fun zc5 => ?_) (fun zc5 => ?_)
    · replace hf := it_f zc5 hf
      exact w_X12_behind_102 C hg4 hf h (lv_sub hl [2, 3, 4, 5] rfl)
    · replace hf := it_t zc5 hf
      refine lv_iload C.hx C.hb dX12_behind_97 (lv_at hl 1 rfl) ?_
      refine lv_if_eq (tgt := 106) C.hx C.hb dX12_behind_99 (by decide) (fun zc6 => ?_) (fun zc6 => ?_)
      · replace hf := it_t zc6 hf
        refine lv_iconst (v := 0) C.hx C.hb dX12_behind_106 (by decide) ?_
        exact w_X12_behind_107 C hg4 hf h (lv_sub hl [2, 3, 4, 5] rfl)
      · replace hf := it_f zc6 hf
        exact w_X12_behind_102 C hg4 hf h (lv_sub hl [2, 3, 4, 5] rfl)
  replace hf := it_f zc4 hf
  by_cases zc7 : zr1 = 2
  · replace hf := it_t zc7 hf
    refine lv_tableIn (tgt := 112) (off := 49) C.hx C.hb dX12_behind_63 (by rw [zc7]; decide) (by rw [zc7]; decide) (by rw [zc7]; rfl) (by decide) ?_
    refine lv_iload C.hx C.hb dX12_behind_112 (lv_at hl 6 rfl) ?_
    refine lv_if_eq (tgt := 126) C.hx C.hb dX12_behind_114 (by decide) (fun zc8 => ?_) (fun zc8 => ?_)
    · replace hf := it_t zc8 hf
      exact w_X12_behind_126 C hg4 hf h (lv_sub hl [2, 3, 4, 5] rfl)
    · replace hf := it_f zc8 hf
      refine lv_iload C.hx C.hb dX12_behind_117 (lv_at hl 1 rfl) ?_
      refine lv_if_ne (tgt := 126) C.hx C.hb dX12_behind_119 (by decide) (fun zc9 => ?_) (fun zc9 => ?_)
      · replace hf := it_f zc9 hf
        exact w_X12_behind_126 C hg4 hf h (lv_sub hl [2, 3, 4, 5] rfl)
      · replace hf := it_t zc9 hf
        refine lv_iconst (v := 1) C.hx C.hb dX12_behind_122 (by decide) ?_
        refine lv_goto (tgt := 127) C.hx C.hb dX12_behind_123 (by decide) ?_
        exact w_X12_behind_127 C hg4 hf h (lv_sub hl [2, 3, 4, 5] rfl)
  replace hf := it_f zc7 hf
  by_cases zc10 : zr1 = 3
  · replace hf := it_t zc10 hf
    refine lv_tableIn (tgt := 132) (off := 69) C.hx C.hb dX12_behind_63 (by rw [zc10]; decide) (by rw [zc10]; decide) (by rw [zc10]; rfl) (by decide) ?_
    refine lv_iload C.hx C.hb dX12_behind_132 (lv_at hl 1 rfl) ?_
    refine lv_iload C.hx C.hb dX12_behind_134 (lv_at hl 6 rfl) ?_
    refine lv_icmp_eq (tgt := 143) C.hx C.hb dX12_behind_136 (by decide) (fun zc11 => ?_) (fun zc11 => ?_)
    · replace hf := it_t zc11 hf
      refine lv_iconst (v := 0) C.hx C.hb dX12_behind_143 (by decide) ?_
      exact w_X12_behind_144 C hg4 hf h (lv_sub hl [2, 3, 4, 5] rfl)
    · replace hf := it_f zc11 hf
      refine lv_iconst (v := 1) C.hx C.hb dX12_behind_139 (by decide) ?_
      refine lv_goto (tgt := 144) C.hx C.hb dX12_behind_140 (by decide) ?_
      exact w_X12_behind_144 C hg4 hf h (lv_sub hl [2, 3, 4, 5] rfl)
  replace hf := it_f zc10 hf
  by_cases zc12 : zr1 = 4
  · replace hf := it_t zc12 hf
    refine lv_tableIn (tgt := 149) (off := 86) C.hx C.hb dX12_behind_63 (by rw [zc12]; decide) (by rw [zc12]; decide) (by rw [zc12]; rfl) (by decide) ?_
    refine lv_iload C.hx C.hb dX12_behind_149 (lv_at hl 6 rfl) ?_
    refine lv_if_ne (tgt := 159) C.hx C.hb dX12_behind_151 (by decide) (fun zc13 => ?_) (fun zc13 => ?_)
    · replace hf := it_f zc13 hf
      exact w_X12_behind_159 C hg4 hf h (lv_sub hl [2, 3, 4, 5, 7] rfl)
    · replace hf := it_t zc13 hf
      refine lv_iload C.hx C.hb dX12_behind_154 (lv_at hl 1 rfl) ?_
      refine lv_if_eq (tgt := 176) C.hx C.hb dX12_behind_156 (by decide) (fun zc14 => ?_) (fun zc14 => ?_)
      · replace hf := it_t zc14 hf
        exact w_X12_behind_176 C hg4 hf h (lv_sub hl [2, 3, 4, 5] rfl)
      · replace hf := it_f zc14 hf
        exact w_X12_behind_159 C hg4 hf h (lv_sub hl [2, 3, 4, 5, 7] rfl)
  replace hf := it_f zc12 hf
  refine lv_tableOut (tgt := 182) C.hx C.hb dX12_behind_63 (by have ezc4 := lv_neT (a := 1) zc4 (by decide); have ezc7 := lv_neT (a := 2) zc7 (by decide); have ezc10 := lv_neT (a := 3) zc10 (by decide); have ezc12 := lv_neT (a := 4) zc12 (by decide); omega) (by decide) ?_
  exact w_X12_behind_182 C hg4 hf h (lv_sub hl [2, 3, 4, 5, 0] rfl)
set_option maxRecDepth 100000 in
set_option maxHeartbeats 4000000 in
theorem w_X12_behind_26 {p : Program} {l : Launch} {e : Env} {s : State} {m : MethodId} {args : Array Value} {below : List Frame} {meth : Method} {c : Code} {G : GG} {A : Nat → Prop} {o_t : Nat} {a_t : Nat → Nat} {N : Nat} {g4 : US → (Nat → Int32) → Int32 → Int32 → Int32 → Option (Int32)} {v_t : US} {v_t_now : Nat → Int32} {y1 : Int32} {y2 : Int32} {y3 : Int32} {s0 : Int32} {res : Int32} (C : MC RX12 cX12_behind 8 (some .int) G A p s m args meth c) (hg4 : ∀ {v_t : US} {v_t_now : Nat → Int32} {y1 : Int32} {y2 : Int32} {y3 : Int32}, g4 v_t v_t_now y1 y2 y3 = some res → ∀ {H : Heap} {locs : List Loc} {ls : Array Slot}, HP G A s [uX12 G o_t a_t v_t, uA G 63 (a_t 0) v_t_now] H locs → lv_has ls 8 [(0, .ref o_t), (1, .int y1), (2, .int y2), (3, .int y3)] → W p l e (rmm 4) s m args below meth c H locs 0 0 (QI below G A args s res [uX12 G o_t a_t v_t, uA G 63 (a_t 0) v_t_now]) (F0 m 4 ls [])) (hf : b_X12_behind_26 N g4 v_t v_t_now y1 y2 y3 s0 = some res) {H : Heap} {locs : List Loc} {ls : Array Slot} (h : HP G A s [uX12 G o_t a_t v_t, uA G 63 (a_t 0) v_t_now] H locs) (hl : lv_has ls 8 [(0, .ref o_t), (1, .int y1), (2, .int y2), (3, .int y3)]) : W p l e (rmm 4) s m args below meth c H locs 0 0 (QI below G A args s res [uX12 G o_t a_t v_t, uA G 63 (a_t 0) v_t_now]) (F0 m 26 ls [.int s0]) := by
  unfold b_X12_behind_26 at hf
  refine lv_istore (lv' := [(4, .int s0), (0, .ref o_t), (1, .int y1), (2, .int y2), (3, .int y3)]) C.hx C.hb dX12_behind_26 hl (by decide) rfl (fun ls hl => ?_)
  refine lv_aload_n C.hx C.hb dX12_behind_28 rfl (lv_at hl 1 rfl) ?_
  refine lv_iload_n C.hx C.hb dX12_behind_29 rfl (lv_at hl 4 rfl) ?_
  obtain ⟨zr1, zq2, hf⟩ := bd_some hf
  have zm3 := c_X12_moveOf l G o_t a_t (hf := zq2)
  refine g_goI C h zm3.1 (is := [0]) rfl rfl (g_runV C h (is := [0]) rfl rfl (As := [.int y3]) (rest := []) (zm3.2 _) vf_X12_111 0 0 rfl rfl hl.1 rfl rfl (Nat.le_of_ble_eq_true rfl) dX12_behind_30 ⟨Nat.le_of_ble_eq_true rfl, Nat.le_of_ble_eq_true rfl⟩ ⟨Nat.le_refl _, Nat.le_refl _⟩) (us2 := [uX12 G o_t a_t v_t, uA G 63 (a_t 0) v_t_now]) rfl (fun H locs h => ?_)
  refine lv_istore (lv' := [(5, .int zr1), (4, .int s0), (0, .ref o_t), (1, .int y1), (2, .int y2), (3, .int y3)]) C.hx C.hb dX12_behind_33 hl (by decide) rfl (fun ls hl => ?_)
  refine lv_iload C.hx C.hb dX12_behind_35 (lv_at hl 0 rfl) ?_
  refine lv_aload_n C.hx C.hb dX12_behind_37 rfl (lv_at hl 2 rfl) ?_
  refine lv_iload_n C.hx C.hb dX12_behind_38 rfl (lv_at hl 5 rfl) ?_
  refine lv_iconst (v := 2) C.hx C.hb dX12_behind_39 (by decide) ?_
  obtain ⟨zr4, zq5, hf⟩ := bd_some hf
  have zm6 := c_X12_of l G o_t a_t (hf := zq5)
  refine g_goI C h zm6.1 (is := [0, 1]) rfl rfl (g_runV C h (is := [0, 1]) rfl rfl (As := [.int y3, .int 2]) (rest := [.int zr1]) (zm6.2 _) vf_X12_75 0 0 rfl rfl hl.1 rfl rfl (Nat.le_of_ble_eq_true rfl) dX12_behind_40 ⟨Nat.le_of_ble_eq_true rfl, Nat.le_of_ble_eq_true rfl⟩ ⟨Nat.le_refl _, Nat.le_refl _⟩) (us2 := [uX12 G o_t a_t v_t, uA G 63 (a_t 0) v_t_now]) rfl (fun H locs h => ?_)
  refine lv_icmp_lt (tgt := 50) C.hx C.hb dX12_behind_43 (by decide) (fun zc7 => ?_) (fun zc7 => ?_)
  · replace hf := it_t zc7 hf
    refine lv_iconst (v := 0) C.hx C.hb dX12_behind_50 (by decide) ?_
    exact w_X12_behind_51 C hg4 hf h (lv_sub hl [2, 3, 4, 5, 1, 0] rfl)
  · replace hf := it_f zc7 hf
    refine lv_iconst (v := 1) C.hx C.hb dX12_behind_46 (by decide) ?_
    refine lv_goto (tgt := 51) C.hx C.hb dX12_behind_47 (by decide) ?_
    exact w_X12_behind_51 C hg4 hf h (lv_sub hl [2, 3, 4, 5, 1, 0] rfl)
set_option maxRecDepth 100000 in
set_option maxHeartbeats 4000000 in
theorem w_X12_behind_4 {p : Program} {l : Launch} {e : Env} {s : State} {m : MethodId} {args : Array Value} {below : List Frame} {meth : Method} {c : Code} {G : GG} {A : Nat → Prop} {o_t : Nat} {a_t : Nat → Nat} {N : Nat} {g4 : US → (Nat → Int32) → Int32 → Int32 → Int32 → Option (Int32)} {v_t : US} {v_t_now : Nat → Int32} {y1 : Int32} {y2 : Int32} {y3 : Int32} {res : Int32} (C : MC RX12 cX12_behind 8 (some .int) G A p s m args meth c) (hg4 : ∀ {v_t : US} {v_t_now : Nat → Int32} {y1 : Int32} {y2 : Int32} {y3 : Int32}, g4 v_t v_t_now y1 y2 y3 = some res → ∀ {H : Heap} {locs : List Loc} {ls : Array Slot}, HP G A s [uX12 G o_t a_t v_t, uA G 63 (a_t 0) v_t_now] H locs → lv_has ls 8 [(0, .ref o_t), (1, .int y1), (2, .int y2), (3, .int y3)] → W p l e (rmm 4) s m args below meth c H locs 0 0 (QI below G A args s res [uX12 G o_t a_t v_t, uA G 63 (a_t 0) v_t_now]) (F0 m 4 ls [])) (hf : b_X12_behind_4 N g4 v_t v_t_now y1 y2 y3 = some res) {H : Heap} {locs : List Loc} {ls : Array Slot} (h : HP G A s [uX12 G o_t a_t v_t, uA G 63 (a_t 0) v_t_now] H locs) (hl : lv_has ls 8 [(0, .ref o_t), (1, .int y1), (2, .int y2), (3, .int y3)]) : W p l e (rmm 4) s m args below meth c H locs 0 0 (QI below G A args s res [uX12 G o_t a_t v_t, uA G 63 (a_t 0) v_t_now]) (F0 m 4 ls []) := by
  unfold b_X12_behind_4 at hf
  refine lv_iload_n C.hx C.hb dX12_behind_4 rfl (lv_at hl 3 rfl) ?_
  refine lv_aload_n C.hx C.hb dX12_behind_5 rfl (lv_at hl 0 rfl) ?_
  obtain ⟨zr1, zq2, hf⟩ := bd_some hf
  have zm3 := c_X12_things l G o_t a_t (hf := zq2)
  refine g_goI C h zm3.1 (is := [0, 1]) rfl rfl (g_runV C h (is := [0, 1]) rfl rfl (As := []) (rest := [.int y3]) (zm3.2 _) vf_X12_48 0 0 rfl rfl hl.1 rfl rfl (Nat.le_of_ble_eq_true rfl) dX12_behind_6 ⟨Nat.le_of_ble_eq_true rfl, Nat.le_of_ble_eq_true rfl⟩ ⟨Nat.le_refl _, Nat.le_refl _⟩) (us2 := [uX12 G o_t a_t v_t, uA G 63 (a_t 0) v_t_now]) rfl (fun H locs h => ?_)
  refine lv_icmp_ge (tgt := 203) C.hx C.hb dX12_behind_9 (by decide) (fun zc4 => ?_) (fun zc4 => ?_)
  · replace hf := it_t zc4 hf
    refine lv_iload_n C.hx C.hb dX12_behind_203 rfl (lv_at hl 2 rfl) ?_
    obtain rfl := Option.some.inj hf
    exact g_ret_i C h rfl rfl dX12_behind_204
  · replace hf := it_f zc4 hf
    refine lv_iload_n C.hx C.hb dX12_behind_12 rfl (lv_at hl 1 rfl) ?_
    refine lv_iload_n C.hx C.hb dX12_behind_13 rfl (lv_at hl 3 rfl) ?_
    refine lv_ishr C.hx C.hb dX12_behind_14 ?_
    refine lv_iconst (v := 1) C.hx C.hb dX12_behind_15 (by decide) ?_
    refine lv_iand C.hx C.hb dX12_behind_16 ?_
    refine lv_iconst (v := 1) C.hx C.hb dX12_behind_17 (by decide) ?_
    refine lv_icmp_ne (tgt := 25) C.hx C.hb dX12_behind_18 (by decide) (fun zc5 => ?_) (fun zc5 => ?_)
    · replace hf := it_f zc5 hf
      refine lv_iconst (v := 0) C.hx C.hb dX12_behind_25 (by decide) ?_
      exact w_X12_behind_26 C hg4 hf h (lv_sub hl [0, 1, 2, 3] rfl)
    · replace hf := it_t zc5 hf
      refine lv_iconst (v := 1) C.hx C.hb dX12_behind_21 (by decide) ?_
      refine lv_goto (tgt := 26) C.hx C.hb dX12_behind_22 (by decide) ?_
      exact w_X12_behind_26 C hg4 hf h (lv_sub hl [0, 1, 2, 3] rfl)
set_option maxRecDepth 100000 in
set_option maxHeartbeats 4000000 in
theorem l_X12_behind_4 {p : Program} {l : Launch} {e : Env} {s : State} {m : MethodId} {args : Array Value} {below : List Frame} {meth : Method} {c : Code} {G : GG} {A : Nat → Prop} {o_t : Nat} {a_t : Nat → Nat} {N : Nat}  {res : Int32} (C : MC RX12 cX12_behind 8 (some .int) G A p s m args meth c)  : ∀ (k : Nat) {v_t : US} {v_t_now : Nat → Int32} {y1 : Int32} {y2 : Int32} {y3 : Int32}, f_X12_behind_4 N k v_t v_t_now y1 y2 y3 = some res → ∀ {H : Heap} {locs : List Loc} {ls : Array Slot}, HP G A s [uX12 G o_t a_t v_t, uA G 63 (a_t 0) v_t_now] H locs → lv_has ls 8 [(0, .ref o_t), (1, .int y1), (2, .int y2), (3, .int y3)] → W p l e (rmm 4) s m args below meth c H locs 0 0 (QI below G A args s res [uX12 G o_t a_t v_t, uA G 63 (a_t 0) v_t_now]) (F0 m 4 ls []) := by
  intro k
  induction k with
  | zero => intros; contradiction
  | succ k ih =>
    intro v_t v_t_now y1 y2 y3 hf H locs ls h hl
    exact w_X12_behind_4 (N := N) C ih hf h hl
set_option maxRecDepth 100000 in
set_option maxHeartbeats 4000000 in
theorem c_X12_behind (l : Launch) (G : GG) (o_t : Nat) (a_t : Nat → Nat) (N : Nat) {v_t : US} {v_t_now : Nat → Int32} {x1 : Int32} {res : Int32} (hf : f_X12_behind N v_t v_t_now x1 = some res) : MI l yX12_behind cX12_behind 8 (some .int) 4 [.ref o_t, .int x1] G [uX12 G o_t a_t v_t, uA G 63 (a_t 0) v_t_now] res [uX12 G o_t a_t v_t, uA G 63 (a_t 0) v_t_now] := by
  unfold f_X12_behind at hf
  refine MI.intro (by decide) rfl (Nat.le_of_ble_eq_true rfl) (fun p e s m args below meth c A ls C h hl => ?_)
  have C : MC RX12 cX12_behind 8 (some .int) G A p s m args meth c := C
  have hl : lv_has ls 8 [(0, .ref o_t), (1, .int x1)] := hl
  refine lv_iconst (v := 0) C.hx C.hb dX12_behind_0 (by decide) ?_
  refine lv_istore_n (lv' := [(2, .int 0), (0, .ref o_t), (1, .int x1)]) C.hx C.hb dX12_behind_1 rfl hl (by decide) rfl (fun ls hl => ?_)
  refine lv_iconst (v := 0) C.hx C.hb dX12_behind_2 (by decide) ?_
  refine lv_istore_n (lv' := [(3, .int 0), (2, .int 0), (0, .ref o_t), (1, .int x1)]) C.hx C.hb dX12_behind_3 rfl hl (by decide) rfl (fun ls hl => ?_)
  exact l_X12_behind_4 C N hf h (lv_sub hl [2, 3, 1, 0] rfl)

def b_X12_bits_4 (N : Nat) (g4 : Int32 → Int32 → Option (Int32))  (y1 : Int32) (y2 : Int32) : Option (Int32) :=
  if y2 ≤ 0 then (some (y1)) else (g4 (y1 + (y2 &&& 1)) (y2 >>> (1 &&& 31)))
def f_X12_bits_4 (N : Nat)  : Nat → Int32 → Int32 → Option (Int32)
  | 0 => fun _ _ => none
  | k + 1 => fun q0 q1 => b_X12_bits_4 N  (f_X12_bits_4 N  k) q0 q1
def f_X12_bits (N : Nat)  (x0 : Int32) : Option (Int32) :=
  f_X12_bits_4 N N 0 x0
set_option maxRecDepth 100000 in
set_option maxHeartbeats 4000000 in
theorem w_X12_bits_4 {p : Program} {l : Launch} {e : Env} {s : State} {m : MethodId} {args : Array Value} {below : List Frame} {meth : Method} {c : Code} {G : GG} {A : Nat → Prop} {N : Nat} {g4 : Int32 → Int32 → Option (Int32)}  {y1 : Int32} {y2 : Int32} {res : Int32} (C : MC RX12 cX12_bits 3 (some .int) G A p s m args meth c) (hg4 : ∀  {y1 : Int32} {y2 : Int32}, g4 y1 y2 = some res → ∀ {H : Heap} {locs : List Loc} {ls : Array Slot}, HP G A s [] H locs → lv_has ls 3 [(1, .int y1), (2, .int y2)] → W p l e (rmm 1) s m args below meth c H locs 0 0 (QI below G A args s res []) (F0 m 4 ls [])) (hf : b_X12_bits_4 N g4 y1 y2 = some res) {H : Heap} {locs : List Loc} {ls : Array Slot} (h : HP G A s [] H locs) (hl : lv_has ls 3 [(1, .int y1), (2, .int y2)]) : W p l e (rmm 1) s m args below meth c H locs 0 0 (QI below G A args s res []) (F0 m 4 ls []) := by
  unfold b_X12_bits_4 at hf
  refine lv_iload_n C.hx C.hb dX12_bits_4 rfl (lv_at hl 1 rfl) ?_
  refine lv_if_le (tgt := 21) C.hx C.hb dX12_bits_5 (by decide) (fun zc1 => ?_) (fun zc1 => ?_)
  · replace hf := it_t zc1 hf
    refine lv_iload_n C.hx C.hb dX12_bits_21 rfl (lv_at hl 0 rfl) ?_
    obtain rfl := Option.some.inj hf
    exact g_ret_i C h rfl rfl dX12_bits_22
  · replace hf := it_f zc1 hf
    refine lv_iload_n C.hx C.hb dX12_bits_8 rfl (lv_at hl 0 rfl) ?_
    refine lv_iload_n C.hx C.hb dX12_bits_9 rfl (lv_at hl 1 rfl) ?_
    refine lv_iconst (v := 1) C.hx C.hb dX12_bits_10 (by decide) ?_
    refine lv_iand C.hx C.hb dX12_bits_11 ?_
    refine lv_iadd C.hx C.hb dX12_bits_12 ?_
    refine lv_istore_n (lv' := [(1, .int (y1 + (y2 &&& 1))), (2, .int y2)]) C.hx C.hb dX12_bits_13 rfl hl (by decide) rfl (fun ls hl => ?_)
    refine lv_iload_n C.hx C.hb dX12_bits_14 rfl (lv_at hl 1 rfl) ?_
    refine lv_iconst (v := 1) C.hx C.hb dX12_bits_15 (by decide) ?_
    refine lv_ishr C.hx C.hb dX12_bits_16 ?_
    refine lv_istore_n (lv' := [(2, .int (y2 >>> (1 &&& 31))), (1, .int (y1 + (y2 &&& 1)))]) C.hx C.hb dX12_bits_17 rfl hl (by decide) rfl (fun ls hl => ?_)
    refine lv_goto (tgt := 4) C.hx C.hb dX12_bits_18 (by decide) ?_
    exact hg4 hf h (lv_sub hl [1, 0] rfl)
set_option maxRecDepth 100000 in
set_option maxHeartbeats 4000000 in
theorem l_X12_bits_4 {p : Program} {l : Launch} {e : Env} {s : State} {m : MethodId} {args : Array Value} {below : List Frame} {meth : Method} {c : Code} {G : GG} {A : Nat → Prop} {N : Nat}  {res : Int32} (C : MC RX12 cX12_bits 3 (some .int) G A p s m args meth c)  : ∀ (k : Nat)  {y1 : Int32} {y2 : Int32}, f_X12_bits_4 N k y1 y2 = some res → ∀ {H : Heap} {locs : List Loc} {ls : Array Slot}, HP G A s [] H locs → lv_has ls 3 [(1, .int y1), (2, .int y2)] → W p l e (rmm 1) s m args below meth c H locs 0 0 (QI below G A args s res []) (F0 m 4 ls []) := by
  intro k
  induction k with
  | zero => intros; contradiction
  | succ k ih =>
    intro y1 y2 hf H locs ls h hl
    exact w_X12_bits_4 (N := N) C ih hf h hl
set_option maxRecDepth 100000 in
set_option maxHeartbeats 4000000 in
theorem c_X12_bits (l : Launch) (G : GG) (N : Nat)  {x0 : Int32} {res : Int32} (hf : f_X12_bits N x0 = some res) : MI l yX12_bits cX12_bits 3 (some .int) 1 [.int x0] G [] res [] := by
  unfold f_X12_bits at hf
  refine MI.intro (by decide) rfl (Nat.le_of_ble_eq_true rfl) (fun p e s m args below meth c A ls C h hl => ?_)
  have C : MC RX12 cX12_bits 3 (some .int) G A p s m args meth c := C
  have hl : lv_has ls 3 [(0, .int x0)] := hl
  refine lv_iconst (v := 0) C.hx C.hb dX12_bits_0 (by decide) ?_
  refine lv_istore_n (lv' := [(1, .int 0), (0, .int x0)]) C.hx C.hb dX12_bits_1 rfl hl (by decide) rfl (fun ls hl => ?_)
  refine lv_iload_n C.hx C.hb dX12_bits_2 rfl (lv_at hl 1 rfl) ?_
  refine lv_istore_n (lv' := [(2, .int x0), (1, .int 0), (0, .int x0)]) C.hx C.hb dX12_bits_3 rfl hl (by decide) rfl (fun ls hl => ?_)
  exact l_X12_bits_4 C N hf h (lv_sub hl [1, 0] rfl)

def b_X12_goPull_55 (N : Nat)  (v_t : US) (v_t_now : Nat → Int32)  : Option (Int32 × (Nat → Int32)) :=
  if (52 : Int32) < 0 ∨ 63 ≤ (52 : Int32).toNatClampNeg then none else (if (27 : Int32) < 0 ∨ 63 ≤ (27 : Int32).toNatClampNeg then none else (if (53 + (v_t_now (52 : Int32).toNatClampNeg)) < 0 ∨ 63 ≤ (53 + (v_t_now (52 : Int32).toNatClampNeg)).toNatClampNeg then none else (if (52 : Int32) < 0 ∨ 63 ≤ (52 : Int32).toNatClampNeg then none else (bnd (upd v_t_now (53 + (v_t_now (52 : Int32).toNatClampNeg)).toNatClampNeg (v_t_now (27 : Int32).toNatClampNeg)) fun zw5 => if (52 : Int32) < 0 ∨ 63 ≤ (52 : Int32).toNatClampNeg then none else (if (27 : Int32) < 0 ∨ 63 ≤ (27 : Int32).toNatClampNeg then none else ((f_X12_behind N v_t (upd zw5 (52 : Int32).toNatClampNeg (((upd v_t_now (53 + (v_t_now (52 : Int32).toNatClampNeg)).toNatClampNeg (v_t_now (27 : Int32).toNatClampNeg)) (52 : Int32).toNatClampNeg) + 1)) ((upd zw5 (52 : Int32).toNatClampNeg (((upd v_t_now (53 + (v_t_now (52 : Int32).toNatClampNeg)).toNatClampNeg (v_t_now (27 : Int32).toNatClampNeg)) (52 : Int32).toNatClampNeg) + 1)) (27 : Int32).toNatClampNeg)).bind fun zr8 => bnd (upd zw5 (52 : Int32).toNatClampNeg (((upd v_t_now (53 + (v_t_now (52 : Int32).toNatClampNeg)).toNatClampNeg (v_t_now (27 : Int32).toNatClampNeg)) (52 : Int32).toNatClampNeg) + 1)) fun zw11 => if (27 : Int32) < 0 ∨ 63 ≤ (27 : Int32).toNatClampNeg then none else ((f_X12_travel v_t).bind fun zr13 => some (zr13 / 3, upd zw11 (27 : Int32).toNatClampNeg zr8))))))))
def b_X12_goPull_14 (N : Nat) (g14 : US → (Nat → Int32) → Int32 → (Option (Int32 × (Nat → Int32)))) (v_t : US) (v_t_now : Nat → Int32) (y1 : Int32) : Option (Int32 × (Nat → Int32)) :=
  if 9 ≤ y1 then (if (52 : Int32) < 0 ∨ 63 ≤ (52 : Int32).toNatClampNeg then none else (b_X12_goPull_55 N v_t (upd v_t_now (52 : Int32).toNatClampNeg 9))) else (if ((53 + y1) + 1) < 0 ∨ 63 ≤ ((53 + y1) + 1).toNatClampNeg then none else (if (53 + y1) < 0 ∨ 63 ≤ (53 + y1).toNatClampNeg then none else (g14 v_t (upd v_t_now (53 + y1).toNatClampNeg (v_t_now ((53 + y1) + 1).toNatClampNeg)) (y1 + 1))))
def f_X12_goPull_14 (N : Nat)  : Nat → US → (Nat → Int32) → Int32 → (Option (Int32 × (Nat → Int32)))
  | 0 => fun _ _ _ => none
  | k + 1 => fun q0 q1 q2 => b_X12_goPull_14 N  (f_X12_goPull_14 N  k) q0 q1 q2
def f_X12_goPull (N : Nat) (v_t : US) (v_t_now : Nat → Int32)  : Option (Int32 × (Nat → Int32)) :=
  if (52 : Int32) < 0 ∨ 63 ≤ (52 : Int32).toNatClampNeg then none else (if (v_t_now (52 : Int32).toNatClampNeg) = 10 then (f_X12_goPull_14 N N v_t v_t_now 0) else (b_X12_goPull_55 N v_t v_t_now))
set_option maxRecDepth 100000 in
set_option maxHeartbeats 4000000 in
theorem w_X12_goPull_55 {p : Program} {l : Launch} {e : Env} {s : State} {m : MethodId} {args : Array Value} {below : List Frame} {meth : Method} {c : Code} {G : GG} {A : Nat → Prop} {o_t : Nat} {a_t : Nat → Nat} {N : Nat}  {v_t : US} {v_t_now : Nat → Int32}  {res : Int32 × (Nat → Int32)} (C : MC RX12 cX12_goPull 2 (some .int) G A p s m args meth c)  (hf : b_X12_goPull_55 N v_t v_t_now = some res) {H : Heap} {locs : List Loc} {ls : Array Slot} (h : HP G A s [uX12 G o_t a_t v_t, uA G 63 (a_t 0) v_t_now] H locs) (hl : lv_has ls 2 [(0, .ref o_t)]) : W p l e (rmm 5) s m args below meth c H locs 0 0 (QI below G A args s res.1 [uX12 G o_t a_t v_t, uA G 63 (a_t 0) res.2]) (F0 m 55 ls []) := by
  unfold b_X12_goPull_55 at hf
  refine lv_aload_n C.hx C.hb dX12_goPull_55 rfl (lv_at hl 0 rfl) ?_
  refine g_get C h fl_X12_7 0 0 rfl rfl (v := .ref (a_t 0)) rfl dX12_goPull_56 ?_
  refine lv_bipush (v := 53) C.hx C.hb dX12_goPull_59 (by decide) ?_
  refine lv_aload_n C.hx C.hb dX12_goPull_61 rfl (lv_at hl 0 rfl) ?_
  refine g_get C h fl_X12_7 0 0 rfl rfl (v := .ref (a_t 0)) rfl dX12_goPull_62 ?_
  refine lv_bipush (v := 52) C.hx C.hb dX12_goPull_65 (by decide) ?_
  obtain ⟨zi1, hf⟩ := ck_some hf
  refine g_iald C h 1 0 rfl rfl (f := v_t_now) zi1 dX12_goPull_67 ?_
  refine lv_iadd C.hx C.hb dX12_goPull_68 ?_
  refine lv_aload_n C.hx C.hb dX12_goPull_69 rfl (lv_at hl 0 rfl) ?_
  refine g_get C h fl_X12_7 0 0 rfl rfl (v := .ref (a_t 0)) rfl dX12_goPull_70 ?_
  refine lv_bipush (v := 27) C.hx C.hb dX12_goPull_73 (by decide) ?_
  obtain ⟨zi2, hf⟩ := ck_some hf
  refine g_iald C h 1 0 rfl rfl (f := v_t_now) zi2 dX12_goPull_75 ?_
  obtain ⟨zi3, hf⟩ := ck_some hf
  refine g_iast C h 1 0 rfl rfl (f := v_t_now) zi3 dX12_goPull_76 (u' := uA G 63 (a_t 0) (upd v_t_now (53 + (v_t_now (52 : Int32).toNatClampNeg)).toNatClampNeg (v_t_now (27 : Int32).toNatClampNeg))) (us' := [uX12 G o_t a_t v_t, uA G 63 (a_t 0) (upd v_t_now (53 + (v_t_now (52 : Int32).toNatClampNeg)).toNatClampNeg (v_t_now (27 : Int32).toNatClampNeg))]) rfl rfl (fun H locs h => ?_)
  refine lv_aload_n C.hx C.hb dX12_goPull_77 rfl (lv_at hl 0 rfl) ?_
  refine g_get C h fl_X12_7 0 0 rfl rfl (v := .ref (a_t 0)) rfl dX12_goPull_78 ?_
  refine lv_bipush (v := 52) C.hx C.hb dX12_goPull_81 (by decide) ?_
  refine lv_dup2_11 C.hx C.hb dX12_goPull_83 rfl rfl ?_
  obtain ⟨zi4, hf⟩ := ck_some hf
  refine g_iald C h 1 0 rfl rfl (f := upd v_t_now (53 + (v_t_now (52 : Int32).toNatClampNeg)).toNatClampNeg (v_t_now (27 : Int32).toNatClampNeg)) zi4 dX12_goPull_84 ?_
  refine lv_iconst (v := 1) C.hx C.hb dX12_goPull_85 (by decide) ?_
  refine lv_iadd C.hx C.hb dX12_goPull_86 ?_
  obtain ⟨zw5, hzw5, hf⟩ := bnd_some hf
  rw [← hzw5] at h
  obtain ⟨zi6, hf⟩ := ck_some hf
  refine g_iast C h 1 0 rfl rfl (f := zw5) zi6 dX12_goPull_87 (u' := uA G 63 (a_t 0) (upd zw5 (52 : Int32).toNatClampNeg (((upd v_t_now (53 + (v_t_now (52 : Int32).toNatClampNeg)).toNatClampNeg (v_t_now (27 : Int32).toNatClampNeg)) (52 : Int32).toNatClampNeg) + 1))) (us' := [uX12 G o_t a_t v_t, uA G 63 (a_t 0) (upd zw5 (52 : Int32).toNatClampNeg (((upd v_t_now (53 + (v_t_now (52 : Int32).toNatClampNeg)).toNatClampNeg (v_t_now (27 : Int32).toNatClampNeg)) (52 : Int32).toNatClampNeg) + 1))]) rfl rfl (fun H locs h => ?_)
  refine lv_aload_n C.hx C.hb dX12_goPull_88 rfl (lv_at hl 0 rfl) ?_
  refine g_get C h fl_X12_7 0 0 rfl rfl (v := .ref (a_t 0)) rfl dX12_goPull_89 ?_
  refine lv_bipush (v := 27) C.hx C.hb dX12_goPull_92 (by decide) ?_
  refine lv_aload_n C.hx C.hb dX12_goPull_94 rfl (lv_at hl 0 rfl) ?_
  refine lv_aload_n C.hx C.hb dX12_goPull_95 rfl (lv_at hl 0 rfl) ?_
  refine g_get C h fl_X12_7 0 0 rfl rfl (v := .ref (a_t 0)) rfl dX12_goPull_96 ?_
  refine lv_bipush (v := 27) C.hx C.hb dX12_goPull_99 (by decide) ?_
  obtain ⟨zi7, hf⟩ := ck_some hf
  refine g_iald C h 1 0 rfl rfl (f := upd zw5 (52 : Int32).toNatClampNeg (((upd v_t_now (53 + (v_t_now (52 : Int32).toNatClampNeg)).toNatClampNeg (v_t_now (27 : Int32).toNatClampNeg)) (52 : Int32).toNatClampNeg) + 1)) zi7 dX12_goPull_101 ?_
  obtain ⟨zr8, zq9, hf⟩ := bd_some hf
  have zm10 := c_X12_behind l G o_t a_t N (hf := zq9)
  refine g_goI C h zm10.1 (is := [0, 1]) rfl rfl (g_runV C h (is := [0, 1]) rfl rfl (As := [.int ((upd zw5 (52 : Int32).toNatClampNeg (((upd v_t_now (53 + (v_t_now (52 : Int32).toNatClampNeg)).toNatClampNeg (v_t_now (27 : Int32).toNatClampNeg)) (52 : Int32).toNatClampNeg) + 1)) (27 : Int32).toNatClampNeg)]) (rest := [.int 27, .ref (a_t 0)]) (zm10.2 _) vf_X12_114 0 0 rfl rfl hl.1 rfl rfl (Nat.le_of_ble_eq_true rfl) dX12_goPull_102 ⟨Nat.le_of_ble_eq_true rfl, Nat.le_of_ble_eq_true rfl⟩ ⟨Nat.le_refl _, Nat.le_refl _⟩) (us2 := [uX12 G o_t a_t v_t, uA G 63 (a_t 0) (upd zw5 (52 : Int32).toNatClampNeg (((upd v_t_now (53 + (v_t_now (52 : Int32).toNatClampNeg)).toNatClampNeg (v_t_now (27 : Int32).toNatClampNeg)) (52 : Int32).toNatClampNeg) + 1))]) rfl (fun H locs h => ?_)
  obtain ⟨zw11, hzw11, hf⟩ := bnd_some hf
  rw [← hzw11] at h
  obtain ⟨zi12, hf⟩ := ck_some hf
  refine g_iast C h 1 0 rfl rfl (f := zw11) zi12 dX12_goPull_105 (u' := uA G 63 (a_t 0) (upd zw11 (27 : Int32).toNatClampNeg zr8)) (us' := [uX12 G o_t a_t v_t, uA G 63 (a_t 0) (upd zw11 (27 : Int32).toNatClampNeg zr8)]) rfl rfl (fun H locs h => ?_)
  refine lv_aload_n C.hx C.hb dX12_goPull_106 rfl (lv_at hl 0 rfl) ?_
  obtain ⟨zr13, zq14, hf⟩ := bd_some hf
  have zm15 := c_X12_travel l G o_t a_t (hf := zq14)
  refine g_goI C h zm15.1 (is := [0]) rfl rfl (g_runV C h (is := [0]) rfl rfl (As := []) (rest := []) (zm15.2 _) vf_X12_108 0 0 rfl rfl hl.1 rfl rfl (Nat.le_of_ble_eq_true rfl) dX12_goPull_107 ⟨Nat.le_of_ble_eq_true rfl, Nat.le_of_ble_eq_true rfl⟩ ⟨Nat.le_refl _, Nat.le_refl _⟩) (us2 := [uX12 G o_t a_t v_t, uA G 63 (a_t 0) (upd zw11 (27 : Int32).toNatClampNeg zr8)]) rfl (fun H locs h => ?_)
  refine lv_iconst (v := 3) C.hx C.hb dX12_goPull_110 (by decide) ?_
  refine lv_idiv C.hx C.hb dX12_goPull_111 (by decide) ?_
  obtain rfl := Option.some.inj hf
  exact g_ret_i C h rfl rfl dX12_goPull_112
set_option maxRecDepth 100000 in
set_option maxHeartbeats 4000000 in
theorem w_X12_goPull_14 {p : Program} {l : Launch} {e : Env} {s : State} {m : MethodId} {args : Array Value} {below : List Frame} {meth : Method} {c : Code} {G : GG} {A : Nat → Prop} {o_t : Nat} {a_t : Nat → Nat} {N : Nat} {g14 : US → (Nat → Int32) → Int32 → (Option (Int32 × (Nat → Int32)))} {v_t : US} {v_t_now : Nat → Int32} {y1 : Int32} {res : Int32 × (Nat → Int32)} (C : MC RX12 cX12_goPull 2 (some .int) G A p s m args meth c) (hg14 : ∀ {v_t : US} {v_t_now : Nat → Int32} {y1 : Int32}, g14 v_t v_t_now y1 = some res → ∀ {H : Heap} {locs : List Loc} {ls : Array Slot}, HP G A s [uX12 G o_t a_t v_t, uA G 63 (a_t 0) v_t_now] H locs → lv_has ls 2 [(0, .ref o_t), (1, .int y1)] → W p l e (rmm 5) s m args below meth c H locs 0 0 (QI below G A args s res.1 [uX12 G o_t a_t v_t, uA G 63 (a_t 0) res.2]) (F0 m 14 ls [])) (hf : b_X12_goPull_14 N g14 v_t v_t_now y1 = some res) {H : Heap} {locs : List Loc} {ls : Array Slot} (h : HP G A s [uX12 G o_t a_t v_t, uA G 63 (a_t 0) v_t_now] H locs) (hl : lv_has ls 2 [(0, .ref o_t), (1, .int y1)]) : W p l e (rmm 5) s m args below meth c H locs 0 0 (QI below G A args s res.1 [uX12 G o_t a_t v_t, uA G 63 (a_t 0) res.2]) (F0 m 14 ls []) := by
  unfold b_X12_goPull_14 at hf
  refine lv_iload_n C.hx C.hb dX12_goPull_14 rfl (lv_at hl 1 rfl) ?_
  refine lv_bipush (v := 9) C.hx C.hb dX12_goPull_15 (by decide) ?_
  refine lv_icmp_ge (tgt := 46) C.hx C.hb dX12_goPull_17 (by decide) (fun zc1 => ?_) (fun zc1 => ?_)
  · replace hf := it_t zc1 hf
    refine lv_aload_n C.hx C.hb dX12_goPull_46 rfl (lv_at hl 0 rfl) ?_
    refine g_get C h fl_X12_7 0 0 rfl rfl (v := .ref (a_t 0)) rfl dX12_goPull_47 ?_
    refine lv_bipush (v := 52) C.hx C.hb dX12_goPull_50 (by decide) ?_
    refine lv_bipush (v := 9) C.hx C.hb dX12_goPull_52 (by decide) ?_
    obtain ⟨zi2, hf⟩ := ck_some hf
    refine g_iast C h 1 0 rfl rfl (f := v_t_now) zi2 dX12_goPull_54 (u' := uA G 63 (a_t 0) (upd v_t_now (52 : Int32).toNatClampNeg 9)) (us' := [uX12 G o_t a_t v_t, uA G 63 (a_t 0) (upd v_t_now (52 : Int32).toNatClampNeg 9)]) rfl rfl (fun H locs h => ?_)
    exact w_X12_goPull_55 C  hf h (lv_sub hl [0] rfl)
  · replace hf := it_f zc1 hf
    refine lv_aload_n C.hx C.hb dX12_goPull_20 rfl (lv_at hl 0 rfl) ?_
    refine g_get C h fl_X12_7 0 0 rfl rfl (v := .ref (a_t 0)) rfl dX12_goPull_21 ?_
    refine lv_bipush (v := 53) C.hx C.hb dX12_goPull_24 (by decide) ?_
    refine lv_iload_n C.hx C.hb dX12_goPull_26 rfl (lv_at hl 1 rfl) ?_
    refine lv_iadd C.hx C.hb dX12_goPull_27 ?_
    refine lv_aload_n C.hx C.hb dX12_goPull_28 rfl (lv_at hl 0 rfl) ?_
    refine g_get C h fl_X12_7 0 0 rfl rfl (v := .ref (a_t 0)) rfl dX12_goPull_29 ?_
    refine lv_bipush (v := 53) C.hx C.hb dX12_goPull_32 (by decide) ?_
    refine lv_iload_n C.hx C.hb dX12_goPull_34 rfl (lv_at hl 1 rfl) ?_
    refine lv_iadd C.hx C.hb dX12_goPull_35 ?_
    refine lv_iconst (v := 1) C.hx C.hb dX12_goPull_36 (by decide) ?_
    refine lv_iadd C.hx C.hb dX12_goPull_37 ?_
    obtain ⟨zi3, hf⟩ := ck_some hf
    refine g_iald C h 1 0 rfl rfl (f := v_t_now) zi3 dX12_goPull_38 ?_
    obtain ⟨zi4, hf⟩ := ck_some hf
    refine g_iast C h 1 0 rfl rfl (f := v_t_now) zi4 dX12_goPull_39 (u' := uA G 63 (a_t 0) (upd v_t_now (53 + y1).toNatClampNeg (v_t_now ((53 + y1) + 1).toNatClampNeg))) (us' := [uX12 G o_t a_t v_t, uA G 63 (a_t 0) (upd v_t_now (53 + y1).toNatClampNeg (v_t_now ((53 + y1) + 1).toNatClampNeg))]) rfl rfl (fun H locs h => ?_)
    refine lv_iinc (v := y1 + 1) (lv' := [(1, .int (y1 + 1)), (0, .ref o_t)]) C.hx C.hb dX12_goPull_40 hl (k := 1) rfl rfl (by decide) rfl (fun ls hl => ?_)
    refine lv_goto (tgt := 14) C.hx C.hb dX12_goPull_43 (by decide) ?_
    exact hg14 hf h (lv_sub hl [1, 0] rfl)
set_option maxRecDepth 100000 in
set_option maxHeartbeats 4000000 in
theorem l_X12_goPull_14 {p : Program} {l : Launch} {e : Env} {s : State} {m : MethodId} {args : Array Value} {below : List Frame} {meth : Method} {c : Code} {G : GG} {A : Nat → Prop} {o_t : Nat} {a_t : Nat → Nat} {N : Nat}  {res : Int32 × (Nat → Int32)} (C : MC RX12 cX12_goPull 2 (some .int) G A p s m args meth c)  : ∀ (k : Nat) {v_t : US} {v_t_now : Nat → Int32} {y1 : Int32}, f_X12_goPull_14 N k v_t v_t_now y1 = some res → ∀ {H : Heap} {locs : List Loc} {ls : Array Slot}, HP G A s [uX12 G o_t a_t v_t, uA G 63 (a_t 0) v_t_now] H locs → lv_has ls 2 [(0, .ref o_t), (1, .int y1)] → W p l e (rmm 5) s m args below meth c H locs 0 0 (QI below G A args s res.1 [uX12 G o_t a_t v_t, uA G 63 (a_t 0) res.2]) (F0 m 14 ls []) := by
  intro k
  induction k with
  | zero => intros; contradiction
  | succ k ih =>
    intro v_t v_t_now y1 hf H locs ls h hl
    exact w_X12_goPull_14 (N := N) C ih hf h hl
set_option maxRecDepth 100000 in
set_option maxHeartbeats 4000000 in
theorem c_X12_goPull (l : Launch) (G : GG) (o_t : Nat) (a_t : Nat → Nat) (N : Nat) {v_t : US} {v_t_now : Nat → Int32}  {res : Int32 × (Nat → Int32)} (hf : f_X12_goPull N v_t v_t_now = some res) : MI l yX12_goPull cX12_goPull 2 (some .int) 5 [.ref o_t] G [uX12 G o_t a_t v_t, uA G 63 (a_t 0) v_t_now] res.1 [uX12 G o_t a_t v_t, uA G 63 (a_t 0) res.2] := by
  unfold f_X12_goPull at hf
  refine MI.intro (by decide) rfl (Nat.le_of_ble_eq_true rfl) (fun p e s m args below meth c A ls C h hl => ?_)
  have C : MC RX12 cX12_goPull 2 (some .int) G A p s m args meth c := C
  have hl : lv_has ls 2 [(0, .ref o_t)] := hl
  refine lv_aload_n C.hx C.hb dX12_goPull_0 rfl (lv_at hl 0 rfl) ?_
  refine g_get C h fl_X12_7 0 0 rfl rfl (v := .ref (a_t 0)) rfl dX12_goPull_1 ?_
  refine lv_bipush (v := 52) C.hx C.hb dX12_goPull_4 (by decide) ?_
  obtain ⟨zi1, hf⟩ := ck_some hf
  refine g_iald C h 1 0 rfl rfl (f := v_t_now) zi1 dX12_goPull_6 ?_
  refine lv_bipush (v := 10) C.hx C.hb dX12_goPull_7 (by decide) ?_
  refine lv_icmp_ne (tgt := 55) C.hx C.hb dX12_goPull_9 (by decide) (fun zc2 => ?_) (fun zc2 => ?_)
  · replace hf := it_f zc2 hf
    exact w_X12_goPull_55 C  hf h (lv_sub hl [0] rfl)
  · replace hf := it_t zc2 hf
    refine lv_iconst (v := 0) C.hx C.hb dX12_goPull_12 (by decide) ?_
    refine lv_istore_n (lv' := [(1, .int 0), (0, .ref o_t)]) C.hx C.hb dX12_goPull_13 rfl hl (by decide) rfl (fun ls hl => ?_)
    exact l_X12_goPull_14 C N hf h (lv_sub hl [1, 0] rfl)

def f_X12_in  (x0 : Int64) (x2 : Int64) (x4 : Int64) : Option (Bool) :=
  if (lg_cmp x0 x2) < 0 then (some (false)) else (if 0 < (lg_cmp x0 x4) then (some (false)) else (some (true)))
set_option maxRecDepth 100000 in
set_option maxHeartbeats 4000000 in
theorem c_X12_in (l : Launch) (G : GG)  {x0 : Int64} {x2 : Int64} {x4 : Int64} {res : Bool} (hf : f_X12_in x0 x2 x4 = some res) : MI l yX12_in cX12_in 6 (some .boolean) 1 [.long x0, .long x2, .long x4] G [] (b2i res) [] := by
  unfold f_X12_in at hf
  refine MI.intro (by decide) rfl (Nat.le_of_ble_eq_true rfl) (fun p e s m args below meth c A ls C h hl => ?_)
  have C : MC RX12 cX12_in 6 (some .boolean) G A p s m args meth c := C
  have hl : lv_has ls 6 [(0, .long x0), (2, .long x2), (4, .long x4)] := hl
  refine lv_lload_n C.hx C.hb dX12_in_0 rfl (lv_at hl 0 rfl) ?_
  refine lv_lload_n C.hx C.hb dX12_in_1 rfl (lv_at hl 1 rfl) ?_
  refine W.lcmp C.hx C.hb dX12_in_2 ?_
  refine lv_if_lt (tgt := 17) C.hx C.hb dX12_in_3 (by decide) (fun zc1 => ?_) (fun zc1 => ?_)
  · replace hf := it_t zc1 hf
    refine lv_iconst (v := 0) C.hx C.hb dX12_in_17 (by decide) ?_
    obtain rfl := Option.some.inj hf
    exact g_ret_z (b := false) C h rfl rfl rfl dX12_in_18
  · replace hf := it_f zc1 hf
    refine lv_lload_n C.hx C.hb dX12_in_6 rfl (lv_at hl 0 rfl) ?_
    refine lv_lload C.hx C.hb dX12_in_7 (lv_at hl 2 rfl) ?_
    refine W.lcmp C.hx C.hb dX12_in_9 ?_
    refine lv_if_gt (tgt := 17) C.hx C.hb dX12_in_10 (by decide) (fun zc2 => ?_) (fun zc2 => ?_)
    · replace hf := it_t zc2 hf
      refine lv_iconst (v := 0) C.hx C.hb dX12_in_17 (by decide) ?_
      obtain rfl := Option.some.inj hf
      exact g_ret_z (b := false) C h rfl rfl rfl dX12_in_18
    · replace hf := it_f zc2 hf
      refine lv_iconst (v := 1) C.hx C.hb dX12_in_13 (by decide) ?_
      refine lv_goto (tgt := 18) C.hx C.hb dX12_in_14 (by decide) ?_
      obtain rfl := Option.some.inj hf
      exact g_ret_z (b := true) C h rfl rfl rfl dX12_in_18

def f_X12_isThing (v_t : US) (v_t_now : Nat → Int32) (x1 : Int32) : Option (Bool) :=
  (f_X12_things v_t v_t_now).bind fun zr1 => (f_X12_in x1.toInt64 0 ((zr1 - 1).toInt64)).bind fun zr4 => some (zr4)
set_option maxRecDepth 100000 in
set_option maxHeartbeats 4000000 in
theorem c_X12_isThing (l : Launch) (G : GG) (o_t : Nat) (a_t : Nat → Nat) {v_t : US} {v_t_now : Nat → Int32} {x1 : Int32} {res : Bool} (hf : f_X12_isThing v_t v_t_now x1 = some res) : MI l yX12_isThing cX12_isThing 2 (some .boolean) 2 [.ref o_t, .int x1] G [uX12 G o_t a_t v_t, uA G 63 (a_t 0) v_t_now] (b2i res) [uX12 G o_t a_t v_t, uA G 63 (a_t 0) v_t_now] := by
  unfold f_X12_isThing at hf
  refine MI.intro (by decide) rfl (Nat.le_of_ble_eq_true rfl) (fun p e s m args below meth c A ls C h hl => ?_)
  have C : MC RX12 cX12_isThing 2 (some .boolean) G A p s m args meth c := C
  have hl : lv_has ls 2 [(0, .ref o_t), (1, .int x1)] := hl
  refine lv_iload_n C.hx C.hb dX12_isThing_0 rfl (lv_at hl 1 rfl) ?_
  refine lv_i2l C.hx C.hb dX12_isThing_1 rfl ?_
  refine lv_lconst (v := 0) C.hx C.hb dX12_isThing_2 (by decide) ?_
  refine lv_aload_n C.hx C.hb dX12_isThing_3 rfl (lv_at hl 0 rfl) ?_
  obtain ⟨zr1, zq2, hf⟩ := bd_some hf
  have zm3 := c_X12_things l G o_t a_t (hf := zq2)
  refine g_goI C h zm3.1 (is := [0, 1]) rfl rfl (g_runV C h (is := [0, 1]) rfl rfl (As := []) (rest := [.long 0, .long x1.toInt64]) (zm3.2 _) vf_X12_48 0 0 rfl rfl hl.1 rfl rfl (Nat.le_of_ble_eq_true rfl) dX12_isThing_4 ⟨Nat.le_of_ble_eq_true rfl, Nat.le_of_ble_eq_true rfl⟩ ⟨Nat.le_refl _, Nat.le_refl _⟩) (us2 := [uX12 G o_t a_t v_t, uA G 63 (a_t 0) v_t_now]) rfl (fun H locs h => ?_)
  refine lv_iconst (v := 1) C.hx C.hb dX12_isThing_7 (by decide) ?_
  refine lv_isub C.hx C.hb dX12_isThing_8 ?_
  refine lv_i2l C.hx C.hb dX12_isThing_9 rfl ?_
  obtain ⟨zr4, zq5, hf⟩ := bd_some hf
  have zm6 := c_X12_in l G  (hf := zq5)
  refine g_goI C h zm6.1 (is := []) rfl rfl (g_runS C h (is := []) rfl rfl (As := [.long x1.toInt64, .long 0, .long ((zr1 - 1).toInt64)]) (rest := []) (zm6.2 _) sf_X12_52 hl.1 rfl rfl (Nat.le_of_ble_eq_true rfl) dX12_isThing_10 ⟨Nat.le_of_ble_eq_true rfl, Nat.le_of_ble_eq_true rfl⟩ ⟨Nat.le_refl _, Nat.le_refl _⟩) (us2 := [uX12 G o_t a_t v_t, uA G 63 (a_t 0) v_t_now]) rfl (fun H locs h => ?_)
  obtain rfl := Option.some.inj hf
  exact g_ret_z (b := _) C h rfl rfl rfl dX12_isThing_13

def f_X12_isPull (v_t : US) (v_t_now : Nat → Int32) (x1 : Int32) (x2 : Int32) : Option (Bool) :=
  (f_X12_isThing v_t v_t_now x1).bind fun zr1 => if (b2i zr1) = 0 then (some (false)) else ((f_X12_in x2.toInt64 0 20).bind fun zr5 => if (b2i zr5) = 0 then (some (false)) else (some (true)))
set_option maxRecDepth 100000 in
set_option maxHeartbeats 4000000 in
theorem c_X12_isPull (l : Launch) (G : GG) (o_t : Nat) (a_t : Nat → Nat) {v_t : US} {v_t_now : Nat → Int32} {x1 : Int32} {x2 : Int32} {res : Bool} (hf : f_X12_isPull v_t v_t_now x1 x2 = some res) : MI l yX12_isPull cX12_isPull 3 (some .boolean) 3 [.ref o_t, .int x1, .int x2] G [uX12 G o_t a_t v_t, uA G 63 (a_t 0) v_t_now] (b2i res) [uX12 G o_t a_t v_t, uA G 63 (a_t 0) v_t_now] := by
  unfold f_X12_isPull at hf
  refine MI.intro (by decide) rfl (Nat.le_of_ble_eq_true rfl) (fun p e s m args below meth c A ls C h hl => ?_)
  have C : MC RX12 cX12_isPull 3 (some .boolean) G A p s m args meth c := C
  have hl : lv_has ls 3 [(0, .ref o_t), (1, .int x1), (2, .int x2)] := hl
  refine lv_aload_n C.hx C.hb dX12_isPull_0 rfl (lv_at hl 0 rfl) ?_
  refine lv_iload_n C.hx C.hb dX12_isPull_1 rfl (lv_at hl 1 rfl) ?_
  obtain ⟨zr1, zq2, hf⟩ := bd_some hf
  have zm3 := c_X12_isThing l G o_t a_t (hf := zq2)
  refine g_goI C h zm3.1 (is := [0, 1]) rfl rfl (g_runV C h (is := [0, 1]) rfl rfl (As := [.int x1]) (rest := []) (zm3.2 _) vf_X12_71 0 0 rfl rfl hl.1 rfl rfl (Nat.le_of_ble_eq_true rfl) dX12_isPull_2 ⟨Nat.le_of_ble_eq_true rfl, Nat.le_of_ble_eq_true rfl⟩ ⟨Nat.le_refl _, Nat.le_refl _⟩) (us2 := [uX12 G o_t a_t v_t, uA G 63 (a_t 0) v_t_now]) rfl (fun H locs h => ?_)
  refine lv_if_eq (tgt := 24) C.hx C.hb dX12_isPull_5 (by decide) (fun zc4 => ?_) (fun zc4 => ?_)
  · replace hf := it_t zc4 hf
    refine lv_iconst (v := 0) C.hx C.hb dX12_isPull_24 (by decide) ?_
    obtain rfl := Option.some.inj hf
    exact g_ret_z (b := false) C h rfl rfl rfl dX12_isPull_25
  · replace hf := it_f zc4 hf
    refine lv_iload_n C.hx C.hb dX12_isPull_8 rfl (lv_at hl 2 rfl) ?_
    refine lv_i2l C.hx C.hb dX12_isPull_9 rfl ?_
    refine lv_lconst (v := 0) C.hx C.hb dX12_isPull_10 (by decide) ?_
    refine lv_ldc2 C.hx C.hb C.hown (C.hts _ cw_X12_117) dX12_isPull_11 ?_
    obtain ⟨zr5, zq6, hf⟩ := bd_some hf
    have zm7 := c_X12_in l G  (hf := zq6)
    refine g_goI C h zm7.1 (is := []) rfl rfl (g_runS C h (is := []) rfl rfl (As := [.long x2.toInt64, .long 0, .long 20]) (rest := []) (zm7.2 _) sf_X12_52 hl.1 rfl rfl (Nat.le_of_ble_eq_true rfl) dX12_isPull_14 ⟨Nat.le_of_ble_eq_true rfl, Nat.le_of_ble_eq_true rfl⟩ ⟨Nat.le_refl _, Nat.le_refl _⟩) (us2 := [uX12 G o_t a_t v_t, uA G 63 (a_t 0) v_t_now]) rfl (fun H locs h => ?_)
    refine lv_if_eq (tgt := 24) C.hx C.hb dX12_isPull_17 (by decide) (fun zc8 => ?_) (fun zc8 => ?_)
    · replace hf := it_t zc8 hf
      refine lv_iconst (v := 0) C.hx C.hb dX12_isPull_24 (by decide) ?_
      obtain rfl := Option.some.inj hf
      exact g_ret_z (b := false) C h rfl rfl rfl dX12_isPull_25
    · replace hf := it_f zc8 hf
      refine lv_iconst (v := 1) C.hx C.hb dX12_isPull_20 (by decide) ?_
      refine lv_goto (tgt := 25) C.hx C.hb dX12_isPull_21 (by decide) ?_
      obtain rfl := Option.some.inj hf
      exact g_ret_z (b := true) C h rfl rfl rfl dX12_isPull_25

def f_X12_onePull (v_t : US) (x1 : Int32) (x2 : Int32) : Option (US) :=
  bnd (upi v_t 8 x1) fun zw1 => bnd (upi zw1 9 x2) fun zw2 => bnd (upi zw2 10 (-1)) fun zw3 => some (upi zw3 11 0)
set_option maxRecDepth 100000 in
set_option maxHeartbeats 4000000 in
theorem c_X12_onePull (l : Launch) (G : GG) (o_t : Nat) (a_t : Nat → Nat) {v_t : US} {x1 : Int32} {x2 : Int32} {res : US} (hf : f_X12_onePull v_t x1 x2 = some res) : MV l yX12_onePull cX12_onePull 3 none 1 [.ref o_t, .int x1, .int x2] G [uX12 G o_t a_t v_t]  [uX12 G o_t a_t res] := by
  unfold f_X12_onePull at hf
  refine MV.intro (by decide) rfl (Nat.le_of_ble_eq_true rfl) (fun p e s m args below meth c A ls C h hl => ?_)
  have C : MC RX12 cX12_onePull 3 none G A p s m args meth c := C
  have hl : lv_has ls 3 [(0, .ref o_t), (1, .int x1), (2, .int x2)] := hl
  refine lv_aload_n C.hx C.hb dX12_onePull_0 rfl (lv_at hl 0 rfl) ?_
  refine lv_iload_n C.hx C.hb dX12_onePull_1 rfl (lv_at hl 1 rfl) ?_
  refine g_put C h fp_X12_93 0 0 rfl rfl rfl rfl (Nat.le_of_ble_eq_true rfl) dX12_onePull_2 (u' := uX12 G o_t a_t (upi v_t 8 x1)) (us' := [uX12 G o_t a_t (upi v_t 8 x1)]) rfl rfl (fun H locs h => ?_)
  refine lv_aload_n C.hx C.hb dX12_onePull_5 rfl (lv_at hl 0 rfl) ?_
  refine lv_iload_n C.hx C.hb dX12_onePull_6 rfl (lv_at hl 2 rfl) ?_
  obtain ⟨zw1, hzw1, hf⟩ := bnd_some hf
  rw [← hzw1] at h
  refine g_put C h fp_X12_96 0 0 rfl rfl rfl rfl (Nat.le_of_ble_eq_true rfl) dX12_onePull_7 (u' := uX12 G o_t a_t (upi zw1 9 x2)) (us' := [uX12 G o_t a_t (upi zw1 9 x2)]) rfl rfl (fun H locs h => ?_)
  refine lv_aload_n C.hx C.hb dX12_onePull_10 rfl (lv_at hl 0 rfl) ?_
  refine lv_iconst (v := (-1)) C.hx C.hb dX12_onePull_11 (by decide) ?_
  obtain ⟨zw2, hzw2, hf⟩ := bnd_some hf
  rw [← hzw2] at h
  refine g_put C h fp_X12_99 0 0 rfl rfl rfl rfl (Nat.le_of_ble_eq_true rfl) dX12_onePull_12 (u' := uX12 G o_t a_t (upi zw2 10 (-1))) (us' := [uX12 G o_t a_t (upi zw2 10 (-1))]) rfl rfl (fun H locs h => ?_)
  refine lv_aload_n C.hx C.hb dX12_onePull_15 rfl (lv_at hl 0 rfl) ?_
  refine lv_iconst (v := 0) C.hx C.hb dX12_onePull_16 (by decide) ?_
  obtain ⟨zw3, hzw3, hf⟩ := bnd_some hf
  rw [← hzw3] at h
  refine g_put C h fp_X12_102 0 0 rfl rfl rfl rfl (Nat.le_of_ble_eq_true rfl) dX12_onePull_17 (u' := uX12 G o_t a_t (upi zw3 11 0)) (us' := [uX12 G o_t a_t (upi zw3 11 0)]) rfl rfl (fun H locs h => ?_)
  obtain rfl := Option.some.inj hf
  exact g_ret_v C h rfl dX12_onePull_20

def b_X12_takeSlacks_2 (N : Nat) (g2 : US → (Nat → Int32) → Int32 → Int32 → Option (US)) (v_t : US) (v_t_now : Nat → Int32) (y1 : Int32) (y2 : Int32) : Option (US) :=
  (f_X12_things v_t v_t_now).bind fun zr1 => if zr1 ≤ y2 then (some (v_t)) else ((f_X12_of v_t v_t_now y2 1).bind fun zr5 => if 0 ≤ (zr5 - y1) then (if y2 < 0 ∨ 5 ≤ y2.toNatClampNeg then none else (g2 (upa v_t 6 y2.toNatClampNeg (zr5 - y1)) v_t_now y1 (y2 + 1))) else (if y2 < 0 ∨ 5 ≤ y2.toNatClampNeg then none else (g2 (upa v_t 6 y2.toNatClampNeg 0) v_t_now y1 (y2 + 1))))
def f_X12_takeSlacks_2 (N : Nat)  : Nat → US → (Nat → Int32) → Int32 → Int32 → Option (US)
  | 0 => fun _ _ _ _ => none
  | k + 1 => fun q0 q1 q2 q3 => b_X12_takeSlacks_2 N  (f_X12_takeSlacks_2 N  k) q0 q1 q2 q3
def f_X12_takeSlacks (N : Nat) (v_t : US) (v_t_now : Nat → Int32) (x1 : Int32) : Option (US) :=
  f_X12_takeSlacks_2 N N v_t v_t_now x1 0
set_option maxRecDepth 100000 in
set_option maxHeartbeats 4000000 in
theorem w_X12_takeSlacks_2 {p : Program} {l : Launch} {e : Env} {s : State} {m : MethodId} {args : Array Value} {below : List Frame} {meth : Method} {c : Code} {G : GG} {A : Nat → Prop} {o_t : Nat} {a_t : Nat → Nat} {N : Nat} {g2 : US → (Nat → Int32) → Int32 → Int32 → Option (US)} {v_t : US} {v_t_now : Nat → Int32} {y1 : Int32} {y2 : Int32} {res : US} (C : MC RX12 cX12_takeSlacks 4 none G A p s m args meth c) (hg2 : ∀ {v_t : US} {v_t_now : Nat → Int32} {y1 : Int32} {y2 : Int32}, g2 v_t v_t_now y1 y2 = some res → ∀ {H : Heap} {locs : List Loc} {ls : Array Slot}, HP G A s [uX12 G o_t a_t v_t, uA G 63 (a_t 0) v_t_now] H locs → lv_has ls 4 [(0, .ref o_t), (1, .int y1), (2, .int y2)] → W p l e (rmm 2) s m args below meth c H locs 0 0 (QV below G A args s  [uX12 G o_t a_t res, uA G 63 (a_t 0) v_t_now]) (F0 m 2 ls [])) (hf : b_X12_takeSlacks_2 N g2 v_t v_t_now y1 y2 = some res) {H : Heap} {locs : List Loc} {ls : Array Slot} (h : HP G A s [uX12 G o_t a_t v_t, uA G 63 (a_t 0) v_t_now] H locs) (hl : lv_has ls 4 [(0, .ref o_t), (1, .int y1), (2, .int y2)]) : W p l e (rmm 2) s m args below meth c H locs 0 0 (QV below G A args s  [uX12 G o_t a_t res, uA G 63 (a_t 0) v_t_now]) (F0 m 2 ls []) := by
  unfold b_X12_takeSlacks_2 at hf
  refine lv_iload_n C.hx C.hb dX12_takeSlacks_2 rfl (lv_at hl 2 rfl) ?_
  refine lv_aload_n C.hx C.hb dX12_takeSlacks_3 rfl (lv_at hl 0 rfl) ?_
  obtain ⟨zr1, zq2, hf⟩ := bd_some hf
  have zm3 := c_X12_things l G o_t a_t (hf := zq2)
  refine g_goI C h zm3.1 (is := [0, 1]) rfl rfl (g_runV C h (is := [0, 1]) rfl rfl (As := []) (rest := [.int y2]) (zm3.2 _) vf_X12_48 0 0 rfl rfl hl.1 rfl rfl (Nat.le_of_ble_eq_true rfl) dX12_takeSlacks_4 ⟨Nat.le_of_ble_eq_true rfl, Nat.le_of_ble_eq_true rfl⟩ ⟨Nat.le_refl _, Nat.le_refl _⟩) (us2 := [uX12 G o_t a_t v_t, uA G 63 (a_t 0) v_t_now]) rfl (fun H locs h => ?_)
  refine lv_icmp_ge (tgt := 40) C.hx C.hb dX12_takeSlacks_7 (by decide) (fun zc4 => ?_) (fun zc4 => ?_)
  · replace hf := it_t zc4 hf
    obtain rfl := Option.some.inj hf
    exact g_ret_v C h rfl dX12_takeSlacks_40
  · replace hf := it_f zc4 hf
    refine lv_aload_n C.hx C.hb dX12_takeSlacks_10 rfl (lv_at hl 0 rfl) ?_
    refine lv_iload_n C.hx C.hb dX12_takeSlacks_11 rfl (lv_at hl 2 rfl) ?_
    refine lv_iconst (v := 1) C.hx C.hb dX12_takeSlacks_12 (by decide) ?_
    obtain ⟨zr5, zq6, hf⟩ := bd_some hf
    have zm7 := c_X12_of l G o_t a_t (hf := zq6)
    refine g_goI C h zm7.1 (is := [0, 1]) rfl rfl (g_runV C h (is := [0, 1]) rfl rfl (As := [.int y2, .int 1]) (rest := []) (zm7.2 _) vf_X12_75 0 0 rfl rfl hl.1 rfl rfl (Nat.le_of_ble_eq_true rfl) dX12_takeSlacks_13 ⟨Nat.le_of_ble_eq_true rfl, Nat.le_of_ble_eq_true rfl⟩ ⟨Nat.le_refl _, Nat.le_refl _⟩) (us2 := [uX12 G o_t a_t v_t, uA G 63 (a_t 0) v_t_now]) rfl (fun H locs h => ?_)
    refine lv_iload_n C.hx C.hb dX12_takeSlacks_16 rfl (lv_at hl 1 rfl) ?_
    refine lv_isub C.hx C.hb dX12_takeSlacks_17 ?_
    refine lv_istore_n (lv' := [(3, .int (zr5 - y1)), (0, .ref o_t), (1, .int y1), (2, .int y2)]) C.hx C.hb dX12_takeSlacks_18 rfl hl (by decide) rfl (fun ls hl => ?_)
    refine lv_aload_n C.hx C.hb dX12_takeSlacks_19 rfl (lv_at hl 1 rfl) ?_
    refine g_get C h fl_X12_27 0 0 rfl rfl (v := .ref (a_t 6)) rfl dX12_takeSlacks_20 ?_
    refine lv_iload_n C.hx C.hb dX12_takeSlacks_23 rfl (lv_at hl 3 rfl) ?_
    refine lv_iload_n C.hx C.hb dX12_takeSlacks_24 rfl (lv_at hl 0 rfl) ?_
    refine lv_if_ge (tgt := 32) C.hx C.hb dX12_takeSlacks_25 (by decide) (fun zc8 => ?_) (fun zc8 => ?_)
    · replace hf := it_t zc8 hf
      refine lv_iload_n C.hx C.hb dX12_takeSlacks_32 rfl (lv_at hl 0 rfl) ?_
      obtain ⟨zi9, hf⟩ := ck_some hf
      refine g_iast C h 0 4 rfl rfl (f := v_t.2.2 6) zi9 dX12_takeSlacks_33 (u' := uX12 G o_t a_t (upa v_t 6 y2.toNatClampNeg (zr5 - y1))) (us' := [uX12 G o_t a_t (upa v_t 6 y2.toNatClampNeg (zr5 - y1)), uA G 63 (a_t 0) v_t_now]) rfl rfl (fun H locs h => ?_)
      refine lv_iinc (v := y2 + 1) (lv' := [(2, .int (y2 + 1)), (3, .int (zr5 - y1)), (0, .ref o_t), (1, .int y1)]) C.hx C.hb dX12_takeSlacks_34 hl (k := 3) rfl rfl (by decide) rfl (fun ls hl => ?_)
      refine lv_goto (tgt := 2) C.hx C.hb dX12_takeSlacks_37 (by decide) ?_
      exact hg2 hf h (lv_sub hl [2, 3, 0] rfl)
    · replace hf := it_f zc8 hf
      refine lv_iconst (v := 0) C.hx C.hb dX12_takeSlacks_28 (by decide) ?_
      refine lv_goto (tgt := 33) C.hx C.hb dX12_takeSlacks_29 (by decide) ?_
      obtain ⟨zi10, hf⟩ := ck_some hf
      refine g_iast C h 0 4 rfl rfl (f := v_t.2.2 6) zi10 dX12_takeSlacks_33 (u' := uX12 G o_t a_t (upa v_t 6 y2.toNatClampNeg 0)) (us' := [uX12 G o_t a_t (upa v_t 6 y2.toNatClampNeg 0), uA G 63 (a_t 0) v_t_now]) rfl rfl (fun H locs h => ?_)
      refine lv_iinc (v := y2 + 1) (lv' := [(2, .int (y2 + 1)), (3, .int (zr5 - y1)), (0, .ref o_t), (1, .int y1)]) C.hx C.hb dX12_takeSlacks_34 hl (k := 3) rfl rfl (by decide) rfl (fun ls hl => ?_)
      refine lv_goto (tgt := 2) C.hx C.hb dX12_takeSlacks_37 (by decide) ?_
      exact hg2 hf h (lv_sub hl [2, 3, 0] rfl)
set_option maxRecDepth 100000 in
set_option maxHeartbeats 4000000 in
theorem l_X12_takeSlacks_2 {p : Program} {l : Launch} {e : Env} {s : State} {m : MethodId} {args : Array Value} {below : List Frame} {meth : Method} {c : Code} {G : GG} {A : Nat → Prop} {o_t : Nat} {a_t : Nat → Nat} {N : Nat}  {res : US} (C : MC RX12 cX12_takeSlacks 4 none G A p s m args meth c)  : ∀ (k : Nat) {v_t : US} {v_t_now : Nat → Int32} {y1 : Int32} {y2 : Int32}, f_X12_takeSlacks_2 N k v_t v_t_now y1 y2 = some res → ∀ {H : Heap} {locs : List Loc} {ls : Array Slot}, HP G A s [uX12 G o_t a_t v_t, uA G 63 (a_t 0) v_t_now] H locs → lv_has ls 4 [(0, .ref o_t), (1, .int y1), (2, .int y2)] → W p l e (rmm 2) s m args below meth c H locs 0 0 (QV below G A args s  [uX12 G o_t a_t res, uA G 63 (a_t 0) v_t_now]) (F0 m 2 ls []) := by
  intro k
  induction k with
  | zero => intros; contradiction
  | succ k ih =>
    intro v_t v_t_now y1 y2 hf H locs ls h hl
    exact w_X12_takeSlacks_2 (N := N) C ih hf h hl
set_option maxRecDepth 100000 in
set_option maxHeartbeats 4000000 in
theorem c_X12_takeSlacks (l : Launch) (G : GG) (o_t : Nat) (a_t : Nat → Nat) (N : Nat) {v_t : US} {v_t_now : Nat → Int32} {x1 : Int32} {res : US} (hf : f_X12_takeSlacks N v_t v_t_now x1 = some res) : MV l yX12_takeSlacks cX12_takeSlacks 4 none 2 [.ref o_t, .int x1] G [uX12 G o_t a_t v_t, uA G 63 (a_t 0) v_t_now]  [uX12 G o_t a_t res, uA G 63 (a_t 0) v_t_now] := by
  unfold f_X12_takeSlacks at hf
  refine MV.intro (by decide) rfl (Nat.le_of_ble_eq_true rfl) (fun p e s m args below meth c A ls C h hl => ?_)
  have C : MC RX12 cX12_takeSlacks 4 none G A p s m args meth c := C
  have hl : lv_has ls 4 [(0, .ref o_t), (1, .int x1)] := hl
  refine lv_iconst (v := 0) C.hx C.hb dX12_takeSlacks_0 (by decide) ?_
  refine lv_istore_n (lv' := [(2, .int 0), (0, .ref o_t), (1, .int x1)]) C.hx C.hb dX12_takeSlacks_1 rfl hl (by decide) rfl (fun ls hl => ?_)
  exact l_X12_takeSlacks_2 C N hf h (lv_sub hl [1, 2, 0] rfl)

def b_X12_wholeNow_4 (N : Nat) (g4 : US → (Nat → Int32) → Int32 → Int32 → Option (Int32)) (v_t : US) (v_t_now : Nat → Int32) (y1 : Int32) (y2 : Int32) : Option (Int32) :=
  (f_X12_things v_t v_t_now).bind fun zr1 => if zr1 ≤ y2 then (some (y1)) else ((f_X12_of v_t v_t_now y2 4).bind fun zr5 => g4 v_t v_t_now (y1 ||| (zr5 <<< (y2 &&& 31))) (y2 + 1))
def f_X12_wholeNow_4 (N : Nat)  : Nat → US → (Nat → Int32) → Int32 → Int32 → Option (Int32)
  | 0 => fun _ _ _ _ => none
  | k + 1 => fun q0 q1 q2 q3 => b_X12_wholeNow_4 N  (f_X12_wholeNow_4 N  k) q0 q1 q2 q3
def f_X12_wholeNow (N : Nat) (v_t : US) (v_t_now : Nat → Int32)  : Option (Int32) :=
  f_X12_wholeNow_4 N N v_t v_t_now 0 0
set_option maxRecDepth 100000 in
set_option maxHeartbeats 4000000 in
theorem w_X12_wholeNow_4 {p : Program} {l : Launch} {e : Env} {s : State} {m : MethodId} {args : Array Value} {below : List Frame} {meth : Method} {c : Code} {G : GG} {A : Nat → Prop} {o_t : Nat} {a_t : Nat → Nat} {N : Nat} {g4 : US → (Nat → Int32) → Int32 → Int32 → Option (Int32)} {v_t : US} {v_t_now : Nat → Int32} {y1 : Int32} {y2 : Int32} {res : Int32} (C : MC RX12 cX12_wholeNow 3 (some .int) G A p s m args meth c) (hg4 : ∀ {v_t : US} {v_t_now : Nat → Int32} {y1 : Int32} {y2 : Int32}, g4 v_t v_t_now y1 y2 = some res → ∀ {H : Heap} {locs : List Loc} {ls : Array Slot}, HP G A s [uX12 G o_t a_t v_t, uA G 63 (a_t 0) v_t_now] H locs → lv_has ls 3 [(0, .ref o_t), (1, .int y1), (2, .int y2)] → W p l e (rmm 2) s m args below meth c H locs 0 0 (QI below G A args s res [uX12 G o_t a_t v_t, uA G 63 (a_t 0) v_t_now]) (F0 m 4 ls [])) (hf : b_X12_wholeNow_4 N g4 v_t v_t_now y1 y2 = some res) {H : Heap} {locs : List Loc} {ls : Array Slot} (h : HP G A s [uX12 G o_t a_t v_t, uA G 63 (a_t 0) v_t_now] H locs) (hl : lv_has ls 3 [(0, .ref o_t), (1, .int y1), (2, .int y2)]) : W p l e (rmm 2) s m args below meth c H locs 0 0 (QI below G A args s res [uX12 G o_t a_t v_t, uA G 63 (a_t 0) v_t_now]) (F0 m 4 ls []) := by
  unfold b_X12_wholeNow_4 at hf
  refine lv_iload_n C.hx C.hb dX12_wholeNow_4 rfl (lv_at hl 2 rfl) ?_
  refine lv_aload_n C.hx C.hb dX12_wholeNow_5 rfl (lv_at hl 0 rfl) ?_
  obtain ⟨zr1, zq2, hf⟩ := bd_some hf
  have zm3 := c_X12_things l G o_t a_t (hf := zq2)
  refine g_goI C h zm3.1 (is := [0, 1]) rfl rfl (g_runV C h (is := [0, 1]) rfl rfl (As := []) (rest := [.int y2]) (zm3.2 _) vf_X12_48 0 0 rfl rfl hl.1 rfl rfl (Nat.le_of_ble_eq_true rfl) dX12_wholeNow_6 ⟨Nat.le_of_ble_eq_true rfl, Nat.le_of_ble_eq_true rfl⟩ ⟨Nat.le_refl _, Nat.le_refl _⟩) (us2 := [uX12 G o_t a_t v_t, uA G 63 (a_t 0) v_t_now]) rfl (fun H locs h => ?_)
  refine lv_icmp_ge (tgt := 29) C.hx C.hb dX12_wholeNow_9 (by decide) (fun zc4 => ?_) (fun zc4 => ?_)
  · replace hf := it_t zc4 hf
    refine lv_iload_n C.hx C.hb dX12_wholeNow_29 rfl (lv_at hl 1 rfl) ?_
    obtain rfl := Option.some.inj hf
    exact g_ret_i C h rfl rfl dX12_wholeNow_30
  · replace hf := it_f zc4 hf
    refine lv_iload_n C.hx C.hb dX12_wholeNow_12 rfl (lv_at hl 1 rfl) ?_
    refine lv_aload_n C.hx C.hb dX12_wholeNow_13 rfl (lv_at hl 0 rfl) ?_
    refine lv_iload_n C.hx C.hb dX12_wholeNow_14 rfl (lv_at hl 2 rfl) ?_
    refine lv_iconst (v := 4) C.hx C.hb dX12_wholeNow_15 (by decide) ?_
    obtain ⟨zr5, zq6, hf⟩ := bd_some hf
    have zm7 := c_X12_of l G o_t a_t (hf := zq6)
    refine g_goI C h zm7.1 (is := [0, 1]) rfl rfl (g_runV C h (is := [0, 1]) rfl rfl (As := [.int y2, .int 4]) (rest := [.int y1]) (zm7.2 _) vf_X12_75 0 0 rfl rfl hl.1 rfl rfl (Nat.le_of_ble_eq_true rfl) dX12_wholeNow_16 ⟨Nat.le_of_ble_eq_true rfl, Nat.le_of_ble_eq_true rfl⟩ ⟨Nat.le_refl _, Nat.le_refl _⟩) (us2 := [uX12 G o_t a_t v_t, uA G 63 (a_t 0) v_t_now]) rfl (fun H locs h => ?_)
    refine lv_iload_n C.hx C.hb dX12_wholeNow_19 rfl (lv_at hl 2 rfl) ?_
    refine lv_ishl C.hx C.hb dX12_wholeNow_20 ?_
    refine lv_ior C.hx C.hb dX12_wholeNow_21 ?_
    refine lv_istore_n (lv' := [(1, .int (y1 ||| (zr5 <<< (y2 &&& 31)))), (0, .ref o_t), (2, .int y2)]) C.hx C.hb dX12_wholeNow_22 rfl hl (by decide) rfl (fun ls hl => ?_)
    refine lv_iinc (v := y2 + 1) (lv' := [(2, .int (y2 + 1)), (1, .int (y1 ||| (zr5 <<< (y2 &&& 31)))), (0, .ref o_t)]) C.hx C.hb dX12_wholeNow_23 hl (k := 2) rfl rfl (by decide) rfl (fun ls hl => ?_)
    refine lv_goto (tgt := 4) C.hx C.hb dX12_wholeNow_26 (by decide) ?_
    exact hg4 hf h (lv_sub hl [2, 1, 0] rfl)
set_option maxRecDepth 100000 in
set_option maxHeartbeats 4000000 in
theorem l_X12_wholeNow_4 {p : Program} {l : Launch} {e : Env} {s : State} {m : MethodId} {args : Array Value} {below : List Frame} {meth : Method} {c : Code} {G : GG} {A : Nat → Prop} {o_t : Nat} {a_t : Nat → Nat} {N : Nat}  {res : Int32} (C : MC RX12 cX12_wholeNow 3 (some .int) G A p s m args meth c)  : ∀ (k : Nat) {v_t : US} {v_t_now : Nat → Int32} {y1 : Int32} {y2 : Int32}, f_X12_wholeNow_4 N k v_t v_t_now y1 y2 = some res → ∀ {H : Heap} {locs : List Loc} {ls : Array Slot}, HP G A s [uX12 G o_t a_t v_t, uA G 63 (a_t 0) v_t_now] H locs → lv_has ls 3 [(0, .ref o_t), (1, .int y1), (2, .int y2)] → W p l e (rmm 2) s m args below meth c H locs 0 0 (QI below G A args s res [uX12 G o_t a_t v_t, uA G 63 (a_t 0) v_t_now]) (F0 m 4 ls []) := by
  intro k
  induction k with
  | zero => intros; contradiction
  | succ k ih =>
    intro v_t v_t_now y1 y2 hf H locs ls h hl
    exact w_X12_wholeNow_4 (N := N) C ih hf h hl
set_option maxRecDepth 100000 in
set_option maxHeartbeats 4000000 in
theorem c_X12_wholeNow (l : Launch) (G : GG) (o_t : Nat) (a_t : Nat → Nat) (N : Nat) {v_t : US} {v_t_now : Nat → Int32}  {res : Int32} (hf : f_X12_wholeNow N v_t v_t_now = some res) : MI l yX12_wholeNow cX12_wholeNow 3 (some .int) 2 [.ref o_t] G [uX12 G o_t a_t v_t, uA G 63 (a_t 0) v_t_now] res [uX12 G o_t a_t v_t, uA G 63 (a_t 0) v_t_now] := by
  unfold f_X12_wholeNow at hf
  refine MI.intro (by decide) rfl (Nat.le_of_ble_eq_true rfl) (fun p e s m args below meth c A ls C h hl => ?_)
  have C : MC RX12 cX12_wholeNow 3 (some .int) G A p s m args meth c := C
  have hl : lv_has ls 3 [(0, .ref o_t)] := hl
  refine lv_iconst (v := 0) C.hx C.hb dX12_wholeNow_0 (by decide) ?_
  refine lv_istore_n (lv' := [(1, .int 0), (0, .ref o_t)]) C.hx C.hb dX12_wholeNow_1 rfl hl (by decide) rfl (fun ls hl => ?_)
  refine lv_iconst (v := 0) C.hx C.hb dX12_wholeNow_2 (by decide) ?_
  refine lv_istore_n (lv' := [(2, .int 0), (1, .int 0), (0, .ref o_t)]) C.hx C.hb dX12_wholeNow_3 rfl hl (by decide) rfl (fun ls hl => ?_)
  exact l_X12_wholeNow_4 C N hf h (lv_sub hl [2, 1, 0] rfl)

def f_X12_takeNow (N : Nat) (v_t : US) (v_t_now : Nat → Int32)  : Option (US) :=
  if (26 : Int32) < 0 ∨ 63 ≤ (26 : Int32).toNatClampNeg then none else ((f_X12_takeSlacks N v_t v_t_now (v_t_now (26 : Int32).toNatClampNeg)).bind fun zr2 => (f_X12_wholeNow N zr2 v_t_now).bind fun zr5 => some (upi zr2 7 zr5))
set_option maxRecDepth 100000 in
set_option maxHeartbeats 4000000 in
theorem c_X12_takeNow (l : Launch) (G : GG) (o_t : Nat) (a_t : Nat → Nat) (N : Nat) {v_t : US} {v_t_now : Nat → Int32}  {res : US} (hf : f_X12_takeNow N v_t v_t_now = some res) : MV l yX12_takeNow cX12_takeNow 1 none 3 [.ref o_t] G [uX12 G o_t a_t v_t, uA G 63 (a_t 0) v_t_now]  [uX12 G o_t a_t res, uA G 63 (a_t 0) v_t_now] := by
  unfold f_X12_takeNow at hf
  refine MV.intro (by decide) rfl (Nat.le_of_ble_eq_true rfl) (fun p e s m args below meth c A ls C h hl => ?_)
  have C : MC RX12 cX12_takeNow 1 none G A p s m args meth c := C
  have hl : lv_has ls 1 [(0, .ref o_t)] := hl
  refine lv_aload_n C.hx C.hb dX12_takeNow_0 rfl (lv_at hl 0 rfl) ?_
  refine lv_aload_n C.hx C.hb dX12_takeNow_1 rfl (lv_at hl 0 rfl) ?_
  refine g_get C h fl_X12_7 0 0 rfl rfl (v := .ref (a_t 0)) rfl dX12_takeNow_2 ?_
  refine lv_bipush (v := 26) C.hx C.hb dX12_takeNow_5 (by decide) ?_
  obtain ⟨zi1, hf⟩ := ck_some hf
  refine g_iald C h 1 0 rfl rfl (f := v_t_now) zi1 dX12_takeNow_7 ?_
  obtain ⟨zr2, zq3, hf⟩ := bd_some hf
  have zm4 := c_X12_takeSlacks l G o_t a_t N (hf := zq3)
  refine g_goV C h zm4.1 (is := [0, 1]) rfl rfl (g_runV C h (is := [0, 1]) rfl rfl (As := [.int (v_t_now (26 : Int32).toNatClampNeg)]) (rest := []) (zm4.2 _) vf_X12_82 0 0 rfl rfl hl.1 rfl rfl (Nat.le_of_ble_eq_true rfl) dX12_takeNow_8 ⟨Nat.le_of_ble_eq_true rfl, Nat.le_of_ble_eq_true rfl⟩ ⟨Nat.le_refl _, Nat.le_refl _⟩) (us2 := [uX12 G o_t a_t zr2, uA G 63 (a_t 0) v_t_now]) rfl (fun H locs h => ?_)
  refine lv_aload_n C.hx C.hb dX12_takeNow_11 rfl (lv_at hl 0 rfl) ?_
  refine lv_aload_n C.hx C.hb dX12_takeNow_12 rfl (lv_at hl 0 rfl) ?_
  obtain ⟨zr5, zq6, hf⟩ := bd_some hf
  have zm7 := c_X12_wholeNow l G o_t a_t N (hf := zq6)
  refine g_goI C h zm7.1 (is := [0, 1]) rfl rfl (g_runV C h (is := [0, 1]) rfl rfl (As := []) (rest := [.ref o_t]) (zm7.2 _) vf_X12_86 0 0 rfl rfl hl.1 rfl rfl (Nat.le_of_ble_eq_true rfl) dX12_takeNow_13 ⟨Nat.le_of_ble_eq_true rfl, Nat.le_of_ble_eq_true rfl⟩ ⟨Nat.le_refl _, Nat.le_refl _⟩) (us2 := [uX12 G o_t a_t zr2, uA G 63 (a_t 0) v_t_now]) rfl (fun H locs h => ?_)
  refine g_put C h fp_X12_89 0 0 rfl rfl rfl rfl (Nat.le_of_ble_eq_true rfl) dX12_takeNow_16 (u' := uX12 G o_t a_t (upi zr2 7 zr5)) (us' := [uX12 G o_t a_t (upi zr2 7 zr5), uA G 63 (a_t 0) v_t_now]) rfl rfl (fun H locs h => ?_)
  obtain rfl := Option.some.inj hf
  exact g_ret_v C h rfl dX12_takeNow_19

def b_X12_both_24 (N : Nat)  (v_t : US) (v_t_now : Nat → Int32)  : Option (Int32 × US × (Nat → Int32)) :=
  (f_X12_bad v_t (-2)).bind fun zr1 => some (zr1.1, zr1.2, v_t_now)
def f_X12_both (N : Nat) (v_t : US) (v_t_now : Nat → Int32) (x1 : Int32) (x2 : Int32) (x3 : Int32) (x4 : Int32) : Option (Int32 × US × (Nat → Int32)) :=
  (f_X12_isPull v_t v_t_now x1 x2).bind fun zr1 => if (b2i zr1) = 0 then (b_X12_both_24 N v_t v_t_now) else ((f_X12_isPull v_t v_t_now x3 x4).bind fun zr5 => if (b2i zr5) = 0 then (b_X12_both_24 N v_t v_t_now) else (if x1 = x3 then (b_X12_both_24 N v_t v_t_now) else ((f_X12_takeNow N v_t v_t_now).bind fun zr10 => (f_X12_onePull zr10 x1 x2).bind fun zr13 => bnd (upi zr13 10 x3) fun zw16 => (f_X12_goPull N (upi zw16 11 x4) v_t_now).bind fun zr17 => some (zr17.1, upi zw16 11 x4, zr17.2))))
set_option maxRecDepth 100000 in
set_option maxHeartbeats 4000000 in
theorem w_X12_both_24 {p : Program} {l : Launch} {e : Env} {s : State} {m : MethodId} {args : Array Value} {below : List Frame} {meth : Method} {c : Code} {G : GG} {A : Nat → Prop} {o_t : Nat} {a_t : Nat → Nat} {N : Nat}  {v_t : US} {v_t_now : Nat → Int32}  {res : Int32 × US × (Nat → Int32)} (C : MC RX12 cX12_both 5 (some .int) G A p s m args meth c)  (hf : b_X12_both_24 N v_t v_t_now = some res) {H : Heap} {locs : List Loc} {ls : Array Slot} (h : HP G A s [uX12 G o_t a_t v_t, uA G 63 (a_t 0) v_t_now] H locs) (hl : lv_has ls 5 [(0, .ref o_t)]) : W p l e (rmm 6) s m args below meth c H locs 0 0 (QI below G A args s res.1 [uX12 G o_t a_t res.2.1, uA G 63 (a_t 0) res.2.2]) (F0 m 24 ls []) := by
  unfold b_X12_both_24 at hf
  refine lv_aload_n C.hx C.hb dX12_both_24 rfl (lv_at hl 0 rfl) ?_
  refine lv_bipush (v := (-2)) C.hx C.hb dX12_both_25 (by decide) ?_
  obtain ⟨zr1, zq2, hf⟩ := bd_some hf
  have zm3 := c_X12_bad l G o_t a_t (hf := zq2)
  refine g_goI C h zm3.1 (is := [0]) rfl rfl (g_runV C h (is := [0]) rfl rfl (As := [.int (-2)]) (rest := []) (zm3.2 _) vf_X12_60 0 0 rfl rfl hl.1 rfl rfl (Nat.le_of_ble_eq_true rfl) dX12_both_27 ⟨Nat.le_of_ble_eq_true rfl, Nat.le_of_ble_eq_true rfl⟩ ⟨Nat.le_refl _, Nat.le_refl _⟩) (us2 := [uX12 G o_t a_t zr1.2, uA G 63 (a_t 0) v_t_now]) rfl (fun H locs h => ?_)
  obtain rfl := Option.some.inj hf
  exact g_ret_i C h rfl rfl dX12_both_30
set_option maxRecDepth 100000 in
set_option maxHeartbeats 4000000 in
theorem c_X12_both (l : Launch) (G : GG) (o_t : Nat) (a_t : Nat → Nat) (N : Nat) {v_t : US} {v_t_now : Nat → Int32} {x1 : Int32} {x2 : Int32} {x3 : Int32} {x4 : Int32} {res : Int32 × US × (Nat → Int32)} (hf : f_X12_both N v_t v_t_now x1 x2 x3 x4 = some res) : MI l yX12_both cX12_both 5 (some .int) 6 [.ref o_t, .int x1, .int x2, .int x3, .int x4] G [uX12 G o_t a_t v_t, uA G 63 (a_t 0) v_t_now] res.1 [uX12 G o_t a_t res.2.1, uA G 63 (a_t 0) res.2.2] := by
  unfold f_X12_both at hf
  refine MI.intro (by decide) rfl (Nat.le_of_ble_eq_true rfl) (fun p e s m args below meth c A ls C h hl => ?_)
  have C : MC RX12 cX12_both 5 (some .int) G A p s m args meth c := C
  have hl : lv_has ls 5 [(0, .ref o_t), (1, .int x1), (2, .int x2), (3, .int x3), (4, .int x4)] := hl
  refine lv_aload_n C.hx C.hb dX12_both_0 rfl (lv_at hl 0 rfl) ?_
  refine lv_iload_n C.hx C.hb dX12_both_1 rfl (lv_at hl 1 rfl) ?_
  refine lv_iload_n C.hx C.hb dX12_both_2 rfl (lv_at hl 2 rfl) ?_
  obtain ⟨zr1, zq2, hf⟩ := bd_some hf
  have zm3 := c_X12_isPull l G o_t a_t (hf := zq2)
  refine g_goI C h zm3.1 (is := [0, 1]) rfl rfl (g_runV C h (is := [0, 1]) rfl rfl (As := [.int x1, .int x2]) (rest := []) (zm3.2 _) vf_X12_119 0 0 rfl rfl hl.1 rfl rfl (Nat.le_of_ble_eq_true rfl) dX12_both_3 ⟨Nat.le_of_ble_eq_true rfl, Nat.le_of_ble_eq_true rfl⟩ ⟨Nat.le_refl _, Nat.le_refl _⟩) (us2 := [uX12 G o_t a_t v_t, uA G 63 (a_t 0) v_t_now]) rfl (fun H locs h => ?_)
  refine lv_if_eq (tgt := 24) C.hx C.hb dX12_both_6 (by decide) (fun zc4 => ?_) (fun zc4 => ?_)
  · replace hf := it_t zc4 hf
    exact w_X12_both_24 C  hf h (lv_sub hl [0] rfl)
  · replace hf := it_f zc4 hf
    refine lv_aload_n C.hx C.hb dX12_both_9 rfl (lv_at hl 0 rfl) ?_
    refine lv_iload_n C.hx C.hb dX12_both_10 rfl (lv_at hl 3 rfl) ?_
    refine lv_iload C.hx C.hb dX12_both_11 (lv_at hl 4 rfl) ?_
    obtain ⟨zr5, zq6, hf⟩ := bd_some hf
    have zm7 := c_X12_isPull l G o_t a_t (hf := zq6)
    refine g_goI C h zm7.1 (is := [0, 1]) rfl rfl (g_runV C h (is := [0, 1]) rfl rfl (As := [.int x3, .int x4]) (rest := []) (zm7.2 _) vf_X12_119 0 0 rfl rfl hl.1 rfl rfl (Nat.le_of_ble_eq_true rfl) dX12_both_13 ⟨Nat.le_of_ble_eq_true rfl, Nat.le_of_ble_eq_true rfl⟩ ⟨Nat.le_refl _, Nat.le_refl _⟩) (us2 := [uX12 G o_t a_t v_t, uA G 63 (a_t 0) v_t_now]) rfl (fun H locs h => ?_)
    refine lv_if_eq (tgt := 24) C.hx C.hb dX12_both_16 (by decide) (fun zc8 => ?_) (fun zc8 => ?_)
    · replace hf := it_t zc8 hf
      exact w_X12_both_24 C  hf h (lv_sub hl [0] rfl)
    · replace hf := it_f zc8 hf
      refine lv_iload_n C.hx C.hb dX12_both_19 rfl (lv_at hl 1 rfl) ?_
      refine lv_iload_n C.hx C.hb dX12_both_20 rfl (lv_at hl 3 rfl) ?_
      refine lv_icmp_ne (tgt := 31) C.hx C.hb dX12_both_21 (by decide) (fun zc9 => ?_) (fun zc9 => ?_)
      · replace hf := it_f zc9 hf
        refine lv_aload_n C.hx C.hb dX12_both_31 rfl (lv_at hl 0 rfl) ?_
        obtain ⟨zr10, zq11, hf⟩ := bd_some hf
        have zm12 := c_X12_takeNow l G o_t a_t N (hf := zq11)
        refine g_goV C h zm12.1 (is := [0, 1]) rfl rfl (g_runV C h (is := [0, 1]) rfl rfl (As := []) (rest := []) (zm12.2 _) vf_X12_123 0 0 rfl rfl hl.1 rfl rfl (Nat.le_of_ble_eq_true rfl) dX12_both_32 ⟨Nat.le_of_ble_eq_true rfl, Nat.le_of_ble_eq_true rfl⟩ ⟨Nat.le_refl _, Nat.le_refl _⟩) (us2 := [uX12 G o_t a_t zr10, uA G 63 (a_t 0) v_t_now]) rfl (fun H locs h => ?_)
        refine lv_aload_n C.hx C.hb dX12_both_35 rfl (lv_at hl 0 rfl) ?_
        refine lv_iload_n C.hx C.hb dX12_both_36 rfl (lv_at hl 1 rfl) ?_
        refine lv_iload_n C.hx C.hb dX12_both_37 rfl (lv_at hl 2 rfl) ?_
        obtain ⟨zr13, zq14, hf⟩ := bd_some hf
        have zm15 := c_X12_onePull l G o_t a_t (hf := zq14)
        refine g_goV C h zm15.1 (is := [0]) rfl rfl (g_runV C h (is := [0]) rfl rfl (As := [.int x1, .int x2]) (rest := []) (zm15.2 _) vf_X12_126 0 0 rfl rfl hl.1 rfl rfl (Nat.le_of_ble_eq_true rfl) dX12_both_38 ⟨Nat.le_of_ble_eq_true rfl, Nat.le_of_ble_eq_true rfl⟩ ⟨Nat.le_refl _, Nat.le_refl _⟩) (us2 := [uX12 G o_t a_t zr13, uA G 63 (a_t 0) v_t_now]) rfl (fun H locs h => ?_)
        refine lv_aload_n C.hx C.hb dX12_both_41 rfl (lv_at hl 0 rfl) ?_
        refine lv_iload_n C.hx C.hb dX12_both_42 rfl (lv_at hl 3 rfl) ?_
        refine g_put C h fp_X12_99 0 0 rfl rfl rfl rfl (Nat.le_of_ble_eq_true rfl) dX12_both_43 (u' := uX12 G o_t a_t (upi zr13 10 x3)) (us' := [uX12 G o_t a_t (upi zr13 10 x3), uA G 63 (a_t 0) v_t_now]) rfl rfl (fun H locs h => ?_)
        refine lv_aload_n C.hx C.hb dX12_both_46 rfl (lv_at hl 0 rfl) ?_
        refine lv_iload C.hx C.hb dX12_both_47 (lv_at hl 4 rfl) ?_
        obtain ⟨zw16, hzw16, hf⟩ := bnd_some hf
        rw [← hzw16] at h
        refine g_put C h fp_X12_102 0 0 rfl rfl rfl rfl (Nat.le_of_ble_eq_true rfl) dX12_both_49 (u' := uX12 G o_t a_t (upi zw16 11 x4)) (us' := [uX12 G o_t a_t (upi zw16 11 x4), uA G 63 (a_t 0) v_t_now]) rfl rfl (fun H locs h => ?_)
        refine lv_aload_n C.hx C.hb dX12_both_52 rfl (lv_at hl 0 rfl) ?_
        obtain ⟨zr17, zq18, hf⟩ := bd_some hf
        have zm19 := c_X12_goPull l G o_t a_t N (hf := zq18)
        refine g_goI C h zm19.1 (is := [0, 1]) rfl rfl (g_runV C h (is := [0, 1]) rfl rfl (As := []) (rest := []) (zm19.2 _) vf_X12_130 0 0 rfl rfl hl.1 rfl rfl (Nat.le_of_ble_eq_true rfl) dX12_both_53 ⟨Nat.le_of_ble_eq_true rfl, Nat.le_of_ble_eq_true rfl⟩ ⟨Nat.le_refl _, Nat.le_refl _⟩) (us2 := [uX12 G o_t a_t (upi zw16 11 x4), uA G 63 (a_t 0) zr17.2]) rfl (fun H locs h => ?_)
        obtain rfl := Option.some.inj hf
        exact g_ret_i C h rfl rfl dX12_both_56
      · replace hf := it_t zc9 hf
        exact w_X12_both_24 C  hf h (lv_sub hl [0] rfl)

def f_X12_clear (v_t : US)  : Option (Int32 × US) :=
  some (v_t.1 17, upi v_t 17 0)
set_option maxRecDepth 100000 in
set_option maxHeartbeats 4000000 in
theorem c_X12_clear (l : Launch) (G : GG) (o_t : Nat) (a_t : Nat → Nat) {v_t : US}  {res : Int32 × US} (hf : f_X12_clear v_t = some res) : MI l yX12_clear cX12_clear 2 (some .int) 1 [.ref o_t] G [uX12 G o_t a_t v_t] res.1 [uX12 G o_t a_t res.2] := by
  unfold f_X12_clear at hf
  refine MI.intro (by decide) rfl (Nat.le_of_ble_eq_true rfl) (fun p e s m args below meth c A ls C h hl => ?_)
  have C : MC RX12 cX12_clear 2 (some .int) G A p s m args meth c := C
  have hl : lv_has ls 2 [(0, .ref o_t)] := hl
  refine lv_aload_n C.hx C.hb dX12_clear_0 rfl (lv_at hl 0 rfl) ?_
  refine g_get C h fl_X12_188 0 0 rfl rfl (v := .int (v_t.1 17)) rfl dX12_clear_1 ?_
  refine lv_istore_n (lv' := [(1, .int (v_t.1 17)), (0, .ref o_t)]) C.hx C.hb dX12_clear_4 rfl hl (by decide) rfl (fun ls hl => ?_)
  refine lv_aload_n C.hx C.hb dX12_clear_5 rfl (lv_at hl 1 rfl) ?_
  refine lv_iconst (v := 0) C.hx C.hb dX12_clear_6 (by decide) ?_
  refine g_put C h fp_X12_188 0 0 rfl rfl rfl rfl (Nat.le_of_ble_eq_true rfl) dX12_clear_7 (u' := uX12 G o_t a_t (upi v_t 17 0)) (us' := [uX12 G o_t a_t (upi v_t 17 0)]) rfl rfl (fun H locs h => ?_)
  refine lv_iload_n C.hx C.hb dX12_clear_10 rfl (lv_at hl 0 rfl) ?_
  obtain rfl := Option.some.inj hf
  exact g_ret_i C h rfl rfl dX12_clear_11

def f_X12_doErrand (N : Nat) (v_t : US) (v_t_now : Nat → Int32) (x1 : Int32) (x2 : Int32) : Option (Int32 × US) :=
  if (29 + (2 * x1)) < 0 ∨ 63 ≤ (29 + (2 * x1)).toNatClampNeg then none else (if ((29 + (2 * x1)) + 1) < 0 ∨ 63 ≤ ((29 + (2 * x1)) + 1).toNatClampNeg then none else ((f_X12_onePull v_t (v_t_now (29 + (2 * x1)).toNatClampNeg) (v_t_now ((29 + (2 * x1)) + 1).toNatClampNeg)).bind fun zr3 => (f_X12_behind N zr3 v_t_now x2).bind fun zr6 => some (zr6, zr3)))
set_option maxRecDepth 100000 in
set_option maxHeartbeats 4000000 in
theorem c_X12_doErrand (l : Launch) (G : GG) (o_t : Nat) (a_t : Nat → Nat) (N : Nat) {v_t : US} {v_t_now : Nat → Int32} {x1 : Int32} {x2 : Int32} {res : Int32 × US} (hf : f_X12_doErrand N v_t v_t_now x1 x2 = some res) : MI l yX12_doErrand cX12_doErrand 3 (some .int) 5 [.ref o_t, .int x1, .int x2] G [uX12 G o_t a_t v_t, uA G 63 (a_t 0) v_t_now] res.1 [uX12 G o_t a_t res.2, uA G 63 (a_t 0) v_t_now] := by
  unfold f_X12_doErrand at hf
  refine MI.intro (by decide) rfl (Nat.le_of_ble_eq_true rfl) (fun p e s m args below meth c A ls C h hl => ?_)
  have C : MC RX12 cX12_doErrand 3 (some .int) G A p s m args meth c := C
  have hl : lv_has ls 3 [(0, .ref o_t), (1, .int x1), (2, .int x2)] := hl
  refine lv_aload_n C.hx C.hb dX12_doErrand_0 rfl (lv_at hl 0 rfl) ?_
  refine lv_aload_n C.hx C.hb dX12_doErrand_1 rfl (lv_at hl 0 rfl) ?_
  refine g_get C h fl_X12_7 0 0 rfl rfl (v := .ref (a_t 0)) rfl dX12_doErrand_2 ?_
  refine lv_bipush (v := 29) C.hx C.hb dX12_doErrand_5 (by decide) ?_
  refine lv_iconst (v := 2) C.hx C.hb dX12_doErrand_7 (by decide) ?_
  refine lv_iload_n C.hx C.hb dX12_doErrand_8 rfl (lv_at hl 1 rfl) ?_
  refine lv_imul C.hx C.hb dX12_doErrand_9 ?_
  refine lv_iadd C.hx C.hb dX12_doErrand_10 ?_
  obtain ⟨zi1, hf⟩ := ck_some hf
  refine g_iald C h 1 0 rfl rfl (f := v_t_now) zi1 dX12_doErrand_11 ?_
  refine lv_aload_n C.hx C.hb dX12_doErrand_12 rfl (lv_at hl 0 rfl) ?_
  refine g_get C h fl_X12_7 0 0 rfl rfl (v := .ref (a_t 0)) rfl dX12_doErrand_13 ?_
  refine lv_bipush (v := 29) C.hx C.hb dX12_doErrand_16 (by decide) ?_
  refine lv_iconst (v := 2) C.hx C.hb dX12_doErrand_18 (by decide) ?_
  refine lv_iload_n C.hx C.hb dX12_doErrand_19 rfl (lv_at hl 1 rfl) ?_
  refine lv_imul C.hx C.hb dX12_doErrand_20 ?_
  refine lv_iadd C.hx C.hb dX12_doErrand_21 ?_
  refine lv_iconst (v := 1) C.hx C.hb dX12_doErrand_22 (by decide) ?_
  refine lv_iadd C.hx C.hb dX12_doErrand_23 ?_
  obtain ⟨zi2, hf⟩ := ck_some hf
  refine g_iald C h 1 0 rfl rfl (f := v_t_now) zi2 dX12_doErrand_24 ?_
  obtain ⟨zr3, zq4, hf⟩ := bd_some hf
  have zm5 := c_X12_onePull l G o_t a_t (hf := zq4)
  refine g_goV C h zm5.1 (is := [0]) rfl rfl (g_runV C h (is := [0]) rfl rfl (As := [.int (v_t_now (29 + (2 * x1)).toNatClampNeg), .int (v_t_now ((29 + (2 * x1)) + 1).toNatClampNeg)]) (rest := []) (zm5.2 _) vf_X12_126 0 0 rfl rfl hl.1 rfl rfl (Nat.le_of_ble_eq_true rfl) dX12_doErrand_25 ⟨Nat.le_of_ble_eq_true rfl, Nat.le_of_ble_eq_true rfl⟩ ⟨Nat.le_refl _, Nat.le_refl _⟩) (us2 := [uX12 G o_t a_t zr3, uA G 63 (a_t 0) v_t_now]) rfl (fun H locs h => ?_)
  refine lv_aload_n C.hx C.hb dX12_doErrand_28 rfl (lv_at hl 0 rfl) ?_
  refine lv_iload_n C.hx C.hb dX12_doErrand_29 rfl (lv_at hl 2 rfl) ?_
  obtain ⟨zr6, zq7, hf⟩ := bd_some hf
  have zm8 := c_X12_behind l G o_t a_t N (hf := zq7)
  refine g_goI C h zm8.1 (is := [0, 1]) rfl rfl (g_runV C h (is := [0, 1]) rfl rfl (As := [.int x2]) (rest := []) (zm8.2 _) vf_X12_114 0 0 rfl rfl hl.1 rfl rfl (Nat.le_of_ble_eq_true rfl) dX12_doErrand_30 ⟨Nat.le_of_ble_eq_true rfl, Nat.le_of_ble_eq_true rfl⟩ ⟨Nat.le_refl _, Nat.le_refl _⟩) (us2 := [uX12 G o_t a_t zr3, uA G 63 (a_t 0) v_t_now]) rfl (fun H locs h => ?_)
  obtain rfl := Option.some.inj hf
  exact g_ret_i C h rfl rfl dX12_doErrand_33

def f_X12_errands (v_t : US) (v_t_now : Nat → Int32)  : Option (Int32) :=
  if (28 : Int32) < 0 ∨ 63 ≤ (28 : Int32).toNatClampNeg then none else (some (v_t_now (28 : Int32).toNatClampNeg))
set_option maxRecDepth 100000 in
set_option maxHeartbeats 4000000 in
theorem c_X12_errands (l : Launch) (G : GG) (o_t : Nat) (a_t : Nat → Nat) {v_t : US} {v_t_now : Nat → Int32}  {res : Int32} (hf : f_X12_errands v_t v_t_now = some res) : MI l yX12_errands cX12_errands 1 (some .int) 1 [.ref o_t] G [uX12 G o_t a_t v_t, uA G 63 (a_t 0) v_t_now] res [uX12 G o_t a_t v_t, uA G 63 (a_t 0) v_t_now] := by
  unfold f_X12_errands at hf
  refine MI.intro (by decide) rfl (Nat.le_of_ble_eq_true rfl) (fun p e s m args below meth c A ls C h hl => ?_)
  have C : MC RX12 cX12_errands 1 (some .int) G A p s m args meth c := C
  have hl : lv_has ls 1 [(0, .ref o_t)] := hl
  refine lv_aload_n C.hx C.hb dX12_errands_0 rfl (lv_at hl 0 rfl) ?_
  refine g_get C h fl_X12_7 0 0 rfl rfl (v := .ref (a_t 0)) rfl dX12_errands_1 ?_
  refine lv_bipush (v := 28) C.hx C.hb dX12_errands_4 (by decide) ?_
  obtain ⟨zi1, hf⟩ := ck_some hf
  refine g_iald C h 1 0 rfl rfl (f := v_t_now) zi1 dX12_errands_6 ?_
  obtain rfl := Option.some.inj hf
  exact g_ret_i C h rfl rfl dX12_errands_7

def b_X12_findFar_52 (N : Nat) (g33 : US → (Nat → Int32) → Int32 → Option (US)) (g41 : US → (Nat → Int32) → Int32 → Int32 → Option (US)) (g52 : US → (Nat → Int32) → Int32 → Int32 → Int32 → Option (US)) (v_t : US) (v_t_now : Nat → Int32) (y2 : Int32) (y3 : Int32) (y4 : Int32) : Option (US) :=
  (f_X12_errands v_t v_t_now).bind fun zr1 => if zr1 ≤ y4 then (g41 v_t v_t_now y2 (y3 + 1)) else ((f_X12_doErrand N v_t v_t_now y4 y3).bind fun zr5 => if zr5.1 < 0 ∨ 32 ≤ zr5.1.toNatClampNeg then none else (if y3 < 0 ∨ 32 ≤ y3.toNatClampNeg then none else (if ((zr5.2.2.2 15) y3.toNatClampNeg) ≤ (((zr5.2.2.2 15) zr5.1.toNatClampNeg) + 1) then (g52 zr5.2 v_t_now y2 y3 (y4 + 1)) else (if y3 < 0 ∨ 32 ≤ y3.toNatClampNeg then none else (g52 (upa zr5.2 15 y3.toNatClampNeg (((zr5.2.2.2 15) zr5.1.toNatClampNeg) + 1)) v_t_now 1 y3 (y4 + 1))))))
def f_X12_findFar_52 (N : Nat) (g33 : US → (Nat → Int32) → Int32 → Option (US)) (g41 : US → (Nat → Int32) → Int32 → Int32 → Option (US)) : Nat → US → (Nat → Int32) → Int32 → Int32 → Int32 → Option (US)
  | 0 => fun _ _ _ _ _ => none
  | k + 1 => fun q0 q1 q2 q3 q4 => b_X12_findFar_52 N g33 g41 (f_X12_findFar_52 N g33 g41 k) q0 q1 q2 q3 q4
def b_X12_findFar_41 (N : Nat) (g33 : US → (Nat → Int32) → Int32 → Option (US)) (g41 : US → (Nat → Int32) → Int32 → Int32 → Option (US)) (v_t : US) (v_t_now : Nat → Int32) (y2 : Int32) (y3 : Int32) : Option (US) :=
  (f_X12_all v_t v_t_now).bind fun zr1 => if zr1 < y3 then (g33 v_t v_t_now y2) else (f_X12_findFar_52 N g33 g41 N v_t v_t_now y2 y3 0)
def f_X12_findFar_41 (N : Nat) (g33 : US → (Nat → Int32) → Int32 → Option (US)) : Nat → US → (Nat → Int32) → Int32 → Int32 → Option (US)
  | 0 => fun _ _ _ _ => none
  | k + 1 => fun q0 q1 q2 q3 => b_X12_findFar_41 N g33 (f_X12_findFar_41 N g33 k) q0 q1 q2 q3
def b_X12_findFar_33 (N : Nat) (g33 : US → (Nat → Int32) → Int32 → Option (US)) (v_t : US) (v_t_now : Nat → Int32) (y2 : Int32) : Option (US) :=
  if y2 = 0 then (some (v_t)) else (f_X12_findFar_41 N g33 N v_t v_t_now 0 0)
def f_X12_findFar_33 (N : Nat)  : Nat → US → (Nat → Int32) → Int32 → Option (US)
  | 0 => fun _ _ _ => none
  | k + 1 => fun q0 q1 q2 => b_X12_findFar_33 N  (f_X12_findFar_33 N  k) q0 q1 q2
def b_X12_findFar_2 (N : Nat) (g2 : US → (Nat → Int32) → Int32 → Int32 → Option (US)) (v_t : US) (v_t_now : Nat → Int32) (y1 : Int32) (y2 : Int32) : Option (US) :=
  if 32 ≤ y2 then (f_X12_findFar_33 N N v_t v_t_now 1) else (if y2 = y1 then (if y2 < 0 ∨ 32 ≤ y2.toNatClampNeg then none else (g2 (upa v_t 15 y2.toNatClampNeg 0) v_t_now y1 (y2 + 1))) else (if y2 < 0 ∨ 32 ≤ y2.toNatClampNeg then none else (g2 (upa v_t 15 y2.toNatClampNeg 100000) v_t_now y1 (y2 + 1))))
def f_X12_findFar_2 (N : Nat)  : Nat → US → (Nat → Int32) → Int32 → Int32 → Option (US)
  | 0 => fun _ _ _ _ => none
  | k + 1 => fun q0 q1 q2 q3 => b_X12_findFar_2 N  (f_X12_findFar_2 N  k) q0 q1 q2 q3
def f_X12_findFar (N : Nat) (v_t : US) (v_t_now : Nat → Int32) (x1 : Int32) : Option (US) :=
  f_X12_findFar_2 N N v_t v_t_now x1 0
set_option maxRecDepth 100000 in
set_option maxHeartbeats 4000000 in
theorem w_X12_findFar_52 {p : Program} {l : Launch} {e : Env} {s : State} {m : MethodId} {args : Array Value} {below : List Frame} {meth : Method} {c : Code} {G : GG} {A : Nat → Prop} {o_t : Nat} {a_t : Nat → Nat} {N : Nat} {g33 : US → (Nat → Int32) → Int32 → Option (US)} {g41 : US → (Nat → Int32) → Int32 → Int32 → Option (US)} {g52 : US → (Nat → Int32) → Int32 → Int32 → Int32 → Option (US)} {v_t : US} {v_t_now : Nat → Int32} {y2 : Int32} {y3 : Int32} {y4 : Int32} {res : US} (C : MC RX12 cX12_findFar 6 none G A p s m args meth c) (hg33 : ∀ {v_t : US} {v_t_now : Nat → Int32} {y2 : Int32}, g33 v_t v_t_now y2 = some res → ∀ {H : Heap} {locs : List Loc} {ls : Array Slot}, HP G A s [uX12 G o_t a_t v_t, uA G 63 (a_t 0) v_t_now] H locs → lv_has ls 6 [(0, .ref o_t), (2, .int y2)] → W p l e (rmm 6) s m args below meth c H locs 0 0 (QV below G A args s  [uX12 G o_t a_t res, uA G 63 (a_t 0) v_t_now]) (F0 m 33 ls [])) (hg41 : ∀ {v_t : US} {v_t_now : Nat → Int32} {y2 : Int32} {y3 : Int32}, g41 v_t v_t_now y2 y3 = some res → ∀ {H : Heap} {locs : List Loc} {ls : Array Slot}, HP G A s [uX12 G o_t a_t v_t, uA G 63 (a_t 0) v_t_now] H locs → lv_has ls 6 [(0, .ref o_t), (2, .int y2), (3, .int y3)] → W p l e (rmm 6) s m args below meth c H locs 0 0 (QV below G A args s  [uX12 G o_t a_t res, uA G 63 (a_t 0) v_t_now]) (F0 m 41 ls [])) (hg52 : ∀ {v_t : US} {v_t_now : Nat → Int32} {y2 : Int32} {y3 : Int32} {y4 : Int32}, g52 v_t v_t_now y2 y3 y4 = some res → ∀ {H : Heap} {locs : List Loc} {ls : Array Slot}, HP G A s [uX12 G o_t a_t v_t, uA G 63 (a_t 0) v_t_now] H locs → lv_has ls 6 [(0, .ref o_t), (2, .int y2), (3, .int y3), (4, .int y4)] → W p l e (rmm 6) s m args below meth c H locs 0 0 (QV below G A args s  [uX12 G o_t a_t res, uA G 63 (a_t 0) v_t_now]) (F0 m 52 ls [])) (hf : b_X12_findFar_52 N g33 g41 g52 v_t v_t_now y2 y3 y4 = some res) {H : Heap} {locs : List Loc} {ls : Array Slot} (h : HP G A s [uX12 G o_t a_t v_t, uA G 63 (a_t 0) v_t_now] H locs) (hl : lv_has ls 6 [(0, .ref o_t), (2, .int y2), (3, .int y3), (4, .int y4)]) : W p l e (rmm 6) s m args below meth c H locs 0 0 (QV below G A args s  [uX12 G o_t a_t res, uA G 63 (a_t 0) v_t_now]) (F0 m 52 ls []) := by
  unfold b_X12_findFar_52 at hf
  refine lv_iload C.hx C.hb dX12_findFar_52 (lv_at hl 3 rfl) ?_
  refine lv_aload_n C.hx C.hb dX12_findFar_54 rfl (lv_at hl 0 rfl) ?_
  obtain ⟨zr1, zq2, hf⟩ := bd_some hf
  have zm3 := c_X12_errands l G o_t a_t (hf := zq2)
  refine g_goI C h zm3.1 (is := [0, 1]) rfl rfl (g_runV C h (is := [0, 1]) rfl rfl (As := []) (rest := [.int y4]) (zm3.2 _) vf_X12_133 0 0 rfl rfl hl.1 rfl rfl (Nat.le_of_ble_eq_true rfl) dX12_findFar_55 ⟨Nat.le_of_ble_eq_true rfl, Nat.le_of_ble_eq_true rfl⟩ ⟨Nat.le_refl _, Nat.le_refl _⟩) (us2 := [uX12 G o_t a_t v_t, uA G 63 (a_t 0) v_t_now]) rfl (fun H locs h => ?_)
  refine lv_icmp_ge (tgt := 104) C.hx C.hb dX12_findFar_58 (by decide) (fun zc4 => ?_) (fun zc4 => ?_)
  · replace hf := it_t zc4 hf
    refine lv_iinc (v := y3 + 1) (lv' := [(3, .int (y3 + 1)), (0, .ref o_t), (2, .int y2), (4, .int y4)]) C.hx C.hb dX12_findFar_104 hl (k := 2) rfl rfl (by decide) rfl (fun ls hl => ?_)
    refine lv_goto (tgt := 41) C.hx C.hb dX12_findFar_107 (by decide) ?_
    exact hg41 hf h (lv_sub hl [1, 2, 0] rfl)
  · replace hf := it_f zc4 hf
    refine lv_aload_n C.hx C.hb dX12_findFar_61 rfl (lv_at hl 0 rfl) ?_
    refine g_get C h fl_X12_36 0 0 rfl rfl (v := .ref (a_t 15)) rfl dX12_findFar_62 ?_
    refine lv_aload_n C.hx C.hb dX12_findFar_65 rfl (lv_at hl 0 rfl) ?_
    refine lv_iload C.hx C.hb dX12_findFar_66 (lv_at hl 3 rfl) ?_
    refine lv_iload_n C.hx C.hb dX12_findFar_68 rfl (lv_at hl 2 rfl) ?_
    obtain ⟨zr5, zq6, hf⟩ := bd_some hf
    have zm7 := c_X12_doErrand l G o_t a_t N (hf := zq6)
    refine g_goI C h zm7.1 (is := [0, 1]) rfl rfl (g_runV C h (is := [0, 1]) rfl rfl (As := [.int y4, .int y3]) (rest := [.ref (a_t 15)]) (zm7.2 _) vf_X12_139 0 0 rfl rfl hl.1 rfl rfl (Nat.le_of_ble_eq_true rfl) dX12_findFar_69 ⟨Nat.le_of_ble_eq_true rfl, Nat.le_of_ble_eq_true rfl⟩ ⟨Nat.le_refl _, Nat.le_refl _⟩) (us2 := [uX12 G o_t a_t zr5.2, uA G 63 (a_t 0) v_t_now]) rfl (fun H locs h => ?_)
    obtain ⟨zi8, hf⟩ := ck_some hf
    refine g_iald C h 0 7 rfl rfl (f := zr5.2.2.2 15) zi8 dX12_findFar_72 ?_
    refine lv_iconst (v := 1) C.hx C.hb dX12_findFar_73 (by decide) ?_
    refine lv_iadd C.hx C.hb dX12_findFar_74 ?_
    refine lv_istore (lv' := [(5, .int (((zr5.2.2.2 15) zr5.1.toNatClampNeg) + 1)), (0, .ref o_t), (2, .int y2), (3, .int y3), (4, .int y4)]) C.hx C.hb dX12_findFar_75 hl (by decide) rfl (fun ls hl => ?_)
    refine lv_iload C.hx C.hb dX12_findFar_77 (lv_at hl 0 rfl) ?_
    refine lv_aload_n C.hx C.hb dX12_findFar_79 rfl (lv_at hl 1 rfl) ?_
    refine g_get C h fl_X12_36 0 0 rfl rfl (v := .ref (a_t 15)) rfl dX12_findFar_80 ?_
    refine lv_iload_n C.hx C.hb dX12_findFar_83 rfl (lv_at hl 3 rfl) ?_
    obtain ⟨zi9, hf⟩ := ck_some hf
    refine g_iald C h 0 7 rfl rfl (f := zr5.2.2.2 15) zi9 dX12_findFar_84 ?_
    refine lv_icmp_ge (tgt := 98) C.hx C.hb dX12_findFar_85 (by decide) (fun zc10 => ?_) (fun zc10 => ?_)
    · replace hf := it_t zc10 hf
      refine lv_iinc (v := y4 + 1) (lv' := [(4, .int (y4 + 1)), (5, .int (((zr5.2.2.2 15) zr5.1.toNatClampNeg) + 1)), (0, .ref o_t), (2, .int y2), (3, .int y3)]) C.hx C.hb dX12_findFar_98 hl (k := 4) rfl rfl (by decide) rfl (fun ls hl => ?_)
      refine lv_goto (tgt := 52) C.hx C.hb dX12_findFar_101 (by decide) ?_
      exact hg52 hf h (lv_sub hl [2, 3, 4, 0] rfl)
    · replace hf := it_f zc10 hf
      refine lv_aload_n C.hx C.hb dX12_findFar_88 rfl (lv_at hl 1 rfl) ?_
      refine g_get C h fl_X12_36 0 0 rfl rfl (v := .ref (a_t 15)) rfl dX12_findFar_89 ?_
      refine lv_iload_n C.hx C.hb dX12_findFar_92 rfl (lv_at hl 3 rfl) ?_
      refine lv_iload C.hx C.hb dX12_findFar_93 (lv_at hl 0 rfl) ?_
      obtain ⟨zi11, hf⟩ := ck_some hf
      refine g_iast C h 0 7 rfl rfl (f := zr5.2.2.2 15) zi11 dX12_findFar_95 (u' := uX12 G o_t a_t (upa zr5.2 15 y3.toNatClampNeg (((zr5.2.2.2 15) zr5.1.toNatClampNeg) + 1))) (us' := [uX12 G o_t a_t (upa zr5.2 15 y3.toNatClampNeg (((zr5.2.2.2 15) zr5.1.toNatClampNeg) + 1)), uA G 63 (a_t 0) v_t_now]) rfl rfl (fun H locs h => ?_)
      refine lv_iconst (v := 1) C.hx C.hb dX12_findFar_96 (by decide) ?_
      refine lv_istore_n (lv' := [(2, .int 1), (5, .int (((zr5.2.2.2 15) zr5.1.toNatClampNeg) + 1)), (0, .ref o_t), (3, .int y3), (4, .int y4)]) C.hx C.hb dX12_findFar_97 rfl hl (by decide) rfl (fun ls hl => ?_)
      refine lv_iinc (v := y4 + 1) (lv' := [(4, .int (y4 + 1)), (2, .int 1), (5, .int (((zr5.2.2.2 15) zr5.1.toNatClampNeg) + 1)), (0, .ref o_t), (3, .int y3)]) C.hx C.hb dX12_findFar_98 hl (k := 4) rfl rfl (by decide) rfl (fun ls hl => ?_)
      refine lv_goto (tgt := 52) C.hx C.hb dX12_findFar_101 (by decide) ?_
      exact hg52 hf h (lv_sub hl [3, 1, 4, 0] rfl)
set_option maxRecDepth 100000 in
set_option maxHeartbeats 4000000 in
theorem l_X12_findFar_52 {p : Program} {l : Launch} {e : Env} {s : State} {m : MethodId} {args : Array Value} {below : List Frame} {meth : Method} {c : Code} {G : GG} {A : Nat → Prop} {o_t : Nat} {a_t : Nat → Nat} {N : Nat} {g33 : US → (Nat → Int32) → Int32 → Option (US)} {g41 : US → (Nat → Int32) → Int32 → Int32 → Option (US)} {res : US} (C : MC RX12 cX12_findFar 6 none G A p s m args meth c) (hg33 : ∀ {v_t : US} {v_t_now : Nat → Int32} {y2 : Int32}, g33 v_t v_t_now y2 = some res → ∀ {H : Heap} {locs : List Loc} {ls : Array Slot}, HP G A s [uX12 G o_t a_t v_t, uA G 63 (a_t 0) v_t_now] H locs → lv_has ls 6 [(0, .ref o_t), (2, .int y2)] → W p l e (rmm 6) s m args below meth c H locs 0 0 (QV below G A args s  [uX12 G o_t a_t res, uA G 63 (a_t 0) v_t_now]) (F0 m 33 ls [])) (hg41 : ∀ {v_t : US} {v_t_now : Nat → Int32} {y2 : Int32} {y3 : Int32}, g41 v_t v_t_now y2 y3 = some res → ∀ {H : Heap} {locs : List Loc} {ls : Array Slot}, HP G A s [uX12 G o_t a_t v_t, uA G 63 (a_t 0) v_t_now] H locs → lv_has ls 6 [(0, .ref o_t), (2, .int y2), (3, .int y3)] → W p l e (rmm 6) s m args below meth c H locs 0 0 (QV below G A args s  [uX12 G o_t a_t res, uA G 63 (a_t 0) v_t_now]) (F0 m 41 ls [])) : ∀ (k : Nat) {v_t : US} {v_t_now : Nat → Int32} {y2 : Int32} {y3 : Int32} {y4 : Int32}, f_X12_findFar_52 N g33 g41 k v_t v_t_now y2 y3 y4 = some res → ∀ {H : Heap} {locs : List Loc} {ls : Array Slot}, HP G A s [uX12 G o_t a_t v_t, uA G 63 (a_t 0) v_t_now] H locs → lv_has ls 6 [(0, .ref o_t), (2, .int y2), (3, .int y3), (4, .int y4)] → W p l e (rmm 6) s m args below meth c H locs 0 0 (QV below G A args s  [uX12 G o_t a_t res, uA G 63 (a_t 0) v_t_now]) (F0 m 52 ls []) := by
  intro k
  induction k with
  | zero => intros; contradiction
  | succ k ih =>
    intro v_t v_t_now y2 y3 y4 hf H locs ls h hl
    exact w_X12_findFar_52 (N := N) C hg33 hg41 ih hf h hl
set_option maxRecDepth 100000 in
set_option maxHeartbeats 4000000 in
theorem w_X12_findFar_41 {p : Program} {l : Launch} {e : Env} {s : State} {m : MethodId} {args : Array Value} {below : List Frame} {meth : Method} {c : Code} {G : GG} {A : Nat → Prop} {o_t : Nat} {a_t : Nat → Nat} {N : Nat} {g33 : US → (Nat → Int32) → Int32 → Option (US)} {g41 : US → (Nat → Int32) → Int32 → Int32 → Option (US)} {v_t : US} {v_t_now : Nat → Int32} {y2 : Int32} {y3 : Int32} {res : US} (C : MC RX12 cX12_findFar 6 none G A p s m args meth c) (hg33 : ∀ {v_t : US} {v_t_now : Nat → Int32} {y2 : Int32}, g33 v_t v_t_now y2 = some res → ∀ {H : Heap} {locs : List Loc} {ls : Array Slot}, HP G A s [uX12 G o_t a_t v_t, uA G 63 (a_t 0) v_t_now] H locs → lv_has ls 6 [(0, .ref o_t), (2, .int y2)] → W p l e (rmm 6) s m args below meth c H locs 0 0 (QV below G A args s  [uX12 G o_t a_t res, uA G 63 (a_t 0) v_t_now]) (F0 m 33 ls [])) (hg41 : ∀ {v_t : US} {v_t_now : Nat → Int32} {y2 : Int32} {y3 : Int32}, g41 v_t v_t_now y2 y3 = some res → ∀ {H : Heap} {locs : List Loc} {ls : Array Slot}, HP G A s [uX12 G o_t a_t v_t, uA G 63 (a_t 0) v_t_now] H locs → lv_has ls 6 [(0, .ref o_t), (2, .int y2), (3, .int y3)] → W p l e (rmm 6) s m args below meth c H locs 0 0 (QV below G A args s  [uX12 G o_t a_t res, uA G 63 (a_t 0) v_t_now]) (F0 m 41 ls [])) (hf : b_X12_findFar_41 N g33 g41 v_t v_t_now y2 y3 = some res) {H : Heap} {locs : List Loc} {ls : Array Slot} (h : HP G A s [uX12 G o_t a_t v_t, uA G 63 (a_t 0) v_t_now] H locs) (hl : lv_has ls 6 [(0, .ref o_t), (2, .int y2), (3, .int y3)]) : W p l e (rmm 6) s m args below meth c H locs 0 0 (QV below G A args s  [uX12 G o_t a_t res, uA G 63 (a_t 0) v_t_now]) (F0 m 41 ls []) := by
  unfold b_X12_findFar_41 at hf
  refine lv_iload_n C.hx C.hb dX12_findFar_41 rfl (lv_at hl 2 rfl) ?_
  refine lv_aload_n C.hx C.hb dX12_findFar_42 rfl (lv_at hl 0 rfl) ?_
  obtain ⟨zr1, zq2, hf⟩ := bd_some hf
  have zm3 := c_X12_all l G o_t a_t (hf := zq2)
  refine g_goI C h zm3.1 (is := [0, 1]) rfl rfl (g_runV C h (is := [0, 1]) rfl rfl (As := []) (rest := [.int y3]) (zm3.2 _) vf_X12_155 0 0 rfl rfl hl.1 rfl rfl (Nat.le_of_ble_eq_true rfl) dX12_findFar_43 ⟨Nat.le_of_ble_eq_true rfl, Nat.le_of_ble_eq_true rfl⟩ ⟨Nat.le_refl _, Nat.le_refl _⟩) (us2 := [uX12 G o_t a_t v_t, uA G 63 (a_t 0) v_t_now]) rfl (fun H locs h => ?_)
  refine lv_icmp_gt (tgt := 110) C.hx C.hb dX12_findFar_46 (by decide) (fun zc4 => ?_) (fun zc4 => ?_)
  · replace hf := it_t zc4 hf
    refine lv_goto (tgt := 33) C.hx C.hb dX12_findFar_110 (by decide) ?_
    exact hg33 hf h (lv_sub hl [0, 1] rfl)
  · replace hf := it_f zc4 hf
    refine lv_iconst (v := 0) C.hx C.hb dX12_findFar_49 (by decide) ?_
    refine lv_istore (lv' := [(4, .int 0), (0, .ref o_t), (2, .int y2), (3, .int y3)]) C.hx C.hb dX12_findFar_50 hl (by decide) rfl (fun ls hl => ?_)
    exact l_X12_findFar_52 C hg33 hg41 N hf h (lv_sub hl [1, 2, 3, 0] rfl)
set_option maxRecDepth 100000 in
set_option maxHeartbeats 4000000 in
theorem l_X12_findFar_41 {p : Program} {l : Launch} {e : Env} {s : State} {m : MethodId} {args : Array Value} {below : List Frame} {meth : Method} {c : Code} {G : GG} {A : Nat → Prop} {o_t : Nat} {a_t : Nat → Nat} {N : Nat} {g33 : US → (Nat → Int32) → Int32 → Option (US)} {res : US} (C : MC RX12 cX12_findFar 6 none G A p s m args meth c) (hg33 : ∀ {v_t : US} {v_t_now : Nat → Int32} {y2 : Int32}, g33 v_t v_t_now y2 = some res → ∀ {H : Heap} {locs : List Loc} {ls : Array Slot}, HP G A s [uX12 G o_t a_t v_t, uA G 63 (a_t 0) v_t_now] H locs → lv_has ls 6 [(0, .ref o_t), (2, .int y2)] → W p l e (rmm 6) s m args below meth c H locs 0 0 (QV below G A args s  [uX12 G o_t a_t res, uA G 63 (a_t 0) v_t_now]) (F0 m 33 ls [])) : ∀ (k : Nat) {v_t : US} {v_t_now : Nat → Int32} {y2 : Int32} {y3 : Int32}, f_X12_findFar_41 N g33 k v_t v_t_now y2 y3 = some res → ∀ {H : Heap} {locs : List Loc} {ls : Array Slot}, HP G A s [uX12 G o_t a_t v_t, uA G 63 (a_t 0) v_t_now] H locs → lv_has ls 6 [(0, .ref o_t), (2, .int y2), (3, .int y3)] → W p l e (rmm 6) s m args below meth c H locs 0 0 (QV below G A args s  [uX12 G o_t a_t res, uA G 63 (a_t 0) v_t_now]) (F0 m 41 ls []) := by
  intro k
  induction k with
  | zero => intros; contradiction
  | succ k ih =>
    intro v_t v_t_now y2 y3 hf H locs ls h hl
    exact w_X12_findFar_41 (N := N) C hg33 ih hf h hl
set_option maxRecDepth 100000 in
set_option maxHeartbeats 4000000 in
theorem w_X12_findFar_33 {p : Program} {l : Launch} {e : Env} {s : State} {m : MethodId} {args : Array Value} {below : List Frame} {meth : Method} {c : Code} {G : GG} {A : Nat → Prop} {o_t : Nat} {a_t : Nat → Nat} {N : Nat} {g33 : US → (Nat → Int32) → Int32 → Option (US)} {v_t : US} {v_t_now : Nat → Int32} {y2 : Int32} {res : US} (C : MC RX12 cX12_findFar 6 none G A p s m args meth c) (hg33 : ∀ {v_t : US} {v_t_now : Nat → Int32} {y2 : Int32}, g33 v_t v_t_now y2 = some res → ∀ {H : Heap} {locs : List Loc} {ls : Array Slot}, HP G A s [uX12 G o_t a_t v_t, uA G 63 (a_t 0) v_t_now] H locs → lv_has ls 6 [(0, .ref o_t), (2, .int y2)] → W p l e (rmm 6) s m args below meth c H locs 0 0 (QV below G A args s  [uX12 G o_t a_t res, uA G 63 (a_t 0) v_t_now]) (F0 m 33 ls [])) (hf : b_X12_findFar_33 N g33 v_t v_t_now y2 = some res) {H : Heap} {locs : List Loc} {ls : Array Slot} (h : HP G A s [uX12 G o_t a_t v_t, uA G 63 (a_t 0) v_t_now] H locs) (hl : lv_has ls 6 [(0, .ref o_t), (2, .int y2)]) : W p l e (rmm 6) s m args below meth c H locs 0 0 (QV below G A args s  [uX12 G o_t a_t res, uA G 63 (a_t 0) v_t_now]) (F0 m 33 ls []) := by
  unfold b_X12_findFar_33 at hf
  refine lv_iload_n C.hx C.hb dX12_findFar_33 rfl (lv_at hl 1 rfl) ?_
  refine lv_if_eq (tgt := 113) C.hx C.hb dX12_findFar_34 (by decide) (fun zc1 => ?_) (fun zc1 => ?_)
  · replace hf := it_t zc1 hf
    obtain rfl := Option.some.inj hf
    exact g_ret_v C h rfl dX12_findFar_113
  · replace hf := it_f zc1 hf
    refine lv_iconst (v := 0) C.hx C.hb dX12_findFar_37 (by decide) ?_
    refine lv_istore_n (lv' := [(2, .int 0), (0, .ref o_t)]) C.hx C.hb dX12_findFar_38 rfl hl (by decide) rfl (fun ls hl => ?_)
    refine lv_iconst (v := 0) C.hx C.hb dX12_findFar_39 (by decide) ?_
    refine lv_istore_n (lv' := [(3, .int 0), (2, .int 0), (0, .ref o_t)]) C.hx C.hb dX12_findFar_40 rfl hl (by decide) rfl (fun ls hl => ?_)
    exact l_X12_findFar_41 C hg33 N hf h (lv_sub hl [2, 1, 0] rfl)
set_option maxRecDepth 100000 in
set_option maxHeartbeats 4000000 in
theorem l_X12_findFar_33 {p : Program} {l : Launch} {e : Env} {s : State} {m : MethodId} {args : Array Value} {below : List Frame} {meth : Method} {c : Code} {G : GG} {A : Nat → Prop} {o_t : Nat} {a_t : Nat → Nat} {N : Nat}  {res : US} (C : MC RX12 cX12_findFar 6 none G A p s m args meth c)  : ∀ (k : Nat) {v_t : US} {v_t_now : Nat → Int32} {y2 : Int32}, f_X12_findFar_33 N k v_t v_t_now y2 = some res → ∀ {H : Heap} {locs : List Loc} {ls : Array Slot}, HP G A s [uX12 G o_t a_t v_t, uA G 63 (a_t 0) v_t_now] H locs → lv_has ls 6 [(0, .ref o_t), (2, .int y2)] → W p l e (rmm 6) s m args below meth c H locs 0 0 (QV below G A args s  [uX12 G o_t a_t res, uA G 63 (a_t 0) v_t_now]) (F0 m 33 ls []) := by
  intro k
  induction k with
  | zero => intros; contradiction
  | succ k ih =>
    intro v_t v_t_now y2 hf H locs ls h hl
    exact w_X12_findFar_33 (N := N) C ih hf h hl
set_option maxRecDepth 100000 in
set_option maxHeartbeats 4000000 in
theorem w_X12_findFar_2 {p : Program} {l : Launch} {e : Env} {s : State} {m : MethodId} {args : Array Value} {below : List Frame} {meth : Method} {c : Code} {G : GG} {A : Nat → Prop} {o_t : Nat} {a_t : Nat → Nat} {N : Nat} {g2 : US → (Nat → Int32) → Int32 → Int32 → Option (US)} {v_t : US} {v_t_now : Nat → Int32} {y1 : Int32} {y2 : Int32} {res : US} (C : MC RX12 cX12_findFar 6 none G A p s m args meth c) (hg2 : ∀ {v_t : US} {v_t_now : Nat → Int32} {y1 : Int32} {y2 : Int32}, g2 v_t v_t_now y1 y2 = some res → ∀ {H : Heap} {locs : List Loc} {ls : Array Slot}, HP G A s [uX12 G o_t a_t v_t, uA G 63 (a_t 0) v_t_now] H locs → lv_has ls 6 [(0, .ref o_t), (1, .int y1), (2, .int y2)] → W p l e (rmm 6) s m args below meth c H locs 0 0 (QV below G A args s  [uX12 G o_t a_t res, uA G 63 (a_t 0) v_t_now]) (F0 m 2 ls [])) (hf : b_X12_findFar_2 N g2 v_t v_t_now y1 y2 = some res) {H : Heap} {locs : List Loc} {ls : Array Slot} (h : HP G A s [uX12 G o_t a_t v_t, uA G 63 (a_t 0) v_t_now] H locs) (hl : lv_has ls 6 [(0, .ref o_t), (1, .int y1), (2, .int y2)]) : W p l e (rmm 6) s m args below meth c H locs 0 0 (QV below G A args s  [uX12 G o_t a_t res, uA G 63 (a_t 0) v_t_now]) (F0 m 2 ls []) := by
  unfold b_X12_findFar_2 at hf
  refine lv_iload_n C.hx C.hb dX12_findFar_2 rfl (lv_at hl 2 rfl) ?_
  refine lv_bipush (v := 32) C.hx C.hb dX12_findFar_3 (by decide) ?_
  refine lv_icmp_ge (tgt := 31) C.hx C.hb dX12_findFar_5 (by decide) (fun zc1 => ?_) (fun zc1 => ?_)
  · replace hf := it_t zc1 hf
    refine lv_iconst (v := 1) C.hx C.hb dX12_findFar_31 (by decide) ?_
    refine lv_istore_n (lv' := [(2, .int 1), (0, .ref o_t), (1, .int y1)]) C.hx C.hb dX12_findFar_32 rfl hl (by decide) rfl (fun ls hl => ?_)
    exact l_X12_findFar_33 C N hf h (lv_sub hl [1, 0] rfl)
  · replace hf := it_f zc1 hf
    refine lv_aload_n C.hx C.hb dX12_findFar_8 rfl (lv_at hl 0 rfl) ?_
    refine g_get C h fl_X12_36 0 0 rfl rfl (v := .ref (a_t 15)) rfl dX12_findFar_9 ?_
    refine lv_iload_n C.hx C.hb dX12_findFar_12 rfl (lv_at hl 2 rfl) ?_
    refine lv_iload_n C.hx C.hb dX12_findFar_13 rfl (lv_at hl 2 rfl) ?_
    refine lv_iload_n C.hx C.hb dX12_findFar_14 rfl (lv_at hl 1 rfl) ?_
    refine lv_icmp_ne (tgt := 22) C.hx C.hb dX12_findFar_15 (by decide) (fun zc2 => ?_) (fun zc2 => ?_)
    · replace hf := it_f zc2 hf
      refine lv_ldc C.hx C.hb C.hown (C.hts _ cw_X12_145) dX12_findFar_22 ?_
      obtain ⟨zi3, hf⟩ := ck_some hf
      refine g_iast C h 0 7 rfl rfl (f := v_t.2.2 15) zi3 dX12_findFar_24 (u' := uX12 G o_t a_t (upa v_t 15 y2.toNatClampNeg 100000)) (us' := [uX12 G o_t a_t (upa v_t 15 y2.toNatClampNeg 100000), uA G 63 (a_t 0) v_t_now]) rfl rfl (fun H locs h => ?_)
      refine lv_iinc (v := y2 + 1) (lv' := [(2, .int (y2 + 1)), (0, .ref o_t), (1, .int y1)]) C.hx C.hb dX12_findFar_25 hl (k := 2) rfl rfl (by decide) rfl (fun ls hl => ?_)
      refine lv_goto (tgt := 2) C.hx C.hb dX12_findFar_28 (by decide) ?_
      exact hg2 hf h (lv_sub hl [1, 2, 0] rfl)
    · replace hf := it_t zc2 hf
      refine lv_iconst (v := 0) C.hx C.hb dX12_findFar_18 (by decide) ?_
      refine lv_goto (tgt := 24) C.hx C.hb dX12_findFar_19 (by decide) ?_
      obtain ⟨zi4, hf⟩ := ck_some hf
      refine g_iast C h 0 7 rfl rfl (f := v_t.2.2 15) zi4 dX12_findFar_24 (u' := uX12 G o_t a_t (upa v_t 15 y2.toNatClampNeg 0)) (us' := [uX12 G o_t a_t (upa v_t 15 y2.toNatClampNeg 0), uA G 63 (a_t 0) v_t_now]) rfl rfl (fun H locs h => ?_)
      refine lv_iinc (v := y2 + 1) (lv' := [(2, .int (y2 + 1)), (0, .ref o_t), (1, .int y1)]) C.hx C.hb dX12_findFar_25 hl (k := 2) rfl rfl (by decide) rfl (fun ls hl => ?_)
      refine lv_goto (tgt := 2) C.hx C.hb dX12_findFar_28 (by decide) ?_
      exact hg2 hf h (lv_sub hl [1, 2, 0] rfl)
set_option maxRecDepth 100000 in
set_option maxHeartbeats 4000000 in
theorem l_X12_findFar_2 {p : Program} {l : Launch} {e : Env} {s : State} {m : MethodId} {args : Array Value} {below : List Frame} {meth : Method} {c : Code} {G : GG} {A : Nat → Prop} {o_t : Nat} {a_t : Nat → Nat} {N : Nat}  {res : US} (C : MC RX12 cX12_findFar 6 none G A p s m args meth c)  : ∀ (k : Nat) {v_t : US} {v_t_now : Nat → Int32} {y1 : Int32} {y2 : Int32}, f_X12_findFar_2 N k v_t v_t_now y1 y2 = some res → ∀ {H : Heap} {locs : List Loc} {ls : Array Slot}, HP G A s [uX12 G o_t a_t v_t, uA G 63 (a_t 0) v_t_now] H locs → lv_has ls 6 [(0, .ref o_t), (1, .int y1), (2, .int y2)] → W p l e (rmm 6) s m args below meth c H locs 0 0 (QV below G A args s  [uX12 G o_t a_t res, uA G 63 (a_t 0) v_t_now]) (F0 m 2 ls []) := by
  intro k
  induction k with
  | zero => intros; contradiction
  | succ k ih =>
    intro v_t v_t_now y1 y2 hf H locs ls h hl
    exact w_X12_findFar_2 (N := N) C ih hf h hl
set_option maxRecDepth 100000 in
set_option maxHeartbeats 4000000 in
theorem c_X12_findFar (l : Launch) (G : GG) (o_t : Nat) (a_t : Nat → Nat) (N : Nat) {v_t : US} {v_t_now : Nat → Int32} {x1 : Int32} {res : US} (hf : f_X12_findFar N v_t v_t_now x1 = some res) : MV l yX12_findFar cX12_findFar 6 none 6 [.ref o_t, .int x1] G [uX12 G o_t a_t v_t, uA G 63 (a_t 0) v_t_now]  [uX12 G o_t a_t res, uA G 63 (a_t 0) v_t_now] := by
  unfold f_X12_findFar at hf
  refine MV.intro (by decide) rfl (Nat.le_of_ble_eq_true rfl) (fun p e s m args below meth c A ls C h hl => ?_)
  have C : MC RX12 cX12_findFar 6 none G A p s m args meth c := C
  have hl : lv_has ls 6 [(0, .ref o_t), (1, .int x1)] := hl
  refine lv_iconst (v := 0) C.hx C.hb dX12_findFar_0 (by decide) ?_
  refine lv_istore_n (lv' := [(2, .int 0), (0, .ref o_t), (1, .int x1)]) C.hx C.hb dX12_findFar_1 rfl hl (by decide) rfl (fun ls hl => ?_)
  exact l_X12_findFar_2 C N hf h (lv_sub hl [1, 2, 0] rfl)

def f_X12_isSet (v_t : US) (v_t_now : Nat → Int32) (x1 : Int32) : Option (Bool) :=
  (f_X12_all v_t v_t_now).bind fun zr1 => (f_X12_in x1.toInt64 0 zr1.toInt64).bind fun zr4 => some (zr4)
set_option maxRecDepth 100000 in
set_option maxHeartbeats 4000000 in
theorem c_X12_isSet (l : Launch) (G : GG) (o_t : Nat) (a_t : Nat → Nat) {v_t : US} {v_t_now : Nat → Int32} {x1 : Int32} {res : Bool} (hf : f_X12_isSet v_t v_t_now x1 = some res) : MI l yX12_isSet cX12_isSet 2 (some .boolean) 3 [.ref o_t, .int x1] G [uX12 G o_t a_t v_t, uA G 63 (a_t 0) v_t_now] (b2i res) [uX12 G o_t a_t v_t, uA G 63 (a_t 0) v_t_now] := by
  unfold f_X12_isSet at hf
  refine MI.intro (by decide) rfl (Nat.le_of_ble_eq_true rfl) (fun p e s m args below meth c A ls C h hl => ?_)
  have C : MC RX12 cX12_isSet 2 (some .boolean) G A p s m args meth c := C
  have hl : lv_has ls 2 [(0, .ref o_t), (1, .int x1)] := hl
  refine lv_iload_n C.hx C.hb dX12_isSet_0 rfl (lv_at hl 1 rfl) ?_
  refine lv_i2l C.hx C.hb dX12_isSet_1 rfl ?_
  refine lv_lconst (v := 0) C.hx C.hb dX12_isSet_2 (by decide) ?_
  refine lv_aload_n C.hx C.hb dX12_isSet_3 rfl (lv_at hl 0 rfl) ?_
  obtain ⟨zr1, zq2, hf⟩ := bd_some hf
  have zm3 := c_X12_all l G o_t a_t (hf := zq2)
  refine g_goI C h zm3.1 (is := [0, 1]) rfl rfl (g_runV C h (is := [0, 1]) rfl rfl (As := []) (rest := [.long 0, .long x1.toInt64]) (zm3.2 _) vf_X12_155 0 0 rfl rfl hl.1 rfl rfl (Nat.le_of_ble_eq_true rfl) dX12_isSet_4 ⟨Nat.le_of_ble_eq_true rfl, Nat.le_of_ble_eq_true rfl⟩ ⟨Nat.le_refl _, Nat.le_refl _⟩) (us2 := [uX12 G o_t a_t v_t, uA G 63 (a_t 0) v_t_now]) rfl (fun H locs h => ?_)
  refine lv_i2l C.hx C.hb dX12_isSet_7 rfl ?_
  obtain ⟨zr4, zq5, hf⟩ := bd_some hf
  have zm6 := c_X12_in l G  (hf := zq5)
  refine g_goI C h zm6.1 (is := []) rfl rfl (g_runS C h (is := []) rfl rfl (As := [.long x1.toInt64, .long 0, .long zr1.toInt64]) (rest := []) (zm6.2 _) sf_X12_52 hl.1 rfl rfl (Nat.le_of_ble_eq_true rfl) dX12_isSet_8 ⟨Nat.le_of_ble_eq_true rfl, Nat.le_of_ble_eq_true rfl⟩ ⟨Nat.le_refl _, Nat.le_refl _⟩) (us2 := [uX12 G o_t a_t v_t, uA G 63 (a_t 0) v_t_now]) rfl (fun H locs h => ?_)
  obtain rfl := Option.some.inj hf
  exact g_ret_z (b := _) C h rfl rfl rfl dX12_isSet_11

def b_X12_code_13 (N : Nat)  (v_t : US) (v_t_now : Nat → Int32)  : Option (Int32 × US) :=
  (f_X12_bad v_t (-10)).bind fun zr1 => some (zr1.1, zr1.2)
def b_X12_code_86 (N : Nat) (g77 : US → (Nat → Int32) → Int32 → Int32 → Int32 → Int32 → Option (Int32 × US)) (g86 : US → (Nat → Int32) → Int32 → Int32 → Int32 → Int32 → Option (Int32 × US)) (v_t : US) (v_t_now : Nat → Int32) (y2 : Int32) (y3 : Int32) (y5 : Int32) (y6 : Int32) : Option (Int32 × US) :=
  (f_X12_doErrand N v_t v_t_now y5 y3).bind fun zr1 => if zr1.1 < 0 ∨ 32 ≤ zr1.1.toNatClampNeg then none else (if y3 < 0 ∨ 32 ≤ y3.toNatClampNeg then none else (if ((zr1.2.2.2 15) zr1.1.toNatClampNeg) = (((zr1.2.2.2 15) y3.toNatClampNeg) - 1) then ((f_X12_doErrand N zr1.2 v_t_now y5 y3).bind fun zr7 => g77 zr7.2 v_t_now y2 zr7.1 y5 (y6 + 1)) else (g86 zr1.2 v_t_now y2 y3 (y5 + 1) y6)))
def f_X12_code_86 (N : Nat) (g77 : US → (Nat → Int32) → Int32 → Int32 → Int32 → Int32 → Option (Int32 × US)) : Nat → US → (Nat → Int32) → Int32 → Int32 → Int32 → Int32 → Option (Int32 × US)
  | 0 => fun _ _ _ _ _ _ => none
  | k + 1 => fun q0 q1 q2 q3 q4 q5 => b_X12_code_86 N g77 (f_X12_code_86 N g77 k) q0 q1 q2 q3 q4 q5
def b_X12_code_77 (N : Nat) (g77 : US → (Nat → Int32) → Int32 → Int32 → Int32 → Int32 → Option (Int32 × US)) (v_t : US) (v_t_now : Nat → Int32) (y2 : Int32) (y3 : Int32) (y5 : Int32) (y6 : Int32) : Option (Int32 × US) :=
  if y2 < y6 then (some (y5, v_t)) else (f_X12_code_86 N g77 N v_t v_t_now y2 y3 0 y6)
def f_X12_code_77 (N : Nat)  : Nat → US → (Nat → Int32) → Int32 → Int32 → Int32 → Int32 → Option (Int32 × US)
  | 0 => fun _ _ _ _ _ _ => none
  | k + 1 => fun q0 q1 q2 q3 q4 q5 => b_X12_code_77 N  (f_X12_code_77 N  k) q0 q1 q2 q3 q4 q5
def f_X12_code (N : Nat) (v_t : US) (v_t_now : Nat → Int32) (x1 : Int32) (x2 : Int32) : Option (Int32 × US) :=
  (f_X12_isSet v_t v_t_now x1).bind fun zr1 => if (b2i zr1) = 0 then (b_X12_code_13 N v_t v_t_now) else (if (-1) ≤ x2 then ((f_X12_takeNow N v_t v_t_now).bind fun zr6 => (f_X12_findFar N zr6 v_t_now x1).bind fun zr9 => if (27 : Int32) < 0 ∨ 63 ≤ (27 : Int32).toNatClampNeg then none else (if (v_t_now (27 : Int32).toNatClampNeg) < 0 ∨ 32 ≤ (v_t_now (27 : Int32).toNatClampNeg).toNatClampNeg then none else (if ((zr9.2.2 15) (v_t_now (27 : Int32).toNatClampNeg).toNatClampNeg) < 100000 then (if x2 = (-1) then (some ((zr9.2.2 15) (v_t_now (27 : Int32).toNatClampNeg).toNatClampNeg, zr9)) else (if x2 < ((zr9.2.2 15) (v_t_now (27 : Int32).toNatClampNeg).toNatClampNeg) then (f_X12_code_77 N N zr9 v_t_now x2 (v_t_now (27 : Int32).toNatClampNeg) 0 0) else (some ((-5), zr9)))) else (some ((-1), zr9))))) else (b_X12_code_13 N v_t v_t_now))
set_option maxRecDepth 100000 in
set_option maxHeartbeats 4000000 in
theorem w_X12_code_13 {p : Program} {l : Launch} {e : Env} {s : State} {m : MethodId} {args : Array Value} {below : List Frame} {meth : Method} {c : Code} {G : GG} {A : Nat → Prop} {o_t : Nat} {a_t : Nat → Nat} {N : Nat}  {v_t : US} {v_t_now : Nat → Int32}  {res : Int32 × US} (C : MC RX12 cX12_code 7 (some .int) G A p s m args meth c)  (hf : b_X12_code_13 N v_t v_t_now = some res) {H : Heap} {locs : List Loc} {ls : Array Slot} (h : HP G A s [uX12 G o_t a_t v_t, uA G 63 (a_t 0) v_t_now] H locs) (hl : lv_has ls 7 [(0, .ref o_t)]) : W p l e (rmm 7) s m args below meth c H locs 0 0 (QI below G A args s res.1 [uX12 G o_t a_t res.2, uA G 63 (a_t 0) v_t_now]) (F0 m 13 ls []) := by
  unfold b_X12_code_13 at hf
  refine lv_aload_n C.hx C.hb dX12_code_13 rfl (lv_at hl 0 rfl) ?_
  refine lv_bipush (v := (-10)) C.hx C.hb dX12_code_14 (by decide) ?_
  obtain ⟨zr1, zq2, hf⟩ := bd_some hf
  have zm3 := c_X12_bad l G o_t a_t (hf := zq2)
  refine g_goI C h zm3.1 (is := [0]) rfl rfl (g_runV C h (is := [0]) rfl rfl (As := [.int (-10)]) (rest := []) (zm3.2 _) vf_X12_60 0 0 rfl rfl hl.1 rfl rfl (Nat.le_of_ble_eq_true rfl) dX12_code_16 ⟨Nat.le_of_ble_eq_true rfl, Nat.le_of_ble_eq_true rfl⟩ ⟨Nat.le_refl _, Nat.le_refl _⟩) (us2 := [uX12 G o_t a_t zr1.2, uA G 63 (a_t 0) v_t_now]) rfl (fun H locs h => ?_)
  obtain rfl := Option.some.inj hf
  exact g_ret_i C h rfl rfl dX12_code_19
set_option maxRecDepth 100000 in
set_option maxHeartbeats 4000000 in
theorem w_X12_code_86 {p : Program} {l : Launch} {e : Env} {s : State} {m : MethodId} {args : Array Value} {below : List Frame} {meth : Method} {c : Code} {G : GG} {A : Nat → Prop} {o_t : Nat} {a_t : Nat → Nat} {N : Nat} {g77 : US → (Nat → Int32) → Int32 → Int32 → Int32 → Int32 → Option (Int32 × US)} {g86 : US → (Nat → Int32) → Int32 → Int32 → Int32 → Int32 → Option (Int32 × US)} {v_t : US} {v_t_now : Nat → Int32} {y2 : Int32} {y3 : Int32} {y5 : Int32} {y6 : Int32} {res : Int32 × US} (C : MC RX12 cX12_code 7 (some .int) G A p s m args meth c) (hg77 : ∀ {v_t : US} {v_t_now : Nat → Int32} {y2 : Int32} {y3 : Int32} {y5 : Int32} {y6 : Int32}, g77 v_t v_t_now y2 y3 y5 y6 = some res → ∀ {H : Heap} {locs : List Loc} {ls : Array Slot}, HP G A s [uX12 G o_t a_t v_t, uA G 63 (a_t 0) v_t_now] H locs → lv_has ls 7 [(0, .ref o_t), (2, .int y2), (3, .int y3), (5, .int y5), (6, .int y6)] → W p l e (rmm 7) s m args below meth c H locs 0 0 (QI below G A args s res.1 [uX12 G o_t a_t res.2, uA G 63 (a_t 0) v_t_now]) (F0 m 77 ls [])) (hg86 : ∀ {v_t : US} {v_t_now : Nat → Int32} {y2 : Int32} {y3 : Int32} {y5 : Int32} {y6 : Int32}, g86 v_t v_t_now y2 y3 y5 y6 = some res → ∀ {H : Heap} {locs : List Loc} {ls : Array Slot}, HP G A s [uX12 G o_t a_t v_t, uA G 63 (a_t 0) v_t_now] H locs → lv_has ls 7 [(0, .ref o_t), (2, .int y2), (3, .int y3), (5, .int y5), (6, .int y6)] → W p l e (rmm 7) s m args below meth c H locs 0 0 (QI below G A args s res.1 [uX12 G o_t a_t res.2, uA G 63 (a_t 0) v_t_now]) (F0 m 86 ls [])) (hf : b_X12_code_86 N g77 g86 v_t v_t_now y2 y3 y5 y6 = some res) {H : Heap} {locs : List Loc} {ls : Array Slot} (h : HP G A s [uX12 G o_t a_t v_t, uA G 63 (a_t 0) v_t_now] H locs) (hl : lv_has ls 7 [(0, .ref o_t), (2, .int y2), (3, .int y3), (5, .int y5), (6, .int y6)]) : W p l e (rmm 7) s m args below meth c H locs 0 0 (QI below G A args s res.1 [uX12 G o_t a_t res.2, uA G 63 (a_t 0) v_t_now]) (F0 m 86 ls []) := by
  unfold b_X12_code_86 at hf
  refine lv_aload_n C.hx C.hb dX12_code_86 rfl (lv_at hl 0 rfl) ?_
  refine g_get C h fl_X12_36 0 0 rfl rfl (v := .ref (a_t 15)) rfl dX12_code_87 ?_
  refine lv_aload_n C.hx C.hb dX12_code_90 rfl (lv_at hl 0 rfl) ?_
  refine lv_iload C.hx C.hb dX12_code_91 (lv_at hl 3 rfl) ?_
  refine lv_iload_n C.hx C.hb dX12_code_93 rfl (lv_at hl 2 rfl) ?_
  obtain ⟨zr1, zq2, hf⟩ := bd_some hf
  have zm3 := c_X12_doErrand l G o_t a_t N (hf := zq2)
  refine g_goI C h zm3.1 (is := [0, 1]) rfl rfl (g_runV C h (is := [0, 1]) rfl rfl (As := [.int y5, .int y3]) (rest := [.ref (a_t 15)]) (zm3.2 _) vf_X12_139 0 0 rfl rfl hl.1 rfl rfl (Nat.le_of_ble_eq_true rfl) dX12_code_94 ⟨Nat.le_of_ble_eq_true rfl, Nat.le_of_ble_eq_true rfl⟩ ⟨Nat.le_refl _, Nat.le_refl _⟩) (us2 := [uX12 G o_t a_t zr1.2, uA G 63 (a_t 0) v_t_now]) rfl (fun H locs h => ?_)
  obtain ⟨zi4, hf⟩ := ck_some hf
  refine g_iald C h 0 7 rfl rfl (f := zr1.2.2.2 15) zi4 dX12_code_97 ?_
  refine lv_aload_n C.hx C.hb dX12_code_98 rfl (lv_at hl 0 rfl) ?_
  refine g_get C h fl_X12_36 0 0 rfl rfl (v := .ref (a_t 15)) rfl dX12_code_99 ?_
  refine lv_iload_n C.hx C.hb dX12_code_102 rfl (lv_at hl 2 rfl) ?_
  obtain ⟨zi5, hf⟩ := ck_some hf
  refine g_iald C h 0 7 rfl rfl (f := zr1.2.2.2 15) zi5 dX12_code_103 ?_
  refine lv_iconst (v := 1) C.hx C.hb dX12_code_104 (by decide) ?_
  refine lv_isub C.hx C.hb dX12_code_105 ?_
  refine lv_icmp_eq (tgt := 115) C.hx C.hb dX12_code_106 (by decide) (fun zc6 => ?_) (fun zc6 => ?_)
  · replace hf := it_t zc6 hf
    refine lv_aload_n C.hx C.hb dX12_code_115 rfl (lv_at hl 0 rfl) ?_
    refine lv_iload C.hx C.hb dX12_code_116 (lv_at hl 3 rfl) ?_
    refine lv_iload_n C.hx C.hb dX12_code_118 rfl (lv_at hl 2 rfl) ?_
    obtain ⟨zr7, zq8, hf⟩ := bd_some hf
    have zm9 := c_X12_doErrand l G o_t a_t N (hf := zq8)
    refine g_goI C h zm9.1 (is := [0, 1]) rfl rfl (g_runV C h (is := [0, 1]) rfl rfl (As := [.int y5, .int y3]) (rest := []) (zm9.2 _) vf_X12_139 0 0 rfl rfl hl.1 rfl rfl (Nat.le_of_ble_eq_true rfl) dX12_code_119 ⟨Nat.le_of_ble_eq_true rfl, Nat.le_of_ble_eq_true rfl⟩ ⟨Nat.le_refl _, Nat.le_refl _⟩) (us2 := [uX12 G o_t a_t zr7.2, uA G 63 (a_t 0) v_t_now]) rfl (fun H locs h => ?_)
    refine lv_istore_n (lv' := [(3, .int zr7.1), (0, .ref o_t), (2, .int y2), (5, .int y5), (6, .int y6)]) C.hx C.hb dX12_code_122 rfl hl (by decide) rfl (fun ls hl => ?_)
    refine lv_iinc (v := y6 + 1) (lv' := [(6, .int (y6 + 1)), (3, .int zr7.1), (0, .ref o_t), (2, .int y2), (5, .int y5)]) C.hx C.hb dX12_code_123 hl (k := 4) rfl rfl (by decide) rfl (fun ls hl => ?_)
    refine lv_goto (tgt := 77) C.hx C.hb dX12_code_126 (by decide) ?_
    exact hg77 hf h (lv_sub hl [2, 3, 1, 4, 0] rfl)
  · replace hf := it_f zc6 hf
    refine lv_iinc (v := y5 + 1) (lv' := [(5, .int (y5 + 1)), (0, .ref o_t), (2, .int y2), (3, .int y3), (6, .int y6)]) C.hx C.hb dX12_code_109 hl (k := 3) rfl rfl (by decide) rfl (fun ls hl => ?_)
    refine lv_goto (tgt := 86) C.hx C.hb dX12_code_112 (by decide) ?_
    exact hg86 hf h (lv_sub hl [1, 2, 3, 0, 4] rfl)
set_option maxRecDepth 100000 in
set_option maxHeartbeats 4000000 in
theorem l_X12_code_86 {p : Program} {l : Launch} {e : Env} {s : State} {m : MethodId} {args : Array Value} {below : List Frame} {meth : Method} {c : Code} {G : GG} {A : Nat → Prop} {o_t : Nat} {a_t : Nat → Nat} {N : Nat} {g77 : US → (Nat → Int32) → Int32 → Int32 → Int32 → Int32 → Option (Int32 × US)} {res : Int32 × US} (C : MC RX12 cX12_code 7 (some .int) G A p s m args meth c) (hg77 : ∀ {v_t : US} {v_t_now : Nat → Int32} {y2 : Int32} {y3 : Int32} {y5 : Int32} {y6 : Int32}, g77 v_t v_t_now y2 y3 y5 y6 = some res → ∀ {H : Heap} {locs : List Loc} {ls : Array Slot}, HP G A s [uX12 G o_t a_t v_t, uA G 63 (a_t 0) v_t_now] H locs → lv_has ls 7 [(0, .ref o_t), (2, .int y2), (3, .int y3), (5, .int y5), (6, .int y6)] → W p l e (rmm 7) s m args below meth c H locs 0 0 (QI below G A args s res.1 [uX12 G o_t a_t res.2, uA G 63 (a_t 0) v_t_now]) (F0 m 77 ls [])) : ∀ (k : Nat) {v_t : US} {v_t_now : Nat → Int32} {y2 : Int32} {y3 : Int32} {y5 : Int32} {y6 : Int32}, f_X12_code_86 N g77 k v_t v_t_now y2 y3 y5 y6 = some res → ∀ {H : Heap} {locs : List Loc} {ls : Array Slot}, HP G A s [uX12 G o_t a_t v_t, uA G 63 (a_t 0) v_t_now] H locs → lv_has ls 7 [(0, .ref o_t), (2, .int y2), (3, .int y3), (5, .int y5), (6, .int y6)] → W p l e (rmm 7) s m args below meth c H locs 0 0 (QI below G A args s res.1 [uX12 G o_t a_t res.2, uA G 63 (a_t 0) v_t_now]) (F0 m 86 ls []) := by
  intro k
  induction k with
  | zero => intros; contradiction
  | succ k ih =>
    intro v_t v_t_now y2 y3 y5 y6 hf H locs ls h hl
    exact w_X12_code_86 (N := N) C hg77 ih hf h hl
set_option maxRecDepth 100000 in
set_option maxHeartbeats 4000000 in
theorem w_X12_code_77 {p : Program} {l : Launch} {e : Env} {s : State} {m : MethodId} {args : Array Value} {below : List Frame} {meth : Method} {c : Code} {G : GG} {A : Nat → Prop} {o_t : Nat} {a_t : Nat → Nat} {N : Nat} {g77 : US → (Nat → Int32) → Int32 → Int32 → Int32 → Int32 → Option (Int32 × US)} {v_t : US} {v_t_now : Nat → Int32} {y2 : Int32} {y3 : Int32} {y5 : Int32} {y6 : Int32} {res : Int32 × US} (C : MC RX12 cX12_code 7 (some .int) G A p s m args meth c) (hg77 : ∀ {v_t : US} {v_t_now : Nat → Int32} {y2 : Int32} {y3 : Int32} {y5 : Int32} {y6 : Int32}, g77 v_t v_t_now y2 y3 y5 y6 = some res → ∀ {H : Heap} {locs : List Loc} {ls : Array Slot}, HP G A s [uX12 G o_t a_t v_t, uA G 63 (a_t 0) v_t_now] H locs → lv_has ls 7 [(0, .ref o_t), (2, .int y2), (3, .int y3), (5, .int y5), (6, .int y6)] → W p l e (rmm 7) s m args below meth c H locs 0 0 (QI below G A args s res.1 [uX12 G o_t a_t res.2, uA G 63 (a_t 0) v_t_now]) (F0 m 77 ls [])) (hf : b_X12_code_77 N g77 v_t v_t_now y2 y3 y5 y6 = some res) {H : Heap} {locs : List Loc} {ls : Array Slot} (h : HP G A s [uX12 G o_t a_t v_t, uA G 63 (a_t 0) v_t_now] H locs) (hl : lv_has ls 7 [(0, .ref o_t), (2, .int y2), (3, .int y3), (5, .int y5), (6, .int y6)]) : W p l e (rmm 7) s m args below meth c H locs 0 0 (QI below G A args s res.1 [uX12 G o_t a_t res.2, uA G 63 (a_t 0) v_t_now]) (F0 m 77 ls []) := by
  unfold b_X12_code_77 at hf
  refine lv_iload C.hx C.hb dX12_code_77 (lv_at hl 4 rfl) ?_
  refine lv_iload_n C.hx C.hb dX12_code_79 rfl (lv_at hl 1 rfl) ?_
  refine lv_icmp_gt (tgt := 129) C.hx C.hb dX12_code_80 (by decide) (fun zc1 => ?_) (fun zc1 => ?_)
  · replace hf := it_t zc1 hf
    refine lv_iload C.hx C.hb dX12_code_129 (lv_at hl 3 rfl) ?_
    obtain rfl := Option.some.inj hf
    exact g_ret_i C h rfl rfl dX12_code_131
  · replace hf := it_f zc1 hf
    refine lv_iconst (v := 0) C.hx C.hb dX12_code_83 (by decide) ?_
    refine lv_istore (lv' := [(5, .int 0), (0, .ref o_t), (2, .int y2), (3, .int y3), (6, .int y6)]) C.hx C.hb dX12_code_84 hl (by decide) rfl (fun ls hl => ?_)
    exact l_X12_code_86 C hg77 N hf h (lv_sub hl [1, 2, 3, 0, 4] rfl)
set_option maxRecDepth 100000 in
set_option maxHeartbeats 4000000 in
theorem l_X12_code_77 {p : Program} {l : Launch} {e : Env} {s : State} {m : MethodId} {args : Array Value} {below : List Frame} {meth : Method} {c : Code} {G : GG} {A : Nat → Prop} {o_t : Nat} {a_t : Nat → Nat} {N : Nat}  {res : Int32 × US} (C : MC RX12 cX12_code 7 (some .int) G A p s m args meth c)  : ∀ (k : Nat) {v_t : US} {v_t_now : Nat → Int32} {y2 : Int32} {y3 : Int32} {y5 : Int32} {y6 : Int32}, f_X12_code_77 N k v_t v_t_now y2 y3 y5 y6 = some res → ∀ {H : Heap} {locs : List Loc} {ls : Array Slot}, HP G A s [uX12 G o_t a_t v_t, uA G 63 (a_t 0) v_t_now] H locs → lv_has ls 7 [(0, .ref o_t), (2, .int y2), (3, .int y3), (5, .int y5), (6, .int y6)] → W p l e (rmm 7) s m args below meth c H locs 0 0 (QI below G A args s res.1 [uX12 G o_t a_t res.2, uA G 63 (a_t 0) v_t_now]) (F0 m 77 ls []) := by
  intro k
  induction k with
  | zero => intros; contradiction
  | succ k ih =>
    intro v_t v_t_now y2 y3 y5 y6 hf H locs ls h hl
    exact w_X12_code_77 (N := N) C ih hf h hl
set_option maxRecDepth 100000 in
set_option maxHeartbeats 4000000 in
theorem c_X12_code (l : Launch) (G : GG) (o_t : Nat) (a_t : Nat → Nat) (N : Nat) {v_t : US} {v_t_now : Nat → Int32} {x1 : Int32} {x2 : Int32} {res : Int32 × US} (hf : f_X12_code N v_t v_t_now x1 x2 = some res) : MI l yX12_code cX12_code 7 (some .int) 7 [.ref o_t, .int x1, .int x2] G [uX12 G o_t a_t v_t, uA G 63 (a_t 0) v_t_now] res.1 [uX12 G o_t a_t res.2, uA G 63 (a_t 0) v_t_now] := by
  unfold f_X12_code at hf
  refine MI.intro (by decide) rfl (Nat.le_of_ble_eq_true rfl) (fun p e s m args below meth c A ls C h hl => ?_)
  have C : MC RX12 cX12_code 7 (some .int) G A p s m args meth c := C
  have hl : lv_has ls 7 [(0, .ref o_t), (1, .int x1), (2, .int x2)] := hl
  refine lv_aload_n C.hx C.hb dX12_code_0 rfl (lv_at hl 0 rfl) ?_
  refine lv_iload_n C.hx C.hb dX12_code_1 rfl (lv_at hl 1 rfl) ?_
  obtain ⟨zr1, zq2, hf⟩ := bd_some hf
  have zm3 := c_X12_isSet l G o_t a_t (hf := zq2)
  refine g_goI C h zm3.1 (is := [0, 1]) rfl rfl (g_runV C h (is := [0, 1]) rfl rfl (As := [.int x1]) (rest := []) (zm3.2 _) vf_X12_158 0 0 rfl rfl hl.1 rfl rfl (Nat.le_of_ble_eq_true rfl) dX12_code_2 ⟨Nat.le_of_ble_eq_true rfl, Nat.le_of_ble_eq_true rfl⟩ ⟨Nat.le_refl _, Nat.le_refl _⟩) (us2 := [uX12 G o_t a_t v_t, uA G 63 (a_t 0) v_t_now]) rfl (fun H locs h => ?_)
  refine lv_if_eq (tgt := 13) C.hx C.hb dX12_code_5 (by decide) (fun zc4 => ?_) (fun zc4 => ?_)
  · replace hf := it_t zc4 hf
    exact w_X12_code_13 C  hf h (lv_sub hl [0] rfl)
  · replace hf := it_f zc4 hf
    refine lv_iload_n C.hx C.hb dX12_code_8 rfl (lv_at hl 2 rfl) ?_
    refine lv_iconst (v := (-1)) C.hx C.hb dX12_code_9 (by decide) ?_
    refine lv_icmp_ge (tgt := 20) C.hx C.hb dX12_code_10 (by decide) (fun zc5 => ?_) (fun zc5 => ?_)
    · replace hf := it_t zc5 hf
      refine lv_aload_n C.hx C.hb dX12_code_20 rfl (lv_at hl 0 rfl) ?_
      obtain ⟨zr6, zq7, hf⟩ := bd_some hf
      have zm8 := c_X12_takeNow l G o_t a_t N (hf := zq7)
      refine g_goV C h zm8.1 (is := [0, 1]) rfl rfl (g_runV C h (is := [0, 1]) rfl rfl (As := []) (rest := []) (zm8.2 _) vf_X12_123 0 0 rfl rfl hl.1 rfl rfl (Nat.le_of_ble_eq_true rfl) dX12_code_21 ⟨Nat.le_of_ble_eq_true rfl, Nat.le_of_ble_eq_true rfl⟩ ⟨Nat.le_refl _, Nat.le_refl _⟩) (us2 := [uX12 G o_t a_t zr6, uA G 63 (a_t 0) v_t_now]) rfl (fun H locs h => ?_)
      refine lv_aload_n C.hx C.hb dX12_code_24 rfl (lv_at hl 0 rfl) ?_
      refine lv_iload_n C.hx C.hb dX12_code_25 rfl (lv_at hl 1 rfl) ?_
      obtain ⟨zr9, zq10, hf⟩ := bd_some hf
      have zm11 := c_X12_findFar l G o_t a_t N (hf := zq10)
      refine g_goV C h zm11.1 (is := [0, 1]) rfl rfl (g_runV C h (is := [0, 1]) rfl rfl (As := [.int x1]) (rest := []) (zm11.2 _) vf_X12_161 0 0 rfl rfl hl.1 rfl rfl (Nat.le_of_ble_eq_true rfl) dX12_code_26 ⟨Nat.le_of_ble_eq_true rfl, Nat.le_of_ble_eq_true rfl⟩ ⟨Nat.le_refl _, Nat.le_refl _⟩) (us2 := [uX12 G o_t a_t zr9, uA G 63 (a_t 0) v_t_now]) rfl (fun H locs h => ?_)
      refine lv_aload_n C.hx C.hb dX12_code_29 rfl (lv_at hl 0 rfl) ?_
      refine g_get C h fl_X12_7 0 0 rfl rfl (v := .ref (a_t 0)) rfl dX12_code_30 ?_
      refine lv_bipush (v := 27) C.hx C.hb dX12_code_33 (by decide) ?_
      obtain ⟨zi12, hf⟩ := ck_some hf
      refine g_iald C h 1 0 rfl rfl (f := v_t_now) zi12 dX12_code_35 ?_
      refine lv_istore_n (lv' := [(3, .int (v_t_now (27 : Int32).toNatClampNeg)), (0, .ref o_t), (1, .int x1), (2, .int x2)]) C.hx C.hb dX12_code_36 rfl hl (by decide) rfl (fun ls hl => ?_)
      refine lv_aload_n C.hx C.hb dX12_code_37 rfl (lv_at hl 1 rfl) ?_
      refine g_get C h fl_X12_36 0 0 rfl rfl (v := .ref (a_t 15)) rfl dX12_code_38 ?_
      refine lv_iload_n C.hx C.hb dX12_code_41 rfl (lv_at hl 0 rfl) ?_
      obtain ⟨zi13, hf⟩ := ck_some hf
      refine g_iald C h 0 7 rfl rfl (f := zr9.2.2 15) zi13 dX12_code_42 ?_
      refine lv_istore (lv' := [(4, .int ((zr9.2.2 15) (v_t_now (27 : Int32).toNatClampNeg).toNatClampNeg)), (3, .int (v_t_now (27 : Int32).toNatClampNeg)), (0, .ref o_t), (1, .int x1), (2, .int x2)]) C.hx C.hb dX12_code_43 hl (by decide) rfl (fun ls hl => ?_)
      refine lv_iload C.hx C.hb dX12_code_45 (lv_at hl 0 rfl) ?_
      refine lv_ldc C.hx C.hb C.hown (C.hts _ cw_X12_145) dX12_code_47 ?_
      refine lv_icmp_lt (tgt := 54) C.hx C.hb dX12_code_49 (by decide) (fun zc14 => ?_) (fun zc14 => ?_)
      · replace hf := it_t zc14 hf
        refine lv_iload_n C.hx C.hb dX12_code_54 rfl (lv_at hl 4 rfl) ?_
        refine lv_iconst (v := (-1)) C.hx C.hb dX12_code_55 (by decide) ?_
        refine lv_icmp_ne (tgt := 62) C.hx C.hb dX12_code_56 (by decide) (fun zc15 => ?_) (fun zc15 => ?_)
        · replace hf := it_f zc15 hf
          refine lv_iload_n C.hx C.hb dX12_code_62 rfl (lv_at hl 4 rfl) ?_
          refine lv_iload C.hx C.hb dX12_code_63 (lv_at hl 0 rfl) ?_
          refine lv_icmp_lt (tgt := 71) C.hx C.hb dX12_code_65 (by decide) (fun zc16 => ?_) (fun zc16 => ?_)
          · replace hf := it_t zc16 hf
            refine lv_iconst (v := 0) C.hx C.hb dX12_code_71 (by decide) ?_
            refine lv_istore (lv' := [(5, .int 0), (4, .int ((zr9.2.2 15) (v_t_now (27 : Int32).toNatClampNeg).toNatClampNeg)), (3, .int (v_t_now (27 : Int32).toNatClampNeg)), (0, .ref o_t), (1, .int x1), (2, .int x2)]) C.hx C.hb dX12_code_72 hl (by decide) rfl (fun ls hl => ?_)
            refine lv_iconst (v := 0) C.hx C.hb dX12_code_74 (by decide) ?_
            refine lv_istore (lv' := [(6, .int 0), (5, .int 0), (4, .int ((zr9.2.2 15) (v_t_now (27 : Int32).toNatClampNeg).toNatClampNeg)), (3, .int (v_t_now (27 : Int32).toNatClampNeg)), (0, .ref o_t), (1, .int x1), (2, .int x2)]) C.hx C.hb dX12_code_75 hl (by decide) rfl (fun ls hl => ?_)
            exact l_X12_code_77 C N hf h (lv_sub hl [4, 6, 3, 1, 0] rfl)
          · replace hf := it_f zc16 hf
            refine lv_bipush (v := (-5)) C.hx C.hb dX12_code_68 (by decide) ?_
            obtain rfl := Option.some.inj hf
            exact g_ret_i C h rfl rfl dX12_code_70
        · replace hf := it_t zc15 hf
          refine lv_iload C.hx C.hb dX12_code_59 (lv_at hl 0 rfl) ?_
          obtain rfl := Option.some.inj hf
          exact g_ret_i C h rfl rfl dX12_code_61
      · replace hf := it_f zc14 hf
        refine lv_iconst (v := (-1)) C.hx C.hb dX12_code_52 (by decide) ?_
        obtain rfl := Option.some.inj hf
        exact g_ret_i C h rfl rfl dX12_code_53
    · replace hf := it_f zc5 hf
      exact w_X12_code_13 C  hf h (lv_sub hl [0] rfl)

def f_X12_rules (v_t : US) (v_t_now : Nat → Int32)  : Option (Int32) :=
  if (39 : Int32) < 0 ∨ 63 ≤ (39 : Int32).toNatClampNeg then none else (some (v_t_now (39 : Int32).toNatClampNeg))
set_option maxRecDepth 100000 in
set_option maxHeartbeats 4000000 in
theorem c_X12_rules (l : Launch) (G : GG) (o_t : Nat) (a_t : Nat → Nat) {v_t : US} {v_t_now : Nat → Int32}  {res : Int32} (hf : f_X12_rules v_t v_t_now = some res) : MI l yX12_rules cX12_rules 1 (some .int) 1 [.ref o_t] G [uX12 G o_t a_t v_t, uA G 63 (a_t 0) v_t_now] res [uX12 G o_t a_t v_t, uA G 63 (a_t 0) v_t_now] := by
  unfold f_X12_rules at hf
  refine MI.intro (by decide) rfl (Nat.le_of_ble_eq_true rfl) (fun p e s m args below meth c A ls C h hl => ?_)
  have C : MC RX12 cX12_rules 1 (some .int) G A p s m args meth c := C
  have hl : lv_has ls 1 [(0, .ref o_t)] := hl
  refine lv_aload_n C.hx C.hb dX12_rules_0 rfl (lv_at hl 0 rfl) ?_
  refine g_get C h fl_X12_7 0 0 rfl rfl (v := .ref (a_t 0)) rfl dX12_rules_1 ?_
  refine lv_bipush (v := 39) C.hx C.hb dX12_rules_4 (by decide) ?_
  obtain ⟨zi1, hf⟩ := ck_some hf
  refine g_iald C h 1 0 rfl rfl (f := v_t_now) zi1 dX12_rules_6 ?_
  obtain rfl := Option.some.inj hf
  exact g_ret_i C h rfl rfl dX12_rules_7

def f_X12_counted (N : Nat) (v_t : US) (v_t_now : Nat → Int32) (x1 : Int32) : Option (Int32) :=
  if x1 = 0 then ((f_X12_things v_t v_t_now).bind fun zr2 => some (zr2)) else (if x1 = 1 then ((f_X12_wholeNow N v_t v_t_now).bind fun zr6 => (f_X12_bits N zr6).bind fun zr9 => some (zr9)) else (if x1 = 2 then ((f_X12_errands v_t v_t_now).bind fun zr13 => some (zr13)) else (if x1 = 3 then ((f_X12_rules v_t v_t_now).bind fun zr17 => some (zr17)) else (if x1 = 4 then (if (52 : Int32) < 0 ∨ 63 ≤ (52 : Int32).toNatClampNeg then none else (some (v_t_now (52 : Int32).toNatClampNeg))) else (if x1 = 5 then (some (v_t.1 17)) else (if (26 : Int32) < 0 ∨ 63 ≤ (26 : Int32).toNatClampNeg then none else (some (v_t_now (26 : Int32).toNatClampNeg))))))))
set_option maxRecDepth 100000 in
set_option maxHeartbeats 4000000 in
theorem c_X12_counted (l : Launch) (G : GG) (o_t : Nat) (a_t : Nat → Nat) (N : Nat) {v_t : US} {v_t_now : Nat → Int32} {x1 : Int32} {res : Int32} (hf : f_X12_counted N v_t v_t_now x1 = some res) : MI l yX12_counted cX12_counted 2 (some .int) 3 [.ref o_t, .int x1] G [uX12 G o_t a_t v_t, uA G 63 (a_t 0) v_t_now] res [uX12 G o_t a_t v_t, uA G 63 (a_t 0) v_t_now] := by
  unfold f_X12_counted at hf
  refine MI.intro (by decide) rfl (Nat.le_of_ble_eq_true rfl) (fun p e s m args below meth c A ls C h hl => ?_)
  have C : MC RX12 cX12_counted 2 (some .int) G A p s m args meth c := C
  have hl : lv_has ls 2 [(0, .ref o_t), (1, .int x1)] := hl
  refine lv_iload_n C.hx C.hb dX12_counted_0 rfl (lv_at hl 1 rfl) ?_
  by_cases zc1 : x1 = 0
  · replace hf := it_t zc1 hf
    refine lv_tableIn (tgt := 40) (off := 39) C.hx C.hb dX12_counted_1 (by rw [zc1]; decide) (by rw [zc1]; decide) (by rw [zc1]; rfl) (by decide) ?_
    refine lv_aload_n C.hx C.hb dX12_counted_40 rfl (lv_at hl 0 rfl) ?_
    obtain ⟨zr2, zq3, hf⟩ := bd_some hf
    have zm4 := c_X12_things l G o_t a_t (hf := zq3)
    refine g_goI C h zm4.1 (is := [0, 1]) rfl rfl (g_runV C h (is := [0, 1]) rfl rfl (As := []) (rest := []) (zm4.2 _) vf_X12_48 0 0 rfl rfl hl.1 rfl rfl (Nat.le_of_ble_eq_true rfl) dX12_counted_41 ⟨Nat.le_of_ble_eq_true rfl, Nat.le_of_ble_eq_true rfl⟩ ⟨Nat.le_refl _, Nat.le_refl _⟩) (us2 := [uX12 G o_t a_t v_t, uA G 63 (a_t 0) v_t_now]) rfl (fun H locs h => ?_)
    obtain rfl := Option.some.inj hf
    exact g_ret_i C h rfl rfl dX12_counted_44
  replace hf := it_f zc1 hf
  by_cases zc5 : x1 = 1
  · replace hf := it_t zc5 hf
    refine lv_tableIn (tgt := 45) (off := 44) C.hx C.hb dX12_counted_1 (by rw [zc5]; decide) (by rw [zc5]; decide) (by rw [zc5]; rfl) (by decide) ?_
    refine lv_aload_n C.hx C.hb dX12_counted_45 rfl (lv_at hl 0 rfl) ?_
    obtain ⟨zr6, zq7, hf⟩ := bd_some hf
    have zm8 := c_X12_wholeNow l G o_t a_t N (hf := zq7)
    refine g_goI C h zm8.1 (is := [0, 1]) rfl rfl (g_runV C h (is := [0, 1]) rfl rfl (As := []) (rest := []) (zm8.2 _) vf_X12_86 0 0 rfl rfl hl.1 rfl rfl (Nat.le_of_ble_eq_true rfl) dX12_counted_46 ⟨Nat.le_of_ble_eq_true rfl, Nat.le_of_ble_eq_true rfl⟩ ⟨Nat.le_refl _, Nat.le_refl _⟩) (us2 := [uX12 G o_t a_t v_t, uA G 63 (a_t 0) v_t_now]) rfl (fun H locs h => ?_)
    obtain ⟨zr9, zq10, hf⟩ := bd_some hf
    have zm11 := c_X12_bits l G N (hf := zq10)
    refine g_goI C h zm11.1 (is := []) rfl rfl (g_runS C h (is := []) rfl rfl (As := [.int zr6]) (rest := []) (zm11.2 _) sf_X12_136 hl.1 rfl rfl (Nat.le_of_ble_eq_true rfl) dX12_counted_49 ⟨Nat.le_of_ble_eq_true rfl, Nat.le_of_ble_eq_true rfl⟩ ⟨Nat.le_refl _, Nat.le_refl _⟩) (us2 := [uX12 G o_t a_t v_t, uA G 63 (a_t 0) v_t_now]) rfl (fun H locs h => ?_)
    obtain rfl := Option.some.inj hf
    exact g_ret_i C h rfl rfl dX12_counted_52
  replace hf := it_f zc5 hf
  by_cases zc12 : x1 = 2
  · replace hf := it_t zc12 hf
    refine lv_tableIn (tgt := 53) (off := 52) C.hx C.hb dX12_counted_1 (by rw [zc12]; decide) (by rw [zc12]; decide) (by rw [zc12]; rfl) (by decide) ?_
    refine lv_aload_n C.hx C.hb dX12_counted_53 rfl (lv_at hl 0 rfl) ?_
    obtain ⟨zr13, zq14, hf⟩ := bd_some hf
    have zm15 := c_X12_errands l G o_t a_t (hf := zq14)
    refine g_goI C h zm15.1 (is := [0, 1]) rfl rfl (g_runV C h (is := [0, 1]) rfl rfl (As := []) (rest := []) (zm15.2 _) vf_X12_133 0 0 rfl rfl hl.1 rfl rfl (Nat.le_of_ble_eq_true rfl) dX12_counted_54 ⟨Nat.le_of_ble_eq_true rfl, Nat.le_of_ble_eq_true rfl⟩ ⟨Nat.le_refl _, Nat.le_refl _⟩) (us2 := [uX12 G o_t a_t v_t, uA G 63 (a_t 0) v_t_now]) rfl (fun H locs h => ?_)
    obtain rfl := Option.some.inj hf
    exact g_ret_i C h rfl rfl dX12_counted_57
  replace hf := it_f zc12 hf
  by_cases zc16 : x1 = 3
  · replace hf := it_t zc16 hf
    refine lv_tableIn (tgt := 58) (off := 57) C.hx C.hb dX12_counted_1 (by rw [zc16]; decide) (by rw [zc16]; decide) (by rw [zc16]; rfl) (by decide) ?_
    refine lv_aload_n C.hx C.hb dX12_counted_58 rfl (lv_at hl 0 rfl) ?_
    obtain ⟨zr17, zq18, hf⟩ := bd_some hf
    have zm19 := c_X12_rules l G o_t a_t (hf := zq18)
    refine g_goI C h zm19.1 (is := [0, 1]) rfl rfl (g_runV C h (is := [0, 1]) rfl rfl (As := []) (rest := []) (zm19.2 _) vf_X12_164 0 0 rfl rfl hl.1 rfl rfl (Nat.le_of_ble_eq_true rfl) dX12_counted_59 ⟨Nat.le_of_ble_eq_true rfl, Nat.le_of_ble_eq_true rfl⟩ ⟨Nat.le_refl _, Nat.le_refl _⟩) (us2 := [uX12 G o_t a_t v_t, uA G 63 (a_t 0) v_t_now]) rfl (fun H locs h => ?_)
    obtain rfl := Option.some.inj hf
    exact g_ret_i C h rfl rfl dX12_counted_62
  replace hf := it_f zc16 hf
  by_cases zc20 : x1 = 4
  · replace hf := it_t zc20 hf
    refine lv_tableIn (tgt := 63) (off := 62) C.hx C.hb dX12_counted_1 (by rw [zc20]; decide) (by rw [zc20]; decide) (by rw [zc20]; rfl) (by decide) ?_
    refine lv_aload_n C.hx C.hb dX12_counted_63 rfl (lv_at hl 0 rfl) ?_
    refine g_get C h fl_X12_7 0 0 rfl rfl (v := .ref (a_t 0)) rfl dX12_counted_64 ?_
    refine lv_bipush (v := 52) C.hx C.hb dX12_counted_67 (by decide) ?_
    obtain ⟨zi21, hf⟩ := ck_some hf
    refine g_iald C h 1 0 rfl rfl (f := v_t_now) zi21 dX12_counted_69 ?_
    obtain rfl := Option.some.inj hf
    exact g_ret_i C h rfl rfl dX12_counted_70
  replace hf := it_f zc20 hf
  by_cases zc22 : x1 = 5
  · replace hf := it_t zc22 hf
    refine lv_tableIn (tgt := 71) (off := 70) C.hx C.hb dX12_counted_1 (by rw [zc22]; decide) (by rw [zc22]; decide) (by rw [zc22]; rfl) (by decide) ?_
    refine lv_aload_n C.hx C.hb dX12_counted_71 rfl (lv_at hl 0 rfl) ?_
    refine g_get C h fl_X12_188 0 0 rfl rfl (v := .int (v_t.1 17)) rfl dX12_counted_72 ?_
    obtain rfl := Option.some.inj hf
    exact g_ret_i C h rfl rfl dX12_counted_75
  replace hf := it_f zc22 hf
  refine lv_tableOut (tgt := 76) C.hx C.hb dX12_counted_1 (by have ezc1 := lv_neT (a := 0) zc1 (by decide); have ezc5 := lv_neT (a := 1) zc5 (by decide); have ezc12 := lv_neT (a := 2) zc12 (by decide); have ezc16 := lv_neT (a := 3) zc16 (by decide); have ezc20 := lv_neT (a := 4) zc20 (by decide); have ezc22 := lv_neT (a := 5) zc22 (by decide); omega) (by decide) ?_
  refine lv_aload_n C.hx C.hb dX12_counted_76 rfl (lv_at hl 0 rfl) ?_
  refine g_get C h fl_X12_7 0 0 rfl rfl (v := .ref (a_t 0)) rfl dX12_counted_77 ?_
  refine lv_bipush (v := 26) C.hx C.hb dX12_counted_80 (by decide) ?_
  obtain ⟨zi23, hf⟩ := ck_some hf
  refine g_iald C h 1 0 rfl rfl (f := v_t_now) zi23 dX12_counted_82 ?_
  obtain rfl := Option.some.inj hf
  exact g_ret_i C h rfl rfl dX12_counted_83

def f_X12_count (N : Nat) (v_t : US) (v_t_now : Nat → Int32) (x1 : Int32) : Option (Int32 × US) :=
  (f_X12_in x1.toInt64 0 6).bind fun zr1 => if (b2i zr1) = 0 then ((f_X12_bad v_t (-2)).bind fun zr5 => some (zr5.1, zr5.2)) else ((f_X12_counted N v_t v_t_now x1).bind fun zr8 => some (zr8, v_t))
set_option maxRecDepth 100000 in
set_option maxHeartbeats 4000000 in
theorem c_X12_count (l : Launch) (G : GG) (o_t : Nat) (a_t : Nat → Nat) (N : Nat) {v_t : US} {v_t_now : Nat → Int32} {x1 : Int32} {res : Int32 × US} (hf : f_X12_count N v_t v_t_now x1 = some res) : MI l yX12_count cX12_count 2 (some .int) 4 [.ref o_t, .int x1] G [uX12 G o_t a_t v_t, uA G 63 (a_t 0) v_t_now] res.1 [uX12 G o_t a_t res.2, uA G 63 (a_t 0) v_t_now] := by
  unfold f_X12_count at hf
  refine MI.intro (by decide) rfl (Nat.le_of_ble_eq_true rfl) (fun p e s m args below meth c A ls C h hl => ?_)
  have C : MC RX12 cX12_count 2 (some .int) G A p s m args meth c := C
  have hl : lv_has ls 2 [(0, .ref o_t), (1, .int x1)] := hl
  refine lv_iload_n C.hx C.hb dX12_count_0 rfl (lv_at hl 1 rfl) ?_
  refine lv_i2l C.hx C.hb dX12_count_1 rfl ?_
  refine lv_lconst (v := 0) C.hx C.hb dX12_count_2 (by decide) ?_
  refine lv_ldc2 C.hx C.hb C.hown (C.hts _ cw_X12_254) dX12_count_3 ?_
  obtain ⟨zr1, zq2, hf⟩ := bd_some hf
  have zm3 := c_X12_in l G  (hf := zq2)
  refine g_goI C h zm3.1 (is := []) rfl rfl (g_runS C h (is := []) rfl rfl (As := [.long x1.toInt64, .long 0, .long 6]) (rest := []) (zm3.2 _) sf_X12_52 hl.1 rfl rfl (Nat.le_of_ble_eq_true rfl) dX12_count_6 ⟨Nat.le_of_ble_eq_true rfl, Nat.le_of_ble_eq_true rfl⟩ ⟨Nat.le_refl _, Nat.le_refl _⟩) (us2 := [uX12 G o_t a_t v_t, uA G 63 (a_t 0) v_t_now]) rfl (fun H locs h => ?_)
  refine lv_if_eq (tgt := 20) C.hx C.hb dX12_count_9 (by decide) (fun zc4 => ?_) (fun zc4 => ?_)
  · replace hf := it_t zc4 hf
    refine lv_aload_n C.hx C.hb dX12_count_20 rfl (lv_at hl 0 rfl) ?_
    refine lv_bipush (v := (-2)) C.hx C.hb dX12_count_21 (by decide) ?_
    obtain ⟨zr5, zq6, hf⟩ := bd_some hf
    have zm7 := c_X12_bad l G o_t a_t (hf := zq6)
    refine g_goI C h zm7.1 (is := [0]) rfl rfl (g_runV C h (is := [0]) rfl rfl (As := [.int (-2)]) (rest := []) (zm7.2 _) vf_X12_60 0 0 rfl rfl hl.1 rfl rfl (Nat.le_of_ble_eq_true rfl) dX12_count_23 ⟨Nat.le_of_ble_eq_true rfl, Nat.le_of_ble_eq_true rfl⟩ ⟨Nat.le_refl _, Nat.le_refl _⟩) (us2 := [uX12 G o_t a_t zr5.2, uA G 63 (a_t 0) v_t_now]) rfl (fun H locs h => ?_)
    obtain rfl := Option.some.inj hf
    exact g_ret_i C h rfl rfl dX12_count_26
  · replace hf := it_f zc4 hf
    refine lv_aload_n C.hx C.hb dX12_count_12 rfl (lv_at hl 0 rfl) ?_
    refine lv_iload_n C.hx C.hb dX12_count_13 rfl (lv_at hl 1 rfl) ?_
    obtain ⟨zr8, zq9, hf⟩ := bd_some hf
    have zm10 := c_X12_counted l G o_t a_t N (hf := zq9)
    refine g_goI C h zm10.1 (is := [0, 1]) rfl rfl (g_runV C h (is := [0, 1]) rfl rfl (As := [.int x1]) (rest := []) (zm10.2 _) vf_X12_256 0 0 rfl rfl hl.1 rfl rfl (Nat.le_of_ble_eq_true rfl) dX12_count_14 ⟨Nat.le_of_ble_eq_true rfl, Nat.le_of_ble_eq_true rfl⟩ ⟨Nat.le_refl _, Nat.le_refl _⟩) (us2 := [uX12 G o_t a_t v_t, uA G 63 (a_t 0) v_t_now]) rfl (fun H locs h => ?_)
    refine lv_goto (tgt := 26) C.hx C.hb dX12_count_17 (by decide) ?_
    obtain rfl := Option.some.inj hf
    exact g_ret_i C h rfl rfl dX12_count_26

def b_X12_cuts_137 (N : Nat) (g29 : US → (Nat → Int32) → Int32 → Int32 → Int32 → Int32 → Option (Int32 × US)) (v_t : US) (v_t_now : Nat → Int32) (y1 : Int32) (y2 : Int32) (y3 : Int32) (y4 : Int32) (y5 : Int32) : Option (Int32 × US) :=
  if y5 = 0 then (g29 v_t v_t_now y1 y2 y3 (y4 + 1)) else (g29 v_t v_t_now y1 y4 y3 (y4 + 1))
def b_X12_cuts_82 (N : Nat) (g29 : US → (Nat → Int32) → Int32 → Int32 → Int32 → Int32 → Option (Int32 × US)) (g82 : US → (Nat → Int32) → Int32 → Int32 → Int32 → Int32 → Int32 → Int32 → Option (Int32 × US)) (v_t : US) (v_t_now : Nat → Int32) (y1 : Int32) (y2 : Int32) (y3 : Int32) (y4 : Int32) (y5 : Int32) (y6 : Int32) : Option (Int32 × US) :=
  (f_X12_errands v_t v_t_now).bind fun zr1 => if zr1 ≤ y6 then (b_X12_cuts_137 N g29 v_t v_t_now y1 y2 y3 y4 y5) else (if y5 = 0 then (b_X12_cuts_137 N g29 v_t v_t_now y1 y2 y3 y4 y5) else (if (27 : Int32) < 0 ∨ 63 ≤ (27 : Int32).toNatClampNeg then none else ((f_X12_doErrand N v_t v_t_now y6 (v_t_now (27 : Int32).toNatClampNeg)).bind fun zr7 => if (27 : Int32) < 0 ∨ 63 ≤ (27 : Int32).toNatClampNeg then none else (if ((zr7.1 &&& ((v_t_now (27 : Int32).toNatClampNeg) ^^^ (-1))) &&& y1) = 0 then (g82 zr7.2 v_t_now y1 y2 y3 y4 1 (y6 + 1)) else (g82 zr7.2 v_t_now y1 y2 y3 y4 0 (y6 + 1))))))
def f_X12_cuts_82 (N : Nat) (g29 : US → (Nat → Int32) → Int32 → Int32 → Int32 → Int32 → Option (Int32 × US)) : Nat → US → (Nat → Int32) → Int32 → Int32 → Int32 → Int32 → Int32 → Int32 → Option (Int32 × US)
  | 0 => fun _ _ _ _ _ _ _ _ => none
  | k + 1 => fun q0 q1 q2 q3 q4 q5 q6 q7 => b_X12_cuts_82 N g29 (f_X12_cuts_82 N g29 k) q0 q1 q2 q3 q4 q5 q6 q7
def b_X12_cuts_67 (N : Nat) (g29 : US → (Nat → Int32) → Int32 → Int32 → Int32 → Int32 → Option (Int32 × US)) (v_t : US) (v_t_now : Nat → Int32) (y1 : Int32) (y2 : Int32) (y3 : Int32) (y4 : Int32) (s0 : Int32) : Option (Int32 × US) :=
  f_X12_cuts_82 N g29 N (upi v_t 7 (y3 &&& (y4 ^^^ (-1)))) v_t_now y1 y2 y3 y4 s0 0
def b_X12_cuts_62 (N : Nat) (g29 : US → (Nat → Int32) → Int32 → Int32 → Int32 → Int32 → Option (Int32 × US)) (v_t : US) (v_t_now : Nat → Int32) (y1 : Int32) (y2 : Int32) (y3 : Int32) (y4 : Int32) : Option (Int32 × US) :=
  b_X12_cuts_67 N g29 v_t v_t_now y1 y2 y3 y4 1
def b_X12_cuts_66 (N : Nat) (g29 : US → (Nat → Int32) → Int32 → Int32 → Int32 → Int32 → Option (Int32 × US)) (v_t : US) (v_t_now : Nat → Int32) (y1 : Int32) (y2 : Int32) (y3 : Int32) (y4 : Int32) : Option (Int32 × US) :=
  b_X12_cuts_67 N g29 v_t v_t_now y1 y2 y3 y4 0
def b_X12_cuts_29 (N : Nat) (g29 : US → (Nat → Int32) → Int32 → Int32 → Int32 → Int32 → Option (Int32 × US)) (v_t : US) (v_t_now : Nat → Int32) (y1 : Int32) (y2 : Int32) (y3 : Int32) (y4 : Int32) : Option (Int32 × US) :=
  if 32 ≤ y4 then (some (y2, v_t)) else (if (y4 &&& (y3 ^^^ (-1))) = 0 then (if y2 = (-1) then (b_X12_cuts_62 N g29 v_t v_t_now y1 y2 y3 y4) else ((f_X12_bits N y4).bind fun zr4 => (f_X12_bits N y2).bind fun zr7 => if zr7 ≤ zr4 then (b_X12_cuts_66 N g29 v_t v_t_now y1 y2 y3 y4) else (b_X12_cuts_62 N g29 v_t v_t_now y1 y2 y3 y4))) else (b_X12_cuts_66 N g29 v_t v_t_now y1 y2 y3 y4))
def f_X12_cuts_29 (N : Nat)  : Nat → US → (Nat → Int32) → Int32 → Int32 → Int32 → Int32 → Option (Int32 × US)
  | 0 => fun _ _ _ _ _ _ => none
  | k + 1 => fun q0 q1 q2 q3 q4 q5 => b_X12_cuts_29 N  (f_X12_cuts_29 N  k) q0 q1 q2 q3 q4 q5
def f_X12_cuts (N : Nat) (v_t : US) (v_t_now : Nat → Int32) (x1 : Int32) : Option (Int32 × US) :=
  (f_X12_isSet v_t v_t_now x1).bind fun zr1 => if (b2i zr1) = 0 then ((f_X12_bad v_t (-10)).bind fun zr8 => some (zr8.1, zr8.2)) else ((f_X12_takeNow N v_t v_t_now).bind fun zr5 => f_X12_cuts_29 N N zr5 v_t_now x1 (-1) (zr5.1 7) 0)
set_option maxRecDepth 100000 in
set_option maxHeartbeats 4000000 in
theorem w_X12_cuts_137 {p : Program} {l : Launch} {e : Env} {s : State} {m : MethodId} {args : Array Value} {below : List Frame} {meth : Method} {c : Code} {G : GG} {A : Nat → Prop} {o_t : Nat} {a_t : Nat → Nat} {N : Nat} {g29 : US → (Nat → Int32) → Int32 → Int32 → Int32 → Int32 → Option (Int32 × US)} {v_t : US} {v_t_now : Nat → Int32} {y1 : Int32} {y2 : Int32} {y3 : Int32} {y4 : Int32} {y5 : Int32} {res : Int32 × US} (C : MC RX12 cX12_cuts 7 (some .int) G A p s m args meth c) (hg29 : ∀ {v_t : US} {v_t_now : Nat → Int32} {y1 : Int32} {y2 : Int32} {y3 : Int32} {y4 : Int32}, g29 v_t v_t_now y1 y2 y3 y4 = some res → ∀ {H : Heap} {locs : List Loc} {ls : Array Slot}, HP G A s [uX12 G o_t a_t v_t, uA G 63 (a_t 0) v_t_now] H locs → lv_has ls 7 [(0, .ref o_t), (1, .int y1), (2, .int y2), (3, .int y3), (4, .int y4)] → W p l e (rmm 6) s m args below meth c H locs 0 0 (QI below G A args s res.1 [uX12 G o_t a_t res.2, uA G 63 (a_t 0) v_t_now]) (F0 m 29 ls [])) (hf : b_X12_cuts_137 N g29 v_t v_t_now y1 y2 y3 y4 y5 = some res) {H : Heap} {locs : List Loc} {ls : Array Slot} (h : HP G A s [uX12 G o_t a_t v_t, uA G 63 (a_t 0) v_t_now] H locs) (hl : lv_has ls 7 [(0, .ref o_t), (1, .int y1), (2, .int y2), (3, .int y3), (4, .int y4), (5, .int y5)]) : W p l e (rmm 6) s m args below meth c H locs 0 0 (QI below G A args s res.1 [uX12 G o_t a_t res.2, uA G 63 (a_t 0) v_t_now]) (F0 m 137 ls []) := by
  unfold b_X12_cuts_137 at hf
  refine lv_iload C.hx C.hb dX12_cuts_137 (lv_at hl 5 rfl) ?_
  refine lv_if_eq (tgt := 147) C.hx C.hb dX12_cuts_139 (by decide) (fun zc1 => ?_) (fun zc1 => ?_)
  · replace hf := it_t zc1 hf
    refine lv_iload_n C.hx C.hb dX12_cuts_147 rfl (lv_at hl 2 rfl) ?_
    refine lv_istore_n (lv' := [(2, .int y2), (0, .ref o_t), (1, .int y1), (3, .int y3), (4, .int y4), (5, .int y5)]) C.hx C.hb dX12_cuts_148 rfl hl (by decide) rfl (fun ls hl => ?_)
    refine lv_iinc (v := y4 + 1) (lv' := [(4, .int (y4 + 1)), (2, .int y2), (0, .ref o_t), (1, .int y1), (3, .int y3), (5, .int y5)]) C.hx C.hb dX12_cuts_149 hl (k := 4) rfl rfl (by decide) rfl (fun ls hl => ?_)
    refine lv_goto (tgt := 29) C.hx C.hb dX12_cuts_152 (by decide) ?_
    exact hg29 hf h (lv_sub hl [2, 3, 1, 4, 0] rfl)
  · replace hf := it_f zc1 hf
    refine lv_iload C.hx C.hb dX12_cuts_142 (lv_at hl 4 rfl) ?_
    refine lv_goto (tgt := 148) C.hx C.hb dX12_cuts_144 (by decide) ?_
    refine lv_istore_n (lv' := [(2, .int y4), (0, .ref o_t), (1, .int y1), (3, .int y3), (4, .int y4), (5, .int y5)]) C.hx C.hb dX12_cuts_148 rfl hl (by decide) rfl (fun ls hl => ?_)
    refine lv_iinc (v := y4 + 1) (lv' := [(4, .int (y4 + 1)), (2, .int y4), (0, .ref o_t), (1, .int y1), (3, .int y3), (5, .int y5)]) C.hx C.hb dX12_cuts_149 hl (k := 4) rfl rfl (by decide) rfl (fun ls hl => ?_)
    refine lv_goto (tgt := 29) C.hx C.hb dX12_cuts_152 (by decide) ?_
    exact hg29 hf h (lv_sub hl [2, 3, 1, 4, 0] rfl)
set_option maxRecDepth 100000 in
set_option maxHeartbeats 4000000 in
theorem w_X12_cuts_82 {p : Program} {l : Launch} {e : Env} {s : State} {m : MethodId} {args : Array Value} {below : List Frame} {meth : Method} {c : Code} {G : GG} {A : Nat → Prop} {o_t : Nat} {a_t : Nat → Nat} {N : Nat} {g29 : US → (Nat → Int32) → Int32 → Int32 → Int32 → Int32 → Option (Int32 × US)} {g82 : US → (Nat → Int32) → Int32 → Int32 → Int32 → Int32 → Int32 → Int32 → Option (Int32 × US)} {v_t : US} {v_t_now : Nat → Int32} {y1 : Int32} {y2 : Int32} {y3 : Int32} {y4 : Int32} {y5 : Int32} {y6 : Int32} {res : Int32 × US} (C : MC RX12 cX12_cuts 7 (some .int) G A p s m args meth c) (hg29 : ∀ {v_t : US} {v_t_now : Nat → Int32} {y1 : Int32} {y2 : Int32} {y3 : Int32} {y4 : Int32}, g29 v_t v_t_now y1 y2 y3 y4 = some res → ∀ {H : Heap} {locs : List Loc} {ls : Array Slot}, HP G A s [uX12 G o_t a_t v_t, uA G 63 (a_t 0) v_t_now] H locs → lv_has ls 7 [(0, .ref o_t), (1, .int y1), (2, .int y2), (3, .int y3), (4, .int y4)] → W p l e (rmm 6) s m args below meth c H locs 0 0 (QI below G A args s res.1 [uX12 G o_t a_t res.2, uA G 63 (a_t 0) v_t_now]) (F0 m 29 ls [])) (hg82 : ∀ {v_t : US} {v_t_now : Nat → Int32} {y1 : Int32} {y2 : Int32} {y3 : Int32} {y4 : Int32} {y5 : Int32} {y6 : Int32}, g82 v_t v_t_now y1 y2 y3 y4 y5 y6 = some res → ∀ {H : Heap} {locs : List Loc} {ls : Array Slot}, HP G A s [uX12 G o_t a_t v_t, uA G 63 (a_t 0) v_t_now] H locs → lv_has ls 7 [(0, .ref o_t), (1, .int y1), (2, .int y2), (3, .int y3), (4, .int y4), (5, .int y5), (6, .int y6)] → W p l e (rmm 6) s m args below meth c H locs 0 0 (QI below G A args s res.1 [uX12 G o_t a_t res.2, uA G 63 (a_t 0) v_t_now]) (F0 m 82 ls [])) (hf : b_X12_cuts_82 N g29 g82 v_t v_t_now y1 y2 y3 y4 y5 y6 = some res) {H : Heap} {locs : List Loc} {ls : Array Slot} (h : HP G A s [uX12 G o_t a_t v_t, uA G 63 (a_t 0) v_t_now] H locs) (hl : lv_has ls 7 [(0, .ref o_t), (1, .int y1), (2, .int y2), (3, .int y3), (4, .int y4), (5, .int y5), (6, .int y6)]) : W p l e (rmm 6) s m args below meth c H locs 0 0 (QI below G A args s res.1 [uX12 G o_t a_t res.2, uA G 63 (a_t 0) v_t_now]) (F0 m 82 ls []) := by
  unfold b_X12_cuts_82 at hf
  refine lv_iload C.hx C.hb dX12_cuts_82 (lv_at hl 6 rfl) ?_
  refine lv_aload_n C.hx C.hb dX12_cuts_84 rfl (lv_at hl 0 rfl) ?_
  obtain ⟨zr1, zq2, hf⟩ := bd_some hf
  have zm3 := c_X12_errands l G o_t a_t (hf := zq2)
  refine g_goI C h zm3.1 (is := [0, 1]) rfl rfl (g_runV C h (is := [0, 1]) rfl rfl (As := []) (rest := [.int y6]) (zm3.2 _) vf_X12_133 0 0 rfl rfl hl.1 rfl rfl (Nat.le_of_ble_eq_true rfl) dX12_cuts_85 ⟨Nat.le_of_ble_eq_true rfl, Nat.le_of_ble_eq_true rfl⟩ ⟨Nat.le_refl _, Nat.le_refl _⟩) (us2 := [uX12 G o_t a_t v_t, uA G 63 (a_t 0) v_t_now]) rfl (fun H locs h => ?_)
  refine lv_icmp_ge (tgt := 137) C.hx C.hb dX12_cuts_88 (by decide) (fun zc4 => ?_) (fun zc4 => ?_)
  · replace hf := it_t zc4 hf
    exact w_X12_cuts_137 C hg29 hf h (lv_sub hl [0, 1, 2, 3, 4, 5] rfl)
  · replace hf := it_f zc4 hf
    refine lv_iload C.hx C.hb dX12_cuts_91 (lv_at hl 5 rfl) ?_
    refine lv_if_eq (tgt := 137) C.hx C.hb dX12_cuts_93 (by decide) (fun zc5 => ?_) (fun zc5 => ?_)
    · replace hf := it_t zc5 hf
      exact w_X12_cuts_137 C hg29 hf h (lv_sub hl [0, 1, 2, 3, 4, 5] rfl)
    · replace hf := it_f zc5 hf
      refine lv_aload_n C.hx C.hb dX12_cuts_96 rfl (lv_at hl 0 rfl) ?_
      refine lv_iload C.hx C.hb dX12_cuts_97 (lv_at hl 6 rfl) ?_
      refine lv_aload_n C.hx C.hb dX12_cuts_99 rfl (lv_at hl 0 rfl) ?_
      refine g_get C h fl_X12_7 0 0 rfl rfl (v := .ref (a_t 0)) rfl dX12_cuts_100 ?_
      refine lv_bipush (v := 27) C.hx C.hb dX12_cuts_103 (by decide) ?_
      obtain ⟨zi6, hf⟩ := ck_some hf
      refine g_iald C h 1 0 rfl rfl (f := v_t_now) zi6 dX12_cuts_105 ?_
      obtain ⟨zr7, zq8, hf⟩ := bd_some hf
      have zm9 := c_X12_doErrand l G o_t a_t N (hf := zq8)
      refine g_goI C h zm9.1 (is := [0, 1]) rfl rfl (g_runV C h (is := [0, 1]) rfl rfl (As := [.int y6, .int (v_t_now (27 : Int32).toNatClampNeg)]) (rest := []) (zm9.2 _) vf_X12_139 0 0 rfl rfl hl.1 rfl rfl (Nat.le_of_ble_eq_true rfl) dX12_cuts_106 ⟨Nat.le_of_ble_eq_true rfl, Nat.le_of_ble_eq_true rfl⟩ ⟨Nat.le_refl _, Nat.le_refl _⟩) (us2 := [uX12 G o_t a_t zr7.2, uA G 63 (a_t 0) v_t_now]) rfl (fun H locs h => ?_)
      refine lv_aload_n C.hx C.hb dX12_cuts_109 rfl (lv_at hl 0 rfl) ?_
      refine g_get C h fl_X12_7 0 0 rfl rfl (v := .ref (a_t 0)) rfl dX12_cuts_110 ?_
      refine lv_bipush (v := 27) C.hx C.hb dX12_cuts_113 (by decide) ?_
      obtain ⟨zi10, hf⟩ := ck_some hf
      refine g_iald C h 1 0 rfl rfl (f := v_t_now) zi10 dX12_cuts_115 ?_
      refine lv_iconst (v := (-1)) C.hx C.hb dX12_cuts_116 (by decide) ?_
      refine lv_ixor C.hx C.hb dX12_cuts_117 ?_
      refine lv_iand C.hx C.hb dX12_cuts_118 ?_
      refine lv_iload_n C.hx C.hb dX12_cuts_119 rfl (lv_at hl 1 rfl) ?_
      refine lv_iand C.hx C.hb dX12_cuts_120 ?_
      refine lv_if_ne (tgt := 128) C.hx C.hb dX12_cuts_121 (by decide) (fun zc11 => ?_) (fun zc11 => ?_)
      · replace hf := it_f zc11 hf
        refine lv_iconst (v := 0) C.hx C.hb dX12_cuts_128 (by decide) ?_
        refine lv_istore (lv' := [(5, .int 0), (0, .ref o_t), (1, .int y1), (2, .int y2), (3, .int y3), (4, .int y4), (6, .int y6)]) C.hx C.hb dX12_cuts_129 hl (by decide) rfl (fun ls hl => ?_)
        refine lv_iinc (v := y6 + 1) (lv' := [(6, .int (y6 + 1)), (5, .int 0), (0, .ref o_t), (1, .int y1), (2, .int y2), (3, .int y3), (4, .int y4)]) C.hx C.hb dX12_cuts_131 hl (k := 6) rfl rfl (by decide) rfl (fun ls hl => ?_)
        refine lv_goto (tgt := 82) C.hx C.hb dX12_cuts_134 (by decide) ?_
        exact hg82 hf h (lv_sub hl [2, 3, 4, 5, 6, 1, 0] rfl)
      · replace hf := it_t zc11 hf
        refine lv_iconst (v := 1) C.hx C.hb dX12_cuts_124 (by decide) ?_
        refine lv_goto (tgt := 129) C.hx C.hb dX12_cuts_125 (by decide) ?_
        refine lv_istore (lv' := [(5, .int 1), (0, .ref o_t), (1, .int y1), (2, .int y2), (3, .int y3), (4, .int y4), (6, .int y6)]) C.hx C.hb dX12_cuts_129 hl (by decide) rfl (fun ls hl => ?_)
        refine lv_iinc (v := y6 + 1) (lv' := [(6, .int (y6 + 1)), (5, .int 1), (0, .ref o_t), (1, .int y1), (2, .int y2), (3, .int y3), (4, .int y4)]) C.hx C.hb dX12_cuts_131 hl (k := 6) rfl rfl (by decide) rfl (fun ls hl => ?_)
        refine lv_goto (tgt := 82) C.hx C.hb dX12_cuts_134 (by decide) ?_
        exact hg82 hf h (lv_sub hl [2, 3, 4, 5, 6, 1, 0] rfl)
set_option maxRecDepth 100000 in
set_option maxHeartbeats 4000000 in
theorem l_X12_cuts_82 {p : Program} {l : Launch} {e : Env} {s : State} {m : MethodId} {args : Array Value} {below : List Frame} {meth : Method} {c : Code} {G : GG} {A : Nat → Prop} {o_t : Nat} {a_t : Nat → Nat} {N : Nat} {g29 : US → (Nat → Int32) → Int32 → Int32 → Int32 → Int32 → Option (Int32 × US)} {res : Int32 × US} (C : MC RX12 cX12_cuts 7 (some .int) G A p s m args meth c) (hg29 : ∀ {v_t : US} {v_t_now : Nat → Int32} {y1 : Int32} {y2 : Int32} {y3 : Int32} {y4 : Int32}, g29 v_t v_t_now y1 y2 y3 y4 = some res → ∀ {H : Heap} {locs : List Loc} {ls : Array Slot}, HP G A s [uX12 G o_t a_t v_t, uA G 63 (a_t 0) v_t_now] H locs → lv_has ls 7 [(0, .ref o_t), (1, .int y1), (2, .int y2), (3, .int y3), (4, .int y4)] → W p l e (rmm 6) s m args below meth c H locs 0 0 (QI below G A args s res.1 [uX12 G o_t a_t res.2, uA G 63 (a_t 0) v_t_now]) (F0 m 29 ls [])) : ∀ (k : Nat) {v_t : US} {v_t_now : Nat → Int32} {y1 : Int32} {y2 : Int32} {y3 : Int32} {y4 : Int32} {y5 : Int32} {y6 : Int32}, f_X12_cuts_82 N g29 k v_t v_t_now y1 y2 y3 y4 y5 y6 = some res → ∀ {H : Heap} {locs : List Loc} {ls : Array Slot}, HP G A s [uX12 G o_t a_t v_t, uA G 63 (a_t 0) v_t_now] H locs → lv_has ls 7 [(0, .ref o_t), (1, .int y1), (2, .int y2), (3, .int y3), (4, .int y4), (5, .int y5), (6, .int y6)] → W p l e (rmm 6) s m args below meth c H locs 0 0 (QI below G A args s res.1 [uX12 G o_t a_t res.2, uA G 63 (a_t 0) v_t_now]) (F0 m 82 ls []) := by
  intro k
  induction k with
  | zero => intros; contradiction
  | succ k ih =>
    intro v_t v_t_now y1 y2 y3 y4 y5 y6 hf H locs ls h hl
    exact w_X12_cuts_82 (N := N) C hg29 ih hf h hl
set_option maxRecDepth 100000 in
set_option maxHeartbeats 4000000 in
theorem w_X12_cuts_67 {p : Program} {l : Launch} {e : Env} {s : State} {m : MethodId} {args : Array Value} {below : List Frame} {meth : Method} {c : Code} {G : GG} {A : Nat → Prop} {o_t : Nat} {a_t : Nat → Nat} {N : Nat} {g29 : US → (Nat → Int32) → Int32 → Int32 → Int32 → Int32 → Option (Int32 × US)} {v_t : US} {v_t_now : Nat → Int32} {y1 : Int32} {y2 : Int32} {y3 : Int32} {y4 : Int32} {s0 : Int32} {res : Int32 × US} (C : MC RX12 cX12_cuts 7 (some .int) G A p s m args meth c) (hg29 : ∀ {v_t : US} {v_t_now : Nat → Int32} {y1 : Int32} {y2 : Int32} {y3 : Int32} {y4 : Int32}, g29 v_t v_t_now y1 y2 y3 y4 = some res → ∀ {H : Heap} {locs : List Loc} {ls : Array Slot}, HP G A s [uX12 G o_t a_t v_t, uA G 63 (a_t 0) v_t_now] H locs → lv_has ls 7 [(0, .ref o_t), (1, .int y1), (2, .int y2), (3, .int y3), (4, .int y4)] → W p l e (rmm 6) s m args below meth c H locs 0 0 (QI below G A args s res.1 [uX12 G o_t a_t res.2, uA G 63 (a_t 0) v_t_now]) (F0 m 29 ls [])) (hf : b_X12_cuts_67 N g29 v_t v_t_now y1 y2 y3 y4 s0 = some res) {H : Heap} {locs : List Loc} {ls : Array Slot} (h : HP G A s [uX12 G o_t a_t v_t, uA G 63 (a_t 0) v_t_now] H locs) (hl : lv_has ls 7 [(0, .ref o_t), (1, .int y1), (2, .int y2), (3, .int y3), (4, .int y4)]) : W p l e (rmm 6) s m args below meth c H locs 0 0 (QI below G A args s res.1 [uX12 G o_t a_t res.2, uA G 63 (a_t 0) v_t_now]) (F0 m 67 ls [.int s0]) := by
  unfold b_X12_cuts_67 at hf
  refine lv_istore (lv' := [(5, .int s0), (0, .ref o_t), (1, .int y1), (2, .int y2), (3, .int y3), (4, .int y4)]) C.hx C.hb dX12_cuts_67 hl (by decide) rfl (fun ls hl => ?_)
  refine lv_aload_n C.hx C.hb dX12_cuts_69 rfl (lv_at hl 1 rfl) ?_
  refine lv_iload_n C.hx C.hb dX12_cuts_70 rfl (lv_at hl 4 rfl) ?_
  refine lv_iload C.hx C.hb dX12_cuts_71 (lv_at hl 5 rfl) ?_
  refine lv_iconst (v := (-1)) C.hx C.hb dX12_cuts_73 (by decide) ?_
  refine lv_ixor C.hx C.hb dX12_cuts_74 ?_
  refine lv_iand C.hx C.hb dX12_cuts_75 ?_
  refine g_put C h fp_X12_89 0 0 rfl rfl rfl rfl (Nat.le_of_ble_eq_true rfl) dX12_cuts_76 (u' := uX12 G o_t a_t (upi v_t 7 (y3 &&& (y4 ^^^ (-1))))) (us' := [uX12 G o_t a_t (upi v_t 7 (y3 &&& (y4 ^^^ (-1)))), uA G 63 (a_t 0) v_t_now]) rfl rfl (fun H locs h => ?_)
  refine lv_iconst (v := 0) C.hx C.hb dX12_cuts_79 (by decide) ?_
  refine lv_istore (lv' := [(6, .int 0), (5, .int s0), (0, .ref o_t), (1, .int y1), (2, .int y2), (3, .int y3), (4, .int y4)]) C.hx C.hb dX12_cuts_80 hl (by decide) rfl (fun ls hl => ?_)
  exact l_X12_cuts_82 C hg29 N hf h (lv_sub hl [2, 3, 4, 5, 6, 1, 0] rfl)
set_option maxRecDepth 100000 in
set_option maxHeartbeats 4000000 in
theorem w_X12_cuts_62 {p : Program} {l : Launch} {e : Env} {s : State} {m : MethodId} {args : Array Value} {below : List Frame} {meth : Method} {c : Code} {G : GG} {A : Nat → Prop} {o_t : Nat} {a_t : Nat → Nat} {N : Nat} {g29 : US → (Nat → Int32) → Int32 → Int32 → Int32 → Int32 → Option (Int32 × US)} {v_t : US} {v_t_now : Nat → Int32} {y1 : Int32} {y2 : Int32} {y3 : Int32} {y4 : Int32} {res : Int32 × US} (C : MC RX12 cX12_cuts 7 (some .int) G A p s m args meth c) (hg29 : ∀ {v_t : US} {v_t_now : Nat → Int32} {y1 : Int32} {y2 : Int32} {y3 : Int32} {y4 : Int32}, g29 v_t v_t_now y1 y2 y3 y4 = some res → ∀ {H : Heap} {locs : List Loc} {ls : Array Slot}, HP G A s [uX12 G o_t a_t v_t, uA G 63 (a_t 0) v_t_now] H locs → lv_has ls 7 [(0, .ref o_t), (1, .int y1), (2, .int y2), (3, .int y3), (4, .int y4)] → W p l e (rmm 6) s m args below meth c H locs 0 0 (QI below G A args s res.1 [uX12 G o_t a_t res.2, uA G 63 (a_t 0) v_t_now]) (F0 m 29 ls [])) (hf : b_X12_cuts_62 N g29 v_t v_t_now y1 y2 y3 y4 = some res) {H : Heap} {locs : List Loc} {ls : Array Slot} (h : HP G A s [uX12 G o_t a_t v_t, uA G 63 (a_t 0) v_t_now] H locs) (hl : lv_has ls 7 [(0, .ref o_t), (1, .int y1), (2, .int y2), (3, .int y3), (4, .int y4)]) : W p l e (rmm 6) s m args below meth c H locs 0 0 (QI below G A args s res.1 [uX12 G o_t a_t res.2, uA G 63 (a_t 0) v_t_now]) (F0 m 62 ls []) := by
  unfold b_X12_cuts_62 at hf
  refine lv_iconst (v := 1) C.hx C.hb dX12_cuts_62 (by decide) ?_
  refine lv_goto (tgt := 67) C.hx C.hb dX12_cuts_63 (by decide) ?_
  exact w_X12_cuts_67 C hg29 hf h (lv_sub hl [0, 1, 2, 3, 4] rfl)
set_option maxRecDepth 100000 in
set_option maxHeartbeats 4000000 in
theorem w_X12_cuts_66 {p : Program} {l : Launch} {e : Env} {s : State} {m : MethodId} {args : Array Value} {below : List Frame} {meth : Method} {c : Code} {G : GG} {A : Nat → Prop} {o_t : Nat} {a_t : Nat → Nat} {N : Nat} {g29 : US → (Nat → Int32) → Int32 → Int32 → Int32 → Int32 → Option (Int32 × US)} {v_t : US} {v_t_now : Nat → Int32} {y1 : Int32} {y2 : Int32} {y3 : Int32} {y4 : Int32} {res : Int32 × US} (C : MC RX12 cX12_cuts 7 (some .int) G A p s m args meth c) (hg29 : ∀ {v_t : US} {v_t_now : Nat → Int32} {y1 : Int32} {y2 : Int32} {y3 : Int32} {y4 : Int32}, g29 v_t v_t_now y1 y2 y3 y4 = some res → ∀ {H : Heap} {locs : List Loc} {ls : Array Slot}, HP G A s [uX12 G o_t a_t v_t, uA G 63 (a_t 0) v_t_now] H locs → lv_has ls 7 [(0, .ref o_t), (1, .int y1), (2, .int y2), (3, .int y3), (4, .int y4)] → W p l e (rmm 6) s m args below meth c H locs 0 0 (QI below G A args s res.1 [uX12 G o_t a_t res.2, uA G 63 (a_t 0) v_t_now]) (F0 m 29 ls [])) (hf : b_X12_cuts_66 N g29 v_t v_t_now y1 y2 y3 y4 = some res) {H : Heap} {locs : List Loc} {ls : Array Slot} (h : HP G A s [uX12 G o_t a_t v_t, uA G 63 (a_t 0) v_t_now] H locs) (hl : lv_has ls 7 [(0, .ref o_t), (1, .int y1), (2, .int y2), (3, .int y3), (4, .int y4)]) : W p l e (rmm 6) s m args below meth c H locs 0 0 (QI below G A args s res.1 [uX12 G o_t a_t res.2, uA G 63 (a_t 0) v_t_now]) (F0 m 66 ls []) := by
  unfold b_X12_cuts_66 at hf
  refine lv_iconst (v := 0) C.hx C.hb dX12_cuts_66 (by decide) ?_
  exact w_X12_cuts_67 C hg29 hf h (lv_sub hl [0, 1, 2, 3, 4] rfl)
set_option maxRecDepth 100000 in
set_option maxHeartbeats 4000000 in
theorem w_X12_cuts_29 {p : Program} {l : Launch} {e : Env} {s : State} {m : MethodId} {args : Array Value} {below : List Frame} {meth : Method} {c : Code} {G : GG} {A : Nat → Prop} {o_t : Nat} {a_t : Nat → Nat} {N : Nat} {g29 : US → (Nat → Int32) → Int32 → Int32 → Int32 → Int32 → Option (Int32 × US)} {v_t : US} {v_t_now : Nat → Int32} {y1 : Int32} {y2 : Int32} {y3 : Int32} {y4 : Int32} {res : Int32 × US} (C : MC RX12 cX12_cuts 7 (some .int) G A p s m args meth c) (hg29 : ∀ {v_t : US} {v_t_now : Nat → Int32} {y1 : Int32} {y2 : Int32} {y3 : Int32} {y4 : Int32}, g29 v_t v_t_now y1 y2 y3 y4 = some res → ∀ {H : Heap} {locs : List Loc} {ls : Array Slot}, HP G A s [uX12 G o_t a_t v_t, uA G 63 (a_t 0) v_t_now] H locs → lv_has ls 7 [(0, .ref o_t), (1, .int y1), (2, .int y2), (3, .int y3), (4, .int y4)] → W p l e (rmm 6) s m args below meth c H locs 0 0 (QI below G A args s res.1 [uX12 G o_t a_t res.2, uA G 63 (a_t 0) v_t_now]) (F0 m 29 ls [])) (hf : b_X12_cuts_29 N g29 v_t v_t_now y1 y2 y3 y4 = some res) {H : Heap} {locs : List Loc} {ls : Array Slot} (h : HP G A s [uX12 G o_t a_t v_t, uA G 63 (a_t 0) v_t_now] H locs) (hl : lv_has ls 7 [(0, .ref o_t), (1, .int y1), (2, .int y2), (3, .int y3), (4, .int y4)]) : W p l e (rmm 6) s m args below meth c H locs 0 0 (QI below G A args s res.1 [uX12 G o_t a_t res.2, uA G 63 (a_t 0) v_t_now]) (F0 m 29 ls []) := by
  unfold b_X12_cuts_29 at hf
  refine lv_iload C.hx C.hb dX12_cuts_29 (lv_at hl 4 rfl) ?_
  refine lv_bipush (v := 32) C.hx C.hb dX12_cuts_31 (by decide) ?_
  refine lv_icmp_ge (tgt := 155) C.hx C.hb dX12_cuts_33 (by decide) (fun zc1 => ?_) (fun zc1 => ?_)
  · replace hf := it_t zc1 hf
    refine lv_iload_n C.hx C.hb dX12_cuts_155 rfl (lv_at hl 2 rfl) ?_
    obtain rfl := Option.some.inj hf
    exact g_ret_i C h rfl rfl dX12_cuts_156
  · replace hf := it_f zc1 hf
    refine lv_iload C.hx C.hb dX12_cuts_36 (lv_at hl 4 rfl) ?_
    refine lv_iload_n C.hx C.hb dX12_cuts_38 rfl (lv_at hl 3 rfl) ?_
    refine lv_iconst (v := (-1)) C.hx C.hb dX12_cuts_39 (by decide) ?_
    refine lv_ixor C.hx C.hb dX12_cuts_40 ?_
    refine lv_iand C.hx C.hb dX12_cuts_41 ?_
    refine lv_if_ne (tgt := 66) C.hx C.hb dX12_cuts_42 (by decide) (fun zc2 => ?_) (fun zc2 => ?_)
    · replace hf := it_f zc2 hf
      exact w_X12_cuts_66 C hg29 hf h (lv_sub hl [0, 1, 2, 3, 4] rfl)
    · replace hf := it_t zc2 hf
      refine lv_iload_n C.hx C.hb dX12_cuts_45 rfl (lv_at hl 2 rfl) ?_
      refine lv_iconst (v := (-1)) C.hx C.hb dX12_cuts_46 (by decide) ?_
      refine lv_icmp_eq (tgt := 62) C.hx C.hb dX12_cuts_47 (by decide) (fun zc3 => ?_) (fun zc3 => ?_)
      · replace hf := it_t zc3 hf
        exact w_X12_cuts_62 C hg29 hf h (lv_sub hl [0, 1, 2, 3, 4] rfl)
      · replace hf := it_f zc3 hf
        refine lv_iload C.hx C.hb dX12_cuts_50 (lv_at hl 4 rfl) ?_
        obtain ⟨zr4, zq5, hf⟩ := bd_some hf
        have zm6 := c_X12_bits l G N (hf := zq5)
        refine g_goI C h zm6.1 (is := []) rfl rfl (g_runS C h (is := []) rfl rfl (As := [.int y4]) (rest := []) (zm6.2 _) sf_X12_136 hl.1 rfl rfl (Nat.le_of_ble_eq_true rfl) dX12_cuts_52 ⟨Nat.le_of_ble_eq_true rfl, Nat.le_of_ble_eq_true rfl⟩ ⟨Nat.le_refl _, Nat.le_refl _⟩) (us2 := [uX12 G o_t a_t v_t, uA G 63 (a_t 0) v_t_now]) rfl (fun H locs h => ?_)
        refine lv_iload_n C.hx C.hb dX12_cuts_55 rfl (lv_at hl 2 rfl) ?_
        obtain ⟨zr7, zq8, hf⟩ := bd_some hf
        have zm9 := c_X12_bits l G N (hf := zq8)
        refine g_goI C h zm9.1 (is := []) rfl rfl (g_runS C h (is := []) rfl rfl (As := [.int y2]) (rest := [.int zr4]) (zm9.2 _) sf_X12_136 hl.1 rfl rfl (Nat.le_of_ble_eq_true rfl) dX12_cuts_56 ⟨Nat.le_of_ble_eq_true rfl, Nat.le_of_ble_eq_true rfl⟩ ⟨Nat.le_refl _, Nat.le_refl _⟩) (us2 := [uX12 G o_t a_t v_t, uA G 63 (a_t 0) v_t_now]) rfl (fun H locs h => ?_)
        refine lv_icmp_ge (tgt := 66) C.hx C.hb dX12_cuts_59 (by decide) (fun zc10 => ?_) (fun zc10 => ?_)
        · replace hf := it_t zc10 hf
          exact w_X12_cuts_66 C hg29 hf h (lv_sub hl [0, 1, 2, 3, 4] rfl)
        · replace hf := it_f zc10 hf
          exact w_X12_cuts_62 C hg29 hf h (lv_sub hl [0, 1, 2, 3, 4] rfl)
set_option maxRecDepth 100000 in
set_option maxHeartbeats 4000000 in
theorem l_X12_cuts_29 {p : Program} {l : Launch} {e : Env} {s : State} {m : MethodId} {args : Array Value} {below : List Frame} {meth : Method} {c : Code} {G : GG} {A : Nat → Prop} {o_t : Nat} {a_t : Nat → Nat} {N : Nat}  {res : Int32 × US} (C : MC RX12 cX12_cuts 7 (some .int) G A p s m args meth c)  : ∀ (k : Nat) {v_t : US} {v_t_now : Nat → Int32} {y1 : Int32} {y2 : Int32} {y3 : Int32} {y4 : Int32}, f_X12_cuts_29 N k v_t v_t_now y1 y2 y3 y4 = some res → ∀ {H : Heap} {locs : List Loc} {ls : Array Slot}, HP G A s [uX12 G o_t a_t v_t, uA G 63 (a_t 0) v_t_now] H locs → lv_has ls 7 [(0, .ref o_t), (1, .int y1), (2, .int y2), (3, .int y3), (4, .int y4)] → W p l e (rmm 6) s m args below meth c H locs 0 0 (QI below G A args s res.1 [uX12 G o_t a_t res.2, uA G 63 (a_t 0) v_t_now]) (F0 m 29 ls []) := by
  intro k
  induction k with
  | zero => intros; contradiction
  | succ k ih =>
    intro v_t v_t_now y1 y2 y3 y4 hf H locs ls h hl
    exact w_X12_cuts_29 (N := N) C ih hf h hl
set_option maxRecDepth 100000 in
set_option maxHeartbeats 4000000 in
theorem c_X12_cuts (l : Launch) (G : GG) (o_t : Nat) (a_t : Nat → Nat) (N : Nat) {v_t : US} {v_t_now : Nat → Int32} {x1 : Int32} {res : Int32 × US} (hf : f_X12_cuts N v_t v_t_now x1 = some res) : MI l yX12_cuts cX12_cuts 7 (some .int) 6 [.ref o_t, .int x1] G [uX12 G o_t a_t v_t, uA G 63 (a_t 0) v_t_now] res.1 [uX12 G o_t a_t res.2, uA G 63 (a_t 0) v_t_now] := by
  unfold f_X12_cuts at hf
  refine MI.intro (by decide) rfl (Nat.le_of_ble_eq_true rfl) (fun p e s m args below meth c A ls C h hl => ?_)
  have C : MC RX12 cX12_cuts 7 (some .int) G A p s m args meth c := C
  have hl : lv_has ls 7 [(0, .ref o_t), (1, .int x1)] := hl
  refine lv_aload_n C.hx C.hb dX12_cuts_0 rfl (lv_at hl 0 rfl) ?_
  refine lv_iload_n C.hx C.hb dX12_cuts_1 rfl (lv_at hl 1 rfl) ?_
  obtain ⟨zr1, zq2, hf⟩ := bd_some hf
  have zm3 := c_X12_isSet l G o_t a_t (hf := zq2)
  refine g_goI C h zm3.1 (is := [0, 1]) rfl rfl (g_runV C h (is := [0, 1]) rfl rfl (As := [.int x1]) (rest := []) (zm3.2 _) vf_X12_158 0 0 rfl rfl hl.1 rfl rfl (Nat.le_of_ble_eq_true rfl) dX12_cuts_2 ⟨Nat.le_of_ble_eq_true rfl, Nat.le_of_ble_eq_true rfl⟩ ⟨Nat.le_refl _, Nat.le_refl _⟩) (us2 := [uX12 G o_t a_t v_t, uA G 63 (a_t 0) v_t_now]) rfl (fun H locs h => ?_)
  refine lv_if_ne (tgt := 15) C.hx C.hb dX12_cuts_5 (by decide) (fun zc4 => ?_) (fun zc4 => ?_)
  · replace hf := it_f zc4 hf
    refine lv_aload_n C.hx C.hb dX12_cuts_15 rfl (lv_at hl 0 rfl) ?_
    obtain ⟨zr5, zq6, hf⟩ := bd_some hf
    have zm7 := c_X12_takeNow l G o_t a_t N (hf := zq6)
    refine g_goV C h zm7.1 (is := [0, 1]) rfl rfl (g_runV C h (is := [0, 1]) rfl rfl (As := []) (rest := []) (zm7.2 _) vf_X12_123 0 0 rfl rfl hl.1 rfl rfl (Nat.le_of_ble_eq_true rfl) dX12_cuts_16 ⟨Nat.le_of_ble_eq_true rfl, Nat.le_of_ble_eq_true rfl⟩ ⟨Nat.le_refl _, Nat.le_refl _⟩) (us2 := [uX12 G o_t a_t zr5, uA G 63 (a_t 0) v_t_now]) rfl (fun H locs h => ?_)
    refine lv_iconst (v := (-1)) C.hx C.hb dX12_cuts_19 (by decide) ?_
    refine lv_istore_n (lv' := [(2, .int (-1)), (0, .ref o_t), (1, .int x1)]) C.hx C.hb dX12_cuts_20 rfl hl (by decide) rfl (fun ls hl => ?_)
    refine lv_aload_n C.hx C.hb dX12_cuts_21 rfl (lv_at hl 1 rfl) ?_
    refine g_get C h fl_X12_89 0 0 rfl rfl (v := .int (zr5.1 7)) rfl dX12_cuts_22 ?_
    refine lv_istore_n (lv' := [(3, .int (zr5.1 7)), (2, .int (-1)), (0, .ref o_t), (1, .int x1)]) C.hx C.hb dX12_cuts_25 rfl hl (by decide) rfl (fun ls hl => ?_)
    refine lv_iconst (v := 0) C.hx C.hb dX12_cuts_26 (by decide) ?_
    refine lv_istore (lv' := [(4, .int 0), (3, .int (zr5.1 7)), (2, .int (-1)), (0, .ref o_t), (1, .int x1)]) C.hx C.hb dX12_cuts_27 hl (by decide) rfl (fun ls hl => ?_)
    exact l_X12_cuts_29 C N hf h (lv_sub hl [3, 4, 2, 1, 0] rfl)
  · replace hf := it_t zc4 hf
    refine lv_aload_n C.hx C.hb dX12_cuts_8 rfl (lv_at hl 0 rfl) ?_
    refine lv_bipush (v := (-10)) C.hx C.hb dX12_cuts_9 (by decide) ?_
    obtain ⟨zr8, zq9, hf⟩ := bd_some hf
    have zm10 := c_X12_bad l G o_t a_t (hf := zq9)
    refine g_goI C h zm10.1 (is := [0]) rfl rfl (g_runV C h (is := [0]) rfl rfl (As := [.int (-10)]) (rest := []) (zm10.2 _) vf_X12_60 0 0 rfl rfl hl.1 rfl rfl (Nat.le_of_ble_eq_true rfl) dX12_cuts_11 ⟨Nat.le_of_ble_eq_true rfl, Nat.le_of_ble_eq_true rfl⟩ ⟨Nat.le_refl _, Nat.le_refl _⟩) (us2 := [uX12 G o_t a_t zr8.2, uA G 63 (a_t 0) v_t_now]) rfl (fun H locs h => ?_)
    obtain rfl := Option.some.inj hf
    exact g_ret_i C h rfl rfl dX12_cuts_14

def f_X12_damp (v_t : US) (v_t_now : Nat → Int32) (x1 : Int32) : Option (Int32 × US × (Nat → Int32)) :=
  (f_X12_in x1.toInt64 0 9).bind fun zr1 => if (b2i zr1) = 0 then ((f_X12_bad v_t (-2)).bind fun zr7 => some (zr7.1, zr7.2, v_t_now)) else (if (26 : Int32) < 0 ∨ 63 ≤ (26 : Int32).toNatClampNeg then none else (if (26 : Int32) < 0 ∨ 63 ≤ (26 : Int32).toNatClampNeg then none else (some (v_t_now (26 : Int32).toNatClampNeg, v_t, upd v_t_now (26 : Int32).toNatClampNeg x1))))
set_option maxRecDepth 100000 in
set_option maxHeartbeats 4000000 in
theorem c_X12_damp (l : Launch) (G : GG) (o_t : Nat) (a_t : Nat → Nat) {v_t : US} {v_t_now : Nat → Int32} {x1 : Int32} {res : Int32 × US × (Nat → Int32)} (hf : f_X12_damp v_t v_t_now x1 = some res) : MI l yX12_damp cX12_damp 3 (some .int) 2 [.ref o_t, .int x1] G [uX12 G o_t a_t v_t, uA G 63 (a_t 0) v_t_now] res.1 [uX12 G o_t a_t res.2.1, uA G 63 (a_t 0) res.2.2] := by
  unfold f_X12_damp at hf
  refine MI.intro (by decide) rfl (Nat.le_of_ble_eq_true rfl) (fun p e s m args below meth c A ls C h hl => ?_)
  have C : MC RX12 cX12_damp 3 (some .int) G A p s m args meth c := C
  have hl : lv_has ls 3 [(0, .ref o_t), (1, .int x1)] := hl
  refine lv_iload_n C.hx C.hb dX12_damp_0 rfl (lv_at hl 1 rfl) ?_
  refine lv_i2l C.hx C.hb dX12_damp_1 rfl ?_
  refine lv_lconst (v := 0) C.hx C.hb dX12_damp_2 (by decide) ?_
  refine lv_ldc2 C.hx C.hb C.hown (C.hts _ cw_X12_58) dX12_damp_3 ?_
  obtain ⟨zr1, zq2, hf⟩ := bd_some hf
  have zm3 := c_X12_in l G  (hf := zq2)
  refine g_goI C h zm3.1 (is := []) rfl rfl (g_runS C h (is := []) rfl rfl (As := [.long x1.toInt64, .long 0, .long 9]) (rest := []) (zm3.2 _) sf_X12_52 hl.1 rfl rfl (Nat.le_of_ble_eq_true rfl) dX12_damp_6 ⟨Nat.le_of_ble_eq_true rfl, Nat.le_of_ble_eq_true rfl⟩ ⟨Nat.le_refl _, Nat.le_refl _⟩) (us2 := [uX12 G o_t a_t v_t, uA G 63 (a_t 0) v_t_now]) rfl (fun H locs h => ?_)
  refine lv_if_ne (tgt := 19) C.hx C.hb dX12_damp_9 (by decide) (fun zc4 => ?_) (fun zc4 => ?_)
  · replace hf := it_f zc4 hf
    refine lv_aload_n C.hx C.hb dX12_damp_19 rfl (lv_at hl 0 rfl) ?_
    refine g_get C h fl_X12_7 0 0 rfl rfl (v := .ref (a_t 0)) rfl dX12_damp_20 ?_
    refine lv_bipush (v := 26) C.hx C.hb dX12_damp_23 (by decide) ?_
    obtain ⟨zi5, hf⟩ := ck_some hf
    refine g_iald C h 1 0 rfl rfl (f := v_t_now) zi5 dX12_damp_25 ?_
    refine lv_istore_n (lv' := [(2, .int (v_t_now (26 : Int32).toNatClampNeg)), (0, .ref o_t), (1, .int x1)]) C.hx C.hb dX12_damp_26 rfl hl (by decide) rfl (fun ls hl => ?_)
    refine lv_aload_n C.hx C.hb dX12_damp_27 rfl (lv_at hl 1 rfl) ?_
    refine g_get C h fl_X12_7 0 0 rfl rfl (v := .ref (a_t 0)) rfl dX12_damp_28 ?_
    refine lv_bipush (v := 26) C.hx C.hb dX12_damp_31 (by decide) ?_
    refine lv_iload_n C.hx C.hb dX12_damp_33 rfl (lv_at hl 2 rfl) ?_
    obtain ⟨zi6, hf⟩ := ck_some hf
    refine g_iast C h 1 0 rfl rfl (f := v_t_now) zi6 dX12_damp_34 (u' := uA G 63 (a_t 0) (upd v_t_now (26 : Int32).toNatClampNeg x1)) (us' := [uX12 G o_t a_t v_t, uA G 63 (a_t 0) (upd v_t_now (26 : Int32).toNatClampNeg x1)]) rfl rfl (fun H locs h => ?_)
    refine lv_iload_n C.hx C.hb dX12_damp_35 rfl (lv_at hl 0 rfl) ?_
    obtain rfl := Option.some.inj hf
    exact g_ret_i C h rfl rfl dX12_damp_36
  · replace hf := it_t zc4 hf
    refine lv_aload_n C.hx C.hb dX12_damp_12 rfl (lv_at hl 0 rfl) ?_
    refine lv_bipush (v := (-2)) C.hx C.hb dX12_damp_13 (by decide) ?_
    obtain ⟨zr7, zq8, hf⟩ := bd_some hf
    have zm9 := c_X12_bad l G o_t a_t (hf := zq8)
    refine g_goI C h zm9.1 (is := [0]) rfl rfl (g_runV C h (is := [0]) rfl rfl (As := [.int (-2)]) (rest := []) (zm9.2 _) vf_X12_60 0 0 rfl rfl hl.1 rfl rfl (Nat.le_of_ble_eq_true rfl) dX12_damp_15 ⟨Nat.le_of_ble_eq_true rfl, Nat.le_of_ble_eq_true rfl⟩ ⟨Nat.le_refl _, Nat.le_refl _⟩) (us2 := [uX12 G o_t a_t zr7.2, uA G 63 (a_t 0) v_t_now]) rfl (fun H locs h => ?_)
    obtain rfl := Option.some.inj hf
    exact g_ret_i C h rfl rfl dX12_damp_18

def b_X12_sums_6 (N : Nat) (g6 : US → (Nat → Int32) → Int32 → Int32 → Int64 → Int32 → Option (Int64)) (v_t : US) (v_t_now : Nat → Int32) (y3 : Int32) (y4 : Int32) (y5 : Int64) (y7 : Int32) : Option (Int64) :=
  if y4 ≤ y7 then (some (y5)) else (if (y3 + y7) < 0 ∨ 63 ≤ (y3 + y7).toNatClampNeg then none else (g6 v_t v_t_now y3 y4 ((31 * y5) + ((v_t_now (y3 + y7).toNatClampNeg).toInt64)) (y7 + 1)))
def f_X12_sums_6 (N : Nat)  : Nat → US → (Nat → Int32) → Int32 → Int32 → Int64 → Int32 → Option (Int64)
  | 0 => fun _ _ _ _ _ _ => none
  | k + 1 => fun q0 q1 q2 q3 q4 q5 => b_X12_sums_6 N  (f_X12_sums_6 N  k) q0 q1 q2 q3 q4 q5
def f_X12_sums (N : Nat) (v_t : US) (v_t_now : Nat → Int32) (x1 : Int64) (x3 : Int32) (x4 : Int32) : Option (Int64) :=
  f_X12_sums_6 N N v_t v_t_now x3 x4 x1 0
set_option maxRecDepth 100000 in
set_option maxHeartbeats 4000000 in
theorem w_X12_sums_6 {p : Program} {l : Launch} {e : Env} {s : State} {m : MethodId} {args : Array Value} {below : List Frame} {meth : Method} {c : Code} {G : GG} {A : Nat → Prop} {o_t : Nat} {a_t : Nat → Nat} {N : Nat} {g6 : US → (Nat → Int32) → Int32 → Int32 → Int64 → Int32 → Option (Int64)} {v_t : US} {v_t_now : Nat → Int32} {y3 : Int32} {y4 : Int32} {y5 : Int64} {y7 : Int32} {res : Int64} (C : MC RX12 cX12_sums 8 (some .long) G A p s m args meth c) (hg6 : ∀ {v_t : US} {v_t_now : Nat → Int32} {y3 : Int32} {y4 : Int32} {y5 : Int64} {y7 : Int32}, g6 v_t v_t_now y3 y4 y5 y7 = some res → ∀ {H : Heap} {locs : List Loc} {ls : Array Slot}, HP G A s [uX12 G o_t a_t v_t, uA G 63 (a_t 0) v_t_now] H locs → lv_has ls 8 [(0, .ref o_t), (3, .int y3), (4, .int y4), (5, .long y5), (7, .int y7)] → W p l e (rmm 1) s m args below meth c H locs 0 0 (QL below G A args s res [uX12 G o_t a_t v_t, uA G 63 (a_t 0) v_t_now]) (F0 m 6 ls [])) (hf : b_X12_sums_6 N g6 v_t v_t_now y3 y4 y5 y7 = some res) {H : Heap} {locs : List Loc} {ls : Array Slot} (h : HP G A s [uX12 G o_t a_t v_t, uA G 63 (a_t 0) v_t_now] H locs) (hl : lv_has ls 8 [(0, .ref o_t), (3, .int y3), (4, .int y4), (5, .long y5), (7, .int y7)]) : W p l e (rmm 1) s m args below meth c H locs 0 0 (QL below G A args s res [uX12 G o_t a_t v_t, uA G 63 (a_t 0) v_t_now]) (F0 m 6 ls []) := by
  unfold b_X12_sums_6 at hf
  refine lv_iload C.hx C.hb dX12_sums_6 (lv_at hl 4 rfl) ?_
  refine lv_iload C.hx C.hb dX12_sums_8 (lv_at hl 2 rfl) ?_
  refine lv_icmp_ge (tgt := 38) C.hx C.hb dX12_sums_10 (by decide) (fun zc1 => ?_) (fun zc1 => ?_)
  · replace hf := it_t zc1 hf
    refine lv_lload C.hx C.hb dX12_sums_38 (lv_at hl 3 rfl) ?_
    obtain rfl := Option.some.inj hf
    exact g_ret_l C h rfl rfl dX12_sums_40
  · replace hf := it_f zc1 hf
    refine lv_ldc2 C.hx C.hb C.hown (C.hts _ cw_X12_259) dX12_sums_13 ?_
    refine lv_lload C.hx C.hb dX12_sums_16 (lv_at hl 3 rfl) ?_
    refine lv_lmul C.hx C.hb dX12_sums_18 ?_
    refine lv_aload_n C.hx C.hb dX12_sums_19 rfl (lv_at hl 0 rfl) ?_
    refine g_get C h fl_X12_7 0 0 rfl rfl (v := .ref (a_t 0)) rfl dX12_sums_20 ?_
    refine lv_iload_n C.hx C.hb dX12_sums_23 rfl (lv_at hl 1 rfl) ?_
    refine lv_iload C.hx C.hb dX12_sums_24 (lv_at hl 4 rfl) ?_
    refine lv_iadd C.hx C.hb dX12_sums_26 ?_
    obtain ⟨zi2, hf⟩ := ck_some hf
    refine g_iald C h 1 0 rfl rfl (f := v_t_now) zi2 dX12_sums_27 ?_
    refine lv_i2l C.hx C.hb dX12_sums_28 rfl ?_
    refine lv_ladd C.hx C.hb dX12_sums_29 ?_
    refine lv_lstore (lv' := [(5, .long ((31 * y5) + ((v_t_now (y3 + y7).toNatClampNeg).toInt64))), (0, .ref o_t), (3, .int y3), (4, .int y4), (7, .int y7)]) C.hx C.hb dX12_sums_30 hl (by decide) rfl (fun ls hl => ?_)
    refine lv_iinc (v := y7 + 1) (lv' := [(7, .int (y7 + 1)), (5, .long ((31 * y5) + ((v_t_now (y3 + y7).toNatClampNeg).toInt64))), (0, .ref o_t), (3, .int y3), (4, .int y4)]) C.hx C.hb dX12_sums_32 hl (k := 4) rfl rfl (by decide) rfl (fun ls hl => ?_)
    refine lv_goto (tgt := 6) C.hx C.hb dX12_sums_35 (by decide) ?_
    exact hg6 hf h (lv_sub hl [2, 3, 4, 1, 0] rfl)
set_option maxRecDepth 100000 in
set_option maxHeartbeats 4000000 in
theorem l_X12_sums_6 {p : Program} {l : Launch} {e : Env} {s : State} {m : MethodId} {args : Array Value} {below : List Frame} {meth : Method} {c : Code} {G : GG} {A : Nat → Prop} {o_t : Nat} {a_t : Nat → Nat} {N : Nat}  {res : Int64} (C : MC RX12 cX12_sums 8 (some .long) G A p s m args meth c)  : ∀ (k : Nat) {v_t : US} {v_t_now : Nat → Int32} {y3 : Int32} {y4 : Int32} {y5 : Int64} {y7 : Int32}, f_X12_sums_6 N k v_t v_t_now y3 y4 y5 y7 = some res → ∀ {H : Heap} {locs : List Loc} {ls : Array Slot}, HP G A s [uX12 G o_t a_t v_t, uA G 63 (a_t 0) v_t_now] H locs → lv_has ls 8 [(0, .ref o_t), (3, .int y3), (4, .int y4), (5, .long y5), (7, .int y7)] → W p l e (rmm 1) s m args below meth c H locs 0 0 (QL below G A args s res [uX12 G o_t a_t v_t, uA G 63 (a_t 0) v_t_now]) (F0 m 6 ls []) := by
  intro k
  induction k with
  | zero => intros; contradiction
  | succ k ih =>
    intro v_t v_t_now y3 y4 y5 y7 hf H locs ls h hl
    exact w_X12_sums_6 (N := N) C ih hf h hl
set_option maxRecDepth 100000 in
set_option maxHeartbeats 4000000 in
theorem c_X12_sums (l : Launch) (G : GG) (o_t : Nat) (a_t : Nat → Nat) (N : Nat) {v_t : US} {v_t_now : Nat → Int32} {x1 : Int64} {x3 : Int32} {x4 : Int32} {res : Int64} (hf : f_X12_sums N v_t v_t_now x1 x3 x4 = some res) : ML l yX12_sums cX12_sums 8 (some .long) 1 [.ref o_t, .long x1, .int x3, .int x4] G [uX12 G o_t a_t v_t, uA G 63 (a_t 0) v_t_now] res [uX12 G o_t a_t v_t, uA G 63 (a_t 0) v_t_now] := by
  unfold f_X12_sums at hf
  refine ML.intro (by decide) rfl (Nat.le_of_ble_eq_true rfl) (fun p e s m args below meth c A ls C h hl => ?_)
  have C : MC RX12 cX12_sums 8 (some .long) G A p s m args meth c := C
  have hl : lv_has ls 8 [(0, .ref o_t), (1, .long x1), (3, .int x3), (4, .int x4)] := hl
  refine lv_lload_n C.hx C.hb dX12_sums_0 rfl (lv_at hl 1 rfl) ?_
  refine lv_lstore (lv' := [(5, .long x1), (0, .ref o_t), (1, .long x1), (3, .int x3), (4, .int x4)]) C.hx C.hb dX12_sums_1 hl (by decide) rfl (fun ls hl => ?_)
  refine lv_iconst (v := 0) C.hx C.hb dX12_sums_3 (by decide) ?_
  refine lv_istore (lv' := [(7, .int 0), (5, .long x1), (0, .ref o_t), (1, .long x1), (3, .int x3), (4, .int x4)]) C.hx C.hb dX12_sums_4 hl (by decide) rfl (fun ls hl => ?_)
  exact l_X12_sums_6 C N hf h (lv_sub hl [2, 4, 5, 1, 0] rfl)

def b_X12_digest_6 (N : Nat) (g6 : US → (Nat → Int32) → Int64 → Int32 → Option (Int64)) (v_t : US) (v_t_now : Nat → Int32) (y1 : Int64) (y3 : Int32) : Option (Int64) :=
  if 7 ≤ y3 then (if (27 : Int32) < 0 ∨ 63 ≤ (27 : Int32).toNatClampNeg then none else ((f_X12_things v_t v_t_now).bind fun zr3 => (f_X12_sums N v_t v_t_now ((31 * y1) + ((v_t_now (27 : Int32).toNatClampNeg).toInt64)) 1 (5 * zr3)).bind fun zr6 => (f_X12_errands v_t v_t_now).bind fun zr9 => (f_X12_sums N v_t v_t_now zr6 29 (2 * zr9)).bind fun zr12 => (f_X12_rules v_t v_t_now).bind fun zr15 => (f_X12_sums N v_t v_t_now zr12 40 (3 * zr15)).bind fun zr18 => some ((31 * ((31 * zr18) + (v_t.2.1 4))) + (v_t.2.1 5)))) else ((f_X12_counted N v_t v_t_now y3).bind fun zr21 => g6 v_t v_t_now ((31 * y1) + zr21.toInt64) (y3 + 1))
def f_X12_digest_6 (N : Nat)  : Nat → US → (Nat → Int32) → Int64 → Int32 → Option (Int64)
  | 0 => fun _ _ _ _ => none
  | k + 1 => fun q0 q1 q2 q3 => b_X12_digest_6 N  (f_X12_digest_6 N  k) q0 q1 q2 q3
def f_X12_digest (N : Nat) (v_t : US) (v_t_now : Nat → Int32)  : Option (Int64) :=
  f_X12_digest_6 N N v_t v_t_now 773 0
set_option maxRecDepth 100000 in
set_option maxHeartbeats 4000000 in
theorem w_X12_digest_6 {p : Program} {l : Launch} {e : Env} {s : State} {m : MethodId} {args : Array Value} {below : List Frame} {meth : Method} {c : Code} {G : GG} {A : Nat → Prop} {o_t : Nat} {a_t : Nat → Nat} {N : Nat} {g6 : US → (Nat → Int32) → Int64 → Int32 → Option (Int64)} {v_t : US} {v_t_now : Nat → Int32} {y1 : Int64} {y3 : Int32} {res : Int64} (C : MC RX12 cX12_digest 4 (some .long) G A p s m args meth c) (hg6 : ∀ {v_t : US} {v_t_now : Nat → Int32} {y1 : Int64} {y3 : Int32}, g6 v_t v_t_now y1 y3 = some res → ∀ {H : Heap} {locs : List Loc} {ls : Array Slot}, HP G A s [uX12 G o_t a_t v_t, uA G 63 (a_t 0) v_t_now] H locs → lv_has ls 4 [(0, .ref o_t), (1, .long y1), (3, .int y3)] → W p l e (rmm 4) s m args below meth c H locs 0 0 (QL below G A args s res [uX12 G o_t a_t v_t, uA G 63 (a_t 0) v_t_now]) (F0 m 6 ls [])) (hf : b_X12_digest_6 N g6 v_t v_t_now y1 y3 = some res) {H : Heap} {locs : List Loc} {ls : Array Slot} (h : HP G A s [uX12 G o_t a_t v_t, uA G 63 (a_t 0) v_t_now] H locs) (hl : lv_has ls 4 [(0, .ref o_t), (1, .long y1), (3, .int y3)]) : W p l e (rmm 4) s m args below meth c H locs 0 0 (QL below G A args s res [uX12 G o_t a_t v_t, uA G 63 (a_t 0) v_t_now]) (F0 m 6 ls []) := by
  unfold b_X12_digest_6 at hf
  refine lv_iload_n C.hx C.hb dX12_digest_6 rfl (lv_at hl 2 rfl) ?_
  refine lv_bipush (v := 7) C.hx C.hb dX12_digest_7 (by decide) ?_
  refine lv_icmp_ge (tgt := 31) C.hx C.hb dX12_digest_9 (by decide) (fun zc1 => ?_) (fun zc1 => ?_)
  · replace hf := it_t zc1 hf
    refine lv_ldc2 C.hx C.hb C.hown (C.hts _ cw_X12_259) dX12_digest_31 ?_
    refine lv_lload_n C.hx C.hb dX12_digest_34 rfl (lv_at hl 1 rfl) ?_
    refine lv_lmul C.hx C.hb dX12_digest_35 ?_
    refine lv_aload_n C.hx C.hb dX12_digest_36 rfl (lv_at hl 0 rfl) ?_
    refine g_get C h fl_X12_7 0 0 rfl rfl (v := .ref (a_t 0)) rfl dX12_digest_37 ?_
    refine lv_bipush (v := 27) C.hx C.hb dX12_digest_40 (by decide) ?_
    obtain ⟨zi2, hf⟩ := ck_some hf
    refine g_iald C h 1 0 rfl rfl (f := v_t_now) zi2 dX12_digest_42 ?_
    refine lv_i2l C.hx C.hb dX12_digest_43 rfl ?_
    refine lv_ladd C.hx C.hb dX12_digest_44 ?_
    refine lv_lstore_n (lv' := [(1, .long ((31 * y1) + ((v_t_now (27 : Int32).toNatClampNeg).toInt64))), (0, .ref o_t), (3, .int y3)]) C.hx C.hb dX12_digest_45 rfl hl (by decide) rfl (fun ls hl => ?_)
    refine lv_aload_n C.hx C.hb dX12_digest_46 rfl (lv_at hl 1 rfl) ?_
    refine lv_lload_n C.hx C.hb dX12_digest_47 rfl (lv_at hl 0 rfl) ?_
    refine lv_iconst (v := 1) C.hx C.hb dX12_digest_48 (by decide) ?_
    refine lv_iconst (v := 5) C.hx C.hb dX12_digest_49 (by decide) ?_
    refine lv_aload_n C.hx C.hb dX12_digest_50 rfl (lv_at hl 1 rfl) ?_
    obtain ⟨zr3, zq4, hf⟩ := bd_some hf
    have zm5 := c_X12_things l G o_t a_t (hf := zq4)
    refine g_goI C h zm5.1 (is := [0, 1]) rfl rfl (g_runV C h (is := [0, 1]) rfl rfl (As := []) (rest := [.int 5, .int 1, .long ((31 * y1) + ((v_t_now (27 : Int32).toNatClampNeg).toInt64)), .ref o_t]) (zm5.2 _) vf_X12_48 0 0 rfl rfl hl.1 rfl rfl (Nat.le_of_ble_eq_true rfl) dX12_digest_51 ⟨Nat.le_of_ble_eq_true rfl, Nat.le_of_ble_eq_true rfl⟩ ⟨Nat.le_refl _, Nat.le_refl _⟩) (us2 := [uX12 G o_t a_t v_t, uA G 63 (a_t 0) v_t_now]) rfl (fun H locs h => ?_)
    refine lv_imul C.hx C.hb dX12_digest_54 ?_
    obtain ⟨zr6, zq7, hf⟩ := bd_some hf
    have zm8 := c_X12_sums l G o_t a_t N (hf := zq7)
    refine g_goL C h zm8.1 (is := [0, 1]) rfl rfl (g_runV C h (is := [0, 1]) rfl rfl (As := [.long ((31 * y1) + ((v_t_now (27 : Int32).toNatClampNeg).toInt64)), .int 1, .int (5 * zr3)]) (rest := []) (zm8.2 _) vf_X12_263 0 0 rfl rfl hl.1 rfl rfl (Nat.le_of_ble_eq_true rfl) dX12_digest_55 ⟨Nat.le_of_ble_eq_true rfl, Nat.le_of_ble_eq_true rfl⟩ ⟨Nat.le_refl _, Nat.le_refl _⟩) (us2 := [uX12 G o_t a_t v_t, uA G 63 (a_t 0) v_t_now]) rfl (fun H locs h => ?_)
    refine lv_lstore_n (lv' := [(1, .long zr6), (0, .ref o_t), (3, .int y3)]) C.hx C.hb dX12_digest_58 rfl hl (by decide) rfl (fun ls hl => ?_)
    refine lv_aload_n C.hx C.hb dX12_digest_59 rfl (lv_at hl 1 rfl) ?_
    refine lv_lload_n C.hx C.hb dX12_digest_60 rfl (lv_at hl 0 rfl) ?_
    refine lv_bipush (v := 29) C.hx C.hb dX12_digest_61 (by decide) ?_
    refine lv_iconst (v := 2) C.hx C.hb dX12_digest_63 (by decide) ?_
    refine lv_aload_n C.hx C.hb dX12_digest_64 rfl (lv_at hl 1 rfl) ?_
    obtain ⟨zr9, zq10, hf⟩ := bd_some hf
    have zm11 := c_X12_errands l G o_t a_t (hf := zq10)
    refine g_goI C h zm11.1 (is := [0, 1]) rfl rfl (g_runV C h (is := [0, 1]) rfl rfl (As := []) (rest := [.int 2, .int 29, .long zr6, .ref o_t]) (zm11.2 _) vf_X12_133 0 0 rfl rfl hl.1 rfl rfl (Nat.le_of_ble_eq_true rfl) dX12_digest_65 ⟨Nat.le_of_ble_eq_true rfl, Nat.le_of_ble_eq_true rfl⟩ ⟨Nat.le_refl _, Nat.le_refl _⟩) (us2 := [uX12 G o_t a_t v_t, uA G 63 (a_t 0) v_t_now]) rfl (fun H locs h => ?_)
    refine lv_imul C.hx C.hb dX12_digest_68 ?_
    obtain ⟨zr12, zq13, hf⟩ := bd_some hf
    have zm14 := c_X12_sums l G o_t a_t N (hf := zq13)
    refine g_goL C h zm14.1 (is := [0, 1]) rfl rfl (g_runV C h (is := [0, 1]) rfl rfl (As := [.long zr6, .int 29, .int (2 * zr9)]) (rest := []) (zm14.2 _) vf_X12_263 0 0 rfl rfl hl.1 rfl rfl (Nat.le_of_ble_eq_true rfl) dX12_digest_69 ⟨Nat.le_of_ble_eq_true rfl, Nat.le_of_ble_eq_true rfl⟩ ⟨Nat.le_refl _, Nat.le_refl _⟩) (us2 := [uX12 G o_t a_t v_t, uA G 63 (a_t 0) v_t_now]) rfl (fun H locs h => ?_)
    refine lv_lstore_n (lv' := [(1, .long zr12), (0, .ref o_t), (3, .int y3)]) C.hx C.hb dX12_digest_72 rfl hl (by decide) rfl (fun ls hl => ?_)
    refine lv_aload_n C.hx C.hb dX12_digest_73 rfl (lv_at hl 1 rfl) ?_
    refine lv_lload_n C.hx C.hb dX12_digest_74 rfl (lv_at hl 0 rfl) ?_
    refine lv_bipush (v := 40) C.hx C.hb dX12_digest_75 (by decide) ?_
    refine lv_iconst (v := 3) C.hx C.hb dX12_digest_77 (by decide) ?_
    refine lv_aload_n C.hx C.hb dX12_digest_78 rfl (lv_at hl 1 rfl) ?_
    obtain ⟨zr15, zq16, hf⟩ := bd_some hf
    have zm17 := c_X12_rules l G o_t a_t (hf := zq16)
    refine g_goI C h zm17.1 (is := [0, 1]) rfl rfl (g_runV C h (is := [0, 1]) rfl rfl (As := []) (rest := [.int 3, .int 40, .long zr12, .ref o_t]) (zm17.2 _) vf_X12_164 0 0 rfl rfl hl.1 rfl rfl (Nat.le_of_ble_eq_true rfl) dX12_digest_79 ⟨Nat.le_of_ble_eq_true rfl, Nat.le_of_ble_eq_true rfl⟩ ⟨Nat.le_refl _, Nat.le_refl _⟩) (us2 := [uX12 G o_t a_t v_t, uA G 63 (a_t 0) v_t_now]) rfl (fun H locs h => ?_)
    refine lv_imul C.hx C.hb dX12_digest_82 ?_
    obtain ⟨zr18, zq19, hf⟩ := bd_some hf
    have zm20 := c_X12_sums l G o_t a_t N (hf := zq19)
    refine g_goL C h zm20.1 (is := [0, 1]) rfl rfl (g_runV C h (is := [0, 1]) rfl rfl (As := [.long zr12, .int 40, .int (3 * zr15)]) (rest := []) (zm20.2 _) vf_X12_263 0 0 rfl rfl hl.1 rfl rfl (Nat.le_of_ble_eq_true rfl) dX12_digest_83 ⟨Nat.le_of_ble_eq_true rfl, Nat.le_of_ble_eq_true rfl⟩ ⟨Nat.le_refl _, Nat.le_refl _⟩) (us2 := [uX12 G o_t a_t v_t, uA G 63 (a_t 0) v_t_now]) rfl (fun H locs h => ?_)
    refine lv_lstore_n (lv' := [(1, .long zr18), (0, .ref o_t), (3, .int y3)]) C.hx C.hb dX12_digest_86 rfl hl (by decide) rfl (fun ls hl => ?_)
    refine lv_ldc2 C.hx C.hb C.hown (C.hts _ cw_X12_259) dX12_digest_87 ?_
    refine lv_ldc2 C.hx C.hb C.hown (C.hts _ cw_X12_259) dX12_digest_90 ?_
    refine lv_lload_n C.hx C.hb dX12_digest_93 rfl (lv_at hl 0 rfl) ?_
    refine lv_lmul C.hx C.hb dX12_digest_94 ?_
    refine lv_aload_n C.hx C.hb dX12_digest_95 rfl (lv_at hl 1 rfl) ?_
    refine g_get C h fl_X12_183 0 0 rfl rfl (v := .long (v_t.2.1 4)) rfl dX12_digest_96 ?_
    refine lv_ladd C.hx C.hb dX12_digest_99 ?_
    refine lv_lmul C.hx C.hb dX12_digest_100 ?_
    refine lv_aload_n C.hx C.hb dX12_digest_101 rfl (lv_at hl 1 rfl) ?_
    refine g_get C h fl_X12_23 0 0 rfl rfl (v := .long (v_t.2.1 5)) rfl dX12_digest_102 ?_
    refine lv_ladd C.hx C.hb dX12_digest_105 ?_
    obtain rfl := Option.some.inj hf
    exact g_ret_l C h rfl rfl dX12_digest_106
  · replace hf := it_f zc1 hf
    refine lv_ldc2 C.hx C.hb C.hown (C.hts _ cw_X12_259) dX12_digest_12 ?_
    refine lv_lload_n C.hx C.hb dX12_digest_15 rfl (lv_at hl 1 rfl) ?_
    refine lv_lmul C.hx C.hb dX12_digest_16 ?_
    refine lv_aload_n C.hx C.hb dX12_digest_17 rfl (lv_at hl 0 rfl) ?_
    refine lv_iload_n C.hx C.hb dX12_digest_18 rfl (lv_at hl 2 rfl) ?_
    obtain ⟨zr21, zq22, hf⟩ := bd_some hf
    have zm23 := c_X12_counted l G o_t a_t N (hf := zq22)
    refine g_goI C h zm23.1 (is := [0, 1]) rfl rfl (g_runV C h (is := [0, 1]) rfl rfl (As := [.int y3]) (rest := [.long (31 * y1)]) (zm23.2 _) vf_X12_256 0 0 rfl rfl hl.1 rfl rfl (Nat.le_of_ble_eq_true rfl) dX12_digest_19 ⟨Nat.le_of_ble_eq_true rfl, Nat.le_of_ble_eq_true rfl⟩ ⟨Nat.le_refl _, Nat.le_refl _⟩) (us2 := [uX12 G o_t a_t v_t, uA G 63 (a_t 0) v_t_now]) rfl (fun H locs h => ?_)
    refine lv_i2l C.hx C.hb dX12_digest_22 rfl ?_
    refine lv_ladd C.hx C.hb dX12_digest_23 ?_
    refine lv_lstore_n (lv' := [(1, .long ((31 * y1) + zr21.toInt64)), (0, .ref o_t), (3, .int y3)]) C.hx C.hb dX12_digest_24 rfl hl (by decide) rfl (fun ls hl => ?_)
    refine lv_iinc (v := y3 + 1) (lv' := [(3, .int (y3 + 1)), (1, .long ((31 * y1) + zr21.toInt64)), (0, .ref o_t)]) C.hx C.hb dX12_digest_25 hl (k := 2) rfl rfl (by decide) rfl (fun ls hl => ?_)
    refine lv_goto (tgt := 6) C.hx C.hb dX12_digest_28 (by decide) ?_
    exact hg6 hf h (lv_sub hl [2, 1, 0] rfl)
set_option maxRecDepth 100000 in
set_option maxHeartbeats 4000000 in
theorem l_X12_digest_6 {p : Program} {l : Launch} {e : Env} {s : State} {m : MethodId} {args : Array Value} {below : List Frame} {meth : Method} {c : Code} {G : GG} {A : Nat → Prop} {o_t : Nat} {a_t : Nat → Nat} {N : Nat}  {res : Int64} (C : MC RX12 cX12_digest 4 (some .long) G A p s m args meth c)  : ∀ (k : Nat) {v_t : US} {v_t_now : Nat → Int32} {y1 : Int64} {y3 : Int32}, f_X12_digest_6 N k v_t v_t_now y1 y3 = some res → ∀ {H : Heap} {locs : List Loc} {ls : Array Slot}, HP G A s [uX12 G o_t a_t v_t, uA G 63 (a_t 0) v_t_now] H locs → lv_has ls 4 [(0, .ref o_t), (1, .long y1), (3, .int y3)] → W p l e (rmm 4) s m args below meth c H locs 0 0 (QL below G A args s res [uX12 G o_t a_t v_t, uA G 63 (a_t 0) v_t_now]) (F0 m 6 ls []) := by
  intro k
  induction k with
  | zero => intros; contradiction
  | succ k ih =>
    intro v_t v_t_now y1 y3 hf H locs ls h hl
    exact w_X12_digest_6 (N := N) C ih hf h hl
set_option maxRecDepth 100000 in
set_option maxHeartbeats 4000000 in
theorem c_X12_digest (l : Launch) (G : GG) (o_t : Nat) (a_t : Nat → Nat) (N : Nat) {v_t : US} {v_t_now : Nat → Int32}  {res : Int64} (hf : f_X12_digest N v_t v_t_now = some res) : ML l yX12_digest cX12_digest 4 (some .long) 4 [.ref o_t] G [uX12 G o_t a_t v_t, uA G 63 (a_t 0) v_t_now] res [uX12 G o_t a_t v_t, uA G 63 (a_t 0) v_t_now] := by
  unfold f_X12_digest at hf
  refine ML.intro (by decide) rfl (Nat.le_of_ble_eq_true rfl) (fun p e s m args below meth c A ls C h hl => ?_)
  have C : MC RX12 cX12_digest 4 (some .long) G A p s m args meth c := C
  have hl : lv_has ls 4 [(0, .ref o_t)] := hl
  refine lv_ldc2 C.hx C.hb C.hown (C.hts _ cw_X12_261) dX12_digest_0 ?_
  refine lv_lstore_n (lv' := [(1, .long 773), (0, .ref o_t)]) C.hx C.hb dX12_digest_3 rfl hl (by decide) rfl (fun ls hl => ?_)
  refine lv_iconst (v := 0) C.hx C.hb dX12_digest_4 (by decide) ?_
  refine lv_istore_n (lv' := [(3, .int 0), (1, .long 773), (0, .ref o_t)]) C.hx C.hb dX12_digest_5 rfl hl (by decide) rfl (fun ls hl => ?_)
  exact l_X12_digest_6 C N hf h (lv_sub hl [2, 1, 0] rfl)

def f_X12_no (v_t : US) (x1 : Int32) : Option (Int32 × US) :=
  if (1 : Int32) < 0 ∨ 3 ≤ (1 : Int32).toNatClampNeg then none else (if (1 : Int32) < 0 ∨ 3 ≤ (1 : Int32).toNatClampNeg then none else (some (x1, upa v_t 3 ((1 : Int32).toNatClampNeg) (((v_t.2.2 3) (1 : Int32).toNatClampNeg) + 1))))
set_option maxRecDepth 100000 in
set_option maxHeartbeats 4000000 in
theorem c_X12_no (l : Launch) (G : GG) (o_t : Nat) (a_t : Nat → Nat) {v_t : US} {x1 : Int32} {res : Int32 × US} (hf : f_X12_no v_t x1 = some res) : MI l yX12_no cX12_no 2 (some .int) 1 [.ref o_t, .int x1] G [uX12 G o_t a_t v_t] res.1 [uX12 G o_t a_t res.2] := by
  unfold f_X12_no at hf
  refine MI.intro (by decide) rfl (Nat.le_of_ble_eq_true rfl) (fun p e s m args below meth c A ls C h hl => ?_)
  have C : MC RX12 cX12_no 2 (some .int) G A p s m args meth c := C
  have hl : lv_has ls 2 [(0, .ref o_t), (1, .int x1)] := hl
  refine lv_aload_n C.hx C.hb dX12_no_0 rfl (lv_at hl 0 rfl) ?_
  refine g_get C h fl_X12_20 0 0 rfl rfl (v := .ref (a_t 3)) rfl dX12_no_1 ?_
  refine lv_iconst (v := 1) C.hx C.hb dX12_no_4 (by decide) ?_
  refine lv_dup2_11 C.hx C.hb dX12_no_5 rfl rfl ?_
  obtain ⟨zi1, hf⟩ := ck_some hf
  refine g_iald C h 0 3 rfl rfl (f := v_t.2.2 3) zi1 dX12_no_6 ?_
  refine lv_iconst (v := 1) C.hx C.hb dX12_no_7 (by decide) ?_
  refine lv_iadd C.hx C.hb dX12_no_8 ?_
  obtain ⟨zi2, hf⟩ := ck_some hf
  refine g_iast C h 0 3 rfl rfl (f := v_t.2.2 3) zi2 dX12_no_9 (u' := uX12 G o_t a_t (upa v_t 3 ((1 : Int32).toNatClampNeg) (((v_t.2.2 3) (1 : Int32).toNatClampNeg) + 1))) (us' := [uX12 G o_t a_t (upa v_t 3 ((1 : Int32).toNatClampNeg) (((v_t.2.2 3) (1 : Int32).toNatClampNeg) + 1))]) rfl rfl (fun H locs h => ?_)
  refine lv_iload_n C.hx C.hb dX12_no_10 rfl (lv_at hl 1 rfl) ?_
  obtain rfl := Option.some.inj hf
  exact g_ret_i C h rfl rfl dX12_no_11

def f_X12_drop (v_t : US) (v_t_now : Nat → Int32)  : Option (Int32 × US × (Nat → Int32)) :=
  (f_X12_errands v_t v_t_now).bind fun zr1 => if zr1 = 0 then ((f_X12_no v_t (-3)).bind fun zr10 => some (zr10.1, zr10.2, v_t_now)) else (if (28 : Int32) < 0 ∨ 63 ≤ (28 : Int32).toNatClampNeg then none else (if (28 : Int32) < 0 ∨ 63 ≤ (28 : Int32).toNatClampNeg then none else ((f_X12_errands v_t (upd v_t_now (28 : Int32).toNatClampNeg ((v_t_now (28 : Int32).toNatClampNeg) - 1))).bind fun zr7 => some (zr7, v_t, upd v_t_now (28 : Int32).toNatClampNeg ((v_t_now (28 : Int32).toNatClampNeg) - 1)))))
set_option maxRecDepth 100000 in
set_option maxHeartbeats 4000000 in
theorem c_X12_drop (l : Launch) (G : GG) (o_t : Nat) (a_t : Nat → Nat) {v_t : US} {v_t_now : Nat → Int32}  {res : Int32 × US × (Nat → Int32)} (hf : f_X12_drop v_t v_t_now = some res) : MI l yX12_drop cX12_drop 1 (some .int) 2 [.ref o_t] G [uX12 G o_t a_t v_t, uA G 63 (a_t 0) v_t_now] res.1 [uX12 G o_t a_t res.2.1, uA G 63 (a_t 0) res.2.2] := by
  unfold f_X12_drop at hf
  refine MI.intro (by decide) rfl (Nat.le_of_ble_eq_true rfl) (fun p e s m args below meth c A ls C h hl => ?_)
  have C : MC RX12 cX12_drop 1 (some .int) G A p s m args meth c := C
  have hl : lv_has ls 1 [(0, .ref o_t)] := hl
  refine lv_aload_n C.hx C.hb dX12_drop_0 rfl (lv_at hl 0 rfl) ?_
  obtain ⟨zr1, zq2, hf⟩ := bd_some hf
  have zm3 := c_X12_errands l G o_t a_t (hf := zq2)
  refine g_goI C h zm3.1 (is := [0, 1]) rfl rfl (g_runV C h (is := [0, 1]) rfl rfl (As := []) (rest := []) (zm3.2 _) vf_X12_133 0 0 rfl rfl hl.1 rfl rfl (Nat.le_of_ble_eq_true rfl) dX12_drop_1 ⟨Nat.le_of_ble_eq_true rfl, Nat.le_of_ble_eq_true rfl⟩ ⟨Nat.le_refl _, Nat.le_refl _⟩) (us2 := [uX12 G o_t a_t v_t, uA G 63 (a_t 0) v_t_now]) rfl (fun H locs h => ?_)
  refine lv_if_ne (tgt := 14) C.hx C.hb dX12_drop_4 (by decide) (fun zc4 => ?_) (fun zc4 => ?_)
  · replace hf := it_f zc4 hf
    refine lv_aload_n C.hx C.hb dX12_drop_14 rfl (lv_at hl 0 rfl) ?_
    refine g_get C h fl_X12_7 0 0 rfl rfl (v := .ref (a_t 0)) rfl dX12_drop_15 ?_
    refine lv_bipush (v := 28) C.hx C.hb dX12_drop_18 (by decide) ?_
    refine lv_dup2_11 C.hx C.hb dX12_drop_20 rfl rfl ?_
    obtain ⟨zi5, hf⟩ := ck_some hf
    refine g_iald C h 1 0 rfl rfl (f := v_t_now) zi5 dX12_drop_21 ?_
    refine lv_iconst (v := 1) C.hx C.hb dX12_drop_22 (by decide) ?_
    refine lv_isub C.hx C.hb dX12_drop_23 ?_
    obtain ⟨zi6, hf⟩ := ck_some hf
    refine g_iast C h 1 0 rfl rfl (f := v_t_now) zi6 dX12_drop_24 (u' := uA G 63 (a_t 0) (upd v_t_now (28 : Int32).toNatClampNeg ((v_t_now (28 : Int32).toNatClampNeg) - 1))) (us' := [uX12 G o_t a_t v_t, uA G 63 (a_t 0) (upd v_t_now (28 : Int32).toNatClampNeg ((v_t_now (28 : Int32).toNatClampNeg) - 1))]) rfl rfl (fun H locs h => ?_)
    refine lv_aload_n C.hx C.hb dX12_drop_25 rfl (lv_at hl 0 rfl) ?_
    obtain ⟨zr7, zq8, hf⟩ := bd_some hf
    have zm9 := c_X12_errands l G o_t a_t (hf := zq8)
    refine g_goI C h zm9.1 (is := [0, 1]) rfl rfl (g_runV C h (is := [0, 1]) rfl rfl (As := []) (rest := []) (zm9.2 _) vf_X12_133 0 0 rfl rfl hl.1 rfl rfl (Nat.le_of_ble_eq_true rfl) dX12_drop_26 ⟨Nat.le_of_ble_eq_true rfl, Nat.le_of_ble_eq_true rfl⟩ ⟨Nat.le_refl _, Nat.le_refl _⟩) (us2 := [uX12 G o_t a_t v_t, uA G 63 (a_t 0) (upd v_t_now (28 : Int32).toNatClampNeg ((v_t_now (28 : Int32).toNatClampNeg) - 1))]) rfl (fun H locs h => ?_)
    obtain rfl := Option.some.inj hf
    exact g_ret_i C h rfl rfl dX12_drop_29
  · replace hf := it_t zc4 hf
    refine lv_aload_n C.hx C.hb dX12_drop_7 rfl (lv_at hl 0 rfl) ?_
    refine lv_bipush (v := (-3)) C.hx C.hb dX12_drop_8 (by decide) ?_
    obtain ⟨zr10, zq11, hf⟩ := bd_some hf
    have zm12 := c_X12_no l G o_t a_t (hf := zq11)
    refine g_goI C h zm12.1 (is := [0]) rfl rfl (g_runV C h (is := [0]) rfl rfl (As := [.int (-3)]) (rest := []) (zm12.2 _) vf_X12_79 0 0 rfl rfl hl.1 rfl rfl (Nat.le_of_ble_eq_true rfl) dX12_drop_10 ⟨Nat.le_of_ble_eq_true rfl, Nat.le_of_ble_eq_true rfl⟩ ⟨Nat.le_refl _, Nat.le_refl _⟩) (us2 := [uX12 G o_t a_t zr10.2, uA G 63 (a_t 0) v_t_now]) rfl (fun H locs h => ?_)
    obtain rfl := Option.some.inj hf
    exact g_ret_i C h rfl rfl dX12_drop_13

def f_X12_full (v_t : US)  : Option (Int32 × US) :=
  if (2 : Int32) < 0 ∨ 3 ≤ (2 : Int32).toNatClampNeg then none else (if (2 : Int32) < 0 ∨ 3 ≤ (2 : Int32).toNatClampNeg then none else (some ((-4), upa v_t 3 ((2 : Int32).toNatClampNeg) (((v_t.2.2 3) (2 : Int32).toNatClampNeg) + 1))))
set_option maxRecDepth 100000 in
set_option maxHeartbeats 4000000 in
theorem c_X12_full (l : Launch) (G : GG) (o_t : Nat) (a_t : Nat → Nat) {v_t : US}  {res : Int32 × US} (hf : f_X12_full v_t = some res) : MI l yX12_full cX12_full 1 (some .int) 1 [.ref o_t] G [uX12 G o_t a_t v_t] res.1 [uX12 G o_t a_t res.2] := by
  unfold f_X12_full at hf
  refine MI.intro (by decide) rfl (Nat.le_of_ble_eq_true rfl) (fun p e s m args below meth c A ls C h hl => ?_)
  have C : MC RX12 cX12_full 1 (some .int) G A p s m args meth c := C
  have hl : lv_has ls 1 [(0, .ref o_t)] := hl
  refine lv_aload_n C.hx C.hb dX12_full_0 rfl (lv_at hl 0 rfl) ?_
  refine g_get C h fl_X12_20 0 0 rfl rfl (v := .ref (a_t 3)) rfl dX12_full_1 ?_
  refine lv_iconst (v := 2) C.hx C.hb dX12_full_4 (by decide) ?_
  refine lv_dup2_11 C.hx C.hb dX12_full_5 rfl rfl ?_
  obtain ⟨zi1, hf⟩ := ck_some hf
  refine g_iald C h 0 3 rfl rfl (f := v_t.2.2 3) zi1 dX12_full_6 ?_
  refine lv_iconst (v := 1) C.hx C.hb dX12_full_7 (by decide) ?_
  refine lv_iadd C.hx C.hb dX12_full_8 ?_
  obtain ⟨zi2, hf⟩ := ck_some hf
  refine g_iast C h 0 3 rfl rfl (f := v_t.2.2 3) zi2 dX12_full_9 (u' := uX12 G o_t a_t (upa v_t 3 ((2 : Int32).toNatClampNeg) (((v_t.2.2 3) (2 : Int32).toNatClampNeg) + 1))) (us' := [uX12 G o_t a_t (upa v_t 3 ((2 : Int32).toNatClampNeg) (((v_t.2.2 3) (2 : Int32).toNatClampNeg) + 1))]) rfl rfl (fun H locs h => ?_)
  refine lv_bipush (v := (-4)) C.hx C.hb dX12_full_10 (by decide) ?_
  obtain rfl := Option.some.inj hf
  exact g_ret_i C h rfl rfl dX12_full_12

def f_X12_errand (v_t : US) (v_t_now : Nat → Int32) (x1 : Int32) (x2 : Int32) : Option (Int32 × US × (Nat → Int32)) :=
  (f_X12_isPull v_t v_t_now x1 x2).bind fun zr1 => if (b2i zr1) = 0 then ((f_X12_bad v_t (-2)).bind fun zr18 => some (zr18.1, zr18.2, v_t_now)) else ((f_X12_errands v_t v_t_now).bind fun zr5 => if zr5 = 5 then ((f_X12_full v_t).bind fun zr15 => some (zr15.1, zr15.2, v_t_now)) else (if (29 + (2 * zr5)) < 0 ∨ 63 ≤ (29 + (2 * zr5)).toNatClampNeg then none else (bnd (upd v_t_now (29 + (2 * zr5)).toNatClampNeg x1) fun zw10 => if ((29 + (2 * zr5)) + 1) < 0 ∨ 63 ≤ ((29 + (2 * zr5)) + 1).toNatClampNeg then none else (if (28 : Int32) < 0 ∨ 63 ≤ (28 : Int32).toNatClampNeg then none else (bnd (upd zw10 ((29 + (2 * zr5)) + 1).toNatClampNeg x2) fun zw13 => if (28 : Int32) < 0 ∨ 63 ≤ (28 : Int32).toNatClampNeg then none else (some (zr5, v_t, upd zw13 (28 : Int32).toNatClampNeg (((upd zw10 ((29 + (2 * zr5)) + 1).toNatClampNeg x2) (28 : Int32).toNatClampNeg) + 1))))))))
set_option maxRecDepth 100000 in
set_option maxHeartbeats 4000000 in
theorem c_X12_errand (l : Launch) (G : GG) (o_t : Nat) (a_t : Nat → Nat) {v_t : US} {v_t_now : Nat → Int32} {x1 : Int32} {x2 : Int32} {res : Int32 × US × (Nat → Int32)} (hf : f_X12_errand v_t v_t_now x1 x2 = some res) : MI l yX12_errand cX12_errand 4 (some .int) 4 [.ref o_t, .int x1, .int x2] G [uX12 G o_t a_t v_t, uA G 63 (a_t 0) v_t_now] res.1 [uX12 G o_t a_t res.2.1, uA G 63 (a_t 0) res.2.2] := by
  unfold f_X12_errand at hf
  refine MI.intro (by decide) rfl (Nat.le_of_ble_eq_true rfl) (fun p e s m args below meth c A ls C h hl => ?_)
  have C : MC RX12 cX12_errand 4 (some .int) G A p s m args meth c := C
  have hl : lv_has ls 4 [(0, .ref o_t), (1, .int x1), (2, .int x2)] := hl
  refine lv_aload_n C.hx C.hb dX12_errand_0 rfl (lv_at hl 0 rfl) ?_
  refine lv_iload_n C.hx C.hb dX12_errand_1 rfl (lv_at hl 1 rfl) ?_
  refine lv_iload_n C.hx C.hb dX12_errand_2 rfl (lv_at hl 2 rfl) ?_
  obtain ⟨zr1, zq2, hf⟩ := bd_some hf
  have zm3 := c_X12_isPull l G o_t a_t (hf := zq2)
  refine g_goI C h zm3.1 (is := [0, 1]) rfl rfl (g_runV C h (is := [0, 1]) rfl rfl (As := [.int x1, .int x2]) (rest := []) (zm3.2 _) vf_X12_119 0 0 rfl rfl hl.1 rfl rfl (Nat.le_of_ble_eq_true rfl) dX12_errand_3 ⟨Nat.le_of_ble_eq_true rfl, Nat.le_of_ble_eq_true rfl⟩ ⟨Nat.le_refl _, Nat.le_refl _⟩) (us2 := [uX12 G o_t a_t v_t, uA G 63 (a_t 0) v_t_now]) rfl (fun H locs h => ?_)
  refine lv_if_ne (tgt := 16) C.hx C.hb dX12_errand_6 (by decide) (fun zc4 => ?_) (fun zc4 => ?_)
  · replace hf := it_f zc4 hf
    refine lv_aload_n C.hx C.hb dX12_errand_16 rfl (lv_at hl 0 rfl) ?_
    obtain ⟨zr5, zq6, hf⟩ := bd_some hf
    have zm7 := c_X12_errands l G o_t a_t (hf := zq6)
    refine g_goI C h zm7.1 (is := [0, 1]) rfl rfl (g_runV C h (is := [0, 1]) rfl rfl (As := []) (rest := []) (zm7.2 _) vf_X12_133 0 0 rfl rfl hl.1 rfl rfl (Nat.le_of_ble_eq_true rfl) dX12_errand_17 ⟨Nat.le_of_ble_eq_true rfl, Nat.le_of_ble_eq_true rfl⟩ ⟨Nat.le_refl _, Nat.le_refl _⟩) (us2 := [uX12 G o_t a_t v_t, uA G 63 (a_t 0) v_t_now]) rfl (fun H locs h => ?_)
    refine lv_istore_n (lv' := [(3, .int zr5), (0, .ref o_t), (1, .int x1), (2, .int x2)]) C.hx C.hb dX12_errand_20 rfl hl (by decide) rfl (fun ls hl => ?_)
    refine lv_iload_n C.hx C.hb dX12_errand_21 rfl (lv_at hl 0 rfl) ?_
    refine lv_iconst (v := 5) C.hx C.hb dX12_errand_22 (by decide) ?_
    refine lv_icmp_ne (tgt := 31) C.hx C.hb dX12_errand_23 (by decide) (fun zc8 => ?_) (fun zc8 => ?_)
    · replace hf := it_f zc8 hf
      refine lv_aload_n C.hx C.hb dX12_errand_31 rfl (lv_at hl 1 rfl) ?_
      refine g_get C h fl_X12_7 0 0 rfl rfl (v := .ref (a_t 0)) rfl dX12_errand_32 ?_
      refine lv_bipush (v := 29) C.hx C.hb dX12_errand_35 (by decide) ?_
      refine lv_iconst (v := 2) C.hx C.hb dX12_errand_37 (by decide) ?_
      refine lv_iload_n C.hx C.hb dX12_errand_38 rfl (lv_at hl 0 rfl) ?_
      refine lv_imul C.hx C.hb dX12_errand_39 ?_
      refine lv_iadd C.hx C.hb dX12_errand_40 ?_
      refine lv_iload_n C.hx C.hb dX12_errand_41 rfl (lv_at hl 2 rfl) ?_
      obtain ⟨zi9, hf⟩ := ck_some hf
      refine g_iast C h 1 0 rfl rfl (f := v_t_now) zi9 dX12_errand_42 (u' := uA G 63 (a_t 0) (upd v_t_now (29 + (2 * zr5)).toNatClampNeg x1)) (us' := [uX12 G o_t a_t v_t, uA G 63 (a_t 0) (upd v_t_now (29 + (2 * zr5)).toNatClampNeg x1)]) rfl rfl (fun H locs h => ?_)
      refine lv_aload_n C.hx C.hb dX12_errand_43 rfl (lv_at hl 1 rfl) ?_
      refine g_get C h fl_X12_7 0 0 rfl rfl (v := .ref (a_t 0)) rfl dX12_errand_44 ?_
      refine lv_bipush (v := 29) C.hx C.hb dX12_errand_47 (by decide) ?_
      refine lv_iconst (v := 2) C.hx C.hb dX12_errand_49 (by decide) ?_
      refine lv_iload_n C.hx C.hb dX12_errand_50 rfl (lv_at hl 0 rfl) ?_
      refine lv_imul C.hx C.hb dX12_errand_51 ?_
      refine lv_iadd C.hx C.hb dX12_errand_52 ?_
      refine lv_iconst (v := 1) C.hx C.hb dX12_errand_53 (by decide) ?_
      refine lv_iadd C.hx C.hb dX12_errand_54 ?_
      refine lv_iload_n C.hx C.hb dX12_errand_55 rfl (lv_at hl 3 rfl) ?_
      obtain ⟨zw10, hzw10, hf⟩ := bnd_some hf
      rw [← hzw10] at h
      obtain ⟨zi11, hf⟩ := ck_some hf
      refine g_iast C h 1 0 rfl rfl (f := zw10) zi11 dX12_errand_56 (u' := uA G 63 (a_t 0) (upd zw10 ((29 + (2 * zr5)) + 1).toNatClampNeg x2)) (us' := [uX12 G o_t a_t v_t, uA G 63 (a_t 0) (upd zw10 ((29 + (2 * zr5)) + 1).toNatClampNeg x2)]) rfl rfl (fun H locs h => ?_)
      refine lv_aload_n C.hx C.hb dX12_errand_57 rfl (lv_at hl 1 rfl) ?_
      refine g_get C h fl_X12_7 0 0 rfl rfl (v := .ref (a_t 0)) rfl dX12_errand_58 ?_
      refine lv_bipush (v := 28) C.hx C.hb dX12_errand_61 (by decide) ?_
      refine lv_dup2_11 C.hx C.hb dX12_errand_63 rfl rfl ?_
      obtain ⟨zi12, hf⟩ := ck_some hf
      refine g_iald C h 1 0 rfl rfl (f := upd zw10 ((29 + (2 * zr5)) + 1).toNatClampNeg x2) zi12 dX12_errand_64 ?_
      refine lv_iconst (v := 1) C.hx C.hb dX12_errand_65 (by decide) ?_
      refine lv_iadd C.hx C.hb dX12_errand_66 ?_
      obtain ⟨zw13, hzw13, hf⟩ := bnd_some hf
      rw [← hzw13] at h
      obtain ⟨zi14, hf⟩ := ck_some hf
      refine g_iast C h 1 0 rfl rfl (f := zw13) zi14 dX12_errand_67 (u' := uA G 63 (a_t 0) (upd zw13 (28 : Int32).toNatClampNeg (((upd zw10 ((29 + (2 * zr5)) + 1).toNatClampNeg x2) (28 : Int32).toNatClampNeg) + 1))) (us' := [uX12 G o_t a_t v_t, uA G 63 (a_t 0) (upd zw13 (28 : Int32).toNatClampNeg (((upd zw10 ((29 + (2 * zr5)) + 1).toNatClampNeg x2) (28 : Int32).toNatClampNeg) + 1))]) rfl rfl (fun H locs h => ?_)
      refine lv_iload_n C.hx C.hb dX12_errand_68 rfl (lv_at hl 0 rfl) ?_
      obtain rfl := Option.some.inj hf
      exact g_ret_i C h rfl rfl dX12_errand_69
    · replace hf := it_t zc8 hf
      refine lv_aload_n C.hx C.hb dX12_errand_26 rfl (lv_at hl 1 rfl) ?_
      obtain ⟨zr15, zq16, hf⟩ := bd_some hf
      have zm17 := c_X12_full l G o_t a_t (hf := zq16)
      refine g_goI C h zm17.1 (is := [0]) rfl rfl (g_runV C h (is := [0]) rfl rfl (As := []) (rest := []) (zm17.2 _) vf_X12_64 0 0 rfl rfl hl.1 rfl rfl (Nat.le_of_ble_eq_true rfl) dX12_errand_27 ⟨Nat.le_of_ble_eq_true rfl, Nat.le_of_ble_eq_true rfl⟩ ⟨Nat.le_refl _, Nat.le_refl _⟩) (us2 := [uX12 G o_t a_t zr15.2, uA G 63 (a_t 0) v_t_now]) rfl (fun H locs h => ?_)
      obtain rfl := Option.some.inj hf
      exact g_ret_i C h rfl rfl dX12_errand_30
  · replace hf := it_t zc4 hf
    refine lv_aload_n C.hx C.hb dX12_errand_9 rfl (lv_at hl 0 rfl) ?_
    refine lv_bipush (v := (-2)) C.hx C.hb dX12_errand_10 (by decide) ?_
    obtain ⟨zr18, zq19, hf⟩ := bd_some hf
    have zm20 := c_X12_bad l G o_t a_t (hf := zq19)
    refine g_goI C h zm20.1 (is := [0]) rfl rfl (g_runV C h (is := [0]) rfl rfl (As := [.int (-2)]) (rest := []) (zm20.2 _) vf_X12_60 0 0 rfl rfl hl.1 rfl rfl (Nat.le_of_ble_eq_true rfl) dX12_errand_12 ⟨Nat.le_of_ble_eq_true rfl, Nat.le_of_ble_eq_true rfl⟩ ⟨Nat.le_refl _, Nat.le_refl _⟩) (us2 := [uX12 G o_t a_t zr18.2, uA G 63 (a_t 0) v_t_now]) rfl (fun H locs h => ?_)
    obtain rfl := Option.some.inj hf
    exact g_ret_i C h rfl rfl dX12_errand_15

def b_X12_factorial_4 (N : Nat) (g4 : Int32 → Int32 → Int32 → Option (Int32))  (y0 : Int32) (y1 : Int32) (y2 : Int32) : Option (Int32) :=
  if y0 < y2 then (some (y1)) else (g4 y0 (y1 * y2) (y2 + 1))
def f_X12_factorial_4 (N : Nat)  : Nat → Int32 → Int32 → Int32 → Option (Int32)
  | 0 => fun _ _ _ => none
  | k + 1 => fun q0 q1 q2 => b_X12_factorial_4 N  (f_X12_factorial_4 N  k) q0 q1 q2
def f_X12_factorial (N : Nat)  (x0 : Int32) : Option (Int32) :=
  f_X12_factorial_4 N N x0 1 2
set_option maxRecDepth 100000 in
set_option maxHeartbeats 4000000 in
theorem w_X12_factorial_4 {p : Program} {l : Launch} {e : Env} {s : State} {m : MethodId} {args : Array Value} {below : List Frame} {meth : Method} {c : Code} {G : GG} {A : Nat → Prop} {N : Nat} {g4 : Int32 → Int32 → Int32 → Option (Int32)}  {y0 : Int32} {y1 : Int32} {y2 : Int32} {res : Int32} (C : MC RX12 cX12_factorial 3 (some .int) G A p s m args meth c) (hg4 : ∀  {y0 : Int32} {y1 : Int32} {y2 : Int32}, g4 y0 y1 y2 = some res → ∀ {H : Heap} {locs : List Loc} {ls : Array Slot}, HP G A s [] H locs → lv_has ls 3 [(0, .int y0), (1, .int y1), (2, .int y2)] → W p l e (rmm 1) s m args below meth c H locs 0 0 (QI below G A args s res []) (F0 m 4 ls [])) (hf : b_X12_factorial_4 N g4 y0 y1 y2 = some res) {H : Heap} {locs : List Loc} {ls : Array Slot} (h : HP G A s [] H locs) (hl : lv_has ls 3 [(0, .int y0), (1, .int y1), (2, .int y2)]) : W p l e (rmm 1) s m args below meth c H locs 0 0 (QI below G A args s res []) (F0 m 4 ls []) := by
  unfold b_X12_factorial_4 at hf
  refine lv_iload_n C.hx C.hb dX12_factorial_4 rfl (lv_at hl 2 rfl) ?_
  refine lv_iload_n C.hx C.hb dX12_factorial_5 rfl (lv_at hl 0 rfl) ?_
  refine lv_icmp_gt (tgt := 19) C.hx C.hb dX12_factorial_6 (by decide) (fun zc1 => ?_) (fun zc1 => ?_)
  · replace hf := it_t zc1 hf
    refine lv_iload_n C.hx C.hb dX12_factorial_19 rfl (lv_at hl 1 rfl) ?_
    obtain rfl := Option.some.inj hf
    exact g_ret_i C h rfl rfl dX12_factorial_20
  · replace hf := it_f zc1 hf
    refine lv_iload_n C.hx C.hb dX12_factorial_9 rfl (lv_at hl 1 rfl) ?_
    refine lv_iload_n C.hx C.hb dX12_factorial_10 rfl (lv_at hl 2 rfl) ?_
    refine lv_imul C.hx C.hb dX12_factorial_11 ?_
    refine lv_istore_n (lv' := [(1, .int (y1 * y2)), (0, .int y0), (2, .int y2)]) C.hx C.hb dX12_factorial_12 rfl hl (by decide) rfl (fun ls hl => ?_)
    refine lv_iinc (v := y2 + 1) (lv' := [(2, .int (y2 + 1)), (1, .int (y1 * y2)), (0, .int y0)]) C.hx C.hb dX12_factorial_13 hl (k := 2) rfl rfl (by decide) rfl (fun ls hl => ?_)
    refine lv_goto (tgt := 4) C.hx C.hb dX12_factorial_16 (by decide) ?_
    exact hg4 hf h (lv_sub hl [2, 1, 0] rfl)
set_option maxRecDepth 100000 in
set_option maxHeartbeats 4000000 in
theorem l_X12_factorial_4 {p : Program} {l : Launch} {e : Env} {s : State} {m : MethodId} {args : Array Value} {below : List Frame} {meth : Method} {c : Code} {G : GG} {A : Nat → Prop} {N : Nat}  {res : Int32} (C : MC RX12 cX12_factorial 3 (some .int) G A p s m args meth c)  : ∀ (k : Nat)  {y0 : Int32} {y1 : Int32} {y2 : Int32}, f_X12_factorial_4 N k y0 y1 y2 = some res → ∀ {H : Heap} {locs : List Loc} {ls : Array Slot}, HP G A s [] H locs → lv_has ls 3 [(0, .int y0), (1, .int y1), (2, .int y2)] → W p l e (rmm 1) s m args below meth c H locs 0 0 (QI below G A args s res []) (F0 m 4 ls []) := by
  intro k
  induction k with
  | zero => intros; contradiction
  | succ k ih =>
    intro y0 y1 y2 hf H locs ls h hl
    exact w_X12_factorial_4 (N := N) C ih hf h hl
set_option maxRecDepth 100000 in
set_option maxHeartbeats 4000000 in
theorem c_X12_factorial (l : Launch) (G : GG) (N : Nat)  {x0 : Int32} {res : Int32} (hf : f_X12_factorial N x0 = some res) : MI l yX12_factorial cX12_factorial 3 (some .int) 1 [.int x0] G [] res [] := by
  unfold f_X12_factorial at hf
  refine MI.intro (by decide) rfl (Nat.le_of_ble_eq_true rfl) (fun p e s m args below meth c A ls C h hl => ?_)
  have C : MC RX12 cX12_factorial 3 (some .int) G A p s m args meth c := C
  have hl : lv_has ls 3 [(0, .int x0)] := hl
  refine lv_iconst (v := 1) C.hx C.hb dX12_factorial_0 (by decide) ?_
  refine lv_istore_n (lv' := [(1, .int 1), (0, .int x0)]) C.hx C.hb dX12_factorial_1 rfl hl (by decide) rfl (fun ls hl => ?_)
  refine lv_iconst (v := 2) C.hx C.hb dX12_factorial_2 (by decide) ?_
  refine lv_istore_n (lv' := [(2, .int 2), (1, .int 1), (0, .int x0)]) C.hx C.hb dX12_factorial_3 rfl hl (by decide) rfl (fun ls hl => ?_)
  exact l_X12_factorial_4 C N hf h (lv_sub hl [2, 1, 0] rfl)

def b_X12_isSo_4 (N : Nat) (g4 : US → (Nat → Int32) → Int32 → Bool → Int32 → Option (Bool × US)) (v_t : US) (v_t_now : Nat → Int32) (y1 : Int32) (y2 : Bool) (y3 : Int32) : Option (Bool × US) :=
  (f_X12_rules v_t v_t_now).bind fun zr1 => if zr1 ≤ y3 then (some (y2, v_t)) else (if (b2i y2) = 0 then (some (y2, v_t)) else (if (40 + (3 * y3)) < 0 ∨ 63 ≤ (40 + (3 * y3)).toNatClampNeg then none else (if ((40 + (3 * y3)) + 1) < 0 ∨ 63 ≤ ((40 + (3 * y3)) + 1).toNatClampNeg then none else ((f_X12_onePull v_t (v_t_now (40 + (3 * y3)).toNatClampNeg) (v_t_now ((40 + (3 * y3)) + 1).toNatClampNeg)).bind fun zr8 => if ((y1 >>> (y3 &&& 31)) &&& 1) = 1 then (g4 zr8 v_t_now y1 true (y3 + 1)) else ((f_X12_behind N zr8 v_t_now 0).bind fun zr12 => if ((40 + (3 * y3)) + 2) < 0 ∨ 63 ≤ ((40 + (3 * y3)) + 2).toNatClampNeg then none else (if zr12 = (v_t_now ((40 + (3 * y3)) + 2).toNatClampNeg) then (g4 zr8 v_t_now y1 true (y3 + 1)) else (g4 zr8 v_t_now y1 false (y3 + 1))))))))
def f_X12_isSo_4 (N : Nat)  : Nat → US → (Nat → Int32) → Int32 → Bool → Int32 → Option (Bool × US)
  | 0 => fun _ _ _ _ _ => none
  | k + 1 => fun q0 q1 q2 q3 q4 => b_X12_isSo_4 N  (f_X12_isSo_4 N  k) q0 q1 q2 q3 q4
def f_X12_isSo (N : Nat) (v_t : US) (v_t_now : Nat → Int32) (x1 : Int32) : Option (Bool × US) :=
  f_X12_isSo_4 N N v_t v_t_now x1 true 0
set_option maxRecDepth 100000 in
set_option maxHeartbeats 4000000 in
theorem w_X12_isSo_4 {p : Program} {l : Launch} {e : Env} {s : State} {m : MethodId} {args : Array Value} {below : List Frame} {meth : Method} {c : Code} {G : GG} {A : Nat → Prop} {o_t : Nat} {a_t : Nat → Nat} {N : Nat} {g4 : US → (Nat → Int32) → Int32 → Bool → Int32 → Option (Bool × US)} {v_t : US} {v_t_now : Nat → Int32} {y1 : Int32} {y2 : Bool} {y3 : Int32} {res : Bool × US} (C : MC RX12 cX12_isSo 4 (some .boolean) G A p s m args meth c) (hg4 : ∀ {v_t : US} {v_t_now : Nat → Int32} {y1 : Int32} {y2 : Bool} {y3 : Int32}, g4 v_t v_t_now y1 y2 y3 = some res → ∀ {H : Heap} {locs : List Loc} {ls : Array Slot}, HP G A s [uX12 G o_t a_t v_t, uA G 63 (a_t 0) v_t_now] H locs → lv_has ls 4 [(0, .ref o_t), (1, .int y1), (2, .int (b2i y2)), (3, .int y3)] → W p l e (rmm 5) s m args below meth c H locs 0 0 (QI below G A args s (b2i res.1) [uX12 G o_t a_t res.2, uA G 63 (a_t 0) v_t_now]) (F0 m 4 ls [])) (hf : b_X12_isSo_4 N g4 v_t v_t_now y1 y2 y3 = some res) {H : Heap} {locs : List Loc} {ls : Array Slot} (h : HP G A s [uX12 G o_t a_t v_t, uA G 63 (a_t 0) v_t_now] H locs) (hl : lv_has ls 4 [(0, .ref o_t), (1, .int y1), (2, .int (b2i y2)), (3, .int y3)]) : W p l e (rmm 5) s m args below meth c H locs 0 0 (QI below G A args s (b2i res.1) [uX12 G o_t a_t res.2, uA G 63 (a_t 0) v_t_now]) (F0 m 4 ls []) := by
  unfold b_X12_isSo_4 at hf
  refine lv_iload_n C.hx C.hb dX12_isSo_4 rfl (lv_at hl 3 rfl) ?_
  refine lv_aload_n C.hx C.hb dX12_isSo_5 rfl (lv_at hl 0 rfl) ?_
  obtain ⟨zr1, zq2, hf⟩ := bd_some hf
  have zm3 := c_X12_rules l G o_t a_t (hf := zq2)
  refine g_goI C h zm3.1 (is := [0, 1]) rfl rfl (g_runV C h (is := [0, 1]) rfl rfl (As := []) (rest := [.int y3]) (zm3.2 _) vf_X12_164 0 0 rfl rfl hl.1 rfl rfl (Nat.le_of_ble_eq_true rfl) dX12_isSo_6 ⟨Nat.le_of_ble_eq_true rfl, Nat.le_of_ble_eq_true rfl⟩ ⟨Nat.le_refl _, Nat.le_refl _⟩) (us2 := [uX12 G o_t a_t v_t, uA G 63 (a_t 0) v_t_now]) rfl (fun H locs h => ?_)
  refine lv_icmp_ge (tgt := 86) C.hx C.hb dX12_isSo_9 (by decide) (fun zc4 => ?_) (fun zc4 => ?_)
  · replace hf := it_t zc4 hf
    refine lv_iload_n C.hx C.hb dX12_isSo_86 rfl (lv_at hl 2 rfl) ?_
    obtain rfl := Option.some.inj hf
    exact g_ret_z (b := _) C h rfl rfl rfl dX12_isSo_87
  · replace hf := it_f zc4 hf
    refine lv_iload_n C.hx C.hb dX12_isSo_12 rfl (lv_at hl 2 rfl) ?_
    refine lv_if_eq (tgt := 86) C.hx C.hb dX12_isSo_13 (by decide) (fun zc5 => ?_) (fun zc5 => ?_)
    · replace hf := it_t zc5 hf
      refine lv_iload_n C.hx C.hb dX12_isSo_86 rfl (lv_at hl 2 rfl) ?_
      obtain rfl := Option.some.inj hf
      exact g_ret_z (b := _) C h rfl rfl rfl dX12_isSo_87
    · replace hf := it_f zc5 hf
      refine lv_aload_n C.hx C.hb dX12_isSo_16 rfl (lv_at hl 0 rfl) ?_
      refine lv_aload_n C.hx C.hb dX12_isSo_17 rfl (lv_at hl 0 rfl) ?_
      refine g_get C h fl_X12_7 0 0 rfl rfl (v := .ref (a_t 0)) rfl dX12_isSo_18 ?_
      refine lv_bipush (v := 40) C.hx C.hb dX12_isSo_21 (by decide) ?_
      refine lv_iconst (v := 3) C.hx C.hb dX12_isSo_23 (by decide) ?_
      refine lv_iload_n C.hx C.hb dX12_isSo_24 rfl (lv_at hl 3 rfl) ?_
      refine lv_imul C.hx C.hb dX12_isSo_25 ?_
      refine lv_iadd C.hx C.hb dX12_isSo_26 ?_
      obtain ⟨zi6, hf⟩ := ck_some hf
      refine g_iald C h 1 0 rfl rfl (f := v_t_now) zi6 dX12_isSo_27 ?_
      refine lv_aload_n C.hx C.hb dX12_isSo_28 rfl (lv_at hl 0 rfl) ?_
      refine g_get C h fl_X12_7 0 0 rfl rfl (v := .ref (a_t 0)) rfl dX12_isSo_29 ?_
      refine lv_bipush (v := 40) C.hx C.hb dX12_isSo_32 (by decide) ?_
      refine lv_iconst (v := 3) C.hx C.hb dX12_isSo_34 (by decide) ?_
      refine lv_iload_n C.hx C.hb dX12_isSo_35 rfl (lv_at hl 3 rfl) ?_
      refine lv_imul C.hx C.hb dX12_isSo_36 ?_
      refine lv_iadd C.hx C.hb dX12_isSo_37 ?_
      refine lv_iconst (v := 1) C.hx C.hb dX12_isSo_38 (by decide) ?_
      refine lv_iadd C.hx C.hb dX12_isSo_39 ?_
      obtain ⟨zi7, hf⟩ := ck_some hf
      refine g_iald C h 1 0 rfl rfl (f := v_t_now) zi7 dX12_isSo_40 ?_
      obtain ⟨zr8, zq9, hf⟩ := bd_some hf
      have zm10 := c_X12_onePull l G o_t a_t (hf := zq9)
      refine g_goV C h zm10.1 (is := [0]) rfl rfl (g_runV C h (is := [0]) rfl rfl (As := [.int (v_t_now (40 + (3 * y3)).toNatClampNeg), .int (v_t_now ((40 + (3 * y3)) + 1).toNatClampNeg)]) (rest := []) (zm10.2 _) vf_X12_126 0 0 rfl rfl hl.1 rfl rfl (Nat.le_of_ble_eq_true rfl) dX12_isSo_41 ⟨Nat.le_of_ble_eq_true rfl, Nat.le_of_ble_eq_true rfl⟩ ⟨Nat.le_refl _, Nat.le_refl _⟩) (us2 := [uX12 G o_t a_t zr8, uA G 63 (a_t 0) v_t_now]) rfl (fun H locs h => ?_)
      refine lv_iload_n C.hx C.hb dX12_isSo_44 rfl (lv_at hl 1 rfl) ?_
      refine lv_iload_n C.hx C.hb dX12_isSo_45 rfl (lv_at hl 3 rfl) ?_
      refine lv_ishr C.hx C.hb dX12_isSo_46 ?_
      refine lv_iconst (v := 1) C.hx C.hb dX12_isSo_47 (by decide) ?_
      refine lv_iand C.hx C.hb dX12_isSo_48 ?_
      refine lv_iconst (v := 1) C.hx C.hb dX12_isSo_49 (by decide) ?_
      refine lv_icmp_eq (tgt := 74) C.hx C.hb dX12_isSo_50 (by decide) (fun zc11 => ?_) (fun zc11 => ?_)
      · replace hf := it_t zc11 hf
        refine lv_iconst (v := 1) C.hx C.hb dX12_isSo_74 (by decide) ?_
        refine lv_goto (tgt := 79) C.hx C.hb dX12_isSo_75 (by decide) ?_
        refine lv_istore_n (lv' := [(2, .int 1), (0, .ref o_t), (1, .int y1), (3, .int y3)]) C.hx C.hb dX12_isSo_79 rfl hl (by decide) rfl (fun ls hl => ?_)
        refine lv_iinc (v := y3 + 1) (lv' := [(3, .int (y3 + 1)), (2, .int 1), (0, .ref o_t), (1, .int y1)]) C.hx C.hb dX12_isSo_80 hl (k := 3) rfl rfl (by decide) rfl (fun ls hl => ?_)
        refine lv_goto (tgt := 4) C.hx C.hb dX12_isSo_83 (by decide) ?_
        exact hg4 hf h (lv_sub hl [2, 3, 1, 0] rfl)
      · replace hf := it_f zc11 hf
        refine lv_aload_n C.hx C.hb dX12_isSo_53 rfl (lv_at hl 0 rfl) ?_
        refine lv_iconst (v := 0) C.hx C.hb dX12_isSo_54 (by decide) ?_
        obtain ⟨zr12, zq13, hf⟩ := bd_some hf
        have zm14 := c_X12_behind l G o_t a_t N (hf := zq13)
        refine g_goI C h zm14.1 (is := [0, 1]) rfl rfl (g_runV C h (is := [0, 1]) rfl rfl (As := [.int 0]) (rest := []) (zm14.2 _) vf_X12_114 0 0 rfl rfl hl.1 rfl rfl (Nat.le_of_ble_eq_true rfl) dX12_isSo_55 ⟨Nat.le_of_ble_eq_true rfl, Nat.le_of_ble_eq_true rfl⟩ ⟨Nat.le_refl _, Nat.le_refl _⟩) (us2 := [uX12 G o_t a_t zr8, uA G 63 (a_t 0) v_t_now]) rfl (fun H locs h => ?_)
        refine lv_aload_n C.hx C.hb dX12_isSo_58 rfl (lv_at hl 0 rfl) ?_
        refine g_get C h fl_X12_7 0 0 rfl rfl (v := .ref (a_t 0)) rfl dX12_isSo_59 ?_
        refine lv_bipush (v := 40) C.hx C.hb dX12_isSo_62 (by decide) ?_
        refine lv_iconst (v := 3) C.hx C.hb dX12_isSo_64 (by decide) ?_
        refine lv_iload_n C.hx C.hb dX12_isSo_65 rfl (lv_at hl 3 rfl) ?_
        refine lv_imul C.hx C.hb dX12_isSo_66 ?_
        refine lv_iadd C.hx C.hb dX12_isSo_67 ?_
        refine lv_iconst (v := 2) C.hx C.hb dX12_isSo_68 (by decide) ?_
        refine lv_iadd C.hx C.hb dX12_isSo_69 ?_
        obtain ⟨zi15, hf⟩ := ck_some hf
        refine g_iald C h 1 0 rfl rfl (f := v_t_now) zi15 dX12_isSo_70 ?_
        refine lv_icmp_ne (tgt := 78) C.hx C.hb dX12_isSo_71 (by decide) (fun zc16 => ?_) (fun zc16 => ?_)
        · replace hf := it_f zc16 hf
          refine lv_iconst (v := 0) C.hx C.hb dX12_isSo_78 (by decide) ?_
          refine lv_istore_n (lv' := [(2, .int 0), (0, .ref o_t), (1, .int y1), (3, .int y3)]) C.hx C.hb dX12_isSo_79 rfl hl (by decide) rfl (fun ls hl => ?_)
          refine lv_iinc (v := y3 + 1) (lv' := [(3, .int (y3 + 1)), (2, .int 0), (0, .ref o_t), (1, .int y1)]) C.hx C.hb dX12_isSo_80 hl (k := 3) rfl rfl (by decide) rfl (fun ls hl => ?_)
          refine lv_goto (tgt := 4) C.hx C.hb dX12_isSo_83 (by decide) ?_
          exact hg4 hf h (lv_sub hl [2, 3, 1, 0] rfl)
        · replace hf := it_t zc16 hf
          refine lv_iconst (v := 1) C.hx C.hb dX12_isSo_74 (by decide) ?_
          refine lv_goto (tgt := 79) C.hx C.hb dX12_isSo_75 (by decide) ?_
          refine lv_istore_n (lv' := [(2, .int 1), (0, .ref o_t), (1, .int y1), (3, .int y3)]) C.hx C.hb dX12_isSo_79 rfl hl (by decide) rfl (fun ls hl => ?_)
          refine lv_iinc (v := y3 + 1) (lv' := [(3, .int (y3 + 1)), (2, .int 1), (0, .ref o_t), (1, .int y1)]) C.hx C.hb dX12_isSo_80 hl (k := 3) rfl rfl (by decide) rfl (fun ls hl => ?_)
          refine lv_goto (tgt := 4) C.hx C.hb dX12_isSo_83 (by decide) ?_
          exact hg4 hf h (lv_sub hl [2, 3, 1, 0] rfl)
set_option maxRecDepth 100000 in
set_option maxHeartbeats 4000000 in
theorem l_X12_isSo_4 {p : Program} {l : Launch} {e : Env} {s : State} {m : MethodId} {args : Array Value} {below : List Frame} {meth : Method} {c : Code} {G : GG} {A : Nat → Prop} {o_t : Nat} {a_t : Nat → Nat} {N : Nat}  {res : Bool × US} (C : MC RX12 cX12_isSo 4 (some .boolean) G A p s m args meth c)  : ∀ (k : Nat) {v_t : US} {v_t_now : Nat → Int32} {y1 : Int32} {y2 : Bool} {y3 : Int32}, f_X12_isSo_4 N k v_t v_t_now y1 y2 y3 = some res → ∀ {H : Heap} {locs : List Loc} {ls : Array Slot}, HP G A s [uX12 G o_t a_t v_t, uA G 63 (a_t 0) v_t_now] H locs → lv_has ls 4 [(0, .ref o_t), (1, .int y1), (2, .int (b2i y2)), (3, .int y3)] → W p l e (rmm 5) s m args below meth c H locs 0 0 (QI below G A args s (b2i res.1) [uX12 G o_t a_t res.2, uA G 63 (a_t 0) v_t_now]) (F0 m 4 ls []) := by
  intro k
  induction k with
  | zero => intros; contradiction
  | succ k ih =>
    intro v_t v_t_now y1 y2 y3 hf H locs ls h hl
    exact w_X12_isSo_4 (N := N) C ih hf h hl
set_option maxRecDepth 100000 in
set_option maxHeartbeats 4000000 in
theorem c_X12_isSo (l : Launch) (G : GG) (o_t : Nat) (a_t : Nat → Nat) (N : Nat) {v_t : US} {v_t_now : Nat → Int32} {x1 : Int32} {res : Bool × US} (hf : f_X12_isSo N v_t v_t_now x1 = some res) : MI l yX12_isSo cX12_isSo 4 (some .boolean) 5 [.ref o_t, .int x1] G [uX12 G o_t a_t v_t, uA G 63 (a_t 0) v_t_now] (b2i res.1) [uX12 G o_t a_t res.2, uA G 63 (a_t 0) v_t_now] := by
  unfold f_X12_isSo at hf
  refine MI.intro (by decide) rfl (Nat.le_of_ble_eq_true rfl) (fun p e s m args below meth c A ls C h hl => ?_)
  have C : MC RX12 cX12_isSo 4 (some .boolean) G A p s m args meth c := C
  have hl : lv_has ls 4 [(0, .ref o_t), (1, .int x1)] := hl
  refine lv_iconst (v := 1) C.hx C.hb dX12_isSo_0 (by decide) ?_
  refine lv_istore_n (lv' := [(2, .int 1), (0, .ref o_t), (1, .int x1)]) C.hx C.hb dX12_isSo_1 rfl hl (by decide) rfl (fun ls hl => ?_)
  refine lv_iconst (v := 0) C.hx C.hb dX12_isSo_2 (by decide) ?_
  refine lv_istore_n (lv' := [(3, .int 0), (2, .int 1), (0, .ref o_t), (1, .int x1)]) C.hx C.hb dX12_isSo_3 rfl hl (by decide) rfl (fun ls hl => ?_)
  exact l_X12_isSo_4 C N hf h (lv_sub hl [2, 3, 1, 0] rfl)

def b_X12_findSlacks_49 (N : Nat) (g33 : US → (Nat → Int32) → Int32 → Int32 → Int32 → Option (Bool × US)) (g49 : US → (Nat → Int32) → Int32 → Int32 → Int32 → Int32 → Int32 → Option (Bool × US)) (v_t : US) (v_t_now : Nat → Int32) (y1 : Int32) (y2 : Int32) (y3 : Int32) (y4 : Int32) (y5 : Int32) : Option (Bool × US) :=
  if y5 < 0 then ((f_X12_isSo N v_t v_t_now y1).bind fun zr2 => if (b2i zr2.1) = 0 then (g33 zr2.2 v_t_now y1 y2 (y3 + 1)) else (some (true, zr2.2))) else (if y5 < 0 ∨ 5 ≤ y5.toNatClampNeg then none else (g49 (upa v_t 6 y5.toNatClampNeg (y4 - y4 / 10 * 10)) v_t_now y1 y2 y3 (y4 / 10) (y5 + (-1))))
def f_X12_findSlacks_49 (N : Nat) (g33 : US → (Nat → Int32) → Int32 → Int32 → Int32 → Option (Bool × US)) : Nat → US → (Nat → Int32) → Int32 → Int32 → Int32 → Int32 → Int32 → Option (Bool × US)
  | 0 => fun _ _ _ _ _ _ _ => none
  | k + 1 => fun q0 q1 q2 q3 q4 q5 q6 => b_X12_findSlacks_49 N g33 (f_X12_findSlacks_49 N g33 k) q0 q1 q2 q3 q4 q5 q6
def b_X12_findSlacks_33 (N : Nat) (g33 : US → (Nat → Int32) → Int32 → Int32 → Int32 → Option (Bool × US)) (v_t : US) (v_t_now : Nat → Int32) (y1 : Int32) (y2 : Int32) (y3 : Int32) : Option (Bool × US) :=
  if y2 ≤ y3 then (some (false, v_t)) else ((f_X12_things v_t v_t_now).bind fun zr2 => f_X12_findSlacks_49 N g33 N v_t v_t_now y1 y2 y3 y3 (zr2 - 1))
def f_X12_findSlacks_33 (N : Nat)  : Nat → US → (Nat → Int32) → Int32 → Int32 → Int32 → Option (Bool × US)
  | 0 => fun _ _ _ _ _ => none
  | k + 1 => fun q0 q1 q2 q3 q4 => b_X12_findSlacks_33 N  (f_X12_findSlacks_33 N  k) q0 q1 q2 q3 q4
def b_X12_findSlacks_12 (N : Nat) (g12 : US → (Nat → Int32) → Int32 → Int32 → Int32 → Option (Bool × US)) (v_t : US) (v_t_now : Nat → Int32) (y1 : Int32) (y2 : Int32) (y3 : Int32) : Option (Bool × US) :=
  (f_X12_things v_t v_t_now).bind fun zr1 => if zr1 ≤ y3 then (f_X12_findSlacks_33 N N v_t v_t_now y1 y2 0) else (g12 v_t v_t_now y1 (y2 * 10) (y3 + 1))
def f_X12_findSlacks_12 (N : Nat)  : Nat → US → (Nat → Int32) → Int32 → Int32 → Int32 → Option (Bool × US)
  | 0 => fun _ _ _ _ _ => none
  | k + 1 => fun q0 q1 q2 q3 q4 => b_X12_findSlacks_12 N  (f_X12_findSlacks_12 N  k) q0 q1 q2 q3 q4
def f_X12_findSlacks (N : Nat) (v_t : US) (v_t_now : Nat → Int32) (x1 : Int32) : Option (Bool × US) :=
  (f_X12_all v_t v_t_now).bind fun zr1 => f_X12_findSlacks_12 N N (upi v_t 7 zr1) v_t_now x1 1 0
set_option maxRecDepth 100000 in
set_option maxHeartbeats 4000000 in
theorem w_X12_findSlacks_49 {p : Program} {l : Launch} {e : Env} {s : State} {m : MethodId} {args : Array Value} {below : List Frame} {meth : Method} {c : Code} {G : GG} {A : Nat → Prop} {o_t : Nat} {a_t : Nat → Nat} {N : Nat} {g33 : US → (Nat → Int32) → Int32 → Int32 → Int32 → Option (Bool × US)} {g49 : US → (Nat → Int32) → Int32 → Int32 → Int32 → Int32 → Int32 → Option (Bool × US)} {v_t : US} {v_t_now : Nat → Int32} {y1 : Int32} {y2 : Int32} {y3 : Int32} {y4 : Int32} {y5 : Int32} {res : Bool × US} (C : MC RX12 cX12_findSlacks 6 (some .boolean) G A p s m args meth c) (hg33 : ∀ {v_t : US} {v_t_now : Nat → Int32} {y1 : Int32} {y2 : Int32} {y3 : Int32}, g33 v_t v_t_now y1 y2 y3 = some res → ∀ {H : Heap} {locs : List Loc} {ls : Array Slot}, HP G A s [uX12 G o_t a_t v_t, uA G 63 (a_t 0) v_t_now] H locs → lv_has ls 6 [(0, .ref o_t), (1, .int y1), (2, .int y2), (3, .int y3)] → W p l e (rmm 6) s m args below meth c H locs 0 0 (QI below G A args s (b2i res.1) [uX12 G o_t a_t res.2, uA G 63 (a_t 0) v_t_now]) (F0 m 33 ls [])) (hg49 : ∀ {v_t : US} {v_t_now : Nat → Int32} {y1 : Int32} {y2 : Int32} {y3 : Int32} {y4 : Int32} {y5 : Int32}, g49 v_t v_t_now y1 y2 y3 y4 y5 = some res → ∀ {H : Heap} {locs : List Loc} {ls : Array Slot}, HP G A s [uX12 G o_t a_t v_t, uA G 63 (a_t 0) v_t_now] H locs → lv_has ls 6 [(0, .ref o_t), (1, .int y1), (2, .int y2), (3, .int y3), (4, .int y4), (5, .int y5)] → W p l e (rmm 6) s m args below meth c H locs 0 0 (QI below G A args s (b2i res.1) [uX12 G o_t a_t res.2, uA G 63 (a_t 0) v_t_now]) (F0 m 49 ls [])) (hf : b_X12_findSlacks_49 N g33 g49 v_t v_t_now y1 y2 y3 y4 y5 = some res) {H : Heap} {locs : List Loc} {ls : Array Slot} (h : HP G A s [uX12 G o_t a_t v_t, uA G 63 (a_t 0) v_t_now] H locs) (hl : lv_has ls 6 [(0, .ref o_t), (1, .int y1), (2, .int y2), (3, .int y3), (4, .int y4), (5, .int y5)]) : W p l e (rmm 6) s m args below meth c H locs 0 0 (QI below G A args s (b2i res.1) [uX12 G o_t a_t res.2, uA G 63 (a_t 0) v_t_now]) (F0 m 49 ls []) := by
  unfold b_X12_findSlacks_49 at hf
  refine lv_iload C.hx C.hb dX12_findSlacks_49 (lv_at hl 5 rfl) ?_
  refine lv_if_lt (tgt := 79) C.hx C.hb dX12_findSlacks_51 (by decide) (fun zc1 => ?_) (fun zc1 => ?_)
  · replace hf := it_t zc1 hf
    refine lv_aload_n C.hx C.hb dX12_findSlacks_79 rfl (lv_at hl 0 rfl) ?_
    refine lv_iload_n C.hx C.hb dX12_findSlacks_80 rfl (lv_at hl 1 rfl) ?_
    obtain ⟨zr2, zq3, hf⟩ := bd_some hf
    have zm4 := c_X12_isSo l G o_t a_t N (hf := zq3)
    refine g_goI C h zm4.1 (is := [0, 1]) rfl rfl (g_runV C h (is := [0, 1]) rfl rfl (As := [.int y1]) (rest := []) (zm4.2 _) vf_X12_171 0 0 rfl rfl hl.1 rfl rfl (Nat.le_of_ble_eq_true rfl) dX12_findSlacks_81 ⟨Nat.le_of_ble_eq_true rfl, Nat.le_of_ble_eq_true rfl⟩ ⟨Nat.le_refl _, Nat.le_refl _⟩) (us2 := [uX12 G o_t a_t zr2.2, uA G 63 (a_t 0) v_t_now]) rfl (fun H locs h => ?_)
    refine lv_if_eq (tgt := 89) C.hx C.hb dX12_findSlacks_84 (by decide) (fun zc5 => ?_) (fun zc5 => ?_)
    · replace hf := it_t zc5 hf
      refine lv_iinc (v := y3 + 1) (lv' := [(3, .int (y3 + 1)), (0, .ref o_t), (1, .int y1), (2, .int y2), (4, .int y4), (5, .int y5)]) C.hx C.hb dX12_findSlacks_89 hl (k := 3) rfl rfl (by decide) rfl (fun ls hl => ?_)
      refine lv_goto (tgt := 33) C.hx C.hb dX12_findSlacks_92 (by decide) ?_
      exact hg33 hf h (lv_sub hl [1, 2, 3, 0] rfl)
    · replace hf := it_f zc5 hf
      refine lv_iconst (v := 1) C.hx C.hb dX12_findSlacks_87 (by decide) ?_
      obtain rfl := Option.some.inj hf
      exact g_ret_z (b := true) C h rfl rfl rfl dX12_findSlacks_88
  · replace hf := it_f zc1 hf
    refine lv_aload_n C.hx C.hb dX12_findSlacks_54 rfl (lv_at hl 0 rfl) ?_
    refine g_get C h fl_X12_27 0 0 rfl rfl (v := .ref (a_t 6)) rfl dX12_findSlacks_55 ?_
    refine lv_iload C.hx C.hb dX12_findSlacks_58 (lv_at hl 5 rfl) ?_
    refine lv_iload C.hx C.hb dX12_findSlacks_60 (lv_at hl 4 rfl) ?_
    refine lv_bipush (v := 10) C.hx C.hb dX12_findSlacks_62 (by decide) ?_
    refine lv_irem C.hx C.hb dX12_findSlacks_64 (by decide) ?_
    obtain ⟨zi7, hf⟩ := ck_some hf
    refine g_iast C h 0 4 rfl rfl (f := v_t.2.2 6) zi7 dX12_findSlacks_65 (u' := uX12 G o_t a_t (upa v_t 6 y5.toNatClampNeg (y4 - y4 / 10 * 10))) (us' := [uX12 G o_t a_t (upa v_t 6 y5.toNatClampNeg (y4 - y4 / 10 * 10)), uA G 63 (a_t 0) v_t_now]) rfl rfl (fun H locs h => ?_)
    refine lv_iload C.hx C.hb dX12_findSlacks_66 (lv_at hl 4 rfl) ?_
    refine lv_bipush (v := 10) C.hx C.hb dX12_findSlacks_68 (by decide) ?_
    refine lv_idiv C.hx C.hb dX12_findSlacks_70 (by decide) ?_
    refine lv_istore (lv' := [(4, .int (y4 / 10)), (0, .ref o_t), (1, .int y1), (2, .int y2), (3, .int y3), (5, .int y5)]) C.hx C.hb dX12_findSlacks_71 hl (by decide) rfl (fun ls hl => ?_)
    refine lv_iinc (v := y5 + (-1)) (lv' := [(5, .int (y5 + (-1))), (4, .int (y4 / 10)), (0, .ref o_t), (1, .int y1), (2, .int y2), (3, .int y3)]) C.hx C.hb dX12_findSlacks_73 hl (k := 5) rfl rfl (by decide) rfl (fun ls hl => ?_)
    refine lv_goto (tgt := 49) C.hx C.hb dX12_findSlacks_76 (by decide) ?_
    exact hg49 hf h (lv_sub hl [2, 3, 4, 5, 1, 0] rfl)
set_option maxRecDepth 100000 in
set_option maxHeartbeats 4000000 in
theorem l_X12_findSlacks_49 {p : Program} {l : Launch} {e : Env} {s : State} {m : MethodId} {args : Array Value} {below : List Frame} {meth : Method} {c : Code} {G : GG} {A : Nat → Prop} {o_t : Nat} {a_t : Nat → Nat} {N : Nat} {g33 : US → (Nat → Int32) → Int32 → Int32 → Int32 → Option (Bool × US)} {res : Bool × US} (C : MC RX12 cX12_findSlacks 6 (some .boolean) G A p s m args meth c) (hg33 : ∀ {v_t : US} {v_t_now : Nat → Int32} {y1 : Int32} {y2 : Int32} {y3 : Int32}, g33 v_t v_t_now y1 y2 y3 = some res → ∀ {H : Heap} {locs : List Loc} {ls : Array Slot}, HP G A s [uX12 G o_t a_t v_t, uA G 63 (a_t 0) v_t_now] H locs → lv_has ls 6 [(0, .ref o_t), (1, .int y1), (2, .int y2), (3, .int y3)] → W p l e (rmm 6) s m args below meth c H locs 0 0 (QI below G A args s (b2i res.1) [uX12 G o_t a_t res.2, uA G 63 (a_t 0) v_t_now]) (F0 m 33 ls [])) : ∀ (k : Nat) {v_t : US} {v_t_now : Nat → Int32} {y1 : Int32} {y2 : Int32} {y3 : Int32} {y4 : Int32} {y5 : Int32}, f_X12_findSlacks_49 N g33 k v_t v_t_now y1 y2 y3 y4 y5 = some res → ∀ {H : Heap} {locs : List Loc} {ls : Array Slot}, HP G A s [uX12 G o_t a_t v_t, uA G 63 (a_t 0) v_t_now] H locs → lv_has ls 6 [(0, .ref o_t), (1, .int y1), (2, .int y2), (3, .int y3), (4, .int y4), (5, .int y5)] → W p l e (rmm 6) s m args below meth c H locs 0 0 (QI below G A args s (b2i res.1) [uX12 G o_t a_t res.2, uA G 63 (a_t 0) v_t_now]) (F0 m 49 ls []) := by
  intro k
  induction k with
  | zero => intros; contradiction
  | succ k ih =>
    intro v_t v_t_now y1 y2 y3 y4 y5 hf H locs ls h hl
    exact w_X12_findSlacks_49 (N := N) C hg33 ih hf h hl
set_option maxRecDepth 100000 in
set_option maxHeartbeats 4000000 in
theorem w_X12_findSlacks_33 {p : Program} {l : Launch} {e : Env} {s : State} {m : MethodId} {args : Array Value} {below : List Frame} {meth : Method} {c : Code} {G : GG} {A : Nat → Prop} {o_t : Nat} {a_t : Nat → Nat} {N : Nat} {g33 : US → (Nat → Int32) → Int32 → Int32 → Int32 → Option (Bool × US)} {v_t : US} {v_t_now : Nat → Int32} {y1 : Int32} {y2 : Int32} {y3 : Int32} {res : Bool × US} (C : MC RX12 cX12_findSlacks 6 (some .boolean) G A p s m args meth c) (hg33 : ∀ {v_t : US} {v_t_now : Nat → Int32} {y1 : Int32} {y2 : Int32} {y3 : Int32}, g33 v_t v_t_now y1 y2 y3 = some res → ∀ {H : Heap} {locs : List Loc} {ls : Array Slot}, HP G A s [uX12 G o_t a_t v_t, uA G 63 (a_t 0) v_t_now] H locs → lv_has ls 6 [(0, .ref o_t), (1, .int y1), (2, .int y2), (3, .int y3)] → W p l e (rmm 6) s m args below meth c H locs 0 0 (QI below G A args s (b2i res.1) [uX12 G o_t a_t res.2, uA G 63 (a_t 0) v_t_now]) (F0 m 33 ls [])) (hf : b_X12_findSlacks_33 N g33 v_t v_t_now y1 y2 y3 = some res) {H : Heap} {locs : List Loc} {ls : Array Slot} (h : HP G A s [uX12 G o_t a_t v_t, uA G 63 (a_t 0) v_t_now] H locs) (hl : lv_has ls 6 [(0, .ref o_t), (1, .int y1), (2, .int y2), (3, .int y3)]) : W p l e (rmm 6) s m args below meth c H locs 0 0 (QI below G A args s (b2i res.1) [uX12 G o_t a_t res.2, uA G 63 (a_t 0) v_t_now]) (F0 m 33 ls []) := by
  unfold b_X12_findSlacks_33 at hf
  refine lv_iload_n C.hx C.hb dX12_findSlacks_33 rfl (lv_at hl 3 rfl) ?_
  refine lv_iload_n C.hx C.hb dX12_findSlacks_34 rfl (lv_at hl 2 rfl) ?_
  refine lv_icmp_ge (tgt := 95) C.hx C.hb dX12_findSlacks_35 (by decide) (fun zc1 => ?_) (fun zc1 => ?_)
  · replace hf := it_t zc1 hf
    refine lv_iconst (v := 0) C.hx C.hb dX12_findSlacks_95 (by decide) ?_
    obtain rfl := Option.some.inj hf
    exact g_ret_z (b := false) C h rfl rfl rfl dX12_findSlacks_96
  · replace hf := it_f zc1 hf
    refine lv_iload_n C.hx C.hb dX12_findSlacks_38 rfl (lv_at hl 3 rfl) ?_
    refine lv_istore (lv' := [(4, .int y3), (0, .ref o_t), (1, .int y1), (2, .int y2), (3, .int y3)]) C.hx C.hb dX12_findSlacks_39 hl (by decide) rfl (fun ls hl => ?_)
    refine lv_aload_n C.hx C.hb dX12_findSlacks_41 rfl (lv_at hl 1 rfl) ?_
    obtain ⟨zr2, zq3, hf⟩ := bd_some hf
    have zm4 := c_X12_things l G o_t a_t (hf := zq3)
    refine g_goI C h zm4.1 (is := [0, 1]) rfl rfl (g_runV C h (is := [0, 1]) rfl rfl (As := []) (rest := []) (zm4.2 _) vf_X12_48 0 0 rfl rfl hl.1 rfl rfl (Nat.le_of_ble_eq_true rfl) dX12_findSlacks_42 ⟨Nat.le_of_ble_eq_true rfl, Nat.le_of_ble_eq_true rfl⟩ ⟨Nat.le_refl _, Nat.le_refl _⟩) (us2 := [uX12 G o_t a_t v_t, uA G 63 (a_t 0) v_t_now]) rfl (fun H locs h => ?_)
    refine lv_iconst (v := 1) C.hx C.hb dX12_findSlacks_45 (by decide) ?_
    refine lv_isub C.hx C.hb dX12_findSlacks_46 ?_
    refine lv_istore (lv' := [(5, .int (zr2 - 1)), (4, .int y3), (0, .ref o_t), (1, .int y1), (2, .int y2), (3, .int y3)]) C.hx C.hb dX12_findSlacks_47 hl (by decide) rfl (fun ls hl => ?_)
    exact l_X12_findSlacks_49 C hg33 N hf h (lv_sub hl [2, 3, 4, 5, 1, 0] rfl)
set_option maxRecDepth 100000 in
set_option maxHeartbeats 4000000 in
theorem l_X12_findSlacks_33 {p : Program} {l : Launch} {e : Env} {s : State} {m : MethodId} {args : Array Value} {below : List Frame} {meth : Method} {c : Code} {G : GG} {A : Nat → Prop} {o_t : Nat} {a_t : Nat → Nat} {N : Nat}  {res : Bool × US} (C : MC RX12 cX12_findSlacks 6 (some .boolean) G A p s m args meth c)  : ∀ (k : Nat) {v_t : US} {v_t_now : Nat → Int32} {y1 : Int32} {y2 : Int32} {y3 : Int32}, f_X12_findSlacks_33 N k v_t v_t_now y1 y2 y3 = some res → ∀ {H : Heap} {locs : List Loc} {ls : Array Slot}, HP G A s [uX12 G o_t a_t v_t, uA G 63 (a_t 0) v_t_now] H locs → lv_has ls 6 [(0, .ref o_t), (1, .int y1), (2, .int y2), (3, .int y3)] → W p l e (rmm 6) s m args below meth c H locs 0 0 (QI below G A args s (b2i res.1) [uX12 G o_t a_t res.2, uA G 63 (a_t 0) v_t_now]) (F0 m 33 ls []) := by
  intro k
  induction k with
  | zero => intros; contradiction
  | succ k ih =>
    intro v_t v_t_now y1 y2 y3 hf H locs ls h hl
    exact w_X12_findSlacks_33 (N := N) C ih hf h hl
set_option maxRecDepth 100000 in
set_option maxHeartbeats 4000000 in
theorem w_X12_findSlacks_12 {p : Program} {l : Launch} {e : Env} {s : State} {m : MethodId} {args : Array Value} {below : List Frame} {meth : Method} {c : Code} {G : GG} {A : Nat → Prop} {o_t : Nat} {a_t : Nat → Nat} {N : Nat} {g12 : US → (Nat → Int32) → Int32 → Int32 → Int32 → Option (Bool × US)} {v_t : US} {v_t_now : Nat → Int32} {y1 : Int32} {y2 : Int32} {y3 : Int32} {res : Bool × US} (C : MC RX12 cX12_findSlacks 6 (some .boolean) G A p s m args meth c) (hg12 : ∀ {v_t : US} {v_t_now : Nat → Int32} {y1 : Int32} {y2 : Int32} {y3 : Int32}, g12 v_t v_t_now y1 y2 y3 = some res → ∀ {H : Heap} {locs : List Loc} {ls : Array Slot}, HP G A s [uX12 G o_t a_t v_t, uA G 63 (a_t 0) v_t_now] H locs → lv_has ls 6 [(0, .ref o_t), (1, .int y1), (2, .int y2), (3, .int y3)] → W p l e (rmm 6) s m args below meth c H locs 0 0 (QI below G A args s (b2i res.1) [uX12 G o_t a_t res.2, uA G 63 (a_t 0) v_t_now]) (F0 m 12 ls [])) (hf : b_X12_findSlacks_12 N g12 v_t v_t_now y1 y2 y3 = some res) {H : Heap} {locs : List Loc} {ls : Array Slot} (h : HP G A s [uX12 G o_t a_t v_t, uA G 63 (a_t 0) v_t_now] H locs) (hl : lv_has ls 6 [(0, .ref o_t), (1, .int y1), (2, .int y2), (3, .int y3)]) : W p l e (rmm 6) s m args below meth c H locs 0 0 (QI below G A args s (b2i res.1) [uX12 G o_t a_t res.2, uA G 63 (a_t 0) v_t_now]) (F0 m 12 ls []) := by
  unfold b_X12_findSlacks_12 at hf
  refine lv_iload_n C.hx C.hb dX12_findSlacks_12 rfl (lv_at hl 3 rfl) ?_
  refine lv_aload_n C.hx C.hb dX12_findSlacks_13 rfl (lv_at hl 0 rfl) ?_
  obtain ⟨zr1, zq2, hf⟩ := bd_some hf
  have zm3 := c_X12_things l G o_t a_t (hf := zq2)
  refine g_goI C h zm3.1 (is := [0, 1]) rfl rfl (g_runV C h (is := [0, 1]) rfl rfl (As := []) (rest := [.int y3]) (zm3.2 _) vf_X12_48 0 0 rfl rfl hl.1 rfl rfl (Nat.le_of_ble_eq_true rfl) dX12_findSlacks_14 ⟨Nat.le_of_ble_eq_true rfl, Nat.le_of_ble_eq_true rfl⟩ ⟨Nat.le_refl _, Nat.le_refl _⟩) (us2 := [uX12 G o_t a_t v_t, uA G 63 (a_t 0) v_t_now]) rfl (fun H locs h => ?_)
  refine lv_icmp_ge (tgt := 31) C.hx C.hb dX12_findSlacks_17 (by decide) (fun zc4 => ?_) (fun zc4 => ?_)
  · replace hf := it_t zc4 hf
    refine lv_iconst (v := 0) C.hx C.hb dX12_findSlacks_31 (by decide) ?_
    refine lv_istore_n (lv' := [(3, .int 0), (0, .ref o_t), (1, .int y1), (2, .int y2)]) C.hx C.hb dX12_findSlacks_32 rfl hl (by decide) rfl (fun ls hl => ?_)
    exact l_X12_findSlacks_33 C N hf h (lv_sub hl [1, 2, 3, 0] rfl)
  · replace hf := it_f zc4 hf
    refine lv_iload_n C.hx C.hb dX12_findSlacks_20 rfl (lv_at hl 2 rfl) ?_
    refine lv_bipush (v := 10) C.hx C.hb dX12_findSlacks_21 (by decide) ?_
    refine lv_imul C.hx C.hb dX12_findSlacks_23 ?_
    refine lv_istore_n (lv' := [(2, .int (y2 * 10)), (0, .ref o_t), (1, .int y1), (3, .int y3)]) C.hx C.hb dX12_findSlacks_24 rfl hl (by decide) rfl (fun ls hl => ?_)
    refine lv_iinc (v := y3 + 1) (lv' := [(3, .int (y3 + 1)), (2, .int (y2 * 10)), (0, .ref o_t), (1, .int y1)]) C.hx C.hb dX12_findSlacks_25 hl (k := 3) rfl rfl (by decide) rfl (fun ls hl => ?_)
    refine lv_goto (tgt := 12) C.hx C.hb dX12_findSlacks_28 (by decide) ?_
    exact hg12 hf h (lv_sub hl [2, 3, 1, 0] rfl)
set_option maxRecDepth 100000 in
set_option maxHeartbeats 4000000 in
theorem l_X12_findSlacks_12 {p : Program} {l : Launch} {e : Env} {s : State} {m : MethodId} {args : Array Value} {below : List Frame} {meth : Method} {c : Code} {G : GG} {A : Nat → Prop} {o_t : Nat} {a_t : Nat → Nat} {N : Nat}  {res : Bool × US} (C : MC RX12 cX12_findSlacks 6 (some .boolean) G A p s m args meth c)  : ∀ (k : Nat) {v_t : US} {v_t_now : Nat → Int32} {y1 : Int32} {y2 : Int32} {y3 : Int32}, f_X12_findSlacks_12 N k v_t v_t_now y1 y2 y3 = some res → ∀ {H : Heap} {locs : List Loc} {ls : Array Slot}, HP G A s [uX12 G o_t a_t v_t, uA G 63 (a_t 0) v_t_now] H locs → lv_has ls 6 [(0, .ref o_t), (1, .int y1), (2, .int y2), (3, .int y3)] → W p l e (rmm 6) s m args below meth c H locs 0 0 (QI below G A args s (b2i res.1) [uX12 G o_t a_t res.2, uA G 63 (a_t 0) v_t_now]) (F0 m 12 ls []) := by
  intro k
  induction k with
  | zero => intros; contradiction
  | succ k ih =>
    intro v_t v_t_now y1 y2 y3 hf H locs ls h hl
    exact w_X12_findSlacks_12 (N := N) C ih hf h hl
set_option maxRecDepth 100000 in
set_option maxHeartbeats 4000000 in
theorem c_X12_findSlacks (l : Launch) (G : GG) (o_t : Nat) (a_t : Nat → Nat) (N : Nat) {v_t : US} {v_t_now : Nat → Int32} {x1 : Int32} {res : Bool × US} (hf : f_X12_findSlacks N v_t v_t_now x1 = some res) : MI l yX12_findSlacks cX12_findSlacks 6 (some .boolean) 6 [.ref o_t, .int x1] G [uX12 G o_t a_t v_t, uA G 63 (a_t 0) v_t_now] (b2i res.1) [uX12 G o_t a_t res.2, uA G 63 (a_t 0) v_t_now] := by
  unfold f_X12_findSlacks at hf
  refine MI.intro (by decide) rfl (Nat.le_of_ble_eq_true rfl) (fun p e s m args below meth c A ls C h hl => ?_)
  have C : MC RX12 cX12_findSlacks 6 (some .boolean) G A p s m args meth c := C
  have hl : lv_has ls 6 [(0, .ref o_t), (1, .int x1)] := hl
  refine lv_aload_n C.hx C.hb dX12_findSlacks_0 rfl (lv_at hl 0 rfl) ?_
  refine lv_aload_n C.hx C.hb dX12_findSlacks_1 rfl (lv_at hl 0 rfl) ?_
  obtain ⟨zr1, zq2, hf⟩ := bd_some hf
  have zm3 := c_X12_all l G o_t a_t (hf := zq2)
  refine g_goI C h zm3.1 (is := [0, 1]) rfl rfl (g_runV C h (is := [0, 1]) rfl rfl (As := []) (rest := [.ref o_t]) (zm3.2 _) vf_X12_155 0 0 rfl rfl hl.1 rfl rfl (Nat.le_of_ble_eq_true rfl) dX12_findSlacks_2 ⟨Nat.le_of_ble_eq_true rfl, Nat.le_of_ble_eq_true rfl⟩ ⟨Nat.le_refl _, Nat.le_refl _⟩) (us2 := [uX12 G o_t a_t v_t, uA G 63 (a_t 0) v_t_now]) rfl (fun H locs h => ?_)
  refine g_put C h fp_X12_89 0 0 rfl rfl rfl rfl (Nat.le_of_ble_eq_true rfl) dX12_findSlacks_5 (u' := uX12 G o_t a_t (upi v_t 7 zr1)) (us' := [uX12 G o_t a_t (upi v_t 7 zr1), uA G 63 (a_t 0) v_t_now]) rfl rfl (fun H locs h => ?_)
  refine lv_iconst (v := 1) C.hx C.hb dX12_findSlacks_8 (by decide) ?_
  refine lv_istore_n (lv' := [(2, .int 1), (0, .ref o_t), (1, .int x1)]) C.hx C.hb dX12_findSlacks_9 rfl hl (by decide) rfl (fun ls hl => ?_)
  refine lv_iconst (v := 0) C.hx C.hb dX12_findSlacks_10 (by decide) ?_
  refine lv_istore_n (lv' := [(3, .int 0), (2, .int 1), (0, .ref o_t), (1, .int x1)]) C.hx C.hb dX12_findSlacks_11 rfl hl (by decide) rfl (fun ls hl => ?_)
  exact l_X12_findSlacks_12 C N hf h (lv_sub hl [2, 3, 1, 0] rfl)

def f_X12_free (v_t : US) (v_t_now : Nat → Int32)  : Option (Int32 × (Nat → Int32)) :=
  (f_X12_rules v_t v_t_now).bind fun zr1 => if (39 : Int32) < 0 ∨ 63 ≤ (39 : Int32).toNatClampNeg then none else (some (zr1, upd v_t_now (39 : Int32).toNatClampNeg 0))
set_option maxRecDepth 100000 in
set_option maxHeartbeats 4000000 in
theorem c_X12_free (l : Launch) (G : GG) (o_t : Nat) (a_t : Nat → Nat) {v_t : US} {v_t_now : Nat → Int32}  {res : Int32 × (Nat → Int32)} (hf : f_X12_free v_t v_t_now = some res) : MI l yX12_free cX12_free 2 (some .int) 2 [.ref o_t] G [uX12 G o_t a_t v_t, uA G 63 (a_t 0) v_t_now] res.1 [uX12 G o_t a_t v_t, uA G 63 (a_t 0) res.2] := by
  unfold f_X12_free at hf
  refine MI.intro (by decide) rfl (Nat.le_of_ble_eq_true rfl) (fun p e s m args below meth c A ls C h hl => ?_)
  have C : MC RX12 cX12_free 2 (some .int) G A p s m args meth c := C
  have hl : lv_has ls 2 [(0, .ref o_t)] := hl
  refine lv_aload_n C.hx C.hb dX12_free_0 rfl (lv_at hl 0 rfl) ?_
  obtain ⟨zr1, zq2, hf⟩ := bd_some hf
  have zm3 := c_X12_rules l G o_t a_t (hf := zq2)
  refine g_goI C h zm3.1 (is := [0, 1]) rfl rfl (g_runV C h (is := [0, 1]) rfl rfl (As := []) (rest := []) (zm3.2 _) vf_X12_164 0 0 rfl rfl hl.1 rfl rfl (Nat.le_of_ble_eq_true rfl) dX12_free_1 ⟨Nat.le_of_ble_eq_true rfl, Nat.le_of_ble_eq_true rfl⟩ ⟨Nat.le_refl _, Nat.le_refl _⟩) (us2 := [uX12 G o_t a_t v_t, uA G 63 (a_t 0) v_t_now]) rfl (fun H locs h => ?_)
  refine lv_istore_n (lv' := [(1, .int zr1), (0, .ref o_t)]) C.hx C.hb dX12_free_4 rfl hl (by decide) rfl (fun ls hl => ?_)
  refine lv_aload_n C.hx C.hb dX12_free_5 rfl (lv_at hl 1 rfl) ?_
  refine g_get C h fl_X12_7 0 0 rfl rfl (v := .ref (a_t 0)) rfl dX12_free_6 ?_
  refine lv_bipush (v := 39) C.hx C.hb dX12_free_9 (by decide) ?_
  refine lv_iconst (v := 0) C.hx C.hb dX12_free_11 (by decide) ?_
  obtain ⟨zi4, hf⟩ := ck_some hf
  refine g_iast C h 1 0 rfl rfl (f := v_t_now) zi4 dX12_free_12 (u' := uA G 63 (a_t 0) (upd v_t_now (39 : Int32).toNatClampNeg 0)) (us' := [uX12 G o_t a_t v_t, uA G 63 (a_t 0) (upd v_t_now (39 : Int32).toNatClampNeg 0)]) rfl rfl (fun H locs h => ?_)
  refine lv_iload_n C.hx C.hb dX12_free_13 rfl (lv_at hl 0 rfl) ?_
  obtain rfl := Option.some.inj hf
  exact g_ret_i C h rfl rfl dX12_free_14

def b_X12_from_35 (N : Nat) (g35 : US → (Nat → Int32) → Int32 → Int32 → (Option (Int32 × US × (Nat → Int32)))) (v_t : US) (v_t_now : Nat → Int32) (y1 : Int32) (y2 : Int32) : Option (Int32 × US × (Nat → Int32)) :=
  if 63 ≤ y2 then (some (1, v_t, v_t_now)) else (if ((63 * y1) + y2) < 0 ∨ 126 ≤ ((63 * y1) + y2).toNatClampNeg then none else (if y2 < 0 ∨ 63 ≤ y2.toNatClampNeg then none else (g35 v_t (upd v_t_now y2.toNatClampNeg ((v_t.2.2 1) ((63 * y1) + y2).toNatClampNeg)) y1 (y2 + 1))))
def f_X12_from_35 (N : Nat)  : Nat → US → (Nat → Int32) → Int32 → Int32 → (Option (Int32 × US × (Nat → Int32)))
  | 0 => fun _ _ _ _ => none
  | k + 1 => fun q0 q1 q2 q3 => b_X12_from_35 N  (f_X12_from_35 N  k) q0 q1 q2 q3
def f_X12_from (N : Nat) (v_t : US) (v_t_now : Nat → Int32) (x1 : Int32) : Option (Int32 × US × (Nat → Int32)) :=
  (f_X12_in x1.toInt64 0 1).bind fun zr1 => if (b2i zr1) = 0 then ((f_X12_bad v_t (-2)).bind fun zr10 => some (zr10.1, zr10.2, v_t_now)) else (if x1 < 0 ∨ 2 ≤ x1.toNatClampNeg then none else (if ((v_t.2.2 2) x1.toNatClampNeg) = 0 then ((f_X12_no v_t (-3)).bind fun zr7 => some (zr7.1, zr7.2, v_t_now)) else (f_X12_from_35 N N v_t v_t_now x1 0)))
set_option maxRecDepth 100000 in
set_option maxHeartbeats 4000000 in
theorem w_X12_from_35 {p : Program} {l : Launch} {e : Env} {s : State} {m : MethodId} {args : Array Value} {below : List Frame} {meth : Method} {c : Code} {G : GG} {A : Nat → Prop} {o_t : Nat} {a_t : Nat → Nat} {N : Nat} {g35 : US → (Nat → Int32) → Int32 → Int32 → (Option (Int32 × US × (Nat → Int32)))} {v_t : US} {v_t_now : Nat → Int32} {y1 : Int32} {y2 : Int32} {res : Int32 × US × (Nat → Int32)} (C : MC RX12 cX12_from 3 (some .int) G A p s m args meth c) (hg35 : ∀ {v_t : US} {v_t_now : Nat → Int32} {y1 : Int32} {y2 : Int32}, g35 v_t v_t_now y1 y2 = some res → ∀ {H : Heap} {locs : List Loc} {ls : Array Slot}, HP G A s [uX12 G o_t a_t v_t, uA G 63 (a_t 0) v_t_now] H locs → lv_has ls 3 [(0, .ref o_t), (1, .int y1), (2, .int y2)] → W p l e (rmm 2) s m args below meth c H locs 0 0 (QI below G A args s res.1 [uX12 G o_t a_t res.2.1, uA G 63 (a_t 0) res.2.2]) (F0 m 35 ls [])) (hf : b_X12_from_35 N g35 v_t v_t_now y1 y2 = some res) {H : Heap} {locs : List Loc} {ls : Array Slot} (h : HP G A s [uX12 G o_t a_t v_t, uA G 63 (a_t 0) v_t_now] H locs) (hl : lv_has ls 3 [(0, .ref o_t), (1, .int y1), (2, .int y2)]) : W p l e (rmm 2) s m args below meth c H locs 0 0 (QI below G A args s res.1 [uX12 G o_t a_t res.2.1, uA G 63 (a_t 0) res.2.2]) (F0 m 35 ls []) := by
  unfold b_X12_from_35 at hf
  refine lv_iload_n C.hx C.hb dX12_from_35 rfl (lv_at hl 2 rfl) ?_
  refine lv_bipush (v := 63) C.hx C.hb dX12_from_36 (by decide) ?_
  refine lv_icmp_ge (tgt := 64) C.hx C.hb dX12_from_38 (by decide) (fun zc1 => ?_) (fun zc1 => ?_)
  · replace hf := it_t zc1 hf
    refine lv_iconst (v := 1) C.hx C.hb dX12_from_64 (by decide) ?_
    obtain rfl := Option.some.inj hf
    exact g_ret_i C h rfl rfl dX12_from_65
  · replace hf := it_f zc1 hf
    refine lv_aload_n C.hx C.hb dX12_from_41 rfl (lv_at hl 0 rfl) ?_
    refine g_get C h fl_X12_7 0 0 rfl rfl (v := .ref (a_t 0)) rfl dX12_from_42 ?_
    refine lv_iload_n C.hx C.hb dX12_from_45 rfl (lv_at hl 2 rfl) ?_
    refine lv_aload_n C.hx C.hb dX12_from_46 rfl (lv_at hl 0 rfl) ?_
    refine g_get C h fl_X12_13 0 0 rfl rfl (v := .ref (a_t 1)) rfl dX12_from_47 ?_
    refine lv_bipush (v := 63) C.hx C.hb dX12_from_50 (by decide) ?_
    refine lv_iload_n C.hx C.hb dX12_from_52 rfl (lv_at hl 1 rfl) ?_
    refine lv_imul C.hx C.hb dX12_from_53 ?_
    refine lv_iload_n C.hx C.hb dX12_from_54 rfl (lv_at hl 2 rfl) ?_
    refine lv_iadd C.hx C.hb dX12_from_55 ?_
    obtain ⟨zi2, hf⟩ := ck_some hf
    refine g_iald C h 0 1 rfl rfl (f := v_t.2.2 1) zi2 dX12_from_56 ?_
    obtain ⟨zi3, hf⟩ := ck_some hf
    refine g_iast C h 1 0 rfl rfl (f := v_t_now) zi3 dX12_from_57 (u' := uA G 63 (a_t 0) (upd v_t_now y2.toNatClampNeg ((v_t.2.2 1) ((63 * y1) + y2).toNatClampNeg))) (us' := [uX12 G o_t a_t v_t, uA G 63 (a_t 0) (upd v_t_now y2.toNatClampNeg ((v_t.2.2 1) ((63 * y1) + y2).toNatClampNeg))]) rfl rfl (fun H locs h => ?_)
    refine lv_iinc (v := y2 + 1) (lv' := [(2, .int (y2 + 1)), (0, .ref o_t), (1, .int y1)]) C.hx C.hb dX12_from_58 hl (k := 2) rfl rfl (by decide) rfl (fun ls hl => ?_)
    refine lv_goto (tgt := 35) C.hx C.hb dX12_from_61 (by decide) ?_
    exact hg35 hf h (lv_sub hl [1, 2, 0] rfl)
set_option maxRecDepth 100000 in
set_option maxHeartbeats 4000000 in
theorem l_X12_from_35 {p : Program} {l : Launch} {e : Env} {s : State} {m : MethodId} {args : Array Value} {below : List Frame} {meth : Method} {c : Code} {G : GG} {A : Nat → Prop} {o_t : Nat} {a_t : Nat → Nat} {N : Nat}  {res : Int32 × US × (Nat → Int32)} (C : MC RX12 cX12_from 3 (some .int) G A p s m args meth c)  : ∀ (k : Nat) {v_t : US} {v_t_now : Nat → Int32} {y1 : Int32} {y2 : Int32}, f_X12_from_35 N k v_t v_t_now y1 y2 = some res → ∀ {H : Heap} {locs : List Loc} {ls : Array Slot}, HP G A s [uX12 G o_t a_t v_t, uA G 63 (a_t 0) v_t_now] H locs → lv_has ls 3 [(0, .ref o_t), (1, .int y1), (2, .int y2)] → W p l e (rmm 2) s m args below meth c H locs 0 0 (QI below G A args s res.1 [uX12 G o_t a_t res.2.1, uA G 63 (a_t 0) res.2.2]) (F0 m 35 ls []) := by
  intro k
  induction k with
  | zero => intros; contradiction
  | succ k ih =>
    intro v_t v_t_now y1 y2 hf H locs ls h hl
    exact w_X12_from_35 (N := N) C ih hf h hl
set_option maxRecDepth 100000 in
set_option maxHeartbeats 4000000 in
theorem c_X12_from (l : Launch) (G : GG) (o_t : Nat) (a_t : Nat → Nat) (N : Nat) {v_t : US} {v_t_now : Nat → Int32} {x1 : Int32} {res : Int32 × US × (Nat → Int32)} (hf : f_X12_from N v_t v_t_now x1 = some res) : MI l yX12_from cX12_from 3 (some .int) 2 [.ref o_t, .int x1] G [uX12 G o_t a_t v_t, uA G 63 (a_t 0) v_t_now] res.1 [uX12 G o_t a_t res.2.1, uA G 63 (a_t 0) res.2.2] := by
  unfold f_X12_from at hf
  refine MI.intro (by decide) rfl (Nat.le_of_ble_eq_true rfl) (fun p e s m args below meth c A ls C h hl => ?_)
  have C : MC RX12 cX12_from 3 (some .int) G A p s m args meth c := C
  have hl : lv_has ls 3 [(0, .ref o_t), (1, .int x1)] := hl
  refine lv_iload_n C.hx C.hb dX12_from_0 rfl (lv_at hl 1 rfl) ?_
  refine lv_i2l C.hx C.hb dX12_from_1 rfl ?_
  refine lv_lconst (v := 0) C.hx C.hb dX12_from_2 (by decide) ?_
  refine lv_lconst (v := 1) C.hx C.hb dX12_from_3 (by decide) ?_
  obtain ⟨zr1, zq2, hf⟩ := bd_some hf
  have zm3 := c_X12_in l G  (hf := zq2)
  refine g_goI C h zm3.1 (is := []) rfl rfl (g_runS C h (is := []) rfl rfl (As := [.long x1.toInt64, .long 0, .long 1]) (rest := []) (zm3.2 _) sf_X12_52 hl.1 rfl rfl (Nat.le_of_ble_eq_true rfl) dX12_from_4 ⟨Nat.le_of_ble_eq_true rfl, Nat.le_of_ble_eq_true rfl⟩ ⟨Nat.le_refl _, Nat.le_refl _⟩) (us2 := [uX12 G o_t a_t v_t, uA G 63 (a_t 0) v_t_now]) rfl (fun H locs h => ?_)
  refine lv_if_ne (tgt := 17) C.hx C.hb dX12_from_7 (by decide) (fun zc4 => ?_) (fun zc4 => ?_)
  · replace hf := it_f zc4 hf
    refine lv_aload_n C.hx C.hb dX12_from_17 rfl (lv_at hl 0 rfl) ?_
    refine g_get C h fl_X12_16 0 0 rfl rfl (v := .ref (a_t 2)) rfl dX12_from_18 ?_
    refine lv_iload_n C.hx C.hb dX12_from_21 rfl (lv_at hl 1 rfl) ?_
    obtain ⟨zi5, hf⟩ := ck_some hf
    refine g_zald C h 0 2 rfl rfl (f := v_t.2.2 2) zi5 dX12_from_22 ?_
    refine lv_if_ne (tgt := 33) C.hx C.hb dX12_from_23 (by decide) (fun zc6 => ?_) (fun zc6 => ?_)
    · replace hf := it_f zc6 hf
      refine lv_iconst (v := 0) C.hx C.hb dX12_from_33 (by decide) ?_
      refine lv_istore_n (lv' := [(2, .int 0), (0, .ref o_t), (1, .int x1)]) C.hx C.hb dX12_from_34 rfl hl (by decide) rfl (fun ls hl => ?_)
      exact l_X12_from_35 C N hf h (lv_sub hl [1, 2, 0] rfl)
    · replace hf := it_t zc6 hf
      refine lv_aload_n C.hx C.hb dX12_from_26 rfl (lv_at hl 0 rfl) ?_
      refine lv_bipush (v := (-3)) C.hx C.hb dX12_from_27 (by decide) ?_
      obtain ⟨zr7, zq8, hf⟩ := bd_some hf
      have zm9 := c_X12_no l G o_t a_t (hf := zq8)
      refine g_goI C h zm9.1 (is := [0]) rfl rfl (g_runV C h (is := [0]) rfl rfl (As := [.int (-3)]) (rest := []) (zm9.2 _) vf_X12_79 0 0 rfl rfl hl.1 rfl rfl (Nat.le_of_ble_eq_true rfl) dX12_from_29 ⟨Nat.le_of_ble_eq_true rfl, Nat.le_of_ble_eq_true rfl⟩ ⟨Nat.le_refl _, Nat.le_refl _⟩) (us2 := [uX12 G o_t a_t zr7.2, uA G 63 (a_t 0) v_t_now]) rfl (fun H locs h => ?_)
      obtain rfl := Option.some.inj hf
      exact g_ret_i C h rfl rfl dX12_from_32
  · replace hf := it_t zc4 hf
    refine lv_aload_n C.hx C.hb dX12_from_10 rfl (lv_at hl 0 rfl) ?_
    refine lv_bipush (v := (-2)) C.hx C.hb dX12_from_11 (by decide) ?_
    obtain ⟨zr10, zq11, hf⟩ := bd_some hf
    have zm12 := c_X12_bad l G o_t a_t (hf := zq11)
    refine g_goI C h zm12.1 (is := [0]) rfl rfl (g_runV C h (is := [0]) rfl rfl (As := [.int (-2)]) (rest := []) (zm12.2 _) vf_X12_60 0 0 rfl rfl hl.1 rfl rfl (Nat.le_of_ble_eq_true rfl) dX12_from_13 ⟨Nat.le_of_ble_eq_true rfl, Nat.le_of_ble_eq_true rfl⟩ ⟨Nat.le_refl _, Nat.le_refl _⟩) (us2 := [uX12 G o_t a_t zr10.2, uA G 63 (a_t 0) v_t_now]) rfl (fun H locs h => ?_)
    obtain rfl := Option.some.inj hf
    exact g_ret_i C h rfl rfl dX12_from_16

def b_X12_giveUp_44 (N : Nat) (g11 : US → (Nat → Int32) → Int32 → Int32 → Option (Int32 × US)) (v_t : US) (v_t_now : Nat → Int32) (y1 : Int32) (y2 : Int32) : Option (Int32 × US) :=
  (f_X12_findSlacks N v_t v_t_now y2).bind fun zr1 => if (b2i zr1.1) = 0 then (g11 zr1.2 v_t_now y1 (y2 + 1)) else (g11 zr1.2 v_t_now y2 (y2 + 1))
def b_X12_giveUp_11 (N : Nat) (g11 : US → (Nat → Int32) → Int32 → Int32 → Option (Int32 × US)) (v_t : US) (v_t_now : Nat → Int32) (y1 : Int32) (y2 : Int32) : Option (Int32 × US) :=
  (f_X12_rules v_t v_t_now).bind fun zr1 => if (1 <<< (zr1 &&& 31)) ≤ y2 then (some (y1, v_t)) else ((f_X12_bits N y1).bind fun zr5 => (f_X12_bits N y2).bind fun zr8 => if 0 < (zr5 - zr8) then (b_X12_giveUp_44 N g11 v_t v_t_now y1 y2) else (if (zr5 - zr8) = 0 then (if y1 ≤ y2 then (g11 v_t v_t_now y1 (y2 + 1)) else (b_X12_giveUp_44 N g11 v_t v_t_now y1 y2)) else (g11 v_t v_t_now y1 (y2 + 1))))
def f_X12_giveUp_11 (N : Nat)  : Nat → US → (Nat → Int32) → Int32 → Int32 → Option (Int32 × US)
  | 0 => fun _ _ _ _ => none
  | k + 1 => fun q0 q1 q2 q3 => b_X12_giveUp_11 N  (f_X12_giveUp_11 N  k) q0 q1 q2 q3
def f_X12_giveUp (N : Nat) (v_t : US) (v_t_now : Nat → Int32)  : Option (Int32 × US) :=
  (f_X12_rules v_t v_t_now).bind fun zr1 => f_X12_giveUp_11 N N v_t v_t_now ((1 <<< (zr1 &&& 31)) - 1) 0
set_option maxRecDepth 100000 in
set_option maxHeartbeats 4000000 in
theorem w_X12_giveUp_44 {p : Program} {l : Launch} {e : Env} {s : State} {m : MethodId} {args : Array Value} {below : List Frame} {meth : Method} {c : Code} {G : GG} {A : Nat → Prop} {o_t : Nat} {a_t : Nat → Nat} {N : Nat} {g11 : US → (Nat → Int32) → Int32 → Int32 → Option (Int32 × US)} {v_t : US} {v_t_now : Nat → Int32} {y1 : Int32} {y2 : Int32} {res : Int32 × US} (C : MC RX12 cX12_giveUp 4 (some .int) G A p s m args meth c) (hg11 : ∀ {v_t : US} {v_t_now : Nat → Int32} {y1 : Int32} {y2 : Int32}, g11 v_t v_t_now y1 y2 = some res → ∀ {H : Heap} {locs : List Loc} {ls : Array Slot}, HP G A s [uX12 G o_t a_t v_t, uA G 63 (a_t 0) v_t_now] H locs → lv_has ls 4 [(0, .ref o_t), (1, .int y1), (2, .int y2)] → W p l e (rmm 7) s m args below meth c H locs 0 0 (QI below G A args s res.1 [uX12 G o_t a_t res.2, uA G 63 (a_t 0) v_t_now]) (F0 m 11 ls [])) (hf : b_X12_giveUp_44 N g11 v_t v_t_now y1 y2 = some res) {H : Heap} {locs : List Loc} {ls : Array Slot} (h : HP G A s [uX12 G o_t a_t v_t, uA G 63 (a_t 0) v_t_now] H locs) (hl : lv_has ls 4 [(0, .ref o_t), (1, .int y1), (2, .int y2)]) : W p l e (rmm 7) s m args below meth c H locs 0 0 (QI below G A args s res.1 [uX12 G o_t a_t res.2, uA G 63 (a_t 0) v_t_now]) (F0 m 44 ls []) := by
  unfold b_X12_giveUp_44 at hf
  refine lv_aload_n C.hx C.hb dX12_giveUp_44 rfl (lv_at hl 0 rfl) ?_
  refine lv_iload_n C.hx C.hb dX12_giveUp_45 rfl (lv_at hl 2 rfl) ?_
  obtain ⟨zr1, zq2, hf⟩ := bd_some hf
  have zm3 := c_X12_findSlacks l G o_t a_t N (hf := zq2)
  refine g_goI C h zm3.1 (is := [0, 1]) rfl rfl (g_runV C h (is := [0, 1]) rfl rfl (As := [.int y2]) (rest := []) (zm3.2 _) vf_X12_174 0 0 rfl rfl hl.1 rfl rfl (Nat.le_of_ble_eq_true rfl) dX12_giveUp_46 ⟨Nat.le_of_ble_eq_true rfl, Nat.le_of_ble_eq_true rfl⟩ ⟨Nat.le_refl _, Nat.le_refl _⟩) (us2 := [uX12 G o_t a_t zr1.2, uA G 63 (a_t 0) v_t_now]) rfl (fun H locs h => ?_)
  refine lv_if_eq (tgt := 54) C.hx C.hb dX12_giveUp_49 (by decide) (fun zc4 => ?_) (fun zc4 => ?_)
  · replace hf := it_t zc4 hf
    refine lv_iinc (v := y2 + 1) (lv' := [(2, .int (y2 + 1)), (0, .ref o_t), (1, .int y1)]) C.hx C.hb dX12_giveUp_54 hl (k := 2) rfl rfl (by decide) rfl (fun ls hl => ?_)
    refine lv_goto (tgt := 11) C.hx C.hb dX12_giveUp_57 (by decide) ?_
    exact hg11 hf h (lv_sub hl [1, 2, 0] rfl)
  · replace hf := it_f zc4 hf
    refine lv_iload_n C.hx C.hb dX12_giveUp_52 rfl (lv_at hl 2 rfl) ?_
    refine lv_istore_n (lv' := [(1, .int y2), (0, .ref o_t), (2, .int y2)]) C.hx C.hb dX12_giveUp_53 rfl hl (by decide) rfl (fun ls hl => ?_)
    refine lv_iinc (v := y2 + 1) (lv' := [(2, .int (y2 + 1)), (1, .int y2), (0, .ref o_t)]) C.hx C.hb dX12_giveUp_54 hl (k := 2) rfl rfl (by decide) rfl (fun ls hl => ?_)
    refine lv_goto (tgt := 11) C.hx C.hb dX12_giveUp_57 (by decide) ?_
    exact hg11 hf h (lv_sub hl [2, 1, 0] rfl)
set_option maxRecDepth 100000 in
set_option maxHeartbeats 4000000 in
theorem w_X12_giveUp_11 {p : Program} {l : Launch} {e : Env} {s : State} {m : MethodId} {args : Array Value} {below : List Frame} {meth : Method} {c : Code} {G : GG} {A : Nat → Prop} {o_t : Nat} {a_t : Nat → Nat} {N : Nat} {g11 : US → (Nat → Int32) → Int32 → Int32 → Option (Int32 × US)} {v_t : US} {v_t_now : Nat → Int32} {y1 : Int32} {y2 : Int32} {res : Int32 × US} (C : MC RX12 cX12_giveUp 4 (some .int) G A p s m args meth c) (hg11 : ∀ {v_t : US} {v_t_now : Nat → Int32} {y1 : Int32} {y2 : Int32}, g11 v_t v_t_now y1 y2 = some res → ∀ {H : Heap} {locs : List Loc} {ls : Array Slot}, HP G A s [uX12 G o_t a_t v_t, uA G 63 (a_t 0) v_t_now] H locs → lv_has ls 4 [(0, .ref o_t), (1, .int y1), (2, .int y2)] → W p l e (rmm 7) s m args below meth c H locs 0 0 (QI below G A args s res.1 [uX12 G o_t a_t res.2, uA G 63 (a_t 0) v_t_now]) (F0 m 11 ls [])) (hf : b_X12_giveUp_11 N g11 v_t v_t_now y1 y2 = some res) {H : Heap} {locs : List Loc} {ls : Array Slot} (h : HP G A s [uX12 G o_t a_t v_t, uA G 63 (a_t 0) v_t_now] H locs) (hl : lv_has ls 4 [(0, .ref o_t), (1, .int y1), (2, .int y2)]) : W p l e (rmm 7) s m args below meth c H locs 0 0 (QI below G A args s res.1 [uX12 G o_t a_t res.2, uA G 63 (a_t 0) v_t_now]) (F0 m 11 ls []) := by
  unfold b_X12_giveUp_11 at hf
  refine lv_iload_n C.hx C.hb dX12_giveUp_11 rfl (lv_at hl 2 rfl) ?_
  refine lv_iconst (v := 1) C.hx C.hb dX12_giveUp_12 (by decide) ?_
  refine lv_aload_n C.hx C.hb dX12_giveUp_13 rfl (lv_at hl 0 rfl) ?_
  obtain ⟨zr1, zq2, hf⟩ := bd_some hf
  have zm3 := c_X12_rules l G o_t a_t (hf := zq2)
  refine g_goI C h zm3.1 (is := [0, 1]) rfl rfl (g_runV C h (is := [0, 1]) rfl rfl (As := []) (rest := [.int 1, .int y2]) (zm3.2 _) vf_X12_164 0 0 rfl rfl hl.1 rfl rfl (Nat.le_of_ble_eq_true rfl) dX12_giveUp_14 ⟨Nat.le_of_ble_eq_true rfl, Nat.le_of_ble_eq_true rfl⟩ ⟨Nat.le_refl _, Nat.le_refl _⟩) (us2 := [uX12 G o_t a_t v_t, uA G 63 (a_t 0) v_t_now]) rfl (fun H locs h => ?_)
  refine lv_ishl C.hx C.hb dX12_giveUp_17 ?_
  refine lv_icmp_ge (tgt := 60) C.hx C.hb dX12_giveUp_18 (by decide) (fun zc4 => ?_) (fun zc4 => ?_)
  · replace hf := it_t zc4 hf
    refine lv_iload_n C.hx C.hb dX12_giveUp_60 rfl (lv_at hl 1 rfl) ?_
    obtain rfl := Option.some.inj hf
    exact g_ret_i C h rfl rfl dX12_giveUp_61
  · replace hf := it_f zc4 hf
    refine lv_iload_n C.hx C.hb dX12_giveUp_21 rfl (lv_at hl 1 rfl) ?_
    obtain ⟨zr5, zq6, hf⟩ := bd_some hf
    have zm7 := c_X12_bits l G N (hf := zq6)
    refine g_goI C h zm7.1 (is := []) rfl rfl (g_runS C h (is := []) rfl rfl (As := [.int y1]) (rest := []) (zm7.2 _) sf_X12_136 hl.1 rfl rfl (Nat.le_of_ble_eq_true rfl) dX12_giveUp_22 ⟨Nat.le_of_ble_eq_true rfl, Nat.le_of_ble_eq_true rfl⟩ ⟨Nat.le_refl _, Nat.le_refl _⟩) (us2 := [uX12 G o_t a_t v_t, uA G 63 (a_t 0) v_t_now]) rfl (fun H locs h => ?_)
    refine lv_iload_n C.hx C.hb dX12_giveUp_25 rfl (lv_at hl 2 rfl) ?_
    obtain ⟨zr8, zq9, hf⟩ := bd_some hf
    have zm10 := c_X12_bits l G N (hf := zq9)
    refine g_goI C h zm10.1 (is := []) rfl rfl (g_runS C h (is := []) rfl rfl (As := [.int y2]) (rest := [.int zr5]) (zm10.2 _) sf_X12_136 hl.1 rfl rfl (Nat.le_of_ble_eq_true rfl) dX12_giveUp_26 ⟨Nat.le_of_ble_eq_true rfl, Nat.le_of_ble_eq_true rfl⟩ ⟨Nat.le_refl _, Nat.le_refl _⟩) (us2 := [uX12 G o_t a_t v_t, uA G 63 (a_t 0) v_t_now]) rfl (fun H locs h => ?_)
    refine lv_isub C.hx C.hb dX12_giveUp_29 ?_
    refine lv_istore_n (lv' := [(3, .int (zr5 - zr8)), (0, .ref o_t), (1, .int y1), (2, .int y2)]) C.hx C.hb dX12_giveUp_30 rfl hl (by decide) rfl (fun ls hl => ?_)
    refine lv_iload_n C.hx C.hb dX12_giveUp_31 rfl (lv_at hl 0 rfl) ?_
    refine lv_if_gt (tgt := 44) C.hx C.hb dX12_giveUp_32 (by decide) (fun zc11 => ?_) (fun zc11 => ?_)
    · replace hf := it_t zc11 hf
      exact w_X12_giveUp_44 C hg11 hf h (lv_sub hl [1, 2, 3] rfl)
    · replace hf := it_f zc11 hf
      refine lv_iload_n C.hx C.hb dX12_giveUp_35 rfl (lv_at hl 0 rfl) ?_
      refine lv_if_ne (tgt := 54) C.hx C.hb dX12_giveUp_36 (by decide) (fun zc12 => ?_) (fun zc12 => ?_)
      · replace hf := it_f zc12 hf
        refine lv_iinc (v := y2 + 1) (lv' := [(2, .int (y2 + 1)), (3, .int (zr5 - zr8)), (0, .ref o_t), (1, .int y1)]) C.hx C.hb dX12_giveUp_54 hl (k := 3) rfl rfl (by decide) rfl (fun ls hl => ?_)
        refine lv_goto (tgt := 11) C.hx C.hb dX12_giveUp_57 (by decide) ?_
        exact hg11 hf h (lv_sub hl [2, 3, 0] rfl)
      · replace hf := it_t zc12 hf
        refine lv_iload_n C.hx C.hb dX12_giveUp_39 rfl (lv_at hl 3 rfl) ?_
        refine lv_iload_n C.hx C.hb dX12_giveUp_40 rfl (lv_at hl 2 rfl) ?_
        refine lv_icmp_ge (tgt := 54) C.hx C.hb dX12_giveUp_41 (by decide) (fun zc13 => ?_) (fun zc13 => ?_)
        · replace hf := it_t zc13 hf
          refine lv_iinc (v := y2 + 1) (lv' := [(2, .int (y2 + 1)), (3, .int (zr5 - zr8)), (0, .ref o_t), (1, .int y1)]) C.hx C.hb dX12_giveUp_54 hl (k := 3) rfl rfl (by decide) rfl (fun ls hl => ?_)
          refine lv_goto (tgt := 11) C.hx C.hb dX12_giveUp_57 (by decide) ?_
          exact hg11 hf h (lv_sub hl [2, 3, 0] rfl)
        · replace hf := it_f zc13 hf
          exact w_X12_giveUp_44 C hg11 hf h (lv_sub hl [1, 2, 3] rfl)
set_option maxRecDepth 100000 in
set_option maxHeartbeats 4000000 in
theorem l_X12_giveUp_11 {p : Program} {l : Launch} {e : Env} {s : State} {m : MethodId} {args : Array Value} {below : List Frame} {meth : Method} {c : Code} {G : GG} {A : Nat → Prop} {o_t : Nat} {a_t : Nat → Nat} {N : Nat}  {res : Int32 × US} (C : MC RX12 cX12_giveUp 4 (some .int) G A p s m args meth c)  : ∀ (k : Nat) {v_t : US} {v_t_now : Nat → Int32} {y1 : Int32} {y2 : Int32}, f_X12_giveUp_11 N k v_t v_t_now y1 y2 = some res → ∀ {H : Heap} {locs : List Loc} {ls : Array Slot}, HP G A s [uX12 G o_t a_t v_t, uA G 63 (a_t 0) v_t_now] H locs → lv_has ls 4 [(0, .ref o_t), (1, .int y1), (2, .int y2)] → W p l e (rmm 7) s m args below meth c H locs 0 0 (QI below G A args s res.1 [uX12 G o_t a_t res.2, uA G 63 (a_t 0) v_t_now]) (F0 m 11 ls []) := by
  intro k
  induction k with
  | zero => intros; contradiction
  | succ k ih =>
    intro v_t v_t_now y1 y2 hf H locs ls h hl
    exact w_X12_giveUp_11 (N := N) C ih hf h hl
set_option maxRecDepth 100000 in
set_option maxHeartbeats 4000000 in
theorem c_X12_giveUp (l : Launch) (G : GG) (o_t : Nat) (a_t : Nat → Nat) (N : Nat) {v_t : US} {v_t_now : Nat → Int32}  {res : Int32 × US} (hf : f_X12_giveUp N v_t v_t_now = some res) : MI l yX12_giveUp cX12_giveUp 4 (some .int) 7 [.ref o_t] G [uX12 G o_t a_t v_t, uA G 63 (a_t 0) v_t_now] res.1 [uX12 G o_t a_t res.2, uA G 63 (a_t 0) v_t_now] := by
  unfold f_X12_giveUp at hf
  refine MI.intro (by decide) rfl (Nat.le_of_ble_eq_true rfl) (fun p e s m args below meth c A ls C h hl => ?_)
  have C : MC RX12 cX12_giveUp 4 (some .int) G A p s m args meth c := C
  have hl : lv_has ls 4 [(0, .ref o_t)] := hl
  refine lv_iconst (v := 1) C.hx C.hb dX12_giveUp_0 (by decide) ?_
  refine lv_aload_n C.hx C.hb dX12_giveUp_1 rfl (lv_at hl 0 rfl) ?_
  obtain ⟨zr1, zq2, hf⟩ := bd_some hf
  have zm3 := c_X12_rules l G o_t a_t (hf := zq2)
  refine g_goI C h zm3.1 (is := [0, 1]) rfl rfl (g_runV C h (is := [0, 1]) rfl rfl (As := []) (rest := [.int 1]) (zm3.2 _) vf_X12_164 0 0 rfl rfl hl.1 rfl rfl (Nat.le_of_ble_eq_true rfl) dX12_giveUp_2 ⟨Nat.le_of_ble_eq_true rfl, Nat.le_of_ble_eq_true rfl⟩ ⟨Nat.le_refl _, Nat.le_refl _⟩) (us2 := [uX12 G o_t a_t v_t, uA G 63 (a_t 0) v_t_now]) rfl (fun H locs h => ?_)
  refine lv_ishl C.hx C.hb dX12_giveUp_5 ?_
  refine lv_iconst (v := 1) C.hx C.hb dX12_giveUp_6 (by decide) ?_
  refine lv_isub C.hx C.hb dX12_giveUp_7 ?_
  refine lv_istore_n (lv' := [(1, .int ((1 <<< (zr1 &&& 31)) - 1)), (0, .ref o_t)]) C.hx C.hb dX12_giveUp_8 rfl hl (by decide) rfl (fun ls hl => ?_)
  refine lv_iconst (v := 0) C.hx C.hb dX12_giveUp_9 (by decide) ?_
  refine lv_istore_n (lv' := [(2, .int 0), (1, .int ((1 <<< (zr1 &&& 31)) - 1)), (0, .ref o_t)]) C.hx C.hb dX12_giveUp_10 rfl hl (by decide) rfl (fun ls hl => ?_)
  exact l_X12_giveUp_11 C N hf h (lv_sub hl [2, 1, 0] rfl)

def f_X12_isFigure  (x0 : Int32) : Option (Bool) :=
  (f_X12_in x0.toInt64 48 57).bind fun zr1 => some (zr1)
set_option maxRecDepth 100000 in
set_option maxHeartbeats 4000000 in
theorem c_X12_isFigure (l : Launch) (G : GG)  {x0 : Int32} {res : Bool} (hf : f_X12_isFigure x0 = some res) : MI l yX12_isFigure cX12_isFigure 1 (some .boolean) 2 [.int x0] G [] (b2i res) [] := by
  unfold f_X12_isFigure at hf
  refine MI.intro (by decide) rfl (Nat.le_of_ble_eq_true rfl) (fun p e s m args below meth c A ls C h hl => ?_)
  have C : MC RX12 cX12_isFigure 1 (some .boolean) G A p s m args meth c := C
  have hl : lv_has ls 1 [(0, .int x0)] := hl
  refine lv_iload_n C.hx C.hb dX12_isFigure_0 rfl (lv_at hl 0 rfl) ?_
  refine lv_i2l C.hx C.hb dX12_isFigure_1 rfl ?_
  refine lv_ldc2 C.hx C.hb C.hown (C.hts _ cw_X12_197) dX12_isFigure_2 ?_
  refine lv_ldc2 C.hx C.hb C.hown (C.hts _ cw_X12_199) dX12_isFigure_5 ?_
  obtain ⟨zr1, zq2, hf⟩ := bd_some hf
  have zm3 := c_X12_in l G  (hf := zq2)
  refine g_goI C h zm3.1 (is := []) rfl rfl (g_runS C h (is := []) rfl rfl (As := [.long x0.toInt64, .long 48, .long 57]) (rest := []) (zm3.2 _) sf_X12_52 hl.1 rfl rfl (Nat.le_of_ble_eq_true rfl) dX12_isFigure_8 ⟨Nat.le_of_ble_eq_true rfl, Nat.le_of_ble_eq_true rfl⟩ ⟨Nat.le_refl _, Nat.le_refl _⟩) (us2 := []) rfl (fun H locs h => ?_)
  obtain rfl := Option.some.inj hf
  exact g_ret_z (b := _) C h rfl rfl rfl dX12_isFigure_11

def f_X12_isSmall  (x0 : Int32) : Option (Bool) :=
  (f_X12_in x0.toInt64 97 122).bind fun zr1 => some (zr1)
set_option maxRecDepth 100000 in
set_option maxHeartbeats 4000000 in
theorem c_X12_isSmall (l : Launch) (G : GG)  {x0 : Int32} {res : Bool} (hf : f_X12_isSmall x0 = some res) : MI l yX12_isSmall cX12_isSmall 1 (some .boolean) 2 [.int x0] G [] (b2i res) [] := by
  unfold f_X12_isSmall at hf
  refine MI.intro (by decide) rfl (Nat.le_of_ble_eq_true rfl) (fun p e s m args below meth c A ls C h hl => ?_)
  have C : MC RX12 cX12_isSmall 1 (some .boolean) G A p s m args meth c := C
  have hl : lv_has ls 1 [(0, .int x0)] := hl
  refine lv_iload_n C.hx C.hb dX12_isSmall_0 rfl (lv_at hl 0 rfl) ?_
  refine lv_i2l C.hx C.hb dX12_isSmall_1 rfl ?_
  refine lv_ldc2 C.hx C.hb C.hown (C.hts _ cw_X12_193) dX12_isSmall_2 ?_
  refine lv_ldc2 C.hx C.hb C.hown (C.hts _ cw_X12_195) dX12_isSmall_5 ?_
  obtain ⟨zr1, zq2, hf⟩ := bd_some hf
  have zm3 := c_X12_in l G  (hf := zq2)
  refine g_goI C h zm3.1 (is := []) rfl rfl (g_runS C h (is := []) rfl rfl (As := [.long x0.toInt64, .long 97, .long 122]) (rest := []) (zm3.2 _) sf_X12_52 hl.1 rfl rfl (Nat.le_of_ble_eq_true rfl) dX12_isSmall_8 ⟨Nat.le_of_ble_eq_true rfl, Nat.le_of_ble_eq_true rfl⟩ ⟨Nat.le_refl _, Nat.le_refl _⟩) (us2 := []) rfl (fun H locs h => ?_)
  obtain rfl := Option.some.inj hf
  exact g_ret_z (b := _) C h rfl rfl rfl dX12_isSmall_11

def b_X12_look_193 (N : Nat) (g136 : US → Int32 → Option (US)) (v_t : US) (s0 : Int32) : Option (US) :=
  if s0 = 0 then (g136 (upi v_t 19 ((v_t.1 19) + 0)) s0) else (g136 (upi v_t 19 ((v_t.1 19) + 1)) s0)
def b_X12_look_274 (N : Nat)  (v_t : US)  : Option (US) :=
  if (v_t.1 20) = 2 then (if (v_t.1 19) ≤ 2 then (some (upi v_t 20 (v_t.1 20))) else (some (upi v_t 20 4))) else (some (upi v_t 20 (v_t.1 20)))
def b_X12_look_218 (N : Nat) (g218 : US → Int32 → Option (US)) (v_t : US) (y4 : Int32) : Option (US) :=
  if (v_t.1 19) ≤ y4 then (b_X12_look_274 N v_t) else (if 2 ≤ y4 then (b_X12_look_274 N v_t) else (if (v_t.1 20) = 2 then (if ((v_t.1 18) + y4) < 0 ∨ 200 ≤ ((v_t.1 18) + y4).toNatClampNeg then none else (g218 (upi v_t 21 (((10 * (v_t.1 21)) + ((v_t.2.2 16) ((v_t.1 18) + y4).toNatClampNeg)) - 48)) (y4 + 1))) else (b_X12_look_274 N v_t)))
def f_X12_look_218 (N : Nat)  : Nat → US → Int32 → Option (US)
  | 0 => fun _ _ => none
  | k + 1 => fun q0 q1 => b_X12_look_218 N  (f_X12_look_218 N  k) q0 q1
def b_X12_look_136 (N : Nat) (g136 : US → Int32 → Option (US)) (v_t : US) (y3 : Int32) : Option (US) :=
  if y3 = 0 then (f_X12_look_218 N N v_t 0) else (if (v_t.1 17) ≤ ((v_t.1 18) + (v_t.1 19)) then (f_X12_look_218 N N v_t 0) else (if ((v_t.1 18) + (v_t.1 19)) < 0 ∨ 200 ≤ ((v_t.1 18) + (v_t.1 19)).toNatClampNeg then none else (if (v_t.1 20) = 1 then ((f_X12_isSmall ((v_t.2.2 16) ((v_t.1 18) + (v_t.1 19)).toNatClampNeg)).bind fun zr8 => b_X12_look_193 N g136 v_t (b2i zr8)) else ((f_X12_isFigure ((v_t.2.2 16) ((v_t.1 18) + (v_t.1 19)).toNatClampNeg)).bind fun zr5 => b_X12_look_193 N g136 v_t (b2i zr5)))))
def f_X12_look_136 (N : Nat)  : Nat → US → Int32 → Option (US)
  | 0 => fun _ _ => none
  | k + 1 => fun q0 q1 => b_X12_look_136 N  (f_X12_look_136 N  k) q0 q1
def b_X12_look_114 (N : Nat)  (v_t : US) (s0 : Int32) : Option (US) :=
  bnd (upi v_t 20 s0) fun zw1 => if 3 ≤ (zw1.1 20) then (f_X12_look_136 N N (upi zw1 19 1) 0) else (f_X12_look_136 N N (upi zw1 19 1) 1)
def b_X12_look_43 (N : Nat)  (v_t : US)  : Option (US) :=
  bnd (upi v_t 19 0) fun zw1 => bnd (upi zw1 20 0) fun zw2 => if (zw2.1 18) = (zw2.1 17) then (some (upi zw2 21 0)) else (if (zw2.1 18) < 0 ∨ 200 ≤ (zw2.1 18).toNatClampNeg then none else ((f_X12_isSmall ((zw2.2.2 16) (zw2.1 18).toNatClampNeg)).bind fun zr5 => if (b2i zr5) = 0 then ((f_X12_isFigure ((zw2.2.2 16) (zw2.1 18).toNatClampNeg)).bind fun zr9 => if (b2i zr9) = 0 then (if ((zw2.2.2 16) (zw2.1 18).toNatClampNeg) = 59 then (b_X12_look_114 N (upi zw2 21 0) 3) else (b_X12_look_114 N (upi zw2 21 0) 4)) else (b_X12_look_114 N (upi zw2 21 0) 2)) else (b_X12_look_114 N (upi zw2 21 0) 1)))
def b_X12_look_5 (N : Nat) (g5 : US → Option (US)) (v_t : US)  : Option (US) :=
  if (v_t.1 17) ≤ (v_t.1 18) then (b_X12_look_43 N v_t) else (if (v_t.1 18) < 0 ∨ 200 ≤ (v_t.1 18).toNatClampNeg then none else (if ((v_t.2.2 16) (v_t.1 18).toNatClampNeg) = 32 then (g5 (upi v_t 18 ((v_t.1 18) + 1))) else (b_X12_look_43 N v_t)))
def f_X12_look_5 (N : Nat)  : Nat → US → Option (US)
  | 0 => fun _ => none
  | k + 1 => fun q0 => b_X12_look_5 N  (f_X12_look_5 N  k) q0
def f_X12_look (N : Nat) (v_t : US) (x1 : Int32) : Option (US) :=
  f_X12_look_5 N N (upi v_t 18 x1)
set_option maxRecDepth 100000 in
set_option maxHeartbeats 4000000 in
theorem w_X12_look_193 {p : Program} {l : Launch} {e : Env} {s : State} {m : MethodId} {args : Array Value} {below : List Frame} {meth : Method} {c : Code} {G : GG} {A : Nat → Prop} {o_t : Nat} {a_t : Nat → Nat} {N : Nat} {g136 : US → Int32 → Option (US)} {v_t : US} {s0 : Int32} {res : US} (C : MC RX12 cX12_look 5 none G A p s m args meth c) (hg136 : ∀ {v_t : US} {y3 : Int32}, g136 v_t y3 = some res → ∀ {H : Heap} {locs : List Loc} {ls : Array Slot}, HP G A s [uX12 G o_t a_t v_t] H locs → lv_has ls 5 [(0, .ref o_t), (3, .int y3)] → W p l e (rmm 3) s m args below meth c H locs 0 0 (QV below G A args s  [uX12 G o_t a_t res]) (F0 m 136 ls [])) (hf : b_X12_look_193 N g136 v_t s0 = some res) {H : Heap} {locs : List Loc} {ls : Array Slot} (h : HP G A s [uX12 G o_t a_t v_t] H locs) (hl : lv_has ls 5 [(0, .ref o_t)]) : W p l e (rmm 3) s m args below meth c H locs 0 0 (QV below G A args s  [uX12 G o_t a_t res]) (F0 m 193 ls [.int s0]) := by
  unfold b_X12_look_193 at hf
  refine lv_istore_n (lv' := [(3, .int s0), (0, .ref o_t)]) C.hx C.hb dX12_look_193 rfl hl (by decide) rfl (fun ls hl => ?_)
  refine lv_aload_n C.hx C.hb dX12_look_194 rfl (lv_at hl 1 rfl) ?_
  refine lv_dup C.hx C.hb dX12_look_195 rfl ?_
  refine g_get C h fl_X12_204 0 0 rfl rfl (v := .int (v_t.1 19)) rfl dX12_look_196 ?_
  refine lv_iload_n C.hx C.hb dX12_look_199 rfl (lv_at hl 0 rfl) ?_
  refine lv_if_eq (tgt := 207) C.hx C.hb dX12_look_200 (by decide) (fun zc1 => ?_) (fun zc1 => ?_)
  · replace hf := it_t zc1 hf
    refine lv_iconst (v := 0) C.hx C.hb dX12_look_207 (by decide) ?_
    refine lv_iadd C.hx C.hb dX12_look_208 ?_
    refine g_put C h fp_X12_204 0 0 rfl rfl rfl rfl (Nat.le_of_ble_eq_true rfl) dX12_look_209 (u' := uX12 G o_t a_t (upi v_t 19 ((v_t.1 19) + 0))) (us' := [uX12 G o_t a_t (upi v_t 19 ((v_t.1 19) + 0))]) rfl rfl (fun H locs h => ?_)
    refine lv_goto (tgt := 136) C.hx C.hb dX12_look_212 (by decide) ?_
    exact hg136 hf h (lv_sub hl [1, 0] rfl)
  · replace hf := it_f zc1 hf
    refine lv_iconst (v := 1) C.hx C.hb dX12_look_203 (by decide) ?_
    refine lv_goto (tgt := 208) C.hx C.hb dX12_look_204 (by decide) ?_
    refine lv_iadd C.hx C.hb dX12_look_208 ?_
    refine g_put C h fp_X12_204 0 0 rfl rfl rfl rfl (Nat.le_of_ble_eq_true rfl) dX12_look_209 (u' := uX12 G o_t a_t (upi v_t 19 ((v_t.1 19) + 1))) (us' := [uX12 G o_t a_t (upi v_t 19 ((v_t.1 19) + 1))]) rfl rfl (fun H locs h => ?_)
    refine lv_goto (tgt := 136) C.hx C.hb dX12_look_212 (by decide) ?_
    exact hg136 hf h (lv_sub hl [1, 0] rfl)
set_option maxRecDepth 100000 in
set_option maxHeartbeats 4000000 in
theorem w_X12_look_274 {p : Program} {l : Launch} {e : Env} {s : State} {m : MethodId} {args : Array Value} {below : List Frame} {meth : Method} {c : Code} {G : GG} {A : Nat → Prop} {o_t : Nat} {a_t : Nat → Nat} {N : Nat}  {v_t : US}  {res : US} (C : MC RX12 cX12_look 5 none G A p s m args meth c)  (hf : b_X12_look_274 N v_t = some res) {H : Heap} {locs : List Loc} {ls : Array Slot} (h : HP G A s [uX12 G o_t a_t v_t] H locs) (hl : lv_has ls 5 [(0, .ref o_t)]) : W p l e (rmm 3) s m args below meth c H locs 0 0 (QV below G A args s  [uX12 G o_t a_t res]) (F0 m 274 ls []) := by
  unfold b_X12_look_274 at hf
  refine lv_aload_n C.hx C.hb dX12_look_274 rfl (lv_at hl 0 rfl) ?_
  refine lv_aload_n C.hx C.hb dX12_look_275 rfl (lv_at hl 0 rfl) ?_
  refine g_get C h fl_X12_207 0 0 rfl rfl (v := .int (v_t.1 20)) rfl dX12_look_276 ?_
  refine lv_iconst (v := 2) C.hx C.hb dX12_look_279 (by decide) ?_
  refine lv_icmp_ne (tgt := 295) C.hx C.hb dX12_look_280 (by decide) (fun zc1 => ?_) (fun zc1 => ?_)
  · replace hf := it_f zc1 hf
    refine lv_aload_n C.hx C.hb dX12_look_295 rfl (lv_at hl 0 rfl) ?_
    refine g_get C h fl_X12_207 0 0 rfl rfl (v := .int (v_t.1 20)) rfl dX12_look_296 ?_
    refine g_put C h fp_X12_207 0 0 rfl rfl rfl rfl (Nat.le_of_ble_eq_true rfl) dX12_look_299 (u' := uX12 G o_t a_t (upi v_t 20 (v_t.1 20))) (us' := [uX12 G o_t a_t (upi v_t 20 (v_t.1 20))]) rfl rfl (fun H locs h => ?_)
    obtain rfl := Option.some.inj hf
    exact g_ret_v C h rfl dX12_look_302
  · replace hf := it_t zc1 hf
    refine lv_aload_n C.hx C.hb dX12_look_283 rfl (lv_at hl 0 rfl) ?_
    refine g_get C h fl_X12_204 0 0 rfl rfl (v := .int (v_t.1 19)) rfl dX12_look_284 ?_
    refine lv_iconst (v := 2) C.hx C.hb dX12_look_287 (by decide) ?_
    refine lv_icmp_le (tgt := 295) C.hx C.hb dX12_look_288 (by decide) (fun zc2 => ?_) (fun zc2 => ?_)
    · replace hf := it_t zc2 hf
      refine lv_aload_n C.hx C.hb dX12_look_295 rfl (lv_at hl 0 rfl) ?_
      refine g_get C h fl_X12_207 0 0 rfl rfl (v := .int (v_t.1 20)) rfl dX12_look_296 ?_
      refine g_put C h fp_X12_207 0 0 rfl rfl rfl rfl (Nat.le_of_ble_eq_true rfl) dX12_look_299 (u' := uX12 G o_t a_t (upi v_t 20 (v_t.1 20))) (us' := [uX12 G o_t a_t (upi v_t 20 (v_t.1 20))]) rfl rfl (fun H locs h => ?_)
      obtain rfl := Option.some.inj hf
      exact g_ret_v C h rfl dX12_look_302
    · replace hf := it_f zc2 hf
      refine lv_iconst (v := 4) C.hx C.hb dX12_look_291 (by decide) ?_
      refine lv_goto (tgt := 299) C.hx C.hb dX12_look_292 (by decide) ?_
      refine g_put C h fp_X12_207 0 0 rfl rfl rfl rfl (Nat.le_of_ble_eq_true rfl) dX12_look_299 (u' := uX12 G o_t a_t (upi v_t 20 4)) (us' := [uX12 G o_t a_t (upi v_t 20 4)]) rfl rfl (fun H locs h => ?_)
      obtain rfl := Option.some.inj hf
      exact g_ret_v C h rfl dX12_look_302
set_option maxRecDepth 100000 in
set_option maxHeartbeats 4000000 in
theorem w_X12_look_218 {p : Program} {l : Launch} {e : Env} {s : State} {m : MethodId} {args : Array Value} {below : List Frame} {meth : Method} {c : Code} {G : GG} {A : Nat → Prop} {o_t : Nat} {a_t : Nat → Nat} {N : Nat} {g218 : US → Int32 → Option (US)} {v_t : US} {y4 : Int32} {res : US} (C : MC RX12 cX12_look 5 none G A p s m args meth c) (hg218 : ∀ {v_t : US} {y4 : Int32}, g218 v_t y4 = some res → ∀ {H : Heap} {locs : List Loc} {ls : Array Slot}, HP G A s [uX12 G o_t a_t v_t] H locs → lv_has ls 5 [(0, .ref o_t), (4, .int y4)] → W p l e (rmm 3) s m args below meth c H locs 0 0 (QV below G A args s  [uX12 G o_t a_t res]) (F0 m 218 ls [])) (hf : b_X12_look_218 N g218 v_t y4 = some res) {H : Heap} {locs : List Loc} {ls : Array Slot} (h : HP G A s [uX12 G o_t a_t v_t] H locs) (hl : lv_has ls 5 [(0, .ref o_t), (4, .int y4)]) : W p l e (rmm 3) s m args below meth c H locs 0 0 (QV below G A args s  [uX12 G o_t a_t res]) (F0 m 218 ls []) := by
  unfold b_X12_look_218 at hf
  refine lv_iload C.hx C.hb dX12_look_218 (lv_at hl 1 rfl) ?_
  refine lv_aload_n C.hx C.hb dX12_look_220 rfl (lv_at hl 0 rfl) ?_
  refine g_get C h fl_X12_204 0 0 rfl rfl (v := .int (v_t.1 19)) rfl dX12_look_221 ?_
  refine lv_icmp_ge (tgt := 274) C.hx C.hb dX12_look_224 (by decide) (fun zc1 => ?_) (fun zc1 => ?_)
  · replace hf := it_t zc1 hf
    exact w_X12_look_274 C  hf h (lv_sub hl [0] rfl)
  · replace hf := it_f zc1 hf
    refine lv_iload C.hx C.hb dX12_look_227 (lv_at hl 1 rfl) ?_
    refine lv_iconst (v := 2) C.hx C.hb dX12_look_229 (by decide) ?_
    refine lv_icmp_ge (tgt := 274) C.hx C.hb dX12_look_230 (by decide) (fun zc2 => ?_) (fun zc2 => ?_)
    · replace hf := it_t zc2 hf
      exact w_X12_look_274 C  hf h (lv_sub hl [0] rfl)
    · replace hf := it_f zc2 hf
      refine lv_aload_n C.hx C.hb dX12_look_233 rfl (lv_at hl 0 rfl) ?_
      refine g_get C h fl_X12_207 0 0 rfl rfl (v := .int (v_t.1 20)) rfl dX12_look_234 ?_
      refine lv_iconst (v := 2) C.hx C.hb dX12_look_237 (by decide) ?_
      refine lv_icmp_ne (tgt := 274) C.hx C.hb dX12_look_238 (by decide) (fun zc3 => ?_) (fun zc3 => ?_)
      · replace hf := it_f zc3 hf
        exact w_X12_look_274 C  hf h (lv_sub hl [0] rfl)
      · replace hf := it_t zc3 hf
        refine lv_aload_n C.hx C.hb dX12_look_241 rfl (lv_at hl 0 rfl) ?_
        refine lv_bipush (v := 10) C.hx C.hb dX12_look_242 (by decide) ?_
        refine lv_aload_n C.hx C.hb dX12_look_244 rfl (lv_at hl 0 rfl) ?_
        refine g_get C h fl_X12_210 0 0 rfl rfl (v := .int (v_t.1 21)) rfl dX12_look_245 ?_
        refine lv_imul C.hx C.hb dX12_look_248 ?_
        refine lv_aload_n C.hx C.hb dX12_look_249 rfl (lv_at hl 0 rfl) ?_
        refine g_get C h fl_X12_39 0 0 rfl rfl (v := .ref (a_t 16)) rfl dX12_look_250 ?_
        refine lv_aload_n C.hx C.hb dX12_look_253 rfl (lv_at hl 0 rfl) ?_
        refine g_get C h fl_X12_201 0 0 rfl rfl (v := .int (v_t.1 18)) rfl dX12_look_254 ?_
        refine lv_iload C.hx C.hb dX12_look_257 (lv_at hl 1 rfl) ?_
        refine lv_iadd C.hx C.hb dX12_look_259 ?_
        obtain ⟨zi4, hf⟩ := ck_some hf
        refine g_iald C h 0 8 rfl rfl (f := v_t.2.2 16) zi4 dX12_look_260 ?_
        refine lv_iadd C.hx C.hb dX12_look_261 ?_
        refine lv_bipush (v := 48) C.hx C.hb dX12_look_262 (by decide) ?_
        refine lv_isub C.hx C.hb dX12_look_264 ?_
        refine g_put C h fp_X12_210 0 0 rfl rfl rfl rfl (Nat.le_of_ble_eq_true rfl) dX12_look_265 (u' := uX12 G o_t a_t (upi v_t 21 (((10 * (v_t.1 21)) + ((v_t.2.2 16) ((v_t.1 18) + y4).toNatClampNeg)) - 48))) (us' := [uX12 G o_t a_t (upi v_t 21 (((10 * (v_t.1 21)) + ((v_t.2.2 16) ((v_t.1 18) + y4).toNatClampNeg)) - 48))]) rfl rfl (fun H locs h => ?_)
        refine lv_iinc (v := y4 + 1) (lv' := [(4, .int (y4 + 1)), (0, .ref o_t)]) C.hx C.hb dX12_look_268 hl (k := 1) rfl rfl (by decide) rfl (fun ls hl => ?_)
        refine lv_goto (tgt := 218) C.hx C.hb dX12_look_271 (by decide) ?_
        exact hg218 hf h (lv_sub hl [1, 0] rfl)
set_option maxRecDepth 100000 in
set_option maxHeartbeats 4000000 in
theorem l_X12_look_218 {p : Program} {l : Launch} {e : Env} {s : State} {m : MethodId} {args : Array Value} {below : List Frame} {meth : Method} {c : Code} {G : GG} {A : Nat → Prop} {o_t : Nat} {a_t : Nat → Nat} {N : Nat}  {res : US} (C : MC RX12 cX12_look 5 none G A p s m args meth c)  : ∀ (k : Nat) {v_t : US} {y4 : Int32}, f_X12_look_218 N k v_t y4 = some res → ∀ {H : Heap} {locs : List Loc} {ls : Array Slot}, HP G A s [uX12 G o_t a_t v_t] H locs → lv_has ls 5 [(0, .ref o_t), (4, .int y4)] → W p l e (rmm 3) s m args below meth c H locs 0 0 (QV below G A args s  [uX12 G o_t a_t res]) (F0 m 218 ls []) := by
  intro k
  induction k with
  | zero => intros; contradiction
  | succ k ih =>
    intro v_t y4 hf H locs ls h hl
    exact w_X12_look_218 (N := N) C ih hf h hl
set_option maxRecDepth 100000 in
set_option maxHeartbeats 4000000 in
theorem w_X12_look_136 {p : Program} {l : Launch} {e : Env} {s : State} {m : MethodId} {args : Array Value} {below : List Frame} {meth : Method} {c : Code} {G : GG} {A : Nat → Prop} {o_t : Nat} {a_t : Nat → Nat} {N : Nat} {g136 : US → Int32 → Option (US)} {v_t : US} {y3 : Int32} {res : US} (C : MC RX12 cX12_look 5 none G A p s m args meth c) (hg136 : ∀ {v_t : US} {y3 : Int32}, g136 v_t y3 = some res → ∀ {H : Heap} {locs : List Loc} {ls : Array Slot}, HP G A s [uX12 G o_t a_t v_t] H locs → lv_has ls 5 [(0, .ref o_t), (3, .int y3)] → W p l e (rmm 3) s m args below meth c H locs 0 0 (QV below G A args s  [uX12 G o_t a_t res]) (F0 m 136 ls [])) (hf : b_X12_look_136 N g136 v_t y3 = some res) {H : Heap} {locs : List Loc} {ls : Array Slot} (h : HP G A s [uX12 G o_t a_t v_t] H locs) (hl : lv_has ls 5 [(0, .ref o_t), (3, .int y3)]) : W p l e (rmm 3) s m args below meth c H locs 0 0 (QV below G A args s  [uX12 G o_t a_t res]) (F0 m 136 ls []) := by
  unfold b_X12_look_136 at hf
  refine lv_iload_n C.hx C.hb dX12_look_136 rfl (lv_at hl 1 rfl) ?_
  refine lv_if_eq (tgt := 215) C.hx C.hb dX12_look_137 (by decide) (fun zc1 => ?_) (fun zc1 => ?_)
  · replace hf := it_t zc1 hf
    refine lv_iconst (v := 0) C.hx C.hb dX12_look_215 (by decide) ?_
    refine lv_istore (lv' := [(4, .int 0), (0, .ref o_t), (3, .int y3)]) C.hx C.hb dX12_look_216 hl (by decide) rfl (fun ls hl => ?_)
    exact l_X12_look_218 C N hf h (lv_sub hl [1, 0] rfl)
  · replace hf := it_f zc1 hf
    refine lv_aload_n C.hx C.hb dX12_look_140 rfl (lv_at hl 0 rfl) ?_
    refine g_get C h fl_X12_201 0 0 rfl rfl (v := .int (v_t.1 18)) rfl dX12_look_141 ?_
    refine lv_aload_n C.hx C.hb dX12_look_144 rfl (lv_at hl 0 rfl) ?_
    refine g_get C h fl_X12_204 0 0 rfl rfl (v := .int (v_t.1 19)) rfl dX12_look_145 ?_
    refine lv_iadd C.hx C.hb dX12_look_148 ?_
    refine lv_aload_n C.hx C.hb dX12_look_149 rfl (lv_at hl 0 rfl) ?_
    refine g_get C h fl_X12_188 0 0 rfl rfl (v := .int (v_t.1 17)) rfl dX12_look_150 ?_
    refine lv_icmp_ge (tgt := 215) C.hx C.hb dX12_look_153 (by decide) (fun zc2 => ?_) (fun zc2 => ?_)
    · replace hf := it_t zc2 hf
      refine lv_iconst (v := 0) C.hx C.hb dX12_look_215 (by decide) ?_
      refine lv_istore (lv' := [(4, .int 0), (0, .ref o_t), (3, .int y3)]) C.hx C.hb dX12_look_216 hl (by decide) rfl (fun ls hl => ?_)
      exact l_X12_look_218 C N hf h (lv_sub hl [1, 0] rfl)
    · replace hf := it_f zc2 hf
      refine lv_aload_n C.hx C.hb dX12_look_156 rfl (lv_at hl 0 rfl) ?_
      refine g_get C h fl_X12_39 0 0 rfl rfl (v := .ref (a_t 16)) rfl dX12_look_157 ?_
      refine lv_aload_n C.hx C.hb dX12_look_160 rfl (lv_at hl 0 rfl) ?_
      refine g_get C h fl_X12_201 0 0 rfl rfl (v := .int (v_t.1 18)) rfl dX12_look_161 ?_
      refine lv_aload_n C.hx C.hb dX12_look_164 rfl (lv_at hl 0 rfl) ?_
      refine g_get C h fl_X12_204 0 0 rfl rfl (v := .int (v_t.1 19)) rfl dX12_look_165 ?_
      refine lv_iadd C.hx C.hb dX12_look_168 ?_
      obtain ⟨zi3, hf⟩ := ck_some hf
      refine g_iald C h 0 8 rfl rfl (f := v_t.2.2 16) zi3 dX12_look_169 ?_
      refine lv_istore (lv' := [(4, .int ((v_t.2.2 16) ((v_t.1 18) + (v_t.1 19)).toNatClampNeg)), (0, .ref o_t), (3, .int y3)]) C.hx C.hb dX12_look_170 hl (by decide) rfl (fun ls hl => ?_)
      refine lv_aload_n C.hx C.hb dX12_look_172 rfl (lv_at hl 1 rfl) ?_
      refine g_get C h fl_X12_207 0 0 rfl rfl (v := .int (v_t.1 20)) rfl dX12_look_173 ?_
      refine lv_iconst (v := 1) C.hx C.hb dX12_look_176 (by decide) ?_
      refine lv_icmp_ne (tgt := 188) C.hx C.hb dX12_look_177 (by decide) (fun zc4 => ?_) (fun zc4 => ?_)
      · replace hf := it_f zc4 hf
        refine lv_iload C.hx C.hb dX12_look_188 (lv_at hl 0 rfl) ?_
        obtain ⟨zr5, zq6, hf⟩ := bd_some hf
        have zm7 := c_X12_isFigure l G  (hf := zq6)
        refine g_goI C h zm7.1 (is := []) rfl rfl (g_runS C h (is := []) rfl rfl (As := [.int ((v_t.2.2 16) ((v_t.1 18) + (v_t.1 19)).toNatClampNeg)]) (rest := []) (zm7.2 _) sf_X12_216 hl.1 rfl rfl (Nat.le_of_ble_eq_true rfl) dX12_look_190 ⟨Nat.le_of_ble_eq_true rfl, Nat.le_of_ble_eq_true rfl⟩ ⟨Nat.le_refl _, Nat.le_refl _⟩) (us2 := [uX12 G o_t a_t v_t]) rfl (fun H locs h => ?_)
        exact w_X12_look_193 C hg136 hf h (lv_sub hl [1] rfl)
      · replace hf := it_t zc4 hf
        refine lv_iload C.hx C.hb dX12_look_180 (lv_at hl 0 rfl) ?_
        obtain ⟨zr8, zq9, hf⟩ := bd_some hf
        have zm10 := c_X12_isSmall l G  (hf := zq9)
        refine g_goI C h zm10.1 (is := []) rfl rfl (g_runS C h (is := []) rfl rfl (As := [.int ((v_t.2.2 16) ((v_t.1 18) + (v_t.1 19)).toNatClampNeg)]) (rest := []) (zm10.2 _) sf_X12_213 hl.1 rfl rfl (Nat.le_of_ble_eq_true rfl) dX12_look_182 ⟨Nat.le_of_ble_eq_true rfl, Nat.le_of_ble_eq_true rfl⟩ ⟨Nat.le_refl _, Nat.le_refl _⟩) (us2 := [uX12 G o_t a_t v_t]) rfl (fun H locs h => ?_)
        refine lv_goto (tgt := 193) C.hx C.hb dX12_look_185 (by decide) ?_
        exact w_X12_look_193 C hg136 hf h (lv_sub hl [1] rfl)
set_option maxRecDepth 100000 in
set_option maxHeartbeats 4000000 in
theorem l_X12_look_136 {p : Program} {l : Launch} {e : Env} {s : State} {m : MethodId} {args : Array Value} {below : List Frame} {meth : Method} {c : Code} {G : GG} {A : Nat → Prop} {o_t : Nat} {a_t : Nat → Nat} {N : Nat}  {res : US} (C : MC RX12 cX12_look 5 none G A p s m args meth c)  : ∀ (k : Nat) {v_t : US} {y3 : Int32}, f_X12_look_136 N k v_t y3 = some res → ∀ {H : Heap} {locs : List Loc} {ls : Array Slot}, HP G A s [uX12 G o_t a_t v_t] H locs → lv_has ls 5 [(0, .ref o_t), (3, .int y3)] → W p l e (rmm 3) s m args below meth c H locs 0 0 (QV below G A args s  [uX12 G o_t a_t res]) (F0 m 136 ls []) := by
  intro k
  induction k with
  | zero => intros; contradiction
  | succ k ih =>
    intro v_t y3 hf H locs ls h hl
    exact w_X12_look_136 (N := N) C ih hf h hl
set_option maxRecDepth 100000 in
set_option maxHeartbeats 4000000 in
theorem w_X12_look_114 {p : Program} {l : Launch} {e : Env} {s : State} {m : MethodId} {args : Array Value} {below : List Frame} {meth : Method} {c : Code} {G : GG} {A : Nat → Prop} {o_t : Nat} {a_t : Nat → Nat} {N : Nat}  {v_t : US} {s0 : Int32} {res : US} (C : MC RX12 cX12_look 5 none G A p s m args meth c)  (hf : b_X12_look_114 N v_t s0 = some res) {H : Heap} {locs : List Loc} {ls : Array Slot} (h : HP G A s [uX12 G o_t a_t v_t] H locs) (hl : lv_has ls 5 [(0, .ref o_t)]) : W p l e (rmm 3) s m args below meth c H locs 0 0 (QV below G A args s  [uX12 G o_t a_t res]) (F0 m 114 ls [.int s0, .ref o_t]) := by
  unfold b_X12_look_114 at hf
  refine g_put C h fp_X12_207 0 0 rfl rfl rfl rfl (Nat.le_of_ble_eq_true rfl) dX12_look_114 (u' := uX12 G o_t a_t (upi v_t 20 s0)) (us' := [uX12 G o_t a_t (upi v_t 20 s0)]) rfl rfl (fun H locs h => ?_)
  refine lv_aload_n C.hx C.hb dX12_look_117 rfl (lv_at hl 0 rfl) ?_
  refine lv_iconst (v := 1) C.hx C.hb dX12_look_118 (by decide) ?_
  obtain ⟨zw1, hzw1, hf⟩ := bnd_some hf
  rw [← hzw1] at h
  refine g_put C h fp_X12_204 0 0 rfl rfl rfl rfl (Nat.le_of_ble_eq_true rfl) dX12_look_119 (u' := uX12 G o_t a_t (upi zw1 19 1)) (us' := [uX12 G o_t a_t (upi zw1 19 1)]) rfl rfl (fun H locs h => ?_)
  refine lv_aload_n C.hx C.hb dX12_look_122 rfl (lv_at hl 0 rfl) ?_
  refine g_get C h fl_X12_207 0 0 rfl rfl (v := .int (zw1.1 20)) rfl dX12_look_123 ?_
  refine lv_iconst (v := 3) C.hx C.hb dX12_look_126 (by decide) ?_
  refine lv_icmp_ge (tgt := 134) C.hx C.hb dX12_look_127 (by decide) (fun zc2 => ?_) (fun zc2 => ?_)
  · replace hf := it_t zc2 hf
    refine lv_iconst (v := 0) C.hx C.hb dX12_look_134 (by decide) ?_
    refine lv_istore_n (lv' := [(3, .int 0), (0, .ref o_t)]) C.hx C.hb dX12_look_135 rfl hl (by decide) rfl (fun ls hl => ?_)
    exact l_X12_look_136 C N hf h (lv_sub hl [1, 0] rfl)
  · replace hf := it_f zc2 hf
    refine lv_iconst (v := 1) C.hx C.hb dX12_look_130 (by decide) ?_
    refine lv_goto (tgt := 135) C.hx C.hb dX12_look_131 (by decide) ?_
    refine lv_istore_n (lv' := [(3, .int 1), (0, .ref o_t)]) C.hx C.hb dX12_look_135 rfl hl (by decide) rfl (fun ls hl => ?_)
    exact l_X12_look_136 C N hf h (lv_sub hl [1, 0] rfl)
set_option maxRecDepth 100000 in
set_option maxHeartbeats 4000000 in
theorem w_X12_look_43 {p : Program} {l : Launch} {e : Env} {s : State} {m : MethodId} {args : Array Value} {below : List Frame} {meth : Method} {c : Code} {G : GG} {A : Nat → Prop} {o_t : Nat} {a_t : Nat → Nat} {N : Nat}  {v_t : US}  {res : US} (C : MC RX12 cX12_look 5 none G A p s m args meth c)  (hf : b_X12_look_43 N v_t = some res) {H : Heap} {locs : List Loc} {ls : Array Slot} (h : HP G A s [uX12 G o_t a_t v_t] H locs) (hl : lv_has ls 5 [(0, .ref o_t)]) : W p l e (rmm 3) s m args below meth c H locs 0 0 (QV below G A args s  [uX12 G o_t a_t res]) (F0 m 43 ls []) := by
  unfold b_X12_look_43 at hf
  refine lv_aload_n C.hx C.hb dX12_look_43 rfl (lv_at hl 0 rfl) ?_
  refine lv_iconst (v := 0) C.hx C.hb dX12_look_44 (by decide) ?_
  refine g_put C h fp_X12_204 0 0 rfl rfl rfl rfl (Nat.le_of_ble_eq_true rfl) dX12_look_45 (u' := uX12 G o_t a_t (upi v_t 19 0)) (us' := [uX12 G o_t a_t (upi v_t 19 0)]) rfl rfl (fun H locs h => ?_)
  refine lv_aload_n C.hx C.hb dX12_look_48 rfl (lv_at hl 0 rfl) ?_
  refine lv_iconst (v := 0) C.hx C.hb dX12_look_49 (by decide) ?_
  obtain ⟨zw1, hzw1, hf⟩ := bnd_some hf
  rw [← hzw1] at h
  refine g_put C h fp_X12_207 0 0 rfl rfl rfl rfl (Nat.le_of_ble_eq_true rfl) dX12_look_50 (u' := uX12 G o_t a_t (upi zw1 20 0)) (us' := [uX12 G o_t a_t (upi zw1 20 0)]) rfl rfl (fun H locs h => ?_)
  refine lv_aload_n C.hx C.hb dX12_look_53 rfl (lv_at hl 0 rfl) ?_
  refine lv_iconst (v := 0) C.hx C.hb dX12_look_54 (by decide) ?_
  obtain ⟨zw2, hzw2, hf⟩ := bnd_some hf
  rw [← hzw2] at h
  refine g_put C h fp_X12_210 0 0 rfl rfl rfl rfl (Nat.le_of_ble_eq_true rfl) dX12_look_55 (u' := uX12 G o_t a_t (upi zw2 21 0)) (us' := [uX12 G o_t a_t (upi zw2 21 0)]) rfl rfl (fun H locs h => ?_)
  refine lv_aload_n C.hx C.hb dX12_look_58 rfl (lv_at hl 0 rfl) ?_
  refine g_get C h fl_X12_201 0 0 rfl rfl (v := .int (zw2.1 18)) rfl dX12_look_59 ?_
  refine lv_aload_n C.hx C.hb dX12_look_62 rfl (lv_at hl 0 rfl) ?_
  refine g_get C h fl_X12_188 0 0 rfl rfl (v := .int (zw2.1 17)) rfl dX12_look_63 ?_
  refine lv_icmp_ne (tgt := 70) C.hx C.hb dX12_look_66 (by decide) (fun zc3 => ?_) (fun zc3 => ?_)
  · replace hf := it_f zc3 hf
    refine lv_aload_n C.hx C.hb dX12_look_70 rfl (lv_at hl 0 rfl) ?_
    refine g_get C h fl_X12_39 0 0 rfl rfl (v := .ref (a_t 16)) rfl dX12_look_71 ?_
    refine lv_aload_n C.hx C.hb dX12_look_74 rfl (lv_at hl 0 rfl) ?_
    refine g_get C h fl_X12_201 0 0 rfl rfl (v := .int (zw2.1 18)) rfl dX12_look_75 ?_
    obtain ⟨zi4, hf⟩ := ck_some hf
    refine g_iald C h 0 8 rfl rfl (f := zw2.2.2 16) zi4 dX12_look_78 ?_
    refine lv_istore_n (lv' := [(2, .int ((zw2.2.2 16) (zw2.1 18).toNatClampNeg)), (0, .ref o_t)]) C.hx C.hb dX12_look_79 rfl hl (by decide) rfl (fun ls hl => ?_)
    refine lv_aload_n C.hx C.hb dX12_look_80 rfl (lv_at hl 1 rfl) ?_
    refine lv_iload_n C.hx C.hb dX12_look_81 rfl (lv_at hl 0 rfl) ?_
    obtain ⟨zr5, zq6, hf⟩ := bd_some hf
    have zm7 := c_X12_isSmall l G  (hf := zq6)
    refine g_goI C h zm7.1 (is := []) rfl rfl (g_runS C h (is := []) rfl rfl (As := [.int ((zw2.2.2 16) (zw2.1 18).toNatClampNeg)]) (rest := [.ref o_t]) (zm7.2 _) sf_X12_213 hl.1 rfl rfl (Nat.le_of_ble_eq_true rfl) dX12_look_82 ⟨Nat.le_of_ble_eq_true rfl, Nat.le_of_ble_eq_true rfl⟩ ⟨Nat.le_refl _, Nat.le_refl _⟩) (us2 := [uX12 G o_t a_t (upi zw2 21 0)]) rfl (fun H locs h => ?_)
    refine lv_if_eq (tgt := 92) C.hx C.hb dX12_look_85 (by decide) (fun zc8 => ?_) (fun zc8 => ?_)
    · replace hf := it_t zc8 hf
      refine lv_iload_n C.hx C.hb dX12_look_92 rfl (lv_at hl 0 rfl) ?_
      obtain ⟨zr9, zq10, hf⟩ := bd_some hf
      have zm11 := c_X12_isFigure l G  (hf := zq10)
      refine g_goI C h zm11.1 (is := []) rfl rfl (g_runS C h (is := []) rfl rfl (As := [.int ((zw2.2.2 16) (zw2.1 18).toNatClampNeg)]) (rest := [.ref o_t]) (zm11.2 _) sf_X12_216 hl.1 rfl rfl (Nat.le_of_ble_eq_true rfl) dX12_look_93 ⟨Nat.le_of_ble_eq_true rfl, Nat.le_of_ble_eq_true rfl⟩ ⟨Nat.le_refl _, Nat.le_refl _⟩) (us2 := [uX12 G o_t a_t (upi zw2 21 0)]) rfl (fun H locs h => ?_)
      refine lv_if_eq (tgt := 103) C.hx C.hb dX12_look_96 (by decide) (fun zc12 => ?_) (fun zc12 => ?_)
      · replace hf := it_t zc12 hf
        refine lv_iload_n C.hx C.hb dX12_look_103 rfl (lv_at hl 0 rfl) ?_
        refine lv_bipush (v := 59) C.hx C.hb dX12_look_104 (by decide) ?_
        refine lv_icmp_ne (tgt := 113) C.hx C.hb dX12_look_106 (by decide) (fun zc13 => ?_) (fun zc13 => ?_)
        · replace hf := it_f zc13 hf
          refine lv_iconst (v := 4) C.hx C.hb dX12_look_113 (by decide) ?_
          exact w_X12_look_114 C  hf h (lv_sub hl [1] rfl)
        · replace hf := it_t zc13 hf
          refine lv_iconst (v := 3) C.hx C.hb dX12_look_109 (by decide) ?_
          refine lv_goto (tgt := 114) C.hx C.hb dX12_look_110 (by decide) ?_
          exact w_X12_look_114 C  hf h (lv_sub hl [1] rfl)
      · replace hf := it_f zc12 hf
        refine lv_iconst (v := 2) C.hx C.hb dX12_look_99 (by decide) ?_
        refine lv_goto (tgt := 114) C.hx C.hb dX12_look_100 (by decide) ?_
        exact w_X12_look_114 C  hf h (lv_sub hl [1] rfl)
    · replace hf := it_f zc8 hf
      refine lv_iconst (v := 1) C.hx C.hb dX12_look_88 (by decide) ?_
      refine lv_goto (tgt := 114) C.hx C.hb dX12_look_89 (by decide) ?_
      exact w_X12_look_114 C  hf h (lv_sub hl [1] rfl)
  · replace hf := it_t zc3 hf
    obtain rfl := Option.some.inj hf
    exact g_ret_v C h rfl dX12_look_69
set_option maxRecDepth 100000 in
set_option maxHeartbeats 4000000 in
theorem w_X12_look_5 {p : Program} {l : Launch} {e : Env} {s : State} {m : MethodId} {args : Array Value} {below : List Frame} {meth : Method} {c : Code} {G : GG} {A : Nat → Prop} {o_t : Nat} {a_t : Nat → Nat} {N : Nat} {g5 : US → Option (US)} {v_t : US}  {res : US} (C : MC RX12 cX12_look 5 none G A p s m args meth c) (hg5 : ∀ {v_t : US} , g5 v_t = some res → ∀ {H : Heap} {locs : List Loc} {ls : Array Slot}, HP G A s [uX12 G o_t a_t v_t] H locs → lv_has ls 5 [(0, .ref o_t)] → W p l e (rmm 3) s m args below meth c H locs 0 0 (QV below G A args s  [uX12 G o_t a_t res]) (F0 m 5 ls [])) (hf : b_X12_look_5 N g5 v_t = some res) {H : Heap} {locs : List Loc} {ls : Array Slot} (h : HP G A s [uX12 G o_t a_t v_t] H locs) (hl : lv_has ls 5 [(0, .ref o_t)]) : W p l e (rmm 3) s m args below meth c H locs 0 0 (QV below G A args s  [uX12 G o_t a_t res]) (F0 m 5 ls []) := by
  unfold b_X12_look_5 at hf
  refine lv_aload_n C.hx C.hb dX12_look_5 rfl (lv_at hl 0 rfl) ?_
  refine g_get C h fl_X12_201 0 0 rfl rfl (v := .int (v_t.1 18)) rfl dX12_look_6 ?_
  refine lv_aload_n C.hx C.hb dX12_look_9 rfl (lv_at hl 0 rfl) ?_
  refine g_get C h fl_X12_188 0 0 rfl rfl (v := .int (v_t.1 17)) rfl dX12_look_10 ?_
  refine lv_icmp_ge (tgt := 43) C.hx C.hb dX12_look_13 (by decide) (fun zc1 => ?_) (fun zc1 => ?_)
  · replace hf := it_t zc1 hf
    exact w_X12_look_43 C  hf h (lv_sub hl [0] rfl)
  · replace hf := it_f zc1 hf
    refine lv_aload_n C.hx C.hb dX12_look_16 rfl (lv_at hl 0 rfl) ?_
    refine g_get C h fl_X12_39 0 0 rfl rfl (v := .ref (a_t 16)) rfl dX12_look_17 ?_
    refine lv_aload_n C.hx C.hb dX12_look_20 rfl (lv_at hl 0 rfl) ?_
    refine g_get C h fl_X12_201 0 0 rfl rfl (v := .int (v_t.1 18)) rfl dX12_look_21 ?_
    obtain ⟨zi2, hf⟩ := ck_some hf
    refine g_iald C h 0 8 rfl rfl (f := v_t.2.2 16) zi2 dX12_look_24 ?_
    refine lv_bipush (v := 32) C.hx C.hb dX12_look_25 (by decide) ?_
    refine lv_icmp_ne (tgt := 43) C.hx C.hb dX12_look_27 (by decide) (fun zc3 => ?_) (fun zc3 => ?_)
    · replace hf := it_f zc3 hf
      exact w_X12_look_43 C  hf h (lv_sub hl [0] rfl)
    · replace hf := it_t zc3 hf
      refine lv_aload_n C.hx C.hb dX12_look_30 rfl (lv_at hl 0 rfl) ?_
      refine lv_dup C.hx C.hb dX12_look_31 rfl ?_
      refine g_get C h fl_X12_201 0 0 rfl rfl (v := .int (v_t.1 18)) rfl dX12_look_32 ?_
      refine lv_iconst (v := 1) C.hx C.hb dX12_look_35 (by decide) ?_
      refine lv_iadd C.hx C.hb dX12_look_36 ?_
      refine g_put C h fp_X12_201 0 0 rfl rfl rfl rfl (Nat.le_of_ble_eq_true rfl) dX12_look_37 (u' := uX12 G o_t a_t (upi v_t 18 ((v_t.1 18) + 1))) (us' := [uX12 G o_t a_t (upi v_t 18 ((v_t.1 18) + 1))]) rfl rfl (fun H locs h => ?_)
      refine lv_goto (tgt := 5) C.hx C.hb dX12_look_40 (by decide) ?_
      exact hg5 hf h (lv_sub hl [0] rfl)
set_option maxRecDepth 100000 in
set_option maxHeartbeats 4000000 in
theorem l_X12_look_5 {p : Program} {l : Launch} {e : Env} {s : State} {m : MethodId} {args : Array Value} {below : List Frame} {meth : Method} {c : Code} {G : GG} {A : Nat → Prop} {o_t : Nat} {a_t : Nat → Nat} {N : Nat}  {res : US} (C : MC RX12 cX12_look 5 none G A p s m args meth c)  : ∀ (k : Nat) {v_t : US} , f_X12_look_5 N k v_t = some res → ∀ {H : Heap} {locs : List Loc} {ls : Array Slot}, HP G A s [uX12 G o_t a_t v_t] H locs → lv_has ls 5 [(0, .ref o_t)] → W p l e (rmm 3) s m args below meth c H locs 0 0 (QV below G A args s  [uX12 G o_t a_t res]) (F0 m 5 ls []) := by
  intro k
  induction k with
  | zero => intros; contradiction
  | succ k ih =>
    intro v_t hf H locs ls h hl
    exact w_X12_look_5 (N := N) C ih hf h hl
set_option maxRecDepth 100000 in
set_option maxHeartbeats 4000000 in
theorem c_X12_look (l : Launch) (G : GG) (o_t : Nat) (a_t : Nat → Nat) (N : Nat) {v_t : US} {x1 : Int32} {res : US} (hf : f_X12_look N v_t x1 = some res) : MV l yX12_look cX12_look 5 none 3 [.ref o_t, .int x1] G [uX12 G o_t a_t v_t]  [uX12 G o_t a_t res] := by
  unfold f_X12_look at hf
  refine MV.intro (by decide) rfl (Nat.le_of_ble_eq_true rfl) (fun p e s m args below meth c A ls C h hl => ?_)
  have C : MC RX12 cX12_look 5 none G A p s m args meth c := C
  have hl : lv_has ls 5 [(0, .ref o_t), (1, .int x1)] := hl
  refine lv_aload_n C.hx C.hb dX12_look_0 rfl (lv_at hl 0 rfl) ?_
  refine lv_iload_n C.hx C.hb dX12_look_1 rfl (lv_at hl 1 rfl) ?_
  refine g_put C h fp_X12_201 0 0 rfl rfl rfl rfl (Nat.le_of_ble_eq_true rfl) dX12_look_2 (u' := uX12 G o_t a_t (upi v_t 18 x1)) (us' := [uX12 G o_t a_t (upi v_t 18 x1)]) rfl rfl (fun H locs h => ?_)
  exact l_X12_look_5 C N hf h (lv_sub hl [0] rfl)

def f_X12_goOn (N : Nat) (v_t : US)  : Option (US) :=
  (f_X12_look N v_t ((v_t.1 18) + (v_t.1 19))).bind fun zr1 => some (zr1)
set_option maxRecDepth 100000 in
set_option maxHeartbeats 4000000 in
theorem c_X12_goOn (l : Launch) (G : GG) (o_t : Nat) (a_t : Nat → Nat) (N : Nat) {v_t : US}  {res : US} (hf : f_X12_goOn N v_t = some res) : MV l yX12_goOn cX12_goOn 1 none 4 [.ref o_t] G [uX12 G o_t a_t v_t]  [uX12 G o_t a_t res] := by
  unfold f_X12_goOn at hf
  refine MV.intro (by decide) rfl (Nat.le_of_ble_eq_true rfl) (fun p e s m args below meth c A ls C h hl => ?_)
  have C : MC RX12 cX12_goOn 1 none G A p s m args meth c := C
  have hl : lv_has ls 1 [(0, .ref o_t)] := hl
  refine lv_aload_n C.hx C.hb dX12_goOn_0 rfl (lv_at hl 0 rfl) ?_
  refine lv_aload_n C.hx C.hb dX12_goOn_1 rfl (lv_at hl 0 rfl) ?_
  refine g_get C h fl_X12_201 0 0 rfl rfl (v := .int (v_t.1 18)) rfl dX12_goOn_2 ?_
  refine lv_aload_n C.hx C.hb dX12_goOn_5 rfl (lv_at hl 0 rfl) ?_
  refine g_get C h fl_X12_204 0 0 rfl rfl (v := .int (v_t.1 19)) rfl dX12_goOn_6 ?_
  refine lv_iadd C.hx C.hb dX12_goOn_9 ?_
  obtain ⟨zr1, zq2, hf⟩ := bd_some hf
  have zm3 := c_X12_look l G o_t a_t N (hf := zq2)
  refine g_goV C h zm3.1 (is := [0]) rfl rfl (g_runV C h (is := [0]) rfl rfl (As := [.int ((v_t.1 18) + (v_t.1 19))]) (rest := []) (zm3.2 _) vf_X12_219 0 0 rfl rfl hl.1 rfl rfl (Nat.le_of_ble_eq_true rfl) dX12_goOn_10 ⟨Nat.le_of_ble_eq_true rfl, Nat.le_of_ble_eq_true rfl⟩ ⟨Nat.le_refl _, Nat.le_refl _⟩) (us2 := [uX12 G o_t a_t zr1]) rfl (fun H locs h => ?_)
  obtain rfl := Option.some.inj hf
  exact g_ret_v C h rfl dX12_goOn_13

def b_X12_harmOf_4 (N : Nat) (g4 : US → (Nat → Int32) → Int32 → Int32 → Int32 → Option (Int32)) (v_t : US) (v_t_now : Nat → Int32) (y1 : Int32) (y2 : Int32) (y3 : Int32) : Option (Int32) :=
  (f_X12_things v_t v_t_now).bind fun zr1 => if zr1 ≤ y3 then (some (y2)) else ((f_X12_of v_t v_t_now y3 3).bind fun zr5 => g4 v_t v_t_now y1 (y2 + (((y1 >>> (y3 &&& 31)) &&& 1) * zr5)) (y3 + 1))
def f_X12_harmOf_4 (N : Nat)  : Nat → US → (Nat → Int32) → Int32 → Int32 → Int32 → Option (Int32)
  | 0 => fun _ _ _ _ _ => none
  | k + 1 => fun q0 q1 q2 q3 q4 => b_X12_harmOf_4 N  (f_X12_harmOf_4 N  k) q0 q1 q2 q3 q4
def f_X12_harmOf (N : Nat) (v_t : US) (v_t_now : Nat → Int32) (x1 : Int32) : Option (Int32) :=
  f_X12_harmOf_4 N N v_t v_t_now x1 0 0
set_option maxRecDepth 100000 in
set_option maxHeartbeats 4000000 in
theorem w_X12_harmOf_4 {p : Program} {l : Launch} {e : Env} {s : State} {m : MethodId} {args : Array Value} {below : List Frame} {meth : Method} {c : Code} {G : GG} {A : Nat → Prop} {o_t : Nat} {a_t : Nat → Nat} {N : Nat} {g4 : US → (Nat → Int32) → Int32 → Int32 → Int32 → Option (Int32)} {v_t : US} {v_t_now : Nat → Int32} {y1 : Int32} {y2 : Int32} {y3 : Int32} {res : Int32} (C : MC RX12 cX12_harmOf 4 (some .int) G A p s m args meth c) (hg4 : ∀ {v_t : US} {v_t_now : Nat → Int32} {y1 : Int32} {y2 : Int32} {y3 : Int32}, g4 v_t v_t_now y1 y2 y3 = some res → ∀ {H : Heap} {locs : List Loc} {ls : Array Slot}, HP G A s [uX12 G o_t a_t v_t, uA G 63 (a_t 0) v_t_now] H locs → lv_has ls 4 [(0, .ref o_t), (1, .int y1), (2, .int y2), (3, .int y3)] → W p l e (rmm 2) s m args below meth c H locs 0 0 (QI below G A args s res [uX12 G o_t a_t v_t, uA G 63 (a_t 0) v_t_now]) (F0 m 4 ls [])) (hf : b_X12_harmOf_4 N g4 v_t v_t_now y1 y2 y3 = some res) {H : Heap} {locs : List Loc} {ls : Array Slot} (h : HP G A s [uX12 G o_t a_t v_t, uA G 63 (a_t 0) v_t_now] H locs) (hl : lv_has ls 4 [(0, .ref o_t), (1, .int y1), (2, .int y2), (3, .int y3)]) : W p l e (rmm 2) s m args below meth c H locs 0 0 (QI below G A args s res [uX12 G o_t a_t v_t, uA G 63 (a_t 0) v_t_now]) (F0 m 4 ls []) := by
  unfold b_X12_harmOf_4 at hf
  refine lv_iload_n C.hx C.hb dX12_harmOf_4 rfl (lv_at hl 3 rfl) ?_
  refine lv_aload_n C.hx C.hb dX12_harmOf_5 rfl (lv_at hl 0 rfl) ?_
  obtain ⟨zr1, zq2, hf⟩ := bd_some hf
  have zm3 := c_X12_things l G o_t a_t (hf := zq2)
  refine g_goI C h zm3.1 (is := [0, 1]) rfl rfl (g_runV C h (is := [0, 1]) rfl rfl (As := []) (rest := [.int y3]) (zm3.2 _) vf_X12_48 0 0 rfl rfl hl.1 rfl rfl (Nat.le_of_ble_eq_true rfl) dX12_harmOf_6 ⟨Nat.le_of_ble_eq_true rfl, Nat.le_of_ble_eq_true rfl⟩ ⟨Nat.le_refl _, Nat.le_refl _⟩) (us2 := [uX12 G o_t a_t v_t, uA G 63 (a_t 0) v_t_now]) rfl (fun H locs h => ?_)
  refine lv_icmp_ge (tgt := 33) C.hx C.hb dX12_harmOf_9 (by decide) (fun zc4 => ?_) (fun zc4 => ?_)
  · replace hf := it_t zc4 hf
    refine lv_iload_n C.hx C.hb dX12_harmOf_33 rfl (lv_at hl 2 rfl) ?_
    obtain rfl := Option.some.inj hf
    exact g_ret_i C h rfl rfl dX12_harmOf_34
  · replace hf := it_f zc4 hf
    refine lv_iload_n C.hx C.hb dX12_harmOf_12 rfl (lv_at hl 2 rfl) ?_
    refine lv_iload_n C.hx C.hb dX12_harmOf_13 rfl (lv_at hl 1 rfl) ?_
    refine lv_iload_n C.hx C.hb dX12_harmOf_14 rfl (lv_at hl 3 rfl) ?_
    refine lv_ishr C.hx C.hb dX12_harmOf_15 ?_
    refine lv_iconst (v := 1) C.hx C.hb dX12_harmOf_16 (by decide) ?_
    refine lv_iand C.hx C.hb dX12_harmOf_17 ?_
    refine lv_aload_n C.hx C.hb dX12_harmOf_18 rfl (lv_at hl 0 rfl) ?_
    refine lv_iload_n C.hx C.hb dX12_harmOf_19 rfl (lv_at hl 3 rfl) ?_
    refine lv_iconst (v := 3) C.hx C.hb dX12_harmOf_20 (by decide) ?_
    obtain ⟨zr5, zq6, hf⟩ := bd_some hf
    have zm7 := c_X12_of l G o_t a_t (hf := zq6)
    refine g_goI C h zm7.1 (is := [0, 1]) rfl rfl (g_runV C h (is := [0, 1]) rfl rfl (As := [.int y3, .int 3]) (rest := [.int ((y1 >>> (y3 &&& 31)) &&& 1), .int y2]) (zm7.2 _) vf_X12_75 0 0 rfl rfl hl.1 rfl rfl (Nat.le_of_ble_eq_true rfl) dX12_harmOf_21 ⟨Nat.le_of_ble_eq_true rfl, Nat.le_of_ble_eq_true rfl⟩ ⟨Nat.le_refl _, Nat.le_refl _⟩) (us2 := [uX12 G o_t a_t v_t, uA G 63 (a_t 0) v_t_now]) rfl (fun H locs h => ?_)
    refine lv_imul C.hx C.hb dX12_harmOf_24 ?_
    refine lv_iadd C.hx C.hb dX12_harmOf_25 ?_
    refine lv_istore_n (lv' := [(2, .int (y2 + (((y1 >>> (y3 &&& 31)) &&& 1) * zr5))), (0, .ref o_t), (1, .int y1), (3, .int y3)]) C.hx C.hb dX12_harmOf_26 rfl hl (by decide) rfl (fun ls hl => ?_)
    refine lv_iinc (v := y3 + 1) (lv' := [(3, .int (y3 + 1)), (2, .int (y2 + (((y1 >>> (y3 &&& 31)) &&& 1) * zr5))), (0, .ref o_t), (1, .int y1)]) C.hx C.hb dX12_harmOf_27 hl (k := 3) rfl rfl (by decide) rfl (fun ls hl => ?_)
    refine lv_goto (tgt := 4) C.hx C.hb dX12_harmOf_30 (by decide) ?_
    exact hg4 hf h (lv_sub hl [2, 3, 1, 0] rfl)
set_option maxRecDepth 100000 in
set_option maxHeartbeats 4000000 in
theorem l_X12_harmOf_4 {p : Program} {l : Launch} {e : Env} {s : State} {m : MethodId} {args : Array Value} {below : List Frame} {meth : Method} {c : Code} {G : GG} {A : Nat → Prop} {o_t : Nat} {a_t : Nat → Nat} {N : Nat}  {res : Int32} (C : MC RX12 cX12_harmOf 4 (some .int) G A p s m args meth c)  : ∀ (k : Nat) {v_t : US} {v_t_now : Nat → Int32} {y1 : Int32} {y2 : Int32} {y3 : Int32}, f_X12_harmOf_4 N k v_t v_t_now y1 y2 y3 = some res → ∀ {H : Heap} {locs : List Loc} {ls : Array Slot}, HP G A s [uX12 G o_t a_t v_t, uA G 63 (a_t 0) v_t_now] H locs → lv_has ls 4 [(0, .ref o_t), (1, .int y1), (2, .int y2), (3, .int y3)] → W p l e (rmm 2) s m args below meth c H locs 0 0 (QI below G A args s res [uX12 G o_t a_t v_t, uA G 63 (a_t 0) v_t_now]) (F0 m 4 ls []) := by
  intro k
  induction k with
  | zero => intros; contradiction
  | succ k ih =>
    intro v_t v_t_now y1 y2 y3 hf H locs ls h hl
    exact w_X12_harmOf_4 (N := N) C ih hf h hl
set_option maxRecDepth 100000 in
set_option maxHeartbeats 4000000 in
theorem c_X12_harmOf (l : Launch) (G : GG) (o_t : Nat) (a_t : Nat → Nat) (N : Nat) {v_t : US} {v_t_now : Nat → Int32} {x1 : Int32} {res : Int32} (hf : f_X12_harmOf N v_t v_t_now x1 = some res) : MI l yX12_harmOf cX12_harmOf 4 (some .int) 2 [.ref o_t, .int x1] G [uX12 G o_t a_t v_t, uA G 63 (a_t 0) v_t_now] res [uX12 G o_t a_t v_t, uA G 63 (a_t 0) v_t_now] := by
  unfold f_X12_harmOf at hf
  refine MI.intro (by decide) rfl (Nat.le_of_ble_eq_true rfl) (fun p e s m args below meth c A ls C h hl => ?_)
  have C : MC RX12 cX12_harmOf 4 (some .int) G A p s m args meth c := C
  have hl : lv_has ls 4 [(0, .ref o_t), (1, .int x1)] := hl
  refine lv_iconst (v := 0) C.hx C.hb dX12_harmOf_0 (by decide) ?_
  refine lv_istore_n (lv' := [(2, .int 0), (0, .ref o_t), (1, .int x1)]) C.hx C.hb dX12_harmOf_1 rfl hl (by decide) rfl (fun ls hl => ?_)
  refine lv_iconst (v := 0) C.hx C.hb dX12_harmOf_2 (by decide) ?_
  refine lv_istore_n (lv' := [(3, .int 0), (2, .int 0), (0, .ref o_t), (1, .int x1)]) C.hx C.hb dX12_harmOf_3 rfl hl (by decide) rfl (fun ls hl => ?_)
  exact l_X12_harmOf_4 C N hf h (lv_sub hl [2, 3, 1, 0] rfl)

def b_X12_harmBy_9 (N : Nat) (g9 : US → (Nat → Int32) → Int32 → Int32 → Option (Int32 × US)) (v_t : US) (v_t_now : Nat → Int32) (y2 : Int32) (y3 : Int32) : Option (Int32 × US) :=
  (f_X12_errands v_t v_t_now).bind fun zr1 => if zr1 ≤ y3 then (some (y2, v_t)) else ((f_X12_doErrand N v_t v_t_now y3 0).bind fun zr5 => (f_X12_harmOf N zr5.2 v_t_now zr5.1).bind fun zr8 => g9 zr5.2 v_t_now (y2 + zr8) (y3 + 1))
def f_X12_harmBy_9 (N : Nat)  : Nat → US → (Nat → Int32) → Int32 → Int32 → Option (Int32 × US)
  | 0 => fun _ _ _ _ => none
  | k + 1 => fun q0 q1 q2 q3 => b_X12_harmBy_9 N  (f_X12_harmBy_9 N  k) q0 q1 q2 q3
def f_X12_harmBy (N : Nat) (v_t : US) (v_t_now : Nat → Int32) (x1 : Int32) : Option (Int32 × US) :=
  f_X12_harmBy_9 N N (upi v_t 7 x1) v_t_now 0 0
set_option maxRecDepth 100000 in
set_option maxHeartbeats 4000000 in
theorem w_X12_harmBy_9 {p : Program} {l : Launch} {e : Env} {s : State} {m : MethodId} {args : Array Value} {below : List Frame} {meth : Method} {c : Code} {G : GG} {A : Nat → Prop} {o_t : Nat} {a_t : Nat → Nat} {N : Nat} {g9 : US → (Nat → Int32) → Int32 → Int32 → Option (Int32 × US)} {v_t : US} {v_t_now : Nat → Int32} {y2 : Int32} {y3 : Int32} {res : Int32 × US} (C : MC RX12 cX12_harmBy 4 (some .int) G A p s m args meth c) (hg9 : ∀ {v_t : US} {v_t_now : Nat → Int32} {y2 : Int32} {y3 : Int32}, g9 v_t v_t_now y2 y3 = some res → ∀ {H : Heap} {locs : List Loc} {ls : Array Slot}, HP G A s [uX12 G o_t a_t v_t, uA G 63 (a_t 0) v_t_now] H locs → lv_has ls 4 [(0, .ref o_t), (2, .int y2), (3, .int y3)] → W p l e (rmm 6) s m args below meth c H locs 0 0 (QI below G A args s res.1 [uX12 G o_t a_t res.2, uA G 63 (a_t 0) v_t_now]) (F0 m 9 ls [])) (hf : b_X12_harmBy_9 N g9 v_t v_t_now y2 y3 = some res) {H : Heap} {locs : List Loc} {ls : Array Slot} (h : HP G A s [uX12 G o_t a_t v_t, uA G 63 (a_t 0) v_t_now] H locs) (hl : lv_has ls 4 [(0, .ref o_t), (2, .int y2), (3, .int y3)]) : W p l e (rmm 6) s m args below meth c H locs 0 0 (QI below G A args s res.1 [uX12 G o_t a_t res.2, uA G 63 (a_t 0) v_t_now]) (F0 m 9 ls []) := by
  unfold b_X12_harmBy_9 at hf
  refine lv_iload_n C.hx C.hb dX12_harmBy_9 rfl (lv_at hl 2 rfl) ?_
  refine lv_aload_n C.hx C.hb dX12_harmBy_10 rfl (lv_at hl 0 rfl) ?_
  obtain ⟨zr1, zq2, hf⟩ := bd_some hf
  have zm3 := c_X12_errands l G o_t a_t (hf := zq2)
  refine g_goI C h zm3.1 (is := [0, 1]) rfl rfl (g_runV C h (is := [0, 1]) rfl rfl (As := []) (rest := [.int y3]) (zm3.2 _) vf_X12_133 0 0 rfl rfl hl.1 rfl rfl (Nat.le_of_ble_eq_true rfl) dX12_harmBy_11 ⟨Nat.le_of_ble_eq_true rfl, Nat.le_of_ble_eq_true rfl⟩ ⟨Nat.le_refl _, Nat.le_refl _⟩) (us2 := [uX12 G o_t a_t v_t, uA G 63 (a_t 0) v_t_now]) rfl (fun H locs h => ?_)
  refine lv_icmp_ge (tgt := 36) C.hx C.hb dX12_harmBy_14 (by decide) (fun zc4 => ?_) (fun zc4 => ?_)
  · replace hf := it_t zc4 hf
    refine lv_iload_n C.hx C.hb dX12_harmBy_36 rfl (lv_at hl 1 rfl) ?_
    obtain rfl := Option.some.inj hf
    exact g_ret_i C h rfl rfl dX12_harmBy_37
  · replace hf := it_f zc4 hf
    refine lv_iload_n C.hx C.hb dX12_harmBy_17 rfl (lv_at hl 1 rfl) ?_
    refine lv_aload_n C.hx C.hb dX12_harmBy_18 rfl (lv_at hl 0 rfl) ?_
    refine lv_aload_n C.hx C.hb dX12_harmBy_19 rfl (lv_at hl 0 rfl) ?_
    refine lv_iload_n C.hx C.hb dX12_harmBy_20 rfl (lv_at hl 2 rfl) ?_
    refine lv_iconst (v := 0) C.hx C.hb dX12_harmBy_21 (by decide) ?_
    obtain ⟨zr5, zq6, hf⟩ := bd_some hf
    have zm7 := c_X12_doErrand l G o_t a_t N (hf := zq6)
    refine g_goI C h zm7.1 (is := [0, 1]) rfl rfl (g_runV C h (is := [0, 1]) rfl rfl (As := [.int y3, .int 0]) (rest := [.ref o_t, .int y2]) (zm7.2 _) vf_X12_139 0 0 rfl rfl hl.1 rfl rfl (Nat.le_of_ble_eq_true rfl) dX12_harmBy_22 ⟨Nat.le_of_ble_eq_true rfl, Nat.le_of_ble_eq_true rfl⟩ ⟨Nat.le_refl _, Nat.le_refl _⟩) (us2 := [uX12 G o_t a_t zr5.2, uA G 63 (a_t 0) v_t_now]) rfl (fun H locs h => ?_)
    obtain ⟨zr8, zq9, hf⟩ := bd_some hf
    have zm10 := c_X12_harmOf l G o_t a_t N (hf := zq9)
    refine g_goI C h zm10.1 (is := [0, 1]) rfl rfl (g_runV C h (is := [0, 1]) rfl rfl (As := [.int zr5.1]) (rest := [.int y2]) (zm10.2 _) vf_X12_142 0 0 rfl rfl hl.1 rfl rfl (Nat.le_of_ble_eq_true rfl) dX12_harmBy_25 ⟨Nat.le_of_ble_eq_true rfl, Nat.le_of_ble_eq_true rfl⟩ ⟨Nat.le_refl _, Nat.le_refl _⟩) (us2 := [uX12 G o_t a_t zr5.2, uA G 63 (a_t 0) v_t_now]) rfl (fun H locs h => ?_)
    refine lv_iadd C.hx C.hb dX12_harmBy_28 ?_
    refine lv_istore_n (lv' := [(2, .int (y2 + zr8)), (0, .ref o_t), (3, .int y3)]) C.hx C.hb dX12_harmBy_29 rfl hl (by decide) rfl (fun ls hl => ?_)
    refine lv_iinc (v := y3 + 1) (lv' := [(3, .int (y3 + 1)), (2, .int (y2 + zr8)), (0, .ref o_t)]) C.hx C.hb dX12_harmBy_30 hl (k := 2) rfl rfl (by decide) rfl (fun ls hl => ?_)
    refine lv_goto (tgt := 9) C.hx C.hb dX12_harmBy_33 (by decide) ?_
    exact hg9 hf h (lv_sub hl [2, 1, 0] rfl)
set_option maxRecDepth 100000 in
set_option maxHeartbeats 4000000 in
theorem l_X12_harmBy_9 {p : Program} {l : Launch} {e : Env} {s : State} {m : MethodId} {args : Array Value} {below : List Frame} {meth : Method} {c : Code} {G : GG} {A : Nat → Prop} {o_t : Nat} {a_t : Nat → Nat} {N : Nat}  {res : Int32 × US} (C : MC RX12 cX12_harmBy 4 (some .int) G A p s m args meth c)  : ∀ (k : Nat) {v_t : US} {v_t_now : Nat → Int32} {y2 : Int32} {y3 : Int32}, f_X12_harmBy_9 N k v_t v_t_now y2 y3 = some res → ∀ {H : Heap} {locs : List Loc} {ls : Array Slot}, HP G A s [uX12 G o_t a_t v_t, uA G 63 (a_t 0) v_t_now] H locs → lv_has ls 4 [(0, .ref o_t), (2, .int y2), (3, .int y3)] → W p l e (rmm 6) s m args below meth c H locs 0 0 (QI below G A args s res.1 [uX12 G o_t a_t res.2, uA G 63 (a_t 0) v_t_now]) (F0 m 9 ls []) := by
  intro k
  induction k with
  | zero => intros; contradiction
  | succ k ih =>
    intro v_t v_t_now y2 y3 hf H locs ls h hl
    exact w_X12_harmBy_9 (N := N) C ih hf h hl
set_option maxRecDepth 100000 in
set_option maxHeartbeats 4000000 in
theorem c_X12_harmBy (l : Launch) (G : GG) (o_t : Nat) (a_t : Nat → Nat) (N : Nat) {v_t : US} {v_t_now : Nat → Int32} {x1 : Int32} {res : Int32 × US} (hf : f_X12_harmBy N v_t v_t_now x1 = some res) : MI l yX12_harmBy cX12_harmBy 4 (some .int) 6 [.ref o_t, .int x1] G [uX12 G o_t a_t v_t, uA G 63 (a_t 0) v_t_now] res.1 [uX12 G o_t a_t res.2, uA G 63 (a_t 0) v_t_now] := by
  unfold f_X12_harmBy at hf
  refine MI.intro (by decide) rfl (Nat.le_of_ble_eq_true rfl) (fun p e s m args below meth c A ls C h hl => ?_)
  have C : MC RX12 cX12_harmBy 4 (some .int) G A p s m args meth c := C
  have hl : lv_has ls 4 [(0, .ref o_t), (1, .int x1)] := hl
  refine lv_aload_n C.hx C.hb dX12_harmBy_0 rfl (lv_at hl 0 rfl) ?_
  refine lv_iload_n C.hx C.hb dX12_harmBy_1 rfl (lv_at hl 1 rfl) ?_
  refine g_put C h fp_X12_89 0 0 rfl rfl rfl rfl (Nat.le_of_ble_eq_true rfl) dX12_harmBy_2 (u' := uX12 G o_t a_t (upi v_t 7 x1)) (us' := [uX12 G o_t a_t (upi v_t 7 x1), uA G 63 (a_t 0) v_t_now]) rfl rfl (fun H locs h => ?_)
  refine lv_iconst (v := 0) C.hx C.hb dX12_harmBy_5 (by decide) ?_
  refine lv_istore_n (lv' := [(2, .int 0), (0, .ref o_t), (1, .int x1)]) C.hx C.hb dX12_harmBy_6 rfl hl (by decide) rfl (fun ls hl => ?_)
  refine lv_iconst (v := 0) C.hx C.hb dX12_harmBy_7 (by decide) ?_
  refine lv_istore_n (lv' := [(3, .int 0), (2, .int 0), (0, .ref o_t), (1, .int x1)]) C.hx C.hb dX12_harmBy_8 rfl hl (by decide) rfl (fun ls hl => ?_)
  exact l_X12_harmBy_9 C N hf h (lv_sub hl [2, 1, 0] rfl)

def b_X12_harmOfRow_12 (N : Nat) (g12 : US → (Nat → Int32) → Int32 → Int32 → Int32 → Option (Int32 × US)) (v_t : US) (v_t_now : Nat → Int32) (y1 : Int32) (y2 : Int32) (y3 : Int32) : Option (Int32 × US) :=
  (f_X12_errands v_t v_t_now).bind fun zr1 => if zr1 ≤ y3 then (some (y2, v_t)) else (if y3 < 0 ∨ 5 ≤ y3.toNatClampNeg then none else ((f_X12_doErrand N v_t v_t_now ((v_t.2.2 12) y3.toNatClampNeg) y1).bind fun zr6 => (f_X12_harmOf N zr6.2 v_t_now (zr6.1 &&& (y1 ^^^ (-1)))).bind fun zr9 => g12 zr6.2 v_t_now zr6.1 (y2 + zr9) (y3 + 1)))
def f_X12_harmOfRow_12 (N : Nat)  : Nat → US → (Nat → Int32) → Int32 → Int32 → Int32 → Option (Int32 × US)
  | 0 => fun _ _ _ _ _ => none
  | k + 1 => fun q0 q1 q2 q3 q4 => b_X12_harmOfRow_12 N  (f_X12_harmOfRow_12 N  k) q0 q1 q2 q3 q4
def f_X12_harmOfRow (N : Nat) (v_t : US) (v_t_now : Nat → Int32)  : Option (Int32 × US) :=
  if (27 : Int32) < 0 ∨ 63 ≤ (27 : Int32).toNatClampNeg then none else (f_X12_harmOfRow_12 N N v_t v_t_now (v_t_now (27 : Int32).toNatClampNeg) 0 0)
set_option maxRecDepth 100000 in
set_option maxHeartbeats 4000000 in
theorem w_X12_harmOfRow_12 {p : Program} {l : Launch} {e : Env} {s : State} {m : MethodId} {args : Array Value} {below : List Frame} {meth : Method} {c : Code} {G : GG} {A : Nat → Prop} {o_t : Nat} {a_t : Nat → Nat} {N : Nat} {g12 : US → (Nat → Int32) → Int32 → Int32 → Int32 → Option (Int32 × US)} {v_t : US} {v_t_now : Nat → Int32} {y1 : Int32} {y2 : Int32} {y3 : Int32} {res : Int32 × US} (C : MC RX12 cX12_harmOfRow 5 (some .int) G A p s m args meth c) (hg12 : ∀ {v_t : US} {v_t_now : Nat → Int32} {y1 : Int32} {y2 : Int32} {y3 : Int32}, g12 v_t v_t_now y1 y2 y3 = some res → ∀ {H : Heap} {locs : List Loc} {ls : Array Slot}, HP G A s [uX12 G o_t a_t v_t, uA G 63 (a_t 0) v_t_now] H locs → lv_has ls 5 [(0, .ref o_t), (1, .int y1), (2, .int y2), (3, .int y3)] → W p l e (rmm 6) s m args below meth c H locs 0 0 (QI below G A args s res.1 [uX12 G o_t a_t res.2, uA G 63 (a_t 0) v_t_now]) (F0 m 12 ls [])) (hf : b_X12_harmOfRow_12 N g12 v_t v_t_now y1 y2 y3 = some res) {H : Heap} {locs : List Loc} {ls : Array Slot} (h : HP G A s [uX12 G o_t a_t v_t, uA G 63 (a_t 0) v_t_now] H locs) (hl : lv_has ls 5 [(0, .ref o_t), (1, .int y1), (2, .int y2), (3, .int y3)]) : W p l e (rmm 6) s m args below meth c H locs 0 0 (QI below G A args s res.1 [uX12 G o_t a_t res.2, uA G 63 (a_t 0) v_t_now]) (F0 m 12 ls []) := by
  unfold b_X12_harmOfRow_12 at hf
  refine lv_iload_n C.hx C.hb dX12_harmOfRow_12 rfl (lv_at hl 3 rfl) ?_
  refine lv_aload_n C.hx C.hb dX12_harmOfRow_13 rfl (lv_at hl 0 rfl) ?_
  obtain ⟨zr1, zq2, hf⟩ := bd_some hf
  have zm3 := c_X12_errands l G o_t a_t (hf := zq2)
  refine g_goI C h zm3.1 (is := [0, 1]) rfl rfl (g_runV C h (is := [0, 1]) rfl rfl (As := []) (rest := [.int y3]) (zm3.2 _) vf_X12_133 0 0 rfl rfl hl.1 rfl rfl (Nat.le_of_ble_eq_true rfl) dX12_harmOfRow_14 ⟨Nat.le_of_ble_eq_true rfl, Nat.le_of_ble_eq_true rfl⟩ ⟨Nat.le_refl _, Nat.le_refl _⟩) (us2 := [uX12 G o_t a_t v_t, uA G 63 (a_t 0) v_t_now]) rfl (fun H locs h => ?_)
  refine lv_icmp_ge (tgt := 55) C.hx C.hb dX12_harmOfRow_17 (by decide) (fun zc4 => ?_) (fun zc4 => ?_)
  · replace hf := it_t zc4 hf
    refine lv_iload_n C.hx C.hb dX12_harmOfRow_55 rfl (lv_at hl 2 rfl) ?_
    obtain rfl := Option.some.inj hf
    exact g_ret_i C h rfl rfl dX12_harmOfRow_56
  · replace hf := it_f zc4 hf
    refine lv_aload_n C.hx C.hb dX12_harmOfRow_20 rfl (lv_at hl 0 rfl) ?_
    refine lv_aload_n C.hx C.hb dX12_harmOfRow_21 rfl (lv_at hl 0 rfl) ?_
    refine g_get C h fl_X12_30 0 0 rfl rfl (v := .ref (a_t 12)) rfl dX12_harmOfRow_22 ?_
    refine lv_iload_n C.hx C.hb dX12_harmOfRow_25 rfl (lv_at hl 3 rfl) ?_
    obtain ⟨zi5, hf⟩ := ck_some hf
    refine g_iald C h 0 5 rfl rfl (f := v_t.2.2 12) zi5 dX12_harmOfRow_26 ?_
    refine lv_iload_n C.hx C.hb dX12_harmOfRow_27 rfl (lv_at hl 1 rfl) ?_
    obtain ⟨zr6, zq7, hf⟩ := bd_some hf
    have zm8 := c_X12_doErrand l G o_t a_t N (hf := zq7)
    refine g_goI C h zm8.1 (is := [0, 1]) rfl rfl (g_runV C h (is := [0, 1]) rfl rfl (As := [.int ((v_t.2.2 12) y3.toNatClampNeg), .int y1]) (rest := []) (zm8.2 _) vf_X12_139 0 0 rfl rfl hl.1 rfl rfl (Nat.le_of_ble_eq_true rfl) dX12_harmOfRow_28 ⟨Nat.le_of_ble_eq_true rfl, Nat.le_of_ble_eq_true rfl⟩ ⟨Nat.le_refl _, Nat.le_refl _⟩) (us2 := [uX12 G o_t a_t zr6.2, uA G 63 (a_t 0) v_t_now]) rfl (fun H locs h => ?_)
    refine lv_istore (lv' := [(4, .int zr6.1), (0, .ref o_t), (1, .int y1), (2, .int y2), (3, .int y3)]) C.hx C.hb dX12_harmOfRow_31 hl (by decide) rfl (fun ls hl => ?_)
    refine lv_iload_n C.hx C.hb dX12_harmOfRow_33 rfl (lv_at hl 3 rfl) ?_
    refine lv_aload_n C.hx C.hb dX12_harmOfRow_34 rfl (lv_at hl 1 rfl) ?_
    refine lv_iload C.hx C.hb dX12_harmOfRow_35 (lv_at hl 0 rfl) ?_
    refine lv_iload_n C.hx C.hb dX12_harmOfRow_37 rfl (lv_at hl 2 rfl) ?_
    refine lv_iconst (v := (-1)) C.hx C.hb dX12_harmOfRow_38 (by decide) ?_
    refine lv_ixor C.hx C.hb dX12_harmOfRow_39 ?_
    refine lv_iand C.hx C.hb dX12_harmOfRow_40 ?_
    obtain ⟨zr9, zq10, hf⟩ := bd_some hf
    have zm11 := c_X12_harmOf l G o_t a_t N (hf := zq10)
    refine g_goI C h zm11.1 (is := [0, 1]) rfl rfl (g_runV C h (is := [0, 1]) rfl rfl (As := [.int (zr6.1 &&& (y1 ^^^ (-1)))]) (rest := [.int y2]) (zm11.2 _) vf_X12_142 0 0 rfl rfl hl.1 rfl rfl (Nat.le_of_ble_eq_true rfl) dX12_harmOfRow_41 ⟨Nat.le_of_ble_eq_true rfl, Nat.le_of_ble_eq_true rfl⟩ ⟨Nat.le_refl _, Nat.le_refl _⟩) (us2 := [uX12 G o_t a_t zr6.2, uA G 63 (a_t 0) v_t_now]) rfl (fun H locs h => ?_)
    refine lv_iadd C.hx C.hb dX12_harmOfRow_44 ?_
    refine lv_istore_n (lv' := [(2, .int (y2 + zr9)), (4, .int zr6.1), (0, .ref o_t), (1, .int y1), (3, .int y3)]) C.hx C.hb dX12_harmOfRow_45 rfl hl (by decide) rfl (fun ls hl => ?_)
    refine lv_iload C.hx C.hb dX12_harmOfRow_46 (lv_at hl 1 rfl) ?_
    refine lv_istore_n (lv' := [(1, .int zr6.1), (2, .int (y2 + zr9)), (4, .int zr6.1), (0, .ref o_t), (3, .int y3)]) C.hx C.hb dX12_harmOfRow_48 rfl hl (by decide) rfl (fun ls hl => ?_)
    refine lv_iinc (v := y3 + 1) (lv' := [(3, .int (y3 + 1)), (1, .int zr6.1), (2, .int (y2 + zr9)), (4, .int zr6.1), (0, .ref o_t)]) C.hx C.hb dX12_harmOfRow_49 hl (k := 4) rfl rfl (by decide) rfl (fun ls hl => ?_)
    refine lv_goto (tgt := 12) C.hx C.hb dX12_harmOfRow_52 (by decide) ?_
    exact hg12 hf h (lv_sub hl [4, 1, 2, 0] rfl)
set_option maxRecDepth 100000 in
set_option maxHeartbeats 4000000 in
theorem l_X12_harmOfRow_12 {p : Program} {l : Launch} {e : Env} {s : State} {m : MethodId} {args : Array Value} {below : List Frame} {meth : Method} {c : Code} {G : GG} {A : Nat → Prop} {o_t : Nat} {a_t : Nat → Nat} {N : Nat}  {res : Int32 × US} (C : MC RX12 cX12_harmOfRow 5 (some .int) G A p s m args meth c)  : ∀ (k : Nat) {v_t : US} {v_t_now : Nat → Int32} {y1 : Int32} {y2 : Int32} {y3 : Int32}, f_X12_harmOfRow_12 N k v_t v_t_now y1 y2 y3 = some res → ∀ {H : Heap} {locs : List Loc} {ls : Array Slot}, HP G A s [uX12 G o_t a_t v_t, uA G 63 (a_t 0) v_t_now] H locs → lv_has ls 5 [(0, .ref o_t), (1, .int y1), (2, .int y2), (3, .int y3)] → W p l e (rmm 6) s m args below meth c H locs 0 0 (QI below G A args s res.1 [uX12 G o_t a_t res.2, uA G 63 (a_t 0) v_t_now]) (F0 m 12 ls []) := by
  intro k
  induction k with
  | zero => intros; contradiction
  | succ k ih =>
    intro v_t v_t_now y1 y2 y3 hf H locs ls h hl
    exact w_X12_harmOfRow_12 (N := N) C ih hf h hl
set_option maxRecDepth 100000 in
set_option maxHeartbeats 4000000 in
theorem c_X12_harmOfRow (l : Launch) (G : GG) (o_t : Nat) (a_t : Nat → Nat) (N : Nat) {v_t : US} {v_t_now : Nat → Int32}  {res : Int32 × US} (hf : f_X12_harmOfRow N v_t v_t_now = some res) : MI l yX12_harmOfRow cX12_harmOfRow 5 (some .int) 6 [.ref o_t] G [uX12 G o_t a_t v_t, uA G 63 (a_t 0) v_t_now] res.1 [uX12 G o_t a_t res.2, uA G 63 (a_t 0) v_t_now] := by
  unfold f_X12_harmOfRow at hf
  refine MI.intro (by decide) rfl (Nat.le_of_ble_eq_true rfl) (fun p e s m args below meth c A ls C h hl => ?_)
  have C : MC RX12 cX12_harmOfRow 5 (some .int) G A p s m args meth c := C
  have hl : lv_has ls 5 [(0, .ref o_t)] := hl
  refine lv_aload_n C.hx C.hb dX12_harmOfRow_0 rfl (lv_at hl 0 rfl) ?_
  refine g_get C h fl_X12_7 0 0 rfl rfl (v := .ref (a_t 0)) rfl dX12_harmOfRow_1 ?_
  refine lv_bipush (v := 27) C.hx C.hb dX12_harmOfRow_4 (by decide) ?_
  obtain ⟨zi1, hf⟩ := ck_some hf
  refine g_iald C h 1 0 rfl rfl (f := v_t_now) zi1 dX12_harmOfRow_6 ?_
  refine lv_istore_n (lv' := [(1, .int (v_t_now (27 : Int32).toNatClampNeg)), (0, .ref o_t)]) C.hx C.hb dX12_harmOfRow_7 rfl hl (by decide) rfl (fun ls hl => ?_)
  refine lv_iconst (v := 0) C.hx C.hb dX12_harmOfRow_8 (by decide) ?_
  refine lv_istore_n (lv' := [(2, .int 0), (1, .int (v_t_now (27 : Int32).toNatClampNeg)), (0, .ref o_t)]) C.hx C.hb dX12_harmOfRow_9 rfl hl (by decide) rfl (fun ls hl => ?_)
  refine lv_iconst (v := 0) C.hx C.hb dX12_harmOfRow_10 (by decide) ?_
  refine lv_istore_n (lv' := [(3, .int 0), (2, .int 0), (1, .int (v_t_now (27 : Int32).toNatClampNeg)), (0, .ref o_t)]) C.hx C.hb dX12_harmOfRow_11 rfl hl (by decide) rfl (fun ls hl => ?_)
  exact l_X12_harmOfRow_12 C N hf h (lv_sub hl [3, 2, 1, 0] rfl)

def b_X12_heard_19 (N : Nat) (g19 : US → (Nat → Int32) → Int32 → Int32 → Int32 → Option (Int32 × US)) (v_t : US) (v_t_now : Nat → Int32) (y1 : Int32) (y2 : Int32) (y3 : Int32) : Option (Int32 × US) :=
  (f_X12_errands v_t v_t_now).bind fun zr1 => if zr1 ≤ y3 then (some (y2, v_t)) else (if (29 + (2 * y3)) < 0 ∨ 63 ≤ (29 + (2 * y3)).toNatClampNeg then none else (if ((29 + (2 * y3)) + 1) < 0 ∨ 63 ≤ ((29 + (2 * y3)) + 1).toNatClampNeg then none else ((f_X12_onePull v_t (v_t_now (29 + (2 * y3)).toNatClampNeg) (v_t_now ((29 + (2 * y3)) + 1).toNatClampNeg)).bind fun zr7 => (f_X12_travel zr7).bind fun zr10 => if (zr10 / 3) = y1 then (g19 zr7 v_t_now y1 (y2 ||| (1 <<< (y3 &&& 31))) (y3 + 1)) else (g19 zr7 v_t_now y1 (y2 ||| 0) (y3 + 1)))))
def f_X12_heard_19 (N : Nat)  : Nat → US → (Nat → Int32) → Int32 → Int32 → Int32 → Option (Int32 × US)
  | 0 => fun _ _ _ _ _ => none
  | k + 1 => fun q0 q1 q2 q3 q4 => b_X12_heard_19 N  (f_X12_heard_19 N  k) q0 q1 q2 q3 q4
def f_X12_heard (N : Nat) (v_t : US) (v_t_now : Nat → Int32) (x1 : Int32) : Option (Int32 × US) :=
  if 0 ≤ x1 then ((f_X12_takeNow N v_t v_t_now).bind fun zr2 => f_X12_heard_19 N N zr2 v_t_now x1 0 0) else ((f_X12_bad v_t (-2)).bind fun zr5 => some (zr5.1, zr5.2))
set_option maxRecDepth 100000 in
set_option maxHeartbeats 4000000 in
theorem w_X12_heard_19 {p : Program} {l : Launch} {e : Env} {s : State} {m : MethodId} {args : Array Value} {below : List Frame} {meth : Method} {c : Code} {G : GG} {A : Nat → Prop} {o_t : Nat} {a_t : Nat → Nat} {N : Nat} {g19 : US → (Nat → Int32) → Int32 → Int32 → Int32 → Option (Int32 × US)} {v_t : US} {v_t_now : Nat → Int32} {y1 : Int32} {y2 : Int32} {y3 : Int32} {res : Int32 × US} (C : MC RX12 cX12_heard 4 (some .int) G A p s m args meth c) (hg19 : ∀ {v_t : US} {v_t_now : Nat → Int32} {y1 : Int32} {y2 : Int32} {y3 : Int32}, g19 v_t v_t_now y1 y2 y3 = some res → ∀ {H : Heap} {locs : List Loc} {ls : Array Slot}, HP G A s [uX12 G o_t a_t v_t, uA G 63 (a_t 0) v_t_now] H locs → lv_has ls 4 [(0, .ref o_t), (1, .int y1), (2, .int y2), (3, .int y3)] → W p l e (rmm 4) s m args below meth c H locs 0 0 (QI below G A args s res.1 [uX12 G o_t a_t res.2, uA G 63 (a_t 0) v_t_now]) (F0 m 19 ls [])) (hf : b_X12_heard_19 N g19 v_t v_t_now y1 y2 y3 = some res) {H : Heap} {locs : List Loc} {ls : Array Slot} (h : HP G A s [uX12 G o_t a_t v_t, uA G 63 (a_t 0) v_t_now] H locs) (hl : lv_has ls 4 [(0, .ref o_t), (1, .int y1), (2, .int y2), (3, .int y3)]) : W p l e (rmm 4) s m args below meth c H locs 0 0 (QI below G A args s res.1 [uX12 G o_t a_t res.2, uA G 63 (a_t 0) v_t_now]) (F0 m 19 ls []) := by
  unfold b_X12_heard_19 at hf
  refine lv_iload_n C.hx C.hb dX12_heard_19 rfl (lv_at hl 3 rfl) ?_
  refine lv_aload_n C.hx C.hb dX12_heard_20 rfl (lv_at hl 0 rfl) ?_
  obtain ⟨zr1, zq2, hf⟩ := bd_some hf
  have zm3 := c_X12_errands l G o_t a_t (hf := zq2)
  refine g_goI C h zm3.1 (is := [0, 1]) rfl rfl (g_runV C h (is := [0, 1]) rfl rfl (As := []) (rest := [.int y3]) (zm3.2 _) vf_X12_133 0 0 rfl rfl hl.1 rfl rfl (Nat.le_of_ble_eq_true rfl) dX12_heard_21 ⟨Nat.le_of_ble_eq_true rfl, Nat.le_of_ble_eq_true rfl⟩ ⟨Nat.le_refl _, Nat.le_refl _⟩) (us2 := [uX12 G o_t a_t v_t, uA G 63 (a_t 0) v_t_now]) rfl (fun H locs h => ?_)
  refine lv_icmp_ge (tgt := 81) C.hx C.hb dX12_heard_24 (by decide) (fun zc4 => ?_) (fun zc4 => ?_)
  · replace hf := it_t zc4 hf
    refine lv_iload_n C.hx C.hb dX12_heard_81 rfl (lv_at hl 2 rfl) ?_
    obtain rfl := Option.some.inj hf
    exact g_ret_i C h rfl rfl dX12_heard_82
  · replace hf := it_f zc4 hf
    refine lv_aload_n C.hx C.hb dX12_heard_27 rfl (lv_at hl 0 rfl) ?_
    refine lv_aload_n C.hx C.hb dX12_heard_28 rfl (lv_at hl 0 rfl) ?_
    refine g_get C h fl_X12_7 0 0 rfl rfl (v := .ref (a_t 0)) rfl dX12_heard_29 ?_
    refine lv_bipush (v := 29) C.hx C.hb dX12_heard_32 (by decide) ?_
    refine lv_iconst (v := 2) C.hx C.hb dX12_heard_34 (by decide) ?_
    refine lv_iload_n C.hx C.hb dX12_heard_35 rfl (lv_at hl 3 rfl) ?_
    refine lv_imul C.hx C.hb dX12_heard_36 ?_
    refine lv_iadd C.hx C.hb dX12_heard_37 ?_
    obtain ⟨zi5, hf⟩ := ck_some hf
    refine g_iald C h 1 0 rfl rfl (f := v_t_now) zi5 dX12_heard_38 ?_
    refine lv_aload_n C.hx C.hb dX12_heard_39 rfl (lv_at hl 0 rfl) ?_
    refine g_get C h fl_X12_7 0 0 rfl rfl (v := .ref (a_t 0)) rfl dX12_heard_40 ?_
    refine lv_bipush (v := 29) C.hx C.hb dX12_heard_43 (by decide) ?_
    refine lv_iconst (v := 2) C.hx C.hb dX12_heard_45 (by decide) ?_
    refine lv_iload_n C.hx C.hb dX12_heard_46 rfl (lv_at hl 3 rfl) ?_
    refine lv_imul C.hx C.hb dX12_heard_47 ?_
    refine lv_iadd C.hx C.hb dX12_heard_48 ?_
    refine lv_iconst (v := 1) C.hx C.hb dX12_heard_49 (by decide) ?_
    refine lv_iadd C.hx C.hb dX12_heard_50 ?_
    obtain ⟨zi6, hf⟩ := ck_some hf
    refine g_iald C h 1 0 rfl rfl (f := v_t_now) zi6 dX12_heard_51 ?_
    obtain ⟨zr7, zq8, hf⟩ := bd_some hf
    have zm9 := c_X12_onePull l G o_t a_t (hf := zq8)
    refine g_goV C h zm9.1 (is := [0]) rfl rfl (g_runV C h (is := [0]) rfl rfl (As := [.int (v_t_now (29 + (2 * y3)).toNatClampNeg), .int (v_t_now ((29 + (2 * y3)) + 1).toNatClampNeg)]) (rest := []) (zm9.2 _) vf_X12_126 0 0 rfl rfl hl.1 rfl rfl (Nat.le_of_ble_eq_true rfl) dX12_heard_52 ⟨Nat.le_of_ble_eq_true rfl, Nat.le_of_ble_eq_true rfl⟩ ⟨Nat.le_refl _, Nat.le_refl _⟩) (us2 := [uX12 G o_t a_t zr7, uA G 63 (a_t 0) v_t_now]) rfl (fun H locs h => ?_)
    refine lv_iload_n C.hx C.hb dX12_heard_55 rfl (lv_at hl 2 rfl) ?_
    refine lv_aload_n C.hx C.hb dX12_heard_56 rfl (lv_at hl 0 rfl) ?_
    obtain ⟨zr10, zq11, hf⟩ := bd_some hf
    have zm12 := c_X12_travel l G o_t a_t (hf := zq11)
    refine g_goI C h zm12.1 (is := [0]) rfl rfl (g_runV C h (is := [0]) rfl rfl (As := []) (rest := [.int y2]) (zm12.2 _) vf_X12_108 0 0 rfl rfl hl.1 rfl rfl (Nat.le_of_ble_eq_true rfl) dX12_heard_57 ⟨Nat.le_of_ble_eq_true rfl, Nat.le_of_ble_eq_true rfl⟩ ⟨Nat.le_refl _, Nat.le_refl _⟩) (us2 := [uX12 G o_t a_t zr7, uA G 63 (a_t 0) v_t_now]) rfl (fun H locs h => ?_)
    refine lv_iconst (v := 3) C.hx C.hb dX12_heard_60 (by decide) ?_
    refine lv_idiv C.hx C.hb dX12_heard_61 (by decide) ?_
    refine lv_iload_n C.hx C.hb dX12_heard_62 rfl (lv_at hl 1 rfl) ?_
    refine lv_icmp_ne (tgt := 72) C.hx C.hb dX12_heard_63 (by decide) (fun zc14 => ?_) (fun zc14 => ?_)
    · replace hf := it_f zc14 hf
      refine lv_iconst (v := 0) C.hx C.hb dX12_heard_72 (by decide) ?_
      refine lv_ior C.hx C.hb dX12_heard_73 ?_
      refine lv_istore_n (lv' := [(2, .int (y2 ||| 0)), (0, .ref o_t), (1, .int y1), (3, .int y3)]) C.hx C.hb dX12_heard_74 rfl hl (by decide) rfl (fun ls hl => ?_)
      refine lv_iinc (v := y3 + 1) (lv' := [(3, .int (y3 + 1)), (2, .int (y2 ||| 0)), (0, .ref o_t), (1, .int y1)]) C.hx C.hb dX12_heard_75 hl (k := 3) rfl rfl (by decide) rfl (fun ls hl => ?_)
      refine lv_goto (tgt := 19) C.hx C.hb dX12_heard_78 (by decide) ?_
      exact hg19 hf h (lv_sub hl [2, 3, 1, 0] rfl)
    · replace hf := it_t zc14 hf
      refine lv_iconst (v := 1) C.hx C.hb dX12_heard_66 (by decide) ?_
      refine lv_iload_n C.hx C.hb dX12_heard_67 rfl (lv_at hl 3 rfl) ?_
      refine lv_ishl C.hx C.hb dX12_heard_68 ?_
      refine lv_goto (tgt := 73) C.hx C.hb dX12_heard_69 (by decide) ?_
      refine lv_ior C.hx C.hb dX12_heard_73 ?_
      refine lv_istore_n (lv' := [(2, .int (y2 ||| (1 <<< (y3 &&& 31)))), (0, .ref o_t), (1, .int y1), (3, .int y3)]) C.hx C.hb dX12_heard_74 rfl hl (by decide) rfl (fun ls hl => ?_)
      refine lv_iinc (v := y3 + 1) (lv' := [(3, .int (y3 + 1)), (2, .int (y2 ||| (1 <<< (y3 &&& 31)))), (0, .ref o_t), (1, .int y1)]) C.hx C.hb dX12_heard_75 hl (k := 3) rfl rfl (by decide) rfl (fun ls hl => ?_)
      refine lv_goto (tgt := 19) C.hx C.hb dX12_heard_78 (by decide) ?_
      exact hg19 hf h (lv_sub hl [2, 3, 1, 0] rfl)
set_option maxRecDepth 100000 in
set_option maxHeartbeats 4000000 in
theorem l_X12_heard_19 {p : Program} {l : Launch} {e : Env} {s : State} {m : MethodId} {args : Array Value} {below : List Frame} {meth : Method} {c : Code} {G : GG} {A : Nat → Prop} {o_t : Nat} {a_t : Nat → Nat} {N : Nat}  {res : Int32 × US} (C : MC RX12 cX12_heard 4 (some .int) G A p s m args meth c)  : ∀ (k : Nat) {v_t : US} {v_t_now : Nat → Int32} {y1 : Int32} {y2 : Int32} {y3 : Int32}, f_X12_heard_19 N k v_t v_t_now y1 y2 y3 = some res → ∀ {H : Heap} {locs : List Loc} {ls : Array Slot}, HP G A s [uX12 G o_t a_t v_t, uA G 63 (a_t 0) v_t_now] H locs → lv_has ls 4 [(0, .ref o_t), (1, .int y1), (2, .int y2), (3, .int y3)] → W p l e (rmm 4) s m args below meth c H locs 0 0 (QI below G A args s res.1 [uX12 G o_t a_t res.2, uA G 63 (a_t 0) v_t_now]) (F0 m 19 ls []) := by
  intro k
  induction k with
  | zero => intros; contradiction
  | succ k ih =>
    intro v_t v_t_now y1 y2 y3 hf H locs ls h hl
    exact w_X12_heard_19 (N := N) C ih hf h hl
set_option maxRecDepth 100000 in
set_option maxHeartbeats 4000000 in
theorem c_X12_heard (l : Launch) (G : GG) (o_t : Nat) (a_t : Nat → Nat) (N : Nat) {v_t : US} {v_t_now : Nat → Int32} {x1 : Int32} {res : Int32 × US} (hf : f_X12_heard N v_t v_t_now x1 = some res) : MI l yX12_heard cX12_heard 4 (some .int) 4 [.ref o_t, .int x1] G [uX12 G o_t a_t v_t, uA G 63 (a_t 0) v_t_now] res.1 [uX12 G o_t a_t res.2, uA G 63 (a_t 0) v_t_now] := by
  unfold f_X12_heard at hf
  refine MI.intro (by decide) rfl (Nat.le_of_ble_eq_true rfl) (fun p e s m args below meth c A ls C h hl => ?_)
  have C : MC RX12 cX12_heard 4 (some .int) G A p s m args meth c := C
  have hl : lv_has ls 4 [(0, .ref o_t), (1, .int x1)] := hl
  refine lv_iload_n C.hx C.hb dX12_heard_0 rfl (lv_at hl 1 rfl) ?_
  refine lv_if_ge (tgt := 11) C.hx C.hb dX12_heard_1 (by decide) (fun zc1 => ?_) (fun zc1 => ?_)
  · replace hf := it_t zc1 hf
    refine lv_aload_n C.hx C.hb dX12_heard_11 rfl (lv_at hl 0 rfl) ?_
    obtain ⟨zr2, zq3, hf⟩ := bd_some hf
    have zm4 := c_X12_takeNow l G o_t a_t N (hf := zq3)
    refine g_goV C h zm4.1 (is := [0, 1]) rfl rfl (g_runV C h (is := [0, 1]) rfl rfl (As := []) (rest := []) (zm4.2 _) vf_X12_123 0 0 rfl rfl hl.1 rfl rfl (Nat.le_of_ble_eq_true rfl) dX12_heard_12 ⟨Nat.le_of_ble_eq_true rfl, Nat.le_of_ble_eq_true rfl⟩ ⟨Nat.le_refl _, Nat.le_refl _⟩) (us2 := [uX12 G o_t a_t zr2, uA G 63 (a_t 0) v_t_now]) rfl (fun H locs h => ?_)
    refine lv_iconst (v := 0) C.hx C.hb dX12_heard_15 (by decide) ?_
    refine lv_istore_n (lv' := [(2, .int 0), (0, .ref o_t), (1, .int x1)]) C.hx C.hb dX12_heard_16 rfl hl (by decide) rfl (fun ls hl => ?_)
    refine lv_iconst (v := 0) C.hx C.hb dX12_heard_17 (by decide) ?_
    refine lv_istore_n (lv' := [(3, .int 0), (2, .int 0), (0, .ref o_t), (1, .int x1)]) C.hx C.hb dX12_heard_18 rfl hl (by decide) rfl (fun ls hl => ?_)
    exact l_X12_heard_19 C N hf h (lv_sub hl [2, 3, 1, 0] rfl)
  · replace hf := it_f zc1 hf
    refine lv_aload_n C.hx C.hb dX12_heard_4 rfl (lv_at hl 0 rfl) ?_
    refine lv_bipush (v := (-2)) C.hx C.hb dX12_heard_5 (by decide) ?_
    obtain ⟨zr5, zq6, hf⟩ := bd_some hf
    have zm7 := c_X12_bad l G o_t a_t (hf := zq6)
    refine g_goI C h zm7.1 (is := [0]) rfl rfl (g_runV C h (is := [0]) rfl rfl (As := [.int (-2)]) (rest := []) (zm7.2 _) vf_X12_60 0 0 rfl rfl hl.1 rfl rfl (Nat.le_of_ble_eq_true rfl) dX12_heard_7 ⟨Nat.le_of_ble_eq_true rfl, Nat.le_of_ble_eq_true rfl⟩ ⟨Nat.le_refl _, Nat.le_refl _⟩) (us2 := [uX12 G o_t a_t zr5.2, uA G 63 (a_t 0) v_t_now]) rfl (fun H locs h => ?_)
    obtain rfl := Option.some.inj hf
    exact g_ret_i C h rfl rfl dX12_heard_10

def b_X12_image_19 (N : Nat) (g19 : US → (Nat → Int32) → Int32 → Int32 → Option (Int32 × US)) (v_t : US) (v_t_now : Nat → Int32) (y1 : Int32) (y2 : Int32) : Option (Int32 × US) :=
  if 63 ≤ y2 then (if y1 < 0 ∨ 2 ≤ y1.toNatClampNeg then none else (some (1, upa v_t 2 y1.toNatClampNeg 1))) else (if y2 < 0 ∨ 63 ≤ y2.toNatClampNeg then none else (if ((63 * y1) + y2) < 0 ∨ 126 ≤ ((63 * y1) + y2).toNatClampNeg then none else (g19 (upa v_t 1 (((63 * y1) + y2).toNatClampNeg) (v_t_now y2.toNatClampNeg)) v_t_now y1 (y2 + 1))))
def f_X12_image_19 (N : Nat)  : Nat → US → (Nat → Int32) → Int32 → Int32 → Option (Int32 × US)
  | 0 => fun _ _ _ _ => none
  | k + 1 => fun q0 q1 q2 q3 => b_X12_image_19 N  (f_X12_image_19 N  k) q0 q1 q2 q3
def f_X12_image (N : Nat) (v_t : US) (v_t_now : Nat → Int32) (x1 : Int32) : Option (Int32 × US) :=
  (f_X12_in x1.toInt64 0 1).bind fun zr1 => if (b2i zr1) = 0 then ((f_X12_bad v_t (-2)).bind fun zr5 => some (zr5.1, zr5.2)) else (f_X12_image_19 N N v_t v_t_now x1 0)
set_option maxRecDepth 100000 in
set_option maxHeartbeats 4000000 in
theorem w_X12_image_19 {p : Program} {l : Launch} {e : Env} {s : State} {m : MethodId} {args : Array Value} {below : List Frame} {meth : Method} {c : Code} {G : GG} {A : Nat → Prop} {o_t : Nat} {a_t : Nat → Nat} {N : Nat} {g19 : US → (Nat → Int32) → Int32 → Int32 → Option (Int32 × US)} {v_t : US} {v_t_now : Nat → Int32} {y1 : Int32} {y2 : Int32} {res : Int32 × US} (C : MC RX12 cX12_image 3 (some .int) G A p s m args meth c) (hg19 : ∀ {v_t : US} {v_t_now : Nat → Int32} {y1 : Int32} {y2 : Int32}, g19 v_t v_t_now y1 y2 = some res → ∀ {H : Heap} {locs : List Loc} {ls : Array Slot}, HP G A s [uX12 G o_t a_t v_t, uA G 63 (a_t 0) v_t_now] H locs → lv_has ls 3 [(0, .ref o_t), (1, .int y1), (2, .int y2)] → W p l e (rmm 2) s m args below meth c H locs 0 0 (QI below G A args s res.1 [uX12 G o_t a_t res.2, uA G 63 (a_t 0) v_t_now]) (F0 m 19 ls [])) (hf : b_X12_image_19 N g19 v_t v_t_now y1 y2 = some res) {H : Heap} {locs : List Loc} {ls : Array Slot} (h : HP G A s [uX12 G o_t a_t v_t, uA G 63 (a_t 0) v_t_now] H locs) (hl : lv_has ls 3 [(0, .ref o_t), (1, .int y1), (2, .int y2)]) : W p l e (rmm 2) s m args below meth c H locs 0 0 (QI below G A args s res.1 [uX12 G o_t a_t res.2, uA G 63 (a_t 0) v_t_now]) (F0 m 19 ls []) := by
  unfold b_X12_image_19 at hf
  refine lv_iload_n C.hx C.hb dX12_image_19 rfl (lv_at hl 2 rfl) ?_
  refine lv_bipush (v := 63) C.hx C.hb dX12_image_20 (by decide) ?_
  refine lv_icmp_ge (tgt := 48) C.hx C.hb dX12_image_22 (by decide) (fun zc1 => ?_) (fun zc1 => ?_)
  · replace hf := it_t zc1 hf
    refine lv_aload_n C.hx C.hb dX12_image_48 rfl (lv_at hl 0 rfl) ?_
    refine g_get C h fl_X12_16 0 0 rfl rfl (v := .ref (a_t 2)) rfl dX12_image_49 ?_
    refine lv_iload_n C.hx C.hb dX12_image_52 rfl (lv_at hl 1 rfl) ?_
    refine lv_iconst (v := 1) C.hx C.hb dX12_image_53 (by decide) ?_
    obtain ⟨zi2, hf⟩ := ck_some hf
    refine g_zast C h 0 2 rfl rfl (f := v_t.2.2 2) (b := true) rfl zi2 dX12_image_54 (u' := uX12 G o_t a_t (upa v_t 2 y1.toNatClampNeg 1)) (us' := [uX12 G o_t a_t (upa v_t 2 y1.toNatClampNeg 1), uA G 63 (a_t 0) v_t_now]) rfl rfl (fun H locs h => ?_)
    refine lv_iconst (v := 1) C.hx C.hb dX12_image_55 (by decide) ?_
    obtain rfl := Option.some.inj hf
    exact g_ret_i C h rfl rfl dX12_image_56
  · replace hf := it_f zc1 hf
    refine lv_aload_n C.hx C.hb dX12_image_25 rfl (lv_at hl 0 rfl) ?_
    refine g_get C h fl_X12_13 0 0 rfl rfl (v := .ref (a_t 1)) rfl dX12_image_26 ?_
    refine lv_bipush (v := 63) C.hx C.hb dX12_image_29 (by decide) ?_
    refine lv_iload_n C.hx C.hb dX12_image_31 rfl (lv_at hl 1 rfl) ?_
    refine lv_imul C.hx C.hb dX12_image_32 ?_
    refine lv_iload_n C.hx C.hb dX12_image_33 rfl (lv_at hl 2 rfl) ?_
    refine lv_iadd C.hx C.hb dX12_image_34 ?_
    refine lv_aload_n C.hx C.hb dX12_image_35 rfl (lv_at hl 0 rfl) ?_
    refine g_get C h fl_X12_7 0 0 rfl rfl (v := .ref (a_t 0)) rfl dX12_image_36 ?_
    refine lv_iload_n C.hx C.hb dX12_image_39 rfl (lv_at hl 2 rfl) ?_
    obtain ⟨zi3, hf⟩ := ck_some hf
    refine g_iald C h 1 0 rfl rfl (f := v_t_now) zi3 dX12_image_40 ?_
    obtain ⟨zi4, hf⟩ := ck_some hf
    refine g_iast C h 0 1 rfl rfl (f := v_t.2.2 1) zi4 dX12_image_41 (u' := uX12 G o_t a_t (upa v_t 1 (((63 * y1) + y2).toNatClampNeg) (v_t_now y2.toNatClampNeg))) (us' := [uX12 G o_t a_t (upa v_t 1 (((63 * y1) + y2).toNatClampNeg) (v_t_now y2.toNatClampNeg)), uA G 63 (a_t 0) v_t_now]) rfl rfl (fun H locs h => ?_)
    refine lv_iinc (v := y2 + 1) (lv' := [(2, .int (y2 + 1)), (0, .ref o_t), (1, .int y1)]) C.hx C.hb dX12_image_42 hl (k := 2) rfl rfl (by decide) rfl (fun ls hl => ?_)
    refine lv_goto (tgt := 19) C.hx C.hb dX12_image_45 (by decide) ?_
    exact hg19 hf h (lv_sub hl [1, 2, 0] rfl)
set_option maxRecDepth 100000 in
set_option maxHeartbeats 4000000 in
theorem l_X12_image_19 {p : Program} {l : Launch} {e : Env} {s : State} {m : MethodId} {args : Array Value} {below : List Frame} {meth : Method} {c : Code} {G : GG} {A : Nat → Prop} {o_t : Nat} {a_t : Nat → Nat} {N : Nat}  {res : Int32 × US} (C : MC RX12 cX12_image 3 (some .int) G A p s m args meth c)  : ∀ (k : Nat) {v_t : US} {v_t_now : Nat → Int32} {y1 : Int32} {y2 : Int32}, f_X12_image_19 N k v_t v_t_now y1 y2 = some res → ∀ {H : Heap} {locs : List Loc} {ls : Array Slot}, HP G A s [uX12 G o_t a_t v_t, uA G 63 (a_t 0) v_t_now] H locs → lv_has ls 3 [(0, .ref o_t), (1, .int y1), (2, .int y2)] → W p l e (rmm 2) s m args below meth c H locs 0 0 (QI below G A args s res.1 [uX12 G o_t a_t res.2, uA G 63 (a_t 0) v_t_now]) (F0 m 19 ls []) := by
  intro k
  induction k with
  | zero => intros; contradiction
  | succ k ih =>
    intro v_t v_t_now y1 y2 hf H locs ls h hl
    exact w_X12_image_19 (N := N) C ih hf h hl
set_option maxRecDepth 100000 in
set_option maxHeartbeats 4000000 in
theorem c_X12_image (l : Launch) (G : GG) (o_t : Nat) (a_t : Nat → Nat) (N : Nat) {v_t : US} {v_t_now : Nat → Int32} {x1 : Int32} {res : Int32 × US} (hf : f_X12_image N v_t v_t_now x1 = some res) : MI l yX12_image cX12_image 3 (some .int) 2 [.ref o_t, .int x1] G [uX12 G o_t a_t v_t, uA G 63 (a_t 0) v_t_now] res.1 [uX12 G o_t a_t res.2, uA G 63 (a_t 0) v_t_now] := by
  unfold f_X12_image at hf
  refine MI.intro (by decide) rfl (Nat.le_of_ble_eq_true rfl) (fun p e s m args below meth c A ls C h hl => ?_)
  have C : MC RX12 cX12_image 3 (some .int) G A p s m args meth c := C
  have hl : lv_has ls 3 [(0, .ref o_t), (1, .int x1)] := hl
  refine lv_iload_n C.hx C.hb dX12_image_0 rfl (lv_at hl 1 rfl) ?_
  refine lv_i2l C.hx C.hb dX12_image_1 rfl ?_
  refine lv_lconst (v := 0) C.hx C.hb dX12_image_2 (by decide) ?_
  refine lv_lconst (v := 1) C.hx C.hb dX12_image_3 (by decide) ?_
  obtain ⟨zr1, zq2, hf⟩ := bd_some hf
  have zm3 := c_X12_in l G  (hf := zq2)
  refine g_goI C h zm3.1 (is := []) rfl rfl (g_runS C h (is := []) rfl rfl (As := [.long x1.toInt64, .long 0, .long 1]) (rest := []) (zm3.2 _) sf_X12_52 hl.1 rfl rfl (Nat.le_of_ble_eq_true rfl) dX12_image_4 ⟨Nat.le_of_ble_eq_true rfl, Nat.le_of_ble_eq_true rfl⟩ ⟨Nat.le_refl _, Nat.le_refl _⟩) (us2 := [uX12 G o_t a_t v_t, uA G 63 (a_t 0) v_t_now]) rfl (fun H locs h => ?_)
  refine lv_if_ne (tgt := 17) C.hx C.hb dX12_image_7 (by decide) (fun zc4 => ?_) (fun zc4 => ?_)
  · replace hf := it_f zc4 hf
    refine lv_iconst (v := 0) C.hx C.hb dX12_image_17 (by decide) ?_
    refine lv_istore_n (lv' := [(2, .int 0), (0, .ref o_t), (1, .int x1)]) C.hx C.hb dX12_image_18 rfl hl (by decide) rfl (fun ls hl => ?_)
    exact l_X12_image_19 C N hf h (lv_sub hl [1, 2, 0] rfl)
  · replace hf := it_t zc4 hf
    refine lv_aload_n C.hx C.hb dX12_image_10 rfl (lv_at hl 0 rfl) ?_
    refine lv_bipush (v := (-2)) C.hx C.hb dX12_image_11 (by decide) ?_
    obtain ⟨zr5, zq6, hf⟩ := bd_some hf
    have zm7 := c_X12_bad l G o_t a_t (hf := zq6)
    refine g_goI C h zm7.1 (is := [0]) rfl rfl (g_runV C h (is := [0]) rfl rfl (As := [.int (-2)]) (rest := []) (zm7.2 _) vf_X12_60 0 0 rfl rfl hl.1 rfl rfl (Nat.le_of_ble_eq_true rfl) dX12_image_13 ⟨Nat.le_of_ble_eq_true rfl, Nat.le_of_ble_eq_true rfl⟩ ⟨Nat.le_refl _, Nat.le_refl _⟩) (us2 := [uX12 G o_t a_t zr5.2, uA G 63 (a_t 0) v_t_now]) rfl (fun H locs h => ?_)
    obtain rfl := Option.some.inj hf
    exact g_ret_i C h rfl rfl dX12_image_16

def b_X12_isWord_135 (N : Nat) (g58 : US → Int32 → Int32 → Int32 → Int32 → Int32 → Int32 → Int32 → Bool → Int32 → Option (Bool)) (v_t : US) (y1 : Int32) (y2 : Int32) (y3 : Int32) (y4 : Int32) (y5 : Int32) (y6 : Int32) (y7 : Int32) (y9 : Int32) (s0 : Int32) (s1 : Int32) : Option (Bool) :=
  if s1 = s0 then (g58 v_t y1 y2 y3 y4 y5 y6 y7 true (y9 + 1)) else (g58 v_t y1 y2 y3 y4 y5 y6 y7 false (y9 + 1))
def b_X12_isWord_58 (N : Nat) (g58 : US → Int32 → Int32 → Int32 → Int32 → Int32 → Int32 → Int32 → Bool → Int32 → Option (Bool)) (v_t : US) (y1 : Int32) (y2 : Int32) (y3 : Int32) (y4 : Int32) (y5 : Int32) (y6 : Int32) (y7 : Int32) (y8 : Bool) (y9 : Int32) : Option (Bool) :=
  if y7 ≤ y9 then (some (y8)) else (if (b2i y8) = 0 then (some (y8)) else (if ((v_t.1 18) + y9) < 0 ∨ 200 ≤ ((v_t.1 18) + y9).toNatClampNeg then none else (if y9 = 0 then (b_X12_isWord_135 N g58 v_t y1 y2 y3 y4 y5 y6 y7 y9 y1 ((v_t.2.2 16) ((v_t.1 18) + y9).toNatClampNeg)) else (if y9 = 1 then (b_X12_isWord_135 N g58 v_t y1 y2 y3 y4 y5 y6 y7 y9 y2 ((v_t.2.2 16) ((v_t.1 18) + y9).toNatClampNeg)) else (if y9 = 2 then (b_X12_isWord_135 N g58 v_t y1 y2 y3 y4 y5 y6 y7 y9 y3 ((v_t.2.2 16) ((v_t.1 18) + y9).toNatClampNeg)) else (if y9 = 3 then (b_X12_isWord_135 N g58 v_t y1 y2 y3 y4 y5 y6 y7 y9 y4 ((v_t.2.2 16) ((v_t.1 18) + y9).toNatClampNeg)) else (if y9 = 4 then (b_X12_isWord_135 N g58 v_t y1 y2 y3 y4 y5 y6 y7 y9 y5 ((v_t.2.2 16) ((v_t.1 18) + y9).toNatClampNeg)) else (b_X12_isWord_135 N g58 v_t y1 y2 y3 y4 y5 y6 y7 y9 y6 ((v_t.2.2 16) ((v_t.1 18) + y9).toNatClampNeg)))))))))
def f_X12_isWord_58 (N : Nat)  : Nat → US → Int32 → Int32 → Int32 → Int32 → Int32 → Int32 → Int32 → Bool → Int32 → Option (Bool)
  | 0 => fun _ _ _ _ _ _ _ _ _ _ => none
  | k + 1 => fun q0 q1 q2 q3 q4 q5 q6 q7 q8 q9 => b_X12_isWord_58 N  (f_X12_isWord_58 N  k) q0 q1 q2 q3 q4 q5 q6 q7 q8 q9
def b_X12_isWord_29 (N : Nat)  (v_t : US) (y1 : Int32) (y2 : Int32) (y3 : Int32) (y4 : Int32) (y5 : Int32) (y6 : Int32) (s0 : Int32) : Option (Bool) :=
  if (v_t.1 20) = 1 then (if (v_t.1 19) = s0 then (f_X12_isWord_58 N N v_t y1 y2 y3 y4 y5 y6 s0 true 0) else (f_X12_isWord_58 N N v_t y1 y2 y3 y4 y5 y6 s0 false 0)) else (f_X12_isWord_58 N N v_t y1 y2 y3 y4 y5 y6 s0 false 0)
def f_X12_isWord (N : Nat) (v_t : US) (x1 : Int32) (x2 : Int32) (x3 : Int32) (x4 : Int32) (x5 : Int32) (x6 : Int32) : Option (Bool) :=
  if x4 = 0 then (b_X12_isWord_29 N v_t x1 x2 x3 x4 x5 x6 3) else (if x5 = 0 then (b_X12_isWord_29 N v_t x1 x2 x3 x4 x5 x6 4) else (if x6 = 0 then (b_X12_isWord_29 N v_t x1 x2 x3 x4 x5 x6 5) else (b_X12_isWord_29 N v_t x1 x2 x3 x4 x5 x6 6)))
set_option maxRecDepth 100000 in
set_option maxHeartbeats 4000000 in
theorem w_X12_isWord_135 {p : Program} {l : Launch} {e : Env} {s : State} {m : MethodId} {args : Array Value} {below : List Frame} {meth : Method} {c : Code} {G : GG} {A : Nat → Prop} {o_t : Nat} {a_t : Nat → Nat} {N : Nat} {g58 : US → Int32 → Int32 → Int32 → Int32 → Int32 → Int32 → Int32 → Bool → Int32 → Option (Bool)} {v_t : US} {y1 : Int32} {y2 : Int32} {y3 : Int32} {y4 : Int32} {y5 : Int32} {y6 : Int32} {y7 : Int32} {y9 : Int32} {s0 : Int32} {s1 : Int32} {res : Bool} (C : MC RX12 cX12_isWord 10 (some .boolean) G A p s m args meth c) (hg58 : ∀ {v_t : US} {y1 : Int32} {y2 : Int32} {y3 : Int32} {y4 : Int32} {y5 : Int32} {y6 : Int32} {y7 : Int32} {y8 : Bool} {y9 : Int32}, g58 v_t y1 y2 y3 y4 y5 y6 y7 y8 y9 = some res → ∀ {H : Heap} {locs : List Loc} {ls : Array Slot}, HP G A s [uX12 G o_t a_t v_t] H locs → lv_has ls 10 [(0, .ref o_t), (1, .int y1), (2, .int y2), (3, .int y3), (4, .int y4), (5, .int y5), (6, .int y6), (7, .int y7), (8, .int (b2i y8)), (9, .int y9)] → W p l e (rmm 1) s m args below meth c H locs 0 0 (QI below G A args s (b2i res) [uX12 G o_t a_t v_t]) (F0 m 58 ls [])) (hf : b_X12_isWord_135 N g58 v_t y1 y2 y3 y4 y5 y6 y7 y9 s0 s1 = some res) {H : Heap} {locs : List Loc} {ls : Array Slot} (h : HP G A s [uX12 G o_t a_t v_t] H locs) (hl : lv_has ls 10 [(0, .ref o_t), (1, .int y1), (2, .int y2), (3, .int y3), (4, .int y4), (5, .int y5), (6, .int y6), (7, .int y7), (9, .int y9)]) : W p l e (rmm 1) s m args below meth c H locs 0 0 (QI below G A args s (b2i res) [uX12 G o_t a_t v_t]) (F0 m 135 ls [.int s0, .int s1]) := by
  unfold b_X12_isWord_135 at hf
  refine lv_icmp_ne (tgt := 142) C.hx C.hb dX12_isWord_135 (by decide) (fun zc1 => ?_) (fun zc1 => ?_)
  · replace hf := it_f zc1 hf
    refine lv_iconst (v := 0) C.hx C.hb dX12_isWord_142 (by decide) ?_
    refine lv_istore (lv' := [(8, .int 0), (0, .ref o_t), (1, .int y1), (2, .int y2), (3, .int y3), (4, .int y4), (5, .int y5), (6, .int y6), (7, .int y7), (9, .int y9)]) C.hx C.hb dX12_isWord_143 hl (by decide) rfl (fun ls hl => ?_)
    refine lv_iinc (v := y9 + 1) (lv' := [(9, .int (y9 + 1)), (8, .int 0), (0, .ref o_t), (1, .int y1), (2, .int y2), (3, .int y3), (4, .int y4), (5, .int y5), (6, .int y6), (7, .int y7)]) C.hx C.hb dX12_isWord_145 hl (k := 9) rfl rfl (by decide) rfl (fun ls hl => ?_)
    refine lv_goto (tgt := 58) C.hx C.hb dX12_isWord_148 (by decide) ?_
    exact hg58 hf h (lv_sub hl [2, 3, 4, 5, 6, 7, 8, 9, 1, 0] rfl)
  · replace hf := it_t zc1 hf
    refine lv_iconst (v := 1) C.hx C.hb dX12_isWord_138 (by decide) ?_
    refine lv_goto (tgt := 143) C.hx C.hb dX12_isWord_139 (by decide) ?_
    refine lv_istore (lv' := [(8, .int 1), (0, .ref o_t), (1, .int y1), (2, .int y2), (3, .int y3), (4, .int y4), (5, .int y5), (6, .int y6), (7, .int y7), (9, .int y9)]) C.hx C.hb dX12_isWord_143 hl (by decide) rfl (fun ls hl => ?_)
    refine lv_iinc (v := y9 + 1) (lv' := [(9, .int (y9 + 1)), (8, .int 1), (0, .ref o_t), (1, .int y1), (2, .int y2), (3, .int y3), (4, .int y4), (5, .int y5), (6, .int y6), (7, .int y7)]) C.hx C.hb dX12_isWord_145 hl (k := 9) rfl rfl (by decide) rfl (fun ls hl => ?_)
    refine lv_goto (tgt := 58) C.hx C.hb dX12_isWord_148 (by decide) ?_
    exact hg58 hf h (lv_sub hl [2, 3, 4, 5, 6, 7, 8, 9, 1, 0] rfl)
set_option maxRecDepth 100000 in
set_option maxHeartbeats 4000000 in
theorem w_X12_isWord_58 {p : Program} {l : Launch} {e : Env} {s : State} {m : MethodId} {args : Array Value} {below : List Frame} {meth : Method} {c : Code} {G : GG} {A : Nat → Prop} {o_t : Nat} {a_t : Nat → Nat} {N : Nat} {g58 : US → Int32 → Int32 → Int32 → Int32 → Int32 → Int32 → Int32 → Bool → Int32 → Option (Bool)} {v_t : US} {y1 : Int32} {y2 : Int32} {y3 : Int32} {y4 : Int32} {y5 : Int32} {y6 : Int32} {y7 : Int32} {y8 : Bool} {y9 : Int32} {res : Bool} (C : MC RX12 cX12_isWord 10 (some .boolean) G A p s m args meth c) (hg58 : ∀ {v_t : US} {y1 : Int32} {y2 : Int32} {y3 : Int32} {y4 : Int32} {y5 : Int32} {y6 : Int32} {y7 : Int32} {y8 : Bool} {y9 : Int32}, g58 v_t y1 y2 y3 y4 y5 y6 y7 y8 y9 = some res → ∀ {H : Heap} {locs : List Loc} {ls : Array Slot}, HP G A s [uX12 G o_t a_t v_t] H locs → lv_has ls 10 [(0, .ref o_t), (1, .int y1), (2, .int y2), (3, .int y3), (4, .int y4), (5, .int y5), (6, .int y6), (7, .int y7), (8, .int (b2i y8)), (9, .int y9)] → W p l e (rmm 1) s m args below meth c H locs 0 0 (QI below G A args s (b2i res) [uX12 G o_t a_t v_t]) (F0 m 58 ls [])) (hf : b_X12_isWord_58 N g58 v_t y1 y2 y3 y4 y5 y6 y7 y8 y9 = some res) {H : Heap} {locs : List Loc} {ls : Array Slot} (h : HP G A s [uX12 G o_t a_t v_t] H locs) (hl : lv_has ls 10 [(0, .ref o_t), (1, .int y1), (2, .int y2), (3, .int y3), (4, .int y4), (5, .int y5), (6, .int y6), (7, .int y7), (8, .int (b2i y8)), (9, .int y9)]) : W p l e (rmm 1) s m args below meth c H locs 0 0 (QI below G A args s (b2i res) [uX12 G o_t a_t v_t]) (F0 m 58 ls []) := by
  unfold b_X12_isWord_58 at hf
  refine lv_iload C.hx C.hb dX12_isWord_58 (lv_at hl 9 rfl) ?_
  refine lv_iload C.hx C.hb dX12_isWord_60 (lv_at hl 7 rfl) ?_
  refine lv_icmp_ge (tgt := 151) C.hx C.hb dX12_isWord_62 (by decide) (fun zc1 => ?_) (fun zc1 => ?_)
  · replace hf := it_t zc1 hf
    refine lv_iload C.hx C.hb dX12_isWord_151 (lv_at hl 8 rfl) ?_
    obtain rfl := Option.some.inj hf
    exact g_ret_z (b := _) C h rfl rfl rfl dX12_isWord_153
  · replace hf := it_f zc1 hf
    refine lv_iload C.hx C.hb dX12_isWord_65 (lv_at hl 8 rfl) ?_
    refine lv_if_eq (tgt := 151) C.hx C.hb dX12_isWord_67 (by decide) (fun zc2 => ?_) (fun zc2 => ?_)
    · replace hf := it_t zc2 hf
      refine lv_iload C.hx C.hb dX12_isWord_151 (lv_at hl 8 rfl) ?_
      obtain rfl := Option.some.inj hf
      exact g_ret_z (b := _) C h rfl rfl rfl dX12_isWord_153
    · replace hf := it_f zc2 hf
      refine lv_aload_n C.hx C.hb dX12_isWord_70 rfl (lv_at hl 0 rfl) ?_
      refine g_get C h fl_X12_39 0 0 rfl rfl (v := .ref (a_t 16)) rfl dX12_isWord_71 ?_
      refine lv_aload_n C.hx C.hb dX12_isWord_74 rfl (lv_at hl 0 rfl) ?_
      refine g_get C h fl_X12_201 0 0 rfl rfl (v := .int (v_t.1 18)) rfl dX12_isWord_75 ?_
      refine lv_iload C.hx C.hb dX12_isWord_78 (lv_at hl 9 rfl) ?_
      refine lv_iadd C.hx C.hb dX12_isWord_80 ?_
      obtain ⟨zi3, hf⟩ := ck_some hf
      refine g_iald C h 0 8 rfl rfl (f := v_t.2.2 16) zi3 dX12_isWord_81 ?_
      refine lv_iload C.hx C.hb dX12_isWord_82 (lv_at hl 9 rfl) ?_
      refine lv_if_ne (tgt := 91) C.hx C.hb dX12_isWord_84 (by decide) (fun zc4 => ?_) (fun zc4 => ?_)
      · replace hf := it_f zc4 hf
        refine lv_iload C.hx C.hb dX12_isWord_91 (lv_at hl 9 rfl) ?_
        refine lv_iconst (v := 1) C.hx C.hb dX12_isWord_93 (by decide) ?_
        refine lv_icmp_ne (tgt := 101) C.hx C.hb dX12_isWord_94 (by decide) (fun zc5 => ?_) (fun zc5 => ?_)
        · replace hf := it_f zc5 hf
          refine lv_iload C.hx C.hb dX12_isWord_101 (lv_at hl 9 rfl) ?_
          refine lv_iconst (v := 2) C.hx C.hb dX12_isWord_103 (by decide) ?_
          refine lv_icmp_ne (tgt := 111) C.hx C.hb dX12_isWord_104 (by decide) (fun zc6 => ?_) (fun zc6 => ?_)
          · replace hf := it_f zc6 hf
            refine lv_iload C.hx C.hb dX12_isWord_111 (lv_at hl 9 rfl) ?_
            refine lv_iconst (v := 3) C.hx C.hb dX12_isWord_113 (by decide) ?_
            refine lv_icmp_ne (tgt := 122) C.hx C.hb dX12_isWord_114 (by decide) (fun zc7 => ?_) (fun zc7 => ?_)
            · replace hf := it_f zc7 hf
              refine lv_iload C.hx C.hb dX12_isWord_122 (lv_at hl 9 rfl) ?_
              refine lv_iconst (v := 4) C.hx C.hb dX12_isWord_124 (by decide) ?_
              refine lv_icmp_ne (tgt := 133) C.hx C.hb dX12_isWord_125 (by decide) (fun zc8 => ?_) (fun zc8 => ?_)
              · replace hf := it_f zc8 hf
                refine lv_iload C.hx C.hb dX12_isWord_133 (lv_at hl 6 rfl) ?_
                exact w_X12_isWord_135 C hg58 hf h (lv_sub hl [0, 1, 2, 3, 4, 5, 6, 7, 9] rfl)
              · replace hf := it_t zc8 hf
                refine lv_iload C.hx C.hb dX12_isWord_128 (lv_at hl 5 rfl) ?_
                refine lv_goto (tgt := 135) C.hx C.hb dX12_isWord_130 (by decide) ?_
                exact w_X12_isWord_135 C hg58 hf h (lv_sub hl [0, 1, 2, 3, 4, 5, 6, 7, 9] rfl)
            · replace hf := it_t zc7 hf
              refine lv_iload C.hx C.hb dX12_isWord_117 (lv_at hl 4 rfl) ?_
              refine lv_goto (tgt := 135) C.hx C.hb dX12_isWord_119 (by decide) ?_
              exact w_X12_isWord_135 C hg58 hf h (lv_sub hl [0, 1, 2, 3, 4, 5, 6, 7, 9] rfl)
          · replace hf := it_t zc6 hf
            refine lv_iload_n C.hx C.hb dX12_isWord_107 rfl (lv_at hl 3 rfl) ?_
            refine lv_goto (tgt := 135) C.hx C.hb dX12_isWord_108 (by decide) ?_
            exact w_X12_isWord_135 C hg58 hf h (lv_sub hl [0, 1, 2, 3, 4, 5, 6, 7, 9] rfl)
        · replace hf := it_t zc5 hf
          refine lv_iload_n C.hx C.hb dX12_isWord_97 rfl (lv_at hl 2 rfl) ?_
          refine lv_goto (tgt := 135) C.hx C.hb dX12_isWord_98 (by decide) ?_
          exact w_X12_isWord_135 C hg58 hf h (lv_sub hl [0, 1, 2, 3, 4, 5, 6, 7, 9] rfl)
      · replace hf := it_t zc4 hf
        refine lv_iload_n C.hx C.hb dX12_isWord_87 rfl (lv_at hl 1 rfl) ?_
        refine lv_goto (tgt := 135) C.hx C.hb dX12_isWord_88 (by decide) ?_
        exact w_X12_isWord_135 C hg58 hf h (lv_sub hl [0, 1, 2, 3, 4, 5, 6, 7, 9] rfl)
set_option maxRecDepth 100000 in
set_option maxHeartbeats 4000000 in
theorem l_X12_isWord_58 {p : Program} {l : Launch} {e : Env} {s : State} {m : MethodId} {args : Array Value} {below : List Frame} {meth : Method} {c : Code} {G : GG} {A : Nat → Prop} {o_t : Nat} {a_t : Nat → Nat} {N : Nat}  {res : Bool} (C : MC RX12 cX12_isWord 10 (some .boolean) G A p s m args meth c)  : ∀ (k : Nat) {v_t : US} {y1 : Int32} {y2 : Int32} {y3 : Int32} {y4 : Int32} {y5 : Int32} {y6 : Int32} {y7 : Int32} {y8 : Bool} {y9 : Int32}, f_X12_isWord_58 N k v_t y1 y2 y3 y4 y5 y6 y7 y8 y9 = some res → ∀ {H : Heap} {locs : List Loc} {ls : Array Slot}, HP G A s [uX12 G o_t a_t v_t] H locs → lv_has ls 10 [(0, .ref o_t), (1, .int y1), (2, .int y2), (3, .int y3), (4, .int y4), (5, .int y5), (6, .int y6), (7, .int y7), (8, .int (b2i y8)), (9, .int y9)] → W p l e (rmm 1) s m args below meth c H locs 0 0 (QI below G A args s (b2i res) [uX12 G o_t a_t v_t]) (F0 m 58 ls []) := by
  intro k
  induction k with
  | zero => intros; contradiction
  | succ k ih =>
    intro v_t y1 y2 y3 y4 y5 y6 y7 y8 y9 hf H locs ls h hl
    exact w_X12_isWord_58 (N := N) C ih hf h hl
set_option maxRecDepth 100000 in
set_option maxHeartbeats 4000000 in
theorem w_X12_isWord_29 {p : Program} {l : Launch} {e : Env} {s : State} {m : MethodId} {args : Array Value} {below : List Frame} {meth : Method} {c : Code} {G : GG} {A : Nat → Prop} {o_t : Nat} {a_t : Nat → Nat} {N : Nat}  {v_t : US} {y1 : Int32} {y2 : Int32} {y3 : Int32} {y4 : Int32} {y5 : Int32} {y6 : Int32} {s0 : Int32} {res : Bool} (C : MC RX12 cX12_isWord 10 (some .boolean) G A p s m args meth c)  (hf : b_X12_isWord_29 N v_t y1 y2 y3 y4 y5 y6 s0 = some res) {H : Heap} {locs : List Loc} {ls : Array Slot} (h : HP G A s [uX12 G o_t a_t v_t] H locs) (hl : lv_has ls 10 [(0, .ref o_t), (1, .int y1), (2, .int y2), (3, .int y3), (4, .int y4), (5, .int y5), (6, .int y6)]) : W p l e (rmm 1) s m args below meth c H locs 0 0 (QI below G A args s (b2i res) [uX12 G o_t a_t v_t]) (F0 m 29 ls [.int s0]) := by
  unfold b_X12_isWord_29 at hf
  refine lv_istore (lv' := [(7, .int s0), (0, .ref o_t), (1, .int y1), (2, .int y2), (3, .int y3), (4, .int y4), (5, .int y5), (6, .int y6)]) C.hx C.hb dX12_isWord_29 hl (by decide) rfl (fun ls hl => ?_)
  refine lv_aload_n C.hx C.hb dX12_isWord_31 rfl (lv_at hl 1 rfl) ?_
  refine g_get C h fl_X12_207 0 0 rfl rfl (v := .int (v_t.1 20)) rfl dX12_isWord_32 ?_
  refine lv_iconst (v := 1) C.hx C.hb dX12_isWord_35 (by decide) ?_
  refine lv_icmp_ne (tgt := 52) C.hx C.hb dX12_isWord_36 (by decide) (fun zc1 => ?_) (fun zc1 => ?_)
  · replace hf := it_f zc1 hf
    refine lv_iconst (v := 0) C.hx C.hb dX12_isWord_52 (by decide) ?_
    refine lv_istore (lv' := [(8, .int 0), (7, .int s0), (0, .ref o_t), (1, .int y1), (2, .int y2), (3, .int y3), (4, .int y4), (5, .int y5), (6, .int y6)]) C.hx C.hb dX12_isWord_53 hl (by decide) rfl (fun ls hl => ?_)
    refine lv_iconst (v := 0) C.hx C.hb dX12_isWord_55 (by decide) ?_
    refine lv_istore (lv' := [(9, .int 0), (8, .int 0), (7, .int s0), (0, .ref o_t), (1, .int y1), (2, .int y2), (3, .int y3), (4, .int y4), (5, .int y5), (6, .int y6)]) C.hx C.hb dX12_isWord_56 hl (by decide) rfl (fun ls hl => ?_)
    exact l_X12_isWord_58 C N hf h (lv_sub hl [3, 4, 5, 6, 7, 8, 9, 2, 1, 0] rfl)
  · replace hf := it_t zc1 hf
    refine lv_aload_n C.hx C.hb dX12_isWord_39 rfl (lv_at hl 1 rfl) ?_
    refine g_get C h fl_X12_204 0 0 rfl rfl (v := .int (v_t.1 19)) rfl dX12_isWord_40 ?_
    refine lv_iload C.hx C.hb dX12_isWord_43 (lv_at hl 0 rfl) ?_
    refine lv_icmp_ne (tgt := 52) C.hx C.hb dX12_isWord_45 (by decide) (fun zc2 => ?_) (fun zc2 => ?_)
    · replace hf := it_f zc2 hf
      refine lv_iconst (v := 0) C.hx C.hb dX12_isWord_52 (by decide) ?_
      refine lv_istore (lv' := [(8, .int 0), (7, .int s0), (0, .ref o_t), (1, .int y1), (2, .int y2), (3, .int y3), (4, .int y4), (5, .int y5), (6, .int y6)]) C.hx C.hb dX12_isWord_53 hl (by decide) rfl (fun ls hl => ?_)
      refine lv_iconst (v := 0) C.hx C.hb dX12_isWord_55 (by decide) ?_
      refine lv_istore (lv' := [(9, .int 0), (8, .int 0), (7, .int s0), (0, .ref o_t), (1, .int y1), (2, .int y2), (3, .int y3), (4, .int y4), (5, .int y5), (6, .int y6)]) C.hx C.hb dX12_isWord_56 hl (by decide) rfl (fun ls hl => ?_)
      exact l_X12_isWord_58 C N hf h (lv_sub hl [3, 4, 5, 6, 7, 8, 9, 2, 1, 0] rfl)
    · replace hf := it_t zc2 hf
      refine lv_iconst (v := 1) C.hx C.hb dX12_isWord_48 (by decide) ?_
      refine lv_goto (tgt := 53) C.hx C.hb dX12_isWord_49 (by decide) ?_
      refine lv_istore (lv' := [(8, .int 1), (7, .int s0), (0, .ref o_t), (1, .int y1), (2, .int y2), (3, .int y3), (4, .int y4), (5, .int y5), (6, .int y6)]) C.hx C.hb dX12_isWord_53 hl (by decide) rfl (fun ls hl => ?_)
      refine lv_iconst (v := 0) C.hx C.hb dX12_isWord_55 (by decide) ?_
      refine lv_istore (lv' := [(9, .int 0), (8, .int 1), (7, .int s0), (0, .ref o_t), (1, .int y1), (2, .int y2), (3, .int y3), (4, .int y4), (5, .int y5), (6, .int y6)]) C.hx C.hb dX12_isWord_56 hl (by decide) rfl (fun ls hl => ?_)
      exact l_X12_isWord_58 C N hf h (lv_sub hl [3, 4, 5, 6, 7, 8, 9, 2, 1, 0] rfl)
set_option maxRecDepth 100000 in
set_option maxHeartbeats 4000000 in
theorem c_X12_isWord (l : Launch) (G : GG) (o_t : Nat) (a_t : Nat → Nat) (N : Nat) {v_t : US} {x1 : Int32} {x2 : Int32} {x3 : Int32} {x4 : Int32} {x5 : Int32} {x6 : Int32} {res : Bool} (hf : f_X12_isWord N v_t x1 x2 x3 x4 x5 x6 = some res) : MI l yX12_isWord cX12_isWord 10 (some .boolean) 1 [.ref o_t, .int x1, .int x2, .int x3, .int x4, .int x5, .int x6] G [uX12 G o_t a_t v_t] (b2i res) [uX12 G o_t a_t v_t] := by
  unfold f_X12_isWord at hf
  refine MI.intro (by decide) rfl (Nat.le_of_ble_eq_true rfl) (fun p e s m args below meth c A ls C h hl => ?_)
  have C : MC RX12 cX12_isWord 10 (some .boolean) G A p s m args meth c := C
  have hl : lv_has ls 10 [(0, .ref o_t), (1, .int x1), (2, .int x2), (3, .int x3), (4, .int x4), (5, .int x5), (6, .int x6)] := hl
  refine lv_iload C.hx C.hb dX12_isWord_0 (lv_at hl 4 rfl) ?_
  refine lv_if_ne (tgt := 9) C.hx C.hb dX12_isWord_2 (by decide) (fun zc1 => ?_) (fun zc1 => ?_)
  · replace hf := it_f zc1 hf
    refine lv_iload C.hx C.hb dX12_isWord_9 (lv_at hl 5 rfl) ?_
    refine lv_if_ne (tgt := 18) C.hx C.hb dX12_isWord_11 (by decide) (fun zc2 => ?_) (fun zc2 => ?_)
    · replace hf := it_f zc2 hf
      refine lv_iload C.hx C.hb dX12_isWord_18 (lv_at hl 6 rfl) ?_
      refine lv_if_ne (tgt := 27) C.hx C.hb dX12_isWord_20 (by decide) (fun zc3 => ?_) (fun zc3 => ?_)
      · replace hf := it_f zc3 hf
        refine lv_bipush (v := 6) C.hx C.hb dX12_isWord_27 (by decide) ?_
        exact w_X12_isWord_29 C  hf h (lv_sub hl [0, 1, 2, 3, 4, 5, 6] rfl)
      · replace hf := it_t zc3 hf
        refine lv_iconst (v := 5) C.hx C.hb dX12_isWord_23 (by decide) ?_
        refine lv_goto (tgt := 29) C.hx C.hb dX12_isWord_24 (by decide) ?_
        exact w_X12_isWord_29 C  hf h (lv_sub hl [0, 1, 2, 3, 4, 5, 6] rfl)
    · replace hf := it_t zc2 hf
      refine lv_iconst (v := 4) C.hx C.hb dX12_isWord_14 (by decide) ?_
      refine lv_goto (tgt := 29) C.hx C.hb dX12_isWord_15 (by decide) ?_
      exact w_X12_isWord_29 C  hf h (lv_sub hl [0, 1, 2, 3, 4, 5, 6] rfl)
  · replace hf := it_t zc1 hf
    refine lv_iconst (v := 3) C.hx C.hb dX12_isWord_5 (by decide) ?_
    refine lv_goto (tgt := 29) C.hx C.hb dX12_isWord_6 (by decide) ?_
    exact w_X12_isWord_29 C  hf h (lv_sub hl [0, 1, 2, 3, 4, 5, 6] rfl)

def b_X12_layOrder_12 (N : Nat) (g12 : US → (Nat → Int32) → Int32 → Int32 → Int32 → Option (Bool × US)) (v_t : US) (v_t_now : Nat → Int32) (y2 : Int32) (y3 : Int32) (y4 : Int32) : Option (Bool × US) :=
  if y4 < 0 then ((f_X12_bits N y3).bind fun zr2 => (f_X12_errands v_t v_t_now).bind fun zr5 => if zr2 = zr5 then (some (true, v_t)) else (some (false, v_t))) else ((f_X12_errands v_t v_t_now).bind fun zr9 => if zr9 = 0 then none else (if y4 < 0 ∨ 5 ≤ y4.toNatClampNeg then none else (if y4 < 0 ∨ 5 ≤ y4.toNatClampNeg then none else ((f_X12_errands (upa v_t 12 y4.toNatClampNeg (y2 - y2 / zr9 * zr9)) v_t_now).bind fun zr15 => if zr15 = 0 then none else (g12 (upa v_t 12 y4.toNatClampNeg (y2 - y2 / zr9 * zr9)) v_t_now (y2 / zr15) (y3 ||| (1 <<< (((upd (v_t.2.2 12) y4.toNatClampNeg (y2 - y2 / zr9 * zr9)) y4.toNatClampNeg) &&& 31))) (y4 + (-1)))))))
def f_X12_layOrder_12 (N : Nat)  : Nat → US → (Nat → Int32) → Int32 → Int32 → Int32 → Option (Bool × US)
  | 0 => fun _ _ _ _ _ => none
  | k + 1 => fun q0 q1 q2 q3 q4 => b_X12_layOrder_12 N  (f_X12_layOrder_12 N  k) q0 q1 q2 q3 q4
def f_X12_layOrder (N : Nat) (v_t : US) (v_t_now : Nat → Int32) (x1 : Int32) : Option (Bool × US) :=
  (f_X12_errands v_t v_t_now).bind fun zr1 => f_X12_layOrder_12 N N v_t v_t_now x1 0 (zr1 - 1)
set_option maxRecDepth 100000 in
set_option maxHeartbeats 4000000 in
theorem w_X12_layOrder_12 {p : Program} {l : Launch} {e : Env} {s : State} {m : MethodId} {args : Array Value} {below : List Frame} {meth : Method} {c : Code} {G : GG} {A : Nat → Prop} {o_t : Nat} {a_t : Nat → Nat} {N : Nat} {g12 : US → (Nat → Int32) → Int32 → Int32 → Int32 → Option (Bool × US)} {v_t : US} {v_t_now : Nat → Int32} {y2 : Int32} {y3 : Int32} {y4 : Int32} {res : Bool × US} (C : MC RX12 cX12_layOrder 5 (some .boolean) G A p s m args meth c) (hg12 : ∀ {v_t : US} {v_t_now : Nat → Int32} {y2 : Int32} {y3 : Int32} {y4 : Int32}, g12 v_t v_t_now y2 y3 y4 = some res → ∀ {H : Heap} {locs : List Loc} {ls : Array Slot}, HP G A s [uX12 G o_t a_t v_t, uA G 63 (a_t 0) v_t_now] H locs → lv_has ls 5 [(0, .ref o_t), (2, .int y2), (3, .int y3), (4, .int y4)] → W p l e (rmm 2) s m args below meth c H locs 0 0 (QI below G A args s (b2i res.1) [uX12 G o_t a_t res.2, uA G 63 (a_t 0) v_t_now]) (F0 m 12 ls [])) (hf : b_X12_layOrder_12 N g12 v_t v_t_now y2 y3 y4 = some res) {H : Heap} {locs : List Loc} {ls : Array Slot} (h : HP G A s [uX12 G o_t a_t v_t, uA G 63 (a_t 0) v_t_now] H locs) (hl : lv_has ls 5 [(0, .ref o_t), (2, .int y2), (3, .int y3), (4, .int y4)]) : W p l e (rmm 2) s m args below meth c H locs 0 0 (QI below G A args s (b2i res.1) [uX12 G o_t a_t res.2, uA G 63 (a_t 0) v_t_now]) (F0 m 12 ls []) := by
  unfold b_X12_layOrder_12 at hf
  refine lv_iload C.hx C.hb dX12_layOrder_12 (lv_at hl 3 rfl) ?_
  refine lv_if_lt (tgt := 55) C.hx C.hb dX12_layOrder_14 (by decide) (fun zc1 => ?_) (fun zc1 => ?_)
  · replace hf := it_t zc1 hf
    refine lv_iload_n C.hx C.hb dX12_layOrder_55 rfl (lv_at hl 2 rfl) ?_
    obtain ⟨zr2, zq3, hf⟩ := bd_some hf
    have zm4 := c_X12_bits l G N (hf := zq3)
    refine g_goI C h zm4.1 (is := []) rfl rfl (g_runS C h (is := []) rfl rfl (As := [.int y3]) (rest := []) (zm4.2 _) sf_X12_136 hl.1 rfl rfl (Nat.le_of_ble_eq_true rfl) dX12_layOrder_56 ⟨Nat.le_of_ble_eq_true rfl, Nat.le_of_ble_eq_true rfl⟩ ⟨Nat.le_refl _, Nat.le_refl _⟩) (us2 := [uX12 G o_t a_t v_t, uA G 63 (a_t 0) v_t_now]) rfl (fun H locs h => ?_)
    refine lv_aload_n C.hx C.hb dX12_layOrder_59 rfl (lv_at hl 0 rfl) ?_
    obtain ⟨zr5, zq6, hf⟩ := bd_some hf
    have zm7 := c_X12_errands l G o_t a_t (hf := zq6)
    refine g_goI C h zm7.1 (is := [0, 1]) rfl rfl (g_runV C h (is := [0, 1]) rfl rfl (As := []) (rest := [.int zr2]) (zm7.2 _) vf_X12_133 0 0 rfl rfl hl.1 rfl rfl (Nat.le_of_ble_eq_true rfl) dX12_layOrder_60 ⟨Nat.le_of_ble_eq_true rfl, Nat.le_of_ble_eq_true rfl⟩ ⟨Nat.le_refl _, Nat.le_refl _⟩) (us2 := [uX12 G o_t a_t v_t, uA G 63 (a_t 0) v_t_now]) rfl (fun H locs h => ?_)
    refine lv_icmp_ne (tgt := 70) C.hx C.hb dX12_layOrder_63 (by decide) (fun zc8 => ?_) (fun zc8 => ?_)
    · replace hf := it_f zc8 hf
      refine lv_iconst (v := 0) C.hx C.hb dX12_layOrder_70 (by decide) ?_
      obtain rfl := Option.some.inj hf
      exact g_ret_z (b := false) C h rfl rfl rfl dX12_layOrder_71
    · replace hf := it_t zc8 hf
      refine lv_iconst (v := 1) C.hx C.hb dX12_layOrder_66 (by decide) ?_
      refine lv_goto (tgt := 71) C.hx C.hb dX12_layOrder_67 (by decide) ?_
      obtain rfl := Option.some.inj hf
      exact g_ret_z (b := true) C h rfl rfl rfl dX12_layOrder_71
  · replace hf := it_f zc1 hf
    refine lv_aload_n C.hx C.hb dX12_layOrder_17 rfl (lv_at hl 0 rfl) ?_
    refine g_get C h fl_X12_30 0 0 rfl rfl (v := .ref (a_t 12)) rfl dX12_layOrder_18 ?_
    refine lv_iload C.hx C.hb dX12_layOrder_21 (lv_at hl 3 rfl) ?_
    refine lv_iload_n C.hx C.hb dX12_layOrder_23 rfl (lv_at hl 1 rfl) ?_
    refine lv_aload_n C.hx C.hb dX12_layOrder_24 rfl (lv_at hl 0 rfl) ?_
    obtain ⟨zr9, zq10, hf⟩ := bd_some hf
    have zm11 := c_X12_errands l G o_t a_t (hf := zq10)
    refine g_goI C h zm11.1 (is := [0, 1]) rfl rfl (g_runV C h (is := [0, 1]) rfl rfl (As := []) (rest := [.int y2, .int y4, .ref (a_t 12)]) (zm11.2 _) vf_X12_133 0 0 rfl rfl hl.1 rfl rfl (Nat.le_of_ble_eq_true rfl) dX12_layOrder_25 ⟨Nat.le_of_ble_eq_true rfl, Nat.le_of_ble_eq_true rfl⟩ ⟨Nat.le_refl _, Nat.le_refl _⟩) (us2 := [uX12 G o_t a_t v_t, uA G 63 (a_t 0) v_t_now]) rfl (fun H locs h => ?_)
    obtain ⟨zz12, hf⟩ := nz_some hf
    refine lv_irem C.hx C.hb dX12_layOrder_28 zz12 ?_
    obtain ⟨zi13, hf⟩ := ck_some hf
    refine g_iast C h 0 5 rfl rfl (f := v_t.2.2 12) zi13 dX12_layOrder_29 (u' := uX12 G o_t a_t (upa v_t 12 y4.toNatClampNeg (y2 - y2 / zr9 * zr9))) (us' := [uX12 G o_t a_t (upa v_t 12 y4.toNatClampNeg (y2 - y2 / zr9 * zr9)), uA G 63 (a_t 0) v_t_now]) rfl rfl (fun H locs h => ?_)
    refine lv_iload_n C.hx C.hb dX12_layOrder_30 rfl (lv_at hl 2 rfl) ?_
    refine lv_iconst (v := 1) C.hx C.hb dX12_layOrder_31 (by decide) ?_
    refine lv_aload_n C.hx C.hb dX12_layOrder_32 rfl (lv_at hl 0 rfl) ?_
    refine g_get C h fl_X12_30 0 0 rfl rfl (v := .ref (a_t 12)) rfl dX12_layOrder_33 ?_
    refine lv_iload C.hx C.hb dX12_layOrder_36 (lv_at hl 3 rfl) ?_
    obtain ⟨zi14, hf⟩ := ck_some hf
    refine g_iald C h 0 5 rfl rfl (f := upd (v_t.2.2 12) y4.toNatClampNeg (y2 - y2 / zr9 * zr9)) zi14 dX12_layOrder_38 ?_
    refine lv_ishl C.hx C.hb dX12_layOrder_39 ?_
    refine lv_ior C.hx C.hb dX12_layOrder_40 ?_
    refine lv_istore_n (lv' := [(3, .int (y3 ||| (1 <<< (((upd (v_t.2.2 12) y4.toNatClampNeg (y2 - y2 / zr9 * zr9)) y4.toNatClampNeg) &&& 31)))), (0, .ref o_t), (2, .int y2), (4, .int y4)]) C.hx C.hb dX12_layOrder_41 rfl hl (by decide) rfl (fun ls hl => ?_)
    refine lv_iload_n C.hx C.hb dX12_layOrder_42 rfl (lv_at hl 2 rfl) ?_
    refine lv_aload_n C.hx C.hb dX12_layOrder_43 rfl (lv_at hl 1 rfl) ?_
    obtain ⟨zr15, zq16, hf⟩ := bd_some hf
    have zm17 := c_X12_errands l G o_t a_t (hf := zq16)
    refine g_goI C h zm17.1 (is := [0, 1]) rfl rfl (g_runV C h (is := [0, 1]) rfl rfl (As := []) (rest := [.int y2]) (zm17.2 _) vf_X12_133 0 0 rfl rfl hl.1 rfl rfl (Nat.le_of_ble_eq_true rfl) dX12_layOrder_44 ⟨Nat.le_of_ble_eq_true rfl, Nat.le_of_ble_eq_true rfl⟩ ⟨Nat.le_refl _, Nat.le_refl _⟩) (us2 := [uX12 G o_t a_t (upa v_t 12 y4.toNatClampNeg (y2 - y2 / zr9 * zr9)), uA G 63 (a_t 0) v_t_now]) rfl (fun H locs h => ?_)
    obtain ⟨zz18, hf⟩ := nz_some hf
    refine lv_idiv C.hx C.hb dX12_layOrder_47 zz18 ?_
    refine lv_istore_n (lv' := [(2, .int (y2 / zr15)), (3, .int (y3 ||| (1 <<< (((upd (v_t.2.2 12) y4.toNatClampNeg (y2 - y2 / zr9 * zr9)) y4.toNatClampNeg) &&& 31)))), (0, .ref o_t), (4, .int y4)]) C.hx C.hb dX12_layOrder_48 rfl hl (by decide) rfl (fun ls hl => ?_)
    refine lv_iinc (v := y4 + (-1)) (lv' := [(4, .int (y4 + (-1))), (2, .int (y2 / zr15)), (3, .int (y3 ||| (1 <<< (((upd (v_t.2.2 12) y4.toNatClampNeg (y2 - y2 / zr9 * zr9)) y4.toNatClampNeg) &&& 31)))), (0, .ref o_t)]) C.hx C.hb dX12_layOrder_49 hl (k := 3) rfl rfl (by decide) rfl (fun ls hl => ?_)
    refine lv_goto (tgt := 12) C.hx C.hb dX12_layOrder_52 (by decide) ?_
    exact hg12 hf h (lv_sub hl [3, 1, 2, 0] rfl)
set_option maxRecDepth 100000 in
set_option maxHeartbeats 4000000 in
theorem l_X12_layOrder_12 {p : Program} {l : Launch} {e : Env} {s : State} {m : MethodId} {args : Array Value} {below : List Frame} {meth : Method} {c : Code} {G : GG} {A : Nat → Prop} {o_t : Nat} {a_t : Nat → Nat} {N : Nat}  {res : Bool × US} (C : MC RX12 cX12_layOrder 5 (some .boolean) G A p s m args meth c)  : ∀ (k : Nat) {v_t : US} {v_t_now : Nat → Int32} {y2 : Int32} {y3 : Int32} {y4 : Int32}, f_X12_layOrder_12 N k v_t v_t_now y2 y3 y4 = some res → ∀ {H : Heap} {locs : List Loc} {ls : Array Slot}, HP G A s [uX12 G o_t a_t v_t, uA G 63 (a_t 0) v_t_now] H locs → lv_has ls 5 [(0, .ref o_t), (2, .int y2), (3, .int y3), (4, .int y4)] → W p l e (rmm 2) s m args below meth c H locs 0 0 (QI below G A args s (b2i res.1) [uX12 G o_t a_t res.2, uA G 63 (a_t 0) v_t_now]) (F0 m 12 ls []) := by
  intro k
  induction k with
  | zero => intros; contradiction
  | succ k ih =>
    intro v_t v_t_now y2 y3 y4 hf H locs ls h hl
    exact w_X12_layOrder_12 (N := N) C ih hf h hl
set_option maxRecDepth 100000 in
set_option maxHeartbeats 4000000 in
theorem c_X12_layOrder (l : Launch) (G : GG) (o_t : Nat) (a_t : Nat → Nat) (N : Nat) {v_t : US} {v_t_now : Nat → Int32} {x1 : Int32} {res : Bool × US} (hf : f_X12_layOrder N v_t v_t_now x1 = some res) : MI l yX12_layOrder cX12_layOrder 5 (some .boolean) 2 [.ref o_t, .int x1] G [uX12 G o_t a_t v_t, uA G 63 (a_t 0) v_t_now] (b2i res.1) [uX12 G o_t a_t res.2, uA G 63 (a_t 0) v_t_now] := by
  unfold f_X12_layOrder at hf
  refine MI.intro (by decide) rfl (Nat.le_of_ble_eq_true rfl) (fun p e s m args below meth c A ls C h hl => ?_)
  have C : MC RX12 cX12_layOrder 5 (some .boolean) G A p s m args meth c := C
  have hl : lv_has ls 5 [(0, .ref o_t), (1, .int x1)] := hl
  refine lv_iload_n C.hx C.hb dX12_layOrder_0 rfl (lv_at hl 1 rfl) ?_
  refine lv_istore_n (lv' := [(2, .int x1), (0, .ref o_t), (1, .int x1)]) C.hx C.hb dX12_layOrder_1 rfl hl (by decide) rfl (fun ls hl => ?_)
  refine lv_iconst (v := 0) C.hx C.hb dX12_layOrder_2 (by decide) ?_
  refine lv_istore_n (lv' := [(3, .int 0), (2, .int x1), (0, .ref o_t), (1, .int x1)]) C.hx C.hb dX12_layOrder_3 rfl hl (by decide) rfl (fun ls hl => ?_)
  refine lv_aload_n C.hx C.hb dX12_layOrder_4 rfl (lv_at hl 2 rfl) ?_
  obtain ⟨zr1, zq2, hf⟩ := bd_some hf
  have zm3 := c_X12_errands l G o_t a_t (hf := zq2)
  refine g_goI C h zm3.1 (is := [0, 1]) rfl rfl (g_runV C h (is := [0, 1]) rfl rfl (As := []) (rest := []) (zm3.2 _) vf_X12_133 0 0 rfl rfl hl.1 rfl rfl (Nat.le_of_ble_eq_true rfl) dX12_layOrder_5 ⟨Nat.le_of_ble_eq_true rfl, Nat.le_of_ble_eq_true rfl⟩ ⟨Nat.le_refl _, Nat.le_refl _⟩) (us2 := [uX12 G o_t a_t v_t, uA G 63 (a_t 0) v_t_now]) rfl (fun H locs h => ?_)
  refine lv_iconst (v := 1) C.hx C.hb dX12_layOrder_8 (by decide) ?_
  refine lv_isub C.hx C.hb dX12_layOrder_9 ?_
  refine lv_istore (lv' := [(4, .int (zr1 - 1)), (3, .int 0), (2, .int x1), (0, .ref o_t), (1, .int x1)]) C.hx C.hb dX12_layOrder_10 hl (by decide) rfl (fun ls hl => ?_)
  exact l_X12_layOrder_12 C N hf h (lv_sub hl [3, 2, 1, 0] rfl)

def f_X12_layRule (v_p0 : Nat → Int32) (n_p0 : Nat) (x1 : Int32) (x2 : Int32) (x3 : Int32) : Option ((Nat → Int32)) :=
  if (39 : Int32) < 0 ∨ n_p0 ≤ (39 : Int32).toNatClampNeg then none else (if (40 + (3 * (v_p0 (39 : Int32).toNatClampNeg))) < 0 ∨ n_p0 ≤ (40 + (3 * (v_p0 (39 : Int32).toNatClampNeg))).toNatClampNeg then none else (bnd (upd v_p0 (40 + (3 * (v_p0 (39 : Int32).toNatClampNeg))).toNatClampNeg x1) fun zw3 => if ((40 + (3 * (v_p0 (39 : Int32).toNatClampNeg))) + 1) < 0 ∨ n_p0 ≤ ((40 + (3 * (v_p0 (39 : Int32).toNatClampNeg))) + 1).toNatClampNeg then none else (bnd (upd zw3 ((40 + (3 * (v_p0 (39 : Int32).toNatClampNeg))) + 1).toNatClampNeg x2) fun zw5 => if ((40 + (3 * (v_p0 (39 : Int32).toNatClampNeg))) + 2) < 0 ∨ n_p0 ≤ ((40 + (3 * (v_p0 (39 : Int32).toNatClampNeg))) + 2).toNatClampNeg then none else (if (39 : Int32) < 0 ∨ n_p0 ≤ (39 : Int32).toNatClampNeg then none else (bnd (upd zw5 ((40 + (3 * (v_p0 (39 : Int32).toNatClampNeg))) + 2).toNatClampNeg x3) fun zw8 => if (39 : Int32) < 0 ∨ n_p0 ≤ (39 : Int32).toNatClampNeg then none else (some (upd zw8 (39 : Int32).toNatClampNeg (((upd zw5 ((40 + (3 * (v_p0 (39 : Int32).toNatClampNeg))) + 2).toNatClampNeg x3) (39 : Int32).toNatClampNeg) + 1))))))))
set_option maxRecDepth 100000 in
set_option maxHeartbeats 4000000 in
theorem c_X12_layRule (l : Launch) (G : GG) (o_p0 : Nat) {v_p0 : Nat → Int32} {n_p0 : Nat} {x1 : Int32} {x2 : Int32} {x3 : Int32} {res : (Nat → Int32)} (hf : f_X12_layRule v_p0 n_p0 x1 x2 x3 = some res) : MV l yX12_layRule cX12_layRule 5 none 1 [.ref o_p0, .int x1, .int x2, .int x3] G [uA G n_p0 o_p0 v_p0]  [uA G n_p0 o_p0 res] := by
  unfold f_X12_layRule at hf
  refine MV.intro (by decide) rfl (Nat.le_of_ble_eq_true rfl) (fun p e s m args below meth c A ls C h hl => ?_)
  have C : MC RX12 cX12_layRule 5 none G A p s m args meth c := C
  have hl : lv_has ls 5 [(0, .ref o_p0), (1, .int x1), (2, .int x2), (3, .int x3)] := hl
  refine lv_bipush (v := 40) C.hx C.hb dX12_layRule_0 (by decide) ?_
  refine lv_iconst (v := 3) C.hx C.hb dX12_layRule_2 (by decide) ?_
  refine lv_aload_n C.hx C.hb dX12_layRule_3 rfl (lv_at hl 0 rfl) ?_
  refine lv_bipush (v := 39) C.hx C.hb dX12_layRule_4 (by decide) ?_
  obtain ⟨zi1, hf⟩ := ck_some hf
  refine g_iald C h 0 0 rfl rfl (f := v_p0) zi1 dX12_layRule_6 ?_
  refine lv_imul C.hx C.hb dX12_layRule_7 ?_
  refine lv_iadd C.hx C.hb dX12_layRule_8 ?_
  refine lv_istore (lv' := [(4, .int (40 + (3 * (v_p0 (39 : Int32).toNatClampNeg)))), (0, .ref o_p0), (1, .int x1), (2, .int x2), (3, .int x3)]) C.hx C.hb dX12_layRule_9 hl (by decide) rfl (fun ls hl => ?_)
  refine lv_aload_n C.hx C.hb dX12_layRule_11 rfl (lv_at hl 1 rfl) ?_
  refine lv_iload C.hx C.hb dX12_layRule_12 (lv_at hl 0 rfl) ?_
  refine lv_iload_n C.hx C.hb dX12_layRule_14 rfl (lv_at hl 2 rfl) ?_
  obtain ⟨zi2, hf⟩ := ck_some hf
  refine g_iast C h 0 0 rfl rfl (f := v_p0) zi2 dX12_layRule_15 (u' := uA G n_p0 o_p0 (upd v_p0 (40 + (3 * (v_p0 (39 : Int32).toNatClampNeg))).toNatClampNeg x1)) (us' := [uA G n_p0 o_p0 (upd v_p0 (40 + (3 * (v_p0 (39 : Int32).toNatClampNeg))).toNatClampNeg x1)]) rfl rfl (fun H locs h => ?_)
  refine lv_aload_n C.hx C.hb dX12_layRule_16 rfl (lv_at hl 1 rfl) ?_
  refine lv_iload C.hx C.hb dX12_layRule_17 (lv_at hl 0 rfl) ?_
  refine lv_iconst (v := 1) C.hx C.hb dX12_layRule_19 (by decide) ?_
  refine lv_iadd C.hx C.hb dX12_layRule_20 ?_
  refine lv_iload_n C.hx C.hb dX12_layRule_21 rfl (lv_at hl 3 rfl) ?_
  obtain ⟨zw3, hzw3, hf⟩ := bnd_some hf
  rw [← hzw3] at h
  obtain ⟨zi4, hf⟩ := ck_some hf
  refine g_iast C h 0 0 rfl rfl (f := zw3) zi4 dX12_layRule_22 (u' := uA G n_p0 o_p0 (upd zw3 ((40 + (3 * (v_p0 (39 : Int32).toNatClampNeg))) + 1).toNatClampNeg x2)) (us' := [uA G n_p0 o_p0 (upd zw3 ((40 + (3 * (v_p0 (39 : Int32).toNatClampNeg))) + 1).toNatClampNeg x2)]) rfl rfl (fun H locs h => ?_)
  refine lv_aload_n C.hx C.hb dX12_layRule_23 rfl (lv_at hl 1 rfl) ?_
  refine lv_iload C.hx C.hb dX12_layRule_24 (lv_at hl 0 rfl) ?_
  refine lv_iconst (v := 2) C.hx C.hb dX12_layRule_26 (by decide) ?_
  refine lv_iadd C.hx C.hb dX12_layRule_27 ?_
  refine lv_iload_n C.hx C.hb dX12_layRule_28 rfl (lv_at hl 4 rfl) ?_
  obtain ⟨zw5, hzw5, hf⟩ := bnd_some hf
  rw [← hzw5] at h
  obtain ⟨zi6, hf⟩ := ck_some hf
  refine g_iast C h 0 0 rfl rfl (f := zw5) zi6 dX12_layRule_29 (u' := uA G n_p0 o_p0 (upd zw5 ((40 + (3 * (v_p0 (39 : Int32).toNatClampNeg))) + 2).toNatClampNeg x3)) (us' := [uA G n_p0 o_p0 (upd zw5 ((40 + (3 * (v_p0 (39 : Int32).toNatClampNeg))) + 2).toNatClampNeg x3)]) rfl rfl (fun H locs h => ?_)
  refine lv_aload_n C.hx C.hb dX12_layRule_30 rfl (lv_at hl 1 rfl) ?_
  refine lv_bipush (v := 39) C.hx C.hb dX12_layRule_31 (by decide) ?_
  refine lv_dup2_11 C.hx C.hb dX12_layRule_33 rfl rfl ?_
  obtain ⟨zi7, hf⟩ := ck_some hf
  refine g_iald C h 0 0 rfl rfl (f := upd zw5 ((40 + (3 * (v_p0 (39 : Int32).toNatClampNeg))) + 2).toNatClampNeg x3) zi7 dX12_layRule_34 ?_
  refine lv_iconst (v := 1) C.hx C.hb dX12_layRule_35 (by decide) ?_
  refine lv_iadd C.hx C.hb dX12_layRule_36 ?_
  obtain ⟨zw8, hzw8, hf⟩ := bnd_some hf
  rw [← hzw8] at h
  obtain ⟨zi9, hf⟩ := ck_some hf
  refine g_iast C h 0 0 rfl rfl (f := zw8) zi9 dX12_layRule_37 (u' := uA G n_p0 o_p0 (upd zw8 (39 : Int32).toNatClampNeg (((upd zw5 ((40 + (3 * (v_p0 (39 : Int32).toNatClampNeg))) + 2).toNatClampNeg x3) (39 : Int32).toNatClampNeg) + 1))) (us' := [uA G n_p0 o_p0 (upd zw8 (39 : Int32).toNatClampNeg (((upd zw5 ((40 + (3 * (v_p0 (39 : Int32).toNatClampNeg))) + 2).toNatClampNeg x3) (39 : Int32).toNatClampNeg) + 1))]) rfl rfl (fun H locs h => ?_)
  obtain rfl := Option.some.inj hf
  exact g_ret_v C h rfl dX12_layRule_38

def f_X12_layThing (v_p0 : Nat → Int32) (n_p0 : Nat) (x1 : Int32) (x2 : Int32) (x3 : Int32) (x4 : Int32) : Option ((Nat → Int32)) :=
  if (0 : Int32) < 0 ∨ n_p0 ≤ (0 : Int32).toNatClampNeg then none else (if ((1 + (5 * (v_p0 (0 : Int32).toNatClampNeg))) + 0) < 0 ∨ n_p0 ≤ ((1 + (5 * (v_p0 (0 : Int32).toNatClampNeg))) + 0).toNatClampNeg then none else (bnd (upd v_p0 ((1 + (5 * (v_p0 (0 : Int32).toNatClampNeg))) + 0).toNatClampNeg x1) fun zw3 => if ((1 + (5 * (v_p0 (0 : Int32).toNatClampNeg))) + 1) < 0 ∨ n_p0 ≤ ((1 + (5 * (v_p0 (0 : Int32).toNatClampNeg))) + 1).toNatClampNeg then none else (bnd (upd zw3 ((1 + (5 * (v_p0 (0 : Int32).toNatClampNeg))) + 1).toNatClampNeg x2) fun zw5 => if ((1 + (5 * (v_p0 (0 : Int32).toNatClampNeg))) + 2) < 0 ∨ n_p0 ≤ ((1 + (5 * (v_p0 (0 : Int32).toNatClampNeg))) + 2).toNatClampNeg then none else (bnd (upd zw5 ((1 + (5 * (v_p0 (0 : Int32).toNatClampNeg))) + 2).toNatClampNeg x3) fun zw7 => if ((1 + (5 * (v_p0 (0 : Int32).toNatClampNeg))) + 3) < 0 ∨ n_p0 ≤ ((1 + (5 * (v_p0 (0 : Int32).toNatClampNeg))) + 3).toNatClampNeg then none else (bnd (upd zw7 ((1 + (5 * (v_p0 (0 : Int32).toNatClampNeg))) + 3).toNatClampNeg x4) fun zw9 => if ((1 + (5 * (v_p0 (0 : Int32).toNatClampNeg))) + 4) < 0 ∨ n_p0 ≤ ((1 + (5 * (v_p0 (0 : Int32).toNatClampNeg))) + 4).toNatClampNeg then none else (if (0 : Int32) < 0 ∨ n_p0 ≤ (0 : Int32).toNatClampNeg then none else (bnd (upd zw9 ((1 + (5 * (v_p0 (0 : Int32).toNatClampNeg))) + 4).toNatClampNeg 1) fun zw12 => if (0 : Int32) < 0 ∨ n_p0 ≤ (0 : Int32).toNatClampNeg then none else (some (upd zw12 (0 : Int32).toNatClampNeg (((upd zw9 ((1 + (5 * (v_p0 (0 : Int32).toNatClampNeg))) + 4).toNatClampNeg 1) (0 : Int32).toNatClampNeg) + 1))))))))))
set_option maxRecDepth 100000 in
set_option maxHeartbeats 4000000 in
theorem c_X12_layThing (l : Launch) (G : GG) (o_p0 : Nat) {v_p0 : Nat → Int32} {n_p0 : Nat} {x1 : Int32} {x2 : Int32} {x3 : Int32} {x4 : Int32} {res : (Nat → Int32)} (hf : f_X12_layThing v_p0 n_p0 x1 x2 x3 x4 = some res) : MV l yX12_layThing cX12_layThing 6 none 1 [.ref o_p0, .int x1, .int x2, .int x3, .int x4] G [uA G n_p0 o_p0 v_p0]  [uA G n_p0 o_p0 res] := by
  unfold f_X12_layThing at hf
  refine MV.intro (by decide) rfl (Nat.le_of_ble_eq_true rfl) (fun p e s m args below meth c A ls C h hl => ?_)
  have C : MC RX12 cX12_layThing 6 none G A p s m args meth c := C
  have hl : lv_has ls 6 [(0, .ref o_p0), (1, .int x1), (2, .int x2), (3, .int x3), (4, .int x4)] := hl
  refine lv_iconst (v := 1) C.hx C.hb dX12_layThing_0 (by decide) ?_
  refine lv_iconst (v := 5) C.hx C.hb dX12_layThing_1 (by decide) ?_
  refine lv_aload_n C.hx C.hb dX12_layThing_2 rfl (lv_at hl 0 rfl) ?_
  refine lv_iconst (v := 0) C.hx C.hb dX12_layThing_3 (by decide) ?_
  obtain ⟨zi1, hf⟩ := ck_some hf
  refine g_iald C h 0 0 rfl rfl (f := v_p0) zi1 dX12_layThing_4 ?_
  refine lv_imul C.hx C.hb dX12_layThing_5 ?_
  refine lv_iadd C.hx C.hb dX12_layThing_6 ?_
  refine lv_istore (lv' := [(5, .int (1 + (5 * (v_p0 (0 : Int32).toNatClampNeg)))), (0, .ref o_p0), (1, .int x1), (2, .int x2), (3, .int x3), (4, .int x4)]) C.hx C.hb dX12_layThing_7 hl (by decide) rfl (fun ls hl => ?_)
  refine lv_aload_n C.hx C.hb dX12_layThing_9 rfl (lv_at hl 1 rfl) ?_
  refine lv_iload C.hx C.hb dX12_layThing_10 (lv_at hl 0 rfl) ?_
  refine lv_iconst (v := 0) C.hx C.hb dX12_layThing_12 (by decide) ?_
  refine lv_iadd C.hx C.hb dX12_layThing_13 ?_
  refine lv_iload_n C.hx C.hb dX12_layThing_14 rfl (lv_at hl 2 rfl) ?_
  obtain ⟨zi2, hf⟩ := ck_some hf
  refine g_iast C h 0 0 rfl rfl (f := v_p0) zi2 dX12_layThing_15 (u' := uA G n_p0 o_p0 (upd v_p0 ((1 + (5 * (v_p0 (0 : Int32).toNatClampNeg))) + 0).toNatClampNeg x1)) (us' := [uA G n_p0 o_p0 (upd v_p0 ((1 + (5 * (v_p0 (0 : Int32).toNatClampNeg))) + 0).toNatClampNeg x1)]) rfl rfl (fun H locs h => ?_)
  refine lv_aload_n C.hx C.hb dX12_layThing_16 rfl (lv_at hl 1 rfl) ?_
  refine lv_iload C.hx C.hb dX12_layThing_17 (lv_at hl 0 rfl) ?_
  refine lv_iconst (v := 1) C.hx C.hb dX12_layThing_19 (by decide) ?_
  refine lv_iadd C.hx C.hb dX12_layThing_20 ?_
  refine lv_iload_n C.hx C.hb dX12_layThing_21 rfl (lv_at hl 3 rfl) ?_
  obtain ⟨zw3, hzw3, hf⟩ := bnd_some hf
  rw [← hzw3] at h
  obtain ⟨zi4, hf⟩ := ck_some hf
  refine g_iast C h 0 0 rfl rfl (f := zw3) zi4 dX12_layThing_22 (u' := uA G n_p0 o_p0 (upd zw3 ((1 + (5 * (v_p0 (0 : Int32).toNatClampNeg))) + 1).toNatClampNeg x2)) (us' := [uA G n_p0 o_p0 (upd zw3 ((1 + (5 * (v_p0 (0 : Int32).toNatClampNeg))) + 1).toNatClampNeg x2)]) rfl rfl (fun H locs h => ?_)
  refine lv_aload_n C.hx C.hb dX12_layThing_23 rfl (lv_at hl 1 rfl) ?_
  refine lv_iload C.hx C.hb dX12_layThing_24 (lv_at hl 0 rfl) ?_
  refine lv_iconst (v := 2) C.hx C.hb dX12_layThing_26 (by decide) ?_
  refine lv_iadd C.hx C.hb dX12_layThing_27 ?_
  refine lv_iload_n C.hx C.hb dX12_layThing_28 rfl (lv_at hl 4 rfl) ?_
  obtain ⟨zw5, hzw5, hf⟩ := bnd_some hf
  rw [← hzw5] at h
  obtain ⟨zi6, hf⟩ := ck_some hf
  refine g_iast C h 0 0 rfl rfl (f := zw5) zi6 dX12_layThing_29 (u' := uA G n_p0 o_p0 (upd zw5 ((1 + (5 * (v_p0 (0 : Int32).toNatClampNeg))) + 2).toNatClampNeg x3)) (us' := [uA G n_p0 o_p0 (upd zw5 ((1 + (5 * (v_p0 (0 : Int32).toNatClampNeg))) + 2).toNatClampNeg x3)]) rfl rfl (fun H locs h => ?_)
  refine lv_aload_n C.hx C.hb dX12_layThing_30 rfl (lv_at hl 1 rfl) ?_
  refine lv_iload C.hx C.hb dX12_layThing_31 (lv_at hl 0 rfl) ?_
  refine lv_iconst (v := 3) C.hx C.hb dX12_layThing_33 (by decide) ?_
  refine lv_iadd C.hx C.hb dX12_layThing_34 ?_
  refine lv_iload C.hx C.hb dX12_layThing_35 (lv_at hl 5 rfl) ?_
  obtain ⟨zw7, hzw7, hf⟩ := bnd_some hf
  rw [← hzw7] at h
  obtain ⟨zi8, hf⟩ := ck_some hf
  refine g_iast C h 0 0 rfl rfl (f := zw7) zi8 dX12_layThing_37 (u' := uA G n_p0 o_p0 (upd zw7 ((1 + (5 * (v_p0 (0 : Int32).toNatClampNeg))) + 3).toNatClampNeg x4)) (us' := [uA G n_p0 o_p0 (upd zw7 ((1 + (5 * (v_p0 (0 : Int32).toNatClampNeg))) + 3).toNatClampNeg x4)]) rfl rfl (fun H locs h => ?_)
  refine lv_aload_n C.hx C.hb dX12_layThing_38 rfl (lv_at hl 1 rfl) ?_
  refine lv_iload C.hx C.hb dX12_layThing_39 (lv_at hl 0 rfl) ?_
  refine lv_iconst (v := 4) C.hx C.hb dX12_layThing_41 (by decide) ?_
  refine lv_iadd C.hx C.hb dX12_layThing_42 ?_
  refine lv_iconst (v := 1) C.hx C.hb dX12_layThing_43 (by decide) ?_
  obtain ⟨zw9, hzw9, hf⟩ := bnd_some hf
  rw [← hzw9] at h
  obtain ⟨zi10, hf⟩ := ck_some hf
  refine g_iast C h 0 0 rfl rfl (f := zw9) zi10 dX12_layThing_44 (u' := uA G n_p0 o_p0 (upd zw9 ((1 + (5 * (v_p0 (0 : Int32).toNatClampNeg))) + 4).toNatClampNeg 1)) (us' := [uA G n_p0 o_p0 (upd zw9 ((1 + (5 * (v_p0 (0 : Int32).toNatClampNeg))) + 4).toNatClampNeg 1)]) rfl rfl (fun H locs h => ?_)
  refine lv_aload_n C.hx C.hb dX12_layThing_45 rfl (lv_at hl 1 rfl) ?_
  refine lv_iconst (v := 0) C.hx C.hb dX12_layThing_46 (by decide) ?_
  refine lv_dup2_11 C.hx C.hb dX12_layThing_47 rfl rfl ?_
  obtain ⟨zi11, hf⟩ := ck_some hf
  refine g_iald C h 0 0 rfl rfl (f := upd zw9 ((1 + (5 * (v_p0 (0 : Int32).toNatClampNeg))) + 4).toNatClampNeg 1) zi11 dX12_layThing_48 ?_
  refine lv_iconst (v := 1) C.hx C.hb dX12_layThing_49 (by decide) ?_
  refine lv_iadd C.hx C.hb dX12_layThing_50 ?_
  obtain ⟨zw12, hzw12, hf⟩ := bnd_some hf
  rw [← hzw12] at h
  obtain ⟨zi13, hf⟩ := ck_some hf
  refine g_iast C h 0 0 rfl rfl (f := zw12) zi13 dX12_layThing_51 (u' := uA G n_p0 o_p0 (upd zw12 (0 : Int32).toNatClampNeg (((upd zw9 ((1 + (5 * (v_p0 (0 : Int32).toNatClampNeg))) + 4).toNatClampNeg 1) (0 : Int32).toNatClampNeg) + 1))) (us' := [uA G n_p0 o_p0 (upd zw12 (0 : Int32).toNatClampNeg (((upd zw9 ((1 + (5 * (v_p0 (0 : Int32).toNatClampNeg))) + 4).toNatClampNeg 1) (0 : Int32).toNatClampNeg) + 1))]) rfl rfl (fun H locs h => ?_)
  obtain rfl := Option.some.inj hf
  exact g_ret_v C h rfl dX12_layThing_52

def b_X12_moves_17 (N : Nat)  (v_t : US) (v_t_now : Nat → Int32)  : Option (Int32 × US) :=
  (f_X12_bad v_t (-2)).bind fun zr1 => some (zr1.1, zr1.2)
def f_X12_moves (N : Nat) (v_t : US) (v_t_now : Nat → Int32) (x1 : Int32) (x2 : Int32) (x3 : Int32) : Option (Int32 × US) :=
  (f_X12_isPull v_t v_t_now x1 x2).bind fun zr1 => if (b2i zr1) = 0 then (b_X12_moves_17 N v_t v_t_now) else ((f_X12_isThing v_t v_t_now x3).bind fun zr5 => if (b2i zr5) = 0 then (b_X12_moves_17 N v_t v_t_now) else ((f_X12_takeNow N v_t v_t_now).bind fun zr9 => (f_X12_onePull zr9 x1 x2).bind fun zr12 => (f_X12_moveOf zr12 x3).bind fun zr15 => some (zr15, zr12)))
set_option maxRecDepth 100000 in
set_option maxHeartbeats 4000000 in
theorem w_X12_moves_17 {p : Program} {l : Launch} {e : Env} {s : State} {m : MethodId} {args : Array Value} {below : List Frame} {meth : Method} {c : Code} {G : GG} {A : Nat → Prop} {o_t : Nat} {a_t : Nat → Nat} {N : Nat}  {v_t : US} {v_t_now : Nat → Int32}  {res : Int32 × US} (C : MC RX12 cX12_moves 4 (some .int) G A p s m args meth c)  (hf : b_X12_moves_17 N v_t v_t_now = some res) {H : Heap} {locs : List Loc} {ls : Array Slot} (h : HP G A s [uX12 G o_t a_t v_t, uA G 63 (a_t 0) v_t_now] H locs) (hl : lv_has ls 4 [(0, .ref o_t)]) : W p l e (rmm 4) s m args below meth c H locs 0 0 (QI below G A args s res.1 [uX12 G o_t a_t res.2, uA G 63 (a_t 0) v_t_now]) (F0 m 17 ls []) := by
  unfold b_X12_moves_17 at hf
  refine lv_aload_n C.hx C.hb dX12_moves_17 rfl (lv_at hl 0 rfl) ?_
  refine lv_bipush (v := (-2)) C.hx C.hb dX12_moves_18 (by decide) ?_
  obtain ⟨zr1, zq2, hf⟩ := bd_some hf
  have zm3 := c_X12_bad l G o_t a_t (hf := zq2)
  refine g_goI C h zm3.1 (is := [0]) rfl rfl (g_runV C h (is := [0]) rfl rfl (As := [.int (-2)]) (rest := []) (zm3.2 _) vf_X12_60 0 0 rfl rfl hl.1 rfl rfl (Nat.le_of_ble_eq_true rfl) dX12_moves_20 ⟨Nat.le_of_ble_eq_true rfl, Nat.le_of_ble_eq_true rfl⟩ ⟨Nat.le_refl _, Nat.le_refl _⟩) (us2 := [uX12 G o_t a_t zr1.2, uA G 63 (a_t 0) v_t_now]) rfl (fun H locs h => ?_)
  obtain rfl := Option.some.inj hf
  exact g_ret_i C h rfl rfl dX12_moves_23
set_option maxRecDepth 100000 in
set_option maxHeartbeats 4000000 in
theorem c_X12_moves (l : Launch) (G : GG) (o_t : Nat) (a_t : Nat → Nat) (N : Nat) {v_t : US} {v_t_now : Nat → Int32} {x1 : Int32} {x2 : Int32} {x3 : Int32} {res : Int32 × US} (hf : f_X12_moves N v_t v_t_now x1 x2 x3 = some res) : MI l yX12_moves cX12_moves 4 (some .int) 4 [.ref o_t, .int x1, .int x2, .int x3] G [uX12 G o_t a_t v_t, uA G 63 (a_t 0) v_t_now] res.1 [uX12 G o_t a_t res.2, uA G 63 (a_t 0) v_t_now] := by
  unfold f_X12_moves at hf
  refine MI.intro (by decide) rfl (Nat.le_of_ble_eq_true rfl) (fun p e s m args below meth c A ls C h hl => ?_)
  have C : MC RX12 cX12_moves 4 (some .int) G A p s m args meth c := C
  have hl : lv_has ls 4 [(0, .ref o_t), (1, .int x1), (2, .int x2), (3, .int x3)] := hl
  refine lv_aload_n C.hx C.hb dX12_moves_0 rfl (lv_at hl 0 rfl) ?_
  refine lv_iload_n C.hx C.hb dX12_moves_1 rfl (lv_at hl 1 rfl) ?_
  refine lv_iload_n C.hx C.hb dX12_moves_2 rfl (lv_at hl 2 rfl) ?_
  obtain ⟨zr1, zq2, hf⟩ := bd_some hf
  have zm3 := c_X12_isPull l G o_t a_t (hf := zq2)
  refine g_goI C h zm3.1 (is := [0, 1]) rfl rfl (g_runV C h (is := [0, 1]) rfl rfl (As := [.int x1, .int x2]) (rest := []) (zm3.2 _) vf_X12_119 0 0 rfl rfl hl.1 rfl rfl (Nat.le_of_ble_eq_true rfl) dX12_moves_3 ⟨Nat.le_of_ble_eq_true rfl, Nat.le_of_ble_eq_true rfl⟩ ⟨Nat.le_refl _, Nat.le_refl _⟩) (us2 := [uX12 G o_t a_t v_t, uA G 63 (a_t 0) v_t_now]) rfl (fun H locs h => ?_)
  refine lv_if_eq (tgt := 17) C.hx C.hb dX12_moves_6 (by decide) (fun zc4 => ?_) (fun zc4 => ?_)
  · replace hf := it_t zc4 hf
    exact w_X12_moves_17 C  hf h (lv_sub hl [0] rfl)
  · replace hf := it_f zc4 hf
    refine lv_aload_n C.hx C.hb dX12_moves_9 rfl (lv_at hl 0 rfl) ?_
    refine lv_iload_n C.hx C.hb dX12_moves_10 rfl (lv_at hl 3 rfl) ?_
    obtain ⟨zr5, zq6, hf⟩ := bd_some hf
    have zm7 := c_X12_isThing l G o_t a_t (hf := zq6)
    refine g_goI C h zm7.1 (is := [0, 1]) rfl rfl (g_runV C h (is := [0, 1]) rfl rfl (As := [.int x3]) (rest := []) (zm7.2 _) vf_X12_71 0 0 rfl rfl hl.1 rfl rfl (Nat.le_of_ble_eq_true rfl) dX12_moves_11 ⟨Nat.le_of_ble_eq_true rfl, Nat.le_of_ble_eq_true rfl⟩ ⟨Nat.le_refl _, Nat.le_refl _⟩) (us2 := [uX12 G o_t a_t v_t, uA G 63 (a_t 0) v_t_now]) rfl (fun H locs h => ?_)
    refine lv_if_ne (tgt := 24) C.hx C.hb dX12_moves_14 (by decide) (fun zc8 => ?_) (fun zc8 => ?_)
    · replace hf := it_f zc8 hf
      refine lv_aload_n C.hx C.hb dX12_moves_24 rfl (lv_at hl 0 rfl) ?_
      obtain ⟨zr9, zq10, hf⟩ := bd_some hf
      have zm11 := c_X12_takeNow l G o_t a_t N (hf := zq10)
      refine g_goV C h zm11.1 (is := [0, 1]) rfl rfl (g_runV C h (is := [0, 1]) rfl rfl (As := []) (rest := []) (zm11.2 _) vf_X12_123 0 0 rfl rfl hl.1 rfl rfl (Nat.le_of_ble_eq_true rfl) dX12_moves_25 ⟨Nat.le_of_ble_eq_true rfl, Nat.le_of_ble_eq_true rfl⟩ ⟨Nat.le_refl _, Nat.le_refl _⟩) (us2 := [uX12 G o_t a_t zr9, uA G 63 (a_t 0) v_t_now]) rfl (fun H locs h => ?_)
      refine lv_aload_n C.hx C.hb dX12_moves_28 rfl (lv_at hl 0 rfl) ?_
      refine lv_iload_n C.hx C.hb dX12_moves_29 rfl (lv_at hl 1 rfl) ?_
      refine lv_iload_n C.hx C.hb dX12_moves_30 rfl (lv_at hl 2 rfl) ?_
      obtain ⟨zr12, zq13, hf⟩ := bd_some hf
      have zm14 := c_X12_onePull l G o_t a_t (hf := zq13)
      refine g_goV C h zm14.1 (is := [0]) rfl rfl (g_runV C h (is := [0]) rfl rfl (As := [.int x1, .int x2]) (rest := []) (zm14.2 _) vf_X12_126 0 0 rfl rfl hl.1 rfl rfl (Nat.le_of_ble_eq_true rfl) dX12_moves_31 ⟨Nat.le_of_ble_eq_true rfl, Nat.le_of_ble_eq_true rfl⟩ ⟨Nat.le_refl _, Nat.le_refl _⟩) (us2 := [uX12 G o_t a_t zr12, uA G 63 (a_t 0) v_t_now]) rfl (fun H locs h => ?_)
      refine lv_aload_n C.hx C.hb dX12_moves_34 rfl (lv_at hl 0 rfl) ?_
      refine lv_iload_n C.hx C.hb dX12_moves_35 rfl (lv_at hl 3 rfl) ?_
      obtain ⟨zr15, zq16, hf⟩ := bd_some hf
      have zm17 := c_X12_moveOf l G o_t a_t (hf := zq16)
      refine g_goI C h zm17.1 (is := [0]) rfl rfl (g_runV C h (is := [0]) rfl rfl (As := [.int x3]) (rest := []) (zm17.2 _) vf_X12_111 0 0 rfl rfl hl.1 rfl rfl (Nat.le_of_ble_eq_true rfl) dX12_moves_36 ⟨Nat.le_of_ble_eq_true rfl, Nat.le_of_ble_eq_true rfl⟩ ⟨Nat.le_refl _, Nat.le_refl _⟩) (us2 := [uX12 G o_t a_t zr12, uA G 63 (a_t 0) v_t_now]) rfl (fun H locs h => ?_)
      obtain rfl := Option.some.inj hf
      exact g_ret_i C h rfl rfl dX12_moves_39
    · replace hf := it_t zc8 hf
      exact w_X12_moves_17 C  hf h (lv_sub hl [0] rfl)

def f_X12_open (v_t : US) (v_t_now : Nat → Int32)  : Option (Int32) :=
  if (27 : Int32) < 0 ∨ 63 ≤ (27 : Int32).toNatClampNeg then none else (some (v_t_now (27 : Int32).toNatClampNeg))
set_option maxRecDepth 100000 in
set_option maxHeartbeats 4000000 in
theorem c_X12_open (l : Launch) (G : GG) (o_t : Nat) (a_t : Nat → Nat) {v_t : US} {v_t_now : Nat → Int32}  {res : Int32} (hf : f_X12_open v_t v_t_now = some res) : MI l yX12_open cX12_open 1 (some .int) 1 [.ref o_t] G [uX12 G o_t a_t v_t, uA G 63 (a_t 0) v_t_now] res [uX12 G o_t a_t v_t, uA G 63 (a_t 0) v_t_now] := by
  unfold f_X12_open at hf
  refine MI.intro (by decide) rfl (Nat.le_of_ble_eq_true rfl) (fun p e s m args below meth c A ls C h hl => ?_)
  have C : MC RX12 cX12_open 1 (some .int) G A p s m args meth c := C
  have hl : lv_has ls 1 [(0, .ref o_t)] := hl
  refine lv_aload_n C.hx C.hb dX12_open_0 rfl (lv_at hl 0 rfl) ?_
  refine g_get C h fl_X12_7 0 0 rfl rfl (v := .ref (a_t 0)) rfl dX12_open_1 ?_
  refine lv_bipush (v := 27) C.hx C.hb dX12_open_4 (by decide) ?_
  obtain ⟨zi1, hf⟩ := ck_some hf
  refine g_iald C h 1 0 rfl rfl (f := v_t_now) zi1 dX12_open_6 ?_
  obtain rfl := Option.some.inj hf
  exact g_ret_i C h rfl rfl dX12_open_7

def b_X12_order_109 (N : Nat) (g49 : US → (Nat → Int32) → Int32 → Int32 → Int32 → Option (Int32 × US)) (v_t : US) (v_t_now : Nat → Int32) (y1 : Int32) (y2 : Int32) (y3 : Int32) (y4 : Int32) : Option (Int32 × US) :=
  if (v_t.1 14) ≤ y4 then (g49 (upi v_t 14 (v_t.1 14)) v_t_now y1 y2 (y3 + 1)) else (g49 (upi v_t 14 y4) v_t_now y1 y2 (y3 + 1))
def b_X12_order_71 (N : Nat) (g49 : US → (Nat → Int32) → Int32 → Int32 → Int32 → Option (Int32 × US)) (g71 : US → (Nat → Int32) → Int32 → Int32 → Int32 → Int32 → Int32 → Option (Int32 × US)) (v_t : US) (v_t_now : Nat → Int32) (y1 : Int32) (y2 : Int32) (y3 : Int32) (y4 : Int32) (y5 : Int32) : Option (Int32 × US) :=
  (f_X12_errands v_t v_t_now).bind fun zr1 => if zr1 ≤ y5 then (b_X12_order_109 N g49 v_t v_t_now y1 y2 y3 y4) else (if (v_t.1 14) ≤ y4 then (b_X12_order_109 N g49 v_t v_t_now y1 y2 y3 y4) else (if y5 < 0 ∨ 5 ≤ y5.toNatClampNeg then none else (if y5 < 0 ∨ 5 ≤ y5.toNatClampNeg then none else (g71 (upa v_t 13 y5.toNatClampNeg ((v_t.2.2 12) y5.toNatClampNeg)) v_t_now y1 y2 y3 y4 (y5 + 1)))))
def f_X12_order_71 (N : Nat) (g49 : US → (Nat → Int32) → Int32 → Int32 → Int32 → Option (Int32 × US)) : Nat → US → (Nat → Int32) → Int32 → Int32 → Int32 → Int32 → Int32 → Option (Int32 × US)
  | 0 => fun _ _ _ _ _ _ _ => none
  | k + 1 => fun q0 q1 q2 q3 q4 q5 q6 => b_X12_order_71 N g49 (f_X12_order_71 N g49 k) q0 q1 q2 q3 q4 q5 q6
def b_X12_order_49 (N : Nat) (g49 : US → (Nat → Int32) → Int32 → Int32 → Int32 → Option (Int32 × US)) (v_t : US) (v_t_now : Nat → Int32) (y1 : Int32) (y2 : Int32) (y3 : Int32) : Option (Int32 × US) :=
  if y2 ≤ y3 then (if y1 = (-1) then (some (v_t.1 14, v_t)) else ((f_X12_errands v_t v_t_now).bind fun zr3 => if zr3 ≤ y1 then (some ((-5), v_t)) else (if y1 < 0 ∨ 5 ≤ y1.toNatClampNeg then none else (some ((v_t.2.2 13) y1.toNatClampNeg, v_t))))) else ((f_X12_layOrder N v_t v_t_now y3).bind fun zr8 => if (b2i zr8.1) = 0 then (g49 zr8.2 v_t_now y1 y2 (y3 + 1)) else ((f_X12_harmOfRow N zr8.2 v_t_now).bind fun zr12 => f_X12_order_71 N g49 N zr12.2 v_t_now y1 y2 y3 zr12.1 0))
def f_X12_order_49 (N : Nat)  : Nat → US → (Nat → Int32) → Int32 → Int32 → Int32 → Option (Int32 × US)
  | 0 => fun _ _ _ _ _ => none
  | k + 1 => fun q0 q1 q2 q3 q4 => b_X12_order_49 N  (f_X12_order_49 N  k) q0 q1 q2 q3 q4
def b_X12_order_20 (N : Nat) (g20 : US → (Nat → Int32) → Int32 → Int32 → Int32 → Option (Int32 × US)) (v_t : US) (v_t_now : Nat → Int32) (y1 : Int32) (y2 : Int32) (y3 : Int32) : Option (Int32 × US) :=
  (f_X12_errands v_t v_t_now).bind fun zr1 => if zr1 ≤ y3 then (f_X12_order_49 N N (upi v_t 14 100000) v_t_now y1 y2 0) else ((f_X12_errands v_t v_t_now).bind fun zr5 => g20 v_t v_t_now y1 (y2 * zr5) (y3 + 1))
def f_X12_order_20 (N : Nat)  : Nat → US → (Nat → Int32) → Int32 → Int32 → Int32 → Option (Int32 × US)
  | 0 => fun _ _ _ _ _ => none
  | k + 1 => fun q0 q1 q2 q3 q4 => b_X12_order_20 N  (f_X12_order_20 N  k) q0 q1 q2 q3 q4
def f_X12_order (N : Nat) (v_t : US) (v_t_now : Nat → Int32) (x1 : Int32) : Option (Int32 × US) :=
  if (-1) ≤ x1 then ((f_X12_takeNow N v_t v_t_now).bind fun zr2 => f_X12_order_20 N N zr2 v_t_now x1 1 0) else ((f_X12_bad v_t (-10)).bind fun zr5 => some (zr5.1, zr5.2))
set_option maxRecDepth 100000 in
set_option maxHeartbeats 4000000 in
theorem w_X12_order_109 {p : Program} {l : Launch} {e : Env} {s : State} {m : MethodId} {args : Array Value} {below : List Frame} {meth : Method} {c : Code} {G : GG} {A : Nat → Prop} {o_t : Nat} {a_t : Nat → Nat} {N : Nat} {g49 : US → (Nat → Int32) → Int32 → Int32 → Int32 → Option (Int32 × US)} {v_t : US} {v_t_now : Nat → Int32} {y1 : Int32} {y2 : Int32} {y3 : Int32} {y4 : Int32} {res : Int32 × US} (C : MC RX12 cX12_order 6 (some .int) G A p s m args meth c) (hg49 : ∀ {v_t : US} {v_t_now : Nat → Int32} {y1 : Int32} {y2 : Int32} {y3 : Int32}, g49 v_t v_t_now y1 y2 y3 = some res → ∀ {H : Heap} {locs : List Loc} {ls : Array Slot}, HP G A s [uX12 G o_t a_t v_t, uA G 63 (a_t 0) v_t_now] H locs → lv_has ls 6 [(0, .ref o_t), (1, .int y1), (2, .int y2), (3, .int y3)] → W p l e (rmm 7) s m args below meth c H locs 0 0 (QI below G A args s res.1 [uX12 G o_t a_t res.2, uA G 63 (a_t 0) v_t_now]) (F0 m 49 ls [])) (hf : b_X12_order_109 N g49 v_t v_t_now y1 y2 y3 y4 = some res) {H : Heap} {locs : List Loc} {ls : Array Slot} (h : HP G A s [uX12 G o_t a_t v_t, uA G 63 (a_t 0) v_t_now] H locs) (hl : lv_has ls 6 [(0, .ref o_t), (1, .int y1), (2, .int y2), (3, .int y3), (4, .int y4)]) : W p l e (rmm 7) s m args below meth c H locs 0 0 (QI below G A args s res.1 [uX12 G o_t a_t res.2, uA G 63 (a_t 0) v_t_now]) (F0 m 109 ls []) := by
  unfold b_X12_order_109 at hf
  refine lv_aload_n C.hx C.hb dX12_order_109 rfl (lv_at hl 0 rfl) ?_
  refine lv_iload C.hx C.hb dX12_order_110 (lv_at hl 4 rfl) ?_
  refine lv_aload_n C.hx C.hb dX12_order_112 rfl (lv_at hl 0 rfl) ?_
  refine g_get C h fl_X12_146 0 0 rfl rfl (v := .int (v_t.1 14)) rfl dX12_order_113 ?_
  refine lv_icmp_ge (tgt := 124) C.hx C.hb dX12_order_116 (by decide) (fun zc1 => ?_) (fun zc1 => ?_)
  · replace hf := it_t zc1 hf
    refine lv_aload_n C.hx C.hb dX12_order_124 rfl (lv_at hl 0 rfl) ?_
    refine g_get C h fl_X12_146 0 0 rfl rfl (v := .int (v_t.1 14)) rfl dX12_order_125 ?_
    refine g_put C h fp_X12_146 0 0 rfl rfl rfl rfl (Nat.le_of_ble_eq_true rfl) dX12_order_128 (u' := uX12 G o_t a_t (upi v_t 14 (v_t.1 14))) (us' := [uX12 G o_t a_t (upi v_t 14 (v_t.1 14)), uA G 63 (a_t 0) v_t_now]) rfl rfl (fun H locs h => ?_)
    refine lv_iinc (v := y3 + 1) (lv' := [(3, .int (y3 + 1)), (0, .ref o_t), (1, .int y1), (2, .int y2), (4, .int y4)]) C.hx C.hb dX12_order_131 hl (k := 3) rfl rfl (by decide) rfl (fun ls hl => ?_)
    refine lv_goto (tgt := 49) C.hx C.hb dX12_order_134 (by decide) ?_
    exact hg49 hf h (lv_sub hl [1, 2, 3, 0] rfl)
  · replace hf := it_f zc1 hf
    refine lv_iload C.hx C.hb dX12_order_119 (lv_at hl 4 rfl) ?_
    refine lv_goto (tgt := 128) C.hx C.hb dX12_order_121 (by decide) ?_
    refine g_put C h fp_X12_146 0 0 rfl rfl rfl rfl (Nat.le_of_ble_eq_true rfl) dX12_order_128 (u' := uX12 G o_t a_t (upi v_t 14 y4)) (us' := [uX12 G o_t a_t (upi v_t 14 y4), uA G 63 (a_t 0) v_t_now]) rfl rfl (fun H locs h => ?_)
    refine lv_iinc (v := y3 + 1) (lv' := [(3, .int (y3 + 1)), (0, .ref o_t), (1, .int y1), (2, .int y2), (4, .int y4)]) C.hx C.hb dX12_order_131 hl (k := 3) rfl rfl (by decide) rfl (fun ls hl => ?_)
    refine lv_goto (tgt := 49) C.hx C.hb dX12_order_134 (by decide) ?_
    exact hg49 hf h (lv_sub hl [1, 2, 3, 0] rfl)
set_option maxRecDepth 100000 in
set_option maxHeartbeats 4000000 in
theorem w_X12_order_71 {p : Program} {l : Launch} {e : Env} {s : State} {m : MethodId} {args : Array Value} {below : List Frame} {meth : Method} {c : Code} {G : GG} {A : Nat → Prop} {o_t : Nat} {a_t : Nat → Nat} {N : Nat} {g49 : US → (Nat → Int32) → Int32 → Int32 → Int32 → Option (Int32 × US)} {g71 : US → (Nat → Int32) → Int32 → Int32 → Int32 → Int32 → Int32 → Option (Int32 × US)} {v_t : US} {v_t_now : Nat → Int32} {y1 : Int32} {y2 : Int32} {y3 : Int32} {y4 : Int32} {y5 : Int32} {res : Int32 × US} (C : MC RX12 cX12_order 6 (some .int) G A p s m args meth c) (hg49 : ∀ {v_t : US} {v_t_now : Nat → Int32} {y1 : Int32} {y2 : Int32} {y3 : Int32}, g49 v_t v_t_now y1 y2 y3 = some res → ∀ {H : Heap} {locs : List Loc} {ls : Array Slot}, HP G A s [uX12 G o_t a_t v_t, uA G 63 (a_t 0) v_t_now] H locs → lv_has ls 6 [(0, .ref o_t), (1, .int y1), (2, .int y2), (3, .int y3)] → W p l e (rmm 7) s m args below meth c H locs 0 0 (QI below G A args s res.1 [uX12 G o_t a_t res.2, uA G 63 (a_t 0) v_t_now]) (F0 m 49 ls [])) (hg71 : ∀ {v_t : US} {v_t_now : Nat → Int32} {y1 : Int32} {y2 : Int32} {y3 : Int32} {y4 : Int32} {y5 : Int32}, g71 v_t v_t_now y1 y2 y3 y4 y5 = some res → ∀ {H : Heap} {locs : List Loc} {ls : Array Slot}, HP G A s [uX12 G o_t a_t v_t, uA G 63 (a_t 0) v_t_now] H locs → lv_has ls 6 [(0, .ref o_t), (1, .int y1), (2, .int y2), (3, .int y3), (4, .int y4), (5, .int y5)] → W p l e (rmm 7) s m args below meth c H locs 0 0 (QI below G A args s res.1 [uX12 G o_t a_t res.2, uA G 63 (a_t 0) v_t_now]) (F0 m 71 ls [])) (hf : b_X12_order_71 N g49 g71 v_t v_t_now y1 y2 y3 y4 y5 = some res) {H : Heap} {locs : List Loc} {ls : Array Slot} (h : HP G A s [uX12 G o_t a_t v_t, uA G 63 (a_t 0) v_t_now] H locs) (hl : lv_has ls 6 [(0, .ref o_t), (1, .int y1), (2, .int y2), (3, .int y3), (4, .int y4), (5, .int y5)]) : W p l e (rmm 7) s m args below meth c H locs 0 0 (QI below G A args s res.1 [uX12 G o_t a_t res.2, uA G 63 (a_t 0) v_t_now]) (F0 m 71 ls []) := by
  unfold b_X12_order_71 at hf
  refine lv_iload C.hx C.hb dX12_order_71 (lv_at hl 5 rfl) ?_
  refine lv_aload_n C.hx C.hb dX12_order_73 rfl (lv_at hl 0 rfl) ?_
  obtain ⟨zr1, zq2, hf⟩ := bd_some hf
  have zm3 := c_X12_errands l G o_t a_t (hf := zq2)
  refine g_goI C h zm3.1 (is := [0, 1]) rfl rfl (g_runV C h (is := [0, 1]) rfl rfl (As := []) (rest := [.int y5]) (zm3.2 _) vf_X12_133 0 0 rfl rfl hl.1 rfl rfl (Nat.le_of_ble_eq_true rfl) dX12_order_74 ⟨Nat.le_of_ble_eq_true rfl, Nat.le_of_ble_eq_true rfl⟩ ⟨Nat.le_refl _, Nat.le_refl _⟩) (us2 := [uX12 G o_t a_t v_t, uA G 63 (a_t 0) v_t_now]) rfl (fun H locs h => ?_)
  refine lv_icmp_ge (tgt := 109) C.hx C.hb dX12_order_77 (by decide) (fun zc4 => ?_) (fun zc4 => ?_)
  · replace hf := it_t zc4 hf
    exact w_X12_order_109 C hg49 hf h (lv_sub hl [0, 1, 2, 3, 4] rfl)
  · replace hf := it_f zc4 hf
    refine lv_iload C.hx C.hb dX12_order_80 (lv_at hl 4 rfl) ?_
    refine lv_aload_n C.hx C.hb dX12_order_82 rfl (lv_at hl 0 rfl) ?_
    refine g_get C h fl_X12_146 0 0 rfl rfl (v := .int (v_t.1 14)) rfl dX12_order_83 ?_
    refine lv_icmp_ge (tgt := 109) C.hx C.hb dX12_order_86 (by decide) (fun zc5 => ?_) (fun zc5 => ?_)
    · replace hf := it_t zc5 hf
      exact w_X12_order_109 C hg49 hf h (lv_sub hl [0, 1, 2, 3, 4] rfl)
    · replace hf := it_f zc5 hf
      refine lv_aload_n C.hx C.hb dX12_order_89 rfl (lv_at hl 0 rfl) ?_
      refine g_get C h fl_X12_33 0 0 rfl rfl (v := .ref (a_t 13)) rfl dX12_order_90 ?_
      refine lv_iload C.hx C.hb dX12_order_93 (lv_at hl 5 rfl) ?_
      refine lv_aload_n C.hx C.hb dX12_order_95 rfl (lv_at hl 0 rfl) ?_
      refine g_get C h fl_X12_30 0 0 rfl rfl (v := .ref (a_t 12)) rfl dX12_order_96 ?_
      refine lv_iload C.hx C.hb dX12_order_99 (lv_at hl 5 rfl) ?_
      obtain ⟨zi6, hf⟩ := ck_some hf
      refine g_iald C h 0 5 rfl rfl (f := v_t.2.2 12) zi6 dX12_order_101 ?_
      obtain ⟨zi7, hf⟩ := ck_some hf
      refine g_iast C h 0 6 rfl rfl (f := v_t.2.2 13) zi7 dX12_order_102 (u' := uX12 G o_t a_t (upa v_t 13 y5.toNatClampNeg ((v_t.2.2 12) y5.toNatClampNeg))) (us' := [uX12 G o_t a_t (upa v_t 13 y5.toNatClampNeg ((v_t.2.2 12) y5.toNatClampNeg)), uA G 63 (a_t 0) v_t_now]) rfl rfl (fun H locs h => ?_)
      refine lv_iinc (v := y5 + 1) (lv' := [(5, .int (y5 + 1)), (0, .ref o_t), (1, .int y1), (2, .int y2), (3, .int y3), (4, .int y4)]) C.hx C.hb dX12_order_103 hl (k := 5) rfl rfl (by decide) rfl (fun ls hl => ?_)
      refine lv_goto (tgt := 71) C.hx C.hb dX12_order_106 (by decide) ?_
      exact hg71 hf h (lv_sub hl [1, 2, 3, 4, 5, 0] rfl)
set_option maxRecDepth 100000 in
set_option maxHeartbeats 4000000 in
theorem l_X12_order_71 {p : Program} {l : Launch} {e : Env} {s : State} {m : MethodId} {args : Array Value} {below : List Frame} {meth : Method} {c : Code} {G : GG} {A : Nat → Prop} {o_t : Nat} {a_t : Nat → Nat} {N : Nat} {g49 : US → (Nat → Int32) → Int32 → Int32 → Int32 → Option (Int32 × US)} {res : Int32 × US} (C : MC RX12 cX12_order 6 (some .int) G A p s m args meth c) (hg49 : ∀ {v_t : US} {v_t_now : Nat → Int32} {y1 : Int32} {y2 : Int32} {y3 : Int32}, g49 v_t v_t_now y1 y2 y3 = some res → ∀ {H : Heap} {locs : List Loc} {ls : Array Slot}, HP G A s [uX12 G o_t a_t v_t, uA G 63 (a_t 0) v_t_now] H locs → lv_has ls 6 [(0, .ref o_t), (1, .int y1), (2, .int y2), (3, .int y3)] → W p l e (rmm 7) s m args below meth c H locs 0 0 (QI below G A args s res.1 [uX12 G o_t a_t res.2, uA G 63 (a_t 0) v_t_now]) (F0 m 49 ls [])) : ∀ (k : Nat) {v_t : US} {v_t_now : Nat → Int32} {y1 : Int32} {y2 : Int32} {y3 : Int32} {y4 : Int32} {y5 : Int32}, f_X12_order_71 N g49 k v_t v_t_now y1 y2 y3 y4 y5 = some res → ∀ {H : Heap} {locs : List Loc} {ls : Array Slot}, HP G A s [uX12 G o_t a_t v_t, uA G 63 (a_t 0) v_t_now] H locs → lv_has ls 6 [(0, .ref o_t), (1, .int y1), (2, .int y2), (3, .int y3), (4, .int y4), (5, .int y5)] → W p l e (rmm 7) s m args below meth c H locs 0 0 (QI below G A args s res.1 [uX12 G o_t a_t res.2, uA G 63 (a_t 0) v_t_now]) (F0 m 71 ls []) := by
  intro k
  induction k with
  | zero => intros; contradiction
  | succ k ih =>
    intro v_t v_t_now y1 y2 y3 y4 y5 hf H locs ls h hl
    exact w_X12_order_71 (N := N) C hg49 ih hf h hl
set_option maxRecDepth 100000 in
set_option maxHeartbeats 4000000 in
theorem w_X12_order_49 {p : Program} {l : Launch} {e : Env} {s : State} {m : MethodId} {args : Array Value} {below : List Frame} {meth : Method} {c : Code} {G : GG} {A : Nat → Prop} {o_t : Nat} {a_t : Nat → Nat} {N : Nat} {g49 : US → (Nat → Int32) → Int32 → Int32 → Int32 → Option (Int32 × US)} {v_t : US} {v_t_now : Nat → Int32} {y1 : Int32} {y2 : Int32} {y3 : Int32} {res : Int32 × US} (C : MC RX12 cX12_order 6 (some .int) G A p s m args meth c) (hg49 : ∀ {v_t : US} {v_t_now : Nat → Int32} {y1 : Int32} {y2 : Int32} {y3 : Int32}, g49 v_t v_t_now y1 y2 y3 = some res → ∀ {H : Heap} {locs : List Loc} {ls : Array Slot}, HP G A s [uX12 G o_t a_t v_t, uA G 63 (a_t 0) v_t_now] H locs → lv_has ls 6 [(0, .ref o_t), (1, .int y1), (2, .int y2), (3, .int y3)] → W p l e (rmm 7) s m args below meth c H locs 0 0 (QI below G A args s res.1 [uX12 G o_t a_t res.2, uA G 63 (a_t 0) v_t_now]) (F0 m 49 ls [])) (hf : b_X12_order_49 N g49 v_t v_t_now y1 y2 y3 = some res) {H : Heap} {locs : List Loc} {ls : Array Slot} (h : HP G A s [uX12 G o_t a_t v_t, uA G 63 (a_t 0) v_t_now] H locs) (hl : lv_has ls 6 [(0, .ref o_t), (1, .int y1), (2, .int y2), (3, .int y3)]) : W p l e (rmm 7) s m args below meth c H locs 0 0 (QI below G A args s res.1 [uX12 G o_t a_t res.2, uA G 63 (a_t 0) v_t_now]) (F0 m 49 ls []) := by
  unfold b_X12_order_49 at hf
  refine lv_iload_n C.hx C.hb dX12_order_49 rfl (lv_at hl 3 rfl) ?_
  refine lv_iload_n C.hx C.hb dX12_order_50 rfl (lv_at hl 2 rfl) ?_
  refine lv_icmp_ge (tgt := 137) C.hx C.hb dX12_order_51 (by decide) (fun zc1 => ?_) (fun zc1 => ?_)
  · replace hf := it_t zc1 hf
    refine lv_iload_n C.hx C.hb dX12_order_137 rfl (lv_at hl 1 rfl) ?_
    refine lv_iconst (v := (-1)) C.hx C.hb dX12_order_138 (by decide) ?_
    refine lv_icmp_ne (tgt := 149) C.hx C.hb dX12_order_139 (by decide) (fun zc2 => ?_) (fun zc2 => ?_)
    · replace hf := it_f zc2 hf
      refine lv_iload_n C.hx C.hb dX12_order_149 rfl (lv_at hl 1 rfl) ?_
      refine lv_aload_n C.hx C.hb dX12_order_150 rfl (lv_at hl 0 rfl) ?_
      obtain ⟨zr3, zq4, hf⟩ := bd_some hf
      have zm5 := c_X12_errands l G o_t a_t (hf := zq4)
      refine g_goI C h zm5.1 (is := [0, 1]) rfl rfl (g_runV C h (is := [0, 1]) rfl rfl (As := []) (rest := [.int y1]) (zm5.2 _) vf_X12_133 0 0 rfl rfl hl.1 rfl rfl (Nat.le_of_ble_eq_true rfl) dX12_order_151 ⟨Nat.le_of_ble_eq_true rfl, Nat.le_of_ble_eq_true rfl⟩ ⟨Nat.le_refl _, Nat.le_refl _⟩) (us2 := [uX12 G o_t a_t v_t, uA G 63 (a_t 0) v_t_now]) rfl (fun H locs h => ?_)
      refine lv_icmp_ge (tgt := 166) C.hx C.hb dX12_order_154 (by decide) (fun zc6 => ?_) (fun zc6 => ?_)
      · replace hf := it_t zc6 hf
        refine lv_bipush (v := (-5)) C.hx C.hb dX12_order_166 (by decide) ?_
        obtain rfl := Option.some.inj hf
        exact g_ret_i C h rfl rfl dX12_order_168
      · replace hf := it_f zc6 hf
        refine lv_aload_n C.hx C.hb dX12_order_157 rfl (lv_at hl 0 rfl) ?_
        refine g_get C h fl_X12_33 0 0 rfl rfl (v := .ref (a_t 13)) rfl dX12_order_158 ?_
        refine lv_iload_n C.hx C.hb dX12_order_161 rfl (lv_at hl 1 rfl) ?_
        obtain ⟨zi7, hf⟩ := ck_some hf
        refine g_iald C h 0 6 rfl rfl (f := v_t.2.2 13) zi7 dX12_order_162 ?_
        refine lv_goto (tgt := 168) C.hx C.hb dX12_order_163 (by decide) ?_
        obtain rfl := Option.some.inj hf
        exact g_ret_i C h rfl rfl dX12_order_168
    · replace hf := it_t zc2 hf
      refine lv_aload_n C.hx C.hb dX12_order_142 rfl (lv_at hl 0 rfl) ?_
      refine g_get C h fl_X12_146 0 0 rfl rfl (v := .int (v_t.1 14)) rfl dX12_order_143 ?_
      refine lv_goto (tgt := 168) C.hx C.hb dX12_order_146 (by decide) ?_
      obtain rfl := Option.some.inj hf
      exact g_ret_i C h rfl rfl dX12_order_168
  · replace hf := it_f zc1 hf
    refine lv_aload_n C.hx C.hb dX12_order_54 rfl (lv_at hl 0 rfl) ?_
    refine lv_iload_n C.hx C.hb dX12_order_55 rfl (lv_at hl 3 rfl) ?_
    obtain ⟨zr8, zq9, hf⟩ := bd_some hf
    have zm10 := c_X12_layOrder l G o_t a_t N (hf := zq9)
    refine g_goI C h zm10.1 (is := [0, 1]) rfl rfl (g_runV C h (is := [0, 1]) rfl rfl (As := [.int y3]) (rest := []) (zm10.2 _) vf_X12_149 0 0 rfl rfl hl.1 rfl rfl (Nat.le_of_ble_eq_true rfl) dX12_order_56 ⟨Nat.le_of_ble_eq_true rfl, Nat.le_of_ble_eq_true rfl⟩ ⟨Nat.le_refl _, Nat.le_refl _⟩) (us2 := [uX12 G o_t a_t zr8.2, uA G 63 (a_t 0) v_t_now]) rfl (fun H locs h => ?_)
    refine lv_if_eq (tgt := 131) C.hx C.hb dX12_order_59 (by decide) (fun zc11 => ?_) (fun zc11 => ?_)
    · replace hf := it_t zc11 hf
      refine lv_iinc (v := y3 + 1) (lv' := [(3, .int (y3 + 1)), (0, .ref o_t), (1, .int y1), (2, .int y2)]) C.hx C.hb dX12_order_131 hl (k := 3) rfl rfl (by decide) rfl (fun ls hl => ?_)
      refine lv_goto (tgt := 49) C.hx C.hb dX12_order_134 (by decide) ?_
      exact hg49 hf h (lv_sub hl [1, 2, 3, 0] rfl)
    · replace hf := it_f zc11 hf
      refine lv_aload_n C.hx C.hb dX12_order_62 rfl (lv_at hl 0 rfl) ?_
      obtain ⟨zr12, zq13, hf⟩ := bd_some hf
      have zm14 := c_X12_harmOfRow l G o_t a_t N (hf := zq13)
      refine g_goI C h zm14.1 (is := [0, 1]) rfl rfl (g_runV C h (is := [0, 1]) rfl rfl (As := []) (rest := []) (zm14.2 _) vf_X12_152 0 0 rfl rfl hl.1 rfl rfl (Nat.le_of_ble_eq_true rfl) dX12_order_63 ⟨Nat.le_of_ble_eq_true rfl, Nat.le_of_ble_eq_true rfl⟩ ⟨Nat.le_refl _, Nat.le_refl _⟩) (us2 := [uX12 G o_t a_t zr12.2, uA G 63 (a_t 0) v_t_now]) rfl (fun H locs h => ?_)
      refine lv_istore (lv' := [(4, .int zr12.1), (0, .ref o_t), (1, .int y1), (2, .int y2), (3, .int y3)]) C.hx C.hb dX12_order_66 hl (by decide) rfl (fun ls hl => ?_)
      refine lv_iconst (v := 0) C.hx C.hb dX12_order_68 (by decide) ?_
      refine lv_istore (lv' := [(5, .int 0), (4, .int zr12.1), (0, .ref o_t), (1, .int y1), (2, .int y2), (3, .int y3)]) C.hx C.hb dX12_order_69 hl (by decide) rfl (fun ls hl => ?_)
      exact l_X12_order_71 C hg49 N hf h (lv_sub hl [2, 3, 4, 5, 1, 0] rfl)
set_option maxRecDepth 100000 in
set_option maxHeartbeats 4000000 in
theorem l_X12_order_49 {p : Program} {l : Launch} {e : Env} {s : State} {m : MethodId} {args : Array Value} {below : List Frame} {meth : Method} {c : Code} {G : GG} {A : Nat → Prop} {o_t : Nat} {a_t : Nat → Nat} {N : Nat}  {res : Int32 × US} (C : MC RX12 cX12_order 6 (some .int) G A p s m args meth c)  : ∀ (k : Nat) {v_t : US} {v_t_now : Nat → Int32} {y1 : Int32} {y2 : Int32} {y3 : Int32}, f_X12_order_49 N k v_t v_t_now y1 y2 y3 = some res → ∀ {H : Heap} {locs : List Loc} {ls : Array Slot}, HP G A s [uX12 G o_t a_t v_t, uA G 63 (a_t 0) v_t_now] H locs → lv_has ls 6 [(0, .ref o_t), (1, .int y1), (2, .int y2), (3, .int y3)] → W p l e (rmm 7) s m args below meth c H locs 0 0 (QI below G A args s res.1 [uX12 G o_t a_t res.2, uA G 63 (a_t 0) v_t_now]) (F0 m 49 ls []) := by
  intro k
  induction k with
  | zero => intros; contradiction
  | succ k ih =>
    intro v_t v_t_now y1 y2 y3 hf H locs ls h hl
    exact w_X12_order_49 (N := N) C ih hf h hl
set_option maxRecDepth 100000 in
set_option maxHeartbeats 4000000 in
theorem w_X12_order_20 {p : Program} {l : Launch} {e : Env} {s : State} {m : MethodId} {args : Array Value} {below : List Frame} {meth : Method} {c : Code} {G : GG} {A : Nat → Prop} {o_t : Nat} {a_t : Nat → Nat} {N : Nat} {g20 : US → (Nat → Int32) → Int32 → Int32 → Int32 → Option (Int32 × US)} {v_t : US} {v_t_now : Nat → Int32} {y1 : Int32} {y2 : Int32} {y3 : Int32} {res : Int32 × US} (C : MC RX12 cX12_order 6 (some .int) G A p s m args meth c) (hg20 : ∀ {v_t : US} {v_t_now : Nat → Int32} {y1 : Int32} {y2 : Int32} {y3 : Int32}, g20 v_t v_t_now y1 y2 y3 = some res → ∀ {H : Heap} {locs : List Loc} {ls : Array Slot}, HP G A s [uX12 G o_t a_t v_t, uA G 63 (a_t 0) v_t_now] H locs → lv_has ls 6 [(0, .ref o_t), (1, .int y1), (2, .int y2), (3, .int y3)] → W p l e (rmm 7) s m args below meth c H locs 0 0 (QI below G A args s res.1 [uX12 G o_t a_t res.2, uA G 63 (a_t 0) v_t_now]) (F0 m 20 ls [])) (hf : b_X12_order_20 N g20 v_t v_t_now y1 y2 y3 = some res) {H : Heap} {locs : List Loc} {ls : Array Slot} (h : HP G A s [uX12 G o_t a_t v_t, uA G 63 (a_t 0) v_t_now] H locs) (hl : lv_has ls 6 [(0, .ref o_t), (1, .int y1), (2, .int y2), (3, .int y3)]) : W p l e (rmm 7) s m args below meth c H locs 0 0 (QI below G A args s res.1 [uX12 G o_t a_t res.2, uA G 63 (a_t 0) v_t_now]) (F0 m 20 ls []) := by
  unfold b_X12_order_20 at hf
  refine lv_iload_n C.hx C.hb dX12_order_20 rfl (lv_at hl 3 rfl) ?_
  refine lv_aload_n C.hx C.hb dX12_order_21 rfl (lv_at hl 0 rfl) ?_
  obtain ⟨zr1, zq2, hf⟩ := bd_some hf
  have zm3 := c_X12_errands l G o_t a_t (hf := zq2)
  refine g_goI C h zm3.1 (is := [0, 1]) rfl rfl (g_runV C h (is := [0, 1]) rfl rfl (As := []) (rest := [.int y3]) (zm3.2 _) vf_X12_133 0 0 rfl rfl hl.1 rfl rfl (Nat.le_of_ble_eq_true rfl) dX12_order_22 ⟨Nat.le_of_ble_eq_true rfl, Nat.le_of_ble_eq_true rfl⟩ ⟨Nat.le_refl _, Nat.le_refl _⟩) (us2 := [uX12 G o_t a_t v_t, uA G 63 (a_t 0) v_t_now]) rfl (fun H locs h => ?_)
  refine lv_icmp_ge (tgt := 41) C.hx C.hb dX12_order_25 (by decide) (fun zc4 => ?_) (fun zc4 => ?_)
  · replace hf := it_t zc4 hf
    refine lv_aload_n C.hx C.hb dX12_order_41 rfl (lv_at hl 0 rfl) ?_
    refine lv_ldc C.hx C.hb C.hown (C.hts _ cw_X12_145) dX12_order_42 ?_
    refine g_put C h fp_X12_146 0 0 rfl rfl rfl rfl (Nat.le_of_ble_eq_true rfl) dX12_order_44 (u' := uX12 G o_t a_t (upi v_t 14 100000)) (us' := [uX12 G o_t a_t (upi v_t 14 100000), uA G 63 (a_t 0) v_t_now]) rfl rfl (fun H locs h => ?_)
    refine lv_iconst (v := 0) C.hx C.hb dX12_order_47 (by decide) ?_
    refine lv_istore_n (lv' := [(3, .int 0), (0, .ref o_t), (1, .int y1), (2, .int y2)]) C.hx C.hb dX12_order_48 rfl hl (by decide) rfl (fun ls hl => ?_)
    exact l_X12_order_49 C N hf h (lv_sub hl [1, 2, 3, 0] rfl)
  · replace hf := it_f zc4 hf
    refine lv_iload_n C.hx C.hb dX12_order_28 rfl (lv_at hl 2 rfl) ?_
    refine lv_aload_n C.hx C.hb dX12_order_29 rfl (lv_at hl 0 rfl) ?_
    obtain ⟨zr5, zq6, hf⟩ := bd_some hf
    have zm7 := c_X12_errands l G o_t a_t (hf := zq6)
    refine g_goI C h zm7.1 (is := [0, 1]) rfl rfl (g_runV C h (is := [0, 1]) rfl rfl (As := []) (rest := [.int y2]) (zm7.2 _) vf_X12_133 0 0 rfl rfl hl.1 rfl rfl (Nat.le_of_ble_eq_true rfl) dX12_order_30 ⟨Nat.le_of_ble_eq_true rfl, Nat.le_of_ble_eq_true rfl⟩ ⟨Nat.le_refl _, Nat.le_refl _⟩) (us2 := [uX12 G o_t a_t v_t, uA G 63 (a_t 0) v_t_now]) rfl (fun H locs h => ?_)
    refine lv_imul C.hx C.hb dX12_order_33 ?_
    refine lv_istore_n (lv' := [(2, .int (y2 * zr5)), (0, .ref o_t), (1, .int y1), (3, .int y3)]) C.hx C.hb dX12_order_34 rfl hl (by decide) rfl (fun ls hl => ?_)
    refine lv_iinc (v := y3 + 1) (lv' := [(3, .int (y3 + 1)), (2, .int (y2 * zr5)), (0, .ref o_t), (1, .int y1)]) C.hx C.hb dX12_order_35 hl (k := 3) rfl rfl (by decide) rfl (fun ls hl => ?_)
    refine lv_goto (tgt := 20) C.hx C.hb dX12_order_38 (by decide) ?_
    exact hg20 hf h (lv_sub hl [2, 3, 1, 0] rfl)
set_option maxRecDepth 100000 in
set_option maxHeartbeats 4000000 in
theorem l_X12_order_20 {p : Program} {l : Launch} {e : Env} {s : State} {m : MethodId} {args : Array Value} {below : List Frame} {meth : Method} {c : Code} {G : GG} {A : Nat → Prop} {o_t : Nat} {a_t : Nat → Nat} {N : Nat}  {res : Int32 × US} (C : MC RX12 cX12_order 6 (some .int) G A p s m args meth c)  : ∀ (k : Nat) {v_t : US} {v_t_now : Nat → Int32} {y1 : Int32} {y2 : Int32} {y3 : Int32}, f_X12_order_20 N k v_t v_t_now y1 y2 y3 = some res → ∀ {H : Heap} {locs : List Loc} {ls : Array Slot}, HP G A s [uX12 G o_t a_t v_t, uA G 63 (a_t 0) v_t_now] H locs → lv_has ls 6 [(0, .ref o_t), (1, .int y1), (2, .int y2), (3, .int y3)] → W p l e (rmm 7) s m args below meth c H locs 0 0 (QI below G A args s res.1 [uX12 G o_t a_t res.2, uA G 63 (a_t 0) v_t_now]) (F0 m 20 ls []) := by
  intro k
  induction k with
  | zero => intros; contradiction
  | succ k ih =>
    intro v_t v_t_now y1 y2 y3 hf H locs ls h hl
    exact w_X12_order_20 (N := N) C ih hf h hl
set_option maxRecDepth 100000 in
set_option maxHeartbeats 4000000 in
theorem c_X12_order (l : Launch) (G : GG) (o_t : Nat) (a_t : Nat → Nat) (N : Nat) {v_t : US} {v_t_now : Nat → Int32} {x1 : Int32} {res : Int32 × US} (hf : f_X12_order N v_t v_t_now x1 = some res) : MI l yX12_order cX12_order 6 (some .int) 7 [.ref o_t, .int x1] G [uX12 G o_t a_t v_t, uA G 63 (a_t 0) v_t_now] res.1 [uX12 G o_t a_t res.2, uA G 63 (a_t 0) v_t_now] := by
  unfold f_X12_order at hf
  refine MI.intro (by decide) rfl (Nat.le_of_ble_eq_true rfl) (fun p e s m args below meth c A ls C h hl => ?_)
  have C : MC RX12 cX12_order 6 (some .int) G A p s m args meth c := C
  have hl : lv_has ls 6 [(0, .ref o_t), (1, .int x1)] := hl
  refine lv_iload_n C.hx C.hb dX12_order_0 rfl (lv_at hl 1 rfl) ?_
  refine lv_iconst (v := (-1)) C.hx C.hb dX12_order_1 (by decide) ?_
  refine lv_icmp_ge (tgt := 12) C.hx C.hb dX12_order_2 (by decide) (fun zc1 => ?_) (fun zc1 => ?_)
  · replace hf := it_t zc1 hf
    refine lv_aload_n C.hx C.hb dX12_order_12 rfl (lv_at hl 0 rfl) ?_
    obtain ⟨zr2, zq3, hf⟩ := bd_some hf
    have zm4 := c_X12_takeNow l G o_t a_t N (hf := zq3)
    refine g_goV C h zm4.1 (is := [0, 1]) rfl rfl (g_runV C h (is := [0, 1]) rfl rfl (As := []) (rest := []) (zm4.2 _) vf_X12_123 0 0 rfl rfl hl.1 rfl rfl (Nat.le_of_ble_eq_true rfl) dX12_order_13 ⟨Nat.le_of_ble_eq_true rfl, Nat.le_of_ble_eq_true rfl⟩ ⟨Nat.le_refl _, Nat.le_refl _⟩) (us2 := [uX12 G o_t a_t zr2, uA G 63 (a_t 0) v_t_now]) rfl (fun H locs h => ?_)
    refine lv_iconst (v := 1) C.hx C.hb dX12_order_16 (by decide) ?_
    refine lv_istore_n (lv' := [(2, .int 1), (0, .ref o_t), (1, .int x1)]) C.hx C.hb dX12_order_17 rfl hl (by decide) rfl (fun ls hl => ?_)
    refine lv_iconst (v := 0) C.hx C.hb dX12_order_18 (by decide) ?_
    refine lv_istore_n (lv' := [(3, .int 0), (2, .int 1), (0, .ref o_t), (1, .int x1)]) C.hx C.hb dX12_order_19 rfl hl (by decide) rfl (fun ls hl => ?_)
    exact l_X12_order_20 C N hf h (lv_sub hl [2, 3, 1, 0] rfl)
  · replace hf := it_f zc1 hf
    refine lv_aload_n C.hx C.hb dX12_order_5 rfl (lv_at hl 0 rfl) ?_
    refine lv_bipush (v := (-10)) C.hx C.hb dX12_order_6 (by decide) ?_
    obtain ⟨zr5, zq6, hf⟩ := bd_some hf
    have zm7 := c_X12_bad l G o_t a_t (hf := zq6)
    refine g_goI C h zm7.1 (is := [0]) rfl rfl (g_runV C h (is := [0]) rfl rfl (As := [.int (-10)]) (rest := []) (zm7.2 _) vf_X12_60 0 0 rfl rfl hl.1 rfl rfl (Nat.le_of_ble_eq_true rfl) dX12_order_8 ⟨Nat.le_of_ble_eq_true rfl, Nat.le_of_ble_eq_true rfl⟩ ⟨Nat.le_refl _, Nat.le_refl _⟩) (us2 := [uX12 G o_t a_t zr5.2, uA G 63 (a_t 0) v_t_now]) rfl (fun H locs h => ?_)
    obtain rfl := Option.some.inj hf
    exact g_ret_i C h rfl rfl dX12_order_11

def f_X12_part (v_t : US) (x1 : Int32) : Option (Int64 × US) :=
  if x1 = 0 then (some (v_t.2.1 4, v_t)) else (if x1 = 1 then (some (v_t.2.1 5, v_t)) else ((f_X12_bad v_t (-1000)).bind fun zr3 => some (zr3.1.toInt64, zr3.2)))
set_option maxRecDepth 100000 in
set_option maxHeartbeats 4000000 in
theorem c_X12_part (l : Launch) (G : GG) (o_t : Nat) (a_t : Nat → Nat) {v_t : US} {x1 : Int32} {res : Int64 × US} (hf : f_X12_part v_t x1 = some res) : ML l yX12_part cX12_part 2 (some .long) 2 [.ref o_t, .int x1] G [uX12 G o_t a_t v_t] res.1 [uX12 G o_t a_t res.2] := by
  unfold f_X12_part at hf
  refine ML.intro (by decide) rfl (Nat.le_of_ble_eq_true rfl) (fun p e s m args below meth c A ls C h hl => ?_)
  have C : MC RX12 cX12_part 2 (some .long) G A p s m args meth c := C
  have hl : lv_has ls 2 [(0, .ref o_t), (1, .int x1)] := hl
  refine lv_iload_n C.hx C.hb dX12_part_0 rfl (lv_at hl 1 rfl) ?_
  refine lv_if_ne (tgt := 11) C.hx C.hb dX12_part_1 (by decide) (fun zc1 => ?_) (fun zc1 => ?_)
  · replace hf := it_f zc1 hf
    refine lv_iload_n C.hx C.hb dX12_part_11 rfl (lv_at hl 1 rfl) ?_
    refine lv_iconst (v := 1) C.hx C.hb dX12_part_12 (by decide) ?_
    refine lv_icmp_ne (tgt := 23) C.hx C.hb dX12_part_13 (by decide) (fun zc2 => ?_) (fun zc2 => ?_)
    · replace hf := it_f zc2 hf
      refine lv_aload_n C.hx C.hb dX12_part_23 rfl (lv_at hl 0 rfl) ?_
      refine lv_sipush (v := (-1000)) C.hx C.hb dX12_part_24 (by decide) ?_
      obtain ⟨zr3, zq4, hf⟩ := bd_some hf
      have zm5 := c_X12_bad l G o_t a_t (hf := zq4)
      refine g_goI C h zm5.1 (is := [0]) rfl rfl (g_runV C h (is := [0]) rfl rfl (As := [.int (-1000)]) (rest := []) (zm5.2 _) vf_X12_60 0 0 rfl rfl hl.1 rfl rfl (Nat.le_of_ble_eq_true rfl) dX12_part_27 ⟨Nat.le_of_ble_eq_true rfl, Nat.le_of_ble_eq_true rfl⟩ ⟨Nat.le_refl _, Nat.le_refl _⟩) (us2 := [uX12 G o_t a_t zr3.2]) rfl (fun H locs h => ?_)
      refine lv_i2l C.hx C.hb dX12_part_30 rfl ?_
      obtain rfl := Option.some.inj hf
      exact g_ret_l C h rfl rfl dX12_part_31
    · replace hf := it_t zc2 hf
      refine lv_aload_n C.hx C.hb dX12_part_16 rfl (lv_at hl 0 rfl) ?_
      refine g_get C h fl_X12_23 0 0 rfl rfl (v := .long (v_t.2.1 5)) rfl dX12_part_17 ?_
      refine lv_goto (tgt := 31) C.hx C.hb dX12_part_20 (by decide) ?_
      obtain rfl := Option.some.inj hf
      exact g_ret_l C h rfl rfl dX12_part_31
  · replace hf := it_t zc1 hf
    refine lv_aload_n C.hx C.hb dX12_part_4 rfl (lv_at hl 0 rfl) ?_
    refine g_get C h fl_X12_183 0 0 rfl rfl (v := .long (v_t.2.1 4)) rfl dX12_part_5 ?_
    refine lv_goto (tgt := 31) C.hx C.hb dX12_part_8 (by decide) ?_
    obtain rfl := Option.some.inj hf
    exact g_ret_l C h rfl rfl dX12_part_31

def f_X12_pull (N : Nat) (v_t : US) (v_t_now : Nat → Int32) (x1 : Int32) (x2 : Int32) : Option (Int32 × US × (Nat → Int32)) :=
  (f_X12_isPull v_t v_t_now x1 x2).bind fun zr1 => if (b2i zr1) = 0 then ((f_X12_bad v_t (-2)).bind fun zr14 => some (zr14.1, zr14.2, v_t_now)) else ((f_X12_takeNow N v_t v_t_now).bind fun zr5 => (f_X12_onePull zr5 x1 x2).bind fun zr8 => (f_X12_goPull N zr8 v_t_now).bind fun zr11 => some (zr11.1, zr8, zr11.2))
set_option maxRecDepth 100000 in
set_option maxHeartbeats 4000000 in
theorem c_X12_pull (l : Launch) (G : GG) (o_t : Nat) (a_t : Nat → Nat) (N : Nat) {v_t : US} {v_t_now : Nat → Int32} {x1 : Int32} {x2 : Int32} {res : Int32 × US × (Nat → Int32)} (hf : f_X12_pull N v_t v_t_now x1 x2 = some res) : MI l yX12_pull cX12_pull 3 (some .int) 6 [.ref o_t, .int x1, .int x2] G [uX12 G o_t a_t v_t, uA G 63 (a_t 0) v_t_now] res.1 [uX12 G o_t a_t res.2.1, uA G 63 (a_t 0) res.2.2] := by
  unfold f_X12_pull at hf
  refine MI.intro (by decide) rfl (Nat.le_of_ble_eq_true rfl) (fun p e s m args below meth c A ls C h hl => ?_)
  have C : MC RX12 cX12_pull 3 (some .int) G A p s m args meth c := C
  have hl : lv_has ls 3 [(0, .ref o_t), (1, .int x1), (2, .int x2)] := hl
  refine lv_aload_n C.hx C.hb dX12_pull_0 rfl (lv_at hl 0 rfl) ?_
  refine lv_iload_n C.hx C.hb dX12_pull_1 rfl (lv_at hl 1 rfl) ?_
  refine lv_iload_n C.hx C.hb dX12_pull_2 rfl (lv_at hl 2 rfl) ?_
  obtain ⟨zr1, zq2, hf⟩ := bd_some hf
  have zm3 := c_X12_isPull l G o_t a_t (hf := zq2)
  refine g_goI C h zm3.1 (is := [0, 1]) rfl rfl (g_runV C h (is := [0, 1]) rfl rfl (As := [.int x1, .int x2]) (rest := []) (zm3.2 _) vf_X12_119 0 0 rfl rfl hl.1 rfl rfl (Nat.le_of_ble_eq_true rfl) dX12_pull_3 ⟨Nat.le_of_ble_eq_true rfl, Nat.le_of_ble_eq_true rfl⟩ ⟨Nat.le_refl _, Nat.le_refl _⟩) (us2 := [uX12 G o_t a_t v_t, uA G 63 (a_t 0) v_t_now]) rfl (fun H locs h => ?_)
  refine lv_if_ne (tgt := 16) C.hx C.hb dX12_pull_6 (by decide) (fun zc4 => ?_) (fun zc4 => ?_)
  · replace hf := it_f zc4 hf
    refine lv_aload_n C.hx C.hb dX12_pull_16 rfl (lv_at hl 0 rfl) ?_
    obtain ⟨zr5, zq6, hf⟩ := bd_some hf
    have zm7 := c_X12_takeNow l G o_t a_t N (hf := zq6)
    refine g_goV C h zm7.1 (is := [0, 1]) rfl rfl (g_runV C h (is := [0, 1]) rfl rfl (As := []) (rest := []) (zm7.2 _) vf_X12_123 0 0 rfl rfl hl.1 rfl rfl (Nat.le_of_ble_eq_true rfl) dX12_pull_17 ⟨Nat.le_of_ble_eq_true rfl, Nat.le_of_ble_eq_true rfl⟩ ⟨Nat.le_refl _, Nat.le_refl _⟩) (us2 := [uX12 G o_t a_t zr5, uA G 63 (a_t 0) v_t_now]) rfl (fun H locs h => ?_)
    refine lv_aload_n C.hx C.hb dX12_pull_20 rfl (lv_at hl 0 rfl) ?_
    refine lv_iload_n C.hx C.hb dX12_pull_21 rfl (lv_at hl 1 rfl) ?_
    refine lv_iload_n C.hx C.hb dX12_pull_22 rfl (lv_at hl 2 rfl) ?_
    obtain ⟨zr8, zq9, hf⟩ := bd_some hf
    have zm10 := c_X12_onePull l G o_t a_t (hf := zq9)
    refine g_goV C h zm10.1 (is := [0]) rfl rfl (g_runV C h (is := [0]) rfl rfl (As := [.int x1, .int x2]) (rest := []) (zm10.2 _) vf_X12_126 0 0 rfl rfl hl.1 rfl rfl (Nat.le_of_ble_eq_true rfl) dX12_pull_23 ⟨Nat.le_of_ble_eq_true rfl, Nat.le_of_ble_eq_true rfl⟩ ⟨Nat.le_refl _, Nat.le_refl _⟩) (us2 := [uX12 G o_t a_t zr8, uA G 63 (a_t 0) v_t_now]) rfl (fun H locs h => ?_)
    refine lv_aload_n C.hx C.hb dX12_pull_26 rfl (lv_at hl 0 rfl) ?_
    obtain ⟨zr11, zq12, hf⟩ := bd_some hf
    have zm13 := c_X12_goPull l G o_t a_t N (hf := zq12)
    refine g_goI C h zm13.1 (is := [0, 1]) rfl rfl (g_runV C h (is := [0, 1]) rfl rfl (As := []) (rest := []) (zm13.2 _) vf_X12_130 0 0 rfl rfl hl.1 rfl rfl (Nat.le_of_ble_eq_true rfl) dX12_pull_27 ⟨Nat.le_of_ble_eq_true rfl, Nat.le_of_ble_eq_true rfl⟩ ⟨Nat.le_refl _, Nat.le_refl _⟩) (us2 := [uX12 G o_t a_t zr8, uA G 63 (a_t 0) zr11.2]) rfl (fun H locs h => ?_)
    obtain rfl := Option.some.inj hf
    exact g_ret_i C h rfl rfl dX12_pull_30
  · replace hf := it_t zc4 hf
    refine lv_aload_n C.hx C.hb dX12_pull_9 rfl (lv_at hl 0 rfl) ?_
    refine lv_bipush (v := (-2)) C.hx C.hb dX12_pull_10 (by decide) ?_
    obtain ⟨zr14, zq15, hf⟩ := bd_some hf
    have zm16 := c_X12_bad l G o_t a_t (hf := zq15)
    refine g_goI C h zm16.1 (is := [0]) rfl rfl (g_runV C h (is := [0]) rfl rfl (As := [.int (-2)]) (rest := []) (zm16.2 _) vf_X12_60 0 0 rfl rfl hl.1 rfl rfl (Nat.le_of_ble_eq_true rfl) dX12_pull_12 ⟨Nat.le_of_ble_eq_true rfl, Nat.le_of_ble_eq_true rfl⟩ ⟨Nat.le_refl _, Nat.le_refl _⟩) (us2 := [uX12 G o_t a_t zr14.2, uA G 63 (a_t 0) v_t_now]) rfl (fun H locs h => ?_)
    obtain rfl := Option.some.inj hf
    exact g_ret_i C h rfl rfl dX12_pull_15

def f_X12_readsCut (N : Nat) (v_t : US) (v_t_next : Nat → Int32)  : Option (Bool × US × (Nat → Int32)) :=
  (f_X12_goOn N v_t).bind fun zr1 => if (zr1.1 20) = 2 then (if (0 : Int32) < 0 ∨ 52 ≤ (0 : Int32).toNatClampNeg then none else (if (v_t_next (0 : Int32).toNatClampNeg) ≤ (zr1.1 21) then (some (false, zr1, v_t_next)) else (if ((1 + (5 * (zr1.1 21))) + 4) < 0 ∨ 52 ≤ ((1 + (5 * (zr1.1 21))) + 4).toNatClampNeg then none else (if (v_t_next ((1 + (5 * (zr1.1 21))) + 4).toNatClampNeg) = 0 then (some (false, zr1, v_t_next)) else (if ((1 + (5 * (zr1.1 21))) + 4) < 0 ∨ 52 ≤ ((1 + (5 * (zr1.1 21))) + 4).toNatClampNeg then none else ((f_X12_goOn N zr1).bind fun zr10 => some (true, zr10, upd v_t_next ((1 + (5 * (zr1.1 21))) + 4).toNatClampNeg 0))))))) else (some (false, zr1, v_t_next))
set_option maxRecDepth 100000 in
set_option maxHeartbeats 4000000 in
theorem c_X12_readsCut (l : Launch) (G : GG) (o_t : Nat) (a_t : Nat → Nat) (N : Nat) {v_t : US} {v_t_next : Nat → Int32}  {res : Bool × US × (Nat → Int32)} (hf : f_X12_readsCut N v_t v_t_next = some res) : MI l yX12_readsCut cX12_readsCut 1 (some .boolean) 5 [.ref o_t] G [uX12 G o_t a_t v_t, uA G 52 (a_t 22) v_t_next] (b2i res.1) [uX12 G o_t a_t res.2.1, uA G 52 (a_t 22) res.2.2] := by
  unfold f_X12_readsCut at hf
  refine MI.intro (by decide) rfl (Nat.le_of_ble_eq_true rfl) (fun p e s m args below meth c A ls C h hl => ?_)
  have C : MC RX12 cX12_readsCut 1 (some .boolean) G A p s m args meth c := C
  have hl : lv_has ls 1 [(0, .ref o_t)] := hl
  refine lv_aload_n C.hx C.hb dX12_readsCut_0 rfl (lv_at hl 0 rfl) ?_
  obtain ⟨zr1, zq2, hf⟩ := bd_some hf
  have zm3 := c_X12_goOn l G o_t a_t N (hf := zq2)
  refine g_goV C h zm3.1 (is := [0]) rfl rfl (g_runV C h (is := [0]) rfl rfl (As := []) (rest := []) (zm3.2 _) vf_X12_222 0 0 rfl rfl hl.1 rfl rfl (Nat.le_of_ble_eq_true rfl) dX12_readsCut_1 ⟨Nat.le_of_ble_eq_true rfl, Nat.le_of_ble_eq_true rfl⟩ ⟨Nat.le_refl _, Nat.le_refl _⟩) (us2 := [uX12 G o_t a_t zr1, uA G 52 (a_t 22) v_t_next]) rfl (fun H locs h => ?_)
  refine lv_aload_n C.hx C.hb dX12_readsCut_4 rfl (lv_at hl 0 rfl) ?_
  refine g_get C h fl_X12_207 0 0 rfl rfl (v := .int (zr1.1 20)) rfl dX12_readsCut_5 ?_
  refine lv_iconst (v := 2) C.hx C.hb dX12_readsCut_8 (by decide) ?_
  refine lv_icmp_ne (tgt := 43) C.hx C.hb dX12_readsCut_9 (by decide) (fun zc4 => ?_) (fun zc4 => ?_)
  · replace hf := it_f zc4 hf
    refine lv_iconst (v := 0) C.hx C.hb dX12_readsCut_43 (by decide) ?_
    obtain rfl := Option.some.inj hf
    exact g_ret_z (b := false) C h rfl rfl rfl dX12_readsCut_44
  · replace hf := it_t zc4 hf
    refine lv_aload_n C.hx C.hb dX12_readsCut_12 rfl (lv_at hl 0 rfl) ?_
    refine g_get C h fl_X12_210 0 0 rfl rfl (v := .int (zr1.1 21)) rfl dX12_readsCut_13 ?_
    refine lv_aload_n C.hx C.hb dX12_readsCut_16 rfl (lv_at hl 0 rfl) ?_
    refine g_get C h fl_X12_42 0 0 rfl rfl (v := .ref (a_t 22)) rfl dX12_readsCut_17 ?_
    refine lv_iconst (v := 0) C.hx C.hb dX12_readsCut_20 (by decide) ?_
    obtain ⟨zi5, hf⟩ := ck_some hf
    refine g_iald C h 1 0 rfl rfl (f := v_t_next) zi5 dX12_readsCut_21 ?_
    refine lv_icmp_ge (tgt := 43) C.hx C.hb dX12_readsCut_22 (by decide) (fun zc6 => ?_) (fun zc6 => ?_)
    · replace hf := it_t zc6 hf
      refine lv_iconst (v := 0) C.hx C.hb dX12_readsCut_43 (by decide) ?_
      obtain rfl := Option.some.inj hf
      exact g_ret_z (b := false) C h rfl rfl rfl dX12_readsCut_44
    · replace hf := it_f zc6 hf
      refine lv_aload_n C.hx C.hb dX12_readsCut_25 rfl (lv_at hl 0 rfl) ?_
      refine g_get C h fl_X12_42 0 0 rfl rfl (v := .ref (a_t 22)) rfl dX12_readsCut_26 ?_
      refine lv_iconst (v := 1) C.hx C.hb dX12_readsCut_29 (by decide) ?_
      refine lv_iconst (v := 5) C.hx C.hb dX12_readsCut_30 (by decide) ?_
      refine lv_aload_n C.hx C.hb dX12_readsCut_31 rfl (lv_at hl 0 rfl) ?_
      refine g_get C h fl_X12_210 0 0 rfl rfl (v := .int (zr1.1 21)) rfl dX12_readsCut_32 ?_
      refine lv_imul C.hx C.hb dX12_readsCut_35 ?_
      refine lv_iadd C.hx C.hb dX12_readsCut_36 ?_
      refine lv_iconst (v := 4) C.hx C.hb dX12_readsCut_37 (by decide) ?_
      refine lv_iadd C.hx C.hb dX12_readsCut_38 ?_
      obtain ⟨zi7, hf⟩ := ck_some hf
      refine g_iald C h 1 0 rfl rfl (f := v_t_next) zi7 dX12_readsCut_39 ?_
      refine lv_if_ne (tgt := 45) C.hx C.hb dX12_readsCut_40 (by decide) (fun zc8 => ?_) (fun zc8 => ?_)
      · replace hf := it_f zc8 hf
        refine lv_aload_n C.hx C.hb dX12_readsCut_45 rfl (lv_at hl 0 rfl) ?_
        refine g_get C h fl_X12_42 0 0 rfl rfl (v := .ref (a_t 22)) rfl dX12_readsCut_46 ?_
        refine lv_iconst (v := 1) C.hx C.hb dX12_readsCut_49 (by decide) ?_
        refine lv_iconst (v := 5) C.hx C.hb dX12_readsCut_50 (by decide) ?_
        refine lv_aload_n C.hx C.hb dX12_readsCut_51 rfl (lv_at hl 0 rfl) ?_
        refine g_get C h fl_X12_210 0 0 rfl rfl (v := .int (zr1.1 21)) rfl dX12_readsCut_52 ?_
        refine lv_imul C.hx C.hb dX12_readsCut_55 ?_
        refine lv_iadd C.hx C.hb dX12_readsCut_56 ?_
        refine lv_iconst (v := 4) C.hx C.hb dX12_readsCut_57 (by decide) ?_
        refine lv_iadd C.hx C.hb dX12_readsCut_58 ?_
        refine lv_iconst (v := 0) C.hx C.hb dX12_readsCut_59 (by decide) ?_
        obtain ⟨zi9, hf⟩ := ck_some hf
        refine g_iast C h 1 0 rfl rfl (f := v_t_next) zi9 dX12_readsCut_60 (u' := uA G 52 (a_t 22) (upd v_t_next ((1 + (5 * (zr1.1 21))) + 4).toNatClampNeg 0)) (us' := [uX12 G o_t a_t zr1, uA G 52 (a_t 22) (upd v_t_next ((1 + (5 * (zr1.1 21))) + 4).toNatClampNeg 0)]) rfl rfl (fun H locs h => ?_)
        refine lv_aload_n C.hx C.hb dX12_readsCut_61 rfl (lv_at hl 0 rfl) ?_
        obtain ⟨zr10, zq11, hf⟩ := bd_some hf
        have zm12 := c_X12_goOn l G o_t a_t N (hf := zq11)
        refine g_goV C h zm12.1 (is := [0]) rfl rfl (g_runV C h (is := [0]) rfl rfl (As := []) (rest := []) (zm12.2 _) vf_X12_222 0 0 rfl rfl hl.1 rfl rfl (Nat.le_of_ble_eq_true rfl) dX12_readsCut_62 ⟨Nat.le_of_ble_eq_true rfl, Nat.le_of_ble_eq_true rfl⟩ ⟨Nat.le_refl _, Nat.le_refl _⟩) (us2 := [uX12 G o_t a_t zr10, uA G 52 (a_t 22) (upd v_t_next ((1 + (5 * (zr1.1 21))) + 4).toNatClampNeg 0)]) rfl (fun H locs h => ?_)
        refine lv_iconst (v := 1) C.hx C.hb dX12_readsCut_65 (by decide) ?_
        obtain rfl := Option.some.inj hf
        exact g_ret_z (b := true) C h rfl rfl rfl dX12_readsCut_66
      · replace hf := it_t zc8 hf
        refine lv_iconst (v := 0) C.hx C.hb dX12_readsCut_43 (by decide) ?_
        obtain rfl := Option.some.inj hf
        exact g_ret_z (b := false) C h rfl rfl rfl dX12_readsCut_44

def f_X12_takes (N : Nat) (v_t : US) (x1 : Int32) (x2 : Int32) (x3 : Int32) : Option (Bool × US) :=
  if (v_t.1 20) = 2 then ((f_X12_in ((v_t.1 21).toInt64) x2.toInt64 x3.toInt64).bind fun zr2 => if (b2i zr2) = 0 then (some (false, v_t)) else (if x1 < 0 ∨ 4 ≤ x1.toNatClampNeg then none else ((f_X12_goOn N (upa v_t 23 x1.toNatClampNeg (v_t.1 21))).bind fun zr7 => some (true, zr7)))) else (some (false, v_t))
set_option maxRecDepth 100000 in
set_option maxHeartbeats 4000000 in
theorem c_X12_takes (l : Launch) (G : GG) (o_t : Nat) (a_t : Nat → Nat) (N : Nat) {v_t : US} {x1 : Int32} {x2 : Int32} {x3 : Int32} {res : Bool × US} (hf : f_X12_takes N v_t x1 x2 x3 = some res) : MI l yX12_takes cX12_takes 4 (some .boolean) 5 [.ref o_t, .int x1, .int x2, .int x3] G [uX12 G o_t a_t v_t] (b2i res.1) [uX12 G o_t a_t res.2] := by
  unfold f_X12_takes at hf
  refine MI.intro (by decide) rfl (Nat.le_of_ble_eq_true rfl) (fun p e s m args below meth c A ls C h hl => ?_)
  have C : MC RX12 cX12_takes 4 (some .boolean) G A p s m args meth c := C
  have hl : lv_has ls 4 [(0, .ref o_t), (1, .int x1), (2, .int x2), (3, .int x3)] := hl
  refine lv_aload_n C.hx C.hb dX12_takes_0 rfl (lv_at hl 0 rfl) ?_
  refine g_get C h fl_X12_207 0 0 rfl rfl (v := .int (v_t.1 20)) rfl dX12_takes_1 ?_
  refine lv_iconst (v := 2) C.hx C.hb dX12_takes_4 (by decide) ?_
  refine lv_icmp_ne (tgt := 23) C.hx C.hb dX12_takes_5 (by decide) (fun zc1 => ?_) (fun zc1 => ?_)
  · replace hf := it_f zc1 hf
    refine lv_iconst (v := 0) C.hx C.hb dX12_takes_23 (by decide) ?_
    obtain rfl := Option.some.inj hf
    exact g_ret_z (b := false) C h rfl rfl rfl dX12_takes_24
  · replace hf := it_t zc1 hf
    refine lv_aload_n C.hx C.hb dX12_takes_8 rfl (lv_at hl 0 rfl) ?_
    refine g_get C h fl_X12_210 0 0 rfl rfl (v := .int (v_t.1 21)) rfl dX12_takes_9 ?_
    refine lv_i2l C.hx C.hb dX12_takes_12 rfl ?_
    refine lv_iload_n C.hx C.hb dX12_takes_13 rfl (lv_at hl 2 rfl) ?_
    refine lv_i2l C.hx C.hb dX12_takes_14 rfl ?_
    refine lv_iload_n C.hx C.hb dX12_takes_15 rfl (lv_at hl 3 rfl) ?_
    refine lv_i2l C.hx C.hb dX12_takes_16 rfl ?_
    obtain ⟨zr2, zq3, hf⟩ := bd_some hf
    have zm4 := c_X12_in l G  (hf := zq3)
    refine g_goI C h zm4.1 (is := []) rfl rfl (g_runS C h (is := []) rfl rfl (As := [.long ((v_t.1 21).toInt64), .long x2.toInt64, .long x3.toInt64]) (rest := []) (zm4.2 _) sf_X12_52 hl.1 rfl rfl (Nat.le_of_ble_eq_true rfl) dX12_takes_17 ⟨Nat.le_of_ble_eq_true rfl, Nat.le_of_ble_eq_true rfl⟩ ⟨Nat.le_refl _, Nat.le_refl _⟩) (us2 := [uX12 G o_t a_t v_t]) rfl (fun H locs h => ?_)
    refine lv_if_ne (tgt := 25) C.hx C.hb dX12_takes_20 (by decide) (fun zc5 => ?_) (fun zc5 => ?_)
    · replace hf := it_f zc5 hf
      refine lv_aload_n C.hx C.hb dX12_takes_25 rfl (lv_at hl 0 rfl) ?_
      refine g_get C h fl_X12_45 0 0 rfl rfl (v := .ref (a_t 23)) rfl dX12_takes_26 ?_
      refine lv_iload_n C.hx C.hb dX12_takes_29 rfl (lv_at hl 1 rfl) ?_
      refine lv_aload_n C.hx C.hb dX12_takes_30 rfl (lv_at hl 0 rfl) ?_
      refine g_get C h fl_X12_210 0 0 rfl rfl (v := .int (v_t.1 21)) rfl dX12_takes_31 ?_
      obtain ⟨zi6, hf⟩ := ck_some hf
      refine g_iast C h 0 9 rfl rfl (f := v_t.2.2 23) zi6 dX12_takes_34 (u' := uX12 G o_t a_t (upa v_t 23 x1.toNatClampNeg (v_t.1 21))) (us' := [uX12 G o_t a_t (upa v_t 23 x1.toNatClampNeg (v_t.1 21))]) rfl rfl (fun H locs h => ?_)
      refine lv_aload_n C.hx C.hb dX12_takes_35 rfl (lv_at hl 0 rfl) ?_
      obtain ⟨zr7, zq8, hf⟩ := bd_some hf
      have zm9 := c_X12_goOn l G o_t a_t N (hf := zq8)
      refine g_goV C h zm9.1 (is := [0]) rfl rfl (g_runV C h (is := [0]) rfl rfl (As := []) (rest := []) (zm9.2 _) vf_X12_222 0 0 rfl rfl hl.1 rfl rfl (Nat.le_of_ble_eq_true rfl) dX12_takes_36 ⟨Nat.le_of_ble_eq_true rfl, Nat.le_of_ble_eq_true rfl⟩ ⟨Nat.le_refl _, Nat.le_refl _⟩) (us2 := [uX12 G o_t a_t zr7]) rfl (fun H locs h => ?_)
      refine lv_iconst (v := 1) C.hx C.hb dX12_takes_39 (by decide) ?_
      obtain rfl := Option.some.inj hf
      exact g_ret_z (b := true) C h rfl rfl rfl dX12_takes_40
    · replace hf := it_t zc5 hf
      refine lv_iconst (v := 0) C.hx C.hb dX12_takes_23 (by decide) ?_
      obtain rfl := Option.some.inj hf
      exact g_ret_z (b := false) C h rfl rfl rfl dX12_takes_24

def f_X12_takesPull (N : Nat) (v_t : US) (v_t_next : Nat → Int32)  : Option (Bool × US) :=
  (f_X12_goOn N v_t).bind fun zr1 => if (0 : Int32) < 0 ∨ 52 ≤ (0 : Int32).toNatClampNeg then none else ((f_X12_takes N zr1 0 0 ((v_t_next (0 : Int32).toNatClampNeg) - 1)).bind fun zr5 => if (b2i zr5.1) = 0 then (some (false, zr5.2)) else ((f_X12_takes N zr5.2 1 0 20).bind fun zr9 => if (b2i zr9.1) = 0 then (some (false, zr9.2)) else (some (true, zr9.2))))
set_option maxRecDepth 100000 in
set_option maxHeartbeats 4000000 in
theorem c_X12_takesPull (l : Launch) (G : GG) (o_t : Nat) (a_t : Nat → Nat) (N : Nat) {v_t : US} {v_t_next : Nat → Int32}  {res : Bool × US} (hf : f_X12_takesPull N v_t v_t_next = some res) : MI l yX12_takesPull cX12_takesPull 1 (some .boolean) 6 [.ref o_t] G [uX12 G o_t a_t v_t, uA G 52 (a_t 22) v_t_next] (b2i res.1) [uX12 G o_t a_t res.2, uA G 52 (a_t 22) v_t_next] := by
  unfold f_X12_takesPull at hf
  refine MI.intro (by decide) rfl (Nat.le_of_ble_eq_true rfl) (fun p e s m args below meth c A ls C h hl => ?_)
  have C : MC RX12 cX12_takesPull 1 (some .boolean) G A p s m args meth c := C
  have hl : lv_has ls 1 [(0, .ref o_t)] := hl
  refine lv_aload_n C.hx C.hb dX12_takesPull_0 rfl (lv_at hl 0 rfl) ?_
  obtain ⟨zr1, zq2, hf⟩ := bd_some hf
  have zm3 := c_X12_goOn l G o_t a_t N (hf := zq2)
  refine g_goV C h zm3.1 (is := [0]) rfl rfl (g_runV C h (is := [0]) rfl rfl (As := []) (rest := []) (zm3.2 _) vf_X12_222 0 0 rfl rfl hl.1 rfl rfl (Nat.le_of_ble_eq_true rfl) dX12_takesPull_1 ⟨Nat.le_of_ble_eq_true rfl, Nat.le_of_ble_eq_true rfl⟩ ⟨Nat.le_refl _, Nat.le_refl _⟩) (us2 := [uX12 G o_t a_t zr1, uA G 52 (a_t 22) v_t_next]) rfl (fun H locs h => ?_)
  refine lv_aload_n C.hx C.hb dX12_takesPull_4 rfl (lv_at hl 0 rfl) ?_
  refine lv_iconst (v := 0) C.hx C.hb dX12_takesPull_5 (by decide) ?_
  refine lv_iconst (v := 0) C.hx C.hb dX12_takesPull_6 (by decide) ?_
  refine lv_aload_n C.hx C.hb dX12_takesPull_7 rfl (lv_at hl 0 rfl) ?_
  refine g_get C h fl_X12_42 0 0 rfl rfl (v := .ref (a_t 22)) rfl dX12_takesPull_8 ?_
  refine lv_iconst (v := 0) C.hx C.hb dX12_takesPull_11 (by decide) ?_
  obtain ⟨zi4, hf⟩ := ck_some hf
  refine g_iald C h 1 0 rfl rfl (f := v_t_next) zi4 dX12_takesPull_12 ?_
  refine lv_iconst (v := 1) C.hx C.hb dX12_takesPull_13 (by decide) ?_
  refine lv_isub C.hx C.hb dX12_takesPull_14 ?_
  obtain ⟨zr5, zq6, hf⟩ := bd_some hf
  have zm7 := c_X12_takes l G o_t a_t N (hf := zq6)
  refine g_goI C h zm7.1 (is := [0]) rfl rfl (g_runV C h (is := [0]) rfl rfl (As := [.int 0, .int 0, .int ((v_t_next (0 : Int32).toNatClampNeg) - 1)]) (rest := []) (zm7.2 _) vf_X12_225 0 0 rfl rfl hl.1 rfl rfl (Nat.le_of_ble_eq_true rfl) dX12_takesPull_15 ⟨Nat.le_of_ble_eq_true rfl, Nat.le_of_ble_eq_true rfl⟩ ⟨Nat.le_refl _, Nat.le_refl _⟩) (us2 := [uX12 G o_t a_t zr5.2, uA G 52 (a_t 22) v_t_next]) rfl (fun H locs h => ?_)
  refine lv_if_eq (tgt := 36) C.hx C.hb dX12_takesPull_18 (by decide) (fun zc8 => ?_) (fun zc8 => ?_)
  · replace hf := it_t zc8 hf
    refine lv_iconst (v := 0) C.hx C.hb dX12_takesPull_36 (by decide) ?_
    obtain rfl := Option.some.inj hf
    exact g_ret_z (b := false) C h rfl rfl rfl dX12_takesPull_37
  · replace hf := it_f zc8 hf
    refine lv_aload_n C.hx C.hb dX12_takesPull_21 rfl (lv_at hl 0 rfl) ?_
    refine lv_iconst (v := 1) C.hx C.hb dX12_takesPull_22 (by decide) ?_
    refine lv_iconst (v := 0) C.hx C.hb dX12_takesPull_23 (by decide) ?_
    refine lv_bipush (v := 20) C.hx C.hb dX12_takesPull_24 (by decide) ?_
    obtain ⟨zr9, zq10, hf⟩ := bd_some hf
    have zm11 := c_X12_takes l G o_t a_t N (hf := zq10)
    refine g_goI C h zm11.1 (is := [0]) rfl rfl (g_runV C h (is := [0]) rfl rfl (As := [.int 1, .int 0, .int 20]) (rest := []) (zm11.2 _) vf_X12_225 0 0 rfl rfl hl.1 rfl rfl (Nat.le_of_ble_eq_true rfl) dX12_takesPull_26 ⟨Nat.le_of_ble_eq_true rfl, Nat.le_of_ble_eq_true rfl⟩ ⟨Nat.le_refl _, Nat.le_refl _⟩) (us2 := [uX12 G o_t a_t zr9.2, uA G 52 (a_t 22) v_t_next]) rfl (fun H locs h => ?_)
    refine lv_if_eq (tgt := 36) C.hx C.hb dX12_takesPull_29 (by decide) (fun zc12 => ?_) (fun zc12 => ?_)
    · replace hf := it_t zc12 hf
      refine lv_iconst (v := 0) C.hx C.hb dX12_takesPull_36 (by decide) ?_
      obtain rfl := Option.some.inj hf
      exact g_ret_z (b := false) C h rfl rfl rfl dX12_takesPull_37
    · replace hf := it_f zc12 hf
      refine lv_iconst (v := 1) C.hx C.hb dX12_takesPull_32 (by decide) ?_
      refine lv_goto (tgt := 37) C.hx C.hb dX12_takesPull_33 (by decide) ?_
      obtain rfl := Option.some.inj hf
      exact g_ret_z (b := true) C h rfl rfl rfl dX12_takesPull_37

def f_X12_readsErrand (N : Nat) (v_t : US) (v_t_next : Nat → Int32)  : Option (Bool × US × (Nat → Int32)) :=
  if (28 : Int32) < 0 ∨ 52 ≤ (28 : Int32).toNatClampNeg then none else (if (v_t_next (28 : Int32).toNatClampNeg) = 5 then (some (false, v_t, v_t_next)) else ((f_X12_takesPull N v_t v_t_next).bind fun zr3 => if (b2i zr3.1) = 0 then (some (false, zr3.2, v_t_next)) else (if (0 : Int32) < 0 ∨ 4 ≤ (0 : Int32).toNatClampNeg then none else (if (29 + (2 * (v_t_next (28 : Int32).toNatClampNeg))) < 0 ∨ 52 ≤ (29 + (2 * (v_t_next (28 : Int32).toNatClampNeg))).toNatClampNeg then none else (if (1 : Int32) < 0 ∨ 4 ≤ (1 : Int32).toNatClampNeg then none else (bnd (upd v_t_next (29 + (2 * (v_t_next (28 : Int32).toNatClampNeg))).toNatClampNeg ((zr3.2.2.2 23) (0 : Int32).toNatClampNeg)) fun zw10 => if ((29 + (2 * (v_t_next (28 : Int32).toNatClampNeg))) + 1) < 0 ∨ 52 ≤ ((29 + (2 * (v_t_next (28 : Int32).toNatClampNeg))) + 1).toNatClampNeg then none else (if (28 : Int32) < 0 ∨ 52 ≤ (28 : Int32).toNatClampNeg then none else (bnd (upd zw10 ((29 + (2 * (v_t_next (28 : Int32).toNatClampNeg))) + 1).toNatClampNeg ((zr3.2.2.2 23) (1 : Int32).toNatClampNeg)) fun zw13 => if (28 : Int32) < 0 ∨ 52 ≤ (28 : Int32).toNatClampNeg then none else (some (true, zr3.2, upd zw13 (28 : Int32).toNatClampNeg (((upd zw10 ((29 + (2 * (v_t_next (28 : Int32).toNatClampNeg))) + 1).toNatClampNeg ((zr3.2.2.2 23) (1 : Int32).toNatClampNeg)) (28 : Int32).toNatClampNeg) + 1)))))))))))
set_option maxRecDepth 100000 in
set_option maxHeartbeats 4000000 in
theorem c_X12_readsErrand (l : Launch) (G : GG) (o_t : Nat) (a_t : Nat → Nat) (N : Nat) {v_t : US} {v_t_next : Nat → Int32}  {res : Bool × US × (Nat → Int32)} (hf : f_X12_readsErrand N v_t v_t_next = some res) : MI l yX12_readsErrand cX12_readsErrand 2 (some .boolean) 7 [.ref o_t] G [uX12 G o_t a_t v_t, uA G 52 (a_t 22) v_t_next] (b2i res.1) [uX12 G o_t a_t res.2.1, uA G 52 (a_t 22) res.2.2] := by
  unfold f_X12_readsErrand at hf
  refine MI.intro (by decide) rfl (Nat.le_of_ble_eq_true rfl) (fun p e s m args below meth c A ls C h hl => ?_)
  have C : MC RX12 cX12_readsErrand 2 (some .boolean) G A p s m args meth c := C
  have hl : lv_has ls 2 [(0, .ref o_t)] := hl
  refine lv_aload_n C.hx C.hb dX12_readsErrand_0 rfl (lv_at hl 0 rfl) ?_
  refine g_get C h fl_X12_42 0 0 rfl rfl (v := .ref (a_t 22)) rfl dX12_readsErrand_1 ?_
  refine lv_bipush (v := 28) C.hx C.hb dX12_readsErrand_4 (by decide) ?_
  obtain ⟨zi1, hf⟩ := ck_some hf
  refine g_iald C h 1 0 rfl rfl (f := v_t_next) zi1 dX12_readsErrand_6 ?_
  refine lv_istore_n (lv' := [(1, .int (v_t_next (28 : Int32).toNatClampNeg)), (0, .ref o_t)]) C.hx C.hb dX12_readsErrand_7 rfl hl (by decide) rfl (fun ls hl => ?_)
  refine lv_iload_n C.hx C.hb dX12_readsErrand_8 rfl (lv_at hl 0 rfl) ?_
  refine lv_iconst (v := 5) C.hx C.hb dX12_readsErrand_9 (by decide) ?_
  refine lv_icmp_eq (tgt := 20) C.hx C.hb dX12_readsErrand_10 (by decide) (fun zc2 => ?_) (fun zc2 => ?_)
  · replace hf := it_t zc2 hf
    refine lv_iconst (v := 0) C.hx C.hb dX12_readsErrand_20 (by decide) ?_
    obtain rfl := Option.some.inj hf
    exact g_ret_z (b := false) C h rfl rfl rfl dX12_readsErrand_21
  · replace hf := it_f zc2 hf
    refine lv_aload_n C.hx C.hb dX12_readsErrand_13 rfl (lv_at hl 1 rfl) ?_
    obtain ⟨zr3, zq4, hf⟩ := bd_some hf
    have zm5 := c_X12_takesPull l G o_t a_t N (hf := zq4)
    refine g_goI C h zm5.1 (is := [0, 1]) rfl rfl (g_runV C h (is := [0, 1]) rfl rfl (As := []) (rest := []) (zm5.2 _) vf_X12_229 0 0 rfl rfl hl.1 rfl rfl (Nat.le_of_ble_eq_true rfl) dX12_readsErrand_14 ⟨Nat.le_of_ble_eq_true rfl, Nat.le_of_ble_eq_true rfl⟩ ⟨Nat.le_refl _, Nat.le_refl _⟩) (us2 := [uX12 G o_t a_t zr3.2, uA G 52 (a_t 22) v_t_next]) rfl (fun H locs h => ?_)
    refine lv_if_ne (tgt := 22) C.hx C.hb dX12_readsErrand_17 (by decide) (fun zc6 => ?_) (fun zc6 => ?_)
    · replace hf := it_f zc6 hf
      refine lv_aload_n C.hx C.hb dX12_readsErrand_22 rfl (lv_at hl 1 rfl) ?_
      refine g_get C h fl_X12_42 0 0 rfl rfl (v := .ref (a_t 22)) rfl dX12_readsErrand_23 ?_
      refine lv_bipush (v := 29) C.hx C.hb dX12_readsErrand_26 (by decide) ?_
      refine lv_iconst (v := 2) C.hx C.hb dX12_readsErrand_28 (by decide) ?_
      refine lv_iload_n C.hx C.hb dX12_readsErrand_29 rfl (lv_at hl 0 rfl) ?_
      refine lv_imul C.hx C.hb dX12_readsErrand_30 ?_
      refine lv_iadd C.hx C.hb dX12_readsErrand_31 ?_
      refine lv_aload_n C.hx C.hb dX12_readsErrand_32 rfl (lv_at hl 1 rfl) ?_
      refine g_get C h fl_X12_45 0 0 rfl rfl (v := .ref (a_t 23)) rfl dX12_readsErrand_33 ?_
      refine lv_iconst (v := 0) C.hx C.hb dX12_readsErrand_36 (by decide) ?_
      obtain ⟨zi7, hf⟩ := ck_some hf
      refine g_iald C h 0 9 rfl rfl (f := zr3.2.2.2 23) zi7 dX12_readsErrand_37 ?_
      obtain ⟨zi8, hf⟩ := ck_some hf
      refine g_iast C h 1 0 rfl rfl (f := v_t_next) zi8 dX12_readsErrand_38 (u' := uA G 52 (a_t 22) (upd v_t_next (29 + (2 * (v_t_next (28 : Int32).toNatClampNeg))).toNatClampNeg ((zr3.2.2.2 23) (0 : Int32).toNatClampNeg))) (us' := [uX12 G o_t a_t zr3.2, uA G 52 (a_t 22) (upd v_t_next (29 + (2 * (v_t_next (28 : Int32).toNatClampNeg))).toNatClampNeg ((zr3.2.2.2 23) (0 : Int32).toNatClampNeg))]) rfl rfl (fun H locs h => ?_)
      refine lv_aload_n C.hx C.hb dX12_readsErrand_39 rfl (lv_at hl 1 rfl) ?_
      refine g_get C h fl_X12_42 0 0 rfl rfl (v := .ref (a_t 22)) rfl dX12_readsErrand_40 ?_
      refine lv_bipush (v := 29) C.hx C.hb dX12_readsErrand_43 (by decide) ?_
      refine lv_iconst (v := 2) C.hx C.hb dX12_readsErrand_45 (by decide) ?_
      refine lv_iload_n C.hx C.hb dX12_readsErrand_46 rfl (lv_at hl 0 rfl) ?_
      refine lv_imul C.hx C.hb dX12_readsErrand_47 ?_
      refine lv_iadd C.hx C.hb dX12_readsErrand_48 ?_
      refine lv_iconst (v := 1) C.hx C.hb dX12_readsErrand_49 (by decide) ?_
      refine lv_iadd C.hx C.hb dX12_readsErrand_50 ?_
      refine lv_aload_n C.hx C.hb dX12_readsErrand_51 rfl (lv_at hl 1 rfl) ?_
      refine g_get C h fl_X12_45 0 0 rfl rfl (v := .ref (a_t 23)) rfl dX12_readsErrand_52 ?_
      refine lv_iconst (v := 1) C.hx C.hb dX12_readsErrand_55 (by decide) ?_
      obtain ⟨zi9, hf⟩ := ck_some hf
      refine g_iald C h 0 9 rfl rfl (f := zr3.2.2.2 23) zi9 dX12_readsErrand_56 ?_
      obtain ⟨zw10, hzw10, hf⟩ := bnd_some hf
      rw [← hzw10] at h
      obtain ⟨zi11, hf⟩ := ck_some hf
      refine g_iast C h 1 0 rfl rfl (f := zw10) zi11 dX12_readsErrand_57 (u' := uA G 52 (a_t 22) (upd zw10 ((29 + (2 * (v_t_next (28 : Int32).toNatClampNeg))) + 1).toNatClampNeg ((zr3.2.2.2 23) (1 : Int32).toNatClampNeg))) (us' := [uX12 G o_t a_t zr3.2, uA G 52 (a_t 22) (upd zw10 ((29 + (2 * (v_t_next (28 : Int32).toNatClampNeg))) + 1).toNatClampNeg ((zr3.2.2.2 23) (1 : Int32).toNatClampNeg))]) rfl rfl (fun H locs h => ?_)
      refine lv_aload_n C.hx C.hb dX12_readsErrand_58 rfl (lv_at hl 1 rfl) ?_
      refine g_get C h fl_X12_42 0 0 rfl rfl (v := .ref (a_t 22)) rfl dX12_readsErrand_59 ?_
      refine lv_bipush (v := 28) C.hx C.hb dX12_readsErrand_62 (by decide) ?_
      refine lv_dup2_11 C.hx C.hb dX12_readsErrand_64 rfl rfl ?_
      obtain ⟨zi12, hf⟩ := ck_some hf
      refine g_iald C h 1 0 rfl rfl (f := upd zw10 ((29 + (2 * (v_t_next (28 : Int32).toNatClampNeg))) + 1).toNatClampNeg ((zr3.2.2.2 23) (1 : Int32).toNatClampNeg)) zi12 dX12_readsErrand_65 ?_
      refine lv_iconst (v := 1) C.hx C.hb dX12_readsErrand_66 (by decide) ?_
      refine lv_iadd C.hx C.hb dX12_readsErrand_67 ?_
      obtain ⟨zw13, hzw13, hf⟩ := bnd_some hf
      rw [← hzw13] at h
      obtain ⟨zi14, hf⟩ := ck_some hf
      refine g_iast C h 1 0 rfl rfl (f := zw13) zi14 dX12_readsErrand_68 (u' := uA G 52 (a_t 22) (upd zw13 (28 : Int32).toNatClampNeg (((upd zw10 ((29 + (2 * (v_t_next (28 : Int32).toNatClampNeg))) + 1).toNatClampNeg ((zr3.2.2.2 23) (1 : Int32).toNatClampNeg)) (28 : Int32).toNatClampNeg) + 1))) (us' := [uX12 G o_t a_t zr3.2, uA G 52 (a_t 22) (upd zw13 (28 : Int32).toNatClampNeg (((upd zw10 ((29 + (2 * (v_t_next (28 : Int32).toNatClampNeg))) + 1).toNatClampNeg ((zr3.2.2.2 23) (1 : Int32).toNatClampNeg)) (28 : Int32).toNatClampNeg) + 1))]) rfl rfl (fun H locs h => ?_)
      refine lv_iconst (v := 1) C.hx C.hb dX12_readsErrand_69 (by decide) ?_
      obtain rfl := Option.some.inj hf
      exact g_ret_z (b := true) C h rfl rfl rfl dX12_readsErrand_70
    · replace hf := it_t zc6 hf
      refine lv_iconst (v := 0) C.hx C.hb dX12_readsErrand_20 (by decide) ?_
      obtain rfl := Option.some.inj hf
      exact g_ret_z (b := false) C h rfl rfl rfl dX12_readsErrand_21

def f_X12_readsRule (N : Nat) (v_t : US) (v_t_next : Nat → Int32)  : Option (Bool × US × (Nat → Int32)) :=
  if (39 : Int32) < 0 ∨ 52 ≤ (39 : Int32).toNatClampNeg then none else (if (v_t_next (39 : Int32).toNatClampNeg) = 4 then (some (false, v_t, v_t_next)) else ((f_X12_takesPull N v_t v_t_next).bind fun zr3 => if (b2i zr3.1) = 0 then (some (false, zr3.2, v_t_next)) else (if (0 : Int32) < 0 ∨ 52 ≤ (0 : Int32).toNatClampNeg then none else ((f_X12_takes N zr3.2 2 0 ((1 <<< ((v_t_next (0 : Int32).toNatClampNeg) &&& 31)) - 1)).bind fun zr8 => if (b2i zr8.1) = 0 then (some (false, zr8.2, v_t_next)) else (if (0 : Int32) < 0 ∨ 4 ≤ (0 : Int32).toNatClampNeg then none else (if (1 : Int32) < 0 ∨ 4 ≤ (1 : Int32).toNatClampNeg then none else (if (2 : Int32) < 0 ∨ 4 ≤ (2 : Int32).toNatClampNeg then none else ((f_X12_layRule v_t_next 52 ((zr8.2.2.2 23) (0 : Int32).toNatClampNeg) ((zr8.2.2.2 23) (1 : Int32).toNatClampNeg) ((zr8.2.2.2 23) (2 : Int32).toNatClampNeg)).bind fun zr15 => some (true, zr8.2, zr15)))))))))
set_option maxRecDepth 100000 in
set_option maxHeartbeats 4000000 in
theorem c_X12_readsRule (l : Launch) (G : GG) (o_t : Nat) (a_t : Nat → Nat) (N : Nat) {v_t : US} {v_t_next : Nat → Int32}  {res : Bool × US × (Nat → Int32)} (hf : f_X12_readsRule N v_t v_t_next = some res) : MI l yX12_readsRule cX12_readsRule 1 (some .boolean) 7 [.ref o_t] G [uX12 G o_t a_t v_t, uA G 52 (a_t 22) v_t_next] (b2i res.1) [uX12 G o_t a_t res.2.1, uA G 52 (a_t 22) res.2.2] := by
  unfold f_X12_readsRule at hf
  refine MI.intro (by decide) rfl (Nat.le_of_ble_eq_true rfl) (fun p e s m args below meth c A ls C h hl => ?_)
  have C : MC RX12 cX12_readsRule 1 (some .boolean) G A p s m args meth c := C
  have hl : lv_has ls 1 [(0, .ref o_t)] := hl
  refine lv_aload_n C.hx C.hb dX12_readsRule_0 rfl (lv_at hl 0 rfl) ?_
  refine g_get C h fl_X12_42 0 0 rfl rfl (v := .ref (a_t 22)) rfl dX12_readsRule_1 ?_
  refine lv_bipush (v := 39) C.hx C.hb dX12_readsRule_4 (by decide) ?_
  obtain ⟨zi1, hf⟩ := ck_some hf
  refine g_iald C h 1 0 rfl rfl (f := v_t_next) zi1 dX12_readsRule_6 ?_
  refine lv_iconst (v := 4) C.hx C.hb dX12_readsRule_7 (by decide) ?_
  refine lv_icmp_eq (tgt := 37) C.hx C.hb dX12_readsRule_8 (by decide) (fun zc2 => ?_) (fun zc2 => ?_)
  · replace hf := it_t zc2 hf
    refine lv_iconst (v := 0) C.hx C.hb dX12_readsRule_37 (by decide) ?_
    obtain rfl := Option.some.inj hf
    exact g_ret_z (b := false) C h rfl rfl rfl dX12_readsRule_38
  · replace hf := it_f zc2 hf
    refine lv_aload_n C.hx C.hb dX12_readsRule_11 rfl (lv_at hl 0 rfl) ?_
    obtain ⟨zr3, zq4, hf⟩ := bd_some hf
    have zm5 := c_X12_takesPull l G o_t a_t N (hf := zq4)
    refine g_goI C h zm5.1 (is := [0, 1]) rfl rfl (g_runV C h (is := [0, 1]) rfl rfl (As := []) (rest := []) (zm5.2 _) vf_X12_229 0 0 rfl rfl hl.1 rfl rfl (Nat.le_of_ble_eq_true rfl) dX12_readsRule_12 ⟨Nat.le_of_ble_eq_true rfl, Nat.le_of_ble_eq_true rfl⟩ ⟨Nat.le_refl _, Nat.le_refl _⟩) (us2 := [uX12 G o_t a_t zr3.2, uA G 52 (a_t 22) v_t_next]) rfl (fun H locs h => ?_)
    refine lv_if_eq (tgt := 37) C.hx C.hb dX12_readsRule_15 (by decide) (fun zc6 => ?_) (fun zc6 => ?_)
    · replace hf := it_t zc6 hf
      refine lv_iconst (v := 0) C.hx C.hb dX12_readsRule_37 (by decide) ?_
      obtain rfl := Option.some.inj hf
      exact g_ret_z (b := false) C h rfl rfl rfl dX12_readsRule_38
    · replace hf := it_f zc6 hf
      refine lv_aload_n C.hx C.hb dX12_readsRule_18 rfl (lv_at hl 0 rfl) ?_
      refine lv_iconst (v := 2) C.hx C.hb dX12_readsRule_19 (by decide) ?_
      refine lv_iconst (v := 0) C.hx C.hb dX12_readsRule_20 (by decide) ?_
      refine lv_iconst (v := 1) C.hx C.hb dX12_readsRule_21 (by decide) ?_
      refine lv_aload_n C.hx C.hb dX12_readsRule_22 rfl (lv_at hl 0 rfl) ?_
      refine g_get C h fl_X12_42 0 0 rfl rfl (v := .ref (a_t 22)) rfl dX12_readsRule_23 ?_
      refine lv_iconst (v := 0) C.hx C.hb dX12_readsRule_26 (by decide) ?_
      obtain ⟨zi7, hf⟩ := ck_some hf
      refine g_iald C h 1 0 rfl rfl (f := v_t_next) zi7 dX12_readsRule_27 ?_
      refine lv_ishl C.hx C.hb dX12_readsRule_28 ?_
      refine lv_iconst (v := 1) C.hx C.hb dX12_readsRule_29 (by decide) ?_
      refine lv_isub C.hx C.hb dX12_readsRule_30 ?_
      obtain ⟨zr8, zq9, hf⟩ := bd_some hf
      have zm10 := c_X12_takes l G o_t a_t N (hf := zq9)
      refine g_goI C h zm10.1 (is := [0]) rfl rfl (g_runV C h (is := [0]) rfl rfl (As := [.int 2, .int 0, .int ((1 <<< ((v_t_next (0 : Int32).toNatClampNeg) &&& 31)) - 1)]) (rest := []) (zm10.2 _) vf_X12_225 0 0 rfl rfl hl.1 rfl rfl (Nat.le_of_ble_eq_true rfl) dX12_readsRule_31 ⟨Nat.le_of_ble_eq_true rfl, Nat.le_of_ble_eq_true rfl⟩ ⟨Nat.le_refl _, Nat.le_refl _⟩) (us2 := [uX12 G o_t a_t zr8.2, uA G 52 (a_t 22) v_t_next]) rfl (fun H locs h => ?_)
      refine lv_if_ne (tgt := 39) C.hx C.hb dX12_readsRule_34 (by decide) (fun zc11 => ?_) (fun zc11 => ?_)
      · replace hf := it_f zc11 hf
        refine lv_aload_n C.hx C.hb dX12_readsRule_39 rfl (lv_at hl 0 rfl) ?_
        refine g_get C h fl_X12_42 0 0 rfl rfl (v := .ref (a_t 22)) rfl dX12_readsRule_40 ?_
        refine lv_aload_n C.hx C.hb dX12_readsRule_43 rfl (lv_at hl 0 rfl) ?_
        refine g_get C h fl_X12_45 0 0 rfl rfl (v := .ref (a_t 23)) rfl dX12_readsRule_44 ?_
        refine lv_iconst (v := 0) C.hx C.hb dX12_readsRule_47 (by decide) ?_
        obtain ⟨zi12, hf⟩ := ck_some hf
        refine g_iald C h 0 9 rfl rfl (f := zr8.2.2.2 23) zi12 dX12_readsRule_48 ?_
        refine lv_aload_n C.hx C.hb dX12_readsRule_49 rfl (lv_at hl 0 rfl) ?_
        refine g_get C h fl_X12_45 0 0 rfl rfl (v := .ref (a_t 23)) rfl dX12_readsRule_50 ?_
        refine lv_iconst (v := 1) C.hx C.hb dX12_readsRule_53 (by decide) ?_
        obtain ⟨zi13, hf⟩ := ck_some hf
        refine g_iald C h 0 9 rfl rfl (f := zr8.2.2.2 23) zi13 dX12_readsRule_54 ?_
        refine lv_aload_n C.hx C.hb dX12_readsRule_55 rfl (lv_at hl 0 rfl) ?_
        refine g_get C h fl_X12_45 0 0 rfl rfl (v := .ref (a_t 23)) rfl dX12_readsRule_56 ?_
        refine lv_iconst (v := 2) C.hx C.hb dX12_readsRule_59 (by decide) ?_
        obtain ⟨zi14, hf⟩ := ck_some hf
        refine g_iald C h 0 9 rfl rfl (f := zr8.2.2.2 23) zi14 dX12_readsRule_60 ?_
        obtain ⟨zr15, zq16, hf⟩ := bd_some hf
        have zm17 := c_X12_layRule l G (a_t 22) (hf := zq16)
        refine g_goV C h zm17.1 (is := [1]) rfl rfl (g_runS C h (is := [1]) rfl rfl (As := [.ref (a_t 22), .int ((zr8.2.2.2 23) (0 : Int32).toNatClampNeg), .int ((zr8.2.2.2 23) (1 : Int32).toNatClampNeg), .int ((zr8.2.2.2 23) (2 : Int32).toNatClampNeg)]) (rest := []) (zm17.2 _) sf_X12_167 hl.1 rfl rfl (Nat.le_of_ble_eq_true rfl) dX12_readsRule_61 ⟨Nat.le_of_ble_eq_true rfl, Nat.le_of_ble_eq_true rfl⟩ ⟨Nat.le_refl _, Nat.le_refl _⟩) (us2 := [uX12 G o_t a_t zr8.2, uA G 52 (a_t 22) zr15]) rfl (fun H locs h => ?_)
        refine lv_iconst (v := 1) C.hx C.hb dX12_readsRule_64 (by decide) ?_
        obtain rfl := Option.some.inj hf
        exact g_ret_z (b := true) C h rfl rfl rfl dX12_readsRule_65
      · replace hf := it_t zc11 hf
        refine lv_iconst (v := 0) C.hx C.hb dX12_readsRule_37 (by decide) ?_
        obtain rfl := Option.some.inj hf
        exact g_ret_z (b := false) C h rfl rfl rfl dX12_readsRule_38

def f_X12_readsThing (N : Nat) (v_t : US) (v_t_next : Nat → Int32)  : Option (Bool × US × (Nat → Int32)) :=
  if (0 : Int32) < 0 ∨ 52 ≤ (0 : Int32).toNatClampNeg then none else (if (v_t_next (0 : Int32).toNatClampNeg) = 5 then (some (false, v_t, v_t_next)) else ((f_X12_goOn N v_t).bind fun zr3 => (f_X12_takes N zr3 0 0 4).bind fun zr6 => if (b2i zr6.1) = 0 then (some (false, zr6.2, v_t_next)) else ((f_X12_takes N zr6.2 1 0 9).bind fun zr10 => if (b2i zr10.1) = 0 then (some (false, zr10.2, v_t_next)) else ((f_X12_takes N zr10.2 2 1 9).bind fun zr14 => if (b2i zr14.1) = 0 then (some (false, zr14.2, v_t_next)) else ((f_X12_takes N zr14.2 3 0 9).bind fun zr18 => if (b2i zr18.1) = 0 then (some (false, zr18.2, v_t_next)) else (if (0 : Int32) < 0 ∨ 4 ≤ (0 : Int32).toNatClampNeg then none else (if (1 : Int32) < 0 ∨ 4 ≤ (1 : Int32).toNatClampNeg then none else (if (2 : Int32) < 0 ∨ 4 ≤ (2 : Int32).toNatClampNeg then none else (if (3 : Int32) < 0 ∨ 4 ≤ (3 : Int32).toNatClampNeg then none else ((f_X12_layThing v_t_next 52 ((zr18.2.2.2 23) (0 : Int32).toNatClampNeg) ((zr18.2.2.2 23) (1 : Int32).toNatClampNeg) ((zr18.2.2.2 23) (2 : Int32).toNatClampNeg) ((zr18.2.2.2 23) (3 : Int32).toNatClampNeg)).bind fun zr26 => some (true, zr18.2, zr26)))))))))))
set_option maxRecDepth 100000 in
set_option maxHeartbeats 4000000 in
theorem c_X12_readsThing (l : Launch) (G : GG) (o_t : Nat) (a_t : Nat → Nat) (N : Nat) {v_t : US} {v_t_next : Nat → Int32}  {res : Bool × US × (Nat → Int32)} (hf : f_X12_readsThing N v_t v_t_next = some res) : MI l yX12_readsThing cX12_readsThing 1 (some .boolean) 6 [.ref o_t] G [uX12 G o_t a_t v_t, uA G 52 (a_t 22) v_t_next] (b2i res.1) [uX12 G o_t a_t res.2.1, uA G 52 (a_t 22) res.2.2] := by
  unfold f_X12_readsThing at hf
  refine MI.intro (by decide) rfl (Nat.le_of_ble_eq_true rfl) (fun p e s m args below meth c A ls C h hl => ?_)
  have C : MC RX12 cX12_readsThing 1 (some .boolean) G A p s m args meth c := C
  have hl : lv_has ls 1 [(0, .ref o_t)] := hl
  refine lv_aload_n C.hx C.hb dX12_readsThing_0 rfl (lv_at hl 0 rfl) ?_
  refine g_get C h fl_X12_42 0 0 rfl rfl (v := .ref (a_t 22)) rfl dX12_readsThing_1 ?_
  refine lv_iconst (v := 0) C.hx C.hb dX12_readsThing_4 (by decide) ?_
  obtain ⟨zi1, hf⟩ := ck_some hf
  refine g_iald C h 1 0 rfl rfl (f := v_t_next) zi1 dX12_readsThing_5 ?_
  refine lv_iconst (v := 5) C.hx C.hb dX12_readsThing_6 (by decide) ?_
  refine lv_icmp_ne (tgt := 12) C.hx C.hb dX12_readsThing_7 (by decide) (fun zc2 => ?_) (fun zc2 => ?_)
  · replace hf := it_f zc2 hf
    refine lv_aload_n C.hx C.hb dX12_readsThing_12 rfl (lv_at hl 0 rfl) ?_
    obtain ⟨zr3, zq4, hf⟩ := bd_some hf
    have zm5 := c_X12_goOn l G o_t a_t N (hf := zq4)
    refine g_goV C h zm5.1 (is := [0]) rfl rfl (g_runV C h (is := [0]) rfl rfl (As := []) (rest := []) (zm5.2 _) vf_X12_222 0 0 rfl rfl hl.1 rfl rfl (Nat.le_of_ble_eq_true rfl) dX12_readsThing_13 ⟨Nat.le_of_ble_eq_true rfl, Nat.le_of_ble_eq_true rfl⟩ ⟨Nat.le_refl _, Nat.le_refl _⟩) (us2 := [uX12 G o_t a_t zr3, uA G 52 (a_t 22) v_t_next]) rfl (fun H locs h => ?_)
    refine lv_aload_n C.hx C.hb dX12_readsThing_16 rfl (lv_at hl 0 rfl) ?_
    refine lv_iconst (v := 0) C.hx C.hb dX12_readsThing_17 (by decide) ?_
    refine lv_iconst (v := 0) C.hx C.hb dX12_readsThing_18 (by decide) ?_
    refine lv_iconst (v := 4) C.hx C.hb dX12_readsThing_19 (by decide) ?_
    obtain ⟨zr6, zq7, hf⟩ := bd_some hf
    have zm8 := c_X12_takes l G o_t a_t N (hf := zq7)
    refine g_goI C h zm8.1 (is := [0]) rfl rfl (g_runV C h (is := [0]) rfl rfl (As := [.int 0, .int 0, .int 4]) (rest := []) (zm8.2 _) vf_X12_225 0 0 rfl rfl hl.1 rfl rfl (Nat.le_of_ble_eq_true rfl) dX12_readsThing_20 ⟨Nat.le_of_ble_eq_true rfl, Nat.le_of_ble_eq_true rfl⟩ ⟨Nat.le_refl _, Nat.le_refl _⟩) (us2 := [uX12 G o_t a_t zr6.2, uA G 52 (a_t 22) v_t_next]) rfl (fun H locs h => ?_)
    refine lv_if_eq (tgt := 59) C.hx C.hb dX12_readsThing_23 (by decide) (fun zc9 => ?_) (fun zc9 => ?_)
    · replace hf := it_t zc9 hf
      refine lv_iconst (v := 0) C.hx C.hb dX12_readsThing_59 (by decide) ?_
      obtain rfl := Option.some.inj hf
      exact g_ret_z (b := false) C h rfl rfl rfl dX12_readsThing_60
    · replace hf := it_f zc9 hf
      refine lv_aload_n C.hx C.hb dX12_readsThing_26 rfl (lv_at hl 0 rfl) ?_
      refine lv_iconst (v := 1) C.hx C.hb dX12_readsThing_27 (by decide) ?_
      refine lv_iconst (v := 0) C.hx C.hb dX12_readsThing_28 (by decide) ?_
      refine lv_bipush (v := 9) C.hx C.hb dX12_readsThing_29 (by decide) ?_
      obtain ⟨zr10, zq11, hf⟩ := bd_some hf
      have zm12 := c_X12_takes l G o_t a_t N (hf := zq11)
      refine g_goI C h zm12.1 (is := [0]) rfl rfl (g_runV C h (is := [0]) rfl rfl (As := [.int 1, .int 0, .int 9]) (rest := []) (zm12.2 _) vf_X12_225 0 0 rfl rfl hl.1 rfl rfl (Nat.le_of_ble_eq_true rfl) dX12_readsThing_31 ⟨Nat.le_of_ble_eq_true rfl, Nat.le_of_ble_eq_true rfl⟩ ⟨Nat.le_refl _, Nat.le_refl _⟩) (us2 := [uX12 G o_t a_t zr10.2, uA G 52 (a_t 22) v_t_next]) rfl (fun H locs h => ?_)
      refine lv_if_eq (tgt := 59) C.hx C.hb dX12_readsThing_34 (by decide) (fun zc13 => ?_) (fun zc13 => ?_)
      · replace hf := it_t zc13 hf
        refine lv_iconst (v := 0) C.hx C.hb dX12_readsThing_59 (by decide) ?_
        obtain rfl := Option.some.inj hf
        exact g_ret_z (b := false) C h rfl rfl rfl dX12_readsThing_60
      · replace hf := it_f zc13 hf
        refine lv_aload_n C.hx C.hb dX12_readsThing_37 rfl (lv_at hl 0 rfl) ?_
        refine lv_iconst (v := 2) C.hx C.hb dX12_readsThing_38 (by decide) ?_
        refine lv_iconst (v := 1) C.hx C.hb dX12_readsThing_39 (by decide) ?_
        refine lv_bipush (v := 9) C.hx C.hb dX12_readsThing_40 (by decide) ?_
        obtain ⟨zr14, zq15, hf⟩ := bd_some hf
        have zm16 := c_X12_takes l G o_t a_t N (hf := zq15)
        refine g_goI C h zm16.1 (is := [0]) rfl rfl (g_runV C h (is := [0]) rfl rfl (As := [.int 2, .int 1, .int 9]) (rest := []) (zm16.2 _) vf_X12_225 0 0 rfl rfl hl.1 rfl rfl (Nat.le_of_ble_eq_true rfl) dX12_readsThing_42 ⟨Nat.le_of_ble_eq_true rfl, Nat.le_of_ble_eq_true rfl⟩ ⟨Nat.le_refl _, Nat.le_refl _⟩) (us2 := [uX12 G o_t a_t zr14.2, uA G 52 (a_t 22) v_t_next]) rfl (fun H locs h => ?_)
        refine lv_if_eq (tgt := 59) C.hx C.hb dX12_readsThing_45 (by decide) (fun zc17 => ?_) (fun zc17 => ?_)
        · replace hf := it_t zc17 hf
          refine lv_iconst (v := 0) C.hx C.hb dX12_readsThing_59 (by decide) ?_
          obtain rfl := Option.some.inj hf
          exact g_ret_z (b := false) C h rfl rfl rfl dX12_readsThing_60
        · replace hf := it_f zc17 hf
          refine lv_aload_n C.hx C.hb dX12_readsThing_48 rfl (lv_at hl 0 rfl) ?_
          refine lv_iconst (v := 3) C.hx C.hb dX12_readsThing_49 (by decide) ?_
          refine lv_iconst (v := 0) C.hx C.hb dX12_readsThing_50 (by decide) ?_
          refine lv_bipush (v := 9) C.hx C.hb dX12_readsThing_51 (by decide) ?_
          obtain ⟨zr18, zq19, hf⟩ := bd_some hf
          have zm20 := c_X12_takes l G o_t a_t N (hf := zq19)
          refine g_goI C h zm20.1 (is := [0]) rfl rfl (g_runV C h (is := [0]) rfl rfl (As := [.int 3, .int 0, .int 9]) (rest := []) (zm20.2 _) vf_X12_225 0 0 rfl rfl hl.1 rfl rfl (Nat.le_of_ble_eq_true rfl) dX12_readsThing_53 ⟨Nat.le_of_ble_eq_true rfl, Nat.le_of_ble_eq_true rfl⟩ ⟨Nat.le_refl _, Nat.le_refl _⟩) (us2 := [uX12 G o_t a_t zr18.2, uA G 52 (a_t 22) v_t_next]) rfl (fun H locs h => ?_)
          refine lv_if_ne (tgt := 61) C.hx C.hb dX12_readsThing_56 (by decide) (fun zc21 => ?_) (fun zc21 => ?_)
          · replace hf := it_f zc21 hf
            refine lv_aload_n C.hx C.hb dX12_readsThing_61 rfl (lv_at hl 0 rfl) ?_
            refine g_get C h fl_X12_42 0 0 rfl rfl (v := .ref (a_t 22)) rfl dX12_readsThing_62 ?_
            refine lv_aload_n C.hx C.hb dX12_readsThing_65 rfl (lv_at hl 0 rfl) ?_
            refine g_get C h fl_X12_45 0 0 rfl rfl (v := .ref (a_t 23)) rfl dX12_readsThing_66 ?_
            refine lv_iconst (v := 0) C.hx C.hb dX12_readsThing_69 (by decide) ?_
            obtain ⟨zi22, hf⟩ := ck_some hf
            refine g_iald C h 0 9 rfl rfl (f := zr18.2.2.2 23) zi22 dX12_readsThing_70 ?_
            refine lv_aload_n C.hx C.hb dX12_readsThing_71 rfl (lv_at hl 0 rfl) ?_
            refine g_get C h fl_X12_45 0 0 rfl rfl (v := .ref (a_t 23)) rfl dX12_readsThing_72 ?_
            refine lv_iconst (v := 1) C.hx C.hb dX12_readsThing_75 (by decide) ?_
            obtain ⟨zi23, hf⟩ := ck_some hf
            refine g_iald C h 0 9 rfl rfl (f := zr18.2.2.2 23) zi23 dX12_readsThing_76 ?_
            refine lv_aload_n C.hx C.hb dX12_readsThing_77 rfl (lv_at hl 0 rfl) ?_
            refine g_get C h fl_X12_45 0 0 rfl rfl (v := .ref (a_t 23)) rfl dX12_readsThing_78 ?_
            refine lv_iconst (v := 2) C.hx C.hb dX12_readsThing_81 (by decide) ?_
            obtain ⟨zi24, hf⟩ := ck_some hf
            refine g_iald C h 0 9 rfl rfl (f := zr18.2.2.2 23) zi24 dX12_readsThing_82 ?_
            refine lv_aload_n C.hx C.hb dX12_readsThing_83 rfl (lv_at hl 0 rfl) ?_
            refine g_get C h fl_X12_45 0 0 rfl rfl (v := .ref (a_t 23)) rfl dX12_readsThing_84 ?_
            refine lv_iconst (v := 3) C.hx C.hb dX12_readsThing_87 (by decide) ?_
            obtain ⟨zi25, hf⟩ := ck_some hf
            refine g_iald C h 0 9 rfl rfl (f := zr18.2.2.2 23) zi25 dX12_readsThing_88 ?_
            obtain ⟨zr26, zq27, hf⟩ := bd_some hf
            have zm28 := c_X12_layThing l G (a_t 22) (hf := zq27)
            refine g_goV C h zm28.1 (is := [1]) rfl rfl (g_runS C h (is := [1]) rfl rfl (As := [.ref (a_t 22), .int ((zr18.2.2.2 23) (0 : Int32).toNatClampNeg), .int ((zr18.2.2.2 23) (1 : Int32).toNatClampNeg), .int ((zr18.2.2.2 23) (2 : Int32).toNatClampNeg), .int ((zr18.2.2.2 23) (3 : Int32).toNatClampNeg)]) (rest := []) (zm28.2 _) sf_X12_67 hl.1 rfl rfl (Nat.le_of_ble_eq_true rfl) dX12_readsThing_89 ⟨Nat.le_of_ble_eq_true rfl, Nat.le_of_ble_eq_true rfl⟩ ⟨Nat.le_refl _, Nat.le_refl _⟩) (us2 := [uX12 G o_t a_t zr18.2, uA G 52 (a_t 22) zr26]) rfl (fun H locs h => ?_)
            refine lv_iconst (v := 1) C.hx C.hb dX12_readsThing_92 (by decide) ?_
            obtain rfl := Option.some.inj hf
            exact g_ret_z (b := true) C h rfl rfl rfl dX12_readsThing_93
          · replace hf := it_t zc21 hf
            refine lv_iconst (v := 0) C.hx C.hb dX12_readsThing_59 (by decide) ?_
            obtain rfl := Option.some.inj hf
            exact g_ret_z (b := false) C h rfl rfl rfl dX12_readsThing_60
  · replace hf := it_t zc2 hf
    refine lv_iconst (v := 0) C.hx C.hb dX12_readsThing_10 (by decide) ?_
    obtain rfl := Option.some.inj hf
    exact g_ret_z (b := false) C h rfl rfl rfl dX12_readsThing_11

def f_X12_readsItem (N : Nat) (v_t : US) (v_t_next : Nat → Int32)  : Option (Bool × US × (Nat → Int32)) :=
  (f_X12_isWord N v_t 116 104 105 110 103 0).bind fun zr1 => if (b2i zr1) = 0 then ((f_X12_isWord N v_t 99 117 116 0 0 0).bind fun zr5 => if (b2i zr5) = 0 then ((f_X12_isWord N v_t 100 97 109 112 0 0).bind fun zr9 => if (b2i zr9) = 0 then ((f_X12_isWord N v_t 101 114 114 97 110 100).bind fun zr13 => if (b2i zr13) = 0 then ((f_X12_isWord N v_t 114 117 108 101 0 0).bind fun zr17 => if (b2i zr17) = 0 then (some (false, v_t, v_t_next)) else ((f_X12_readsRule N v_t v_t_next).bind fun zr21 => if (b2i zr21.1) = 0 then (some (false, zr21.2.1, zr21.2.2)) else (some (true, zr21.2.1, zr21.2.2)))) else ((f_X12_readsErrand N v_t v_t_next).bind fun zr25 => some (zr25.1, zr25.2.1, zr25.2.2))) else ((f_X12_goOn N v_t).bind fun zr28 => (f_X12_takes N zr28 0 0 9).bind fun zr31 => if (0 : Int32) < 0 ∨ 4 ≤ (0 : Int32).toNatClampNeg then none else (if (26 : Int32) < 0 ∨ 52 ≤ (26 : Int32).toNatClampNeg then none else (some (zr31.1, zr31.2, upd v_t_next (26 : Int32).toNatClampNeg ((zr31.2.2.2 23) (0 : Int32).toNatClampNeg)))))) else ((f_X12_readsCut N v_t v_t_next).bind fun zr36 => some (zr36.1, zr36.2.1, zr36.2.2))) else ((f_X12_readsThing N v_t v_t_next).bind fun zr39 => some (zr39.1, zr39.2.1, zr39.2.2))
set_option maxRecDepth 100000 in
set_option maxHeartbeats 4000000 in
theorem c_X12_readsItem (l : Launch) (G : GG) (o_t : Nat) (a_t : Nat → Nat) (N : Nat) {v_t : US} {v_t_next : Nat → Int32}  {res : Bool × US × (Nat → Int32)} (hf : f_X12_readsItem N v_t v_t_next = some res) : MI l yX12_readsItem cX12_readsItem 2 (some .boolean) 8 [.ref o_t] G [uX12 G o_t a_t v_t, uA G 52 (a_t 22) v_t_next] (b2i res.1) [uX12 G o_t a_t res.2.1, uA G 52 (a_t 22) res.2.2] := by
  unfold f_X12_readsItem at hf
  refine MI.intro (by decide) rfl (Nat.le_of_ble_eq_true rfl) (fun p e s m args below meth c A ls C h hl => ?_)
  have C : MC RX12 cX12_readsItem 2 (some .boolean) G A p s m args meth c := C
  have hl : lv_has ls 2 [(0, .ref o_t)] := hl
  refine lv_aload_n C.hx C.hb dX12_readsItem_0 rfl (lv_at hl 0 rfl) ?_
  refine lv_bipush (v := 116) C.hx C.hb dX12_readsItem_1 (by decide) ?_
  refine lv_bipush (v := 104) C.hx C.hb dX12_readsItem_3 (by decide) ?_
  refine lv_bipush (v := 105) C.hx C.hb dX12_readsItem_5 (by decide) ?_
  refine lv_bipush (v := 110) C.hx C.hb dX12_readsItem_7 (by decide) ?_
  refine lv_bipush (v := 103) C.hx C.hb dX12_readsItem_9 (by decide) ?_
  refine lv_iconst (v := 0) C.hx C.hb dX12_readsItem_11 (by decide) ?_
  obtain ⟨zr1, zq2, hf⟩ := bd_some hf
  have zm3 := c_X12_isWord l G o_t a_t N (hf := zq2)
  refine g_goI C h zm3.1 (is := [0]) rfl rfl (g_runV C h (is := [0]) rfl rfl (As := [.int 116, .int 104, .int 105, .int 110, .int 103, .int 0]) (rest := []) (zm3.2 _) vf_X12_233 0 0 rfl rfl hl.1 rfl rfl (Nat.le_of_ble_eq_true rfl) dX12_readsItem_12 ⟨Nat.le_of_ble_eq_true rfl, Nat.le_of_ble_eq_true rfl⟩ ⟨Nat.le_refl _, Nat.le_refl _⟩) (us2 := [uX12 G o_t a_t v_t, uA G 52 (a_t 22) v_t_next]) rfl (fun H locs h => ?_)
  refine lv_if_eq (tgt := 23) C.hx C.hb dX12_readsItem_15 (by decide) (fun zc4 => ?_) (fun zc4 => ?_)
  · replace hf := it_t zc4 hf
    refine lv_aload_n C.hx C.hb dX12_readsItem_23 rfl (lv_at hl 0 rfl) ?_
    refine lv_bipush (v := 99) C.hx C.hb dX12_readsItem_24 (by decide) ?_
    refine lv_bipush (v := 117) C.hx C.hb dX12_readsItem_26 (by decide) ?_
    refine lv_bipush (v := 116) C.hx C.hb dX12_readsItem_28 (by decide) ?_
    refine lv_iconst (v := 0) C.hx C.hb dX12_readsItem_30 (by decide) ?_
    refine lv_iconst (v := 0) C.hx C.hb dX12_readsItem_31 (by decide) ?_
    refine lv_iconst (v := 0) C.hx C.hb dX12_readsItem_32 (by decide) ?_
    obtain ⟨zr5, zq6, hf⟩ := bd_some hf
    have zm7 := c_X12_isWord l G o_t a_t N (hf := zq6)
    refine g_goI C h zm7.1 (is := [0]) rfl rfl (g_runV C h (is := [0]) rfl rfl (As := [.int 99, .int 117, .int 116, .int 0, .int 0, .int 0]) (rest := []) (zm7.2 _) vf_X12_233 0 0 rfl rfl hl.1 rfl rfl (Nat.le_of_ble_eq_true rfl) dX12_readsItem_33 ⟨Nat.le_of_ble_eq_true rfl, Nat.le_of_ble_eq_true rfl⟩ ⟨Nat.le_refl _, Nat.le_refl _⟩) (us2 := [uX12 G o_t a_t v_t, uA G 52 (a_t 22) v_t_next]) rfl (fun H locs h => ?_)
    refine lv_if_eq (tgt := 44) C.hx C.hb dX12_readsItem_36 (by decide) (fun zc8 => ?_) (fun zc8 => ?_)
    · replace hf := it_t zc8 hf
      refine lv_aload_n C.hx C.hb dX12_readsItem_44 rfl (lv_at hl 0 rfl) ?_
      refine lv_bipush (v := 100) C.hx C.hb dX12_readsItem_45 (by decide) ?_
      refine lv_bipush (v := 97) C.hx C.hb dX12_readsItem_47 (by decide) ?_
      refine lv_bipush (v := 109) C.hx C.hb dX12_readsItem_49 (by decide) ?_
      refine lv_bipush (v := 112) C.hx C.hb dX12_readsItem_51 (by decide) ?_
      refine lv_iconst (v := 0) C.hx C.hb dX12_readsItem_53 (by decide) ?_
      refine lv_iconst (v := 0) C.hx C.hb dX12_readsItem_54 (by decide) ?_
      obtain ⟨zr9, zq10, hf⟩ := bd_some hf
      have zm11 := c_X12_isWord l G o_t a_t N (hf := zq10)
      refine g_goI C h zm11.1 (is := [0]) rfl rfl (g_runV C h (is := [0]) rfl rfl (As := [.int 100, .int 97, .int 109, .int 112, .int 0, .int 0]) (rest := []) (zm11.2 _) vf_X12_233 0 0 rfl rfl hl.1 rfl rfl (Nat.le_of_ble_eq_true rfl) dX12_readsItem_55 ⟨Nat.le_of_ble_eq_true rfl, Nat.le_of_ble_eq_true rfl⟩ ⟨Nat.le_refl _, Nat.le_refl _⟩) (us2 := [uX12 G o_t a_t v_t, uA G 52 (a_t 22) v_t_next]) rfl (fun H locs h => ?_)
      refine lv_if_eq (tgt := 89) C.hx C.hb dX12_readsItem_58 (by decide) (fun zc12 => ?_) (fun zc12 => ?_)
      · replace hf := it_t zc12 hf
        refine lv_aload_n C.hx C.hb dX12_readsItem_89 rfl (lv_at hl 0 rfl) ?_
        refine lv_bipush (v := 101) C.hx C.hb dX12_readsItem_90 (by decide) ?_
        refine lv_bipush (v := 114) C.hx C.hb dX12_readsItem_92 (by decide) ?_
        refine lv_bipush (v := 114) C.hx C.hb dX12_readsItem_94 (by decide) ?_
        refine lv_bipush (v := 97) C.hx C.hb dX12_readsItem_96 (by decide) ?_
        refine lv_bipush (v := 110) C.hx C.hb dX12_readsItem_98 (by decide) ?_
        refine lv_bipush (v := 100) C.hx C.hb dX12_readsItem_100 (by decide) ?_
        obtain ⟨zr13, zq14, hf⟩ := bd_some hf
        have zm15 := c_X12_isWord l G o_t a_t N (hf := zq14)
        refine g_goI C h zm15.1 (is := [0]) rfl rfl (g_runV C h (is := [0]) rfl rfl (As := [.int 101, .int 114, .int 114, .int 97, .int 110, .int 100]) (rest := []) (zm15.2 _) vf_X12_233 0 0 rfl rfl hl.1 rfl rfl (Nat.le_of_ble_eq_true rfl) dX12_readsItem_102 ⟨Nat.le_of_ble_eq_true rfl, Nat.le_of_ble_eq_true rfl⟩ ⟨Nat.le_refl _, Nat.le_refl _⟩) (us2 := [uX12 G o_t a_t v_t, uA G 52 (a_t 22) v_t_next]) rfl (fun H locs h => ?_)
        refine lv_if_eq (tgt := 113) C.hx C.hb dX12_readsItem_105 (by decide) (fun zc16 => ?_) (fun zc16 => ?_)
        · replace hf := it_t zc16 hf
          refine lv_aload_n C.hx C.hb dX12_readsItem_113 rfl (lv_at hl 0 rfl) ?_
          refine lv_bipush (v := 114) C.hx C.hb dX12_readsItem_114 (by decide) ?_
          refine lv_bipush (v := 117) C.hx C.hb dX12_readsItem_116 (by decide) ?_
          refine lv_bipush (v := 108) C.hx C.hb dX12_readsItem_118 (by decide) ?_
          refine lv_bipush (v := 101) C.hx C.hb dX12_readsItem_120 (by decide) ?_
          refine lv_iconst (v := 0) C.hx C.hb dX12_readsItem_122 (by decide) ?_
          refine lv_iconst (v := 0) C.hx C.hb dX12_readsItem_123 (by decide) ?_
          obtain ⟨zr17, zq18, hf⟩ := bd_some hf
          have zm19 := c_X12_isWord l G o_t a_t N (hf := zq18)
          refine g_goI C h zm19.1 (is := [0]) rfl rfl (g_runV C h (is := [0]) rfl rfl (As := [.int 114, .int 117, .int 108, .int 101, .int 0, .int 0]) (rest := []) (zm19.2 _) vf_X12_233 0 0 rfl rfl hl.1 rfl rfl (Nat.le_of_ble_eq_true rfl) dX12_readsItem_124 ⟨Nat.le_of_ble_eq_true rfl, Nat.le_of_ble_eq_true rfl⟩ ⟨Nat.le_refl _, Nat.le_refl _⟩) (us2 := [uX12 G o_t a_t v_t, uA G 52 (a_t 22) v_t_next]) rfl (fun H locs h => ?_)
          refine lv_if_eq (tgt := 141) C.hx C.hb dX12_readsItem_127 (by decide) (fun zc20 => ?_) (fun zc20 => ?_)
          · replace hf := it_t zc20 hf
            refine lv_iconst (v := 0) C.hx C.hb dX12_readsItem_141 (by decide) ?_
            obtain rfl := Option.some.inj hf
            exact g_ret_z (b := false) C h rfl rfl rfl dX12_readsItem_142
          · replace hf := it_f zc20 hf
            refine lv_aload_n C.hx C.hb dX12_readsItem_130 rfl (lv_at hl 0 rfl) ?_
            obtain ⟨zr21, zq22, hf⟩ := bd_some hf
            have zm23 := c_X12_readsRule l G o_t a_t N (hf := zq22)
            refine g_goI C h zm23.1 (is := [0, 1]) rfl rfl (g_runV C h (is := [0, 1]) rfl rfl (As := []) (rest := []) (zm23.2 _) vf_X12_246 0 0 rfl rfl hl.1 rfl rfl (Nat.le_of_ble_eq_true rfl) dX12_readsItem_131 ⟨Nat.le_of_ble_eq_true rfl, Nat.le_of_ble_eq_true rfl⟩ ⟨Nat.le_refl _, Nat.le_refl _⟩) (us2 := [uX12 G o_t a_t zr21.2.1, uA G 52 (a_t 22) zr21.2.2]) rfl (fun H locs h => ?_)
            refine lv_if_eq (tgt := 141) C.hx C.hb dX12_readsItem_134 (by decide) (fun zc24 => ?_) (fun zc24 => ?_)
            · replace hf := it_t zc24 hf
              refine lv_iconst (v := 0) C.hx C.hb dX12_readsItem_141 (by decide) ?_
              obtain rfl := Option.some.inj hf
              exact g_ret_z (b := false) C h rfl rfl rfl dX12_readsItem_142
            · replace hf := it_f zc24 hf
              refine lv_iconst (v := 1) C.hx C.hb dX12_readsItem_137 (by decide) ?_
              refine lv_goto (tgt := 142) C.hx C.hb dX12_readsItem_138 (by decide) ?_
              obtain rfl := Option.some.inj hf
              exact g_ret_z (b := true) C h rfl rfl rfl dX12_readsItem_142
        · replace hf := it_f zc16 hf
          refine lv_aload_n C.hx C.hb dX12_readsItem_108 rfl (lv_at hl 0 rfl) ?_
          obtain ⟨zr25, zq26, hf⟩ := bd_some hf
          have zm27 := c_X12_readsErrand l G o_t a_t N (hf := zq26)
          refine g_goI C h zm27.1 (is := [0, 1]) rfl rfl (g_runV C h (is := [0, 1]) rfl rfl (As := []) (rest := []) (zm27.2 _) vf_X12_243 0 0 rfl rfl hl.1 rfl rfl (Nat.le_of_ble_eq_true rfl) dX12_readsItem_109 ⟨Nat.le_of_ble_eq_true rfl, Nat.le_of_ble_eq_true rfl⟩ ⟨Nat.le_refl _, Nat.le_refl _⟩) (us2 := [uX12 G o_t a_t zr25.2.1, uA G 52 (a_t 22) zr25.2.2]) rfl (fun H locs h => ?_)
          obtain rfl := Option.some.inj hf
          exact g_ret_z (b := _) C h rfl rfl rfl dX12_readsItem_112
      · replace hf := it_f zc12 hf
        refine lv_aload_n C.hx C.hb dX12_readsItem_61 rfl (lv_at hl 0 rfl) ?_
        obtain ⟨zr28, zq29, hf⟩ := bd_some hf
        have zm30 := c_X12_goOn l G o_t a_t N (hf := zq29)
        refine g_goV C h zm30.1 (is := [0]) rfl rfl (g_runV C h (is := [0]) rfl rfl (As := []) (rest := []) (zm30.2 _) vf_X12_222 0 0 rfl rfl hl.1 rfl rfl (Nat.le_of_ble_eq_true rfl) dX12_readsItem_62 ⟨Nat.le_of_ble_eq_true rfl, Nat.le_of_ble_eq_true rfl⟩ ⟨Nat.le_refl _, Nat.le_refl _⟩) (us2 := [uX12 G o_t a_t zr28, uA G 52 (a_t 22) v_t_next]) rfl (fun H locs h => ?_)
        refine lv_aload_n C.hx C.hb dX12_readsItem_65 rfl (lv_at hl 0 rfl) ?_
        refine lv_iconst (v := 0) C.hx C.hb dX12_readsItem_66 (by decide) ?_
        refine lv_iconst (v := 0) C.hx C.hb dX12_readsItem_67 (by decide) ?_
        refine lv_bipush (v := 9) C.hx C.hb dX12_readsItem_68 (by decide) ?_
        obtain ⟨zr31, zq32, hf⟩ := bd_some hf
        have zm33 := c_X12_takes l G o_t a_t N (hf := zq32)
        refine g_goI C h zm33.1 (is := [0]) rfl rfl (g_runV C h (is := [0]) rfl rfl (As := [.int 0, .int 0, .int 9]) (rest := []) (zm33.2 _) vf_X12_225 0 0 rfl rfl hl.1 rfl rfl (Nat.le_of_ble_eq_true rfl) dX12_readsItem_70 ⟨Nat.le_of_ble_eq_true rfl, Nat.le_of_ble_eq_true rfl⟩ ⟨Nat.le_refl _, Nat.le_refl _⟩) (us2 := [uX12 G o_t a_t zr31.2, uA G 52 (a_t 22) v_t_next]) rfl (fun H locs h => ?_)
        refine lv_istore_n (lv' := [(1, .int (b2i zr31.1)), (0, .ref o_t)]) C.hx C.hb dX12_readsItem_73 rfl hl (by decide) rfl (fun ls hl => ?_)
        refine lv_aload_n C.hx C.hb dX12_readsItem_74 rfl (lv_at hl 1 rfl) ?_
        refine g_get C h fl_X12_42 0 0 rfl rfl (v := .ref (a_t 22)) rfl dX12_readsItem_75 ?_
        refine lv_bipush (v := 26) C.hx C.hb dX12_readsItem_78 (by decide) ?_
        refine lv_aload_n C.hx C.hb dX12_readsItem_80 rfl (lv_at hl 1 rfl) ?_
        refine g_get C h fl_X12_45 0 0 rfl rfl (v := .ref (a_t 23)) rfl dX12_readsItem_81 ?_
        refine lv_iconst (v := 0) C.hx C.hb dX12_readsItem_84 (by decide) ?_
        obtain ⟨zi34, hf⟩ := ck_some hf
        refine g_iald C h 0 9 rfl rfl (f := zr31.2.2.2 23) zi34 dX12_readsItem_85 ?_
        obtain ⟨zi35, hf⟩ := ck_some hf
        refine g_iast C h 1 0 rfl rfl (f := v_t_next) zi35 dX12_readsItem_86 (u' := uA G 52 (a_t 22) (upd v_t_next (26 : Int32).toNatClampNeg ((zr31.2.2.2 23) (0 : Int32).toNatClampNeg))) (us' := [uX12 G o_t a_t zr31.2, uA G 52 (a_t 22) (upd v_t_next (26 : Int32).toNatClampNeg ((zr31.2.2.2 23) (0 : Int32).toNatClampNeg))]) rfl rfl (fun H locs h => ?_)
        refine lv_iload_n C.hx C.hb dX12_readsItem_87 rfl (lv_at hl 0 rfl) ?_
        obtain rfl := Option.some.inj hf
        exact g_ret_z (b := _) C h rfl rfl rfl dX12_readsItem_88
    · replace hf := it_f zc8 hf
      refine lv_aload_n C.hx C.hb dX12_readsItem_39 rfl (lv_at hl 0 rfl) ?_
      obtain ⟨zr36, zq37, hf⟩ := bd_some hf
      have zm38 := c_X12_readsCut l G o_t a_t N (hf := zq37)
      refine g_goI C h zm38.1 (is := [0, 1]) rfl rfl (g_runV C h (is := [0, 1]) rfl rfl (As := []) (rest := []) (zm38.2 _) vf_X12_240 0 0 rfl rfl hl.1 rfl rfl (Nat.le_of_ble_eq_true rfl) dX12_readsItem_40 ⟨Nat.le_of_ble_eq_true rfl, Nat.le_of_ble_eq_true rfl⟩ ⟨Nat.le_refl _, Nat.le_refl _⟩) (us2 := [uX12 G o_t a_t zr36.2.1, uA G 52 (a_t 22) zr36.2.2]) rfl (fun H locs h => ?_)
      obtain rfl := Option.some.inj hf
      exact g_ret_z (b := _) C h rfl rfl rfl dX12_readsItem_43
  · replace hf := it_f zc4 hf
    refine lv_aload_n C.hx C.hb dX12_readsItem_18 rfl (lv_at hl 0 rfl) ?_
    obtain ⟨zr39, zq40, hf⟩ := bd_some hf
    have zm41 := c_X12_readsThing l G o_t a_t N (hf := zq40)
    refine g_goI C h zm41.1 (is := [0, 1]) rfl rfl (g_runV C h (is := [0, 1]) rfl rfl (As := []) (rest := []) (zm41.2 _) vf_X12_237 0 0 rfl rfl hl.1 rfl rfl (Nat.le_of_ble_eq_true rfl) dX12_readsItem_19 ⟨Nat.le_of_ble_eq_true rfl, Nat.le_of_ble_eq_true rfl⟩ ⟨Nat.le_refl _, Nat.le_refl _⟩) (us2 := [uX12 G o_t a_t zr39.2.1, uA G 52 (a_t 22) zr39.2.2]) rfl (fun H locs h => ?_)
    obtain rfl := Option.some.inj hf
    exact g_ret_z (b := _) C h rfl rfl rfl dX12_readsItem_22

def b_X12_read_70 (N : Nat) (g70 : US → (Nat → Int32) → (Nat → Int32) → Int32 → Int32 → (Option (Int32 × US × (Nat → Int32) × (Nat → Int32)))) (v_t : US) (v_t_next : Nat → Int32) (v_t_now : Nat → Int32) (y1 : Int32) (y2 : Int32) : Option (Int32 × US × (Nat → Int32) × (Nat → Int32)) :=
  if 52 ≤ y2 then (if (52 : Int32) < 0 ∨ 63 ≤ (52 : Int32).toNatClampNeg then none else (some (y1, v_t, v_t_next, upd v_t_now (52 : Int32).toNatClampNeg 0))) else (if y2 < 0 ∨ 52 ≤ y2.toNatClampNeg then none else (if y2 < 0 ∨ 63 ≤ y2.toNatClampNeg then none else (g70 v_t v_t_next (upd v_t_now y2.toNatClampNeg (v_t_next y2.toNatClampNeg)) y1 (y2 + 1))))
def f_X12_read_70 (N : Nat)  : Nat → US → (Nat → Int32) → (Nat → Int32) → Int32 → Int32 → (Option (Int32 × US × (Nat → Int32) × (Nat → Int32)))
  | 0 => fun _ _ _ _ _ => none
  | k + 1 => fun q0 q1 q2 q3 q4 => b_X12_read_70 N  (f_X12_read_70 N  k) q0 q1 q2 q3 q4
def b_X12_read_28 (N : Nat) (g28 : US → (Nat → Int32) → (Nat → Int32) → Int32 → (Option (Int32 × US × (Nat → Int32) × (Nat → Int32)))) (v_t : US) (v_t_next : Nat → Int32) (v_t_now : Nat → Int32) (y1 : Int32) : Option (Int32 × US × (Nat → Int32) × (Nat → Int32)) :=
  if (v_t.1 20) = 0 then (f_X12_read_70 N N v_t v_t_next v_t_now y1 0) else ((f_X12_readsItem N v_t v_t_next).bind fun zr2 => if (b2i zr2.1) = 0 then (some ((-10) - (zr2.2.1.1 18), zr2.2.1, zr2.2.2, v_t_now)) else (if (zr2.2.1.1 20) = 3 then ((f_X12_goOn N zr2.2.1).bind fun zr7 => g28 zr7 zr2.2.2 v_t_now (y1 + 1)) else (some ((-10) - (zr2.2.1.1 18), zr2.2.1, zr2.2.2, v_t_now))))
def f_X12_read_28 (N : Nat)  : Nat → US → (Nat → Int32) → (Nat → Int32) → Int32 → (Option (Int32 × US × (Nat → Int32) × (Nat → Int32)))
  | 0 => fun _ _ _ _ => none
  | k + 1 => fun q0 q1 q2 q3 => b_X12_read_28 N  (f_X12_read_28 N  k) q0 q1 q2 q3
def b_X12_read_2 (N : Nat) (g2 : US → (Nat → Int32) → (Nat → Int32) → Int32 → (Option (Int32 × US × (Nat → Int32) × (Nat → Int32)))) (v_t : US) (v_t_next : Nat → Int32) (v_t_now : Nat → Int32) (y1 : Int32) : Option (Int32 × US × (Nat → Int32) × (Nat → Int32)) :=
  if 52 ≤ y1 then ((f_X12_look N v_t 0).bind fun zr2 => f_X12_read_28 N N zr2 v_t_next v_t_now 0) else (if y1 < 0 ∨ 52 ≤ y1.toNatClampNeg then none else (g2 v_t (upd v_t_next y1.toNatClampNeg 0) v_t_now (y1 + 1)))
def f_X12_read_2 (N : Nat)  : Nat → US → (Nat → Int32) → (Nat → Int32) → Int32 → (Option (Int32 × US × (Nat → Int32) × (Nat → Int32)))
  | 0 => fun _ _ _ _ => none
  | k + 1 => fun q0 q1 q2 q3 => b_X12_read_2 N  (f_X12_read_2 N  k) q0 q1 q2 q3
def f_X12_read (N : Nat) (v_t : US) (v_t_next : Nat → Int32) (v_t_now : Nat → Int32)  : Option (Int32 × US × (Nat → Int32) × (Nat → Int32)) :=
  f_X12_read_2 N N v_t v_t_next v_t_now 0
set_option maxRecDepth 100000 in
set_option maxHeartbeats 4000000 in
theorem w_X12_read_70 {p : Program} {l : Launch} {e : Env} {s : State} {m : MethodId} {args : Array Value} {below : List Frame} {meth : Method} {c : Code} {G : GG} {A : Nat → Prop} {o_t : Nat} {a_t : Nat → Nat} {N : Nat} {g70 : US → (Nat → Int32) → (Nat → Int32) → Int32 → Int32 → (Option (Int32 × US × (Nat → Int32) × (Nat → Int32)))} {v_t : US} {v_t_next : Nat → Int32} {v_t_now : Nat → Int32} {y1 : Int32} {y2 : Int32} {res : Int32 × US × (Nat → Int32) × (Nat → Int32)} (C : MC RX12 cX12_read 3 (some .int) G A p s m args meth c) (hg70 : ∀ {v_t : US} {v_t_next : Nat → Int32} {v_t_now : Nat → Int32} {y1 : Int32} {y2 : Int32}, g70 v_t v_t_next v_t_now y1 y2 = some res → ∀ {H : Heap} {locs : List Loc} {ls : Array Slot}, HP G A s [uX12 G o_t a_t v_t, uA G 52 (a_t 22) v_t_next, uA G 63 (a_t 0) v_t_now] H locs → lv_has ls 3 [(0, .ref o_t), (1, .int y1), (2, .int y2)] → W p l e (rmm 9) s m args below meth c H locs 0 0 (QI below G A args s res.1 [uX12 G o_t a_t res.2.1, uA G 52 (a_t 22) res.2.2.1, uA G 63 (a_t 0) res.2.2.2]) (F0 m 70 ls [])) (hf : b_X12_read_70 N g70 v_t v_t_next v_t_now y1 y2 = some res) {H : Heap} {locs : List Loc} {ls : Array Slot} (h : HP G A s [uX12 G o_t a_t v_t, uA G 52 (a_t 22) v_t_next, uA G 63 (a_t 0) v_t_now] H locs) (hl : lv_has ls 3 [(0, .ref o_t), (1, .int y1), (2, .int y2)]) : W p l e (rmm 9) s m args below meth c H locs 0 0 (QI below G A args s res.1 [uX12 G o_t a_t res.2.1, uA G 52 (a_t 22) res.2.2.1, uA G 63 (a_t 0) res.2.2.2]) (F0 m 70 ls []) := by
  unfold b_X12_read_70 at hf
  refine lv_iload_n C.hx C.hb dX12_read_70 rfl (lv_at hl 2 rfl) ?_
  refine lv_bipush (v := 52) C.hx C.hb dX12_read_71 (by decide) ?_
  refine lv_icmp_ge (tgt := 94) C.hx C.hb dX12_read_73 (by decide) (fun zc1 => ?_) (fun zc1 => ?_)
  · replace hf := it_t zc1 hf
    refine lv_aload_n C.hx C.hb dX12_read_94 rfl (lv_at hl 0 rfl) ?_
    refine g_get C h fl_X12_7 0 0 rfl rfl (v := .ref (a_t 0)) rfl dX12_read_95 ?_
    refine lv_bipush (v := 52) C.hx C.hb dX12_read_98 (by decide) ?_
    refine lv_iconst (v := 0) C.hx C.hb dX12_read_100 (by decide) ?_
    obtain ⟨zi2, hf⟩ := ck_some hf
    refine g_iast C h 2 0 rfl rfl (f := v_t_now) zi2 dX12_read_101 (u' := uA G 63 (a_t 0) (upd v_t_now (52 : Int32).toNatClampNeg 0)) (us' := [uX12 G o_t a_t v_t, uA G 52 (a_t 22) v_t_next, uA G 63 (a_t 0) (upd v_t_now (52 : Int32).toNatClampNeg 0)]) rfl rfl (fun H locs h => ?_)
    refine lv_iload_n C.hx C.hb dX12_read_102 rfl (lv_at hl 1 rfl) ?_
    obtain rfl := Option.some.inj hf
    exact g_ret_i C h rfl rfl dX12_read_103
  · replace hf := it_f zc1 hf
    refine lv_aload_n C.hx C.hb dX12_read_76 rfl (lv_at hl 0 rfl) ?_
    refine g_get C h fl_X12_7 0 0 rfl rfl (v := .ref (a_t 0)) rfl dX12_read_77 ?_
    refine lv_iload_n C.hx C.hb dX12_read_80 rfl (lv_at hl 2 rfl) ?_
    refine lv_aload_n C.hx C.hb dX12_read_81 rfl (lv_at hl 0 rfl) ?_
    refine g_get C h fl_X12_42 0 0 rfl rfl (v := .ref (a_t 22)) rfl dX12_read_82 ?_
    refine lv_iload_n C.hx C.hb dX12_read_85 rfl (lv_at hl 2 rfl) ?_
    obtain ⟨zi3, hf⟩ := ck_some hf
    refine g_iald C h 1 0 rfl rfl (f := v_t_next) zi3 dX12_read_86 ?_
    obtain ⟨zi4, hf⟩ := ck_some hf
    refine g_iast C h 2 0 rfl rfl (f := v_t_now) zi4 dX12_read_87 (u' := uA G 63 (a_t 0) (upd v_t_now y2.toNatClampNeg (v_t_next y2.toNatClampNeg))) (us' := [uX12 G o_t a_t v_t, uA G 52 (a_t 22) v_t_next, uA G 63 (a_t 0) (upd v_t_now y2.toNatClampNeg (v_t_next y2.toNatClampNeg))]) rfl rfl (fun H locs h => ?_)
    refine lv_iinc (v := y2 + 1) (lv' := [(2, .int (y2 + 1)), (0, .ref o_t), (1, .int y1)]) C.hx C.hb dX12_read_88 hl (k := 2) rfl rfl (by decide) rfl (fun ls hl => ?_)
    refine lv_goto (tgt := 70) C.hx C.hb dX12_read_91 (by decide) ?_
    exact hg70 hf h (lv_sub hl [1, 2, 0] rfl)
set_option maxRecDepth 100000 in
set_option maxHeartbeats 4000000 in
theorem l_X12_read_70 {p : Program} {l : Launch} {e : Env} {s : State} {m : MethodId} {args : Array Value} {below : List Frame} {meth : Method} {c : Code} {G : GG} {A : Nat → Prop} {o_t : Nat} {a_t : Nat → Nat} {N : Nat}  {res : Int32 × US × (Nat → Int32) × (Nat → Int32)} (C : MC RX12 cX12_read 3 (some .int) G A p s m args meth c)  : ∀ (k : Nat) {v_t : US} {v_t_next : Nat → Int32} {v_t_now : Nat → Int32} {y1 : Int32} {y2 : Int32}, f_X12_read_70 N k v_t v_t_next v_t_now y1 y2 = some res → ∀ {H : Heap} {locs : List Loc} {ls : Array Slot}, HP G A s [uX12 G o_t a_t v_t, uA G 52 (a_t 22) v_t_next, uA G 63 (a_t 0) v_t_now] H locs → lv_has ls 3 [(0, .ref o_t), (1, .int y1), (2, .int y2)] → W p l e (rmm 9) s m args below meth c H locs 0 0 (QI below G A args s res.1 [uX12 G o_t a_t res.2.1, uA G 52 (a_t 22) res.2.2.1, uA G 63 (a_t 0) res.2.2.2]) (F0 m 70 ls []) := by
  intro k
  induction k with
  | zero => intros; contradiction
  | succ k ih =>
    intro v_t v_t_next v_t_now y1 y2 hf H locs ls h hl
    exact w_X12_read_70 (N := N) C ih hf h hl
set_option maxRecDepth 100000 in
set_option maxHeartbeats 4000000 in
theorem w_X12_read_28 {p : Program} {l : Launch} {e : Env} {s : State} {m : MethodId} {args : Array Value} {below : List Frame} {meth : Method} {c : Code} {G : GG} {A : Nat → Prop} {o_t : Nat} {a_t : Nat → Nat} {N : Nat} {g28 : US → (Nat → Int32) → (Nat → Int32) → Int32 → (Option (Int32 × US × (Nat → Int32) × (Nat → Int32)))} {v_t : US} {v_t_next : Nat → Int32} {v_t_now : Nat → Int32} {y1 : Int32} {res : Int32 × US × (Nat → Int32) × (Nat → Int32)} (C : MC RX12 cX12_read 3 (some .int) G A p s m args meth c) (hg28 : ∀ {v_t : US} {v_t_next : Nat → Int32} {v_t_now : Nat → Int32} {y1 : Int32}, g28 v_t v_t_next v_t_now y1 = some res → ∀ {H : Heap} {locs : List Loc} {ls : Array Slot}, HP G A s [uX12 G o_t a_t v_t, uA G 52 (a_t 22) v_t_next, uA G 63 (a_t 0) v_t_now] H locs → lv_has ls 3 [(0, .ref o_t), (1, .int y1)] → W p l e (rmm 9) s m args below meth c H locs 0 0 (QI below G A args s res.1 [uX12 G o_t a_t res.2.1, uA G 52 (a_t 22) res.2.2.1, uA G 63 (a_t 0) res.2.2.2]) (F0 m 28 ls [])) (hf : b_X12_read_28 N g28 v_t v_t_next v_t_now y1 = some res) {H : Heap} {locs : List Loc} {ls : Array Slot} (h : HP G A s [uX12 G o_t a_t v_t, uA G 52 (a_t 22) v_t_next, uA G 63 (a_t 0) v_t_now] H locs) (hl : lv_has ls 3 [(0, .ref o_t), (1, .int y1)]) : W p l e (rmm 9) s m args below meth c H locs 0 0 (QI below G A args s res.1 [uX12 G o_t a_t res.2.1, uA G 52 (a_t 22) res.2.2.1, uA G 63 (a_t 0) res.2.2.2]) (F0 m 28 ls []) := by
  unfold b_X12_read_28 at hf
  refine lv_aload_n C.hx C.hb dX12_read_28 rfl (lv_at hl 0 rfl) ?_
  refine g_get C h fl_X12_207 0 0 rfl rfl (v := .int (v_t.1 20)) rfl dX12_read_29 ?_
  refine lv_if_eq (tgt := 68) C.hx C.hb dX12_read_32 (by decide) (fun zc1 => ?_) (fun zc1 => ?_)
  · replace hf := it_t zc1 hf
    refine lv_iconst (v := 0) C.hx C.hb dX12_read_68 (by decide) ?_
    refine lv_istore_n (lv' := [(2, .int 0), (0, .ref o_t), (1, .int y1)]) C.hx C.hb dX12_read_69 rfl hl (by decide) rfl (fun ls hl => ?_)
    exact l_X12_read_70 C N hf h (lv_sub hl [1, 2, 0] rfl)
  · replace hf := it_f zc1 hf
    refine lv_aload_n C.hx C.hb dX12_read_35 rfl (lv_at hl 0 rfl) ?_
    obtain ⟨zr2, zq3, hf⟩ := bd_some hf
    have zm4 := c_X12_readsItem l G o_t a_t N (hf := zq3)
    refine g_goI C h zm4.1 (is := [0, 1]) rfl rfl (g_runV C h (is := [0, 1]) rfl rfl (As := []) (rest := []) (zm4.2 _) vf_X12_249 0 0 rfl rfl hl.1 rfl rfl (Nat.le_of_ble_eq_true rfl) dX12_read_36 ⟨Nat.le_of_ble_eq_true rfl, Nat.le_of_ble_eq_true rfl⟩ ⟨Nat.le_refl _, Nat.le_refl _⟩) (us2 := [uX12 G o_t a_t zr2.2.1, uA G 52 (a_t 22) zr2.2.2, uA G 63 (a_t 0) v_t_now]) rfl (fun H locs h => ?_)
    refine lv_if_eq (tgt := 50) C.hx C.hb dX12_read_39 (by decide) (fun zc5 => ?_) (fun zc5 => ?_)
    · replace hf := it_t zc5 hf
      refine lv_bipush (v := (-10)) C.hx C.hb dX12_read_50 (by decide) ?_
      refine lv_aload_n C.hx C.hb dX12_read_52 rfl (lv_at hl 0 rfl) ?_
      refine g_get C h fl_X12_201 0 0 rfl rfl (v := .int (zr2.2.1.1 18)) rfl dX12_read_53 ?_
      refine lv_isub C.hx C.hb dX12_read_56 ?_
      obtain rfl := Option.some.inj hf
      exact g_ret_i C h rfl rfl dX12_read_57
    · replace hf := it_f zc5 hf
      refine lv_aload_n C.hx C.hb dX12_read_42 rfl (lv_at hl 0 rfl) ?_
      refine g_get C h fl_X12_207 0 0 rfl rfl (v := .int (zr2.2.1.1 20)) rfl dX12_read_43 ?_
      refine lv_iconst (v := 3) C.hx C.hb dX12_read_46 (by decide) ?_
      refine lv_icmp_eq (tgt := 58) C.hx C.hb dX12_read_47 (by decide) (fun zc6 => ?_) (fun zc6 => ?_)
      · replace hf := it_t zc6 hf
        refine lv_aload_n C.hx C.hb dX12_read_58 rfl (lv_at hl 0 rfl) ?_
        obtain ⟨zr7, zq8, hf⟩ := bd_some hf
        have zm9 := c_X12_goOn l G o_t a_t N (hf := zq8)
        refine g_goV C h zm9.1 (is := [0]) rfl rfl (g_runV C h (is := [0]) rfl rfl (As := []) (rest := []) (zm9.2 _) vf_X12_222 0 0 rfl rfl hl.1 rfl rfl (Nat.le_of_ble_eq_true rfl) dX12_read_59 ⟨Nat.le_of_ble_eq_true rfl, Nat.le_of_ble_eq_true rfl⟩ ⟨Nat.le_refl _, Nat.le_refl _⟩) (us2 := [uX12 G o_t a_t zr7, uA G 52 (a_t 22) zr2.2.2, uA G 63 (a_t 0) v_t_now]) rfl (fun H locs h => ?_)
        refine lv_iinc (v := y1 + 1) (lv' := [(1, .int (y1 + 1)), (0, .ref o_t)]) C.hx C.hb dX12_read_62 hl (k := 1) rfl rfl (by decide) rfl (fun ls hl => ?_)
        refine lv_goto (tgt := 28) C.hx C.hb dX12_read_65 (by decide) ?_
        exact hg28 hf h (lv_sub hl [1, 0] rfl)
      · replace hf := it_f zc6 hf
        refine lv_bipush (v := (-10)) C.hx C.hb dX12_read_50 (by decide) ?_
        refine lv_aload_n C.hx C.hb dX12_read_52 rfl (lv_at hl 0 rfl) ?_
        refine g_get C h fl_X12_201 0 0 rfl rfl (v := .int (zr2.2.1.1 18)) rfl dX12_read_53 ?_
        refine lv_isub C.hx C.hb dX12_read_56 ?_
        obtain rfl := Option.some.inj hf
        exact g_ret_i C h rfl rfl dX12_read_57
set_option maxRecDepth 100000 in
set_option maxHeartbeats 4000000 in
theorem l_X12_read_28 {p : Program} {l : Launch} {e : Env} {s : State} {m : MethodId} {args : Array Value} {below : List Frame} {meth : Method} {c : Code} {G : GG} {A : Nat → Prop} {o_t : Nat} {a_t : Nat → Nat} {N : Nat}  {res : Int32 × US × (Nat → Int32) × (Nat → Int32)} (C : MC RX12 cX12_read 3 (some .int) G A p s m args meth c)  : ∀ (k : Nat) {v_t : US} {v_t_next : Nat → Int32} {v_t_now : Nat → Int32} {y1 : Int32}, f_X12_read_28 N k v_t v_t_next v_t_now y1 = some res → ∀ {H : Heap} {locs : List Loc} {ls : Array Slot}, HP G A s [uX12 G o_t a_t v_t, uA G 52 (a_t 22) v_t_next, uA G 63 (a_t 0) v_t_now] H locs → lv_has ls 3 [(0, .ref o_t), (1, .int y1)] → W p l e (rmm 9) s m args below meth c H locs 0 0 (QI below G A args s res.1 [uX12 G o_t a_t res.2.1, uA G 52 (a_t 22) res.2.2.1, uA G 63 (a_t 0) res.2.2.2]) (F0 m 28 ls []) := by
  intro k
  induction k with
  | zero => intros; contradiction
  | succ k ih =>
    intro v_t v_t_next v_t_now y1 hf H locs ls h hl
    exact w_X12_read_28 (N := N) C ih hf h hl
set_option maxRecDepth 100000 in
set_option maxHeartbeats 4000000 in
theorem w_X12_read_2 {p : Program} {l : Launch} {e : Env} {s : State} {m : MethodId} {args : Array Value} {below : List Frame} {meth : Method} {c : Code} {G : GG} {A : Nat → Prop} {o_t : Nat} {a_t : Nat → Nat} {N : Nat} {g2 : US → (Nat → Int32) → (Nat → Int32) → Int32 → (Option (Int32 × US × (Nat → Int32) × (Nat → Int32)))} {v_t : US} {v_t_next : Nat → Int32} {v_t_now : Nat → Int32} {y1 : Int32} {res : Int32 × US × (Nat → Int32) × (Nat → Int32)} (C : MC RX12 cX12_read 3 (some .int) G A p s m args meth c) (hg2 : ∀ {v_t : US} {v_t_next : Nat → Int32} {v_t_now : Nat → Int32} {y1 : Int32}, g2 v_t v_t_next v_t_now y1 = some res → ∀ {H : Heap} {locs : List Loc} {ls : Array Slot}, HP G A s [uX12 G o_t a_t v_t, uA G 52 (a_t 22) v_t_next, uA G 63 (a_t 0) v_t_now] H locs → lv_has ls 3 [(0, .ref o_t), (1, .int y1)] → W p l e (rmm 9) s m args below meth c H locs 0 0 (QI below G A args s res.1 [uX12 G o_t a_t res.2.1, uA G 52 (a_t 22) res.2.2.1, uA G 63 (a_t 0) res.2.2.2]) (F0 m 2 ls [])) (hf : b_X12_read_2 N g2 v_t v_t_next v_t_now y1 = some res) {H : Heap} {locs : List Loc} {ls : Array Slot} (h : HP G A s [uX12 G o_t a_t v_t, uA G 52 (a_t 22) v_t_next, uA G 63 (a_t 0) v_t_now] H locs) (hl : lv_has ls 3 [(0, .ref o_t), (1, .int y1)]) : W p l e (rmm 9) s m args below meth c H locs 0 0 (QI below G A args s res.1 [uX12 G o_t a_t res.2.1, uA G 52 (a_t 22) res.2.2.1, uA G 63 (a_t 0) res.2.2.2]) (F0 m 2 ls []) := by
  unfold b_X12_read_2 at hf
  refine lv_iload_n C.hx C.hb dX12_read_2 rfl (lv_at hl 1 rfl) ?_
  refine lv_bipush (v := 52) C.hx C.hb dX12_read_3 (by decide) ?_
  refine lv_icmp_ge (tgt := 21) C.hx C.hb dX12_read_5 (by decide) (fun zc1 => ?_) (fun zc1 => ?_)
  · replace hf := it_t zc1 hf
    refine lv_iconst (v := 0) C.hx C.hb dX12_read_21 (by decide) ?_
    refine lv_istore_n (lv' := [(1, .int 0), (0, .ref o_t)]) C.hx C.hb dX12_read_22 rfl hl (by decide) rfl (fun ls hl => ?_)
    refine lv_aload_n C.hx C.hb dX12_read_23 rfl (lv_at hl 1 rfl) ?_
    refine lv_iconst (v := 0) C.hx C.hb dX12_read_24 (by decide) ?_
    obtain ⟨zr2, zq3, hf⟩ := bd_some hf
    have zm4 := c_X12_look l G o_t a_t N (hf := zq3)
    refine g_goV C h zm4.1 (is := [0]) rfl rfl (g_runV C h (is := [0]) rfl rfl (As := [.int 0]) (rest := []) (zm4.2 _) vf_X12_219 0 0 rfl rfl hl.1 rfl rfl (Nat.le_of_ble_eq_true rfl) dX12_read_25 ⟨Nat.le_of_ble_eq_true rfl, Nat.le_of_ble_eq_true rfl⟩ ⟨Nat.le_refl _, Nat.le_refl _⟩) (us2 := [uX12 G o_t a_t zr2, uA G 52 (a_t 22) v_t_next, uA G 63 (a_t 0) v_t_now]) rfl (fun H locs h => ?_)
    exact l_X12_read_28 C N hf h (lv_sub hl [1, 0] rfl)
  · replace hf := it_f zc1 hf
    refine lv_aload_n C.hx C.hb dX12_read_8 rfl (lv_at hl 0 rfl) ?_
    refine g_get C h fl_X12_42 0 0 rfl rfl (v := .ref (a_t 22)) rfl dX12_read_9 ?_
    refine lv_iload_n C.hx C.hb dX12_read_12 rfl (lv_at hl 1 rfl) ?_
    refine lv_iconst (v := 0) C.hx C.hb dX12_read_13 (by decide) ?_
    obtain ⟨zi5, hf⟩ := ck_some hf
    refine g_iast C h 1 0 rfl rfl (f := v_t_next) zi5 dX12_read_14 (u' := uA G 52 (a_t 22) (upd v_t_next y1.toNatClampNeg 0)) (us' := [uX12 G o_t a_t v_t, uA G 52 (a_t 22) (upd v_t_next y1.toNatClampNeg 0), uA G 63 (a_t 0) v_t_now]) rfl rfl (fun H locs h => ?_)
    refine lv_iinc (v := y1 + 1) (lv' := [(1, .int (y1 + 1)), (0, .ref o_t)]) C.hx C.hb dX12_read_15 hl (k := 1) rfl rfl (by decide) rfl (fun ls hl => ?_)
    refine lv_goto (tgt := 2) C.hx C.hb dX12_read_18 (by decide) ?_
    exact hg2 hf h (lv_sub hl [1, 0] rfl)
set_option maxRecDepth 100000 in
set_option maxHeartbeats 4000000 in
theorem l_X12_read_2 {p : Program} {l : Launch} {e : Env} {s : State} {m : MethodId} {args : Array Value} {below : List Frame} {meth : Method} {c : Code} {G : GG} {A : Nat → Prop} {o_t : Nat} {a_t : Nat → Nat} {N : Nat}  {res : Int32 × US × (Nat → Int32) × (Nat → Int32)} (C : MC RX12 cX12_read 3 (some .int) G A p s m args meth c)  : ∀ (k : Nat) {v_t : US} {v_t_next : Nat → Int32} {v_t_now : Nat → Int32} {y1 : Int32}, f_X12_read_2 N k v_t v_t_next v_t_now y1 = some res → ∀ {H : Heap} {locs : List Loc} {ls : Array Slot}, HP G A s [uX12 G o_t a_t v_t, uA G 52 (a_t 22) v_t_next, uA G 63 (a_t 0) v_t_now] H locs → lv_has ls 3 [(0, .ref o_t), (1, .int y1)] → W p l e (rmm 9) s m args below meth c H locs 0 0 (QI below G A args s res.1 [uX12 G o_t a_t res.2.1, uA G 52 (a_t 22) res.2.2.1, uA G 63 (a_t 0) res.2.2.2]) (F0 m 2 ls []) := by
  intro k
  induction k with
  | zero => intros; contradiction
  | succ k ih =>
    intro v_t v_t_next v_t_now y1 hf H locs ls h hl
    exact w_X12_read_2 (N := N) C ih hf h hl
set_option maxRecDepth 100000 in
set_option maxHeartbeats 4000000 in
theorem c_X12_read (l : Launch) (G : GG) (o_t : Nat) (a_t : Nat → Nat) (N : Nat) {v_t : US} {v_t_next : Nat → Int32} {v_t_now : Nat → Int32}  {res : Int32 × US × (Nat → Int32) × (Nat → Int32)} (hf : f_X12_read N v_t v_t_next v_t_now = some res) : MI l yX12_read cX12_read 3 (some .int) 9 [.ref o_t] G [uX12 G o_t a_t v_t, uA G 52 (a_t 22) v_t_next, uA G 63 (a_t 0) v_t_now] res.1 [uX12 G o_t a_t res.2.1, uA G 52 (a_t 22) res.2.2.1, uA G 63 (a_t 0) res.2.2.2] := by
  unfold f_X12_read at hf
  refine MI.intro (by decide) rfl (Nat.le_of_ble_eq_true rfl) (fun p e s m args below meth c A ls C h hl => ?_)
  have C : MC RX12 cX12_read 3 (some .int) G A p s m args meth c := C
  have hl : lv_has ls 3 [(0, .ref o_t)] := hl
  refine lv_iconst (v := 0) C.hx C.hb dX12_read_0 (by decide) ?_
  refine lv_istore_n (lv' := [(1, .int 0), (0, .ref o_t)]) C.hx C.hb dX12_read_1 rfl hl (by decide) rfl (fun ls hl => ?_)
  exact l_X12_read_2 C N hf h (lv_sub hl [1, 0] rfl)

def b_X12_rope_24  (v_t : US) (v_t_now : Nat → Int32) (y1 : Int32) (s0 : Int32) : Option (Int32 × US × (Nat → Int32)) :=
  (f_X12_of v_t v_t_now y1 4).bind fun zr1 => if zr1 = s0 then ((f_X12_no v_t (-3)).bind fun zr6 => some (zr6.1, zr6.2, v_t_now)) else (if ((1 + (5 * y1)) + 4) < 0 ∨ 63 ≤ ((1 + (5 * y1)) + 4).toNatClampNeg then none else (some (1, v_t, upd v_t_now ((1 + (5 * y1)) + 4).toNatClampNeg s0)))
def f_X12_rope (v_t : US) (v_t_now : Nat → Int32) (x1 : Int32) (z2 : Bool) : Option (Int32 × US × (Nat → Int32)) :=
  (f_X12_isThing v_t v_t_now x1).bind fun zr1 => if (b2i zr1) = 0 then ((f_X12_bad v_t (-2)).bind fun zr6 => some (zr6.1, zr6.2, v_t_now)) else (if (b2i z2) = 0 then (b_X12_rope_24 v_t v_t_now x1 0) else (b_X12_rope_24 v_t v_t_now x1 1))
set_option maxRecDepth 100000 in
set_option maxHeartbeats 4000000 in
theorem w_X12_rope_24 {p : Program} {l : Launch} {e : Env} {s : State} {m : MethodId} {args : Array Value} {below : List Frame} {meth : Method} {c : Code} {G : GG} {A : Nat → Prop} {o_t : Nat} {a_t : Nat → Nat}  {v_t : US} {v_t_now : Nat → Int32} {y1 : Int32} {s0 : Int32} {res : Int32 × US × (Nat → Int32)} (C : MC RX12 cX12_rope 4 (some .int) G A p s m args meth c)  (hf : b_X12_rope_24 v_t v_t_now y1 s0 = some res) {H : Heap} {locs : List Loc} {ls : Array Slot} (h : HP G A s [uX12 G o_t a_t v_t, uA G 63 (a_t 0) v_t_now] H locs) (hl : lv_has ls 4 [(0, .ref o_t), (1, .int y1)]) : W p l e (rmm 3) s m args below meth c H locs 0 0 (QI below G A args s res.1 [uX12 G o_t a_t res.2.1, uA G 63 (a_t 0) res.2.2]) (F0 m 24 ls [.int s0]) := by
  unfold b_X12_rope_24 at hf
  refine lv_istore_n (lv' := [(3, .int s0), (0, .ref o_t), (1, .int y1)]) C.hx C.hb dX12_rope_24 rfl hl (by decide) rfl (fun ls hl => ?_)
  refine lv_aload_n C.hx C.hb dX12_rope_25 rfl (lv_at hl 1 rfl) ?_
  refine lv_iload_n C.hx C.hb dX12_rope_26 rfl (lv_at hl 2 rfl) ?_
  refine lv_iconst (v := 4) C.hx C.hb dX12_rope_27 (by decide) ?_
  obtain ⟨zr1, zq2, hf⟩ := bd_some hf
  have zm3 := c_X12_of l G o_t a_t (hf := zq2)
  refine g_goI C h zm3.1 (is := [0, 1]) rfl rfl (g_runV C h (is := [0, 1]) rfl rfl (As := [.int y1, .int 4]) (rest := []) (zm3.2 _) vf_X12_75 0 0 rfl rfl hl.1 rfl rfl (Nat.le_of_ble_eq_true rfl) dX12_rope_28 ⟨Nat.le_of_ble_eq_true rfl, Nat.le_of_ble_eq_true rfl⟩ ⟨Nat.le_refl _, Nat.le_refl _⟩) (us2 := [uX12 G o_t a_t v_t, uA G 63 (a_t 0) v_t_now]) rfl (fun H locs h => ?_)
  refine lv_iload_n C.hx C.hb dX12_rope_31 rfl (lv_at hl 0 rfl) ?_
  refine lv_icmp_ne (tgt := 42) C.hx C.hb dX12_rope_32 (by decide) (fun zc4 => ?_) (fun zc4 => ?_)
  · replace hf := it_f zc4 hf
    refine lv_aload_n C.hx C.hb dX12_rope_42 rfl (lv_at hl 1 rfl) ?_
    refine g_get C h fl_X12_7 0 0 rfl rfl (v := .ref (a_t 0)) rfl dX12_rope_43 ?_
    refine lv_iconst (v := 1) C.hx C.hb dX12_rope_46 (by decide) ?_
    refine lv_iconst (v := 5) C.hx C.hb dX12_rope_47 (by decide) ?_
    refine lv_iload_n C.hx C.hb dX12_rope_48 rfl (lv_at hl 2 rfl) ?_
    refine lv_imul C.hx C.hb dX12_rope_49 ?_
    refine lv_iadd C.hx C.hb dX12_rope_50 ?_
    refine lv_iconst (v := 4) C.hx C.hb dX12_rope_51 (by decide) ?_
    refine lv_iadd C.hx C.hb dX12_rope_52 ?_
    refine lv_iload_n C.hx C.hb dX12_rope_53 rfl (lv_at hl 0 rfl) ?_
    obtain ⟨zi5, hf⟩ := ck_some hf
    refine g_iast C h 1 0 rfl rfl (f := v_t_now) zi5 dX12_rope_54 (u' := uA G 63 (a_t 0) (upd v_t_now ((1 + (5 * y1)) + 4).toNatClampNeg s0)) (us' := [uX12 G o_t a_t v_t, uA G 63 (a_t 0) (upd v_t_now ((1 + (5 * y1)) + 4).toNatClampNeg s0)]) rfl rfl (fun H locs h => ?_)
    refine lv_iconst (v := 1) C.hx C.hb dX12_rope_55 (by decide) ?_
    obtain rfl := Option.some.inj hf
    exact g_ret_i C h rfl rfl dX12_rope_56
  · replace hf := it_t zc4 hf
    refine lv_aload_n C.hx C.hb dX12_rope_35 rfl (lv_at hl 1 rfl) ?_
    refine lv_bipush (v := (-3)) C.hx C.hb dX12_rope_36 (by decide) ?_
    obtain ⟨zr6, zq7, hf⟩ := bd_some hf
    have zm8 := c_X12_no l G o_t a_t (hf := zq7)
    refine g_goI C h zm8.1 (is := [0]) rfl rfl (g_runV C h (is := [0]) rfl rfl (As := [.int (-3)]) (rest := []) (zm8.2 _) vf_X12_79 0 0 rfl rfl hl.1 rfl rfl (Nat.le_of_ble_eq_true rfl) dX12_rope_38 ⟨Nat.le_of_ble_eq_true rfl, Nat.le_of_ble_eq_true rfl⟩ ⟨Nat.le_refl _, Nat.le_refl _⟩) (us2 := [uX12 G o_t a_t zr6.2, uA G 63 (a_t 0) v_t_now]) rfl (fun H locs h => ?_)
    obtain rfl := Option.some.inj hf
    exact g_ret_i C h rfl rfl dX12_rope_41
set_option maxRecDepth 100000 in
set_option maxHeartbeats 4000000 in
theorem c_X12_rope (l : Launch) (G : GG) (o_t : Nat) (a_t : Nat → Nat) {v_t : US} {v_t_now : Nat → Int32} {x1 : Int32} {z2 : Bool} {res : Int32 × US × (Nat → Int32)} (hf : f_X12_rope v_t v_t_now x1 z2 = some res) : MI l yX12_rope cX12_rope 4 (some .int) 3 [.ref o_t, .int x1, .int (b2i z2)] G [uX12 G o_t a_t v_t, uA G 63 (a_t 0) v_t_now] res.1 [uX12 G o_t a_t res.2.1, uA G 63 (a_t 0) res.2.2] := by
  unfold f_X12_rope at hf
  refine MI.intro (by decide) rfl (Nat.le_of_ble_eq_true rfl) (fun p e s m args below meth c A ls C h hl => ?_)
  have C : MC RX12 cX12_rope 4 (some .int) G A p s m args meth c := C
  have hl : lv_has ls 4 [(0, .ref o_t), (1, .int x1), (2, .int (b2i z2))] := hl
  refine lv_aload_n C.hx C.hb dX12_rope_0 rfl (lv_at hl 0 rfl) ?_
  refine lv_iload_n C.hx C.hb dX12_rope_1 rfl (lv_at hl 1 rfl) ?_
  obtain ⟨zr1, zq2, hf⟩ := bd_some hf
  have zm3 := c_X12_isThing l G o_t a_t (hf := zq2)
  refine g_goI C h zm3.1 (is := [0, 1]) rfl rfl (g_runV C h (is := [0, 1]) rfl rfl (As := [.int x1]) (rest := []) (zm3.2 _) vf_X12_71 0 0 rfl rfl hl.1 rfl rfl (Nat.le_of_ble_eq_true rfl) dX12_rope_2 ⟨Nat.le_of_ble_eq_true rfl, Nat.le_of_ble_eq_true rfl⟩ ⟨Nat.le_refl _, Nat.le_refl _⟩) (us2 := [uX12 G o_t a_t v_t, uA G 63 (a_t 0) v_t_now]) rfl (fun H locs h => ?_)
  refine lv_if_ne (tgt := 15) C.hx C.hb dX12_rope_5 (by decide) (fun zc4 => ?_) (fun zc4 => ?_)
  · replace hf := it_f zc4 hf
    refine lv_iload_n C.hx C.hb dX12_rope_15 rfl (lv_at hl 2 rfl) ?_
    refine lv_if_eq (tgt := 23) C.hx C.hb dX12_rope_16 (by decide) (fun zc5 => ?_) (fun zc5 => ?_)
    · replace hf := it_t zc5 hf
      refine lv_iconst (v := 0) C.hx C.hb dX12_rope_23 (by decide) ?_
      exact w_X12_rope_24 C  hf h (lv_sub hl [0, 1] rfl)
    · replace hf := it_f zc5 hf
      refine lv_iconst (v := 1) C.hx C.hb dX12_rope_19 (by decide) ?_
      refine lv_goto (tgt := 24) C.hx C.hb dX12_rope_20 (by decide) ?_
      exact w_X12_rope_24 C  hf h (lv_sub hl [0, 1] rfl)
  · replace hf := it_t zc4 hf
    refine lv_aload_n C.hx C.hb dX12_rope_8 rfl (lv_at hl 0 rfl) ?_
    refine lv_bipush (v := (-2)) C.hx C.hb dX12_rope_9 (by decide) ?_
    obtain ⟨zr6, zq7, hf⟩ := bd_some hf
    have zm8 := c_X12_bad l G o_t a_t (hf := zq7)
    refine g_goI C h zm8.1 (is := [0]) rfl rfl (g_runV C h (is := [0]) rfl rfl (As := [.int (-2)]) (rest := []) (zm8.2 _) vf_X12_60 0 0 rfl rfl hl.1 rfl rfl (Nat.le_of_ble_eq_true rfl) dX12_rope_11 ⟨Nat.le_of_ble_eq_true rfl, Nat.le_of_ble_eq_true rfl⟩ ⟨Nat.le_refl _, Nat.le_refl _⟩) (us2 := [uX12 G o_t a_t zr6.2, uA G 63 (a_t 0) v_t_now]) rfl (fun H locs h => ?_)
    obtain rfl := Option.some.inj hf
    exact g_ret_i C h rfl rfl dX12_rope_14

def b_X12_rule_17  (v_t : US) (v_t_now : Nat → Int32)  : Option (Int32 × US × (Nat → Int32)) :=
  (f_X12_bad v_t (-2)).bind fun zr1 => some (zr1.1, zr1.2, v_t_now)
def f_X12_rule (v_t : US) (v_t_now : Nat → Int32) (x1 : Int32) (x2 : Int32) (x3 : Int32) : Option (Int32 × US × (Nat → Int32)) :=
  (f_X12_isPull v_t v_t_now x1 x2).bind fun zr1 => if (b2i zr1) = 0 then (b_X12_rule_17 v_t v_t_now) else ((f_X12_isSet v_t v_t_now x3).bind fun zr5 => if (b2i zr5) = 0 then (b_X12_rule_17 v_t v_t_now) else ((f_X12_rules v_t v_t_now).bind fun zr9 => if zr9 = 4 then ((f_X12_full v_t).bind fun zr16 => some (zr16.1, zr16.2, v_t_now)) else ((f_X12_layRule v_t_now 63 x1 x2 x3).bind fun zr13 => some (zr9, v_t, zr13))))
set_option maxRecDepth 100000 in
set_option maxHeartbeats 4000000 in
theorem w_X12_rule_17 {p : Program} {l : Launch} {e : Env} {s : State} {m : MethodId} {args : Array Value} {below : List Frame} {meth : Method} {c : Code} {G : GG} {A : Nat → Prop} {o_t : Nat} {a_t : Nat → Nat}  {v_t : US} {v_t_now : Nat → Int32}  {res : Int32 × US × (Nat → Int32)} (C : MC RX12 cX12_rule 5 (some .int) G A p s m args meth c)  (hf : b_X12_rule_17 v_t v_t_now = some res) {H : Heap} {locs : List Loc} {ls : Array Slot} (h : HP G A s [uX12 G o_t a_t v_t, uA G 63 (a_t 0) v_t_now] H locs) (hl : lv_has ls 5 [(0, .ref o_t)]) : W p l e (rmm 4) s m args below meth c H locs 0 0 (QI below G A args s res.1 [uX12 G o_t a_t res.2.1, uA G 63 (a_t 0) res.2.2]) (F0 m 17 ls []) := by
  unfold b_X12_rule_17 at hf
  refine lv_aload_n C.hx C.hb dX12_rule_17 rfl (lv_at hl 0 rfl) ?_
  refine lv_bipush (v := (-2)) C.hx C.hb dX12_rule_18 (by decide) ?_
  obtain ⟨zr1, zq2, hf⟩ := bd_some hf
  have zm3 := c_X12_bad l G o_t a_t (hf := zq2)
  refine g_goI C h zm3.1 (is := [0]) rfl rfl (g_runV C h (is := [0]) rfl rfl (As := [.int (-2)]) (rest := []) (zm3.2 _) vf_X12_60 0 0 rfl rfl hl.1 rfl rfl (Nat.le_of_ble_eq_true rfl) dX12_rule_20 ⟨Nat.le_of_ble_eq_true rfl, Nat.le_of_ble_eq_true rfl⟩ ⟨Nat.le_refl _, Nat.le_refl _⟩) (us2 := [uX12 G o_t a_t zr1.2, uA G 63 (a_t 0) v_t_now]) rfl (fun H locs h => ?_)
  obtain rfl := Option.some.inj hf
  exact g_ret_i C h rfl rfl dX12_rule_23
set_option maxRecDepth 100000 in
set_option maxHeartbeats 4000000 in
theorem c_X12_rule (l : Launch) (G : GG) (o_t : Nat) (a_t : Nat → Nat) {v_t : US} {v_t_now : Nat → Int32} {x1 : Int32} {x2 : Int32} {x3 : Int32} {res : Int32 × US × (Nat → Int32)} (hf : f_X12_rule v_t v_t_now x1 x2 x3 = some res) : MI l yX12_rule cX12_rule 5 (some .int) 4 [.ref o_t, .int x1, .int x2, .int x3] G [uX12 G o_t a_t v_t, uA G 63 (a_t 0) v_t_now] res.1 [uX12 G o_t a_t res.2.1, uA G 63 (a_t 0) res.2.2] := by
  unfold f_X12_rule at hf
  refine MI.intro (by decide) rfl (Nat.le_of_ble_eq_true rfl) (fun p e s m args below meth c A ls C h hl => ?_)
  have C : MC RX12 cX12_rule 5 (some .int) G A p s m args meth c := C
  have hl : lv_has ls 5 [(0, .ref o_t), (1, .int x1), (2, .int x2), (3, .int x3)] := hl
  refine lv_aload_n C.hx C.hb dX12_rule_0 rfl (lv_at hl 0 rfl) ?_
  refine lv_iload_n C.hx C.hb dX12_rule_1 rfl (lv_at hl 1 rfl) ?_
  refine lv_iload_n C.hx C.hb dX12_rule_2 rfl (lv_at hl 2 rfl) ?_
  obtain ⟨zr1, zq2, hf⟩ := bd_some hf
  have zm3 := c_X12_isPull l G o_t a_t (hf := zq2)
  refine g_goI C h zm3.1 (is := [0, 1]) rfl rfl (g_runV C h (is := [0, 1]) rfl rfl (As := [.int x1, .int x2]) (rest := []) (zm3.2 _) vf_X12_119 0 0 rfl rfl hl.1 rfl rfl (Nat.le_of_ble_eq_true rfl) dX12_rule_3 ⟨Nat.le_of_ble_eq_true rfl, Nat.le_of_ble_eq_true rfl⟩ ⟨Nat.le_refl _, Nat.le_refl _⟩) (us2 := [uX12 G o_t a_t v_t, uA G 63 (a_t 0) v_t_now]) rfl (fun H locs h => ?_)
  refine lv_if_eq (tgt := 17) C.hx C.hb dX12_rule_6 (by decide) (fun zc4 => ?_) (fun zc4 => ?_)
  · replace hf := it_t zc4 hf
    exact w_X12_rule_17 C  hf h (lv_sub hl [0] rfl)
  · replace hf := it_f zc4 hf
    refine lv_aload_n C.hx C.hb dX12_rule_9 rfl (lv_at hl 0 rfl) ?_
    refine lv_iload_n C.hx C.hb dX12_rule_10 rfl (lv_at hl 3 rfl) ?_
    obtain ⟨zr5, zq6, hf⟩ := bd_some hf
    have zm7 := c_X12_isSet l G o_t a_t (hf := zq6)
    refine g_goI C h zm7.1 (is := [0, 1]) rfl rfl (g_runV C h (is := [0, 1]) rfl rfl (As := [.int x3]) (rest := []) (zm7.2 _) vf_X12_158 0 0 rfl rfl hl.1 rfl rfl (Nat.le_of_ble_eq_true rfl) dX12_rule_11 ⟨Nat.le_of_ble_eq_true rfl, Nat.le_of_ble_eq_true rfl⟩ ⟨Nat.le_refl _, Nat.le_refl _⟩) (us2 := [uX12 G o_t a_t v_t, uA G 63 (a_t 0) v_t_now]) rfl (fun H locs h => ?_)
    refine lv_if_ne (tgt := 24) C.hx C.hb dX12_rule_14 (by decide) (fun zc8 => ?_) (fun zc8 => ?_)
    · replace hf := it_f zc8 hf
      refine lv_aload_n C.hx C.hb dX12_rule_24 rfl (lv_at hl 0 rfl) ?_
      obtain ⟨zr9, zq10, hf⟩ := bd_some hf
      have zm11 := c_X12_rules l G o_t a_t (hf := zq10)
      refine g_goI C h zm11.1 (is := [0, 1]) rfl rfl (g_runV C h (is := [0, 1]) rfl rfl (As := []) (rest := []) (zm11.2 _) vf_X12_164 0 0 rfl rfl hl.1 rfl rfl (Nat.le_of_ble_eq_true rfl) dX12_rule_25 ⟨Nat.le_of_ble_eq_true rfl, Nat.le_of_ble_eq_true rfl⟩ ⟨Nat.le_refl _, Nat.le_refl _⟩) (us2 := [uX12 G o_t a_t v_t, uA G 63 (a_t 0) v_t_now]) rfl (fun H locs h => ?_)
      refine lv_istore (lv' := [(4, .int zr9), (0, .ref o_t), (1, .int x1), (2, .int x2), (3, .int x3)]) C.hx C.hb dX12_rule_28 hl (by decide) rfl (fun ls hl => ?_)
      refine lv_iload C.hx C.hb dX12_rule_30 (lv_at hl 0 rfl) ?_
      refine lv_iconst (v := 4) C.hx C.hb dX12_rule_32 (by decide) ?_
      refine lv_icmp_ne (tgt := 41) C.hx C.hb dX12_rule_33 (by decide) (fun zc12 => ?_) (fun zc12 => ?_)
      · replace hf := it_f zc12 hf
        refine lv_aload_n C.hx C.hb dX12_rule_41 rfl (lv_at hl 1 rfl) ?_
        refine g_get C h fl_X12_7 0 0 rfl rfl (v := .ref (a_t 0)) rfl dX12_rule_42 ?_
        refine lv_iload_n C.hx C.hb dX12_rule_45 rfl (lv_at hl 2 rfl) ?_
        refine lv_iload_n C.hx C.hb dX12_rule_46 rfl (lv_at hl 3 rfl) ?_
        refine lv_iload_n C.hx C.hb dX12_rule_47 rfl (lv_at hl 4 rfl) ?_
        obtain ⟨zr13, zq14, hf⟩ := bd_some hf
        have zm15 := c_X12_layRule l G (a_t 0) (hf := zq14)
        refine g_goV C h zm15.1 (is := [1]) rfl rfl (g_runS C h (is := [1]) rfl rfl (As := [.ref (a_t 0), .int x1, .int x2, .int x3]) (rest := []) (zm15.2 _) sf_X12_167 hl.1 rfl rfl (Nat.le_of_ble_eq_true rfl) dX12_rule_48 ⟨Nat.le_of_ble_eq_true rfl, Nat.le_of_ble_eq_true rfl⟩ ⟨Nat.le_refl _, Nat.le_refl _⟩) (us2 := [uX12 G o_t a_t v_t, uA G 63 (a_t 0) zr13]) rfl (fun H locs h => ?_)
        refine lv_iload C.hx C.hb dX12_rule_51 (lv_at hl 0 rfl) ?_
        obtain rfl := Option.some.inj hf
        exact g_ret_i C h rfl rfl dX12_rule_53
      · replace hf := it_t zc12 hf
        refine lv_aload_n C.hx C.hb dX12_rule_36 rfl (lv_at hl 1 rfl) ?_
        obtain ⟨zr16, zq17, hf⟩ := bd_some hf
        have zm18 := c_X12_full l G o_t a_t (hf := zq17)
        refine g_goI C h zm18.1 (is := [0]) rfl rfl (g_runV C h (is := [0]) rfl rfl (As := []) (rest := []) (zm18.2 _) vf_X12_64 0 0 rfl rfl hl.1 rfl rfl (Nat.le_of_ble_eq_true rfl) dX12_rule_37 ⟨Nat.le_of_ble_eq_true rfl, Nat.le_of_ble_eq_true rfl⟩ ⟨Nat.le_refl _, Nat.le_refl _⟩) (us2 := [uX12 G o_t a_t zr16.2, uA G 63 (a_t 0) v_t_now]) rfl (fun H locs h => ?_)
        obtain rfl := Option.some.inj hf
        exact g_ret_i C h rfl rfl dX12_rule_40
    · replace hf := it_t zc8 hf
      exact w_X12_rule_17 C  hf h (lv_sub hl [0] rfl)

def b_X12_share_125 (N : Nat) (g125 : US → (Nat → Int32) → Int64 → Int64 → Int64 → Option (Int32 × US)) (v_t : US) (v_t_now : Nat → Int32) (y3 : Int64) (y5 : Int64) (y7 : Int64) : Option (Int32 × US) :=
  if (lg_cmp y7 0) = 0 then (if y5 = 0 then none else ((f_X12_things (upl v_t 4 (y3 / y5)) v_t_now).bind fun zr3 => (f_X12_factorial N zr3).bind fun zr6 => if y5 = 0 then none else (bnd (upl v_t 4 (y3 / y5)) fun zw10 => some (1, upl zw10 5 (zr6.toInt64 / y5))))) else (if y7 = 0 then none else (g125 v_t v_t_now y3 y7 (y5 - y5 / y7 * y7)))
def f_X12_share_125 (N : Nat)  : Nat → US → (Nat → Int32) → Int64 → Int64 → Int64 → Option (Int32 × US)
  | 0 => fun _ _ _ _ _ => none
  | k + 1 => fun q0 q1 q2 q3 q4 => b_X12_share_125 N  (f_X12_share_125 N  k) q0 q1 q2 q3 q4
def b_X12_share_113 (N : Nat)  (v_t : US) (v_t_now : Nat → Int32) (y3 : Int64) (s0 : Int64) : Option (Int32 × US) :=
  (f_X12_things v_t v_t_now).bind fun zr1 => (f_X12_factorial N zr1).bind fun zr4 => f_X12_share_125 N N v_t v_t_now y3 s0 zr4.toInt64
def b_X12_share_28 (N : Nat) (g28 : US → (Nat → Int32) → Int32 → Int64 → Int32 → Option (Int32 × US)) (v_t : US) (v_t_now : Nat → Int32) (y2 : Int32) (y3 : Int64) (y5 : Int32) : Option (Int32 × US) :=
  (f_X12_all v_t v_t_now).bind fun zr1 => if zr1 < y5 then (if 0 ≤ (lg_cmp y3 0) then (b_X12_share_113 N v_t v_t_now y3 y3) else (b_X12_share_113 N v_t v_t_now y3 (-y3))) else (if (y5 &&& y2) = 0 then ((f_X12_bits N y5).bind fun zr7 => (f_X12_factorial N zr7).bind fun zr10 => (f_X12_things v_t v_t_now).bind fun zr13 => (f_X12_factorial N ((zr13 - 1) - zr7)).bind fun zr16 => (f_X12_harmBy N v_t v_t_now (y5 ||| y2)).bind fun zr19 => (f_X12_harmBy N zr19.2 v_t_now y5).bind fun zr22 => g28 zr22.2 v_t_now y2 (y3 + ((zr10.toInt64 * zr16.toInt64) * ((zr19.1 - zr22.1).toInt64))) (y5 + 1)) else (g28 v_t v_t_now y2 y3 (y5 + 1)))
def f_X12_share_28 (N : Nat)  : Nat → US → (Nat → Int32) → Int32 → Int64 → Int32 → Option (Int32 × US)
  | 0 => fun _ _ _ _ _ => none
  | k + 1 => fun q0 q1 q2 q3 q4 => b_X12_share_28 N  (f_X12_share_28 N  k) q0 q1 q2 q3 q4
def f_X12_share (N : Nat) (v_t : US) (v_t_now : Nat → Int32) (x1 : Int32) : Option (Int32 × US) :=
  (f_X12_isThing v_t v_t_now x1).bind fun zr1 => if (b2i zr1) = 0 then ((f_X12_bad v_t (-2)).bind fun zr8 => some (zr8.1, zr8.2)) else ((f_X12_takeNow N v_t v_t_now).bind fun zr5 => f_X12_share_28 N N zr5 v_t_now (1 <<< (x1 &&& 31)) 0 0)
set_option maxRecDepth 100000 in
set_option maxHeartbeats 4000000 in
theorem w_X12_share_125 {p : Program} {l : Launch} {e : Env} {s : State} {m : MethodId} {args : Array Value} {below : List Frame} {meth : Method} {c : Code} {G : GG} {A : Nat → Prop} {o_t : Nat} {a_t : Nat → Nat} {N : Nat} {g125 : US → (Nat → Int32) → Int64 → Int64 → Int64 → Option (Int32 × US)} {v_t : US} {v_t_now : Nat → Int32} {y3 : Int64} {y5 : Int64} {y7 : Int64} {res : Int32 × US} (C : MC RX12 cX12_share 11 (some .int) G A p s m args meth c) (hg125 : ∀ {v_t : US} {v_t_now : Nat → Int32} {y3 : Int64} {y5 : Int64} {y7 : Int64}, g125 v_t v_t_now y3 y5 y7 = some res → ∀ {H : Heap} {locs : List Loc} {ls : Array Slot}, HP G A s [uX12 G o_t a_t v_t, uA G 63 (a_t 0) v_t_now] H locs → lv_has ls 11 [(0, .ref o_t), (3, .long y3), (5, .long y5), (7, .long y7)] → W p l e (rmm 7) s m args below meth c H locs 0 0 (QI below G A args s res.1 [uX12 G o_t a_t res.2, uA G 63 (a_t 0) v_t_now]) (F0 m 125 ls [])) (hf : b_X12_share_125 N g125 v_t v_t_now y3 y5 y7 = some res) {H : Heap} {locs : List Loc} {ls : Array Slot} (h : HP G A s [uX12 G o_t a_t v_t, uA G 63 (a_t 0) v_t_now] H locs) (hl : lv_has ls 11 [(0, .ref o_t), (3, .long y3), (5, .long y5), (7, .long y7)]) : W p l e (rmm 7) s m args below meth c H locs 0 0 (QI below G A args s res.1 [uX12 G o_t a_t res.2, uA G 63 (a_t 0) v_t_now]) (F0 m 125 ls []) := by
  unfold b_X12_share_125 at hf
  refine lv_lload C.hx C.hb dX12_share_125 (lv_at hl 3 rfl) ?_
  refine lv_lconst (v := 0) C.hx C.hb dX12_share_127 (by decide) ?_
  refine W.lcmp C.hx C.hb dX12_share_128 ?_
  refine lv_if_eq (tgt := 150) C.hx C.hb dX12_share_129 (by decide) (fun zc1 => ?_) (fun zc1 => ?_)
  · replace hf := it_t zc1 hf
    refine lv_aload_n C.hx C.hb dX12_share_150 rfl (lv_at hl 0 rfl) ?_
    refine lv_lload_n C.hx C.hb dX12_share_151 rfl (lv_at hl 1 rfl) ?_
    refine lv_lload C.hx C.hb dX12_share_152 (lv_at hl 2 rfl) ?_
    obtain ⟨zz2, hf⟩ := nzl_some hf
    refine lv_ldiv C.hx C.hb dX12_share_154 zz2 ?_
    refine g_put C h fp_X12_183 0 0 rfl rfl rfl rfl (Nat.le_of_ble_eq_true rfl) dX12_share_155 (u' := uX12 G o_t a_t (upl v_t 4 (y3 / y5))) (us' := [uX12 G o_t a_t (upl v_t 4 (y3 / y5)), uA G 63 (a_t 0) v_t_now]) rfl rfl (fun H locs h => ?_)
    refine lv_aload_n C.hx C.hb dX12_share_158 rfl (lv_at hl 0 rfl) ?_
    refine lv_aload_n C.hx C.hb dX12_share_159 rfl (lv_at hl 0 rfl) ?_
    obtain ⟨zr3, zq4, hf⟩ := bd_some hf
    have zm5 := c_X12_things l G o_t a_t (hf := zq4)
    refine g_goI C h zm5.1 (is := [0, 1]) rfl rfl (g_runV C h (is := [0, 1]) rfl rfl (As := []) (rest := [.ref o_t]) (zm5.2 _) vf_X12_48 0 0 rfl rfl hl.1 rfl rfl (Nat.le_of_ble_eq_true rfl) dX12_share_160 ⟨Nat.le_of_ble_eq_true rfl, Nat.le_of_ble_eq_true rfl⟩ ⟨Nat.le_refl _, Nat.le_refl _⟩) (us2 := [uX12 G o_t a_t (upl v_t 4 (y3 / y5)), uA G 63 (a_t 0) v_t_now]) rfl (fun H locs h => ?_)
    obtain ⟨zr6, zq7, hf⟩ := bd_some hf
    have zm8 := c_X12_factorial l G N (hf := zq7)
    refine g_goI C h zm8.1 (is := []) rfl rfl (g_runS C h (is := []) rfl rfl (As := [.int zr3]) (rest := [.ref o_t]) (zm8.2 _) sf_X12_177 hl.1 rfl rfl (Nat.le_of_ble_eq_true rfl) dX12_share_163 ⟨Nat.le_of_ble_eq_true rfl, Nat.le_of_ble_eq_true rfl⟩ ⟨Nat.le_refl _, Nat.le_refl _⟩) (us2 := [uX12 G o_t a_t (upl v_t 4 (y3 / y5)), uA G 63 (a_t 0) v_t_now]) rfl (fun H locs h => ?_)
    refine lv_i2l C.hx C.hb dX12_share_166 rfl ?_
    refine lv_lload C.hx C.hb dX12_share_167 (lv_at hl 2 rfl) ?_
    obtain ⟨zz9, hf⟩ := nzl_some hf
    refine lv_ldiv C.hx C.hb dX12_share_169 zz9 ?_
    obtain ⟨zw10, hzw10, hf⟩ := bnd_some hf
    rw [← hzw10] at h
    refine g_put C h fp_X12_23 0 0 rfl rfl rfl rfl (Nat.le_of_ble_eq_true rfl) dX12_share_170 (u' := uX12 G o_t a_t (upl zw10 5 (zr6.toInt64 / y5))) (us' := [uX12 G o_t a_t (upl zw10 5 (zr6.toInt64 / y5)), uA G 63 (a_t 0) v_t_now]) rfl rfl (fun H locs h => ?_)
    refine lv_iconst (v := 1) C.hx C.hb dX12_share_173 (by decide) ?_
    obtain rfl := Option.some.inj hf
    exact g_ret_i C h rfl rfl dX12_share_174
  · replace hf := it_f zc1 hf
    refine lv_lload C.hx C.hb dX12_share_132 (lv_at hl 2 rfl) ?_
    refine lv_lload C.hx C.hb dX12_share_134 (lv_at hl 3 rfl) ?_
    obtain ⟨zz11, hf⟩ := nzl_some hf
    refine lv_lrem C.hx C.hb dX12_share_136 zz11 ?_
    refine lv_lstore (lv' := [(9, .long (y5 - y5 / y7 * y7)), (0, .ref o_t), (3, .long y3), (5, .long y5), (7, .long y7)]) C.hx C.hb dX12_share_137 hl (by decide) rfl (fun ls hl => ?_)
    refine lv_lload C.hx C.hb dX12_share_139 (lv_at hl 4 rfl) ?_
    refine lv_lstore (lv' := [(5, .long y7), (9, .long (y5 - y5 / y7 * y7)), (0, .ref o_t), (3, .long y3), (7, .long y7)]) C.hx C.hb dX12_share_141 hl (by decide) rfl (fun ls hl => ?_)
    refine lv_lload C.hx C.hb dX12_share_143 (lv_at hl 1 rfl) ?_
    refine lv_lstore (lv' := [(7, .long (y5 - y5 / y7 * y7)), (5, .long y7), (9, .long (y5 - y5 / y7 * y7)), (0, .ref o_t), (3, .long y3)]) C.hx C.hb dX12_share_145 hl (by decide) rfl (fun ls hl => ?_)
    refine lv_goto (tgt := 125) C.hx C.hb dX12_share_147 (by decide) ?_
    exact hg125 hf h (lv_sub hl [3, 4, 1, 0] rfl)
set_option maxRecDepth 100000 in
set_option maxHeartbeats 4000000 in
theorem l_X12_share_125 {p : Program} {l : Launch} {e : Env} {s : State} {m : MethodId} {args : Array Value} {below : List Frame} {meth : Method} {c : Code} {G : GG} {A : Nat → Prop} {o_t : Nat} {a_t : Nat → Nat} {N : Nat}  {res : Int32 × US} (C : MC RX12 cX12_share 11 (some .int) G A p s m args meth c)  : ∀ (k : Nat) {v_t : US} {v_t_now : Nat → Int32} {y3 : Int64} {y5 : Int64} {y7 : Int64}, f_X12_share_125 N k v_t v_t_now y3 y5 y7 = some res → ∀ {H : Heap} {locs : List Loc} {ls : Array Slot}, HP G A s [uX12 G o_t a_t v_t, uA G 63 (a_t 0) v_t_now] H locs → lv_has ls 11 [(0, .ref o_t), (3, .long y3), (5, .long y5), (7, .long y7)] → W p l e (rmm 7) s m args below meth c H locs 0 0 (QI below G A args s res.1 [uX12 G o_t a_t res.2, uA G 63 (a_t 0) v_t_now]) (F0 m 125 ls []) := by
  intro k
  induction k with
  | zero => intros; contradiction
  | succ k ih =>
    intro v_t v_t_now y3 y5 y7 hf H locs ls h hl
    exact w_X12_share_125 (N := N) C ih hf h hl
set_option maxRecDepth 100000 in
set_option maxHeartbeats 4000000 in
theorem w_X12_share_113 {p : Program} {l : Launch} {e : Env} {s : State} {m : MethodId} {args : Array Value} {below : List Frame} {meth : Method} {c : Code} {G : GG} {A : Nat → Prop} {o_t : Nat} {a_t : Nat → Nat} {N : Nat}  {v_t : US} {v_t_now : Nat → Int32} {y3 : Int64} {s0 : Int64} {res : Int32 × US} (C : MC RX12 cX12_share 11 (some .int) G A p s m args meth c)  (hf : b_X12_share_113 N v_t v_t_now y3 s0 = some res) {H : Heap} {locs : List Loc} {ls : Array Slot} (h : HP G A s [uX12 G o_t a_t v_t, uA G 63 (a_t 0) v_t_now] H locs) (hl : lv_has ls 11 [(0, .ref o_t), (3, .long y3)]) : W p l e (rmm 7) s m args below meth c H locs 0 0 (QI below G A args s res.1 [uX12 G o_t a_t res.2, uA G 63 (a_t 0) v_t_now]) (F0 m 113 ls [.long s0]) := by
  unfold b_X12_share_113 at hf
  refine lv_lstore (lv' := [(5, .long s0), (0, .ref o_t), (3, .long y3)]) C.hx C.hb dX12_share_113 hl (by decide) rfl (fun ls hl => ?_)
  refine lv_aload_n C.hx C.hb dX12_share_115 rfl (lv_at hl 1 rfl) ?_
  obtain ⟨zr1, zq2, hf⟩ := bd_some hf
  have zm3 := c_X12_things l G o_t a_t (hf := zq2)
  refine g_goI C h zm3.1 (is := [0, 1]) rfl rfl (g_runV C h (is := [0, 1]) rfl rfl (As := []) (rest := []) (zm3.2 _) vf_X12_48 0 0 rfl rfl hl.1 rfl rfl (Nat.le_of_ble_eq_true rfl) dX12_share_116 ⟨Nat.le_of_ble_eq_true rfl, Nat.le_of_ble_eq_true rfl⟩ ⟨Nat.le_refl _, Nat.le_refl _⟩) (us2 := [uX12 G o_t a_t v_t, uA G 63 (a_t 0) v_t_now]) rfl (fun H locs h => ?_)
  obtain ⟨zr4, zq5, hf⟩ := bd_some hf
  have zm6 := c_X12_factorial l G N (hf := zq5)
  refine g_goI C h zm6.1 (is := []) rfl rfl (g_runS C h (is := []) rfl rfl (As := [.int zr1]) (rest := []) (zm6.2 _) sf_X12_177 hl.1 rfl rfl (Nat.le_of_ble_eq_true rfl) dX12_share_119 ⟨Nat.le_of_ble_eq_true rfl, Nat.le_of_ble_eq_true rfl⟩ ⟨Nat.le_refl _, Nat.le_refl _⟩) (us2 := [uX12 G o_t a_t v_t, uA G 63 (a_t 0) v_t_now]) rfl (fun H locs h => ?_)
  refine lv_i2l C.hx C.hb dX12_share_122 rfl ?_
  refine lv_lstore (lv' := [(7, .long zr4.toInt64), (5, .long s0), (0, .ref o_t), (3, .long y3)]) C.hx C.hb dX12_share_123 hl (by decide) rfl (fun ls hl => ?_)
  exact l_X12_share_125 C N hf h (lv_sub hl [2, 3, 1, 0] rfl)
set_option maxRecDepth 100000 in
set_option maxHeartbeats 4000000 in
theorem w_X12_share_28 {p : Program} {l : Launch} {e : Env} {s : State} {m : MethodId} {args : Array Value} {below : List Frame} {meth : Method} {c : Code} {G : GG} {A : Nat → Prop} {o_t : Nat} {a_t : Nat → Nat} {N : Nat} {g28 : US → (Nat → Int32) → Int32 → Int64 → Int32 → Option (Int32 × US)} {v_t : US} {v_t_now : Nat → Int32} {y2 : Int32} {y3 : Int64} {y5 : Int32} {res : Int32 × US} (C : MC RX12 cX12_share 11 (some .int) G A p s m args meth c) (hg28 : ∀ {v_t : US} {v_t_now : Nat → Int32} {y2 : Int32} {y3 : Int64} {y5 : Int32}, g28 v_t v_t_now y2 y3 y5 = some res → ∀ {H : Heap} {locs : List Loc} {ls : Array Slot}, HP G A s [uX12 G o_t a_t v_t, uA G 63 (a_t 0) v_t_now] H locs → lv_has ls 11 [(0, .ref o_t), (2, .int y2), (3, .long y3), (5, .int y5)] → W p l e (rmm 7) s m args below meth c H locs 0 0 (QI below G A args s res.1 [uX12 G o_t a_t res.2, uA G 63 (a_t 0) v_t_now]) (F0 m 28 ls [])) (hf : b_X12_share_28 N g28 v_t v_t_now y2 y3 y5 = some res) {H : Heap} {locs : List Loc} {ls : Array Slot} (h : HP G A s [uX12 G o_t a_t v_t, uA G 63 (a_t 0) v_t_now] H locs) (hl : lv_has ls 11 [(0, .ref o_t), (2, .int y2), (3, .long y3), (5, .int y5)]) : W p l e (rmm 7) s m args below meth c H locs 0 0 (QI below G A args s res.1 [uX12 G o_t a_t res.2, uA G 63 (a_t 0) v_t_now]) (F0 m 28 ls []) := by
  unfold b_X12_share_28 at hf
  refine lv_iload C.hx C.hb dX12_share_28 (lv_at hl 3 rfl) ?_
  refine lv_aload_n C.hx C.hb dX12_share_30 rfl (lv_at hl 0 rfl) ?_
  obtain ⟨zr1, zq2, hf⟩ := bd_some hf
  have zm3 := c_X12_all l G o_t a_t (hf := zq2)
  refine g_goI C h zm3.1 (is := [0, 1]) rfl rfl (g_runV C h (is := [0, 1]) rfl rfl (As := []) (rest := [.int y5]) (zm3.2 _) vf_X12_155 0 0 rfl rfl hl.1 rfl rfl (Nat.le_of_ble_eq_true rfl) dX12_share_31 ⟨Nat.le_of_ble_eq_true rfl, Nat.le_of_ble_eq_true rfl⟩ ⟨Nat.le_refl _, Nat.le_refl _⟩) (us2 := [uX12 G o_t a_t v_t, uA G 63 (a_t 0) v_t_now]) rfl (fun H locs h => ?_)
  refine lv_icmp_gt (tgt := 101) C.hx C.hb dX12_share_34 (by decide) (fun zc4 => ?_) (fun zc4 => ?_)
  · replace hf := it_t zc4 hf
    refine lv_lload_n C.hx C.hb dX12_share_101 rfl (lv_at hl 2 rfl) ?_
    refine lv_lconst (v := 0) C.hx C.hb dX12_share_102 (by decide) ?_
    refine W.lcmp C.hx C.hb dX12_share_103 ?_
    refine lv_if_ge (tgt := 112) C.hx C.hb dX12_share_104 (by decide) (fun zc5 => ?_) (fun zc5 => ?_)
    · replace hf := it_t zc5 hf
      refine lv_lload_n C.hx C.hb dX12_share_112 rfl (lv_at hl 2 rfl) ?_
      exact w_X12_share_113 C  hf h (lv_sub hl [0, 2] rfl)
    · replace hf := it_f zc5 hf
      refine lv_lload_n C.hx C.hb dX12_share_107 rfl (lv_at hl 2 rfl) ?_
      refine lv_lneg C.hx C.hb dX12_share_108 ?_
      refine lv_goto (tgt := 113) C.hx C.hb dX12_share_109 (by decide) ?_
      exact w_X12_share_113 C  hf h (lv_sub hl [0, 2] rfl)
  · replace hf := it_f zc4 hf
    refine lv_iload C.hx C.hb dX12_share_37 (lv_at hl 3 rfl) ?_
    refine lv_iload_n C.hx C.hb dX12_share_39 rfl (lv_at hl 1 rfl) ?_
    refine lv_iand C.hx C.hb dX12_share_40 ?_
    refine lv_if_ne (tgt := 95) C.hx C.hb dX12_share_41 (by decide) (fun zc6 => ?_) (fun zc6 => ?_)
    · replace hf := it_f zc6 hf
      refine lv_iinc (v := y5 + 1) (lv' := [(5, .int (y5 + 1)), (0, .ref o_t), (2, .int y2), (3, .long y3)]) C.hx C.hb dX12_share_95 hl (k := 3) rfl rfl (by decide) rfl (fun ls hl => ?_)
      refine lv_goto (tgt := 28) C.hx C.hb dX12_share_98 (by decide) ?_
      exact hg28 hf h (lv_sub hl [1, 2, 3, 0] rfl)
    · replace hf := it_t zc6 hf
      refine lv_iload C.hx C.hb dX12_share_44 (lv_at hl 3 rfl) ?_
      obtain ⟨zr7, zq8, hf⟩ := bd_some hf
      have zm9 := c_X12_bits l G N (hf := zq8)
      refine g_goI C h zm9.1 (is := []) rfl rfl (g_runS C h (is := []) rfl rfl (As := [.int y5]) (rest := []) (zm9.2 _) sf_X12_136 hl.1 rfl rfl (Nat.le_of_ble_eq_true rfl) dX12_share_46 ⟨Nat.le_of_ble_eq_true rfl, Nat.le_of_ble_eq_true rfl⟩ ⟨Nat.le_refl _, Nat.le_refl _⟩) (us2 := [uX12 G o_t a_t v_t, uA G 63 (a_t 0) v_t_now]) rfl (fun H locs h => ?_)
      refine lv_istore (lv' := [(6, .int zr7), (0, .ref o_t), (2, .int y2), (3, .long y3), (5, .int y5)]) C.hx C.hb dX12_share_49 hl (by decide) rfl (fun ls hl => ?_)
      refine lv_iload C.hx C.hb dX12_share_51 (lv_at hl 0 rfl) ?_
      obtain ⟨zr10, zq11, hf⟩ := bd_some hf
      have zm12 := c_X12_factorial l G N (hf := zq11)
      refine g_goI C h zm12.1 (is := []) rfl rfl (g_runS C h (is := []) rfl rfl (As := [.int zr7]) (rest := []) (zm12.2 _) sf_X12_177 hl.1 rfl rfl (Nat.le_of_ble_eq_true rfl) dX12_share_53 ⟨Nat.le_of_ble_eq_true rfl, Nat.le_of_ble_eq_true rfl⟩ ⟨Nat.le_refl _, Nat.le_refl _⟩) (us2 := [uX12 G o_t a_t v_t, uA G 63 (a_t 0) v_t_now]) rfl (fun H locs h => ?_)
      refine lv_i2l C.hx C.hb dX12_share_56 rfl ?_
      refine lv_aload_n C.hx C.hb dX12_share_57 rfl (lv_at hl 1 rfl) ?_
      obtain ⟨zr13, zq14, hf⟩ := bd_some hf
      have zm15 := c_X12_things l G o_t a_t (hf := zq14)
      refine g_goI C h zm15.1 (is := [0, 1]) rfl rfl (g_runV C h (is := [0, 1]) rfl rfl (As := []) (rest := [.long zr10.toInt64]) (zm15.2 _) vf_X12_48 0 0 rfl rfl hl.1 rfl rfl (Nat.le_of_ble_eq_true rfl) dX12_share_58 ⟨Nat.le_of_ble_eq_true rfl, Nat.le_of_ble_eq_true rfl⟩ ⟨Nat.le_refl _, Nat.le_refl _⟩) (us2 := [uX12 G o_t a_t v_t, uA G 63 (a_t 0) v_t_now]) rfl (fun H locs h => ?_)
      refine lv_iconst (v := 1) C.hx C.hb dX12_share_61 (by decide) ?_
      refine lv_isub C.hx C.hb dX12_share_62 ?_
      refine lv_iload C.hx C.hb dX12_share_63 (lv_at hl 0 rfl) ?_
      refine lv_isub C.hx C.hb dX12_share_65 ?_
      obtain ⟨zr16, zq17, hf⟩ := bd_some hf
      have zm18 := c_X12_factorial l G N (hf := zq17)
      refine g_goI C h zm18.1 (is := []) rfl rfl (g_runS C h (is := []) rfl rfl (As := [.int ((zr13 - 1) - zr7)]) (rest := [.long zr10.toInt64]) (zm18.2 _) sf_X12_177 hl.1 rfl rfl (Nat.le_of_ble_eq_true rfl) dX12_share_66 ⟨Nat.le_of_ble_eq_true rfl, Nat.le_of_ble_eq_true rfl⟩ ⟨Nat.le_refl _, Nat.le_refl _⟩) (us2 := [uX12 G o_t a_t v_t, uA G 63 (a_t 0) v_t_now]) rfl (fun H locs h => ?_)
      refine lv_i2l C.hx C.hb dX12_share_69 rfl ?_
      refine lv_lmul C.hx C.hb dX12_share_70 ?_
      refine lv_lstore (lv' := [(7, .long (zr10.toInt64 * zr16.toInt64)), (6, .int zr7), (0, .ref o_t), (2, .int y2), (3, .long y3), (5, .int y5)]) C.hx C.hb dX12_share_71 hl (by decide) rfl (fun ls hl => ?_)
      refine lv_lload_n C.hx C.hb dX12_share_73 rfl (lv_at hl 4 rfl) ?_
      refine lv_lload C.hx C.hb dX12_share_74 (lv_at hl 0 rfl) ?_
      refine lv_aload_n C.hx C.hb dX12_share_76 rfl (lv_at hl 2 rfl) ?_
      refine lv_iload C.hx C.hb dX12_share_77 (lv_at hl 5 rfl) ?_
      refine lv_iload_n C.hx C.hb dX12_share_79 rfl (lv_at hl 3 rfl) ?_
      refine lv_ior C.hx C.hb dX12_share_80 ?_
      obtain ⟨zr19, zq20, hf⟩ := bd_some hf
      have zm21 := c_X12_harmBy l G o_t a_t N (hf := zq20)
      refine g_goI C h zm21.1 (is := [0, 1]) rfl rfl (g_runV C h (is := [0, 1]) rfl rfl (As := [.int (y5 ||| y2)]) (rest := [.long (zr10.toInt64 * zr16.toInt64), .long y3]) (zm21.2 _) vf_X12_180 0 0 rfl rfl hl.1 rfl rfl (Nat.le_of_ble_eq_true rfl) dX12_share_81 ⟨Nat.le_of_ble_eq_true rfl, Nat.le_of_ble_eq_true rfl⟩ ⟨Nat.le_refl _, Nat.le_refl _⟩) (us2 := [uX12 G o_t a_t zr19.2, uA G 63 (a_t 0) v_t_now]) rfl (fun H locs h => ?_)
      refine lv_aload_n C.hx C.hb dX12_share_84 rfl (lv_at hl 2 rfl) ?_
      refine lv_iload C.hx C.hb dX12_share_85 (lv_at hl 5 rfl) ?_
      obtain ⟨zr22, zq23, hf⟩ := bd_some hf
      have zm24 := c_X12_harmBy l G o_t a_t N (hf := zq23)
      refine g_goI C h zm24.1 (is := [0, 1]) rfl rfl (g_runV C h (is := [0, 1]) rfl rfl (As := [.int y5]) (rest := [.int zr19.1, .long (zr10.toInt64 * zr16.toInt64), .long y3]) (zm24.2 _) vf_X12_180 0 0 rfl rfl hl.1 rfl rfl (Nat.le_of_ble_eq_true rfl) dX12_share_87 ⟨Nat.le_of_ble_eq_true rfl, Nat.le_of_ble_eq_true rfl⟩ ⟨Nat.le_refl _, Nat.le_refl _⟩) (us2 := [uX12 G o_t a_t zr22.2, uA G 63 (a_t 0) v_t_now]) rfl (fun H locs h => ?_)
      refine lv_isub C.hx C.hb dX12_share_90 ?_
      refine lv_i2l C.hx C.hb dX12_share_91 rfl ?_
      refine lv_lmul C.hx C.hb dX12_share_92 ?_
      refine lv_ladd C.hx C.hb dX12_share_93 ?_
      refine lv_lstore_n (lv' := [(3, .long (y3 + ((zr10.toInt64 * zr16.toInt64) * ((zr19.1 - zr22.1).toInt64)))), (7, .long (zr10.toInt64 * zr16.toInt64)), (6, .int zr7), (0, .ref o_t), (2, .int y2), (5, .int y5)]) C.hx C.hb dX12_share_94 rfl hl (by decide) rfl (fun ls hl => ?_)
      refine lv_iinc (v := y5 + 1) (lv' := [(5, .int (y5 + 1)), (3, .long (y3 + ((zr10.toInt64 * zr16.toInt64) * ((zr19.1 - zr22.1).toInt64)))), (7, .long (zr10.toInt64 * zr16.toInt64)), (6, .int zr7), (0, .ref o_t), (2, .int y2)]) C.hx C.hb dX12_share_95 hl (k := 5) rfl rfl (by decide) rfl (fun ls hl => ?_)
      refine lv_goto (tgt := 28) C.hx C.hb dX12_share_98 (by decide) ?_
      exact hg28 hf h (lv_sub hl [4, 5, 1, 0] rfl)
set_option maxRecDepth 100000 in
set_option maxHeartbeats 4000000 in
theorem l_X12_share_28 {p : Program} {l : Launch} {e : Env} {s : State} {m : MethodId} {args : Array Value} {below : List Frame} {meth : Method} {c : Code} {G : GG} {A : Nat → Prop} {o_t : Nat} {a_t : Nat → Nat} {N : Nat}  {res : Int32 × US} (C : MC RX12 cX12_share 11 (some .int) G A p s m args meth c)  : ∀ (k : Nat) {v_t : US} {v_t_now : Nat → Int32} {y2 : Int32} {y3 : Int64} {y5 : Int32}, f_X12_share_28 N k v_t v_t_now y2 y3 y5 = some res → ∀ {H : Heap} {locs : List Loc} {ls : Array Slot}, HP G A s [uX12 G o_t a_t v_t, uA G 63 (a_t 0) v_t_now] H locs → lv_has ls 11 [(0, .ref o_t), (2, .int y2), (3, .long y3), (5, .int y5)] → W p l e (rmm 7) s m args below meth c H locs 0 0 (QI below G A args s res.1 [uX12 G o_t a_t res.2, uA G 63 (a_t 0) v_t_now]) (F0 m 28 ls []) := by
  intro k
  induction k with
  | zero => intros; contradiction
  | succ k ih =>
    intro v_t v_t_now y2 y3 y5 hf H locs ls h hl
    exact w_X12_share_28 (N := N) C ih hf h hl
set_option maxRecDepth 100000 in
set_option maxHeartbeats 4000000 in
theorem c_X12_share (l : Launch) (G : GG) (o_t : Nat) (a_t : Nat → Nat) (N : Nat) {v_t : US} {v_t_now : Nat → Int32} {x1 : Int32} {res : Int32 × US} (hf : f_X12_share N v_t v_t_now x1 = some res) : MI l yX12_share cX12_share 11 (some .int) 7 [.ref o_t, .int x1] G [uX12 G o_t a_t v_t, uA G 63 (a_t 0) v_t_now] res.1 [uX12 G o_t a_t res.2, uA G 63 (a_t 0) v_t_now] := by
  unfold f_X12_share at hf
  refine MI.intro (by decide) rfl (Nat.le_of_ble_eq_true rfl) (fun p e s m args below meth c A ls C h hl => ?_)
  have C : MC RX12 cX12_share 11 (some .int) G A p s m args meth c := C
  have hl : lv_has ls 11 [(0, .ref o_t), (1, .int x1)] := hl
  refine lv_aload_n C.hx C.hb dX12_share_0 rfl (lv_at hl 0 rfl) ?_
  refine lv_iload_n C.hx C.hb dX12_share_1 rfl (lv_at hl 1 rfl) ?_
  obtain ⟨zr1, zq2, hf⟩ := bd_some hf
  have zm3 := c_X12_isThing l G o_t a_t (hf := zq2)
  refine g_goI C h zm3.1 (is := [0, 1]) rfl rfl (g_runV C h (is := [0, 1]) rfl rfl (As := [.int x1]) (rest := []) (zm3.2 _) vf_X12_71 0 0 rfl rfl hl.1 rfl rfl (Nat.le_of_ble_eq_true rfl) dX12_share_2 ⟨Nat.le_of_ble_eq_true rfl, Nat.le_of_ble_eq_true rfl⟩ ⟨Nat.le_refl _, Nat.le_refl _⟩) (us2 := [uX12 G o_t a_t v_t, uA G 63 (a_t 0) v_t_now]) rfl (fun H locs h => ?_)
  refine lv_if_ne (tgt := 15) C.hx C.hb dX12_share_5 (by decide) (fun zc4 => ?_) (fun zc4 => ?_)
  · replace hf := it_f zc4 hf
    refine lv_aload_n C.hx C.hb dX12_share_15 rfl (lv_at hl 0 rfl) ?_
    obtain ⟨zr5, zq6, hf⟩ := bd_some hf
    have zm7 := c_X12_takeNow l G o_t a_t N (hf := zq6)
    refine g_goV C h zm7.1 (is := [0, 1]) rfl rfl (g_runV C h (is := [0, 1]) rfl rfl (As := []) (rest := []) (zm7.2 _) vf_X12_123 0 0 rfl rfl hl.1 rfl rfl (Nat.le_of_ble_eq_true rfl) dX12_share_16 ⟨Nat.le_of_ble_eq_true rfl, Nat.le_of_ble_eq_true rfl⟩ ⟨Nat.le_refl _, Nat.le_refl _⟩) (us2 := [uX12 G o_t a_t zr5, uA G 63 (a_t 0) v_t_now]) rfl (fun H locs h => ?_)
    refine lv_iconst (v := 1) C.hx C.hb dX12_share_19 (by decide) ?_
    refine lv_iload_n C.hx C.hb dX12_share_20 rfl (lv_at hl 1 rfl) ?_
    refine lv_ishl C.hx C.hb dX12_share_21 ?_
    refine lv_istore_n (lv' := [(2, .int (1 <<< (x1 &&& 31))), (0, .ref o_t), (1, .int x1)]) C.hx C.hb dX12_share_22 rfl hl (by decide) rfl (fun ls hl => ?_)
    refine lv_lconst (v := 0) C.hx C.hb dX12_share_23 (by decide) ?_
    refine lv_lstore_n (lv' := [(3, .long 0), (2, .int (1 <<< (x1 &&& 31))), (0, .ref o_t), (1, .int x1)]) C.hx C.hb dX12_share_24 rfl hl (by decide) rfl (fun ls hl => ?_)
    refine lv_iconst (v := 0) C.hx C.hb dX12_share_25 (by decide) ?_
    refine lv_istore (lv' := [(5, .int 0), (3, .long 0), (2, .int (1 <<< (x1 &&& 31))), (0, .ref o_t), (1, .int x1)]) C.hx C.hb dX12_share_26 hl (by decide) rfl (fun ls hl => ?_)
    exact l_X12_share_28 C N hf h (lv_sub hl [3, 2, 1, 0] rfl)
  · replace hf := it_t zc4 hf
    refine lv_aload_n C.hx C.hb dX12_share_8 rfl (lv_at hl 0 rfl) ?_
    refine lv_bipush (v := (-2)) C.hx C.hb dX12_share_9 (by decide) ?_
    obtain ⟨zr8, zq9, hf⟩ := bd_some hf
    have zm10 := c_X12_bad l G o_t a_t (hf := zq9)
    refine g_goI C h zm10.1 (is := [0]) rfl rfl (g_runV C h (is := [0]) rfl rfl (As := [.int (-2)]) (rest := []) (zm10.2 _) vf_X12_60 0 0 rfl rfl hl.1 rfl rfl (Nat.le_of_ble_eq_true rfl) dX12_share_11 ⟨Nat.le_of_ble_eq_true rfl, Nat.le_of_ble_eq_true rfl⟩ ⟨Nat.le_refl _, Nat.le_refl _⟩) (us2 := [uX12 G o_t a_t zr8.2, uA G 63 (a_t 0) v_t_now]) rfl (fun H locs h => ?_)
    obtain rfl := Option.some.inj hf
    exact g_ret_i C h rfl rfl dX12_share_14

def f_X12_slack (N : Nat) (v_t : US) (v_t_now : Nat → Int32) (x1 : Int32) : Option (Int32 × US) :=
  (f_X12_isThing v_t v_t_now x1).bind fun zr1 => if (b2i zr1) = 0 then ((f_X12_bad v_t (-10)).bind fun zr10 => some (zr10.1, zr10.2)) else ((f_X12_findSlacks N v_t v_t_now 0).bind fun zr5 => if (b2i zr5.1) = 0 then (some ((-1), zr5.2)) else (if x1 < 0 ∨ 5 ≤ x1.toNatClampNeg then none else (some ((zr5.2.2.2 6) x1.toNatClampNeg, zr5.2))))
set_option maxRecDepth 100000 in
set_option maxHeartbeats 4000000 in
theorem c_X12_slack (l : Launch) (G : GG) (o_t : Nat) (a_t : Nat → Nat) (N : Nat) {v_t : US} {v_t_now : Nat → Int32} {x1 : Int32} {res : Int32 × US} (hf : f_X12_slack N v_t v_t_now x1 = some res) : MI l yX12_slack cX12_slack 2 (some .int) 7 [.ref o_t, .int x1] G [uX12 G o_t a_t v_t, uA G 63 (a_t 0) v_t_now] res.1 [uX12 G o_t a_t res.2, uA G 63 (a_t 0) v_t_now] := by
  unfold f_X12_slack at hf
  refine MI.intro (by decide) rfl (Nat.le_of_ble_eq_true rfl) (fun p e s m args below meth c A ls C h hl => ?_)
  have C : MC RX12 cX12_slack 2 (some .int) G A p s m args meth c := C
  have hl : lv_has ls 2 [(0, .ref o_t), (1, .int x1)] := hl
  refine lv_aload_n C.hx C.hb dX12_slack_0 rfl (lv_at hl 0 rfl) ?_
  refine lv_iload_n C.hx C.hb dX12_slack_1 rfl (lv_at hl 1 rfl) ?_
  obtain ⟨zr1, zq2, hf⟩ := bd_some hf
  have zm3 := c_X12_isThing l G o_t a_t (hf := zq2)
  refine g_goI C h zm3.1 (is := [0, 1]) rfl rfl (g_runV C h (is := [0, 1]) rfl rfl (As := [.int x1]) (rest := []) (zm3.2 _) vf_X12_71 0 0 rfl rfl hl.1 rfl rfl (Nat.le_of_ble_eq_true rfl) dX12_slack_2 ⟨Nat.le_of_ble_eq_true rfl, Nat.le_of_ble_eq_true rfl⟩ ⟨Nat.le_refl _, Nat.le_refl _⟩) (us2 := [uX12 G o_t a_t v_t, uA G 63 (a_t 0) v_t_now]) rfl (fun H locs h => ?_)
  refine lv_if_ne (tgt := 15) C.hx C.hb dX12_slack_5 (by decide) (fun zc4 => ?_) (fun zc4 => ?_)
  · replace hf := it_f zc4 hf
    refine lv_aload_n C.hx C.hb dX12_slack_15 rfl (lv_at hl 0 rfl) ?_
    refine lv_iconst (v := 0) C.hx C.hb dX12_slack_16 (by decide) ?_
    obtain ⟨zr5, zq6, hf⟩ := bd_some hf
    have zm7 := c_X12_findSlacks l G o_t a_t N (hf := zq6)
    refine g_goI C h zm7.1 (is := [0, 1]) rfl rfl (g_runV C h (is := [0, 1]) rfl rfl (As := [.int 0]) (rest := []) (zm7.2 _) vf_X12_174 0 0 rfl rfl hl.1 rfl rfl (Nat.le_of_ble_eq_true rfl) dX12_slack_17 ⟨Nat.le_of_ble_eq_true rfl, Nat.le_of_ble_eq_true rfl⟩ ⟨Nat.le_refl _, Nat.le_refl _⟩) (us2 := [uX12 G o_t a_t zr5.2, uA G 63 (a_t 0) v_t_now]) rfl (fun H locs h => ?_)
    refine lv_if_eq (tgt := 32) C.hx C.hb dX12_slack_20 (by decide) (fun zc8 => ?_) (fun zc8 => ?_)
    · replace hf := it_t zc8 hf
      refine lv_iconst (v := (-1)) C.hx C.hb dX12_slack_32 (by decide) ?_
      obtain rfl := Option.some.inj hf
      exact g_ret_i C h rfl rfl dX12_slack_33
    · replace hf := it_f zc8 hf
      refine lv_aload_n C.hx C.hb dX12_slack_23 rfl (lv_at hl 0 rfl) ?_
      refine g_get C h fl_X12_27 0 0 rfl rfl (v := .ref (a_t 6)) rfl dX12_slack_24 ?_
      refine lv_iload_n C.hx C.hb dX12_slack_27 rfl (lv_at hl 1 rfl) ?_
      obtain ⟨zi9, hf⟩ := ck_some hf
      refine g_iald C h 0 4 rfl rfl (f := zr5.2.2.2 6) zi9 dX12_slack_28 ?_
      refine lv_goto (tgt := 33) C.hx C.hb dX12_slack_29 (by decide) ?_
      obtain rfl := Option.some.inj hf
      exact g_ret_i C h rfl rfl dX12_slack_33
  · replace hf := it_t zc4 hf
    refine lv_aload_n C.hx C.hb dX12_slack_8 rfl (lv_at hl 0 rfl) ?_
    refine lv_bipush (v := (-10)) C.hx C.hb dX12_slack_9 (by decide) ?_
    obtain ⟨zr10, zq11, hf⟩ := bd_some hf
    have zm12 := c_X12_bad l G o_t a_t (hf := zq11)
    refine g_goI C h zm12.1 (is := [0]) rfl rfl (g_runV C h (is := [0]) rfl rfl (As := [.int (-10)]) (rest := []) (zm12.2 _) vf_X12_60 0 0 rfl rfl hl.1 rfl rfl (Nat.le_of_ble_eq_true rfl) dX12_slack_11 ⟨Nat.le_of_ble_eq_true rfl, Nat.le_of_ble_eq_true rfl⟩ ⟨Nat.le_refl _, Nat.le_refl _⟩) (us2 := [uX12 G o_t a_t zr10.2, uA G 63 (a_t 0) v_t_now]) rfl (fun H locs h => ?_)
    obtain rfl := Option.some.inj hf
    exact g_ret_i C h rfl rfl dX12_slack_14

def f_X12_status (v_t : US) (x1 : Int32) : Option (Int32 × US) :=
  (f_X12_in x1.toInt64 0 2).bind fun zr1 => if (b2i zr1) = 0 then ((f_X12_bad v_t (-1)).bind fun zr5 => some (zr5.1, zr5.2)) else (if x1 < 0 ∨ 3 ≤ x1.toNatClampNeg then none else (some ((v_t.2.2 3) x1.toNatClampNeg, v_t)))
set_option maxRecDepth 100000 in
set_option maxHeartbeats 4000000 in
theorem c_X12_status (l : Launch) (G : GG) (o_t : Nat) (a_t : Nat → Nat) {v_t : US} {x1 : Int32} {res : Int32 × US} (hf : f_X12_status v_t x1 = some res) : MI l yX12_status cX12_status 2 (some .int) 2 [.ref o_t, .int x1] G [uX12 G o_t a_t v_t] res.1 [uX12 G o_t a_t res.2] := by
  unfold f_X12_status at hf
  refine MI.intro (by decide) rfl (Nat.le_of_ble_eq_true rfl) (fun p e s m args below meth c A ls C h hl => ?_)
  have C : MC RX12 cX12_status 2 (some .int) G A p s m args meth c := C
  have hl : lv_has ls 2 [(0, .ref o_t), (1, .int x1)] := hl
  refine lv_iload_n C.hx C.hb dX12_status_0 rfl (lv_at hl 1 rfl) ?_
  refine lv_i2l C.hx C.hb dX12_status_1 rfl ?_
  refine lv_lconst (v := 0) C.hx C.hb dX12_status_2 (by decide) ?_
  refine lv_ldc2 C.hx C.hb C.hown (C.hts _ cw_X12_252) dX12_status_3 ?_
  obtain ⟨zr1, zq2, hf⟩ := bd_some hf
  have zm3 := c_X12_in l G  (hf := zq2)
  refine g_goI C h zm3.1 (is := []) rfl rfl (g_runS C h (is := []) rfl rfl (As := [.long x1.toInt64, .long 0, .long 2]) (rest := []) (zm3.2 _) sf_X12_52 hl.1 rfl rfl (Nat.le_of_ble_eq_true rfl) dX12_status_6 ⟨Nat.le_of_ble_eq_true rfl, Nat.le_of_ble_eq_true rfl⟩ ⟨Nat.le_refl _, Nat.le_refl _⟩) (us2 := [uX12 G o_t a_t v_t]) rfl (fun H locs h => ?_)
  refine lv_if_eq (tgt := 21) C.hx C.hb dX12_status_9 (by decide) (fun zc4 => ?_) (fun zc4 => ?_)
  · replace hf := it_t zc4 hf
    refine lv_aload_n C.hx C.hb dX12_status_21 rfl (lv_at hl 0 rfl) ?_
    refine lv_iconst (v := (-1)) C.hx C.hb dX12_status_22 (by decide) ?_
    obtain ⟨zr5, zq6, hf⟩ := bd_some hf
    have zm7 := c_X12_bad l G o_t a_t (hf := zq6)
    refine g_goI C h zm7.1 (is := [0]) rfl rfl (g_runV C h (is := [0]) rfl rfl (As := [.int (-1)]) (rest := []) (zm7.2 _) vf_X12_60 0 0 rfl rfl hl.1 rfl rfl (Nat.le_of_ble_eq_true rfl) dX12_status_23 ⟨Nat.le_of_ble_eq_true rfl, Nat.le_of_ble_eq_true rfl⟩ ⟨Nat.le_refl _, Nat.le_refl _⟩) (us2 := [uX12 G o_t a_t zr5.2]) rfl (fun H locs h => ?_)
    obtain rfl := Option.some.inj hf
    exact g_ret_i C h rfl rfl dX12_status_26
  · replace hf := it_f zc4 hf
    refine lv_aload_n C.hx C.hb dX12_status_12 rfl (lv_at hl 0 rfl) ?_
    refine g_get C h fl_X12_20 0 0 rfl rfl (v := .ref (a_t 3)) rfl dX12_status_13 ?_
    refine lv_iload_n C.hx C.hb dX12_status_16 rfl (lv_at hl 1 rfl) ?_
    obtain ⟨zi8, hf⟩ := ck_some hf
    refine g_iald C h 0 3 rfl rfl (f := v_t.2.2 3) zi8 dX12_status_17 ?_
    refine lv_goto (tgt := 26) C.hx C.hb dX12_status_18 (by decide) ?_
    obtain rfl := Option.some.inj hf
    exact g_ret_i C h rfl rfl dX12_status_26

def b_X12_thing_49  (v_t : US) (v_t_now : Nat → Int32)  : Option (Int32 × US × (Nat → Int32)) :=
  (f_X12_bad v_t (-2)).bind fun zr1 => some (zr1.1, zr1.2, v_t_now)
def f_X12_thing (v_t : US) (v_t_now : Nat → Int32) (x1 : Int32) (x2 : Int32) (x3 : Int32) (x4 : Int32) : Option (Int32 × US × (Nat → Int32)) :=
  (f_X12_in x1.toInt64 0 4).bind fun zr1 => if (b2i zr1) = 0 then (b_X12_thing_49 v_t v_t_now) else ((f_X12_in x2.toInt64 0 9).bind fun zr5 => if (b2i zr5) = 0 then (b_X12_thing_49 v_t v_t_now) else ((f_X12_in x3.toInt64 1 9).bind fun zr9 => if (b2i zr9) = 0 then (b_X12_thing_49 v_t v_t_now) else ((f_X12_in x4.toInt64 0 9).bind fun zr13 => if (b2i zr13) = 0 then (b_X12_thing_49 v_t v_t_now) else ((f_X12_things v_t v_t_now).bind fun zr17 => if zr17 = 5 then ((f_X12_full v_t).bind fun zr27 => some (zr27.1, zr27.2, v_t_now)) else ((f_X12_layThing v_t_now 63 x1 x2 x3 x4).bind fun zr21 => (f_X12_things v_t zr21).bind fun zr24 => some (zr24 - 1, v_t, zr21))))))
set_option maxRecDepth 100000 in
set_option maxHeartbeats 4000000 in
theorem w_X12_thing_49 {p : Program} {l : Launch} {e : Env} {s : State} {m : MethodId} {args : Array Value} {below : List Frame} {meth : Method} {c : Code} {G : GG} {A : Nat → Prop} {o_t : Nat} {a_t : Nat → Nat}  {v_t : US} {v_t_now : Nat → Int32}  {res : Int32 × US × (Nat → Int32)} (C : MC RX12 cX12_thing 5 (some .int) G A p s m args meth c)  (hf : b_X12_thing_49 v_t v_t_now = some res) {H : Heap} {locs : List Loc} {ls : Array Slot} (h : HP G A s [uX12 G o_t a_t v_t, uA G 63 (a_t 0) v_t_now] H locs) (hl : lv_has ls 5 [(0, .ref o_t)]) : W p l e (rmm 2) s m args below meth c H locs 0 0 (QI below G A args s res.1 [uX12 G o_t a_t res.2.1, uA G 63 (a_t 0) res.2.2]) (F0 m 49 ls []) := by
  unfold b_X12_thing_49 at hf
  refine lv_aload_n C.hx C.hb dX12_thing_49 rfl (lv_at hl 0 rfl) ?_
  refine lv_bipush (v := (-2)) C.hx C.hb dX12_thing_50 (by decide) ?_
  obtain ⟨zr1, zq2, hf⟩ := bd_some hf
  have zm3 := c_X12_bad l G o_t a_t (hf := zq2)
  refine g_goI C h zm3.1 (is := [0]) rfl rfl (g_runV C h (is := [0]) rfl rfl (As := [.int (-2)]) (rest := []) (zm3.2 _) vf_X12_60 0 0 rfl rfl hl.1 rfl rfl (Nat.le_of_ble_eq_true rfl) dX12_thing_52 ⟨Nat.le_of_ble_eq_true rfl, Nat.le_of_ble_eq_true rfl⟩ ⟨Nat.le_refl _, Nat.le_refl _⟩) (us2 := [uX12 G o_t a_t zr1.2, uA G 63 (a_t 0) v_t_now]) rfl (fun H locs h => ?_)
  obtain rfl := Option.some.inj hf
  exact g_ret_i C h rfl rfl dX12_thing_55
set_option maxRecDepth 100000 in
set_option maxHeartbeats 4000000 in
theorem c_X12_thing (l : Launch) (G : GG) (o_t : Nat) (a_t : Nat → Nat) {v_t : US} {v_t_now : Nat → Int32} {x1 : Int32} {x2 : Int32} {x3 : Int32} {x4 : Int32} {res : Int32 × US × (Nat → Int32)} (hf : f_X12_thing v_t v_t_now x1 x2 x3 x4 = some res) : MI l yX12_thing cX12_thing 5 (some .int) 2 [.ref o_t, .int x1, .int x2, .int x3, .int x4] G [uX12 G o_t a_t v_t, uA G 63 (a_t 0) v_t_now] res.1 [uX12 G o_t a_t res.2.1, uA G 63 (a_t 0) res.2.2] := by
  unfold f_X12_thing at hf
  refine MI.intro (by decide) rfl (Nat.le_of_ble_eq_true rfl) (fun p e s m args below meth c A ls C h hl => ?_)
  have C : MC RX12 cX12_thing 5 (some .int) G A p s m args meth c := C
  have hl : lv_has ls 5 [(0, .ref o_t), (1, .int x1), (2, .int x2), (3, .int x3), (4, .int x4)] := hl
  refine lv_iload_n C.hx C.hb dX12_thing_0 rfl (lv_at hl 1 rfl) ?_
  refine lv_i2l C.hx C.hb dX12_thing_1 rfl ?_
  refine lv_lconst (v := 0) C.hx C.hb dX12_thing_2 (by decide) ?_
  refine lv_ldc2 C.hx C.hb C.hown (C.hts _ cw_X12_56) dX12_thing_3 ?_
  obtain ⟨zr1, zq2, hf⟩ := bd_some hf
  have zm3 := c_X12_in l G  (hf := zq2)
  refine g_goI C h zm3.1 (is := []) rfl rfl (g_runS C h (is := []) rfl rfl (As := [.long x1.toInt64, .long 0, .long 4]) (rest := []) (zm3.2 _) sf_X12_52 hl.1 rfl rfl (Nat.le_of_ble_eq_true rfl) dX12_thing_6 ⟨Nat.le_of_ble_eq_true rfl, Nat.le_of_ble_eq_true rfl⟩ ⟨Nat.le_refl _, Nat.le_refl _⟩) (us2 := [uX12 G o_t a_t v_t, uA G 63 (a_t 0) v_t_now]) rfl (fun H locs h => ?_)
  refine lv_if_eq (tgt := 49) C.hx C.hb dX12_thing_9 (by decide) (fun zc4 => ?_) (fun zc4 => ?_)
  · replace hf := it_t zc4 hf
    exact w_X12_thing_49 C  hf h (lv_sub hl [0] rfl)
  · replace hf := it_f zc4 hf
    refine lv_iload_n C.hx C.hb dX12_thing_12 rfl (lv_at hl 2 rfl) ?_
    refine lv_i2l C.hx C.hb dX12_thing_13 rfl ?_
    refine lv_lconst (v := 0) C.hx C.hb dX12_thing_14 (by decide) ?_
    refine lv_ldc2 C.hx C.hb C.hown (C.hts _ cw_X12_58) dX12_thing_15 ?_
    obtain ⟨zr5, zq6, hf⟩ := bd_some hf
    have zm7 := c_X12_in l G  (hf := zq6)
    refine g_goI C h zm7.1 (is := []) rfl rfl (g_runS C h (is := []) rfl rfl (As := [.long x2.toInt64, .long 0, .long 9]) (rest := []) (zm7.2 _) sf_X12_52 hl.1 rfl rfl (Nat.le_of_ble_eq_true rfl) dX12_thing_18 ⟨Nat.le_of_ble_eq_true rfl, Nat.le_of_ble_eq_true rfl⟩ ⟨Nat.le_refl _, Nat.le_refl _⟩) (us2 := [uX12 G o_t a_t v_t, uA G 63 (a_t 0) v_t_now]) rfl (fun H locs h => ?_)
    refine lv_if_eq (tgt := 49) C.hx C.hb dX12_thing_21 (by decide) (fun zc8 => ?_) (fun zc8 => ?_)
    · replace hf := it_t zc8 hf
      exact w_X12_thing_49 C  hf h (lv_sub hl [0] rfl)
    · replace hf := it_f zc8 hf
      refine lv_iload_n C.hx C.hb dX12_thing_24 rfl (lv_at hl 3 rfl) ?_
      refine lv_i2l C.hx C.hb dX12_thing_25 rfl ?_
      refine lv_lconst (v := 1) C.hx C.hb dX12_thing_26 (by decide) ?_
      refine lv_ldc2 C.hx C.hb C.hown (C.hts _ cw_X12_58) dX12_thing_27 ?_
      obtain ⟨zr9, zq10, hf⟩ := bd_some hf
      have zm11 := c_X12_in l G  (hf := zq10)
      refine g_goI C h zm11.1 (is := []) rfl rfl (g_runS C h (is := []) rfl rfl (As := [.long x3.toInt64, .long 1, .long 9]) (rest := []) (zm11.2 _) sf_X12_52 hl.1 rfl rfl (Nat.le_of_ble_eq_true rfl) dX12_thing_30 ⟨Nat.le_of_ble_eq_true rfl, Nat.le_of_ble_eq_true rfl⟩ ⟨Nat.le_refl _, Nat.le_refl _⟩) (us2 := [uX12 G o_t a_t v_t, uA G 63 (a_t 0) v_t_now]) rfl (fun H locs h => ?_)
      refine lv_if_eq (tgt := 49) C.hx C.hb dX12_thing_33 (by decide) (fun zc12 => ?_) (fun zc12 => ?_)
      · replace hf := it_t zc12 hf
        exact w_X12_thing_49 C  hf h (lv_sub hl [0] rfl)
      · replace hf := it_f zc12 hf
        refine lv_iload C.hx C.hb dX12_thing_36 (lv_at hl 4 rfl) ?_
        refine lv_i2l C.hx C.hb dX12_thing_38 rfl ?_
        refine lv_lconst (v := 0) C.hx C.hb dX12_thing_39 (by decide) ?_
        refine lv_ldc2 C.hx C.hb C.hown (C.hts _ cw_X12_58) dX12_thing_40 ?_
        obtain ⟨zr13, zq14, hf⟩ := bd_some hf
        have zm15 := c_X12_in l G  (hf := zq14)
        refine g_goI C h zm15.1 (is := []) rfl rfl (g_runS C h (is := []) rfl rfl (As := [.long x4.toInt64, .long 0, .long 9]) (rest := []) (zm15.2 _) sf_X12_52 hl.1 rfl rfl (Nat.le_of_ble_eq_true rfl) dX12_thing_43 ⟨Nat.le_of_ble_eq_true rfl, Nat.le_of_ble_eq_true rfl⟩ ⟨Nat.le_refl _, Nat.le_refl _⟩) (us2 := [uX12 G o_t a_t v_t, uA G 63 (a_t 0) v_t_now]) rfl (fun H locs h => ?_)
        refine lv_if_ne (tgt := 56) C.hx C.hb dX12_thing_46 (by decide) (fun zc16 => ?_) (fun zc16 => ?_)
        · replace hf := it_f zc16 hf
          refine lv_aload_n C.hx C.hb dX12_thing_56 rfl (lv_at hl 0 rfl) ?_
          obtain ⟨zr17, zq18, hf⟩ := bd_some hf
          have zm19 := c_X12_things l G o_t a_t (hf := zq18)
          refine g_goI C h zm19.1 (is := [0, 1]) rfl rfl (g_runV C h (is := [0, 1]) rfl rfl (As := []) (rest := []) (zm19.2 _) vf_X12_48 0 0 rfl rfl hl.1 rfl rfl (Nat.le_of_ble_eq_true rfl) dX12_thing_57 ⟨Nat.le_of_ble_eq_true rfl, Nat.le_of_ble_eq_true rfl⟩ ⟨Nat.le_refl _, Nat.le_refl _⟩) (us2 := [uX12 G o_t a_t v_t, uA G 63 (a_t 0) v_t_now]) rfl (fun H locs h => ?_)
          refine lv_iconst (v := 5) C.hx C.hb dX12_thing_60 (by decide) ?_
          refine lv_icmp_ne (tgt := 69) C.hx C.hb dX12_thing_61 (by decide) (fun zc20 => ?_) (fun zc20 => ?_)
          · replace hf := it_f zc20 hf
            refine lv_aload_n C.hx C.hb dX12_thing_69 rfl (lv_at hl 0 rfl) ?_
            refine g_get C h fl_X12_7 0 0 rfl rfl (v := .ref (a_t 0)) rfl dX12_thing_70 ?_
            refine lv_iload_n C.hx C.hb dX12_thing_73 rfl (lv_at hl 1 rfl) ?_
            refine lv_iload_n C.hx C.hb dX12_thing_74 rfl (lv_at hl 2 rfl) ?_
            refine lv_iload_n C.hx C.hb dX12_thing_75 rfl (lv_at hl 3 rfl) ?_
            refine lv_iload C.hx C.hb dX12_thing_76 (lv_at hl 4 rfl) ?_
            obtain ⟨zr21, zq22, hf⟩ := bd_some hf
            have zm23 := c_X12_layThing l G (a_t 0) (hf := zq22)
            refine g_goV C h zm23.1 (is := [1]) rfl rfl (g_runS C h (is := [1]) rfl rfl (As := [.ref (a_t 0), .int x1, .int x2, .int x3, .int x4]) (rest := []) (zm23.2 _) sf_X12_67 hl.1 rfl rfl (Nat.le_of_ble_eq_true rfl) dX12_thing_78 ⟨Nat.le_of_ble_eq_true rfl, Nat.le_of_ble_eq_true rfl⟩ ⟨Nat.le_refl _, Nat.le_refl _⟩) (us2 := [uX12 G o_t a_t v_t, uA G 63 (a_t 0) zr21]) rfl (fun H locs h => ?_)
            refine lv_aload_n C.hx C.hb dX12_thing_81 rfl (lv_at hl 0 rfl) ?_
            obtain ⟨zr24, zq25, hf⟩ := bd_some hf
            have zm26 := c_X12_things l G o_t a_t (hf := zq25)
            refine g_goI C h zm26.1 (is := [0, 1]) rfl rfl (g_runV C h (is := [0, 1]) rfl rfl (As := []) (rest := []) (zm26.2 _) vf_X12_48 0 0 rfl rfl hl.1 rfl rfl (Nat.le_of_ble_eq_true rfl) dX12_thing_82 ⟨Nat.le_of_ble_eq_true rfl, Nat.le_of_ble_eq_true rfl⟩ ⟨Nat.le_refl _, Nat.le_refl _⟩) (us2 := [uX12 G o_t a_t v_t, uA G 63 (a_t 0) zr21]) rfl (fun H locs h => ?_)
            refine lv_iconst (v := 1) C.hx C.hb dX12_thing_85 (by decide) ?_
            refine lv_isub C.hx C.hb dX12_thing_86 ?_
            obtain rfl := Option.some.inj hf
            exact g_ret_i C h rfl rfl dX12_thing_87
          · replace hf := it_t zc20 hf
            refine lv_aload_n C.hx C.hb dX12_thing_64 rfl (lv_at hl 0 rfl) ?_
            obtain ⟨zr27, zq28, hf⟩ := bd_some hf
            have zm29 := c_X12_full l G o_t a_t (hf := zq28)
            refine g_goI C h zm29.1 (is := [0]) rfl rfl (g_runV C h (is := [0]) rfl rfl (As := []) (rest := []) (zm29.2 _) vf_X12_64 0 0 rfl rfl hl.1 rfl rfl (Nat.le_of_ble_eq_true rfl) dX12_thing_65 ⟨Nat.le_of_ble_eq_true rfl, Nat.le_of_ble_eq_true rfl⟩ ⟨Nat.le_refl _, Nat.le_refl _⟩) (us2 := [uX12 G o_t a_t zr27.2, uA G 63 (a_t 0) v_t_now]) rfl (fun H locs h => ?_)
            obtain rfl := Option.some.inj hf
            exact g_ret_i C h rfl rfl dX12_thing_68
        · replace hf := it_t zc16 hf
          exact w_X12_thing_49 C  hf h (lv_sub hl [0] rfl)

def b_X12_type_41 (N : Nat) (g41 : US → Int64 → Int32 → Option (Int32 × US)) (v_t : US) (y1 : Int64) (y4 : Int32) : Option (Int32 × US) :=
  if y4 < 0 then (some (v_t.1 17, v_t)) else (if (v_t.1 17) < 0 ∨ 200 ≤ (v_t.1 17).toNatClampNeg then none else (bnd (upa v_t 16 ((v_t.1 17).toNatClampNeg) ((((y1.toUInt64 >>> ((8 * y4).toInt64.toUInt64 &&& Int64.toUInt64 63)).toInt64) &&& 255).toInt32)) fun zw3 => g41 (upi zw3 17 ((v_t.1 17) + 1)) y1 (y4 + (-1))))
def f_X12_type_41 (N : Nat)  : Nat → US → Int64 → Int32 → Option (Int32 × US)
  | 0 => fun _ _ _ => none
  | k + 1 => fun q0 q1 q2 => b_X12_type_41 N  (f_X12_type_41 N  k) q0 q1 q2
def f_X12_type (N : Nat) (v_t : US) (x1 : Int64) (x3 : Int32) : Option (Int32 × US) :=
  (f_X12_in x3.toInt64 1 8).bind fun zr1 => if (b2i zr1) = 0 then ((f_X12_bad v_t (-2)).bind fun zr9 => some (zr9.1, zr9.2)) else (if ((v_t.1 17) + x3) ≤ 200 then (f_X12_type_41 N N v_t x1 (x3 - 1)) else ((f_X12_full v_t).bind fun zr6 => some (zr6.1, zr6.2)))
set_option maxRecDepth 100000 in
set_option maxHeartbeats 4000000 in
theorem w_X12_type_41 {p : Program} {l : Launch} {e : Env} {s : State} {m : MethodId} {args : Array Value} {below : List Frame} {meth : Method} {c : Code} {G : GG} {A : Nat → Prop} {o_t : Nat} {a_t : Nat → Nat} {N : Nat} {g41 : US → Int64 → Int32 → Option (Int32 × US)} {v_t : US} {y1 : Int64} {y4 : Int32} {res : Int32 × US} (C : MC RX12 cX12_type 5 (some .int) G A p s m args meth c) (hg41 : ∀ {v_t : US} {y1 : Int64} {y4 : Int32}, g41 v_t y1 y4 = some res → ∀ {H : Heap} {locs : List Loc} {ls : Array Slot}, HP G A s [uX12 G o_t a_t v_t] H locs → lv_has ls 5 [(0, .ref o_t), (1, .long y1), (4, .int y4)] → W p l e (rmm 2) s m args below meth c H locs 0 0 (QI below G A args s res.1 [uX12 G o_t a_t res.2]) (F0 m 41 ls [])) (hf : b_X12_type_41 N g41 v_t y1 y4 = some res) {H : Heap} {locs : List Loc} {ls : Array Slot} (h : HP G A s [uX12 G o_t a_t v_t] H locs) (hl : lv_has ls 5 [(0, .ref o_t), (1, .long y1), (4, .int y4)]) : W p l e (rmm 2) s m args below meth c H locs 0 0 (QI below G A args s res.1 [uX12 G o_t a_t res.2]) (F0 m 41 ls []) := by
  unfold b_X12_type_41 at hf
  refine lv_iload C.hx C.hb dX12_type_41 (lv_at hl 2 rfl) ?_
  refine lv_if_lt (tgt := 83) C.hx C.hb dX12_type_43 (by decide) (fun zc1 => ?_) (fun zc1 => ?_)
  · replace hf := it_t zc1 hf
    refine lv_aload_n C.hx C.hb dX12_type_83 rfl (lv_at hl 0 rfl) ?_
    refine g_get C h fl_X12_188 0 0 rfl rfl (v := .int (v_t.1 17)) rfl dX12_type_84 ?_
    obtain rfl := Option.some.inj hf
    exact g_ret_i C h rfl rfl dX12_type_87
  · replace hf := it_f zc1 hf
    refine lv_aload_n C.hx C.hb dX12_type_46 rfl (lv_at hl 0 rfl) ?_
    refine g_get C h fl_X12_39 0 0 rfl rfl (v := .ref (a_t 16)) rfl dX12_type_47 ?_
    refine lv_aload_n C.hx C.hb dX12_type_50 rfl (lv_at hl 0 rfl) ?_
    refine g_get C h fl_X12_188 0 0 rfl rfl (v := .int (v_t.1 17)) rfl dX12_type_51 ?_
    refine lv_lload_n C.hx C.hb dX12_type_54 rfl (lv_at hl 1 rfl) ?_
    refine lv_bipush (v := 8) C.hx C.hb dX12_type_55 (by decide) ?_
    refine lv_iload C.hx C.hb dX12_type_57 (lv_at hl 2 rfl) ?_
    refine lv_imul C.hx C.hb dX12_type_59 ?_
    refine lv_lushr C.hx C.hb dX12_type_60 rfl ?_
    refine lv_ldc2 C.hx C.hb C.hown (C.hts _ cw_X12_191) dX12_type_61 ?_
    refine lv_land C.hx C.hb dX12_type_64 ?_
    refine lv_l2i C.hx C.hb dX12_type_65 rfl ?_
    obtain ⟨zi2, hf⟩ := ck_some hf
    refine g_iast C h 0 8 rfl rfl (f := v_t.2.2 16) zi2 dX12_type_66 (u' := uX12 G o_t a_t (upa v_t 16 ((v_t.1 17).toNatClampNeg) ((((y1.toUInt64 >>> ((8 * y4).toInt64.toUInt64 &&& Int64.toUInt64 63)).toInt64) &&& 255).toInt32))) (us' := [uX12 G o_t a_t (upa v_t 16 ((v_t.1 17).toNatClampNeg) ((((y1.toUInt64 >>> ((8 * y4).toInt64.toUInt64 &&& Int64.toUInt64 63)).toInt64) &&& 255).toInt32))]) rfl rfl (fun H locs h => ?_)
    refine lv_aload_n C.hx C.hb dX12_type_67 rfl (lv_at hl 0 rfl) ?_
    refine lv_dup C.hx C.hb dX12_type_68 rfl ?_
    refine g_get C h fl_X12_188 0 0 rfl rfl (v := .int (v_t.1 17)) rfl dX12_type_69 ?_
    refine lv_iconst (v := 1) C.hx C.hb dX12_type_72 (by decide) ?_
    refine lv_iadd C.hx C.hb dX12_type_73 ?_
    obtain ⟨zw3, hzw3, hf⟩ := bnd_some hf
    rw [← hzw3] at h
    refine g_put C h fp_X12_188 0 0 rfl rfl rfl rfl (Nat.le_of_ble_eq_true rfl) dX12_type_74 (u' := uX12 G o_t a_t (upi zw3 17 ((v_t.1 17) + 1))) (us' := [uX12 G o_t a_t (upi zw3 17 ((v_t.1 17) + 1))]) rfl rfl (fun H locs h => ?_)
    refine lv_iinc (v := y4 + (-1)) (lv' := [(4, .int (y4 + (-1))), (0, .ref o_t), (1, .long y1)]) C.hx C.hb dX12_type_77 hl (k := 2) rfl rfl (by decide) rfl (fun ls hl => ?_)
    refine lv_goto (tgt := 41) C.hx C.hb dX12_type_80 (by decide) ?_
    exact hg41 hf h (lv_sub hl [1, 2, 0] rfl)
set_option maxRecDepth 100000 in
set_option maxHeartbeats 4000000 in
theorem l_X12_type_41 {p : Program} {l : Launch} {e : Env} {s : State} {m : MethodId} {args : Array Value} {below : List Frame} {meth : Method} {c : Code} {G : GG} {A : Nat → Prop} {o_t : Nat} {a_t : Nat → Nat} {N : Nat}  {res : Int32 × US} (C : MC RX12 cX12_type 5 (some .int) G A p s m args meth c)  : ∀ (k : Nat) {v_t : US} {y1 : Int64} {y4 : Int32}, f_X12_type_41 N k v_t y1 y4 = some res → ∀ {H : Heap} {locs : List Loc} {ls : Array Slot}, HP G A s [uX12 G o_t a_t v_t] H locs → lv_has ls 5 [(0, .ref o_t), (1, .long y1), (4, .int y4)] → W p l e (rmm 2) s m args below meth c H locs 0 0 (QI below G A args s res.1 [uX12 G o_t a_t res.2]) (F0 m 41 ls []) := by
  intro k
  induction k with
  | zero => intros; contradiction
  | succ k ih =>
    intro v_t y1 y4 hf H locs ls h hl
    exact w_X12_type_41 (N := N) C ih hf h hl
set_option maxRecDepth 100000 in
set_option maxHeartbeats 4000000 in
theorem c_X12_type (l : Launch) (G : GG) (o_t : Nat) (a_t : Nat → Nat) (N : Nat) {v_t : US} {x1 : Int64} {x3 : Int32} {res : Int32 × US} (hf : f_X12_type N v_t x1 x3 = some res) : MI l yX12_type cX12_type 5 (some .int) 2 [.ref o_t, .long x1, .int x3] G [uX12 G o_t a_t v_t] res.1 [uX12 G o_t a_t res.2] := by
  unfold f_X12_type at hf
  refine MI.intro (by decide) rfl (Nat.le_of_ble_eq_true rfl) (fun p e s m args below meth c A ls C h hl => ?_)
  have C : MC RX12 cX12_type 5 (some .int) G A p s m args meth c := C
  have hl : lv_has ls 5 [(0, .ref o_t), (1, .long x1), (3, .int x3)] := hl
  refine lv_iload_n C.hx C.hb dX12_type_0 rfl (lv_at hl 2 rfl) ?_
  refine lv_i2l C.hx C.hb dX12_type_1 rfl ?_
  refine lv_lconst (v := 1) C.hx C.hb dX12_type_2 (by decide) ?_
  refine lv_ldc2 C.hx C.hb C.hown (C.hts _ cw_X12_186) dX12_type_3 ?_
  obtain ⟨zr1, zq2, hf⟩ := bd_some hf
  have zm3 := c_X12_in l G  (hf := zq2)
  refine g_goI C h zm3.1 (is := []) rfl rfl (g_runS C h (is := []) rfl rfl (As := [.long x3.toInt64, .long 1, .long 8]) (rest := []) (zm3.2 _) sf_X12_52 hl.1 rfl rfl (Nat.le_of_ble_eq_true rfl) dX12_type_6 ⟨Nat.le_of_ble_eq_true rfl, Nat.le_of_ble_eq_true rfl⟩ ⟨Nat.le_refl _, Nat.le_refl _⟩) (us2 := [uX12 G o_t a_t v_t]) rfl (fun H locs h => ?_)
  refine lv_if_ne (tgt := 19) C.hx C.hb dX12_type_9 (by decide) (fun zc4 => ?_) (fun zc4 => ?_)
  · replace hf := it_f zc4 hf
    refine lv_aload_n C.hx C.hb dX12_type_19 rfl (lv_at hl 0 rfl) ?_
    refine g_get C h fl_X12_188 0 0 rfl rfl (v := .int (v_t.1 17)) rfl dX12_type_20 ?_
    refine lv_iload_n C.hx C.hb dX12_type_23 rfl (lv_at hl 2 rfl) ?_
    refine lv_iadd C.hx C.hb dX12_type_24 ?_
    refine lv_sipush (v := 200) C.hx C.hb dX12_type_25 (by decide) ?_
    refine lv_icmp_le (tgt := 36) C.hx C.hb dX12_type_28 (by decide) (fun zc5 => ?_) (fun zc5 => ?_)
    · replace hf := it_t zc5 hf
      refine lv_iload_n C.hx C.hb dX12_type_36 rfl (lv_at hl 2 rfl) ?_
      refine lv_iconst (v := 1) C.hx C.hb dX12_type_37 (by decide) ?_
      refine lv_isub C.hx C.hb dX12_type_38 ?_
      refine lv_istore (lv' := [(4, .int (x3 - 1)), (0, .ref o_t), (1, .long x1), (3, .int x3)]) C.hx C.hb dX12_type_39 hl (by decide) rfl (fun ls hl => ?_)
      exact l_X12_type_41 C N hf h (lv_sub hl [1, 2, 0] rfl)
    · replace hf := it_f zc5 hf
      refine lv_aload_n C.hx C.hb dX12_type_31 rfl (lv_at hl 0 rfl) ?_
      obtain ⟨zr6, zq7, hf⟩ := bd_some hf
      have zm8 := c_X12_full l G o_t a_t (hf := zq7)
      refine g_goI C h zm8.1 (is := [0]) rfl rfl (g_runV C h (is := [0]) rfl rfl (As := []) (rest := []) (zm8.2 _) vf_X12_64 0 0 rfl rfl hl.1 rfl rfl (Nat.le_of_ble_eq_true rfl) dX12_type_32 ⟨Nat.le_of_ble_eq_true rfl, Nat.le_of_ble_eq_true rfl⟩ ⟨Nat.le_refl _, Nat.le_refl _⟩) (us2 := [uX12 G o_t a_t zr6.2]) rfl (fun H locs h => ?_)
      obtain rfl := Option.some.inj hf
      exact g_ret_i C h rfl rfl dX12_type_35
  · replace hf := it_t zc4 hf
    refine lv_aload_n C.hx C.hb dX12_type_12 rfl (lv_at hl 0 rfl) ?_
    refine lv_bipush (v := (-2)) C.hx C.hb dX12_type_13 (by decide) ?_
    obtain ⟨zr9, zq10, hf⟩ := bd_some hf
    have zm11 := c_X12_bad l G o_t a_t (hf := zq10)
    refine g_goI C h zm11.1 (is := [0]) rfl rfl (g_runV C h (is := [0]) rfl rfl (As := [.int (-2)]) (rest := []) (zm11.2 _) vf_X12_60 0 0 rfl rfl hl.1 rfl rfl (Nat.le_of_ble_eq_true rfl) dX12_type_15 ⟨Nat.le_of_ble_eq_true rfl, Nat.le_of_ble_eq_true rfl⟩ ⟨Nat.le_refl _, Nat.le_refl _⟩) (us2 := [uX12 G o_t a_t zr9.2]) rfl (fun H locs h => ?_)
    obtain rfl := Option.some.inj hf
    exact g_ret_i C h rfl rfl dX12_type_18

def f_X12_undo (v_t : US) (v_t_now : Nat → Int32)  : Option (Int32 × US × (Nat → Int32)) :=
  if (52 : Int32) < 0 ∨ 63 ≤ (52 : Int32).toNatClampNeg then none else (if (v_t_now (52 : Int32).toNatClampNeg) = 0 then ((f_X12_no v_t (-3)).bind fun zr9 => some (zr9.1, zr9.2, v_t_now)) else (if (52 : Int32) < 0 ∨ 63 ≤ (52 : Int32).toNatClampNeg then none else (if (52 : Int32) < 0 ∨ 63 ≤ (52 : Int32).toNatClampNeg then none else (if (52 : Int32) < 0 ∨ 63 ≤ (52 : Int32).toNatClampNeg then none else (if (53 + ((upd v_t_now (52 : Int32).toNatClampNeg ((v_t_now (52 : Int32).toNatClampNeg) - 1)) (52 : Int32).toNatClampNeg)) < 0 ∨ 63 ≤ (53 + ((upd v_t_now (52 : Int32).toNatClampNeg ((v_t_now (52 : Int32).toNatClampNeg) - 1)) (52 : Int32).toNatClampNeg)).toNatClampNeg then none else (bnd (upd v_t_now (52 : Int32).toNatClampNeg ((v_t_now (52 : Int32).toNatClampNeg) - 1)) fun zw7 => if (27 : Int32) < 0 ∨ 63 ≤ (27 : Int32).toNatClampNeg then none else (some (1, v_t, upd zw7 (27 : Int32).toNatClampNeg ((upd v_t_now (52 : Int32).toNatClampNeg ((v_t_now (52 : Int32).toNatClampNeg) - 1)) (53 + ((upd v_t_now (52 : Int32).toNatClampNeg ((v_t_now (52 : Int32).toNatClampNeg) - 1)) (52 : Int32).toNatClampNeg)).toNatClampNeg)))))))))
set_option maxRecDepth 100000 in
set_option maxHeartbeats 4000000 in
theorem c_X12_undo (l : Launch) (G : GG) (o_t : Nat) (a_t : Nat → Nat) {v_t : US} {v_t_now : Nat → Int32}  {res : Int32 × US × (Nat → Int32)} (hf : f_X12_undo v_t v_t_now = some res) : MI l yX12_undo cX12_undo 1 (some .int) 2 [.ref o_t] G [uX12 G o_t a_t v_t, uA G 63 (a_t 0) v_t_now] res.1 [uX12 G o_t a_t res.2.1, uA G 63 (a_t 0) res.2.2] := by
  unfold f_X12_undo at hf
  refine MI.intro (by decide) rfl (Nat.le_of_ble_eq_true rfl) (fun p e s m args below meth c A ls C h hl => ?_)
  have C : MC RX12 cX12_undo 1 (some .int) G A p s m args meth c := C
  have hl : lv_has ls 1 [(0, .ref o_t)] := hl
  refine lv_aload_n C.hx C.hb dX12_undo_0 rfl (lv_at hl 0 rfl) ?_
  refine g_get C h fl_X12_7 0 0 rfl rfl (v := .ref (a_t 0)) rfl dX12_undo_1 ?_
  refine lv_bipush (v := 52) C.hx C.hb dX12_undo_4 (by decide) ?_
  obtain ⟨zi1, hf⟩ := ck_some hf
  refine g_iald C h 1 0 rfl rfl (f := v_t_now) zi1 dX12_undo_6 ?_
  refine lv_if_ne (tgt := 17) C.hx C.hb dX12_undo_7 (by decide) (fun zc2 => ?_) (fun zc2 => ?_)
  · replace hf := it_f zc2 hf
    refine lv_aload_n C.hx C.hb dX12_undo_17 rfl (lv_at hl 0 rfl) ?_
    refine g_get C h fl_X12_7 0 0 rfl rfl (v := .ref (a_t 0)) rfl dX12_undo_18 ?_
    refine lv_bipush (v := 52) C.hx C.hb dX12_undo_21 (by decide) ?_
    refine lv_dup2_11 C.hx C.hb dX12_undo_23 rfl rfl ?_
    obtain ⟨zi3, hf⟩ := ck_some hf
    refine g_iald C h 1 0 rfl rfl (f := v_t_now) zi3 dX12_undo_24 ?_
    refine lv_iconst (v := 1) C.hx C.hb dX12_undo_25 (by decide) ?_
    refine lv_isub C.hx C.hb dX12_undo_26 ?_
    obtain ⟨zi4, hf⟩ := ck_some hf
    refine g_iast C h 1 0 rfl rfl (f := v_t_now) zi4 dX12_undo_27 (u' := uA G 63 (a_t 0) (upd v_t_now (52 : Int32).toNatClampNeg ((v_t_now (52 : Int32).toNatClampNeg) - 1))) (us' := [uX12 G o_t a_t v_t, uA G 63 (a_t 0) (upd v_t_now (52 : Int32).toNatClampNeg ((v_t_now (52 : Int32).toNatClampNeg) - 1))]) rfl rfl (fun H locs h => ?_)
    refine lv_aload_n C.hx C.hb dX12_undo_28 rfl (lv_at hl 0 rfl) ?_
    refine g_get C h fl_X12_7 0 0 rfl rfl (v := .ref (a_t 0)) rfl dX12_undo_29 ?_
    refine lv_bipush (v := 27) C.hx C.hb dX12_undo_32 (by decide) ?_
    refine lv_aload_n C.hx C.hb dX12_undo_34 rfl (lv_at hl 0 rfl) ?_
    refine g_get C h fl_X12_7 0 0 rfl rfl (v := .ref (a_t 0)) rfl dX12_undo_35 ?_
    refine lv_bipush (v := 53) C.hx C.hb dX12_undo_38 (by decide) ?_
    refine lv_aload_n C.hx C.hb dX12_undo_40 rfl (lv_at hl 0 rfl) ?_
    refine g_get C h fl_X12_7 0 0 rfl rfl (v := .ref (a_t 0)) rfl dX12_undo_41 ?_
    refine lv_bipush (v := 52) C.hx C.hb dX12_undo_44 (by decide) ?_
    obtain ⟨zi5, hf⟩ := ck_some hf
    refine g_iald C h 1 0 rfl rfl (f := upd v_t_now (52 : Int32).toNatClampNeg ((v_t_now (52 : Int32).toNatClampNeg) - 1)) zi5 dX12_undo_46 ?_
    refine lv_iadd C.hx C.hb dX12_undo_47 ?_
    obtain ⟨zi6, hf⟩ := ck_some hf
    refine g_iald C h 1 0 rfl rfl (f := upd v_t_now (52 : Int32).toNatClampNeg ((v_t_now (52 : Int32).toNatClampNeg) - 1)) zi6 dX12_undo_48 ?_
    obtain ⟨zw7, hzw7, hf⟩ := bnd_some hf
    rw [← hzw7] at h
    obtain ⟨zi8, hf⟩ := ck_some hf
    refine g_iast C h 1 0 rfl rfl (f := zw7) zi8 dX12_undo_49 (u' := uA G 63 (a_t 0) (upd zw7 (27 : Int32).toNatClampNeg ((upd v_t_now (52 : Int32).toNatClampNeg ((v_t_now (52 : Int32).toNatClampNeg) - 1)) (53 + ((upd v_t_now (52 : Int32).toNatClampNeg ((v_t_now (52 : Int32).toNatClampNeg) - 1)) (52 : Int32).toNatClampNeg)).toNatClampNeg))) (us' := [uX12 G o_t a_t v_t, uA G 63 (a_t 0) (upd zw7 (27 : Int32).toNatClampNeg ((upd v_t_now (52 : Int32).toNatClampNeg ((v_t_now (52 : Int32).toNatClampNeg) - 1)) (53 + ((upd v_t_now (52 : Int32).toNatClampNeg ((v_t_now (52 : Int32).toNatClampNeg) - 1)) (52 : Int32).toNatClampNeg)).toNatClampNeg))]) rfl rfl (fun H locs h => ?_)
    refine lv_iconst (v := 1) C.hx C.hb dX12_undo_50 (by decide) ?_
    obtain rfl := Option.some.inj hf
    exact g_ret_i C h rfl rfl dX12_undo_51
  · replace hf := it_t zc2 hf
    refine lv_aload_n C.hx C.hb dX12_undo_10 rfl (lv_at hl 0 rfl) ?_
    refine lv_bipush (v := (-3)) C.hx C.hb dX12_undo_11 (by decide) ?_
    obtain ⟨zr9, zq10, hf⟩ := bd_some hf
    have zm11 := c_X12_no l G o_t a_t (hf := zq10)
    refine g_goI C h zm11.1 (is := [0]) rfl rfl (g_runV C h (is := [0]) rfl rfl (As := [.int (-3)]) (rest := []) (zm11.2 _) vf_X12_79 0 0 rfl rfl hl.1 rfl rfl (Nat.le_of_ble_eq_true rfl) dX12_undo_13 ⟨Nat.le_of_ble_eq_true rfl, Nat.le_of_ble_eq_true rfl⟩ ⟨Nat.le_refl _, Nat.le_refl _⟩) (us2 := [uX12 G o_t a_t zr9.2, uA G 63 (a_t 0) v_t_now]) rfl (fun H locs h => ?_)
    obtain rfl := Option.some.inj hf
    exact g_ret_i C h rfl rfl dX12_undo_16

def b_X12_who_18 (N : Nat)  (v_t : US) (v_t_now : Nat → Int32)  : Option (Int32 × US) :=
  (f_X12_bad v_t (-10)).bind fun zr1 => some (zr1.1, zr1.2)
def b_X12_who_60 (N : Nat) (g37 : US → (Nat → Int32) → Int32 → Int32 → Int32 → Int32 → Int32 → Option (Int32 × US)) (g60 : US → (Nat → Int32) → Int32 → Int32 → Int32 → Int32 → Int32 → Int32 → Int32 → Option (Int32 × US)) (v_t : US) (v_t_now : Nat → Int32) (y1 : Int32) (y2 : Int32) (y3 : Int32) (y4 : Int32) (y5 : Int32) (y6 : Int32) (y7 : Int32) : Option (Int32 × US) :=
  (f_X12_errands v_t v_t_now).bind fun zr1 => if zr1 ≤ y7 then (if y6 = y1 then (if y3 = 0 then (g37 v_t v_t_now y1 y2 (y3 + 1) y5 (y5 + 1)) else (g37 v_t v_t_now y1 y2 (y3 + 1) y4 (y5 + 1))) else (g37 v_t v_t_now y1 y2 y3 y4 (y5 + 1))) else (if ((y5 >>> (y7 &&& 31)) &&& 1) = 1 then ((f_X12_doErrand N v_t v_t_now y7 y6).bind fun zr8 => g60 zr8.2 v_t_now y1 y2 y3 y4 y5 zr8.1 (y7 + 1)) else (g60 v_t v_t_now y1 y2 y3 y4 y5 y6 (y7 + 1)))
def f_X12_who_60 (N : Nat) (g37 : US → (Nat → Int32) → Int32 → Int32 → Int32 → Int32 → Int32 → Option (Int32 × US)) : Nat → US → (Nat → Int32) → Int32 → Int32 → Int32 → Int32 → Int32 → Int32 → Int32 → Option (Int32 × US)
  | 0 => fun _ _ _ _ _ _ _ _ _ => none
  | k + 1 => fun q0 q1 q2 q3 q4 q5 q6 q7 q8 => b_X12_who_60 N g37 (f_X12_who_60 N g37 k) q0 q1 q2 q3 q4 q5 q6 q7 q8
def b_X12_who_37 (N : Nat) (g37 : US → (Nat → Int32) → Int32 → Int32 → Int32 → Int32 → Int32 → Option (Int32 × US)) (v_t : US) (v_t_now : Nat → Int32) (y1 : Int32) (y2 : Int32) (y3 : Int32) (y4 : Int32) (y5 : Int32) : Option (Int32 × US) :=
  (f_X12_errands v_t v_t_now).bind fun zr1 => if (1 <<< (zr1 &&& 31)) ≤ y5 then (if y2 = 0 then (some (y3, v_t)) else (some (y4, v_t))) else (if (27 : Int32) < 0 ∨ 63 ≤ (27 : Int32).toNatClampNeg then none else (f_X12_who_60 N g37 N v_t v_t_now y1 y2 y3 y4 y5 (v_t_now (27 : Int32).toNatClampNeg) 0))
def f_X12_who_37 (N : Nat)  : Nat → US → (Nat → Int32) → Int32 → Int32 → Int32 → Int32 → Int32 → Option (Int32 × US)
  | 0 => fun _ _ _ _ _ _ _ => none
  | k + 1 => fun q0 q1 q2 q3 q4 q5 q6 => b_X12_who_37 N  (f_X12_who_37 N  k) q0 q1 q2 q3 q4 q5 q6
def f_X12_who (N : Nat) (v_t : US) (v_t_now : Nat → Int32) (x1 : Int32) (x2 : Int32) : Option (Int32 × US) :=
  (f_X12_isSet v_t v_t_now x1).bind fun zr1 => if (b2i zr1) = 0 then (b_X12_who_18 N v_t v_t_now) else ((f_X12_in x2.toInt64 0 1).bind fun zr5 => if (b2i zr5) = 0 then (b_X12_who_18 N v_t v_t_now) else ((f_X12_takeNow N v_t v_t_now).bind fun zr9 => f_X12_who_37 N N zr9 v_t_now x1 x2 0 (-1) 0))
set_option maxRecDepth 100000 in
set_option maxHeartbeats 4000000 in
theorem w_X12_who_18 {p : Program} {l : Launch} {e : Env} {s : State} {m : MethodId} {args : Array Value} {below : List Frame} {meth : Method} {c : Code} {G : GG} {A : Nat → Prop} {o_t : Nat} {a_t : Nat → Nat} {N : Nat}  {v_t : US} {v_t_now : Nat → Int32}  {res : Int32 × US} (C : MC RX12 cX12_who 8 (some .int) G A p s m args meth c)  (hf : b_X12_who_18 N v_t v_t_now = some res) {H : Heap} {locs : List Loc} {ls : Array Slot} (h : HP G A s [uX12 G o_t a_t v_t, uA G 63 (a_t 0) v_t_now] H locs) (hl : lv_has ls 8 [(0, .ref o_t)]) : W p l e (rmm 6) s m args below meth c H locs 0 0 (QI below G A args s res.1 [uX12 G o_t a_t res.2, uA G 63 (a_t 0) v_t_now]) (F0 m 18 ls []) := by
  unfold b_X12_who_18 at hf
  refine lv_aload_n C.hx C.hb dX12_who_18 rfl (lv_at hl 0 rfl) ?_
  refine lv_bipush (v := (-10)) C.hx C.hb dX12_who_19 (by decide) ?_
  obtain ⟨zr1, zq2, hf⟩ := bd_some hf
  have zm3 := c_X12_bad l G o_t a_t (hf := zq2)
  refine g_goI C h zm3.1 (is := [0]) rfl rfl (g_runV C h (is := [0]) rfl rfl (As := [.int (-10)]) (rest := []) (zm3.2 _) vf_X12_60 0 0 rfl rfl hl.1 rfl rfl (Nat.le_of_ble_eq_true rfl) dX12_who_21 ⟨Nat.le_of_ble_eq_true rfl, Nat.le_of_ble_eq_true rfl⟩ ⟨Nat.le_refl _, Nat.le_refl _⟩) (us2 := [uX12 G o_t a_t zr1.2, uA G 63 (a_t 0) v_t_now]) rfl (fun H locs h => ?_)
  obtain rfl := Option.some.inj hf
  exact g_ret_i C h rfl rfl dX12_who_24
set_option maxRecDepth 100000 in
set_option maxHeartbeats 4000000 in
theorem w_X12_who_60 {p : Program} {l : Launch} {e : Env} {s : State} {m : MethodId} {args : Array Value} {below : List Frame} {meth : Method} {c : Code} {G : GG} {A : Nat → Prop} {o_t : Nat} {a_t : Nat → Nat} {N : Nat} {g37 : US → (Nat → Int32) → Int32 → Int32 → Int32 → Int32 → Int32 → Option (Int32 × US)} {g60 : US → (Nat → Int32) → Int32 → Int32 → Int32 → Int32 → Int32 → Int32 → Int32 → Option (Int32 × US)} {v_t : US} {v_t_now : Nat → Int32} {y1 : Int32} {y2 : Int32} {y3 : Int32} {y4 : Int32} {y5 : Int32} {y6 : Int32} {y7 : Int32} {res : Int32 × US} (C : MC RX12 cX12_who 8 (some .int) G A p s m args meth c) (hg37 : ∀ {v_t : US} {v_t_now : Nat → Int32} {y1 : Int32} {y2 : Int32} {y3 : Int32} {y4 : Int32} {y5 : Int32}, g37 v_t v_t_now y1 y2 y3 y4 y5 = some res → ∀ {H : Heap} {locs : List Loc} {ls : Array Slot}, HP G A s [uX12 G o_t a_t v_t, uA G 63 (a_t 0) v_t_now] H locs → lv_has ls 8 [(0, .ref o_t), (1, .int y1), (2, .int y2), (3, .int y3), (4, .int y4), (5, .int y5)] → W p l e (rmm 6) s m args below meth c H locs 0 0 (QI below G A args s res.1 [uX12 G o_t a_t res.2, uA G 63 (a_t 0) v_t_now]) (F0 m 37 ls [])) (hg60 : ∀ {v_t : US} {v_t_now : Nat → Int32} {y1 : Int32} {y2 : Int32} {y3 : Int32} {y4 : Int32} {y5 : Int32} {y6 : Int32} {y7 : Int32}, g60 v_t v_t_now y1 y2 y3 y4 y5 y6 y7 = some res → ∀ {H : Heap} {locs : List Loc} {ls : Array Slot}, HP G A s [uX12 G o_t a_t v_t, uA G 63 (a_t 0) v_t_now] H locs → lv_has ls 8 [(0, .ref o_t), (1, .int y1), (2, .int y2), (3, .int y3), (4, .int y4), (5, .int y5), (6, .int y6), (7, .int y7)] → W p l e (rmm 6) s m args below meth c H locs 0 0 (QI below G A args s res.1 [uX12 G o_t a_t res.2, uA G 63 (a_t 0) v_t_now]) (F0 m 60 ls [])) (hf : b_X12_who_60 N g37 g60 v_t v_t_now y1 y2 y3 y4 y5 y6 y7 = some res) {H : Heap} {locs : List Loc} {ls : Array Slot} (h : HP G A s [uX12 G o_t a_t v_t, uA G 63 (a_t 0) v_t_now] H locs) (hl : lv_has ls 8 [(0, .ref o_t), (1, .int y1), (2, .int y2), (3, .int y3), (4, .int y4), (5, .int y5), (6, .int y6), (7, .int y7)]) : W p l e (rmm 6) s m args below meth c H locs 0 0 (QI below G A args s res.1 [uX12 G o_t a_t res.2, uA G 63 (a_t 0) v_t_now]) (F0 m 60 ls []) := by
  unfold b_X12_who_60 at hf
  refine lv_iload C.hx C.hb dX12_who_60 (lv_at hl 7 rfl) ?_
  refine lv_aload_n C.hx C.hb dX12_who_62 rfl (lv_at hl 0 rfl) ?_
  obtain ⟨zr1, zq2, hf⟩ := bd_some hf
  have zm3 := c_X12_errands l G o_t a_t (hf := zq2)
  refine g_goI C h zm3.1 (is := [0, 1]) rfl rfl (g_runV C h (is := [0, 1]) rfl rfl (As := []) (rest := [.int y7]) (zm3.2 _) vf_X12_133 0 0 rfl rfl hl.1 rfl rfl (Nat.le_of_ble_eq_true rfl) dX12_who_63 ⟨Nat.le_of_ble_eq_true rfl, Nat.le_of_ble_eq_true rfl⟩ ⟨Nat.le_refl _, Nat.le_refl _⟩) (us2 := [uX12 G o_t a_t v_t, uA G 63 (a_t 0) v_t_now]) rfl (fun H locs h => ?_)
  refine lv_icmp_ge (tgt := 101) C.hx C.hb dX12_who_66 (by decide) (fun zc4 => ?_) (fun zc4 => ?_)
  · replace hf := it_t zc4 hf
    refine lv_iload C.hx C.hb dX12_who_101 (lv_at hl 6 rfl) ?_
    refine lv_iload_n C.hx C.hb dX12_who_103 rfl (lv_at hl 1 rfl) ?_
    refine lv_icmp_ne (tgt := 123) C.hx C.hb dX12_who_104 (by decide) (fun zc5 => ?_) (fun zc5 => ?_)
    · replace hf := it_f zc5 hf
      refine lv_iinc (v := y5 + 1) (lv' := [(5, .int (y5 + 1)), (0, .ref o_t), (1, .int y1), (2, .int y2), (3, .int y3), (4, .int y4), (6, .int y6), (7, .int y7)]) C.hx C.hb dX12_who_123 hl (k := 5) rfl rfl (by decide) rfl (fun ls hl => ?_)
      refine lv_goto (tgt := 37) C.hx C.hb dX12_who_126 (by decide) ?_
      exact hg37 hf h (lv_sub hl [1, 2, 3, 4, 5, 0] rfl)
    · replace hf := it_t zc5 hf
      refine lv_iload_n C.hx C.hb dX12_who_107 rfl (lv_at hl 3 rfl) ?_
      refine lv_if_ne (tgt := 116) C.hx C.hb dX12_who_108 (by decide) (fun zc6 => ?_) (fun zc6 => ?_)
      · replace hf := it_f zc6 hf
        refine lv_iload C.hx C.hb dX12_who_116 (lv_at hl 4 rfl) ?_
        refine lv_istore (lv' := [(4, .int y4), (0, .ref o_t), (1, .int y1), (2, .int y2), (3, .int y3), (5, .int y5), (6, .int y6), (7, .int y7)]) C.hx C.hb dX12_who_118 hl (by decide) rfl (fun ls hl => ?_)
        refine lv_iinc (v := y3 + 1) (lv' := [(3, .int (y3 + 1)), (4, .int y4), (0, .ref o_t), (1, .int y1), (2, .int y2), (5, .int y5), (6, .int y6), (7, .int y7)]) C.hx C.hb dX12_who_120 hl (k := 4) rfl rfl (by decide) rfl (fun ls hl => ?_)
        refine lv_iinc (v := y5 + 1) (lv' := [(5, .int (y5 + 1)), (3, .int (y3 + 1)), (4, .int y4), (0, .ref o_t), (1, .int y1), (2, .int y2), (6, .int y6), (7, .int y7)]) C.hx C.hb dX12_who_123 hl (k := 5) rfl rfl (by decide) rfl (fun ls hl => ?_)
        refine lv_goto (tgt := 37) C.hx C.hb dX12_who_126 (by decide) ?_
        exact hg37 hf h (lv_sub hl [3, 4, 5, 1, 2, 0] rfl)
      · replace hf := it_t zc6 hf
        refine lv_iload C.hx C.hb dX12_who_111 (lv_at hl 5 rfl) ?_
        refine lv_goto (tgt := 118) C.hx C.hb dX12_who_113 (by decide) ?_
        refine lv_istore (lv' := [(4, .int y5), (0, .ref o_t), (1, .int y1), (2, .int y2), (3, .int y3), (5, .int y5), (6, .int y6), (7, .int y7)]) C.hx C.hb dX12_who_118 hl (by decide) rfl (fun ls hl => ?_)
        refine lv_iinc (v := y3 + 1) (lv' := [(3, .int (y3 + 1)), (4, .int y5), (0, .ref o_t), (1, .int y1), (2, .int y2), (5, .int y5), (6, .int y6), (7, .int y7)]) C.hx C.hb dX12_who_120 hl (k := 4) rfl rfl (by decide) rfl (fun ls hl => ?_)
        refine lv_iinc (v := y5 + 1) (lv' := [(5, .int (y5 + 1)), (3, .int (y3 + 1)), (4, .int y5), (0, .ref o_t), (1, .int y1), (2, .int y2), (6, .int y6), (7, .int y7)]) C.hx C.hb dX12_who_123 hl (k := 5) rfl rfl (by decide) rfl (fun ls hl => ?_)
        refine lv_goto (tgt := 37) C.hx C.hb dX12_who_126 (by decide) ?_
        exact hg37 hf h (lv_sub hl [3, 4, 5, 1, 2, 0] rfl)
  · replace hf := it_f zc4 hf
    refine lv_iload C.hx C.hb dX12_who_69 (lv_at hl 5 rfl) ?_
    refine lv_iload C.hx C.hb dX12_who_71 (lv_at hl 7 rfl) ?_
    refine lv_ishr C.hx C.hb dX12_who_73 ?_
    refine lv_iconst (v := 1) C.hx C.hb dX12_who_74 (by decide) ?_
    refine lv_iand C.hx C.hb dX12_who_75 ?_
    refine lv_iconst (v := 1) C.hx C.hb dX12_who_76 (by decide) ?_
    refine lv_icmp_ne (tgt := 91) C.hx C.hb dX12_who_77 (by decide) (fun zc7 => ?_) (fun zc7 => ?_)
    · replace hf := it_f zc7 hf
      refine lv_iload C.hx C.hb dX12_who_91 (lv_at hl 6 rfl) ?_
      refine lv_istore (lv' := [(6, .int y6), (0, .ref o_t), (1, .int y1), (2, .int y2), (3, .int y3), (4, .int y4), (5, .int y5), (7, .int y7)]) C.hx C.hb dX12_who_93 hl (by decide) rfl (fun ls hl => ?_)
      refine lv_iinc (v := y7 + 1) (lv' := [(7, .int (y7 + 1)), (6, .int y6), (0, .ref o_t), (1, .int y1), (2, .int y2), (3, .int y3), (4, .int y4), (5, .int y5)]) C.hx C.hb dX12_who_95 hl (k := 7) rfl rfl (by decide) rfl (fun ls hl => ?_)
      refine lv_goto (tgt := 60) C.hx C.hb dX12_who_98 (by decide) ?_
      exact hg60 hf h (lv_sub hl [2, 3, 4, 5, 6, 7, 1, 0] rfl)
    · replace hf := it_t zc7 hf
      refine lv_aload_n C.hx C.hb dX12_who_80 rfl (lv_at hl 0 rfl) ?_
      refine lv_iload C.hx C.hb dX12_who_81 (lv_at hl 7 rfl) ?_
      refine lv_iload C.hx C.hb dX12_who_83 (lv_at hl 6 rfl) ?_
      obtain ⟨zr8, zq9, hf⟩ := bd_some hf
      have zm10 := c_X12_doErrand l G o_t a_t N (hf := zq9)
      refine g_goI C h zm10.1 (is := [0, 1]) rfl rfl (g_runV C h (is := [0, 1]) rfl rfl (As := [.int y7, .int y6]) (rest := []) (zm10.2 _) vf_X12_139 0 0 rfl rfl hl.1 rfl rfl (Nat.le_of_ble_eq_true rfl) dX12_who_85 ⟨Nat.le_of_ble_eq_true rfl, Nat.le_of_ble_eq_true rfl⟩ ⟨Nat.le_refl _, Nat.le_refl _⟩) (us2 := [uX12 G o_t a_t zr8.2, uA G 63 (a_t 0) v_t_now]) rfl (fun H locs h => ?_)
      refine lv_goto (tgt := 93) C.hx C.hb dX12_who_88 (by decide) ?_
      refine lv_istore (lv' := [(6, .int zr8.1), (0, .ref o_t), (1, .int y1), (2, .int y2), (3, .int y3), (4, .int y4), (5, .int y5), (7, .int y7)]) C.hx C.hb dX12_who_93 hl (by decide) rfl (fun ls hl => ?_)
      refine lv_iinc (v := y7 + 1) (lv' := [(7, .int (y7 + 1)), (6, .int zr8.1), (0, .ref o_t), (1, .int y1), (2, .int y2), (3, .int y3), (4, .int y4), (5, .int y5)]) C.hx C.hb dX12_who_95 hl (k := 7) rfl rfl (by decide) rfl (fun ls hl => ?_)
      refine lv_goto (tgt := 60) C.hx C.hb dX12_who_98 (by decide) ?_
      exact hg60 hf h (lv_sub hl [2, 3, 4, 5, 6, 7, 1, 0] rfl)
set_option maxRecDepth 100000 in
set_option maxHeartbeats 4000000 in
theorem l_X12_who_60 {p : Program} {l : Launch} {e : Env} {s : State} {m : MethodId} {args : Array Value} {below : List Frame} {meth : Method} {c : Code} {G : GG} {A : Nat → Prop} {o_t : Nat} {a_t : Nat → Nat} {N : Nat} {g37 : US → (Nat → Int32) → Int32 → Int32 → Int32 → Int32 → Int32 → Option (Int32 × US)} {res : Int32 × US} (C : MC RX12 cX12_who 8 (some .int) G A p s m args meth c) (hg37 : ∀ {v_t : US} {v_t_now : Nat → Int32} {y1 : Int32} {y2 : Int32} {y3 : Int32} {y4 : Int32} {y5 : Int32}, g37 v_t v_t_now y1 y2 y3 y4 y5 = some res → ∀ {H : Heap} {locs : List Loc} {ls : Array Slot}, HP G A s [uX12 G o_t a_t v_t, uA G 63 (a_t 0) v_t_now] H locs → lv_has ls 8 [(0, .ref o_t), (1, .int y1), (2, .int y2), (3, .int y3), (4, .int y4), (5, .int y5)] → W p l e (rmm 6) s m args below meth c H locs 0 0 (QI below G A args s res.1 [uX12 G o_t a_t res.2, uA G 63 (a_t 0) v_t_now]) (F0 m 37 ls [])) : ∀ (k : Nat) {v_t : US} {v_t_now : Nat → Int32} {y1 : Int32} {y2 : Int32} {y3 : Int32} {y4 : Int32} {y5 : Int32} {y6 : Int32} {y7 : Int32}, f_X12_who_60 N g37 k v_t v_t_now y1 y2 y3 y4 y5 y6 y7 = some res → ∀ {H : Heap} {locs : List Loc} {ls : Array Slot}, HP G A s [uX12 G o_t a_t v_t, uA G 63 (a_t 0) v_t_now] H locs → lv_has ls 8 [(0, .ref o_t), (1, .int y1), (2, .int y2), (3, .int y3), (4, .int y4), (5, .int y5), (6, .int y6), (7, .int y7)] → W p l e (rmm 6) s m args below meth c H locs 0 0 (QI below G A args s res.1 [uX12 G o_t a_t res.2, uA G 63 (a_t 0) v_t_now]) (F0 m 60 ls []) := by
  intro k
  induction k with
  | zero => intros; contradiction
  | succ k ih =>
    intro v_t v_t_now y1 y2 y3 y4 y5 y6 y7 hf H locs ls h hl
    exact w_X12_who_60 (N := N) C hg37 ih hf h hl
set_option maxRecDepth 100000 in
set_option maxHeartbeats 4000000 in
theorem w_X12_who_37 {p : Program} {l : Launch} {e : Env} {s : State} {m : MethodId} {args : Array Value} {below : List Frame} {meth : Method} {c : Code} {G : GG} {A : Nat → Prop} {o_t : Nat} {a_t : Nat → Nat} {N : Nat} {g37 : US → (Nat → Int32) → Int32 → Int32 → Int32 → Int32 → Int32 → Option (Int32 × US)} {v_t : US} {v_t_now : Nat → Int32} {y1 : Int32} {y2 : Int32} {y3 : Int32} {y4 : Int32} {y5 : Int32} {res : Int32 × US} (C : MC RX12 cX12_who 8 (some .int) G A p s m args meth c) (hg37 : ∀ {v_t : US} {v_t_now : Nat → Int32} {y1 : Int32} {y2 : Int32} {y3 : Int32} {y4 : Int32} {y5 : Int32}, g37 v_t v_t_now y1 y2 y3 y4 y5 = some res → ∀ {H : Heap} {locs : List Loc} {ls : Array Slot}, HP G A s [uX12 G o_t a_t v_t, uA G 63 (a_t 0) v_t_now] H locs → lv_has ls 8 [(0, .ref o_t), (1, .int y1), (2, .int y2), (3, .int y3), (4, .int y4), (5, .int y5)] → W p l e (rmm 6) s m args below meth c H locs 0 0 (QI below G A args s res.1 [uX12 G o_t a_t res.2, uA G 63 (a_t 0) v_t_now]) (F0 m 37 ls [])) (hf : b_X12_who_37 N g37 v_t v_t_now y1 y2 y3 y4 y5 = some res) {H : Heap} {locs : List Loc} {ls : Array Slot} (h : HP G A s [uX12 G o_t a_t v_t, uA G 63 (a_t 0) v_t_now] H locs) (hl : lv_has ls 8 [(0, .ref o_t), (1, .int y1), (2, .int y2), (3, .int y3), (4, .int y4), (5, .int y5)]) : W p l e (rmm 6) s m args below meth c H locs 0 0 (QI below G A args s res.1 [uX12 G o_t a_t res.2, uA G 63 (a_t 0) v_t_now]) (F0 m 37 ls []) := by
  unfold b_X12_who_37 at hf
  refine lv_iload C.hx C.hb dX12_who_37 (lv_at hl 5 rfl) ?_
  refine lv_iconst (v := 1) C.hx C.hb dX12_who_39 (by decide) ?_
  refine lv_aload_n C.hx C.hb dX12_who_40 rfl (lv_at hl 0 rfl) ?_
  obtain ⟨zr1, zq2, hf⟩ := bd_some hf
  have zm3 := c_X12_errands l G o_t a_t (hf := zq2)
  refine g_goI C h zm3.1 (is := [0, 1]) rfl rfl (g_runV C h (is := [0, 1]) rfl rfl (As := []) (rest := [.int 1, .int y5]) (zm3.2 _) vf_X12_133 0 0 rfl rfl hl.1 rfl rfl (Nat.le_of_ble_eq_true rfl) dX12_who_41 ⟨Nat.le_of_ble_eq_true rfl, Nat.le_of_ble_eq_true rfl⟩ ⟨Nat.le_refl _, Nat.le_refl _⟩) (us2 := [uX12 G o_t a_t v_t, uA G 63 (a_t 0) v_t_now]) rfl (fun H locs h => ?_)
  refine lv_ishl C.hx C.hb dX12_who_44 ?_
  refine lv_icmp_ge (tgt := 129) C.hx C.hb dX12_who_45 (by decide) (fun zc4 => ?_) (fun zc4 => ?_)
  · replace hf := it_t zc4 hf
    refine lv_iload_n C.hx C.hb dX12_who_129 rfl (lv_at hl 2 rfl) ?_
    refine lv_if_ne (tgt := 137) C.hx C.hb dX12_who_130 (by decide) (fun zc5 => ?_) (fun zc5 => ?_)
    · replace hf := it_f zc5 hf
      refine lv_iload C.hx C.hb dX12_who_137 (lv_at hl 4 rfl) ?_
      obtain rfl := Option.some.inj hf
      exact g_ret_i C h rfl rfl dX12_who_139
    · replace hf := it_t zc5 hf
      refine lv_iload_n C.hx C.hb dX12_who_133 rfl (lv_at hl 3 rfl) ?_
      refine lv_goto (tgt := 139) C.hx C.hb dX12_who_134 (by decide) ?_
      obtain rfl := Option.some.inj hf
      exact g_ret_i C h rfl rfl dX12_who_139
  · replace hf := it_f zc4 hf
    refine lv_aload_n C.hx C.hb dX12_who_48 rfl (lv_at hl 0 rfl) ?_
    refine g_get C h fl_X12_7 0 0 rfl rfl (v := .ref (a_t 0)) rfl dX12_who_49 ?_
    refine lv_bipush (v := 27) C.hx C.hb dX12_who_52 (by decide) ?_
    obtain ⟨zi6, hf⟩ := ck_some hf
    refine g_iald C h 1 0 rfl rfl (f := v_t_now) zi6 dX12_who_54 ?_
    refine lv_istore (lv' := [(6, .int (v_t_now (27 : Int32).toNatClampNeg)), (0, .ref o_t), (1, .int y1), (2, .int y2), (3, .int y3), (4, .int y4), (5, .int y5)]) C.hx C.hb dX12_who_55 hl (by decide) rfl (fun ls hl => ?_)
    refine lv_iconst (v := 0) C.hx C.hb dX12_who_57 (by decide) ?_
    refine lv_istore (lv' := [(7, .int 0), (6, .int (v_t_now (27 : Int32).toNatClampNeg)), (0, .ref o_t), (1, .int y1), (2, .int y2), (3, .int y3), (4, .int y4), (5, .int y5)]) C.hx C.hb dX12_who_58 hl (by decide) rfl (fun ls hl => ?_)
    exact l_X12_who_60 C hg37 N hf h (lv_sub hl [2, 3, 4, 5, 6, 7, 1, 0] rfl)
set_option maxRecDepth 100000 in
set_option maxHeartbeats 4000000 in
theorem l_X12_who_37 {p : Program} {l : Launch} {e : Env} {s : State} {m : MethodId} {args : Array Value} {below : List Frame} {meth : Method} {c : Code} {G : GG} {A : Nat → Prop} {o_t : Nat} {a_t : Nat → Nat} {N : Nat}  {res : Int32 × US} (C : MC RX12 cX12_who 8 (some .int) G A p s m args meth c)  : ∀ (k : Nat) {v_t : US} {v_t_now : Nat → Int32} {y1 : Int32} {y2 : Int32} {y3 : Int32} {y4 : Int32} {y5 : Int32}, f_X12_who_37 N k v_t v_t_now y1 y2 y3 y4 y5 = some res → ∀ {H : Heap} {locs : List Loc} {ls : Array Slot}, HP G A s [uX12 G o_t a_t v_t, uA G 63 (a_t 0) v_t_now] H locs → lv_has ls 8 [(0, .ref o_t), (1, .int y1), (2, .int y2), (3, .int y3), (4, .int y4), (5, .int y5)] → W p l e (rmm 6) s m args below meth c H locs 0 0 (QI below G A args s res.1 [uX12 G o_t a_t res.2, uA G 63 (a_t 0) v_t_now]) (F0 m 37 ls []) := by
  intro k
  induction k with
  | zero => intros; contradiction
  | succ k ih =>
    intro v_t v_t_now y1 y2 y3 y4 y5 hf H locs ls h hl
    exact w_X12_who_37 (N := N) C ih hf h hl
set_option maxRecDepth 100000 in
set_option maxHeartbeats 4000000 in
theorem c_X12_who (l : Launch) (G : GG) (o_t : Nat) (a_t : Nat → Nat) (N : Nat) {v_t : US} {v_t_now : Nat → Int32} {x1 : Int32} {x2 : Int32} {res : Int32 × US} (hf : f_X12_who N v_t v_t_now x1 x2 = some res) : MI l yX12_who cX12_who 8 (some .int) 6 [.ref o_t, .int x1, .int x2] G [uX12 G o_t a_t v_t, uA G 63 (a_t 0) v_t_now] res.1 [uX12 G o_t a_t res.2, uA G 63 (a_t 0) v_t_now] := by
  unfold f_X12_who at hf
  refine MI.intro (by decide) rfl (Nat.le_of_ble_eq_true rfl) (fun p e s m args below meth c A ls C h hl => ?_)
  have C : MC RX12 cX12_who 8 (some .int) G A p s m args meth c := C
  have hl : lv_has ls 8 [(0, .ref o_t), (1, .int x1), (2, .int x2)] := hl
  refine lv_aload_n C.hx C.hb dX12_who_0 rfl (lv_at hl 0 rfl) ?_
  refine lv_iload_n C.hx C.hb dX12_who_1 rfl (lv_at hl 1 rfl) ?_
  obtain ⟨zr1, zq2, hf⟩ := bd_some hf
  have zm3 := c_X12_isSet l G o_t a_t (hf := zq2)
  refine g_goI C h zm3.1 (is := [0, 1]) rfl rfl (g_runV C h (is := [0, 1]) rfl rfl (As := [.int x1]) (rest := []) (zm3.2 _) vf_X12_158 0 0 rfl rfl hl.1 rfl rfl (Nat.le_of_ble_eq_true rfl) dX12_who_2 ⟨Nat.le_of_ble_eq_true rfl, Nat.le_of_ble_eq_true rfl⟩ ⟨Nat.le_refl _, Nat.le_refl _⟩) (us2 := [uX12 G o_t a_t v_t, uA G 63 (a_t 0) v_t_now]) rfl (fun H locs h => ?_)
  refine lv_if_eq (tgt := 18) C.hx C.hb dX12_who_5 (by decide) (fun zc4 => ?_) (fun zc4 => ?_)
  · replace hf := it_t zc4 hf
    exact w_X12_who_18 C  hf h (lv_sub hl [0] rfl)
  · replace hf := it_f zc4 hf
    refine lv_iload_n C.hx C.hb dX12_who_8 rfl (lv_at hl 2 rfl) ?_
    refine lv_i2l C.hx C.hb dX12_who_9 rfl ?_
    refine lv_lconst (v := 0) C.hx C.hb dX12_who_10 (by decide) ?_
    refine lv_lconst (v := 1) C.hx C.hb dX12_who_11 (by decide) ?_
    obtain ⟨zr5, zq6, hf⟩ := bd_some hf
    have zm7 := c_X12_in l G  (hf := zq6)
    refine g_goI C h zm7.1 (is := []) rfl rfl (g_runS C h (is := []) rfl rfl (As := [.long x2.toInt64, .long 0, .long 1]) (rest := []) (zm7.2 _) sf_X12_52 hl.1 rfl rfl (Nat.le_of_ble_eq_true rfl) dX12_who_12 ⟨Nat.le_of_ble_eq_true rfl, Nat.le_of_ble_eq_true rfl⟩ ⟨Nat.le_refl _, Nat.le_refl _⟩) (us2 := [uX12 G o_t a_t v_t, uA G 63 (a_t 0) v_t_now]) rfl (fun H locs h => ?_)
    refine lv_if_ne (tgt := 25) C.hx C.hb dX12_who_15 (by decide) (fun zc8 => ?_) (fun zc8 => ?_)
    · replace hf := it_f zc8 hf
      refine lv_aload_n C.hx C.hb dX12_who_25 rfl (lv_at hl 0 rfl) ?_
      obtain ⟨zr9, zq10, hf⟩ := bd_some hf
      have zm11 := c_X12_takeNow l G o_t a_t N (hf := zq10)
      refine g_goV C h zm11.1 (is := [0, 1]) rfl rfl (g_runV C h (is := [0, 1]) rfl rfl (As := []) (rest := []) (zm11.2 _) vf_X12_123 0 0 rfl rfl hl.1 rfl rfl (Nat.le_of_ble_eq_true rfl) dX12_who_26 ⟨Nat.le_of_ble_eq_true rfl, Nat.le_of_ble_eq_true rfl⟩ ⟨Nat.le_refl _, Nat.le_refl _⟩) (us2 := [uX12 G o_t a_t zr9, uA G 63 (a_t 0) v_t_now]) rfl (fun H locs h => ?_)
      refine lv_iconst (v := 0) C.hx C.hb dX12_who_29 (by decide) ?_
      refine lv_istore_n (lv' := [(3, .int 0), (0, .ref o_t), (1, .int x1), (2, .int x2)]) C.hx C.hb dX12_who_30 rfl hl (by decide) rfl (fun ls hl => ?_)
      refine lv_iconst (v := (-1)) C.hx C.hb dX12_who_31 (by decide) ?_
      refine lv_istore (lv' := [(4, .int (-1)), (3, .int 0), (0, .ref o_t), (1, .int x1), (2, .int x2)]) C.hx C.hb dX12_who_32 hl (by decide) rfl (fun ls hl => ?_)
      refine lv_iconst (v := 0) C.hx C.hb dX12_who_34 (by decide) ?_
      refine lv_istore (lv' := [(5, .int 0), (4, .int (-1)), (3, .int 0), (0, .ref o_t), (1, .int x1), (2, .int x2)]) C.hx C.hb dX12_who_35 hl (by decide) rfl (fun ls hl => ?_)
      exact l_X12_who_37 C N hf h (lv_sub hl [3, 4, 5, 2, 1, 0] rfl)
    · replace hf := it_t zc8 hf
      exact w_X12_who_18 C  hf h (lv_sub hl [0] rfl)

def f_X12_would (N : Nat) (v_t : US) (v_t_now : Nat → Int32) (x1 : Int32) (x2 : Int32) : Option (Int32 × US) :=
  (f_X12_isPull v_t v_t_now x1 x2).bind fun zr1 => if (b2i zr1) = 0 then ((f_X12_bad v_t (-2)).bind fun zr15 => some (zr15.1, zr15.2)) else ((f_X12_takeNow N v_t v_t_now).bind fun zr5 => (f_X12_onePull zr5 x1 x2).bind fun zr8 => if (27 : Int32) < 0 ∨ 63 ≤ (27 : Int32).toNatClampNeg then none else ((f_X12_behind N zr8 v_t_now (v_t_now (27 : Int32).toNatClampNeg)).bind fun zr12 => some (zr12, zr8)))
set_option maxRecDepth 100000 in
set_option maxHeartbeats 4000000 in
theorem c_X12_would (l : Launch) (G : GG) (o_t : Nat) (a_t : Nat → Nat) (N : Nat) {v_t : US} {v_t_now : Nat → Int32} {x1 : Int32} {x2 : Int32} {res : Int32 × US} (hf : f_X12_would N v_t v_t_now x1 x2 = some res) : MI l yX12_would cX12_would 3 (some .int) 5 [.ref o_t, .int x1, .int x2] G [uX12 G o_t a_t v_t, uA G 63 (a_t 0) v_t_now] res.1 [uX12 G o_t a_t res.2, uA G 63 (a_t 0) v_t_now] := by
  unfold f_X12_would at hf
  refine MI.intro (by decide) rfl (Nat.le_of_ble_eq_true rfl) (fun p e s m args below meth c A ls C h hl => ?_)
  have C : MC RX12 cX12_would 3 (some .int) G A p s m args meth c := C
  have hl : lv_has ls 3 [(0, .ref o_t), (1, .int x1), (2, .int x2)] := hl
  refine lv_aload_n C.hx C.hb dX12_would_0 rfl (lv_at hl 0 rfl) ?_
  refine lv_iload_n C.hx C.hb dX12_would_1 rfl (lv_at hl 1 rfl) ?_
  refine lv_iload_n C.hx C.hb dX12_would_2 rfl (lv_at hl 2 rfl) ?_
  obtain ⟨zr1, zq2, hf⟩ := bd_some hf
  have zm3 := c_X12_isPull l G o_t a_t (hf := zq2)
  refine g_goI C h zm3.1 (is := [0, 1]) rfl rfl (g_runV C h (is := [0, 1]) rfl rfl (As := [.int x1, .int x2]) (rest := []) (zm3.2 _) vf_X12_119 0 0 rfl rfl hl.1 rfl rfl (Nat.le_of_ble_eq_true rfl) dX12_would_3 ⟨Nat.le_of_ble_eq_true rfl, Nat.le_of_ble_eq_true rfl⟩ ⟨Nat.le_refl _, Nat.le_refl _⟩) (us2 := [uX12 G o_t a_t v_t, uA G 63 (a_t 0) v_t_now]) rfl (fun H locs h => ?_)
  refine lv_if_ne (tgt := 16) C.hx C.hb dX12_would_6 (by decide) (fun zc4 => ?_) (fun zc4 => ?_)
  · replace hf := it_f zc4 hf
    refine lv_aload_n C.hx C.hb dX12_would_16 rfl (lv_at hl 0 rfl) ?_
    obtain ⟨zr5, zq6, hf⟩ := bd_some hf
    have zm7 := c_X12_takeNow l G o_t a_t N (hf := zq6)
    refine g_goV C h zm7.1 (is := [0, 1]) rfl rfl (g_runV C h (is := [0, 1]) rfl rfl (As := []) (rest := []) (zm7.2 _) vf_X12_123 0 0 rfl rfl hl.1 rfl rfl (Nat.le_of_ble_eq_true rfl) dX12_would_17 ⟨Nat.le_of_ble_eq_true rfl, Nat.le_of_ble_eq_true rfl⟩ ⟨Nat.le_refl _, Nat.le_refl _⟩) (us2 := [uX12 G o_t a_t zr5, uA G 63 (a_t 0) v_t_now]) rfl (fun H locs h => ?_)
    refine lv_aload_n C.hx C.hb dX12_would_20 rfl (lv_at hl 0 rfl) ?_
    refine lv_iload_n C.hx C.hb dX12_would_21 rfl (lv_at hl 1 rfl) ?_
    refine lv_iload_n C.hx C.hb dX12_would_22 rfl (lv_at hl 2 rfl) ?_
    obtain ⟨zr8, zq9, hf⟩ := bd_some hf
    have zm10 := c_X12_onePull l G o_t a_t (hf := zq9)
    refine g_goV C h zm10.1 (is := [0]) rfl rfl (g_runV C h (is := [0]) rfl rfl (As := [.int x1, .int x2]) (rest := []) (zm10.2 _) vf_X12_126 0 0 rfl rfl hl.1 rfl rfl (Nat.le_of_ble_eq_true rfl) dX12_would_23 ⟨Nat.le_of_ble_eq_true rfl, Nat.le_of_ble_eq_true rfl⟩ ⟨Nat.le_refl _, Nat.le_refl _⟩) (us2 := [uX12 G o_t a_t zr8, uA G 63 (a_t 0) v_t_now]) rfl (fun H locs h => ?_)
    refine lv_aload_n C.hx C.hb dX12_would_26 rfl (lv_at hl 0 rfl) ?_
    refine lv_aload_n C.hx C.hb dX12_would_27 rfl (lv_at hl 0 rfl) ?_
    refine g_get C h fl_X12_7 0 0 rfl rfl (v := .ref (a_t 0)) rfl dX12_would_28 ?_
    refine lv_bipush (v := 27) C.hx C.hb dX12_would_31 (by decide) ?_
    obtain ⟨zi11, hf⟩ := ck_some hf
    refine g_iald C h 1 0 rfl rfl (f := v_t_now) zi11 dX12_would_33 ?_
    obtain ⟨zr12, zq13, hf⟩ := bd_some hf
    have zm14 := c_X12_behind l G o_t a_t N (hf := zq13)
    refine g_goI C h zm14.1 (is := [0, 1]) rfl rfl (g_runV C h (is := [0, 1]) rfl rfl (As := [.int (v_t_now (27 : Int32).toNatClampNeg)]) (rest := []) (zm14.2 _) vf_X12_114 0 0 rfl rfl hl.1 rfl rfl (Nat.le_of_ble_eq_true rfl) dX12_would_34 ⟨Nat.le_of_ble_eq_true rfl, Nat.le_of_ble_eq_true rfl⟩ ⟨Nat.le_refl _, Nat.le_refl _⟩) (us2 := [uX12 G o_t a_t zr8, uA G 63 (a_t 0) v_t_now]) rfl (fun H locs h => ?_)
    obtain rfl := Option.some.inj hf
    exact g_ret_i C h rfl rfl dX12_would_37
  · replace hf := it_t zc4 hf
    refine lv_aload_n C.hx C.hb dX12_would_9 rfl (lv_at hl 0 rfl) ?_
    refine lv_bipush (v := (-2)) C.hx C.hb dX12_would_10 (by decide) ?_
    obtain ⟨zr15, zq16, hf⟩ := bd_some hf
    have zm17 := c_X12_bad l G o_t a_t (hf := zq16)
    refine g_goI C h zm17.1 (is := [0]) rfl rfl (g_runV C h (is := [0]) rfl rfl (As := [.int (-2)]) (rest := []) (zm17.2 _) vf_X12_60 0 0 rfl rfl hl.1 rfl rfl (Nat.le_of_ble_eq_true rfl) dX12_would_12 ⟨Nat.le_of_ble_eq_true rfl, Nat.le_of_ble_eq_true rfl⟩ ⟨Nat.le_refl _, Nat.le_refl _⟩) (us2 := [uX12 G o_t a_t zr15.2, uA G 63 (a_t 0) v_t_now]) rfl (fun H locs h => ?_)
    obtain rfl := Option.some.inj hf
    exact g_ret_i C h rfl rfl dX12_would_15
