def f_X9_slackInDamp (v_t : US) (x1 : Int32) : Option (Int32) :=
  if x1 < 0 ∨ 5 ≤ x1.toNatClampNeg then none else (some (if 0 < (((v_t.2.2 2) x1.toNatClampNeg) - (v_t.1 6)) then (((v_t.2.2 2) x1.toNatClampNeg) - (v_t.1 6)) else 0))
set_option maxRecDepth 100000 in
set_option maxHeartbeats 4000000 in
theorem c_X9_slackInDamp (l : Launch) (G : GG) (o_t : Nat) (a_t : Nat → Nat) {v_t : US} {x1 : Int32} {res : Int32} (hf : f_X9_slackInDamp v_t x1 = some res) : MI l yX9_slackInDamp cX9_slackInDamp 2 (some .int) 1 [.ref o_t, .int x1] G [uX9 G o_t a_t v_t] res [uX9 G o_t a_t v_t] := by
  unfold f_X9_slackInDamp at hf
  refine MI.intro (by decide) rfl (Nat.le_of_ble_eq_true rfl) (fun p e s m args below meth c A ls C h hl => ?_)
  have C : MC RX9 cX9_slackInDamp 2 (some .int) G A p s m args meth c := C
  have hl : lv_has ls 2 [(0, .ref o_t), (1, .int x1)] := hl
  refine lv_iconst (v := 0) C.hx C.hb dX9_slackInDamp_0 (by decide) ?_
  refine lv_aload_n C.hx C.hb dX9_slackInDamp_1 rfl (lv_at hl 0 rfl) ?_
  refine g_get C h fl_X9_19 0 0 rfl rfl (v := .ref (a_t 2)) rfl dX9_slackInDamp_2 ?_
  refine lv_iload_n C.hx C.hb dX9_slackInDamp_5 rfl (lv_at hl 1 rfl) ?_
  obtain ⟨zi1, hf⟩ := ck_some hf
  refine g_iald C h 0 2 rfl rfl (f := v_t.2.2 2) zi1 dX9_slackInDamp_6 ?_
  refine lv_aload_n C.hx C.hb dX9_slackInDamp_7 rfl (lv_at hl 0 rfl) ?_
  refine g_get C h fl_X9_31 0 0 rfl rfl (v := .int (v_t.1 6)) rfl dX9_slackInDamp_8 ?_
  refine lv_isub C.hx C.hb dX9_slackInDamp_11 ?_
  refine g_max C hl.1 ml_X9_74 ms_max mi_math mc_max (Nat.le_of_ble_eq_true rfl) (Nat.le_of_ble_eq_true rfl) ⟨Nat.le_refl _, Nat.le_refl _⟩ dX9_slackInDamp_12 (v := if 0 < (((v_t.2.2 2) x1.toNatClampNeg) - (v_t.1 6)) then (((v_t.2.2 2) x1.toNatClampNeg) - (v_t.1 6)) else 0) rfl ?_
  obtain rfl := Option.some.inj hf
  exact g_ret_i C h rfl rfl dX9_slackInDamp_15

def f_X8_moveOf (v_t : US) (v_p1 : US) (x2 : Int32) (x3 : Int32) : Option (Int32) :=
  if x3 = (v_t.1 1) then (some (v_t.1 2)) else (if x3 = (v_t.1 3) then (some (v_t.1 4)) else ((f_X11_has x2 x3).bind fun zr3 => if (b2i zr3) = 0 then (some (0)) else ((f_X9_slackInDamp v_p1 x3).bind fun zr7 => some (if 0 < ((v_t.1 5) - zr7) then ((v_t.1 5) - zr7) else 0))))
set_option maxRecDepth 100000 in
set_option maxHeartbeats 4000000 in
theorem c_X8_moveOf (l : Launch) (G : GG) (o_t o_p1 : Nat) (a_p1 a_t : Nat → Nat) {v_t : US} {v_p1 : US} {x2 : Int32} {x3 : Int32} {res : Int32} (hf : f_X8_moveOf v_t v_p1 x2 x3 = some res) : MI l yX8_moveOf cX8_moveOf 4 (some .int) 2 [.ref o_t, .ref o_p1, .int x2, .int x3] G [uX8 G o_t a_t v_t, uX9 G o_p1 a_p1 v_p1] res [uX8 G o_t a_t v_t, uX9 G o_p1 a_p1 v_p1] := by
  unfold f_X8_moveOf at hf
  refine MI.intro (by decide) rfl (Nat.le_of_ble_eq_true rfl) (fun p e s m args below meth c A ls C h hl => ?_)
  have C : MC RX8 cX8_moveOf 4 (some .int) G A p s m args meth c := C
  have hl : lv_has ls 4 [(0, .ref o_t), (1, .ref o_p1), (2, .int x2), (3, .int x3)] := hl
  refine lv_iload_n C.hx C.hb dX8_moveOf_0 rfl (lv_at hl 3 rfl) ?_
  refine lv_aload_n C.hx C.hb dX8_moveOf_1 rfl (lv_at hl 0 rfl) ?_
  refine g_get C h fl_X8_9 0 0 rfl rfl (v := .int (v_t.1 1)) rfl dX8_moveOf_2 ?_
  refine lv_icmp_ne (tgt := 13) C.hx C.hb dX8_moveOf_5 (by decide) (fun zc1 => ?_) (fun zc1 => ?_)
  · replace hf := it_f zc1 hf
    refine lv_iload_n C.hx C.hb dX8_moveOf_13 rfl (lv_at hl 3 rfl) ?_
    refine lv_aload_n C.hx C.hb dX8_moveOf_14 rfl (lv_at hl 0 rfl) ?_
    refine g_get C h fl_X8_18 0 0 rfl rfl (v := .int (v_t.1 3)) rfl dX8_moveOf_15 ?_
    refine lv_icmp_ne (tgt := 26) C.hx C.hb dX8_moveOf_18 (by decide) (fun zc2 => ?_) (fun zc2 => ?_)
    · replace hf := it_f zc2 hf
      refine lv_iload_n C.hx C.hb dX8_moveOf_26 rfl (lv_at hl 2 rfl) ?_
      refine lv_iload_n C.hx C.hb dX8_moveOf_27 rfl (lv_at hl 3 rfl) ?_
      obtain ⟨zr3, zq4, hf⟩ := bd_some hf
      have zm5 := c_X11_has l G  (hf := zq4)
      refine g_goI C h zm5.1 (is := []) rfl rfl (g_runN C h (is := []) rfl rfl (As := [.int x2, .int x3]) (rest := []) (zm5.2 _) nf_X8_69 hl.1 rfl rfl (Nat.le_of_ble_eq_true rfl) dX8_moveOf_28 ⟨Nat.le_of_ble_eq_true rfl, Nat.le_of_ble_eq_true rfl⟩ ⟨Nat.le_refl _, Nat.le_refl _⟩) (us2 := [uX8 G o_t a_t v_t, uX9 G o_p1 a_p1 v_p1]) rfl (fun H locs h => ?_)
      refine lv_if_ne (tgt := 36) C.hx C.hb dX8_moveOf_31 (by decide) (fun zc6 => ?_) (fun zc6 => ?_)
      · replace hf := it_f zc6 hf
        refine lv_iconst (v := 0) C.hx C.hb dX8_moveOf_36 (by decide) ?_
        refine lv_aload_n C.hx C.hb dX8_moveOf_37 rfl (lv_at hl 0 rfl) ?_
        refine g_get C h fl_X8_24 0 0 rfl rfl (v := .int (v_t.1 5)) rfl dX8_moveOf_38 ?_
        refine lv_aload_n C.hx C.hb dX8_moveOf_41 rfl (lv_at hl 1 rfl) ?_
        refine lv_iload_n C.hx C.hb dX8_moveOf_42 rfl (lv_at hl 3 rfl) ?_
        obtain ⟨zr7, zq8, hf⟩ := bd_some hf
        have zm9 := c_X9_slackInDamp l G o_p1 a_p1 (hf := zq8)
        refine g_goI C h zm9.1 (is := [1]) rfl rfl (g_runV C h (is := [1]) rfl rfl (As := [.int x3]) (rest := [.int (v_t.1 5), .int 0]) (zm9.2 _) vf_X8_73 1 0 rfl rfl hl.1 rfl rfl (Nat.le_of_ble_eq_true rfl) dX8_moveOf_43 ⟨Nat.le_of_ble_eq_true rfl, Nat.le_of_ble_eq_true rfl⟩ ⟨Nat.le_refl _, Nat.le_refl _⟩) (us2 := [uX8 G o_t a_t v_t, uX9 G o_p1 a_p1 v_p1]) rfl (fun H locs h => ?_)
        refine lv_isub C.hx C.hb dX8_moveOf_46 ?_
        refine g_max C hl.1 ml_X8_77 ms_max mi_math mc_max (Nat.le_of_ble_eq_true rfl) (Nat.le_of_ble_eq_true rfl) ⟨Nat.le_refl _, Nat.le_refl _⟩ dX8_moveOf_47 (v := if 0 < ((v_t.1 5) - zr7) then ((v_t.1 5) - zr7) else 0) rfl ?_
        obtain rfl := Option.some.inj hf
        exact g_ret_i C h rfl rfl dX8_moveOf_50
      · replace hf := it_t zc6 hf
        refine lv_iconst (v := 0) C.hx C.hb dX8_moveOf_34 (by decide) ?_
        obtain rfl := Option.some.inj hf
        exact g_ret_i C h rfl rfl dX8_moveOf_35
    · replace hf := it_t zc2 hf
      refine lv_aload_n C.hx C.hb dX8_moveOf_21 rfl (lv_at hl 0 rfl) ?_
      refine g_get C h fl_X8_21 0 0 rfl rfl (v := .int (v_t.1 4)) rfl dX8_moveOf_22 ?_
      obtain rfl := Option.some.inj hf
      exact g_ret_i C h rfl rfl dX8_moveOf_25
  · replace hf := it_t zc1 hf
    refine lv_aload_n C.hx C.hb dX8_moveOf_8 rfl (lv_at hl 0 rfl) ?_
    refine g_get C h fl_X8_15 0 0 rfl rfl (v := .int (v_t.1 2)) rfl dX8_moveOf_9 ?_
    obtain rfl := Option.some.inj hf
    exact g_ret_i C h rfl rfl dX8_moveOf_12

def f_X8_travelBy (v_p0 : US) (x1 : Int32) (x2 : Int32) (x3 : Int32) : Option (Int32) :=
  if x2 = (-1) then (some (0)) else ((f_X11_has x1 x2).bind fun zr2 => if (b2i zr2) = 0 then (some (0)) else ((f_X9_slackInDamp v_p0 x2).bind fun zr6 => some (if 0 < (x3 - zr6) then (x3 - zr6) else 0)))
set_option maxRecDepth 100000 in
set_option maxHeartbeats 4000000 in
theorem c_X8_travelBy (l : Launch) (G : GG) (o_p0 : Nat) (a_p0 : Nat → Nat) {v_p0 : US} {x1 : Int32} {x2 : Int32} {x3 : Int32} {res : Int32} (hf : f_X8_travelBy v_p0 x1 x2 x3 = some res) : MI l yX8_travelBy cX8_travelBy 4 (some .int) 2 [.ref o_p0, .int x1, .int x2, .int x3] G [uX9 G o_p0 a_p0 v_p0] res [uX9 G o_p0 a_p0 v_p0] := by
  unfold f_X8_travelBy at hf
  refine MI.intro (by decide) rfl (Nat.le_of_ble_eq_true rfl) (fun p e s m args below meth c A ls C h hl => ?_)
  have C : MC RX8 cX8_travelBy 4 (some .int) G A p s m args meth c := C
  have hl : lv_has ls 4 [(0, .ref o_p0), (1, .int x1), (2, .int x2), (3, .int x3)] := hl
  refine lv_iload_n C.hx C.hb dX8_travelBy_0 rfl (lv_at hl 2 rfl) ?_
  refine lv_iconst (v := (-1)) C.hx C.hb dX8_travelBy_1 (by decide) ?_
  refine lv_icmp_eq (tgt := 13) C.hx C.hb dX8_travelBy_2 (by decide) (fun zc1 => ?_) (fun zc1 => ?_)
  · replace hf := it_t zc1 hf
    refine lv_iconst (v := 0) C.hx C.hb dX8_travelBy_13 (by decide) ?_
    obtain rfl := Option.some.inj hf
    exact g_ret_i C h rfl rfl dX8_travelBy_14
  · replace hf := it_f zc1 hf
    refine lv_iload_n C.hx C.hb dX8_travelBy_5 rfl (lv_at hl 1 rfl) ?_
    refine lv_iload_n C.hx C.hb dX8_travelBy_6 rfl (lv_at hl 2 rfl) ?_
    obtain ⟨zr2, zq3, hf⟩ := bd_some hf
    have zm4 := c_X11_has l G  (hf := zq3)
    refine g_goI C h zm4.1 (is := []) rfl rfl (g_runN C h (is := []) rfl rfl (As := [.int x1, .int x2]) (rest := []) (zm4.2 _) nf_X8_69 hl.1 rfl rfl (Nat.le_of_ble_eq_true rfl) dX8_travelBy_7 ⟨Nat.le_of_ble_eq_true rfl, Nat.le_of_ble_eq_true rfl⟩ ⟨Nat.le_refl _, Nat.le_refl _⟩) (us2 := [uX9 G o_p0 a_p0 v_p0]) rfl (fun H locs h => ?_)
    refine lv_if_ne (tgt := 15) C.hx C.hb dX8_travelBy_10 (by decide) (fun zc5 => ?_) (fun zc5 => ?_)
    · replace hf := it_f zc5 hf
      refine lv_iconst (v := 0) C.hx C.hb dX8_travelBy_15 (by decide) ?_
      refine lv_iload_n C.hx C.hb dX8_travelBy_16 rfl (lv_at hl 3 rfl) ?_
      refine lv_aload_n C.hx C.hb dX8_travelBy_17 rfl (lv_at hl 0 rfl) ?_
      refine lv_iload_n C.hx C.hb dX8_travelBy_18 rfl (lv_at hl 2 rfl) ?_
      obtain ⟨zr6, zq7, hf⟩ := bd_some hf
      have zm8 := c_X9_slackInDamp l G o_p0 a_p0 (hf := zq7)
      refine g_goI C h zm8.1 (is := [0]) rfl rfl (g_runV C h (is := [0]) rfl rfl (As := [.int x2]) (rest := [.int x3, .int 0]) (zm8.2 _) vf_X8_73 0 0 rfl rfl hl.1 rfl rfl (Nat.le_of_ble_eq_true rfl) dX8_travelBy_19 ⟨Nat.le_of_ble_eq_true rfl, Nat.le_of_ble_eq_true rfl⟩ ⟨Nat.le_refl _, Nat.le_refl _⟩) (us2 := [uX9 G o_p0 a_p0 v_p0]) rfl (fun H locs h => ?_)
      refine lv_isub C.hx C.hb dX8_travelBy_22 ?_
      refine g_max C hl.1 ml_X8_77 ms_max mi_math mc_max (Nat.le_of_ble_eq_true rfl) (Nat.le_of_ble_eq_true rfl) ⟨Nat.le_refl _, Nat.le_refl _⟩ dX8_travelBy_23 (v := if 0 < (x3 - zr6) then (x3 - zr6) else 0) rfl ?_
      obtain rfl := Option.some.inj hf
      exact g_ret_i C h rfl rfl dX8_travelBy_26
    · replace hf := it_t zc5 hf
      refine lv_iconst (v := 0) C.hx C.hb dX8_travelBy_13 (by decide) ?_
      obtain rfl := Option.some.inj hf
      exact g_ret_i C h rfl rfl dX8_travelBy_14

def b_X8_by_145 (N : Nat) (g58 : US → US → Int32 → Int32 → Option (US)) (v_t : US) (v_p1 : US) (y2 : Int32) (y7 : Int32) (y10 : Int32) (y11 : Int32) : Option (US) :=
  if y10 = y11 then (g58 v_t v_p1 y2 (y7 + 1)) else (g58 (upi v_t 6 ((v_t.1 6) ||| (1 <<< (y7 &&& 31)))) v_p1 y2 (y7 + 1))
def b_X8_by_58 (N : Nat) (g58 : US → US → Int32 → Int32 → Option (US)) (v_t : US) (v_p1 : US) (y2 : Int32) (y7 : Int32) : Option (US) :=
  if (v_p1.1 0) ≤ y7 then (some (v_t)) else (if y7 < 0 ∨ 5 ≤ y7.toNatClampNeg then none else ((f_X8_moveOf v_t v_p1 y2 y7).bind fun zr4 => if y7 < 0 ∨ 5 ≤ y7.toNatClampNeg then none else (if y7 < 0 ∨ 5 ≤ y7.toNatClampNeg then none else (if (b2i (kBec ((v_p1.2.2 1) y7.toNatClampNeg) false zr4 ((v_p1.2.2 3) y7.toNatClampNeg))) = 0 then (b_X8_by_145 N g58 v_t v_p1 y2 y7 (b2i (kBec ((v_p1.2.2 1) y7.toNatClampNeg) false zr4 ((v_p1.2.2 3) y7.toNatClampNeg))) (b2i (kBec ((v_p1.2.2 1) y7.toNatClampNeg) true zr4 ((v_p1.2.2 3) y7.toNatClampNeg)))) else (b_X8_by_145 N g58 (upi v_t 7 ((v_t.1 7) ||| (1 <<< (y7 &&& 31)))) v_p1 y2 y7 (b2i (kBec ((v_p1.2.2 1) y7.toNatClampNeg) false zr4 ((v_p1.2.2 3) y7.toNatClampNeg))) (b2i (kBec ((v_p1.2.2 1) y7.toNatClampNeg) true zr4 ((v_p1.2.2 3) y7.toNatClampNeg))))))))
def f_X8_by_58 (N : Nat)  : Nat → US → US → Int32 → Int32 → Option (US)
  | 0 => fun _ _ _ _ => none
  | k + 1 => fun q0 q1 q2 q3 => b_X8_by_58 N  (f_X8_by_58 N  k) q0 q1 q2 q3
def f_X8_by (N : Nat) (v_t : US) (v_p1 : US) (x2 : Int32) (x3 : Int32) (x4 : Int32) (x5 : Int32) (x6 : Int32) : Option (US) :=
  bnd (upi v_t 1 x3) fun zw1 => bnd (upi zw1 2 x4) fun zw2 => bnd (upi zw2 3 x5) fun zw3 => (f_X8_travelBy v_p1 x2 x3 x4).bind fun zr4 => (f_X8_travelBy v_p1 x2 x5 x6).bind fun zr7 => bnd (upi zw3 4 x6) fun zw10 => bnd (upi zw10 5 (zr4 + zr7)) fun zw11 => bnd (upi zw11 6 0) fun zw12 => f_X8_by_58 N N (upi zw12 7 0) v_p1 x2 0
set_option maxRecDepth 100000 in
set_option maxHeartbeats 4000000 in
theorem w_X8_by_145 {p : Program} {l : Launch} {e : Env} {s : State} {m : MethodId} {args : Array Value} {below : List Frame} {meth : Method} {c : Code} {G : GG} {A : Nat → Prop} {o_t o_p1 : Nat} {a_p1 a_t a_t_kinds : Nat → Nat} {N : Nat} {g58 : US → US → Int32 → Int32 → Option (US)} {v_t : US} {v_p1 : US} {y2 : Int32} {y7 : Int32} {y10 : Int32} {y11 : Int32} {res : US} (C : MC RX8 cX8_by 12 none G A p s m args meth c) (hg58 : ∀ {v_t : US} {v_p1 : US} {y2 : Int32} {y7 : Int32}, g58 v_t v_p1 y2 y7 = some res → ∀ {H : Heap} {locs : List Loc} {ls : Array Slot}, HP G A s [uX8 G o_t a_t v_t, uX9 G o_p1 a_p1 v_p1, uX2 G (a_t 0) a_t_kinds] H locs → lv_has ls 12 [(0, .ref o_t), (1, .ref o_p1), (2, .int y2), (7, .int y7)] → W p l e (rmm 4) s m args below meth c H locs 0 0 (QV below G A args s  [uX8 G o_t a_t res, uX9 G o_p1 a_p1 v_p1, uX2 G (a_t 0) a_t_kinds]) (F0 m 58 ls [])) (hf : b_X8_by_145 N g58 v_t v_p1 y2 y7 y10 y11 = some res) {H : Heap} {locs : List Loc} {ls : Array Slot} (h : HP G A s [uX8 G o_t a_t v_t, uX9 G o_p1 a_p1 v_p1, uX2 G (a_t 0) a_t_kinds] H locs) (hl : lv_has ls 12 [(0, .ref o_t), (1, .ref o_p1), (2, .int y2), (7, .int y7), (10, .int y10), (11, .int y11)]) : W p l e (rmm 4) s m args below meth c H locs 0 0 (QV below G A args s  [uX8 G o_t a_t res, uX9 G o_p1 a_p1 v_p1, uX2 G (a_t 0) a_t_kinds]) (F0 m 145 ls []) := by
  unfold b_X8_by_145 at hf
  refine lv_iload C.hx C.hb dX8_by_145 (lv_at hl 4 rfl) ?_
  refine lv_iload C.hx C.hb dX8_by_147 (lv_at hl 5 rfl) ?_
  refine lv_icmp_eq (tgt := 165) C.hx C.hb dX8_by_149 (by decide) (fun zc1 => ?_) (fun zc1 => ?_)
  · replace hf := it_t zc1 hf
    refine lv_iinc (v := y7 + 1) (lv' := [(7, .int (y7 + 1)), (0, .ref o_t), (1, .ref o_p1), (2, .int y2), (10, .int y10), (11, .int y11)]) C.hx C.hb dX8_by_165 hl (k := 3) rfl rfl (by decide) rfl (fun ls hl => ?_)
    refine lv_goto (tgt := 58) C.hx C.hb dX8_by_168 (by decide) ?_
    exact hg58 hf h (lv_sub hl [1, 2, 3, 0] rfl)
  · replace hf := it_f zc1 hf
    refine lv_aload_n C.hx C.hb dX8_by_152 rfl (lv_at hl 0 rfl) ?_
    refine lv_dup C.hx C.hb dX8_by_153 rfl ?_
    refine g_get C h fl_X8_27 0 0 rfl rfl (v := .int (v_t.1 6)) rfl dX8_by_154 ?_
    refine lv_iconst (v := 1) C.hx C.hb dX8_by_157 (by decide) ?_
    refine lv_iload C.hx C.hb dX8_by_158 (lv_at hl 3 rfl) ?_
    refine lv_ishl C.hx C.hb dX8_by_160 ?_
    refine lv_ior C.hx C.hb dX8_by_161 ?_
    refine g_put C h fp_X8_27 0 0 rfl rfl rfl rfl (Nat.le_of_ble_eq_true rfl) dX8_by_162 (u' := uX8 G o_t a_t (upi v_t 6 ((v_t.1 6) ||| (1 <<< (y7 &&& 31))))) (us' := [uX8 G o_t a_t (upi v_t 6 ((v_t.1 6) ||| (1 <<< (y7 &&& 31)))), uX9 G o_p1 a_p1 v_p1, uX2 G (a_t 0) a_t_kinds]) rfl rfl (fun H locs h => ?_)
    refine lv_iinc (v := y7 + 1) (lv' := [(7, .int (y7 + 1)), (0, .ref o_t), (1, .ref o_p1), (2, .int y2), (10, .int y10), (11, .int y11)]) C.hx C.hb dX8_by_165 hl (k := 3) rfl rfl (by decide) rfl (fun ls hl => ?_)
    refine lv_goto (tgt := 58) C.hx C.hb dX8_by_168 (by decide) ?_
    exact hg58 hf h (lv_sub hl [1, 2, 3, 0] rfl)
set_option maxRecDepth 100000 in
set_option maxHeartbeats 4000000 in
theorem w_X8_by_58 {p : Program} {l : Launch} {e : Env} {s : State} {m : MethodId} {args : Array Value} {below : List Frame} {meth : Method} {c : Code} {G : GG} {A : Nat → Prop} {o_t o_p1 : Nat} {a_p1 a_t a_t_kinds : Nat → Nat} {N : Nat} {g58 : US → US → Int32 → Int32 → Option (US)} {v_t : US} {v_p1 : US} {y2 : Int32} {y7 : Int32} {res : US} (C : MC RX8 cX8_by 12 none G A p s m args meth c) (hg58 : ∀ {v_t : US} {v_p1 : US} {y2 : Int32} {y7 : Int32}, g58 v_t v_p1 y2 y7 = some res → ∀ {H : Heap} {locs : List Loc} {ls : Array Slot}, HP G A s [uX8 G o_t a_t v_t, uX9 G o_p1 a_p1 v_p1, uX2 G (a_t 0) a_t_kinds] H locs → lv_has ls 12 [(0, .ref o_t), (1, .ref o_p1), (2, .int y2), (7, .int y7)] → W p l e (rmm 4) s m args below meth c H locs 0 0 (QV below G A args s  [uX8 G o_t a_t res, uX9 G o_p1 a_p1 v_p1, uX2 G (a_t 0) a_t_kinds]) (F0 m 58 ls [])) (hf : b_X8_by_58 N g58 v_t v_p1 y2 y7 = some res) {H : Heap} {locs : List Loc} {ls : Array Slot} (h : HP G A s [uX8 G o_t a_t v_t, uX9 G o_p1 a_p1 v_p1, uX2 G (a_t 0) a_t_kinds] H locs) (hl : lv_has ls 12 [(0, .ref o_t), (1, .ref o_p1), (2, .int y2), (7, .int y7)]) : W p l e (rmm 4) s m args below meth c H locs 0 0 (QV below G A args s  [uX8 G o_t a_t res, uX9 G o_p1 a_p1 v_p1, uX2 G (a_t 0) a_t_kinds]) (F0 m 58 ls []) := by
  unfold b_X8_by_58 at hf
  refine lv_iload C.hx C.hb dX8_by_58 (lv_at hl 3 rfl) ?_
  refine lv_aload_n C.hx C.hb dX8_by_60 rfl (lv_at hl 1 rfl) ?_
  refine g_get C h fl_X8_41 1 0 rfl rfl (v := .int (v_p1.1 0)) rfl dX8_by_61 ?_
  refine lv_icmp_ge (tgt := 171) C.hx C.hb dX8_by_64 (by decide) (fun zc1 => ?_) (fun zc1 => ?_)
  · replace hf := it_t zc1 hf
    obtain rfl := Option.some.inj hf
    exact g_ret_v C h rfl dX8_by_171
  · replace hf := it_f zc1 hf
    refine lv_aload_n C.hx C.hb dX8_by_67 rfl (lv_at hl 0 rfl) ?_
    refine g_get C h fl_X8_33 0 0 rfl rfl (v := .ref (a_t 0)) rfl dX8_by_68 ?_
    refine lv_aload_n C.hx C.hb dX8_by_71 rfl (lv_at hl 1 rfl) ?_
    refine g_get C h fl_X8_46 1 0 rfl rfl (v := .ref (a_p1 1)) rfl dX8_by_72 ?_
    refine lv_iload C.hx C.hb dX8_by_75 (lv_at hl 3 rfl) ?_
    obtain ⟨zi2, hf⟩ := ck_some hf
    refine g_iald C h 1 1 rfl rfl (f := v_p1.2.2 1) zi2 dX8_by_77 ?_
    have zm3 := c_X2_ofNumber l G (a_t 0) a_t_kinds ((v_p1.2.2 1) y7.toNatClampNeg)
    refine g_goR C h zm3.1 (is := [2]) rfl rfl (g_runV C h (is := [2]) rfl rfl (As := [.int ((v_p1.2.2 1) y7.toNatClampNeg)]) (rest := []) (zm3.2 _) vf_X8_50 2 0 rfl rfl hl.1 rfl rfl (Nat.le_of_ble_eq_true rfl) dX8_by_78 ⟨Nat.le_of_ble_eq_true rfl, Nat.le_of_ble_eq_true rfl⟩ ⟨Nat.le_refl _, Nat.le_refl _⟩) (us2 := [uX8 G o_t a_t v_t, uX9 G o_p1 a_p1 v_p1, uX2 G (a_t 0) a_t_kinds]) rfl (fun H locs h => ?_)
    refine lv_astore (lv' := [(8, .ref (kad a_t_kinds ((v_p1.2.2 1) y7.toNatClampNeg))), (0, .ref o_t), (1, .ref o_p1), (2, .int y2), (7, .int y7)]) C.hx C.hb dX8_by_81 hl (by decide) rfl (fun ls hl => ?_)
    refine lv_aload_n C.hx C.hb dX8_by_83 rfl (lv_at hl 1 rfl) ?_
    refine lv_aload_n C.hx C.hb dX8_by_84 rfl (lv_at hl 2 rfl) ?_
    refine lv_iload_n C.hx C.hb dX8_by_85 rfl (lv_at hl 3 rfl) ?_
    refine lv_iload C.hx C.hb dX8_by_86 (lv_at hl 4 rfl) ?_
    obtain ⟨zr4, zq5, hf⟩ := bd_some hf
    have zm6 := c_X8_moveOf l G o_t o_p1 a_p1 a_t (hf := zq5)
    refine g_goI C h zm6.1 (is := [0, 1]) rfl rfl (g_runV C h (is := [0, 1]) rfl rfl (As := [.ref o_p1, .int y2, .int y7]) (rest := []) (zm6.2 _) vf_X8_56 0 0 rfl rfl hl.1 rfl rfl (Nat.le_of_ble_eq_true rfl) dX8_by_88 ⟨Nat.le_of_ble_eq_true rfl, Nat.le_of_ble_eq_true rfl⟩ ⟨Nat.le_refl _, Nat.le_refl _⟩) (us2 := [uX8 G o_t a_t v_t, uX9 G o_p1 a_p1 v_p1, uX2 G (a_t 0) a_t_kinds]) rfl (fun H locs h => ?_)
    refine lv_istore (lv' := [(9, .int zr4), (8, .ref (kad a_t_kinds ((v_p1.2.2 1) y7.toNatClampNeg))), (0, .ref o_t), (1, .ref o_p1), (2, .int y2), (7, .int y7)]) C.hx C.hb dX8_by_91 hl (by decide) rfl (fun ls hl => ?_)
    refine lv_aload C.hx C.hb dX8_by_93 (lv_at hl 1 rfl) ?_
    refine lv_iconst (v := 0) C.hx C.hb dX8_by_95 (by decide) ?_
    refine lv_iload C.hx C.hb dX8_by_96 (lv_at hl 0 rfl) ?_
    refine lv_aload_n C.hx C.hb dX8_by_98 rfl (lv_at hl 3 rfl) ?_
    refine g_get C h fl_X8_60 1 0 rfl rfl (v := .ref (a_p1 3)) rfl dX8_by_99 ?_
    refine lv_iload C.hx C.hb dX8_by_102 (lv_at hl 5 rfl) ?_
    obtain ⟨zi7, hf⟩ := ck_some hf
    refine g_iald C h 1 3 rfl rfl (f := v_p1.2.2 3) zi7 dX8_by_104 ?_
    refine g_becomes C h bf_X8_63 2 rfl (rest := []) (z := false) hl.1 (Nat.le_of_ble_eq_true rfl) dX8_by_105 ⟨Nat.le_of_ble_eq_true rfl, Nat.le_of_ble_eq_true rfl, Nat.le_refl _, Nat.le_refl _⟩ (fun H locs h => ?_)
    refine lv_istore (lv' := [(10, .int (b2i (kBec ((v_p1.2.2 1) y7.toNatClampNeg) false zr4 ((v_p1.2.2 3) y7.toNatClampNeg)))), (9, .int zr4), (8, .ref (kad a_t_kinds ((v_p1.2.2 1) y7.toNatClampNeg))), (0, .ref o_t), (1, .ref o_p1), (2, .int y2), (7, .int y7)]) C.hx C.hb dX8_by_108 hl (by decide) rfl (fun ls hl => ?_)
    refine lv_aload C.hx C.hb dX8_by_110 (lv_at hl 2 rfl) ?_
    refine lv_iconst (v := 1) C.hx C.hb dX8_by_112 (by decide) ?_
    refine lv_iload C.hx C.hb dX8_by_113 (lv_at hl 1 rfl) ?_
    refine lv_aload_n C.hx C.hb dX8_by_115 rfl (lv_at hl 4 rfl) ?_
    refine g_get C h fl_X8_60 1 0 rfl rfl (v := .ref (a_p1 3)) rfl dX8_by_116 ?_
    refine lv_iload C.hx C.hb dX8_by_119 (lv_at hl 6 rfl) ?_
    obtain ⟨zi8, hf⟩ := ck_some hf
    refine g_iald C h 1 3 rfl rfl (f := v_p1.2.2 3) zi8 dX8_by_121 ?_
    refine g_becomes C h bf_X8_63 2 rfl (rest := []) (z := true) hl.1 (Nat.le_of_ble_eq_true rfl) dX8_by_122 ⟨Nat.le_of_ble_eq_true rfl, Nat.le_of_ble_eq_true rfl, Nat.le_refl _, Nat.le_refl _⟩ (fun H locs h => ?_)
    refine lv_istore (lv' := [(11, .int (b2i (kBec ((v_p1.2.2 1) y7.toNatClampNeg) true zr4 ((v_p1.2.2 3) y7.toNatClampNeg)))), (10, .int (b2i (kBec ((v_p1.2.2 1) y7.toNatClampNeg) false zr4 ((v_p1.2.2 3) y7.toNatClampNeg)))), (9, .int zr4), (8, .ref (kad a_t_kinds ((v_p1.2.2 1) y7.toNatClampNeg))), (0, .ref o_t), (1, .ref o_p1), (2, .int y2), (7, .int y7)]) C.hx C.hb dX8_by_125 hl (by decide) rfl (fun ls hl => ?_)
    refine lv_iload C.hx C.hb dX8_by_127 (lv_at hl 1 rfl) ?_
    refine lv_if_eq (tgt := 145) C.hx C.hb dX8_by_129 (by decide) (fun zc9 => ?_) (fun zc9 => ?_)
    · replace hf := it_t zc9 hf
      exact w_X8_by_145 C hg58 hf h (lv_sub hl [4, 5, 6, 7, 1, 0] rfl)
    · replace hf := it_f zc9 hf
      refine lv_aload_n C.hx C.hb dX8_by_132 rfl (lv_at hl 4 rfl) ?_
      refine lv_dup C.hx C.hb dX8_by_133 rfl ?_
      refine g_get C h fl_X8_30 0 0 rfl rfl (v := .int (v_t.1 7)) rfl dX8_by_134 ?_
      refine lv_iconst (v := 1) C.hx C.hb dX8_by_137 (by decide) ?_
      refine lv_iload C.hx C.hb dX8_by_138 (lv_at hl 7 rfl) ?_
      refine lv_ishl C.hx C.hb dX8_by_140 ?_
      refine lv_ior C.hx C.hb dX8_by_141 ?_
      refine g_put C h fp_X8_30 0 0 rfl rfl rfl rfl (Nat.le_of_ble_eq_true rfl) dX8_by_142 (u' := uX8 G o_t a_t (upi v_t 7 ((v_t.1 7) ||| (1 <<< (y7 &&& 31))))) (us' := [uX8 G o_t a_t (upi v_t 7 ((v_t.1 7) ||| (1 <<< (y7 &&& 31)))), uX9 G o_p1 a_p1 v_p1, uX2 G (a_t 0) a_t_kinds]) rfl rfl (fun H locs h => ?_)
      exact w_X8_by_145 C hg58 hf h (lv_sub hl [4, 5, 6, 7, 1, 0] rfl)
set_option maxRecDepth 100000 in
set_option maxHeartbeats 4000000 in
theorem l_X8_by_58 {p : Program} {l : Launch} {e : Env} {s : State} {m : MethodId} {args : Array Value} {below : List Frame} {meth : Method} {c : Code} {G : GG} {A : Nat → Prop} {o_t o_p1 : Nat} {a_p1 a_t a_t_kinds : Nat → Nat} {N : Nat}  {res : US} (C : MC RX8 cX8_by 12 none G A p s m args meth c)  : ∀ (k : Nat) {v_t : US} {v_p1 : US} {y2 : Int32} {y7 : Int32}, f_X8_by_58 N k v_t v_p1 y2 y7 = some res → ∀ {H : Heap} {locs : List Loc} {ls : Array Slot}, HP G A s [uX8 G o_t a_t v_t, uX9 G o_p1 a_p1 v_p1, uX2 G (a_t 0) a_t_kinds] H locs → lv_has ls 12 [(0, .ref o_t), (1, .ref o_p1), (2, .int y2), (7, .int y7)] → W p l e (rmm 4) s m args below meth c H locs 0 0 (QV below G A args s  [uX8 G o_t a_t res, uX9 G o_p1 a_p1 v_p1, uX2 G (a_t 0) a_t_kinds]) (F0 m 58 ls []) := by
  intro k
  induction k with
  | zero => intros; contradiction
  | succ k ih =>
    intro v_t v_p1 y2 y7 hf H locs ls h hl
    exact w_X8_by_58 (N := N) C ih hf h hl
set_option maxRecDepth 100000 in
set_option maxHeartbeats 4000000 in
theorem c_X8_by (l : Launch) (G : GG) (o_t o_p1 : Nat) (a_p1 a_t a_t_kinds : Nat → Nat) (N : Nat) {v_t : US} {v_p1 : US} {x2 : Int32} {x3 : Int32} {x4 : Int32} {x5 : Int32} {x6 : Int32} {res : US} (hf : f_X8_by N v_t v_p1 x2 x3 x4 x5 x6 = some res) : MV l yX8_by cX8_by 12 none 4 [.ref o_t, .ref o_p1, .int x2, .int x3, .int x4, .int x5, .int x6] G [uX8 G o_t a_t v_t, uX9 G o_p1 a_p1 v_p1, uX2 G (a_t 0) a_t_kinds]  [uX8 G o_t a_t res, uX9 G o_p1 a_p1 v_p1, uX2 G (a_t 0) a_t_kinds] := by
  unfold f_X8_by at hf
  refine MV.intro (by decide) rfl (Nat.le_of_ble_eq_true rfl) (fun p e s m args below meth c A ls C h hl => ?_)
  have C : MC RX8 cX8_by 12 none G A p s m args meth c := C
  have hl : lv_has ls 12 [(0, .ref o_t), (1, .ref o_p1), (2, .int x2), (3, .int x3), (4, .int x4), (5, .int x5), (6, .int x6)] := hl
  refine lv_aload_n C.hx C.hb dX8_by_0 rfl (lv_at hl 0 rfl) ?_
  refine lv_iload_n C.hx C.hb dX8_by_1 rfl (lv_at hl 3 rfl) ?_
  refine g_put C h fp_X8_9 0 0 rfl rfl rfl rfl (Nat.le_of_ble_eq_true rfl) dX8_by_2 (u' := uX8 G o_t a_t (upi v_t 1 x3)) (us' := [uX8 G o_t a_t (upi v_t 1 x3), uX9 G o_p1 a_p1 v_p1, uX2 G (a_t 0) a_t_kinds]) rfl rfl (fun H locs h => ?_)
  refine lv_aload_n C.hx C.hb dX8_by_5 rfl (lv_at hl 0 rfl) ?_
  refine lv_iload C.hx C.hb dX8_by_6 (lv_at hl 4 rfl) ?_
  obtain ⟨zw1, hzw1, hf⟩ := bnd_some hf
  rw [← hzw1] at h
  refine g_put C h fp_X8_15 0 0 rfl rfl rfl rfl (Nat.le_of_ble_eq_true rfl) dX8_by_8 (u' := uX8 G o_t a_t (upi zw1 2 x4)) (us' := [uX8 G o_t a_t (upi zw1 2 x4), uX9 G o_p1 a_p1 v_p1, uX2 G (a_t 0) a_t_kinds]) rfl rfl (fun H locs h => ?_)
  refine lv_aload_n C.hx C.hb dX8_by_11 rfl (lv_at hl 0 rfl) ?_
  refine lv_iload C.hx C.hb dX8_by_12 (lv_at hl 5 rfl) ?_
  obtain ⟨zw2, hzw2, hf⟩ := bnd_some hf
  rw [← hzw2] at h
  refine g_put C h fp_X8_18 0 0 rfl rfl rfl rfl (Nat.le_of_ble_eq_true rfl) dX8_by_14 (u' := uX8 G o_t a_t (upi zw2 3 x5)) (us' := [uX8 G o_t a_t (upi zw2 3 x5), uX9 G o_p1 a_p1 v_p1, uX2 G (a_t 0) a_t_kinds]) rfl rfl (fun H locs h => ?_)
  refine lv_aload_n C.hx C.hb dX8_by_17 rfl (lv_at hl 0 rfl) ?_
  refine lv_iload C.hx C.hb dX8_by_18 (lv_at hl 6 rfl) ?_
  obtain ⟨zw3, hzw3, hf⟩ := bnd_some hf
  rw [← hzw3] at h
  refine g_put C h fp_X8_21 0 0 rfl rfl rfl rfl (Nat.le_of_ble_eq_true rfl) dX8_by_20 (u' := uX8 G o_t a_t (upi zw3 4 x6)) (us' := [uX8 G o_t a_t (upi zw3 4 x6), uX9 G o_p1 a_p1 v_p1, uX2 G (a_t 0) a_t_kinds]) rfl rfl (fun H locs h => ?_)
  refine lv_aload_n C.hx C.hb dX8_by_23 rfl (lv_at hl 0 rfl) ?_
  refine lv_aload_n C.hx C.hb dX8_by_24 rfl (lv_at hl 1 rfl) ?_
  refine lv_iload_n C.hx C.hb dX8_by_25 rfl (lv_at hl 2 rfl) ?_
  refine lv_iload_n C.hx C.hb dX8_by_26 rfl (lv_at hl 3 rfl) ?_
  refine lv_iload C.hx C.hb dX8_by_27 (lv_at hl 4 rfl) ?_
  obtain ⟨zr4, zq5, hf⟩ := bd_some hf
  have zm6 := c_X8_travelBy l G o_p1 a_p1 (hf := zq5)
  refine g_goI C h zm6.1 (is := [1]) rfl rfl (g_runS C h (is := [1]) rfl rfl (As := [.ref o_p1, .int x2, .int x3, .int x4]) (rest := [.ref o_t]) (zm6.2 _) sf_X8_37 hl.1 rfl rfl (Nat.le_of_ble_eq_true rfl) dX8_by_29 ⟨Nat.le_of_ble_eq_true rfl, Nat.le_of_ble_eq_true rfl⟩ ⟨Nat.le_refl _, Nat.le_refl _⟩) (us2 := [uX8 G o_t a_t (upi zw3 4 x6), uX9 G o_p1 a_p1 v_p1, uX2 G (a_t 0) a_t_kinds]) rfl (fun H locs h => ?_)
  refine lv_aload_n C.hx C.hb dX8_by_32 rfl (lv_at hl 1 rfl) ?_
  refine lv_iload_n C.hx C.hb dX8_by_33 rfl (lv_at hl 2 rfl) ?_
  refine lv_iload C.hx C.hb dX8_by_34 (lv_at hl 5 rfl) ?_
  refine lv_iload C.hx C.hb dX8_by_36 (lv_at hl 6 rfl) ?_
  obtain ⟨zr7, zq8, hf⟩ := bd_some hf
  have zm9 := c_X8_travelBy l G o_p1 a_p1 (hf := zq8)
  refine g_goI C h zm9.1 (is := [1]) rfl rfl (g_runS C h (is := [1]) rfl rfl (As := [.ref o_p1, .int x2, .int x5, .int x6]) (rest := [.int zr4, .ref o_t]) (zm9.2 _) sf_X8_37 hl.1 rfl rfl (Nat.le_of_ble_eq_true rfl) dX8_by_38 ⟨Nat.le_of_ble_eq_true rfl, Nat.le_of_ble_eq_true rfl⟩ ⟨Nat.le_refl _, Nat.le_refl _⟩) (us2 := [uX8 G o_t a_t (upi zw3 4 x6), uX9 G o_p1 a_p1 v_p1, uX2 G (a_t 0) a_t_kinds]) rfl (fun H locs h => ?_)
  refine lv_iadd C.hx C.hb dX8_by_41 ?_
  obtain ⟨zw10, hzw10, hf⟩ := bnd_some hf
  rw [← hzw10] at h
  refine g_put C h fp_X8_24 0 0 rfl rfl rfl rfl (Nat.le_of_ble_eq_true rfl) dX8_by_42 (u' := uX8 G o_t a_t (upi zw10 5 (zr4 + zr7))) (us' := [uX8 G o_t a_t (upi zw10 5 (zr4 + zr7)), uX9 G o_p1 a_p1 v_p1, uX2 G (a_t 0) a_t_kinds]) rfl rfl (fun H locs h => ?_)
  refine lv_aload_n C.hx C.hb dX8_by_45 rfl (lv_at hl 0 rfl) ?_
  refine lv_iconst (v := 0) C.hx C.hb dX8_by_46 (by decide) ?_
  obtain ⟨zw11, hzw11, hf⟩ := bnd_some hf
  rw [← hzw11] at h
  refine g_put C h fp_X8_27 0 0 rfl rfl rfl rfl (Nat.le_of_ble_eq_true rfl) dX8_by_47 (u' := uX8 G o_t a_t (upi zw11 6 0)) (us' := [uX8 G o_t a_t (upi zw11 6 0), uX9 G o_p1 a_p1 v_p1, uX2 G (a_t 0) a_t_kinds]) rfl rfl (fun H locs h => ?_)
  refine lv_aload_n C.hx C.hb dX8_by_50 rfl (lv_at hl 0 rfl) ?_
  refine lv_iconst (v := 0) C.hx C.hb dX8_by_51 (by decide) ?_
  obtain ⟨zw12, hzw12, hf⟩ := bnd_some hf
  rw [← hzw12] at h
  refine g_put C h fp_X8_30 0 0 rfl rfl rfl rfl (Nat.le_of_ble_eq_true rfl) dX8_by_52 (u' := uX8 G o_t a_t (upi zw12 7 0)) (us' := [uX8 G o_t a_t (upi zw12 7 0), uX9 G o_p1 a_p1 v_p1, uX2 G (a_t 0) a_t_kinds]) rfl rfl (fun H locs h => ?_)
  refine lv_iconst (v := 0) C.hx C.hb dX8_by_55 (by decide) ?_
  refine lv_istore (lv' := [(7, .int 0), (0, .ref o_t), (1, .ref o_p1), (2, .int x2), (3, .int x3), (4, .int x4), (5, .int x5), (6, .int x6)]) C.hx C.hb dX8_by_56 hl (by decide) rfl (fun ls hl => ?_)
  exact l_X8_by_58 C N hf h (lv_sub hl [1, 2, 3, 0] rfl)

def f_X8_rings (v_t : US)  : Option (Int32) :=
  some ((v_t.1 5) / 3)
set_option maxRecDepth 100000 in
set_option maxHeartbeats 4000000 in
theorem c_X8_rings (l : Launch) (G : GG) (o_t : Nat) (a_t : Nat → Nat) {v_t : US}  {res : Int32} (hf : f_X8_rings v_t = some res) : MI l yX8_rings cX8_rings 1 (some .int) 1 [.ref o_t] G [uX8 G o_t a_t v_t] res [uX8 G o_t a_t v_t] := by
  unfold f_X8_rings at hf
  refine MI.intro (by decide) rfl (Nat.le_of_ble_eq_true rfl) (fun p e s m args below meth c A ls C h hl => ?_)
  have C : MC RX8 cX8_rings 1 (some .int) G A p s m args meth c := C
  have hl : lv_has ls 1 [(0, .ref o_t)] := hl
  refine lv_aload_n C.hx C.hb dX8_rings_0 rfl (lv_at hl 0 rfl) ?_
  refine g_get C h fl_X8_24 0 0 rfl rfl (v := .int (v_t.1 5)) rfl dX8_rings_1 ?_
  refine lv_iconst (v := 3) C.hx C.hb dX8_rings_4 (by decide) ?_
  refine lv_idiv C.hx C.hb dX8_rings_5 (by decide) ?_
  obtain rfl := Option.some.inj hf
  exact g_ret_i C h rfl rfl dX8_rings_6

def f_X8_behind (v_t : US) (x1 : Int32) : Option (Int32) :=
  some ((x1 &&& (v_t.1 6)) ^^^ (v_t.1 7))
set_option maxRecDepth 100000 in
set_option maxHeartbeats 4000000 in
theorem c_X8_behind (l : Launch) (G : GG) (o_t : Nat) (a_t : Nat → Nat) {v_t : US} {x1 : Int32} {res : Int32} (hf : f_X8_behind v_t x1 = some res) : MI l yX8_behind cX8_behind 2 (some .int) 1 [.ref o_t, .int x1] G [uX8 G o_t a_t v_t] res [uX8 G o_t a_t v_t] := by
  unfold f_X8_behind at hf
  refine MI.intro (by decide) rfl (Nat.le_of_ble_eq_true rfl) (fun p e s m args below meth c A ls C h hl => ?_)
  have C : MC RX8 cX8_behind 2 (some .int) G A p s m args meth c := C
  have hl : lv_has ls 2 [(0, .ref o_t), (1, .int x1)] := hl
  refine lv_iload_n C.hx C.hb dX8_behind_0 rfl (lv_at hl 1 rfl) ?_
  refine lv_aload_n C.hx C.hb dX8_behind_1 rfl (lv_at hl 0 rfl) ?_
  refine g_get C h fl_X8_27 0 0 rfl rfl (v := .int (v_t.1 6)) rfl dX8_behind_2 ?_
  refine lv_iand C.hx C.hb dX8_behind_5 ?_
  refine lv_aload_n C.hx C.hb dX8_behind_6 rfl (lv_at hl 0 rfl) ?_
  refine g_get C h fl_X8_30 0 0 rfl rfl (v := .int (v_t.1 7)) rfl dX8_behind_7 ?_
  refine lv_ixor C.hx C.hb dX8_behind_10 ?_
  obtain rfl := Option.some.inj hf
  exact g_ret_i C h rfl rfl dX8_behind_11

def b_X9_remember_30  (v_t : US)  : Option (US) :=
  if (v_t.1 15) < 0 ∨ 10 ≤ (v_t.1 15).toNatClampNeg then none else (bnd (upa v_t 16 ((v_t.1 15).toNatClampNeg) (v_t.1 7)) fun zw2 => some (upi zw2 15 ((v_t.1 15) + 1)))
def f_X9_remember (v_t : US)  : Option (US) :=
  if (v_t.1 15) < 10 then (b_X9_remember_30 v_t) else (bnd (upr v_t 16 (va_cpy (v_t.2.2 16) (v_t.2.2 16) 1 0 9)) fun zw2 => b_X9_remember_30 (upi zw2 15 9))
set_option maxRecDepth 100000 in
set_option maxHeartbeats 4000000 in
theorem w_X9_remember_30 {p : Program} {l : Launch} {e : Env} {s : State} {m : MethodId} {args : Array Value} {below : List Frame} {meth : Method} {c : Code} {G : GG} {A : Nat → Prop} {o_t : Nat} {a_t : Nat → Nat}  {v_t : US}  {res : US} (C : MC RX9 cX9_remember 1 none G A p s m args meth c)  (hf : b_X9_remember_30 v_t = some res) {H : Heap} {locs : List Loc} {ls : Array Slot} (h : HP G A s [uX9 G o_t a_t v_t] H locs) (hl : lv_has ls 1 [(0, .ref o_t)]) : W p l e (rmm 1) s m args below meth c H locs 0 0 (QV below G A args s  [uX9 G o_t a_t res]) (F0 m 30 ls []) := by
  unfold b_X9_remember_30 at hf
  refine lv_aload_n C.hx C.hb dX9_remember_30 rfl (lv_at hl 0 rfl) ?_
  refine g_get C h fl_X9_61 0 0 rfl rfl (v := .ref (a_t 16)) rfl dX9_remember_31 ?_
  refine lv_aload_n C.hx C.hb dX9_remember_34 rfl (lv_at hl 0 rfl) ?_
  refine g_get C h fl_X9_58 0 0 rfl rfl (v := .int (v_t.1 15)) rfl dX9_remember_35 ?_
  refine lv_aload_n C.hx C.hb dX9_remember_38 rfl (lv_at hl 0 rfl) ?_
  refine g_get C h fl_X9_34 0 0 rfl rfl (v := .int (v_t.1 7)) rfl dX9_remember_39 ?_
  obtain ⟨zi1, hf⟩ := ck_some hf
  refine g_iast C h 0 10 rfl rfl (f := v_t.2.2 16) zi1 dX9_remember_42 (u' := uX9 G o_t a_t (upa v_t 16 ((v_t.1 15).toNatClampNeg) (v_t.1 7))) (us' := [uX9 G o_t a_t (upa v_t 16 ((v_t.1 15).toNatClampNeg) (v_t.1 7))]) rfl rfl (fun H locs h => ?_)
  refine lv_aload_n C.hx C.hb dX9_remember_43 rfl (lv_at hl 0 rfl) ?_
  refine lv_dup C.hx C.hb dX9_remember_44 rfl ?_
  refine g_get C h fl_X9_58 0 0 rfl rfl (v := .int (v_t.1 15)) rfl dX9_remember_45 ?_
  refine lv_iconst (v := 1) C.hx C.hb dX9_remember_48 (by decide) ?_
  refine lv_iadd C.hx C.hb dX9_remember_49 ?_
  obtain ⟨zw2, hzw2, hf⟩ := bnd_some hf
  rw [← hzw2] at h
  refine g_put C h fp_X9_58 0 0 rfl rfl rfl rfl (Nat.le_of_ble_eq_true rfl) dX9_remember_50 (u' := uX9 G o_t a_t (upi zw2 15 ((v_t.1 15) + 1))) (us' := [uX9 G o_t a_t (upi zw2 15 ((v_t.1 15) + 1))]) rfl rfl (fun H locs h => ?_)
  obtain rfl := Option.some.inj hf
  exact g_ret_v C h rfl dX9_remember_53
set_option maxRecDepth 100000 in
set_option maxHeartbeats 4000000 in
theorem c_X9_remember (l : Launch) (G : GG) (o_t : Nat) (a_t : Nat → Nat) {v_t : US}  {res : US} (hf : f_X9_remember v_t = some res) : MV l yX9_remember cX9_remember 1 none 1 [.ref o_t] G [uX9 G o_t a_t v_t]  [uX9 G o_t a_t res] := by
  unfold f_X9_remember at hf
  refine MV.intro (by decide) rfl (Nat.le_of_ble_eq_true rfl) (fun p e s m args below meth c A ls C h hl => ?_)
  have C : MC RX9 cX9_remember 1 none G A p s m args meth c := C
  have hl : lv_has ls 1 [(0, .ref o_t)] := hl
  refine lv_aload_n C.hx C.hb dX9_remember_0 rfl (lv_at hl 0 rfl) ?_
  refine g_get C h fl_X9_58 0 0 rfl rfl (v := .int (v_t.1 15)) rfl dX9_remember_1 ?_
  refine lv_bipush (v := 10) C.hx C.hb dX9_remember_4 (by decide) ?_
  refine lv_icmp_lt (tgt := 30) C.hx C.hb dX9_remember_6 (by decide) (fun zc1 => ?_) (fun zc1 => ?_)
  · replace hf := it_t zc1 hf
    exact w_X9_remember_30 C  hf h (lv_sub hl [0] rfl)
  · replace hf := it_f zc1 hf
    refine lv_aload_n C.hx C.hb dX9_remember_9 rfl (lv_at hl 0 rfl) ?_
    refine g_get C h fl_X9_61 0 0 rfl rfl (v := .ref (a_t 16)) rfl dX9_remember_10 ?_
    refine lv_iconst (v := 1) C.hx C.hb dX9_remember_13 (by decide) ?_
    refine lv_aload_n C.hx C.hb dX9_remember_14 rfl (lv_at hl 0 rfl) ?_
    refine g_get C h fl_X9_61 0 0 rfl rfl (v := .ref (a_t 16)) rfl dX9_remember_15 ?_
    refine lv_iconst (v := 0) C.hx C.hb dX9_remember_18 (by decide) ?_
    refine lv_bipush (v := 9) C.hx C.hb dX9_remember_19 (by decide) ?_
    refine g_copy C h hl.1 ml_X9_64 ac_n ac_s ac_i 0 10 0 10 rfl rfl (f := v_t.2.2 16) (g := v_t.2.2 16) rfl rfl 1 0 9 (by decide) (Nat.le_of_ble_eq_true rfl) (Nat.le_of_ble_eq_true rfl) (Nat.le_of_ble_eq_true rfl) (Nat.le_of_ble_eq_true rfl) dX9_remember_21 (u' := uX9 G o_t a_t (upr v_t 16 (va_cpy (v_t.2.2 16) (v_t.2.2 16) 1 0 9))) (us' := [uX9 G o_t a_t (upr v_t 16 (va_cpy (v_t.2.2 16) (v_t.2.2 16) 1 0 9))]) rfl rfl (fun H locs h => ?_)
    refine lv_aload_n C.hx C.hb dX9_remember_24 rfl (lv_at hl 0 rfl) ?_
    refine lv_bipush (v := 9) C.hx C.hb dX9_remember_25 (by decide) ?_
    obtain ⟨zw2, hzw2, hf⟩ := bnd_some hf
    rw [← hzw2] at h
    refine g_put C h fp_X9_58 0 0 rfl rfl rfl rfl (Nat.le_of_ble_eq_true rfl) dX9_remember_27 (u' := uX9 G o_t a_t (upi zw2 15 9)) (us' := [uX9 G o_t a_t (upi zw2 15 9)]) rfl rfl (fun H locs h => ?_)
    exact w_X9_remember_30 C  hf h (lv_sub hl [0] rfl)

def f_X9_hasSet (v_t : US) (x1 : Int32) : Option (Bool) :=
  (f_X11_within x1 0 ((1 <<< ((v_t.1 0) &&& 31)) - 1)).bind fun zr1 => some (zr1)
set_option maxRecDepth 100000 in
set_option maxHeartbeats 4000000 in
theorem c_X9_hasSet (l : Launch) (G : GG) (o_t : Nat) (a_t : Nat → Nat) {v_t : US} {x1 : Int32} {res : Bool} (hf : f_X9_hasSet v_t x1 = some res) : MI l yX9_hasSet cX9_hasSet 2 (some .boolean) 2 [.ref o_t, .int x1] G [uX9 G o_t a_t v_t] (b2i res) [uX9 G o_t a_t v_t] := by
  unfold f_X9_hasSet at hf
  refine MI.intro (by decide) rfl (Nat.le_of_ble_eq_true rfl) (fun p e s m args below meth c A ls C h hl => ?_)
  have C : MC RX9 cX9_hasSet 2 (some .boolean) G A p s m args meth c := C
  have hl : lv_has ls 2 [(0, .ref o_t), (1, .int x1)] := hl
  refine lv_iload_n C.hx C.hb dX9_hasSet_0 rfl (lv_at hl 1 rfl) ?_
  refine lv_iconst (v := 0) C.hx C.hb dX9_hasSet_1 (by decide) ?_
  refine lv_iconst (v := 1) C.hx C.hb dX9_hasSet_2 (by decide) ?_
  refine lv_aload_n C.hx C.hb dX9_hasSet_3 rfl (lv_at hl 0 rfl) ?_
  refine g_get C h fl_X9_9 0 0 rfl rfl (v := .int (v_t.1 0)) rfl dX9_hasSet_4 ?_
  refine lv_ishl C.hx C.hb dX9_hasSet_7 ?_
  refine lv_iconst (v := 1) C.hx C.hb dX9_hasSet_8 (by decide) ?_
  refine lv_isub C.hx C.hb dX9_hasSet_9 ?_
  obtain ⟨zr1, zq2, hf⟩ := bd_some hf
  have zm3 := c_X11_within l G  (hf := zq2)
  refine g_goI C h zm3.1 (is := []) rfl rfl (g_runN C h (is := []) rfl rfl (As := [.int x1, .int 0, .int ((1 <<< ((v_t.1 0) &&& 31)) - 1)]) (rest := []) (zm3.2 _) nf_X9_70 hl.1 rfl rfl (Nat.le_of_ble_eq_true rfl) dX9_hasSet_10 ⟨Nat.le_of_ble_eq_true rfl, Nat.le_of_ble_eq_true rfl⟩ ⟨Nat.le_refl _, Nat.le_refl _⟩) (us2 := [uX9 G o_t a_t v_t]) rfl (fun H locs h => ?_)
  obtain rfl := Option.some.inj hf
  exact g_ret_z (b := _) C h rfl rfl rfl dX9_hasSet_13

def b_X9_mixInto_158 (N : Nat) (g158 : US → Int64 → Int32 → Option (Int64)) (v_t : US) (y3 : Int64) (y5 : Int32) : Option (Int64) :=
  if (v_t.1 11) ≤ y5 then (some (y3)) else (if y5 < 0 ∨ 4 ≤ y5.toNatClampNeg then none else (if y5 < 0 ∨ 4 ≤ y5.toNatClampNeg then none else (if y5 < 0 ∨ 4 ≤ y5.toNatClampNeg then none else (g158 v_t ((31 * ((31 * ((31 * y3) + (((v_t.2.2 12) y5.toNatClampNeg).toInt64))) + (((v_t.2.2 13) y5.toNatClampNeg).toInt64))) + (((v_t.2.2 14) y5.toNatClampNeg).toInt64)) (y5 + 1)))))
def f_X9_mixInto_158 (N : Nat)  : Nat → US → Int64 → Int32 → Option (Int64)
  | 0 => fun _ _ _ => none
  | k + 1 => fun q0 q1 q2 => b_X9_mixInto_158 N  (f_X9_mixInto_158 N  k) q0 q1 q2
def b_X9_mixInto_110 (N : Nat) (g110 : US → Int64 → Int32 → Option (Int64)) (v_t : US) (y3 : Int64) (y5 : Int32) : Option (Int64) :=
  if (v_t.1 8) ≤ y5 then (f_X9_mixInto_158 N N v_t y3 0) else (if y5 < 0 ∨ 5 ≤ y5.toNatClampNeg then none else (if y5 < 0 ∨ 5 ≤ y5.toNatClampNeg then none else (g110 v_t ((31 * ((31 * y3) + (((v_t.2.2 9) y5.toNatClampNeg).toInt64))) + (((v_t.2.2 10) y5.toNatClampNeg).toInt64)) (y5 + 1))))
def f_X9_mixInto_110 (N : Nat)  : Nat → US → Int64 → Int32 → Option (Int64)
  | 0 => fun _ _ _ => none
  | k + 1 => fun q0 q1 q2 => b_X9_mixInto_110 N  (f_X9_mixInto_110 N  k) q0 q1 q2
def b_X9_mixInto_15 (N : Nat) (g15 : US → Int64 → Int32 → Option (Int64)) (v_t : US) (y3 : Int64) (y5 : Int32) : Option (Int64) :=
  if (v_t.1 0) ≤ y5 then (f_X9_mixInto_110 N N v_t y3 0) else (if y5 < 0 ∨ 5 ≤ y5.toNatClampNeg then none else (if y5 < 0 ∨ 5 ≤ y5.toNatClampNeg then none else (if y5 < 0 ∨ 5 ≤ y5.toNatClampNeg then none else (if y5 < 0 ∨ 5 ≤ y5.toNatClampNeg then none else (g15 v_t ((31 * ((31 * ((31 * ((31 * ((31 * y3) + (((v_t.2.2 1) y5.toNatClampNeg).toInt64))) + (((v_t.2.2 2) y5.toNatClampNeg).toInt64))) + (((v_t.2.2 3) y5.toNatClampNeg).toInt64))) + (((v_t.2.2 4) y5.toNatClampNeg).toInt64))) + ((((v_t.1 5) >>> (y5 &&& 31)) &&& 1).toInt64)) (y5 + 1))))))
def f_X9_mixInto_15 (N : Nat)  : Nat → US → Int64 → Int32 → Option (Int64)
  | 0 => fun _ _ _ => none
  | k + 1 => fun q0 q1 q2 => b_X9_mixInto_15 N  (f_X9_mixInto_15 N  k) q0 q1 q2
def f_X9_mixInto (N : Nat) (v_t : US) (x1 : Int64) : Option (Int64) :=
  f_X9_mixInto_15 N N v_t ((31 * x1) + ((v_t.1 7).toInt64)) 0
set_option maxRecDepth 100000 in
set_option maxHeartbeats 4000000 in
theorem w_X9_mixInto_158 {p : Program} {l : Launch} {e : Env} {s : State} {m : MethodId} {args : Array Value} {below : List Frame} {meth : Method} {c : Code} {G : GG} {A : Nat → Prop} {o_t : Nat} {a_t : Nat → Nat} {N : Nat} {g158 : US → Int64 → Int32 → Option (Int64)} {v_t : US} {y3 : Int64} {y5 : Int32} {res : Int64} (C : MC RX9 cX9_mixInto 6 (some .long) G A p s m args meth c) (hg158 : ∀ {v_t : US} {y3 : Int64} {y5 : Int32}, g158 v_t y3 y5 = some res → ∀ {H : Heap} {locs : List Loc} {ls : Array Slot}, HP G A s [uX9 G o_t a_t v_t] H locs → lv_has ls 6 [(0, .ref o_t), (3, .long y3), (5, .int y5)] → W p l e (rmm 1) s m args below meth c H locs 0 0 (QL below G A args s res [uX9 G o_t a_t v_t]) (F0 m 158 ls [])) (hf : b_X9_mixInto_158 N g158 v_t y3 y5 = some res) {H : Heap} {locs : List Loc} {ls : Array Slot} (h : HP G A s [uX9 G o_t a_t v_t] H locs) (hl : lv_has ls 6 [(0, .ref o_t), (3, .long y3), (5, .int y5)]) : W p l e (rmm 1) s m args below meth c H locs 0 0 (QL below G A args s res [uX9 G o_t a_t v_t]) (F0 m 158 ls []) := by
  unfold b_X9_mixInto_158 at hf
  refine lv_iload C.hx C.hb dX9_mixInto_158 (lv_at hl 2 rfl) ?_
  refine lv_aload_n C.hx C.hb dX9_mixInto_160 rfl (lv_at hl 0 rfl) ?_
  refine g_get C h fl_X9_46 0 0 rfl rfl (v := .int (v_t.1 11)) rfl dX9_mixInto_161 ?_
  refine lv_icmp_ge (tgt := 218) C.hx C.hb dX9_mixInto_164 (by decide) (fun zc1 => ?_) (fun zc1 => ?_)
  · replace hf := it_t zc1 hf
    refine lv_lload_n C.hx C.hb dX9_mixInto_218 rfl (lv_at hl 1 rfl) ?_
    obtain rfl := Option.some.inj hf
    exact g_ret_l C h rfl rfl dX9_mixInto_219
  · replace hf := it_f zc1 hf
    refine lv_ldc2 C.hx C.hb C.hown (C.hts _ cw_X9_84) dX9_mixInto_167 ?_
    refine lv_lload_n C.hx C.hb dX9_mixInto_170 rfl (lv_at hl 1 rfl) ?_
    refine lv_lmul C.hx C.hb dX9_mixInto_171 ?_
    refine lv_aload_n C.hx C.hb dX9_mixInto_172 rfl (lv_at hl 0 rfl) ?_
    refine g_get C h fl_X9_49 0 0 rfl rfl (v := .ref (a_t 12)) rfl dX9_mixInto_173 ?_
    refine lv_iload C.hx C.hb dX9_mixInto_176 (lv_at hl 2 rfl) ?_
    obtain ⟨zi2, hf⟩ := ck_some hf
    refine g_iald C h 0 7 rfl rfl (f := v_t.2.2 12) zi2 dX9_mixInto_178 ?_
    refine lv_i2l C.hx C.hb dX9_mixInto_179 rfl ?_
    refine lv_ladd C.hx C.hb dX9_mixInto_180 ?_
    refine lv_lstore_n (lv' := [(3, .long ((31 * y3) + (((v_t.2.2 12) y5.toNatClampNeg).toInt64))), (0, .ref o_t), (5, .int y5)]) C.hx C.hb dX9_mixInto_181 rfl hl (by decide) rfl (fun ls hl => ?_)
    refine lv_ldc2 C.hx C.hb C.hown (C.hts _ cw_X9_84) dX9_mixInto_182 ?_
    refine lv_lload_n C.hx C.hb dX9_mixInto_185 rfl (lv_at hl 0 rfl) ?_
    refine lv_lmul C.hx C.hb dX9_mixInto_186 ?_
    refine lv_aload_n C.hx C.hb dX9_mixInto_187 rfl (lv_at hl 1 rfl) ?_
    refine g_get C h fl_X9_52 0 0 rfl rfl (v := .ref (a_t 13)) rfl dX9_mixInto_188 ?_
    refine lv_iload C.hx C.hb dX9_mixInto_191 (lv_at hl 2 rfl) ?_
    obtain ⟨zi3, hf⟩ := ck_some hf
    refine g_iald C h 0 8 rfl rfl (f := v_t.2.2 13) zi3 dX9_mixInto_193 ?_
    refine lv_i2l C.hx C.hb dX9_mixInto_194 rfl ?_
    refine lv_ladd C.hx C.hb dX9_mixInto_195 ?_
    refine lv_lstore_n (lv' := [(3, .long ((31 * ((31 * y3) + (((v_t.2.2 12) y5.toNatClampNeg).toInt64))) + (((v_t.2.2 13) y5.toNatClampNeg).toInt64))), (0, .ref o_t), (5, .int y5)]) C.hx C.hb dX9_mixInto_196 rfl hl (by decide) rfl (fun ls hl => ?_)
    refine lv_ldc2 C.hx C.hb C.hown (C.hts _ cw_X9_84) dX9_mixInto_197 ?_
    refine lv_lload_n C.hx C.hb dX9_mixInto_200 rfl (lv_at hl 0 rfl) ?_
    refine lv_lmul C.hx C.hb dX9_mixInto_201 ?_
    refine lv_aload_n C.hx C.hb dX9_mixInto_202 rfl (lv_at hl 1 rfl) ?_
    refine g_get C h fl_X9_55 0 0 rfl rfl (v := .ref (a_t 14)) rfl dX9_mixInto_203 ?_
    refine lv_iload C.hx C.hb dX9_mixInto_206 (lv_at hl 2 rfl) ?_
    obtain ⟨zi4, hf⟩ := ck_some hf
    refine g_iald C h 0 9 rfl rfl (f := v_t.2.2 14) zi4 dX9_mixInto_208 ?_
    refine lv_i2l C.hx C.hb dX9_mixInto_209 rfl ?_
    refine lv_ladd C.hx C.hb dX9_mixInto_210 ?_
    refine lv_lstore_n (lv' := [(3, .long ((31 * ((31 * ((31 * y3) + (((v_t.2.2 12) y5.toNatClampNeg).toInt64))) + (((v_t.2.2 13) y5.toNatClampNeg).toInt64))) + (((v_t.2.2 14) y5.toNatClampNeg).toInt64))), (0, .ref o_t), (5, .int y5)]) C.hx C.hb dX9_mixInto_211 rfl hl (by decide) rfl (fun ls hl => ?_)
    refine lv_iinc (v := y5 + 1) (lv' := [(5, .int (y5 + 1)), (3, .long ((31 * ((31 * ((31 * y3) + (((v_t.2.2 12) y5.toNatClampNeg).toInt64))) + (((v_t.2.2 13) y5.toNatClampNeg).toInt64))) + (((v_t.2.2 14) y5.toNatClampNeg).toInt64))), (0, .ref o_t)]) C.hx C.hb dX9_mixInto_212 hl (k := 2) rfl rfl (by decide) rfl (fun ls hl => ?_)
    refine lv_goto (tgt := 158) C.hx C.hb dX9_mixInto_215 (by decide) ?_
    exact hg158 hf h (lv_sub hl [2, 1, 0] rfl)
set_option maxRecDepth 100000 in
set_option maxHeartbeats 4000000 in
theorem l_X9_mixInto_158 {p : Program} {l : Launch} {e : Env} {s : State} {m : MethodId} {args : Array Value} {below : List Frame} {meth : Method} {c : Code} {G : GG} {A : Nat → Prop} {o_t : Nat} {a_t : Nat → Nat} {N : Nat}  {res : Int64} (C : MC RX9 cX9_mixInto 6 (some .long) G A p s m args meth c)  : ∀ (k : Nat) {v_t : US} {y3 : Int64} {y5 : Int32}, f_X9_mixInto_158 N k v_t y3 y5 = some res → ∀ {H : Heap} {locs : List Loc} {ls : Array Slot}, HP G A s [uX9 G o_t a_t v_t] H locs → lv_has ls 6 [(0, .ref o_t), (3, .long y3), (5, .int y5)] → W p l e (rmm 1) s m args below meth c H locs 0 0 (QL below G A args s res [uX9 G o_t a_t v_t]) (F0 m 158 ls []) := by
  intro k
  induction k with
  | zero => intros; contradiction
  | succ k ih =>
    intro v_t y3 y5 hf H locs ls h hl
    exact w_X9_mixInto_158 (N := N) C ih hf h hl
set_option maxRecDepth 100000 in
set_option maxHeartbeats 4000000 in
theorem w_X9_mixInto_110 {p : Program} {l : Launch} {e : Env} {s : State} {m : MethodId} {args : Array Value} {below : List Frame} {meth : Method} {c : Code} {G : GG} {A : Nat → Prop} {o_t : Nat} {a_t : Nat → Nat} {N : Nat} {g110 : US → Int64 → Int32 → Option (Int64)} {v_t : US} {y3 : Int64} {y5 : Int32} {res : Int64} (C : MC RX9 cX9_mixInto 6 (some .long) G A p s m args meth c) (hg110 : ∀ {v_t : US} {y3 : Int64} {y5 : Int32}, g110 v_t y3 y5 = some res → ∀ {H : Heap} {locs : List Loc} {ls : Array Slot}, HP G A s [uX9 G o_t a_t v_t] H locs → lv_has ls 6 [(0, .ref o_t), (3, .long y3), (5, .int y5)] → W p l e (rmm 1) s m args below meth c H locs 0 0 (QL below G A args s res [uX9 G o_t a_t v_t]) (F0 m 110 ls [])) (hf : b_X9_mixInto_110 N g110 v_t y3 y5 = some res) {H : Heap} {locs : List Loc} {ls : Array Slot} (h : HP G A s [uX9 G o_t a_t v_t] H locs) (hl : lv_has ls 6 [(0, .ref o_t), (3, .long y3), (5, .int y5)]) : W p l e (rmm 1) s m args below meth c H locs 0 0 (QL below G A args s res [uX9 G o_t a_t v_t]) (F0 m 110 ls []) := by
  unfold b_X9_mixInto_110 at hf
  refine lv_iload C.hx C.hb dX9_mixInto_110 (lv_at hl 2 rfl) ?_
  refine lv_aload_n C.hx C.hb dX9_mixInto_112 rfl (lv_at hl 0 rfl) ?_
  refine g_get C h fl_X9_37 0 0 rfl rfl (v := .int (v_t.1 8)) rfl dX9_mixInto_113 ?_
  refine lv_icmp_ge (tgt := 155) C.hx C.hb dX9_mixInto_116 (by decide) (fun zc1 => ?_) (fun zc1 => ?_)
  · replace hf := it_t zc1 hf
    refine lv_iconst (v := 0) C.hx C.hb dX9_mixInto_155 (by decide) ?_
    refine lv_istore (lv' := [(5, .int 0), (0, .ref o_t), (3, .long y3)]) C.hx C.hb dX9_mixInto_156 hl (by decide) rfl (fun ls hl => ?_)
    exact l_X9_mixInto_158 C N hf h (lv_sub hl [1, 2, 0] rfl)
  · replace hf := it_f zc1 hf
    refine lv_ldc2 C.hx C.hb C.hown (C.hts _ cw_X9_84) dX9_mixInto_119 ?_
    refine lv_lload_n C.hx C.hb dX9_mixInto_122 rfl (lv_at hl 1 rfl) ?_
    refine lv_lmul C.hx C.hb dX9_mixInto_123 ?_
    refine lv_aload_n C.hx C.hb dX9_mixInto_124 rfl (lv_at hl 0 rfl) ?_
    refine g_get C h fl_X9_40 0 0 rfl rfl (v := .ref (a_t 9)) rfl dX9_mixInto_125 ?_
    refine lv_iload C.hx C.hb dX9_mixInto_128 (lv_at hl 2 rfl) ?_
    obtain ⟨zi2, hf⟩ := ck_some hf
    refine g_iald C h 0 5 rfl rfl (f := v_t.2.2 9) zi2 dX9_mixInto_130 ?_
    refine lv_i2l C.hx C.hb dX9_mixInto_131 rfl ?_
    refine lv_ladd C.hx C.hb dX9_mixInto_132 ?_
    refine lv_lstore_n (lv' := [(3, .long ((31 * y3) + (((v_t.2.2 9) y5.toNatClampNeg).toInt64))), (0, .ref o_t), (5, .int y5)]) C.hx C.hb dX9_mixInto_133 rfl hl (by decide) rfl (fun ls hl => ?_)
    refine lv_ldc2 C.hx C.hb C.hown (C.hts _ cw_X9_84) dX9_mixInto_134 ?_
    refine lv_lload_n C.hx C.hb dX9_mixInto_137 rfl (lv_at hl 0 rfl) ?_
    refine lv_lmul C.hx C.hb dX9_mixInto_138 ?_
    refine lv_aload_n C.hx C.hb dX9_mixInto_139 rfl (lv_at hl 1 rfl) ?_
    refine g_get C h fl_X9_43 0 0 rfl rfl (v := .ref (a_t 10)) rfl dX9_mixInto_140 ?_
    refine lv_iload C.hx C.hb dX9_mixInto_143 (lv_at hl 2 rfl) ?_
    obtain ⟨zi3, hf⟩ := ck_some hf
    refine g_iald C h 0 6 rfl rfl (f := v_t.2.2 10) zi3 dX9_mixInto_145 ?_
    refine lv_i2l C.hx C.hb dX9_mixInto_146 rfl ?_
    refine lv_ladd C.hx C.hb dX9_mixInto_147 ?_
    refine lv_lstore_n (lv' := [(3, .long ((31 * ((31 * y3) + (((v_t.2.2 9) y5.toNatClampNeg).toInt64))) + (((v_t.2.2 10) y5.toNatClampNeg).toInt64))), (0, .ref o_t), (5, .int y5)]) C.hx C.hb dX9_mixInto_148 rfl hl (by decide) rfl (fun ls hl => ?_)
    refine lv_iinc (v := y5 + 1) (lv' := [(5, .int (y5 + 1)), (3, .long ((31 * ((31 * y3) + (((v_t.2.2 9) y5.toNatClampNeg).toInt64))) + (((v_t.2.2 10) y5.toNatClampNeg).toInt64))), (0, .ref o_t)]) C.hx C.hb dX9_mixInto_149 hl (k := 2) rfl rfl (by decide) rfl (fun ls hl => ?_)
    refine lv_goto (tgt := 110) C.hx C.hb dX9_mixInto_152 (by decide) ?_
    exact hg110 hf h (lv_sub hl [2, 1, 0] rfl)
set_option maxRecDepth 100000 in
set_option maxHeartbeats 4000000 in
theorem l_X9_mixInto_110 {p : Program} {l : Launch} {e : Env} {s : State} {m : MethodId} {args : Array Value} {below : List Frame} {meth : Method} {c : Code} {G : GG} {A : Nat → Prop} {o_t : Nat} {a_t : Nat → Nat} {N : Nat}  {res : Int64} (C : MC RX9 cX9_mixInto 6 (some .long) G A p s m args meth c)  : ∀ (k : Nat) {v_t : US} {y3 : Int64} {y5 : Int32}, f_X9_mixInto_110 N k v_t y3 y5 = some res → ∀ {H : Heap} {locs : List Loc} {ls : Array Slot}, HP G A s [uX9 G o_t a_t v_t] H locs → lv_has ls 6 [(0, .ref o_t), (3, .long y3), (5, .int y5)] → W p l e (rmm 1) s m args below meth c H locs 0 0 (QL below G A args s res [uX9 G o_t a_t v_t]) (F0 m 110 ls []) := by
  intro k
  induction k with
  | zero => intros; contradiction
  | succ k ih =>
    intro v_t y3 y5 hf H locs ls h hl
    exact w_X9_mixInto_110 (N := N) C ih hf h hl
set_option maxRecDepth 100000 in
set_option maxHeartbeats 4000000 in
theorem w_X9_mixInto_15 {p : Program} {l : Launch} {e : Env} {s : State} {m : MethodId} {args : Array Value} {below : List Frame} {meth : Method} {c : Code} {G : GG} {A : Nat → Prop} {o_t : Nat} {a_t : Nat → Nat} {N : Nat} {g15 : US → Int64 → Int32 → Option (Int64)} {v_t : US} {y3 : Int64} {y5 : Int32} {res : Int64} (C : MC RX9 cX9_mixInto 6 (some .long) G A p s m args meth c) (hg15 : ∀ {v_t : US} {y3 : Int64} {y5 : Int32}, g15 v_t y3 y5 = some res → ∀ {H : Heap} {locs : List Loc} {ls : Array Slot}, HP G A s [uX9 G o_t a_t v_t] H locs → lv_has ls 6 [(0, .ref o_t), (3, .long y3), (5, .int y5)] → W p l e (rmm 1) s m args below meth c H locs 0 0 (QL below G A args s res [uX9 G o_t a_t v_t]) (F0 m 15 ls [])) (hf : b_X9_mixInto_15 N g15 v_t y3 y5 = some res) {H : Heap} {locs : List Loc} {ls : Array Slot} (h : HP G A s [uX9 G o_t a_t v_t] H locs) (hl : lv_has ls 6 [(0, .ref o_t), (3, .long y3), (5, .int y5)]) : W p l e (rmm 1) s m args below meth c H locs 0 0 (QL below G A args s res [uX9 G o_t a_t v_t]) (F0 m 15 ls []) := by
  unfold b_X9_mixInto_15 at hf
  refine lv_iload C.hx C.hb dX9_mixInto_15 (lv_at hl 2 rfl) ?_
  refine lv_aload_n C.hx C.hb dX9_mixInto_17 rfl (lv_at hl 0 rfl) ?_
  refine g_get C h fl_X9_9 0 0 rfl rfl (v := .int (v_t.1 0)) rfl dX9_mixInto_18 ?_
  refine lv_icmp_ge (tgt := 107) C.hx C.hb dX9_mixInto_21 (by decide) (fun zc1 => ?_) (fun zc1 => ?_)
  · replace hf := it_t zc1 hf
    refine lv_iconst (v := 0) C.hx C.hb dX9_mixInto_107 (by decide) ?_
    refine lv_istore (lv' := [(5, .int 0), (0, .ref o_t), (3, .long y3)]) C.hx C.hb dX9_mixInto_108 hl (by decide) rfl (fun ls hl => ?_)
    exact l_X9_mixInto_110 C N hf h (lv_sub hl [1, 2, 0] rfl)
  · replace hf := it_f zc1 hf
    refine lv_ldc2 C.hx C.hb C.hown (C.hts _ cw_X9_84) dX9_mixInto_24 ?_
    refine lv_lload_n C.hx C.hb dX9_mixInto_27 rfl (lv_at hl 1 rfl) ?_
    refine lv_lmul C.hx C.hb dX9_mixInto_28 ?_
    refine lv_aload_n C.hx C.hb dX9_mixInto_29 rfl (lv_at hl 0 rfl) ?_
    refine g_get C h fl_X9_15 0 0 rfl rfl (v := .ref (a_t 1)) rfl dX9_mixInto_30 ?_
    refine lv_iload C.hx C.hb dX9_mixInto_33 (lv_at hl 2 rfl) ?_
    obtain ⟨zi2, hf⟩ := ck_some hf
    refine g_iald C h 0 1 rfl rfl (f := v_t.2.2 1) zi2 dX9_mixInto_35 ?_
    refine lv_i2l C.hx C.hb dX9_mixInto_36 rfl ?_
    refine lv_ladd C.hx C.hb dX9_mixInto_37 ?_
    refine lv_lstore_n (lv' := [(3, .long ((31 * y3) + (((v_t.2.2 1) y5.toNatClampNeg).toInt64))), (0, .ref o_t), (5, .int y5)]) C.hx C.hb dX9_mixInto_38 rfl hl (by decide) rfl (fun ls hl => ?_)
    refine lv_ldc2 C.hx C.hb C.hown (C.hts _ cw_X9_84) dX9_mixInto_39 ?_
    refine lv_lload_n C.hx C.hb dX9_mixInto_42 rfl (lv_at hl 0 rfl) ?_
    refine lv_lmul C.hx C.hb dX9_mixInto_43 ?_
    refine lv_aload_n C.hx C.hb dX9_mixInto_44 rfl (lv_at hl 1 rfl) ?_
    refine g_get C h fl_X9_19 0 0 rfl rfl (v := .ref (a_t 2)) rfl dX9_mixInto_45 ?_
    refine lv_iload C.hx C.hb dX9_mixInto_48 (lv_at hl 2 rfl) ?_
    obtain ⟨zi3, hf⟩ := ck_some hf
    refine g_iald C h 0 2 rfl rfl (f := v_t.2.2 2) zi3 dX9_mixInto_50 ?_
    refine lv_i2l C.hx C.hb dX9_mixInto_51 rfl ?_
    refine lv_ladd C.hx C.hb dX9_mixInto_52 ?_
    refine lv_lstore_n (lv' := [(3, .long ((31 * ((31 * y3) + (((v_t.2.2 1) y5.toNatClampNeg).toInt64))) + (((v_t.2.2 2) y5.toNatClampNeg).toInt64))), (0, .ref o_t), (5, .int y5)]) C.hx C.hb dX9_mixInto_53 rfl hl (by decide) rfl (fun ls hl => ?_)
    refine lv_ldc2 C.hx C.hb C.hown (C.hts _ cw_X9_84) dX9_mixInto_54 ?_
    refine lv_lload_n C.hx C.hb dX9_mixInto_57 rfl (lv_at hl 0 rfl) ?_
    refine lv_lmul C.hx C.hb dX9_mixInto_58 ?_
    refine lv_aload_n C.hx C.hb dX9_mixInto_59 rfl (lv_at hl 1 rfl) ?_
    refine g_get C h fl_X9_22 0 0 rfl rfl (v := .ref (a_t 3)) rfl dX9_mixInto_60 ?_
    refine lv_iload C.hx C.hb dX9_mixInto_63 (lv_at hl 2 rfl) ?_
    obtain ⟨zi4, hf⟩ := ck_some hf
    refine g_iald C h 0 3 rfl rfl (f := v_t.2.2 3) zi4 dX9_mixInto_65 ?_
    refine lv_i2l C.hx C.hb dX9_mixInto_66 rfl ?_
    refine lv_ladd C.hx C.hb dX9_mixInto_67 ?_
    refine lv_lstore_n (lv' := [(3, .long ((31 * ((31 * ((31 * y3) + (((v_t.2.2 1) y5.toNatClampNeg).toInt64))) + (((v_t.2.2 2) y5.toNatClampNeg).toInt64))) + (((v_t.2.2 3) y5.toNatClampNeg).toInt64))), (0, .ref o_t), (5, .int y5)]) C.hx C.hb dX9_mixInto_68 rfl hl (by decide) rfl (fun ls hl => ?_)
    refine lv_ldc2 C.hx C.hb C.hown (C.hts _ cw_X9_84) dX9_mixInto_69 ?_
    refine lv_lload_n C.hx C.hb dX9_mixInto_72 rfl (lv_at hl 0 rfl) ?_
    refine lv_lmul C.hx C.hb dX9_mixInto_73 ?_
    refine lv_aload_n C.hx C.hb dX9_mixInto_74 rfl (lv_at hl 1 rfl) ?_
    refine g_get C h fl_X9_25 0 0 rfl rfl (v := .ref (a_t 4)) rfl dX9_mixInto_75 ?_
    refine lv_iload C.hx C.hb dX9_mixInto_78 (lv_at hl 2 rfl) ?_
    obtain ⟨zi5, hf⟩ := ck_some hf
    refine g_iald C h 0 4 rfl rfl (f := v_t.2.2 4) zi5 dX9_mixInto_80 ?_
    refine lv_i2l C.hx C.hb dX9_mixInto_81 rfl ?_
    refine lv_ladd C.hx C.hb dX9_mixInto_82 ?_
    refine lv_lstore_n (lv' := [(3, .long ((31 * ((31 * ((31 * ((31 * y3) + (((v_t.2.2 1) y5.toNatClampNeg).toInt64))) + (((v_t.2.2 2) y5.toNatClampNeg).toInt64))) + (((v_t.2.2 3) y5.toNatClampNeg).toInt64))) + (((v_t.2.2 4) y5.toNatClampNeg).toInt64))), (0, .ref o_t), (5, .int y5)]) C.hx C.hb dX9_mixInto_83 rfl hl (by decide) rfl (fun ls hl => ?_)
    refine lv_ldc2 C.hx C.hb C.hown (C.hts _ cw_X9_84) dX9_mixInto_84 ?_
    refine lv_lload_n C.hx C.hb dX9_mixInto_87 rfl (lv_at hl 0 rfl) ?_
    refine lv_lmul C.hx C.hb dX9_mixInto_88 ?_
    refine lv_aload_n C.hx C.hb dX9_mixInto_89 rfl (lv_at hl 1 rfl) ?_
    refine g_get C h fl_X9_28 0 0 rfl rfl (v := .int (v_t.1 5)) rfl dX9_mixInto_90 ?_
    refine lv_iload C.hx C.hb dX9_mixInto_93 (lv_at hl 2 rfl) ?_
    refine lv_ishr C.hx C.hb dX9_mixInto_95 ?_
    refine lv_iconst (v := 1) C.hx C.hb dX9_mixInto_96 (by decide) ?_
    refine lv_iand C.hx C.hb dX9_mixInto_97 ?_
    refine lv_i2l C.hx C.hb dX9_mixInto_98 rfl ?_
    refine lv_ladd C.hx C.hb dX9_mixInto_99 ?_
    refine lv_lstore_n (lv' := [(3, .long ((31 * ((31 * ((31 * ((31 * ((31 * y3) + (((v_t.2.2 1) y5.toNatClampNeg).toInt64))) + (((v_t.2.2 2) y5.toNatClampNeg).toInt64))) + (((v_t.2.2 3) y5.toNatClampNeg).toInt64))) + (((v_t.2.2 4) y5.toNatClampNeg).toInt64))) + ((((v_t.1 5) >>> (y5 &&& 31)) &&& 1).toInt64))), (0, .ref o_t), (5, .int y5)]) C.hx C.hb dX9_mixInto_100 rfl hl (by decide) rfl (fun ls hl => ?_)
    refine lv_iinc (v := y5 + 1) (lv' := [(5, .int (y5 + 1)), (3, .long ((31 * ((31 * ((31 * ((31 * ((31 * y3) + (((v_t.2.2 1) y5.toNatClampNeg).toInt64))) + (((v_t.2.2 2) y5.toNatClampNeg).toInt64))) + (((v_t.2.2 3) y5.toNatClampNeg).toInt64))) + (((v_t.2.2 4) y5.toNatClampNeg).toInt64))) + ((((v_t.1 5) >>> (y5 &&& 31)) &&& 1).toInt64))), (0, .ref o_t)]) C.hx C.hb dX9_mixInto_101 hl (k := 2) rfl rfl (by decide) rfl (fun ls hl => ?_)
    refine lv_goto (tgt := 15) C.hx C.hb dX9_mixInto_104 (by decide) ?_
    exact hg15 hf h (lv_sub hl [2, 1, 0] rfl)
set_option maxRecDepth 100000 in
set_option maxHeartbeats 4000000 in
theorem l_X9_mixInto_15 {p : Program} {l : Launch} {e : Env} {s : State} {m : MethodId} {args : Array Value} {below : List Frame} {meth : Method} {c : Code} {G : GG} {A : Nat → Prop} {o_t : Nat} {a_t : Nat → Nat} {N : Nat}  {res : Int64} (C : MC RX9 cX9_mixInto 6 (some .long) G A p s m args meth c)  : ∀ (k : Nat) {v_t : US} {y3 : Int64} {y5 : Int32}, f_X9_mixInto_15 N k v_t y3 y5 = some res → ∀ {H : Heap} {locs : List Loc} {ls : Array Slot}, HP G A s [uX9 G o_t a_t v_t] H locs → lv_has ls 6 [(0, .ref o_t), (3, .long y3), (5, .int y5)] → W p l e (rmm 1) s m args below meth c H locs 0 0 (QL below G A args s res [uX9 G o_t a_t v_t]) (F0 m 15 ls []) := by
  intro k
  induction k with
  | zero => intros; contradiction
  | succ k ih =>
    intro v_t y3 y5 hf H locs ls h hl
    exact w_X9_mixInto_15 (N := N) C ih hf h hl
set_option maxRecDepth 100000 in
set_option maxHeartbeats 4000000 in
theorem c_X9_mixInto (l : Launch) (G : GG) (o_t : Nat) (a_t : Nat → Nat) (N : Nat) {v_t : US} {x1 : Int64} {res : Int64} (hf : f_X9_mixInto N v_t x1 = some res) : ML l yX9_mixInto cX9_mixInto 6 (some .long) 1 [.ref o_t, .long x1] G [uX9 G o_t a_t v_t] res [uX9 G o_t a_t v_t] := by
  unfold f_X9_mixInto at hf
  refine ML.intro (by decide) rfl (Nat.le_of_ble_eq_true rfl) (fun p e s m args below meth c A ls C h hl => ?_)
  have C : MC RX9 cX9_mixInto 6 (some .long) G A p s m args meth c := C
  have hl : lv_has ls 6 [(0, .ref o_t), (1, .long x1)] := hl
  refine lv_ldc2 C.hx C.hb C.hown (C.hts _ cw_X9_84) dX9_mixInto_0 ?_
  refine lv_lload_n C.hx C.hb dX9_mixInto_3 rfl (lv_at hl 1 rfl) ?_
  refine lv_lmul C.hx C.hb dX9_mixInto_4 ?_
  refine lv_aload_n C.hx C.hb dX9_mixInto_5 rfl (lv_at hl 0 rfl) ?_
  refine g_get C h fl_X9_34 0 0 rfl rfl (v := .int (v_t.1 7)) rfl dX9_mixInto_6 ?_
  refine lv_i2l C.hx C.hb dX9_mixInto_9 rfl ?_
  refine lv_ladd C.hx C.hb dX9_mixInto_10 ?_
  refine lv_lstore_n (lv' := [(3, .long ((31 * x1) + ((v_t.1 7).toInt64))), (0, .ref o_t), (1, .long x1)]) C.hx C.hb dX9_mixInto_11 rfl hl (by decide) rfl (fun ls hl => ?_)
  refine lv_iconst (v := 0) C.hx C.hb dX9_mixInto_12 (by decide) ?_
  refine lv_istore (lv' := [(5, .int 0), (3, .long ((31 * x1) + ((v_t.1 7).toInt64))), (0, .ref o_t), (1, .long x1)]) C.hx C.hb dX9_mixInto_13 hl (by decide) rfl (fun ls hl => ?_)
  exact l_X9_mixInto_15 C N hf h (lv_sub hl [2, 1, 0] rfl)

def f_X9_addErrand (v_t : US) (x1 : Int32) (x2 : Int32) : Option (US) :=
  if (v_t.1 8) < 5 then (if (v_t.1 8) < 0 ∨ 5 ≤ (v_t.1 8).toNatClampNeg then none else (bnd (upa v_t 9 ((v_t.1 8).toNatClampNeg) x1) fun zw3 => if (v_t.1 8) < 0 ∨ 5 ≤ (v_t.1 8).toNatClampNeg then none else (bnd (upa zw3 10 ((v_t.1 8).toNatClampNeg) x2) fun zw5 => some (upi zw5 8 ((zw3.1 8) + 1))))) else (some (v_t))
set_option maxRecDepth 100000 in
set_option maxHeartbeats 4000000 in
theorem c_X9_addErrand (l : Launch) (G : GG) (o_t : Nat) (a_t : Nat → Nat) {v_t : US} {x1 : Int32} {x2 : Int32} {res : US} (hf : f_X9_addErrand v_t x1 x2 = some res) : MV l yX9_addErrand cX9_addErrand 3 none 1 [.ref o_t, .int x1, .int x2] G [uX9 G o_t a_t v_t]  [uX9 G o_t a_t res] := by
  unfold f_X9_addErrand at hf
  refine MV.intro (by decide) rfl (Nat.le_of_ble_eq_true rfl) (fun p e s m args below meth c A ls C h hl => ?_)
  have C : MC RX9 cX9_addErrand 3 none G A p s m args meth c := C
  have hl : lv_has ls 3 [(0, .ref o_t), (1, .int x1), (2, .int x2)] := hl
  refine lv_aload_n C.hx C.hb dX9_addErrand_0 rfl (lv_at hl 0 rfl) ?_
  refine g_get C h fl_X9_37 0 0 rfl rfl (v := .int (v_t.1 8)) rfl dX9_addErrand_1 ?_
  refine lv_iconst (v := 5) C.hx C.hb dX9_addErrand_4 (by decide) ?_
  refine lv_icmp_lt (tgt := 9) C.hx C.hb dX9_addErrand_5 (by decide) (fun zc1 => ?_) (fun zc1 => ?_)
  · replace hf := it_t zc1 hf
    refine lv_aload_n C.hx C.hb dX9_addErrand_9 rfl (lv_at hl 0 rfl) ?_
    refine g_get C h fl_X9_40 0 0 rfl rfl (v := .ref (a_t 9)) rfl dX9_addErrand_10 ?_
    refine lv_aload_n C.hx C.hb dX9_addErrand_13 rfl (lv_at hl 0 rfl) ?_
    refine g_get C h fl_X9_37 0 0 rfl rfl (v := .int (v_t.1 8)) rfl dX9_addErrand_14 ?_
    refine lv_iload_n C.hx C.hb dX9_addErrand_17 rfl (lv_at hl 1 rfl) ?_
    obtain ⟨zi2, hf⟩ := ck_some hf
    refine g_iast C h 0 5 rfl rfl (f := v_t.2.2 9) zi2 dX9_addErrand_18 (u' := uX9 G o_t a_t (upa v_t 9 ((v_t.1 8).toNatClampNeg) x1)) (us' := [uX9 G o_t a_t (upa v_t 9 ((v_t.1 8).toNatClampNeg) x1)]) rfl rfl (fun H locs h => ?_)
    refine lv_aload_n C.hx C.hb dX9_addErrand_19 rfl (lv_at hl 0 rfl) ?_
    refine g_get C h fl_X9_43 0 0 rfl rfl (v := .ref (a_t 10)) rfl dX9_addErrand_20 ?_
    refine lv_aload_n C.hx C.hb dX9_addErrand_23 rfl (lv_at hl 0 rfl) ?_
    refine g_get C h fl_X9_37 0 0 rfl rfl (v := .int (v_t.1 8)) rfl dX9_addErrand_24 ?_
    refine lv_iload_n C.hx C.hb dX9_addErrand_27 rfl (lv_at hl 2 rfl) ?_
    obtain ⟨zw3, hzw3, hf⟩ := bnd_some hf
    rw [← hzw3] at h
    obtain ⟨zi4, hf⟩ := ck_some hf
    refine g_iast C h 0 6 rfl rfl (f := zw3.2.2 10) zi4 dX9_addErrand_28 (u' := uX9 G o_t a_t (upa zw3 10 ((v_t.1 8).toNatClampNeg) x2)) (us' := [uX9 G o_t a_t (upa zw3 10 ((v_t.1 8).toNatClampNeg) x2)]) rfl rfl (fun H locs h => ?_)
    refine lv_aload_n C.hx C.hb dX9_addErrand_29 rfl (lv_at hl 0 rfl) ?_
    refine lv_dup C.hx C.hb dX9_addErrand_30 rfl ?_
    refine g_get C h fl_X9_37 0 0 rfl rfl (v := .int (zw3.1 8)) rfl dX9_addErrand_31 ?_
    refine lv_iconst (v := 1) C.hx C.hb dX9_addErrand_34 (by decide) ?_
    refine lv_iadd C.hx C.hb dX9_addErrand_35 ?_
    obtain ⟨zw5, hzw5, hf⟩ := bnd_some hf
    rw [← hzw5] at h
    refine g_put C h fp_X9_37 0 0 rfl rfl rfl rfl (Nat.le_of_ble_eq_true rfl) dX9_addErrand_36 (u' := uX9 G o_t a_t (upi zw5 8 ((zw3.1 8) + 1))) (us' := [uX9 G o_t a_t (upi zw5 8 ((zw3.1 8) + 1))]) rfl rfl (fun H locs h => ?_)
    obtain rfl := Option.some.inj hf
    exact g_ret_v C h rfl dX9_addErrand_39
  · replace hf := it_f zc1 hf
    obtain rfl := Option.some.inj hf
    exact g_ret_v C h rfl dX9_addErrand_8

def f_X9_addRule (v_t : US) (x1 : Int32) (x2 : Int32) (x3 : Int32) : Option (US) :=
  if (v_t.1 11) < 4 then (if (v_t.1 11) < 0 ∨ 4 ≤ (v_t.1 11).toNatClampNeg then none else (bnd (upa v_t 12 ((v_t.1 11).toNatClampNeg) x1) fun zw3 => if (v_t.1 11) < 0 ∨ 4 ≤ (v_t.1 11).toNatClampNeg then none else (bnd (upa zw3 13 ((v_t.1 11).toNatClampNeg) x2) fun zw5 => if (zw3.1 11) < 0 ∨ 4 ≤ (zw3.1 11).toNatClampNeg then none else (bnd (upa zw5 14 ((zw3.1 11).toNatClampNeg) x3) fun zw7 => some (upi zw7 11 ((zw5.1 11) + 1)))))) else (some (v_t))
set_option maxRecDepth 100000 in
set_option maxHeartbeats 4000000 in
theorem c_X9_addRule (l : Launch) (G : GG) (o_t : Nat) (a_t : Nat → Nat) {v_t : US} {x1 : Int32} {x2 : Int32} {x3 : Int32} {res : US} (hf : f_X9_addRule v_t x1 x2 x3 = some res) : MV l yX9_addRule cX9_addRule 4 none 1 [.ref o_t, .int x1, .int x2, .int x3] G [uX9 G o_t a_t v_t]  [uX9 G o_t a_t res] := by
  unfold f_X9_addRule at hf
  refine MV.intro (by decide) rfl (Nat.le_of_ble_eq_true rfl) (fun p e s m args below meth c A ls C h hl => ?_)
  have C : MC RX9 cX9_addRule 4 none G A p s m args meth c := C
  have hl : lv_has ls 4 [(0, .ref o_t), (1, .int x1), (2, .int x2), (3, .int x3)] := hl
  refine lv_aload_n C.hx C.hb dX9_addRule_0 rfl (lv_at hl 0 rfl) ?_
  refine g_get C h fl_X9_46 0 0 rfl rfl (v := .int (v_t.1 11)) rfl dX9_addRule_1 ?_
  refine lv_iconst (v := 4) C.hx C.hb dX9_addRule_4 (by decide) ?_
  refine lv_icmp_lt (tgt := 9) C.hx C.hb dX9_addRule_5 (by decide) (fun zc1 => ?_) (fun zc1 => ?_)
  · replace hf := it_t zc1 hf
    refine lv_aload_n C.hx C.hb dX9_addRule_9 rfl (lv_at hl 0 rfl) ?_
    refine g_get C h fl_X9_49 0 0 rfl rfl (v := .ref (a_t 12)) rfl dX9_addRule_10 ?_
    refine lv_aload_n C.hx C.hb dX9_addRule_13 rfl (lv_at hl 0 rfl) ?_
    refine g_get C h fl_X9_46 0 0 rfl rfl (v := .int (v_t.1 11)) rfl dX9_addRule_14 ?_
    refine lv_iload_n C.hx C.hb dX9_addRule_17 rfl (lv_at hl 1 rfl) ?_
    obtain ⟨zi2, hf⟩ := ck_some hf
    refine g_iast C h 0 7 rfl rfl (f := v_t.2.2 12) zi2 dX9_addRule_18 (u' := uX9 G o_t a_t (upa v_t 12 ((v_t.1 11).toNatClampNeg) x1)) (us' := [uX9 G o_t a_t (upa v_t 12 ((v_t.1 11).toNatClampNeg) x1)]) rfl rfl (fun H locs h => ?_)
    refine lv_aload_n C.hx C.hb dX9_addRule_19 rfl (lv_at hl 0 rfl) ?_
    refine g_get C h fl_X9_52 0 0 rfl rfl (v := .ref (a_t 13)) rfl dX9_addRule_20 ?_
    refine lv_aload_n C.hx C.hb dX9_addRule_23 rfl (lv_at hl 0 rfl) ?_
    refine g_get C h fl_X9_46 0 0 rfl rfl (v := .int (v_t.1 11)) rfl dX9_addRule_24 ?_
    refine lv_iload_n C.hx C.hb dX9_addRule_27 rfl (lv_at hl 2 rfl) ?_
    obtain ⟨zw3, hzw3, hf⟩ := bnd_some hf
    rw [← hzw3] at h
    obtain ⟨zi4, hf⟩ := ck_some hf
    refine g_iast C h 0 8 rfl rfl (f := zw3.2.2 13) zi4 dX9_addRule_28 (u' := uX9 G o_t a_t (upa zw3 13 ((v_t.1 11).toNatClampNeg) x2)) (us' := [uX9 G o_t a_t (upa zw3 13 ((v_t.1 11).toNatClampNeg) x2)]) rfl rfl (fun H locs h => ?_)
    refine lv_aload_n C.hx C.hb dX9_addRule_29 rfl (lv_at hl 0 rfl) ?_
    refine g_get C h fl_X9_55 0 0 rfl rfl (v := .ref (a_t 14)) rfl dX9_addRule_30 ?_
    refine lv_aload_n C.hx C.hb dX9_addRule_33 rfl (lv_at hl 0 rfl) ?_
    refine g_get C h fl_X9_46 0 0 rfl rfl (v := .int (zw3.1 11)) rfl dX9_addRule_34 ?_
    refine lv_iload_n C.hx C.hb dX9_addRule_37 rfl (lv_at hl 3 rfl) ?_
    obtain ⟨zw5, hzw5, hf⟩ := bnd_some hf
    rw [← hzw5] at h
    obtain ⟨zi6, hf⟩ := ck_some hf
    refine g_iast C h 0 9 rfl rfl (f := zw5.2.2 14) zi6 dX9_addRule_38 (u' := uX9 G o_t a_t (upa zw5 14 ((zw3.1 11).toNatClampNeg) x3)) (us' := [uX9 G o_t a_t (upa zw5 14 ((zw3.1 11).toNatClampNeg) x3)]) rfl rfl (fun H locs h => ?_)
    refine lv_aload_n C.hx C.hb dX9_addRule_39 rfl (lv_at hl 0 rfl) ?_
    refine lv_dup C.hx C.hb dX9_addRule_40 rfl ?_
    refine g_get C h fl_X9_46 0 0 rfl rfl (v := .int (zw5.1 11)) rfl dX9_addRule_41 ?_
    refine lv_iconst (v := 1) C.hx C.hb dX9_addRule_44 (by decide) ?_
    refine lv_iadd C.hx C.hb dX9_addRule_45 ?_
    obtain ⟨zw7, hzw7, hf⟩ := bnd_some hf
    rw [← hzw7] at h
    refine g_put C h fp_X9_46 0 0 rfl rfl rfl rfl (Nat.le_of_ble_eq_true rfl) dX9_addRule_46 (u' := uX9 G o_t a_t (upi zw7 11 ((zw5.1 11) + 1))) (us' := [uX9 G o_t a_t (upi zw7 11 ((zw5.1 11) + 1))]) rfl rfl (fun H locs h => ?_)
    obtain rfl := Option.some.inj hf
    exact g_ret_v C h rfl dX9_addRule_49
  · replace hf := it_f zc1 hf
    obtain rfl := Option.some.inj hf
    exact g_ret_v C h rfl dX9_addRule_8

def f_X9_addThing (v_t : US) (x1 : Int32) (x2 : Int32) (x3 : Int32) (x4 : Int32) : Option (US) :=
  if (v_t.1 0) < 5 then (if (v_t.1 0) < 0 ∨ 5 ≤ (v_t.1 0).toNatClampNeg then none else (bnd (upa v_t 1 ((v_t.1 0).toNatClampNeg) x1) fun zw3 => if (v_t.1 0) < 0 ∨ 5 ≤ (v_t.1 0).toNatClampNeg then none else (bnd (upa zw3 2 ((v_t.1 0).toNatClampNeg) x2) fun zw5 => if (zw3.1 0) < 0 ∨ 5 ≤ (zw3.1 0).toNatClampNeg then none else (bnd (upa zw5 3 ((zw3.1 0).toNatClampNeg) x3) fun zw7 => if (zw5.1 0) < 0 ∨ 5 ≤ (zw5.1 0).toNatClampNeg then none else (bnd (upa zw7 4 ((zw5.1 0).toNatClampNeg) x4) fun zw9 => bnd (upi zw9 5 ((zw7.1 5) ||| (1 <<< ((zw7.1 0) &&& 31)))) fun zw10 => some (upi zw10 0 ((zw9.1 0) + 1))))))) else (some (v_t))
set_option maxRecDepth 100000 in
set_option maxHeartbeats 4000000 in
theorem c_X9_addThing (l : Launch) (G : GG) (o_t : Nat) (a_t : Nat → Nat) {v_t : US} {x1 : Int32} {x2 : Int32} {x3 : Int32} {x4 : Int32} {res : US} (hf : f_X9_addThing v_t x1 x2 x3 x4 = some res) : MV l yX9_addThing cX9_addThing 5 none 1 [.ref o_t, .int x1, .int x2, .int x3, .int x4] G [uX9 G o_t a_t v_t]  [uX9 G o_t a_t res] := by
  unfold f_X9_addThing at hf
  refine MV.intro (by decide) rfl (Nat.le_of_ble_eq_true rfl) (fun p e s m args below meth c A ls C h hl => ?_)
  have C : MC RX9 cX9_addThing 5 none G A p s m args meth c := C
  have hl : lv_has ls 5 [(0, .ref o_t), (1, .int x1), (2, .int x2), (3, .int x3), (4, .int x4)] := hl
  refine lv_aload_n C.hx C.hb dX9_addThing_0 rfl (lv_at hl 0 rfl) ?_
  refine g_get C h fl_X9_9 0 0 rfl rfl (v := .int (v_t.1 0)) rfl dX9_addThing_1 ?_
  refine lv_iconst (v := 5) C.hx C.hb dX9_addThing_4 (by decide) ?_
  refine lv_icmp_lt (tgt := 9) C.hx C.hb dX9_addThing_5 (by decide) (fun zc1 => ?_) (fun zc1 => ?_)
  · replace hf := it_t zc1 hf
    refine lv_aload_n C.hx C.hb dX9_addThing_9 rfl (lv_at hl 0 rfl) ?_
    refine g_get C h fl_X9_15 0 0 rfl rfl (v := .ref (a_t 1)) rfl dX9_addThing_10 ?_
    refine lv_aload_n C.hx C.hb dX9_addThing_13 rfl (lv_at hl 0 rfl) ?_
    refine g_get C h fl_X9_9 0 0 rfl rfl (v := .int (v_t.1 0)) rfl dX9_addThing_14 ?_
    refine lv_iload_n C.hx C.hb dX9_addThing_17 rfl (lv_at hl 1 rfl) ?_
    obtain ⟨zi2, hf⟩ := ck_some hf
    refine g_iast C h 0 1 rfl rfl (f := v_t.2.2 1) zi2 dX9_addThing_18 (u' := uX9 G o_t a_t (upa v_t 1 ((v_t.1 0).toNatClampNeg) x1)) (us' := [uX9 G o_t a_t (upa v_t 1 ((v_t.1 0).toNatClampNeg) x1)]) rfl rfl (fun H locs h => ?_)
    refine lv_aload_n C.hx C.hb dX9_addThing_19 rfl (lv_at hl 0 rfl) ?_
    refine g_get C h fl_X9_19 0 0 rfl rfl (v := .ref (a_t 2)) rfl dX9_addThing_20 ?_
    refine lv_aload_n C.hx C.hb dX9_addThing_23 rfl (lv_at hl 0 rfl) ?_
    refine g_get C h fl_X9_9 0 0 rfl rfl (v := .int (v_t.1 0)) rfl dX9_addThing_24 ?_
    refine lv_iload_n C.hx C.hb dX9_addThing_27 rfl (lv_at hl 2 rfl) ?_
    obtain ⟨zw3, hzw3, hf⟩ := bnd_some hf
    rw [← hzw3] at h
    obtain ⟨zi4, hf⟩ := ck_some hf
    refine g_iast C h 0 2 rfl rfl (f := zw3.2.2 2) zi4 dX9_addThing_28 (u' := uX9 G o_t a_t (upa zw3 2 ((v_t.1 0).toNatClampNeg) x2)) (us' := [uX9 G o_t a_t (upa zw3 2 ((v_t.1 0).toNatClampNeg) x2)]) rfl rfl (fun H locs h => ?_)
    refine lv_aload_n C.hx C.hb dX9_addThing_29 rfl (lv_at hl 0 rfl) ?_
    refine g_get C h fl_X9_22 0 0 rfl rfl (v := .ref (a_t 3)) rfl dX9_addThing_30 ?_
    refine lv_aload_n C.hx C.hb dX9_addThing_33 rfl (lv_at hl 0 rfl) ?_
    refine g_get C h fl_X9_9 0 0 rfl rfl (v := .int (zw3.1 0)) rfl dX9_addThing_34 ?_
    refine lv_iload_n C.hx C.hb dX9_addThing_37 rfl (lv_at hl 3 rfl) ?_
    obtain ⟨zw5, hzw5, hf⟩ := bnd_some hf
    rw [← hzw5] at h
    obtain ⟨zi6, hf⟩ := ck_some hf
    refine g_iast C h 0 3 rfl rfl (f := zw5.2.2 3) zi6 dX9_addThing_38 (u' := uX9 G o_t a_t (upa zw5 3 ((zw3.1 0).toNatClampNeg) x3)) (us' := [uX9 G o_t a_t (upa zw5 3 ((zw3.1 0).toNatClampNeg) x3)]) rfl rfl (fun H locs h => ?_)
    refine lv_aload_n C.hx C.hb dX9_addThing_39 rfl (lv_at hl 0 rfl) ?_
    refine g_get C h fl_X9_25 0 0 rfl rfl (v := .ref (a_t 4)) rfl dX9_addThing_40 ?_
    refine lv_aload_n C.hx C.hb dX9_addThing_43 rfl (lv_at hl 0 rfl) ?_
    refine g_get C h fl_X9_9 0 0 rfl rfl (v := .int (zw5.1 0)) rfl dX9_addThing_44 ?_
    refine lv_iload C.hx C.hb dX9_addThing_47 (lv_at hl 4 rfl) ?_
    obtain ⟨zw7, hzw7, hf⟩ := bnd_some hf
    rw [← hzw7] at h
    obtain ⟨zi8, hf⟩ := ck_some hf
    refine g_iast C h 0 4 rfl rfl (f := zw7.2.2 4) zi8 dX9_addThing_49 (u' := uX9 G o_t a_t (upa zw7 4 ((zw5.1 0).toNatClampNeg) x4)) (us' := [uX9 G o_t a_t (upa zw7 4 ((zw5.1 0).toNatClampNeg) x4)]) rfl rfl (fun H locs h => ?_)
    refine lv_aload_n C.hx C.hb dX9_addThing_50 rfl (lv_at hl 0 rfl) ?_
    refine lv_dup C.hx C.hb dX9_addThing_51 rfl ?_
    refine g_get C h fl_X9_28 0 0 rfl rfl (v := .int (zw7.1 5)) rfl dX9_addThing_52 ?_
    refine lv_iconst (v := 1) C.hx C.hb dX9_addThing_55 (by decide) ?_
    refine lv_aload_n C.hx C.hb dX9_addThing_56 rfl (lv_at hl 0 rfl) ?_
    refine g_get C h fl_X9_9 0 0 rfl rfl (v := .int (zw7.1 0)) rfl dX9_addThing_57 ?_
    refine lv_ishl C.hx C.hb dX9_addThing_60 ?_
    refine lv_ior C.hx C.hb dX9_addThing_61 ?_
    obtain ⟨zw9, hzw9, hf⟩ := bnd_some hf
    rw [← hzw9] at h
    refine g_put C h fp_X9_28 0 0 rfl rfl rfl rfl (Nat.le_of_ble_eq_true rfl) dX9_addThing_62 (u' := uX9 G o_t a_t (upi zw9 5 ((zw7.1 5) ||| (1 <<< ((zw7.1 0) &&& 31))))) (us' := [uX9 G o_t a_t (upi zw9 5 ((zw7.1 5) ||| (1 <<< ((zw7.1 0) &&& 31))))]) rfl rfl (fun H locs h => ?_)
    refine lv_aload_n C.hx C.hb dX9_addThing_65 rfl (lv_at hl 0 rfl) ?_
    refine lv_dup C.hx C.hb dX9_addThing_66 rfl ?_
    refine g_get C h fl_X9_9 0 0 rfl rfl (v := .int (zw9.1 0)) rfl dX9_addThing_67 ?_
    refine lv_iconst (v := 1) C.hx C.hb dX9_addThing_70 (by decide) ?_
    refine lv_iadd C.hx C.hb dX9_addThing_71 ?_
    obtain ⟨zw10, hzw10, hf⟩ := bnd_some hf
    rw [← hzw10] at h
    refine g_put C h fp_X9_9 0 0 rfl rfl rfl rfl (Nat.le_of_ble_eq_true rfl) dX9_addThing_72 (u' := uX9 G o_t a_t (upi zw10 0 ((zw9.1 0) + 1))) (us' := [uX9 G o_t a_t (upi zw10 0 ((zw9.1 0) + 1))]) rfl rfl (fun H locs h => ?_)
    obtain rfl := Option.some.inj hf
    exact g_ret_v C h rfl dX9_addThing_75
  · replace hf := it_f zc1 hf
    obtain rfl := Option.some.inj hf
    exact g_ret_v C h rfl dX9_addThing_8

def f_X9_goBack (v_t : US)  : Option (US) :=
  if 0 < (v_t.1 15) then (if ((v_t.1 15) - 1) < 0 ∨ 10 ≤ ((v_t.1 15) - 1).toNatClampNeg then none else (bnd (upi v_t 15 ((v_t.1 15) - 1)) fun zw3 => some (upi zw3 7 ((v_t.2.2 16) ((v_t.1 15) - 1).toNatClampNeg)))) else (some (v_t))
set_option maxRecDepth 100000 in
set_option maxHeartbeats 4000000 in
theorem c_X9_goBack (l : Launch) (G : GG) (o_t : Nat) (a_t : Nat → Nat) {v_t : US}  {res : US} (hf : f_X9_goBack v_t = some res) : MV l yX9_goBack cX9_goBack 1 none 1 [.ref o_t] G [uX9 G o_t a_t v_t]  [uX9 G o_t a_t res] := by
  unfold f_X9_goBack at hf
  refine MV.intro (by decide) rfl (Nat.le_of_ble_eq_true rfl) (fun p e s m args below meth c A ls C h hl => ?_)
  have C : MC RX9 cX9_goBack 1 none G A p s m args meth c := C
  have hl : lv_has ls 1 [(0, .ref o_t)] := hl
  refine lv_aload_n C.hx C.hb dX9_goBack_0 rfl (lv_at hl 0 rfl) ?_
  refine g_get C h fl_X9_58 0 0 rfl rfl (v := .int (v_t.1 15)) rfl dX9_goBack_1 ?_
  refine lv_if_gt (tgt := 8) C.hx C.hb dX9_goBack_4 (by decide) (fun zc1 => ?_) (fun zc1 => ?_)
  · replace hf := it_t zc1 hf
    refine lv_aload_n C.hx C.hb dX9_goBack_8 rfl (lv_at hl 0 rfl) ?_
    refine lv_dup C.hx C.hb dX9_goBack_9 rfl ?_
    refine g_get C h fl_X9_58 0 0 rfl rfl (v := .int (v_t.1 15)) rfl dX9_goBack_10 ?_
    refine lv_iconst (v := 1) C.hx C.hb dX9_goBack_13 (by decide) ?_
    refine lv_isub C.hx C.hb dX9_goBack_14 ?_
    refine g_put C h fp_X9_58 0 0 rfl rfl rfl rfl (Nat.le_of_ble_eq_true rfl) dX9_goBack_15 (u' := uX9 G o_t a_t (upi v_t 15 ((v_t.1 15) - 1))) (us' := [uX9 G o_t a_t (upi v_t 15 ((v_t.1 15) - 1))]) rfl rfl (fun H locs h => ?_)
    refine lv_aload_n C.hx C.hb dX9_goBack_18 rfl (lv_at hl 0 rfl) ?_
    refine lv_aload_n C.hx C.hb dX9_goBack_19 rfl (lv_at hl 0 rfl) ?_
    refine g_get C h fl_X9_61 0 0 rfl rfl (v := .ref (a_t 16)) rfl dX9_goBack_20 ?_
    refine lv_aload_n C.hx C.hb dX9_goBack_23 rfl (lv_at hl 0 rfl) ?_
    refine g_get C h fl_X9_58 0 0 rfl rfl (v := .int ((v_t.1 15) - 1)) rfl dX9_goBack_24 ?_
    obtain ⟨zi2, hf⟩ := ck_some hf
    refine g_iald C h 0 10 rfl rfl (f := v_t.2.2 16) zi2 dX9_goBack_27 ?_
    obtain ⟨zw3, hzw3, hf⟩ := bnd_some hf
    rw [← hzw3] at h
    refine g_put C h fp_X9_34 0 0 rfl rfl rfl rfl (Nat.le_of_ble_eq_true rfl) dX9_goBack_28 (u' := uX9 G o_t a_t (upi zw3 7 ((v_t.2.2 16) ((v_t.1 15) - 1).toNatClampNeg))) (us' := [uX9 G o_t a_t (upi zw3 7 ((v_t.2.2 16) ((v_t.1 15) - 1).toNatClampNeg))]) rfl rfl (fun H locs h => ?_)
    obtain rfl := Option.some.inj hf
    exact g_ret_v C h rfl dX9_goBack_31
  · replace hf := it_f zc1 hf
    obtain rfl := Option.some.inj hf
    exact g_ret_v C h rfl dX9_goBack_7

def f_X9_becomeEmpty (v_t : US)  : Option (US) :=
  bnd (upi v_t 0 0) fun zw1 => bnd (upi zw1 5 0) fun zw2 => bnd (upi zw2 6 0) fun zw3 => bnd (upi zw3 7 0) fun zw4 => bnd (upi zw4 8 0) fun zw5 => bnd (upi zw5 11 0) fun zw6 => some (upi zw6 15 0)
set_option maxRecDepth 100000 in
set_option maxHeartbeats 4000000 in
theorem c_X9_becomeEmpty (l : Launch) (G : GG) (o_t : Nat) (a_t : Nat → Nat) {v_t : US}  {res : US} (hf : f_X9_becomeEmpty v_t = some res) : MV l yX9_becomeEmpty cX9_becomeEmpty 1 none 1 [.ref o_t] G [uX9 G o_t a_t v_t]  [uX9 G o_t a_t res] := by
  unfold f_X9_becomeEmpty at hf
  refine MV.intro (by decide) rfl (Nat.le_of_ble_eq_true rfl) (fun p e s m args below meth c A ls C h hl => ?_)
  have C : MC RX9 cX9_becomeEmpty 1 none G A p s m args meth c := C
  have hl : lv_has ls 1 [(0, .ref o_t)] := hl
  refine lv_aload_n C.hx C.hb dX9_becomeEmpty_0 rfl (lv_at hl 0 rfl) ?_
  refine lv_iconst (v := 0) C.hx C.hb dX9_becomeEmpty_1 (by decide) ?_
  refine g_put C h fp_X9_9 0 0 rfl rfl rfl rfl (Nat.le_of_ble_eq_true rfl) dX9_becomeEmpty_2 (u' := uX9 G o_t a_t (upi v_t 0 0)) (us' := [uX9 G o_t a_t (upi v_t 0 0)]) rfl rfl (fun H locs h => ?_)
  refine lv_aload_n C.hx C.hb dX9_becomeEmpty_5 rfl (lv_at hl 0 rfl) ?_
  refine lv_iconst (v := 0) C.hx C.hb dX9_becomeEmpty_6 (by decide) ?_
  obtain ⟨zw1, hzw1, hf⟩ := bnd_some hf
  rw [← hzw1] at h
  refine g_put C h fp_X9_28 0 0 rfl rfl rfl rfl (Nat.le_of_ble_eq_true rfl) dX9_becomeEmpty_7 (u' := uX9 G o_t a_t (upi zw1 5 0)) (us' := [uX9 G o_t a_t (upi zw1 5 0)]) rfl rfl (fun H locs h => ?_)
  refine lv_aload_n C.hx C.hb dX9_becomeEmpty_10 rfl (lv_at hl 0 rfl) ?_
  refine lv_iconst (v := 0) C.hx C.hb dX9_becomeEmpty_11 (by decide) ?_
  obtain ⟨zw2, hzw2, hf⟩ := bnd_some hf
  rw [← hzw2] at h
  refine g_put C h fp_X9_31 0 0 rfl rfl rfl rfl (Nat.le_of_ble_eq_true rfl) dX9_becomeEmpty_12 (u' := uX9 G o_t a_t (upi zw2 6 0)) (us' := [uX9 G o_t a_t (upi zw2 6 0)]) rfl rfl (fun H locs h => ?_)
  refine lv_aload_n C.hx C.hb dX9_becomeEmpty_15 rfl (lv_at hl 0 rfl) ?_
  refine lv_iconst (v := 0) C.hx C.hb dX9_becomeEmpty_16 (by decide) ?_
  obtain ⟨zw3, hzw3, hf⟩ := bnd_some hf
  rw [← hzw3] at h
  refine g_put C h fp_X9_34 0 0 rfl rfl rfl rfl (Nat.le_of_ble_eq_true rfl) dX9_becomeEmpty_17 (u' := uX9 G o_t a_t (upi zw3 7 0)) (us' := [uX9 G o_t a_t (upi zw3 7 0)]) rfl rfl (fun H locs h => ?_)
  refine lv_aload_n C.hx C.hb dX9_becomeEmpty_20 rfl (lv_at hl 0 rfl) ?_
  refine lv_iconst (v := 0) C.hx C.hb dX9_becomeEmpty_21 (by decide) ?_
  obtain ⟨zw4, hzw4, hf⟩ := bnd_some hf
  rw [← hzw4] at h
  refine g_put C h fp_X9_37 0 0 rfl rfl rfl rfl (Nat.le_of_ble_eq_true rfl) dX9_becomeEmpty_22 (u' := uX9 G o_t a_t (upi zw4 8 0)) (us' := [uX9 G o_t a_t (upi zw4 8 0)]) rfl rfl (fun H locs h => ?_)
  refine lv_aload_n C.hx C.hb dX9_becomeEmpty_25 rfl (lv_at hl 0 rfl) ?_
  refine lv_iconst (v := 0) C.hx C.hb dX9_becomeEmpty_26 (by decide) ?_
  obtain ⟨zw5, hzw5, hf⟩ := bnd_some hf
  rw [← hzw5] at h
  refine g_put C h fp_X9_46 0 0 rfl rfl rfl rfl (Nat.le_of_ble_eq_true rfl) dX9_becomeEmpty_27 (u' := uX9 G o_t a_t (upi zw5 11 0)) (us' := [uX9 G o_t a_t (upi zw5 11 0)]) rfl rfl (fun H locs h => ?_)
  refine lv_aload_n C.hx C.hb dX9_becomeEmpty_30 rfl (lv_at hl 0 rfl) ?_
  refine lv_iconst (v := 0) C.hx C.hb dX9_becomeEmpty_31 (by decide) ?_
  obtain ⟨zw6, hzw6, hf⟩ := bnd_some hf
  rw [← hzw6] at h
  refine g_put C h fp_X9_58 0 0 rfl rfl rfl rfl (Nat.le_of_ble_eq_true rfl) dX9_becomeEmpty_32 (u' := uX9 G o_t a_t (upi zw6 15 0)) (us' := [uX9 G o_t a_t (upi zw6 15 0)]) rfl rfl (fun H locs h => ?_)
  obtain rfl := Option.some.inj hf
  exact g_ret_v C h rfl dX9_becomeEmpty_35

def f_X9_becomeLike (v_t : US) (v_p1 : US)  : Option (US) :=
  bnd (upi v_t 0 (v_p1.1 0)) fun zw1 => bnd (upr zw1 1 (va_cpy (v_p1.2.2 1) (zw1.2.2 1) 0 0 5)) fun zw2 => bnd (upr zw2 2 (va_cpy (v_p1.2.2 2) (zw2.2.2 2) 0 0 5)) fun zw3 => bnd (upr zw3 3 (va_cpy (v_p1.2.2 3) (zw3.2.2 3) 0 0 5)) fun zw4 => bnd (upr zw4 4 (va_cpy (v_p1.2.2 4) (zw4.2.2 4) 0 0 5)) fun zw5 => bnd (upi zw5 5 (v_p1.1 5)) fun zw6 => bnd (upi zw6 6 (v_p1.1 6)) fun zw7 => bnd (upi zw7 7 (v_p1.1 7)) fun zw8 => bnd (upi zw8 8 (v_p1.1 8)) fun zw9 => bnd (upr zw9 9 (va_cpy (v_p1.2.2 9) (zw9.2.2 9) 0 0 5)) fun zw10 => bnd (upr zw10 10 (va_cpy (v_p1.2.2 10) (zw10.2.2 10) 0 0 5)) fun zw11 => bnd (upi zw11 11 (v_p1.1 11)) fun zw12 => bnd (upr zw12 12 (va_cpy (v_p1.2.2 12) (zw12.2.2 12) 0 0 4)) fun zw13 => bnd (upr zw13 13 (va_cpy (v_p1.2.2 13) (zw13.2.2 13) 0 0 4)) fun zw14 => bnd (upr zw14 14 (va_cpy (v_p1.2.2 14) (zw14.2.2 14) 0 0 4)) fun zw15 => bnd (upi zw15 15 (v_p1.1 15)) fun zw16 => some (upr zw16 16 (va_cpy (v_p1.2.2 16) (zw16.2.2 16) 0 0 10))
set_option maxRecDepth 100000 in
set_option maxHeartbeats 4000000 in
theorem c_X9_becomeLike (l : Launch) (G : GG) (o_t o_p1 : Nat) (a_p1 a_t : Nat → Nat) {v_t : US} {v_p1 : US}  {res : US} (hf : f_X9_becomeLike v_t v_p1 = some res) : MV l yX9_becomeLike cX9_becomeLike 2 none 1 [.ref o_t, .ref o_p1] G [uX9 G o_t a_t v_t, uX9 G o_p1 a_p1 v_p1]  [uX9 G o_t a_t res, uX9 G o_p1 a_p1 v_p1] := by
  unfold f_X9_becomeLike at hf
  refine MV.intro (by decide) rfl (Nat.le_of_ble_eq_true rfl) (fun p e s m args below meth c A ls C h hl => ?_)
  have C : MC RX9 cX9_becomeLike 2 none G A p s m args meth c := C
  have hl : lv_has ls 2 [(0, .ref o_t), (1, .ref o_p1)] := hl
  refine lv_aload_n C.hx C.hb dX9_becomeLike_0 rfl (lv_at hl 0 rfl) ?_
  refine lv_aload_n C.hx C.hb dX9_becomeLike_1 rfl (lv_at hl 1 rfl) ?_
  refine g_get C h fl_X9_9 1 0 rfl rfl (v := .int (v_p1.1 0)) rfl dX9_becomeLike_2 ?_
  refine g_put C h fp_X9_9 0 0 rfl rfl rfl rfl (Nat.le_of_ble_eq_true rfl) dX9_becomeLike_5 (u' := uX9 G o_t a_t (upi v_t 0 (v_p1.1 0))) (us' := [uX9 G o_t a_t (upi v_t 0 (v_p1.1 0)), uX9 G o_p1 a_p1 v_p1]) rfl rfl (fun H locs h => ?_)
  refine lv_aload_n C.hx C.hb dX9_becomeLike_8 rfl (lv_at hl 1 rfl) ?_
  refine g_get C h fl_X9_15 1 0 rfl rfl (v := .ref (a_p1 1)) rfl dX9_becomeLike_9 ?_
  refine lv_iconst (v := 0) C.hx C.hb dX9_becomeLike_12 (by decide) ?_
  refine lv_aload_n C.hx C.hb dX9_becomeLike_13 rfl (lv_at hl 0 rfl) ?_
  refine g_get C h fl_X9_15 0 0 rfl rfl (v := .ref (a_t 1)) rfl dX9_becomeLike_14 ?_
  refine lv_iconst (v := 0) C.hx C.hb dX9_becomeLike_17 (by decide) ?_
  refine lv_iconst (v := 5) C.hx C.hb dX9_becomeLike_18 (by decide) ?_
  obtain ⟨zw1, hzw1, hf⟩ := bnd_some hf
  rw [← hzw1] at h
  refine g_copy C h hl.1 ml_X9_64 ac_n ac_s ac_i 1 1 0 1 rfl rfl (f := v_p1.2.2 1) (g := zw1.2.2 1) rfl rfl 0 0 5 (by decide) (Nat.le_of_ble_eq_true rfl) (Nat.le_of_ble_eq_true rfl) (Nat.le_of_ble_eq_true rfl) (Nat.le_of_ble_eq_true rfl) dX9_becomeLike_19 (u' := uX9 G o_t a_t (upr zw1 1 (va_cpy (v_p1.2.2 1) (zw1.2.2 1) 0 0 5))) (us' := [uX9 G o_t a_t (upr zw1 1 (va_cpy (v_p1.2.2 1) (zw1.2.2 1) 0 0 5)), uX9 G o_p1 a_p1 v_p1]) rfl rfl (fun H locs h => ?_)
  refine lv_aload_n C.hx C.hb dX9_becomeLike_22 rfl (lv_at hl 1 rfl) ?_
  refine g_get C h fl_X9_19 1 0 rfl rfl (v := .ref (a_p1 2)) rfl dX9_becomeLike_23 ?_
  refine lv_iconst (v := 0) C.hx C.hb dX9_becomeLike_26 (by decide) ?_
  refine lv_aload_n C.hx C.hb dX9_becomeLike_27 rfl (lv_at hl 0 rfl) ?_
  refine g_get C h fl_X9_19 0 0 rfl rfl (v := .ref (a_t 2)) rfl dX9_becomeLike_28 ?_
  refine lv_iconst (v := 0) C.hx C.hb dX9_becomeLike_31 (by decide) ?_
  refine lv_iconst (v := 5) C.hx C.hb dX9_becomeLike_32 (by decide) ?_
  obtain ⟨zw2, hzw2, hf⟩ := bnd_some hf
  rw [← hzw2] at h
  refine g_copy C h hl.1 ml_X9_64 ac_n ac_s ac_i 1 2 0 2 rfl rfl (f := v_p1.2.2 2) (g := zw2.2.2 2) rfl rfl 0 0 5 (by decide) (Nat.le_of_ble_eq_true rfl) (Nat.le_of_ble_eq_true rfl) (Nat.le_of_ble_eq_true rfl) (Nat.le_of_ble_eq_true rfl) dX9_becomeLike_33 (u' := uX9 G o_t a_t (upr zw2 2 (va_cpy (v_p1.2.2 2) (zw2.2.2 2) 0 0 5))) (us' := [uX9 G o_t a_t (upr zw2 2 (va_cpy (v_p1.2.2 2) (zw2.2.2 2) 0 0 5)), uX9 G o_p1 a_p1 v_p1]) rfl rfl (fun H locs h => ?_)
  refine lv_aload_n C.hx C.hb dX9_becomeLike_36 rfl (lv_at hl 1 rfl) ?_
  refine g_get C h fl_X9_22 1 0 rfl rfl (v := .ref (a_p1 3)) rfl dX9_becomeLike_37 ?_
  refine lv_iconst (v := 0) C.hx C.hb dX9_becomeLike_40 (by decide) ?_
  refine lv_aload_n C.hx C.hb dX9_becomeLike_41 rfl (lv_at hl 0 rfl) ?_
  refine g_get C h fl_X9_22 0 0 rfl rfl (v := .ref (a_t 3)) rfl dX9_becomeLike_42 ?_
  refine lv_iconst (v := 0) C.hx C.hb dX9_becomeLike_45 (by decide) ?_
  refine lv_iconst (v := 5) C.hx C.hb dX9_becomeLike_46 (by decide) ?_
  obtain ⟨zw3, hzw3, hf⟩ := bnd_some hf
  rw [← hzw3] at h
  refine g_copy C h hl.1 ml_X9_64 ac_n ac_s ac_i 1 3 0 3 rfl rfl (f := v_p1.2.2 3) (g := zw3.2.2 3) rfl rfl 0 0 5 (by decide) (Nat.le_of_ble_eq_true rfl) (Nat.le_of_ble_eq_true rfl) (Nat.le_of_ble_eq_true rfl) (Nat.le_of_ble_eq_true rfl) dX9_becomeLike_47 (u' := uX9 G o_t a_t (upr zw3 3 (va_cpy (v_p1.2.2 3) (zw3.2.2 3) 0 0 5))) (us' := [uX9 G o_t a_t (upr zw3 3 (va_cpy (v_p1.2.2 3) (zw3.2.2 3) 0 0 5)), uX9 G o_p1 a_p1 v_p1]) rfl rfl (fun H locs h => ?_)
  refine lv_aload_n C.hx C.hb dX9_becomeLike_50 rfl (lv_at hl 1 rfl) ?_
  refine g_get C h fl_X9_25 1 0 rfl rfl (v := .ref (a_p1 4)) rfl dX9_becomeLike_51 ?_
  refine lv_iconst (v := 0) C.hx C.hb dX9_becomeLike_54 (by decide) ?_
  refine lv_aload_n C.hx C.hb dX9_becomeLike_55 rfl (lv_at hl 0 rfl) ?_
  refine g_get C h fl_X9_25 0 0 rfl rfl (v := .ref (a_t 4)) rfl dX9_becomeLike_56 ?_
  refine lv_iconst (v := 0) C.hx C.hb dX9_becomeLike_59 (by decide) ?_
  refine lv_iconst (v := 5) C.hx C.hb dX9_becomeLike_60 (by decide) ?_
  obtain ⟨zw4, hzw4, hf⟩ := bnd_some hf
  rw [← hzw4] at h
  refine g_copy C h hl.1 ml_X9_64 ac_n ac_s ac_i 1 4 0 4 rfl rfl (f := v_p1.2.2 4) (g := zw4.2.2 4) rfl rfl 0 0 5 (by decide) (Nat.le_of_ble_eq_true rfl) (Nat.le_of_ble_eq_true rfl) (Nat.le_of_ble_eq_true rfl) (Nat.le_of_ble_eq_true rfl) dX9_becomeLike_61 (u' := uX9 G o_t a_t (upr zw4 4 (va_cpy (v_p1.2.2 4) (zw4.2.2 4) 0 0 5))) (us' := [uX9 G o_t a_t (upr zw4 4 (va_cpy (v_p1.2.2 4) (zw4.2.2 4) 0 0 5)), uX9 G o_p1 a_p1 v_p1]) rfl rfl (fun H locs h => ?_)
  refine lv_aload_n C.hx C.hb dX9_becomeLike_64 rfl (lv_at hl 0 rfl) ?_
  refine lv_aload_n C.hx C.hb dX9_becomeLike_65 rfl (lv_at hl 1 rfl) ?_
  refine g_get C h fl_X9_28 1 0 rfl rfl (v := .int (v_p1.1 5)) rfl dX9_becomeLike_66 ?_
  obtain ⟨zw5, hzw5, hf⟩ := bnd_some hf
  rw [← hzw5] at h
  refine g_put C h fp_X9_28 0 0 rfl rfl rfl rfl (Nat.le_of_ble_eq_true rfl) dX9_becomeLike_69 (u' := uX9 G o_t a_t (upi zw5 5 (v_p1.1 5))) (us' := [uX9 G o_t a_t (upi zw5 5 (v_p1.1 5)), uX9 G o_p1 a_p1 v_p1]) rfl rfl (fun H locs h => ?_)
  refine lv_aload_n C.hx C.hb dX9_becomeLike_72 rfl (lv_at hl 0 rfl) ?_
  refine lv_aload_n C.hx C.hb dX9_becomeLike_73 rfl (lv_at hl 1 rfl) ?_
  refine g_get C h fl_X9_31 1 0 rfl rfl (v := .int (v_p1.1 6)) rfl dX9_becomeLike_74 ?_
  obtain ⟨zw6, hzw6, hf⟩ := bnd_some hf
  rw [← hzw6] at h
  refine g_put C h fp_X9_31 0 0 rfl rfl rfl rfl (Nat.le_of_ble_eq_true rfl) dX9_becomeLike_77 (u' := uX9 G o_t a_t (upi zw6 6 (v_p1.1 6))) (us' := [uX9 G o_t a_t (upi zw6 6 (v_p1.1 6)), uX9 G o_p1 a_p1 v_p1]) rfl rfl (fun H locs h => ?_)
  refine lv_aload_n C.hx C.hb dX9_becomeLike_80 rfl (lv_at hl 0 rfl) ?_
  refine lv_aload_n C.hx C.hb dX9_becomeLike_81 rfl (lv_at hl 1 rfl) ?_
  refine g_get C h fl_X9_34 1 0 rfl rfl (v := .int (v_p1.1 7)) rfl dX9_becomeLike_82 ?_
  obtain ⟨zw7, hzw7, hf⟩ := bnd_some hf
  rw [← hzw7] at h
  refine g_put C h fp_X9_34 0 0 rfl rfl rfl rfl (Nat.le_of_ble_eq_true rfl) dX9_becomeLike_85 (u' := uX9 G o_t a_t (upi zw7 7 (v_p1.1 7))) (us' := [uX9 G o_t a_t (upi zw7 7 (v_p1.1 7)), uX9 G o_p1 a_p1 v_p1]) rfl rfl (fun H locs h => ?_)
  refine lv_aload_n C.hx C.hb dX9_becomeLike_88 rfl (lv_at hl 0 rfl) ?_
  refine lv_aload_n C.hx C.hb dX9_becomeLike_89 rfl (lv_at hl 1 rfl) ?_
  refine g_get C h fl_X9_37 1 0 rfl rfl (v := .int (v_p1.1 8)) rfl dX9_becomeLike_90 ?_
  obtain ⟨zw8, hzw8, hf⟩ := bnd_some hf
  rw [← hzw8] at h
  refine g_put C h fp_X9_37 0 0 rfl rfl rfl rfl (Nat.le_of_ble_eq_true rfl) dX9_becomeLike_93 (u' := uX9 G o_t a_t (upi zw8 8 (v_p1.1 8))) (us' := [uX9 G o_t a_t (upi zw8 8 (v_p1.1 8)), uX9 G o_p1 a_p1 v_p1]) rfl rfl (fun H locs h => ?_)
  refine lv_aload_n C.hx C.hb dX9_becomeLike_96 rfl (lv_at hl 1 rfl) ?_
  refine g_get C h fl_X9_40 1 0 rfl rfl (v := .ref (a_p1 9)) rfl dX9_becomeLike_97 ?_
  refine lv_iconst (v := 0) C.hx C.hb dX9_becomeLike_100 (by decide) ?_
  refine lv_aload_n C.hx C.hb dX9_becomeLike_101 rfl (lv_at hl 0 rfl) ?_
  refine g_get C h fl_X9_40 0 0 rfl rfl (v := .ref (a_t 9)) rfl dX9_becomeLike_102 ?_
  refine lv_iconst (v := 0) C.hx C.hb dX9_becomeLike_105 (by decide) ?_
  refine lv_iconst (v := 5) C.hx C.hb dX9_becomeLike_106 (by decide) ?_
  obtain ⟨zw9, hzw9, hf⟩ := bnd_some hf
  rw [← hzw9] at h
  refine g_copy C h hl.1 ml_X9_64 ac_n ac_s ac_i 1 5 0 5 rfl rfl (f := v_p1.2.2 9) (g := zw9.2.2 9) rfl rfl 0 0 5 (by decide) (Nat.le_of_ble_eq_true rfl) (Nat.le_of_ble_eq_true rfl) (Nat.le_of_ble_eq_true rfl) (Nat.le_of_ble_eq_true rfl) dX9_becomeLike_107 (u' := uX9 G o_t a_t (upr zw9 9 (va_cpy (v_p1.2.2 9) (zw9.2.2 9) 0 0 5))) (us' := [uX9 G o_t a_t (upr zw9 9 (va_cpy (v_p1.2.2 9) (zw9.2.2 9) 0 0 5)), uX9 G o_p1 a_p1 v_p1]) rfl rfl (fun H locs h => ?_)
  refine lv_aload_n C.hx C.hb dX9_becomeLike_110 rfl (lv_at hl 1 rfl) ?_
  refine g_get C h fl_X9_43 1 0 rfl rfl (v := .ref (a_p1 10)) rfl dX9_becomeLike_111 ?_
  refine lv_iconst (v := 0) C.hx C.hb dX9_becomeLike_114 (by decide) ?_
  refine lv_aload_n C.hx C.hb dX9_becomeLike_115 rfl (lv_at hl 0 rfl) ?_
  refine g_get C h fl_X9_43 0 0 rfl rfl (v := .ref (a_t 10)) rfl dX9_becomeLike_116 ?_
  refine lv_iconst (v := 0) C.hx C.hb dX9_becomeLike_119 (by decide) ?_
  refine lv_iconst (v := 5) C.hx C.hb dX9_becomeLike_120 (by decide) ?_
  obtain ⟨zw10, hzw10, hf⟩ := bnd_some hf
  rw [← hzw10] at h
  refine g_copy C h hl.1 ml_X9_64 ac_n ac_s ac_i 1 6 0 6 rfl rfl (f := v_p1.2.2 10) (g := zw10.2.2 10) rfl rfl 0 0 5 (by decide) (Nat.le_of_ble_eq_true rfl) (Nat.le_of_ble_eq_true rfl) (Nat.le_of_ble_eq_true rfl) (Nat.le_of_ble_eq_true rfl) dX9_becomeLike_121 (u' := uX9 G o_t a_t (upr zw10 10 (va_cpy (v_p1.2.2 10) (zw10.2.2 10) 0 0 5))) (us' := [uX9 G o_t a_t (upr zw10 10 (va_cpy (v_p1.2.2 10) (zw10.2.2 10) 0 0 5)), uX9 G o_p1 a_p1 v_p1]) rfl rfl (fun H locs h => ?_)
  refine lv_aload_n C.hx C.hb dX9_becomeLike_124 rfl (lv_at hl 0 rfl) ?_
  refine lv_aload_n C.hx C.hb dX9_becomeLike_125 rfl (lv_at hl 1 rfl) ?_
  refine g_get C h fl_X9_46 1 0 rfl rfl (v := .int (v_p1.1 11)) rfl dX9_becomeLike_126 ?_
  obtain ⟨zw11, hzw11, hf⟩ := bnd_some hf
  rw [← hzw11] at h
  refine g_put C h fp_X9_46 0 0 rfl rfl rfl rfl (Nat.le_of_ble_eq_true rfl) dX9_becomeLike_129 (u' := uX9 G o_t a_t (upi zw11 11 (v_p1.1 11))) (us' := [uX9 G o_t a_t (upi zw11 11 (v_p1.1 11)), uX9 G o_p1 a_p1 v_p1]) rfl rfl (fun H locs h => ?_)
  refine lv_aload_n C.hx C.hb dX9_becomeLike_132 rfl (lv_at hl 1 rfl) ?_
  refine g_get C h fl_X9_49 1 0 rfl rfl (v := .ref (a_p1 12)) rfl dX9_becomeLike_133 ?_
  refine lv_iconst (v := 0) C.hx C.hb dX9_becomeLike_136 (by decide) ?_
  refine lv_aload_n C.hx C.hb dX9_becomeLike_137 rfl (lv_at hl 0 rfl) ?_
  refine g_get C h fl_X9_49 0 0 rfl rfl (v := .ref (a_t 12)) rfl dX9_becomeLike_138 ?_
  refine lv_iconst (v := 0) C.hx C.hb dX9_becomeLike_141 (by decide) ?_
  refine lv_iconst (v := 4) C.hx C.hb dX9_becomeLike_142 (by decide) ?_
  obtain ⟨zw12, hzw12, hf⟩ := bnd_some hf
  rw [← hzw12] at h
  refine g_copy C h hl.1 ml_X9_64 ac_n ac_s ac_i 1 7 0 7 rfl rfl (f := v_p1.2.2 12) (g := zw12.2.2 12) rfl rfl 0 0 4 (by decide) (Nat.le_of_ble_eq_true rfl) (Nat.le_of_ble_eq_true rfl) (Nat.le_of_ble_eq_true rfl) (Nat.le_of_ble_eq_true rfl) dX9_becomeLike_143 (u' := uX9 G o_t a_t (upr zw12 12 (va_cpy (v_p1.2.2 12) (zw12.2.2 12) 0 0 4))) (us' := [uX9 G o_t a_t (upr zw12 12 (va_cpy (v_p1.2.2 12) (zw12.2.2 12) 0 0 4)), uX9 G o_p1 a_p1 v_p1]) rfl rfl (fun H locs h => ?_)
  refine lv_aload_n C.hx C.hb dX9_becomeLike_146 rfl (lv_at hl 1 rfl) ?_
  refine g_get C h fl_X9_52 1 0 rfl rfl (v := .ref (a_p1 13)) rfl dX9_becomeLike_147 ?_
  refine lv_iconst (v := 0) C.hx C.hb dX9_becomeLike_150 (by decide) ?_
  refine lv_aload_n C.hx C.hb dX9_becomeLike_151 rfl (lv_at hl 0 rfl) ?_
  refine g_get C h fl_X9_52 0 0 rfl rfl (v := .ref (a_t 13)) rfl dX9_becomeLike_152 ?_
  refine lv_iconst (v := 0) C.hx C.hb dX9_becomeLike_155 (by decide) ?_
  refine lv_iconst (v := 4) C.hx C.hb dX9_becomeLike_156 (by decide) ?_
  obtain ⟨zw13, hzw13, hf⟩ := bnd_some hf
  rw [← hzw13] at h
  refine g_copy C h hl.1 ml_X9_64 ac_n ac_s ac_i 1 8 0 8 rfl rfl (f := v_p1.2.2 13) (g := zw13.2.2 13) rfl rfl 0 0 4 (by decide) (Nat.le_of_ble_eq_true rfl) (Nat.le_of_ble_eq_true rfl) (Nat.le_of_ble_eq_true rfl) (Nat.le_of_ble_eq_true rfl) dX9_becomeLike_157 (u' := uX9 G o_t a_t (upr zw13 13 (va_cpy (v_p1.2.2 13) (zw13.2.2 13) 0 0 4))) (us' := [uX9 G o_t a_t (upr zw13 13 (va_cpy (v_p1.2.2 13) (zw13.2.2 13) 0 0 4)), uX9 G o_p1 a_p1 v_p1]) rfl rfl (fun H locs h => ?_)
  refine lv_aload_n C.hx C.hb dX9_becomeLike_160 rfl (lv_at hl 1 rfl) ?_
  refine g_get C h fl_X9_55 1 0 rfl rfl (v := .ref (a_p1 14)) rfl dX9_becomeLike_161 ?_
  refine lv_iconst (v := 0) C.hx C.hb dX9_becomeLike_164 (by decide) ?_
  refine lv_aload_n C.hx C.hb dX9_becomeLike_165 rfl (lv_at hl 0 rfl) ?_
  refine g_get C h fl_X9_55 0 0 rfl rfl (v := .ref (a_t 14)) rfl dX9_becomeLike_166 ?_
  refine lv_iconst (v := 0) C.hx C.hb dX9_becomeLike_169 (by decide) ?_
  refine lv_iconst (v := 4) C.hx C.hb dX9_becomeLike_170 (by decide) ?_
  obtain ⟨zw14, hzw14, hf⟩ := bnd_some hf
  rw [← hzw14] at h
  refine g_copy C h hl.1 ml_X9_64 ac_n ac_s ac_i 1 9 0 9 rfl rfl (f := v_p1.2.2 14) (g := zw14.2.2 14) rfl rfl 0 0 4 (by decide) (Nat.le_of_ble_eq_true rfl) (Nat.le_of_ble_eq_true rfl) (Nat.le_of_ble_eq_true rfl) (Nat.le_of_ble_eq_true rfl) dX9_becomeLike_171 (u' := uX9 G o_t a_t (upr zw14 14 (va_cpy (v_p1.2.2 14) (zw14.2.2 14) 0 0 4))) (us' := [uX9 G o_t a_t (upr zw14 14 (va_cpy (v_p1.2.2 14) (zw14.2.2 14) 0 0 4)), uX9 G o_p1 a_p1 v_p1]) rfl rfl (fun H locs h => ?_)
  refine lv_aload_n C.hx C.hb dX9_becomeLike_174 rfl (lv_at hl 0 rfl) ?_
  refine lv_aload_n C.hx C.hb dX9_becomeLike_175 rfl (lv_at hl 1 rfl) ?_
  refine g_get C h fl_X9_58 1 0 rfl rfl (v := .int (v_p1.1 15)) rfl dX9_becomeLike_176 ?_
  obtain ⟨zw15, hzw15, hf⟩ := bnd_some hf
  rw [← hzw15] at h
  refine g_put C h fp_X9_58 0 0 rfl rfl rfl rfl (Nat.le_of_ble_eq_true rfl) dX9_becomeLike_179 (u' := uX9 G o_t a_t (upi zw15 15 (v_p1.1 15))) (us' := [uX9 G o_t a_t (upi zw15 15 (v_p1.1 15)), uX9 G o_p1 a_p1 v_p1]) rfl rfl (fun H locs h => ?_)
  refine lv_aload_n C.hx C.hb dX9_becomeLike_182 rfl (lv_at hl 1 rfl) ?_
  refine g_get C h fl_X9_61 1 0 rfl rfl (v := .ref (a_p1 16)) rfl dX9_becomeLike_183 ?_
  refine lv_iconst (v := 0) C.hx C.hb dX9_becomeLike_186 (by decide) ?_
  refine lv_aload_n C.hx C.hb dX9_becomeLike_187 rfl (lv_at hl 0 rfl) ?_
  refine g_get C h fl_X9_61 0 0 rfl rfl (v := .ref (a_t 16)) rfl dX9_becomeLike_188 ?_
  refine lv_iconst (v := 0) C.hx C.hb dX9_becomeLike_191 (by decide) ?_
  refine lv_bipush (v := 10) C.hx C.hb dX9_becomeLike_192 (by decide) ?_
  obtain ⟨zw16, hzw16, hf⟩ := bnd_some hf
  rw [← hzw16] at h
  refine g_copy C h hl.1 ml_X9_64 ac_n ac_s ac_i 1 10 0 10 rfl rfl (f := v_p1.2.2 16) (g := zw16.2.2 16) rfl rfl 0 0 10 (by decide) (Nat.le_of_ble_eq_true rfl) (Nat.le_of_ble_eq_true rfl) (Nat.le_of_ble_eq_true rfl) (Nat.le_of_ble_eq_true rfl) dX9_becomeLike_194 (u' := uX9 G o_t a_t (upr zw16 16 (va_cpy (v_p1.2.2 16) (zw16.2.2 16) 0 0 10))) (us' := [uX9 G o_t a_t (upr zw16 16 (va_cpy (v_p1.2.2 16) (zw16.2.2 16) 0 0 10)), uX9 G o_p1 a_p1 v_p1]) rfl rfl (fun H locs h => ?_)
  obtain rfl := Option.some.inj hf
  exact g_ret_v C h rfl dX9_becomeLike_197
