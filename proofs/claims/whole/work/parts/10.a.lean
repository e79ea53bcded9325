def f_X11_within  (x0 : Int32) (x1 : Int32) (x2 : Int32) : Option (Bool) :=
  if x0 < x1 then (some (false)) else (if x2 < x0 then (some (false)) else (some (true)))
set_option maxRecDepth 100000 in
set_option maxHeartbeats 4000000 in
theorem c_X11_within (l : Launch) (G : GG)  {x0 : Int32} {x1 : Int32} {x2 : Int32} {res : Bool} (hf : f_X11_within x0 x1 x2 = some res) : MI l yX11_within cX11_within 3 (some .boolean) 1 [.int x0, .int x1, .int x2] G [] (b2i res) [] := by
  unfold f_X11_within at hf
  refine MI.intro (by decide) rfl (Nat.le_of_ble_eq_true rfl) (fun p e s m args below meth c A ls C h hl => ?_)
  have C : MC RX11 cX11_within 3 (some .boolean) G A p s m args meth c := C
  have hl : lv_has ls 3 [(0, .int x0), (1, .int x1), (2, .int x2)] := hl
  refine lv_iload_n C.hx C.hb dX11_within_0 rfl (lv_at hl 0 rfl) ?_
  refine lv_iload_n C.hx C.hb dX11_within_1 rfl (lv_at hl 1 rfl) ?_
  refine lv_icmp_lt (tgt := 14) C.hx C.hb dX11_within_2 (by decide) (fun zc1 => ?_) (fun zc1 => ?_)
  · replace hf := it_t zc1 hf
    refine lv_iconst (v := 0) C.hx C.hb dX11_within_14 (by decide) ?_
    obtain rfl := Option.some.inj hf
    exact g_ret_z (b := false) C h rfl rfl rfl dX11_within_15
  · replace hf := it_f zc1 hf
    refine lv_iload_n C.hx C.hb dX11_within_5 rfl (lv_at hl 0 rfl) ?_
    refine lv_iload_n C.hx C.hb dX11_within_6 rfl (lv_at hl 2 rfl) ?_
    refine lv_icmp_gt (tgt := 14) C.hx C.hb dX11_within_7 (by decide) (fun zc2 => ?_) (fun zc2 => ?_)
    · replace hf := it_t zc2 hf
      refine lv_iconst (v := 0) C.hx C.hb dX11_within_14 (by decide) ?_
      obtain rfl := Option.some.inj hf
      exact g_ret_z (b := false) C h rfl rfl rfl dX11_within_15
    · replace hf := it_f zc2 hf
      refine lv_iconst (v := 1) C.hx C.hb dX11_within_10 (by decide) ?_
      refine lv_goto (tgt := 15) C.hx C.hb dX11_within_11 (by decide) ?_
      obtain rfl := Option.some.inj hf
      exact g_ret_z (b := true) C h rfl rfl rfl dX11_within_15

def f_X11_has  (x0 : Int32) (x1 : Int32) : Option (Bool) :=
  if ((x0 >>> (x1 &&& 31)) &&& 1) = 0 then (some (false)) else (some (true))
set_option maxRecDepth 100000 in
set_option maxHeartbeats 4000000 in
theorem c_X11_has (l : Launch) (G : GG)  {x0 : Int32} {x1 : Int32} {res : Bool} (hf : f_X11_has x0 x1 = some res) : MI l yX11_has cX11_has 2 (some .boolean) 1 [.int x0, .int x1] G [] (b2i res) [] := by
  unfold f_X11_has at hf
  refine MI.intro (by decide) rfl (Nat.le_of_ble_eq_true rfl) (fun p e s m args below meth c A ls C h hl => ?_)
  have C : MC RX11 cX11_has 2 (some .boolean) G A p s m args meth c := C
  have hl : lv_has ls 2 [(0, .int x0), (1, .int x1)] := hl
  refine lv_iload_n C.hx C.hb dX11_has_0 rfl (lv_at hl 0 rfl) ?_
  refine lv_iload_n C.hx C.hb dX11_has_1 rfl (lv_at hl 1 rfl) ?_
  refine lv_ishr C.hx C.hb dX11_has_2 ?_
  refine lv_iconst (v := 1) C.hx C.hb dX11_has_3 (by decide) ?_
  refine lv_iand C.hx C.hb dX11_has_4 ?_
  refine lv_if_eq (tgt := 12) C.hx C.hb dX11_has_5 (by decide) (fun zc1 => ?_) (fun zc1 => ?_)
  · replace hf := it_t zc1 hf
    refine lv_iconst (v := 0) C.hx C.hb dX11_has_12 (by decide) ?_
    obtain rfl := Option.some.inj hf
    exact g_ret_z (b := false) C h rfl rfl rfl dX11_has_13
  · replace hf := it_f zc1 hf
    refine lv_iconst (v := 1) C.hx C.hb dX11_has_8 (by decide) ?_
    refine lv_goto (tgt := 13) C.hx C.hb dX11_has_9 (by decide) ?_
    obtain rfl := Option.some.inj hf
    exact g_ret_z (b := true) C h rfl rfl rfl dX11_has_13

def f_X9_hasThing (v_t : US) (x1 : Int32) : Option (Bool) :=
  (f_X11_within x1 0 ((v_t.1 0) - 1)).bind fun zr1 => some (zr1)
set_option maxRecDepth 100000 in
set_option maxHeartbeats 4000000 in
theorem c_X9_hasThing (l : Launch) (G : GG) (o_t : Nat) (a_t : Nat → Nat) {v_t : US} {x1 : Int32} {res : Bool} (hf : f_X9_hasThing v_t x1 = some res) : MI l yX9_hasThing cX9_hasThing 2 (some .boolean) 2 [.ref o_t, .int x1] G [uX9 G o_t a_t v_t] (b2i res) [uX9 G o_t a_t v_t] := by
  unfold f_X9_hasThing at hf
  refine MI.intro (by decide) rfl (Nat.le_of_ble_eq_true rfl) (fun p e s m args below meth c A ls C h hl => ?_)
  have C : MC RX9 cX9_hasThing 2 (some .boolean) G A p s m args meth c := C
  have hl : lv_has ls 2 [(0, .ref o_t), (1, .int x1)] := hl
  refine lv_iload_n C.hx C.hb dX9_hasThing_0 rfl (lv_at hl 1 rfl) ?_
  refine lv_iconst (v := 0) C.hx C.hb dX9_hasThing_1 (by decide) ?_
  refine lv_aload_n C.hx C.hb dX9_hasThing_2 rfl (lv_at hl 0 rfl) ?_
  refine g_get C h fl_X9_9 0 0 rfl rfl (v := .int (v_t.1 0)) rfl dX9_hasThing_3 ?_
  refine lv_iconst (v := 1) C.hx C.hb dX9_hasThing_6 (by decide) ?_
  refine lv_isub C.hx C.hb dX9_hasThing_7 ?_
  obtain ⟨zr1, zq2, hf⟩ := bd_some hf
  have zm3 := c_X11_within l G  (hf := zq2)
  refine g_goI C h zm3.1 (is := []) rfl rfl (g_runN C h (is := []) rfl rfl (As := [.int x1, .int 0, .int ((v_t.1 0) - 1)]) (rest := []) (zm3.2 _) nf_X9_70 hl.1 rfl rfl (Nat.le_of_ble_eq_true rfl) dX9_hasThing_8 ⟨Nat.le_of_ble_eq_true rfl, Nat.le_of_ble_eq_true rfl⟩ ⟨Nat.le_refl _, Nat.le_refl _⟩) (us2 := [uX9 G o_t a_t v_t]) rfl (fun H locs h => ?_)
  obtain rfl := Option.some.inj hf
  exact g_ret_z (b := _) C h rfl rfl rfl dX9_hasThing_11

def b_X9_harmOf_4 (N : Nat) (g4 : US → Int32 → Int32 → Int32 → Option (Int32)) (v_t : US) (y1 : Int32) (y2 : Int32) (y3 : Int32) : Option (Int32) :=
  if (v_t.1 0) ≤ y3 then (some (y2)) else ((f_X11_has y1 y3).bind fun zr2 => if (b2i zr2) = 0 then (g4 v_t y1 y2 (y3 + 1)) else (if y3 < 0 ∨ 5 ≤ y3.toNatClampNeg then none else (g4 v_t y1 (y2 + ((v_t.2.2 4) y3.toNatClampNeg)) (y3 + 1))))
def f_X9_harmOf_4 (N : Nat)  : Nat → US → Int32 → Int32 → Int32 → Option (Int32)
  | 0 => fun _ _ _ _ => none
  | k + 1 => fun q0 q1 q2 q3 => b_X9_harmOf_4 N  (f_X9_harmOf_4 N  k) q0 q1 q2 q3
def f_X9_harmOf (N : Nat) (v_t : US) (x1 : Int32) : Option (Int32) :=
  f_X9_harmOf_4 N N v_t x1 0 0
set_option maxRecDepth 100000 in
set_option maxHeartbeats 4000000 in
theorem w_X9_harmOf_4 {p : Program} {l : Launch} {e : Env} {s : State} {m : MethodId} {args : Array Value} {below : List Frame} {meth : Method} {c : Code} {G : GG} {A : Nat → Prop} {o_t : Nat} {a_t : Nat → Nat} {N : Nat} {g4 : US → Int32 → Int32 → Int32 → Option (Int32)} {v_t : US} {y1 : Int32} {y2 : Int32} {y3 : Int32} {res : Int32} (C : MC RX9 cX9_harmOf 4 (some .int) G A p s m args meth c) (hg4 : ∀ {v_t : US} {y1 : Int32} {y2 : Int32} {y3 : Int32}, g4 v_t y1 y2 y3 = some res → ∀ {H : Heap} {locs : List Loc} {ls : Array Slot}, HP G A s [uX9 G o_t a_t v_t] H locs → lv_has ls 4 [(0, .ref o_t), (1, .int y1), (2, .int y2), (3, .int y3)] → W p l e (rmm 2) s m args below meth c H locs 0 0 (QI below G A args s res [uX9 G o_t a_t v_t]) (F0 m 4 ls [])) (hf : b_X9_harmOf_4 N g4 v_t y1 y2 y3 = some res) {H : Heap} {locs : List Loc} {ls : Array Slot} (h : HP G A s [uX9 G o_t a_t v_t] H locs) (hl : lv_has ls 4 [(0, .ref o_t), (1, .int y1), (2, .int y2), (3, .int y3)]) : W p l e (rmm 2) s m args below meth c H locs 0 0 (QI below G A args s res [uX9 G o_t a_t v_t]) (F0 m 4 ls []) := by
  unfold b_X9_harmOf_4 at hf
  refine lv_iload_n C.hx C.hb dX9_harmOf_4 rfl (lv_at hl 3 rfl) ?_
  refine lv_aload_n C.hx C.hb dX9_harmOf_5 rfl (lv_at hl 0 rfl) ?_
  refine g_get C h fl_X9_9 0 0 rfl rfl (v := .int (v_t.1 0)) rfl dX9_harmOf_6 ?_
  refine lv_icmp_ge (tgt := 35) C.hx C.hb dX9_harmOf_9 (by decide) (fun zc1 => ?_) (fun zc1 => ?_)
  · replace hf := it_t zc1 hf
    refine lv_iload_n C.hx C.hb dX9_harmOf_35 rfl (lv_at hl 2 rfl) ?_
    cases hf
    exact g_ret_i C h rfl rfl dX9_harmOf_36
  · replace hf := it_f zc1 hf
    refine lv_iload_n C.hx C.hb dX9_harmOf_12 rfl (lv_at hl 1 rfl) ?_
    refine lv_iload_n C.hx C.hb dX9_harmOf_13 rfl (lv_at hl 3 rfl) ?_
    obtain ⟨zr2, zq3, hf⟩ := bd_some hf
    have zm4 := c_X11_has l G  (hf := zq3)
    refine g_goI C h zm4.1 (is := []) rfl rfl (g_runN C h (is := []) rfl rfl (As := [.int y1, .int y3]) (rest := []) (zm4.2 _) nf_X9_80 hl.1 rfl rfl (Nat.le_of_ble_eq_true rfl) dX9_harmOf_14 ⟨Nat.le_of_ble_eq_true rfl, Nat.le_of_ble_eq_true rfl⟩ ⟨Nat.le_refl _, Nat.le_refl _⟩) (us2 := [uX9 G o_t a_t v_t]) rfl (fun H locs h => ?_)
    refine lv_if_eq (tgt := 29) C.hx C.hb dX9_harmOf_17 (by decide) (fun zc5 => ?_) (fun zc5 => ?_)
    · replace hf := it_t zc5 hf
      refine lv_iinc (v := y3 + 1) (lv' := [(3, .int (y3 + 1)), (0, .ref o_t), (1, .int y1), (2, .int y2)]) C.hx C.hb dX9_harmOf_29 hl (k := 3) rfl rfl (by decide) rfl (fun ls hl => ?_)
      refine lv_goto (tgt := 4) C.hx C.hb dX9_harmOf_32 (by decide) ?_
      exact hg4 hf h (lv_sub hl [1, 2, 3, 0] rfl)
    · replace hf := it_f zc5 hf
      refine lv_iload_n C.hx C.hb dX9_harmOf_20 rfl (lv_at hl 2 rfl) ?_
      refine lv_aload_n C.hx C.hb dX9_harmOf_21 rfl (lv_at hl 0 rfl) ?_
      refine g_get C h fl_X9_25 0 0 rfl rfl (v := .ref (a_t 4)) rfl dX9_harmOf_22 ?_
      refine lv_iload_n C.hx C.hb dX9_harmOf_25 rfl (lv_at hl 3 rfl) ?_
      obtain ⟨zi6, hf⟩ := ck_some hf
      refine g_iald C h 0 4 rfl rfl (f := v_t.2.2 4) zi6 dX9_harmOf_26 ?_
      refine lv_iadd C.hx C.hb dX9_harmOf_27 ?_
      refine lv_istore_n (lv' := [(2, .int (y2 + ((v_t.2.2 4) y3.toNatClampNeg))), (0, .ref o_t), (1, .int y1), (3, .int y3)]) C.hx C.hb dX9_harmOf_28 rfl hl (by decide) rfl (fun ls hl => ?_)
      refine lv_iinc (v := y3 + 1) (lv' := [(3, .int (y3 + 1)), (2, .int (y2 + ((v_t.2.2 4) y3.toNatClampNeg))), (0, .ref o_t), (1, .int y1)]) C.hx C.hb dX9_harmOf_29 hl (k := 3) rfl rfl (by decide) rfl (fun ls hl => ?_)
      refine lv_goto (tgt := 4) C.hx C.hb dX9_harmOf_32 (by decide) ?_
      exact hg4 hf h (lv_sub hl [2, 3, 1, 0] rfl)
set_option maxRecDepth 100000 in
set_option maxHeartbeats 4000000 in
theorem l_X9_harmOf_4 {p : Program} {l : Launch} {e : Env} {s : State} {m : MethodId} {args : Array Value} {below : List Frame} {meth : Method} {c : Code} {G : GG} {A : Nat → Prop} {o_t : Nat} {a_t : Nat → Nat} {N : Nat}  {res : Int32} (C : MC RX9 cX9_harmOf 4 (some .int) G A p s m args meth c)  : ∀ (k : Nat) {v_t : US} {y1 : Int32} {y2 : Int32} {y3 : Int32}, f_X9_harmOf_4 N k v_t y1 y2 y3 = some res → ∀ {H : Heap} {locs : List Loc} {ls : Array Slot}, HP G A s [uX9 G o_t a_t v_t] H locs → lv_has ls 4 [(0, .ref o_t), (1, .int y1), (2, .int y2), (3, .int y3)] → W p l e (rmm 2) s m args below meth c H locs 0 0 (QI below G A args s res [uX9 G o_t a_t v_t]) (F0 m 4 ls []) := by
  intro k
  induction k with
  | zero => intros; contradiction
  | succ k ih =>
    intro v_t y1 y2 y3 hf H locs ls h hl
    exact w_X9_harmOf_4 (N := N) C ih hf h hl
set_option maxRecDepth 100000 in
set_option maxHeartbeats 4000000 in
theorem c_X9_harmOf (l : Launch) (G : GG) (o_t : Nat) (a_t : Nat → Nat) (N : Nat) {v_t : US} {x1 : Int32} {res : Int32} (hf : f_X9_harmOf N v_t x1 = some res) : MI l yX9_harmOf cX9_harmOf 4 (some .int) 2 [.ref o_t, .int x1] G [uX9 G o_t a_t v_t] res [uX9 G o_t a_t v_t] := by
  unfold f_X9_harmOf at hf
  refine MI.intro (by decide) rfl (Nat.le_of_ble_eq_true rfl) (fun p e s m args below meth c A ls C h hl => ?_)
  have C : MC RX9 cX9_harmOf 4 (some .int) G A p s m args meth c := C
  have hl : lv_has ls 4 [(0, .ref o_t), (1, .int x1)] := hl
  refine lv_iconst (v := 0) C.hx C.hb dX9_harmOf_0 (by decide) ?_
  refine lv_istore_n (lv' := [(2, .int 0), (0, .ref o_t), (1, .int x1)]) C.hx C.hb dX9_harmOf_1 rfl hl (by decide) rfl (fun ls hl => ?_)
  refine lv_iconst (v := 0) C.hx C.hb dX9_harmOf_2 (by decide) ?_
  refine lv_istore_n (lv' := [(3, .int 0), (2, .int 0), (0, .ref o_t), (1, .int x1)]) C.hx C.hb dX9_harmOf_3 rfl hl (by decide) rfl (fun ls hl => ?_)
  exact l_X9_harmOf_4 C N hf h (lv_sub hl [2, 3, 1, 0] rfl)
