def b_X5_endOfRun_3 (N : Nat) (g3 : US → (Nat → Int32) → Int32 → Int32 → Int32 → Option (Int32)) (v_t : US) (v_t_text : Nat → Int32) (y2 : Int32) (y3 : Int32) (y4 : Int32) : Option (Int32) :=
  if (v_t.1 4) ≤ y4 then (some (y4)) else (if y4 < 0 ∨ 200 ≤ y4.toNatClampNeg then none else (if (v_t_text y4.toNatClampNeg) < y2 then (some (y4)) else (if y4 < 0 ∨ 200 ≤ y4.toNatClampNeg then none else (if y3 < (v_t_text y4.toNatClampNeg) then (some (y4)) else (g3 v_t v_t_text y2 y3 (y4 + 1))))))
def f_X5_endOfRun_3 (N : Nat)  : Nat → US → (Nat → Int32) → Int32 → Int32 → Int32 → Option (Int32)
  | 0 => fun _ _ _ _ _ => none
  | k + 1 => fun q0 q1 q2 q3 q4 => b_X5_endOfRun_3 N  (f_X5_endOfRun_3 N  k) q0 q1 q2 q3 q4
def f_X5_endOfRun (N : Nat) (v_t : US) (v_t_text : Nat → Int32) (x1 : Int32) (x2 : Int32) (x3 : Int32) : Option (Int32) :=
  f_X5_endOfRun_3 N N v_t v_t_text x2 x3 x1
set_option maxRecDepth 100000 in
set_option maxHeartbeats 4000000 in
theorem w_X5_endOfRun_3 {p : Program} {l : Launch} {e : Env} {s : State} {m : MethodId} {args : Array Value} {below : List Frame} {meth : Method} {c : Code} {G : GG} {A : Nat → Prop} {o_t : Nat} {a_t : Nat → Nat} {N : Nat} {g3 : US → (Nat → Int32) → Int32 → Int32 → Int32 → Option (Int32)} {v_t : US} {v_t_text : Nat → Int32} {y2 : Int32} {y3 : Int32} {y4 : Int32} {res : Int32} (C : MC RX5 cX5_endOfRun 5 (some .int) G A p s m args meth c) (hg3 : ∀ {v_t : US} {v_t_text : Nat → Int32} {y2 : Int32} {y3 : Int32} {y4 : Int32}, g3 v_t v_t_text y2 y3 y4 = some res → ∀ {H : Heap} {locs : List Loc} {ls : Array Slot}, HP G A s [uX5 G o_t a_t v_t, uA G 200 (a_t 3) v_t_text] H locs → lv_has ls 5 [(0, .ref o_t), (2, .int y2), (3, .int y3), (4, .int y4)] → W p l e (rmm 1) s m args below meth c H locs 0 0 (QI below G A args s res [uX5 G o_t a_t v_t, uA G 200 (a_t 3) v_t_text]) (F0 m 3 ls [])) (hf : b_X5_endOfRun_3 N g3 v_t v_t_text y2 y3 y4 = some res) {H : Heap} {locs : List Loc} {ls : Array Slot} (h : HP G A s [uX5 G o_t a_t v_t, uA G 200 (a_t 3) v_t_text] H locs) (hl : lv_has ls 5 [(0, .ref o_t), (2, .int y2), (3, .int y3), (4, .int y4)]) : W p l e (rmm 1) s m args below meth c H locs 0 0 (QI below G A args s res [uX5 G o_t a_t v_t, uA G 200 (a_t 3) v_t_text]) (F0 m 3 ls []) := by
  unfold b_X5_endOfRun_3 at hf
  refine lv_iload C.hx C.hb dX5_endOfRun_3 (lv_at hl 3 rfl) ?_
  refine lv_aload_n C.hx C.hb dX5_endOfRun_5 rfl (lv_at hl 0 rfl) ?_
  refine g_get C h fl_X5_29 0 0 rfl rfl (v := .int (v_t.1 4)) rfl dX5_endOfRun_6 ?_
  refine lv_icmp_ge (tgt := 40) C.hx C.hb dX5_endOfRun_9 (by decide) (fun zc1 => ?_) (fun zc1 => ?_)
  · replace hf := it_t zc1 hf
    refine lv_iload C.hx C.hb dX5_endOfRun_40 (lv_at hl 3 rfl) ?_
    obtain rfl := Option.some.inj hf
    exact g_ret_i C h rfl rfl dX5_endOfRun_42
  · replace hf := it_f zc1 hf
    refine lv_aload_n C.hx C.hb dX5_endOfRun_12 rfl (lv_at hl 0 rfl) ?_
    refine g_get C h fl_X5_25 0 0 rfl rfl (v := .ref (a_t 3)) rfl dX5_endOfRun_13 ?_
    refine lv_iload C.hx C.hb dX5_endOfRun_16 (lv_at hl 3 rfl) ?_
    obtain ⟨zi2, hf⟩ := ck_some hf
    refine g_iald C h 1 0 rfl rfl (f := v_t_text) zi2 dX5_endOfRun_18 ?_
    refine lv_iload_n C.hx C.hb dX5_endOfRun_19 rfl (lv_at hl 1 rfl) ?_
    refine lv_icmp_lt (tgt := 40) C.hx C.hb dX5_endOfRun_20 (by decide) (fun zc3 => ?_) (fun zc3 => ?_)
    · replace hf := it_t zc3 hf
      refine lv_iload C.hx C.hb dX5_endOfRun_40 (lv_at hl 3 rfl) ?_
      obtain rfl := Option.some.inj hf
      exact g_ret_i C h rfl rfl dX5_endOfRun_42
    · replace hf := it_f zc3 hf
      refine lv_aload_n C.hx C.hb dX5_endOfRun_23 rfl (lv_at hl 0 rfl) ?_
      refine g_get C h fl_X5_25 0 0 rfl rfl (v := .ref (a_t 3)) rfl dX5_endOfRun_24 ?_
      refine lv_iload C.hx C.hb dX5_endOfRun_27 (lv_at hl 3 rfl) ?_
      obtain ⟨zi4, hf⟩ := ck_some hf
      refine g_iald C h 1 0 rfl rfl (f := v_t_text) zi4 dX5_endOfRun_29 ?_
      refine lv_iload_n C.hx C.hb dX5_endOfRun_30 rfl (lv_at hl 2 rfl) ?_
      refine lv_icmp_gt (tgt := 40) C.hx C.hb dX5_endOfRun_31 (by decide) (fun zc5 => ?_) (fun zc5 => ?_)
      · replace hf := it_t zc5 hf
        refine lv_iload C.hx C.hb dX5_endOfRun_40 (lv_at hl 3 rfl) ?_
        obtain rfl := Option.some.inj hf
        exact g_ret_i C h rfl rfl dX5_endOfRun_42
      · replace hf := it_f zc5 hf
        refine lv_iinc (v := y4 + 1) (lv' := [(4, .int (y4 + 1)), (0, .ref o_t), (2, .int y2), (3, .int y3)]) C.hx C.hb dX5_endOfRun_34 hl (k := 3) rfl rfl (by decide) rfl (fun ls hl => ?_)
        refine lv_goto (tgt := 3) C.hx C.hb dX5_endOfRun_37 (by decide) ?_
        exact hg3 hf h (lv_sub hl [1, 2, 3, 0] rfl)
set_option maxRecDepth 100000 in
set_option maxHeartbeats 4000000 in
theorem l_X5_endOfRun_3 {p : Program} {l : Launch} {e : Env} {s : State} {m : MethodId} {args : Array Value} {below : List Frame} {meth : Method} {c : Code} {G : GG} {A : Nat → Prop} {o_t : Nat} {a_t : Nat → Nat} {N : Nat}  {res : Int32} (C : MC RX5 cX5_endOfRun 5 (some .int) G A p s m args meth c)  : ∀ (k : Nat) {v_t : US} {v_t_text : Nat → Int32} {y2 : Int32} {y3 : Int32} {y4 : Int32}, f_X5_endOfRun_3 N k v_t v_t_text y2 y3 y4 = some res → ∀ {H : Heap} {locs : List Loc} {ls : Array Slot}, HP G A s [uX5 G o_t a_t v_t, uA G 200 (a_t 3) v_t_text] H locs → lv_has ls 5 [(0, .ref o_t), (2, .int y2), (3, .int y3), (4, .int y4)] → W p l e (rmm 1) s m args below meth c H locs 0 0 (QI below G A args s res [uX5 G o_t a_t v_t, uA G 200 (a_t 3) v_t_text]) (F0 m 3 ls []) := by
  intro k
  induction k with
  | zero => intros; contradiction
  | succ k ih =>
    intro v_t v_t_text y2 y3 y4 hf H locs ls h hl
    exact w_X5_endOfRun_3 (N := N) C ih hf h hl
set_option maxRecDepth 100000 in
set_option maxHeartbeats 4000000 in
theorem c_X5_endOfRun (l : Launch) (G : GG) (o_t : Nat) (a_t : Nat → Nat) (N : Nat) {v_t : US} {v_t_text : Nat → Int32} {x1 : Int32} {x2 : Int32} {x3 : Int32} {res : Int32} (hf : f_X5_endOfRun N v_t v_t_text x1 x2 x3 = some res) : MI l yX5_endOfRun cX5_endOfRun 5 (some .int) 1 [.ref o_t, .int x1, .int x2, .int x3] G [uX5 G o_t a_t v_t, uA G 200 (a_t 3) v_t_text] res [uX5 G o_t a_t v_t, uA G 200 (a_t 3) v_t_text] := by
  unfold f_X5_endOfRun at hf
  refine MI.intro (by decide) rfl (Nat.le_of_ble_eq_true rfl) (fun p e s m args below meth c A ls C h hl => ?_)
  have C : MC RX5 cX5_endOfRun 5 (some .int) G A p s m args meth c := C
  have hl : lv_has ls 5 [(0, .ref o_t), (1, .int x1), (2, .int x2), (3, .int x3)] := hl
  refine lv_iload_n C.hx C.hb dX5_endOfRun_0 rfl (lv_at hl 1 rfl) ?_
  refine lv_istore (lv' := [(4, .int x1), (0, .ref o_t), (1, .int x1), (2, .int x2), (3, .int x3)]) C.hx C.hb dX5_endOfRun_1 hl (by decide) rfl (fun ls hl => ?_)
  exact l_X5_endOfRun_3 C N hf h (lv_sub hl [1, 3, 4, 0] rfl)

def b_X5_takeFigures_32 (N : Nat) (g32 : US → (Nat → Int32) → Int32 → Option (US)) (v_t : US) (v_t_text : Nat → Int32) (y1 : Int32) : Option (US) :=
  if (v_t.1 5) ≤ y1 then (some (v_t)) else (if ((v_t.1 2) + 2) ≤ y1 then (some (v_t)) else (if y1 < 0 ∨ 200 ≤ y1.toNatClampNeg then none else (g32 (upi v_t 7 (((10 * (v_t.1 7)) + (v_t_text y1.toNatClampNeg)) - 48)) v_t_text (y1 + 1))))
def f_X5_takeFigures_32 (N : Nat)  : Nat → US → (Nat → Int32) → Int32 → Option (US)
  | 0 => fun _ _ _ => none
  | k + 1 => fun q0 q1 q2 => b_X5_takeFigures_32 N  (f_X5_takeFigures_32 N  k) q0 q1 q2
def b_X5_takeFigures_19 (N : Nat)  (v_t : US) (v_t_text : Nat → Int32) (s0 : Int32) : Option (US) :=
  bnd (upi v_t 6 s0) fun zw1 => f_X5_takeFigures_32 N N (upi zw1 7 0) v_t_text (zw1.1 2)
def f_X5_takeFigures (N : Nat) (v_t : US) (v_t_text : Nat → Int32)  : Option (US) :=
  if 2 < ((v_t.1 5) - (v_t.1 2)) then (b_X5_takeFigures_19 N v_t v_t_text 4) else (b_X5_takeFigures_19 N v_t v_t_text 2)
set_option maxRecDepth 100000 in
set_option maxHeartbeats 4000000 in
theorem w_X5_takeFigures_32 {p : Program} {l : Launch} {e : Env} {s : State} {m : MethodId} {args : Array Value} {below : List Frame} {meth : Method} {c : Code} {G : GG} {A : Nat → Prop} {o_t : Nat} {a_t : Nat → Nat} {N : Nat} {g32 : US → (Nat → Int32) → Int32 → Option (US)} {v_t : US} {v_t_text : Nat → Int32} {y1 : Int32} {res : US} (C : MC RX5 cX5_takeFigures 2 none G A p s m args meth c) (hg32 : ∀ {v_t : US} {v_t_text : Nat → Int32} {y1 : Int32}, g32 v_t v_t_text y1 = some res → ∀ {H : Heap} {locs : List Loc} {ls : Array Slot}, HP G A s [uX5 G o_t a_t v_t, uA G 200 (a_t 3) v_t_text] H locs → lv_has ls 2 [(0, .ref o_t), (1, .int y1)] → W p l e (rmm 1) s m args below meth c H locs 0 0 (QV below G A args s  [uX5 G o_t a_t res, uA G 200 (a_t 3) v_t_text]) (F0 m 32 ls [])) (hf : b_X5_takeFigures_32 N g32 v_t v_t_text y1 = some res) {H : Heap} {locs : List Loc} {ls : Array Slot} (h : HP G A s [uX5 G o_t a_t v_t, uA G 200 (a_t 3) v_t_text] H locs) (hl : lv_has ls 2 [(0, .ref o_t), (1, .int y1)]) : W p l e (rmm 1) s m args below meth c H locs 0 0 (QV below G A args s  [uX5 G o_t a_t res, uA G 200 (a_t 3) v_t_text]) (F0 m 32 ls []) := by
  unfold b_X5_takeFigures_32 at hf
  refine lv_iload_n C.hx C.hb dX5_takeFigures_32 rfl (lv_at hl 1 rfl) ?_
  refine lv_aload_n C.hx C.hb dX5_takeFigures_33 rfl (lv_at hl 0 rfl) ?_
  refine g_get C h fl_X5_32 0 0 rfl rfl (v := .int (v_t.1 5)) rfl dX5_takeFigures_34 ?_
  refine lv_icmp_ge (tgt := 77) C.hx C.hb dX5_takeFigures_37 (by decide) (fun zc1 => ?_) (fun zc1 => ?_)
  · replace hf := it_t zc1 hf
    obtain rfl := Option.some.inj hf
    exact g_ret_v C h rfl dX5_takeFigures_77
  · replace hf := it_f zc1 hf
    refine lv_iload_n C.hx C.hb dX5_takeFigures_40 rfl (lv_at hl 1 rfl) ?_
    refine lv_aload_n C.hx C.hb dX5_takeFigures_41 rfl (lv_at hl 0 rfl) ?_
    refine g_get C h fl_X5_22 0 0 rfl rfl (v := .int (v_t.1 2)) rfl dX5_takeFigures_42 ?_
    refine lv_iconst (v := 2) C.hx C.hb dX5_takeFigures_45 (by decide) ?_
    refine lv_iadd C.hx C.hb dX5_takeFigures_46 ?_
    refine lv_icmp_ge (tgt := 77) C.hx C.hb dX5_takeFigures_47 (by decide) (fun zc2 => ?_) (fun zc2 => ?_)
    · replace hf := it_t zc2 hf
      obtain rfl := Option.some.inj hf
      exact g_ret_v C h rfl dX5_takeFigures_77
    · replace hf := it_f zc2 hf
      refine lv_aload_n C.hx C.hb dX5_takeFigures_50 rfl (lv_at hl 0 rfl) ?_
      refine lv_bipush (v := 10) C.hx C.hb dX5_takeFigures_51 (by decide) ?_
      refine lv_aload_n C.hx C.hb dX5_takeFigures_53 rfl (lv_at hl 0 rfl) ?_
      refine g_get C h fl_X5_38 0 0 rfl rfl (v := .int (v_t.1 7)) rfl dX5_takeFigures_54 ?_
      refine lv_imul C.hx C.hb dX5_takeFigures_57 ?_
      refine lv_aload_n C.hx C.hb dX5_takeFigures_58 rfl (lv_at hl 0 rfl) ?_
      refine g_get C h fl_X5_25 0 0 rfl rfl (v := .ref (a_t 3)) rfl dX5_takeFigures_59 ?_
      refine lv_iload_n C.hx C.hb dX5_takeFigures_62 rfl (lv_at hl 1 rfl) ?_
      obtain ⟨zi3, hf⟩ := ck_some hf
      refine g_iald C h 1 0 rfl rfl (f := v_t_text) zi3 dX5_takeFigures_63 ?_
      refine lv_iadd C.hx C.hb dX5_takeFigures_64 ?_
      refine lv_bipush (v := 48) C.hx C.hb dX5_takeFigures_65 (by decide) ?_
      refine lv_isub C.hx C.hb dX5_takeFigures_67 ?_
      refine g_put C h fp_X5_38 0 0 rfl rfl rfl rfl (Nat.le_of_ble_eq_true rfl) dX5_takeFigures_68 (u' := uX5 G o_t a_t (upi v_t 7 (((10 * (v_t.1 7)) + (v_t_text y1.toNatClampNeg)) - 48))) (us' := [uX5 G o_t a_t (upi v_t 7 (((10 * (v_t.1 7)) + (v_t_text y1.toNatClampNeg)) - 48)), uA G 200 (a_t 3) v_t_text]) rfl rfl (fun H locs h => ?_)
      refine lv_iinc (v := y1 + 1) (lv' := [(1, .int (y1 + 1)), (0, .ref o_t)]) C.hx C.hb dX5_takeFigures_71 hl (k := 1) rfl rfl (by decide) rfl (fun ls hl => ?_)
      refine lv_goto (tgt := 32) C.hx C.hb dX5_takeFigures_74 (by decide) ?_
      exact hg32 hf h (lv_sub hl [1, 0] rfl)
set_option maxRecDepth 100000 in
set_option maxHeartbeats 4000000 in
theorem l_X5_takeFigures_32 {p : Program} {l : Launch} {e : Env} {s : State} {m : MethodId} {args : Array Value} {below : List Frame} {meth : Method} {c : Code} {G : GG} {A : Nat → Prop} {o_t : Nat} {a_t : Nat → Nat} {N : Nat}  {res : US} (C : MC RX5 cX5_takeFigures 2 none G A p s m args meth c)  : ∀ (k : Nat) {v_t : US} {v_t_text : Nat → Int32} {y1 : Int32}, f_X5_takeFigures_32 N k v_t v_t_text y1 = some res → ∀ {H : Heap} {locs : List Loc} {ls : Array Slot}, HP G A s [uX5 G o_t a_t v_t, uA G 200 (a_t 3) v_t_text] H locs → lv_has ls 2 [(0, .ref o_t), (1, .int y1)] → W p l e (rmm 1) s m args below meth c H locs 0 0 (QV below G A args s  [uX5 G o_t a_t res, uA G 200 (a_t 3) v_t_text]) (F0 m 32 ls []) := by
  intro k
  induction k with
  | zero => intros; contradiction
  | succ k ih =>
    intro v_t v_t_text y1 hf H locs ls h hl
    exact w_X5_takeFigures_32 (N := N) C ih hf h hl
set_option maxRecDepth 100000 in
set_option maxHeartbeats 4000000 in
theorem w_X5_takeFigures_19 {p : Program} {l : Launch} {e : Env} {s : State} {m : MethodId} {args : Array Value} {below : List Frame} {meth : Method} {c : Code} {G : GG} {A : Nat → Prop} {o_t : Nat} {a_t : Nat → Nat} {N : Nat}  {v_t : US} {v_t_text : Nat → Int32} {s0 : Int32} {res : US} (C : MC RX5 cX5_takeFigures 2 none G A p s m args meth c)  (hf : b_X5_takeFigures_19 N v_t v_t_text s0 = some res) {H : Heap} {locs : List Loc} {ls : Array Slot} (h : HP G A s [uX5 G o_t a_t v_t, uA G 200 (a_t 3) v_t_text] H locs) (hl : lv_has ls 2 [(0, .ref o_t)]) : W p l e (rmm 1) s m args below meth c H locs 0 0 (QV below G A args s  [uX5 G o_t a_t res, uA G 200 (a_t 3) v_t_text]) (F0 m 19 ls [.int s0, .ref o_t]) := by
  unfold b_X5_takeFigures_19 at hf
  refine g_put C h fp_X5_35 0 0 rfl rfl rfl rfl (Nat.le_of_ble_eq_true rfl) dX5_takeFigures_19 (u' := uX5 G o_t a_t (upi v_t 6 s0)) (us' := [uX5 G o_t a_t (upi v_t 6 s0), uA G 200 (a_t 3) v_t_text]) rfl rfl (fun H locs h => ?_)
  refine lv_aload_n C.hx C.hb dX5_takeFigures_22 rfl (lv_at hl 0 rfl) ?_
  refine lv_iconst (v := 0) C.hx C.hb dX5_takeFigures_23 (by decide) ?_
  obtain ⟨zw1, hzw1, hf⟩ := bnd_some hf
  rw [← hzw1] at h
  refine g_put C h fp_X5_38 0 0 rfl rfl rfl rfl (Nat.le_of_ble_eq_true rfl) dX5_takeFigures_24 (u' := uX5 G o_t a_t (upi zw1 7 0)) (us' := [uX5 G o_t a_t (upi zw1 7 0), uA G 200 (a_t 3) v_t_text]) rfl rfl (fun H locs h => ?_)
  refine lv_aload_n C.hx C.hb dX5_takeFigures_27 rfl (lv_at hl 0 rfl) ?_
  refine g_get C h fl_X5_22 0 0 rfl rfl (v := .int (zw1.1 2)) rfl dX5_takeFigures_28 ?_
  refine lv_istore_n (lv' := [(1, .int (zw1.1 2)), (0, .ref o_t)]) C.hx C.hb dX5_takeFigures_31 rfl hl (by decide) rfl (fun ls hl => ?_)
  exact l_X5_takeFigures_32 C N hf h (lv_sub hl [1, 0] rfl)
set_option maxRecDepth 100000 in
set_option maxHeartbeats 4000000 in
theorem c_X5_takeFigures (l : Launch) (G : GG) (o_t : Nat) (a_t : Nat → Nat) (N : Nat) {v_t : US} {v_t_text : Nat → Int32}  {res : US} (hf : f_X5_takeFigures N v_t v_t_text = some res) : MV l yX5_takeFigures cX5_takeFigures 2 none 1 [.ref o_t] G [uX5 G o_t a_t v_t, uA G 200 (a_t 3) v_t_text]  [uX5 G o_t a_t res, uA G 200 (a_t 3) v_t_text] := by
  unfold f_X5_takeFigures at hf
  refine MV.intro (by decide) rfl (Nat.le_of_ble_eq_true rfl) (fun p e s m args below meth c A ls C h hl => ?_)
  have C : MC RX5 cX5_takeFigures 2 none G A p s m args meth c := C
  have hl : lv_has ls 2 [(0, .ref o_t)] := hl
  refine lv_aload_n C.hx C.hb dX5_takeFigures_0 rfl (lv_at hl 0 rfl) ?_
  refine lv_aload_n C.hx C.hb dX5_takeFigures_1 rfl (lv_at hl 0 rfl) ?_
  refine g_get C h fl_X5_32 0 0 rfl rfl (v := .int (v_t.1 5)) rfl dX5_takeFigures_2 ?_
  refine lv_aload_n C.hx C.hb dX5_takeFigures_5 rfl (lv_at hl 0 rfl) ?_
  refine g_get C h fl_X5_22 0 0 rfl rfl (v := .int (v_t.1 2)) rfl dX5_takeFigures_6 ?_
  refine lv_isub C.hx C.hb dX5_takeFigures_9 ?_
  refine lv_iconst (v := 2) C.hx C.hb dX5_takeFigures_10 (by decide) ?_
  refine lv_icmp_gt (tgt := 18) C.hx C.hb dX5_takeFigures_11 (by decide) (fun zc1 => ?_) (fun zc1 => ?_)
  · replace hf := it_t zc1 hf
    refine lv_iconst (v := 4) C.hx C.hb dX5_takeFigures_18 (by decide) ?_
    exact w_X5_takeFigures_19 C  hf h (lv_sub hl [0] rfl)
  · replace hf := it_f zc1 hf
    refine lv_iconst (v := 2) C.hx C.hb dX5_takeFigures_14 (by decide) ?_
    refine lv_goto (tgt := 19) C.hx C.hb dX5_takeFigures_15 (by decide) ?_
    exact w_X5_takeFigures_19 C  hf h (lv_sub hl [0] rfl)

def b_X5_nextToken_166 (N : Nat)  (v_t : US) (v_t_text : Nat → Int32) (s0 : Int32) : Option (US) :=
  bnd (upi v_t 6 s0) fun zw1 => some (upi zw1 5 ((v_t.1 2) + 1))
def b_X5_nextToken_146 (N : Nat)  (v_t : US) (v_t_text : Nat → Int32)  : Option (US) :=
  if (v_t.1 2) < 0 ∨ 200 ≤ (v_t.1 2).toNatClampNeg then none else (if (v_t_text (v_t.1 2).toNatClampNeg) = 59 then (b_X5_nextToken_166 N v_t v_t_text 3) else (b_X5_nextToken_166 N v_t v_t_text 4))
def b_X5_nextToken_95 (N : Nat)  (v_t : US) (v_t_text : Nat → Int32)  : Option (US) :=
  if (v_t.1 2) < 0 ∨ 200 ≤ (v_t.1 2).toNatClampNeg then none else (if (v_t_text (v_t.1 2).toNatClampNeg) < 48 then (b_X5_nextToken_146 N v_t v_t_text) else (if (v_t.1 2) < 0 ∨ 200 ≤ (v_t.1 2).toNatClampNeg then none else (if 57 < (v_t_text (v_t.1 2).toNatClampNeg) then (b_X5_nextToken_146 N v_t v_t_text) else ((f_X5_endOfRun N v_t v_t_text (v_t.1 2) 48 57).bind fun zr5 => (f_X5_takeFigures N (upi v_t 5 zr5) v_t_text).bind fun zr8 => some (zr8)))))
def f_X5_nextToken (N : Nat) (v_t : US) (v_t_text : Nat → Int32)  : Option (US) :=
  (f_X5_endOfRun N v_t v_t_text (v_t.1 5) 32 32).bind fun zr1 => bnd (upi v_t 2 zr1) fun zw4 => if (zw4.1 2) < (zw4.1 4) then (if (zw4.1 2) < 0 ∨ 200 ≤ (zw4.1 2).toNatClampNeg then none else (if (v_t_text (zw4.1 2).toNatClampNeg) < 97 then (b_X5_nextToken_95 N (upi zw4 5 zr1) v_t_text) else (if (zw4.1 2) < 0 ∨ 200 ≤ (zw4.1 2).toNatClampNeg then none else (if 122 < (v_t_text (zw4.1 2).toNatClampNeg) then (b_X5_nextToken_95 N (upi zw4 5 zr1) v_t_text) else (bnd (upi zw4 5 zr1) fun zw10 => (f_X5_endOfRun N (upi zw10 6 1) v_t_text (zw10.1 2) 97 122).bind fun zr11 => bnd (upi zw10 6 1) fun zw14 => some (upi zw14 5 zr11)))))) else (bnd (upi zw4 5 zr1) fun zw15 => some (upi zw15 6 0))
set_option maxRecDepth 100000 in
set_option maxHeartbeats 4000000 in
theorem w_X5_nextToken_166 {p : Program} {l : Launch} {e : Env} {s : State} {m : MethodId} {args : Array Value} {below : List Frame} {meth : Method} {c : Code} {G : GG} {A : Nat → Prop} {o_t : Nat} {a_t : Nat → Nat} {N : Nat}  {v_t : US} {v_t_text : Nat → Int32} {s0 : Int32} {res : US} (C : MC RX5 cX5_nextToken 1 none G A p s m args meth c)  (hf : b_X5_nextToken_166 N v_t v_t_text s0 = some res) {H : Heap} {locs : List Loc} {ls : Array Slot} (h : HP G A s [uX5 G o_t a_t v_t, uA G 200 (a_t 3) v_t_text] H locs) (hl : lv_has ls 1 [(0, .ref o_t)]) : W p l e (rmm 2) s m args below meth c H locs 0 0 (QV below G A args s  [uX5 G o_t a_t res, uA G 200 (a_t 3) v_t_text]) (F0 m 166 ls [.int s0, .ref o_t]) := by
  unfold b_X5_nextToken_166 at hf
  refine g_put C h fp_X5_35 0 0 rfl rfl rfl rfl (Nat.le_of_ble_eq_true rfl) dX5_nextToken_166 (u' := uX5 G o_t a_t (upi v_t 6 s0)) (us' := [uX5 G o_t a_t (upi v_t 6 s0), uA G 200 (a_t 3) v_t_text]) rfl rfl (fun H locs h => ?_)
  refine lv_aload_n C.hx C.hb dX5_nextToken_169 rfl (lv_at hl 0 rfl) ?_
  refine lv_aload_n C.hx C.hb dX5_nextToken_170 rfl (lv_at hl 0 rfl) ?_
  refine g_get C h fl_X5_22 0 0 rfl rfl (v := .int (v_t.1 2)) rfl dX5_nextToken_171 ?_
  refine lv_iconst (v := 1) C.hx C.hb dX5_nextToken_174 (by decide) ?_
  refine lv_iadd C.hx C.hb dX5_nextToken_175 ?_
  obtain ⟨zw1, hzw1, hf⟩ := bnd_some hf
  rw [← hzw1] at h
  refine g_put C h fp_X5_32 0 0 rfl rfl rfl rfl (Nat.le_of_ble_eq_true rfl) dX5_nextToken_176 (u' := uX5 G o_t a_t (upi zw1 5 ((v_t.1 2) + 1))) (us' := [uX5 G o_t a_t (upi zw1 5 ((v_t.1 2) + 1)), uA G 200 (a_t 3) v_t_text]) rfl rfl (fun H locs h => ?_)
  obtain rfl := Option.some.inj hf
  exact g_ret_v C h rfl dX5_nextToken_179
set_option maxRecDepth 100000 in
set_option maxHeartbeats 4000000 in
theorem w_X5_nextToken_146 {p : Program} {l : Launch} {e : Env} {s : State} {m : MethodId} {args : Array Value} {below : List Frame} {meth : Method} {c : Code} {G : GG} {A : Nat → Prop} {o_t : Nat} {a_t : Nat → Nat} {N : Nat}  {v_t : US} {v_t_text : Nat → Int32}  {res : US} (C : MC RX5 cX5_nextToken 1 none G A p s m args meth c)  (hf : b_X5_nextToken_146 N v_t v_t_text = some res) {H : Heap} {locs : List Loc} {ls : Array Slot} (h : HP G A s [uX5 G o_t a_t v_t, uA G 200 (a_t 3) v_t_text] H locs) (hl : lv_has ls 1 [(0, .ref o_t)]) : W p l e (rmm 2) s m args below meth c H locs 0 0 (QV below G A args s  [uX5 G o_t a_t res, uA G 200 (a_t 3) v_t_text]) (F0 m 146 ls []) := by
  unfold b_X5_nextToken_146 at hf
  refine lv_aload_n C.hx C.hb dX5_nextToken_146 rfl (lv_at hl 0 rfl) ?_
  refine lv_aload_n C.hx C.hb dX5_nextToken_147 rfl (lv_at hl 0 rfl) ?_
  refine g_get C h fl_X5_25 0 0 rfl rfl (v := .ref (a_t 3)) rfl dX5_nextToken_148 ?_
  refine lv_aload_n C.hx C.hb dX5_nextToken_151 rfl (lv_at hl 0 rfl) ?_
  refine g_get C h fl_X5_22 0 0 rfl rfl (v := .int (v_t.1 2)) rfl dX5_nextToken_152 ?_
  obtain ⟨zi1, hf⟩ := ck_some hf
  refine g_iald C h 1 0 rfl rfl (f := v_t_text) zi1 dX5_nextToken_155 ?_
  refine lv_bipush (v := 59) C.hx C.hb dX5_nextToken_156 (by decide) ?_
  refine lv_icmp_ne (tgt := 165) C.hx C.hb dX5_nextToken_158 (by decide) (fun zc2 => ?_) (fun zc2 => ?_)
  · replace hf := it_f zc2 hf
    refine lv_iconst (v := 4) C.hx C.hb dX5_nextToken_165 (by decide) ?_
    exact w_X5_nextToken_166 C  hf h (lv_sub hl [0] rfl)
  · replace hf := it_t zc2 hf
    refine lv_iconst (v := 3) C.hx C.hb dX5_nextToken_161 (by decide) ?_
    refine lv_goto (tgt := 166) C.hx C.hb dX5_nextToken_162 (by decide) ?_
    exact w_X5_nextToken_166 C  hf h (lv_sub hl [0] rfl)
set_option maxRecDepth 100000 in
set_option maxHeartbeats 4000000 in
theorem w_X5_nextToken_95 {p : Program} {l : Launch} {e : Env} {s : State} {m : MethodId} {args : Array Value} {below : List Frame} {meth : Method} {c : Code} {G : GG} {A : Nat → Prop} {o_t : Nat} {a_t : Nat → Nat} {N : Nat}  {v_t : US} {v_t_text : Nat → Int32}  {res : US} (C : MC RX5 cX5_nextToken 1 none G A p s m args meth c)  (hf : b_X5_nextToken_95 N v_t v_t_text = some res) {H : Heap} {locs : List Loc} {ls : Array Slot} (h : HP G A s [uX5 G o_t a_t v_t, uA G 200 (a_t 3) v_t_text] H locs) (hl : lv_has ls 1 [(0, .ref o_t)]) : W p l e (rmm 2) s m args below meth c H locs 0 0 (QV below G A args s  [uX5 G o_t a_t res, uA G 200 (a_t 3) v_t_text]) (F0 m 95 ls []) := by
  unfold b_X5_nextToken_95 at hf
  refine lv_aload_n C.hx C.hb dX5_nextToken_95 rfl (lv_at hl 0 rfl) ?_
  refine g_get C h fl_X5_25 0 0 rfl rfl (v := .ref (a_t 3)) rfl dX5_nextToken_96 ?_
  refine lv_aload_n C.hx C.hb dX5_nextToken_99 rfl (lv_at hl 0 rfl) ?_
  refine g_get C h fl_X5_22 0 0 rfl rfl (v := .int (v_t.1 2)) rfl dX5_nextToken_100 ?_
  obtain ⟨zi1, hf⟩ := ck_some hf
  refine g_iald C h 1 0 rfl rfl (f := v_t_text) zi1 dX5_nextToken_103 ?_
  refine lv_bipush (v := 48) C.hx C.hb dX5_nextToken_104 (by decide) ?_
  refine lv_icmp_lt (tgt := 146) C.hx C.hb dX5_nextToken_106 (by decide) (fun zc2 => ?_) (fun zc2 => ?_)
  · replace hf := it_t zc2 hf
    exact w_X5_nextToken_146 C  hf h (lv_sub hl [0] rfl)
  · replace hf := it_f zc2 hf
    refine lv_aload_n C.hx C.hb dX5_nextToken_109 rfl (lv_at hl 0 rfl) ?_
    refine g_get C h fl_X5_25 0 0 rfl rfl (v := .ref (a_t 3)) rfl dX5_nextToken_110 ?_
    refine lv_aload_n C.hx C.hb dX5_nextToken_113 rfl (lv_at hl 0 rfl) ?_
    refine g_get C h fl_X5_22 0 0 rfl rfl (v := .int (v_t.1 2)) rfl dX5_nextToken_114 ?_
    obtain ⟨zi3, hf⟩ := ck_some hf
    refine g_iald C h 1 0 rfl rfl (f := v_t_text) zi3 dX5_nextToken_117 ?_
    refine lv_bipush (v := 57) C.hx C.hb dX5_nextToken_118 (by decide) ?_
    refine lv_icmp_gt (tgt := 146) C.hx C.hb dX5_nextToken_120 (by decide) (fun zc4 => ?_) (fun zc4 => ?_)
    · replace hf := it_t zc4 hf
      exact w_X5_nextToken_146 C  hf h (lv_sub hl [0] rfl)
    · replace hf := it_f zc4 hf
      refine lv_aload_n C.hx C.hb dX5_nextToken_123 rfl (lv_at hl 0 rfl) ?_
      refine lv_aload_n C.hx C.hb dX5_nextToken_124 rfl (lv_at hl 0 rfl) ?_
      refine lv_aload_n C.hx C.hb dX5_nextToken_125 rfl (lv_at hl 0 rfl) ?_
      refine g_get C h fl_X5_22 0 0 rfl rfl (v := .int (v_t.1 2)) rfl dX5_nextToken_126 ?_
      refine lv_bipush (v := 48) C.hx C.hb dX5_nextToken_129 (by decide) ?_
      refine lv_bipush (v := 57) C.hx C.hb dX5_nextToken_131 (by decide) ?_
      obtain ⟨zr5, zq6, hf⟩ := bd_some hf
      have zm7 := c_X5_endOfRun l G o_t a_t N (hf := zq6)
      refine g_goI C h zm7.1 (is := [0, 1]) rfl rfl (g_runV C h (is := [0, 1]) rfl rfl (As := [.int (v_t.1 2), .int 48, .int 57]) (rest := [.ref o_t]) (zm7.2 _) vf_X5_129 0 0 rfl rfl hl.1 rfl rfl (Nat.le_of_ble_eq_true rfl) dX5_nextToken_133 ⟨Nat.le_of_ble_eq_true rfl, Nat.le_of_ble_eq_true rfl⟩ ⟨Nat.le_refl _, Nat.le_refl _⟩) (us2 := [uX5 G o_t a_t v_t, uA G 200 (a_t 3) v_t_text]) rfl (fun H locs h => ?_)
      refine g_put C h fp_X5_32 0 0 rfl rfl rfl rfl (Nat.le_of_ble_eq_true rfl) dX5_nextToken_136 (u' := uX5 G o_t a_t (upi v_t 5 zr5)) (us' := [uX5 G o_t a_t (upi v_t 5 zr5), uA G 200 (a_t 3) v_t_text]) rfl rfl (fun H locs h => ?_)
      refine lv_aload_n C.hx C.hb dX5_nextToken_139 rfl (lv_at hl 0 rfl) ?_
      obtain ⟨zr8, zq9, hf⟩ := bd_some hf
      have zm10 := c_X5_takeFigures l G o_t a_t N (hf := zq9)
      refine g_goV C h zm10.1 (is := [0, 1]) rfl rfl (g_runV C h (is := [0, 1]) rfl rfl (As := []) (rest := []) (zm10.2 _) vf_X5_133 0 0 rfl rfl hl.1 rfl rfl (Nat.le_of_ble_eq_true rfl) dX5_nextToken_140 ⟨Nat.le_of_ble_eq_true rfl, Nat.le_of_ble_eq_true rfl⟩ ⟨Nat.le_refl _, Nat.le_refl _⟩) (us2 := [uX5 G o_t a_t zr8, uA G 200 (a_t 3) v_t_text]) rfl (fun H locs h => ?_)
      refine lv_goto (tgt := 179) C.hx C.hb dX5_nextToken_143 (by decide) ?_
      obtain rfl := Option.some.inj hf
      exact g_ret_v C h rfl dX5_nextToken_179
set_option maxRecDepth 100000 in
set_option maxHeartbeats 4000000 in
theorem c_X5_nextToken (l : Launch) (G : GG) (o_t : Nat) (a_t : Nat → Nat) (N : Nat) {v_t : US} {v_t_text : Nat → Int32}  {res : US} (hf : f_X5_nextToken N v_t v_t_text = some res) : MV l yX5_nextToken cX5_nextToken 1 none 2 [.ref o_t] G [uX5 G o_t a_t v_t, uA G 200 (a_t 3) v_t_text]  [uX5 G o_t a_t res, uA G 200 (a_t 3) v_t_text] := by
  unfold f_X5_nextToken at hf
  refine MV.intro (by decide) rfl (Nat.le_of_ble_eq_true rfl) (fun p e s m args below meth c A ls C h hl => ?_)
  have C : MC RX5 cX5_nextToken 1 none G A p s m args meth c := C
  have hl : lv_has ls 1 [(0, .ref o_t)] := hl
  refine lv_aload_n C.hx C.hb dX5_nextToken_0 rfl (lv_at hl 0 rfl) ?_
  refine lv_aload_n C.hx C.hb dX5_nextToken_1 rfl (lv_at hl 0 rfl) ?_
  refine lv_aload_n C.hx C.hb dX5_nextToken_2 rfl (lv_at hl 0 rfl) ?_
  refine g_get C h fl_X5_32 0 0 rfl rfl (v := .int (v_t.1 5)) rfl dX5_nextToken_3 ?_
  refine lv_bipush (v := 32) C.hx C.hb dX5_nextToken_6 (by decide) ?_
  refine lv_bipush (v := 32) C.hx C.hb dX5_nextToken_8 (by decide) ?_
  obtain ⟨zr1, zq2, hf⟩ := bd_some hf
  have zm3 := c_X5_endOfRun l G o_t a_t N (hf := zq2)
  refine g_goI C h zm3.1 (is := [0, 1]) rfl rfl (g_runV C h (is := [0, 1]) rfl rfl (As := [.int (v_t.1 5), .int 32, .int 32]) (rest := [.ref o_t]) (zm3.2 _) vf_X5_129 0 0 rfl rfl hl.1 rfl rfl (Nat.le_of_ble_eq_true rfl) dX5_nextToken_10 ⟨Nat.le_of_ble_eq_true rfl, Nat.le_of_ble_eq_true rfl⟩ ⟨Nat.le_refl _, Nat.le_refl _⟩) (us2 := [uX5 G o_t a_t v_t, uA G 200 (a_t 3) v_t_text]) rfl (fun H locs h => ?_)
  refine g_put C h fp_X5_22 0 0 rfl rfl rfl rfl (Nat.le_of_ble_eq_true rfl) dX5_nextToken_13 (u' := uX5 G o_t a_t (upi v_t 2 zr1)) (us' := [uX5 G o_t a_t (upi v_t 2 zr1), uA G 200 (a_t 3) v_t_text]) rfl rfl (fun H locs h => ?_)
  refine lv_aload_n C.hx C.hb dX5_nextToken_16 rfl (lv_at hl 0 rfl) ?_
  refine lv_aload_n C.hx C.hb dX5_nextToken_17 rfl (lv_at hl 0 rfl) ?_
  refine g_get C h fl_X5_22 0 0 rfl rfl (v := .int zr1) rfl dX5_nextToken_18 ?_
  obtain ⟨zw4, hzw4, hf⟩ := bnd_some hf
  rw [← hzw4] at h
  refine g_put C h fp_X5_32 0 0 rfl rfl rfl rfl (Nat.le_of_ble_eq_true rfl) dX5_nextToken_21 (u' := uX5 G o_t a_t (upi zw4 5 zr1)) (us' := [uX5 G o_t a_t (upi zw4 5 zr1), uA G 200 (a_t 3) v_t_text]) rfl rfl (fun H locs h => ?_)
  refine lv_aload_n C.hx C.hb dX5_nextToken_24 rfl (lv_at hl 0 rfl) ?_
  refine g_get C h fl_X5_22 0 0 rfl rfl (v := .int (zw4.1 2)) rfl dX5_nextToken_25 ?_
  refine lv_aload_n C.hx C.hb dX5_nextToken_28 rfl (lv_at hl 0 rfl) ?_
  refine g_get C h fl_X5_29 0 0 rfl rfl (v := .int (zw4.1 4)) rfl dX5_nextToken_29 ?_
  refine lv_icmp_lt (tgt := 43) C.hx C.hb dX5_nextToken_32 (by decide) (fun zc5 => ?_) (fun zc5 => ?_)
  · replace hf := it_t zc5 hf
    refine lv_aload_n C.hx C.hb dX5_nextToken_43 rfl (lv_at hl 0 rfl) ?_
    refine g_get C h fl_X5_25 0 0 rfl rfl (v := .ref (a_t 3)) rfl dX5_nextToken_44 ?_
    refine lv_aload_n C.hx C.hb dX5_nextToken_47 rfl (lv_at hl 0 rfl) ?_
    refine g_get C h fl_X5_22 0 0 rfl rfl (v := .int (zw4.1 2)) rfl dX5_nextToken_48 ?_
    obtain ⟨zi6, hf⟩ := ck_some hf
    refine g_iald C h 1 0 rfl rfl (f := v_t_text) zi6 dX5_nextToken_51 ?_
    refine lv_bipush (v := 97) C.hx C.hb dX5_nextToken_52 (by decide) ?_
    refine lv_icmp_lt (tgt := 95) C.hx C.hb dX5_nextToken_54 (by decide) (fun zc7 => ?_) (fun zc7 => ?_)
    · replace hf := it_t zc7 hf
      exact w_X5_nextToken_95 C  hf h (lv_sub hl [0] rfl)
    · replace hf := it_f zc7 hf
      refine lv_aload_n C.hx C.hb dX5_nextToken_57 rfl (lv_at hl 0 rfl) ?_
      refine g_get C h fl_X5_25 0 0 rfl rfl (v := .ref (a_t 3)) rfl dX5_nextToken_58 ?_
      refine lv_aload_n C.hx C.hb dX5_nextToken_61 rfl (lv_at hl 0 rfl) ?_
      refine g_get C h fl_X5_22 0 0 rfl rfl (v := .int (zw4.1 2)) rfl dX5_nextToken_62 ?_
      obtain ⟨zi8, hf⟩ := ck_some hf
      refine g_iald C h 1 0 rfl rfl (f := v_t_text) zi8 dX5_nextToken_65 ?_
      refine lv_bipush (v := 122) C.hx C.hb dX5_nextToken_66 (by decide) ?_
      refine lv_icmp_gt (tgt := 95) C.hx C.hb dX5_nextToken_68 (by decide) (fun zc9 => ?_) (fun zc9 => ?_)
      · replace hf := it_t zc9 hf
        exact w_X5_nextToken_95 C  hf h (lv_sub hl [0] rfl)
      · replace hf := it_f zc9 hf
        refine lv_aload_n C.hx C.hb dX5_nextToken_71 rfl (lv_at hl 0 rfl) ?_
        refine lv_iconst (v := 1) C.hx C.hb dX5_nextToken_72 (by decide) ?_
        obtain ⟨zw10, hzw10, hf⟩ := bnd_some hf
        rw [← hzw10] at h
        refine g_put C h fp_X5_35 0 0 rfl rfl rfl rfl (Nat.le_of_ble_eq_true rfl) dX5_nextToken_73 (u' := uX5 G o_t a_t (upi zw10 6 1)) (us' := [uX5 G o_t a_t (upi zw10 6 1), uA G 200 (a_t 3) v_t_text]) rfl rfl (fun H locs h => ?_)
        refine lv_aload_n C.hx C.hb dX5_nextToken_76 rfl (lv_at hl 0 rfl) ?_
        refine lv_aload_n C.hx C.hb dX5_nextToken_77 rfl (lv_at hl 0 rfl) ?_
        refine lv_aload_n C.hx C.hb dX5_nextToken_78 rfl (lv_at hl 0 rfl) ?_
        refine g_get C h fl_X5_22 0 0 rfl rfl (v := .int (zw10.1 2)) rfl dX5_nextToken_79 ?_
        refine lv_bipush (v := 97) C.hx C.hb dX5_nextToken_82 (by decide) ?_
        refine lv_bipush (v := 122) C.hx C.hb dX5_nextToken_84 (by decide) ?_
        obtain ⟨zr11, zq12, hf⟩ := bd_some hf
        have zm13 := c_X5_endOfRun l G o_t a_t N (hf := zq12)
        refine g_goI C h zm13.1 (is := [0, 1]) rfl rfl (g_runV C h (is := [0, 1]) rfl rfl (As := [.int (zw10.1 2), .int 97, .int 122]) (rest := [.ref o_t]) (zm13.2 _) vf_X5_129 0 0 rfl rfl hl.1 rfl rfl (Nat.le_of_ble_eq_true rfl) dX5_nextToken_86 ⟨Nat.le_of_ble_eq_true rfl, Nat.le_of_ble_eq_true rfl⟩ ⟨Nat.le_refl _, Nat.le_refl _⟩) (us2 := [uX5 G o_t a_t (upi zw10 6 1), uA G 200 (a_t 3) v_t_text]) rfl (fun H locs h => ?_)
        obtain ⟨zw14, hzw14, hf⟩ := bnd_some hf
        rw [← hzw14] at h
        refine g_put C h fp_X5_32 0 0 rfl rfl rfl rfl (Nat.le_of_ble_eq_true rfl) dX5_nextToken_89 (u' := uX5 G o_t a_t (upi zw14 5 zr11)) (us' := [uX5 G o_t a_t (upi zw14 5 zr11), uA G 200 (a_t 3) v_t_text]) rfl rfl (fun H locs h => ?_)
        refine lv_goto (tgt := 179) C.hx C.hb dX5_nextToken_92 (by decide) ?_
        obtain rfl := Option.some.inj hf
        exact g_ret_v C h rfl dX5_nextToken_179
  · replace hf := it_f zc5 hf
    refine lv_aload_n C.hx C.hb dX5_nextToken_35 rfl (lv_at hl 0 rfl) ?_
    refine lv_iconst (v := 0) C.hx C.hb dX5_nextToken_36 (by decide) ?_
    obtain ⟨zw15, hzw15, hf⟩ := bnd_some hf
    rw [← hzw15] at h
    refine g_put C h fp_X5_35 0 0 rfl rfl rfl rfl (Nat.le_of_ble_eq_true rfl) dX5_nextToken_37 (u' := uX5 G o_t a_t (upi zw15 6 0)) (us' := [uX5 G o_t a_t (upi zw15 6 0), uA G 200 (a_t 3) v_t_text]) rfl rfl (fun H locs h => ?_)
    refine lv_goto (tgt := 179) C.hx C.hb dX5_nextToken_40 (by decide) ?_
    obtain rfl := Option.some.inj hf
    exact g_ret_v C h rfl dX5_nextToken_179

def f_X5_takesNumber (N : Nat) (v_t : US) (v_t_text : Nat → Int32) (x1 : Int32) (x2 : Int32) (x3 : Int32) : Option (Bool × US) :=
  (f_X5_nextToken N v_t v_t_text).bind fun zr1 => if (zr1.1 6) = 2 then ((f_X11_within (zr1.1 7) x2 x3).bind fun zr5 => if (b2i zr5) = 0 then (some (false, zr1)) else (if x1 < 0 ∨ 4 ≤ x1.toNatClampNeg then none else (some (true, upa zr1 8 x1.toNatClampNeg (zr1.1 7))))) else (some (false, zr1))
set_option maxRecDepth 100000 in
set_option maxHeartbeats 4000000 in
theorem c_X5_takesNumber (l : Launch) (G : GG) (o_t : Nat) (a_t : Nat → Nat) (N : Nat) {v_t : US} {v_t_text : Nat → Int32} {x1 : Int32} {x2 : Int32} {x3 : Int32} {res : Bool × US} (hf : f_X5_takesNumber N v_t v_t_text x1 x2 x3 = some res) : MI l yX5_takesNumber cX5_takesNumber 4 (some .boolean) 3 [.ref o_t, .int x1, .int x2, .int x3] G [uX5 G o_t a_t v_t, uA G 200 (a_t 3) v_t_text] (b2i res.1) [uX5 G o_t a_t res.2, uA G 200 (a_t 3) v_t_text] := by
  unfold f_X5_takesNumber at hf
  refine MI.intro (by decide) rfl (Nat.le_of_ble_eq_true rfl) (fun p e s m args below meth c A ls C h hl => ?_)
  have C : MC RX5 cX5_takesNumber 4 (some .boolean) G A p s m args meth c := C
  have hl : lv_has ls 4 [(0, .ref o_t), (1, .int x1), (2, .int x2), (3, .int x3)] := hl
  refine lv_aload_n C.hx C.hb dX5_takesNumber_0 rfl (lv_at hl 0 rfl) ?_
  obtain ⟨zr1, zq2, hf⟩ := bd_some hf
  have zm3 := c_X5_nextToken l G o_t a_t N (hf := zq2)
  refine g_goV C h zm3.1 (is := [0, 1]) rfl rfl (g_runV C h (is := [0, 1]) rfl rfl (As := []) (rest := []) (zm3.2 _) vf_X5_53 0 0 rfl rfl hl.1 rfl rfl (Nat.le_of_ble_eq_true rfl) dX5_takesNumber_1 ⟨Nat.le_of_ble_eq_true rfl, Nat.le_of_ble_eq_true rfl⟩ ⟨Nat.le_refl _, Nat.le_refl _⟩) (us2 := [uX5 G o_t a_t zr1, uA G 200 (a_t 3) v_t_text]) rfl (fun H locs h => ?_)
  refine lv_aload_n C.hx C.hb dX5_takesNumber_4 rfl (lv_at hl 0 rfl) ?_
  refine g_get C h fl_X5_35 0 0 rfl rfl (v := .int (zr1.1 6)) rfl dX5_takesNumber_5 ?_
  refine lv_iconst (v := 2) C.hx C.hb dX5_takesNumber_8 (by decide) ?_
  refine lv_icmp_ne (tgt := 24) C.hx C.hb dX5_takesNumber_9 (by decide) (fun zc4 => ?_) (fun zc4 => ?_)
  · replace hf := it_f zc4 hf
    refine lv_iconst (v := 0) C.hx C.hb dX5_takesNumber_24 (by decide) ?_
    obtain rfl := Option.some.inj hf
    exact g_ret_z (b := false) C h rfl rfl rfl dX5_takesNumber_25
  · replace hf := it_t zc4 hf
    refine lv_aload_n C.hx C.hb dX5_takesNumber_12 rfl (lv_at hl 0 rfl) ?_
    refine g_get C h fl_X5_38 0 0 rfl rfl (v := .int (zr1.1 7)) rfl dX5_takesNumber_13 ?_
    refine lv_iload_n C.hx C.hb dX5_takesNumber_16 rfl (lv_at hl 2 rfl) ?_
    refine lv_iload_n C.hx C.hb dX5_takesNumber_17 rfl (lv_at hl 3 rfl) ?_
    obtain ⟨zr5, zq6, hf⟩ := bd_some hf
    have zm7 := c_X11_within l G  (hf := zq6)
    refine g_goI C h zm7.1 (is := []) rfl rfl (g_runN C h (is := []) rfl rfl (As := [.int (zr1.1 7), .int x2, .int x3]) (rest := []) (zm7.2 _) nf_X5_126 hl.1 rfl rfl (Nat.le_of_ble_eq_true rfl) dX5_takesNumber_18 ⟨Nat.le_of_ble_eq_true rfl, Nat.le_of_ble_eq_true rfl⟩ ⟨Nat.le_refl _, Nat.le_refl _⟩) (us2 := [uX5 G o_t a_t zr1, uA G 200 (a_t 3) v_t_text]) rfl (fun H locs h => ?_)
    refine lv_if_ne (tgt := 26) C.hx C.hb dX5_takesNumber_21 (by decide) (fun zc8 => ?_) (fun zc8 => ?_)
    · replace hf := it_f zc8 hf
      refine lv_aload_n C.hx C.hb dX5_takesNumber_26 rfl (lv_at hl 0 rfl) ?_
      refine g_get C h fl_X5_41 0 0 rfl rfl (v := .ref (a_t 8)) rfl dX5_takesNumber_27 ?_
      refine lv_iload_n C.hx C.hb dX5_takesNumber_30 rfl (lv_at hl 1 rfl) ?_
      refine lv_aload_n C.hx C.hb dX5_takesNumber_31 rfl (lv_at hl 0 rfl) ?_
      refine g_get C h fl_X5_38 0 0 rfl rfl (v := .int (zr1.1 7)) rfl dX5_takesNumber_32 ?_
      obtain ⟨zi9, hf⟩ := ck_some hf
      refine g_iast C h 0 1 rfl rfl (f := zr1.2.2 8) zi9 dX5_takesNumber_35 (u' := uX5 G o_t a_t (upa zr1 8 x1.toNatClampNeg (zr1.1 7))) (us' := [uX5 G o_t a_t (upa zr1 8 x1.toNatClampNeg (zr1.1 7)), uA G 200 (a_t 3) v_t_text]) rfl rfl (fun H locs h => ?_)
      refine lv_iconst (v := 1) C.hx C.hb dX5_takesNumber_36 (by decide) ?_
      obtain rfl := Option.some.inj hf
      exact g_ret_z (b := true) C h rfl rfl rfl dX5_takesNumber_37
    · replace hf := it_t zc8 hf
      refine lv_iconst (v := 0) C.hx C.hb dX5_takesNumber_24 (by decide) ?_
      obtain rfl := Option.some.inj hf
      exact g_ret_z (b := false) C h rfl rfl rfl dX5_takesNumber_25

def f_X5_takesCut (N : Nat) (v_t : US) (v_t_draft : US) (v_t_text : Nat → Int32)  : Option (Bool × US × US) :=
  (f_X5_takesNumber N v_t v_t_text 0 0 ((v_t_draft.1 0) - 1)).bind fun zr1 => if (b2i zr1.1) = 0 then (some (false, zr1.2, v_t_draft)) else (if (0 : Int32) < 0 ∨ 4 ≤ (0 : Int32).toNatClampNeg then none else ((f_X11_has (v_t_draft.1 5) ((zr1.2.2.2 8) (0 : Int32).toNatClampNeg)).bind fun zr6 => if (b2i zr6) = 0 then (some (false, zr1.2, v_t_draft)) else (if (0 : Int32) < 0 ∨ 4 ≤ (0 : Int32).toNatClampNeg then none else (some (true, zr1.2, upi v_t_draft 5 ((v_t_draft.1 5) ^^^ (1 <<< (((zr1.2.2.2 8) (0 : Int32).toNatClampNeg) &&& 31))))))))
set_option maxRecDepth 100000 in
set_option maxHeartbeats 4000000 in
theorem c_X5_takesCut (l : Launch) (G : GG) (o_t : Nat) (a_t a_t_draft : Nat → Nat) (N : Nat) {v_t : US} {v_t_draft : US} {v_t_text : Nat → Int32}  {res : Bool × US × US} (hf : f_X5_takesCut N v_t v_t_draft v_t_text = some res) : MI l yX5_takesCut cX5_takesCut 1 (some .boolean) 4 [.ref o_t] G [uX5 G o_t a_t v_t, uX9 G (a_t 0) a_t_draft v_t_draft, uA G 200 (a_t 3) v_t_text] (b2i res.1) [uX5 G o_t a_t res.2.1, uX9 G (a_t 0) a_t_draft res.2.2, uA G 200 (a_t 3) v_t_text] := by
  unfold f_X5_takesCut at hf
  refine MI.intro (by decide) rfl (Nat.le_of_ble_eq_true rfl) (fun p e s m args below meth c A ls C h hl => ?_)
  have C : MC RX5 cX5_takesCut 1 (some .boolean) G A p s m args meth c := C
  have hl : lv_has ls 1 [(0, .ref o_t)] := hl
  refine lv_aload_n C.hx C.hb dX5_takesCut_0 rfl (lv_at hl 0 rfl) ?_
  refine lv_iconst (v := 0) C.hx C.hb dX5_takesCut_1 (by decide) ?_
  refine lv_iconst (v := 0) C.hx C.hb dX5_takesCut_2 (by decide) ?_
  refine lv_aload_n C.hx C.hb dX5_takesCut_3 rfl (lv_at hl 0 rfl) ?_
  refine g_get C h fl_X5_12 0 0 rfl rfl (v := .ref (a_t 0)) rfl dX5_takesCut_4 ?_
  refine g_get C h fl_X5_92 1 0 rfl rfl (v := .int (v_t_draft.1 0)) rfl dX5_takesCut_7 ?_
  refine lv_iconst (v := 1) C.hx C.hb dX5_takesCut_10 (by decide) ?_
  refine lv_isub C.hx C.hb dX5_takesCut_11 ?_
  obtain ⟨zr1, zq2, hf⟩ := bd_some hf
  have zm3 := c_X5_takesNumber l G o_t a_t N (hf := zq2)
  refine g_goI C h zm3.1 (is := [0, 2]) rfl rfl (g_runV C h (is := [0, 2]) rfl rfl (As := [.int 0, .int 0, .int ((v_t_draft.1 0) - 1)]) (rest := []) (zm3.2 _) vf_X5_95 0 0 rfl rfl hl.1 rfl rfl (Nat.le_of_ble_eq_true rfl) dX5_takesCut_12 ⟨Nat.le_of_ble_eq_true rfl, Nat.le_of_ble_eq_true rfl⟩ ⟨Nat.le_refl _, Nat.le_refl _⟩) (us2 := [uX5 G o_t a_t zr1.2, uX9 G (a_t 0) a_t_draft v_t_draft, uA G 200 (a_t 3) v_t_text]) rfl (fun H locs h => ?_)
  refine lv_if_eq (tgt := 37) C.hx C.hb dX5_takesCut_15 (by decide) (fun zc4 => ?_) (fun zc4 => ?_)
  · replace hf := it_t zc4 hf
    refine lv_iconst (v := 0) C.hx C.hb dX5_takesCut_37 (by decide) ?_
    obtain rfl := Option.some.inj hf
    exact g_ret_z (b := false) C h rfl rfl rfl dX5_takesCut_38
  · replace hf := it_f zc4 hf
    refine lv_aload_n C.hx C.hb dX5_takesCut_18 rfl (lv_at hl 0 rfl) ?_
    refine g_get C h fl_X5_12 0 0 rfl rfl (v := .ref (a_t 0)) rfl dX5_takesCut_19 ?_
    refine g_get C h fl_X5_103 1 0 rfl rfl (v := .int (v_t_draft.1 5)) rfl dX5_takesCut_22 ?_
    refine lv_aload_n C.hx C.hb dX5_takesCut_25 rfl (lv_at hl 0 rfl) ?_
    refine g_get C h fl_X5_41 0 0 rfl rfl (v := .ref (a_t 8)) rfl dX5_takesCut_26 ?_
    refine lv_iconst (v := 0) C.hx C.hb dX5_takesCut_29 (by decide) ?_
    obtain ⟨zi5, hf⟩ := ck_some hf
    refine g_iald C h 0 1 rfl rfl (f := zr1.2.2.2 8) zi5 dX5_takesCut_30 ?_
    obtain ⟨zr6, zq7, hf⟩ := bd_some hf
    have zm8 := c_X11_has l G  (hf := zq7)
    refine g_goI C h zm8.1 (is := []) rfl rfl (g_runN C h (is := []) rfl rfl (As := [.int (v_t_draft.1 5), .int ((zr1.2.2.2 8) (0 : Int32).toNatClampNeg)]) (rest := []) (zm8.2 _) nf_X5_106 hl.1 rfl rfl (Nat.le_of_ble_eq_true rfl) dX5_takesCut_31 ⟨Nat.le_of_ble_eq_true rfl, Nat.le_of_ble_eq_true rfl⟩ ⟨Nat.le_refl _, Nat.le_refl _⟩) (us2 := [uX5 G o_t a_t zr1.2, uX9 G (a_t 0) a_t_draft v_t_draft, uA G 200 (a_t 3) v_t_text]) rfl (fun H locs h => ?_)
    refine lv_if_ne (tgt := 39) C.hx C.hb dX5_takesCut_34 (by decide) (fun zc9 => ?_) (fun zc9 => ?_)
    · replace hf := it_f zc9 hf
      refine lv_aload_n C.hx C.hb dX5_takesCut_39 rfl (lv_at hl 0 rfl) ?_
      refine g_get C h fl_X5_12 0 0 rfl rfl (v := .ref (a_t 0)) rfl dX5_takesCut_40 ?_
      refine lv_dup C.hx C.hb dX5_takesCut_43 rfl ?_
      refine g_get C h fl_X5_103 1 0 rfl rfl (v := .int (v_t_draft.1 5)) rfl dX5_takesCut_44 ?_
      refine lv_iconst (v := 1) C.hx C.hb dX5_takesCut_47 (by decide) ?_
      refine lv_aload_n C.hx C.hb dX5_takesCut_48 rfl (lv_at hl 0 rfl) ?_
      refine g_get C h fl_X5_41 0 0 rfl rfl (v := .ref (a_t 8)) rfl dX5_takesCut_49 ?_
      refine lv_iconst (v := 0) C.hx C.hb dX5_takesCut_52 (by decide) ?_
      obtain ⟨zi10, hf⟩ := ck_some hf
      refine g_iald C h 0 1 rfl rfl (f := zr1.2.2.2 8) zi10 dX5_takesCut_53 ?_
      refine lv_ishl C.hx C.hb dX5_takesCut_54 ?_
      refine lv_ixor C.hx C.hb dX5_takesCut_55 ?_
      refine g_put C h fp_X5_103 1 0 rfl rfl rfl rfl (Nat.le_of_ble_eq_true rfl) dX5_takesCut_56 (u' := uX9 G (a_t 0) a_t_draft (upi v_t_draft 5 ((v_t_draft.1 5) ^^^ (1 <<< (((zr1.2.2.2 8) (0 : Int32).toNatClampNeg) &&& 31))))) (us' := [uX5 G o_t a_t zr1.2, uX9 G (a_t 0) a_t_draft (upi v_t_draft 5 ((v_t_draft.1 5) ^^^ (1 <<< (((zr1.2.2.2 8) (0 : Int32).toNatClampNeg) &&& 31)))), uA G 200 (a_t 3) v_t_text]) rfl rfl (fun H locs h => ?_)
      refine lv_iconst (v := 1) C.hx C.hb dX5_takesCut_59 (by decide) ?_
      obtain rfl := Option.some.inj hf
      exact g_ret_z (b := true) C h rfl rfl rfl dX5_takesCut_60
    · replace hf := it_t zc9 hf
      refine lv_iconst (v := 0) C.hx C.hb dX5_takesCut_37 (by decide) ?_
      obtain rfl := Option.some.inj hf
      exact g_ret_z (b := false) C h rfl rfl rfl dX5_takesCut_38

def f_X5_takesDamp (N : Nat) (v_t : US) (v_t_draft : US) (v_t_text : Nat → Int32)  : Option (Bool × US × US) :=
  (f_X5_takesNumber N v_t v_t_text 0 0 9).bind fun zr1 => if (b2i zr1.1) = 0 then (some (false, zr1.2, v_t_draft)) else (if (0 : Int32) < 0 ∨ 4 ≤ (0 : Int32).toNatClampNeg then none else (some (true, zr1.2, upi v_t_draft 6 ((zr1.2.2.2 8) (0 : Int32).toNatClampNeg))))
set_option maxRecDepth 100000 in
set_option maxHeartbeats 4000000 in
theorem c_X5_takesDamp (l : Launch) (G : GG) (o_t : Nat) (a_t a_t_draft : Nat → Nat) (N : Nat) {v_t : US} {v_t_draft : US} {v_t_text : Nat → Int32}  {res : Bool × US × US} (hf : f_X5_takesDamp N v_t v_t_draft v_t_text = some res) : MI l yX5_takesDamp cX5_takesDamp 1 (some .boolean) 4 [.ref o_t] G [uX5 G o_t a_t v_t, uX9 G (a_t 0) a_t_draft v_t_draft, uA G 200 (a_t 3) v_t_text] (b2i res.1) [uX5 G o_t a_t res.2.1, uX9 G (a_t 0) a_t_draft res.2.2, uA G 200 (a_t 3) v_t_text] := by
  unfold f_X5_takesDamp at hf
  refine MI.intro (by decide) rfl (Nat.le_of_ble_eq_true rfl) (fun p e s m args below meth c A ls C h hl => ?_)
  have C : MC RX5 cX5_takesDamp 1 (some .boolean) G A p s m args meth c := C
  have hl : lv_has ls 1 [(0, .ref o_t)] := hl
  refine lv_aload_n C.hx C.hb dX5_takesDamp_0 rfl (lv_at hl 0 rfl) ?_
  refine lv_iconst (v := 0) C.hx C.hb dX5_takesDamp_1 (by decide) ?_
  refine lv_iconst (v := 0) C.hx C.hb dX5_takesDamp_2 (by decide) ?_
  refine lv_bipush (v := 9) C.hx C.hb dX5_takesDamp_3 (by decide) ?_
  obtain ⟨zr1, zq2, hf⟩ := bd_some hf
  have zm3 := c_X5_takesNumber l G o_t a_t N (hf := zq2)
  refine g_goI C h zm3.1 (is := [0, 2]) rfl rfl (g_runV C h (is := [0, 2]) rfl rfl (As := [.int 0, .int 0, .int 9]) (rest := []) (zm3.2 _) vf_X5_95 0 0 rfl rfl hl.1 rfl rfl (Nat.le_of_ble_eq_true rfl) dX5_takesDamp_5 ⟨Nat.le_of_ble_eq_true rfl, Nat.le_of_ble_eq_true rfl⟩ ⟨Nat.le_refl _, Nat.le_refl _⟩) (us2 := [uX5 G o_t a_t zr1.2, uX9 G (a_t 0) a_t_draft v_t_draft, uA G 200 (a_t 3) v_t_text]) rfl (fun H locs h => ?_)
  refine lv_if_ne (tgt := 13) C.hx C.hb dX5_takesDamp_8 (by decide) (fun zc4 => ?_) (fun zc4 => ?_)
  · replace hf := it_f zc4 hf
    refine lv_aload_n C.hx C.hb dX5_takesDamp_13 rfl (lv_at hl 0 rfl) ?_
    refine g_get C h fl_X5_12 0 0 rfl rfl (v := .ref (a_t 0)) rfl dX5_takesDamp_14 ?_
    refine lv_aload_n C.hx C.hb dX5_takesDamp_17 rfl (lv_at hl 0 rfl) ?_
    refine g_get C h fl_X5_41 0 0 rfl rfl (v := .ref (a_t 8)) rfl dX5_takesDamp_18 ?_
    refine lv_iconst (v := 0) C.hx C.hb dX5_takesDamp_21 (by decide) ?_
    obtain ⟨zi5, hf⟩ := ck_some hf
    refine g_iald C h 0 1 rfl rfl (f := zr1.2.2.2 8) zi5 dX5_takesDamp_22 ?_
    refine g_put C h fp_X5_110 1 0 rfl rfl rfl rfl (Nat.le_of_ble_eq_true rfl) dX5_takesDamp_23 (u' := uX9 G (a_t 0) a_t_draft (upi v_t_draft 6 ((zr1.2.2.2 8) (0 : Int32).toNatClampNeg))) (us' := [uX5 G o_t a_t zr1.2, uX9 G (a_t 0) a_t_draft (upi v_t_draft 6 ((zr1.2.2.2 8) (0 : Int32).toNatClampNeg)), uA G 200 (a_t 3) v_t_text]) rfl rfl (fun H locs h => ?_)
    refine lv_iconst (v := 1) C.hx C.hb dX5_takesDamp_26 (by decide) ?_
    obtain rfl := Option.some.inj hf
    exact g_ret_z (b := true) C h rfl rfl rfl dX5_takesDamp_27
  · replace hf := it_t zc4 hf
    refine lv_iconst (v := 0) C.hx C.hb dX5_takesDamp_11 (by decide) ?_
    obtain rfl := Option.some.inj hf
    exact g_ret_z (b := false) C h rfl rfl rfl dX5_takesDamp_12

def f_X5_takesEndOfItem (N : Nat) (v_t : US) (v_t_text : Nat → Int32)  : Option (Bool × US) :=
  (f_X5_nextToken N v_t v_t_text).bind fun zr1 => if (zr1.1 6) = 3 then (some (true, zr1)) else (some (false, zr1))
set_option maxRecDepth 100000 in
set_option maxHeartbeats 4000000 in
theorem c_X5_takesEndOfItem (l : Launch) (G : GG) (o_t : Nat) (a_t : Nat → Nat) (N : Nat) {v_t : US} {v_t_text : Nat → Int32}  {res : Bool × US} (hf : f_X5_takesEndOfItem N v_t v_t_text = some res) : MI l yX5_takesEndOfItem cX5_takesEndOfItem 1 (some .boolean) 3 [.ref o_t] G [uX5 G o_t a_t v_t, uA G 200 (a_t 3) v_t_text] (b2i res.1) [uX5 G o_t a_t res.2, uA G 200 (a_t 3) v_t_text] := by
  unfold f_X5_takesEndOfItem at hf
  refine MI.intro (by decide) rfl (Nat.le_of_ble_eq_true rfl) (fun p e s m args below meth c A ls C h hl => ?_)
  have C : MC RX5 cX5_takesEndOfItem 1 (some .boolean) G A p s m args meth c := C
  have hl : lv_has ls 1 [(0, .ref o_t)] := hl
  refine lv_aload_n C.hx C.hb dX5_takesEndOfItem_0 rfl (lv_at hl 0 rfl) ?_
  obtain ⟨zr1, zq2, hf⟩ := bd_some hf
  have zm3 := c_X5_nextToken l G o_t a_t N (hf := zq2)
  refine g_goV C h zm3.1 (is := [0, 1]) rfl rfl (g_runV C h (is := [0, 1]) rfl rfl (As := []) (rest := []) (zm3.2 _) vf_X5_53 0 0 rfl rfl hl.1 rfl rfl (Nat.le_of_ble_eq_true rfl) dX5_takesEndOfItem_1 ⟨Nat.le_of_ble_eq_true rfl, Nat.le_of_ble_eq_true rfl⟩ ⟨Nat.le_refl _, Nat.le_refl _⟩) (us2 := [uX5 G o_t a_t zr1, uA G 200 (a_t 3) v_t_text]) rfl (fun H locs h => ?_)
  refine lv_aload_n C.hx C.hb dX5_takesEndOfItem_4 rfl (lv_at hl 0 rfl) ?_
  refine g_get C h fl_X5_35 0 0 rfl rfl (v := .int (zr1.1 6)) rfl dX5_takesEndOfItem_5 ?_
  refine lv_iconst (v := 3) C.hx C.hb dX5_takesEndOfItem_8 (by decide) ?_
  refine lv_icmp_ne (tgt := 16) C.hx C.hb dX5_takesEndOfItem_9 (by decide) (fun zc4 => ?_) (fun zc4 => ?_)
  · replace hf := it_f zc4 hf
    refine lv_iconst (v := 0) C.hx C.hb dX5_takesEndOfItem_16 (by decide) ?_
    obtain rfl := Option.some.inj hf
    exact g_ret_z (b := false) C h rfl rfl rfl dX5_takesEndOfItem_17
  · replace hf := it_t zc4 hf
    refine lv_iconst (v := 1) C.hx C.hb dX5_takesEndOfItem_12 (by decide) ?_
    refine lv_goto (tgt := 17) C.hx C.hb dX5_takesEndOfItem_13 (by decide) ?_
    obtain rfl := Option.some.inj hf
    exact g_ret_z (b := true) C h rfl rfl rfl dX5_takesEndOfItem_17

def b_X5_takesErrand_45 (N : Nat)  (v_t : US) (v_t_draft : US) (v_t_text : Nat → Int32) (s0 : Bool) : Option (Bool × US × US) :=
  if (b2i s0) = 0 then (some (s0, v_t, v_t_draft)) else (if (0 : Int32) < 0 ∨ 4 ≤ (0 : Int32).toNatClampNeg then none else (if (1 : Int32) < 0 ∨ 4 ≤ (1 : Int32).toNatClampNeg then none else ((f_X9_addErrand v_t_draft ((v_t.2.2 8) (0 : Int32).toNatClampNeg) ((v_t.2.2 8) (1 : Int32).toNatClampNeg)).bind fun zr4 => some (s0, v_t, zr4))))
def b_X5_takesErrand_44 (N : Nat)  (v_t : US) (v_t_draft : US) (v_t_text : Nat → Int32)  : Option (Bool × US × US) :=
  b_X5_takesErrand_45 N v_t v_t_draft v_t_text false
def f_X5_takesErrand (N : Nat) (v_t : US) (v_t_draft : US) (v_t_text : Nat → Int32)  : Option (Bool × US × US) :=
  if 5 ≤ (v_t_draft.1 8) then (b_X5_takesErrand_44 N v_t v_t_draft v_t_text) else ((f_X5_takesNumber N v_t v_t_text 0 0 ((v_t_draft.1 0) - 1)).bind fun zr2 => if (b2i zr2.1) = 0 then (b_X5_takesErrand_44 N zr2.2 v_t_draft v_t_text) else ((f_X5_takesNumber N zr2.2 v_t_text 1 0 20).bind fun zr6 => if (b2i zr6.1) = 0 then (b_X5_takesErrand_44 N zr6.2 v_t_draft v_t_text) else (b_X5_takesErrand_45 N zr6.2 v_t_draft v_t_text true)))
set_option maxRecDepth 100000 in
set_option maxHeartbeats 4000000 in
theorem w_X5_takesErrand_45 {p : Program} {l : Launch} {e : Env} {s : State} {m : MethodId} {args : Array Value} {below : List Frame} {meth : Method} {c : Code} {G : GG} {A : Nat → Prop} {o_t : Nat} {a_t a_t_draft : Nat → Nat} {N : Nat}  {v_t : US} {v_t_draft : US} {v_t_text : Nat → Int32} {s0 : Bool} {res : Bool × US × US} (C : MC RX5 cX5_takesErrand 2 (some .boolean) G A p s m args meth c)  (hf : b_X5_takesErrand_45 N v_t v_t_draft v_t_text s0 = some res) {H : Heap} {locs : List Loc} {ls : Array Slot} (h : HP G A s [uX5 G o_t a_t v_t, uX9 G (a_t 0) a_t_draft v_t_draft, uA G 200 (a_t 3) v_t_text] H locs) (hl : lv_has ls 2 [(0, .ref o_t)]) : W p l e (rmm 4) s m args below meth c H locs 0 0 (QI below G A args s (b2i res.1) [uX5 G o_t a_t res.2.1, uX9 G (a_t 0) a_t_draft res.2.2, uA G 200 (a_t 3) v_t_text]) (F0 m 45 ls [.int (b2i s0)]) := by
  unfold b_X5_takesErrand_45 at hf
  refine lv_istore_n (lv' := [(1, .int (b2i s0)), (0, .ref o_t)]) C.hx C.hb dX5_takesErrand_45 rfl hl (by decide) rfl (fun ls hl => ?_)
  refine lv_iload_n C.hx C.hb dX5_takesErrand_46 rfl (lv_at hl 0 rfl) ?_
  refine lv_if_eq (tgt := 69) C.hx C.hb dX5_takesErrand_47 (by decide) (fun zc1 => ?_) (fun zc1 => ?_)
  · replace hf := it_t zc1 hf
    refine lv_iload_n C.hx C.hb dX5_takesErrand_69 rfl (lv_at hl 0 rfl) ?_
    obtain rfl := Option.some.inj hf
    exact g_ret_z (b := _) C h rfl rfl rfl dX5_takesErrand_70
  · replace hf := it_f zc1 hf
    refine lv_aload_n C.hx C.hb dX5_takesErrand_50 rfl (lv_at hl 1 rfl) ?_
    refine g_get C h fl_X5_12 0 0 rfl rfl (v := .ref (a_t 0)) rfl dX5_takesErrand_51 ?_
    refine lv_aload_n C.hx C.hb dX5_takesErrand_54 rfl (lv_at hl 1 rfl) ?_
    refine g_get C h fl_X5_41 0 0 rfl rfl (v := .ref (a_t 8)) rfl dX5_takesErrand_55 ?_
    refine lv_iconst (v := 0) C.hx C.hb dX5_takesErrand_58 (by decide) ?_
    obtain ⟨zi2, hf⟩ := ck_some hf
    refine g_iald C h 0 1 rfl rfl (f := v_t.2.2 8) zi2 dX5_takesErrand_59 ?_
    refine lv_aload_n C.hx C.hb dX5_takesErrand_60 rfl (lv_at hl 1 rfl) ?_
    refine g_get C h fl_X5_41 0 0 rfl rfl (v := .ref (a_t 8)) rfl dX5_takesErrand_61 ?_
    refine lv_iconst (v := 1) C.hx C.hb dX5_takesErrand_64 (by decide) ?_
    obtain ⟨zi3, hf⟩ := ck_some hf
    refine g_iald C h 0 1 rfl rfl (f := v_t.2.2 8) zi3 dX5_takesErrand_65 ?_
    obtain ⟨zr4, zq5, hf⟩ := bd_some hf
    have zm6 := c_X9_addErrand l G (a_t 0) a_t_draft (hf := zq5)
    refine g_goV C h zm6.1 (is := [1]) rfl rfl (g_runV C h (is := [1]) rfl rfl (As := [.int ((v_t.2.2 8) (0 : Int32).toNatClampNeg), .int ((v_t.2.2 8) (1 : Int32).toNatClampNeg)]) (rest := []) (zm6.2 _) vf_X5_115 1 0 rfl rfl hl.1 rfl rfl (Nat.le_of_ble_eq_true rfl) dX5_takesErrand_66 ⟨Nat.le_of_ble_eq_true rfl, Nat.le_of_ble_eq_true rfl⟩ ⟨Nat.le_refl _, Nat.le_refl _⟩) (us2 := [uX5 G o_t a_t v_t, uX9 G (a_t 0) a_t_draft zr4, uA G 200 (a_t 3) v_t_text]) rfl (fun H locs h => ?_)
    refine lv_iload_n C.hx C.hb dX5_takesErrand_69 rfl (lv_at hl 0 rfl) ?_
    obtain rfl := Option.some.inj hf
    exact g_ret_z (b := _) C h rfl rfl rfl dX5_takesErrand_70
set_option maxRecDepth 100000 in
set_option maxHeartbeats 4000000 in
theorem w_X5_takesErrand_44 {p : Program} {l : Launch} {e : Env} {s : State} {m : MethodId} {args : Array Value} {below : List Frame} {meth : Method} {c : Code} {G : GG} {A : Nat → Prop} {o_t : Nat} {a_t a_t_draft : Nat → Nat} {N : Nat}  {v_t : US} {v_t_draft : US} {v_t_text : Nat → Int32}  {res : Bool × US × US} (C : MC RX5 cX5_takesErrand 2 (some .boolean) G A p s m args meth c)  (hf : b_X5_takesErrand_44 N v_t v_t_draft v_t_text = some res) {H : Heap} {locs : List Loc} {ls : Array Slot} (h : HP G A s [uX5 G o_t a_t v_t, uX9 G (a_t 0) a_t_draft v_t_draft, uA G 200 (a_t 3) v_t_text] H locs) (hl : lv_has ls 2 [(0, .ref o_t)]) : W p l e (rmm 4) s m args below meth c H locs 0 0 (QI below G A args s (b2i res.1) [uX5 G o_t a_t res.2.1, uX9 G (a_t 0) a_t_draft res.2.2, uA G 200 (a_t 3) v_t_text]) (F0 m 44 ls []) := by
  unfold b_X5_takesErrand_44 at hf
  refine lv_iconst (v := 0) C.hx C.hb dX5_takesErrand_44 (by decide) ?_
  exact w_X5_takesErrand_45 C  hf h (lv_sub hl [0] rfl)
set_option maxRecDepth 100000 in
set_option maxHeartbeats 4000000 in
theorem c_X5_takesErrand (l : Launch) (G : GG) (o_t : Nat) (a_t a_t_draft : Nat → Nat) (N : Nat) {v_t : US} {v_t_draft : US} {v_t_text : Nat → Int32}  {res : Bool × US × US} (hf : f_X5_takesErrand N v_t v_t_draft v_t_text = some res) : MI l yX5_takesErrand cX5_takesErrand 2 (some .boolean) 4 [.ref o_t] G [uX5 G o_t a_t v_t, uX9 G (a_t 0) a_t_draft v_t_draft, uA G 200 (a_t 3) v_t_text] (b2i res.1) [uX5 G o_t a_t res.2.1, uX9 G (a_t 0) a_t_draft res.2.2, uA G 200 (a_t 3) v_t_text] := by
  unfold f_X5_takesErrand at hf
  refine MI.intro (by decide) rfl (Nat.le_of_ble_eq_true rfl) (fun p e s m args below meth c A ls C h hl => ?_)
  have C : MC RX5 cX5_takesErrand 2 (some .boolean) G A p s m args meth c := C
  have hl : lv_has ls 2 [(0, .ref o_t)] := hl
  refine lv_aload_n C.hx C.hb dX5_takesErrand_0 rfl (lv_at hl 0 rfl) ?_
  refine g_get C h fl_X5_12 0 0 rfl rfl (v := .ref (a_t 0)) rfl dX5_takesErrand_1 ?_
  refine g_get C h fl_X5_112 1 0 rfl rfl (v := .int (v_t_draft.1 8)) rfl dX5_takesErrand_4 ?_
  refine lv_iconst (v := 5) C.hx C.hb dX5_takesErrand_7 (by decide) ?_
  refine lv_icmp_ge (tgt := 44) C.hx C.hb dX5_takesErrand_8 (by decide) (fun zc1 => ?_) (fun zc1 => ?_)
  · replace hf := it_t zc1 hf
    exact w_X5_takesErrand_44 C  hf h (lv_sub hl [0] rfl)
  · replace hf := it_f zc1 hf
    refine lv_aload_n C.hx C.hb dX5_takesErrand_11 rfl (lv_at hl 0 rfl) ?_
    refine lv_iconst (v := 0) C.hx C.hb dX5_takesErrand_12 (by decide) ?_
    refine lv_iconst (v := 0) C.hx C.hb dX5_takesErrand_13 (by decide) ?_
    refine lv_aload_n C.hx C.hb dX5_takesErrand_14 rfl (lv_at hl 0 rfl) ?_
    refine g_get C h fl_X5_12 0 0 rfl rfl (v := .ref (a_t 0)) rfl dX5_takesErrand_15 ?_
    refine g_get C h fl_X5_92 1 0 rfl rfl (v := .int (v_t_draft.1 0)) rfl dX5_takesErrand_18 ?_
    refine lv_iconst (v := 1) C.hx C.hb dX5_takesErrand_21 (by decide) ?_
    refine lv_isub C.hx C.hb dX5_takesErrand_22 ?_
    obtain ⟨zr2, zq3, hf⟩ := bd_some hf
    have zm4 := c_X5_takesNumber l G o_t a_t N (hf := zq3)
    refine g_goI C h zm4.1 (is := [0, 2]) rfl rfl (g_runV C h (is := [0, 2]) rfl rfl (As := [.int 0, .int 0, .int ((v_t_draft.1 0) - 1)]) (rest := []) (zm4.2 _) vf_X5_95 0 0 rfl rfl hl.1 rfl rfl (Nat.le_of_ble_eq_true rfl) dX5_takesErrand_23 ⟨Nat.le_of_ble_eq_true rfl, Nat.le_of_ble_eq_true rfl⟩ ⟨Nat.le_refl _, Nat.le_refl _⟩) (us2 := [uX5 G o_t a_t zr2.2, uX9 G (a_t 0) a_t_draft v_t_draft, uA G 200 (a_t 3) v_t_text]) rfl (fun H locs h => ?_)
    refine lv_if_eq (tgt := 44) C.hx C.hb dX5_takesErrand_26 (by decide) (fun zc5 => ?_) (fun zc5 => ?_)
    · replace hf := it_t zc5 hf
      exact w_X5_takesErrand_44 C  hf h (lv_sub hl [0] rfl)
    · replace hf := it_f zc5 hf
      refine lv_aload_n C.hx C.hb dX5_takesErrand_29 rfl (lv_at hl 0 rfl) ?_
      refine lv_iconst (v := 1) C.hx C.hb dX5_takesErrand_30 (by decide) ?_
      refine lv_iconst (v := 0) C.hx C.hb dX5_takesErrand_31 (by decide) ?_
      refine lv_bipush (v := 20) C.hx C.hb dX5_takesErrand_32 (by decide) ?_
      obtain ⟨zr6, zq7, hf⟩ := bd_some hf
      have zm8 := c_X5_takesNumber l G o_t a_t N (hf := zq7)
      refine g_goI C h zm8.1 (is := [0, 2]) rfl rfl (g_runV C h (is := [0, 2]) rfl rfl (As := [.int 1, .int 0, .int 20]) (rest := []) (zm8.2 _) vf_X5_95 0 0 rfl rfl hl.1 rfl rfl (Nat.le_of_ble_eq_true rfl) dX5_takesErrand_34 ⟨Nat.le_of_ble_eq_true rfl, Nat.le_of_ble_eq_true rfl⟩ ⟨Nat.le_refl _, Nat.le_refl _⟩) (us2 := [uX5 G o_t a_t zr6.2, uX9 G (a_t 0) a_t_draft v_t_draft, uA G 200 (a_t 3) v_t_text]) rfl (fun H locs h => ?_)
      refine lv_if_eq (tgt := 44) C.hx C.hb dX5_takesErrand_37 (by decide) (fun zc9 => ?_) (fun zc9 => ?_)
      · replace hf := it_t zc9 hf
        exact w_X5_takesErrand_44 C  hf h (lv_sub hl [0] rfl)
      · replace hf := it_f zc9 hf
        refine lv_iconst (v := 1) C.hx C.hb dX5_takesErrand_40 (by decide) ?_
        refine lv_goto (tgt := 45) C.hx C.hb dX5_takesErrand_41 (by decide) ?_
        exact w_X5_takesErrand_45 C  hf h (lv_sub hl [0] rfl)

def b_X5_takesRule_65 (N : Nat)  (v_t : US) (v_t_draft : US) (v_t_text : Nat → Int32) (s0 : Bool) : Option (Bool × US × US) :=
  if (b2i s0) = 0 then (some (s0, v_t, v_t_draft)) else (if (0 : Int32) < 0 ∨ 4 ≤ (0 : Int32).toNatClampNeg then none else (if (1 : Int32) < 0 ∨ 4 ≤ (1 : Int32).toNatClampNeg then none else (if (2 : Int32) < 0 ∨ 4 ≤ (2 : Int32).toNatClampNeg then none else ((f_X9_addRule v_t_draft ((v_t.2.2 8) (0 : Int32).toNatClampNeg) ((v_t.2.2 8) (1 : Int32).toNatClampNeg) ((v_t.2.2 8) (2 : Int32).toNatClampNeg)).bind fun zr5 => some (s0, v_t, zr5)))))
def b_X5_takesRule_64 (N : Nat)  (v_t : US) (v_t_draft : US) (v_t_text : Nat → Int32)  : Option (Bool × US × US) :=
  b_X5_takesRule_65 N v_t v_t_draft v_t_text false
def f_X5_takesRule (N : Nat) (v_t : US) (v_t_draft : US) (v_t_text : Nat → Int32)  : Option (Bool × US × US) :=
  if 4 ≤ (v_t_draft.1 11) then (b_X5_takesRule_64 N v_t v_t_draft v_t_text) else ((f_X5_takesNumber N v_t v_t_text 0 0 ((v_t_draft.1 0) - 1)).bind fun zr2 => if (b2i zr2.1) = 0 then (b_X5_takesRule_64 N zr2.2 v_t_draft v_t_text) else ((f_X5_takesNumber N zr2.2 v_t_text 1 0 20).bind fun zr6 => if (b2i zr6.1) = 0 then (b_X5_takesRule_64 N zr6.2 v_t_draft v_t_text) else ((f_X5_takesNumber N zr6.2 v_t_text 2 0 ((1 <<< ((v_t_draft.1 0) &&& 31)) - 1)).bind fun zr10 => if (b2i zr10.1) = 0 then (b_X5_takesRule_64 N zr10.2 v_t_draft v_t_text) else (b_X5_takesRule_65 N zr10.2 v_t_draft v_t_text true))))
set_option maxRecDepth 100000 in
set_option maxHeartbeats 4000000 in
theorem w_X5_takesRule_65 {p : Program} {l : Launch} {e : Env} {s : State} {m : MethodId} {args : Array Value} {below : List Frame} {meth : Method} {c : Code} {G : GG} {A : Nat → Prop} {o_t : Nat} {a_t a_t_draft : Nat → Nat} {N : Nat}  {v_t : US} {v_t_draft : US} {v_t_text : Nat → Int32} {s0 : Bool} {res : Bool × US × US} (C : MC RX5 cX5_takesRule 2 (some .boolean) G A p s m args meth c)  (hf : b_X5_takesRule_65 N v_t v_t_draft v_t_text s0 = some res) {H : Heap} {locs : List Loc} {ls : Array Slot} (h : HP G A s [uX5 G o_t a_t v_t, uX9 G (a_t 0) a_t_draft v_t_draft, uA G 200 (a_t 3) v_t_text] H locs) (hl : lv_has ls 2 [(0, .ref o_t)]) : W p l e (rmm 4) s m args below meth c H locs 0 0 (QI below G A args s (b2i res.1) [uX5 G o_t a_t res.2.1, uX9 G (a_t 0) a_t_draft res.2.2, uA G 200 (a_t 3) v_t_text]) (F0 m 65 ls [.int (b2i s0)]) := by
  unfold b_X5_takesRule_65 at hf
  refine lv_istore_n (lv' := [(1, .int (b2i s0)), (0, .ref o_t)]) C.hx C.hb dX5_takesRule_65 rfl hl (by decide) rfl (fun ls hl => ?_)
  refine lv_iload_n C.hx C.hb dX5_takesRule_66 rfl (lv_at hl 0 rfl) ?_
  refine lv_if_eq (tgt := 95) C.hx C.hb dX5_takesRule_67 (by decide) (fun zc1 => ?_) (fun zc1 => ?_)
  · replace hf := it_t zc1 hf
    refine lv_iload_n C.hx C.hb dX5_takesRule_95 rfl (lv_at hl 0 rfl) ?_
    obtain rfl := Option.some.inj hf
    exact g_ret_z (b := _) C h rfl rfl rfl dX5_takesRule_96
  · replace hf := it_f zc1 hf
    refine lv_aload_n C.hx C.hb dX5_takesRule_70 rfl (lv_at hl 1 rfl) ?_
    refine g_get C h fl_X5_12 0 0 rfl rfl (v := .ref (a_t 0)) rfl dX5_takesRule_71 ?_
    refine lv_aload_n C.hx C.hb dX5_takesRule_74 rfl (lv_at hl 1 rfl) ?_
    refine g_get C h fl_X5_41 0 0 rfl rfl (v := .ref (a_t 8)) rfl dX5_takesRule_75 ?_
    refine lv_iconst (v := 0) C.hx C.hb dX5_takesRule_78 (by decide) ?_
    obtain ⟨zi2, hf⟩ := ck_some hf
    refine g_iald C h 0 1 rfl rfl (f := v_t.2.2 8) zi2 dX5_takesRule_79 ?_
    refine lv_aload_n C.hx C.hb dX5_takesRule_80 rfl (lv_at hl 1 rfl) ?_
    refine g_get C h fl_X5_41 0 0 rfl rfl (v := .ref (a_t 8)) rfl dX5_takesRule_81 ?_
    refine lv_iconst (v := 1) C.hx C.hb dX5_takesRule_84 (by decide) ?_
    obtain ⟨zi3, hf⟩ := ck_some hf
    refine g_iald C h 0 1 rfl rfl (f := v_t.2.2 8) zi3 dX5_takesRule_85 ?_
    refine lv_aload_n C.hx C.hb dX5_takesRule_86 rfl (lv_at hl 1 rfl) ?_
    refine g_get C h fl_X5_41 0 0 rfl rfl (v := .ref (a_t 8)) rfl dX5_takesRule_87 ?_
    refine lv_iconst (v := 2) C.hx C.hb dX5_takesRule_90 (by decide) ?_
    obtain ⟨zi4, hf⟩ := ck_some hf
    refine g_iald C h 0 1 rfl rfl (f := v_t.2.2 8) zi4 dX5_takesRule_91 ?_
    obtain ⟨zr5, zq6, hf⟩ := bd_some hf
    have zm7 := c_X9_addRule l G (a_t 0) a_t_draft (hf := zq6)
    refine g_goV C h zm7.1 (is := [1]) rfl rfl (g_runV C h (is := [1]) rfl rfl (As := [.int ((v_t.2.2 8) (0 : Int32).toNatClampNeg), .int ((v_t.2.2 8) (1 : Int32).toNatClampNeg), .int ((v_t.2.2 8) (2 : Int32).toNatClampNeg)]) (rest := []) (zm7.2 _) vf_X5_122 1 0 rfl rfl hl.1 rfl rfl (Nat.le_of_ble_eq_true rfl) dX5_takesRule_92 ⟨Nat.le_of_ble_eq_true rfl, Nat.le_of_ble_eq_true rfl⟩ ⟨Nat.le_refl _, Nat.le_refl _⟩) (us2 := [uX5 G o_t a_t v_t, uX9 G (a_t 0) a_t_draft zr5, uA G 200 (a_t 3) v_t_text]) rfl (fun H locs h => ?_)
    refine lv_iload_n C.hx C.hb dX5_takesRule_95 rfl (lv_at hl 0 rfl) ?_
    obtain rfl := Option.some.inj hf
    exact g_ret_z (b := _) C h rfl rfl rfl dX5_takesRule_96
set_option maxRecDepth 100000 in
set_option maxHeartbeats 4000000 in
theorem w_X5_takesRule_64 {p : Program} {l : Launch} {e : Env} {s : State} {m : MethodId} {args : Array Value} {below : List Frame} {meth : Method} {c : Code} {G : GG} {A : Nat → Prop} {o_t : Nat} {a_t a_t_draft : Nat → Nat} {N : Nat}  {v_t : US} {v_t_draft : US} {v_t_text : Nat → Int32}  {res : Bool × US × US} (C : MC RX5 cX5_takesRule 2 (some .boolean) G A p s m args meth c)  (hf : b_X5_takesRule_64 N v_t v_t_draft v_t_text = some res) {H : Heap} {locs : List Loc} {ls : Array Slot} (h : HP G A s [uX5 G o_t a_t v_t, uX9 G (a_t 0) a_t_draft v_t_draft, uA G 200 (a_t 3) v_t_text] H locs) (hl : lv_has ls 2 [(0, .ref o_t)]) : W p l e (rmm 4) s m args below meth c H locs 0 0 (QI below G A args s (b2i res.1) [uX5 G o_t a_t res.2.1, uX9 G (a_t 0) a_t_draft res.2.2, uA G 200 (a_t 3) v_t_text]) (F0 m 64 ls []) := by
  unfold b_X5_takesRule_64 at hf
  refine lv_iconst (v := 0) C.hx C.hb dX5_takesRule_64 (by decide) ?_
  exact w_X5_takesRule_65 C  hf h (lv_sub hl [0] rfl)
set_option maxRecDepth 100000 in
set_option maxHeartbeats 4000000 in
theorem c_X5_takesRule (l : Launch) (G : GG) (o_t : Nat) (a_t a_t_draft : Nat → Nat) (N : Nat) {v_t : US} {v_t_draft : US} {v_t_text : Nat → Int32}  {res : Bool × US × US} (hf : f_X5_takesRule N v_t v_t_draft v_t_text = some res) : MI l yX5_takesRule cX5_takesRule 2 (some .boolean) 4 [.ref o_t] G [uX5 G o_t a_t v_t, uX9 G (a_t 0) a_t_draft v_t_draft, uA G 200 (a_t 3) v_t_text] (b2i res.1) [uX5 G o_t a_t res.2.1, uX9 G (a_t 0) a_t_draft res.2.2, uA G 200 (a_t 3) v_t_text] := by
  unfold f_X5_takesRule at hf
  refine MI.intro (by decide) rfl (Nat.le_of_ble_eq_true rfl) (fun p e s m args below meth c A ls C h hl => ?_)
  have C : MC RX5 cX5_takesRule 2 (some .boolean) G A p s m args meth c := C
  have hl : lv_has ls 2 [(0, .ref o_t)] := hl
  refine lv_aload_n C.hx C.hb dX5_takesRule_0 rfl (lv_at hl 0 rfl) ?_
  refine g_get C h fl_X5_12 0 0 rfl rfl (v := .ref (a_t 0)) rfl dX5_takesRule_1 ?_
  refine g_get C h fl_X5_119 1 0 rfl rfl (v := .int (v_t_draft.1 11)) rfl dX5_takesRule_4 ?_
  refine lv_iconst (v := 4) C.hx C.hb dX5_takesRule_7 (by decide) ?_
  refine lv_icmp_ge (tgt := 64) C.hx C.hb dX5_takesRule_8 (by decide) (fun zc1 => ?_) (fun zc1 => ?_)
  · replace hf := it_t zc1 hf
    exact w_X5_takesRule_64 C  hf h (lv_sub hl [0] rfl)
  · replace hf := it_f zc1 hf
    refine lv_aload_n C.hx C.hb dX5_takesRule_11 rfl (lv_at hl 0 rfl) ?_
    refine lv_iconst (v := 0) C.hx C.hb dX5_takesRule_12 (by decide) ?_
    refine lv_iconst (v := 0) C.hx C.hb dX5_takesRule_13 (by decide) ?_
    refine lv_aload_n C.hx C.hb dX5_takesRule_14 rfl (lv_at hl 0 rfl) ?_
    refine g_get C h fl_X5_12 0 0 rfl rfl (v := .ref (a_t 0)) rfl dX5_takesRule_15 ?_
    refine g_get C h fl_X5_92 1 0 rfl rfl (v := .int (v_t_draft.1 0)) rfl dX5_takesRule_18 ?_
    refine lv_iconst (v := 1) C.hx C.hb dX5_takesRule_21 (by decide) ?_
    refine lv_isub C.hx C.hb dX5_takesRule_22 ?_
    obtain ⟨zr2, zq3, hf⟩ := bd_some hf
    have zm4 := c_X5_takesNumber l G o_t a_t N (hf := zq3)
    refine g_goI C h zm4.1 (is := [0, 2]) rfl rfl (g_runV C h (is := [0, 2]) rfl rfl (As := [.int 0, .int 0, .int ((v_t_draft.1 0) - 1)]) (rest := []) (zm4.2 _) vf_X5_95 0 0 rfl rfl hl.1 rfl rfl (Nat.le_of_ble_eq_true rfl) dX5_takesRule_23 ⟨Nat.le_of_ble_eq_true rfl, Nat.le_of_ble_eq_true rfl⟩ ⟨Nat.le_refl _, Nat.le_refl _⟩) (us2 := [uX5 G o_t a_t zr2.2, uX9 G (a_t 0) a_t_draft v_t_draft, uA G 200 (a_t 3) v_t_text]) rfl (fun H locs h => ?_)
    refine lv_if_eq (tgt := 64) C.hx C.hb dX5_takesRule_26 (by decide) (fun zc5 => ?_) (fun zc5 => ?_)
    · replace hf := it_t zc5 hf
      exact w_X5_takesRule_64 C  hf h (lv_sub hl [0] rfl)
    · replace hf := it_f zc5 hf
      refine lv_aload_n C.hx C.hb dX5_takesRule_29 rfl (lv_at hl 0 rfl) ?_
      refine lv_iconst (v := 1) C.hx C.hb dX5_takesRule_30 (by decide) ?_
      refine lv_iconst (v := 0) C.hx C.hb dX5_takesRule_31 (by decide) ?_
      refine lv_bipush (v := 20) C.hx C.hb dX5_takesRule_32 (by decide) ?_
      obtain ⟨zr6, zq7, hf⟩ := bd_some hf
      have zm8 := c_X5_takesNumber l G o_t a_t N (hf := zq7)
      refine g_goI C h zm8.1 (is := [0, 2]) rfl rfl (g_runV C h (is := [0, 2]) rfl rfl (As := [.int 1, .int 0, .int 20]) (rest := []) (zm8.2 _) vf_X5_95 0 0 rfl rfl hl.1 rfl rfl (Nat.le_of_ble_eq_true rfl) dX5_takesRule_34 ⟨Nat.le_of_ble_eq_true rfl, Nat.le_of_ble_eq_true rfl⟩ ⟨Nat.le_refl _, Nat.le_refl _⟩) (us2 := [uX5 G o_t a_t zr6.2, uX9 G (a_t 0) a_t_draft v_t_draft, uA G 200 (a_t 3) v_t_text]) rfl (fun H locs h => ?_)
      refine lv_if_eq (tgt := 64) C.hx C.hb dX5_takesRule_37 (by decide) (fun zc9 => ?_) (fun zc9 => ?_)
      · replace hf := it_t zc9 hf
        exact w_X5_takesRule_64 C  hf h (lv_sub hl [0] rfl)
      · replace hf := it_f zc9 hf
        refine lv_aload_n C.hx C.hb dX5_takesRule_40 rfl (lv_at hl 0 rfl) ?_
        refine lv_iconst (v := 2) C.hx C.hb dX5_takesRule_41 (by decide) ?_
        refine lv_iconst (v := 0) C.hx C.hb dX5_takesRule_42 (by decide) ?_
        refine lv_iconst (v := 1) C.hx C.hb dX5_takesRule_43 (by decide) ?_
        refine lv_aload_n C.hx C.hb dX5_takesRule_44 rfl (lv_at hl 0 rfl) ?_
        refine g_get C h fl_X5_12 0 0 rfl rfl (v := .ref (a_t 0)) rfl dX5_takesRule_45 ?_
        refine g_get C h fl_X5_92 1 0 rfl rfl (v := .int (v_t_draft.1 0)) rfl dX5_takesRule_48 ?_
        refine lv_ishl C.hx C.hb dX5_takesRule_51 ?_
        refine lv_iconst (v := 1) C.hx C.hb dX5_takesRule_52 (by decide) ?_
        refine lv_isub C.hx C.hb dX5_takesRule_53 ?_
        obtain ⟨zr10, zq11, hf⟩ := bd_some hf
        have zm12 := c_X5_takesNumber l G o_t a_t N (hf := zq11)
        refine g_goI C h zm12.1 (is := [0, 2]) rfl rfl (g_runV C h (is := [0, 2]) rfl rfl (As := [.int 2, .int 0, .int ((1 <<< ((v_t_draft.1 0) &&& 31)) - 1)]) (rest := []) (zm12.2 _) vf_X5_95 0 0 rfl rfl hl.1 rfl rfl (Nat.le_of_ble_eq_true rfl) dX5_takesRule_54 ⟨Nat.le_of_ble_eq_true rfl, Nat.le_of_ble_eq_true rfl⟩ ⟨Nat.le_refl _, Nat.le_refl _⟩) (us2 := [uX5 G o_t a_t zr10.2, uX9 G (a_t 0) a_t_draft v_t_draft, uA G 200 (a_t 3) v_t_text]) rfl (fun H locs h => ?_)
        refine lv_if_eq (tgt := 64) C.hx C.hb dX5_takesRule_57 (by decide) (fun zc13 => ?_) (fun zc13 => ?_)
        · replace hf := it_t zc13 hf
          exact w_X5_takesRule_64 C  hf h (lv_sub hl [0] rfl)
        · replace hf := it_f zc13 hf
          refine lv_iconst (v := 1) C.hx C.hb dX5_takesRule_60 (by decide) ?_
          refine lv_goto (tgt := 65) C.hx C.hb dX5_takesRule_61 (by decide) ?_
          exact w_X5_takesRule_65 C  hf h (lv_sub hl [0] rfl)

def b_X5_takesThing_59 (N : Nat)  (v_t : US) (v_t_draft : US) (v_t_text : Nat → Int32) (s0 : Bool) : Option (Bool × US × US) :=
  if (b2i s0) = 0 then (some (s0, v_t, v_t_draft)) else (if (0 : Int32) < 0 ∨ 4 ≤ (0 : Int32).toNatClampNeg then none else (if (1 : Int32) < 0 ∨ 4 ≤ (1 : Int32).toNatClampNeg then none else (if (2 : Int32) < 0 ∨ 4 ≤ (2 : Int32).toNatClampNeg then none else (if (3 : Int32) < 0 ∨ 4 ≤ (3 : Int32).toNatClampNeg then none else ((f_X9_addThing v_t_draft ((v_t.2.2 8) (0 : Int32).toNatClampNeg) ((v_t.2.2 8) (1 : Int32).toNatClampNeg) ((v_t.2.2 8) (2 : Int32).toNatClampNeg) ((v_t.2.2 8) (3 : Int32).toNatClampNeg)).bind fun zr6 => some (s0, v_t, zr6))))))
def b_X5_takesThing_58 (N : Nat)  (v_t : US) (v_t_draft : US) (v_t_text : Nat → Int32)  : Option (Bool × US × US) :=
  b_X5_takesThing_59 N v_t v_t_draft v_t_text false
def f_X5_takesThing (N : Nat) (v_t : US) (v_t_draft : US) (v_t_text : Nat → Int32)  : Option (Bool × US × US) :=
  if 5 ≤ (v_t_draft.1 0) then (b_X5_takesThing_58 N v_t v_t_draft v_t_text) else ((f_X5_takesNumber N v_t v_t_text 0 0 4).bind fun zr2 => if (b2i zr2.1) = 0 then (b_X5_takesThing_58 N zr2.2 v_t_draft v_t_text) else ((f_X5_takesNumber N zr2.2 v_t_text 1 0 9).bind fun zr6 => if (b2i zr6.1) = 0 then (b_X5_takesThing_58 N zr6.2 v_t_draft v_t_text) else ((f_X5_takesNumber N zr6.2 v_t_text 2 1 9).bind fun zr10 => if (b2i zr10.1) = 0 then (b_X5_takesThing_58 N zr10.2 v_t_draft v_t_text) else ((f_X5_takesNumber N zr10.2 v_t_text 3 0 9).bind fun zr14 => if (b2i zr14.1) = 0 then (b_X5_takesThing_58 N zr14.2 v_t_draft v_t_text) else (b_X5_takesThing_59 N zr14.2 v_t_draft v_t_text true)))))
set_option maxRecDepth 100000 in
set_option maxHeartbeats 4000000 in
theorem w_X5_takesThing_59 {p : Program} {l : Launch} {e : Env} {s : State} {m : MethodId} {args : Array Value} {below : List Frame} {meth : Method} {c : Code} {G : GG} {A : Nat → Prop} {o_t : Nat} {a_t a_t_draft : Nat → Nat} {N : Nat}  {v_t : US} {v_t_draft : US} {v_t_text : Nat → Int32} {s0 : Bool} {res : Bool × US × US} (C : MC RX5 cX5_takesThing 2 (some .boolean) G A p s m args meth c)  (hf : b_X5_takesThing_59 N v_t v_t_draft v_t_text s0 = some res) {H : Heap} {locs : List Loc} {ls : Array Slot} (h : HP G A s [uX5 G o_t a_t v_t, uX9 G (a_t 0) a_t_draft v_t_draft, uA G 200 (a_t 3) v_t_text] H locs) (hl : lv_has ls 2 [(0, .ref o_t)]) : W p l e (rmm 4) s m args below meth c H locs 0 0 (QI below G A args s (b2i res.1) [uX5 G o_t a_t res.2.1, uX9 G (a_t 0) a_t_draft res.2.2, uA G 200 (a_t 3) v_t_text]) (F0 m 59 ls [.int (b2i s0)]) := by
  unfold b_X5_takesThing_59 at hf
  refine lv_istore_n (lv' := [(1, .int (b2i s0)), (0, .ref o_t)]) C.hx C.hb dX5_takesThing_59 rfl hl (by decide) rfl (fun ls hl => ?_)
  refine lv_iload_n C.hx C.hb dX5_takesThing_60 rfl (lv_at hl 0 rfl) ?_
  refine lv_if_eq (tgt := 95) C.hx C.hb dX5_takesThing_61 (by decide) (fun zc1 => ?_) (fun zc1 => ?_)
  · replace hf := it_t zc1 hf
    refine lv_iload_n C.hx C.hb dX5_takesThing_95 rfl (lv_at hl 0 rfl) ?_
    obtain rfl := Option.some.inj hf
    exact g_ret_z (b := _) C h rfl rfl rfl dX5_takesThing_96
  · replace hf := it_f zc1 hf
    refine lv_aload_n C.hx C.hb dX5_takesThing_64 rfl (lv_at hl 1 rfl) ?_
    refine g_get C h fl_X5_12 0 0 rfl rfl (v := .ref (a_t 0)) rfl dX5_takesThing_65 ?_
    refine lv_aload_n C.hx C.hb dX5_takesThing_68 rfl (lv_at hl 1 rfl) ?_
    refine g_get C h fl_X5_41 0 0 rfl rfl (v := .ref (a_t 8)) rfl dX5_takesThing_69 ?_
    refine lv_iconst (v := 0) C.hx C.hb dX5_takesThing_72 (by decide) ?_
    obtain ⟨zi2, hf⟩ := ck_some hf
    refine g_iald C h 0 1 rfl rfl (f := v_t.2.2 8) zi2 dX5_takesThing_73 ?_
    refine lv_aload_n C.hx C.hb dX5_takesThing_74 rfl (lv_at hl 1 rfl) ?_
    refine g_get C h fl_X5_41 0 0 rfl rfl (v := .ref (a_t 8)) rfl dX5_takesThing_75 ?_
    refine lv_iconst (v := 1) C.hx C.hb dX5_takesThing_78 (by decide) ?_
    obtain ⟨zi3, hf⟩ := ck_some hf
    refine g_iald C h 0 1 rfl rfl (f := v_t.2.2 8) zi3 dX5_takesThing_79 ?_
    refine lv_aload_n C.hx C.hb dX5_takesThing_80 rfl (lv_at hl 1 rfl) ?_
    refine g_get C h fl_X5_41 0 0 rfl rfl (v := .ref (a_t 8)) rfl dX5_takesThing_81 ?_
    refine lv_iconst (v := 2) C.hx C.hb dX5_takesThing_84 (by decide) ?_
    obtain ⟨zi4, hf⟩ := ck_some hf
    refine g_iald C h 0 1 rfl rfl (f := v_t.2.2 8) zi4 dX5_takesThing_85 ?_
    refine lv_aload_n C.hx C.hb dX5_takesThing_86 rfl (lv_at hl 1 rfl) ?_
    refine g_get C h fl_X5_41 0 0 rfl rfl (v := .ref (a_t 8)) rfl dX5_takesThing_87 ?_
    refine lv_iconst (v := 3) C.hx C.hb dX5_takesThing_90 (by decide) ?_
    obtain ⟨zi5, hf⟩ := ck_some hf
    refine g_iald C h 0 1 rfl rfl (f := v_t.2.2 8) zi5 dX5_takesThing_91 ?_
    obtain ⟨zr6, zq7, hf⟩ := bd_some hf
    have zm8 := c_X9_addThing l G (a_t 0) a_t_draft (hf := zq7)
    refine g_goV C h zm8.1 (is := [1]) rfl rfl (g_runV C h (is := [1]) rfl rfl (As := [.int ((v_t.2.2 8) (0 : Int32).toNatClampNeg), .int ((v_t.2.2 8) (1 : Int32).toNatClampNeg), .int ((v_t.2.2 8) (2 : Int32).toNatClampNeg), .int ((v_t.2.2 8) (3 : Int32).toNatClampNeg)]) (rest := []) (zm8.2 _) vf_X5_99 1 0 rfl rfl hl.1 rfl rfl (Nat.le_of_ble_eq_true rfl) dX5_takesThing_92 ⟨Nat.le_of_ble_eq_true rfl, Nat.le_of_ble_eq_true rfl⟩ ⟨Nat.le_refl _, Nat.le_refl _⟩) (us2 := [uX5 G o_t a_t v_t, uX9 G (a_t 0) a_t_draft zr6, uA G 200 (a_t 3) v_t_text]) rfl (fun H locs h => ?_)
    refine lv_iload_n C.hx C.hb dX5_takesThing_95 rfl (lv_at hl 0 rfl) ?_
    obtain rfl := Option.some.inj hf
    exact g_ret_z (b := _) C h rfl rfl rfl dX5_takesThing_96
set_option maxRecDepth 100000 in
set_option maxHeartbeats 4000000 in
theorem w_X5_takesThing_58 {p : Program} {l : Launch} {e : Env} {s : State} {m : MethodId} {args : Array Value} {below : List Frame} {meth : Method} {c : Code} {G : GG} {A : Nat → Prop} {o_t : Nat} {a_t a_t_draft : Nat → Nat} {N : Nat}  {v_t : US} {v_t_draft : US} {v_t_text : Nat → Int32}  {res : Bool × US × US} (C : MC RX5 cX5_takesThing 2 (some .boolean) G A p s m args meth c)  (hf : b_X5_takesThing_58 N v_t v_t_draft v_t_text = some res) {H : Heap} {locs : List Loc} {ls : Array Slot} (h : HP G A s [uX5 G o_t a_t v_t, uX9 G (a_t 0) a_t_draft v_t_draft, uA G 200 (a_t 3) v_t_text] H locs) (hl : lv_has ls 2 [(0, .ref o_t)]) : W p l e (rmm 4) s m args below meth c H locs 0 0 (QI below G A args s (b2i res.1) [uX5 G o_t a_t res.2.1, uX9 G (a_t 0) a_t_draft res.2.2, uA G 200 (a_t 3) v_t_text]) (F0 m 58 ls []) := by
  unfold b_X5_takesThing_58 at hf
  refine lv_iconst (v := 0) C.hx C.hb dX5_takesThing_58 (by decide) ?_
  exact w_X5_takesThing_59 C  hf h (lv_sub hl [0] rfl)
set_option maxRecDepth 100000 in
set_option maxHeartbeats 4000000 in
theorem c_X5_takesThing (l : Launch) (G : GG) (o_t : Nat) (a_t a_t_draft : Nat → Nat) (N : Nat) {v_t : US} {v_t_draft : US} {v_t_text : Nat → Int32}  {res : Bool × US × US} (hf : f_X5_takesThing N v_t v_t_draft v_t_text = some res) : MI l yX5_takesThing cX5_takesThing 2 (some .boolean) 4 [.ref o_t] G [uX5 G o_t a_t v_t, uX9 G (a_t 0) a_t_draft v_t_draft, uA G 200 (a_t 3) v_t_text] (b2i res.1) [uX5 G o_t a_t res.2.1, uX9 G (a_t 0) a_t_draft res.2.2, uA G 200 (a_t 3) v_t_text] := by
  unfold f_X5_takesThing at hf
  refine MI.intro (by decide) rfl (Nat.le_of_ble_eq_true rfl) (fun p e s m args below meth c A ls C h hl => ?_)
  have C : MC RX5 cX5_takesThing 2 (some .boolean) G A p s m args meth c := C
  have hl : lv_has ls 2 [(0, .ref o_t)] := hl
  refine lv_aload_n C.hx C.hb dX5_takesThing_0 rfl (lv_at hl 0 rfl) ?_
  refine g_get C h fl_X5_12 0 0 rfl rfl (v := .ref (a_t 0)) rfl dX5_takesThing_1 ?_
  refine g_get C h fl_X5_92 1 0 rfl rfl (v := .int (v_t_draft.1 0)) rfl dX5_takesThing_4 ?_
  refine lv_iconst (v := 5) C.hx C.hb dX5_takesThing_7 (by decide) ?_
  refine lv_icmp_ge (tgt := 58) C.hx C.hb dX5_takesThing_8 (by decide) (fun zc1 => ?_) (fun zc1 => ?_)
  · replace hf := it_t zc1 hf
    exact w_X5_takesThing_58 C  hf h (lv_sub hl [0] rfl)
  · replace hf := it_f zc1 hf
    refine lv_aload_n C.hx C.hb dX5_takesThing_11 rfl (lv_at hl 0 rfl) ?_
    refine lv_iconst (v := 0) C.hx C.hb dX5_takesThing_12 (by decide) ?_
    refine lv_iconst (v := 0) C.hx C.hb dX5_takesThing_13 (by decide) ?_
    refine lv_iconst (v := 4) C.hx C.hb dX5_takesThing_14 (by decide) ?_
    obtain ⟨zr2, zq3, hf⟩ := bd_some hf
    have zm4 := c_X5_takesNumber l G o_t a_t N (hf := zq3)
    refine g_goI C h zm4.1 (is := [0, 2]) rfl rfl (g_runV C h (is := [0, 2]) rfl rfl (As := [.int 0, .int 0, .int 4]) (rest := []) (zm4.2 _) vf_X5_95 0 0 rfl rfl hl.1 rfl rfl (Nat.le_of_ble_eq_true rfl) dX5_takesThing_15 ⟨Nat.le_of_ble_eq_true rfl, Nat.le_of_ble_eq_true rfl⟩ ⟨Nat.le_refl _, Nat.le_refl _⟩) (us2 := [uX5 G o_t a_t zr2.2, uX9 G (a_t 0) a_t_draft v_t_draft, uA G 200 (a_t 3) v_t_text]) rfl (fun H locs h => ?_)
    refine lv_if_eq (tgt := 58) C.hx C.hb dX5_takesThing_18 (by decide) (fun zc5 => ?_) (fun zc5 => ?_)
    · replace hf := it_t zc5 hf
      exact w_X5_takesThing_58 C  hf h (lv_sub hl [0] rfl)
    · replace hf := it_f zc5 hf
      refine lv_aload_n C.hx C.hb dX5_takesThing_21 rfl (lv_at hl 0 rfl) ?_
      refine lv_iconst (v := 1) C.hx C.hb dX5_takesThing_22 (by decide) ?_
      refine lv_iconst (v := 0) C.hx C.hb dX5_takesThing_23 (by decide) ?_
      refine lv_bipush (v := 9) C.hx C.hb dX5_takesThing_24 (by decide) ?_
      obtain ⟨zr6, zq7, hf⟩ := bd_some hf
      have zm8 := c_X5_takesNumber l G o_t a_t N (hf := zq7)
      refine g_goI C h zm8.1 (is := [0, 2]) rfl rfl (g_runV C h (is := [0, 2]) rfl rfl (As := [.int 1, .int 0, .int 9]) (rest := []) (zm8.2 _) vf_X5_95 0 0 rfl rfl hl.1 rfl rfl (Nat.le_of_ble_eq_true rfl) dX5_takesThing_26 ⟨Nat.le_of_ble_eq_true rfl, Nat.le_of_ble_eq_true rfl⟩ ⟨Nat.le_refl _, Nat.le_refl _⟩) (us2 := [uX5 G o_t a_t zr6.2, uX9 G (a_t 0) a_t_draft v_t_draft, uA G 200 (a_t 3) v_t_text]) rfl (fun H locs h => ?_)
      refine lv_if_eq (tgt := 58) C.hx C.hb dX5_takesThing_29 (by decide) (fun zc9 => ?_) (fun zc9 => ?_)
      · replace hf := it_t zc9 hf
        exact w_X5_takesThing_58 C  hf h (lv_sub hl [0] rfl)
      · replace hf := it_f zc9 hf
        refine lv_aload_n C.hx C.hb dX5_takesThing_32 rfl (lv_at hl 0 rfl) ?_
        refine lv_iconst (v := 2) C.hx C.hb dX5_takesThing_33 (by decide) ?_
        refine lv_iconst (v := 1) C.hx C.hb dX5_takesThing_34 (by decide) ?_
        refine lv_bipush (v := 9) C.hx C.hb dX5_takesThing_35 (by decide) ?_
        obtain ⟨zr10, zq11, hf⟩ := bd_some hf
        have zm12 := c_X5_takesNumber l G o_t a_t N (hf := zq11)
        refine g_goI C h zm12.1 (is := [0, 2]) rfl rfl (g_runV C h (is := [0, 2]) rfl rfl (As := [.int 2, .int 1, .int 9]) (rest := []) (zm12.2 _) vf_X5_95 0 0 rfl rfl hl.1 rfl rfl (Nat.le_of_ble_eq_true rfl) dX5_takesThing_37 ⟨Nat.le_of_ble_eq_true rfl, Nat.le_of_ble_eq_true rfl⟩ ⟨Nat.le_refl _, Nat.le_refl _⟩) (us2 := [uX5 G o_t a_t zr10.2, uX9 G (a_t 0) a_t_draft v_t_draft, uA G 200 (a_t 3) v_t_text]) rfl (fun H locs h => ?_)
        refine lv_if_eq (tgt := 58) C.hx C.hb dX5_takesThing_40 (by decide) (fun zc13 => ?_) (fun zc13 => ?_)
        · replace hf := it_t zc13 hf
          exact w_X5_takesThing_58 C  hf h (lv_sub hl [0] rfl)
        · replace hf := it_f zc13 hf
          refine lv_aload_n C.hx C.hb dX5_takesThing_43 rfl (lv_at hl 0 rfl) ?_
          refine lv_iconst (v := 3) C.hx C.hb dX5_takesThing_44 (by decide) ?_
          refine lv_iconst (v := 0) C.hx C.hb dX5_takesThing_45 (by decide) ?_
          refine lv_bipush (v := 9) C.hx C.hb dX5_takesThing_46 (by decide) ?_
          obtain ⟨zr14, zq15, hf⟩ := bd_some hf
          have zm16 := c_X5_takesNumber l G o_t a_t N (hf := zq15)
          refine g_goI C h zm16.1 (is := [0, 2]) rfl rfl (g_runV C h (is := [0, 2]) rfl rfl (As := [.int 3, .int 0, .int 9]) (rest := []) (zm16.2 _) vf_X5_95 0 0 rfl rfl hl.1 rfl rfl (Nat.le_of_ble_eq_true rfl) dX5_takesThing_48 ⟨Nat.le_of_ble_eq_true rfl, Nat.le_of_ble_eq_true rfl⟩ ⟨Nat.le_refl _, Nat.le_refl _⟩) (us2 := [uX5 G o_t a_t zr14.2, uX9 G (a_t 0) a_t_draft v_t_draft, uA G 200 (a_t 3) v_t_text]) rfl (fun H locs h => ?_)
          refine lv_if_eq (tgt := 58) C.hx C.hb dX5_takesThing_51 (by decide) (fun zc17 => ?_) (fun zc17 => ?_)
          · replace hf := it_t zc17 hf
            exact w_X5_takesThing_58 C  hf h (lv_sub hl [0] rfl)
          · replace hf := it_f zc17 hf
            refine lv_iconst (v := 1) C.hx C.hb dX5_takesThing_54 (by decide) ?_
            refine lv_goto (tgt := 59) C.hx C.hb dX5_takesThing_55 (by decide) ?_
            exact w_X5_takesThing_59 C  hf h (lv_sub hl [0] rfl)

def b_X5_isWord_20 (N : Nat) (g20 : US → (Nat → Int32) → Nat → Int32 → Option (Bool)) (v_t : US) (v_t_text : Nat → Int32) (k1 : Nat) (y2 : Int32) : Option (Bool) :=
  if 5 ≤ k1 then none else (if (slen k1) ≤ y2 then (some (true)) else (if ((v_t.1 2) + y2) < 0 ∨ 200 ≤ ((v_t.1 2) + y2).toNatClampNeg then none else (if 5 ≤ k1 then none else (if y2 < 0 ∨ strLen.getD k1 0 ≤ y2.toNatClampNeg then none else (if (v_t_text ((v_t.1 2) + y2).toNatClampNeg) = (sch k1 y2) then (g20 v_t v_t_text k1 (y2 + 1)) else (some (false)))))))
def f_X5_isWord_20 (N : Nat)  : Nat → US → (Nat → Int32) → Nat → Int32 → Option (Bool)
  | 0 => fun _ _ _ _ => none
  | k + 1 => fun q0 q1 q2 q3 => b_X5_isWord_20 N  (f_X5_isWord_20 N  k) q0 q1 q2 q3
def f_X5_isWord (N : Nat) (v_t : US) (v_t_text : Nat → Int32) (k1 : Nat) : Option (Bool) :=
  if 5 ≤ k1 then none else (if ((v_t.1 5) - (v_t.1 2)) = (slen k1) then (f_X5_isWord_20 N N v_t v_t_text k1 0) else (some (false)))
set_option maxRecDepth 100000 in
set_option maxHeartbeats 4000000 in
theorem w_X5_isWord_20 {p : Program} {l : Launch} {e : Env} {s : State} {m : MethodId} {args : Array Value} {below : List Frame} {meth : Method} {c : Code} {G : GG} {A : Nat → Prop} {o_t : Nat} {a_t : Nat → Nat} {N : Nat} {g20 : US → (Nat → Int32) → Nat → Int32 → Option (Bool)} {v_t : US} {v_t_text : Nat → Int32} {k1 : Nat} {y2 : Int32} {res : Bool} (C : MC RX5 cX5_isWord 3 (some .boolean) G A p s m args meth c) (hg20 : ∀ {v_t : US} {v_t_text : Nat → Int32} {k1 : Nat} {y2 : Int32}, g20 v_t v_t_text k1 y2 = some res → ∀ {H : Heap} {locs : List Loc} {ls : Array Slot}, HP G A s [uX5 G o_t a_t v_t, uA G 200 (a_t 3) v_t_text] H locs → lv_has ls 3 [(0, .ref o_t), (1, .ref (G.2.2 (10 + k1))), (2, .int y2)] → W p l e (rmm 5) s m args below meth c H locs 0 0 (QI below G A args s (b2i res) [uX5 G o_t a_t v_t, uA G 200 (a_t 3) v_t_text]) (F0 m 20 ls [])) (hf : b_X5_isWord_20 N g20 v_t v_t_text k1 y2 = some res) {H : Heap} {locs : List Loc} {ls : Array Slot} (h : HP G A s [uX5 G o_t a_t v_t, uA G 200 (a_t 3) v_t_text] H locs) (hl : lv_has ls 3 [(0, .ref o_t), (1, .ref (G.2.2 (10 + k1))), (2, .int y2)]) : W p l e (rmm 5) s m args below meth c H locs 0 0 (QI below G A args s (b2i res) [uX5 G o_t a_t v_t, uA G 200 (a_t 3) v_t_text]) (F0 m 20 ls []) := by
  unfold b_X5_isWord_20 at hf
  refine lv_iload_n C.hx C.hb dX5_isWord_20 rfl (lv_at hl 2 rfl) ?_
  refine lv_aload_n C.hx C.hb dX5_isWord_21 rfl (lv_at hl 1 rfl) ?_
  obtain ⟨zk1, hf⟩ := kl_some hf
  have zm2 := c_J0_length l G zk1
  refine g_goI C h zm2.1 (is := []) rfl rfl (g_runR C h (is := []) rfl rfl (As := []) (rest := [.int y2]) (zm2.2 _) vs_X5_136 (by exact vk_recv (i := k1) C.sx.2.2.1 zk1 h.2.2) hl.1 rfl rfl (Nat.le_of_ble_eq_true rfl) dX5_isWord_22 ⟨Nat.le_of_ble_eq_true rfl, Nat.le_of_ble_eq_true rfl⟩ ⟨Nat.le_refl _, Nat.le_refl _⟩) (us2 := [uX5 G o_t a_t v_t, uA G 200 (a_t 3) v_t_text]) rfl (fun H locs h => ?_)
  refine lv_icmp_ge (tgt := 55) C.hx C.hb dX5_isWord_25 (by decide) (fun zc3 => ?_) (fun zc3 => ?_)
  · replace hf := it_t zc3 hf
    refine lv_iconst (v := 1) C.hx C.hb dX5_isWord_55 (by decide) ?_
    obtain rfl := Option.some.inj hf
    exact g_ret_z (b := true) C h rfl rfl rfl dX5_isWord_56
  · replace hf := it_f zc3 hf
    refine lv_aload_n C.hx C.hb dX5_isWord_28 rfl (lv_at hl 0 rfl) ?_
    refine g_get C h fl_X5_25 0 0 rfl rfl (v := .ref (a_t 3)) rfl dX5_isWord_29 ?_
    refine lv_aload_n C.hx C.hb dX5_isWord_32 rfl (lv_at hl 0 rfl) ?_
    refine g_get C h fl_X5_22 0 0 rfl rfl (v := .int (v_t.1 2)) rfl dX5_isWord_33 ?_
    refine lv_iload_n C.hx C.hb dX5_isWord_36 rfl (lv_at hl 2 rfl) ?_
    refine lv_iadd C.hx C.hb dX5_isWord_37 ?_
    obtain ⟨zi4, hf⟩ := ck_some hf
    refine g_iald C h 1 0 rfl rfl (f := v_t_text) zi4 dX5_isWord_38 ?_
    refine lv_aload_n C.hx C.hb dX5_isWord_39 rfl (lv_at hl 1 rfl) ?_
    refine lv_iload_n C.hx C.hb dX5_isWord_40 rfl (lv_at hl 2 rfl) ?_
    obtain ⟨zk5, hf⟩ := kl_some hf
    obtain ⟨zi7, hf⟩ := ck_some hf
    have zm6 := c_J0_charAt l G zk5 zi7
    refine g_goI C h zm6.1 (is := []) rfl rfl (g_runR C h (is := []) rfl rfl (As := [.int y2]) (rest := [.int (v_t_text ((v_t.1 2) + y2).toNatClampNeg)]) (zm6.2 _) vs_X5_141 (by exact vk_recv (i := k1) C.sx.2.2.1 zk5 h.2.2) hl.1 rfl rfl (Nat.le_of_ble_eq_true rfl) dX5_isWord_41 ⟨Nat.le_of_ble_eq_true rfl, Nat.le_of_ble_eq_true rfl⟩ ⟨Nat.le_refl _, Nat.le_refl _⟩) (us2 := [uX5 G o_t a_t v_t, uA G 200 (a_t 3) v_t_text]) rfl (fun H locs h => ?_)
    refine lv_icmp_eq (tgt := 49) C.hx C.hb dX5_isWord_44 (by decide) (fun zc8 => ?_) (fun zc8 => ?_)
    · replace hf := it_t zc8 hf
      refine lv_iinc (v := y2 + 1) (lv' := [(2, .int (y2 + 1)), (0, .ref o_t), (1, .ref (G.2.2 (10 + k1)))]) C.hx C.hb dX5_isWord_49 hl (k := 2) rfl rfl (by decide) rfl (fun ls hl => ?_)
      refine lv_goto (tgt := 20) C.hx C.hb dX5_isWord_52 (by decide) ?_
      exact hg20 hf h (lv_sub hl [1, 2, 0] rfl)
    · replace hf := it_f zc8 hf
      refine lv_iconst (v := 0) C.hx C.hb dX5_isWord_47 (by decide) ?_
      obtain rfl := Option.some.inj hf
      exact g_ret_z (b := false) C h rfl rfl rfl dX5_isWord_48
set_option maxRecDepth 100000 in
set_option maxHeartbeats 4000000 in
theorem l_X5_isWord_20 {p : Program} {l : Launch} {e : Env} {s : State} {m : MethodId} {args : Array Value} {below : List Frame} {meth : Method} {c : Code} {G : GG} {A : Nat → Prop} {o_t : Nat} {a_t : Nat → Nat} {N : Nat}  {res : Bool} (C : MC RX5 cX5_isWord 3 (some .boolean) G A p s m args meth c)  : ∀ (k : Nat) {v_t : US} {v_t_text : Nat → Int32} {k1 : Nat} {y2 : Int32}, f_X5_isWord_20 N k v_t v_t_text k1 y2 = some res → ∀ {H : Heap} {locs : List Loc} {ls : Array Slot}, HP G A s [uX5 G o_t a_t v_t, uA G 200 (a_t 3) v_t_text] H locs → lv_has ls 3 [(0, .ref o_t), (1, .ref (G.2.2 (10 + k1))), (2, .int y2)] → W p l e (rmm 5) s m args below meth c H locs 0 0 (QI below G A args s (b2i res) [uX5 G o_t a_t v_t, uA G 200 (a_t 3) v_t_text]) (F0 m 20 ls []) := by
  intro k
  induction k with
  | zero => intros; contradiction
  | succ k ih =>
    intro v_t v_t_text k1 y2 hf H locs ls h hl
    exact w_X5_isWord_20 (N := N) C ih hf h hl
set_option maxRecDepth 100000 in
set_option maxHeartbeats 4000000 in
theorem c_X5_isWord (l : Launch) (G : GG) (o_t : Nat) (a_t : Nat → Nat) (N : Nat) {v_t : US} {v_t_text : Nat → Int32} {k1 : Nat} {res : Bool} (hf : f_X5_isWord N v_t v_t_text k1 = some res) : MI l yX5_isWord cX5_isWord 3 (some .boolean) 5 [.ref o_t, .ref (G.2.2 (10 + k1))] G [uX5 G o_t a_t v_t, uA G 200 (a_t 3) v_t_text] (b2i res) [uX5 G o_t a_t v_t, uA G 200 (a_t 3) v_t_text] := by
  unfold f_X5_isWord at hf
  refine MI.intro (by decide) rfl (Nat.le_of_ble_eq_true rfl) (fun p e s m args below meth c A ls C h hl => ?_)
  have C : MC RX5 cX5_isWord 3 (some .boolean) G A p s m args meth c := C
  have hl : lv_has ls 3 [(0, .ref o_t), (1, .ref (G.2.2 (10 + k1)))] := hl
  refine lv_aload_n C.hx C.hb dX5_isWord_0 rfl (lv_at hl 0 rfl) ?_
  refine g_get C h fl_X5_32 0 0 rfl rfl (v := .int (v_t.1 5)) rfl dX5_isWord_1 ?_
  refine lv_aload_n C.hx C.hb dX5_isWord_4 rfl (lv_at hl 0 rfl) ?_
  refine g_get C h fl_X5_22 0 0 rfl rfl (v := .int (v_t.1 2)) rfl dX5_isWord_5 ?_
  refine lv_isub C.hx C.hb dX5_isWord_8 ?_
  refine lv_aload_n C.hx C.hb dX5_isWord_9 rfl (lv_at hl 1 rfl) ?_
  obtain ⟨zk1, hf⟩ := kl_some hf
  have zm2 := c_J0_length l G zk1
  refine g_goI C h zm2.1 (is := []) rfl rfl (g_runR C h (is := []) rfl rfl (As := []) (rest := [.int ((v_t.1 5) - (v_t.1 2))]) (zm2.2 _) vs_X5_136 (by exact vk_recv (i := k1) C.sx.2.2.1 zk1 h.2.2) hl.1 rfl rfl (Nat.le_of_ble_eq_true rfl) dX5_isWord_10 ⟨Nat.le_of_ble_eq_true rfl, Nat.le_of_ble_eq_true rfl⟩ ⟨Nat.le_refl _, Nat.le_refl _⟩) (us2 := [uX5 G o_t a_t v_t, uA G 200 (a_t 3) v_t_text]) rfl (fun H locs h => ?_)
  refine lv_icmp_eq (tgt := 18) C.hx C.hb dX5_isWord_13 (by decide) (fun zc3 => ?_) (fun zc3 => ?_)
  · replace hf := it_t zc3 hf
    refine lv_iconst (v := 0) C.hx C.hb dX5_isWord_18 (by decide) ?_
    refine lv_istore_n (lv' := [(2, .int 0), (0, .ref o_t), (1, .ref (G.2.2 (10 + k1)))]) C.hx C.hb dX5_isWord_19 rfl hl (by decide) rfl (fun ls hl => ?_)
    exact l_X5_isWord_20 C N hf h (lv_sub hl [1, 2, 0] rfl)
  · replace hf := it_f zc3 hf
    refine lv_iconst (v := 0) C.hx C.hb dX5_isWord_16 (by decide) ?_
    obtain rfl := Option.some.inj hf
    exact g_ret_z (b := false) C h rfl rfl rfl dX5_isWord_17

def f_X5_takesItem (N : Nat) (v_t : US) (v_t_draft : US) (v_t_text : Nat → Int32)  : Option (Bool × US × US) :=
  (f_X5_isWord N v_t v_t_text 0).bind fun zr1 => if (b2i zr1) = 0 then ((f_X5_isWord N v_t v_t_text 1).bind fun zr5 => if (b2i zr5) = 0 then ((f_X5_isWord N v_t v_t_text 2).bind fun zr9 => if (b2i zr9) = 0 then ((f_X5_isWord N v_t v_t_text 3).bind fun zr13 => if (b2i zr13) = 0 then ((f_X5_isWord N v_t v_t_text 4).bind fun zr17 => if (b2i zr17) = 0 then (some (false, v_t, v_t_draft)) else ((f_X5_takesRule N v_t v_t_draft v_t_text).bind fun zr21 => some (zr21.1, zr21.2.1, zr21.2.2))) else ((f_X5_takesErrand N v_t v_t_draft v_t_text).bind fun zr24 => some (zr24.1, zr24.2.1, zr24.2.2))) else ((f_X5_takesDamp N v_t v_t_draft v_t_text).bind fun zr27 => some (zr27.1, zr27.2.1, zr27.2.2))) else ((f_X5_takesCut N v_t v_t_draft v_t_text).bind fun zr30 => some (zr30.1, zr30.2.1, zr30.2.2))) else ((f_X5_takesThing N v_t v_t_draft v_t_text).bind fun zr33 => some (zr33.1, zr33.2.1, zr33.2.2))
set_option maxRecDepth 100000 in
set_option maxHeartbeats 4000000 in
theorem c_X5_takesItem (l : Launch) (G : GG) (o_t : Nat) (a_t a_t_draft : Nat → Nat) (N : Nat) {v_t : US} {v_t_draft : US} {v_t_text : Nat → Int32}  {res : Bool × US × US} (hf : f_X5_takesItem N v_t v_t_draft v_t_text = some res) : MI l yX5_takesItem cX5_takesItem 1 (some .boolean) 6 [.ref o_t] G [uX5 G o_t a_t v_t, uX9 G (a_t 0) a_t_draft v_t_draft, uA G 200 (a_t 3) v_t_text] (b2i res.1) [uX5 G o_t a_t res.2.1, uX9 G (a_t 0) a_t_draft res.2.2, uA G 200 (a_t 3) v_t_text] := by
  unfold f_X5_takesItem at hf
  refine MI.intro (by decide) rfl (Nat.le_of_ble_eq_true rfl) (fun p e s m args below meth c A ls C h hl => ?_)
  have C : MC RX5 cX5_takesItem 1 (some .boolean) G A p s m args meth c := C
  have hl : lv_has ls 1 [(0, .ref o_t)] := hl
  refine lv_aload_n C.hx C.hb dX5_takesItem_0 rfl (lv_at hl 0 rfl) ?_
  refine va_ldcS C.hx C.hb C.hown (C.ev.2.2 0 (by decide)) dX5_takesItem_1 ?_
  obtain ⟨zr1, zq2, hf⟩ := bd_some hf
  have zm3 := c_X5_isWord l G o_t a_t N (hf := zq2)
  refine g_goI C h zm3.1 (is := [0, 2]) rfl rfl (g_runV C h (is := [0, 2]) rfl rfl (As := [.ref (G.2.2 (10 + 0))]) (rest := []) (zm3.2 _) vf_X5_65 0 0 rfl rfl hl.1 rfl rfl (Nat.le_of_ble_eq_true rfl) dX5_takesItem_3 ⟨Nat.le_of_ble_eq_true rfl, Nat.le_of_ble_eq_true rfl⟩ ⟨Nat.le_refl _, Nat.le_refl _⟩) (us2 := [uX5 G o_t a_t v_t, uX9 G (a_t 0) a_t_draft v_t_draft, uA G 200 (a_t 3) v_t_text]) rfl (fun H locs h => ?_)
  refine lv_if_eq (tgt := 14) C.hx C.hb dX5_takesItem_6 (by decide) (fun zc4 => ?_) (fun zc4 => ?_)
  · replace hf := it_t zc4 hf
    refine lv_aload_n C.hx C.hb dX5_takesItem_14 rfl (lv_at hl 0 rfl) ?_
    refine va_ldcS C.hx C.hb C.hown (C.ev.2.2 1 (by decide)) dX5_takesItem_15 ?_
    obtain ⟨zr5, zq6, hf⟩ := bd_some hf
    have zm7 := c_X5_isWord l G o_t a_t N (hf := zq6)
    refine g_goI C h zm7.1 (is := [0, 2]) rfl rfl (g_runV C h (is := [0, 2]) rfl rfl (As := [.ref (G.2.2 (10 + 1))]) (rest := []) (zm7.2 _) vf_X5_65 0 0 rfl rfl hl.1 rfl rfl (Nat.le_of_ble_eq_true rfl) dX5_takesItem_17 ⟨Nat.le_of_ble_eq_true rfl, Nat.le_of_ble_eq_true rfl⟩ ⟨Nat.le_refl _, Nat.le_refl _⟩) (us2 := [uX5 G o_t a_t v_t, uX9 G (a_t 0) a_t_draft v_t_draft, uA G 200 (a_t 3) v_t_text]) rfl (fun H locs h => ?_)
    refine lv_if_eq (tgt := 28) C.hx C.hb dX5_takesItem_20 (by decide) (fun zc8 => ?_) (fun zc8 => ?_)
    · replace hf := it_t zc8 hf
      refine lv_aload_n C.hx C.hb dX5_takesItem_28 rfl (lv_at hl 0 rfl) ?_
      refine va_ldcS C.hx C.hb C.hown (C.ev.2.2 2 (by decide)) dX5_takesItem_29 ?_
      obtain ⟨zr9, zq10, hf⟩ := bd_some hf
      have zm11 := c_X5_isWord l G o_t a_t N (hf := zq10)
      refine g_goI C h zm11.1 (is := [0, 2]) rfl rfl (g_runV C h (is := [0, 2]) rfl rfl (As := [.ref (G.2.2 (10 + 2))]) (rest := []) (zm11.2 _) vf_X5_65 0 0 rfl rfl hl.1 rfl rfl (Nat.le_of_ble_eq_true rfl) dX5_takesItem_31 ⟨Nat.le_of_ble_eq_true rfl, Nat.le_of_ble_eq_true rfl⟩ ⟨Nat.le_refl _, Nat.le_refl _⟩) (us2 := [uX5 G o_t a_t v_t, uX9 G (a_t 0) a_t_draft v_t_draft, uA G 200 (a_t 3) v_t_text]) rfl (fun H locs h => ?_)
      refine lv_if_eq (tgt := 42) C.hx C.hb dX5_takesItem_34 (by decide) (fun zc12 => ?_) (fun zc12 => ?_)
      · replace hf := it_t zc12 hf
        refine lv_aload_n C.hx C.hb dX5_takesItem_42 rfl (lv_at hl 0 rfl) ?_
        refine va_ldcS C.hx C.hb C.hown (C.ev.2.2 3 (by decide)) dX5_takesItem_43 ?_
        obtain ⟨zr13, zq14, hf⟩ := bd_some hf
        have zm15 := c_X5_isWord l G o_t a_t N (hf := zq14)
        refine g_goI C h zm15.1 (is := [0, 2]) rfl rfl (g_runV C h (is := [0, 2]) rfl rfl (As := [.ref (G.2.2 (10 + 3))]) (rest := []) (zm15.2 _) vf_X5_65 0 0 rfl rfl hl.1 rfl rfl (Nat.le_of_ble_eq_true rfl) dX5_takesItem_45 ⟨Nat.le_of_ble_eq_true rfl, Nat.le_of_ble_eq_true rfl⟩ ⟨Nat.le_refl _, Nat.le_refl _⟩) (us2 := [uX5 G o_t a_t v_t, uX9 G (a_t 0) a_t_draft v_t_draft, uA G 200 (a_t 3) v_t_text]) rfl (fun H locs h => ?_)
        refine lv_if_eq (tgt := 56) C.hx C.hb dX5_takesItem_48 (by decide) (fun zc16 => ?_) (fun zc16 => ?_)
        · replace hf := it_t zc16 hf
          refine lv_aload_n C.hx C.hb dX5_takesItem_56 rfl (lv_at hl 0 rfl) ?_
          refine va_ldcS C.hx C.hb C.hown (C.ev.2.2 4 (by decide)) dX5_takesItem_57 ?_
          obtain ⟨zr17, zq18, hf⟩ := bd_some hf
          have zm19 := c_X5_isWord l G o_t a_t N (hf := zq18)
          refine g_goI C h zm19.1 (is := [0, 2]) rfl rfl (g_runV C h (is := [0, 2]) rfl rfl (As := [.ref (G.2.2 (10 + 4))]) (rest := []) (zm19.2 _) vf_X5_65 0 0 rfl rfl hl.1 rfl rfl (Nat.le_of_ble_eq_true rfl) dX5_takesItem_59 ⟨Nat.le_of_ble_eq_true rfl, Nat.le_of_ble_eq_true rfl⟩ ⟨Nat.le_refl _, Nat.le_refl _⟩) (us2 := [uX5 G o_t a_t v_t, uX9 G (a_t 0) a_t_draft v_t_draft, uA G 200 (a_t 3) v_t_text]) rfl (fun H locs h => ?_)
          refine lv_if_eq (tgt := 70) C.hx C.hb dX5_takesItem_62 (by decide) (fun zc20 => ?_) (fun zc20 => ?_)
          · replace hf := it_t zc20 hf
            refine lv_iconst (v := 0) C.hx C.hb dX5_takesItem_70 (by decide) ?_
            obtain rfl := Option.some.inj hf
            exact g_ret_z (b := false) C h rfl rfl rfl dX5_takesItem_71
          · replace hf := it_f zc20 hf
            refine lv_aload_n C.hx C.hb dX5_takesItem_65 rfl (lv_at hl 0 rfl) ?_
            obtain ⟨zr21, zq22, hf⟩ := bd_some hf
            have zm23 := c_X5_takesRule l G o_t a_t a_t_draft N (hf := zq22)
            refine g_goI C h zm23.1 (is := [0, 1, 2]) rfl rfl (g_runV C h (is := [0, 1, 2]) rfl rfl (As := []) (rest := []) (zm23.2 _) vf_X5_89 0 0 rfl rfl hl.1 rfl rfl (Nat.le_of_ble_eq_true rfl) dX5_takesItem_66 ⟨Nat.le_of_ble_eq_true rfl, Nat.le_of_ble_eq_true rfl⟩ ⟨Nat.le_refl _, Nat.le_refl _⟩) (us2 := [uX5 G o_t a_t zr21.2.1, uX9 G (a_t 0) a_t_draft zr21.2.2, uA G 200 (a_t 3) v_t_text]) rfl (fun H locs h => ?_)
            obtain rfl := Option.some.inj hf
            exact g_ret_z (b := _) C h rfl rfl rfl dX5_takesItem_69
        · replace hf := it_f zc16 hf
          refine lv_aload_n C.hx C.hb dX5_takesItem_51 rfl (lv_at hl 0 rfl) ?_
          obtain ⟨zr24, zq25, hf⟩ := bd_some hf
          have zm26 := c_X5_takesErrand l G o_t a_t a_t_draft N (hf := zq25)
          refine g_goI C h zm26.1 (is := [0, 1, 2]) rfl rfl (g_runV C h (is := [0, 1, 2]) rfl rfl (As := []) (rest := []) (zm26.2 _) vf_X5_84 0 0 rfl rfl hl.1 rfl rfl (Nat.le_of_ble_eq_true rfl) dX5_takesItem_52 ⟨Nat.le_of_ble_eq_true rfl, Nat.le_of_ble_eq_true rfl⟩ ⟨Nat.le_refl _, Nat.le_refl _⟩) (us2 := [uX5 G o_t a_t zr24.2.1, uX9 G (a_t 0) a_t_draft zr24.2.2, uA G 200 (a_t 3) v_t_text]) rfl (fun H locs h => ?_)
          obtain rfl := Option.some.inj hf
          exact g_ret_z (b := _) C h rfl rfl rfl dX5_takesItem_55
      · replace hf := it_f zc12 hf
        refine lv_aload_n C.hx C.hb dX5_takesItem_37 rfl (lv_at hl 0 rfl) ?_
        obtain ⟨zr27, zq28, hf⟩ := bd_some hf
        have zm29 := c_X5_takesDamp l G o_t a_t a_t_draft N (hf := zq28)
        refine g_goI C h zm29.1 (is := [0, 1, 2]) rfl rfl (g_runV C h (is := [0, 1, 2]) rfl rfl (As := []) (rest := []) (zm29.2 _) vf_X5_79 0 0 rfl rfl hl.1 rfl rfl (Nat.le_of_ble_eq_true rfl) dX5_takesItem_38 ⟨Nat.le_of_ble_eq_true rfl, Nat.le_of_ble_eq_true rfl⟩ ⟨Nat.le_refl _, Nat.le_refl _⟩) (us2 := [uX5 G o_t a_t zr27.2.1, uX9 G (a_t 0) a_t_draft zr27.2.2, uA G 200 (a_t 3) v_t_text]) rfl (fun H locs h => ?_)
        obtain rfl := Option.some.inj hf
        exact g_ret_z (b := _) C h rfl rfl rfl dX5_takesItem_41
    · replace hf := it_f zc8 hf
      refine lv_aload_n C.hx C.hb dX5_takesItem_23 rfl (lv_at hl 0 rfl) ?_
      obtain ⟨zr30, zq31, hf⟩ := bd_some hf
      have zm32 := c_X5_takesCut l G o_t a_t a_t_draft N (hf := zq31)
      refine g_goI C h zm32.1 (is := [0, 1, 2]) rfl rfl (g_runV C h (is := [0, 1, 2]) rfl rfl (As := []) (rest := []) (zm32.2 _) vf_X5_74 0 0 rfl rfl hl.1 rfl rfl (Nat.le_of_ble_eq_true rfl) dX5_takesItem_24 ⟨Nat.le_of_ble_eq_true rfl, Nat.le_of_ble_eq_true rfl⟩ ⟨Nat.le_refl _, Nat.le_refl _⟩) (us2 := [uX5 G o_t a_t zr30.2.1, uX9 G (a_t 0) a_t_draft zr30.2.2, uA G 200 (a_t 3) v_t_text]) rfl (fun H locs h => ?_)
      obtain rfl := Option.some.inj hf
      exact g_ret_z (b := _) C h rfl rfl rfl dX5_takesItem_27
  · replace hf := it_f zc4 hf
    refine lv_aload_n C.hx C.hb dX5_takesItem_9 rfl (lv_at hl 0 rfl) ?_
    obtain ⟨zr33, zq34, hf⟩ := bd_some hf
    have zm35 := c_X5_takesThing l G o_t a_t a_t_draft N (hf := zq34)
    refine g_goI C h zm35.1 (is := [0, 1, 2]) rfl rfl (g_runV C h (is := [0, 1, 2]) rfl rfl (As := []) (rest := []) (zm35.2 _) vf_X5_69 0 0 rfl rfl hl.1 rfl rfl (Nat.le_of_ble_eq_true rfl) dX5_takesItem_10 ⟨Nat.le_of_ble_eq_true rfl, Nat.le_of_ble_eq_true rfl⟩ ⟨Nat.le_refl _, Nat.le_refl _⟩) (us2 := [uX5 G o_t a_t zr33.2.1, uX9 G (a_t 0) a_t_draft zr33.2.2, uA G 200 (a_t 3) v_t_text]) rfl (fun H locs h => ?_)
    obtain rfl := Option.some.inj hf
    exact g_ret_z (b := _) C h rfl rfl rfl dX5_takesItem_13

def b_X5_takes_34 (N : Nat) (g34 : US → (Nat → Int32) → US → Int32 → Option (Bool × US × US)) (v_t : US) (v_p1 : Nat → Int32) (v_t_draft : US) (y3 : Int32) : Option (Bool × US × US) :=
  if (v_t.1 4) < y3 then (some (false, v_t, v_t_draft)) else ((f_X5_nextToken N v_t v_p1).bind fun zr2 => if (zr2.1 6) = 0 then (some (true, zr2, v_t_draft)) else ((f_X5_takesItem N zr2 v_t_draft v_p1).bind fun zr6 => if (b2i zr6.1) = 0 then (some (false, zr6.2.1, zr6.2.2)) else ((f_X5_takesEndOfItem N zr6.2.1 v_p1).bind fun zr10 => if (b2i zr10.1) = 0 then (some (false, zr10.2, zr6.2.2)) else (g34 (upi zr10.2 1 ((zr10.2.1 1) + 1)) v_p1 zr6.2.2 (y3 + 1)))))
def f_X5_takes_34 (N : Nat)  : Nat → US → (Nat → Int32) → US → Int32 → Option (Bool × US × US)
  | 0 => fun _ _ _ _ => none
  | k + 1 => fun q0 q1 q2 q3 => b_X5_takes_34 N  (f_X5_takes_34 N  k) q0 q1 q2 q3
def f_X5_takes (N : Nat) (v_t : US) (v_p1 : Nat → Int32) (v_t_draft : US) (x2 : Int32) : Option (Bool × US × US) :=
  bnd (upi v_t 4 (if 200 < x2 then 200 else x2)) fun zw1 => bnd (upi zw1 5 0) fun zw2 => (f_X9_becomeEmpty v_t_draft).bind fun zr3 => f_X5_takes_34 N N (upi zw2 1 0) v_p1 zr3 0
set_option maxRecDepth 100000 in
set_option maxHeartbeats 4000000 in
theorem w_X5_takes_34 {p : Program} {l : Launch} {e : Env} {s : State} {m : MethodId} {args : Array Value} {below : List Frame} {meth : Method} {c : Code} {G : GG} {A : Nat → Prop} {o_t o_p1 : Nat} {a_t a_t_draft : Nat → Nat} {N : Nat} {g34 : US → (Nat → Int32) → US → Int32 → Option (Bool × US × US)} {v_t : US} {v_p1 : Nat → Int32} {v_t_draft : US} {y3 : Int32} {res : Bool × US × US} (C : MC RX5 cX5_takes 4 (some .boolean) G A p s m args meth c) (hg34 : ∀ {v_t : US} {v_p1 : Nat → Int32} {v_t_draft : US} {y3 : Int32}, g34 v_t v_p1 v_t_draft y3 = some res → ∀ {H : Heap} {locs : List Loc} {ls : Array Slot}, HP G A s [uX5 G o_t (upn a_t 3 o_p1) v_t, uA G 200 o_p1 v_p1, uX9 G (a_t 0) a_t_draft v_t_draft] H locs → lv_has ls 4 [(0, .ref o_t), (3, .int y3)] → W p l e (rmm 7) s m args below meth c H locs 0 0 (QI below G A args s (b2i res.1) [uX5 G o_t (upn a_t 3 o_p1) res.2.1, uA G 200 o_p1 v_p1, uX9 G (a_t 0) a_t_draft res.2.2]) (F0 m 34 ls [])) (hf : b_X5_takes_34 N g34 v_t v_p1 v_t_draft y3 = some res) {H : Heap} {locs : List Loc} {ls : Array Slot} (h : HP G A s [uX5 G o_t (upn a_t 3 o_p1) v_t, uA G 200 o_p1 v_p1, uX9 G (a_t 0) a_t_draft v_t_draft] H locs) (hl : lv_has ls 4 [(0, .ref o_t), (3, .int y3)]) : W p l e (rmm 7) s m args below meth c H locs 0 0 (QI below G A args s (b2i res.1) [uX5 G o_t (upn a_t 3 o_p1) res.2.1, uA G 200 o_p1 v_p1, uX9 G (a_t 0) a_t_draft res.2.2]) (F0 m 34 ls []) := by
  unfold b_X5_takes_34 at hf
  refine lv_iload_n C.hx C.hb dX5_takes_34 rfl (lv_at hl 1 rfl) ?_
  refine lv_aload_n C.hx C.hb dX5_takes_35 rfl (lv_at hl 0 rfl) ?_
  refine g_get C h fl_X5_29 0 0 rfl rfl (v := .int (v_t.1 4)) rfl dX5_takes_36 ?_
  refine lv_icmp_gt (tgt := 87) C.hx C.hb dX5_takes_39 (by decide) (fun zc1 => ?_) (fun zc1 => ?_)
  · replace hf := it_t zc1 hf
    refine lv_iconst (v := 0) C.hx C.hb dX5_takes_87 (by decide) ?_
    obtain rfl := Option.some.inj hf
    exact g_ret_z (b := false) C h rfl rfl rfl dX5_takes_88
  · replace hf := it_f zc1 hf
    refine lv_aload_n C.hx C.hb dX5_takes_42 rfl (lv_at hl 0 rfl) ?_
    obtain ⟨zr2, zq3, hf⟩ := bd_some hf
    have zm4 := c_X5_nextToken l G o_t (upn a_t 3 o_p1) N (hf := zq3)
    refine g_goV C h zm4.1 (is := [0, 1]) rfl rfl (g_runV C h (is := [0, 1]) rfl rfl (As := []) (rest := []) (zm4.2 _) vf_X5_53 0 0 rfl rfl hl.1 rfl rfl (Nat.le_of_ble_eq_true rfl) dX5_takes_43 ⟨Nat.le_of_ble_eq_true rfl, Nat.le_of_ble_eq_true rfl⟩ ⟨Nat.le_refl _, Nat.le_refl _⟩) (us2 := [uX5 G o_t (upn a_t 3 o_p1) zr2, uA G 200 o_p1 v_p1, uX9 G (a_t 0) a_t_draft v_t_draft]) rfl (fun H locs h => ?_)
    refine lv_aload_n C.hx C.hb dX5_takes_46 rfl (lv_at hl 0 rfl) ?_
    refine g_get C h fl_X5_35 0 0 rfl rfl (v := .int (zr2.1 6)) rfl dX5_takes_47 ?_
    refine lv_if_ne (tgt := 55) C.hx C.hb dX5_takes_50 (by decide) (fun zc5 => ?_) (fun zc5 => ?_)
    · replace hf := it_f zc5 hf
      refine lv_aload_n C.hx C.hb dX5_takes_55 rfl (lv_at hl 0 rfl) ?_
      obtain ⟨zr6, zq7, hf⟩ := bd_some hf
      have zm8 := c_X5_takesItem l G o_t (upn a_t 3 o_p1) a_t_draft N (hf := zq7)
      refine g_goI C h zm8.1 (is := [0, 2, 1]) rfl rfl (g_runV C h (is := [0, 2, 1]) rfl rfl (As := []) (rest := []) (zm8.2 _) vf_X5_56 0 0 rfl rfl hl.1 rfl rfl (Nat.le_of_ble_eq_true rfl) dX5_takes_56 ⟨Nat.le_of_ble_eq_true rfl, Nat.le_of_ble_eq_true rfl⟩ ⟨Nat.le_refl _, Nat.le_refl _⟩) (us2 := [uX5 G o_t (upn a_t 3 o_p1) zr6.2.1, uA G 200 o_p1 v_p1, uX9 G (a_t 0) a_t_draft zr6.2.2]) rfl (fun H locs h => ?_)
      refine lv_if_eq (tgt := 69) C.hx C.hb dX5_takes_59 (by decide) (fun zc9 => ?_) (fun zc9 => ?_)
      · replace hf := it_t zc9 hf
        refine lv_iconst (v := 0) C.hx C.hb dX5_takes_69 (by decide) ?_
        obtain rfl := Option.some.inj hf
        exact g_ret_z (b := false) C h rfl rfl rfl dX5_takes_70
      · replace hf := it_f zc9 hf
        refine lv_aload_n C.hx C.hb dX5_takes_62 rfl (lv_at hl 0 rfl) ?_
        obtain ⟨zr10, zq11, hf⟩ := bd_some hf
        have zm12 := c_X5_takesEndOfItem l G o_t (upn a_t 3 o_p1) N (hf := zq11)
        refine g_goI C h zm12.1 (is := [0, 1]) rfl rfl (g_runV C h (is := [0, 1]) rfl rfl (As := []) (rest := []) (zm12.2 _) vf_X5_60 0 0 rfl rfl hl.1 rfl rfl (Nat.le_of_ble_eq_true rfl) dX5_takes_63 ⟨Nat.le_of_ble_eq_true rfl, Nat.le_of_ble_eq_true rfl⟩ ⟨Nat.le_refl _, Nat.le_refl _⟩) (us2 := [uX5 G o_t (upn a_t 3 o_p1) zr10.2, uA G 200 o_p1 v_p1, uX9 G (a_t 0) a_t_draft zr6.2.2]) rfl (fun H locs h => ?_)
        refine lv_if_ne (tgt := 71) C.hx C.hb dX5_takes_66 (by decide) (fun zc13 => ?_) (fun zc13 => ?_)
        · replace hf := it_f zc13 hf
          refine lv_aload_n C.hx C.hb dX5_takes_71 rfl (lv_at hl 0 rfl) ?_
          refine lv_dup C.hx C.hb dX5_takes_72 rfl ?_
          refine g_get C h fl_X5_18 0 0 rfl rfl (v := .int (zr10.2.1 1)) rfl dX5_takes_73 ?_
          refine lv_iconst (v := 1) C.hx C.hb dX5_takes_76 (by decide) ?_
          refine lv_iadd C.hx C.hb dX5_takes_77 ?_
          refine g_put C h fp_X5_18 0 0 rfl rfl rfl rfl (Nat.le_of_ble_eq_true rfl) dX5_takes_78 (u' := uX5 G o_t (upn a_t 3 o_p1) (upi zr10.2 1 ((zr10.2.1 1) + 1))) (us' := [uX5 G o_t (upn a_t 3 o_p1) (upi zr10.2 1 ((zr10.2.1 1) + 1)), uA G 200 o_p1 v_p1, uX9 G (a_t 0) a_t_draft zr6.2.2]) rfl rfl (fun H locs h => ?_)
          refine lv_iinc (v := y3 + 1) (lv' := [(3, .int (y3 + 1)), (0, .ref o_t)]) C.hx C.hb dX5_takes_81 hl (k := 1) rfl rfl (by decide) rfl (fun ls hl => ?_)
          refine lv_goto (tgt := 34) C.hx C.hb dX5_takes_84 (by decide) ?_
          exact hg34 hf h (lv_sub hl [1, 0] rfl)
        · replace hf := it_t zc13 hf
          refine lv_iconst (v := 0) C.hx C.hb dX5_takes_69 (by decide) ?_
          obtain rfl := Option.some.inj hf
          exact g_ret_z (b := false) C h rfl rfl rfl dX5_takes_70
    · replace hf := it_t zc5 hf
      refine lv_iconst (v := 1) C.hx C.hb dX5_takes_53 (by decide) ?_
      obtain rfl := Option.some.inj hf
      exact g_ret_z (b := true) C h rfl rfl rfl dX5_takes_54
set_option maxRecDepth 100000 in
set_option maxHeartbeats 4000000 in
theorem l_X5_takes_34 {p : Program} {l : Launch} {e : Env} {s : State} {m : MethodId} {args : Array Value} {below : List Frame} {meth : Method} {c : Code} {G : GG} {A : Nat → Prop} {o_t o_p1 : Nat} {a_t a_t_draft : Nat → Nat} {N : Nat}  {res : Bool × US × US} (C : MC RX5 cX5_takes 4 (some .boolean) G A p s m args meth c)  : ∀ (k : Nat) {v_t : US} {v_p1 : Nat → Int32} {v_t_draft : US} {y3 : Int32}, f_X5_takes_34 N k v_t v_p1 v_t_draft y3 = some res → ∀ {H : Heap} {locs : List Loc} {ls : Array Slot}, HP G A s [uX5 G o_t (upn a_t 3 o_p1) v_t, uA G 200 o_p1 v_p1, uX9 G (a_t 0) a_t_draft v_t_draft] H locs → lv_has ls 4 [(0, .ref o_t), (3, .int y3)] → W p l e (rmm 7) s m args below meth c H locs 0 0 (QI below G A args s (b2i res.1) [uX5 G o_t (upn a_t 3 o_p1) res.2.1, uA G 200 o_p1 v_p1, uX9 G (a_t 0) a_t_draft res.2.2]) (F0 m 34 ls []) := by
  intro k
  induction k with
  | zero => intros; contradiction
  | succ k ih =>
    intro v_t v_p1 v_t_draft y3 hf H locs ls h hl
    exact w_X5_takes_34 (N := N) C ih hf h hl
set_option maxRecDepth 100000 in
set_option maxHeartbeats 4000000 in
theorem c_X5_takes (l : Launch) (G : GG) (o_t o_p1 : Nat) (a_t a_t_draft : Nat → Nat) (N : Nat) {v_t : US} {v_p1 : Nat → Int32} {v_t_draft : US} {x2 : Int32} {res : Bool × US × US} (hf : f_X5_takes N v_t v_p1 v_t_draft x2 = some res) : MI l yX5_takes cX5_takes 4 (some .boolean) 7 [.ref o_t, .ref o_p1, .int x2] G [uX5 G o_t a_t v_t, uA G 200 o_p1 v_p1, uX9 G (a_t 0) a_t_draft v_t_draft] (b2i res.1) [uX5 G o_t (upn a_t 3 o_p1) res.2.1, uA G 200 o_p1 v_p1, uX9 G (a_t 0) a_t_draft res.2.2] := by
  unfold f_X5_takes at hf
  refine MI.intro (by decide) rfl (Nat.le_of_ble_eq_true rfl) (fun p e s m args below meth c A ls C h hl => ?_)
  have C : MC RX5 cX5_takes 4 (some .boolean) G A p s m args meth c := C
  have hl : lv_has ls 4 [(0, .ref o_t), (1, .ref o_p1), (2, .int x2)] := hl
  refine lv_aload_n C.hx C.hb dX5_takes_0 rfl (lv_at hl 0 rfl) ?_
  refine lv_aload_n C.hx C.hb dX5_takes_1 rfl (lv_at hl 1 rfl) ?_
  refine g_put C h fp_X5_25 0 0 rfl rfl rfl rfl (Nat.le_of_ble_eq_true rfl) dX5_takes_2 (u' := uX5 G o_t (upn a_t 3 o_p1) v_t) (us' := [uX5 G o_t (upn a_t 3 o_p1) v_t, uA G 200 o_p1 v_p1, uX9 G (a_t 0) a_t_draft v_t_draft]) rfl rfl (fun H locs h => ?_)
  refine lv_aload_n C.hx C.hb dX5_takes_5 rfl (lv_at hl 0 rfl) ?_
  refine lv_iload_n C.hx C.hb dX5_takes_6 rfl (lv_at hl 2 rfl) ?_
  refine lv_aload_n C.hx C.hb dX5_takes_7 rfl (lv_at hl 1 rfl) ?_
  refine g_alen C h 1 0 rfl rfl (v := 200) rfl dX5_takes_8 ?_
  refine g_min C hl.1 ml_X5_44 ms_min mi_math mc_min (Nat.le_of_ble_eq_true rfl) (Nat.le_of_ble_eq_true rfl) ⟨Nat.le_refl _, Nat.le_refl _⟩ dX5_takes_9 (v := if 200 < x2 then 200 else x2) rfl ?_
  refine g_put C h fp_X5_29 0 0 rfl rfl rfl rfl (Nat.le_of_ble_eq_true rfl) dX5_takes_12 (u' := uX5 G o_t (upn a_t 3 o_p1) (upi v_t 4 (if 200 < x2 then 200 else x2))) (us' := [uX5 G o_t (upn a_t 3 o_p1) (upi v_t 4 (if 200 < x2 then 200 else x2)), uA G 200 o_p1 v_p1, uX9 G (a_t 0) a_t_draft v_t_draft]) rfl rfl (fun H locs h => ?_)
  refine lv_aload_n C.hx C.hb dX5_takes_15 rfl (lv_at hl 0 rfl) ?_
  refine lv_iconst (v := 0) C.hx C.hb dX5_takes_16 (by decide) ?_
  obtain ⟨zw1, hzw1, hf⟩ := bnd_some hf
  rw [← hzw1] at h
  refine g_put C h fp_X5_32 0 0 rfl rfl rfl rfl (Nat.le_of_ble_eq_true rfl) dX5_takes_17 (u' := uX5 G o_t (upn a_t 3 o_p1) (upi zw1 5 0)) (us' := [uX5 G o_t (upn a_t 3 o_p1) (upi zw1 5 0), uA G 200 o_p1 v_p1, uX9 G (a_t 0) a_t_draft v_t_draft]) rfl rfl (fun H locs h => ?_)
  refine lv_aload_n C.hx C.hb dX5_takes_20 rfl (lv_at hl 0 rfl) ?_
  refine lv_iconst (v := 0) C.hx C.hb dX5_takes_21 (by decide) ?_
  obtain ⟨zw2, hzw2, hf⟩ := bnd_some hf
  rw [← hzw2] at h
  refine g_put C h fp_X5_18 0 0 rfl rfl rfl rfl (Nat.le_of_ble_eq_true rfl) dX5_takes_22 (u' := uX5 G o_t (upn a_t 3 o_p1) (upi zw2 1 0)) (us' := [uX5 G o_t (upn a_t 3 o_p1) (upi zw2 1 0), uA G 200 o_p1 v_p1, uX9 G (a_t 0) a_t_draft v_t_draft]) rfl rfl (fun H locs h => ?_)
  refine lv_aload_n C.hx C.hb dX5_takes_25 rfl (lv_at hl 0 rfl) ?_
  refine g_get C h fl_X5_12 0 0 rfl rfl (v := .ref (a_t 0)) rfl dX5_takes_26 ?_
  obtain ⟨zr3, zq4, hf⟩ := bd_some hf
  have zm5 := c_X9_becomeEmpty l G (a_t 0) a_t_draft (hf := zq4)
  refine g_goV C h zm5.1 (is := [2]) rfl rfl (g_runV C h (is := [2]) rfl rfl (As := []) (rest := []) (zm5.2 _) vf_X5_50 2 0 rfl rfl hl.1 rfl rfl (Nat.le_of_ble_eq_true rfl) dX5_takes_29 ⟨Nat.le_of_ble_eq_true rfl, Nat.le_of_ble_eq_true rfl⟩ ⟨Nat.le_refl _, Nat.le_refl _⟩) (us2 := [uX5 G o_t (upn a_t 3 o_p1) (upi zw2 1 0), uA G 200 o_p1 v_p1, uX9 G (a_t 0) a_t_draft zr3]) rfl (fun H locs h => ?_)
  refine lv_iconst (v := 0) C.hx C.hb dX5_takes_32 (by decide) ?_
  refine lv_istore_n (lv' := [(3, .int 0), (0, .ref o_t), (1, .ref o_p1), (2, .int x2)]) C.hx C.hb dX5_takes_33 rfl hl (by decide) rfl (fun ls hl => ?_)
  exact l_X5_takes_34 C N hf h (lv_sub hl [1, 0] rfl)
